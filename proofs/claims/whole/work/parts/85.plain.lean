/-! ROWS OF A PLAIN RULE: what the search adds, and that it misses none -/
theorem al_b_add : ∀ (l : al_T) (key k : Nat) (d : Int), al_s l → al_b l k ≤ al_b (al_add l key d) k
  | [], key, k, d, _ => by rw [al_b_nil]; exact Nat.zero_le _
  | p :: r, key, k, d, hs => by
    have ih := al_b_add r key k d (List.pairwise_cons.mp hs).2
    unfold al_add
    by_cases h1 : p.1 < key
    · rw [if_pos h1, al_b_cons, al_b_cons]
      split
      · omega
      · exact Nat.le_refl _
    · rw [if_neg h1]
      by_cases h2 : p.1 = key
      · rw [if_pos h2, al_b_cons, al_b_cons, h2]
        exact Nat.le_refl _
      · rw [if_neg h2, al_b_cons, al_b_cons, al_b_cons]
        repeat' split
        all_goals omega
theorem al_add_in {l : al_T} {key k : Nat} {d : Int} : al_in (al_add l key d) k ↔ al_in l k ∨ k = key := by
  constructor
  · rintro ⟨q, hq, e⟩
    rcases al_add_mem hq with h | h
    · exact Or.inl ⟨q, h, e⟩
    · exact Or.inr (by rw [← e, h])
  · intro h
    induction l with
    | nil =>
      rcases h with ⟨q, hq, _⟩ | h
      · exact absurd hq List.not_mem_nil
      · exact ⟨(key, d), by simp [al_add], h.symm⟩
    | cons p r ih =>
      unfold al_add
      split
      · rcases h with ⟨q, hq, e⟩ | h
        · rcases List.mem_cons.mp hq with rfl | hq
          · exact ⟨q, List.mem_cons_self, e⟩
          · obtain ⟨q', h1, h2⟩ := ih (Or.inl ⟨q, hq, e⟩)
            exact ⟨q', List.mem_cons_of_mem _ h1, h2⟩
        · obtain ⟨q', h1, h2⟩ := ih (Or.inr h)
          exact ⟨q', List.mem_cons_of_mem _ h1, h2⟩
      · split
        · rename_i hpk
          rcases h with ⟨q, hq, e⟩ | h
          · rcases List.mem_cons.mp hq with rfl | hq
            · exact ⟨(key, q.2 + d), List.mem_cons_self, by rw [← e]; exact hpk.symm⟩
            · exact ⟨q, List.mem_cons_of_mem _ hq, e⟩
          · exact ⟨(key, p.2 + d), List.mem_cons_self, h.symm⟩
        · rcases h with ⟨q, hq, e⟩ | h
          · exact ⟨q, List.mem_cons_of_mem _ hq, e⟩
          · exact ⟨(key, d), List.mem_cons_self, h.symm⟩
theorem al_add_one : ∀ {l : al_T} {key : Nat}, ¬ al_in l key → ∀ q ∈ al_add l key 1, q ∈ l ∨ q = (key, 1)
  | [], key, _, q, hq => by
    have : q = (key, 1) := by simpa [al_add] using hq
    exact Or.inr this
  | p :: r, key, hn, q, hq => by
    unfold al_add at hq
    have hn' : ¬ al_in r key := fun ⟨y, hy, e⟩ => hn ⟨y, List.mem_cons_of_mem _ hy, e⟩
    split at hq
    · rcases List.mem_cons.mp hq with rfl | hq
      · exact Or.inl List.mem_cons_self
      · rcases al_add_one hn' q hq with h | h
        · exact Or.inl (List.mem_cons_of_mem _ h)
        · exact Or.inr h
    · split at hq
      · rename_i h
        exact absurd ⟨p, List.mem_cons_self, h⟩ hn
      · rcases List.mem_cons.mp hq with h | h
        · exact Or.inr h
        · exact Or.inl h
theorem sols_mono {S S' : Nat → List Nat} : ∀ {ls : List lit_T} {e x : ev_T}, (∀ l ∈ ls, l.1 = 0 → ∀ k ∈ S l.2.1, k ∈ S' l.2.1) → (∀ l ∈ ls, l.1 = 1 → ∀ k, k ∈ S l.2.1 ↔ k ∈ S' l.2.1) → x ∈ sols S ls e → x ∈ sols S' ls e
  | [], e, x, _, _, h => h
  | l :: ls, e, x, hp, hn, h => by
    have ih : ∀ {e}, x ∈ sols S ls e → x ∈ sols S' ls e := fun {e} q => sols_mono (fun l' hl' => hp l' (List.mem_cons_of_mem _ hl')) (fun l' hl' => hn l' (List.mem_cons_of_mem _ hl')) q
    unfold sols at h ⊢
    by_cases h0 : l.1 = 0
    · rw [if_pos h0] at h ⊢
      obtain ⟨key, hk, h⟩ := List.mem_flatMap.mp h
      refine List.mem_flatMap.mpr ⟨key, hp l List.mem_cons_self h0 key hk, ?_⟩
      cases hu : un3 e l.2.2 key with
      | none => rw [hu] at h; exact absurd h List.not_mem_nil
      | some e' => rw [hu] at h; exact ih h
    · rw [if_neg h0] at h ⊢
      have ht : tst S e l = tst S' e l := by
        unfold tst
        by_cases h1 : l.1 = 1
        · rw [if_pos h1, if_pos h1, decide_eq_decide]
          exact not_congr (hn l List.mem_cons_self h1 _)
        · rw [if_neg h1, if_neg h1]
      rw [← ht]
      split at h
      · rename_i h1
        rw [if_pos h1]; exact ih h
      · exact absurd h List.not_mem_nil
theorem tests_ok_mono : ∀ {ls : List lit_T} {B B' : Nat → Prop}, (∀ k, B k → B' k) → tests_ok ls B → tests_ok ls B'
  | [], _, _, _, _ => trivial
  | l :: ls, B, B', h, ht => by
    unfold tests_ok at ht ⊢
    split
    · rename_i h0
      rw [if_pos h0] at ht
      exact tests_ok_mono (fun k hk => hk.imp (h k) id) ht
    · rename_i h0
      rw [if_neg h0] at ht
      exact ⟨fun k hk => h k (ht.1 k hk), tests_ok_mono h ht.2⟩
theorem dg_hk {e : ev_T} (he : ev_ok e) {ts : tm_T} (ht : tm3_ok ts) (i : Nat) (hi : i < 3) : dg (hk3 e ts) i = tv e (tmi ts i) := by
  obtain ⟨h1, h2, h3⟩ := (hk3_digits he ht (key := hk3 e ts)).mp rfl
  rcases (show i = 0 ∨ i = 1 ∨ i = 2 by omega) with rfl | rfl | rfl
  · exact h1.symm
  · exact h2.symm
  · exact h3.symm
theorem kar_hk {e : ev_T} (he : ev_ok e) {ts : tm_T} (ht : tm3_ok ts) {n : Nat} (hr : ∀ i, n ≤ i → i < 3 → tmi ts i = 100) : kar n (hk3 e ts) := ⟨hk3_lt he ht, fun i h1 h2 => by rw [dg_hk he ht i h2, hr i h1 h2]; rfl⟩
/-- where the mark stands -/
def mkp (ts : tm_T) : Nat := if ts.1 = 99 then 0 else if ts.2.1 = 99 then 1 else 2
def crow (S : Nat → List Nat) (r : ru_T) : List Nat := (grp (hd S r)).map (ck (mkp r.ts))
/-- rows that hold the rules of a layer, over what lies below -/
def Cl (rs : List ru_T) (lay : Nat → Nat) (L : Nat) (S0 : Nat → List Nat) (S : Nat → List Nat) : Prop := (S_ok S) ∧ (∀ v, lay v < L → ∀ k, k ∈ S v ↔ k ∈ S0 v) ∧ (∀ r ∈ rs, r.c = false → lay r.h = L → ∀ k ∈ hd S r, k ∈ S r.h) ∧ (∀ r ∈ rs, r.c = true → lay r.h = L → ∀ k ∈ crow S0 r, k ∈ S r.h)
theorem Cl.ok {rs : List ru_T} {lay : Nat → Nat} {L : Nat} {S0 : Nat → List Nat} {S : Nat → List Nat} (h' : Cl rs lay L S0 S) : S_ok S := h'.1
theorem Cl.lo {rs : List ru_T} {lay : Nat → Nat} {L : Nat} {S0 : Nat → List Nat} {S : Nat → List Nat} (h' : Cl rs lay L S0 S) : ∀ v, lay v < L → ∀ k, k ∈ S v ↔ k ∈ S0 v := h'.2.1
theorem Cl.cl {rs : List ru_T} {lay : Nat → Nat} {L : Nat} {S0 : Nat → List Nat} {S : Nat → List Nat} (h' : Cl rs lay L S0 S) : ∀ r ∈ rs, r.c = false → lay r.h = L → ∀ k ∈ hd S r, k ∈ S r.h := h'.2.2.1
theorem Cl.cr {rs : List ru_T} {lay : Nat → Nat} {L : Nat} {S0 : Nat → List Nat} {S : Nat → List Nat} (h' : Cl rs lay L S0 S) : ∀ r ∈ rs, r.c = true → lay r.h = L → ∀ k ∈ crow S0 r, k ∈ S r.h := h'.2.2.2
def tot (T : Nat → al_T) : Nat := (T 0).length + (T 1).length + (T 2).length + (T 3).length + (T 4).length + (T 5).length + (T 6).length + (T 7).length
theorem tot_set {T : Nat → al_T} {h : Nat} {l : al_T} (hh : h < 8) (hl : l.length = (T h).length + 1) : tot (tset T h l) = tot T + 1 := by
  rcases (show h = 0 ∨ h = 1 ∨ h = 2 ∨ h = 3 ∨ h = 4 ∨ h = 5 ∨ h = 6 ∨ h = 7 by omega) with rfl | rfl | rfl | rfl | rfl | rfl | rfl | rfl <;> simp [tot, tset, hl] <;> omega
def Iv (rs : List ru_T) (lay : Nat → Nat) (L : Nat) (A : Nat → Nat) (T0 : Nat → al_T) (g : gs_T) : Prop := (∀ v, 8 ≤ v → g.T v = []) ∧ (∀ v, al_s (g.T v) ∧ al_k (g.T v)) ∧ (∀ v, lay v ≠ L → g.T v = T0 v) ∧ (∀ v, v < 8 → ∀ p ∈ g.T v, kar (A v) p.1) ∧ (g.fl = false → ∀ v, v < 8 → (g.T v).length ≤ 40) ∧ (∀ v, v < 8 → (g.T v).length ≤ 41) ∧ (∀ v, v < 8 → lay v = L → ∀ p ∈ g.T v, p.2 = 1) ∧ (∀ S, Cl rs lay L (ks T0) S → ∀ v, ∀ k ∈ ks g.T v, k ∈ S v) ∧ (g.fl = false → (∀ v k, lay v = L → (k ∈ ks g.T v ↔ (v, k) ∈ g.q)) ∧ g.q.length ≤ tot g.T) ∧ (∀ p ∈ g.q, p.1 < 8 ∧ lay p.1 = L) ∧ (g.fl = true → ∃ v, v < 8 ∧ lay v = L ∧ 40 < (g.T v).length)
theorem Iv.t8 {rs : List ru_T} {lay : Nat → Nat} {L : Nat} {A : Nat → Nat} {T0 : Nat → al_T} {g : gs_T} (h' : Iv rs lay L A T0 g) : ∀ v, 8 ≤ v → g.T v = [] := h'.1
theorem Iv.srt {rs : List ru_T} {lay : Nat → Nat} {L : Nat} {A : Nat → Nat} {T0 : Nat → al_T} {g : gs_T} (h' : Iv rs lay L A T0 g) : ∀ v, al_s (g.T v) ∧ al_k (g.T v) := h'.2.1
theorem Iv.lo {rs : List ru_T} {lay : Nat → Nat} {L : Nat} {A : Nat → Nat} {T0 : Nat → al_T} {g : gs_T} (h' : Iv rs lay L A T0 g) : ∀ v, lay v ≠ L → g.T v = T0 v := h'.2.2.1
theorem Iv.kr {rs : List ru_T} {lay : Nat → Nat} {L : Nat} {A : Nat → Nat} {T0 : Nat → al_T} {g : gs_T} (h' : Iv rs lay L A T0 g) : ∀ v, v < 8 → ∀ p ∈ g.T v, kar (A v) p.1 := h'.2.2.2.1
theorem Iv.c40 {rs : List ru_T} {lay : Nat → Nat} {L : Nat} {A : Nat → Nat} {T0 : Nat → al_T} {g : gs_T} (h' : Iv rs lay L A T0 g) : g.fl = false → ∀ v, v < 8 → (g.T v).length ≤ 40 := h'.2.2.2.2.1
theorem Iv.m41 {rs : List ru_T} {lay : Nat → Nat} {L : Nat} {A : Nat → Nat} {T0 : Nat → al_T} {g : gs_T} (h' : Iv rs lay L A T0 g) : ∀ v, v < 8 → (g.T v).length ≤ 41 := h'.2.2.2.2.2.1
theorem Iv.one {rs : List ru_T} {lay : Nat → Nat} {L : Nat} {A : Nat → Nat} {T0 : Nat → al_T} {g : gs_T} (h' : Iv rs lay L A T0 g) : ∀ v, v < 8 → lay v = L → ∀ p ∈ g.T v, p.2 = 1 := h'.2.2.2.2.2.2.1
theorem Iv.snd {rs : List ru_T} {lay : Nat → Nat} {L : Nat} {A : Nat → Nat} {T0 : Nat → al_T} {g : gs_T} (h' : Iv rs lay L A T0 g) : ∀ S, Cl rs lay L (ks T0) S → ∀ v, ∀ k ∈ ks g.T v, k ∈ S v := h'.2.2.2.2.2.2.2.1
theorem Iv.qq {rs : List ru_T} {lay : Nat → Nat} {L : Nat} {A : Nat → Nat} {T0 : Nat → al_T} {g : gs_T} (h' : Iv rs lay L A T0 g) : g.fl = false → (∀ v k, lay v = L → (k ∈ ks g.T v ↔ (v, k) ∈ g.q)) ∧ g.q.length ≤ tot g.T := h'.2.2.2.2.2.2.2.2.1
theorem Iv.qv {rs : List ru_T} {lay : Nat → Nat} {L : Nat} {A : Nat → Nat} {T0 : Nat → al_T} {g : gs_T} (h' : Iv rs lay L A T0 g) : ∀ p ∈ g.q, p.1 < 8 ∧ lay p.1 = L := h'.2.2.2.2.2.2.2.2.2.1
theorem Iv.fu {rs : List ru_T} {lay : Nat → Nat} {L : Nat} {A : Nat → Nat} {T0 : Nat → al_T} {g : gs_T} (h' : Iv rs lay L A T0 g) : g.fl = true → ∃ v, v < 8 ∧ lay v = L ∧ 40 < (g.T v).length := h'.2.2.2.2.2.2.2.2.2.2
/-- growth -/
def le_g (h : Nat) (g g' : gs_T) : Prop := (∀ v k, al_b (g.T v) k ≤ al_b (g'.T v) k) ∧ (∀ v k, k ∈ ks g.T v → k ∈ ks g'.T v) ∧ (∃ z, g'.q = g.q ++ z) ∧ (∀ v, v ≠ h → g'.T v = g.T v)
theorem le_g.b {h : Nat} {g g' : gs_T} (h' : le_g h g g') : ∀ v k, al_b (g.T v) k ≤ al_b (g'.T v) k := h'.1
theorem le_g.s {h : Nat} {g g' : gs_T} (h' : le_g h g g') : ∀ v k, k ∈ ks g.T v → k ∈ ks g'.T v := h'.2.1
theorem le_g.q {h : Nat} {g g' : gs_T} (h' : le_g h g g') : ∃ z, g'.q = g.q ++ z := h'.2.2.1
theorem le_g.o {h : Nat} {g g' : gs_T} (h' : le_g h g g') : ∀ v, v ≠ h → g'.T v = g.T v := h'.2.2.2
theorem le_g_rf (h : Nat) (g : gs_T) : le_g h g g := ⟨fun _ _ => Nat.le_refl _, fun _ _ q => q, ⟨[], by simp⟩, fun _ _ => rfl⟩
theorem le_g_tr {h : Nat} {a b c : gs_T} (h1 : le_g h a b) (h2 : le_g h b c) : le_g h a c := by
  obtain ⟨z, hz⟩ := h1.q
  obtain ⟨y, hy⟩ := h2.q
  exact ⟨fun v k => Nat.le_trans (h1.b v k) (h2.b v k), fun v k q => h2.s v k (h1.s v k q), ⟨z ++ y, by rw [hy, hz, List.append_assoc]⟩, fun v hv => (h2.o v hv).trans (h1.o v hv)⟩
/-- the literals in the program's order -/
def arr (r : ru_T) (as : List lit_T) : Prop := (ps_of as = ps_of r.ls) ∧ (∀ l, l ∈ as ↔ l ∈ r.ls) ∧ (tests_ok as (fun _ => False)) ∧ (as.length = r.ls.length)
theorem arr.ps {r : ru_T} {as : List lit_T} (h' : arr r as) : ps_of as = ps_of r.ls := h'.1
theorem arr.ts {r : ru_T} {as : List lit_T} (h' : arr r as) : ∀ l, l ∈ as ↔ l ∈ r.ls := h'.2.1
theorem arr.ok {r : ru_T} {as : List lit_T} (h' : arr r as) : tests_ok as (fun _ => False) := h'.2.2.1
theorem arr.len {r : ru_T} {as : List lit_T} (h' : arr r as) : as.length = r.ls.length := h'.2.2.2
theorem arr_tests {r : ru_T} {as : List lit_T} (h : arr r as) (S : Nat → List Nat) (x : ev_T) : alltests S as x = alltests S r.ls x := by
  unfold alltests ts_of
  rw [Bool.eq_iff_iff, List.all_eq_true, List.all_eq_true]
  exact ⟨fun q l hl => q l (List.mem_filter.mpr ⟨(h.ts l).mpr (List.mem_filter.mp hl).1, (List.mem_filter.mp hl).2⟩), fun q l hl => q l (List.mem_filter.mpr ⟨(h.ts l).mp (List.mem_filter.mp hl).1, (List.mem_filter.mp hl).2⟩)⟩
theorem arr_sols {r : ru_T} {as : List lit_T} (h : arr r as) (S : Nat → List Nat) : sols S as ev0 = hsol S r := by
  rw [sols_split as ev0 (fun _ => False) (fun _ q => q.elim) h.ok, h.ps]
  unfold hsol
  congr 1
  funext x
  exact arr_tests h S x
/-- with some variables given, a solution is one still -/
theorem arr_from {r : ru_T} (hr : ru_ok r) {as : List lit_T} (h : arr r as) {S : Nat → List Nat} {e x : ev_T} (hx : ev_ok x) (hd : ∀ k, e k ≠ none → ∃ l ∈ ps_of r.ls, vin3 l.2.2 k) : x ∈ sols S as e ↔ ext e x ∧ sat S r x := by
  rw [sols_split as e (fun _ => False) (fun _ q => q.elim) h.ok, List.mem_filter, h.ps, sols_mem (ps_lit hr) hx, arr_tests h]
  unfold sat
  constructor
  · rintro ⟨⟨h1, h2, h3, h4⟩, h5⟩
    exact ⟨h1, fun k hk => (h2 k hk).elim (hd k) id, h3, h4, h5⟩
  · rintro ⟨h1, h2, h3, h4, h5⟩
    exact ⟨⟨h1, fun k hk => Or.inr (h2 k hk), h3, h4⟩, h5⟩
