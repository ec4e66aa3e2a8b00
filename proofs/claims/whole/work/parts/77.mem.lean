/-! WHO IS A SOLUTION: by its rows and tests, without an order -/
theorem hk3_ext {e e' : ev_T} (h : ext e e') {ts : tm_T} (hb : ∀ k, vin3 ts k → e k ≠ none) : hk3 e' ts = hk3 e ts := by
  unfold hk3
  rw [tv_ext h (t := ts.1) (fun q => hb _ ⟨q, Or.inl rfl⟩), tv_ext h (t := ts.2.1) (fun q => hb _ ⟨q, Or.inr (Or.inl rfl)⟩), tv_ext h (t := ts.2.2) (fun q => hb _ ⟨q, Or.inr (Or.inr rfl)⟩)]
theorem sols_mem {S : Nat → List Nat} : ∀ {ps : List lit_T} {e x : ev_T}, (∀ l ∈ ps, l.1 = 0 ∧ tm3_ok l.2.2 ∧ no_mark l.2.2) → ev_ok x → (x ∈ sols S ps e ↔ ext e x ∧ (∀ k, x k ≠ none → e k ≠ none ∨ ∃ l ∈ ps, vin3 l.2.2 k) ∧ (∀ l ∈ ps, ∀ k, vin3 l.2.2 k → x k ≠ none) ∧ ∀ l ∈ ps, hk3 x l.2.2 ∈ S l.2.1)
  | [], e, x, _, _ => by
    constructor
    · intro h
      have h : x = e := by simpa [sols] using h
      subst h
      exact ⟨ext_rf _, fun k hk => Or.inl hk, fun l hl => absurd hl List.not_mem_nil, fun l hl => absurd hl List.not_mem_nil⟩
    · rintro ⟨h1, h2, _, _⟩
      have : x = e := by
        funext k
        cases hx : x k with
        | none =>
          cases he : e k with
          | none => rfl
          | some v => rw [h1 k v he] at hx; cases hx
        | some v =>
          rcases h2 k (by rw [hx]; exact fun q => by cases q) with h | ⟨l, hl, _⟩
          · cases he : e k with
            | none => exact absurd he h
            | some w => rw [h1 k w he] at hx; exact hx.symm
          · exact absurd hl List.not_mem_nil
      subst this
      simp [sols]
  | l :: ps, e, x, hp, hx => by
    have hl := hp l List.mem_cons_self
    have hps : ∀ l ∈ ps, l.1 = 0 ∧ tm3_ok l.2.2 ∧ no_mark l.2.2 := fun l' h' => hp l' (List.mem_cons_of_mem _ h')
    constructor
    · intro h
      unfold sols at h
      rw [if_pos hl.1] at h
      obtain ⟨key, hk, h⟩ := List.mem_flatMap.mp h
      cases hu : un3 e l.2.2 key with
      | none => rw [hu] at h; exact absurd h List.not_mem_nil
      | some e' =>
        rw [hu] at h
        obtain ⟨h1, h2, h3, h4⟩ := (sols_mem (S := S) hps hx).mp h
        have hbx : ∀ k, vin3 l.2.2 k → x k ≠ none := fun k hk => by
          have hb := un3_bound hu hk
          cases he' : e' k with
          | none => exact absurd he' hb
          | some v => rw [h1 k v he']; exact fun q => by cases q
        refine ⟨ext_tr (un3_ext hu) h1, fun k hk => ?_, fun l' hl' => ?_, fun l' hl' => ?_⟩
        · rcases h2 k hk with h | ⟨l', hl', hv⟩
          · rcases un3_only hu h with h | h
            · exact Or.inl h
            · exact Or.inr ⟨l, List.mem_cons_self, h⟩
          · exact Or.inr ⟨l', List.mem_cons_of_mem _ hl', hv⟩
        · rcases List.mem_cons.mp hl' with rfl | hl'
          · exact hbx
          · exact h3 l' hl'
        · rcases List.mem_cons.mp hl' with rfl | hl'
          · rw [hk3_ext h1 (fun k hk => un3_bound hu hk), un3_key hu]
            exact hk
          · exact h4 l' hl'
    · rintro ⟨h1, h2, h3, h4⟩
      obtain ⟨e', hu, he'⟩ := un3_of h1 hx hl.2.1 hl.2.2 (h3 l List.mem_cons_self) rfl
      unfold sols
      rw [if_pos hl.1]
      refine List.mem_flatMap.mpr ⟨_, h4 l List.mem_cons_self, ?_⟩
      rw [hu]
      refine (sols_mem (S := S) hps hx).mpr ⟨he', fun k hk => ?_, fun l' hl' => h3 l' (List.mem_cons_of_mem _ hl'), fun l' hl' => h4 l' (List.mem_cons_of_mem _ hl')⟩
      rcases h2 k hk with h | ⟨l', hl', hv⟩
      · cases he : e k with
        | none => exact absurd he h
        | some v => exact Or.inl (by rw [un3_ext hu k v he]; exact fun q => by cases q)
      · rcases List.mem_cons.mp hl' with rfl | hl'
        · exact Or.inl (un3_bound hu hv)
        · exact Or.inr ⟨l', hl', hv⟩
/-- a rule: its head's relation and terms, its literals, whether it counts -/
abbrev ru_T : Type := (Nat) × (tm_T) × (List lit_T) × (Bool)
abbrev ru_T.h (x : ru_T) : Nat := x.1
abbrev ru_T.ts (x : ru_T) : tm_T := x.2.1
abbrev ru_T.ls (x : ru_T) : List lit_T := x.2.2.1
abbrev ru_T.c (x : ru_T) : Bool := x.2.2.2
/-- what a rule's solutions put into its head -/
def hsol (S : Nat → List Nat) (r : ru_T) : List ev_T := (sols S (ps_of r.ls) ev0).filter (alltests S r.ls)
def hd (S : Nat → List Nat) (r : ru_T) : List Nat := (hsol S r).map (fun x => hk3 x r.ts)
def ru_ok (r : ru_T) : Prop := (r.h < 8) ∧ (r.ls.length ≤ 5) ∧ ((ps_of r.ls).length ≤ 3) ∧ (lits_safe r.ls) ∧ (∀ k, vin3 r.ts k → ∃ p ∈ ps_of r.ls, vin3 p.2.2 k) ∧ (∀ l ∈ r.ls, l.1 ≤ 2 ∧ l.2.1 < 256 ∧ (l.1 ≤ 1 → l.2.1 < 8) ∧ tm3_ok l.2.2 ∧ no_mark l.2.2) ∧ (tm3_ok r.ts) ∧ (r.c = false → no_mark r.ts) ∧ (r.c = true → ∃ mk, mk < 3 ∧ (∀ i, i < 3 → (tmi r.ts i = 99 ↔ i = mk)) ∧ (∀ i, i < 3 → tmi r.ts i < 26 ∨ 100 ≤ tmi r.ts i ∨ tmi r.ts i = 99) ∧ (∀ i, mk < i → i < 3 → tmi r.ts i = 100))
theorem ru_ok.hh {r : ru_T} (h' : ru_ok r) : r.h < 8 := h'.1
theorem ru_ok.l5 {r : ru_T} (h' : ru_ok r) : r.ls.length ≤ 5 := h'.2.1
theorem ru_ok.p3 {r : ru_T} (h' : ru_ok r) : (ps_of r.ls).length ≤ 3 := h'.2.2.1
theorem ru_ok.safe {r : ru_T} (h' : ru_ok r) : lits_safe r.ls := h'.2.2.2.1
theorem ru_ok.hsafe {r : ru_T} (h' : ru_ok r) : ∀ k, vin3 r.ts k → ∃ p ∈ ps_of r.ls, vin3 p.2.2 k := h'.2.2.2.2.1
theorem ru_ok.lit {r : ru_T} (h' : ru_ok r) : ∀ l ∈ r.ls, l.1 ≤ 2 ∧ l.2.1 < 256 ∧ (l.1 ≤ 1 → l.2.1 < 8) ∧ tm3_ok l.2.2 ∧ no_mark l.2.2 := h'.2.2.2.2.2.1
theorem ru_ok.hts {r : ru_T} (h' : ru_ok r) : tm3_ok r.ts := h'.2.2.2.2.2.2.1
theorem ru_ok.plain {r : ru_T} (h' : ru_ok r) : r.c = false → no_mark r.ts := h'.2.2.2.2.2.2.2.1
theorem ru_ok.cnt {r : ru_T} (h' : ru_ok r) : r.c = true → ∃ mk, mk < 3 ∧ (∀ i, i < 3 → (tmi r.ts i = 99 ↔ i = mk)) ∧ (∀ i, i < 3 → tmi r.ts i < 26 ∨ 100 ≤ tmi r.ts i ∨ tmi r.ts i = 99) ∧ (∀ i, mk < i → i < 3 → tmi r.ts i = 100) := h'.2.2.2.2.2.2.2.2
/-- layers keep a rule -/
def ly_ok (lay : Nat → Nat) (r : ru_T) : Prop := ∀ l ∈ r.ls, (l.1 = 0 → lay l.2.1 ≤ lay r.h ∧ (r.c = true → lay l.2.1 < lay r.h)) ∧ (l.1 = 1 → lay l.2.1 < lay r.h)
theorem ps_lit {r : ru_T} (h : ru_ok r) : ∀ l ∈ ps_of r.ls, l.1 = 0 ∧ tm3_ok l.2.2 ∧ no_mark l.2.2 := fun l hl => ⟨ps_pos hl, (h.lit l (List.mem_filter.mp hl).1).2.2.2⟩
/-- the solutions of a rule: their rows, their tests -/
def sat (S : Nat → List Nat) (r : ru_T) (x : ev_T) : Prop := (∀ k, x k ≠ none → ∃ l ∈ ps_of r.ls, vin3 l.2.2 k) ∧ (∀ l ∈ ps_of r.ls, ∀ k, vin3 l.2.2 k → x k ≠ none) ∧ (∀ l ∈ ps_of r.ls, hk3 x l.2.2 ∈ S l.2.1) ∧ alltests S r.ls x = true
theorem hsol_mem {S : Nat → List Nat} {r : ru_T} (hr : ru_ok r) {x : ev_T} (hx : ev_ok x) : x ∈ hsol S r ↔ sat S r x := by
  unfold hsol sat
  rw [List.mem_filter, sols_mem (ps_lit hr) hx]
  constructor
  · rintro ⟨⟨_, h2, h3, h4⟩, h5⟩
    exact ⟨fun k hk => (h2 k hk).resolve_left (fun q => q rfl), h3, h4, h5⟩
  · rintro ⟨h2, h3, h4, h5⟩
    exact ⟨⟨fun k v q => (by cases q), fun k hk => Or.inr (h2 k hk), h3, h4⟩, h5⟩
theorem ev0_ok : ev_ok ev0 := fun k v h => by cases h
theorem hsol_ok {S : Nat → List Nat} (hS : S_ok S) {r : ru_T} {x : ev_T} (h : x ∈ hsol S r) : ev_ok x := sols_ok hS ev0_ok (List.mem_filter.mp h).1
/-- more rows below, the same tests: more solutions -/
theorem alltests_congr {S S' : Nat → List Nat} {ls : List lit_T} {x : ev_T} (h : ∀ l ∈ ls, l.1 = 1 → ∀ k, k ∈ S l.2.1 ↔ k ∈ S' l.2.1) : alltests S ls x = alltests S' ls x := by
  unfold alltests
  rw [Bool.eq_iff_iff, List.all_eq_true, List.all_eq_true]
  have key : ∀ l ∈ ts_of ls, tst S x l = tst S' x l := fun l hl => by
    unfold tst
    by_cases h1 : l.1 = 1
    · rw [if_pos h1, if_pos h1]
      rw [decide_eq_decide]
      exact not_congr (h l (List.mem_filter.mp hl).1 h1 _)
    · rw [if_neg h1, if_neg h1]
  exact ⟨fun q l hl => by rw [← key l hl]; exact q l hl, fun q l hl => by rw [key l hl]; exact q l hl⟩
theorem sat_mono {S S' : Nat → List Nat} {r : ru_T} {x : ev_T} (hp : ∀ l ∈ r.ls, l.1 = 0 → ∀ k ∈ S l.2.1, k ∈ S' l.2.1) (hn : ∀ l ∈ r.ls, l.1 = 1 → ∀ k, k ∈ S l.2.1 ↔ k ∈ S' l.2.1) (h : sat S r x) : sat S' r x :=
  ⟨h.1, h.2.1, fun l hl => hp l (List.mem_filter.mp hl).1 (ps_pos hl) _ (h.2.2.1 l hl), by rw [← alltests_congr hn]; exact h.2.2.2⟩
theorem hd_mono {S S' : Nat → List Nat} (hS : S_ok S) {r : ru_T} (hr : ru_ok r) (hp : ∀ l ∈ r.ls, l.1 = 0 → ∀ k ∈ S l.2.1, k ∈ S' l.2.1) (hn : ∀ l ∈ r.ls, l.1 = 1 → ∀ k, k ∈ S l.2.1 ↔ k ∈ S' l.2.1) {k : Nat} (h : k ∈ hd S r) : k ∈ hd S' r := by
  obtain ⟨x, hx, rfl⟩ := List.mem_map.mp h
  have ho := hsol_ok hS hx
  exact List.mem_map.mpr ⟨x, (hsol_mem hr ho).mpr (sat_mono hp hn ((hsol_mem hr ho).mp hx)), rfl⟩
theorem hd_ok {S : Nat → List Nat} (hS : S_ok S) {r : ru_T} (hr : ru_ok r) {k : Nat} (h : k ∈ hd S r) : k < 1000000000 := by
  obtain ⟨x, hx, rfl⟩ := List.mem_map.mp h
  exact hk3_lt (hsol_ok hS hx) hr.hts
