noncomputable def cpB (x h : ev_T) : Bool := @decide (cpt x h) (Classical.propDecidable _)
theorem cpB_iff {x h : ev_T} : cpB x h = true ↔ cpt x h := by
  unfold cpB
  exact @decide_eq_true_iff _ (Classical.propDecidable _)
theorem sols_mg {S : Nat → List Nat} : ∀ (ls : List lit_T) (e h : ev_T), (∀ l ∈ ls, l.1 = 0) → cpt e h → sols S ls (mg e h) = ((sols S ls e).filter (fun x => cpB x h)).map (fun x => mg x h)
  | [], e, h, _, hc => by simp [sols, cpB_iff.mpr hc]
  | l :: ls, e, h, hp, hc => by
    have h0 : l.1 = 0 := hp l List.mem_cons_self
    simp only [sols, if_pos h0, List.filter_flatMap, List.map_flatMap]
    refine congrArg (fun f => List.flatMap f (S l.2.1)) ?_
    funext key
    have a := un3_mg hc l.2.2 key
    cases q : un3 e l.2.2 key with
    | none =>
      rw [a.2.2 q]
      simp
    | some e' =>
      by_cases c1 : cpt e' h
      · rw [a.1 e' q c1]
        exact sols_mg ls e' h (fun l hl => hp l (List.mem_cons_of_mem _ hl)) c1
      · rw [a.2.1 e' q c1]
        dsimp only
        symm
        rw [List.map_eq_nil_iff, List.filter_eq_nil_iff]
        intro x hx
        rw [cpB_iff]
        exact fun q => c1 (cpt_ext (sols_ext hx) q)
/-- what is bound at the end: what was bound, and the variables of the positive literals -/
theorem sols_bound {S : Nat → List Nat} : ∀ {ls : List lit_T} {e x : ev_T} {k : Nat}, x ∈ sols S ls e → (e k ≠ none ∨ ∃ l ∈ ls, l.1 = 0 ∧ vin3 l.2.2 k) → x k ≠ none
  | [], e, x, k, h, hk => by
    simp only [sols, List.mem_singleton] at h
    rw [h]
    rcases hk with hk | ⟨l, hl, _⟩
    · exact hk
    · cases hl
  | l :: ls, e, x, k, h, hk => by
    simp only [sols] at h
    split at h
    · obtain ⟨key, -, hx⟩ := List.mem_flatMap.mp h
      cases hu : un3 e l.2.2 key with
      | none =>
        rw [hu] at hx
        cases hx
      | some e' =>
        rw [hu] at hx
        refine sols_bound hx ?_
        rcases hk with hk | ⟨l', hl', h0, hv⟩
        · refine Or.inl ?_
          cases he : e k with
          | none => exact absurd he hk
          | some v =>
            rw [un3_ext hu k v he]
            simp
        · rcases List.mem_cons.mp hl' with rfl | hl'
          · exact Or.inl (un3_bound hu hv)
          · exact Or.inr ⟨l', hl', h0, hv⟩
    · rename_i hn0
      split at h
      · refine sols_bound h ?_
        rcases hk with hk | ⟨l', hl', h0, hv⟩
        · exact Or.inl hk
        · rcases List.mem_cons.mp hl' with rfl | hl'
          · exact absurd h0 hn0
          · exact Or.inr ⟨l', hl', h0, hv⟩
      · cases h
theorem sols_only {S : Nat → List Nat} : ∀ {ls : List lit_T} {e x : ev_T} {k : Nat}, x ∈ sols S ls e → x k ≠ none → (e k ≠ none ∨ ∃ l ∈ ls, l.1 = 0 ∧ vin3 l.2.2 k)
  | [], e, x, k, h, hk => by
    simp only [sols, List.mem_singleton] at h
    rw [h] at hk
    exact Or.inl hk
  | l :: ls, e, x, k, h, hk => by
    simp only [sols] at h
    split at h
    · rename_i h0
      obtain ⟨key, -, hx⟩ := List.mem_flatMap.mp h
      cases hu : un3 e l.2.2 key with
      | none =>
        rw [hu] at hx
        cases hx
      | some e' =>
        rw [hu] at hx
        rcases sols_only hx hk with g | ⟨l', hl', g⟩
        · rcases un3_only hu g with g | g
          · exact Or.inl g
          · exact Or.inr ⟨l, List.mem_cons_self, h0, g⟩
        · exact Or.inr ⟨l', List.mem_cons_of_mem _ hl', g⟩
    · split at h
      · rcases sols_only h hk with g | ⟨l', hl', g⟩
        · exact Or.inl g
        · exact Or.inr ⟨l', List.mem_cons_of_mem _ hl', g⟩
      · cases h
/-- values stay below 1000 -/
def ev_ok (e : ev_T) : Prop := ∀ k v, e k = some v → v < 1000
theorem un1_ok {e e' : ev_T} {t v : Nat} (he : ev_ok e) (hv : v < 1000) (h : un1 e t v = some e') : ev_ok e' := by
  unfold un1 at h
  split at h
  · split at h
    · cases h
      exact he
    · cases h
  · cases q : e t with
    | none =>
      rw [q] at h
      cases h
      intro k w hk
      by_cases g : k = t
      · simp only [ev_set, if_pos g] at hk
        cases hk
        exact hv
      · simp only [ev_set, if_neg g] at hk
        exact he k w hk
    | some w =>
      rw [q] at h
      dsimp only at h
      split at h
      · cases h
        exact he
      · cases h
theorem un3_ok {e e' : ev_T} {ts : tm_T} {key : Nat} (he : ev_ok e) (hk : key < 1000000000) (h : un3 e ts key = some e') : ev_ok e' := by
  obtain ⟨e1, e2, h1, h2, h3⟩ := un3_some h
  exact un1_ok (un1_ok (un1_ok he (by omega) h1) (by omega) h2) (by omega) h3
def S_ok (S : Nat → List Nat) : Prop := ∀ r, ∀ key ∈ S r, key < 1000000000
theorem sols_ok {S : Nat → List Nat} (hS : S_ok S) : ∀ {ls : List lit_T} {e x : ev_T}, ev_ok e → x ∈ sols S ls e → ev_ok x
  | [], e, x, he, h => by
    simp only [sols, List.mem_singleton] at h
    rw [h]
    exact he
  | l :: ls, e, x, he, h => by
    simp only [sols] at h
    split at h
    · obtain ⟨key, hkey, hx⟩ := List.mem_flatMap.mp h
      cases hu : un3 e l.2.2 key with
      | none =>
        rw [hu] at hx
        cases hx
      | some e' =>
        rw [hu] at hx
        exact sols_ok hS (un3_ok he (hS _ key hkey) hu) hx
    · split at h
      · exact sols_ok hS he h
      · cases h
/-- a term of a rule: a variable, the mark or a number below 1000 -/
def tm_ok (t : Nat) : Prop := t < 1100
def tm3_ok (ts : tm_T) : Prop := tm_ok ts.1 ∧ tm_ok ts.2.1 ∧ tm_ok ts.2.2
theorem tv_lt {e : ev_T} (he : ev_ok e) {t : Nat} (ht : tm_ok t) : tv e t < 1000 := by
  unfold tv
  unfold tm_ok at ht
  split
  · omega
  · cases q : e t with
    | none => simp
    | some v => exact he t v q
theorem hk3_lt {e : ev_T} (he : ev_ok e) {ts : tm_T} (ht : tm3_ok ts) : hk3 e ts < 1000000000 := by
  have h1 := tv_lt he ht.1
  have h2 := tv_lt he ht.2.1
  have h3 := tv_lt he ht.2.2
  unfold hk3 pk3
  omega
theorem hk3_digits {e : ev_T} (he : ev_ok e) {ts : tm_T} (ht : tm3_ok ts) {key : Nat} : hk3 e ts = key ↔ tv e ts.1 = key / 1000000 ∧ tv e ts.2.1 = key / 1000 % 1000 ∧ tv e ts.2.2 = key % 1000 := by
  have h1 := tv_lt he ht.1
  have h2 := tv_lt he ht.2.1
  have h3 := tv_lt he ht.2.2
  unfold hk3 pk3
  omega
/-- terms without the mark -/
def no_mark (ts : tm_T) : Prop := (ts.1 < 26 ∨ 100 ≤ ts.1) ∧ (ts.2.1 < 26 ∨ 100 ≤ ts.2.1) ∧ (ts.2.2 < 26 ∨ 100 ≤ ts.2.2)
theorem un1_of {e x : ev_T} {t v : Nat} (hx : ext e x) (hv : tv x t = v) (hb : t < 26 → x t ≠ none) (hm : t < 26 ∨ 100 ≤ t) : ∃ e', un1 e t v = some e' ∧ ext e' x := by
  unfold un1
  unfold tv at hv
  by_cases h26 : 26 ≤ t
  · rw [if_pos h26] at hv ⊢
    exact ⟨e, by rw [if_pos (by omega)], hx⟩
  · rw [if_neg h26] at hv ⊢
    cases q : x t with
    | none => exact absurd q (hb (by omega))
    | some w =>
      rw [q] at hv
      have hw : w = v := hv
      subst hw
      cases q2 : e t with
      | none =>
        refine ⟨ev_set e t w, rfl, fun k u hk => ?_⟩
        by_cases g : k = t
        · simp only [ev_set, if_pos g] at hk
          cases hk
          rw [g]
          exact q
        · simp only [ev_set, if_neg g] at hk
          exact hx k u hk
      | some u =>
        have := hx t u q2
        rw [q] at this
        cases this
        exact ⟨e, by simp, hx⟩
theorem un3_of {e x : ev_T} {ts : tm_T} {key : Nat} (hx : ext e x) (hok : ev_ok x) (ht : tm3_ok ts) (hm : no_mark ts) (hb : ∀ k, vin3 ts k → x k ≠ none) (hk : hk3 x ts = key) : ∃ e', un3 e ts key = some e' ∧ ext e' x := by
  obtain ⟨v1, v2, v3⟩ := (hk3_digits hok ht).mp hk
  obtain ⟨e1, q1, x1⟩ := un1_of hx v1 (fun g => hb _ ⟨g, Or.inl rfl⟩) hm.1
  obtain ⟨e2, q2, x2⟩ := un1_of x1 v2 (fun g => hb _ ⟨g, Or.inr (Or.inl rfl)⟩) hm.2.1
  obtain ⟨e3, q3, x3⟩ := un1_of x2 v3 (fun g => hb _ ⟨g, Or.inr (Or.inr rfl)⟩) hm.2.2
  exact ⟨e3, by unfold un3; rw [q1, Option.bind_some, q2, Option.bind_some, q3], x3⟩
/-- THE HEAD FIRST: solutions with the head's row given are those that lead to it -/
theorem sols_head {S : Nat → List Nat} (hS : S_ok S) (ls : List lit_T) (hp : ∀ l ∈ ls, l.1 = 0) (hts : tm_T) (ht : tm3_ok hts) (hm : no_mark hts) (hsafe : ∀ k, vin3 hts k → ∃ l ∈ ls, vin3 l.2.2 k) (key : Nat) :
    (∀ h, un3 ev0 hts key = some h → sols S ls h = (sols S ls ev0).filter (fun x => decide (hk3 x hts = key))) ∧ (un3 ev0 hts key = none → (sols S ls ev0).filter (fun x => decide (hk3 x hts = key)) = []) := by
  have hok0 : ev_ok ev0 := fun k v q => by cases q
  have hbd : ∀ x ∈ sols S ls ev0, ∀ k, vin3 hts k → x k ≠ none := fun x hx k hk => by
    obtain ⟨l, hl, hv⟩ := hsafe k hk
    exact sols_bound hx (Or.inr ⟨l, hl, hp l hl, hv⟩)
  constructor
  · intro h hu
    have e1 := sols_mg (S := S) ls ev0 h hp (cpt_ev0 h)
    rw [mg_ev0] at e1
    rw [e1]
    have hc : ∀ x ∈ sols S ls ev0, cpB x h = decide (hk3 x hts = key) := by
      intro x hx
      have hxo := sols_ok hS hok0 hx
      rw [Bool.eq_iff_iff, cpB_iff, decide_eq_true_iff]
      constructor
      · intro hcp
        rw [← un3_key hu]
        have tvs : ∀ t, (t < 26 → vin3 hts t) → tv x t = tv h t := by
          intro t htv
          unfold tv
          split
          · rfl
          · rename_i g
            have a := hbd x hx t (htv (by omega))
            have b := un3_bound hu (htv (by omega))
            cases qa : x t with
            | none => exact absurd qa a
            | some v =>
              cases qb : h t with
              | none => exact absurd qb b
              | some w => rw [hcp t v w qa qb]
        unfold hk3
        rw [tvs hts.1 (fun g => ⟨g, Or.inl rfl⟩), tvs hts.2.1 (fun g => ⟨g, Or.inr (Or.inl rfl)⟩), tvs hts.2.2 (fun g => ⟨g, Or.inr (Or.inr rfl)⟩)]
      · intro hk
        obtain ⟨e', q, hx'⟩ := un3_of (e := ev0) (fun k v q => by cases q) hxo ht hm (fun k hk => hbd x hx k hk) hk
        rw [hu] at q
        cases q
        intro k v w h1 h2
        rw [hx' k w h2] at h1
        cases h1
        rfl
    rw [List.filter_congr hc]
    have : ∀ x ∈ (sols S ls ev0).filter (fun x => decide (hk3 x hts = key)), mg x h = x := by
      intro x hx
      refine mg_full (fun k hk => hbd x (List.mem_filter.mp hx).1 k ?_)
      rcases un3_only hu hk with g | g
      · exact absurd rfl g
      · exact g
    rw [List.map_congr_left this, List.map_id']
  · intro hu
    rw [List.filter_eq_nil_iff]
    intro x hx
    rw [decide_eq_true_iff]
    intro hk
    obtain ⟨e', q, _⟩ := un3_of (e := ev0) (fun k v q => by cases q) (sols_ok hS hok0 hx) ht hm (fun k hk => hbd x hx k hk) hk
    rw [hu] at q
    cases q
