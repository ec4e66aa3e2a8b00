/-! LAYERS -/
def bs (rs : List ru_T) (v : Nat) : Nat := if rs.any (fun r => decide (r.h = v)) then 1 else 0
def stp (r : ru_T) (l : lit_T) : Nat := if l.1 = 1 ∨ r.c = true then 1 else 0
def Sol (rs : List ru_T) (f : Nat → Nat) : Prop := (∀ v, bs rs v ≤ f v) ∧ ∀ r ∈ rs, ∀ l ∈ r.ls, l.1 ≠ 2 → f l.2.1 + stp r l ≤ f r.h
/-- a relation that must lie below itself -/
def rng (rs : List ru_T) : Prop := ∃ v u, edgS rs v u ∧ rea rs u v
theorem bs_le (rs : List ru_T) (v : Nat) : bs rs v ≤ 1 := by
  unfold bs
  split <;> omega
theorem sol_e {rs : List ru_T} {f : Nat → Nat} (h : Sol rs f) {v u : Nat} (he : edg rs v u) : f u ≤ f v := by
  obtain ⟨r, hr, e, l, hl, h1, h2⟩ := he
  have := h.2 r hr l hl h1
  rw [e, h2] at this
  omega
theorem sol_r {rs : List ru_T} {f : Nat → Nat} (h : Sol rs f) {v u : Nat} (he : rea rs v u) : f u ≤ f v := way_ind (P := fun v u => f u ≤ f v) (fun v u e => sol_e h e) (fun v w u h1 h2 => Nat.le_trans h2 h1) he
theorem sol_ring {rs : List ru_T} {f : Nat → Nat} (h : Sol rs f) (hl : ∀ r ∈ rs, ∀ l ∈ r.ls, l.1 ≤ 2) : ¬ rng rs := by
  rintro ⟨v, u, ⟨r, hr, e, l, hm, h1, h2⟩, h3⟩
  have a := sol_r h h3
  have b := h.2 r hr l hm (by rcases h1 with z | z <;> omega)
  rw [e, h2] at b
  have : stp r l = 1 := by
    unfold stp
    rw [if_pos (h1.elim Or.inl (fun y => Or.inr y.2))]
  omega
noncomputable def cb (p : Prop) : Bool := @decide p (Classical.propDecidable p)
theorem cb_t {p : Prop} : cb p = true ↔ p := @decide_eq_true_iff p (Classical.propDecidable p)
theorem cb_f {p : Prop} (h : ¬ p) : cb p = false := @decide_eq_false p (Classical.propDecidable p) h
/-- how many are reached -/
noncomputable def phi (rs : List ru_T) (v : Nat) : Nat := ((List.range 8).filter (fun u => cb (u = v ∨ rea rs v u))).length
theorem phi_le (rs : List ru_T) (v : Nat) : phi rs v ≤ 8 := by
  unfold phi
  exact Nat.le_trans (List.length_filter_le _ _) (by rw [List.length_range]; exact Nat.le_refl _)
theorem flt_sub {p q : Nat → Bool} : ∀ {l : List Nat}, (∀ x ∈ l, p x = true → q x = true) → (l.filter p).length ≤ (l.filter q).length
  | [], _ => Nat.le_refl _
  | x :: l, h => by
    have ih := flt_sub (l := l) (fun y hy => h y (List.mem_cons_of_mem _ hy))
    rw [List.filter_cons, List.filter_cons]
    have hx := h x List.mem_cons_self
    cases hp : p x with
    | true => rw [hx hp, if_pos rfl, if_pos rfl]; exact Nat.succ_le_succ ih
    | false =>
      rw [if_neg (by decide)]
      split
      · exact Nat.le_succ_of_le ih
      · exact ih
theorem flt_lt {p q : Nat → Bool} {y : Nat} : ∀ {l : List Nat}, (∀ x ∈ l, p x = true → q x = true) → y ∈ l → p y = false → q y = true → (l.filter p).length < (l.filter q).length
  | [], _, hy, _, _ => absurd hy List.not_mem_nil
  | x :: l, h, hy, h1, h2 => by
    have hs := flt_sub (l := l) (fun z hz => h z (List.mem_cons_of_mem _ hz))
    rw [List.filter_cons, List.filter_cons]
    by_cases z : y = x
    · rw [← z, h1, h2, if_neg (by decide), if_pos rfl]
      exact Nat.lt_succ_of_le hs
    · have ih := flt_lt (l := l) (fun w hw => h w (List.mem_cons_of_mem _ hw)) ((List.mem_cons.mp hy).resolve_left z) h1 h2
      have hx := h x List.mem_cons_self
      cases hp : p x with
      | true => rw [hx hp, if_pos rfl, if_pos rfl]; exact Nat.succ_lt_succ ih
      | false =>
        rw [if_neg (by decide)]
        split
        · exact Nat.lt_succ_of_lt ih
        · exact ih
theorem phi_sol {rs : List ru_T} (h8 : ∀ r ∈ rs, r.h < 8 ∧ ∀ l ∈ r.ls, l.1 ≤ 2 ∧ (l.1 ≤ 1 → l.2.1 < 8)) (hn : ¬ rng rs) : Sol rs (phi rs) := by
  have sub : ∀ v u, u < 8 → edg rs v u → ∀ x ∈ List.range 8, cb (x = u ∨ rea rs u x) = true → cb (x = v ∨ rea rs v x) = true := fun v u hu he x hx h => by
    have h := cb_t.mp h
    refine cb_t.mpr (Or.inr ?_)
    rcases h with z | z
    · rw [z]; exact rea_e he
    · exact rea_tr hu (rea_e he) z
  refine ⟨fun v => ?_, fun r hr l hl h2 => ?_⟩
  · by_cases z : rs.any (fun r => decide (r.h = v)) = true
    · obtain ⟨r, hr, e⟩ := List.any_eq_true.mp z
      have hv : v < 8 := by rw [← of_decide_eq_true e]; exact (h8 r hr).1
      have hm : v ∈ (List.range 8).filter (fun u => cb (u = v ∨ rea rs v u)) := List.mem_filter.mpr ⟨List.mem_range.mpr hv, cb_t.mpr (Or.inl rfl)⟩
      have := bs_le rs v
      have : 0 < phi rs v := List.length_pos_of_mem hm
      omega
    · unfold bs
      rw [if_neg z]
      exact Nat.zero_le _
  · obtain ⟨hh, hll⟩ := h8 r hr
    have hu : l.2.1 < 8 := (hll l hl).2 (by have := (hll l hl).1; omega)
    have he : edg rs r.h l.2.1 := ⟨r, hr, rfl, l, hl, h2, rfl⟩
    unfold stp
    split
    · rename_i hs
      have hS : edgS rs r.h l.2.1 := ⟨r, hr, rfl, l, hl, by
        have := (hll l hl).1
        rcases hs with z | z
        · exact Or.inl z
        · by_cases y : l.1 = 1
          · exact Or.inl y
          · exact Or.inr ⟨by omega, z⟩, rfl⟩
      have hnr : ¬ rea rs l.2.1 r.h := fun z => hn ⟨_, _, hS, z⟩
      refine flt_lt (y := r.h) (sub _ _ hu he) (List.mem_range.mpr hh) (cb_f (fun z => ?_)) (cb_t.mpr (Or.inl rfl))
      rcases z with z | z
      · rw [← z] at he
        rw [← z] at hnr
        exact hnr (rea_e he)
      · exact hnr z
    · exact flt_sub (sub _ _ hu he)
/-- one pass over the rules -/
def pass (rs : List ru_T) (x y : Nat → Nat) : Prop := (∀ v, x v ≤ y v) ∧ (∀ f, Sol rs f → (∀ v, x v ≤ f v) → ∀ v, y v ≤ f v) ∧ (∀ r ∈ rs, ∀ l ∈ r.ls, l.1 ≠ 2 → x l.2.1 + stp r l ≤ y r.h)
theorem pass.up {rs : List ru_T} {x y : Nat → Nat} (h' : pass rs x y) : ∀ v, x v ≤ y v := h'.1
theorem pass.lo {rs : List ru_T} {x y : Nat → Nat} (h' : pass rs x y) : ∀ f, Sol rs f → (∀ v, x v ≤ f v) → ∀ v, y v ≤ f v := h'.2.1
theorem pass.e {rs : List ru_T} {x y : Nat → Nat} (h' : pass rs x y) : ∀ r ∈ rs, ∀ l ∈ r.ls, l.1 ≠ 2 → x l.2.1 + stp r l ≤ y r.h := h'.2.2
def least (rs : List ru_T) (L : Nat → Nat) : Prop := Sol rs L ∧ ∀ f, Sol rs f → ∀ v, L v ≤ f v
/-- a pass that finds nothing is the end -/
theorem pass_fix {rs : List ru_T} {x : Nat → Nat} (hp : pass rs x x) (hb : ∀ v, bs rs v ≤ x v) (hlo : ∀ f, Sol rs f → ∀ v, x v ≤ f v) : least rs x := ⟨⟨hb, hp.e⟩, hlo⟩
/-- those at their layer grow -/
theorem pass_grow {rs : List ru_T} {x y L : Nat → Nat} (hp : pass rs x y) (hL : least rs L) (hb : ∀ v, bs rs v ≤ x v) (hx : ∀ v, x v ≤ L v) (hne : ∃ v, x v ≠ L v) : ∃ v, x v ≠ L v ∧ y v = L v := by
  refine Classical.byContradiction (fun hno => ?_)
  have hy : ∀ v, y v ≤ L v := hp.lo L hL.1 hx
  have hno : ∀ v, x v ≠ L v → y v ≠ L v := fun v h1 h2 => hno ⟨v, h1, h2⟩
  obtain ⟨v0, hv0⟩ := hne
  have hS : Sol rs (fun v => if x v = L v then L v else L v - 1) := by
    refine ⟨fun v => ?_, fun r hr l hl h2 => ?_⟩
    · dsimp only
      have := hb v
      have := hx v
      split
      · omega
      · omega
    · dsimp only
      have h1 := hL.1.2 r hr l hl h2
      have h3 := hp.e r hr l hl h2
      have a1 := hx r.h
      have a2 := hx l.2.1
      by_cases zv : x r.h = L r.h
      · rw [if_pos zv]
        split <;> omega
      · rw [if_neg zv]
        have := hno r.h zv
        have := hy r.h
        split
        · rename_i zu
          omega
        · omega
  have := hL.2 _ hS v0
  rw [if_neg hv0] at this
  have := hx v0
  omega
