theorem kd0 {σ : z_S} {b n : Nat} {l : lit_T} (h : at_L σ b l n) : z_I σ 2 b = 0 ↔ l.1 = 0 := by
  have := h.k2
  rw [h.kd]
  exact nI_eq (b := 0) (by omega) (by decide)
theorem cl_loose {σ : z_S} {ro h nh hb bb : Nat} {ts : tm_T} {c : Bool} {ls : List lit_T} {A bo : Nat → Nat} (hH : hd_L σ ro h ts c nh hb) (hB : bd_L σ ro ls A bb bo) (P : Int32 → z_S → Prop) (h1 : loose ts ls = true → P 1 σ) (h0 : loose ts ls = false → P 0 σ) : kp_Ru_hasLooseVariable ro σ P := by
  intro X12 hX
  have l5 := hB.l5
  refine ⟨hH.ty, hb, hH.rh, hH.at'.ty, ?_⟩
  have main : ∀ m j (v1 v2 : Int32), j + m = ls.length → (∀ k, k < 32 → (bi v1 k = true ↔ ∃ i, i < j ∧ (ls.getD i d_lit).1 = 0 ∧ vin3 (ls.getD i d_lit).2.2 k)) → (∀ k, k < 32 → (bi v2 k = true ↔ vin3 ts k ∨ ∃ i, i < j ∧ (ls.getD i d_lit).1 ≠ 0 ∧ vin3 (ls.getD i d_lit).2.2 k)) → X12 v1 v2 (nI j) σ := by
    intro m
    induction m with
    | zero =>
      intro j v1 v2 hj b1 b2
      have ep : ∀ k, k < 32 → (bi v1 k = true ↔ ∃ l ∈ ps_of ls, vin3 l.2.2 k) := fun k hk => by
        rw [b1 k hk]
        constructor
        · rintro ⟨i, q1, q2, q3⟩
          exact ⟨_, List.mem_filter.mpr ⟨gd_mem (by omega), by simpa using q2⟩, q3⟩
        · rintro ⟨l, q1, q2⟩
          obtain ⟨q3, q4⟩ := List.mem_filter.mp q1
          obtain ⟨i, hi, e⟩ := List.getElem_of_mem q3
          exact ⟨i, by omega, by rw [gd_eq _ _ hi, e]; simpa using q4, by rw [gd_eq _ _ hi, e]; exact q2⟩
      have et : ∀ k, k < 32 → (bi v2 k = true ↔ vin3 ts k ∨ ∃ l ∈ ts_of ls, vin3 l.2.2 k) := fun k hk => by
        rw [b2 k hk]
        refine or_congr Iff.rfl ?_
        constructor
        · rintro ⟨i, q1, q2, q3⟩
          exact ⟨_, List.mem_filter.mpr ⟨gd_mem (by omega), by simpa using q2⟩, q3⟩
        · rintro ⟨l, q1, q2⟩
          obtain ⟨q3, q4⟩ := List.mem_filter.mp q1
          obtain ⟨i, hi, e⟩ := List.getElem_of_mem q3
          exact ⟨i, by omega, by rw [gd_eq _ _ hi, e]; simpa using q4, by rw [gd_eq _ _ hi, e]; exact q2⟩
      refine hX _ _ _ _ ⟨hH.ty, ?_⟩
      rw [hB.sz]
      refine ⟨fun _ => ⟨fun z => h0 ?_, fun z => h1 ?_⟩, fun z => absurd (nI_le (by omega) (by omega)) z⟩
      · have hs := bi_sub.mp z
        cases hl : loose ts ls with
        | false => rfl
        | true =>
          obtain ⟨k, q1, q2⟩ := loose_iff.mp hl
          have hk : k < 26 := by
            rcases q1 with q1 | ⟨l, _, q1⟩
            · exact q1.1
            · exact q1.1
          exact absurd ((ep k (by omega)).mp (hs k (by omega) ((et k (by omega)).mpr q1))) q2
      · cases hl : loose ts ls with
        | true => rfl
        | false =>
          refine absurd (bi_sub.mpr (fun k hk q => ?_)) z
          refine Classical.byContradiction (fun hno => ?_)
          have : loose ts ls = true := loose_iff.mpr ⟨k, (et k hk).mp q, fun y => hno ((ep k hk).mpr y)⟩
          rw [hl] at this
          cases this
    | succ m ih =>
      intro j v1 v2 hj b1 b2
      have hjl : j < ls.length := by omega
      obtain ⟨q1, n, hA, _⟩ := hB.bo j hjl
      have q1' : z_Q σ 14 bb (nI j).toNatClampNeg = some (bo j) := by rw [cl_nI (by omega)]; exact q1
      refine hX _ _ _ _ ⟨hH.ty, ?_⟩
      rw [hB.sz]
      refine ⟨fun z => absurd z (nI_ge (by omega) (by omega)), fun _ => ⟨hH.ty, bb, hB.rb, 5, 14, hB.tb, vp_in_nI (by omega) (by decide), bo j, q1', hA.ty, ?_⟩⟩
      rw [kd0 hA, nI_1]
      refine ⟨fun z => ⟨hH.ty, bb, hB.rb, 5, 14, hB.tb, vp_in_nI (by omega) (by decide), bo j, q1', hA.ty, ih (j + 1) _ _ (by omega) (fun k hk => ?_) (fun k hk => ?_)⟩, fun z => ⟨hH.ty, bb, hB.rb, 5, 14, hB.tb, vp_in_nI (by omega) (by decide), bo j, q1', hA.ty, ih (j + 1) _ _ (by omega) (fun k hk => ?_) (fun k hk => ?_)⟩⟩
      · rw [b1 k hk]
        constructor
        · rintro ⟨i, y1, y2, y3⟩
          exact ⟨i, by omega, y2, y3⟩
        · rintro ⟨i, y1, y2, y3⟩
          by_cases w : i = j
          · rw [w] at y2; exact absurd y2 z
          · exact ⟨i, by omega, y2, y3⟩
      · rw [bi_or2 _ _ hk, Bool.or_eq_true, b2 k hk, hA.lt k hk]
        constructor
        · rintro ((y | ⟨i, y1, y2, y3⟩) | y)
          · exact Or.inl y
          · exact Or.inr ⟨i, by omega, y2, y3⟩
          · exact Or.inr ⟨j, by omega, z, y⟩
        · rintro (y | ⟨i, y1, y2, y3⟩)
          · exact Or.inl (Or.inl y)
          · by_cases w : i = j
            · rw [w] at y3; exact Or.inr y3
            · exact Or.inl (Or.inr ⟨i, by omega, y2, y3⟩)
      · rw [bi_or2 _ _ hk, Bool.or_eq_true, b1 k hk, hA.lt k hk]
        constructor
        · rintro (⟨i, y1, y2, y3⟩ | y)
          · exact ⟨i, by omega, y2, y3⟩
          · exact ⟨j, by omega, z, y⟩
        · rintro ⟨i, y1, y2, y3⟩
          by_cases w : i = j
          · rw [w] at y3; exact Or.inr y3
          · exact Or.inl ⟨i, by omega, y2, y3⟩
      · rw [b2 k hk]
        refine or_congr Iff.rfl ?_
        constructor
        · rintro ⟨i, y1, y2, y3⟩
          exact ⟨i, by omega, y2, y3⟩
        · rintro ⟨i, y1, y2, y3⟩
          by_cases w : i = j
          · rw [w] at y2; exact absurd z y2
          · exact ⟨i, by omega, y2, y3⟩
  refine main ls.length 0 _ _ (by omega) (fun k hk => ?_) (fun k hk => ?_)
  · rw [bi_0]
    exact ⟨(fun z => by cases z), fun ⟨i, y1, _⟩ => absurd y1 (Nat.not_lt_zero i)⟩
  · rw [hH.at'.lt k hk]
    exact ⟨fun z => Or.inl z, fun z => z.elim id (fun ⟨i, y1, _⟩ => absurd y1 (Nat.not_lt_zero i))⟩
/-- the literal that comes next -/
def fit (ls : List lit_T) (kn : Int32) (j : Nat) : Prop := (ls.getD j d_lit).1 ≠ 0 ∧ ∀ k, vin3 (ls.getD j d_lit).2.2 k → bi kn k = true
def nxc (ls : List lit_T) (kn : Int32) (i c : Nat) : Prop := i ≤ c ∧ c < ls.length ∧ (fit ls kn c ∨ ((ls.getD c d_lit).1 = 0 ∧ ∀ j, i ≤ j → j < c → (ls.getD j d_lit).1 ≠ 0) ∨ ∀ j, i ≤ j → j < ls.length → (ls.getD j d_lit).1 ≠ 0 ∧ ¬ fit ls kn j)
theorem cl_next {σ : z_S} {ro bb i : Nat} {ls : List lit_T} {A bo : Nat → Nat} {kn : Int32} (hB : bd_L σ ro ls A bb bo) (hi : i < ls.length) (P : Int32 → z_S → Prop) (hP : ∀ c, nxc ls kn i c → P (nI c) σ) : kp_Ru_nextLiteral ro (nI i) kn σ P := by
  intro X8 X50 h8 h50
  have l5 := hB.l5
  have main : ∀ m j c (v4 : Int32), j + m = ls.length → i ≤ j → (∀ y, i ≤ y → y < j → ¬ fit ls kn y) → ((v4 = 0 ∧ c = i ∧ ∀ y, i ≤ y → y < j → (ls.getD y d_lit).1 ≠ 0) ∨ (v4 = 1 ∧ i ≤ c ∧ c < j ∧ (ls.getD c d_lit).1 = 0 ∧ ∀ y, i ≤ y → y < c → (ls.getD y d_lit).1 ≠ 0)) → X8 (nI c) v4 (nI j) σ := by
    intro m
    induction m with
    | zero =>
      intro j c v4 hj hij hf hv
      refine h8 _ _ _ _ ⟨hB.ty, ?_⟩
      rw [hB.sz]
      refine ⟨fun _ => hP c ?_, fun z => absurd (nI_le (by omega) (by omega)) z⟩
      rcases hv with ⟨_, e, hv⟩ | ⟨_, y1, y2, y3, y4⟩
      · exact ⟨by omega, by omega, Or.inr (Or.inr (fun y a1 a2 => ⟨hv y a1 (by omega), hf y a1 (by omega)⟩))⟩
      · exact ⟨y1, by omega, Or.inr (Or.inl ⟨y3, y4⟩)⟩
    | succ m ih =>
      intro j c v4 hj hij hf hv
      have hjl : j < ls.length := by omega
      obtain ⟨q1, n, hA, _⟩ := hB.bo j hjl
      have q1' : z_Q σ 14 bb (nI j).toNatClampNeg = some (bo j) := by rw [cl_nI (by omega)]; exact q1
      refine h8 _ _ _ _ ⟨hB.ty, ?_⟩
      rw [hB.sz]
      refine ⟨fun z => absurd z (nI_ge (by omega) (by omega)), fun _ => ⟨hB.ty, bb, hB.rb, 5, 14, hB.tb, vp_in_nI (by omega) (by decide), bo j, q1', hA.ty, ?_⟩⟩
      have x50 : ¬ fit ls kn j → X50 (nI c) v4 (nI j) σ := fun hnf => by
        refine h50 _ _ _ _ ⟨hB.ty, bb, hB.rb, 5, 14, hB.tb, vp_in_nI (by omega) (by decide), bo j, q1', hA.ty, ?_⟩
        rw [kd0 hA, nI_1]
        have hf' : ∀ y, i ≤ y → y < j + 1 → ¬ fit ls kn y := fun y a1 a2 => by
          by_cases w : y = j
          · rw [w]; exact hnf
          · exact hf y a1 (by omega)
        refine ⟨fun z => ih (j + 1) c v4 (by omega) (by omega) hf' ?_, fun z => ⟨fun z4 => ih (j + 1) c v4 (by omega) (by omega) hf' ?_, fun z4 => ih (j + 1) j 1 (by omega) (by omega) hf' ?_⟩⟩
        · rcases hv with ⟨a1, a2, a3⟩ | ⟨a1, a2, a3, a4, a5⟩
          · refine Or.inl ⟨a1, a2, fun y b1 b2 => ?_⟩
            by_cases w : y = j
            · rw [w]; exact z
            · exact a3 y b1 (by omega)
          · exact Or.inr ⟨a1, a2, by omega, a4, a5⟩
        · rcases hv with ⟨a1, _⟩ | ⟨a1, a2, a3, a4, a5⟩
          · exact absurd a1 z4
          · exact Or.inr ⟨a1, a2, by omega, a4, a5⟩
        · rcases hv with ⟨a1, a2, a3⟩ | ⟨a1, _⟩
          · exact Or.inr ⟨rfl, hij, by omega, z, fun y b1 b2 => a3 y b1 b2⟩
          · rw [a1] at z4; cases z4
      rw [kd0 hA]
      refine ⟨fun z => x50 (fun w => w.1 z), fun z => ⟨hB.ty, bb, hB.rb, 5, 14, hB.tb, vp_in_nI (by omega) (by decide), bo j, q1', hA.ty, ?_⟩⟩
      have hfit : (z_I σ 5 (bo j) &&& (kn ^^^ (-1 : Int32))) = 0 ↔ fit ls kn j := by
        rw [bi_sub]
        constructor
        · intro w
          exact ⟨z, fun k hk => w k (by have := hk.1; omega) ((hA.lt k (by have := hk.1; omega)).mpr hk)⟩
        · intro w k hk y
          exact w.2 k ((hA.lt k hk).mp y)
      rw [hfit]
      exact ⟨fun w => x50 w, fun w => hP j ⟨hij, hjl, Or.inl w⟩⟩
  exact main (ls.length - i) i i 0 (by omega) (Nat.le_refl _) (fun y a1 a2 => by omega) (Or.inl ⟨rfl, rfl, fun y a1 a2 => by omega⟩)
