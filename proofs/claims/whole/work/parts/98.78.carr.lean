theorem gdA {a b : List lit_T} {j : Nat} : (a ++ b).getD j d_lit = if j < a.length then a.getD j d_lit else b.getD (j - a.length) d_lit := by
  rw [List.getD_eq_getElem?_getD, List.getD_eq_getElem?_getD, List.getD_eq_getElem?_getD]
  by_cases z : j < a.length
  · rw [if_pos z, List.getElem?_append_left z]
  · rw [if_neg z, List.getElem?_append_right (by omega)]
theorem gdC {x : lit_T} {b : List lit_T} {j : Nat} : (x :: b).getD j d_lit = if j = 0 then x else b.getD (j - 1) d_lit := by
  cases j with
  | zero => rfl
  | succ j => rw [if_neg (by omega)]; rfl
theorem mv_ex {ls : List lit_T} {i c : Nat} (h1 : i ≤ c) (h2 : c < ls.length) : ∃ ls' : List lit_T, ls'.length = ls.length ∧ (∀ j, ls'.getD j d_lit = if j < i then ls.getD j d_lit else if j = i then ls.getD c d_lit else if j ≤ c then ls.getD (j - 1) d_lit else ls.getD j d_lit) ∧ (∀ l, l ∈ ls' ↔ l ∈ ls) ∧ (((ls.getD c d_lit).1 ≠ 0 ∨ ∀ j, i ≤ j → j < c → (ls.getD j d_lit).1 ≠ 0) → ps_of ls' = ps_of ls) := by
  obtain ⟨a, m, x, z, e, ha, hm⟩ : ∃ (a m : List lit_T) (x : lit_T) (z : List lit_T), ls = a ++ (m ++ x :: z) ∧ a.length = i ∧ m.length = c - i := by
    refine ⟨ls.take i, (ls.drop i).take (c - i), ls[c], ls.drop (c + 1), ?_, by rw [List.length_take]; omega, by rw [List.length_take, List.length_drop]; omega⟩
    rw [← List.drop_eq_getElem_cons h2]
    have e2 : (ls.drop i).drop (c - i) = ls.drop c := by rw [List.drop_drop]; congr 1; omega
    rw [← e2, List.take_append_drop, List.take_append_drop]
  have hc : ls.getD c d_lit = x := by
    rw [e, gdA, if_neg (by omega), gdA, if_neg (by omega), show c - a.length - m.length = 0 by omega]
    rfl
  refine ⟨a ++ (x :: (m ++ z)), by rw [e]; simp only [List.length_append, List.length_cons]; omega, fun j => ?_, fun l => ?_, fun h => ?_⟩
  · rw [hc]
    by_cases j1 : j < i
    · rw [if_pos j1, gdA, if_pos (by omega), e, gdA, if_pos (by omega)]
    · rw [if_neg j1, gdA, if_neg (by omega), gdC]
      by_cases j2 : j = i
      · rw [if_pos j2, if_pos (by omega)]
      · rw [if_neg j2, if_neg (by omega), gdA]
        by_cases j3 : j ≤ c
        · rw [if_pos j3, if_pos (by omega), e, gdA, if_neg (by omega), gdA, if_pos (by omega)]
          congr 1
          omega
        · rw [if_neg j3, if_neg (by omega), e, gdA, if_neg (by omega), gdA, if_neg (by omega), gdC, if_neg (by omega)]
          congr 1
          omega
  · rw [e]
    simp only [List.mem_append, List.mem_cons]
    constructor
    · rintro (q | q | q | q)
      · exact Or.inl q
      · exact Or.inr (Or.inr (Or.inl q))
      · exact Or.inr (Or.inl q)
      · exact Or.inr (Or.inr (Or.inr q))
    · rintro (q | q | q | q)
      · exact Or.inl q
      · exact Or.inr (Or.inr (Or.inl q))
      · exact Or.inr (Or.inl q)
      · exact Or.inr (Or.inr (Or.inr q))
  · rw [e]
    unfold ps_of
    simp only [List.filter_append, List.filter_cons]
    rcases h with h | h
    · rw [hc] at h
      rw [if_neg (by simpa using h), if_neg (by simpa using h)]
    · have hm0 : m.filter (fun l => decide (l.1 = 0)) = [] := by
        rw [List.filter_eq_nil_iff]
        intro l hl
        obtain ⟨y, hy, ey⟩ := List.getElem_of_mem hl
        have := h (i + y) (by omega) (by omega)
        rw [e, gdA, if_neg (by omega), gdA, if_pos (by omega), show i + y - a.length = y by omega, gd_eq _ _ hy, ey] at this
        simpa using this
      rw [hm0]
      rfl
/-- tests, by place -/
def tsi (ls : List lit_T) (i : Nat) : Prop := ∀ j, j < i → (ls.getD j d_lit).1 ≠ 0 → ∀ k, vin3 (ls.getD j d_lit).2.2 k → ∃ j', j' < j ∧ (ls.getD j' d_lit).1 = 0 ∧ vin3 (ls.getD j' d_lit).2.2 k
theorem tsi_ok : ∀ (ls : List lit_T) (B : Nat → Prop), (∀ j, j < ls.length → (ls.getD j d_lit).1 ≠ 0 → ∀ k, vin3 (ls.getD j d_lit).2.2 k → B k ∨ ∃ j', j' < j ∧ (ls.getD j' d_lit).1 = 0 ∧ vin3 (ls.getD j' d_lit).2.2 k) → tests_ok ls B
  | [], B, _ => trivial
  | l :: ls, B, h => by
    have h0 := h 0 (by show 0 < ls.length + 1; omega)
    unfold tests_ok
    by_cases z : l.1 = 0
    · rw [if_pos z]
      refine tsi_ok ls _ (fun j hj hne k hk => ?_)
      rcases h (j + 1) (by show j + 1 < ls.length + 1; omega) hne k hk with q | ⟨j', q1, q2, q3⟩
      · exact Or.inl (Or.inl q)
      · cases j' with
        | zero => exact Or.inl (Or.inr q3)
        | succ j' => exact Or.inr ⟨j', by omega, q2, q3⟩
    · rw [if_neg z]
      refine ⟨fun k hk => ?_, tsi_ok ls _ (fun j hj hne k hk => ?_)⟩
      · rcases h0 z k hk with q | ⟨j', q1, _⟩
        · exact q
        · omega
      · rcases h (j + 1) (by show j + 1 < ls.length + 1; omega) hne k hk with q | ⟨j', q1, q2, q3⟩
        · exact Or.inl q
        · cases j' with
          | zero => exact absurd q2 z
          | succ j' => exact Or.inr ⟨j', by omega, q2, q3⟩
def arrd (ls0 ls : List lit_T) : Prop := (ps_of ls = ps_of ls0) ∧ (∀ l, l ∈ ls ↔ l ∈ ls0) ∧ (ls.length = ls0.length)
theorem arrd.ps {ls0 ls : List lit_T} (h' : arrd ls0 ls) : ps_of ls = ps_of ls0 := h'.1
theorem arrd.m {ls0 ls : List lit_T} (h' : arrd ls0 ls) : ∀ l, l ∈ ls ↔ l ∈ ls0 := h'.2.1
theorem arrd.n {ls0 ls : List lit_T} (h' : arrd ls0 ls) : ls.length = ls0.length := h'.2.2
theorem cl_arrange {σ : z_S} {ro bb : Nat} {ls0 : List lit_T} {A bo0 : Nat → Nat} (hB0 : bd_L σ ro ls0 A bb bo0) (hsafe : ∀ l ∈ ls0, l.1 ≠ 0 → ∀ k, vin3 l.2.2 k → ∃ l' ∈ ps_of ls0, vin3 l'.2.2 k) (P : z_S → Prop) (hP : ∀ ls bo σ', bd_L σ' ro ls A bb bo → arrd ls0 ls → tests_ok ls (fun _ => False) → oq [] [(14, bb)] σ σ' → P σ') : kp_Ru_arrange ro σ P := by
  intro X4 X30 h4 h30
  have l50 := hB0.l5
  have main : ∀ m i ls bo (kn : Int32) (σ' : z_S), i + m = ls0.length → bd_L σ' ro ls A bb bo → arrd ls0 ls → tsi ls i → (∀ k, k < 32 → (bi kn k = true ↔ ∃ j, j < i ∧ vin3 (ls.getD j d_lit).2.2 k)) → oq [] [(14, bb)] σ σ' → X4 kn (nI i) σ' := by
    intro m
    induction m with
    | zero =>
      intro i ls bo kn σ' hi hB hA hT hk hf
      have hl := hA.n
      refine h4 _ _ _ ⟨hB.ty, ?_⟩
      rw [hB.sz]
      exact ⟨fun _ => hP ls bo σ' hB hA (tsi_ok ls _ (fun j hj hne k hk => Or.inr (hT j (by omega) hne k hk))) hf, fun z => absurd (nI_le (by omega) (by omega)) z⟩
    | succ m ih =>
      intro i ls bo kn σ' hi hB hA hT hk hf
      have hl := hA.n
      have l5 := hB.l5
      refine h4 _ _ _ ⟨hB.ty, ?_⟩
      rw [hB.sz]
      refine ⟨fun z => absurd z (nI_ge (by omega) (by omega)), fun _ => ⟨hB.ty, cl_next hB (by omega) _ (fun c hc => ?_)⟩⟩
      obtain ⟨c1, c2, c3⟩ := hc
      obtain ⟨qc, nc, hAc, _⟩ := hB.bo c c2
      refine ⟨hB.ty, bb, hB.rb, 5, 14, hB.tb, vp_in_nI (by omega) (by decide), bo c, by rw [cl_nI (by omega)]; exact qc, ?_⟩
      -- what is known lies in rows that came
      have hpos : ∀ k, k < 32 → bi kn k = true → ∃ j, j < i ∧ (ls.getD j d_lit).1 = 0 ∧ vin3 (ls.getD j d_lit).2.2 k := fun k hk32 hb => by
        obtain ⟨j, y1, y2⟩ := (hk k hk32).mp hb
        by_cases w : (ls.getD j d_lit).1 = 0
        · exact ⟨j, y1, w, y2⟩
        · obtain ⟨j', a1, a2, a3⟩ := hT j y1 w k y2
          exact ⟨j', by omega, a2, a3⟩
      have c3' : fit ls kn c ∨ ((ls.getD c d_lit).1 = 0 ∧ ∀ j, i ≤ j → j < c → (ls.getD j d_lit).1 ≠ 0) := by
        rcases c3 with y | y | y
        · exact Or.inl y
        · exact Or.inr y
        · exfalso
          obtain ⟨y1, y2⟩ := y i (Nat.le_refl _) (by omega)
          refine y2 ⟨y1, fun k hvk => ?_⟩
          have hm := (hA.m _).mp (gd_mem (as := ls) (i := i) (by omega))
          obtain ⟨l', a1, a2⟩ := hsafe _ hm y1 k hvk
          rw [← hA.ps] at a1
          obtain ⟨a3, a4⟩ := List.mem_filter.mp a1
          obtain ⟨j, hj, ej⟩ := List.getElem_of_mem a3
          have hj0 : (ls.getD j d_lit).1 = 0 := by rw [gd_eq _ _ hj, ej]; simpa using a4
          have hji : j < i := by
            rcases Nat.lt_or_ge j i with w | w
            · exact w
            · exact absurd hj0 (y j w hj).1
          have hk26 := hvk.1
          exact (hk k (by omega)).mpr ⟨j, hji, by rw [gd_eq _ _ hj, ej]; exact a2⟩
      obtain ⟨ls', n', g', m', p'⟩ := mv_ex c1 c2
      have hA' : arrd ls0 ls' := ⟨(p' (c3'.elim (fun w => Or.inl w.1) (fun w => Or.inr w.2))).trans hA.ps, fun l => (m' l).trans (hA.m l), n'.trans hA.n⟩
      have hT' : tsi ls' (i + 1) := fun j hj hne k hvk => by
        by_cases w : j = i
        · rw [w, g', if_neg (by omega), if_pos rfl] at hne hvk
          rcases c3' with y | y
          · obtain ⟨j', a1, a2, a3⟩ := hpos k (by have := hvk.1; omega) (y.2 k hvk)
            exact ⟨j', by omega, by rw [g', if_pos a1]; exact a2, by rw [g', if_pos a1]; exact a3⟩
          · exact absurd y.1 hne
        · rw [g', if_pos (by omega)] at hne hvk
          obtain ⟨j', a1, a2, a3⟩ := hT j (by omega) hne k hvk
          exact ⟨j', a1, by rw [g', if_pos (by omega)]; exact a2, by rw [g', if_pos (by omega)]; exact a3⟩
      -- places move up
      have shift : ∀ r d (σ2 : z_S), d = i + r → d ≤ c → oq [] [(14, bb)] σ' σ2 → (∀ j, j < ls.length → z_Q σ2 14 bb j = some (if j ≤ d then bo j else if j ≤ c then bo (j - 1) else bo j)) → X30 kn (nI i) (bo c) (nI d) σ2 := by
        intro r
        induction r with
        | zero =>
          intro d σ2 hd hdc f2 hQ
          refine h30 _ _ _ _ _ ⟨fun _ => ?_, fun z => absurd (nI_le (by omega) (by omega)) z⟩
          refine ⟨by rw [f2.ty]; exact hB.ty, bb, by rw [f2.R]; exact hB.rb, 5, 14, by rw [f2.ty]; exact hB.tb, vp_in_nI (by omega) (by decide), by rw [f2.ty]; exact hAc.ty, fun σ3 e3 => ?_⟩
          rw [cl_nI (by omega)] at e3
          have f3 : oq [] [(14, bb)] σ' σ3 := oq_tr f2 (by rw [e3]; exact oq_sQ (by simp))
          refine ⟨by rw [f3.ty]; exact hAc.ty, ?_⟩
          rw [nI_1, f3.I _ _ (by simp)]
          have hQ3 : ∀ j, j < ls.length → z_Q σ3 14 bb j = some (if j < i then bo j else if j = i then bo c else if j ≤ c then bo (j - 1) else bo j) := fun j hj => by
            rw [e3, z_Q_sQ, if_pos ⟨rfl, rfl⟩]
            unfold va_up
            by_cases w : j = i
            · rw [if_pos w, if_neg (by omega), if_pos w]
            · rw [if_neg w, hQ j hj]
              by_cases v : j < i
              · rw [if_pos v, if_pos (by omega)]
              · rw [if_neg v, if_neg w, if_neg (by omega)]
          refine ih (i + 1) ls' (fun j => if j < i then bo j else if j = i then bo c else if j ≤ c then bo (j - 1) else bo j) _ σ3 (by omega) ⟨by rw [f3.ty]; exact hB.ty, by rw [f3.R]; exact hB.rb, by rw [f3.ty]; exact hB.tb, by omega, by rw [f3.I _ _ (by simp), n']; exact hB.sz, fun j hj => ?_⟩ hA' hT' (fun k hk32 => ?_) (oq_tr hf f3)
          · rw [n'] at hj
            refine ⟨hQ3 j hj, ?_⟩
            have tr : ∀ y, y < ls.length → ∃ n, at_L σ3 (bo y) (ls.getD y d_lit) n ∧ no_mark (ls.getD y d_lit).2.2 ∧ ((ls.getD y d_lit).1 = 0 → n = A (ls.getD y d_lit).2.1) := fun y hy => by
              obtain ⟨_, n, b1, b2⟩ := hB.bo y hy
              exact ⟨n, at_L_oq b1 f3 (by simp), b2⟩
            rw [g' j]
            by_cases v : j < i
            · have eb : (fun j => if j < i then bo j else if j = i then bo c else if j ≤ c then bo (j - 1) else bo j) j = bo j := if_pos v
              rw [eb, if_pos v]
              exact tr j hj
            · by_cases w : j = i
              · have eb : (fun j => if j < i then bo j else if j = i then bo c else if j ≤ c then bo (j - 1) else bo j) j = bo c := (if_neg v).trans (if_pos w)
                rw [eb, if_neg v, if_pos w]
                exact tr c c2
              · by_cases u : j ≤ c
                · have eb : (fun j => if j < i then bo j else if j = i then bo c else if j ≤ c then bo (j - 1) else bo j) j = bo (j - 1) := (if_neg v).trans ((if_neg w).trans (if_pos u))
                  rw [eb, if_neg v, if_neg w, if_pos u]
                  exact tr (j - 1) (by omega)
                · have eb : (fun j => if j < i then bo j else if j = i then bo c else if j ≤ c then bo (j - 1) else bo j) j = bo j := (if_neg v).trans ((if_neg w).trans (if_neg u))
                  rw [eb, if_neg v, if_neg w, if_neg u]
                  exact tr j hj
          · rw [bi_or2 _ _ hk32, Bool.or_eq_true, hk k hk32, hAc.lt k hk32]
            constructor
            · rintro (⟨j, y1, y2⟩ | y)
              · exact ⟨j, by omega, by rw [g', if_pos y1]; exact y2⟩
              · exact ⟨i, by omega, by rw [g', if_neg (by omega), if_pos rfl]; exact y⟩
            · rintro ⟨j, y1, y2⟩
              rw [g'] at y2
              by_cases w : j = i
              · rw [if_neg (by omega), if_pos w] at y2
                exact Or.inr y2
              · rw [if_pos (by omega)] at y2
                exact Or.inl ⟨j, by omega, y2⟩
        | succ r ihr =>
          intro d σ2 hd hdc f2 hQ
          refine h30 _ _ _ _ _ ⟨fun z => absurd z (nI_ge (by omega) (by omega)), fun _ => ?_⟩
          have hd1 : nI d - (1 : Int32) = nI (d - 1) := by
            obtain ⟨e, he⟩ : ∃ e, d = e + 1 := ⟨d - 1, by omega⟩
            rw [he]; exact nI_pred e
          have hd2 : nI d + (-1 : Int32) = nI (d - 1) := by rw [← hd1]; exact (Int32.sub_eq_add_neg (nI d) 1).symm
          obtain ⟨_, n2, hA2, _⟩ := hB.bo (d - 1) (by omega)
          rw [hd1, hd2]
          refine ⟨by rw [f2.ty]; exact hB.ty, bb, by rw [f2.R]; exact hB.rb, by rw [f2.ty]; exact hB.ty, bb, by rw [f2.R]; exact hB.rb, 5, 14, by rw [f2.ty]; exact hB.tb, vp_in_nI (by omega) (by decide), bo (d - 1), ?_, 5, 14, by rw [f2.ty]; exact hB.tb, vp_in_nI (by omega) (by decide), by rw [f2.ty]; exact hA2.ty, fun σ3 e3 => ?_⟩
          · rw [cl_nI (by omega), hQ (d - 1) (by omega), if_pos (by omega)]
          · rw [cl_nI (by omega)] at e3
            refine ihr (d - 1) σ3 (by omega) (by omega) (oq_tr f2 (by rw [e3]; exact oq_sQ (by simp))) (fun j hj => ?_)
            rw [e3, z_Q_sQ, if_pos ⟨rfl, rfl⟩]
            unfold va_up
            by_cases w : j = d
            · rw [if_pos w, if_neg (by omega), if_pos (by omega), w]
            · rw [if_neg w, hQ j hj]
              by_cases v : j ≤ d - 1
              · rw [if_pos (by omega), if_pos v]
              · rw [if_neg (by omega), if_neg v]
      exact shift (c - i) c σ' (by omega) (Nat.le_refl _) (oq_rf _ _ _) (fun j hj => by
        rw [(hB.bo j hj).1]
        by_cases w : j ≤ c
        · rw [if_pos w]
        · rw [if_neg w, if_neg w])
  exact main ls0.length 0 ls0 bo0 0 σ (by omega) hB0 ⟨rfl, fun _ => Iff.rfl, rfl⟩ (fun j hj => absurd hj (Nat.not_lt_zero j)) (fun k hk => by
    rw [bi_0]
    exact ⟨(fun z => by cases z), fun ⟨i, y1, _⟩ => absurd y1 (Nat.not_lt_zero i)⟩) (oq_rf _ _ _)
