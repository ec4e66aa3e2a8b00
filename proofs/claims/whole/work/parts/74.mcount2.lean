theorem gad_len (l : List (Nat × Nat)) (g : Nat) : l.length ≤ (gad l g).length := by
  have := congrArg List.length (gad_fst l g)
  rw [List.length_map] at this
  rw [this]
  split
  · rw [List.length_map]
    exact Nat.le_refl _
  · rw [List.length_append, List.length_map]
    omega
theorem grp_len : ∀ (ks : List Nat) (l : List (Nat × Nat)), l.length ≤ (ks.foldl gad l).length
  | [], l => Nat.le_refl _
  | k :: ks, l => Nat.le_trans (gad_len l k) (grp_len ks (gad l k))
set_option maxHeartbeats 1000000 in
/-- one solution more: its group's number grows, or a group comes -/
theorem mo_tally {μ : mo_U} {gs : List (Nat × Nat)} (hC : mo_C μ gs) {a b : Nat} (ha : a < 1000) (hb : b < 1000) (hnd : (gs.map Prod.fst).Nodup) (hbd : ∀ i, i < gs.length → (gs.getD i (0, 0)).2 < 100000) (v2 : Int32) (X16 : Int32 → mo_U → Prop) (X42 : Int32 → Int32 → Int32 → Int32 → Int32 → mo_U → Prop) (X159 : Int32 → Int32 → mo_U → Prop) (Q : Int32 → mo_U → Prop)
    (h42 : ∀ (v2 : Int32) (v3 : Int32) (v4 : Int32) (v5 : Int32) (v6 : Int32) (μ : mo_U), (((μ.1 845) ≤ v6 → (¬ v5 = ((-1 : Int32)) → X159 v2 v5 μ) ∧ (v5 = ((-1 : Int32)) → (¬ (μ.1 845) = ((40 : Int32)) → vp_in (((3 : Int32)) * (μ.1 845)) 120 ∧ ∀ μ127, μ127 = mu_sA μ 53 (upd (μ.2 53) (((3 : Int32)) * (μ.1 845)).toNatClampNeg v3) → vp_in ((((3 : Int32)) * (μ.1 845)) + ((1 : Int32))) 120 ∧ ∀ μ140, μ140 = mu_sA μ127 53 (upd (μ127.2 53) ((((3 : Int32)) * (μ.1 845)) + ((1 : Int32))).toNatClampNeg v4) → vp_in (μ.1 845) 40 ∧ ∀ μ148, μ148 = mu_sA μ140 54 (upd (μ140.2 54) (μ.1 845).toNatClampNeg ((0 : Int32))) → ∀ μ156, μ156 = mu_sI μ148 845 ((μ148.1 845) + ((1 : Int32))) → X159 v2 (μ.1 845) μ156) ∧ ((μ.1 845) = ((40 : Int32)) → Q ((0 : Int32)) μ))) ∧ (¬ (μ.1 845) ≤ v6 → vp_in (((3 : Int32)) * v6) 120 ∧ ((¬ (μ.2 53 (((3 : Int32)) * v6).toNatClampNeg) = v3 → X42 v2 v3 v4 v5 (v6 + (1 : Int32)) μ) ∧ ((μ.2 53 (((3 : Int32)) * v6).toNatClampNeg) = v3 → vp_in ((((3 : Int32)) * v6) + ((1 : Int32))) 120 ∧ ((¬ (μ.2 53 ((((3 : Int32)) * v6) + ((1 : Int32))).toNatClampNeg) = v4 → X42 v2 v3 v4 v5 (v6 + (1 : Int32)) μ) ∧ ((μ.2 53 ((((3 : Int32)) * v6) + ((1 : Int32))).toNatClampNeg) = v4 → X42 v2 v3 v4 v6 (v6 + (1 : Int32)) μ)))))) → X42 v2 v3 v4 v5 v6 μ)
    (h159 : ∀ (v2 : Int32) (v5 : Int32) (μ : mo_U), (vp_in v5 40 ∧ (vp_in v5 40 ∧ ∀ μ169, μ169 = mu_sA μ 54 (upd (μ.2 54) v5.toNatClampNeg ((μ.2 54 v5.toNatClampNeg) + ((1 : Int32)))) → X16 v2 μ169)) → X159 v2 v5 μ)
    (hfull : gs.length = 40 → (∀ i, i < gs.length → (gs.getD i (0, 0)).1 ≠ pk3 a b 0) → Q 0 μ)
    (hgo : (gad gs (pk3 a b 0)).length ≤ 40 → ∀ μ', mo_C μ' (gad gs (pk3 a b 0)) → mo_fr [53, 54] [845] μ μ' → X16 v2 μ') : X42 v2 (nI a) (nI b) (-1) (nI 0) μ := by
  obtain ⟨c1, c2, c3⟩ := hC
  have hpk : pk3 a b 0 < 1000000000 := by unfold pk3; omega
  have q0 : pk3 a b 0 % 1000 = 0 := by unfold pk3; omega
  have q1 : pk3 a b 0 / 1000000 = a := by unfold pk3; omega
  have q2 : pk3 a b 0 / 1000 % 1000 = b := by unfold pk3; omega
  have old : ∀ j, j < gs.length → (gs.getD j (0, 0)).1 = pk3 a b 0 → X159 v2 (nI j) μ := by
    intro j hj he
    refine h159 _ _ _ ⟨vp_in_nI (by omega) (by omega), vp_in_nI (by omega) (by omega), fun μ2 f2 => ?_⟩
    obtain ⟨g0, g1, g2, g3, g4, g5⟩ := c3 j hj
    have hno : ∀ i, i < j → (gs.getD i (0, 0)).1 ≠ pk3 a b 0 := by
      intro i hi q
      have : i = j := (List.getElem?_inj (l := gs.map Prod.fst) (by rw [List.length_map]; omega) hnd).mp (by
        rw [List.getElem?_map, List.getElem?_map, List.getElem?_eq_getElem (show i < gs.length by omega), List.getElem?_eq_getElem hj]
        rw [gd_eq _ _ (show i < gs.length by omega)] at q
        rw [gd_eq _ _ hj] at he
        simp [q, he])
      omega
    have eg := gad_old gs (pk3 a b 0) j hj he hno
    rw [cl_nI (by omega), g4, nI_1] at f2
    have hl : (gad gs (pk3 a b 0)).length = gs.length := by rw [eg, List.length_set]
    refine hgo (by omega) μ2 ⟨by rw [f2, mu_I_sA, hl]; exact c1, by omega, fun i hi => ?_⟩ (by rw [f2]; exact mo_fr_A (by simp))
    rw [hl] at hi
    have b53 : μ2.2 53 = μ.2 53 := by rw [f2, mu_A_sA, if_neg (by omega)]
    have b54 : μ2.2 54 = upd (μ.2 54) j (nI ((gs.getD j (0, 0)).2 + 1)) := by rw [f2, mu_A_sA, if_pos rfl]
    rw [eg, gd_set _ _ _ hi, b53, b54]
    obtain ⟨k0, k1, k2, k3, k4, k5⟩ := c3 i hi
    have hb9 := hbd j hj
    by_cases e : i = j
    · subst e
      rw [if_pos rfl]
      dsimp only
      rw [he] at k2 k3
      refine ⟨hpk, q0, k2, k3, by simp [upd], by omega⟩
    · rw [if_neg e]
      refine ⟨k0, k1, k2, k3, ?_, k5⟩
      simp only [upd, if_neg e]
      exact k4
  have loop : ∀ (m k : Nat) (fd : Int32), k + m = gs.length → ((fd = -1 ∧ ∀ i, i < k → (gs.getD i (0, 0)).1 ≠ pk3 a b 0) ∨ ∃ j, j < gs.length ∧ fd = nI j ∧ (gs.getD j (0, 0)).1 = pk3 a b 0) → X42 v2 (nI a) (nI b) fd (nI k) μ := by
    intro m
    induction m with
    | zero =>
      intro k fd hk hfd
      refine h42 _ _ _ _ _ _ ⟨fun _ => ⟨fun q => ?_, fun q => ?_⟩, fun q => absurd (by rw [c1]; exact nI_le (by omega) (by omega)) q⟩
      · rcases hfd with ⟨g, -⟩ | ⟨j, hj, rfl, he⟩
        · exact absurd g q
        · exact old j hj he
      · rcases hfd with ⟨-, hno⟩ | ⟨j, hj, rfl, he⟩
        · have hno' : ∀ i, i < gs.length → (gs.getD i (0, 0)).1 ≠ pk3 a b 0 := fun i hi => hno i (by omega)
          refine ⟨fun q3 => ?_, fun q3 => ?_⟩
          · rw [c1, show (40 : Int32) = nI 40 from rfl, nI_eq (by omega) (by omega)] at q3
            have e0 : (3 : Int32) * nI gs.length = nI (3 * gs.length) := by rw [show (3 : Int32) = nI 3 from rfl, pk_mul]
            have e1 : nI (3 * gs.length) + (1 : Int32) = nI (3 * gs.length + 1) := nI_1 _
            rw [c1, e0, e1, cl_nI (by omega), cl_nI (by omega), cl_nI (by omega)]
            refine ⟨vp_in_nI (by omega) (by omega), fun μ2 f2 => ⟨vp_in_nI (by omega) (by omega), fun μ3 f3 => ⟨vp_in_nI (by omega) (by omega), fun μ4 f4 μ5 f5 => ?_⟩⟩⟩
            have s4 : μ4.1 845 = nI gs.length := by rw [f4, mu_I_sA, f3, mu_I_sA, f2, mu_I_sA, c1]
            rw [s4, nI_1] at f5
            refine h159 _ _ _ ⟨vp_in_nI (by omega) (by omega), vp_in_nI (by omega) (by omega), fun μ6 f6 => ?_⟩
            have eg := gad_new gs (pk3 a b 0) hno'
            have a53 : μ6.2 53 = upd (upd (μ.2 53) (3 * gs.length) (nI a)) (3 * gs.length + 1) (nI b) := by
              rw [f6, mu_A_sA, if_neg (by omega), f5, mu_A_sI, f4, mu_A_sA, if_neg (by omega), f3, mu_A_sA, if_pos rfl, f2, mu_A_sA, if_pos rfl]
            have a54 : μ6.2 54 = upd (upd (μ.2 54) gs.length 0) gs.length (nI 1) := by
              have b54 : μ5.2 54 = upd (μ.2 54) gs.length 0 := by rw [f5, mu_A_sI, f4, mu_A_sA, if_pos rfl, f3, mu_A_sA, if_neg (by omega), f2, mu_A_sA, if_neg (by omega)]
              rw [f6, mu_A_sA, if_pos rfl, b54, cl_nI (by omega)]
              congr 1
              simp [upd]
              rfl
            refine hgo (by rw [eg, List.length_append, List.length_singleton]; omega) μ6 ⟨?_, by rw [eg, List.length_append, List.length_singleton]; omega, fun i hi => ?_⟩ (by rw [f6, f5, f4, f3, f2]; exact mo_fr_tr (mo_fr_A (by simp)) (mo_fr_tr (mo_fr_A (by simp)) (mo_fr_tr (mo_fr_A (by simp)) (mo_fr_tr (mo_fr_I (by simp)) (mo_fr_A (by simp))))))
            · rw [f6, mu_I_sA, f5, mu_I_sI, if_pos rfl, eg, List.length_append, List.length_singleton]
            · rw [eg, List.length_append, List.length_singleton] at hi
              rw [eg, gd_snoc, a53, a54]
              by_cases g : i < gs.length
              · rw [if_pos g]
                simp only [upd, if_neg (show ¬ 3 * i = 3 * gs.length + 1 by omega), if_neg (show ¬ 3 * i = 3 * gs.length by omega), if_neg (show ¬ 3 * i + 1 = 3 * gs.length + 1 by omega), if_neg (show ¬ 3 * i + 1 = 3 * gs.length by omega), if_neg (show ¬ i = gs.length by omega)]
                exact c3 i g
              · have gi : i = gs.length := by omega
                subst gi
                rw [if_neg g, if_pos rfl]
                dsimp only
                rw [q1, q2]
                refine ⟨hpk, q0, ?_, ?_, ?_, by omega⟩ <;> simp [upd]
          · rw [c1, show (40 : Int32) = nI 40 from rfl, nI_eq (by omega) (by omega)] at q3
            exact hfull q3 hno'
        · exact absurd q (ov_m1 (by omega))
    | succ m ih =>
      intro k fd hk hfd
      obtain ⟨g0, g1, g2, g3, g4, g5⟩ := c3 k (by omega)
      have e0 : (3 : Int32) * nI k = nI (3 * k) := by rw [show (3 : Int32) = nI 3 from rfl, pk_mul]
      have e1 : nI (3 * k) + (1 : Int32) = nI (3 * k + 1) := nI_1 _
      have no : (gs.getD k (0, 0)).1 ≠ pk3 a b 0 → X42 v2 (nI a) (nI b) fd (nI (k + 1)) μ := by
        intro hne
        refine ih (k + 1) fd (by omega) ?_
        rcases hfd with ⟨g, hno⟩ | g
        · refine Or.inl ⟨g, fun i hi => ?_⟩
          rcases Nat.lt_or_ge i k with l | l
          · exact hno i l
          · have : i = k := by omega
            subst this
            exact hne
        · exact Or.inr g
      refine h42 _ _ _ _ _ _ ⟨fun q => ?_, fun _ => ?_⟩
      · rw [c1, nI_leI (by omega) (by omega)] at q
        omega
      · rw [e0, e1, cl_nI (by omega), cl_nI (by omega), g2, g3, nI_1]
        refine ⟨vp_in_nI (by omega) (by omega), fun q => ?_, fun q => ⟨vp_in_nI (by omega) (by omega), fun q3 => ?_, fun q3 => ?_⟩⟩
        · rw [nI_eq (by omega) (by omega)] at q
          exact no (fun e => q (by rw [e]; exact q1))
        · rw [nI_eq (by omega) (by omega)] at q3
          exact no (fun e => q3 (by rw [e]; exact q2))
        · rw [nI_eq (by omega) (by omega)] at q q3
          refine ih (k + 1) (nI k) (by omega) (Or.inr ⟨k, by omega, rfl, ?_⟩)
          unfold pk3
          omega
  exact loop gs.length 0 (-1) (by omega) (Or.inl ⟨rfl, fun i hi => by omega⟩)
