def mr_shl (R : mr_R) (r n v : Nat) : mr_R := fun r' j => if r' = r ∧ v < j ∧ j ≤ n then R r (j - 1) else R r' j
theorem mr_shl_n (R : mr_R) (r n : Nat) : mr_shl R r n n = R := by
  funext r' j
  simp only [mr_shl]
  rw [if_neg (by omega)]
theorem mr_shl_s (R : mr_R) (r n v : Nat) (h : v + 1 ≤ n) : mr_set (mr_shl R r n (v + 1)) r (v + 1) (mr_shl R r n (v + 1) r v) = mr_shl R r n v := by
  funext r' j
  simp only [mr_set, mr_shl]
  by_cases e : r' = r ∧ j = v + 1
  · obtain ⟨rfl, rfl⟩ := e
    rw [if_pos ⟨rfl, rfl⟩, if_neg (by omega), if_pos (by omega)]
    rfl
  · rw [if_neg e]
    by_cases g : r' = r ∧ v + 1 < j ∧ j ≤ n
    · rw [if_pos g, if_pos (by omega)]
    · rw [if_neg g, if_neg (by omega)]
theorem mo_insert {μ : mo_U} {R : mr_R} {N : Nat → Nat} (hM : mo_M μ R N) {r a b c : Nat} (hr : r < 8) (ha : a < 1000) (hb : b < 1000) (hc : c < 1000) (cnt : Int) (Q : Int32 → mo_U → Prop)
    (hQ0 : N r = 40 → Q 0 μ)
    (hQ1 : N r < 40 → ∀ (v : Nat) (μ' : mo_U), v ≤ N r → (∀ j, v ≤ j → j < N r → pk3 a b c < (R r j).1) → (0 < v → (R r (v - 1)).1 ≤ pk3 a b c) → mo_M μ' (mr_set (mr_shl R r (N r) v) r v (pk3 a b c, cnt)) (mr_n N r (N r + 1)) → mo_fr [40, 41, 42] [] μ μ' → Q 1 μ') : mp_insert (nI r) (nI a) (nI b) (nI c) (Int32.ofInt cnt) μ Q := by
  obtain ⟨hn, hn40⟩ := hM.2 r hr
  have hpk : pk3 a b c < 1000000000 := by unfold pk3; omega
  intro X21 X59 h21 h59
  have fin : N r < 40 → ∀ (v : Nat) (μ1 : mo_U), v ≤ N r → (∀ j, v ≤ j → j < N r → pk3 a b c < (R r j).1) → (0 < v → (R r (v - 1)).1 ≤ pk3 a b c) → mo_M μ1 (mr_shl R r (N r) v) N → mo_fr [40, 41, 42] [] μ μ1 → X59 (nI v) μ1 := by
    intro hlt v μ1 hv hhi hlo hM1 hfr
    refine h59 _ _ ?_
    show vp_in _ 960 ∧ _
    rw [mo_ix]
    have e1 : (nI (120 * r + 3 * v) + (1 : Int32)) = nI (120 * r + 3 * v + 1) := nI_1 _
    have e2 : (nI (120 * r + 3 * v) + (2 : Int32)) = nI (120 * r + 3 * v + 2) := nI_p _ 2
    refine ⟨vp_in_nI (by omega) (by omega), fun μ2 f2 => ?_⟩
    rw [e1, e2, mo_iy]
    refine ⟨vp_in_nI (by omega) (by omega), fun μ3 f3 => ⟨vp_in_nI (by omega) (by omega), fun μ4 f4 => ⟨vp_in_nI (by omega) (by omega), fun μ5 f5 => ⟨vp_in_nI hr (by omega), vp_in_nI hr (by omega), fun μ6 f6 => ?_⟩⟩⟩⟩
    rw [cl_nI (by omega)] at f2 f3 f4 f5 f6
    have a1 : a = pk3 a b c / 1000000 := by unfold pk3; omega
    have a2 : b = pk3 a b c / 1000 % 1000 := by unfold pk3; omega
    have a3 : c = pk3 a b c % 1000 := by unfold pk3; omega
    have hM5 : mo_M μ5 (mr_set (mr_shl R r (N r) v) r v (pk3 a b c, cnt)) N := by
      refine mo_M_set hM1 hr (by omega) hpk ?_ ?_ ?_
      · rw [f5, mu_A_sA, if_neg (by omega), f4, mu_A_sA, if_pos rfl, f3, mu_A_sA, if_pos rfl, f2, mu_A_sA, if_pos rfl, ← a1, ← a2, ← a3]
      · rw [f5, mu_A_sA, if_pos rfl, f4, mu_A_sA, if_neg (by omega), f3, mu_A_sA, if_neg (by omega), f2, mu_A_sA, if_neg (by omega)]
      · rw [f5, mu_A_sA, if_neg (by omega), f4, mu_A_sA, if_neg (by omega), f3, mu_A_sA, if_neg (by omega), f2, mu_A_sA, if_neg (by omega)]
    refine hQ1 hlt v μ6 hv hhi hlo ⟨fun r' j' hr' hj' => ?_, fun r' hr' => ?_⟩ ?_
    · have := hM5.1 r' j' hr' hj'
      unfold mo_at at this ⊢
      rw [f6, mu_A_sA, if_neg (by omega), mu_A_sA, if_neg (by omega)]
      exact this
    · obtain ⟨q1, q2⟩ := hM5.2 r' hr'
      obtain ⟨q3, q4⟩ := hM5.2 r hr
      rw [f6, mu_A_sA, if_pos rfl]
      simp only [upd, mr_n]
      by_cases e : r' = r
      · rw [if_pos e, if_pos e, q3]
        exact ⟨nI_1 _, by omega⟩
      · rw [if_neg e, if_neg e]
        exact ⟨q1, q2⟩
    · refine mo_fr_tr hfr ?_
      rw [f6, f5, f4, f3, f2]
      exact mo_fr_tr (mo_fr_A (by simp)) (mo_fr_tr (mo_fr_A (by simp)) (mo_fr_tr (mo_fr_A (by simp)) (mo_fr_tr (mo_fr_A (by simp)) (mo_fr_A (by simp)))))
  have loop : N r < 40 → ∀ (v : Nat) (μ1 : mo_U), v ≤ N r → (∀ j, v ≤ j → j < N r → pk3 a b c < (R r j).1) → mo_M μ1 (mr_shl R r (N r) v) N → mo_fr [40, 41, 42] [] μ μ1 → X21 (nI v) μ1 := by
    intro hlt v
    induction v with
    | zero =>
      intro μ1 hv hhi hM1 hfr
      exact h21 _ _ ⟨fun _ => fin hlt 0 μ1 hv hhi (fun q => by omega) hM1 hfr, fun h => absurd (by decide) h⟩
    | succ v ih =>
      intro μ1 hv hhi hM1 hfr
      refine h21 _ _ ⟨fun h => absurd h (nI_nle (by omega) (by omega)), fun _ => ?_⟩
      rw [nI_pred]
      have er : mr_shl R r (N r) (v + 1) r v = R r v := by
        simp only [mr_shl]
        rw [if_neg (by omega)]
      refine mo_compare hM1 hr (by omega) ha hb hc _ ⟨fun h => ?_, fun h => ?_⟩
      · rw [mo_sgn, er] at h
        exact fin hlt (v + 1) μ1 hv hhi (fun _ => by simpa using h) hM1 hfr
      · rw [mo_sgn, er] at h
        refine mo_move hM1 hr (by omega) (by omega) (by omega) _ (fun μ2 hM2 hf2 => ?_)
        rw [mr_shl_s R r (N r) v hv] at hM2
        rw [pk_m1]
        refine ih μ2 (by omega) (fun j h1 h2 => ?_) hM2 (mo_fr_tr hfr (mo_fr_mono hf2 (by simp) (by simp)))
        rcases Nat.lt_or_ge v j with g | g
        · exact hhi j (by omega) h2
        · have : j = v := by omega
          subst this
          omega
  refine ⟨vp_in_nI hr (by omega), fun h => ⟨vp_in_nI hr (by omega), ?_⟩, fun h => ?_⟩
  · rw [cl_nI (by omega), hn] at h ⊢
    have hlt : N r < 40 := by
      rcases Nat.lt_or_ge (N r) 40 with g | g
      · exact g
      · exact absurd (show nI (N r) = (40 : Int32) by rw [show N r = 40 by omega]; rfl) h
    refine loop hlt (N r) μ (Nat.le_refl _) (fun j h1 h2 => by omega) ?_ mo_fr_rf
    rw [mr_shl_n]
    exact hM
  · rw [cl_nI (by omega), hn, show (40 : Int32) = nI 40 from rfl, nI_eq (by omega) (by omega)] at h
    exact hQ0 h
/-- rows from k on have come one down -/
def mr_dn (R : mr_R) (r k v : Nat) : mr_R := fun r' j => if r' = r ∧ k ≤ j ∧ j < v then R r (j + 1) else R r' j
theorem mr_dn_0 (R : mr_R) (r k : Nat) : mr_dn R r k k = R := by
  funext r' j
  simp only [mr_dn]
  rw [if_neg (by omega)]
theorem mr_dn_s (R : mr_R) (r k v : Nat) (h : k ≤ v) : mr_set (mr_dn R r k v) r v (mr_dn R r k v r (v + 1)) = mr_dn R r k (v + 1) := by
  funext r' j
  simp only [mr_set, mr_dn]
  by_cases e : r' = r ∧ j = v
  · obtain ⟨rfl, rfl⟩ := e
    rw [if_pos ⟨rfl, rfl⟩, if_neg (by omega), if_pos (by omega)]
  · rw [if_neg e]
    by_cases g : r' = r ∧ k ≤ j ∧ j < v
    · rw [if_pos g, if_pos (by omega)]
    · rw [if_neg g, if_neg (by omega)]
theorem mo_remove {μ : mo_U} {R : mr_R} {N : Nat → Nat} (hM : mo_M μ R N) {r k : Nat} (hr : r < 8) (hk : k < N r) (Q : mo_U → Prop)
    (hQ : ∀ μ', mo_M μ' (mr_dn R r k (N r - 1)) (mr_n N r (N r - 1)) → mo_fr [40, 41, 42] [] μ μ' → Q μ') : mp_remove (nI r) (nI k) μ Q := by
  obtain ⟨hn, hn40⟩ := hM.2 r hr
  intro X4 h4
  have loop : ∀ (m v : Nat) (μ1 : mo_U), v + m = N r - 1 → k ≤ v → mo_M μ1 (mr_dn R r k v) N → mo_fr [40, 41, 42] [] μ μ1 → X4 (nI (v + 1)) μ1 := by
    intro m
    induction m with
    | zero =>
      intro v μ1 hv hkv hM1 hfr
      obtain ⟨q1, q2⟩ := hM1.2 r hr
      refine h4 _ _ ⟨vp_in_nI hr (by omega), fun _ => ⟨vp_in_nI hr (by omega), vp_in_nI hr (by omega), fun μ2 e2 => ?_⟩, fun h => absurd ?_ h⟩
      · have ev : v = N r - 1 := by omega
        subst ev
        rw [cl_nI (by omega), q1] at e2
        refine hQ μ2 ⟨fun r' j' hr' hj' => ?_, fun r' hr' => ?_⟩ (mo_fr_tr hfr (by rw [e2]; exact mo_fr_A (by simp)))
        · have := hM1.1 r' j' hr' hj'
          unfold mo_at at this ⊢
          rw [e2, mu_A_sA, if_neg (by omega), mu_A_sA, if_neg (by omega)]
          exact this
        · obtain ⟨q3, q4⟩ := hM1.2 r' hr'
          rw [e2, mu_A_sA, if_pos rfl]
          simp only [upd, mr_n]
          by_cases e : r' = r
          · rw [if_pos e, if_pos e]
            refine ⟨?_, by omega⟩
            rw [show (1 : Int32) = nI 1 from rfl, pk_sub (by omega)]
          · rw [if_neg e, if_neg e]
            exact ⟨q3, q4⟩
      · rw [cl_nI (by omega), q1]
        exact nI_le (by omega) (by omega)
    | succ m ih =>
      intro v μ1 hv hkv hM1 hfr
      obtain ⟨q1, q2⟩ := hM1.2 r hr
      refine h4 _ _ ⟨vp_in_nI hr (by omega), fun h => ?_, fun _ => ?_⟩
      · rw [cl_nI (by omega), q1, nI_leI (by omega) (by omega)] at h
        omega
      · rw [nI_pred]
        refine mo_move hM1 hr (by omega) (by omega) (by omega) _ (fun μ2 hM2 hf2 => ?_)
        rw [mr_dn_s R r k v hkv] at hM2
        rw [nI_1]
        exact ih (v + 1) μ2 (by omega) (by omega) hM2 (mo_fr_tr hfr (mo_fr_mono hf2 (by simp) (by simp)))
  show X4 (nI k + (1 : Int32)) μ
  rw [nI_1]
  refine loop (N r - 1 - k) k μ (by omega) (Nat.le_refl _) ?_ mo_fr_rf
  rw [mr_dn_0]
  exact hM
