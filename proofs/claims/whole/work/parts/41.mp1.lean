def mp_reaches (μ : mo_U) (Q : mo_U → Prop) : Prop := ∀ (X2 : Int32 → mo_U → Prop) (X23 : Int32 → mo_U → Prop) (X33 : Int32 → Int32 → mo_U → Prop) (X97 : Int32 → mo_U → Prop) (X105 : Int32 → Int32 → mo_U → Prop) (X113 : Int32 → Int32 → Int32 → mo_U → Prop) (X176 : Int32 → Int32 → Int32 → Int32 → Int32 → mo_U → Prop),
    (∀ (v1 : Int32) (μ : mo_U), ((((64 : Int32)) ≤ v1 → X23 ((0 : Int32)) μ) ∧ (¬ ((64 : Int32)) ≤ v1 → vp_in v1 64 ∧ ∀ μ14, μ14 = mu_sA μ 38 (upd (μ.2 38) v1.toNatClampNeg (vp_nar .boolean ((0 : Int32)))) → X2 (v1 + (1 : Int32)) μ14)) → X2 v1 μ) →
    (∀ (v1 : Int32) (μ : mo_U), (((μ.1 808) ≤ v1 → X97 ((0 : Int32)) μ) ∧ (¬ (μ.1 808) ≤ v1 → X33 v1 ((0 : Int32)) μ)) → X23 v1 μ) →
    (∀ (v1 : Int32) (v2 : Int32) (μ : mo_U), (vp_in v1 17 ∧ (((μ.2 28 v1.toNatClampNeg) ≤ v2 → X23 (v1 + (1 : Int32)) μ) ∧ (¬ (μ.2 28 v1.toNatClampNeg) ≤ v2 → vp_in ((((5 : Int32)) * v1) + v2) 85 ∧ (((μ.2 29 ((((5 : Int32)) * v1) + v2).toNatClampNeg) = ((2 : Int32)) → X33 v1 (v2 + (1 : Int32)) μ) ∧ (¬ (μ.2 29 ((((5 : Int32)) * v1) + v2).toNatClampNeg) = ((2 : Int32)) → vp_in v1 17 ∧ (vp_in ((((5 : Int32)) * v1) + v2) 85 ∧ (vp_in ((((8 : Int32)) * (μ.2 26 v1.toNatClampNeg)) + (μ.2 30 ((((5 : Int32)) * v1) + v2).toNatClampNeg)) 64 ∧ ∀ μ82, μ82 = mu_sA μ 38 (upd (μ.2 38) ((((8 : Int32)) * (μ.2 26 v1.toNatClampNeg)) + (μ.2 30 ((((5 : Int32)) * v1) + v2).toNatClampNeg)).toNatClampNeg (vp_nar .boolean ((1 : Int32)))) → X33 v1 (v2 + (1 : Int32)) μ82))))))) → X33 v1 v2 μ) →
    (∀ (v1 : Int32) (μ : mo_U), ((((8 : Int32)) ≤ v1 → Q μ) ∧ (¬ ((8 : Int32)) ≤ v1 → X105 v1 ((0 : Int32)) μ)) → X97 v1 μ) →
    (∀ (v1 : Int32) (v2 : Int32) (μ : mo_U), ((((8 : Int32)) ≤ v2 → X97 (v1 + (1 : Int32)) μ) ∧ (¬ ((8 : Int32)) ≤ v2 → X113 v1 v2 ((0 : Int32)) μ)) → X105 v1 v2 μ) →
    (∀ (v1 : Int32) (v2 : Int32) (v3 : Int32) (μ : mo_U), ((((8 : Int32)) ≤ v3 → X105 v1 (v2 + (1 : Int32)) μ) ∧ (¬ ((8 : Int32)) ≤ v3 → vp_in ((((8 : Int32)) * v2) + v3) 64 ∧ ((¬ ((μ.2 38 ((((8 : Int32)) * v2) + v3).toNatClampNeg)) = 0 → X176 v1 v2 v3 ((((8 : Int32)) * v2) + v3) ((1 : Int32)) μ) ∧ (((μ.2 38 ((((8 : Int32)) * v2) + v3).toNatClampNeg)) = 0 → vp_in ((((8 : Int32)) * v2) + v1) 64 ∧ ((((μ.2 38 ((((8 : Int32)) * v2) + v1).toNatClampNeg)) = 0 → X176 v1 v2 v3 ((((8 : Int32)) * v2) + v3) ((0 : Int32)) μ) ∧ (¬ ((μ.2 38 ((((8 : Int32)) * v2) + v1).toNatClampNeg)) = 0 → vp_in ((((8 : Int32)) * v1) + v3) 64 ∧ ((((μ.2 38 ((((8 : Int32)) * v1) + v3).toNatClampNeg)) = 0 → X176 v1 v2 v3 ((((8 : Int32)) * v2) + v3) ((0 : Int32)) μ) ∧ (¬ ((μ.2 38 ((((8 : Int32)) * v1) + v3).toNatClampNeg)) = 0 → X176 v1 v2 v3 ((((8 : Int32)) * v2) + v3) ((1 : Int32)) μ)))))))) → X113 v1 v2 v3 μ) →
    (∀ (v1 : Int32) (v2 : Int32) (v3 : Int32) (t1 : Int32) (t2 : Int32) (μ : mo_U), (vp_in t1 64 ∧ ∀ μ176, μ176 = mu_sA μ 38 (upd (μ.2 38) t1.toNatClampNeg (vp_nar .boolean t2)) → X113 v1 v2 (v3 + (1 : Int32)) μ176) → X176 v1 v2 v3 t1 t2 μ) →
    (X2 ((0 : Int32)) μ)
set_option maxHeartbeats 4000000 in
theorem mq_reaches {σ0 : z_S} {m : Nat} {ma : Nat → Nat} (hT : mo_T σ0 m ma) (μ : mo_U) (Q : mo_U → Prop) (Post : z_S → Prop) (hQ : (∀ μ', Q μ' → Post (mo_put σ0 m ma μ'))) (hw : mp_reaches μ Q) : kp_Mo_reaches m (mo_put σ0 m ma μ) Post := by
  unfold mp_reaches at hw
  unfold kp_Mo_reaches
  intro X2 X23 X33 X97 X105 X113 X176 hX2 hX23 hX33 hX97 hX105 hX113 hX176
  have hw := hw (fun (v1 : Int32) (μ : mo_U) => X2 v1 (mo_put σ0 m ma μ))
  have hw := hw (fun (v1 : Int32) (μ : mo_U) => X23 v1 (mo_put σ0 m ma μ))
  have hw := hw (fun (v1 : Int32) (v2 : Int32) (μ : mo_U) => X33 v1 v2 (mo_put σ0 m ma μ))
  have hw := hw (fun (v1 : Int32) (μ : mo_U) => X97 v1 (mo_put σ0 m ma μ))
  have hw := hw (fun (v1 : Int32) (v2 : Int32) (μ : mo_U) => X105 v1 v2 (mo_put σ0 m ma μ))
  have hw := hw (fun (v1 : Int32) (v2 : Int32) (v3 : Int32) (μ : mo_U) => X113 v1 v2 v3 (mo_put σ0 m ma μ))
  have hw := hw (fun (v1 : Int32) (v2 : Int32) (v3 : Int32) (t1 : Int32) (t2 : Int32) (μ : mo_U) => X176 v1 v2 v3 (ma 38) t1 t2 (mo_put σ0 m ma μ))
  have hw := hw (by
    intro v1 μ hw
    refine hX2 _ _  ?_
    refine ⟨fun hc => ?_, fun hc => ?_⟩
    · have hw := hw.1 hc
      exact hw
    · have hw := hw.2 hc
      refine ⟨mo_ty0 hT, ma 38, mo_R822 hT, ?_⟩
      refine ⟨64, 38, mo_T38 hT, hw.1, fun σ14 e14 => ?_⟩
      replace hw := hw.2
      rw [mo_A σ0 m ma μ 38, mo_sA] at e14
      obtain ⟨μ14, f14⟩ : ∃ z, z = mu_sA μ 38 (upd (μ.2 38) v1.toNatClampNeg (vp_nar .boolean ((0 : Int32)))) := ⟨_, rfl⟩
      rw [← f14] at e14
      subst e14
      have hw := hw _ f14
      exact hw)
  have hw := hw (by
    intro v1 μ hw
    refine hX23 _ _  ?_
    refine ⟨mo_ty0 hT, ?_⟩
    try rw [mo_I σ0 m ma μ 808]
    refine ⟨fun hc => ?_, fun hc => ?_⟩
    · have hw := hw.1 hc
      exact hw
    · have hw := hw.2 hc
      exact hw)
  have hw := hw (by
    intro v1 v2 μ hw
    refine hX33 _ _ _  ?_
    refine ⟨mo_ty0 hT, ma 28, mo_R811 hT, ?_⟩
    refine ⟨17, 28, mo_T28 hT, hw.1, ?_⟩
    replace hw := hw.2
    try rw [mo_A σ0 m ma μ 28]
    refine ⟨fun hc => ?_, fun hc => ?_⟩
    · have hw := hw.1 hc
      exact hw
    · have hw := hw.2 hc
      refine ⟨mo_ty0 hT, ma 29, mo_R812 hT, ?_⟩
      refine ⟨85, 29, mo_T29 hT, hw.1, ?_⟩
      replace hw := hw.2
      try rw [mo_A σ0 m ma μ 29]
      refine ⟨fun hc => ?_, fun hc => ?_⟩
      · have hw := hw.1 hc
        exact hw
      · have hw := hw.2 hc
        refine ⟨mo_ty0 hT, ma 38, mo_R822 hT, ?_⟩
        refine ⟨mo_ty0 hT, ma 26, mo_R809 hT, ?_⟩
        refine ⟨17, 26, mo_T26 hT, hw.1, ?_⟩
        replace hw := hw.2
        try rw [mo_A σ0 m ma μ 26]
        refine ⟨mo_ty0 hT, ma 30, mo_R813 hT, ?_⟩
        refine ⟨85, 30, mo_T30 hT, hw.1, ?_⟩
        replace hw := hw.2
        try rw [mo_A σ0 m ma μ 30]
        refine ⟨64, 38, mo_T38 hT, hw.1, fun σ82 e82 => ?_⟩
        replace hw := hw.2
        rw [mo_A σ0 m ma μ 38, mo_sA] at e82
        obtain ⟨μ82, f82⟩ : ∃ z, z = mu_sA μ 38 (upd (μ.2 38) ((((8 : Int32)) * (μ.2 26 v1.toNatClampNeg)) + (μ.2 30 ((((5 : Int32)) * v1) + v2).toNatClampNeg)).toNatClampNeg (vp_nar .boolean ((1 : Int32)))) := ⟨_, rfl⟩
        rw [← f82] at e82
        subst e82
        have hw := hw _ f82
        exact hw)
  have hw := hw (by
    intro v1 μ hw
    refine hX97 _ _  ?_
    refine ⟨fun hc => ?_, fun hc => ?_⟩
    · have hw := hw.1 hc
      exact hQ _ hw
    · have hw := hw.2 hc
      exact hw)
  have hw := hw (by
    intro v1 v2 μ hw
    refine hX105 _ _ _  ?_
    refine ⟨fun hc => ?_, fun hc => ?_⟩
    · have hw := hw.1 hc
      exact hw
    · have hw := hw.2 hc
      exact hw)
  have hw := hw (by
    intro v1 v2 v3 μ hw
    refine hX113 _ _ _ _  ?_
    refine ⟨fun hc => ?_, fun hc => ?_⟩
    · have hw := hw.1 hc
      exact hw
    · have hw := hw.2 hc
      refine ⟨mo_ty0 hT, ma 38, mo_R822 hT, ?_⟩
      refine ⟨mo_ty0 hT, ma 38, mo_R822 hT, ?_⟩
      refine ⟨64, 38, mo_T38 hT, hw.1, ?_⟩
      replace hw := hw.2
      try rw [mo_A σ0 m ma μ 38]
      refine ⟨fun hc => ?_, fun hc => ?_⟩
      · have hw := hw.1 hc
        exact hw
      · have hw := hw.2 hc
        refine ⟨mo_ty0 hT, ma 38, mo_R822 hT, ?_⟩
        refine ⟨64, 38, mo_T38 hT, hw.1, ?_⟩
        replace hw := hw.2
        try rw [mo_A σ0 m ma μ 38]
        refine ⟨fun hc => ?_, fun hc => ?_⟩
        · have hw := hw.1 hc
          exact hw
        · have hw := hw.2 hc
          refine ⟨mo_ty0 hT, ma 38, mo_R822 hT, ?_⟩
          refine ⟨64, 38, mo_T38 hT, hw.1, ?_⟩
          replace hw := hw.2
          try rw [mo_A σ0 m ma μ 38]
          refine ⟨fun hc => ?_, fun hc => ?_⟩
          · have hw := hw.1 hc
            exact hw
          · have hw := hw.2 hc
            exact hw)
  have hw := hw (by
    intro v1 v2 v3 t1 t2 μ hw
    refine hX176 _ _ _ _ _ _ _  ?_
    refine ⟨64, 38, mo_T38 hT, hw.1, fun σ176 e176 => ?_⟩
    replace hw := hw.2
    rw [mo_A σ0 m ma μ 38, mo_sA] at e176
    obtain ⟨μ176, f176⟩ : ∃ z, z = mu_sA μ 38 (upd (μ.2 38) t1.toNatClampNeg (vp_nar .boolean t2)) := ⟨_, rfl⟩
    rw [← f176] at e176
    subst e176
    have hw := hw _ f176
    exact hw)
  exact hw
def mp_isBadRing (x1 : Int32) (μ : mo_U) (Q : Int32 → mo_U → Prop) : Prop := ∀ (X4 : Int32 → Int32 → mo_U → Prop) (X15 : Int32 → Int32 → Int32 → mo_U → Prop) (X85 : Int32 → Int32 → Int32 → Int32 → mo_U → Prop),
    (∀ (v2 : Int32) (v3 : Int32) (μ : mo_U), (((μ.1 808) ≤ v3 → (v2 = 0 ∨ v2 = 1) ∧ Q v2 μ) ∧ (¬ (μ.1 808) ≤ v3 → X15 v2 v3 ((0 : Int32)) μ)) → X4 v2 v3 μ) →
    (∀ (v2 : Int32) (v3 : Int32) (v4 : Int32) (μ : mo_U), (vp_in v3 17 ∧ (((μ.2 28 v3.toNatClampNeg) ≤ v4 → X4 v2 (v3 + (1 : Int32)) μ) ∧ (¬ (μ.2 28 v3.toNatClampNeg) ≤ v4 → vp_in ((((5 : Int32)) * v3) + v4) 85 ∧ (((μ.2 29 ((((5 : Int32)) * v3) + v4).toNatClampNeg) = ((2 : Int32)) → X85 v2 v3 v4 ((0 : Int32)) μ) ∧ (¬ (μ.2 29 ((((5 : Int32)) * v3) + v4).toNatClampNeg) = ((2 : Int32)) → mp_isStrict v3 v4 μ (fun (r49 : Int32) (μ49 : mo_U) => (r49 = 0 → X85 v2 v3 v4 ((0 : Int32)) μ49) ∧ (¬ r49 = 0 → vp_in ((((5 : Int32)) * v3) + v4) 85 ∧ (vp_in v3 17 ∧ (vp_in ((((8 : Int32)) * (μ49.2 30 ((((5 : Int32)) * v3) + v4).toNatClampNeg)) + (μ49.2 26 v3.toNatClampNeg)) 64 ∧ ((((μ49.2 38 ((((8 : Int32)) * (μ49.2 30 ((((5 : Int32)) * v3) + v4).toNatClampNeg)) + (μ49.2 26 v3.toNatClampNeg)).toNatClampNeg)) = 0 → X85 v2 v3 v4 ((0 : Int32)) μ49) ∧ (¬ ((μ49.2 38 ((((8 : Int32)) * (μ49.2 30 ((((5 : Int32)) * v3) + v4).toNatClampNeg)) + (μ49.2 26 v3.toNatClampNeg)).toNatClampNeg)) = 0 → X85 v2 v3 v4 ((1 : Int32)) μ49))))))))))) → X15 v2 v3 v4 μ) →
    (∀ (v2 : Int32) (v3 : Int32) (v4 : Int32) (t0 : Int32) (μ : mo_U), ((¬ v2 = 0 → X15 ((1 : Int32)) v3 (v4 + (1 : Int32)) μ) ∧ (v2 = 0 → (t0 = 0 → X15 ((0 : Int32)) v3 (v4 + (1 : Int32)) μ) ∧ (¬ t0 = 0 → vp_in v3 17 ∧ (((μ.2 26 v3.toNatClampNeg) = x1 → X15 ((1 : Int32)) v3 (v4 + (1 : Int32)) μ) ∧ (¬ (μ.2 26 v3.toNatClampNeg) = x1 → vp_in v3 17 ∧ (vp_in ((((8 : Int32)) * x1) + (μ.2 26 v3.toNatClampNeg)) 64 ∧ ((((μ.2 38 ((((8 : Int32)) * x1) + (μ.2 26 v3.toNatClampNeg)).toNatClampNeg)) = 0 → X15 ((0 : Int32)) v3 (v4 + (1 : Int32)) μ) ∧ (¬ ((μ.2 38 ((((8 : Int32)) * x1) + (μ.2 26 v3.toNatClampNeg)).toNatClampNeg)) = 0 → vp_in v3 17 ∧ (vp_in ((((8 : Int32)) * (μ.2 26 v3.toNatClampNeg)) + x1) 64 ∧ ((((μ.2 38 ((((8 : Int32)) * (μ.2 26 v3.toNatClampNeg)) + x1).toNatClampNeg)) = 0 → X15 ((0 : Int32)) v3 (v4 + (1 : Int32)) μ) ∧ (¬ ((μ.2 38 ((((8 : Int32)) * (μ.2 26 v3.toNatClampNeg)) + x1).toNatClampNeg)) = 0 → X15 ((1 : Int32)) v3 (v4 + (1 : Int32)) μ))))))))))) → X85 v2 v3 v4 t0 μ) →
    (X4 ((0 : Int32)) ((0 : Int32)) μ)
set_option maxHeartbeats 4000000 in
theorem mq_isBadRing {σ0 : z_S} {m : Nat} {ma : Nat → Nat} (hT : mo_T σ0 m ma) (x1 : Int32) (μ : mo_U) (Q : Int32 → mo_U → Prop) (Post : Int32 → z_S → Prop) (hQ : (∀ r μ', Q r μ' → Post r (mo_put σ0 m ma μ'))) (hw : mp_isBadRing x1 μ Q) : kp_Mo_isBadRing m x1 (mo_put σ0 m ma μ) Post := by
  unfold mp_isBadRing at hw
  unfold kp_Mo_isBadRing
  intro X4 X15 X85 hX4 hX15 hX85
  have hw := hw (fun (v2 : Int32) (v3 : Int32) (μ : mo_U) => X4 v2 v3 (mo_put σ0 m ma μ))
  have hw := hw (fun (v2 : Int32) (v3 : Int32) (v4 : Int32) (μ : mo_U) => X15 v2 v3 v4 (mo_put σ0 m ma μ))
  have hw := hw (fun (v2 : Int32) (v3 : Int32) (v4 : Int32) (t0 : Int32) (μ : mo_U) => X85 v2 v3 v4 t0 (mo_put σ0 m ma μ))
  have hw := hw (by
    intro v2 v3 μ hw
    refine hX4 _ _ _  ?_
    refine ⟨mo_ty0 hT, ?_⟩
    try rw [mo_I σ0 m ma μ 808]
    refine ⟨fun hc => ?_, fun hc => ?_⟩
    · have hw := hw.1 hc
      exact ⟨hw.1, hQ _ _ hw.2⟩
    · have hw := hw.2 hc
      exact hw)
  have hw := hw (by
    intro v2 v3 v4 μ hw
    refine hX15 _ _ _ _  ?_
    refine ⟨mo_ty0 hT, ma 28, mo_R811 hT, ?_⟩
    refine ⟨17, 28, mo_T28 hT, hw.1, ?_⟩
    replace hw := hw.2
    try rw [mo_A σ0 m ma μ 28]
    refine ⟨fun hc => ?_, fun hc => ?_⟩
    · have hw := hw.1 hc
      exact hw
    · have hw := hw.2 hc
      refine ⟨mo_ty0 hT, ma 29, mo_R812 hT, ?_⟩
      refine ⟨85, 29, mo_T29 hT, hw.1, ?_⟩
      replace hw := hw.2
      try rw [mo_A σ0 m ma μ 29]
      refine ⟨fun hc => ?_, fun hc => ?_⟩
      · have hw := hw.1 hc
        exact hw
      · have hw := hw.2 hc
        refine ⟨mo_ty0 hT, mq_isStrict hT v3 v4 μ _ _ (fun r49 μ49 hw => ?_) hw⟩
        refine ⟨fun hc => ?_, fun hc => ?_⟩
        · have hw := hw.1 hc
          exact hw
        · have hw := hw.2 hc
          refine ⟨mo_ty0 hT, ma 38, mo_R822 hT, ?_⟩
          refine ⟨mo_ty0 hT, ma 30, mo_R813 hT, ?_⟩
          refine ⟨85, 30, mo_T30 hT, hw.1, ?_⟩
          replace hw := hw.2
          try rw [mo_A σ0 m ma μ49 30]
          refine ⟨mo_ty0 hT, ma 26, mo_R809 hT, ?_⟩
          refine ⟨17, 26, mo_T26 hT, hw.1, ?_⟩
          replace hw := hw.2
          try rw [mo_A σ0 m ma μ49 26]
          refine ⟨64, 38, mo_T38 hT, hw.1, ?_⟩
          replace hw := hw.2
          try rw [mo_A σ0 m ma μ49 38]
          refine ⟨fun hc => ?_, fun hc => ?_⟩
          · have hw := hw.1 hc
            exact hw
          · have hw := hw.2 hc
            exact hw)
  have hw := hw (by
    intro v2 v3 v4 t0 μ hw
    refine hX85 _ _ _ _ _  ?_
    refine ⟨fun hc => ?_, fun hc => ?_⟩
    · have hw := hw.1 hc
      exact hw
    · have hw := hw.2 hc
      refine ⟨fun hc => ?_, fun hc => ?_⟩
      · have hw := hw.1 hc
        exact hw
      · have hw := hw.2 hc
        refine ⟨mo_ty0 hT, ma 26, mo_R809 hT, ?_⟩
        refine ⟨17, 26, mo_T26 hT, hw.1, ?_⟩
        replace hw := hw.2
        try rw [mo_A σ0 m ma μ 26]
        refine ⟨fun hc => ?_, fun hc => ?_⟩
        · have hw := hw.1 hc
          exact hw
        · have hw := hw.2 hc
          refine ⟨mo_ty0 hT, ma 38, mo_R822 hT, ?_⟩
          refine ⟨mo_ty0 hT, ma 26, mo_R809 hT, ?_⟩
          refine ⟨17, 26, mo_T26 hT, hw.1, ?_⟩
          replace hw := hw.2
          try rw [mo_A σ0 m ma μ 26]
          refine ⟨64, 38, mo_T38 hT, hw.1, ?_⟩
          replace hw := hw.2
          try rw [mo_A σ0 m ma μ 38]
          refine ⟨fun hc => ?_, fun hc => ?_⟩
          · have hw := hw.1 hc
            exact hw
          · have hw := hw.2 hc
            refine ⟨mo_ty0 hT, ma 38, mo_R822 hT, ?_⟩
            refine ⟨mo_ty0 hT, ma 26, mo_R809 hT, ?_⟩
            refine ⟨17, 26, mo_T26 hT, hw.1, ?_⟩
            replace hw := hw.2
            try rw [mo_A σ0 m ma μ 26]
            refine ⟨64, 38, mo_T38 hT, hw.1, ?_⟩
            replace hw := hw.2
            try rw [mo_A σ0 m ma μ 38]
            refine ⟨fun hc => ?_, fun hc => ?_⟩
            · have hw := hw.1 hc
              exact hw
            · have hw := hw.2 hc
              exact hw)
  exact hw
def mp_findRing (μ : mo_U) (Q : mo_U → Prop) : Prop := ∀ (X9 : Int32 → Int32 → mo_U → Prop) (X35 : Int32 → Int32 → mo_U → Prop) (X89 : Int32 → Int32 → Int32 → Int32 → mo_U → Prop),
    (∀ (v1 : Int32) (v2 : Int32) (μ : mo_U), ((v2 < 0 → X35 v1 ((0 : Int32)) μ) ∧ (¬ v2 < 0 → mp_isBadRing v2 μ (fun (r15 : Int32) (μ15 : mo_U) => (r15 = 0 → X9 v1 (v2 + (-1 : Int32)) μ15) ∧ (¬ r15 = 0 → X9 v2 (v2 + (-1 : Int32)) μ15)))) → X9 v1 v2 μ) →
    (∀ (v1 : Int32) (v2 : Int32) (μ : mo_U), ((((8 : Int32)) ≤ v2 → Q μ) ∧ (¬ ((8 : Int32)) ≤ v2 → (v1 = ((-1 : Int32)) → X89 v1 v2 v2 ((0 : Int32)) μ) ∧ (¬ v1 = ((-1 : Int32)) → (v2 = v1 → X89 v1 v2 v2 ((1 : Int32)) μ) ∧ (¬ v2 = v1 → vp_in ((((8 : Int32)) * v1) + v2) 64 ∧ ((((μ.2 38 ((((8 : Int32)) * v1) + v2).toNatClampNeg)) = 0 → X89 v1 v2 v2 ((0 : Int32)) μ) ∧ (¬ ((μ.2 38 ((((8 : Int32)) * v1) + v2).toNatClampNeg)) = 0 → vp_in ((((8 : Int32)) * v2) + v1) 64 ∧ ((((μ.2 38 ((((8 : Int32)) * v2) + v1).toNatClampNeg)) = 0 → X89 v1 v2 v2 ((0 : Int32)) μ) ∧ (¬ ((μ.2 38 ((((8 : Int32)) * v2) + v1).toNatClampNeg)) = 0 → X89 v1 v2 v2 ((1 : Int32)) μ)))))))) → X35 v1 v2 μ) →
    (∀ (v1 : Int32) (v2 : Int32) (t1 : Int32) (t2 : Int32) (μ : mo_U), (vp_in t1 8 ∧ ∀ μ89, μ89 = mu_sA μ 39 (upd (μ.2 39) t1.toNatClampNeg (vp_nar .boolean t2)) → X35 v1 (v2 + (1 : Int32)) μ89) → X89 v1 v2 t1 t2 μ) →
    (X9 ((-1 : Int32)) ((μ.1 817) - ((1 : Int32))) μ)
set_option maxHeartbeats 4000000 in
theorem mq_findRing {σ0 : z_S} {m : Nat} {ma : Nat → Nat} (hT : mo_T σ0 m ma) (μ : mo_U) (Q : mo_U → Prop) (Post : z_S → Prop) (hQ : (∀ μ', Q μ' → Post (mo_put σ0 m ma μ'))) (hw : mp_findRing μ Q) : kp_Mo_findRing m (mo_put σ0 m ma μ) Post := by
  unfold mp_findRing at hw
  unfold kp_Mo_findRing
  intro X9 X35 X89 hX9 hX35 hX89
  have hw := hw (fun (v1 : Int32) (v2 : Int32) (μ : mo_U) => X9 v1 v2 (mo_put σ0 m ma μ))
  have hw := hw (fun (v1 : Int32) (v2 : Int32) (μ : mo_U) => X35 v1 v2 (mo_put σ0 m ma μ))
  have hw := hw (fun (v1 : Int32) (v2 : Int32) (t1 : Int32) (t2 : Int32) (μ : mo_U) => X89 v1 v2 (ma 39) t1 t2 (mo_put σ0 m ma μ))
  have hw := hw (by
    intro v1 v2 μ hw
    refine hX9 _ _ _  ?_
    refine ⟨fun hc => ?_, fun hc => ?_⟩
    · have hw := hw.1 hc
      exact hw
    · have hw := hw.2 hc
      refine ⟨mo_ty0 hT, mq_isBadRing hT v2 μ _ _ (fun r15 μ15 hw => ?_) hw⟩
      refine ⟨fun hc => ?_, fun hc => ?_⟩
      · have hw := hw.1 hc
        exact hw
      · have hw := hw.2 hc
        exact hw)
  have hw := hw (by
    intro v1 v2 μ hw
    refine hX35 _ _ _  ?_
    refine ⟨fun hc => ?_, fun hc => ?_⟩
    · have hw := hw.1 hc
      exact hQ _ hw
    · have hw := hw.2 hc
      refine ⟨mo_ty0 hT, ma 39, mo_R823 hT, ?_⟩
      refine ⟨fun hc => ?_, fun hc => ?_⟩
      · have hw := hw.1 hc
        exact hw
      · have hw := hw.2 hc
        refine ⟨fun hc => ?_, fun hc => ?_⟩
        · have hw := hw.1 hc
          exact hw
        · have hw := hw.2 hc
          refine ⟨mo_ty0 hT, ma 38, mo_R822 hT, ?_⟩
          refine ⟨64, 38, mo_T38 hT, hw.1, ?_⟩
          replace hw := hw.2
          try rw [mo_A σ0 m ma μ 38]
          refine ⟨fun hc => ?_, fun hc => ?_⟩
          · have hw := hw.1 hc
            exact hw
          · have hw := hw.2 hc
            refine ⟨mo_ty0 hT, ma 38, mo_R822 hT, ?_⟩
            refine ⟨64, 38, mo_T38 hT, hw.1, ?_⟩
            replace hw := hw.2
            try rw [mo_A σ0 m ma μ 38]
            refine ⟨fun hc => ?_, fun hc => ?_⟩
            · have hw := hw.1 hc
              exact hw
            · have hw := hw.2 hc
              exact hw)
  have hw := hw (by
    intro v1 v2 t1 t2 μ hw
    refine hX89 _ _ _ _ _ _  ?_
    refine ⟨8, 39, mo_T39 hT, hw.1, fun σ89 e89 => ?_⟩
    replace hw := hw.2
    rw [mo_A σ0 m ma μ 39, mo_sA] at e89
    obtain ⟨μ89, f89⟩ : ∃ z, z = mu_sA μ 39 (upd (μ.2 39) t1.toNatClampNeg (vp_nar .boolean t2)) := ⟨_, rfl⟩
    rw [← f89] at e89
    subst e89
    have hw := hw _ f89
    exact hw)
  refine ⟨mo_ty0 hT, ?_⟩
  try rw [mo_I σ0 m ma μ 817]
  exact hw
def mp_base (x1 : Int32) (x2 : Int32) (μ : mo_U) (Q : Int32 → mo_U → Prop) : Prop :=     (Q ((((120 : Int32)) * x1) + (((3 : Int32)) * x2)) μ)
set_option maxHeartbeats 4000000 in
theorem mq_base {σ0 : z_S} {m : Nat} {ma : Nat → Nat} (hT : mo_T σ0 m ma) (x1 : Int32) (x2 : Int32) (μ : mo_U) (Q : Int32 → mo_U → Prop) (Post : Int32 → z_S → Prop) (hQ : (∀ r μ', Q r μ' → Post r (mo_put σ0 m ma μ'))) (hw : mp_base x1 x2 μ Q) : kp_Mo_base m x1 x2 (mo_put σ0 m ma μ) Post := by
  unfold mp_base at hw
  unfold kp_Mo_base
  exact hQ _ _ hw
def mp_compare (x1 : Int32) (x2 : Int32) (x3 : Int32) (x4 : Int32) (x5 : Int32) (μ : mo_U) (Q : Int32 → mo_U → Prop) : Prop := ∀ (X72 : Int32 → mo_U → Prop),
    (∀ (t0 : Int32) (μ : mo_U), ((0 ≤ t0 → (t0 ≤ 0 → Q ((0 : Int32)) μ) ∧ (¬ t0 ≤ 0 → Q ((1 : Int32)) μ)) ∧ (¬ 0 ≤ t0 → Q ((-1 : Int32)) μ)) → X72 t0 μ) →
    (mp_base x1 x2 μ (fun (r3 : Int32) (μ3 : mo_U) => vp_in r3 960 ∧ ((x3 = (μ3.2 40 r3.toNatClampNeg) → vp_in (r3 + ((1 : Int32))) 960 ∧ ((x4 = (μ3.2 40 (r3 + ((1 : Int32))).toNatClampNeg) → vp_in (r3 + ((2 : Int32))) 960 ∧ (X72 (x5 - (μ3.2 40 (r3 + ((2 : Int32))).toNatClampNeg)) μ3)) ∧ (¬ x4 = (μ3.2 40 (r3 + ((1 : Int32))).toNatClampNeg) → vp_in (r3 + ((1 : Int32))) 960 ∧ (X72 (x4 - (μ3.2 40 (r3 + ((1 : Int32))).toNatClampNeg)) μ3)))) ∧ (¬ x3 = (μ3.2 40 r3.toNatClampNeg) → vp_in r3 960 ∧ (X72 (x3 - (μ3.2 40 r3.toNatClampNeg)) μ3)))))
set_option maxHeartbeats 4000000 in
theorem mq_compare {σ0 : z_S} {m : Nat} {ma : Nat → Nat} (hT : mo_T σ0 m ma) (x1 : Int32) (x2 : Int32) (x3 : Int32) (x4 : Int32) (x5 : Int32) (μ : mo_U) (Q : Int32 → mo_U → Prop) (Post : Int32 → z_S → Prop) (hQ : (∀ r μ', Q r μ' → Post r (mo_put σ0 m ma μ'))) (hw : mp_compare x1 x2 x3 x4 x5 μ Q) : kp_Mo_compare m x1 x2 x3 x4 x5 (mo_put σ0 m ma μ) Post := by
  unfold mp_compare at hw
  unfold kp_Mo_compare
  intro X72 hX72
  have hw := hw (fun (t0 : Int32) (μ : mo_U) => X72 t0 (mo_put σ0 m ma μ))
  have hw := hw (by
    intro t0 μ hw
    refine hX72 _ _  ?_
    refine ⟨fun hc => ?_, fun hc => ?_⟩
    · have hw := hw.1 hc
      refine ⟨fun hc => ?_, fun hc => ?_⟩
      · have hw := hw.1 hc
        exact hQ _ _ hw
      · have hw := hw.2 hc
        exact hQ _ _ hw
    · have hw := hw.2 hc
      exact hQ _ _ hw)
  refine ⟨mo_ty0 hT, mq_base hT x1 x2 μ _ _ (fun r3 μ3 hw => ?_) hw⟩
  refine ⟨mo_ty0 hT, ma 40, mo_R824 hT, ?_⟩
  refine ⟨960, 40, mo_T40 hT, hw.1, ?_⟩
  replace hw := hw.2
  try rw [mo_A σ0 m ma μ3 40]
  refine ⟨fun hc => ?_, fun hc => ?_⟩
  · have hw := hw.1 hc
    refine ⟨mo_ty0 hT, ma 40, mo_R824 hT, ?_⟩
    refine ⟨960, 40, mo_T40 hT, hw.1, ?_⟩
    replace hw := hw.2
    try rw [mo_A σ0 m ma μ3 40]
    refine ⟨fun hc => ?_, fun hc => ?_⟩
    · have hw := hw.1 hc
      refine ⟨mo_ty0 hT, ma 40, mo_R824 hT, ?_⟩
      refine ⟨960, 40, mo_T40 hT, hw.1, ?_⟩
      replace hw := hw.2
      try rw [mo_A σ0 m ma μ3 40]
      exact hw
    · have hw := hw.2 hc
      refine ⟨mo_ty0 hT, ma 40, mo_R824 hT, ?_⟩
      refine ⟨960, 40, mo_T40 hT, hw.1, ?_⟩
      replace hw := hw.2
      try rw [mo_A σ0 m ma μ3 40]
      exact hw
  · have hw := hw.2 hc
    refine ⟨mo_ty0 hT, ma 40, mo_R824 hT, ?_⟩
    refine ⟨960, 40, mo_T40 hT, hw.1, ?_⟩
    replace hw := hw.2
    try rw [mo_A σ0 m ma μ3 40]
    exact hw
def mp_find (x1 : Int32) (x2 : Int32) (x3 : Int32) (x4 : Int32) (μ : mo_U) (Q : Int32 → mo_U → Prop) : Prop := ∀ (X3 : Int32 → mo_U → Prop),
    (∀ (v5 : Int32) (μ : mo_U), (vp_in x1 8 ∧ (((μ.2 42 x1.toNatClampNeg) ≤ v5 → Q ((-1 : Int32)) μ) ∧ (¬ (μ.2 42 x1.toNatClampNeg) ≤ v5 → mp_compare x1 v5 x2 x3 x4 μ (fun (r22 : Int32) (μ22 : mo_U) => (¬ r22 = 0 → X3 (v5 + (1 : Int32)) μ22) ∧ (r22 = 0 → Q v5 μ22))))) → X3 v5 μ) →
    (X3 ((0 : Int32)) μ)
set_option maxHeartbeats 4000000 in
theorem mq_find {σ0 : z_S} {m : Nat} {ma : Nat → Nat} (hT : mo_T σ0 m ma) (x1 : Int32) (x2 : Int32) (x3 : Int32) (x4 : Int32) (μ : mo_U) (Q : Int32 → mo_U → Prop) (Post : Int32 → z_S → Prop) (hQ : (∀ r μ', Q r μ' → Post r (mo_put σ0 m ma μ'))) (hw : mp_find x1 x2 x3 x4 μ Q) : kp_Mo_find m x1 x2 x3 x4 (mo_put σ0 m ma μ) Post := by
  unfold mp_find at hw
  unfold kp_Mo_find
  intro X3 hX3
  have hw := hw (fun (v5 : Int32) (μ : mo_U) => X3 v5 (mo_put σ0 m ma μ))
  have hw := hw (by
    intro v5 μ hw
    refine hX3 _ _  ?_
    refine ⟨mo_ty0 hT, ma 42, mo_R826 hT, ?_⟩
    refine ⟨8, 42, mo_T42 hT, hw.1, ?_⟩
    replace hw := hw.2
    try rw [mo_A σ0 m ma μ 42]
    refine ⟨fun hc => ?_, fun hc => ?_⟩
    · have hw := hw.1 hc
      exact hQ _ _ hw
    · have hw := hw.2 hc
      refine ⟨mo_ty0 hT, mq_compare hT x1 v5 x2 x3 x4 μ _ _ (fun r22 μ22 hw => ?_) hw⟩
      refine ⟨fun hc => ?_, fun hc => ?_⟩
      · have hw := hw.1 hc
        exact hw
      · have hw := hw.2 hc
        exact hQ _ _ hw)
  exact hw
def mp_move (x1 : Int32) (x2 : Int32) (x3 : Int32) (μ : mo_U) (Q : mo_U → Prop) : Prop := ∀ (X3 : Int32 → mo_U → Prop),
    (∀ (v4 : Int32) (μ : mo_U), ((((3 : Int32)) ≤ v4 → vp_in ((((40 : Int32)) * x1) + x2) 320 ∧ (vp_in ((((40 : Int32)) * x1) + x3) 320 ∧ ∀ μ64, μ64 = mu_sA μ 41 (upd (μ.2 41) ((((40 : Int32)) * x1) + x3).toNatClampNeg (μ.2 41 ((((40 : Int32)) * x1) + x2).toNatClampNeg)) → Q μ64)) ∧ (¬ ((3 : Int32)) ≤ v4 → mp_base x1 x3 μ (fun (r16 : Int32) (μ16 : mo_U) => mp_base x1 x2 μ16 (fun (r29 : Int32) (μ29 : mo_U) => vp_in (r29 + v4) 960 ∧ (vp_in (r16 + v4) 960 ∧ ∀ μ36, μ36 = mu_sA μ29 40 (upd (μ29.2 40) (r16 + v4).toNatClampNeg (μ29.2 40 (r29 + v4).toNatClampNeg)) → X3 (v4 + (1 : Int32)) μ36))))) → X3 v4 μ) →
    (X3 ((0 : Int32)) μ)
set_option maxHeartbeats 4000000 in
theorem mq_move {σ0 : z_S} {m : Nat} {ma : Nat → Nat} (hT : mo_T σ0 m ma) (x1 : Int32) (x2 : Int32) (x3 : Int32) (μ : mo_U) (Q : mo_U → Prop) (Post : z_S → Prop) (hQ : (∀ μ', Q μ' → Post (mo_put σ0 m ma μ'))) (hw : mp_move x1 x2 x3 μ Q) : kp_Mo_move m x1 x2 x3 (mo_put σ0 m ma μ) Post := by
  unfold mp_move at hw
  unfold kp_Mo_move
  intro X3 hX3
  have hw := hw (fun (v4 : Int32) (μ : mo_U) => X3 v4 (mo_put σ0 m ma μ))
  have hw := hw (by
    intro v4 μ hw
    refine hX3 _ _  ?_
    refine ⟨fun hc => ?_, fun hc => ?_⟩
    · have hw := hw.1 hc
      refine ⟨mo_ty0 hT, ma 41, mo_R825 hT, ?_⟩
      refine ⟨mo_ty0 hT, ma 41, mo_R825 hT, ?_⟩
      refine ⟨320, 41, mo_T41 hT, hw.1, ?_⟩
      replace hw := hw.2
      try rw [mo_A σ0 m ma μ 41]
      refine ⟨320, 41, mo_T41 hT, hw.1, fun σ64 e64 => ?_⟩
      replace hw := hw.2
      rw [mo_A σ0 m ma μ 41, mo_sA] at e64
      obtain ⟨μ64, f64⟩ : ∃ z, z = mu_sA μ 41 (upd (μ.2 41) ((((40 : Int32)) * x1) + x3).toNatClampNeg (μ.2 41 ((((40 : Int32)) * x1) + x2).toNatClampNeg)) := ⟨_, rfl⟩
      rw [← f64] at e64
      subst e64
      have hw := hw _ f64
      exact hQ _ hw
    · have hw := hw.2 hc
      refine ⟨mo_ty0 hT, ma 40, mo_R824 hT, ?_⟩
      refine ⟨mo_ty0 hT, mq_base hT x1 x3 μ _ _ (fun r16 μ16 hw => ?_) hw⟩
      refine ⟨mo_ty0 hT, ma 40, mo_R824 hT, ?_⟩
      refine ⟨mo_ty0 hT, mq_base hT x1 x2 μ16 _ _ (fun r29 μ29 hw => ?_) hw⟩
      refine ⟨960, 40, mo_T40 hT, hw.1, ?_⟩
      replace hw := hw.2
      try rw [mo_A σ0 m ma μ29 40]
      refine ⟨960, 40, mo_T40 hT, hw.1, fun σ36 e36 => ?_⟩
      replace hw := hw.2
      rw [mo_A σ0 m ma μ29 40, mo_sA] at e36
      obtain ⟨μ36, f36⟩ : ∃ z, z = mu_sA μ29 40 (upd (μ29.2 40) (r16 + v4).toNatClampNeg (μ29.2 40 (r29 + v4).toNatClampNeg)) := ⟨_, rfl⟩
      rw [← f36] at e36
      subst e36
      have hw := hw _ f36
      exact hw)
  exact hw
def mp_insert (x1 : Int32) (x2 : Int32) (x3 : Int32) (x4 : Int32) (x5 : Int32) (μ : mo_U) (Q : Int32 → mo_U → Prop) : Prop := ∀ (X21 : Int32 → mo_U → Prop) (X59 : Int32 → mo_U → Prop),
    (∀ (v6 : Int32) (μ : mo_U), ((v6 ≤ 0 → X59 v6 μ) ∧ (¬ v6 ≤ 0 → mp_compare x1 (v6 - ((1 : Int32))) x2 x3 x4 μ (fun (r36 : Int32) (μ36 : mo_U) => (0 ≤ r36 → X59 v6 μ36) ∧ (¬ 0 ≤ r36 → mp_move x1 (v6 - ((1 : Int32))) v6 μ36 (fun (μ50 : mo_U) => X21 (v6 + (-1 : Int32)) μ50))))) → X21 v6 μ) →
    (∀ (v6 : Int32) (μ : mo_U), (mp_base x1 v6 μ (fun (r63 : Int32) (μ63 : mo_U) => vp_in r63 960 ∧ ∀ μ75, μ75 = mu_sA μ63 40 (upd (μ63.2 40) r63.toNatClampNeg x2) → vp_in (r63 + ((1 : Int32))) 960 ∧ ∀ μ85, μ85 = mu_sA μ75 40 (upd (μ75.2 40) (r63 + ((1 : Int32))).toNatClampNeg x3) → vp_in (r63 + ((2 : Int32))) 960 ∧ ∀ μ96, μ96 = mu_sA μ85 40 (upd (μ85.2 40) (r63 + ((2 : Int32))).toNatClampNeg x4) → vp_in ((((40 : Int32)) * x1) + v6) 320 ∧ ∀ μ110, μ110 = mu_sA μ96 41 (upd (μ96.2 41) ((((40 : Int32)) * x1) + v6).toNatClampNeg x5) → vp_in x1 8 ∧ (vp_in x1 8 ∧ ∀ μ120, μ120 = mu_sA μ110 42 (upd (μ110.2 42) x1.toNatClampNeg ((μ110.2 42 x1.toNatClampNeg) + ((1 : Int32)))) → Q ((1 : Int32)) μ120))) → X59 v6 μ) →
    (vp_in x1 8 ∧ ((¬ (μ.2 42 x1.toNatClampNeg) = ((40 : Int32)) → vp_in x1 8 ∧ (X21 (μ.2 42 x1.toNatClampNeg) μ)) ∧ ((μ.2 42 x1.toNatClampNeg) = ((40 : Int32)) → Q ((0 : Int32)) μ)))
set_option maxHeartbeats 4000000 in
theorem mq_insert {σ0 : z_S} {m : Nat} {ma : Nat → Nat} (hT : mo_T σ0 m ma) (x1 : Int32) (x2 : Int32) (x3 : Int32) (x4 : Int32) (x5 : Int32) (μ : mo_U) (Q : Int32 → mo_U → Prop) (Post : Int32 → z_S → Prop) (hQ : (∀ r μ', Q r μ' → Post r (mo_put σ0 m ma μ'))) (hw : mp_insert x1 x2 x3 x4 x5 μ Q) : kp_Mo_insert m x1 x2 x3 x4 x5 (mo_put σ0 m ma μ) Post := by
  unfold mp_insert at hw
  unfold kp_Mo_insert
  intro X21 X59 hX21 hX59
  have hw := hw (fun (v6 : Int32) (μ : mo_U) => X21 v6 (mo_put σ0 m ma μ))
  have hw := hw (fun (v6 : Int32) (μ : mo_U) => X59 v6 (mo_put σ0 m ma μ))
  have hw := hw (by
    intro v6 μ hw
    refine hX21 _ _  ?_
    refine ⟨fun hc => ?_, fun hc => ?_⟩
    · have hw := hw.1 hc
      exact hw
    · have hw := hw.2 hc
      refine ⟨mo_ty0 hT, mq_compare hT x1 (v6 - ((1 : Int32))) x2 x3 x4 μ _ _ (fun r36 μ36 hw => ?_) hw⟩
      refine ⟨fun hc => ?_, fun hc => ?_⟩
      · have hw := hw.1 hc
        exact hw
      · have hw := hw.2 hc
        refine ⟨mo_ty0 hT, mq_move hT x1 (v6 - ((1 : Int32))) v6 μ36 _ _ (fun μ50 hw => ?_) hw⟩
        exact hw)
  have hw := hw (by
    intro v6 μ hw
    refine hX59 _ _  ?_
    refine ⟨mo_ty0 hT, mq_base hT x1 v6 μ _ _ (fun r63 μ63 hw => ?_) hw⟩
    refine ⟨mo_ty0 hT, ma 40, mo_R824 hT, ?_⟩
    refine ⟨960, 40, mo_T40 hT, hw.1, fun σ75 e75 => ?_⟩
    replace hw := hw.2
    rw [mo_A σ0 m ma μ63 40, mo_sA] at e75
    obtain ⟨μ75, f75⟩ : ∃ z, z = mu_sA μ63 40 (upd (μ63.2 40) r63.toNatClampNeg x2) := ⟨_, rfl⟩
    rw [← f75] at e75
    subst e75
    have hw := hw _ f75
    refine ⟨mo_ty0 hT, ma 40, mo_R824 hT, ?_⟩
    refine ⟨960, 40, mo_T40 hT, hw.1, fun σ85 e85 => ?_⟩
    replace hw := hw.2
    rw [mo_A σ0 m ma μ75 40, mo_sA] at e85
    obtain ⟨μ85, f85⟩ : ∃ z, z = mu_sA μ75 40 (upd (μ75.2 40) (r63 + ((1 : Int32))).toNatClampNeg x3) := ⟨_, rfl⟩
    rw [← f85] at e85
    subst e85
    have hw := hw _ f85
    refine ⟨mo_ty0 hT, ma 40, mo_R824 hT, ?_⟩
    refine ⟨960, 40, mo_T40 hT, hw.1, fun σ96 e96 => ?_⟩
    replace hw := hw.2
    rw [mo_A σ0 m ma μ85 40, mo_sA] at e96
    obtain ⟨μ96, f96⟩ : ∃ z, z = mu_sA μ85 40 (upd (μ85.2 40) (r63 + ((2 : Int32))).toNatClampNeg x4) := ⟨_, rfl⟩
    rw [← f96] at e96
    subst e96
    have hw := hw _ f96
    refine ⟨mo_ty0 hT, ma 41, mo_R825 hT, ?_⟩
    refine ⟨320, 41, mo_T41 hT, hw.1, fun σ110 e110 => ?_⟩
    replace hw := hw.2
    rw [mo_A σ0 m ma μ96 41, mo_sA] at e110
    obtain ⟨μ110, f110⟩ : ∃ z, z = mu_sA μ96 41 (upd (μ96.2 41) ((((40 : Int32)) * x1) + v6).toNatClampNeg x5) := ⟨_, rfl⟩
    rw [← f110] at e110
    subst e110
    have hw := hw _ f110
    refine ⟨mo_ty0 hT, ma 42, mo_R826 hT, ?_⟩
    refine ⟨8, 42, mo_T42 hT, hw.1, ?_⟩
    replace hw := hw.2
    try rw [mo_A σ0 m ma μ110 42]
    refine ⟨8, 42, mo_T42 hT, hw.1, fun σ120 e120 => ?_⟩
    replace hw := hw.2
    rw [mo_A σ0 m ma μ110 42, mo_sA] at e120
    obtain ⟨μ120, f120⟩ : ∃ z, z = mu_sA μ110 42 (upd (μ110.2 42) x1.toNatClampNeg ((μ110.2 42 x1.toNatClampNeg) + ((1 : Int32)))) := ⟨_, rfl⟩
    rw [← f120] at e120
    subst e120
    have hw := hw _ f120
    exact hQ _ _ hw)
  refine ⟨mo_ty0 hT, ma 42, mo_R826 hT, ?_⟩
  refine ⟨8, 42, mo_T42 hT, hw.1, ?_⟩
  replace hw := hw.2
  try rw [mo_A σ0 m ma μ 42]
  refine ⟨fun hc => ?_, fun hc => ?_⟩
  · have hw := hw.1 hc
    refine ⟨mo_ty0 hT, ma 42, mo_R826 hT, ?_⟩
    refine ⟨8, 42, mo_T42 hT, hw.1, ?_⟩
    replace hw := hw.2
    try rw [mo_A σ0 m ma μ 42]
    exact hw
  · have hw := hw.2 hc
    exact hQ _ _ hw
def mp_remove (x1 : Int32) (x2 : Int32) (μ : mo_U) (Q : mo_U → Prop) : Prop := ∀ (X4 : Int32 → mo_U → Prop),
    (∀ (v3 : Int32) (μ : mo_U), (vp_in x1 8 ∧ (((μ.2 42 x1.toNatClampNeg) ≤ v3 → vp_in x1 8 ∧ (vp_in x1 8 ∧ ∀ μ38, μ38 = mu_sA μ 42 (upd (μ.2 42) x1.toNatClampNeg ((μ.2 42 x1.toNatClampNeg) - ((1 : Int32)))) → Q μ38)) ∧ (¬ (μ.2 42 x1.toNatClampNeg) ≤ v3 → mp_move x1 v3 (v3 - ((1 : Int32))) μ (fun (μ20 : mo_U) => X4 (v3 + (1 : Int32)) μ20)))) → X4 v3 μ) →
    (X4 (x2 + ((1 : Int32))) μ)
set_option maxHeartbeats 4000000 in
theorem mq_remove {σ0 : z_S} {m : Nat} {ma : Nat → Nat} (hT : mo_T σ0 m ma) (x1 : Int32) (x2 : Int32) (μ : mo_U) (Q : mo_U → Prop) (Post : z_S → Prop) (hQ : (∀ μ', Q μ' → Post (mo_put σ0 m ma μ'))) (hw : mp_remove x1 x2 μ Q) : kp_Mo_remove m x1 x2 (mo_put σ0 m ma μ) Post := by
  unfold mp_remove at hw
  unfold kp_Mo_remove
  intro X4 hX4
  have hw := hw (fun (v3 : Int32) (μ : mo_U) => X4 v3 (mo_put σ0 m ma μ))
  have hw := hw (by
    intro v3 μ hw
    refine hX4 _ _  ?_
    refine ⟨mo_ty0 hT, ma 42, mo_R826 hT, ?_⟩
    refine ⟨8, 42, mo_T42 hT, hw.1, ?_⟩
    replace hw := hw.2
    try rw [mo_A σ0 m ma μ 42]
    refine ⟨fun hc => ?_, fun hc => ?_⟩
    · have hw := hw.1 hc
      refine ⟨mo_ty0 hT, ma 42, mo_R826 hT, ?_⟩
      refine ⟨8, 42, mo_T42 hT, hw.1, ?_⟩
      replace hw := hw.2
      try rw [mo_A σ0 m ma μ 42]
      refine ⟨8, 42, mo_T42 hT, hw.1, fun σ38 e38 => ?_⟩
      replace hw := hw.2
      rw [mo_A σ0 m ma μ 42, mo_sA] at e38
      obtain ⟨μ38, f38⟩ : ∃ z, z = mu_sA μ 42 (upd (μ.2 42) x1.toNatClampNeg ((μ.2 42 x1.toNatClampNeg) - ((1 : Int32)))) := ⟨_, rfl⟩
      rw [← f38] at e38
      subst e38
      have hw := hw _ f38
      exact hQ _ hw
    · have hw := hw.2 hc
      refine ⟨mo_ty0 hT, mq_move hT x1 v3 (v3 - ((1 : Int32))) μ _ _ (fun μ20 hw => ?_) hw⟩
      exact hw)
  exact hw
def mp_begin (x1 : Int32) (μ : mo_U) (Q : mo_U → Prop) : Prop := ∀ (X12 : Int32 → mo_U → Prop) (X67 : Int32 → mo_U → Prop),
    (∀ (v2 : Int32) (μ : mo_U), (vp_in x1 17 ∧ (((μ.2 28 x1.toNatClampNeg) ≤ v2 → X67 ((0 : Int32)) μ) ∧ (¬ (μ.2 28 x1.toNatClampNeg) ≤ v2 → vp_in ((((5 : Int32)) * x1) + v2) 85 ∧ ((¬ ((μ.2 29 ((((5 : Int32)) * x1) + v2).toNatClampNeg)) = 0 → X12 (v2 + (1 : Int32)) μ) ∧ (((μ.2 29 ((((5 : Int32)) * x1) + v2).toNatClampNeg)) = 0 → vp_in (μ.1 841) 3 ∧ ∀ μ48, μ48 = mu_sA μ 52 (upd (μ.2 52) (μ.1 841).toNatClampNeg ((((5 : Int32)) * x1) + v2)) → ∀ μ56, μ56 = mu_sI μ48 841 ((μ48.1 841) + ((1 : Int32))) → X12 (v2 + (1 : Int32)) μ56))))) → X12 v2 μ) →
    (∀ (v2 : Int32) (μ : mo_U), ((((26 : Int32)) ≤ v2 → ∀ μ88, μ88 = mu_sI μ 840 ((0 : Int32)) → vp_in ((0 : Int32)) 4 ∧ ∀ μ97, μ97 = mu_sA μ88 51 (upd (μ88.2 51) ((0 : Int32)).toNatClampNeg ((0 : Int32))) → Q μ97) ∧ (¬ ((26 : Int32)) ≤ v2 → vp_in v2 104 ∧ ∀ μ79, μ79 = mu_sA μ 50 (upd (μ.2 50) v2.toNatClampNeg ((-1 : Int32))) → X67 (v2 + (1 : Int32)) μ79)) → X67 v2 μ) →
    (∀ μ2, μ2 = mu_sI μ 842 x1 → ∀ μ7, μ7 = mu_sI μ2 841 ((0 : Int32)) → X12 ((0 : Int32)) μ7)
set_option maxHeartbeats 4000000 in
theorem mq_begin {σ0 : z_S} {m : Nat} {ma : Nat → Nat} (hT : mo_T σ0 m ma) (x1 : Int32) (μ : mo_U) (Q : mo_U → Prop) (Post : z_S → Prop) (hQ : (∀ μ', Q μ' → Post (mo_put σ0 m ma μ'))) (hw : mp_begin x1 μ Q) : kp_Mo_begin m x1 (mo_put σ0 m ma μ) Post := by
  unfold mp_begin at hw
  unfold kp_Mo_begin
  intro X12 X67 hX12 hX67
  have hw := hw (fun (v2 : Int32) (μ : mo_U) => X12 v2 (mo_put σ0 m ma μ))
  have hw := hw (fun (v2 : Int32) (μ : mo_U) => X67 v2 (mo_put σ0 m ma μ))
  have hw := hw (by
    intro v2 μ hw
    refine hX12 _ _  ?_
    refine ⟨mo_ty0 hT, ma 28, mo_R811 hT, ?_⟩
    refine ⟨17, 28, mo_T28 hT, hw.1, ?_⟩
    replace hw := hw.2
    try rw [mo_A σ0 m ma μ 28]
    refine ⟨fun hc => ?_, fun hc => ?_⟩
    · have hw := hw.1 hc
      exact hw
    · have hw := hw.2 hc
      refine ⟨mo_ty0 hT, ma 29, mo_R812 hT, ?_⟩
      refine ⟨85, 29, mo_T29 hT, hw.1, ?_⟩
      replace hw := hw.2
      try rw [mo_A σ0 m ma μ 29]
      refine ⟨fun hc => ?_, fun hc => ?_⟩
      · have hw := hw.1 hc
        exact hw
      · have hw := hw.2 hc
        refine ⟨mo_ty0 hT, ma 52, mo_R839 hT, ?_⟩
        refine ⟨mo_ty0 hT, ?_⟩
        try rw [mo_I σ0 m ma μ 841]
        refine ⟨3, 52, mo_T52 hT, hw.1, fun σ48 e48 => ?_⟩
        replace hw := hw.2
        rw [mo_A σ0 m ma μ 52, mo_sA] at e48
        obtain ⟨μ48, f48⟩ : ∃ z, z = mu_sA μ 52 (upd (μ.2 52) (μ.1 841).toNatClampNeg ((((5 : Int32)) * x1) + v2)) := ⟨_, rfl⟩
        rw [← f48] at e48
        subst e48
        have hw := hw _ f48
        refine ⟨mo_ty0 hT, ?_⟩
        try rw [mo_I σ0 m ma μ48 841]
        refine ⟨mo_ty0 hT, fun σ56 e56 => ?_⟩
        rw [mo_sI] at e56
        obtain ⟨μ56, f56⟩ : ∃ z, z = mu_sI μ48 841 ((μ48.1 841) + ((1 : Int32))) := ⟨_, rfl⟩
        rw [← f56] at e56
        subst e56
        have hw := hw _ f56
        exact hw)
  have hw := hw (by
    intro v2 μ hw
    refine hX67 _ _  ?_
    refine ⟨fun hc => ?_, fun hc => ?_⟩
    · have hw := hw.1 hc
      refine ⟨mo_ty0 hT, fun σ88 e88 => ?_⟩
      rw [mo_sI] at e88
      obtain ⟨μ88, f88⟩ : ∃ z, z = mu_sI μ 840 ((0 : Int32)) := ⟨_, rfl⟩
      rw [← f88] at e88
      subst e88
      have hw := hw _ f88
      refine ⟨mo_ty0 hT, ma 51, mo_R838 hT, ?_⟩
      refine ⟨4, 51, mo_T51 hT, hw.1, fun σ97 e97 => ?_⟩
      replace hw := hw.2
      rw [mo_A σ0 m ma μ88 51, mo_sA] at e97
      obtain ⟨μ97, f97⟩ : ∃ z, z = mu_sA μ88 51 (upd (μ88.2 51) ((0 : Int32)).toNatClampNeg ((0 : Int32))) := ⟨_, rfl⟩
      rw [← f97] at e97
      subst e97
      have hw := hw _ f97
      exact hQ _ hw
    · have hw := hw.2 hc
      refine ⟨mo_ty0 hT, ma 50, mo_R837 hT, ?_⟩
      refine ⟨104, 50, mo_T50 hT, hw.1, fun σ79 e79 => ?_⟩
      replace hw := hw.2
      rw [mo_A σ0 m ma μ 50, mo_sA] at e79
      obtain ⟨μ79, f79⟩ : ∃ z, z = mu_sA μ 50 (upd (μ.2 50) v2.toNatClampNeg ((-1 : Int32))) := ⟨_, rfl⟩
      rw [← f79] at e79
      subst e79
      have hw := hw _ f79
      exact hw)
  refine ⟨mo_ty0 hT, fun σ2 e2 => ?_⟩
  rw [mo_sI] at e2
  obtain ⟨μ2, f2⟩ : ∃ z, z = mu_sI μ 842 x1 := ⟨_, rfl⟩
  rw [← f2] at e2
  subst e2
  have hw := hw _ f2
  refine ⟨mo_ty0 hT, fun σ7 e7 => ?_⟩
  rw [mo_sI] at e7
  obtain ⟨μ7, f7⟩ : ∃ z, z = mu_sI μ2 841 ((0 : Int32)) := ⟨_, rfl⟩
  rw [← f7] at e7
  subst e7
  have hw := hw _ f7
  exact hw
def mp_valueOf (x1 : Int32) (x2 : Int32) (μ : mo_U) (Q : Int32 → mo_U → Prop) : Prop :=     ((x1 < ((100 : Int32)) → vp_in ((((26 : Int32)) * x2) + x1) 104 ∧ (Q (μ.2 50 ((((26 : Int32)) * x2) + x1).toNatClampNeg) μ)) ∧ (¬ x1 < ((100 : Int32)) → Q (x1 - ((100 : Int32))) μ))
set_option maxHeartbeats 4000000 in
theorem mq_valueOf {σ0 : z_S} {m : Nat} {ma : Nat → Nat} (hT : mo_T σ0 m ma) (x1 : Int32) (x2 : Int32) (μ : mo_U) (Q : Int32 → mo_U → Prop) (Post : Int32 → z_S → Prop) (hQ : (∀ r μ', Q r μ' → Post r (mo_put σ0 m ma μ'))) (hw : mp_valueOf x1 x2 μ Q) : kp_Mo_valueOf m x1 x2 (mo_put σ0 m ma μ) Post := by
  unfold mp_valueOf at hw
  unfold kp_Mo_valueOf
  refine ⟨fun hc => ?_, fun hc => ?_⟩
  · have hw := hw.1 hc
    refine ⟨mo_ty0 hT, ma 50, mo_R837 hT, ?_⟩
    refine ⟨104, 50, mo_T50 hT, hw.1, ?_⟩
    replace hw := hw.2
    try rw [mo_A σ0 m ma μ 50]
    exact hQ _ _ hw
  · have hw := hw.2 hc
    exact hQ _ _ hw
def mp_fits (x1 : Int32) (x2 : Int32) (x3 : Int32) (μ : mo_U) (Q : Int32 → mo_U → Prop) : Prop := ∀ (X16 : Int32 → Int32 → mo_U → Prop) (X61 : Int32 → Int32 → Int32 → mo_U → Prop),
    (∀ (v4 : Int32) (v5 : Int32) (μ : mo_U), ((((26 : Int32)) ≤ v5 → X61 v4 ((1 : Int32)) ((0 : Int32)) μ) ∧ (¬ ((26 : Int32)) ≤ v5 → vp_in ((((26 : Int32)) * x3) + v5) 104 ∧ (vp_in ((((26 : Int32)) * (x3 + ((1 : Int32)))) + v5) 104 ∧ ∀ μ48, μ48 = mu_sA μ 50 (upd (μ.2 50) ((((26 : Int32)) * (x3 + ((1 : Int32)))) + v5).toNatClampNeg (μ.2 50 ((((26 : Int32)) * x3) + v5).toNatClampNeg)) → X16 v4 (v5 + (1 : Int32)) μ48))) → X16 v4 v5 μ) →
    (∀ (v4 : Int32) (v5 : Int32) (v6 : Int32) (μ : mo_U), ((((3 : Int32)) ≤ v6 → (v5 = 0 ∨ v5 = 1) ∧ Q v5 μ) ∧ (¬ ((3 : Int32)) ≤ v6 → (v5 = 0 → (v5 = 0 ∨ v5 = 1) ∧ Q v5 μ) ∧ (¬ v5 = 0 → vp_in ((((3 : Int32)) * x1) + v6) 255 ∧ (((μ.2 31 ((((3 : Int32)) * x1) + v6).toNatClampNeg) < ((100 : Int32)) → vp_in ((((26 : Int32)) * (x3 + ((1 : Int32)))) + (μ.2 31 ((((3 : Int32)) * x1) + v6).toNatClampNeg)) 104 ∧ ((¬ (μ.2 50 ((((26 : Int32)) * (x3 + ((1 : Int32)))) + (μ.2 31 ((((3 : Int32)) * x1) + v6).toNatClampNeg)).toNatClampNeg) = ((-1 : Int32)) → vp_in ((((26 : Int32)) * (x3 + ((1 : Int32)))) + (μ.2 31 ((((3 : Int32)) * x1) + v6).toNatClampNeg)) 104 ∧ (vp_in (v4 + v6) 960 ∧ ((¬ (μ.2 50 ((((26 : Int32)) * (x3 + ((1 : Int32)))) + (μ.2 31 ((((3 : Int32)) * x1) + v6).toNatClampNeg)).toNatClampNeg) = (μ.2 40 (v4 + v6).toNatClampNeg) → X61 v4 ((0 : Int32)) (v6 + (1 : Int32)) μ) ∧ ((μ.2 50 ((((26 : Int32)) * (x3 + ((1 : Int32)))) + (μ.2 31 ((((3 : Int32)) * x1) + v6).toNatClampNeg)).toNatClampNeg) = (μ.2 40 (v4 + v6).toNatClampNeg) → X61 v4 ((1 : Int32)) (v6 + (1 : Int32)) μ)))) ∧ ((μ.2 50 ((((26 : Int32)) * (x3 + ((1 : Int32)))) + (μ.2 31 ((((3 : Int32)) * x1) + v6).toNatClampNeg)).toNatClampNeg) = ((-1 : Int32)) → vp_in (v4 + v6) 960 ∧ (vp_in ((((26 : Int32)) * (x3 + ((1 : Int32)))) + (μ.2 31 ((((3 : Int32)) * x1) + v6).toNatClampNeg)) 104 ∧ ∀ μ161, μ161 = mu_sA μ 50 (upd (μ.2 50) ((((26 : Int32)) * (x3 + ((1 : Int32)))) + (μ.2 31 ((((3 : Int32)) * x1) + v6).toNatClampNeg)).toNatClampNeg (μ.2 40 (v4 + v6).toNatClampNeg)) → X61 v4 v5 (v6 + (1 : Int32)) μ161)))) ∧ (¬ (μ.2 31 ((((3 : Int32)) * x1) + v6).toNatClampNeg) < ((100 : Int32)) → vp_in (v4 + v6) 960 ∧ ((¬ ((μ.2 31 ((((3 : Int32)) * x1) + v6).toNatClampNeg) - ((100 : Int32))) = (μ.2 40 (v4 + v6).toNatClampNeg) → X61 v4 ((0 : Int32)) (v6 + (1 : Int32)) μ) ∧ (((μ.2 31 ((((3 : Int32)) * x1) + v6).toNatClampNeg) - ((100 : Int32))) = (μ.2 40 (v4 + v6).toNatClampNeg) → X61 v4 ((1 : Int32)) (v6 + (1 : Int32)) μ))))))) → X61 v4 v5 v6 μ) →
    (vp_in x1 85 ∧ (mp_base (μ.2 30 x1.toNatClampNeg) x2 μ (fun (r8 : Int32) (μ8 : mo_U) => X16 r8 ((0 : Int32)) μ8)))
set_option maxHeartbeats 4000000 in
theorem mq_fits {σ0 : z_S} {m : Nat} {ma : Nat → Nat} (hT : mo_T σ0 m ma) (x1 : Int32) (x2 : Int32) (x3 : Int32) (μ : mo_U) (Q : Int32 → mo_U → Prop) (Post : Int32 → z_S → Prop) (hQ : (∀ r μ', Q r μ' → Post r (mo_put σ0 m ma μ'))) (hw : mp_fits x1 x2 x3 μ Q) : kp_Mo_fits m x1 x2 x3 (mo_put σ0 m ma μ) Post := by
  unfold mp_fits at hw
  unfold kp_Mo_fits
  intro X16 X61 hX16 hX61
  have hw := hw (fun (v4 : Int32) (v5 : Int32) (μ : mo_U) => X16 v4 v5 (mo_put σ0 m ma μ))
  have hw := hw (fun (v4 : Int32) (v5 : Int32) (v6 : Int32) (μ : mo_U) => X61 v4 v5 v6 (mo_put σ0 m ma μ))
  have hw := hw (by
    intro v4 v5 μ hw
    refine hX16 _ _ _  ?_
    refine ⟨fun hc => ?_, fun hc => ?_⟩
    · have hw := hw.1 hc
      exact hw
    · have hw := hw.2 hc
      refine ⟨mo_ty0 hT, ma 50, mo_R837 hT, ?_⟩
      refine ⟨mo_ty0 hT, ma 50, mo_R837 hT, ?_⟩
      refine ⟨104, 50, mo_T50 hT, hw.1, ?_⟩
      replace hw := hw.2
      try rw [mo_A σ0 m ma μ 50]
      refine ⟨104, 50, mo_T50 hT, hw.1, fun σ48 e48 => ?_⟩
      replace hw := hw.2
      rw [mo_A σ0 m ma μ 50, mo_sA] at e48
      obtain ⟨μ48, f48⟩ : ∃ z, z = mu_sA μ 50 (upd (μ.2 50) ((((26 : Int32)) * (x3 + ((1 : Int32)))) + v5).toNatClampNeg (μ.2 50 ((((26 : Int32)) * x3) + v5).toNatClampNeg)) := ⟨_, rfl⟩
      rw [← f48] at e48
      subst e48
      have hw := hw _ f48
      exact hw)
  have hw := hw (by
    intro v4 v5 v6 μ hw
    refine hX61 _ _ _ _  ?_
    refine ⟨fun hc => ?_, fun hc => ?_⟩
    · have hw := hw.1 hc
      exact ⟨hw.1, hQ _ _ hw.2⟩
    · have hw := hw.2 hc
      refine ⟨fun hc => ?_, fun hc => ?_⟩
      · have hw := hw.1 hc
        exact ⟨hw.1, hQ _ _ hw.2⟩
      · have hw := hw.2 hc
        refine ⟨mo_ty0 hT, ma 31, mo_R814 hT, ?_⟩
        refine ⟨255, 31, mo_T31 hT, hw.1, ?_⟩
        replace hw := hw.2
        try rw [mo_A σ0 m ma μ 31]
        refine ⟨fun hc => ?_, fun hc => ?_⟩
        · have hw := hw.1 hc
          refine ⟨mo_ty0 hT, ma 50, mo_R837 hT, ?_⟩
          refine ⟨104, 50, mo_T50 hT, hw.1, ?_⟩
          replace hw := hw.2
          try rw [mo_A σ0 m ma μ 50]
          refine ⟨fun hc => ?_, fun hc => ?_⟩
          · have hw := hw.1 hc
            refine ⟨mo_ty0 hT, ma 50, mo_R837 hT, ?_⟩
            refine ⟨104, 50, mo_T50 hT, hw.1, ?_⟩
            replace hw := hw.2
            try rw [mo_A σ0 m ma μ 50]
            refine ⟨mo_ty0 hT, ma 40, mo_R824 hT, ?_⟩
            refine ⟨960, 40, mo_T40 hT, hw.1, ?_⟩
            replace hw := hw.2
            try rw [mo_A σ0 m ma μ 40]
            refine ⟨fun hc => ?_, fun hc => ?_⟩
            · have hw := hw.1 hc
              exact hw
            · have hw := hw.2 hc
              exact hw
          · have hw := hw.2 hc
            refine ⟨mo_ty0 hT, ma 50, mo_R837 hT, ?_⟩
            refine ⟨mo_ty0 hT, ma 40, mo_R824 hT, ?_⟩
            refine ⟨960, 40, mo_T40 hT, hw.1, ?_⟩
            replace hw := hw.2
            try rw [mo_A σ0 m ma μ 40]
            refine ⟨104, 50, mo_T50 hT, hw.1, fun σ161 e161 => ?_⟩
            replace hw := hw.2
            rw [mo_A σ0 m ma μ 50, mo_sA] at e161
            obtain ⟨μ161, f161⟩ : ∃ z, z = mu_sA μ 50 (upd (μ.2 50) ((((26 : Int32)) * (x3 + ((1 : Int32)))) + (μ.2 31 ((((3 : Int32)) * x1) + v6).toNatClampNeg)).toNatClampNeg (μ.2 40 (v4 + v6).toNatClampNeg)) := ⟨_, rfl⟩
            rw [← f161] at e161
            subst e161
            have hw := hw _ f161
            exact hw
        · have hw := hw.2 hc
          refine ⟨mo_ty0 hT, ma 40, mo_R824 hT, ?_⟩
          refine ⟨960, 40, mo_T40 hT, hw.1, ?_⟩
          replace hw := hw.2
          try rw [mo_A σ0 m ma μ 40]
          refine ⟨fun hc => ?_, fun hc => ?_⟩
          · have hw := hw.1 hc
            exact hw
          · have hw := hw.2 hc
            exact hw)
  refine ⟨mo_ty0 hT, ma 30, mo_R813 hT, ?_⟩
  refine ⟨85, 30, mo_T30 hT, hw.1, ?_⟩
  replace hw := hw.2
  try rw [mo_A σ0 m ma μ 30]
  refine ⟨mo_ty0 hT, mq_base hT (μ.2 30 x1.toNatClampNeg) x2 μ _ _ (fun r8 μ8 hw => ?_) hw⟩
  exact hw
def mp_holds (μ : mo_U) (Q : Int32 → mo_U → Prop) : Prop := ∀ (X9 : Int32 → Int32 → mo_U → Prop) (X62 : Int32 → Int32 → Int32 → mo_U → Prop) (X94 : Int32 → Int32 → Int32 → Int32 → mo_U → Prop),
    (∀ (v1 : Int32) (v2 : Int32) (μ : mo_U), (vp_in (μ.1 842) 17 ∧ ((((((5 : Int32)) * (μ.1 842)) + (μ.2 28 (μ.1 842).toNatClampNeg)) ≤ v2 → (v1 = 0 ∨ v1 = 1) ∧ Q v1 μ) ∧ (¬ ((((5 : Int32)) * (μ.1 842)) + (μ.2 28 (μ.1 842).toNatClampNeg)) ≤ v2 → (v1 = 0 → (v1 = 0 ∨ v1 = 1) ∧ Q v1 μ) ∧ (¬ v1 = 0 → vp_in v2 85 ∧ ((¬ ((μ.2 29 v2.toNatClampNeg)) = 0 → vp_in (((3 : Int32)) * v2) 255 ∧ (mp_valueOf (μ.2 31 (((3 : Int32)) * v2).toNatClampNeg) (μ.1 841) μ (fun (r59 : Int32) (μ59 : mo_U) => X62 v1 v2 r59 μ59))) ∧ (((μ.2 29 v2.toNatClampNeg)) = 0 → X62 v1 v2 ((0 : Int32)) μ)))))) → X9 v1 v2 μ) →
    (∀ (v1 : Int32) (v2 : Int32) (t0 : Int32) (μ : mo_U), (vp_in v2 85 ∧ ((¬ ((μ.2 29 v2.toNatClampNeg)) = 0 → vp_in ((((3 : Int32)) * v2) + ((1 : Int32))) 255 ∧ (mp_valueOf (μ.2 31 ((((3 : Int32)) * v2) + ((1 : Int32))).toNatClampNeg) (μ.1 841) μ (fun (r91 : Int32) (μ91 : mo_U) => X94 v1 v2 t0 r91 μ91))) ∧ (((μ.2 29 v2.toNatClampNeg)) = 0 → X94 v1 v2 t0 ((0 : Int32)) μ))) → X62 v1 v2 t0 μ) →
    (∀ (v1 : Int32) (v2 : Int32) (v3 : Int32) (t0 : Int32) (μ : mo_U), (vp_in v2 85 ∧ ((¬ (μ.2 29 v2.toNatClampNeg) = ((1 : Int32)) → vp_in v2 85 ∧ ((¬ (μ.2 29 v2.toNatClampNeg) = ((2 : Int32)) → X9 v1 (v2 + (1 : Int32)) μ) ∧ ((μ.2 29 v2.toNatClampNeg) = ((2 : Int32)) → vp_in v2 85 ∧ ((¬ (μ.2 30 v2.toNatClampNeg) = ((60 : Int32)) → vp_in v2 85 ∧ ((¬ (μ.2 30 v2.toNatClampNeg) = ((61 : Int32)) → (v3 = t0 → X9 ((0 : Int32)) (v2 + (1 : Int32)) μ) ∧ (¬ v3 = t0 → X9 ((1 : Int32)) (v2 + (1 : Int32)) μ)) ∧ ((μ.2 30 v2.toNatClampNeg) = ((61 : Int32)) → (¬ v3 = t0 → X9 ((0 : Int32)) (v2 + (1 : Int32)) μ) ∧ (v3 = t0 → X9 ((1 : Int32)) (v2 + (1 : Int32)) μ)))) ∧ ((μ.2 30 v2.toNatClampNeg) = ((60 : Int32)) → (t0 ≤ v3 → X9 ((0 : Int32)) (v2 + (1 : Int32)) μ) ∧ (¬ t0 ≤ v3 → X9 ((1 : Int32)) (v2 + (1 : Int32)) μ)))))) ∧ ((μ.2 29 v2.toNatClampNeg) = ((1 : Int32)) → vp_in v2 85 ∧ (vp_in ((((3 : Int32)) * v2) + ((2 : Int32))) 255 ∧ (mp_valueOf (μ.2 31 ((((3 : Int32)) * v2) + ((2 : Int32))).toNatClampNeg) (μ.1 841) μ (fun (r131 : Int32) (μ131 : mo_U) => mp_find (μ.2 30 v2.toNatClampNeg) v3 t0 r131 μ131 (fun (r134 : Int32) (μ134 : mo_U) => (¬ r134 = ((-1 : Int32)) → X9 ((0 : Int32)) (v2 + (1 : Int32)) μ134) ∧ (r134 = ((-1 : Int32)) → X9 ((1 : Int32)) (v2 + (1 : Int32)) μ134)))))))) → X94 v1 v2 v3 t0 μ) →
    (X9 ((1 : Int32)) (((5 : Int32)) * (μ.1 842)) μ)
set_option maxHeartbeats 4000000 in
theorem mq_holds {σ0 : z_S} {m : Nat} {ma : Nat → Nat} (hT : mo_T σ0 m ma) (μ : mo_U) (Q : Int32 → mo_U → Prop) (Post : Int32 → z_S → Prop) (hQ : (∀ r μ', Q r μ' → Post r (mo_put σ0 m ma μ'))) (hw : mp_holds μ Q) : kp_Mo_holds m (mo_put σ0 m ma μ) Post := by
  unfold mp_holds at hw
  unfold kp_Mo_holds
  intro X9 X62 X94 hX9 hX62 hX94
  have hw := hw (fun (v1 : Int32) (v2 : Int32) (μ : mo_U) => X9 v1 v2 (mo_put σ0 m ma μ))
  have hw := hw (fun (v1 : Int32) (v2 : Int32) (t0 : Int32) (μ : mo_U) => X62 v1 v2 t0 (mo_put σ0 m ma μ))
  have hw := hw (fun (v1 : Int32) (v2 : Int32) (v3 : Int32) (t0 : Int32) (μ : mo_U) => X94 v1 v2 v3 t0 (mo_put σ0 m ma μ))
  have hw := hw (by
    intro v1 v2 μ hw
    refine hX9 _ _ _  ?_
    refine ⟨mo_ty0 hT, ?_⟩
    try rw [mo_I σ0 m ma μ 842]
    refine ⟨mo_ty0 hT, ma 28, mo_R811 hT, ?_⟩
    refine ⟨mo_ty0 hT, ?_⟩
    try rw [mo_I σ0 m ma μ 842]
    refine ⟨17, 28, mo_T28 hT, hw.1, ?_⟩
    replace hw := hw.2
    try rw [mo_A σ0 m ma μ 28]
    refine ⟨fun hc => ?_, fun hc => ?_⟩
    · have hw := hw.1 hc
      exact ⟨hw.1, hQ _ _ hw.2⟩
    · have hw := hw.2 hc
      refine ⟨fun hc => ?_, fun hc => ?_⟩
      · have hw := hw.1 hc
        exact ⟨hw.1, hQ _ _ hw.2⟩
      · have hw := hw.2 hc
        refine ⟨mo_ty0 hT, ma 29, mo_R812 hT, ?_⟩
        refine ⟨85, 29, mo_T29 hT, hw.1, ?_⟩
        replace hw := hw.2
        try rw [mo_A σ0 m ma μ 29]
        refine ⟨fun hc => ?_, fun hc => ?_⟩
        · have hw := hw.1 hc
          refine ⟨mo_ty0 hT, ma 31, mo_R814 hT, ?_⟩
          refine ⟨255, 31, mo_T31 hT, hw.1, ?_⟩
          replace hw := hw.2
          try rw [mo_A σ0 m ma μ 31]
          refine ⟨mo_ty0 hT, ?_⟩
          try rw [mo_I σ0 m ma μ 841]
          refine ⟨mo_ty0 hT, mq_valueOf hT (μ.2 31 (((3 : Int32)) * v2).toNatClampNeg) (μ.1 841) μ _ _ (fun r59 μ59 hw => ?_) hw⟩
          exact hw
        · have hw := hw.2 hc
          exact hw)
  have hw := hw (by
    intro v1 v2 t0 μ hw
    refine hX62 _ _ _ _  ?_
    refine ⟨mo_ty0 hT, ma 29, mo_R812 hT, ?_⟩
    refine ⟨85, 29, mo_T29 hT, hw.1, ?_⟩
    replace hw := hw.2
    try rw [mo_A σ0 m ma μ 29]
    refine ⟨fun hc => ?_, fun hc => ?_⟩
    · have hw := hw.1 hc
      refine ⟨mo_ty0 hT, ma 31, mo_R814 hT, ?_⟩
      refine ⟨255, 31, mo_T31 hT, hw.1, ?_⟩
      replace hw := hw.2
      try rw [mo_A σ0 m ma μ 31]
      refine ⟨mo_ty0 hT, ?_⟩
      try rw [mo_I σ0 m ma μ 841]
      refine ⟨mo_ty0 hT, mq_valueOf hT (μ.2 31 ((((3 : Int32)) * v2) + ((1 : Int32))).toNatClampNeg) (μ.1 841) μ _ _ (fun r91 μ91 hw => ?_) hw⟩
      exact hw
    · have hw := hw.2 hc
      exact hw)
  have hw := hw (by
    intro v1 v2 v3 t0 μ hw
    refine hX94 _ _ _ _ _  ?_
    refine ⟨mo_ty0 hT, ma 29, mo_R812 hT, ?_⟩
    refine ⟨85, 29, mo_T29 hT, hw.1, ?_⟩
    replace hw := hw.2
    try rw [mo_A σ0 m ma μ 29]
    refine ⟨fun hc => ?_, fun hc => ?_⟩
    · have hw := hw.1 hc
      refine ⟨mo_ty0 hT, ma 29, mo_R812 hT, ?_⟩
      refine ⟨85, 29, mo_T29 hT, hw.1, ?_⟩
      replace hw := hw.2
      try rw [mo_A σ0 m ma μ 29]
      refine ⟨fun hc => ?_, fun hc => ?_⟩
      · have hw := hw.1 hc
        exact hw
      · have hw := hw.2 hc
        refine ⟨mo_ty0 hT, ma 30, mo_R813 hT, ?_⟩
        refine ⟨85, 30, mo_T30 hT, hw.1, ?_⟩
        replace hw := hw.2
        try rw [mo_A σ0 m ma μ 30]
        refine ⟨fun hc => ?_, fun hc => ?_⟩
        · have hw := hw.1 hc
          refine ⟨mo_ty0 hT, ma 30, mo_R813 hT, ?_⟩
          refine ⟨85, 30, mo_T30 hT, hw.1, ?_⟩
          replace hw := hw.2
          try rw [mo_A σ0 m ma μ 30]
          refine ⟨fun hc => ?_, fun hc => ?_⟩
          · have hw := hw.1 hc
            refine ⟨fun hc => ?_, fun hc => ?_⟩
            · have hw := hw.1 hc
              exact hw
            · have hw := hw.2 hc
              exact hw
          · have hw := hw.2 hc
            refine ⟨fun hc => ?_, fun hc => ?_⟩
            · have hw := hw.1 hc
              exact hw
            · have hw := hw.2 hc
              exact hw
        · have hw := hw.2 hc
          refine ⟨fun hc => ?_, fun hc => ?_⟩
          · have hw := hw.1 hc
            exact hw
          · have hw := hw.2 hc
            exact hw
    · have hw := hw.2 hc
      refine ⟨mo_ty0 hT, ma 30, mo_R813 hT, ?_⟩
      refine ⟨85, 30, mo_T30 hT, hw.1, ?_⟩
      replace hw := hw.2
      try rw [mo_A σ0 m ma μ 30]
      refine ⟨mo_ty0 hT, ma 31, mo_R814 hT, ?_⟩
      refine ⟨255, 31, mo_T31 hT, hw.1, ?_⟩
      replace hw := hw.2
      try rw [mo_A σ0 m ma μ 31]
      refine ⟨mo_ty0 hT, ?_⟩
      try rw [mo_I σ0 m ma μ 841]
      refine ⟨mo_ty0 hT, mq_valueOf hT (μ.2 31 ((((3 : Int32)) * v2) + ((2 : Int32))).toNatClampNeg) (μ.1 841) μ _ _ (fun r131 μ131 hw => ?_) hw⟩
      refine ⟨mo_ty0 hT, mq_find hT (μ.2 30 v2.toNatClampNeg) v3 t0 r131 μ131 _ _ (fun r134 μ134 hw => ?_) hw⟩
      refine ⟨fun hc => ?_, fun hc => ?_⟩
      · have hw := hw.1 hc
        exact hw
      · have hw := hw.2 hc
        exact hw)
  refine ⟨mo_ty0 hT, ?_⟩
  try rw [mo_I σ0 m ma μ 842]
  exact hw
def mp_next (μ : mo_U) (Q : Int32 → mo_U → Prop) : Prop := ∀ (X0 : mo_U → Prop),
    (∀ (μ : mo_U), ((((μ.1 840)) < 0 → Q ((0 : Int32)) μ) ∧ (¬ ((μ.1 840)) < 0 → (¬ (μ.1 840) = (μ.1 841) → vp_in (μ.1 840) 3 ∧ (vp_in (μ.1 840) 4 ∧ (vp_in (μ.2 52 (μ.1 840).toNatClampNeg) 85 ∧ (vp_in (μ.2 30 (μ.2 52 (μ.1 840).toNatClampNeg).toNatClampNeg) 8 ∧ ((¬ (μ.2 51 (μ.1 840).toNatClampNeg) = (μ.2 42 (μ.2 30 (μ.2 52 (μ.1 840).toNatClampNeg).toNatClampNeg).toNatClampNeg) → vp_in (μ.1 840) 4 ∧ (vp_in (μ.1 840) 4 ∧ (vp_in (μ.1 840) 4 ∧ ∀ μ105, μ105 = mu_sA μ 51 (upd (μ.2 51) (μ.1 840).toNatClampNeg ((μ.2 51 (μ.1 840).toNatClampNeg) + ((1 : Int32)))) → mp_fits (μ.2 52 (μ.1 840).toNatClampNeg) (μ.2 51 (μ.1 840).toNatClampNeg) (μ105.1 840) μ105 (fun (r113 : Int32) (μ113 : mo_U) => (r113 = 0 → X0 μ113) ∧ (¬ r113 = 0 → ∀ μ126, μ126 = mu_sI μ113 840 ((μ113.1 840) + ((1 : Int32))) → vp_in (μ126.1 840) 4 ∧ ∀ μ138, μ138 = mu_sA μ126 51 (upd (μ126.2 51) (μ126.1 840).toNatClampNeg ((0 : Int32))) → X0 μ138))))) ∧ ((μ.2 51 (μ.1 840).toNatClampNeg) = (μ.2 42 (μ.2 30 (μ.2 52 (μ.1 840).toNatClampNeg).toNatClampNeg).toNatClampNeg) → ∀ μ77, μ77 = mu_sI μ 840 ((μ.1 840) - ((1 : Int32))) → X0 μ77)))))) ∧ ((μ.1 840) = (μ.1 841) → ∀ μ25, μ25 = mu_sI μ 840 ((μ.1 840) - ((1 : Int32))) → mp_holds μ25 (fun (r29 : Int32) (μ29 : mo_U) => (r29 = 0 → X0 μ29) ∧ (¬ r29 = 0 → Q ((1 : Int32)) μ29))))) → X0 μ) →
    (X0 μ)
set_option maxHeartbeats 4000000 in
theorem mq_next {σ0 : z_S} {m : Nat} {ma : Nat → Nat} (hT : mo_T σ0 m ma) (μ : mo_U) (Q : Int32 → mo_U → Prop) (Post : Int32 → z_S → Prop) (hQ : (∀ r μ', Q r μ' → Post r (mo_put σ0 m ma μ'))) (hw : mp_next μ Q) : kp_Mo_next m (mo_put σ0 m ma μ) Post := by
  unfold mp_next at hw
  unfold kp_Mo_next
  intro X0 hX0
  have hw := hw (fun (μ : mo_U) => X0 (mo_put σ0 m ma μ))
  have hw := hw (by
    intro μ hw
    refine hX0 _  ?_
    refine ⟨mo_ty0 hT, ?_⟩
    try rw [mo_I σ0 m ma μ 840]
    refine ⟨fun hc => ?_, fun hc => ?_⟩
    · have hw := hw.1 hc
      exact hQ _ _ hw
    · have hw := hw.2 hc
      refine ⟨mo_ty0 hT, ?_⟩
      try rw [mo_I σ0 m ma μ 840]
      refine ⟨mo_ty0 hT, ?_⟩
      try rw [mo_I σ0 m ma μ 841]
      refine ⟨fun hc => ?_, fun hc => ?_⟩
      · have hw := hw.1 hc
        refine ⟨mo_ty0 hT, ma 52, mo_R839 hT, ?_⟩
        refine ⟨mo_ty0 hT, ?_⟩
        try rw [mo_I σ0 m ma μ 840]
        refine ⟨3, 52, mo_T52 hT, hw.1, ?_⟩
        replace hw := hw.2
        try rw [mo_A σ0 m ma μ 52]
        refine ⟨mo_ty0 hT, ma 51, mo_R838 hT, ?_⟩
        refine ⟨mo_ty0 hT, ?_⟩
        try rw [mo_I σ0 m ma μ 840]
        refine ⟨4, 51, mo_T51 hT, hw.1, ?_⟩
        replace hw := hw.2
        try rw [mo_A σ0 m ma μ 51]
        refine ⟨mo_ty0 hT, ma 42, mo_R826 hT, ?_⟩
        refine ⟨mo_ty0 hT, ma 30, mo_R813 hT, ?_⟩
        refine ⟨85, 30, mo_T30 hT, hw.1, ?_⟩
        replace hw := hw.2
        try rw [mo_A σ0 m ma μ 30]
        refine ⟨8, 42, mo_T42 hT, hw.1, ?_⟩
        replace hw := hw.2
        try rw [mo_A σ0 m ma μ 42]
        refine ⟨fun hc => ?_, fun hc => ?_⟩
        · have hw := hw.1 hc
          refine ⟨mo_ty0 hT, ma 51, mo_R838 hT, ?_⟩
          refine ⟨mo_ty0 hT, ?_⟩
          try rw [mo_I σ0 m ma μ 840]
          refine ⟨4, 51, mo_T51 hT, hw.1, ?_⟩
          replace hw := hw.2
          try rw [mo_A σ0 m ma μ 51]
          refine ⟨mo_ty0 hT, ma 51, mo_R838 hT, ?_⟩
          refine ⟨mo_ty0 hT, ?_⟩
          try rw [mo_I σ0 m ma μ 840]
          refine ⟨4, 51, mo_T51 hT, hw.1, ?_⟩
          replace hw := hw.2
          try rw [mo_A σ0 m ma μ 51]
          refine ⟨4, 51, mo_T51 hT, hw.1, fun σ105 e105 => ?_⟩
          replace hw := hw.2
          rw [mo_A σ0 m ma μ 51, mo_sA] at e105
          obtain ⟨μ105, f105⟩ : ∃ z, z = mu_sA μ 51 (upd (μ.2 51) (μ.1 840).toNatClampNeg ((μ.2 51 (μ.1 840).toNatClampNeg) + ((1 : Int32)))) := ⟨_, rfl⟩
          rw [← f105] at e105
          subst e105
          have hw := hw _ f105
          refine ⟨mo_ty0 hT, ?_⟩
          try rw [mo_I σ0 m ma μ105 840]
          refine ⟨mo_ty0 hT, mq_fits hT (μ.2 52 (μ.1 840).toNatClampNeg) (μ.2 51 (μ.1 840).toNatClampNeg) (μ105.1 840) μ105 _ _ (fun r113 μ113 hw => ?_) hw⟩
          refine ⟨fun hc => ?_, fun hc => ?_⟩
          · have hw := hw.1 hc
            exact hw
          · have hw := hw.2 hc
            refine ⟨mo_ty0 hT, ?_⟩
            try rw [mo_I σ0 m ma μ113 840]
            refine ⟨mo_ty0 hT, fun σ126 e126 => ?_⟩
            rw [mo_sI] at e126
            obtain ⟨μ126, f126⟩ : ∃ z, z = mu_sI μ113 840 ((μ113.1 840) + ((1 : Int32))) := ⟨_, rfl⟩
            rw [← f126] at e126
            subst e126
            have hw := hw _ f126
            refine ⟨mo_ty0 hT, ma 51, mo_R838 hT, ?_⟩
            refine ⟨mo_ty0 hT, ?_⟩
            try rw [mo_I σ0 m ma μ126 840]
            refine ⟨4, 51, mo_T51 hT, hw.1, fun σ138 e138 => ?_⟩
            replace hw := hw.2
            rw [mo_A σ0 m ma μ126 51, mo_sA] at e138
            obtain ⟨μ138, f138⟩ : ∃ z, z = mu_sA μ126 51 (upd (μ126.2 51) (μ126.1 840).toNatClampNeg ((0 : Int32))) := ⟨_, rfl⟩
            rw [← f138] at e138
            subst e138
            have hw := hw _ f138
            exact hw
        · have hw := hw.2 hc
          refine ⟨mo_ty0 hT, ?_⟩
          try rw [mo_I σ0 m ma μ 840]
          refine ⟨mo_ty0 hT, fun σ77 e77 => ?_⟩
          rw [mo_sI] at e77
          obtain ⟨μ77, f77⟩ : ∃ z, z = mu_sI μ 840 ((μ.1 840) - ((1 : Int32))) := ⟨_, rfl⟩
          rw [← f77] at e77
          subst e77
          have hw := hw _ f77
          exact hw
      · have hw := hw.2 hc
        refine ⟨mo_ty0 hT, ?_⟩
        try rw [mo_I σ0 m ma μ 840]
        refine ⟨mo_ty0 hT, fun σ25 e25 => ?_⟩
        rw [mo_sI] at e25
        obtain ⟨μ25, f25⟩ : ∃ z, z = mu_sI μ 840 ((μ.1 840) - ((1 : Int32))) := ⟨_, rfl⟩
        rw [← f25] at e25
        subst e25
        have hw := hw _ f25
        refine ⟨mo_ty0 hT, mq_holds hT μ25 _ _ (fun r29 μ29 hw => ?_) hw⟩
        refine ⟨fun hc => ?_, fun hc => ?_⟩
        · have hw := hw.1 hc
          exact hw
        · have hw := hw.2 hc
          exact hQ _ _ hw)
  exact hw
def mp_headValue (x1 : Int32) (μ : mo_U) (Q : Int32 → mo_U → Prop) : Prop :=     (vp_in ((((3 : Int32)) * (μ.1 842)) + x1) 51 ∧ ((¬ (μ.2 27 ((((3 : Int32)) * (μ.1 842)) + x1).toNatClampNeg) = ((99 : Int32)) → mp_valueOf (μ.2 27 ((((3 : Int32)) * (μ.1 842)) + x1).toNatClampNeg) (μ.1 841) μ (fun (r30 : Int32) (μ30 : mo_U) => Q r30 μ30)) ∧ ((μ.2 27 ((((3 : Int32)) * (μ.1 842)) + x1).toNatClampNeg) = ((99 : Int32)) → Q ((0 : Int32)) μ)))
set_option maxHeartbeats 4000000 in
theorem mq_headValue {σ0 : z_S} {m : Nat} {ma : Nat → Nat} (hT : mo_T σ0 m ma) (x1 : Int32) (μ : mo_U) (Q : Int32 → mo_U → Prop) (Post : Int32 → z_S → Prop) (hQ : (∀ r μ', Q r μ' → Post r (mo_put σ0 m ma μ'))) (hw : mp_headValue x1 μ Q) : kp_Mo_headValue m x1 (mo_put σ0 m ma μ) Post := by
  unfold mp_headValue at hw
  unfold kp_Mo_headValue
  refine ⟨mo_ty0 hT, ma 27, mo_R810 hT, ?_⟩
  refine ⟨mo_ty0 hT, ?_⟩
  try rw [mo_I σ0 m ma μ 842]
  refine ⟨51, 27, mo_T27 hT, hw.1, ?_⟩
  replace hw := hw.2
  try rw [mo_A σ0 m ma μ 27]
  refine ⟨fun hc => ?_, fun hc => ?_⟩
  · have hw := hw.1 hc
    refine ⟨mo_ty0 hT, ?_⟩
    try rw [mo_I σ0 m ma μ 841]
    refine ⟨mo_ty0 hT, mq_valueOf hT (μ.2 27 ((((3 : Int32)) * (μ.1 842)) + x1).toNatClampNeg) (μ.1 841) μ _ _ (fun r30 μ30 hw => ?_) hw⟩
    exact hQ _ _ hw
  · have hw := hw.2 hc
    exact hQ _ _ hw
def mp_markOf (x1 : Int32) (μ : mo_U) (Q : Int32 → mo_U → Prop) : Prop := ∀ (X4 : Int32 → Int32 → mo_U → Prop),
    (∀ (v2 : Int32) (v3 : Int32) (μ : mo_U), ((((3 : Int32)) ≤ v3 → Q v2 μ) ∧ (¬ ((3 : Int32)) ≤ v3 → vp_in ((((3 : Int32)) * x1) + v3) 51 ∧ ((¬ (μ.2 27 ((((3 : Int32)) * x1) + v3).toNatClampNeg) = ((99 : Int32)) → X4 v2 (v3 + (1 : Int32)) μ) ∧ ((μ.2 27 ((((3 : Int32)) * x1) + v3).toNatClampNeg) = ((99 : Int32)) → X4 v3 (v3 + (1 : Int32)) μ)))) → X4 v2 v3 μ) →
    (X4 ((-1 : Int32)) ((0 : Int32)) μ)
set_option maxHeartbeats 4000000 in
theorem mq_markOf {σ0 : z_S} {m : Nat} {ma : Nat → Nat} (hT : mo_T σ0 m ma) (x1 : Int32) (μ : mo_U) (Q : Int32 → mo_U → Prop) (Post : Int32 → z_S → Prop) (hQ : (∀ r μ', Q r μ' → Post r (mo_put σ0 m ma μ'))) (hw : mp_markOf x1 μ Q) : kp_Mo_markOf m x1 (mo_put σ0 m ma μ) Post := by
  unfold mp_markOf at hw
  unfold kp_Mo_markOf
  intro X4 hX4
  have hw := hw (fun (v2 : Int32) (v3 : Int32) (μ : mo_U) => X4 v2 v3 (mo_put σ0 m ma μ))
  have hw := hw (by
    intro v2 v3 μ hw
    refine hX4 _ _ _  ?_
    refine ⟨fun hc => ?_, fun hc => ?_⟩
    · have hw := hw.1 hc
      exact hQ _ _ hw
    · have hw := hw.2 hc
      refine ⟨mo_ty0 hT, ma 27, mo_R810 hT, ?_⟩
      refine ⟨51, 27, mo_T27 hT, hw.1, ?_⟩
      replace hw := hw.2
      try rw [mo_A σ0 m ma μ 27]
      refine ⟨fun hc => ?_, fun hc => ?_⟩
      · have hw := hw.1 hc
        exact hw
      · have hw := hw.2 hc
        exact hw)
  exact hw
def mp_countRule (x1 : Int32) (μ : mo_U) (Q : Int32 → mo_U → Prop) : Prop := ∀ (X16 : Int32 → mo_U → Prop) (X42 : Int32 → Int32 → Int32 → Int32 → Int32 → mo_U → Prop) (X159 : Int32 → Int32 → mo_U → Prop) (X178 : Int32 → Int32 → Int32 → mo_U → Prop) (X233 : Int32 → Int32 → Int32 → Int32 → Int32 → mo_U → Prop) (X254 : Int32 → Int32 → Int32 → Int32 → Int32 → Int32 → mo_U → Prop) (X265 : Int32 → Int32 → Int32 → Int32 → Int32 → Int32 → mo_U → Prop),
    (∀ (v2 : Int32) (μ : mo_U), (mp_next μ (fun (r17 : Int32) (μ17 : mo_U) => (r17 = 0 → X178 v2 ((1 : Int32)) ((0 : Int32)) μ17) ∧ (¬ r17 = 0 → mp_headValue ((0 : Int32)) μ17 (fun (r25 : Int32) (μ25 : mo_U) => mp_headValue ((1 : Int32)) μ25 (fun (r31 : Int32) (μ31 : mo_U) => X42 v2 r25 r31 ((-1 : Int32)) ((0 : Int32)) μ31))))) → X16 v2 μ) →
    (∀ (v2 : Int32) (v3 : Int32) (v4 : Int32) (v5 : Int32) (v6 : Int32) (μ : mo_U), (((μ.1 845) ≤ v6 → (¬ v5 = ((-1 : Int32)) → X159 v2 v5 μ) ∧ (v5 = ((-1 : Int32)) → (¬ (μ.1 845) = ((40 : Int32)) → vp_in (((3 : Int32)) * (μ.1 845)) 120 ∧ ∀ μ127, μ127 = mu_sA μ 53 (upd (μ.2 53) (((3 : Int32)) * (μ.1 845)).toNatClampNeg v3) → vp_in ((((3 : Int32)) * (μ.1 845)) + ((1 : Int32))) 120 ∧ ∀ μ140, μ140 = mu_sA μ127 53 (upd (μ127.2 53) ((((3 : Int32)) * (μ.1 845)) + ((1 : Int32))).toNatClampNeg v4) → vp_in (μ.1 845) 40 ∧ ∀ μ148, μ148 = mu_sA μ140 54 (upd (μ140.2 54) (μ.1 845).toNatClampNeg ((0 : Int32))) → ∀ μ156, μ156 = mu_sI μ148 845 ((μ148.1 845) + ((1 : Int32))) → X159 v2 (μ.1 845) μ156) ∧ ((μ.1 845) = ((40 : Int32)) → Q ((0 : Int32)) μ))) ∧ (¬ (μ.1 845) ≤ v6 → vp_in (((3 : Int32)) * v6) 120 ∧ ((¬ (μ.2 53 (((3 : Int32)) * v6).toNatClampNeg) = v3 → X42 v2 v3 v4 v5 (v6 + (1 : Int32)) μ) ∧ ((μ.2 53 (((3 : Int32)) * v6).toNatClampNeg) = v3 → vp_in ((((3 : Int32)) * v6) + ((1 : Int32))) 120 ∧ ((¬ (μ.2 53 ((((3 : Int32)) * v6) + ((1 : Int32))).toNatClampNeg) = v4 → X42 v2 v3 v4 v5 (v6 + (1 : Int32)) μ) ∧ ((μ.2 53 ((((3 : Int32)) * v6) + ((1 : Int32))).toNatClampNeg) = v4 → X42 v2 v3 v4 v6 (v6 + (1 : Int32)) μ)))))) → X42 v2 v3 v4 v5 v6 μ) →
    (∀ (v2 : Int32) (v5 : Int32) (μ : mo_U), (vp_in v5 40 ∧ (vp_in v5 40 ∧ ∀ μ169, μ169 = mu_sA μ 54 (upd (μ.2 54) v5.toNatClampNeg ((μ.2 54 v5.toNatClampNeg) + ((1 : Int32)))) → X16 v2 μ169)) → X159 v2 v5 μ) →
    (∀ (v2 : Int32) (v3 : Int32) (v4 : Int32) (μ : mo_U), (((μ.1 845) ≤ v4 → (v3 = 0 ∨ v3 = 1) ∧ Q v3 μ) ∧ (¬ (μ.1 845) ≤ v4 → (v3 = 0 → (v3 = 0 ∨ v3 = 1) ∧ Q v3 μ) ∧ (¬ v3 = 0 → vp_in v4 40 ∧ ((((999 : Int32)) < (μ.2 54 v4.toNatClampNeg) → X178 v2 ((0 : Int32)) (v4 + (1 : Int32)) μ) ∧ (¬ ((999 : Int32)) < (μ.2 54 v4.toNatClampNeg) → vp_in x1 17 ∧ ((¬ v2 = 0 → vp_in (((3 : Int32)) * v4) 120 ∧ (X233 v2 v4 (μ.2 54 v4.toNatClampNeg) (μ.2 26 x1.toNatClampNeg) (μ.2 53 (((3 : Int32)) * v4).toNatClampNeg) μ)) ∧ (v2 = 0 → X233 v2 v4 (μ.2 54 v4.toNatClampNeg) (μ.2 26 x1.toNatClampNeg) (μ.2 54 v4.toNatClampNeg) μ))))))) → X178 v2 v3 v4 μ) →
    (∀ (v2 : Int32) (v4 : Int32) (v5 : Int32) (t1 : Int32) (t2 : Int32) (μ : mo_U), ((¬ v2 = ((1 : Int32)) → vp_in ((((3 : Int32)) * v4) + ((1 : Int32))) 120 ∧ (X254 v2 v4 v5 t1 t2 (μ.2 53 ((((3 : Int32)) * v4) + ((1 : Int32))).toNatClampNeg) μ)) ∧ (v2 = ((1 : Int32)) → X254 v2 v4 v5 t1 t2 v5 μ)) → X233 v2 v4 v5 t1 t2 μ) →
    (∀ (v2 : Int32) (v4 : Int32) (v5 : Int32) (t1 : Int32) (t2 : Int32) (t3 : Int32) (μ : mo_U), ((¬ v2 = ((2 : Int32)) → X265 v2 v4 t1 t2 t3 ((0 : Int32)) μ) ∧ (v2 = ((2 : Int32)) → X265 v2 v4 t1 t2 t3 v5 μ)) → X254 v2 v4 v5 t1 t2 t3 μ) →
    (∀ (v2 : Int32) (v4 : Int32) (t1 : Int32) (t2 : Int32) (t3 : Int32) (t4 : Int32) (μ : mo_U), (mp_insert t1 t2 t3 t4 ((1 : Int32)) μ (fun (r266 : Int32) (μ266 : mo_U) => (r266 = 0 → X178 v2 ((0 : Int32)) (v4 + (1 : Int32)) μ266) ∧ (¬ r266 = 0 → X178 v2 ((1 : Int32)) (v4 + (1 : Int32)) μ266))) → X265 v2 v4 t1 t2 t3 t4 μ) →
    (mp_markOf x1 μ (fun (r2 : Int32) (μ2 : mo_U) => ∀ μ8, μ8 = mu_sI μ2 845 ((0 : Int32)) → mp_begin x1 μ8 (fun (μ13 : mo_U) => X16 r2 μ13)))
set_option maxHeartbeats 4000000 in
theorem mq_countRule {σ0 : z_S} {m : Nat} {ma : Nat → Nat} (hT : mo_T σ0 m ma) (x1 : Int32) (μ : mo_U) (Q : Int32 → mo_U → Prop) (Post : Int32 → z_S → Prop) (hQ : (∀ r μ', Q r μ' → Post r (mo_put σ0 m ma μ'))) (hw : mp_countRule x1 μ Q) : kp_Mo_countRule m x1 (mo_put σ0 m ma μ) Post := by
  unfold mp_countRule at hw
  unfold kp_Mo_countRule
  intro X16 X42 X159 X178 X233 X254 X265 hX16 hX42 hX159 hX178 hX233 hX254 hX265
  have hw := hw (fun (v2 : Int32) (μ : mo_U) => X16 v2 (mo_put σ0 m ma μ))
  have hw := hw (fun (v2 : Int32) (v3 : Int32) (v4 : Int32) (v5 : Int32) (v6 : Int32) (μ : mo_U) => X42 v2 v3 v4 v5 v6 (mo_put σ0 m ma μ))
  have hw := hw (fun (v2 : Int32) (v5 : Int32) (μ : mo_U) => X159 v2 v5 (mo_put σ0 m ma μ))
  have hw := hw (fun (v2 : Int32) (v3 : Int32) (v4 : Int32) (μ : mo_U) => X178 v2 v3 v4 (mo_put σ0 m ma μ))
  have hw := hw (fun (v2 : Int32) (v4 : Int32) (v5 : Int32) (t1 : Int32) (t2 : Int32) (μ : mo_U) => X233 v2 v4 v5 m t1 t2 (mo_put σ0 m ma μ))
  have hw := hw (fun (v2 : Int32) (v4 : Int32) (v5 : Int32) (t1 : Int32) (t2 : Int32) (t3 : Int32) (μ : mo_U) => X254 v2 v4 v5 m t1 t2 t3 (mo_put σ0 m ma μ))
  have hw := hw (fun (v2 : Int32) (v4 : Int32) (t1 : Int32) (t2 : Int32) (t3 : Int32) (t4 : Int32) (μ : mo_U) => X265 v2 v4 m t1 t2 t3 t4 (mo_put σ0 m ma μ))
  have hw := hw (by
    intro v2 μ hw
    refine hX16 _ _  ?_
    refine ⟨mo_ty0 hT, mq_next hT μ _ _ (fun r17 μ17 hw => ?_) hw⟩
    refine ⟨fun hc => ?_, fun hc => ?_⟩
    · have hw := hw.1 hc
      exact hw
    · have hw := hw.2 hc
      refine ⟨mo_ty0 hT, mq_headValue hT ((0 : Int32)) μ17 _ _ (fun r25 μ25 hw => ?_) hw⟩
      refine ⟨mo_ty0 hT, mq_headValue hT ((1 : Int32)) μ25 _ _ (fun r31 μ31 hw => ?_) hw⟩
      exact hw)
  have hw := hw (by
    intro v2 v3 v4 v5 v6 μ hw
    refine hX42 _ _ _ _ _ _  ?_
    refine ⟨mo_ty0 hT, ?_⟩
    try rw [mo_I σ0 m ma μ 845]
    refine ⟨fun hc => ?_, fun hc => ?_⟩
    · have hw := hw.1 hc
      refine ⟨fun hc => ?_, fun hc => ?_⟩
      · have hw := hw.1 hc
        exact hw
      · have hw := hw.2 hc
        refine ⟨mo_ty0 hT, ?_⟩
        try rw [mo_I σ0 m ma μ 845]
        refine ⟨fun hc => ?_, fun hc => ?_⟩
        · have hw := hw.1 hc
          refine ⟨mo_ty0 hT, ?_⟩
          try rw [mo_I σ0 m ma μ 845]
          refine ⟨mo_ty0 hT, ma 53, mo_R843 hT, ?_⟩
          refine ⟨120, 53, mo_T53 hT, hw.1, fun σ127 e127 => ?_⟩
          replace hw := hw.2
          rw [mo_A σ0 m ma μ 53, mo_sA] at e127
          obtain ⟨μ127, f127⟩ : ∃ z, z = mu_sA μ 53 (upd (μ.2 53) (((3 : Int32)) * (μ.1 845)).toNatClampNeg v3) := ⟨_, rfl⟩
          rw [← f127] at e127
          subst e127
          have hw := hw _ f127
          refine ⟨mo_ty0 hT, ma 53, mo_R843 hT, ?_⟩
          refine ⟨120, 53, mo_T53 hT, hw.1, fun σ140 e140 => ?_⟩
          replace hw := hw.2
          rw [mo_A σ0 m ma μ127 53, mo_sA] at e140
          obtain ⟨μ140, f140⟩ : ∃ z, z = mu_sA μ127 53 (upd (μ127.2 53) ((((3 : Int32)) * (μ.1 845)) + ((1 : Int32))).toNatClampNeg v4) := ⟨_, rfl⟩
          rw [← f140] at e140
          subst e140
          have hw := hw _ f140
          refine ⟨mo_ty0 hT, ma 54, mo_R844 hT, ?_⟩
          refine ⟨40, 54, mo_T54 hT, hw.1, fun σ148 e148 => ?_⟩
          replace hw := hw.2
          rw [mo_A σ0 m ma μ140 54, mo_sA] at e148
          obtain ⟨μ148, f148⟩ : ∃ z, z = mu_sA μ140 54 (upd (μ140.2 54) (μ.1 845).toNatClampNeg ((0 : Int32))) := ⟨_, rfl⟩
          rw [← f148] at e148
          subst e148
          have hw := hw _ f148
          refine ⟨mo_ty0 hT, ?_⟩
          try rw [mo_I σ0 m ma μ148 845]
          refine ⟨mo_ty0 hT, fun σ156 e156 => ?_⟩
          rw [mo_sI] at e156
          obtain ⟨μ156, f156⟩ : ∃ z, z = mu_sI μ148 845 ((μ148.1 845) + ((1 : Int32))) := ⟨_, rfl⟩
          rw [← f156] at e156
          subst e156
          have hw := hw _ f156
          exact hw
        · have hw := hw.2 hc
          exact hQ _ _ hw
    · have hw := hw.2 hc
      refine ⟨mo_ty0 hT, ma 53, mo_R843 hT, ?_⟩
      refine ⟨120, 53, mo_T53 hT, hw.1, ?_⟩
      replace hw := hw.2
      try rw [mo_A σ0 m ma μ 53]
      refine ⟨fun hc => ?_, fun hc => ?_⟩
      · have hw := hw.1 hc
        exact hw
      · have hw := hw.2 hc
        refine ⟨mo_ty0 hT, ma 53, mo_R843 hT, ?_⟩
        refine ⟨120, 53, mo_T53 hT, hw.1, ?_⟩
        replace hw := hw.2
        try rw [mo_A σ0 m ma μ 53]
        refine ⟨fun hc => ?_, fun hc => ?_⟩
        · have hw := hw.1 hc
          exact hw
        · have hw := hw.2 hc
          exact hw)
  have hw := hw (by
    intro v2 v5 μ hw
    refine hX159 _ _ _  ?_
    refine ⟨mo_ty0 hT, ma 54, mo_R844 hT, ?_⟩
    refine ⟨40, 54, mo_T54 hT, hw.1, ?_⟩
    replace hw := hw.2
    try rw [mo_A σ0 m ma μ 54]
    refine ⟨40, 54, mo_T54 hT, hw.1, fun σ169 e169 => ?_⟩
    replace hw := hw.2
    rw [mo_A σ0 m ma μ 54, mo_sA] at e169
    obtain ⟨μ169, f169⟩ : ∃ z, z = mu_sA μ 54 (upd (μ.2 54) v5.toNatClampNeg ((μ.2 54 v5.toNatClampNeg) + ((1 : Int32)))) := ⟨_, rfl⟩
    rw [← f169] at e169
    subst e169
    have hw := hw _ f169
    exact hw)
  have hw := hw (by
    intro v2 v3 v4 μ hw
    refine hX178 _ _ _ _  ?_
    refine ⟨mo_ty0 hT, ?_⟩
    try rw [mo_I σ0 m ma μ 845]
    refine ⟨fun hc => ?_, fun hc => ?_⟩
    · have hw := hw.1 hc
      exact ⟨hw.1, hQ _ _ hw.2⟩
    · have hw := hw.2 hc
      refine ⟨fun hc => ?_, fun hc => ?_⟩
      · have hw := hw.1 hc
        exact ⟨hw.1, hQ _ _ hw.2⟩
      · have hw := hw.2 hc
        refine ⟨mo_ty0 hT, ma 54, mo_R844 hT, ?_⟩
        refine ⟨40, 54, mo_T54 hT, hw.1, ?_⟩
        replace hw := hw.2
        try rw [mo_A σ0 m ma μ 54]
        refine ⟨fun hc => ?_, fun hc => ?_⟩
        · have hw := hw.1 hc
          exact hw
        · have hw := hw.2 hc
          refine ⟨mo_ty0 hT, ma 26, mo_R809 hT, ?_⟩
          refine ⟨17, 26, mo_T26 hT, hw.1, ?_⟩
          replace hw := hw.2
          try rw [mo_A σ0 m ma μ 26]
          refine ⟨fun hc => ?_, fun hc => ?_⟩
          · have hw := hw.1 hc
            refine ⟨mo_ty0 hT, ma 53, mo_R843 hT, ?_⟩
            refine ⟨120, 53, mo_T53 hT, hw.1, ?_⟩
            replace hw := hw.2
            try rw [mo_A σ0 m ma μ 53]
            exact hw
          · have hw := hw.2 hc
            exact hw)
  have hw := hw (by
    intro v2 v4 v5 t1 t2 μ hw
    refine hX233 _ _ _ _ _ _ _  ?_
    refine ⟨fun hc => ?_, fun hc => ?_⟩
    · have hw := hw.1 hc
      refine ⟨mo_ty0 hT, ma 53, mo_R843 hT, ?_⟩
      refine ⟨120, 53, mo_T53 hT, hw.1, ?_⟩
      replace hw := hw.2
      try rw [mo_A σ0 m ma μ 53]
      exact hw
    · have hw := hw.2 hc
      exact hw)
  have hw := hw (by
    intro v2 v4 v5 t1 t2 t3 μ hw
    refine hX254 _ _ _ _ _ _ _ _  ?_
    refine ⟨fun hc => ?_, fun hc => ?_⟩
    · have hw := hw.1 hc
      exact hw
    · have hw := hw.2 hc
      exact hw)
  have hw := hw (by
    intro v2 v4 t1 t2 t3 t4 μ hw
    refine hX265 _ _ _ _ _ _ _ _  ?_
    refine ⟨mo_ty0 hT, mq_insert hT t1 t2 t3 t4 ((1 : Int32)) μ _ _ (fun r266 μ266 hw => ?_) hw⟩
    refine ⟨fun hc => ?_, fun hc => ?_⟩
    · have hw := hw.1 hc
      exact hw
    · have hw := hw.2 hc
      exact hw)
  refine ⟨mo_ty0 hT, mq_markOf hT x1 μ _ _ (fun r2 μ2 hw => ?_) hw⟩
  refine ⟨mo_ty0 hT, fun σ8 e8 => ?_⟩
  rw [mo_sI] at e8
  obtain ⟨μ8, f8⟩ : ∃ z, z = mu_sI μ2 845 ((0 : Int32)) := ⟨_, rfl⟩
  rw [← f8] at e8
  subst e8
  have hw := hw _ f8
  refine ⟨mo_ty0 hT, mq_begin hT x1 μ8 _ _ (fun μ13 hw => ?_) hw⟩
  exact hw
