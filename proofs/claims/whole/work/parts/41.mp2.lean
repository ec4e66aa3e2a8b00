def mp_plainRule (x1 : Int32) (μ : mo_U) (Q : Int32 → mo_U → Prop) : Prop := ∀ (X10 : mo_U → Prop) (X64 : Int32 → Int32 → Int32 → Int32 → Int32 → mo_U → Prop) (X208 : Int32 → mo_U → Prop),
    (∀ (μ : mo_U), (mp_next μ (fun (r11 : Int32) (μ11 : mo_U) => (r11 = 0 → X208 ((0 : Int32)) μ11) ∧ (¬ r11 = 0 → mp_headValue ((0 : Int32)) μ11 (fun (r19 : Int32) (μ19 : mo_U) => mp_headValue ((1 : Int32)) μ19 (fun (r25 : Int32) (μ25 : mo_U) => mp_headValue ((2 : Int32)) μ25 (fun (r31 : Int32) (μ31 : mo_U) => vp_in x1 17 ∧ (mp_find (μ31.2 26 x1.toNatClampNeg) r19 r25 r31 μ31 (fun (r47 : Int32) (μ47 : mo_U) => (r47 = ((-1 : Int32)) → X64 r19 r25 r31 ((0 : Int32)) ((0 : Int32)) μ47) ∧ (¬ r47 = ((-1 : Int32)) → X64 r19 r25 r31 ((1 : Int32)) ((0 : Int32)) μ47))))))))) → X10 μ) →
    (∀ (v2 : Int32) (v3 : Int32) (v4 : Int32) (v5 : Int32) (v6 : Int32) (μ : mo_U), (((μ.1 845) ≤ v6 → (¬ v5 = 0 → X10 μ) ∧ (v5 = 0 → (¬ (μ.1 845) = ((40 : Int32)) → vp_in (((3 : Int32)) * (μ.1 845)) 120 ∧ ∀ μ163, μ163 = mu_sA μ 53 (upd (μ.2 53) (((3 : Int32)) * (μ.1 845)).toNatClampNeg v2) → vp_in ((((3 : Int32)) * (μ163.1 845)) + ((1 : Int32))) 120 ∧ ∀ μ177, μ177 = mu_sA μ163 53 (upd (μ163.2 53) ((((3 : Int32)) * (μ163.1 845)) + ((1 : Int32))).toNatClampNeg v3) → vp_in ((((3 : Int32)) * (μ177.1 845)) + ((2 : Int32))) 120 ∧ ∀ μ192, μ192 = mu_sA μ177 53 (upd (μ177.2 53) ((((3 : Int32)) * (μ177.1 845)) + ((2 : Int32))).toNatClampNeg v4) → ∀ μ200, μ200 = mu_sI μ192 845 ((μ192.1 845) + ((1 : Int32))) → X10 μ200) ∧ ((μ.1 845) = ((40 : Int32)) → Q ((-3 : Int32)) μ))) ∧ (¬ (μ.1 845) ≤ v6 → (¬ v5 = 0 → X64 v2 v3 v4 ((1 : Int32)) (v6 + (1 : Int32)) μ) ∧ (v5 = 0 → vp_in (((3 : Int32)) * v6) 120 ∧ ((¬ (μ.2 53 (((3 : Int32)) * v6).toNatClampNeg) = v2 → X64 v2 v3 v4 ((0 : Int32)) (v6 + (1 : Int32)) μ) ∧ ((μ.2 53 (((3 : Int32)) * v6).toNatClampNeg) = v2 → vp_in ((((3 : Int32)) * v6) + ((1 : Int32))) 120 ∧ ((¬ (μ.2 53 ((((3 : Int32)) * v6) + ((1 : Int32))).toNatClampNeg) = v3 → X64 v2 v3 v4 ((0 : Int32)) (v6 + (1 : Int32)) μ) ∧ ((μ.2 53 ((((3 : Int32)) * v6) + ((1 : Int32))).toNatClampNeg) = v3 → vp_in ((((3 : Int32)) * v6) + ((2 : Int32))) 120 ∧ ((¬ (μ.2 53 ((((3 : Int32)) * v6) + ((2 : Int32))).toNatClampNeg) = v4 → X64 v2 v3 v4 ((0 : Int32)) (v6 + (1 : Int32)) μ) ∧ ((μ.2 53 ((((3 : Int32)) * v6) + ((2 : Int32))).toNatClampNeg) = v4 → X64 v2 v3 v4 ((1 : Int32)) (v6 + (1 : Int32)) μ))))))))) → X64 v2 v3 v4 v5 v6 μ) →
    (∀ (v2 : Int32) (μ : mo_U), (((μ.1 845) ≤ v2 → (((μ.1 845)) ≤ 0 → Q ((0 : Int32)) μ) ∧ (¬ ((μ.1 845)) ≤ 0 → Q ((1 : Int32)) μ)) ∧ (¬ (μ.1 845) ≤ v2 → vp_in x1 17 ∧ (vp_in (((3 : Int32)) * v2) 120 ∧ (vp_in ((((3 : Int32)) * v2) + ((1 : Int32))) 120 ∧ (vp_in ((((3 : Int32)) * v2) + ((2 : Int32))) 120 ∧ (mp_insert (μ.2 26 x1.toNatClampNeg) (μ.2 53 (((3 : Int32)) * v2).toNatClampNeg) (μ.2 53 ((((3 : Int32)) * v2) + ((1 : Int32))).toNatClampNeg) (μ.2 53 ((((3 : Int32)) * v2) + ((2 : Int32))).toNatClampNeg) ((1 : Int32)) μ (fun (r252 : Int32) (μ252 : mo_U) => (¬ r252 = 0 → X208 (v2 + (1 : Int32)) μ252) ∧ (r252 = 0 → Q ((-3 : Int32)) μ252)))))))) → X208 v2 μ) →
    (∀ μ2, μ2 = mu_sI μ 845 ((0 : Int32)) → mp_begin x1 μ2 (fun (μ7 : mo_U) => X10 μ7))
set_option maxHeartbeats 4000000 in
theorem mq_plainRule {σ0 : z_S} {m : Nat} {ma : Nat → Nat} (hT : mo_T σ0 m ma) (x1 : Int32) (μ : mo_U) (Q : Int32 → mo_U → Prop) (Post : Int32 → z_S → Prop) (hQ : (∀ r μ', Q r μ' → Post r (mo_put σ0 m ma μ'))) (hw : mp_plainRule x1 μ Q) : kp_Mo_plainRule m x1 (mo_put σ0 m ma μ) Post := by
  unfold mp_plainRule at hw
  unfold kp_Mo_plainRule
  intro X10 X64 X208 hX10 hX64 hX208
  have hw := hw (fun (μ : mo_U) => X10 (mo_put σ0 m ma μ))
  have hw := hw (fun (v2 : Int32) (v3 : Int32) (v4 : Int32) (v5 : Int32) (v6 : Int32) (μ : mo_U) => X64 v2 v3 v4 v5 v6 (mo_put σ0 m ma μ))
  have hw := hw (fun (v2 : Int32) (μ : mo_U) => X208 v2 (mo_put σ0 m ma μ))
  have hw := hw (by
    intro μ hw
    refine hX10 _  ?_
    refine ⟨mo_ty0 hT, mq_next hT μ _ _ (fun r11 μ11 hw => ?_) hw⟩
    refine ⟨fun hc => ?_, fun hc => ?_⟩
    · have hw := hw.1 hc
      exact hw
    · have hw := hw.2 hc
      refine ⟨mo_ty0 hT, mq_headValue hT ((0 : Int32)) μ11 _ _ (fun r19 μ19 hw => ?_) hw⟩
      refine ⟨mo_ty0 hT, mq_headValue hT ((1 : Int32)) μ19 _ _ (fun r25 μ25 hw => ?_) hw⟩
      refine ⟨mo_ty0 hT, mq_headValue hT ((2 : Int32)) μ25 _ _ (fun r31 μ31 hw => ?_) hw⟩
      refine ⟨mo_ty0 hT, ma 26, mo_R809 hT, ?_⟩
      refine ⟨17, 26, mo_T26 hT, hw.1, ?_⟩
      replace hw := hw.2
      try rw [mo_A σ0 m ma μ31 26]
      refine ⟨mo_ty0 hT, mq_find hT (μ31.2 26 x1.toNatClampNeg) r19 r25 r31 μ31 _ _ (fun r47 μ47 hw => ?_) hw⟩
      refine ⟨fun hc => ?_, fun hc => ?_⟩
      · have hw := hw.1 hc
        exact hw
      · have hw := hw.2 hc
        exact hw)
  have hw := hw (by
    intro v2 v3 v4 v5 v6 μ hw
    refine hX64 _ _ _ _ _ _  ?_
    refine ⟨mo_ty0 hT, ?_⟩
    try rw [mo_I σ0 m ma μ 845]
    refine ⟨fun hc => ?_, fun hc => ?_⟩
    · have hw := hw.1 hc
      refine ⟨fun hc => ?_, fun hc => ?_⟩
      · have hw := hw.1 hc
        exact hw
      · have hw := hw.2 hc
        refine ⟨mo_ty0 hT, ?_⟩
        try rw [mo_I σ0 m ma μ 845]
        refine ⟨fun hc => ?_, fun hc => ?_⟩
        · have hw := hw.1 hc
          refine ⟨mo_ty0 hT, ma 53, mo_R843 hT, ?_⟩
          refine ⟨mo_ty0 hT, ?_⟩
          try rw [mo_I σ0 m ma μ 845]
          refine ⟨120, 53, mo_T53 hT, hw.1, fun σ163 e163 => ?_⟩
          replace hw := hw.2
          rw [mo_A σ0 m ma μ 53, mo_sA] at e163
          obtain ⟨μ163, f163⟩ : ∃ z, z = mu_sA μ 53 (upd (μ.2 53) (((3 : Int32)) * (μ.1 845)).toNatClampNeg v2) := ⟨_, rfl⟩
          rw [← f163] at e163
          subst e163
          have hw := hw _ f163
          refine ⟨mo_ty0 hT, ma 53, mo_R843 hT, ?_⟩
          refine ⟨mo_ty0 hT, ?_⟩
          try rw [mo_I σ0 m ma μ163 845]
          refine ⟨120, 53, mo_T53 hT, hw.1, fun σ177 e177 => ?_⟩
          replace hw := hw.2
          rw [mo_A σ0 m ma μ163 53, mo_sA] at e177
          obtain ⟨μ177, f177⟩ : ∃ z, z = mu_sA μ163 53 (upd (μ163.2 53) ((((3 : Int32)) * (μ163.1 845)) + ((1 : Int32))).toNatClampNeg v3) := ⟨_, rfl⟩
          rw [← f177] at e177
          subst e177
          have hw := hw _ f177
          refine ⟨mo_ty0 hT, ma 53, mo_R843 hT, ?_⟩
          refine ⟨mo_ty0 hT, ?_⟩
          try rw [mo_I σ0 m ma μ177 845]
          refine ⟨120, 53, mo_T53 hT, hw.1, fun σ192 e192 => ?_⟩
          replace hw := hw.2
          rw [mo_A σ0 m ma μ177 53, mo_sA] at e192
          obtain ⟨μ192, f192⟩ : ∃ z, z = mu_sA μ177 53 (upd (μ177.2 53) ((((3 : Int32)) * (μ177.1 845)) + ((2 : Int32))).toNatClampNeg v4) := ⟨_, rfl⟩
          rw [← f192] at e192
          subst e192
          have hw := hw _ f192
          refine ⟨mo_ty0 hT, ?_⟩
          try rw [mo_I σ0 m ma μ192 845]
          refine ⟨mo_ty0 hT, fun σ200 e200 => ?_⟩
          rw [mo_sI] at e200
          obtain ⟨μ200, f200⟩ : ∃ z, z = mu_sI μ192 845 ((μ192.1 845) + ((1 : Int32))) := ⟨_, rfl⟩
          rw [← f200] at e200
          subst e200
          have hw := hw _ f200
          exact hw
        · have hw := hw.2 hc
          exact hQ _ _ hw
    · have hw := hw.2 hc
      refine ⟨fun hc => ?_, fun hc => ?_⟩
      · have hw := hw.1 hc
        exact hw
      · have hw := hw.2 hc
        refine ⟨mo_ty0 hT, ma 53, mo_R843 hT, ?_⟩
        refine ⟨120, 53, mo_T53 hT, hw.1, ?_⟩
        replace hw := hw.2
        try rw [mo_A σ0 m ma μ 53]
        refine ⟨fun hc => ?_, fun hc => ?_⟩
        · have hw := hw.1 hc
          exact hw
        · have hw := hw.2 hc
          refine ⟨mo_ty0 hT, ma 53, mo_R843 hT, ?_⟩
          refine ⟨120, 53, mo_T53 hT, hw.1, ?_⟩
          replace hw := hw.2
          try rw [mo_A σ0 m ma μ 53]
          refine ⟨fun hc => ?_, fun hc => ?_⟩
          · have hw := hw.1 hc
            exact hw
          · have hw := hw.2 hc
            refine ⟨mo_ty0 hT, ma 53, mo_R843 hT, ?_⟩
            refine ⟨120, 53, mo_T53 hT, hw.1, ?_⟩
            replace hw := hw.2
            try rw [mo_A σ0 m ma μ 53]
            refine ⟨fun hc => ?_, fun hc => ?_⟩
            · have hw := hw.1 hc
              exact hw
            · have hw := hw.2 hc
              exact hw)
  have hw := hw (by
    intro v2 μ hw
    refine hX208 _ _  ?_
    refine ⟨mo_ty0 hT, ?_⟩
    try rw [mo_I σ0 m ma μ 845]
    refine ⟨fun hc => ?_, fun hc => ?_⟩
    · have hw := hw.1 hc
      refine ⟨mo_ty0 hT, ?_⟩
      try rw [mo_I σ0 m ma μ 845]
      refine ⟨fun hc => ?_, fun hc => ?_⟩
      · have hw := hw.1 hc
        exact hQ _ _ hw
      · have hw := hw.2 hc
        exact hQ _ _ hw
    · have hw := hw.2 hc
      refine ⟨mo_ty0 hT, ma 26, mo_R809 hT, ?_⟩
      refine ⟨17, 26, mo_T26 hT, hw.1, ?_⟩
      replace hw := hw.2
      try rw [mo_A σ0 m ma μ 26]
      refine ⟨mo_ty0 hT, ma 53, mo_R843 hT, ?_⟩
      refine ⟨120, 53, mo_T53 hT, hw.1, ?_⟩
      replace hw := hw.2
      try rw [mo_A σ0 m ma μ 53]
      refine ⟨mo_ty0 hT, ma 53, mo_R843 hT, ?_⟩
      refine ⟨120, 53, mo_T53 hT, hw.1, ?_⟩
      replace hw := hw.2
      try rw [mo_A σ0 m ma μ 53]
      refine ⟨mo_ty0 hT, ma 53, mo_R843 hT, ?_⟩
      refine ⟨120, 53, mo_T53 hT, hw.1, ?_⟩
      replace hw := hw.2
      try rw [mo_A σ0 m ma μ 53]
      refine ⟨mo_ty0 hT, mq_insert hT (μ.2 26 x1.toNatClampNeg) (μ.2 53 (((3 : Int32)) * v2).toNatClampNeg) (μ.2 53 ((((3 : Int32)) * v2) + ((1 : Int32))).toNatClampNeg) (μ.2 53 ((((3 : Int32)) * v2) + ((2 : Int32))).toNatClampNeg) ((1 : Int32)) μ _ _ (fun r252 μ252 hw => ?_) hw⟩
      refine ⟨fun hc => ?_, fun hc => ?_⟩
      · have hw := hw.1 hc
        exact hw
      · have hw := hw.2 hc
        exact hQ _ _ hw)
  refine ⟨mo_ty0 hT, fun σ2 e2 => ?_⟩
  rw [mo_sI] at e2
  obtain ⟨μ2, f2⟩ : ∃ z, z = mu_sI μ 845 ((0 : Int32)) := ⟨_, rfl⟩
  rw [← f2] at e2
  subst e2
  have hw := hw _ f2
  refine ⟨mo_ty0 hT, mq_begin hT x1 μ2 _ _ (fun μ7 hw => ?_) hw⟩
  exact hw
def mp_work (μ : mo_U) (Q : Int32 → mo_U → Prop) : Prop := ∀ (X2 : Int32 → mo_U → Prop) (X34 : Int32 → Int32 → Int32 → mo_U → Prop) (X43 : Int32 → mo_U → Prop) (X51 : Int32 → Int32 → mo_U → Prop) (X101 : Int32 → Int32 → mo_U → Prop) (X109 : Int32 → Int32 → Int32 → mo_U → Prop),
    (∀ (v1 : Int32) (μ : mo_U), (((μ.1 817) ≤ v1 → X43 ((1 : Int32)) μ) ∧ (¬ (μ.1 817) ≤ v1 → vp_in v1 9 ∧ ((((μ.2 36 v1.toNatClampNeg)) = 0 → vp_in v1 8 ∧ (X34 v1 v1 (μ.2 42 v1.toNatClampNeg) μ)) ∧ (¬ ((μ.2 36 v1.toNatClampNeg)) = 0 → X34 v1 v1 ((0 : Int32)) μ)))) → X2 v1 μ) →
    (∀ (v1 : Int32) (t1 : Int32) (t2 : Int32) (μ : mo_U), (vp_in t1 8 ∧ ∀ μ34, μ34 = mu_sA μ 42 (upd (μ.2 42) t1.toNatClampNeg t2) → X2 (v1 + (1 : Int32)) μ34) → X34 v1 t1 t2 μ) →
    (∀ (v1 : Int32) (μ : mo_U), ((((8 : Int32)) < v1 → Q ((1 : Int32)) μ) ∧ (¬ ((8 : Int32)) < v1 → X51 v1 ((0 : Int32)) μ)) → X43 v1 μ) →
    (∀ (v1 : Int32) (v2 : Int32) (μ : mo_U), (((μ.1 808) ≤ v2 → X101 v1 ((1 : Int32)) μ) ∧ (¬ (μ.1 808) ≤ v2 → vp_in v2 17 ∧ (vp_in (μ.2 26 v2.toNatClampNeg) 9 ∧ ((¬ (μ.2 37 (μ.2 26 v2.toNatClampNeg).toNatClampNeg) = v1 → X51 v1 (v2 + (1 : Int32)) μ) ∧ ((μ.2 37 (μ.2 26 v2.toNatClampNeg).toNatClampNeg) = v1 → vp_in v2 17 ∧ ((((μ.2 32 v2.toNatClampNeg)) = 0 → X51 v1 (v2 + (1 : Int32)) μ) ∧ (¬ ((μ.2 32 v2.toNatClampNeg)) = 0 → mp_countRule v2 μ (fun (r85 : Int32) (μ85 : mo_U) => (¬ r85 = 0 → X51 v1 (v2 + (1 : Int32)) μ85) ∧ (r85 = 0 → Q ((0 : Int32)) μ85))))))))) → X51 v1 v2 μ) →
    (∀ (v1 : Int32) (v2 : Int32) (μ : mo_U), ((v2 = 0 → X43 (v1 + (1 : Int32)) μ) ∧ (¬ v2 = 0 → X109 v1 ((0 : Int32)) ((0 : Int32)) μ)) → X101 v1 v2 μ) →
    (∀ (v1 : Int32) (v2 : Int32) (v3 : Int32) (μ : mo_U), (((μ.1 808) ≤ v3 → X101 v1 v2 μ) ∧ (¬ (μ.1 808) ≤ v3 → vp_in v3 17 ∧ (vp_in (μ.2 26 v3.toNatClampNeg) 9 ∧ ((¬ (μ.2 37 (μ.2 26 v3.toNatClampNeg).toNatClampNeg) = v1 → X109 v1 v2 (v3 + (1 : Int32)) μ) ∧ ((μ.2 37 (μ.2 26 v3.toNatClampNeg).toNatClampNeg) = v1 → vp_in v3 17 ∧ ((¬ ((μ.2 32 v3.toNatClampNeg)) = 0 → X109 v1 v2 (v3 + (1 : Int32)) μ) ∧ (((μ.2 32 v3.toNatClampNeg)) = 0 → mp_plainRule v3 μ (fun (r143 : Int32) (μ143 : mo_U) => (¬ r143 = ((-3 : Int32)) → (¬ v2 = 0 → X109 v1 ((1 : Int32)) (v3 + (1 : Int32)) μ143) ∧ (v2 = 0 → (r143 ≤ 0 → X109 v1 ((0 : Int32)) (v3 + (1 : Int32)) μ143) ∧ (¬ r143 ≤ 0 → X109 v1 ((1 : Int32)) (v3 + (1 : Int32)) μ143))) ∧ (r143 = ((-3 : Int32)) → Q ((0 : Int32)) μ143))))))))) → X109 v1 v2 v3 μ) →
    (X2 ((0 : Int32)) μ)
set_option maxHeartbeats 4000000 in
theorem mq_work {σ0 : z_S} {m : Nat} {ma : Nat → Nat} (hT : mo_T σ0 m ma) (μ : mo_U) (Q : Int32 → mo_U → Prop) (Post : Int32 → z_S → Prop) (hQ : (∀ r μ', Q r μ' → Post r (mo_put σ0 m ma μ'))) (hw : mp_work μ Q) : kp_Mo_work m (mo_put σ0 m ma μ) Post := by
  unfold mp_work at hw
  unfold kp_Mo_work
  intro X2 X34 X43 X51 X101 X109 hX2 hX34 hX43 hX51 hX101 hX109
  have hw := hw (fun (v1 : Int32) (μ : mo_U) => X2 v1 (mo_put σ0 m ma μ))
  have hw := hw (fun (v1 : Int32) (t1 : Int32) (t2 : Int32) (μ : mo_U) => X34 v1 (ma 42) t1 t2 (mo_put σ0 m ma μ))
  have hw := hw (fun (v1 : Int32) (μ : mo_U) => X43 v1 (mo_put σ0 m ma μ))
  have hw := hw (fun (v1 : Int32) (v2 : Int32) (μ : mo_U) => X51 v1 v2 (mo_put σ0 m ma μ))
  have hw := hw (fun (v1 : Int32) (v2 : Int32) (μ : mo_U) => X101 v1 v2 (mo_put σ0 m ma μ))
  have hw := hw (fun (v1 : Int32) (v2 : Int32) (v3 : Int32) (μ : mo_U) => X109 v1 v2 v3 (mo_put σ0 m ma μ))
  have hw := hw (by
    intro v1 μ hw
    refine hX2 _ _  ?_
    refine ⟨mo_ty0 hT, ?_⟩
    try rw [mo_I σ0 m ma μ 817]
    refine ⟨fun hc => ?_, fun hc => ?_⟩
    · have hw := hw.1 hc
      exact hw
    · have hw := hw.2 hc
      refine ⟨mo_ty0 hT, ma 42, mo_R826 hT, ?_⟩
      refine ⟨mo_ty0 hT, ma 36, mo_R820 hT, ?_⟩
      refine ⟨9, 36, mo_T36 hT, hw.1, ?_⟩
      replace hw := hw.2
      try rw [mo_A σ0 m ma μ 36]
      refine ⟨fun hc => ?_, fun hc => ?_⟩
      · have hw := hw.1 hc
        refine ⟨mo_ty0 hT, ma 42, mo_R826 hT, ?_⟩
        refine ⟨8, 42, mo_T42 hT, hw.1, ?_⟩
        replace hw := hw.2
        try rw [mo_A σ0 m ma μ 42]
        exact hw
      · have hw := hw.2 hc
        exact hw)
  have hw := hw (by
    intro v1 t1 t2 μ hw
    refine hX34 _ _ _ _ _  ?_
    refine ⟨8, 42, mo_T42 hT, hw.1, fun σ34 e34 => ?_⟩
    replace hw := hw.2
    rw [mo_A σ0 m ma μ 42, mo_sA] at e34
    obtain ⟨μ34, f34⟩ : ∃ z, z = mu_sA μ 42 (upd (μ.2 42) t1.toNatClampNeg t2) := ⟨_, rfl⟩
    rw [← f34] at e34
    subst e34
    have hw := hw _ f34
    exact hw)
  have hw := hw (by
    intro v1 μ hw
    refine hX43 _ _  ?_
    refine ⟨fun hc => ?_, fun hc => ?_⟩
    · have hw := hw.1 hc
      exact hQ _ _ hw
    · have hw := hw.2 hc
      exact hw)
  have hw := hw (by
    intro v1 v2 μ hw
    refine hX51 _ _ _  ?_
    refine ⟨mo_ty0 hT, ?_⟩
    try rw [mo_I σ0 m ma μ 808]
    refine ⟨fun hc => ?_, fun hc => ?_⟩
    · have hw := hw.1 hc
      exact hw
    · have hw := hw.2 hc
      refine ⟨mo_ty0 hT, ma 37, mo_R821 hT, ?_⟩
      refine ⟨mo_ty0 hT, ma 26, mo_R809 hT, ?_⟩
      refine ⟨17, 26, mo_T26 hT, hw.1, ?_⟩
      replace hw := hw.2
      try rw [mo_A σ0 m ma μ 26]
      refine ⟨9, 37, mo_T37 hT, hw.1, ?_⟩
      replace hw := hw.2
      try rw [mo_A σ0 m ma μ 37]
      refine ⟨fun hc => ?_, fun hc => ?_⟩
      · have hw := hw.1 hc
        exact hw
      · have hw := hw.2 hc
        refine ⟨mo_ty0 hT, ma 32, mo_R815 hT, ?_⟩
        refine ⟨17, 32, mo_T32 hT, hw.1, ?_⟩
        replace hw := hw.2
        try rw [mo_A σ0 m ma μ 32]
        refine ⟨fun hc => ?_, fun hc => ?_⟩
        · have hw := hw.1 hc
          exact hw
        · have hw := hw.2 hc
          refine ⟨mo_ty0 hT, mq_countRule hT v2 μ _ _ (fun r85 μ85 hw => ?_) hw⟩
          refine ⟨fun hc => ?_, fun hc => ?_⟩
          · have hw := hw.1 hc
            exact hw
          · have hw := hw.2 hc
            exact hQ _ _ hw)
  have hw := hw (by
    intro v1 v2 μ hw
    refine hX101 _ _ _  ?_
    refine ⟨fun hc => ?_, fun hc => ?_⟩
    · have hw := hw.1 hc
      exact hw
    · have hw := hw.2 hc
      exact hw)
  have hw := hw (by
    intro v1 v2 v3 μ hw
    refine hX109 _ _ _ _  ?_
    refine ⟨mo_ty0 hT, ?_⟩
    try rw [mo_I σ0 m ma μ 808]
    refine ⟨fun hc => ?_, fun hc => ?_⟩
    · have hw := hw.1 hc
      exact hw
    · have hw := hw.2 hc
      refine ⟨mo_ty0 hT, ma 37, mo_R821 hT, ?_⟩
      refine ⟨mo_ty0 hT, ma 26, mo_R809 hT, ?_⟩
      refine ⟨17, 26, mo_T26 hT, hw.1, ?_⟩
      replace hw := hw.2
      try rw [mo_A σ0 m ma μ 26]
      refine ⟨9, 37, mo_T37 hT, hw.1, ?_⟩
      replace hw := hw.2
      try rw [mo_A σ0 m ma μ 37]
      refine ⟨fun hc => ?_, fun hc => ?_⟩
      · have hw := hw.1 hc
        exact hw
      · have hw := hw.2 hc
        refine ⟨mo_ty0 hT, ma 32, mo_R815 hT, ?_⟩
        refine ⟨17, 32, mo_T32 hT, hw.1, ?_⟩
        replace hw := hw.2
        try rw [mo_A σ0 m ma μ 32]
        refine ⟨fun hc => ?_, fun hc => ?_⟩
        · have hw := hw.1 hc
          exact hw
        · have hw := hw.2 hc
          refine ⟨mo_ty0 hT, mq_plainRule hT v3 μ _ _ (fun r143 μ143 hw => ?_) hw⟩
          refine ⟨fun hc => ?_, fun hc => ?_⟩
          · have hw := hw.1 hc
            refine ⟨fun hc => ?_, fun hc => ?_⟩
            · have hw := hw.1 hc
              exact hw
            · have hw := hw.2 hc
              refine ⟨fun hc => ?_, fun hc => ?_⟩
              · have hw := hw.1 hc
                exact hw
              · have hw := hw.2 hc
                exact hw
          · have hw := hw.2 hc
            exact hQ _ _ hw)
  exact hw
def mp_keep (μ : mo_U) (Q : mo_U → Prop) : Prop := ∀ (X2 : Int32 → mo_U → Prop) (X29 : Int32 → mo_U → Prop) (X56 : Int32 → mo_U → Prop),
    (∀ (v1 : Int32) (μ : mo_U), ((((960 : Int32)) ≤ v1 → X29 ((0 : Int32)) μ) ∧ (¬ ((960 : Int32)) ≤ v1 → vp_in v1 960 ∧ (vp_in v1 960 ∧ ∀ μ20, μ20 = mu_sA μ 43 (upd (μ.2 43) v1.toNatClampNeg (μ.2 40 v1.toNatClampNeg)) → X2 (v1 + (1 : Int32)) μ20))) → X2 v1 μ) →
    (∀ (v1 : Int32) (μ : mo_U), ((((320 : Int32)) ≤ v1 → X56 ((0 : Int32)) μ) ∧ (¬ ((320 : Int32)) ≤ v1 → vp_in v1 320 ∧ (vp_in v1 320 ∧ ∀ μ47, μ47 = mu_sA μ 44 (upd (μ.2 44) v1.toNatClampNeg (μ.2 41 v1.toNatClampNeg)) → X29 (v1 + (1 : Int32)) μ47))) → X29 v1 μ) →
    (∀ (v1 : Int32) (μ : mo_U), ((((8 : Int32)) ≤ v1 → Q μ) ∧ (¬ ((8 : Int32)) ≤ v1 → vp_in v1 8 ∧ (vp_in v1 8 ∧ ∀ μ73, μ73 = mu_sA μ 45 (upd (μ.2 45) v1.toNatClampNeg (μ.2 42 v1.toNatClampNeg)) → X56 (v1 + (1 : Int32)) μ73))) → X56 v1 μ) →
    (X2 ((0 : Int32)) μ)
set_option maxHeartbeats 4000000 in
theorem mq_keep {σ0 : z_S} {m : Nat} {ma : Nat → Nat} (hT : mo_T σ0 m ma) (μ : mo_U) (Q : mo_U → Prop) (Post : z_S → Prop) (hQ : (∀ μ', Q μ' → Post (mo_put σ0 m ma μ'))) (hw : mp_keep μ Q) : kp_Mo_keep m (mo_put σ0 m ma μ) Post := by
  unfold mp_keep at hw
  unfold kp_Mo_keep
  intro X2 X29 X56 hX2 hX29 hX56
  have hw := hw (fun (v1 : Int32) (μ : mo_U) => X2 v1 (mo_put σ0 m ma μ))
  have hw := hw (fun (v1 : Int32) (μ : mo_U) => X29 v1 (mo_put σ0 m ma μ))
  have hw := hw (fun (v1 : Int32) (μ : mo_U) => X56 v1 (mo_put σ0 m ma μ))
  have hw := hw (by
    intro v1 μ hw
    refine hX2 _ _  ?_
    refine ⟨fun hc => ?_, fun hc => ?_⟩
    · have hw := hw.1 hc
      exact hw
    · have hw := hw.2 hc
      refine ⟨mo_ty0 hT, ma 43, mo_R827 hT, ?_⟩
      refine ⟨mo_ty0 hT, ma 40, mo_R824 hT, ?_⟩
      refine ⟨960, 40, mo_T40 hT, hw.1, ?_⟩
      replace hw := hw.2
      try rw [mo_A σ0 m ma μ 40]
      refine ⟨960, 43, mo_T43 hT, hw.1, fun σ20 e20 => ?_⟩
      replace hw := hw.2
      rw [mo_A σ0 m ma μ 43, mo_sA] at e20
      obtain ⟨μ20, f20⟩ : ∃ z, z = mu_sA μ 43 (upd (μ.2 43) v1.toNatClampNeg (μ.2 40 v1.toNatClampNeg)) := ⟨_, rfl⟩
      rw [← f20] at e20
      subst e20
      have hw := hw _ f20
      exact hw)
  have hw := hw (by
    intro v1 μ hw
    refine hX29 _ _  ?_
    refine ⟨fun hc => ?_, fun hc => ?_⟩
    · have hw := hw.1 hc
      exact hw
    · have hw := hw.2 hc
      refine ⟨mo_ty0 hT, ma 44, mo_R828 hT, ?_⟩
      refine ⟨mo_ty0 hT, ma 41, mo_R825 hT, ?_⟩
      refine ⟨320, 41, mo_T41 hT, hw.1, ?_⟩
      replace hw := hw.2
      try rw [mo_A σ0 m ma μ 41]
      refine ⟨320, 44, mo_T44 hT, hw.1, fun σ47 e47 => ?_⟩
      replace hw := hw.2
      rw [mo_A σ0 m ma μ 44, mo_sA] at e47
      obtain ⟨μ47, f47⟩ : ∃ z, z = mu_sA μ 44 (upd (μ.2 44) v1.toNatClampNeg (μ.2 41 v1.toNatClampNeg)) := ⟨_, rfl⟩
      rw [← f47] at e47
      subst e47
      have hw := hw _ f47
      exact hw)
  have hw := hw (by
    intro v1 μ hw
    refine hX56 _ _  ?_
    refine ⟨fun hc => ?_, fun hc => ?_⟩
    · have hw := hw.1 hc
      exact hQ _ hw
    · have hw := hw.2 hc
      refine ⟨mo_ty0 hT, ma 45, mo_R829 hT, ?_⟩
      refine ⟨mo_ty0 hT, ma 42, mo_R826 hT, ?_⟩
      refine ⟨8, 42, mo_T42 hT, hw.1, ?_⟩
      replace hw := hw.2
      try rw [mo_A σ0 m ma μ 42]
      refine ⟨8, 45, mo_T45 hT, hw.1, fun σ73 e73 => ?_⟩
      replace hw := hw.2
      rw [mo_A σ0 m ma μ 45, mo_sA] at e73
      obtain ⟨μ73, f73⟩ : ∃ z, z = mu_sA μ 45 (upd (μ.2 45) v1.toNatClampNeg (μ.2 42 v1.toNatClampNeg)) := ⟨_, rfl⟩
      rw [← f73] at e73
      subst e73
      have hw := hw _ f73
      exact hw)
  exact hw
def mp_back (μ : mo_U) (Q : mo_U → Prop) : Prop := ∀ (X2 : Int32 → mo_U → Prop) (X29 : Int32 → mo_U → Prop) (X56 : Int32 → mo_U → Prop),
    (∀ (v1 : Int32) (μ : mo_U), ((((960 : Int32)) ≤ v1 → X29 ((0 : Int32)) μ) ∧ (¬ ((960 : Int32)) ≤ v1 → vp_in v1 960 ∧ (vp_in v1 960 ∧ ∀ μ20, μ20 = mu_sA μ 40 (upd (μ.2 40) v1.toNatClampNeg (μ.2 43 v1.toNatClampNeg)) → X2 (v1 + (1 : Int32)) μ20))) → X2 v1 μ) →
    (∀ (v1 : Int32) (μ : mo_U), ((((320 : Int32)) ≤ v1 → X56 ((0 : Int32)) μ) ∧ (¬ ((320 : Int32)) ≤ v1 → vp_in v1 320 ∧ (vp_in v1 320 ∧ ∀ μ47, μ47 = mu_sA μ 41 (upd (μ.2 41) v1.toNatClampNeg (μ.2 44 v1.toNatClampNeg)) → X29 (v1 + (1 : Int32)) μ47))) → X29 v1 μ) →
    (∀ (v1 : Int32) (μ : mo_U), ((((8 : Int32)) ≤ v1 → Q μ) ∧ (¬ ((8 : Int32)) ≤ v1 → vp_in v1 8 ∧ (vp_in v1 8 ∧ ∀ μ73, μ73 = mu_sA μ 42 (upd (μ.2 42) v1.toNatClampNeg (μ.2 45 v1.toNatClampNeg)) → X56 (v1 + (1 : Int32)) μ73))) → X56 v1 μ) →
    (X2 ((0 : Int32)) μ)
set_option maxHeartbeats 4000000 in
theorem mq_back {σ0 : z_S} {m : Nat} {ma : Nat → Nat} (hT : mo_T σ0 m ma) (μ : mo_U) (Q : mo_U → Prop) (Post : z_S → Prop) (hQ : (∀ μ', Q μ' → Post (mo_put σ0 m ma μ'))) (hw : mp_back μ Q) : kp_Mo_back m (mo_put σ0 m ma μ) Post := by
  unfold mp_back at hw
  unfold kp_Mo_back
  intro X2 X29 X56 hX2 hX29 hX56
  have hw := hw (fun (v1 : Int32) (μ : mo_U) => X2 v1 (mo_put σ0 m ma μ))
  have hw := hw (fun (v1 : Int32) (μ : mo_U) => X29 v1 (mo_put σ0 m ma μ))
  have hw := hw (fun (v1 : Int32) (μ : mo_U) => X56 v1 (mo_put σ0 m ma μ))
  have hw := hw (by
    intro v1 μ hw
    refine hX2 _ _  ?_
    refine ⟨fun hc => ?_, fun hc => ?_⟩
    · have hw := hw.1 hc
      exact hw
    · have hw := hw.2 hc
      refine ⟨mo_ty0 hT, ma 40, mo_R824 hT, ?_⟩
      refine ⟨mo_ty0 hT, ma 43, mo_R827 hT, ?_⟩
      refine ⟨960, 43, mo_T43 hT, hw.1, ?_⟩
      replace hw := hw.2
      try rw [mo_A σ0 m ma μ 43]
      refine ⟨960, 40, mo_T40 hT, hw.1, fun σ20 e20 => ?_⟩
      replace hw := hw.2
      rw [mo_A σ0 m ma μ 40, mo_sA] at e20
      obtain ⟨μ20, f20⟩ : ∃ z, z = mu_sA μ 40 (upd (μ.2 40) v1.toNatClampNeg (μ.2 43 v1.toNatClampNeg)) := ⟨_, rfl⟩
      rw [← f20] at e20
      subst e20
      have hw := hw _ f20
      exact hw)
  have hw := hw (by
    intro v1 μ hw
    refine hX29 _ _  ?_
    refine ⟨fun hc => ?_, fun hc => ?_⟩
    · have hw := hw.1 hc
      exact hw
    · have hw := hw.2 hc
      refine ⟨mo_ty0 hT, ma 41, mo_R825 hT, ?_⟩
      refine ⟨mo_ty0 hT, ma 44, mo_R828 hT, ?_⟩
      refine ⟨320, 44, mo_T44 hT, hw.1, ?_⟩
      replace hw := hw.2
      try rw [mo_A σ0 m ma μ 44]
      refine ⟨320, 41, mo_T41 hT, hw.1, fun σ47 e47 => ?_⟩
      replace hw := hw.2
      rw [mo_A σ0 m ma μ 41, mo_sA] at e47
      obtain ⟨μ47, f47⟩ : ∃ z, z = mu_sA μ 41 (upd (μ.2 41) v1.toNatClampNeg (μ.2 44 v1.toNatClampNeg)) := ⟨_, rfl⟩
      rw [← f47] at e47
      subst e47
      have hw := hw _ f47
      exact hw)
  have hw := hw (by
    intro v1 μ hw
    refine hX56 _ _  ?_
    refine ⟨fun hc => ?_, fun hc => ?_⟩
    · have hw := hw.1 hc
      exact hQ _ hw
    · have hw := hw.2 hc
      refine ⟨mo_ty0 hT, ma 42, mo_R826 hT, ?_⟩
      refine ⟨mo_ty0 hT, ma 45, mo_R829 hT, ?_⟩
      refine ⟨8, 45, mo_T45 hT, hw.1, ?_⟩
      replace hw := hw.2
      try rw [mo_A σ0 m ma μ 45]
      refine ⟨8, 42, mo_T42 hT, hw.1, fun σ73 e73 => ?_⟩
      replace hw := hw.2
      rw [mo_A σ0 m ma μ 42, mo_sA] at e73
      obtain ⟨μ73, f73⟩ : ∃ z, z = mu_sA μ 42 (upd (μ.2 42) v1.toNatClampNeg (μ.2 45 v1.toNatClampNeg)) := ⟨_, rfl⟩
      rw [← f73] at e73
      subst e73
      have hw := hw _ f73
      exact hw)
  exact hw
def mp_sum (b1 : Nat) (x2 : Int32) (x3 : Int32) (x4 : Int32) (μ : mo_U) (Q : mo_U → Prop) : Prop := ∀ (X8 : Int32 → mo_U → Prop) (X28 : Int32 → Int32 → Int32 → Int32 → mo_U → Prop) (X143 : Int32 → Int32 → Int32 → Int32 → mo_U → Prop) (X196 : Int32 → Int32 → Int32 → mo_U → Prop),
    (∀ (v5 : Int32) (μ : mo_U), ((x3 ≤ v5 → Q μ) ∧ (¬ x3 ≤ v5 → X28 v5 (x2 + (((5 : Int32)) * v5)) ((-1 : Int32)) ((0 : Int32)) μ)) → X8 v5 μ) →
    (∀ (v5 : Int32) (v6 : Int32) (v7 : Int32) (v8 : Int32) (μ : mo_U), (((μ.1 847) ≤ v8 → (¬ v7 = ((-1 : Int32)) → X196 v5 v6 v7 μ) ∧ (v7 = ((-1 : Int32)) → X143 v5 v6 (μ.1 847) ((0 : Int32)) μ)) ∧ (¬ (μ.1 847) ≤ v8 → vp_in (((5 : Int32)) * v8) 300 ∧ (mo_ok b1 0 ∧ vp_in v6 (mo_len b1) ∧ ((¬ (μ.2 55 (((5 : Int32)) * v8).toNatClampNeg) = (μ.2 b1 v6.toNatClampNeg) → X28 v5 v6 v7 (v8 + (1 : Int32)) μ) ∧ ((μ.2 55 (((5 : Int32)) * v8).toNatClampNeg) = (μ.2 b1 v6.toNatClampNeg) → vp_in ((((5 : Int32)) * v8) + ((1 : Int32))) 300 ∧ (mo_ok b1 0 ∧ vp_in (v6 + ((1 : Int32))) (mo_len b1) ∧ ((¬ (μ.2 55 ((((5 : Int32)) * v8) + ((1 : Int32))).toNatClampNeg) = (μ.2 b1 (v6 + ((1 : Int32))).toNatClampNeg) → X28 v5 v6 v7 (v8 + (1 : Int32)) μ) ∧ ((μ.2 55 ((((5 : Int32)) * v8) + ((1 : Int32))).toNatClampNeg) = (μ.2 b1 (v6 + ((1 : Int32))).toNatClampNeg) → vp_in ((((5 : Int32)) * v8) + ((2 : Int32))) 300 ∧ (mo_ok b1 0 ∧ vp_in (v6 + ((2 : Int32))) (mo_len b1) ∧ ((¬ (μ.2 55 ((((5 : Int32)) * v8) + ((2 : Int32))).toNatClampNeg) = (μ.2 b1 (v6 + ((2 : Int32))).toNatClampNeg) → X28 v5 v6 v7 (v8 + (1 : Int32)) μ) ∧ ((μ.2 55 ((((5 : Int32)) * v8) + ((2 : Int32))).toNatClampNeg) = (μ.2 b1 (v6 + ((2 : Int32))).toNatClampNeg) → vp_in ((((5 : Int32)) * v8) + ((3 : Int32))) 300 ∧ (mo_ok b1 0 ∧ vp_in (v6 + ((3 : Int32))) (mo_len b1) ∧ ((¬ (μ.2 55 ((((5 : Int32)) * v8) + ((3 : Int32))).toNatClampNeg) = (μ.2 b1 (v6 + ((3 : Int32))).toNatClampNeg) → X28 v5 v6 v7 (v8 + (1 : Int32)) μ) ∧ ((μ.2 55 ((((5 : Int32)) * v8) + ((3 : Int32))).toNatClampNeg) = (μ.2 b1 (v6 + ((3 : Int32))).toNatClampNeg) → X28 v5 v6 v8 (v8 + (1 : Int32)) μ)))))))))))))) → X28 v5 v6 v7 v8 μ) →
    (∀ (v5 : Int32) (v6 : Int32) (v7 : Int32) (v8 : Int32) (μ : mo_U), ((((4 : Int32)) ≤ v8 → vp_in ((((5 : Int32)) * v7) + ((4 : Int32))) 300 ∧ ∀ μ185, μ185 = mu_sA μ 55 (upd (μ.2 55) ((((5 : Int32)) * v7) + ((4 : Int32))).toNatClampNeg ((0 : Int32))) → ∀ μ193, μ193 = mu_sI μ185 847 ((μ185.1 847) + ((1 : Int32))) → X196 v5 v6 v7 μ193) ∧ (¬ ((4 : Int32)) ≤ v8 → mo_ok b1 0 ∧ vp_in (v6 + v8) (mo_len b1) ∧ (vp_in ((((5 : Int32)) * v7) + v8) 300 ∧ ∀ μ167, μ167 = mu_sA μ 55 (upd (μ.2 55) ((((5 : Int32)) * v7) + v8).toNatClampNeg (μ.2 b1 (v6 + v8).toNatClampNeg)) → X143 v5 v6 v7 (v8 + (1 : Int32)) μ167))) → X143 v5 v6 v7 v8 μ) →
    (∀ (v5 : Int32) (v6 : Int32) (v7 : Int32) (μ : mo_U), (vp_in ((((5 : Int32)) * v7) + ((4 : Int32))) 300 ∧ (mo_ok b1 0 ∧ vp_in (v6 + ((4 : Int32))) (mo_len b1) ∧ (vp_in ((((5 : Int32)) * v7) + ((4 : Int32))) 300 ∧ ∀ μ218, μ218 = mu_sA μ 55 (upd (μ.2 55) ((((5 : Int32)) * v7) + ((4 : Int32))).toNatClampNeg ((μ.2 55 ((((5 : Int32)) * v7) + ((4 : Int32))).toNatClampNeg) + (x4 * (μ.2 b1 (v6 + ((4 : Int32))).toNatClampNeg)))) → X8 (v5 + (1 : Int32)) μ218))) → X196 v5 v6 v7 μ) →
    (∀ μ2, μ2 = mu_sI μ 847 ((0 : Int32)) → X8 ((0 : Int32)) μ2)
set_option maxHeartbeats 4000000 in
theorem mq_sum {σ0 : z_S} {m : Nat} {ma : Nat → Nat} (hT : mo_T σ0 m ma) (b1 : Nat) (x2 : Int32) (x3 : Int32) (x4 : Int32) (μ : mo_U) (Q : mo_U → Prop) (Post : z_S → Prop) (hQ : (∀ μ', Q μ' → Post (mo_put σ0 m ma μ'))) (hw : mp_sum b1 x2 x3 x4 μ Q) : kp_Mo_sum m (ma b1) x2 x3 x4 (mo_put σ0 m ma μ) Post := by
  unfold mp_sum at hw
  unfold kp_Mo_sum
  intro X8 X28 X143 X196 hX8 hX28 hX143 hX196
  have hw := hw (fun (v5 : Int32) (μ : mo_U) => X8 v5 (mo_put σ0 m ma μ))
  have hw := hw (fun (v5 : Int32) (v6 : Int32) (v7 : Int32) (v8 : Int32) (μ : mo_U) => X28 v5 v6 v7 v8 (mo_put σ0 m ma μ))
  have hw := hw (fun (v5 : Int32) (v6 : Int32) (v7 : Int32) (v8 : Int32) (μ : mo_U) => X143 v5 v6 v7 v8 (mo_put σ0 m ma μ))
  have hw := hw (fun (v5 : Int32) (v6 : Int32) (v7 : Int32) (μ : mo_U) => X196 v5 v6 v7 (mo_put σ0 m ma μ))
  have hw := hw (by
    intro v5 μ hw
    refine hX8 _ _  ?_
    refine ⟨fun hc => ?_, fun hc => ?_⟩
    · have hw := hw.1 hc
      exact hQ _ hw
    · have hw := hw.2 hc
      exact hw)
  have hw := hw (by
    intro v5 v6 v7 v8 μ hw
    refine hX28 _ _ _ _ _  ?_
    refine ⟨mo_ty0 hT, ?_⟩
    try rw [mo_I σ0 m ma μ 847]
    refine ⟨fun hc => ?_, fun hc => ?_⟩
    · have hw := hw.1 hc
      refine ⟨fun hc => ?_, fun hc => ?_⟩
      · have hw := hw.1 hc
        exact hw
      · have hw := hw.2 hc
        refine ⟨mo_ty0 hT, ?_⟩
        try rw [mo_I σ0 m ma μ 847]
        exact hw
    · have hw := hw.2 hc
      refine ⟨mo_ty0 hT, ma 55, mo_R846 hT, ?_⟩
      refine ⟨300, 55, mo_T55 hT, hw.1, ?_⟩
      replace hw := hw.2
      try rw [mo_A σ0 m ma μ 55]
      obtain ⟨hk, hw⟩ := hw
      refine ⟨(mo_len b1), b1, mo_Ts hT hk, hw.1, ?_⟩
      replace hw := hw.2
      try rw [mo_A σ0 m ma μ b1]
      refine ⟨fun hc => ?_, fun hc => ?_⟩
      · have hw := hw.1 hc
        exact hw
      · have hw := hw.2 hc
        refine ⟨mo_ty0 hT, ma 55, mo_R846 hT, ?_⟩
        refine ⟨300, 55, mo_T55 hT, hw.1, ?_⟩
        replace hw := hw.2
        try rw [mo_A σ0 m ma μ 55]
        obtain ⟨hk, hw⟩ := hw
        refine ⟨(mo_len b1), b1, mo_Ts hT hk, hw.1, ?_⟩
        replace hw := hw.2
        try rw [mo_A σ0 m ma μ b1]
        refine ⟨fun hc => ?_, fun hc => ?_⟩
        · have hw := hw.1 hc
          exact hw
        · have hw := hw.2 hc
          refine ⟨mo_ty0 hT, ma 55, mo_R846 hT, ?_⟩
          refine ⟨300, 55, mo_T55 hT, hw.1, ?_⟩
          replace hw := hw.2
          try rw [mo_A σ0 m ma μ 55]
          obtain ⟨hk, hw⟩ := hw
          refine ⟨(mo_len b1), b1, mo_Ts hT hk, hw.1, ?_⟩
          replace hw := hw.2
          try rw [mo_A σ0 m ma μ b1]
          refine ⟨fun hc => ?_, fun hc => ?_⟩
          · have hw := hw.1 hc
            exact hw
          · have hw := hw.2 hc
            refine ⟨mo_ty0 hT, ma 55, mo_R846 hT, ?_⟩
            refine ⟨300, 55, mo_T55 hT, hw.1, ?_⟩
            replace hw := hw.2
            try rw [mo_A σ0 m ma μ 55]
            obtain ⟨hk, hw⟩ := hw
            refine ⟨(mo_len b1), b1, mo_Ts hT hk, hw.1, ?_⟩
            replace hw := hw.2
            try rw [mo_A σ0 m ma μ b1]
            refine ⟨fun hc => ?_, fun hc => ?_⟩
            · have hw := hw.1 hc
              exact hw
            · have hw := hw.2 hc
              exact hw)
  have hw := hw (by
    intro v5 v6 v7 v8 μ hw
    refine hX143 _ _ _ _ _  ?_
    refine ⟨fun hc => ?_, fun hc => ?_⟩
    · have hw := hw.1 hc
      refine ⟨mo_ty0 hT, ma 55, mo_R846 hT, ?_⟩
      refine ⟨300, 55, mo_T55 hT, hw.1, fun σ185 e185 => ?_⟩
      replace hw := hw.2
      rw [mo_A σ0 m ma μ 55, mo_sA] at e185
      obtain ⟨μ185, f185⟩ : ∃ z, z = mu_sA μ 55 (upd (μ.2 55) ((((5 : Int32)) * v7) + ((4 : Int32))).toNatClampNeg ((0 : Int32))) := ⟨_, rfl⟩
      rw [← f185] at e185
      subst e185
      have hw := hw _ f185
      refine ⟨mo_ty0 hT, ?_⟩
      try rw [mo_I σ0 m ma μ185 847]
      refine ⟨mo_ty0 hT, fun σ193 e193 => ?_⟩
      rw [mo_sI] at e193
      obtain ⟨μ193, f193⟩ : ∃ z, z = mu_sI μ185 847 ((μ185.1 847) + ((1 : Int32))) := ⟨_, rfl⟩
      rw [← f193] at e193
      subst e193
      have hw := hw _ f193
      exact hw
    · have hw := hw.2 hc
      refine ⟨mo_ty0 hT, ma 55, mo_R846 hT, ?_⟩
      obtain ⟨hk, hw⟩ := hw
      refine ⟨(mo_len b1), b1, mo_Ts hT hk, hw.1, ?_⟩
      replace hw := hw.2
      try rw [mo_A σ0 m ma μ b1]
      refine ⟨300, 55, mo_T55 hT, hw.1, fun σ167 e167 => ?_⟩
      replace hw := hw.2
      rw [mo_A σ0 m ma μ 55, mo_sA] at e167
      obtain ⟨μ167, f167⟩ : ∃ z, z = mu_sA μ 55 (upd (μ.2 55) ((((5 : Int32)) * v7) + v8).toNatClampNeg (μ.2 b1 (v6 + v8).toNatClampNeg)) := ⟨_, rfl⟩
      rw [← f167] at e167
      subst e167
      have hw := hw _ f167
      exact hw)
  have hw := hw (by
    intro v5 v6 v7 μ hw
    refine hX196 _ _ _ _  ?_
    refine ⟨mo_ty0 hT, ma 55, mo_R846 hT, ?_⟩
    refine ⟨300, 55, mo_T55 hT, hw.1, ?_⟩
    replace hw := hw.2
    try rw [mo_A σ0 m ma μ 55]
    obtain ⟨hk, hw⟩ := hw
    refine ⟨(mo_len b1), b1, mo_Ts hT hk, hw.1, ?_⟩
    replace hw := hw.2
    try rw [mo_A σ0 m ma μ b1]
    refine ⟨300, 55, mo_T55 hT, hw.1, fun σ218 e218 => ?_⟩
    replace hw := hw.2
    rw [mo_A σ0 m ma μ 55, mo_sA] at e218
    obtain ⟨μ218, f218⟩ : ∃ z, z = mu_sA μ 55 (upd (μ.2 55) ((((5 : Int32)) * v7) + ((4 : Int32))).toNatClampNeg ((μ.2 55 ((((5 : Int32)) * v7) + ((4 : Int32))).toNatClampNeg) + (x4 * (μ.2 b1 (v6 + ((4 : Int32))).toNatClampNeg)))) := ⟨_, rfl⟩
    rw [← f218] at e218
    subst e218
    have hw := hw _ f218
    exact hw)
  refine ⟨mo_ty0 hT, fun σ2 e2 => ?_⟩
  rw [mo_sI] at e2
  obtain ⟨μ2, f2⟩ : ∃ z, z = mu_sI μ 847 ((0 : Int32)) := ⟨_, rfl⟩
  rw [← f2] at e2
  subst e2
  have hw := hw _ f2
  exact hw
def mp_differ (x1 : Int32) (x2 : Int32) (x3 : Int32) (x4 : Int32) (x5 : Int32) (μ : mo_U) (Q : mo_U → Prop) : Prop :=     (vp_in (((5 : Int32)) * (μ.1 836)) 3300 ∧ ∀ μ15, μ15 = mu_sA μ 49 (upd (μ.2 49) (((5 : Int32)) * (μ.1 836)).toNatClampNeg x1) → vp_in ((((5 : Int32)) * (μ.1 836)) + ((1 : Int32))) 3300 ∧ ∀ μ25, μ25 = mu_sA μ15 49 (upd (μ15.2 49) ((((5 : Int32)) * (μ.1 836)) + ((1 : Int32))).toNatClampNeg x2) → vp_in ((((5 : Int32)) * (μ.1 836)) + ((2 : Int32))) 3300 ∧ ∀ μ35, μ35 = mu_sA μ25 49 (upd (μ25.2 49) ((((5 : Int32)) * (μ.1 836)) + ((2 : Int32))).toNatClampNeg x3) → vp_in ((((5 : Int32)) * (μ.1 836)) + ((3 : Int32))) 3300 ∧ ∀ μ46, μ46 = mu_sA μ35 49 (upd (μ35.2 49) ((((5 : Int32)) * (μ.1 836)) + ((3 : Int32))).toNatClampNeg x4) → vp_in ((((5 : Int32)) * (μ.1 836)) + ((4 : Int32))) 3300 ∧ ∀ μ57, μ57 = mu_sA μ46 49 (upd (μ46.2 49) ((((5 : Int32)) * (μ.1 836)) + ((4 : Int32))).toNatClampNeg x5) → ∀ μ65, μ65 = mu_sI μ57 836 ((μ57.1 836) + ((1 : Int32))) → Q μ65)
set_option maxHeartbeats 4000000 in
theorem mq_differ {σ0 : z_S} {m : Nat} {ma : Nat → Nat} (hT : mo_T σ0 m ma) (x1 : Int32) (x2 : Int32) (x3 : Int32) (x4 : Int32) (x5 : Int32) (μ : mo_U) (Q : mo_U → Prop) (Post : z_S → Prop) (hQ : (∀ μ', Q μ' → Post (mo_put σ0 m ma μ'))) (hw : mp_differ x1 x2 x3 x4 x5 μ Q) : kp_Mo_differ m x1 x2 x3 x4 x5 (mo_put σ0 m ma μ) Post := by
  unfold mp_differ at hw
  unfold kp_Mo_differ
  refine ⟨mo_ty0 hT, ?_⟩
  try rw [mo_I σ0 m ma μ 836]
  refine ⟨mo_ty0 hT, ma 49, mo_R835 hT, ?_⟩
  refine ⟨3300, 49, mo_T49 hT, hw.1, fun σ15 e15 => ?_⟩
  replace hw := hw.2
  rw [mo_A σ0 m ma μ 49, mo_sA] at e15
  obtain ⟨μ15, f15⟩ : ∃ z, z = mu_sA μ 49 (upd (μ.2 49) (((5 : Int32)) * (μ.1 836)).toNatClampNeg x1) := ⟨_, rfl⟩
  rw [← f15] at e15
  subst e15
  have hw := hw _ f15
  refine ⟨mo_ty0 hT, ma 49, mo_R835 hT, ?_⟩
  refine ⟨3300, 49, mo_T49 hT, hw.1, fun σ25 e25 => ?_⟩
  replace hw := hw.2
  rw [mo_A σ0 m ma μ15 49, mo_sA] at e25
  obtain ⟨μ25, f25⟩ : ∃ z, z = mu_sA μ15 49 (upd (μ15.2 49) ((((5 : Int32)) * (μ.1 836)) + ((1 : Int32))).toNatClampNeg x2) := ⟨_, rfl⟩
  rw [← f25] at e25
  subst e25
  have hw := hw _ f25
  refine ⟨mo_ty0 hT, ma 49, mo_R835 hT, ?_⟩
  refine ⟨3300, 49, mo_T49 hT, hw.1, fun σ35 e35 => ?_⟩
  replace hw := hw.2
  rw [mo_A σ0 m ma μ25 49, mo_sA] at e35
  obtain ⟨μ35, f35⟩ : ∃ z, z = mu_sA μ25 49 (upd (μ25.2 49) ((((5 : Int32)) * (μ.1 836)) + ((2 : Int32))).toNatClampNeg x3) := ⟨_, rfl⟩
  rw [← f35] at e35
  subst e35
  have hw := hw _ f35
  refine ⟨mo_ty0 hT, ma 49, mo_R835 hT, ?_⟩
  refine ⟨3300, 49, mo_T49 hT, hw.1, fun σ46 e46 => ?_⟩
  replace hw := hw.2
  rw [mo_A σ0 m ma μ35 49, mo_sA] at e46
  obtain ⟨μ46, f46⟩ : ∃ z, z = mu_sA μ35 49 (upd (μ35.2 49) ((((5 : Int32)) * (μ.1 836)) + ((3 : Int32))).toNatClampNeg x4) := ⟨_, rfl⟩
  rw [← f46] at e46
  subst e46
  have hw := hw _ f46
  refine ⟨mo_ty0 hT, ma 49, mo_R835 hT, ?_⟩
  refine ⟨3300, 49, mo_T49 hT, hw.1, fun σ57 e57 => ?_⟩
  replace hw := hw.2
  rw [mo_A σ0 m ma μ46 49, mo_sA] at e57
  obtain ⟨μ57, f57⟩ : ∃ z, z = mu_sA μ46 49 (upd (μ46.2 49) ((((5 : Int32)) * (μ.1 836)) + ((4 : Int32))).toNatClampNeg x5) := ⟨_, rfl⟩
  rw [← f57] at e57
  subst e57
  have hw := hw _ f57
  refine ⟨mo_ty0 hT, ?_⟩
  try rw [mo_I σ0 m ma μ57 836]
  refine ⟨mo_ty0 hT, fun σ65 e65 => ?_⟩
  rw [mo_sI] at e65
  obtain ⟨μ65, f65⟩ : ∃ z, z = mu_sI μ57 836 ((μ57.1 836) + ((1 : Int32))) := ⟨_, rfl⟩
  rw [← f65] at e65
  subst e65
  have hw := hw _ f65
  exact hQ _ hw
def mp_compareAll (μ : mo_U) (Q : mo_U → Prop) : Prop := ∀ (X7 : Int32 → mo_U → Prop) (X19 : Int32 → Int32 → Int32 → mo_U → Prop) (X48 : Int32 → Int32 → Int32 → mo_U → Prop) (X115 : Int32 → Int32 → Int32 → Int32 → Int32 → mo_U → Prop),
    (∀ (v1 : Int32) (μ : mo_U), (((μ.1 817) ≤ v1 → Q μ) ∧ (¬ (μ.1 817) ≤ v1 → X19 v1 ((0 : Int32)) ((0 : Int32)) μ)) → X7 v1 μ) →
    (∀ (v1 : Int32) (v2 : Int32) (v3 : Int32) (μ : mo_U), (vp_in v1 9 ∧ ((((μ.2 36 v1.toNatClampNeg)) = 0 → X7 (v1 + (1 : Int32)) μ) ∧ (¬ ((μ.2 36 v1.toNatClampNeg)) = 0 → vp_in v1 8 ∧ ((v2 < (μ.2 45 v1.toNatClampNeg) → X48 v1 v2 v3 μ) ∧ (¬ v2 < (μ.2 45 v1.toNatClampNeg) → vp_in v1 8 ∧ (((μ.2 42 v1.toNatClampNeg) ≤ v3 → X7 (v1 + (1 : Int32)) μ) ∧ (¬ (μ.2 42 v1.toNatClampNeg) ≤ v3 → X48 v1 v2 v3 μ))))))) → X19 v1 v2 v3 μ) →
    (∀ (v1 : Int32) (v2 : Int32) (v3 : Int32) (μ : mo_U), (mp_base v1 v2 μ (fun (r51 : Int32) (μ51 : mo_U) => vp_in v1 8 ∧ ((¬ v2 = (μ51.2 45 v1.toNatClampNeg) → vp_in v1 8 ∧ ((¬ v3 = (μ51.2 42 v1.toNatClampNeg) → vp_in r51 960 ∧ (vp_in (r51 + ((1 : Int32))) 960 ∧ (vp_in (r51 + ((2 : Int32))) 960 ∧ (mp_compare v1 v3 (μ51.2 43 r51.toNatClampNeg) (μ51.2 43 (r51 + ((1 : Int32))).toNatClampNeg) (μ51.2 43 (r51 + ((2 : Int32))).toNatClampNeg) μ51 (fun (r112 : Int32) (μ112 : mo_U) => X115 v1 v2 v3 r51 r112 μ112))))) ∧ (v3 = (μ51.2 42 v1.toNatClampNeg) → X115 v1 v2 v3 r51 ((-1 : Int32)) μ51))) ∧ (v2 = (μ51.2 45 v1.toNatClampNeg) → X115 v1 v2 v3 r51 ((1 : Int32)) μ51)))) → X48 v1 v2 v3 μ) →
    (∀ (v1 : Int32) (v2 : Int32) (v3 : Int32) (v4 : Int32) (t0 : Int32) (μ : mo_U), ((¬ t0 = 0 → (t0 ≤ 0 → vp_in v4 960 ∧ (vp_in (v4 + ((1 : Int32))) 960 ∧ (vp_in (v4 + ((2 : Int32))) 960 ∧ (mp_differ v1 (μ.2 43 v4.toNatClampNeg) (μ.2 43 (v4 + ((1 : Int32))).toNatClampNeg) (μ.2 43 (v4 + ((2 : Int32))).toNatClampNeg) ((-1 : Int32)) μ (fun (μ209 : mo_U) => X19 v1 (v2 + (1 : Int32)) v3 μ209))))) ∧ (¬ t0 ≤ 0 → mp_base v1 v3 μ (fun (r139 : Int32) (μ139 : mo_U) => vp_in r139 960 ∧ (vp_in (r139 + ((1 : Int32))) 960 ∧ (vp_in (r139 + ((2 : Int32))) 960 ∧ (mp_differ v1 (μ139.2 40 r139.toNatClampNeg) (μ139.2 40 (r139 + ((1 : Int32))).toNatClampNeg) (μ139.2 40 (r139 + ((2 : Int32))).toNatClampNeg) ((1 : Int32)) μ139 (fun (μ172 : mo_U) => X19 v1 v2 (v3 + (1 : Int32)) μ172))))))) ∧ (t0 = 0 → X19 v1 (v2 + (1 : Int32)) (v3 + (1 : Int32)) μ)) → X115 v1 v2 v3 v4 t0 μ) →
    (∀ μ2, μ2 = mu_sI μ 836 ((0 : Int32)) → X7 ((0 : Int32)) μ2)
set_option maxHeartbeats 4000000 in
theorem mq_compareAll {σ0 : z_S} {m : Nat} {ma : Nat → Nat} (hT : mo_T σ0 m ma) (μ : mo_U) (Q : mo_U → Prop) (Post : z_S → Prop) (hQ : (∀ μ', Q μ' → Post (mo_put σ0 m ma μ'))) (hw : mp_compareAll μ Q) : kp_Mo_compareAll m (mo_put σ0 m ma μ) Post := by
  unfold mp_compareAll at hw
  unfold kp_Mo_compareAll
  intro X7 X19 X48 X115 hX7 hX19 hX48 hX115
  have hw := hw (fun (v1 : Int32) (μ : mo_U) => X7 v1 (mo_put σ0 m ma μ))
  have hw := hw (fun (v1 : Int32) (v2 : Int32) (v3 : Int32) (μ : mo_U) => X19 v1 v2 v3 (mo_put σ0 m ma μ))
  have hw := hw (fun (v1 : Int32) (v2 : Int32) (v3 : Int32) (μ : mo_U) => X48 v1 v2 v3 (mo_put σ0 m ma μ))
  have hw := hw (fun (v1 : Int32) (v2 : Int32) (v3 : Int32) (v4 : Int32) (t0 : Int32) (μ : mo_U) => X115 v1 v2 v3 v4 t0 (mo_put σ0 m ma μ))
  have hw := hw (by
    intro v1 μ hw
    refine hX7 _ _  ?_
    refine ⟨mo_ty0 hT, ?_⟩
    try rw [mo_I σ0 m ma μ 817]
    refine ⟨fun hc => ?_, fun hc => ?_⟩
    · have hw := hw.1 hc
      exact hQ _ hw
    · have hw := hw.2 hc
      exact hw)
  have hw := hw (by
    intro v1 v2 v3 μ hw
    refine hX19 _ _ _ _  ?_
    refine ⟨mo_ty0 hT, ma 36, mo_R820 hT, ?_⟩
    refine ⟨9, 36, mo_T36 hT, hw.1, ?_⟩
    replace hw := hw.2
    try rw [mo_A σ0 m ma μ 36]
    refine ⟨fun hc => ?_, fun hc => ?_⟩
    · have hw := hw.1 hc
      exact hw
    · have hw := hw.2 hc
      refine ⟨mo_ty0 hT, ma 45, mo_R829 hT, ?_⟩
      refine ⟨8, 45, mo_T45 hT, hw.1, ?_⟩
      replace hw := hw.2
      try rw [mo_A σ0 m ma μ 45]
      refine ⟨fun hc => ?_, fun hc => ?_⟩
      · have hw := hw.1 hc
        exact hw
      · have hw := hw.2 hc
        refine ⟨mo_ty0 hT, ma 42, mo_R826 hT, ?_⟩
        refine ⟨8, 42, mo_T42 hT, hw.1, ?_⟩
        replace hw := hw.2
        try rw [mo_A σ0 m ma μ 42]
        refine ⟨fun hc => ?_, fun hc => ?_⟩
        · have hw := hw.1 hc
          exact hw
        · have hw := hw.2 hc
          exact hw)
  have hw := hw (by
    intro v1 v2 v3 μ hw
    refine hX48 _ _ _ _  ?_
    refine ⟨mo_ty0 hT, mq_base hT v1 v2 μ _ _ (fun r51 μ51 hw => ?_) hw⟩
    refine ⟨mo_ty0 hT, ma 45, mo_R829 hT, ?_⟩
    refine ⟨8, 45, mo_T45 hT, hw.1, ?_⟩
    replace hw := hw.2
    try rw [mo_A σ0 m ma μ51 45]
    refine ⟨fun hc => ?_, fun hc => ?_⟩
    · have hw := hw.1 hc
      refine ⟨mo_ty0 hT, ma 42, mo_R826 hT, ?_⟩
      refine ⟨8, 42, mo_T42 hT, hw.1, ?_⟩
      replace hw := hw.2
      try rw [mo_A σ0 m ma μ51 42]
      refine ⟨fun hc => ?_, fun hc => ?_⟩
      · have hw := hw.1 hc
        refine ⟨mo_ty0 hT, ma 43, mo_R827 hT, ?_⟩
        refine ⟨960, 43, mo_T43 hT, hw.1, ?_⟩
        replace hw := hw.2
        try rw [mo_A σ0 m ma μ51 43]
        refine ⟨mo_ty0 hT, ma 43, mo_R827 hT, ?_⟩
        refine ⟨960, 43, mo_T43 hT, hw.1, ?_⟩
        replace hw := hw.2
        try rw [mo_A σ0 m ma μ51 43]
        refine ⟨mo_ty0 hT, ma 43, mo_R827 hT, ?_⟩
        refine ⟨960, 43, mo_T43 hT, hw.1, ?_⟩
        replace hw := hw.2
        try rw [mo_A σ0 m ma μ51 43]
        refine ⟨mo_ty0 hT, mq_compare hT v1 v3 (μ51.2 43 r51.toNatClampNeg) (μ51.2 43 (r51 + ((1 : Int32))).toNatClampNeg) (μ51.2 43 (r51 + ((2 : Int32))).toNatClampNeg) μ51 _ _ (fun r112 μ112 hw => ?_) hw⟩
        exact hw
      · have hw := hw.2 hc
        exact hw
    · have hw := hw.2 hc
      exact hw)
  have hw := hw (by
    intro v1 v2 v3 v4 t0 μ hw
    refine hX115 _ _ _ _ _ _  ?_
    refine ⟨fun hc => ?_, fun hc => ?_⟩
    · have hw := hw.1 hc
      refine ⟨fun hc => ?_, fun hc => ?_⟩
      · have hw := hw.1 hc
        refine ⟨mo_ty0 hT, ma 43, mo_R827 hT, ?_⟩
        refine ⟨960, 43, mo_T43 hT, hw.1, ?_⟩
        replace hw := hw.2
        try rw [mo_A σ0 m ma μ 43]
        refine ⟨mo_ty0 hT, ma 43, mo_R827 hT, ?_⟩
        refine ⟨960, 43, mo_T43 hT, hw.1, ?_⟩
        replace hw := hw.2
        try rw [mo_A σ0 m ma μ 43]
        refine ⟨mo_ty0 hT, ma 43, mo_R827 hT, ?_⟩
        refine ⟨960, 43, mo_T43 hT, hw.1, ?_⟩
        replace hw := hw.2
        try rw [mo_A σ0 m ma μ 43]
        refine ⟨mo_ty0 hT, mq_differ hT v1 (μ.2 43 v4.toNatClampNeg) (μ.2 43 (v4 + ((1 : Int32))).toNatClampNeg) (μ.2 43 (v4 + ((2 : Int32))).toNatClampNeg) ((-1 : Int32)) μ _ _ (fun μ209 hw => ?_) hw⟩
        exact hw
      · have hw := hw.2 hc
        refine ⟨mo_ty0 hT, mq_base hT v1 v3 μ _ _ (fun r139 μ139 hw => ?_) hw⟩
        refine ⟨mo_ty0 hT, ma 40, mo_R824 hT, ?_⟩
        refine ⟨960, 40, mo_T40 hT, hw.1, ?_⟩
        replace hw := hw.2
        try rw [mo_A σ0 m ma μ139 40]
        refine ⟨mo_ty0 hT, ma 40, mo_R824 hT, ?_⟩
        refine ⟨960, 40, mo_T40 hT, hw.1, ?_⟩
        replace hw := hw.2
        try rw [mo_A σ0 m ma μ139 40]
        refine ⟨mo_ty0 hT, ma 40, mo_R824 hT, ?_⟩
        refine ⟨960, 40, mo_T40 hT, hw.1, ?_⟩
        replace hw := hw.2
        try rw [mo_A σ0 m ma μ139 40]
        refine ⟨mo_ty0 hT, mq_differ hT v1 (μ139.2 40 r139.toNatClampNeg) (μ139.2 40 (r139 + ((1 : Int32))).toNatClampNeg) (μ139.2 40 (r139 + ((2 : Int32))).toNatClampNeg) ((1 : Int32)) μ139 _ _ (fun μ172 hw => ?_) hw⟩
        exact hw
    · have hw := hw.2 hc
      exact hw)
  refine ⟨mo_ty0 hT, fun σ2 e2 => ?_⟩
  rw [mo_sI] at e2
  obtain ⟨μ2, f2⟩ : ∃ z, z = mu_sI μ 836 ((0 : Int32)) := ⟨_, rfl⟩
  rw [← f2] at e2
  subst e2
  have hw := hw _ f2
  exact hw
def mp_apply (μ : mo_U) (Q : Int32 → mo_U → Prop) : Prop := ∀ (X2 : Int32 → mo_U → Prop) (X74 : Int32 → Int32 → Int32 → mo_U → Prop) (X112 : Int32 → mo_U → Prop) (X119 : Int32 → Int32 → mo_U → Prop) (X194 : Int32 → Int32 → Int32 → Int32 → Int32 → Int32 → mo_U → Prop) (X240 : Int32 → Int32 → Int32 → Int32 → Int32 → Int32 → mo_U → Prop) (X269 : Int32 → Int32 → Int32 → Int32 → Int32 → mo_U → Prop),
    (∀ (v1 : Int32) (μ : mo_U), (((μ.1 847) ≤ v1 → mp_keep μ (fun (μ107 : mo_U) => X112 ((0 : Int32)) μ107)) ∧ (¬ (μ.1 847) ≤ v1 → vp_in (((5 : Int32)) * v1) 300 ∧ (vp_in ((((5 : Int32)) * v1) + ((1 : Int32))) 300 ∧ (vp_in ((((5 : Int32)) * v1) + ((2 : Int32))) 300 ∧ (vp_in ((((5 : Int32)) * v1) + ((3 : Int32))) 300 ∧ (mp_find (μ.2 55 (((5 : Int32)) * v1).toNatClampNeg) (μ.2 55 ((((5 : Int32)) * v1) + ((1 : Int32))).toNatClampNeg) (μ.2 55 ((((5 : Int32)) * v1) + ((2 : Int32))).toNatClampNeg) (μ.2 55 ((((5 : Int32)) * v1) + ((3 : Int32))).toNatClampNeg) μ (fun (r45 : Int32) (μ45 : mo_U) => (¬ r45 = ((-1 : Int32)) → vp_in (((5 : Int32)) * v1) 300 ∧ (vp_in ((((40 : Int32)) * (μ45.2 55 (((5 : Int32)) * v1).toNatClampNeg)) + r45) 320 ∧ (X74 v1 (((5 : Int32)) * v1) (μ45.2 41 ((((40 : Int32)) * (μ45.2 55 (((5 : Int32)) * v1).toNatClampNeg)) + r45).toNatClampNeg) μ45))) ∧ (r45 = ((-1 : Int32)) → X74 v1 (((5 : Int32)) * v1) ((0 : Int32)) μ45)))))))) → X2 v1 μ) →
    (∀ (v1 : Int32) (v2 : Int32) (t0 : Int32) (μ : mo_U), (vp_in (v2 + ((4 : Int32))) 300 ∧ ((((t0 + (μ.2 55 (v2 + ((4 : Int32))).toNatClampNeg))) < 0 → Q ((-2 : Int32)) μ) ∧ (¬ ((t0 + (μ.2 55 (v2 + ((4 : Int32))).toNatClampNeg))) < 0 → ((t0 + (μ.2 55 (v2 + ((4 : Int32))).toNatClampNeg)) ≤ ((9 : Int32)) → X2 (v1 + (1 : Int32)) μ) ∧ (¬ (t0 + (μ.2 55 (v2 + ((4 : Int32))).toNatClampNeg)) ≤ ((9 : Int32)) → Q ((-2 : Int32)) μ)))) → X74 v1 v2 t0 μ) →
    (∀ (v1 : Int32) (μ : mo_U), ((((2 : Int32)) ≤ v1 → mp_work μ (fun (r334 : Int32) (μ334 : mo_U) => (¬ r334 = 0 → mp_compareAll μ334 (fun (μ348 : mo_U) => Q ((0 : Int32)) μ348)) ∧ (r334 = 0 → mp_back μ334 (fun (μ341 : mo_U) => Q ((-3 : Int32)) μ341)))) ∧ (¬ ((2 : Int32)) ≤ v1 → X119 v1 ((0 : Int32)) μ)) → X112 v1 μ) →
    (∀ (v1 : Int32) (v2 : Int32) (μ : mo_U), (((μ.1 847) ≤ v2 → X112 (v1 + (1 : Int32)) μ) ∧ (¬ (μ.1 847) ≤ v2 → vp_in (((5 : Int32)) * v2) 300 ∧ (vp_in ((((5 : Int32)) * v2) + ((1 : Int32))) 300 ∧ (vp_in ((((5 : Int32)) * v2) + ((2 : Int32))) 300 ∧ (vp_in ((((5 : Int32)) * v2) + ((3 : Int32))) 300 ∧ (mp_find (μ.2 55 (((5 : Int32)) * v2).toNatClampNeg) (μ.2 55 ((((5 : Int32)) * v2) + ((1 : Int32))).toNatClampNeg) (μ.2 55 ((((5 : Int32)) * v2) + ((2 : Int32))).toNatClampNeg) (μ.2 55 ((((5 : Int32)) * v2) + ((3 : Int32))).toNatClampNeg) μ (fun (r166 : Int32) (μ166 : mo_U) => (¬ r166 = ((-1 : Int32)) → vp_in ((((40 : Int32)) * (μ.2 55 (((5 : Int32)) * v2).toNatClampNeg)) + r166) 320 ∧ (X194 v1 v2 (((5 : Int32)) * v2) (μ.2 55 (((5 : Int32)) * v2).toNatClampNeg) r166 (μ166.2 41 ((((40 : Int32)) * (μ.2 55 (((5 : Int32)) * v2).toNatClampNeg)) + r166).toNatClampNeg) μ166)) ∧ (r166 = ((-1 : Int32)) → X194 v1 v2 (((5 : Int32)) * v2) (μ.2 55 (((5 : Int32)) * v2).toNatClampNeg) r166 ((0 : Int32)) μ166)))))))) → X119 v1 v2 μ) →
    (∀ (v1 : Int32) (v2 : Int32) (v3 : Int32) (v4 : Int32) (v5 : Int32) (t0 : Int32) (μ : mo_U), (vp_in (v3 + ((4 : Int32))) 300 ∧ ((¬ v1 = 0 → X240 v1 v2 v3 v4 v5 (t0 + (μ.2 55 (v3 + ((4 : Int32))).toNatClampNeg)) μ) ∧ (v1 = 0 → (v5 = ((-1 : Int32)) → X240 v1 v2 v3 v4 v5 (t0 + (μ.2 55 (v3 + ((4 : Int32))).toNatClampNeg)) μ) ∧ (¬ v5 = ((-1 : Int32)) → (¬ ((t0 + (μ.2 55 (v3 + ((4 : Int32))).toNatClampNeg))) = 0 → X240 v1 v2 v3 v4 v5 (t0 + (μ.2 55 (v3 + ((4 : Int32))).toNatClampNeg)) μ) ∧ (((t0 + (μ.2 55 (v3 + ((4 : Int32))).toNatClampNeg))) = 0 → mp_remove v4 v5 μ (fun (μ225 : mo_U) => vp_in (v3 + ((4 : Int32))) 300 ∧ ∀ μ236, μ236 = mu_sA μ225 55 (upd (μ225.2 55) (v3 + ((4 : Int32))).toNatClampNeg ((0 : Int32))) → X119 v1 (v2 + (1 : Int32)) μ236)))))) → X194 v1 v2 v3 v4 v5 t0 μ) →
    (∀ (v1 : Int32) (v2 : Int32) (v3 : Int32) (v4 : Int32) (v5 : Int32) (v6 : Int32) (μ : mo_U), ((¬ v1 = ((1 : Int32)) → X269 v1 v2 v3 v4 v6 μ) ∧ (v1 = ((1 : Int32)) → (v5 = ((-1 : Int32)) → X269 v1 v2 v3 v4 v6 μ) ∧ (¬ v5 = ((-1 : Int32)) → vp_in ((((40 : Int32)) * v4) + v5) 320 ∧ ∀ μ265, μ265 = mu_sA μ 41 (upd (μ.2 41) ((((40 : Int32)) * v4) + v5).toNatClampNeg v6) → X119 v1 (v2 + (1 : Int32)) μ265))) → X240 v1 v2 v3 v4 v5 v6 μ) →
    (∀ (v1 : Int32) (v2 : Int32) (v3 : Int32) (v4 : Int32) (v6 : Int32) (μ : mo_U), ((¬ v1 = ((1 : Int32)) → X119 v1 (v2 + (1 : Int32)) μ) ∧ (v1 = ((1 : Int32)) → (v6 ≤ 0 → X119 v1 (v2 + (1 : Int32)) μ) ∧ (¬ v6 ≤ 0 → vp_in (v3 + ((1 : Int32))) 300 ∧ (vp_in (v3 + ((2 : Int32))) 300 ∧ (vp_in (v3 + ((3 : Int32))) 300 ∧ (mp_insert v4 (μ.2 55 (v3 + ((1 : Int32))).toNatClampNeg) (μ.2 55 (v3 + ((2 : Int32))).toNatClampNeg) (μ.2 55 (v3 + ((3 : Int32))).toNatClampNeg) v6 μ (fun (r308 : Int32) (μ308 : mo_U) => (¬ r308 = 0 → X119 v1 (v2 + (1 : Int32)) μ308) ∧ (r308 = 0 → mp_back μ308 (fun (μ315 : mo_U) => Q ((-3 : Int32)) μ315))))))))) → X269 v1 v2 v3 v4 v6 μ) →
    (X2 ((0 : Int32)) μ)
set_option maxHeartbeats 4000000 in
theorem mq_apply {σ0 : z_S} {m : Nat} {ma : Nat → Nat} (hT : mo_T σ0 m ma) (μ : mo_U) (Q : Int32 → mo_U → Prop) (Post : Int32 → z_S → Prop) (hQ : (∀ r μ', Q r μ' → Post r (mo_put σ0 m ma μ'))) (hw : mp_apply μ Q) : kp_Mo_apply m (mo_put σ0 m ma μ) Post := by
  unfold mp_apply at hw
  unfold kp_Mo_apply
  intro X2 X74 X112 X119 X194 X240 X269 hX2 hX74 hX112 hX119 hX194 hX240 hX269
  have hw := hw (fun (v1 : Int32) (μ : mo_U) => X2 v1 (mo_put σ0 m ma μ))
  have hw := hw (fun (v1 : Int32) (v2 : Int32) (t0 : Int32) (μ : mo_U) => X74 v1 v2 t0 (mo_put σ0 m ma μ))
  have hw := hw (fun (v1 : Int32) (μ : mo_U) => X112 v1 (mo_put σ0 m ma μ))
  have hw := hw (fun (v1 : Int32) (v2 : Int32) (μ : mo_U) => X119 v1 v2 (mo_put σ0 m ma μ))
  have hw := hw (fun (v1 : Int32) (v2 : Int32) (v3 : Int32) (v4 : Int32) (v5 : Int32) (t0 : Int32) (μ : mo_U) => X194 v1 v2 v3 v4 v5 t0 (mo_put σ0 m ma μ))
  have hw := hw (fun (v1 : Int32) (v2 : Int32) (v3 : Int32) (v4 : Int32) (v5 : Int32) (v6 : Int32) (μ : mo_U) => X240 v1 v2 v3 v4 v5 v6 (mo_put σ0 m ma μ))
  have hw := hw (fun (v1 : Int32) (v2 : Int32) (v3 : Int32) (v4 : Int32) (v6 : Int32) (μ : mo_U) => X269 v1 v2 v3 v4 v6 (mo_put σ0 m ma μ))
  have hw := hw (by
    intro v1 μ hw
    refine hX2 _ _  ?_
    refine ⟨mo_ty0 hT, ?_⟩
    try rw [mo_I σ0 m ma μ 847]
    refine ⟨fun hc => ?_, fun hc => ?_⟩
    · have hw := hw.1 hc
      refine ⟨mo_ty0 hT, mq_keep hT μ _ _ (fun μ107 hw => ?_) hw⟩
      exact hw
    · have hw := hw.2 hc
      refine ⟨mo_ty0 hT, ma 55, mo_R846 hT, ?_⟩
      refine ⟨300, 55, mo_T55 hT, hw.1, ?_⟩
      replace hw := hw.2
      try rw [mo_A σ0 m ma μ 55]
      refine ⟨mo_ty0 hT, ma 55, mo_R846 hT, ?_⟩
      refine ⟨300, 55, mo_T55 hT, hw.1, ?_⟩
      replace hw := hw.2
      try rw [mo_A σ0 m ma μ 55]
      refine ⟨mo_ty0 hT, ma 55, mo_R846 hT, ?_⟩
      refine ⟨300, 55, mo_T55 hT, hw.1, ?_⟩
      replace hw := hw.2
      try rw [mo_A σ0 m ma μ 55]
      refine ⟨mo_ty0 hT, ma 55, mo_R846 hT, ?_⟩
      refine ⟨300, 55, mo_T55 hT, hw.1, ?_⟩
      replace hw := hw.2
      try rw [mo_A σ0 m ma μ 55]
      refine ⟨mo_ty0 hT, mq_find hT (μ.2 55 (((5 : Int32)) * v1).toNatClampNeg) (μ.2 55 ((((5 : Int32)) * v1) + ((1 : Int32))).toNatClampNeg) (μ.2 55 ((((5 : Int32)) * v1) + ((2 : Int32))).toNatClampNeg) (μ.2 55 ((((5 : Int32)) * v1) + ((3 : Int32))).toNatClampNeg) μ _ _ (fun r45 μ45 hw => ?_) hw⟩
      refine ⟨fun hc => ?_, fun hc => ?_⟩
      · have hw := hw.1 hc
        refine ⟨mo_ty0 hT, ma 41, mo_R825 hT, ?_⟩
        refine ⟨mo_ty0 hT, ma 55, mo_R846 hT, ?_⟩
        refine ⟨300, 55, mo_T55 hT, hw.1, ?_⟩
        replace hw := hw.2
        try rw [mo_A σ0 m ma μ45 55]
        refine ⟨320, 41, mo_T41 hT, hw.1, ?_⟩
        replace hw := hw.2
        try rw [mo_A σ0 m ma μ45 41]
        exact hw
      · have hw := hw.2 hc
        exact hw)
  have hw := hw (by
    intro v1 v2 t0 μ hw
    refine hX74 _ _ _ _  ?_
    refine ⟨mo_ty0 hT, ma 55, mo_R846 hT, ?_⟩
    refine ⟨300, 55, mo_T55 hT, hw.1, ?_⟩
    replace hw := hw.2
    try rw [mo_A σ0 m ma μ 55]
    refine ⟨fun hc => ?_, fun hc => ?_⟩
    · have hw := hw.1 hc
      exact hQ _ _ hw
    · have hw := hw.2 hc
      refine ⟨fun hc => ?_, fun hc => ?_⟩
      · have hw := hw.1 hc
        exact hw
      · have hw := hw.2 hc
        exact hQ _ _ hw)
  have hw := hw (by
    intro v1 μ hw
    refine hX112 _ _  ?_
    refine ⟨fun hc => ?_, fun hc => ?_⟩
    · have hw := hw.1 hc
      refine ⟨mo_ty0 hT, mq_work hT μ _ _ (fun r334 μ334 hw => ?_) hw⟩
      refine ⟨fun hc => ?_, fun hc => ?_⟩
      · have hw := hw.1 hc
        refine ⟨mo_ty0 hT, mq_compareAll hT μ334 _ _ (fun μ348 hw => ?_) hw⟩
        exact hQ _ _ hw
      · have hw := hw.2 hc
        refine ⟨mo_ty0 hT, mq_back hT μ334 _ _ (fun μ341 hw => ?_) hw⟩
        exact hQ _ _ hw
    · have hw := hw.2 hc
      exact hw)
  have hw := hw (by
    intro v1 v2 μ hw
    refine hX119 _ _ _  ?_
    refine ⟨mo_ty0 hT, ?_⟩
    try rw [mo_I σ0 m ma μ 847]
    refine ⟨fun hc => ?_, fun hc => ?_⟩
    · have hw := hw.1 hc
      exact hw
    · have hw := hw.2 hc
      refine ⟨mo_ty0 hT, ma 55, mo_R846 hT, ?_⟩
      refine ⟨300, 55, mo_T55 hT, hw.1, ?_⟩
      replace hw := hw.2
      try rw [mo_A σ0 m ma μ 55]
      refine ⟨mo_ty0 hT, ma 55, mo_R846 hT, ?_⟩
      refine ⟨300, 55, mo_T55 hT, hw.1, ?_⟩
      replace hw := hw.2
      try rw [mo_A σ0 m ma μ 55]
      refine ⟨mo_ty0 hT, ma 55, mo_R846 hT, ?_⟩
      refine ⟨300, 55, mo_T55 hT, hw.1, ?_⟩
      replace hw := hw.2
      try rw [mo_A σ0 m ma μ 55]
      refine ⟨mo_ty0 hT, ma 55, mo_R846 hT, ?_⟩
      refine ⟨300, 55, mo_T55 hT, hw.1, ?_⟩
      replace hw := hw.2
      try rw [mo_A σ0 m ma μ 55]
      refine ⟨mo_ty0 hT, mq_find hT (μ.2 55 (((5 : Int32)) * v2).toNatClampNeg) (μ.2 55 ((((5 : Int32)) * v2) + ((1 : Int32))).toNatClampNeg) (μ.2 55 ((((5 : Int32)) * v2) + ((2 : Int32))).toNatClampNeg) (μ.2 55 ((((5 : Int32)) * v2) + ((3 : Int32))).toNatClampNeg) μ _ _ (fun r166 μ166 hw => ?_) hw⟩
      refine ⟨fun hc => ?_, fun hc => ?_⟩
      · have hw := hw.1 hc
        refine ⟨mo_ty0 hT, ma 41, mo_R825 hT, ?_⟩
        refine ⟨320, 41, mo_T41 hT, hw.1, ?_⟩
        replace hw := hw.2
        try rw [mo_A σ0 m ma μ166 41]
        exact hw
      · have hw := hw.2 hc
        exact hw)
  have hw := hw (by
    intro v1 v2 v3 v4 v5 t0 μ hw
    refine hX194 _ _ _ _ _ _ _  ?_
    refine ⟨mo_ty0 hT, ma 55, mo_R846 hT, ?_⟩
    refine ⟨300, 55, mo_T55 hT, hw.1, ?_⟩
    replace hw := hw.2
    try rw [mo_A σ0 m ma μ 55]
    refine ⟨fun hc => ?_, fun hc => ?_⟩
    · have hw := hw.1 hc
      exact hw
    · have hw := hw.2 hc
      refine ⟨fun hc => ?_, fun hc => ?_⟩
      · have hw := hw.1 hc
        exact hw
      · have hw := hw.2 hc
        refine ⟨fun hc => ?_, fun hc => ?_⟩
        · have hw := hw.1 hc
          exact hw
        · have hw := hw.2 hc
          refine ⟨mo_ty0 hT, mq_remove hT v4 v5 μ _ _ (fun μ225 hw => ?_) hw⟩
          refine ⟨mo_ty0 hT, ma 55, mo_R846 hT, ?_⟩
          refine ⟨300, 55, mo_T55 hT, hw.1, fun σ236 e236 => ?_⟩
          replace hw := hw.2
          rw [mo_A σ0 m ma μ225 55, mo_sA] at e236
          obtain ⟨μ236, f236⟩ : ∃ z, z = mu_sA μ225 55 (upd (μ225.2 55) (v3 + ((4 : Int32))).toNatClampNeg ((0 : Int32))) := ⟨_, rfl⟩
          rw [← f236] at e236
          subst e236
          have hw := hw _ f236
          exact hw)
  have hw := hw (by
    intro v1 v2 v3 v4 v5 v6 μ hw
    refine hX240 _ _ _ _ _ _ _  ?_
    refine ⟨fun hc => ?_, fun hc => ?_⟩
    · have hw := hw.1 hc
      exact hw
    · have hw := hw.2 hc
      refine ⟨fun hc => ?_, fun hc => ?_⟩
      · have hw := hw.1 hc
        exact hw
      · have hw := hw.2 hc
        refine ⟨mo_ty0 hT, ma 41, mo_R825 hT, ?_⟩
        refine ⟨320, 41, mo_T41 hT, hw.1, fun σ265 e265 => ?_⟩
        replace hw := hw.2
        rw [mo_A σ0 m ma μ 41, mo_sA] at e265
        obtain ⟨μ265, f265⟩ : ∃ z, z = mu_sA μ 41 (upd (μ.2 41) ((((40 : Int32)) * v4) + v5).toNatClampNeg v6) := ⟨_, rfl⟩
        rw [← f265] at e265
        subst e265
        have hw := hw _ f265
        exact hw)
  have hw := hw (by
    intro v1 v2 v3 v4 v6 μ hw
    refine hX269 _ _ _ _ _ _  ?_
    refine ⟨fun hc => ?_, fun hc => ?_⟩
    · have hw := hw.1 hc
      exact hw
    · have hw := hw.2 hc
      refine ⟨fun hc => ?_, fun hc => ?_⟩
      · have hw := hw.1 hc
        exact hw
      · have hw := hw.2 hc
        refine ⟨mo_ty0 hT, ma 55, mo_R846 hT, ?_⟩
        refine ⟨300, 55, mo_T55 hT, hw.1, ?_⟩
        replace hw := hw.2
        try rw [mo_A σ0 m ma μ 55]
        refine ⟨mo_ty0 hT, ma 55, mo_R846 hT, ?_⟩
        refine ⟨300, 55, mo_T55 hT, hw.1, ?_⟩
        replace hw := hw.2
        try rw [mo_A σ0 m ma μ 55]
        refine ⟨mo_ty0 hT, ma 55, mo_R846 hT, ?_⟩
        refine ⟨300, 55, mo_T55 hT, hw.1, ?_⟩
        replace hw := hw.2
        try rw [mo_A σ0 m ma μ 55]
        refine ⟨mo_ty0 hT, mq_insert hT v4 (μ.2 55 (v3 + ((1 : Int32))).toNatClampNeg) (μ.2 55 (v3 + ((2 : Int32))).toNatClampNeg) (μ.2 55 (v3 + ((3 : Int32))).toNatClampNeg) v6 μ _ _ (fun r308 μ308 hw => ?_) hw⟩
        refine ⟨fun hc => ?_, fun hc => ?_⟩
        · have hw := hw.1 hc
          exact hw
        · have hw := hw.2 hc
          refine ⟨mo_ty0 hT, mq_back hT μ308 _ _ (fun μ315 hw => ?_) hw⟩
          exact hQ _ _ hw)
  exact hw
def mp_feed (x1 : Int64) (x2 : Int32) (μ : mo_U) (Q : Int32 → mo_U → Prop) : Prop := ∀ (X31 : Int32 → mo_U → Prop),
    (∀ (v4 : Int32) (μ : mo_U), ((x2 ≤ v4 → Q (μ.1 801) μ) ∧ (¬ x2 ≤ v4 → vp_in (μ.1 801) 600 ∧ ∀ μ54, μ54 = mu_sA μ 23 (upd (μ.2 23) (μ.1 801).toNatClampNeg (vp_nar .byte (((x1 >>> ((((8 : Int32)) * v4).toInt64 &&& 63)).toInt32).toInt8.toInt32))) → ∀ μ62, μ62 = mu_sI μ54 801 ((μ54.1 801) + ((1 : Int32))) → X31 (v4 + (1 : Int32)) μ62)) → X31 v4 μ) →
    (mp_isIn x2 ((1 : Int32)) ((8 : Int32)) μ (fun (r4 : Int32) (μ4 : mo_U) => (¬ r4 = 0 → (((μ4.1 801) + x2) ≤ ((600 : Int32)) → X31 ((0 : Int32)) μ4) ∧ (¬ ((μ4.1 801) + x2) ≤ ((600 : Int32)) → Q ((-3 : Int32)) μ4)) ∧ (r4 = 0 → Q ((-2 : Int32)) μ4)))
set_option maxHeartbeats 4000000 in
theorem mq_feed {σ0 : z_S} {m : Nat} {ma : Nat → Nat} (hT : mo_T σ0 m ma) (x1 : Int64) (x2 : Int32) (μ : mo_U) (Q : Int32 → mo_U → Prop) (Post : Int32 → z_S → Prop) (hQ : (∀ r μ', Q r μ' → Post r (mo_put σ0 m ma μ'))) (hw : mp_feed x1 x2 μ Q) : kp_Mo_feed m x1 x2 (mo_put σ0 m ma μ) Post := by
  unfold mp_feed at hw
  unfold kp_Mo_feed
  intro X31 hX31
  have hw := hw (fun (v4 : Int32) (μ : mo_U) => X31 v4 (mo_put σ0 m ma μ))
  have hw := hw (by
    intro v4 μ hw
    refine hX31 _ _  ?_
    refine ⟨fun hc => ?_, fun hc => ?_⟩
    · have hw := hw.1 hc
      refine ⟨mo_ty0 hT, ?_⟩
      try rw [mo_I σ0 m ma μ 801]
      exact hQ _ _ hw
    · have hw := hw.2 hc
      refine ⟨mo_ty0 hT, ma 23, mo_R800 hT, ?_⟩
      refine ⟨mo_ty0 hT, ?_⟩
      try rw [mo_I σ0 m ma μ 801]
      refine ⟨600, 23, mo_T23 hT, hw.1, fun σ54 e54 => ?_⟩
      replace hw := hw.2
      rw [mo_A σ0 m ma μ 23, mo_sA] at e54
      obtain ⟨μ54, f54⟩ : ∃ z, z = mu_sA μ 23 (upd (μ.2 23) (μ.1 801).toNatClampNeg (vp_nar .byte (((x1 >>> ((((8 : Int32)) * v4).toInt64 &&& 63)).toInt32).toInt8.toInt32))) := ⟨_, rfl⟩
      rw [← f54] at e54
      subst e54
      have hw := hw _ f54
      refine ⟨mo_ty0 hT, ?_⟩
      try rw [mo_I σ0 m ma μ54 801]
      refine ⟨mo_ty0 hT, fun σ62 e62 => ?_⟩
      rw [mo_sI] at e62
      obtain ⟨μ62, f62⟩ : ∃ z, z = mu_sI μ54 801 ((μ54.1 801) + ((1 : Int32))) := ⟨_, rfl⟩
      rw [← f62] at e62
      subst e62
      have hw := hw _ f62
      exact hw)
  refine mq_isIn hT x2 ((1 : Int32)) ((8 : Int32)) μ _ _ (fun r4 μ4 hw => ?_) hw
  refine ⟨fun hc => ?_, fun hc => ?_⟩
  · have hw := hw.1 hc
    refine ⟨mo_ty0 hT, ?_⟩
    try rw [mo_I σ0 m ma μ4 801]
    refine ⟨fun hc => ?_, fun hc => ?_⟩
    · have hw := hw.1 hc
      exact hw
    · have hw := hw.2 hc
      exact hQ _ _ hw
  · have hw := hw.2 hc
    exact hQ _ _ hw
def mp_forget (μ : mo_U) (Q : mo_U → Prop) : Prop := ∀ (X22 : Int32 → mo_U → Prop),
    (∀ (v1 : Int32) (μ : mo_U), ((((8 : Int32)) ≤ v1 → Q μ) ∧ (¬ ((8 : Int32)) ≤ v1 → vp_in v1 8 ∧ ∀ μ34, μ34 = mu_sA μ 42 (upd (μ.2 42) v1.toNatClampNeg ((0 : Int32))) → vp_in v1 8 ∧ ∀ μ41, μ41 = mu_sA μ34 39 (upd (μ34.2 39) v1.toNatClampNeg (vp_nar .boolean ((0 : Int32)))) → X22 (v1 + (1 : Int32)) μ41)) → X22 v1 μ) →
    (∀ μ2, μ2 = mu_sI μ 808 ((0 : Int32)) → ∀ μ7, μ7 = mu_sI μ2 817 ((0 : Int32)) → ∀ μ12, μ12 = mu_sI μ7 836 ((0 : Int32)) → ∀ μ17, μ17 = mu_sI μ12 834 ((0 : Int32)) → X22 ((0 : Int32)) μ17)
set_option maxHeartbeats 4000000 in
theorem mq_forget {σ0 : z_S} {m : Nat} {ma : Nat → Nat} (hT : mo_T σ0 m ma) (μ : mo_U) (Q : mo_U → Prop) (Post : z_S → Prop) (hQ : (∀ μ', Q μ' → Post (mo_put σ0 m ma μ'))) (hw : mp_forget μ Q) : kp_Mo_forget m (mo_put σ0 m ma μ) Post := by
  unfold mp_forget at hw
  unfold kp_Mo_forget
  intro X22 hX22
  have hw := hw (fun (v1 : Int32) (μ : mo_U) => X22 v1 (mo_put σ0 m ma μ))
  have hw := hw (by
    intro v1 μ hw
    refine hX22 _ _  ?_
    refine ⟨fun hc => ?_, fun hc => ?_⟩
    · have hw := hw.1 hc
      exact hQ _ hw
    · have hw := hw.2 hc
      refine ⟨mo_ty0 hT, ma 42, mo_R826 hT, ?_⟩
      refine ⟨8, 42, mo_T42 hT, hw.1, fun σ34 e34 => ?_⟩
      replace hw := hw.2
      rw [mo_A σ0 m ma μ 42, mo_sA] at e34
      obtain ⟨μ34, f34⟩ : ∃ z, z = mu_sA μ 42 (upd (μ.2 42) v1.toNatClampNeg ((0 : Int32))) := ⟨_, rfl⟩
      rw [← f34] at e34
      subst e34
      have hw := hw _ f34
      refine ⟨mo_ty0 hT, ma 39, mo_R823 hT, ?_⟩
      refine ⟨8, 39, mo_T39 hT, hw.1, fun σ41 e41 => ?_⟩
      replace hw := hw.2
      rw [mo_A σ0 m ma μ34 39, mo_sA] at e41
      obtain ⟨μ41, f41⟩ : ∃ z, z = mu_sA μ34 39 (upd (μ34.2 39) v1.toNatClampNeg (vp_nar .boolean ((0 : Int32)))) := ⟨_, rfl⟩
      rw [← f41] at e41
      subst e41
      have hw := hw _ f41
      exact hw)
  refine ⟨mo_ty0 hT, fun σ2 e2 => ?_⟩
  rw [mo_sI] at e2
  obtain ⟨μ2, f2⟩ : ∃ z, z = mu_sI μ 808 ((0 : Int32)) := ⟨_, rfl⟩
  rw [← f2] at e2
  subst e2
  have hw := hw _ f2
  refine ⟨mo_ty0 hT, fun σ7 e7 => ?_⟩
  rw [mo_sI] at e7
  obtain ⟨μ7, f7⟩ : ∃ z, z = mu_sI μ2 817 ((0 : Int32)) := ⟨_, rfl⟩
  rw [← f7] at e7
  subst e7
  have hw := hw _ f7
  refine ⟨mo_ty0 hT, fun σ12 e12 => ?_⟩
  rw [mo_sI] at e12
  obtain ⟨μ12, f12⟩ : ∃ z, z = mu_sI μ7 836 ((0 : Int32)) := ⟨_, rfl⟩
  rw [← f12] at e12
  subst e12
  have hw := hw _ f12
  refine ⟨mo_ty0 hT, fun σ17 e17 => ?_⟩
  rw [mo_sI] at e17
  obtain ⟨μ17, f17⟩ : ∃ z, z = mu_sI μ12 834 ((0 : Int32)) := ⟨_, rfl⟩
  rw [← f17] at e17
  subst e17
  have hw := hw _ f17
  exact hw
def mp_ringMany (μ : mo_U) (Q : mo_U → Prop) : Prop := ∀ (X7 : Int32 → mo_U → Prop),
    (∀ (v1 : Int32) (μ : mo_U), ((((8 : Int32)) ≤ v1 → Q μ) ∧ (¬ ((8 : Int32)) ≤ v1 → vp_in v1 8 ∧ ((((μ.2 39 v1.toNatClampNeg)) = 0 → X7 (v1 + (1 : Int32)) μ) ∧ (¬ ((μ.2 39 v1.toNatClampNeg)) = 0 → vp_in v1 9 ∧ (vp_in (μ.1 849) 8 ∧ ∀ μ36, μ36 = mu_sA μ 56 (upd (μ.2 56) (μ.1 849).toNatClampNeg (μ.2 34 v1.toNatClampNeg)) → ∀ μ44, μ44 = mu_sI μ36 849 ((μ36.1 849) + ((1 : Int32))) → X7 (v1 + (1 : Int32)) μ44))))) → X7 v1 μ) →
    (∀ μ2, μ2 = mu_sI μ 849 ((0 : Int32)) → X7 ((0 : Int32)) μ2)
set_option maxHeartbeats 4000000 in
theorem mq_ringMany {σ0 : z_S} {m : Nat} {ma : Nat → Nat} (hT : mo_T σ0 m ma) (μ : mo_U) (Q : mo_U → Prop) (Post : z_S → Prop) (hQ : (∀ μ', Q μ' → Post (mo_put σ0 m ma μ'))) (hw : mp_ringMany μ Q) : kp_Mo_ringMany m (mo_put σ0 m ma μ) Post := by
  unfold mp_ringMany at hw
  unfold kp_Mo_ringMany
  intro X7 hX7
  have hw := hw (fun (v1 : Int32) (μ : mo_U) => X7 v1 (mo_put σ0 m ma μ))
  have hw := hw (by
    intro v1 μ hw
    refine hX7 _ _  ?_
    refine ⟨fun hc => ?_, fun hc => ?_⟩
    · have hw := hw.1 hc
      exact hQ _ hw
    · have hw := hw.2 hc
      refine ⟨mo_ty0 hT, ma 39, mo_R823 hT, ?_⟩
      refine ⟨8, 39, mo_T39 hT, hw.1, ?_⟩
      replace hw := hw.2
      try rw [mo_A σ0 m ma μ 39]
      refine ⟨fun hc => ?_, fun hc => ?_⟩
      · have hw := hw.1 hc
        exact hw
      · have hw := hw.2 hc
        refine ⟨mo_ty0 hT, ma 56, mo_R848 hT, ?_⟩
        refine ⟨mo_ty0 hT, ?_⟩
        try rw [mo_I σ0 m ma μ 849]
        refine ⟨mo_ty0 hT, ma 34, mo_R818 hT, ?_⟩
        refine ⟨9, 34, mo_T34 hT, hw.1, ?_⟩
        replace hw := hw.2
        try rw [mo_A σ0 m ma μ 34]
        refine ⟨8, 56, mo_T56 hT, hw.1, fun σ36 e36 => ?_⟩
        replace hw := hw.2
        rw [mo_A σ0 m ma μ 56, mo_sA] at e36
        obtain ⟨μ36, f36⟩ : ∃ z, z = mu_sA μ 56 (upd (μ.2 56) (μ.1 849).toNatClampNeg (μ.2 34 v1.toNatClampNeg)) := ⟨_, rfl⟩
        rw [← f36] at e36
        subst e36
        have hw := hw _ f36
        refine ⟨mo_ty0 hT, ?_⟩
        try rw [mo_I σ0 m ma μ36 849]
        refine ⟨mo_ty0 hT, fun σ44 e44 => ?_⟩
        rw [mo_sI] at e44
        obtain ⟨μ44, f44⟩ : ∃ z, z = mu_sI μ36 849 ((μ36.1 849) + ((1 : Int32))) := ⟨_, rfl⟩
        rw [← f44] at e44
        subst e44
        have hw := hw _ f44
        exact hw)
  refine ⟨mo_ty0 hT, fun σ2 e2 => ?_⟩
  rw [mo_sI] at e2
  obtain ⟨μ2, f2⟩ : ∃ z, z = mu_sI μ 849 ((0 : Int32)) := ⟨_, rfl⟩
  rw [← f2] at e2
  subst e2
  have hw := hw _ f2
  exact hw
