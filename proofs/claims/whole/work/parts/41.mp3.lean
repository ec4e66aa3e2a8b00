def mp_parse (μ : mo_U) (Q : Int32 → mo_U → Prop) : Prop := ∀ (X7 : Int32 → mo_U → Prop) (X121 : mo_U → Prop) (X146 : mo_U → Prop) (X182 : mo_U → Prop),
    (∀ (v1 : Int32) (μ : mo_U), (((μ.1 801) ≤ v1 → vp_in (μ.1 804) 602 ∧ ∀ μ83, μ83 = mu_sA μ 24 (upd (μ.2 24) (μ.1 804).toNatClampNeg ((-1 : Int32))) → vp_in (μ83.1 804) 602 ∧ ∀ μ96, μ96 = mu_sA μ83 25 (upd (μ83.2 25) (μ83.1 804).toNatClampNeg (μ83.1 801)) → mp_forget μ96 (fun (μ98 : mo_U) => ∀ μ103, μ103 = mu_sI μ98 831 ((0 : Int32)) → ∀ μ108, μ108 = mu_sI μ103 805 ((0 : Int32)) → ∀ μ113, μ113 = mu_sI μ108 806 ((0 : Int32)) → ∀ μ118, μ118 = mu_sI μ113 807 ((-1 : Int32)) → X121 μ118)) ∧ (¬ (μ.1 801) ≤ v1 → vp_in v1 600 ∧ ((((μ.2 23 v1.toNatClampNeg) &&& ((255 : Int32))) = ((32 : Int32)) → X7 (v1 + (1 : Int32)) μ) ∧ (¬ ((μ.2 23 v1.toNatClampNeg) &&& ((255 : Int32))) = ((32 : Int32)) → (((μ.2 23 v1.toNatClampNeg) &&& ((255 : Int32))) = ((10 : Int32)) → X7 (v1 + (1 : Int32)) μ) ∧ (¬ ((μ.2 23 v1.toNatClampNeg) &&& ((255 : Int32))) = ((10 : Int32)) → vp_in (μ.1 804) 602 ∧ ∀ μ47, μ47 = mu_sA μ 24 (upd (μ.2 24) (μ.1 804).toNatClampNeg ((μ.2 23 v1.toNatClampNeg) &&& ((255 : Int32)))) → vp_in (μ47.1 804) 602 ∧ ∀ μ57, μ57 = mu_sA μ47 25 (upd (μ47.2 25) (μ47.1 804).toNatClampNeg v1) → ∀ μ65, μ65 = mu_sI μ57 804 ((μ57.1 804) + ((1 : Int32))) → X7 (v1 + (1 : Int32)) μ65))))) → X7 v1 μ) →
    (∀ (μ : mo_U), ((¬ ((μ.1 806)) = 0 → X146 μ) ∧ (((μ.1 806)) = 0 → ((μ.1 804) ≤ (μ.1 805) → X146 μ) ∧ (¬ (μ.1 804) ≤ (μ.1 805) → mp_rule μ (fun (μ140 : mo_U) => X121 μ140)))) → X121 μ) →
    (∀ (μ : mo_U), ((¬ ((μ.1 806)) = 0 → X182 μ) ∧ (((μ.1 806)) = 0 → mp_reaches μ (fun (μ154 : mo_U) => mp_layers μ154 (fun (r158 : Int32) (μ158 : mo_U) => (¬ r158 = 0 → X182 μ158) ∧ (r158 = 0 → ∀ μ169, μ169 = mu_sI μ158 805 (μ158.1 804) → mp_wrong ((6 : Int32)) μ169 (fun (μ175 : mo_U) => mp_findRing μ175 (fun (μ179 : mo_U) => X182 μ179))))))) → X146 μ) →
    (∀ (μ : mo_U), (∀ μ184, μ184 = mu_sI μ 801 ((0 : Int32)) → (((μ184.1 806)) = 0 → mp_work μ184 (fun (r212 : Int32) (μ212 : mo_U) => (¬ r212 = 0 → Q (μ212.1 808) μ212) ∧ (r212 = 0 → ∀ μ220, μ220 = mu_sI μ212 808 ((0 : Int32)) → Q ((-3 : Int32)) μ220))) ∧ (¬ ((μ184.1 806)) = 0 → mp_ringMany μ184 (fun (μ195 : mo_U) => ∀ μ200, μ200 = mu_sI μ195 808 ((0 : Int32)) → Q (((-10 : Int32)) - (μ200.1 806)) μ200))) → X182 μ) →
    (∀ μ2, μ2 = mu_sI μ 804 ((0 : Int32)) → X7 ((0 : Int32)) μ2)
set_option maxHeartbeats 4000000 in
theorem mq_parse {σ0 : z_S} {m : Nat} {ma : Nat → Nat} (hT : mo_T σ0 m ma) (μ : mo_U) (Q : Int32 → mo_U → Prop) (Post : Int32 → z_S → Prop) (hQ : (∀ r μ', Q r μ' → Post r (mo_put σ0 m ma μ'))) (hw : mp_parse μ Q) : kp_Mo_parse m (mo_put σ0 m ma μ) Post := by
  unfold mp_parse at hw
  unfold kp_Mo_parse
  intro X7 X121 X146 X182 hX7 hX121 hX146 hX182
  have hw := hw (fun (v1 : Int32) (μ : mo_U) => X7 v1 (mo_put σ0 m ma μ))
  have hw := hw (fun (μ : mo_U) => X121 (mo_put σ0 m ma μ))
  have hw := hw (fun (μ : mo_U) => X146 (mo_put σ0 m ma μ))
  have hw := hw (fun (μ : mo_U) => X182 (mo_put σ0 m ma μ))
  have hw := hw (by
    intro v1 μ hw
    refine hX7 _ _  ?_
    refine ⟨mo_ty0 hT, ?_⟩
    try rw [mo_I σ0 m ma μ 801]
    refine ⟨fun hc => ?_, fun hc => ?_⟩
    · have hw := hw.1 hc
      refine ⟨mo_ty0 hT, ma 24, mo_R802 hT, ?_⟩
      refine ⟨mo_ty0 hT, ?_⟩
      try rw [mo_I σ0 m ma μ 804]
      refine ⟨602, 24, mo_T24 hT, hw.1, fun σ83 e83 => ?_⟩
      replace hw := hw.2
      rw [mo_A σ0 m ma μ 24, mo_sA] at e83
      obtain ⟨μ83, f83⟩ : ∃ z, z = mu_sA μ 24 (upd (μ.2 24) (μ.1 804).toNatClampNeg ((-1 : Int32))) := ⟨_, rfl⟩
      rw [← f83] at e83
      subst e83
      have hw := hw _ f83
      refine ⟨mo_ty0 hT, ma 25, mo_R803 hT, ?_⟩
      refine ⟨mo_ty0 hT, ?_⟩
      try rw [mo_I σ0 m ma μ83 804]
      refine ⟨mo_ty0 hT, ?_⟩
      try rw [mo_I σ0 m ma μ83 801]
      refine ⟨602, 25, mo_T25 hT, hw.1, fun σ96 e96 => ?_⟩
      replace hw := hw.2
      rw [mo_A σ0 m ma μ83 25, mo_sA] at e96
      obtain ⟨μ96, f96⟩ : ∃ z, z = mu_sA μ83 25 (upd (μ83.2 25) (μ83.1 804).toNatClampNeg (μ83.1 801)) := ⟨_, rfl⟩
      rw [← f96] at e96
      subst e96
      have hw := hw _ f96
      refine ⟨mo_ty0 hT, mq_forget hT μ96 _ _ (fun μ98 hw => ?_) hw⟩
      refine ⟨mo_ty0 hT, fun σ103 e103 => ?_⟩
      rw [mo_sI] at e103
      obtain ⟨μ103, f103⟩ : ∃ z, z = mu_sI μ98 831 ((0 : Int32)) := ⟨_, rfl⟩
      rw [← f103] at e103
      subst e103
      have hw := hw _ f103
      refine ⟨mo_ty0 hT, fun σ108 e108 => ?_⟩
      rw [mo_sI] at e108
      obtain ⟨μ108, f108⟩ : ∃ z, z = mu_sI μ103 805 ((0 : Int32)) := ⟨_, rfl⟩
      rw [← f108] at e108
      subst e108
      have hw := hw _ f108
      refine ⟨mo_ty0 hT, fun σ113 e113 => ?_⟩
      rw [mo_sI] at e113
      obtain ⟨μ113, f113⟩ : ∃ z, z = mu_sI μ108 806 ((0 : Int32)) := ⟨_, rfl⟩
      rw [← f113] at e113
      subst e113
      have hw := hw _ f113
      refine ⟨mo_ty0 hT, fun σ118 e118 => ?_⟩
      rw [mo_sI] at e118
      obtain ⟨μ118, f118⟩ : ∃ z, z = mu_sI μ113 807 ((-1 : Int32)) := ⟨_, rfl⟩
      rw [← f118] at e118
      subst e118
      have hw := hw _ f118
      exact hw
    · have hw := hw.2 hc
      refine ⟨mo_ty0 hT, ma 23, mo_R800 hT, ?_⟩
      refine ⟨600, 23, mo_T23 hT, hw.1, ?_⟩
      replace hw := hw.2
      try rw [mo_A σ0 m ma μ 23]
      refine ⟨fun hc => ?_, fun hc => ?_⟩
      · have hw := hw.1 hc
        exact hw
      · have hw := hw.2 hc
        refine ⟨fun hc => ?_, fun hc => ?_⟩
        · have hw := hw.1 hc
          exact hw
        · have hw := hw.2 hc
          refine ⟨mo_ty0 hT, ma 24, mo_R802 hT, ?_⟩
          refine ⟨mo_ty0 hT, ?_⟩
          try rw [mo_I σ0 m ma μ 804]
          refine ⟨602, 24, mo_T24 hT, hw.1, fun σ47 e47 => ?_⟩
          replace hw := hw.2
          rw [mo_A σ0 m ma μ 24, mo_sA] at e47
          obtain ⟨μ47, f47⟩ : ∃ z, z = mu_sA μ 24 (upd (μ.2 24) (μ.1 804).toNatClampNeg ((μ.2 23 v1.toNatClampNeg) &&& ((255 : Int32)))) := ⟨_, rfl⟩
          rw [← f47] at e47
          subst e47
          have hw := hw _ f47
          refine ⟨mo_ty0 hT, ma 25, mo_R803 hT, ?_⟩
          refine ⟨mo_ty0 hT, ?_⟩
          try rw [mo_I σ0 m ma μ47 804]
          refine ⟨602, 25, mo_T25 hT, hw.1, fun σ57 e57 => ?_⟩
          replace hw := hw.2
          rw [mo_A σ0 m ma μ47 25, mo_sA] at e57
          obtain ⟨μ57, f57⟩ : ∃ z, z = mu_sA μ47 25 (upd (μ47.2 25) (μ47.1 804).toNatClampNeg v1) := ⟨_, rfl⟩
          rw [← f57] at e57
          subst e57
          have hw := hw _ f57
          refine ⟨mo_ty0 hT, ?_⟩
          try rw [mo_I σ0 m ma μ57 804]
          refine ⟨mo_ty0 hT, fun σ65 e65 => ?_⟩
          rw [mo_sI] at e65
          obtain ⟨μ65, f65⟩ : ∃ z, z = mu_sI μ57 804 ((μ57.1 804) + ((1 : Int32))) := ⟨_, rfl⟩
          rw [← f65] at e65
          subst e65
          have hw := hw _ f65
          exact hw)
  have hw := hw (by
    intro μ hw
    refine hX121 _  ?_
    refine ⟨mo_ty0 hT, ?_⟩
    try rw [mo_I σ0 m ma μ 806]
    refine ⟨fun hc => ?_, fun hc => ?_⟩
    · have hw := hw.1 hc
      exact hw
    · have hw := hw.2 hc
      refine ⟨mo_ty0 hT, ?_⟩
      try rw [mo_I σ0 m ma μ 805]
      refine ⟨mo_ty0 hT, ?_⟩
      try rw [mo_I σ0 m ma μ 804]
      refine ⟨fun hc => ?_, fun hc => ?_⟩
      · have hw := hw.1 hc
        exact hw
      · have hw := hw.2 hc
        refine ⟨mo_ty0 hT, mq_rule hT μ _ _ (fun μ140 hw => ?_) hw⟩
        exact hw)
  have hw := hw (by
    intro μ hw
    refine hX146 _  ?_
    refine ⟨mo_ty0 hT, ?_⟩
    try rw [mo_I σ0 m ma μ 806]
    refine ⟨fun hc => ?_, fun hc => ?_⟩
    · have hw := hw.1 hc
      exact hw
    · have hw := hw.2 hc
      refine ⟨mo_ty0 hT, mq_reaches hT μ _ _ (fun μ154 hw => ?_) hw⟩
      refine ⟨mo_ty0 hT, mq_layers hT μ154 _ _ (fun r158 μ158 hw => ?_) hw⟩
      refine ⟨fun hc => ?_, fun hc => ?_⟩
      · have hw := hw.1 hc
        exact hw
      · have hw := hw.2 hc
        refine ⟨mo_ty0 hT, ?_⟩
        try rw [mo_I σ0 m ma μ158 804]
        refine ⟨mo_ty0 hT, fun σ169 e169 => ?_⟩
        rw [mo_sI] at e169
        obtain ⟨μ169, f169⟩ : ∃ z, z = mu_sI μ158 805 (μ158.1 804) := ⟨_, rfl⟩
        rw [← f169] at e169
        subst e169
        have hw := hw _ f169
        refine ⟨mo_ty0 hT, mq_wrong hT ((6 : Int32)) μ169 _ _ (fun μ175 hw => ?_) hw⟩
        refine ⟨mo_ty0 hT, mq_findRing hT μ175 _ _ (fun μ179 hw => ?_) hw⟩
        exact hw)
  have hw := hw (by
    intro μ hw
    refine hX182 _  ?_
    refine ⟨mo_ty0 hT, fun σ184 e184 => ?_⟩
    rw [mo_sI] at e184
    obtain ⟨μ184, f184⟩ : ∃ z, z = mu_sI μ 801 ((0 : Int32)) := ⟨_, rfl⟩
    rw [← f184] at e184
    subst e184
    have hw := hw _ f184
    refine ⟨mo_ty0 hT, ?_⟩
    try rw [mo_I σ0 m ma μ184 806]
    refine ⟨fun hc => ?_, fun hc => ?_⟩
    · have hw := hw.1 hc
      refine ⟨mo_ty0 hT, mq_work hT μ184 _ _ (fun r212 μ212 hw => ?_) hw⟩
      refine ⟨fun hc => ?_, fun hc => ?_⟩
      · have hw := hw.1 hc
        refine ⟨mo_ty0 hT, ?_⟩
        try rw [mo_I σ0 m ma μ212 808]
        exact hQ _ _ hw
      · have hw := hw.2 hc
        refine ⟨mo_ty0 hT, fun σ220 e220 => ?_⟩
        rw [mo_sI] at e220
        obtain ⟨μ220, f220⟩ : ∃ z, z = mu_sI μ212 808 ((0 : Int32)) := ⟨_, rfl⟩
        rw [← f220] at e220
        subst e220
        have hw := hw _ f220
        exact hQ _ _ hw
    · have hw := hw.2 hc
      refine ⟨mo_ty0 hT, mq_ringMany hT μ184 _ _ (fun μ195 hw => ?_) hw⟩
      refine ⟨mo_ty0 hT, fun σ200 e200 => ?_⟩
      rw [mo_sI] at e200
      obtain ⟨μ200, f200⟩ : ∃ z, z = mu_sI μ195 808 ((0 : Int32)) := ⟨_, rfl⟩
      rw [← f200] at e200
      subst e200
      have hw := hw _ f200
      refine ⟨mo_ty0 hT, ?_⟩
      try rw [mo_I σ0 m ma μ200 806]
      exact hQ _ _ hw)
  refine ⟨mo_ty0 hT, fun σ2 e2 => ?_⟩
  rw [mo_sI] at e2
  obtain ⟨μ2, f2⟩ : ∃ z, z = mu_sI μ 804 ((0 : Int32)) := ⟨_, rfl⟩
  rw [← f2] at e2
  subst e2
  have hw := hw _ f2
  exact hw
def mp_place (μ : mo_U) (Q : Int32 → mo_U → Prop) : Prop :=     (Q (μ.1 807) μ)
set_option maxHeartbeats 4000000 in
theorem mq_place {σ0 : z_S} {m : Nat} {ma : Nat → Nat} (hT : mo_T σ0 m ma) (μ : mo_U) (Q : Int32 → mo_U → Prop) (Post : Int32 → z_S → Prop) (hQ : (∀ r μ', Q r μ' → Post r (mo_put σ0 m ma μ'))) (hw : mp_place μ Q) : kp_Mo_place m (mo_put σ0 m ma μ) Post := by
  unfold mp_place at hw
  unfold kp_Mo_place
  refine ⟨mo_ty0 hT, ?_⟩
  try rw [mo_I σ0 m ma μ 807]
  exact hQ _ _ hw
def mp_ring (x1 : Int32) (μ : mo_U) (Q : Int32 → mo_U → Prop) : Prop :=     ((¬ (μ.1 806) = ((6 : Int32)) → Q ((-1 : Int32)) μ) ∧ ((μ.1 806) = ((6 : Int32)) → mp_isIn x1 ((0 : Int32)) ((μ.1 849) - ((1 : Int32))) μ (fun (r17 : Int32) (μ17 : mo_U) => (r17 = 0 → Q ((-1 : Int32)) μ17) ∧ (¬ r17 = 0 → vp_in x1 8 ∧ (Q (μ17.2 56 x1.toNatClampNeg) μ17)))))
set_option maxHeartbeats 4000000 in
theorem mq_ring {σ0 : z_S} {m : Nat} {ma : Nat → Nat} (hT : mo_T σ0 m ma) (x1 : Int32) (μ : mo_U) (Q : Int32 → mo_U → Prop) (Post : Int32 → z_S → Prop) (hQ : (∀ r μ', Q r μ' → Post r (mo_put σ0 m ma μ'))) (hw : mp_ring x1 μ Q) : kp_Mo_ring m x1 (mo_put σ0 m ma μ) Post := by
  unfold mp_ring at hw
  unfold kp_Mo_ring
  refine ⟨mo_ty0 hT, ?_⟩
  try rw [mo_I σ0 m ma μ 806]
  refine ⟨fun hc => ?_, fun hc => ?_⟩
  · have hw := hw.1 hc
    exact hQ _ _ hw
  · have hw := hw.2 hc
    refine ⟨mo_ty0 hT, ?_⟩
    try rw [mo_I σ0 m ma μ 849]
    refine mq_isIn hT x1 ((0 : Int32)) ((μ.1 849) - ((1 : Int32))) μ _ _ (fun r17 μ17 hw => ?_) hw
    refine ⟨fun hc => ?_, fun hc => ?_⟩
    · have hw := hw.1 hc
      exact hQ _ _ hw
    · have hw := hw.2 hc
      refine ⟨mo_ty0 hT, ma 56, mo_R848 hT, ?_⟩
      refine ⟨8, 56, mo_T56 hT, hw.1, ?_⟩
      replace hw := hw.2
      try rw [mo_A σ0 m ma μ17 56]
      exact hQ _ _ hw
def mp_relation (x1 : Int32) (μ : mo_U) (Q : Int32 → mo_U → Prop) : Prop := ∀ (X12 : Int32 → mo_U → Prop),
    (∀ (v2 : Int32) (μ : mo_U), (((μ.1 817) ≤ v2 → Q ((-1 : Int32)) μ) ∧ (¬ (μ.1 817) ≤ v2 → vp_in v2 9 ∧ ((¬ (μ.2 34 v2.toNatClampNeg) = x1 → X12 (v2 + (1 : Int32)) μ) ∧ ((μ.2 34 v2.toNatClampNeg) = x1 → Q v2 μ)))) → X12 v2 μ) →
    ((¬ ((μ.1 808)) = 0 → X12 ((0 : Int32)) μ) ∧ (((μ.1 808)) = 0 → Q ((-4 : Int32)) μ))
set_option maxHeartbeats 4000000 in
theorem mq_relation {σ0 : z_S} {m : Nat} {ma : Nat → Nat} (hT : mo_T σ0 m ma) (x1 : Int32) (μ : mo_U) (Q : Int32 → mo_U → Prop) (Post : Int32 → z_S → Prop) (hQ : (∀ r μ', Q r μ' → Post r (mo_put σ0 m ma μ'))) (hw : mp_relation x1 μ Q) : kp_Mo_relation m x1 (mo_put σ0 m ma μ) Post := by
  unfold mp_relation at hw
  unfold kp_Mo_relation
  intro X12 hX12
  have hw := hw (fun (v2 : Int32) (μ : mo_U) => X12 v2 (mo_put σ0 m ma μ))
  have hw := hw (by
    intro v2 μ hw
    refine hX12 _ _  ?_
    refine ⟨mo_ty0 hT, ?_⟩
    try rw [mo_I σ0 m ma μ 817]
    refine ⟨fun hc => ?_, fun hc => ?_⟩
    · have hw := hw.1 hc
      exact hQ _ _ hw
    · have hw := hw.2 hc
      refine ⟨mo_ty0 hT, ma 34, mo_R818 hT, ?_⟩
      refine ⟨9, 34, mo_T34 hT, hw.1, ?_⟩
      replace hw := hw.2
      try rw [mo_A σ0 m ma μ 34]
      refine ⟨fun hc => ?_, fun hc => ?_⟩
      · have hw := hw.1 hc
        exact hw
      · have hw := hw.2 hc
        exact hQ _ _ hw)
  refine ⟨mo_ty0 hT, ?_⟩
  try rw [mo_I σ0 m ma μ 808]
  refine ⟨fun hc => ?_, fun hc => ?_⟩
  · have hw := hw.1 hc
    exact hw
  · have hw := hw.2 hc
    exact hQ _ _ hw
def mp_isRelation (x1 : Int32) (μ : mo_U) (Q : Int32 → mo_U → Prop) : Prop :=     (mp_isIn x1 ((0 : Int32)) ((μ.1 817) - ((1 : Int32))) μ (fun (r8 : Int32) (μ8 : mo_U) => (r8 = 0 ∨ r8 = 1) ∧ Q r8 μ8))
set_option maxHeartbeats 4000000 in
theorem mq_isRelation {σ0 : z_S} {m : Nat} {ma : Nat → Nat} (hT : mo_T σ0 m ma) (x1 : Int32) (μ : mo_U) (Q : Int32 → mo_U → Prop) (Post : Int32 → z_S → Prop) (hQ : (∀ r μ', Q r μ' → Post r (mo_put σ0 m ma μ'))) (hw : mp_isRelation x1 μ Q) : kp_Mo_isRelation m x1 (mo_put σ0 m ma μ) Post := by
  unfold mp_isRelation at hw
  unfold kp_Mo_isRelation
  refine ⟨mo_ty0 hT, ?_⟩
  try rw [mo_I σ0 m ma μ 817]
  refine mq_isIn hT x1 ((0 : Int32)) ((μ.1 817) - ((1 : Int32))) μ _ _ (fun r8 μ8 hw => ?_) hw
  exact ⟨hw.1, hQ _ _ hw.2⟩
def mp_of (x1 : Int32) (x2 : Int32) (μ : mo_U) (Q : Int32 → mo_U → Prop) : Prop :=     ((¬ ((μ.1 808)) = 0 → mp_isRelation x1 μ (fun (r12 : Int32) (μ12 : mo_U) => (r12 = 0 → Q ((-2 : Int32)) μ12) ∧ (¬ r12 = 0 → mp_isIn x2 ((0 : Int32)) ((4 : Int32)) μ12 (fun (r21 : Int32) (μ21 : mo_U) => (¬ r21 = 0 → (x2 = (0 : Int32) → vp_in x1 9 ∧ ((((μ21.2 36 x1.toNatClampNeg)) = 0 → Q ((0 : Int32)) μ21) ∧ (¬ ((μ21.2 36 x1.toNatClampNeg)) = 0 → Q ((1 : Int32)) μ21))) ∧ (¬ x2 = (0 : Int32) → (x2 = (1 : Int32) → vp_in x1 9 ∧ (Q (μ21.2 35 x1.toNatClampNeg) μ21)) ∧ (¬ x2 = (1 : Int32) → (x2 = (2 : Int32) → vp_in x1 9 ∧ (Q (μ21.2 37 x1.toNatClampNeg) μ21)) ∧ (¬ x2 = (2 : Int32) → (x2 = (3 : Int32) → vp_in x1 8 ∧ (Q (μ21.2 42 x1.toNatClampNeg) μ21)) ∧ (¬ x2 = (3 : Int32) → vp_in (((9 : Int32)) * x1) 64 ∧ ((((μ21.2 38 (((9 : Int32)) * x1).toNatClampNeg)) = 0 → Q ((0 : Int32)) μ21) ∧ (¬ ((μ21.2 38 (((9 : Int32)) * x1).toNatClampNeg)) = 0 → Q ((1 : Int32)) μ21))))))) ∧ (r21 = 0 → Q ((-2 : Int32)) μ21))))) ∧ (((μ.1 808)) = 0 → Q ((-4 : Int32)) μ))
set_option maxHeartbeats 4000000 in
theorem mq_of {σ0 : z_S} {m : Nat} {ma : Nat → Nat} (hT : mo_T σ0 m ma) (x1 : Int32) (x2 : Int32) (μ : mo_U) (Q : Int32 → mo_U → Prop) (Post : Int32 → z_S → Prop) (hQ : (∀ r μ', Q r μ' → Post r (mo_put σ0 m ma μ'))) (hw : mp_of x1 x2 μ Q) : kp_Mo_of m x1 x2 (mo_put σ0 m ma μ) Post := by
  unfold mp_of at hw
  unfold kp_Mo_of
  refine ⟨mo_ty0 hT, ?_⟩
  try rw [mo_I σ0 m ma μ 808]
  refine ⟨fun hc => ?_, fun hc => ?_⟩
  · have hw := hw.1 hc
    refine ⟨mo_ty0 hT, mq_isRelation hT x1 μ _ _ (fun r12 μ12 hw => ?_) hw⟩
    refine ⟨fun hc => ?_, fun hc => ?_⟩
    · have hw := hw.1 hc
      exact hQ _ _ hw
    · have hw := hw.2 hc
      refine mq_isIn hT x2 ((0 : Int32)) ((4 : Int32)) μ12 _ _ (fun r21 μ21 hw => ?_) hw
      refine ⟨fun hc => ?_, fun hc => ?_⟩
      · have hw := hw.1 hc
        refine ⟨fun hc => ?_, fun hc => ?_⟩
        · have hw := hw.1 hc
          refine ⟨mo_ty0 hT, ma 36, mo_R820 hT, ?_⟩
          refine ⟨9, 36, mo_T36 hT, hw.1, ?_⟩
          replace hw := hw.2
          try rw [mo_A σ0 m ma μ21 36]
          refine ⟨fun hc => ?_, fun hc => ?_⟩
          · have hw := hw.1 hc
            exact hQ _ _ hw
          · have hw := hw.2 hc
            exact hQ _ _ hw
        · have hw := hw.2 hc
          refine ⟨fun hc => ?_, fun hc => ?_⟩
          · have hw := hw.1 hc
            refine ⟨mo_ty0 hT, ma 35, mo_R819 hT, ?_⟩
            refine ⟨9, 35, mo_T35 hT, hw.1, ?_⟩
            replace hw := hw.2
            try rw [mo_A σ0 m ma μ21 35]
            exact hQ _ _ hw
          · have hw := hw.2 hc
            refine ⟨fun hc => ?_, fun hc => ?_⟩
            · have hw := hw.1 hc
              refine ⟨mo_ty0 hT, ma 37, mo_R821 hT, ?_⟩
              refine ⟨9, 37, mo_T37 hT, hw.1, ?_⟩
              replace hw := hw.2
              try rw [mo_A σ0 m ma μ21 37]
              exact hQ _ _ hw
            · have hw := hw.2 hc
              refine ⟨fun hc => ?_, fun hc => ?_⟩
              · have hw := hw.1 hc
                refine ⟨mo_ty0 hT, ma 42, mo_R826 hT, ?_⟩
                refine ⟨8, 42, mo_T42 hT, hw.1, ?_⟩
                replace hw := hw.2
                try rw [mo_A σ0 m ma μ21 42]
                exact hQ _ _ hw
              · have hw := hw.2 hc
                refine ⟨mo_ty0 hT, ma 38, mo_R822 hT, ?_⟩
                refine ⟨64, 38, mo_T38 hT, hw.1, ?_⟩
                replace hw := hw.2
                try rw [mo_A σ0 m ma μ21 38]
                refine ⟨fun hc => ?_, fun hc => ?_⟩
                · have hw := hw.1 hc
                  exact hQ _ _ hw
                · have hw := hw.2 hc
                  exact hQ _ _ hw
      · have hw := hw.2 hc
        exact hQ _ _ hw
  · have hw := hw.2 hc
    exact hQ _ _ hw
def mp_given (x1 : Int32) (x2 : Int32) (x3 : Int32) (μ : mo_U) (Q : Int32 → mo_U → Prop) : Prop :=     (vp_in x1 9 ∧ (((μ.2 35 x1.toNatClampNeg) ≤ x2 → Q ((0 : Int32)) μ) ∧ (¬ (μ.2 35 x1.toNatClampNeg) ≤ x2 → Q x3 μ)))
set_option maxHeartbeats 4000000 in
theorem mq_given {σ0 : z_S} {m : Nat} {ma : Nat → Nat} (hT : mo_T σ0 m ma) (x1 : Int32) (x2 : Int32) (x3 : Int32) (μ : mo_U) (Q : Int32 → mo_U → Prop) (Post : Int32 → z_S → Prop) (hQ : (∀ r μ', Q r μ' → Post r (mo_put σ0 m ma μ'))) (hw : mp_given x1 x2 x3 μ Q) : kp_Mo_given m x1 x2 x3 (mo_put σ0 m ma μ) Post := by
  unfold mp_given at hw
  unfold kp_Mo_given
  refine ⟨mo_ty0 hT, ma 35, mo_R819 hT, ?_⟩
  refine ⟨9, 35, mo_T35 hT, hw.1, ?_⟩
  replace hw := hw.2
  try rw [mo_A σ0 m ma μ 35]
  refine ⟨fun hc => ?_, fun hc => ?_⟩
  · have hw := hw.1 hc
    exact hQ _ _ hw
  · have hw := hw.2 hc
    exact hQ _ _ hw
def mp_areValues (x1 : Int32) (x2 : Int32) (x3 : Int32) (x4 : Int32) (μ : mo_U) (Q : Int32 → mo_U → Prop) : Prop :=     (mp_given x1 ((0 : Int32)) x2 μ (fun (r4 : Int32) (μ4 : mo_U) => mp_isIn r4 ((0 : Int32)) ((999 : Int32)) μ4 (fun (r11 : Int32) (μ11 : mo_U) => (r11 = 0 → Q ((0 : Int32)) μ11) ∧ (¬ r11 = 0 → mp_given x1 ((1 : Int32)) x3 μ11 (fun (r21 : Int32) (μ21 : mo_U) => mp_isIn r21 ((0 : Int32)) ((999 : Int32)) μ21 (fun (r28 : Int32) (μ28 : mo_U) => (r28 = 0 → Q ((0 : Int32)) μ28) ∧ (¬ r28 = 0 → mp_given x1 ((2 : Int32)) x4 μ28 (fun (r39 : Int32) (μ39 : mo_U) => mp_isIn r39 ((0 : Int32)) ((999 : Int32)) μ39 (fun (r46 : Int32) (μ46 : mo_U) => (r46 = 0 → Q ((0 : Int32)) μ46) ∧ (¬ r46 = 0 → Q ((1 : Int32)) μ46))))))))))
set_option maxHeartbeats 4000000 in
theorem mq_areValues {σ0 : z_S} {m : Nat} {ma : Nat → Nat} (hT : mo_T σ0 m ma) (x1 : Int32) (x2 : Int32) (x3 : Int32) (x4 : Int32) (μ : mo_U) (Q : Int32 → mo_U → Prop) (Post : Int32 → z_S → Prop) (hQ : (∀ r μ', Q r μ' → Post r (mo_put σ0 m ma μ'))) (hw : mp_areValues x1 x2 x3 x4 μ Q) : kp_Mo_areValues m x1 x2 x3 x4 (mo_put σ0 m ma μ) Post := by
  unfold mp_areValues at hw
  unfold kp_Mo_areValues
  refine ⟨mo_ty0 hT, mq_given hT x1 ((0 : Int32)) x2 μ _ _ (fun r4 μ4 hw => ?_) hw⟩
  refine mq_isIn hT r4 ((0 : Int32)) ((999 : Int32)) μ4 _ _ (fun r11 μ11 hw => ?_) hw
  refine ⟨fun hc => ?_, fun hc => ?_⟩
  · have hw := hw.1 hc
    exact hQ _ _ hw
  · have hw := hw.2 hc
    refine ⟨mo_ty0 hT, mq_given hT x1 ((1 : Int32)) x3 μ11 _ _ (fun r21 μ21 hw => ?_) hw⟩
    refine mq_isIn hT r21 ((0 : Int32)) ((999 : Int32)) μ21 _ _ (fun r28 μ28 hw => ?_) hw
    refine ⟨fun hc => ?_, fun hc => ?_⟩
    · have hw := hw.1 hc
      exact hQ _ _ hw
    · have hw := hw.2 hc
      refine ⟨mo_ty0 hT, mq_given hT x1 ((2 : Int32)) x4 μ28 _ _ (fun r39 μ39 hw => ?_) hw⟩
      refine mq_isIn hT r39 ((0 : Int32)) ((999 : Int32)) μ39 _ _ (fun r46 μ46 hw => ?_) hw
      refine ⟨fun hc => ?_, fun hc => ?_⟩
      · have hw := hw.1 hc
        exact hQ _ _ hw
      · have hw := hw.2 hc
        exact hQ _ _ hw
def mp_change (x1 : Int32) (x2 : Int32) (x3 : Int32) (x4 : Int32) (x5 : Int32) (μ : mo_U) (Q : Int32 → mo_U → Prop) : Prop := ∀ (X39 : mo_U → Prop),
    (∀ (μ : mo_U), (mp_areValues x1 x2 x3 x4 μ (fun (r45 : Int32) (μ45 : mo_U) => (¬ r45 = 0 → (¬ (μ45.1 831) = ((60 : Int32)) → vp_in (((5 : Int32)) * (μ45.1 831)) 300 ∧ ∀ μ81, μ81 = mu_sA μ45 46 (upd (μ45.2 46) (((5 : Int32)) * (μ45.1 831)).toNatClampNeg x1) → vp_in ((((5 : Int32)) * (μ45.1 831)) + ((1 : Int32))) 300 ∧ ∀ μ91, μ91 = mu_sA μ81 46 (upd (μ81.2 46) ((((5 : Int32)) * (μ45.1 831)) + ((1 : Int32))).toNatClampNeg x2) → mp_given x1 ((1 : Int32)) x3 μ91 (fun (r104 : Int32) (μ104 : mo_U) => vp_in ((((5 : Int32)) * (μ45.1 831)) + ((2 : Int32))) 300 ∧ ∀ μ107, μ107 = mu_sA μ104 46 (upd (μ104.2 46) ((((5 : Int32)) * (μ45.1 831)) + ((2 : Int32))).toNatClampNeg r104) → mp_given x1 ((2 : Int32)) x4 μ107 (fun (r121 : Int32) (μ121 : mo_U) => vp_in ((((5 : Int32)) * (μ45.1 831)) + ((3 : Int32))) 300 ∧ ∀ μ124, μ124 = mu_sA μ121 46 (upd (μ121.2 46) ((((5 : Int32)) * (μ45.1 831)) + ((3 : Int32))).toNatClampNeg r121) → vp_in ((((5 : Int32)) * (μ45.1 831)) + ((4 : Int32))) 300 ∧ ∀ μ135, μ135 = mu_sA μ124 46 (upd (μ124.2 46) ((((5 : Int32)) * (μ45.1 831)) + ((4 : Int32))).toNatClampNeg x5) → ∀ μ143, μ143 = mu_sI μ135 831 ((μ135.1 831) + ((1 : Int32))) → Q (μ143.1 831) μ143))) ∧ ((μ45.1 831) = ((60 : Int32)) → Q ((-3 : Int32)) μ45)) ∧ (r45 = 0 → Q ((-2 : Int32)) μ45))) → X39 μ) →
    ((¬ ((μ.1 808)) = 0 → mp_isRelation x1 μ (fun (r12 : Int32) (μ12 : mo_U) => (r12 = 0 → Q ((-2 : Int32)) μ12) ∧ (¬ r12 = 0 → vp_in x1 9 ∧ ((¬ ((μ12.2 36 x1.toNatClampNeg)) = 0 → Q ((-2 : Int32)) μ12) ∧ (((μ12.2 36 x1.toNatClampNeg)) = 0 → (x5 = ((1 : Int32)) → X39 μ12) ∧ (¬ x5 = ((1 : Int32)) → (¬ x5 = ((-1 : Int32)) → Q ((-2 : Int32)) μ12) ∧ (x5 = ((-1 : Int32)) → X39 μ12))))))) ∧ (((μ.1 808)) = 0 → Q ((-4 : Int32)) μ))
set_option maxHeartbeats 4000000 in
theorem mq_change {σ0 : z_S} {m : Nat} {ma : Nat → Nat} (hT : mo_T σ0 m ma) (x1 : Int32) (x2 : Int32) (x3 : Int32) (x4 : Int32) (x5 : Int32) (μ : mo_U) (Q : Int32 → mo_U → Prop) (Post : Int32 → z_S → Prop) (hQ : (∀ r μ', Q r μ' → Post r (mo_put σ0 m ma μ'))) (hw : mp_change x1 x2 x3 x4 x5 μ Q) : kp_Mo_change m x1 x2 x3 x4 x5 (mo_put σ0 m ma μ) Post := by
  unfold mp_change at hw
  unfold kp_Mo_change
  intro X39 hX39
  have hw := hw (fun (μ : mo_U) => X39 (mo_put σ0 m ma μ))
  have hw := hw (by
    intro μ hw
    refine hX39 _  ?_
    refine ⟨mo_ty0 hT, mq_areValues hT x1 x2 x3 x4 μ _ _ (fun r45 μ45 hw => ?_) hw⟩
    refine ⟨fun hc => ?_, fun hc => ?_⟩
    · have hw := hw.1 hc
      refine ⟨mo_ty0 hT, ?_⟩
      try rw [mo_I σ0 m ma μ45 831]
      refine ⟨fun hc => ?_, fun hc => ?_⟩
      · have hw := hw.1 hc
        refine ⟨mo_ty0 hT, ?_⟩
        try rw [mo_I σ0 m ma μ45 831]
        refine ⟨mo_ty0 hT, ma 46, mo_R830 hT, ?_⟩
        refine ⟨300, 46, mo_T46 hT, hw.1, fun σ81 e81 => ?_⟩
        replace hw := hw.2
        rw [mo_A σ0 m ma μ45 46, mo_sA] at e81
        obtain ⟨μ81, f81⟩ : ∃ z, z = mu_sA μ45 46 (upd (μ45.2 46) (((5 : Int32)) * (μ45.1 831)).toNatClampNeg x1) := ⟨_, rfl⟩
        rw [← f81] at e81
        subst e81
        have hw := hw _ f81
        refine ⟨mo_ty0 hT, ma 46, mo_R830 hT, ?_⟩
        refine ⟨300, 46, mo_T46 hT, hw.1, fun σ91 e91 => ?_⟩
        replace hw := hw.2
        rw [mo_A σ0 m ma μ81 46, mo_sA] at e91
        obtain ⟨μ91, f91⟩ : ∃ z, z = mu_sA μ81 46 (upd (μ81.2 46) ((((5 : Int32)) * (μ45.1 831)) + ((1 : Int32))).toNatClampNeg x2) := ⟨_, rfl⟩
        rw [← f91] at e91
        subst e91
        have hw := hw _ f91
        refine ⟨mo_ty0 hT, ma 46, mo_R830 hT, ?_⟩
        refine ⟨mo_ty0 hT, mq_given hT x1 ((1 : Int32)) x3 μ91 _ _ (fun r104 μ104 hw => ?_) hw⟩
        refine ⟨300, 46, mo_T46 hT, hw.1, fun σ107 e107 => ?_⟩
        replace hw := hw.2
        rw [mo_A σ0 m ma μ104 46, mo_sA] at e107
        obtain ⟨μ107, f107⟩ : ∃ z, z = mu_sA μ104 46 (upd (μ104.2 46) ((((5 : Int32)) * (μ45.1 831)) + ((2 : Int32))).toNatClampNeg r104) := ⟨_, rfl⟩
        rw [← f107] at e107
        subst e107
        have hw := hw _ f107
        refine ⟨mo_ty0 hT, ma 46, mo_R830 hT, ?_⟩
        refine ⟨mo_ty0 hT, mq_given hT x1 ((2 : Int32)) x4 μ107 _ _ (fun r121 μ121 hw => ?_) hw⟩
        refine ⟨300, 46, mo_T46 hT, hw.1, fun σ124 e124 => ?_⟩
        replace hw := hw.2
        rw [mo_A σ0 m ma μ121 46, mo_sA] at e124
        obtain ⟨μ124, f124⟩ : ∃ z, z = mu_sA μ121 46 (upd (μ121.2 46) ((((5 : Int32)) * (μ45.1 831)) + ((3 : Int32))).toNatClampNeg r121) := ⟨_, rfl⟩
        rw [← f124] at e124
        subst e124
        have hw := hw _ f124
        refine ⟨mo_ty0 hT, ma 46, mo_R830 hT, ?_⟩
        refine ⟨300, 46, mo_T46 hT, hw.1, fun σ135 e135 => ?_⟩
        replace hw := hw.2
        rw [mo_A σ0 m ma μ124 46, mo_sA] at e135
        obtain ⟨μ135, f135⟩ : ∃ z, z = mu_sA μ124 46 (upd (μ124.2 46) ((((5 : Int32)) * (μ45.1 831)) + ((4 : Int32))).toNatClampNeg x5) := ⟨_, rfl⟩
        rw [← f135] at e135
        subst e135
        have hw := hw _ f135
        refine ⟨mo_ty0 hT, ?_⟩
        try rw [mo_I σ0 m ma μ135 831]
        refine ⟨mo_ty0 hT, fun σ143 e143 => ?_⟩
        rw [mo_sI] at e143
        obtain ⟨μ143, f143⟩ : ∃ z, z = mu_sI μ135 831 ((μ135.1 831) + ((1 : Int32))) := ⟨_, rfl⟩
        rw [← f143] at e143
        subst e143
        have hw := hw _ f143
        refine ⟨mo_ty0 hT, ?_⟩
        try rw [mo_I σ0 m ma μ143 831]
        exact hQ _ _ hw
      · have hw := hw.2 hc
        exact hQ _ _ hw
    · have hw := hw.2 hc
      exact hQ _ _ hw)
  refine ⟨mo_ty0 hT, ?_⟩
  try rw [mo_I σ0 m ma μ 808]
  refine ⟨fun hc => ?_, fun hc => ?_⟩
  · have hw := hw.1 hc
    refine ⟨mo_ty0 hT, mq_isRelation hT x1 μ _ _ (fun r12 μ12 hw => ?_) hw⟩
    refine ⟨fun hc => ?_, fun hc => ?_⟩
    · have hw := hw.1 hc
      exact hQ _ _ hw
    · have hw := hw.2 hc
      refine ⟨mo_ty0 hT, ma 36, mo_R820 hT, ?_⟩
      refine ⟨9, 36, mo_T36 hT, hw.1, ?_⟩
      replace hw := hw.2
      try rw [mo_A σ0 m ma μ12 36]
      refine ⟨fun hc => ?_, fun hc => ?_⟩
      · have hw := hw.1 hc
        exact hQ _ _ hw
      · have hw := hw.2 hc
        refine ⟨fun hc => ?_, fun hc => ?_⟩
        · have hw := hw.1 hc
          exact hw
        · have hw := hw.2 hc
          refine ⟨fun hc => ?_, fun hc => ?_⟩
          · have hw := hw.1 hc
            exact hQ _ _ hw
          · have hw := hw.2 hc
            exact hw
  · have hw := hw.2 hc
    exact hQ _ _ hw
def mp_batch (μ : mo_U) (Q : Int32 → mo_U → Prop) : Prop := ∀ (X53 : Int32 → Int32 → mo_U → Prop) (X84 : Int32 → Int32 → mo_U → Prop) (X116 : Int32 → Int32 → mo_U → Prop),
    (∀ (v1 : Int32) (v3 : Int32) (μ : mo_U), ((((1500 : Int32)) ≤ v3 → X84 v1 ((0 : Int32)) μ) ∧ (¬ ((1500 : Int32)) ≤ v3 → vp_in (v3 + ((300 : Int32))) 1800 ∧ (vp_in v3 1800 ∧ ∀ μ75, μ75 = mu_sA μ 47 (upd (μ.2 47) v3.toNatClampNeg (μ.2 47 (v3 + ((300 : Int32))).toNatClampNeg)) → X53 v1 (v3 + (1 : Int32)) μ75))) → X53 v1 v3 μ) →
    (∀ (v1 : Int32) (v3 : Int32) (μ : mo_U), ((((5 : Int32)) ≤ v3 → ∀ μ111, μ111 = mu_sI μ 834 ((5 : Int32)) → X116 v1 ((0 : Int32)) μ111) ∧ (¬ ((5 : Int32)) ≤ v3 → vp_in (v3 + ((1 : Int32))) 6 ∧ (vp_in v3 6 ∧ ∀ μ102, μ102 = mu_sA μ 48 (upd (μ.2 48) v3.toNatClampNeg (μ.2 48 (v3 + ((1 : Int32))).toNatClampNeg)) → X84 v1 (v3 + (1 : Int32)) μ102))) → X84 v1 v3 μ) →
    (∀ (v1 : Int32) (v3 : Int32) (μ : mo_U), (((((5 : Int32)) * v1) ≤ v3 → vp_in (μ.1 834) 6 ∧ ∀ μ159, μ159 = mu_sA μ 48 (upd (μ.2 48) (μ.1 834).toNatClampNeg v1) → ∀ μ167, μ167 = mu_sI μ159 834 ((μ159.1 834) + ((1 : Int32))) → Q (μ167.1 836) μ167) ∧ (¬ (((5 : Int32)) * v1) ≤ v3 → vp_in v3 300 ∧ (vp_in ((((300 : Int32)) * (μ.1 834)) + v3) 1800 ∧ ∀ μ143, μ143 = mu_sA μ 47 (upd (μ.2 47) ((((300 : Int32)) * (μ.1 834)) + v3).toNatClampNeg (μ.2 46 v3.toNatClampNeg)) → X116 v1 (v3 + (1 : Int32)) μ143))) → X116 v1 v3 μ) →
    ((¬ ((μ.1 808)) = 0 → ∀ μ17, μ17 = mu_sI μ 831 ((0 : Int32)) → mp_sum 46 ((0 : Int32)) (μ.1 831) ((1 : Int32)) μ17 (fun (μ28 : mo_U) => mp_apply μ28 (fun (r32 : Int32) (μ32 : mo_U) => (r32 = 0 → (¬ (μ32.1 834) = ((6 : Int32)) → X116 (μ.1 831) ((0 : Int32)) μ32) ∧ ((μ32.1 834) = ((6 : Int32)) → X53 (μ.1 831) ((0 : Int32)) μ32)) ∧ (¬ r32 = 0 → Q r32 μ32)))) ∧ (((μ.1 808)) = 0 → Q ((-4 : Int32)) μ))
set_option maxHeartbeats 4000000 in
theorem mq_batch {σ0 : z_S} {m : Nat} {ma : Nat → Nat} (hT : mo_T σ0 m ma) (μ : mo_U) (Q : Int32 → mo_U → Prop) (Post : Int32 → z_S → Prop) (hQ : (∀ r μ', Q r μ' → Post r (mo_put σ0 m ma μ'))) (hw : mp_batch μ Q) : kp_Mo_batch m (mo_put σ0 m ma μ) Post := by
  unfold mp_batch at hw
  unfold kp_Mo_batch
  intro X53 X84 X116 hX53 hX84 hX116
  have hw := hw (fun (v1 : Int32) (v3 : Int32) (μ : mo_U) => X53 v1 v3 (mo_put σ0 m ma μ))
  have hw := hw (fun (v1 : Int32) (v3 : Int32) (μ : mo_U) => X84 v1 v3 (mo_put σ0 m ma μ))
  have hw := hw (fun (v1 : Int32) (v3 : Int32) (μ : mo_U) => X116 v1 v3 (mo_put σ0 m ma μ))
  have hw := hw (by
    intro v1 v3 μ hw
    refine hX53 _ _ _  ?_
    refine ⟨fun hc => ?_, fun hc => ?_⟩
    · have hw := hw.1 hc
      exact hw
    · have hw := hw.2 hc
      refine ⟨mo_ty0 hT, ma 47, mo_R832 hT, ?_⟩
      refine ⟨mo_ty0 hT, ma 47, mo_R832 hT, ?_⟩
      refine ⟨1800, 47, mo_T47 hT, hw.1, ?_⟩
      replace hw := hw.2
      try rw [mo_A σ0 m ma μ 47]
      refine ⟨1800, 47, mo_T47 hT, hw.1, fun σ75 e75 => ?_⟩
      replace hw := hw.2
      rw [mo_A σ0 m ma μ 47, mo_sA] at e75
      obtain ⟨μ75, f75⟩ : ∃ z, z = mu_sA μ 47 (upd (μ.2 47) v3.toNatClampNeg (μ.2 47 (v3 + ((300 : Int32))).toNatClampNeg)) := ⟨_, rfl⟩
      rw [← f75] at e75
      subst e75
      have hw := hw _ f75
      exact hw)
  have hw := hw (by
    intro v1 v3 μ hw
    refine hX84 _ _ _  ?_
    refine ⟨fun hc => ?_, fun hc => ?_⟩
    · have hw := hw.1 hc
      refine ⟨mo_ty0 hT, fun σ111 e111 => ?_⟩
      rw [mo_sI] at e111
      obtain ⟨μ111, f111⟩ : ∃ z, z = mu_sI μ 834 ((5 : Int32)) := ⟨_, rfl⟩
      rw [← f111] at e111
      subst e111
      have hw := hw _ f111
      exact hw
    · have hw := hw.2 hc
      refine ⟨mo_ty0 hT, ma 48, mo_R833 hT, ?_⟩
      refine ⟨mo_ty0 hT, ma 48, mo_R833 hT, ?_⟩
      refine ⟨6, 48, mo_T48 hT, hw.1, ?_⟩
      replace hw := hw.2
      try rw [mo_A σ0 m ma μ 48]
      refine ⟨6, 48, mo_T48 hT, hw.1, fun σ102 e102 => ?_⟩
      replace hw := hw.2
      rw [mo_A σ0 m ma μ 48, mo_sA] at e102
      obtain ⟨μ102, f102⟩ : ∃ z, z = mu_sA μ 48 (upd (μ.2 48) v3.toNatClampNeg (μ.2 48 (v3 + ((1 : Int32))).toNatClampNeg)) := ⟨_, rfl⟩
      rw [← f102] at e102
      subst e102
      have hw := hw _ f102
      exact hw)
  have hw := hw (by
    intro v1 v3 μ hw
    refine hX116 _ _ _  ?_
    refine ⟨fun hc => ?_, fun hc => ?_⟩
    · have hw := hw.1 hc
      refine ⟨mo_ty0 hT, ma 48, mo_R833 hT, ?_⟩
      refine ⟨mo_ty0 hT, ?_⟩
      try rw [mo_I σ0 m ma μ 834]
      refine ⟨6, 48, mo_T48 hT, hw.1, fun σ159 e159 => ?_⟩
      replace hw := hw.2
      rw [mo_A σ0 m ma μ 48, mo_sA] at e159
      obtain ⟨μ159, f159⟩ : ∃ z, z = mu_sA μ 48 (upd (μ.2 48) (μ.1 834).toNatClampNeg v1) := ⟨_, rfl⟩
      rw [← f159] at e159
      subst e159
      have hw := hw _ f159
      refine ⟨mo_ty0 hT, ?_⟩
      try rw [mo_I σ0 m ma μ159 834]
      refine ⟨mo_ty0 hT, fun σ167 e167 => ?_⟩
      rw [mo_sI] at e167
      obtain ⟨μ167, f167⟩ : ∃ z, z = mu_sI μ159 834 ((μ159.1 834) + ((1 : Int32))) := ⟨_, rfl⟩
      rw [← f167] at e167
      subst e167
      have hw := hw _ f167
      refine ⟨mo_ty0 hT, ?_⟩
      try rw [mo_I σ0 m ma μ167 836]
      exact hQ _ _ hw
    · have hw := hw.2 hc
      refine ⟨mo_ty0 hT, ma 47, mo_R832 hT, ?_⟩
      refine ⟨mo_ty0 hT, ?_⟩
      try rw [mo_I σ0 m ma μ 834]
      refine ⟨mo_ty0 hT, ma 46, mo_R830 hT, ?_⟩
      refine ⟨300, 46, mo_T46 hT, hw.1, ?_⟩
      replace hw := hw.2
      try rw [mo_A σ0 m ma μ 46]
      refine ⟨1800, 47, mo_T47 hT, hw.1, fun σ143 e143 => ?_⟩
      replace hw := hw.2
      rw [mo_A σ0 m ma μ 47, mo_sA] at e143
      obtain ⟨μ143, f143⟩ : ∃ z, z = mu_sA μ 47 (upd (μ.2 47) ((((300 : Int32)) * (μ.1 834)) + v3).toNatClampNeg (μ.2 46 v3.toNatClampNeg)) := ⟨_, rfl⟩
      rw [← f143] at e143
      subst e143
      have hw := hw _ f143
      exact hw)
  refine ⟨mo_ty0 hT, ?_⟩
  try rw [mo_I σ0 m ma μ 808]
  refine ⟨fun hc => ?_, fun hc => ?_⟩
  · have hw := hw.1 hc
    refine ⟨mo_ty0 hT, ?_⟩
    try rw [mo_I σ0 m ma μ 831]
    refine ⟨mo_ty0 hT, fun σ17 e17 => ?_⟩
    rw [mo_sI] at e17
    obtain ⟨μ17, f17⟩ : ∃ z, z = mu_sI μ 831 ((0 : Int32)) := ⟨_, rfl⟩
    rw [← f17] at e17
    subst e17
    have hw := hw _ f17
    refine ⟨mo_ty0 hT, ma 46, mo_R830 hT, ?_⟩
    refine ⟨mo_ty0 hT, mq_sum hT 46 ((0 : Int32)) (μ.1 831) ((1 : Int32)) μ17 _ _ (fun μ28 hw => ?_) hw⟩
    refine ⟨mo_ty0 hT, mq_apply hT μ28 _ _ (fun r32 μ32 hw => ?_) hw⟩
    refine ⟨fun hc => ?_, fun hc => ?_⟩
    · have hw := hw.1 hc
      refine ⟨mo_ty0 hT, ?_⟩
      try rw [mo_I σ0 m ma μ32 834]
      refine ⟨fun hc => ?_, fun hc => ?_⟩
      · have hw := hw.1 hc
        exact hw
      · have hw := hw.2 hc
        exact hw
    · have hw := hw.2 hc
      exact hQ _ _ hw
  · have hw := hw.2 hc
    exact hQ _ _ hw
def mp_drop (μ : mo_U) (Q : Int32 → mo_U → Prop) : Prop :=     ((¬ ((μ.1 808)) = 0 → ∀ μ17, μ17 = mu_sI μ 831 ((0 : Int32)) → Q (μ.1 831) μ17) ∧ (((μ.1 808)) = 0 → Q ((-4 : Int32)) μ))
set_option maxHeartbeats 4000000 in
theorem mq_drop {σ0 : z_S} {m : Nat} {ma : Nat → Nat} (hT : mo_T σ0 m ma) (μ : mo_U) (Q : Int32 → mo_U → Prop) (Post : Int32 → z_S → Prop) (hQ : (∀ r μ', Q r μ' → Post r (mo_put σ0 m ma μ'))) (hw : mp_drop μ Q) : kp_Mo_drop m (mo_put σ0 m ma μ) Post := by
  unfold mp_drop at hw
  unfold kp_Mo_drop
  refine ⟨mo_ty0 hT, ?_⟩
  try rw [mo_I σ0 m ma μ 808]
  refine ⟨fun hc => ?_, fun hc => ?_⟩
  · have hw := hw.1 hc
    refine ⟨mo_ty0 hT, ?_⟩
    try rw [mo_I σ0 m ma μ 831]
    refine ⟨mo_ty0 hT, fun σ17 e17 => ?_⟩
    rw [mo_sI] at e17
    obtain ⟨μ17, f17⟩ : ∃ z, z = mu_sI μ 831 ((0 : Int32)) := ⟨_, rfl⟩
    rw [← f17] at e17
    subst e17
    have hw := hw _ f17
    exact hQ _ _ hw
  · have hw := hw.2 hc
    exact hQ _ _ hw
def mp_difference (x1 : Int32) (x2 : Int32) (μ : mo_U) (Q : Int32 → mo_U → Prop) : Prop :=     ((¬ ((μ.1 808)) = 0 → mp_isIn x2 ((0 : Int32)) ((4 : Int32)) μ (fun (r13 : Int32) (μ13 : mo_U) => (¬ r13 = 0 → mp_isIn x1 ((0 : Int32)) ((μ13.1 836) - ((1 : Int32))) μ13 (fun (r30 : Int32) (μ30 : mo_U) => (r30 = 0 → Q ((-1 : Int32)) μ30) ∧ (¬ r30 = 0 → vp_in ((((5 : Int32)) * x1) + x2) 3300 ∧ (Q (μ30.2 49 ((((5 : Int32)) * x1) + x2).toNatClampNeg) μ30)))) ∧ (r13 = 0 → Q ((-2 : Int32)) μ13))) ∧ (((μ.1 808)) = 0 → Q ((-4 : Int32)) μ))
set_option maxHeartbeats 4000000 in
theorem mq_difference {σ0 : z_S} {m : Nat} {ma : Nat → Nat} (hT : mo_T σ0 m ma) (x1 : Int32) (x2 : Int32) (μ : mo_U) (Q : Int32 → mo_U → Prop) (Post : Int32 → z_S → Prop) (hQ : (∀ r μ', Q r μ' → Post r (mo_put σ0 m ma μ'))) (hw : mp_difference x1 x2 μ Q) : kp_Mo_difference m x1 x2 (mo_put σ0 m ma μ) Post := by
  unfold mp_difference at hw
  unfold kp_Mo_difference
  refine ⟨mo_ty0 hT, ?_⟩
  try rw [mo_I σ0 m ma μ 808]
  refine ⟨fun hc => ?_, fun hc => ?_⟩
  · have hw := hw.1 hc
    refine mq_isIn hT x2 ((0 : Int32)) ((4 : Int32)) μ _ _ (fun r13 μ13 hw => ?_) hw
    refine ⟨fun hc => ?_, fun hc => ?_⟩
    · have hw := hw.1 hc
      refine ⟨mo_ty0 hT, ?_⟩
      try rw [mo_I σ0 m ma μ13 836]
      refine mq_isIn hT x1 ((0 : Int32)) ((μ13.1 836) - ((1 : Int32))) μ13 _ _ (fun r30 μ30 hw => ?_) hw
      refine ⟨fun hc => ?_, fun hc => ?_⟩
      · have hw := hw.1 hc
        exact hQ _ _ hw
      · have hw := hw.2 hc
        refine ⟨mo_ty0 hT, ma 49, mo_R835 hT, ?_⟩
        refine ⟨3300, 49, mo_T49 hT, hw.1, ?_⟩
        replace hw := hw.2
        try rw [mo_A σ0 m ma μ30 49]
        exact hQ _ _ hw
    · have hw := hw.2 hc
      exact hQ _ _ hw
  · have hw := hw.2 hc
    exact hQ _ _ hw
def mp_undo (μ : mo_U) (Q : Int32 → mo_U → Prop) : Prop :=     ((¬ ((μ.1 808)) = 0 → (¬ ((μ.1 834)) = 0 → ∀ μ26, μ26 = mu_sI μ 834 ((μ.1 834) - ((1 : Int32))) → vp_in (μ26.1 834) 6 ∧ (mp_sum 47 (((300 : Int32)) * (μ26.1 834)) (μ26.2 48 (μ26.1 834).toNatClampNeg) ((-1 : Int32)) μ26 (fun (μ52 : mo_U) => mp_apply μ52 (fun (r56 : Int32) (μ56 : mo_U) => Q (μ56.1 836) μ56)))) ∧ (((μ.1 834)) = 0 → Q ((-1 : Int32)) μ)) ∧ (((μ.1 808)) = 0 → Q ((-4 : Int32)) μ))
set_option maxHeartbeats 4000000 in
theorem mq_undo {σ0 : z_S} {m : Nat} {ma : Nat → Nat} (hT : mo_T σ0 m ma) (μ : mo_U) (Q : Int32 → mo_U → Prop) (Post : Int32 → z_S → Prop) (hQ : (∀ r μ', Q r μ' → Post r (mo_put σ0 m ma μ'))) (hw : mp_undo μ Q) : kp_Mo_undo m (mo_put σ0 m ma μ) Post := by
  unfold mp_undo at hw
  unfold kp_Mo_undo
  refine ⟨mo_ty0 hT, ?_⟩
  try rw [mo_I σ0 m ma μ 808]
  refine ⟨fun hc => ?_, fun hc => ?_⟩
  · have hw := hw.1 hc
    refine ⟨mo_ty0 hT, ?_⟩
    try rw [mo_I σ0 m ma μ 834]
    refine ⟨fun hc => ?_, fun hc => ?_⟩
    · have hw := hw.1 hc
      refine ⟨mo_ty0 hT, ?_⟩
      try rw [mo_I σ0 m ma μ 834]
      refine ⟨mo_ty0 hT, fun σ26 e26 => ?_⟩
      rw [mo_sI] at e26
      obtain ⟨μ26, f26⟩ : ∃ z, z = mu_sI μ 834 ((μ.1 834) - ((1 : Int32))) := ⟨_, rfl⟩
      rw [← f26] at e26
      subst e26
      have hw := hw _ f26
      refine ⟨mo_ty0 hT, ma 47, mo_R832 hT, ?_⟩
      refine ⟨mo_ty0 hT, ?_⟩
      try rw [mo_I σ0 m ma μ26 834]
      refine ⟨mo_ty0 hT, ma 48, mo_R833 hT, ?_⟩
      refine ⟨mo_ty0 hT, ?_⟩
      try rw [mo_I σ0 m ma μ26 834]
      refine ⟨6, 48, mo_T48 hT, hw.1, ?_⟩
      replace hw := hw.2
      try rw [mo_A σ0 m ma μ26 48]
      refine ⟨mo_ty0 hT, mq_sum hT 47 (((300 : Int32)) * (μ26.1 834)) (μ26.2 48 (μ26.1 834).toNatClampNeg) ((-1 : Int32)) μ26 _ _ (fun μ52 hw => ?_) hw⟩
      refine ⟨mo_ty0 hT, mq_apply hT μ52 _ _ (fun r56 μ56 hw => ?_) hw⟩
      refine ⟨mo_ty0 hT, ?_⟩
      try rw [mo_I σ0 m ma μ56 836]
      exact hQ _ _ hw
    · have hw := hw.2 hc
      exact hQ _ _ hw
  · have hw := hw.2 hc
    exact hQ _ _ hw
def mp_has (x1 : Int32) (x2 : Int32) (x3 : Int32) (x4 : Int32) (μ : mo_U) (Q : Int32 → mo_U → Prop) : Prop :=     ((¬ ((μ.1 808)) = 0 → mp_isRelation x1 μ (fun (r12 : Int32) (μ12 : mo_U) => (r12 = 0 → Q ((-2 : Int32)) μ12) ∧ (¬ r12 = 0 → mp_areValues x1 x2 x3 x4 μ12 (fun (r24 : Int32) (μ24 : mo_U) => (¬ r24 = 0 → mp_given x1 ((1 : Int32)) x3 μ24 (fun (r40 : Int32) (μ40 : mo_U) => mp_given x1 ((2 : Int32)) x4 μ40 (fun (r48 : Int32) (μ48 : mo_U) => mp_find x1 x2 r40 r48 μ48 (fun (r51 : Int32) (μ51 : mo_U) => (¬ r51 = ((-1 : Int32)) → vp_in ((((40 : Int32)) * x1) + r51) 320 ∧ (Q (μ51.2 41 ((((40 : Int32)) * x1) + r51).toNatClampNeg) μ51)) ∧ (r51 = ((-1 : Int32)) → Q ((0 : Int32)) μ51))))) ∧ (r24 = 0 → Q ((-2 : Int32)) μ24))))) ∧ (((μ.1 808)) = 0 → Q ((-4 : Int32)) μ))
set_option maxHeartbeats 4000000 in
theorem mq_has {σ0 : z_S} {m : Nat} {ma : Nat → Nat} (hT : mo_T σ0 m ma) (x1 : Int32) (x2 : Int32) (x3 : Int32) (x4 : Int32) (μ : mo_U) (Q : Int32 → mo_U → Prop) (Post : Int32 → z_S → Prop) (hQ : (∀ r μ', Q r μ' → Post r (mo_put σ0 m ma μ'))) (hw : mp_has x1 x2 x3 x4 μ Q) : kp_Mo_has m x1 x2 x3 x4 (mo_put σ0 m ma μ) Post := by
  unfold mp_has at hw
  unfold kp_Mo_has
  refine ⟨mo_ty0 hT, ?_⟩
  try rw [mo_I σ0 m ma μ 808]
  refine ⟨fun hc => ?_, fun hc => ?_⟩
  · have hw := hw.1 hc
    refine ⟨mo_ty0 hT, mq_isRelation hT x1 μ _ _ (fun r12 μ12 hw => ?_) hw⟩
    refine ⟨fun hc => ?_, fun hc => ?_⟩
    · have hw := hw.1 hc
      exact hQ _ _ hw
    · have hw := hw.2 hc
      refine ⟨mo_ty0 hT, mq_areValues hT x1 x2 x3 x4 μ12 _ _ (fun r24 μ24 hw => ?_) hw⟩
      refine ⟨fun hc => ?_, fun hc => ?_⟩
      · have hw := hw.1 hc
        refine ⟨mo_ty0 hT, mq_given hT x1 ((1 : Int32)) x3 μ24 _ _ (fun r40 μ40 hw => ?_) hw⟩
        refine ⟨mo_ty0 hT, mq_given hT x1 ((2 : Int32)) x4 μ40 _ _ (fun r48 μ48 hw => ?_) hw⟩
        refine ⟨mo_ty0 hT, mq_find hT x1 x2 r40 r48 μ48 _ _ (fun r51 μ51 hw => ?_) hw⟩
        refine ⟨fun hc => ?_, fun hc => ?_⟩
        · have hw := hw.1 hc
          refine ⟨mo_ty0 hT, ma 41, mo_R825 hT, ?_⟩
          refine ⟨320, 41, mo_T41 hT, hw.1, ?_⟩
          replace hw := hw.2
          try rw [mo_A σ0 m ma μ51 41]
          exact hQ _ _ hw
        · have hw := hw.2 hc
          exact hQ _ _ hw
      · have hw := hw.2 hc
        exact hQ _ _ hw
  · have hw := hw.2 hc
    exact hQ _ _ hw
def mp_row (x1 : Int32) (x2 : Int32) (x3 : Int32) (μ : mo_U) (Q : Int32 → mo_U → Prop) : Prop :=     ((¬ ((μ.1 808)) = 0 → mp_isRelation x1 μ (fun (r12 : Int32) (μ12 : mo_U) => (r12 = 0 → Q ((-2 : Int32)) μ12) ∧ (¬ r12 = 0 → mp_isIn x3 ((0 : Int32)) ((3 : Int32)) μ12 (fun (r21 : Int32) (μ21 : mo_U) => (¬ r21 = 0 → vp_in x1 8 ∧ (mp_isIn x2 ((0 : Int32)) ((μ21.2 42 x1.toNatClampNeg) - ((1 : Int32))) μ21 (fun (r40 : Int32) (μ40 : mo_U) => (¬ r40 = 0 → (¬ x3 = ((3 : Int32)) → mp_base x1 x2 μ40 (fun (r74 : Int32) (μ74 : mo_U) => vp_in (r74 + x3) 960 ∧ (Q (μ74.2 40 (r74 + x3).toNatClampNeg) μ74))) ∧ (x3 = ((3 : Int32)) → vp_in ((((40 : Int32)) * x1) + x2) 320 ∧ (Q (μ40.2 41 ((((40 : Int32)) * x1) + x2).toNatClampNeg) μ40))) ∧ (r40 = 0 → Q ((-1 : Int32)) μ40)))) ∧ (r21 = 0 → Q ((-2 : Int32)) μ21))))) ∧ (((μ.1 808)) = 0 → Q ((-4 : Int32)) μ))
set_option maxHeartbeats 4000000 in
theorem mq_row {σ0 : z_S} {m : Nat} {ma : Nat → Nat} (hT : mo_T σ0 m ma) (x1 : Int32) (x2 : Int32) (x3 : Int32) (μ : mo_U) (Q : Int32 → mo_U → Prop) (Post : Int32 → z_S → Prop) (hQ : (∀ r μ', Q r μ' → Post r (mo_put σ0 m ma μ'))) (hw : mp_row x1 x2 x3 μ Q) : kp_Mo_row m x1 x2 x3 (mo_put σ0 m ma μ) Post := by
  unfold mp_row at hw
  unfold kp_Mo_row
  refine ⟨mo_ty0 hT, ?_⟩
  try rw [mo_I σ0 m ma μ 808]
  refine ⟨fun hc => ?_, fun hc => ?_⟩
  · have hw := hw.1 hc
    refine ⟨mo_ty0 hT, mq_isRelation hT x1 μ _ _ (fun r12 μ12 hw => ?_) hw⟩
    refine ⟨fun hc => ?_, fun hc => ?_⟩
    · have hw := hw.1 hc
      exact hQ _ _ hw
    · have hw := hw.2 hc
      refine mq_isIn hT x3 ((0 : Int32)) ((3 : Int32)) μ12 _ _ (fun r21 μ21 hw => ?_) hw
      refine ⟨fun hc => ?_, fun hc => ?_⟩
      · have hw := hw.1 hc
        refine ⟨mo_ty0 hT, ma 42, mo_R826 hT, ?_⟩
        refine ⟨8, 42, mo_T42 hT, hw.1, ?_⟩
        replace hw := hw.2
        try rw [mo_A σ0 m ma μ21 42]
        refine mq_isIn hT x2 ((0 : Int32)) ((μ21.2 42 x1.toNatClampNeg) - ((1 : Int32))) μ21 _ _ (fun r40 μ40 hw => ?_) hw
        refine ⟨fun hc => ?_, fun hc => ?_⟩
        · have hw := hw.1 hc
          refine ⟨fun hc => ?_, fun hc => ?_⟩
          · have hw := hw.1 hc
            refine ⟨mo_ty0 hT, ma 40, mo_R824 hT, ?_⟩
            refine ⟨mo_ty0 hT, mq_base hT x1 x2 μ40 _ _ (fun r74 μ74 hw => ?_) hw⟩
            refine ⟨960, 40, mo_T40 hT, hw.1, ?_⟩
            replace hw := hw.2
            try rw [mo_A σ0 m ma μ74 40]
            exact hQ _ _ hw
          · have hw := hw.2 hc
            refine ⟨mo_ty0 hT, ma 41, mo_R825 hT, ?_⟩
            refine ⟨320, 41, mo_T41 hT, hw.1, ?_⟩
            replace hw := hw.2
            try rw [mo_A σ0 m ma μ40 41]
            exact hQ _ _ hw
        · have hw := hw.2 hc
          exact hQ _ _ hw
      · have hw := hw.2 hc
        exact hQ _ _ hw
  · have hw := hw.2 hc
    exact hQ _ _ hw
def mp_isCounted (x1 : Int32) (μ : mo_U) (Q : Int32 → mo_U → Prop) : Prop := ∀ (X4 : Int32 → Int32 → mo_U → Prop),
    (∀ (v2 : Int32) (v3 : Int32) (μ : mo_U), (((μ.1 808) ≤ v3 → (v2 = 0 ∨ v2 = 1) ∧ Q v2 μ) ∧ (¬ (μ.1 808) ≤ v3 → (¬ v2 = 0 → X4 ((1 : Int32)) (v3 + (1 : Int32)) μ) ∧ (v2 = 0 → vp_in v3 17 ∧ ((¬ (μ.2 26 v3.toNatClampNeg) = x1 → X4 ((0 : Int32)) (v3 + (1 : Int32)) μ) ∧ ((μ.2 26 v3.toNatClampNeg) = x1 → vp_in v3 17 ∧ ((((μ.2 32 v3.toNatClampNeg)) = 0 → X4 ((0 : Int32)) (v3 + (1 : Int32)) μ) ∧ (¬ ((μ.2 32 v3.toNatClampNeg)) = 0 → X4 ((1 : Int32)) (v3 + (1 : Int32)) μ))))))) → X4 v2 v3 μ) →
    (X4 ((0 : Int32)) ((0 : Int32)) μ)
set_option maxHeartbeats 4000000 in
theorem mq_isCounted {σ0 : z_S} {m : Nat} {ma : Nat → Nat} (hT : mo_T σ0 m ma) (x1 : Int32) (μ : mo_U) (Q : Int32 → mo_U → Prop) (Post : Int32 → z_S → Prop) (hQ : (∀ r μ', Q r μ' → Post r (mo_put σ0 m ma μ'))) (hw : mp_isCounted x1 μ Q) : kp_Mo_isCounted m x1 (mo_put σ0 m ma μ) Post := by
  unfold mp_isCounted at hw
  unfold kp_Mo_isCounted
  intro X4 hX4
  have hw := hw (fun (v2 : Int32) (v3 : Int32) (μ : mo_U) => X4 v2 v3 (mo_put σ0 m ma μ))
  have hw := hw (by
    intro v2 v3 μ hw
    refine hX4 _ _ _  ?_
    refine ⟨mo_ty0 hT, ?_⟩
    try rw [mo_I σ0 m ma μ 808]
    refine ⟨fun hc => ?_, fun hc => ?_⟩
    · have hw := hw.1 hc
      exact ⟨hw.1, hQ _ _ hw.2⟩
    · have hw := hw.2 hc
      refine ⟨fun hc => ?_, fun hc => ?_⟩
      · have hw := hw.1 hc
        exact hw
      · have hw := hw.2 hc
        refine ⟨mo_ty0 hT, ma 26, mo_R809 hT, ?_⟩
        refine ⟨17, 26, mo_T26 hT, hw.1, ?_⟩
        replace hw := hw.2
        try rw [mo_A σ0 m ma μ 26]
        refine ⟨fun hc => ?_, fun hc => ?_⟩
        · have hw := hw.1 hc
          exact hw
        · have hw := hw.2 hc
          refine ⟨mo_ty0 hT, ma 32, mo_R815 hT, ?_⟩
          refine ⟨17, 32, mo_T32 hT, hw.1, ?_⟩
          replace hw := hw.2
          try rw [mo_A σ0 m ma μ 32]
          refine ⟨fun hc => ?_, fun hc => ?_⟩
          · have hw := hw.1 hc
            exact hw
          · have hw := hw.2 hc
            exact hw)
  exact hw
def mp_leads (x1 : Int32) (x2 : Int32) (x3 : Int32) (μ : mo_U) (Q : Int32 → mo_U → Prop) : Prop :=     (mp_headValue ((0 : Int32)) μ (fun (r2 : Int32) (μ2 : mo_U) => (¬ r2 = x1 → Q ((0 : Int32)) μ2) ∧ (r2 = x1 → mp_headValue ((1 : Int32)) μ2 (fun (r11 : Int32) (μ11 : mo_U) => (¬ r11 = x2 → Q ((0 : Int32)) μ11) ∧ (r11 = x2 → mp_headValue ((2 : Int32)) μ11 (fun (r20 : Int32) (μ20 : mo_U) => (¬ r20 = x3 → Q ((0 : Int32)) μ20) ∧ (r20 = x3 → Q ((1 : Int32)) μ20)))))))
set_option maxHeartbeats 4000000 in
theorem mq_leads {σ0 : z_S} {m : Nat} {ma : Nat → Nat} (hT : mo_T σ0 m ma) (x1 : Int32) (x2 : Int32) (x3 : Int32) (μ : mo_U) (Q : Int32 → mo_U → Prop) (Post : Int32 → z_S → Prop) (hQ : (∀ r μ', Q r μ' → Post r (mo_put σ0 m ma μ'))) (hw : mp_leads x1 x2 x3 μ Q) : kp_Mo_leads m x1 x2 x3 (mo_put σ0 m ma μ) Post := by
  unfold mp_leads at hw
  unfold kp_Mo_leads
  refine ⟨mo_ty0 hT, mq_headValue hT ((0 : Int32)) μ _ _ (fun r2 μ2 hw => ?_) hw⟩
  refine ⟨fun hc => ?_, fun hc => ?_⟩
  · have hw := hw.1 hc
    exact hQ _ _ hw
  · have hw := hw.2 hc
    refine ⟨mo_ty0 hT, mq_headValue hT ((1 : Int32)) μ2 _ _ (fun r11 μ11 hw => ?_) hw⟩
    refine ⟨fun hc => ?_, fun hc => ?_⟩
    · have hw := hw.1 hc
      exact hQ _ _ hw
    · have hw := hw.2 hc
      refine ⟨mo_ty0 hT, mq_headValue hT ((2 : Int32)) μ11 _ _ (fun r20 μ20 hw => ?_) hw⟩
      refine ⟨fun hc => ?_, fun hc => ?_⟩
      · have hw := hw.1 hc
        exact hQ _ _ hw
      · have hw := hw.2 hc
        exact hQ _ _ hw
def mp_derivations (x1 : Int32) (x2 : Int32) (x3 : Int32) (x4 : Int32) (μ : mo_U) (Q : Int32 → mo_U → Prop) : Prop := ∀ (X100 : Int32 → Int32 → Int32 → mo_U → Prop) (X129 : Int32 → Int32 → Int32 → Int32 → mo_U → Prop) (X155 : Int32 → Int32 → Int32 → Int32 → mo_U → Prop),
    (∀ (v5 : Int32) (v6 : Int32) (t0 : Int32) (μ : mo_U), (mp_find x1 x2 v5 v6 μ (fun (r109 : Int32) (μ109 : mo_U) => (¬ r109 = ((-1 : Int32)) → Q t0 μ109) ∧ (r109 = ((-1 : Int32)) → Q ((0 : Int32)) μ109))) → X100 v5 v6 t0 μ) →
    (∀ (v5 : Int32) (v6 : Int32) (v7 : Int32) (v8 : Int32) (μ : mo_U), (((μ.1 808) ≤ v8 → Q v7 μ) ∧ (¬ (μ.1 808) ≤ v8 → vp_in v8 17 ∧ ((¬ (μ.2 26 v8.toNatClampNeg) = x1 → X129 v5 v6 v7 (v8 + (1 : Int32)) μ) ∧ ((μ.2 26 v8.toNatClampNeg) = x1 → mp_begin v8 μ (fun (μ152 : mo_U) => X155 v5 v6 v7 v8 μ152))))) → X129 v5 v6 v7 v8 μ) →
    (∀ (v5 : Int32) (v6 : Int32) (v7 : Int32) (v8 : Int32) (μ : mo_U), (mp_next μ (fun (r156 : Int32) (μ156 : mo_U) => (r156 = 0 → X129 v5 v6 v7 (v8 + (1 : Int32)) μ156) ∧ (¬ r156 = 0 → mp_leads x2 v5 v6 μ156 (fun (r170 : Int32) (μ170 : mo_U) => (r170 = 0 → X155 v5 v6 (v7 + ((0 : Int32))) v8 μ170) ∧ (¬ r170 = 0 → X155 v5 v6 (v7 + ((1 : Int32))) v8 μ170))))) → X155 v5 v6 v7 v8 μ) →
    ((¬ ((μ.1 808)) = 0 → mp_isRelation x1 μ (fun (r12 : Int32) (μ12 : mo_U) => (r12 = 0 → Q ((-2 : Int32)) μ12) ∧ (¬ r12 = 0 → vp_in x1 9 ∧ ((((μ12.2 36 x1.toNatClampNeg)) = 0 → Q ((-2 : Int32)) μ12) ∧ (¬ ((μ12.2 36 x1.toNatClampNeg)) = 0 → mp_areValues x1 x2 x3 x4 μ12 (fun (r33 : Int32) (μ33 : mo_U) => (¬ r33 = 0 → mp_given x1 ((1 : Int32)) x3 μ33 (fun (r46 : Int32) (μ46 : mo_U) => mp_given x1 ((2 : Int32)) x4 μ46 (fun (r56 : Int32) (μ56 : mo_U) => mp_isCounted x1 μ56 (fun (r63 : Int32) (μ63 : mo_U) => (r63 = 0 → X129 r46 r56 ((0 : Int32)) ((0 : Int32)) μ63) ∧ (¬ r63 = 0 → vp_in x1 9 ∧ ((¬ (μ63.2 35 x1.toNatClampNeg) = ((1 : Int32)) → vp_in x1 9 ∧ ((¬ (μ63.2 35 x1.toNatClampNeg) = ((2 : Int32)) → X100 r46 r56 r56 μ63) ∧ ((μ63.2 35 x1.toNatClampNeg) = ((2 : Int32)) → X100 r46 r56 r46 μ63))) ∧ ((μ63.2 35 x1.toNatClampNeg) = ((1 : Int32)) → X100 r46 r56 x2 μ63))))))) ∧ (r33 = 0 → Q ((-2 : Int32)) μ33))))))) ∧ (((μ.1 808)) = 0 → Q ((-4 : Int32)) μ))
set_option maxHeartbeats 4000000 in
theorem mq_derivations {σ0 : z_S} {m : Nat} {ma : Nat → Nat} (hT : mo_T σ0 m ma) (x1 : Int32) (x2 : Int32) (x3 : Int32) (x4 : Int32) (μ : mo_U) (Q : Int32 → mo_U → Prop) (Post : Int32 → z_S → Prop) (hQ : (∀ r μ', Q r μ' → Post r (mo_put σ0 m ma μ'))) (hw : mp_derivations x1 x2 x3 x4 μ Q) : kp_Mo_derivations m x1 x2 x3 x4 (mo_put σ0 m ma μ) Post := by
  unfold mp_derivations at hw
  unfold kp_Mo_derivations
  intro X100 X129 X155 hX100 hX129 hX155
  have hw := hw (fun (v5 : Int32) (v6 : Int32) (t0 : Int32) (μ : mo_U) => X100 v5 v6 t0 (mo_put σ0 m ma μ))
  have hw := hw (fun (v5 : Int32) (v6 : Int32) (v7 : Int32) (v8 : Int32) (μ : mo_U) => X129 v5 v6 v7 v8 (mo_put σ0 m ma μ))
  have hw := hw (fun (v5 : Int32) (v6 : Int32) (v7 : Int32) (v8 : Int32) (μ : mo_U) => X155 v5 v6 v7 v8 (mo_put σ0 m ma μ))
  have hw := hw (by
    intro v5 v6 t0 μ hw
    refine hX100 _ _ _ _  ?_
    refine ⟨mo_ty0 hT, mq_find hT x1 x2 v5 v6 μ _ _ (fun r109 μ109 hw => ?_) hw⟩
    refine ⟨fun hc => ?_, fun hc => ?_⟩
    · have hw := hw.1 hc
      exact hQ _ _ hw
    · have hw := hw.2 hc
      exact hQ _ _ hw)
  have hw := hw (by
    intro v5 v6 v7 v8 μ hw
    refine hX129 _ _ _ _ _  ?_
    refine ⟨mo_ty0 hT, ?_⟩
    try rw [mo_I σ0 m ma μ 808]
    refine ⟨fun hc => ?_, fun hc => ?_⟩
    · have hw := hw.1 hc
      exact hQ _ _ hw
    · have hw := hw.2 hc
      refine ⟨mo_ty0 hT, ma 26, mo_R809 hT, ?_⟩
      refine ⟨17, 26, mo_T26 hT, hw.1, ?_⟩
      replace hw := hw.2
      try rw [mo_A σ0 m ma μ 26]
      refine ⟨fun hc => ?_, fun hc => ?_⟩
      · have hw := hw.1 hc
        exact hw
      · have hw := hw.2 hc
        refine ⟨mo_ty0 hT, mq_begin hT v8 μ _ _ (fun μ152 hw => ?_) hw⟩
        exact hw)
  have hw := hw (by
    intro v5 v6 v7 v8 μ hw
    refine hX155 _ _ _ _ _  ?_
    refine ⟨mo_ty0 hT, mq_next hT μ _ _ (fun r156 μ156 hw => ?_) hw⟩
    refine ⟨fun hc => ?_, fun hc => ?_⟩
    · have hw := hw.1 hc
      exact hw
    · have hw := hw.2 hc
      refine ⟨mo_ty0 hT, mq_leads hT x2 v5 v6 μ156 _ _ (fun r170 μ170 hw => ?_) hw⟩
      refine ⟨fun hc => ?_, fun hc => ?_⟩
      · have hw := hw.1 hc
        exact hw
      · have hw := hw.2 hc
        exact hw)
  refine ⟨mo_ty0 hT, ?_⟩
  try rw [mo_I σ0 m ma μ 808]
  refine ⟨fun hc => ?_, fun hc => ?_⟩
  · have hw := hw.1 hc
    refine ⟨mo_ty0 hT, mq_isRelation hT x1 μ _ _ (fun r12 μ12 hw => ?_) hw⟩
    refine ⟨fun hc => ?_, fun hc => ?_⟩
    · have hw := hw.1 hc
      exact hQ _ _ hw
    · have hw := hw.2 hc
      refine ⟨mo_ty0 hT, ma 36, mo_R820 hT, ?_⟩
      refine ⟨9, 36, mo_T36 hT, hw.1, ?_⟩
      replace hw := hw.2
      try rw [mo_A σ0 m ma μ12 36]
      refine ⟨fun hc => ?_, fun hc => ?_⟩
      · have hw := hw.1 hc
        exact hQ _ _ hw
      · have hw := hw.2 hc
        refine ⟨mo_ty0 hT, mq_areValues hT x1 x2 x3 x4 μ12 _ _ (fun r33 μ33 hw => ?_) hw⟩
        refine ⟨fun hc => ?_, fun hc => ?_⟩
        · have hw := hw.1 hc
          refine ⟨mo_ty0 hT, mq_given hT x1 ((1 : Int32)) x3 μ33 _ _ (fun r46 μ46 hw => ?_) hw⟩
          refine ⟨mo_ty0 hT, mq_given hT x1 ((2 : Int32)) x4 μ46 _ _ (fun r56 μ56 hw => ?_) hw⟩
          refine ⟨mo_ty0 hT, mq_isCounted hT x1 μ56 _ _ (fun r63 μ63 hw => ?_) hw⟩
          refine ⟨fun hc => ?_, fun hc => ?_⟩
          · have hw := hw.1 hc
            exact hw
          · have hw := hw.2 hc
            refine ⟨mo_ty0 hT, ma 35, mo_R819 hT, ?_⟩
            refine ⟨9, 35, mo_T35 hT, hw.1, ?_⟩
            replace hw := hw.2
            try rw [mo_A σ0 m ma μ63 35]
            refine ⟨fun hc => ?_, fun hc => ?_⟩
            · have hw := hw.1 hc
              refine ⟨mo_ty0 hT, ma 35, mo_R819 hT, ?_⟩
              refine ⟨9, 35, mo_T35 hT, hw.1, ?_⟩
              replace hw := hw.2
              try rw [mo_A σ0 m ma μ63 35]
              refine ⟨fun hc => ?_, fun hc => ?_⟩
              · have hw := hw.1 hc
                exact hw
              · have hw := hw.2 hc
                exact hw
            · have hw := hw.2 hc
              exact hw
        · have hw := hw.2 hc
          exact hQ _ _ hw
  · have hw := hw.2 hc
    exact hQ _ _ hw
def mp_isLess (μ : mo_U) (Q : Int32 → mo_U → Prop) : Prop := ∀ (X2 : Int32 → mo_U → Prop),
    (∀ (v1 : Int32) (μ : mo_U), ((((26 : Int32)) ≤ v1 → Q ((0 : Int32)) μ) ∧ (¬ ((26 : Int32)) ≤ v1 → vp_in ((((26 : Int32)) * (μ.1 841)) + v1) 104 ∧ (vp_in v1 26 ∧ (((μ.2 50 ((((26 : Int32)) * (μ.1 841)) + v1).toNatClampNeg) = (μ.2 57 v1.toNatClampNeg) → X2 (v1 + (1 : Int32)) μ) ∧ (¬ (μ.2 50 ((((26 : Int32)) * (μ.1 841)) + v1).toNatClampNeg) = (μ.2 57 v1.toNatClampNeg) → vp_in v1 26 ∧ (((μ.2 57 v1.toNatClampNeg) ≤ (μ.2 50 ((((26 : Int32)) * (μ.1 841)) + v1).toNatClampNeg) → Q ((0 : Int32)) μ) ∧ (¬ (μ.2 57 v1.toNatClampNeg) ≤ (μ.2 50 ((((26 : Int32)) * (μ.1 841)) + v1).toNatClampNeg) → Q ((1 : Int32)) μ))))))) → X2 v1 μ) →
    (X2 ((0 : Int32)) μ)
set_option maxHeartbeats 4000000 in
theorem mq_isLess {σ0 : z_S} {m : Nat} {ma : Nat → Nat} (hT : mo_T σ0 m ma) (μ : mo_U) (Q : Int32 → mo_U → Prop) (Post : Int32 → z_S → Prop) (hQ : (∀ r μ', Q r μ' → Post r (mo_put σ0 m ma μ'))) (hw : mp_isLess μ Q) : kp_Mo_isLess m (mo_put σ0 m ma μ) Post := by
  unfold mp_isLess at hw
  unfold kp_Mo_isLess
  intro X2 hX2
  have hw := hw (fun (v1 : Int32) (μ : mo_U) => X2 v1 (mo_put σ0 m ma μ))
  have hw := hw (by
    intro v1 μ hw
    refine hX2 _ _  ?_
    refine ⟨fun hc => ?_, fun hc => ?_⟩
    · have hw := hw.1 hc
      exact hQ _ _ hw
    · have hw := hw.2 hc
      refine ⟨mo_ty0 hT, ma 50, mo_R837 hT, ?_⟩
      refine ⟨mo_ty0 hT, ?_⟩
      try rw [mo_I σ0 m ma μ 841]
      refine ⟨104, 50, mo_T50 hT, hw.1, ?_⟩
      replace hw := hw.2
      try rw [mo_A σ0 m ma μ 50]
      refine ⟨mo_ty0 hT, ma 57, mo_R850 hT, ?_⟩
      refine ⟨26, 57, mo_T57 hT, hw.1, ?_⟩
      replace hw := hw.2
      try rw [mo_A σ0 m ma μ 57]
      refine ⟨fun hc => ?_, fun hc => ?_⟩
      · have hw := hw.1 hc
        exact hw
      · have hw := hw.2 hc
        refine ⟨mo_ty0 hT, ma 57, mo_R850 hT, ?_⟩
        refine ⟨26, 57, mo_T57 hT, hw.1, ?_⟩
        replace hw := hw.2
        try rw [mo_A σ0 m ma μ 57]
        refine ⟨fun hc => ?_, fun hc => ?_⟩
        · have hw := hw.1 hc
          exact hQ _ _ hw
        · have hw := hw.2 hc
          exact hQ _ _ hw)
  exact hw
def mp_tell (x1 : Int32) (x2 : Int32) (μ : mo_U) (Q : Int32 → mo_U → Prop) : Prop := ∀ (X8 : Int32 → Int32 → Int32 → mo_U → Prop),
    (∀ (v3 : Int32) (v4 : Int32) (v5 : Int32) (μ : mo_U), ((((26 : Int32)) ≤ v5 → (¬ x2 = 0 → (¬ x2 = ((1 : Int32)) → Q v4 μ) ∧ (x2 = ((1 : Int32)) → Q v3 μ)) ∧ (x2 = 0 → Q x1 μ)) ∧ (¬ ((26 : Int32)) ≤ v5 → vp_in x1 17 ∧ ((¬ (((μ.2 33 x1.toNatClampNeg) >>> (v5 &&& 31)) &&& ((1 : Int32))) = ((1 : Int32)) → X8 v3 v4 (v5 + (1 : Int32)) μ) ∧ ((((μ.2 33 x1.toNatClampNeg) >>> (v5 &&& 31)) &&& ((1 : Int32))) = ((1 : Int32)) → (¬ v3 = (x2 - ((2 : Int32))) → X8 (v3 + (1 : Int32)) v4 (v5 + (1 : Int32)) μ) ∧ (v3 = (x2 - ((2 : Int32))) → vp_in v5 26 ∧ (X8 (v3 + (1 : Int32)) (μ.2 57 v5.toNatClampNeg) (v5 + (1 : Int32)) μ)))))) → X8 v3 v4 v5 μ) →
    (X8 ((0 : Int32)) ((-1 : Int32)) ((0 : Int32)) μ)
set_option maxHeartbeats 4000000 in
theorem mq_tell {σ0 : z_S} {m : Nat} {ma : Nat → Nat} (hT : mo_T σ0 m ma) (x1 : Int32) (x2 : Int32) (μ : mo_U) (Q : Int32 → mo_U → Prop) (Post : Int32 → z_S → Prop) (hQ : (∀ r μ', Q r μ' → Post r (mo_put σ0 m ma μ'))) (hw : mp_tell x1 x2 μ Q) : kp_Mo_tell m x1 x2 (mo_put σ0 m ma μ) Post := by
  unfold mp_tell at hw
  unfold kp_Mo_tell
  intro X8 hX8
  have hw := hw (fun (v3 : Int32) (v4 : Int32) (v5 : Int32) (μ : mo_U) => X8 v3 v4 v5 (mo_put σ0 m ma μ))
  have hw := hw (by
    intro v3 v4 v5 μ hw
    refine hX8 _ _ _ _  ?_
    refine ⟨fun hc => ?_, fun hc => ?_⟩
    · have hw := hw.1 hc
      refine ⟨fun hc => ?_, fun hc => ?_⟩
      · have hw := hw.1 hc
        refine ⟨fun hc => ?_, fun hc => ?_⟩
        · have hw := hw.1 hc
          exact hQ _ _ hw
        · have hw := hw.2 hc
          exact hQ _ _ hw
      · have hw := hw.2 hc
        exact hQ _ _ hw
    · have hw := hw.2 hc
      refine ⟨mo_ty0 hT, ma 33, mo_R816 hT, ?_⟩
      refine ⟨17, 33, mo_T33 hT, hw.1, ?_⟩
      replace hw := hw.2
      try rw [mo_A σ0 m ma μ 33]
      refine ⟨fun hc => ?_, fun hc => ?_⟩
      · have hw := hw.1 hc
        exact hw
      · have hw := hw.2 hc
        refine ⟨fun hc => ?_, fun hc => ?_⟩
        · have hw := hw.1 hc
          exact hw
        · have hw := hw.2 hc
          refine ⟨mo_ty0 hT, ma 57, mo_R850 hT, ?_⟩
          refine ⟨26, 57, mo_T57 hT, hw.1, ?_⟩
          replace hw := hw.2
          try rw [mo_A σ0 m ma μ 57]
          exact hw)
  exact hw
def mp_why (x1 : Int32) (x2 : Int32) (x3 : Int32) (x4 : Int32) (x5 : Int32) (μ : mo_U) (Q : Int32 → mo_U → Prop) : Prop := ∀ (X83 : Int32 → Int32 → Int32 → mo_U → Prop) (X112 : Int32 → Int32 → Int32 → Int32 → mo_U → Prop) (X149 : Int32 → Int32 → Int32 → Int32 → Int32 → mo_U → Prop) (X187 : Int32 → Int32 → Int32 → Int32 → mo_U → Prop),
    (∀ (v6 : Int32) (v7 : Int32) (v8 : Int32) (μ : mo_U), (((μ.1 808) ≤ v8 → Q ((-1 : Int32)) μ) ∧ (¬ (μ.1 808) ≤ v8 → vp_in v8 17 ∧ ((¬ (μ.2 26 v8.toNatClampNeg) = x1 → X187 v6 v7 v8 ((0 : Int32)) μ) ∧ ((μ.2 26 v8.toNatClampNeg) = x1 → mp_begin v8 μ (fun (μ109 : mo_U) => X112 v6 v7 v8 ((0 : Int32)) μ109))))) → X83 v6 v7 v8 μ) →
    (∀ (v6 : Int32) (v7 : Int32) (v8 : Int32) (v9 : Int32) (μ : mo_U), (mp_next μ (fun (r113 : Int32) (μ113 : mo_U) => (r113 = 0 → X187 v6 v7 v8 v9 μ113) ∧ (¬ r113 = 0 → mp_leads x2 v6 v7 μ113 (fun (r125 : Int32) (μ125 : mo_U) => (r125 = 0 → X112 v6 v7 v8 v9 μ125) ∧ (¬ r125 = 0 → (v9 = 0 → X149 v6 v7 v8 ((1 : Int32)) ((0 : Int32)) μ125) ∧ (¬ v9 = 0 → mp_isLess μ125 (fun (r137 : Int32) (μ137 : mo_U) => (r137 = 0 → X112 v6 v7 v8 v9 μ137) ∧ (¬ r137 = 0 → X149 v6 v7 v8 ((1 : Int32)) ((0 : Int32)) μ137)))))))) → X112 v6 v7 v8 v9 μ) →
    (∀ (v6 : Int32) (v7 : Int32) (v8 : Int32) (v9 : Int32) (v10 : Int32) (μ : mo_U), ((((26 : Int32)) ≤ v10 → X112 v6 v7 v8 v9 μ) ∧ (¬ ((26 : Int32)) ≤ v10 → vp_in ((((26 : Int32)) * (μ.1 841)) + v10) 104 ∧ (vp_in v10 26 ∧ ∀ μ177, μ177 = mu_sA μ 57 (upd (μ.2 57) v10.toNatClampNeg (μ.2 50 ((((26 : Int32)) * (μ.1 841)) + v10).toNatClampNeg)) → X149 v6 v7 v8 v9 (v10 + (1 : Int32)) μ177))) → X149 v6 v7 v8 v9 v10 μ) →
    (∀ (v6 : Int32) (v7 : Int32) (v8 : Int32) (v9 : Int32) (μ : mo_U), ((v9 = 0 → X83 v6 v7 (v8 + (1 : Int32)) μ) ∧ (¬ v9 = 0 → mp_tell v8 x5 μ (fun (r197 : Int32) (μ197 : mo_U) => Q r197 μ197))) → X187 v6 v7 v8 v9 μ) →
    ((¬ ((μ.1 808)) = 0 → mp_isRelation x1 μ (fun (r12 : Int32) (μ12 : mo_U) => (r12 = 0 → Q ((-2 : Int32)) μ12) ∧ (¬ r12 = 0 → vp_in x1 9 ∧ ((((μ12.2 36 x1.toNatClampNeg)) = 0 → Q ((-2 : Int32)) μ12) ∧ (¬ ((μ12.2 36 x1.toNatClampNeg)) = 0 → mp_isCounted x1 μ12 (fun (r29 : Int32) (μ29 : mo_U) => (¬ r29 = 0 → Q ((-2 : Int32)) μ29) ∧ (r29 = 0 → mp_areValues x1 x2 x3 x4 μ29 (fun (r41 : Int32) (μ41 : mo_U) => (r41 = 0 → Q ((-2 : Int32)) μ41) ∧ (¬ r41 = 0 → mp_isIn x5 ((0 : Int32)) ((7 : Int32)) μ41 (fun (r52 : Int32) (μ52 : mo_U) => (¬ r52 = 0 → mp_given x1 ((1 : Int32)) x3 μ52 (fun (r65 : Int32) (μ65 : mo_U) => mp_given x1 ((2 : Int32)) x4 μ65 (fun (r75 : Int32) (μ75 : mo_U) => X83 r65 r75 ((0 : Int32)) μ75))) ∧ (r52 = 0 → Q ((-2 : Int32)) μ52))))))))))) ∧ (((μ.1 808)) = 0 → Q ((-4 : Int32)) μ))
set_option maxHeartbeats 4000000 in
theorem mq_why {σ0 : z_S} {m : Nat} {ma : Nat → Nat} (hT : mo_T σ0 m ma) (x1 : Int32) (x2 : Int32) (x3 : Int32) (x4 : Int32) (x5 : Int32) (μ : mo_U) (Q : Int32 → mo_U → Prop) (Post : Int32 → z_S → Prop) (hQ : (∀ r μ', Q r μ' → Post r (mo_put σ0 m ma μ'))) (hw : mp_why x1 x2 x3 x4 x5 μ Q) : kp_Mo_why m x1 x2 x3 x4 x5 (mo_put σ0 m ma μ) Post := by
  unfold mp_why at hw
  unfold kp_Mo_why
  intro X83 X112 X149 X187 hX83 hX112 hX149 hX187
  have hw := hw (fun (v6 : Int32) (v7 : Int32) (v8 : Int32) (μ : mo_U) => X83 v6 v7 v8 (mo_put σ0 m ma μ))
  have hw := hw (fun (v6 : Int32) (v7 : Int32) (v8 : Int32) (v9 : Int32) (μ : mo_U) => X112 v6 v7 v8 v9 (mo_put σ0 m ma μ))
  have hw := hw (fun (v6 : Int32) (v7 : Int32) (v8 : Int32) (v9 : Int32) (v10 : Int32) (μ : mo_U) => X149 v6 v7 v8 v9 v10 (mo_put σ0 m ma μ))
  have hw := hw (fun (v6 : Int32) (v7 : Int32) (v8 : Int32) (v9 : Int32) (μ : mo_U) => X187 v6 v7 v8 v9 (mo_put σ0 m ma μ))
  have hw := hw (by
    intro v6 v7 v8 μ hw
    refine hX83 _ _ _ _  ?_
    refine ⟨mo_ty0 hT, ?_⟩
    try rw [mo_I σ0 m ma μ 808]
    refine ⟨fun hc => ?_, fun hc => ?_⟩
    · have hw := hw.1 hc
      exact hQ _ _ hw
    · have hw := hw.2 hc
      refine ⟨mo_ty0 hT, ma 26, mo_R809 hT, ?_⟩
      refine ⟨17, 26, mo_T26 hT, hw.1, ?_⟩
      replace hw := hw.2
      try rw [mo_A σ0 m ma μ 26]
      refine ⟨fun hc => ?_, fun hc => ?_⟩
      · have hw := hw.1 hc
        exact hw
      · have hw := hw.2 hc
        refine ⟨mo_ty0 hT, mq_begin hT v8 μ _ _ (fun μ109 hw => ?_) hw⟩
        exact hw)
  have hw := hw (by
    intro v6 v7 v8 v9 μ hw
    refine hX112 _ _ _ _ _  ?_
    refine ⟨mo_ty0 hT, mq_next hT μ _ _ (fun r113 μ113 hw => ?_) hw⟩
    refine ⟨fun hc => ?_, fun hc => ?_⟩
    · have hw := hw.1 hc
      exact hw
    · have hw := hw.2 hc
      refine ⟨mo_ty0 hT, mq_leads hT x2 v6 v7 μ113 _ _ (fun r125 μ125 hw => ?_) hw⟩
      refine ⟨fun hc => ?_, fun hc => ?_⟩
      · have hw := hw.1 hc
        exact hw
      · have hw := hw.2 hc
        refine ⟨fun hc => ?_, fun hc => ?_⟩
        · have hw := hw.1 hc
          exact hw
        · have hw := hw.2 hc
          refine ⟨mo_ty0 hT, mq_isLess hT μ125 _ _ (fun r137 μ137 hw => ?_) hw⟩
          refine ⟨fun hc => ?_, fun hc => ?_⟩
          · have hw := hw.1 hc
            exact hw
          · have hw := hw.2 hc
            exact hw)
  have hw := hw (by
    intro v6 v7 v8 v9 v10 μ hw
    refine hX149 _ _ _ _ _ _  ?_
    refine ⟨fun hc => ?_, fun hc => ?_⟩
    · have hw := hw.1 hc
      exact hw
    · have hw := hw.2 hc
      refine ⟨mo_ty0 hT, ma 57, mo_R850 hT, ?_⟩
      refine ⟨mo_ty0 hT, ma 50, mo_R837 hT, ?_⟩
      refine ⟨mo_ty0 hT, ?_⟩
      try rw [mo_I σ0 m ma μ 841]
      refine ⟨104, 50, mo_T50 hT, hw.1, ?_⟩
      replace hw := hw.2
      try rw [mo_A σ0 m ma μ 50]
      refine ⟨26, 57, mo_T57 hT, hw.1, fun σ177 e177 => ?_⟩
      replace hw := hw.2
      rw [mo_A σ0 m ma μ 57, mo_sA] at e177
      obtain ⟨μ177, f177⟩ : ∃ z, z = mu_sA μ 57 (upd (μ.2 57) v10.toNatClampNeg (μ.2 50 ((((26 : Int32)) * (μ.1 841)) + v10).toNatClampNeg)) := ⟨_, rfl⟩
      rw [← f177] at e177
      subst e177
      have hw := hw _ f177
      exact hw)
  have hw := hw (by
    intro v6 v7 v8 v9 μ hw
    refine hX187 _ _ _ _ _  ?_
    refine ⟨fun hc => ?_, fun hc => ?_⟩
    · have hw := hw.1 hc
      exact hw
    · have hw := hw.2 hc
      refine ⟨mo_ty0 hT, mq_tell hT v8 x5 μ _ _ (fun r197 μ197 hw => ?_) hw⟩
      exact hQ _ _ hw)
  refine ⟨mo_ty0 hT, ?_⟩
  try rw [mo_I σ0 m ma μ 808]
  refine ⟨fun hc => ?_, fun hc => ?_⟩
  · have hw := hw.1 hc
    refine ⟨mo_ty0 hT, mq_isRelation hT x1 μ _ _ (fun r12 μ12 hw => ?_) hw⟩
    refine ⟨fun hc => ?_, fun hc => ?_⟩
    · have hw := hw.1 hc
      exact hQ _ _ hw
    · have hw := hw.2 hc
      refine ⟨mo_ty0 hT, ma 36, mo_R820 hT, ?_⟩
      refine ⟨9, 36, mo_T36 hT, hw.1, ?_⟩
      replace hw := hw.2
      try rw [mo_A σ0 m ma μ12 36]
      refine ⟨fun hc => ?_, fun hc => ?_⟩
      · have hw := hw.1 hc
        exact hQ _ _ hw
      · have hw := hw.2 hc
        refine ⟨mo_ty0 hT, mq_isCounted hT x1 μ12 _ _ (fun r29 μ29 hw => ?_) hw⟩
        refine ⟨fun hc => ?_, fun hc => ?_⟩
        · have hw := hw.1 hc
          exact hQ _ _ hw
        · have hw := hw.2 hc
          refine ⟨mo_ty0 hT, mq_areValues hT x1 x2 x3 x4 μ29 _ _ (fun r41 μ41 hw => ?_) hw⟩
          refine ⟨fun hc => ?_, fun hc => ?_⟩
          · have hw := hw.1 hc
            exact hQ _ _ hw
          · have hw := hw.2 hc
            refine mq_isIn hT x5 ((0 : Int32)) ((7 : Int32)) μ41 _ _ (fun r52 μ52 hw => ?_) hw
            refine ⟨fun hc => ?_, fun hc => ?_⟩
            · have hw := hw.1 hc
              refine ⟨mo_ty0 hT, mq_given hT x1 ((1 : Int32)) x3 μ52 _ _ (fun r65 μ65 hw => ?_) hw⟩
              refine ⟨mo_ty0 hT, mq_given hT x1 ((2 : Int32)) x4 μ65 _ _ (fun r75 μ75 hw => ?_) hw⟩
              exact hw
            · have hw := hw.2 hc
              exact hQ _ _ hw
  · have hw := hw.2 hc
    exact hQ _ _ hw
def mp_anew (μ : mo_U) (Q : Int32 → mo_U → Prop) : Prop :=     ((((μ.1 808)) ≤ 0 → Q ((0 : Int32)) μ) ∧ (¬ ((μ.1 808)) ≤ 0 → Q ((1 : Int32)) μ))
set_option maxHeartbeats 4000000 in
theorem mq_anew {σ0 : z_S} {m : Nat} {ma : Nat → Nat} (hT : mo_T σ0 m ma) (μ : mo_U) (Q : Int32 → mo_U → Prop) (Post : Int32 → z_S → Prop) (hQ : (∀ r μ', Q r μ' → Post r (mo_put σ0 m ma μ'))) (hw : mp_anew μ Q) : kp_Mo_anew m (mo_put σ0 m ma μ) Post := by
  unfold mp_anew at hw
  unfold kp_Mo_anew
  refine ⟨mo_ty0 hT, ?_⟩
  try rw [mo_I σ0 m ma μ 808]
  refine ⟨fun hc => ?_, fun hc => ?_⟩
  · have hw := hw.1 hc
    exact hQ _ _ hw
  · have hw := hw.2 hc
    exact hQ _ _ hw
def mp_told (x1 : Int32) (μ : mo_U) (Q : Int32 → mo_U → Prop) : Prop := ∀ (X24 : mo_U → Prop) (X42 : Int32 → Int32 → mo_U → Prop),
    (∀ (μ : mo_U), ((¬ x1 = ((2 : Int32)) → Q ((0 : Int32)) μ) ∧ (x1 = ((2 : Int32)) → Q (μ.1 831) μ)) → X24 μ) →
    (∀ (v2 : Int32) (v3 : Int32) (μ : mo_U), (((μ.1 817) ≤ v3 → (¬ x1 = 0 → (¬ x1 = ((1 : Int32)) → (¬ x1 = ((3 : Int32)) → (¬ x1 = ((4 : Int32)) → Q v2 μ) ∧ (x1 = ((4 : Int32)) → Q (μ.1 834) μ)) ∧ (x1 = ((3 : Int32)) → Q (μ.1 836) μ)) ∧ (x1 = ((1 : Int32)) → Q (μ.1 817) μ)) ∧ (x1 = 0 → Q (μ.1 808) μ)) ∧ (¬ (μ.1 817) ≤ v3 → vp_in v3 9 ∧ (((μ.2 37 v3.toNatClampNeg) ≤ v2 → X42 v2 (v3 + (1 : Int32)) μ) ∧ (¬ (μ.2 37 v3.toNatClampNeg) ≤ v2 → vp_in v3 9 ∧ (X42 (μ.2 37 v3.toNatClampNeg) (v3 + (1 : Int32)) μ))))) → X42 v2 v3 μ) →
    (mp_isIn x1 ((0 : Int32)) ((5 : Int32)) μ (fun (r3 : Int32) (μ3 : mo_U) => (¬ r3 = 0 → (x1 = ((2 : Int32)) → X24 μ3) ∧ (¬ x1 = ((2 : Int32)) → (¬ ((μ3.1 808)) = 0 → X42 ((0 : Int32)) ((0 : Int32)) μ3) ∧ (((μ3.1 808)) = 0 → X24 μ3))) ∧ (r3 = 0 → Q ((-2 : Int32)) μ3)))
set_option maxHeartbeats 4000000 in
theorem mq_told {σ0 : z_S} {m : Nat} {ma : Nat → Nat} (hT : mo_T σ0 m ma) (x1 : Int32) (μ : mo_U) (Q : Int32 → mo_U → Prop) (Post : Int32 → z_S → Prop) (hQ : (∀ r μ', Q r μ' → Post r (mo_put σ0 m ma μ'))) (hw : mp_told x1 μ Q) : kp_Mo_told m x1 (mo_put σ0 m ma μ) Post := by
  unfold mp_told at hw
  unfold kp_Mo_told
  intro X24 X42 hX24 hX42
  have hw := hw (fun (μ : mo_U) => X24 (mo_put σ0 m ma μ))
  have hw := hw (fun (v2 : Int32) (v3 : Int32) (μ : mo_U) => X42 v2 v3 (mo_put σ0 m ma μ))
  have hw := hw (by
    intro μ hw
    refine hX24 _  ?_
    refine ⟨fun hc => ?_, fun hc => ?_⟩
    · have hw := hw.1 hc
      exact hQ _ _ hw
    · have hw := hw.2 hc
      refine ⟨mo_ty0 hT, ?_⟩
      try rw [mo_I σ0 m ma μ 831]
      exact hQ _ _ hw)
  have hw := hw (by
    intro v2 v3 μ hw
    refine hX42 _ _ _  ?_
    refine ⟨mo_ty0 hT, ?_⟩
    try rw [mo_I σ0 m ma μ 817]
    refine ⟨fun hc => ?_, fun hc => ?_⟩
    · have hw := hw.1 hc
      refine ⟨fun hc => ?_, fun hc => ?_⟩
      · have hw := hw.1 hc
        refine ⟨fun hc => ?_, fun hc => ?_⟩
        · have hw := hw.1 hc
          refine ⟨fun hc => ?_, fun hc => ?_⟩
          · have hw := hw.1 hc
            refine ⟨fun hc => ?_, fun hc => ?_⟩
            · have hw := hw.1 hc
              exact hQ _ _ hw
            · have hw := hw.2 hc
              refine ⟨mo_ty0 hT, ?_⟩
              try rw [mo_I σ0 m ma μ 834]
              exact hQ _ _ hw
          · have hw := hw.2 hc
            refine ⟨mo_ty0 hT, ?_⟩
            try rw [mo_I σ0 m ma μ 836]
            exact hQ _ _ hw
        · have hw := hw.2 hc
          refine ⟨mo_ty0 hT, ?_⟩
          try rw [mo_I σ0 m ma μ 817]
          exact hQ _ _ hw
      · have hw := hw.2 hc
        refine ⟨mo_ty0 hT, ?_⟩
        try rw [mo_I σ0 m ma μ 808]
        exact hQ _ _ hw
    · have hw := hw.2 hc
      refine ⟨mo_ty0 hT, ma 37, mo_R821 hT, ?_⟩
      refine ⟨9, 37, mo_T37 hT, hw.1, ?_⟩
      replace hw := hw.2
      try rw [mo_A σ0 m ma μ 37]
      refine ⟨fun hc => ?_, fun hc => ?_⟩
      · have hw := hw.1 hc
        exact hw
      · have hw := hw.2 hc
        refine ⟨mo_ty0 hT, ma 37, mo_R821 hT, ?_⟩
        refine ⟨9, 37, mo_T37 hT, hw.1, ?_⟩
        replace hw := hw.2
        try rw [mo_A σ0 m ma μ 37]
        exact hw)
  refine mq_isIn hT x1 ((0 : Int32)) ((5 : Int32)) μ _ _ (fun r3 μ3 hw => ?_) hw
  refine ⟨fun hc => ?_, fun hc => ?_⟩
  · have hw := hw.1 hc
    refine ⟨fun hc => ?_, fun hc => ?_⟩
    · have hw := hw.1 hc
      exact hw
    · have hw := hw.2 hc
      refine ⟨mo_ty0 hT, ?_⟩
      try rw [mo_I σ0 m ma μ3 808]
      refine ⟨fun hc => ?_, fun hc => ?_⟩
      · have hw := hw.1 hc
        exact hw
      · have hw := hw.2 hc
        exact hw
  · have hw := hw.2 hc
    exact hQ _ _ hw
