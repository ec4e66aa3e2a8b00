def mo_len : Nat → Nat := fun t => match t with | 23 => 600 | 24 => 602 | 25 => 602 | 26 => 17 | 27 => 51 | 28 => 17 | 29 => 85 | 30 => 85 | 31 => 255 | 32 => 17 | 33 => 17 | 34 => 9 | 35 => 9 | 36 => 9 | 37 => 9 | 38 => 64 | 39 => 8 | 40 => 960 | 41 => 320 | 42 => 8 | 43 => 960 | 44 => 320 | 45 => 8 | 46 => 300 | 47 => 1800 | 48 => 6 | 49 => 3300 | 50 => 104 | 51 => 4 | 52 => 3 | 53 => 120 | 54 => 40 | 55 => 300 | 56 => 8 | 57 => 26 | _ => 0
def mo_kd : Nat → Nat := fun t => match t with | 23 => 1 | 24 => 0 | 25 => 0 | 26 => 0 | 27 => 0 | 28 => 0 | 29 => 0 | 30 => 0 | 31 => 0 | 32 => 2 | 33 => 0 | 34 => 0 | 35 => 0 | 36 => 2 | 37 => 0 | 38 => 2 | 39 => 2 | 40 => 0 | 41 => 0 | 42 => 0 | 43 => 0 | 44 => 0 | 45 => 0 | 46 => 0 | 47 => 0 | 48 => 0 | 49 => 0 | 50 => 0 | 51 => 0 | 52 => 0 | 53 => 0 | 54 => 0 | 55 => 0 | 56 => 0 | 57 => 0 | _ => 9
def mo_ok (t kd : Nat) : Prop := 23 ≤ t ∧ t ≤ 57 ∧ mo_kd t = kd
theorem mo_Ts {σ0 : z_S} {m : Nat} {ma : Nat → Nat} (hT : mo_T σ0 m ma) {t kd : Nat} (hk : mo_ok t kd) : z_ty σ0 (ma t) = some (.inr (kd, mo_len t, t)) := by
  obtain ⟨h1, h2, h3⟩ := hk
  subst h3
  rcases (show t = 23 ∨ t = 24 ∨ t = 25 ∨ t = 26 ∨ t = 27 ∨ t = 28 ∨ t = 29 ∨ t = 30 ∨ t = 31 ∨ t = 32 ∨ t = 33 ∨ t = 34 ∨ t = 35 ∨ t = 36 ∨ t = 37 ∨ t = 38 ∨ t = 39 ∨ t = 40 ∨ t = 41 ∨ t = 42 ∨ t = 43 ∨ t = 44 ∨ t = 45 ∨ t = 46 ∨ t = 47 ∨ t = 48 ∨ t = 49 ∨ t = 50 ∨ t = 51 ∨ t = 52 ∨ t = 53 ∨ t = 54 ∨ t = 55 ∨ t = 56 ∨ t = 57 by omega) with rfl | rfl | rfl | rfl | rfl | rfl | rfl | rfl | rfl | rfl | rfl | rfl | rfl | rfl | rfl | rfl | rfl | rfl | rfl | rfl | rfl | rfl | rfl | rfl | rfl | rfl | rfl | rfl | rfl | rfl | rfl | rfl | rfl | rfl | rfl
  · exact mo_T23 hT
  · exact mo_T24 hT
  · exact mo_T25 hT
  · exact mo_T26 hT
  · exact mo_T27 hT
  · exact mo_T28 hT
  · exact mo_T29 hT
  · exact mo_T30 hT
  · exact mo_T31 hT
  · exact mo_T32 hT
  · exact mo_T33 hT
  · exact mo_T34 hT
  · exact mo_T35 hT
  · exact mo_T36 hT
  · exact mo_T37 hT
  · exact mo_T38 hT
  · exact mo_T39 hT
  · exact mo_T40 hT
  · exact mo_T41 hT
  · exact mo_T42 hT
  · exact mo_T43 hT
  · exact mo_T44 hT
  · exact mo_T45 hT
  · exact mo_T46 hT
  · exact mo_T47 hT
  · exact mo_T48 hT
  · exact mo_T49 hT
  · exact mo_T50 hT
  · exact mo_T51 hT
  · exact mo_T52 hT
  · exact mo_T53 hT
  · exact mo_T54 hT
  · exact mo_T55 hT
  · exact mo_T56 hT
  · exact mo_T57 hT
def mp_isIn (x1 : Int32) (x2 : Int32) (x3 : Int32) (μ : mo_U) (Q : Int32 → mo_U → Prop) : Prop :=     ((x1 < x2 → Q ((0 : Int32)) μ) ∧ (¬ x1 < x2 → (x3 < x1 → Q ((0 : Int32)) μ) ∧ (¬ x3 < x1 → Q ((1 : Int32)) μ)))
set_option maxHeartbeats 4000000 in
theorem mq_isIn {σ0 : z_S} {m : Nat} {ma : Nat → Nat} (hT : mo_T σ0 m ma) (x1 : Int32) (x2 : Int32) (x3 : Int32) (μ : mo_U) (Q : Int32 → mo_U → Prop) (Post : Int32 → z_S → Prop) (hQ : (∀ r μ', Q r μ' → Post r (mo_put σ0 m ma μ'))) (hw : mp_isIn x1 x2 x3 μ Q) : kp_Mo_isIn x1 x2 x3 (mo_put σ0 m ma μ) Post := by
  unfold mp_isIn at hw
  unfold kp_Mo_isIn
  refine ⟨fun hc => ?_, fun hc => ?_⟩
  · have hw := hw.1 hc
    exact hQ _ _ hw
  · have hw := hw.2 hc
    refine ⟨fun hc => ?_, fun hc => ?_⟩
    · have hw := hw.1 hc
      exact hQ _ _ hw
    · have hw := hw.2 hc
      exact hQ _ _ hw
def mp_wrong (x1 : Int32) (μ : mo_U) (Q : mo_U → Prop) : Prop :=     ((¬ ((μ.1 806)) = 0 → Q μ) ∧ (((μ.1 806)) = 0 → ∀ μ9, μ9 = mu_sI μ 806 x1 → vp_in (μ9.1 805) 602 ∧ (∀ μ22, μ22 = mu_sI μ9 807 (μ9.2 25 (μ9.1 805).toNatClampNeg) → Q μ22)))
set_option maxHeartbeats 4000000 in
theorem mq_wrong {σ0 : z_S} {m : Nat} {ma : Nat → Nat} (hT : mo_T σ0 m ma) (x1 : Int32) (μ : mo_U) (Q : mo_U → Prop) (Post : z_S → Prop) (hQ : (∀ μ', Q μ' → Post (mo_put σ0 m ma μ'))) (hw : mp_wrong x1 μ Q) : kp_Mo_wrong m x1 (mo_put σ0 m ma μ) Post := by
  unfold mp_wrong at hw
  unfold kp_Mo_wrong
  refine ⟨mo_ty0 hT, ?_⟩
  try rw [mo_I σ0 m ma μ 806]
  refine ⟨fun hc => ?_, fun hc => ?_⟩
  · have hw := hw.1 hc
    exact hQ _ hw
  · have hw := hw.2 hc
    refine ⟨mo_ty0 hT, fun σ9 e9 => ?_⟩
    rw [mo_sI] at e9
    obtain ⟨μ9, f9⟩ : ∃ z, z = mu_sI μ 806 x1 := ⟨_, rfl⟩
    rw [← f9] at e9
    subst e9
    have hw := hw _ f9
    refine ⟨mo_ty0 hT, ma 25, mo_R803 hT, ?_⟩
    refine ⟨mo_ty0 hT, ?_⟩
    try rw [mo_I σ0 m ma μ9 805]
    refine ⟨602, 25, mo_T25 hT, hw.1, ?_⟩
    replace hw := hw.2
    try rw [mo_A σ0 m ma μ9 25]
    refine ⟨mo_ty0 hT, fun σ22 e22 => ?_⟩
    rw [mo_sI] at e22
    obtain ⟨μ22, f22⟩ : ∃ z, z = mu_sI μ9 807 (μ9.2 25 (μ9.1 805).toNatClampNeg) := ⟨_, rfl⟩
    rw [← f22] at e22
    subst e22
    have hw := hw _ f22
    exact hQ _ hw
def mp_sign (μ : mo_U) (Q : Int32 → mo_U → Prop) : Prop :=     (vp_in (μ.1 805) 602 ∧ (Q (μ.2 24 (μ.1 805).toNatClampNeg) μ))
set_option maxHeartbeats 4000000 in
theorem mq_sign {σ0 : z_S} {m : Nat} {ma : Nat → Nat} (hT : mo_T σ0 m ma) (μ : mo_U) (Q : Int32 → mo_U → Prop) (Post : Int32 → z_S → Prop) (hQ : (∀ r μ', Q r μ' → Post r (mo_put σ0 m ma μ'))) (hw : mp_sign μ Q) : kp_Mo_sign m (mo_put σ0 m ma μ) Post := by
  unfold mp_sign at hw
  unfold kp_Mo_sign
  refine ⟨mo_ty0 hT, ma 24, mo_R802 hT, ?_⟩
  refine ⟨mo_ty0 hT, ?_⟩
  try rw [mo_I σ0 m ma μ 805]
  refine ⟨602, 24, mo_T24 hT, hw.1, ?_⟩
  replace hw := hw.2
  try rw [mo_A σ0 m ma μ 24]
  exact hQ _ _ hw
def mp_take (x1 : Int32) (μ : mo_U) (Q : mo_U → Prop) : Prop := ∀ (X20 : mo_U → Prop) (X37 : Int32 → Int32 → mo_U → Prop),
    (∀ (μ : mo_U), ((¬ ((μ.1 806)) = 0 → X37 (μ.1 805) ((0 : Int32)) μ) ∧ (((μ.1 806)) = 0 → X37 (μ.1 805) ((1 : Int32)) μ)) → X20 μ) →
    (∀ (t1 : Int32) (t2 : Int32) (μ : mo_U), (∀ μ38, μ38 = mu_sI μ 805 (t1 + t2) → Q μ38) → X37 t1 t2 μ) →
    ((¬ ((μ.1 806)) = 0 → X20 μ) ∧ (((μ.1 806)) = 0 → mp_sign μ (fun (r8 : Int32) (μ8 : mo_U) => (r8 = x1 → X20 μ8) ∧ (¬ r8 = x1 → mp_wrong ((1 : Int32)) μ8 (fun (μ17 : mo_U) => X20 μ17)))))
set_option maxHeartbeats 4000000 in
theorem mq_take {σ0 : z_S} {m : Nat} {ma : Nat → Nat} (hT : mo_T σ0 m ma) (x1 : Int32) (μ : mo_U) (Q : mo_U → Prop) (Post : z_S → Prop) (hQ : (∀ μ', Q μ' → Post (mo_put σ0 m ma μ'))) (hw : mp_take x1 μ Q) : kp_Mo_take m x1 (mo_put σ0 m ma μ) Post := by
  unfold mp_take at hw
  unfold kp_Mo_take
  intro X20 X37 hX20 hX37
  have hw := hw (fun (μ : mo_U) => X20 (mo_put σ0 m ma μ))
  have hw := hw (fun (t1 : Int32) (t2 : Int32) (μ : mo_U) => X37 m t1 t2 (mo_put σ0 m ma μ))
  have hw := hw (by
    intro μ hw
    refine hX20 _  ?_
    refine ⟨mo_ty0 hT, ?_⟩
    try rw [mo_I σ0 m ma μ 805]
    refine ⟨mo_ty0 hT, ?_⟩
    try rw [mo_I σ0 m ma μ 806]
    refine ⟨fun hc => ?_, fun hc => ?_⟩
    · have hw := hw.1 hc
      exact hw
    · have hw := hw.2 hc
      exact hw)
  have hw := hw (by
    intro t1 t2 μ hw
    refine hX37 _ _ _ _  ?_
    refine ⟨mo_ty0 hT, fun σ38 e38 => ?_⟩
    rw [mo_sI] at e38
    obtain ⟨μ38, f38⟩ : ∃ z, z = mu_sI μ 805 (t1 + t2) := ⟨_, rfl⟩
    rw [← f38] at e38
    subst e38
    have hw := hw _ f38
    exact hQ _ hw)
  refine ⟨mo_ty0 hT, ?_⟩
  try rw [mo_I σ0 m ma μ 806]
  refine ⟨fun hc => ?_, fun hc => ?_⟩
  · have hw := hw.1 hc
    exact hw
  · have hw := hw.2 hc
    refine ⟨mo_ty0 hT, mq_sign hT μ _ _ (fun r8 μ8 hw => ?_) hw⟩
    refine ⟨fun hc => ?_, fun hc => ?_⟩
    · have hw := hw.1 hc
      exact hw
    · have hw := hw.2 hc
      refine ⟨mo_ty0 hT, mq_wrong hT ((1 : Int32)) μ8 _ _ (fun μ17 hw => ?_) hw⟩
      exact hw
def mp_count (x1 : Int32) (μ : mo_U) (Q : Int32 → mo_U → Prop) : Prop := ∀ (X4 : Int32 → Int32 → mo_U → Prop),
    (∀ (v1 : Int32) (v2 : Int32) (μ : mo_U), ((((26 : Int32)) ≤ v2 → Q v1 μ) ∧ (¬ ((26 : Int32)) ≤ v2 → X4 (v1 + ((x1 >>> (v2 &&& 31)) &&& ((1 : Int32)))) (v2 + (1 : Int32)) μ)) → X4 v1 v2 μ) →
    (X4 ((0 : Int32)) ((0 : Int32)) μ)
set_option maxHeartbeats 4000000 in
theorem mq_count {σ0 : z_S} {m : Nat} {ma : Nat → Nat} (hT : mo_T σ0 m ma) (x1 : Int32) (μ : mo_U) (Q : Int32 → mo_U → Prop) (Post : Int32 → z_S → Prop) (hQ : (∀ r μ', Q r μ' → Post r (mo_put σ0 m ma μ'))) (hw : mp_count x1 μ Q) : kp_Mo_count x1 (mo_put σ0 m ma μ) Post := by
  unfold mp_count at hw
  unfold kp_Mo_count
  intro X4 hX4
  have hw := hw (fun (v1 : Int32) (v2 : Int32) (μ : mo_U) => X4 v1 v2 (mo_put σ0 m ma μ))
  have hw := hw (by
    intro v1 v2 μ hw
    refine hX4 _ _ _  ?_
    refine ⟨fun hc => ?_, fun hc => ?_⟩
    · have hw := hw.1 hc
      exact hQ _ _ hw
    · have hw := hw.2 hc
      exact hw)
  exact hw
def mp_isName (x1 : Int32) (μ : mo_U) (Q : Int32 → mo_U → Prop) : Prop :=     ((x1 < ((97 : Int32)) → Q ((0 : Int32)) μ) ∧ (¬ x1 < ((97 : Int32)) → (((122 : Int32)) < x1 → Q ((0 : Int32)) μ) ∧ (¬ ((122 : Int32)) < x1 → Q ((1 : Int32)) μ)))
set_option maxHeartbeats 4000000 in
theorem mq_isName {σ0 : z_S} {m : Nat} {ma : Nat → Nat} (hT : mo_T σ0 m ma) (x1 : Int32) (μ : mo_U) (Q : Int32 → mo_U → Prop) (Post : Int32 → z_S → Prop) (hQ : (∀ r μ', Q r μ' → Post r (mo_put σ0 m ma μ'))) (hw : mp_isName x1 μ Q) : kp_Mo_isName x1 (mo_put σ0 m ma μ) Post := by
  unfold mp_isName at hw
  unfold kp_Mo_isName
  refine ⟨fun hc => ?_, fun hc => ?_⟩
  · have hw := hw.1 hc
    exact hQ _ _ hw
  · have hw := hw.2 hc
    refine ⟨fun hc => ?_, fun hc => ?_⟩
    · have hw := hw.1 hc
      exact hQ _ _ hw
    · have hw := hw.2 hc
      exact hQ _ _ hw
def mp_isVariable (x1 : Int32) (μ : mo_U) (Q : Int32 → mo_U → Prop) : Prop :=     ((x1 < ((65 : Int32)) → Q ((0 : Int32)) μ) ∧ (¬ x1 < ((65 : Int32)) → (((90 : Int32)) < x1 → Q ((0 : Int32)) μ) ∧ (¬ ((90 : Int32)) < x1 → Q ((1 : Int32)) μ)))
set_option maxHeartbeats 4000000 in
theorem mq_isVariable {σ0 : z_S} {m : Nat} {ma : Nat → Nat} (hT : mo_T σ0 m ma) (x1 : Int32) (μ : mo_U) (Q : Int32 → mo_U → Prop) (Post : Int32 → z_S → Prop) (hQ : (∀ r μ', Q r μ' → Post r (mo_put σ0 m ma μ'))) (hw : mp_isVariable x1 μ Q) : kp_Mo_isVariable x1 (mo_put σ0 m ma μ) Post := by
  unfold mp_isVariable at hw
  unfold kp_Mo_isVariable
  refine ⟨fun hc => ?_, fun hc => ?_⟩
  · have hw := hw.1 hc
    exact hQ _ _ hw
  · have hw := hw.2 hc
    refine ⟨fun hc => ?_, fun hc => ?_⟩
    · have hw := hw.1 hc
      exact hQ _ _ hw
    · have hw := hw.2 hc
      exact hQ _ _ hw
def mp_isDigit (x1 : Int32) (μ : mo_U) (Q : Int32 → mo_U → Prop) : Prop :=     ((x1 < ((48 : Int32)) → Q ((0 : Int32)) μ) ∧ (¬ x1 < ((48 : Int32)) → (((57 : Int32)) < x1 → Q ((0 : Int32)) μ) ∧ (¬ ((57 : Int32)) < x1 → Q ((1 : Int32)) μ)))
set_option maxHeartbeats 4000000 in
theorem mq_isDigit {σ0 : z_S} {m : Nat} {ma : Nat → Nat} (hT : mo_T σ0 m ma) (x1 : Int32) (μ : mo_U) (Q : Int32 → mo_U → Prop) (Post : Int32 → z_S → Prop) (hQ : (∀ r μ', Q r μ' → Post r (mo_put σ0 m ma μ'))) (hw : mp_isDigit x1 μ Q) : kp_Mo_isDigit x1 (mo_put σ0 m ma μ) Post := by
  unfold mp_isDigit at hw
  unfold kp_Mo_isDigit
  refine ⟨fun hc => ?_, fun hc => ?_⟩
  · have hw := hw.1 hc
    exact hQ _ _ hw
  · have hw := hw.2 hc
    refine ⟨fun hc => ?_, fun hc => ?_⟩
    · have hw := hw.1 hc
      exact hQ _ _ hw
    · have hw := hw.2 hc
      exact hQ _ _ hw
def mp_relationAt (μ : mo_U) (Q : Int32 → mo_U → Prop) : Prop := ∀ (X21 : Int32 → Int32 → mo_U → Prop) (X123 : Int32 → mo_U → Prop),
    (∀ (v1 : Int32) (v2 : Int32) (μ : mo_U), (((μ.1 817) ≤ v2 → (¬ v1 = ((-1 : Int32)) → X123 v1 μ) ∧ (v1 = ((-1 : Int32)) → (¬ (μ.1 817) = ((8 : Int32)) → mp_sign μ (fun (r89 : Int32) (μ89 : mo_U) => vp_in (μ.1 817) 9 ∧ ∀ μ92, μ92 = mu_sA μ89 34 (upd (μ89.2 34) (μ.1 817).toNatClampNeg r89) → vp_in (μ92.1 817) 9 ∧ ∀ μ102, μ102 = mu_sA μ92 35 (upd (μ92.2 35) (μ92.1 817).toNatClampNeg ((0 : Int32))) → vp_in (μ102.1 817) 9 ∧ ∀ μ112, μ112 = mu_sA μ102 36 (upd (μ102.2 36) (μ102.1 817).toNatClampNeg (vp_nar .boolean ((0 : Int32)))) → ∀ μ120, μ120 = mu_sI μ112 817 ((μ112.1 817) + ((1 : Int32))) → X123 (μ.1 817) μ120)) ∧ ((μ.1 817) = ((8 : Int32)) → mp_wrong ((3 : Int32)) μ (fun (μ70 : mo_U) => Q ((0 : Int32)) μ70)))) ∧ (¬ (μ.1 817) ≤ v2 → vp_in v2 9 ∧ (mp_sign μ (fun (r36 : Int32) (μ36 : mo_U) => (¬ (μ.2 34 v2.toNatClampNeg) = r36 → X21 v1 (v2 + (1 : Int32)) μ36) ∧ ((μ.2 34 v2.toNatClampNeg) = r36 → X21 v2 (v2 + (1 : Int32)) μ36))))) → X21 v1 v2 μ) →
    (∀ (v1 : Int32) (μ : mo_U), (∀ μ130, μ130 = mu_sI μ 805 ((μ.1 805) + ((1 : Int32))) → Q v1 μ130) → X123 v1 μ) →
    (mp_sign μ (fun (r1 : Int32) (μ1 : mo_U) => mp_isName r1 μ1 (fun (r4 : Int32) (μ4 : mo_U) => (¬ r4 = 0 → X21 ((-1 : Int32)) ((0 : Int32)) μ4) ∧ (r4 = 0 → mp_wrong ((1 : Int32)) μ4 (fun (μ12 : mo_U) => Q ((0 : Int32)) μ12)))))
set_option maxHeartbeats 4000000 in
theorem mq_relationAt {σ0 : z_S} {m : Nat} {ma : Nat → Nat} (hT : mo_T σ0 m ma) (μ : mo_U) (Q : Int32 → mo_U → Prop) (Post : Int32 → z_S → Prop) (hQ : (∀ r μ', Q r μ' → Post r (mo_put σ0 m ma μ'))) (hw : mp_relationAt μ Q) : kp_Mo_relationAt m (mo_put σ0 m ma μ) Post := by
  unfold mp_relationAt at hw
  unfold kp_Mo_relationAt
  intro X21 X123 hX21 hX123
  have hw := hw (fun (v1 : Int32) (v2 : Int32) (μ : mo_U) => X21 v1 v2 (mo_put σ0 m ma μ))
  have hw := hw (fun (v1 : Int32) (μ : mo_U) => X123 v1 (mo_put σ0 m ma μ))
  have hw := hw (by
    intro v1 v2 μ hw
    refine hX21 _ _ _  ?_
    refine ⟨mo_ty0 hT, ?_⟩
    try rw [mo_I σ0 m ma μ 817]
    refine ⟨fun hc => ?_, fun hc => ?_⟩
    · have hw := hw.1 hc
      refine ⟨fun hc => ?_, fun hc => ?_⟩
      · have hw := hw.1 hc
        exact hw
      · have hw := hw.2 hc
        refine ⟨mo_ty0 hT, ?_⟩
        try rw [mo_I σ0 m ma μ 817]
        refine ⟨fun hc => ?_, fun hc => ?_⟩
        · have hw := hw.1 hc
          refine ⟨mo_ty0 hT, ?_⟩
          try rw [mo_I σ0 m ma μ 817]
          refine ⟨mo_ty0 hT, ma 34, mo_R818 hT, ?_⟩
          refine ⟨mo_ty0 hT, ?_⟩
          try rw [mo_I σ0 m ma μ 817]
          refine ⟨mo_ty0 hT, mq_sign hT μ _ _ (fun r89 μ89 hw => ?_) hw⟩
          refine ⟨9, 34, mo_T34 hT, hw.1, fun σ92 e92 => ?_⟩
          replace hw := hw.2
          rw [mo_A σ0 m ma μ89 34, mo_sA] at e92
          obtain ⟨μ92, f92⟩ : ∃ z, z = mu_sA μ89 34 (upd (μ89.2 34) (μ.1 817).toNatClampNeg r89) := ⟨_, rfl⟩
          rw [← f92] at e92
          subst e92
          have hw := hw _ f92
          refine ⟨mo_ty0 hT, ma 35, mo_R819 hT, ?_⟩
          refine ⟨mo_ty0 hT, ?_⟩
          try rw [mo_I σ0 m ma μ92 817]
          refine ⟨9, 35, mo_T35 hT, hw.1, fun σ102 e102 => ?_⟩
          replace hw := hw.2
          rw [mo_A σ0 m ma μ92 35, mo_sA] at e102
          obtain ⟨μ102, f102⟩ : ∃ z, z = mu_sA μ92 35 (upd (μ92.2 35) (μ92.1 817).toNatClampNeg ((0 : Int32))) := ⟨_, rfl⟩
          rw [← f102] at e102
          subst e102
          have hw := hw _ f102
          refine ⟨mo_ty0 hT, ma 36, mo_R820 hT, ?_⟩
          refine ⟨mo_ty0 hT, ?_⟩
          try rw [mo_I σ0 m ma μ102 817]
          refine ⟨9, 36, mo_T36 hT, hw.1, fun σ112 e112 => ?_⟩
          replace hw := hw.2
          rw [mo_A σ0 m ma μ102 36, mo_sA] at e112
          obtain ⟨μ112, f112⟩ : ∃ z, z = mu_sA μ102 36 (upd (μ102.2 36) (μ102.1 817).toNatClampNeg (vp_nar .boolean ((0 : Int32)))) := ⟨_, rfl⟩
          rw [← f112] at e112
          subst e112
          have hw := hw _ f112
          refine ⟨mo_ty0 hT, ?_⟩
          try rw [mo_I σ0 m ma μ112 817]
          refine ⟨mo_ty0 hT, fun σ120 e120 => ?_⟩
          rw [mo_sI] at e120
          obtain ⟨μ120, f120⟩ : ∃ z, z = mu_sI μ112 817 ((μ112.1 817) + ((1 : Int32))) := ⟨_, rfl⟩
          rw [← f120] at e120
          subst e120
          have hw := hw _ f120
          exact hw
        · have hw := hw.2 hc
          refine ⟨mo_ty0 hT, mq_wrong hT ((3 : Int32)) μ _ _ (fun μ70 hw => ?_) hw⟩
          exact hQ _ _ hw
    · have hw := hw.2 hc
      refine ⟨mo_ty0 hT, ma 34, mo_R818 hT, ?_⟩
      refine ⟨9, 34, mo_T34 hT, hw.1, ?_⟩
      replace hw := hw.2
      try rw [mo_A σ0 m ma μ 34]
      refine ⟨mo_ty0 hT, mq_sign hT μ _ _ (fun r36 μ36 hw => ?_) hw⟩
      refine ⟨fun hc => ?_, fun hc => ?_⟩
      · have hw := hw.1 hc
        exact hw
      · have hw := hw.2 hc
        exact hw)
  have hw := hw (by
    intro v1 μ hw
    refine hX123 _ _  ?_
    refine ⟨mo_ty0 hT, ?_⟩
    try rw [mo_I σ0 m ma μ 805]
    refine ⟨mo_ty0 hT, fun σ130 e130 => ?_⟩
    rw [mo_sI] at e130
    obtain ⟨μ130, f130⟩ : ∃ z, z = mu_sI μ 805 ((μ.1 805) + ((1 : Int32))) := ⟨_, rfl⟩
    rw [← f130] at e130
    subst e130
    have hw := hw _ f130
    exact hQ _ _ hw)
  refine ⟨mo_ty0 hT, mq_sign hT μ _ _ (fun r1 μ1 hw => ?_) hw⟩
  refine mq_isName hT r1 μ1 _ _ (fun r4 μ4 hw => ?_) hw
  refine ⟨fun hc => ?_, fun hc => ?_⟩
  · have hw := hw.1 hc
    exact hw
  · have hw := hw.2 hc
    refine ⟨mo_ty0 hT, mq_wrong hT ((1 : Int32)) μ4 _ _ (fun μ12 hw => ?_) hw⟩
    exact hQ _ _ hw
def mp_term (x1 : Int32) (μ : mo_U) (Q : Int32 → mo_U → Prop) : Prop := ∀ (X51 : Int32 → Int32 → mo_U → Prop) (X95 : Int32 → Int32 → mo_U → Prop) (X141 : Int32 → Int32 → mo_U → Prop),
    (∀ (v2 : Int32) (v3 : Int32) (μ : mo_U), (vp_in x1 17 ∧ (vp_in x1 17 ∧ ∀ μ60, μ60 = mu_sA μ 33 (upd (μ.2 33) x1.toNatClampNeg ((μ.2 33 x1.toNatClampNeg) ||| v3)) → ∀ μ68, μ68 = mu_sI μ60 805 ((μ60.1 805) + ((1 : Int32))) → Q (v2 - ((65 : Int32))) μ68)) → X51 v2 v3 μ) →
    (∀ (v3 : Int32) (v4 : Int32) (μ : mo_U), ((((3 : Int32)) ≤ v4 → Q (((100 : Int32)) + v3) μ) ∧ (¬ ((3 : Int32)) ≤ v4 → mp_sign μ (fun (r102 : Int32) (μ102 : mo_U) => mp_isDigit r102 μ102 (fun (r105 : Int32) (μ105 : mo_U) => (r105 = 0 → Q (((100 : Int32)) + v3) μ105) ∧ (¬ r105 = 0 → (v4 = 0 → X141 v3 v4 μ105) ∧ (¬ v4 = 0 → vp_in (μ105.1 805) 602 ∧ (vp_in ((μ105.1 805) - ((1 : Int32))) 602 ∧ ((¬ (μ105.2 25 (μ105.1 805).toNatClampNeg) = ((μ105.2 25 ((μ105.1 805) - ((1 : Int32))).toNatClampNeg) + ((1 : Int32))) → Q (((100 : Int32)) + v3) μ105) ∧ ((μ105.2 25 (μ105.1 805).toNatClampNeg) = ((μ105.2 25 ((μ105.1 805) - ((1 : Int32))).toNatClampNeg) + ((1 : Int32))) → X141 v3 v4 μ105))))))))) → X95 v3 v4 μ) →
    (∀ (v3 : Int32) (v4 : Int32) (μ : mo_U), (mp_sign μ (fun (r146 : Int32) (μ146 : mo_U) => ∀ μ161, μ161 = mu_sI μ146 805 ((μ146.1 805) + ((1 : Int32))) → X95 (((((10 : Int32)) * v3) + r146) - ((48 : Int32))) (v4 + (1 : Int32)) μ161)) → X141 v3 v4 μ) →
    (mp_sign μ (fun (r1 : Int32) (μ1 : mo_U) => mp_isVariable r1 μ1 (fun (r6 : Int32) (μ6 : mo_U) => (r6 = 0 → mp_isDigit r1 μ6 (fun (r77 : Int32) (μ77 : mo_U) => (¬ r77 = 0 → X95 ((0 : Int32)) ((0 : Int32)) μ77) ∧ (r77 = 0 → mp_wrong ((1 : Int32)) μ77 (fun (μ85 : mo_U) => Q ((0 : Int32)) μ85)))) ∧ (¬ r6 = 0 → vp_in x1 17 ∧ ((¬ (((μ6.2 33 x1.toNatClampNeg) &&& (((1 : Int32)) <<< ((r1 - ((65 : Int32))) &&& 31)))) = 0 → X51 r1 (((1 : Int32)) <<< ((r1 - ((65 : Int32))) &&& 31)) μ6) ∧ ((((μ6.2 33 x1.toNatClampNeg) &&& (((1 : Int32)) <<< ((r1 - ((65 : Int32))) &&& 31)))) = 0 → vp_in x1 17 ∧ (mp_count (μ6.2 33 x1.toNatClampNeg) μ6 (fun (r36 : Int32) (μ36 : mo_U) => (¬ r36 = ((6 : Int32)) → X51 r1 (((1 : Int32)) <<< ((r1 - ((65 : Int32))) &&& 31)) μ36) ∧ (r36 = ((6 : Int32)) → mp_wrong ((3 : Int32)) μ36 (fun (μ46 : mo_U) => Q ((0 : Int32)) μ46))))))))))
set_option maxHeartbeats 4000000 in
theorem mq_term {σ0 : z_S} {m : Nat} {ma : Nat → Nat} (hT : mo_T σ0 m ma) (x1 : Int32) (μ : mo_U) (Q : Int32 → mo_U → Prop) (Post : Int32 → z_S → Prop) (hQ : (∀ r μ', Q r μ' → Post r (mo_put σ0 m ma μ'))) (hw : mp_term x1 μ Q) : kp_Mo_term m x1 (mo_put σ0 m ma μ) Post := by
  unfold mp_term at hw
  unfold kp_Mo_term
  intro X51 X95 X141 hX51 hX95 hX141
  have hw := hw (fun (v2 : Int32) (v3 : Int32) (μ : mo_U) => X51 v2 v3 (mo_put σ0 m ma μ))
  have hw := hw (fun (v3 : Int32) (v4 : Int32) (μ : mo_U) => X95 v3 v4 (mo_put σ0 m ma μ))
  have hw := hw (fun (v3 : Int32) (v4 : Int32) (μ : mo_U) => X141 v3 v4 (mo_put σ0 m ma μ))
  have hw := hw (by
    intro v2 v3 μ hw
    refine hX51 _ _ _  ?_
    refine ⟨mo_ty0 hT, ma 33, mo_R816 hT, ?_⟩
    refine ⟨17, 33, mo_T33 hT, hw.1, ?_⟩
    replace hw := hw.2
    try rw [mo_A σ0 m ma μ 33]
    refine ⟨17, 33, mo_T33 hT, hw.1, fun σ60 e60 => ?_⟩
    replace hw := hw.2
    rw [mo_A σ0 m ma μ 33, mo_sA] at e60
    obtain ⟨μ60, f60⟩ : ∃ z, z = mu_sA μ 33 (upd (μ.2 33) x1.toNatClampNeg ((μ.2 33 x1.toNatClampNeg) ||| v3)) := ⟨_, rfl⟩
    rw [← f60] at e60
    subst e60
    have hw := hw _ f60
    refine ⟨mo_ty0 hT, ?_⟩
    try rw [mo_I σ0 m ma μ60 805]
    refine ⟨mo_ty0 hT, fun σ68 e68 => ?_⟩
    rw [mo_sI] at e68
    obtain ⟨μ68, f68⟩ : ∃ z, z = mu_sI μ60 805 ((μ60.1 805) + ((1 : Int32))) := ⟨_, rfl⟩
    rw [← f68] at e68
    subst e68
    have hw := hw _ f68
    exact hQ _ _ hw)
  have hw := hw (by
    intro v3 v4 μ hw
    refine hX95 _ _ _  ?_
    refine ⟨fun hc => ?_, fun hc => ?_⟩
    · have hw := hw.1 hc
      exact hQ _ _ hw
    · have hw := hw.2 hc
      refine ⟨mo_ty0 hT, mq_sign hT μ _ _ (fun r102 μ102 hw => ?_) hw⟩
      refine mq_isDigit hT r102 μ102 _ _ (fun r105 μ105 hw => ?_) hw
      refine ⟨fun hc => ?_, fun hc => ?_⟩
      · have hw := hw.1 hc
        exact hQ _ _ hw
      · have hw := hw.2 hc
        refine ⟨fun hc => ?_, fun hc => ?_⟩
        · have hw := hw.1 hc
          exact hw
        · have hw := hw.2 hc
          refine ⟨mo_ty0 hT, ma 25, mo_R803 hT, ?_⟩
          refine ⟨mo_ty0 hT, ?_⟩
          try rw [mo_I σ0 m ma μ105 805]
          refine ⟨602, 25, mo_T25 hT, hw.1, ?_⟩
          replace hw := hw.2
          try rw [mo_A σ0 m ma μ105 25]
          refine ⟨mo_ty0 hT, ma 25, mo_R803 hT, ?_⟩
          refine ⟨mo_ty0 hT, ?_⟩
          try rw [mo_I σ0 m ma μ105 805]
          refine ⟨602, 25, mo_T25 hT, hw.1, ?_⟩
          replace hw := hw.2
          try rw [mo_A σ0 m ma μ105 25]
          refine ⟨fun hc => ?_, fun hc => ?_⟩
          · have hw := hw.1 hc
            exact hQ _ _ hw
          · have hw := hw.2 hc
            exact hw)
  have hw := hw (by
    intro v3 v4 μ hw
    refine hX141 _ _ _  ?_
    refine ⟨mo_ty0 hT, mq_sign hT μ _ _ (fun r146 μ146 hw => ?_) hw⟩
    refine ⟨mo_ty0 hT, ?_⟩
    try rw [mo_I σ0 m ma μ146 805]
    refine ⟨mo_ty0 hT, fun σ161 e161 => ?_⟩
    rw [mo_sI] at e161
    obtain ⟨μ161, f161⟩ : ∃ z, z = mu_sI μ146 805 ((μ146.1 805) + ((1 : Int32))) := ⟨_, rfl⟩
    rw [← f161] at e161
    subst e161
    have hw := hw _ f161
    exact hw)
  refine ⟨mo_ty0 hT, mq_sign hT μ _ _ (fun r1 μ1 hw => ?_) hw⟩
  refine mq_isVariable hT r1 μ1 _ _ (fun r6 μ6 hw => ?_) hw
  refine ⟨fun hc => ?_, fun hc => ?_⟩
  · have hw := hw.1 hc
    refine mq_isDigit hT r1 μ6 _ _ (fun r77 μ77 hw => ?_) hw
    refine ⟨fun hc => ?_, fun hc => ?_⟩
    · have hw := hw.1 hc
      exact hw
    · have hw := hw.2 hc
      refine ⟨mo_ty0 hT, mq_wrong hT ((1 : Int32)) μ77 _ _ (fun μ85 hw => ?_) hw⟩
      exact hQ _ _ hw
  · have hw := hw.2 hc
    refine ⟨mo_ty0 hT, ma 33, mo_R816 hT, ?_⟩
    refine ⟨17, 33, mo_T33 hT, hw.1, ?_⟩
    replace hw := hw.2
    try rw [mo_A σ0 m ma μ6 33]
    refine ⟨fun hc => ?_, fun hc => ?_⟩
    · have hw := hw.1 hc
      exact hw
    · have hw := hw.2 hc
      refine ⟨mo_ty0 hT, ma 33, mo_R816 hT, ?_⟩
      refine ⟨17, 33, mo_T33 hT, hw.1, ?_⟩
      replace hw := hw.2
      try rw [mo_A σ0 m ma μ6 33]
      refine mq_count hT (μ6.2 33 x1.toNatClampNeg) μ6 _ _ (fun r36 μ36 hw => ?_) hw
      refine ⟨fun hc => ?_, fun hc => ?_⟩
      · have hw := hw.1 hc
        exact hw
      · have hw := hw.2 hc
        refine ⟨mo_ty0 hT, mq_wrong hT ((3 : Int32)) μ36 _ _ (fun μ46 hw => ?_) hw⟩
        exact hQ _ _ hw
def mp_terms (x1 : Int32) (x2 : Int32) (b3 : Nat) (x4 : Int32) (x5 : Int32) (μ : mo_U) (Q : mo_U → Prop) : Prop := ∀ (X29 : Int32 → Int32 → Int32 → Int32 → mo_U → Prop) (X50 : Int32 → Int32 → Int32 → mo_U → Prop) (X94 : Int32 → Int32 → mo_U → Prop) (X106 : Int32 → Int32 → mo_U → Prop) (X141 : Int32 → Int32 → Int32 → mo_U → Prop) (X158 : Int32 → Int32 → Int32 → Int32 → Int32 → mo_U → Prop) (X206 : Int32 → Int32 → mo_U → Prop) (X227 : Int32 → mo_U → Prop) (X251 : Int32 → Int32 → mo_U → Prop),
    (∀ (v6 : Int32) (v7 : Int32) (v8 : Int32) (v9 : Int32) (μ : mo_U), ((((3 : Int32)) ≤ v9 → X50 v6 v7 v8 μ) ∧ (¬ ((3 : Int32)) ≤ v9 → mo_ok b3 0 ∧ vp_in (x4 + v9) (mo_len b3) ∧ ∀ μ43, μ43 = mu_sA μ b3 (upd (μ.2 b3) (x4 + v9).toNatClampNeg ((100 : Int32))) → X29 v6 v7 v8 (v9 + (1 : Int32)) μ43)) → X29 v6 v7 v8 v9 μ) →
    (∀ (v6 : Int32) (v7 : Int32) (v8 : Int32) (μ : mo_U), ((v7 = 0 → (¬ ((μ.1 806)) = 0 → X206 v6 v8 μ) ∧ (((μ.1 806)) = 0 → mp_sign μ (fun (r173 : Int32) (μ173 : mo_U) => (¬ r173 = ((41 : Int32)) → X206 v6 v8 μ173) ∧ (r173 = ((41 : Int32)) → vp_in x2 9 ∧ ((((μ173.2 35 x2.toNatClampNeg)) = 0 → X206 v6 v8 μ173) ∧ (¬ ((μ173.2 35 x2.toNatClampNeg)) = 0 → vp_in x2 9 ∧ (((μ173.2 35 x2.toNatClampNeg) = v6 → X206 v6 v8 μ173) ∧ (¬ (μ173.2 35 x2.toNatClampNeg) = v6 → mp_wrong ((2 : Int32)) μ173 (fun (μ203 : mo_U) => X206 v6 v8 μ203))))))))) ∧ (¬ v7 = 0 → (x5 = 0 → X94 v6 v8 μ) ∧ (¬ x5 = 0 → mp_sign μ (fun (r61 : Int32) (μ61 : mo_U) => (¬ r61 = ((35 : Int32)) → X94 v6 v8 μ61) ∧ (r61 = ((35 : Int32)) → mo_ok b3 0 ∧ vp_in (x4 + v6) (mo_len b3) ∧ ∀ μ77, μ77 = mu_sA μ61 b3 (upd (μ61.2 b3) (x4 + v6).toNatClampNeg ((99 : Int32))) → ∀ μ85, μ85 = mu_sI μ77 805 ((μ77.1 805) + ((1 : Int32))) → X106 v6 ((1 : Int32)) μ85))))) → X50 v6 v7 v8 μ) →
    (∀ (v6 : Int32) (v8 : Int32) (μ : mo_U), (mp_term x1 μ (fun (r102 : Int32) (μ102 : mo_U) => mo_ok b3 0 ∧ vp_in (x4 + v6) (mo_len b3) ∧ ∀ μ105, μ105 = mu_sA μ102 b3 (upd (μ102.2 b3) (x4 + v6).toNatClampNeg r102) → X106 v6 v8 μ105)) → X94 v6 v8 μ) →
    (∀ (v6 : Int32) (v8 : Int32) (μ : mo_U), ((¬ ((μ.1 806)) = 0 → X141 (v6 + (1 : Int32)) v8 ((0 : Int32)) μ) ∧ (((μ.1 806)) = 0 → (¬ v8 = 0 → X141 (v6 + (1 : Int32)) v8 ((0 : Int32)) μ) ∧ (v8 = 0 → (((3 : Int32)) ≤ (v6 + (1 : Int32)) → X141 (v6 + (1 : Int32)) v8 ((0 : Int32)) μ) ∧ (¬ ((3 : Int32)) ≤ (v6 + (1 : Int32)) → mp_sign μ (fun (r128 : Int32) (μ128 : mo_U) => (¬ r128 = ((44 : Int32)) → X141 (v6 + (1 : Int32)) v8 ((0 : Int32)) μ128) ∧ (r128 = ((44 : Int32)) → X141 (v6 + (1 : Int32)) v8 ((1 : Int32)) μ128)))))) → X106 v6 v8 μ) →
    (∀ (v6 : Int32) (v8 : Int32) (t0 : Int32) (μ : mo_U), ((t0 = 0 → X158 v6 t0 v8 (μ.1 805) ((0 : Int32)) μ) ∧ (¬ t0 = 0 → X158 v6 t0 v8 (μ.1 805) ((1 : Int32)) μ)) → X141 v6 v8 t0 μ) →
    (∀ (v6 : Int32) (v7 : Int32) (v8 : Int32) (t1 : Int32) (t2 : Int32) (μ : mo_U), (∀ μ159, μ159 = mu_sI μ 805 (t1 + t2) → X50 v6 v7 v8 μ159) → X158 v6 v7 v8 t1 t2 μ) →
    (∀ (v6 : Int32) (v8 : Int32) (μ : mo_U), (mp_take ((41 : Int32)) μ (fun (μ209 : mo_U) => (¬ ((μ209.1 806)) = 0 → X227 v8 μ209) ∧ (((μ209.1 806)) = 0 → vp_in x2 9 ∧ ∀ μ226, μ226 = mu_sA μ209 35 (upd (μ209.2 35) x2.toNatClampNeg v6) → X227 v8 μ226))) → X206 v6 v8 μ) →
    (∀ (v8 : Int32) (μ : mo_U), (vp_in x1 17 ∧ ((¬ ((μ.2 32 x1.toNatClampNeg)) = 0 → X251 x1 ((1 : Int32)) μ) ∧ (((μ.2 32 x1.toNatClampNeg)) = 0 → (v8 = 0 → X251 x1 ((0 : Int32)) μ) ∧ (¬ v8 = 0 → X251 x1 ((1 : Int32)) μ)))) → X227 v8 μ) →
    (∀ (t1 : Int32) (t2 : Int32) (μ : mo_U), (vp_in t1 17 ∧ ∀ μ251, μ251 = mu_sA μ 32 (upd (μ.2 32) t1.toNatClampNeg (vp_nar .boolean t2)) → Q μ251) → X251 t1 t2 μ) →
    (mp_take ((40 : Int32)) μ (fun (μ3 : mo_U) => (¬ ((μ3.1 806)) = 0 → X29 ((0 : Int32)) ((0 : Int32)) ((0 : Int32)) ((0 : Int32)) μ3) ∧ (((μ3.1 806)) = 0 → X29 ((0 : Int32)) ((1 : Int32)) ((0 : Int32)) ((0 : Int32)) μ3)))
set_option maxHeartbeats 4000000 in
theorem mq_terms {σ0 : z_S} {m : Nat} {ma : Nat → Nat} (hT : mo_T σ0 m ma) (x1 : Int32) (x2 : Int32) (b3 : Nat) (x4 : Int32) (x5 : Int32) (μ : mo_U) (Q : mo_U → Prop) (Post : z_S → Prop) (hQ : (∀ μ', Q μ' → Post (mo_put σ0 m ma μ'))) (hw : mp_terms x1 x2 b3 x4 x5 μ Q) : kp_Mo_terms m x1 x2 (ma b3) x4 x5 (mo_put σ0 m ma μ) Post := by
  unfold mp_terms at hw
  unfold kp_Mo_terms
  intro X29 X50 X94 X106 X141 X158 X206 X227 X251 hX29 hX50 hX94 hX106 hX141 hX158 hX206 hX227 hX251
  have hw := hw (fun (v6 : Int32) (v7 : Int32) (v8 : Int32) (v9 : Int32) (μ : mo_U) => X29 v6 v7 v8 v9 (mo_put σ0 m ma μ))
  have hw := hw (fun (v6 : Int32) (v7 : Int32) (v8 : Int32) (μ : mo_U) => X50 v6 v7 v8 (mo_put σ0 m ma μ))
  have hw := hw (fun (v6 : Int32) (v8 : Int32) (μ : mo_U) => X94 v6 v8 (mo_put σ0 m ma μ))
  have hw := hw (fun (v6 : Int32) (v8 : Int32) (μ : mo_U) => X106 v6 v8 (mo_put σ0 m ma μ))
  have hw := hw (fun (v6 : Int32) (v8 : Int32) (t0 : Int32) (μ : mo_U) => X141 v6 v8 t0 (mo_put σ0 m ma μ))
  have hw := hw (fun (v6 : Int32) (v7 : Int32) (v8 : Int32) (t1 : Int32) (t2 : Int32) (μ : mo_U) => X158 v6 v7 v8 m t1 t2 (mo_put σ0 m ma μ))
  have hw := hw (fun (v6 : Int32) (v8 : Int32) (μ : mo_U) => X206 v6 v8 (mo_put σ0 m ma μ))
  have hw := hw (fun (v8 : Int32) (μ : mo_U) => X227 v8 (mo_put σ0 m ma μ))
  have hw := hw (fun (t1 : Int32) (t2 : Int32) (μ : mo_U) => X251 (ma 32) t1 t2 (mo_put σ0 m ma μ))
  have hw := hw (by
    intro v6 v7 v8 v9 μ hw
    refine hX29 _ _ _ _ _  ?_
    refine ⟨fun hc => ?_, fun hc => ?_⟩
    · have hw := hw.1 hc
      exact hw
    · have hw := hw.2 hc
      obtain ⟨hk, hw⟩ := hw
      refine ⟨(mo_len b3), b3, mo_Ts hT hk, hw.1, fun σ43 e43 => ?_⟩
      replace hw := hw.2
      rw [mo_A σ0 m ma μ b3, mo_sA] at e43
      obtain ⟨μ43, f43⟩ : ∃ z, z = mu_sA μ b3 (upd (μ.2 b3) (x4 + v9).toNatClampNeg ((100 : Int32))) := ⟨_, rfl⟩
      rw [← f43] at e43
      subst e43
      have hw := hw _ f43
      exact hw)
  have hw := hw (by
    intro v6 v7 v8 μ hw
    refine hX50 _ _ _ _  ?_
    refine ⟨fun hc => ?_, fun hc => ?_⟩
    · have hw := hw.1 hc
      refine ⟨mo_ty0 hT, ?_⟩
      try rw [mo_I σ0 m ma μ 806]
      refine ⟨fun hc => ?_, fun hc => ?_⟩
      · have hw := hw.1 hc
        exact hw
      · have hw := hw.2 hc
        refine ⟨mo_ty0 hT, mq_sign hT μ _ _ (fun r173 μ173 hw => ?_) hw⟩
        refine ⟨fun hc => ?_, fun hc => ?_⟩
        · have hw := hw.1 hc
          exact hw
        · have hw := hw.2 hc
          refine ⟨mo_ty0 hT, ma 35, mo_R819 hT, ?_⟩
          refine ⟨9, 35, mo_T35 hT, hw.1, ?_⟩
          replace hw := hw.2
          try rw [mo_A σ0 m ma μ173 35]
          refine ⟨fun hc => ?_, fun hc => ?_⟩
          · have hw := hw.1 hc
            exact hw
          · have hw := hw.2 hc
            refine ⟨mo_ty0 hT, ma 35, mo_R819 hT, ?_⟩
            refine ⟨9, 35, mo_T35 hT, hw.1, ?_⟩
            replace hw := hw.2
            try rw [mo_A σ0 m ma μ173 35]
            refine ⟨fun hc => ?_, fun hc => ?_⟩
            · have hw := hw.1 hc
              exact hw
            · have hw := hw.2 hc
              refine ⟨mo_ty0 hT, mq_wrong hT ((2 : Int32)) μ173 _ _ (fun μ203 hw => ?_) hw⟩
              exact hw
    · have hw := hw.2 hc
      refine ⟨fun hc => ?_, fun hc => ?_⟩
      · have hw := hw.1 hc
        exact hw
      · have hw := hw.2 hc
        refine ⟨mo_ty0 hT, mq_sign hT μ _ _ (fun r61 μ61 hw => ?_) hw⟩
        refine ⟨fun hc => ?_, fun hc => ?_⟩
        · have hw := hw.1 hc
          exact hw
        · have hw := hw.2 hc
          obtain ⟨hk, hw⟩ := hw
          refine ⟨(mo_len b3), b3, mo_Ts hT hk, hw.1, fun σ77 e77 => ?_⟩
          replace hw := hw.2
          rw [mo_A σ0 m ma μ61 b3, mo_sA] at e77
          obtain ⟨μ77, f77⟩ : ∃ z, z = mu_sA μ61 b3 (upd (μ61.2 b3) (x4 + v6).toNatClampNeg ((99 : Int32))) := ⟨_, rfl⟩
          rw [← f77] at e77
          subst e77
          have hw := hw _ f77
          refine ⟨mo_ty0 hT, ?_⟩
          try rw [mo_I σ0 m ma μ77 805]
          refine ⟨mo_ty0 hT, fun σ85 e85 => ?_⟩
          rw [mo_sI] at e85
          obtain ⟨μ85, f85⟩ : ∃ z, z = mu_sI μ77 805 ((μ77.1 805) + ((1 : Int32))) := ⟨_, rfl⟩
          rw [← f85] at e85
          subst e85
          have hw := hw _ f85
          exact hw)
  have hw := hw (by
    intro v6 v8 μ hw
    refine hX94 _ _ _  ?_
    refine ⟨mo_ty0 hT, mq_term hT x1 μ _ _ (fun r102 μ102 hw => ?_) hw⟩
    obtain ⟨hk, hw⟩ := hw
    refine ⟨(mo_len b3), b3, mo_Ts hT hk, hw.1, fun σ105 e105 => ?_⟩
    replace hw := hw.2
    rw [mo_A σ0 m ma μ102 b3, mo_sA] at e105
    obtain ⟨μ105, f105⟩ : ∃ z, z = mu_sA μ102 b3 (upd (μ102.2 b3) (x4 + v6).toNatClampNeg r102) := ⟨_, rfl⟩
    rw [← f105] at e105
    subst e105
    have hw := hw _ f105
    exact hw)
  have hw := hw (by
    intro v6 v8 μ hw
    refine hX106 _ _ _  ?_
    refine ⟨mo_ty0 hT, ?_⟩
    try rw [mo_I σ0 m ma μ 806]
    refine ⟨fun hc => ?_, fun hc => ?_⟩
    · have hw := hw.1 hc
      exact hw
    · have hw := hw.2 hc
      refine ⟨fun hc => ?_, fun hc => ?_⟩
      · have hw := hw.1 hc
        exact hw
      · have hw := hw.2 hc
        refine ⟨fun hc => ?_, fun hc => ?_⟩
        · have hw := hw.1 hc
          exact hw
        · have hw := hw.2 hc
          refine ⟨mo_ty0 hT, mq_sign hT μ _ _ (fun r128 μ128 hw => ?_) hw⟩
          refine ⟨fun hc => ?_, fun hc => ?_⟩
          · have hw := hw.1 hc
            exact hw
          · have hw := hw.2 hc
            exact hw)
  have hw := hw (by
    intro v6 v8 t0 μ hw
    refine hX141 _ _ _ _  ?_
    refine ⟨mo_ty0 hT, ?_⟩
    try rw [mo_I σ0 m ma μ 805]
    refine ⟨fun hc => ?_, fun hc => ?_⟩
    · have hw := hw.1 hc
      exact hw
    · have hw := hw.2 hc
      exact hw)
  have hw := hw (by
    intro v6 v7 v8 t1 t2 μ hw
    refine hX158 _ _ _ _ _ _ _  ?_
    refine ⟨mo_ty0 hT, fun σ159 e159 => ?_⟩
    rw [mo_sI] at e159
    obtain ⟨μ159, f159⟩ : ∃ z, z = mu_sI μ 805 (t1 + t2) := ⟨_, rfl⟩
    rw [← f159] at e159
    subst e159
    have hw := hw _ f159
    exact hw)
  have hw := hw (by
    intro v6 v8 μ hw
    refine hX206 _ _ _  ?_
    refine ⟨mo_ty0 hT, mq_take hT ((41 : Int32)) μ _ _ (fun μ209 hw => ?_) hw⟩
    refine ⟨mo_ty0 hT, ?_⟩
    try rw [mo_I σ0 m ma μ209 806]
    refine ⟨fun hc => ?_, fun hc => ?_⟩
    · have hw := hw.1 hc
      exact hw
    · have hw := hw.2 hc
      refine ⟨mo_ty0 hT, ma 35, mo_R819 hT, ?_⟩
      refine ⟨9, 35, mo_T35 hT, hw.1, fun σ226 e226 => ?_⟩
      replace hw := hw.2
      rw [mo_A σ0 m ma μ209 35, mo_sA] at e226
      obtain ⟨μ226, f226⟩ : ∃ z, z = mu_sA μ209 35 (upd (μ209.2 35) x2.toNatClampNeg v6) := ⟨_, rfl⟩
      rw [← f226] at e226
      subst e226
      have hw := hw _ f226
      exact hw)
  have hw := hw (by
    intro v8 μ hw
    refine hX227 _ _  ?_
    refine ⟨mo_ty0 hT, ma 32, mo_R815 hT, ?_⟩
    refine ⟨mo_ty0 hT, ma 32, mo_R815 hT, ?_⟩
    refine ⟨17, 32, mo_T32 hT, hw.1, ?_⟩
    replace hw := hw.2
    try rw [mo_A σ0 m ma μ 32]
    refine ⟨fun hc => ?_, fun hc => ?_⟩
    · have hw := hw.1 hc
      exact hw
    · have hw := hw.2 hc
      refine ⟨fun hc => ?_, fun hc => ?_⟩
      · have hw := hw.1 hc
        exact hw
      · have hw := hw.2 hc
        exact hw)
  have hw := hw (by
    intro t1 t2 μ hw
    refine hX251 _ _ _ _  ?_
    refine ⟨17, 32, mo_T32 hT, hw.1, fun σ251 e251 => ?_⟩
    replace hw := hw.2
    rw [mo_A σ0 m ma μ 32, mo_sA] at e251
    obtain ⟨μ251, f251⟩ : ∃ z, z = mu_sA μ 32 (upd (μ.2 32) t1.toNatClampNeg (vp_nar .boolean t2)) := ⟨_, rfl⟩
    rw [← f251] at e251
    subst e251
    have hw := hw _ f251
    exact hQ _ hw)
  refine ⟨mo_ty0 hT, mq_take hT ((40 : Int32)) μ _ _ (fun μ3 hw => ?_) hw⟩
  refine ⟨mo_ty0 hT, ?_⟩
  try rw [mo_I σ0 m ma μ3 806]
  refine ⟨fun hc => ?_, fun hc => ?_⟩
  · have hw := hw.1 hc
    exact hw
  · have hw := hw.2 hc
    exact hw
def mp_literal (x1 : Int32) (μ : mo_U) (Q : mo_U → Prop) : Prop := ∀ (X55 : Int32 → Int32 → Int32 → Int32 → mo_U → Prop) (X74 : Int32 → Int32 → Int32 → Int32 → Int32 → mo_U → Prop) (X129 : mo_U → Prop) (X135 : Int32 → Int32 → mo_U → Prop) (X150 : Int32 → Int32 → mo_U → Prop) (X167 : Int32 → Int32 → Int32 → Int32 → mo_U → Prop) (X185 : Int32 → Int32 → Int32 → mo_U → Prop) (X287 : Int32 → mo_U → Prop) (X314 : Int32 → Int32 → Int32 → mo_U → Prop) (X340 : Int32 → mo_U → Prop) (X352 : mo_U → Prop),
    (∀ (v2 : Int32) (v3 : Int32) (v4 : Int32) (t0 : Int32) (μ : mo_U), ((¬ t0 = 0 → X74 v2 v3 v4 ((0 : Int32)) ((0 : Int32)) μ) ∧ (t0 = 0 → mp_wrong ((1 : Int32)) μ (fun (μ64 : mo_U) => Q μ64))) → X55 v2 v3 v4 t0 μ) →
    (∀ (v2 : Int32) (v3 : Int32) (v4 : Int32) (v6 : Int32) (v7 : Int32) (μ : mo_U), ((v2 ≤ v7 → (v2 = ((5 : Int32)) → X129 μ) ∧ (¬ v2 = ((5 : Int32)) → mp_isName v4 μ (fun (r117 : Int32) (μ117 : mo_U) => (r117 = 0 → X135 v3 v4 μ117) ∧ (¬ r117 = 0 → (¬ v6 = ((3 : Int32)) → X135 v3 v4 μ117) ∧ (v6 = ((3 : Int32)) → X129 μ117))))) ∧ (¬ v2 ≤ v7 → vp_in ((((5 : Int32)) * x1) + v7) 85 ∧ ((¬ ((μ.2 29 ((((5 : Int32)) * x1) + v7).toNatClampNeg)) = 0 → X74 v2 v3 v4 (v6 + ((0 : Int32))) (v7 + (1 : Int32)) μ) ∧ (((μ.2 29 ((((5 : Int32)) * x1) + v7).toNatClampNeg)) = 0 → X74 v2 v3 v4 (v6 + ((1 : Int32))) (v7 + (1 : Int32)) μ)))) → X74 v2 v3 v4 v6 v7 μ) →
    (∀ (μ : mo_U), (mp_wrong ((3 : Int32)) μ (fun (μ131 : mo_U) => Q μ131)) → X129 μ) →
    (∀ (v3 : Int32) (v4 : Int32) (μ : mo_U), (mp_isName v4 μ (fun (r137 : Int32) (μ137 : mo_U) => (¬ r137 = 0 → X150 v3 v4 μ137) ∧ (r137 = 0 → (¬ v4 = ((126 : Int32)) → vp_in v3 85 ∧ ∀ μ234, μ234 = mu_sA μ137 29 (upd (μ137.2 29) v3.toNatClampNeg ((2 : Int32))) → mp_term x1 μ234 (fun (r244 : Int32) (μ244 : mo_U) => vp_in (((3 : Int32)) * v3) 255 ∧ ∀ μ247, μ247 = mu_sA μ244 31 (upd (μ244.2 31) (((3 : Int32)) * v3).toNatClampNeg r244) → (¬ ((μ247.1 806)) = 0 → X287 v3 μ247) ∧ (((μ247.1 806)) = 0 → mp_sign μ247 (fun (r256 : Int32) (μ256 : mo_U) => (r256 = ((60 : Int32)) → X287 v3 μ256) ∧ (¬ r256 = ((60 : Int32)) → mp_sign μ256 (fun (r265 : Int32) (μ265 : mo_U) => (r265 = ((61 : Int32)) → X287 v3 μ265) ∧ (¬ r265 = ((61 : Int32)) → mp_sign μ265 (fun (r274 : Int32) (μ274 : mo_U) => (r274 = ((33 : Int32)) → X287 v3 μ274) ∧ (¬ r274 = ((33 : Int32)) → mp_wrong ((1 : Int32)) μ274 (fun (μ284 : mo_U) => X287 v3 μ284)))))))))) ∧ (v4 = ((126 : Int32)) → X150 v3 v4 μ137)))) → X135 v3 v4 μ) →
    (∀ (v3 : Int32) (v4 : Int32) (μ : mo_U), ((¬ v4 = ((126 : Int32)) → X167 v3 v4 v3 ((0 : Int32)) μ) ∧ (v4 = ((126 : Int32)) → X167 v3 v4 v3 ((1 : Int32)) μ)) → X150 v3 v4 μ) →
    (∀ (v3 : Int32) (v4 : Int32) (t1 : Int32) (t2 : Int32) (μ : mo_U), (vp_in t1 85 ∧ ∀ μ167, μ167 = mu_sA μ 29 (upd (μ.2 29) t1.toNatClampNeg t2) → (¬ v4 = ((126 : Int32)) → X185 v3 (μ167.1 805) ((0 : Int32)) μ167) ∧ (v4 = ((126 : Int32)) → X185 v3 (μ167.1 805) ((1 : Int32)) μ167)) → X167 v3 v4 t1 t2 μ) →
    (∀ (v3 : Int32) (t1 : Int32) (t2 : Int32) (μ : mo_U), (∀ μ186, μ186 = mu_sI μ 805 (t1 + t2) → mp_relationAt μ186 (fun (r195 : Int32) (μ195 : mo_U) => vp_in v3 85 ∧ ∀ μ198, μ198 = mu_sA μ195 30 (upd (μ195.2 30) v3.toNatClampNeg r195) → (¬ ((μ198.1 806)) = 0 → X352 μ198) ∧ (((μ198.1 806)) = 0 → vp_in v3 85 ∧ (mp_terms x1 (μ198.2 30 v3.toNatClampNeg) 31 (((3 : Int32)) * v3) ((0 : Int32)) μ198 (fun (μ222 : mo_U) => X352 μ222))))) → X185 v3 t1 t2 μ) →
    (∀ (v3 : Int32) (μ : mo_U), (mp_sign μ (fun (r293 : Int32) (μ293 : mo_U) => vp_in v3 85 ∧ ∀ μ296, μ296 = mu_sA μ293 30 (upd (μ293.2 30) v3.toNatClampNeg r293) → (¬ ((μ296.1 806)) = 0 → X314 v3 (μ296.1 805) ((0 : Int32)) μ296) ∧ (((μ296.1 806)) = 0 → X314 v3 (μ296.1 805) ((1 : Int32)) μ296))) → X287 v3 μ) →
    (∀ (v3 : Int32) (t1 : Int32) (t2 : Int32) (μ : mo_U), (∀ μ315, μ315 = mu_sI μ 805 (t1 + t2) → (¬ ((μ315.1 806)) = 0 → X340 v3 μ315) ∧ (((μ315.1 806)) = 0 → mp_term x1 μ315 (fun (r336 : Int32) (μ336 : mo_U) => vp_in ((((3 : Int32)) * v3) + ((1 : Int32))) 255 ∧ ∀ μ339, μ339 = mu_sA μ336 31 (upd (μ336.2 31) ((((3 : Int32)) * v3) + ((1 : Int32))).toNatClampNeg r336) → X340 v3 μ339))) → X314 v3 t1 t2 μ) →
    (∀ (v3 : Int32) (μ : mo_U), (vp_in ((((3 : Int32)) * v3) + ((2 : Int32))) 255 ∧ ∀ μ351, μ351 = mu_sA μ 31 (upd (μ.2 31) ((((3 : Int32)) * v3) + ((2 : Int32))).toNatClampNeg ((100 : Int32))) → X352 μ351) → X340 v3 μ) →
    (∀ (μ : mo_U), (vp_in x1 17 ∧ (vp_in x1 17 ∧ ∀ μ361, μ361 = mu_sA μ 28 (upd (μ.2 28) x1.toNatClampNeg ((μ.2 28 x1.toNatClampNeg) + ((1 : Int32)))) → Q μ361)) → X352 μ) →
    (vp_in x1 17 ∧ (mp_sign μ (fun (r14 : Int32) (μ14 : mo_U) => mp_isName r14 μ14 (fun (r21 : Int32) (μ21 : mo_U) => (¬ r21 = 0 → X55 (μ.2 28 x1.toNatClampNeg) ((((5 : Int32)) * x1) + (μ.2 28 x1.toNatClampNeg)) r14 ((1 : Int32)) μ21) ∧ (r21 = 0 → (r14 = ((126 : Int32)) → X55 (μ.2 28 x1.toNatClampNeg) ((((5 : Int32)) * x1) + (μ.2 28 x1.toNatClampNeg)) r14 ((1 : Int32)) μ21) ∧ (¬ r14 = ((126 : Int32)) → mp_isVariable r14 μ21 (fun (r36 : Int32) (μ36 : mo_U) => (¬ r36 = 0 → X55 (μ.2 28 x1.toNatClampNeg) ((((5 : Int32)) * x1) + (μ.2 28 x1.toNatClampNeg)) r14 ((1 : Int32)) μ36) ∧ (r36 = 0 → mp_isDigit r14 μ36 (fun (r44 : Int32) (μ44 : mo_U) => (r44 = 0 → X55 (μ.2 28 x1.toNatClampNeg) ((((5 : Int32)) * x1) + (μ.2 28 x1.toNatClampNeg)) r14 ((0 : Int32)) μ44) ∧ (¬ r44 = 0 → X55 (μ.2 28 x1.toNatClampNeg) ((((5 : Int32)) * x1) + (μ.2 28 x1.toNatClampNeg)) r14 ((1 : Int32)) μ44))))))))))
set_option maxHeartbeats 4000000 in
theorem mq_literal {σ0 : z_S} {m : Nat} {ma : Nat → Nat} (hT : mo_T σ0 m ma) (x1 : Int32) (μ : mo_U) (Q : mo_U → Prop) (Post : z_S → Prop) (hQ : (∀ μ', Q μ' → Post (mo_put σ0 m ma μ'))) (hw : mp_literal x1 μ Q) : kp_Mo_literal m x1 (mo_put σ0 m ma μ) Post := by
  unfold mp_literal at hw
  unfold kp_Mo_literal
  intro X55 X74 X129 X135 X150 X167 X185 X287 X314 X340 X352 hX55 hX74 hX129 hX135 hX150 hX167 hX185 hX287 hX314 hX340 hX352
  have hw := hw (fun (v2 : Int32) (v3 : Int32) (v4 : Int32) (t0 : Int32) (μ : mo_U) => X55 v2 v3 v4 t0 (mo_put σ0 m ma μ))
  have hw := hw (fun (v2 : Int32) (v3 : Int32) (v4 : Int32) (v6 : Int32) (v7 : Int32) (μ : mo_U) => X74 v2 v3 v4 v6 v7 (mo_put σ0 m ma μ))
  have hw := hw (fun (μ : mo_U) => X129 (mo_put σ0 m ma μ))
  have hw := hw (fun (v3 : Int32) (v4 : Int32) (μ : mo_U) => X135 v3 v4 (mo_put σ0 m ma μ))
  have hw := hw (fun (v3 : Int32) (v4 : Int32) (μ : mo_U) => X150 v3 v4 (mo_put σ0 m ma μ))
  have hw := hw (fun (v3 : Int32) (v4 : Int32) (t1 : Int32) (t2 : Int32) (μ : mo_U) => X167 v3 v4 (ma 29) t1 t2 (mo_put σ0 m ma μ))
  have hw := hw (fun (v3 : Int32) (t1 : Int32) (t2 : Int32) (μ : mo_U) => X185 v3 m t1 t2 (mo_put σ0 m ma μ))
  have hw := hw (fun (v3 : Int32) (μ : mo_U) => X287 v3 (mo_put σ0 m ma μ))
  have hw := hw (fun (v3 : Int32) (t1 : Int32) (t2 : Int32) (μ : mo_U) => X314 v3 m t1 t2 (mo_put σ0 m ma μ))
  have hw := hw (fun (v3 : Int32) (μ : mo_U) => X340 v3 (mo_put σ0 m ma μ))
  have hw := hw (fun (μ : mo_U) => X352 (mo_put σ0 m ma μ))
  have hw := hw (by
    intro v2 v3 v4 t0 μ hw
    refine hX55 _ _ _ _ _  ?_
    refine ⟨fun hc => ?_, fun hc => ?_⟩
    · have hw := hw.1 hc
      exact hw
    · have hw := hw.2 hc
      refine ⟨mo_ty0 hT, mq_wrong hT ((1 : Int32)) μ _ _ (fun μ64 hw => ?_) hw⟩
      exact hQ _ hw)
  have hw := hw (by
    intro v2 v3 v4 v6 v7 μ hw
    refine hX74 _ _ _ _ _ _  ?_
    refine ⟨fun hc => ?_, fun hc => ?_⟩
    · have hw := hw.1 hc
      refine ⟨fun hc => ?_, fun hc => ?_⟩
      · have hw := hw.1 hc
        exact hw
      · have hw := hw.2 hc
        refine mq_isName hT v4 μ _ _ (fun r117 μ117 hw => ?_) hw
        refine ⟨fun hc => ?_, fun hc => ?_⟩
        · have hw := hw.1 hc
          exact hw
        · have hw := hw.2 hc
          refine ⟨fun hc => ?_, fun hc => ?_⟩
          · have hw := hw.1 hc
            exact hw
          · have hw := hw.2 hc
            exact hw
    · have hw := hw.2 hc
      refine ⟨mo_ty0 hT, ma 29, mo_R812 hT, ?_⟩
      refine ⟨85, 29, mo_T29 hT, hw.1, ?_⟩
      replace hw := hw.2
      try rw [mo_A σ0 m ma μ 29]
      refine ⟨fun hc => ?_, fun hc => ?_⟩
      · have hw := hw.1 hc
        exact hw
      · have hw := hw.2 hc
        exact hw)
  have hw := hw (by
    intro μ hw
    refine hX129 _  ?_
    refine ⟨mo_ty0 hT, mq_wrong hT ((3 : Int32)) μ _ _ (fun μ131 hw => ?_) hw⟩
    exact hQ _ hw)
  have hw := hw (by
    intro v3 v4 μ hw
    refine hX135 _ _ _  ?_
    refine mq_isName hT v4 μ _ _ (fun r137 μ137 hw => ?_) hw
    refine ⟨fun hc => ?_, fun hc => ?_⟩
    · have hw := hw.1 hc
      exact hw
    · have hw := hw.2 hc
      refine ⟨fun hc => ?_, fun hc => ?_⟩
      · have hw := hw.1 hc
        refine ⟨mo_ty0 hT, ma 29, mo_R812 hT, ?_⟩
        refine ⟨85, 29, mo_T29 hT, hw.1, fun σ234 e234 => ?_⟩
        replace hw := hw.2
        rw [mo_A σ0 m ma μ137 29, mo_sA] at e234
        obtain ⟨μ234, f234⟩ : ∃ z, z = mu_sA μ137 29 (upd (μ137.2 29) v3.toNatClampNeg ((2 : Int32))) := ⟨_, rfl⟩
        rw [← f234] at e234
        subst e234
        have hw := hw _ f234
        refine ⟨mo_ty0 hT, ma 31, mo_R814 hT, ?_⟩
        refine ⟨mo_ty0 hT, mq_term hT x1 μ234 _ _ (fun r244 μ244 hw => ?_) hw⟩
        refine ⟨255, 31, mo_T31 hT, hw.1, fun σ247 e247 => ?_⟩
        replace hw := hw.2
        rw [mo_A σ0 m ma μ244 31, mo_sA] at e247
        obtain ⟨μ247, f247⟩ : ∃ z, z = mu_sA μ244 31 (upd (μ244.2 31) (((3 : Int32)) * v3).toNatClampNeg r244) := ⟨_, rfl⟩
        rw [← f247] at e247
        subst e247
        have hw := hw _ f247
        refine ⟨mo_ty0 hT, ?_⟩
        try rw [mo_I σ0 m ma μ247 806]
        refine ⟨fun hc => ?_, fun hc => ?_⟩
        · have hw := hw.1 hc
          exact hw
        · have hw := hw.2 hc
          refine ⟨mo_ty0 hT, mq_sign hT μ247 _ _ (fun r256 μ256 hw => ?_) hw⟩
          refine ⟨fun hc => ?_, fun hc => ?_⟩
          · have hw := hw.1 hc
            exact hw
          · have hw := hw.2 hc
            refine ⟨mo_ty0 hT, mq_sign hT μ256 _ _ (fun r265 μ265 hw => ?_) hw⟩
            refine ⟨fun hc => ?_, fun hc => ?_⟩
            · have hw := hw.1 hc
              exact hw
            · have hw := hw.2 hc
              refine ⟨mo_ty0 hT, mq_sign hT μ265 _ _ (fun r274 μ274 hw => ?_) hw⟩
              refine ⟨fun hc => ?_, fun hc => ?_⟩
              · have hw := hw.1 hc
                exact hw
              · have hw := hw.2 hc
                refine ⟨mo_ty0 hT, mq_wrong hT ((1 : Int32)) μ274 _ _ (fun μ284 hw => ?_) hw⟩
                exact hw
      · have hw := hw.2 hc
        exact hw)
  have hw := hw (by
    intro v3 v4 μ hw
    refine hX150 _ _ _  ?_
    refine ⟨mo_ty0 hT, ma 29, mo_R812 hT, ?_⟩
    refine ⟨fun hc => ?_, fun hc => ?_⟩
    · have hw := hw.1 hc
      exact hw
    · have hw := hw.2 hc
      exact hw)
  have hw := hw (by
    intro v3 v4 t1 t2 μ hw
    refine hX167 _ _ _ _ _ _  ?_
    refine ⟨85, 29, mo_T29 hT, hw.1, fun σ167 e167 => ?_⟩
    replace hw := hw.2
    rw [mo_A σ0 m ma μ 29, mo_sA] at e167
    obtain ⟨μ167, f167⟩ : ∃ z, z = mu_sA μ 29 (upd (μ.2 29) t1.toNatClampNeg t2) := ⟨_, rfl⟩
    rw [← f167] at e167
    subst e167
    have hw := hw _ f167
    refine ⟨mo_ty0 hT, ?_⟩
    try rw [mo_I σ0 m ma μ167 805]
    refine ⟨fun hc => ?_, fun hc => ?_⟩
    · have hw := hw.1 hc
      exact hw
    · have hw := hw.2 hc
      exact hw)
  have hw := hw (by
    intro v3 t1 t2 μ hw
    refine hX185 _ _ _ _ _  ?_
    refine ⟨mo_ty0 hT, fun σ186 e186 => ?_⟩
    rw [mo_sI] at e186
    obtain ⟨μ186, f186⟩ : ∃ z, z = mu_sI μ 805 (t1 + t2) := ⟨_, rfl⟩
    rw [← f186] at e186
    subst e186
    have hw := hw _ f186
    refine ⟨mo_ty0 hT, ma 30, mo_R813 hT, ?_⟩
    refine ⟨mo_ty0 hT, mq_relationAt hT μ186 _ _ (fun r195 μ195 hw => ?_) hw⟩
    refine ⟨85, 30, mo_T30 hT, hw.1, fun σ198 e198 => ?_⟩
    replace hw := hw.2
    rw [mo_A σ0 m ma μ195 30, mo_sA] at e198
    obtain ⟨μ198, f198⟩ : ∃ z, z = mu_sA μ195 30 (upd (μ195.2 30) v3.toNatClampNeg r195) := ⟨_, rfl⟩
    rw [← f198] at e198
    subst e198
    have hw := hw _ f198
    refine ⟨mo_ty0 hT, ?_⟩
    try rw [mo_I σ0 m ma μ198 806]
    refine ⟨fun hc => ?_, fun hc => ?_⟩
    · have hw := hw.1 hc
      exact hw
    · have hw := hw.2 hc
      refine ⟨mo_ty0 hT, ma 30, mo_R813 hT, ?_⟩
      refine ⟨85, 30, mo_T30 hT, hw.1, ?_⟩
      replace hw := hw.2
      try rw [mo_A σ0 m ma μ198 30]
      refine ⟨mo_ty0 hT, ma 31, mo_R814 hT, ?_⟩
      refine ⟨mo_ty0 hT, mq_terms hT x1 (μ198.2 30 v3.toNatClampNeg) 31 (((3 : Int32)) * v3) ((0 : Int32)) μ198 _ _ (fun μ222 hw => ?_) hw⟩
      exact hw)
  have hw := hw (by
    intro v3 μ hw
    refine hX287 _ _  ?_
    refine ⟨mo_ty0 hT, ma 30, mo_R813 hT, ?_⟩
    refine ⟨mo_ty0 hT, mq_sign hT μ _ _ (fun r293 μ293 hw => ?_) hw⟩
    refine ⟨85, 30, mo_T30 hT, hw.1, fun σ296 e296 => ?_⟩
    replace hw := hw.2
    rw [mo_A σ0 m ma μ293 30, mo_sA] at e296
    obtain ⟨μ296, f296⟩ : ∃ z, z = mu_sA μ293 30 (upd (μ293.2 30) v3.toNatClampNeg r293) := ⟨_, rfl⟩
    rw [← f296] at e296
    subst e296
    have hw := hw _ f296
    refine ⟨mo_ty0 hT, ?_⟩
    try rw [mo_I σ0 m ma μ296 805]
    refine ⟨mo_ty0 hT, ?_⟩
    try rw [mo_I σ0 m ma μ296 806]
    refine ⟨fun hc => ?_, fun hc => ?_⟩
    · have hw := hw.1 hc
      exact hw
    · have hw := hw.2 hc
      exact hw)
  have hw := hw (by
    intro v3 t1 t2 μ hw
    refine hX314 _ _ _ _ _  ?_
    refine ⟨mo_ty0 hT, fun σ315 e315 => ?_⟩
    rw [mo_sI] at e315
    obtain ⟨μ315, f315⟩ : ∃ z, z = mu_sI μ 805 (t1 + t2) := ⟨_, rfl⟩
    rw [← f315] at e315
    subst e315
    have hw := hw _ f315
    refine ⟨mo_ty0 hT, ?_⟩
    try rw [mo_I σ0 m ma μ315 806]
    refine ⟨fun hc => ?_, fun hc => ?_⟩
    · have hw := hw.1 hc
      exact hw
    · have hw := hw.2 hc
      refine ⟨mo_ty0 hT, ma 31, mo_R814 hT, ?_⟩
      refine ⟨mo_ty0 hT, mq_term hT x1 μ315 _ _ (fun r336 μ336 hw => ?_) hw⟩
      refine ⟨255, 31, mo_T31 hT, hw.1, fun σ339 e339 => ?_⟩
      replace hw := hw.2
      rw [mo_A σ0 m ma μ336 31, mo_sA] at e339
      obtain ⟨μ339, f339⟩ : ∃ z, z = mu_sA μ336 31 (upd (μ336.2 31) ((((3 : Int32)) * v3) + ((1 : Int32))).toNatClampNeg r336) := ⟨_, rfl⟩
      rw [← f339] at e339
      subst e339
      have hw := hw _ f339
      exact hw)
  have hw := hw (by
    intro v3 μ hw
    refine hX340 _ _  ?_
    refine ⟨mo_ty0 hT, ma 31, mo_R814 hT, ?_⟩
    refine ⟨255, 31, mo_T31 hT, hw.1, fun σ351 e351 => ?_⟩
    replace hw := hw.2
    rw [mo_A σ0 m ma μ 31, mo_sA] at e351
    obtain ⟨μ351, f351⟩ : ∃ z, z = mu_sA μ 31 (upd (μ.2 31) ((((3 : Int32)) * v3) + ((2 : Int32))).toNatClampNeg ((100 : Int32))) := ⟨_, rfl⟩
    rw [← f351] at e351
    subst e351
    have hw := hw _ f351
    exact hw)
  have hw := hw (by
    intro μ hw
    refine hX352 _  ?_
    refine ⟨mo_ty0 hT, ma 28, mo_R811 hT, ?_⟩
    refine ⟨17, 28, mo_T28 hT, hw.1, ?_⟩
    replace hw := hw.2
    try rw [mo_A σ0 m ma μ 28]
    refine ⟨17, 28, mo_T28 hT, hw.1, fun σ361 e361 => ?_⟩
    replace hw := hw.2
    rw [mo_A σ0 m ma μ 28, mo_sA] at e361
    obtain ⟨μ361, f361⟩ : ∃ z, z = mu_sA μ 28 (upd (μ.2 28) x1.toNatClampNeg ((μ.2 28 x1.toNatClampNeg) + ((1 : Int32)))) := ⟨_, rfl⟩
    rw [← f361] at e361
    subst e361
    have hw := hw _ f361
    exact hQ _ hw)
  refine ⟨mo_ty0 hT, ma 28, mo_R811 hT, ?_⟩
  refine ⟨17, 28, mo_T28 hT, hw.1, ?_⟩
  replace hw := hw.2
  try rw [mo_A σ0 m ma μ 28]
  refine ⟨mo_ty0 hT, mq_sign hT μ _ _ (fun r14 μ14 hw => ?_) hw⟩
  refine mq_isName hT r14 μ14 _ _ (fun r21 μ21 hw => ?_) hw
  refine ⟨fun hc => ?_, fun hc => ?_⟩
  · have hw := hw.1 hc
    exact hw
  · have hw := hw.2 hc
    refine ⟨fun hc => ?_, fun hc => ?_⟩
    · have hw := hw.1 hc
      exact hw
    · have hw := hw.2 hc
      refine mq_isVariable hT r14 μ21 _ _ (fun r36 μ36 hw => ?_) hw
      refine ⟨fun hc => ?_, fun hc => ?_⟩
      · have hw := hw.1 hc
        exact hw
      · have hw := hw.2 hc
        refine mq_isDigit hT r14 μ36 _ _ (fun r44 μ44 hw => ?_) hw
        refine ⟨fun hc => ?_, fun hc => ?_⟩
        · have hw := hw.1 hc
          exact hw
        · have hw := hw.2 hc
          exact hw
def mp_lettersOf (b1 : Nat) (x2 : Int32) (μ : mo_U) (Q : Int32 → mo_U → Prop) : Prop := ∀ (X4 : Int32 → Int32 → mo_U → Prop),
    (∀ (v2 : Int32) (v3 : Int32) (μ : mo_U), ((((3 : Int32)) ≤ v3 → Q v2 μ) ∧ (¬ ((3 : Int32)) ≤ v3 → mo_ok b1 0 ∧ vp_in (x2 + v3) (mo_len b1) ∧ ((((26 : Int32)) ≤ (μ.2 b1 (x2 + v3).toNatClampNeg) → X4 (v2 ||| ((0 : Int32))) (v3 + (1 : Int32)) μ) ∧ (¬ ((26 : Int32)) ≤ (μ.2 b1 (x2 + v3).toNatClampNeg) → mo_ok b1 0 ∧ vp_in (x2 + v3) (mo_len b1) ∧ (X4 (v2 ||| (((1 : Int32)) <<< ((μ.2 b1 (x2 + v3).toNatClampNeg) &&& 31))) (v3 + (1 : Int32)) μ))))) → X4 v2 v3 μ) →
    (X4 ((0 : Int32)) ((0 : Int32)) μ)
set_option maxHeartbeats 4000000 in
theorem mq_lettersOf {σ0 : z_S} {m : Nat} {ma : Nat → Nat} (hT : mo_T σ0 m ma) (b1 : Nat) (x2 : Int32) (μ : mo_U) (Q : Int32 → mo_U → Prop) (Post : Int32 → z_S → Prop) (hQ : (∀ r μ', Q r μ' → Post r (mo_put σ0 m ma μ'))) (hw : mp_lettersOf b1 x2 μ Q) : kp_Mo_lettersOf (ma b1) x2 (mo_put σ0 m ma μ) Post := by
  unfold mp_lettersOf at hw
  unfold kp_Mo_lettersOf
  intro X4 hX4
  have hw := hw (fun (v2 : Int32) (v3 : Int32) (μ : mo_U) => X4 v2 v3 (mo_put σ0 m ma μ))
  have hw := hw (by
    intro v2 v3 μ hw
    refine hX4 _ _ _  ?_
    refine ⟨fun hc => ?_, fun hc => ?_⟩
    · have hw := hw.1 hc
      exact hQ _ _ hw
    · have hw := hw.2 hc
      obtain ⟨hk, hw⟩ := hw
      refine ⟨(mo_len b1), b1, mo_Ts hT hk, hw.1, ?_⟩
      replace hw := hw.2
      try rw [mo_A σ0 m ma μ b1]
      refine ⟨fun hc => ?_, fun hc => ?_⟩
      · have hw := hw.1 hc
        exact hw
      · have hw := hw.2 hc
        obtain ⟨hk, hw⟩ := hw
        refine ⟨(mo_len b1), b1, mo_Ts hT hk, hw.1, ?_⟩
        replace hw := hw.2
        try rw [mo_A σ0 m ma μ b1]
        exact hw)
  exact hw
def mp_judge (x1 : Int32) (μ : mo_U) (Q : mo_U → Prop) : Prop := ∀ (X16 : Int32 → Int32 → Int32 → mo_U → Prop) (X105 : Int32 → Int32 → Int32 → mo_U → Prop) (X176 : Int32 → Int32 → mo_U → Prop) (X186 : mo_U → Prop),
    (∀ (v2 : Int32) (v3 : Int32) (v4 : Int32) (μ : mo_U), (vp_in x1 17 ∧ (((μ.2 28 x1.toNatClampNeg) ≤ v4 → (((v3 &&& (v2 ^^^ ((-1 : Int32))))) = 0 → vp_in x1 17 ∧ (X105 ((1 : Int32)) (μ.2 32 x1.toNatClampNeg) ((0 : Int32)) μ)) ∧ (¬ ((v3 &&& (v2 ^^^ ((-1 : Int32))))) = 0 → mp_wrong ((4 : Int32)) μ (fun (μ87 : mo_U) => Q μ87))) ∧ (¬ (μ.2 28 x1.toNatClampNeg) ≤ v4 → mp_lettersOf 31 (((3 : Int32)) * ((((5 : Int32)) * x1) + v4)) μ (fun (r39 : Int32) (μ39 : mo_U) => vp_in ((((5 : Int32)) * x1) + v4) 85 ∧ ((¬ ((μ39.2 29 ((((5 : Int32)) * x1) + v4).toNatClampNeg)) = 0 → X16 v2 (v3 ||| r39) (v4 + (1 : Int32)) μ39) ∧ (((μ39.2 29 ((((5 : Int32)) * x1) + v4).toNatClampNeg)) = 0 → X16 (v2 ||| r39) v3 (v4 + (1 : Int32)) μ39)))))) → X16 v2 v3 v4 μ) →
    (∀ (v4 : Int32) (v5 : Int32) (v6 : Int32) (μ : mo_U), ((x1 ≤ v6 → vp_in x1 17 ∧ ((((μ.2 32 x1.toNatClampNeg)) = 0 → X176 v4 v5 μ) ∧ (¬ ((μ.2 32 x1.toNatClampNeg)) = 0 → vp_in x1 17 ∧ ((((μ.2 28 x1.toNatClampNeg)) = 0 → X186 μ) ∧ (¬ ((μ.2 28 x1.toNatClampNeg)) = 0 → X176 v4 v5 μ))))) ∧ (¬ x1 ≤ v6 → vp_in v6 17 ∧ (vp_in x1 17 ∧ ((¬ (μ.2 26 v6.toNatClampNeg) = (μ.2 26 x1.toNatClampNeg) → X105 v4 v5 (v6 + (1 : Int32)) μ) ∧ ((μ.2 26 v6.toNatClampNeg) = (μ.2 26 x1.toNatClampNeg) → (¬ v5 = 0 → X105 ((0 : Int32)) ((1 : Int32)) (v6 + (1 : Int32)) μ) ∧ (v5 = 0 → vp_in v6 17 ∧ ((((μ.2 32 v6.toNatClampNeg)) = 0 → X105 ((0 : Int32)) ((0 : Int32)) (v6 + (1 : Int32)) μ) ∧ (¬ ((μ.2 32 v6.toNatClampNeg)) = 0 → X105 ((0 : Int32)) ((1 : Int32)) (v6 + (1 : Int32)) μ)))))))) → X105 v4 v5 v6 μ) →
    (∀ (v4 : Int32) (v5 : Int32) (μ : mo_U), ((v5 = 0 → Q μ) ∧ (¬ v5 = 0 → (¬ v4 = 0 → Q μ) ∧ (v4 = 0 → X186 μ))) → X176 v4 v5 μ) →
    (∀ (μ : mo_U), (mp_wrong ((5 : Int32)) μ (fun (μ188 : mo_U) => Q μ188)) → X186 μ) →
    (mp_lettersOf 27 (((3 : Int32)) * x1) μ (fun (r9 : Int32) (μ9 : mo_U) => X16 ((0 : Int32)) r9 ((0 : Int32)) μ9))
set_option maxHeartbeats 4000000 in
theorem mq_judge {σ0 : z_S} {m : Nat} {ma : Nat → Nat} (hT : mo_T σ0 m ma) (x1 : Int32) (μ : mo_U) (Q : mo_U → Prop) (Post : z_S → Prop) (hQ : (∀ μ', Q μ' → Post (mo_put σ0 m ma μ'))) (hw : mp_judge x1 μ Q) : kp_Mo_judge m x1 (mo_put σ0 m ma μ) Post := by
  unfold mp_judge at hw
  unfold kp_Mo_judge
  intro X16 X105 X176 X186 hX16 hX105 hX176 hX186
  have hw := hw (fun (v2 : Int32) (v3 : Int32) (v4 : Int32) (μ : mo_U) => X16 v2 v3 v4 (mo_put σ0 m ma μ))
  have hw := hw (fun (v4 : Int32) (v5 : Int32) (v6 : Int32) (μ : mo_U) => X105 v4 v5 v6 (mo_put σ0 m ma μ))
  have hw := hw (fun (v4 : Int32) (v5 : Int32) (μ : mo_U) => X176 v4 v5 (mo_put σ0 m ma μ))
  have hw := hw (fun (μ : mo_U) => X186 (mo_put σ0 m ma μ))
  have hw := hw (by
    intro v2 v3 v4 μ hw
    refine hX16 _ _ _ _  ?_
    refine ⟨mo_ty0 hT, ma 28, mo_R811 hT, ?_⟩
    refine ⟨17, 28, mo_T28 hT, hw.1, ?_⟩
    replace hw := hw.2
    try rw [mo_A σ0 m ma μ 28]
    refine ⟨fun hc => ?_, fun hc => ?_⟩
    · have hw := hw.1 hc
      refine ⟨fun hc => ?_, fun hc => ?_⟩
      · have hw := hw.1 hc
        refine ⟨mo_ty0 hT, ma 32, mo_R815 hT, ?_⟩
        refine ⟨17, 32, mo_T32 hT, hw.1, ?_⟩
        replace hw := hw.2
        try rw [mo_A σ0 m ma μ 32]
        exact hw
      · have hw := hw.2 hc
        refine ⟨mo_ty0 hT, mq_wrong hT ((4 : Int32)) μ _ _ (fun μ87 hw => ?_) hw⟩
        exact hQ _ hw
    · have hw := hw.2 hc
      refine ⟨mo_ty0 hT, ma 31, mo_R814 hT, ?_⟩
      refine mq_lettersOf hT 31 (((3 : Int32)) * ((((5 : Int32)) * x1) + v4)) μ _ _ (fun r39 μ39 hw => ?_) hw
      refine ⟨mo_ty0 hT, ma 29, mo_R812 hT, ?_⟩
      refine ⟨85, 29, mo_T29 hT, hw.1, ?_⟩
      replace hw := hw.2
      try rw [mo_A σ0 m ma μ39 29]
      refine ⟨fun hc => ?_, fun hc => ?_⟩
      · have hw := hw.1 hc
        exact hw
      · have hw := hw.2 hc
        exact hw)
  have hw := hw (by
    intro v4 v5 v6 μ hw
    refine hX105 _ _ _ _  ?_
    refine ⟨fun hc => ?_, fun hc => ?_⟩
    · have hw := hw.1 hc
      refine ⟨mo_ty0 hT, ma 32, mo_R815 hT, ?_⟩
      refine ⟨17, 32, mo_T32 hT, hw.1, ?_⟩
      replace hw := hw.2
      try rw [mo_A σ0 m ma μ 32]
      refine ⟨fun hc => ?_, fun hc => ?_⟩
      · have hw := hw.1 hc
        exact hw
      · have hw := hw.2 hc
        refine ⟨mo_ty0 hT, ma 28, mo_R811 hT, ?_⟩
        refine ⟨17, 28, mo_T28 hT, hw.1, ?_⟩
        replace hw := hw.2
        try rw [mo_A σ0 m ma μ 28]
        refine ⟨fun hc => ?_, fun hc => ?_⟩
        · have hw := hw.1 hc
          exact hw
        · have hw := hw.2 hc
          exact hw
    · have hw := hw.2 hc
      refine ⟨mo_ty0 hT, ma 26, mo_R809 hT, ?_⟩
      refine ⟨17, 26, mo_T26 hT, hw.1, ?_⟩
      replace hw := hw.2
      try rw [mo_A σ0 m ma μ 26]
      refine ⟨mo_ty0 hT, ma 26, mo_R809 hT, ?_⟩
      refine ⟨17, 26, mo_T26 hT, hw.1, ?_⟩
      replace hw := hw.2
      try rw [mo_A σ0 m ma μ 26]
      refine ⟨fun hc => ?_, fun hc => ?_⟩
      · have hw := hw.1 hc
        exact hw
      · have hw := hw.2 hc
        refine ⟨fun hc => ?_, fun hc => ?_⟩
        · have hw := hw.1 hc
          exact hw
        · have hw := hw.2 hc
          refine ⟨mo_ty0 hT, ma 32, mo_R815 hT, ?_⟩
          refine ⟨17, 32, mo_T32 hT, hw.1, ?_⟩
          replace hw := hw.2
          try rw [mo_A σ0 m ma μ 32]
          refine ⟨fun hc => ?_, fun hc => ?_⟩
          · have hw := hw.1 hc
            exact hw
          · have hw := hw.2 hc
            exact hw)
  have hw := hw (by
    intro v4 v5 μ hw
    refine hX176 _ _ _  ?_
    refine ⟨fun hc => ?_, fun hc => ?_⟩
    · have hw := hw.1 hc
      exact hQ _ hw
    · have hw := hw.2 hc
      refine ⟨fun hc => ?_, fun hc => ?_⟩
      · have hw := hw.1 hc
        exact hQ _ hw
      · have hw := hw.2 hc
        exact hw)
  have hw := hw (by
    intro μ hw
    refine hX186 _  ?_
    refine ⟨mo_ty0 hT, mq_wrong hT ((5 : Int32)) μ _ _ (fun μ188 hw => ?_) hw⟩
    exact hQ _ hw)
  refine ⟨mo_ty0 hT, ma 27, mo_R810 hT, ?_⟩
  refine mq_lettersOf hT 27 (((3 : Int32)) * x1) μ _ _ (fun r9 μ9 hw => ?_) hw
  exact hw
def mp_rule (μ : mo_U) (Q : mo_U → Prop) : Prop := ∀ (X48 : Int32 → mo_U → Prop) (X129 : Int32 → mo_U → Prop) (X163 : Int32 → mo_U → Prop) (X184 : Int32 → mo_U → Prop) (X196 : Int32 → mo_U → Prop),
    (∀ (v1 : Int32) (μ : mo_U), (mp_relationAt μ (fun (r54 : Int32) (μ54 : mo_U) => vp_in v1 17 ∧ ∀ μ57, μ57 = mu_sA μ54 26 (upd (μ54.2 26) v1.toNatClampNeg r54) → (((μ57.1 806)) = 0 → vp_in v1 17 ∧ (mp_terms v1 (μ57.2 26 v1.toNatClampNeg) 27 (((3 : Int32)) * v1) ((1 : Int32)) μ57 (fun (μ82 : mo_U) => (¬ ((μ82.1 806)) = 0 → X163 v1 μ82) ∧ (((μ82.1 806)) = 0 → mp_sign μ82 (fun (r93 : Int32) (μ93 : mo_U) => (¬ r93 = ((58 : Int32)) → X163 v1 μ93) ∧ (r93 = ((58 : Int32)) → ∀ μ108, μ108 = mu_sI μ93 805 ((μ93.1 805) + ((1 : Int32))) → mp_take ((45 : Int32)) μ108 (fun (μ114 : mo_U) => (¬ ((μ114.1 806)) = 0 → X129 v1 μ114) ∧ (((μ114.1 806)) = 0 → mp_literal v1 μ114 (fun (μ126 : mo_U) => X129 v1 μ126))))))))) ∧ (¬ ((μ57.1 806)) = 0 → Q μ57))) → X48 v1 μ) →
    (∀ (v1 : Int32) (μ : mo_U), ((¬ ((μ.1 806)) = 0 → X163 v1 μ) ∧ (((μ.1 806)) = 0 → mp_sign μ (fun (r137 : Int32) (μ137 : mo_U) => (¬ r137 = ((44 : Int32)) → X163 v1 μ137) ∧ (r137 = ((44 : Int32)) → ∀ μ152, μ152 = mu_sI μ137 805 ((μ137.1 805) + ((1 : Int32))) → mp_literal v1 μ152 (fun (μ157 : mo_U) => X129 v1 μ157))))) → X129 v1 μ) →
    (∀ (v1 : Int32) (μ : mo_U), ((¬ ((μ.1 806)) = 0 → X184 v1 μ) ∧ (((μ.1 806)) = 0 → mp_sign μ (fun (r171 : Int32) (μ171 : mo_U) => (r171 = ((46 : Int32)) → X184 v1 μ171) ∧ (¬ r171 = ((46 : Int32)) → mp_wrong ((1 : Int32)) μ171 (fun (μ181 : mo_U) => X184 v1 μ181))))) → X163 v1 μ) →
    (∀ (v1 : Int32) (μ : mo_U), ((¬ ((μ.1 806)) = 0 → X196 v1 μ) ∧ (((μ.1 806)) = 0 → mp_judge v1 μ (fun (μ193 : mo_U) => X196 v1 μ193))) → X184 v1 μ) →
    (∀ (v1 : Int32) (μ : mo_U), ((¬ ((μ.1 806)) = 0 → Q μ) ∧ (((μ.1 806)) = 0 → ∀ μ210, μ210 = mu_sI μ 805 ((μ.1 805) + ((1 : Int32))) → vp_in v1 17 ∧ (vp_in (μ210.2 26 v1.toNatClampNeg) 9 ∧ ∀ μ224, μ224 = mu_sA μ210 36 (upd (μ210.2 36) (μ210.2 26 v1.toNatClampNeg).toNatClampNeg (vp_nar .boolean ((1 : Int32)))) → ∀ μ232, μ232 = mu_sI μ224 808 ((μ224.1 808) + ((1 : Int32))) → Q μ232))) → X196 v1 μ) →
    (vp_in (μ.1 808) 17 ∧ ∀ μ11, μ11 = mu_sA μ 28 (upd (μ.2 28) (μ.1 808).toNatClampNeg ((0 : Int32))) → vp_in (μ.1 808) 17 ∧ ∀ μ18, μ18 = mu_sA μ11 33 (upd (μ11.2 33) (μ.1 808).toNatClampNeg ((0 : Int32))) → vp_in (μ.1 808) 17 ∧ ∀ μ25, μ25 = mu_sA μ18 32 (upd (μ18.2 32) (μ.1 808).toNatClampNeg (vp_nar .boolean ((0 : Int32)))) → mp_sign μ25 (fun (r27 : Int32) (μ27 : mo_U) => mp_isName r27 μ27 (fun (r30 : Int32) (μ30 : mo_U) => (r30 = 0 → X48 (μ.1 808) μ30) ∧ (¬ r30 = 0 → (¬ (μ.1 808) = ((16 : Int32)) → X48 (μ.1 808) μ30) ∧ ((μ.1 808) = ((16 : Int32)) → mp_wrong ((3 : Int32)) μ30 (fun (μ44 : mo_U) => Q μ44))))))
set_option maxHeartbeats 4000000 in
theorem mq_rule {σ0 : z_S} {m : Nat} {ma : Nat → Nat} (hT : mo_T σ0 m ma) (μ : mo_U) (Q : mo_U → Prop) (Post : z_S → Prop) (hQ : (∀ μ', Q μ' → Post (mo_put σ0 m ma μ'))) (hw : mp_rule μ Q) : kp_Mo_rule m (mo_put σ0 m ma μ) Post := by
  unfold mp_rule at hw
  unfold kp_Mo_rule
  intro X48 X129 X163 X184 X196 hX48 hX129 hX163 hX184 hX196
  have hw := hw (fun (v1 : Int32) (μ : mo_U) => X48 v1 (mo_put σ0 m ma μ))
  have hw := hw (fun (v1 : Int32) (μ : mo_U) => X129 v1 (mo_put σ0 m ma μ))
  have hw := hw (fun (v1 : Int32) (μ : mo_U) => X163 v1 (mo_put σ0 m ma μ))
  have hw := hw (fun (v1 : Int32) (μ : mo_U) => X184 v1 (mo_put σ0 m ma μ))
  have hw := hw (fun (v1 : Int32) (μ : mo_U) => X196 v1 (mo_put σ0 m ma μ))
  have hw := hw (by
    intro v1 μ hw
    refine hX48 _ _  ?_
    refine ⟨mo_ty0 hT, ma 26, mo_R809 hT, ?_⟩
    refine ⟨mo_ty0 hT, mq_relationAt hT μ _ _ (fun r54 μ54 hw => ?_) hw⟩
    refine ⟨17, 26, mo_T26 hT, hw.1, fun σ57 e57 => ?_⟩
    replace hw := hw.2
    rw [mo_A σ0 m ma μ54 26, mo_sA] at e57
    obtain ⟨μ57, f57⟩ : ∃ z, z = mu_sA μ54 26 (upd (μ54.2 26) v1.toNatClampNeg r54) := ⟨_, rfl⟩
    rw [← f57] at e57
    subst e57
    have hw := hw _ f57
    refine ⟨mo_ty0 hT, ?_⟩
    try rw [mo_I σ0 m ma μ57 806]
    refine ⟨fun hc => ?_, fun hc => ?_⟩
    · have hw := hw.1 hc
      refine ⟨mo_ty0 hT, ma 26, mo_R809 hT, ?_⟩
      refine ⟨17, 26, mo_T26 hT, hw.1, ?_⟩
      replace hw := hw.2
      try rw [mo_A σ0 m ma μ57 26]
      refine ⟨mo_ty0 hT, ma 27, mo_R810 hT, ?_⟩
      refine ⟨mo_ty0 hT, mq_terms hT v1 (μ57.2 26 v1.toNatClampNeg) 27 (((3 : Int32)) * v1) ((1 : Int32)) μ57 _ _ (fun μ82 hw => ?_) hw⟩
      refine ⟨mo_ty0 hT, ?_⟩
      try rw [mo_I σ0 m ma μ82 806]
      refine ⟨fun hc => ?_, fun hc => ?_⟩
      · have hw := hw.1 hc
        exact hw
      · have hw := hw.2 hc
        refine ⟨mo_ty0 hT, mq_sign hT μ82 _ _ (fun r93 μ93 hw => ?_) hw⟩
        refine ⟨fun hc => ?_, fun hc => ?_⟩
        · have hw := hw.1 hc
          exact hw
        · have hw := hw.2 hc
          refine ⟨mo_ty0 hT, ?_⟩
          try rw [mo_I σ0 m ma μ93 805]
          refine ⟨mo_ty0 hT, fun σ108 e108 => ?_⟩
          rw [mo_sI] at e108
          obtain ⟨μ108, f108⟩ : ∃ z, z = mu_sI μ93 805 ((μ93.1 805) + ((1 : Int32))) := ⟨_, rfl⟩
          rw [← f108] at e108
          subst e108
          have hw := hw _ f108
          refine ⟨mo_ty0 hT, mq_take hT ((45 : Int32)) μ108 _ _ (fun μ114 hw => ?_) hw⟩
          refine ⟨mo_ty0 hT, ?_⟩
          try rw [mo_I σ0 m ma μ114 806]
          refine ⟨fun hc => ?_, fun hc => ?_⟩
          · have hw := hw.1 hc
            exact hw
          · have hw := hw.2 hc
            refine ⟨mo_ty0 hT, mq_literal hT v1 μ114 _ _ (fun μ126 hw => ?_) hw⟩
            exact hw
    · have hw := hw.2 hc
      exact hQ _ hw)
  have hw := hw (by
    intro v1 μ hw
    refine hX129 _ _  ?_
    refine ⟨mo_ty0 hT, ?_⟩
    try rw [mo_I σ0 m ma μ 806]
    refine ⟨fun hc => ?_, fun hc => ?_⟩
    · have hw := hw.1 hc
      exact hw
    · have hw := hw.2 hc
      refine ⟨mo_ty0 hT, mq_sign hT μ _ _ (fun r137 μ137 hw => ?_) hw⟩
      refine ⟨fun hc => ?_, fun hc => ?_⟩
      · have hw := hw.1 hc
        exact hw
      · have hw := hw.2 hc
        refine ⟨mo_ty0 hT, ?_⟩
        try rw [mo_I σ0 m ma μ137 805]
        refine ⟨mo_ty0 hT, fun σ152 e152 => ?_⟩
        rw [mo_sI] at e152
        obtain ⟨μ152, f152⟩ : ∃ z, z = mu_sI μ137 805 ((μ137.1 805) + ((1 : Int32))) := ⟨_, rfl⟩
        rw [← f152] at e152
        subst e152
        have hw := hw _ f152
        refine ⟨mo_ty0 hT, mq_literal hT v1 μ152 _ _ (fun μ157 hw => ?_) hw⟩
        exact hw)
  have hw := hw (by
    intro v1 μ hw
    refine hX163 _ _  ?_
    refine ⟨mo_ty0 hT, ?_⟩
    try rw [mo_I σ0 m ma μ 806]
    refine ⟨fun hc => ?_, fun hc => ?_⟩
    · have hw := hw.1 hc
      exact hw
    · have hw := hw.2 hc
      refine ⟨mo_ty0 hT, mq_sign hT μ _ _ (fun r171 μ171 hw => ?_) hw⟩
      refine ⟨fun hc => ?_, fun hc => ?_⟩
      · have hw := hw.1 hc
        exact hw
      · have hw := hw.2 hc
        refine ⟨mo_ty0 hT, mq_wrong hT ((1 : Int32)) μ171 _ _ (fun μ181 hw => ?_) hw⟩
        exact hw)
  have hw := hw (by
    intro v1 μ hw
    refine hX184 _ _  ?_
    refine ⟨mo_ty0 hT, ?_⟩
    try rw [mo_I σ0 m ma μ 806]
    refine ⟨fun hc => ?_, fun hc => ?_⟩
    · have hw := hw.1 hc
      exact hw
    · have hw := hw.2 hc
      refine ⟨mo_ty0 hT, mq_judge hT v1 μ _ _ (fun μ193 hw => ?_) hw⟩
      exact hw)
  have hw := hw (by
    intro v1 μ hw
    refine hX196 _ _  ?_
    refine ⟨mo_ty0 hT, ?_⟩
    try rw [mo_I σ0 m ma μ 806]
    refine ⟨fun hc => ?_, fun hc => ?_⟩
    · have hw := hw.1 hc
      exact hQ _ hw
    · have hw := hw.2 hc
      refine ⟨mo_ty0 hT, ?_⟩
      try rw [mo_I σ0 m ma μ 805]
      refine ⟨mo_ty0 hT, fun σ210 e210 => ?_⟩
      rw [mo_sI] at e210
      obtain ⟨μ210, f210⟩ : ∃ z, z = mu_sI μ 805 ((μ.1 805) + ((1 : Int32))) := ⟨_, rfl⟩
      rw [← f210] at e210
      subst e210
      have hw := hw _ f210
      refine ⟨mo_ty0 hT, ma 36, mo_R820 hT, ?_⟩
      refine ⟨mo_ty0 hT, ma 26, mo_R809 hT, ?_⟩
      refine ⟨17, 26, mo_T26 hT, hw.1, ?_⟩
      replace hw := hw.2
      try rw [mo_A σ0 m ma μ210 26]
      refine ⟨9, 36, mo_T36 hT, hw.1, fun σ224 e224 => ?_⟩
      replace hw := hw.2
      rw [mo_A σ0 m ma μ210 36, mo_sA] at e224
      obtain ⟨μ224, f224⟩ : ∃ z, z = mu_sA μ210 36 (upd (μ210.2 36) (μ210.2 26 v1.toNatClampNeg).toNatClampNeg (vp_nar .boolean ((1 : Int32)))) := ⟨_, rfl⟩
      rw [← f224] at e224
      subst e224
      have hw := hw _ f224
      refine ⟨mo_ty0 hT, ?_⟩
      try rw [mo_I σ0 m ma μ224 808]
      refine ⟨mo_ty0 hT, fun σ232 e232 => ?_⟩
      rw [mo_sI] at e232
      obtain ⟨μ232, f232⟩ : ∃ z, z = mu_sI μ224 808 ((μ224.1 808) + ((1 : Int32))) := ⟨_, rfl⟩
      rw [← f232] at e232
      subst e232
      have hw := hw _ f232
      exact hQ _ hw)
  refine ⟨mo_ty0 hT, ?_⟩
  try rw [mo_I σ0 m ma μ 808]
  refine ⟨mo_ty0 hT, ma 28, mo_R811 hT, ?_⟩
  refine ⟨17, 28, mo_T28 hT, hw.1, fun σ11 e11 => ?_⟩
  replace hw := hw.2
  rw [mo_A σ0 m ma μ 28, mo_sA] at e11
  obtain ⟨μ11, f11⟩ : ∃ z, z = mu_sA μ 28 (upd (μ.2 28) (μ.1 808).toNatClampNeg ((0 : Int32))) := ⟨_, rfl⟩
  rw [← f11] at e11
  subst e11
  have hw := hw _ f11
  refine ⟨mo_ty0 hT, ma 33, mo_R816 hT, ?_⟩
  refine ⟨17, 33, mo_T33 hT, hw.1, fun σ18 e18 => ?_⟩
  replace hw := hw.2
  rw [mo_A σ0 m ma μ11 33, mo_sA] at e18
  obtain ⟨μ18, f18⟩ : ∃ z, z = mu_sA μ11 33 (upd (μ11.2 33) (μ.1 808).toNatClampNeg ((0 : Int32))) := ⟨_, rfl⟩
  rw [← f18] at e18
  subst e18
  have hw := hw _ f18
  refine ⟨mo_ty0 hT, ma 32, mo_R815 hT, ?_⟩
  refine ⟨17, 32, mo_T32 hT, hw.1, fun σ25 e25 => ?_⟩
  replace hw := hw.2
  rw [mo_A σ0 m ma μ18 32, mo_sA] at e25
  obtain ⟨μ25, f25⟩ : ∃ z, z = mu_sA μ18 32 (upd (μ18.2 32) (μ.1 808).toNatClampNeg (vp_nar .boolean ((0 : Int32)))) := ⟨_, rfl⟩
  rw [← f25] at e25
  subst e25
  have hw := hw _ f25
  refine ⟨mo_ty0 hT, mq_sign hT μ25 _ _ (fun r27 μ27 hw => ?_) hw⟩
  refine mq_isName hT r27 μ27 _ _ (fun r30 μ30 hw => ?_) hw
  refine ⟨fun hc => ?_, fun hc => ?_⟩
  · have hw := hw.1 hc
    exact hw
  · have hw := hw.2 hc
    refine ⟨fun hc => ?_, fun hc => ?_⟩
    · have hw := hw.1 hc
      exact hw
    · have hw := hw.2 hc
      refine ⟨mo_ty0 hT, mq_wrong hT ((3 : Int32)) μ30 _ _ (fun μ44 hw => ?_) hw⟩
      exact hQ _ hw
def mp_isStrict (x1 : Int32) (x2 : Int32) (μ : mo_U) (Q : Int32 → mo_U → Prop) : Prop :=     (vp_in x1 17 ∧ ((¬ ((μ.2 32 x1.toNatClampNeg)) = 0 → Q ((1 : Int32)) μ) ∧ (((μ.2 32 x1.toNatClampNeg)) = 0 → vp_in ((((5 : Int32)) * x1) + x2) 85 ∧ ((¬ (μ.2 29 ((((5 : Int32)) * x1) + x2).toNatClampNeg) = ((1 : Int32)) → Q ((0 : Int32)) μ) ∧ ((μ.2 29 ((((5 : Int32)) * x1) + x2).toNatClampNeg) = ((1 : Int32)) → Q ((1 : Int32)) μ)))))
set_option maxHeartbeats 4000000 in
theorem mq_isStrict {σ0 : z_S} {m : Nat} {ma : Nat → Nat} (hT : mo_T σ0 m ma) (x1 : Int32) (x2 : Int32) (μ : mo_U) (Q : Int32 → mo_U → Prop) (Post : Int32 → z_S → Prop) (hQ : (∀ r μ', Q r μ' → Post r (mo_put σ0 m ma μ'))) (hw : mp_isStrict x1 x2 μ Q) : kp_Mo_isStrict m x1 x2 (mo_put σ0 m ma μ) Post := by
  unfold mp_isStrict at hw
  unfold kp_Mo_isStrict
  refine ⟨mo_ty0 hT, ma 32, mo_R815 hT, ?_⟩
  refine ⟨17, 32, mo_T32 hT, hw.1, ?_⟩
  replace hw := hw.2
  try rw [mo_A σ0 m ma μ 32]
  refine ⟨fun hc => ?_, fun hc => ?_⟩
  · have hw := hw.1 hc
    exact hQ _ _ hw
  · have hw := hw.2 hc
    refine ⟨mo_ty0 hT, ma 29, mo_R812 hT, ?_⟩
    refine ⟨85, 29, mo_T29 hT, hw.1, ?_⟩
    replace hw := hw.2
    try rw [mo_A σ0 m ma μ 29]
    refine ⟨fun hc => ?_, fun hc => ?_⟩
    · have hw := hw.1 hc
      exact hQ _ _ hw
    · have hw := hw.2 hc
      exact hQ _ _ hw
def mp_layers (μ : mo_U) (Q : Int32 → mo_U → Prop) : Prop := ∀ (X2 : Int32 → mo_U → Prop) (X29 : Int32 → Int32 → Int32 → mo_U → Prop) (X38 : Int32 → mo_U → Prop) (X46 : Int32 → Int32 → mo_U → Prop) (X56 : Int32 → Int32 → Int32 → mo_U → Prop) (X115 : Int32 → Int32 → Int32 → Int32 → mo_U → Prop) (X162 : Int32 → Int32 → mo_U → Prop),
    (∀ (v1 : Int32) (μ : mo_U), (((μ.1 817) ≤ v1 → X38 ((1 : Int32)) μ) ∧ (¬ (μ.1 817) ≤ v1 → vp_in v1 9 ∧ ((((μ.2 36 v1.toNatClampNeg)) = 0 → X29 v1 v1 ((0 : Int32)) μ) ∧ (¬ ((μ.2 36 v1.toNatClampNeg)) = 0 → X29 v1 v1 ((1 : Int32)) μ)))) → X2 v1 μ) →
    (∀ (v1 : Int32) (t1 : Int32) (t2 : Int32) (μ : mo_U), (vp_in t1 9 ∧ ∀ μ29, μ29 = mu_sA μ 37 (upd (μ.2 37) t1.toNatClampNeg t2) → X2 (v1 + (1 : Int32)) μ29) → X29 v1 t1 t2 μ) →
    (∀ (v1 : Int32) (μ : mo_U), ((v1 = 0 → Q ((1 : Int32)) μ) ∧ (¬ v1 = 0 → X46 ((0 : Int32)) ((0 : Int32)) μ)) → X38 v1 μ) →
    (∀ (v1 : Int32) (v2 : Int32) (μ : mo_U), (((μ.1 808) ≤ v2 → X162 v1 ((0 : Int32)) μ) ∧ (¬ (μ.1 808) ≤ v2 → X56 v1 v2 ((0 : Int32)) μ)) → X46 v1 v2 μ) →
    (∀ (v1 : Int32) (v2 : Int32) (v3 : Int32) (μ : mo_U), (vp_in v2 17 ∧ (((μ.2 28 v2.toNatClampNeg) ≤ v3 → X46 v1 (v2 + (1 : Int32)) μ) ∧ (¬ (μ.2 28 v2.toNatClampNeg) ≤ v3 → vp_in ((((5 : Int32)) * v2) + v3) 85 ∧ ((¬ (μ.2 29 ((((5 : Int32)) * v2) + v3).toNatClampNeg) = ((2 : Int32)) → vp_in ((((5 : Int32)) * v2) + v3) 85 ∧ (vp_in (μ.2 30 ((((5 : Int32)) * v2) + v3).toNatClampNeg) 9 ∧ (mp_isStrict v2 v3 μ (fun (r103 : Int32) (μ103 : mo_U) => (r103 = 0 → X115 v1 v2 v3 ((μ.2 37 (μ.2 30 ((((5 : Int32)) * v2) + v3).toNatClampNeg).toNatClampNeg) + ((0 : Int32))) μ103) ∧ (¬ r103 = 0 → X115 v1 v2 v3 ((μ.2 37 (μ.2 30 ((((5 : Int32)) * v2) + v3).toNatClampNeg).toNatClampNeg) + ((1 : Int32))) μ103))))) ∧ ((μ.2 29 ((((5 : Int32)) * v2) + v3).toNatClampNeg) = ((2 : Int32)) → X115 v1 v2 v3 ((0 : Int32)) μ))))) → X56 v1 v2 v3 μ) →
    (∀ (v1 : Int32) (v2 : Int32) (v3 : Int32) (t0 : Int32) (μ : mo_U), (vp_in v2 17 ∧ (vp_in (μ.2 26 v2.toNatClampNeg) 9 ∧ ((t0 ≤ (μ.2 37 (μ.2 26 v2.toNatClampNeg).toNatClampNeg) → X56 v1 v2 (v3 + (1 : Int32)) μ) ∧ (¬ t0 ≤ (μ.2 37 (μ.2 26 v2.toNatClampNeg).toNatClampNeg) → vp_in v2 17 ∧ (vp_in (μ.2 26 v2.toNatClampNeg) 9 ∧ ∀ μ145, μ145 = mu_sA μ 37 (upd (μ.2 37) (μ.2 26 v2.toNatClampNeg).toNatClampNeg t0) → X56 ((1 : Int32)) v2 (v3 + (1 : Int32)) μ145))))) → X115 v1 v2 v3 t0 μ) →
    (∀ (v1 : Int32) (v2 : Int32) (μ : mo_U), (((μ.1 817) ≤ v2 → X38 v1 μ) ∧ (¬ (μ.1 817) ≤ v2 → vp_in v2 9 ∧ (((μ.2 37 v2.toNatClampNeg) ≤ ((8 : Int32)) → X162 v1 (v2 + (1 : Int32)) μ) ∧ (¬ (μ.2 37 v2.toNatClampNeg) ≤ ((8 : Int32)) → Q ((0 : Int32)) μ)))) → X162 v1 v2 μ) →
    (X2 ((0 : Int32)) μ)
set_option maxHeartbeats 4000000 in
theorem mq_layers {σ0 : z_S} {m : Nat} {ma : Nat → Nat} (hT : mo_T σ0 m ma) (μ : mo_U) (Q : Int32 → mo_U → Prop) (Post : Int32 → z_S → Prop) (hQ : (∀ r μ', Q r μ' → Post r (mo_put σ0 m ma μ'))) (hw : mp_layers μ Q) : kp_Mo_layers m (mo_put σ0 m ma μ) Post := by
  unfold mp_layers at hw
  unfold kp_Mo_layers
  intro X2 X29 X38 X46 X56 X115 X162 hX2 hX29 hX38 hX46 hX56 hX115 hX162
  have hw := hw (fun (v1 : Int32) (μ : mo_U) => X2 v1 (mo_put σ0 m ma μ))
  have hw := hw (fun (v1 : Int32) (t1 : Int32) (t2 : Int32) (μ : mo_U) => X29 v1 (ma 37) t1 t2 (mo_put σ0 m ma μ))
  have hw := hw (fun (v1 : Int32) (μ : mo_U) => X38 v1 (mo_put σ0 m ma μ))
  have hw := hw (fun (v1 : Int32) (v2 : Int32) (μ : mo_U) => X46 v1 v2 (mo_put σ0 m ma μ))
  have hw := hw (fun (v1 : Int32) (v2 : Int32) (v3 : Int32) (μ : mo_U) => X56 v1 v2 v3 (mo_put σ0 m ma μ))
  have hw := hw (fun (v1 : Int32) (v2 : Int32) (v3 : Int32) (t0 : Int32) (μ : mo_U) => X115 v1 v2 v3 t0 (mo_put σ0 m ma μ))
  have hw := hw (fun (v1 : Int32) (v2 : Int32) (μ : mo_U) => X162 v1 v2 (mo_put σ0 m ma μ))
  have hw := hw (by
    intro v1 μ hw
    refine hX2 _ _  ?_
    refine ⟨mo_ty0 hT, ?_⟩
    try rw [mo_I σ0 m ma μ 817]
    refine ⟨fun hc => ?_, fun hc => ?_⟩
    · have hw := hw.1 hc
      exact hw
    · have hw := hw.2 hc
      refine ⟨mo_ty0 hT, ma 37, mo_R821 hT, ?_⟩
      refine ⟨mo_ty0 hT, ma 36, mo_R820 hT, ?_⟩
      refine ⟨9, 36, mo_T36 hT, hw.1, ?_⟩
      replace hw := hw.2
      try rw [mo_A σ0 m ma μ 36]
      refine ⟨fun hc => ?_, fun hc => ?_⟩
      · have hw := hw.1 hc
        exact hw
      · have hw := hw.2 hc
        exact hw)
  have hw := hw (by
    intro v1 t1 t2 μ hw
    refine hX29 _ _ _ _ _  ?_
    refine ⟨9, 37, mo_T37 hT, hw.1, fun σ29 e29 => ?_⟩
    replace hw := hw.2
    rw [mo_A σ0 m ma μ 37, mo_sA] at e29
    obtain ⟨μ29, f29⟩ : ∃ z, z = mu_sA μ 37 (upd (μ.2 37) t1.toNatClampNeg t2) := ⟨_, rfl⟩
    rw [← f29] at e29
    subst e29
    have hw := hw _ f29
    exact hw)
  have hw := hw (by
    intro v1 μ hw
    refine hX38 _ _  ?_
    refine ⟨fun hc => ?_, fun hc => ?_⟩
    · have hw := hw.1 hc
      exact hQ _ _ hw
    · have hw := hw.2 hc
      exact hw)
  have hw := hw (by
    intro v1 v2 μ hw
    refine hX46 _ _ _  ?_
    refine ⟨mo_ty0 hT, ?_⟩
    try rw [mo_I σ0 m ma μ 808]
    refine ⟨fun hc => ?_, fun hc => ?_⟩
    · have hw := hw.1 hc
      exact hw
    · have hw := hw.2 hc
      exact hw)
  have hw := hw (by
    intro v1 v2 v3 μ hw
    refine hX56 _ _ _ _  ?_
    refine ⟨mo_ty0 hT, ma 28, mo_R811 hT, ?_⟩
    refine ⟨17, 28, mo_T28 hT, hw.1, ?_⟩
    replace hw := hw.2
    try rw [mo_A σ0 m ma μ 28]
    refine ⟨fun hc => ?_, fun hc => ?_⟩
    · have hw := hw.1 hc
      exact hw
    · have hw := hw.2 hc
      refine ⟨mo_ty0 hT, ma 29, mo_R812 hT, ?_⟩
      refine ⟨85, 29, mo_T29 hT, hw.1, ?_⟩
      replace hw := hw.2
      try rw [mo_A σ0 m ma μ 29]
      refine ⟨fun hc => ?_, fun hc => ?_⟩
      · have hw := hw.1 hc
        refine ⟨mo_ty0 hT, ma 37, mo_R821 hT, ?_⟩
        refine ⟨mo_ty0 hT, ma 30, mo_R813 hT, ?_⟩
        refine ⟨85, 30, mo_T30 hT, hw.1, ?_⟩
        replace hw := hw.2
        try rw [mo_A σ0 m ma μ 30]
        refine ⟨9, 37, mo_T37 hT, hw.1, ?_⟩
        replace hw := hw.2
        try rw [mo_A σ0 m ma μ 37]
        refine ⟨mo_ty0 hT, mq_isStrict hT v2 v3 μ _ _ (fun r103 μ103 hw => ?_) hw⟩
        refine ⟨fun hc => ?_, fun hc => ?_⟩
        · have hw := hw.1 hc
          exact hw
        · have hw := hw.2 hc
          exact hw
      · have hw := hw.2 hc
        exact hw)
  have hw := hw (by
    intro v1 v2 v3 t0 μ hw
    refine hX115 _ _ _ _ _  ?_
    refine ⟨mo_ty0 hT, ma 37, mo_R821 hT, ?_⟩
    refine ⟨mo_ty0 hT, ma 26, mo_R809 hT, ?_⟩
    refine ⟨17, 26, mo_T26 hT, hw.1, ?_⟩
    replace hw := hw.2
    try rw [mo_A σ0 m ma μ 26]
    refine ⟨9, 37, mo_T37 hT, hw.1, ?_⟩
    replace hw := hw.2
    try rw [mo_A σ0 m ma μ 37]
    refine ⟨fun hc => ?_, fun hc => ?_⟩
    · have hw := hw.1 hc
      exact hw
    · have hw := hw.2 hc
      refine ⟨mo_ty0 hT, ma 37, mo_R821 hT, ?_⟩
      refine ⟨mo_ty0 hT, ma 26, mo_R809 hT, ?_⟩
      refine ⟨17, 26, mo_T26 hT, hw.1, ?_⟩
      replace hw := hw.2
      try rw [mo_A σ0 m ma μ 26]
      refine ⟨9, 37, mo_T37 hT, hw.1, fun σ145 e145 => ?_⟩
      replace hw := hw.2
      rw [mo_A σ0 m ma μ 37, mo_sA] at e145
      obtain ⟨μ145, f145⟩ : ∃ z, z = mu_sA μ 37 (upd (μ.2 37) (μ.2 26 v2.toNatClampNeg).toNatClampNeg t0) := ⟨_, rfl⟩
      rw [← f145] at e145
      subst e145
      have hw := hw _ f145
      exact hw)
  have hw := hw (by
    intro v1 v2 μ hw
    refine hX162 _ _ _  ?_
    refine ⟨mo_ty0 hT, ?_⟩
    try rw [mo_I σ0 m ma μ 817]
    refine ⟨fun hc => ?_, fun hc => ?_⟩
    · have hw := hw.1 hc
      exact hw
    · have hw := hw.2 hc
      refine ⟨mo_ty0 hT, ma 37, mo_R821 hT, ?_⟩
      refine ⟨9, 37, mo_T37 hT, hw.1, ?_⟩
      replace hw := hw.2
      try rw [mo_A σ0 m ma μ 37]
      refine ⟨fun hc => ?_, fun hc => ?_⟩
      · have hw := hw.1 hc
        exact hw
      · have hw := hw.2 hc
        exact hQ _ _ hw)
  exact hw
