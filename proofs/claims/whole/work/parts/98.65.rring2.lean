/-- the least relation of a bad ring, and who lies on it -/
theorem ref_findRing {rs : List ru_T} {n : Nat} {μ0 : mo_U} (h0 : rul_C rs μ0) (hn8 : n ≤ 8) (h817 : μ0.1 817 = nI n) (hl2 : ∀ r ∈ rs, ∀ l ∈ r.ls, l.1 ≤ 2) (hc : c38 μ0 (rea rs)) {x : Nat} (hxn : x < n) (hx : bad rs x) (hmin : ∀ y, y < x → ¬ bad rs y) (Q : mo_U → Prop) (hQ : ∀ μ, mo_fr [39] [] μ0 μ → (∀ v, v < 8 → (μ.2 39 v = 0 ∨ μ.2 39 v = 1) ∧ (μ.2 39 v = 1 ↔ v = x ∨ (rea rs x v ∧ rea rs v x))) → Q μ) : mp_findRing μ0 Q := by
  intro X9 X35 X89 h9 h35 h89
  have x8 : x < 8 := by omega
  have e8 : ∀ a b : Nat, (8 : Int32) * nI a + nI b = nI (8 * a + b) := fun a b => by rw [show (8 : Int32) = nI 8 from rfl, pk_mul, nI_k]
  have n0 : ∀ {y : Int32}, (y = 0 ∨ y = 1) → ¬ y = 0 → y = 1 := fun h z => h.resolve_left z
  have z01 : ∀ {y : Int32}, y = 0 → ¬ y = 1 := fun h z => by rw [h] at z; exact absurd z (by decide)
  have marks : ∀ (k i : Nat) (μ : mo_U), i + k = 8 → mo_fr [39] [] μ0 μ → (∀ v, v < i → (μ.2 39 v = 0 ∨ μ.2 39 v = 1) ∧ (μ.2 39 v = 1 ↔ v = x ∨ (rea rs x v ∧ rea rs v x))) → X35 (nI x) (nI i) μ := by
    intro k
    induction k with
    | zero =>
      intro i μ hi hf hm
      refine h35 _ _ _ ⟨fun _ => hQ μ hf (fun v hv => hm v (by omega)), fun z => absurd (nI_le (a := 8) (by omega) (by omega)) z⟩
    | succ k ih =>
      intro i μ hi hf hm
      have i8 : i < 8 := by omega
      obtain ⟨p1, p2⟩ := hc x i x8 i8
      obtain ⟨q1, q2⟩ := hc i x i8 x8
      have put : ∀ b : Int32, (b = 0 ∨ b = 1) → (b = 1 ↔ i = x ∨ (rea rs x i ∧ rea rs i x)) → X89 (nI x) (nI i) (nI i) b μ := fun b hb he => by
        refine h89 _ _ _ _ _ ⟨vp_in_nI i8 (by decide), fun μ1 e1 => ?_⟩
        have hnar : vp_nar .boolean b = b := by rcases hb with z | z <;> rw [z] <;> rfl
        rw [cl_nI (by omega), hnar] at e1
        rw [nI_1]
        have x39 : ∀ y, μ1.2 39 y = if y = i then b else μ.2 39 y := fun y => by rw [e1]; rfl
        refine ih (i + 1) μ1 (by omega) (mo_fr_tr hf (by rw [e1]; exact fr_sA (by decide) _)) (fun v hv => ?_)
        rw [x39]
        by_cases z : v = i
        · rw [if_pos z, z]; exact ⟨hb, he⟩
        · rw [if_neg z]; exact hm v (by omega)
      refine h35 _ _ _ ⟨fun z => absurd z (nI_ge (b := 8) (by omega) (by decide)), fun _ => ⟨fun z => absurd z (ov_m1 (by omega)), fun _ => ?_⟩⟩
      rw [nI_eq (by omega) (by omega), e8, e8, cl_nI (by omega), cl_nI (by omega), hf.1 38 (by decide)]
      refine ⟨fun z => put 1 (Or.inr rfl) ⟨fun _ => Or.inl z, fun _ => rfl⟩, fun z => ⟨vp_in_nI (by omega) (by decide), fun zp => put 0 (Or.inl rfl) ⟨fun w => absurd w (by decide), fun w => ?_⟩, fun zp => ⟨vp_in_nI (by omega) (by decide), fun zq => put 0 (Or.inl rfl) ⟨fun w => absurd w (by decide), fun w => ?_⟩, fun zq => put 1 (Or.inr rfl) ⟨fun _ => Or.inr ⟨p2.mp (n0 p1 zp), q2.mp (n0 q1 zq)⟩, fun _ => rfl⟩⟩⟩⟩
      · exact w.elim (fun y => absurd y z) (fun y => absurd (p2.mpr y.1) (z01 zp))
      · exact w.elim (fun y => absurd y z) (fun y => absurd (q2.mpr y.2) (z01 zq))
  have down : ∀ (k : Nat) (v1 : Int32), k ≤ n → (k ≤ x → v1 = nI x) → X9 v1 (nI k - 1) μ0 := by
    intro k
    induction k with
    | zero =>
      intro v1 hk hv
      refine h9 _ _ _ ⟨fun _ => ?_, fun z => absurd (by decide) z⟩
      rw [hv (Nat.zero_le _)]
      exact marks 8 0 μ0 rfl mo_fr_rf (fun v hv => absurd hv (Nat.not_lt_zero v))
    | succ k ih =>
      intro v1 hk hv
      rw [nI_pred]
      refine h9 _ _ _ ⟨fun z => absurd z (nI_pos (by omega)), fun _ => ?_⟩
      have e1 : nI k + (-1 : Int32) = nI k - 1 := (Int32.sub_eq_add_neg _ _).symm
      rw [e1]
      refine ref_isBad h0 hl2 hc (by omega) _ (fun hb => ⟨fun z => absurd z (by decide), fun _ => ih _ (by omega) (fun hle => ?_)⟩) (fun hb => ⟨fun _ => ih _ (by omega) (fun hle => ?_), fun z => absurd rfl z⟩)
      · have : k = x := by
          rcases Nat.lt_or_ge k x with z | z
          · exact absurd hb (hmin k z)
          · omega
        rw [this]
      · have : k ≠ x := fun z => hb (by rw [z]; exact hx)
        exact hv (by omega)
  rw [h817]
  exact down n (-1) (Nat.le_refl _) (fun z => absurd z (by omega))
