def hsn (hs : List sl_T) (cs : sl_T) : List sl_T := (if hs.length = 6 then hs.drop 1 else hs) ++ [cs]
theorem fives_cp {A B : Nat → Int32} {st st' : Nat} {cs : sl_T} (h : fives A st cs) (e : ∀ p, p < 5 * cs.length → B (st' + p) = A (st + p)) : fives B st' cs := fun i hi => by
  obtain ⟨⟨a0, a1, a2, a3, a4⟩, h1, h2⟩ := h i hi
  refine ⟨⟨?_, ?_, ?_, ?_, ?_⟩, h1, h2⟩
  · rw [e (5 * i) (by omega)]; exact a0
  · rw [Nat.add_assoc, e (5 * i + 1) (by omega), ← Nat.add_assoc]; exact a1
  · rw [Nat.add_assoc, e (5 * i + 2) (by omega), ← Nat.add_assoc]; exact a2
  · rw [Nat.add_assoc, e (5 * i + 3) (by omega), ← Nat.add_assoc]; exact a3
  · rw [Nat.add_assoc, e (5 * i + 4) (by omega), ← Nat.add_assoc]; exact a4
theorem mu_A_sA' (μ : mo_U) (t : Nat) (F : Nat → Int32) (g : Nat) : (mu_sA μ t F).2 g = if g = t then F else μ.2 g := rfl
theorem ref_hist {μ0 : mo_U} {hs : List sl_T} {cs : sl_T} (h834 : μ0.1 834 = nI hs.length) (h6 : hs.length ≤ 6) (hh : ∀ i, i < hs.length → μ0.2 48 i = nI (hs.getD i []).length ∧ fives (μ0.2 47) (300 * i) (hs.getD i [])) (hl : ∀ i, i < hs.length → (hs.getD i []).length ≤ 60) (h46 : fives (μ0.2 46) 0 cs) (hc : cs.length ≤ 60) (Q : Int32 → mo_U → Prop) (X53 X84 X116 : Int32 → Int32 → mo_U → Prop)
    (h53 : ∀ (v1 : Int32) (v3 : Int32) (μ : mo_U), ((((1500 : Int32)) ≤ v3 → X84 v1 ((0 : Int32)) μ) ∧ (¬ ((1500 : Int32)) ≤ v3 → vp_in (v3 + ((300 : Int32))) 1800 ∧ (vp_in v3 1800 ∧ ∀ μ75, μ75 = mu_sA μ 47 (upd (μ.2 47) v3.toNatClampNeg (μ.2 47 (v3 + ((300 : Int32))).toNatClampNeg)) → X53 v1 (v3 + (1 : Int32)) μ75))) → X53 v1 v3 μ)
    (h84 : ∀ (v1 : Int32) (v3 : Int32) (μ : mo_U), ((((5 : Int32)) ≤ v3 → ∀ μ111, μ111 = mu_sI μ 834 ((5 : Int32)) → X116 v1 ((0 : Int32)) μ111) ∧ (¬ ((5 : Int32)) ≤ v3 → vp_in (v3 + ((1 : Int32))) 6 ∧ (vp_in v3 6 ∧ ∀ μ102, μ102 = mu_sA μ 48 (upd (μ.2 48) v3.toNatClampNeg (μ.2 48 (v3 + ((1 : Int32))).toNatClampNeg)) → X84 v1 (v3 + (1 : Int32)) μ102))) → X84 v1 v3 μ)
    (h116 : ∀ (v1 : Int32) (v3 : Int32) (μ : mo_U), (((((5 : Int32)) * v1) ≤ v3 → vp_in (μ.1 834) 6 ∧ ∀ μ159, μ159 = mu_sA μ 48 (upd (μ.2 48) (μ.1 834).toNatClampNeg v1) → ∀ μ167, μ167 = mu_sI μ159 834 ((μ159.1 834) + ((1 : Int32))) → Q (μ167.1 836) μ167) ∧ (¬ (((5 : Int32)) * v1) ≤ v3 → vp_in v3 300 ∧ (vp_in ((((300 : Int32)) * (μ.1 834)) + v3) 1800 ∧ ∀ μ143, μ143 = mu_sA μ 47 (upd (μ.2 47) ((((300 : Int32)) * (μ.1 834)) + v3).toNatClampNeg (μ.2 46 v3.toNatClampNeg)) → X116 v1 (v3 + (1 : Int32)) μ143))) → X116 v1 v3 μ)
    (hQ : ∀ μ, mo_fr [47, 48] [834] μ0 μ → μ.1 834 = nI (hsn hs cs).length → (∀ i, i < (hsn hs cs).length → μ.2 48 i = nI ((hsn hs cs).getD i []).length ∧ fives (μ.2 47) (300 * i) ((hsn hs cs).getD i [])) → Q (μ.1 836) μ) : (¬ (μ0.1 834) = ((6 : Int32)) → X116 (nI cs.length) ((0 : Int32)) μ0) ∧ ((μ0.1 834) = ((6 : Int32)) → X53 (nI cs.length) ((0 : Int32)) μ0) := by
  -- putting at the end
  have put : ∀ (ol : List sl_T) (μ1 : mo_U), hsn hs cs = ol ++ [cs] → ol.length < 6 → mo_fr [47, 48] [834] μ0 μ1 → μ1.1 834 = nI ol.length → (∀ i, i < ol.length → μ1.2 48 i = nI (ol.getD i []).length ∧ fives (μ1.2 47) (300 * i) (ol.getD i [])) → (∀ i, i < ol.length → (ol.getD i []).length ≤ 60) → X116 (nI cs.length) 0 μ1 := by
    intro ol μ1 eol hol hf1 h1 hh1 hl1
    have main : ∀ k j μ, j + k = 5 * cs.length → mo_fr [47] [] μ1 μ → (∀ p, μ.2 47 p = if 300 * ol.length ≤ p ∧ p < 300 * ol.length + j then μ1.2 46 (p - 300 * ol.length) else μ1.2 47 p) → X116 (nI cs.length) (nI j) μ := by
      intro k
      induction k with
      | zero =>
        intro j μ hj hf h47
        have e834 : μ.1 834 = nI ol.length := by rw [hf.2 834 (by decide)]; exact h1
        refine h116 _ _ _ ⟨fun _ => ?_, fun q => absurd (by rw [nI_5]; exact nI_le (by omega) (by omega)) q⟩
        rw [e834]
        refine ⟨vp_in_nI hol (by decide), fun μ2 e2 μ3 e3 => ?_⟩
        rw [cl_nI (by omega)] at e2
        have fr2 : mo_fr [47, 48] [834] μ1 μ3 := by
          rw [e3, e2]
          exact mo_fr_tr (fr_mono hf (by decide) (by decide)) (mo_fr_tr (fr_sA (by decide) _) (fr_sI (by decide) _))
        refine hQ μ3 (mo_fr_tr hf1 fr2) ?_ (fun i hi => ?_)
        · rw [e3, mu_I_sI, if_pos rfl, e2, eol, List.length_append]
          show μ.1 834 + 1 = nI (ol.length + 1)
          rw [e834, nI_1]
        · rw [eol] at hi ⊢
          rw [List.length_append] at hi
          have hi : i < ol.length + 1 := hi
          have x48 : μ3.2 48 i = if i = ol.length then nI cs.length else μ.2 48 i := by rw [e3, e2]; rfl
          have x47 : ∀ p, μ3.2 47 p = μ.2 47 p := fun p => by rw [e3, e2]; rfl
          rw [x48]
          by_cases z : i = ol.length
          · rw [if_pos z, z, List.getD_eq_getElem?_getD, List.getElem?_append_right (Nat.le_refl _), Nat.sub_self]
            refine ⟨rfl, fives_cp h46 (fun p hp => ?_)⟩
            have hp : p < 5 * cs.length := hp
            rw [x47, h47, if_pos (by omega), Nat.zero_add, Nat.add_sub_cancel_left, hf1.1 46 (by decide)]
          · have hlt : i < ol.length := by omega
            rw [if_neg z, List.getD_eq_getElem?_getD, List.getElem?_append_left hlt, ← List.getD_eq_getElem?_getD, hf.1 48 (by decide)]
            refine ⟨(hh1 i hlt).1, fives_cp (hh1 i hlt).2 (fun p hp => ?_)⟩
            have := hl1 i hlt
            rw [x47, h47, if_neg (by omega)]
      | succ k ih =>
        intro j μ hj hf h47
        have e834 : μ.1 834 = nI ol.length := by rw [hf.2 834 (by decide)]; exact h1
        refine h116 _ _ _ ⟨fun q => absurd q (by rw [nI_5]; exact nI_ge (by omega) (by omega)), fun _ => ?_⟩
        rw [e834, show (300 : Int32) = nI 300 from rfl, pk_mul, nI_k]
        refine ⟨vp_in_nI (by omega) (by decide), vp_in_nI (by omega) (by decide), fun μ2 e2 => ?_⟩
        rw [cl_nI (by omega), cl_nI (by omega)] at e2
        rw [nI_1]
        refine ih (j + 1) μ2 (by omega) ?_ (fun p => ?_)
        · rw [e2]; exact mo_fr_tr hf (fr_sA (by decide) _)
        · rw [e2]
          show (if p = 300 * ol.length + j then μ.2 46 j else μ.2 47 p) = _
          by_cases z : p = 300 * ol.length + j
          · rw [if_pos z, if_pos (by omega), hf.1 46 (by decide), z, Nat.add_sub_cancel_left]
          · rw [if_neg z, h47]
            by_cases y : 300 * ol.length ≤ p ∧ p < 300 * ol.length + j
            · rw [if_pos y, if_pos (by omega)]
            · rw [if_neg y, if_neg (by omega)]
    refine main (5 * cs.length) 0 μ1 (by omega) mo_fr_rf (fun p => ?_)
    rw [if_neg (by omega)]
  refine ⟨fun hne => ?_, fun he => ?_⟩
  · have hn6 : hs.length ≠ 6 := fun z => hne (by rw [h834, z]; rfl)
    refine put hs μ0 ?_ (by omega) mo_fr_rf h834 hh hl
    unfold hsn
    rw [if_neg hn6]
  · have hn6 : hs.length = 6 := by
      rw [h834, show (6 : Int32) = nI 6 from rfl, nI_eq (by omega) (by decide)] at he
      exact he
    have hdl : (hs.drop 1).length = 5 := by rw [List.length_drop, hn6]
    have hdg : ∀ i, (hs.drop 1).getD i [] = hs.getD (i + 1) [] := fun i => by
      rw [List.getD_eq_getElem?_getD, List.getD_eq_getElem?_getD, List.getElem?_drop, Nat.add_comm]
    have m2 : ∀ k j μ, j + k = 5 → mo_fr [47, 48] [834] μ0 μ → (∀ p, μ.2 47 p = if p < 1500 then μ0.2 47 (p + 300) else μ0.2 47 p) → (∀ p, μ.2 48 p = if p < j then μ0.2 48 (p + 1) else μ0.2 48 p) → X84 (nI cs.length) (nI j) μ := by
      intro k
      induction k with
      | zero =>
        intro j μ hj hf h47 h48
        refine h84 _ _ _ ⟨fun _ μ1 e1 => ?_, fun q => absurd (nI_le (a := 5) (by omega) (by omega)) q⟩
        refine put (hs.drop 1) μ1 ?_ (by omega) ?_ ?_ (fun i hi => ?_) (fun i hi => ?_)
        · unfold hsn
          rw [if_pos hn6]
        · rw [e1]; exact mo_fr_tr hf (fr_sI (by decide) _)
        · rw [e1, mu_I_sI, if_pos rfl, hdl]; rfl
        · rw [hdg]
          obtain ⟨g1, g2⟩ := hh (i + 1) (by omega)
          have := hl (i + 1) (by omega)
          refine ⟨?_, fives_cp g2 (fun p hp => ?_)⟩
          · rw [e1]
            show μ.2 48 i = _
            rw [h48, if_pos (by omega), g1]
          · rw [e1]
            show μ.2 47 (300 * i + p) = _
            rw [h47, if_pos (by omega), show 300 * i + p + 300 = 300 * (i + 1) + p by omega]
        · rw [hdg]; exact hl (i + 1) (by omega)
      | succ k ih =>
        intro j μ hj hf h47 h48
        refine h84 _ _ _ ⟨fun q => absurd q (nI_ge (b := 5) (by omega) (by omega)), fun _ => ?_⟩
        rw [nI_1]
        refine ⟨vp_in_nI (by omega) (by decide), vp_in_nI (by omega) (by decide), fun μ1 e1 => ?_⟩
        rw [cl_nI (by omega), cl_nI (by omega)] at e1
        refine ih (j + 1) μ1 (by omega) ?_ (fun p => ?_) (fun p => ?_)
        · rw [e1]; exact mo_fr_tr hf (fr_sA (by decide) _)
        · rw [e1]; exact h47 p
        · rw [e1]
          show (if p = j then μ.2 48 (j + 1) else μ.2 48 p) = _
          by_cases z : p = j
          · rw [if_pos z, if_pos (by omega), h48, if_neg (by omega), z]
          · rw [if_neg z, h48]
            by_cases y : p < j
            · rw [if_pos y, if_pos (by omega)]
            · rw [if_neg y, if_neg (by omega)]
    have m1 : ∀ k j μ, j + k = 1500 → mo_fr [47] [] μ0 μ → (∀ p, μ.2 47 p = if p < j then μ0.2 47 (p + 300) else μ0.2 47 p) → X53 (nI cs.length) (nI j) μ := by
      intro k
      induction k with
      | zero =>
        intro j μ hj hf h47
        refine h53 _ _ _ ⟨fun _ => ?_, fun q => absurd (nI_le (a := 1500) (by omega) (by omega)) q⟩
        refine m2 5 0 μ (by decide) (fr_mono hf (by decide) (by decide)) (fun p => ?_) (fun p => ?_)
        · rw [h47, show j = 1500 by omega]
        · rw [if_neg (by omega), hf.1 48 (by decide)]
      | succ k ih =>
        intro j μ hj hf h47
        refine h53 _ _ _ ⟨fun q => absurd q (nI_ge (b := 1500) (by omega) (by omega)), fun _ => ?_⟩
        rw [show (300 : Int32) = nI 300 from rfl, nI_k, nI_1]
        refine ⟨vp_in_nI (by omega) (by decide), vp_in_nI (by omega) (by decide), fun μ1 e1 => ?_⟩
        rw [cl_nI (by omega), cl_nI (by omega)] at e1
        refine ih (j + 1) μ1 (by omega) ?_ (fun p => ?_)
        · rw [e1]; exact mo_fr_tr hf (fr_sA (by decide) _)
        · rw [e1]
          show (if p = j then μ.2 47 (j + 300) else μ.2 47 p) = _
          by_cases z : p = j
          · rw [if_pos z, if_pos (by omega), h47, if_neg (by omega), z]
          · rw [if_neg z, h47]
            by_cases y : p < j
            · rw [if_pos y, if_pos (by omega)]
            · rw [if_neg y, if_neg (by omega)]
    refine m1 1500 0 μ0 (by decide) mo_fr_rf (fun p => ?_)
    rw [if_neg (by omega)]
