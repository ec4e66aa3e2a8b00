/-! keepForTakingBack, and what stays -/
def kf (x dn : Nat) (σ σ' : z_S) : Prop := (∀ a, z_ty σ' a = z_ty σ a) ∧ (∀ f a, f ≠ 708 → z_R σ' f a = z_R σ f a) ∧ (∀ t a, (t ≠ 22 ∨ a ≠ dn) → z_Q σ' t a = z_Q σ t a) ∧ (∀ f a, f ≠ 710 → z_I σ' f a = z_I σ f a) ∧ (∀ t a, z_A σ' t a = z_A σ t a)
theorem kf.ty {x dn : Nat} {σ σ' : z_S} (h' : kf x dn σ σ') : ∀ a, z_ty σ' a = z_ty σ a := h'.1
theorem kf.R {x dn : Nat} {σ σ' : z_S} (h' : kf x dn σ σ') : ∀ f a, f ≠ 708 → z_R σ' f a = z_R σ f a := h'.2.1
theorem kf.Q {x dn : Nat} {σ σ' : z_S} (h' : kf x dn σ σ') : ∀ t a, (t ≠ 22 ∨ a ≠ dn) → z_Q σ' t a = z_Q σ t a := h'.2.2.1
theorem kf.I {x dn : Nat} {σ σ' : z_S} (h' : kf x dn σ σ') : ∀ f a, f ≠ 710 → z_I σ' f a = z_I σ f a := h'.2.2.2.1
theorem kf.A {x dn : Nat} {σ σ' : z_S} (h' : kf x dn σ σ') : ∀ t a, z_A σ' t a = z_A σ t a := h'.2.2.2.2
theorem kf_rf (x dn : Nat) (σ : z_S) : kf x dn σ σ := ⟨fun _ => rfl, fun _ _ _ => rfl, fun _ _ _ => rfl, fun _ _ _ => rfl, fun _ _ => rfl⟩
theorem kf_tr {x dn : Nat} {σ σ' σ'' : z_S} (h : kf x dn σ σ') (g : kf x dn σ' σ'') : kf x dn σ σ'' := ⟨fun a => (g.ty a).trans (h.ty a), fun f a q => (g.R f a q).trans (h.R f a q), fun t a q => (g.Q t a q).trans (h.Q t a q), fun f a q => (g.I f a q).trans (h.I f a q), fun t a => (g.A t a).trans (h.A t a)⟩
theorem kf_Q (x dn : Nat) (σ : z_S) (v : Nat → Option Nat) : kf x dn σ (z_sQ σ 22 dn v) := ⟨fun _ => rfl, fun _ _ _ => rfl, fun t a q => by rw [z_Q_sQ, if_neg (fun z => q.elim (fun y => y z.1) (fun y => y z.2))], fun _ _ _ => rfl, fun _ _ => rfl⟩
theorem kf_R (x dn : Nat) (σ : z_S) (b : Nat) (v : Option Nat) : kf x dn σ (z_sR σ 708 b v) := ⟨fun _ => rfl, fun f a q => by rw [z_R_sR, if_neg (fun z => q z.1)], fun _ _ _ => rfl, fun _ _ _ => rfl, fun _ _ => rfl⟩
theorem kf_I (x dn : Nat) (σ : z_S) (b : Nat) (v : Int32) : kf x dn σ (z_sI σ 710 b v) := ⟨fun _ => rfl, fun _ _ _ => rfl, fun _ _ _ => rfl, fun f a q => by rw [z_I_sI, if_neg (fun z => q z.1)], fun _ _ => rfl⟩
/-- the places of what is kept -/
def ddn (dd : Nat → Nat) (uw n : Nat) : Nat → Nat := fun i => if n = 6 then (if i = 5 then uw else dd (i + 1)) else if i = n then uw else dd i
def uwn (dd : Nat → Nat) (n : Nat) : Nat := if n = 6 then dd 0 else dd n
theorem vr_kept {x dn n uw : Nat} {O dd : Nat → Nat} {σ0 : z_S} (hx : z_ty σ0 x = some (.inl 7)) (hr : z_R σ0 709 x = some dn) (ht : z_ty σ0 dn = some (.inr (10, 6, 22))) (hq : ∀ i, i < 6 → z_Q σ0 22 dn i = some (O (dd i))) (hu : z_R σ0 708 x = some (O uw)) (hn : z_I σ0 710 x = nI n) (h6 : n ≤ 6) (hO : ∀ i, i < 7 → z_ty σ0 (O i) = some (.inl 6)) (hd : ∀ i, i < 6 → dd i < 7) (hu7 : uw < 7) (P : z_S → Prop) (hP : ∀ σ, kf x dn σ0 σ → (∀ i, i < 6 → z_Q σ 22 dn i = some (O (ddn dd uw n i))) → z_R σ 708 x = some (O (uwn dd n)) → z_I σ 710 x = nI (if n = 6 then 6 else n + 1) → P σ) : kp_Vr_keepForTakingBack x σ0 P := by
  intro X18 X61 h18 h61
  have last : ∀ (σ : z_S) (dd1 : Nat → Nat) (n1 : Nat), n1 < 6 → kf x dn σ0 σ → z_R σ 708 x = some (O uw) → (∀ i, i < 6 → z_Q σ 22 dn i = some (O (dd1 i))) → z_I σ 710 x = nI n1 → (∀ σ', kf x dn σ0 σ' → (∀ i, i < 6 → z_Q σ' 22 dn i = some (O (if i = n1 then uw else dd1 i))) → z_R σ' 708 x = some (O (dd1 n1)) → z_I σ' 710 x = nI (n1 + 1) → P σ') → X61 σ := by
    intro σ dd1 n1 h1 hf hu1 hQ hI hgo
    have tx : z_ty σ x = some (.inl 7) := by rw [hf.ty]; exact hx
    have r9 : z_R σ 709 x = some dn := by rw [hf.R 709 _ (by decide)]; exact hr
    have td : z_ty σ dn = some (.inr (10, 6, 22)) := by rw [hf.ty]; exact ht
    refine h61 σ ⟨tx, dn, r9, tx, 6, 22, td, ?_⟩
    rw [hI]
    refine ⟨vp_in_nI h1 (by decide), O (dd1 n1), by rw [cl_nI (by omega)]; exact hQ n1 h1, tx, dn, r9, tx, tx, O uw, hu1, 6, 22, td, vp_in_nI h1 (by decide), by rw [hf.ty]; exact hO uw hu7, fun σ1 e1 => ⟨by rw [e1]; exact tx, fun σ2 e2 => ⟨by rw [e2, e1]; exact tx, by rw [e2, e1]; exact tx, fun σ3 e3 => hgo σ3 ?_ (fun i hi => ?_) ?_ ?_⟩⟩⟩
    · rw [e3, e2, e1]
      exact kf_tr hf (kf_tr (kf_Q _ _ _ _) (kf_tr (kf_R _ _ _ _ _) (kf_I _ _ _ _ _)))
    · rw [e3, e2, e1, z_Q_sI, z_Q_sR, z_Q_sQ, if_pos ⟨rfl, rfl⟩, cl_nI (by omega)]
      show (if i = n1 then some (O uw) else z_Q σ 22 dn i) = _
      by_cases z : i = n1
      · rw [if_pos z, if_pos z]
      · rw [if_neg z, if_neg z]; exact hQ i hi
    · rw [e3, e2, z_R_sI, z_R_sR, if_pos ⟨rfl, rfl⟩]
    · rw [e3, z_I_sI, if_pos ⟨rfl, rfl⟩, e2, e1, z_I_sR, z_I_sQ, hI, nI_1]
  refine ⟨hx, fun hne => ?_, fun he => ⟨hx, dn, hr, 6, 22, ht, vp_in_nI (n := 0) (by decide) (by decide), O (dd 0), by rw [show ((0 : Int32)).toNatClampNeg = 0 from rfl]; exact hq 0 (by decide), ?_⟩⟩
  · have hn6 : n ≠ 6 := fun z => hne (by rw [hn, z]; rfl)
    refine last σ0 dd n (by omega) (kf_rf _ _ _) hu hq hn (fun σ hf h1 h2 h3 => hP σ hf (fun i hi => ?_) ?_ ?_)
    · rw [h1 i hi]
      unfold ddn
      rw [if_neg hn6]
    · rw [h2]
      unfold uwn
      rw [if_neg hn6]
    · rw [h3, if_neg hn6]
  · have hn6 : n = 6 := by
      rw [hn, show (6 : Int32) = nI 6 from rfl, nI_eq (by omega) (by decide)] at he
      exact he
    subst hn6
    have main : ∀ k i σ, i + k = 6 → 1 ≤ i → kf x dn σ0 σ → z_R σ 708 x = some (O uw) → z_I σ 710 x = nI 6 → (∀ j, j < 6 → z_Q σ 22 dn j = some (O (if j + 1 < i then dd (j + 1) else dd j))) → X18 (O (dd 0)) (nI i) σ := by
      intro k
      induction k with
      | zero =>
        intro i σ hi h1 hf hu1 hI hQ
        have tx : z_ty σ x = some (.inl 7) := by rw [hf.ty]; exact hx
        have r9 : z_R σ 709 x = some dn := by rw [hf.R 709 _ (by decide)]; exact hr
        have td : z_ty σ dn = some (.inr (10, 6, 22)) := by rw [hf.ty]; exact ht
        refine h18 _ _ _ ⟨fun _ => ⟨tx, dn, r9, 6, 22, td, vp_in_nI (n := 5) (by decide) (by decide), by rw [hf.ty]; exact hO _ (hd 0 (by decide)), fun σ1 e1 => ⟨by rw [e1]; exact tx, by rw [e1]; exact tx, fun σ2 e2 => ?_⟩⟩, fun q => absurd (nI_le (a := 6) (by omega) (by omega)) q⟩
        refine last σ2 (fun j => if j = 5 then dd 0 else dd (j + 1)) 5 (by decide) ?_ ?_ (fun j hj => ?_) ?_ (fun σ3 g1 g2 g3 g4 => hP σ3 g1 (fun j hj => ?_) ?_ ?_)
        · rw [e2, e1]
          exact kf_tr hf (kf_tr (kf_Q _ _ _ _) (kf_I _ _ _ _ _))
        · rw [e2, e1]; exact hu1
        · rw [e2, e1, z_Q_sI, z_Q_sQ, if_pos ⟨rfl, rfl⟩]
          show (if j = 5 then some (O (dd 0)) else z_Q σ 22 dn j) = _
          by_cases z : j = 5
          · rw [if_pos z, if_pos z]
          · rw [if_neg z, if_neg z, hQ j hj, if_pos (by omega)]
        · rw [e2, z_I_sI, if_pos ⟨rfl, rfl⟩, e1, z_I_sQ, hI]
          rfl
        · rw [g2 j hj]
          unfold ddn
          rw [if_pos rfl]
          by_cases z : j = 5
          · rw [if_pos z, if_pos z]
          · rw [if_neg z, if_neg z, if_neg z]
        · rw [g3, if_pos rfl]
          rfl
        · rw [g4]
          rfl
      | succ k ih =>
        intro i σ hi h1 hf hu1 hI hQ
        have tx : z_ty σ x = some (.inl 7) := by rw [hf.ty]; exact hx
        have r9 : z_R σ 709 x = some dn := by rw [hf.R 709 _ (by decide)]; exact hr
        have td : z_ty σ dn = some (.inr (10, 6, 22)) := by rw [hf.ty]; exact ht
        obtain ⟨u, rfl⟩ : ∃ u, i = u + 1 := ⟨i - 1, by omega⟩
        have hq1 := hQ (u + 1) (by omega)
        rw [if_neg (by omega)] at hq1
        refine h18 _ _ _ ⟨fun q => absurd q (nI_ge (b := 6) (by omega) (by omega)), fun _ => ⟨tx, dn, r9, tx, dn, r9, 6, 22, td, vp_in_nI (by omega) (by decide), O (dd (u + 1)), by rw [cl_nI (by omega)]; exact hq1, 6, 22, td, by rw [nI_pred]; exact vp_in_nI (by omega) (by decide), by rw [hf.ty]; exact hO _ (hd _ (by omega)), fun σ1 e1 => ?_⟩⟩
        rw [nI_1]
        refine ih (u + 1 + 1) σ1 (by omega) (by omega) ?_ ?_ ?_ (fun j hj => ?_)
        · rw [e1]
          exact kf_tr hf (kf_Q _ _ _ _)
        · rw [e1]; exact hu1
        · rw [e1]; exact hI
        · rw [e1, z_Q_sQ, if_pos ⟨rfl, rfl⟩, nI_pred, cl_nI (by omega)]
          show (if j = u then some (O (dd (u + 1))) else z_Q σ 22 dn j) = _
          by_cases z : j = u
          · rw [if_pos z, if_pos (by omega), z]
          · rw [if_neg z, hQ j hj]
            by_cases y : j + 1 < u + 1
            · rw [if_pos y, if_pos (by omega)]
            · rw [if_neg y, if_neg (by omega)]
    exact main 5 1 σ0 (by decide) (by decide) (kf_rf _ _ _) hu hn (fun j hj => by rw [if_neg (by omega)]; exact hq j hj)
