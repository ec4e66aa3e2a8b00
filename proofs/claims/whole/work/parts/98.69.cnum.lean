theorem cl_number {t : tx_T} (hok : tx_ok t) {R tx q : Nat} {σ : z_S} (h : cR t R tx q σ) (hq : q ≤ t.n) (P : Int32 → z_S → Prop) (hP : ∀ σ', cR t R tx (num t 3 0 q).2 σ' → e5 R σ σ' → P (nI (num t 3 0 q).1) σ') : kp_Re_readNumber R σ P := by
  intro X4 h4
  have n6 := hok.n6
  have main : ∀ (k j v p : Nat) (σ' : z_S), j + k = 3 → v < 10 ^ j → p ≤ t.n → num t 3 0 q = num t k v p → cR t R tx p σ' → e5 R σ σ' → X4 (nI v) (nI j) σ' := by
    intro k
    induction k with
    | zero =>
      intro j v p σ' hj hv hp hnum hc he
      refine h4 _ _ _ ⟨fun _ => ?_, fun z => absurd (nI_le (a := 3) (by omega) (by omega)) z⟩
      have e : num t 3 0 q = (v, p) := hnum
      rw [e] at hP
      exact hP σ' hc he
    | succ k ih =>
      intro j v p σ' hj hv hp hnum hc he
      have v100 : v < 100 := by
        rcases (show j = 0 ∨ j = 1 ∨ j = 2 by omega) with rfl | rfl | rfl <;> omega
      have stop : ¬ (p < t.n ∧ 48 ≤ t.c p ∧ t.c p ≤ 57) → P (nI v) σ' := fun hno => by
        have e : num t 3 0 q = (v, p) := by
          rw [hnum]
          unfold num
          rw [if_neg hno]
        rw [e] at hP
        exact hP σ' hc he
      refine h4 _ _ _ ⟨fun z => absurd z (nI_ge (b := 3) (by omega) (by decide)), fun _ => ⟨hc.ty, hc.ty, ?_⟩⟩
      rw [hc.n, hc.a, nI_leI (by omega) (by omega)]
      refine ⟨fun z => stop (fun w => by omega), fun z => ⟨hc.ty, tx, hc.r3, hc.ty, 600, 18, hc.tt, vp_in_nI (by omega) (by decide), ?_⟩⟩
      have hpn : p < t.n := by omega
      obtain ⟨y, y1, y2⟩ := hc.c p hpn
      obtain ⟨b1, b2, b3, b4, b5, b6⟩ := byt_all y
      rw [cl_nI (by omega), y1]
      have dig : (48 ≤ t.c p ∧ t.c p ≤ 57) → z_ty σ' R = some (.inl 3) ∧ ∃ r40, z_R σ' 303 R = some r40 ∧ (z_ty σ' R = some (.inl 3) ∧ (∃ n47 s47, z_ty σ' r40 = some (.inr (1, n47, s47)) ∧ vp_in (z_I σ' 305 R) n47 ∧ (z_ty σ' R = some (.inl 3) ∧ (z_ty σ' R = some (.inl 3) ∧ ∀ σ60, σ60 = z_sI σ' 305 R ((z_I σ' 305 R) + ((1 : Int32))) → X4 (((nI v * ((10 : Int32))) + (z_A σ' s47 r40 (z_I σ' 305 R).toNatClampNeg)) - ((48 : Int32))) (nI j + (1 : Int32)) σ60)))) := fun hd => by
        refine ⟨hc.ty, tx, hc.r3, hc.ty, 600, 18, hc.tt, ?_⟩
        rw [hc.a, cl_nI (by omega), y1, b6 (by rw [y2]; exact hd), y2]
        refine ⟨vp_in_nI (by omega) (by decide), hc.ty, hc.ty, fun σ1 e1 => ?_⟩
        rw [nI_1] at e1
        rw [nI_1, Int32.mul_comm, show (10 : Int32) = nI 10 from rfl, pk_mul, nI_k, show (48 : Int32) = nI 48 from rfl, nI_sub (by omega), show 10 * v + t.c p - 48 = 10 * v + (t.c p - 48) by omega]
        have e5' : e5 R σ' σ1 := by rw [e1]; exact e5_s R σ' _
        refine ih (j + 1) (10 * v + (t.c p - 48)) (p + 1) σ1 (by omega) (by rw [Nat.pow_succ]; omega) (by omega) ?_ (cR_5 hc e5' (by rw [e1, z_I_sI, if_pos ⟨rfl, rfl⟩])) (e5_tr he e5')
        rw [hnum]
        show (if p < t.n ∧ 48 ≤ t.c p ∧ t.c p ≤ 57 then num t k (10 * v + (t.c p - 48)) (p + 1) else (v, p)) = _
        rw [if_pos ⟨hpn, hd⟩]
      have hdig := dig
      rw [hc.a] at hdig
      rw [y2] at b5
      refine ⟨fun z1 => ⟨fun _ => stop (fun w => (b5.mpr w.2).1 z1), fun w => absurd rfl w⟩, fun z1 => ⟨fun z2 => ⟨fun _ => stop (fun w => (b5.mpr w.2).2 z2), fun w => absurd rfl w⟩, fun z2 => ⟨fun w => absurd w (by decide), fun _ => dig (b5.mp ⟨z1, z2⟩)⟩⟩⟩
  exact main 3 0 0 q σ rfl (by decide) hq rfl h (e5_rf R σ)
