/-! THE PROGRAM READS -/
def cR (t : tx_T) (R tx p : Nat) (σ : z_S) : Prop := (z_ty σ R = some (.inl 3)) ∧ (z_R σ 303 R = some tx) ∧ (z_ty σ tx = some (.inr (1, 600, 18))) ∧ (z_I σ 304 R = nI t.n) ∧ (z_I σ 305 R = nI p) ∧ (∀ i, i < t.n → ∃ y : Int8, z_A σ 18 tx i = y.toInt32 ∧ byt y.toInt32 = t.c i)
theorem cR.ty {t : tx_T} {R tx p : Nat} {σ : z_S} (h' : cR t R tx p σ) : z_ty σ R = some (.inl 3) := h'.1
theorem cR.r3 {t : tx_T} {R tx p : Nat} {σ : z_S} (h' : cR t R tx p σ) : z_R σ 303 R = some tx := h'.2.1
theorem cR.tt {t : tx_T} {R tx p : Nat} {σ : z_S} (h' : cR t R tx p σ) : z_ty σ tx = some (.inr (1, 600, 18)) := h'.2.2.1
theorem cR.n {t : tx_T} {R tx p : Nat} {σ : z_S} (h' : cR t R tx p σ) : z_I σ 304 R = nI t.n := h'.2.2.2.1
theorem cR.a {t : tx_T} {R tx p : Nat} {σ : z_S} (h' : cR t R tx p σ) : z_I σ 305 R = nI p := h'.2.2.2.2.1
theorem cR.c {t : tx_T} {R tx p : Nat} {σ : z_S} (h' : cR t R tx p σ) : ∀ i, i < t.n → ∃ y : Int8, z_A σ 18 tx i = y.toInt32 ∧ byt y.toInt32 = t.c i := h'.2.2.2.2.2
/-- only the place is written -/
def e5 (R : Nat) (σ σ' : z_S) : Prop := (∀ a, z_ty σ' a = z_ty σ a) ∧ (∀ f a, z_R σ' f a = z_R σ f a) ∧ (∀ t a, z_Q σ' t a = z_Q σ t a) ∧ (∀ t a, z_A σ' t a = z_A σ t a) ∧ (∀ f a, ¬ (f = 305 ∧ a = R) → z_I σ' f a = z_I σ f a)
theorem e5.ty {R : Nat} {σ σ' : z_S} (h' : e5 R σ σ') : ∀ a, z_ty σ' a = z_ty σ a := h'.1
theorem e5.R {R : Nat} {σ σ' : z_S} (h' : e5 R σ σ') : ∀ f a, z_R σ' f a = z_R σ f a := h'.2.1
theorem e5.Q {R : Nat} {σ σ' : z_S} (h' : e5 R σ σ') : ∀ t a, z_Q σ' t a = z_Q σ t a := h'.2.2.1
theorem e5.A {R : Nat} {σ σ' : z_S} (h' : e5 R σ σ') : ∀ t a, z_A σ' t a = z_A σ t a := h'.2.2.2.1
theorem e5.I {R : Nat} {σ σ' : z_S} (h' : e5 R σ σ') : ∀ f a, ¬ (f = 305 ∧ a = R) → z_I σ' f a = z_I σ f a := h'.2.2.2.2
theorem e5_rf (R : Nat) (σ : z_S) : e5 R σ σ := ⟨fun _ => rfl, fun _ _ => rfl, fun _ _ => rfl, fun _ _ => rfl, fun _ _ _ => rfl⟩
theorem e5_tr {R : Nat} {σ σ' σ'' : z_S} (h : e5 R σ σ') (g : e5 R σ' σ'') : e5 R σ σ'' := ⟨fun a => (g.ty a).trans (h.ty a), fun f a => (g.R f a).trans (h.R f a), fun t a => (g.Q t a).trans (h.Q t a), fun t a => (g.A t a).trans (h.A t a), fun f a q => (g.I f a q).trans (h.I f a q)⟩
theorem e5_s (R : Nat) (σ : z_S) (x : Int32) : e5 R σ (z_sI σ 305 R x) := ⟨fun _ => rfl, fun _ _ => rfl, fun _ _ => rfl, fun _ _ => rfl, fun f a q => by rw [z_I_sI, if_neg q]⟩
theorem cR_5 {t : tx_T} {R tx p p' : Nat} {σ σ' : z_S} (h : cR t R tx p σ) (e : e5 R σ σ') (ha : z_I σ' 305 R = nI p') : cR t R tx p' σ' := ⟨by rw [e.ty]; exact h.ty, by rw [e.R]; exact h.r3, by rw [e.ty]; exact h.tt, by rw [e.I 304 R (by omega)]; exact h.n, ha, fun i hi => by rw [e.A]; exact h.c i hi⟩
theorem cl_sign {t : tx_T} (hok : tx_ok t) {R tx p : Nat} {σ : z_S} (h : cR t R tx p σ) (hp : p ≤ t.n) (P : Int32 → z_S → Prop) (hP : ∀ σ', cR t R tx (nxt t p) σ' → e5 R σ σ' → P (sI (sg t (nxt t p))) σ') : kp_Re_sign R σ P := by
  intro X0 X39 X52 h0 h39 h52
  have n6 := hok.n6
  have last : ∀ q σ', plc t q → nxt t p = q → cR t R tx q σ' → e5 R σ σ' → X52 σ' := fun q σ' hq en hc he => by
    have hqn := hq.1
    refine h52 _ ⟨hc.ty, hc.ty, ?_⟩
    have hP := hP σ' (by rw [en]; exact hc) he
    rw [en] at hP
    rw [hc.n, hc.a, nI_leI (by omega) (by omega)]
    refine ⟨fun z => ?_, fun z => ⟨hc.ty, tx, hc.r3, hc.ty, 600, 18, hc.tt, vp_in_nI (by omega) (by decide), ?_⟩⟩
    · have : sg t q = 999 := by unfold sg; rw [if_neg (by omega)]
      rw [this] at hP
      exact hP
    · obtain ⟨y, y1, y2⟩ := hc.c q (by omega)
      have hb := byt_all y
      rw [cl_nI (by omega), y1, hb.1, y2]
      have : sg t q = t.c q := by unfold sg; rw [if_pos (by omega)]
      rw [this] at hP
      unfold sI at hP
      have := hok.b q
      rw [if_neg (by omega)] at hP
      exact hP
  have main : ∀ k q σ', t.n - q ≤ k → q ≤ t.n → nxt t q = nxt t p → cR t R tx q σ' → e5 R σ σ' → X0 σ' := by
    intro k
    induction k with
    | zero =>
      intro q σ' hk hq en hc he
      have : q = t.n := by omega
      refine h0 _ ⟨hc.ty, hc.ty, ?_⟩
      rw [hc.n, hc.a, nI_leI (by omega) (by omega)]
      have hpl : plc t q := ⟨hq, fun z => by omega⟩
      exact ⟨fun _ => last q σ' hpl (by rw [← en]; exact nxt_fix t hpl) hc he, fun z => absurd (by omega) z⟩
    | succ k ih =>
      intro q σ' hk hq en hc he
      refine h0 _ ⟨hc.ty, hc.ty, ?_⟩
      rw [hc.n, hc.a, nI_leI (by omega) (by omega)]
      refine ⟨fun z => ?_, fun z => ?_⟩
      · have hpl : plc t q := ⟨hq, fun y => by omega⟩
        exact last q σ' hpl (by rw [← en]; exact nxt_fix t hpl) hc he
      · have hqn : q < t.n := by omega
        obtain ⟨y, y1, y2⟩ := hc.c q hqn
        have hb := byt_all y
        rw [cl_nI (by omega)]
        have skip : blk t q → X39 σ' := fun hbl => h39 _ ⟨hc.ty, hc.ty, fun σ1 e1 => by
          rw [hc.a, nI_1] at e1
          have e5' : e5 R σ' σ1 := by rw [e1]; exact e5_s R σ' _
          exact ih (q + 1) σ1 (by omega) (by omega) (by rw [← nxt_st t hqn hbl]; exact en) (cR_5 hc e5' (by rw [e1, z_I_sI, if_pos ⟨rfl, rfl⟩])) (e5_tr he e5')⟩
        refine ⟨hc.ty, tx, hc.r3, hc.ty, 600, 18, hc.tt, vp_in_nI (by omega) (by decide), ?_⟩
        rw [y1]
        refine ⟨fun w => skip (Or.inl (by rw [← y2]; exact hb.2.2.1.mp w)), fun w => ⟨hc.ty, tx, hc.r3, hc.ty, 600, 18, hc.tt, vp_in_nI (by omega) (by decide), ?_⟩⟩
        rw [y1]
        refine ⟨fun v => ?_, fun v => skip (Or.inr (by rw [← y2]; exact hb.2.2.2.1.mp v))⟩
        have hpl : plc t q := ⟨hq, fun _ u => u.elim (fun u => w (hb.2.2.1.mpr (by rw [y2]; exact u))) (fun u => v (hb.2.2.2.1.mpr (by rw [y2]; exact u)))⟩
        exact last q σ' hpl (by rw [← en]; exact nxt_fix t hpl) hc he
  exact main (t.n - p) p σ (Nat.le_refl _) hp rfl h (e5_rf R σ)
