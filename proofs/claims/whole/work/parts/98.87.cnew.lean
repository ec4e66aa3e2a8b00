/-- a new array, kept in a field -/
def asT (σ σ' : z_S) (q k n t f P : Nat) : Prop := (z_ty σ q = none) ∧ (z_ty σ' q = some (.inr (k, n, t))) ∧ (∀ s, z_A σ' s q = fun _ => 0) ∧ (z_R σ' f P = some q) ∧ (∀ a, a ≠ q → z_ty σ' a = z_ty σ a) ∧ (∀ s a, a ≠ q → z_A σ' s a = z_A σ s a) ∧ (∀ g b, ¬ (g = f ∧ b = P) → z_R σ' g b = z_R σ g b) ∧ (∀ g b, z_I σ' g b = z_I σ g b) ∧ (wf (fun a => a = P) σ σ')
theorem asT.fr {σ σ' : z_S} {q k n t f P : Nat} (h' : asT σ σ' q k n t f P) : z_ty σ q = none := h'.1
theorem asT.tq {σ σ' : z_S} {q k n t f P : Nat} (h' : asT σ σ' q k n t f P) : z_ty σ' q = some (.inr (k, n, t)) := h'.2.1
theorem asT.A0 {σ σ' : z_S} {q k n t f P : Nat} (h' : asT σ σ' q k n t f P) : ∀ s, z_A σ' s q = fun _ => 0 := h'.2.2.1
theorem asT.rf {σ σ' : z_S} {q k n t f P : Nat} (h' : asT σ σ' q k n t f P) : z_R σ' f P = some q := h'.2.2.2.1
theorem asT.ty {σ σ' : z_S} {q k n t f P : Nat} (h' : asT σ σ' q k n t f P) : ∀ a, a ≠ q → z_ty σ' a = z_ty σ a := h'.2.2.2.2.1
theorem asT.A {σ σ' : z_S} {q k n t f P : Nat} (h' : asT σ σ' q k n t f P) : ∀ s a, a ≠ q → z_A σ' s a = z_A σ s a := h'.2.2.2.2.2.1
theorem asT.R {σ σ' : z_S} {q k n t f P : Nat} (h' : asT σ σ' q k n t f P) : ∀ g b, ¬ (g = f ∧ b = P) → z_R σ' g b = z_R σ g b := h'.2.2.2.2.2.2.1
theorem asT.I {σ σ' : z_S} {q k n t f P : Nat} (h' : asT σ σ' q k n t f P) : ∀ g b, z_I σ' g b = z_I σ g b := h'.2.2.2.2.2.2.2.1
theorem asT.w {σ σ' : z_S} {q k n t f P : Nat} (h' : asT σ σ' q k n t f P) : wf (fun a => a = P) σ σ' := h'.2.2.2.2.2.2.2.2
theorem as_mk {σ σ1 σ2 : z_S} {q k n t f P : Nat} (hq : z_ty σ q = none) (e1 : σ1 = z_arr σ q k n t) (e2 : σ2 = z_sR σ1 f P (some q)) : asT σ σ2 q k n t f P := by
  refine ⟨hq, by rw [e2, z_ty_sR, e1, z_ty_arr, if_pos rfl], fun s => by rw [e2, z_A_sR, e1, z_A_arr, if_pos rfl], by rw [e2, z_R_sR, if_pos ⟨rfl, rfl⟩], fun a ha => by rw [e2, z_ty_sR, e1, z_ty_arr, if_neg ha], fun s a ha => by rw [e2, z_A_sR, e1, z_A_arr, if_neg ha], fun g b hb => by rw [e2, z_R_sR, if_neg hb, e1, z_R_arr], fun g b => by rw [e2, z_I_sR, e1, z_I_arr], ?_⟩
  have w1 : wf (fun a => a = P) σ σ1 := by rw [e1]; exact wf_arr hq
  have w2 : wf (fun a => a = P) σ1 σ2 := by rw [e2]; exact wf_sR rfl
  exact wf_tr w1 w2 (fun a z _ => z)
theorem as_ne {σ σ' : z_S} {q k n t f P a : Nat} (h : asT σ σ' q k n t f P) (ha : z_ty σ a ≠ none) : a ≠ q := fun z => ha (by rw [z]; exact h.fr)
theorem as_ty {σ σ' : z_S} {q k n t f P a : Nat} {y : Nat ⊕ (Nat × Nat × Nat)} (h : asT σ σ' q k n t f P) (ha : z_ty σ a = some y) : z_ty σ' a = some y := by rw [h.ty a (as_ne h (nn_s ha))]; exact ha
/-- a new program -/
def nP (σ0 σ : z_S) (P pa na ta la ra : Nat) : Prop := (z_ty σ0 P = none) ∧ (z_ty σ0 pa = none) ∧ (z_ty σ0 na = none) ∧ (z_ty σ0 ta = none) ∧ (z_ty σ0 la = none) ∧ (z_ty σ0 ra = none) ∧ (z_ty σ P = some (.inl 2)) ∧ (∀ f, z_I σ f P = 0) ∧ (z_R σ 200 P = some pa) ∧ (z_ty σ pa = some (.inr (8, 16, 7))) ∧ (z_R σ 202 P = some na) ∧ (z_ty σ na = some (.inr (0, 8, 8))) ∧ (z_R σ 203 P = some ta) ∧ (z_ty σ ta = some (.inr (0, 8, 9))) ∧ (z_R σ 204 P = some la) ∧ (z_ty σ la = some (.inr (0, 8, 10))) ∧ (∀ v, z_A σ 10 la v = 0) ∧ (z_R σ 205 P = some ra) ∧ (z_ty σ ra = some (.inr (0, 8, 11))) ∧ (∀ v, z_A σ 11 ra v = 0) ∧ (wf (fun _ => False) σ0 σ)
theorem nP.f0 {σ0 σ : z_S} {P pa na ta la ra : Nat} (h' : nP σ0 σ P pa na ta la ra) : z_ty σ0 P = none := h'.1
theorem nP.f1 {σ0 σ : z_S} {P pa na ta la ra : Nat} (h' : nP σ0 σ P pa na ta la ra) : z_ty σ0 pa = none := h'.2.1
theorem nP.f2 {σ0 σ : z_S} {P pa na ta la ra : Nat} (h' : nP σ0 σ P pa na ta la ra) : z_ty σ0 na = none := h'.2.2.1
theorem nP.f3 {σ0 σ : z_S} {P pa na ta la ra : Nat} (h' : nP σ0 σ P pa na ta la ra) : z_ty σ0 ta = none := h'.2.2.2.1
theorem nP.f4 {σ0 σ : z_S} {P pa na ta la ra : Nat} (h' : nP σ0 σ P pa na ta la ra) : z_ty σ0 la = none := h'.2.2.2.2.1
theorem nP.f5 {σ0 σ : z_S} {P pa na ta la ra : Nat} (h' : nP σ0 σ P pa na ta la ra) : z_ty σ0 ra = none := h'.2.2.2.2.2.1
theorem nP.ty {σ0 σ : z_S} {P pa na ta la ra : Nat} (h' : nP σ0 σ P pa na ta la ra) : z_ty σ P = some (.inl 2) := h'.2.2.2.2.2.2.1
theorem nP.i {σ0 σ : z_S} {P pa na ta la ra : Nat} (h' : nP σ0 σ P pa na ta la ra) : ∀ f, z_I σ f P = 0 := h'.2.2.2.2.2.2.2.1
theorem nP.r0 {σ0 σ : z_S} {P pa na ta la ra : Nat} (h' : nP σ0 σ P pa na ta la ra) : z_R σ 200 P = some pa := h'.2.2.2.2.2.2.2.2.1
theorem nP.t0 {σ0 σ : z_S} {P pa na ta la ra : Nat} (h' : nP σ0 σ P pa na ta la ra) : z_ty σ pa = some (.inr (8, 16, 7)) := h'.2.2.2.2.2.2.2.2.2.1
theorem nP.r2 {σ0 σ : z_S} {P pa na ta la ra : Nat} (h' : nP σ0 σ P pa na ta la ra) : z_R σ 202 P = some na := h'.2.2.2.2.2.2.2.2.2.2.1
theorem nP.t2 {σ0 σ : z_S} {P pa na ta la ra : Nat} (h' : nP σ0 σ P pa na ta la ra) : z_ty σ na = some (.inr (0, 8, 8)) := h'.2.2.2.2.2.2.2.2.2.2.2.1
theorem nP.r3 {σ0 σ : z_S} {P pa na ta la ra : Nat} (h' : nP σ0 σ P pa na ta la ra) : z_R σ 203 P = some ta := h'.2.2.2.2.2.2.2.2.2.2.2.2.1
theorem nP.t3 {σ0 σ : z_S} {P pa na ta la ra : Nat} (h' : nP σ0 σ P pa na ta la ra) : z_ty σ ta = some (.inr (0, 8, 9)) := h'.2.2.2.2.2.2.2.2.2.2.2.2.2.1
theorem nP.r4 {σ0 σ : z_S} {P pa na ta la ra : Nat} (h' : nP σ0 σ P pa na ta la ra) : z_R σ 204 P = some la := h'.2.2.2.2.2.2.2.2.2.2.2.2.2.2.1
theorem nP.t4 {σ0 σ : z_S} {P pa na ta la ra : Nat} (h' : nP σ0 σ P pa na ta la ra) : z_ty σ la = some (.inr (0, 8, 10)) := h'.2.2.2.2.2.2.2.2.2.2.2.2.2.2.2.1
theorem nP.v4 {σ0 σ : z_S} {P pa na ta la ra : Nat} (h' : nP σ0 σ P pa na ta la ra) : ∀ v, z_A σ 10 la v = 0 := h'.2.2.2.2.2.2.2.2.2.2.2.2.2.2.2.2.1
theorem nP.r5 {σ0 σ : z_S} {P pa na ta la ra : Nat} (h' : nP σ0 σ P pa na ta la ra) : z_R σ 205 P = some ra := h'.2.2.2.2.2.2.2.2.2.2.2.2.2.2.2.2.2.1
theorem nP.t5 {σ0 σ : z_S} {P pa na ta la ra : Nat} (h' : nP σ0 σ P pa na ta la ra) : z_ty σ ra = some (.inr (0, 8, 11)) := h'.2.2.2.2.2.2.2.2.2.2.2.2.2.2.2.2.2.2.1
theorem nP.v5 {σ0 σ : z_S} {P pa na ta la ra : Nat} (h' : nP σ0 σ P pa na ta la ra) : ∀ v, z_A σ 11 ra v = 0 := h'.2.2.2.2.2.2.2.2.2.2.2.2.2.2.2.2.2.2.2.1
theorem nP.w {σ0 σ : z_S} {P pa na ta la ra : Nat} (h' : nP σ0 σ P pa na ta la ra) : wf (fun _ => False) σ0 σ := h'.2.2.2.2.2.2.2.2.2.2.2.2.2.2.2.2.2.2.2.2
theorem wf_fresh {S : Nat → Prop} {σ σ' : z_S} (h : wf S σ σ') {a : Nat} (ha : z_ty σ' a = none) : z_ty σ a = none := Classical.byContradiction (fun hn => by rw [h.ty a hn] at ha; exact hn ha)
theorem cl_newprog {σ0 σ : z_S} {P : Nat} (hP : z_ty σ0 P = none) (e : σ = z_new σ0 P 2) (Po : z_S → Prop) (h : ∀ pa na ta la ra σ', nP σ0 σ' P pa na ta la ra → Po σ') : kp_Pr_init P σ Po := by
  have w0 : wf (fun a => a = P) σ0 σ := by rw [e]; exact wf_new hP
  have tP : z_ty σ P = some (.inl 2) := by rw [e, z_ty_new, if_pos rfl]
  have iP : ∀ f, z_I σ f P = 0 := fun f => by rw [e, z_I_new, if_pos rfl]
  intro pa h1 σ1 e1
  have tP1 : z_ty σ1 P = some (.inl 2) := by
    rw [e1, z_ty_arr, if_neg (fun z => by rw [← z, tP] at h1; cases h1)]; exact tP
  refine ⟨tP1, fun σ1' e1' => ?_⟩
  have a1 := as_mk h1 e1 e1'
  intro na h2 σ2 e2
  have tP1' := as_ty a1 tP
  have tP2 : z_ty σ2 P = some (.inl 2) := by
    rw [e2, z_ty_arr, if_neg (fun z => by rw [← z, tP1'] at h2; cases h2)]; exact tP1'
  refine ⟨tP2, fun σ2' e2' => ?_⟩
  have a2 := as_mk h2 e2 e2'
  intro ta h3 σ3 e3
  have tP2' := as_ty a2 tP1'
  have tP3 : z_ty σ3 P = some (.inl 2) := by
    rw [e3, z_ty_arr, if_neg (fun z => by rw [← z, tP2'] at h3; cases h3)]; exact tP2'
  refine ⟨tP3, fun σ3' e3' => ?_⟩
  have a3 := as_mk h3 e3 e3'
  intro la h4 σ4 e4
  have tP3' := as_ty a3 tP2'
  have tP4 : z_ty σ4 P = some (.inl 2) := by
    rw [e4, z_ty_arr, if_neg (fun z => by rw [← z, tP3'] at h4; cases h4)]; exact tP3'
  refine ⟨tP4, fun σ4' e4' => ?_⟩
  have a4 := as_mk h4 e4 e4'
  intro ra h5 σ5 e5
  have tP4' := as_ty a4 tP3'
  have tP5 : z_ty σ5 P = some (.inl 2) := by
    rw [e5, z_ty_arr, if_neg (fun z => by rw [← z, tP4'] at h5; cases h5)]; exact tP4'
  refine ⟨tP5, fun σ5' e5' => ?_⟩
  have a5 := as_mk h5 e5 e5'
  have W1 := wf_tr w0 a1.w (fun a z _ => z)
  have W2 := wf_tr W1 a2.w (fun a z _ => z)
  have W3 := wf_tr W2 a3.w (fun a z _ => z)
  have W4 := wf_tr W3 a4.w (fun a z _ => z)
  have W5 := wf_tr W4 a5.w (fun a z _ => z)
  have n45 := as_ne a5 (nn_s a4.tq)
  refine h pa na ta la ra σ5' ⟨hP, wf_fresh w0 h1, wf_fresh W1 h2, wf_fresh W2 h3, wf_fresh W3 h4, wf_fresh W4 h5, as_ty a5 tP4', fun f => by rw [a5.I, a4.I, a3.I, a2.I, a1.I]; exact iP f, ?_, as_ty a5 (as_ty a4 (as_ty a3 (as_ty a2 a1.tq))), ?_, as_ty a5 (as_ty a4 (as_ty a3 a2.tq)), ?_, as_ty a5 (as_ty a4 a3.tq), ?_, as_ty a5 a4.tq, fun v => ?_, a5.rf, a5.tq, fun v => by rw [a5.A0], wf_mo W5 (fun a hn z => hn (by rw [z]; exact hP))⟩
  · rw [a5.R _ _ (fun z => absurd z.1 (by decide)), a4.R _ _ (fun z => absurd z.1 (by decide)), a3.R _ _ (fun z => absurd z.1 (by decide)), a2.R _ _ (fun z => absurd z.1 (by decide))]
    exact a1.rf
  · rw [a5.R _ _ (fun z => absurd z.1 (by decide)), a4.R _ _ (fun z => absurd z.1 (by decide)), a3.R _ _ (fun z => absurd z.1 (by decide))]
    exact a2.rf
  · rw [a5.R _ _ (fun z => absurd z.1 (by decide)), a4.R _ _ (fun z => absurd z.1 (by decide))]
    exact a3.rf
  · rw [a5.R _ _ (fun z => absurd z.1 (by decide))]
    exact a4.rf
  · rw [a5.A _ _ n45, a4.A0]
/-- a new reader -/
def nRd (t : tx_T) (σ0 σ : z_S) (K : rd_T) (D : pa_T) (ra : Nat) : Prop := (rW t K 0 [] [] σ) ∧ (rP σ D ra [] (fun _ => []) []) ∧ (D.p = K.P) ∧ (z_ty σ0 K.R = none) ∧ (z_ty σ0 K.P = none) ∧ (z_ty σ0 K.na = none) ∧ (z_ty σ0 K.ta = none) ∧ (z_ty σ0 D.pa = none) ∧ (z_ty σ0 D.la = none) ∧ (z_ty σ0 ra = none) ∧ (wf (fun _ => False) σ0 σ)
theorem nRd.W {t : tx_T} {σ0 σ : z_S} {K : rd_T} {D : pa_T} {ra : Nat} (h' : nRd t σ0 σ K D ra) : rW t K 0 [] [] σ := h'.1
theorem nRd.p {t : tx_T} {σ0 σ : z_S} {K : rd_T} {D : pa_T} {ra : Nat} (h' : nRd t σ0 σ K D ra) : rP σ D ra [] (fun _ => []) [] := h'.2.1
theorem nRd.d {t : tx_T} {σ0 σ : z_S} {K : rd_T} {D : pa_T} {ra : Nat} (h' : nRd t σ0 σ K D ra) : D.p = K.P := h'.2.2.1
theorem nRd.f0 {t : tx_T} {σ0 σ : z_S} {K : rd_T} {D : pa_T} {ra : Nat} (h' : nRd t σ0 σ K D ra) : z_ty σ0 K.R = none := h'.2.2.2.1
theorem nRd.f1 {t : tx_T} {σ0 σ : z_S} {K : rd_T} {D : pa_T} {ra : Nat} (h' : nRd t σ0 σ K D ra) : z_ty σ0 K.P = none := h'.2.2.2.2.1
theorem nRd.f2 {t : tx_T} {σ0 σ : z_S} {K : rd_T} {D : pa_T} {ra : Nat} (h' : nRd t σ0 σ K D ra) : z_ty σ0 K.na = none := h'.2.2.2.2.2.1
theorem nRd.f3 {t : tx_T} {σ0 σ : z_S} {K : rd_T} {D : pa_T} {ra : Nat} (h' : nRd t σ0 σ K D ra) : z_ty σ0 K.ta = none := h'.2.2.2.2.2.2.1
theorem nRd.f4 {t : tx_T} {σ0 σ : z_S} {K : rd_T} {D : pa_T} {ra : Nat} (h' : nRd t σ0 σ K D ra) : z_ty σ0 D.pa = none := h'.2.2.2.2.2.2.2.1
theorem nRd.f5 {t : tx_T} {σ0 σ : z_S} {K : rd_T} {D : pa_T} {ra : Nat} (h' : nRd t σ0 σ K D ra) : z_ty σ0 D.la = none := h'.2.2.2.2.2.2.2.2.1
theorem nRd.f6 {t : tx_T} {σ0 σ : z_S} {K : rd_T} {D : pa_T} {ra : Nat} (h' : nRd t σ0 σ K D ra) : z_ty σ0 ra = none := h'.2.2.2.2.2.2.2.2.2.1
theorem nRd.w {t : tx_T} {σ0 σ : z_S} {K : rd_T} {D : pa_T} {ra : Nat} (h' : nRd t σ0 σ K D ra) : wf (fun _ => False) σ0 σ := h'.2.2.2.2.2.2.2.2.2.2
theorem cl_newreader {t : tx_T} {σ0 σ : z_S} {R tx : Nat} (hR : z_ty σ0 R = none) (e : σ = z_new σ0 R 3) (n6 : t.n ≤ 600) (ht : z_ty σ0 tx = some (.inr (1, 600, 18))) (hc : ∀ i, i < t.n → ∃ y : Int8, z_A σ0 18 tx i = y.toInt32 ∧ byt y.toInt32 = t.c i) (Po : z_S → Prop) (h : ∀ K D ra σ', K.R = R → nRd t σ0 σ' K D ra → Po σ') : kp_Re_init R tx (nI t.n) σ Po := by
  have w0 : wf (fun a => a = R) σ0 σ := by rw [e]; exact wf_new hR
  have tR : z_ty σ R = some (.inl 3) := by rw [e, z_ty_new, if_pos rfl]
  have iR : ∀ f, z_I σ f R = 0 := fun f => by rw [e, z_I_new, if_pos rfl]
  intro P hP σ1 e1
  refine cl_newprog hP e1 _ (fun pa na ta la ra σ2 hN => ?_)
  have tR2 : z_ty σ2 R = some (.inl 3) := by rw [hN.w.ty _ (nn_s tR)]; exact tR
  refine ⟨tR2, fun σ3 e3 => ⟨by rw [e3]; exact tR2, fun σ4 e4 Ru hRu σ5 e5 => ?_⟩⟩
  refine cl_newrule hRu e5 _ (fun hb tb bb σ6 hQ => ?_)
  have w34 : wf (fun a => a = R) σ2 σ4 := by
    have a1 : wf (fun a => a = R) σ2 σ3 := by rw [e3]; exact wf_sR rfl
    have a2 : wf (fun a => a = R) σ3 σ4 := by rw [e4]; exact wf_sI rfl
    exact wf_tr a1 a2 (fun a z _ => z)
  have tR4 : z_ty σ4 R = some (.inl 3) := by rw [w34.ty _ (nn_s tR2)]; exact tR2
  have tR6 : z_ty σ6 R = some (.inl 3) := by rw [hQ.w.ty _ (nn_s tR4)]; exact tR4
  have w26 : wf (fun a => a = R) σ2 σ6 := wf_tr w34 hQ.w (fun a z _ => z.elim)
  have ttx : z_ty σ6 tx = some (.inr (1, 600, 18)) := by
    have a0 : z_ty σ tx = some (.inr (1, 600, 18)) := by rw [w0.ty _ (nn_s ht)]; exact ht
    have a2 : z_ty σ2 tx = some (.inr (1, 600, 18)) := by rw [hN.w.ty _ (nn_s a0)]; exact a0
    rw [w26.ty _ (nn_s a2)]; exact a2
  refine ⟨tR6, fun σ7 e7 => ⟨by rw [e7]; exact tR6, fun σ8 e8 => ⟨600, 18, by rw [e8, e7]; exact ttx, by rw [e8, e7]; exact tR6, fun σ9 e9 => ?_⟩⟩⟩
  have hmin : (if nI 600 < nI t.n then nI 600 else nI t.n) = nI t.n := by
    rw [if_neg]
    exact nI_nlt n6 (by decide)
  rw [hmin] at e9
  have w69 : wf (fun a => a = R) σ6 σ9 := by
    have a1 : wf (fun a => a = R) σ6 σ7 := by rw [e7]; exact wf_sR rfl
    have a2 : wf (fun a => a = R) σ7 σ8 := by rw [e8]; exact wf_sR rfl
    have a3 : wf (fun a => a = R) σ8 σ9 := by rw [e9]; exact wf_sI rfl
    exact wf_tr (wf_tr a1 a2 (fun a z _ => z)) a3 (fun a z _ => z)
  have w29 : wf (fun a => a = R) σ2 σ9 := wf_tr w26 w69 (fun a z _ => z)
  have w09 : wf (fun a => a = R) σ0 σ9 := wf_tr (wf_tr w0 hN.w (fun a z _ => z.elim)) w29 (fun a z _ => z)
  have wall : wf (fun _ => False) σ0 σ9 := wf_mo w09 (fun a hn z => hn (by rw [z]; exact hR))
  have PR : P ≠ R := fun z => by rw [z, tR] at hP; cases hP
  have fr : ∀ {a}, z_ty σ a = none → z_ty σ0 a = none := fun ha => wf_fresh w0 ha
  have nR : ∀ {a y}, z_ty σ2 a = some y → y ≠ .inl 3 → a ≠ R := fun ha hy z => hy (Option.some.inj (by rw [← ha, z, tR2]))
  have I9 : ∀ f, z_I σ9 f R = if f = 304 then nI t.n else if f = 302 then -1 else 0 := fun f => by
    rw [e9, z_I_sI]
    by_cases z : f = 304
    · rw [if_pos ⟨z, rfl⟩, if_pos z]
    · rw [if_neg (fun y => z y.1), if_neg z, e8, z_I_sR, e7, z_I_sR, hQ.w.I _ _ (nn_s tR4) (fun y => y), e4, z_I_sI]
      by_cases y : f = 302
      · rw [if_pos ⟨y, rfl⟩, if_pos y]
      · rw [if_neg (fun w => y w.1), if_neg y, e3, z_I_sR, hN.w.I _ _ (nn_s tR) (fun y => y)]
        exact iR f
  have keep : ∀ {a y}, z_ty σ2 a = some y → y ≠ .inl 3 → z_ty σ9 a = some y := fun ha hy => by rw [w29.ty _ (nn_s ha)]; exact ha
  have kI : ∀ f, z_I σ9 f P = 0 := fun f => by rw [w29.I _ _ (nn_s hN.ty) PR]; exact hN.i f
  have kR : ∀ f, z_R σ9 f P = z_R σ2 f P := fun f => w29.R _ _ (nn_s hN.ty) PR
  refine h ⟨R, tx, P, na, ta⟩ ⟨P, pa, la, fun _ => 0, fun _ => 0, fun _ => 0, fun _ _ => 0⟩ ra σ9 rfl ⟨⟨⟨?_, ?_, ?_, by rw [I9, if_pos rfl], by rw [I9, if_neg (by decide), if_neg (by decide)]; rfl, fun i hi => ?_⟩, Nat.zero_le _, by rw [I9, if_neg (by decide), if_neg (by decide)], ?_, ⟨⟨keep hN.ty (by decide), by rw [kI]; rfl, by rw [kR]; exact hN.r2, keep hN.t2 (by decide), fun i hi => absurd hi (Nat.not_lt_zero i)⟩, by rw [kR]; exact hN.r3, keep hN.t3 (by decide), fun i hi => absurd hi (Nat.not_lt_zero i)⟩⟩, ⟨keep hN.ty (by decide), by rw [kR]; exact hN.r0, keep hN.t0 (by decide), by rw [kI]; rfl, by decide, fun i hi => absurd hi (Nat.not_lt_zero i), fun i hi => absurd hi (Nat.not_lt_zero i), fun v hv => ?_, fun v hv => ?_, by rw [kR]; exact hN.r4, keep hN.t4 (by decide), fun v => by rw [w29.A _ _ (nn_s hN.t4) (nR hN.t4 (by decide))]; exact hN.v4 v, by rw [kR]; exact hN.r5, keep hN.t5 (by decide), fun v => by rw [w29.A _ _ (nn_s hN.t5) (nR hN.t5 (by decide))]; exact hN.v5 v, kI 207, kI 208⟩, rfl, hR, fr hN.f0, fr hN.f2, fr hN.f3, fr hN.f1, fr hN.f4, fr hN.f5, wall⟩
  · show z_ty σ9 R = _
    rw [w69.ty _ (nn_s tR6)]; exact tR6
  · show z_R σ9 303 R = some tx
    rw [e9, z_R_sI, e8, z_R_sR, if_pos ⟨rfl, rfl⟩]
  · show z_ty σ9 tx = _
    rw [w69.ty _ (nn_s ttx)]; exact ttx
  · have ne : tx ≠ R := fun z => by rw [z, hR] at ht; cases ht
    rw [show z_A σ9 18 tx = z_A σ0 18 tx from w09.A _ _ (nn_s ht) ne]
    exact hc i hi
  · show z_R σ9 300 R = some P
    rw [e9, z_R_sI, e8, z_R_sR, if_neg (fun z => absurd z.1 (by decide)), e7, z_R_sR, if_neg (fun z => absurd z.1 (by decide)), hQ.w.R _ _ (nn_s tR4) (fun z => z), e4, z_R_sI, e3, z_R_sR, if_pos ⟨rfl, rfl⟩]
  · show bi (z_I σ9 209 P) v = true ↔ _
    rw [kI, bi_0]
    exact ⟨(fun z => by cases z), fun ⟨r, hr, _⟩ => absurd hr List.not_mem_nil⟩
  · show bi (z_I σ9 210 P) v = true ↔ _
    rw [kI, bi_0]
    exact ⟨(fun z => by cases z), fun ⟨r, hr, _⟩ => absurd hr List.not_mem_nil⟩
