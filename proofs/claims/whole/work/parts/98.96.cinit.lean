/-- a new object with one new array after the other -/
theorem as_w0 {σ σ' : z_S} {q k n t f P : Nat} (h : asT σ σ' q k n t f P) {σ0 : z_S} (h0 : z_ty σ0 P = none) (w : wf (fun _ => False) σ0 σ) : wf (fun _ => False) σ0 σ' := wf_tr w h.w (fun a z hn => hn (by rw [z]; exact h0))
def nSi (σ0 σ : z_S) (a r k s n : Nat) : Prop := (z_ty σ0 a = none) ∧ (z_ty σ0 r = none) ∧ (z_ty σ0 k = none) ∧ (z_ty σ0 s = none) ∧ (si_T σ a r k s n) ∧ (∀ f, z_I σ f a = 0) ∧ (wf (fun _ => False) σ0 σ)
theorem nSi.f0 {σ0 σ : z_S} {a r k s n : Nat} (h' : nSi σ0 σ a r k s n) : z_ty σ0 a = none := h'.1
theorem nSi.f1 {σ0 σ : z_S} {a r k s n : Nat} (h' : nSi σ0 σ a r k s n) : z_ty σ0 r = none := h'.2.1
theorem nSi.f2 {σ0 σ : z_S} {a r k s n : Nat} (h' : nSi σ0 σ a r k s n) : z_ty σ0 k = none := h'.2.2.1
theorem nSi.f3 {σ0 σ : z_S} {a r k s n : Nat} (h' : nSi σ0 σ a r k s n) : z_ty σ0 s = none := h'.2.2.2.1
theorem nSi.t {σ0 σ : z_S} {a r k s n : Nat} (h' : nSi σ0 σ a r k s n) : si_T σ a r k s n := h'.2.2.2.2.1
theorem nSi.i {σ0 σ : z_S} {a r k s n : Nat} (h' : nSi σ0 σ a r k s n) : ∀ f, z_I σ f a = 0 := h'.2.2.2.2.2.1
theorem nSi.w {σ0 σ : z_S} {a r k s n : Nat} (h' : nSi σ0 σ a r k s n) : wf (fun _ => False) σ0 σ := h'.2.2.2.2.2.2
theorem cl_newsi {σ0 σ : z_S} {a n : Nat} {x : Int32} (ha : z_ty σ0 a = none) (e : σ = z_new σ0 a 6) (hx : (if (0 : Int32) < x then x else 0) = nI n) (hn : n ≤ 640) (Po : z_S → Prop) (h : ∀ r k s σ', nSi σ0 σ' a r k s n → Po σ') : kp_Si_init a x σ Po := by
  have w0 : wf (fun _ => False) σ0 σ := by rw [e]; exact wf_new ha
  have tP : z_ty σ a = some (.inl 6) := by rw [e, z_ty_new, if_pos rfl]
  have iP : ∀ f, z_I σ f a = 0 := fun f => by rw [e, z_I_new, if_pos rfl]
  unfold kp_Si_init
  rw [hx, cl_nI (by omega)]
  refine ⟨nI_pos (by omega), hn, fun q1 h1 σ1 e1 => ?_⟩
  have t1 : z_ty σ1 a = some (.inl 6) := by rw [e1, z_ty_arr, if_neg (fun z => by rw [← z, tP] at h1; cases h1)]; exact tP
  refine ⟨t1, fun σ1' e1' => ⟨nI_pos (by omega), hn, fun q2 h2 σ2 e2 => ?_⟩⟩
  have a1 := as_mk h1 e1 e1'
  have t1' := as_ty a1 tP
  have t2 : z_ty σ2 a = some (.inl 6) := by rw [e2, z_ty_arr, if_neg (fun z => by rw [← z, t1'] at h2; cases h2)]; exact t1'
  refine ⟨t2, fun σ2' e2' => ⟨nI_pos (by omega), hn, fun q3 h3 σ3 e3 => ?_⟩⟩
  have a2 := as_mk h2 e2 e2'
  have t2' := as_ty a2 t1'
  have t3 : z_ty σ3 a = some (.inl 6) := by rw [e3, z_ty_arr, if_neg (fun z => by rw [← z, t2'] at h3; cases h3)]; exact t2'
  refine ⟨t3, fun σ3' e3' => ?_⟩
  have a3 := as_mk h3 e3 e3'
  have W1 := as_w0 a1 ha w0
  have W2 := as_w0 a2 ha W1
  have W3 := as_w0 a3 ha W2
  refine h q1 q2 q3 σ3' ⟨ha, wf_fresh w0 h1, wf_fresh W1 h2, wf_fresh W2 h3, ⟨as_ty a3 t2', ?_, ?_, a3.rf, as_ty a3 (as_ty a2 a1.tq), as_ty a3 a2.tq, a3.tq⟩, fun f => by rw [a3.I, a2.I, a1.I]; exact iP f, W3⟩
  · rw [a3.R _ _ (fun z => absurd z.1 (by decide)), a2.R _ _ (fun z => absurd z.1 (by decide))]
    exact a1.rf
  · rw [a3.R _ _ (fun z => absurd z.1 (by decide))]
    exact a2.rf
def nRo (σ0 σ : z_S) (a k c : Nat) : Prop := (z_ty σ0 a = none) ∧ (z_ty σ0 k = none) ∧ (z_ty σ0 c = none) ∧ (ro_T σ a k c) ∧ (∀ f, z_I σ f a = 0) ∧ (wf (fun _ => False) σ0 σ)
theorem nRo.f0 {σ0 σ : z_S} {a k c : Nat} (h' : nRo σ0 σ a k c) : z_ty σ0 a = none := h'.1
theorem nRo.f1 {σ0 σ : z_S} {a k c : Nat} (h' : nRo σ0 σ a k c) : z_ty σ0 k = none := h'.2.1
theorem nRo.f2 {σ0 σ : z_S} {a k c : Nat} (h' : nRo σ0 σ a k c) : z_ty σ0 c = none := h'.2.2.1
theorem nRo.t {σ0 σ : z_S} {a k c : Nat} (h' : nRo σ0 σ a k c) : ro_T σ a k c := h'.2.2.2.1
theorem nRo.i {σ0 σ : z_S} {a k c : Nat} (h' : nRo σ0 σ a k c) : ∀ f, z_I σ f a = 0 := h'.2.2.2.2.1
theorem nRo.w {σ0 σ : z_S} {a k c : Nat} (h' : nRo σ0 σ a k c) : wf (fun _ => False) σ0 σ := h'.2.2.2.2.2
theorem cl_newro {σ0 σ : z_S} {a : Nat} (ha : z_ty σ0 a = none) (e : σ = z_new σ0 a 4) (Po : z_S → Prop) (h : ∀ k c σ', nRo σ0 σ' a k c → Po σ') : kp_Ro_init a σ Po := by
  have w0 : wf (fun _ => False) σ0 σ := by rw [e]; exact wf_new ha
  have tP : z_ty σ a = some (.inl 4) := by rw [e, z_ty_new, if_pos rfl]
  have iP : ∀ f, z_I σ f a = 0 := fun f => by rw [e, z_I_new, if_pos rfl]
  intro q1 h1 σ1 e1
  have t1 : z_ty σ1 a = some (.inl 4) := by rw [e1, z_ty_arr, if_neg (fun z => by rw [← z, tP] at h1; cases h1)]; exact tP
  refine ⟨t1, fun σ1' e1' q2 h2 σ2 e2 => ?_⟩
  have a1 := as_mk h1 e1 e1'
  have t1' := as_ty a1 tP
  have t2 : z_ty σ2 a = some (.inl 4) := by rw [e2, z_ty_arr, if_neg (fun z => by rw [← z, t1'] at h2; cases h2)]; exact t1'
  refine ⟨t2, fun σ2' e2' => ?_⟩
  have a2 := as_mk h2 e2 e2'
  have W1 := as_w0 a1 ha w0
  have W2 := as_w0 a2 ha W1
  refine h q1 q2 σ2' ⟨ha, wf_fresh w0 h1, wf_fresh W1 h2, ⟨as_ty a2 t1', ?_, a2.rf, as_ty a2 a1.tq, a2.tq⟩, fun f => by rw [a2.I, a1.I]; exact iP f, W2⟩
  rw [a2.R _ _ (fun z => absurd z.1 (by decide))]
  exact a1.rf
def nEn (σ0 σ : z_S) (a l v q k : Nat) : Prop := (z_ty σ0 a = none) ∧ (z_ty σ a = some (.inl 1)) ∧ (z_R σ 100 a = some l) ∧ (z_ty σ l = some (.inr (0, 6, 2))) ∧ (z_R σ 101 a = some v) ∧ (z_ty σ v = some (.inr (0, 26, 3))) ∧ (z_R σ 102 a = some q) ∧ (z_ty σ q = some (.inr (0, 320, 4))) ∧ (z_R σ 103 a = some k) ∧ (z_ty σ k = some (.inr (0, 320, 5))) ∧ (wf (fun _ => False) σ0 σ)
theorem nEn.f0 {σ0 σ : z_S} {a l v q k : Nat} (h' : nEn σ0 σ a l v q k) : z_ty σ0 a = none := h'.1
theorem nEn.ty {σ0 σ : z_S} {a l v q k : Nat} (h' : nEn σ0 σ a l v q k) : z_ty σ a = some (.inl 1) := h'.2.1
theorem nEn.rl {σ0 σ : z_S} {a l v q k : Nat} (h' : nEn σ0 σ a l v q k) : z_R σ 100 a = some l := h'.2.2.1
theorem nEn.tl {σ0 σ : z_S} {a l v q k : Nat} (h' : nEn σ0 σ a l v q k) : z_ty σ l = some (.inr (0, 6, 2)) := h'.2.2.2.1
theorem nEn.rv {σ0 σ : z_S} {a l v q k : Nat} (h' : nEn σ0 σ a l v q k) : z_R σ 101 a = some v := h'.2.2.2.2.1
theorem nEn.tv {σ0 σ : z_S} {a l v q k : Nat} (h' : nEn σ0 σ a l v q k) : z_ty σ v = some (.inr (0, 26, 3)) := h'.2.2.2.2.2.1
theorem nEn.rq {σ0 σ : z_S} {a l v q k : Nat} (h' : nEn σ0 σ a l v q k) : z_R σ 102 a = some q := h'.2.2.2.2.2.2.1
theorem nEn.tq {σ0 σ : z_S} {a l v q k : Nat} (h' : nEn σ0 σ a l v q k) : z_ty σ q = some (.inr (0, 320, 4)) := h'.2.2.2.2.2.2.2.1
theorem nEn.rk {σ0 σ : z_S} {a l v q k : Nat} (h' : nEn σ0 σ a l v q k) : z_R σ 103 a = some k := h'.2.2.2.2.2.2.2.2.1
theorem nEn.tk {σ0 σ : z_S} {a l v q k : Nat} (h' : nEn σ0 σ a l v q k) : z_ty σ k = some (.inr (0, 320, 5)) := h'.2.2.2.2.2.2.2.2.2.1
theorem nEn.w {σ0 σ : z_S} {a l v q k : Nat} (h' : nEn σ0 σ a l v q k) : wf (fun _ => False) σ0 σ := h'.2.2.2.2.2.2.2.2.2.2
theorem cl_newen {σ0 σ : z_S} {a : Nat} (ha : z_ty σ0 a = none) (e : σ = z_new σ0 a 1) (Po : z_S → Prop) (h : ∀ l v q k σ', nEn σ0 σ' a l v q k → Po σ') : kp_En_init a σ Po := by
  have w0 : wf (fun _ => False) σ0 σ := by rw [e]; exact wf_new ha
  have tP : z_ty σ a = some (.inl 1) := by rw [e, z_ty_new, if_pos rfl]
  intro q1 h1 σ1 e1
  have t1 : z_ty σ1 a = some (.inl 1) := by rw [e1, z_ty_arr, if_neg (fun z => by rw [← z, tP] at h1; cases h1)]; exact tP
  refine ⟨t1, fun σ1' e1' q2 h2 σ2 e2 => ?_⟩
  have a1 := as_mk h1 e1 e1'
  have t1' := as_ty a1 tP
  have t2 : z_ty σ2 a = some (.inl 1) := by rw [e2, z_ty_arr, if_neg (fun z => by rw [← z, t1'] at h2; cases h2)]; exact t1'
  refine ⟨t2, fun σ2' e2' q3 h3 σ3 e3 => ?_⟩
  have a2 := as_mk h2 e2 e2'
  have t2' := as_ty a2 t1'
  have t3 : z_ty σ3 a = some (.inl 1) := by rw [e3, z_ty_arr, if_neg (fun z => by rw [← z, t2'] at h3; cases h3)]; exact t2'
  refine ⟨t3, fun σ3' e3' q4 h4 σ4 e4 => ?_⟩
  have a3 := as_mk h3 e3 e3'
  have t3' := as_ty a3 t2'
  have t4 : z_ty σ4 a = some (.inl 1) := by rw [e4, z_ty_arr, if_neg (fun z => by rw [← z, t3'] at h4; cases h4)]; exact t3'
  refine ⟨t4, fun σ4' e4' => ?_⟩
  have a4 := as_mk h4 e4 e4'
  have t4' := as_ty a4 t3'
  have W1 := as_w0 a1 ha w0
  have W2 := as_w0 a2 ha W1
  have W3 := as_w0 a3 ha W2
  have W4 := as_w0 a4 ha W3
  intro q5 h5 σ5 e5
  refine cl_newprog h5 e5 _ (fun pa na ta la ra σ6 hN => ?_)
  have t6 : z_ty σ6 a = some (.inl 1) := by rw [hN.w.ty _ (nn_s t4')]; exact t4'
  refine ⟨t6, fun σ7 e7 q8 h8 σ8 e8 => ?_⟩
  have w7 : wf (fun b => b = a) σ6 σ7 := by rw [e7]; exact wf_sR rfl
  refine cl_newrule h8 e8 _ (fun hb tb bb σ9 hQ => ?_)
  have t7 : z_ty σ7 a = some (.inl 1) := by rw [w7.ty _ (nn_s t6)]; exact t6
  have t9 : z_ty σ9 a = some (.inl 1) := by rw [hQ.w.ty _ (nn_s t7)]; exact t7
  refine ⟨t9, fun σ10 e10 q11 h11 σ11 e11 => ?_⟩
  have w10 : wf (fun b => b = a) σ9 σ10 := by rw [e10]; exact wf_sR rfl
  have t10 : z_ty σ10 a = some (.inl 1) := by rw [w10.ty _ (nn_s t9)]; exact t9
  refine ⟨by rw [e11, z_ty_arr, if_neg (fun z => by rw [← z, t10] at h11; cases h11)]; exact t10, fun σ12 e12 => ?_⟩
  have a12 := as_mk h11 e11 e12
  have W : wf (fun b => b = a) σ4' σ12 := wf_tr (wf_tr (wf_tr (wf_tr (wf_mo hN.w (fun _ _ z => z.elim)) w7 (fun _ z _ => z)) hQ.w (fun _ z _ => z.elim)) w10 (fun _ z _ => z)) a12.w (fun _ z _ => z)
  have R12 : ∀ f, f < 109 → z_R σ12 f a = z_R σ4' f a := fun f hf => by
    rw [a12.R _ _ (fun z => by omega), e10, z_R_sR, if_neg (fun z => by omega), hQ.w.R _ _ (nn_s t7) (fun z => z), e7, z_R_sR, if_neg (fun z => by omega), hN.w.R _ _ (nn_s t4') (fun z => z)]
  have T12 : ∀ {b y}, z_ty σ4' b = some y → z_ty σ12 b = some y := fun hb => by rw [W.ty _ (nn_s hb)]; exact hb
  refine h q1 q2 q3 q4 σ12 ⟨ha, T12 t4', ?_, T12 (as_ty a4 (as_ty a3 (as_ty a2 a1.tq))), ?_, T12 (as_ty a4 (as_ty a3 a2.tq)), ?_, T12 (as_ty a4 a3.tq), ?_, T12 a4.tq, wf_tr W4 W (fun b z hn => hn (by rw [z]; exact ha))⟩
  · rw [R12 _ (by omega), a4.R _ _ (fun z => absurd z.1 (by decide)), a3.R _ _ (fun z => absurd z.1 (by decide)), a2.R _ _ (fun z => absurd z.1 (by decide))]
    exact a1.rf
  · rw [R12 _ (by omega), a4.R _ _ (fun z => absurd z.1 (by decide)), a3.R _ _ (fun z => absurd z.1 (by decide))]
    exact a2.rf
  · rw [R12 _ (by omega), a4.R _ _ (fun z => absurd z.1 (by decide))]
    exact a3.rf
  · rw [R12 _ (by omega)]
    exact a4.rf
/-- rows that were made -/
def rS (σ : z_S) (n : Nat) (A B C : Nat → Nat) : Prop := (∀ r, r < n → ro_T σ (A r) (B r) (C r) ∧ z_I σ 402 (A r) = 0) ∧ (∀ r r', r < n → r' < n → A r = A r' → r = r') ∧ (∀ r r', r < n → r' < n → B r = B r' → r = r') ∧ (∀ r r', r < n → r' < n → C r = C r' → r = r')
theorem rS.t {σ : z_S} {n : Nat} {A B C : Nat → Nat} (h' : rS σ n A B C) : ∀ r, r < n → ro_T σ (A r) (B r) (C r) ∧ z_I σ 402 (A r) = 0 := h'.1
theorem rS.ia {σ : z_S} {n : Nat} {A B C : Nat → Nat} (h' : rS σ n A B C) : ∀ r r', r < n → r' < n → A r = A r' → r = r' := h'.2.1
theorem rS.ib {σ : z_S} {n : Nat} {A B C : Nat → Nat} (h' : rS σ n A B C) : ∀ r r', r < n → r' < n → B r = B r' → r = r' := h'.2.2.1
theorem rS.ic {σ : z_S} {n : Nat} {A B C : Nat → Nat} (h' : rS σ n A B C) : ∀ r r', r < n → r' < n → C r = C r' → r = r' := h'.2.2.2
theorem rS_w {S : Nat → Prop} {σ σ' : z_S} {n : Nat} {A B C : Nat → Nat} (h : rS σ n A B C) (f : wf S σ σ') (hS : ∀ a, S a → z_ty σ a ≠ some (.inl 4)) : rS σ' n A B C := ⟨fun r hr => by
  obtain ⟨⟨a1, a2, a3, a4, a5⟩, a6⟩ := h.t r hr
  have n1 : ¬ S (A r) := fun z => hS _ z a1
  exact ⟨⟨by rw [f.ty _ (nn_s a1)]; exact a1, by rw [f.R _ _ (nn_s a1) n1]; exact a2, by rw [f.R _ _ (nn_s a1) n1]; exact a3, by rw [f.ty _ (nn_s a4)]; exact a4, by rw [f.ty _ (nn_s a5)]; exact a5⟩, by rw [f.I _ _ (nn_s a1) n1]; exact a6⟩, h.ia, h.ib, h.ic⟩
def ad (A : Nat → Nat) (n a : Nat) : Nat → Nat := fun r => if r = n then a else A r
theorem ad_n (A : Nat → Nat) (n a : Nat) : ad A n a n = a := if_pos rfl
theorem ad_o {A : Nat → Nat} {n a r : Nat} (h : r ≠ n) : ad A n a r = A r := if_neg h
theorem ad_inj {σ : z_S} {A : Nat → Nat} {n a : Nat} (h : ∀ r r', r < n → r' < n → A r = A r' → r = r') (hs : ∀ r, r < n → z_ty σ (A r) ≠ none) (ha : z_ty σ a = none) : ∀ r r', r < n + 1 → r' < n + 1 → ad A n a r = ad A n a r' → r = r' := fun r r' h1 h2 e => by
  by_cases z : r = n
  · by_cases y : r' = n
    · omega
    · rw [z, ad_n, ad_o y] at e
      exact absurd ha (by rw [e]; exact hs r' (by omega))
  · by_cases y : r' = n
    · rw [y, ad_n, ad_o z] at e
      exact absurd ha (by rw [← e]; exact hs r (by omega))
    · rw [ad_o z, ad_o y] at e
      exact h r r' (by omega) (by omega) e
theorem rS_add {σ σ' : z_S} {n a k c : Nat} {A B C : Nat → Nat} (h : rS σ n A B C) (hN : nRo σ σ' a k c) : rS σ' (n + 1) (ad A n a) (ad B n k) (ad C n c) := by
  have h' := rS_w h hN.w (fun a z => z.elim)
  refine ⟨fun r hr => ?_, ad_inj h.ia (fun r hr => nn_s (h.t r hr).1.1) hN.f0, ad_inj h.ib (fun r hr => nn_s (h.t r hr).1.2.2.2.1) hN.f1, ad_inj h.ic (fun r hr => nn_s (h.t r hr).1.2.2.2.2) hN.f2⟩
  by_cases z : r = n
  · rw [z, ad_n, ad_n, ad_n]; exact ⟨hN.t, hN.i 402⟩
  · rw [ad_o z, ad_o z, ad_o z]; exact h'.t r (by omega)
def sS (σ : z_S) (n : Nat) (O R K S : Nat → Nat) (m : Nat → Nat) : Prop := (∀ r, r < n → si_T σ (O r) (R r) (K r) (S r) (m r) ∧ z_I σ 603 (O r) = 0) ∧ (∀ r r', r < n → r' < n → O r = O r' → r = r') ∧ (∀ r r', r < n → r' < n → R r = R r' → r = r') ∧ (∀ r r', r < n → r' < n → K r = K r' → r = r') ∧ (∀ r r', r < n → r' < n → S r = S r' → r = r')
theorem sS.t {σ : z_S} {n : Nat} {O R K S : Nat → Nat} {m : Nat → Nat} (h' : sS σ n O R K S m) : ∀ r, r < n → si_T σ (O r) (R r) (K r) (S r) (m r) ∧ z_I σ 603 (O r) = 0 := h'.1
theorem sS.io {σ : z_S} {n : Nat} {O R K S : Nat → Nat} {m : Nat → Nat} (h' : sS σ n O R K S m) : ∀ r r', r < n → r' < n → O r = O r' → r = r' := h'.2.1
theorem sS.ir {σ : z_S} {n : Nat} {O R K S : Nat → Nat} {m : Nat → Nat} (h' : sS σ n O R K S m) : ∀ r r', r < n → r' < n → R r = R r' → r = r' := h'.2.2.1
theorem sS.ik {σ : z_S} {n : Nat} {O R K S : Nat → Nat} {m : Nat → Nat} (h' : sS σ n O R K S m) : ∀ r r', r < n → r' < n → K r = K r' → r = r' := h'.2.2.2.1
theorem sS.is {σ : z_S} {n : Nat} {O R K S : Nat → Nat} {m : Nat → Nat} (h' : sS σ n O R K S m) : ∀ r r', r < n → r' < n → S r = S r' → r = r' := h'.2.2.2.2
theorem sS_w {Z : Nat → Prop} {σ σ' : z_S} {n : Nat} {O R K S m : Nat → Nat} (h : sS σ n O R K S m) (f : wf Z σ σ') (hS : ∀ a, Z a → z_ty σ a ≠ some (.inl 6)) : sS σ' n O R K S m := ⟨fun r hr => by
  obtain ⟨⟨a1, a2, a3, a4, a5, a6, a7⟩, a8⟩ := h.t r hr
  have n1 : ¬ Z (O r) := fun z => hS _ z a1
  exact ⟨⟨by rw [f.ty _ (nn_s a1)]; exact a1, by rw [f.R _ _ (nn_s a1) n1]; exact a2, by rw [f.R _ _ (nn_s a1) n1]; exact a3, by rw [f.R _ _ (nn_s a1) n1]; exact a4, by rw [f.ty _ (nn_s a5)]; exact a5, by rw [f.ty _ (nn_s a6)]; exact a6, by rw [f.ty _ (nn_s a7)]; exact a7⟩, by rw [f.I _ _ (nn_s a1) n1]; exact a8⟩, h.io, h.ir, h.ik, h.is⟩
theorem sS_add {σ σ' : z_S} {n a r k s x : Nat} {O R K S m : Nat → Nat} (h : sS σ n O R K S m) (hN : nSi σ σ' a r k s x) : sS σ' (n + 1) (ad O n a) (ad R n r) (ad K n k) (ad S n s) (ad m n x) := by
  have h' := sS_w h hN.w (fun a z => z.elim)
  refine ⟨fun i hi => ?_, ad_inj h.io (fun i hi => nn_s (h.t i hi).1.1) hN.f0, ad_inj h.ir (fun i hi => nn_s (h.t i hi).1.2.2.2.2.1) hN.f1, ad_inj h.ik (fun i hi => nn_s (h.t i hi).1.2.2.2.2.2.1) hN.f2, ad_inj h.is (fun i hi => nn_s (h.t i hi).1.2.2.2.2.2.2) hN.f3⟩
  by_cases z : i = n
  · rw [z, ad_n, ad_n, ad_n, ad_n, ad_n]; exact ⟨hN.t, hN.i 603⟩
  · rw [ad_o z, ad_o z, ad_o z, ad_o z, ad_o z]; exact h'.t i (by omega)
