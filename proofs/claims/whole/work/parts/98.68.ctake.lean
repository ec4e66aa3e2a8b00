/-- only the reader's numbers are written -/
def eR (R : Nat) (σ σ' : z_S) : Prop := (∀ a, z_ty σ' a = z_ty σ a) ∧ (∀ f a, z_R σ' f a = z_R σ f a) ∧ (∀ t a, z_Q σ' t a = z_Q σ t a) ∧ (∀ t a, z_A σ' t a = z_A σ t a) ∧ (∀ f a, ¬ ((f = 301 ∨ f = 302 ∨ f = 305) ∧ a = R) → z_I σ' f a = z_I σ f a)
theorem eR.ty {R : Nat} {σ σ' : z_S} (h' : eR R σ σ') : ∀ a, z_ty σ' a = z_ty σ a := h'.1
theorem eR.R {R : Nat} {σ σ' : z_S} (h' : eR R σ σ') : ∀ f a, z_R σ' f a = z_R σ f a := h'.2.1
theorem eR.Q {R : Nat} {σ σ' : z_S} (h' : eR R σ σ') : ∀ t a, z_Q σ' t a = z_Q σ t a := h'.2.2.1
theorem eR.A {R : Nat} {σ σ' : z_S} (h' : eR R σ σ') : ∀ t a, z_A σ' t a = z_A σ t a := h'.2.2.2.1
theorem eR.I {R : Nat} {σ σ' : z_S} (h' : eR R σ σ') : ∀ f a, ¬ ((f = 301 ∨ f = 302 ∨ f = 305) ∧ a = R) → z_I σ' f a = z_I σ f a := h'.2.2.2.2
theorem eR_5 {R : Nat} {σ σ' : z_S} (h : e5 R σ σ') : eR R σ σ' := ⟨h.ty, h.R, h.Q, h.A, fun f a q => h.I f a (fun z => q ⟨Or.inr (Or.inr z.1), z.2⟩)⟩
theorem eR_tr {R : Nat} {σ σ' σ'' : z_S} (h : eR R σ σ') (g : eR R σ' σ'') : eR R σ σ'' := ⟨fun a => (g.ty a).trans (h.ty a), fun f a => (g.R f a).trans (h.R f a), fun t a => (g.Q t a).trans (h.Q t a), fun t a => (g.A t a).trans (h.A t a), fun f a q => (g.I f a q).trans (h.I f a q)⟩
/-- a fault is kept -/
def cF (R : Nat) (e : ft_T) (σ : z_S) : Prop := z_ty σ R = some (.inl 3) ∧ z_I σ 301 R = nI e.1 ∧ z_I σ 302 R = nI e.2
theorem cl_fail {t : tx_T} {R tx q k : Nat} {σ : z_S} (h : cR t R tx q σ) (P : Int32 → z_S → Prop) (hP : ∀ σ', cF R (k, q) σ' → eR R σ σ' → P 0 σ') : kp_Re_fail R (nI k) σ P := by
  refine ⟨h.ty, fun σ1 e1 => ⟨by rw [e1]; exact h.ty, by rw [e1]; exact h.ty, fun σ2 e2 => hP σ2 ⟨?_, ?_, ?_⟩ ⟨fun _ => by rw [e2, e1]; rfl, fun _ _ => by rw [e2, e1]; rfl, fun _ _ => by rw [e2, e1]; rfl, fun _ _ => by rw [e2, e1]; rfl, fun f a z => ?_⟩⟩⟩
  · rw [e2, e1]; exact h.ty
  · rw [e2, z_I_sI, if_neg (fun z => absurd z.1 (by decide)), e1, z_I_sI, if_pos ⟨rfl, rfl⟩]
  · rw [e2, z_I_sI, if_pos ⟨rfl, rfl⟩, e1, z_I_sI, if_neg (fun z => absurd z.1 (by decide))]
    exact h.a
  · rw [e2, z_I_sI, if_neg (fun y => z ⟨Or.inr (Or.inl y.1), y.2⟩), e1, z_I_sI, if_neg (fun y => z ⟨Or.inl y.1, y.2⟩)]
theorem cl_takes {t : tx_T} (hok : tx_ok t) {R tx p q s : Nat} {σ : z_S} (h : cR t R tx p σ) (hp : p ≤ t.n) (hq : nxt t p = q) (hs : s < 256) (P : Int32 → z_S → Prop) (h1 : ∀ q' p' σ', tak t s q = .ok q' → p' ≤ t.n → nxt t p' = q' → cR t R tx p' σ' → e5 R σ σ' → P 1 σ') (h2 : ∀ e σ', tak t s q = .error e → cF R e σ' → eR R σ σ' → P 0 σ') : kp_Re_takes R (nI s) σ P := by
  refine ⟨h.ty, cl_sign hok h hp _ (fun σ1 hc e1 => ?_)⟩
  rw [hq] at hc ⊢
  rw [sI_eq (sg_ok hok q) hs]
  refine ⟨fun z => ⟨hc.ty, hc.ty, fun σ2 e2 => ?_⟩, fun z => ⟨hc.ty, cl_fail (k := 1) hc _ (fun σ2 hF eF => ⟨Or.inl rfl, h2 (1, q) σ2 (by unfold tak; rw [if_neg z]) hF (eR_tr (eR_5 e1) eF)⟩)⟩⟩
  have hqn := sg_lt z hs
  rw [hc.a, nI_1] at e2
  have e5' : e5 R σ1 σ2 := by rw [e2]; exact e5_s R σ1 _
  exact h1 (nxt t (q + 1)) (q + 1) σ2 (by unfold tak; rw [if_pos z]) (by omega) rfl (cR_5 hc e5' (by rw [e2, z_I_sI, if_pos ⟨rfl, rfl⟩])) (e5_tr e1 e5')
