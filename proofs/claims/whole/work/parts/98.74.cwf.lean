/-- what stood before stays, but S -/
def wf (S : Nat → Prop) (σ σ' : z_S) : Prop := (∀ a, z_ty σ a ≠ none → z_ty σ' a = z_ty σ a) ∧ (∀ f a, z_ty σ a ≠ none → ¬ S a → z_I σ' f a = z_I σ f a) ∧ (∀ f a, z_ty σ a ≠ none → ¬ S a → z_R σ' f a = z_R σ f a) ∧ (∀ t a, z_ty σ a ≠ none → ¬ S a → z_A σ' t a = z_A σ t a) ∧ (∀ t a, z_ty σ a ≠ none → ¬ S a → z_Q σ' t a = z_Q σ t a)
theorem wf.ty {S : Nat → Prop} {σ σ' : z_S} (h' : wf S σ σ') : ∀ a, z_ty σ a ≠ none → z_ty σ' a = z_ty σ a := h'.1
theorem wf.I {S : Nat → Prop} {σ σ' : z_S} (h' : wf S σ σ') : ∀ f a, z_ty σ a ≠ none → ¬ S a → z_I σ' f a = z_I σ f a := h'.2.1
theorem wf.R {S : Nat → Prop} {σ σ' : z_S} (h' : wf S σ σ') : ∀ f a, z_ty σ a ≠ none → ¬ S a → z_R σ' f a = z_R σ f a := h'.2.2.1
theorem wf.A {S : Nat → Prop} {σ σ' : z_S} (h' : wf S σ σ') : ∀ t a, z_ty σ a ≠ none → ¬ S a → z_A σ' t a = z_A σ t a := h'.2.2.2.1
theorem wf.Q {S : Nat → Prop} {σ σ' : z_S} (h' : wf S σ σ') : ∀ t a, z_ty σ a ≠ none → ¬ S a → z_Q σ' t a = z_Q σ t a := h'.2.2.2.2
theorem wf_rf (S : Nat → Prop) (σ : z_S) : wf S σ σ := ⟨fun _ _ => rfl, fun _ _ _ _ => rfl, fun _ _ _ _ => rfl, fun _ _ _ _ => rfl, fun _ _ _ _ => rfl⟩
theorem wf_tr {S S' : Nat → Prop} {σ σ' σ'' : z_S} (h : wf S σ σ') (g : wf S' σ' σ'') (hs : ∀ a, S' a → z_ty σ a ≠ none → S a) : wf S σ σ'' := by
  have e : ∀ a, z_ty σ a ≠ none → z_ty σ' a ≠ none := fun a ha => by rw [h.ty a ha]; exact ha
  exact ⟨fun a ha => (g.ty a (e a ha)).trans (h.ty a ha), fun f a ha hn => (g.I f a (e a ha) (fun z => hn (hs a z ha))).trans (h.I f a ha hn), fun f a ha hn => (g.R f a (e a ha) (fun z => hn (hs a z ha))).trans (h.R f a ha hn), fun f a ha hn => (g.A f a (e a ha) (fun z => hn (hs a z ha))).trans (h.A f a ha hn), fun f a ha hn => (g.Q f a (e a ha) (fun z => hn (hs a z ha))).trans (h.Q f a ha hn)⟩
theorem wf_mo {S S' : Nat → Prop} {σ σ' : z_S} (h : wf S σ σ') (hs : ∀ a, z_ty σ a ≠ none → S a → S' a) : wf S' σ σ' := ⟨h.ty, fun f a ha hn => h.I f a ha (fun z => hn (hs a ha z)), fun f a ha hn => h.R f a ha (fun z => hn (hs a ha z)), fun f a ha hn => h.A f a ha (fun z => hn (hs a ha z)), fun f a ha hn => h.Q f a ha (fun z => hn (hs a ha z))⟩
theorem wf_nf {fs ts : List (Nat × Nat)} {S : Nat → Prop} {σ σ' : z_S} (h : nf fs ts σ σ') (h1 : ∀ x ∈ fs, S x.2) (h2 : ∀ x ∈ ts, S x.2) : wf S σ σ' := ⟨fun a _ => h.ty a, fun f a _ hn => h.I f a (fun z => hn (h1 _ z)), fun f a _ _ => h.R f a, fun t a _ hn => h.A t a (fun z => hn (h2 _ z)), fun t a _ _ => h.Q t a⟩
theorem wf_new {S : Nat → Prop} {σ : z_S} {q ci : Nat} (hq : z_ty σ q = none) : wf S σ (z_new σ q ci) := by
  have e : ∀ a, z_ty σ a ≠ none → ¬ a = q := fun a ha z => ha (by rw [z]; exact hq)
  exact ⟨fun a ha => by rw [z_ty_new, if_neg (e a ha)], fun f a ha _ => by rw [z_I_new, if_neg (e a ha)], fun f a ha _ => by rw [z_R_new, if_neg (e a ha)], fun _ _ _ _ => rfl, fun _ _ _ _ => rfl⟩
theorem wf_arr {S : Nat → Prop} {σ : z_S} {q k n t : Nat} (hq : z_ty σ q = none) : wf S σ (z_arr σ q k n t) := by
  have e : ∀ a, z_ty σ a ≠ none → ¬ a = q := fun a ha z => ha (by rw [z]; exact hq)
  exact ⟨fun a ha => by rw [z_ty_arr, if_neg (e a ha)], fun f a ha _ => rfl, fun f a ha _ => rfl, fun f a ha _ => by rw [z_A_arr, if_neg (e a ha)], fun f a ha _ => by rw [z_Q_arr, if_neg (e a ha)]⟩
theorem wf_sR {S : Nat → Prop} {σ : z_S} {f a : Nat} {x : Option Nat} (h : S a) : wf S σ (z_sR σ f a x) := ⟨fun _ _ => rfl, fun _ _ _ _ => rfl, fun g b _ hn => by rw [z_R_sR, if_neg (fun z => hn (by rw [z.2]; exact h))], fun _ _ _ _ => rfl, fun _ _ _ _ => rfl⟩
theorem wf_sI {S : Nat → Prop} {σ : z_S} {f a : Nat} {x : Int32} (h : S a) : wf S σ (z_sI σ f a x) := ⟨fun _ _ => rfl, fun g b _ hn => by rw [z_I_sI, if_neg (fun z => hn (by rw [z.2]; exact h))], fun _ _ _ _ => rfl, fun _ _ _ _ => rfl, fun _ _ _ _ => rfl⟩
theorem wf_sQ {S : Nat → Prop} {σ : z_S} {f a : Nat} {x : Nat → Option Nat} (h : S a) : wf S σ (z_sQ σ f a x) := ⟨fun _ _ => rfl, fun _ _ _ _ => rfl, fun _ _ _ _ => rfl, fun _ _ _ _ => rfl, fun g b _ hn => by rw [z_Q_sQ, if_neg (fun z => hn (by rw [z.2]; exact h))]⟩
/-- numbers and references in arrays are written -/
def oq (fs qs : List (Nat × Nat)) (σ σ' : z_S) : Prop := (∀ a, z_ty σ' a = z_ty σ a) ∧ (∀ f a, z_R σ' f a = z_R σ f a) ∧ (∀ t a, z_A σ' t a = z_A σ t a) ∧ (∀ t a, (t, a) ∉ qs → z_Q σ' t a = z_Q σ t a) ∧ (∀ f a, (f, a) ∉ fs → z_I σ' f a = z_I σ f a)
theorem oq.ty {fs qs : List (Nat × Nat)} {σ σ' : z_S} (h' : oq fs qs σ σ') : ∀ a, z_ty σ' a = z_ty σ a := h'.1
theorem oq.R {fs qs : List (Nat × Nat)} {σ σ' : z_S} (h' : oq fs qs σ σ') : ∀ f a, z_R σ' f a = z_R σ f a := h'.2.1
theorem oq.A {fs qs : List (Nat × Nat)} {σ σ' : z_S} (h' : oq fs qs σ σ') : ∀ t a, z_A σ' t a = z_A σ t a := h'.2.2.1
theorem oq.Q {fs qs : List (Nat × Nat)} {σ σ' : z_S} (h' : oq fs qs σ σ') : ∀ t a, (t, a) ∉ qs → z_Q σ' t a = z_Q σ t a := h'.2.2.2.1
theorem oq.I {fs qs : List (Nat × Nat)} {σ σ' : z_S} (h' : oq fs qs σ σ') : ∀ f a, (f, a) ∉ fs → z_I σ' f a = z_I σ f a := h'.2.2.2.2
theorem oq_rf (fs ts : List (Nat × Nat)) (σ : z_S) : oq fs ts σ σ := ⟨fun _ => rfl, fun _ _ => rfl, fun _ _ => rfl, fun _ _ _ => rfl, fun _ _ _ => rfl⟩
theorem oq_tr {fs ts : List (Nat × Nat)} {σ σ' σ'' : z_S} (h : oq fs ts σ σ') (g : oq fs ts σ' σ'') : oq fs ts σ σ'' := ⟨fun a => (g.ty a).trans (h.ty a), fun f a => (g.R f a).trans (h.R f a), fun t a => (g.A t a).trans (h.A t a), fun t a q => (g.Q t a q).trans (h.Q t a q), fun f a q => (g.I f a q).trans (h.I f a q)⟩
theorem oq_sI {fs ts : List (Nat × Nat)} {σ : z_S} {f a : Nat} {x : Int32} (h : (f, a) ∈ fs) : oq fs ts σ (z_sI σ f a x) := ⟨fun _ => rfl, fun _ _ => rfl, fun _ _ => rfl, fun _ _ _ => rfl, fun g b q => by rw [z_I_sI, if_neg (fun z => q (by rw [z.1, z.2]; exact h))]⟩
theorem oq_sQ {fs ts : List (Nat × Nat)} {σ : z_S} {t a : Nat} {F : Nat → Option Nat} (h : (t, a) ∈ ts) : oq fs ts σ (z_sQ σ t a F) := ⟨fun _ => rfl, fun _ _ => rfl, fun _ _ => rfl, fun g b q => by rw [z_Q_sQ, if_neg (fun z => q (by rw [z.1, z.2]; exact h))], fun _ _ _ => rfl⟩
theorem wf_oq {fs ts : List (Nat × Nat)} {S : Nat → Prop} {σ σ' : z_S} (h : oq fs ts σ σ') (h1 : ∀ x ∈ fs, S x.2) (h2 : ∀ x ∈ ts, S x.2) : wf S σ σ' := ⟨fun a _ => h.ty a, fun f a _ hn => h.I f a (fun z => hn (h1 _ z)), fun f a _ _ => h.R f a, fun t a _ _ => h.A t a, fun t a _ hn => h.Q t a (fun z => hn (h2 _ z))⟩
theorem cR_w {S : Nat → Prop} {t : tx_T} {R tx p : Nat} {σ σ' : z_S} (h : cR t R tx p σ) (f : wf S σ σ') (h1 : ¬ S R) (h2 : ¬ S tx) : cR t R tx p σ' := by
  have n1 := nn_s h.ty
  have n2 := nn_s h.tt
  exact ⟨by rw [f.ty _ n1]; exact h.ty, by rw [f.R _ _ n1 h1]; exact h.r3, by rw [f.ty _ n2]; exact h.tt, by rw [f.I _ _ n1 h1]; exact h.n, by rw [f.I _ _ n1 h1]; exact h.a, fun i hi => by rw [f.A _ _ n2 h2]; exact h.c i hi⟩
theorem pS_w {S : Nat → Prop} {P na ta : Nat} {nm A : List Nat} {σ σ' : z_S} (h : pS σ P na ta nm A) (f : wf S σ σ') (h1 : ¬ S P) (h2 : ¬ S na) (h3 : ¬ S ta) : pS σ' P na ta nm A := by
  have n1 := nn_s h.n.ty
  have n2 := nn_s h.n.tn
  have n3 := nn_s h.tt
  exact ⟨⟨by rw [f.ty _ n1]; exact h.n.ty, by rw [f.I _ _ n1 h1]; exact h.n.nn, by rw [f.R _ _ n1 h1]; exact h.n.rn, by rw [f.ty _ n2]; exact h.n.tn, fun i hi => by rw [f.A _ _ n2 h2]; exact h.n.vn i hi⟩, by rw [f.R _ _ n1 h1]; exact h.rt, by rw [f.ty _ n3]; exact h.tt, fun i hi => by rw [f.A _ _ n3 h3]; exact h.vt i hi⟩
theorem lt_L_w {S : Nat → Prop} {ro : Nat} {lt : Nat → Bool} {σ σ' : z_S} (h : lt_L σ ro lt) (f : wf S σ σ') (h1 : ¬ S ro) : lt_L σ' ro lt := by
  have n1 := nn_s h.ty
  exact ⟨by rw [f.ty _ n1]; exact h.ty, fun k hk => by rw [f.I _ _ n1 h1]; exact h.b k hk, by rw [f.I _ _ n1 h1]; exact h.n, h.n6⟩
/-- S holds no atom -/
def noA (S : Nat → Prop) (σ : z_S) : Prop := ∀ a, S a → z_ty σ a ≠ some (.inl 0) ∧ z_ty σ a ≠ some (.inr (0, 3, 1))
theorem at_L_w {S : Nat → Prop} {σ σ' : z_S} {b n : Nat} {l : lit_T} (h : at_L σ b l n) (f : wf S σ σ') (hs : noA S σ) : at_L σ' b l n := by
  obtain ⟨t, h1, h2, h3⟩ := h.tm
  have hb := nn_s h.ty
  have n1 : ¬ S b := fun z => (hs b z).1 h.ty
  have n2 : ¬ S t := fun z => (hs t z).2 h2
  exact ⟨by rw [f.ty b hb]; exact h.ty, h.n1, h.n3, by rw [f.I 1 b hb n1]; exact h.sz, ⟨t, by rw [f.R 0 b hb n1]; exact h1, by rw [f.ty t (nn_s h2)]; exact h2, fun i hi => by rw [f.A 1 t (nn_s h2) n2]; exact h3 i hi⟩, h.rs, by rw [f.I 2 b hb n1]; exact h.kd, h.k2, fun q => by rw [f.I 3 b hb n1]; exact h.rl q, fun q => by rw [f.I 4 b hb n1]; exact h.op q, fun k hk => by rw [f.I 5 b hb n1]; exact h.lt k hk, h.to⟩
theorem hd_L_w {S : Nat → Prop} {σ σ' : z_S} {ro h n hb : Nat} {ts : tm_T} {c : Bool} (hh : hd_L σ ro h ts c n hb) (f : wf S σ σ') (hs : noA S σ) (h1 : ¬ S ro) : hd_L σ' ro h ts c n hb := ⟨by rw [f.ty _ (nn_s hh.ty)]; exact hh.ty, by rw [f.R 500 _ (nn_s hh.ty) h1]; exact hh.rh, at_L_w hh.at' f hs, by rw [f.I 504 _ (nn_s hh.ty) h1]; exact hh.ct⟩
theorem bd_L_w {S : Nat → Prop} {σ σ' : z_S} {ro bb : Nat} {ls : List lit_T} {A bo : Nat → Nat} (h : bd_L σ ro ls A bb bo) (f : wf S σ σ') (hs : noA S σ) (h1 : ¬ S ro) (h2 : ¬ S bb) : bd_L σ' ro ls A bb bo :=
  ⟨by rw [f.ty _ (nn_s h.ty)]; exact h.ty, by rw [f.R 501 _ (nn_s h.ty) h1]; exact h.rb, by rw [f.ty _ (nn_s h.tb)]; exact h.tb, h.l5, by rw [f.I 502 _ (nn_s h.ty) h1]; exact h.sz, fun i hi => by
    obtain ⟨h3, n, h4, h5⟩ := h.bo i hi
    exact ⟨by rw [f.Q 14 _ (nn_s h.tb) h2]; exact h3, n, at_L_w h4 f hs, h5⟩⟩
/-- a new atom -/
theorem cl_atom {σ σ0 : z_S} {b : Nat} (hb : z_ty σ0 b = none) (e : σ = z_new σ0 b 0) (P : z_S → Prop) (hP : ∀ tb σ', z_ty σ0 tb = none → tb ≠ b → aW σ' b tb [] → (∀ f, z_I σ' f b = 0) → wf (fun _ => False) σ0 σ' → P σ') : kp_At_init b σ P := by
  intro tb htb σ1 e1
  have hty : z_ty σ b = some (.inl 0) := by rw [e, z_ty_new, if_pos rfl]
  have hne : b ≠ tb := fun z => by rw [← z, hty] at htb; cases htb
  have htb0 : z_ty σ0 tb = none := by
    rw [e, z_ty_new, if_neg (fun z => hne z.symm)] at htb
    exact htb
  have ty1 : z_ty σ1 b = some (.inl 0) := by rw [e1, z_ty_arr, if_neg hne]; exact hty
  refine ⟨ty1, fun σ2 e2 => ?_⟩
  have hI : ∀ f, z_I σ2 f b = 0 := fun f => by rw [e2, z_I_sR, e1, z_I_arr, e, z_I_new, if_pos rfl]
  refine hP tb σ2 htb0 (fun z => hne z.symm) ⟨by rw [e2]; exact ty1, hI 1, Nat.zero_le _, by rw [e2, z_R_sR, if_pos ⟨rfl, rfl⟩], by rw [e2, z_ty_sR, e1, z_ty_arr, if_pos rfl], fun i hi => absurd hi (Nat.not_lt_zero i), fun k hk => by
    rw [hI 5, bi_0]
    exact ⟨(fun z => by cases z), fun z => absurd z.2 List.not_mem_nil⟩⟩ hI ?_
  have w1 : wf (fun _ => False) σ0 σ := by rw [e]; exact wf_new hb
  have w2 : wf (fun _ => False) σ σ1 := by rw [e1]; exact wf_arr htb
  have w3 : wf (fun a => a = b) σ1 σ2 := by rw [e2]; exact wf_sR rfl
  exact wf_tr (wf_tr w1 w2 (fun a z _ => z)) w3 (fun a z hn => hn (by rw [z]; exact hb))
theorem ru_append0 {σ : z_S} {ro bb b n : Nat} (hty : z_ty σ ro = some (.inl 5)) (hrb : z_R σ 501 ro = some bb) (htb : z_ty σ bb = some (.inr (11, 5, 14))) (hn : z_I σ 502 ro = nI n) (h5 : n < 5) (hb : z_ty σ b = some (.inl 0)) (P : z_S → Prop) (hP : ∀ σ', z_I σ' 502 ro = nI (n + 1) → z_I σ' 503 ro = z_I σ 503 ro + (if z_I σ 2 b = 0 then 1 else 0) → z_Q σ' 14 bb = va_up (z_Q σ 14 bb) n (some b) → oq [(502, ro), (503, ro)] [(14, bb)] σ σ' → P σ') : kp_Ru_append ro b σ P := by
  intro X46 h46
  refine ⟨hty, ?_⟩
  rw [hn, show (5 : Int32) = nI 5 from rfl, nI_ltI (by omega) (by decide), cl_nI (by omega)]
  refine ⟨fun _ => ⟨hty, bb, hrb, hty, 5, 14, htb, vp_in_nI h5 (by decide), hb, fun σ1 e1 => ⟨by rw [e1]; exact hty, by rw [e1]; exact hty, fun σ2 e2 => ?_⟩⟩, fun z => absurd h5 z⟩
  have hQ2 : z_Q σ2 14 bb = va_up (z_Q σ 14 bb) n (some b) := by rw [e2, z_Q_sI, e1, z_Q_sQ, if_pos ⟨rfl, rfl⟩]
  have h22 : z_I σ2 2 b = z_I σ 2 b := by rw [e2, z_I_sI, if_neg (fun z => absurd z.1 (by decide)), e1, z_I_sQ]
  have h23 : z_I σ2 503 ro = z_I σ 503 ro := by rw [e2, z_I_sI, if_neg (fun z => absurd z.1 (by decide)), e1, z_I_sQ]
  have h2n : z_I σ2 502 ro = nI (n + 1) := by rw [e2, z_I_sI, if_pos ⟨rfl, rfl⟩, e1, z_I_sQ, hn, nI_1]
  have q2 : oq [(502, ro), (503, ro)] [(14, bb)] σ σ2 := by
    rw [e2, e1]
    exact oq_tr (oq_sQ (by simp)) (oq_sI (by simp))
  refine ⟨by rw [q2.ty]; exact hty, by rw [q2.ty]; exact hb, ?_⟩
  rw [h22, h23]
  have fin : ∀ x : Int32, (x = if z_I σ 2 b = 0 then 1 else 0) → X46 ro (z_I σ 503 ro) x σ2 := fun x hx => h46 _ _ _ _ ⟨by rw [q2.ty]; exact hty, fun σ3 e3 => by
    refine hP σ3 (by rw [e3, z_I_sI, if_neg (fun z => absurd z.1 (by decide))]; exact h2n) (by rw [e3, z_I_sI, if_pos ⟨rfl, rfl⟩, hx]) (by rw [e3, z_Q_sI]; exact hQ2) (oq_tr q2 (by rw [e3]; exact oq_sI (by simp)))⟩
  exact ⟨fun z => fin 0 (by rw [if_neg z]), fun z => fin 1 (by rw [if_pos z])⟩
theorem cl_operator {t : tx_T} (hok : tx_ok t) {R tx p q b : Nat} {σ : z_S} (h : cR t R tx p σ) (hp : p ≤ t.n) (hq : nxt t p = q) (hb : z_ty σ b = some (.inl 0)) (P : Int32 → z_S → Prop) (h1 : ∀ σ', (sg t q = 60 ∨ sg t q = 61 ∨ sg t q = 33) → q + 1 ≤ t.n → cR t R tx (q + 1) σ' → z_I σ' 4 b = nI (sg t q) → nf [(305, R), (4, b)] [] σ σ' → P 1 σ') (h2 : ∀ σ', ¬ (sg t q = 60 ∨ sg t q = 61 ∨ sg t q = 33) → cF R (1, q) σ' → nf [(301, R), (302, R), (305, R)] [] σ σ' → P 0 σ') : kp_Re_readOperator R b σ P := by
  intro X29 h29
  refine ⟨h.ty, cl_sign hok h hp _ (fun σ1 hc e1 => ?_)⟩
  rw [hq] at hc ⊢
  have hs := sg_ok hok q
  have ok : (sg t q = 60 ∨ sg t q = 61 ∨ sg t q = 33) → X29 (sI (sg t q)) σ1 := fun ho => by
    have hqn : q < t.n := sg_lt (k := sg t q) rfl (by omega)
    refine h29 _ _ ⟨by rw [e1.ty]; exact hb, fun σ2 e2 => ?_⟩
    have f2 : nf [(4, b)] [] σ1 σ2 := by rw [e2]; exact nf_sI (by simp)
    have hc2 := cR_f hc f2 (by simp) (by simp) (by simp)
    refine ⟨hc2.ty, hc2.ty, fun σ3 e3 => ?_⟩
    rw [hc2.a, nI_1] at e3
    have e53 : e5 R σ2 σ3 := by rw [e3]; exact e5_s R σ2 _
    refine h1 σ3 ho (by omega) (cR_5 hc2 e53 (by rw [e3, z_I_sI, if_pos ⟨rfl, rfl⟩])) ?_ (nf_tr (nf_5 e1 (by simp)) (nf_tr (nf_mo f2 (by simp) (by simp)) (nf_5 e53 (by simp))))
    rw [e3, z_I_sI, if_neg (fun z => absurd z.1 (by decide)), e2, z_I_sI, if_pos ⟨rfl, rfl⟩, sI_k (by omega)]
  rw [show (60 : Int32) = nI 60 from rfl, show (61 : Int32) = nI 61 from rfl, show (33 : Int32) = nI 33 from rfl, sI_eq hs (by decide), sI_eq hs (by decide), sI_eq hs (by decide)]
  exact ⟨fun z => ok (Or.inl z), fun z1 => ⟨fun z => ok (Or.inr (Or.inl z)), fun z2 => ⟨fun z => ok (Or.inr (Or.inr z)), fun z3 => ⟨hc.ty, cl_fail (k := 1) hc _ (fun σ2 hF eF => ⟨Or.inl rfl, h2 σ2 (fun z => z.elim z1 (fun z => z.elim z2 z3)) hF (nf_tr (nf_5 e1 (by simp)) (nf_R eF (by simp) (by simp) (by simp)))⟩)⟩⟩⟩⟩
