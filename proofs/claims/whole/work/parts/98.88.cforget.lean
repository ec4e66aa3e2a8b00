/-- what forgetting writes -/
def xf (x o1 o2 : Nat) (σ σ' : z_S) : Prop := (∀ a, z_ty σ a ≠ none → z_ty σ' a = z_ty σ a) ∧ (∀ f a, z_ty σ a ≠ none → ¬ (f = 705 ∧ a = x) → z_R σ' f a = z_R σ f a) ∧ (∀ t a, z_ty σ a ≠ none → z_Q σ' t a = z_Q σ t a) ∧ (∀ t a, z_ty σ a ≠ none → t ≠ 19 → z_A σ' t a = z_A σ t a) ∧ (∀ f a, z_ty σ a ≠ none → ¬ (a = x ∧ (f = 701 ∨ f = 702 ∨ f = 704 ∨ f = 710)) → ¬ (f = 603 ∧ (a = o1 ∨ a = o2)) → z_I σ' f a = z_I σ f a)
theorem xf.ty {x o1 o2 : Nat} {σ σ' : z_S} (h' : xf x o1 o2 σ σ') : ∀ a, z_ty σ a ≠ none → z_ty σ' a = z_ty σ a := h'.1
theorem xf.R {x o1 o2 : Nat} {σ σ' : z_S} (h' : xf x o1 o2 σ σ') : ∀ f a, z_ty σ a ≠ none → ¬ (f = 705 ∧ a = x) → z_R σ' f a = z_R σ f a := h'.2.1
theorem xf.Q {x o1 o2 : Nat} {σ σ' : z_S} (h' : xf x o1 o2 σ σ') : ∀ t a, z_ty σ a ≠ none → z_Q σ' t a = z_Q σ t a := h'.2.2.1
theorem xf.A {x o1 o2 : Nat} {σ σ' : z_S} (h' : xf x o1 o2 σ σ') : ∀ t a, z_ty σ a ≠ none → t ≠ 19 → z_A σ' t a = z_A σ t a := h'.2.2.2.1
theorem xf.I {x o1 o2 : Nat} {σ σ' : z_S} (h' : xf x o1 o2 σ σ') : ∀ f a, z_ty σ a ≠ none → ¬ (a = x ∧ (f = 701 ∨ f = 702 ∨ f = 704 ∨ f = 710)) → ¬ (f = 603 ∧ (a = o1 ∨ a = o2)) → z_I σ' f a = z_I σ f a := h'.2.2.2.2
theorem xf_w {x o1 o2 : Nat} {σ σ' : z_S} (h : wf (fun _ => False) σ σ') : xf x o1 o2 σ σ' := ⟨h.ty, fun f a ha _ => h.R f a ha (fun z => z), fun t a ha => h.Q t a ha (fun z => z), fun t a ha _ => h.A t a ha (fun z => z), fun f a ha _ _ => h.I f a ha (fun z => z)⟩
theorem xf_tr {x o1 o2 : Nat} {σ σ' σ'' : z_S} (h : xf x o1 o2 σ σ') (g : xf x o1 o2 σ' σ'') : xf x o1 o2 σ σ'' := by
  have e : ∀ {a}, z_ty σ a ≠ none → z_ty σ' a ≠ none := fun {a} ha => by rw [h.ty a ha]; exact ha
  exact ⟨fun a ha => (g.ty a (e ha)).trans (h.ty a ha), fun f a ha hn => (g.R f a (e ha) hn).trans (h.R f a ha hn), fun t a ha => (g.Q t a (e ha)).trans (h.Q t a ha), fun t a ha ht => (g.A t a (e ha) ht).trans (h.A t a ha ht), fun f a ha h1 h2 => (g.I f a (e ha) h1 h2).trans (h.I f a ha h1 h2)⟩
theorem xf_sI {x o1 o2 : Nat} {σ : z_S} {f a : Nat} {y : Int32} (h : (a = x ∧ (f = 701 ∨ f = 702 ∨ f = 704 ∨ f = 710)) ∨ (f = 603 ∧ (a = o1 ∨ a = o2))) : xf x o1 o2 σ (z_sI σ f a y) := ⟨fun _ _ => rfl, fun _ _ _ _ => rfl, fun _ _ _ => rfl, fun _ _ _ _ => rfl, fun g b _ h1 h2 => by
  rw [z_I_sI, if_neg]
  rintro ⟨rfl, rfl⟩
  exact h.elim h1 h2⟩
theorem xf_sR {x o1 o2 : Nat} {σ : z_S} {y : Option Nat} : xf x o1 o2 σ (z_sR σ 705 x y) := ⟨fun _ _ => rfl, fun g b _ hn => by rw [z_R_sR, if_neg hn], fun _ _ _ => rfl, fun _ _ _ _ => rfl, fun _ _ _ _ _ => rfl⟩
theorem xf_sA {x o1 o2 : Nat} {σ : z_S} {a : Nat} {y : Nat → Int32} : xf x o1 o2 σ (z_sA σ 19 a y) := ⟨fun _ _ => rfl, fun _ _ _ _ => rfl, fun _ _ _ => rfl, fun t b _ ht => by rw [z_A_sA, if_neg (fun z => ht z.1)], fun _ _ _ _ _ => rfl⟩
theorem ro_T_x {x o1 o2 : Nat} {σ σ' : z_S} (h : xf x o1 o2 σ σ') {b k c : Nat} (hL : ro_T σ b k c) : ro_T σ' b k c := by
  obtain ⟨a1, a2, a3, a4, a5⟩ := hL
  exact ⟨by rw [h.ty _ (nn_s a1)]; exact a1, by rw [h.R _ _ (nn_s a1) (by omega)]; exact a2, by rw [h.R _ _ (nn_s a1) (by omega)]; exact a3, by rw [h.ty _ (nn_s a4)]; exact a4, by rw [h.ty _ (nn_s a5)]; exact a5⟩
theorem ro_L_x {x o1 o2 : Nat} {σ σ' : z_S} (h : xf x o1 o2 σ σ') {b k c : Nat} {l : al_T} (hL : ro_L σ b k c l) : ro_L σ' b k c l := by
  obtain ⟨hT, h2, h3, h4, h5, h6⟩ := hL
  exact ⟨ro_T_x h hT, by rw [h.I 402 _ (nn_s hT.1) (by omega) (by omega)]; exact h2, h3, h4, h5, fun i hi => by rw [h.A 12 _ (nn_s hT.2.2.2.1) (by decide), h.A 13 _ (nn_s hT.2.2.2.2) (by decide)]; exact h6 i hi⟩
theorem rw_T_x {x o1 o2 : Nat} {σ σ' : z_S} (h : xf x o1 o2 σ σ') {X : ex_T} (hR : rw_T X σ) : rw_T X σ' := ⟨by rw [h.ty _ (nn_s hR.tw)]; exact hR.tw, fun i hi => by rw [h.Q _ _ (nn_s hR.tw)]; exact hR.qw i hi, fun i hi => ro_T_x h (hR.ro i hi), hR.ia, hR.ik, hR.ic⟩
theorem rw_L_x {x o1 o2 : Nat} {σ σ' : z_S} (h : xf x o1 o2 σ σ') {X : ex_T} {T : Nat → al_T} (hR : rw_L X σ T) : rw_L X σ' T := ⟨rw_T_x h hR.1, fun i hi => ro_L_x h (hR.2 i hi)⟩
theorem en_T_x {x o1 o2 : Nat} {σ σ' : z_S} (h : xf x o1 o2 σ σ') {X : ex_T} (e : en_T X σ) : en_T X σ' := ⟨by rw [h.ty _ (nn_s e.ty)]; exact e.ty, by rw [h.R _ _ (nn_s e.ty) (by omega)]; exact e.rl, by rw [h.ty _ (nn_s e.tl)]; exact e.tl, by rw [h.R _ _ (nn_s e.ty) (by omega)]; exact e.rv, by rw [h.ty _ (nn_s e.tv)]; exact e.tv, by rw [h.R _ _ (nn_s e.ty) (by omega)]; exact e.rq, by rw [h.ty _ (nn_s e.tq)]; exact e.tq, by rw [h.R _ _ (nn_s e.ty) (by omega)]; exact e.rk, by rw [h.ty _ (nn_s e.tk)]; exact e.tk⟩
theorem si_T_x {x o1 o2 : Nat} {σ σ' : z_S} (h : xf x o1 o2 σ σ') {a r k s n : Nat} (e : si_T σ a r k s n) : si_T σ' a r k s n := by
  obtain ⟨h1, h2, h3, h4, h5, h6, h7⟩ := e
  exact ⟨by rw [h.ty _ (nn_s h1)]; exact h1, by rw [h.R _ _ (nn_s h1) (by omega)]; exact h2, by rw [h.R _ _ (nn_s h1) (by omega)]; exact h3, by rw [h.R _ _ (nn_s h1) (by omega)]; exact h4, by rw [h.ty _ (nn_s h5)]; exact h5, by rw [h.ty _ (nn_s h6)]; exact h6, by rw [h.ty _ (nn_s h7)]; exact h7⟩
theorem si_nil {σ : z_S} {a r k s n : Nat} (h : si_T σ a r k s n) (e : z_I σ 603 a = 0) : si_L σ a r k s n [] := ⟨h, by rw [e]; rfl, Nat.zero_le _, fun i hi => absurd hi (Nat.not_lt_zero i)⟩
/-- the rows that stand are rows that may stand -/
theorem okl_N {V : vc_T} {a : ab_T} {σ : z_S} (h : CI V a σ) : ∃ T, rw_L V.N σ T ∧ ∀ v, v < 8 → okl (T v) := by
  cases hb : a.on with
  | false => exact (CI_non h hb).N
  | true =>
    have hp := CI_prg h hb
    refine ⟨a.T, hp.N, fun v hv => ⟨hp.gd.v.c40 v hv, fun p hpp => ?_⟩⟩
    cases hw : a.G.vw v with
    | false => exact hp.gd.t v hw p hpp
    | true =>
      have := hp.gd.o v hv ((hp.ok.lv v).mp hw) p hpp
      omega
def a_off (a : ab_T) (pl : Int32) (rg : List Nat) : ab_T := ⟨0, a.tt, pl, rg, false, a.G, a.nm, a.rc, a.T, [], [], []⟩
def v_off (V : vc_T) (p : Nat) : vc_T := ⟨V.x, V.tx, V.rg, V.dn, p, V.O, V.R, V.K, V.S, V.uw, V.dd, V.N, V.M, V.D, V.na, V.ta, V.ra⟩
theorem CI_off {V : vc_T} {a : ab_T} {σ σ' : z_S} (hC : CI V a σ) (h : xf V.x (V.O V.uw) (V.O 7) σ σ') {p : Nat} (h5 : z_R σ' 705 V.x = some p) (hp : z_ty σ' p = some (.inl 2)) (p1 : z_I σ' 201 p = 0) (p6 : z_I σ' 206 p = 0) (p7 : z_I σ' 207 p = 0) (x1 : z_I σ' 701 V.x = 0) {pl : Int32} {rg : List Nat} (x2 : z_I σ' 702 V.x = pl) (x4 : z_I σ' 704 V.x = nI rg.length) (g8 : rg.length ≤ 8) (gg : ∀ i, i < rg.length → z_A σ' 19 V.rg i = nI (rg.getD i 0)) (x10 : z_I σ' 710 V.x = 0) (o1 : z_I σ' 603 (V.O V.uw) = 0) (o2 : z_I σ' 603 (V.O 7) = 0) : CI (v_off V p) (a_off a pl rg) σ' := by
  have nx := nn_s hC.ty
  have R : ∀ f, f ≠ 705 → z_R σ' f V.x = z_R σ f V.x := fun f hf => h.R f _ nx (fun z => hf z.1)
  refine ⟨(h.ty _ nx).trans (hC.ty), (R 700 (by decide)).trans (hC.r0), (h.ty _ (nn_s hC.t0)).trans (hC.t0), x1, ⟨Nat.zero_le _, fun i hi => absurd hi (Nat.not_lt_zero i)⟩, fun i hi => absurd hi (Nat.not_lt_zero i), x2, (R 703 (by decide)).trans (hC.r3), (h.ty _ (nn_s hC.t3)).trans (hC.t3), x4, g8, gg, (R 706 (by decide)).trans (hC.rn), (R 707 (by decide)).trans (hC.rm), (R 708 (by decide)).trans (hC.ru), (R 709 (by decide)).trans (hC.rd), (h.ty _ (nn_s hC.td)).trans (hC.td), fun i hi => (congrFun (h.Q _ _ (nn_s hC.td)) i).trans (hC.qd i hi), x10, Nat.zero_le _, (R 711 (by decide)).trans (hC.rl), (R 712 (by decide)).trans (hC.re), en_T_x h hC.en, en_T_x h hC.eN, hC.ea, rw_T_x h hC.Mt, hC.da, hC.dk, hC.dc, fun i hi => si_T_x h (hC.st i hi), si_nil (si_T_x h hC.sl.1) o2, hC.iO, hC.iR, hC.iK, hC.iS, hC.uw, hC.id, si_nil (si_T_x h hC.su.1) o1, fun i hi => absurd hi (Nat.not_lt_zero i), ?_⟩
  obtain ⟨T, t1, t2⟩ := okl_N hC
  exact (⟨h5, hp, p1, p6, p7, ⟨T, rw_L_x h t1, t2⟩, rfl, rfl, rfl⟩ : non (v_off V p) (a_off a pl rg) σ')
/-- the program forgets -/
theorem cl_forget {V : vc_T} {a : ab_T} {σ σ1 σ2 : z_S} (hC : CI V a σ) (w : wf (fun _ => False) σ σ1) (e2 : σ2 = z_sI σ1 701 V.x 0) (Po : z_S → Prop) (h : ∀ p σ', z_ty σ1 p = none → CI (v_off V p) (a_off a (-1) []) σ' → xf V.x (V.O V.uw) (V.O 7) σ σ' → xf V.x (V.O V.uw) (V.O 7) σ1 σ' → Po σ') : kp_Vr_forgetRules V.x σ2 Po := by
  intro p hp σ3 e3
  have nx := nn_s hC.ty
  have nx1 : z_ty σ1 V.x ≠ none := by rw [w.ty _ nx]; exact nx
  have ty2 : ∀ c, z_ty σ2 c = z_ty σ1 c := fun c => by rw [e2]; rfl
  have hp1 : z_ty σ1 p = none := by rw [← ty2]; exact hp
  refine cl_newprog hp e3 _ (fun pa na ta la ra σ4 hN => ?_)
  have tx4 : z_ty σ4 V.x = some (.inl 7) := by rw [hN.w.ty _ (by rw [ty2]; exact nx1), ty2, w.ty _ nx]; exact hC.ty
  have ou := (hC.st V.uw hC.uw.1).1
  have o7 := hC.sl.1.1
  have to4 : ∀ {c y}, z_ty σ c = some y → z_ty σ4 c = some y := fun {c y} hc => by
    have : z_ty σ1 c = some y := by rw [w.ty _ (nn_s hc)]; exact hc
    rw [hN.w.ty _ (by rw [ty2]; exact nn_s this), ty2]; exact this
  have xne : V.x ≠ V.O V.uw := fun z => by have := hC.ty; rw [z, ou] at this; cases this
  have xn7 : V.x ≠ V.O 7 := fun z => by have := hC.ty; rw [z, o7] at this; cases this
  have R4 : ∀ f, z_R σ4 f V.x = z_R σ f V.x := fun f => by rw [hN.w.R _ _ (by rw [ty2]; exact nx1) (fun z => z), e2, z_R_sI, w.R _ _ nx (fun z => z)]
  refine ⟨tx4, fun σ5 e5 => ⟨by rw [e5]; exact tx4, fun σ6 e6 => ⟨by rw [e6, e5]; exact tx4, fun σ7 e7 => ⟨by rw [e7, e6, e5]; exact tx4, V.O V.uw, by rw [e7, z_R_sI, e6, z_R_sI, e5, z_R_sR, if_neg (fun z => absurd z.1 (by decide)), R4]; exact hC.ru, by rw [e7, e6, e5]; exact to4 ou, fun σ8 e8 => ⟨by rw [e8, e7, e6, e5]; exact tx4, fun σ9 e9 => ⟨by rw [e9, e8, e7, e6, e5]; exact tx4, V.O 7, by rw [e9, z_R_sI, e8, z_R_sI, e7, z_R_sI, e6, z_R_sI, e5, z_R_sR, if_neg (fun z => absurd z.1 (by decide)), R4]; exact hC.rl, by rw [e9, e8, e7, e6, e5]; exact to4 o7, fun σ10 e10 => ?_⟩⟩⟩⟩⟩⟩
  have X1 : xf V.x (V.O V.uw) (V.O 7) σ σ2 := xf_tr (xf_w w) (by rw [e2]; exact xf_sI (Or.inl ⟨rfl, Or.inl rfl⟩))
  have X4 : xf V.x (V.O V.uw) (V.O 7) σ σ4 := xf_tr X1 (xf_w hN.w)
  have X5 : xf V.x (V.O V.uw) (V.O 7) σ4 σ10 := by
    rw [e10, e9, e8, e7, e6, e5]
    exact xf_tr (xf_tr (xf_tr (xf_tr (xf_tr xf_sR (xf_sI (Or.inl ⟨rfl, Or.inr (Or.inl rfl)⟩))) (xf_sI (Or.inl ⟨rfl, Or.inr (Or.inr (Or.inl rfl))⟩))) (xf_sI (Or.inr ⟨rfl, Or.inl rfl⟩))) (xf_sI (Or.inl ⟨rfl, Or.inr (Or.inr (Or.inr rfl))⟩))) (xf_sI (Or.inr ⟨rfl, Or.inr rfl⟩))
  have X := xf_tr X4 X5
  have pne : p ≠ V.x := fun z => by rw [z] at hp1; exact nx1 hp1
  have sI : ∀ f c, c ≠ V.x → c ≠ V.O V.uw → c ≠ V.O 7 → z_I σ10 f c = z_I σ4 f c := fun f c h1 h2 h3 => by
    rw [e10, z_I_sI, if_neg (fun z => h3 z.2), e9, z_I_sI, if_neg (fun z => h1 z.2), e8, z_I_sI, if_neg (fun z => h2 z.2), e7, z_I_sI, if_neg (fun z => h1 z.2), e6, z_I_sI, if_neg (fun z => h1 z.2), e5, z_I_sR]
  have xI : ∀ f, z_I σ10 f V.x = if f = 710 then 0 else if f = 704 then 0 else if f = 702 then -1 else z_I σ4 f V.x := fun f => by
    rw [e10, z_I_sI, if_neg (fun z => xn7 z.2), e9, z_I_sI]
    by_cases z1 : f = 710
    · rw [if_pos ⟨z1, rfl⟩, if_pos z1]
    · rw [if_neg (fun y => z1 y.1), if_neg z1, e8, z_I_sI, if_neg (fun z => xne z.2), e7, z_I_sI]
      by_cases z2 : f = 704
      · rw [if_pos ⟨z2, rfl⟩, if_pos z2]
      · rw [if_neg (fun y => z2 y.1), if_neg z2, e6, z_I_sI]
        by_cases z3 : f = 702
        · rw [if_pos ⟨z3, rfl⟩, if_pos z3]
        · rw [if_neg (fun y => z3 y.1), if_neg z3, e5, z_I_sR]
  have x701 : z_I σ4 701 V.x = 0 := by rw [hN.w.I _ _ (by rw [ty2]; exact nx1) (fun z => z), e2, z_I_sI, if_pos ⟨rfl, rfl⟩]
  have pO : p ≠ V.O V.uw := fun z => by
    have : z_ty σ1 (V.O V.uw) ≠ none := by rw [w.ty _ (nn_s ou)]; exact nn_s ou
    rw [← z] at this; exact this hp1
  have p7 : p ≠ V.O 7 := fun z => by
    have : z_ty σ1 (V.O 7) ≠ none := by rw [w.ty _ (nn_s o7)]; exact nn_s o7
    rw [← z] at this; exact this hp1
  refine h p σ10 hp1 (CI_off hC X ?_ ?_ ?_ ?_ ?_ ?_ ?_ ?_ (Nat.zero_le _) (fun i hi => absurd hi (Nat.not_lt_zero i)) ?_ ?_ ?_) X (xf_tr (xf_tr (by rw [e2]; exact xf_sI (Or.inl ⟨rfl, Or.inl rfl⟩)) (xf_w hN.w)) X5)
  · rw [e10, z_R_sI, e9, z_R_sI, e8, z_R_sI, e7, z_R_sI, e6, z_R_sI, e5, z_R_sR, if_pos ⟨rfl, rfl⟩]
  · rw [e10, e9, e8, e7, e6, e5]; exact hN.ty
  · rw [sI _ _ pne pO p7]; exact hN.i _
  · rw [sI _ _ pne pO p7]; exact hN.i _
  · rw [sI _ _ pne pO p7]; exact hN.i _
  · rw [xI, if_neg (by decide), if_neg (by decide), if_neg (by decide)]; exact x701
  · rw [xI, if_neg (by decide), if_neg (by decide), if_pos rfl]
  · rw [xI, if_neg (by decide), if_pos rfl]; rfl
  · rw [xI, if_pos rfl]
  · rw [e10, z_I_sI]
    by_cases z : V.O V.uw = V.O 7
    · rw [if_pos ⟨rfl, z⟩]
    · rw [if_neg (fun y => z y.2), e9, z_I_sI, if_neg (fun y => absurd y.1 (by decide)), e8, z_I_sI, if_pos ⟨rfl, rfl⟩]
  · rw [e10, z_I_sI, if_pos ⟨rfl, rfl⟩]
