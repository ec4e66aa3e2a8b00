theorem xf_peq {x o1 o2 : Nat} {σ σ' : z_S} (h : xf x o1 o2 σ σ') : peq σ σ' := ⟨h.ty, fun f a ha hf => h.R f a ha (fun z => by omega), fun t a ha _ => h.Q t a ha, fun f a ha hf => h.I f a ha (fun z => by omega) (fun z => by omega), fun t a ha ht => h.A t a ha (by omega)⟩
theorem ro_L_w9 {X : ex_T} {σ σ' : z_S} (f : ef X σ σ') {b k c : Nat} {l : al_T} (h : ro_L σ b k c l) (hb : ∀ i, i < 8 → b ≠ X.ra i) (hk : ∀ i, i < 8 → k ≠ X.ka i) (hc : ∀ i, i < 8 → c ≠ X.ca i) : ro_L σ' b k c l := by
  obtain ⟨⟨a1, a2, a3, a4, a5⟩, h2, h3, h4, h5, h6⟩ := h
  exact ⟨⟨by rw [f.1]; exact a1, by rw [f.2.1 400 _ (by omega)]; exact a2, by rw [f.2.1 401 _ (by omega)]; exact a3, by rw [f.1]; exact a4, by rw [f.1]; exact a5⟩, by rw [f.2.2.2.1 402 _ (by omega) (fun _ => hb)]; exact h2, h3, h4, h5, fun i hi => by
    rw [f.2.2.2.2 12 _ (by omega) (fun _ => hk) (fun z => by omega), f.2.2.2.2 13 _ (by omega) (fun z => by omega) (fun _ => hc)]
    exact h6 i hi⟩
theorem rw_T_w9 {X Y : ex_T} {σ σ' : z_S} (f : ef X σ σ') (h : rw_T Y σ) : rw_T Y σ' := ⟨by rw [f.1]; exact h.tw, fun i hi => by rw [f.2.2.1]; exact h.qw i hi, fun i hi => by
  obtain ⟨a1, a2, a3, a4, a5⟩ := h.ro i hi
  exact ⟨by rw [f.1]; exact a1, by rw [f.2.1 400 _ (by omega)]; exact a2, by rw [f.2.1 401 _ (by omega)]; exact a3, by rw [f.1]; exact a4, by rw [f.1]; exact a5⟩, h.ia, h.ik, h.ic⟩
theorem en_T_w9 {X Y : ex_T} {σ σ' : z_S} (f : ef X σ σ') (e : en_T Y σ) : en_T Y σ' := ⟨by rw [f.1]; exact e.ty, by rw [f.2.1 100 _ (by omega)]; exact e.rl, by rw [f.1]; exact e.tl, by rw [f.2.1 101 _ (by omega)]; exact e.rv, by rw [f.1]; exact e.tv, by rw [f.2.1 102 _ (by omega)]; exact e.rq, by rw [f.1]; exact e.tq, by rw [f.2.1 103 _ (by omega)]; exact e.rk, by rw [f.1]; exact e.tk⟩
theorem si_T_w9 {X : ex_T} {σ σ' : z_S} (h : ef X σ σ') {a r k s n : Nat} (e : si_T σ a r k s n) : si_T σ' a r k s n := by
  obtain ⟨h1, h2, h3, h4, h5, h6, h7⟩ := e
  exact ⟨by rw [h.1]; exact h1, by rw [h.2.1 600 _ (by omega)]; exact h2, by rw [h.2.1 601 _ (by omega)]; exact h3, by rw [h.2.1 602 _ (by omega)]; exact h4, by rw [h.1]; exact h5, by rw [h.1]; exact h6, by rw [h.1]; exact h7⟩
theorem si_L_w9 {X : ex_T} {σ σ' : z_S} (h : ef X σ σ') {a r k s n : Nat} {l : sl_T} (e : si_L σ a r k s n l) : si_L σ' a r k s n l := by
  obtain ⟨h1, h2, h3, h4⟩ := e
  exact ⟨si_T_w9 h h1, by rw [h.2.2.2.1 603 _ (by omega) (fun z => by omega)]; exact h2, h3, fun i hi => by rw [h.2.2.2.2 15 _ (by omega) (fun z => by omega) (fun z => by omega), h.2.2.2.2 16 _ (by omega) (fun z => by omega) (fun z => by omega), h.2.2.2.2 17 _ (by omega) (fun z => by omega) (fun z => by omega)]; exact h4 i hi⟩
/-- the second rows may be written while no rules stand -/
theorem CI_eoff {V : vc_T} {a : ab_T} {σ σ' : z_S} (h : CI V a σ) (hb : a.on = false) (f : ef V.M σ σ') : CI V a σ' := by
  have hI : ∀ g, 600 ≤ g → ∀ b, z_I σ' g b = z_I σ g b := fun g hg b => f.2.2.2.1 g b (by omega) (fun z => by omega)
  have hR : ∀ g, 200 ≤ g → ∀ b, z_R σ' g b = z_R σ g b := fun g hg b => f.2.1 g b (by omega)
  refine ⟨by rw [f.1]; exact h.ty, by rw [hR 700 (by omega)]; exact h.r0, by rw [f.1]; exact h.t0, by rw [hI 701 (by omega)]; exact h.n0, h.n6, fun i hi => by rw [f.2.2.2.2 18 _ (by omega) (fun z => by omega) (fun z => by omega)]; exact h.tt i hi, by rw [hI 702 (by omega)]; exact h.pl, by rw [hR 703 (by omega)]; exact h.r3, by rw [f.1]; exact h.t3, by rw [hI 704 (by omega)]; exact h.n4, h.g8, fun i hi => by rw [f.2.2.2.2 19 _ (by omega) (fun z => by omega) (fun z => by omega)]; exact h.gg i hi, by rw [hR 706 (by omega)]; exact h.rn, by rw [hR 707 (by omega)]; exact h.rm, by rw [hR 708 (by omega)]; exact h.ru, by rw [hR 709 (by omega)]; exact h.rd, by rw [f.1]; exact h.td, fun i hi => by rw [f.2.2.1]; exact h.qd i hi, by rw [hI 710 (by omega)]; exact h.ds, h.h6, by rw [hR 711 (by omega)]; exact h.rl, by rw [hR 712 (by omega)]; exact h.re, en_T_w9 f h.en, en_T_w9 f h.eN, h.ea, rw_T_w9 f h.Mt, h.da, h.dk, h.dc, fun i hi => si_T_w9 f (h.st i hi), si_L_w9 f h.sl, h.iO, h.iR, h.iK, h.iS, h.uw, h.id, si_L_w9 f h.su, fun i hi => si_L_w9 f (h.sd i hi), ?_⟩
  have hn := CI_non h hb
  rw [hb]
  obtain ⟨T, t1, t2⟩ := hn.N
  have hI2 : ∀ g, 200 ≤ g → g < 300 → ∀ b, z_I σ' g b = z_I σ g b := fun g hg hg2 b => f.2.2.2.1 g b (by omega) (fun z => by omega)
  exact (⟨by rw [hR 705 (by omega)]; exact hn.rp, by rw [f.1]; exact hn.ty, by rw [hI2 201 (by omega) (by omega)]; exact hn.i1, by rw [hI2 206 (by omega) (by omega)]; exact hn.i6, by rw [hI2 207 (by omega) (by omega)]; exact hn.i7, ⟨T, ⟨rw_T_w9 f t1.1, fun i hi => ro_L_w9 f (t1.2 i hi) (fun j hj => h.da i j hi hj) (fun j hj => h.dk i j hi hj) (fun j hj => h.dc i j hi hj)⟩, t2⟩, hn.cs, hn.hs, hn.dl⟩ : non V a σ')
def v_swp (V : vc_T) (p : Nat) (D : pa_T) (na ta ra : Nat) : vc_T := ⟨V.x, V.tx, V.rg, V.dn, p, V.O, V.R, V.K, V.S, V.uw, V.dd, V.M, V.N, D, na, ta, ra⟩
theorem rw_T_s {σ : z_S} {f x : Nat} {y : Option Nat} (hf : 700 ≤ f) {X : ex_T} (h : rw_T X σ) : rw_T X (z_sR σ f x y) := ⟨h.tw, h.qw, fun i hi => by
  obtain ⟨a1, a2, a3, a4, a5⟩ := h.ro i hi
  exact ⟨a1, by rw [z_R_sR, if_neg (fun z => by omega)]; exact a2, by rw [z_R_sR, if_neg (fun z => by omega)]; exact a3, a4, a5⟩, h.ia, h.ik, h.ic⟩
theorem rw_L_s {σ : z_S} {f x : Nat} {y : Option Nat} (hf : 700 ≤ f) {X : ex_T} {T : Nat → al_T} (h : rw_L X σ T) : rw_L X (z_sR σ f x y) T := ⟨rw_T_s hf h.1, fun i hi => by
  obtain ⟨_, h2⟩ := h.2 i hi
  exact ⟨(rw_T_s hf h.1).ro i hi, h2⟩⟩
theorem en_T_s {σ : z_S} {f x : Nat} {y : Option Nat} (hf : 700 ≤ f) {X : ex_T} (e : en_T X σ) : en_T X (z_sR σ f x y) := ⟨e.ty, by rw [z_R_sR, if_neg (fun z => by omega)]; exact e.rl, e.tl, by rw [z_R_sR, if_neg (fun z => by omega)]; exact e.rv, e.tv, by rw [z_R_sR, if_neg (fun z => by omega)]; exact e.rq, e.tq, by rw [z_R_sR, if_neg (fun z => by omega)]; exact e.rk, e.tk⟩
theorem si_T_s {σ : z_S} {f x : Nat} {y : Option Nat} (hf : 700 ≤ f) {a r k s n : Nat} (e : si_T σ a r k s n) : si_T (z_sR σ f x y) a r k s n := by
  obtain ⟨h1, h2, h3, h4, h5⟩ := e
  exact ⟨h1, by rw [z_R_sR, if_neg (fun z => by omega)]; exact h2, by rw [z_R_sR, if_neg (fun z => by omega)]; exact h3, by rw [z_R_sR, if_neg (fun z => by omega)]; exact h4, h5⟩
theorem si_L_s {σ : z_S} {f x : Nat} {y : Option Nat} (hf : 700 ≤ f) {a r k s n : Nat} {l : sl_T} (e : si_L σ a r k s n l) : si_L (z_sR σ f x y) a r k s n l := ⟨si_T_s hf e.1, e.2⟩
/-- the rows are taken -/
theorem CI_take {V : vc_T} {a : ab_T} {σ σ' : z_S} (h : CI V a σ) (hN : rw_T V.N σ) {P : Nat} (e : σ' = z_sR (z_sR (z_sR σ 705 V.x (some P)) 706 V.x (some V.M.w)) 707 V.x (some V.N.w)) {p : Nat} {D : pa_T} {na ta ra : Nat} {b : ab_T} (b1 : b.tn = a.tn) (b2 : b.tt = a.tt) (b3 : b.pl = a.pl) (b4 : b.rg = a.rg) (b5 : b.cs = a.cs) (b6 : b.hs = a.hs) (b7 : b.dl = a.dl) (pg : if b.on then prg (v_swp V p D na ta ra) b σ' else non (v_swp V p D na ta ra) b σ') : CI (v_swp V p D na ta ra) b σ' := by
  have ty : ∀ c, z_ty σ' c = z_ty σ c := fun c => by rw [e]; rfl
  have I : ∀ f c, z_I σ' f c = z_I σ f c := fun f c => by rw [e]; rfl
  have A : ∀ f c, z_A σ' f c = z_A σ f c := fun f c => by rw [e]; rfl
  have Q : ∀ f c, z_Q σ' f c = z_Q σ f c := fun f c => by rw [e]; rfl
  have R : ∀ f c, f ≠ 705 → f ≠ 706 → f ≠ 707 → z_R σ' f c = z_R σ f c := fun f c h1 h2 h3 => by rw [e, z_R_sR, if_neg (fun z => h3 z.1), z_R_sR, if_neg (fun z => h2 z.1), z_R_sR, if_neg (fun z => h1 z.1)]
  have siL : ∀ {a r k s n : Nat} {l : sl_T}, si_L σ a r k s n l → si_L σ' a r k s n l := fun hs => by rw [e]; exact si_L_s (by omega) (si_L_s (by omega) (si_L_s (by omega) hs))
  have siT : ∀ {a r k s n : Nat}, si_T σ a r k s n → si_T σ' a r k s n := fun hs => by rw [e]; exact si_T_s (by omega) (si_T_s (by omega) (si_T_s (by omega) hs))
  have enT : ∀ {X : ex_T}, en_T X σ → en_T X σ' := fun hs => by rw [e]; exact en_T_s (by omega) (en_T_s (by omega) (en_T_s (by omega) hs))
  have rwT : ∀ {X : ex_T}, rw_T X σ → rw_T X σ' := fun hs => by rw [e]; exact rw_T_s (by omega) (rw_T_s (by omega) (rw_T_s (by omega) hs))
  refine ⟨(ty _).trans h.ty, (R _ _ (by decide) (by decide) (by decide)).trans h.r0, (ty _).trans h.t0, by rw [b1]; exact (I _ _).trans h.n0, by rw [b1, b2]; exact h.n6, fun i hi => by rw [b1] at hi; rw [b2]; exact (congrFun (A _ _) i).trans (h.tt i hi), by rw [b3]; exact (I _ _).trans h.pl, (R _ _ (by decide) (by decide) (by decide)).trans h.r3, (ty _).trans h.t3, by rw [b4]; exact (I _ _).trans h.n4, by rw [b4]; exact h.g8, fun i hi => by rw [b4] at hi ⊢; exact (congrFun (A _ _) i).trans (h.gg i hi), ?_, ?_, (R _ _ (by decide) (by decide) (by decide)).trans h.ru, (R _ _ (by decide) (by decide) (by decide)).trans h.rd, (ty _).trans h.td, fun i hi => (congrFun (Q _ _) i).trans (h.qd i hi), by rw [b6]; exact (I _ _).trans h.ds, by rw [b6]; exact h.h6, (R _ _ (by decide) (by decide) (by decide)).trans h.rl, ((R _ _ (by decide) (by decide) (by decide)).trans h.re).trans (congrArg some h.ea.symm), enT h.eN, enT h.en, h.ea.symm, rwT hN, fun i j hi hj z => h.da j i hj hi z.symm, fun i j hi hj z => h.dk j i hj hi z.symm, fun i j hi hj z => h.dc j i hj hi z.symm, fun i hi => siT (h.st i hi), by rw [b7]; exact siL h.sl, h.iO, h.iR, h.iK, h.iS, h.uw, h.id, by rw [b5]; exact siL h.su, fun i hi => by rw [b6] at hi ⊢; exact siL (h.sd i hi), pg⟩
  · show z_R σ' 706 V.x = some V.M.w
    rw [e, z_R_sR, if_neg (fun z => absurd z.1 (by decide)), z_R_sR, if_pos ⟨rfl, rfl⟩]
  · show z_R σ' 707 V.x = some V.N.w
    rw [e, z_R_sR, if_pos ⟨rfl, rfl⟩]
