theorem at_of {σ : z_S} {b tb k x : Nat} {l : List Nat} (h : aW σ b tb l) (h1 : 1 ≤ l.length) (hk : z_I σ 2 b = nI k) (k2 : k ≤ 2) (hr : k ≤ 1 → z_I σ 3 b = nI x ∧ x < 8) (ho : k = 2 → z_I σ 4 b = nI x ∧ x < 256 ∧ l.length = 2) (hy : tm3_ok (tm3 l)) : at_L σ b (k, x, tm3 l) l.length := by
  have hg : ∀ i, i < 3 → tmi (tm3 l) i = l.getD i 100 := fun i hi => by
    rcases (show i = 0 ∨ i = 1 ∨ i = 2 by omega) with rfl | rfl | rfl <;> rfl
  have l3 := h.l3
  refine ⟨h.ty, h1, l3, h.sz, ⟨tb, h.rt, h.tt, fun i hi => ?_⟩, fun i hi h3 => tm3_rest hi h3, hk, k2, hr, ho, fun j hj => ?_, hy⟩
  · show z_A σ 1 tb i = ct (tmi (tm3 l) i)
    rw [hg i (by omega)]
    exact h.tm i hi
  · rw [h.lt j hj]
    show _ ↔ vin3 (tm3 l) j
    constructor
    · intro z
      exact (vin_tm3 l3 z.1).mpr z.2
    · intro z
      exact ⟨z.1, (vin_tm3 l3 z.1).mp z⟩
theorem gd03 {A : List Nat} {k : Nat} (h : k < A.length) : A.getD k 3 = A.getD k 0 := by rw [gd_eq _ _ h, gd_eq _ _ h]
theorem exA_3 {nm A nm' A' : List Nat} (hn : nmA nm A) (hn' : nmA nm' A') (he : exA nm A nm' A') {ls : List lit_T} (hl : ∀ l ∈ ls, LK nm.length A l) : ∀ x ∈ ls, x.1 = 0 → A'.getD x.2.1 3 = A.getD x.2.1 3 := fun x hx h0 => by
  have h1 := ((hl x hx).nm (by omega)).1
  have h2 := he.l
  rw [gd03 (by rw [hn'.al]; omega), gd03 (by rw [hn.al]; exact h1), he.a _ h1]
theorem cl_literal {t : tx_T} (hok : tx_ok t) {K : rd_T} {p q : Nat} {nm A : List Nat} {σ : z_S} {U : ur_T} {ls : List lit_T} {bo : Nat → Nat} {lt : Nat → Bool} (hW0 : rW t K p nm A σ) (hq : nxt t p = q) (hn : nmA nm A) (hU0 : uW σ K U ls A bo lt) (hLK : ∀ l ∈ ls, LK nm.length A l) (h5 : ls.length ≤ 5) (hp3 : (ps_of ls).length ≤ 3) (Po : Int32 → z_S → Prop)
    (h1 : ∀ r p' bo' σ', ltl t ls nm A lt q = .ok r → nxt t p' = r.q → rW t K p' r.nm r.A σ' → uW σ' K U (ls ++ [r.l]) r.A bo' r.lt → lf (sL K U) K.P σ σ' → Po 1 σ')
    (h2 : ∀ e σ', ltl t ls nm A lt q = .error e → cF K.R e σ' → lf (sL K U) K.P σ σ' → Po 0 σ') : kp_Re_readLiteral K.R σ Po := by
  intro X24 X48 X71 X87 X164 X182 X199 h24 h48 h71 h87 h164 h182 h199
  refine ⟨hW0.c.ty, cl_sign hok hW0.c hW0.p _ (fun σ1 hc e1 => ?_)⟩
  rw [hq] at hc ⊢
  have hs := sg_ok hok q
  have hpq : plc t q := by rw [← hq]; exact nxt_plc t hW0.p
  have g1 : nf [(305, K.R)] [] σ σ1 := nf_5 e1 (by simp)
  have w1 : wf (fun a => a = K.R) σ σ1 := wf_nf g1 (by simp) (by simp)
  have hRro : K.R ≠ U.ro := fun z => by have := hW0.c.ty; rw [z, hU0.l.ty] at this; cases this
  have hRbb : K.R ≠ U.bb := fun z => by have := hW0.c.ty; rw [z, hU0.bd.tb] at this; cases this
  have hW : rW t K q nm A σ1 := ⟨hc, hpq.1, by rw [g1.I _ _ (by simp)]; exact hW0.f, by rw [g1.R]; exact hW0.r0, pS_f hW0.s g1 (by simp) (by simp) (by simp)⟩
  have nA1 : noA (fun a => a = K.R) σ := fun a z => by rw [z, hW0.c.ty]; exact ⟨by decide, by decide⟩
  have hU : uW σ1 K U ls A bo lt := ⟨by rw [g1.R]; exact hU0.rr, lt_L_f hU0.l g1 (by simp) (by simp), hd_L_w hU0.hd w1 nA1 (fun z => hRro z.symm), bd_L_w hU0.bd w1 nA1 (fun z => hRro z.symm) (fun z => hRbb z.symm), by rw [g1.I _ _ (by simp)]; exact hU0.ps⟩
  have lf1 : lf (sL K U) K.P σ σ1 := ⟨wf_mo w1 (fun a _ z => Or.inl z), fun f a _ _ => g1.R f a, ⟨g1.I _ _ (by simp), g1.I _ _ (by simp), g1.I _ _ (by simp), g1.I _ _ (by simp), g1.I _ _ (by simp)⟩⟩
  have lft : ∀ {σ'}, lf (sL K U) K.P σ1 σ' → lf (sL K U) K.P σ σ' := fun h => lf_tr lf1 h (fun a z _ => z)
  -- a fault at once
  have bad : ∀ k, ltl t ls nm A lt q = .error (k, q) → kp_Re_fail K.R (nI k) σ1 (fun r σ' => (r = 0 ∨ r = 1) ∧ Po r σ') := fun k hk => cl_fail hc _ (fun σ2 hF eF => ⟨Or.inl rfl, h2 (k, q) σ2 hk hF (lft (lf_nf (nf_R (fs := [(301, K.R), (302, K.R), (305, K.R)]) (ts := []) eF (by simp) (by simp) (by simp)) (by simp [sL]) (by simp) (by simp)))⟩)
  have x87 : ((97 ≤ sg t q ∧ sg t q ≤ 122) ∨ sg t q = 126 ∨ (65 ≤ sg t q ∧ sg t q ≤ 90) ∨ (48 ≤ sg t q ∧ sg t q ≤ 57)) → (ls.length = 5 ∨ ((97 ≤ sg t q ∧ sg t q ≤ 122) ∧ (ps_of ls).length = 3)) → X87 σ1 := fun ha hb => h87 _ ⟨hc.ty, bad 3 (by unfold ltl; rw [if_pos ha, if_pos hb])⟩
  have x71 : ∀ v2 t0 : Int32, ((97 ≤ sg t q ∧ sg t q ≤ 122) ∨ sg t q = 126 ∨ (65 ≤ sg t q ∧ sg t q ≤ 90) ∨ (48 ≤ sg t q ∧ sg t q ≤ 57)) → ((v2 = 0 ∧ ((97 ≤ sg t q ∧ sg t q ≤ 122) ∨ sg t q = 126)) ∨ (v2 = 1 ∧ ((65 ≤ sg t q ∧ sg t q ≤ 90) ∨ (48 ≤ sg t q ∧ sg t q ≤ 57)))) → (t0 = 0 ↔ ¬ ((97 ≤ sg t q ∧ sg t q ≤ 122) ∧ (ps_of ls).length = 3)) → X71 (sI (sg t q)) v2 t0 σ1 := by
    intro v2 t0 hany hv2 ht0
    refine h71 _ _ _ _ ⟨hc.ty, U.ro, hU.rr, hU.l.ty, ?_⟩
    rw [hU.bd.sz, show (5 : Int32) = nI 5 from rfl, nI_leI (by decide) (by omega)]
    refine ⟨fun z => x87 hany (Or.inl (by omega)), fun z => ⟨fun z0 b hb σ2' e2 => ?_, fun z0 => x87 hany (Or.inr (Classical.byContradiction (fun y => z0 (ht0.mpr y))))⟩⟩
    have hl5 : ls.length < 5 := by omega
    have hroom : ¬ (ls.length = 5 ∨ ((97 ≤ sg t q ∧ sg t q ≤ 122) ∧ (ps_of ls).length = 3)) := fun y => y.elim (fun y => by omega) (ht0.mp z0)
    refine cl_atom hb e2 _ (fun tb σ2 htb hne ha2 hI2 w2 => ?_)
    have hro := nn_s hU.l.ty
    have hbR : b ≠ K.R := fun y => by rw [y, hc.ty] at hb; cases hb
    have hc2 := cR_w hc w2 (fun y => y) (fun y => y)
    have hS2 := pS_w hW.s w2 (fun y => y) (fun y => y) (fun y => y)
    have hl2 := lt_L_w hU.l w2 (fun y => y)
    have r3 : z_R σ2 300 K.R = some K.P := by rw [w2.R _ _ (nn_s hc.ty) (fun y => y)]; exact hW.r0
    have r6 : z_R σ2 306 K.R = some U.ro := by rw [w2.R _ _ (nn_s hc.ty) (fun y => y)]; exact hU.rr
    have i0 : z_I σ2 301 K.R = 0 := by rw [w2.I _ _ (nn_s hc.ty) (fun y => y)]; exact hW.f
    have i4 : z_I σ2 504 U.ro = z_I σ1 504 U.ro := w2.I _ _ hro (fun y => y)
    -- at the end
    have fail : ∀ (e : ft_T) (σ3 : z_S), ltl t ls nm A lt q = .error e → cF K.R e σ3 → nf (lFs K.R b U.ro K.P) (nT tb K.na K.ta) σ2 σ3 → X199 b 0 σ3 := fun e σ3 he hF f3 => h199 _ _ _ ⟨hF.1, U.ro, by rw [f3.R]; exact r6, by rw [f3.ty]; exact hl2.ty, lit_fail hW hU hl5 hb htb w2 ha2.ty f3 hF _ (fun σ4 hF4 w4 => ⟨Or.inl rfl, h2 e σ4 he hF4 (lft w4)⟩)⟩
    have done : ∀ (r : lr_T) (p' n : Nat) (σ3 : z_S), ltl t ls nm A lt q = .ok r → nxt t p' = r.q → rW t K p' r.nm r.A σ3 → nf (lFs K.R b U.ro K.P) (nT tb K.na K.ta) σ2 σ3 → at_L σ3 b r.l n → (r.l.1 = 0 → n = r.A.getD r.l.2.1 3) → lt_L σ3 U.ro r.lt → z_I σ3 504 U.ro = z_I σ2 504 U.ro → X199 b 1 σ3 := fun r p' n σ3 he hq3 hW3 f3 hat hn3 hl3 h43 => by
      obtain ⟨hR, _⟩ := ltl_ok hpq hn hU.l.n6 he
      exact h199 _ _ _ ⟨hW3.c.ty, U.ro, by rw [f3.R]; exact r6, hl3.ty, lit_done hW hU hl5 hb htb w2 f3 (by rw [h43, i4]) hat hR.k.lit.2.2.2.2 hn3 hl3 hW3 (exA_3 hn hR.ok hR.ex hLK) _ (fun bo' σ4 hW4 hU4 hf4 => ⟨Or.inr rfl, h1 r p' bo' σ4 he hq3 hW4 hU4 (lft hf4)⟩)⟩
    -- a literal with a name
    have named : ∀ (k p3 q3 : Nat) (σ3 : z_S), k ≤ 1 → (∀ x, nmd t k nm A lt q3 = x → ltl t ls nm A lt q = x) → nxt t p3 = q3 → p3 ≤ t.n → cR t K.R K.tx p3 σ3 → z_I σ3 2 b = nI k → aW σ3 b tb [] → pS σ3 K.P K.na K.ta nm A → lt_L σ3 U.ro lt → z_I σ3 301 K.R = 0 → z_I σ3 504 U.ro = z_I σ2 504 U.ro → nf (lFs K.R b U.ro K.P) (nT tb K.na K.ta) σ2 σ3 → X182 b σ3 := fun k p3 q3 σ3 hk hx hq3 hp3' hc3 hk3 ha3 hS3 hl3 hf3 h43 f3 => by
      refine h182 _ _ ⟨hc3.ty, ?_⟩
      refine cl_named hok (hd := false) hc3 hp3' hq3 (by rw [f3.R]; exact r3) (by rw [f3.R]; exact r6) hS3 hn hl3 ha3 (fun y => by cases y) _ (fun g p' σ4 hg hp4 hq4 hc4 hS4 hl4 ha4 hb4 h44 h14 _ f4 => ⟨fun y => absurd y (by decide), fun _ => ?_⟩) (fun e σ4 hg hF f4 => ⟨fun _ => fail e σ4 (hx _ (by unfold nmd; rw [hg])) hF (nf_tr f3 (nf_mo f4 (fun x hx => List.mem_cons_of_mem _ hx) (fun x hx => hx))), fun y => absurd rfl y⟩)
      have hR := atm_ok (L0 := fun k => lt k = true) hn (fun k _ => Iff.rfl) hU.l.n6 hg
      have hcf : g.c = false := by
        cases hcc : g.c with
        | false => rfl
        | true => exact absurd (hR.m hcc).1 (by decide)
      refine done ⟨(k, g.i, tm3 g.l), g.nm, g.A, g.lt, g.q⟩ p' g.l.length σ4 (hx _ (by unfold nmd; rw [hg])) hq4 ⟨hc4, hp4, by rw [h14]; exact hf3, by rw [f4.R, f3.R]; exact r3, hS4⟩ (nf_tr f3 (nf_mo f4 (fun x hx => List.mem_cons_of_mem _ hx) (fun x hx => hx))) (at_of ha4 hR.n1 (by
        have hbP : b ≠ K.R := hbR
        rw [f4.I _ _ (by simp [nF])]; exact hk3) (by omega) (fun _ => ⟨hb4, hR.i.2⟩) (fun y => by omega) (tOK_3 (hR.p hcf)).1) (fun _ => ?_) hl4 (by rw [h44]; exact h43)
      show g.l.length = g.A.getD g.i 3
      rw [gd03 (by rw [hR.ok.al]; exact hR.i.1)]
      exact hR.a.symm
    refine ⟨fun y => ?_, fun y => ?_⟩
    · -- a name, or one that must not hold
      have hNm : (97 ≤ sg t q ∧ sg t q ≤ 122) ∨ sg t q = 126 := hv2.elim (fun w => w.2) (fun w => by rw [w.1] at y; cases y)
      rw [show (126 : Int32) = nI 126 from rfl, sI_eq hs (by decide)]
      have hW2 : rW t K q nm A σ2 := ⟨hc2, hpq.1, i0, r3, hS2⟩
      refine ⟨fun w => h164 _ _ _ _ _ ⟨ha2.ty, fun σ3 e3 => ?_⟩, fun w => h164 _ _ _ _ _ ⟨ha2.ty, fun σ3 e3 => ?_⟩⟩
      · have f3 : nf [(2, b)] [] σ2 σ3 := by rw [e3]; exact nf_sI (by simp)
        have hN : 97 ≤ sg t q ∧ sg t q ≤ 122 := hNm.elim id (fun v => absurd v w)
        rw [show (126 : Int32) = nI 126 from rfl, sI_eq hs (by decide)]
        exact ⟨fun _ => named 0 q q σ3 (by decide) (fun x hx => by unfold ltl; rw [if_pos hany, if_neg hroom, if_pos hN]; exact hx) (nxt_fix t hpq) hpq.1 (cR_f hc2 f3 (by simp) (by simp) (by simp)) (by rw [e3, z_I_sI, if_pos ⟨rfl, rfl⟩]; rfl) (aW_f ha2 f3 (by simp) (by simp) (by simp)) (pS_f hS2 f3 (by simp) (by simp) (by simp)) (lt_L_f hl2 f3 (by simp) (by simp)) (by rw [f3.I _ _ (by simp)]; exact i0) (f3.I _ _ (by simp)) (nf_mo f3 (by simp [lFs]) (by simp)), fun v => absurd v w⟩
      · have f3 : nf [(2, b)] [] σ2 σ3 := by rw [e3]; exact nf_sI (by simp)
        rw [show (126 : Int32) = nI 126 from rfl, sI_eq hs (by decide)]
        refine ⟨fun v => absurd w v, fun _ => ?_⟩
        have hc3 := cR_f hc2 f3 (by simp) (by simp) (by simp)
        have hno : ¬ (97 ≤ sg t q ∧ sg t q ≤ 122) := by omega
        refine ⟨hc3.ty, cl_takes hok hc3 hpq.1 (nxt_fix t hpq) (s := 126) (by decide) _ (fun q4 p4 σ4 ht hp4 hq4 hc4 e4 => ⟨fun v => absurd v (by decide), fun _ => ?_⟩) (fun e σ4 ht _ _ => ?_)⟩
        · have eq4 : q4 = nxt t (q + 1) := by
            unfold tak at ht
            rw [if_pos w] at ht
            exact (Except.ok.inj ht).symm
          have f4 : nf [(2, b), (305, K.R)] [] σ2 σ4 := nf_tr (nf_mo f3 (by simp) (by simp)) (nf_5 e4 (by simp))
          exact named 1 p4 q4 σ4 (by decide) (fun x hx => by unfold ltl; rw [if_pos hany, if_neg hroom, if_neg hno, if_pos w, ← eq4]; exact hx) hq4 hp4 hc4 (by rw [e4.I _ _ (by omega), e3, z_I_sI, if_pos ⟨rfl, rfl⟩]; rfl) (aW_f ha2 f4 (by simp) (by simp) (by simp)) (pS_f hS2 f4 (by simp) (by simp) (by simp)) (lt_L_f hl2 f4 (by simp) (by simp)) (by rw [f4.I _ _ (by simp)]; exact i0) (f4.I _ _ (by simp)) (nf_mo f4 (by simp [lFs, nF]) (by simp))
        · unfold tak at ht
          rw [if_pos w] at ht
          cases ht
    · -- a condition
      have hC : (65 ≤ sg t q ∧ sg t q ≤ 90) ∨ (48 ≤ sg t q ∧ sg t q ≤ 57) := hv2.elim (fun w => absurd w.1 y) (fun w => w.2)
      have hlt : ∀ x, cnd t nm A lt q = x → ltl t ls nm A lt q = x := fun x hx => by
        unfold ltl
        rw [if_pos hany, if_neg hroom, if_neg (by omega), if_neg (by omega)]
        exact hx
      refine ⟨ha2.ty, fun σ3 e3 => ?_⟩
      have f3 : nf [(2, b)] [] σ2 σ3 := by rw [e3]; exact nf_sI (by simp)
      have hc3 := cR_f hc2 f3 (by simp) (by simp) (by simp)
      have k3 : z_I σ3 2 b = nI 2 := by rw [e3, z_I_sI, if_pos ⟨rfl, rfl⟩]; rfl
      refine ⟨hc3.ty, ?_⟩
      refine cl_term hok (hd := false) hc3 hpq.1 (nxt_fix t hpq) (by rw [f3.R]; exact r6) (lt_L_f hl2 f3 (by simp) (by simp)) (aW_f ha2 f3 (by simp) (by simp) (by simp)) (show ([] : List Nat).length < 3 by decide) _ (fun r p4 σ4 hno hT hp4 hq4 hc4 hl4 ha4 f4 j1 j4 => ⟨fun v => absurd v (by decide), fun _ => ⟨hc4.ty, ?_⟩⟩) (fun p4 σ4 hy => absurd hy.1 (by decide)) (fun e σ4 hno hT hF f4 => ⟨fun _ => fail e σ4 (hlt _ (by unfold cnd; rw [hT])) hF (nf_tr (nf_mo f3 (by simp [lFs]) (by simp)) (nf_mo f4 (by simp [lFs, nF, tF]) (by simp [nT]))), fun v => absurd rfl v⟩)
      have F4 : nf (lFs K.R b U.ro K.P) (nT tb K.na K.ta) σ2 σ4 := nf_tr (nf_mo f3 (by simp [lFs]) (by simp)) (nf_mo f4 (by simp [lFs, nF, tF]) (by simp [nT]))
      have hcnd : ∀ x, (if sg t r.q = 60 ∨ sg t r.q = 61 ∨ sg t r.q = 33 then (match trm t r.lt (nxt t (r.q + 1)) with | Except.error e => (Except.error e : Except ft_T lr_T) | Except.ok r2 => Except.ok ⟨(2, sg t r.q, tm3 [r.x, r2.x]), nm, A, r2.lt, r2.q⟩) else Except.error (1, r.q)) = x → ltl t ls nm A lt q = x := fun x hx => hlt _ (by unfold cnd; rw [hT]; exact hx)
      refine cl_operator hok hc4 hp4 hq4 ha4.ty _ (fun σ5 hop hq5 hc5 hb5 f5 => ⟨fun v => absurd v (by decide), fun _ => ⟨hc5.ty, ?_⟩⟩) (fun σ5 hop hF f5 => ⟨fun _ => fail _ σ5 (hcnd _ (if_neg hop)) hF (nf_tr F4 (nf_mo f5 (by simp [lFs, nF]) (by simp))), fun v => absurd rfl v⟩)
      have F5 : nf (lFs K.R b U.ro K.P) (nT tb K.na K.ta) σ2 σ5 := nf_tr F4 (nf_mo f5 (by simp [lFs, nF]) (by simp))
      refine cl_term hok (hd := false) hc5 hq5 rfl (by rw [F5.R]; exact r6) (lt_L_f hl4 f5 (by simp) (by simp)) (aW_f ha4 f5 (by simp) (by simp) (by simp)) (show 1 < 3 by decide) _ (fun r2 p6 σ6 hno6 hT6 hp6 hq6 hc6 hl6 ha6 f6 k1 k4 => ⟨fun v => absurd v (by decide), fun _ => ?_⟩) (fun p6 σ6 hy => absurd hy.1 (by decide)) (fun e σ6 hno6 hT6 hF f6 => ⟨fun _ => fail e σ6 (hcnd _ (by rw [if_pos hop, hT6])) hF (nf_tr F5 (nf_mo f6 (by simp [lFs, nF, tF]) (by simp [nT]))), fun v => absurd rfl v⟩)
      have F6 : nf (lFs K.R b U.ro K.P) (nT tb K.na K.ta) σ2 σ6 := nf_tr F5 (nf_mo f6 (by simp [lFs, nF, tF]) (by simp [nT]))
      have t1 := (trm_ok hpq hT).1
      have t2 := (trm_ok (nxt_plc t hq5) hT6).1
      have hall : tm3_ok (tm3 [r.x, r2.x]) := (tOK_3 (l := [r.x, r2.x]) (fun x hx => by
        rcases List.mem_cons.mp hx with v | v
        · rw [v]; exact t1
        · rw [List.mem_singleton.mp v]; exact t2)).1
      refine done ⟨(2, sg t r.q, tm3 [r.x, r2.x]), nm, A, r2.lt, r2.q⟩ p6 2 σ6 (hcnd _ (by rw [if_pos hop, hT6])) hq6 ⟨hc6, hp6, by rw [k1, f5.I _ _ (by simp), j1, f3.I _ _ (by simp)]; exact i0, by rw [F6.R]; exact r3, pS_f (pS_f (pS_f (pS_f hS2 f3 (by simp) (by simp) (by simp)) f4 (by simp [tF]) (by simp) (by simp)) f5 (by simp) (by simp) (by simp)) f6 (by simp [tF]) (by simp) (by simp)⟩ F6 (at_of ha6 (show 1 ≤ 2 by decide) (by rw [f6.I _ _ (by simp [tF]), f5.I _ _ (by simp), f4.I _ _ (by simp [tF])]; exact k3) (by decide) (fun v => absurd v (by decide)) (fun _ => ⟨by rw [f6.I _ _ (by simp [tF])]; exact hb5, by omega, rfl⟩) hall) (fun v => absurd (show 2 = 0 from v) (by decide)) hl6 (by rw [k4, f5.I _ _ (by simp), j4, f3.I _ _ (by simp)])
  -- which kind
  have x48 : ∀ v2 : Int32, ((97 ≤ sg t q ∧ sg t q ≤ 122) ∨ sg t q = 126 ∨ (65 ≤ sg t q ∧ sg t q ≤ 90) ∨ (48 ≤ sg t q ∧ sg t q ≤ 57)) → ((v2 = 0 ∧ ((97 ≤ sg t q ∧ sg t q ≤ 122) ∨ sg t q = 126)) ∨ (v2 = 1 ∧ ((65 ≤ sg t q ∧ sg t q ≤ 90) ∨ (48 ≤ sg t q ∧ sg t q ≤ 57)))) → X48 (sI (sg t q)) v2 σ1 := fun v2 hany hv2 => by
    refine h48 _ _ _ (cl_name hs _ (fun hN => ⟨fun v => absurd v (by decide), fun _ => ⟨hc.ty, U.ro, hU.rr, hU.l.ty, ?_⟩⟩) (fun hN => ⟨fun _ => x71 v2 0 hany hv2 ⟨fun _ w => hN w.1, fun _ => rfl⟩, fun v => absurd rfl v⟩))
    rw [hU.ps, show (3 : Int32) = nI 3 from rfl, nI_ltI (by omega) (by decide)]
    exact ⟨fun v => x71 v2 0 hany hv2 ⟨(fun _ w => by omega), fun _ => rfl⟩, fun v => x71 v2 1 hany hv2 ⟨(fun w => absurd w (by decide)), fun w => absurd ⟨hN, by omega⟩ w⟩⟩
  have x24c : (65 ≤ sg t q ∧ sg t q ≤ 90) ∨ (48 ≤ sg t q ∧ sg t q ≤ 57) → X24 (sI (sg t q)) 1 σ1 := fun hC => h24 _ _ _ ⟨fun _ => x48 1 (Or.inr (Or.inr hC)) (Or.inr ⟨rfl, hC⟩), fun v => absurd v (by decide)⟩
  refine cl_variable hs _ (fun hv => ⟨fun _ => x24c (Or.inl hv), fun v => absurd v (by decide)⟩) (fun hv => ⟨fun v => absurd rfl v, fun _ => ?_⟩)
  refine cl_digit hs _ (fun hd => ⟨fun v => absurd v (by decide), fun _ => x24c (Or.inr hd)⟩) (fun hd => ⟨fun _ => ?_, fun v => absurd rfl v⟩)
  refine h24 _ _ _ ⟨fun v => absurd rfl v, fun _ => cl_name hs _ (fun hN => ⟨fun _ => x48 0 (Or.inl hN) (Or.inl ⟨rfl, Or.inl hN⟩), fun v => absurd v (by decide)⟩) (fun hN => ⟨fun v => absurd rfl v, fun _ => ?_⟩)⟩
  rw [show (126 : Int32) = nI 126 from rfl, sI_eq hs (by decide)]
  exact ⟨fun w => x48 0 (Or.inr (Or.inl w)) (Or.inl ⟨rfl, Or.inr w⟩), fun w => ⟨hc.ty, bad 1 (by unfold ltl; rw [if_neg (fun u => u.elim hN (fun u => u.elim w (fun u => u.elim hv hd)))])⟩⟩
