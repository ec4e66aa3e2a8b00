def qf (σ σ1 : z_S) : Prop := (∀ a, z_ty σ1 a = z_ty σ a) ∧ (∀ f a, z_R σ1 f a = z_R σ f a) ∧ (∀ t a, z_Q σ1 t a = z_Q σ t a) ∧ (∀ f a, f ≠ 603 → (f < 701 ∨ 710 < f) → z_I σ1 f a = z_I σ f a) ∧ (∀ t a, (t < 15 ∨ 19 < t) → z_A σ1 t a = z_A σ t a)
theorem qf.ty {σ σ1 : z_S} (h' : qf σ σ1) : ∀ a, z_ty σ1 a = z_ty σ a := h'.1
theorem qf.R {σ σ1 : z_S} (h' : qf σ σ1) : ∀ f a, z_R σ1 f a = z_R σ f a := h'.2.1
theorem qf.Q {σ σ1 : z_S} (h' : qf σ σ1) : ∀ t a, z_Q σ1 t a = z_Q σ t a := h'.2.2.1
theorem qf.I {σ σ1 : z_S} (h' : qf σ σ1) : ∀ f a, f ≠ 603 → (f < 701 ∨ 710 < f) → z_I σ1 f a = z_I σ f a := h'.2.2.2.1
theorem qf.A {σ σ1 : z_S} (h' : qf σ σ1) : ∀ t a, (t < 15 ∨ 19 < t) → z_A σ1 t a = z_A σ t a := h'.2.2.2.2
theorem qf_req {m : Nat} {σ σ1 : z_S} (q : qf σ σ1) : req m σ σ1 := ⟨fun a _ => q.ty a, fun f _ => q.R f m, fun f hf => q.I f m (by omega) (by omega), fun t a ht _ => q.A t a (by omega)⟩
theorem qf_peq {σ σ1 : z_S} (q : qf σ σ1) : peq σ σ1 := ⟨fun a _ => q.ty a, fun f a _ _ => q.R f a, fun t a _ _ => q.Q t a, fun f a _ hf => q.I f a (by omega) (by omega), fun t a _ ht => q.A t a (by omega)⟩
theorem ro_L_q {σ σ' : z_S} (h : qf σ σ') {b k c : Nat} {l : al_T} (hL : ro_L σ b k c l) : ro_L σ' b k c l := by
  obtain ⟨⟨a1, a2, a3, a4, a5⟩, h2, h3, h4, h5, h6⟩ := hL
  exact ⟨⟨by rw [h.ty]; exact a1, by rw [h.R]; exact a2, by rw [h.R]; exact a3, by rw [h.ty]; exact a4, by rw [h.ty]; exact a5⟩, by rw [h.I 402 _ (by omega) (by omega)]; exact h2, h3, h4, h5, fun i hi => by rw [h.A 12 _ (by omega), h.A 13 _ (by omega)]; exact h6 i hi⟩
theorem rw_T_q {σ σ' : z_S} (h : qf σ σ') {X : ex_T} (hR : rw_T X σ) : rw_T X σ' := ⟨by rw [h.ty]; exact hR.tw, fun i hi => by rw [h.Q]; exact hR.qw i hi, fun i hi => by
  obtain ⟨a1, a2, a3, a4, a5⟩ := hR.ro i hi
  exact ⟨by rw [h.ty]; exact a1, by rw [h.R]; exact a2, by rw [h.R]; exact a3, by rw [h.ty]; exact a4, by rw [h.ty]; exact a5⟩, hR.ia, hR.ik, hR.ic⟩
theorem rw_L_q {σ σ' : z_S} (h : qf σ σ') {X : ex_T} {T : Nat → al_T} (hR : rw_L X σ T) : rw_L X σ' T := ⟨rw_T_q h hR.1, fun i hi => ro_L_q h (hR.2 i hi)⟩
theorem en_T_q {σ σ' : z_S} (h : qf σ σ') {X : ex_T} (e : en_T X σ) : en_T X σ' := ⟨by rw [h.ty]; exact e.ty, by rw [h.R]; exact e.rl, by rw [h.ty]; exact e.tl, by rw [h.R]; exact e.rv, by rw [h.ty]; exact e.tv, by rw [h.R]; exact e.rq, by rw [h.ty]; exact e.tq, by rw [h.R]; exact e.rk, by rw [h.ty]; exact e.tk⟩
theorem si_T_q {σ σ' : z_S} (h : qf σ σ') {a r k s n : Nat} (e : si_T σ a r k s n) : si_T σ' a r k s n := by
  obtain ⟨h1, h2, h3, h4, h5, h6, h7⟩ := e
  exact ⟨by rw [h.ty]; exact h1, by rw [h.R]; exact h2, by rw [h.R]; exact h3, by rw [h.R]; exact h4, by rw [h.ty]; exact h5, by rw [h.ty]; exact h6, by rw [h.ty]; exact h7⟩
theorem CI_mk {V : vc_T} {a a1 : ab_T} {σ σ1 : z_S} (h : CI V a σ) (q : qf σ σ1) (n0 : z_I σ1 701 V.x = nI a1.tn) (n6 : txo a1.tn a1.tt) (tt : ∀ i, i < a1.tn → z_A σ1 18 V.tx i = a1.tt i) (pl : z_I σ1 702 V.x = a1.pl) (n4 : z_I σ1 704 V.x = nI a1.rg.length) (g8 : a1.rg.length ≤ 8) (gg : ∀ i, i < a1.rg.length → z_A σ1 19 V.rg i = nI (a1.rg.getD i 0)) (ds : z_I σ1 710 V.x = nI a1.hs.length) (h6 : a1.hs.length ≤ 6) (sl : si_L σ1 (V.O 7) (V.R 7) (V.K 7) (V.S 7) 640 a1.dl) (su : si_L σ1 (V.O V.uw) (V.R V.uw) (V.K V.uw) (V.S V.uw) 60 a1.cs) (sd : ∀ i, i < a1.hs.length → si_L σ1 (V.O (V.dd i)) (V.R (V.dd i)) (V.K (V.dd i)) (V.S (V.dd i)) 60 (a1.hs.getD i [])) (pg : if a1.on then prg V a1 σ1 else non V a1 σ1) : CI V a1 σ1 :=
  ⟨by rw [q.ty]; exact h.ty, by rw [q.R]; exact h.r0, by rw [q.ty]; exact h.t0, n0, n6, tt, pl, by rw [q.R]; exact h.r3, by rw [q.ty]; exact h.t3, n4, g8, gg, by rw [q.R]; exact h.rn, by rw [q.R]; exact h.rm, by rw [q.R]; exact h.ru, by rw [q.R]; exact h.rd, by rw [q.ty]; exact h.td, fun i hi => by rw [q.Q]; exact h.qd i hi, ds, h6, by rw [q.R]; exact h.rl, by rw [q.R]; exact h.re, en_T_q q h.en, en_T_q q h.eN, h.ea, rw_T_q q h.Mt, h.da, h.dk, h.dc, fun i hi => si_T_q q (h.st i hi), sl, h.iO, h.iR, h.iK, h.iS, h.uw, h.id, su, sd, pg⟩
theorem prg_q {V : vc_T} {a a1 : ab_T} {σ σ1 : z_S} (h : prg V a σ) (q : qf σ σ1) (e1 : a1.G = a.G) (e2 : a1.nm = a.nm) (e3 : a1.rc = a.rc) (e4 : a1.T = a.T) (hc : ch_ok a.G a1.cs) (hh : ∀ x ∈ a1.hs, ch_ok a.G x) (hl : LC a.G a.T a1.hs.reverse) : prg V a1 σ1 := by
  obtain ⟨tn, tt, pl, rg, on, G, nm, rc, T, cs, hs, dl⟩ := a1
  obtain ⟨tn', tt', pl', rg', on', G', nm', rc', T', cs', hs', dl'⟩ := a
  have e1 : G = G' := e1
  have e2 : nm = nm' := e2
  have e3 : rc = rc' := e3
  have e4 : T = T' := e4
  subst e1 e2 e3 e4
  have px := px_L_p (nn_s h.pr.ty) h.px (qf_peq q)
  exact ⟨by rw [q.R]; exact h.rp, pr_L_p h.pr (qf_peq q), ⟨px.nr, px.nt, px.nv, px.tr, px.tt, px.tv, px.rr, px.rt, px.rv, px.cv, px.lt⟩, h.ok, h.ln, h.tm, h.r1, h.a1, h.nl, h.nb, h.un, h.gd, rw_L_q q h.N, fun v h1 h2 => by
    obtain ⟨l, h3, h4⟩ := h.Mg v h1 h2
    exact ⟨l, ro_L_q q h3, h4⟩, hc, hh, hl⟩
theorem non_q {V : vc_T} {a a1 : ab_T} {σ σ1 : z_S} (h : non V a σ) (q : qf σ σ1) (e1 : a1.cs = []) (e2 : a1.hs = []) (e3 : a1.dl = []) : non V a1 σ1 := ⟨by rw [q.R]; exact h.rp, by rw [q.ty]; exact h.ty, by rw [q.I 201 _ (by omega) (by omega)]; exact h.i1, by rw [q.I 206 _ (by omega) (by omega)]; exact h.i6, by rw [q.I 207 _ (by omega) (by omega)]; exact h.i7, by
  obtain ⟨T, h1, h2⟩ := h.N
  exact ⟨T, rw_L_q q h1, h2⟩, e1, e2, e3⟩
/-- one object of changes written -/
theorem sf_q {a r k s : Nat} {σ σ1 : z_S} (h : sf a r k s σ σ1) : qf σ σ1 := ⟨h.ty, h.R, h.Q, fun f b h1 h2 => h.I f b (fun z => absurd z h1), fun t b ht => h.A t b (fun z => by omega) (fun z => by omega) (fun z => by omega)⟩
theorem si_L_sf {a r k s : Nat} {σ σ1 : z_S} (h : sf a r k s σ σ1) {a' r' k' s' n : Nat} {l : sl_T} (ha : a' ≠ a) (hr : r' ≠ r) (hk : k' ≠ k) (hs : s' ≠ s) (e : si_L σ a' r' k' s' n l) : si_L σ1 a' r' k' s' n l := by
  obtain ⟨h1, h2, h3, h4⟩ := e
  refine ⟨si_T_q (sf_q h) h1, by rw [h.I 603 _ (fun _ => ha)]; exact h2, h3, fun i hi => ?_⟩
  rw [h.A 15 _ (fun _ => hr) (fun z => by omega) (fun z => by omega), h.A 16 _ (fun z => by omega) (fun _ => hk) (fun z => by omega), h.A 17 _ (fun z => by omega) (fun z => by omega) (fun _ => hs)]
  exact h4 i hi
/-- the changes under way -/
abbrev acs (a : ab_T) (cs : sl_T) : ab_T := ⟨a.tn, a.tt, a.pl, a.rg, a.on, a.G, a.nm, a.rc, a.T, cs, a.hs, a.dl⟩
theorem CI_uw {V : vc_T} {a : ab_T} {σ σ1 : z_S} (h : CI V a σ) (hs : sf (V.O V.uw) (V.R V.uw) (V.K V.uw) (V.S V.uw) σ σ1) {cs : sl_T} (hb : a.on = true) (hL : si_L σ1 (V.O V.uw) (V.R V.uw) (V.K V.uw) (V.S V.uw) 60 cs) (hc : ch_ok a.G cs) : CI V (acs a cs) σ1 := by
  have u7 := h.uw.1
  have hp := CI_prg h hb
  have oth : ∀ {i : Nat} {n : Nat} {l : sl_T}, i < 8 → i ≠ V.uw → si_L σ (V.O i) (V.R i) (V.K i) (V.S i) n l → si_L σ1 (V.O i) (V.R i) (V.K i) (V.S i) n l := fun {i n l} hi hne e => si_L_sf hs (fun z => hne (h.iO i V.uw hi (by omega) z)) (fun z => hne (h.iR i V.uw hi (by omega) z)) (fun z => hne (h.iK i V.uw hi (by omega) z)) (fun z => hne (h.iS i V.uw hi (by omega) z)) e
  refine CI_mk h (sf_q hs) ?_ h.n6 (fun i hi => ?_) ?_ ?_ h.g8 (fun i hi => ?_) ?_ h.h6 (oth (by omega) (by omega) h.sl) hL (fun i hi => ?_) ?_
  · rw [hs.I 701 _ (fun z => by omega)]; exact h.n0
  · rw [hs.A 18 _ (fun z => by omega) (fun z => by omega) (fun z => by omega)]; exact h.tt i hi
  · rw [hs.I 702 _ (fun z => by omega)]; exact h.pl
  · rw [hs.I 704 _ (fun z => by omega)]; exact h.n4
  · rw [hs.A 19 _ (fun z => by omega) (fun z => by omega) (fun z => by omega)]; exact h.gg i hi
  · rw [hs.I 710 _ (fun z => by omega)]; exact h.ds
  · have h6 := h.h6
    have hi : i < a.hs.length := hi
    have := h.uw.2 i (by omega)
    exact oth (by omega) this.2 (h.sd i hi)
  · show if a.on then prg V (acs a cs) σ1 else _
    rw [if_pos hb]
    exact prg_q hp (sf_q hs) rfl rfl rfl rfl hc hp.hc hp.lc
theorem RR_fr {a a1 : ab_T} {μ μ1 : mo_U} (h : RR a μ) : True := trivial
theorem op_drop : st_drop IN := by
  rintro x m σ P ⟨V, a, ma, rfl, hC, hT, hm, hR⟩ hP
  refine ⟨hC.ty, hC.ty, ?_⟩
  refine vr_noRules hC _ (fun hb => ⟨fun _ => ?_, fun q => absurd rfl q⟩) (fun hb => ⟨fun q => absurd q (by decide), fun _ => ?_⟩)
  · have hp := CI_prg hC hb
    obtain ⟨T', hO⟩ := RR_on hR hb
    have hs := hC.su
    refine ⟨hC.ty, V.O V.uw, hC.ru, hs.1.1, hC.ty, V.O V.uw, hC.ru, hs.1.1, fun σ1 e1 => ?_⟩
    have hsf : sf (V.O V.uw) (V.R V.uw) (V.K V.uw) (V.S V.uw) σ σ1 := by
      rw [e1]
      exact ⟨fun _ => rfl, fun _ _ => rfl, fun _ _ => rfl, fun f b h1 => by rw [z_I_sI, if_neg (fun z => h1 z.1 z.2)], fun _ _ _ _ _ => rfl⟩
    have hL : si_L σ1 (V.O V.uw) (V.R V.uw) (V.K V.uw) (V.S V.uw) 60 [] := by
      rw [e1]
      exact ⟨hs.1, by rw [z_I_sI, if_pos ⟨rfl, rfl⟩]; rfl, Nat.zero_le _, fun i hi => absurd hi (Nat.not_lt_zero i)⟩
    have hC1 := CI_uw hC hsf hb hL ⟨fun c hc => absurd hc List.not_mem_nil, fun c hc => absurd hc List.not_mem_nil, fun c hc => absurd hc List.not_mem_nil, Nat.zero_le _⟩
    have hrq : req m σ σ1 := qf_req (sf_q hsf)
    have hT1 := mo_T_req hT hrq
    have hR1 := RR_req hT hrq hR
    refine hP _ σ1 (mo_ty0 hT1) (fun P2 h2 => ?_)
    rw [← mu_put σ1 m ma]
    refine mq_drop hT1 _ _ P2 (fin_op hC1 hT1 hm h2) ⟨fun _ μ2 e2 => ⟨?_, ?_, ?_⟩, fun q => ?_⟩
    · obtain ⟨T1, hO1⟩ := RR_on hR1 hb
      rw [hO1.b.1, hs.2.1]
    · obtain ⟨T1, hO1⟩ := RR_on hR1 hb
      have hf : mo_fr [] [831] (mu_of σ1 m ma) μ2 := by rw [e2]; exact mo_fr_I (by decide)
      have hA : ∀ t, μ2.2 t = (mu_of σ1 m ma).2 t := fun t => by rw [e2]; rfl
      have hI : ∀ f, f ≠ 831 → μ2.1 f = (mu_of σ1 m ma).1 f := fun f hf' => by rw [e2, mu_I_sI, if_neg hf']
      refine ⟨by rw [hI 801 (by decide)]; exact hR1.n0, fun i hi => by rw [hA]; exact hR1.tt i hi, by rw [hI 807 (by decide)]; exact hR1.pl, ?_, ?_, ?_⟩
      · rw [hI 806 (by decide), hI 849 (by decide), hA]; exact hR1.rg
      · obtain ⟨R, N, hM⟩ := hR1.mm
        exact ⟨R, N, mo_M_fr hM hf (by decide) (by decide) (by decide)⟩
      · show if a.on then _ else _
        rw [if_pos hb]
        refine ⟨⟨T1, ⟨?_, hO1.t.t8, rf_L_fr hO1.t.g hf (by decide) (by decide)⟩, hO1.e, hO1.p⟩, fun k hk => by rw [hA, hA]; exact hO1.n k hk, fun i hi k hk => by rw [hA]; exact hO1.l i hi k hk, fun i j h1 h2 => by rw [hA]; exact hO1.r i j h1 h2, ⟨by rw [e2, mu_I_sI, if_pos rfl]; rfl, fun i hi => absurd hi (Nat.not_lt_zero i)⟩, ⟨by rw [hI 834 (by decide)]; exact hO1.h.1, fun i hi => by rw [hA, hA]; exact hO1.h.2 i hi⟩, by rw [hI 836 (by decide)]; exact hO1.d.1, hO1.d.2.1, by rw [hA]; exact hO1.d.2.2⟩
        obtain ⟨R, N, hW⟩ := hO1.t.w
        exact ⟨R, N, mo_W_fr hW hf (by decide) (by decide) (by decide)⟩
    · rw [e2]
      exact lowf_fr (mo_fr_I (ts := []) (fs := [831]) (by decide)) (by decide) (by decide)
    · obtain ⟨T1, hO1⟩ := RR_on hR1 hb
      exact absurd q (RO_808 hp hO1)
  · refine hP (-4) σ (mo_ty0 hT) (fun P2 h2 => ?_)
    rw [← mu_put σ m ma]
    exact mq_drop hT _ _ P2 (fin_op hC hT hm h2) ⟨fun q => absurd (RR_off hR hb).1 q, fun _ => ⟨rfl, hR, lowf_rf _⟩⟩
