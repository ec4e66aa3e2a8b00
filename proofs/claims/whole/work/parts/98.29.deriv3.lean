def ee (σ σ1 : z_S) : Prop := (∀ a, z_ty σ1 a = z_ty σ a) ∧ (∀ f a, (f < 109 ∨ 111 < f) → z_R σ1 f a = z_R σ f a) ∧ (∀ t a, z_Q σ1 t a = z_Q σ t a) ∧ (∀ f a, (f < 104 ∨ 108 < f) → f ≠ 402 → z_I σ1 f a = z_I σ f a) ∧ (∀ t a, (t < 2 ∨ 5 < t) → t ≠ 12 → t ≠ 13 → z_A σ1 t a = z_A σ t a)
theorem ee.ty {σ σ1 : z_S} (h' : ee σ σ1) : ∀ a, z_ty σ1 a = z_ty σ a := h'.1
theorem ee.R {σ σ1 : z_S} (h' : ee σ σ1) : ∀ f a, (f < 109 ∨ 111 < f) → z_R σ1 f a = z_R σ f a := h'.2.1
theorem ee.Q {σ σ1 : z_S} (h' : ee σ σ1) : ∀ t a, z_Q σ1 t a = z_Q σ t a := h'.2.2.1
theorem ee.I {σ σ1 : z_S} (h' : ee σ σ1) : ∀ f a, (f < 104 ∨ 108 < f) → f ≠ 402 → z_I σ1 f a = z_I σ f a := h'.2.2.2.1
theorem ee.A {σ σ1 : z_S} (h' : ee σ σ1) : ∀ t a, (t < 2 ∨ 5 < t) → t ≠ 12 → t ≠ 13 → z_A σ1 t a = z_A σ t a := h'.2.2.2.2
theorem ee_ef {X : ex_T} {σ σ1 : z_S} (f : ef X σ σ1) : ee σ σ1 := ⟨f.1, fun g a h => f.2.1 g a h, f.2.2.1, fun g a h1 h2 => f.2.2.2.1 g a h1 (fun z => absurd z h2), fun t a h1 h2 h3 => f.2.2.2.2 t a h1 (fun z => absurd z h2) (fun z => absurd z h3)⟩
theorem ee_req {m : Nat} {σ σ1 : z_S} (q : ee σ σ1) : req m σ σ1 := ⟨fun a _ => q.ty a, fun f _ => q.R f m (by omega), fun f hf => q.I f m (by omega) (by omega), fun t a ht _ => q.A t a (by omega) (by omega) (by omega)⟩
theorem ee_peq {σ σ1 : z_S} (q : ee σ σ1) : peq σ σ1 := ⟨fun a _ => q.ty a, fun f a _ hf => q.R f a (by omega), fun t a _ _ => q.Q t a, fun f a _ hf => q.I f a (by omega) (by omega), fun t a _ ht => q.A t a (by omega) (by omega) (by omega)⟩
theorem rw_T_e {σ σ' : z_S} (h : ee σ σ') {X : ex_T} (hR : rw_T X σ) : rw_T X σ' := ⟨by rw [h.ty]; exact hR.tw, fun i hi => by rw [h.Q]; exact hR.qw i hi, fun i hi => by
  obtain ⟨a1, a2, a3, a4, a5⟩ := hR.ro i hi
  exact ⟨by rw [h.ty]; exact a1, by rw [h.R 400 _ (by omega)]; exact a2, by rw [h.R 401 _ (by omega)]; exact a3, by rw [h.ty]; exact a4, by rw [h.ty]; exact a5⟩, hR.ia, hR.ik, hR.ic⟩
theorem en_T_e {σ σ' : z_S} (h : ee σ σ') {X : ex_T} (e : en_T X σ) : en_T X σ' := ⟨by rw [h.ty]; exact e.ty, by rw [h.R 100 _ (by omega)]; exact e.rl, by rw [h.ty]; exact e.tl, by rw [h.R 101 _ (by omega)]; exact e.rv, by rw [h.ty]; exact e.tv, by rw [h.R 102 _ (by omega)]; exact e.rq, by rw [h.ty]; exact e.tq, by rw [h.R 103 _ (by omega)]; exact e.rk, by rw [h.ty]; exact e.tk⟩
theorem si_T_e {σ σ' : z_S} (h : ee σ σ') {a r k s n : Nat} (e : si_T σ a r k s n) : si_T σ' a r k s n := by
  obtain ⟨h1, h2, h3, h4, h5, h6, h7⟩ := e
  exact ⟨by rw [h.ty]; exact h1, by rw [h.R 600 _ (by omega)]; exact h2, by rw [h.R 601 _ (by omega)]; exact h3, by rw [h.R 602 _ (by omega)]; exact h4, by rw [h.ty]; exact h5, by rw [h.ty]; exact h6, by rw [h.ty]; exact h7⟩
theorem si_L_e {σ σ' : z_S} (h : ee σ σ') {a r k s n : Nat} {l : sl_T} (e : si_L σ a r k s n l) : si_L σ' a r k s n l := by
  obtain ⟨h1, h2, h3, h4⟩ := e
  exact ⟨si_T_e h h1, by rw [h.I 603 _ (by omega) (by omega)]; exact h2, h3, fun i hi => by rw [h.A 15 _ (by omega) (by omega) (by omega), h.A 16 _ (by omega) (by omega) (by omega), h.A 17 _ (by omega) (by omega) (by omega)]; exact h4 i hi⟩
theorem CI_ee {V : vc_T} {a : ab_T} {σ σ1 : z_S} (h : CI V a σ) (e : ee σ σ1) (pg : if a.on then prg V a σ1 else non V a σ1) : CI V a σ1 :=
  ⟨by rw [e.ty]; exact h.ty, by rw [e.R 700 _ (by omega)]; exact h.r0, by rw [e.ty]; exact h.t0, by rw [e.I 701 _ (by omega) (by omega)]; exact h.n0, h.n6, fun i hi => by rw [e.A 18 _ (by omega) (by omega) (by omega)]; exact h.tt i hi, by rw [e.I 702 _ (by omega) (by omega)]; exact h.pl, by rw [e.R 703 _ (by omega)]; exact h.r3, by rw [e.ty]; exact h.t3, by rw [e.I 704 _ (by omega) (by omega)]; exact h.n4, h.g8, fun i hi => by rw [e.A 19 _ (by omega) (by omega) (by omega)]; exact h.gg i hi, by rw [e.R 706 _ (by omega)]; exact h.rn, by rw [e.R 707 _ (by omega)]; exact h.rm, by rw [e.R 708 _ (by omega)]; exact h.ru, by rw [e.R 709 _ (by omega)]; exact h.rd, by rw [e.ty]; exact h.td, fun i hi => by rw [e.Q]; exact h.qd i hi, by rw [e.I 710 _ (by omega) (by omega)]; exact h.ds, h.h6, by rw [e.R 711 _ (by omega)]; exact h.rl, by rw [e.R 712 _ (by omega)]; exact h.re, en_T_e e h.en, en_T_e e h.eN, h.ea, rw_T_e e h.Mt, h.da, h.dk, h.dc, fun i hi => si_T_e e (h.st i hi), si_L_e e h.sl, h.iO, h.iR, h.iK, h.iS, h.uw, h.id, si_L_e e h.su, fun i hi => si_L_e e (h.sd i hi), pg⟩
theorem prg_ee {V : vc_T} {a : ab_T} {σ σ1 : z_S} (h : prg V a σ) (q : ee σ σ1) (hN : rw_L V.N σ1 a.T) (hM : ∀ v, v < 8 → ¬ v < a.G.n → ∃ l, ro_L σ1 (V.M.ra v) (V.M.ka v) (V.M.ca v) l ∧ okl l) : prg V a σ1 := ⟨by rw [q.R 705 _ (by omega)]; exact h.rp, pr_L_p h.pr (ee_peq q), px_L_p (nn_s h.pr.ty) h.px (ee_peq q), h.ok, h.ln, h.tm, h.r1, h.a1, h.nl, h.nb, h.un, h.gd, hN, hM, h.cs, h.hc, h.lc⟩
/-- rows of one set stay where the other is written -/
theorem ro_L_far {X : ex_T} {σ σ' : z_S} (f : ef X σ σ') {b k c : Nat} {l : al_T} (hb : ∀ i, i < 8 → b ≠ X.ra i) (hk : ∀ i, i < 8 → k ≠ X.ka i) (hc : ∀ i, i < 8 → c ≠ X.ca i) (h : ro_L σ b k c l) : ro_L σ' b k c l := by
  obtain ⟨b1, b2, b3, b4, b5, b6⟩ := h
  exact ⟨ro_T_ef b1 f, by rw [f.2.2.2.1 402 _ (by omega) (fun _ j hj => hb j hj)]; exact b2, b3, b4, b5, fun j hj => by rw [f.2.2.2.2 12 _ (by omega) (fun _ j' hj' => hk j' hj') (fun q => by omega), f.2.2.2.2 13 _ (by omega) (fun q => by omega) (fun _ j' hj' => hc j' hj')]; exact b6 j hj⟩
theorem CI_efN {V : vc_T} {a : ab_T} {σ σ1 : z_S} (h : CI V a σ) (hb : a.on = true) (f : ef V.N σ σ1) (hN : rw_L V.N σ1 a.T) : CI V a σ1 := by
  have hp := CI_prg h hb
  refine CI_ee h (ee_ef f) ?_
  rw [if_pos hb]
  refine prg_ee hp (ee_ef f) hN (fun v h1 h2 => ?_)
  obtain ⟨l, h3, h4⟩ := hp.Mg v h1 h2
  exact ⟨l, ro_L_far f (fun i hi z => h.da i v hi h1 z.symm) (fun i hi z => h.dk i v hi h1 z.symm) (fun i hi z => h.dc i v hi h1 z.symm) h3, h4⟩
theorem vr_isView {V : vc_T} {a : ab_T} {σ : z_S} (hp : prg V a σ) {x : Int32} {P : Int32 → z_S → Prop} (h1 : ∀ v, v < a.G.n → x = nI v → P (if a.G.vw v then 1 else 0) σ) (h0 : (∀ v, v < a.G.n → x ≠ nI v) → P 0 σ) : kp_Pr_isView V.D.p x σ P := by
  rcases case_n a.G.n x with ⟨v, hv, e⟩ | hno
  · subst e
    exact pr_isView hp.pr hp.ok.n8 hv P (h1 v hv rfl)
  · exact ⟨hp.pr.ty, vr_isRel hp (fun v hv e => absurd e (hno v hv)) (fun _ => ⟨fun _ => h0 hno, fun q => absurd rfl q⟩)⟩
def cntd (a : ab_T) (v : Nat) : Prop := ∃ r ∈ a.G.rs, r.h = v ∧ r.c = true
theorem vr_isCounted {V : vc_T} {a : ab_T} {σ : z_S} (hp : prg V a σ) {v : Nat} (hv : v < a.G.n) {P : Int32 → z_S → Prop} (h1 : cntd a v → P 1 σ) (h0 : ¬ cntd a v → P 0 σ) : kp_Pr_isCounted V.D.p (nI v) σ P := by
  have hn8 := hp.ok.n8
  refine ⟨hp.pr.ty, vr_isRel hp (fun v' hv' e => ⟨fun q => absurd q (by decide), fun _ => ⟨hp.pr.ty, vr_isIn _ _ _ _ ?_⟩⟩) (fun h => absurd rfl (h v hv))⟩
  have hc := hp.px.cv v (by omega)
  cases hbc : bi (z_I σ 210 V.D.p) v with
  | true => exact ⟨fun q => absurd q (by decide), fun _ => h1 (hc.mp hbc)⟩
  | false => exact ⟨fun _ => h0 (fun z => by rw [hc.mpr z] at hbc; cases hbc), fun q => absurd rfl q⟩
theorem ref_isCounted {a : ab_T} {μ : mo_U} {T' : Nat → al_T} (hO : RO a μ T') (hok : pg_ok a.G) {v : Nat} (hv : v < a.G.n) {Q : Int32 → mo_U → Prop} (h1 : cntd a v → Q 1 μ) (h0 : ¬ cntd a v → Q 0 μ) : mp_isCounted (nI v) μ Q := by
  intro X4 hX
  have hn8 := hok.n8
  have hg := hO.t.g
  have hn16 := hg.n16
  have main : ∀ k i (fo : Bool), i + k = a.G.rs.length → (fo = true ↔ ∃ j, j < i ∧ (a.G.rs.getD j d_ru).h = v ∧ (a.G.rs.getD j d_ru).c = true) → X4 (if fo then 1 else 0) (nI i) μ := by
    intro k
    induction k with
    | zero =>
      intro i fo hi hf
      refine hX _ _ _ ?_
      rw [hg.nn]
      refine ⟨fun _ => ?_, fun q => absurd (nI_le (by omega) (by omega)) q⟩
      cases fo with
      | true =>
        obtain ⟨j, hj, e1, e2⟩ := hf.mp rfl
        exact ⟨Or.inr rfl, h1 ⟨_, rs_mem (by omega), e1, e2⟩⟩
      | false =>
        refine ⟨Or.inl rfl, h0 (fun ⟨r, hr, e1, e2⟩ => ?_)⟩
        obtain ⟨j, hj, e⟩ := List.getElem_of_mem hr
        have := hf.mpr ⟨j, by omega, by rw [gd_eq _ _ hj, e]; exact e1, by rw [gd_eq _ _ hj, e]; exact e2⟩
        cases this
    | succ k ih =>
      intro i fo hi hf
      have hil : i < a.G.rs.length := by omega
      have hh : (a.G.rs.getD i d_ru).h < 8 := (hok.ru _ (rs_mem hil)).1.hh
      refine hX _ _ _ ?_
      rw [hg.nn]
      refine ⟨fun q => absurd q (nI_ge (by omega) (by omega)), fun _ => ?_⟩
      rw [nI_1]
      have next : ∀ fo' : Bool, (fo' = true ↔ fo = true ∨ ((a.G.rs.getD i d_ru).h = v ∧ (a.G.rs.getD i d_ru).c = true)) → X4 (if fo' then 1 else 0) (nI (i + 1)) μ := fun fo' hfo => ih (i + 1) fo' (by omega) (by
        rw [hfo, hf]
        constructor
        · rintro (⟨j, hj, e⟩ | e)
          · exact ⟨j, by omega, e⟩
          · exact ⟨i, by omega, e⟩
        · rintro ⟨j, hj, e⟩
          by_cases z : j = i
          · rw [z] at e; exact Or.inr e
          · exact Or.inl ⟨j, by omega, e⟩)
      cases hfo : fo with
      | true => exact ⟨fun _ => next true (by rw [hfo]; exact ⟨fun _ => Or.inl rfl, fun _ => rfl⟩), fun q => absurd q (by decide)⟩
      | false =>
        refine ⟨fun q => absurd rfl q, fun _ => ⟨vp_in_nI (by omega) (by decide), ?_⟩⟩
        rw [cl_nI (by omega), (hg.hd i hil).1, nI_eq (by omega) (by omega), hg.ct i hil]
        refine ⟨fun hne => next false (by rw [hfo]; exact ⟨fun z => (by cases z), fun z => z.elim id (fun y => absurd y.1 hne)⟩), fun heq => ⟨vp_in_nI (by omega) (by decide), fun hc => next false ?_, fun hc => next true ?_⟩⟩
        · have hc : (a.G.rs.getD i d_ru).c = false := by
            cases hb : (a.G.rs.getD i d_ru).c with
            | false => rfl
            | true => rw [hb] at hc; exact absurd hc (by decide)
          rw [hfo, hc]
          exact ⟨fun z => (by cases z), fun z => z.elim id (fun y => (by cases y.2))⟩
        · have hc : (a.G.rs.getD i d_ru).c = true := by
            cases hb : (a.G.rs.getD i d_ru).c with
            | true => rfl
            | false => rw [hb] at hc; exact absurd rfl hc
          exact ⟨fun _ => Or.inr ⟨heq, hc⟩, fun _ => rfl⟩
  exact main a.G.rs.length 0 false (by omega) ⟨fun z => (by cases z), fun ⟨j, hj, _⟩ => absurd hj (Nat.not_lt_zero j)⟩
theorem RR_dts {a : ab_T} {μ μ1 : mo_U} (h : RR a μ) (hf : mo_fr dts dfs μ μ1) : RR a μ1 := by
  refine ⟨by rw [hf.2 801 (by decide)]; exact h.n0, fun i hi => by rw [hf.1 23 (by decide)]; exact h.tt i hi, by rw [hf.2 807 (by decide)]; exact h.pl, ?_, ?_, ?_⟩
  · rw [hf.2 806 (by decide), hf.2 849 (by decide), hf.1 56 (by decide)]; exact h.rg
  · obtain ⟨R, N, hM⟩ := h.mm
    exact ⟨R, N, mo_M_fr hM hf (by decide) (by decide) (by decide)⟩
  · have hpg := h.pg
    cases hb : a.on with
    | false =>
      rw [if_neg (by rw [hb]; decide)] at hpg
      rw [if_neg (by decide), hf.2 808 (by decide), hf.2 831 (by decide)]
      exact hpg
    | true =>
      rw [if_pos rfl]
      obtain ⟨T1, hO1⟩ := RR_on h hb
      refine ⟨⟨T1, ⟨?_, hO1.t.t8, rf_L_fr hO1.t.g hf (by decide) (by decide)⟩, hO1.e, hO1.p⟩, fun k hk => by rw [hf.1 34 (by decide), hf.1 35 (by decide)]; exact hO1.n k hk, fun i hi k hk => by rw [hf.1 33 (by decide)]; exact hO1.l i hi k hk, fun i j h1 h2 => by rw [hf.1 38 (by decide)]; exact hO1.r i j h1 h2, ⟨by rw [hf.2 831 (by decide)]; exact hO1.b.1, by rw [hf.1 46 (by decide)]; exact hO1.b.2⟩, ⟨by rw [hf.2 834 (by decide)]; exact hO1.h.1, fun i hi => by rw [hf.1 48 (by decide), hf.1 47 (by decide)]; exact hO1.h.2 i hi⟩, by rw [hf.2 836 (by decide)]; exact hO1.d.1, hO1.d.2.1, by rw [hf.1 49 (by decide)]; exact hO1.d.2.2⟩
      obtain ⟨R, N, hW⟩ := hO1.t.w
      exact ⟨R, N, mo_W_fr hW hf (by decide) (by decide) (by decide)⟩
/-- the rows that rules look at are the same on both sides -/
theorem dsol_T {a : ab_T} {μ : mo_U} {T' : Nat → al_T} (hO : RO a μ T') (hok : pg_ok a.G) {i key : Nat} (hi : i < a.G.rs.length) : dsol (ks T') (a.G.rs.getD i d_ru) key = dsol (ks a.T) (a.G.rs.getD i d_ru) key := by
  unfold dsol
  rw [hsol_congr (S := ks T') (S' := ks a.T) (fun l hl h1 => by unfold ks; rw [hO.e _ ((hok.ru _ (rs_mem hi)).2.2.2.2 l hl h1)])]
theorem dsum_T {a : ab_T} {μ : mo_U} {T' : Nat → al_T} (hO : RO a μ T') (hok : pg_ok a.G) (v key : Nat) : ∀ n, n ≤ a.G.rs.length → dsum a.G (ks T') v key n = dsum a.G (ks a.T) v key n
  | 0, _ => rfl
  | n + 1, h => by
    show dsum a.G (ks T') v key n + _ = dsum a.G (ks a.T) v key n + _
    rw [dsum_T hO hok v key n (by omega), dsol_T hO hok (by omega)]
