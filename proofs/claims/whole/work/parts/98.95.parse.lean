theorem op_parse : st_parse IN := by
  rintro x m σ P ⟨V, a, ma, rfl, hC, hT, hm, hR⟩ hP
  have hmt := nn_s (mo_ty0 hT)
  have nx := nn_s hC.ty
  have hok := tx_of_ok hC.n6
  refine ⟨hC.ty, ?_⟩
  have fin : ∀ (r : Int32) (V1 : vc_T) (a1 : ab_T) (σ1 : z_S), V1.x = V.x → CI V1 a1 σ1 → req m σ σ1 → (∀ μ1, RR a μ1 → ∀ Q : Int32 → mo_U → Prop, (∀ μ', RR a1 μ' → lowf μ1 μ' → Q r μ') → mp_parse μ1 Q) → P r σ1 := fun r V1 a1 σ1 hx1 hC1 he hr => by
    have hT1 := mo_T_req hT he
    have hR1 := RR_req hT he hR
    refine hP r σ1 (mo_ty0 hT1) (fun P2 h2 => ?_)
    rw [← mu_put σ1 m ma]
    refine mq_parse hT1 _ _ P2 (fin_op (V := V1) hC1 hT1 hm (by rw [hx1]; exact h2)) (hr _ hR1 _ (fun μ' g1 g2 => ⟨rfl, g1, g2⟩))
  intro X51 h51 R hRn σ0 e0
  have xR : V.x ≠ R := fun z => by rw [z] at nx; exact nx hRn
  have tx0 : z_ty σ0 V.x = some (.inl 7) := by rw [e0, z_ty_new, if_neg xR]; exact hC.ty
  refine ⟨tx0, V.tx, by rw [e0, z_R_new, if_neg xR]; exact hC.r0, tx0, ?_⟩
  rw [show z_I σ0 701 V.x = nI (tx_of a).n by rw [e0, z_I_new, if_neg xR]; exact hC.n0]
  refine cl_newreader (t := tx_of a) hRn e0 hC.n6.1 hC.t0 (fun i hi => ?_) _ (fun K D ra σ1 hKR hN => ?_)
  · have hi : i < a.tn := hi
    obtain ⟨y, hy⟩ := hC.n6.2 i hi
    refine ⟨y, (hC.tt i hi).trans hy, ?_⟩
    show byt y.toInt32 = if i < a.tn then byt (a.tt i) else 0
    rw [if_pos hi, hy]
  subst hKR
  refine ⟨hN.W.c.ty, ?_⟩
  have sDn : ∀ c, sD K D.pa D.la ra c → z_ty σ c ≠ none → False := fun c z hn => by
    rcases z with z | z | z | z | z | z | z
    · exact hn (by rw [z]; exact hN.f0)
    · exact hn (by rw [z]; exact hN.f1)
    · exact hn (by rw [z]; exact hN.f2)
    · exact hn (by rw [z]; exact hN.f3)
    · exact hn (by rw [z]; exact hN.f4)
    · exact hn (by rw [z]; exact hN.f5)
    · exact hn (by rw [z]; exact hN.f6)
  have wall : ∀ {σ'}, wf (sD K D.pa D.la ra) σ1 σ' → wf (fun _ => False) σ σ' := fun h => wf_tr hN.w h sDn
  -- what comes behind reading
  have after : ∀ σ2, wf (sD K D.pa D.la ra) σ1 σ2 → z_ty σ2 K.R = some (.inl 3) → (∀ p σ3, CI (v_off V p) (a_off a (-1) []) σ3 → req m σ σ3 → xf V.x (V.O V.uw) (V.O 7) σ2 σ3 → ((((z_I σ3 301 K.R)) = 0 → X51 K.R ((0 : Int32)) σ3) ∧ (¬ ((z_I σ3 301 K.R)) = 0 → z_ty σ3 V.x = some (.inl 7) ∧ kp_Vr_keepFault V.x K.R σ3 (fun (σ38 : z_S) => z_ty σ38 K.R = some (.inl 3) ∧ (P (((-10 : Int32)) - (z_I σ38 301 K.R)) σ38))))) → z_ty σ2 V.x = some (.inl 7) ∧ ∀ σ22, σ22 = z_sI σ2 701 V.x ((0 : Int32)) → z_ty σ22 V.x = some (.inl 7) ∧ kp_Vr_forgetRules V.x σ22 (fun (σ26 : z_S) => z_ty σ26 K.R = some (.inl 3) ∧ ((((z_I σ26 301 K.R)) = 0 → X51 K.R ((0 : Int32)) σ26) ∧ (¬ ((z_I σ26 301 K.R)) = 0 → z_ty σ26 V.x = some (.inl 7) ∧ kp_Vr_keepFault V.x K.R σ26 (fun (σ38 : z_S) => z_ty σ38 K.R = some (.inl 3) ∧ (P (((-10 : Int32)) - (z_I σ38 301 K.R)) σ38))))) := fun σ2 hw htR hg => by
    have tx2 : z_ty σ2 V.x = some (.inl 7) := by rw [(wall hw).ty _ nx]; exact hC.ty
    refine ⟨tx2, fun σ22 e22 => ⟨by rw [e22]; exact tx2, cl_forget hC (wall hw) e22 _ (fun p σ3 hpf hC3 X Xr => ⟨by rw [Xr.ty _ (nn_s htR)]; exact htR, hg p σ3 hC3 (xf_req X hmt) Xr⟩)⟩⟩
  refine cl_rules hok hN.W hN.d hN.p _ (fun e σ2 he hF r3 tP h8 hw => ?_) (fun p D' as L top σr σ2 he hi hD' hWr hpr hnr hL hL8 hLt htp hly h7 hrb f2 hw => ?_) (fun p x σr σ2 he hi hxn hb hmin hF r3 hS hbits _ hw => ?_)
  · -- a fault in the text
    refine after σ2 hw hF.1 (fun p σ3 hC3 hq Xr => ?_)
    have nR := nn_s hF.1
    have i1 : z_I σ3 301 K.R = nI e.1 := by rw [Xr.I _ _ nR (fun z => by omega) (fun z => by omega)]; exact hF.2.1
    have i2 : z_I σ3 302 K.R = nI e.2 := by rw [Xr.I _ _ nR (fun z => by omega) (fun z => by omega)]; exact hF.2.2
    have ek := parse_k he
    refine ⟨fun z => absurd (by rw [← i1]; exact z) (nI_ne0 (n := e.1) (by omega) (by omega)), fun _ => ⟨hC3.ty, ?_⟩⟩
    obtain ⟨n, n31, h6⟩ := i206 (z_I σ3 206 K.P)
    have er : ∀ k, rgl (fun _ => false) [] k = [] := fun k => (rgl_n (n := 0) (fun v _ => rfl) k (Nat.zero_le k)).trans rfl
    have tP3 : z_ty σ3 K.P = some (.inl 2) := by rw [Xr.ty _ (nn_s tP)]; exact tP
    refine cl_keep (m := fun _ => false) (nm := []) (na := 0) hC3.ty hC3.r3 hC3.t3 hC3.n4 (by rw [Xr.ty _ nR]; exact hF.1) (by rw [Xr.R _ _ nR (fun z => absurd z.1 (by decide))]; exact r3) tP3 i2 n31 h6 (fun i _ => by rw [Xr.I _ _ (nn_s tP) (fun z => by omega) (fun z => by omega), h8, bi_0]) (fun i _ z => by cases z) _ (fun σ4 f4 a2 a4 aA => ⟨by rw [f4.ty, Xr.ty _ nR]; exact hF.1, ?_⟩)
    rw [show z_I σ4 301 K.R = nI e.1 by rw [f4.I _ _ (by simp)]; exact i1]
    rw [er] at a4 aA
    exact fin _ (v_off V p) (a_off a (nI e.2) []) σ4 rfl (CI_flt hC3 f4 a2 a4 (Nat.zero_le _) aA) (req_tr hq (nf_req f4)) (fun μ1 hR1 Q hQ => ref_parseE hR1 hC.n6 he Q hQ)
  · -- rules
    have htR : z_ty σ2 K.R = some (.inl 3) := by rw [f2.ty]; exact hWr.c.ty
    refine after σ2 hw htR (fun p0 σ3 hC3 hq Xr => ?_)
    have nR := nn_s htR
    have i1 : z_I σ3 301 K.R = 0 := by rw [Xr.I _ _ nR (fun z => by omega) (fun z => by omega), f2.I _ _ (by simp)]; exact hWr.f
    refine ⟨fun _ => ?_, fun z => absurd i1 z⟩
    have hokG := pgok_of (as := as) hi hL hL8 hLt htp
    have pr2 := prL_of (as := as) hi hD' hWr hpr hly h7 f2
    have pr3 := pr_L_p pr2 (xf_peq Xr)
    have r3 : z_R σ3 300 K.R = some K.P := by rw [Xr.R _ _ nR (fun z => absurd z.1 (by decide)), f2.R]; exact hWr.r0
    have tR3 : z_ty σ3 K.R = some (.inl 3) := by rw [Xr.ty _ nR]; exact htR
    refine cl_clear hC3 (X51 K.R) _ (fun v2 σ' hh => h51 K.R v2 σ' hh) (fun σ4 f4 hz => ?_)
    have f4 : ef V.M σ3 σ4 := f4
    have hC4 := CI_eoff hC3 rfl f4
    have pr4 := pr_L_ef pr3 f4
    refine ⟨hC4.ty, V.M.a, hC4.re, by rw [f4.1]; exact tR3, K.P, by rw [f4.2.1 300 _ (by omega)]; exact r3, hC4.ty, V.M.w, hC4.rm, hC4.en.ty, ?_⟩
    rw [← hD']
    have q4 : req m σ σ4 := req_tr hq (ef_req f4)
    have hT0 : vT (G_of p as L top) (fun _ => []) := ⟨fun _ _ => rfl, fun _ => ⟨List.Pairwise.nil, fun _ h => absurd h List.not_mem_nil⟩, fun _ _ _ h => absurd h List.not_mem_nil, fun _ _ => Nat.zero_le _, fun _ _ _ h => absurd h List.not_mem_nil⟩
    refine en_work (X := V.M) hokG hC4.en hC4.Mt pr4 hT0 (fun v _ => rfl) (fun v hv _ => hz v hv) _ (fun T1 σ5 heb hvT hWK hz0 hone => ⟨fun _ => ?_, fun z => absurd z (by decide)⟩) (fun T1 σ5 _ hef _ _ hWO => ⟨fun z => absurd rfl z, fun _ => fin (-3) (v_off V p0) (a_off a (-1) []) σ5 rfl (CI_eoff hC4 rfl hef) (req_tr q4 (ef_req hef)) (fun μ1 hR1 Q hQ => ref_parseO (as := as) hR1 hC.n6 he hL hL8 hLt htp Q (fun T μ' hO _ => absurd hWO (fun w => WK_WOv hO.k w)) (fun μ' _ g1 g2 => hQ μ' g1 g2))⟩)
    have f5 := heb.fr
    have hC5 := CI_eoff hC4 rfl f5
    have pr5 := pr_L_ef pr4 f5
    have hn5 : non (v_off V p0) (a_off a (-1) []) σ5 := CI_non hC5 rfl
    obtain ⟨TN, tn1, tn2⟩ := hn5.N
    have tn1 : rw_L V.N σ5 TN := tn1
    refine ⟨by rw [f5.1, f4.1]; exact tR3, K.P, by rw [f5.2.1 300 _ (by omega), f4.2.1 300 _ (by omega)]; exact r3, hC5.ty, fun σ6 e6 => ⟨by rw [e6]; exact hC5.ty, ?_⟩⟩
    refine ⟨by rw [e6]; exact hC5.ty, V.N.w, by rw [e6, z_R_sR, if_neg (fun z => absurd z.1 (by decide))]; exact hC5.rn, by rw [e6]; exact hC5.ty, V.M.w, by rw [e6, z_R_sR, if_neg (fun z => absurd z.1 (by decide))]; exact hC5.rm, by rw [e6]; exact hC5.ty, fun σ7 e7 => ⟨by rw [e7, e6]; exact hC5.ty, fun σ8 e8 => ?_⟩⟩
    rw [e7, e6] at e8
    have ty8 : ∀ c, z_ty σ8 c = z_ty σ5 c := fun c => by rw [e8]; rfl
    have I8 : ∀ f c, z_I σ8 f c = z_I σ5 f c := fun f c => by rw [e8]; rfl
    have r75 : z_R σ8 705 V.x = some K.P := by rw [e8, z_R_sR, if_neg (fun z => absurd z.1 (by decide)), z_R_sR, if_neg (fun z => absurd z.1 (by decide)), z_R_sR, if_pos ⟨rfl, rfl⟩]
    have tP5 : z_ty σ5 K.P = some (.inl 2) := by rw [← hD']; exact pr5.ty
    refine ⟨by rw [ty8]; exact hC5.ty, K.P, r75, by rw [ty8]; exact tP5, ?_⟩
    have n201 : z_I σ8 201 K.P = nI p.rs.length := by rw [I8, ← hD']; exact pr5.nn
    rw [n201]
    have q8 : req m σ σ8 := req_tr (req_tr q4 (ef_req f5)) (by rw [e8]; exact req_tr (req_tr (sR_req (by omega)) (sR_req (by omega))) (sR_req (by omega)))
    have rL8 : ∀ {X : ex_T} {T : Nat → al_T}, rw_L X σ5 T → rw_L X σ8 T := fun h => by rw [e8]; exact rw_L_s (by omega) (rw_L_s (by omega) (rw_L_s (by omega) h))
    have hN8 := rL8 heb.rw
    have t8 := rL8 tn1
    have okT : ∀ v, v < 8 → okl (T1 v) := fun v hv => ⟨hvT.c40 v hv, fun q hq' => by
      by_cases z : 1 ≤ L v
      · have := hone v hv z q hq'
        omega
      · rw [hz0 v (show L v = 0 by omega)] at hq'
        exact absurd hq' List.not_mem_nil⟩
    have hln : ∀ v, ¬ v < p.nm.length → L v = 0 := fun v hv => least_0 (fun r hr => (hi.r r hr).h) hL hv
    by_cases hrs : p.rs = []
    · -- no rules
      have hnm := parse_0 he hrs
      have htop : top = 0 := by
        rcases htp with z | ⟨v, z, _⟩
        · exact z
        · rw [hnm] at z; exact absurd z (Nat.not_lt_zero v)
      have hnon : non (v_swp (v_off V p0) K.P D' K.na K.ta ra) (a_off a (-1) []) σ8 := ⟨r75, by rw [ty8]; exact tP5, by
        show z_I σ8 201 K.P = 0
        rw [n201, hrs]; rfl, by
        show z_I σ8 206 K.P = 0
        rw [I8, ← hD', pr5.nr]
        show nI p.nm.length = 0
        rw [hnm]; rfl, by
        show z_I σ8 207 K.P = 0
        rw [I8, ← hD', pr5.tp]
        show nI top = 0
        rw [htop]; rfl, ⟨T1, hN8, okT⟩, rfl, rfl, rfl⟩
      refine fin _ (v_swp (v_off V p0) K.P D' K.na K.ta ra) (a_off a (-1) []) σ8 rfl (CI_take (V := v_off V p0) hC5 tn1.1 e8 rfl rfl rfl rfl rfl rfl rfl hnon) q8 (fun μ1 hR1 Q hQ => ref_parseO (as := as) hR1 hC.n6 he hL hL8 hLt htp Q (fun T μ' hO hl => hQ μ' ?_ hl) (fun μ' hW _ _ => absurd hW (fun w => WK_WOv hWK w)))
      refine ⟨hO.n1, fun i hi' => absurd hi' (Nat.not_lt_zero i), hO.n7, ?_, ?_, ?_⟩
      · rw [if_neg (fun z => by rw [hO.n6] at z; exact absurd z (by decide))]
        rfl
      · obtain ⟨R', N', hM'⟩ := hO.t.w
        exact ⟨R', N', hM'.1⟩
      · show if false = true then _ else μ'.1 808 = 0 ∧ μ'.1 831 = 0
        rw [if_neg (by decide)]
        refine ⟨?_, hO.m1⟩
        rw [hO.t.g.nn]
        show nI p.rs.length = 0
        rw [hrs]; rfl
    · -- rules stand
      have hr1 : 1 ≤ p.rs.length := by
        rcases Nat.eq_zero_or_pos p.rs.length with z | z
        · exact absurd (List.length_eq_zero_iff.mp z) hrs
        · exact z
      have hp8 : peq σ5 σ8 := ⟨fun c _ => ty8 c, fun f c _ hf => by rw [e8, z_R_sR, if_neg (fun z => by omega), z_R_sR, if_neg (fun z => by omega), z_R_sR, if_neg (fun z => by omega)], fun t c _ _ => by rw [e8]; rfl, fun f c _ _ => I8 f c, fun t c _ _ => by rw [e8]; rfl⟩
      have pef : ∀ {σ' σ'' : z_S}, ef V.M σ' σ'' → peq σ' σ'' := fun f => ⟨fun c _ => f.1 c, fun g c _ hg => f.2.1 g c (by omega), fun t c _ _ => f.2.2.1 t c, fun g c _ hg => f.2.2.2.1 g c (by omega) (fun z => by omega), fun t c _ ht => f.2.2.2.2 t c (by omega) (fun z => by omega) (fun z => by omega)⟩
      have px2 : px_L σ2 (v_swp (v_off V p0) p0 D' K.na K.ta ra) (a_on a p (G_of p as L top) T1) := pxL_of (V := v_swp (v_off V p0) p0 D' K.na K.ta ra) hi hD' rfl rfl hWr hpr hrb f2
      have px8 := px_L_p (nn_s pr5.ty) (px_L_p (nn_s pr4.ty) (px_L_p (nn_s pr3.ty) (px_L_p (nn_s pr2.ty) px2 (xf_peq Xr)) (pef f4)) (pef f5)) hp8
      have ez : ks (Tz (G_of p as L top) T1) = ks (fun _ => []) := by
        funext v
        unfold ks Tz
        dsimp only
        by_cases w : (G_of p as L top).vw v = true
        · rw [if_pos w]
        · rw [if_neg w, hz0 v (lay_0 hokG (by
            cases q : (G_of p as L top).vw v with
            | false => rfl
            | true => exact absurd q w))]
      have hgood : good (G_of p as L top) T1 := ⟨hvT, fun v hv q hq' => by
        rw [hz0 v (lay_0 hokG hv)] at hq'
        exact absurd hq' List.not_mem_nil, hone, by
        rw [ez]
        exact WK_res hokG hln (S_ok_T (fun v => fun q hq' => absurd hq' List.not_mem_nil)) hWK⟩
      have hprg : prg (v_swp (v_off V p0) p0 D' K.na K.ta ra) (a_on a p (G_of p as L top) T1) σ8 := ⟨r75.trans (congrArg some hD'.symm), pr_L_p pr5 hp8, px8, hokG, hln, htp, hr1, fun v hv => by
        have hv : v < p.nm.length := hv
        show 1 ≤ p.A.getD v 3 ∧ p.A.getD v 3 ≤ 3
        rw [gd03 (by rw [hi.ok.al]; exact hv)]
        exact hi.ok.nz v hv, rfl, fun k hk => by
        have := (hi.ok.r k hk).2
        omega, fun i j h1' h2' e => by
        have h1' : i < p.nm.length := h1'
        have h2' : j < p.nm.length := h2'
        have e : p.nm.getD i 0 = p.nm.getD j 0 := e
        rw [gd_eq _ _ h1', gd_eq _ _ h2'] at e
        exact (List.getElem_inj hi.ok.d).mp e, hgood, hN8, fun v h1' _ => ⟨TN v, t8.2 v h1', tn2 v h1'⟩, ch_nil _, fun h hh => absurd hh List.not_mem_nil, trivial⟩
      refine fin _ (v_swp (v_off V p0) p0 D' K.na K.ta ra) (a_on a p (G_of p as L top) T1) σ8 rfl (CI_take (V := v_off V p0) hC5 tn1.1 e8 rfl rfl rfl rfl rfl rfl rfl hprg) q8 (fun μ1 hR1 Q hQ => ref_parseO (as := as) hR1 hC.n6 he hL hL8 hLt htp Q (fun T μ' hO hl => hQ μ' ?_ hl) (fun μ' hW _ _ => absurd hW (fun w => WK_WOv hWK w)))
      have hks : ks T1 = ks T := WK_uniq hWK hO.k
      have hTT : ∀ v, v < 8 → T v = T1 v := fun v hv => by
        by_cases z : 1 ≤ L v
        · exact ones_eq (congrFun hks v).symm (hO.o v z) (hone v hv z)
        · rw [hO.z v (show L v = 0 by omega), hz0 v (show L v = 0 by omega)]
      have n8 := hi.ok.n8
      refine ⟨hO.n1, fun i hi' => absurd hi' (Nat.not_lt_zero i), hO.n7, ?_, ?_, ?_⟩
      · rw [if_neg (fun z => by rw [hO.n6] at z; exact absurd z (by decide))]
        rfl
      · obtain ⟨R', N', hM'⟩ := hO.t.w
        exact ⟨R', N', hM'.1⟩
      · rw [if_pos (show (a_on a p (G_of p as L top) T1).on = true from rfl)]
        refine ⟨⟨T, hO.t, fun v hv => hTT v (Nat.lt_of_lt_of_le hv n8), fun v hv => hO.z v (hln v hv)⟩, fun k hk => ⟨(hO.nm k hk).1, ?_⟩, hO.l, fun i j h1' h2' => ?_, ⟨hO.m1, fun i hi' => absurd hi' (Nat.not_lt_zero i)⟩, ⟨hO.m4, fun i hi' => absurd hi' (Nat.not_lt_zero i)⟩, ⟨hO.m6, Nat.zero_le _, fun i hi' => absurd hi' (Nat.not_lt_zero i)⟩⟩
        · have hk : k < p.nm.length := hk
          show μ'.2 35 k = nI (p.A.getD k 3)
          rw [gd03 (by rw [hi.ok.al]; exact hk)]
          exact (hO.nm k hk).2
        · obtain ⟨c1, c2⟩ := hO.r i j h1' h2'
          show _ = if cb (rea p.rs i j) then 1 else 0
          by_cases z : rea p.rs i j
          · rw [cb_t.mpr z, if_pos rfl]; exact c2.mpr z
          · rw [cb_f z, if_neg (by decide)]
            exact c1.resolve_right (fun y => z (c2.mp y))
  · -- a ring
    refine after σ2 hw hF.1 (fun p0 σ3 hC3 hq Xr => ?_)
    have nR := nn_s hF.1
    have i1 : z_I σ3 301 K.R = nI 6 := by rw [Xr.I _ _ nR (fun z => by omega) (fun z => by omega)]; exact hF.2.1
    have i2 : z_I σ3 302 K.R = nI a.tn := by rw [Xr.I _ _ nR (fun z => by omega) (fun z => by omega)]; exact hF.2.2
    refine ⟨fun z => absurd (by rw [← i1]; exact z) (nI_ne0 (n := 6) (by decide) (by decide)), fun _ => ⟨hC3.ty, ?_⟩⟩
    have nP := nn_s hS.n.ty
    have n8 := hi.ok.n8
    refine cl_keep (m := fun v => cb (rea p.rs x v ∧ rea p.rs v x)) (nm := p.nm) (na := K.na) (n := p.nm.length) hC3.ty hC3.r3 hC3.t3 hC3.n4 (by rw [Xr.ty _ nR]; exact hF.1) (by rw [Xr.R _ _ nR (fun z => absurd z.1 (by decide))]; exact r3) (by rw [Xr.ty _ nP]; exact hS.n.ty) i2 (by omega) (fun i hi' => by rw [Xr.I _ _ nP (fun z => by omega) (fun z => by omega), hS.n.nn]; exact nI_leI (by omega) hi') (fun i hi' => ?_) (fun i hi' hmi => ⟨n8, by rw [Xr.R _ _ nP (fun z => absurd z.1 (by decide))]; exact hS.n.rn, by rw [Xr.ty _ (nn_s hS.n.tn)]; exact hS.n.tn, by rw [Xr.A _ _ (nn_s hS.n.tn) (by decide)]; exact hS.n.vn i hi'⟩) _ (fun σ4 f4 a2 a4 aA => ⟨by rw [f4.ty, Xr.ty _ nR]; exact hF.1, ?_⟩)
    · rw [Xr.I _ _ nP (fun z => by omega) (fun z => by omega)]
      refine bool_iff ((hbits i (by omega)).trans ?_)
      exact ⟨fun z => cb_t.mpr z.2, fun z => ⟨hi', cb_t.mp z⟩⟩
    · rw [show z_I σ4 301 K.R = nI 6 by rw [f4.I _ _ (by simp)]; exact i1]
      exact fin _ (v_off V p0) (a_off a (nI a.tn) (rgl (fun v => cb (rea p.rs x v ∧ rea p.rs v x)) p.nm p.nm.length)) σ4 rfl (CI_flt hC3 f4 a2 a4 (Nat.le_trans (rgl_len _ _ _) n8) aA) (req_tr hq (nf_req f4)) (fun μ1 hR1 Q hQ => ref_parseR hR1 hC.n6 he hxn hb hmin Q hQ)
