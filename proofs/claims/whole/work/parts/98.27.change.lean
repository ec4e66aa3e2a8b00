theorem five_app {A : Nat → Int32} {cs : sl_T} (h : fives A 0 cs) {v key : Nat} (hv : v < 8) (hk : key < 1000000000) (s : Int) : fives (upd (upd (upd (upd (upd A (5 * cs.length) (nI v)) (5 * cs.length + 1) (nI (key / 1000000))) (5 * cs.length + 2) (nI (key / 1000 % 1000))) (5 * cs.length + 3) (nI (key % 1000))) (5 * cs.length + 4) (Int32.ofInt s)) 0 (cs ++ [(v, key, s)]) := by
  intro i hi
  rw [List.length_append, List.length_singleton] at hi
  rw [gd_snoc, Nat.zero_add]
  by_cases z : i < cs.length
  · rw [if_pos z]
    obtain ⟨⟨k0, k1, k2, k3, k4⟩, k8, kk⟩ := h i z
    rw [Nat.zero_add] at k0 k1 k2 k3 k4
    refine ⟨?_, k8, kk⟩
    have e : ∀ q, q < 5 * cs.length → upd (upd (upd (upd (upd A (5 * cs.length) (nI v)) (5 * cs.length + 1) (nI (key / 1000000))) (5 * cs.length + 2) (nI (key / 1000 % 1000))) (5 * cs.length + 3) (nI (key % 1000))) (5 * cs.length + 4) (Int32.ofInt s) q = A q := fun q hq => by
      unfold upd
      rw [if_neg (by omega), if_neg (by omega), if_neg (by omega), if_neg (by omega), if_neg (by omega)]
    unfold five
    rw [e _ (by omega), e _ (by omega), e _ (by omega), e _ (by omega), e _ (by omega)]
    exact ⟨k0, k1, k2, k3, k4⟩
  · have z2 : i = cs.length := by omega
    rw [if_neg z, if_pos z2, z2]
    refine ⟨?_, hv, hk⟩
    unfold five upd
    simp
theorem giv_l {μ : mo_U} {n v i : Nat} (hv : v < 9) (hn : n ≤ 3) (h35 : μ.2 35 v = nI n) (hi : i < 3) {w : Int32} {Q : Int32 → mo_U → Prop} (h : Q (gv n i w) μ) : mp_given (nI v) (nI i) w μ Q := by
  unfold mp_given
  rw [cl_nI (n := v) (by omega), h35, nI_leI (by omega) (by omega)]
  unfold gv at h
  exact ⟨vp_in_nI (by omega) (by decide), fun q => by rw [if_neg (by omega)] at h; exact h, fun q => by rw [if_pos (by omega)] at h; exact h⟩
/-- the batch alone has changed -/
theorem RR_cs {a : ab_T} {μ μ1 : mo_U} (hb : a.on = true) (h : RR a μ) (hf : mo_fr [46] [831] μ μ1) {cs : sl_T} (h1 : μ1.1 831 = nI cs.length) (h2 : fives (μ1.2 46) 0 cs) : RR (acs a cs) μ1 := by
  obtain ⟨T1, hO1⟩ := RR_on h hb
  refine ⟨by rw [hf.2 801 (by decide)]; exact h.n0, fun i hi => by rw [hf.1 23 (by decide)]; exact h.tt i hi, by rw [hf.2 807 (by decide)]; exact h.pl, ?_, ?_, ?_⟩
  · rw [hf.2 806 (by decide), hf.2 849 (by decide), hf.1 56 (by decide)]; exact h.rg
  · obtain ⟨R, N, hM⟩ := h.mm
    exact ⟨R, N, mo_M_fr hM hf (by decide) (by decide) (by decide)⟩
  · show if a.on then _ else _
    rw [if_pos hb]
    refine ⟨⟨T1, ⟨?_, hO1.t.t8, rf_L_fr hO1.t.g hf (by decide) (by decide)⟩, hO1.e, hO1.p⟩, fun k hk => by rw [hf.1 34 (by decide), hf.1 35 (by decide)]; exact hO1.n k hk, fun i hi k hk => by rw [hf.1 33 (by decide)]; exact hO1.l i hi k hk, fun i j h1 h2 => by rw [hf.1 38 (by decide)]; exact hO1.r i j h1 h2, ⟨h1, h2⟩, ⟨by rw [hf.2 834 (by decide)]; exact hO1.h.1, fun i hi => by rw [hf.1 48 (by decide), hf.1 47 (by decide)]; exact hO1.h.2 i hi⟩, by rw [hf.2 836 (by decide)]; exact hO1.d.1, hO1.d.2.1, by rw [hf.1 49 (by decide)]; exact hO1.d.2.2⟩
    obtain ⟨R, N, hW⟩ := hO1.t.w
    exact ⟨R, N, mo_W_fr hW hf (by decide) (by decide) (by decide)⟩
theorem op_change : st_change IN := by
  rintro x m σ x1 x2 x3 x4 x5 P ⟨V, a, ma, rfl, hC, hT, hm, hR⟩ hP
  refine ⟨hC.ty, ?_⟩
  have fin : ∀ r : Int32, (∀ Q : Int32 → mo_U → Prop, Q r (mu_of σ m ma) → mp_change x1 x2 x3 x4 x5 (mu_of σ m ma) Q) → P r σ := fun r hr => by
    refine hP r σ (mo_ty0 hT) (fun P2 h2 => ?_)
    rw [← mu_put σ m ma]
    exact mq_change hT x1 x2 x3 x4 x5 _ _ P2 (fin_op hC hT hm h2) (hr _ ⟨rfl, hR, lowf_rf _⟩)
  intro X47 hX
  refine ⟨hC.ty, vr_noRules hC _ (fun hb => ⟨fun _ => ?_, fun q => absurd rfl q⟩) (fun hb => ⟨fun q => absurd q (by decide), fun _ => ?_⟩)⟩
  · have hp := CI_prg hC hb
    obtain ⟨T', hO⟩ := RR_on hR hb
    have hn8 := hp.ok.n8
    have h808 := RO_808 hp hO
    refine ⟨hC.ty, V.D.p, hp.rp, hp.pr.ty, vr_isRel hp (fun v hv e => ⟨fun q => absurd q (by decide), fun _ => ?_⟩) (fun hno => ⟨fun _ => ?_, fun q => absurd rfl q⟩)⟩
    · subst e
      have v8 : v < 8 := by omega
      have hA := hp.a1 v hv
      have hvw := hO.t.g.vw v hv
      have cl : (nI v).toNatClampNeg = v := cl_nI (by omega)
      refine ⟨hC.ty, V.D.p, hp.rp, hp.pr.ty, pr_isView hp.pr hn8 hv _ ?_⟩
      cases hbv : a.G.vw v with
      | true =>
        rw [hbv] at hvw
        refine ⟨fun _ => fin (-2) (fun Q hQ X39 h39 => ⟨fun _ => ref_isRel hO hn8 (fun _ _ _ => ⟨fun q => absurd q (by decide), fun _ => ⟨vp_in_nI (by omega) (by decide), fun _ => hQ, fun q => ?_⟩⟩) (fun h => absurd rfl (h v hv)), fun q => absurd q h808⟩), fun q => absurd q (by decide)⟩
        rw [cl, hvw] at q
        exact absurd q (by decide)
      | false =>
        rw [hbv] at hvw
        -- signs 1 and -1
        have body : ∀ s : Int, (s = 1 ∨ s = -1) → x5 = Int32.ofInt s → (∀ Q : Int32 → mo_U → Prop, (∀ X39 : mo_U → Prop, X39 (mu_of σ m ma) → ((x5 = ((1 : Int32)) → X39 (mu_of σ m ma)) ∧ (¬ x5 = ((1 : Int32)) → (¬ x5 = ((-1 : Int32)) → Q ((-2 : Int32)) (mu_of σ m ma)) ∧ (x5 = ((-1 : Int32)) → X39 (mu_of σ m ma)))))) → X47 σ := by
          intro s hs hx5 hsg
          refine hX _ ⟨hC.ty, V.D.p, hp.rp, hp.pr.ty, V.ta, hp.px.tr, 8, 9, hp.px.tt, vp_in_nI v8 (by decide), ?_⟩
          rw [cl, hp.px.tv v hv]
          have bad : ¬ (isv x2 ∧ isv (gv (a.G.A v) 1 x3) ∧ isv (gv (a.G.A v) 2 x4)) → P (-2) σ := fun hno => fin (-2) (fun Q hQ X39 h39 => ⟨fun _ => ref_isRel hO hn8 (fun _ _ _ => ⟨fun q => absurd q (by decide), fun _ => ⟨vp_in_nI (by omega) (by decide), fun q => absurd (by rw [cl]; exact hvw) q, fun _ => hsg Q X39 (h39 _ (ref_vals hO hn8 hv hA (fun i0 i1 i2 => absurd ⟨i0, i1, i2⟩ hno) (fun _ => ⟨fun q => absurd rfl q, fun _ => hQ⟩)))⟩⟩) (fun h => absurd rfl (h v hv)), fun q => absurd q h808⟩)
          refine vr_pack hA.2 hA.1 x2 x3 x4 σ _ (fun a' b' c' ha hb' hc e1 e2 e3 => ⟨fun _ => ?_, fun q => absurd (nI_pos' (by unfold pk3; omega)) q⟩) (fun hno => ⟨fun q => absurd q (by decide), fun _ => bad hno⟩)
          have hk : pk3 a' b' c' < 1000000000 := by unfold pk3; omega
          have d1 : pk3 a' b' c' / 1000000 = a' := by unfold pk3; omega
          have d2 : pk3 a' b' c' / 1000 % 1000 = b' := by unfold pk3; omega
          have d3 : pk3 a' b' c' % 1000 = c' := by unfold pk3; omega
          have hgood : isv x2 ∧ isv (gv (a.G.A v) 1 x3) ∧ isv (gv (a.G.A v) 2 x4) := ⟨by rw [e1]; exact isv_n ha, by rw [e2]; exact isv_n hb', by rw [e3]; exact isv_n hc⟩
          have hs60 := hC.su
          have hcl := hp.cs.n
          refine ⟨hC.ty, V.O V.uw, hC.ru, hs60.1.1, ?_⟩
          rw [hs60.2.1, show (60 : Int32) = nI 60 from rfl, nI_ltI (by omega) (by decide)]
          refine ⟨fun hlt => ⟨hC.ty, V.O V.uw, hC.ru, hs60.1.1, ?_⟩, fun hge => ?_⟩
          · rw [hx5]
            refine si_append hs60 (by decide) hlt v (pk3 a' b' c') s _ (fun σ1 hL hfr => ?_)
            have hsf := sf_fr hfr
            have hch : ch_ok a.G (a.cs ++ [(v, pk3 a' b' c', s)]) := by
              refine ⟨fun c hc' => ?_, fun c hc' => ?_, fun c hc' => ?_, by rw [List.length_append, List.length_singleton]; omega⟩
              · rcases List.mem_append.mp hc' with z | z
                · exact hp.cs.t c z
                · rw [List.mem_singleton.mp z]; exact ⟨hv, hbv⟩
              · rcases List.mem_append.mp hc' with z | z
                · exact hp.cs.k c z
                · rw [List.mem_singleton.mp z]
                  exact kar_pk hA.2 ha hb' hc (fun z => gv_0 z e2 hb') (fun z => gv_0 z e3 hc) hA.1
              · rcases List.mem_append.mp hc' with z | z
                · exact hp.cs.s c z
                · rw [List.mem_singleton.mp z]; exact hs
            have hC1 := CI_uw hC hsf hb hL hch
            have hrq : req m σ σ1 := qf_req (sf_q hsf)
            have hT1 := mo_T_req hT hrq
            have hR1 := RR_req hT hrq hR
            obtain ⟨T1, hO1⟩ := RR_on hR1 hb
            refine ⟨hC1.ty, V.O V.uw, hC1.ru, hL.1.1, ?_⟩
            rw [hL.2.1]
            refine hP _ σ1 (mo_ty0 hT1) (fun P2 h2 => ?_)
            rw [← mu_put σ1 m ma]
            refine mq_change hT1 (nI v) x2 x3 x4 x5 _ _ P2 (fin_op hC1 hT1 hm h2) (fun X39 h39 => ⟨fun _ => ref_isRel hO1 hn8 (fun _ _ _ => ⟨fun q => absurd q (by decide), fun _ => ⟨vp_in_nI (by omega) (by decide), fun q => absurd (by rw [cl, hO1.t.g.vw v hv, hbv]; rfl) q, fun _ => ?_⟩⟩) (fun h => absurd rfl (h v hv)), fun q => absurd q (RO_808 hp hO1)⟩)
            have hx39 : X39 (mu_of σ1 m ma) := by
              refine h39 _ (ref_vals hO1 hn8 hv hA (fun _ _ _ => ⟨fun _ => ⟨fun _ => ?_, fun q => ?_⟩, fun q => absurd q (by decide)⟩) (fun h => absurd hgood h))
              · rw [hO1.b.1, nI_5, show (1 : Int32) = nI 1 from rfl, show (2 : Int32) = nI 2 from rfl, show (3 : Int32) = nI 3 from rfl, show (4 : Int32) = nI 4 from rfl]
                simp only [nI_k]
                refine ⟨vp_in_nI (by omega) (by decide), fun μ1 f1 => ⟨vp_in_nI (by omega) (by decide), fun μ2 f2 => ?_⟩⟩
                have f35 : (mu_of σ1 m ma).2 35 v = nI (a.G.A v) := (hO1.n v hv).2
                have h2a : mo_fr [46] [] (mu_of σ1 m ma) μ2 := by rw [f2, f1]; exact mo_fr_tr (mo_fr_A (by decide)) (mo_fr_A (by decide))
                refine giv_l (i := 1) (by omega) hA.2 (by rw [h2a.1 35 (by decide)]; exact f35) (by omega) ⟨vp_in_nI (by omega) (by decide), fun μ3 f3 => ?_⟩
                have h3a : mo_fr [46] [] (mu_of σ1 m ma) μ3 := by rw [f3]; exact mo_fr_tr h2a (mo_fr_A (by decide))
                refine giv_l (i := 2) (by omega) hA.2 (by rw [h3a.1 35 (by decide)]; exact f35) (by omega) ⟨vp_in_nI (by omega) (by decide), fun μ4 f4 => ⟨vp_in_nI (by omega) (by decide), fun μ5 f5 μ6 f6 => ?_⟩⟩
                rw [cl_nI (by omega)] at f1 f2 f3 f4 f5
                rw [e2] at f3
                rw [e3] at f4
                rw [e1] at f2
                have h5a : mo_fr [46] [] (mu_of σ1 m ma) μ5 := by rw [f5, f4]; exact mo_fr_tr h3a (mo_fr_tr (mo_fr_A (by decide)) (mo_fr_A (by decide)))
                have h6a : mo_fr [46] [831] (mu_of σ1 m ma) μ6 := by rw [f6]; exact mo_fr_tr (mo_fr_mono h5a (by decide) (by decide)) (mo_fr_I (by decide))
                have e831 : μ6.1 831 = nI (a.cs ++ [(v, pk3 a' b' c', s)]).length := by
                  rw [f6, mu_I_sI, if_pos rfl, h5a.2 831 (by decide), hO1.b.1, nI_k, List.length_append, List.length_singleton]
                refine ⟨by rw [e831], RR_cs hb hR1 h6a e831 ?_, lowf_fr h6a (by decide) (by decide)⟩
                have hA46 : μ6.2 46 = upd (upd (upd (upd (upd ((mu_of σ1 m ma).2 46) (5 * a.cs.length) (nI v)) (5 * a.cs.length + 1) (nI (pk3 a' b' c' / 1000000))) (5 * a.cs.length + 2) (nI (pk3 a' b' c' / 1000 % 1000))) (5 * a.cs.length + 3) (nI (pk3 a' b' c' % 1000))) (5 * a.cs.length + 4) (Int32.ofInt s) := by
                  rw [d1, d2, d3, ← hx5, f6, mu_A_sI, f5, mu_A_sA, if_pos rfl, f4, mu_A_sA, if_pos rfl, f3, mu_A_sA, if_pos rfl, f2, mu_A_sA, if_pos rfl, f1, mu_A_sA, if_pos rfl]
                rw [hA46]
                exact five_app hO1.b.2 v8 hk s
              · rw [hO1.b.1, show (60 : Int32) = nI 60 from rfl, nI_eq (by omega) (by decide)] at q
                omega
            rcases hs with rfl | rfl
            · exact ⟨fun _ => hx39, fun q => absurd hx5 q⟩
            · exact ⟨fun _ => hx39, fun q => ⟨fun q2 => absurd hx5 q2, fun _ => hx39⟩⟩
          · exact fin (-3) (fun Q hQ X39 h39 => ⟨fun _ => ref_isRel hO hn8 (fun _ _ _ => ⟨fun q => absurd q (by decide), fun _ => ⟨vp_in_nI (by omega) (by decide), fun q => absurd (by rw [cl]; exact hvw) q, fun _ => hsg Q X39 (h39 _ (ref_vals hO hn8 hv hA (fun _ _ _ => ⟨fun _ => ⟨fun q => absurd (by rw [hO.b.1, show a.cs.length = 60 by omega]; rfl) q, fun _ => hQ⟩, fun q => absurd q (by decide)⟩) (fun h => absurd hgood h)))⟩⟩) (fun h => absurd rfl (h v hv)), fun q => absurd q h808⟩)
        refine ⟨fun q => absurd rfl q, fun _ => ⟨fun e => body 1 (Or.inl rfl) e (fun Q X39 h => ⟨fun _ => h, fun q => absurd e q⟩), fun n1 => ⟨fun e => body (-1) (Or.inr rfl) e (fun Q X39 h => ⟨fun q => absurd q n1, fun _ => ⟨fun q => absurd e q, fun _ => h⟩⟩), fun n2 => ?_⟩⟩⟩
        exact fin (-2) (fun Q hQ X39 h39 => ⟨fun _ => ref_isRel hO hn8 (fun _ _ _ => ⟨fun q => absurd q (by decide), fun _ => ⟨vp_in_nI (by omega) (by decide), fun q => absurd (by rw [cl]; exact hvw) q, fun _ => ⟨fun q => absurd q n1, fun _ => ⟨fun _ => hQ, fun q => absurd q n2⟩⟩⟩⟩) (fun h => absurd rfl (h v hv)), fun q => absurd q h808⟩)
    · exact fin (-2) (fun Q hQ X39 h39 => ⟨fun _ => ref_isRel hO hn8 (fun v hv e => absurd e (hno v hv)) (fun _ => ⟨fun _ => hQ, fun q => absurd rfl q⟩), fun q => absurd q h808⟩)
  · exact fin (-4) (fun Q hQ X39 h39 => ⟨fun q => absurd (RR_off hR hb).1 q, fun _ => hQ⟩)
