theorem ee_rf (σ : z_S) : ee σ σ := ⟨fun _ => rfl, fun _ _ _ => rfl, fun _ _ => rfl, fun _ _ _ _ => rfl, fun _ _ _ _ _ => rfl⟩
theorem lowf_d {μ μ' : mo_U} (h : mo_fr dts dfs μ μ') : lowf μ μ' := lowf_fr h (by decide) (by decide)
theorem hpl_of {a : ab_T} {v : Nat} (h : ¬ cntd a v) : ∀ i, i < a.G.rs.length → (a.G.rs.getD i d_ru).h = v → (a.G.rs.getD i d_ru).c = false := fun i hi e => by
  cases hc : (a.G.rs.getD i d_ru).c with
  | false => rfl
  | true => exact absurd ⟨_, rs_mem hi, e, hc⟩ h
theorem ref_vw {a : ab_T} {μ : mo_U} {T' : Nat → al_T} (hO : RO a μ T') {v : Nat} (hv : v < a.G.n) : μ.2 36 v = if a.G.vw v then 1 else 0 := hO.t.g.vw v hv
theorem dg_pk {a b c : Nat} (ha : a < 1000) (hb : b < 1000) (hc : c < 1000) : dg (pk3 a b c) 0 = a ∧ dg (pk3 a b c) 1 = b ∧ dg (pk3 a b c) 2 = c := by
  unfold dg pk3
  refine ⟨?_, ?_, ?_⟩
  · rw [if_pos rfl]; omega
  · rw [if_neg (by decide), if_pos rfl]; omega
  · rw [if_neg (by decide), if_neg (by decide)]; omega
theorem op_derivations : st_derivations IN := by
  rintro x m σ x1 x2 x3 x4 P ⟨V, a, ma, rfl, hC, hT, hm, hR⟩ hP
  refine ⟨hC.ty, hC.ty, ?_⟩
  have fin : ∀ (r : Int32) (σ1 : z_S), CI V a σ1 → ee σ σ1 → (∀ μ1, RR a μ1 → ∀ Q : Int32 → mo_U → Prop, (∀ μ', mo_fr dts dfs μ1 μ' → Q r μ') → mp_derivations x1 x2 x3 x4 μ1 Q) → P r σ1 := fun r σ1 hC1 he hr => by
    have hT1 := mo_T_req hT (ee_req he)
    have hR1 := RR_req hT (ee_req he) hR
    refine hP r σ1 (mo_ty0 hT1) (fun P2 h2 => ?_)
    rw [← mu_put σ1 m ma]
    exact mq_derivations hT1 x1 x2 x3 x4 _ _ P2 (fin_op hC1 hT1 hm h2) (hr _ hR1 _ (fun μ' hf => ⟨rfl, RR_dts hR1 hf, lowf_d hf⟩))
  refine vr_noRules hC _ (fun hb => ⟨fun _ => ?_, fun q => absurd rfl q⟩) (fun hb => ⟨fun q => absurd q (by decide), fun _ => ?_⟩)
  · have hp := CI_prg hC hb
    have hok := hp.ok
    have hn8 := hok.n8
    refine ⟨hC.ty, V.D.p, hp.rp, hp.pr.ty, vr_isView hp (fun v hv e => ?_) (fun hno => ⟨fun q => absurd rfl q, fun _ => ?_⟩)⟩
    · subst e
      have v8 : v < 8 := by omega
      have hA := hp.a1 v hv
      cases hvw : a.G.vw v with
      | false =>
        refine ⟨fun q => absurd rfl q, fun _ => fin (-2) σ hC (ee_rf σ) (fun μ1 hR1 Q hQ => ?_)⟩
        obtain ⟨T', hO⟩ := RR_on hR1 hb
        intro X100 X129 X155 h100 h129 h155
        refine ⟨fun _ => ref_isRel hO hn8 (fun v' _ e' => ⟨fun q => absurd q (by decide), fun _ => ⟨vp_in_nI (by omega) (by decide), ?_⟩⟩) (fun h => absurd rfl (h v hv)), fun q => absurd q (RO_808 hp hO)⟩
        rw [cl_nI (by omega), ref_vw hO hv, hvw]
        exact ⟨fun _ => hQ _ mo_fr_rf, fun q => absurd rfl q⟩
      | true =>
        refine ⟨fun _ => ?_, fun q => absurd q (by decide)⟩
        refine ⟨hC.ty, V.D.p, hp.rp, hp.pr.ty, V.ta, hp.px.tr, 8, 9, hp.px.tt, vp_in_nI v8 (by decide), ?_⟩
        rw [cl_nI (by omega), hp.px.tv v hv]
        refine vr_pack hA.2 hA.1 x2 x3 x4 σ _ (fun a' b' c' ha hb' hc e1 e2 e3 => ⟨fun _ => ?_, fun q => absurd (nI_pos' (by unfold pk3; omega)) q⟩) (fun hno => ⟨fun q => absurd q (by decide), fun _ => ?_⟩)
        · have hk : pk3 a' b' c' < 1000000000 := by unfold pk3; omega
          have step : ∀ (r : Int32) (σ1 : z_S), CI V a σ1 → ee σ σ1 → (∀ μ1 T', RO a μ1 T' → ∀ Q : Int32 → mo_U → Prop, (∀ μ', mo_fr dts dfs μ1 μ' → Q r μ') → ∀ (X100 : Int32 → Int32 → Int32 → mo_U → Prop) (X129 : Int32 → Int32 → Int32 → Int32 → mo_U → Prop) (X155 : Int32 → Int32 → Int32 → Int32 → mo_U → Prop),
    (∀ (v5 : Int32) (v6 : Int32) (t0 : Int32) (μ : mo_U), (mp_find (nI v) x2 v5 v6 μ (fun (r109 : Int32) (μ109 : mo_U) => (¬ r109 = ((-1 : Int32)) → Q t0 μ109) ∧ (r109 = ((-1 : Int32)) → Q ((0 : Int32)) μ109))) → X100 v5 v6 t0 μ) →
    (∀ (v5 : Int32) (v6 : Int32) (v7 : Int32) (v8 : Int32) (μ : mo_U), (((μ.1 808) ≤ v8 → Q v7 μ) ∧ (¬ (μ.1 808) ≤ v8 → vp_in v8 17 ∧ ((¬ (μ.2 26 v8.toNatClampNeg) = (nI v) → X129 v5 v6 v7 (v8 + (1 : Int32)) μ) ∧ ((μ.2 26 v8.toNatClampNeg) = (nI v) → mp_begin v8 μ (fun (μ152 : mo_U) => X155 v5 v6 v7 v8 μ152))))) → X129 v5 v6 v7 v8 μ) →
    (∀ (v5 : Int32) (v6 : Int32) (v7 : Int32) (v8 : Int32) (μ : mo_U), (mp_next μ (fun (r156 : Int32) (μ156 : mo_U) => (r156 = 0 → X129 v5 v6 v7 (v8 + (1 : Int32)) μ156) ∧ (¬ r156 = 0 → mp_leads x2 v5 v6 μ156 (fun (r170 : Int32) (μ170 : mo_U) => (r170 = 0 → X155 v5 v6 (v7 + ((0 : Int32))) v8 μ170) ∧ (¬ r170 = 0 → X155 v5 v6 (v7 + ((1 : Int32))) v8 μ170))))) → X155 v5 v6 v7 v8 μ) → mp_isCounted (nI v) μ1 (fun (r63 : Int32) (μ63 : mo_U) => (r63 = 0 → X129 (nI b') (nI c') ((0 : Int32)) ((0 : Int32)) μ63) ∧ (¬ r63 = 0 → vp_in (nI v) 9 ∧ ((¬ (μ63.2 35 (nI v).toNatClampNeg) = ((1 : Int32)) → vp_in (nI v) 9 ∧ ((¬ (μ63.2 35 (nI v).toNatClampNeg) = ((2 : Int32)) → X100 (nI b') (nI c') (nI c') μ63) ∧ ((μ63.2 35 (nI v).toNatClampNeg) = ((2 : Int32)) → X100 (nI b') (nI c') (nI b') μ63))) ∧ ((μ63.2 35 (nI v).toNatClampNeg) = ((1 : Int32)) → X100 (nI b') (nI c') x2 μ63))))) → P r σ1 := fun r σ1 hC1 he1 hr => by
            refine fin r σ1 hC1 he1 (fun μ1 hR1 Q hQ => ?_)
            obtain ⟨T', hO⟩ := RR_on hR1 hb
            intro X100 X129 X155 h100 h129 h155
            refine ⟨fun _ => ref_isRel hO hn8 (fun v' _ e' => ⟨fun q => absurd q (by decide), fun _ => ⟨vp_in_nI (by omega) (by decide), ?_⟩⟩) (fun h => absurd rfl (h v hv)), fun q => absurd q (RO_808 hp hO)⟩
            rw [cl_nI (n := v) (by omega), ref_vw hO hv, hvw]
            refine ⟨fun q => absurd q (by decide), fun _ => ref_vals hO hn8 hv hA (fun _ _ _ => ⟨fun _ => ref_giv (i := 1) hO hn8 hv hA.2 (by omega) (ref_giv (i := 2) hO hn8 hv hA.2 (by omega) ?_), fun q => absurd q (by decide)⟩) (fun h => absurd ⟨by rw [e1]; exact isv_n ha, by rw [e2]; exact isv_n hb', by rw [e3]; exact isv_n hc⟩ h)⟩
            rw [e2, e3]
            have := hr μ1 T' hO Q hQ X100 X129 X155 h100 h129 h155
            rw [cl_nI (n := v) (by omega)] at this
            exact this
          refine ⟨hC.ty, V.D.p, hp.rp, hp.pr.ty, vr_isCounted hp hv (fun hcn => ⟨fun _ => ?_, fun q => absurd q (by decide)⟩) (fun hcn => ⟨fun q => absurd rfl q, fun _ => ?_⟩)⟩
          · have hL := hp.N.2 v v8
            refine ⟨hC.ty, V.N.w, hC.rn, 8, V.N.s, hp.N.1.tw, vp_in_nI v8 (by decide), V.N.ra v, hp.N.1.qw v v8, hL.1.1, ro_countOf hL hk _ ?_⟩
            have hpos : ∀ p ∈ a.T v, 0 < p.2 := fun p hp' => by
              rw [hp.gd.o v v8 ((hok.lv v).mp hvw) p hp']; decide
            have g0 := (al_get_pos (key := pk3 a' b' c') hpos).2
            have gb := al_get_bd (M := 100000) (key := pk3 a' b' c') (by decide) (fun p hp' => by
              rw [hp.gd.o v v8 ((hok.lv v).mp hvw) p hp']; decide)
            have hz : Int32.ofInt (al_get (a.T v) (pk3 a' b' c')) = 0 ↔ al_get (a.T v) (pk3 a' b' c') = 0 := by
              rw [← Int32.toInt_inj, ofI_toInt (by omega) (by omega)]
              exact Iff.rfl
            have go : ∀ t : Int32, (a.G.A v = 1 → t = x2) → (a.G.A v = 2 → t = nI b') → (a.G.A v = 3 → t = nI c') → P (if al_get (a.T v) (pk3 a' b' c') = 0 then 0 else t) σ := by
              intro t t1 t2 t3
              refine step _ σ hC (ee_rf σ) (fun μ1 T' hO Q hQ X100 X129 X155 h100 h129 h155 => ?_)
              have all : X100 (nI b') (nI c') t μ1 := by
                refine h100 _ _ _ _ ?_
                obtain ⟨R, N, hW⟩ := hO.t.w
                rw [e1]
                refine mo_findL hW v8 ha hb' hc _ (fun hin => ?_) (fun hnin => ?_)
                · have hin' := hin
                  rw [hO.e v hv] at hin'
                  have hne : ¬ al_get (a.T v) (pk3 a' b' c') = 0 := fun z => g0.mp z hin'
                  rw [if_neg hne] at hQ
                  obtain ⟨g1, g2, g3⟩ := get_cnt hW v8 hin
                  exact ⟨fun _ => hQ _ mo_fr_rf, fun q => absurd q (ov_m1 (v := al_b (T' v) (pk3 a' b' c')) (by omega))⟩
                · rw [hO.e v hv] at hnin
                  rw [if_pos (g0.mpr hnin)] at hQ
                  exact ⟨fun q => absurd rfl q, fun _ => hQ _ mo_fr_rf⟩
              refine ref_isCounted hO hok hv (fun _ => ⟨fun q => absurd q (by decide), fun _ => ⟨vp_in_nI (by omega) (by decide), ?_⟩⟩) (fun z => absurd hcn z)
              rw [cl_nI (n := v) (by omega), (hO.n v hv).2, show (1 : Int32) = nI 1 from rfl, show (2 : Int32) = nI 2 from rfl, nI_eq (by omega) (by decide), nI_eq (by omega) (by decide)]
              refine ⟨fun n1 => ⟨vp_in_nI (by omega) (by decide), fun n2 => ?_, fun n2 => ?_⟩, fun n1 => ?_⟩
              · have e9 := t3 (by omega); rw [e9] at all; exact all
              · have e9 := t2 n2; rw [e9] at all; exact all
              · have e9 := t1 n1; rw [e9] at all; exact all
            rw [hz]
            refine ⟨fun hne => ⟨hC.ty, V.D.p, hp.rp, hp.pr.ty, V.ta, hp.px.tr, 8, 9, hp.px.tt, vp_in_nI v8 (by decide), ?_⟩, fun he => ?_⟩
            · rw [hp.px.tv v hv]
              obtain ⟨d0, d1, d2⟩ := dg_pk ha hb' hc
              obtain ⟨n, hn⟩ : ∃ n, a.G.A v = n + 1 := ⟨a.G.A v - 1, by omega⟩
              rw [hn, nI_pred]
              refine vr_valueAt hk (by omega) _ _ ?_
              have := go (nI (dg (pk3 a' b' c') n)) (fun z => by rw [show n = 0 by omega, d0, e1]) (fun z => by rw [show n = 1 by omega, d1]) (fun z => by rw [show n = 2 by omega, d2])
              rw [if_neg hne] at this
              exact this
            · have := go (if a.G.A v = 1 then x2 else if a.G.A v = 2 then nI b' else nI c') (fun z => by rw [if_pos z]) (fun z => by rw [if_neg (by omega), if_pos z]) (fun z => by rw [if_neg (by omega), if_neg (by omega)])
              rw [if_pos he] at this
              exact this
          · have hkar : kar (a.G.A v) (pk3 a' b' c') := kar_pk hA.2 ha hb' hc (fun z => gv_0 (by omega) e2 hb') (fun z => gv_0 (by omega) e3 hc) hA.1
            have hE := hC.eN
            refine ⟨hC.ty, V.M.a, hC.re, hC.ty, V.D.p, hp.rp, hC.ty, V.N.w, hC.rn, hC.en.ty, ?_⟩
            rw [← hC.ea]
            refine en_countDer hok hp.gd.v hE hp.N hp.pr hp.px.lt v8 hkar (hpl_of hcn) _ (fun σ1 hN1 hf1 => ?_)
            refine step _ σ1 (CI_efN hC hb hf1 hN1) (ee_ef hf1) (fun μ1 T' hO Q hQ X100 X129 X155 h100 h129 h155 => ?_)
            refine ref_isCounted hO hok hv (fun z => absurd z hcn) (fun _ => ⟨fun _ => ?_, fun q => absurd rfl q⟩)
            rw [e1] at h155
            refine ref_dloop hok hO.t v8 ha hb' hc (hpl_of hcn) Q (fun μ' hf => ?_) X129 X155 h129 h155
            rw [dsum_T hO hok v _ _ (Nat.le_refl _)]
            exact hQ μ' hf
        · refine fin (-2) σ hC (ee_rf σ) (fun μ1 hR1 Q hQ => ?_)
          obtain ⟨T', hO⟩ := RR_on hR1 hb
          intro X100 X129 X155 h100 h129 h155
          refine ⟨fun _ => ref_isRel hO hn8 (fun v' _ e' => ⟨fun q => absurd q (by decide), fun _ => ⟨vp_in_nI (by omega) (by decide), ?_⟩⟩) (fun h => absurd rfl (h v hv)), fun q => absurd q (RO_808 hp hO)⟩
          rw [cl_nI (n := v) (by omega), ref_vw hO hv, hvw]
          exact ⟨fun q => absurd q (by decide), fun _ => ref_vals hO hn8 hv hA (fun i0 i1 i2 => absurd ⟨i0, i1, i2⟩ hno) (fun _ => ⟨fun q => absurd rfl q, fun _ => hQ _ mo_fr_rf⟩)⟩
    · refine fin (-2) σ hC (ee_rf σ) (fun μ1 hR1 Q hQ => ?_)
      obtain ⟨T', hO⟩ := RR_on hR1 hb
      intro X100 X129 X155 h100 h129 h155
      exact ⟨fun _ => ref_isRel hO hn8 (fun v hv e => absurd e (hno v hv)) (fun _ => ⟨fun _ => hQ _ mo_fr_rf, fun q => absurd rfl q⟩), fun q => absurd q (RO_808 hp hO)⟩
  · refine fin (-4) σ hC (ee_rf σ) (fun μ1 hR1 Q hQ => ?_)
    intro X100 X129 X155 h100 h129 h155
    exact ⟨fun q => absurd (RR_off hR1 hb).1 q, fun _ => hQ _ mo_fr_rf⟩
