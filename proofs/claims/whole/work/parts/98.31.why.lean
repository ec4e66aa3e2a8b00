theorem tlv_far {lt : Nat → Bool} {b : ev_T} {w : Nat} : ∀ {n : Nat}, rk lt n + 2 ≤ w → tlv lt b w n = none
  | 0, _ => rfl
  | n + 1, h => by
    have e : rk lt (n + 1) = rk lt n + (if lt n then 1 else 0) := rfl
    show (if lt n = true ∧ rk lt n + 2 = w then b n else tlv lt b w n) = none
    rw [if_neg (fun z => by rw [e, if_pos z.1] at h; omega)]
    exact tlv_far (by rw [e] at h; omega)
theorem tlv_near {lt : Nat → Bool} {b : ev_T} {w : Nat} (hw : 2 ≤ w) : ∀ {n : Nat}, w < rk lt n + 2 → ∃ k, k < n ∧ lt k = true ∧ rk lt k + 2 = w ∧ tlv lt b w n = b k
  | 0, h => by
    have : rk lt 0 = 0 := rfl
    omega
  | n + 1, h => by
    have e : rk lt (n + 1) = rk lt n + (if lt n then 1 else 0) := rfl
    by_cases z : lt n = true ∧ rk lt n + 2 = w
    · exact ⟨n, Nat.lt_succ_self n, z.1, z.2, if_pos z⟩
    · have : w < rk lt n + 2 := by
        rw [e] at h
        split at h
        · rename_i q
          have : ¬ rk lt n + 2 = w := fun y => z ⟨q, y⟩
          omega
        · exact h
      obtain ⟨k, h1, h2, h3, h4⟩ := tlv_near (b := b) hw this
      exact ⟨k, by omega, h2, h3, (if_neg z).trans h4⟩
theorem dhas_T {a : ab_T} {μ : mo_U} {T' : Nat → al_T} (hO : RO a μ T') (hok : pg_ok a.G) {v key i : Nat} (hi : i < a.G.rs.length) : dhas a.G (ks T') v key i ↔ dhas a.G (ks a.T) v key i := by
  unfold dhas
  rw [dsol_T hO hok hi]
theorem op_why : st_why IN := by
  rintro x m σ x1 x2 x3 x4 x5 P ⟨V, a, ma, rfl, hC, hT, hm, hR⟩ hP
  refine ⟨hC.ty, hC.ty, ?_⟩
  have fin : ∀ (r : Int32) (σ1 : z_S), CI V a σ1 → ee σ σ1 → (∀ μ1, RR a μ1 → ∀ Q : Int32 → mo_U → Prop, (∀ μ', mo_fr dts dfs μ1 μ' → Q r μ') → mp_why x1 x2 x3 x4 x5 μ1 Q) → P r σ1 := fun r σ1 hC1 he hr => by
    have hT1 := mo_T_req hT (ee_req he)
    have hR1 := RR_req hT (ee_req he) hR
    refine hP r σ1 (mo_ty0 hT1) (fun P2 h2 => ?_)
    rw [← mu_put σ1 m ma]
    exact mq_why hT1 x1 x2 x3 x4 x5 _ _ P2 (fin_op hC1 hT1 hm h2) (hr _ hR1 _ (fun μ' hf => ⟨rfl, RR_dts hR1 hf, lowf_d hf⟩))
  refine vr_noRules hC _ (fun hb => ⟨fun _ => ?_, fun q => absurd rfl q⟩) (fun hb => ⟨fun q => absurd q (by decide), fun _ => ?_⟩)
  · have hp := CI_prg hC hb
    have hok := hp.ok
    have hn8 := hok.n8
    refine ⟨hC.ty, V.D.p, hp.rp, hp.pr.ty, vr_isView hp (fun v hv e => ?_) (fun hno => ⟨fun _ => ?_, fun q => absurd rfl q⟩)⟩
    · subst e
      have v8 : v < 8 := by omega
      have hA := hp.a1 v hv
      cases hvw : a.G.vw v with
      | false =>
        refine ⟨fun _ => fin (-2) σ hC (ee_rf σ) (fun μ1 hR1 Q hQ => ?_), fun q => absurd rfl q⟩
        obtain ⟨T', hO⟩ := RR_on hR1 hb
        intro X83 X112 X149 X187 h83 h112 h149 h187
        refine ⟨fun _ => ref_isRel hO hn8 (fun v' _ e' => ⟨fun q => absurd q (by decide), fun _ => ⟨vp_in_nI (by omega) (by decide), ?_⟩⟩) (fun h => absurd rfl (h v hv)), fun q => absurd q (RO_808 hp hO)⟩
        rw [cl_nI (by omega), ref_vw hO hv, hvw]
        exact ⟨fun _ => hQ _ mo_fr_rf, fun q => absurd rfl q⟩
      | true =>
        refine ⟨fun q => absurd q (by decide), fun _ => ?_⟩
        have c1 : cntd a v → P (-2) σ := fun hcn => fin (-2) σ hC (ee_rf σ) (fun μ1 hR1 Q hQ => by
          obtain ⟨T', hO⟩ := RR_on hR1 hb
          intro X83 X112 X149 X187 h83 h112 h149 h187
          refine ⟨fun _ => ref_isRel hO hn8 (fun v' _ e' => ⟨fun q => absurd q (by decide), fun _ => ⟨vp_in_nI (by omega) (by decide), ?_⟩⟩) (fun h => absurd rfl (h v hv)), fun q => absurd q (RO_808 hp hO)⟩
          rw [cl_nI (by omega), ref_vw hO hv, hvw]
          exact ⟨fun q => absurd q (by decide), fun _ => ref_isCounted hO hok hv (fun _ => ⟨fun _ => hQ _ mo_fr_rf, fun q => absurd q (by decide)⟩) (fun z => absurd hcn z)⟩)
        refine ⟨hC.ty, V.D.p, hp.rp, hp.pr.ty, vr_isCounted hp hv (fun hcn => ⟨fun _ => c1 hcn, fun q => absurd q (by decide)⟩) (fun hcn => ⟨fun q => absurd rfl q, fun _ => ?_⟩)⟩
        have c2 : (∀ j, j ≤ 7 → x5 ≠ nI j) ∨ ¬ (isv x2 ∧ isv (gv (a.G.A v) 1 x3) ∧ isv (gv (a.G.A v) 2 x4)) → P (-2) σ := fun hz => fin (-2) σ hC (ee_rf σ) (fun μ1 hR1 Q hQ => by
          obtain ⟨T', hO⟩ := RR_on hR1 hb
          intro X83 X112 X149 X187 h83 h112 h149 h187
          refine ⟨fun _ => ref_isRel hO hn8 (fun v' _ e' => ⟨fun q => absurd q (by decide), fun _ => ⟨vp_in_nI (by omega) (by decide), ?_⟩⟩) (fun h => absurd rfl (h v hv)), fun q => absurd q (RO_808 hp hO)⟩
          rw [cl_nI (by omega), ref_vw hO hv, hvw]
          exact ⟨fun q => absurd q (by decide), fun _ => ref_isCounted hO hok hv (fun z => absurd z hcn) (fun _ => ⟨fun q => absurd rfl q, fun _ => ref_vals hO hn8 hv hA (fun i0 i1 i2 => ⟨fun q => absurd q (by decide), fun _ => mp_inC (n := 7) (by decide) (fun j hj e => absurd e (hz.elim (fun y => y j hj) (fun y => absurd ⟨i0, i1, i2⟩ y))) (fun _ => ⟨fun q => absurd rfl q, fun _ => hQ _ mo_fr_rf⟩)⟩) (fun _ => ⟨fun _ => hQ _ mo_fr_rf, fun q => absurd rfl q⟩)⟩)⟩)
        refine ⟨fun q => c2 (Or.inl (fun j hj e => ?_)), fun q => ⟨fun q7 => ?_, fun q7 => c2 (Or.inl (fun j hj e => ?_))⟩⟩
        · rw [e] at q; exact absurd q (nI_pos (by omega))
        · obtain ⟨w, hw, rfl⟩ := nI_of q
          rw [show (7 : Int32) = nI 7 from rfl, nI_leI (by omega) (by decide)] at q7
          refine ⟨hC.ty, V.D.p, hp.rp, hp.pr.ty, V.ta, hp.px.tr, 8, 9, hp.px.tt, vp_in_nI v8 (by decide), ?_⟩
          rw [cl_nI (by omega), hp.px.tv v hv]
          refine vr_pack hA.2 hA.1 x2 x3 x4 σ _ (fun a' b' c' ha hb' hc e1 e2 e3 => ⟨fun _ => ?_, fun q => absurd (nI_pos' (by unfold pk3; omega)) q⟩) (fun hno => ⟨fun q => absurd q (by decide), fun _ => c2 (Or.inr hno)⟩)
          have hk : pk3 a' b' c' < 1000000000 := by unfold pk3; omega
          have hkar : kar (a.G.A v) (pk3 a' b' c') := kar_pk hA.2 ha hb' hc (fun z => gv_0 (by omega) e2 hb') (fun z => gv_0 (by omega) e3 hc) hA.1
          have hn16 := hp.pr.n16
          have go : ∀ (r : Int32) (σ1 : z_S), rw_L V.N σ1 a.T → ef V.N σ σ1 → ((∀ i, i < a.G.rs.length → ¬ dhas a.G (ks a.T) v (pk3 a' b' c') i) → r = -1) → (∀ i bb, i < a.G.rs.length → (∀ j, j < i → ¬ dhas a.G (ks a.T) v (pk3 a' b' c') j) → dhas a.G (ks a.T) v (pk3 a' b' c') i → bestL (dsol (ks a.T) (a.G.rs.getD i d_ru) (pk3 a' b' c')) = some bb → r = tlr (vlt (a.G.rs.getD i d_ru).ls) bb i w) → P r σ1 := fun r σ1 hN1 hf1 r0 r1 => by
            refine fin r σ1 (CI_efN hC hb hf1 hN1) (ee_ef hf1) (fun μ1 hR1 Q hQ => ?_)
            obtain ⟨T', hO⟩ := RR_on hR1 hb
            intro X83 X112 X149 X187 h83 h112 h149 h187
            refine ⟨fun _ => ref_isRel hO hn8 (fun v' _ e' => ⟨fun q => absurd q (by decide), fun _ => ⟨vp_in_nI (by omega) (by decide), ?_⟩⟩) (fun h => absurd rfl (h v hv)), fun q => absurd q (RO_808 hp hO)⟩
            rw [cl_nI (n := v) (by omega), ref_vw hO hv, hvw]
            refine ⟨fun q => absurd q (by decide), fun _ => ref_isCounted hO hok hv (fun z => absurd z hcn) (fun _ => ⟨fun q => absurd rfl q, fun _ => ref_vals hO hn8 hv hA (fun _ _ _ => ⟨fun q => absurd q (by decide), fun _ => mp_inC (n := 7) (by decide) (fun j hj e => ⟨fun _ => ref_giv (i := 1) hO hn8 hv hA.2 (by omega) (ref_giv (i := 2) hO hn8 hv hA.2 (by omega) ?_), fun q => absurd q (by decide)⟩) (fun h => absurd rfl (h w q7))⟩) (fun h => absurd ⟨by rw [e1]; exact isv_n ha, by rw [e2]; exact isv_n hb', by rw [e3]; exact isv_n hc⟩ h)⟩)⟩
            rw [e2, e3]
            rw [e1] at h112
            refine ref_wloop hok hO.t hO.l v8 ha hb' hc q7 (hpl_of hcn) Q (fun h0 μ' hf => ?_) (fun i bb hi hl hh hbb μ' hf => ?_) X83 X112 X149 X187 h83 h112 h149 h187
            · rw [← r0 (fun i hi z => h0 i hi ((dhas_T hO hok hi).mpr z))]
              exact hQ μ' hf
            · rw [dsol_T hO hok hi] at hbb
              rw [← r1 i bb hi (fun j hj z => hl j hj ((dhas_T hO hok (by omega)).mpr z)) ((dhas_T hO hok hi).mp hh) hbb]
              exact hQ μ' hf
          refine ⟨hC.ty, V.M.a, hC.re, hC.ty, V.D.p, hp.rp, hC.ty, V.N.w, hC.rn, hC.en.ty, ?_⟩
          rw [← hC.ea]
          refine en_findLeast hok hp.gd.v hC.eN hp.N hp.pr hp.px.lt v8 hkar (hpl_of hcn) _ (fun h0 σ1 hN1 hf1 => ⟨fun q => absurd q (by decide), fun _ => ?_⟩) (fun i bb hi hl hh hbb σ1 hN1 hf1 hE1 hls => ⟨fun _ => ?_, fun q => absurd (nI_pos' (by omega)) q⟩)
          · exact go (-1) σ1 hN1 hf1 (fun _ => rfl) (fun i bb hi _ hh _ => absurd hh (h0 i hi))
          · have uni : ∀ r : Int32, r = tlr (vlt (a.G.rs.getD i d_ru).ls) bb i w → P r σ1 := fun r hr => go r σ1 hN1 hf1 (fun z => absurd hh (z i hi)) (fun i' bb' hi' hl' hh' hbb' => by
              have hii : i' = i := by
                rcases Nat.lt_trichotomy i' i with z | z | z
                · exact absurd hh' (hl i' z)
                · exact z
                · exact absurd hh (hl' i z)
              subst hii
              rw [hbb] at hbb'
              rw [hr, Option.some.inj hbb'])
            have hC1 := CI_efN hC hb hf1 hN1
            have hp1 := CI_prg hC1 hb
            obtain ⟨p1, _, _, _⟩ := hp1.pr.ru i hi
            have hlt := hp1.px.lt i hi
            refine ⟨hC1.ty, V.D.p, hp1.rp, hp1.pr.ty, V.D.pa, hp1.pr.rr, 16, 7, hp1.pr.tr, vp_in_nI (by omega) (by decide), V.D.ro i, by rw [cl_nI (by omega)]; exact p1, hlt.ty, ?_⟩
            have h6 := hlt.n6
            rw [hlt.n, show (2 : Int32) = nI 2 from rfl, nI_leI (by decide) (by omega)]
            refine ⟨fun h2 => ?_, fun h2 => ⟨fun w0 => ?_, fun w0 => ?_⟩⟩
            · obtain ⟨u, rfl⟩ : ∃ u, w = u + 2 := ⟨w - 2, by omega⟩
              rw [show nI (u + 2) - nI 2 = nI u from by rw [← nI_k]; exact Int32.add_sub_cancel _ _, nI_leI (by omega) (by omega)]
              refine ⟨fun hle => ?_, fun hgt => ?_⟩
              · refine uni _ ?_
                unfold tlr
                rw [if_neg (by omega), if_neg (by omega), tlv_far (by omega)]
                rfl
              · obtain ⟨k, k1, k2, k3, k4⟩ := tlv_near (lt := vlt (a.G.rs.getD i d_ru).ls) (b := bb) (w := u + 2) (by omega) (n := 26) (by omega)
                obtain ⟨y, y1, y2⟩ := hls k k1 k2
                refine ⟨hC1.ty, V.M.a, hC1.re, hC1.en.ty, V.N.l, by rw [← hC1.ea]; exact hE1.rl, 6, 2, hE1.tl, vp_in_nI (by omega) (by decide), ?_⟩
                refine uni _ ?_
                unfold tlr
                rw [if_neg (by omega), if_neg (by omega), k4, y1, cl_nI (by omega), show u = rk (vlt (a.G.rs.getD i d_ru).ls) k by omega, y2]
                rfl
            · have : w = 1 := by
                have : w ≠ 0 := fun z => w0 (by rw [z]; rfl)
                omega
              refine uni _ ?_
              unfold tlr
              rw [if_neg (by omega), if_pos this]
            · have : w = 0 := (nI_eq (b := 0) (by omega) (by decide)).mp w0
              refine uni _ ?_
              unfold tlr
              rw [if_pos this]
        · rw [e, show (7 : Int32) = nI 7 from rfl, nI_leI (by omega) (by decide)] at q7; omega
    · refine fin (-2) σ hC (ee_rf σ) (fun μ1 hR1 Q hQ => ?_)
      obtain ⟨T', hO⟩ := RR_on hR1 hb
      intro X83 X112 X149 X187 h83 h112 h149 h187
      exact ⟨fun _ => ref_isRel hO hn8 (fun v hv e => absurd e (hno v hv)) (fun _ => ⟨fun _ => hQ _ mo_fr_rf, fun q => absurd rfl q⟩), fun q => absurd q (RO_808 hp hO)⟩
  · refine fin (-4) σ hC (ee_rf σ) (fun μ1 hR1 Q hQ => ?_)
    intro X83 X112 X149 X187 h83 h112 h149 h187
    exact ⟨fun q => absurd (RR_off hR1 hb).1 q, fun _ => hQ _ mo_fr_rf⟩
