theorem kar_pk {n a b c : Nat} (hn : n ≤ 3) (ha : a < 1000) (hb : b < 1000) (hc : c < 1000) (h1 : n ≤ 1 → b = 0) (h2 : n ≤ 2 → c = 0) (hn1 : 1 ≤ n) : kar n (pk3 a b c) := by
  refine ⟨by unfold pk3; omega, fun i hi hi3 => ?_⟩
  rcases (show i = 1 ∨ i = 2 by omega) with rfl | rfl
  · have := h1 (by omega)
    have := h2 (by omega)
    unfold dg pk3
    rw [if_neg (by decide), if_pos rfl]
    omega
  · have := h2 (by omega)
    unfold dg pk3
    rw [if_neg (by decide), if_neg (by decide)]
    omega
theorem gv_0 {n i : Nat} {w : Int32} {k : Nat} (h : n ≤ i) (e : gv n i w = nI k) (hk : k < 1000) : k = 0 := by
  unfold gv at e
  rw [if_neg (by omega)] at e
  exact ((nI_eq (a := 0) (by decide) (by omega)).mp e).symm
theorem isv_n {k : Nat} (h : k < 1000) : isv (nI k) := isv_iff.mpr ⟨k, h, rfl⟩
theorem op_has : st_has IN := by
  rintro x m σ x1 x2 x3 x4 P ⟨V, a, ma, rfl, hC, hT, hm, hR⟩ hP
  refine ⟨hC.ty, hC.ty, ?_⟩
  have fin : ∀ r : Int32, (∀ Q : Int32 → mo_U → Prop, Q r (mu_of σ m ma) → mp_has x1 x2 x3 x4 (mu_of σ m ma) Q) → P r σ := fun r hr => by
    refine hP r σ (mo_ty0 hT) (fun P2 h2 => ?_)
    rw [← mu_put σ m ma]
    exact mq_has hT x1 x2 x3 x4 _ _ P2 (fin_op hC hT hm h2) (hr _ ⟨rfl, hR, lowf_rf _⟩)
  refine vr_noRules hC _ (fun hb => ⟨fun _ => ?_, fun q => absurd rfl q⟩) (fun hb => ⟨fun q => absurd q (by decide), fun _ => ?_⟩)
  · have hp := CI_prg hC hb
    obtain ⟨T', hO⟩ := RR_on hR hb
    have hn8 := hp.ok.n8
    have h808 := RO_808 hp hO
    refine ⟨hC.ty, V.D.p, hp.rp, hp.pr.ty, vr_isRel hp (fun v hv e => ⟨fun _ => ?_, fun q => absurd q (by decide)⟩) (fun hno => ⟨fun q => absurd rfl q, fun _ => ?_⟩)⟩
    · subst e
      have v8 : v < 8 := by omega
      have hA := hp.a1 v hv
      refine ⟨hC.ty, V.D.p, hp.rp, hp.pr.ty, V.ta, hp.px.tr, 8, 9, hp.px.tt, vp_in_nI v8 (by decide), ?_⟩
      rw [cl_nI (by omega), hp.px.tv v hv]
      refine vr_pack hA.2 hA.1 x2 x3 x4 σ _ (fun a' b' c' ha hb' hc e1 e2 e3 => ⟨fun _ => ?_, fun q => absurd (nI_pos' (by unfold pk3; omega)) q⟩) (fun hno => ⟨fun q => absurd q (by decide), fun _ => ?_⟩)
      · have hk : pk3 a' b' c' < 1000000000 := by unfold pk3; omega
        have hL := hp.N.2 v v8
        refine ⟨hC.ty, V.N.w, hC.rn, 8, V.N.s, hp.N.1.tw, vp_in_nI v8 (by decide), V.N.ra v, hp.N.1.qw v v8, hL.1.1, ro_countOf hL hk _ ?_⟩
        refine fin _ (fun Q hQ => ⟨fun _ => ref_isRel hO hn8 (fun v' _ e' => ⟨fun q => absurd q (by decide), fun _ => ref_vals hO hn8 hv hA (fun _ _ _ => ⟨fun _ => ref_giv (i := 1) hO hn8 hv hA.2 (by omega) (ref_giv (i := 2) hO hn8 hv hA.2 (by omega) ?_), fun q => absurd q (by decide)⟩) (fun h => absurd ⟨by rw [e1]; exact isv_n ha, by rw [e2]; exact isv_n hb', by rw [e3]; exact isv_n hc⟩ h)⟩) (fun h => absurd rfl (h v hv)), fun q => absurd q h808⟩)
        obtain ⟨R, N, hW⟩ := hO.t.w
        rw [e1, e2, e3]
        refine mo_findL hW v8 ha hb' hc _ (fun hin => ?_) (fun hnin => ⟨fun q => absurd rfl q, fun _ => ?_⟩)
        · obtain ⟨g1, g2, g3⟩ := get_cnt hW v8 hin
          refine ⟨fun _ => ?_, fun q => absurd q (ov_m1 (v := al_b (T' v) (pk3 a' b' c')) (by omega))⟩
          rw [show (40 : Int32) = nI 40 from rfl, pk_mul, nI_k, cl_nI (n := 40 * v + al_b (T' v) (pk3 a' b' c')) (by omega), g3, hO.e v hv]
          exact ⟨vp_in_nI (by rw [← hO.e v hv]; exact g1) (by decide), hQ⟩
        · rw [hO.e v hv] at hnin
          rw [al_0 hnin] at hQ
          exact hQ
      · refine fin (-2) (fun Q hQ => ⟨fun _ => ref_isRel hO hn8 (fun v' _ e' => ⟨fun q => absurd q (by decide), fun _ => ref_vals hO hn8 hv hA (fun i0 i1 i2 => absurd ⟨i0, i1, i2⟩ hno) (fun _ => ⟨fun q => absurd rfl q, fun _ => hQ⟩)⟩) (fun h => absurd rfl (h v hv)), fun q => absurd q h808⟩)
    · exact fin (-2) (fun Q hQ => ⟨fun _ => ref_isRel hO hn8 (fun v hv e => absurd e (hno v hv)) (fun _ => ⟨fun _ => hQ, fun q => absurd rfl q⟩), fun q => absurd q h808⟩)
  · exact fin (-4) (fun Q hQ => ⟨fun q => absurd (RR_off hR hb).1 q, fun _ => hQ⟩)
theorem op_row : st_row IN := by
  rintro x m σ x1 x2 x3 P ⟨V, a, ma, rfl, hC, hT, hm, hR⟩ hP
  refine ⟨hC.ty, hC.ty, ?_⟩
  have fin : ∀ r : Int32, (∀ Q : Int32 → mo_U → Prop, Q r (mu_of σ m ma) → mp_row x1 x2 x3 (mu_of σ m ma) Q) → P r σ := fun r hr => by
    refine hP r σ (mo_ty0 hT) (fun P2 h2 => ?_)
    rw [← mu_put σ m ma]
    exact mq_row hT x1 x2 x3 _ _ P2 (fin_op hC hT hm h2) (hr _ ⟨rfl, hR, lowf_rf _⟩)
  refine vr_noRules hC _ (fun hb => ⟨fun _ => ?_, fun q => absurd rfl q⟩) (fun hb => ⟨fun q => absurd q (by decide), fun _ => ?_⟩)
  · have hp := CI_prg hC hb
    obtain ⟨T', hO⟩ := RR_on hR hb
    have hn8 := hp.ok.n8
    have h808 := RO_808 hp hO
    refine ⟨hC.ty, V.D.p, hp.rp, hp.pr.ty, vr_isRel hp (fun v hv e => ⟨fun q => absurd q (by decide), fun _ => ?_⟩) (fun hno => ⟨fun _ => ?_, fun q => absurd rfl q⟩)⟩
    · subst e
      have v8 : v < 8 := by omega
      have hL := hp.N.2 v v8
      have h40 := hp.gd.v.c40 v v8
      obtain ⟨R, N, hW⟩ := hO.t.w
      obtain ⟨t1, t2⟩ := hW.2 v v8
      have hl : (a.T v).length = N v := by rw [← hO.e v hv, t1, mr_l_len]
      have hgd : ∀ j, j < N v → (a.T v).getD j (0, 0) = R v j := fun j hj => by rw [← hO.e v hv, t1, mr_l_gd R N v hj]
      have bad : (∀ j, j ≤ 3 → x3 ≠ nI j) → P (-2) σ := fun hno => fin (-2) (fun Q hQ => ⟨fun _ => ref_isRel hO hn8 (fun v' _ e' => ⟨fun q => absurd q (by decide), fun _ => mp_inC (n := 3) (by decide) (fun j hj ej => absurd ej (hno j hj)) (fun h => ⟨fun q => absurd rfl q, fun _ => hQ⟩)⟩) (fun h => absurd rfl (h v hv)), fun q => absurd q h808⟩)
      have inn : ∀ w, w ≤ 3 → x3 = nI w → ∀ (r : Int32), (∀ Q : Int32 → mo_U → Prop, Q r (mu_of σ m ma) → mp_isIn x2 ((0 : Int32)) (((mu_of σ m ma).2 42 v) - ((1 : Int32))) (mu_of σ m ma) (fun (r40 : Int32) (μ40 : mo_U) => (¬ r40 = 0 → (¬ x3 = ((3 : Int32)) → mp_base (nI v) x2 μ40 (fun (r74 : Int32) (μ74 : mo_U) => vp_in (r74 + x3) 960 ∧ (Q (μ74.2 40 (r74 + x3).toNatClampNeg) μ74))) ∧ (x3 = ((3 : Int32)) → vp_in ((((40 : Int32)) * nI v) + x2) 320 ∧ (Q (μ40.2 41 ((((40 : Int32)) * nI v) + x2).toNatClampNeg) μ40))) ∧ (r40 = 0 → Q ((-1 : Int32)) μ40))) → P r σ := by
        intro w hw e r hr
        refine fin r (fun Q hQ => ⟨fun _ => ref_isRel hO hn8 (fun v' _ e' => ⟨fun q => absurd q (by decide), fun _ => mp_inC (n := 3) (by decide) (fun j hj ej => ⟨fun _ => ?_, fun q => absurd q (by decide)⟩) (fun h => absurd e (h w hw))⟩) (fun h => absurd rfl (h v hv)), fun q => absurd q h808⟩)
        rw [cl_nI (n := v) (by omega)]
        exact ⟨vp_in_nI v8 (by decide), hr Q hQ⟩
      refine ⟨fun q => bad (fun j hj e => ?_), fun q => ⟨fun q3 => ?_, fun q3 => bad (fun j hj e => ?_)⟩⟩
      · rw [e] at q; exact absurd q (nI_pos (by omega))
      · obtain ⟨w, hw, rfl⟩ := nI_of q
        rw [show (3 : Int32) = nI 3 from rfl, nI_leI (by omega) (by decide)] at q3
        have none : (∀ j, j < N v → x2 ≠ nI j) → P (-1) σ := fun hno => inn w q3 rfl (-1) (fun Q hQ => by
          rw [(hW.1.2 v v8).1]
          exact mp_in (by omega) rfl (fun j hj e => absurd e (hno j hj)) (fun _ => ⟨fun q => absurd rfl q, fun _ => hQ⟩))
        refine ⟨hC.ty, V.N.w, hC.rn, 8, V.N.s, hp.N.1.tw, vp_in_nI v8 (by decide), V.N.ra v, by rw [cl_nI (by omega)]; exact hp.N.1.qw v v8, fun q2 => none (fun j hj e => ?_), fun q2 => ⟨hL.1.1, ?_⟩⟩
        · rw [e] at q2; exact absurd q2 (nI_pos (by omega))
        · rw [hL.2.1]
          obtain ⟨j, hj, rfl⟩ := nI_of q2
          rw [nI_ltI hj (by omega)]
          refine ⟨fun hjl => ?_, fun hjn => none (fun j' hj' e => ?_)⟩
          · obtain ⟨c1, c2⟩ := hL.2.2.2.2.2 j hjl
            have hRj := hgd j (by omega)
            obtain ⟨k1, k2, k3, k4, k5⟩ := hW.1.1 v j v8 (by omega)
            have step : ∀ (r : Int32), (∀ Q : Int32 → mo_U → Prop, Q r (mu_of σ m ma) → (¬ nI w = ((3 : Int32)) → mp_base (nI v) (nI j) (mu_of σ m ma) (fun (r74 : Int32) (μ74 : mo_U) => vp_in (r74 + nI w) 960 ∧ (Q (μ74.2 40 (r74 + nI w).toNatClampNeg) μ74))) ∧ (nI w = ((3 : Int32)) → vp_in ((((40 : Int32)) * nI v) + nI j) 320 ∧ (Q ((mu_of σ m ma).2 41 ((((40 : Int32)) * nI v) + nI j).toNatClampNeg) (mu_of σ m ma)))) → P r σ := fun r hr => inn w q3 rfl r (fun Q hQ => by
              rw [(hW.1.2 v v8).1]
              exact mp_in (by omega) rfl (fun _ _ _ => ⟨fun _ => hr Q hQ, fun q => absurd q (by decide)⟩) (fun h => absurd rfl (h j (by omega))))
            rw [show (3 : Int32) = nI 3 from rfl, nI_eq (by omega) (by decide)]
            refine ⟨fun hw3 => ⟨hL.1.1, V.N.ka v, hL.1.2.1, 100, 12, hL.1.2.2.2.1, vp_in_nI (by omega) (by decide), ?_⟩, fun hw3 => ⟨hL.1.1, V.N.ca v, hL.1.2.2.1, 100, 13, hL.1.2.2.2.2, vp_in_nI (by omega) (by decide), ?_⟩⟩
            · rw [cl_nI (by omega), c1]
              refine vr_valueAt (al_k_gd hL.2.2.2.2.1 hjl) (by omega) _ _ ?_
              refine step _ (fun Q hQ => ⟨fun _ => ?_, fun z => absurd ((nI_eq (by omega) (by decide)).mp z) hw3⟩)
              unfold mp_base
              dsimp only
              rw [mo_ix, nI_k, cl_nI (by omega)]
              refine ⟨vp_in_nI (by omega) (by decide), ?_⟩
              rw [hRj] at hQ
              rcases (show w = 0 ∨ w = 1 ∨ w = 2 by omega) with rfl | rfl | rfl
              · rw [Nat.add_zero, k2]; exact hQ
              · rw [k3]; exact hQ
              · rw [k4]; exact hQ
            · rw [cl_nI (by omega), c2]
              refine step _ (fun Q hQ => ⟨fun z => absurd (by rw [hw3]; rfl) z, fun _ => ?_⟩)
              rw [mo_iy, cl_nI (by omega), k5, ← hRj]
              exact ⟨vp_in_nI (by omega) (by decide), hQ⟩
          · rw [nI_eq hj (by omega)] at e; omega
      · rw [e, show (3 : Int32) = nI 3 from rfl, nI_leI (by omega) (by decide)] at q3; omega
    · exact fin (-2) (fun Q hQ => ⟨fun _ => ref_isRel hO hn8 (fun v hv e => absurd e (hno v hv)) (fun _ => ⟨fun _ => hQ, fun q => absurd rfl q⟩), fun q => absurd q h808⟩)
  · exact fin (-4) (fun Q hQ => ⟨fun q => absurd (RR_off hR hb).1 q, fun _ => hQ⟩)
theorem op_difference : st_difference IN := by
  rintro x m σ x1 x2 P ⟨V, a, ma, rfl, hC, hT, hm, hR⟩ hP
  refine ⟨hC.ty, hC.ty, ?_⟩
  have fin : ∀ r : Int32, (∀ Q : Int32 → mo_U → Prop, Q r (mu_of σ m ma) → mp_difference x1 x2 (mu_of σ m ma) Q) → P r σ := fun r hr => by
    refine hP r σ (mo_ty0 hT) (fun P2 h2 => ?_)
    rw [← mu_put σ m ma]
    exact mq_difference hT x1 x2 _ _ P2 (fin_op hC hT hm h2) (hr _ ⟨rfl, hR, lowf_rf _⟩)
  refine vr_noRules hC _ (fun hb => ⟨fun _ => ?_, fun q => absurd rfl q⟩) (fun hb => ⟨fun q => absurd q (by decide), fun _ => ?_⟩)
  · have hp := CI_prg hC hb
    obtain ⟨T', hO⟩ := RR_on hR hb
    have h808 := RO_808 hp hO
    obtain ⟨d1, d2, d3⟩ := hO.d
    have hs := hC.sl
    have bad : (∀ j, j ≤ 4 → x2 ≠ nI j) → P (-2) σ := fun hno => fin (-2) (fun Q hQ => ⟨fun _ => mp_inC (n := 4) (by decide) (fun j hj e => absurd e (hno j hj)) (fun _ => ⟨fun q => absurd rfl q, fun _ => hQ⟩), fun q => absurd q h808⟩)
    refine ⟨fun q => bad (fun j hj e => ?_), fun q => ⟨fun q4 => ?_, fun q4 => bad (fun j hj e => ?_)⟩⟩
    · rw [e] at q; exact absurd q (nI_pos (by omega))
    · obtain ⟨w, hw, rfl⟩ := nI_of q
      rw [show (4 : Int32) = nI 4 from rfl, nI_leI (by omega) (by decide)] at q4
      have none : (∀ j, j < a.dl.length → x1 ≠ nI j) → P (-1) σ := fun hno => fin (-1) (fun Q hQ => ⟨fun _ => mp_inC (n := 4) (by decide) (fun _ _ _ => ⟨fun _ => ?_, fun q => absurd q (by decide)⟩) (fun h => absurd rfl (h w q4)), fun q => absurd q h808⟩)
      refine ⟨fun q1 => none (fun j hj e => ?_), fun q1 => ⟨hC.ty, V.O 7, hC.rl, hs.1.1, ?_⟩⟩
      · rw [e] at q1; exact absurd q1 (nI_pos (by omega))
      · rw [hs.2.1]
        obtain ⟨j, hj, rfl⟩ := nI_of q1
        rw [nI_ltI hj (by omega)]
        refine ⟨fun hjl => ?_, fun hjn => none (fun j' hj' e => ?_)⟩
        · obtain ⟨c1, c2, c3⟩ := hs.2.2.2 j hjl
          obtain ⟨⟨k0, k1, k2, k3, k4⟩, k8, kk⟩ := d3 j hjl
          rw [Nat.zero_add] at k0 k1 k2 k3 k4
          have step : ∀ r : Int32, (mu_of σ m ma).2 49 (5 * j + w) = r → P r σ := fun r hr => fin r (fun Q hQ => ⟨fun _ => mp_inC (n := 4) (by decide) (fun _ _ _ => ⟨fun _ => ?_, fun q => absurd q (by decide)⟩) (fun h => absurd rfl (h w q4)), fun q => absurd q h808⟩)
          · rw [show (4 : Int32) = nI 4 from rfl, nI_eq (by omega) (by decide)]
            refine ⟨fun n0 => ⟨fun n4 => ⟨hC.ty, V.O 7, hC.rl, hs.1.1, V.K 7, hs.1.2.2.1, 640, 16, hs.1.2.2.2.2.2.1, vp_in_nI (by omega) (by decide), ?_⟩, fun e4 => ⟨hC.ty, V.O 7, hC.rl, hs.1.1, V.S 7, hs.1.2.2.2.1, 640, 17, hs.1.2.2.2.2.2.2, vp_in_nI (by omega) (by decide), ?_⟩⟩, fun e0 => ⟨hC.ty, V.O 7, hC.rl, hs.1.1, V.R 7, hs.1.2.1, 640, 15, hs.1.2.2.2.2.1, vp_in_nI (by omega) (by decide), ?_⟩⟩
            · have hw0 : w ≠ 0 := fun z => n0 (by rw [z]; rfl)
              rw [cl_nI (by omega), c2]
              obtain ⟨u, rfl⟩ : ∃ u, w = u + 1 := ⟨w - 1, by omega⟩
              rw [nI_pred]
              refine vr_valueAt kk (by omega) _ _ (step _ ?_)
              rcases (show u = 0 ∨ u = 1 ∨ u = 2 by omega) with rfl | rfl | rfl
              · exact k1
              · exact k2
              · exact k3
            · rw [cl_nI (by omega), c3]
              exact step _ (by rw [e4]; exact k4)
            · have hw0 : w = 0 := (nI_eq (b := 0) (by omega) (by decide)).mp e0
              rw [cl_nI (by omega), c1]
              exact step _ (by rw [hw0]; exact k0)
          · rw [d1]
            refine mp_in (by omega) rfl (fun _ _ _ => ⟨fun q => absurd q (by decide), fun _ => ?_⟩) (fun h => absurd rfl (h j hjl))
            rw [nI_5, nI_k, cl_nI (by omega), hr]
            exact ⟨vp_in_nI (by omega) (by decide), hQ⟩
        · rw [nI_eq hj (by omega)] at e; omega
      · rw [d1]
        exact mp_in (by omega) rfl (fun j hj e => absurd e (hno j hj)) (fun _ => ⟨fun _ => hQ, fun q => absurd rfl q⟩)
    · rw [e, show (4 : Int32) = nI 4 from rfl, nI_leI (by omega) (by decide)] at q4; omega
  · exact fin (-4) (fun Q hQ => ⟨fun q => absurd (RR_off hR hb).1 q, fun _ => hQ⟩)
