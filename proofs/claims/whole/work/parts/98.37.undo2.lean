theorem lay_0 {G : pg_T} (hok : pg_ok G) {v : Nat} (hv : G.vw v = false) : G.lay v = 0 := by
  rcases Nat.eq_zero_or_pos (G.lay v) with z | z
  · exact z
  · rw [(hok.lv v).mpr z] at hv; cases hv
theorem T3_tab {G : pg_T} (hok : pg_ok G) {T gl T3 : Nat → al_T} {cs : sl_T} {d : Int} (hs : suc G T cs d gl T3) {v : Nat} (hv : v < G.n) (hw : G.vw v = false) : T3 v = bT G T cs d v := by
  rw [hs.lo v (lay_0 hok hw)]
  unfold T2f bT
  rw [if_pos hv, hw, if_neg (by decide), if_neg (by decide)]
theorem op_undo : st_undo IN := by
  rintro x m σ P ⟨V, a, ma, rfl, hC, hT, hm, hR⟩ hP
  refine ⟨hC.ty, hC.ty, ?_⟩
  have same : ∀ (r : Int32), (∀ Q : Int32 → mo_U → Prop, Q r (mu_of σ m ma) → mp_undo (mu_of σ m ma) Q) → P r σ := fun r hr => by
    refine hP r σ (mo_ty0 hT) (fun P2 h2 => ?_)
    rw [← mu_put σ m ma]
    exact mq_undo hT _ _ P2 (fin_op hC hT hm h2) (hr _ ⟨rfl, hR, lowf_rf _⟩)
  refine vr_noRules hC _ (fun hb => ⟨fun _ => ⟨hC.ty, ?_⟩, fun q => absurd rfl q⟩) (fun hb => ⟨fun q => absurd q (by decide), fun _ => ?_⟩)
  · have hp := CI_prg hC hb
    have hok := hp.ok
    have hn8 := hok.n8
    have h6 := hC.h6
    rw [hC.ds]
    rcases List.eq_nil_or_concat a.hs with hnil | ⟨init, h, hcat⟩
    · rw [hnil]
      refine ⟨fun q => absurd q (by decide), fun _ => same (-1) (fun Q hQ => ?_)⟩
      obtain ⟨T', hO⟩ := RR_on hR hb
      refine ⟨fun _ => ⟨fun q => absurd ?_ q, fun _ => hQ⟩, fun q => absurd q (RO_808 hp hO)⟩
      rw [hO.h.1, hnil]; rfl
    · rw [List.concat_eq_append] at hcat
      have hlen : a.hs.length = init.length + 1 := by rw [hcat, List.length_append]; rfl
      have hgd : a.hs.getD init.length [] = h := by
        rw [hcat, List.getD_eq_getElem?_getD, List.getElem?_append_right (Nat.le_refl _), Nat.sub_self]
        rfl
      have hgi : ∀ i, i < init.length → a.hs.getD i [] = init.getD i [] := fun i hi => by
        rw [hcat, List.getD_eq_getElem?_getD, List.getElem?_append_left hi, List.getD_eq_getElem?_getD]
      have hch : ch_ok a.G h := hp.hc h (by rw [hcat]; exact List.mem_append_right _ (List.mem_singleton.mpr rfl))
      have hlc := hp.lc
      rw [hcat, List.reverse_append] at hlc
      obtain ⟨T0, hg0, _, hbk, he0, hlc0⟩ := (show LC a.G a.T (h :: init.reverse) from hlc)
      obtain ⟨hbu, hbT⟩ := undo_ok hok hp.gd hg0 hch hbk he0
      obtain ⟨gl, hgl⟩ := gl_of hp
      have hgk : ∀ v, v < 8 → ¬ v < a.G.n → al_k (gl v) := fun v h1 h2 => (hgl v h1 h2).1.2.2.2.2.1
      have hS := T2f_S (d := -1) hp.gd.v hch hgk
      have nofull : ¬ bFull a.G a.T h (-1) := fun ⟨v, v1, v2, v3⟩ => by
        rw [hbT v v1 v2] at v3
        have := hg0.v.c40 v (by omega)
        omega
      have noov : ¬ WOv a.G 8 (ks (T2f a.G a.T h (-1) gl)) := fun z => by
        have z2 := WOv_res hok hp.ln hS z
        rw [T2f_res (T' := a.T) (fun _ _ => rfl), show res a.G.n (ks (Tz a.G (bT a.G a.T h (-1)))) = res a.G.n (ks (Tz a.G T0)) from by
          funext v
          by_cases hv : v < a.G.n
          · rw [res_lt hv, res_lt hv]
            unfold ks Tz
            cases hw : a.G.vw v with
            | true => rfl
            | false => rw [if_neg (by decide), if_neg (by decide), hbT v hv hw]
          · rw [res_ge hv, res_ge hv]] at z2
        exact WK_WOv hg0.w z2
      rw [hlen]
      refine ⟨fun _ => ⟨hC.ty, V.dn, hC.rd, hC.ty, 6, 22, hC.td, ?_⟩, fun q => absurd ((nI_leI (a := 1) (by decide) (by omega)).mpr (by omega)) q⟩
      rw [show nI (init.length + 1) - (1 : Int32) = nI init.length from nI_pred _, cl_nI (by omega)]
      refine ⟨vp_in_nI (by omega) (by decide), V.O (V.dd init.length), hC.qd _ (by omega), hC.ty, ?_⟩
      rw [show (-1 : Int32) = Int32.ofInt (-1) from rfl]
      have hsd := hC.sd init.length (by omega)
      rw [hgd] at hsd
      refine vr_settle hok hp.ln (CI_VS hC hb) hp.gd.v hp.gd.t (gl := gl) (fun v h1 h2 => ⟨(hgl v h1 h2).1, (hgl v h1 h2).2.1, fun p hp' => by have := (hgl v h1 h2).2.2 p hp'; omega⟩) hsd hch (Or.inr rfl) _ (fun z => absurd hbu z) (fun _ z => absurd z (fun y => y.elim nofull noov)) (fun _ _ T3 σ1 σ2 σ3 hW hv3 hlo h1 f1 f2 f3 f4 e3 => ⟨fun q => absurd q (nI_pos ?_), fun _ => ?_⟩)
      · have := f4.2.2.1
        omega
      · have s3 := st3_mk hC hb f1 f2 f3 f4 e3
        have hs : suc a.G a.T h (-1) gl T3 := ⟨hbu, nofull, hW, hv3, hlo, h1⟩
        have hg3 := good_3 hok hp.ln hp.gd (fun v h1 h2 => (hgl v h1 h2).2) hch hbu hW hS hv3 hlo h1
        have tx : z_ty σ3 V.x = some (.inl 7) := by rw [s3.f.ty]; exact hC.ty
        refine ⟨tx, tx, fun σ4 e4 => ?_⟩
        rw [s3.ds, hlen, show nI (init.length + 1) - (1 : Int32) = nI init.length from nI_pred _] at e4
        have f34 : ff V.dn σ σ4 := by rw [e4]; exact ff_tr s3.f (ff_I _ (Or.inr rfl) _ _ _)
        have hC4 : CI (sV V V.uw V.dd) (aS a T3 a.cs init (dff a.G a.T T3 a.G.n)) σ4 := by
          refine CI_sw hC hb f34 ?_ ?_ ?_ (fun i hi => ?_) ?_ (by omega) ?_ ?_ ?_ hC.uw hC.id ?_ (fun i hi => ?_) hg3 hp.cs (fun y hy => hp.hc y (by rw [hcat]; exact List.mem_append_left _ hy)) (LC_c (fun v v1 v2 => ?_) hlc0)
          · rw [e4]; exact s3.rn
          · rw [e4]; exact s3.rm
          · rw [e4]; exact s3.ru
          · rw [e4]; exact s3.qd i hi
          · rw [e4, z_I_sI, if_pos ⟨rfl, rfl⟩]
          · rw [e4]; exact rw_L_7 s3.N
          · rw [e4]; exact rw_L_7 s3.M
          · rw [e4]; exact si_L_I (by decide) s3.sl
          · rw [e4]; exact si_L_I (by decide) (s3.si _ hC.uw.1 _ _ hC.su)
          · rw [e4, ← hgi i hi]
            exact si_L_I (by decide) (s3.si _ (hC.uw.2 i (by omega)).1 _ _ (hC.sd i (by omega)))
          · rw [T3_tab hok hs v1 v2, hbT v v1 v2]
        have hT4 := mo_T_req hT (ff_req f34)
        have hR4 := RR_req hT (ff_req f34) hR
        refine hP _ σ4 (mo_ty0 hT4) (fun P2 h2 => ?_)
        rw [← mu_put σ4 m ma]
        refine mq_undo hT4 _ _ P2 (fin_op hC4 hT4 hm h2) ?_
        obtain ⟨T', hO⟩ := RR_on hR4 hb
        generalize mu_of σ4 m ma = μ at hR4 hO ⊢
        have hO834 := hO.h.1
        rw [hlen] at hO834
        refine ⟨fun _ => ⟨fun _ => ?_, fun q => absurd q ?_⟩, fun q => absurd q (RO_808 hp hO)⟩
        · rw [hO834, show nI (init.length + 1) - (1 : Int32) = nI init.length from nI_pred _]
          intro μ1 e1
          have h834 : μ1.1 834 = nI init.length := by rw [e1, mu_I_sI, if_pos rfl]
          have fr1 : mo_fr bts bfs μ μ1 := by rw [e1]; exact fr_sI (by decide) _
          have h48 : μ1.2 48 init.length = nI h.length := by
            rw [e1]
            have := (hO.h.2 init.length (by omega)).1
            rw [hgd] at this
            exact this
          have h47 : fives (μ1.2 47) (300 * init.length) h := by
            rw [e1]
            have := (hO.h.2 init.length (by omega)).2
            rw [hgd] at this
            exact this
          have hc60 := hch.n
          rw [h834, cl_nI (by omega), h48, show (300 : Int32) = nI 300 from rfl, pk_mul, show (-1 : Int32) = Int32.ofInt (-1) from rfl]
          refine ⟨vp_in_nI (by omega) (by decide), ref_sum ⟨by decide, by decide, by decide⟩ (by decide) h47 hc60 (by show _ ≤ 1800; omega) (by decide) _ (fun μ2 fr2 hSS => ?_)⟩
          have fr12 : mo_fr [55] [834, 847] μ μ2 := mo_fr_tr (by rw [e1]; exact fr_sI (by decide) _) (fr_mono fr2 (by decide) (by decide) : mo_fr [55] [834, 847] μ1 μ2)
          have hT2 : rT μ2 a.G T' := rT_fr hO.t fr12 (by decide) (by decide)
          refine ref_taken hp hO hT2 hch (Or.inr rfl) hSS hgk hs _ (fun T4 μ3 hT4' fr3 he hz hDL => ?_)
          have fr13 : mo_fr bts bfs μ μ3 := mo_fr_tr (fr_mono fr12 (by decide) (by decide)) (fr_mono fr3 (by decide) (by decide))
          refine ⟨hDL.1, RR_sw hR4 hb hO fr13 hT4' he hz ⟨?_, ?_⟩ ⟨?_, fun i hi => ?_⟩ hDL, lowf_fr fr13 (by decide) (by decide)⟩
          · rw [fr3.2 831 (by decide), fr12.2 831 (by decide)]; exact hO.b.1
          · rw [fr3.1 46 (by decide), fr12.1 46 (by decide)]; exact hO.b.2
          · rw [fr3.2 834 (by decide), fr2.2 834 (by decide)]; exact h834
          · rw [fr3.1 48 (by decide), fr12.1 48 (by decide), fr3.1 47 (by decide), fr12.1 47 (by decide), ← hgi i hi]
            exact hO.h.2 i (by omega)
        · rw [hO834]
          exact fun z => absurd ((nI_eq (b := 0) (by omega) (by decide)).mp z) (by omega)
  · refine same (-4) (fun Q hQ => ?_)
    exact ⟨fun q => absurd (RR_off hR hb).1 q, fun _ => hQ⟩
