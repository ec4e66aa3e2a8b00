theorem op_batch : st_batch IN := by
  rintro x m σ P ⟨V, a, ma, rfl, hC, hT, hm, hR⟩ hP
  refine ⟨hC.ty, fun X28 h28 => ⟨hC.ty, ?_⟩⟩
  refine vr_noRules hC _ (fun hb => ⟨fun _ => ?_, fun q => absurd rfl q⟩) (fun hb => ⟨fun q => absurd q (by decide), fun _ => ?_⟩)
  · have hp := CI_prg hC hb
    have hok := hp.ok
    have hn8 := hok.n8
    have h6 := hC.h6
    have hch := hp.cs
    have hc60 := hch.n
    obtain ⟨gl, hgl⟩ := gl_of hp
    have hgk : ∀ v, v < 8 → ¬ v < a.G.n → al_k (gl v) := fun v h1 h2 => (hgl v h1 h2).1.2.2.2.2.1
    have hS := T2f_S (d := 1) hp.gd.v hch hgk
    -- refused
    have bad : ∀ (r : Int32) (σ1 : z_S), ef V.M σ σ1 → (∀ v, v < 8 → ¬ v < a.G.n → ro_L σ1 (V.M.ra v) (V.M.ka v) (V.M.ca v) (gl v)) → (∀ μ T' μ1, RO a μ T' → rT μ1 a.G T' → mo_SS μ1 (ssum a.cs 1) → ∀ Q : Int32 → mo_U → Prop, (∀ μ2, rT μ2 a.G T' → mo_fr at0 af0 μ1 μ2 → Q r μ2) → mp_apply μ1 Q) → ¬ r = 0 → X28 r σ1 := by
      intro r σ1 f1 hM1 happ hr0
      have hC1 := CI_efM hC hb f1 (fun v h1 h2 => ⟨gl v, hM1 v h1 h2, (hgl v h1 h2).2⟩)
      have hs := hC1.su
      refine h28 r σ1 ⟨hC1.ty, V.O V.uw, hC1.ru, hs.1.1, fun σ2 e2 => ?_⟩
      have hsf : sf (V.O V.uw) (V.R V.uw) (V.K V.uw) (V.S V.uw) σ1 σ2 := by
        rw [e2]
        exact ⟨fun _ => rfl, fun _ _ => rfl, fun _ _ => rfl, fun f b h1 => by rw [z_I_sI, if_neg (fun z => h1 z.1 z.2)], fun _ _ _ _ _ => rfl⟩
      have hC2 : CI V (acs a []) σ2 := CI_uw hC1 hsf hb (by rw [e2]; exact si_L_nil hs.1) (ch_nil _)
      have f2 : ff V.dn σ σ2 := ff_tr (ff_ef _ f1) (ff_sf _ hsf)
      have hT2 := mo_T_req hT (ff_req f2)
      have hR2 := RR_req hT (ff_req f2) hR
      refine hP r σ2 (mo_ty0 hT2) (fun P2 h2 => ?_)
      rw [← mu_put σ2 m ma]
      refine mq_batch hT2 _ _ P2 (fin_op hC2 hT2 hm h2) ?_
      obtain ⟨T', hO⟩ := RR_on hR2 hb
      generalize mu_of σ2 m ma = μ at hR2 hO ⊢
      intro X53 X84 X116 h53 h84 h116
      refine ⟨fun _ => ref_b0 hO hc60 (fun μ1 fr1 h831 hSS hT1 => ?_), fun q => absurd q (RO_808 hp hO)⟩
      refine happ μ T' μ1 hO hT1 hSS _ (fun μ2 hT2' fr2 => ⟨fun q => absurd q hr0, fun _ => ?_⟩)
      have fr : mo_fr bts bfs μ μ2 := mo_fr_tr (fr_mono fr1 (by decide) (by decide)) (fr_mono fr2 (by decide) (by decide))
      refine ⟨rfl, RR_sw (cs := []) (hs := a.hs) (dl := a.dl) hR2 hb hO fr hT2' hO.e hO.p ⟨?_, fun i hi => absurd hi (Nat.not_lt_zero i)⟩ ⟨?_, fun i hi => ?_⟩ ⟨?_, hO.d.2.1, ?_⟩, lowf_fr fr (by decide) (by decide)⟩
      · rw [fr2.2 831 (by decide)]; exact h831
      · rw [fr2.2 834 (by decide), fr1.2 834 (by decide)]; exact hO.h.1
      · rw [fr2.1 48 (by decide), fr1.1 48 (by decide), fr2.1 47 (by decide), fr1.1 47 (by decide)]; exact hO.h.2 i hi
      · rw [fr2.2 836 (by decide), fr1.2 836 (by decide)]; exact hO.d.1
      · rw [fr2.1 49 (by decide), fr1.1 49 (by decide)]; exact hO.d.2.2
    refine ⟨hC.ty, V.O V.uw, hC.ru, hC.ty, ?_⟩
    refine vr_settle (d := 1) hok hp.ln (CI_VS hC hb) hp.gd.v hp.gd.t (gl := gl) (fun v h1 h2 => ⟨(hgl v h1 h2).1, (hgl v h1 h2).2.1, fun p hp' => by have := (hgl v h1 h2).2.2 p hp'; omega⟩) hC.su hch (Or.inl rfl) _ (fun hnb σ1 f1 hM1 => ⟨fun _ => ?_, fun q => absurd (by decide) q⟩) (fun hbo hov σ1 f1 hM1 => ⟨fun _ => ?_, fun q => absurd (by decide) q⟩) (fun hbo hnf T3 σ1 σ2 σ3 hW hv3 hlo h1 f1 f2 f3 f4 e3 => ⟨fun q => absurd q (nI_pos ?_), fun _ => ?_⟩)
    · refine bad _ σ1 f1 hM1 (fun μ T' μ1 hO hT1 hSS Q hQ => ?_) (by decide)
      obtain ⟨h9, hpos⟩ := RO_9 hp hO
      have hnb' : ¬ bOk T' a.cs 1 := fun z => hnb (bOk_c hch hO.e z)
      exact ref_apply hok hT1 h9 hpos hch (Or.inl rfl) hSS Q (fun _ μ2 fr => hQ μ2 (rT_fr hT1 fr (by decide) (by decide)) (fr_mono fr (by decide) (by decide))) (fun z => absurd z hnb') (fun z => absurd z hnb')
    · refine bad _ σ1 f1 hM1 (fun μ T' μ1 hO hT1 hSS Q hQ => ?_) (by decide)
      obtain ⟨h9, hpos⟩ := RO_9 hp hO
      have heq : ∀ v, v < a.G.n → a.T v = T' v := fun v hv => (hO.e v hv).symm
      have hS' := bT_S (G := a.G) (T := T') (cs := a.cs) (d := 1) (fun v => ⟨(rT_srt hT1 v).1, (rT_srt hT1 v).2.1⟩) hch
      refine ref_apply hok hT1 h9 hpos hch (Or.inl rfl) hSS Q (fun z => absurd (bOk_c hch heq hbo) z) (fun _ _ μ2 h2 fr => hQ μ2 h2 fr) (fun _ T4 μ2 hT4 fr hW hlo h1 hDL => ?_)
      exfalso
      rcases hov with ⟨v, v1, v2, v3⟩ | z
      · rw [bT_c (heq v v1), ← hlo v (lay_0 hok v2)] at v3
        have := (rT_srt hT4 v).2.2
        omega
      · have z2 := WOv_res hok hp.ln hS z
        have z1 := WK_res hok hp.ln hS' hW
        rw [T2f_res heq] at z2
        exact WK_WOv z1 z2
    · have := f4.2.2.1
      omega
    · have s3 := st3_mk hC hb f1 f2 f3 f4 e3
      have hs : suc a.G a.T a.cs 1 gl T3 := ⟨hbo, hnf, hW, hv3, hlo, h1⟩
      have hg3 := good_3 hok hp.ln hp.gd (fun v h1 h2 => (hgl v h1 h2).2) hch hbo hW hS hv3 hlo h1
      have tx : z_ty σ3 V.x = some (.inl 7) := by rw [s3.f.ty]; exact hC.ty
      refine ⟨tx, vr_kept (O := V.O) (dd := V.dd) (uw := V.uw) (n := a.hs.length) tx (by rw [s3.f.R 709 _ (by omega) (by omega)]; exact hC.rd) (by rw [s3.f.ty]; exact hC.td) s3.qd s3.ru s3.ds h6 (fun i hi => by rw [s3.f.ty]; exact (hC.st i hi).1) (fun i hi => (hC.uw.2 i hi).1) hC.uw.1 _ (fun σ4 k4 q4 r4 i4 => ?_)⟩
      obtain ⟨hu', hid'⟩ := ddn_ok h6 hC.uw hC.id
      have f4' : ff V.dn σ σ4 := ff_tr s3.f (ff_kf k4)
      refine h28 _ σ4 ⟨by rw [k4.ty]; exact tx, V.O (uwn V.dd a.hs.length), r4, by rw [f4'.ty]; exact (hC.st _ hu'.1).1, fun σ5 e5 => ?_⟩
      have f5 : ff V.dn σ σ5 := by rw [e5]; exact ff_tr f4' (ff_I _ (Or.inl rfl) _ _ _)
      have siO : ∀ i, i < 7 → i ≠ uwn V.dd a.hs.length → ∀ n l, si_L σ (V.O i) (V.R i) (V.K i) (V.S i) n l → si_L σ5 (V.O i) (V.R i) (V.K i) (V.S i) n l := fun i hi hne n l hl => by
        rw [e5]
        exact si_L_0 (fun z => hne (hC.iO _ _ (by omega) (by have := hu'.1; omega) z)) (si_L_kf k4 (s3.si i hi n l hl))
      obtain ⟨l, l', hr1, hr2⟩ := hsn_rev a.hs a.cs
      have hC5 : CI (sV V (uwn V.dd a.hs.length) (ddn V.dd V.uw a.hs.length)) (aS a T3 [] (hsn a.hs a.cs) (dff a.G a.T T3 a.G.n)) σ5 := by
        refine CI_sw hC hb f5 ?_ ?_ ?_ (fun i hi => ?_) ?_ ?_ ?_ ?_ ?_ hu' hid' ?_ (fun i hi => ?_) hg3 (ch_nil _) (fun y hy => ?_) ?_
        · rw [e5, z_R_sI, k4.R 706 _ (by decide)]; exact s3.rn
        · rw [e5, z_R_sI, k4.R 707 _ (by decide)]; exact s3.rm
        · rw [e5, z_R_sI]; exact r4
        · rw [e5, z_Q_sI]; exact q4 i hi
        · rw [e5, z_I_sI, if_neg (fun z => absurd z.1 (by decide)), i4, hsn_len h6]
        · rw [hsn_len h6]
          split <;> omega
        · rw [e5]; exact rw_L_6 (rw_L_kf k4 (rw_dn hC hC.Mt) s3.N)
        · rw [e5]; exact rw_L_6 (rw_L_kf k4 (rw_dn hC hp.N.1) s3.M)
        · rw [e5]; exact si_L_0 (fun z => by have := hC.iO 7 _ (by decide) (by have := hu'.1; omega) z; have := hu'.1; omega) (si_L_kf k4 s3.sl)
        · rw [e5]; exact si_L_nil (si_T_f f4' (hC.st _ hu'.1))
        · have hi6 : i < 6 := by
            rw [hsn_len h6] at hi
            split at hi <;> omega
          rcases hsn_gd (uw := V.uw) (dd := V.dd) h6 hi with ⟨g1, g2⟩ | ⟨j, hj, g1, g2⟩
          · rw [g2]
            have := (hu'.2 i hi6).2
            rw [g1] at this ⊢
            exact siO _ hC.uw.1 this _ _ hC.su
          · rw [g2]
            have := (hu'.2 i hi6).2
            rw [g1] at this ⊢
            exact siO _ (hC.uw.2 j (by omega)).1 this _ _ (hC.sd j hj)
        · rcases hsn_mem hy with z | z
          · exact hp.hc y z
          · rw [z]; exact hch
        · rw [hr1]
          have hlc := hp.lc
          rw [hr2] at hlc
          exact ⟨a.T, hp.gd, hch, hbo, fun v v1 v2 => T3_tab hok hs v1 v2, LC_app hlc⟩
      have hT5 := mo_T_req hT (ff_req f5)
      have hR5 := RR_req hT (ff_req f5) hR
      refine hP _ σ5 (mo_ty0 hT5) (fun P2 h2 => ?_)
      rw [← mu_put σ5 m ma]
      refine mq_batch hT5 _ _ P2 (fin_op hC5 hT5 hm h2) ?_
      obtain ⟨T', hO⟩ := RR_on hR5 hb
      generalize mu_of σ5 m ma = μ at hR5 hO ⊢
      intro X53 X84 X116 h53 h84 h116
      refine ⟨fun _ => ref_b0 hO hc60 (fun μ1 fr1 h831 hSS hT1 => ?_), fun q => absurd q (RO_808 hp hO)⟩
      refine ref_taken hp hO hT1 hch (Or.inl rfl) hSS hgk hs _ (fun T4 μ2 hT4 fr2 he hz hDL => ⟨fun _ => ?_, fun q => absurd rfl q⟩)
      rw [hO.b.1]
      refine ref_hist (hs := a.hs) (cs := a.cs) ?_ h6 (fun i hi => ?_) (fun i hi => ?_) ?_ hc60 (fun (r' : Int32) (μ' : mo_U) => r' = nI (dff a.G a.T T3 a.G.n).length ∧ RR (aS a T3 [] (hsn a.hs a.cs) (dff a.G a.T T3 a.G.n)) μ' ∧ lowf μ μ') X53 X84 X116 h53 h84 h116 (fun μ3 fr3 e834 hh3 => ?_)
      · rw [fr2.2 834 (by decide), fr1.2 834 (by decide)]; exact hO.h.1
      · rw [fr2.1 48 (by decide), fr1.1 48 (by decide), fr2.1 47 (by decide), fr1.1 47 (by decide)]; exact hO.h.2 i hi
      · exact (hp.hc _ (by rw [gd_eq _ _ hi]; exact List.getElem_mem hi)).n
      · rw [fr2.1 46 (by decide), fr1.1 46 (by decide)]; exact hO.b.2
      · have fr : mo_fr bts bfs μ μ3 := mo_fr_tr (fr_mono fr1 (by decide) (by decide)) (mo_fr_tr (fr_mono fr2 (by decide) (by decide)) (fr_mono fr3 (by decide) (by decide)))
        have h836 : μ3.1 836 = nI (dff a.G a.T T3 a.G.n).length := by rw [fr3.2 836 (by decide)]; exact hDL.1
        refine ⟨h836, RR_sw hR5 hb hO fr (rT_fr hT4 fr3 (by decide) (by decide)) he hz ⟨?_, fun i hi => absurd hi (Nat.not_lt_zero i)⟩ ⟨e834, hh3⟩ ⟨h836, hDL.2.1, by rw [fr3.1 49 (by decide)]; exact hDL.2.2⟩, lowf_fr fr (by decide) (by decide)⟩
        rw [fr3.2 831 (by decide), fr2.2 831 (by decide)]
        exact h831
  · refine hP (-4) σ (mo_ty0 hT) (fun P2 h2 => ?_)
    rw [← mu_put σ m ma]
    refine mq_batch hT _ _ P2 (fin_op hC hT hm h2) ?_
    intro X53 X84 X116 h53 h84 h116
    exact ⟨fun q => absurd (RR_off hR hb).1 q, fun _ => ⟨rfl, hR, lowf_rf _⟩⟩
