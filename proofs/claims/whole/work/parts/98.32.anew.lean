theorem CI_VS {V : vc_T} {a : ab_T} {σ : z_S} (hC : CI V a σ) (hb : a.on = true) : VS V.x V.N V.M V.D a.G (V.O 7) (V.R 7) (V.K 7) (V.S 7) a.T σ := by
  have hp := CI_prg hC hb
  exact ⟨hC.ty, hp.rp, hC.rn, hC.rm, hC.rl, hC.re, hC.en, hp.N, hC.Mt, hC.da, hC.dk, hC.dc, hp.pr, hC.sl.1⟩
theorem rw_far {V : vc_T} {a : ab_T} {σ σ1 : z_S} (hC : CI V a σ) (f : ef V.M σ σ1) {T : Nat → al_T} (h : rw_L V.N σ T) : rw_L V.N σ1 T := ⟨rw_T_e (ee_ef f) h.1, fun v hv => ro_L_far f (fun i hi => hC.da v i hv hi) (fun i hi => hC.dk v i hv hi) (fun i hi => hC.dc v i hv hi) (h.2 v hv)⟩
theorem CI_efM {V : vc_T} {a : ab_T} {σ σ1 : z_S} (hC : CI V a σ) (hb : a.on = true) (f : ef V.M σ σ1) (hM : ∀ v, v < 8 → ¬ v < a.G.n → ∃ l, ro_L σ1 (V.M.ra v) (V.M.ka v) (V.M.ca v) l ∧ okl l) : CI V a σ1 := by
  have hp := CI_prg hC hb
  refine CI_ee hC (ee_ef f) ?_
  rw [if_pos hb]
  exact prg_ee hp (ee_ef f) (rw_far hC f hp.N) hM
theorem gl_of {V : vc_T} {a : ab_T} {σ : z_S} (hp : prg V a σ) : ∃ gl : Nat → al_T, ∀ v, v < 8 → ¬ v < a.G.n → ro_L σ (V.M.ra v) (V.M.ka v) (V.M.ca v) (gl v) ∧ okl (gl v) := by
  refine ⟨fun v => if h : v < 8 ∧ ¬ v < a.G.n then Classical.choose (hp.Mg v h.1 h.2) else [], fun v h1 h2 => ?_⟩
  dsimp only
  rw [dif_pos ⟨h1, h2⟩]
  exact Classical.choose_spec (hp.Mg v h1 h2)
theorem one_ext : ∀ {l l' : al_T}, l.map Prod.fst = l'.map Prod.fst → (∀ p ∈ l, p.2 = 1) → (∀ p ∈ l', p.2 = 1) → l = l'
  | [], [], _, _, _ => rfl
  | [], _ :: _, h, _, _ => by cases h
  | _ :: _, [], h, _, _ => by cases h
  | p :: l, q :: l', h, h1, h2 => by
    have e := List.cons.inj h
    have a1 := h1 p (List.mem_cons_self ..)
    have a2 := h2 q (List.mem_cons_self ..)
    rw [one_ext e.2 (fun x hx => h1 x (List.mem_cons_of_mem _ hx)) (fun x hx => h2 x (List.mem_cons_of_mem _ hx)), Prod.ext e.1 (a1.trans a2.symm)]
def Tg (G : pg_T) (T : Nat → al_T) (gl : Nat → al_T) : Nat → al_T := fun v => if v < G.n then (if G.vw v then [] else T v) else if v < 8 then gl v else []
theorem vw_lt {G : pg_T} (hok : pg_ok G) {v : Nat} (h : G.vw v = true) : v < G.n := by
  obtain ⟨r, hr, e⟩ := (hok.vw v).mp h
  rw [← e]
  exact (hok.ru r hr).2.2.1
theorem vw_no {G : pg_T} (hok : pg_ok G) {v : Nat} (h : ¬ v < G.n) : G.vw v = false := by
  cases hb : G.vw v with
  | false => rfl
  | true => exact absurd (vw_lt hok hb) h
theorem kar3 {key : Nat} (h : key < 1000000000) : kar 3 key := ⟨h, fun i h1 h2 => by omega⟩
theorem Tg_vT {G : pg_T} (hok : pg_ok G) {T gl : Nat → al_T} (hT : vT G T) (hg : ∀ v, v < 8 → ¬ v < G.n → al_s (gl v) ∧ al_k (gl v) ∧ okl (gl v)) : vT G (Tg G T gl) := by
  have hn8 := hok.n8
  refine ⟨fun v hv => ?_, fun v => ?_, fun v hv => ?_, fun v hv => ?_, fun v hv => ?_⟩
  · unfold Tg; rw [if_neg (by omega), if_neg (by omega)]
  · unfold Tg
    split
    · split
      · exact ⟨List.Pairwise.nil, fun p hp => absurd hp List.not_mem_nil⟩
      · exact hT.srt v
    · rename_i h
      split
      · rename_i h8
        exact ⟨(hg v h8 h).1, (hg v h8 h).2.1⟩
      · exact ⟨List.Pairwise.nil, fun p hp => absurd hp List.not_mem_nil⟩
  · unfold Tg
    split
    · split
      · exact fun p hp => absurd hp List.not_mem_nil
      · exact hT.kr v hv
    · rename_i h
      rw [hok.a3 v h]
      exact fun p hp => kar3 ((hg v hv h).2.1 p hp)
  · unfold Tg
    split
    · split
      · exact Nat.zero_le _
      · exact hT.c40 v hv
    · rename_i h
      exact (hg v hv h).2.2.1
  · unfold Tg
    split
    · split
      · exact fun p hp => absurd hp List.not_mem_nil
      · exact hT.cp v hv
    · rename_i h
      exact fun p hp => by
        have := (hg v hv h).2.2.2 p hp
        omega
theorem Tg_res {G : pg_T} (T gl : Nat → al_T) : res G.n (ks (Tg G T gl)) = res G.n (ks (Tz G T)) := by
  funext v
  unfold res
  split
  · rename_i h
    unfold ks Tg Tz
    rw [if_pos h]
  · rfl
theorem vr_same {V : vc_T} {a : ab_T} {σ : z_S} (hC : CI V a σ) (hb : a.on = true) {T' : Nat → al_T} (hM : rw_L V.M σ T') (he : ∀ v, v < a.G.n → ks T' v = ks a.T v) (P : Int32 → z_S → Prop) (h1 : P 1 σ) : kp_Vr_viewsAreTheSame V.x σ P := by
  intro X2 hX
  have hp := CI_prg hC hb
  have hn8 := hp.ok.n8
  have main : ∀ k i, i + k = a.G.n → X2 (nI i) σ := by
    intro k
    induction k with
    | zero =>
      intro i hi
      refine hX _ _ ⟨hC.ty, V.D.p, hp.rp, hp.pr.ty, ?_⟩
      rw [hp.pr.nr]
      exact ⟨fun _ => h1, fun q => absurd (nI_le (by omega) (by omega)) q⟩
    | succ k ih =>
      intro i hi
      have hi8 : i < 8 := by omega
      refine hX _ _ ⟨hC.ty, V.D.p, hp.rp, hp.pr.ty, ?_⟩
      rw [hp.pr.nr]
      refine ⟨fun q => absurd q (nI_ge (by omega) (by omega)), fun _ => ⟨hC.ty, V.D.p, hp.rp, hp.pr.ty, pr_isView hp.pr hn8 (by omega) _ ?_⟩⟩
      rw [nI_1]
      have nx := ih (i + 1) (by omega)
      refine ⟨fun _ => nx, fun _ => ⟨hC.ty, V.N.w, hC.rn, 8, V.N.s, hp.N.1.tw, vp_in_nI hi8 (by decide), V.N.ra i, by rw [cl_nI (by omega)]; exact hp.N.1.qw i hi8, hC.ty, V.M.w, hC.rm, 8, V.M.s, hM.1.tw, vp_in_nI hi8 (by decide), V.M.ra i, by rw [cl_nI (by omega)]; exact hM.1.qw i hi8, (hp.N.2 i hi8).1.1, ro_isSame (hp.N.2 i hi8) (hM.2 i hi8) _ ?_⟩⟩
      rw [if_pos (show List.map Prod.fst (a.T i) = List.map Prod.fst (T' i) from (he i (by omega)).symm)]
      exact ⟨fun _ => nx, fun q => absurd q (by decide)⟩
  exact main a.G.n 0 (by omega)
theorem op_anew : st_anew IN := by
  rintro x m σ P ⟨V, a, ma, rfl, hC, hT, hm, hR⟩ hP
  refine ⟨hC.ty, hC.ty, ?_⟩
  have fin : ∀ (r : Int32) (σ1 : z_S), CI V a σ1 → ee σ σ1 → (∀ μ1, RR a μ1 → ∀ Q : Int32 → mo_U → Prop, Q r μ1 → mp_anew μ1 Q) → P r σ1 := fun r σ1 hC1 he hr => by
    have hT1 := mo_T_req hT (ee_req he)
    have hR1 := RR_req hT (ee_req he) hR
    refine hP r σ1 (mo_ty0 hT1) (fun P2 h2 => ?_)
    rw [← mu_put σ1 m ma]
    exact mq_anew hT1 _ _ P2 (fin_op hC1 hT1 hm h2) (hr _ hR1 _ ⟨rfl, hR1, lowf_rf _⟩)
  refine vr_noRules hC _ (fun hb => ⟨fun _ => ?_, fun q => absurd rfl q⟩) (fun hb => ⟨fun q => absurd q (by decide), fun _ => ?_⟩)
  · have hp := CI_prg hC hb
    have hok := hp.ok
    have hn8 := hok.n8
    obtain ⟨gl, hgl⟩ := gl_of hp
    refine ⟨hC.ty, vr_copyTables (S0 := fun v => if v < a.G.n then none else some (gl v)) hok (CI_VS hC hb) (fun v hv l hl => ?_) _ (fun σ1 hf1 hM1 => ?_)⟩
    · dsimp only at hl
      split at hl
      · cases hl
      · rename_i h
        rw [← Option.some.inj hl]
        exact (hgl v hv h).1
    · have hC1 := CI_efM hC hb hf1 (fun v h1 h2 => ⟨gl v, hM1 v h1 (gl v) (by dsimp only; rw [if_neg (fun z => h2 z.1), if_neg h2]), (hgl v h1 h2).2⟩)
      have hp1 := CI_prg hC1 hb
      have hTg : vT a.G (Tg a.G a.T gl) := Tg_vT hok hp.gd.v (fun v h1 h2 => ⟨(hgl v h1 h2).1.2.2.2.1, (hgl v h1 h2).1.2.2.2.2.1, (hgl v h1 h2).2⟩)
      have hSok : S_ok (ks (Tg a.G a.T gl)) := S_ok_T (fun v => (hTg.srt v).2)
      refine ⟨hC1.ty, V.M.a, hC1.re, hC1.ty, V.D.p, hp1.rp, hC1.ty, V.M.w, hC1.rm, hC1.en.ty, en_work hok hC1.en hC1.Mt hp1.pr hTg (fun v hv => ?_) (fun v h1 h2 => ?_) _ (fun T' σ2 he2 hT' hWK hlo hone => ⟨fun q => absurd q (by decide), fun _ => ?_⟩) (fun T' σ2 _ _ _ _ hWO => ?_)⟩
      · unfold Tg
        rw [if_pos (vw_lt hok hv), if_pos hv]
      · refine hM1 v h1 _ ?_
        dsimp only
        unfold Tg
        by_cases hv : v < a.G.n
        · rw [if_pos ⟨hv, h2⟩, if_pos hv, if_neg (by rw [h2]; decide)]
        · rw [if_neg (fun z => hv z.1), if_neg hv, if_neg hv, if_pos h1]
      · have hW2 := WK_res hok hp.ln hSok hWK
        rw [Tg_res] at hW2
        have he := WK_uniq hW2 hp.gd.w
        have hks : ∀ v, v < a.G.n → ks T' v = ks a.T v := fun v hv => by
          have := congrFun he v
          rw [res_lt hv, res_lt hv] at this
          exact this
        have hC2 := CI_efM hC1 hb he2.fr (fun v h1 h2 => ⟨T' v, he2.rw.2 v h1, by
          rw [hlo v (hp.ln v h2)]
          unfold Tg
          rw [if_neg h2, if_pos h1]
          exact (hgl v h1 h2).2⟩)
        refine ⟨hC2.ty, vr_same hC2 hb he2.rw hks _ ⟨fun q => absurd q (by decide), fun _ => ?_⟩⟩
        refine fin 1 σ2 hC2 (ee_ef (ef_tr hf1 he2.fr)) (fun μ1 hR1 Q hQ => ?_)
        obtain ⟨T'', hO⟩ := RR_on hR1 hb
        have h16 := hO.t.g.n16
        have h1 := hp.r1
        unfold mp_anew
        rw [hO.t.g.nn]
        exact ⟨fun q => absurd q (nI_ge (a := 0) (by omega) (by omega)), fun _ => hQ⟩
      · have hW2 := WOv_res hok hp.ln hSok hWO
        rw [Tg_res] at hW2
        exact absurd hW2 (fun z => WK_WOv hp.gd.w z)
  · refine fin 0 σ hC (ee_rf σ) (fun μ1 hR1 Q hQ => ?_)
    unfold mp_anew
    rw [(RR_off hR1 hb).1]
    exact ⟨fun _ => hQ, fun q => absurd (by decide) q⟩
