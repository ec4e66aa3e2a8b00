theorem cl_start {x : Nat} (P : z_S → Prop) (hP : ∀ V σ, V.x = x → CI V a_0 σ → P σ) : kp_Vr_init x (z_new z_E x 7) P := by
  intro X104 X144 h104 h144
  have tE : z_ty (z_new z_E x 7) x = some (.inl 7) := by rw [z_ty_new, if_pos rfl]
  have iE : ∀ f, z_I (z_new z_E x 7) f x = 0 := fun f => by rw [z_I_new, if_pos rfl]
  have go : ∀ {σ σ1 : z_S} {q k n t : Nat}, z_ty σ x = some (.inl 7) → z_ty σ q = none → σ1 = z_arr σ q k n t → z_ty σ1 x = some (.inl 7) := fun h1 h2 e => by
    rw [e, z_ty_arr, if_neg (fun z => by rw [← z, h1] at h2; cases h2)]; exact h1
  refine ⟨⟨by decide, by decide⟩, fun tx h1 σ1 e1 => ⟨go tE h1 e1, fun σ2 e2 => ?_⟩⟩
  have a1 := as_mk h1 e1 e2
  have t2 := as_ty a1 tE
  refine ⟨t2, fun σ3 e3 => ⟨⟨by decide, by decide⟩, fun rg h4 σ4 e4 => ?_⟩⟩
  have t3 : z_ty σ3 x = some (.inl 7) := by rw [e3]; exact t2
  refine ⟨go t3 h4 e4, fun σ5 e5 => ⟨⟨by decide, by decide⟩, fun p0 h6 σ6 e6 => ⟨⟨by decide, by decide⟩, ?_⟩⟩⟩
  have a2 := as_mk h4 e4 e5
  have t5 := as_ty a2 t3
  refine cl_newprog h6 e6 _ (fun pa na ta la ra σ7 hN => ?_)
  have t7 : z_ty σ7 x = some (.inl 7) := by rw [hN.w.ty _ (nn_s t5)]; exact t5
  refine ⟨t7, fun σ8 e8 => ⟨⟨by decide, by decide⟩, fun nw h9 σ9 e9 => ?_⟩⟩
  have t8 : z_ty σ8 x = some (.inl 7) := by rw [e8]; exact t7
  refine ⟨go t8 h9 e9, fun σ10 e10 => ⟨⟨by decide, by decide⟩, fun mw h11 σ11 e11 => ?_⟩⟩
  have a3 := as_mk h9 e9 e10
  have t10 := as_ty a3 t8
  refine ⟨go t10 h11 e11, fun σ12 e12 => ⟨⟨by decide, by decide⟩, fun o0 h13 σ13 e13 => ⟨⟨by decide, by decide⟩, ?_⟩⟩⟩
  have a4 := as_mk h11 e11 e12
  have t12 := as_ty a4 t10
  refine cl_newsi (n := 60) h13 e13 (by decide) (by decide) _ (fun s1 s2 s3 σ14 hS1 => ?_)
  have t14 : z_ty σ14 x = some (.inl 7) := by rw [hS1.w.ty _ (nn_s t12)]; exact t12
  refine ⟨t14, fun σ15 e15 => ⟨⟨by decide, by decide⟩, fun dn h16 σ16 e16 => ?_⟩⟩
  have t15 : z_ty σ15 x = some (.inl 7) := by rw [e15]; exact t14
  refine ⟨go t15 h16 e16, fun σ17 e17 => ⟨⟨by decide, by decide⟩, fun o1 h18 σ18 e18 => ⟨⟨by decide, by decide⟩, ?_⟩⟩⟩
  have a5 := as_mk h16 e16 e17
  have t17 := as_ty a5 t15
  refine cl_newsi (n := 640) h18 e18 (by decide) (by decide) _ (fun s4 s5 s6 σ19 hS2 => ?_)
  have t19 : z_ty σ19 x = some (.inl 7) := by rw [hS2.w.ty _ (nn_s t17)]; exact t17
  refine ⟨t19, fun σ20 e20 => ⟨⟨by decide, by decide⟩, fun en h21 σ21 e21 => ⟨⟨by decide, by decide⟩, ?_⟩⟩⟩
  have t20 : z_ty σ20 x = some (.inl 7) := by rw [e20]; exact t19
  refine cl_newen h21 e21 _ (fun l v q k σ22 hE => ?_)
  have t22 : z_ty σ22 x = some (.inl 7) := by rw [hE.w.ty _ (nn_s t20)]; exact t20
  refine ⟨t22, fun σ23 e23 => ?_⟩
  -- frames
  have F8 : xs x [712] σ20 σ23 := xs_ob hE.w (nn_s t20) e23
  have F7 : xs x [711, 712] σ17 σ23 := xs_tr (xs_ob hS2.w (nn_s t17) e20) F8 (by simp) (by simp)
  have F6 : xs x [709, 711, 712] σ15 σ23 := xs_tr (xs_as a5) F7 (by simp) (by simp)
  have F5 : xs x [708, 709, 711, 712] σ12 σ23 := xs_tr (xs_ob hS1.w (nn_s t12) e15) F6 (by simp) (by simp)
  have F4 : xs x [707, 708, 709, 711, 712] σ10 σ23 := xs_tr (xs_as a4) F5 (by simp) (by simp)
  have F3 : xs x [706, 707, 708, 709, 711, 712] σ8 σ23 := xs_tr (xs_as a3) F4 (by simp) (by simp)
  have F2 : xs x [705, 706, 707, 708, 709, 711, 712] σ5 σ23 := xs_tr (xs_ob hN.w (nn_s t5) e8) F3 (by simp) (by simp)
  have F1 : xs x [703, 705, 706, 707, 708, 709, 711, 712] σ3 σ23 := xs_tr (xs_as a2) F2 (by simp) (by simp)
  have T : ∀ {fs : List Nat} {σ : z_S} {a y}, xs x fs σ σ23 → z_ty σ a = some y → z_ty σ23 a = some y := fun F ha => by rw [F.w.ty _ (nn_s ha)]; exact ha
  have px : p0 ≠ x := fun z => by rw [z, t5] at h6; cases h6
  have ex : en ≠ x := fun z => by rw [z, t20] at h21; cases h21
  have ty7 : z_ty σ8 p0 = some (.inl 2) := by rw [e8]; exact hN.ty
  have hB : vB σ23 x tx rg p0 nw mw o0 dn o1 (mkE en l v q k) := by
    refine ⟨T F8 t20, fun f => ?_, ?_, ?_, ?_, T F2 a2.tq, ?_, T F3 ty7, fun f => ?_, ?_, T F4 a3.tq, ?_, T F5 a4.tq, ?_, ?_, T F7 a5.tq, ?_, ?_, ⟨?_, ?_, ?_, ?_, ?_, ?_, ?_, ?_, ?_⟩⟩
    · rw [F1.I, e3, z_I_sI]
      by_cases z : f = 702
      · rw [if_pos ⟨z, rfl⟩, if_pos z]
      · rw [if_neg (fun y => z y.1), if_neg z, a1.I]; exact iE f
    · rw [F1.R _ (by simp), e3, z_R_sI]; exact a1.rf
    · have : z_ty σ3 tx = some (.inr (1, 600, 18)) := by rw [e3]; exact a1.tq
      exact T F1 this
    · rw [F2.R _ (by simp)]; exact a2.rf
    · rw [F3.R _ (by simp), e8, z_R_sR, if_pos ⟨rfl, rfl⟩]
    · rw [F3.w.I _ _ (nn_s ty7) px, e8, z_I_sR]; exact hN.i f
    · rw [F4.R _ (by simp)]; exact a3.rf
    · rw [F5.R _ (by simp)]; exact a4.rf
    · rw [F6.R _ (by simp), e15, z_R_sR, if_pos ⟨rfl, rfl⟩]
    · rw [F7.R _ (by simp)]; exact a5.rf
    · rw [F8.R _ (by simp), e20, z_R_sR, if_pos ⟨rfl, rfl⟩]
    · rw [e23, z_R_sR, if_pos ⟨rfl, rfl⟩]; rfl
    · rw [e23]; exact hE.ty
    · show z_R σ23 100 en = some l
      rw [e23, z_R_sR, if_neg (fun z => ex z.2)]; exact hE.rl
    · rw [e23]; exact hE.tl
    · show z_R σ23 101 en = some v
      rw [e23, z_R_sR, if_neg (fun z => ex z.2)]; exact hE.rv
    · rw [e23]; exact hE.tv
    · show z_R σ23 102 en = some q
      rw [e23, z_R_sR, if_neg (fun z => ex z.2)]; exact hE.rq
    · rw [e23]; exact hE.tq
    · show z_R σ23 103 en = some k
      rw [e23, z_R_sR, if_neg (fun z => ex z.2)]; exact hE.rk
    · rw [e23]; exact hE.tk
  have nox : ∀ {σ : z_S} {a}, z_ty σ x = some (.inl 7) → a = x → z_ty σ a ≠ some (.inl 6) := fun h z => by rw [z, h]; decide
  have sS1 : sS σ14 1 (ad (fun _ => 0) 0 o0) (ad (fun _ => 0) 0 s1) (ad (fun _ => 0) 0 s2) (ad (fun _ => 0) 0 s3) (ad (fun _ => 0) 0 60) := sS_add (σ := σ12) (n := 0) ⟨fun r hr => absurd hr (Nat.not_lt_zero r), fun r _ hr => absurd hr (Nat.not_lt_zero r), fun r _ hr => absurd hr (Nat.not_lt_zero r), fun r _ hr => absurd hr (Nat.not_lt_zero r), fun r _ hr => absurd hr (Nat.not_lt_zero r)⟩ hS1
  have w1417 : wf (fun a => a = x) σ14 σ17 := wf_tr (show wf (fun a => a = x) σ14 σ15 by rw [e15]; exact wf_sR rfl) a5.w (fun _ z _ => z)
  have sS2 := sS_add (sS_w sS1 w1417 (fun a z => nox t14 z)) hS2
  have w1923 : wf (fun a => a = x) σ19 σ23 := wf_tr (show wf (fun a => a = x) σ19 σ20 by rw [e20]; exact wf_sR rfl) F8.w (fun _ z _ => z)
  have hS23 := sS_w sS2 w1923 (fun a z => nox t19 z)
  -- changes that were made
  have dlp : ∀ (d n : Nat) (A B C O R K S m : Nat → Nat) (σ : z_S) (kc ks : Nat), n + d = 6 → kc ≤ 83 + 4 * n → ks ≤ 8549 + 1924 * n → vB σ x tx rg p0 nw mw o0 dn o1 (mkE en l v q k) → rS σ 16 A B C → (∀ j, j < 8 → z_Q σ 20 nw j = some (A (2 * j))) → (∀ j, j < 8 → z_Q σ 21 mw j = some (A (2 * j + 1))) → sS σ (n + 2) O R K S m → (∀ j, j < n → z_Q σ 22 dn j = some (O (j + 2))) → O 0 = o0 → O 1 = o1 → m 0 = 60 → m 1 = 640 → (∀ j, j < n → m (j + 2) = 60) → X144 (nI n) kc ks σ := by
    intro d
    induction d with
    | zero =>
      intro n A B C O R K S m σ kc ks hn _ _ hB hr hN8 hM8 hs hd g0 g1 m0 m1 m2
      rw [show n = 6 by omega] at hs hd m2 ⊢
      refine h144 _ _ _ _ ⟨fun _ => ?_, fun z => absurd (nI_le (a := 6) (by omega) (by omega)) z⟩
      obtain ⟨V, hV, hC⟩ := CI_0 hB hr hs hN8 hM8 hd g0 g1 m0 m1 m2
      exact hP V σ hV hC
    | succ d ih =>
      intro n A B C O R K S m σ kc ks hn hkc hks hB hr hN8 hM8 hs hd g0 g1 m0 m1 m2
      refine h144 _ _ _ _ ⟨fun z => absurd z (nI_ge (b := 6) (by omega) (by decide)), fun _ => ⟨hB.ty, dn, hB.r9, ⟨by omega, by omega⟩, fun a ha σ1 e1 => ⟨⟨by omega, by omega⟩, ?_⟩⟩⟩
      refine cl_newsi (n := 60) ha e1 (by decide) (by decide) _ (fun r1 r2 r3 σ2 hS => ?_)
      have td2 : z_ty σ2 dn = some (.inr (10, 6, 22)) := by rw [hS.w.ty _ (nn_s hB.t9)]; exact hB.t9
      refine ⟨6, 22, td2, vp_in_nI (by omega) (by decide), hS.t.1, fun σ3 e3 => ?_⟩
      rw [cl_nI (by omega)] at e3
      rw [nI_1]
      have w3 : wf (fun a => a = dn) σ2 σ3 := by rw [e3]; exact wf_sQ rfl
      have wz : wf (zW nw mw dn) σ σ3 := wf_tr (wf_mo hS.w (fun _ _ z => z.elim)) w3 (fun a z _ => Or.inr (Or.inr z))
      have hB3 := vB_w hB wz
      have nd : ∀ {a}, zW nw mw dn a → z_ty σ a ≠ some (.inl 4) := fun z => by
        rcases z with z | z | z
        · rw [z, hB.t6]; decide
        · rw [z, hB.t7]; decide
        · rw [z, hB.t9]; decide
      have hs3 := sS_w (sS_add hs hS) w3 (fun a z => by rw [z, td2]; decide)
      refine ih (n + 1) A B C (ad O (n + 2) a) (ad R (n + 2) r1) (ad K (n + 2) r2) (ad S (n + 2) r3) (ad m (n + 2) 60) σ3 _ _ (by omega) (by omega) (by omega) hB3 (rS_w hr wz (fun a z => nd z)) (fun j hj => ?_) (fun j hj => ?_) hs3 (fun j hj => ?_) (by rw [ad_o (by omega)]; exact g0) (by rw [ad_o (by omega)]; exact g1) (by rw [ad_o (by omega)]; exact m0) (by rw [ad_o (by omega)]; exact m1) (fun j hj => ?_)
      · rw [e3, z_Q_sQ, if_neg (fun z => absurd z.1 (by decide)), hS.w.Q _ _ (nn_s hB.t6) (fun z => z)]; exact hN8 j hj
      · rw [e3, z_Q_sQ, if_neg (fun z => absurd z.1 (by decide)), hS.w.Q _ _ (nn_s hB.t7) (fun z => z)]; exact hM8 j hj
      · rw [e3, z_Q_sQ, if_pos ⟨rfl, rfl⟩]
        unfold va_up
        by_cases z : j = n
        · rw [if_pos z, z, ad_n]
        · rw [if_neg z, ad_o (by omega), hS.w.Q _ _ (nn_s hB.t9) (fun z => z)]; exact hd j (by omega)
      · by_cases z : j = n
        · rw [z, ad_n]
        · rw [ad_o (by omega)]; exact m2 j (by omega)
  -- rows that are made
  have rlp : ∀ (d n : Nat) (A B C : Nat → Nat) (σ : z_S) (kc ks : Nat), n + d = 8 → kc ≤ 35 + 6 * n → ks ≤ 5301 + 406 * n → vB σ x tx rg p0 nw mw o0 dn o1 (mkE en l v q k) → rS σ (2 * n) A B C → (∀ j, j < n → z_Q σ 20 nw j = some (A (2 * j))) → (∀ j, j < n → z_Q σ 21 mw j = some (A (2 * j + 1))) → sS σ 2 (ad (ad (fun _ => 0) 0 o0) 1 o1) (ad (ad (fun _ => 0) 0 s1) 1 s4) (ad (ad (fun _ => 0) 0 s2) 1 s5) (ad (ad (fun _ => 0) 0 s3) 1 s6) (ad (ad (fun _ => 0) 0 60) 1 640) → X104 (nI n) kc ks σ := by
    intro d
    induction d with
    | zero =>
      intro n A B C σ kc ks hn hkc hks hB hr hN8 hM8 hs
      rw [show n = 8 by omega] at hr hN8 hM8 ⊢
      refine h104 _ _ _ _ ⟨fun _ => ?_, fun z => absurd (nI_le (a := 8) (by omega) (by omega)) z⟩
      exact dlp 6 0 A B C _ _ _ _ _ σ kc ks rfl (by omega) (by omega) hB hr hN8 hM8 hs (fun j hj => absurd hj (Nat.not_lt_zero j)) rfl rfl rfl rfl (fun j hj => absurd hj (Nat.not_lt_zero j))
    | succ d ih =>
      intro n A B C σ kc ks hn hkc hks hB hr hN8 hM8 hs
      have n8 : n < 8 := by omega
      refine h104 _ _ _ _ ⟨fun z => absurd z (nI_ge (b := 8) (by omega) (by decide)), fun _ => ⟨hB.ty, nw, hB.r6, ⟨by omega, by omega⟩, fun a ha σ1 e1 => ⟨⟨by omega, by omega⟩, ?_⟩⟩⟩
      refine cl_newro ha e1 _ (fun ka ca σ2 hQ => ?_)
      have tn2 : z_ty σ2 nw = some (.inr (9, 8, 20)) := by rw [hQ.w.ty _ (nn_s hB.t6)]; exact hB.t6
      refine ⟨8, 20, tn2, vp_in_nI n8 (by decide), hQ.t.1, fun σ3 e3 => ?_⟩
      rw [cl_nI (by omega)] at e3
      have w3 : wf (zW nw mw dn) σ2 σ3 := by rw [e3]; exact wf_sQ (Or.inl rfl)
      have wz3 : wf (zW nw mw dn) σ σ3 := wf_tr (wf_mo hQ.w (fun _ _ z => z.elim)) w3 (fun a z _ => z)
      have hB3 := vB_w hB wz3
      have hB2 := vB_w hB (wf_mo hQ.w (fun _ _ z => z.elim))
      have nd : ∀ {σ'} (_ : vB σ' x tx rg p0 nw mw o0 dn o1 (mkE en l v q k)) {a}, zW nw mw dn a → z_ty σ' a ≠ some (.inl 4) ∧ z_ty σ' a ≠ some (.inl 6) := fun {σ'} hb {a} z => by
        rcases z with z | z | z
        · rw [z, hb.t6]; exact ⟨by decide, by decide⟩
        · rw [z, hb.t7]; exact ⟨by decide, by decide⟩
        · rw [z, hb.t9]; exact ⟨by decide, by decide⟩
      have hr3 := rS_w (rS_add hr hQ) w3 (fun a z => (nd hB2 z).1)
      refine ⟨hB3.ty, mw, hB3.r7, ⟨by omega, by omega⟩, fun b hb σ4 e4 => ⟨⟨by omega, by omega⟩, ?_⟩⟩
      refine cl_newro hb e4 _ (fun kb cb' σ5 hQ5 => ?_)
      have tm5 : z_ty σ5 mw = some (.inr (9, 8, 21)) := by rw [hQ5.w.ty _ (nn_s hB3.t7)]; exact hB3.t7
      refine ⟨8, 21, tm5, vp_in_nI n8 (by decide), hQ5.t.1, fun σ6 e6 => ?_⟩
      rw [cl_nI (by omega)] at e6
      rw [nI_1]
      have w6 : wf (zW nw mw dn) σ5 σ6 := by rw [e6]; exact wf_sQ (Or.inr (Or.inl rfl))
      have wz6 : wf (zW nw mw dn) σ3 σ6 := wf_tr (wf_mo hQ5.w (fun _ _ z => z.elim)) w6 (fun a z _ => z)
      have hB5 := vB_w hB3 (wf_mo hQ5.w (fun _ _ z => z.elim))
      have hB6 := vB_w hB3 wz6
      have hr6 := rS_w (rS_add hr3 hQ5) w6 (fun a z => (nd hB5 z).1)
      have hs6 := sS_w (sS_w hs wz3 (fun a z => (nd hB z).2)) wz6 (fun a z => (nd hB3 z).2)
      refine ih (n + 1) _ _ _ σ6 _ _ (by omega) (by omega) (by omega) hB6 hr6 (fun j hj => ?_) (fun j hj => ?_) hs6
      · rw [e6, z_Q_sQ, if_neg (fun z => absurd z.1 (by decide)), hQ5.w.Q _ _ (nn_s hB3.t6) (fun z => z), e3, z_Q_sQ, if_pos ⟨rfl, rfl⟩]
        unfold va_up
        by_cases z : j = n
        · rw [if_pos z, z, ad_o (by omega), ad_n]
        · rw [if_neg z, ad_o (by omega), ad_o (by omega), hQ.w.Q _ _ (nn_s hB.t6) (fun z => z)]; exact hN8 j (by omega)
      · rw [e6, z_Q_sQ, if_pos ⟨rfl, rfl⟩]
        unfold va_up
        by_cases z : j = n
        · rw [if_pos z, z, ad_n]
        · rw [if_neg z, ad_o (by omega), ad_o (by omega), hQ5.w.Q _ _ (nn_s hB3.t7) (fun z => z), e3, z_Q_sQ, if_neg (fun z => absurd z.1 (by decide)), hQ.w.Q _ _ (nn_s hB.t7) (fun z => z)]; exact hM8 j (by omega)
  exact rlp 8 0 (fun _ => 0) (fun _ => 0) (fun _ => 0) σ23 _ _ rfl (by decide) (by decide) hB ⟨fun r hr => absurd hr (Nat.not_lt_zero r), fun r _ hr => absurd hr (Nat.not_lt_zero r), fun r _ hr => absurd hr (Nat.not_lt_zero r), fun r _ hr => absurd hr (Nat.not_lt_zero r)⟩ (fun j hj => absurd hj (Nat.not_lt_zero j)) (fun j hj => absurd hj (Nat.not_lt_zero j)) hS23
