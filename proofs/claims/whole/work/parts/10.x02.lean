def kp_Pr_raiseLayers (a0 : Nat) (σ : z_S) (Post : z_S → Prop) : Prop := ∀ (X2 : Int32 → z_S → Prop) (X28 : Int32 → Nat → Int32 → Int32 → z_S → Prop) (X80 : Int32 → Nat → Int32 → Int32 → Int32 → Int32 → z_S → Prop),
    (∀ (v1 : Int32) (σ : z_S), (z_ty σ a0 = some (.inl 2) ∧ (((z_I σ 201 a0) ≤ v1 → Post σ) ∧ (¬ (z_I σ 201 a0) ≤ v1 → z_ty σ a0 = some (.inl 2) ∧ ∃ r11, z_R σ 200 a0 = some r11 ∧ (∃ n15 s15, z_ty σ r11 = some (.inr (8, n15, s15)) ∧ vp_in v1 n15 ∧ ∃ r15, z_Q σ s15 r11 v1.toNatClampNeg = some r15 ∧ (z_ty σ r15 = some (.inl 5) ∧ ∃ r18, z_R σ 500 r15 = some r18 ∧ (z_ty σ r18 = some (.inl 0) ∧ (X28 v1 r15 (z_I σ 3 r18) ((0 : Int32)) σ))))))) → X2 v1 σ) →
    (∀ (v1 : Int32) (v2 : Nat) (v3 : Int32) (v4 : Int32) (σ : z_S), (z_ty σ v2 = some (.inl 5) ∧ (((z_I σ 502 v2) ≤ v4 → X2 (v1 + (1 : Int32)) σ) ∧ (¬ (z_I σ 502 v2) ≤ v4 → z_ty σ v2 = some (.inl 5) ∧ ∃ r38, z_R σ 501 v2 = some r38 ∧ (∃ n43 s43, z_ty σ r38 = some (.inr (11, n43, s43)) ∧ vp_in v4 n43 ∧ ∃ r43, z_Q σ s43 r38 v4.toNatClampNeg = some r43 ∧ (z_ty σ r43 = some (.inl 0) ∧ (((z_I σ 2 r43) = ((2 : Int32)) → X28 v1 v2 v3 (v4 + (1 : Int32)) σ) ∧ (¬ (z_I σ 2 r43) = ((2 : Int32)) → z_ty σ a0 = some (.inl 2) ∧ ∃ r56, z_R σ 204 a0 = some r56 ∧ (z_ty σ r43 = some (.inl 0) ∧ (∃ n64 s64, z_ty σ r56 = some (.inr (0, n64, s64)) ∧ vp_in (z_I σ 3 r43) n64 ∧ (z_ty σ a0 = some (.inl 2) ∧ kp_Pr_mustLieBelow a0 v2 r43 σ (fun (r69 : Int32) (σ69 : z_S) => (r69 = 0 → X80 v1 v2 v3 v4 (z_A σ s64 r56 (z_I σ 3 r43).toNatClampNeg) ((0 : Int32)) σ69) ∧ (¬ r69 = 0 → X80 v1 v2 v3 v4 (z_A σ s64 r56 (z_I σ 3 r43).toNatClampNeg) ((1 : Int32)) σ69)))))))))))) → X28 v1 v2 v3 v4 σ) →
    (∀ (v1 : Int32) (v2 : Nat) (v3 : Int32) (v4 : Int32) (t0 : Int32) (t1 : Int32) (σ : z_S), (z_ty σ a0 = some (.inl 2) ∧ ∃ r84, z_R σ 204 a0 = some r84 ∧ (z_ty σ a0 = some (.inl 2) ∧ ∃ r89, z_R σ 204 a0 = some r89 ∧ (∃ n93 s93, z_ty σ r89 = some (.inr (0, n93, s93)) ∧ vp_in v3 n93 ∧ (∃ n99 s99, z_ty σ r84 = some (.inr (0, n99, s99)) ∧ vp_in v3 n99 ∧ ∀ σ99, σ99 = z_sA σ s99 r84 (upd (z_A σ s99 r84) v3.toNatClampNeg (if (z_A σ s93 r89 v3.toNatClampNeg) < (t0 + t1) then (t0 + t1) else (z_A σ s93 r89 v3.toNatClampNeg))) → X28 v1 v2 v3 (v4 + (1 : Int32)) σ99)))) → X80 v1 v2 v3 v4 t0 t1 σ) →
    (X2 ((0 : Int32)) σ)
set_option maxHeartbeats 4000000 in
set_option maxRecDepth 100000 in
theorem kc_Pr_raiseLayers (l : Launch) (D : va_G) (dA : Nat → ClassId) (Z : Nat) (a0 : Nat) (σ : z_S) (Post : z_S → Prop) : Met l km_Pr_raiseLayers ks_Pr_raiseLayers kr_Pr_raiseLayers (va_Pc [.ref a0] (fun U => z_U D z_cl z_KT dA Z (z_tys dA) z_nw σ U ∧ kp_Pr_raiseLayers  a0 σ Post)) (z_Qv D z_cl z_KT dA Z (z_tys dA) z_nw Post) 0 0 (fun q => Z ≤ q) := by
  refine Met.ofW (cc := prog_4_method_15_code) (maxL := 7) (ret := none) (by decide) rfl ?_
  intro p e s m args below meth c s₁ B hml hv
  obtain ⟨rfl, ⟨hZ, hG, hK, hN⟩, hw⟩ := hv
  have hx := B.exec
  have hb := B.bytes
  have hr := B.returns
  have hts := atoms_spec (ws := ks_Pr_raiseLayers) B.pre
  have hown : s.vm.findClass kR_Pr = some m.cls := findClass_of_methodNamed B.named
  have hlocks := B.notSynchronized
  have hS : va_S (fun q => Z ≤ q) s.heap s.heap [] := va_S.rf
  have hl := lv_entry ([.ref a0]) (n := 7) (Nat.le_of_ble_eq_true rfl)
  rw [lg_entry_eq]
  generalize (lg_sl ([.ref a0]) ++ List.replicate (7 - (lg_sl ([.ref a0])).length) Slot.unset).toArray = ls at hl ⊢
  have hl : lv_has ls 7 [(0, .ref a0)] := hl
  unfold kp_Pr_raiseLayers at hw
  have hw := hw (fun (v1 : Int32) (σ : z_S) => ∀ (H : Heap) (locs : List Loc) (ls : Array Slot), z_G D z_cl z_KT dA Z σ H → va_S (fun q => Z ≤ q) s.heap H locs → lv_has ls 7 [(0, .ref a0), (1, .int v1)] → W p l e (headSpec ks_Pr_raiseLayers kr_Pr_raiseLayers).room s m ([.ref a0] : List Value).toArray below meth c H locs 0 0 (MQ below (z_Qv D z_cl z_KT dA Z (z_tys dA) z_nw Post) ([.ref a0] : List Value).toArray s 0 0 (fun q => Z ≤ q)) (F0 m 2 ls []))
  have hw := hw (fun (v1 : Int32) (v2 : Nat) (v3 : Int32) (v4 : Int32) (σ : z_S) => ∀ (H : Heap) (locs : List Loc) (ls : Array Slot), z_G D z_cl z_KT dA Z σ H → va_S (fun q => Z ≤ q) s.heap H locs → lv_has ls 7 [(0, .ref a0), (1, .int v1), (2, .ref v2), (3, .int v3), (4, .int v4)] → W p l e (headSpec ks_Pr_raiseLayers kr_Pr_raiseLayers).room s m ([.ref a0] : List Value).toArray below meth c H locs 0 0 (MQ below (z_Qv D z_cl z_KT dA Z (z_tys dA) z_nw Post) ([.ref a0] : List Value).toArray s 0 0 (fun q => Z ≤ q)) (F0 m 28 ls []))
  have hw := hw (fun (v1 : Int32) (v2 : Nat) (v3 : Int32) (v4 : Int32) (t0 : Int32) (t1 : Int32) (σ : z_S) => ∀ (H : Heap) (locs : List Loc) (ls : Array Slot), z_G D z_cl z_KT dA Z σ H → va_S (fun q => Z ≤ q) s.heap H locs → lv_has ls 7 [(0, .ref a0), (1, .int v1), (2, .ref v2), (3, .int v3), (4, .int v4)] → W p l e (headSpec ks_Pr_raiseLayers kr_Pr_raiseLayers).room s m ([.ref a0] : List Value).toArray below meth c H locs 0 0 (MQ below (z_Qv D z_cl z_KT dA Z (z_tys dA) z_nw Post) ([.ref a0] : List Value).toArray s 0 0 (fun q => Z ≤ q)) (F0 m 80 ls [.int t1, .int t0]))
  have hw := hw (by
    intro v1 σ hw H locs ls hG hS hl
    refine lv_iload_n hx hb kb_Pr_raiseLayers_2 rfl (lv_at hl 1 rfl) ?_
    refine lv_aload_n hx hb kb_Pr_raiseLayers_3 rfl (lv_at hl 0 rfl) ?_
    obtain ⟨hy, hw⟩ := hw
    refine zr_getI (ci := 2) (f := 201) hx hb hts ki_Pr hown hK hG hy rfl 1 (by decide) (hts _ (List.mem_cons_of_mem _ kw_31)) (fun _ h => h) rfl rfl kb_Pr_raiseLayers_4 ?_
    refine lv_icmp_ge (tgt := 112) hx hb kb_Pr_raiseLayers_7 (by decide) (fun hc => ?_) (fun hc => ?_)
    · have hw := hw.1 hc
      exact zr_vret z_nwN hx hb hr hZ hK hN hG hS hw kb_Pr_raiseLayers_112 hlocks
    · have hw := hw.2 hc
      refine lv_aload_n hx hb kb_Pr_raiseLayers_10 rfl (lv_at hl 0 rfl) ?_
      obtain ⟨hy, r11, hrf, hw⟩ := hw
      refine zr_getR (ci := 2) (f := 200) hx hb hts ki_Pr hown hK hG hy rfl 0 (by decide) (hts _ (List.mem_cons_of_mem _ kw_25)) (fun _ h => h) rfl rfl hrf kb_Pr_raiseLayers_11 ?_
      refine lv_iload_n hx hb kb_Pr_raiseLayers_14 rfl (lv_at hl 1 rfl) ?_
      obtain ⟨n15, s15, hy, hi, r15, hrf, hw⟩ := hw
      refine zr_aald hx hb hK hG 3 (by decide) hy rfl hi hrf kb_Pr_raiseLayers_15 ?_
      refine lv_astore_n (lv' := [(2, .ref r15), (0, .ref a0), (1, .int v1)]) hx hb kb_Pr_raiseLayers_16 rfl hl (by decide) rfl (fun ls hl => ?_)
      refine lv_aload_n hx hb kb_Pr_raiseLayers_17 rfl (lv_at hl 0 rfl) ?_
      obtain ⟨hy, r18, hrf, hw⟩ := hw
      refine zr_getR (ci := 5) (f := 500) hx hb hts ki_Ru hown hK hG hy rfl 0 (by decide) (hts _ (List.mem_cons_of_mem _ kw_129)) (fun _ h => h) rfl rfl hrf kb_Pr_raiseLayers_18 ?_
      obtain ⟨hy, hw⟩ := hw
      refine zr_getI (ci := 0) (f := 3) hx hb hts ki_At hown hK hG hy rfl 3 (by decide) (hts _ (List.mem_cons_of_mem _ kw_113)) (fun _ h => h) rfl rfl kb_Pr_raiseLayers_21 ?_
      refine lv_istore_n (lv' := [(3, .int (z_I σ 3 r18)), (2, .ref r15), (0, .ref a0), (1, .int v1)]) hx hb kb_Pr_raiseLayers_24 rfl hl (by decide) rfl (fun ls hl => ?_)
      refine lv_iconst (v := (0 : Int32)) hx hb kb_Pr_raiseLayers_25 (by decide) ?_
      refine lv_istore (lv' := [(4, .int ((0 : Int32))), (3, .int (z_I σ 3 r18)), (2, .ref r15), (0, .ref a0), (1, .int v1)]) hx hb kb_Pr_raiseLayers_26 hl (by decide) rfl (fun ls hl => ?_)
      exact hw _ _ _ hG hS (lv_sub hl [3, 4, 2, 1, 0] rfl))
  have hw := hw (by
    intro v1 v2 v3 v4 σ hw H locs ls hG hS hl
    refine lv_iload hx hb kb_Pr_raiseLayers_28 (lv_at hl 4 rfl) ?_
    refine lv_aload_n hx hb kb_Pr_raiseLayers_30 rfl (lv_at hl 2 rfl) ?_
    obtain ⟨hy, hw⟩ := hw
    refine zr_getI (ci := 5) (f := 502) hx hb hts ki_Ru hown hK hG hy rfl 2 (by decide) (hts _ (List.mem_cons_of_mem _ kw_135)) (fun _ h => h) rfl rfl kb_Pr_raiseLayers_31 ?_
    refine lv_icmp_ge (tgt := 106) hx hb kb_Pr_raiseLayers_34 (by decide) (fun hc => ?_) (fun hc => ?_)
    · have hw := hw.1 hc
      refine lv_iinc (v := v1 + (1 : Int32)) (lv' := [(1, .int (v1 + (1 : Int32))), (0, .ref a0), (2, .ref v2), (3, .int v3), (4, .int v4)]) hx hb kb_Pr_raiseLayers_106 hl (k := 1) rfl rfl (by decide) rfl (fun ls hl => ?_)
      refine lv_goto (tgt := 2) hx hb kb_Pr_raiseLayers_109 (by decide) ?_
      exact hw _ _ _ hG hS (lv_sub hl [1, 0] rfl)
    · have hw := hw.2 hc
      refine lv_aload_n hx hb kb_Pr_raiseLayers_37 rfl (lv_at hl 2 rfl) ?_
      obtain ⟨hy, r38, hrf, hw⟩ := hw
      refine zr_getR (ci := 5) (f := 501) hx hb hts ki_Ru hown hK hG hy rfl 1 (by decide) (hts _ (List.mem_cons_of_mem _ kw_132)) (fun _ h => h) rfl rfl hrf kb_Pr_raiseLayers_38 ?_
      refine lv_iload hx hb kb_Pr_raiseLayers_41 (lv_at hl 4 rfl) ?_
      obtain ⟨n43, s43, hy, hi, r43, hrf, hw⟩ := hw
      refine zr_aald hx hb hK hG 6 (by decide) hy rfl hi hrf kb_Pr_raiseLayers_43 ?_
      refine lv_astore (lv' := [(5, .ref r43), (0, .ref a0), (1, .int v1), (2, .ref v2), (3, .int v3), (4, .int v4)]) hx hb kb_Pr_raiseLayers_44 hl (by decide) rfl (fun ls hl => ?_)
      refine lv_aload hx hb kb_Pr_raiseLayers_46 (lv_at hl 0 rfl) ?_
      obtain ⟨hy, hw⟩ := hw
      refine zr_getI (ci := 0) (f := 2) hx hb hts ki_At hown hK hG hy rfl 2 (by decide) (hts _ (List.mem_cons_of_mem _ kw_111)) (fun _ h => h) rfl rfl kb_Pr_raiseLayers_48 ?_
      refine lv_iconst (v := (2 : Int32)) hx hb kb_Pr_raiseLayers_51 (by decide) ?_
      refine lv_icmp_eq (tgt := 100) hx hb kb_Pr_raiseLayers_52 (by decide) (fun hc => ?_) (fun hc => ?_)
      · have hw := hw.1 hc
        refine lv_iinc (v := v4 + (1 : Int32)) (lv' := [(4, .int (v4 + (1 : Int32))), (5, .ref r43), (0, .ref a0), (1, .int v1), (2, .ref v2), (3, .int v3)]) hx hb kb_Pr_raiseLayers_100 hl (k := 5) rfl rfl (by decide) rfl (fun ls hl => ?_)
        refine lv_goto (tgt := 28) hx hb kb_Pr_raiseLayers_103 (by decide) ?_
        exact hw _ _ _ hG hS (lv_sub hl [2, 3, 4, 5, 0] rfl)
      · have hw := hw.2 hc
        refine lv_aload_n hx hb kb_Pr_raiseLayers_55 rfl (lv_at hl 1 rfl) ?_
        obtain ⟨hy, r56, hrf, hw⟩ := hw
        refine zr_getR (ci := 2) (f := 204) hx hb hts ki_Pr hown hK hG hy rfl 4 (by decide) (hts _ (List.mem_cons_of_mem _ kw_37)) (fun _ h => h) rfl rfl hrf kb_Pr_raiseLayers_56 ?_
        refine lv_aload hx hb kb_Pr_raiseLayers_59 (lv_at hl 0 rfl) ?_
        obtain ⟨hy, hw⟩ := hw
        refine zr_getI (ci := 0) (f := 3) hx hb hts ki_At hown hK hG hy rfl 3 (by decide) (hts _ (List.mem_cons_of_mem _ kw_113)) (fun _ h => h) rfl rfl kb_Pr_raiseLayers_61 ?_
        obtain ⟨n64, s64, hy, hi, hw⟩ := hw
        refine zr_iald hx hb hK hG 0 hy rfl hi kb_Pr_raiseLayers_64 ?_
        refine lv_aload_n hx hb kb_Pr_raiseLayers_65 rfl (lv_at hl 1 rfl) ?_
        refine lv_aload_n hx hb kb_Pr_raiseLayers_66 rfl (lv_at hl 3 rfl) ?_
        refine lv_aload hx hb kb_Pr_raiseLayers_67 (lv_at hl 0 rfl) ?_
        obtain ⟨hy, hw⟩ := hw
        refine zr_ci (va_runV (C := kR_Pr) (As := [.ref v2, .ref r43]) (rest := [.int (z_A σ s64 r56 (z_I σ 3 r43).toNatClampNeg)]) ⟨hx, hb, hml, hown, hts⟩ (kc_Pr_mustLieBelow l D dA Z a0 v2 r43 σ _) ⟨callB_of 2 hts (z_gw kw_367) rfl rfl rfl (hts _ (List.mem_cons_of_mem _ kw_2)) (hts _ (List.mem_cons_of_mem _ kw_365)) (by decide +kernel) ⟨Nat.le_of_ble_eq_true rfl, Nat.le_of_ble_eq_true rfl⟩, (hts _ (List.mem_cons_of_mem _ kw_366)), (hts _ (List.mem_cons_of_mem _ kw_922))⟩ (z_preV z_nwN (Nat.le_trans hZ hS.1) hG hK hN hy (ci := 2) (r := (kR_Pr, kT_Pr, 11)) rfl hw) rfl rfl hl.1 rfl (lv_room (Nat.le_of_ble_eq_true rfl)) kb_Pr_raiseLayers_69 ⟨Nat.le_of_ble_eq_true rfl, Nat.le_of_ble_eq_true rfl⟩) hS (fun r69 σ69 H locs hw hG hS => ?_)
        refine lv_if_eq (tgt := 79) hx hb kb_Pr_raiseLayers_72 (by decide) (fun hc => ?_) (fun hc => ?_)
        · have hw := hw.1 hc
          refine lv_iconst (v := (0 : Int32)) hx hb kb_Pr_raiseLayers_79 (by decide) ?_
          exact hw _ _ _ hG hS (lv_sub hl [1, 2, 3, 4, 5] rfl)
        · have hw := hw.2 hc
          refine lv_iconst (v := (1 : Int32)) hx hb kb_Pr_raiseLayers_75 (by decide) ?_
          refine lv_goto (tgt := 80) hx hb kb_Pr_raiseLayers_76 (by decide) ?_
          exact hw _ _ _ hG hS (lv_sub hl [1, 2, 3, 4, 5] rfl))
  have hw := hw (by
    intro v1 v2 v3 v4 t0 t1 σ hw H locs ls hG hS hl
    refine lv_iadd hx hb kb_Pr_raiseLayers_80 ?_
    refine lv_istore (lv' := [(6, .int (t0 + t1)), (0, .ref a0), (1, .int v1), (2, .ref v2), (3, .int v3), (4, .int v4)]) hx hb kb_Pr_raiseLayers_81 hl (by decide) rfl (fun ls hl => ?_)
    refine lv_aload_n hx hb kb_Pr_raiseLayers_83 rfl (lv_at hl 1 rfl) ?_
    obtain ⟨hy, r84, hrf, hw⟩ := hw
    refine zr_getR (ci := 2) (f := 204) hx hb hts ki_Pr hown hK hG hy rfl 4 (by decide) (hts _ (List.mem_cons_of_mem _ kw_37)) (fun _ h => h) rfl rfl hrf kb_Pr_raiseLayers_84 ?_
    refine lv_iload_n hx hb kb_Pr_raiseLayers_87 rfl (lv_at hl 4 rfl) ?_
    refine lv_aload_n hx hb kb_Pr_raiseLayers_88 rfl (lv_at hl 1 rfl) ?_
    obtain ⟨hy, r89, hrf, hw⟩ := hw
    refine zr_getR (ci := 2) (f := 204) hx hb hts ki_Pr hown hK hG hy rfl 4 (by decide) (hts _ (List.mem_cons_of_mem _ kw_37)) (fun _ h => h) rfl rfl hrf kb_Pr_raiseLayers_89 ?_
    refine lv_iload_n hx hb kb_Pr_raiseLayers_92 rfl (lv_at hl 4 rfl) ?_
    obtain ⟨n93, s93, hy, hi, hw⟩ := hw
    refine zr_iald hx hb hK hG 0 hy rfl hi kb_Pr_raiseLayers_93 ?_
    refine lv_iload hx hb kb_Pr_raiseLayers_94 (lv_at hl 0 rfl) ?_
    refine va_mmax hx hb (by rw [hml, hl.1]) hown (hts _ (List.mem_cons_of_mem _ kw_377)) (hts _ (List.mem_cons_of_mem _ kw_73)) (hts _ (List.mem_cons_of_mem _ kw_4)) (hts _ (List.mem_cons_of_mem _ kw_74)) (Nat.le_of_ble_eq_true rfl) (Nat.le_of_ble_eq_true rfl) (Nat.le_of_ble_eq_true rfl) (Nat.le_of_ble_eq_true rfl) kb_Pr_raiseLayers_96 ?_
    obtain ⟨n99, s99, hy, hi, hw⟩ := hw
    refine zr_iast hx hb hK hG hS 0 hy rfl hi kb_Pr_raiseLayers_99 (fun H locs hG hS => ?_)
    obtain ⟨σ99, e99⟩ : ∃ z, z = z_sA σ s99 r84 (upd (z_A σ s99 r84) v3.toNatClampNeg (if (z_A σ s93 r89 v3.toNatClampNeg) < (t0 + t1) then (t0 + t1) else (z_A σ s93 r89 v3.toNatClampNeg))) := ⟨_, rfl⟩
    rw [← e99] at hG
    have hw := hw _ e99
    refine lv_iinc (v := v4 + (1 : Int32)) (lv' := [(4, .int (v4 + (1 : Int32))), (6, .int (t0 + t1)), (0, .ref a0), (1, .int v1), (2, .ref v2), (3, .int v3)]) hx hb kb_Pr_raiseLayers_100 hl (k := 5) rfl rfl (by decide) rfl (fun ls hl => ?_)
    refine lv_goto (tgt := 28) hx hb kb_Pr_raiseLayers_103 (by decide) ?_
    exact hw _ _ _ hG hS (lv_sub hl [2, 3, 4, 5, 0] rfl))
  refine lv_iconst (v := (0 : Int32)) hx hb kb_Pr_raiseLayers_0 (by decide) ?_
  refine lv_istore_n (lv' := [(1, .int ((0 : Int32))), (0, .ref a0)]) hx hb kb_Pr_raiseLayers_1 rfl hl (by decide) rfl (fun ls hl => ?_)
  exact hw _ _ _ hG hS (lv_sub hl [1, 0] rfl)
def kp_Pr_findLayers (a0 : Nat) (σ : z_S) (Post : Int32 → z_S → Prop) : Prop := ∀ (X19 : Int32 → z_S → Prop) (X45 : Int32 → Nat → Int32 → Int32 → z_S → Prop) (X54 : Int32 → z_S → Prop) (X72 : Int32 → z_S → Prop),
    (∀ (v1 : Int32) (σ : z_S), (z_ty σ a0 = some (.inl 2) ∧ (((z_I σ 206 a0) ≤ v1 → X54 ((0 : Int32)) σ) ∧ (¬ (z_I σ 206 a0) ≤ v1 → z_ty σ a0 = some (.inl 2) ∧ ∃ r28, z_R σ 204 a0 = some r28 ∧ (z_ty σ a0 = some (.inl 2) ∧ kp_Pr_isView a0 v1 σ (fun (r34 : Int32) (σ34 : z_S) => (r34 = 0 → X45 v1 r28 v1 ((0 : Int32)) σ34) ∧ (¬ r34 = 0 → X45 v1 r28 v1 ((1 : Int32)) σ34)))))) → X19 v1 σ) →
    (∀ (v1 : Int32) (t0 : Nat) (t1 : Int32) (t2 : Int32) (σ : z_S), (∃ n45 s45, z_ty σ t0 = some (.inr (0, n45, s45)) ∧ vp_in t1 n45 ∧ ∀ σ45, σ45 = z_sA σ s45 t0 (upd (z_A σ s45 t0) t1.toNatClampNeg t2) → X19 (v1 + (1 : Int32)) σ45) → X45 v1 t0 t1 t2 σ) →
    (∀ (v1 : Int32) (σ : z_S), ((((8 : Int32)) ≤ v1 → X72 ((0 : Int32)) σ) ∧ (¬ ((8 : Int32)) ≤ v1 → z_ty σ a0 = some (.inl 2) ∧ kp_Pr_raiseLayers a0 σ (fun (σ61 : z_S) => X54 (v1 + (1 : Int32)) σ61))) → X54 v1 σ) →
    (∀ (v1 : Int32) (σ : z_S), (z_ty σ a0 = some (.inl 2) ∧ (((z_I σ 206 a0) ≤ v1 → Post ((1 : Int32)) σ) ∧ (¬ (z_I σ 206 a0) ≤ v1 → z_ty σ a0 = some (.inl 2) ∧ (z_ty σ a0 = some (.inl 2) ∧ ∃ r86, z_R σ 204 a0 = some r86 ∧ (∃ n90 s90, z_ty σ r86 = some (.inr (0, n90, s90)) ∧ vp_in v1 n90 ∧ (z_ty σ a0 = some (.inl 2) ∧ ∀ σ94, σ94 = z_sI σ 207 a0 (if (z_I σ 207 a0) < (z_A σ s90 r86 v1.toNatClampNeg) then (z_A σ s90 r86 v1.toNatClampNeg) else (z_I σ 207 a0)) → X72 (v1 + (1 : Int32)) σ94)))))) → X72 v1 σ) →
    (z_ty σ a0 = some (.inl 2) ∧ kp_Pr_findReach a0 σ (fun (σ1 : z_S) => z_ty σ1 a0 = some (.inl 2) ∧ kp_Pr_findRing a0 σ1 (fun (σ5 : z_S) => z_ty σ5 a0 = some (.inl 2) ∧ ((((z_I σ5 208 a0)) = 0 → X19 ((0 : Int32)) σ5) ∧ (¬ ((z_I σ5 208 a0)) = 0 → Post ((0 : Int32)) σ5)))))
set_option maxHeartbeats 4000000 in
set_option maxRecDepth 100000 in
theorem kc_Pr_findLayers (l : Launch) (D : va_G) (dA : Nat → ClassId) (Z : Nat) (a0 : Nat) (σ : z_S) (Post : Int32 → z_S → Prop) : Met l km_Pr_findLayers ks_Pr_findLayers kr_Pr_findLayers (va_Pc [.ref a0] (fun U => z_U D z_cl z_KT dA Z (z_tys dA) z_nw σ U ∧ kp_Pr_findLayers  a0 σ Post)) (z_Qi D z_cl z_KT dA Z (z_tys dA) z_nw Post) 0 0 (fun q => Z ≤ q) := by
  refine Met.ofW (cc := prog_4_method_9_code) (maxL := 2) (ret := (some .boolean)) (by decide) rfl ?_
  intro p e s m args below meth c s₁ B hml hv
  obtain ⟨rfl, ⟨hZ, hG, hK, hN⟩, hw⟩ := hv
  have hx := B.exec
  have hb := B.bytes
  have hr := B.returns
  have hts := atoms_spec (ws := ks_Pr_findLayers) B.pre
  have hown : s.vm.findClass kR_Pr = some m.cls := findClass_of_methodNamed B.named
  have hlocks := B.notSynchronized
  have hS : va_S (fun q => Z ≤ q) s.heap s.heap [] := va_S.rf
  have hl := lv_entry ([.ref a0]) (n := 2) (Nat.le_of_ble_eq_true rfl)
  rw [lg_entry_eq]
  generalize (lg_sl ([.ref a0]) ++ List.replicate (2 - (lg_sl ([.ref a0])).length) Slot.unset).toArray = ls at hl ⊢
  have hl : lv_has ls 2 [(0, .ref a0)] := hl
  unfold kp_Pr_findLayers at hw
  have hw := hw (fun (v1 : Int32) (σ : z_S) => ∀ (H : Heap) (locs : List Loc) (ls : Array Slot), z_G D z_cl z_KT dA Z σ H → va_S (fun q => Z ≤ q) s.heap H locs → lv_has ls 2 [(0, .ref a0), (1, .int v1)] → W p l e (headSpec ks_Pr_findLayers kr_Pr_findLayers).room s m ([.ref a0] : List Value).toArray below meth c H locs 0 0 (MQ below (z_Qi D z_cl z_KT dA Z (z_tys dA) z_nw Post) ([.ref a0] : List Value).toArray s 0 0 (fun q => Z ≤ q)) (F0 m 19 ls []))
  have hw := hw (fun (v1 : Int32) (t0 : Nat) (t1 : Int32) (t2 : Int32) (σ : z_S) => ∀ (H : Heap) (locs : List Loc) (ls : Array Slot), z_G D z_cl z_KT dA Z σ H → va_S (fun q => Z ≤ q) s.heap H locs → lv_has ls 2 [(0, .ref a0), (1, .int v1)] → W p l e (headSpec ks_Pr_findLayers kr_Pr_findLayers).room s m ([.ref a0] : List Value).toArray below meth c H locs 0 0 (MQ below (z_Qi D z_cl z_KT dA Z (z_tys dA) z_nw Post) ([.ref a0] : List Value).toArray s 0 0 (fun q => Z ≤ q)) (F0 m 45 ls [.int t2, .int t1, .ref t0]))
  have hw := hw (fun (v1 : Int32) (σ : z_S) => ∀ (H : Heap) (locs : List Loc) (ls : Array Slot), z_G D z_cl z_KT dA Z σ H → va_S (fun q => Z ≤ q) s.heap H locs → lv_has ls 2 [(0, .ref a0), (1, .int v1)] → W p l e (headSpec ks_Pr_findLayers kr_Pr_findLayers).room s m ([.ref a0] : List Value).toArray below meth c H locs 0 0 (MQ below (z_Qi D z_cl z_KT dA Z (z_tys dA) z_nw Post) ([.ref a0] : List Value).toArray s 0 0 (fun q => Z ≤ q)) (F0 m 54 ls []))
  have hw := hw (fun (v1 : Int32) (σ : z_S) => ∀ (H : Heap) (locs : List Loc) (ls : Array Slot), z_G D z_cl z_KT dA Z σ H → va_S (fun q => Z ≤ q) s.heap H locs → lv_has ls 2 [(0, .ref a0), (1, .int v1)] → W p l e (headSpec ks_Pr_findLayers kr_Pr_findLayers).room s m ([.ref a0] : List Value).toArray below meth c H locs 0 0 (MQ below (z_Qi D z_cl z_KT dA Z (z_tys dA) z_nw Post) ([.ref a0] : List Value).toArray s 0 0 (fun q => Z ≤ q)) (F0 m 72 ls []))
  have hw := hw (by
    intro v1 σ hw H locs ls hG hS hl
    refine lv_iload_n hx hb kb_Pr_findLayers_19 rfl (lv_at hl 1 rfl) ?_
    refine lv_aload_n hx hb kb_Pr_findLayers_20 rfl (lv_at hl 0 rfl) ?_
    obtain ⟨hy, hw⟩ := hw
    refine zr_getI (ci := 2) (f := 206) hx hb hts ki_Pr hown hK hG hy rfl 6 (by decide) (hts _ (List.mem_cons_of_mem _ kw_42)) (fun _ h => h) rfl rfl kb_Pr_findLayers_21 ?_
    refine lv_icmp_ge (tgt := 52) hx hb kb_Pr_findLayers_24 (by decide) (fun hc => ?_) (fun hc => ?_)
    · have hw := hw.1 hc
      refine lv_iconst (v := (0 : Int32)) hx hb kb_Pr_findLayers_52 (by decide) ?_
      refine lv_istore_n (lv' := [(1, .int ((0 : Int32))), (0, .ref a0)]) hx hb kb_Pr_findLayers_53 rfl hl (by decide) rfl (fun ls hl => ?_)
      exact hw _ _ _ hG hS (lv_sub hl [1, 0] rfl)
    · have hw := hw.2 hc
      refine lv_aload_n hx hb kb_Pr_findLayers_27 rfl (lv_at hl 0 rfl) ?_
      obtain ⟨hy, r28, hrf, hw⟩ := hw
      refine zr_getR (ci := 2) (f := 204) hx hb hts ki_Pr hown hK hG hy rfl 4 (by decide) (hts _ (List.mem_cons_of_mem _ kw_37)) (fun _ h => h) rfl rfl hrf kb_Pr_findLayers_28 ?_
      refine lv_iload_n hx hb kb_Pr_findLayers_31 rfl (lv_at hl 1 rfl) ?_
      refine lv_aload_n hx hb kb_Pr_findLayers_32 rfl (lv_at hl 0 rfl) ?_
      refine lv_iload_n hx hb kb_Pr_findLayers_33 rfl (lv_at hl 1 rfl) ?_
      obtain ⟨hy, hw⟩ := hw
      refine zr_ci (va_runV (C := kR_Pr) (As := [.int v1]) (rest := [.int v1, .ref r28]) ⟨hx, hb, hml, hown, hts⟩ (kc_Pr_isView l D dA Z a0 v1 σ _) ⟨callB_of 1 hts (z_gw kw_324) rfl rfl rfl (hts _ (List.mem_cons_of_mem _ kw_2)) (hts _ (List.mem_cons_of_mem _ kw_321)) (by decide +kernel) ⟨Nat.le_of_ble_eq_true rfl, Nat.le_of_ble_eq_true rfl⟩, (hts _ (List.mem_cons_of_mem _ kw_322)), (hts _ (List.mem_cons_of_mem _ kw_323))⟩ (z_preV z_nwN (Nat.le_trans hZ hS.1) hG hK hN hy (ci := 2) (r := (kR_Pr, kT_Pr, 11)) rfl hw) rfl rfl hl.1 rfl (lv_room (Nat.le_of_ble_eq_true rfl)) kb_Pr_findLayers_34 ⟨Nat.le_of_ble_eq_true rfl, Nat.le_of_ble_eq_true rfl⟩) hS (fun r34 σ34 H locs hw hG hS => ?_)
      refine lv_if_eq (tgt := 44) hx hb kb_Pr_findLayers_37 (by decide) (fun hc => ?_) (fun hc => ?_)
      · have hw := hw.1 hc
        refine lv_iconst (v := (0 : Int32)) hx hb kb_Pr_findLayers_44 (by decide) ?_
        exact hw _ _ _ hG hS (lv_sub hl [0, 1] rfl)
      · have hw := hw.2 hc
        refine lv_iconst (v := (1 : Int32)) hx hb kb_Pr_findLayers_40 (by decide) ?_
        refine lv_goto (tgt := 45) hx hb kb_Pr_findLayers_41 (by decide) ?_
        exact hw _ _ _ hG hS (lv_sub hl [0, 1] rfl))
  have hw := hw (by
    intro v1 t0 t1 t2 σ hw H locs ls hG hS hl
    obtain ⟨n45, s45, hy, hi, hw⟩ := hw
    refine zr_iast hx hb hK hG hS 0 hy rfl hi kb_Pr_findLayers_45 (fun H locs hG hS => ?_)
    obtain ⟨σ45, e45⟩ : ∃ z, z = z_sA σ s45 t0 (upd (z_A σ s45 t0) t1.toNatClampNeg t2) := ⟨_, rfl⟩
    rw [← e45] at hG
    have hw := hw _ e45
    refine lv_iinc (v := v1 + (1 : Int32)) (lv' := [(1, .int (v1 + (1 : Int32))), (0, .ref a0)]) hx hb kb_Pr_findLayers_46 hl (k := 1) rfl rfl (by decide) rfl (fun ls hl => ?_)
    refine lv_goto (tgt := 19) hx hb kb_Pr_findLayers_49 (by decide) ?_
    exact hw _ _ _ hG hS (lv_sub hl [1, 0] rfl))
  have hw := hw (by
    intro v1 σ hw H locs ls hG hS hl
    refine lv_iload_n hx hb kb_Pr_findLayers_54 rfl (lv_at hl 1 rfl) ?_
    refine lv_bipush (v := (8 : Int32)) hx hb kb_Pr_findLayers_55 (by decide) ?_
    refine lv_icmp_ge (tgt := 70) hx hb kb_Pr_findLayers_57 (by decide) (fun hc => ?_) (fun hc => ?_)
    · have hw := hw.1 hc
      refine lv_iconst (v := (0 : Int32)) hx hb kb_Pr_findLayers_70 (by decide) ?_
      refine lv_istore_n (lv' := [(1, .int ((0 : Int32))), (0, .ref a0)]) hx hb kb_Pr_findLayers_71 rfl hl (by decide) rfl (fun ls hl => ?_)
      exact hw _ _ _ hG hS (lv_sub hl [1, 0] rfl)
    · have hw := hw.2 hc
      refine lv_aload_n hx hb kb_Pr_findLayers_60 rfl (lv_at hl 0 rfl) ?_
      obtain ⟨hy, hw⟩ := hw
      refine zr_cv (va_runV (C := kR_Pr) (As := []) (rest := []) ⟨hx, hb, hml, hown, hts⟩ (kc_Pr_raiseLayers l D dA Z a0 σ _) ⟨callB_of 0 hts (z_gw kw_376) rfl rfl rfl (hts _ (List.mem_cons_of_mem _ kw_2)) (hts _ (List.mem_cons_of_mem _ kw_374)) (by decide +kernel) ⟨Nat.le_of_ble_eq_true rfl, Nat.le_of_ble_eq_true rfl⟩, (hts _ (List.mem_cons_of_mem _ kw_375)), (hts _ (List.mem_cons_of_mem _ kw_925))⟩ (z_preV z_nwN (Nat.le_trans hZ hS.1) hG hK hN hy (ci := 2) (r := (kR_Pr, kT_Pr, 11)) rfl hw) rfl rfl hl.1 rfl (lv_room (Nat.le_of_ble_eq_true rfl)) kb_Pr_findLayers_61 ⟨Nat.le_of_ble_eq_true rfl, Nat.le_of_ble_eq_true rfl⟩) hS (fun σ61 H locs hw hG hS => ?_)
      refine lv_iinc (v := v1 + (1 : Int32)) (lv' := [(1, .int (v1 + (1 : Int32))), (0, .ref a0)]) hx hb kb_Pr_findLayers_64 hl (k := 1) rfl rfl (by decide) rfl (fun ls hl => ?_)
      refine lv_goto (tgt := 54) hx hb kb_Pr_findLayers_67 (by decide) ?_
      exact hw _ _ _ hG hS (lv_sub hl [1, 0] rfl))
  have hw := hw (by
    intro v1 σ hw H locs ls hG hS hl
    refine lv_iload_n hx hb kb_Pr_findLayers_72 rfl (lv_at hl 1 rfl) ?_
    refine lv_aload_n hx hb kb_Pr_findLayers_73 rfl (lv_at hl 0 rfl) ?_
    obtain ⟨hy, hw⟩ := hw
    refine zr_getI (ci := 2) (f := 206) hx hb hts ki_Pr hown hK hG hy rfl 6 (by decide) (hts _ (List.mem_cons_of_mem _ kw_42)) (fun _ h => h) rfl rfl kb_Pr_findLayers_74 ?_
    refine lv_icmp_ge (tgt := 103) hx hb kb_Pr_findLayers_77 (by decide) (fun hc => ?_) (fun hc => ?_)
    · have hw := hw.1 hc
      refine lv_iconst (v := (1 : Int32)) hx hb kb_Pr_findLayers_103 (by decide) ?_
      exact zr_iret (free := fun q => Z ≤ q) z_nwN hx hb hr rfl hZ hK hN hG hS hw kb_Pr_findLayers_104 hlocks
    · have hw := hw.2 hc
      refine lv_aload_n hx hb kb_Pr_findLayers_80 rfl (lv_at hl 0 rfl) ?_
      refine lv_aload_n hx hb kb_Pr_findLayers_81 rfl (lv_at hl 0 rfl) ?_
      obtain ⟨hy, hw⟩ := hw
      refine zr_getI (ci := 2) (f := 207) hx hb hts ki_Pr hown hK hG hy rfl 7 (by decide) (hts _ (List.mem_cons_of_mem _ kw_46)) (fun _ h => h) rfl rfl kb_Pr_findLayers_82 ?_
      refine lv_aload_n hx hb kb_Pr_findLayers_85 rfl (lv_at hl 0 rfl) ?_
      obtain ⟨hy, r86, hrf, hw⟩ := hw
      refine zr_getR (ci := 2) (f := 204) hx hb hts ki_Pr hown hK hG hy rfl 4 (by decide) (hts _ (List.mem_cons_of_mem _ kw_37)) (fun _ h => h) rfl rfl hrf kb_Pr_findLayers_86 ?_
      refine lv_iload_n hx hb kb_Pr_findLayers_89 rfl (lv_at hl 1 rfl) ?_
      obtain ⟨n90, s90, hy, hi, hw⟩ := hw
      refine zr_iald hx hb hK hG 0 hy rfl hi kb_Pr_findLayers_90 ?_
      refine va_mmax hx hb (by rw [hml, hl.1]) hown (hts _ (List.mem_cons_of_mem _ kw_377)) (hts _ (List.mem_cons_of_mem _ kw_73)) (hts _ (List.mem_cons_of_mem _ kw_4)) (hts _ (List.mem_cons_of_mem _ kw_74)) (Nat.le_of_ble_eq_true rfl) (Nat.le_of_ble_eq_true rfl) (Nat.le_of_ble_eq_true rfl) (Nat.le_of_ble_eq_true rfl) kb_Pr_findLayers_91 ?_
      obtain ⟨hy, hw⟩ := hw
      refine zr_putI (ci := 2) (f := 207) hx hb hts ki_Pr ky_Pr kyo_Pr kn_Pr hown hK hG hS hy rfl 7 (by decide) (hts _ (List.mem_cons_of_mem _ kw_46)) (fun _ h => h) rfl rfl rfl rfl rfl kb_Pr_findLayers_94 (fun H locs hG hS => ?_)
      obtain ⟨σ94, e94⟩ : ∃ z, z = z_sI σ 207 a0 (if (z_I σ 207 a0) < (z_A σ s90 r86 v1.toNatClampNeg) then (z_A σ s90 r86 v1.toNatClampNeg) else (z_I σ 207 a0)) := ⟨_, rfl⟩
      rw [← e94] at hG
      have hw := hw _ e94
      refine lv_iinc (v := v1 + (1 : Int32)) (lv' := [(1, .int (v1 + (1 : Int32))), (0, .ref a0)]) hx hb kb_Pr_findLayers_97 hl (k := 1) rfl rfl (by decide) rfl (fun ls hl => ?_)
      refine lv_goto (tgt := 72) hx hb kb_Pr_findLayers_100 (by decide) ?_
      exact hw _ _ _ hG hS (lv_sub hl [1, 0] rfl))
  refine lv_aload_n hx hb kb_Pr_findLayers_0 rfl (lv_at hl 0 rfl) ?_
  obtain ⟨hy, hw⟩ := hw
  refine zr_cv (va_runV (C := kR_Pr) (As := []) (rest := []) ⟨hx, hb, hml, hown, hts⟩ (kc_Pr_findReach l D dA Z a0 σ _) ⟨callB_of 0 hts (z_gw kw_361) rfl rfl rfl (hts _ (List.mem_cons_of_mem _ kw_2)) (hts _ (List.mem_cons_of_mem _ kw_359)) (by decide +kernel) ⟨Nat.le_of_ble_eq_true rfl, Nat.le_of_ble_eq_true rfl⟩, (hts _ (List.mem_cons_of_mem _ kw_360)), (hts _ (List.mem_cons_of_mem _ kw_920))⟩ (z_preV z_nwN (Nat.le_trans hZ hS.1) hG hK hN hy (ci := 2) (r := (kR_Pr, kT_Pr, 11)) rfl hw) rfl rfl hl.1 rfl (lv_room (Nat.le_of_ble_eq_true rfl)) kb_Pr_findLayers_1 ⟨Nat.le_of_ble_eq_true rfl, Nat.le_of_ble_eq_true rfl⟩) hS (fun σ1 H locs hw hG hS => ?_)
  refine lv_aload_n hx hb kb_Pr_findLayers_4 rfl (lv_at hl 0 rfl) ?_
  obtain ⟨hy, hw⟩ := hw
  refine zr_cv (va_runV (C := kR_Pr) (As := []) (rest := []) ⟨hx, hb, hml, hown, hts⟩ (kc_Pr_findRing l D dA Z a0 σ1 _) ⟨callB_of 0 hts (z_gw kw_364) rfl rfl rfl (hts _ (List.mem_cons_of_mem _ kw_2)) (hts _ (List.mem_cons_of_mem _ kw_362)) (by decide +kernel) ⟨Nat.le_of_ble_eq_true rfl, Nat.le_of_ble_eq_true rfl⟩, (hts _ (List.mem_cons_of_mem _ kw_363)), (hts _ (List.mem_cons_of_mem _ kw_921))⟩ (z_preV z_nwN (Nat.le_trans hZ hS.1) hG hK hN hy (ci := 2) (r := (kR_Pr, kT_Pr, 11)) rfl hw) rfl rfl hl.1 rfl (lv_room (Nat.le_of_ble_eq_true rfl)) kb_Pr_findLayers_5 ⟨Nat.le_of_ble_eq_true rfl, Nat.le_of_ble_eq_true rfl⟩) hS (fun σ5 H locs hw hG hS => ?_)
  refine lv_aload_n hx hb kb_Pr_findLayers_8 rfl (lv_at hl 0 rfl) ?_
  obtain ⟨hy, hw⟩ := hw
  refine zr_getI (ci := 2) (f := 208) hx hb hts ki_Pr hown hK hG hy rfl 8 (by decide) (hts _ (List.mem_cons_of_mem _ kw_48)) (fun _ h => h) rfl rfl kb_Pr_findLayers_9 ?_
  refine lv_if_eq (tgt := 17) hx hb kb_Pr_findLayers_12 (by decide) (fun hc => ?_) (fun hc => ?_)
  · have hw := hw.1 hc
    refine lv_iconst (v := (0 : Int32)) hx hb kb_Pr_findLayers_17 (by decide) ?_
    refine lv_istore_n (lv' := [(1, .int ((0 : Int32))), (0, .ref a0)]) hx hb kb_Pr_findLayers_18 rfl hl (by decide) rfl (fun ls hl => ?_)
    exact hw _ _ _ hG hS (lv_sub hl [1, 0] rfl)
  · have hw := hw.2 hc
    refine lv_iconst (v := (0 : Int32)) hx hb kb_Pr_findLayers_15 (by decide) ?_
    exact zr_iret (free := fun q => Z ≤ q) z_nwN hx hb hr rfl hZ hK hN hG hS hw kb_Pr_findLayers_16 hlocks
def kp_Re_init (a0 : Nat) (b1 : Nat) (x2 : Int32) (σ : z_S) (Post : z_S → Prop) : Prop :=     (∀ q5, z_ty σ q5 = none → ∀ σ5, σ5 = z_new σ q5 2 → kp_Pr_init q5 σ5 (fun (σ9 : z_S) => z_ty σ9 a0 = some (.inl 3) ∧ ∀ σ12, σ12 = z_sR σ9 300 a0 (some q5) → z_ty σ12 a0 = some (.inl 3) ∧ ∀ σ17, σ17 = z_sI σ12 302 a0 ((-1 : Int32)) → ∀ q21, z_ty σ17 q21 = none → ∀ σ21, σ21 = z_new σ17 q21 5 → kp_Ru_init q21 σ21 (fun (σ25 : z_S) => z_ty σ25 a0 = some (.inl 3) ∧ ∀ σ28, σ28 = z_sR σ25 306 a0 (some q21) → z_ty σ28 a0 = some (.inl 3) ∧ ∀ σ33, σ33 = z_sR σ28 303 a0 (some b1) → ∃ n39 s39, z_ty σ33 b1 = some (.inr (1, n39, s39)) ∧ (z_ty σ33 a0 = some (.inl 3) ∧ ∀ σ43, σ43 = z_sI σ33 304 a0 (if (nI n39) < x2 then (nI n39) else x2) → Post σ43))))
set_option maxHeartbeats 4000000 in
set_option maxRecDepth 100000 in
theorem kc_Re_init (l : Launch) (D : va_G) (dA : Nat → ClassId) (Z : Nat) (a0 : Nat) (b1 : Nat) (x2 : Int32) (σ : z_S) (Post : z_S → Prop) : Met l km_Re_init ks_Re_init kr_Re_init (va_Pc [.ref a0, .ref b1, .int x2] (fun U => z_U D z_cl z_KT dA Z (z_tys dA) z_nw σ U ∧ kp_Re_init  a0 b1 x2 σ Post)) (z_Qv D z_cl z_KT dA Z (z_tys dA) z_nw Post) 10 80 (fun q => Z ≤ q) := by
  refine Met.ofW (cc := prog_5_method_1_code) (maxL := 3) (ret := none) (by decide) rfl ?_
  intro p e s m args below meth c s₁ B hml hv
  obtain ⟨rfl, ⟨hZ, hG, hK, hN⟩, hw⟩ := hv
  have hx := B.exec
  have hb := B.bytes
  have hr := B.returns
  have hts := atoms_spec (ws := ks_Re_init) B.pre
  have hown : s.vm.findClass kR_Re = some m.cls := findClass_of_methodNamed B.named
  have hlocks := B.notSynchronized
  have hin : meth.name = "<init>" := (name_of_methodNamed B.named B.method).1
  have hS : va_S (fun q => Z ≤ q) s.heap s.heap [] := va_S.rf
  have hl := lv_entry ([.ref a0, .ref b1, .int x2]) (n := 3) (Nat.le_of_ble_eq_true rfl)
  rw [lg_entry_eq]
  generalize (lg_sl ([.ref a0, .ref b1, .int x2]) ++ List.replicate (3 - (lg_sl ([.ref a0, .ref b1, .int x2])).length) Slot.unset).toArray = ls at hl ⊢
  have hl : lv_has ls 3 [(0, .ref a0), (1, .ref b1), (2, .int x2)] := hl
  unfold kp_Re_init at hw
  refine lv_aload_n hx hb kb_Re_init_0 rfl (lv_at hl 0 rfl) ?_
  refine W.objInit hx hb hown (hts _ (List.mem_cons_of_mem _ kw_234)) (hts _ (List.mem_cons_of_mem _ kw_17)) (hts _ (List.mem_cons_of_mem _ kw_18)) rfl (by rw [hml]; exact hl.1) rfl kb_Re_init_1 (Nat.le_of_ble_eq_true rfl) (Nat.le_of_ble_eq_true rfl) ?_
  refine W.eq (g2 := F0 m 4 ls []) rfl ?_
  refine lv_aload_n hx hb kb_Re_init_4 rfl (lv_at hl 0 rfl) ?_
  refine zr_new (ci := 2) hx hb hts ki_Pr ky_Pr kyo_Pr hown (hts _ (List.mem_cons_of_mem _ kw_235)) (hts _ (List.mem_cons_of_mem _ kw_20)) (hts _ (List.mem_cons_of_mem _ kw_2)) hK hG hS hZ rfl kd_Pr (Nat.le_of_ble_eq_true rfl) (Nat.le_of_ble_eq_true rfl) kb_Re_init_5 (fun q5 H hq hG hS => ?_)
  obtain ⟨σ5, e5⟩ : ∃ z, z = z_new σ q5 2 := ⟨_, rfl⟩
  rw [← e5] at hG
  have hw := hw q5 hq _ e5
  refine lv_dup hx hb kb_Re_init_8 rfl ?_
  refine zr_cv (va_runIN (b := q5) (As := []) (rest := [.ref q5, .ref a0]) ⟨hx, hb, hml, hown, hts⟩ (kc_Pr_init l D dA Z q5 σ5 _) ⟨va_cnB 0 hts (z_gw kw_22) rfl rfl rfl (hN _ kq_6) (hts _ (List.mem_cons_of_mem _ kw_2)) (by decide +kernel) ⟨Nat.le_of_ble_eq_true rfl, Nat.le_of_ble_eq_true rfl⟩, rfl, (hts _ (List.mem_cons_of_mem _ kw_21))⟩ (z_preS z_nwN (Nat.le_trans hZ hS.1) hG hK hN hw) rfl rfl hl.1 rfl (lv_room (Nat.le_of_ble_eq_true rfl)) kb_Re_init_9 ⟨Nat.le_of_ble_eq_true rfl, Nat.le_of_ble_eq_true rfl⟩) hS (fun σ9 H locs hw hG hS => ?_)
  obtain ⟨hy, hw⟩ := hw
  refine zr_putRF (ci := 3) (f := 300) hx hb hts ki_Re ky_Re kyo_Re kn_Re hown hK hG hS hy rfl 0 (by decide) (hts _ (List.mem_cons_of_mem _ kw_240)) (fun _ h => h) rfl hin rfl rfl rfl rfl rfl kb_Re_init_12 (fun H locs hG hS => ?_)
  obtain ⟨σ12, e12⟩ : ∃ z, z = z_sR σ9 300 a0 (some q5) := ⟨_, rfl⟩
  rw [← e12] at hG
  have hw := hw _ e12
  refine lv_aload_n hx hb kb_Re_init_15 rfl (lv_at hl 0 rfl) ?_
  refine lv_iconst (v := (-1 : Int32)) hx hb kb_Re_init_16 (by decide) ?_
  obtain ⟨hy, hw⟩ := hw
  refine zr_putI (ci := 3) (f := 302) hx hb hts ki_Re ky_Re kyo_Re kn_Re hown hK hG hS hy rfl 2 (by decide) (hts _ (List.mem_cons_of_mem _ kw_244)) (fun _ h => h) rfl rfl rfl rfl rfl kb_Re_init_17 (fun H locs hG hS => ?_)
  obtain ⟨σ17, e17⟩ : ∃ z, z = z_sI σ12 302 a0 ((-1 : Int32)) := ⟨_, rfl⟩
  rw [← e17] at hG
  have hw := hw _ e17
  refine lv_aload_n hx hb kb_Re_init_20 rfl (lv_at hl 0 rfl) ?_
  refine zr_new (ci := 5) hx hb hts ki_Ru ky_Ru kyo_Ru hown (hts _ (List.mem_cons_of_mem _ kw_236)) (hts _ (List.mem_cons_of_mem _ kw_94)) (hts _ (List.mem_cons_of_mem _ kw_6)) hK hG hS hZ rfl kd_Ru (Nat.le_of_ble_eq_true rfl) (Nat.le_of_ble_eq_true rfl) kb_Re_init_21 (fun q21 H hq hG hS => ?_)
  obtain ⟨σ21, e21⟩ : ∃ z, z = z_new σ17 q21 5 := ⟨_, rfl⟩
  rw [← e21] at hG
  have hw := hw q21 hq _ e21
  refine lv_dup hx hb kb_Re_init_24 rfl ?_
  refine zr_cv (va_runIN (b := q21) (As := []) (rest := [.ref q21, .ref a0]) ⟨hx, hb, hml, hown, hts⟩ (kc_Ru_init l D dA Z q21 σ21 _) ⟨va_cnB 0 hts (z_gw kw_96) rfl rfl rfl (hN _ kq_7) (hts _ (List.mem_cons_of_mem _ kw_6)) (by decide +kernel) ⟨Nat.le_of_ble_eq_true rfl, Nat.le_of_ble_eq_true rfl⟩, rfl, (hts _ (List.mem_cons_of_mem _ kw_95))⟩ (z_preS z_nwN (Nat.le_trans hZ hS.1) hG hK hN hw) rfl rfl hl.1 rfl (lv_room (Nat.le_of_ble_eq_true rfl)) kb_Re_init_25 ⟨Nat.le_of_ble_eq_true rfl, Nat.le_of_ble_eq_true rfl⟩) hS (fun σ25 H locs hw hG hS => ?_)
  obtain ⟨hy, hw⟩ := hw
  refine zr_putR (ci := 3) (f := 306) hx hb hts ki_Re ky_Re kyo_Re kn_Re hown hK hG hS hy rfl 6 (by decide) (hts _ (List.mem_cons_of_mem _ kw_249)) (fun _ h => h) rfl rfl rfl rfl rfl kb_Re_init_28 (fun H locs hG hS => ?_)
  obtain ⟨σ28, e28⟩ : ∃ z, z = z_sR σ25 306 a0 (some q21) := ⟨_, rfl⟩
  rw [← e28] at hG
  have hw := hw _ e28
  refine lv_aload_n hx hb kb_Re_init_31 rfl (lv_at hl 0 rfl) ?_
  refine lv_aload_n hx hb kb_Re_init_32 rfl (lv_at hl 1 rfl) ?_
  obtain ⟨hy, hw⟩ := hw
  refine zr_putRF (ci := 3) (f := 303) hx hb hts ki_Re ky_Re kyo_Re kn_Re hown hK hG hS hy rfl 3 (by decide) (hts _ (List.mem_cons_of_mem _ kw_246)) (fun _ h => h) rfl hin rfl rfl rfl rfl rfl kb_Re_init_33 (fun H locs hG hS => ?_)
  obtain ⟨σ33, e33⟩ : ∃ z, z = z_sR σ28 303 a0 (some b1) := ⟨_, rfl⟩
  rw [← e33] at hG
  have hw := hw _ e33
  refine lv_aload_n hx hb kb_Re_init_36 rfl (lv_at hl 0 rfl) ?_
  refine lv_iload_n hx hb kb_Re_init_37 rfl (lv_at hl 2 rfl) ?_
  refine lv_aload_n hx hb kb_Re_init_38 rfl (lv_at hl 1 rfl) ?_
  obtain ⟨n39, s39, hy, hw⟩ := hw
  refine zr_alen hx hb hK hG 1 hy rfl kb_Re_init_39 ?_
  refine va_mmin hx hb (by rw [hml, hl.1]) hown (hts _ (List.mem_cons_of_mem _ kw_237)) (hts _ (List.mem_cons_of_mem _ kw_238)) (hts _ (List.mem_cons_of_mem _ kw_4)) (hts _ (List.mem_cons_of_mem _ kw_239)) (Nat.le_of_ble_eq_true rfl) (Nat.le_of_ble_eq_true rfl) (Nat.le_of_ble_eq_true rfl) (Nat.le_of_ble_eq_true rfl) kb_Re_init_40 ?_
  obtain ⟨hy, hw⟩ := hw
  refine zr_putIF (ci := 3) (f := 304) hx hb hts ki_Re ky_Re kyo_Re kn_Re hown hK hG hS hy rfl 4 (by decide) (hts _ (List.mem_cons_of_mem _ kw_247)) (fun _ h => h) rfl hin rfl rfl rfl rfl rfl kb_Re_init_43 (fun H locs hG hS => ?_)
  obtain ⟨σ43, e43⟩ : ∃ z, z = z_sI σ33 304 a0 (if (nI n39) < x2 then (nI n39) else x2) := ⟨_, rfl⟩
  rw [← e43] at hG
  have hw := hw _ e43
  refine W.widen (k := 10) (n := 80) (Nat.le_of_ble_eq_true rfl) (Nat.le_of_ble_eq_true rfl) ?_
  exact zr_vret z_nwN hx hb hr hZ hK hN hG hS hw kb_Re_init_46 hlocks
def kp_Re_sign (a0 : Nat) (σ : z_S) (Post : Int32 → z_S → Prop) : Prop := ∀ (X0 : z_S → Prop) (X39 : z_S → Prop) (X52 : z_S → Prop),
    (∀ (σ : z_S), (z_ty σ a0 = some (.inl 3) ∧ (z_ty σ a0 = some (.inl 3) ∧ (((z_I σ 304 a0) ≤ (z_I σ 305 a0) → X52 σ) ∧ (¬ (z_I σ 304 a0) ≤ (z_I σ 305 a0) → z_ty σ a0 = some (.inl 3) ∧ ∃ r12, z_R σ 303 a0 = some r12 ∧ (z_ty σ a0 = some (.inl 3) ∧ (∃ n19 s19, z_ty σ r12 = some (.inr (1, n19, s19)) ∧ vp_in (z_I σ 305 a0) n19 ∧ (((z_A σ s19 r12 (z_I σ 305 a0).toNatClampNeg) = ((32 : Int32)) → X39 σ) ∧ (¬ (z_A σ s19 r12 (z_I σ 305 a0).toNatClampNeg) = ((32 : Int32)) → z_ty σ a0 = some (.inl 3) ∧ ∃ r26, z_R σ 303 a0 = some r26 ∧ (z_ty σ a0 = some (.inl 3) ∧ (∃ n33 s33, z_ty σ r26 = some (.inr (1, n33, s33)) ∧ vp_in (z_I σ 305 a0) n33 ∧ ((¬ (z_A σ s33 r26 (z_I σ 305 a0).toNatClampNeg) = ((10 : Int32)) → X52 σ) ∧ ((z_A σ s33 r26 (z_I σ 305 a0).toNatClampNeg) = ((10 : Int32)) → X39 σ)))))))))))) → X0 σ) →
    (∀ (σ : z_S), (z_ty σ a0 = some (.inl 3) ∧ (z_ty σ a0 = some (.inl 3) ∧ ∀ σ46, σ46 = z_sI σ 305 a0 ((z_I σ 305 a0) + ((1 : Int32))) → X0 σ46)) → X39 σ) →
    (∀ (σ : z_S), (z_ty σ a0 = some (.inl 3) ∧ (z_ty σ a0 = some (.inl 3) ∧ (((z_I σ 304 a0) ≤ (z_I σ 305 a0) → Post ((-1 : Int32)) σ) ∧ (¬ (z_I σ 304 a0) ≤ (z_I σ 305 a0) → z_ty σ a0 = some (.inl 3) ∧ ∃ r64, z_R σ 303 a0 = some r64 ∧ (z_ty σ a0 = some (.inl 3) ∧ (∃ n71 s71, z_ty σ r64 = some (.inr (1, n71, s71)) ∧ vp_in (z_I σ 305 a0) n71 ∧ (Post ((z_A σ s71 r64 (z_I σ 305 a0).toNatClampNeg) &&& ((255 : Int32))) σ))))))) → X52 σ) →
    (X0 σ)
set_option maxHeartbeats 4000000 in
set_option maxRecDepth 100000 in
theorem kc_Re_sign (l : Launch) (D : va_G) (dA : Nat → ClassId) (Z : Nat) (a0 : Nat) (σ : z_S) (Post : Int32 → z_S → Prop) : Met l km_Re_sign ks_Re_sign kr_Re_sign (va_Pc [.ref a0] (fun U => z_U D z_cl z_KT dA Z (z_tys dA) z_nw σ U ∧ kp_Re_sign  a0 σ Post)) (z_Qi D z_cl z_KT dA Z (z_tys dA) z_nw Post) 0 0 (fun q => Z ≤ q) := by
  refine Met.ofW (cc := prog_5_method_11_code) (maxL := 1) (ret := (some .int)) (by decide) rfl ?_
  intro p e s m args below meth c s₁ B hml hv
  obtain ⟨rfl, ⟨hZ, hG, hK, hN⟩, hw⟩ := hv
  have hx := B.exec
  have hb := B.bytes
  have hr := B.returns
  have hts := atoms_spec (ws := ks_Re_sign) B.pre
  have hown : s.vm.findClass kR_Re = some m.cls := findClass_of_methodNamed B.named
  have hlocks := B.notSynchronized
  have hS : va_S (fun q => Z ≤ q) s.heap s.heap [] := va_S.rf
  have hl := lv_entry ([.ref a0]) (n := 1) (Nat.le_of_ble_eq_true rfl)
  rw [lg_entry_eq]
  generalize (lg_sl ([.ref a0]) ++ List.replicate (1 - (lg_sl ([.ref a0])).length) Slot.unset).toArray = ls at hl ⊢
  have hl : lv_has ls 1 [(0, .ref a0)] := hl
  unfold kp_Re_sign at hw
  have hw := hw (fun (σ : z_S) => ∀ (H : Heap) (locs : List Loc) (ls : Array Slot), z_G D z_cl z_KT dA Z σ H → va_S (fun q => Z ≤ q) s.heap H locs → lv_has ls 1 [(0, .ref a0)] → W p l e (headSpec ks_Re_sign kr_Re_sign).room s m ([.ref a0] : List Value).toArray below meth c H locs 0 0 (MQ below (z_Qi D z_cl z_KT dA Z (z_tys dA) z_nw Post) ([.ref a0] : List Value).toArray s 0 0 (fun q => Z ≤ q)) (F0 m 0 ls []))
  have hw := hw (fun (σ : z_S) => ∀ (H : Heap) (locs : List Loc) (ls : Array Slot), z_G D z_cl z_KT dA Z σ H → va_S (fun q => Z ≤ q) s.heap H locs → lv_has ls 1 [(0, .ref a0)] → W p l e (headSpec ks_Re_sign kr_Re_sign).room s m ([.ref a0] : List Value).toArray below meth c H locs 0 0 (MQ below (z_Qi D z_cl z_KT dA Z (z_tys dA) z_nw Post) ([.ref a0] : List Value).toArray s 0 0 (fun q => Z ≤ q)) (F0 m 39 ls []))
  have hw := hw (fun (σ : z_S) => ∀ (H : Heap) (locs : List Loc) (ls : Array Slot), z_G D z_cl z_KT dA Z σ H → va_S (fun q => Z ≤ q) s.heap H locs → lv_has ls 1 [(0, .ref a0)] → W p l e (headSpec ks_Re_sign kr_Re_sign).room s m ([.ref a0] : List Value).toArray below meth c H locs 0 0 (MQ below (z_Qi D z_cl z_KT dA Z (z_tys dA) z_nw Post) ([.ref a0] : List Value).toArray s 0 0 (fun q => Z ≤ q)) (F0 m 52 ls []))
  have hw := hw (by
    intro σ hw H locs ls hG hS hl
    refine lv_aload_n hx hb kb_Re_sign_0 rfl (lv_at hl 0 rfl) ?_
    obtain ⟨hy, hw⟩ := hw
    refine zr_getI (ci := 3) (f := 305) hx hb hts ki_Re hown hK hG hy rfl 5 (by decide) (hts _ (List.mem_cons_of_mem _ kw_248)) (fun _ h => h) rfl rfl kb_Re_sign_1 ?_
    refine lv_aload_n hx hb kb_Re_sign_4 rfl (lv_at hl 0 rfl) ?_
    obtain ⟨hy, hw⟩ := hw
    refine zr_getI (ci := 3) (f := 304) hx hb hts ki_Re hown hK hG hy rfl 4 (by decide) (hts _ (List.mem_cons_of_mem _ kw_247)) (fun _ h => h) rfl rfl kb_Re_sign_5 ?_
    refine lv_icmp_ge (tgt := 52) hx hb kb_Re_sign_8 (by decide) (fun hc => ?_) (fun hc => ?_)
    · have hw := hw.1 hc
      exact hw _ _ _ hG hS (lv_sub hl [0] rfl)
    · have hw := hw.2 hc
      refine lv_aload_n hx hb kb_Re_sign_11 rfl (lv_at hl 0 rfl) ?_
      obtain ⟨hy, r12, hrf, hw⟩ := hw
      refine zr_getR (ci := 3) (f := 303) hx hb hts ki_Re hown hK hG hy rfl 3 (by decide) (hts _ (List.mem_cons_of_mem _ kw_246)) (fun _ h => h) rfl rfl hrf kb_Re_sign_12 ?_
      refine lv_aload_n hx hb kb_Re_sign_15 rfl (lv_at hl 0 rfl) ?_
      obtain ⟨hy, hw⟩ := hw
      refine zr_getI (ci := 3) (f := 305) hx hb hts ki_Re hown hK hG hy rfl 5 (by decide) (hts _ (List.mem_cons_of_mem _ kw_248)) (fun _ h => h) rfl rfl kb_Re_sign_16 ?_
      obtain ⟨n19, s19, hy, hi, hw⟩ := hw
      refine zr_bald hx hb hK hG 1 hy rfl hi kb_Re_sign_19 ?_
      refine lv_bipush (v := (32 : Int32)) hx hb kb_Re_sign_20 (by decide) ?_
      refine lv_icmp_eq (tgt := 39) hx hb kb_Re_sign_22 (by decide) (fun hc => ?_) (fun hc => ?_)
      · have hw := hw.1 hc
        exact hw _ _ _ hG hS (lv_sub hl [0] rfl)
      · have hw := hw.2 hc
        refine lv_aload_n hx hb kb_Re_sign_25 rfl (lv_at hl 0 rfl) ?_
        obtain ⟨hy, r26, hrf, hw⟩ := hw
        refine zr_getR (ci := 3) (f := 303) hx hb hts ki_Re hown hK hG hy rfl 3 (by decide) (hts _ (List.mem_cons_of_mem _ kw_246)) (fun _ h => h) rfl rfl hrf kb_Re_sign_26 ?_
        refine lv_aload_n hx hb kb_Re_sign_29 rfl (lv_at hl 0 rfl) ?_
        obtain ⟨hy, hw⟩ := hw
        refine zr_getI (ci := 3) (f := 305) hx hb hts ki_Re hown hK hG hy rfl 5 (by decide) (hts _ (List.mem_cons_of_mem _ kw_248)) (fun _ h => h) rfl rfl kb_Re_sign_30 ?_
        obtain ⟨n33, s33, hy, hi, hw⟩ := hw
        refine zr_bald hx hb hK hG 1 hy rfl hi kb_Re_sign_33 ?_
        refine lv_bipush (v := (10 : Int32)) hx hb kb_Re_sign_34 (by decide) ?_
        refine lv_icmp_ne (tgt := 52) hx hb kb_Re_sign_36 (by decide) (fun hc => ?_) (fun hc => ?_)
        · have hw := hw.1 hc
          exact hw _ _ _ hG hS (lv_sub hl [0] rfl)
        · have hw := hw.2 hc
          exact hw _ _ _ hG hS (lv_sub hl [0] rfl))
  have hw := hw (by
    intro σ hw H locs ls hG hS hl
    refine lv_aload_n hx hb kb_Re_sign_39 rfl (lv_at hl 0 rfl) ?_
    refine lv_dup hx hb kb_Re_sign_40 rfl ?_
    obtain ⟨hy, hw⟩ := hw
    refine zr_getI (ci := 3) (f := 305) hx hb hts ki_Re hown hK hG hy rfl 5 (by decide) (hts _ (List.mem_cons_of_mem _ kw_248)) (fun _ h => h) rfl rfl kb_Re_sign_41 ?_
    refine lv_iconst (v := (1 : Int32)) hx hb kb_Re_sign_44 (by decide) ?_
    refine lv_iadd hx hb kb_Re_sign_45 ?_
    obtain ⟨hy, hw⟩ := hw
    refine zr_putI (ci := 3) (f := 305) hx hb hts ki_Re ky_Re kyo_Re kn_Re hown hK hG hS hy rfl 5 (by decide) (hts _ (List.mem_cons_of_mem _ kw_248)) (fun _ h => h) rfl rfl rfl rfl rfl kb_Re_sign_46 (fun H locs hG hS => ?_)
    obtain ⟨σ46, e46⟩ : ∃ z, z = z_sI σ 305 a0 ((z_I σ 305 a0) + ((1 : Int32))) := ⟨_, rfl⟩
    rw [← e46] at hG
    have hw := hw _ e46
    refine lv_goto (tgt := 0) hx hb kb_Re_sign_49 (by decide) ?_
    exact hw _ _ _ hG hS (lv_sub hl [0] rfl))
  have hw := hw (by
    intro σ hw H locs ls hG hS hl
    refine lv_aload_n hx hb kb_Re_sign_52 rfl (lv_at hl 0 rfl) ?_
    obtain ⟨hy, hw⟩ := hw
    refine zr_getI (ci := 3) (f := 305) hx hb hts ki_Re hown hK hG hy rfl 5 (by decide) (hts _ (List.mem_cons_of_mem _ kw_248)) (fun _ h => h) rfl rfl kb_Re_sign_53 ?_
    refine lv_aload_n hx hb kb_Re_sign_56 rfl (lv_at hl 0 rfl) ?_
    obtain ⟨hy, hw⟩ := hw
    refine zr_getI (ci := 3) (f := 304) hx hb hts ki_Re hown hK hG hy rfl 4 (by decide) (hts _ (List.mem_cons_of_mem _ kw_247)) (fun _ h => h) rfl rfl kb_Re_sign_57 ?_
    refine lv_icmp_ge (tgt := 79) hx hb kb_Re_sign_60 (by decide) (fun hc => ?_) (fun hc => ?_)
    · have hw := hw.1 hc
      refine lv_iconst (v := (-1 : Int32)) hx hb kb_Re_sign_79 (by decide) ?_
      exact zr_iret (free := fun q => Z ≤ q) z_nwN hx hb hr rfl hZ hK hN hG hS hw kb_Re_sign_80 hlocks
    · have hw := hw.2 hc
      refine lv_aload_n hx hb kb_Re_sign_63 rfl (lv_at hl 0 rfl) ?_
      obtain ⟨hy, r64, hrf, hw⟩ := hw
      refine zr_getR (ci := 3) (f := 303) hx hb hts ki_Re hown hK hG hy rfl 3 (by decide) (hts _ (List.mem_cons_of_mem _ kw_246)) (fun _ h => h) rfl rfl hrf kb_Re_sign_64 ?_
      refine lv_aload_n hx hb kb_Re_sign_67 rfl (lv_at hl 0 rfl) ?_
      obtain ⟨hy, hw⟩ := hw
      refine zr_getI (ci := 3) (f := 305) hx hb hts ki_Re hown hK hG hy rfl 5 (by decide) (hts _ (List.mem_cons_of_mem _ kw_248)) (fun _ h => h) rfl rfl kb_Re_sign_68 ?_
      obtain ⟨n71, s71, hy, hi, hw⟩ := hw
      refine zr_bald hx hb hK hG 1 hy rfl hi kb_Re_sign_71 ?_
      refine lv_sipush (v := (255 : Int32)) hx hb kb_Re_sign_72 (by decide) ?_
      refine lv_iand hx hb kb_Re_sign_75 ?_
      refine lv_goto (tgt := 80) hx hb kb_Re_sign_76 (by decide) ?_
      exact zr_iret (free := fun q => Z ≤ q) z_nwN hx hb hr rfl hZ hK hN hG hS hw kb_Re_sign_80 hlocks)
  exact hw _ _ _ hG hS (lv_sub hl [0] rfl)
def kp_Re_isName (x1 : Int32) (σ : z_S) (Post : Int32 → z_S → Prop) : Prop :=     ((x1 < ((97 : Int32)) → Post ((0 : Int32)) σ) ∧ (¬ x1 < ((97 : Int32)) → (((122 : Int32)) < x1 → Post ((0 : Int32)) σ) ∧ (¬ ((122 : Int32)) < x1 → Post ((1 : Int32)) σ)))
set_option maxHeartbeats 4000000 in
set_option maxRecDepth 100000 in
theorem kc_Re_isName (l : Launch) (D : va_G) (dA : Nat → ClassId) (Z : Nat) (x1 : Int32) (σ : z_S) (Post : Int32 → z_S → Prop) : Met l km_Re_isName ks_Re_isName kr_Re_isName (va_Pc [.int x1] (fun U => z_U D z_cl z_KT dA Z (z_tys dA) z_nw σ U ∧ kp_Re_isName  x1 σ Post)) (z_Qi D z_cl z_KT dA Z (z_tys dA) z_nw Post) 0 0 (fun q => Z ≤ q) := by
  refine Met.ofW (cc := prog_5_method_13_code) (maxL := 1) (ret := (some .boolean)) (by decide) rfl ?_
  intro p e s m args below meth c s₁ B hml hv
  obtain ⟨rfl, ⟨hZ, hG, hK, hN⟩, hw⟩ := hv
  have hx := B.exec
  have hb := B.bytes
  have hr := B.returns
  have hts := atoms_spec (ws := ks_Re_isName) B.pre
  have hown : s.vm.findClass kR_Re = some m.cls := findClass_of_methodNamed B.named
  have hlocks := B.notSynchronized
  have hS : va_S (fun q => Z ≤ q) s.heap s.heap [] := va_S.rf
  have hl := lv_entry ([.int x1]) (n := 1) (Nat.le_of_ble_eq_true rfl)
  rw [lg_entry_eq]
  generalize (lg_sl ([.int x1]) ++ List.replicate (1 - (lg_sl ([.int x1])).length) Slot.unset).toArray = ls at hl ⊢
  have hl : lv_has ls 1 [(0, .int x1)] := hl
  unfold kp_Re_isName at hw
  refine lv_iload_n hx hb kb_Re_isName_0 rfl (lv_at hl 0 rfl) ?_
  refine lv_bipush (v := (97 : Int32)) hx hb kb_Re_isName_1 (by decide) ?_
  refine lv_icmp_lt (tgt := 16) hx hb kb_Re_isName_3 (by decide) (fun hc => ?_) (fun hc => ?_)
  · have hw := hw.1 hc
    refine lv_iconst (v := (0 : Int32)) hx hb kb_Re_isName_16 (by decide) ?_
    exact zr_iret (free := fun q => Z ≤ q) z_nwN hx hb hr rfl hZ hK hN hG hS hw kb_Re_isName_17 hlocks
  · have hw := hw.2 hc
    refine lv_iload_n hx hb kb_Re_isName_6 rfl (lv_at hl 0 rfl) ?_
    refine lv_bipush (v := (122 : Int32)) hx hb kb_Re_isName_7 (by decide) ?_
    refine lv_icmp_gt (tgt := 16) hx hb kb_Re_isName_9 (by decide) (fun hc => ?_) (fun hc => ?_)
    · have hw := hw.1 hc
      refine lv_iconst (v := (0 : Int32)) hx hb kb_Re_isName_16 (by decide) ?_
      exact zr_iret (free := fun q => Z ≤ q) z_nwN hx hb hr rfl hZ hK hN hG hS hw kb_Re_isName_17 hlocks
    · have hw := hw.2 hc
      refine lv_iconst (v := (1 : Int32)) hx hb kb_Re_isName_12 (by decide) ?_
      refine lv_goto (tgt := 17) hx hb kb_Re_isName_13 (by decide) ?_
      exact zr_iret (free := fun q => Z ≤ q) z_nwN hx hb hr rfl hZ hK hN hG hS hw kb_Re_isName_17 hlocks
def kp_Re_fail (a0 : Nat) (x1 : Int32) (σ : z_S) (Post : Int32 → z_S → Prop) : Prop :=     (z_ty σ a0 = some (.inl 3) ∧ ∀ σ2, σ2 = z_sI σ 301 a0 x1 → z_ty σ2 a0 = some (.inl 3) ∧ (z_ty σ2 a0 = some (.inl 3) ∧ ∀ σ10, σ10 = z_sI σ2 302 a0 (z_I σ2 305 a0) → Post ((0 : Int32)) σ10))
set_option maxHeartbeats 4000000 in
set_option maxRecDepth 100000 in
theorem kc_Re_fail (l : Launch) (D : va_G) (dA : Nat → ClassId) (Z : Nat) (a0 : Nat) (x1 : Int32) (σ : z_S) (Post : Int32 → z_S → Prop) : Met l km_Re_fail ks_Re_fail kr_Re_fail (va_Pc [.ref a0, .int x1] (fun U => z_U D z_cl z_KT dA Z (z_tys dA) z_nw σ U ∧ kp_Re_fail  a0 x1 σ Post)) (z_Qi D z_cl z_KT dA Z (z_tys dA) z_nw Post) 0 0 (fun q => Z ≤ q) := by
  refine Met.ofW (cc := prog_5_method_12_code) (maxL := 2) (ret := (some .boolean)) (by decide) rfl ?_
  intro p e s m args below meth c s₁ B hml hv
  obtain ⟨rfl, ⟨hZ, hG, hK, hN⟩, hw⟩ := hv
  have hx := B.exec
  have hb := B.bytes
  have hr := B.returns
  have hts := atoms_spec (ws := ks_Re_fail) B.pre
  have hown : s.vm.findClass kR_Re = some m.cls := findClass_of_methodNamed B.named
  have hlocks := B.notSynchronized
  have hS : va_S (fun q => Z ≤ q) s.heap s.heap [] := va_S.rf
  have hl := lv_entry ([.ref a0, .int x1]) (n := 2) (Nat.le_of_ble_eq_true rfl)
  rw [lg_entry_eq]
  generalize (lg_sl ([.ref a0, .int x1]) ++ List.replicate (2 - (lg_sl ([.ref a0, .int x1])).length) Slot.unset).toArray = ls at hl ⊢
  have hl : lv_has ls 2 [(0, .ref a0), (1, .int x1)] := hl
  unfold kp_Re_fail at hw
  refine lv_aload_n hx hb kb_Re_fail_0 rfl (lv_at hl 0 rfl) ?_
  refine lv_iload_n hx hb kb_Re_fail_1 rfl (lv_at hl 1 rfl) ?_
  obtain ⟨hy, hw⟩ := hw
  refine zr_putI (ci := 3) (f := 301) hx hb hts ki_Re ky_Re kyo_Re kn_Re hown hK hG hS hy rfl 1 (by decide) (hts _ (List.mem_cons_of_mem _ kw_243)) (fun _ h => h) rfl rfl rfl rfl rfl kb_Re_fail_2 (fun H locs hG hS => ?_)
  obtain ⟨σ2, e2⟩ : ∃ z, z = z_sI σ 301 a0 x1 := ⟨_, rfl⟩
  rw [← e2] at hG
  have hw := hw _ e2
  refine lv_aload_n hx hb kb_Re_fail_5 rfl (lv_at hl 0 rfl) ?_
  refine lv_aload_n hx hb kb_Re_fail_6 rfl (lv_at hl 0 rfl) ?_
  obtain ⟨hy, hw⟩ := hw
  refine zr_getI (ci := 3) (f := 305) hx hb hts ki_Re hown hK hG hy rfl 5 (by decide) (hts _ (List.mem_cons_of_mem _ kw_248)) (fun _ h => h) rfl rfl kb_Re_fail_7 ?_
  obtain ⟨hy, hw⟩ := hw
  refine zr_putI (ci := 3) (f := 302) hx hb hts ki_Re ky_Re kyo_Re kn_Re hown hK hG hS hy rfl 2 (by decide) (hts _ (List.mem_cons_of_mem _ kw_244)) (fun _ h => h) rfl rfl rfl rfl rfl kb_Re_fail_10 (fun H locs hG hS => ?_)
  obtain ⟨σ10, e10⟩ : ∃ z, z = z_sI σ2 302 a0 (z_I σ2 305 a0) := ⟨_, rfl⟩
  rw [← e10] at hG
  have hw := hw _ e10
  refine lv_iconst (v := (0 : Int32)) hx hb kb_Re_fail_13 (by decide) ?_
  exact zr_iret (free := fun q => Z ≤ q) z_nwN hx hb hr rfl hZ hK hN hG hS hw kb_Re_fail_14 hlocks
def kp_Re_takes (a0 : Nat) (x1 : Int32) (σ : z_S) (Post : Int32 → z_S → Prop) : Prop :=     (z_ty σ a0 = some (.inl 3) ∧ kp_Re_sign a0 σ (fun (r1 : Int32) (σ1 : z_S) => (r1 = x1 → z_ty σ1 a0 = some (.inl 3) ∧ (z_ty σ1 a0 = some (.inl 3) ∧ ∀ σ21, σ21 = z_sI σ1 305 a0 ((z_I σ1 305 a0) + ((1 : Int32))) → Post ((1 : Int32)) σ21)) ∧ (¬ r1 = x1 → z_ty σ1 a0 = some (.inl 3) ∧ kp_Re_fail a0 ((1 : Int32)) σ1 (fun (r10 : Int32) (σ10 : z_S) => (r10 = 0 ∨ r10 = 1) ∧ Post r10 σ10))))
set_option maxHeartbeats 4000000 in
set_option maxRecDepth 100000 in
theorem kc_Re_takes (l : Launch) (D : va_G) (dA : Nat → ClassId) (Z : Nat) (a0 : Nat) (x1 : Int32) (σ : z_S) (Post : Int32 → z_S → Prop) : Met l km_Re_takes ks_Re_takes kr_Re_takes (va_Pc [.ref a0, .int x1] (fun U => z_U D z_cl z_KT dA Z (z_tys dA) z_nw σ U ∧ kp_Re_takes  a0 x1 σ Post)) (z_Qi D z_cl z_KT dA Z (z_tys dA) z_nw Post) 0 0 (fun q => Z ≤ q) := by
  refine Met.ofW (cc := prog_5_method_10_code) (maxL := 2) (ret := (some .boolean)) (by decide) rfl ?_
  intro p e s m args below meth c s₁ B hml hv
  obtain ⟨rfl, ⟨hZ, hG, hK, hN⟩, hw⟩ := hv
  have hx := B.exec
  have hb := B.bytes
  have hr := B.returns
  have hts := atoms_spec (ws := ks_Re_takes) B.pre
  have hown : s.vm.findClass kR_Re = some m.cls := findClass_of_methodNamed B.named
  have hlocks := B.notSynchronized
  have hS : va_S (fun q => Z ≤ q) s.heap s.heap [] := va_S.rf
  have hl := lv_entry ([.ref a0, .int x1]) (n := 2) (Nat.le_of_ble_eq_true rfl)
  rw [lg_entry_eq]
  generalize (lg_sl ([.ref a0, .int x1]) ++ List.replicate (2 - (lg_sl ([.ref a0, .int x1])).length) Slot.unset).toArray = ls at hl ⊢
  have hl : lv_has ls 2 [(0, .ref a0), (1, .int x1)] := hl
  unfold kp_Re_takes at hw
  refine lv_aload_n hx hb kb_Re_takes_0 rfl (lv_at hl 0 rfl) ?_
  obtain ⟨hy, hw⟩ := hw
  refine zr_ci (va_runV (C := kR_Re) (As := []) (rest := []) ⟨hx, hb, hml, hown, hts⟩ (kc_Re_sign l D dA Z a0 σ _) ⟨callB_of 0 hts (z_gw kw_263) rfl rfl rfl (hts _ (List.mem_cons_of_mem _ kw_10)) (hts _ (List.mem_cons_of_mem _ kw_261)) (by decide +kernel) ⟨Nat.le_of_ble_eq_true rfl, Nat.le_of_ble_eq_true rfl⟩, (hts _ (List.mem_cons_of_mem _ kw_262)), (hts _ (List.mem_cons_of_mem _ kw_909))⟩ (z_preV z_nwN (Nat.le_trans hZ hS.1) hG hK hN hy (ci := 3) (r := (kR_Re, kT_Re, 7)) rfl hw) rfl rfl hl.1 rfl (lv_room (Nat.le_of_ble_eq_true rfl)) kb_Re_takes_1 ⟨Nat.le_of_ble_eq_true rfl, Nat.le_of_ble_eq_true rfl⟩) hS (fun r1 σ1 H locs hw hG hS => ?_)
  refine lv_iload_n hx hb kb_Re_takes_4 rfl (lv_at hl 1 rfl) ?_
  refine lv_icmp_eq (tgt := 14) hx hb kb_Re_takes_5 (by decide) (fun hc => ?_) (fun hc => ?_)
  · have hw := hw.1 hc
    refine lv_aload_n hx hb kb_Re_takes_14 rfl (lv_at hl 0 rfl) ?_
    refine lv_dup hx hb kb_Re_takes_15 rfl ?_
    obtain ⟨hy, hw⟩ := hw
    refine zr_getI (ci := 3) (f := 305) hx hb hts ki_Re hown hK hG hy rfl 5 (by decide) (hts _ (List.mem_cons_of_mem _ kw_248)) (fun _ h => h) rfl rfl kb_Re_takes_16 ?_
    refine lv_iconst (v := (1 : Int32)) hx hb kb_Re_takes_19 (by decide) ?_
    refine lv_iadd hx hb kb_Re_takes_20 ?_
    obtain ⟨hy, hw⟩ := hw
    refine zr_putI (ci := 3) (f := 305) hx hb hts ki_Re ky_Re kyo_Re kn_Re hown hK hG hS hy rfl 5 (by decide) (hts _ (List.mem_cons_of_mem _ kw_248)) (fun _ h => h) rfl rfl rfl rfl rfl kb_Re_takes_21 (fun H locs hG hS => ?_)
    obtain ⟨σ21, e21⟩ : ∃ z, z = z_sI σ1 305 a0 ((z_I σ1 305 a0) + ((1 : Int32))) := ⟨_, rfl⟩
    rw [← e21] at hG
    have hw := hw _ e21
    refine lv_iconst (v := (1 : Int32)) hx hb kb_Re_takes_24 (by decide) ?_
    exact zr_iret (free := fun q => Z ≤ q) z_nwN hx hb hr rfl hZ hK hN hG hS hw kb_Re_takes_25 hlocks
  · have hw := hw.2 hc
    refine lv_aload_n hx hb kb_Re_takes_8 rfl (lv_at hl 0 rfl) ?_
    refine lv_iconst (v := (1 : Int32)) hx hb kb_Re_takes_9 (by decide) ?_
    obtain ⟨hy, hw⟩ := hw
    refine zr_ci (va_runV (C := kR_Re) (As := [.int ((1 : Int32))]) (rest := []) ⟨hx, hb, hml, hown, hts⟩ (kc_Re_fail l D dA Z a0 ((1 : Int32)) σ1 _) ⟨callB_of 1 hts (z_gw kw_272) rfl rfl rfl (hts _ (List.mem_cons_of_mem _ kw_10)) (hts _ (List.mem_cons_of_mem _ kw_270)) (by decide +kernel) ⟨Nat.le_of_ble_eq_true rfl, Nat.le_of_ble_eq_true rfl⟩, (hts _ (List.mem_cons_of_mem _ kw_271)), (hts _ (List.mem_cons_of_mem _ kw_911))⟩ (z_preV z_nwN (Nat.le_trans hZ hS.1) hG hK hN hy (ci := 3) (r := (kR_Re, kT_Re, 7)) rfl hw) rfl rfl hl.1 rfl (lv_room (Nat.le_of_ble_eq_true rfl)) kb_Re_takes_10 ⟨Nat.le_of_ble_eq_true rfl, Nat.le_of_ble_eq_true rfl⟩) hS (fun r10 σ10 H locs hw hG hS => ?_)
    exact zr_iret (free := fun q => Z ≤ q) z_nwN hx hb hr (z_bool hw.1) hZ hK hN hG hS hw.2 kb_Re_takes_13 hlocks
def kp_Re_isDigit (x1 : Int32) (σ : z_S) (Post : Int32 → z_S → Prop) : Prop :=     ((x1 < ((48 : Int32)) → Post ((0 : Int32)) σ) ∧ (¬ x1 < ((48 : Int32)) → (((57 : Int32)) < x1 → Post ((0 : Int32)) σ) ∧ (¬ ((57 : Int32)) < x1 → Post ((1 : Int32)) σ)))
set_option maxHeartbeats 4000000 in
set_option maxRecDepth 100000 in
theorem kc_Re_isDigit (l : Launch) (D : va_G) (dA : Nat → ClassId) (Z : Nat) (x1 : Int32) (σ : z_S) (Post : Int32 → z_S → Prop) : Met l km_Re_isDigit ks_Re_isDigit kr_Re_isDigit (va_Pc [.int x1] (fun U => z_U D z_cl z_KT dA Z (z_tys dA) z_nw σ U ∧ kp_Re_isDigit  x1 σ Post)) (z_Qi D z_cl z_KT dA Z (z_tys dA) z_nw Post) 0 0 (fun q => Z ≤ q) := by
  refine Met.ofW (cc := prog_5_method_15_code) (maxL := 1) (ret := (some .boolean)) (by decide) rfl ?_
  intro p e s m args below meth c s₁ B hml hv
  obtain ⟨rfl, ⟨hZ, hG, hK, hN⟩, hw⟩ := hv
  have hx := B.exec
  have hb := B.bytes
  have hr := B.returns
  have hts := atoms_spec (ws := ks_Re_isDigit) B.pre
  have hown : s.vm.findClass kR_Re = some m.cls := findClass_of_methodNamed B.named
  have hlocks := B.notSynchronized
  have hS : va_S (fun q => Z ≤ q) s.heap s.heap [] := va_S.rf
  have hl := lv_entry ([.int x1]) (n := 1) (Nat.le_of_ble_eq_true rfl)
  rw [lg_entry_eq]
  generalize (lg_sl ([.int x1]) ++ List.replicate (1 - (lg_sl ([.int x1])).length) Slot.unset).toArray = ls at hl ⊢
  have hl : lv_has ls 1 [(0, .int x1)] := hl
  unfold kp_Re_isDigit at hw
  refine lv_iload_n hx hb kb_Re_isDigit_0 rfl (lv_at hl 0 rfl) ?_
  refine lv_bipush (v := (48 : Int32)) hx hb kb_Re_isDigit_1 (by decide) ?_
  refine lv_icmp_lt (tgt := 16) hx hb kb_Re_isDigit_3 (by decide) (fun hc => ?_) (fun hc => ?_)
  · have hw := hw.1 hc
    refine lv_iconst (v := (0 : Int32)) hx hb kb_Re_isDigit_16 (by decide) ?_
    exact zr_iret (free := fun q => Z ≤ q) z_nwN hx hb hr rfl hZ hK hN hG hS hw kb_Re_isDigit_17 hlocks
  · have hw := hw.2 hc
    refine lv_iload_n hx hb kb_Re_isDigit_6 rfl (lv_at hl 0 rfl) ?_
    refine lv_bipush (v := (57 : Int32)) hx hb kb_Re_isDigit_7 (by decide) ?_
    refine lv_icmp_gt (tgt := 16) hx hb kb_Re_isDigit_9 (by decide) (fun hc => ?_) (fun hc => ?_)
    · have hw := hw.1 hc
      refine lv_iconst (v := (0 : Int32)) hx hb kb_Re_isDigit_16 (by decide) ?_
      exact zr_iret (free := fun q => Z ≤ q) z_nwN hx hb hr rfl hZ hK hN hG hS hw kb_Re_isDigit_17 hlocks
    · have hw := hw.2 hc
      refine lv_iconst (v := (1 : Int32)) hx hb kb_Re_isDigit_12 (by decide) ?_
      refine lv_goto (tgt := 17) hx hb kb_Re_isDigit_13 (by decide) ?_
      exact zr_iret (free := fun q => Z ≤ q) z_nwN hx hb hr rfl hZ hK hN hG hS hw kb_Re_isDigit_17 hlocks
def kp_Re_readNumber (a0 : Nat) (σ : z_S) (Post : Int32 → z_S → Prop) : Prop := ∀ (X4 : Int32 → Int32 → z_S → Prop),
    (∀ (v1 : Int32) (v2 : Int32) (σ : z_S), ((((3 : Int32)) ≤ v2 → Post v1 σ) ∧ (¬ ((3 : Int32)) ≤ v2 → z_ty σ a0 = some (.inl 3) ∧ (z_ty σ a0 = some (.inl 3) ∧ (((z_I σ 304 a0) ≤ (z_I σ 305 a0) → Post v1 σ) ∧ (¬ (z_I σ 304 a0) ≤ (z_I σ 305 a0) → z_ty σ a0 = some (.inl 3) ∧ ∃ r21, z_R σ 303 a0 = some r21 ∧ (z_ty σ a0 = some (.inl 3) ∧ (∃ n28 s28, z_ty σ r21 = some (.inr (1, n28, s28)) ∧ vp_in (z_I σ 305 a0) n28 ∧ (kp_Re_isDigit (z_A σ s28 r21 (z_I σ 305 a0).toNatClampNeg) σ (fun (r29 : Int32) (σ29 : z_S) => (r29 = 0 → Post v1 σ29) ∧ (¬ r29 = 0 → z_ty σ29 a0 = some (.inl 3) ∧ ∃ r40, z_R σ29 303 a0 = some r40 ∧ (z_ty σ29 a0 = some (.inl 3) ∧ (∃ n47 s47, z_ty σ29 r40 = some (.inr (1, n47, s47)) ∧ vp_in (z_I σ29 305 a0) n47 ∧ (z_ty σ29 a0 = some (.inl 3) ∧ (z_ty σ29 a0 = some (.inl 3) ∧ ∀ σ60, σ60 = z_sI σ29 305 a0 ((z_I σ29 305 a0) + ((1 : Int32))) → X4 (((v1 * ((10 : Int32))) + (z_A σ29 s47 r40 (z_I σ29 305 a0).toNatClampNeg)) - ((48 : Int32))) (v2 + (1 : Int32)) σ60)))))))))))))) → X4 v1 v2 σ) →
    (X4 ((0 : Int32)) ((0 : Int32)) σ)
set_option maxHeartbeats 4000000 in
set_option maxRecDepth 100000 in
theorem kc_Re_readNumber (l : Launch) (D : va_G) (dA : Nat → ClassId) (Z : Nat) (a0 : Nat) (σ : z_S) (Post : Int32 → z_S → Prop) : Met l km_Re_readNumber ks_Re_readNumber kr_Re_readNumber (va_Pc [.ref a0] (fun U => z_U D z_cl z_KT dA Z (z_tys dA) z_nw σ U ∧ kp_Re_readNumber  a0 σ Post)) (z_Qi D z_cl z_KT dA Z (z_tys dA) z_nw Post) 0 0 (fun q => Z ≤ q) := by
  refine Met.ofW (cc := prog_5_method_9_code) (maxL := 3) (ret := (some .int)) (by decide) rfl ?_
  intro p e s m args below meth c s₁ B hml hv
  obtain ⟨rfl, ⟨hZ, hG, hK, hN⟩, hw⟩ := hv
  have hx := B.exec
  have hb := B.bytes
  have hr := B.returns
  have hts := atoms_spec (ws := ks_Re_readNumber) B.pre
  have hown : s.vm.findClass kR_Re = some m.cls := findClass_of_methodNamed B.named
  have hlocks := B.notSynchronized
  have hS : va_S (fun q => Z ≤ q) s.heap s.heap [] := va_S.rf
  have hl := lv_entry ([.ref a0]) (n := 3) (Nat.le_of_ble_eq_true rfl)
  rw [lg_entry_eq]
  generalize (lg_sl ([.ref a0]) ++ List.replicate (3 - (lg_sl ([.ref a0])).length) Slot.unset).toArray = ls at hl ⊢
  have hl : lv_has ls 3 [(0, .ref a0)] := hl
  unfold kp_Re_readNumber at hw
  have hw := hw (fun (v1 : Int32) (v2 : Int32) (σ : z_S) => ∀ (H : Heap) (locs : List Loc) (ls : Array Slot), z_G D z_cl z_KT dA Z σ H → va_S (fun q => Z ≤ q) s.heap H locs → lv_has ls 3 [(0, .ref a0), (1, .int v1), (2, .int v2)] → W p l e (headSpec ks_Re_readNumber kr_Re_readNumber).room s m ([.ref a0] : List Value).toArray below meth c H locs 0 0 (MQ below (z_Qi D z_cl z_KT dA Z (z_tys dA) z_nw Post) ([.ref a0] : List Value).toArray s 0 0 (fun q => Z ≤ q)) (F0 m 4 ls []))
  have hw := hw (by
    intro v1 v2 σ hw H locs ls hG hS hl
    refine lv_iload_n hx hb kb_Re_readNumber_4 rfl (lv_at hl 2 rfl) ?_
    refine lv_iconst (v := (3 : Int32)) hx hb kb_Re_readNumber_5 (by decide) ?_
    refine lv_icmp_ge (tgt := 69) hx hb kb_Re_readNumber_6 (by decide) (fun hc => ?_) (fun hc => ?_)
    · have hw := hw.1 hc
      refine lv_iload_n hx hb kb_Re_readNumber_69 rfl (lv_at hl 1 rfl) ?_
      exact zr_iret (free := fun q => Z ≤ q) z_nwN hx hb hr rfl hZ hK hN hG hS hw kb_Re_readNumber_70 hlocks
    · have hw := hw.2 hc
      refine lv_aload_n hx hb kb_Re_readNumber_9 rfl (lv_at hl 0 rfl) ?_
      obtain ⟨hy, hw⟩ := hw
      refine zr_getI (ci := 3) (f := 305) hx hb hts ki_Re hown hK hG hy rfl 5 (by decide) (hts _ (List.mem_cons_of_mem _ kw_248)) (fun _ h => h) rfl rfl kb_Re_readNumber_10 ?_
      refine lv_aload_n hx hb kb_Re_readNumber_13 rfl (lv_at hl 0 rfl) ?_
      obtain ⟨hy, hw⟩ := hw
      refine zr_getI (ci := 3) (f := 304) hx hb hts ki_Re hown hK hG hy rfl 4 (by decide) (hts _ (List.mem_cons_of_mem _ kw_247)) (fun _ h => h) rfl rfl kb_Re_readNumber_14 ?_
      refine lv_icmp_ge (tgt := 69) hx hb kb_Re_readNumber_17 (by decide) (fun hc => ?_) (fun hc => ?_)
      · have hw := hw.1 hc
        refine lv_iload_n hx hb kb_Re_readNumber_69 rfl (lv_at hl 1 rfl) ?_
        exact zr_iret (free := fun q => Z ≤ q) z_nwN hx hb hr rfl hZ hK hN hG hS hw kb_Re_readNumber_70 hlocks
      · have hw := hw.2 hc
        refine lv_aload_n hx hb kb_Re_readNumber_20 rfl (lv_at hl 0 rfl) ?_
        obtain ⟨hy, r21, hrf, hw⟩ := hw
        refine zr_getR (ci := 3) (f := 303) hx hb hts ki_Re hown hK hG hy rfl 3 (by decide) (hts _ (List.mem_cons_of_mem _ kw_246)) (fun _ h => h) rfl rfl hrf kb_Re_readNumber_21 ?_
        refine lv_aload_n hx hb kb_Re_readNumber_24 rfl (lv_at hl 0 rfl) ?_
        obtain ⟨hy, hw⟩ := hw
        refine zr_getI (ci := 3) (f := 305) hx hb hts ki_Re hown hK hG hy rfl 5 (by decide) (hts _ (List.mem_cons_of_mem _ kw_248)) (fun _ h => h) rfl rfl kb_Re_readNumber_25 ?_
        obtain ⟨n28, s28, hy, hi, hw⟩ := hw
        refine zr_bald hx hb hK hG 1 hy rfl hi kb_Re_readNumber_28 ?_
        refine zr_ci (va_runS (As := [.int (z_A σ s28 r21 (z_I σ 305 a0).toNatClampNeg)]) (rest := []) ⟨hx, hb, hml, hown, hts⟩ (kc_Re_isDigit l D dA Z (z_A σ s28 r21 (z_I σ 305 a0).toNatClampNeg) σ _) ⟨callB_of 1 hts (z_gw kw_293) rfl rfl rfl (hts _ (List.mem_cons_of_mem _ kw_10)) (hts _ (List.mem_cons_of_mem _ kw_291)) (by decide +kernel) ⟨Nat.le_of_ble_eq_true rfl, Nat.le_of_ble_eq_true rfl⟩, (hts _ (List.mem_cons_of_mem _ kw_292))⟩ (z_preS z_nwN (Nat.le_trans hZ hS.1) hG hK hN hw) rfl rfl hl.1 rfl (lv_room (Nat.le_of_ble_eq_true rfl)) kb_Re_readNumber_29 ⟨Nat.le_of_ble_eq_true rfl, Nat.le_of_ble_eq_true rfl⟩) hS (fun r29 σ29 H locs hw hG hS => ?_)
        refine lv_if_eq (tgt := 69) hx hb kb_Re_readNumber_32 (by decide) (fun hc => ?_) (fun hc => ?_)
        · have hw := hw.1 hc
          refine lv_iload_n hx hb kb_Re_readNumber_69 rfl (lv_at hl 1 rfl) ?_
          exact zr_iret (free := fun q => Z ≤ q) z_nwN hx hb hr rfl hZ hK hN hG hS hw kb_Re_readNumber_70 hlocks
        · have hw := hw.2 hc
          refine lv_iload_n hx hb kb_Re_readNumber_35 rfl (lv_at hl 1 rfl) ?_
          refine lv_bipush (v := (10 : Int32)) hx hb kb_Re_readNumber_36 (by decide) ?_
          refine lv_imul hx hb kb_Re_readNumber_38 ?_
          refine lv_aload_n hx hb kb_Re_readNumber_39 rfl (lv_at hl 0 rfl) ?_
          obtain ⟨hy, r40, hrf, hw⟩ := hw
          refine zr_getR (ci := 3) (f := 303) hx hb hts ki_Re hown hK hG hy rfl 3 (by decide) (hts _ (List.mem_cons_of_mem _ kw_246)) (fun _ h => h) rfl rfl hrf kb_Re_readNumber_40 ?_
          refine lv_aload_n hx hb kb_Re_readNumber_43 rfl (lv_at hl 0 rfl) ?_
          obtain ⟨hy, hw⟩ := hw
          refine zr_getI (ci := 3) (f := 305) hx hb hts ki_Re hown hK hG hy rfl 5 (by decide) (hts _ (List.mem_cons_of_mem _ kw_248)) (fun _ h => h) rfl rfl kb_Re_readNumber_44 ?_
          obtain ⟨n47, s47, hy, hi, hw⟩ := hw
          refine zr_bald hx hb hK hG 1 hy rfl hi kb_Re_readNumber_47 ?_
          refine lv_iadd hx hb kb_Re_readNumber_48 ?_
          refine lv_bipush (v := (48 : Int32)) hx hb kb_Re_readNumber_49 (by decide) ?_
          refine lv_isub hx hb kb_Re_readNumber_51 ?_
          refine lv_istore_n (lv' := [(1, .int (((v1 * ((10 : Int32))) + (z_A σ29 s47 r40 (z_I σ29 305 a0).toNatClampNeg)) - ((48 : Int32)))), (0, .ref a0), (2, .int v2)]) hx hb kb_Re_readNumber_52 rfl hl (by decide) rfl (fun ls hl => ?_)
          refine lv_aload_n hx hb kb_Re_readNumber_53 rfl (lv_at hl 1 rfl) ?_
          refine lv_dup hx hb kb_Re_readNumber_54 rfl ?_
          obtain ⟨hy, hw⟩ := hw
          refine zr_getI (ci := 3) (f := 305) hx hb hts ki_Re hown hK hG hy rfl 5 (by decide) (hts _ (List.mem_cons_of_mem _ kw_248)) (fun _ h => h) rfl rfl kb_Re_readNumber_55 ?_
          refine lv_iconst (v := (1 : Int32)) hx hb kb_Re_readNumber_58 (by decide) ?_
          refine lv_iadd hx hb kb_Re_readNumber_59 ?_
          obtain ⟨hy, hw⟩ := hw
          refine zr_putI (ci := 3) (f := 305) hx hb hts ki_Re ky_Re kyo_Re kn_Re hown hK hG hS hy rfl 5 (by decide) (hts _ (List.mem_cons_of_mem _ kw_248)) (fun _ h => h) rfl rfl rfl rfl rfl kb_Re_readNumber_60 (fun H locs hG hS => ?_)
          obtain ⟨σ60, e60⟩ : ∃ z, z = z_sI σ29 305 a0 ((z_I σ29 305 a0) + ((1 : Int32))) := ⟨_, rfl⟩
          rw [← e60] at hG
          have hw := hw _ e60
          refine lv_iinc (v := v2 + (1 : Int32)) (lv' := [(2, .int (v2 + (1 : Int32))), (1, .int (((v1 * ((10 : Int32))) + (z_A σ29 s47 r40 (z_I σ29 305 a0).toNatClampNeg)) - ((48 : Int32)))), (0, .ref a0)]) hx hb kb_Re_readNumber_63 hl (k := 2) rfl rfl (by decide) rfl (fun ls hl => ?_)
          refine lv_goto (tgt := 4) hx hb kb_Re_readNumber_66 (by decide) ?_
          exact hw _ _ _ hG hS (lv_sub hl [2, 1, 0] rfl))
  refine lv_iconst (v := (0 : Int32)) hx hb kb_Re_readNumber_0 (by decide) ?_
  refine lv_istore_n (lv' := [(1, .int ((0 : Int32))), (0, .ref a0)]) hx hb kb_Re_readNumber_1 rfl hl (by decide) rfl (fun ls hl => ?_)
  refine lv_iconst (v := (0 : Int32)) hx hb kb_Re_readNumber_2 (by decide) ?_
  refine lv_istore_n (lv' := [(2, .int ((0 : Int32))), (1, .int ((0 : Int32))), (0, .ref a0)]) hx hb kb_Re_readNumber_3 rfl hl (by decide) rfl (fun ls hl => ?_)
  exact hw _ _ _ hG hS (lv_sub hl [2, 1, 0] rfl)
def kp_Re_isVariable (x1 : Int32) (σ : z_S) (Post : Int32 → z_S → Prop) : Prop :=     ((x1 < ((65 : Int32)) → Post ((0 : Int32)) σ) ∧ (¬ x1 < ((65 : Int32)) → (((90 : Int32)) < x1 → Post ((0 : Int32)) σ) ∧ (¬ ((90 : Int32)) < x1 → Post ((1 : Int32)) σ)))
set_option maxHeartbeats 4000000 in
set_option maxRecDepth 100000 in
theorem kc_Re_isVariable (l : Launch) (D : va_G) (dA : Nat → ClassId) (Z : Nat) (x1 : Int32) (σ : z_S) (Post : Int32 → z_S → Prop) : Met l km_Re_isVariable ks_Re_isVariable kr_Re_isVariable (va_Pc [.int x1] (fun U => z_U D z_cl z_KT dA Z (z_tys dA) z_nw σ U ∧ kp_Re_isVariable  x1 σ Post)) (z_Qi D z_cl z_KT dA Z (z_tys dA) z_nw Post) 0 0 (fun q => Z ≤ q) := by
  refine Met.ofW (cc := prog_5_method_14_code) (maxL := 1) (ret := (some .boolean)) (by decide) rfl ?_
  intro p e s m args below meth c s₁ B hml hv
  obtain ⟨rfl, ⟨hZ, hG, hK, hN⟩, hw⟩ := hv
  have hx := B.exec
  have hb := B.bytes
  have hr := B.returns
  have hts := atoms_spec (ws := ks_Re_isVariable) B.pre
  have hown : s.vm.findClass kR_Re = some m.cls := findClass_of_methodNamed B.named
  have hlocks := B.notSynchronized
  have hS : va_S (fun q => Z ≤ q) s.heap s.heap [] := va_S.rf
  have hl := lv_entry ([.int x1]) (n := 1) (Nat.le_of_ble_eq_true rfl)
  rw [lg_entry_eq]
  generalize (lg_sl ([.int x1]) ++ List.replicate (1 - (lg_sl ([.int x1])).length) Slot.unset).toArray = ls at hl ⊢
  have hl : lv_has ls 1 [(0, .int x1)] := hl
  unfold kp_Re_isVariable at hw
  refine lv_iload_n hx hb kb_Re_isVariable_0 rfl (lv_at hl 0 rfl) ?_
  refine lv_bipush (v := (65 : Int32)) hx hb kb_Re_isVariable_1 (by decide) ?_
  refine lv_icmp_lt (tgt := 16) hx hb kb_Re_isVariable_3 (by decide) (fun hc => ?_) (fun hc => ?_)
  · have hw := hw.1 hc
    refine lv_iconst (v := (0 : Int32)) hx hb kb_Re_isVariable_16 (by decide) ?_
    exact zr_iret (free := fun q => Z ≤ q) z_nwN hx hb hr rfl hZ hK hN hG hS hw kb_Re_isVariable_17 hlocks
  · have hw := hw.2 hc
    refine lv_iload_n hx hb kb_Re_isVariable_6 rfl (lv_at hl 0 rfl) ?_
    refine lv_bipush (v := (90 : Int32)) hx hb kb_Re_isVariable_7 (by decide) ?_
    refine lv_icmp_gt (tgt := 16) hx hb kb_Re_isVariable_9 (by decide) (fun hc => ?_) (fun hc => ?_)
    · have hw := hw.1 hc
      refine lv_iconst (v := (0 : Int32)) hx hb kb_Re_isVariable_16 (by decide) ?_
      exact zr_iret (free := fun q => Z ≤ q) z_nwN hx hb hr rfl hZ hK hN hG hS hw kb_Re_isVariable_17 hlocks
    · have hw := hw.2 hc
      refine lv_iconst (v := (1 : Int32)) hx hb kb_Re_isVariable_12 (by decide) ?_
      refine lv_goto (tgt := 17) hx hb kb_Re_isVariable_13 (by decide) ?_
      exact zr_iret (free := fun q => Z ≤ q) z_nwN hx hb hr rfl hZ hK hN hG hS hw kb_Re_isVariable_17 hlocks
def kp_Ru_takesVariable (a0 : Nat) (x1 : Int32) (σ : z_S) (Post : Int32 → z_S → Prop) : Prop :=     (z_ty σ a0 = some (.inl 5) ∧ (kp_Vr_isIn (z_I σ 505 a0) x1 σ (fun (r5 : Int32) (σ5 : z_S) => (r5 = 0 → z_ty σ5 a0 = some (.inl 5) ∧ (((z_I σ5 506 a0) < ((6 : Int32)) → z_ty σ5 a0 = some (.inl 5) ∧ (z_ty σ5 a0 = some (.inl 5) ∧ ∀ σ33, σ33 = z_sI σ5 505 a0 ((z_I σ5 505 a0) ||| (((1 : Int32)) <<< (x1 &&& 31))) → z_ty σ33 a0 = some (.inl 5) ∧ (z_ty σ33 a0 = some (.inl 5) ∧ ∀ σ43, σ43 = z_sI σ33 506 a0 ((z_I σ33 506 a0) + ((1 : Int32))) → Post ((1 : Int32)) σ43))) ∧ (¬ (z_I σ5 506 a0) < ((6 : Int32)) → Post ((0 : Int32)) σ5))) ∧ (¬ r5 = 0 → Post ((1 : Int32)) σ5))))
set_option maxHeartbeats 4000000 in
set_option maxRecDepth 100000 in
theorem kc_Ru_takesVariable (l : Launch) (D : va_G) (dA : Nat → ClassId) (Z : Nat) (a0 : Nat) (x1 : Int32) (σ : z_S) (Post : Int32 → z_S → Prop) : Met l km_Ru_takesVariable ks_Ru_takesVariable kr_Ru_takesVariable (va_Pc [.ref a0, .int x1] (fun U => z_U D z_cl z_KT dA Z (z_tys dA) z_nw σ U ∧ kp_Ru_takesVariable  a0 x1 σ Post)) (z_Qi D z_cl z_KT dA Z (z_tys dA) z_nw Post) 0 0 (fun q => Z ≤ q) := by
  refine Met.ofW (cc := prog_7_method_3_code) (maxL := 2) (ret := (some .boolean)) (by decide) rfl ?_
  intro p e s m args below meth c s₁ B hml hv
  obtain ⟨rfl, ⟨hZ, hG, hK, hN⟩, hw⟩ := hv
  have hx := B.exec
  have hb := B.bytes
  have hr := B.returns
  have hts := atoms_spec (ws := ks_Ru_takesVariable) B.pre
  have hown : s.vm.findClass kR_Ru = some m.cls := findClass_of_methodNamed B.named
  have hlocks := B.notSynchronized
  have hS : va_S (fun q => Z ≤ q) s.heap s.heap [] := va_S.rf
  have hl := lv_entry ([.ref a0, .int x1]) (n := 2) (Nat.le_of_ble_eq_true rfl)
  rw [lg_entry_eq]
  generalize (lg_sl ([.ref a0, .int x1]) ++ List.replicate (2 - (lg_sl ([.ref a0, .int x1])).length) Slot.unset).toArray = ls at hl ⊢
  have hl : lv_has ls 2 [(0, .ref a0), (1, .int x1)] := hl
  unfold kp_Ru_takesVariable at hw
  refine lv_aload_n hx hb kb_Ru_takesVariable_0 rfl (lv_at hl 0 rfl) ?_
  obtain ⟨hy, hw⟩ := hw
  refine zr_getI (ci := 5) (f := 505) hx hb hts ki_Ru hown hK hG hy rfl 5 (by decide) (hts _ (List.mem_cons_of_mem _ kw_142)) (fun _ h => h) rfl rfl kb_Ru_takesVariable_1 ?_
  refine lv_iload_n hx hb kb_Ru_takesVariable_4 rfl (lv_at hl 1 rfl) ?_
  refine zr_ci (va_runSN (As := [.int (z_I σ 505 a0), .int x1]) (rest := []) ⟨hx, hb, hml, hown, hts⟩ (kc_Vr_isIn l D dA Z (z_I σ 505 a0) x1 σ _) ⟨va_cnB 2 hts (z_gw kw_309) rfl rfl rfl (hN _ kq_8) (hts _ (List.mem_cons_of_mem _ kw_1)) (by decide +kernel) ⟨Nat.le_of_ble_eq_true rfl, Nat.le_of_ble_eq_true rfl⟩, (hts _ (List.mem_cons_of_mem _ kw_308)), trivial⟩ (z_preS z_nwN (Nat.le_trans hZ hS.1) hG hK hN hw) rfl rfl hl.1 rfl (lv_room (Nat.le_of_ble_eq_true rfl)) kb_Ru_takesVariable_5 ⟨Nat.le_of_ble_eq_true rfl, Nat.le_of_ble_eq_true rfl⟩) hS (fun r5 σ5 H locs hw hG hS => ?_)
  refine lv_if_eq (tgt := 13) hx hb kb_Ru_takesVariable_8 (by decide) (fun hc => ?_) (fun hc => ?_)
  · have hw := hw.1 hc
    refine lv_aload_n hx hb kb_Ru_takesVariable_13 rfl (lv_at hl 0 rfl) ?_
    obtain ⟨hy, hw⟩ := hw
    refine zr_getI (ci := 5) (f := 506) hx hb hts ki_Ru hown hK hG hy rfl 6 (by decide) (hts _ (List.mem_cons_of_mem _ kw_144)) (fun _ h => h) rfl rfl kb_Ru_takesVariable_14 ?_
    refine lv_bipush (v := (6 : Int32)) hx hb kb_Ru_takesVariable_17 (by decide) ?_
    refine lv_icmp_lt (tgt := 24) hx hb kb_Ru_takesVariable_19 (by decide) (fun hc => ?_) (fun hc => ?_)
    · have hw := hw.1 hc
      refine lv_aload_n hx hb kb_Ru_takesVariable_24 rfl (lv_at hl 0 rfl) ?_
      refine lv_dup hx hb kb_Ru_takesVariable_25 rfl ?_
      obtain ⟨hy, hw⟩ := hw
      refine zr_getI (ci := 5) (f := 505) hx hb hts ki_Ru hown hK hG hy rfl 5 (by decide) (hts _ (List.mem_cons_of_mem _ kw_142)) (fun _ h => h) rfl rfl kb_Ru_takesVariable_26 ?_
      refine lv_iconst (v := (1 : Int32)) hx hb kb_Ru_takesVariable_29 (by decide) ?_
      refine lv_iload_n hx hb kb_Ru_takesVariable_30 rfl (lv_at hl 1 rfl) ?_
      refine lv_ishl hx hb kb_Ru_takesVariable_31 ?_
      refine lv_ior hx hb kb_Ru_takesVariable_32 ?_
      obtain ⟨hy, hw⟩ := hw
      refine zr_putI (ci := 5) (f := 505) hx hb hts ki_Ru ky_Ru kyo_Ru kn_Ru hown hK hG hS hy rfl 5 (by decide) (hts _ (List.mem_cons_of_mem _ kw_142)) (fun _ h => h) rfl rfl rfl rfl rfl kb_Ru_takesVariable_33 (fun H locs hG hS => ?_)
      obtain ⟨σ33, e33⟩ : ∃ z, z = z_sI σ5 505 a0 ((z_I σ5 505 a0) ||| (((1 : Int32)) <<< (x1 &&& 31))) := ⟨_, rfl⟩
      rw [← e33] at hG
      have hw := hw _ e33
      refine lv_aload_n hx hb kb_Ru_takesVariable_36 rfl (lv_at hl 0 rfl) ?_
      refine lv_dup hx hb kb_Ru_takesVariable_37 rfl ?_
      obtain ⟨hy, hw⟩ := hw
      refine zr_getI (ci := 5) (f := 506) hx hb hts ki_Ru hown hK hG hy rfl 6 (by decide) (hts _ (List.mem_cons_of_mem _ kw_144)) (fun _ h => h) rfl rfl kb_Ru_takesVariable_38 ?_
      refine lv_iconst (v := (1 : Int32)) hx hb kb_Ru_takesVariable_41 (by decide) ?_
      refine lv_iadd hx hb kb_Ru_takesVariable_42 ?_
      obtain ⟨hy, hw⟩ := hw
      refine zr_putI (ci := 5) (f := 506) hx hb hts ki_Ru ky_Ru kyo_Ru kn_Ru hown hK hG hS hy rfl 6 (by decide) (hts _ (List.mem_cons_of_mem _ kw_144)) (fun _ h => h) rfl rfl rfl rfl rfl kb_Ru_takesVariable_43 (fun H locs hG hS => ?_)
      obtain ⟨σ43, e43⟩ : ∃ z, z = z_sI σ33 506 a0 ((z_I σ33 506 a0) + ((1 : Int32))) := ⟨_, rfl⟩
      rw [← e43] at hG
      have hw := hw _ e43
      refine lv_iconst (v := (1 : Int32)) hx hb kb_Ru_takesVariable_46 (by decide) ?_
      exact zr_iret (free := fun q => Z ≤ q) z_nwN hx hb hr rfl hZ hK hN hG hS hw kb_Ru_takesVariable_47 hlocks
    · have hw := hw.2 hc
      refine lv_iconst (v := (0 : Int32)) hx hb kb_Ru_takesVariable_22 (by decide) ?_
      exact zr_iret (free := fun q => Z ≤ q) z_nwN hx hb hr rfl hZ hK hN hG hS hw kb_Ru_takesVariable_23 hlocks
  · have hw := hw.2 hc
    refine lv_iconst (v := (1 : Int32)) hx hb kb_Ru_takesVariable_11 (by decide) ?_
    exact zr_iret (free := fun q => Z ≤ q) z_nwN hx hb hr rfl hZ hK hN hG hS hw kb_Ru_takesVariable_12 hlocks
def kp_Re_readTerm (a0 : Nat) (b1 : Nat) (x2 : Int32) (σ : z_S) (Post : Int32 → z_S → Prop) : Prop := ∀ (X88 : z_S → Prop) (X94 : z_S → Prop),
    (∀ (σ : z_S), (z_ty σ a0 = some (.inl 3) ∧ kp_Re_fail a0 ((1 : Int32)) σ (fun (r90 : Int32) (σ90 : z_S) => (r90 = 0 ∨ r90 = 1) ∧ Post r90 σ90)) → X88 σ) →
    (∀ (σ : z_S), (z_ty σ a0 = some (.inl 3) ∧ (z_ty σ a0 = some (.inl 3) ∧ ∀ σ101, σ101 = z_sI σ 305 a0 ((z_I σ 305 a0) + ((1 : Int32))) → Post ((1 : Int32)) σ101)) → X94 σ) →
    (z_ty σ a0 = some (.inl 3) ∧ kp_Re_sign a0 σ (fun (r1 : Int32) (σ1 : z_S) => kp_Re_isDigit r1 σ1 (fun (r6 : Int32) (σ6 : z_S) => (r6 = 0 → kp_Re_isVariable r1 σ6 (fun (r23 : Int32) (σ23 : z_S) => (r23 = 0 → (¬ r1 = ((35 : Int32)) → X88 σ23) ∧ (r1 = ((35 : Int32)) → (x2 = 0 → X88 σ23) ∧ (¬ x2 = 0 → z_ty σ23 a0 = some (.inl 3) ∧ ∃ r73, z_R σ23 306 a0 = some r73 ∧ (z_ty σ23 r73 = some (.inl 5) ∧ (((1 : Int32)) = 0 ∨ ((1 : Int32)) = 1) ∧ ∀ σ77, σ77 = z_sI σ23 504 r73 ((1 : Int32)) → z_ty σ77 b1 = some (.inl 0) ∧ kp_At_append b1 ((0 : Int32)) σ77 (fun (σ82 : z_S) => X94 σ82))))) ∧ (¬ r23 = 0 → z_ty σ23 a0 = some (.inl 3) ∧ ∃ r30, z_R σ23 306 a0 = some r30 ∧ (z_ty σ23 r30 = some (.inl 5) ∧ kp_Ru_takesVariable r30 (r1 - ((65 : Int32))) σ23 (fun (r37 : Int32) (σ37 : z_S) => (¬ r37 = 0 → z_ty σ37 b1 = some (.inl 0) ∧ kp_At_append b1 (((-1 : Int32)) - (r1 - ((65 : Int32)))) σ37 (fun (σ56 : z_S) => X94 σ56)) ∧ (r37 = 0 → z_ty σ37 a0 = some (.inl 3) ∧ kp_Re_fail a0 ((3 : Int32)) σ37 (fun (r45 : Int32) (σ45 : z_S) => (r45 = 0 ∨ r45 = 1) ∧ Post r45 σ45))))))) ∧ (¬ r6 = 0 → z_ty σ6 a0 = some (.inl 3) ∧ kp_Re_readNumber a0 σ6 (fun (r14 : Int32) (σ14 : z_S) => z_ty σ14 b1 = some (.inl 0) ∧ kp_At_append b1 r14 σ14 (fun (σ17 : z_S) => Post ((1 : Int32)) σ17))))))
set_option maxHeartbeats 4000000 in
set_option maxRecDepth 100000 in
theorem kc_Re_readTerm (l : Launch) (D : va_G) (dA : Nat → ClassId) (Z : Nat) (a0 : Nat) (b1 : Nat) (x2 : Int32) (σ : z_S) (Post : Int32 → z_S → Prop) : Met l km_Re_readTerm ks_Re_readTerm kr_Re_readTerm (va_Pc [.ref a0, .ref b1, .int x2] (fun U => z_U D z_cl z_KT dA Z (z_tys dA) z_nw σ U ∧ kp_Re_readTerm  a0 b1 x2 σ Post)) (z_Qi D z_cl z_KT dA Z (z_tys dA) z_nw Post) 0 0 (fun q => Z ≤ q) := by
  refine Met.ofW (cc := prog_5_method_8_code) (maxL := 4) (ret := (some .boolean)) (by decide) rfl ?_
  intro p e s m args below meth c s₁ B hml hv
  obtain ⟨rfl, ⟨hZ, hG, hK, hN⟩, hw⟩ := hv
  have hx := B.exec
  have hb := B.bytes
  have hr := B.returns
  have hts := atoms_spec (ws := ks_Re_readTerm) B.pre
  have hown : s.vm.findClass kR_Re = some m.cls := findClass_of_methodNamed B.named
  have hlocks := B.notSynchronized
  have hS : va_S (fun q => Z ≤ q) s.heap s.heap [] := va_S.rf
  have hl := lv_entry ([.ref a0, .ref b1, .int x2]) (n := 4) (Nat.le_of_ble_eq_true rfl)
  rw [lg_entry_eq]
  generalize (lg_sl ([.ref a0, .ref b1, .int x2]) ++ List.replicate (4 - (lg_sl ([.ref a0, .ref b1, .int x2])).length) Slot.unset).toArray = ls at hl ⊢
  have hl : lv_has ls 4 [(0, .ref a0), (1, .ref b1), (2, .int x2)] := hl
  unfold kp_Re_readTerm at hw
  have hw := hw (fun (σ : z_S) => ∀ (H : Heap) (locs : List Loc) (ls : Array Slot), z_G D z_cl z_KT dA Z σ H → va_S (fun q => Z ≤ q) s.heap H locs → lv_has ls 4 [(0, .ref a0)] → W p l e (headSpec ks_Re_readTerm kr_Re_readTerm).room s m ([.ref a0, .ref b1, .int x2] : List Value).toArray below meth c H locs 0 0 (MQ below (z_Qi D z_cl z_KT dA Z (z_tys dA) z_nw Post) ([.ref a0, .ref b1, .int x2] : List Value).toArray s 0 0 (fun q => Z ≤ q)) (F0 m 88 ls []))
  have hw := hw (fun (σ : z_S) => ∀ (H : Heap) (locs : List Loc) (ls : Array Slot), z_G D z_cl z_KT dA Z σ H → va_S (fun q => Z ≤ q) s.heap H locs → lv_has ls 4 [(0, .ref a0)] → W p l e (headSpec ks_Re_readTerm kr_Re_readTerm).room s m ([.ref a0, .ref b1, .int x2] : List Value).toArray below meth c H locs 0 0 (MQ below (z_Qi D z_cl z_KT dA Z (z_tys dA) z_nw Post) ([.ref a0, .ref b1, .int x2] : List Value).toArray s 0 0 (fun q => Z ≤ q)) (F0 m 94 ls []))
  have hw := hw (by
    intro σ hw H locs ls hG hS hl
    refine lv_aload_n hx hb kb_Re_readTerm_88 rfl (lv_at hl 0 rfl) ?_
    refine lv_iconst (v := (1 : Int32)) hx hb kb_Re_readTerm_89 (by decide) ?_
    obtain ⟨hy, hw⟩ := hw
    refine zr_ci (va_runV (C := kR_Re) (As := [.int ((1 : Int32))]) (rest := []) ⟨hx, hb, hml, hown, hts⟩ (kc_Re_fail l D dA Z a0 ((1 : Int32)) σ _) ⟨callB_of 1 hts (z_gw kw_272) rfl rfl rfl (hts _ (List.mem_cons_of_mem _ kw_10)) (hts _ (List.mem_cons_of_mem _ kw_270)) (by decide +kernel) ⟨Nat.le_of_ble_eq_true rfl, Nat.le_of_ble_eq_true rfl⟩, (hts _ (List.mem_cons_of_mem _ kw_271)), (hts _ (List.mem_cons_of_mem _ kw_911))⟩ (z_preV z_nwN (Nat.le_trans hZ hS.1) hG hK hN hy (ci := 3) (r := (kR_Re, kT_Re, 7)) rfl hw) rfl rfl hl.1 rfl (lv_room (Nat.le_of_ble_eq_true rfl)) kb_Re_readTerm_90 ⟨Nat.le_of_ble_eq_true rfl, Nat.le_of_ble_eq_true rfl⟩) hS (fun r90 σ90 H locs hw hG hS => ?_)
    exact zr_iret (free := fun q => Z ≤ q) z_nwN hx hb hr (z_bool hw.1) hZ hK hN hG hS hw.2 kb_Re_readTerm_93 hlocks)
  have hw := hw (by
    intro σ hw H locs ls hG hS hl
    refine lv_aload_n hx hb kb_Re_readTerm_94 rfl (lv_at hl 0 rfl) ?_
    refine lv_dup hx hb kb_Re_readTerm_95 rfl ?_
    obtain ⟨hy, hw⟩ := hw
    refine zr_getI (ci := 3) (f := 305) hx hb hts ki_Re hown hK hG hy rfl 5 (by decide) (hts _ (List.mem_cons_of_mem _ kw_248)) (fun _ h => h) rfl rfl kb_Re_readTerm_96 ?_
    refine lv_iconst (v := (1 : Int32)) hx hb kb_Re_readTerm_99 (by decide) ?_
    refine lv_iadd hx hb kb_Re_readTerm_100 ?_
    obtain ⟨hy, hw⟩ := hw
    refine zr_putI (ci := 3) (f := 305) hx hb hts ki_Re ky_Re kyo_Re kn_Re hown hK hG hS hy rfl 5 (by decide) (hts _ (List.mem_cons_of_mem _ kw_248)) (fun _ h => h) rfl rfl rfl rfl rfl kb_Re_readTerm_101 (fun H locs hG hS => ?_)
    obtain ⟨σ101, e101⟩ : ∃ z, z = z_sI σ 305 a0 ((z_I σ 305 a0) + ((1 : Int32))) := ⟨_, rfl⟩
    rw [← e101] at hG
    have hw := hw _ e101
    refine lv_iconst (v := (1 : Int32)) hx hb kb_Re_readTerm_104 (by decide) ?_
    exact zr_iret (free := fun q => Z ≤ q) z_nwN hx hb hr rfl hZ hK hN hG hS hw kb_Re_readTerm_105 hlocks)
  refine lv_aload_n hx hb kb_Re_readTerm_0 rfl (lv_at hl 0 rfl) ?_
  obtain ⟨hy, hw⟩ := hw
  refine zr_ci (va_runV (C := kR_Re) (As := []) (rest := []) ⟨hx, hb, hml, hown, hts⟩ (kc_Re_sign l D dA Z a0 σ _) ⟨callB_of 0 hts (z_gw kw_263) rfl rfl rfl (hts _ (List.mem_cons_of_mem _ kw_10)) (hts _ (List.mem_cons_of_mem _ kw_261)) (by decide +kernel) ⟨Nat.le_of_ble_eq_true rfl, Nat.le_of_ble_eq_true rfl⟩, (hts _ (List.mem_cons_of_mem _ kw_262)), (hts _ (List.mem_cons_of_mem _ kw_909))⟩ (z_preV z_nwN (Nat.le_trans hZ hS.1) hG hK hN hy (ci := 3) (r := (kR_Re, kT_Re, 7)) rfl hw) rfl rfl hl.1 rfl (lv_room (Nat.le_of_ble_eq_true rfl)) kb_Re_readTerm_1 ⟨Nat.le_of_ble_eq_true rfl, Nat.le_of_ble_eq_true rfl⟩) hS (fun r1 σ1 H locs hw hG hS => ?_)
  refine lv_istore_n (lv' := [(3, .int r1), (0, .ref a0), (1, .ref b1), (2, .int x2)]) hx hb kb_Re_readTerm_4 rfl hl (by decide) rfl (fun ls hl => ?_)
  refine lv_iload_n hx hb kb_Re_readTerm_5 rfl (lv_at hl 0 rfl) ?_
  refine zr_ci (va_runS (As := [.int r1]) (rest := []) ⟨hx, hb, hml, hown, hts⟩ (kc_Re_isDigit l D dA Z r1 σ1 _) ⟨callB_of 1 hts (z_gw kw_293) rfl rfl rfl (hts _ (List.mem_cons_of_mem _ kw_10)) (hts _ (List.mem_cons_of_mem _ kw_291)) (by decide +kernel) ⟨Nat.le_of_ble_eq_true rfl, Nat.le_of_ble_eq_true rfl⟩, (hts _ (List.mem_cons_of_mem _ kw_292))⟩ (z_preS z_nwN (Nat.le_trans hZ hS.1) hG hK hN hw) rfl rfl hl.1 rfl (lv_room (Nat.le_of_ble_eq_true rfl)) kb_Re_readTerm_6 ⟨Nat.le_of_ble_eq_true rfl, Nat.le_of_ble_eq_true rfl⟩) hS (fun r6 σ6 H locs hw hG hS => ?_)
  refine lv_if_eq (tgt := 22) hx hb kb_Re_readTerm_9 (by decide) (fun hc => ?_) (fun hc => ?_)
  · have hw := hw.1 hc
    refine lv_iload_n hx hb kb_Re_readTerm_22 rfl (lv_at hl 0 rfl) ?_
    refine zr_ci (va_runS (As := [.int r1]) (rest := []) ⟨hx, hb, hml, hown, hts⟩ (kc_Re_isVariable l D dA Z r1 σ6 _) ⟨callB_of 1 hts (z_gw kw_303) rfl rfl rfl (hts _ (List.mem_cons_of_mem _ kw_10)) (hts _ (List.mem_cons_of_mem _ kw_301)) (by decide +kernel) ⟨Nat.le_of_ble_eq_true rfl, Nat.le_of_ble_eq_true rfl⟩, (hts _ (List.mem_cons_of_mem _ kw_302))⟩ (z_preS z_nwN (Nat.le_trans hZ hS.1) hG hK hN hw) rfl rfl hl.1 rfl (lv_room (Nat.le_of_ble_eq_true rfl)) kb_Re_readTerm_23 ⟨Nat.le_of_ble_eq_true rfl, Nat.le_of_ble_eq_true rfl⟩) hS (fun r23 σ23 H locs hw hG hS => ?_)
    refine lv_if_eq (tgt := 62) hx hb kb_Re_readTerm_26 (by decide) (fun hc => ?_) (fun hc => ?_)
    · have hw := hw.1 hc
      refine lv_iload_n hx hb kb_Re_readTerm_62 rfl (lv_at hl 0 rfl) ?_
      refine lv_bipush (v := (35 : Int32)) hx hb kb_Re_readTerm_63 (by decide) ?_
      refine lv_icmp_ne (tgt := 88) hx hb kb_Re_readTerm_65 (by decide) (fun hc => ?_) (fun hc => ?_)
      · have hw := hw.1 hc
        exact hw _ _ _ hG hS (lv_sub hl [1] rfl)
      · have hw := hw.2 hc
        refine lv_iload_n hx hb kb_Re_readTerm_68 rfl (lv_at hl 3 rfl) ?_
        refine lv_if_eq (tgt := 88) hx hb kb_Re_readTerm_69 (by decide) (fun hc => ?_) (fun hc => ?_)
        · have hw := hw.1 hc
          exact hw _ _ _ hG hS (lv_sub hl [1] rfl)
        · have hw := hw.2 hc
          refine lv_aload_n hx hb kb_Re_readTerm_72 rfl (lv_at hl 1 rfl) ?_
          obtain ⟨hy, r73, hrf, hw⟩ := hw
          refine zr_getR (ci := 3) (f := 306) hx hb hts ki_Re hown hK hG hy rfl 6 (by decide) (hts _ (List.mem_cons_of_mem _ kw_249)) (fun _ h => h) rfl rfl hrf kb_Re_readTerm_73 ?_
          refine lv_iconst (v := (1 : Int32)) hx hb kb_Re_readTerm_76 (by decide) ?_
          obtain ⟨hy, hz, hw⟩ := hw
          refine zr_putI (ci := 5) (f := 504) hx hb hts ki_Ru ky_Ru kyo_Ru kn_Ru hown hK hG hS hy rfl 4 (by decide) (hts _ (List.mem_cons_of_mem _ kw_141)) (fun _ h => h) rfl (z_bool hz) (z_boolF hz) rfl rfl kb_Re_readTerm_77 (fun H locs hG hS => ?_)
          obtain ⟨σ77, e77⟩ : ∃ z, z = z_sI σ23 504 r73 ((1 : Int32)) := ⟨_, rfl⟩
          rw [← e77] at hG
          have hw := hw _ e77
          refine lv_aload_n hx hb kb_Re_readTerm_80 rfl (lv_at hl 2 rfl) ?_
          refine lv_iconst (v := (0 : Int32)) hx hb kb_Re_readTerm_81 (by decide) ?_
          obtain ⟨hy, hw⟩ := hw
          refine zr_cv (va_runV (C := kR_At) (As := [.int ((0 : Int32))]) (rest := []) ⟨hx, hb, hml, hown, hts⟩ (kc_At_append l D dA Z b1 ((0 : Int32)) σ77 _) ⟨callB_of 1 hts (z_gw kw_300) rfl rfl rfl (hts _ (List.mem_cons_of_mem _ kw_7)) (hts _ (List.mem_cons_of_mem _ kw_297)) (by decide +kernel) ⟨Nat.le_of_ble_eq_true rfl, Nat.le_of_ble_eq_true rfl⟩, (hts _ (List.mem_cons_of_mem _ kw_298)), (hts _ (List.mem_cons_of_mem _ kw_299))⟩ (z_preV z_nwN (Nat.le_trans hZ hS.1) hG hK hN hy (ci := 0) (r := (kR_At, kT_At, 6)) rfl hw) rfl rfl hl.1 rfl (lv_room (Nat.le_of_ble_eq_true rfl)) kb_Re_readTerm_82 ⟨Nat.le_of_ble_eq_true rfl, Nat.le_of_ble_eq_true rfl⟩) hS (fun σ82 H locs hw hG hS => ?_)
          refine lv_goto (tgt := 94) hx hb kb_Re_readTerm_85 (by decide) ?_
          exact hw _ _ _ hG hS (lv_sub hl [1] rfl)
    · have hw := hw.2 hc
      refine lv_aload_n hx hb kb_Re_readTerm_29 rfl (lv_at hl 1 rfl) ?_
      obtain ⟨hy, r30, hrf, hw⟩ := hw
      refine zr_getR (ci := 3) (f := 306) hx hb hts ki_Re hown hK hG hy rfl 6 (by decide) (hts _ (List.mem_cons_of_mem _ kw_249)) (fun _ h => h) rfl rfl hrf kb_Re_readTerm_30 ?_
      refine lv_iload_n hx hb kb_Re_readTerm_33 rfl (lv_at hl 0 rfl) ?_
      refine lv_bipush (v := (65 : Int32)) hx hb kb_Re_readTerm_34 (by decide) ?_
      refine lv_isub hx hb kb_Re_readTerm_36 ?_
      obtain ⟨hy, hw⟩ := hw
      refine zr_ci (va_runV (C := kR_Ru) (As := [.int (r1 - ((65 : Int32)))]) (rest := []) ⟨hx, hb, hml, hown, hts⟩ (kc_Ru_takesVariable l D dA Z r30 (r1 - ((65 : Int32))) σ23 _) ⟨callB_of 1 hts (z_gw kw_307) rfl rfl rfl (hts _ (List.mem_cons_of_mem _ kw_6)) (hts _ (List.mem_cons_of_mem _ kw_304)) (by decide +kernel) ⟨Nat.le_of_ble_eq_true rfl, Nat.le_of_ble_eq_true rfl⟩, (hts _ (List.mem_cons_of_mem _ kw_305)), (hts _ (List.mem_cons_of_mem _ kw_306))⟩ (z_preV z_nwN (Nat.le_trans hZ hS.1) hG hK hN hy (ci := 5) (r := (kR_Ru, kT_Ru, 7)) rfl hw) rfl rfl hl.1 rfl (lv_room (Nat.le_of_ble_eq_true rfl)) kb_Re_readTerm_37 ⟨Nat.le_of_ble_eq_true rfl, Nat.le_of_ble_eq_true rfl⟩) hS (fun r37 σ37 H locs hw hG hS => ?_)
      refine lv_if_ne (tgt := 49) hx hb kb_Re_readTerm_40 (by decide) (fun hc => ?_) (fun hc => ?_)
      · have hw := hw.1 hc
        refine lv_aload_n hx hb kb_Re_readTerm_49 rfl (lv_at hl 2 rfl) ?_
        refine lv_iconst (v := (-1 : Int32)) hx hb kb_Re_readTerm_50 (by decide) ?_
        refine lv_iload_n hx hb kb_Re_readTerm_51 rfl (lv_at hl 0 rfl) ?_
        refine lv_bipush (v := (65 : Int32)) hx hb kb_Re_readTerm_52 (by decide) ?_
        refine lv_isub hx hb kb_Re_readTerm_54 ?_
        refine lv_isub hx hb kb_Re_readTerm_55 ?_
        obtain ⟨hy, hw⟩ := hw
        refine zr_cv (va_runV (C := kR_At) (As := [.int (((-1 : Int32)) - (r1 - ((65 : Int32))))]) (rest := []) ⟨hx, hb, hml, hown, hts⟩ (kc_At_append l D dA Z b1 (((-1 : Int32)) - (r1 - ((65 : Int32)))) σ37 _) ⟨callB_of 1 hts (z_gw kw_300) rfl rfl rfl (hts _ (List.mem_cons_of_mem _ kw_7)) (hts _ (List.mem_cons_of_mem _ kw_297)) (by decide +kernel) ⟨Nat.le_of_ble_eq_true rfl, Nat.le_of_ble_eq_true rfl⟩, (hts _ (List.mem_cons_of_mem _ kw_298)), (hts _ (List.mem_cons_of_mem _ kw_299))⟩ (z_preV z_nwN (Nat.le_trans hZ hS.1) hG hK hN hy (ci := 0) (r := (kR_At, kT_At, 6)) rfl hw) rfl rfl hl.1 rfl (lv_room (Nat.le_of_ble_eq_true rfl)) kb_Re_readTerm_56 ⟨Nat.le_of_ble_eq_true rfl, Nat.le_of_ble_eq_true rfl⟩) hS (fun σ56 H locs hw hG hS => ?_)
        refine lv_goto (tgt := 94) hx hb kb_Re_readTerm_59 (by decide) ?_
        exact hw _ _ _ hG hS (lv_sub hl [1] rfl)
      · have hw := hw.2 hc
        refine lv_aload_n hx hb kb_Re_readTerm_43 rfl (lv_at hl 1 rfl) ?_
        refine lv_iconst (v := (3 : Int32)) hx hb kb_Re_readTerm_44 (by decide) ?_
        obtain ⟨hy, hw⟩ := hw
        refine zr_ci (va_runV (C := kR_Re) (As := [.int ((3 : Int32))]) (rest := []) ⟨hx, hb, hml, hown, hts⟩ (kc_Re_fail l D dA Z a0 ((3 : Int32)) σ37 _) ⟨callB_of 1 hts (z_gw kw_272) rfl rfl rfl (hts _ (List.mem_cons_of_mem _ kw_10)) (hts _ (List.mem_cons_of_mem _ kw_270)) (by decide +kernel) ⟨Nat.le_of_ble_eq_true rfl, Nat.le_of_ble_eq_true rfl⟩, (hts _ (List.mem_cons_of_mem _ kw_271)), (hts _ (List.mem_cons_of_mem _ kw_911))⟩ (z_preV z_nwN (Nat.le_trans hZ hS.1) hG hK hN hy (ci := 3) (r := (kR_Re, kT_Re, 7)) rfl hw) rfl rfl hl.1 rfl (lv_room (Nat.le_of_ble_eq_true rfl)) kb_Re_readTerm_45 ⟨Nat.le_of_ble_eq_true rfl, Nat.le_of_ble_eq_true rfl⟩) hS (fun r45 σ45 H locs hw hG hS => ?_)
        exact zr_iret (free := fun q => Z ≤ q) z_nwN hx hb hr (z_bool hw.1) hZ hK hN hG hS hw.2 kb_Re_readTerm_48 hlocks
  · have hw := hw.2 hc
    refine lv_aload_n hx hb kb_Re_readTerm_12 rfl (lv_at hl 2 rfl) ?_
    refine lv_aload_n hx hb kb_Re_readTerm_13 rfl (lv_at hl 1 rfl) ?_
    obtain ⟨hy, hw⟩ := hw
    refine zr_ci (va_runV (C := kR_Re) (As := []) (rest := [.ref b1]) ⟨hx, hb, hml, hown, hts⟩ (kc_Re_readNumber l D dA Z a0 σ6 _) ⟨callB_of 0 hts (z_gw kw_296) rfl rfl rfl (hts _ (List.mem_cons_of_mem _ kw_10)) (hts _ (List.mem_cons_of_mem _ kw_294)) (by decide +kernel) ⟨Nat.le_of_ble_eq_true rfl, Nat.le_of_ble_eq_true rfl⟩, (hts _ (List.mem_cons_of_mem _ kw_295)), (hts _ (List.mem_cons_of_mem _ kw_915))⟩ (z_preV z_nwN (Nat.le_trans hZ hS.1) hG hK hN hy (ci := 3) (r := (kR_Re, kT_Re, 7)) rfl hw) rfl rfl hl.1 rfl (lv_room (Nat.le_of_ble_eq_true rfl)) kb_Re_readTerm_14 ⟨Nat.le_of_ble_eq_true rfl, Nat.le_of_ble_eq_true rfl⟩) hS (fun r14 σ14 H locs hw hG hS => ?_)
    obtain ⟨hy, hw⟩ := hw
    refine zr_cv (va_runV (C := kR_At) (As := [.int r14]) (rest := []) ⟨hx, hb, hml, hown, hts⟩ (kc_At_append l D dA Z b1 r14 σ14 _) ⟨callB_of 1 hts (z_gw kw_300) rfl rfl rfl (hts _ (List.mem_cons_of_mem _ kw_7)) (hts _ (List.mem_cons_of_mem _ kw_297)) (by decide +kernel) ⟨Nat.le_of_ble_eq_true rfl, Nat.le_of_ble_eq_true rfl⟩, (hts _ (List.mem_cons_of_mem _ kw_298)), (hts _ (List.mem_cons_of_mem _ kw_299))⟩ (z_preV z_nwN (Nat.le_trans hZ hS.1) hG hK hN hy (ci := 0) (r := (kR_At, kT_At, 6)) rfl hw) rfl rfl hl.1 rfl (lv_room (Nat.le_of_ble_eq_true rfl)) kb_Re_readTerm_17 ⟨Nat.le_of_ble_eq_true rfl, Nat.le_of_ble_eq_true rfl⟩) hS (fun σ17 H locs hw hG hS => ?_)
    refine lv_iconst (v := (1 : Int32)) hx hb kb_Re_readTerm_20 (by decide) ?_
    exact zr_iret (free := fun q => Z ≤ q) z_nwN hx hb hr rfl hZ hK hN hG hS hw kb_Re_readTerm_21 hlocks
def kp_Re_readNamed (a0 : Nat) (b1 : Nat) (x2 : Int32) (σ : z_S) (Post : Int32 → z_S → Prop) : Prop := ∀ (X35 : Int32 → Int32 → z_S → Prop) (X89 : Int32 → Int32 → Int32 → z_S → Prop) (X136 : Int32 → Int32 → Int32 → z_S → Prop) (X157 : Int32 → Int32 → Int32 → z_S → Prop) (X174 : Int32 → Int32 → Int32 → Nat → Int32 → Int32 → z_S → Prop) (X184 : Int32 → z_S → Prop) (X220 : z_S → Prop),
    (∀ (v3 : Int32) (t0 : Int32) (σ : z_S), (z_ty σ a0 = some (.inl 3) ∧ ∃ r39, z_R σ 300 a0 = some r39 ∧ (z_ty σ r39 = some (.inl 2) ∧ kp_Pr_relationMade r39 v3 σ (fun (r43 : Int32) (σ43 : z_S) => z_ty σ43 b1 = some (.inl 0) ∧ ∀ σ46, σ46 = z_sI σ43 3 b1 r43 → z_ty σ46 b1 = some (.inl 0) ∧ ((0 ≤ ((z_I σ46 3 b1)) → z_ty σ46 a0 = some (.inl 3) ∧ (z_ty σ46 a0 = some (.inl 3) ∧ ∀ σ69, σ69 = z_sI σ46 305 a0 ((z_I σ46 305 a0) + ((1 : Int32))) → z_ty σ69 a0 = some (.inl 3) ∧ kp_Re_takes a0 ((40 : Int32)) σ69 (fun (r75 : Int32) (σ75 : z_S) => (¬ r75 = 0 → X89 t0 ((1 : Int32)) ((0 : Int32)) σ75) ∧ (r75 = 0 → Post ((0 : Int32)) σ75)))) ∧ (¬ 0 ≤ ((z_I σ46 3 b1)) → z_ty σ46 a0 = some (.inl 3) ∧ kp_Re_fail a0 ((3 : Int32)) σ46 (fun (r58 : Int32) (σ58 : z_S) => (r58 = 0 ∨ r58 = 1) ∧ Post r58 σ58)))))) → X35 v3 t0 σ) →
    (∀ (v4 : Int32) (v5 : Int32) (v6 : Int32) (σ : z_S), ((((3 : Int32)) ≤ v6 → X184 v4 σ) ∧ (¬ ((3 : Int32)) ≤ v6 → (v5 = 0 → X184 v4 σ) ∧ (¬ v5 = 0 → z_ty σ a0 = some (.inl 3) ∧ kp_Re_readTerm a0 b1 x2 σ (fun (r103 : Int32) (σ103 : z_S) => (¬ r103 = 0 → (v6 = ((2 : Int32)) → X136 v4 v6 ((1 : Int32)) σ103) ∧ (¬ v6 = ((2 : Int32)) → (x2 = 0 → X136 v4 v6 ((0 : Int32)) σ103) ∧ (¬ x2 = 0 → z_ty σ103 a0 = some (.inl 3) ∧ ∃ r122, z_R σ103 306 a0 = some r122 ∧ (z_ty σ103 r122 = some (.inl 5) ∧ ((((z_I σ103 504 r122)) = 0 → X136 v4 v6 ((0 : Int32)) σ103) ∧ (¬ ((z_I σ103 504 r122)) = 0 → X136 v4 v6 ((1 : Int32)) σ103)))))) ∧ (r103 = 0 → Post ((0 : Int32)) σ103))))) → X89 v4 v5 v6 σ) →
    (∀ (v4 : Int32) (v6 : Int32) (t0 : Int32) (σ : z_S), ((¬ t0 = 0 → X157 v4 v6 ((0 : Int32)) σ) ∧ (t0 = 0 → z_ty σ a0 = some (.inl 3) ∧ kp_Re_sign a0 σ (fun (r144 : Int32) (σ144 : z_S) => (¬ r144 = ((44 : Int32)) → X157 v4 v6 ((0 : Int32)) σ144) ∧ (r144 = ((44 : Int32)) → X157 v4 v6 ((1 : Int32)) σ144)))) → X136 v4 v6 t0 σ) →
    (∀ (v4 : Int32) (v6 : Int32) (t0 : Int32) (σ : z_S), (z_ty σ a0 = some (.inl 3) ∧ ((t0 = 0 → X174 v4 t0 v6 a0 (z_I σ 305 a0) ((0 : Int32)) σ) ∧ (¬ t0 = 0 → X174 v4 t0 v6 a0 (z_I σ 305 a0) ((1 : Int32)) σ))) → X157 v4 v6 t0 σ) →
    (∀ (v4 : Int32) (v5 : Int32) (v6 : Int32) (t0 : Nat) (t1 : Int32) (t2 : Int32) (σ : z_S), (z_ty σ t0 = some (.inl 3) ∧ ∀ σ175, σ175 = z_sI σ 305 t0 (t1 + t2) → X89 v4 v5 (v6 + (1 : Int32)) σ175) → X174 v4 v5 v6 t0 t1 t2 σ) →
    (∀ (v4 : Int32) (σ : z_S), (z_ty σ a0 = some (.inl 3) ∧ kp_Re_sign a0 σ (fun (r185 : Int32) (σ185 : z_S) => (r185 = ((41 : Int32)) → (v4 = 0 → X220 σ185) ∧ (¬ v4 = 0 → z_ty σ185 a0 = some (.inl 3) ∧ ∃ r205, z_R σ185 300 a0 = some r205 ∧ (z_ty σ185 r205 = some (.inl 2) ∧ ∃ r208, z_R σ185 203 r205 = some r208 ∧ (z_ty σ185 b1 = some (.inl 0) ∧ (z_ty σ185 b1 = some (.inl 0) ∧ (∃ n219 s219, z_ty σ185 r208 = some (.inr (0, n219, s219)) ∧ vp_in (z_I σ185 3 b1) n219 ∧ ∀ σ219, σ219 = z_sA σ185 s219 r208 (upd (z_A σ185 s219 r208) (z_I σ185 3 b1).toNatClampNeg (z_I σ185 1 b1)) → X220 σ219)))))) ∧ (¬ r185 = ((41 : Int32)) → z_ty σ185 a0 = some (.inl 3) ∧ kp_Re_fail a0 ((1 : Int32)) σ185 (fun (r195 : Int32) (σ195 : z_S) => (r195 = 0 ∨ r195 = 1) ∧ Post r195 σ195)))) → X184 v4 σ) →
    (∀ (σ : z_S), (z_ty σ a0 = some (.inl 3) ∧ ∃ r221, z_R σ 300 a0 = some r221 ∧ (z_ty σ r221 = some (.inl 2) ∧ ∃ r224, z_R σ 203 r221 = some r224 ∧ (z_ty σ b1 = some (.inl 0) ∧ (∃ n231 s231, z_ty σ r224 = some (.inr (0, n231, s231)) ∧ vp_in (z_I σ 3 b1) n231 ∧ (z_ty σ b1 = some (.inl 0) ∧ ((¬ (z_A σ s231 r224 (z_I σ 3 b1).toNatClampNeg) = (z_I σ 1 b1) → z_ty σ a0 = some (.inl 3) ∧ kp_Re_fail a0 ((2 : Int32)) σ (fun (r250 : Int32) (σ250 : z_S) => (r250 = 0 ∨ r250 = 1) ∧ Post r250 σ250)) ∧ ((z_A σ s231 r224 (z_I σ 3 b1).toNatClampNeg) = (z_I σ 1 b1) → z_ty σ a0 = some (.inl 3) ∧ kp_Re_takes a0 ((41 : Int32)) σ (fun (r242 : Int32) (σ242 : z_S) => (r242 = 0 ∨ r242 = 1) ∧ Post r242 σ242)))))))) → X220 σ) →
    (z_ty σ a0 = some (.inl 3) ∧ kp_Re_sign a0 σ (fun (r1 : Int32) (σ1 : z_S) => kp_Re_isName r1 σ1 (fun (r6 : Int32) (σ6 : z_S) => (¬ r6 = 0 → z_ty σ6 a0 = some (.inl 3) ∧ ∃ r19, z_R σ6 300 a0 = some r19 ∧ (z_ty σ6 r19 = some (.inl 2) ∧ kp_Pr_relationNamed r19 r1 σ6 (fun (r23 : Int32) (σ23 : z_S) => (¬ r23 = ((-1 : Int32)) → X35 r1 ((0 : Int32)) σ23) ∧ (r23 = ((-1 : Int32)) → X35 r1 ((1 : Int32)) σ23)))) ∧ (r6 = 0 → z_ty σ6 a0 = some (.inl 3) ∧ kp_Re_fail a0 ((1 : Int32)) σ6 (fun (r14 : Int32) (σ14 : z_S) => (r14 = 0 ∨ r14 = 1) ∧ Post r14 σ14)))))
set_option maxHeartbeats 4000000 in
set_option maxRecDepth 100000 in
theorem kc_Re_readNamed (l : Launch) (D : va_G) (dA : Nat → ClassId) (Z : Nat) (a0 : Nat) (b1 : Nat) (x2 : Int32) (σ : z_S) (Post : Int32 → z_S → Prop) : Met l km_Re_readNamed ks_Re_readNamed kr_Re_readNamed (va_Pc [.ref a0, .ref b1, .int x2] (fun U => z_U D z_cl z_KT dA Z (z_tys dA) z_nw σ U ∧ kp_Re_readNamed  a0 b1 x2 σ Post)) (z_Qi D z_cl z_KT dA Z (z_tys dA) z_nw Post) 0 0 (fun q => Z ≤ q) := by
  refine Met.ofW (cc := prog_5_method_7_code) (maxL := 8) (ret := (some .boolean)) (by decide) rfl ?_
  intro p e s m args below meth c s₁ B hml hv
  obtain ⟨rfl, ⟨hZ, hG, hK, hN⟩, hw⟩ := hv
  have hx := B.exec
  have hb := B.bytes
  have hr := B.returns
  have hts := atoms_spec (ws := ks_Re_readNamed) B.pre
  have hown : s.vm.findClass kR_Re = some m.cls := findClass_of_methodNamed B.named
  have hlocks := B.notSynchronized
  have hS : va_S (fun q => Z ≤ q) s.heap s.heap [] := va_S.rf
  have hl := lv_entry ([.ref a0, .ref b1, .int x2]) (n := 8) (Nat.le_of_ble_eq_true rfl)
  rw [lg_entry_eq]
  generalize (lg_sl ([.ref a0, .ref b1, .int x2]) ++ List.replicate (8 - (lg_sl ([.ref a0, .ref b1, .int x2])).length) Slot.unset).toArray = ls at hl ⊢
  have hl : lv_has ls 8 [(0, .ref a0), (1, .ref b1), (2, .int x2)] := hl
  unfold kp_Re_readNamed at hw
  have hw := hw (fun (v3 : Int32) (t0 : Int32) (σ : z_S) => ∀ (H : Heap) (locs : List Loc) (ls : Array Slot), z_G D z_cl z_KT dA Z σ H → va_S (fun q => Z ≤ q) s.heap H locs → lv_has ls 8 [(0, .ref a0), (1, .ref b1), (2, .int x2), (3, .int v3)] → W p l e (headSpec ks_Re_readNamed kr_Re_readNamed).room s m ([.ref a0, .ref b1, .int x2] : List Value).toArray below meth c H locs 0 0 (MQ below (z_Qi D z_cl z_KT dA Z (z_tys dA) z_nw Post) ([.ref a0, .ref b1, .int x2] : List Value).toArray s 0 0 (fun q => Z ≤ q)) (F0 m 35 ls [.int t0]))
  have hw := hw (fun (v4 : Int32) (v5 : Int32) (v6 : Int32) (σ : z_S) => ∀ (H : Heap) (locs : List Loc) (ls : Array Slot), z_G D z_cl z_KT dA Z σ H → va_S (fun q => Z ≤ q) s.heap H locs → lv_has ls 8 [(0, .ref a0), (1, .ref b1), (2, .int x2), (4, .int v4), (5, .int v5), (6, .int v6)] → W p l e (headSpec ks_Re_readNamed kr_Re_readNamed).room s m ([.ref a0, .ref b1, .int x2] : List Value).toArray below meth c H locs 0 0 (MQ below (z_Qi D z_cl z_KT dA Z (z_tys dA) z_nw Post) ([.ref a0, .ref b1, .int x2] : List Value).toArray s 0 0 (fun q => Z ≤ q)) (F0 m 89 ls []))
  have hw := hw (fun (v4 : Int32) (v6 : Int32) (t0 : Int32) (σ : z_S) => ∀ (H : Heap) (locs : List Loc) (ls : Array Slot), z_G D z_cl z_KT dA Z σ H → va_S (fun q => Z ≤ q) s.heap H locs → lv_has ls 8 [(0, .ref a0), (1, .ref b1), (2, .int x2), (4, .int v4), (6, .int v6)] → W p l e (headSpec ks_Re_readNamed kr_Re_readNamed).room s m ([.ref a0, .ref b1, .int x2] : List Value).toArray below meth c H locs 0 0 (MQ below (z_Qi D z_cl z_KT dA Z (z_tys dA) z_nw Post) ([.ref a0, .ref b1, .int x2] : List Value).toArray s 0 0 (fun q => Z ≤ q)) (F0 m 136 ls [.int t0]))
  have hw := hw (fun (v4 : Int32) (v6 : Int32) (t0 : Int32) (σ : z_S) => ∀ (H : Heap) (locs : List Loc) (ls : Array Slot), z_G D z_cl z_KT dA Z σ H → va_S (fun q => Z ≤ q) s.heap H locs → lv_has ls 8 [(0, .ref a0), (1, .ref b1), (2, .int x2), (4, .int v4), (6, .int v6)] → W p l e (headSpec ks_Re_readNamed kr_Re_readNamed).room s m ([.ref a0, .ref b1, .int x2] : List Value).toArray below meth c H locs 0 0 (MQ below (z_Qi D z_cl z_KT dA Z (z_tys dA) z_nw Post) ([.ref a0, .ref b1, .int x2] : List Value).toArray s 0 0 (fun q => Z ≤ q)) (F0 m 157 ls [.int t0]))
  have hw := hw (fun (v4 : Int32) (v5 : Int32) (v6 : Int32) (t0 : Nat) (t1 : Int32) (t2 : Int32) (σ : z_S) => ∀ (H : Heap) (locs : List Loc) (ls : Array Slot), z_G D z_cl z_KT dA Z σ H → va_S (fun q => Z ≤ q) s.heap H locs → lv_has ls 8 [(0, .ref a0), (1, .ref b1), (2, .int x2), (4, .int v4), (5, .int v5), (6, .int v6)] → W p l e (headSpec ks_Re_readNamed kr_Re_readNamed).room s m ([.ref a0, .ref b1, .int x2] : List Value).toArray below meth c H locs 0 0 (MQ below (z_Qi D z_cl z_KT dA Z (z_tys dA) z_nw Post) ([.ref a0, .ref b1, .int x2] : List Value).toArray s 0 0 (fun q => Z ≤ q)) (F0 m 174 ls [.int t2, .int t1, .ref t0]))
  have hw := hw (fun (v4 : Int32) (σ : z_S) => ∀ (H : Heap) (locs : List Loc) (ls : Array Slot), z_G D z_cl z_KT dA Z σ H → va_S (fun q => Z ≤ q) s.heap H locs → lv_has ls 8 [(0, .ref a0), (1, .ref b1), (4, .int v4)] → W p l e (headSpec ks_Re_readNamed kr_Re_readNamed).room s m ([.ref a0, .ref b1, .int x2] : List Value).toArray below meth c H locs 0 0 (MQ below (z_Qi D z_cl z_KT dA Z (z_tys dA) z_nw Post) ([.ref a0, .ref b1, .int x2] : List Value).toArray s 0 0 (fun q => Z ≤ q)) (F0 m 184 ls []))
  have hw := hw (fun (σ : z_S) => ∀ (H : Heap) (locs : List Loc) (ls : Array Slot), z_G D z_cl z_KT dA Z σ H → va_S (fun q => Z ≤ q) s.heap H locs → lv_has ls 8 [(0, .ref a0), (1, .ref b1)] → W p l e (headSpec ks_Re_readNamed kr_Re_readNamed).room s m ([.ref a0, .ref b1, .int x2] : List Value).toArray below meth c H locs 0 0 (MQ below (z_Qi D z_cl z_KT dA Z (z_tys dA) z_nw Post) ([.ref a0, .ref b1, .int x2] : List Value).toArray s 0 0 (fun q => Z ≤ q)) (F0 m 220 ls []))
  have hw := hw (by
    intro v3 t0 σ hw H locs ls hG hS hl
    refine lv_istore (lv' := [(4, .int t0), (0, .ref a0), (1, .ref b1), (2, .int x2), (3, .int v3)]) hx hb kb_Re_readNamed_35 hl (by decide) rfl (fun ls hl => ?_)
    refine lv_aload_n hx hb kb_Re_readNamed_37 rfl (lv_at hl 2 rfl) ?_
    refine lv_aload_n hx hb kb_Re_readNamed_38 rfl (lv_at hl 1 rfl) ?_
    obtain ⟨hy, r39, hrf, hw⟩ := hw
    refine zr_getR (ci := 3) (f := 300) hx hb hts ki_Re hown hK hG hy rfl 0 (by decide) (hts _ (List.mem_cons_of_mem _ kw_240)) (fun _ h => h) rfl rfl hrf kb_Re_readNamed_39 ?_
    refine lv_iload_n hx hb kb_Re_readNamed_42 rfl (lv_at hl 4 rfl) ?_
    obtain ⟨hy, hw⟩ := hw
    refine zr_ci (va_runV (C := kR_Pr) (As := [.int v3]) (rest := [.ref b1]) ⟨hx, hb, hml, hown, hts⟩ (kc_Pr_relationMade l D dA Z r39 v3 σ _) ⟨callB_of 1 hts (z_gw kw_283) rfl rfl rfl (hts _ (List.mem_cons_of_mem _ kw_2)) (hts _ (List.mem_cons_of_mem _ kw_280)) (by decide +kernel) ⟨Nat.le_of_ble_eq_true rfl, Nat.le_of_ble_eq_true rfl⟩, (hts _ (List.mem_cons_of_mem _ kw_281)), (hts _ (List.mem_cons_of_mem _ kw_282))⟩ (z_preV z_nwN (Nat.le_trans hZ hS.1) hG hK hN hy (ci := 2) (r := (kR_Pr, kT_Pr, 11)) rfl hw) rfl rfl hl.1 rfl (lv_room (Nat.le_of_ble_eq_true rfl)) kb_Re_readNamed_43 ⟨Nat.le_of_ble_eq_true rfl, Nat.le_of_ble_eq_true rfl⟩) hS (fun r43 σ43 H locs hw hG hS => ?_)
    obtain ⟨hy, hw⟩ := hw
    refine zr_putI (ci := 0) (f := 3) hx hb hts ki_At ky_At kyo_At kn_At hown hK hG hS hy rfl 3 (by decide) (hts _ (List.mem_cons_of_mem _ kw_114)) (fun _ h => h) rfl rfl rfl rfl rfl kb_Re_readNamed_46 (fun H locs hG hS => ?_)
    obtain ⟨σ46, e46⟩ : ∃ z, z = z_sI σ43 3 b1 r43 := ⟨_, rfl⟩
    rw [← e46] at hG
    have hw := hw _ e46
    refine lv_aload_n hx hb kb_Re_readNamed_49 rfl (lv_at hl 2 rfl) ?_
    obtain ⟨hy, hw⟩ := hw
    refine zr_getI (ci := 0) (f := 3) hx hb hts ki_At hown hK hG hy rfl 3 (by decide) (hts _ (List.mem_cons_of_mem _ kw_114)) (fun _ h => h) rfl rfl kb_Re_readNamed_50 ?_
    refine lv_if_ge (tgt := 62) hx hb kb_Re_readNamed_53 (by decide) (fun hc => ?_) (fun hc => ?_)
    · have hw := hw.1 hc
      refine lv_aload_n hx hb kb_Re_readNamed_62 rfl (lv_at hl 1 rfl) ?_
      refine lv_dup hx hb kb_Re_readNamed_63 rfl ?_
      obtain ⟨hy, hw⟩ := hw
      refine zr_getI (ci := 3) (f := 305) hx hb hts ki_Re hown hK hG hy rfl 5 (by decide) (hts _ (List.mem_cons_of_mem _ kw_248)) (fun _ h => h) rfl rfl kb_Re_readNamed_64 ?_
      refine lv_iconst (v := (1 : Int32)) hx hb kb_Re_readNamed_67 (by decide) ?_
      refine lv_iadd hx hb kb_Re_readNamed_68 ?_
      obtain ⟨hy, hw⟩ := hw
      refine zr_putI (ci := 3) (f := 305) hx hb hts ki_Re ky_Re kyo_Re kn_Re hown hK hG hS hy rfl 5 (by decide) (hts _ (List.mem_cons_of_mem _ kw_248)) (fun _ h => h) rfl rfl rfl rfl rfl kb_Re_readNamed_69 (fun H locs hG hS => ?_)
      obtain ⟨σ69, e69⟩ : ∃ z, z = z_sI σ46 305 a0 ((z_I σ46 305 a0) + ((1 : Int32))) := ⟨_, rfl⟩
      rw [← e69] at hG
      have hw := hw _ e69
      refine lv_aload_n hx hb kb_Re_readNamed_72 rfl (lv_at hl 1 rfl) ?_
      refine lv_bipush (v := (40 : Int32)) hx hb kb_Re_readNamed_73 (by decide) ?_
      obtain ⟨hy, hw⟩ := hw
      refine zr_ci (va_runV (C := kR_Re) (As := [.int ((40 : Int32))]) (rest := []) ⟨hx, hb, hml, hown, hts⟩ (kc_Re_takes l D dA Z a0 ((40 : Int32)) σ69 _) ⟨callB_of 1 hts (z_gw kw_287) rfl rfl rfl (hts _ (List.mem_cons_of_mem _ kw_10)) (hts _ (List.mem_cons_of_mem _ kw_285)) (by decide +kernel) ⟨Nat.le_of_ble_eq_true rfl, Nat.le_of_ble_eq_true rfl⟩, (hts _ (List.mem_cons_of_mem _ kw_286)), (hts _ (List.mem_cons_of_mem _ kw_913))⟩ (z_preV z_nwN (Nat.le_trans hZ hS.1) hG hK hN hy (ci := 3) (r := (kR_Re, kT_Re, 7)) rfl hw) rfl rfl hl.1 rfl (lv_room (Nat.le_of_ble_eq_true rfl)) kb_Re_readNamed_75 ⟨Nat.le_of_ble_eq_true rfl, Nat.le_of_ble_eq_true rfl⟩) hS (fun r75 σ75 H locs hw hG hS => ?_)
      refine lv_if_ne (tgt := 83) hx hb kb_Re_readNamed_78 (by decide) (fun hc => ?_) (fun hc => ?_)
      · have hw := hw.1 hc
        refine lv_iconst (v := (1 : Int32)) hx hb kb_Re_readNamed_83 (by decide) ?_
        refine lv_istore (lv' := [(5, .int ((1 : Int32))), (4, .int t0), (0, .ref a0), (1, .ref b1), (2, .int x2), (3, .int v3)]) hx hb kb_Re_readNamed_84 hl (by decide) rfl (fun ls hl => ?_)
        refine lv_iconst (v := (0 : Int32)) hx hb kb_Re_readNamed_86 (by decide) ?_
        refine lv_istore (lv' := [(6, .int ((0 : Int32))), (5, .int ((1 : Int32))), (4, .int t0), (0, .ref a0), (1, .ref b1), (2, .int x2), (3, .int v3)]) hx hb kb_Re_readNamed_87 hl (by decide) rfl (fun ls hl => ?_)
        exact hw _ _ _ hG hS (lv_sub hl [3, 4, 5, 2, 1, 0] rfl)
      · have hw := hw.2 hc
        refine lv_iconst (v := (0 : Int32)) hx hb kb_Re_readNamed_81 (by decide) ?_
        exact zr_iret (free := fun q => Z ≤ q) z_nwN hx hb hr rfl hZ hK hN hG hS hw kb_Re_readNamed_82 hlocks
    · have hw := hw.2 hc
      refine lv_aload_n hx hb kb_Re_readNamed_56 rfl (lv_at hl 1 rfl) ?_
      refine lv_iconst (v := (3 : Int32)) hx hb kb_Re_readNamed_57 (by decide) ?_
      obtain ⟨hy, hw⟩ := hw
      refine zr_ci (va_runV (C := kR_Re) (As := [.int ((3 : Int32))]) (rest := []) ⟨hx, hb, hml, hown, hts⟩ (kc_Re_fail l D dA Z a0 ((3 : Int32)) σ46 _) ⟨callB_of 1 hts (z_gw kw_272) rfl rfl rfl (hts _ (List.mem_cons_of_mem _ kw_10)) (hts _ (List.mem_cons_of_mem _ kw_270)) (by decide +kernel) ⟨Nat.le_of_ble_eq_true rfl, Nat.le_of_ble_eq_true rfl⟩, (hts _ (List.mem_cons_of_mem _ kw_271)), (hts _ (List.mem_cons_of_mem _ kw_911))⟩ (z_preV z_nwN (Nat.le_trans hZ hS.1) hG hK hN hy (ci := 3) (r := (kR_Re, kT_Re, 7)) rfl hw) rfl rfl hl.1 rfl (lv_room (Nat.le_of_ble_eq_true rfl)) kb_Re_readNamed_58 ⟨Nat.le_of_ble_eq_true rfl, Nat.le_of_ble_eq_true rfl⟩) hS (fun r58 σ58 H locs hw hG hS => ?_)
      exact zr_iret (free := fun q => Z ≤ q) z_nwN hx hb hr (z_bool hw.1) hZ hK hN hG hS hw.2 kb_Re_readNamed_61 hlocks)
  have hw := hw (by
    intro v4 v5 v6 σ hw H locs ls hG hS hl
    refine lv_iload hx hb kb_Re_readNamed_89 (lv_at hl 5 rfl) ?_
    refine lv_iconst (v := (3 : Int32)) hx hb kb_Re_readNamed_91 (by decide) ?_
    refine lv_icmp_ge (tgt := 184) hx hb kb_Re_readNamed_92 (by decide) (fun hc => ?_) (fun hc => ?_)
    · have hw := hw.1 hc
      exact hw _ _ _ hG hS (lv_sub hl [0, 1, 3] rfl)
    · have hw := hw.2 hc
      refine lv_iload hx hb kb_Re_readNamed_95 (lv_at hl 4 rfl) ?_
      refine lv_if_eq (tgt := 184) hx hb kb_Re_readNamed_97 (by decide) (fun hc => ?_) (fun hc => ?_)
      · have hw := hw.1 hc
        exact hw _ _ _ hG hS (lv_sub hl [0, 1, 3] rfl)
      · have hw := hw.2 hc
        refine lv_aload_n hx hb kb_Re_readNamed_100 rfl (lv_at hl 0 rfl) ?_
        refine lv_aload_n hx hb kb_Re_readNamed_101 rfl (lv_at hl 1 rfl) ?_
        refine lv_iload_n hx hb kb_Re_readNamed_102 rfl (lv_at hl 2 rfl) ?_
        obtain ⟨hy, hw⟩ := hw
        refine zr_ci (va_runV (C := kR_Re) (As := [.ref b1, .int x2]) (rest := []) ⟨hx, hb, hml, hown, hts⟩ (kc_Re_readTerm l D dA Z a0 b1 x2 σ _) ⟨callB_of 2 hts (z_gw kw_290) rfl rfl rfl (hts _ (List.mem_cons_of_mem _ kw_10)) (hts _ (List.mem_cons_of_mem _ kw_288)) (by decide +kernel) ⟨Nat.le_of_ble_eq_true rfl, Nat.le_of_ble_eq_true rfl⟩, (hts _ (List.mem_cons_of_mem _ kw_289)), (hts _ (List.mem_cons_of_mem _ kw_914))⟩ (z_preV z_nwN (Nat.le_trans hZ hS.1) hG hK hN hy (ci := 3) (r := (kR_Re, kT_Re, 7)) rfl hw) rfl rfl hl.1 rfl (lv_room (Nat.le_of_ble_eq_true rfl)) kb_Re_readNamed_103 ⟨Nat.le_of_ble_eq_true rfl, Nat.le_of_ble_eq_true rfl⟩) hS (fun r103 σ103 H locs hw hG hS => ?_)
        refine lv_if_ne (tgt := 111) hx hb kb_Re_readNamed_106 (by decide) (fun hc => ?_) (fun hc => ?_)
        · have hw := hw.1 hc
          refine lv_iload hx hb kb_Re_readNamed_111 (lv_at hl 5 rfl) ?_
          refine lv_iconst (v := (2 : Int32)) hx hb kb_Re_readNamed_113 (by decide) ?_
          refine lv_icmp_eq (tgt := 131) hx hb kb_Re_readNamed_114 (by decide) (fun hc => ?_) (fun hc => ?_)
          · have hw := hw.1 hc
            refine lv_iconst (v := (1 : Int32)) hx hb kb_Re_readNamed_131 (by decide) ?_
            refine lv_goto (tgt := 136) hx hb kb_Re_readNamed_132 (by decide) ?_
            exact hw _ _ _ hG hS (lv_sub hl [0, 1, 2, 3, 5] rfl)
          · have hw := hw.2 hc
            refine lv_iload_n hx hb kb_Re_readNamed_117 rfl (lv_at hl 2 rfl) ?_
            refine lv_if_eq (tgt := 135) hx hb kb_Re_readNamed_118 (by decide) (fun hc => ?_) (fun hc => ?_)
            · have hw := hw.1 hc
              refine lv_iconst (v := (0 : Int32)) hx hb kb_Re_readNamed_135 (by decide) ?_
              exact hw _ _ _ hG hS (lv_sub hl [0, 1, 2, 3, 5] rfl)
            · have hw := hw.2 hc
              refine lv_aload_n hx hb kb_Re_readNamed_121 rfl (lv_at hl 0 rfl) ?_
              obtain ⟨hy, r122, hrf, hw⟩ := hw
              refine zr_getR (ci := 3) (f := 306) hx hb hts ki_Re hown hK hG hy rfl 6 (by decide) (hts _ (List.mem_cons_of_mem _ kw_249)) (fun _ h => h) rfl rfl hrf kb_Re_readNamed_122 ?_
              obtain ⟨hy, hw⟩ := hw
              refine zr_getI (ci := 5) (f := 504) hx hb hts ki_Ru hown hK hG hy rfl 4 (by decide) (hts _ (List.mem_cons_of_mem _ kw_141)) (fun _ h => h) rfl rfl kb_Re_readNamed_125 ?_
              refine lv_if_eq (tgt := 135) hx hb kb_Re_readNamed_128 (by decide) (fun hc => ?_) (fun hc => ?_)
              · have hw := hw.1 hc
                refine lv_iconst (v := (0 : Int32)) hx hb kb_Re_readNamed_135 (by decide) ?_
                exact hw _ _ _ hG hS (lv_sub hl [0, 1, 2, 3, 5] rfl)
              · have hw := hw.2 hc
                refine lv_iconst (v := (1 : Int32)) hx hb kb_Re_readNamed_131 (by decide) ?_
                refine lv_goto (tgt := 136) hx hb kb_Re_readNamed_132 (by decide) ?_
                exact hw _ _ _ hG hS (lv_sub hl [0, 1, 2, 3, 5] rfl)
        · have hw := hw.2 hc
          refine lv_iconst (v := (0 : Int32)) hx hb kb_Re_readNamed_109 (by decide) ?_
          exact zr_iret (free := fun q => Z ≤ q) z_nwN hx hb hr rfl hZ hK hN hG hS hw kb_Re_readNamed_110 hlocks)
  have hw := hw (by
    intro v4 v6 t0 σ hw H locs ls hG hS hl
    refine lv_istore (lv' := [(7, .int t0), (0, .ref a0), (1, .ref b1), (2, .int x2), (4, .int v4), (6, .int v6)]) hx hb kb_Re_readNamed_136 hl (by decide) rfl (fun ls hl => ?_)
    refine lv_iload hx hb kb_Re_readNamed_138 (lv_at hl 0 rfl) ?_
    refine lv_if_ne (tgt := 156) hx hb kb_Re_readNamed_140 (by decide) (fun hc => ?_) (fun hc => ?_)
    · have hw := hw.1 hc
      refine lv_iconst (v := (0 : Int32)) hx hb kb_Re_readNamed_156 (by decide) ?_
      exact hw _ _ _ hG hS (lv_sub hl [1, 2, 3, 4, 5] rfl)
    · have hw := hw.2 hc
      refine lv_aload_n hx hb kb_Re_readNamed_143 rfl (lv_at hl 1 rfl) ?_
      obtain ⟨hy, hw⟩ := hw
      refine zr_ci (va_runV (C := kR_Re) (As := []) (rest := []) ⟨hx, hb, hml, hown, hts⟩ (kc_Re_sign l D dA Z a0 σ _) ⟨callB_of 0 hts (z_gw kw_263) rfl rfl rfl (hts _ (List.mem_cons_of_mem _ kw_10)) (hts _ (List.mem_cons_of_mem _ kw_261)) (by decide +kernel) ⟨Nat.le_of_ble_eq_true rfl, Nat.le_of_ble_eq_true rfl⟩, (hts _ (List.mem_cons_of_mem _ kw_262)), (hts _ (List.mem_cons_of_mem _ kw_909))⟩ (z_preV z_nwN (Nat.le_trans hZ hS.1) hG hK hN hy (ci := 3) (r := (kR_Re, kT_Re, 7)) rfl hw) rfl rfl hl.1 rfl (lv_room (Nat.le_of_ble_eq_true rfl)) kb_Re_readNamed_144 ⟨Nat.le_of_ble_eq_true rfl, Nat.le_of_ble_eq_true rfl⟩) hS (fun r144 σ144 H locs hw hG hS => ?_)
      refine lv_bipush (v := (44 : Int32)) hx hb kb_Re_readNamed_147 (by decide) ?_
      refine lv_icmp_ne (tgt := 156) hx hb kb_Re_readNamed_149 (by decide) (fun hc => ?_) (fun hc => ?_)
      · have hw := hw.1 hc
        refine lv_iconst (v := (0 : Int32)) hx hb kb_Re_readNamed_156 (by decide) ?_
        exact hw _ _ _ hG hS (lv_sub hl [1, 2, 3, 4, 5] rfl)
      · have hw := hw.2 hc
        refine lv_iconst (v := (1 : Int32)) hx hb kb_Re_readNamed_152 (by decide) ?_
        refine lv_goto (tgt := 157) hx hb kb_Re_readNamed_153 (by decide) ?_
        exact hw _ _ _ hG hS (lv_sub hl [1, 2, 3, 4, 5] rfl))
  have hw := hw (by
    intro v4 v6 t0 σ hw H locs ls hG hS hl
    refine lv_istore (lv' := [(5, .int t0), (0, .ref a0), (1, .ref b1), (2, .int x2), (4, .int v4), (6, .int v6)]) hx hb kb_Re_readNamed_157 hl (by decide) rfl (fun ls hl => ?_)
    refine lv_aload_n hx hb kb_Re_readNamed_159 rfl (lv_at hl 1 rfl) ?_
    refine lv_dup hx hb kb_Re_readNamed_160 rfl ?_
    obtain ⟨hy, hw⟩ := hw
    refine zr_getI (ci := 3) (f := 305) hx hb hts ki_Re hown hK hG hy rfl 5 (by decide) (hts _ (List.mem_cons_of_mem _ kw_248)) (fun _ h => h) rfl rfl kb_Re_readNamed_161 ?_
    refine lv_iload hx hb kb_Re_readNamed_164 (lv_at hl 0 rfl) ?_
    refine lv_if_eq (tgt := 173) hx hb kb_Re_readNamed_166 (by decide) (fun hc => ?_) (fun hc => ?_)
    · have hw := hw.1 hc
      refine lv_iconst (v := (0 : Int32)) hx hb kb_Re_readNamed_173 (by decide) ?_
      exact hw _ _ _ hG hS (lv_sub hl [1, 2, 3, 4, 0, 5] rfl)
    · have hw := hw.2 hc
      refine lv_iconst (v := (1 : Int32)) hx hb kb_Re_readNamed_169 (by decide) ?_
      refine lv_goto (tgt := 174) hx hb kb_Re_readNamed_170 (by decide) ?_
      exact hw _ _ _ hG hS (lv_sub hl [1, 2, 3, 4, 0, 5] rfl))
  have hw := hw (by
    intro v4 v5 v6 t0 t1 t2 σ hw H locs ls hG hS hl
    refine lv_iadd hx hb kb_Re_readNamed_174 ?_
    obtain ⟨hy, hw⟩ := hw
    refine zr_putI (ci := 3) (f := 305) hx hb hts ki_Re ky_Re kyo_Re kn_Re hown hK hG hS hy rfl 5 (by decide) (hts _ (List.mem_cons_of_mem _ kw_248)) (fun _ h => h) rfl rfl rfl rfl rfl kb_Re_readNamed_175 (fun H locs hG hS => ?_)
    obtain ⟨σ175, e175⟩ : ∃ z, z = z_sI σ 305 t0 (t1 + t2) := ⟨_, rfl⟩
    rw [← e175] at hG
    have hw := hw _ e175
    refine lv_iinc (v := v6 + (1 : Int32)) (lv' := [(6, .int (v6 + (1 : Int32))), (0, .ref a0), (1, .ref b1), (2, .int x2), (4, .int v4), (5, .int v5)]) hx hb kb_Re_readNamed_178 hl (k := 5) rfl rfl (by decide) rfl (fun ls hl => ?_)
    refine lv_goto (tgt := 89) hx hb kb_Re_readNamed_181 (by decide) ?_
    exact hw _ _ _ hG hS (lv_sub hl [1, 2, 3, 4, 5, 0] rfl))
  have hw := hw (by
    intro v4 σ hw H locs ls hG hS hl
    refine lv_aload_n hx hb kb_Re_readNamed_184 rfl (lv_at hl 0 rfl) ?_
    obtain ⟨hy, hw⟩ := hw
    refine zr_ci (va_runV (C := kR_Re) (As := []) (rest := []) ⟨hx, hb, hml, hown, hts⟩ (kc_Re_sign l D dA Z a0 σ _) ⟨callB_of 0 hts (z_gw kw_263) rfl rfl rfl (hts _ (List.mem_cons_of_mem _ kw_10)) (hts _ (List.mem_cons_of_mem _ kw_261)) (by decide +kernel) ⟨Nat.le_of_ble_eq_true rfl, Nat.le_of_ble_eq_true rfl⟩, (hts _ (List.mem_cons_of_mem _ kw_262)), (hts _ (List.mem_cons_of_mem _ kw_909))⟩ (z_preV z_nwN (Nat.le_trans hZ hS.1) hG hK hN hy (ci := 3) (r := (kR_Re, kT_Re, 7)) rfl hw) rfl rfl hl.1 rfl (lv_room (Nat.le_of_ble_eq_true rfl)) kb_Re_readNamed_185 ⟨Nat.le_of_ble_eq_true rfl, Nat.le_of_ble_eq_true rfl⟩) hS (fun r185 σ185 H locs hw hG hS => ?_)
    refine lv_bipush (v := (41 : Int32)) hx hb kb_Re_readNamed_188 (by decide) ?_
    refine lv_icmp_eq (tgt := 199) hx hb kb_Re_readNamed_190 (by decide) (fun hc => ?_) (fun hc => ?_)
    · have hw := hw.1 hc
      refine lv_iload hx hb kb_Re_readNamed_199 (lv_at hl 2 rfl) ?_
      refine lv_if_eq (tgt := 220) hx hb kb_Re_readNamed_201 (by decide) (fun hc => ?_) (fun hc => ?_)
      · have hw := hw.1 hc
        exact hw _ _ _ hG hS (lv_sub hl [0, 1] rfl)
      · have hw := hw.2 hc
        refine lv_aload_n hx hb kb_Re_readNamed_204 rfl (lv_at hl 0 rfl) ?_
        obtain ⟨hy, r205, hrf, hw⟩ := hw
        refine zr_getR (ci := 3) (f := 300) hx hb hts ki_Re hown hK hG hy rfl 0 (by decide) (hts _ (List.mem_cons_of_mem _ kw_240)) (fun _ h => h) rfl rfl hrf kb_Re_readNamed_205 ?_
        obtain ⟨hy, r208, hrf, hw⟩ := hw
        refine zr_getR (ci := 2) (f := 203) hx hb hts ki_Pr hown hK hG hy rfl 3 (by decide) (hts _ (List.mem_cons_of_mem _ kw_36)) (fun _ h => h) rfl rfl hrf kb_Re_readNamed_208 ?_
        refine lv_aload_n hx hb kb_Re_readNamed_211 rfl (lv_at hl 1 rfl) ?_
        obtain ⟨hy, hw⟩ := hw
        refine zr_getI (ci := 0) (f := 3) hx hb hts ki_At hown hK hG hy rfl 3 (by decide) (hts _ (List.mem_cons_of_mem _ kw_114)) (fun _ h => h) rfl rfl kb_Re_readNamed_212 ?_
        refine lv_aload_n hx hb kb_Re_readNamed_215 rfl (lv_at hl 1 rfl) ?_
        obtain ⟨hy, hw⟩ := hw
        refine zr_getI (ci := 0) (f := 1) hx hb hts ki_At hown hK hG hy rfl 1 (by decide) (hts _ (List.mem_cons_of_mem _ kw_106)) (fun _ h => h) rfl rfl kb_Re_readNamed_216 ?_
        obtain ⟨n219, s219, hy, hi, hw⟩ := hw
        refine zr_iast hx hb hK hG hS 0 hy rfl hi kb_Re_readNamed_219 (fun H locs hG hS => ?_)
        obtain ⟨σ219, e219⟩ : ∃ z, z = z_sA σ185 s219 r208 (upd (z_A σ185 s219 r208) (z_I σ185 3 b1).toNatClampNeg (z_I σ185 1 b1)) := ⟨_, rfl⟩
        rw [← e219] at hG
        have hw := hw _ e219
        exact hw _ _ _ hG hS (lv_sub hl [0, 1] rfl)
    · have hw := hw.2 hc
      refine lv_aload_n hx hb kb_Re_readNamed_193 rfl (lv_at hl 0 rfl) ?_
      refine lv_iconst (v := (1 : Int32)) hx hb kb_Re_readNamed_194 (by decide) ?_
      obtain ⟨hy, hw⟩ := hw
      refine zr_ci (va_runV (C := kR_Re) (As := [.int ((1 : Int32))]) (rest := []) ⟨hx, hb, hml, hown, hts⟩ (kc_Re_fail l D dA Z a0 ((1 : Int32)) σ185 _) ⟨callB_of 1 hts (z_gw kw_272) rfl rfl rfl (hts _ (List.mem_cons_of_mem _ kw_10)) (hts _ (List.mem_cons_of_mem _ kw_270)) (by decide +kernel) ⟨Nat.le_of_ble_eq_true rfl, Nat.le_of_ble_eq_true rfl⟩, (hts _ (List.mem_cons_of_mem _ kw_271)), (hts _ (List.mem_cons_of_mem _ kw_911))⟩ (z_preV z_nwN (Nat.le_trans hZ hS.1) hG hK hN hy (ci := 3) (r := (kR_Re, kT_Re, 7)) rfl hw) rfl rfl hl.1 rfl (lv_room (Nat.le_of_ble_eq_true rfl)) kb_Re_readNamed_195 ⟨Nat.le_of_ble_eq_true rfl, Nat.le_of_ble_eq_true rfl⟩) hS (fun r195 σ195 H locs hw hG hS => ?_)
      exact zr_iret (free := fun q => Z ≤ q) z_nwN hx hb hr (z_bool hw.1) hZ hK hN hG hS hw.2 kb_Re_readNamed_198 hlocks)
  have hw := hw (by
    intro σ hw H locs ls hG hS hl
    refine lv_aload_n hx hb kb_Re_readNamed_220 rfl (lv_at hl 0 rfl) ?_
    obtain ⟨hy, r221, hrf, hw⟩ := hw
    refine zr_getR (ci := 3) (f := 300) hx hb hts ki_Re hown hK hG hy rfl 0 (by decide) (hts _ (List.mem_cons_of_mem _ kw_240)) (fun _ h => h) rfl rfl hrf kb_Re_readNamed_221 ?_
    obtain ⟨hy, r224, hrf, hw⟩ := hw
    refine zr_getR (ci := 2) (f := 203) hx hb hts ki_Pr hown hK hG hy rfl 3 (by decide) (hts _ (List.mem_cons_of_mem _ kw_36)) (fun _ h => h) rfl rfl hrf kb_Re_readNamed_224 ?_
    refine lv_aload_n hx hb kb_Re_readNamed_227 rfl (lv_at hl 1 rfl) ?_
    obtain ⟨hy, hw⟩ := hw
    refine zr_getI (ci := 0) (f := 3) hx hb hts ki_At hown hK hG hy rfl 3 (by decide) (hts _ (List.mem_cons_of_mem _ kw_114)) (fun _ h => h) rfl rfl kb_Re_readNamed_228 ?_
    obtain ⟨n231, s231, hy, hi, hw⟩ := hw
    refine zr_iald hx hb hK hG 0 hy rfl hi kb_Re_readNamed_231 ?_
    refine lv_aload_n hx hb kb_Re_readNamed_232 rfl (lv_at hl 1 rfl) ?_
    obtain ⟨hy, hw⟩ := hw
    refine zr_getI (ci := 0) (f := 1) hx hb hts ki_At hown hK hG hy rfl 1 (by decide) (hts _ (List.mem_cons_of_mem _ kw_106)) (fun _ h => h) rfl rfl kb_Re_readNamed_233 ?_
    refine lv_icmp_ne (tgt := 248) hx hb kb_Re_readNamed_236 (by decide) (fun hc => ?_) (fun hc => ?_)
    · have hw := hw.1 hc
      refine lv_aload_n hx hb kb_Re_readNamed_248 rfl (lv_at hl 0 rfl) ?_
      refine lv_iconst (v := (2 : Int32)) hx hb kb_Re_readNamed_249 (by decide) ?_
      obtain ⟨hy, hw⟩ := hw
      refine zr_ci (va_runV (C := kR_Re) (As := [.int ((2 : Int32))]) (rest := []) ⟨hx, hb, hml, hown, hts⟩ (kc_Re_fail l D dA Z a0 ((2 : Int32)) σ _) ⟨callB_of 1 hts (z_gw kw_272) rfl rfl rfl (hts _ (List.mem_cons_of_mem _ kw_10)) (hts _ (List.mem_cons_of_mem _ kw_270)) (by decide +kernel) ⟨Nat.le_of_ble_eq_true rfl, Nat.le_of_ble_eq_true rfl⟩, (hts _ (List.mem_cons_of_mem _ kw_271)), (hts _ (List.mem_cons_of_mem _ kw_911))⟩ (z_preV z_nwN (Nat.le_trans hZ hS.1) hG hK hN hy (ci := 3) (r := (kR_Re, kT_Re, 7)) rfl hw) rfl rfl hl.1 rfl (lv_room (Nat.le_of_ble_eq_true rfl)) kb_Re_readNamed_250 ⟨Nat.le_of_ble_eq_true rfl, Nat.le_of_ble_eq_true rfl⟩) hS (fun r250 σ250 H locs hw hG hS => ?_)
      exact zr_iret (free := fun q => Z ≤ q) z_nwN hx hb hr (z_bool hw.1) hZ hK hN hG hS hw.2 kb_Re_readNamed_253 hlocks
    · have hw := hw.2 hc
      refine lv_aload_n hx hb kb_Re_readNamed_239 rfl (lv_at hl 0 rfl) ?_
      refine lv_bipush (v := (41 : Int32)) hx hb kb_Re_readNamed_240 (by decide) ?_
      obtain ⟨hy, hw⟩ := hw
      refine zr_ci (va_runV (C := kR_Re) (As := [.int ((41 : Int32))]) (rest := []) ⟨hx, hb, hml, hown, hts⟩ (kc_Re_takes l D dA Z a0 ((41 : Int32)) σ _) ⟨callB_of 1 hts (z_gw kw_287) rfl rfl rfl (hts _ (List.mem_cons_of_mem _ kw_10)) (hts _ (List.mem_cons_of_mem _ kw_285)) (by decide +kernel) ⟨Nat.le_of_ble_eq_true rfl, Nat.le_of_ble_eq_true rfl⟩, (hts _ (List.mem_cons_of_mem _ kw_286)), (hts _ (List.mem_cons_of_mem _ kw_913))⟩ (z_preV z_nwN (Nat.le_trans hZ hS.1) hG hK hN hy (ci := 3) (r := (kR_Re, kT_Re, 7)) rfl hw) rfl rfl hl.1 rfl (lv_room (Nat.le_of_ble_eq_true rfl)) kb_Re_readNamed_242 ⟨Nat.le_of_ble_eq_true rfl, Nat.le_of_ble_eq_true rfl⟩) hS (fun r242 σ242 H locs hw hG hS => ?_)
      refine lv_goto (tgt := 253) hx hb kb_Re_readNamed_245 (by decide) ?_
      exact zr_iret (free := fun q => Z ≤ q) z_nwN hx hb hr (z_bool hw.1) hZ hK hN hG hS hw.2 kb_Re_readNamed_253 hlocks)
  refine lv_aload_n hx hb kb_Re_readNamed_0 rfl (lv_at hl 0 rfl) ?_
  obtain ⟨hy, hw⟩ := hw
  refine zr_ci (va_runV (C := kR_Re) (As := []) (rest := []) ⟨hx, hb, hml, hown, hts⟩ (kc_Re_sign l D dA Z a0 σ _) ⟨callB_of 0 hts (z_gw kw_263) rfl rfl rfl (hts _ (List.mem_cons_of_mem _ kw_10)) (hts _ (List.mem_cons_of_mem _ kw_261)) (by decide +kernel) ⟨Nat.le_of_ble_eq_true rfl, Nat.le_of_ble_eq_true rfl⟩, (hts _ (List.mem_cons_of_mem _ kw_262)), (hts _ (List.mem_cons_of_mem _ kw_909))⟩ (z_preV z_nwN (Nat.le_trans hZ hS.1) hG hK hN hy (ci := 3) (r := (kR_Re, kT_Re, 7)) rfl hw) rfl rfl hl.1 rfl (lv_room (Nat.le_of_ble_eq_true rfl)) kb_Re_readNamed_1 ⟨Nat.le_of_ble_eq_true rfl, Nat.le_of_ble_eq_true rfl⟩) hS (fun r1 σ1 H locs hw hG hS => ?_)
  refine lv_istore_n (lv' := [(3, .int r1), (0, .ref a0), (1, .ref b1), (2, .int x2)]) hx hb kb_Re_readNamed_4 rfl hl (by decide) rfl (fun ls hl => ?_)
  refine lv_iload_n hx hb kb_Re_readNamed_5 rfl (lv_at hl 0 rfl) ?_
  refine zr_ci (va_runS (As := [.int r1]) (rest := []) ⟨hx, hb, hml, hown, hts⟩ (kc_Re_isName l D dA Z r1 σ1 _) ⟨callB_of 1 hts (z_gw kw_269) rfl rfl rfl (hts _ (List.mem_cons_of_mem _ kw_10)) (hts _ (List.mem_cons_of_mem _ kw_267)) (by decide +kernel) ⟨Nat.le_of_ble_eq_true rfl, Nat.le_of_ble_eq_true rfl⟩, (hts _ (List.mem_cons_of_mem _ kw_268))⟩ (z_preS z_nwN (Nat.le_trans hZ hS.1) hG hK hN hw) rfl rfl hl.1 rfl (lv_room (Nat.le_of_ble_eq_true rfl)) kb_Re_readNamed_6 ⟨Nat.le_of_ble_eq_true rfl, Nat.le_of_ble_eq_true rfl⟩) hS (fun r6 σ6 H locs hw hG hS => ?_)
  refine lv_if_ne (tgt := 18) hx hb kb_Re_readNamed_9 (by decide) (fun hc => ?_) (fun hc => ?_)
  · have hw := hw.1 hc
    refine lv_aload_n hx hb kb_Re_readNamed_18 rfl (lv_at hl 1 rfl) ?_
    obtain ⟨hy, r19, hrf, hw⟩ := hw
    refine zr_getR (ci := 3) (f := 300) hx hb hts ki_Re hown hK hG hy rfl 0 (by decide) (hts _ (List.mem_cons_of_mem _ kw_240)) (fun _ h => h) rfl rfl hrf kb_Re_readNamed_19 ?_
    refine lv_iload_n hx hb kb_Re_readNamed_22 rfl (lv_at hl 0 rfl) ?_
    obtain ⟨hy, hw⟩ := hw
    refine zr_ci (va_runV (C := kR_Pr) (As := [.int r1]) (rest := []) ⟨hx, hb, hml, hown, hts⟩ (kc_Pr_relationNamed l D dA Z r19 r1 σ6 _) ⟨callB_of 1 hts (z_gw kw_279) rfl rfl rfl (hts _ (List.mem_cons_of_mem _ kw_2)) (hts _ (List.mem_cons_of_mem _ kw_276)) (by decide +kernel) ⟨Nat.le_of_ble_eq_true rfl, Nat.le_of_ble_eq_true rfl⟩, (hts _ (List.mem_cons_of_mem _ kw_277)), (hts _ (List.mem_cons_of_mem _ kw_278))⟩ (z_preV z_nwN (Nat.le_trans hZ hS.1) hG hK hN hy (ci := 2) (r := (kR_Pr, kT_Pr, 11)) rfl hw) rfl rfl hl.1 rfl (lv_room (Nat.le_of_ble_eq_true rfl)) kb_Re_readNamed_23 ⟨Nat.le_of_ble_eq_true rfl, Nat.le_of_ble_eq_true rfl⟩) hS (fun r23 σ23 H locs hw hG hS => ?_)
    refine lv_iconst (v := (-1 : Int32)) hx hb kb_Re_readNamed_26 (by decide) ?_
    refine lv_icmp_ne (tgt := 34) hx hb kb_Re_readNamed_27 (by decide) (fun hc => ?_) (fun hc => ?_)
    · have hw := hw.1 hc
      refine lv_iconst (v := (0 : Int32)) hx hb kb_Re_readNamed_34 (by decide) ?_
      exact hw _ _ _ hG hS (lv_sub hl [1, 2, 3, 0] rfl)
    · have hw := hw.2 hc
      refine lv_iconst (v := (1 : Int32)) hx hb kb_Re_readNamed_30 (by decide) ?_
      refine lv_goto (tgt := 35) hx hb kb_Re_readNamed_31 (by decide) ?_
      exact hw _ _ _ hG hS (lv_sub hl [1, 2, 3, 0] rfl)
  · have hw := hw.2 hc
    refine lv_aload_n hx hb kb_Re_readNamed_12 rfl (lv_at hl 1 rfl) ?_
    refine lv_iconst (v := (1 : Int32)) hx hb kb_Re_readNamed_13 (by decide) ?_
    obtain ⟨hy, hw⟩ := hw
    refine zr_ci (va_runV (C := kR_Re) (As := [.int ((1 : Int32))]) (rest := []) ⟨hx, hb, hml, hown, hts⟩ (kc_Re_fail l D dA Z a0 ((1 : Int32)) σ6 _) ⟨callB_of 1 hts (z_gw kw_272) rfl rfl rfl (hts _ (List.mem_cons_of_mem _ kw_10)) (hts _ (List.mem_cons_of_mem _ kw_270)) (by decide +kernel) ⟨Nat.le_of_ble_eq_true rfl, Nat.le_of_ble_eq_true rfl⟩, (hts _ (List.mem_cons_of_mem _ kw_271)), (hts _ (List.mem_cons_of_mem _ kw_911))⟩ (z_preV z_nwN (Nat.le_trans hZ hS.1) hG hK hN hy (ci := 3) (r := (kR_Re, kT_Re, 7)) rfl hw) rfl rfl hl.1 rfl (lv_room (Nat.le_of_ble_eq_true rfl)) kb_Re_readNamed_14 ⟨Nat.le_of_ble_eq_true rfl, Nat.le_of_ble_eq_true rfl⟩) hS (fun r14 σ14 H locs hw hG hS => ?_)
    exact zr_iret (free := fun q => Z ≤ q) z_nwN hx hb hr (z_bool hw.1) hZ hK hN hG hS hw.2 kb_Re_readNamed_17 hlocks
def kp_Ru_hasLooseVariable (a0 : Nat) (σ : z_S) (Post : Int32 → z_S → Prop) : Prop := ∀ (X12 : Int32 → Int32 → Int32 → z_S → Prop),
    (∀ (v1 : Int32) (v2 : Int32) (v3 : Int32) (σ : z_S), (z_ty σ a0 = some (.inl 5) ∧ (((z_I σ 502 a0) ≤ v3 → (((v2 &&& (v1 ^^^ ((-1 : Int32))))) = 0 → Post ((0 : Int32)) σ) ∧ (¬ ((v2 &&& (v1 ^^^ ((-1 : Int32))))) = 0 → Post ((1 : Int32)) σ)) ∧ (¬ (z_I σ 502 a0) ≤ v3 → z_ty σ a0 = some (.inl 5) ∧ ∃ r21, z_R σ 501 a0 = some r21 ∧ (∃ n25 s25, z_ty σ r21 = some (.inr (11, n25, s25)) ∧ vp_in v3 n25 ∧ ∃ r25, z_Q σ s25 r21 v3.toNatClampNeg = some r25 ∧ (z_ty σ r25 = some (.inl 0) ∧ ((¬ ((z_I σ 2 r25)) = 0 → z_ty σ a0 = some (.inl 5) ∧ ∃ r49, z_R σ 501 a0 = some r49 ∧ (∃ n53 s53, z_ty σ r49 = some (.inr (11, n53, s53)) ∧ vp_in v3 n53 ∧ ∃ r53, z_Q σ s53 r49 v3.toNatClampNeg = some r53 ∧ (z_ty σ r53 = some (.inl 0) ∧ (X12 v1 (v2 ||| (z_I σ 5 r53)) (v3 + (1 : Int32)) σ)))) ∧ (((z_I σ 2 r25)) = 0 → z_ty σ a0 = some (.inl 5) ∧ ∃ r34, z_R σ 501 a0 = some r34 ∧ (∃ n38 s38, z_ty σ r34 = some (.inr (11, n38, s38)) ∧ vp_in v3 n38 ∧ ∃ r38, z_Q σ s38 r34 v3.toNatClampNeg = some r38 ∧ (z_ty σ r38 = some (.inl 0) ∧ (X12 (v1 ||| (z_I σ 5 r38)) v2 (v3 + (1 : Int32)) σ)))))))))) → X12 v1 v2 v3 σ) →
    (z_ty σ a0 = some (.inl 5) ∧ ∃ r3, z_R σ 500 a0 = some r3 ∧ (z_ty σ r3 = some (.inl 0) ∧ (X12 ((0 : Int32)) (z_I σ 5 r3) ((0 : Int32)) σ)))
set_option maxHeartbeats 4000000 in
set_option maxRecDepth 100000 in
theorem kc_Ru_hasLooseVariable (l : Launch) (D : va_G) (dA : Nat → ClassId) (Z : Nat) (a0 : Nat) (σ : z_S) (Post : Int32 → z_S → Prop) : Met l km_Ru_hasLooseVariable ks_Ru_hasLooseVariable kr_Ru_hasLooseVariable (va_Pc [.ref a0] (fun U => z_U D z_cl z_KT dA Z (z_tys dA) z_nw σ U ∧ kp_Ru_hasLooseVariable  a0 σ Post)) (z_Qi D z_cl z_KT dA Z (z_tys dA) z_nw Post) 0 0 (fun q => Z ≤ q) := by
  refine Met.ofW (cc := prog_7_method_4_code) (maxL := 4) (ret := (some .boolean)) (by decide) rfl ?_
  intro p e s m args below meth c s₁ B hml hv
  obtain ⟨rfl, ⟨hZ, hG, hK, hN⟩, hw⟩ := hv
  have hx := B.exec
  have hb := B.bytes
  have hr := B.returns
  have hts := atoms_spec (ws := ks_Ru_hasLooseVariable) B.pre
  have hown : s.vm.findClass kR_Ru = some m.cls := findClass_of_methodNamed B.named
  have hlocks := B.notSynchronized
  have hS : va_S (fun q => Z ≤ q) s.heap s.heap [] := va_S.rf
  have hl := lv_entry ([.ref a0]) (n := 4) (Nat.le_of_ble_eq_true rfl)
  rw [lg_entry_eq]
  generalize (lg_sl ([.ref a0]) ++ List.replicate (4 - (lg_sl ([.ref a0])).length) Slot.unset).toArray = ls at hl ⊢
  have hl : lv_has ls 4 [(0, .ref a0)] := hl
  unfold kp_Ru_hasLooseVariable at hw
  have hw := hw (fun (v1 : Int32) (v2 : Int32) (v3 : Int32) (σ : z_S) => ∀ (H : Heap) (locs : List Loc) (ls : Array Slot), z_G D z_cl z_KT dA Z σ H → va_S (fun q => Z ≤ q) s.heap H locs → lv_has ls 4 [(0, .ref a0), (1, .int v1), (2, .int v2), (3, .int v3)] → W p l e (headSpec ks_Ru_hasLooseVariable kr_Ru_hasLooseVariable).room s m ([.ref a0] : List Value).toArray below meth c H locs 0 0 (MQ below (z_Qi D z_cl z_KT dA Z (z_tys dA) z_nw Post) ([.ref a0] : List Value).toArray s 0 0 (fun q => Z ≤ q)) (F0 m 12 ls []))
  have hw := hw (by
    intro v1 v2 v3 σ hw H locs ls hG hS hl
    refine lv_iload_n hx hb kb_Ru_hasLooseVariable_12 rfl (lv_at hl 3 rfl) ?_
    refine lv_aload_n hx hb kb_Ru_hasLooseVariable_13 rfl (lv_at hl 0 rfl) ?_
    obtain ⟨hy, hw⟩ := hw
    refine zr_getI (ci := 5) (f := 502) hx hb hts ki_Ru hown hK hG hy rfl 2 (by decide) (hts _ (List.mem_cons_of_mem _ kw_133)) (fun _ h => h) rfl rfl kb_Ru_hasLooseVariable_14 ?_
    refine lv_icmp_ge (tgt := 65) hx hb kb_Ru_hasLooseVariable_17 (by decide) (fun hc => ?_) (fun hc => ?_)
    · have hw := hw.1 hc
      refine lv_iload_n hx hb kb_Ru_hasLooseVariable_65 rfl (lv_at hl 2 rfl) ?_
      refine lv_iload_n hx hb kb_Ru_hasLooseVariable_66 rfl (lv_at hl 1 rfl) ?_
      refine lv_iconst (v := (-1 : Int32)) hx hb kb_Ru_hasLooseVariable_67 (by decide) ?_
      refine lv_ixor hx hb kb_Ru_hasLooseVariable_68 ?_
      refine lv_iand hx hb kb_Ru_hasLooseVariable_69 ?_
      refine lv_if_eq (tgt := 77) hx hb kb_Ru_hasLooseVariable_70 (by decide) (fun hc => ?_) (fun hc => ?_)
      · have hw := hw.1 hc
        refine lv_iconst (v := (0 : Int32)) hx hb kb_Ru_hasLooseVariable_77 (by decide) ?_
        exact zr_iret (free := fun q => Z ≤ q) z_nwN hx hb hr rfl hZ hK hN hG hS hw kb_Ru_hasLooseVariable_78 hlocks
      · have hw := hw.2 hc
        refine lv_iconst (v := (1 : Int32)) hx hb kb_Ru_hasLooseVariable_73 (by decide) ?_
        refine lv_goto (tgt := 78) hx hb kb_Ru_hasLooseVariable_74 (by decide) ?_
        exact zr_iret (free := fun q => Z ≤ q) z_nwN hx hb hr rfl hZ hK hN hG hS hw kb_Ru_hasLooseVariable_78 hlocks
    · have hw := hw.2 hc
      refine lv_aload_n hx hb kb_Ru_hasLooseVariable_20 rfl (lv_at hl 0 rfl) ?_
      obtain ⟨hy, r21, hrf, hw⟩ := hw
      refine zr_getR (ci := 5) (f := 501) hx hb hts ki_Ru hown hK hG hy rfl 1 (by decide) (hts _ (List.mem_cons_of_mem _ kw_130)) (fun _ h => h) rfl rfl hrf kb_Ru_hasLooseVariable_21 ?_
      refine lv_iload_n hx hb kb_Ru_hasLooseVariable_24 rfl (lv_at hl 3 rfl) ?_
      obtain ⟨n25, s25, hy, hi, r25, hrf, hw⟩ := hw
      refine zr_aald hx hb hK hG 6 (by decide) hy rfl hi hrf kb_Ru_hasLooseVariable_25 ?_
      obtain ⟨hy, hw⟩ := hw
      refine zr_getI (ci := 0) (f := 2) hx hb hts ki_At hown hK hG hy rfl 2 (by decide) (hts _ (List.mem_cons_of_mem _ kw_108)) (fun _ h => h) rfl rfl kb_Ru_hasLooseVariable_26 ?_
      refine lv_if_ne (tgt := 47) hx hb kb_Ru_hasLooseVariable_29 (by decide) (fun hc => ?_) (fun hc => ?_)
      · have hw := hw.1 hc
        refine lv_iload_n hx hb kb_Ru_hasLooseVariable_47 rfl (lv_at hl 2 rfl) ?_
        refine lv_aload_n hx hb kb_Ru_hasLooseVariable_48 rfl (lv_at hl 0 rfl) ?_
        obtain ⟨hy, r49, hrf, hw⟩ := hw
        refine zr_getR (ci := 5) (f := 501) hx hb hts ki_Ru hown hK hG hy rfl 1 (by decide) (hts _ (List.mem_cons_of_mem _ kw_130)) (fun _ h => h) rfl rfl hrf kb_Ru_hasLooseVariable_49 ?_
        refine lv_iload_n hx hb kb_Ru_hasLooseVariable_52 rfl (lv_at hl 3 rfl) ?_
        obtain ⟨n53, s53, hy, hi, r53, hrf, hw⟩ := hw
        refine zr_aald hx hb hK hG 6 (by decide) hy rfl hi hrf kb_Ru_hasLooseVariable_53 ?_
        obtain ⟨hy, hw⟩ := hw
        refine zr_getI (ci := 0) (f := 5) hx hb hts ki_At hown hK hG hy rfl 5 (by decide) (hts _ (List.mem_cons_of_mem _ kw_118)) (fun _ h => h) rfl rfl kb_Ru_hasLooseVariable_54 ?_
        refine lv_ior hx hb kb_Ru_hasLooseVariable_57 ?_
        refine lv_istore_n (lv' := [(2, .int (v2 ||| (z_I σ 5 r53))), (0, .ref a0), (1, .int v1), (3, .int v3)]) hx hb kb_Ru_hasLooseVariable_58 rfl hl (by decide) rfl (fun ls hl => ?_)
        refine lv_iinc (v := v3 + (1 : Int32)) (lv' := [(3, .int (v3 + (1 : Int32))), (2, .int (v2 ||| (z_I σ 5 r53))), (0, .ref a0), (1, .int v1)]) hx hb kb_Ru_hasLooseVariable_59 hl (k := 3) rfl rfl (by decide) rfl (fun ls hl => ?_)
        refine lv_goto (tgt := 12) hx hb kb_Ru_hasLooseVariable_62 (by decide) ?_
        exact hw _ _ _ hG hS (lv_sub hl [2, 3, 1, 0] rfl)
      · have hw := hw.2 hc
        refine lv_iload_n hx hb kb_Ru_hasLooseVariable_32 rfl (lv_at hl 1 rfl) ?_
        refine lv_aload_n hx hb kb_Ru_hasLooseVariable_33 rfl (lv_at hl 0 rfl) ?_
        obtain ⟨hy, r34, hrf, hw⟩ := hw
        refine zr_getR (ci := 5) (f := 501) hx hb hts ki_Ru hown hK hG hy rfl 1 (by decide) (hts _ (List.mem_cons_of_mem _ kw_130)) (fun _ h => h) rfl rfl hrf kb_Ru_hasLooseVariable_34 ?_
        refine lv_iload_n hx hb kb_Ru_hasLooseVariable_37 rfl (lv_at hl 3 rfl) ?_
        obtain ⟨n38, s38, hy, hi, r38, hrf, hw⟩ := hw
        refine zr_aald hx hb hK hG 6 (by decide) hy rfl hi hrf kb_Ru_hasLooseVariable_38 ?_
        obtain ⟨hy, hw⟩ := hw
        refine zr_getI (ci := 0) (f := 5) hx hb hts ki_At hown hK hG hy rfl 5 (by decide) (hts _ (List.mem_cons_of_mem _ kw_118)) (fun _ h => h) rfl rfl kb_Ru_hasLooseVariable_39 ?_
        refine lv_ior hx hb kb_Ru_hasLooseVariable_42 ?_
        refine lv_istore_n (lv' := [(1, .int (v1 ||| (z_I σ 5 r38))), (0, .ref a0), (2, .int v2), (3, .int v3)]) hx hb kb_Ru_hasLooseVariable_43 rfl hl (by decide) rfl (fun ls hl => ?_)
        refine lv_goto (tgt := 59) hx hb kb_Ru_hasLooseVariable_44 (by decide) ?_
        refine lv_iinc (v := v3 + (1 : Int32)) (lv' := [(3, .int (v3 + (1 : Int32))), (1, .int (v1 ||| (z_I σ 5 r38))), (0, .ref a0), (2, .int v2)]) hx hb kb_Ru_hasLooseVariable_59 hl (k := 3) rfl rfl (by decide) rfl (fun ls hl => ?_)
        refine lv_goto (tgt := 12) hx hb kb_Ru_hasLooseVariable_62 (by decide) ?_
        exact hw _ _ _ hG hS (lv_sub hl [2, 1, 3, 0] rfl))
  refine lv_iconst (v := (0 : Int32)) hx hb kb_Ru_hasLooseVariable_0 (by decide) ?_
  refine lv_istore_n (lv' := [(1, .int ((0 : Int32))), (0, .ref a0)]) hx hb kb_Ru_hasLooseVariable_1 rfl hl (by decide) rfl (fun ls hl => ?_)
  refine lv_aload_n hx hb kb_Ru_hasLooseVariable_2 rfl (lv_at hl 1 rfl) ?_
  obtain ⟨hy, r3, hrf, hw⟩ := hw
  refine zr_getR (ci := 5) (f := 500) hx hb hts ki_Ru hown hK hG hy rfl 0 (by decide) (hts _ (List.mem_cons_of_mem _ kw_126)) (fun _ h => h) rfl rfl hrf kb_Ru_hasLooseVariable_3 ?_
  obtain ⟨hy, hw⟩ := hw
  refine zr_getI (ci := 0) (f := 5) hx hb hts ki_At hown hK hG hy rfl 5 (by decide) (hts _ (List.mem_cons_of_mem _ kw_118)) (fun _ h => h) rfl rfl kb_Ru_hasLooseVariable_6 ?_
  refine lv_istore_n (lv' := [(2, .int (z_I σ 5 r3)), (1, .int ((0 : Int32))), (0, .ref a0)]) hx hb kb_Ru_hasLooseVariable_9 rfl hl (by decide) rfl (fun ls hl => ?_)
  refine lv_iconst (v := (0 : Int32)) hx hb kb_Ru_hasLooseVariable_10 (by decide) ?_
  refine lv_istore_n (lv' := [(3, .int ((0 : Int32))), (2, .int (z_I σ 5 r3)), (1, .int ((0 : Int32))), (0, .ref a0)]) hx hb kb_Ru_hasLooseVariable_11 rfl hl (by decide) rfl (fun ls hl => ?_)
  exact hw _ _ _ hG hS (lv_sub hl [3, 2, 1, 0] rfl)
def kp_Ru_nextLiteral (a0 : Nat) (x1 : Int32) (x2 : Int32) (σ : z_S) (Post : Int32 → z_S → Prop) : Prop := ∀ (X8 : Int32 → Int32 → Int32 → z_S → Prop) (X50 : Int32 → Int32 → Int32 → z_S → Prop),
    (∀ (v3 : Int32) (v4 : Int32) (v5 : Int32) (σ : z_S), (z_ty σ a0 = some (.inl 5) ∧ (((z_I σ 502 a0) ≤ v5 → Post v3 σ) ∧ (¬ (z_I σ 502 a0) ≤ v5 → z_ty σ a0 = some (.inl 5) ∧ ∃ r18, z_R σ 501 a0 = some r18 ∧ (∃ n23 s23, z_ty σ r18 = some (.inr (11, n23, s23)) ∧ vp_in v5 n23 ∧ ∃ r23, z_Q σ s23 r18 v5.toNatClampNeg = some r23 ∧ (z_ty σ r23 = some (.inl 0) ∧ ((((z_I σ 2 r23)) = 0 → X50 v3 v4 v5 σ) ∧ (¬ ((z_I σ 2 r23)) = 0 → z_ty σ a0 = some (.inl 5) ∧ ∃ r31, z_R σ 501 a0 = some r31 ∧ (∃ n36 s36, z_ty σ r31 = some (.inr (11, n36, s36)) ∧ vp_in v5 n36 ∧ ∃ r36, z_Q σ s36 r31 v5.toNatClampNeg = some r36 ∧ (z_ty σ r36 = some (.inl 0) ∧ ((¬ (((z_I σ 5 r36) &&& (x2 ^^^ ((-1 : Int32))))) = 0 → X50 v3 v4 v5 σ) ∧ ((((z_I σ 5 r36) &&& (x2 ^^^ ((-1 : Int32))))) = 0 → Post v5 σ))))))))))) → X8 v3 v4 v5 σ) →
    (∀ (v3 : Int32) (v4 : Int32) (v5 : Int32) (σ : z_S), (z_ty σ a0 = some (.inl 5) ∧ ∃ r51, z_R σ 501 a0 = some r51 ∧ (∃ n56 s56, z_ty σ r51 = some (.inr (11, n56, s56)) ∧ vp_in v5 n56 ∧ ∃ r56, z_Q σ s56 r51 v5.toNatClampNeg = some r56 ∧ (z_ty σ r56 = some (.inl 0) ∧ ((¬ ((z_I σ 2 r56)) = 0 → X8 v3 v4 (v5 + (1 : Int32)) σ) ∧ (((z_I σ 2 r56)) = 0 → (¬ v4 = 0 → X8 v3 v4 (v5 + (1 : Int32)) σ) ∧ (v4 = 0 → X8 v5 ((1 : Int32)) (v5 + (1 : Int32)) σ)))))) → X50 v3 v4 v5 σ) →
    (X8 x1 ((0 : Int32)) x1 σ)
set_option maxHeartbeats 4000000 in
set_option maxRecDepth 100000 in
theorem kc_Ru_nextLiteral (l : Launch) (D : va_G) (dA : Nat → ClassId) (Z : Nat) (a0 : Nat) (x1 : Int32) (x2 : Int32) (σ : z_S) (Post : Int32 → z_S → Prop) : Met l km_Ru_nextLiteral ks_Ru_nextLiteral kr_Ru_nextLiteral (va_Pc [.ref a0, .int x1, .int x2] (fun U => z_U D z_cl z_KT dA Z (z_tys dA) z_nw σ U ∧ kp_Ru_nextLiteral  a0 x1 x2 σ Post)) (z_Qi D z_cl z_KT dA Z (z_tys dA) z_nw Post) 0 0 (fun q => Z ≤ q) := by
  refine Met.ofW (cc := prog_7_method_6_code) (maxL := 6) (ret := (some .int)) (by decide) rfl ?_
  intro p e s m args below meth c s₁ B hml hv
  obtain ⟨rfl, ⟨hZ, hG, hK, hN⟩, hw⟩ := hv
  have hx := B.exec
  have hb := B.bytes
  have hr := B.returns
  have hts := atoms_spec (ws := ks_Ru_nextLiteral) B.pre
  have hown : s.vm.findClass kR_Ru = some m.cls := findClass_of_methodNamed B.named
  have hlocks := B.notSynchronized
  have hS : va_S (fun q => Z ≤ q) s.heap s.heap [] := va_S.rf
  have hl := lv_entry ([.ref a0, .int x1, .int x2]) (n := 6) (Nat.le_of_ble_eq_true rfl)
  rw [lg_entry_eq]
  generalize (lg_sl ([.ref a0, .int x1, .int x2]) ++ List.replicate (6 - (lg_sl ([.ref a0, .int x1, .int x2])).length) Slot.unset).toArray = ls at hl ⊢
  have hl : lv_has ls 6 [(0, .ref a0), (1, .int x1), (2, .int x2)] := hl
  unfold kp_Ru_nextLiteral at hw
  have hw := hw (fun (v3 : Int32) (v4 : Int32) (v5 : Int32) (σ : z_S) => ∀ (H : Heap) (locs : List Loc) (ls : Array Slot), z_G D z_cl z_KT dA Z σ H → va_S (fun q => Z ≤ q) s.heap H locs → lv_has ls 6 [(0, .ref a0), (2, .int x2), (3, .int v3), (4, .int v4), (5, .int v5)] → W p l e (headSpec ks_Ru_nextLiteral kr_Ru_nextLiteral).room s m ([.ref a0, .int x1, .int x2] : List Value).toArray below meth c H locs 0 0 (MQ below (z_Qi D z_cl z_KT dA Z (z_tys dA) z_nw Post) ([.ref a0, .int x1, .int x2] : List Value).toArray s 0 0 (fun q => Z ≤ q)) (F0 m 8 ls []))
  have hw := hw (fun (v3 : Int32) (v4 : Int32) (v5 : Int32) (σ : z_S) => ∀ (H : Heap) (locs : List Loc) (ls : Array Slot), z_G D z_cl z_KT dA Z σ H → va_S (fun q => Z ≤ q) s.heap H locs → lv_has ls 6 [(0, .ref a0), (2, .int x2), (3, .int v3), (4, .int v4), (5, .int v5)] → W p l e (headSpec ks_Ru_nextLiteral kr_Ru_nextLiteral).room s m ([.ref a0, .int x1, .int x2] : List Value).toArray below meth c H locs 0 0 (MQ below (z_Qi D z_cl z_KT dA Z (z_tys dA) z_nw Post) ([.ref a0, .int x1, .int x2] : List Value).toArray s 0 0 (fun q => Z ≤ q)) (F0 m 50 ls []))
  have hw := hw (by
    intro v3 v4 v5 σ hw H locs ls hG hS hl
    refine lv_iload hx hb kb_Ru_nextLiteral_8 (lv_at hl 4 rfl) ?_
    refine lv_aload_n hx hb kb_Ru_nextLiteral_10 rfl (lv_at hl 0 rfl) ?_
    obtain ⟨hy, hw⟩ := hw
    refine zr_getI (ci := 5) (f := 502) hx hb hts ki_Ru hown hK hG hy rfl 2 (by decide) (hts _ (List.mem_cons_of_mem _ kw_133)) (fun _ h => h) rfl rfl kb_Ru_nextLiteral_11 ?_
    refine lv_icmp_ge (tgt := 80) hx hb kb_Ru_nextLiteral_14 (by decide) (fun hc => ?_) (fun hc => ?_)
    · have hw := hw.1 hc
      refine lv_iload_n hx hb kb_Ru_nextLiteral_80 rfl (lv_at hl 2 rfl) ?_
      exact zr_iret (free := fun q => Z ≤ q) z_nwN hx hb hr rfl hZ hK hN hG hS hw kb_Ru_nextLiteral_81 hlocks
    · have hw := hw.2 hc
      refine lv_aload_n hx hb kb_Ru_nextLiteral_17 rfl (lv_at hl 0 rfl) ?_
      obtain ⟨hy, r18, hrf, hw⟩ := hw
      refine zr_getR (ci := 5) (f := 501) hx hb hts ki_Ru hown hK hG hy rfl 1 (by decide) (hts _ (List.mem_cons_of_mem _ kw_130)) (fun _ h => h) rfl rfl hrf kb_Ru_nextLiteral_18 ?_
      refine lv_iload hx hb kb_Ru_nextLiteral_21 (lv_at hl 4 rfl) ?_
      obtain ⟨n23, s23, hy, hi, r23, hrf, hw⟩ := hw
      refine zr_aald hx hb hK hG 6 (by decide) hy rfl hi hrf kb_Ru_nextLiteral_23 ?_
      obtain ⟨hy, hw⟩ := hw
      refine zr_getI (ci := 0) (f := 2) hx hb hts ki_At hown hK hG hy rfl 2 (by decide) (hts _ (List.mem_cons_of_mem _ kw_108)) (fun _ h => h) rfl rfl kb_Ru_nextLiteral_24 ?_
      refine lv_if_eq (tgt := 50) hx hb kb_Ru_nextLiteral_27 (by decide) (fun hc => ?_) (fun hc => ?_)
      · have hw := hw.1 hc
        exact hw _ _ _ hG hS (lv_sub hl [0, 1, 2, 3, 4] rfl)
      · have hw := hw.2 hc
        refine lv_aload_n hx hb kb_Ru_nextLiteral_30 rfl (lv_at hl 0 rfl) ?_
        obtain ⟨hy, r31, hrf, hw⟩ := hw
        refine zr_getR (ci := 5) (f := 501) hx hb hts ki_Ru hown hK hG hy rfl 1 (by decide) (hts _ (List.mem_cons_of_mem _ kw_130)) (fun _ h => h) rfl rfl hrf kb_Ru_nextLiteral_31 ?_
        refine lv_iload hx hb kb_Ru_nextLiteral_34 (lv_at hl 4 rfl) ?_
        obtain ⟨n36, s36, hy, hi, r36, hrf, hw⟩ := hw
        refine zr_aald hx hb hK hG 6 (by decide) hy rfl hi hrf kb_Ru_nextLiteral_36 ?_
        obtain ⟨hy, hw⟩ := hw
        refine zr_getI (ci := 0) (f := 5) hx hb hts ki_At hown hK hG hy rfl 5 (by decide) (hts _ (List.mem_cons_of_mem _ kw_118)) (fun _ h => h) rfl rfl kb_Ru_nextLiteral_37 ?_
        refine lv_iload_n hx hb kb_Ru_nextLiteral_40 rfl (lv_at hl 1 rfl) ?_
        refine lv_iconst (v := (-1 : Int32)) hx hb kb_Ru_nextLiteral_41 (by decide) ?_
        refine lv_ixor hx hb kb_Ru_nextLiteral_42 ?_
        refine lv_iand hx hb kb_Ru_nextLiteral_43 ?_
        refine lv_if_ne (tgt := 50) hx hb kb_Ru_nextLiteral_44 (by decide) (fun hc => ?_) (fun hc => ?_)
        · have hw := hw.1 hc
          exact hw _ _ _ hG hS (lv_sub hl [0, 1, 2, 3, 4] rfl)
        · have hw := hw.2 hc
          refine lv_iload hx hb kb_Ru_nextLiteral_47 (lv_at hl 4 rfl) ?_
          exact zr_iret (free := fun q => Z ≤ q) z_nwN hx hb hr rfl hZ hK hN hG hS hw kb_Ru_nextLiteral_49 hlocks)
  have hw := hw (by
    intro v3 v4 v5 σ hw H locs ls hG hS hl
    refine lv_aload_n hx hb kb_Ru_nextLiteral_50 rfl (lv_at hl 0 rfl) ?_
    obtain ⟨hy, r51, hrf, hw⟩ := hw
    refine zr_getR (ci := 5) (f := 501) hx hb hts ki_Ru hown hK hG hy rfl 1 (by decide) (hts _ (List.mem_cons_of_mem _ kw_130)) (fun _ h => h) rfl rfl hrf kb_Ru_nextLiteral_51 ?_
    refine lv_iload hx hb kb_Ru_nextLiteral_54 (lv_at hl 4 rfl) ?_
    obtain ⟨n56, s56, hy, hi, r56, hrf, hw⟩ := hw
    refine zr_aald hx hb hK hG 6 (by decide) hy rfl hi hrf kb_Ru_nextLiteral_56 ?_
    obtain ⟨hy, hw⟩ := hw
    refine zr_getI (ci := 0) (f := 2) hx hb hts ki_At hown hK hG hy rfl 2 (by decide) (hts _ (List.mem_cons_of_mem _ kw_108)) (fun _ h => h) rfl rfl kb_Ru_nextLiteral_57 ?_
    refine lv_if_ne (tgt := 74) hx hb kb_Ru_nextLiteral_60 (by decide) (fun hc => ?_) (fun hc => ?_)
    · have hw := hw.1 hc
      refine lv_iinc (v := v5 + (1 : Int32)) (lv' := [(5, .int (v5 + (1 : Int32))), (0, .ref a0), (2, .int x2), (3, .int v3), (4, .int v4)]) hx hb kb_Ru_nextLiteral_74 hl (k := 4) rfl rfl (by decide) rfl (fun ls hl => ?_)
      refine lv_goto (tgt := 8) hx hb kb_Ru_nextLiteral_77 (by decide) ?_
      exact hw _ _ _ hG hS (lv_sub hl [1, 2, 3, 4, 0] rfl)
    · have hw := hw.2 hc
      refine lv_iload hx hb kb_Ru_nextLiteral_63 (lv_at hl 3 rfl) ?_
      refine lv_if_ne (tgt := 74) hx hb kb_Ru_nextLiteral_65 (by decide) (fun hc => ?_) (fun hc => ?_)
      · have hw := hw.1 hc
        refine lv_iinc (v := v5 + (1 : Int32)) (lv' := [(5, .int (v5 + (1 : Int32))), (0, .ref a0), (2, .int x2), (3, .int v3), (4, .int v4)]) hx hb kb_Ru_nextLiteral_74 hl (k := 4) rfl rfl (by decide) rfl (fun ls hl => ?_)
        refine lv_goto (tgt := 8) hx hb kb_Ru_nextLiteral_77 (by decide) ?_
        exact hw _ _ _ hG hS (lv_sub hl [1, 2, 3, 4, 0] rfl)
      · have hw := hw.2 hc
        refine lv_iload hx hb kb_Ru_nextLiteral_68 (lv_at hl 4 rfl) ?_
        refine lv_istore_n (lv' := [(3, .int v5), (0, .ref a0), (2, .int x2), (4, .int v4), (5, .int v5)]) hx hb kb_Ru_nextLiteral_70 rfl hl (by decide) rfl (fun ls hl => ?_)
        refine lv_iconst (v := (1 : Int32)) hx hb kb_Ru_nextLiteral_71 (by decide) ?_
        refine lv_istore (lv' := [(4, .int ((1 : Int32))), (3, .int v5), (0, .ref a0), (2, .int x2), (5, .int v5)]) hx hb kb_Ru_nextLiteral_72 hl (by decide) rfl (fun ls hl => ?_)
        refine lv_iinc (v := v5 + (1 : Int32)) (lv' := [(5, .int (v5 + (1 : Int32))), (4, .int ((1 : Int32))), (3, .int v5), (0, .ref a0), (2, .int x2)]) hx hb kb_Ru_nextLiteral_74 hl (k := 4) rfl rfl (by decide) rfl (fun ls hl => ?_)
        refine lv_goto (tgt := 8) hx hb kb_Ru_nextLiteral_77 (by decide) ?_
        exact hw _ _ _ hG hS (lv_sub hl [3, 4, 2, 1, 0] rfl))
  refine lv_iload_n hx hb kb_Ru_nextLiteral_0 rfl (lv_at hl 1 rfl) ?_
  refine lv_istore_n (lv' := [(3, .int x1), (0, .ref a0), (1, .int x1), (2, .int x2)]) hx hb kb_Ru_nextLiteral_1 rfl hl (by decide) rfl (fun ls hl => ?_)
  refine lv_iconst (v := (0 : Int32)) hx hb kb_Ru_nextLiteral_2 (by decide) ?_
  refine lv_istore (lv' := [(4, .int ((0 : Int32))), (3, .int x1), (0, .ref a0), (1, .int x1), (2, .int x2)]) hx hb kb_Ru_nextLiteral_3 hl (by decide) rfl (fun ls hl => ?_)
  refine lv_iload_n hx hb kb_Ru_nextLiteral_5 rfl (lv_at hl 3 rfl) ?_
  refine lv_istore (lv' := [(5, .int x1), (4, .int ((0 : Int32))), (3, .int x1), (0, .ref a0), (1, .int x1), (2, .int x2)]) hx hb kb_Ru_nextLiteral_6 hl (by decide) rfl (fun ls hl => ?_)
  exact hw _ _ _ hG hS (lv_sub hl [3, 5, 2, 1, 0] rfl)
def kp_Ru_arrange (a0 : Nat) (σ : z_S) (Post : z_S → Prop) : Prop := ∀ (X4 : Int32 → Int32 → z_S → Prop) (X30 : Int32 → Int32 → Nat → Int32 → z_S → Prop),
    (∀ (v1 : Int32) (v2 : Int32) (σ : z_S), (z_ty σ a0 = some (.inl 5) ∧ (((z_I σ 502 a0) ≤ v2 → Post σ) ∧ (¬ (z_I σ 502 a0) ≤ v2 → z_ty σ a0 = some (.inl 5) ∧ kp_Ru_nextLiteral a0 v2 v1 σ (fun (r15 : Int32) (σ15 : z_S) => z_ty σ15 a0 = some (.inl 5) ∧ ∃ r20, z_R σ15 501 a0 = some r20 ∧ (∃ n24 s24, z_ty σ15 r20 = some (.inr (11, n24, s24)) ∧ vp_in r15 n24 ∧ ∃ r24, z_Q σ15 s24 r20 r15.toNatClampNeg = some r24 ∧ (X30 v1 v2 r24 r15 σ15)))))) → X4 v1 v2 σ) →
    (∀ (v1 : Int32) (v2 : Int32) (v4 : Nat) (v5 : Int32) (σ : z_S), ((v5 ≤ v2 → z_ty σ a0 = some (.inl 5) ∧ ∃ r59, z_R σ 501 a0 = some r59 ∧ (∃ n65 s65, z_ty σ r59 = some (.inr (11, n65, s65)) ∧ vp_in v2 n65 ∧ z_ty σ v4 = some (.inl 0) ∧ ∀ σ65, σ65 = z_sQ σ s65 r59 (va_up (z_Q σ s65 r59) v2.toNatClampNeg (some v4)) → z_ty σ65 v4 = some (.inl 0) ∧ (X4 (v1 ||| (z_I σ65 5 v4)) (v2 + (1 : Int32)) σ65))) ∧ (¬ v5 ≤ v2 → z_ty σ a0 = some (.inl 5) ∧ ∃ r37, z_R σ 501 a0 = some r37 ∧ (z_ty σ a0 = some (.inl 5) ∧ ∃ r43, z_R σ 501 a0 = some r43 ∧ (∃ n50 s50, z_ty σ r43 = some (.inr (11, n50, s50)) ∧ vp_in (v5 - ((1 : Int32))) n50 ∧ ∃ r50, z_Q σ s50 r43 (v5 - ((1 : Int32))).toNatClampNeg = some r50 ∧ (∃ n51 s51, z_ty σ r37 = some (.inr (11, n51, s51)) ∧ vp_in v5 n51 ∧ z_ty σ r50 = some (.inl 0) ∧ ∀ σ51, σ51 = z_sQ σ s51 r37 (va_up (z_Q σ s51 r37) v5.toNatClampNeg (some r50)) → X30 v1 v2 v4 (v5 + (-1 : Int32)) σ51))))) → X30 v1 v2 v4 v5 σ) →
    (X4 ((0 : Int32)) ((0 : Int32)) σ)
set_option maxHeartbeats 4000000 in
set_option maxRecDepth 100000 in
theorem kc_Ru_arrange (l : Launch) (D : va_G) (dA : Nat → ClassId) (Z : Nat) (a0 : Nat) (σ : z_S) (Post : z_S → Prop) : Met l km_Ru_arrange ks_Ru_arrange kr_Ru_arrange (va_Pc [.ref a0] (fun U => z_U D z_cl z_KT dA Z (z_tys dA) z_nw σ U ∧ kp_Ru_arrange  a0 σ Post)) (z_Qv D z_cl z_KT dA Z (z_tys dA) z_nw Post) 0 0 (fun q => Z ≤ q) := by
  refine Met.ofW (cc := prog_7_method_5_code) (maxL := 6) (ret := none) (by decide) rfl ?_
  intro p e s m args below meth c s₁ B hml hv
  obtain ⟨rfl, ⟨hZ, hG, hK, hN⟩, hw⟩ := hv
  have hx := B.exec
  have hb := B.bytes
  have hr := B.returns
  have hts := atoms_spec (ws := ks_Ru_arrange) B.pre
  have hown : s.vm.findClass kR_Ru = some m.cls := findClass_of_methodNamed B.named
  have hlocks := B.notSynchronized
  have hS : va_S (fun q => Z ≤ q) s.heap s.heap [] := va_S.rf
  have hl := lv_entry ([.ref a0]) (n := 6) (Nat.le_of_ble_eq_true rfl)
  rw [lg_entry_eq]
  generalize (lg_sl ([.ref a0]) ++ List.replicate (6 - (lg_sl ([.ref a0])).length) Slot.unset).toArray = ls at hl ⊢
  have hl : lv_has ls 6 [(0, .ref a0)] := hl
  unfold kp_Ru_arrange at hw
  have hw := hw (fun (v1 : Int32) (v2 : Int32) (σ : z_S) => ∀ (H : Heap) (locs : List Loc) (ls : Array Slot), z_G D z_cl z_KT dA Z σ H → va_S (fun q => Z ≤ q) s.heap H locs → lv_has ls 6 [(0, .ref a0), (1, .int v1), (2, .int v2)] → W p l e (headSpec ks_Ru_arrange kr_Ru_arrange).room s m ([.ref a0] : List Value).toArray below meth c H locs 0 0 (MQ below (z_Qv D z_cl z_KT dA Z (z_tys dA) z_nw Post) ([.ref a0] : List Value).toArray s 0 0 (fun q => Z ≤ q)) (F0 m 4 ls []))
  have hw := hw (fun (v1 : Int32) (v2 : Int32) (v4 : Nat) (v5 : Int32) (σ : z_S) => ∀ (H : Heap) (locs : List Loc) (ls : Array Slot), z_G D z_cl z_KT dA Z σ H → va_S (fun q => Z ≤ q) s.heap H locs → lv_has ls 6 [(0, .ref a0), (1, .int v1), (2, .int v2), (4, .ref v4), (5, .int v5)] → W p l e (headSpec ks_Ru_arrange kr_Ru_arrange).room s m ([.ref a0] : List Value).toArray below meth c H locs 0 0 (MQ below (z_Qv D z_cl z_KT dA Z (z_tys dA) z_nw Post) ([.ref a0] : List Value).toArray s 0 0 (fun q => Z ≤ q)) (F0 m 30 ls []))
  have hw := hw (by
    intro v1 v2 σ hw H locs ls hG hS hl
    refine lv_iload_n hx hb kb_Ru_arrange_4 rfl (lv_at hl 2 rfl) ?_
    refine lv_aload_n hx hb kb_Ru_arrange_5 rfl (lv_at hl 0 rfl) ?_
    obtain ⟨hy, hw⟩ := hw
    refine zr_getI (ci := 5) (f := 502) hx hb hts ki_Ru hown hK hG hy rfl 2 (by decide) (hts _ (List.mem_cons_of_mem _ kw_133)) (fun _ h => h) rfl rfl kb_Ru_arrange_6 ?_
    refine lv_icmp_ge (tgt := 80) hx hb kb_Ru_arrange_9 (by decide) (fun hc => ?_) (fun hc => ?_)
    · have hw := hw.1 hc
      exact zr_vret z_nwN hx hb hr hZ hK hN hG hS hw kb_Ru_arrange_80 hlocks
    · have hw := hw.2 hc
      refine lv_aload_n hx hb kb_Ru_arrange_12 rfl (lv_at hl 0 rfl) ?_
      refine lv_iload_n hx hb kb_Ru_arrange_13 rfl (lv_at hl 2 rfl) ?_
      refine lv_iload_n hx hb kb_Ru_arrange_14 rfl (lv_at hl 1 rfl) ?_
      obtain ⟨hy, hw⟩ := hw
      refine zr_ci (va_runV (C := kR_Ru) (As := [.int v2, .int v1]) (rest := []) ⟨hx, hb, hml, hown, hts⟩ (kc_Ru_nextLiteral l D dA Z a0 v2 v1 σ _) ⟨callB_of 2 hts (z_gw kw_339) rfl rfl rfl (hts _ (List.mem_cons_of_mem _ kw_6)) (hts _ (List.mem_cons_of_mem _ kw_337)) (by decide +kernel) ⟨Nat.le_of_ble_eq_true rfl, Nat.le_of_ble_eq_true rfl⟩, (hts _ (List.mem_cons_of_mem _ kw_338)), (hts _ (List.mem_cons_of_mem _ kw_917))⟩ (z_preV z_nwN (Nat.le_trans hZ hS.1) hG hK hN hy (ci := 5) (r := (kR_Ru, kT_Ru, 7)) rfl hw) rfl rfl hl.1 rfl (lv_room (Nat.le_of_ble_eq_true rfl)) kb_Ru_arrange_15 ⟨Nat.le_of_ble_eq_true rfl, Nat.le_of_ble_eq_true rfl⟩) hS (fun r15 σ15 H locs hw hG hS => ?_)
      refine lv_istore_n (lv' := [(3, .int r15), (0, .ref a0), (1, .int v1), (2, .int v2)]) hx hb kb_Ru_arrange_18 rfl hl (by decide) rfl (fun ls hl => ?_)
      refine lv_aload_n hx hb kb_Ru_arrange_19 rfl (lv_at hl 1 rfl) ?_
      obtain ⟨hy, r20, hrf, hw⟩ := hw
      refine zr_getR (ci := 5) (f := 501) hx hb hts ki_Ru hown hK hG hy rfl 1 (by decide) (hts _ (List.mem_cons_of_mem _ kw_130)) (fun _ h => h) rfl rfl hrf kb_Ru_arrange_20 ?_
      refine lv_iload_n hx hb kb_Ru_arrange_23 rfl (lv_at hl 0 rfl) ?_
      obtain ⟨n24, s24, hy, hi, r24, hrf, hw⟩ := hw
      refine zr_aald hx hb hK hG 6 (by decide) hy rfl hi hrf kb_Ru_arrange_24 ?_
      refine lv_astore (lv' := [(4, .ref r24), (3, .int r15), (0, .ref a0), (1, .int v1), (2, .int v2)]) hx hb kb_Ru_arrange_25 hl (by decide) rfl (fun ls hl => ?_)
      refine lv_iload_n hx hb kb_Ru_arrange_27 rfl (lv_at hl 1 rfl) ?_
      refine lv_istore (lv' := [(5, .int r15), (4, .ref r24), (3, .int r15), (0, .ref a0), (1, .int v1), (2, .int v2)]) hx hb kb_Ru_arrange_28 hl (by decide) rfl (fun ls hl => ?_)
      exact hw _ _ _ hG hS (lv_sub hl [3, 4, 5, 1, 0] rfl))
  have hw := hw (by
    intro v1 v2 v4 v5 σ hw H locs ls hG hS hl
    refine lv_iload hx hb kb_Ru_arrange_30 (lv_at hl 4 rfl) ?_
    refine lv_iload_n hx hb kb_Ru_arrange_32 rfl (lv_at hl 2 rfl) ?_
    refine lv_icmp_le (tgt := 58) hx hb kb_Ru_arrange_33 (by decide) (fun hc => ?_) (fun hc => ?_)
    · have hw := hw.1 hc
      refine lv_aload_n hx hb kb_Ru_arrange_58 rfl (lv_at hl 0 rfl) ?_
      obtain ⟨hy, r59, hrf, hw⟩ := hw
      refine zr_getR (ci := 5) (f := 501) hx hb hts ki_Ru hown hK hG hy rfl 1 (by decide) (hts _ (List.mem_cons_of_mem _ kw_130)) (fun _ h => h) rfl rfl hrf kb_Ru_arrange_59 ?_
      refine lv_iload_n hx hb kb_Ru_arrange_62 rfl (lv_at hl 2 rfl) ?_
      refine lv_aload hx hb kb_Ru_arrange_63 (lv_at hl 3 rfl) ?_
      obtain ⟨n65, s65, hy, hi, hv, hw⟩ := hw
      refine zr_aast hx hb hK hG hS 6 0 (by decide) hy rfl hv rfl hi kb_Ru_arrange_65 (fun H locs hG hS => ?_)
      obtain ⟨σ65, e65⟩ : ∃ z, z = z_sQ σ s65 r59 (va_up (z_Q σ s65 r59) v2.toNatClampNeg (some v4)) := ⟨_, rfl⟩
      rw [← e65] at hG
      have hw := hw _ e65
      refine lv_iload_n hx hb kb_Ru_arrange_66 rfl (lv_at hl 1 rfl) ?_
      refine lv_aload hx hb kb_Ru_arrange_67 (lv_at hl 3 rfl) ?_
      obtain ⟨hy, hw⟩ := hw
      refine zr_getI (ci := 0) (f := 5) hx hb hts ki_At hown hK hG hy rfl 5 (by decide) (hts _ (List.mem_cons_of_mem _ kw_118)) (fun _ h => h) rfl rfl kb_Ru_arrange_69 ?_
      refine lv_ior hx hb kb_Ru_arrange_72 ?_
      refine lv_istore_n (lv' := [(1, .int (v1 ||| (z_I σ65 5 v4))), (0, .ref a0), (2, .int v2), (4, .ref v4), (5, .int v5)]) hx hb kb_Ru_arrange_73 rfl hl (by decide) rfl (fun ls hl => ?_)
      refine lv_iinc (v := v2 + (1 : Int32)) (lv' := [(2, .int (v2 + (1 : Int32))), (1, .int (v1 ||| (z_I σ65 5 v4))), (0, .ref a0), (4, .ref v4), (5, .int v5)]) hx hb kb_Ru_arrange_74 hl (k := 2) rfl rfl (by decide) rfl (fun ls hl => ?_)
      refine lv_goto (tgt := 4) hx hb kb_Ru_arrange_77 (by decide) ?_
      exact hw _ _ _ hG hS (lv_sub hl [2, 1, 0] rfl)
    · have hw := hw.2 hc
      refine lv_aload_n hx hb kb_Ru_arrange_36 rfl (lv_at hl 0 rfl) ?_
      obtain ⟨hy, r37, hrf, hw⟩ := hw
      refine zr_getR (ci := 5) (f := 501) hx hb hts ki_Ru hown hK hG hy rfl 1 (by decide) (hts _ (List.mem_cons_of_mem _ kw_130)) (fun _ h => h) rfl rfl hrf kb_Ru_arrange_37 ?_
      refine lv_iload hx hb kb_Ru_arrange_40 (lv_at hl 4 rfl) ?_
      refine lv_aload_n hx hb kb_Ru_arrange_42 rfl (lv_at hl 0 rfl) ?_
      obtain ⟨hy, r43, hrf, hw⟩ := hw
      refine zr_getR (ci := 5) (f := 501) hx hb hts ki_Ru hown hK hG hy rfl 1 (by decide) (hts _ (List.mem_cons_of_mem _ kw_130)) (fun _ h => h) rfl rfl hrf kb_Ru_arrange_43 ?_
      refine lv_iload hx hb kb_Ru_arrange_46 (lv_at hl 4 rfl) ?_
      refine lv_iconst (v := (1 : Int32)) hx hb kb_Ru_arrange_48 (by decide) ?_
      refine lv_isub hx hb kb_Ru_arrange_49 ?_
      obtain ⟨n50, s50, hy, hi, r50, hrf, hw⟩ := hw
      refine zr_aald hx hb hK hG 6 (by decide) hy rfl hi hrf kb_Ru_arrange_50 ?_
      obtain ⟨n51, s51, hy, hi, hv, hw⟩ := hw
      refine zr_aast hx hb hK hG hS 6 0 (by decide) hy rfl hv rfl hi kb_Ru_arrange_51 (fun H locs hG hS => ?_)
      obtain ⟨σ51, e51⟩ : ∃ z, z = z_sQ σ s51 r37 (va_up (z_Q σ s51 r37) v5.toNatClampNeg (some r50)) := ⟨_, rfl⟩
      rw [← e51] at hG
      have hw := hw _ e51
      refine lv_iinc (v := v5 + (-1 : Int32)) (lv' := [(5, .int (v5 + (-1 : Int32))), (0, .ref a0), (1, .int v1), (2, .int v2), (4, .ref v4)]) hx hb kb_Ru_arrange_52 hl (k := 4) rfl rfl (by decide) rfl (fun ls hl => ?_)
      refine lv_goto (tgt := 30) hx hb kb_Ru_arrange_55 (by decide) ?_
      exact hw _ _ _ hG hS (lv_sub hl [1, 2, 3, 4, 0] rfl))
  refine lv_iconst (v := (0 : Int32)) hx hb kb_Ru_arrange_0 (by decide) ?_
  refine lv_istore_n (lv' := [(1, .int ((0 : Int32))), (0, .ref a0)]) hx hb kb_Ru_arrange_1 rfl hl (by decide) rfl (fun ls hl => ?_)
  refine lv_iconst (v := (0 : Int32)) hx hb kb_Ru_arrange_2 (by decide) ?_
  refine lv_istore_n (lv' := [(2, .int ((0 : Int32))), (1, .int ((0 : Int32))), (0, .ref a0)]) hx hb kb_Ru_arrange_3 rfl hl (by decide) rfl (fun ls hl => ?_)
  exact hw _ _ _ hG hS (lv_sub hl [2, 1, 0] rfl)
def kp_Re_closeRule (a0 : Nat) (σ : z_S) (Post : Int32 → z_S → Prop) : Prop :=     (z_ty σ a0 = some (.inl 3) ∧ ∃ r1, z_R σ 306 a0 = some r1 ∧ (z_ty σ r1 = some (.inl 5) ∧ kp_Ru_hasLooseVariable r1 σ (fun (r4 : Int32) (σ4 : z_S) => (r4 = 0 → z_ty σ4 a0 = some (.inl 3) ∧ ∃ r17, z_R σ4 300 a0 = some r17 ∧ (z_ty σ4 a0 = some (.inl 3) ∧ ∃ r21, z_R σ4 306 a0 = some r21 ∧ (z_ty σ4 r17 = some (.inl 2) ∧ kp_Pr_refusesCount r17 r21 σ4 (fun (r24 : Int32) (σ24 : z_S) => (r24 = 0 → z_ty σ24 a0 = some (.inl 3) ∧ (z_ty σ24 a0 = some (.inl 3) ∧ ∀ σ43, σ43 = z_sI σ24 305 a0 ((z_I σ24 305 a0) + ((1 : Int32))) → z_ty σ43 a0 = some (.inl 3) ∧ ∃ r47, z_R σ43 306 a0 = some r47 ∧ (z_ty σ43 r47 = some (.inl 5) ∧ kp_Ru_arrange r47 σ43 (fun (σ50 : z_S) => z_ty σ50 a0 = some (.inl 3) ∧ ∃ r54, z_R σ50 300 a0 = some r54 ∧ (z_ty σ50 a0 = some (.inl 3) ∧ ∃ r58, z_R σ50 306 a0 = some r58 ∧ (z_ty σ50 r54 = some (.inl 2) ∧ kp_Pr_append r54 r58 σ50 (fun (σ61 : z_S) => Post ((1 : Int32)) σ61))))))) ∧ (¬ r24 = 0 → z_ty σ24 a0 = some (.inl 3) ∧ kp_Re_fail a0 ((5 : Int32)) σ24 (fun (r32 : Int32) (σ32 : z_S) => (r32 = 0 ∨ r32 = 1) ∧ Post r32 σ32)))))) ∧ (¬ r4 = 0 → z_ty σ4 a0 = some (.inl 3) ∧ kp_Re_fail a0 ((4 : Int32)) σ4 (fun (r12 : Int32) (σ12 : z_S) => (r12 = 0 ∨ r12 = 1) ∧ Post r12 σ12)))))
set_option maxHeartbeats 4000000 in
set_option maxRecDepth 100000 in
theorem kc_Re_closeRule (l : Launch) (D : va_G) (dA : Nat → ClassId) (Z : Nat) (a0 : Nat) (σ : z_S) (Post : Int32 → z_S → Prop) : Met l km_Re_closeRule ks_Re_closeRule kr_Re_closeRule (va_Pc [.ref a0] (fun U => z_U D z_cl z_KT dA Z (z_tys dA) z_nw σ U ∧ kp_Re_closeRule  a0 σ Post)) (z_Qi D z_cl z_KT dA Z (z_tys dA) z_nw Post) 0 0 (fun q => Z ≤ q) := by
  refine Met.ofW (cc := prog_5_method_4_code) (maxL := 1) (ret := (some .boolean)) (by decide) rfl ?_
  intro p e s m args below meth c s₁ B hml hv
  obtain ⟨rfl, ⟨hZ, hG, hK, hN⟩, hw⟩ := hv
  have hx := B.exec
  have hb := B.bytes
  have hr := B.returns
  have hts := atoms_spec (ws := ks_Re_closeRule) B.pre
  have hown : s.vm.findClass kR_Re = some m.cls := findClass_of_methodNamed B.named
  have hlocks := B.notSynchronized
  have hS : va_S (fun q => Z ≤ q) s.heap s.heap [] := va_S.rf
  have hl := lv_entry ([.ref a0]) (n := 1) (Nat.le_of_ble_eq_true rfl)
  rw [lg_entry_eq]
  generalize (lg_sl ([.ref a0]) ++ List.replicate (1 - (lg_sl ([.ref a0])).length) Slot.unset).toArray = ls at hl ⊢
  have hl : lv_has ls 1 [(0, .ref a0)] := hl
  unfold kp_Re_closeRule at hw
  refine lv_aload_n hx hb kb_Re_closeRule_0 rfl (lv_at hl 0 rfl) ?_
  obtain ⟨hy, r1, hrf, hw⟩ := hw
  refine zr_getR (ci := 3) (f := 306) hx hb hts ki_Re hown hK hG hy rfl 6 (by decide) (hts _ (List.mem_cons_of_mem _ kw_249)) (fun _ h => h) rfl rfl hrf kb_Re_closeRule_1 ?_
  obtain ⟨hy, hw⟩ := hw
  refine zr_ci (va_runV (C := kR_Ru) (As := []) (rest := []) ⟨hx, hb, hml, hown, hts⟩ (kc_Ru_hasLooseVariable l D dA Z r1 σ _) ⟨callB_of 0 hts (z_gw kw_316) rfl rfl rfl (hts _ (List.mem_cons_of_mem _ kw_6)) (hts _ (List.mem_cons_of_mem _ kw_313)) (by decide +kernel) ⟨Nat.le_of_ble_eq_true rfl, Nat.le_of_ble_eq_true rfl⟩, (hts _ (List.mem_cons_of_mem _ kw_314)), (hts _ (List.mem_cons_of_mem _ kw_315))⟩ (z_preV z_nwN (Nat.le_trans hZ hS.1) hG hK hN hy (ci := 5) (r := (kR_Ru, kT_Ru, 7)) rfl hw) rfl rfl hl.1 rfl (lv_room (Nat.le_of_ble_eq_true rfl)) kb_Re_closeRule_4 ⟨Nat.le_of_ble_eq_true rfl, Nat.le_of_ble_eq_true rfl⟩) hS (fun r4 σ4 H locs hw hG hS => ?_)
  refine lv_if_eq (tgt := 16) hx hb kb_Re_closeRule_7 (by decide) (fun hc => ?_) (fun hc => ?_)
  · have hw := hw.1 hc
    refine lv_aload_n hx hb kb_Re_closeRule_16 rfl (lv_at hl 0 rfl) ?_
    obtain ⟨hy, r17, hrf, hw⟩ := hw
    refine zr_getR (ci := 3) (f := 300) hx hb hts ki_Re hown hK hG hy rfl 0 (by decide) (hts _ (List.mem_cons_of_mem _ kw_240)) (fun _ h => h) rfl rfl hrf kb_Re_closeRule_17 ?_
    refine lv_aload_n hx hb kb_Re_closeRule_20 rfl (lv_at hl 0 rfl) ?_
    obtain ⟨hy, r21, hrf, hw⟩ := hw
    refine zr_getR (ci := 3) (f := 306) hx hb hts ki_Re hown hK hG hy rfl 6 (by decide) (hts _ (List.mem_cons_of_mem _ kw_249)) (fun _ h => h) rfl rfl hrf kb_Re_closeRule_21 ?_
    obtain ⟨hy, hw⟩ := hw
    refine zr_ci (va_runV (C := kR_Pr) (As := [.ref r21]) (rest := []) ⟨hx, hb, hml, hown, hts⟩ (kc_Pr_refusesCount l D dA Z r17 r21 σ4 _) ⟨callB_of 1 hts (z_gw kw_320) rfl rfl rfl (hts _ (List.mem_cons_of_mem _ kw_2)) (hts _ (List.mem_cons_of_mem _ kw_317)) (by decide +kernel) ⟨Nat.le_of_ble_eq_true rfl, Nat.le_of_ble_eq_true rfl⟩, (hts _ (List.mem_cons_of_mem _ kw_318)), (hts _ (List.mem_cons_of_mem _ kw_319))⟩ (z_preV z_nwN (Nat.le_trans hZ hS.1) hG hK hN hy (ci := 2) (r := (kR_Pr, kT_Pr, 11)) rfl hw) rfl rfl hl.1 rfl (lv_room (Nat.le_of_ble_eq_true rfl)) kb_Re_closeRule_24 ⟨Nat.le_of_ble_eq_true rfl, Nat.le_of_ble_eq_true rfl⟩) hS (fun r24 σ24 H locs hw hG hS => ?_)
    refine lv_if_eq (tgt := 36) hx hb kb_Re_closeRule_27 (by decide) (fun hc => ?_) (fun hc => ?_)
    · have hw := hw.1 hc
      refine lv_aload_n hx hb kb_Re_closeRule_36 rfl (lv_at hl 0 rfl) ?_
      refine lv_dup hx hb kb_Re_closeRule_37 rfl ?_
      obtain ⟨hy, hw⟩ := hw
      refine zr_getI (ci := 3) (f := 305) hx hb hts ki_Re hown hK hG hy rfl 5 (by decide) (hts _ (List.mem_cons_of_mem _ kw_248)) (fun _ h => h) rfl rfl kb_Re_closeRule_38 ?_
      refine lv_iconst (v := (1 : Int32)) hx hb kb_Re_closeRule_41 (by decide) ?_
      refine lv_iadd hx hb kb_Re_closeRule_42 ?_
      obtain ⟨hy, hw⟩ := hw
      refine zr_putI (ci := 3) (f := 305) hx hb hts ki_Re ky_Re kyo_Re kn_Re hown hK hG hS hy rfl 5 (by decide) (hts _ (List.mem_cons_of_mem _ kw_248)) (fun _ h => h) rfl rfl rfl rfl rfl kb_Re_closeRule_43 (fun H locs hG hS => ?_)
      obtain ⟨σ43, e43⟩ : ∃ z, z = z_sI σ24 305 a0 ((z_I σ24 305 a0) + ((1 : Int32))) := ⟨_, rfl⟩
      rw [← e43] at hG
      have hw := hw _ e43
      refine lv_aload_n hx hb kb_Re_closeRule_46 rfl (lv_at hl 0 rfl) ?_
      obtain ⟨hy, r47, hrf, hw⟩ := hw
      refine zr_getR (ci := 3) (f := 306) hx hb hts ki_Re hown hK hG hy rfl 6 (by decide) (hts _ (List.mem_cons_of_mem _ kw_249)) (fun _ h => h) rfl rfl hrf kb_Re_closeRule_47 ?_
      obtain ⟨hy, hw⟩ := hw
      refine zr_cv (va_runV (C := kR_Ru) (As := []) (rest := []) ⟨hx, hb, hml, hown, hts⟩ (kc_Ru_arrange l D dA Z r47 σ43 _) ⟨callB_of 0 hts (z_gw kw_336) rfl rfl rfl (hts _ (List.mem_cons_of_mem _ kw_6)) (hts _ (List.mem_cons_of_mem _ kw_333)) (by decide +kernel) ⟨Nat.le_of_ble_eq_true rfl, Nat.le_of_ble_eq_true rfl⟩, (hts _ (List.mem_cons_of_mem _ kw_334)), (hts _ (List.mem_cons_of_mem _ kw_335))⟩ (z_preV z_nwN (Nat.le_trans hZ hS.1) hG hK hN hy (ci := 5) (r := (kR_Ru, kT_Ru, 7)) rfl hw) rfl rfl hl.1 rfl (lv_room (Nat.le_of_ble_eq_true rfl)) kb_Re_closeRule_50 ⟨Nat.le_of_ble_eq_true rfl, Nat.le_of_ble_eq_true rfl⟩) hS (fun σ50 H locs hw hG hS => ?_)
      refine lv_aload_n hx hb kb_Re_closeRule_53 rfl (lv_at hl 0 rfl) ?_
      obtain ⟨hy, r54, hrf, hw⟩ := hw
      refine zr_getR (ci := 3) (f := 300) hx hb hts ki_Re hown hK hG hy rfl 0 (by decide) (hts _ (List.mem_cons_of_mem _ kw_240)) (fun _ h => h) rfl rfl hrf kb_Re_closeRule_54 ?_
      refine lv_aload_n hx hb kb_Re_closeRule_57 rfl (lv_at hl 0 rfl) ?_
      obtain ⟨hy, r58, hrf, hw⟩ := hw
      refine zr_getR (ci := 3) (f := 306) hx hb hts ki_Re hown hK hG hy rfl 6 (by decide) (hts _ (List.mem_cons_of_mem _ kw_249)) (fun _ h => h) rfl rfl hrf kb_Re_closeRule_58 ?_
      obtain ⟨hy, hw⟩ := hw
      refine zr_cv (va_runV (C := kR_Pr) (As := [.ref r58]) (rest := []) ⟨hx, hb, hml, hown, hts⟩ (kc_Pr_append l D dA Z r54 r58 σ50 _) ⟨callB_of 1 hts (z_gw kw_343) rfl rfl rfl (hts _ (List.mem_cons_of_mem _ kw_2)) (hts _ (List.mem_cons_of_mem _ kw_340)) (by decide +kernel) ⟨Nat.le_of_ble_eq_true rfl, Nat.le_of_ble_eq_true rfl⟩, (hts _ (List.mem_cons_of_mem _ kw_341)), (hts _ (List.mem_cons_of_mem _ kw_342))⟩ (z_preV z_nwN (Nat.le_trans hZ hS.1) hG hK hN hy (ci := 2) (r := (kR_Pr, kT_Pr, 11)) rfl hw) rfl rfl hl.1 rfl (lv_room (Nat.le_of_ble_eq_true rfl)) kb_Re_closeRule_61 ⟨Nat.le_of_ble_eq_true rfl, Nat.le_of_ble_eq_true rfl⟩) hS (fun σ61 H locs hw hG hS => ?_)
      refine lv_iconst (v := (1 : Int32)) hx hb kb_Re_closeRule_64 (by decide) ?_
      exact zr_iret (free := fun q => Z ≤ q) z_nwN hx hb hr rfl hZ hK hN hG hS hw kb_Re_closeRule_65 hlocks
    · have hw := hw.2 hc
      refine lv_aload_n hx hb kb_Re_closeRule_30 rfl (lv_at hl 0 rfl) ?_
      refine lv_iconst (v := (5 : Int32)) hx hb kb_Re_closeRule_31 (by decide) ?_
      obtain ⟨hy, hw⟩ := hw
      refine zr_ci (va_runV (C := kR_Re) (As := [.int ((5 : Int32))]) (rest := []) ⟨hx, hb, hml, hown, hts⟩ (kc_Re_fail l D dA Z a0 ((5 : Int32)) σ24 _) ⟨callB_of 1 hts (z_gw kw_272) rfl rfl rfl (hts _ (List.mem_cons_of_mem _ kw_10)) (hts _ (List.mem_cons_of_mem _ kw_270)) (by decide +kernel) ⟨Nat.le_of_ble_eq_true rfl, Nat.le_of_ble_eq_true rfl⟩, (hts _ (List.mem_cons_of_mem _ kw_271)), (hts _ (List.mem_cons_of_mem _ kw_911))⟩ (z_preV z_nwN (Nat.le_trans hZ hS.1) hG hK hN hy (ci := 3) (r := (kR_Re, kT_Re, 7)) rfl hw) rfl rfl hl.1 rfl (lv_room (Nat.le_of_ble_eq_true rfl)) kb_Re_closeRule_32 ⟨Nat.le_of_ble_eq_true rfl, Nat.le_of_ble_eq_true rfl⟩) hS (fun r32 σ32 H locs hw hG hS => ?_)
      exact zr_iret (free := fun q => Z ≤ q) z_nwN hx hb hr (z_bool hw.1) hZ hK hN hG hS hw.2 kb_Re_closeRule_35 hlocks
  · have hw := hw.2 hc
    refine lv_aload_n hx hb kb_Re_closeRule_10 rfl (lv_at hl 0 rfl) ?_
    refine lv_iconst (v := (4 : Int32)) hx hb kb_Re_closeRule_11 (by decide) ?_
    obtain ⟨hy, hw⟩ := hw
    refine zr_ci (va_runV (C := kR_Re) (As := [.int ((4 : Int32))]) (rest := []) ⟨hx, hb, hml, hown, hts⟩ (kc_Re_fail l D dA Z a0 ((4 : Int32)) σ4 _) ⟨callB_of 1 hts (z_gw kw_272) rfl rfl rfl (hts _ (List.mem_cons_of_mem _ kw_10)) (hts _ (List.mem_cons_of_mem _ kw_270)) (by decide +kernel) ⟨Nat.le_of_ble_eq_true rfl, Nat.le_of_ble_eq_true rfl⟩, (hts _ (List.mem_cons_of_mem _ kw_271)), (hts _ (List.mem_cons_of_mem _ kw_911))⟩ (z_preV z_nwN (Nat.le_trans hZ hS.1) hG hK hN hy (ci := 3) (r := (kR_Re, kT_Re, 7)) rfl hw) rfl rfl hl.1 rfl (lv_room (Nat.le_of_ble_eq_true rfl)) kb_Re_closeRule_12 ⟨Nat.le_of_ble_eq_true rfl, Nat.le_of_ble_eq_true rfl⟩) hS (fun r12 σ12 H locs hw hG hS => ?_)
    exact zr_iret (free := fun q => Z ≤ q) z_nwN hx hb hr (z_bool hw.1) hZ hK hN hG hS hw.2 kb_Re_closeRule_15 hlocks
def kp_Re_readOperator (a0 : Nat) (b1 : Nat) (σ : z_S) (Post : Int32 → z_S → Prop) : Prop := ∀ (X29 : Int32 → z_S → Prop),
    (∀ (v2 : Int32) (σ : z_S), (z_ty σ b1 = some (.inl 0) ∧ ∀ σ31, σ31 = z_sI σ 4 b1 v2 → z_ty σ31 a0 = some (.inl 3) ∧ (z_ty σ31 a0 = some (.inl 3) ∧ ∀ σ41, σ41 = z_sI σ31 305 a0 ((z_I σ31 305 a0) + ((1 : Int32))) → Post ((1 : Int32)) σ41)) → X29 v2 σ) →
    (z_ty σ a0 = some (.inl 3) ∧ kp_Re_sign a0 σ (fun (r1 : Int32) (σ1 : z_S) => (r1 = ((60 : Int32)) → X29 r1 σ1) ∧ (¬ r1 = ((60 : Int32)) → (r1 = ((61 : Int32)) → X29 r1 σ1) ∧ (¬ r1 = ((61 : Int32)) → (r1 = ((33 : Int32)) → X29 r1 σ1) ∧ (¬ r1 = ((33 : Int32)) → z_ty σ1 a0 = some (.inl 3) ∧ kp_Re_fail a0 ((1 : Int32)) σ1 (fun (r25 : Int32) (σ25 : z_S) => (r25 = 0 ∨ r25 = 1) ∧ Post r25 σ25))))))
set_option maxHeartbeats 4000000 in
set_option maxRecDepth 100000 in
theorem kc_Re_readOperator (l : Launch) (D : va_G) (dA : Nat → ClassId) (Z : Nat) (a0 : Nat) (b1 : Nat) (σ : z_S) (Post : Int32 → z_S → Prop) : Met l km_Re_readOperator ks_Re_readOperator kr_Re_readOperator (va_Pc [.ref a0, .ref b1] (fun U => z_U D z_cl z_KT dA Z (z_tys dA) z_nw σ U ∧ kp_Re_readOperator  a0 b1 σ Post)) (z_Qi D z_cl z_KT dA Z (z_tys dA) z_nw Post) 0 0 (fun q => Z ≤ q) := by
  refine Met.ofW (cc := prog_5_method_6_code) (maxL := 3) (ret := (some .boolean)) (by decide) rfl ?_
  intro p e s m args below meth c s₁ B hml hv
  obtain ⟨rfl, ⟨hZ, hG, hK, hN⟩, hw⟩ := hv
  have hx := B.exec
  have hb := B.bytes
  have hr := B.returns
  have hts := atoms_spec (ws := ks_Re_readOperator) B.pre
  have hown : s.vm.findClass kR_Re = some m.cls := findClass_of_methodNamed B.named
  have hlocks := B.notSynchronized
  have hS : va_S (fun q => Z ≤ q) s.heap s.heap [] := va_S.rf
  have hl := lv_entry ([.ref a0, .ref b1]) (n := 3) (Nat.le_of_ble_eq_true rfl)
  rw [lg_entry_eq]
  generalize (lg_sl ([.ref a0, .ref b1]) ++ List.replicate (3 - (lg_sl ([.ref a0, .ref b1])).length) Slot.unset).toArray = ls at hl ⊢
  have hl : lv_has ls 3 [(0, .ref a0), (1, .ref b1)] := hl
  unfold kp_Re_readOperator at hw
  have hw := hw (fun (v2 : Int32) (σ : z_S) => ∀ (H : Heap) (locs : List Loc) (ls : Array Slot), z_G D z_cl z_KT dA Z σ H → va_S (fun q => Z ≤ q) s.heap H locs → lv_has ls 3 [(0, .ref a0), (1, .ref b1), (2, .int v2)] → W p l e (headSpec ks_Re_readOperator kr_Re_readOperator).room s m ([.ref a0, .ref b1] : List Value).toArray below meth c H locs 0 0 (MQ below (z_Qi D z_cl z_KT dA Z (z_tys dA) z_nw Post) ([.ref a0, .ref b1] : List Value).toArray s 0 0 (fun q => Z ≤ q)) (F0 m 29 ls []))
  have hw := hw (by
    intro v2 σ hw H locs ls hG hS hl
    refine lv_aload_n hx hb kb_Re_readOperator_29 rfl (lv_at hl 1 rfl) ?_
    refine lv_iload_n hx hb kb_Re_readOperator_30 rfl (lv_at hl 2 rfl) ?_
    obtain ⟨hy, hw⟩ := hw
    refine zr_putI (ci := 0) (f := 4) hx hb hts ki_At ky_At kyo_At kn_At hown hK hG hS hy rfl 4 (by decide) (hts _ (List.mem_cons_of_mem _ kw_115)) (fun _ h => h) rfl rfl rfl rfl rfl kb_Re_readOperator_31 (fun H locs hG hS => ?_)
    obtain ⟨σ31, e31⟩ : ∃ z, z = z_sI σ 4 b1 v2 := ⟨_, rfl⟩
    rw [← e31] at hG
    have hw := hw _ e31
    refine lv_aload_n hx hb kb_Re_readOperator_34 rfl (lv_at hl 0 rfl) ?_
    refine lv_dup hx hb kb_Re_readOperator_35 rfl ?_
    obtain ⟨hy, hw⟩ := hw
    refine zr_getI (ci := 3) (f := 305) hx hb hts ki_Re hown hK hG hy rfl 5 (by decide) (hts _ (List.mem_cons_of_mem _ kw_248)) (fun _ h => h) rfl rfl kb_Re_readOperator_36 ?_
    refine lv_iconst (v := (1 : Int32)) hx hb kb_Re_readOperator_39 (by decide) ?_
    refine lv_iadd hx hb kb_Re_readOperator_40 ?_
    obtain ⟨hy, hw⟩ := hw
    refine zr_putI (ci := 3) (f := 305) hx hb hts ki_Re ky_Re kyo_Re kn_Re hown hK hG hS hy rfl 5 (by decide) (hts _ (List.mem_cons_of_mem _ kw_248)) (fun _ h => h) rfl rfl rfl rfl rfl kb_Re_readOperator_41 (fun H locs hG hS => ?_)
    obtain ⟨σ41, e41⟩ : ∃ z, z = z_sI σ31 305 a0 ((z_I σ31 305 a0) + ((1 : Int32))) := ⟨_, rfl⟩
    rw [← e41] at hG
    have hw := hw _ e41
    refine lv_iconst (v := (1 : Int32)) hx hb kb_Re_readOperator_44 (by decide) ?_
    exact zr_iret (free := fun q => Z ≤ q) z_nwN hx hb hr rfl hZ hK hN hG hS hw kb_Re_readOperator_45 hlocks)
  refine lv_aload_n hx hb kb_Re_readOperator_0 rfl (lv_at hl 0 rfl) ?_
  obtain ⟨hy, hw⟩ := hw
  refine zr_ci (va_runV (C := kR_Re) (As := []) (rest := []) ⟨hx, hb, hml, hown, hts⟩ (kc_Re_sign l D dA Z a0 σ _) ⟨callB_of 0 hts (z_gw kw_263) rfl rfl rfl (hts _ (List.mem_cons_of_mem _ kw_10)) (hts _ (List.mem_cons_of_mem _ kw_261)) (by decide +kernel) ⟨Nat.le_of_ble_eq_true rfl, Nat.le_of_ble_eq_true rfl⟩, (hts _ (List.mem_cons_of_mem _ kw_262)), (hts _ (List.mem_cons_of_mem _ kw_909))⟩ (z_preV z_nwN (Nat.le_trans hZ hS.1) hG hK hN hy (ci := 3) (r := (kR_Re, kT_Re, 7)) rfl hw) rfl rfl hl.1 rfl (lv_room (Nat.le_of_ble_eq_true rfl)) kb_Re_readOperator_1 ⟨Nat.le_of_ble_eq_true rfl, Nat.le_of_ble_eq_true rfl⟩) hS (fun r1 σ1 H locs hw hG hS => ?_)
  refine lv_istore_n (lv' := [(2, .int r1), (0, .ref a0), (1, .ref b1)]) hx hb kb_Re_readOperator_4 rfl hl (by decide) rfl (fun ls hl => ?_)
  refine lv_iload_n hx hb kb_Re_readOperator_5 rfl (lv_at hl 0 rfl) ?_
  refine lv_bipush (v := (60 : Int32)) hx hb kb_Re_readOperator_6 (by decide) ?_
  refine lv_icmp_eq (tgt := 29) hx hb kb_Re_readOperator_8 (by decide) (fun hc => ?_) (fun hc => ?_)
  · have hw := hw.1 hc
    exact hw _ _ _ hG hS (lv_sub hl [1, 2, 0] rfl)
  · have hw := hw.2 hc
    refine lv_iload_n hx hb kb_Re_readOperator_11 rfl (lv_at hl 0 rfl) ?_
    refine lv_bipush (v := (61 : Int32)) hx hb kb_Re_readOperator_12 (by decide) ?_
    refine lv_icmp_eq (tgt := 29) hx hb kb_Re_readOperator_14 (by decide) (fun hc => ?_) (fun hc => ?_)
    · have hw := hw.1 hc
      exact hw _ _ _ hG hS (lv_sub hl [1, 2, 0] rfl)
    · have hw := hw.2 hc
      refine lv_iload_n hx hb kb_Re_readOperator_17 rfl (lv_at hl 0 rfl) ?_
      refine lv_bipush (v := (33 : Int32)) hx hb kb_Re_readOperator_18 (by decide) ?_
      refine lv_icmp_eq (tgt := 29) hx hb kb_Re_readOperator_20 (by decide) (fun hc => ?_) (fun hc => ?_)
      · have hw := hw.1 hc
        exact hw _ _ _ hG hS (lv_sub hl [1, 2, 0] rfl)
      · have hw := hw.2 hc
        refine lv_aload_n hx hb kb_Re_readOperator_23 rfl (lv_at hl 1 rfl) ?_
        refine lv_iconst (v := (1 : Int32)) hx hb kb_Re_readOperator_24 (by decide) ?_
        obtain ⟨hy, hw⟩ := hw
        refine zr_ci (va_runV (C := kR_Re) (As := [.int ((1 : Int32))]) (rest := []) ⟨hx, hb, hml, hown, hts⟩ (kc_Re_fail l D dA Z a0 ((1 : Int32)) σ1 _) ⟨callB_of 1 hts (z_gw kw_272) rfl rfl rfl (hts _ (List.mem_cons_of_mem _ kw_10)) (hts _ (List.mem_cons_of_mem _ kw_270)) (by decide +kernel) ⟨Nat.le_of_ble_eq_true rfl, Nat.le_of_ble_eq_true rfl⟩, (hts _ (List.mem_cons_of_mem _ kw_271)), (hts _ (List.mem_cons_of_mem _ kw_911))⟩ (z_preV z_nwN (Nat.le_trans hZ hS.1) hG hK hN hy (ci := 3) (r := (kR_Re, kT_Re, 7)) rfl hw) rfl rfl hl.1 rfl (lv_room (Nat.le_of_ble_eq_true rfl)) kb_Re_readOperator_25 ⟨Nat.le_of_ble_eq_true rfl, Nat.le_of_ble_eq_true rfl⟩) hS (fun r25 σ25 H locs hw hG hS => ?_)
        exact zr_iret (free := fun q => Z ≤ q) z_nwN hx hb hr (z_bool hw.1) hZ hK hN hG hS hw.2 kb_Re_readOperator_28 hlocks
def kp_Ru_append (a0 : Nat) (b1 : Nat) (σ : z_S) (Post : z_S → Prop) : Prop := ∀ (X46 : Nat → Int32 → Int32 → z_S → Prop),
    (∀ (t0 : Nat) (t1 : Int32) (t2 : Int32) (σ : z_S), (z_ty σ t0 = some (.inl 5) ∧ ∀ σ47, σ47 = z_sI σ 503 t0 (t1 + t2) → Post σ47) → X46 t0 t1 t2 σ) →
    (z_ty σ a0 = some (.inl 5) ∧ (((z_I σ 502 a0) < ((5 : Int32)) → z_ty σ a0 = some (.inl 5) ∧ ∃ r10, z_R σ 501 a0 = some r10 ∧ (z_ty σ a0 = some (.inl 5) ∧ (∃ n18 s18, z_ty σ r10 = some (.inr (11, n18, s18)) ∧ vp_in (z_I σ 502 a0) n18 ∧ z_ty σ b1 = some (.inl 0) ∧ ∀ σ18, σ18 = z_sQ σ s18 r10 (va_up (z_Q σ s18 r10) (z_I σ 502 a0).toNatClampNeg (some b1)) → z_ty σ18 a0 = some (.inl 5) ∧ (z_ty σ18 a0 = some (.inl 5) ∧ ∀ σ26, σ26 = z_sI σ18 502 a0 ((z_I σ18 502 a0) + ((1 : Int32))) → z_ty σ26 a0 = some (.inl 5) ∧ (z_ty σ26 b1 = some (.inl 0) ∧ ((¬ ((z_I σ26 2 b1)) = 0 → X46 a0 (z_I σ26 503 a0) ((0 : Int32)) σ26) ∧ (((z_I σ26 2 b1)) = 0 → X46 a0 (z_I σ26 503 a0) ((1 : Int32)) σ26))))))) ∧ (¬ (z_I σ 502 a0) < ((5 : Int32)) → Post σ)))
set_option maxHeartbeats 4000000 in
set_option maxRecDepth 100000 in
theorem kc_Ru_append (l : Launch) (D : va_G) (dA : Nat → ClassId) (Z : Nat) (a0 : Nat) (b1 : Nat) (σ : z_S) (Post : z_S → Prop) : Met l km_Ru_append ks_Ru_append kr_Ru_append (va_Pc [.ref a0, .ref b1] (fun U => z_U D z_cl z_KT dA Z (z_tys dA) z_nw σ U ∧ kp_Ru_append  a0 b1 σ Post)) (z_Qv D z_cl z_KT dA Z (z_tys dA) z_nw Post) 0 0 (fun q => Z ≤ q) := by
  refine Met.ofW (cc := prog_7_method_2_code) (maxL := 2) (ret := none) (by decide) rfl ?_
  intro p e s m args below meth c s₁ B hml hv
  obtain ⟨rfl, ⟨hZ, hG, hK, hN⟩, hw⟩ := hv
  have hx := B.exec
  have hb := B.bytes
  have hr := B.returns
  have hts := atoms_spec (ws := ks_Ru_append) B.pre
  have hown : s.vm.findClass kR_Ru = some m.cls := findClass_of_methodNamed B.named
  have hlocks := B.notSynchronized
  have hS : va_S (fun q => Z ≤ q) s.heap s.heap [] := va_S.rf
  have hl := lv_entry ([.ref a0, .ref b1]) (n := 2) (Nat.le_of_ble_eq_true rfl)
  rw [lg_entry_eq]
  generalize (lg_sl ([.ref a0, .ref b1]) ++ List.replicate (2 - (lg_sl ([.ref a0, .ref b1])).length) Slot.unset).toArray = ls at hl ⊢
  have hl : lv_has ls 2 [(0, .ref a0), (1, .ref b1)] := hl
  unfold kp_Ru_append at hw
  have hw := hw (fun (t0 : Nat) (t1 : Int32) (t2 : Int32) (σ : z_S) => ∀ (H : Heap) (locs : List Loc) (ls : Array Slot), z_G D z_cl z_KT dA Z σ H → va_S (fun q => Z ≤ q) s.heap H locs → lv_has ls 2 [] → W p l e (headSpec ks_Ru_append kr_Ru_append).room s m ([.ref a0, .ref b1] : List Value).toArray below meth c H locs 0 0 (MQ below (z_Qv D z_cl z_KT dA Z (z_tys dA) z_nw Post) ([.ref a0, .ref b1] : List Value).toArray s 0 0 (fun q => Z ≤ q)) (F0 m 46 ls [.int t2, .int t1, .ref t0]))
  have hw := hw (by
    intro t0 t1 t2 σ hw H locs ls hG hS hl
    refine lv_iadd hx hb kb_Ru_append_46 ?_
    obtain ⟨hy, hw⟩ := hw
    refine zr_putI (ci := 5) (f := 503) hx hb hts ki_Ru ky_Ru kyo_Ru kn_Ru hown hK hG hS hy rfl 3 (by decide) (hts _ (List.mem_cons_of_mem _ kw_137)) (fun _ h => h) rfl rfl rfl rfl rfl kb_Ru_append_47 (fun H locs hG hS => ?_)
    obtain ⟨σ47, e47⟩ : ∃ z, z = z_sI σ 503 t0 (t1 + t2) := ⟨_, rfl⟩
    rw [← e47] at hG
    have hw := hw _ e47
    exact zr_vret z_nwN hx hb hr hZ hK hN hG hS hw kb_Ru_append_50 hlocks)
  refine lv_aload_n hx hb kb_Ru_append_0 rfl (lv_at hl 0 rfl) ?_
  obtain ⟨hy, hw⟩ := hw
  refine zr_getI (ci := 5) (f := 502) hx hb hts ki_Ru hown hK hG hy rfl 2 (by decide) (hts _ (List.mem_cons_of_mem _ kw_133)) (fun _ h => h) rfl rfl kb_Ru_append_1 ?_
  refine lv_iconst (v := (5 : Int32)) hx hb kb_Ru_append_4 (by decide) ?_
  refine lv_icmp_lt (tgt := 9) hx hb kb_Ru_append_5 (by decide) (fun hc => ?_) (fun hc => ?_)
  · have hw := hw.1 hc
    refine lv_aload_n hx hb kb_Ru_append_9 rfl (lv_at hl 0 rfl) ?_
    obtain ⟨hy, r10, hrf, hw⟩ := hw
    refine zr_getR (ci := 5) (f := 501) hx hb hts ki_Ru hown hK hG hy rfl 1 (by decide) (hts _ (List.mem_cons_of_mem _ kw_130)) (fun _ h => h) rfl rfl hrf kb_Ru_append_10 ?_
    refine lv_aload_n hx hb kb_Ru_append_13 rfl (lv_at hl 0 rfl) ?_
    obtain ⟨hy, hw⟩ := hw
    refine zr_getI (ci := 5) (f := 502) hx hb hts ki_Ru hown hK hG hy rfl 2 (by decide) (hts _ (List.mem_cons_of_mem _ kw_133)) (fun _ h => h) rfl rfl kb_Ru_append_14 ?_
    refine lv_aload_n hx hb kb_Ru_append_17 rfl (lv_at hl 1 rfl) ?_
    obtain ⟨n18, s18, hy, hi, hv, hw⟩ := hw
    refine zr_aast hx hb hK hG hS 6 0 (by decide) hy rfl hv rfl hi kb_Ru_append_18 (fun H locs hG hS => ?_)
    obtain ⟨σ18, e18⟩ : ∃ z, z = z_sQ σ s18 r10 (va_up (z_Q σ s18 r10) (z_I σ 502 a0).toNatClampNeg (some b1)) := ⟨_, rfl⟩
    rw [← e18] at hG
    have hw := hw _ e18
    refine lv_aload_n hx hb kb_Ru_append_19 rfl (lv_at hl 0 rfl) ?_
    refine lv_dup hx hb kb_Ru_append_20 rfl ?_
    obtain ⟨hy, hw⟩ := hw
    refine zr_getI (ci := 5) (f := 502) hx hb hts ki_Ru hown hK hG hy rfl 2 (by decide) (hts _ (List.mem_cons_of_mem _ kw_133)) (fun _ h => h) rfl rfl kb_Ru_append_21 ?_
    refine lv_iconst (v := (1 : Int32)) hx hb kb_Ru_append_24 (by decide) ?_
    refine lv_iadd hx hb kb_Ru_append_25 ?_
    obtain ⟨hy, hw⟩ := hw
    refine zr_putI (ci := 5) (f := 502) hx hb hts ki_Ru ky_Ru kyo_Ru kn_Ru hown hK hG hS hy rfl 2 (by decide) (hts _ (List.mem_cons_of_mem _ kw_133)) (fun _ h => h) rfl rfl rfl rfl rfl kb_Ru_append_26 (fun H locs hG hS => ?_)
    obtain ⟨σ26, e26⟩ : ∃ z, z = z_sI σ18 502 a0 ((z_I σ18 502 a0) + ((1 : Int32))) := ⟨_, rfl⟩
    rw [← e26] at hG
    have hw := hw _ e26
    refine lv_aload_n hx hb kb_Ru_append_29 rfl (lv_at hl 0 rfl) ?_
    refine lv_dup hx hb kb_Ru_append_30 rfl ?_
    obtain ⟨hy, hw⟩ := hw
    refine zr_getI (ci := 5) (f := 503) hx hb hts ki_Ru hown hK hG hy rfl 3 (by decide) (hts _ (List.mem_cons_of_mem _ kw_137)) (fun _ h => h) rfl rfl kb_Ru_append_31 ?_
    refine lv_aload_n hx hb kb_Ru_append_34 rfl (lv_at hl 1 rfl) ?_
    obtain ⟨hy, hw⟩ := hw
    refine zr_getI (ci := 0) (f := 2) hx hb hts ki_At hown hK hG hy rfl 2 (by decide) (hts _ (List.mem_cons_of_mem _ kw_108)) (fun _ h => h) rfl rfl kb_Ru_append_35 ?_
    refine lv_if_ne (tgt := 45) hx hb kb_Ru_append_38 (by decide) (fun hc => ?_) (fun hc => ?_)
    · have hw := hw.1 hc
      refine lv_iconst (v := (0 : Int32)) hx hb kb_Ru_append_45 (by decide) ?_
      exact hw _ _ _ hG hS (lv_sub hl [] rfl)
    · have hw := hw.2 hc
      refine lv_iconst (v := (1 : Int32)) hx hb kb_Ru_append_41 (by decide) ?_
      refine lv_goto (tgt := 46) hx hb kb_Ru_append_42 (by decide) ?_
      exact hw _ _ _ hG hS (lv_sub hl [] rfl)
  · have hw := hw.2 hc
    exact zr_vret z_nwN hx hb hr hZ hK hN hG hS hw kb_Ru_append_8 hlocks
