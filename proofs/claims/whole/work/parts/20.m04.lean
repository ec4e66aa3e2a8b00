def kp_Mo_feed (a0 : Nat) (x1 : Int64) (x2 : Int32) (σ : z_S) (Post : Int32 → z_S → Prop) : Prop := ∀ (X31 : Int32 → z_S → Prop),
    (∀ (v4 : Int32) (σ : z_S), ((x2 ≤ v4 → z_ty σ a0 = some (.inl 8) ∧ (Post (z_I σ 801 a0) σ)) ∧ (¬ x2 ≤ v4 → z_ty σ a0 = some (.inl 8) ∧ ∃ r38, z_R σ 800 a0 = some r38 ∧ (z_ty σ a0 = some (.inl 8) ∧ (∃ n54 s54, z_ty σ r38 = some (.inr (1, n54, s54)) ∧ vp_in (z_I σ 801 a0) n54 ∧ ∀ σ54, σ54 = z_sA σ s54 r38 (upd (z_A σ s54 r38) (z_I σ 801 a0).toNatClampNeg (vp_nar .byte (((x1 >>> ((((8 : Int32)) * v4).toInt64 &&& 63)).toInt32).toInt8.toInt32))) → z_ty σ54 a0 = some (.inl 8) ∧ (z_ty σ54 a0 = some (.inl 8) ∧ ∀ σ62, σ62 = z_sI σ54 801 a0 ((z_I σ54 801 a0) + ((1 : Int32))) → X31 (v4 + (1 : Int32)) σ62))))) → X31 v4 σ) →
    (kp_Mo_isIn x2 ((1 : Int32)) ((8 : Int32)) σ (fun (r4 : Int32) (σ4 : z_S) => (¬ r4 = 0 → z_ty σ4 a0 = some (.inl 8) ∧ ((((z_I σ4 801 a0) + x2) ≤ ((600 : Int32)) → X31 ((0 : Int32)) σ4) ∧ (¬ ((z_I σ4 801 a0) + x2) ≤ ((600 : Int32)) → Post ((-3 : Int32)) σ4))) ∧ (r4 = 0 → Post ((-2 : Int32)) σ4)))
set_option maxHeartbeats 4000000 in
set_option maxRecDepth 100000 in
theorem kc_Mo_feed (l : Launch) (D : va_G) (dA : Nat → ClassId) (Z : Nat) (a0 : Nat) (x1 : Int64) (x2 : Int32) (σ : z_S) (Post : Int32 → z_S → Prop) : Met l km_Mo_feed ks_Mo_feed kr_Mo_feed (va_Pc [.ref a0, .long x1, .int x2] (fun U => z_U D z_cl z_KT dA Z (z_tys dA) z_nw σ U ∧ kp_Mo_feed  a0 x1 x2 σ Post)) (z_Qi D z_cl z_KT dA Z (z_tys dA) z_nw Post) 0 0 (fun q => Z ≤ q) := by
  refine Met.ofW (cc := prog_10_method_44_code) (maxL := 5) (ret := (some .int)) (by decide) rfl ?_
  intro p e s m args below meth c s₁ B hml hv
  obtain ⟨rfl, ⟨hZ, hG, hK, hN⟩, hw⟩ := hv
  have hx := B.exec
  have hb := B.bytes
  have hr := B.returns
  have hts := atoms_spec (ws := ks_Mo_feed) B.pre
  have hown : s.vm.findClass kR_Mo = some m.cls := findClass_of_methodNamed B.named
  have hlocks := B.notSynchronized
  have hS : va_S (fun q => Z ≤ q) s.heap s.heap [] := va_S.rf
  have hl := lv_entry ([.ref a0, .long x1, .int x2]) (n := 5) (Nat.le_of_ble_eq_true rfl)
  rw [lg_entry_eq]
  generalize (lg_sl ([.ref a0, .long x1, .int x2]) ++ List.replicate (5 - (lg_sl ([.ref a0, .long x1, .int x2])).length) Slot.unset).toArray = ls at hl ⊢
  have hl : lv_has ls 5 [(0, .ref a0), (1, .long x1), (3, .int x2)] := hl
  unfold kp_Mo_feed at hw
  have hw := hw (fun (v4 : Int32) (σ : z_S) => ∀ (H : Heap) (locs : List Loc) (ls : Array Slot), z_G D z_cl z_KT dA Z σ H → va_S (fun q => Z ≤ q) s.heap H locs → lv_has ls 5 [(0, .ref a0), (1, .long x1), (3, .int x2), (4, .int v4)] → W p l e (headSpec ks_Mo_feed kr_Mo_feed).room s m ([.ref a0, .long x1, .int x2] : List Value).toArray below meth c H locs 0 0 (MQ below (z_Qi D z_cl z_KT dA Z (z_tys dA) z_nw Post) ([.ref a0, .long x1, .int x2] : List Value).toArray s 0 0 (fun q => Z ≤ q)) (F0 m 31 ls []))
  have hw := hw (by
    intro v4 σ hw H locs ls hG hS hl
    refine lv_iload hx hb kb_Mo_feed_31 (lv_at hl 3 rfl) ?_
    refine lv_iload_n hx hb kb_Mo_feed_33 rfl (lv_at hl 2 rfl) ?_
    refine lv_icmp_ge (tgt := 71) hx hb kb_Mo_feed_34 (by decide) (fun hc => ?_) (fun hc => ?_)
    · have hw := hw.1 hc
      refine lv_aload_n hx hb kb_Mo_feed_71 rfl (lv_at hl 0 rfl) ?_
      obtain ⟨hy, hw⟩ := hw
      refine zr_getI (ci := 8) (f := 801) hx hb hts ki_Mo hown hK hG hy rfl 1 (by decide) (hts _ (List.mem_cons_of_mem _ kw_585)) (fun _ h => h) rfl rfl kb_Mo_feed_72 ?_
      exact zr_iret (free := fun q => Z ≤ q) z_nwN hx hb hr rfl hZ hK hN hG hS hw kb_Mo_feed_75 hlocks
    · have hw := hw.2 hc
      refine lv_aload_n hx hb kb_Mo_feed_37 rfl (lv_at hl 0 rfl) ?_
      obtain ⟨hy, r38, hrf, hw⟩ := hw
      refine zr_getR (ci := 8) (f := 800) hx hb hts ki_Mo hown hK hG hy rfl 0 (by decide) (hts _ (List.mem_cons_of_mem _ kw_584)) (fun _ h => h) rfl rfl hrf kb_Mo_feed_38 ?_
      refine lv_aload_n hx hb kb_Mo_feed_41 rfl (lv_at hl 0 rfl) ?_
      obtain ⟨hy, hw⟩ := hw
      refine zr_getI (ci := 8) (f := 801) hx hb hts ki_Mo hown hK hG hy rfl 1 (by decide) (hts _ (List.mem_cons_of_mem _ kw_585)) (fun _ h => h) rfl rfl kb_Mo_feed_42 ?_
      refine lv_lload_n hx hb kb_Mo_feed_45 rfl (lv_at hl 1 rfl) ?_
      refine lv_bipush (v := (8 : Int32)) hx hb kb_Mo_feed_46 (by decide) ?_
      refine lv_iload hx hb kb_Mo_feed_48 (lv_at hl 3 rfl) ?_
      refine lv_imul hx hb kb_Mo_feed_50 ?_
      refine lv_lshr hx hb kb_Mo_feed_51 rfl ?_
      refine lv_l2i hx hb kb_Mo_feed_52 rfl ?_
      refine lv_i2b hx hb kb_Mo_feed_53 rfl ?_
      obtain ⟨n54, s54, hy, hi, hw⟩ := hw
      refine zr_bast hx hb hK hG hS 1 hy rfl hi kb_Mo_feed_54 (fun H locs hG hS => ?_)
      obtain ⟨σ54, e54⟩ : ∃ z, z = z_sA σ s54 r38 (upd (z_A σ s54 r38) (z_I σ 801 a0).toNatClampNeg (vp_nar .byte (((x1 >>> ((((8 : Int32)) * v4).toInt64 &&& 63)).toInt32).toInt8.toInt32))) := ⟨_, rfl⟩
      rw [← e54] at hG
      have hw := hw _ e54
      refine lv_aload_n hx hb kb_Mo_feed_55 rfl (lv_at hl 0 rfl) ?_
      refine lv_dup hx hb kb_Mo_feed_56 rfl ?_
      obtain ⟨hy, hw⟩ := hw
      refine zr_getI (ci := 8) (f := 801) hx hb hts ki_Mo hown hK hG hy rfl 1 (by decide) (hts _ (List.mem_cons_of_mem _ kw_585)) (fun _ h => h) rfl rfl kb_Mo_feed_57 ?_
      refine lv_iconst (v := (1 : Int32)) hx hb kb_Mo_feed_60 (by decide) ?_
      refine lv_iadd hx hb kb_Mo_feed_61 ?_
      obtain ⟨hy, hw⟩ := hw
      refine zr_putI (ci := 8) (f := 801) hx hb hts ki_Mo ky_Mo kyo_Mo kn_Mo hown hK hG hS hy rfl 1 (by decide) (hts _ (List.mem_cons_of_mem _ kw_585)) (fun _ h => h) rfl rfl rfl rfl rfl kb_Mo_feed_62 (fun H locs hG hS => ?_)
      obtain ⟨σ62, e62⟩ : ∃ z, z = z_sI σ54 801 a0 ((z_I σ54 801 a0) + ((1 : Int32))) := ⟨_, rfl⟩
      rw [← e62] at hG
      have hw := hw _ e62
      refine lv_iinc (v := v4 + (1 : Int32)) (lv' := [(4, .int (v4 + (1 : Int32))), (0, .ref a0), (1, .long x1), (3, .int x2)]) hx hb kb_Mo_feed_65 hl (k := 3) rfl rfl (by decide) rfl (fun ls hl => ?_)
      refine lv_goto (tgt := 31) hx hb kb_Mo_feed_68 (by decide) ?_
      exact hw _ _ _ hG hS (lv_sub hl [1, 2, 3, 0] rfl))
  refine lv_iload_n hx hb kb_Mo_feed_0 rfl (lv_at hl 2 rfl) ?_
  refine lv_iconst (v := (1 : Int32)) hx hb kb_Mo_feed_1 (by decide) ?_
  refine lv_bipush (v := (8 : Int32)) hx hb kb_Mo_feed_2 (by decide) ?_
  refine zr_ci (va_runS (As := [.int x2, .int ((1 : Int32)), .int ((8 : Int32))]) (rest := []) ⟨hx, hb, hml, hown, hts⟩ (kc_Mo_isIn l D dA Z x2 ((1 : Int32)) ((8 : Int32)) σ _) ⟨callB_of 3 hts (z_gw kw_693) rfl rfl rfl (hts _ (List.mem_cons_of_mem _ kw_9)) (hts _ (List.mem_cons_of_mem _ kw_691)) (by decide +kernel) ⟨Nat.le_of_ble_eq_true rfl, Nat.le_of_ble_eq_true rfl⟩, (hts _ (List.mem_cons_of_mem _ kw_692))⟩ (z_preS z_nwN (Nat.le_trans hZ hS.1) hG hK hN hw) rfl rfl hl.1 rfl (lv_room (Nat.le_of_ble_eq_true rfl)) kb_Mo_feed_4 ⟨Nat.le_of_ble_eq_true rfl, Nat.le_of_ble_eq_true rfl⟩) hS (fun r4 σ4 H locs hw hG hS => ?_)
  refine lv_if_ne (tgt := 13) hx hb kb_Mo_feed_7 (by decide) (fun hc => ?_) (fun hc => ?_)
  · have hw := hw.1 hc
    refine lv_aload_n hx hb kb_Mo_feed_13 rfl (lv_at hl 0 rfl) ?_
    obtain ⟨hy, hw⟩ := hw
    refine zr_getI (ci := 8) (f := 801) hx hb hts ki_Mo hown hK hG hy rfl 1 (by decide) (hts _ (List.mem_cons_of_mem _ kw_585)) (fun _ h => h) rfl rfl kb_Mo_feed_14 ?_
    refine lv_iload_n hx hb kb_Mo_feed_17 rfl (lv_at hl 2 rfl) ?_
    refine lv_iadd hx hb kb_Mo_feed_18 ?_
    refine lv_sipush (v := (600 : Int32)) hx hb kb_Mo_feed_19 (by decide) ?_
    refine lv_icmp_le (tgt := 28) hx hb kb_Mo_feed_22 (by decide) (fun hc => ?_) (fun hc => ?_)
    · have hw := hw.1 hc
      refine lv_iconst (v := (0 : Int32)) hx hb kb_Mo_feed_28 (by decide) ?_
      refine lv_istore (lv' := [(4, .int ((0 : Int32))), (0, .ref a0), (1, .long x1), (3, .int x2)]) hx hb kb_Mo_feed_29 hl (by decide) rfl (fun ls hl => ?_)
      exact hw _ _ _ hG hS (lv_sub hl [1, 2, 3, 0] rfl)
    · have hw := hw.2 hc
      refine lv_bipush (v := (-3 : Int32)) hx hb kb_Mo_feed_25 (by decide) ?_
      exact zr_iret (free := fun q => Z ≤ q) z_nwN hx hb hr rfl hZ hK hN hG hS hw kb_Mo_feed_27 hlocks
  · have hw := hw.2 hc
    refine lv_bipush (v := (-2 : Int32)) hx hb kb_Mo_feed_10 (by decide) ?_
    exact zr_iret (free := fun q => Z ≤ q) z_nwN hx hb hr rfl hZ hK hN hG hS hw kb_Mo_feed_12 hlocks
def kp_Mo_forget (a0 : Nat) (σ : z_S) (Post : z_S → Prop) : Prop := ∀ (X22 : Int32 → z_S → Prop),
    (∀ (v1 : Int32) (σ : z_S), ((((8 : Int32)) ≤ v1 → Post σ) ∧ (¬ ((8 : Int32)) ≤ v1 → z_ty σ a0 = some (.inl 8) ∧ ∃ r29, z_R σ 826 a0 = some r29 ∧ (∃ n34 s34, z_ty σ r29 = some (.inr (0, n34, s34)) ∧ vp_in v1 n34 ∧ ∀ σ34, σ34 = z_sA σ s34 r29 (upd (z_A σ s34 r29) v1.toNatClampNeg ((0 : Int32))) → z_ty σ34 a0 = some (.inl 8) ∧ ∃ r36, z_R σ34 823 a0 = some r36 ∧ (∃ n41 s41, z_ty σ34 r36 = some (.inr (2, n41, s41)) ∧ vp_in v1 n41 ∧ ∀ σ41, σ41 = z_sA σ34 s41 r36 (upd (z_A σ34 s41 r36) v1.toNatClampNeg (vp_nar .boolean ((0 : Int32)))) → X22 (v1 + (1 : Int32)) σ41)))) → X22 v1 σ) →
    (z_ty σ a0 = some (.inl 8) ∧ ∀ σ2, σ2 = z_sI σ 808 a0 ((0 : Int32)) → z_ty σ2 a0 = some (.inl 8) ∧ ∀ σ7, σ7 = z_sI σ2 817 a0 ((0 : Int32)) → z_ty σ7 a0 = some (.inl 8) ∧ ∀ σ12, σ12 = z_sI σ7 836 a0 ((0 : Int32)) → z_ty σ12 a0 = some (.inl 8) ∧ ∀ σ17, σ17 = z_sI σ12 834 a0 ((0 : Int32)) → X22 ((0 : Int32)) σ17)
set_option maxHeartbeats 4000000 in
set_option maxRecDepth 100000 in
theorem kc_Mo_forget (l : Launch) (D : va_G) (dA : Nat → ClassId) (Z : Nat) (a0 : Nat) (σ : z_S) (Post : z_S → Prop) : Met l km_Mo_forget ks_Mo_forget kr_Mo_forget (va_Pc [.ref a0] (fun U => z_U D z_cl z_KT dA Z (z_tys dA) z_nw σ U ∧ kp_Mo_forget  a0 σ Post)) (z_Qv D z_cl z_KT dA Z (z_tys dA) z_nw Post) 0 0 (fun q => Z ≤ q) := by
  refine Met.ofW (cc := prog_10_method_45_code) (maxL := 2) (ret := none) (by decide) rfl ?_
  intro p e s m args below meth c s₁ B hml hv
  obtain ⟨rfl, ⟨hZ, hG, hK, hN⟩, hw⟩ := hv
  have hx := B.exec
  have hb := B.bytes
  have hr := B.returns
  have hts := atoms_spec (ws := ks_Mo_forget) B.pre
  have hown : s.vm.findClass kR_Mo = some m.cls := findClass_of_methodNamed B.named
  have hlocks := B.notSynchronized
  have hS : va_S (fun q => Z ≤ q) s.heap s.heap [] := va_S.rf
  have hl := lv_entry ([.ref a0]) (n := 2) (Nat.le_of_ble_eq_true rfl)
  rw [lg_entry_eq]
  generalize (lg_sl ([.ref a0]) ++ List.replicate (2 - (lg_sl ([.ref a0])).length) Slot.unset).toArray = ls at hl ⊢
  have hl : lv_has ls 2 [(0, .ref a0)] := hl
  unfold kp_Mo_forget at hw
  have hw := hw (fun (v1 : Int32) (σ : z_S) => ∀ (H : Heap) (locs : List Loc) (ls : Array Slot), z_G D z_cl z_KT dA Z σ H → va_S (fun q => Z ≤ q) s.heap H locs → lv_has ls 2 [(0, .ref a0), (1, .int v1)] → W p l e (headSpec ks_Mo_forget kr_Mo_forget).room s m ([.ref a0] : List Value).toArray below meth c H locs 0 0 (MQ below (z_Qv D z_cl z_KT dA Z (z_tys dA) z_nw Post) ([.ref a0] : List Value).toArray s 0 0 (fun q => Z ≤ q)) (F0 m 22 ls []))
  have hw := hw (by
    intro v1 σ hw H locs ls hG hS hl
    refine lv_iload_n hx hb kb_Mo_forget_22 rfl (lv_at hl 1 rfl) ?_
    refine lv_bipush (v := (8 : Int32)) hx hb kb_Mo_forget_23 (by decide) ?_
    refine lv_icmp_ge (tgt := 48) hx hb kb_Mo_forget_25 (by decide) (fun hc => ?_) (fun hc => ?_)
    · have hw := hw.1 hc
      exact zr_vret z_nwN hx hb hr hZ hK hN hG hS hw kb_Mo_forget_48 hlocks
    · have hw := hw.2 hc
      refine lv_aload_n hx hb kb_Mo_forget_28 rfl (lv_at hl 0 rfl) ?_
      obtain ⟨hy, r29, hrf, hw⟩ := hw
      refine zr_getR (ci := 8) (f := 826) hx hb hts ki_Mo hown hK hG hy rfl 26 (by decide) (hts _ (List.mem_cons_of_mem _ kw_610)) (fun _ h => h) rfl rfl hrf kb_Mo_forget_29 ?_
      refine lv_iload_n hx hb kb_Mo_forget_32 rfl (lv_at hl 1 rfl) ?_
      refine lv_iconst (v := (0 : Int32)) hx hb kb_Mo_forget_33 (by decide) ?_
      obtain ⟨n34, s34, hy, hi, hw⟩ := hw
      refine zr_iast hx hb hK hG hS 0 hy rfl hi kb_Mo_forget_34 (fun H locs hG hS => ?_)
      obtain ⟨σ34, e34⟩ : ∃ z, z = z_sA σ s34 r29 (upd (z_A σ s34 r29) v1.toNatClampNeg ((0 : Int32))) := ⟨_, rfl⟩
      rw [← e34] at hG
      have hw := hw _ e34
      refine lv_aload_n hx hb kb_Mo_forget_35 rfl (lv_at hl 0 rfl) ?_
      obtain ⟨hy, r36, hrf, hw⟩ := hw
      refine zr_getR (ci := 8) (f := 823) hx hb hts ki_Mo hown hK hG hy rfl 23 (by decide) (hts _ (List.mem_cons_of_mem _ kw_607)) (fun _ h => h) rfl rfl hrf kb_Mo_forget_36 ?_
      refine lv_iload_n hx hb kb_Mo_forget_39 rfl (lv_at hl 1 rfl) ?_
      refine lv_iconst (v := (0 : Int32)) hx hb kb_Mo_forget_40 (by decide) ?_
      obtain ⟨n41, s41, hy, hi, hw⟩ := hw
      refine zr_zast hx hb hK hG hS 2 hy rfl hi kb_Mo_forget_41 (fun H locs hG hS => ?_)
      obtain ⟨σ41, e41⟩ : ∃ z, z = z_sA σ34 s41 r36 (upd (z_A σ34 s41 r36) v1.toNatClampNeg (vp_nar .boolean ((0 : Int32)))) := ⟨_, rfl⟩
      rw [← e41] at hG
      have hw := hw _ e41
      refine lv_iinc (v := v1 + (1 : Int32)) (lv' := [(1, .int (v1 + (1 : Int32))), (0, .ref a0)]) hx hb kb_Mo_forget_42 hl (k := 1) rfl rfl (by decide) rfl (fun ls hl => ?_)
      refine lv_goto (tgt := 22) hx hb kb_Mo_forget_45 (by decide) ?_
      exact hw _ _ _ hG hS (lv_sub hl [1, 0] rfl))
  refine lv_aload_n hx hb kb_Mo_forget_0 rfl (lv_at hl 0 rfl) ?_
  refine lv_iconst (v := (0 : Int32)) hx hb kb_Mo_forget_1 (by decide) ?_
  obtain ⟨hy, hw⟩ := hw
  refine zr_putI (ci := 8) (f := 808) hx hb hts ki_Mo ky_Mo kyo_Mo kn_Mo hown hK hG hS hy rfl 8 (by decide) (hts _ (List.mem_cons_of_mem _ kw_592)) (fun _ h => h) rfl rfl rfl rfl rfl kb_Mo_forget_2 (fun H locs hG hS => ?_)
  obtain ⟨σ2, e2⟩ : ∃ z, z = z_sI σ 808 a0 ((0 : Int32)) := ⟨_, rfl⟩
  rw [← e2] at hG
  have hw := hw _ e2
  refine lv_aload_n hx hb kb_Mo_forget_5 rfl (lv_at hl 0 rfl) ?_
  refine lv_iconst (v := (0 : Int32)) hx hb kb_Mo_forget_6 (by decide) ?_
  obtain ⟨hy, hw⟩ := hw
  refine zr_putI (ci := 8) (f := 817) hx hb hts ki_Mo ky_Mo kyo_Mo kn_Mo hown hK hG hS hy rfl 17 (by decide) (hts _ (List.mem_cons_of_mem _ kw_601)) (fun _ h => h) rfl rfl rfl rfl rfl kb_Mo_forget_7 (fun H locs hG hS => ?_)
  obtain ⟨σ7, e7⟩ : ∃ z, z = z_sI σ2 817 a0 ((0 : Int32)) := ⟨_, rfl⟩
  rw [← e7] at hG
  have hw := hw _ e7
  refine lv_aload_n hx hb kb_Mo_forget_10 rfl (lv_at hl 0 rfl) ?_
  refine lv_iconst (v := (0 : Int32)) hx hb kb_Mo_forget_11 (by decide) ?_
  obtain ⟨hy, hw⟩ := hw
  refine zr_putI (ci := 8) (f := 836) hx hb hts ki_Mo ky_Mo kyo_Mo kn_Mo hown hK hG hS hy rfl 36 (by decide) (hts _ (List.mem_cons_of_mem _ kw_620)) (fun _ h => h) rfl rfl rfl rfl rfl kb_Mo_forget_12 (fun H locs hG hS => ?_)
  obtain ⟨σ12, e12⟩ : ∃ z, z = z_sI σ7 836 a0 ((0 : Int32)) := ⟨_, rfl⟩
  rw [← e12] at hG
  have hw := hw _ e12
  refine lv_aload_n hx hb kb_Mo_forget_15 rfl (lv_at hl 0 rfl) ?_
  refine lv_iconst (v := (0 : Int32)) hx hb kb_Mo_forget_16 (by decide) ?_
  obtain ⟨hy, hw⟩ := hw
  refine zr_putI (ci := 8) (f := 834) hx hb hts ki_Mo ky_Mo kyo_Mo kn_Mo hown hK hG hS hy rfl 34 (by decide) (hts _ (List.mem_cons_of_mem _ kw_618)) (fun _ h => h) rfl rfl rfl rfl rfl kb_Mo_forget_17 (fun H locs hG hS => ?_)
  obtain ⟨σ17, e17⟩ : ∃ z, z = z_sI σ12 834 a0 ((0 : Int32)) := ⟨_, rfl⟩
  rw [← e17] at hG
  have hw := hw _ e17
  refine lv_iconst (v := (0 : Int32)) hx hb kb_Mo_forget_20 (by decide) ?_
  refine lv_istore_n (lv' := [(1, .int ((0 : Int32))), (0, .ref a0)]) hx hb kb_Mo_forget_21 rfl hl (by decide) rfl (fun ls hl => ?_)
  exact hw _ _ _ hG hS (lv_sub hl [1, 0] rfl)
def kp_Mo_ringMany (a0 : Nat) (σ : z_S) (Post : z_S → Prop) : Prop := ∀ (X7 : Int32 → z_S → Prop),
    (∀ (v1 : Int32) (σ : z_S), ((((8 : Int32)) ≤ v1 → Post σ) ∧ (¬ ((8 : Int32)) ≤ v1 → z_ty σ a0 = some (.inl 8) ∧ ∃ r14, z_R σ 823 a0 = some r14 ∧ (∃ n18 s18, z_ty σ r14 = some (.inr (2, n18, s18)) ∧ vp_in v1 n18 ∧ ((((z_A σ s18 r14 v1.toNatClampNeg)) = 0 → X7 (v1 + (1 : Int32)) σ) ∧ (¬ ((z_A σ s18 r14 v1.toNatClampNeg)) = 0 → z_ty σ a0 = some (.inl 8) ∧ ∃ r23, z_R σ 848 a0 = some r23 ∧ (z_ty σ a0 = some (.inl 8) ∧ (z_ty σ a0 = some (.inl 8) ∧ ∃ r31, z_R σ 818 a0 = some r31 ∧ (∃ n35 s35, z_ty σ r31 = some (.inr (0, n35, s35)) ∧ vp_in v1 n35 ∧ (∃ n36 s36, z_ty σ r23 = some (.inr (0, n36, s36)) ∧ vp_in (z_I σ 849 a0) n36 ∧ ∀ σ36, σ36 = z_sA σ s36 r23 (upd (z_A σ s36 r23) (z_I σ 849 a0).toNatClampNeg (z_A σ s35 r31 v1.toNatClampNeg)) → z_ty σ36 a0 = some (.inl 8) ∧ (z_ty σ36 a0 = some (.inl 8) ∧ ∀ σ44, σ44 = z_sI σ36 849 a0 ((z_I σ36 849 a0) + ((1 : Int32))) → X7 (v1 + (1 : Int32)) σ44)))))))))) → X7 v1 σ) →
    (z_ty σ a0 = some (.inl 8) ∧ ∀ σ2, σ2 = z_sI σ 849 a0 ((0 : Int32)) → X7 ((0 : Int32)) σ2)
set_option maxHeartbeats 4000000 in
set_option maxRecDepth 100000 in
theorem kc_Mo_ringMany (l : Launch) (D : va_G) (dA : Nat → ClassId) (Z : Nat) (a0 : Nat) (σ : z_S) (Post : z_S → Prop) : Met l km_Mo_ringMany ks_Mo_ringMany kr_Mo_ringMany (va_Pc [.ref a0] (fun U => z_U D z_cl z_KT dA Z (z_tys dA) z_nw σ U ∧ kp_Mo_ringMany  a0 σ Post)) (z_Qv D z_cl z_KT dA Z (z_tys dA) z_nw Post) 0 0 (fun q => Z ≤ q) := by
  refine Met.ofW (cc := prog_10_method_47_code) (maxL := 2) (ret := none) (by decide) rfl ?_
  intro p e s m args below meth c s₁ B hml hv
  obtain ⟨rfl, ⟨hZ, hG, hK, hN⟩, hw⟩ := hv
  have hx := B.exec
  have hb := B.bytes
  have hr := B.returns
  have hts := atoms_spec (ws := ks_Mo_ringMany) B.pre
  have hown : s.vm.findClass kR_Mo = some m.cls := findClass_of_methodNamed B.named
  have hlocks := B.notSynchronized
  have hS : va_S (fun q => Z ≤ q) s.heap s.heap [] := va_S.rf
  have hl := lv_entry ([.ref a0]) (n := 2) (Nat.le_of_ble_eq_true rfl)
  rw [lg_entry_eq]
  generalize (lg_sl ([.ref a0]) ++ List.replicate (2 - (lg_sl ([.ref a0])).length) Slot.unset).toArray = ls at hl ⊢
  have hl : lv_has ls 2 [(0, .ref a0)] := hl
  unfold kp_Mo_ringMany at hw
  have hw := hw (fun (v1 : Int32) (σ : z_S) => ∀ (H : Heap) (locs : List Loc) (ls : Array Slot), z_G D z_cl z_KT dA Z σ H → va_S (fun q => Z ≤ q) s.heap H locs → lv_has ls 2 [(0, .ref a0), (1, .int v1)] → W p l e (headSpec ks_Mo_ringMany kr_Mo_ringMany).room s m ([.ref a0] : List Value).toArray below meth c H locs 0 0 (MQ below (z_Qv D z_cl z_KT dA Z (z_tys dA) z_nw Post) ([.ref a0] : List Value).toArray s 0 0 (fun q => Z ≤ q)) (F0 m 7 ls []))
  have hw := hw (by
    intro v1 σ hw H locs ls hG hS hl
    refine lv_iload_n hx hb kb_Mo_ringMany_7 rfl (lv_at hl 1 rfl) ?_
    refine lv_bipush (v := (8 : Int32)) hx hb kb_Mo_ringMany_8 (by decide) ?_
    refine lv_icmp_ge (tgt := 53) hx hb kb_Mo_ringMany_10 (by decide) (fun hc => ?_) (fun hc => ?_)
    · have hw := hw.1 hc
      exact zr_vret z_nwN hx hb hr hZ hK hN hG hS hw kb_Mo_ringMany_53 hlocks
    · have hw := hw.2 hc
      refine lv_aload_n hx hb kb_Mo_ringMany_13 rfl (lv_at hl 0 rfl) ?_
      obtain ⟨hy, r14, hrf, hw⟩ := hw
      refine zr_getR (ci := 8) (f := 823) hx hb hts ki_Mo hown hK hG hy rfl 23 (by decide) (hts _ (List.mem_cons_of_mem _ kw_607)) (fun _ h => h) rfl rfl hrf kb_Mo_ringMany_14 ?_
      refine lv_iload_n hx hb kb_Mo_ringMany_17 rfl (lv_at hl 1 rfl) ?_
      obtain ⟨n18, s18, hy, hi, hw⟩ := hw
      refine zr_zald hx hb hK hG 2 hy rfl hi kb_Mo_ringMany_18 ?_
      refine lv_if_eq (tgt := 47) hx hb kb_Mo_ringMany_19 (by decide) (fun hc => ?_) (fun hc => ?_)
      · have hw := hw.1 hc
        refine lv_iinc (v := v1 + (1 : Int32)) (lv' := [(1, .int (v1 + (1 : Int32))), (0, .ref a0)]) hx hb kb_Mo_ringMany_47 hl (k := 1) rfl rfl (by decide) rfl (fun ls hl => ?_)
        refine lv_goto (tgt := 7) hx hb kb_Mo_ringMany_50 (by decide) ?_
        exact hw _ _ _ hG hS (lv_sub hl [1, 0] rfl)
      · have hw := hw.2 hc
        refine lv_aload_n hx hb kb_Mo_ringMany_22 rfl (lv_at hl 0 rfl) ?_
        obtain ⟨hy, r23, hrf, hw⟩ := hw
        refine zr_getR (ci := 8) (f := 848) hx hb hts ki_Mo hown hK hG hy rfl 48 (by decide) (hts _ (List.mem_cons_of_mem _ kw_632)) (fun _ h => h) rfl rfl hrf kb_Mo_ringMany_23 ?_
        refine lv_aload_n hx hb kb_Mo_ringMany_26 rfl (lv_at hl 0 rfl) ?_
        obtain ⟨hy, hw⟩ := hw
        refine zr_getI (ci := 8) (f := 849) hx hb hts ki_Mo hown hK hG hy rfl 49 (by decide) (hts _ (List.mem_cons_of_mem _ kw_633)) (fun _ h => h) rfl rfl kb_Mo_ringMany_27 ?_
        refine lv_aload_n hx hb kb_Mo_ringMany_30 rfl (lv_at hl 0 rfl) ?_
        obtain ⟨hy, r31, hrf, hw⟩ := hw
        refine zr_getR (ci := 8) (f := 818) hx hb hts ki_Mo hown hK hG hy rfl 18 (by decide) (hts _ (List.mem_cons_of_mem _ kw_602)) (fun _ h => h) rfl rfl hrf kb_Mo_ringMany_31 ?_
        refine lv_iload_n hx hb kb_Mo_ringMany_34 rfl (lv_at hl 1 rfl) ?_
        obtain ⟨n35, s35, hy, hi, hw⟩ := hw
        refine zr_iald hx hb hK hG 0 hy rfl hi kb_Mo_ringMany_35 ?_
        obtain ⟨n36, s36, hy, hi, hw⟩ := hw
        refine zr_iast hx hb hK hG hS 0 hy rfl hi kb_Mo_ringMany_36 (fun H locs hG hS => ?_)
        obtain ⟨σ36, e36⟩ : ∃ z, z = z_sA σ s36 r23 (upd (z_A σ s36 r23) (z_I σ 849 a0).toNatClampNeg (z_A σ s35 r31 v1.toNatClampNeg)) := ⟨_, rfl⟩
        rw [← e36] at hG
        have hw := hw _ e36
        refine lv_aload_n hx hb kb_Mo_ringMany_37 rfl (lv_at hl 0 rfl) ?_
        refine lv_dup hx hb kb_Mo_ringMany_38 rfl ?_
        obtain ⟨hy, hw⟩ := hw
        refine zr_getI (ci := 8) (f := 849) hx hb hts ki_Mo hown hK hG hy rfl 49 (by decide) (hts _ (List.mem_cons_of_mem _ kw_633)) (fun _ h => h) rfl rfl kb_Mo_ringMany_39 ?_
        refine lv_iconst (v := (1 : Int32)) hx hb kb_Mo_ringMany_42 (by decide) ?_
        refine lv_iadd hx hb kb_Mo_ringMany_43 ?_
        obtain ⟨hy, hw⟩ := hw
        refine zr_putI (ci := 8) (f := 849) hx hb hts ki_Mo ky_Mo kyo_Mo kn_Mo hown hK hG hS hy rfl 49 (by decide) (hts _ (List.mem_cons_of_mem _ kw_633)) (fun _ h => h) rfl rfl rfl rfl rfl kb_Mo_ringMany_44 (fun H locs hG hS => ?_)
        obtain ⟨σ44, e44⟩ : ∃ z, z = z_sI σ36 849 a0 ((z_I σ36 849 a0) + ((1 : Int32))) := ⟨_, rfl⟩
        rw [← e44] at hG
        have hw := hw _ e44
        refine lv_iinc (v := v1 + (1 : Int32)) (lv' := [(1, .int (v1 + (1 : Int32))), (0, .ref a0)]) hx hb kb_Mo_ringMany_47 hl (k := 1) rfl rfl (by decide) rfl (fun ls hl => ?_)
        refine lv_goto (tgt := 7) hx hb kb_Mo_ringMany_50 (by decide) ?_
        exact hw _ _ _ hG hS (lv_sub hl [1, 0] rfl))
  refine lv_aload_n hx hb kb_Mo_ringMany_0 rfl (lv_at hl 0 rfl) ?_
  refine lv_iconst (v := (0 : Int32)) hx hb kb_Mo_ringMany_1 (by decide) ?_
  obtain ⟨hy, hw⟩ := hw
  refine zr_putI (ci := 8) (f := 849) hx hb hts ki_Mo ky_Mo kyo_Mo kn_Mo hown hK hG hS hy rfl 49 (by decide) (hts _ (List.mem_cons_of_mem _ kw_633)) (fun _ h => h) rfl rfl rfl rfl rfl kb_Mo_ringMany_2 (fun H locs hG hS => ?_)
  obtain ⟨σ2, e2⟩ : ∃ z, z = z_sI σ 849 a0 ((0 : Int32)) := ⟨_, rfl⟩
  rw [← e2] at hG
  have hw := hw _ e2
  refine lv_iconst (v := (0 : Int32)) hx hb kb_Mo_ringMany_5 (by decide) ?_
  refine lv_istore_n (lv' := [(1, .int ((0 : Int32))), (0, .ref a0)]) hx hb kb_Mo_ringMany_6 rfl hl (by decide) rfl (fun ls hl => ?_)
  exact hw _ _ _ hG hS (lv_sub hl [1, 0] rfl)
def kp_Mo_parse (a0 : Nat) (σ : z_S) (Post : Int32 → z_S → Prop) : Prop := ∀ (X7 : Int32 → z_S → Prop) (X121 : z_S → Prop) (X146 : z_S → Prop) (X182 : z_S → Prop),
    (∀ (v1 : Int32) (σ : z_S), (z_ty σ a0 = some (.inl 8) ∧ (((z_I σ 801 a0) ≤ v1 → z_ty σ a0 = some (.inl 8) ∧ ∃ r75, z_R σ 802 a0 = some r75 ∧ (z_ty σ a0 = some (.inl 8) ∧ (∃ n83 s83, z_ty σ r75 = some (.inr (0, n83, s83)) ∧ vp_in (z_I σ 804 a0) n83 ∧ ∀ σ83, σ83 = z_sA σ s83 r75 (upd (z_A σ s83 r75) (z_I σ 804 a0).toNatClampNeg ((-1 : Int32))) → z_ty σ83 a0 = some (.inl 8) ∧ ∃ r85, z_R σ83 803 a0 = some r85 ∧ (z_ty σ83 a0 = some (.inl 8) ∧ (z_ty σ83 a0 = some (.inl 8) ∧ (∃ n96 s96, z_ty σ83 r85 = some (.inr (0, n96, s96)) ∧ vp_in (z_I σ83 804 a0) n96 ∧ ∀ σ96, σ96 = z_sA σ83 s96 r85 (upd (z_A σ83 s96 r85) (z_I σ83 804 a0).toNatClampNeg (z_I σ83 801 a0)) → z_ty σ96 a0 = some (.inl 8) ∧ kp_Mo_forget a0 σ96 (fun (σ98 : z_S) => z_ty σ98 a0 = some (.inl 8) ∧ ∀ σ103, σ103 = z_sI σ98 831 a0 ((0 : Int32)) → z_ty σ103 a0 = some (.inl 8) ∧ ∀ σ108, σ108 = z_sI σ103 805 a0 ((0 : Int32)) → z_ty σ108 a0 = some (.inl 8) ∧ ∀ σ113, σ113 = z_sI σ108 806 a0 ((0 : Int32)) → z_ty σ113 a0 = some (.inl 8) ∧ ∀ σ118, σ118 = z_sI σ113 807 a0 ((-1 : Int32)) → X121 σ118))))))) ∧ (¬ (z_I σ 801 a0) ≤ v1 → z_ty σ a0 = some (.inl 8) ∧ ∃ r16, z_R σ 800 a0 = some r16 ∧ (∃ n20 s20, z_ty σ r16 = some (.inr (1, n20, s20)) ∧ vp_in v1 n20 ∧ ((((z_A σ s20 r16 v1.toNatClampNeg) &&& ((255 : Int32))) = ((32 : Int32)) → X7 (v1 + (1 : Int32)) σ) ∧ (¬ ((z_A σ s20 r16 v1.toNatClampNeg) &&& ((255 : Int32))) = ((32 : Int32)) → (((z_A σ s20 r16 v1.toNatClampNeg) &&& ((255 : Int32))) = ((10 : Int32)) → X7 (v1 + (1 : Int32)) σ) ∧ (¬ ((z_A σ s20 r16 v1.toNatClampNeg) &&& ((255 : Int32))) = ((10 : Int32)) → z_ty σ a0 = some (.inl 8) ∧ ∃ r39, z_R σ 802 a0 = some r39 ∧ (z_ty σ a0 = some (.inl 8) ∧ (∃ n47 s47, z_ty σ r39 = some (.inr (0, n47, s47)) ∧ vp_in (z_I σ 804 a0) n47 ∧ ∀ σ47, σ47 = z_sA σ s47 r39 (upd (z_A σ s47 r39) (z_I σ 804 a0).toNatClampNeg ((z_A σ s20 r16 v1.toNatClampNeg) &&& ((255 : Int32)))) → z_ty σ47 a0 = some (.inl 8) ∧ ∃ r49, z_R σ47 803 a0 = some r49 ∧ (z_ty σ47 a0 = some (.inl 8) ∧ (∃ n57 s57, z_ty σ47 r49 = some (.inr (0, n57, s57)) ∧ vp_in (z_I σ47 804 a0) n57 ∧ ∀ σ57, σ57 = z_sA σ47 s57 r49 (upd (z_A σ47 s57 r49) (z_I σ47 804 a0).toNatClampNeg v1) → z_ty σ57 a0 = some (.inl 8) ∧ (z_ty σ57 a0 = some (.inl 8) ∧ ∀ σ65, σ65 = z_sI σ57 804 a0 ((z_I σ57 804 a0) + ((1 : Int32))) → X7 (v1 + (1 : Int32)) σ65)))))))))))) → X7 v1 σ) →
    (∀ (σ : z_S), (z_ty σ a0 = some (.inl 8) ∧ ((¬ ((z_I σ 806 a0)) = 0 → X146 σ) ∧ (((z_I σ 806 a0)) = 0 → z_ty σ a0 = some (.inl 8) ∧ (z_ty σ a0 = some (.inl 8) ∧ (((z_I σ 804 a0) ≤ (z_I σ 805 a0) → X146 σ) ∧ (¬ (z_I σ 804 a0) ≤ (z_I σ 805 a0) → z_ty σ a0 = some (.inl 8) ∧ kp_Mo_rule a0 σ (fun (σ140 : z_S) => X121 σ140))))))) → X121 σ) →
    (∀ (σ : z_S), (z_ty σ a0 = some (.inl 8) ∧ ((¬ ((z_I σ 806 a0)) = 0 → X182 σ) ∧ (((z_I σ 806 a0)) = 0 → z_ty σ a0 = some (.inl 8) ∧ kp_Mo_reaches a0 σ (fun (σ154 : z_S) => z_ty σ154 a0 = some (.inl 8) ∧ kp_Mo_layers a0 σ154 (fun (r158 : Int32) (σ158 : z_S) => (¬ r158 = 0 → X182 σ158) ∧ (r158 = 0 → z_ty σ158 a0 = some (.inl 8) ∧ (z_ty σ158 a0 = some (.inl 8) ∧ ∀ σ169, σ169 = z_sI σ158 805 a0 (z_I σ158 804 a0) → z_ty σ169 a0 = some (.inl 8) ∧ kp_Mo_wrong a0 ((6 : Int32)) σ169 (fun (σ175 : z_S) => z_ty σ175 a0 = some (.inl 8) ∧ kp_Mo_findRing a0 σ175 (fun (σ179 : z_S) => X182 σ179))))))))) → X146 σ) →
    (∀ (σ : z_S), (z_ty σ a0 = some (.inl 8) ∧ ∀ σ184, σ184 = z_sI σ 801 a0 ((0 : Int32)) → z_ty σ184 a0 = some (.inl 8) ∧ ((((z_I σ184 806 a0)) = 0 → z_ty σ184 a0 = some (.inl 8) ∧ kp_Mo_work a0 σ184 (fun (r212 : Int32) (σ212 : z_S) => (¬ r212 = 0 → z_ty σ212 a0 = some (.inl 8) ∧ (Post (z_I σ212 808 a0) σ212)) ∧ (r212 = 0 → z_ty σ212 a0 = some (.inl 8) ∧ ∀ σ220, σ220 = z_sI σ212 808 a0 ((0 : Int32)) → Post ((-3 : Int32)) σ220))) ∧ (¬ ((z_I σ184 806 a0)) = 0 → z_ty σ184 a0 = some (.inl 8) ∧ kp_Mo_ringMany a0 σ184 (fun (σ195 : z_S) => z_ty σ195 a0 = some (.inl 8) ∧ ∀ σ200, σ200 = z_sI σ195 808 a0 ((0 : Int32)) → z_ty σ200 a0 = some (.inl 8) ∧ (Post (((-10 : Int32)) - (z_I σ200 806 a0)) σ200))))) → X182 σ) →
    (z_ty σ a0 = some (.inl 8) ∧ ∀ σ2, σ2 = z_sI σ 804 a0 ((0 : Int32)) → X7 ((0 : Int32)) σ2)
set_option maxHeartbeats 4000000 in
set_option maxRecDepth 100000 in
theorem kc_Mo_parse (l : Launch) (D : va_G) (dA : Nat → ClassId) (Z : Nat) (a0 : Nat) (σ : z_S) (Post : Int32 → z_S → Prop) : Met l km_Mo_parse ks_Mo_parse kr_Mo_parse (va_Pc [.ref a0] (fun U => z_U D z_cl z_KT dA Z (z_tys dA) z_nw σ U ∧ kp_Mo_parse  a0 σ Post)) (z_Qi D z_cl z_KT dA Z (z_tys dA) z_nw Post) 0 0 (fun q => Z ≤ q) := by
  refine Met.ofW (cc := prog_10_method_46_code) (maxL := 3) (ret := (some .int)) (by decide) rfl ?_
  intro p e s m args below meth c s₁ B hml hv
  obtain ⟨rfl, ⟨hZ, hG, hK, hN⟩, hw⟩ := hv
  have hx := B.exec
  have hb := B.bytes
  have hr := B.returns
  have hts := atoms_spec (ws := ks_Mo_parse) B.pre
  have hown : s.vm.findClass kR_Mo = some m.cls := findClass_of_methodNamed B.named
  have hlocks := B.notSynchronized
  have hS : va_S (fun q => Z ≤ q) s.heap s.heap [] := va_S.rf
  have hl := lv_entry ([.ref a0]) (n := 3) (Nat.le_of_ble_eq_true rfl)
  rw [lg_entry_eq]
  generalize (lg_sl ([.ref a0]) ++ List.replicate (3 - (lg_sl ([.ref a0])).length) Slot.unset).toArray = ls at hl ⊢
  have hl : lv_has ls 3 [(0, .ref a0)] := hl
  unfold kp_Mo_parse at hw
  have hw := hw (fun (v1 : Int32) (σ : z_S) => ∀ (H : Heap) (locs : List Loc) (ls : Array Slot), z_G D z_cl z_KT dA Z σ H → va_S (fun q => Z ≤ q) s.heap H locs → lv_has ls 3 [(0, .ref a0), (1, .int v1)] → W p l e (headSpec ks_Mo_parse kr_Mo_parse).room s m ([.ref a0] : List Value).toArray below meth c H locs 0 0 (MQ below (z_Qi D z_cl z_KT dA Z (z_tys dA) z_nw Post) ([.ref a0] : List Value).toArray s 0 0 (fun q => Z ≤ q)) (F0 m 7 ls []))
  have hw := hw (fun (σ : z_S) => ∀ (H : Heap) (locs : List Loc) (ls : Array Slot), z_G D z_cl z_KT dA Z σ H → va_S (fun q => Z ≤ q) s.heap H locs → lv_has ls 3 [(0, .ref a0)] → W p l e (headSpec ks_Mo_parse kr_Mo_parse).room s m ([.ref a0] : List Value).toArray below meth c H locs 0 0 (MQ below (z_Qi D z_cl z_KT dA Z (z_tys dA) z_nw Post) ([.ref a0] : List Value).toArray s 0 0 (fun q => Z ≤ q)) (F0 m 121 ls []))
  have hw := hw (fun (σ : z_S) => ∀ (H : Heap) (locs : List Loc) (ls : Array Slot), z_G D z_cl z_KT dA Z σ H → va_S (fun q => Z ≤ q) s.heap H locs → lv_has ls 3 [(0, .ref a0)] → W p l e (headSpec ks_Mo_parse kr_Mo_parse).room s m ([.ref a0] : List Value).toArray below meth c H locs 0 0 (MQ below (z_Qi D z_cl z_KT dA Z (z_tys dA) z_nw Post) ([.ref a0] : List Value).toArray s 0 0 (fun q => Z ≤ q)) (F0 m 146 ls []))
  have hw := hw (fun (σ : z_S) => ∀ (H : Heap) (locs : List Loc) (ls : Array Slot), z_G D z_cl z_KT dA Z σ H → va_S (fun q => Z ≤ q) s.heap H locs → lv_has ls 3 [(0, .ref a0)] → W p l e (headSpec ks_Mo_parse kr_Mo_parse).room s m ([.ref a0] : List Value).toArray below meth c H locs 0 0 (MQ below (z_Qi D z_cl z_KT dA Z (z_tys dA) z_nw Post) ([.ref a0] : List Value).toArray s 0 0 (fun q => Z ≤ q)) (F0 m 182 ls []))
  have hw := hw (by
    intro v1 σ hw H locs ls hG hS hl
    refine lv_iload_n hx hb kb_Mo_parse_7 rfl (lv_at hl 1 rfl) ?_
    refine lv_aload_n hx hb kb_Mo_parse_8 rfl (lv_at hl 0 rfl) ?_
    obtain ⟨hy, hw⟩ := hw
    refine zr_getI (ci := 8) (f := 801) hx hb hts ki_Mo hown hK hG hy rfl 1 (by decide) (hts _ (List.mem_cons_of_mem _ kw_585)) (fun _ h => h) rfl rfl kb_Mo_parse_9 ?_
    refine lv_icmp_ge (tgt := 74) hx hb kb_Mo_parse_12 (by decide) (fun hc => ?_) (fun hc => ?_)
    · have hw := hw.1 hc
      refine lv_aload_n hx hb kb_Mo_parse_74 rfl (lv_at hl 0 rfl) ?_
      obtain ⟨hy, r75, hrf, hw⟩ := hw
      refine zr_getR (ci := 8) (f := 802) hx hb hts ki_Mo hown hK hG hy rfl 2 (by decide) (hts _ (List.mem_cons_of_mem _ kw_586)) (fun _ h => h) rfl rfl hrf kb_Mo_parse_75 ?_
      refine lv_aload_n hx hb kb_Mo_parse_78 rfl (lv_at hl 0 rfl) ?_
      obtain ⟨hy, hw⟩ := hw
      refine zr_getI (ci := 8) (f := 804) hx hb hts ki_Mo hown hK hG hy rfl 4 (by decide) (hts _ (List.mem_cons_of_mem _ kw_588)) (fun _ h => h) rfl rfl kb_Mo_parse_79 ?_
      refine lv_iconst (v := (-1 : Int32)) hx hb kb_Mo_parse_82 (by decide) ?_
      obtain ⟨n83, s83, hy, hi, hw⟩ := hw
      refine zr_iast hx hb hK hG hS 0 hy rfl hi kb_Mo_parse_83 (fun H locs hG hS => ?_)
      obtain ⟨σ83, e83⟩ : ∃ z, z = z_sA σ s83 r75 (upd (z_A σ s83 r75) (z_I σ 804 a0).toNatClampNeg ((-1 : Int32))) := ⟨_, rfl⟩
      rw [← e83] at hG
      have hw := hw _ e83
      refine lv_aload_n hx hb kb_Mo_parse_84 rfl (lv_at hl 0 rfl) ?_
      obtain ⟨hy, r85, hrf, hw⟩ := hw
      refine zr_getR (ci := 8) (f := 803) hx hb hts ki_Mo hown hK hG hy rfl 3 (by decide) (hts _ (List.mem_cons_of_mem _ kw_587)) (fun _ h => h) rfl rfl hrf kb_Mo_parse_85 ?_
      refine lv_aload_n hx hb kb_Mo_parse_88 rfl (lv_at hl 0 rfl) ?_
      obtain ⟨hy, hw⟩ := hw
      refine zr_getI (ci := 8) (f := 804) hx hb hts ki_Mo hown hK hG hy rfl 4 (by decide) (hts _ (List.mem_cons_of_mem _ kw_588)) (fun _ h => h) rfl rfl kb_Mo_parse_89 ?_
      refine lv_aload_n hx hb kb_Mo_parse_92 rfl (lv_at hl 0 rfl) ?_
      obtain ⟨hy, hw⟩ := hw
      refine zr_getI (ci := 8) (f := 801) hx hb hts ki_Mo hown hK hG hy rfl 1 (by decide) (hts _ (List.mem_cons_of_mem _ kw_585)) (fun _ h => h) rfl rfl kb_Mo_parse_93 ?_
      obtain ⟨n96, s96, hy, hi, hw⟩ := hw
      refine zr_iast hx hb hK hG hS 0 hy rfl hi kb_Mo_parse_96 (fun H locs hG hS => ?_)
      obtain ⟨σ96, e96⟩ : ∃ z, z = z_sA σ83 s96 r85 (upd (z_A σ83 s96 r85) (z_I σ83 804 a0).toNatClampNeg (z_I σ83 801 a0)) := ⟨_, rfl⟩
      rw [← e96] at hG
      have hw := hw _ e96
      refine lv_aload_n hx hb kb_Mo_parse_97 rfl (lv_at hl 0 rfl) ?_
      obtain ⟨hy, hw⟩ := hw
      refine zr_cv (va_runV (C := kR_Mo) (As := []) (rest := []) ⟨hx, hb, hml, hown, hts⟩ (kc_Mo_forget l D dA Z a0 σ96 _) ⟨callB_of 0 hts (z_gw kw_700) rfl rfl rfl (hts _ (List.mem_cons_of_mem _ kw_9)) (hts _ (List.mem_cons_of_mem _ kw_698)) (by decide +kernel) ⟨Nat.le_of_ble_eq_true rfl, Nat.le_of_ble_eq_true rfl⟩, (hts _ (List.mem_cons_of_mem _ kw_699)), (hts _ (List.mem_cons_of_mem _ kw_952))⟩ (z_preV z_nwN (Nat.le_trans hZ hS.1) hG hK hN hy (ci := 8) (r := (kR_Mo, kT_Mo, 51)) rfl hw) rfl rfl hl.1 rfl (lv_room (Nat.le_of_ble_eq_true rfl)) kb_Mo_parse_98 ⟨Nat.le_of_ble_eq_true rfl, Nat.le_of_ble_eq_true rfl⟩) hS (fun σ98 H locs hw hG hS => ?_)
      refine lv_aload_n hx hb kb_Mo_parse_101 rfl (lv_at hl 0 rfl) ?_
      refine lv_iconst (v := (0 : Int32)) hx hb kb_Mo_parse_102 (by decide) ?_
      obtain ⟨hy, hw⟩ := hw
      refine zr_putI (ci := 8) (f := 831) hx hb hts ki_Mo ky_Mo kyo_Mo kn_Mo hown hK hG hS hy rfl 31 (by decide) (hts _ (List.mem_cons_of_mem _ kw_615)) (fun _ h => h) rfl rfl rfl rfl rfl kb_Mo_parse_103 (fun H locs hG hS => ?_)
      obtain ⟨σ103, e103⟩ : ∃ z, z = z_sI σ98 831 a0 ((0 : Int32)) := ⟨_, rfl⟩
      rw [← e103] at hG
      have hw := hw _ e103
      refine lv_aload_n hx hb kb_Mo_parse_106 rfl (lv_at hl 0 rfl) ?_
      refine lv_iconst (v := (0 : Int32)) hx hb kb_Mo_parse_107 (by decide) ?_
      obtain ⟨hy, hw⟩ := hw
      refine zr_putI (ci := 8) (f := 805) hx hb hts ki_Mo ky_Mo kyo_Mo kn_Mo hown hK hG hS hy rfl 5 (by decide) (hts _ (List.mem_cons_of_mem _ kw_589)) (fun _ h => h) rfl rfl rfl rfl rfl kb_Mo_parse_108 (fun H locs hG hS => ?_)
      obtain ⟨σ108, e108⟩ : ∃ z, z = z_sI σ103 805 a0 ((0 : Int32)) := ⟨_, rfl⟩
      rw [← e108] at hG
      have hw := hw _ e108
      refine lv_aload_n hx hb kb_Mo_parse_111 rfl (lv_at hl 0 rfl) ?_
      refine lv_iconst (v := (0 : Int32)) hx hb kb_Mo_parse_112 (by decide) ?_
      obtain ⟨hy, hw⟩ := hw
      refine zr_putI (ci := 8) (f := 806) hx hb hts ki_Mo ky_Mo kyo_Mo kn_Mo hown hK hG hS hy rfl 6 (by decide) (hts _ (List.mem_cons_of_mem _ kw_590)) (fun _ h => h) rfl rfl rfl rfl rfl kb_Mo_parse_113 (fun H locs hG hS => ?_)
      obtain ⟨σ113, e113⟩ : ∃ z, z = z_sI σ108 806 a0 ((0 : Int32)) := ⟨_, rfl⟩
      rw [← e113] at hG
      have hw := hw _ e113
      refine lv_aload_n hx hb kb_Mo_parse_116 rfl (lv_at hl 0 rfl) ?_
      refine lv_iconst (v := (-1 : Int32)) hx hb kb_Mo_parse_117 (by decide) ?_
      obtain ⟨hy, hw⟩ := hw
      refine zr_putI (ci := 8) (f := 807) hx hb hts ki_Mo ky_Mo kyo_Mo kn_Mo hown hK hG hS hy rfl 7 (by decide) (hts _ (List.mem_cons_of_mem _ kw_591)) (fun _ h => h) rfl rfl rfl rfl rfl kb_Mo_parse_118 (fun H locs hG hS => ?_)
      obtain ⟨σ118, e118⟩ : ∃ z, z = z_sI σ113 807 a0 ((-1 : Int32)) := ⟨_, rfl⟩
      rw [← e118] at hG
      have hw := hw _ e118
      exact hw _ _ _ hG hS (lv_sub hl [0] rfl)
    · have hw := hw.2 hc
      refine lv_aload_n hx hb kb_Mo_parse_15 rfl (lv_at hl 0 rfl) ?_
      obtain ⟨hy, r16, hrf, hw⟩ := hw
      refine zr_getR (ci := 8) (f := 800) hx hb hts ki_Mo hown hK hG hy rfl 0 (by decide) (hts _ (List.mem_cons_of_mem _ kw_584)) (fun _ h => h) rfl rfl hrf kb_Mo_parse_16 ?_
      refine lv_iload_n hx hb kb_Mo_parse_19 rfl (lv_at hl 1 rfl) ?_
      obtain ⟨n20, s20, hy, hi, hw⟩ := hw
      refine zr_bald hx hb hK hG 1 hy rfl hi kb_Mo_parse_20 ?_
      refine lv_sipush (v := (255 : Int32)) hx hb kb_Mo_parse_21 (by decide) ?_
      refine lv_iand hx hb kb_Mo_parse_24 ?_
      refine lv_istore_n (lv' := [(2, .int ((z_A σ s20 r16 v1.toNatClampNeg) &&& ((255 : Int32)))), (0, .ref a0), (1, .int v1)]) hx hb kb_Mo_parse_25 rfl hl (by decide) rfl (fun ls hl => ?_)
      refine lv_iload_n hx hb kb_Mo_parse_26 rfl (lv_at hl 0 rfl) ?_
      refine lv_bipush (v := (32 : Int32)) hx hb kb_Mo_parse_27 (by decide) ?_
      refine lv_icmp_eq (tgt := 68) hx hb kb_Mo_parse_29 (by decide) (fun hc => ?_) (fun hc => ?_)
      · have hw := hw.1 hc
        refine lv_iinc (v := v1 + (1 : Int32)) (lv' := [(1, .int (v1 + (1 : Int32))), (2, .int ((z_A σ s20 r16 v1.toNatClampNeg) &&& ((255 : Int32)))), (0, .ref a0)]) hx hb kb_Mo_parse_68 hl (k := 2) rfl rfl (by decide) rfl (fun ls hl => ?_)
        refine lv_goto (tgt := 7) hx hb kb_Mo_parse_71 (by decide) ?_
        exact hw _ _ _ hG hS (lv_sub hl [2, 0] rfl)
      · have hw := hw.2 hc
        refine lv_iload_n hx hb kb_Mo_parse_32 rfl (lv_at hl 0 rfl) ?_
        refine lv_bipush (v := (10 : Int32)) hx hb kb_Mo_parse_33 (by decide) ?_
        refine lv_icmp_eq (tgt := 68) hx hb kb_Mo_parse_35 (by decide) (fun hc => ?_) (fun hc => ?_)
        · have hw := hw.1 hc
          refine lv_iinc (v := v1 + (1 : Int32)) (lv' := [(1, .int (v1 + (1 : Int32))), (2, .int ((z_A σ s20 r16 v1.toNatClampNeg) &&& ((255 : Int32)))), (0, .ref a0)]) hx hb kb_Mo_parse_68 hl (k := 2) rfl rfl (by decide) rfl (fun ls hl => ?_)
          refine lv_goto (tgt := 7) hx hb kb_Mo_parse_71 (by decide) ?_
          exact hw _ _ _ hG hS (lv_sub hl [2, 0] rfl)
        · have hw := hw.2 hc
          refine lv_aload_n hx hb kb_Mo_parse_38 rfl (lv_at hl 1 rfl) ?_
          obtain ⟨hy, r39, hrf, hw⟩ := hw
          refine zr_getR (ci := 8) (f := 802) hx hb hts ki_Mo hown hK hG hy rfl 2 (by decide) (hts _ (List.mem_cons_of_mem _ kw_586)) (fun _ h => h) rfl rfl hrf kb_Mo_parse_39 ?_
          refine lv_aload_n hx hb kb_Mo_parse_42 rfl (lv_at hl 1 rfl) ?_
          obtain ⟨hy, hw⟩ := hw
          refine zr_getI (ci := 8) (f := 804) hx hb hts ki_Mo hown hK hG hy rfl 4 (by decide) (hts _ (List.mem_cons_of_mem _ kw_588)) (fun _ h => h) rfl rfl kb_Mo_parse_43 ?_
          refine lv_iload_n hx hb kb_Mo_parse_46 rfl (lv_at hl 0 rfl) ?_
          obtain ⟨n47, s47, hy, hi, hw⟩ := hw
          refine zr_iast hx hb hK hG hS 0 hy rfl hi kb_Mo_parse_47 (fun H locs hG hS => ?_)
          obtain ⟨σ47, e47⟩ : ∃ z, z = z_sA σ s47 r39 (upd (z_A σ s47 r39) (z_I σ 804 a0).toNatClampNeg ((z_A σ s20 r16 v1.toNatClampNeg) &&& ((255 : Int32)))) := ⟨_, rfl⟩
          rw [← e47] at hG
          have hw := hw _ e47
          refine lv_aload_n hx hb kb_Mo_parse_48 rfl (lv_at hl 1 rfl) ?_
          obtain ⟨hy, r49, hrf, hw⟩ := hw
          refine zr_getR (ci := 8) (f := 803) hx hb hts ki_Mo hown hK hG hy rfl 3 (by decide) (hts _ (List.mem_cons_of_mem _ kw_587)) (fun _ h => h) rfl rfl hrf kb_Mo_parse_49 ?_
          refine lv_aload_n hx hb kb_Mo_parse_52 rfl (lv_at hl 1 rfl) ?_
          obtain ⟨hy, hw⟩ := hw
          refine zr_getI (ci := 8) (f := 804) hx hb hts ki_Mo hown hK hG hy rfl 4 (by decide) (hts _ (List.mem_cons_of_mem _ kw_588)) (fun _ h => h) rfl rfl kb_Mo_parse_53 ?_
          refine lv_iload_n hx hb kb_Mo_parse_56 rfl (lv_at hl 2 rfl) ?_
          obtain ⟨n57, s57, hy, hi, hw⟩ := hw
          refine zr_iast hx hb hK hG hS 0 hy rfl hi kb_Mo_parse_57 (fun H locs hG hS => ?_)
          obtain ⟨σ57, e57⟩ : ∃ z, z = z_sA σ47 s57 r49 (upd (z_A σ47 s57 r49) (z_I σ47 804 a0).toNatClampNeg v1) := ⟨_, rfl⟩
          rw [← e57] at hG
          have hw := hw _ e57
          refine lv_aload_n hx hb kb_Mo_parse_58 rfl (lv_at hl 1 rfl) ?_
          refine lv_dup hx hb kb_Mo_parse_59 rfl ?_
          obtain ⟨hy, hw⟩ := hw
          refine zr_getI (ci := 8) (f := 804) hx hb hts ki_Mo hown hK hG hy rfl 4 (by decide) (hts _ (List.mem_cons_of_mem _ kw_588)) (fun _ h => h) rfl rfl kb_Mo_parse_60 ?_
          refine lv_iconst (v := (1 : Int32)) hx hb kb_Mo_parse_63 (by decide) ?_
          refine lv_iadd hx hb kb_Mo_parse_64 ?_
          obtain ⟨hy, hw⟩ := hw
          refine zr_putI (ci := 8) (f := 804) hx hb hts ki_Mo ky_Mo kyo_Mo kn_Mo hown hK hG hS hy rfl 4 (by decide) (hts _ (List.mem_cons_of_mem _ kw_588)) (fun _ h => h) rfl rfl rfl rfl rfl kb_Mo_parse_65 (fun H locs hG hS => ?_)
          obtain ⟨σ65, e65⟩ : ∃ z, z = z_sI σ57 804 a0 ((z_I σ57 804 a0) + ((1 : Int32))) := ⟨_, rfl⟩
          rw [← e65] at hG
          have hw := hw _ e65
          refine lv_iinc (v := v1 + (1 : Int32)) (lv' := [(1, .int (v1 + (1 : Int32))), (2, .int ((z_A σ s20 r16 v1.toNatClampNeg) &&& ((255 : Int32)))), (0, .ref a0)]) hx hb kb_Mo_parse_68 hl (k := 2) rfl rfl (by decide) rfl (fun ls hl => ?_)
          refine lv_goto (tgt := 7) hx hb kb_Mo_parse_71 (by decide) ?_
          exact hw _ _ _ hG hS (lv_sub hl [2, 0] rfl))
  have hw := hw (by
    intro σ hw H locs ls hG hS hl
    refine lv_aload_n hx hb kb_Mo_parse_121 rfl (lv_at hl 0 rfl) ?_
    obtain ⟨hy, hw⟩ := hw
    refine zr_getI (ci := 8) (f := 806) hx hb hts ki_Mo hown hK hG hy rfl 6 (by decide) (hts _ (List.mem_cons_of_mem _ kw_590)) (fun _ h => h) rfl rfl kb_Mo_parse_122 ?_
    refine lv_if_ne (tgt := 146) hx hb kb_Mo_parse_125 (by decide) (fun hc => ?_) (fun hc => ?_)
    · have hw := hw.1 hc
      exact hw _ _ _ hG hS (lv_sub hl [0] rfl)
    · have hw := hw.2 hc
      refine lv_aload_n hx hb kb_Mo_parse_128 rfl (lv_at hl 0 rfl) ?_
      obtain ⟨hy, hw⟩ := hw
      refine zr_getI (ci := 8) (f := 805) hx hb hts ki_Mo hown hK hG hy rfl 5 (by decide) (hts _ (List.mem_cons_of_mem _ kw_589)) (fun _ h => h) rfl rfl kb_Mo_parse_129 ?_
      refine lv_aload_n hx hb kb_Mo_parse_132 rfl (lv_at hl 0 rfl) ?_
      obtain ⟨hy, hw⟩ := hw
      refine zr_getI (ci := 8) (f := 804) hx hb hts ki_Mo hown hK hG hy rfl 4 (by decide) (hts _ (List.mem_cons_of_mem _ kw_588)) (fun _ h => h) rfl rfl kb_Mo_parse_133 ?_
      refine lv_icmp_ge (tgt := 146) hx hb kb_Mo_parse_136 (by decide) (fun hc => ?_) (fun hc => ?_)
      · have hw := hw.1 hc
        exact hw _ _ _ hG hS (lv_sub hl [0] rfl)
      · have hw := hw.2 hc
        refine lv_aload_n hx hb kb_Mo_parse_139 rfl (lv_at hl 0 rfl) ?_
        obtain ⟨hy, hw⟩ := hw
        refine zr_cv (va_runV (C := kR_Mo) (As := []) (rest := []) ⟨hx, hb, hml, hown, hts⟩ (kc_Mo_rule l D dA Z a0 σ _) ⟨callB_of 0 hts (z_gw kw_703) rfl rfl rfl (hts _ (List.mem_cons_of_mem _ kw_9)) (hts _ (List.mem_cons_of_mem _ kw_701)) (by decide +kernel) ⟨Nat.le_of_ble_eq_true rfl, Nat.le_of_ble_eq_true rfl⟩, (hts _ (List.mem_cons_of_mem _ kw_702)), (hts _ (List.mem_cons_of_mem _ kw_953))⟩ (z_preV z_nwN (Nat.le_trans hZ hS.1) hG hK hN hy (ci := 8) (r := (kR_Mo, kT_Mo, 51)) rfl hw) rfl rfl hl.1 rfl (lv_room (Nat.le_of_ble_eq_true rfl)) kb_Mo_parse_140 ⟨Nat.le_of_ble_eq_true rfl, Nat.le_of_ble_eq_true rfl⟩) hS (fun σ140 H locs hw hG hS => ?_)
        refine lv_goto (tgt := 121) hx hb kb_Mo_parse_143 (by decide) ?_
        exact hw _ _ _ hG hS (lv_sub hl [0] rfl))
  have hw := hw (by
    intro σ hw H locs ls hG hS hl
    refine lv_aload_n hx hb kb_Mo_parse_146 rfl (lv_at hl 0 rfl) ?_
    obtain ⟨hy, hw⟩ := hw
    refine zr_getI (ci := 8) (f := 806) hx hb hts ki_Mo hown hK hG hy rfl 6 (by decide) (hts _ (List.mem_cons_of_mem _ kw_590)) (fun _ h => h) rfl rfl kb_Mo_parse_147 ?_
    refine lv_if_ne (tgt := 182) hx hb kb_Mo_parse_150 (by decide) (fun hc => ?_) (fun hc => ?_)
    · have hw := hw.1 hc
      exact hw _ _ _ hG hS (lv_sub hl [0] rfl)
    · have hw := hw.2 hc
      refine lv_aload_n hx hb kb_Mo_parse_153 rfl (lv_at hl 0 rfl) ?_
      obtain ⟨hy, hw⟩ := hw
      refine zr_cv (va_runV (C := kR_Mo) (As := []) (rest := []) ⟨hx, hb, hml, hown, hts⟩ (kc_Mo_reaches l D dA Z a0 σ _) ⟨callB_of 0 hts (z_gw kw_745) rfl rfl rfl (hts _ (List.mem_cons_of_mem _ kw_9)) (hts _ (List.mem_cons_of_mem _ kw_743)) (by decide +kernel) ⟨Nat.le_of_ble_eq_true rfl, Nat.le_of_ble_eq_true rfl⟩, (hts _ (List.mem_cons_of_mem _ kw_744)), (hts _ (List.mem_cons_of_mem _ kw_962))⟩ (z_preV z_nwN (Nat.le_trans hZ hS.1) hG hK hN hy (ci := 8) (r := (kR_Mo, kT_Mo, 51)) rfl hw) rfl rfl hl.1 rfl (lv_room (Nat.le_of_ble_eq_true rfl)) kb_Mo_parse_154 ⟨Nat.le_of_ble_eq_true rfl, Nat.le_of_ble_eq_true rfl⟩) hS (fun σ154 H locs hw hG hS => ?_)
      refine lv_aload_n hx hb kb_Mo_parse_157 rfl (lv_at hl 0 rfl) ?_
      obtain ⟨hy, hw⟩ := hw
      refine zr_ci (va_runV (C := kR_Mo) (As := []) (rest := []) ⟨hx, hb, hml, hown, hts⟩ (kc_Mo_layers l D dA Z a0 σ154 _) ⟨callB_of 0 hts (z_gw kw_748) rfl rfl rfl (hts _ (List.mem_cons_of_mem _ kw_9)) (hts _ (List.mem_cons_of_mem _ kw_746)) (by decide +kernel) ⟨Nat.le_of_ble_eq_true rfl, Nat.le_of_ble_eq_true rfl⟩, (hts _ (List.mem_cons_of_mem _ kw_747)), (hts _ (List.mem_cons_of_mem _ kw_963))⟩ (z_preV z_nwN (Nat.le_trans hZ hS.1) hG hK hN hy (ci := 8) (r := (kR_Mo, kT_Mo, 51)) rfl hw) rfl rfl hl.1 rfl (lv_room (Nat.le_of_ble_eq_true rfl)) kb_Mo_parse_158 ⟨Nat.le_of_ble_eq_true rfl, Nat.le_of_ble_eq_true rfl⟩) hS (fun r158 σ158 H locs hw hG hS => ?_)
      refine lv_if_ne (tgt := 182) hx hb kb_Mo_parse_161 (by decide) (fun hc => ?_) (fun hc => ?_)
      · have hw := hw.1 hc
        exact hw _ _ _ hG hS (lv_sub hl [0] rfl)
      · have hw := hw.2 hc
        refine lv_aload_n hx hb kb_Mo_parse_164 rfl (lv_at hl 0 rfl) ?_
        refine lv_aload_n hx hb kb_Mo_parse_165 rfl (lv_at hl 0 rfl) ?_
        obtain ⟨hy, hw⟩ := hw
        refine zr_getI (ci := 8) (f := 804) hx hb hts ki_Mo hown hK hG hy rfl 4 (by decide) (hts _ (List.mem_cons_of_mem _ kw_588)) (fun _ h => h) rfl rfl kb_Mo_parse_166 ?_
        obtain ⟨hy, hw⟩ := hw
        refine zr_putI (ci := 8) (f := 805) hx hb hts ki_Mo ky_Mo kyo_Mo kn_Mo hown hK hG hS hy rfl 5 (by decide) (hts _ (List.mem_cons_of_mem _ kw_589)) (fun _ h => h) rfl rfl rfl rfl rfl kb_Mo_parse_169 (fun H locs hG hS => ?_)
        obtain ⟨σ169, e169⟩ : ∃ z, z = z_sI σ158 805 a0 (z_I σ158 804 a0) := ⟨_, rfl⟩
        rw [← e169] at hG
        have hw := hw _ e169
        refine lv_aload_n hx hb kb_Mo_parse_172 rfl (lv_at hl 0 rfl) ?_
        refine lv_bipush (v := (6 : Int32)) hx hb kb_Mo_parse_173 (by decide) ?_
        obtain ⟨hy, hw⟩ := hw
        refine zr_cv (va_runV (C := kR_Mo) (As := [.int ((6 : Int32))]) (rest := []) ⟨hx, hb, hml, hown, hts⟩ (kc_Mo_wrong l D dA Z a0 ((6 : Int32)) σ169 _) ⟨callB_of 1 hts (z_gw kw_712) rfl rfl rfl (hts _ (List.mem_cons_of_mem _ kw_9)) (hts _ (List.mem_cons_of_mem _ kw_710)) (by decide +kernel) ⟨Nat.le_of_ble_eq_true rfl, Nat.le_of_ble_eq_true rfl⟩, (hts _ (List.mem_cons_of_mem _ kw_711)), (hts _ (List.mem_cons_of_mem _ kw_955))⟩ (z_preV z_nwN (Nat.le_trans hZ hS.1) hG hK hN hy (ci := 8) (r := (kR_Mo, kT_Mo, 51)) rfl hw) rfl rfl hl.1 rfl (lv_room (Nat.le_of_ble_eq_true rfl)) kb_Mo_parse_175 ⟨Nat.le_of_ble_eq_true rfl, Nat.le_of_ble_eq_true rfl⟩) hS (fun σ175 H locs hw hG hS => ?_)
        refine lv_aload_n hx hb kb_Mo_parse_178 rfl (lv_at hl 0 rfl) ?_
        obtain ⟨hy, hw⟩ := hw
        refine zr_cv (va_runV (C := kR_Mo) (As := []) (rest := []) ⟨hx, hb, hml, hown, hts⟩ (kc_Mo_findRing l D dA Z a0 σ175 _) ⟨callB_of 0 hts (z_gw kw_754) rfl rfl rfl (hts _ (List.mem_cons_of_mem _ kw_9)) (hts _ (List.mem_cons_of_mem _ kw_752)) (by decide +kernel) ⟨Nat.le_of_ble_eq_true rfl, Nat.le_of_ble_eq_true rfl⟩, (hts _ (List.mem_cons_of_mem _ kw_753)), (hts _ (List.mem_cons_of_mem _ kw_965))⟩ (z_preV z_nwN (Nat.le_trans hZ hS.1) hG hK hN hy (ci := 8) (r := (kR_Mo, kT_Mo, 51)) rfl hw) rfl rfl hl.1 rfl (lv_room (Nat.le_of_ble_eq_true rfl)) kb_Mo_parse_179 ⟨Nat.le_of_ble_eq_true rfl, Nat.le_of_ble_eq_true rfl⟩) hS (fun σ179 H locs hw hG hS => ?_)
        exact hw _ _ _ hG hS (lv_sub hl [0] rfl))
  have hw := hw (by
    intro σ hw H locs ls hG hS hl
    refine lv_aload_n hx hb kb_Mo_parse_182 rfl (lv_at hl 0 rfl) ?_
    refine lv_iconst (v := (0 : Int32)) hx hb kb_Mo_parse_183 (by decide) ?_
    obtain ⟨hy, hw⟩ := hw
    refine zr_putI (ci := 8) (f := 801) hx hb hts ki_Mo ky_Mo kyo_Mo kn_Mo hown hK hG hS hy rfl 1 (by decide) (hts _ (List.mem_cons_of_mem _ kw_585)) (fun _ h => h) rfl rfl rfl rfl rfl kb_Mo_parse_184 (fun H locs hG hS => ?_)
    obtain ⟨σ184, e184⟩ : ∃ z, z = z_sI σ 801 a0 ((0 : Int32)) := ⟨_, rfl⟩
    rw [← e184] at hG
    have hw := hw _ e184
    refine lv_aload_n hx hb kb_Mo_parse_187 rfl (lv_at hl 0 rfl) ?_
    obtain ⟨hy, hw⟩ := hw
    refine zr_getI (ci := 8) (f := 806) hx hb hts ki_Mo hown hK hG hy rfl 6 (by decide) (hts _ (List.mem_cons_of_mem _ kw_590)) (fun _ h => h) rfl rfl kb_Mo_parse_188 ?_
    refine lv_if_eq (tgt := 211) hx hb kb_Mo_parse_191 (by decide) (fun hc => ?_) (fun hc => ?_)
    · have hw := hw.1 hc
      refine lv_aload_n hx hb kb_Mo_parse_211 rfl (lv_at hl 0 rfl) ?_
      obtain ⟨hy, hw⟩ := hw
      refine zr_ci (va_runV (C := kR_Mo) (As := []) (rest := []) ⟨hx, hb, hml, hown, hts⟩ (kc_Mo_work l D dA Z a0 σ184 _) ⟨callB_of 0 hts (z_gw kw_763) rfl rfl rfl (hts _ (List.mem_cons_of_mem _ kw_9)) (hts _ (List.mem_cons_of_mem _ kw_761)) (by decide +kernel) ⟨Nat.le_of_ble_eq_true rfl, Nat.le_of_ble_eq_true rfl⟩, (hts _ (List.mem_cons_of_mem _ kw_762)), (hts _ (List.mem_cons_of_mem _ kw_968))⟩ (z_preV z_nwN (Nat.le_trans hZ hS.1) hG hK hN hy (ci := 8) (r := (kR_Mo, kT_Mo, 51)) rfl hw) rfl rfl hl.1 rfl (lv_room (Nat.le_of_ble_eq_true rfl)) kb_Mo_parse_212 ⟨Nat.le_of_ble_eq_true rfl, Nat.le_of_ble_eq_true rfl⟩) hS (fun r212 σ212 H locs hw hG hS => ?_)
      refine lv_if_ne (tgt := 226) hx hb kb_Mo_parse_215 (by decide) (fun hc => ?_) (fun hc => ?_)
      · have hw := hw.1 hc
        refine lv_aload_n hx hb kb_Mo_parse_226 rfl (lv_at hl 0 rfl) ?_
        obtain ⟨hy, hw⟩ := hw
        refine zr_getI (ci := 8) (f := 808) hx hb hts ki_Mo hown hK hG hy rfl 8 (by decide) (hts _ (List.mem_cons_of_mem _ kw_592)) (fun _ h => h) rfl rfl kb_Mo_parse_227 ?_
        exact zr_iret (free := fun q => Z ≤ q) z_nwN hx hb hr rfl hZ hK hN hG hS hw kb_Mo_parse_230 hlocks
      · have hw := hw.2 hc
        refine lv_aload_n hx hb kb_Mo_parse_218 rfl (lv_at hl 0 rfl) ?_
        refine lv_iconst (v := (0 : Int32)) hx hb kb_Mo_parse_219 (by decide) ?_
        obtain ⟨hy, hw⟩ := hw
        refine zr_putI (ci := 8) (f := 808) hx hb hts ki_Mo ky_Mo kyo_Mo kn_Mo hown hK hG hS hy rfl 8 (by decide) (hts _ (List.mem_cons_of_mem _ kw_592)) (fun _ h => h) rfl rfl rfl rfl rfl kb_Mo_parse_220 (fun H locs hG hS => ?_)
        obtain ⟨σ220, e220⟩ : ∃ z, z = z_sI σ212 808 a0 ((0 : Int32)) := ⟨_, rfl⟩
        rw [← e220] at hG
        have hw := hw _ e220
        refine lv_bipush (v := (-3 : Int32)) hx hb kb_Mo_parse_223 (by decide) ?_
        exact zr_iret (free := fun q => Z ≤ q) z_nwN hx hb hr rfl hZ hK hN hG hS hw kb_Mo_parse_225 hlocks
    · have hw := hw.2 hc
      refine lv_aload_n hx hb kb_Mo_parse_194 rfl (lv_at hl 0 rfl) ?_
      obtain ⟨hy, hw⟩ := hw
      refine zr_cv (va_runV (C := kR_Mo) (As := []) (rest := []) ⟨hx, hb, hml, hown, hts⟩ (kc_Mo_ringMany l D dA Z a0 σ184 _) ⟨callB_of 0 hts (z_gw kw_760) rfl rfl rfl (hts _ (List.mem_cons_of_mem _ kw_9)) (hts _ (List.mem_cons_of_mem _ kw_758)) (by decide +kernel) ⟨Nat.le_of_ble_eq_true rfl, Nat.le_of_ble_eq_true rfl⟩, (hts _ (List.mem_cons_of_mem _ kw_759)), (hts _ (List.mem_cons_of_mem _ kw_967))⟩ (z_preV z_nwN (Nat.le_trans hZ hS.1) hG hK hN hy (ci := 8) (r := (kR_Mo, kT_Mo, 51)) rfl hw) rfl rfl hl.1 rfl (lv_room (Nat.le_of_ble_eq_true rfl)) kb_Mo_parse_195 ⟨Nat.le_of_ble_eq_true rfl, Nat.le_of_ble_eq_true rfl⟩) hS (fun σ195 H locs hw hG hS => ?_)
      refine lv_aload_n hx hb kb_Mo_parse_198 rfl (lv_at hl 0 rfl) ?_
      refine lv_iconst (v := (0 : Int32)) hx hb kb_Mo_parse_199 (by decide) ?_
      obtain ⟨hy, hw⟩ := hw
      refine zr_putI (ci := 8) (f := 808) hx hb hts ki_Mo ky_Mo kyo_Mo kn_Mo hown hK hG hS hy rfl 8 (by decide) (hts _ (List.mem_cons_of_mem _ kw_592)) (fun _ h => h) rfl rfl rfl rfl rfl kb_Mo_parse_200 (fun H locs hG hS => ?_)
      obtain ⟨σ200, e200⟩ : ∃ z, z = z_sI σ195 808 a0 ((0 : Int32)) := ⟨_, rfl⟩
      rw [← e200] at hG
      have hw := hw _ e200
      refine lv_bipush (v := (-10 : Int32)) hx hb kb_Mo_parse_203 (by decide) ?_
      refine lv_aload_n hx hb kb_Mo_parse_205 rfl (lv_at hl 0 rfl) ?_
      obtain ⟨hy, hw⟩ := hw
      refine zr_getI (ci := 8) (f := 806) hx hb hts ki_Mo hown hK hG hy rfl 6 (by decide) (hts _ (List.mem_cons_of_mem _ kw_590)) (fun _ h => h) rfl rfl kb_Mo_parse_206 ?_
      refine lv_isub hx hb kb_Mo_parse_209 ?_
      exact zr_iret (free := fun q => Z ≤ q) z_nwN hx hb hr rfl hZ hK hN hG hS hw kb_Mo_parse_210 hlocks)
  refine lv_aload_n hx hb kb_Mo_parse_0 rfl (lv_at hl 0 rfl) ?_
  refine lv_iconst (v := (0 : Int32)) hx hb kb_Mo_parse_1 (by decide) ?_
  obtain ⟨hy, hw⟩ := hw
  refine zr_putI (ci := 8) (f := 804) hx hb hts ki_Mo ky_Mo kyo_Mo kn_Mo hown hK hG hS hy rfl 4 (by decide) (hts _ (List.mem_cons_of_mem _ kw_588)) (fun _ h => h) rfl rfl rfl rfl rfl kb_Mo_parse_2 (fun H locs hG hS => ?_)
  obtain ⟨σ2, e2⟩ : ∃ z, z = z_sI σ 804 a0 ((0 : Int32)) := ⟨_, rfl⟩
  rw [← e2] at hG
  have hw := hw _ e2
  refine lv_iconst (v := (0 : Int32)) hx hb kb_Mo_parse_5 (by decide) ?_
  refine lv_istore_n (lv' := [(1, .int ((0 : Int32))), (0, .ref a0)]) hx hb kb_Mo_parse_6 rfl hl (by decide) rfl (fun ls hl => ?_)
  exact hw _ _ _ hG hS (lv_sub hl [1, 0] rfl)
def kp_Mo_place (a0 : Nat) (σ : z_S) (Post : Int32 → z_S → Prop) : Prop :=     (z_ty σ a0 = some (.inl 8) ∧ (Post (z_I σ 807 a0) σ))
set_option maxHeartbeats 4000000 in
set_option maxRecDepth 100000 in
theorem kc_Mo_place (l : Launch) (D : va_G) (dA : Nat → ClassId) (Z : Nat) (a0 : Nat) (σ : z_S) (Post : Int32 → z_S → Prop) : Met l km_Mo_place ks_Mo_place kr_Mo_place (va_Pc [.ref a0] (fun U => z_U D z_cl z_KT dA Z (z_tys dA) z_nw σ U ∧ kp_Mo_place  a0 σ Post)) (z_Qi D z_cl z_KT dA Z (z_tys dA) z_nw Post) 0 0 (fun q => Z ≤ q) := by
  refine Met.ofW (cc := prog_10_method_48_code) (maxL := 1) (ret := (some .int)) (by decide) rfl ?_
  intro p e s m args below meth c s₁ B hml hv
  obtain ⟨rfl, ⟨hZ, hG, hK, hN⟩, hw⟩ := hv
  have hx := B.exec
  have hb := B.bytes
  have hr := B.returns
  have hts := atoms_spec (ws := ks_Mo_place) B.pre
  have hown : s.vm.findClass kR_Mo = some m.cls := findClass_of_methodNamed B.named
  have hlocks := B.notSynchronized
  have hS : va_S (fun q => Z ≤ q) s.heap s.heap [] := va_S.rf
  have hl := lv_entry ([.ref a0]) (n := 1) (Nat.le_of_ble_eq_true rfl)
  rw [lg_entry_eq]
  generalize (lg_sl ([.ref a0]) ++ List.replicate (1 - (lg_sl ([.ref a0])).length) Slot.unset).toArray = ls at hl ⊢
  have hl : lv_has ls 1 [(0, .ref a0)] := hl
  unfold kp_Mo_place at hw
  refine lv_aload_n hx hb kb_Mo_place_0 rfl (lv_at hl 0 rfl) ?_
  obtain ⟨hy, hw⟩ := hw
  refine zr_getI (ci := 8) (f := 807) hx hb hts ki_Mo hown hK hG hy rfl 7 (by decide) (hts _ (List.mem_cons_of_mem _ kw_591)) (fun _ h => h) rfl rfl kb_Mo_place_1 ?_
  exact zr_iret (free := fun q => Z ≤ q) z_nwN hx hb hr rfl hZ hK hN hG hS hw kb_Mo_place_4 hlocks
def kp_Mo_ring (a0 : Nat) (x1 : Int32) (σ : z_S) (Post : Int32 → z_S → Prop) : Prop :=     (z_ty σ a0 = some (.inl 8) ∧ ((¬ (z_I σ 806 a0) = ((6 : Int32)) → Post ((-1 : Int32)) σ) ∧ ((z_I σ 806 a0) = ((6 : Int32)) → z_ty σ a0 = some (.inl 8) ∧ (kp_Mo_isIn x1 ((0 : Int32)) ((z_I σ 849 a0) - ((1 : Int32))) σ (fun (r17 : Int32) (σ17 : z_S) => (r17 = 0 → Post ((-1 : Int32)) σ17) ∧ (¬ r17 = 0 → z_ty σ17 a0 = some (.inl 8) ∧ ∃ r24, z_R σ17 848 a0 = some r24 ∧ (∃ n28 s28, z_ty σ17 r24 = some (.inr (0, n28, s28)) ∧ vp_in x1 n28 ∧ (Post (z_A σ17 s28 r24 x1.toNatClampNeg) σ17))))))))
set_option maxHeartbeats 4000000 in
set_option maxRecDepth 100000 in
theorem kc_Mo_ring (l : Launch) (D : va_G) (dA : Nat → ClassId) (Z : Nat) (a0 : Nat) (x1 : Int32) (σ : z_S) (Post : Int32 → z_S → Prop) : Met l km_Mo_ring ks_Mo_ring kr_Mo_ring (va_Pc [.ref a0, .int x1] (fun U => z_U D z_cl z_KT dA Z (z_tys dA) z_nw σ U ∧ kp_Mo_ring  a0 x1 σ Post)) (z_Qi D z_cl z_KT dA Z (z_tys dA) z_nw Post) 0 0 (fun q => Z ≤ q) := by
  refine Met.ofW (cc := prog_10_method_49_code) (maxL := 2) (ret := (some .int)) (by decide) rfl ?_
  intro p e s m args below meth c s₁ B hml hv
  obtain ⟨rfl, ⟨hZ, hG, hK, hN⟩, hw⟩ := hv
  have hx := B.exec
  have hb := B.bytes
  have hr := B.returns
  have hts := atoms_spec (ws := ks_Mo_ring) B.pre
  have hown : s.vm.findClass kR_Mo = some m.cls := findClass_of_methodNamed B.named
  have hlocks := B.notSynchronized
  have hS : va_S (fun q => Z ≤ q) s.heap s.heap [] := va_S.rf
  have hl := lv_entry ([.ref a0, .int x1]) (n := 2) (Nat.le_of_ble_eq_true rfl)
  rw [lg_entry_eq]
  generalize (lg_sl ([.ref a0, .int x1]) ++ List.replicate (2 - (lg_sl ([.ref a0, .int x1])).length) Slot.unset).toArray = ls at hl ⊢
  have hl : lv_has ls 2 [(0, .ref a0), (1, .int x1)] := hl
  unfold kp_Mo_ring at hw
  refine lv_aload_n hx hb kb_Mo_ring_0 rfl (lv_at hl 0 rfl) ?_
  obtain ⟨hy, hw⟩ := hw
  refine zr_getI (ci := 8) (f := 806) hx hb hts ki_Mo hown hK hG hy rfl 6 (by decide) (hts _ (List.mem_cons_of_mem _ kw_590)) (fun _ h => h) rfl rfl kb_Mo_ring_1 ?_
  refine lv_bipush (v := (6 : Int32)) hx hb kb_Mo_ring_4 (by decide) ?_
  refine lv_icmp_ne (tgt := 32) hx hb kb_Mo_ring_6 (by decide) (fun hc => ?_) (fun hc => ?_)
  · have hw := hw.1 hc
    refine lv_iconst (v := (-1 : Int32)) hx hb kb_Mo_ring_32 (by decide) ?_
    exact zr_iret (free := fun q => Z ≤ q) z_nwN hx hb hr rfl hZ hK hN hG hS hw kb_Mo_ring_33 hlocks
  · have hw := hw.2 hc
    refine lv_iload_n hx hb kb_Mo_ring_9 rfl (lv_at hl 1 rfl) ?_
    refine lv_iconst (v := (0 : Int32)) hx hb kb_Mo_ring_10 (by decide) ?_
    refine lv_aload_n hx hb kb_Mo_ring_11 rfl (lv_at hl 0 rfl) ?_
    obtain ⟨hy, hw⟩ := hw
    refine zr_getI (ci := 8) (f := 849) hx hb hts ki_Mo hown hK hG hy rfl 49 (by decide) (hts _ (List.mem_cons_of_mem _ kw_633)) (fun _ h => h) rfl rfl kb_Mo_ring_12 ?_
    refine lv_iconst (v := (1 : Int32)) hx hb kb_Mo_ring_15 (by decide) ?_
    refine lv_isub hx hb kb_Mo_ring_16 ?_
    refine zr_ci (va_runS (As := [.int x1, .int ((0 : Int32)), .int ((z_I σ 849 a0) - ((1 : Int32)))]) (rest := []) ⟨hx, hb, hml, hown, hts⟩ (kc_Mo_isIn l D dA Z x1 ((0 : Int32)) ((z_I σ 849 a0) - ((1 : Int32))) σ _) ⟨callB_of 3 hts (z_gw kw_693) rfl rfl rfl (hts _ (List.mem_cons_of_mem _ kw_9)) (hts _ (List.mem_cons_of_mem _ kw_691)) (by decide +kernel) ⟨Nat.le_of_ble_eq_true rfl, Nat.le_of_ble_eq_true rfl⟩, (hts _ (List.mem_cons_of_mem _ kw_692))⟩ (z_preS z_nwN (Nat.le_trans hZ hS.1) hG hK hN hw) rfl rfl hl.1 rfl (lv_room (Nat.le_of_ble_eq_true rfl)) kb_Mo_ring_17 ⟨Nat.le_of_ble_eq_true rfl, Nat.le_of_ble_eq_true rfl⟩) hS (fun r17 σ17 H locs hw hG hS => ?_)
    refine lv_if_eq (tgt := 32) hx hb kb_Mo_ring_20 (by decide) (fun hc => ?_) (fun hc => ?_)
    · have hw := hw.1 hc
      refine lv_iconst (v := (-1 : Int32)) hx hb kb_Mo_ring_32 (by decide) ?_
      exact zr_iret (free := fun q => Z ≤ q) z_nwN hx hb hr rfl hZ hK hN hG hS hw kb_Mo_ring_33 hlocks
    · have hw := hw.2 hc
      refine lv_aload_n hx hb kb_Mo_ring_23 rfl (lv_at hl 0 rfl) ?_
      obtain ⟨hy, r24, hrf, hw⟩ := hw
      refine zr_getR (ci := 8) (f := 848) hx hb hts ki_Mo hown hK hG hy rfl 48 (by decide) (hts _ (List.mem_cons_of_mem _ kw_632)) (fun _ h => h) rfl rfl hrf kb_Mo_ring_24 ?_
      refine lv_iload_n hx hb kb_Mo_ring_27 rfl (lv_at hl 1 rfl) ?_
      obtain ⟨n28, s28, hy, hi, hw⟩ := hw
      refine zr_iald hx hb hK hG 0 hy rfl hi kb_Mo_ring_28 ?_
      refine lv_goto (tgt := 33) hx hb kb_Mo_ring_29 (by decide) ?_
      exact zr_iret (free := fun q => Z ≤ q) z_nwN hx hb hr rfl hZ hK hN hG hS hw kb_Mo_ring_33 hlocks
def kp_Mo_relation (a0 : Nat) (x1 : Int32) (σ : z_S) (Post : Int32 → z_S → Prop) : Prop := ∀ (X12 : Int32 → z_S → Prop),
    (∀ (v2 : Int32) (σ : z_S), (z_ty σ a0 = some (.inl 8) ∧ (((z_I σ 817 a0) ≤ v2 → Post ((-1 : Int32)) σ) ∧ (¬ (z_I σ 817 a0) ≤ v2 → z_ty σ a0 = some (.inl 8) ∧ ∃ r21, z_R σ 818 a0 = some r21 ∧ (∃ n25 s25, z_ty σ r21 = some (.inr (0, n25, s25)) ∧ vp_in v2 n25 ∧ ((¬ (z_A σ s25 r21 v2.toNatClampNeg) = x1 → X12 (v2 + (1 : Int32)) σ) ∧ ((z_A σ s25 r21 v2.toNatClampNeg) = x1 → Post v2 σ)))))) → X12 v2 σ) →
    (z_ty σ a0 = some (.inl 8) ∧ ((¬ ((z_I σ 808 a0)) = 0 → X12 ((0 : Int32)) σ) ∧ (((z_I σ 808 a0)) = 0 → Post ((-4 : Int32)) σ)))
set_option maxHeartbeats 4000000 in
set_option maxRecDepth 100000 in
theorem kc_Mo_relation (l : Launch) (D : va_G) (dA : Nat → ClassId) (Z : Nat) (a0 : Nat) (x1 : Int32) (σ : z_S) (Post : Int32 → z_S → Prop) : Met l km_Mo_relation ks_Mo_relation kr_Mo_relation (va_Pc [.ref a0, .int x1] (fun U => z_U D z_cl z_KT dA Z (z_tys dA) z_nw σ U ∧ kp_Mo_relation  a0 x1 σ Post)) (z_Qi D z_cl z_KT dA Z (z_tys dA) z_nw Post) 0 0 (fun q => Z ≤ q) := by
  refine Met.ofW (cc := prog_10_method_50_code) (maxL := 3) (ret := (some .int)) (by decide) rfl ?_
  intro p e s m args below meth c s₁ B hml hv
  obtain ⟨rfl, ⟨hZ, hG, hK, hN⟩, hw⟩ := hv
  have hx := B.exec
  have hb := B.bytes
  have hr := B.returns
  have hts := atoms_spec (ws := ks_Mo_relation) B.pre
  have hown : s.vm.findClass kR_Mo = some m.cls := findClass_of_methodNamed B.named
  have hlocks := B.notSynchronized
  have hS : va_S (fun q => Z ≤ q) s.heap s.heap [] := va_S.rf
  have hl := lv_entry ([.ref a0, .int x1]) (n := 3) (Nat.le_of_ble_eq_true rfl)
  rw [lg_entry_eq]
  generalize (lg_sl ([.ref a0, .int x1]) ++ List.replicate (3 - (lg_sl ([.ref a0, .int x1])).length) Slot.unset).toArray = ls at hl ⊢
  have hl : lv_has ls 3 [(0, .ref a0), (1, .int x1)] := hl
  unfold kp_Mo_relation at hw
  have hw := hw (fun (v2 : Int32) (σ : z_S) => ∀ (H : Heap) (locs : List Loc) (ls : Array Slot), z_G D z_cl z_KT dA Z σ H → va_S (fun q => Z ≤ q) s.heap H locs → lv_has ls 3 [(0, .ref a0), (1, .int x1), (2, .int v2)] → W p l e (headSpec ks_Mo_relation kr_Mo_relation).room s m ([.ref a0, .int x1] : List Value).toArray below meth c H locs 0 0 (MQ below (z_Qi D z_cl z_KT dA Z (z_tys dA) z_nw Post) ([.ref a0, .int x1] : List Value).toArray s 0 0 (fun q => Z ≤ q)) (F0 m 12 ls []))
  have hw := hw (by
    intro v2 σ hw H locs ls hG hS hl
    refine lv_iload_n hx hb kb_Mo_relation_12 rfl (lv_at hl 2 rfl) ?_
    refine lv_aload_n hx hb kb_Mo_relation_13 rfl (lv_at hl 0 rfl) ?_
    obtain ⟨hy, hw⟩ := hw
    refine zr_getI (ci := 8) (f := 817) hx hb hts ki_Mo hown hK hG hy rfl 17 (by decide) (hts _ (List.mem_cons_of_mem _ kw_601)) (fun _ h => h) rfl rfl kb_Mo_relation_14 ?_
    refine lv_icmp_ge (tgt := 38) hx hb kb_Mo_relation_17 (by decide) (fun hc => ?_) (fun hc => ?_)
    · have hw := hw.1 hc
      refine lv_iconst (v := (-1 : Int32)) hx hb kb_Mo_relation_38 (by decide) ?_
      exact zr_iret (free := fun q => Z ≤ q) z_nwN hx hb hr rfl hZ hK hN hG hS hw kb_Mo_relation_39 hlocks
    · have hw := hw.2 hc
      refine lv_aload_n hx hb kb_Mo_relation_20 rfl (lv_at hl 0 rfl) ?_
      obtain ⟨hy, r21, hrf, hw⟩ := hw
      refine zr_getR (ci := 8) (f := 818) hx hb hts ki_Mo hown hK hG hy rfl 18 (by decide) (hts _ (List.mem_cons_of_mem _ kw_602)) (fun _ h => h) rfl rfl hrf kb_Mo_relation_21 ?_
      refine lv_iload_n hx hb kb_Mo_relation_24 rfl (lv_at hl 2 rfl) ?_
      obtain ⟨n25, s25, hy, hi, hw⟩ := hw
      refine zr_iald hx hb hK hG 0 hy rfl hi kb_Mo_relation_25 ?_
      refine lv_iload_n hx hb kb_Mo_relation_26 rfl (lv_at hl 1 rfl) ?_
      refine lv_icmp_ne (tgt := 32) hx hb kb_Mo_relation_27 (by decide) (fun hc => ?_) (fun hc => ?_)
      · have hw := hw.1 hc
        refine lv_iinc (v := v2 + (1 : Int32)) (lv' := [(2, .int (v2 + (1 : Int32))), (0, .ref a0), (1, .int x1)]) hx hb kb_Mo_relation_32 hl (k := 2) rfl rfl (by decide) rfl (fun ls hl => ?_)
        refine lv_goto (tgt := 12) hx hb kb_Mo_relation_35 (by decide) ?_
        exact hw _ _ _ hG hS (lv_sub hl [1, 2, 0] rfl)
      · have hw := hw.2 hc
        refine lv_iload_n hx hb kb_Mo_relation_30 rfl (lv_at hl 2 rfl) ?_
        exact zr_iret (free := fun q => Z ≤ q) z_nwN hx hb hr rfl hZ hK hN hG hS hw kb_Mo_relation_31 hlocks)
  refine lv_aload_n hx hb kb_Mo_relation_0 rfl (lv_at hl 0 rfl) ?_
  obtain ⟨hy, hw⟩ := hw
  refine zr_getI (ci := 8) (f := 808) hx hb hts ki_Mo hown hK hG hy rfl 8 (by decide) (hts _ (List.mem_cons_of_mem _ kw_592)) (fun _ h => h) rfl rfl kb_Mo_relation_1 ?_
  refine lv_if_ne (tgt := 10) hx hb kb_Mo_relation_4 (by decide) (fun hc => ?_) (fun hc => ?_)
  · have hw := hw.1 hc
    refine lv_iconst (v := (0 : Int32)) hx hb kb_Mo_relation_10 (by decide) ?_
    refine lv_istore_n (lv' := [(2, .int ((0 : Int32))), (0, .ref a0), (1, .int x1)]) hx hb kb_Mo_relation_11 rfl hl (by decide) rfl (fun ls hl => ?_)
    exact hw _ _ _ hG hS (lv_sub hl [1, 2, 0] rfl)
  · have hw := hw.2 hc
    refine lv_bipush (v := (-4 : Int32)) hx hb kb_Mo_relation_7 (by decide) ?_
    exact zr_iret (free := fun q => Z ≤ q) z_nwN hx hb hr rfl hZ hK hN hG hS hw kb_Mo_relation_9 hlocks
def kp_Mo_isRelation (a0 : Nat) (x1 : Int32) (σ : z_S) (Post : Int32 → z_S → Prop) : Prop :=     (z_ty σ a0 = some (.inl 8) ∧ (kp_Mo_isIn x1 ((0 : Int32)) ((z_I σ 817 a0) - ((1 : Int32))) σ (fun (r8 : Int32) (σ8 : z_S) => (r8 = 0 ∨ r8 = 1) ∧ Post r8 σ8)))
set_option maxHeartbeats 4000000 in
set_option maxRecDepth 100000 in
theorem kc_Mo_isRelation (l : Launch) (D : va_G) (dA : Nat → ClassId) (Z : Nat) (a0 : Nat) (x1 : Int32) (σ : z_S) (Post : Int32 → z_S → Prop) : Met l km_Mo_isRelation ks_Mo_isRelation kr_Mo_isRelation (va_Pc [.ref a0, .int x1] (fun U => z_U D z_cl z_KT dA Z (z_tys dA) z_nw σ U ∧ kp_Mo_isRelation  a0 x1 σ Post)) (z_Qi D z_cl z_KT dA Z (z_tys dA) z_nw Post) 0 0 (fun q => Z ≤ q) := by
  refine Met.ofW (cc := prog_10_method_51_code) (maxL := 2) (ret := (some .boolean)) (by decide) rfl ?_
  intro p e s m args below meth c s₁ B hml hv
  obtain ⟨rfl, ⟨hZ, hG, hK, hN⟩, hw⟩ := hv
  have hx := B.exec
  have hb := B.bytes
  have hr := B.returns
  have hts := atoms_spec (ws := ks_Mo_isRelation) B.pre
  have hown : s.vm.findClass kR_Mo = some m.cls := findClass_of_methodNamed B.named
  have hlocks := B.notSynchronized
  have hS : va_S (fun q => Z ≤ q) s.heap s.heap [] := va_S.rf
  have hl := lv_entry ([.ref a0, .int x1]) (n := 2) (Nat.le_of_ble_eq_true rfl)
  rw [lg_entry_eq]
  generalize (lg_sl ([.ref a0, .int x1]) ++ List.replicate (2 - (lg_sl ([.ref a0, .int x1])).length) Slot.unset).toArray = ls at hl ⊢
  have hl : lv_has ls 2 [(0, .ref a0), (1, .int x1)] := hl
  unfold kp_Mo_isRelation at hw
  refine lv_iload_n hx hb kb_Mo_isRelation_0 rfl (lv_at hl 1 rfl) ?_
  refine lv_iconst (v := (0 : Int32)) hx hb kb_Mo_isRelation_1 (by decide) ?_
  refine lv_aload_n hx hb kb_Mo_isRelation_2 rfl (lv_at hl 0 rfl) ?_
  obtain ⟨hy, hw⟩ := hw
  refine zr_getI (ci := 8) (f := 817) hx hb hts ki_Mo hown hK hG hy rfl 17 (by decide) (hts _ (List.mem_cons_of_mem _ kw_601)) (fun _ h => h) rfl rfl kb_Mo_isRelation_3 ?_
  refine lv_iconst (v := (1 : Int32)) hx hb kb_Mo_isRelation_6 (by decide) ?_
  refine lv_isub hx hb kb_Mo_isRelation_7 ?_
  refine zr_ci (va_runS (As := [.int x1, .int ((0 : Int32)), .int ((z_I σ 817 a0) - ((1 : Int32)))]) (rest := []) ⟨hx, hb, hml, hown, hts⟩ (kc_Mo_isIn l D dA Z x1 ((0 : Int32)) ((z_I σ 817 a0) - ((1 : Int32))) σ _) ⟨callB_of 3 hts (z_gw kw_693) rfl rfl rfl (hts _ (List.mem_cons_of_mem _ kw_9)) (hts _ (List.mem_cons_of_mem _ kw_691)) (by decide +kernel) ⟨Nat.le_of_ble_eq_true rfl, Nat.le_of_ble_eq_true rfl⟩, (hts _ (List.mem_cons_of_mem _ kw_692))⟩ (z_preS z_nwN (Nat.le_trans hZ hS.1) hG hK hN hw) rfl rfl hl.1 rfl (lv_room (Nat.le_of_ble_eq_true rfl)) kb_Mo_isRelation_8 ⟨Nat.le_of_ble_eq_true rfl, Nat.le_of_ble_eq_true rfl⟩) hS (fun r8 σ8 H locs hw hG hS => ?_)
  exact zr_iret (free := fun q => Z ≤ q) z_nwN hx hb hr (z_bool hw.1) hZ hK hN hG hS hw.2 kb_Mo_isRelation_11 hlocks
def kp_Mo_of (a0 : Nat) (x1 : Int32) (x2 : Int32) (σ : z_S) (Post : Int32 → z_S → Prop) : Prop :=     (z_ty σ a0 = some (.inl 8) ∧ ((¬ ((z_I σ 808 a0)) = 0 → z_ty σ a0 = some (.inl 8) ∧ kp_Mo_isRelation a0 x1 σ (fun (r12 : Int32) (σ12 : z_S) => (r12 = 0 → Post ((-2 : Int32)) σ12) ∧ (¬ r12 = 0 → kp_Mo_isIn x2 ((0 : Int32)) ((4 : Int32)) σ12 (fun (r21 : Int32) (σ21 : z_S) => (¬ r21 = 0 → (x2 = (0 : Int32) → z_ty σ21 a0 = some (.inl 8) ∧ ∃ r61, z_R σ21 820 a0 = some r61 ∧ (∃ n65 s65, z_ty σ21 r61 = some (.inr (2, n65, s65)) ∧ vp_in x1 n65 ∧ ((((z_A σ21 s65 r61 x1.toNatClampNeg)) = 0 → Post ((0 : Int32)) σ21) ∧ (¬ ((z_A σ21 s65 r61 x1.toNatClampNeg)) = 0 → Post ((1 : Int32)) σ21)))) ∧ (¬ x2 = (0 : Int32) → (x2 = (1 : Int32) → z_ty σ21 a0 = some (.inl 8) ∧ ∃ r76, z_R σ21 819 a0 = some r76 ∧ (∃ n80 s80, z_ty σ21 r76 = some (.inr (0, n80, s80)) ∧ vp_in x1 n80 ∧ (Post (z_A σ21 s80 r76 x1.toNatClampNeg) σ21))) ∧ (¬ x2 = (1 : Int32) → (x2 = (2 : Int32) → z_ty σ21 a0 = some (.inl 8) ∧ ∃ r83, z_R σ21 821 a0 = some r83 ∧ (∃ n87 s87, z_ty σ21 r83 = some (.inr (0, n87, s87)) ∧ vp_in x1 n87 ∧ (Post (z_A σ21 s87 r83 x1.toNatClampNeg) σ21))) ∧ (¬ x2 = (2 : Int32) → (x2 = (3 : Int32) → z_ty σ21 a0 = some (.inl 8) ∧ ∃ r90, z_R σ21 826 a0 = some r90 ∧ (∃ n94 s94, z_ty σ21 r90 = some (.inr (0, n94, s94)) ∧ vp_in x1 n94 ∧ (Post (z_A σ21 s94 r90 x1.toNatClampNeg) σ21))) ∧ (¬ x2 = (3 : Int32) → z_ty σ21 a0 = some (.inl 8) ∧ ∃ r97, z_R σ21 822 a0 = some r97 ∧ (∃ n104 s104, z_ty σ21 r97 = some (.inr (2, n104, s104)) ∧ vp_in (((9 : Int32)) * x1) n104 ∧ ((((z_A σ21 s104 r97 (((9 : Int32)) * x1).toNatClampNeg)) = 0 → Post ((0 : Int32)) σ21) ∧ (¬ ((z_A σ21 s104 r97 (((9 : Int32)) * x1).toNatClampNeg)) = 0 → Post ((1 : Int32)) σ21)))))))) ∧ (r21 = 0 → Post ((-2 : Int32)) σ21))))) ∧ (((z_I σ 808 a0)) = 0 → Post ((-4 : Int32)) σ)))
set_option maxHeartbeats 4000000 in
set_option maxRecDepth 100000 in
theorem kc_Mo_of (l : Launch) (D : va_G) (dA : Nat → ClassId) (Z : Nat) (a0 : Nat) (x1 : Int32) (x2 : Int32) (σ : z_S) (Post : Int32 → z_S → Prop) : Met l km_Mo_of ks_Mo_of kr_Mo_of (va_Pc [.ref a0, .int x1, .int x2] (fun U => z_U D z_cl z_KT dA Z (z_tys dA) z_nw σ U ∧ kp_Mo_of  a0 x1 x2 σ Post)) (z_Qi D z_cl z_KT dA Z (z_tys dA) z_nw Post) 0 0 (fun q => Z ≤ q) := by
  refine Met.ofW (cc := prog_10_method_52_code) (maxL := 3) (ret := (some .int)) (by decide) rfl ?_
  intro p e s m args below meth c s₁ B hml hv
  obtain ⟨rfl, ⟨hZ, hG, hK, hN⟩, hw⟩ := hv
  have hx := B.exec
  have hb := B.bytes
  have hr := B.returns
  have hts := atoms_spec (ws := ks_Mo_of) B.pre
  have hown : s.vm.findClass kR_Mo = some m.cls := findClass_of_methodNamed B.named
  have hlocks := B.notSynchronized
  have hS : va_S (fun q => Z ≤ q) s.heap s.heap [] := va_S.rf
  have hl := lv_entry ([.ref a0, .int x1, .int x2]) (n := 3) (Nat.le_of_ble_eq_true rfl)
  rw [lg_entry_eq]
  generalize (lg_sl ([.ref a0, .int x1, .int x2]) ++ List.replicate (3 - (lg_sl ([.ref a0, .int x1, .int x2])).length) Slot.unset).toArray = ls at hl ⊢
  have hl : lv_has ls 3 [(0, .ref a0), (1, .int x1), (2, .int x2)] := hl
  unfold kp_Mo_of at hw
  refine lv_aload_n hx hb kb_Mo_of_0 rfl (lv_at hl 0 rfl) ?_
  obtain ⟨hy, hw⟩ := hw
  refine zr_getI (ci := 8) (f := 808) hx hb hts ki_Mo hown hK hG hy rfl 8 (by decide) (hts _ (List.mem_cons_of_mem _ kw_592)) (fun _ h => h) rfl rfl kb_Mo_of_1 ?_
  refine lv_if_ne (tgt := 10) hx hb kb_Mo_of_4 (by decide) (fun hc => ?_) (fun hc => ?_)
  · have hw := hw.1 hc
    refine lv_aload_n hx hb kb_Mo_of_10 rfl (lv_at hl 0 rfl) ?_
    refine lv_iload_n hx hb kb_Mo_of_11 rfl (lv_at hl 1 rfl) ?_
    obtain ⟨hy, hw⟩ := hw
    refine zr_ci (va_runV (C := kR_Mo) (As := [.int x1]) (rest := []) ⟨hx, hb, hml, hown, hts⟩ (kc_Mo_isRelation l D dA Z a0 x1 σ _) ⟨callB_of 1 hts (z_gw kw_824) rfl rfl rfl (hts _ (List.mem_cons_of_mem _ kw_9)) (hts _ (List.mem_cons_of_mem _ kw_822)) (by decide +kernel) ⟨Nat.le_of_ble_eq_true rfl, Nat.le_of_ble_eq_true rfl⟩, (hts _ (List.mem_cons_of_mem _ kw_823)), (hts _ (List.mem_cons_of_mem _ kw_983))⟩ (z_preV z_nwN (Nat.le_trans hZ hS.1) hG hK hN hy (ci := 8) (r := (kR_Mo, kT_Mo, 51)) rfl hw) rfl rfl hl.1 rfl (lv_room (Nat.le_of_ble_eq_true rfl)) kb_Mo_of_12 ⟨Nat.le_of_ble_eq_true rfl, Nat.le_of_ble_eq_true rfl⟩) hS (fun r12 σ12 H locs hw hG hS => ?_)
    refine lv_if_eq (tgt := 27) hx hb kb_Mo_of_15 (by decide) (fun hc => ?_) (fun hc => ?_)
    · have hw := hw.1 hc
      refine lv_bipush (v := (-2 : Int32)) hx hb kb_Mo_of_27 (by decide) ?_
      exact zr_iret (free := fun q => Z ≤ q) z_nwN hx hb hr rfl hZ hK hN hG hS hw kb_Mo_of_29 hlocks
    · have hw := hw.2 hc
      refine lv_iload_n hx hb kb_Mo_of_18 rfl (lv_at hl 2 rfl) ?_
      refine lv_iconst (v := (0 : Int32)) hx hb kb_Mo_of_19 (by decide) ?_
      refine lv_iconst (v := (4 : Int32)) hx hb kb_Mo_of_20 (by decide) ?_
      refine zr_ci (va_runS (As := [.int x2, .int ((0 : Int32)), .int ((4 : Int32))]) (rest := []) ⟨hx, hb, hml, hown, hts⟩ (kc_Mo_isIn l D dA Z x2 ((0 : Int32)) ((4 : Int32)) σ12 _) ⟨callB_of 3 hts (z_gw kw_693) rfl rfl rfl (hts _ (List.mem_cons_of_mem _ kw_9)) (hts _ (List.mem_cons_of_mem _ kw_691)) (by decide +kernel) ⟨Nat.le_of_ble_eq_true rfl, Nat.le_of_ble_eq_true rfl⟩, (hts _ (List.mem_cons_of_mem _ kw_692))⟩ (z_preS z_nwN (Nat.le_trans hZ hS.1) hG hK hN hw) rfl rfl hl.1 rfl (lv_room (Nat.le_of_ble_eq_true rfl)) kb_Mo_of_21 ⟨Nat.le_of_ble_eq_true rfl, Nat.le_of_ble_eq_true rfl⟩) hS (fun r21 σ21 H locs hw hG hS => ?_)
      refine lv_if_ne (tgt := 30) hx hb kb_Mo_of_24 (by decide) (fun hc => ?_) (fun hc => ?_)
      · have hw := hw.1 hc
        refine lv_iload_n hx hb kb_Mo_of_30 rfl (lv_at hl 2 rfl) ?_
        rcases Decidable.em (x2 = (0 : Int32)) with hc | hn0
        · have hw := hw.1 hc
          refine lv_tableIn (off := 29) (tgt := 60) hx hb kb_Mo_of_31 (by rw [hc]; decide) (by rw [hc]; decide) (by rw [hc]; rfl) (by decide) ?_
          refine lv_aload_n hx hb kb_Mo_of_60 rfl (lv_at hl 0 rfl) ?_
          obtain ⟨hy, r61, hrf, hw⟩ := hw
          refine zr_getR (ci := 8) (f := 820) hx hb hts ki_Mo hown hK hG hy rfl 20 (by decide) (hts _ (List.mem_cons_of_mem _ kw_604)) (fun _ h => h) rfl rfl hrf kb_Mo_of_61 ?_
          refine lv_iload_n hx hb kb_Mo_of_64 rfl (lv_at hl 1 rfl) ?_
          obtain ⟨n65, s65, hy, hi, hw⟩ := hw
          refine zr_zald hx hb hK hG 2 hy rfl hi kb_Mo_of_65 ?_
          refine lv_if_eq (tgt := 73) hx hb kb_Mo_of_66 (by decide) (fun hc => ?_) (fun hc => ?_)
          · have hw := hw.1 hc
            refine lv_iconst (v := (0 : Int32)) hx hb kb_Mo_of_73 (by decide) ?_
            exact zr_iret (free := fun q => Z ≤ q) z_nwN hx hb hr rfl hZ hK hN hG hS hw kb_Mo_of_74 hlocks
          · have hw := hw.2 hc
            refine lv_iconst (v := (1 : Int32)) hx hb kb_Mo_of_69 (by decide) ?_
            refine lv_goto (tgt := 74) hx hb kb_Mo_of_70 (by decide) ?_
            exact zr_iret (free := fun q => Z ≤ q) z_nwN hx hb hr rfl hZ hK hN hG hS hw kb_Mo_of_74 hlocks
        · have hw := hw.2 hn0
          rcases Decidable.em (x2 = (1 : Int32)) with hc | hn1
          · have hw := hw.1 hc
            refine lv_tableIn (off := 44) (tgt := 75) hx hb kb_Mo_of_31 (by rw [hc]; decide) (by rw [hc]; decide) (by rw [hc]; rfl) (by decide) ?_
            refine lv_aload_n hx hb kb_Mo_of_75 rfl (lv_at hl 0 rfl) ?_
            obtain ⟨hy, r76, hrf, hw⟩ := hw
            refine zr_getR (ci := 8) (f := 819) hx hb hts ki_Mo hown hK hG hy rfl 19 (by decide) (hts _ (List.mem_cons_of_mem _ kw_603)) (fun _ h => h) rfl rfl hrf kb_Mo_of_76 ?_
            refine lv_iload_n hx hb kb_Mo_of_79 rfl (lv_at hl 1 rfl) ?_
            obtain ⟨n80, s80, hy, hi, hw⟩ := hw
            refine zr_iald hx hb hK hG 0 hy rfl hi kb_Mo_of_80 ?_
            exact zr_iret (free := fun q => Z ≤ q) z_nwN hx hb hr rfl hZ hK hN hG hS hw kb_Mo_of_81 hlocks
          · have hw := hw.2 hn1
            rcases Decidable.em (x2 = (2 : Int32)) with hc | hn2
            · have hw := hw.1 hc
              refine lv_tableIn (off := 51) (tgt := 82) hx hb kb_Mo_of_31 (by rw [hc]; decide) (by rw [hc]; decide) (by rw [hc]; rfl) (by decide) ?_
              refine lv_aload_n hx hb kb_Mo_of_82 rfl (lv_at hl 0 rfl) ?_
              obtain ⟨hy, r83, hrf, hw⟩ := hw
              refine zr_getR (ci := 8) (f := 821) hx hb hts ki_Mo hown hK hG hy rfl 21 (by decide) (hts _ (List.mem_cons_of_mem _ kw_605)) (fun _ h => h) rfl rfl hrf kb_Mo_of_83 ?_
              refine lv_iload_n hx hb kb_Mo_of_86 rfl (lv_at hl 1 rfl) ?_
              obtain ⟨n87, s87, hy, hi, hw⟩ := hw
              refine zr_iald hx hb hK hG 0 hy rfl hi kb_Mo_of_87 ?_
              exact zr_iret (free := fun q => Z ≤ q) z_nwN hx hb hr rfl hZ hK hN hG hS hw kb_Mo_of_88 hlocks
            · have hw := hw.2 hn2
              rcases Decidable.em (x2 = (3 : Int32)) with hc | hn3
              · have hw := hw.1 hc
                refine lv_tableIn (off := 58) (tgt := 89) hx hb kb_Mo_of_31 (by rw [hc]; decide) (by rw [hc]; decide) (by rw [hc]; rfl) (by decide) ?_
                refine lv_aload_n hx hb kb_Mo_of_89 rfl (lv_at hl 0 rfl) ?_
                obtain ⟨hy, r90, hrf, hw⟩ := hw
                refine zr_getR (ci := 8) (f := 826) hx hb hts ki_Mo hown hK hG hy rfl 26 (by decide) (hts _ (List.mem_cons_of_mem _ kw_610)) (fun _ h => h) rfl rfl hrf kb_Mo_of_90 ?_
                refine lv_iload_n hx hb kb_Mo_of_93 rfl (lv_at hl 1 rfl) ?_
                obtain ⟨n94, s94, hy, hi, hw⟩ := hw
                refine zr_iald hx hb hK hG 0 hy rfl hi kb_Mo_of_94 ?_
                exact zr_iret (free := fun q => Z ≤ q) z_nwN hx hb hr rfl hZ hK hN hG hS hw kb_Mo_of_95 hlocks
              · have hw := hw.2 hn3
                refine lv_tableOut (tgt := 96) hx hb kb_Mo_of_31 (by have := lv_neT hn0 (a := 0) (by decide); have := lv_neT hn1 (a := 1) (by decide); have := lv_neT hn2 (a := 2) (by decide); have := lv_neT hn3 (a := 3) (by decide); omega) (by decide) ?_
                refine lv_aload_n hx hb kb_Mo_of_96 rfl (lv_at hl 0 rfl) ?_
                obtain ⟨hy, r97, hrf, hw⟩ := hw
                refine zr_getR (ci := 8) (f := 822) hx hb hts ki_Mo hown hK hG hy rfl 22 (by decide) (hts _ (List.mem_cons_of_mem _ kw_606)) (fun _ h => h) rfl rfl hrf kb_Mo_of_97 ?_
                refine lv_bipush (v := (9 : Int32)) hx hb kb_Mo_of_100 (by decide) ?_
                refine lv_iload_n hx hb kb_Mo_of_102 rfl (lv_at hl 1 rfl) ?_
                refine lv_imul hx hb kb_Mo_of_103 ?_
                obtain ⟨n104, s104, hy, hi, hw⟩ := hw
                refine zr_zald hx hb hK hG 2 hy rfl hi kb_Mo_of_104 ?_
                refine lv_if_eq (tgt := 112) hx hb kb_Mo_of_105 (by decide) (fun hc => ?_) (fun hc => ?_)
                · have hw := hw.1 hc
                  refine lv_iconst (v := (0 : Int32)) hx hb kb_Mo_of_112 (by decide) ?_
                  exact zr_iret (free := fun q => Z ≤ q) z_nwN hx hb hr rfl hZ hK hN hG hS hw kb_Mo_of_113 hlocks
                · have hw := hw.2 hc
                  refine lv_iconst (v := (1 : Int32)) hx hb kb_Mo_of_108 (by decide) ?_
                  refine lv_goto (tgt := 113) hx hb kb_Mo_of_109 (by decide) ?_
                  exact zr_iret (free := fun q => Z ≤ q) z_nwN hx hb hr rfl hZ hK hN hG hS hw kb_Mo_of_113 hlocks
      · have hw := hw.2 hc
        refine lv_bipush (v := (-2 : Int32)) hx hb kb_Mo_of_27 (by decide) ?_
        exact zr_iret (free := fun q => Z ≤ q) z_nwN hx hb hr rfl hZ hK hN hG hS hw kb_Mo_of_29 hlocks
  · have hw := hw.2 hc
    refine lv_bipush (v := (-4 : Int32)) hx hb kb_Mo_of_7 (by decide) ?_
    exact zr_iret (free := fun q => Z ≤ q) z_nwN hx hb hr rfl hZ hK hN hG hS hw kb_Mo_of_9 hlocks
def kp_Mo_given (a0 : Nat) (x1 : Int32) (x2 : Int32) (x3 : Int32) (σ : z_S) (Post : Int32 → z_S → Prop) : Prop :=     (z_ty σ a0 = some (.inl 8) ∧ ∃ r2, z_R σ 819 a0 = some r2 ∧ (∃ n6 s6, z_ty σ r2 = some (.inr (0, n6, s6)) ∧ vp_in x1 n6 ∧ (((z_A σ s6 r2 x1.toNatClampNeg) ≤ x2 → Post ((0 : Int32)) σ) ∧ (¬ (z_A σ s6 r2 x1.toNatClampNeg) ≤ x2 → Post x3 σ))))
set_option maxHeartbeats 4000000 in
set_option maxRecDepth 100000 in
theorem kc_Mo_given (l : Launch) (D : va_G) (dA : Nat → ClassId) (Z : Nat) (a0 : Nat) (x1 : Int32) (x2 : Int32) (x3 : Int32) (σ : z_S) (Post : Int32 → z_S → Prop) : Met l km_Mo_given ks_Mo_given kr_Mo_given (va_Pc [.ref a0, .int x1, .int x2, .int x3] (fun U => z_U D z_cl z_KT dA Z (z_tys dA) z_nw σ U ∧ kp_Mo_given  a0 x1 x2 x3 σ Post)) (z_Qi D z_cl z_KT dA Z (z_tys dA) z_nw Post) 0 0 (fun q => Z ≤ q) := by
  refine Met.ofW (cc := prog_10_method_53_code) (maxL := 4) (ret := (some .int)) (by decide) rfl ?_
  intro p e s m args below meth c s₁ B hml hv
  obtain ⟨rfl, ⟨hZ, hG, hK, hN⟩, hw⟩ := hv
  have hx := B.exec
  have hb := B.bytes
  have hr := B.returns
  have hts := atoms_spec (ws := ks_Mo_given) B.pre
  have hown : s.vm.findClass kR_Mo = some m.cls := findClass_of_methodNamed B.named
  have hlocks := B.notSynchronized
  have hS : va_S (fun q => Z ≤ q) s.heap s.heap [] := va_S.rf
  have hl := lv_entry ([.ref a0, .int x1, .int x2, .int x3]) (n := 4) (Nat.le_of_ble_eq_true rfl)
  rw [lg_entry_eq]
  generalize (lg_sl ([.ref a0, .int x1, .int x2, .int x3]) ++ List.replicate (4 - (lg_sl ([.ref a0, .int x1, .int x2, .int x3])).length) Slot.unset).toArray = ls at hl ⊢
  have hl : lv_has ls 4 [(0, .ref a0), (1, .int x1), (2, .int x2), (3, .int x3)] := hl
  unfold kp_Mo_given at hw
  refine lv_iload_n hx hb kb_Mo_given_0 rfl (lv_at hl 2 rfl) ?_
  refine lv_aload_n hx hb kb_Mo_given_1 rfl (lv_at hl 0 rfl) ?_
  obtain ⟨hy, r2, hrf, hw⟩ := hw
  refine zr_getR (ci := 8) (f := 819) hx hb hts ki_Mo hown hK hG hy rfl 19 (by decide) (hts _ (List.mem_cons_of_mem _ kw_603)) (fun _ h => h) rfl rfl hrf kb_Mo_given_2 ?_
  refine lv_iload_n hx hb kb_Mo_given_5 rfl (lv_at hl 1 rfl) ?_
  obtain ⟨n6, s6, hy, hi, hw⟩ := hw
  refine zr_iald hx hb hK hG 0 hy rfl hi kb_Mo_given_6 ?_
  refine lv_icmp_ge (tgt := 14) hx hb kb_Mo_given_7 (by decide) (fun hc => ?_) (fun hc => ?_)
  · have hw := hw.1 hc
    refine lv_iconst (v := (0 : Int32)) hx hb kb_Mo_given_14 (by decide) ?_
    exact zr_iret (free := fun q => Z ≤ q) z_nwN hx hb hr rfl hZ hK hN hG hS hw kb_Mo_given_15 hlocks
  · have hw := hw.2 hc
    refine lv_iload_n hx hb kb_Mo_given_10 rfl (lv_at hl 3 rfl) ?_
    refine lv_goto (tgt := 15) hx hb kb_Mo_given_11 (by decide) ?_
    exact zr_iret (free := fun q => Z ≤ q) z_nwN hx hb hr rfl hZ hK hN hG hS hw kb_Mo_given_15 hlocks
def kp_Mo_areValues (a0 : Nat) (x1 : Int32) (x2 : Int32) (x3 : Int32) (x4 : Int32) (σ : z_S) (Post : Int32 → z_S → Prop) : Prop :=     (z_ty σ a0 = some (.inl 8) ∧ kp_Mo_given a0 x1 ((0 : Int32)) x2 σ (fun (r4 : Int32) (σ4 : z_S) => kp_Mo_isIn r4 ((0 : Int32)) ((999 : Int32)) σ4 (fun (r11 : Int32) (σ11 : z_S) => (r11 = 0 → Post ((0 : Int32)) σ11) ∧ (¬ r11 = 0 → z_ty σ11 a0 = some (.inl 8) ∧ kp_Mo_given a0 x1 ((1 : Int32)) x3 σ11 (fun (r21 : Int32) (σ21 : z_S) => kp_Mo_isIn r21 ((0 : Int32)) ((999 : Int32)) σ21 (fun (r28 : Int32) (σ28 : z_S) => (r28 = 0 → Post ((0 : Int32)) σ28) ∧ (¬ r28 = 0 → z_ty σ28 a0 = some (.inl 8) ∧ kp_Mo_given a0 x1 ((2 : Int32)) x4 σ28 (fun (r39 : Int32) (σ39 : z_S) => kp_Mo_isIn r39 ((0 : Int32)) ((999 : Int32)) σ39 (fun (r46 : Int32) (σ46 : z_S) => (r46 = 0 → Post ((0 : Int32)) σ46) ∧ (¬ r46 = 0 → Post ((1 : Int32)) σ46))))))))))
set_option maxHeartbeats 4000000 in
set_option maxRecDepth 100000 in
theorem kc_Mo_areValues (l : Launch) (D : va_G) (dA : Nat → ClassId) (Z : Nat) (a0 : Nat) (x1 : Int32) (x2 : Int32) (x3 : Int32) (x4 : Int32) (σ : z_S) (Post : Int32 → z_S → Prop) : Met l km_Mo_areValues ks_Mo_areValues kr_Mo_areValues (va_Pc [.ref a0, .int x1, .int x2, .int x3, .int x4] (fun U => z_U D z_cl z_KT dA Z (z_tys dA) z_nw σ U ∧ kp_Mo_areValues  a0 x1 x2 x3 x4 σ Post)) (z_Qi D z_cl z_KT dA Z (z_tys dA) z_nw Post) 0 0 (fun q => Z ≤ q) := by
  refine Met.ofW (cc := prog_10_method_54_code) (maxL := 5) (ret := (some .boolean)) (by decide) rfl ?_
  intro p e s m args below meth c s₁ B hml hv
  obtain ⟨rfl, ⟨hZ, hG, hK, hN⟩, hw⟩ := hv
  have hx := B.exec
  have hb := B.bytes
  have hr := B.returns
  have hts := atoms_spec (ws := ks_Mo_areValues) B.pre
  have hown : s.vm.findClass kR_Mo = some m.cls := findClass_of_methodNamed B.named
  have hlocks := B.notSynchronized
  have hS : va_S (fun q => Z ≤ q) s.heap s.heap [] := va_S.rf
  have hl := lv_entry ([.ref a0, .int x1, .int x2, .int x3, .int x4]) (n := 5) (Nat.le_of_ble_eq_true rfl)
  rw [lg_entry_eq]
  generalize (lg_sl ([.ref a0, .int x1, .int x2, .int x3, .int x4]) ++ List.replicate (5 - (lg_sl ([.ref a0, .int x1, .int x2, .int x3, .int x4])).length) Slot.unset).toArray = ls at hl ⊢
  have hl : lv_has ls 5 [(0, .ref a0), (1, .int x1), (2, .int x2), (3, .int x3), (4, .int x4)] := hl
  unfold kp_Mo_areValues at hw
  refine lv_aload_n hx hb kb_Mo_areValues_0 rfl (lv_at hl 0 rfl) ?_
  refine lv_iload_n hx hb kb_Mo_areValues_1 rfl (lv_at hl 1 rfl) ?_
  refine lv_iconst (v := (0 : Int32)) hx hb kb_Mo_areValues_2 (by decide) ?_
  refine lv_iload_n hx hb kb_Mo_areValues_3 rfl (lv_at hl 2 rfl) ?_
  obtain ⟨hy, hw⟩ := hw
  refine zr_ci (va_runV (C := kR_Mo) (As := [.int x1, .int ((0 : Int32)), .int x2]) (rest := []) ⟨hx, hb, hml, hown, hts⟩ (kc_Mo_given l D dA Z a0 x1 ((0 : Int32)) x2 σ _) ⟨callB_of 3 hts (z_gw kw_834) rfl rfl rfl (hts _ (List.mem_cons_of_mem _ kw_9)) (hts _ (List.mem_cons_of_mem _ kw_832)) (by decide +kernel) ⟨Nat.le_of_ble_eq_true rfl, Nat.le_of_ble_eq_true rfl⟩, (hts _ (List.mem_cons_of_mem _ kw_833)), (hts _ (List.mem_cons_of_mem _ kw_985))⟩ (z_preV z_nwN (Nat.le_trans hZ hS.1) hG hK hN hy (ci := 8) (r := (kR_Mo, kT_Mo, 51)) rfl hw) rfl rfl hl.1 rfl (lv_room (Nat.le_of_ble_eq_true rfl)) kb_Mo_areValues_4 ⟨Nat.le_of_ble_eq_true rfl, Nat.le_of_ble_eq_true rfl⟩) hS (fun r4 σ4 H locs hw hG hS => ?_)
  refine lv_iconst (v := (0 : Int32)) hx hb kb_Mo_areValues_7 (by decide) ?_
  refine lv_sipush (v := (999 : Int32)) hx hb kb_Mo_areValues_8 (by decide) ?_
  refine zr_ci (va_runS (As := [.int r4, .int ((0 : Int32)), .int ((999 : Int32))]) (rest := []) ⟨hx, hb, hml, hown, hts⟩ (kc_Mo_isIn l D dA Z r4 ((0 : Int32)) ((999 : Int32)) σ4 _) ⟨callB_of 3 hts (z_gw kw_693) rfl rfl rfl (hts _ (List.mem_cons_of_mem _ kw_9)) (hts _ (List.mem_cons_of_mem _ kw_691)) (by decide +kernel) ⟨Nat.le_of_ble_eq_true rfl, Nat.le_of_ble_eq_true rfl⟩, (hts _ (List.mem_cons_of_mem _ kw_692))⟩ (z_preS z_nwN (Nat.le_trans hZ hS.1) hG hK hN hw) rfl rfl hl.1 rfl (lv_room (Nat.le_of_ble_eq_true rfl)) kb_Mo_areValues_11 ⟨Nat.le_of_ble_eq_true rfl, Nat.le_of_ble_eq_true rfl⟩) hS (fun r11 σ11 H locs hw hG hS => ?_)
  refine lv_if_eq (tgt := 56) hx hb kb_Mo_areValues_14 (by decide) (fun hc => ?_) (fun hc => ?_)
  · have hw := hw.1 hc
    refine lv_iconst (v := (0 : Int32)) hx hb kb_Mo_areValues_56 (by decide) ?_
    exact zr_iret (free := fun q => Z ≤ q) z_nwN hx hb hr rfl hZ hK hN hG hS hw kb_Mo_areValues_57 hlocks
  · have hw := hw.2 hc
    refine lv_aload_n hx hb kb_Mo_areValues_17 rfl (lv_at hl 0 rfl) ?_
    refine lv_iload_n hx hb kb_Mo_areValues_18 rfl (lv_at hl 1 rfl) ?_
    refine lv_iconst (v := (1 : Int32)) hx hb kb_Mo_areValues_19 (by decide) ?_
    refine lv_iload_n hx hb kb_Mo_areValues_20 rfl (lv_at hl 3 rfl) ?_
    obtain ⟨hy, hw⟩ := hw
    refine zr_ci (va_runV (C := kR_Mo) (As := [.int x1, .int ((1 : Int32)), .int x3]) (rest := []) ⟨hx, hb, hml, hown, hts⟩ (kc_Mo_given l D dA Z a0 x1 ((1 : Int32)) x3 σ11 _) ⟨callB_of 3 hts (z_gw kw_834) rfl rfl rfl (hts _ (List.mem_cons_of_mem _ kw_9)) (hts _ (List.mem_cons_of_mem _ kw_832)) (by decide +kernel) ⟨Nat.le_of_ble_eq_true rfl, Nat.le_of_ble_eq_true rfl⟩, (hts _ (List.mem_cons_of_mem _ kw_833)), (hts _ (List.mem_cons_of_mem _ kw_985))⟩ (z_preV z_nwN (Nat.le_trans hZ hS.1) hG hK hN hy (ci := 8) (r := (kR_Mo, kT_Mo, 51)) rfl hw) rfl rfl hl.1 rfl (lv_room (Nat.le_of_ble_eq_true rfl)) kb_Mo_areValues_21 ⟨Nat.le_of_ble_eq_true rfl, Nat.le_of_ble_eq_true rfl⟩) hS (fun r21 σ21 H locs hw hG hS => ?_)
    refine lv_iconst (v := (0 : Int32)) hx hb kb_Mo_areValues_24 (by decide) ?_
    refine lv_sipush (v := (999 : Int32)) hx hb kb_Mo_areValues_25 (by decide) ?_
    refine zr_ci (va_runS (As := [.int r21, .int ((0 : Int32)), .int ((999 : Int32))]) (rest := []) ⟨hx, hb, hml, hown, hts⟩ (kc_Mo_isIn l D dA Z r21 ((0 : Int32)) ((999 : Int32)) σ21 _) ⟨callB_of 3 hts (z_gw kw_693) rfl rfl rfl (hts _ (List.mem_cons_of_mem _ kw_9)) (hts _ (List.mem_cons_of_mem _ kw_691)) (by decide +kernel) ⟨Nat.le_of_ble_eq_true rfl, Nat.le_of_ble_eq_true rfl⟩, (hts _ (List.mem_cons_of_mem _ kw_692))⟩ (z_preS z_nwN (Nat.le_trans hZ hS.1) hG hK hN hw) rfl rfl hl.1 rfl (lv_room (Nat.le_of_ble_eq_true rfl)) kb_Mo_areValues_28 ⟨Nat.le_of_ble_eq_true rfl, Nat.le_of_ble_eq_true rfl⟩) hS (fun r28 σ28 H locs hw hG hS => ?_)
    refine lv_if_eq (tgt := 56) hx hb kb_Mo_areValues_31 (by decide) (fun hc => ?_) (fun hc => ?_)
    · have hw := hw.1 hc
      refine lv_iconst (v := (0 : Int32)) hx hb kb_Mo_areValues_56 (by decide) ?_
      exact zr_iret (free := fun q => Z ≤ q) z_nwN hx hb hr rfl hZ hK hN hG hS hw kb_Mo_areValues_57 hlocks
    · have hw := hw.2 hc
      refine lv_aload_n hx hb kb_Mo_areValues_34 rfl (lv_at hl 0 rfl) ?_
      refine lv_iload_n hx hb kb_Mo_areValues_35 rfl (lv_at hl 1 rfl) ?_
      refine lv_iconst (v := (2 : Int32)) hx hb kb_Mo_areValues_36 (by decide) ?_
      refine lv_iload hx hb kb_Mo_areValues_37 (lv_at hl 4 rfl) ?_
      obtain ⟨hy, hw⟩ := hw
      refine zr_ci (va_runV (C := kR_Mo) (As := [.int x1, .int ((2 : Int32)), .int x4]) (rest := []) ⟨hx, hb, hml, hown, hts⟩ (kc_Mo_given l D dA Z a0 x1 ((2 : Int32)) x4 σ28 _) ⟨callB_of 3 hts (z_gw kw_834) rfl rfl rfl (hts _ (List.mem_cons_of_mem _ kw_9)) (hts _ (List.mem_cons_of_mem _ kw_832)) (by decide +kernel) ⟨Nat.le_of_ble_eq_true rfl, Nat.le_of_ble_eq_true rfl⟩, (hts _ (List.mem_cons_of_mem _ kw_833)), (hts _ (List.mem_cons_of_mem _ kw_985))⟩ (z_preV z_nwN (Nat.le_trans hZ hS.1) hG hK hN hy (ci := 8) (r := (kR_Mo, kT_Mo, 51)) rfl hw) rfl rfl hl.1 rfl (lv_room (Nat.le_of_ble_eq_true rfl)) kb_Mo_areValues_39 ⟨Nat.le_of_ble_eq_true rfl, Nat.le_of_ble_eq_true rfl⟩) hS (fun r39 σ39 H locs hw hG hS => ?_)
      refine lv_iconst (v := (0 : Int32)) hx hb kb_Mo_areValues_42 (by decide) ?_
      refine lv_sipush (v := (999 : Int32)) hx hb kb_Mo_areValues_43 (by decide) ?_
      refine zr_ci (va_runS (As := [.int r39, .int ((0 : Int32)), .int ((999 : Int32))]) (rest := []) ⟨hx, hb, hml, hown, hts⟩ (kc_Mo_isIn l D dA Z r39 ((0 : Int32)) ((999 : Int32)) σ39 _) ⟨callB_of 3 hts (z_gw kw_693) rfl rfl rfl (hts _ (List.mem_cons_of_mem _ kw_9)) (hts _ (List.mem_cons_of_mem _ kw_691)) (by decide +kernel) ⟨Nat.le_of_ble_eq_true rfl, Nat.le_of_ble_eq_true rfl⟩, (hts _ (List.mem_cons_of_mem _ kw_692))⟩ (z_preS z_nwN (Nat.le_trans hZ hS.1) hG hK hN hw) rfl rfl hl.1 rfl (lv_room (Nat.le_of_ble_eq_true rfl)) kb_Mo_areValues_46 ⟨Nat.le_of_ble_eq_true rfl, Nat.le_of_ble_eq_true rfl⟩) hS (fun r46 σ46 H locs hw hG hS => ?_)
      refine lv_if_eq (tgt := 56) hx hb kb_Mo_areValues_49 (by decide) (fun hc => ?_) (fun hc => ?_)
      · have hw := hw.1 hc
        refine lv_iconst (v := (0 : Int32)) hx hb kb_Mo_areValues_56 (by decide) ?_
        exact zr_iret (free := fun q => Z ≤ q) z_nwN hx hb hr rfl hZ hK hN hG hS hw kb_Mo_areValues_57 hlocks
      · have hw := hw.2 hc
        refine lv_iconst (v := (1 : Int32)) hx hb kb_Mo_areValues_52 (by decide) ?_
        refine lv_goto (tgt := 57) hx hb kb_Mo_areValues_53 (by decide) ?_
        exact zr_iret (free := fun q => Z ≤ q) z_nwN hx hb hr rfl hZ hK hN hG hS hw kb_Mo_areValues_57 hlocks
def kp_Mo_change (a0 : Nat) (x1 : Int32) (x2 : Int32) (x3 : Int32) (x4 : Int32) (x5 : Int32) (σ : z_S) (Post : Int32 → z_S → Prop) : Prop := ∀ (X39 : z_S → Prop),
    (∀ (σ : z_S), (z_ty σ a0 = some (.inl 8) ∧ kp_Mo_areValues a0 x1 x2 x3 x4 σ (fun (r45 : Int32) (σ45 : z_S) => (¬ r45 = 0 → z_ty σ45 a0 = some (.inl 8) ∧ ((¬ (z_I σ45 831 a0) = ((60 : Int32)) → z_ty σ45 a0 = some (.inl 8) ∧ (z_ty σ45 a0 = some (.inl 8) ∧ ∃ r75, z_R σ45 830 a0 = some r75 ∧ (∃ n81 s81, z_ty σ45 r75 = some (.inr (0, n81, s81)) ∧ vp_in (((5 : Int32)) * (z_I σ45 831 a0)) n81 ∧ ∀ σ81, σ81 = z_sA σ45 s81 r75 (upd (z_A σ45 s81 r75) (((5 : Int32)) * (z_I σ45 831 a0)).toNatClampNeg x1) → z_ty σ81 a0 = some (.inl 8) ∧ ∃ r83, z_R σ81 830 a0 = some r83 ∧ (∃ n91 s91, z_ty σ81 r83 = some (.inr (0, n91, s91)) ∧ vp_in ((((5 : Int32)) * (z_I σ45 831 a0)) + ((1 : Int32))) n91 ∧ ∀ σ91, σ91 = z_sA σ81 s91 r83 (upd (z_A σ81 s91 r83) ((((5 : Int32)) * (z_I σ45 831 a0)) + ((1 : Int32))).toNatClampNeg x2) → z_ty σ91 a0 = some (.inl 8) ∧ ∃ r93, z_R σ91 830 a0 = some r93 ∧ (z_ty σ91 a0 = some (.inl 8) ∧ kp_Mo_given a0 x1 ((1 : Int32)) x3 σ91 (fun (r104 : Int32) (σ104 : z_S) => ∃ n107 s107, z_ty σ104 r93 = some (.inr (0, n107, s107)) ∧ vp_in ((((5 : Int32)) * (z_I σ45 831 a0)) + ((2 : Int32))) n107 ∧ ∀ σ107, σ107 = z_sA σ104 s107 r93 (upd (z_A σ104 s107 r93) ((((5 : Int32)) * (z_I σ45 831 a0)) + ((2 : Int32))).toNatClampNeg r104) → z_ty σ107 a0 = some (.inl 8) ∧ ∃ r109, z_R σ107 830 a0 = some r109 ∧ (z_ty σ107 a0 = some (.inl 8) ∧ kp_Mo_given a0 x1 ((2 : Int32)) x4 σ107 (fun (r121 : Int32) (σ121 : z_S) => ∃ n124 s124, z_ty σ121 r109 = some (.inr (0, n124, s124)) ∧ vp_in ((((5 : Int32)) * (z_I σ45 831 a0)) + ((3 : Int32))) n124 ∧ ∀ σ124, σ124 = z_sA σ121 s124 r109 (upd (z_A σ121 s124 r109) ((((5 : Int32)) * (z_I σ45 831 a0)) + ((3 : Int32))).toNatClampNeg r121) → z_ty σ124 a0 = some (.inl 8) ∧ ∃ r126, z_R σ124 830 a0 = some r126 ∧ (∃ n135 s135, z_ty σ124 r126 = some (.inr (0, n135, s135)) ∧ vp_in ((((5 : Int32)) * (z_I σ45 831 a0)) + ((4 : Int32))) n135 ∧ ∀ σ135, σ135 = z_sA σ124 s135 r126 (upd (z_A σ124 s135 r126) ((((5 : Int32)) * (z_I σ45 831 a0)) + ((4 : Int32))).toNatClampNeg x5) → z_ty σ135 a0 = some (.inl 8) ∧ (z_ty σ135 a0 = some (.inl 8) ∧ ∀ σ143, σ143 = z_sI σ135 831 a0 ((z_I σ135 831 a0) + ((1 : Int32))) → z_ty σ143 a0 = some (.inl 8) ∧ (Post (z_I σ143 831 a0) σ143))))))))))) ∧ ((z_I σ45 831 a0) = ((60 : Int32)) → Post ((-3 : Int32)) σ45))) ∧ (r45 = 0 → Post ((-2 : Int32)) σ45))) → X39 σ) →
    (z_ty σ a0 = some (.inl 8) ∧ ((¬ ((z_I σ 808 a0)) = 0 → z_ty σ a0 = some (.inl 8) ∧ kp_Mo_isRelation a0 x1 σ (fun (r12 : Int32) (σ12 : z_S) => (r12 = 0 → Post ((-2 : Int32)) σ12) ∧ (¬ r12 = 0 → z_ty σ12 a0 = some (.inl 8) ∧ ∃ r19, z_R σ12 820 a0 = some r19 ∧ (∃ n23 s23, z_ty σ12 r19 = some (.inr (2, n23, s23)) ∧ vp_in x1 n23 ∧ ((¬ ((z_A σ12 s23 r19 x1.toNatClampNeg)) = 0 → Post ((-2 : Int32)) σ12) ∧ (((z_A σ12 s23 r19 x1.toNatClampNeg)) = 0 → (x5 = ((1 : Int32)) → X39 σ12) ∧ (¬ x5 = ((1 : Int32)) → (¬ x5 = ((-1 : Int32)) → Post ((-2 : Int32)) σ12) ∧ (x5 = ((-1 : Int32)) → X39 σ12)))))))) ∧ (((z_I σ 808 a0)) = 0 → Post ((-4 : Int32)) σ)))
set_option maxHeartbeats 4000000 in
set_option maxRecDepth 100000 in
theorem kc_Mo_change (l : Launch) (D : va_G) (dA : Nat → ClassId) (Z : Nat) (a0 : Nat) (x1 : Int32) (x2 : Int32) (x3 : Int32) (x4 : Int32) (x5 : Int32) (σ : z_S) (Post : Int32 → z_S → Prop) : Met l km_Mo_change ks_Mo_change kr_Mo_change (va_Pc [.ref a0, .int x1, .int x2, .int x3, .int x4, .int x5] (fun U => z_U D z_cl z_KT dA Z (z_tys dA) z_nw σ U ∧ kp_Mo_change  a0 x1 x2 x3 x4 x5 σ Post)) (z_Qi D z_cl z_KT dA Z (z_tys dA) z_nw Post) 0 0 (fun q => Z ≤ q) := by
  refine Met.ofW (cc := prog_10_method_55_code) (maxL := 7) (ret := (some .int)) (by decide) rfl ?_
  intro p e s m args below meth c s₁ B hml hv
  obtain ⟨rfl, ⟨hZ, hG, hK, hN⟩, hw⟩ := hv
  have hx := B.exec
  have hb := B.bytes
  have hr := B.returns
  have hts := atoms_spec (ws := ks_Mo_change) B.pre
  have hown : s.vm.findClass kR_Mo = some m.cls := findClass_of_methodNamed B.named
  have hlocks := B.notSynchronized
  have hS : va_S (fun q => Z ≤ q) s.heap s.heap [] := va_S.rf
  have hl := lv_entry ([.ref a0, .int x1, .int x2, .int x3, .int x4, .int x5]) (n := 7) (Nat.le_of_ble_eq_true rfl)
  rw [lg_entry_eq]
  generalize (lg_sl ([.ref a0, .int x1, .int x2, .int x3, .int x4, .int x5]) ++ List.replicate (7 - (lg_sl ([.ref a0, .int x1, .int x2, .int x3, .int x4, .int x5])).length) Slot.unset).toArray = ls at hl ⊢
  have hl : lv_has ls 7 [(0, .ref a0), (1, .int x1), (2, .int x2), (3, .int x3), (4, .int x4), (5, .int x5)] := hl
  unfold kp_Mo_change at hw
  have hw := hw (fun (σ : z_S) => ∀ (H : Heap) (locs : List Loc) (ls : Array Slot), z_G D z_cl z_KT dA Z σ H → va_S (fun q => Z ≤ q) s.heap H locs → lv_has ls 7 [(0, .ref a0), (1, .int x1), (2, .int x2), (3, .int x3), (4, .int x4), (5, .int x5)] → W p l e (headSpec ks_Mo_change kr_Mo_change).room s m ([.ref a0, .int x1, .int x2, .int x3, .int x4, .int x5] : List Value).toArray below meth c H locs 0 0 (MQ below (z_Qi D z_cl z_KT dA Z (z_tys dA) z_nw Post) ([.ref a0, .int x1, .int x2, .int x3, .int x4, .int x5] : List Value).toArray s 0 0 (fun q => Z ≤ q)) (F0 m 39 ls []))
  have hw := hw (by
    intro σ hw H locs ls hG hS hl
    refine lv_aload_n hx hb kb_Mo_change_39 rfl (lv_at hl 0 rfl) ?_
    refine lv_iload_n hx hb kb_Mo_change_40 rfl (lv_at hl 1 rfl) ?_
    refine lv_iload_n hx hb kb_Mo_change_41 rfl (lv_at hl 2 rfl) ?_
    refine lv_iload_n hx hb kb_Mo_change_42 rfl (lv_at hl 3 rfl) ?_
    refine lv_iload hx hb kb_Mo_change_43 (lv_at hl 4 rfl) ?_
    obtain ⟨hy, hw⟩ := hw
    refine zr_ci (va_runV (C := kR_Mo) (As := [.int x1, .int x2, .int x3, .int x4]) (rest := []) ⟨hx, hb, hml, hown, hts⟩ (kc_Mo_areValues l D dA Z a0 x1 x2 x3 x4 σ _) ⟨callB_of 4 hts (z_gw kw_831) rfl rfl rfl (hts _ (List.mem_cons_of_mem _ kw_9)) (hts _ (List.mem_cons_of_mem _ kw_829)) (by decide +kernel) ⟨Nat.le_of_ble_eq_true rfl, Nat.le_of_ble_eq_true rfl⟩, (hts _ (List.mem_cons_of_mem _ kw_830)), (hts _ (List.mem_cons_of_mem _ kw_984))⟩ (z_preV z_nwN (Nat.le_trans hZ hS.1) hG hK hN hy (ci := 8) (r := (kR_Mo, kT_Mo, 51)) rfl hw) rfl rfl hl.1 rfl (lv_room (Nat.le_of_ble_eq_true rfl)) kb_Mo_change_45 ⟨Nat.le_of_ble_eq_true rfl, Nat.le_of_ble_eq_true rfl⟩) hS (fun r45 σ45 H locs hw hG hS => ?_)
    refine lv_if_ne (tgt := 54) hx hb kb_Mo_change_48 (by decide) (fun hc => ?_) (fun hc => ?_)
    · have hw := hw.1 hc
      refine lv_aload_n hx hb kb_Mo_change_54 rfl (lv_at hl 0 rfl) ?_
      obtain ⟨hy, hw⟩ := hw
      refine zr_getI (ci := 8) (f := 831) hx hb hts ki_Mo hown hK hG hy rfl 31 (by decide) (hts _ (List.mem_cons_of_mem _ kw_615)) (fun _ h => h) rfl rfl kb_Mo_change_55 ?_
      refine lv_bipush (v := (60 : Int32)) hx hb kb_Mo_change_58 (by decide) ?_
      refine lv_icmp_ne (tgt := 66) hx hb kb_Mo_change_60 (by decide) (fun hc => ?_) (fun hc => ?_)
      · have hw := hw.1 hc
        refine lv_iconst (v := (5 : Int32)) hx hb kb_Mo_change_66 (by decide) ?_
        refine lv_aload_n hx hb kb_Mo_change_67 rfl (lv_at hl 0 rfl) ?_
        obtain ⟨hy, hw⟩ := hw
        refine zr_getI (ci := 8) (f := 831) hx hb hts ki_Mo hown hK hG hy rfl 31 (by decide) (hts _ (List.mem_cons_of_mem _ kw_615)) (fun _ h => h) rfl rfl kb_Mo_change_68 ?_
        refine lv_imul hx hb kb_Mo_change_71 ?_
        refine lv_istore (lv' := [(6, .int (((5 : Int32)) * (z_I σ45 831 a0))), (0, .ref a0), (1, .int x1), (2, .int x2), (3, .int x3), (4, .int x4), (5, .int x5)]) hx hb kb_Mo_change_72 hl (by decide) rfl (fun ls hl => ?_)
        refine lv_aload_n hx hb kb_Mo_change_74 rfl (lv_at hl 1 rfl) ?_
        obtain ⟨hy, r75, hrf, hw⟩ := hw
        refine zr_getR (ci := 8) (f := 830) hx hb hts ki_Mo hown hK hG hy rfl 30 (by decide) (hts _ (List.mem_cons_of_mem _ kw_614)) (fun _ h => h) rfl rfl hrf kb_Mo_change_75 ?_
        refine lv_iload hx hb kb_Mo_change_78 (lv_at hl 0 rfl) ?_
        refine lv_iload_n hx hb kb_Mo_change_80 rfl (lv_at hl 2 rfl) ?_
        obtain ⟨n81, s81, hy, hi, hw⟩ := hw
        refine zr_iast hx hb hK hG hS 0 hy rfl hi kb_Mo_change_81 (fun H locs hG hS => ?_)
        obtain ⟨σ81, e81⟩ : ∃ z, z = z_sA σ45 s81 r75 (upd (z_A σ45 s81 r75) (((5 : Int32)) * (z_I σ45 831 a0)).toNatClampNeg x1) := ⟨_, rfl⟩
        rw [← e81] at hG
        have hw := hw _ e81
        refine lv_aload_n hx hb kb_Mo_change_82 rfl (lv_at hl 1 rfl) ?_
        obtain ⟨hy, r83, hrf, hw⟩ := hw
        refine zr_getR (ci := 8) (f := 830) hx hb hts ki_Mo hown hK hG hy rfl 30 (by decide) (hts _ (List.mem_cons_of_mem _ kw_614)) (fun _ h => h) rfl rfl hrf kb_Mo_change_83 ?_
        refine lv_iload hx hb kb_Mo_change_86 (lv_at hl 0 rfl) ?_
        refine lv_iconst (v := (1 : Int32)) hx hb kb_Mo_change_88 (by decide) ?_
        refine lv_iadd hx hb kb_Mo_change_89 ?_
        refine lv_iload_n hx hb kb_Mo_change_90 rfl (lv_at hl 3 rfl) ?_
        obtain ⟨n91, s91, hy, hi, hw⟩ := hw
        refine zr_iast hx hb hK hG hS 0 hy rfl hi kb_Mo_change_91 (fun H locs hG hS => ?_)
        obtain ⟨σ91, e91⟩ : ∃ z, z = z_sA σ81 s91 r83 (upd (z_A σ81 s91 r83) ((((5 : Int32)) * (z_I σ45 831 a0)) + ((1 : Int32))).toNatClampNeg x2) := ⟨_, rfl⟩
        rw [← e91] at hG
        have hw := hw _ e91
        refine lv_aload_n hx hb kb_Mo_change_92 rfl (lv_at hl 1 rfl) ?_
        obtain ⟨hy, r93, hrf, hw⟩ := hw
        refine zr_getR (ci := 8) (f := 830) hx hb hts ki_Mo hown hK hG hy rfl 30 (by decide) (hts _ (List.mem_cons_of_mem _ kw_614)) (fun _ h => h) rfl rfl hrf kb_Mo_change_93 ?_
        refine lv_iload hx hb kb_Mo_change_96 (lv_at hl 0 rfl) ?_
        refine lv_iconst (v := (2 : Int32)) hx hb kb_Mo_change_98 (by decide) ?_
        refine lv_iadd hx hb kb_Mo_change_99 ?_
        refine lv_aload_n hx hb kb_Mo_change_100 rfl (lv_at hl 1 rfl) ?_
        refine lv_iload_n hx hb kb_Mo_change_101 rfl (lv_at hl 2 rfl) ?_
        refine lv_iconst (v := (1 : Int32)) hx hb kb_Mo_change_102 (by decide) ?_
        refine lv_iload_n hx hb kb_Mo_change_103 rfl (lv_at hl 4 rfl) ?_
        obtain ⟨hy, hw⟩ := hw
        refine zr_ci (va_runV (C := kR_Mo) (As := [.int x1, .int ((1 : Int32)), .int x3]) (rest := [.int ((((5 : Int32)) * (z_I σ45 831 a0)) + ((2 : Int32))), .ref r93]) ⟨hx, hb, hml, hown, hts⟩ (kc_Mo_given l D dA Z a0 x1 ((1 : Int32)) x3 σ91 _) ⟨callB_of 3 hts (z_gw kw_834) rfl rfl rfl (hts _ (List.mem_cons_of_mem _ kw_9)) (hts _ (List.mem_cons_of_mem _ kw_832)) (by decide +kernel) ⟨Nat.le_of_ble_eq_true rfl, Nat.le_of_ble_eq_true rfl⟩, (hts _ (List.mem_cons_of_mem _ kw_833)), (hts _ (List.mem_cons_of_mem _ kw_985))⟩ (z_preV z_nwN (Nat.le_trans hZ hS.1) hG hK hN hy (ci := 8) (r := (kR_Mo, kT_Mo, 51)) rfl hw) rfl rfl hl.1 rfl (lv_room (Nat.le_of_ble_eq_true rfl)) kb_Mo_change_104 ⟨Nat.le_of_ble_eq_true rfl, Nat.le_of_ble_eq_true rfl⟩) hS (fun r104 σ104 H locs hw hG hS => ?_)
        obtain ⟨n107, s107, hy, hi, hw⟩ := hw
        refine zr_iast hx hb hK hG hS 0 hy rfl hi kb_Mo_change_107 (fun H locs hG hS => ?_)
        obtain ⟨σ107, e107⟩ : ∃ z, z = z_sA σ104 s107 r93 (upd (z_A σ104 s107 r93) ((((5 : Int32)) * (z_I σ45 831 a0)) + ((2 : Int32))).toNatClampNeg r104) := ⟨_, rfl⟩
        rw [← e107] at hG
        have hw := hw _ e107
        refine lv_aload_n hx hb kb_Mo_change_108 rfl (lv_at hl 1 rfl) ?_
        obtain ⟨hy, r109, hrf, hw⟩ := hw
        refine zr_getR (ci := 8) (f := 830) hx hb hts ki_Mo hown hK hG hy rfl 30 (by decide) (hts _ (List.mem_cons_of_mem _ kw_614)) (fun _ h => h) rfl rfl hrf kb_Mo_change_109 ?_
        refine lv_iload hx hb kb_Mo_change_112 (lv_at hl 0 rfl) ?_
        refine lv_iconst (v := (3 : Int32)) hx hb kb_Mo_change_114 (by decide) ?_
        refine lv_iadd hx hb kb_Mo_change_115 ?_
        refine lv_aload_n hx hb kb_Mo_change_116 rfl (lv_at hl 1 rfl) ?_
        refine lv_iload_n hx hb kb_Mo_change_117 rfl (lv_at hl 2 rfl) ?_
        refine lv_iconst (v := (2 : Int32)) hx hb kb_Mo_change_118 (by decide) ?_
        refine lv_iload hx hb kb_Mo_change_119 (lv_at hl 5 rfl) ?_
        obtain ⟨hy, hw⟩ := hw
        refine zr_ci (va_runV (C := kR_Mo) (As := [.int x1, .int ((2 : Int32)), .int x4]) (rest := [.int ((((5 : Int32)) * (z_I σ45 831 a0)) + ((3 : Int32))), .ref r109]) ⟨hx, hb, hml, hown, hts⟩ (kc_Mo_given l D dA Z a0 x1 ((2 : Int32)) x4 σ107 _) ⟨callB_of 3 hts (z_gw kw_834) rfl rfl rfl (hts _ (List.mem_cons_of_mem _ kw_9)) (hts _ (List.mem_cons_of_mem _ kw_832)) (by decide +kernel) ⟨Nat.le_of_ble_eq_true rfl, Nat.le_of_ble_eq_true rfl⟩, (hts _ (List.mem_cons_of_mem _ kw_833)), (hts _ (List.mem_cons_of_mem _ kw_985))⟩ (z_preV z_nwN (Nat.le_trans hZ hS.1) hG hK hN hy (ci := 8) (r := (kR_Mo, kT_Mo, 51)) rfl hw) rfl rfl hl.1 rfl (lv_room (Nat.le_of_ble_eq_true rfl)) kb_Mo_change_121 ⟨Nat.le_of_ble_eq_true rfl, Nat.le_of_ble_eq_true rfl⟩) hS (fun r121 σ121 H locs hw hG hS => ?_)
        obtain ⟨n124, s124, hy, hi, hw⟩ := hw
        refine zr_iast hx hb hK hG hS 0 hy rfl hi kb_Mo_change_124 (fun H locs hG hS => ?_)
        obtain ⟨σ124, e124⟩ : ∃ z, z = z_sA σ121 s124 r109 (upd (z_A σ121 s124 r109) ((((5 : Int32)) * (z_I σ45 831 a0)) + ((3 : Int32))).toNatClampNeg r121) := ⟨_, rfl⟩
        rw [← e124] at hG
        have hw := hw _ e124
        refine lv_aload_n hx hb kb_Mo_change_125 rfl (lv_at hl 1 rfl) ?_
        obtain ⟨hy, r126, hrf, hw⟩ := hw
        refine zr_getR (ci := 8) (f := 830) hx hb hts ki_Mo hown hK hG hy rfl 30 (by decide) (hts _ (List.mem_cons_of_mem _ kw_614)) (fun _ h => h) rfl rfl hrf kb_Mo_change_126 ?_
        refine lv_iload hx hb kb_Mo_change_129 (lv_at hl 0 rfl) ?_
        refine lv_iconst (v := (4 : Int32)) hx hb kb_Mo_change_131 (by decide) ?_
        refine lv_iadd hx hb kb_Mo_change_132 ?_
        refine lv_iload hx hb kb_Mo_change_133 (lv_at hl 6 rfl) ?_
        obtain ⟨n135, s135, hy, hi, hw⟩ := hw
        refine zr_iast hx hb hK hG hS 0 hy rfl hi kb_Mo_change_135 (fun H locs hG hS => ?_)
        obtain ⟨σ135, e135⟩ : ∃ z, z = z_sA σ124 s135 r126 (upd (z_A σ124 s135 r126) ((((5 : Int32)) * (z_I σ45 831 a0)) + ((4 : Int32))).toNatClampNeg x5) := ⟨_, rfl⟩
        rw [← e135] at hG
        have hw := hw _ e135
        refine lv_aload_n hx hb kb_Mo_change_136 rfl (lv_at hl 1 rfl) ?_
        refine lv_dup hx hb kb_Mo_change_137 rfl ?_
        obtain ⟨hy, hw⟩ := hw
        refine zr_getI (ci := 8) (f := 831) hx hb hts ki_Mo hown hK hG hy rfl 31 (by decide) (hts _ (List.mem_cons_of_mem _ kw_615)) (fun _ h => h) rfl rfl kb_Mo_change_138 ?_
        refine lv_iconst (v := (1 : Int32)) hx hb kb_Mo_change_141 (by decide) ?_
        refine lv_iadd hx hb kb_Mo_change_142 ?_
        obtain ⟨hy, hw⟩ := hw
        refine zr_putI (ci := 8) (f := 831) hx hb hts ki_Mo ky_Mo kyo_Mo kn_Mo hown hK hG hS hy rfl 31 (by decide) (hts _ (List.mem_cons_of_mem _ kw_615)) (fun _ h => h) rfl rfl rfl rfl rfl kb_Mo_change_143 (fun H locs hG hS => ?_)
        obtain ⟨σ143, e143⟩ : ∃ z, z = z_sI σ135 831 a0 ((z_I σ135 831 a0) + ((1 : Int32))) := ⟨_, rfl⟩
        rw [← e143] at hG
        have hw := hw _ e143
        refine lv_aload_n hx hb kb_Mo_change_146 rfl (lv_at hl 1 rfl) ?_
        obtain ⟨hy, hw⟩ := hw
        refine zr_getI (ci := 8) (f := 831) hx hb hts ki_Mo hown hK hG hy rfl 31 (by decide) (hts _ (List.mem_cons_of_mem _ kw_615)) (fun _ h => h) rfl rfl kb_Mo_change_147 ?_
        exact zr_iret (free := fun q => Z ≤ q) z_nwN hx hb hr rfl hZ hK hN hG hS hw kb_Mo_change_150 hlocks
      · have hw := hw.2 hc
        refine lv_bipush (v := (-3 : Int32)) hx hb kb_Mo_change_63 (by decide) ?_
        exact zr_iret (free := fun q => Z ≤ q) z_nwN hx hb hr rfl hZ hK hN hG hS hw kb_Mo_change_65 hlocks
    · have hw := hw.2 hc
      refine lv_bipush (v := (-2 : Int32)) hx hb kb_Mo_change_51 (by decide) ?_
      exact zr_iret (free := fun q => Z ≤ q) z_nwN hx hb hr rfl hZ hK hN hG hS hw kb_Mo_change_53 hlocks)
  refine lv_aload_n hx hb kb_Mo_change_0 rfl (lv_at hl 0 rfl) ?_
  obtain ⟨hy, hw⟩ := hw
  refine zr_getI (ci := 8) (f := 808) hx hb hts ki_Mo hown hK hG hy rfl 8 (by decide) (hts _ (List.mem_cons_of_mem _ kw_592)) (fun _ h => h) rfl rfl kb_Mo_change_1 ?_
  refine lv_if_ne (tgt := 10) hx hb kb_Mo_change_4 (by decide) (fun hc => ?_) (fun hc => ?_)
  · have hw := hw.1 hc
    refine lv_aload_n hx hb kb_Mo_change_10 rfl (lv_at hl 0 rfl) ?_
    refine lv_iload_n hx hb kb_Mo_change_11 rfl (lv_at hl 1 rfl) ?_
    obtain ⟨hy, hw⟩ := hw
    refine zr_ci (va_runV (C := kR_Mo) (As := [.int x1]) (rest := []) ⟨hx, hb, hml, hown, hts⟩ (kc_Mo_isRelation l D dA Z a0 x1 σ _) ⟨callB_of 1 hts (z_gw kw_824) rfl rfl rfl (hts _ (List.mem_cons_of_mem _ kw_9)) (hts _ (List.mem_cons_of_mem _ kw_822)) (by decide +kernel) ⟨Nat.le_of_ble_eq_true rfl, Nat.le_of_ble_eq_true rfl⟩, (hts _ (List.mem_cons_of_mem _ kw_823)), (hts _ (List.mem_cons_of_mem _ kw_983))⟩ (z_preV z_nwN (Nat.le_trans hZ hS.1) hG hK hN hy (ci := 8) (r := (kR_Mo, kT_Mo, 51)) rfl hw) rfl rfl hl.1 rfl (lv_room (Nat.le_of_ble_eq_true rfl)) kb_Mo_change_12 ⟨Nat.le_of_ble_eq_true rfl, Nat.le_of_ble_eq_true rfl⟩) hS (fun r12 σ12 H locs hw hG hS => ?_)
    refine lv_if_eq (tgt := 51) hx hb kb_Mo_change_15 (by decide) (fun hc => ?_) (fun hc => ?_)
    · have hw := hw.1 hc
      refine lv_bipush (v := (-2 : Int32)) hx hb kb_Mo_change_51 (by decide) ?_
      exact zr_iret (free := fun q => Z ≤ q) z_nwN hx hb hr rfl hZ hK hN hG hS hw kb_Mo_change_53 hlocks
    · have hw := hw.2 hc
      refine lv_aload_n hx hb kb_Mo_change_18 rfl (lv_at hl 0 rfl) ?_
      obtain ⟨hy, r19, hrf, hw⟩ := hw
      refine zr_getR (ci := 8) (f := 820) hx hb hts ki_Mo hown hK hG hy rfl 20 (by decide) (hts _ (List.mem_cons_of_mem _ kw_604)) (fun _ h => h) rfl rfl hrf kb_Mo_change_19 ?_
      refine lv_iload_n hx hb kb_Mo_change_22 rfl (lv_at hl 1 rfl) ?_
      obtain ⟨n23, s23, hy, hi, hw⟩ := hw
      refine zr_zald hx hb hK hG 2 hy rfl hi kb_Mo_change_23 ?_
      refine lv_if_ne (tgt := 51) hx hb kb_Mo_change_24 (by decide) (fun hc => ?_) (fun hc => ?_)
      · have hw := hw.1 hc
        refine lv_bipush (v := (-2 : Int32)) hx hb kb_Mo_change_51 (by decide) ?_
        exact zr_iret (free := fun q => Z ≤ q) z_nwN hx hb hr rfl hZ hK hN hG hS hw kb_Mo_change_53 hlocks
      · have hw := hw.2 hc
        refine lv_iload hx hb kb_Mo_change_27 (lv_at hl 5 rfl) ?_
        refine lv_iconst (v := (1 : Int32)) hx hb kb_Mo_change_29 (by decide) ?_
        refine lv_icmp_eq (tgt := 39) hx hb kb_Mo_change_30 (by decide) (fun hc => ?_) (fun hc => ?_)
        · have hw := hw.1 hc
          exact hw _ _ _ hG hS (lv_sub hl [0, 1, 2, 3, 4, 5] rfl)
        · have hw := hw.2 hc
          refine lv_iload hx hb kb_Mo_change_33 (lv_at hl 5 rfl) ?_
          refine lv_iconst (v := (-1 : Int32)) hx hb kb_Mo_change_35 (by decide) ?_
          refine lv_icmp_ne (tgt := 51) hx hb kb_Mo_change_36 (by decide) (fun hc => ?_) (fun hc => ?_)
          · have hw := hw.1 hc
            refine lv_bipush (v := (-2 : Int32)) hx hb kb_Mo_change_51 (by decide) ?_
            exact zr_iret (free := fun q => Z ≤ q) z_nwN hx hb hr rfl hZ hK hN hG hS hw kb_Mo_change_53 hlocks
          · have hw := hw.2 hc
            exact hw _ _ _ hG hS (lv_sub hl [0, 1, 2, 3, 4, 5] rfl)
  · have hw := hw.2 hc
    refine lv_bipush (v := (-4 : Int32)) hx hb kb_Mo_change_7 (by decide) ?_
    exact zr_iret (free := fun q => Z ≤ q) z_nwN hx hb hr rfl hZ hK hN hG hS hw kb_Mo_change_9 hlocks
def kp_Mo_batch (a0 : Nat) (σ : z_S) (Post : Int32 → z_S → Prop) : Prop := ∀ (X53 : Int32 → Int32 → z_S → Prop) (X84 : Int32 → Int32 → z_S → Prop) (X116 : Int32 → Int32 → z_S → Prop),
    (∀ (v1 : Int32) (v3 : Int32) (σ : z_S), ((((1500 : Int32)) ≤ v3 → X84 v1 ((0 : Int32)) σ) ∧ (¬ ((1500 : Int32)) ≤ v3 → z_ty σ a0 = some (.inl 8) ∧ ∃ r61, z_R σ 832 a0 = some r61 ∧ (z_ty σ a0 = some (.inl 8) ∧ ∃ r66, z_R σ 832 a0 = some r66 ∧ (∃ n74 s74, z_ty σ r66 = some (.inr (0, n74, s74)) ∧ vp_in (v3 + ((300 : Int32))) n74 ∧ (∃ n75 s75, z_ty σ r61 = some (.inr (0, n75, s75)) ∧ vp_in v3 n75 ∧ ∀ σ75, σ75 = z_sA σ s75 r61 (upd (z_A σ s75 r61) v3.toNatClampNeg (z_A σ s74 r66 (v3 + ((300 : Int32))).toNatClampNeg)) → X53 v1 (v3 + (1 : Int32)) σ75))))) → X53 v1 v3 σ) →
    (∀ (v1 : Int32) (v3 : Int32) (σ : z_S), ((((5 : Int32)) ≤ v3 → z_ty σ a0 = some (.inl 8) ∧ ∀ σ111, σ111 = z_sI σ 834 a0 ((5 : Int32)) → X116 v1 ((0 : Int32)) σ111) ∧ (¬ ((5 : Int32)) ≤ v3 → z_ty σ a0 = some (.inl 8) ∧ ∃ r90, z_R σ 833 a0 = some r90 ∧ (z_ty σ a0 = some (.inl 8) ∧ ∃ r95, z_R σ 833 a0 = some r95 ∧ (∃ n101 s101, z_ty σ r95 = some (.inr (0, n101, s101)) ∧ vp_in (v3 + ((1 : Int32))) n101 ∧ (∃ n102 s102, z_ty σ r90 = some (.inr (0, n102, s102)) ∧ vp_in v3 n102 ∧ ∀ σ102, σ102 = z_sA σ s102 r90 (upd (z_A σ s102 r90) v3.toNatClampNeg (z_A σ s101 r95 (v3 + ((1 : Int32))).toNatClampNeg)) → X84 v1 (v3 + (1 : Int32)) σ102))))) → X84 v1 v3 σ) →
    (∀ (v1 : Int32) (v3 : Int32) (σ : z_S), (((((5 : Int32)) * v1) ≤ v3 → z_ty σ a0 = some (.inl 8) ∧ ∃ r151, z_R σ 833 a0 = some r151 ∧ (z_ty σ a0 = some (.inl 8) ∧ (∃ n159 s159, z_ty σ r151 = some (.inr (0, n159, s159)) ∧ vp_in (z_I σ 834 a0) n159 ∧ ∀ σ159, σ159 = z_sA σ s159 r151 (upd (z_A σ s159 r151) (z_I σ 834 a0).toNatClampNeg v1) → z_ty σ159 a0 = some (.inl 8) ∧ (z_ty σ159 a0 = some (.inl 8) ∧ ∀ σ167, σ167 = z_sI σ159 834 a0 ((z_I σ159 834 a0) + ((1 : Int32))) → z_ty σ167 a0 = some (.inl 8) ∧ (Post (z_I σ167 836 a0) σ167))))) ∧ (¬ (((5 : Int32)) * v1) ≤ v3 → z_ty σ a0 = some (.inl 8) ∧ ∃ r124, z_R σ 832 a0 = some r124 ∧ (z_ty σ a0 = some (.inl 8) ∧ (z_ty σ a0 = some (.inl 8) ∧ ∃ r138, z_R σ 830 a0 = some r138 ∧ (∃ n142 s142, z_ty σ r138 = some (.inr (0, n142, s142)) ∧ vp_in v3 n142 ∧ (∃ n143 s143, z_ty σ r124 = some (.inr (0, n143, s143)) ∧ vp_in ((((300 : Int32)) * (z_I σ 834 a0)) + v3) n143 ∧ ∀ σ143, σ143 = z_sA σ s143 r124 (upd (z_A σ s143 r124) ((((300 : Int32)) * (z_I σ 834 a0)) + v3).toNatClampNeg (z_A σ s142 r138 v3.toNatClampNeg)) → X116 v1 (v3 + (1 : Int32)) σ143)))))) → X116 v1 v3 σ) →
    (z_ty σ a0 = some (.inl 8) ∧ ((¬ ((z_I σ 808 a0)) = 0 → z_ty σ a0 = some (.inl 8) ∧ (z_ty σ a0 = some (.inl 8) ∧ ∀ σ17, σ17 = z_sI σ 831 a0 ((0 : Int32)) → z_ty σ17 a0 = some (.inl 8) ∧ ∃ r22, z_R σ17 830 a0 = some r22 ∧ (z_ty σ17 a0 = some (.inl 8) ∧ kp_Mo_sum a0 r22 ((0 : Int32)) (z_I σ 831 a0) ((1 : Int32)) σ17 (fun (σ28 : z_S) => z_ty σ28 a0 = some (.inl 8) ∧ kp_Mo_apply a0 σ28 (fun (r32 : Int32) (σ32 : z_S) => (r32 = 0 → z_ty σ32 a0 = some (.inl 8) ∧ ((¬ (z_I σ32 834 a0) = ((6 : Int32)) → X116 (z_I σ 831 a0) ((0 : Int32)) σ32) ∧ ((z_I σ32 834 a0) = ((6 : Int32)) → X53 (z_I σ 831 a0) ((0 : Int32)) σ32))) ∧ (¬ r32 = 0 → Post r32 σ32)))))) ∧ (((z_I σ 808 a0)) = 0 → Post ((-4 : Int32)) σ)))
set_option maxHeartbeats 4000000 in
set_option maxRecDepth 100000 in
theorem kc_Mo_batch (l : Launch) (D : va_G) (dA : Nat → ClassId) (Z : Nat) (a0 : Nat) (σ : z_S) (Post : Int32 → z_S → Prop) : Met l km_Mo_batch ks_Mo_batch kr_Mo_batch (va_Pc [.ref a0] (fun U => z_U D z_cl z_KT dA Z (z_tys dA) z_nw σ U ∧ kp_Mo_batch  a0 σ Post)) (z_Qi D z_cl z_KT dA Z (z_tys dA) z_nw Post) 0 0 (fun q => Z ≤ q) := by
  refine Met.ofW (cc := prog_10_method_56_code) (maxL := 4) (ret := (some .int)) (by decide) rfl ?_
  intro p e s m args below meth c s₁ B hml hv
  obtain ⟨rfl, ⟨hZ, hG, hK, hN⟩, hw⟩ := hv
  have hx := B.exec
  have hb := B.bytes
  have hr := B.returns
  have hts := atoms_spec (ws := ks_Mo_batch) B.pre
  have hown : s.vm.findClass kR_Mo = some m.cls := findClass_of_methodNamed B.named
  have hlocks := B.notSynchronized
  have hS : va_S (fun q => Z ≤ q) s.heap s.heap [] := va_S.rf
  have hl := lv_entry ([.ref a0]) (n := 4) (Nat.le_of_ble_eq_true rfl)
  rw [lg_entry_eq]
  generalize (lg_sl ([.ref a0]) ++ List.replicate (4 - (lg_sl ([.ref a0])).length) Slot.unset).toArray = ls at hl ⊢
  have hl : lv_has ls 4 [(0, .ref a0)] := hl
  unfold kp_Mo_batch at hw
  have hw := hw (fun (v1 : Int32) (v3 : Int32) (σ : z_S) => ∀ (H : Heap) (locs : List Loc) (ls : Array Slot), z_G D z_cl z_KT dA Z σ H → va_S (fun q => Z ≤ q) s.heap H locs → lv_has ls 4 [(0, .ref a0), (1, .int v1), (3, .int v3)] → W p l e (headSpec ks_Mo_batch kr_Mo_batch).room s m ([.ref a0] : List Value).toArray below meth c H locs 0 0 (MQ below (z_Qi D z_cl z_KT dA Z (z_tys dA) z_nw Post) ([.ref a0] : List Value).toArray s 0 0 (fun q => Z ≤ q)) (F0 m 53 ls []))
  have hw := hw (fun (v1 : Int32) (v3 : Int32) (σ : z_S) => ∀ (H : Heap) (locs : List Loc) (ls : Array Slot), z_G D z_cl z_KT dA Z σ H → va_S (fun q => Z ≤ q) s.heap H locs → lv_has ls 4 [(0, .ref a0), (1, .int v1), (3, .int v3)] → W p l e (headSpec ks_Mo_batch kr_Mo_batch).room s m ([.ref a0] : List Value).toArray below meth c H locs 0 0 (MQ below (z_Qi D z_cl z_KT dA Z (z_tys dA) z_nw Post) ([.ref a0] : List Value).toArray s 0 0 (fun q => Z ≤ q)) (F0 m 84 ls []))
  have hw := hw (fun (v1 : Int32) (v3 : Int32) (σ : z_S) => ∀ (H : Heap) (locs : List Loc) (ls : Array Slot), z_G D z_cl z_KT dA Z σ H → va_S (fun q => Z ≤ q) s.heap H locs → lv_has ls 4 [(0, .ref a0), (1, .int v1), (3, .int v3)] → W p l e (headSpec ks_Mo_batch kr_Mo_batch).room s m ([.ref a0] : List Value).toArray below meth c H locs 0 0 (MQ below (z_Qi D z_cl z_KT dA Z (z_tys dA) z_nw Post) ([.ref a0] : List Value).toArray s 0 0 (fun q => Z ≤ q)) (F0 m 116 ls []))
  have hw := hw (by
    intro v1 v3 σ hw H locs ls hG hS hl
    refine lv_iload_n hx hb kb_Mo_batch_53 rfl (lv_at hl 2 rfl) ?_
    refine lv_sipush (v := (1500 : Int32)) hx hb kb_Mo_batch_54 (by decide) ?_
    refine lv_icmp_ge (tgt := 82) hx hb kb_Mo_batch_57 (by decide) (fun hc => ?_) (fun hc => ?_)
    · have hw := hw.1 hc
      refine lv_iconst (v := (0 : Int32)) hx hb kb_Mo_batch_82 (by decide) ?_
      refine lv_istore_n (lv' := [(3, .int ((0 : Int32))), (0, .ref a0), (1, .int v1)]) hx hb kb_Mo_batch_83 rfl hl (by decide) rfl (fun ls hl => ?_)
      exact hw _ _ _ hG hS (lv_sub hl [1, 2, 0] rfl)
    · have hw := hw.2 hc
      refine lv_aload_n hx hb kb_Mo_batch_60 rfl (lv_at hl 0 rfl) ?_
      obtain ⟨hy, r61, hrf, hw⟩ := hw
      refine zr_getR (ci := 8) (f := 832) hx hb hts ki_Mo hown hK hG hy rfl 32 (by decide) (hts _ (List.mem_cons_of_mem _ kw_616)) (fun _ h => h) rfl rfl hrf kb_Mo_batch_61 ?_
      refine lv_iload_n hx hb kb_Mo_batch_64 rfl (lv_at hl 2 rfl) ?_
      refine lv_aload_n hx hb kb_Mo_batch_65 rfl (lv_at hl 0 rfl) ?_
      obtain ⟨hy, r66, hrf, hw⟩ := hw
      refine zr_getR (ci := 8) (f := 832) hx hb hts ki_Mo hown hK hG hy rfl 32 (by decide) (hts _ (List.mem_cons_of_mem _ kw_616)) (fun _ h => h) rfl rfl hrf kb_Mo_batch_66 ?_
      refine lv_iload_n hx hb kb_Mo_batch_69 rfl (lv_at hl 2 rfl) ?_
      refine lv_sipush (v := (300 : Int32)) hx hb kb_Mo_batch_70 (by decide) ?_
      refine lv_iadd hx hb kb_Mo_batch_73 ?_
      obtain ⟨n74, s74, hy, hi, hw⟩ := hw
      refine zr_iald hx hb hK hG 0 hy rfl hi kb_Mo_batch_74 ?_
      obtain ⟨n75, s75, hy, hi, hw⟩ := hw
      refine zr_iast hx hb hK hG hS 0 hy rfl hi kb_Mo_batch_75 (fun H locs hG hS => ?_)
      obtain ⟨σ75, e75⟩ : ∃ z, z = z_sA σ s75 r61 (upd (z_A σ s75 r61) v3.toNatClampNeg (z_A σ s74 r66 (v3 + ((300 : Int32))).toNatClampNeg)) := ⟨_, rfl⟩
      rw [← e75] at hG
      have hw := hw _ e75
      refine lv_iinc (v := v3 + (1 : Int32)) (lv' := [(3, .int (v3 + (1 : Int32))), (0, .ref a0), (1, .int v1)]) hx hb kb_Mo_batch_76 hl (k := 2) rfl rfl (by decide) rfl (fun ls hl => ?_)
      refine lv_goto (tgt := 53) hx hb kb_Mo_batch_79 (by decide) ?_
      exact hw _ _ _ hG hS (lv_sub hl [1, 2, 0] rfl))
  have hw := hw (by
    intro v1 v3 σ hw H locs ls hG hS hl
    refine lv_iload_n hx hb kb_Mo_batch_84 rfl (lv_at hl 2 rfl) ?_
    refine lv_iconst (v := (5 : Int32)) hx hb kb_Mo_batch_85 (by decide) ?_
    refine lv_icmp_ge (tgt := 109) hx hb kb_Mo_batch_86 (by decide) (fun hc => ?_) (fun hc => ?_)
    · have hw := hw.1 hc
      refine lv_aload_n hx hb kb_Mo_batch_109 rfl (lv_at hl 0 rfl) ?_
      refine lv_iconst (v := (5 : Int32)) hx hb kb_Mo_batch_110 (by decide) ?_
      obtain ⟨hy, hw⟩ := hw
      refine zr_putI (ci := 8) (f := 834) hx hb hts ki_Mo ky_Mo kyo_Mo kn_Mo hown hK hG hS hy rfl 34 (by decide) (hts _ (List.mem_cons_of_mem _ kw_618)) (fun _ h => h) rfl rfl rfl rfl rfl kb_Mo_batch_111 (fun H locs hG hS => ?_)
      obtain ⟨σ111, e111⟩ : ∃ z, z = z_sI σ 834 a0 ((5 : Int32)) := ⟨_, rfl⟩
      rw [← e111] at hG
      have hw := hw _ e111
      refine lv_iconst (v := (0 : Int32)) hx hb kb_Mo_batch_114 (by decide) ?_
      refine lv_istore_n (lv' := [(3, .int ((0 : Int32))), (0, .ref a0), (1, .int v1)]) hx hb kb_Mo_batch_115 rfl hl (by decide) rfl (fun ls hl => ?_)
      exact hw _ _ _ hG hS (lv_sub hl [1, 2, 0] rfl)
    · have hw := hw.2 hc
      refine lv_aload_n hx hb kb_Mo_batch_89 rfl (lv_at hl 0 rfl) ?_
      obtain ⟨hy, r90, hrf, hw⟩ := hw
      refine zr_getR (ci := 8) (f := 833) hx hb hts ki_Mo hown hK hG hy rfl 33 (by decide) (hts _ (List.mem_cons_of_mem _ kw_617)) (fun _ h => h) rfl rfl hrf kb_Mo_batch_90 ?_
      refine lv_iload_n hx hb kb_Mo_batch_93 rfl (lv_at hl 2 rfl) ?_
      refine lv_aload_n hx hb kb_Mo_batch_94 rfl (lv_at hl 0 rfl) ?_
      obtain ⟨hy, r95, hrf, hw⟩ := hw
      refine zr_getR (ci := 8) (f := 833) hx hb hts ki_Mo hown hK hG hy rfl 33 (by decide) (hts _ (List.mem_cons_of_mem _ kw_617)) (fun _ h => h) rfl rfl hrf kb_Mo_batch_95 ?_
      refine lv_iload_n hx hb kb_Mo_batch_98 rfl (lv_at hl 2 rfl) ?_
      refine lv_iconst (v := (1 : Int32)) hx hb kb_Mo_batch_99 (by decide) ?_
      refine lv_iadd hx hb kb_Mo_batch_100 ?_
      obtain ⟨n101, s101, hy, hi, hw⟩ := hw
      refine zr_iald hx hb hK hG 0 hy rfl hi kb_Mo_batch_101 ?_
      obtain ⟨n102, s102, hy, hi, hw⟩ := hw
      refine zr_iast hx hb hK hG hS 0 hy rfl hi kb_Mo_batch_102 (fun H locs hG hS => ?_)
      obtain ⟨σ102, e102⟩ : ∃ z, z = z_sA σ s102 r90 (upd (z_A σ s102 r90) v3.toNatClampNeg (z_A σ s101 r95 (v3 + ((1 : Int32))).toNatClampNeg)) := ⟨_, rfl⟩
      rw [← e102] at hG
      have hw := hw _ e102
      refine lv_iinc (v := v3 + (1 : Int32)) (lv' := [(3, .int (v3 + (1 : Int32))), (0, .ref a0), (1, .int v1)]) hx hb kb_Mo_batch_103 hl (k := 2) rfl rfl (by decide) rfl (fun ls hl => ?_)
      refine lv_goto (tgt := 84) hx hb kb_Mo_batch_106 (by decide) ?_
      exact hw _ _ _ hG hS (lv_sub hl [1, 2, 0] rfl))
  have hw := hw (by
    intro v1 v3 σ hw H locs ls hG hS hl
    refine lv_iload_n hx hb kb_Mo_batch_116 rfl (lv_at hl 2 rfl) ?_
    refine lv_iconst (v := (5 : Int32)) hx hb kb_Mo_batch_117 (by decide) ?_
    refine lv_iload_n hx hb kb_Mo_batch_118 rfl (lv_at hl 1 rfl) ?_
    refine lv_imul hx hb kb_Mo_batch_119 ?_
    refine lv_icmp_ge (tgt := 150) hx hb kb_Mo_batch_120 (by decide) (fun hc => ?_) (fun hc => ?_)
    · have hw := hw.1 hc
      refine lv_aload_n hx hb kb_Mo_batch_150 rfl (lv_at hl 0 rfl) ?_
      obtain ⟨hy, r151, hrf, hw⟩ := hw
      refine zr_getR (ci := 8) (f := 833) hx hb hts ki_Mo hown hK hG hy rfl 33 (by decide) (hts _ (List.mem_cons_of_mem _ kw_617)) (fun _ h => h) rfl rfl hrf kb_Mo_batch_151 ?_
      refine lv_aload_n hx hb kb_Mo_batch_154 rfl (lv_at hl 0 rfl) ?_
      obtain ⟨hy, hw⟩ := hw
      refine zr_getI (ci := 8) (f := 834) hx hb hts ki_Mo hown hK hG hy rfl 34 (by decide) (hts _ (List.mem_cons_of_mem _ kw_618)) (fun _ h => h) rfl rfl kb_Mo_batch_155 ?_
      refine lv_iload_n hx hb kb_Mo_batch_158 rfl (lv_at hl 1 rfl) ?_
      obtain ⟨n159, s159, hy, hi, hw⟩ := hw
      refine zr_iast hx hb hK hG hS 0 hy rfl hi kb_Mo_batch_159 (fun H locs hG hS => ?_)
      obtain ⟨σ159, e159⟩ : ∃ z, z = z_sA σ s159 r151 (upd (z_A σ s159 r151) (z_I σ 834 a0).toNatClampNeg v1) := ⟨_, rfl⟩
      rw [← e159] at hG
      have hw := hw _ e159
      refine lv_aload_n hx hb kb_Mo_batch_160 rfl (lv_at hl 0 rfl) ?_
      refine lv_dup hx hb kb_Mo_batch_161 rfl ?_
      obtain ⟨hy, hw⟩ := hw
      refine zr_getI (ci := 8) (f := 834) hx hb hts ki_Mo hown hK hG hy rfl 34 (by decide) (hts _ (List.mem_cons_of_mem _ kw_618)) (fun _ h => h) rfl rfl kb_Mo_batch_162 ?_
      refine lv_iconst (v := (1 : Int32)) hx hb kb_Mo_batch_165 (by decide) ?_
      refine lv_iadd hx hb kb_Mo_batch_166 ?_
      obtain ⟨hy, hw⟩ := hw
      refine zr_putI (ci := 8) (f := 834) hx hb hts ki_Mo ky_Mo kyo_Mo kn_Mo hown hK hG hS hy rfl 34 (by decide) (hts _ (List.mem_cons_of_mem _ kw_618)) (fun _ h => h) rfl rfl rfl rfl rfl kb_Mo_batch_167 (fun H locs hG hS => ?_)
      obtain ⟨σ167, e167⟩ : ∃ z, z = z_sI σ159 834 a0 ((z_I σ159 834 a0) + ((1 : Int32))) := ⟨_, rfl⟩
      rw [← e167] at hG
      have hw := hw _ e167
      refine lv_aload_n hx hb kb_Mo_batch_170 rfl (lv_at hl 0 rfl) ?_
      obtain ⟨hy, hw⟩ := hw
      refine zr_getI (ci := 8) (f := 836) hx hb hts ki_Mo hown hK hG hy rfl 36 (by decide) (hts _ (List.mem_cons_of_mem _ kw_620)) (fun _ h => h) rfl rfl kb_Mo_batch_171 ?_
      exact zr_iret (free := fun q => Z ≤ q) z_nwN hx hb hr rfl hZ hK hN hG hS hw kb_Mo_batch_174 hlocks
    · have hw := hw.2 hc
      refine lv_aload_n hx hb kb_Mo_batch_123 rfl (lv_at hl 0 rfl) ?_
      obtain ⟨hy, r124, hrf, hw⟩ := hw
      refine zr_getR (ci := 8) (f := 832) hx hb hts ki_Mo hown hK hG hy rfl 32 (by decide) (hts _ (List.mem_cons_of_mem _ kw_616)) (fun _ h => h) rfl rfl hrf kb_Mo_batch_124 ?_
      refine lv_sipush (v := (300 : Int32)) hx hb kb_Mo_batch_127 (by decide) ?_
      refine lv_aload_n hx hb kb_Mo_batch_130 rfl (lv_at hl 0 rfl) ?_
      obtain ⟨hy, hw⟩ := hw
      refine zr_getI (ci := 8) (f := 834) hx hb hts ki_Mo hown hK hG hy rfl 34 (by decide) (hts _ (List.mem_cons_of_mem _ kw_618)) (fun _ h => h) rfl rfl kb_Mo_batch_131 ?_
      refine lv_imul hx hb kb_Mo_batch_134 ?_
      refine lv_iload_n hx hb kb_Mo_batch_135 rfl (lv_at hl 2 rfl) ?_
      refine lv_iadd hx hb kb_Mo_batch_136 ?_
      refine lv_aload_n hx hb kb_Mo_batch_137 rfl (lv_at hl 0 rfl) ?_
      obtain ⟨hy, r138, hrf, hw⟩ := hw
      refine zr_getR (ci := 8) (f := 830) hx hb hts ki_Mo hown hK hG hy rfl 30 (by decide) (hts _ (List.mem_cons_of_mem _ kw_614)) (fun _ h => h) rfl rfl hrf kb_Mo_batch_138 ?_
      refine lv_iload_n hx hb kb_Mo_batch_141 rfl (lv_at hl 2 rfl) ?_
      obtain ⟨n142, s142, hy, hi, hw⟩ := hw
      refine zr_iald hx hb hK hG 0 hy rfl hi kb_Mo_batch_142 ?_
      obtain ⟨n143, s143, hy, hi, hw⟩ := hw
      refine zr_iast hx hb hK hG hS 0 hy rfl hi kb_Mo_batch_143 (fun H locs hG hS => ?_)
      obtain ⟨σ143, e143⟩ : ∃ z, z = z_sA σ s143 r124 (upd (z_A σ s143 r124) ((((300 : Int32)) * (z_I σ 834 a0)) + v3).toNatClampNeg (z_A σ s142 r138 v3.toNatClampNeg)) := ⟨_, rfl⟩
      rw [← e143] at hG
      have hw := hw _ e143
      refine lv_iinc (v := v3 + (1 : Int32)) (lv' := [(3, .int (v3 + (1 : Int32))), (0, .ref a0), (1, .int v1)]) hx hb kb_Mo_batch_144 hl (k := 2) rfl rfl (by decide) rfl (fun ls hl => ?_)
      refine lv_goto (tgt := 116) hx hb kb_Mo_batch_147 (by decide) ?_
      exact hw _ _ _ hG hS (lv_sub hl [1, 2, 0] rfl))
  refine lv_aload_n hx hb kb_Mo_batch_0 rfl (lv_at hl 0 rfl) ?_
  obtain ⟨hy, hw⟩ := hw
  refine zr_getI (ci := 8) (f := 808) hx hb hts ki_Mo hown hK hG hy rfl 8 (by decide) (hts _ (List.mem_cons_of_mem _ kw_592)) (fun _ h => h) rfl rfl kb_Mo_batch_1 ?_
  refine lv_if_ne (tgt := 10) hx hb kb_Mo_batch_4 (by decide) (fun hc => ?_) (fun hc => ?_)
  · have hw := hw.1 hc
    refine lv_aload_n hx hb kb_Mo_batch_10 rfl (lv_at hl 0 rfl) ?_
    obtain ⟨hy, hw⟩ := hw
    refine zr_getI (ci := 8) (f := 831) hx hb hts ki_Mo hown hK hG hy rfl 31 (by decide) (hts _ (List.mem_cons_of_mem _ kw_615)) (fun _ h => h) rfl rfl kb_Mo_batch_11 ?_
    refine lv_istore_n (lv' := [(1, .int (z_I σ 831 a0)), (0, .ref a0)]) hx hb kb_Mo_batch_14 rfl hl (by decide) rfl (fun ls hl => ?_)
    refine lv_aload_n hx hb kb_Mo_batch_15 rfl (lv_at hl 1 rfl) ?_
    refine lv_iconst (v := (0 : Int32)) hx hb kb_Mo_batch_16 (by decide) ?_
    obtain ⟨hy, hw⟩ := hw
    refine zr_putI (ci := 8) (f := 831) hx hb hts ki_Mo ky_Mo kyo_Mo kn_Mo hown hK hG hS hy rfl 31 (by decide) (hts _ (List.mem_cons_of_mem _ kw_615)) (fun _ h => h) rfl rfl rfl rfl rfl kb_Mo_batch_17 (fun H locs hG hS => ?_)
    obtain ⟨σ17, e17⟩ : ∃ z, z = z_sI σ 831 a0 ((0 : Int32)) := ⟨_, rfl⟩
    rw [← e17] at hG
    have hw := hw _ e17
    refine lv_aload_n hx hb kb_Mo_batch_20 rfl (lv_at hl 1 rfl) ?_
    refine lv_aload_n hx hb kb_Mo_batch_21 rfl (lv_at hl 1 rfl) ?_
    obtain ⟨hy, r22, hrf, hw⟩ := hw
    refine zr_getR (ci := 8) (f := 830) hx hb hts ki_Mo hown hK hG hy rfl 30 (by decide) (hts _ (List.mem_cons_of_mem _ kw_614)) (fun _ h => h) rfl rfl hrf kb_Mo_batch_22 ?_
    refine lv_iconst (v := (0 : Int32)) hx hb kb_Mo_batch_25 (by decide) ?_
    refine lv_iload_n hx hb kb_Mo_batch_26 rfl (lv_at hl 0 rfl) ?_
    refine lv_iconst (v := (1 : Int32)) hx hb kb_Mo_batch_27 (by decide) ?_
    obtain ⟨hy, hw⟩ := hw
    refine zr_cv (va_runV (C := kR_Mo) (As := [.ref r22, .int ((0 : Int32)), .int (z_I σ 831 a0), .int ((1 : Int32))]) (rest := []) ⟨hx, hb, hml, hown, hts⟩ (kc_Mo_sum l D dA Z a0 r22 ((0 : Int32)) (z_I σ 831 a0) ((1 : Int32)) σ17 _) ⟨callB_of 4 hts (z_gw kw_841) rfl rfl rfl (hts _ (List.mem_cons_of_mem _ kw_9)) (hts _ (List.mem_cons_of_mem _ kw_839)) (by decide +kernel) ⟨Nat.le_of_ble_eq_true rfl, Nat.le_of_ble_eq_true rfl⟩, (hts _ (List.mem_cons_of_mem _ kw_840)), (hts _ (List.mem_cons_of_mem _ kw_986))⟩ (z_preV z_nwN (Nat.le_trans hZ hS.1) hG hK hN hy (ci := 8) (r := (kR_Mo, kT_Mo, 51)) rfl hw) rfl rfl hl.1 rfl (lv_room (Nat.le_of_ble_eq_true rfl)) kb_Mo_batch_28 ⟨Nat.le_of_ble_eq_true rfl, Nat.le_of_ble_eq_true rfl⟩) hS (fun σ28 H locs hw hG hS => ?_)
    refine lv_aload_n hx hb kb_Mo_batch_31 rfl (lv_at hl 1 rfl) ?_
    obtain ⟨hy, hw⟩ := hw
    refine zr_ci (va_runV (C := kR_Mo) (As := []) (rest := []) ⟨hx, hb, hml, hown, hts⟩ (kc_Mo_apply l D dA Z a0 σ28 _) ⟨callB_of 0 hts (z_gw kw_844) rfl rfl rfl (hts _ (List.mem_cons_of_mem _ kw_9)) (hts _ (List.mem_cons_of_mem _ kw_842)) (by decide +kernel) ⟨Nat.le_of_ble_eq_true rfl, Nat.le_of_ble_eq_true rfl⟩, (hts _ (List.mem_cons_of_mem _ kw_843)), (hts _ (List.mem_cons_of_mem _ kw_987))⟩ (z_preV z_nwN (Nat.le_trans hZ hS.1) hG hK hN hy (ci := 8) (r := (kR_Mo, kT_Mo, 51)) rfl hw) rfl rfl hl.1 rfl (lv_room (Nat.le_of_ble_eq_true rfl)) kb_Mo_batch_32 ⟨Nat.le_of_ble_eq_true rfl, Nat.le_of_ble_eq_true rfl⟩) hS (fun r32 σ32 H locs hw hG hS => ?_)
    refine lv_istore_n (lv' := [(2, .int r32), (1, .int (z_I σ 831 a0)), (0, .ref a0)]) hx hb kb_Mo_batch_35 rfl hl (by decide) rfl (fun ls hl => ?_)
    refine lv_iload_n hx hb kb_Mo_batch_36 rfl (lv_at hl 0 rfl) ?_
    refine lv_if_eq (tgt := 42) hx hb kb_Mo_batch_37 (by decide) (fun hc => ?_) (fun hc => ?_)
    · have hw := hw.1 hc
      refine lv_aload_n hx hb kb_Mo_batch_42 rfl (lv_at hl 2 rfl) ?_
      obtain ⟨hy, hw⟩ := hw
      refine zr_getI (ci := 8) (f := 834) hx hb hts ki_Mo hown hK hG hy rfl 34 (by decide) (hts _ (List.mem_cons_of_mem _ kw_618)) (fun _ h => h) rfl rfl kb_Mo_batch_43 ?_
      refine lv_bipush (v := (6 : Int32)) hx hb kb_Mo_batch_46 (by decide) ?_
      refine lv_icmp_ne (tgt := 114) hx hb kb_Mo_batch_48 (by decide) (fun hc => ?_) (fun hc => ?_)
      · have hw := hw.1 hc
        refine lv_iconst (v := (0 : Int32)) hx hb kb_Mo_batch_114 (by decide) ?_
        refine lv_istore_n (lv' := [(3, .int ((0 : Int32))), (2, .int r32), (1, .int (z_I σ 831 a0)), (0, .ref a0)]) hx hb kb_Mo_batch_115 rfl hl (by decide) rfl (fun ls hl => ?_)
        exact hw _ _ _ hG hS (lv_sub hl [3, 2, 0] rfl)
      · have hw := hw.2 hc
        refine lv_iconst (v := (0 : Int32)) hx hb kb_Mo_batch_51 (by decide) ?_
        refine lv_istore_n (lv' := [(3, .int ((0 : Int32))), (2, .int r32), (1, .int (z_I σ 831 a0)), (0, .ref a0)]) hx hb kb_Mo_batch_52 rfl hl (by decide) rfl (fun ls hl => ?_)
        exact hw _ _ _ hG hS (lv_sub hl [3, 2, 0] rfl)
    · have hw := hw.2 hc
      refine lv_iload_n hx hb kb_Mo_batch_40 rfl (lv_at hl 0 rfl) ?_
      exact zr_iret (free := fun q => Z ≤ q) z_nwN hx hb hr rfl hZ hK hN hG hS hw kb_Mo_batch_41 hlocks
  · have hw := hw.2 hc
    refine lv_bipush (v := (-4 : Int32)) hx hb kb_Mo_batch_7 (by decide) ?_
    exact zr_iret (free := fun q => Z ≤ q) z_nwN hx hb hr rfl hZ hK hN hG hS hw kb_Mo_batch_9 hlocks
def kp_Mo_drop (a0 : Nat) (σ : z_S) (Post : Int32 → z_S → Prop) : Prop :=     (z_ty σ a0 = some (.inl 8) ∧ ((¬ ((z_I σ 808 a0)) = 0 → z_ty σ a0 = some (.inl 8) ∧ (z_ty σ a0 = some (.inl 8) ∧ ∀ σ17, σ17 = z_sI σ 831 a0 ((0 : Int32)) → Post (z_I σ 831 a0) σ17)) ∧ (((z_I σ 808 a0)) = 0 → Post ((-4 : Int32)) σ)))
set_option maxHeartbeats 4000000 in
set_option maxRecDepth 100000 in
theorem kc_Mo_drop (l : Launch) (D : va_G) (dA : Nat → ClassId) (Z : Nat) (a0 : Nat) (σ : z_S) (Post : Int32 → z_S → Prop) : Met l km_Mo_drop ks_Mo_drop kr_Mo_drop (va_Pc [.ref a0] (fun U => z_U D z_cl z_KT dA Z (z_tys dA) z_nw σ U ∧ kp_Mo_drop  a0 σ Post)) (z_Qi D z_cl z_KT dA Z (z_tys dA) z_nw Post) 0 0 (fun q => Z ≤ q) := by
  refine Met.ofW (cc := prog_10_method_57_code) (maxL := 2) (ret := (some .int)) (by decide) rfl ?_
  intro p e s m args below meth c s₁ B hml hv
  obtain ⟨rfl, ⟨hZ, hG, hK, hN⟩, hw⟩ := hv
  have hx := B.exec
  have hb := B.bytes
  have hr := B.returns
  have hts := atoms_spec (ws := ks_Mo_drop) B.pre
  have hown : s.vm.findClass kR_Mo = some m.cls := findClass_of_methodNamed B.named
  have hlocks := B.notSynchronized
  have hS : va_S (fun q => Z ≤ q) s.heap s.heap [] := va_S.rf
  have hl := lv_entry ([.ref a0]) (n := 2) (Nat.le_of_ble_eq_true rfl)
  rw [lg_entry_eq]
  generalize (lg_sl ([.ref a0]) ++ List.replicate (2 - (lg_sl ([.ref a0])).length) Slot.unset).toArray = ls at hl ⊢
  have hl : lv_has ls 2 [(0, .ref a0)] := hl
  unfold kp_Mo_drop at hw
  refine lv_aload_n hx hb kb_Mo_drop_0 rfl (lv_at hl 0 rfl) ?_
  obtain ⟨hy, hw⟩ := hw
  refine zr_getI (ci := 8) (f := 808) hx hb hts ki_Mo hown hK hG hy rfl 8 (by decide) (hts _ (List.mem_cons_of_mem _ kw_592)) (fun _ h => h) rfl rfl kb_Mo_drop_1 ?_
  refine lv_if_ne (tgt := 10) hx hb kb_Mo_drop_4 (by decide) (fun hc => ?_) (fun hc => ?_)
  · have hw := hw.1 hc
    refine lv_aload_n hx hb kb_Mo_drop_10 rfl (lv_at hl 0 rfl) ?_
    obtain ⟨hy, hw⟩ := hw
    refine zr_getI (ci := 8) (f := 831) hx hb hts ki_Mo hown hK hG hy rfl 31 (by decide) (hts _ (List.mem_cons_of_mem _ kw_615)) (fun _ h => h) rfl rfl kb_Mo_drop_11 ?_
    refine lv_istore_n (lv' := [(1, .int (z_I σ 831 a0)), (0, .ref a0)]) hx hb kb_Mo_drop_14 rfl hl (by decide) rfl (fun ls hl => ?_)
    refine lv_aload_n hx hb kb_Mo_drop_15 rfl (lv_at hl 1 rfl) ?_
    refine lv_iconst (v := (0 : Int32)) hx hb kb_Mo_drop_16 (by decide) ?_
    obtain ⟨hy, hw⟩ := hw
    refine zr_putI (ci := 8) (f := 831) hx hb hts ki_Mo ky_Mo kyo_Mo kn_Mo hown hK hG hS hy rfl 31 (by decide) (hts _ (List.mem_cons_of_mem _ kw_615)) (fun _ h => h) rfl rfl rfl rfl rfl kb_Mo_drop_17 (fun H locs hG hS => ?_)
    obtain ⟨σ17, e17⟩ : ∃ z, z = z_sI σ 831 a0 ((0 : Int32)) := ⟨_, rfl⟩
    rw [← e17] at hG
    have hw := hw _ e17
    refine lv_iload_n hx hb kb_Mo_drop_20 rfl (lv_at hl 0 rfl) ?_
    exact zr_iret (free := fun q => Z ≤ q) z_nwN hx hb hr rfl hZ hK hN hG hS hw kb_Mo_drop_21 hlocks
  · have hw := hw.2 hc
    refine lv_bipush (v := (-4 : Int32)) hx hb kb_Mo_drop_7 (by decide) ?_
    exact zr_iret (free := fun q => Z ≤ q) z_nwN hx hb hr rfl hZ hK hN hG hS hw kb_Mo_drop_9 hlocks
def kp_Mo_difference (a0 : Nat) (x1 : Int32) (x2 : Int32) (σ : z_S) (Post : Int32 → z_S → Prop) : Prop :=     (z_ty σ a0 = some (.inl 8) ∧ ((¬ ((z_I σ 808 a0)) = 0 → kp_Mo_isIn x2 ((0 : Int32)) ((4 : Int32)) σ (fun (r13 : Int32) (σ13 : z_S) => (¬ r13 = 0 → z_ty σ13 a0 = some (.inl 8) ∧ (kp_Mo_isIn x1 ((0 : Int32)) ((z_I σ13 836 a0) - ((1 : Int32))) σ13 (fun (r30 : Int32) (σ30 : z_S) => (r30 = 0 → Post ((-1 : Int32)) σ30) ∧ (¬ r30 = 0 → z_ty σ30 a0 = some (.inl 8) ∧ ∃ r37, z_R σ30 835 a0 = some r37 ∧ (∃ n45 s45, z_ty σ30 r37 = some (.inr (0, n45, s45)) ∧ vp_in ((((5 : Int32)) * x1) + x2) n45 ∧ (Post (z_A σ30 s45 r37 ((((5 : Int32)) * x1) + x2).toNatClampNeg) σ30)))))) ∧ (r13 = 0 → Post ((-2 : Int32)) σ13))) ∧ (((z_I σ 808 a0)) = 0 → Post ((-4 : Int32)) σ)))
set_option maxHeartbeats 4000000 in
set_option maxRecDepth 100000 in
theorem kc_Mo_difference (l : Launch) (D : va_G) (dA : Nat → ClassId) (Z : Nat) (a0 : Nat) (x1 : Int32) (x2 : Int32) (σ : z_S) (Post : Int32 → z_S → Prop) : Met l km_Mo_difference ks_Mo_difference kr_Mo_difference (va_Pc [.ref a0, .int x1, .int x2] (fun U => z_U D z_cl z_KT dA Z (z_tys dA) z_nw σ U ∧ kp_Mo_difference  a0 x1 x2 σ Post)) (z_Qi D z_cl z_KT dA Z (z_tys dA) z_nw Post) 0 0 (fun q => Z ≤ q) := by
  refine Met.ofW (cc := prog_10_method_58_code) (maxL := 3) (ret := (some .int)) (by decide) rfl ?_
  intro p e s m args below meth c s₁ B hml hv
  obtain ⟨rfl, ⟨hZ, hG, hK, hN⟩, hw⟩ := hv
  have hx := B.exec
  have hb := B.bytes
  have hr := B.returns
  have hts := atoms_spec (ws := ks_Mo_difference) B.pre
  have hown : s.vm.findClass kR_Mo = some m.cls := findClass_of_methodNamed B.named
  have hlocks := B.notSynchronized
  have hS : va_S (fun q => Z ≤ q) s.heap s.heap [] := va_S.rf
  have hl := lv_entry ([.ref a0, .int x1, .int x2]) (n := 3) (Nat.le_of_ble_eq_true rfl)
  rw [lg_entry_eq]
  generalize (lg_sl ([.ref a0, .int x1, .int x2]) ++ List.replicate (3 - (lg_sl ([.ref a0, .int x1, .int x2])).length) Slot.unset).toArray = ls at hl ⊢
  have hl : lv_has ls 3 [(0, .ref a0), (1, .int x1), (2, .int x2)] := hl
  unfold kp_Mo_difference at hw
  refine lv_aload_n hx hb kb_Mo_difference_0 rfl (lv_at hl 0 rfl) ?_
  obtain ⟨hy, hw⟩ := hw
  refine zr_getI (ci := 8) (f := 808) hx hb hts ki_Mo hown hK hG hy rfl 8 (by decide) (hts _ (List.mem_cons_of_mem _ kw_592)) (fun _ h => h) rfl rfl kb_Mo_difference_1 ?_
  refine lv_if_ne (tgt := 10) hx hb kb_Mo_difference_4 (by decide) (fun hc => ?_) (fun hc => ?_)
  · have hw := hw.1 hc
    refine lv_iload_n hx hb kb_Mo_difference_10 rfl (lv_at hl 2 rfl) ?_
    refine lv_iconst (v := (0 : Int32)) hx hb kb_Mo_difference_11 (by decide) ?_
    refine lv_iconst (v := (4 : Int32)) hx hb kb_Mo_difference_12 (by decide) ?_
    refine zr_ci (va_runS (As := [.int x2, .int ((0 : Int32)), .int ((4 : Int32))]) (rest := []) ⟨hx, hb, hml, hown, hts⟩ (kc_Mo_isIn l D dA Z x2 ((0 : Int32)) ((4 : Int32)) σ _) ⟨callB_of 3 hts (z_gw kw_693) rfl rfl rfl (hts _ (List.mem_cons_of_mem _ kw_9)) (hts _ (List.mem_cons_of_mem _ kw_691)) (by decide +kernel) ⟨Nat.le_of_ble_eq_true rfl, Nat.le_of_ble_eq_true rfl⟩, (hts _ (List.mem_cons_of_mem _ kw_692))⟩ (z_preS z_nwN (Nat.le_trans hZ hS.1) hG hK hN hw) rfl rfl hl.1 rfl (lv_room (Nat.le_of_ble_eq_true rfl)) kb_Mo_difference_13 ⟨Nat.le_of_ble_eq_true rfl, Nat.le_of_ble_eq_true rfl⟩) hS (fun r13 σ13 H locs hw hG hS => ?_)
    refine lv_if_ne (tgt := 22) hx hb kb_Mo_difference_16 (by decide) (fun hc => ?_) (fun hc => ?_)
    · have hw := hw.1 hc
      refine lv_iload_n hx hb kb_Mo_difference_22 rfl (lv_at hl 1 rfl) ?_
      refine lv_iconst (v := (0 : Int32)) hx hb kb_Mo_difference_23 (by decide) ?_
      refine lv_aload_n hx hb kb_Mo_difference_24 rfl (lv_at hl 0 rfl) ?_
      obtain ⟨hy, hw⟩ := hw
      refine zr_getI (ci := 8) (f := 836) hx hb hts ki_Mo hown hK hG hy rfl 36 (by decide) (hts _ (List.mem_cons_of_mem _ kw_620)) (fun _ h => h) rfl rfl kb_Mo_difference_25 ?_
      refine lv_iconst (v := (1 : Int32)) hx hb kb_Mo_difference_28 (by decide) ?_
      refine lv_isub hx hb kb_Mo_difference_29 ?_
      refine zr_ci (va_runS (As := [.int x1, .int ((0 : Int32)), .int ((z_I σ13 836 a0) - ((1 : Int32)))]) (rest := []) ⟨hx, hb, hml, hown, hts⟩ (kc_Mo_isIn l D dA Z x1 ((0 : Int32)) ((z_I σ13 836 a0) - ((1 : Int32))) σ13 _) ⟨callB_of 3 hts (z_gw kw_693) rfl rfl rfl (hts _ (List.mem_cons_of_mem _ kw_9)) (hts _ (List.mem_cons_of_mem _ kw_691)) (by decide +kernel) ⟨Nat.le_of_ble_eq_true rfl, Nat.le_of_ble_eq_true rfl⟩, (hts _ (List.mem_cons_of_mem _ kw_692))⟩ (z_preS z_nwN (Nat.le_trans hZ hS.1) hG hK hN hw) rfl rfl hl.1 rfl (lv_room (Nat.le_of_ble_eq_true rfl)) kb_Mo_difference_30 ⟨Nat.le_of_ble_eq_true rfl, Nat.le_of_ble_eq_true rfl⟩) hS (fun r30 σ30 H locs hw hG hS => ?_)
      refine lv_if_eq (tgt := 49) hx hb kb_Mo_difference_33 (by decide) (fun hc => ?_) (fun hc => ?_)
      · have hw := hw.1 hc
        refine lv_iconst (v := (-1 : Int32)) hx hb kb_Mo_difference_49 (by decide) ?_
        exact zr_iret (free := fun q => Z ≤ q) z_nwN hx hb hr rfl hZ hK hN hG hS hw kb_Mo_difference_50 hlocks
      · have hw := hw.2 hc
        refine lv_aload_n hx hb kb_Mo_difference_36 rfl (lv_at hl 0 rfl) ?_
        obtain ⟨hy, r37, hrf, hw⟩ := hw
        refine zr_getR (ci := 8) (f := 835) hx hb hts ki_Mo hown hK hG hy rfl 35 (by decide) (hts _ (List.mem_cons_of_mem _ kw_619)) (fun _ h => h) rfl rfl hrf kb_Mo_difference_37 ?_
        refine lv_iconst (v := (5 : Int32)) hx hb kb_Mo_difference_40 (by decide) ?_
        refine lv_iload_n hx hb kb_Mo_difference_41 rfl (lv_at hl 1 rfl) ?_
        refine lv_imul hx hb kb_Mo_difference_42 ?_
        refine lv_iload_n hx hb kb_Mo_difference_43 rfl (lv_at hl 2 rfl) ?_
        refine lv_iadd hx hb kb_Mo_difference_44 ?_
        obtain ⟨n45, s45, hy, hi, hw⟩ := hw
        refine zr_iald hx hb hK hG 0 hy rfl hi kb_Mo_difference_45 ?_
        refine lv_goto (tgt := 50) hx hb kb_Mo_difference_46 (by decide) ?_
        exact zr_iret (free := fun q => Z ≤ q) z_nwN hx hb hr rfl hZ hK hN hG hS hw kb_Mo_difference_50 hlocks
    · have hw := hw.2 hc
      refine lv_bipush (v := (-2 : Int32)) hx hb kb_Mo_difference_19 (by decide) ?_
      exact zr_iret (free := fun q => Z ≤ q) z_nwN hx hb hr rfl hZ hK hN hG hS hw kb_Mo_difference_21 hlocks
  · have hw := hw.2 hc
    refine lv_bipush (v := (-4 : Int32)) hx hb kb_Mo_difference_7 (by decide) ?_
    exact zr_iret (free := fun q => Z ≤ q) z_nwN hx hb hr rfl hZ hK hN hG hS hw kb_Mo_difference_9 hlocks
def kp_Mo_undo (a0 : Nat) (σ : z_S) (Post : Int32 → z_S → Prop) : Prop :=     (z_ty σ a0 = some (.inl 8) ∧ ((¬ ((z_I σ 808 a0)) = 0 → z_ty σ a0 = some (.inl 8) ∧ ((¬ ((z_I σ 834 a0)) = 0 → z_ty σ a0 = some (.inl 8) ∧ (z_ty σ a0 = some (.inl 8) ∧ ∀ σ26, σ26 = z_sI σ 834 a0 ((z_I σ 834 a0) - ((1 : Int32))) → z_ty σ26 a0 = some (.inl 8) ∧ ∃ r31, z_R σ26 832 a0 = some r31 ∧ (z_ty σ26 a0 = some (.inl 8) ∧ (z_ty σ26 a0 = some (.inl 8) ∧ ∃ r43, z_R σ26 833 a0 = some r43 ∧ (z_ty σ26 a0 = some (.inl 8) ∧ (∃ n50 s50, z_ty σ26 r43 = some (.inr (0, n50, s50)) ∧ vp_in (z_I σ26 834 a0) n50 ∧ (z_ty σ26 a0 = some (.inl 8) ∧ kp_Mo_sum a0 r31 (((300 : Int32)) * (z_I σ26 834 a0)) (z_A σ26 s50 r43 (z_I σ26 834 a0).toNatClampNeg) ((-1 : Int32)) σ26 (fun (σ52 : z_S) => z_ty σ52 a0 = some (.inl 8) ∧ kp_Mo_apply a0 σ52 (fun (r56 : Int32) (σ56 : z_S) => z_ty σ56 a0 = some (.inl 8) ∧ (Post (z_I σ56 836 a0) σ56)))))))))) ∧ (((z_I σ 834 a0)) = 0 → Post ((-1 : Int32)) σ))) ∧ (((z_I σ 808 a0)) = 0 → Post ((-4 : Int32)) σ)))
set_option maxHeartbeats 4000000 in
set_option maxRecDepth 100000 in
theorem kc_Mo_undo (l : Launch) (D : va_G) (dA : Nat → ClassId) (Z : Nat) (a0 : Nat) (σ : z_S) (Post : Int32 → z_S → Prop) : Met l km_Mo_undo ks_Mo_undo kr_Mo_undo (va_Pc [.ref a0] (fun U => z_U D z_cl z_KT dA Z (z_tys dA) z_nw σ U ∧ kp_Mo_undo  a0 σ Post)) (z_Qi D z_cl z_KT dA Z (z_tys dA) z_nw Post) 0 0 (fun q => Z ≤ q) := by
  refine Met.ofW (cc := prog_10_method_59_code) (maxL := 2) (ret := (some .int)) (by decide) rfl ?_
  intro p e s m args below meth c s₁ B hml hv
  obtain ⟨rfl, ⟨hZ, hG, hK, hN⟩, hw⟩ := hv
  have hx := B.exec
  have hb := B.bytes
  have hr := B.returns
  have hts := atoms_spec (ws := ks_Mo_undo) B.pre
  have hown : s.vm.findClass kR_Mo = some m.cls := findClass_of_methodNamed B.named
  have hlocks := B.notSynchronized
  have hS : va_S (fun q => Z ≤ q) s.heap s.heap [] := va_S.rf
  have hl := lv_entry ([.ref a0]) (n := 2) (Nat.le_of_ble_eq_true rfl)
  rw [lg_entry_eq]
  generalize (lg_sl ([.ref a0]) ++ List.replicate (2 - (lg_sl ([.ref a0])).length) Slot.unset).toArray = ls at hl ⊢
  have hl : lv_has ls 2 [(0, .ref a0)] := hl
  unfold kp_Mo_undo at hw
  refine lv_aload_n hx hb kb_Mo_undo_0 rfl (lv_at hl 0 rfl) ?_
  obtain ⟨hy, hw⟩ := hw
  refine zr_getI (ci := 8) (f := 808) hx hb hts ki_Mo hown hK hG hy rfl 8 (by decide) (hts _ (List.mem_cons_of_mem _ kw_592)) (fun _ h => h) rfl rfl kb_Mo_undo_1 ?_
  refine lv_if_ne (tgt := 10) hx hb kb_Mo_undo_4 (by decide) (fun hc => ?_) (fun hc => ?_)
  · have hw := hw.1 hc
    refine lv_aload_n hx hb kb_Mo_undo_10 rfl (lv_at hl 0 rfl) ?_
    obtain ⟨hy, hw⟩ := hw
    refine zr_getI (ci := 8) (f := 834) hx hb hts ki_Mo hown hK hG hy rfl 34 (by decide) (hts _ (List.mem_cons_of_mem _ kw_618)) (fun _ h => h) rfl rfl kb_Mo_undo_11 ?_
    refine lv_if_ne (tgt := 19) hx hb kb_Mo_undo_14 (by decide) (fun hc => ?_) (fun hc => ?_)
    · have hw := hw.1 hc
      refine lv_aload_n hx hb kb_Mo_undo_19 rfl (lv_at hl 0 rfl) ?_
      refine lv_dup hx hb kb_Mo_undo_20 rfl ?_
      obtain ⟨hy, hw⟩ := hw
      refine zr_getI (ci := 8) (f := 834) hx hb hts ki_Mo hown hK hG hy rfl 34 (by decide) (hts _ (List.mem_cons_of_mem _ kw_618)) (fun _ h => h) rfl rfl kb_Mo_undo_21 ?_
      refine lv_iconst (v := (1 : Int32)) hx hb kb_Mo_undo_24 (by decide) ?_
      refine lv_isub hx hb kb_Mo_undo_25 ?_
      obtain ⟨hy, hw⟩ := hw
      refine zr_putI (ci := 8) (f := 834) hx hb hts ki_Mo ky_Mo kyo_Mo kn_Mo hown hK hG hS hy rfl 34 (by decide) (hts _ (List.mem_cons_of_mem _ kw_618)) (fun _ h => h) rfl rfl rfl rfl rfl kb_Mo_undo_26 (fun H locs hG hS => ?_)
      obtain ⟨σ26, e26⟩ : ∃ z, z = z_sI σ 834 a0 ((z_I σ 834 a0) - ((1 : Int32))) := ⟨_, rfl⟩
      rw [← e26] at hG
      have hw := hw _ e26
      refine lv_aload_n hx hb kb_Mo_undo_29 rfl (lv_at hl 0 rfl) ?_
      refine lv_aload_n hx hb kb_Mo_undo_30 rfl (lv_at hl 0 rfl) ?_
      obtain ⟨hy, r31, hrf, hw⟩ := hw
      refine zr_getR (ci := 8) (f := 832) hx hb hts ki_Mo hown hK hG hy rfl 32 (by decide) (hts _ (List.mem_cons_of_mem _ kw_616)) (fun _ h => h) rfl rfl hrf kb_Mo_undo_31 ?_
      refine lv_sipush (v := (300 : Int32)) hx hb kb_Mo_undo_34 (by decide) ?_
      refine lv_aload_n hx hb kb_Mo_undo_37 rfl (lv_at hl 0 rfl) ?_
      obtain ⟨hy, hw⟩ := hw
      refine zr_getI (ci := 8) (f := 834) hx hb hts ki_Mo hown hK hG hy rfl 34 (by decide) (hts _ (List.mem_cons_of_mem _ kw_618)) (fun _ h => h) rfl rfl kb_Mo_undo_38 ?_
      refine lv_imul hx hb kb_Mo_undo_41 ?_
      refine lv_aload_n hx hb kb_Mo_undo_42 rfl (lv_at hl 0 rfl) ?_
      obtain ⟨hy, r43, hrf, hw⟩ := hw
      refine zr_getR (ci := 8) (f := 833) hx hb hts ki_Mo hown hK hG hy rfl 33 (by decide) (hts _ (List.mem_cons_of_mem _ kw_617)) (fun _ h => h) rfl rfl hrf kb_Mo_undo_43 ?_
      refine lv_aload_n hx hb kb_Mo_undo_46 rfl (lv_at hl 0 rfl) ?_
      obtain ⟨hy, hw⟩ := hw
      refine zr_getI (ci := 8) (f := 834) hx hb hts ki_Mo hown hK hG hy rfl 34 (by decide) (hts _ (List.mem_cons_of_mem _ kw_618)) (fun _ h => h) rfl rfl kb_Mo_undo_47 ?_
      obtain ⟨n50, s50, hy, hi, hw⟩ := hw
      refine zr_iald hx hb hK hG 0 hy rfl hi kb_Mo_undo_50 ?_
      refine lv_iconst (v := (-1 : Int32)) hx hb kb_Mo_undo_51 (by decide) ?_
      obtain ⟨hy, hw⟩ := hw
      refine zr_cv (va_runV (C := kR_Mo) (As := [.ref r31, .int (((300 : Int32)) * (z_I σ26 834 a0)), .int (z_A σ26 s50 r43 (z_I σ26 834 a0).toNatClampNeg), .int ((-1 : Int32))]) (rest := []) ⟨hx, hb, hml, hown, hts⟩ (kc_Mo_sum l D dA Z a0 r31 (((300 : Int32)) * (z_I σ26 834 a0)) (z_A σ26 s50 r43 (z_I σ26 834 a0).toNatClampNeg) ((-1 : Int32)) σ26 _) ⟨callB_of 4 hts (z_gw kw_841) rfl rfl rfl (hts _ (List.mem_cons_of_mem _ kw_9)) (hts _ (List.mem_cons_of_mem _ kw_839)) (by decide +kernel) ⟨Nat.le_of_ble_eq_true rfl, Nat.le_of_ble_eq_true rfl⟩, (hts _ (List.mem_cons_of_mem _ kw_840)), (hts _ (List.mem_cons_of_mem _ kw_986))⟩ (z_preV z_nwN (Nat.le_trans hZ hS.1) hG hK hN hy (ci := 8) (r := (kR_Mo, kT_Mo, 51)) rfl hw) rfl rfl hl.1 rfl (lv_room (Nat.le_of_ble_eq_true rfl)) kb_Mo_undo_52 ⟨Nat.le_of_ble_eq_true rfl, Nat.le_of_ble_eq_true rfl⟩) hS (fun σ52 H locs hw hG hS => ?_)
      refine lv_aload_n hx hb kb_Mo_undo_55 rfl (lv_at hl 0 rfl) ?_
      obtain ⟨hy, hw⟩ := hw
      refine zr_ci (va_runV (C := kR_Mo) (As := []) (rest := []) ⟨hx, hb, hml, hown, hts⟩ (kc_Mo_apply l D dA Z a0 σ52 _) ⟨callB_of 0 hts (z_gw kw_844) rfl rfl rfl (hts _ (List.mem_cons_of_mem _ kw_9)) (hts _ (List.mem_cons_of_mem _ kw_842)) (by decide +kernel) ⟨Nat.le_of_ble_eq_true rfl, Nat.le_of_ble_eq_true rfl⟩, (hts _ (List.mem_cons_of_mem _ kw_843)), (hts _ (List.mem_cons_of_mem _ kw_987))⟩ (z_preV z_nwN (Nat.le_trans hZ hS.1) hG hK hN hy (ci := 8) (r := (kR_Mo, kT_Mo, 51)) rfl hw) rfl rfl hl.1 rfl (lv_room (Nat.le_of_ble_eq_true rfl)) kb_Mo_undo_56 ⟨Nat.le_of_ble_eq_true rfl, Nat.le_of_ble_eq_true rfl⟩) hS (fun r56 σ56 H locs hw hG hS => ?_)
      refine lv_istore_n (lv' := [(1, .int r56), (0, .ref a0)]) hx hb kb_Mo_undo_59 rfl hl (by decide) rfl (fun ls hl => ?_)
      refine lv_aload_n hx hb kb_Mo_undo_60 rfl (lv_at hl 1 rfl) ?_
      obtain ⟨hy, hw⟩ := hw
      refine zr_getI (ci := 8) (f := 836) hx hb hts ki_Mo hown hK hG hy rfl 36 (by decide) (hts _ (List.mem_cons_of_mem _ kw_620)) (fun _ h => h) rfl rfl kb_Mo_undo_61 ?_
      exact zr_iret (free := fun q => Z ≤ q) z_nwN hx hb hr rfl hZ hK hN hG hS hw kb_Mo_undo_64 hlocks
    · have hw := hw.2 hc
      refine lv_iconst (v := (-1 : Int32)) hx hb kb_Mo_undo_17 (by decide) ?_
      exact zr_iret (free := fun q => Z ≤ q) z_nwN hx hb hr rfl hZ hK hN hG hS hw kb_Mo_undo_18 hlocks
  · have hw := hw.2 hc
    refine lv_bipush (v := (-4 : Int32)) hx hb kb_Mo_undo_7 (by decide) ?_
    exact zr_iret (free := fun q => Z ≤ q) z_nwN hx hb hr rfl hZ hK hN hG hS hw kb_Mo_undo_9 hlocks
def kp_Mo_has (a0 : Nat) (x1 : Int32) (x2 : Int32) (x3 : Int32) (x4 : Int32) (σ : z_S) (Post : Int32 → z_S → Prop) : Prop :=     (z_ty σ a0 = some (.inl 8) ∧ ((¬ ((z_I σ 808 a0)) = 0 → z_ty σ a0 = some (.inl 8) ∧ kp_Mo_isRelation a0 x1 σ (fun (r12 : Int32) (σ12 : z_S) => (r12 = 0 → Post ((-2 : Int32)) σ12) ∧ (¬ r12 = 0 → z_ty σ12 a0 = some (.inl 8) ∧ kp_Mo_areValues a0 x1 x2 x3 x4 σ12 (fun (r24 : Int32) (σ24 : z_S) => (¬ r24 = 0 → z_ty σ24 a0 = some (.inl 8) ∧ kp_Mo_given a0 x1 ((1 : Int32)) x3 σ24 (fun (r40 : Int32) (σ40 : z_S) => z_ty σ40 a0 = some (.inl 8) ∧ kp_Mo_given a0 x1 ((2 : Int32)) x4 σ40 (fun (r48 : Int32) (σ48 : z_S) => z_ty σ48 a0 = some (.inl 8) ∧ kp_Mo_find a0 x1 x2 r40 r48 σ48 (fun (r51 : Int32) (σ51 : z_S) => (¬ r51 = ((-1 : Int32)) → z_ty σ51 a0 = some (.inl 8) ∧ ∃ r67, z_R σ51 825 a0 = some r67 ∧ (∃ n77 s77, z_ty σ51 r67 = some (.inr (0, n77, s77)) ∧ vp_in ((((40 : Int32)) * x1) + r51) n77 ∧ (Post (z_A σ51 s77 r67 ((((40 : Int32)) * x1) + r51).toNatClampNeg) σ51))) ∧ (r51 = ((-1 : Int32)) → Post ((0 : Int32)) σ51))))) ∧ (r24 = 0 → Post ((-2 : Int32)) σ24))))) ∧ (((z_I σ 808 a0)) = 0 → Post ((-4 : Int32)) σ)))
set_option maxHeartbeats 4000000 in
set_option maxRecDepth 100000 in
theorem kc_Mo_has (l : Launch) (D : va_G) (dA : Nat → ClassId) (Z : Nat) (a0 : Nat) (x1 : Int32) (x2 : Int32) (x3 : Int32) (x4 : Int32) (σ : z_S) (Post : Int32 → z_S → Prop) : Met l km_Mo_has ks_Mo_has kr_Mo_has (va_Pc [.ref a0, .int x1, .int x2, .int x3, .int x4] (fun U => z_U D z_cl z_KT dA Z (z_tys dA) z_nw σ U ∧ kp_Mo_has  a0 x1 x2 x3 x4 σ Post)) (z_Qi D z_cl z_KT dA Z (z_tys dA) z_nw Post) 0 0 (fun q => Z ≤ q) := by
  refine Met.ofW (cc := prog_10_method_60_code) (maxL := 6) (ret := (some .int)) (by decide) rfl ?_
  intro p e s m args below meth c s₁ B hml hv
  obtain ⟨rfl, ⟨hZ, hG, hK, hN⟩, hw⟩ := hv
  have hx := B.exec
  have hb := B.bytes
  have hr := B.returns
  have hts := atoms_spec (ws := ks_Mo_has) B.pre
  have hown : s.vm.findClass kR_Mo = some m.cls := findClass_of_methodNamed B.named
  have hlocks := B.notSynchronized
  have hS : va_S (fun q => Z ≤ q) s.heap s.heap [] := va_S.rf
  have hl := lv_entry ([.ref a0, .int x1, .int x2, .int x3, .int x4]) (n := 6) (Nat.le_of_ble_eq_true rfl)
  rw [lg_entry_eq]
  generalize (lg_sl ([.ref a0, .int x1, .int x2, .int x3, .int x4]) ++ List.replicate (6 - (lg_sl ([.ref a0, .int x1, .int x2, .int x3, .int x4])).length) Slot.unset).toArray = ls at hl ⊢
  have hl : lv_has ls 6 [(0, .ref a0), (1, .int x1), (2, .int x2), (3, .int x3), (4, .int x4)] := hl
  unfold kp_Mo_has at hw
  refine lv_aload_n hx hb kb_Mo_has_0 rfl (lv_at hl 0 rfl) ?_
  obtain ⟨hy, hw⟩ := hw
  refine zr_getI (ci := 8) (f := 808) hx hb hts ki_Mo hown hK hG hy rfl 8 (by decide) (hts _ (List.mem_cons_of_mem _ kw_592)) (fun _ h => h) rfl rfl kb_Mo_has_1 ?_
  refine lv_if_ne (tgt := 10) hx hb kb_Mo_has_4 (by decide) (fun hc => ?_) (fun hc => ?_)
  · have hw := hw.1 hc
    refine lv_aload_n hx hb kb_Mo_has_10 rfl (lv_at hl 0 rfl) ?_
    refine lv_iload_n hx hb kb_Mo_has_11 rfl (lv_at hl 1 rfl) ?_
    obtain ⟨hy, hw⟩ := hw
    refine zr_ci (va_runV (C := kR_Mo) (As := [.int x1]) (rest := []) ⟨hx, hb, hml, hown, hts⟩ (kc_Mo_isRelation l D dA Z a0 x1 σ _) ⟨callB_of 1 hts (z_gw kw_824) rfl rfl rfl (hts _ (List.mem_cons_of_mem _ kw_9)) (hts _ (List.mem_cons_of_mem _ kw_822)) (by decide +kernel) ⟨Nat.le_of_ble_eq_true rfl, Nat.le_of_ble_eq_true rfl⟩, (hts _ (List.mem_cons_of_mem _ kw_823)), (hts _ (List.mem_cons_of_mem _ kw_983))⟩ (z_preV z_nwN (Nat.le_trans hZ hS.1) hG hK hN hy (ci := 8) (r := (kR_Mo, kT_Mo, 51)) rfl hw) rfl rfl hl.1 rfl (lv_room (Nat.le_of_ble_eq_true rfl)) kb_Mo_has_12 ⟨Nat.le_of_ble_eq_true rfl, Nat.le_of_ble_eq_true rfl⟩) hS (fun r12 σ12 H locs hw hG hS => ?_)
    refine lv_if_eq (tgt := 30) hx hb kb_Mo_has_15 (by decide) (fun hc => ?_) (fun hc => ?_)
    · have hw := hw.1 hc
      refine lv_bipush (v := (-2 : Int32)) hx hb kb_Mo_has_30 (by decide) ?_
      exact zr_iret (free := fun q => Z ≤ q) z_nwN hx hb hr rfl hZ hK hN hG hS hw kb_Mo_has_32 hlocks
    · have hw := hw.2 hc
      refine lv_aload_n hx hb kb_Mo_has_18 rfl (lv_at hl 0 rfl) ?_
      refine lv_iload_n hx hb kb_Mo_has_19 rfl (lv_at hl 1 rfl) ?_
      refine lv_iload_n hx hb kb_Mo_has_20 rfl (lv_at hl 2 rfl) ?_
      refine lv_iload_n hx hb kb_Mo_has_21 rfl (lv_at hl 3 rfl) ?_
      refine lv_iload hx hb kb_Mo_has_22 (lv_at hl 4 rfl) ?_
      obtain ⟨hy, hw⟩ := hw
      refine zr_ci (va_runV (C := kR_Mo) (As := [.int x1, .int x2, .int x3, .int x4]) (rest := []) ⟨hx, hb, hml, hown, hts⟩ (kc_Mo_areValues l D dA Z a0 x1 x2 x3 x4 σ12 _) ⟨callB_of 4 hts (z_gw kw_831) rfl rfl rfl (hts _ (List.mem_cons_of_mem _ kw_9)) (hts _ (List.mem_cons_of_mem _ kw_829)) (by decide +kernel) ⟨Nat.le_of_ble_eq_true rfl, Nat.le_of_ble_eq_true rfl⟩, (hts _ (List.mem_cons_of_mem _ kw_830)), (hts _ (List.mem_cons_of_mem _ kw_984))⟩ (z_preV z_nwN (Nat.le_trans hZ hS.1) hG hK hN hy (ci := 8) (r := (kR_Mo, kT_Mo, 51)) rfl hw) rfl rfl hl.1 rfl (lv_room (Nat.le_of_ble_eq_true rfl)) kb_Mo_has_24 ⟨Nat.le_of_ble_eq_true rfl, Nat.le_of_ble_eq_true rfl⟩) hS (fun r24 σ24 H locs hw hG hS => ?_)
      refine lv_if_ne (tgt := 33) hx hb kb_Mo_has_27 (by decide) (fun hc => ?_) (fun hc => ?_)
      · have hw := hw.1 hc
        refine lv_aload_n hx hb kb_Mo_has_33 rfl (lv_at hl 0 rfl) ?_
        refine lv_iload_n hx hb kb_Mo_has_34 rfl (lv_at hl 1 rfl) ?_
        refine lv_iload_n hx hb kb_Mo_has_35 rfl (lv_at hl 2 rfl) ?_
        refine lv_aload_n hx hb kb_Mo_has_36 rfl (lv_at hl 0 rfl) ?_
        refine lv_iload_n hx hb kb_Mo_has_37 rfl (lv_at hl 1 rfl) ?_
        refine lv_iconst (v := (1 : Int32)) hx hb kb_Mo_has_38 (by decide) ?_
        refine lv_iload_n hx hb kb_Mo_has_39 rfl (lv_at hl 3 rfl) ?_
        obtain ⟨hy, hw⟩ := hw
        refine zr_ci (va_runV (C := kR_Mo) (As := [.int x1, .int ((1 : Int32)), .int x3]) (rest := [.int x2, .int x1, .ref a0]) ⟨hx, hb, hml, hown, hts⟩ (kc_Mo_given l D dA Z a0 x1 ((1 : Int32)) x3 σ24 _) ⟨callB_of 3 hts (z_gw kw_834) rfl rfl rfl (hts _ (List.mem_cons_of_mem _ kw_9)) (hts _ (List.mem_cons_of_mem _ kw_832)) (by decide +kernel) ⟨Nat.le_of_ble_eq_true rfl, Nat.le_of_ble_eq_true rfl⟩, (hts _ (List.mem_cons_of_mem _ kw_833)), (hts _ (List.mem_cons_of_mem _ kw_985))⟩ (z_preV z_nwN (Nat.le_trans hZ hS.1) hG hK hN hy (ci := 8) (r := (kR_Mo, kT_Mo, 51)) rfl hw) rfl rfl hl.1 rfl (lv_room (Nat.le_of_ble_eq_true rfl)) kb_Mo_has_40 ⟨Nat.le_of_ble_eq_true rfl, Nat.le_of_ble_eq_true rfl⟩) hS (fun r40 σ40 H locs hw hG hS => ?_)
        refine lv_aload_n hx hb kb_Mo_has_43 rfl (lv_at hl 0 rfl) ?_
        refine lv_iload_n hx hb kb_Mo_has_44 rfl (lv_at hl 1 rfl) ?_
        refine lv_iconst (v := (2 : Int32)) hx hb kb_Mo_has_45 (by decide) ?_
        refine lv_iload hx hb kb_Mo_has_46 (lv_at hl 4 rfl) ?_
        obtain ⟨hy, hw⟩ := hw
        refine zr_ci (va_runV (C := kR_Mo) (As := [.int x1, .int ((2 : Int32)), .int x4]) (rest := [.int r40, .int x2, .int x1, .ref a0]) ⟨hx, hb, hml, hown, hts⟩ (kc_Mo_given l D dA Z a0 x1 ((2 : Int32)) x4 σ40 _) ⟨callB_of 3 hts (z_gw kw_834) rfl rfl rfl (hts _ (List.mem_cons_of_mem _ kw_9)) (hts _ (List.mem_cons_of_mem _ kw_832)) (by decide +kernel) ⟨Nat.le_of_ble_eq_true rfl, Nat.le_of_ble_eq_true rfl⟩, (hts _ (List.mem_cons_of_mem _ kw_833)), (hts _ (List.mem_cons_of_mem _ kw_985))⟩ (z_preV z_nwN (Nat.le_trans hZ hS.1) hG hK hN hy (ci := 8) (r := (kR_Mo, kT_Mo, 51)) rfl hw) rfl rfl hl.1 rfl (lv_room (Nat.le_of_ble_eq_true rfl)) kb_Mo_has_48 ⟨Nat.le_of_ble_eq_true rfl, Nat.le_of_ble_eq_true rfl⟩) hS (fun r48 σ48 H locs hw hG hS => ?_)
        obtain ⟨hy, hw⟩ := hw
        refine zr_ci (va_runV (C := kR_Mo) (As := [.int x1, .int x2, .int r40, .int r48]) (rest := []) ⟨hx, hb, hml, hown, hts⟩ (kc_Mo_find l D dA Z a0 x1 x2 r40 r48 σ48 _) ⟨callB_of 4 hts (z_gw kw_784) rfl rfl rfl (hts _ (List.mem_cons_of_mem _ kw_9)) (hts _ (List.mem_cons_of_mem _ kw_782)) (by decide +kernel) ⟨Nat.le_of_ble_eq_true rfl, Nat.le_of_ble_eq_true rfl⟩, (hts _ (List.mem_cons_of_mem _ kw_783)), (hts _ (List.mem_cons_of_mem _ kw_975))⟩ (z_preV z_nwN (Nat.le_trans hZ hS.1) hG hK hN hy (ci := 8) (r := (kR_Mo, kT_Mo, 51)) rfl hw) rfl rfl hl.1 rfl (lv_room (Nat.le_of_ble_eq_true rfl)) kb_Mo_has_51 ⟨Nat.le_of_ble_eq_true rfl, Nat.le_of_ble_eq_true rfl⟩) hS (fun r51 σ51 H locs hw hG hS => ?_)
        refine lv_istore (lv' := [(5, .int r51), (0, .ref a0), (1, .int x1), (2, .int x2), (3, .int x3), (4, .int x4)]) hx hb kb_Mo_has_54 hl (by decide) rfl (fun ls hl => ?_)
        refine lv_iload hx hb kb_Mo_has_56 (lv_at hl 0 rfl) ?_
        refine lv_iconst (v := (-1 : Int32)) hx hb kb_Mo_has_58 (by decide) ?_
        refine lv_icmp_ne (tgt := 66) hx hb kb_Mo_has_59 (by decide) (fun hc => ?_) (fun hc => ?_)
        · have hw := hw.1 hc
          refine lv_aload_n hx hb kb_Mo_has_66 rfl (lv_at hl 1 rfl) ?_
          obtain ⟨hy, r67, hrf, hw⟩ := hw
          refine zr_getR (ci := 8) (f := 825) hx hb hts ki_Mo hown hK hG hy rfl 25 (by decide) (hts _ (List.mem_cons_of_mem _ kw_609)) (fun _ h => h) rfl rfl hrf kb_Mo_has_67 ?_
          refine lv_bipush (v := (40 : Int32)) hx hb kb_Mo_has_70 (by decide) ?_
          refine lv_iload_n hx hb kb_Mo_has_72 rfl (lv_at hl 2 rfl) ?_
          refine lv_imul hx hb kb_Mo_has_73 ?_
          refine lv_iload hx hb kb_Mo_has_74 (lv_at hl 0 rfl) ?_
          refine lv_iadd hx hb kb_Mo_has_76 ?_
          obtain ⟨n77, s77, hy, hi, hw⟩ := hw
          refine zr_iald hx hb hK hG 0 hy rfl hi kb_Mo_has_77 ?_
          exact zr_iret (free := fun q => Z ≤ q) z_nwN hx hb hr rfl hZ hK hN hG hS hw kb_Mo_has_78 hlocks
        · have hw := hw.2 hc
          refine lv_iconst (v := (0 : Int32)) hx hb kb_Mo_has_62 (by decide) ?_
          refine lv_goto (tgt := 78) hx hb kb_Mo_has_63 (by decide) ?_
          exact zr_iret (free := fun q => Z ≤ q) z_nwN hx hb hr rfl hZ hK hN hG hS hw kb_Mo_has_78 hlocks
      · have hw := hw.2 hc
        refine lv_bipush (v := (-2 : Int32)) hx hb kb_Mo_has_30 (by decide) ?_
        exact zr_iret (free := fun q => Z ≤ q) z_nwN hx hb hr rfl hZ hK hN hG hS hw kb_Mo_has_32 hlocks
  · have hw := hw.2 hc
    refine lv_bipush (v := (-4 : Int32)) hx hb kb_Mo_has_7 (by decide) ?_
    exact zr_iret (free := fun q => Z ≤ q) z_nwN hx hb hr rfl hZ hK hN hG hS hw kb_Mo_has_9 hlocks
def kp_Mo_row (a0 : Nat) (x1 : Int32) (x2 : Int32) (x3 : Int32) (σ : z_S) (Post : Int32 → z_S → Prop) : Prop :=     (z_ty σ a0 = some (.inl 8) ∧ ((¬ ((z_I σ 808 a0)) = 0 → z_ty σ a0 = some (.inl 8) ∧ kp_Mo_isRelation a0 x1 σ (fun (r12 : Int32) (σ12 : z_S) => (r12 = 0 → Post ((-2 : Int32)) σ12) ∧ (¬ r12 = 0 → kp_Mo_isIn x3 ((0 : Int32)) ((3 : Int32)) σ12 (fun (r21 : Int32) (σ21 : z_S) => (¬ r21 = 0 → z_ty σ21 a0 = some (.inl 8) ∧ ∃ r33, z_R σ21 826 a0 = some r33 ∧ (∃ n37 s37, z_ty σ21 r33 = some (.inr (0, n37, s37)) ∧ vp_in x1 n37 ∧ (kp_Mo_isIn x2 ((0 : Int32)) ((z_A σ21 s37 r33 x1.toNatClampNeg) - ((1 : Int32))) σ21 (fun (r40 : Int32) (σ40 : z_S) => (¬ r40 = 0 → (¬ x3 = ((3 : Int32)) → z_ty σ40 a0 = some (.inl 8) ∧ ∃ r68, z_R σ40 824 a0 = some r68 ∧ (z_ty σ40 a0 = some (.inl 8) ∧ kp_Mo_base a0 x1 x2 σ40 (fun (r74 : Int32) (σ74 : z_S) => ∃ n79 s79, z_ty σ74 r68 = some (.inr (0, n79, s79)) ∧ vp_in (r74 + x3) n79 ∧ (Post (z_A σ74 s79 r68 (r74 + x3).toNatClampNeg) σ74)))) ∧ (x3 = ((3 : Int32)) → z_ty σ40 a0 = some (.inl 8) ∧ ∃ r54, z_R σ40 825 a0 = some r54 ∧ (∃ n63 s63, z_ty σ40 r54 = some (.inr (0, n63, s63)) ∧ vp_in ((((40 : Int32)) * x1) + x2) n63 ∧ (Post (z_A σ40 s63 r54 ((((40 : Int32)) * x1) + x2).toNatClampNeg) σ40)))) ∧ (r40 = 0 → Post ((-1 : Int32)) σ40))))) ∧ (r21 = 0 → Post ((-2 : Int32)) σ21))))) ∧ (((z_I σ 808 a0)) = 0 → Post ((-4 : Int32)) σ)))
set_option maxHeartbeats 4000000 in
set_option maxRecDepth 100000 in
theorem kc_Mo_row (l : Launch) (D : va_G) (dA : Nat → ClassId) (Z : Nat) (a0 : Nat) (x1 : Int32) (x2 : Int32) (x3 : Int32) (σ : z_S) (Post : Int32 → z_S → Prop) : Met l km_Mo_row ks_Mo_row kr_Mo_row (va_Pc [.ref a0, .int x1, .int x2, .int x3] (fun U => z_U D z_cl z_KT dA Z (z_tys dA) z_nw σ U ∧ kp_Mo_row  a0 x1 x2 x3 σ Post)) (z_Qi D z_cl z_KT dA Z (z_tys dA) z_nw Post) 0 0 (fun q => Z ≤ q) := by
  refine Met.ofW (cc := prog_10_method_61_code) (maxL := 4) (ret := (some .int)) (by decide) rfl ?_
  intro p e s m args below meth c s₁ B hml hv
  obtain ⟨rfl, ⟨hZ, hG, hK, hN⟩, hw⟩ := hv
  have hx := B.exec
  have hb := B.bytes
  have hr := B.returns
  have hts := atoms_spec (ws := ks_Mo_row) B.pre
  have hown : s.vm.findClass kR_Mo = some m.cls := findClass_of_methodNamed B.named
  have hlocks := B.notSynchronized
  have hS : va_S (fun q => Z ≤ q) s.heap s.heap [] := va_S.rf
  have hl := lv_entry ([.ref a0, .int x1, .int x2, .int x3]) (n := 4) (Nat.le_of_ble_eq_true rfl)
  rw [lg_entry_eq]
  generalize (lg_sl ([.ref a0, .int x1, .int x2, .int x3]) ++ List.replicate (4 - (lg_sl ([.ref a0, .int x1, .int x2, .int x3])).length) Slot.unset).toArray = ls at hl ⊢
  have hl : lv_has ls 4 [(0, .ref a0), (1, .int x1), (2, .int x2), (3, .int x3)] := hl
  unfold kp_Mo_row at hw
  refine lv_aload_n hx hb kb_Mo_row_0 rfl (lv_at hl 0 rfl) ?_
  obtain ⟨hy, hw⟩ := hw
  refine zr_getI (ci := 8) (f := 808) hx hb hts ki_Mo hown hK hG hy rfl 8 (by decide) (hts _ (List.mem_cons_of_mem _ kw_592)) (fun _ h => h) rfl rfl kb_Mo_row_1 ?_
  refine lv_if_ne (tgt := 10) hx hb kb_Mo_row_4 (by decide) (fun hc => ?_) (fun hc => ?_)
  · have hw := hw.1 hc
    refine lv_aload_n hx hb kb_Mo_row_10 rfl (lv_at hl 0 rfl) ?_
    refine lv_iload_n hx hb kb_Mo_row_11 rfl (lv_at hl 1 rfl) ?_
    obtain ⟨hy, hw⟩ := hw
    refine zr_ci (va_runV (C := kR_Mo) (As := [.int x1]) (rest := []) ⟨hx, hb, hml, hown, hts⟩ (kc_Mo_isRelation l D dA Z a0 x1 σ _) ⟨callB_of 1 hts (z_gw kw_824) rfl rfl rfl (hts _ (List.mem_cons_of_mem _ kw_9)) (hts _ (List.mem_cons_of_mem _ kw_822)) (by decide +kernel) ⟨Nat.le_of_ble_eq_true rfl, Nat.le_of_ble_eq_true rfl⟩, (hts _ (List.mem_cons_of_mem _ kw_823)), (hts _ (List.mem_cons_of_mem _ kw_983))⟩ (z_preV z_nwN (Nat.le_trans hZ hS.1) hG hK hN hy (ci := 8) (r := (kR_Mo, kT_Mo, 51)) rfl hw) rfl rfl hl.1 rfl (lv_room (Nat.le_of_ble_eq_true rfl)) kb_Mo_row_12 ⟨Nat.le_of_ble_eq_true rfl, Nat.le_of_ble_eq_true rfl⟩) hS (fun r12 σ12 H locs hw hG hS => ?_)
    refine lv_if_eq (tgt := 27) hx hb kb_Mo_row_15 (by decide) (fun hc => ?_) (fun hc => ?_)
    · have hw := hw.1 hc
      refine lv_bipush (v := (-2 : Int32)) hx hb kb_Mo_row_27 (by decide) ?_
      exact zr_iret (free := fun q => Z ≤ q) z_nwN hx hb hr rfl hZ hK hN hG hS hw kb_Mo_row_29 hlocks
    · have hw := hw.2 hc
      refine lv_iload_n hx hb kb_Mo_row_18 rfl (lv_at hl 3 rfl) ?_
      refine lv_iconst (v := (0 : Int32)) hx hb kb_Mo_row_19 (by decide) ?_
      refine lv_iconst (v := (3 : Int32)) hx hb kb_Mo_row_20 (by decide) ?_
      refine zr_ci (va_runS (As := [.int x3, .int ((0 : Int32)), .int ((3 : Int32))]) (rest := []) ⟨hx, hb, hml, hown, hts⟩ (kc_Mo_isIn l D dA Z x3 ((0 : Int32)) ((3 : Int32)) σ12 _) ⟨callB_of 3 hts (z_gw kw_693) rfl rfl rfl (hts _ (List.mem_cons_of_mem _ kw_9)) (hts _ (List.mem_cons_of_mem _ kw_691)) (by decide +kernel) ⟨Nat.le_of_ble_eq_true rfl, Nat.le_of_ble_eq_true rfl⟩, (hts _ (List.mem_cons_of_mem _ kw_692))⟩ (z_preS z_nwN (Nat.le_trans hZ hS.1) hG hK hN hw) rfl rfl hl.1 rfl (lv_room (Nat.le_of_ble_eq_true rfl)) kb_Mo_row_21 ⟨Nat.le_of_ble_eq_true rfl, Nat.le_of_ble_eq_true rfl⟩) hS (fun r21 σ21 H locs hw hG hS => ?_)
      refine lv_if_ne (tgt := 30) hx hb kb_Mo_row_24 (by decide) (fun hc => ?_) (fun hc => ?_)
      · have hw := hw.1 hc
        refine lv_iload_n hx hb kb_Mo_row_30 rfl (lv_at hl 2 rfl) ?_
        refine lv_iconst (v := (0 : Int32)) hx hb kb_Mo_row_31 (by decide) ?_
        refine lv_aload_n hx hb kb_Mo_row_32 rfl (lv_at hl 0 rfl) ?_
        obtain ⟨hy, r33, hrf, hw⟩ := hw
        refine zr_getR (ci := 8) (f := 826) hx hb hts ki_Mo hown hK hG hy rfl 26 (by decide) (hts _ (List.mem_cons_of_mem _ kw_610)) (fun _ h => h) rfl rfl hrf kb_Mo_row_33 ?_
        refine lv_iload_n hx hb kb_Mo_row_36 rfl (lv_at hl 1 rfl) ?_
        obtain ⟨n37, s37, hy, hi, hw⟩ := hw
        refine zr_iald hx hb hK hG 0 hy rfl hi kb_Mo_row_37 ?_
        refine lv_iconst (v := (1 : Int32)) hx hb kb_Mo_row_38 (by decide) ?_
        refine lv_isub hx hb kb_Mo_row_39 ?_
        refine zr_ci (va_runS (As := [.int x2, .int ((0 : Int32)), .int ((z_A σ21 s37 r33 x1.toNatClampNeg) - ((1 : Int32)))]) (rest := []) ⟨hx, hb, hml, hown, hts⟩ (kc_Mo_isIn l D dA Z x2 ((0 : Int32)) ((z_A σ21 s37 r33 x1.toNatClampNeg) - ((1 : Int32))) σ21 _) ⟨callB_of 3 hts (z_gw kw_693) rfl rfl rfl (hts _ (List.mem_cons_of_mem _ kw_9)) (hts _ (List.mem_cons_of_mem _ kw_691)) (by decide +kernel) ⟨Nat.le_of_ble_eq_true rfl, Nat.le_of_ble_eq_true rfl⟩, (hts _ (List.mem_cons_of_mem _ kw_692))⟩ (z_preS z_nwN (Nat.le_trans hZ hS.1) hG hK hN hw) rfl rfl hl.1 rfl (lv_room (Nat.le_of_ble_eq_true rfl)) kb_Mo_row_40 ⟨Nat.le_of_ble_eq_true rfl, Nat.le_of_ble_eq_true rfl⟩) hS (fun r40 σ40 H locs hw hG hS => ?_)
        refine lv_if_ne (tgt := 48) hx hb kb_Mo_row_43 (by decide) (fun hc => ?_) (fun hc => ?_)
        · have hw := hw.1 hc
          refine lv_iload_n hx hb kb_Mo_row_48 rfl (lv_at hl 3 rfl) ?_
          refine lv_iconst (v := (3 : Int32)) hx hb kb_Mo_row_49 (by decide) ?_
          refine lv_icmp_ne (tgt := 67) hx hb kb_Mo_row_50 (by decide) (fun hc => ?_) (fun hc => ?_)
          · have hw := hw.1 hc
            refine lv_aload_n hx hb kb_Mo_row_67 rfl (lv_at hl 0 rfl) ?_
            obtain ⟨hy, r68, hrf, hw⟩ := hw
            refine zr_getR (ci := 8) (f := 824) hx hb hts ki_Mo hown hK hG hy rfl 24 (by decide) (hts _ (List.mem_cons_of_mem _ kw_608)) (fun _ h => h) rfl rfl hrf kb_Mo_row_68 ?_
            refine lv_aload_n hx hb kb_Mo_row_71 rfl (lv_at hl 0 rfl) ?_
            refine lv_iload_n hx hb kb_Mo_row_72 rfl (lv_at hl 1 rfl) ?_
            refine lv_iload_n hx hb kb_Mo_row_73 rfl (lv_at hl 2 rfl) ?_
            obtain ⟨hy, hw⟩ := hw
            refine zr_ci (va_runV (C := kR_Mo) (As := [.int x1, .int x2]) (rest := [.ref r68]) ⟨hx, hb, hml, hown, hts⟩ (kc_Mo_base l D dA Z a0 x1 x2 σ40 _) ⟨callB_of 2 hts (z_gw kw_790) rfl rfl rfl (hts _ (List.mem_cons_of_mem _ kw_9)) (hts _ (List.mem_cons_of_mem _ kw_788)) (by decide +kernel) ⟨Nat.le_of_ble_eq_true rfl, Nat.le_of_ble_eq_true rfl⟩, (hts _ (List.mem_cons_of_mem _ kw_789)), (hts _ (List.mem_cons_of_mem _ kw_977))⟩ (z_preV z_nwN (Nat.le_trans hZ hS.1) hG hK hN hy (ci := 8) (r := (kR_Mo, kT_Mo, 51)) rfl hw) rfl rfl hl.1 rfl (lv_room (Nat.le_of_ble_eq_true rfl)) kb_Mo_row_74 ⟨Nat.le_of_ble_eq_true rfl, Nat.le_of_ble_eq_true rfl⟩) hS (fun r74 σ74 H locs hw hG hS => ?_)
            refine lv_iload_n hx hb kb_Mo_row_77 rfl (lv_at hl 3 rfl) ?_
            refine lv_iadd hx hb kb_Mo_row_78 ?_
            obtain ⟨n79, s79, hy, hi, hw⟩ := hw
            refine zr_iald hx hb hK hG 0 hy rfl hi kb_Mo_row_79 ?_
            exact zr_iret (free := fun q => Z ≤ q) z_nwN hx hb hr rfl hZ hK hN hG hS hw kb_Mo_row_80 hlocks
          · have hw := hw.2 hc
            refine lv_aload_n hx hb kb_Mo_row_53 rfl (lv_at hl 0 rfl) ?_
            obtain ⟨hy, r54, hrf, hw⟩ := hw
            refine zr_getR (ci := 8) (f := 825) hx hb hts ki_Mo hown hK hG hy rfl 25 (by decide) (hts _ (List.mem_cons_of_mem _ kw_609)) (fun _ h => h) rfl rfl hrf kb_Mo_row_54 ?_
            refine lv_bipush (v := (40 : Int32)) hx hb kb_Mo_row_57 (by decide) ?_
            refine lv_iload_n hx hb kb_Mo_row_59 rfl (lv_at hl 1 rfl) ?_
            refine lv_imul hx hb kb_Mo_row_60 ?_
            refine lv_iload_n hx hb kb_Mo_row_61 rfl (lv_at hl 2 rfl) ?_
            refine lv_iadd hx hb kb_Mo_row_62 ?_
            obtain ⟨n63, s63, hy, hi, hw⟩ := hw
            refine zr_iald hx hb hK hG 0 hy rfl hi kb_Mo_row_63 ?_
            refine lv_goto (tgt := 80) hx hb kb_Mo_row_64 (by decide) ?_
            exact zr_iret (free := fun q => Z ≤ q) z_nwN hx hb hr rfl hZ hK hN hG hS hw kb_Mo_row_80 hlocks
        · have hw := hw.2 hc
          refine lv_iconst (v := (-1 : Int32)) hx hb kb_Mo_row_46 (by decide) ?_
          exact zr_iret (free := fun q => Z ≤ q) z_nwN hx hb hr rfl hZ hK hN hG hS hw kb_Mo_row_47 hlocks
      · have hw := hw.2 hc
        refine lv_bipush (v := (-2 : Int32)) hx hb kb_Mo_row_27 (by decide) ?_
        exact zr_iret (free := fun q => Z ≤ q) z_nwN hx hb hr rfl hZ hK hN hG hS hw kb_Mo_row_29 hlocks
  · have hw := hw.2 hc
    refine lv_bipush (v := (-4 : Int32)) hx hb kb_Mo_row_7 (by decide) ?_
    exact zr_iret (free := fun q => Z ≤ q) z_nwN hx hb hr rfl hZ hK hN hG hS hw kb_Mo_row_9 hlocks
