def kp_Vr_isValue (x1 : Int32) (σ : z_S) (Post : Int32 → z_S → Prop) : Prop :=     ((x1 < 0 → Post ((0 : Int32)) σ) ∧ (¬ x1 < 0 → (((999 : Int32)) < x1 → Post ((0 : Int32)) σ) ∧ (¬ ((999 : Int32)) < x1 → Post ((1 : Int32)) σ)))
set_option maxHeartbeats 4000000 in
set_option maxRecDepth 100000 in
theorem kc_Vr_isValue (l : Launch) (D : va_G) (dA : Nat → ClassId) (Z : Nat) (x1 : Int32) (σ : z_S) (Post : Int32 → z_S → Prop) : Met l km_Vr_isValue ks_Vr_isValue kr_Vr_isValue (va_Pc [.int x1] (fun U => z_U D z_cl z_KT dA Z (z_tys dA) z_nw σ U ∧ kp_Vr_isValue  x1 σ Post)) (z_Qi D z_cl z_KT dA Z (z_tys dA) z_nw Post) 0 0 (fun q => Z ≤ q) := by
  refine Met.ofW (cc := prog_1_method_32_code) (maxL := 1) (ret := (some .boolean)) (by decide) rfl ?_
  intro p e s m args below meth c s₁ B hml hv
  obtain ⟨rfl, ⟨hZ, hG, hK, hN⟩, hw⟩ := hv
  have hx := B.exec
  have hb := B.bytes
  have hr := B.returns
  have hts := atoms_spec (ws := ks_Vr_isValue) B.pre
  have hown : s.vm.findClass kR_Vr = some m.cls := findClass_of_methodNamed B.named
  have hlocks := B.notSynchronized
  have hS : va_S (fun q => Z ≤ q) s.heap s.heap [] := va_S.rf
  have hl := lv_entry ([.int x1]) (n := 1) (Nat.le_of_ble_eq_true rfl)
  rw [lg_entry_eq]
  generalize (lg_sl ([.int x1]) ++ List.replicate (1 - (lg_sl ([.int x1])).length) Slot.unset).toArray = ls at hl ⊢
  have hl : lv_has ls 1 [(0, .int x1)] := hl
  unfold kp_Vr_isValue at hw
  refine lv_iload_n hx hb kb_Vr_isValue_0 rfl (lv_at hl 0 rfl) ?_
  refine lv_if_lt (tgt := 15) hx hb kb_Vr_isValue_1 (by decide) (fun hc => ?_) (fun hc => ?_)
  · have hw := hw.1 hc
    refine lv_iconst (v := (0 : Int32)) hx hb kb_Vr_isValue_15 (by decide) ?_
    exact zr_iret (free := fun q => Z ≤ q) z_nwN hx hb hr rfl hZ hK hN hG hS hw kb_Vr_isValue_16 hlocks
  · have hw := hw.2 hc
    refine lv_iload_n hx hb kb_Vr_isValue_4 rfl (lv_at hl 0 rfl) ?_
    refine lv_sipush (v := (999 : Int32)) hx hb kb_Vr_isValue_5 (by decide) ?_
    refine lv_icmp_gt (tgt := 15) hx hb kb_Vr_isValue_8 (by decide) (fun hc => ?_) (fun hc => ?_)
    · have hw := hw.1 hc
      refine lv_iconst (v := (0 : Int32)) hx hb kb_Vr_isValue_15 (by decide) ?_
      exact zr_iret (free := fun q => Z ≤ q) z_nwN hx hb hr rfl hZ hK hN hG hS hw kb_Vr_isValue_16 hlocks
    · have hw := hw.2 hc
      refine lv_iconst (v := (1 : Int32)) hx hb kb_Vr_isValue_11 (by decide) ?_
      refine lv_goto (tgt := 16) hx hb kb_Vr_isValue_12 (by decide) ?_
      exact zr_iret (free := fun q => Z ≤ q) z_nwN hx hb hr rfl hZ hK hN hG hS hw kb_Vr_isValue_16 hlocks
def kp_Vr_pack (x1 : Int32) (x2 : Int32) (x3 : Int32) (x4 : Int32) (σ : z_S) (Post : Int32 → z_S → Prop) : Prop := ∀ (X10 : Int32 → z_S → Prop) (X22 : Int32 → Int32 → z_S → Prop) (X52 : Int32 → Int32 → Int32 → z_S → Prop),
    (∀ (t0 : Int32) (σ : z_S), ((x1 ≤ ((2 : Int32)) → X22 t0 ((0 : Int32)) σ) ∧ (¬ x1 ≤ ((2 : Int32)) → X22 t0 x4 σ)) → X10 t0 σ) →
    (∀ (v4 : Int32) (t0 : Int32) (σ : z_S), (kp_Vr_isValue x2 σ (fun (r25 : Int32) (σ25 : z_S) => (r25 = 0 → X52 v4 t0 ((0 : Int32)) σ25) ∧ (¬ r25 = 0 → kp_Vr_isValue v4 σ25 (fun (r33 : Int32) (σ33 : z_S) => (r33 = 0 → X52 v4 t0 ((0 : Int32)) σ33) ∧ (¬ r33 = 0 → kp_Vr_isValue t0 σ33 (fun (r41 : Int32) (σ41 : z_S) => (r41 = 0 → X52 v4 t0 ((0 : Int32)) σ41) ∧ (¬ r41 = 0 → X52 v4 t0 ((1 : Int32)) σ41))))))) → X22 v4 t0 σ) →
    (∀ (v4 : Int32) (v5 : Int32) (t0 : Int32) (σ : z_S), ((t0 = 0 → Post ((-1 : Int32)) σ) ∧ (¬ t0 = 0 → Post (((x2 * ((1000000 : Int32))) + (v4 * ((1000 : Int32)))) + v5) σ)) → X52 v4 v5 t0 σ) →
    ((x1 ≤ ((1 : Int32)) → X10 ((0 : Int32)) σ) ∧ (¬ x1 ≤ ((1 : Int32)) → X10 x3 σ))
set_option maxHeartbeats 4000000 in
set_option maxRecDepth 100000 in
theorem kc_Vr_pack (l : Launch) (D : va_G) (dA : Nat → ClassId) (Z : Nat) (x1 : Int32) (x2 : Int32) (x3 : Int32) (x4 : Int32) (σ : z_S) (Post : Int32 → z_S → Prop) : Met l km_Vr_pack ks_Vr_pack kr_Vr_pack (va_Pc [.int x1, .int x2, .int x3, .int x4] (fun U => z_U D z_cl z_KT dA Z (z_tys dA) z_nw σ U ∧ kp_Vr_pack  x1 x2 x3 x4 σ Post)) (z_Qi D z_cl z_KT dA Z (z_tys dA) z_nw Post) 0 0 (fun q => Z ≤ q) := by
  refine Met.ofW (cc := prog_1_method_31_code) (maxL := 7) (ret := (some .int)) (by decide) rfl ?_
  intro p e s m args below meth c s₁ B hml hv
  obtain ⟨rfl, ⟨hZ, hG, hK, hN⟩, hw⟩ := hv
  have hx := B.exec
  have hb := B.bytes
  have hr := B.returns
  have hts := atoms_spec (ws := ks_Vr_pack) B.pre
  have hown : s.vm.findClass kR_Vr = some m.cls := findClass_of_methodNamed B.named
  have hlocks := B.notSynchronized
  have hS : va_S (fun q => Z ≤ q) s.heap s.heap [] := va_S.rf
  have hl := lv_entry ([.int x1, .int x2, .int x3, .int x4]) (n := 7) (Nat.le_of_ble_eq_true rfl)
  rw [lg_entry_eq]
  generalize (lg_sl ([.int x1, .int x2, .int x3, .int x4]) ++ List.replicate (7 - (lg_sl ([.int x1, .int x2, .int x3, .int x4])).length) Slot.unset).toArray = ls at hl ⊢
  have hl : lv_has ls 7 [(0, .int x1), (1, .int x2), (2, .int x3), (3, .int x4)] := hl
  unfold kp_Vr_pack at hw
  have hw := hw (fun (t0 : Int32) (σ : z_S) => ∀ (H : Heap) (locs : List Loc) (ls : Array Slot), z_G D z_cl z_KT dA Z σ H → va_S (fun q => Z ≤ q) s.heap H locs → lv_has ls 7 [(0, .int x1), (1, .int x2), (3, .int x4)] → W p l e (headSpec ks_Vr_pack kr_Vr_pack).room s m ([.int x1, .int x2, .int x3, .int x4] : List Value).toArray below meth c H locs 0 0 (MQ below (z_Qi D z_cl z_KT dA Z (z_tys dA) z_nw Post) ([.int x1, .int x2, .int x3, .int x4] : List Value).toArray s 0 0 (fun q => Z ≤ q)) (F0 m 10 ls [.int t0]))
  have hw := hw (fun (v4 : Int32) (t0 : Int32) (σ : z_S) => ∀ (H : Heap) (locs : List Loc) (ls : Array Slot), z_G D z_cl z_KT dA Z σ H → va_S (fun q => Z ≤ q) s.heap H locs → lv_has ls 7 [(1, .int x2), (4, .int v4)] → W p l e (headSpec ks_Vr_pack kr_Vr_pack).room s m ([.int x1, .int x2, .int x3, .int x4] : List Value).toArray below meth c H locs 0 0 (MQ below (z_Qi D z_cl z_KT dA Z (z_tys dA) z_nw Post) ([.int x1, .int x2, .int x3, .int x4] : List Value).toArray s 0 0 (fun q => Z ≤ q)) (F0 m 22 ls [.int t0]))
  have hw := hw (fun (v4 : Int32) (v5 : Int32) (t0 : Int32) (σ : z_S) => ∀ (H : Heap) (locs : List Loc) (ls : Array Slot), z_G D z_cl z_KT dA Z σ H → va_S (fun q => Z ≤ q) s.heap H locs → lv_has ls 7 [(1, .int x2), (4, .int v4), (5, .int v5)] → W p l e (headSpec ks_Vr_pack kr_Vr_pack).room s m ([.int x1, .int x2, .int x3, .int x4] : List Value).toArray below meth c H locs 0 0 (MQ below (z_Qi D z_cl z_KT dA Z (z_tys dA) z_nw Post) ([.int x1, .int x2, .int x3, .int x4] : List Value).toArray s 0 0 (fun q => Z ≤ q)) (F0 m 52 ls [.int t0]))
  have hw := hw (by
    intro t0 σ hw H locs ls hG hS hl
    refine lv_istore (lv' := [(4, .int t0), (0, .int x1), (1, .int x2), (3, .int x4)]) hx hb kb_Vr_pack_10 hl (by decide) rfl (fun ls hl => ?_)
    refine lv_iload_n hx hb kb_Vr_pack_12 rfl (lv_at hl 1 rfl) ?_
    refine lv_iconst (v := (2 : Int32)) hx hb kb_Vr_pack_13 (by decide) ?_
    refine lv_icmp_le (tgt := 21) hx hb kb_Vr_pack_14 (by decide) (fun hc => ?_) (fun hc => ?_)
    · have hw := hw.1 hc
      refine lv_iconst (v := (0 : Int32)) hx hb kb_Vr_pack_21 (by decide) ?_
      exact hw _ _ _ hG hS (lv_sub hl [2, 0] rfl)
    · have hw := hw.2 hc
      refine lv_iload_n hx hb kb_Vr_pack_17 rfl (lv_at hl 3 rfl) ?_
      refine lv_goto (tgt := 22) hx hb kb_Vr_pack_18 (by decide) ?_
      exact hw _ _ _ hG hS (lv_sub hl [2, 0] rfl))
  have hw := hw (by
    intro v4 t0 σ hw H locs ls hG hS hl
    refine lv_istore (lv' := [(5, .int t0), (1, .int x2), (4, .int v4)]) hx hb kb_Vr_pack_22 hl (by decide) rfl (fun ls hl => ?_)
    refine lv_iload_n hx hb kb_Vr_pack_24 rfl (lv_at hl 1 rfl) ?_
    refine zr_ci (va_runS (As := [.int x2]) (rest := []) ⟨hx, hb, hml, hown, hts⟩ (kc_Vr_isValue l D dA Z x2 σ _) ⟨callB_of 1 hts (z_gw kw_491) rfl rfl rfl (hts _ (List.mem_cons_of_mem _ kw_1)) (hts _ (List.mem_cons_of_mem _ kw_489)) (by decide +kernel) ⟨Nat.le_of_ble_eq_true rfl, Nat.le_of_ble_eq_true rfl⟩, (hts _ (List.mem_cons_of_mem _ kw_490))⟩ (z_preS z_nwN (Nat.le_trans hZ hS.1) hG hK hN hw) rfl rfl hl.1 rfl (lv_room (Nat.le_of_ble_eq_true rfl)) kb_Vr_pack_25 ⟨Nat.le_of_ble_eq_true rfl, Nat.le_of_ble_eq_true rfl⟩) hS (fun r25 σ25 H locs hw hG hS => ?_)
    refine lv_if_eq (tgt := 51) hx hb kb_Vr_pack_28 (by decide) (fun hc => ?_) (fun hc => ?_)
    · have hw := hw.1 hc
      refine lv_iconst (v := (0 : Int32)) hx hb kb_Vr_pack_51 (by decide) ?_
      exact hw _ _ _ hG hS (lv_sub hl [1, 2, 0] rfl)
    · have hw := hw.2 hc
      refine lv_iload hx hb kb_Vr_pack_31 (lv_at hl 2 rfl) ?_
      refine zr_ci (va_runS (As := [.int v4]) (rest := []) ⟨hx, hb, hml, hown, hts⟩ (kc_Vr_isValue l D dA Z v4 σ25 _) ⟨callB_of 1 hts (z_gw kw_491) rfl rfl rfl (hts _ (List.mem_cons_of_mem _ kw_1)) (hts _ (List.mem_cons_of_mem _ kw_489)) (by decide +kernel) ⟨Nat.le_of_ble_eq_true rfl, Nat.le_of_ble_eq_true rfl⟩, (hts _ (List.mem_cons_of_mem _ kw_490))⟩ (z_preS z_nwN (Nat.le_trans hZ hS.1) hG hK hN hw) rfl rfl hl.1 rfl (lv_room (Nat.le_of_ble_eq_true rfl)) kb_Vr_pack_33 ⟨Nat.le_of_ble_eq_true rfl, Nat.le_of_ble_eq_true rfl⟩) hS (fun r33 σ33 H locs hw hG hS => ?_)
      refine lv_if_eq (tgt := 51) hx hb kb_Vr_pack_36 (by decide) (fun hc => ?_) (fun hc => ?_)
      · have hw := hw.1 hc
        refine lv_iconst (v := (0 : Int32)) hx hb kb_Vr_pack_51 (by decide) ?_
        exact hw _ _ _ hG hS (lv_sub hl [1, 2, 0] rfl)
      · have hw := hw.2 hc
        refine lv_iload hx hb kb_Vr_pack_39 (lv_at hl 0 rfl) ?_
        refine zr_ci (va_runS (As := [.int t0]) (rest := []) ⟨hx, hb, hml, hown, hts⟩ (kc_Vr_isValue l D dA Z t0 σ33 _) ⟨callB_of 1 hts (z_gw kw_491) rfl rfl rfl (hts _ (List.mem_cons_of_mem _ kw_1)) (hts _ (List.mem_cons_of_mem _ kw_489)) (by decide +kernel) ⟨Nat.le_of_ble_eq_true rfl, Nat.le_of_ble_eq_true rfl⟩, (hts _ (List.mem_cons_of_mem _ kw_490))⟩ (z_preS z_nwN (Nat.le_trans hZ hS.1) hG hK hN hw) rfl rfl hl.1 rfl (lv_room (Nat.le_of_ble_eq_true rfl)) kb_Vr_pack_41 ⟨Nat.le_of_ble_eq_true rfl, Nat.le_of_ble_eq_true rfl⟩) hS (fun r41 σ41 H locs hw hG hS => ?_)
        refine lv_if_eq (tgt := 51) hx hb kb_Vr_pack_44 (by decide) (fun hc => ?_) (fun hc => ?_)
        · have hw := hw.1 hc
          refine lv_iconst (v := (0 : Int32)) hx hb kb_Vr_pack_51 (by decide) ?_
          exact hw _ _ _ hG hS (lv_sub hl [1, 2, 0] rfl)
        · have hw := hw.2 hc
          refine lv_iconst (v := (1 : Int32)) hx hb kb_Vr_pack_47 (by decide) ?_
          refine lv_goto (tgt := 52) hx hb kb_Vr_pack_48 (by decide) ?_
          exact hw _ _ _ hG hS (lv_sub hl [1, 2, 0] rfl))
  have hw := hw (by
    intro v4 v5 t0 σ hw H locs ls hG hS hl
    refine lv_istore (lv' := [(6, .int t0), (1, .int x2), (4, .int v4), (5, .int v5)]) hx hb kb_Vr_pack_52 hl (by decide) rfl (fun ls hl => ?_)
    refine lv_iload hx hb kb_Vr_pack_54 (lv_at hl 0 rfl) ?_
    refine lv_if_eq (tgt := 76) hx hb kb_Vr_pack_56 (by decide) (fun hc => ?_) (fun hc => ?_)
    · have hw := hw.1 hc
      refine lv_iconst (v := (-1 : Int32)) hx hb kb_Vr_pack_76 (by decide) ?_
      exact zr_iret (free := fun q => Z ≤ q) z_nwN hx hb hr rfl hZ hK hN hG hS hw kb_Vr_pack_77 hlocks
    · have hw := hw.2 hc
      refine lv_iload_n hx hb kb_Vr_pack_59 rfl (lv_at hl 1 rfl) ?_
      refine lv_ldc (v := (1000000 : Int32)) hx hb hown (hts _ (List.mem_cons_of_mem _ kw_413)) kb_Vr_pack_60 ?_
      refine lv_imul hx hb kb_Vr_pack_62 ?_
      refine lv_iload hx hb kb_Vr_pack_63 (lv_at hl 2 rfl) ?_
      refine lv_sipush (v := (1000 : Int32)) hx hb kb_Vr_pack_65 (by decide) ?_
      refine lv_imul hx hb kb_Vr_pack_68 ?_
      refine lv_iadd hx hb kb_Vr_pack_69 ?_
      refine lv_iload hx hb kb_Vr_pack_70 (lv_at hl 3 rfl) ?_
      refine lv_iadd hx hb kb_Vr_pack_72 ?_
      refine lv_goto (tgt := 77) hx hb kb_Vr_pack_73 (by decide) ?_
      exact zr_iret (free := fun q => Z ≤ q) z_nwN hx hb hr rfl hZ hK hN hG hS hw kb_Vr_pack_77 hlocks)
  refine lv_iload_n hx hb kb_Vr_pack_0 rfl (lv_at hl 0 rfl) ?_
  refine lv_iconst (v := (1 : Int32)) hx hb kb_Vr_pack_1 (by decide) ?_
  refine lv_icmp_le (tgt := 9) hx hb kb_Vr_pack_2 (by decide) (fun hc => ?_) (fun hc => ?_)
  · have hw := hw.1 hc
    refine lv_iconst (v := (0 : Int32)) hx hb kb_Vr_pack_9 (by decide) ?_
    exact hw _ _ _ hG hS (lv_sub hl [0, 1, 3] rfl)
  · have hw := hw.2 hc
    refine lv_iload_n hx hb kb_Vr_pack_5 rfl (lv_at hl 2 rfl) ?_
    refine lv_goto (tgt := 10) hx hb kb_Vr_pack_6 (by decide) ?_
    exact hw _ _ _ hG hS (lv_sub hl [0, 1, 3] rfl)
def kp_Vr_change (a0 : Nat) (x1 : Int32) (x2 : Int32) (x3 : Int32) (x4 : Int32) (x5 : Int32) (σ : z_S) (Post : Int32 → z_S → Prop) : Prop := ∀ (X47 : z_S → Prop),
    (∀ (σ : z_S), (z_ty σ a0 = some (.inl 7) ∧ ∃ r48, z_R σ 705 a0 = some r48 ∧ (z_ty σ r48 = some (.inl 2) ∧ ∃ r51, z_R σ 203 r48 = some r51 ∧ (∃ n55 s55, z_ty σ r51 = some (.inr (0, n55, s55)) ∧ vp_in x1 n55 ∧ (kp_Vr_pack (z_A σ s55 r51 x1.toNatClampNeg) x2 x3 x4 σ (fun (r60 : Int32) (σ60 : z_S) => (0 ≤ r60 → z_ty σ60 a0 = some (.inl 7) ∧ ∃ r74, z_R σ60 708 a0 = some r74 ∧ (z_ty σ60 r74 = some (.inl 6) ∧ (((z_I σ60 603 r74) < ((60 : Int32)) → z_ty σ60 a0 = some (.inl 7) ∧ ∃ r89, z_R σ60 708 a0 = some r89 ∧ (z_ty σ60 r89 = some (.inl 6) ∧ kp_Si_append r89 x1 r60 x5 σ60 (fun (σ97 : z_S) => z_ty σ97 a0 = some (.inl 7) ∧ ∃ r101, z_R σ97 708 a0 = some r101 ∧ (z_ty σ97 r101 = some (.inl 6) ∧ (Post (z_I σ97 603 r101) σ97))))) ∧ (¬ (z_I σ60 603 r74) < ((60 : Int32)) → Post ((-3 : Int32)) σ60)))) ∧ (¬ 0 ≤ r60 → Post ((-2 : Int32)) σ60)))))) → X47 σ) →
    (z_ty σ a0 = some (.inl 7) ∧ kp_Vr_hasNoRules a0 σ (fun (r1 : Int32) (σ1 : z_S) => (r1 = 0 → z_ty σ1 a0 = some (.inl 7) ∧ ∃ r11, z_R σ1 705 a0 = some r11 ∧ (z_ty σ1 r11 = some (.inl 2) ∧ kp_Pr_isRelation r11 x1 σ1 (fun (r15 : Int32) (σ15 : z_S) => (r15 = 0 → Post ((-2 : Int32)) σ15) ∧ (¬ r15 = 0 → z_ty σ15 a0 = some (.inl 7) ∧ ∃ r22, z_R σ15 705 a0 = some r22 ∧ (z_ty σ15 r22 = some (.inl 2) ∧ kp_Pr_isView r22 x1 σ15 (fun (r26 : Int32) (σ26 : z_S) => (¬ r26 = 0 → Post ((-2 : Int32)) σ26) ∧ (r26 = 0 → (x5 = ((1 : Int32)) → X47 σ26) ∧ (¬ x5 = ((1 : Int32)) → (x5 = ((-1 : Int32)) → X47 σ26) ∧ (¬ x5 = ((-1 : Int32)) → Post ((-2 : Int32)) σ26))))))))) ∧ (¬ r1 = 0 → Post ((-4 : Int32)) σ1)))
set_option maxHeartbeats 4000000 in
set_option maxRecDepth 100000 in
theorem kc_Vr_change (l : Launch) (D : va_G) (dA : Nat → ClassId) (Z : Nat) (a0 : Nat) (x1 : Int32) (x2 : Int32) (x3 : Int32) (x4 : Int32) (x5 : Int32) (σ : z_S) (Post : Int32 → z_S → Prop) : Met l km_Vr_change ks_Vr_change kr_Vr_change (va_Pc [.ref a0, .int x1, .int x2, .int x3, .int x4, .int x5] (fun U => z_U D z_cl z_KT dA Z (z_tys dA) z_nw σ U ∧ kp_Vr_change  a0 x1 x2 x3 x4 x5 σ Post)) (z_Qi D z_cl z_KT dA Z (z_tys dA) z_nw Post) 0 0 (fun q => Z ≤ q) := by
  refine Met.ofW (cc := prog_1_method_8_code) (maxL := 7) (ret := (some .int)) (by decide) rfl ?_
  intro p e s m args below meth c s₁ B hml hv
  obtain ⟨rfl, ⟨hZ, hG, hK, hN⟩, hw⟩ := hv
  have hx := B.exec
  have hb := B.bytes
  have hr := B.returns
  have hts := atoms_spec (ws := ks_Vr_change) B.pre
  have hown : s.vm.findClass kR_Vr = some m.cls := findClass_of_methodNamed B.named
  have hlocks := B.notSynchronized
  have hS : va_S (fun q => Z ≤ q) s.heap s.heap [] := va_S.rf
  have hl := lv_entry ([.ref a0, .int x1, .int x2, .int x3, .int x4, .int x5]) (n := 7) (Nat.le_of_ble_eq_true rfl)
  rw [lg_entry_eq]
  generalize (lg_sl ([.ref a0, .int x1, .int x2, .int x3, .int x4, .int x5]) ++ List.replicate (7 - (lg_sl ([.ref a0, .int x1, .int x2, .int x3, .int x4, .int x5])).length) Slot.unset).toArray = ls at hl ⊢
  have hl : lv_has ls 7 [(0, .ref a0), (1, .int x1), (2, .int x2), (3, .int x3), (4, .int x4), (5, .int x5)] := hl
  unfold kp_Vr_change at hw
  have hw := hw (fun (σ : z_S) => ∀ (H : Heap) (locs : List Loc) (ls : Array Slot), z_G D z_cl z_KT dA Z σ H → va_S (fun q => Z ≤ q) s.heap H locs → lv_has ls 7 [(0, .ref a0), (1, .int x1), (2, .int x2), (3, .int x3), (4, .int x4), (5, .int x5)] → W p l e (headSpec ks_Vr_change kr_Vr_change).room s m ([.ref a0, .int x1, .int x2, .int x3, .int x4, .int x5] : List Value).toArray below meth c H locs 0 0 (MQ below (z_Qi D z_cl z_KT dA Z (z_tys dA) z_nw Post) ([.ref a0, .int x1, .int x2, .int x3, .int x4, .int x5] : List Value).toArray s 0 0 (fun q => Z ≤ q)) (F0 m 47 ls []))
  have hw := hw (by
    intro σ hw H locs ls hG hS hl
    refine lv_aload_n hx hb kb_Vr_change_47 rfl (lv_at hl 0 rfl) ?_
    obtain ⟨hy, r48, hrf, hw⟩ := hw
    refine zr_getR (ci := 7) (f := 705) hx hb hts ki_Vr hown hK hG hy rfl 5 (by decide) (hts _ (List.mem_cons_of_mem _ kw_200)) (fun _ h => h) rfl rfl hrf kb_Vr_change_48 ?_
    obtain ⟨hy, r51, hrf, hw⟩ := hw
    refine zr_getR (ci := 2) (f := 203) hx hb hts ki_Pr hown hK hG hy rfl 3 (by decide) (hts _ (List.mem_cons_of_mem _ kw_35)) (fun _ h => h) rfl rfl hrf kb_Vr_change_51 ?_
    refine lv_iload_n hx hb kb_Vr_change_54 rfl (lv_at hl 1 rfl) ?_
    obtain ⟨n55, s55, hy, hi, hw⟩ := hw
    refine zr_iald hx hb hK hG 0 hy rfl hi kb_Vr_change_55 ?_
    refine lv_iload_n hx hb kb_Vr_change_56 rfl (lv_at hl 2 rfl) ?_
    refine lv_iload_n hx hb kb_Vr_change_57 rfl (lv_at hl 3 rfl) ?_
    refine lv_iload hx hb kb_Vr_change_58 (lv_at hl 4 rfl) ?_
    refine zr_ci (va_runS (As := [.int (z_A σ s55 r51 x1.toNatClampNeg), .int x2, .int x3, .int x4]) (rest := []) ⟨hx, hb, hml, hown, hts⟩ (kc_Vr_pack l D dA Z (z_A σ s55 r51 x1.toNatClampNeg) x2 x3 x4 σ _) ⟨callB_of 4 hts (z_gw kw_488) rfl rfl rfl (hts _ (List.mem_cons_of_mem _ kw_1)) (hts _ (List.mem_cons_of_mem _ kw_486)) (by decide +kernel) ⟨Nat.le_of_ble_eq_true rfl, Nat.le_of_ble_eq_true rfl⟩, (hts _ (List.mem_cons_of_mem _ kw_487))⟩ (z_preS z_nwN (Nat.le_trans hZ hS.1) hG hK hN hw) rfl rfl hl.1 rfl (lv_room (Nat.le_of_ble_eq_true rfl)) kb_Vr_change_60 ⟨Nat.le_of_ble_eq_true rfl, Nat.le_of_ble_eq_true rfl⟩) hS (fun r60 σ60 H locs hw hG hS => ?_)
    refine lv_istore (lv' := [(6, .int r60), (0, .ref a0), (1, .int x1), (2, .int x2), (3, .int x3), (4, .int x4), (5, .int x5)]) hx hb kb_Vr_change_63 hl (by decide) rfl (fun ls hl => ?_)
    refine lv_iload hx hb kb_Vr_change_65 (lv_at hl 0 rfl) ?_
    refine lv_if_ge (tgt := 73) hx hb kb_Vr_change_67 (by decide) (fun hc => ?_) (fun hc => ?_)
    · have hw := hw.1 hc
      refine lv_aload_n hx hb kb_Vr_change_73 rfl (lv_at hl 1 rfl) ?_
      obtain ⟨hy, r74, hrf, hw⟩ := hw
      refine zr_getR (ci := 7) (f := 708) hx hb hts ki_Vr hown hK hG hy rfl 8 (by decide) (hts _ (List.mem_cons_of_mem _ kw_203)) (fun _ h => h) rfl rfl hrf kb_Vr_change_74 ?_
      obtain ⟨hy, hw⟩ := hw
      refine zr_getI (ci := 6) (f := 603) hx hb hts ki_Si hown hK hG hy rfl 3 (by decide) (hts _ (List.mem_cons_of_mem _ kw_82)) (fun _ h => h) rfl rfl kb_Vr_change_77 ?_
      refine lv_bipush (v := (60 : Int32)) hx hb kb_Vr_change_80 (by decide) ?_
      refine lv_icmp_lt (tgt := 88) hx hb kb_Vr_change_82 (by decide) (fun hc => ?_) (fun hc => ?_)
      · have hw := hw.1 hc
        refine lv_aload_n hx hb kb_Vr_change_88 rfl (lv_at hl 1 rfl) ?_
        obtain ⟨hy, r89, hrf, hw⟩ := hw
        refine zr_getR (ci := 7) (f := 708) hx hb hts ki_Vr hown hK hG hy rfl 8 (by decide) (hts _ (List.mem_cons_of_mem _ kw_203)) (fun _ h => h) rfl rfl hrf kb_Vr_change_89 ?_
        refine lv_iload_n hx hb kb_Vr_change_92 rfl (lv_at hl 2 rfl) ?_
        refine lv_iload hx hb kb_Vr_change_93 (lv_at hl 0 rfl) ?_
        refine lv_iload hx hb kb_Vr_change_95 (lv_at hl 6 rfl) ?_
        obtain ⟨hy, hw⟩ := hw
        refine zr_cv (va_runV (C := kR_Si) (As := [.int x1, .int r60, .int x5]) (rest := []) ⟨hx, hb, hml, hown, hts⟩ (kc_Si_append l D dA Z r89 x1 r60 x5 σ60 _) ⟨callB_of 3 hts (z_gw kw_495) rfl rfl rfl (hts _ (List.mem_cons_of_mem _ kw_3)) (hts _ (List.mem_cons_of_mem _ kw_492)) (by decide +kernel) ⟨Nat.le_of_ble_eq_true rfl, Nat.le_of_ble_eq_true rfl⟩, (hts _ (List.mem_cons_of_mem _ kw_493)), (hts _ (List.mem_cons_of_mem _ kw_494))⟩ (z_preV z_nwN (Nat.le_trans hZ hS.1) hG hK hN hy (ci := 6) (r := (kR_Si, kT_Si, 4)) rfl hw) rfl rfl hl.1 rfl (lv_room (Nat.le_of_ble_eq_true rfl)) kb_Vr_change_97 ⟨Nat.le_of_ble_eq_true rfl, Nat.le_of_ble_eq_true rfl⟩) hS (fun σ97 H locs hw hG hS => ?_)
        refine lv_aload_n hx hb kb_Vr_change_100 rfl (lv_at hl 1 rfl) ?_
        obtain ⟨hy, r101, hrf, hw⟩ := hw
        refine zr_getR (ci := 7) (f := 708) hx hb hts ki_Vr hown hK hG hy rfl 8 (by decide) (hts _ (List.mem_cons_of_mem _ kw_203)) (fun _ h => h) rfl rfl hrf kb_Vr_change_101 ?_
        obtain ⟨hy, hw⟩ := hw
        refine zr_getI (ci := 6) (f := 603) hx hb hts ki_Si hown hK hG hy rfl 3 (by decide) (hts _ (List.mem_cons_of_mem _ kw_82)) (fun _ h => h) rfl rfl kb_Vr_change_104 ?_
        exact zr_iret (free := fun q => Z ≤ q) z_nwN hx hb hr rfl hZ hK hN hG hS hw kb_Vr_change_107 hlocks
      · have hw := hw.2 hc
        refine lv_bipush (v := (-3 : Int32)) hx hb kb_Vr_change_85 (by decide) ?_
        exact zr_iret (free := fun q => Z ≤ q) z_nwN hx hb hr rfl hZ hK hN hG hS hw kb_Vr_change_87 hlocks
    · have hw := hw.2 hc
      refine lv_bipush (v := (-2 : Int32)) hx hb kb_Vr_change_70 (by decide) ?_
      exact zr_iret (free := fun q => Z ≤ q) z_nwN hx hb hr rfl hZ hK hN hG hS hw kb_Vr_change_72 hlocks)
  refine lv_aload_n hx hb kb_Vr_change_0 rfl (lv_at hl 0 rfl) ?_
  obtain ⟨hy, hw⟩ := hw
  refine zr_ci (va_runV (C := kR_Vr) (As := []) (rest := []) ⟨hx, hb, hml, hown, hts⟩ (kc_Vr_hasNoRules l D dA Z a0 σ _) ⟨callB_of 0 hts (z_gw kw_474) rfl rfl rfl (hts _ (List.mem_cons_of_mem _ kw_1)) (hts _ (List.mem_cons_of_mem _ kw_472)) (by decide +kernel) ⟨Nat.le_of_ble_eq_true rfl, Nat.le_of_ble_eq_true rfl⟩, (hts _ (List.mem_cons_of_mem _ kw_473)), (hts _ (List.mem_cons_of_mem _ kw_945))⟩ (z_preV z_nwN (Nat.le_trans hZ hS.1) hG hK hN hy (ci := 7) (r := (kR_Vr, kT_Vr, 13)) rfl hw) rfl rfl hl.1 rfl (lv_room (Nat.le_of_ble_eq_true rfl)) kb_Vr_change_1 ⟨Nat.le_of_ble_eq_true rfl, Nat.le_of_ble_eq_true rfl⟩) hS (fun r1 σ1 H locs hw hG hS => ?_)
  refine lv_if_eq (tgt := 10) hx hb kb_Vr_change_4 (by decide) (fun hc => ?_) (fun hc => ?_)
  · have hw := hw.1 hc
    refine lv_aload_n hx hb kb_Vr_change_10 rfl (lv_at hl 0 rfl) ?_
    obtain ⟨hy, r11, hrf, hw⟩ := hw
    refine zr_getR (ci := 7) (f := 705) hx hb hts ki_Vr hown hK hG hy rfl 5 (by decide) (hts _ (List.mem_cons_of_mem _ kw_200)) (fun _ h => h) rfl rfl hrf kb_Vr_change_11 ?_
    refine lv_iload_n hx hb kb_Vr_change_14 rfl (lv_at hl 1 rfl) ?_
    obtain ⟨hy, hw⟩ := hw
    refine zr_ci (va_runV (C := kR_Pr) (As := [.int x1]) (rest := []) ⟨hx, hb, hml, hown, hts⟩ (kc_Pr_isRelation l D dA Z r11 x1 σ1 _) ⟨callB_of 1 hts (z_gw kw_328) rfl rfl rfl (hts _ (List.mem_cons_of_mem _ kw_2)) (hts _ (List.mem_cons_of_mem _ kw_480)) (by decide +kernel) ⟨Nat.le_of_ble_eq_true rfl, Nat.le_of_ble_eq_true rfl⟩, (hts _ (List.mem_cons_of_mem _ kw_326)), (hts _ (List.mem_cons_of_mem _ kw_327))⟩ (z_preV z_nwN (Nat.le_trans hZ hS.1) hG hK hN hy (ci := 2) (r := (kR_Pr, kT_Pr, 11)) rfl hw) rfl rfl hl.1 rfl (lv_room (Nat.le_of_ble_eq_true rfl)) kb_Vr_change_15 ⟨Nat.le_of_ble_eq_true rfl, Nat.le_of_ble_eq_true rfl⟩) hS (fun r15 σ15 H locs hw hG hS => ?_)
    refine lv_if_eq (tgt := 44) hx hb kb_Vr_change_18 (by decide) (fun hc => ?_) (fun hc => ?_)
    · have hw := hw.1 hc
      refine lv_bipush (v := (-2 : Int32)) hx hb kb_Vr_change_44 (by decide) ?_
      exact zr_iret (free := fun q => Z ≤ q) z_nwN hx hb hr rfl hZ hK hN hG hS hw kb_Vr_change_46 hlocks
    · have hw := hw.2 hc
      refine lv_aload_n hx hb kb_Vr_change_21 rfl (lv_at hl 0 rfl) ?_
      obtain ⟨hy, r22, hrf, hw⟩ := hw
      refine zr_getR (ci := 7) (f := 705) hx hb hts ki_Vr hown hK hG hy rfl 5 (by decide) (hts _ (List.mem_cons_of_mem _ kw_200)) (fun _ h => h) rfl rfl hrf kb_Vr_change_22 ?_
      refine lv_iload_n hx hb kb_Vr_change_25 rfl (lv_at hl 1 rfl) ?_
      obtain ⟨hy, hw⟩ := hw
      refine zr_ci (va_runV (C := kR_Pr) (As := [.int x1]) (rest := []) ⟨hx, hb, hml, hown, hts⟩ (kc_Pr_isView l D dA Z r22 x1 σ15 _) ⟨callB_of 1 hts (z_gw kw_324) rfl rfl rfl (hts _ (List.mem_cons_of_mem _ kw_2)) (hts _ (List.mem_cons_of_mem _ kw_481)) (by decide +kernel) ⟨Nat.le_of_ble_eq_true rfl, Nat.le_of_ble_eq_true rfl⟩, (hts _ (List.mem_cons_of_mem _ kw_322)), (hts _ (List.mem_cons_of_mem _ kw_323))⟩ (z_preV z_nwN (Nat.le_trans hZ hS.1) hG hK hN hy (ci := 2) (r := (kR_Pr, kT_Pr, 11)) rfl hw) rfl rfl hl.1 rfl (lv_room (Nat.le_of_ble_eq_true rfl)) kb_Vr_change_26 ⟨Nat.le_of_ble_eq_true rfl, Nat.le_of_ble_eq_true rfl⟩) hS (fun r26 σ26 H locs hw hG hS => ?_)
      refine lv_if_ne (tgt := 44) hx hb kb_Vr_change_29 (by decide) (fun hc => ?_) (fun hc => ?_)
      · have hw := hw.1 hc
        refine lv_bipush (v := (-2 : Int32)) hx hb kb_Vr_change_44 (by decide) ?_
        exact zr_iret (free := fun q => Z ≤ q) z_nwN hx hb hr rfl hZ hK hN hG hS hw kb_Vr_change_46 hlocks
      · have hw := hw.2 hc
        refine lv_iload hx hb kb_Vr_change_32 (lv_at hl 5 rfl) ?_
        refine lv_iconst (v := (1 : Int32)) hx hb kb_Vr_change_34 (by decide) ?_
        refine lv_icmp_eq (tgt := 47) hx hb kb_Vr_change_35 (by decide) (fun hc => ?_) (fun hc => ?_)
        · have hw := hw.1 hc
          exact hw _ _ _ hG hS (lv_sub hl [0, 1, 2, 3, 4, 5] rfl)
        · have hw := hw.2 hc
          refine lv_iload hx hb kb_Vr_change_38 (lv_at hl 5 rfl) ?_
          refine lv_iconst (v := (-1 : Int32)) hx hb kb_Vr_change_40 (by decide) ?_
          refine lv_icmp_eq (tgt := 47) hx hb kb_Vr_change_41 (by decide) (fun hc => ?_) (fun hc => ?_)
          · have hw := hw.1 hc
            exact hw _ _ _ hG hS (lv_sub hl [0, 1, 2, 3, 4, 5] rfl)
          · have hw := hw.2 hc
            refine lv_bipush (v := (-2 : Int32)) hx hb kb_Vr_change_44 (by decide) ?_
            exact zr_iret (free := fun q => Z ≤ q) z_nwN hx hb hr rfl hZ hK hN hG hS hw kb_Vr_change_46 hlocks
  · have hw := hw.2 hc
    refine lv_bipush (v := (-4 : Int32)) hx hb kb_Vr_change_7 (by decide) ?_
    exact zr_iret (free := fun q => Z ≤ q) z_nwN hx hb hr rfl hZ hK hN hG hS hw kb_Vr_change_9 hlocks
def kp_Vr_copyTables (a0 : Nat) (σ : z_S) (Post : z_S → Prop) : Prop := ∀ (X2 : Int32 → z_S → Prop),
    (∀ (v1 : Int32) (σ : z_S), (z_ty σ a0 = some (.inl 7) ∧ ∃ r4, z_R σ 705 a0 = some r4 ∧ (z_ty σ r4 = some (.inl 2) ∧ (((z_I σ 206 r4) ≤ v1 → Post σ) ∧ (¬ (z_I σ 206 r4) ≤ v1 → z_ty σ a0 = some (.inl 7) ∧ ∃ r14, z_R σ 705 a0 = some r14 ∧ (z_ty σ r14 = some (.inl 2) ∧ kp_Pr_isView r14 v1 σ (fun (r18 : Int32) (σ18 : z_S) => (¬ r18 = 0 → X2 (v1 + (1 : Int32)) σ18) ∧ (r18 = 0 → z_ty σ18 a0 = some (.inl 7) ∧ ∃ r25, z_R σ18 707 a0 = some r25 ∧ (∃ n29 s29, z_ty σ18 r25 = some (.inr (9, n29, s29)) ∧ vp_in v1 n29 ∧ ∃ r29, z_Q σ18 s29 r25 v1.toNatClampNeg = some r29 ∧ (z_ty σ18 a0 = some (.inl 7) ∧ ∃ r31, z_R σ18 706 a0 = some r31 ∧ (∃ n35 s35, z_ty σ18 r31 = some (.inr (9, n35, s35)) ∧ vp_in v1 n35 ∧ ∃ r35, z_Q σ18 s35 r31 v1.toNatClampNeg = some r35 ∧ (z_ty σ18 r29 = some (.inl 4) ∧ kp_Ro_copy r29 r35 σ18 (fun (σ36 : z_S) => X2 (v1 + (1 : Int32)) σ36)))))))))))) → X2 v1 σ) →
    (X2 ((0 : Int32)) σ)
set_option maxHeartbeats 4000000 in
set_option maxRecDepth 100000 in
theorem kc_Vr_copyTables (l : Launch) (D : va_G) (dA : Nat → ClassId) (Z : Nat) (a0 : Nat) (σ : z_S) (Post : z_S → Prop) : Met l km_Vr_copyTables ks_Vr_copyTables kr_Vr_copyTables (va_Pc [.ref a0] (fun U => z_U D z_cl z_KT dA Z (z_tys dA) z_nw σ U ∧ kp_Vr_copyTables  a0 σ Post)) (z_Qv D z_cl z_KT dA Z (z_tys dA) z_nw Post) 0 0 (fun q => Z ≤ q) := by
  refine Met.ofW (cc := prog_1_method_25_code) (maxL := 2) (ret := none) (by decide) rfl ?_
  intro p e s m args below meth c s₁ B hml hv
  obtain ⟨rfl, ⟨hZ, hG, hK, hN⟩, hw⟩ := hv
  have hx := B.exec
  have hb := B.bytes
  have hr := B.returns
  have hts := atoms_spec (ws := ks_Vr_copyTables) B.pre
  have hown : s.vm.findClass kR_Vr = some m.cls := findClass_of_methodNamed B.named
  have hlocks := B.notSynchronized
  have hS : va_S (fun q => Z ≤ q) s.heap s.heap [] := va_S.rf
  have hl := lv_entry ([.ref a0]) (n := 2) (Nat.le_of_ble_eq_true rfl)
  rw [lg_entry_eq]
  generalize (lg_sl ([.ref a0]) ++ List.replicate (2 - (lg_sl ([.ref a0])).length) Slot.unset).toArray = ls at hl ⊢
  have hl : lv_has ls 2 [(0, .ref a0)] := hl
  unfold kp_Vr_copyTables at hw
  have hw := hw (fun (v1 : Int32) (σ : z_S) => ∀ (H : Heap) (locs : List Loc) (ls : Array Slot), z_G D z_cl z_KT dA Z σ H → va_S (fun q => Z ≤ q) s.heap H locs → lv_has ls 2 [(0, .ref a0), (1, .int v1)] → W p l e (headSpec ks_Vr_copyTables kr_Vr_copyTables).room s m ([.ref a0] : List Value).toArray below meth c H locs 0 0 (MQ below (z_Qv D z_cl z_KT dA Z (z_tys dA) z_nw Post) ([.ref a0] : List Value).toArray s 0 0 (fun q => Z ≤ q)) (F0 m 2 ls []))
  have hw := hw (by
    intro v1 σ hw H locs ls hG hS hl
    refine lv_iload_n hx hb kb_Vr_copyTables_2 rfl (lv_at hl 1 rfl) ?_
    refine lv_aload_n hx hb kb_Vr_copyTables_3 rfl (lv_at hl 0 rfl) ?_
    obtain ⟨hy, r4, hrf, hw⟩ := hw
    refine zr_getR (ci := 7) (f := 705) hx hb hts ki_Vr hown hK hG hy rfl 5 (by decide) (hts _ (List.mem_cons_of_mem _ kw_200)) (fun _ h => h) rfl rfl hrf kb_Vr_copyTables_4 ?_
    obtain ⟨hy, hw⟩ := hw
    refine zr_getI (ci := 2) (f := 206) hx hb hts ki_Pr hown hK hG hy rfl 6 (by decide) (hts _ (List.mem_cons_of_mem _ kw_44)) (fun _ h => h) rfl rfl kb_Vr_copyTables_7 ?_
    refine lv_icmp_ge (tgt := 45) hx hb kb_Vr_copyTables_10 (by decide) (fun hc => ?_) (fun hc => ?_)
    · have hw := hw.1 hc
      exact zr_vret z_nwN hx hb hr hZ hK hN hG hS hw kb_Vr_copyTables_45 hlocks
    · have hw := hw.2 hc
      refine lv_aload_n hx hb kb_Vr_copyTables_13 rfl (lv_at hl 0 rfl) ?_
      obtain ⟨hy, r14, hrf, hw⟩ := hw
      refine zr_getR (ci := 7) (f := 705) hx hb hts ki_Vr hown hK hG hy rfl 5 (by decide) (hts _ (List.mem_cons_of_mem _ kw_200)) (fun _ h => h) rfl rfl hrf kb_Vr_copyTables_14 ?_
      refine lv_iload_n hx hb kb_Vr_copyTables_17 rfl (lv_at hl 1 rfl) ?_
      obtain ⟨hy, hw⟩ := hw
      refine zr_ci (va_runV (C := kR_Pr) (As := [.int v1]) (rest := []) ⟨hx, hb, hml, hown, hts⟩ (kc_Pr_isView l D dA Z r14 v1 σ _) ⟨callB_of 1 hts (z_gw kw_324) rfl rfl rfl (hts _ (List.mem_cons_of_mem _ kw_2)) (hts _ (List.mem_cons_of_mem _ kw_481)) (by decide +kernel) ⟨Nat.le_of_ble_eq_true rfl, Nat.le_of_ble_eq_true rfl⟩, (hts _ (List.mem_cons_of_mem _ kw_322)), (hts _ (List.mem_cons_of_mem _ kw_323))⟩ (z_preV z_nwN (Nat.le_trans hZ hS.1) hG hK hN hy (ci := 2) (r := (kR_Pr, kT_Pr, 11)) rfl hw) rfl rfl hl.1 rfl (lv_room (Nat.le_of_ble_eq_true rfl)) kb_Vr_copyTables_18 ⟨Nat.le_of_ble_eq_true rfl, Nat.le_of_ble_eq_true rfl⟩) hS (fun r18 σ18 H locs hw hG hS => ?_)
      refine lv_if_ne (tgt := 39) hx hb kb_Vr_copyTables_21 (by decide) (fun hc => ?_) (fun hc => ?_)
      · have hw := hw.1 hc
        refine lv_iinc (v := v1 + (1 : Int32)) (lv' := [(1, .int (v1 + (1 : Int32))), (0, .ref a0)]) hx hb kb_Vr_copyTables_39 hl (k := 1) rfl rfl (by decide) rfl (fun ls hl => ?_)
        refine lv_goto (tgt := 2) hx hb kb_Vr_copyTables_42 (by decide) ?_
        exact hw _ _ _ hG hS (lv_sub hl [1, 0] rfl)
      · have hw := hw.2 hc
        refine lv_aload_n hx hb kb_Vr_copyTables_24 rfl (lv_at hl 0 rfl) ?_
        obtain ⟨hy, r25, hrf, hw⟩ := hw
        refine zr_getR (ci := 7) (f := 707) hx hb hts ki_Vr hown hK hG hy rfl 7 (by decide) (hts _ (List.mem_cons_of_mem _ kw_202)) (fun _ h => h) rfl rfl hrf kb_Vr_copyTables_25 ?_
        refine lv_iload_n hx hb kb_Vr_copyTables_28 rfl (lv_at hl 1 rfl) ?_
        obtain ⟨n29, s29, hy, hi, r29, hrf, hw⟩ := hw
        refine zr_aald hx hb hK hG 4 (by decide) hy rfl hi hrf kb_Vr_copyTables_29 ?_
        refine lv_aload_n hx hb kb_Vr_copyTables_30 rfl (lv_at hl 0 rfl) ?_
        obtain ⟨hy, r31, hrf, hw⟩ := hw
        refine zr_getR (ci := 7) (f := 706) hx hb hts ki_Vr hown hK hG hy rfl 6 (by decide) (hts _ (List.mem_cons_of_mem _ kw_201)) (fun _ h => h) rfl rfl hrf kb_Vr_copyTables_31 ?_
        refine lv_iload_n hx hb kb_Vr_copyTables_34 rfl (lv_at hl 1 rfl) ?_
        obtain ⟨n35, s35, hy, hi, r35, hrf, hw⟩ := hw
        refine zr_aald hx hb hK hG 4 (by decide) hy rfl hi hrf kb_Vr_copyTables_35 ?_
        obtain ⟨hy, hw⟩ := hw
        refine zr_cv (va_runV (C := kR_Ro) (As := [.ref r35]) (rest := []) ⟨hx, hb, hml, hown, hts⟩ (kc_Ro_copy l D dA Z r29 r35 σ18 _) ⟨callB_of 1 hts (z_gw kw_509) rfl rfl rfl (hts _ (List.mem_cons_of_mem _ kw_8)) (hts _ (List.mem_cons_of_mem _ kw_506)) (by decide +kernel) ⟨Nat.le_of_ble_eq_true rfl, Nat.le_of_ble_eq_true rfl⟩, (hts _ (List.mem_cons_of_mem _ kw_507)), (hts _ (List.mem_cons_of_mem _ kw_508))⟩ (z_preV z_nwN (Nat.le_trans hZ hS.1) hG hK hN hy (ci := 4) (r := (kR_Ro, kT_Ro, 3)) rfl hw) rfl rfl hl.1 rfl (lv_room (Nat.le_of_ble_eq_true rfl)) kb_Vr_copyTables_36 ⟨Nat.le_of_ble_eq_true rfl, Nat.le_of_ble_eq_true rfl⟩) hS (fun σ36 H locs hw hG hS => ?_)
        refine lv_iinc (v := v1 + (1 : Int32)) (lv' := [(1, .int (v1 + (1 : Int32))), (0, .ref a0)]) hx hb kb_Vr_copyTables_39 hl (k := 1) rfl rfl (by decide) rfl (fun ls hl => ?_)
        refine lv_goto (tgt := 2) hx hb kb_Vr_copyTables_42 (by decide) ?_
        exact hw _ _ _ hG hS (lv_sub hl [1, 0] rfl))
  refine lv_iconst (v := (0 : Int32)) hx hb kb_Vr_copyTables_0 (by decide) ?_
  refine lv_istore_n (lv' := [(1, .int ((0 : Int32))), (0, .ref a0)]) hx hb kb_Vr_copyTables_1 rfl hl (by decide) rfl (fun ls hl => ?_)
  exact hw _ _ _ hG hS (lv_sub hl [1, 0] rfl)
def kp_Vr_noteDifferences (a0 : Nat) (x1 : Int32) (b2 : Nat) (b3 : Nat) (σ : z_S) (Post : z_S → Prop) : Prop := ∀ (X9 : Int32 → Int32 → Int32 → z_S → Prop) (X34 : Int32 → Int32 → Int32 → z_S → Prop) (X74 : Int32 → Int32 → Int32 → Int32 → z_S → Prop) (X112 : Int32 → Int32 → Int32 → Int32 → Int32 → z_S → Prop) (X159 : Int32 → Int32 → Int32 → Int32 → Int32 → z_S → Prop) (X171 : Int32 → Int32 → Int32 → Int32 → Int32 → z_S → Prop),
    (∀ (v4 : Int32) (v5 : Int32) (v6 : Int32) (σ : z_S), ((((80 : Int32)) ≤ v6 → Post σ) ∧ (¬ ((80 : Int32)) ≤ v6 → z_ty σ b2 = some (.inl 4) ∧ ((v4 < (z_I σ 402 b2) → X34 v4 v5 v6 σ) ∧ (¬ v4 < (z_I σ 402 b2) → z_ty σ b3 = some (.inl 4) ∧ (((z_I σ 402 b3) ≤ v5 → Post σ) ∧ (¬ (z_I σ 402 b3) ≤ v5 → X34 v4 v5 v6 σ)))))) → X9 v4 v5 v6 σ) →
    (∀ (v4 : Int32) (v5 : Int32) (v6 : Int32) (σ : z_S), (z_ty σ b3 = some (.inl 4) ∧ (((z_I σ 402 b3) ≤ v5 → X74 v4 v5 v6 ((1 : Int32)) σ) ∧ (¬ (z_I σ 402 b3) ≤ v5 → z_ty σ b2 = some (.inl 4) ∧ (((z_I σ 402 b2) ≤ v4 → X74 v4 v5 v6 ((0 : Int32)) σ) ∧ (¬ (z_I σ 402 b2) ≤ v4 → z_ty σ b2 = some (.inl 4) ∧ ∃ r53, z_R σ 400 b2 = some r53 ∧ (∃ n58 s58, z_ty σ r53 = some (.inr (0, n58, s58)) ∧ vp_in v4 n58 ∧ (z_ty σ b3 = some (.inl 4) ∧ ∃ r60, z_R σ 400 b3 = some r60 ∧ (∃ n65 s65, z_ty σ r60 = some (.inr (0, n65, s65)) ∧ vp_in v5 n65 ∧ (((z_A σ s65 r60 v5.toNatClampNeg) ≤ (z_A σ s58 r53 v4.toNatClampNeg) → X74 v4 v5 v6 ((0 : Int32)) σ) ∧ (¬ (z_A σ s65 r60 v5.toNatClampNeg) ≤ (z_A σ s58 r53 v4.toNatClampNeg) → X74 v4 v5 v6 ((1 : Int32)) σ)))))))))) → X34 v4 v5 v6 σ) →
    (∀ (v4 : Int32) (v5 : Int32) (v6 : Int32) (t0 : Int32) (σ : z_S), ((¬ t0 = 0 → X112 v4 v5 v6 t0 ((0 : Int32)) σ) ∧ (t0 = 0 → z_ty σ b2 = some (.inl 4) ∧ (((z_I σ 402 b2) ≤ v4 → X112 v4 v5 v6 t0 ((1 : Int32)) σ) ∧ (¬ (z_I σ 402 b2) ≤ v4 → z_ty σ b3 = some (.inl 4) ∧ ∃ r91, z_R σ 400 b3 = some r91 ∧ (∃ n96 s96, z_ty σ r91 = some (.inr (0, n96, s96)) ∧ vp_in v5 n96 ∧ (z_ty σ b2 = some (.inl 4) ∧ ∃ r98, z_R σ 400 b2 = some r98 ∧ (∃ n103 s103, z_ty σ r98 = some (.inr (0, n103, s103)) ∧ vp_in v4 n103 ∧ (((z_A σ s103 r98 v4.toNatClampNeg) ≤ (z_A σ s96 r91 v5.toNatClampNeg) → X112 v4 v5 v6 t0 ((0 : Int32)) σ) ∧ (¬ (z_A σ s103 r98 v4.toNatClampNeg) ≤ (z_A σ s96 r91 v5.toNatClampNeg) → X112 v4 v5 v6 t0 ((1 : Int32)) σ))))))))) → X74 v4 v5 v6 t0 σ) →
    (∀ (v4 : Int32) (v5 : Int32) (v6 : Int32) (v7 : Int32) (t0 : Int32) (σ : z_S), ((v7 = 0 → (t0 = 0 → X159 v4 v5 v6 v7 t0 σ) ∧ (¬ t0 = 0 → z_ty σ a0 = some (.inl 7) ∧ ∃ r144, z_R σ 711 a0 = some r144 ∧ (z_ty σ b3 = some (.inl 4) ∧ ∃ r149, z_R σ 400 b3 = some r149 ∧ (∃ n154 s154, z_ty σ r149 = some (.inr (0, n154, s154)) ∧ vp_in v5 n154 ∧ (z_ty σ r144 = some (.inl 6) ∧ kp_Si_append r144 x1 (z_A σ s154 r149 v5.toNatClampNeg) ((1 : Int32)) σ (fun (σ156 : z_S) => X159 v4 v5 v6 v7 t0 σ156)))))) ∧ (¬ v7 = 0 → z_ty σ a0 = some (.inl 7) ∧ ∃ r120, z_R σ 711 a0 = some r120 ∧ (z_ty σ b2 = some (.inl 4) ∧ ∃ r125, z_R σ 400 b2 = some r125 ∧ (∃ n130 s130, z_ty σ r125 = some (.inr (0, n130, s130)) ∧ vp_in v4 n130 ∧ (z_ty σ r120 = some (.inl 6) ∧ kp_Si_append r120 x1 (z_A σ s130 r125 v4.toNatClampNeg) ((-1 : Int32)) σ (fun (σ132 : z_S) => X159 v4 v5 v6 v7 t0 σ132)))))) → X112 v4 v5 v6 v7 t0 σ) →
    (∀ (v4 : Int32) (v5 : Int32) (v6 : Int32) (v7 : Int32) (v8 : Int32) (σ : z_S), ((v8 = 0 → X171 v5 v6 v7 v4 ((1 : Int32)) σ) ∧ (¬ v8 = 0 → X171 v5 v6 v7 v4 ((0 : Int32)) σ)) → X159 v4 v5 v6 v7 v8 σ) →
    (∀ (v5 : Int32) (v6 : Int32) (v7 : Int32) (t0 : Int32) (t1 : Int32) (σ : z_S), ((v7 = 0 → X9 (t0 + t1) (v5 + ((1 : Int32))) (v6 + (1 : Int32)) σ) ∧ (¬ v7 = 0 → X9 (t0 + t1) (v5 + ((0 : Int32))) (v6 + (1 : Int32)) σ)) → X171 v5 v6 v7 t0 t1 σ) →
    (X9 ((0 : Int32)) ((0 : Int32)) ((0 : Int32)) σ)
set_option maxHeartbeats 4000000 in
set_option maxRecDepth 100000 in
theorem kc_Vr_noteDifferences (l : Launch) (D : va_G) (dA : Nat → ClassId) (Z : Nat) (a0 : Nat) (x1 : Int32) (b2 : Nat) (b3 : Nat) (σ : z_S) (Post : z_S → Prop) : Met l km_Vr_noteDifferences ks_Vr_noteDifferences kr_Vr_noteDifferences (va_Pc [.ref a0, .int x1, .ref b2, .ref b3] (fun U => z_U D z_cl z_KT dA Z (z_tys dA) z_nw σ U ∧ kp_Vr_noteDifferences  a0 x1 b2 b3 σ Post)) (z_Qv D z_cl z_KT dA Z (z_tys dA) z_nw Post) 0 0 (fun q => Z ≤ q) := by
  refine Met.ofW (cc := prog_1_method_23_code) (maxL := 9) (ret := none) (by decide) rfl ?_
  intro p e s m args below meth c s₁ B hml hv
  obtain ⟨rfl, ⟨hZ, hG, hK, hN⟩, hw⟩ := hv
  have hx := B.exec
  have hb := B.bytes
  have hr := B.returns
  have hts := atoms_spec (ws := ks_Vr_noteDifferences) B.pre
  have hown : s.vm.findClass kR_Vr = some m.cls := findClass_of_methodNamed B.named
  have hlocks := B.notSynchronized
  have hS : va_S (fun q => Z ≤ q) s.heap s.heap [] := va_S.rf
  have hl := lv_entry ([.ref a0, .int x1, .ref b2, .ref b3]) (n := 9) (Nat.le_of_ble_eq_true rfl)
  rw [lg_entry_eq]
  generalize (lg_sl ([.ref a0, .int x1, .ref b2, .ref b3]) ++ List.replicate (9 - (lg_sl ([.ref a0, .int x1, .ref b2, .ref b3])).length) Slot.unset).toArray = ls at hl ⊢
  have hl : lv_has ls 9 [(0, .ref a0), (1, .int x1), (2, .ref b2), (3, .ref b3)] := hl
  unfold kp_Vr_noteDifferences at hw
  have hw := hw (fun (v4 : Int32) (v5 : Int32) (v6 : Int32) (σ : z_S) => ∀ (H : Heap) (locs : List Loc) (ls : Array Slot), z_G D z_cl z_KT dA Z σ H → va_S (fun q => Z ≤ q) s.heap H locs → lv_has ls 9 [(0, .ref a0), (1, .int x1), (2, .ref b2), (3, .ref b3), (4, .int v4), (5, .int v5), (6, .int v6)] → W p l e (headSpec ks_Vr_noteDifferences kr_Vr_noteDifferences).room s m ([.ref a0, .int x1, .ref b2, .ref b3] : List Value).toArray below meth c H locs 0 0 (MQ below (z_Qv D z_cl z_KT dA Z (z_tys dA) z_nw Post) ([.ref a0, .int x1, .ref b2, .ref b3] : List Value).toArray s 0 0 (fun q => Z ≤ q)) (F0 m 9 ls []))
  have hw := hw (fun (v4 : Int32) (v5 : Int32) (v6 : Int32) (σ : z_S) => ∀ (H : Heap) (locs : List Loc) (ls : Array Slot), z_G D z_cl z_KT dA Z σ H → va_S (fun q => Z ≤ q) s.heap H locs → lv_has ls 9 [(0, .ref a0), (1, .int x1), (2, .ref b2), (3, .ref b3), (4, .int v4), (5, .int v5), (6, .int v6)] → W p l e (headSpec ks_Vr_noteDifferences kr_Vr_noteDifferences).room s m ([.ref a0, .int x1, .ref b2, .ref b3] : List Value).toArray below meth c H locs 0 0 (MQ below (z_Qv D z_cl z_KT dA Z (z_tys dA) z_nw Post) ([.ref a0, .int x1, .ref b2, .ref b3] : List Value).toArray s 0 0 (fun q => Z ≤ q)) (F0 m 34 ls []))
  have hw := hw (fun (v4 : Int32) (v5 : Int32) (v6 : Int32) (t0 : Int32) (σ : z_S) => ∀ (H : Heap) (locs : List Loc) (ls : Array Slot), z_G D z_cl z_KT dA Z σ H → va_S (fun q => Z ≤ q) s.heap H locs → lv_has ls 9 [(0, .ref a0), (1, .int x1), (2, .ref b2), (3, .ref b3), (4, .int v4), (5, .int v5), (6, .int v6)] → W p l e (headSpec ks_Vr_noteDifferences kr_Vr_noteDifferences).room s m ([.ref a0, .int x1, .ref b2, .ref b3] : List Value).toArray below meth c H locs 0 0 (MQ below (z_Qv D z_cl z_KT dA Z (z_tys dA) z_nw Post) ([.ref a0, .int x1, .ref b2, .ref b3] : List Value).toArray s 0 0 (fun q => Z ≤ q)) (F0 m 74 ls [.int t0]))
  have hw := hw (fun (v4 : Int32) (v5 : Int32) (v6 : Int32) (v7 : Int32) (t0 : Int32) (σ : z_S) => ∀ (H : Heap) (locs : List Loc) (ls : Array Slot), z_G D z_cl z_KT dA Z σ H → va_S (fun q => Z ≤ q) s.heap H locs → lv_has ls 9 [(0, .ref a0), (1, .int x1), (2, .ref b2), (3, .ref b3), (4, .int v4), (5, .int v5), (6, .int v6), (7, .int v7)] → W p l e (headSpec ks_Vr_noteDifferences kr_Vr_noteDifferences).room s m ([.ref a0, .int x1, .ref b2, .ref b3] : List Value).toArray below meth c H locs 0 0 (MQ below (z_Qv D z_cl z_KT dA Z (z_tys dA) z_nw Post) ([.ref a0, .int x1, .ref b2, .ref b3] : List Value).toArray s 0 0 (fun q => Z ≤ q)) (F0 m 112 ls [.int t0]))
  have hw := hw (fun (v4 : Int32) (v5 : Int32) (v6 : Int32) (v7 : Int32) (v8 : Int32) (σ : z_S) => ∀ (H : Heap) (locs : List Loc) (ls : Array Slot), z_G D z_cl z_KT dA Z σ H → va_S (fun q => Z ≤ q) s.heap H locs → lv_has ls 9 [(0, .ref a0), (1, .int x1), (2, .ref b2), (3, .ref b3), (4, .int v4), (5, .int v5), (6, .int v6), (7, .int v7), (8, .int v8)] → W p l e (headSpec ks_Vr_noteDifferences kr_Vr_noteDifferences).room s m ([.ref a0, .int x1, .ref b2, .ref b3] : List Value).toArray below meth c H locs 0 0 (MQ below (z_Qv D z_cl z_KT dA Z (z_tys dA) z_nw Post) ([.ref a0, .int x1, .ref b2, .ref b3] : List Value).toArray s 0 0 (fun q => Z ≤ q)) (F0 m 159 ls []))
  have hw := hw (fun (v5 : Int32) (v6 : Int32) (v7 : Int32) (t0 : Int32) (t1 : Int32) (σ : z_S) => ∀ (H : Heap) (locs : List Loc) (ls : Array Slot), z_G D z_cl z_KT dA Z σ H → va_S (fun q => Z ≤ q) s.heap H locs → lv_has ls 9 [(0, .ref a0), (1, .int x1), (2, .ref b2), (3, .ref b3), (5, .int v5), (6, .int v6), (7, .int v7)] → W p l e (headSpec ks_Vr_noteDifferences kr_Vr_noteDifferences).room s m ([.ref a0, .int x1, .ref b2, .ref b3] : List Value).toArray below meth c H locs 0 0 (MQ below (z_Qv D z_cl z_KT dA Z (z_tys dA) z_nw Post) ([.ref a0, .int x1, .ref b2, .ref b3] : List Value).toArray s 0 0 (fun q => Z ≤ q)) (F0 m 171 ls [.int t1, .int t0]))
  have hw := hw (by
    intro v4 v5 v6 σ hw H locs ls hG hS hl
    refine lv_iload hx hb kb_Vr_noteDifferences_9 (lv_at hl 6 rfl) ?_
    refine lv_bipush (v := (80 : Int32)) hx hb kb_Vr_noteDifferences_11 (by decide) ?_
    refine lv_icmp_ge (tgt := 195) hx hb kb_Vr_noteDifferences_13 (by decide) (fun hc => ?_) (fun hc => ?_)
    · have hw := hw.1 hc
      exact zr_vret z_nwN hx hb hr hZ hK hN hG hS hw kb_Vr_noteDifferences_195 hlocks
    · have hw := hw.2 hc
      refine lv_iload hx hb kb_Vr_noteDifferences_16 (lv_at hl 4 rfl) ?_
      refine lv_aload_n hx hb kb_Vr_noteDifferences_18 rfl (lv_at hl 2 rfl) ?_
      obtain ⟨hy, hw⟩ := hw
      refine zr_getI (ci := 4) (f := 402) hx hb hts ki_Ro hown hK hG hy rfl 2 (by decide) (hts _ (List.mem_cons_of_mem _ kw_191)) (fun _ h => h) rfl rfl kb_Vr_noteDifferences_19 ?_
      refine lv_icmp_lt (tgt := 34) hx hb kb_Vr_noteDifferences_22 (by decide) (fun hc => ?_) (fun hc => ?_)
      · have hw := hw.1 hc
        exact hw _ _ _ hG hS (lv_sub hl [0, 1, 2, 3, 4, 5, 6] rfl)
      · have hw := hw.2 hc
        refine lv_iload hx hb kb_Vr_noteDifferences_25 (lv_at hl 5 rfl) ?_
        refine lv_aload_n hx hb kb_Vr_noteDifferences_27 rfl (lv_at hl 3 rfl) ?_
        obtain ⟨hy, hw⟩ := hw
        refine zr_getI (ci := 4) (f := 402) hx hb hts ki_Ro hown hK hG hy rfl 2 (by decide) (hts _ (List.mem_cons_of_mem _ kw_191)) (fun _ h => h) rfl rfl kb_Vr_noteDifferences_28 ?_
        refine lv_icmp_ge (tgt := 195) hx hb kb_Vr_noteDifferences_31 (by decide) (fun hc => ?_) (fun hc => ?_)
        · have hw := hw.1 hc
          exact zr_vret z_nwN hx hb hr hZ hK hN hG hS hw kb_Vr_noteDifferences_195 hlocks
        · have hw := hw.2 hc
          exact hw _ _ _ hG hS (lv_sub hl [0, 1, 2, 3, 4, 5, 6] rfl))
  have hw := hw (by
    intro v4 v5 v6 σ hw H locs ls hG hS hl
    refine lv_iload hx hb kb_Vr_noteDifferences_34 (lv_at hl 5 rfl) ?_
    refine lv_aload_n hx hb kb_Vr_noteDifferences_36 rfl (lv_at hl 3 rfl) ?_
    obtain ⟨hy, hw⟩ := hw
    refine zr_getI (ci := 4) (f := 402) hx hb hts ki_Ro hown hK hG hy rfl 2 (by decide) (hts _ (List.mem_cons_of_mem _ kw_191)) (fun _ h => h) rfl rfl kb_Vr_noteDifferences_37 ?_
    refine lv_icmp_ge (tgt := 69) hx hb kb_Vr_noteDifferences_40 (by decide) (fun hc => ?_) (fun hc => ?_)
    · have hw := hw.1 hc
      refine lv_iconst (v := (1 : Int32)) hx hb kb_Vr_noteDifferences_69 (by decide) ?_
      refine lv_goto (tgt := 74) hx hb kb_Vr_noteDifferences_70 (by decide) ?_
      exact hw _ _ _ hG hS (lv_sub hl [0, 1, 2, 3, 4, 5, 6] rfl)
    · have hw := hw.2 hc
      refine lv_iload hx hb kb_Vr_noteDifferences_43 (lv_at hl 4 rfl) ?_
      refine lv_aload_n hx hb kb_Vr_noteDifferences_45 rfl (lv_at hl 2 rfl) ?_
      obtain ⟨hy, hw⟩ := hw
      refine zr_getI (ci := 4) (f := 402) hx hb hts ki_Ro hown hK hG hy rfl 2 (by decide) (hts _ (List.mem_cons_of_mem _ kw_191)) (fun _ h => h) rfl rfl kb_Vr_noteDifferences_46 ?_
      refine lv_icmp_ge (tgt := 73) hx hb kb_Vr_noteDifferences_49 (by decide) (fun hc => ?_) (fun hc => ?_)
      · have hw := hw.1 hc
        refine lv_iconst (v := (0 : Int32)) hx hb kb_Vr_noteDifferences_73 (by decide) ?_
        exact hw _ _ _ hG hS (lv_sub hl [0, 1, 2, 3, 4, 5, 6] rfl)
      · have hw := hw.2 hc
        refine lv_aload_n hx hb kb_Vr_noteDifferences_52 rfl (lv_at hl 2 rfl) ?_
        obtain ⟨hy, r53, hrf, hw⟩ := hw
        refine zr_getR (ci := 4) (f := 400) hx hb hts ki_Ro hown hK hG hy rfl 0 (by decide) (hts _ (List.mem_cons_of_mem _ kw_185)) (fun _ h => h) rfl rfl hrf kb_Vr_noteDifferences_53 ?_
        refine lv_iload hx hb kb_Vr_noteDifferences_56 (lv_at hl 4 rfl) ?_
        obtain ⟨n58, s58, hy, hi, hw⟩ := hw
        refine zr_iald hx hb hK hG 0 hy rfl hi kb_Vr_noteDifferences_58 ?_
        refine lv_aload_n hx hb kb_Vr_noteDifferences_59 rfl (lv_at hl 3 rfl) ?_
        obtain ⟨hy, r60, hrf, hw⟩ := hw
        refine zr_getR (ci := 4) (f := 400) hx hb hts ki_Ro hown hK hG hy rfl 0 (by decide) (hts _ (List.mem_cons_of_mem _ kw_185)) (fun _ h => h) rfl rfl hrf kb_Vr_noteDifferences_60 ?_
        refine lv_iload hx hb kb_Vr_noteDifferences_63 (lv_at hl 5 rfl) ?_
        obtain ⟨n65, s65, hy, hi, hw⟩ := hw
        refine zr_iald hx hb hK hG 0 hy rfl hi kb_Vr_noteDifferences_65 ?_
        refine lv_icmp_ge (tgt := 73) hx hb kb_Vr_noteDifferences_66 (by decide) (fun hc => ?_) (fun hc => ?_)
        · have hw := hw.1 hc
          refine lv_iconst (v := (0 : Int32)) hx hb kb_Vr_noteDifferences_73 (by decide) ?_
          exact hw _ _ _ hG hS (lv_sub hl [0, 1, 2, 3, 4, 5, 6] rfl)
        · have hw := hw.2 hc
          refine lv_iconst (v := (1 : Int32)) hx hb kb_Vr_noteDifferences_69 (by decide) ?_
          refine lv_goto (tgt := 74) hx hb kb_Vr_noteDifferences_70 (by decide) ?_
          exact hw _ _ _ hG hS (lv_sub hl [0, 1, 2, 3, 4, 5, 6] rfl))
  have hw := hw (by
    intro v4 v5 v6 t0 σ hw H locs ls hG hS hl
    refine lv_istore (lv' := [(7, .int t0), (0, .ref a0), (1, .int x1), (2, .ref b2), (3, .ref b3), (4, .int v4), (5, .int v5), (6, .int v6)]) hx hb kb_Vr_noteDifferences_74 hl (by decide) rfl (fun ls hl => ?_)
    refine lv_iload hx hb kb_Vr_noteDifferences_76 (lv_at hl 0 rfl) ?_
    refine lv_if_ne (tgt := 111) hx hb kb_Vr_noteDifferences_78 (by decide) (fun hc => ?_) (fun hc => ?_)
    · have hw := hw.1 hc
      refine lv_iconst (v := (0 : Int32)) hx hb kb_Vr_noteDifferences_111 (by decide) ?_
      exact hw _ _ _ hG hS (lv_sub hl [1, 2, 3, 4, 5, 6, 7, 0] rfl)
    · have hw := hw.2 hc
      refine lv_iload hx hb kb_Vr_noteDifferences_81 (lv_at hl 5 rfl) ?_
      refine lv_aload_n hx hb kb_Vr_noteDifferences_83 rfl (lv_at hl 3 rfl) ?_
      obtain ⟨hy, hw⟩ := hw
      refine zr_getI (ci := 4) (f := 402) hx hb hts ki_Ro hown hK hG hy rfl 2 (by decide) (hts _ (List.mem_cons_of_mem _ kw_191)) (fun _ h => h) rfl rfl kb_Vr_noteDifferences_84 ?_
      refine lv_icmp_ge (tgt := 107) hx hb kb_Vr_noteDifferences_87 (by decide) (fun hc => ?_) (fun hc => ?_)
      · have hw := hw.1 hc
        refine lv_iconst (v := (1 : Int32)) hx hb kb_Vr_noteDifferences_107 (by decide) ?_
        refine lv_goto (tgt := 112) hx hb kb_Vr_noteDifferences_108 (by decide) ?_
        exact hw _ _ _ hG hS (lv_sub hl [1, 2, 3, 4, 5, 6, 7, 0] rfl)
      · have hw := hw.2 hc
        refine lv_aload_n hx hb kb_Vr_noteDifferences_90 rfl (lv_at hl 4 rfl) ?_
        obtain ⟨hy, r91, hrf, hw⟩ := hw
        refine zr_getR (ci := 4) (f := 400) hx hb hts ki_Ro hown hK hG hy rfl 0 (by decide) (hts _ (List.mem_cons_of_mem _ kw_185)) (fun _ h => h) rfl rfl hrf kb_Vr_noteDifferences_91 ?_
        refine lv_iload hx hb kb_Vr_noteDifferences_94 (lv_at hl 6 rfl) ?_
        obtain ⟨n96, s96, hy, hi, hw⟩ := hw
        refine zr_iald hx hb hK hG 0 hy rfl hi kb_Vr_noteDifferences_96 ?_
        refine lv_aload_n hx hb kb_Vr_noteDifferences_97 rfl (lv_at hl 3 rfl) ?_
        obtain ⟨hy, r98, hrf, hw⟩ := hw
        refine zr_getR (ci := 4) (f := 400) hx hb hts ki_Ro hown hK hG hy rfl 0 (by decide) (hts _ (List.mem_cons_of_mem _ kw_185)) (fun _ h => h) rfl rfl hrf kb_Vr_noteDifferences_98 ?_
        refine lv_iload hx hb kb_Vr_noteDifferences_101 (lv_at hl 5 rfl) ?_
        obtain ⟨n103, s103, hy, hi, hw⟩ := hw
        refine zr_iald hx hb hK hG 0 hy rfl hi kb_Vr_noteDifferences_103 ?_
        refine lv_icmp_ge (tgt := 111) hx hb kb_Vr_noteDifferences_104 (by decide) (fun hc => ?_) (fun hc => ?_)
        · have hw := hw.1 hc
          refine lv_iconst (v := (0 : Int32)) hx hb kb_Vr_noteDifferences_111 (by decide) ?_
          exact hw _ _ _ hG hS (lv_sub hl [1, 2, 3, 4, 5, 6, 7, 0] rfl)
        · have hw := hw.2 hc
          refine lv_iconst (v := (1 : Int32)) hx hb kb_Vr_noteDifferences_107 (by decide) ?_
          refine lv_goto (tgt := 112) hx hb kb_Vr_noteDifferences_108 (by decide) ?_
          exact hw _ _ _ hG hS (lv_sub hl [1, 2, 3, 4, 5, 6, 7, 0] rfl))
  have hw := hw (by
    intro v4 v5 v6 v7 t0 σ hw H locs ls hG hS hl
    refine lv_istore (lv' := [(8, .int t0), (0, .ref a0), (1, .int x1), (2, .ref b2), (3, .ref b3), (4, .int v4), (5, .int v5), (6, .int v6), (7, .int v7)]) hx hb kb_Vr_noteDifferences_112 hl (by decide) rfl (fun ls hl => ?_)
    refine lv_iload hx hb kb_Vr_noteDifferences_114 (lv_at hl 8 rfl) ?_
    refine lv_if_eq (tgt := 138) hx hb kb_Vr_noteDifferences_116 (by decide) (fun hc => ?_) (fun hc => ?_)
    · have hw := hw.1 hc
      refine lv_iload hx hb kb_Vr_noteDifferences_138 (lv_at hl 0 rfl) ?_
      refine lv_if_eq (tgt := 159) hx hb kb_Vr_noteDifferences_140 (by decide) (fun hc => ?_) (fun hc => ?_)
      · have hw := hw.1 hc
        exact hw _ _ _ hG hS (lv_sub hl [1, 2, 3, 4, 5, 6, 7, 8, 0] rfl)
      · have hw := hw.2 hc
        refine lv_aload_n hx hb kb_Vr_noteDifferences_143 rfl (lv_at hl 1 rfl) ?_
        obtain ⟨hy, r144, hrf, hw⟩ := hw
        refine zr_getR (ci := 7) (f := 711) hx hb hts ki_Vr hown hK hG hy rfl 11 (by decide) (hts _ (List.mem_cons_of_mem _ kw_206)) (fun _ h => h) rfl rfl hrf kb_Vr_noteDifferences_144 ?_
        refine lv_iload_n hx hb kb_Vr_noteDifferences_147 rfl (lv_at hl 2 rfl) ?_
        refine lv_aload_n hx hb kb_Vr_noteDifferences_148 rfl (lv_at hl 4 rfl) ?_
        obtain ⟨hy, r149, hrf, hw⟩ := hw
        refine zr_getR (ci := 4) (f := 400) hx hb hts ki_Ro hown hK hG hy rfl 0 (by decide) (hts _ (List.mem_cons_of_mem _ kw_185)) (fun _ h => h) rfl rfl hrf kb_Vr_noteDifferences_149 ?_
        refine lv_iload hx hb kb_Vr_noteDifferences_152 (lv_at hl 6 rfl) ?_
        obtain ⟨n154, s154, hy, hi, hw⟩ := hw
        refine zr_iald hx hb hK hG 0 hy rfl hi kb_Vr_noteDifferences_154 ?_
        refine lv_iconst (v := (1 : Int32)) hx hb kb_Vr_noteDifferences_155 (by decide) ?_
        obtain ⟨hy, hw⟩ := hw
        refine zr_cv (va_runV (C := kR_Si) (As := [.int x1, .int (z_A σ s154 r149 v5.toNatClampNeg), .int ((1 : Int32))]) (rest := []) ⟨hx, hb, hml, hown, hts⟩ (kc_Si_append l D dA Z r144 x1 (z_A σ s154 r149 v5.toNatClampNeg) ((1 : Int32)) σ _) ⟨callB_of 3 hts (z_gw kw_495) rfl rfl rfl (hts _ (List.mem_cons_of_mem _ kw_3)) (hts _ (List.mem_cons_of_mem _ kw_492)) (by decide +kernel) ⟨Nat.le_of_ble_eq_true rfl, Nat.le_of_ble_eq_true rfl⟩, (hts _ (List.mem_cons_of_mem _ kw_493)), (hts _ (List.mem_cons_of_mem _ kw_494))⟩ (z_preV z_nwN (Nat.le_trans hZ hS.1) hG hK hN hy (ci := 6) (r := (kR_Si, kT_Si, 4)) rfl hw) rfl rfl hl.1 rfl (lv_room (Nat.le_of_ble_eq_true rfl)) kb_Vr_noteDifferences_156 ⟨Nat.le_of_ble_eq_true rfl, Nat.le_of_ble_eq_true rfl⟩) hS (fun σ156 H locs hw hG hS => ?_)
        exact hw _ _ _ hG hS (lv_sub hl [1, 2, 3, 4, 5, 6, 7, 8, 0] rfl)
    · have hw := hw.2 hc
      refine lv_aload_n hx hb kb_Vr_noteDifferences_119 rfl (lv_at hl 1 rfl) ?_
      obtain ⟨hy, r120, hrf, hw⟩ := hw
      refine zr_getR (ci := 7) (f := 711) hx hb hts ki_Vr hown hK hG hy rfl 11 (by decide) (hts _ (List.mem_cons_of_mem _ kw_206)) (fun _ h => h) rfl rfl hrf kb_Vr_noteDifferences_120 ?_
      refine lv_iload_n hx hb kb_Vr_noteDifferences_123 rfl (lv_at hl 2 rfl) ?_
      refine lv_aload_n hx hb kb_Vr_noteDifferences_124 rfl (lv_at hl 3 rfl) ?_
      obtain ⟨hy, r125, hrf, hw⟩ := hw
      refine zr_getR (ci := 4) (f := 400) hx hb hts ki_Ro hown hK hG hy rfl 0 (by decide) (hts _ (List.mem_cons_of_mem _ kw_185)) (fun _ h => h) rfl rfl hrf kb_Vr_noteDifferences_125 ?_
      refine lv_iload hx hb kb_Vr_noteDifferences_128 (lv_at hl 5 rfl) ?_
      obtain ⟨n130, s130, hy, hi, hw⟩ := hw
      refine zr_iald hx hb hK hG 0 hy rfl hi kb_Vr_noteDifferences_130 ?_
      refine lv_iconst (v := (-1 : Int32)) hx hb kb_Vr_noteDifferences_131 (by decide) ?_
      obtain ⟨hy, hw⟩ := hw
      refine zr_cv (va_runV (C := kR_Si) (As := [.int x1, .int (z_A σ s130 r125 v4.toNatClampNeg), .int ((-1 : Int32))]) (rest := []) ⟨hx, hb, hml, hown, hts⟩ (kc_Si_append l D dA Z r120 x1 (z_A σ s130 r125 v4.toNatClampNeg) ((-1 : Int32)) σ _) ⟨callB_of 3 hts (z_gw kw_495) rfl rfl rfl (hts _ (List.mem_cons_of_mem _ kw_3)) (hts _ (List.mem_cons_of_mem _ kw_492)) (by decide +kernel) ⟨Nat.le_of_ble_eq_true rfl, Nat.le_of_ble_eq_true rfl⟩, (hts _ (List.mem_cons_of_mem _ kw_493)), (hts _ (List.mem_cons_of_mem _ kw_494))⟩ (z_preV z_nwN (Nat.le_trans hZ hS.1) hG hK hN hy (ci := 6) (r := (kR_Si, kT_Si, 4)) rfl hw) rfl rfl hl.1 rfl (lv_room (Nat.le_of_ble_eq_true rfl)) kb_Vr_noteDifferences_132 ⟨Nat.le_of_ble_eq_true rfl, Nat.le_of_ble_eq_true rfl⟩) hS (fun σ132 H locs hw hG hS => ?_)
      refine lv_goto (tgt := 159) hx hb kb_Vr_noteDifferences_135 (by decide) ?_
      exact hw _ _ _ hG hS (lv_sub hl [1, 2, 3, 4, 5, 6, 7, 8, 0] rfl))
  have hw := hw (by
    intro v4 v5 v6 v7 v8 σ hw H locs ls hG hS hl
    refine lv_iload hx hb kb_Vr_noteDifferences_159 (lv_at hl 4 rfl) ?_
    refine lv_iload hx hb kb_Vr_noteDifferences_161 (lv_at hl 8 rfl) ?_
    refine lv_if_eq (tgt := 170) hx hb kb_Vr_noteDifferences_163 (by decide) (fun hc => ?_) (fun hc => ?_)
    · have hw := hw.1 hc
      refine lv_iconst (v := (1 : Int32)) hx hb kb_Vr_noteDifferences_170 (by decide) ?_
      exact hw _ _ _ hG hS (lv_sub hl [0, 1, 2, 3, 5, 6, 7] rfl)
    · have hw := hw.2 hc
      refine lv_iconst (v := (0 : Int32)) hx hb kb_Vr_noteDifferences_166 (by decide) ?_
      refine lv_goto (tgt := 171) hx hb kb_Vr_noteDifferences_167 (by decide) ?_
      exact hw _ _ _ hG hS (lv_sub hl [0, 1, 2, 3, 5, 6, 7] rfl))
  have hw := hw (by
    intro v5 v6 v7 t0 t1 σ hw H locs ls hG hS hl
    refine lv_iadd hx hb kb_Vr_noteDifferences_171 ?_
    refine lv_istore (lv' := [(4, .int (t0 + t1)), (0, .ref a0), (1, .int x1), (2, .ref b2), (3, .ref b3), (5, .int v5), (6, .int v6), (7, .int v7)]) hx hb kb_Vr_noteDifferences_172 hl (by decide) rfl (fun ls hl => ?_)
    refine lv_iload hx hb kb_Vr_noteDifferences_174 (lv_at hl 5 rfl) ?_
    refine lv_iload hx hb kb_Vr_noteDifferences_176 (lv_at hl 7 rfl) ?_
    refine lv_if_eq (tgt := 185) hx hb kb_Vr_noteDifferences_178 (by decide) (fun hc => ?_) (fun hc => ?_)
    · have hw := hw.1 hc
      refine lv_iconst (v := (1 : Int32)) hx hb kb_Vr_noteDifferences_185 (by decide) ?_
      refine lv_iadd hx hb kb_Vr_noteDifferences_186 ?_
      refine lv_istore (lv' := [(5, .int (v5 + ((1 : Int32)))), (4, .int (t0 + t1)), (0, .ref a0), (1, .int x1), (2, .ref b2), (3, .ref b3), (6, .int v6), (7, .int v7)]) hx hb kb_Vr_noteDifferences_187 hl (by decide) rfl (fun ls hl => ?_)
      refine lv_iinc (v := v6 + (1 : Int32)) (lv' := [(6, .int (v6 + (1 : Int32))), (5, .int (v5 + ((1 : Int32)))), (4, .int (t0 + t1)), (0, .ref a0), (1, .int x1), (2, .ref b2), (3, .ref b3), (7, .int v7)]) hx hb kb_Vr_noteDifferences_189 hl (k := 6) rfl rfl (by decide) rfl (fun ls hl => ?_)
      refine lv_goto (tgt := 9) hx hb kb_Vr_noteDifferences_192 (by decide) ?_
      exact hw _ _ _ hG hS (lv_sub hl [3, 4, 5, 6, 2, 1, 0] rfl)
    · have hw := hw.2 hc
      refine lv_iconst (v := (0 : Int32)) hx hb kb_Vr_noteDifferences_181 (by decide) ?_
      refine lv_goto (tgt := 186) hx hb kb_Vr_noteDifferences_182 (by decide) ?_
      refine lv_iadd hx hb kb_Vr_noteDifferences_186 ?_
      refine lv_istore (lv' := [(5, .int (v5 + ((0 : Int32)))), (4, .int (t0 + t1)), (0, .ref a0), (1, .int x1), (2, .ref b2), (3, .ref b3), (6, .int v6), (7, .int v7)]) hx hb kb_Vr_noteDifferences_187 hl (by decide) rfl (fun ls hl => ?_)
      refine lv_iinc (v := v6 + (1 : Int32)) (lv' := [(6, .int (v6 + (1 : Int32))), (5, .int (v5 + ((0 : Int32)))), (4, .int (t0 + t1)), (0, .ref a0), (1, .int x1), (2, .ref b2), (3, .ref b3), (7, .int v7)]) hx hb kb_Vr_noteDifferences_189 hl (k := 6) rfl rfl (by decide) rfl (fun ls hl => ?_)
      refine lv_goto (tgt := 9) hx hb kb_Vr_noteDifferences_192 (by decide) ?_
      exact hw _ _ _ hG hS (lv_sub hl [3, 4, 5, 6, 2, 1, 0] rfl))
  refine lv_iconst (v := (0 : Int32)) hx hb kb_Vr_noteDifferences_0 (by decide) ?_
  refine lv_istore (lv' := [(4, .int ((0 : Int32))), (0, .ref a0), (1, .int x1), (2, .ref b2), (3, .ref b3)]) hx hb kb_Vr_noteDifferences_1 hl (by decide) rfl (fun ls hl => ?_)
  refine lv_iconst (v := (0 : Int32)) hx hb kb_Vr_noteDifferences_3 (by decide) ?_
  refine lv_istore (lv' := [(5, .int ((0 : Int32))), (4, .int ((0 : Int32))), (0, .ref a0), (1, .int x1), (2, .ref b2), (3, .ref b3)]) hx hb kb_Vr_noteDifferences_4 hl (by decide) rfl (fun ls hl => ?_)
  refine lv_iconst (v := (0 : Int32)) hx hb kb_Vr_noteDifferences_6 (by decide) ?_
  refine lv_istore (lv' := [(6, .int ((0 : Int32))), (5, .int ((0 : Int32))), (4, .int ((0 : Int32))), (0, .ref a0), (1, .int x1), (2, .ref b2), (3, .ref b3)]) hx hb kb_Vr_noteDifferences_7 hl (by decide) rfl (fun ls hl => ?_)
  exact hw _ _ _ hG hS (lv_sub hl [3, 4, 5, 6, 2, 1, 0] rfl)
def kp_Vr_settle (a0 : Nat) (b1 : Nat) (x2 : Int32) (σ : z_S) (Post : Int32 → z_S → Prop) : Prop := ∀ (X6 : Int32 → z_S → Prop) (X54 : Int32 → Int32 → z_S → Prop) (X161 : Int32 → z_S → Prop),
    (∀ (v3 : Int32) (σ : z_S), (z_ty σ b1 = some (.inl 6) ∧ (((z_I σ 603 b1) ≤ v3 → X54 ((0 : Int32)) ((0 : Int32)) σ) ∧ (¬ (z_I σ 603 b1) ≤ v3 → z_ty σ a0 = some (.inl 7) ∧ ∃ r15, z_R σ 707 a0 = some r15 ∧ (z_ty σ b1 = some (.inl 6) ∧ ∃ r19, z_R σ 600 b1 = some r19 ∧ (∃ n23 s23, z_ty σ r19 = some (.inr (0, n23, s23)) ∧ vp_in v3 n23 ∧ (∃ n24 s24, z_ty σ r15 = some (.inr (9, n24, s24)) ∧ vp_in (z_A σ s23 r19 v3.toNatClampNeg) n24 ∧ ∃ r24, z_Q σ s24 r15 (z_A σ s23 r19 v3.toNatClampNeg).toNatClampNeg = some r24 ∧ (z_ty σ b1 = some (.inl 6) ∧ ∃ r26, z_R σ 601 b1 = some r26 ∧ (∃ n30 s30, z_ty σ r26 = some (.inr (0, n30, s30)) ∧ vp_in v3 n30 ∧ (z_ty σ b1 = some (.inl 6) ∧ ∃ r33, z_R σ 602 b1 = some r33 ∧ (∃ n37 s37, z_ty σ r33 = some (.inr (0, n37, s37)) ∧ vp_in v3 n37 ∧ (z_ty σ r24 = some (.inl 4) ∧ kp_Ro_add r24 (z_A σ s30 r26 v3.toNatClampNeg) (x2 * (z_A σ s37 r33 v3.toNatClampNeg)) σ (fun (r39 : Int32) (σ39 : z_S) => X6 (v3 + (1 : Int32)) σ39)))))))))))) → X6 v3 σ) →
    (∀ (v3 : Int32) (v4 : Int32) (σ : z_S), (z_ty σ a0 = some (.inl 7) ∧ ∃ r57, z_R σ 705 a0 = some r57 ∧ (z_ty σ r57 = some (.inl 2) ∧ (((z_I σ 206 r57) ≤ v4 → (¬ v3 = 0 → Post ((-3 : Int32)) σ) ∧ (v3 = 0 → z_ty σ a0 = some (.inl 7) ∧ ∃ r130, z_R σ 712 a0 = some r130 ∧ (z_ty σ a0 = some (.inl 7) ∧ ∃ r134, z_R σ 705 a0 = some r134 ∧ (z_ty σ a0 = some (.inl 7) ∧ ∃ r138, z_R σ 707 a0 = some r138 ∧ (z_ty σ r130 = some (.inl 1) ∧ kp_En_workViews r130 r134 r138 σ (fun (r141 : Int32) (σ141 : z_S) => (¬ r141 = 0 → z_ty σ141 a0 = some (.inl 7) ∧ ∃ r151, z_R σ141 711 a0 = some r151 ∧ (z_ty σ141 r151 = some (.inl 6) ∧ ∀ σ155, σ155 = z_sI σ141 603 r151 ((0 : Int32)) → X161 ((0 : Int32)) σ155)) ∧ (r141 = 0 → Post ((-3 : Int32)) σ141))))))) ∧ (¬ (z_I σ 206 r57) ≤ v4 → z_ty σ a0 = some (.inl 7) ∧ ∃ r67, z_R σ 705 a0 = some r67 ∧ (z_ty σ r67 = some (.inl 2) ∧ kp_Pr_isView r67 v4 σ (fun (r72 : Int32) (σ72 : z_S) => (¬ r72 = 0 → X54 v3 (v4 + (1 : Int32)) σ72) ∧ (r72 = 0 → z_ty σ72 a0 = some (.inl 7) ∧ ∃ r79, z_R σ72 707 a0 = some r79 ∧ (∃ n84 s84, z_ty σ72 r79 = some (.inr (9, n84, s84)) ∧ vp_in v4 n84 ∧ ∃ r84, z_Q σ72 s84 r79 v4.toNatClampNeg = some r84 ∧ (z_ty σ72 r84 = some (.inl 4) ∧ kp_Ro_dropZeros r84 σ72 (fun (r85 : Int32) (σ85 : z_S) => (¬ r85 = 0 → (¬ v3 = 0 → X54 ((1 : Int32)) (v4 + (1 : Int32)) σ85) ∧ (v3 = 0 → z_ty σ85 a0 = some (.inl 7) ∧ ∃ r99, z_R σ85 707 a0 = some r99 ∧ (∃ n104 s104, z_ty σ85 r99 = some (.inr (9, n104, s104)) ∧ vp_in v4 n104 ∧ ∃ r104, z_Q σ85 s104 r99 v4.toNatClampNeg = some r104 ∧ (z_ty σ85 r104 = some (.inl 4) ∧ (((z_I σ85 402 r104) ≤ ((40 : Int32)) → X54 ((0 : Int32)) (v4 + (1 : Int32)) σ85) ∧ (¬ (z_I σ85 402 r104) ≤ ((40 : Int32)) → X54 ((1 : Int32)) (v4 + (1 : Int32)) σ85)))))) ∧ (r85 = 0 → Post ((-2 : Int32)) σ85))))))))))) → X54 v3 v4 σ) →
    (∀ (v4 : Int32) (σ : z_S), (z_ty σ a0 = some (.inl 7) ∧ ∃ r164, z_R σ 705 a0 = some r164 ∧ (z_ty σ r164 = some (.inl 2) ∧ (((z_I σ 206 r164) ≤ v4 → z_ty σ a0 = some (.inl 7) ∧ kp_Vr_takeNext a0 σ (fun (σ212 : z_S) => z_ty σ212 a0 = some (.inl 7) ∧ ∃ r216, z_R σ212 711 a0 = some r216 ∧ (z_ty σ212 r216 = some (.inl 6) ∧ (Post (z_I σ212 603 r216) σ212)))) ∧ (¬ (z_I σ 206 r164) ≤ v4 → z_ty σ a0 = some (.inl 7) ∧ ∃ r174, z_R σ 705 a0 = some r174 ∧ (z_ty σ r174 = some (.inl 2) ∧ kp_Pr_isView r174 v4 σ (fun (r179 : Int32) (σ179 : z_S) => (r179 = 0 → X161 (v4 + (1 : Int32)) σ179) ∧ (¬ r179 = 0 → z_ty σ179 a0 = some (.inl 7) ∧ ∃ r189, z_R σ179 706 a0 = some r189 ∧ (∃ n194 s194, z_ty σ179 r189 = some (.inr (9, n194, s194)) ∧ vp_in v4 n194 ∧ ∃ r194, z_Q σ179 s194 r189 v4.toNatClampNeg = some r194 ∧ (z_ty σ179 a0 = some (.inl 7) ∧ ∃ r196, z_R σ179 707 a0 = some r196 ∧ (∃ n201 s201, z_ty σ179 r196 = some (.inr (9, n201, s201)) ∧ vp_in v4 n201 ∧ ∃ r201, z_Q σ179 s201 r196 v4.toNatClampNeg = some r201 ∧ (z_ty σ179 a0 = some (.inl 7) ∧ kp_Vr_noteDifferences a0 v4 r194 r201 σ179 (fun (σ202 : z_S) => X161 (v4 + (1 : Int32)) σ202)))))))))))) → X161 v4 σ) →
    (z_ty σ a0 = some (.inl 7) ∧ kp_Vr_copyTables a0 σ (fun (σ1 : z_S) => X6 ((0 : Int32)) σ1))
set_option maxHeartbeats 4000000 in
set_option maxRecDepth 100000 in
theorem kc_Vr_settle (l : Launch) (D : va_G) (dA : Nat → ClassId) (Z : Nat) (a0 : Nat) (b1 : Nat) (x2 : Int32) (σ : z_S) (Post : Int32 → z_S → Prop) : Met l km_Vr_settle ks_Vr_settle kr_Vr_settle (va_Pc [.ref a0, .ref b1, .int x2] (fun U => z_U D z_cl z_KT dA Z (z_tys dA) z_nw σ U ∧ kp_Vr_settle  a0 b1 x2 σ Post)) (z_Qi D z_cl z_KT dA Z (z_tys dA) z_nw Post) 0 0 (fun q => Z ≤ q) := by
  refine Met.ofW (cc := prog_1_method_22_code) (maxL := 5) (ret := (some .int)) (by decide) rfl ?_
  intro p e s m args below meth c s₁ B hml hv
  obtain ⟨rfl, ⟨hZ, hG, hK, hN⟩, hw⟩ := hv
  have hx := B.exec
  have hb := B.bytes
  have hr := B.returns
  have hts := atoms_spec (ws := ks_Vr_settle) B.pre
  have hown : s.vm.findClass kR_Vr = some m.cls := findClass_of_methodNamed B.named
  have hlocks := B.notSynchronized
  have hS : va_S (fun q => Z ≤ q) s.heap s.heap [] := va_S.rf
  have hl := lv_entry ([.ref a0, .ref b1, .int x2]) (n := 5) (Nat.le_of_ble_eq_true rfl)
  rw [lg_entry_eq]
  generalize (lg_sl ([.ref a0, .ref b1, .int x2]) ++ List.replicate (5 - (lg_sl ([.ref a0, .ref b1, .int x2])).length) Slot.unset).toArray = ls at hl ⊢
  have hl : lv_has ls 5 [(0, .ref a0), (1, .ref b1), (2, .int x2)] := hl
  unfold kp_Vr_settle at hw
  have hw := hw (fun (v3 : Int32) (σ : z_S) => ∀ (H : Heap) (locs : List Loc) (ls : Array Slot), z_G D z_cl z_KT dA Z σ H → va_S (fun q => Z ≤ q) s.heap H locs → lv_has ls 5 [(0, .ref a0), (1, .ref b1), (2, .int x2), (3, .int v3)] → W p l e (headSpec ks_Vr_settle kr_Vr_settle).room s m ([.ref a0, .ref b1, .int x2] : List Value).toArray below meth c H locs 0 0 (MQ below (z_Qi D z_cl z_KT dA Z (z_tys dA) z_nw Post) ([.ref a0, .ref b1, .int x2] : List Value).toArray s 0 0 (fun q => Z ≤ q)) (F0 m 6 ls []))
  have hw := hw (fun (v3 : Int32) (v4 : Int32) (σ : z_S) => ∀ (H : Heap) (locs : List Loc) (ls : Array Slot), z_G D z_cl z_KT dA Z σ H → va_S (fun q => Z ≤ q) s.heap H locs → lv_has ls 5 [(0, .ref a0), (3, .int v3), (4, .int v4)] → W p l e (headSpec ks_Vr_settle kr_Vr_settle).room s m ([.ref a0, .ref b1, .int x2] : List Value).toArray below meth c H locs 0 0 (MQ below (z_Qi D z_cl z_KT dA Z (z_tys dA) z_nw Post) ([.ref a0, .ref b1, .int x2] : List Value).toArray s 0 0 (fun q => Z ≤ q)) (F0 m 54 ls []))
  have hw := hw (fun (v4 : Int32) (σ : z_S) => ∀ (H : Heap) (locs : List Loc) (ls : Array Slot), z_G D z_cl z_KT dA Z σ H → va_S (fun q => Z ≤ q) s.heap H locs → lv_has ls 5 [(0, .ref a0), (4, .int v4)] → W p l e (headSpec ks_Vr_settle kr_Vr_settle).room s m ([.ref a0, .ref b1, .int x2] : List Value).toArray below meth c H locs 0 0 (MQ below (z_Qi D z_cl z_KT dA Z (z_tys dA) z_nw Post) ([.ref a0, .ref b1, .int x2] : List Value).toArray s 0 0 (fun q => Z ≤ q)) (F0 m 161 ls []))
  have hw := hw (by
    intro v3 σ hw H locs ls hG hS hl
    refine lv_iload_n hx hb kb_Vr_settle_6 rfl (lv_at hl 3 rfl) ?_
    refine lv_aload_n hx hb kb_Vr_settle_7 rfl (lv_at hl 1 rfl) ?_
    obtain ⟨hy, hw⟩ := hw
    refine zr_getI (ci := 6) (f := 603) hx hb hts ki_Si hown hK hG hy rfl 3 (by decide) (hts _ (List.mem_cons_of_mem _ kw_82)) (fun _ h => h) rfl rfl kb_Vr_settle_8 ?_
    refine lv_icmp_ge (tgt := 49) hx hb kb_Vr_settle_11 (by decide) (fun hc => ?_) (fun hc => ?_)
    · have hw := hw.1 hc
      refine lv_iconst (v := (0 : Int32)) hx hb kb_Vr_settle_49 (by decide) ?_
      refine lv_istore_n (lv' := [(3, .int ((0 : Int32))), (0, .ref a0), (1, .ref b1), (2, .int x2)]) hx hb kb_Vr_settle_50 rfl hl (by decide) rfl (fun ls hl => ?_)
      refine lv_iconst (v := (0 : Int32)) hx hb kb_Vr_settle_51 (by decide) ?_
      refine lv_istore (lv' := [(4, .int ((0 : Int32))), (3, .int ((0 : Int32))), (0, .ref a0), (1, .ref b1), (2, .int x2)]) hx hb kb_Vr_settle_52 hl (by decide) rfl (fun ls hl => ?_)
      exact hw _ _ _ hG hS (lv_sub hl [2, 1, 0] rfl)
    · have hw := hw.2 hc
      refine lv_aload_n hx hb kb_Vr_settle_14 rfl (lv_at hl 0 rfl) ?_
      obtain ⟨hy, r15, hrf, hw⟩ := hw
      refine zr_getR (ci := 7) (f := 707) hx hb hts ki_Vr hown hK hG hy rfl 7 (by decide) (hts _ (List.mem_cons_of_mem _ kw_202)) (fun _ h => h) rfl rfl hrf kb_Vr_settle_15 ?_
      refine lv_aload_n hx hb kb_Vr_settle_18 rfl (lv_at hl 1 rfl) ?_
      obtain ⟨hy, r19, hrf, hw⟩ := hw
      refine zr_getR (ci := 6) (f := 600) hx hb hts ki_Si hown hK hG hy rfl 0 (by decide) (hts _ (List.mem_cons_of_mem _ kw_76)) (fun _ h => h) rfl rfl hrf kb_Vr_settle_19 ?_
      refine lv_iload_n hx hb kb_Vr_settle_22 rfl (lv_at hl 3 rfl) ?_
      obtain ⟨n23, s23, hy, hi, hw⟩ := hw
      refine zr_iald hx hb hK hG 0 hy rfl hi kb_Vr_settle_23 ?_
      obtain ⟨n24, s24, hy, hi, r24, hrf, hw⟩ := hw
      refine zr_aald hx hb hK hG 4 (by decide) hy rfl hi hrf kb_Vr_settle_24 ?_
      refine lv_aload_n hx hb kb_Vr_settle_25 rfl (lv_at hl 1 rfl) ?_
      obtain ⟨hy, r26, hrf, hw⟩ := hw
      refine zr_getR (ci := 6) (f := 601) hx hb hts ki_Si hown hK hG hy rfl 1 (by decide) (hts _ (List.mem_cons_of_mem _ kw_78)) (fun _ h => h) rfl rfl hrf kb_Vr_settle_26 ?_
      refine lv_iload_n hx hb kb_Vr_settle_29 rfl (lv_at hl 3 rfl) ?_
      obtain ⟨n30, s30, hy, hi, hw⟩ := hw
      refine zr_iald hx hb hK hG 0 hy rfl hi kb_Vr_settle_30 ?_
      refine lv_iload_n hx hb kb_Vr_settle_31 rfl (lv_at hl 2 rfl) ?_
      refine lv_aload_n hx hb kb_Vr_settle_32 rfl (lv_at hl 1 rfl) ?_
      obtain ⟨hy, r33, hrf, hw⟩ := hw
      refine zr_getR (ci := 6) (f := 602) hx hb hts ki_Si hown hK hG hy rfl 2 (by decide) (hts _ (List.mem_cons_of_mem _ kw_80)) (fun _ h => h) rfl rfl hrf kb_Vr_settle_33 ?_
      refine lv_iload_n hx hb kb_Vr_settle_36 rfl (lv_at hl 3 rfl) ?_
      obtain ⟨n37, s37, hy, hi, hw⟩ := hw
      refine zr_iald hx hb hK hG 0 hy rfl hi kb_Vr_settle_37 ?_
      refine lv_imul hx hb kb_Vr_settle_38 ?_
      obtain ⟨hy, hw⟩ := hw
      refine zr_ci (va_runV (C := kR_Ro) (As := [.int (z_A σ s30 r26 v3.toNatClampNeg), .int (x2 * (z_A σ s37 r33 v3.toNatClampNeg))]) (rest := []) ⟨hx, hb, hml, hown, hts⟩ (kc_Ro_add l D dA Z r24 (z_A σ s30 r26 v3.toNatClampNeg) (x2 * (z_A σ s37 r33 v3.toNatClampNeg)) σ _) ⟨callB_of 2 hts (z_gw kw_428) rfl rfl rfl (hts _ (List.mem_cons_of_mem _ kw_8)) (hts _ (List.mem_cons_of_mem _ kw_510)) (by decide +kernel) ⟨Nat.le_of_ble_eq_true rfl, Nat.le_of_ble_eq_true rfl⟩, (hts _ (List.mem_cons_of_mem _ kw_426)), (hts _ (List.mem_cons_of_mem _ kw_427))⟩ (z_preV z_nwN (Nat.le_trans hZ hS.1) hG hK hN hy (ci := 4) (r := (kR_Ro, kT_Ro, 3)) rfl hw) rfl rfl hl.1 rfl (lv_room (Nat.le_of_ble_eq_true rfl)) kb_Vr_settle_39 ⟨Nat.le_of_ble_eq_true rfl, Nat.le_of_ble_eq_true rfl⟩) hS (fun r39 σ39 H locs hw hG hS => ?_)
      refine lv_pop hx hb kb_Vr_settle_42 rfl ?_
      refine lv_iinc (v := v3 + (1 : Int32)) (lv' := [(3, .int (v3 + (1 : Int32))), (0, .ref a0), (1, .ref b1), (2, .int x2)]) hx hb kb_Vr_settle_43 hl (k := 3) rfl rfl (by decide) rfl (fun ls hl => ?_)
      refine lv_goto (tgt := 6) hx hb kb_Vr_settle_46 (by decide) ?_
      exact hw _ _ _ hG hS (lv_sub hl [1, 2, 3, 0] rfl))
  have hw := hw (by
    intro v3 v4 σ hw H locs ls hG hS hl
    refine lv_iload hx hb kb_Vr_settle_54 (lv_at hl 2 rfl) ?_
    refine lv_aload_n hx hb kb_Vr_settle_56 rfl (lv_at hl 0 rfl) ?_
    obtain ⟨hy, r57, hrf, hw⟩ := hw
    refine zr_getR (ci := 7) (f := 705) hx hb hts ki_Vr hown hK hG hy rfl 5 (by decide) (hts _ (List.mem_cons_of_mem _ kw_200)) (fun _ h => h) rfl rfl hrf kb_Vr_settle_57 ?_
    obtain ⟨hy, hw⟩ := hw
    refine zr_getI (ci := 2) (f := 206) hx hb hts ki_Pr hown hK hG hy rfl 6 (by decide) (hts _ (List.mem_cons_of_mem _ kw_44)) (fun _ h => h) rfl rfl kb_Vr_settle_60 ?_
    refine lv_icmp_ge (tgt := 125) hx hb kb_Vr_settle_63 (by decide) (fun hc => ?_) (fun hc => ?_)
    · have hw := hw.1 hc
      refine lv_iload_n hx hb kb_Vr_settle_125 rfl (lv_at hl 1 rfl) ?_
      refine lv_if_ne (tgt := 147) hx hb kb_Vr_settle_126 (by decide) (fun hc => ?_) (fun hc => ?_)
      · have hw := hw.1 hc
        refine lv_bipush (v := (-3 : Int32)) hx hb kb_Vr_settle_147 (by decide) ?_
        exact zr_iret (free := fun q => Z ≤ q) z_nwN hx hb hr rfl hZ hK hN hG hS hw kb_Vr_settle_149 hlocks
      · have hw := hw.2 hc
        refine lv_aload_n hx hb kb_Vr_settle_129 rfl (lv_at hl 0 rfl) ?_
        obtain ⟨hy, r130, hrf, hw⟩ := hw
        refine zr_getR (ci := 7) (f := 712) hx hb hts ki_Vr hown hK hG hy rfl 12 (by decide) (hts _ (List.mem_cons_of_mem _ kw_207)) (fun _ h => h) rfl rfl hrf kb_Vr_settle_130 ?_
        refine lv_aload_n hx hb kb_Vr_settle_133 rfl (lv_at hl 0 rfl) ?_
        obtain ⟨hy, r134, hrf, hw⟩ := hw
        refine zr_getR (ci := 7) (f := 705) hx hb hts ki_Vr hown hK hG hy rfl 5 (by decide) (hts _ (List.mem_cons_of_mem _ kw_200)) (fun _ h => h) rfl rfl hrf kb_Vr_settle_134 ?_
        refine lv_aload_n hx hb kb_Vr_settle_137 rfl (lv_at hl 0 rfl) ?_
        obtain ⟨hy, r138, hrf, hw⟩ := hw
        refine zr_getR (ci := 7) (f := 707) hx hb hts ki_Vr hown hK hG hy rfl 7 (by decide) (hts _ (List.mem_cons_of_mem _ kw_202)) (fun _ h => h) rfl rfl hrf kb_Vr_settle_138 ?_
        obtain ⟨hy, hw⟩ := hw
        refine zr_ci (va_runV (C := kR_En) (As := [.ref r134, .ref r138]) (rest := []) ⟨hx, hb, hml, hown, hts⟩ (kc_En_workViews l D dA Z r130 r134 r138 σ _) ⟨callB_of 2 hts (z_gw kw_388) rfl rfl rfl (hts _ (List.mem_cons_of_mem _ kw_5)) (hts _ (List.mem_cons_of_mem _ kw_385)) (by decide +kernel) ⟨Nat.le_of_ble_eq_true rfl, Nat.le_of_ble_eq_true rfl⟩, (hts _ (List.mem_cons_of_mem _ kw_386)), (hts _ (List.mem_cons_of_mem _ kw_387))⟩ (z_preV z_nwN (Nat.le_trans hZ hS.1) hG hK hN hy (ci := 1) (r := (kR_En, kT_En, 12)) rfl hw) rfl rfl hl.1 rfl (lv_room (Nat.le_of_ble_eq_true rfl)) kb_Vr_settle_141 ⟨Nat.le_of_ble_eq_true rfl, Nat.le_of_ble_eq_true rfl⟩) hS (fun r141 σ141 H locs hw hG hS => ?_)
        refine lv_if_ne (tgt := 150) hx hb kb_Vr_settle_144 (by decide) (fun hc => ?_) (fun hc => ?_)
        · have hw := hw.1 hc
          refine lv_aload_n hx hb kb_Vr_settle_150 rfl (lv_at hl 0 rfl) ?_
          obtain ⟨hy, r151, hrf, hw⟩ := hw
          refine zr_getR (ci := 7) (f := 711) hx hb hts ki_Vr hown hK hG hy rfl 11 (by decide) (hts _ (List.mem_cons_of_mem _ kw_206)) (fun _ h => h) rfl rfl hrf kb_Vr_settle_151 ?_
          refine lv_iconst (v := (0 : Int32)) hx hb kb_Vr_settle_154 (by decide) ?_
          obtain ⟨hy, hw⟩ := hw
          refine zr_putI (ci := 6) (f := 603) hx hb hts ki_Si ky_Si kyo_Si kn_Si hown hK hG hS hy rfl 3 (by decide) (hts _ (List.mem_cons_of_mem _ kw_82)) (fun _ h => h) rfl rfl rfl rfl rfl kb_Vr_settle_155 (fun H locs hG hS => ?_)
          obtain ⟨σ155, e155⟩ : ∃ z, z = z_sI σ141 603 r151 ((0 : Int32)) := ⟨_, rfl⟩
          rw [← e155] at hG
          have hw := hw _ e155
          refine lv_iconst (v := (0 : Int32)) hx hb kb_Vr_settle_158 (by decide) ?_
          refine lv_istore (lv' := [(4, .int ((0 : Int32))), (0, .ref a0), (3, .int v3)]) hx hb kb_Vr_settle_159 hl (by decide) rfl (fun ls hl => ?_)
          exact hw _ _ _ hG hS (lv_sub hl [1, 0] rfl)
        · have hw := hw.2 hc
          refine lv_bipush (v := (-3 : Int32)) hx hb kb_Vr_settle_147 (by decide) ?_
          exact zr_iret (free := fun q => Z ≤ q) z_nwN hx hb hr rfl hZ hK hN hG hS hw kb_Vr_settle_149 hlocks
    · have hw := hw.2 hc
      refine lv_aload_n hx hb kb_Vr_settle_66 rfl (lv_at hl 0 rfl) ?_
      obtain ⟨hy, r67, hrf, hw⟩ := hw
      refine zr_getR (ci := 7) (f := 705) hx hb hts ki_Vr hown hK hG hy rfl 5 (by decide) (hts _ (List.mem_cons_of_mem _ kw_200)) (fun _ h => h) rfl rfl hrf kb_Vr_settle_67 ?_
      refine lv_iload hx hb kb_Vr_settle_70 (lv_at hl 2 rfl) ?_
      obtain ⟨hy, hw⟩ := hw
      refine zr_ci (va_runV (C := kR_Pr) (As := [.int v4]) (rest := []) ⟨hx, hb, hml, hown, hts⟩ (kc_Pr_isView l D dA Z r67 v4 σ _) ⟨callB_of 1 hts (z_gw kw_324) rfl rfl rfl (hts _ (List.mem_cons_of_mem _ kw_2)) (hts _ (List.mem_cons_of_mem _ kw_481)) (by decide +kernel) ⟨Nat.le_of_ble_eq_true rfl, Nat.le_of_ble_eq_true rfl⟩, (hts _ (List.mem_cons_of_mem _ kw_322)), (hts _ (List.mem_cons_of_mem _ kw_323))⟩ (z_preV z_nwN (Nat.le_trans hZ hS.1) hG hK hN hy (ci := 2) (r := (kR_Pr, kT_Pr, 11)) rfl hw) rfl rfl hl.1 rfl (lv_room (Nat.le_of_ble_eq_true rfl)) kb_Vr_settle_72 ⟨Nat.le_of_ble_eq_true rfl, Nat.le_of_ble_eq_true rfl⟩) hS (fun r72 σ72 H locs hw hG hS => ?_)
      refine lv_if_ne (tgt := 119) hx hb kb_Vr_settle_75 (by decide) (fun hc => ?_) (fun hc => ?_)
      · have hw := hw.1 hc
        refine lv_iinc (v := v4 + (1 : Int32)) (lv' := [(4, .int (v4 + (1 : Int32))), (0, .ref a0), (3, .int v3)]) hx hb kb_Vr_settle_119 hl (k := 2) rfl rfl (by decide) rfl (fun ls hl => ?_)
        refine lv_goto (tgt := 54) hx hb kb_Vr_settle_122 (by decide) ?_
        exact hw _ _ _ hG hS (lv_sub hl [1, 2, 0] rfl)
      · have hw := hw.2 hc
        refine lv_aload_n hx hb kb_Vr_settle_78 rfl (lv_at hl 0 rfl) ?_
        obtain ⟨hy, r79, hrf, hw⟩ := hw
        refine zr_getR (ci := 7) (f := 707) hx hb hts ki_Vr hown hK hG hy rfl 7 (by decide) (hts _ (List.mem_cons_of_mem _ kw_202)) (fun _ h => h) rfl rfl hrf kb_Vr_settle_79 ?_
        refine lv_iload hx hb kb_Vr_settle_82 (lv_at hl 2 rfl) ?_
        obtain ⟨n84, s84, hy, hi, r84, hrf, hw⟩ := hw
        refine zr_aald hx hb hK hG 4 (by decide) hy rfl hi hrf kb_Vr_settle_84 ?_
        obtain ⟨hy, hw⟩ := hw
        refine zr_ci (va_runV (C := kR_Ro) (As := []) (rest := []) ⟨hx, hb, hml, hown, hts⟩ (kc_Ro_dropZeros l D dA Z r84 σ72 _) ⟨callB_of 0 hts (z_gw kw_514) rfl rfl rfl (hts _ (List.mem_cons_of_mem _ kw_8)) (hts _ (List.mem_cons_of_mem _ kw_511)) (by decide +kernel) ⟨Nat.le_of_ble_eq_true rfl, Nat.le_of_ble_eq_true rfl⟩, (hts _ (List.mem_cons_of_mem _ kw_512)), (hts _ (List.mem_cons_of_mem _ kw_513))⟩ (z_preV z_nwN (Nat.le_trans hZ hS.1) hG hK hN hy (ci := 4) (r := (kR_Ro, kT_Ro, 3)) rfl hw) rfl rfl hl.1 rfl (lv_room (Nat.le_of_ble_eq_true rfl)) kb_Vr_settle_85 ⟨Nat.le_of_ble_eq_true rfl, Nat.le_of_ble_eq_true rfl⟩) hS (fun r85 σ85 H locs hw hG hS => ?_)
        refine lv_if_ne (tgt := 94) hx hb kb_Vr_settle_88 (by decide) (fun hc => ?_) (fun hc => ?_)
        · have hw := hw.1 hc
          refine lv_iload_n hx hb kb_Vr_settle_94 rfl (lv_at hl 1 rfl) ?_
          refine lv_if_ne (tgt := 113) hx hb kb_Vr_settle_95 (by decide) (fun hc => ?_) (fun hc => ?_)
          · have hw := hw.1 hc
            refine lv_iconst (v := (1 : Int32)) hx hb kb_Vr_settle_113 (by decide) ?_
            refine lv_goto (tgt := 118) hx hb kb_Vr_settle_114 (by decide) ?_
            refine lv_istore_n (lv' := [(3, .int ((1 : Int32))), (0, .ref a0), (4, .int v4)]) hx hb kb_Vr_settle_118 rfl hl (by decide) rfl (fun ls hl => ?_)
            refine lv_iinc (v := v4 + (1 : Int32)) (lv' := [(4, .int (v4 + (1 : Int32))), (3, .int ((1 : Int32))), (0, .ref a0)]) hx hb kb_Vr_settle_119 hl (k := 2) rfl rfl (by decide) rfl (fun ls hl => ?_)
            refine lv_goto (tgt := 54) hx hb kb_Vr_settle_122 (by decide) ?_
            exact hw _ _ _ hG hS (lv_sub hl [2, 1, 0] rfl)
          · have hw := hw.2 hc
            refine lv_aload_n hx hb kb_Vr_settle_98 rfl (lv_at hl 0 rfl) ?_
            obtain ⟨hy, r99, hrf, hw⟩ := hw
            refine zr_getR (ci := 7) (f := 707) hx hb hts ki_Vr hown hK hG hy rfl 7 (by decide) (hts _ (List.mem_cons_of_mem _ kw_202)) (fun _ h => h) rfl rfl hrf kb_Vr_settle_99 ?_
            refine lv_iload hx hb kb_Vr_settle_102 (lv_at hl 2 rfl) ?_
            obtain ⟨n104, s104, hy, hi, r104, hrf, hw⟩ := hw
            refine zr_aald hx hb hK hG 4 (by decide) hy rfl hi hrf kb_Vr_settle_104 ?_
            obtain ⟨hy, hw⟩ := hw
            refine zr_getI (ci := 4) (f := 402) hx hb hts ki_Ro hown hK hG hy rfl 2 (by decide) (hts _ (List.mem_cons_of_mem _ kw_191)) (fun _ h => h) rfl rfl kb_Vr_settle_105 ?_
            refine lv_bipush (v := (40 : Int32)) hx hb kb_Vr_settle_108 (by decide) ?_
            refine lv_icmp_le (tgt := 117) hx hb kb_Vr_settle_110 (by decide) (fun hc => ?_) (fun hc => ?_)
            · have hw := hw.1 hc
              refine lv_iconst (v := (0 : Int32)) hx hb kb_Vr_settle_117 (by decide) ?_
              refine lv_istore_n (lv' := [(3, .int ((0 : Int32))), (0, .ref a0), (4, .int v4)]) hx hb kb_Vr_settle_118 rfl hl (by decide) rfl (fun ls hl => ?_)
              refine lv_iinc (v := v4 + (1 : Int32)) (lv' := [(4, .int (v4 + (1 : Int32))), (3, .int ((0 : Int32))), (0, .ref a0)]) hx hb kb_Vr_settle_119 hl (k := 2) rfl rfl (by decide) rfl (fun ls hl => ?_)
              refine lv_goto (tgt := 54) hx hb kb_Vr_settle_122 (by decide) ?_
              exact hw _ _ _ hG hS (lv_sub hl [2, 1, 0] rfl)
            · have hw := hw.2 hc
              refine lv_iconst (v := (1 : Int32)) hx hb kb_Vr_settle_113 (by decide) ?_
              refine lv_goto (tgt := 118) hx hb kb_Vr_settle_114 (by decide) ?_
              refine lv_istore_n (lv' := [(3, .int ((1 : Int32))), (0, .ref a0), (4, .int v4)]) hx hb kb_Vr_settle_118 rfl hl (by decide) rfl (fun ls hl => ?_)
              refine lv_iinc (v := v4 + (1 : Int32)) (lv' := [(4, .int (v4 + (1 : Int32))), (3, .int ((1 : Int32))), (0, .ref a0)]) hx hb kb_Vr_settle_119 hl (k := 2) rfl rfl (by decide) rfl (fun ls hl => ?_)
              refine lv_goto (tgt := 54) hx hb kb_Vr_settle_122 (by decide) ?_
              exact hw _ _ _ hG hS (lv_sub hl [2, 1, 0] rfl)
        · have hw := hw.2 hc
          refine lv_bipush (v := (-2 : Int32)) hx hb kb_Vr_settle_91 (by decide) ?_
          exact zr_iret (free := fun q => Z ≤ q) z_nwN hx hb hr rfl hZ hK hN hG hS hw kb_Vr_settle_93 hlocks)
  have hw := hw (by
    intro v4 σ hw H locs ls hG hS hl
    refine lv_iload hx hb kb_Vr_settle_161 (lv_at hl 1 rfl) ?_
    refine lv_aload_n hx hb kb_Vr_settle_163 rfl (lv_at hl 0 rfl) ?_
    obtain ⟨hy, r164, hrf, hw⟩ := hw
    refine zr_getR (ci := 7) (f := 705) hx hb hts ki_Vr hown hK hG hy rfl 5 (by decide) (hts _ (List.mem_cons_of_mem _ kw_200)) (fun _ h => h) rfl rfl hrf kb_Vr_settle_164 ?_
    obtain ⟨hy, hw⟩ := hw
    refine zr_getI (ci := 2) (f := 206) hx hb hts ki_Pr hown hK hG hy rfl 6 (by decide) (hts _ (List.mem_cons_of_mem _ kw_44)) (fun _ h => h) rfl rfl kb_Vr_settle_167 ?_
    refine lv_icmp_ge (tgt := 211) hx hb kb_Vr_settle_170 (by decide) (fun hc => ?_) (fun hc => ?_)
    · have hw := hw.1 hc
      refine lv_aload_n hx hb kb_Vr_settle_211 rfl (lv_at hl 0 rfl) ?_
      obtain ⟨hy, hw⟩ := hw
      refine zr_cv (va_runV (C := kR_Vr) (As := []) (rest := []) ⟨hx, hb, hml, hown, hts⟩ (kc_Vr_takeNext l D dA Z a0 σ _) ⟨callB_of 0 hts (z_gw kw_459) rfl rfl rfl (hts _ (List.mem_cons_of_mem _ kw_1)) (hts _ (List.mem_cons_of_mem _ kw_457)) (by decide +kernel) ⟨Nat.le_of_ble_eq_true rfl, Nat.le_of_ble_eq_true rfl⟩, (hts _ (List.mem_cons_of_mem _ kw_458)), (hts _ (List.mem_cons_of_mem _ kw_944))⟩ (z_preV z_nwN (Nat.le_trans hZ hS.1) hG hK hN hy (ci := 7) (r := (kR_Vr, kT_Vr, 13)) rfl hw) rfl rfl hl.1 rfl (lv_room (Nat.le_of_ble_eq_true rfl)) kb_Vr_settle_212 ⟨Nat.le_of_ble_eq_true rfl, Nat.le_of_ble_eq_true rfl⟩) hS (fun σ212 H locs hw hG hS => ?_)
      refine lv_aload_n hx hb kb_Vr_settle_215 rfl (lv_at hl 0 rfl) ?_
      obtain ⟨hy, r216, hrf, hw⟩ := hw
      refine zr_getR (ci := 7) (f := 711) hx hb hts ki_Vr hown hK hG hy rfl 11 (by decide) (hts _ (List.mem_cons_of_mem _ kw_206)) (fun _ h => h) rfl rfl hrf kb_Vr_settle_216 ?_
      obtain ⟨hy, hw⟩ := hw
      refine zr_getI (ci := 6) (f := 603) hx hb hts ki_Si hown hK hG hy rfl 3 (by decide) (hts _ (List.mem_cons_of_mem _ kw_82)) (fun _ h => h) rfl rfl kb_Vr_settle_219 ?_
      exact zr_iret (free := fun q => Z ≤ q) z_nwN hx hb hr rfl hZ hK hN hG hS hw kb_Vr_settle_222 hlocks
    · have hw := hw.2 hc
      refine lv_aload_n hx hb kb_Vr_settle_173 rfl (lv_at hl 0 rfl) ?_
      obtain ⟨hy, r174, hrf, hw⟩ := hw
      refine zr_getR (ci := 7) (f := 705) hx hb hts ki_Vr hown hK hG hy rfl 5 (by decide) (hts _ (List.mem_cons_of_mem _ kw_200)) (fun _ h => h) rfl rfl hrf kb_Vr_settle_174 ?_
      refine lv_iload hx hb kb_Vr_settle_177 (lv_at hl 1 rfl) ?_
      obtain ⟨hy, hw⟩ := hw
      refine zr_ci (va_runV (C := kR_Pr) (As := [.int v4]) (rest := []) ⟨hx, hb, hml, hown, hts⟩ (kc_Pr_isView l D dA Z r174 v4 σ _) ⟨callB_of 1 hts (z_gw kw_324) rfl rfl rfl (hts _ (List.mem_cons_of_mem _ kw_2)) (hts _ (List.mem_cons_of_mem _ kw_481)) (by decide +kernel) ⟨Nat.le_of_ble_eq_true rfl, Nat.le_of_ble_eq_true rfl⟩, (hts _ (List.mem_cons_of_mem _ kw_322)), (hts _ (List.mem_cons_of_mem _ kw_323))⟩ (z_preV z_nwN (Nat.le_trans hZ hS.1) hG hK hN hy (ci := 2) (r := (kR_Pr, kT_Pr, 11)) rfl hw) rfl rfl hl.1 rfl (lv_room (Nat.le_of_ble_eq_true rfl)) kb_Vr_settle_179 ⟨Nat.le_of_ble_eq_true rfl, Nat.le_of_ble_eq_true rfl⟩) hS (fun r179 σ179 H locs hw hG hS => ?_)
      refine lv_if_eq (tgt := 205) hx hb kb_Vr_settle_182 (by decide) (fun hc => ?_) (fun hc => ?_)
      · have hw := hw.1 hc
        refine lv_iinc (v := v4 + (1 : Int32)) (lv' := [(4, .int (v4 + (1 : Int32))), (0, .ref a0)]) hx hb kb_Vr_settle_205 hl (k := 1) rfl rfl (by decide) rfl (fun ls hl => ?_)
        refine lv_goto (tgt := 161) hx hb kb_Vr_settle_208 (by decide) ?_
        exact hw _ _ _ hG hS (lv_sub hl [1, 0] rfl)
      · have hw := hw.2 hc
        refine lv_aload_n hx hb kb_Vr_settle_185 rfl (lv_at hl 0 rfl) ?_
        refine lv_iload hx hb kb_Vr_settle_186 (lv_at hl 1 rfl) ?_
        refine lv_aload_n hx hb kb_Vr_settle_188 rfl (lv_at hl 0 rfl) ?_
        obtain ⟨hy, r189, hrf, hw⟩ := hw
        refine zr_getR (ci := 7) (f := 706) hx hb hts ki_Vr hown hK hG hy rfl 6 (by decide) (hts _ (List.mem_cons_of_mem _ kw_201)) (fun _ h => h) rfl rfl hrf kb_Vr_settle_189 ?_
        refine lv_iload hx hb kb_Vr_settle_192 (lv_at hl 1 rfl) ?_
        obtain ⟨n194, s194, hy, hi, r194, hrf, hw⟩ := hw
        refine zr_aald hx hb hK hG 4 (by decide) hy rfl hi hrf kb_Vr_settle_194 ?_
        refine lv_aload_n hx hb kb_Vr_settle_195 rfl (lv_at hl 0 rfl) ?_
        obtain ⟨hy, r196, hrf, hw⟩ := hw
        refine zr_getR (ci := 7) (f := 707) hx hb hts ki_Vr hown hK hG hy rfl 7 (by decide) (hts _ (List.mem_cons_of_mem _ kw_202)) (fun _ h => h) rfl rfl hrf kb_Vr_settle_196 ?_
        refine lv_iload hx hb kb_Vr_settle_199 (lv_at hl 1 rfl) ?_
        obtain ⟨n201, s201, hy, hi, r201, hrf, hw⟩ := hw
        refine zr_aald hx hb hK hG 4 (by decide) hy rfl hi hrf kb_Vr_settle_201 ?_
        obtain ⟨hy, hw⟩ := hw
        refine zr_cv (va_runV (C := kR_Vr) (As := [.int v4, .ref r194, .ref r201]) (rest := []) ⟨hx, hb, hml, hown, hts⟩ (kc_Vr_noteDifferences l D dA Z a0 v4 r194 r201 σ179 _) ⟨callB_of 3 hts (z_gw kw_517) rfl rfl rfl (hts _ (List.mem_cons_of_mem _ kw_1)) (hts _ (List.mem_cons_of_mem _ kw_515)) (by decide +kernel) ⟨Nat.le_of_ble_eq_true rfl, Nat.le_of_ble_eq_true rfl⟩, (hts _ (List.mem_cons_of_mem _ kw_516)), (hts _ (List.mem_cons_of_mem _ kw_948))⟩ (z_preV z_nwN (Nat.le_trans hZ hS.1) hG hK hN hy (ci := 7) (r := (kR_Vr, kT_Vr, 13)) rfl hw) rfl rfl hl.1 rfl (lv_room (Nat.le_of_ble_eq_true rfl)) kb_Vr_settle_202 ⟨Nat.le_of_ble_eq_true rfl, Nat.le_of_ble_eq_true rfl⟩) hS (fun σ202 H locs hw hG hS => ?_)
        refine lv_iinc (v := v4 + (1 : Int32)) (lv' := [(4, .int (v4 + (1 : Int32))), (0, .ref a0)]) hx hb kb_Vr_settle_205 hl (k := 1) rfl rfl (by decide) rfl (fun ls hl => ?_)
        refine lv_goto (tgt := 161) hx hb kb_Vr_settle_208 (by decide) ?_
        exact hw _ _ _ hG hS (lv_sub hl [1, 0] rfl))
  refine lv_aload_n hx hb kb_Vr_settle_0 rfl (lv_at hl 0 rfl) ?_
  obtain ⟨hy, hw⟩ := hw
  refine zr_cv (va_runV (C := kR_Vr) (As := []) (rest := []) ⟨hx, hb, hml, hown, hts⟩ (kc_Vr_copyTables l D dA Z a0 σ _) ⟨callB_of 0 hts (z_gw kw_505) rfl rfl rfl (hts _ (List.mem_cons_of_mem _ kw_1)) (hts _ (List.mem_cons_of_mem _ kw_503)) (by decide +kernel) ⟨Nat.le_of_ble_eq_true rfl, Nat.le_of_ble_eq_true rfl⟩, (hts _ (List.mem_cons_of_mem _ kw_504)), (hts _ (List.mem_cons_of_mem _ kw_947))⟩ (z_preV z_nwN (Nat.le_trans hZ hS.1) hG hK hN hy (ci := 7) (r := (kR_Vr, kT_Vr, 13)) rfl hw) rfl rfl hl.1 rfl (lv_room (Nat.le_of_ble_eq_true rfl)) kb_Vr_settle_1 ⟨Nat.le_of_ble_eq_true rfl, Nat.le_of_ble_eq_true rfl⟩) hS (fun σ1 H locs hw hG hS => ?_)
  refine lv_iconst (v := (0 : Int32)) hx hb kb_Vr_settle_4 (by decide) ?_
  refine lv_istore_n (lv' := [(3, .int ((0 : Int32))), (0, .ref a0), (1, .ref b1), (2, .int x2)]) hx hb kb_Vr_settle_5 rfl hl (by decide) rfl (fun ls hl => ?_)
  exact hw _ _ _ hG hS (lv_sub hl [1, 2, 3, 0] rfl)
def kp_Vr_keepForTakingBack (a0 : Nat) (σ : z_S) (Post : z_S → Prop) : Prop := ∀ (X18 : Nat → Int32 → z_S → Prop) (X61 : z_S → Prop),
    (∀ (v1 : Nat) (v2 : Int32) (σ : z_S), ((((6 : Int32)) ≤ v2 → z_ty σ a0 = some (.inl 7) ∧ ∃ r45, z_R σ 709 a0 = some r45 ∧ (∃ n50 s50, z_ty σ r45 = some (.inr (10, n50, s50)) ∧ vp_in ((5 : Int32)) n50 ∧ z_ty σ v1 = some (.inl 6) ∧ ∀ σ50, σ50 = z_sQ σ s50 r45 (va_up (z_Q σ s50 r45) ((5 : Int32)).toNatClampNeg (some v1)) → z_ty σ50 a0 = some (.inl 7) ∧ (z_ty σ50 a0 = some (.inl 7) ∧ ∀ σ58, σ58 = z_sI σ50 710 a0 ((z_I σ50 710 a0) - ((1 : Int32))) → X61 σ58))) ∧ (¬ ((6 : Int32)) ≤ v2 → z_ty σ a0 = some (.inl 7) ∧ ∃ r25, z_R σ 709 a0 = some r25 ∧ (z_ty σ a0 = some (.inl 7) ∧ ∃ r32, z_R σ 709 a0 = some r32 ∧ (∃ n36 s36, z_ty σ r32 = some (.inr (10, n36, s36)) ∧ vp_in v2 n36 ∧ ∃ r36, z_Q σ s36 r32 v2.toNatClampNeg = some r36 ∧ (∃ n37 s37, z_ty σ r25 = some (.inr (10, n37, s37)) ∧ vp_in (v2 - ((1 : Int32))) n37 ∧ z_ty σ r36 = some (.inl 6) ∧ ∀ σ37, σ37 = z_sQ σ s37 r25 (va_up (z_Q σ s37 r25) (v2 - ((1 : Int32))).toNatClampNeg (some r36)) → X18 v1 (v2 + (1 : Int32)) σ37))))) → X18 v1 v2 σ) →
    (∀ (σ : z_S), (z_ty σ a0 = some (.inl 7) ∧ ∃ r62, z_R σ 709 a0 = some r62 ∧ (z_ty σ a0 = some (.inl 7) ∧ (∃ n69 s69, z_ty σ r62 = some (.inr (10, n69, s69)) ∧ vp_in (z_I σ 710 a0) n69 ∧ ∃ r69, z_Q σ s69 r62 (z_I σ 710 a0).toNatClampNeg = some r69 ∧ (z_ty σ a0 = some (.inl 7) ∧ ∃ r72, z_R σ 709 a0 = some r72 ∧ (z_ty σ a0 = some (.inl 7) ∧ (z_ty σ a0 = some (.inl 7) ∧ ∃ r80, z_R σ 708 a0 = some r80 ∧ (∃ n83 s83, z_ty σ r72 = some (.inr (10, n83, s83)) ∧ vp_in (z_I σ 710 a0) n83 ∧ z_ty σ r80 = some (.inl 6) ∧ ∀ σ83, σ83 = z_sQ σ s83 r72 (va_up (z_Q σ s83 r72) (z_I σ 710 a0).toNatClampNeg (some r80)) → z_ty σ83 a0 = some (.inl 7) ∧ ∀ σ86, σ86 = z_sR σ83 708 a0 (some r69) → z_ty σ86 a0 = some (.inl 7) ∧ (z_ty σ86 a0 = some (.inl 7) ∧ ∀ σ96, σ96 = z_sI σ86 710 a0 ((z_I σ86 710 a0) + ((1 : Int32))) → Post σ96)))))))) → X61 σ) →
    (z_ty σ a0 = some (.inl 7) ∧ ((¬ (z_I σ 710 a0) = ((6 : Int32)) → X61 σ) ∧ ((z_I σ 710 a0) = ((6 : Int32)) → z_ty σ a0 = some (.inl 7) ∧ ∃ r10, z_R σ 709 a0 = some r10 ∧ (∃ n14 s14, z_ty σ r10 = some (.inr (10, n14, s14)) ∧ vp_in ((0 : Int32)) n14 ∧ ∃ r14, z_Q σ s14 r10 ((0 : Int32)).toNatClampNeg = some r14 ∧ (X18 r14 ((1 : Int32)) σ)))))
set_option maxHeartbeats 4000000 in
set_option maxRecDepth 100000 in
theorem kc_Vr_keepForTakingBack (l : Launch) (D : va_G) (dA : Nat → ClassId) (Z : Nat) (a0 : Nat) (σ : z_S) (Post : z_S → Prop) : Met l km_Vr_keepForTakingBack ks_Vr_keepForTakingBack kr_Vr_keepForTakingBack (va_Pc [.ref a0] (fun U => z_U D z_cl z_KT dA Z (z_tys dA) z_nw σ U ∧ kp_Vr_keepForTakingBack  a0 σ Post)) (z_Qv D z_cl z_KT dA Z (z_tys dA) z_nw Post) 0 0 (fun q => Z ≤ q) := by
  refine Met.ofW (cc := prog_1_method_24_code) (maxL := 3) (ret := none) (by decide) rfl ?_
  intro p e s m args below meth c s₁ B hml hv
  obtain ⟨rfl, ⟨hZ, hG, hK, hN⟩, hw⟩ := hv
  have hx := B.exec
  have hb := B.bytes
  have hr := B.returns
  have hts := atoms_spec (ws := ks_Vr_keepForTakingBack) B.pre
  have hown : s.vm.findClass kR_Vr = some m.cls := findClass_of_methodNamed B.named
  have hlocks := B.notSynchronized
  have hS : va_S (fun q => Z ≤ q) s.heap s.heap [] := va_S.rf
  have hl := lv_entry ([.ref a0]) (n := 3) (Nat.le_of_ble_eq_true rfl)
  rw [lg_entry_eq]
  generalize (lg_sl ([.ref a0]) ++ List.replicate (3 - (lg_sl ([.ref a0])).length) Slot.unset).toArray = ls at hl ⊢
  have hl : lv_has ls 3 [(0, .ref a0)] := hl
  unfold kp_Vr_keepForTakingBack at hw
  have hw := hw (fun (v1 : Nat) (v2 : Int32) (σ : z_S) => ∀ (H : Heap) (locs : List Loc) (ls : Array Slot), z_G D z_cl z_KT dA Z σ H → va_S (fun q => Z ≤ q) s.heap H locs → lv_has ls 3 [(0, .ref a0), (1, .ref v1), (2, .int v2)] → W p l e (headSpec ks_Vr_keepForTakingBack kr_Vr_keepForTakingBack).room s m ([.ref a0] : List Value).toArray below meth c H locs 0 0 (MQ below (z_Qv D z_cl z_KT dA Z (z_tys dA) z_nw Post) ([.ref a0] : List Value).toArray s 0 0 (fun q => Z ≤ q)) (F0 m 18 ls []))
  have hw := hw (fun (σ : z_S) => ∀ (H : Heap) (locs : List Loc) (ls : Array Slot), z_G D z_cl z_KT dA Z σ H → va_S (fun q => Z ≤ q) s.heap H locs → lv_has ls 3 [(0, .ref a0)] → W p l e (headSpec ks_Vr_keepForTakingBack kr_Vr_keepForTakingBack).room s m ([.ref a0] : List Value).toArray below meth c H locs 0 0 (MQ below (z_Qv D z_cl z_KT dA Z (z_tys dA) z_nw Post) ([.ref a0] : List Value).toArray s 0 0 (fun q => Z ≤ q)) (F0 m 61 ls []))
  have hw := hw (by
    intro v1 v2 σ hw H locs ls hG hS hl
    refine lv_iload_n hx hb kb_Vr_keepForTakingBack_18 rfl (lv_at hl 2 rfl) ?_
    refine lv_bipush (v := (6 : Int32)) hx hb kb_Vr_keepForTakingBack_19 (by decide) ?_
    refine lv_icmp_ge (tgt := 44) hx hb kb_Vr_keepForTakingBack_21 (by decide) (fun hc => ?_) (fun hc => ?_)
    · have hw := hw.1 hc
      refine lv_aload_n hx hb kb_Vr_keepForTakingBack_44 rfl (lv_at hl 0 rfl) ?_
      obtain ⟨hy, r45, hrf, hw⟩ := hw
      refine zr_getR (ci := 7) (f := 709) hx hb hts ki_Vr hown hK hG hy rfl 9 (by decide) (hts _ (List.mem_cons_of_mem _ kw_204)) (fun _ h => h) rfl rfl hrf kb_Vr_keepForTakingBack_45 ?_
      refine lv_iconst (v := (5 : Int32)) hx hb kb_Vr_keepForTakingBack_48 (by decide) ?_
      refine lv_aload_n hx hb kb_Vr_keepForTakingBack_49 rfl (lv_at hl 1 rfl) ?_
      obtain ⟨n50, s50, hy, hi, hv, hw⟩ := hw
      refine zr_aast hx hb hK hG hS 5 6 (by decide) hy rfl hv rfl hi kb_Vr_keepForTakingBack_50 (fun H locs hG hS => ?_)
      obtain ⟨σ50, e50⟩ : ∃ z, z = z_sQ σ s50 r45 (va_up (z_Q σ s50 r45) ((5 : Int32)).toNatClampNeg (some v1)) := ⟨_, rfl⟩
      rw [← e50] at hG
      have hw := hw _ e50
      refine lv_aload_n hx hb kb_Vr_keepForTakingBack_51 rfl (lv_at hl 0 rfl) ?_
      refine lv_dup hx hb kb_Vr_keepForTakingBack_52 rfl ?_
      obtain ⟨hy, hw⟩ := hw
      refine zr_getI (ci := 7) (f := 710) hx hb hts ki_Vr hown hK hG hy rfl 10 (by decide) (hts _ (List.mem_cons_of_mem _ kw_205)) (fun _ h => h) rfl rfl kb_Vr_keepForTakingBack_53 ?_
      refine lv_iconst (v := (1 : Int32)) hx hb kb_Vr_keepForTakingBack_56 (by decide) ?_
      refine lv_isub hx hb kb_Vr_keepForTakingBack_57 ?_
      obtain ⟨hy, hw⟩ := hw
      refine zr_putI (ci := 7) (f := 710) hx hb hts ki_Vr ky_Vr kyo_Vr kn_Vr hown hK hG hS hy rfl 10 (by decide) (hts _ (List.mem_cons_of_mem _ kw_205)) (fun _ h => h) rfl rfl rfl rfl rfl kb_Vr_keepForTakingBack_58 (fun H locs hG hS => ?_)
      obtain ⟨σ58, e58⟩ : ∃ z, z = z_sI σ50 710 a0 ((z_I σ50 710 a0) - ((1 : Int32))) := ⟨_, rfl⟩
      rw [← e58] at hG
      have hw := hw _ e58
      exact hw _ _ _ hG hS (lv_sub hl [0] rfl)
    · have hw := hw.2 hc
      refine lv_aload_n hx hb kb_Vr_keepForTakingBack_24 rfl (lv_at hl 0 rfl) ?_
      obtain ⟨hy, r25, hrf, hw⟩ := hw
      refine zr_getR (ci := 7) (f := 709) hx hb hts ki_Vr hown hK hG hy rfl 9 (by decide) (hts _ (List.mem_cons_of_mem _ kw_204)) (fun _ h => h) rfl rfl hrf kb_Vr_keepForTakingBack_25 ?_
      refine lv_iload_n hx hb kb_Vr_keepForTakingBack_28 rfl (lv_at hl 2 rfl) ?_
      refine lv_iconst (v := (1 : Int32)) hx hb kb_Vr_keepForTakingBack_29 (by decide) ?_
      refine lv_isub hx hb kb_Vr_keepForTakingBack_30 ?_
      refine lv_aload_n hx hb kb_Vr_keepForTakingBack_31 rfl (lv_at hl 0 rfl) ?_
      obtain ⟨hy, r32, hrf, hw⟩ := hw
      refine zr_getR (ci := 7) (f := 709) hx hb hts ki_Vr hown hK hG hy rfl 9 (by decide) (hts _ (List.mem_cons_of_mem _ kw_204)) (fun _ h => h) rfl rfl hrf kb_Vr_keepForTakingBack_32 ?_
      refine lv_iload_n hx hb kb_Vr_keepForTakingBack_35 rfl (lv_at hl 2 rfl) ?_
      obtain ⟨n36, s36, hy, hi, r36, hrf, hw⟩ := hw
      refine zr_aald hx hb hK hG 5 (by decide) hy rfl hi hrf kb_Vr_keepForTakingBack_36 ?_
      obtain ⟨n37, s37, hy, hi, hv, hw⟩ := hw
      refine zr_aast hx hb hK hG hS 5 6 (by decide) hy rfl hv rfl hi kb_Vr_keepForTakingBack_37 (fun H locs hG hS => ?_)
      obtain ⟨σ37, e37⟩ : ∃ z, z = z_sQ σ s37 r25 (va_up (z_Q σ s37 r25) (v2 - ((1 : Int32))).toNatClampNeg (some r36)) := ⟨_, rfl⟩
      rw [← e37] at hG
      have hw := hw _ e37
      refine lv_iinc (v := v2 + (1 : Int32)) (lv' := [(2, .int (v2 + (1 : Int32))), (0, .ref a0), (1, .ref v1)]) hx hb kb_Vr_keepForTakingBack_38 hl (k := 2) rfl rfl (by decide) rfl (fun ls hl => ?_)
      refine lv_goto (tgt := 18) hx hb kb_Vr_keepForTakingBack_41 (by decide) ?_
      exact hw _ _ _ hG hS (lv_sub hl [1, 2, 0] rfl))
  have hw := hw (by
    intro σ hw H locs ls hG hS hl
    refine lv_aload_n hx hb kb_Vr_keepForTakingBack_61 rfl (lv_at hl 0 rfl) ?_
    obtain ⟨hy, r62, hrf, hw⟩ := hw
    refine zr_getR (ci := 7) (f := 709) hx hb hts ki_Vr hown hK hG hy rfl 9 (by decide) (hts _ (List.mem_cons_of_mem _ kw_204)) (fun _ h => h) rfl rfl hrf kb_Vr_keepForTakingBack_62 ?_
    refine lv_aload_n hx hb kb_Vr_keepForTakingBack_65 rfl (lv_at hl 0 rfl) ?_
    obtain ⟨hy, hw⟩ := hw
    refine zr_getI (ci := 7) (f := 710) hx hb hts ki_Vr hown hK hG hy rfl 10 (by decide) (hts _ (List.mem_cons_of_mem _ kw_205)) (fun _ h => h) rfl rfl kb_Vr_keepForTakingBack_66 ?_
    obtain ⟨n69, s69, hy, hi, r69, hrf, hw⟩ := hw
    refine zr_aald hx hb hK hG 5 (by decide) hy rfl hi hrf kb_Vr_keepForTakingBack_69 ?_
    refine lv_astore_n (lv' := [(1, .ref r69), (0, .ref a0)]) hx hb kb_Vr_keepForTakingBack_70 rfl hl (by decide) rfl (fun ls hl => ?_)
    refine lv_aload_n hx hb kb_Vr_keepForTakingBack_71 rfl (lv_at hl 1 rfl) ?_
    obtain ⟨hy, r72, hrf, hw⟩ := hw
    refine zr_getR (ci := 7) (f := 709) hx hb hts ki_Vr hown hK hG hy rfl 9 (by decide) (hts _ (List.mem_cons_of_mem _ kw_204)) (fun _ h => h) rfl rfl hrf kb_Vr_keepForTakingBack_72 ?_
    refine lv_aload_n hx hb kb_Vr_keepForTakingBack_75 rfl (lv_at hl 1 rfl) ?_
    obtain ⟨hy, hw⟩ := hw
    refine zr_getI (ci := 7) (f := 710) hx hb hts ki_Vr hown hK hG hy rfl 10 (by decide) (hts _ (List.mem_cons_of_mem _ kw_205)) (fun _ h => h) rfl rfl kb_Vr_keepForTakingBack_76 ?_
    refine lv_aload_n hx hb kb_Vr_keepForTakingBack_79 rfl (lv_at hl 1 rfl) ?_
    obtain ⟨hy, r80, hrf, hw⟩ := hw
    refine zr_getR (ci := 7) (f := 708) hx hb hts ki_Vr hown hK hG hy rfl 8 (by decide) (hts _ (List.mem_cons_of_mem _ kw_203)) (fun _ h => h) rfl rfl hrf kb_Vr_keepForTakingBack_80 ?_
    obtain ⟨n83, s83, hy, hi, hv, hw⟩ := hw
    refine zr_aast hx hb hK hG hS 5 6 (by decide) hy rfl hv rfl hi kb_Vr_keepForTakingBack_83 (fun H locs hG hS => ?_)
    obtain ⟨σ83, e83⟩ : ∃ z, z = z_sQ σ s83 r72 (va_up (z_Q σ s83 r72) (z_I σ 710 a0).toNatClampNeg (some r80)) := ⟨_, rfl⟩
    rw [← e83] at hG
    have hw := hw _ e83
    refine lv_aload_n hx hb kb_Vr_keepForTakingBack_84 rfl (lv_at hl 1 rfl) ?_
    refine lv_aload_n hx hb kb_Vr_keepForTakingBack_85 rfl (lv_at hl 0 rfl) ?_
    obtain ⟨hy, hw⟩ := hw
    refine zr_putR (ci := 7) (f := 708) hx hb hts ki_Vr ky_Vr kyo_Vr kn_Vr hown hK hG hS hy rfl 8 (by decide) (hts _ (List.mem_cons_of_mem _ kw_203)) (fun _ h => h) rfl rfl rfl rfl rfl kb_Vr_keepForTakingBack_86 (fun H locs hG hS => ?_)
    obtain ⟨σ86, e86⟩ : ∃ z, z = z_sR σ83 708 a0 (some r69) := ⟨_, rfl⟩
    rw [← e86] at hG
    have hw := hw _ e86
    refine lv_aload_n hx hb kb_Vr_keepForTakingBack_89 rfl (lv_at hl 1 rfl) ?_
    refine lv_dup hx hb kb_Vr_keepForTakingBack_90 rfl ?_
    obtain ⟨hy, hw⟩ := hw
    refine zr_getI (ci := 7) (f := 710) hx hb hts ki_Vr hown hK hG hy rfl 10 (by decide) (hts _ (List.mem_cons_of_mem _ kw_205)) (fun _ h => h) rfl rfl kb_Vr_keepForTakingBack_91 ?_
    refine lv_iconst (v := (1 : Int32)) hx hb kb_Vr_keepForTakingBack_94 (by decide) ?_
    refine lv_iadd hx hb kb_Vr_keepForTakingBack_95 ?_
    obtain ⟨hy, hw⟩ := hw
    refine zr_putI (ci := 7) (f := 710) hx hb hts ki_Vr ky_Vr kyo_Vr kn_Vr hown hK hG hS hy rfl 10 (by decide) (hts _ (List.mem_cons_of_mem _ kw_205)) (fun _ h => h) rfl rfl rfl rfl rfl kb_Vr_keepForTakingBack_96 (fun H locs hG hS => ?_)
    obtain ⟨σ96, e96⟩ : ∃ z, z = z_sI σ86 710 a0 ((z_I σ86 710 a0) + ((1 : Int32))) := ⟨_, rfl⟩
    rw [← e96] at hG
    have hw := hw _ e96
    exact zr_vret z_nwN hx hb hr hZ hK hN hG hS hw kb_Vr_keepForTakingBack_99 hlocks)
  refine lv_aload_n hx hb kb_Vr_keepForTakingBack_0 rfl (lv_at hl 0 rfl) ?_
  obtain ⟨hy, hw⟩ := hw
  refine zr_getI (ci := 7) (f := 710) hx hb hts ki_Vr hown hK hG hy rfl 10 (by decide) (hts _ (List.mem_cons_of_mem _ kw_205)) (fun _ h => h) rfl rfl kb_Vr_keepForTakingBack_1 ?_
  refine lv_bipush (v := (6 : Int32)) hx hb kb_Vr_keepForTakingBack_4 (by decide) ?_
  refine lv_icmp_ne (tgt := 61) hx hb kb_Vr_keepForTakingBack_6 (by decide) (fun hc => ?_) (fun hc => ?_)
  · have hw := hw.1 hc
    exact hw _ _ _ hG hS (lv_sub hl [0] rfl)
  · have hw := hw.2 hc
    refine lv_aload_n hx hb kb_Vr_keepForTakingBack_9 rfl (lv_at hl 0 rfl) ?_
    obtain ⟨hy, r10, hrf, hw⟩ := hw
    refine zr_getR (ci := 7) (f := 709) hx hb hts ki_Vr hown hK hG hy rfl 9 (by decide) (hts _ (List.mem_cons_of_mem _ kw_204)) (fun _ h => h) rfl rfl hrf kb_Vr_keepForTakingBack_10 ?_
    refine lv_iconst (v := (0 : Int32)) hx hb kb_Vr_keepForTakingBack_13 (by decide) ?_
    obtain ⟨n14, s14, hy, hi, r14, hrf, hw⟩ := hw
    refine zr_aald hx hb hK hG 5 (by decide) hy rfl hi hrf kb_Vr_keepForTakingBack_14 ?_
    refine lv_astore_n (lv' := [(1, .ref r14), (0, .ref a0)]) hx hb kb_Vr_keepForTakingBack_15 rfl hl (by decide) rfl (fun ls hl => ?_)
    refine lv_iconst (v := (1 : Int32)) hx hb kb_Vr_keepForTakingBack_16 (by decide) ?_
    refine lv_istore_n (lv' := [(2, .int ((1 : Int32))), (1, .ref r14), (0, .ref a0)]) hx hb kb_Vr_keepForTakingBack_17 rfl hl (by decide) rfl (fun ls hl => ?_)
    exact hw _ _ _ hG hS (lv_sub hl [2, 1, 0] rfl)
def kp_Vr_batch (a0 : Nat) (σ : z_S) (Post : Int32 → z_S → Prop) : Prop := ∀ (X28 : Int32 → z_S → Prop),
    (∀ (v1 : Int32) (σ : z_S), (z_ty σ a0 = some (.inl 7) ∧ ∃ r29, z_R σ 708 a0 = some r29 ∧ (z_ty σ r29 = some (.inl 6) ∧ ∀ σ33, σ33 = z_sI σ 603 r29 ((0 : Int32)) → Post v1 σ33)) → X28 v1 σ) →
    (z_ty σ a0 = some (.inl 7) ∧ kp_Vr_hasNoRules a0 σ (fun (r1 : Int32) (σ1 : z_S) => (r1 = 0 → z_ty σ1 a0 = some (.inl 7) ∧ ∃ r12, z_R σ1 708 a0 = some r12 ∧ (z_ty σ1 a0 = some (.inl 7) ∧ kp_Vr_settle a0 r12 ((1 : Int32)) σ1 (fun (r16 : Int32) (σ16 : z_S) => (r16 < 0 → X28 r16 σ16) ∧ (¬ r16 < 0 → z_ty σ16 a0 = some (.inl 7) ∧ kp_Vr_keepForTakingBack a0 σ16 (fun (σ25 : z_S) => X28 r16 σ25))))) ∧ (¬ r1 = 0 → Post ((-4 : Int32)) σ1)))
set_option maxHeartbeats 4000000 in
set_option maxRecDepth 100000 in
theorem kc_Vr_batch (l : Launch) (D : va_G) (dA : Nat → ClassId) (Z : Nat) (a0 : Nat) (σ : z_S) (Post : Int32 → z_S → Prop) : Met l km_Vr_batch ks_Vr_batch kr_Vr_batch (va_Pc [.ref a0] (fun U => z_U D z_cl z_KT dA Z (z_tys dA) z_nw σ U ∧ kp_Vr_batch  a0 σ Post)) (z_Qi D z_cl z_KT dA Z (z_tys dA) z_nw Post) 0 0 (fun q => Z ≤ q) := by
  refine Met.ofW (cc := prog_1_method_9_code) (maxL := 2) (ret := (some .int)) (by decide) rfl ?_
  intro p e s m args below meth c s₁ B hml hv
  obtain ⟨rfl, ⟨hZ, hG, hK, hN⟩, hw⟩ := hv
  have hx := B.exec
  have hb := B.bytes
  have hr := B.returns
  have hts := atoms_spec (ws := ks_Vr_batch) B.pre
  have hown : s.vm.findClass kR_Vr = some m.cls := findClass_of_methodNamed B.named
  have hlocks := B.notSynchronized
  have hS : va_S (fun q => Z ≤ q) s.heap s.heap [] := va_S.rf
  have hl := lv_entry ([.ref a0]) (n := 2) (Nat.le_of_ble_eq_true rfl)
  rw [lg_entry_eq]
  generalize (lg_sl ([.ref a0]) ++ List.replicate (2 - (lg_sl ([.ref a0])).length) Slot.unset).toArray = ls at hl ⊢
  have hl : lv_has ls 2 [(0, .ref a0)] := hl
  unfold kp_Vr_batch at hw
  have hw := hw (fun (v1 : Int32) (σ : z_S) => ∀ (H : Heap) (locs : List Loc) (ls : Array Slot), z_G D z_cl z_KT dA Z σ H → va_S (fun q => Z ≤ q) s.heap H locs → lv_has ls 2 [(0, .ref a0), (1, .int v1)] → W p l e (headSpec ks_Vr_batch kr_Vr_batch).room s m ([.ref a0] : List Value).toArray below meth c H locs 0 0 (MQ below (z_Qi D z_cl z_KT dA Z (z_tys dA) z_nw Post) ([.ref a0] : List Value).toArray s 0 0 (fun q => Z ≤ q)) (F0 m 28 ls []))
  have hw := hw (by
    intro v1 σ hw H locs ls hG hS hl
    refine lv_aload_n hx hb kb_Vr_batch_28 rfl (lv_at hl 0 rfl) ?_
    obtain ⟨hy, r29, hrf, hw⟩ := hw
    refine zr_getR (ci := 7) (f := 708) hx hb hts ki_Vr hown hK hG hy rfl 8 (by decide) (hts _ (List.mem_cons_of_mem _ kw_203)) (fun _ h => h) rfl rfl hrf kb_Vr_batch_29 ?_
    refine lv_iconst (v := (0 : Int32)) hx hb kb_Vr_batch_32 (by decide) ?_
    obtain ⟨hy, hw⟩ := hw
    refine zr_putI (ci := 6) (f := 603) hx hb hts ki_Si ky_Si kyo_Si kn_Si hown hK hG hS hy rfl 3 (by decide) (hts _ (List.mem_cons_of_mem _ kw_82)) (fun _ h => h) rfl rfl rfl rfl rfl kb_Vr_batch_33 (fun H locs hG hS => ?_)
    obtain ⟨σ33, e33⟩ : ∃ z, z = z_sI σ 603 r29 ((0 : Int32)) := ⟨_, rfl⟩
    rw [← e33] at hG
    have hw := hw _ e33
    refine lv_iload_n hx hb kb_Vr_batch_36 rfl (lv_at hl 1 rfl) ?_
    exact zr_iret (free := fun q => Z ≤ q) z_nwN hx hb hr rfl hZ hK hN hG hS hw kb_Vr_batch_37 hlocks)
  refine lv_aload_n hx hb kb_Vr_batch_0 rfl (lv_at hl 0 rfl) ?_
  obtain ⟨hy, hw⟩ := hw
  refine zr_ci (va_runV (C := kR_Vr) (As := []) (rest := []) ⟨hx, hb, hml, hown, hts⟩ (kc_Vr_hasNoRules l D dA Z a0 σ _) ⟨callB_of 0 hts (z_gw kw_474) rfl rfl rfl (hts _ (List.mem_cons_of_mem _ kw_1)) (hts _ (List.mem_cons_of_mem _ kw_472)) (by decide +kernel) ⟨Nat.le_of_ble_eq_true rfl, Nat.le_of_ble_eq_true rfl⟩, (hts _ (List.mem_cons_of_mem _ kw_473)), (hts _ (List.mem_cons_of_mem _ kw_945))⟩ (z_preV z_nwN (Nat.le_trans hZ hS.1) hG hK hN hy (ci := 7) (r := (kR_Vr, kT_Vr, 13)) rfl hw) rfl rfl hl.1 rfl (lv_room (Nat.le_of_ble_eq_true rfl)) kb_Vr_batch_1 ⟨Nat.le_of_ble_eq_true rfl, Nat.le_of_ble_eq_true rfl⟩) hS (fun r1 σ1 H locs hw hG hS => ?_)
  refine lv_if_eq (tgt := 10) hx hb kb_Vr_batch_4 (by decide) (fun hc => ?_) (fun hc => ?_)
  · have hw := hw.1 hc
    refine lv_aload_n hx hb kb_Vr_batch_10 rfl (lv_at hl 0 rfl) ?_
    refine lv_aload_n hx hb kb_Vr_batch_11 rfl (lv_at hl 0 rfl) ?_
    obtain ⟨hy, r12, hrf, hw⟩ := hw
    refine zr_getR (ci := 7) (f := 708) hx hb hts ki_Vr hown hK hG hy rfl 8 (by decide) (hts _ (List.mem_cons_of_mem _ kw_203)) (fun _ h => h) rfl rfl hrf kb_Vr_batch_12 ?_
    refine lv_iconst (v := (1 : Int32)) hx hb kb_Vr_batch_15 (by decide) ?_
    obtain ⟨hy, hw⟩ := hw
    refine zr_ci (va_runV (C := kR_Vr) (As := [.ref r12, .int ((1 : Int32))]) (rest := []) ⟨hx, hb, hml, hown, hts⟩ (kc_Vr_settle l D dA Z a0 r12 ((1 : Int32)) σ1 _) ⟨callB_of 2 hts (z_gw kw_502) rfl rfl rfl (hts _ (List.mem_cons_of_mem _ kw_1)) (hts _ (List.mem_cons_of_mem _ kw_500)) (by decide +kernel) ⟨Nat.le_of_ble_eq_true rfl, Nat.le_of_ble_eq_true rfl⟩, (hts _ (List.mem_cons_of_mem _ kw_501)), (hts _ (List.mem_cons_of_mem _ kw_946))⟩ (z_preV z_nwN (Nat.le_trans hZ hS.1) hG hK hN hy (ci := 7) (r := (kR_Vr, kT_Vr, 13)) rfl hw) rfl rfl hl.1 rfl (lv_room (Nat.le_of_ble_eq_true rfl)) kb_Vr_batch_16 ⟨Nat.le_of_ble_eq_true rfl, Nat.le_of_ble_eq_true rfl⟩) hS (fun r16 σ16 H locs hw hG hS => ?_)
    refine lv_istore_n (lv' := [(1, .int r16), (0, .ref a0)]) hx hb kb_Vr_batch_19 rfl hl (by decide) rfl (fun ls hl => ?_)
    refine lv_iload_n hx hb kb_Vr_batch_20 rfl (lv_at hl 0 rfl) ?_
    refine lv_if_lt (tgt := 28) hx hb kb_Vr_batch_21 (by decide) (fun hc => ?_) (fun hc => ?_)
    · have hw := hw.1 hc
      exact hw _ _ _ hG hS (lv_sub hl [1, 0] rfl)
    · have hw := hw.2 hc
      refine lv_aload_n hx hb kb_Vr_batch_24 rfl (lv_at hl 1 rfl) ?_
      obtain ⟨hy, hw⟩ := hw
      refine zr_cv (va_runV (C := kR_Vr) (As := []) (rest := []) ⟨hx, hb, hml, hown, hts⟩ (kc_Vr_keepForTakingBack l D dA Z a0 σ16 _) ⟨callB_of 0 hts (z_gw kw_520) rfl rfl rfl (hts _ (List.mem_cons_of_mem _ kw_1)) (hts _ (List.mem_cons_of_mem _ kw_518)) (by decide +kernel) ⟨Nat.le_of_ble_eq_true rfl, Nat.le_of_ble_eq_true rfl⟩, (hts _ (List.mem_cons_of_mem _ kw_519)), (hts _ (List.mem_cons_of_mem _ kw_949))⟩ (z_preV z_nwN (Nat.le_trans hZ hS.1) hG hK hN hy (ci := 7) (r := (kR_Vr, kT_Vr, 13)) rfl hw) rfl rfl hl.1 rfl (lv_room (Nat.le_of_ble_eq_true rfl)) kb_Vr_batch_25 ⟨Nat.le_of_ble_eq_true rfl, Nat.le_of_ble_eq_true rfl⟩) hS (fun σ25 H locs hw hG hS => ?_)
      exact hw _ _ _ hG hS (lv_sub hl [1, 0] rfl)
  · have hw := hw.2 hc
    refine lv_bipush (v := (-4 : Int32)) hx hb kb_Vr_batch_7 (by decide) ?_
    exact zr_iret (free := fun q => Z ≤ q) z_nwN hx hb hr rfl hZ hK hN hG hS hw kb_Vr_batch_9 hlocks
def kp_Vr_drop (a0 : Nat) (σ : z_S) (Post : Int32 → z_S → Prop) : Prop :=     (z_ty σ a0 = some (.inl 7) ∧ kp_Vr_hasNoRules a0 σ (fun (r1 : Int32) (σ1 : z_S) => (r1 = 0 → z_ty σ1 a0 = some (.inl 7) ∧ ∃ r11, z_R σ1 708 a0 = some r11 ∧ (z_ty σ1 r11 = some (.inl 6) ∧ (z_ty σ1 a0 = some (.inl 7) ∧ ∃ r19, z_R σ1 708 a0 = some r19 ∧ (z_ty σ1 r19 = some (.inl 6) ∧ ∀ σ23, σ23 = z_sI σ1 603 r19 ((0 : Int32)) → Post (z_I σ1 603 r11) σ23)))) ∧ (¬ r1 = 0 → Post ((-4 : Int32)) σ1)))
set_option maxHeartbeats 4000000 in
set_option maxRecDepth 100000 in
theorem kc_Vr_drop (l : Launch) (D : va_G) (dA : Nat → ClassId) (Z : Nat) (a0 : Nat) (σ : z_S) (Post : Int32 → z_S → Prop) : Met l km_Vr_drop ks_Vr_drop kr_Vr_drop (va_Pc [.ref a0] (fun U => z_U D z_cl z_KT dA Z (z_tys dA) z_nw σ U ∧ kp_Vr_drop  a0 σ Post)) (z_Qi D z_cl z_KT dA Z (z_tys dA) z_nw Post) 0 0 (fun q => Z ≤ q) := by
  refine Met.ofW (cc := prog_1_method_10_code) (maxL := 2) (ret := (some .int)) (by decide) rfl ?_
  intro p e s m args below meth c s₁ B hml hv
  obtain ⟨rfl, ⟨hZ, hG, hK, hN⟩, hw⟩ := hv
  have hx := B.exec
  have hb := B.bytes
  have hr := B.returns
  have hts := atoms_spec (ws := ks_Vr_drop) B.pre
  have hown : s.vm.findClass kR_Vr = some m.cls := findClass_of_methodNamed B.named
  have hlocks := B.notSynchronized
  have hS : va_S (fun q => Z ≤ q) s.heap s.heap [] := va_S.rf
  have hl := lv_entry ([.ref a0]) (n := 2) (Nat.le_of_ble_eq_true rfl)
  rw [lg_entry_eq]
  generalize (lg_sl ([.ref a0]) ++ List.replicate (2 - (lg_sl ([.ref a0])).length) Slot.unset).toArray = ls at hl ⊢
  have hl : lv_has ls 2 [(0, .ref a0)] := hl
  unfold kp_Vr_drop at hw
  refine lv_aload_n hx hb kb_Vr_drop_0 rfl (lv_at hl 0 rfl) ?_
  obtain ⟨hy, hw⟩ := hw
  refine zr_ci (va_runV (C := kR_Vr) (As := []) (rest := []) ⟨hx, hb, hml, hown, hts⟩ (kc_Vr_hasNoRules l D dA Z a0 σ _) ⟨callB_of 0 hts (z_gw kw_474) rfl rfl rfl (hts _ (List.mem_cons_of_mem _ kw_1)) (hts _ (List.mem_cons_of_mem _ kw_472)) (by decide +kernel) ⟨Nat.le_of_ble_eq_true rfl, Nat.le_of_ble_eq_true rfl⟩, (hts _ (List.mem_cons_of_mem _ kw_473)), (hts _ (List.mem_cons_of_mem _ kw_945))⟩ (z_preV z_nwN (Nat.le_trans hZ hS.1) hG hK hN hy (ci := 7) (r := (kR_Vr, kT_Vr, 13)) rfl hw) rfl rfl hl.1 rfl (lv_room (Nat.le_of_ble_eq_true rfl)) kb_Vr_drop_1 ⟨Nat.le_of_ble_eq_true rfl, Nat.le_of_ble_eq_true rfl⟩) hS (fun r1 σ1 H locs hw hG hS => ?_)
  refine lv_if_eq (tgt := 10) hx hb kb_Vr_drop_4 (by decide) (fun hc => ?_) (fun hc => ?_)
  · have hw := hw.1 hc
    refine lv_aload_n hx hb kb_Vr_drop_10 rfl (lv_at hl 0 rfl) ?_
    obtain ⟨hy, r11, hrf, hw⟩ := hw
    refine zr_getR (ci := 7) (f := 708) hx hb hts ki_Vr hown hK hG hy rfl 8 (by decide) (hts _ (List.mem_cons_of_mem _ kw_203)) (fun _ h => h) rfl rfl hrf kb_Vr_drop_11 ?_
    obtain ⟨hy, hw⟩ := hw
    refine zr_getI (ci := 6) (f := 603) hx hb hts ki_Si hown hK hG hy rfl 3 (by decide) (hts _ (List.mem_cons_of_mem _ kw_82)) (fun _ h => h) rfl rfl kb_Vr_drop_14 ?_
    refine lv_istore_n (lv' := [(1, .int (z_I σ1 603 r11)), (0, .ref a0)]) hx hb kb_Vr_drop_17 rfl hl (by decide) rfl (fun ls hl => ?_)
    refine lv_aload_n hx hb kb_Vr_drop_18 rfl (lv_at hl 1 rfl) ?_
    obtain ⟨hy, r19, hrf, hw⟩ := hw
    refine zr_getR (ci := 7) (f := 708) hx hb hts ki_Vr hown hK hG hy rfl 8 (by decide) (hts _ (List.mem_cons_of_mem _ kw_203)) (fun _ h => h) rfl rfl hrf kb_Vr_drop_19 ?_
    refine lv_iconst (v := (0 : Int32)) hx hb kb_Vr_drop_22 (by decide) ?_
    obtain ⟨hy, hw⟩ := hw
    refine zr_putI (ci := 6) (f := 603) hx hb hts ki_Si ky_Si kyo_Si kn_Si hown hK hG hS hy rfl 3 (by decide) (hts _ (List.mem_cons_of_mem _ kw_82)) (fun _ h => h) rfl rfl rfl rfl rfl kb_Vr_drop_23 (fun H locs hG hS => ?_)
    obtain ⟨σ23, e23⟩ : ∃ z, z = z_sI σ1 603 r19 ((0 : Int32)) := ⟨_, rfl⟩
    rw [← e23] at hG
    have hw := hw _ e23
    refine lv_iload_n hx hb kb_Vr_drop_26 rfl (lv_at hl 0 rfl) ?_
    exact zr_iret (free := fun q => Z ≤ q) z_nwN hx hb hr rfl hZ hK hN hG hS hw kb_Vr_drop_27 hlocks
  · have hw := hw.2 hc
    refine lv_bipush (v := (-4 : Int32)) hx hb kb_Vr_drop_7 (by decide) ?_
    exact zr_iret (free := fun q => Z ≤ q) z_nwN hx hb hr rfl hZ hK hN hG hS hw kb_Vr_drop_9 hlocks
def kp_Vr_difference (a0 : Nat) (x1 : Int32) (x2 : Int32) (σ : z_S) (Post : Int32 → z_S → Prop) : Prop :=     (z_ty σ a0 = some (.inl 7) ∧ kp_Vr_hasNoRules a0 σ (fun (r1 : Int32) (σ1 : z_S) => (r1 = 0 → (x2 < 0 → Post ((-2 : Int32)) σ1) ∧ (¬ x2 < 0 → (x2 ≤ ((4 : Int32)) → (x1 < 0 → Post ((-1 : Int32)) σ1) ∧ (¬ x1 < 0 → z_ty σ1 a0 = some (.inl 7) ∧ ∃ r28, z_R σ1 711 a0 = some r28 ∧ (z_ty σ1 r28 = some (.inl 6) ∧ ((x1 < (z_I σ1 603 r28) → (¬ x2 = 0 → (¬ x2 = ((4 : Int32)) → z_ty σ1 a0 = some (.inl 7) ∧ ∃ r71, z_R σ1 711 a0 = some r71 ∧ (z_ty σ1 r71 = some (.inl 6) ∧ ∃ r74, z_R σ1 601 r71 = some r74 ∧ (∃ n78 s78, z_ty σ1 r74 = some (.inr (0, n78, s78)) ∧ vp_in x1 n78 ∧ (kp_Vr_valueAt (z_A σ1 s78 r74 x1.toNatClampNeg) (x2 - ((1 : Int32))) σ1 (fun (r82 : Int32) (σ82 : z_S) => Post r82 σ82))))) ∧ (x2 = ((4 : Int32)) → z_ty σ1 a0 = some (.inl 7) ∧ ∃ r59, z_R σ1 711 a0 = some r59 ∧ (z_ty σ1 r59 = some (.inl 6) ∧ ∃ r62, z_R σ1 602 r59 = some r62 ∧ (∃ n66 s66, z_ty σ1 r62 = some (.inr (0, n66, s66)) ∧ vp_in x1 n66 ∧ (Post (z_A σ1 s66 r62 x1.toNatClampNeg) σ1))))) ∧ (x2 = 0 → z_ty σ1 a0 = some (.inl 7) ∧ ∃ r44, z_R σ1 711 a0 = some r44 ∧ (z_ty σ1 r44 = some (.inl 6) ∧ ∃ r47, z_R σ1 600 r44 = some r47 ∧ (∃ n51 s51, z_ty σ1 r47 = some (.inr (0, n51, s51)) ∧ vp_in x1 n51 ∧ (Post (z_A σ1 s51 r47 x1.toNatClampNeg) σ1))))) ∧ (¬ x1 < (z_I σ1 603 r28) → Post ((-1 : Int32)) σ1))))) ∧ (¬ x2 ≤ ((4 : Int32)) → Post ((-2 : Int32)) σ1))) ∧ (¬ r1 = 0 → Post ((-4 : Int32)) σ1)))
set_option maxHeartbeats 4000000 in
set_option maxRecDepth 100000 in
theorem kc_Vr_difference (l : Launch) (D : va_G) (dA : Nat → ClassId) (Z : Nat) (a0 : Nat) (x1 : Int32) (x2 : Int32) (σ : z_S) (Post : Int32 → z_S → Prop) : Met l km_Vr_difference ks_Vr_difference kr_Vr_difference (va_Pc [.ref a0, .int x1, .int x2] (fun U => z_U D z_cl z_KT dA Z (z_tys dA) z_nw σ U ∧ kp_Vr_difference  a0 x1 x2 σ Post)) (z_Qi D z_cl z_KT dA Z (z_tys dA) z_nw Post) 0 0 (fun q => Z ≤ q) := by
  refine Met.ofW (cc := prog_1_method_11_code) (maxL := 3) (ret := (some .int)) (by decide) rfl ?_
  intro p e s m args below meth c s₁ B hml hv
  obtain ⟨rfl, ⟨hZ, hG, hK, hN⟩, hw⟩ := hv
  have hx := B.exec
  have hb := B.bytes
  have hr := B.returns
  have hts := atoms_spec (ws := ks_Vr_difference) B.pre
  have hown : s.vm.findClass kR_Vr = some m.cls := findClass_of_methodNamed B.named
  have hlocks := B.notSynchronized
  have hS : va_S (fun q => Z ≤ q) s.heap s.heap [] := va_S.rf
  have hl := lv_entry ([.ref a0, .int x1, .int x2]) (n := 3) (Nat.le_of_ble_eq_true rfl)
  rw [lg_entry_eq]
  generalize (lg_sl ([.ref a0, .int x1, .int x2]) ++ List.replicate (3 - (lg_sl ([.ref a0, .int x1, .int x2])).length) Slot.unset).toArray = ls at hl ⊢
  have hl : lv_has ls 3 [(0, .ref a0), (1, .int x1), (2, .int x2)] := hl
  unfold kp_Vr_difference at hw
  refine lv_aload_n hx hb kb_Vr_difference_0 rfl (lv_at hl 0 rfl) ?_
  obtain ⟨hy, hw⟩ := hw
  refine zr_ci (va_runV (C := kR_Vr) (As := []) (rest := []) ⟨hx, hb, hml, hown, hts⟩ (kc_Vr_hasNoRules l D dA Z a0 σ _) ⟨callB_of 0 hts (z_gw kw_474) rfl rfl rfl (hts _ (List.mem_cons_of_mem _ kw_1)) (hts _ (List.mem_cons_of_mem _ kw_472)) (by decide +kernel) ⟨Nat.le_of_ble_eq_true rfl, Nat.le_of_ble_eq_true rfl⟩, (hts _ (List.mem_cons_of_mem _ kw_473)), (hts _ (List.mem_cons_of_mem _ kw_945))⟩ (z_preV z_nwN (Nat.le_trans hZ hS.1) hG hK hN hy (ci := 7) (r := (kR_Vr, kT_Vr, 13)) rfl hw) rfl rfl hl.1 rfl (lv_room (Nat.le_of_ble_eq_true rfl)) kb_Vr_difference_1 ⟨Nat.le_of_ble_eq_true rfl, Nat.le_of_ble_eq_true rfl⟩) hS (fun r1 σ1 H locs hw hG hS => ?_)
  refine lv_if_eq (tgt := 10) hx hb kb_Vr_difference_4 (by decide) (fun hc => ?_) (fun hc => ?_)
  · have hw := hw.1 hc
    refine lv_iload_n hx hb kb_Vr_difference_10 rfl (lv_at hl 2 rfl) ?_
    refine lv_if_lt (tgt := 19) hx hb kb_Vr_difference_11 (by decide) (fun hc => ?_) (fun hc => ?_)
    · have hw := hw.1 hc
      refine lv_bipush (v := (-2 : Int32)) hx hb kb_Vr_difference_19 (by decide) ?_
      exact zr_iret (free := fun q => Z ≤ q) z_nwN hx hb hr rfl hZ hK hN hG hS hw kb_Vr_difference_21 hlocks
    · have hw := hw.2 hc
      refine lv_iload_n hx hb kb_Vr_difference_14 rfl (lv_at hl 2 rfl) ?_
      refine lv_iconst (v := (4 : Int32)) hx hb kb_Vr_difference_15 (by decide) ?_
      refine lv_icmp_le (tgt := 22) hx hb kb_Vr_difference_16 (by decide) (fun hc => ?_) (fun hc => ?_)
      · have hw := hw.1 hc
        refine lv_iload_n hx hb kb_Vr_difference_22 rfl (lv_at hl 1 rfl) ?_
        refine lv_if_lt (tgt := 37) hx hb kb_Vr_difference_23 (by decide) (fun hc => ?_) (fun hc => ?_)
        · have hw := hw.1 hc
          refine lv_iconst (v := (-1 : Int32)) hx hb kb_Vr_difference_37 (by decide) ?_
          exact zr_iret (free := fun q => Z ≤ q) z_nwN hx hb hr rfl hZ hK hN hG hS hw kb_Vr_difference_38 hlocks
        · have hw := hw.2 hc
          refine lv_iload_n hx hb kb_Vr_difference_26 rfl (lv_at hl 1 rfl) ?_
          refine lv_aload_n hx hb kb_Vr_difference_27 rfl (lv_at hl 0 rfl) ?_
          obtain ⟨hy, r28, hrf, hw⟩ := hw
          refine zr_getR (ci := 7) (f := 711) hx hb hts ki_Vr hown hK hG hy rfl 11 (by decide) (hts _ (List.mem_cons_of_mem _ kw_206)) (fun _ h => h) rfl rfl hrf kb_Vr_difference_28 ?_
          obtain ⟨hy, hw⟩ := hw
          refine zr_getI (ci := 6) (f := 603) hx hb hts ki_Si hown hK hG hy rfl 3 (by decide) (hts _ (List.mem_cons_of_mem _ kw_82)) (fun _ h => h) rfl rfl kb_Vr_difference_31 ?_
          refine lv_icmp_lt (tgt := 39) hx hb kb_Vr_difference_34 (by decide) (fun hc => ?_) (fun hc => ?_)
          · have hw := hw.1 hc
            refine lv_iload_n hx hb kb_Vr_difference_39 rfl (lv_at hl 2 rfl) ?_
            refine lv_if_ne (tgt := 53) hx hb kb_Vr_difference_40 (by decide) (fun hc => ?_) (fun hc => ?_)
            · have hw := hw.1 hc
              refine lv_iload_n hx hb kb_Vr_difference_53 rfl (lv_at hl 2 rfl) ?_
              refine lv_iconst (v := (4 : Int32)) hx hb kb_Vr_difference_54 (by decide) ?_
              refine lv_icmp_ne (tgt := 70) hx hb kb_Vr_difference_55 (by decide) (fun hc => ?_) (fun hc => ?_)
              · have hw := hw.1 hc
                refine lv_aload_n hx hb kb_Vr_difference_70 rfl (lv_at hl 0 rfl) ?_
                obtain ⟨hy, r71, hrf, hw⟩ := hw
                refine zr_getR (ci := 7) (f := 711) hx hb hts ki_Vr hown hK hG hy rfl 11 (by decide) (hts _ (List.mem_cons_of_mem _ kw_206)) (fun _ h => h) rfl rfl hrf kb_Vr_difference_71 ?_
                obtain ⟨hy, r74, hrf, hw⟩ := hw
                refine zr_getR (ci := 6) (f := 601) hx hb hts ki_Si hown hK hG hy rfl 1 (by decide) (hts _ (List.mem_cons_of_mem _ kw_78)) (fun _ h => h) rfl rfl hrf kb_Vr_difference_74 ?_
                refine lv_iload_n hx hb kb_Vr_difference_77 rfl (lv_at hl 1 rfl) ?_
                obtain ⟨n78, s78, hy, hi, hw⟩ := hw
                refine zr_iald hx hb hK hG 0 hy rfl hi kb_Vr_difference_78 ?_
                refine lv_iload_n hx hb kb_Vr_difference_79 rfl (lv_at hl 2 rfl) ?_
                refine lv_iconst (v := (1 : Int32)) hx hb kb_Vr_difference_80 (by decide) ?_
                refine lv_isub hx hb kb_Vr_difference_81 ?_
                refine zr_ci (va_runS (As := [.int (z_A σ1 s78 r74 x1.toNatClampNeg), .int (x2 - ((1 : Int32)))]) (rest := []) ⟨hx, hb, hml, hown, hts⟩ (kc_Vr_valueAt l D dA Z (z_A σ1 s78 r74 x1.toNatClampNeg) (x2 - ((1 : Int32))) σ1 _) ⟨callB_of 2 hts (z_gw kw_450) rfl rfl rfl (hts _ (List.mem_cons_of_mem _ kw_1)) (hts _ (List.mem_cons_of_mem _ kw_529)) (by decide +kernel) ⟨Nat.le_of_ble_eq_true rfl, Nat.le_of_ble_eq_true rfl⟩, (hts _ (List.mem_cons_of_mem _ kw_449))⟩ (z_preS z_nwN (Nat.le_trans hZ hS.1) hG hK hN hw) rfl rfl hl.1 rfl (lv_room (Nat.le_of_ble_eq_true rfl)) kb_Vr_difference_82 ⟨Nat.le_of_ble_eq_true rfl, Nat.le_of_ble_eq_true rfl⟩) hS (fun r82 σ82 H locs hw hG hS => ?_)
                exact zr_iret (free := fun q => Z ≤ q) z_nwN hx hb hr rfl hZ hK hN hG hS hw kb_Vr_difference_85 hlocks
              · have hw := hw.2 hc
                refine lv_aload_n hx hb kb_Vr_difference_58 rfl (lv_at hl 0 rfl) ?_
                obtain ⟨hy, r59, hrf, hw⟩ := hw
                refine zr_getR (ci := 7) (f := 711) hx hb hts ki_Vr hown hK hG hy rfl 11 (by decide) (hts _ (List.mem_cons_of_mem _ kw_206)) (fun _ h => h) rfl rfl hrf kb_Vr_difference_59 ?_
                obtain ⟨hy, r62, hrf, hw⟩ := hw
                refine zr_getR (ci := 6) (f := 602) hx hb hts ki_Si hown hK hG hy rfl 2 (by decide) (hts _ (List.mem_cons_of_mem _ kw_80)) (fun _ h => h) rfl rfl hrf kb_Vr_difference_62 ?_
                refine lv_iload_n hx hb kb_Vr_difference_65 rfl (lv_at hl 1 rfl) ?_
                obtain ⟨n66, s66, hy, hi, hw⟩ := hw
                refine zr_iald hx hb hK hG 0 hy rfl hi kb_Vr_difference_66 ?_
                refine lv_goto (tgt := 85) hx hb kb_Vr_difference_67 (by decide) ?_
                exact zr_iret (free := fun q => Z ≤ q) z_nwN hx hb hr rfl hZ hK hN hG hS hw kb_Vr_difference_85 hlocks
            · have hw := hw.2 hc
              refine lv_aload_n hx hb kb_Vr_difference_43 rfl (lv_at hl 0 rfl) ?_
              obtain ⟨hy, r44, hrf, hw⟩ := hw
              refine zr_getR (ci := 7) (f := 711) hx hb hts ki_Vr hown hK hG hy rfl 11 (by decide) (hts _ (List.mem_cons_of_mem _ kw_206)) (fun _ h => h) rfl rfl hrf kb_Vr_difference_44 ?_
              obtain ⟨hy, r47, hrf, hw⟩ := hw
              refine zr_getR (ci := 6) (f := 600) hx hb hts ki_Si hown hK hG hy rfl 0 (by decide) (hts _ (List.mem_cons_of_mem _ kw_76)) (fun _ h => h) rfl rfl hrf kb_Vr_difference_47 ?_
              refine lv_iload_n hx hb kb_Vr_difference_50 rfl (lv_at hl 1 rfl) ?_
              obtain ⟨n51, s51, hy, hi, hw⟩ := hw
              refine zr_iald hx hb hK hG 0 hy rfl hi kb_Vr_difference_51 ?_
              exact zr_iret (free := fun q => Z ≤ q) z_nwN hx hb hr rfl hZ hK hN hG hS hw kb_Vr_difference_52 hlocks
          · have hw := hw.2 hc
            refine lv_iconst (v := (-1 : Int32)) hx hb kb_Vr_difference_37 (by decide) ?_
            exact zr_iret (free := fun q => Z ≤ q) z_nwN hx hb hr rfl hZ hK hN hG hS hw kb_Vr_difference_38 hlocks
      · have hw := hw.2 hc
        refine lv_bipush (v := (-2 : Int32)) hx hb kb_Vr_difference_19 (by decide) ?_
        exact zr_iret (free := fun q => Z ≤ q) z_nwN hx hb hr rfl hZ hK hN hG hS hw kb_Vr_difference_21 hlocks
  · have hw := hw.2 hc
    refine lv_bipush (v := (-4 : Int32)) hx hb kb_Vr_difference_7 (by decide) ?_
    exact zr_iret (free := fun q => Z ≤ q) z_nwN hx hb hr rfl hZ hK hN hG hS hw kb_Vr_difference_9 hlocks
def kp_Vr_undo (a0 : Nat) (σ : z_S) (Post : Int32 → z_S → Prop) : Prop :=     (z_ty σ a0 = some (.inl 7) ∧ kp_Vr_hasNoRules a0 σ (fun (r1 : Int32) (σ1 : z_S) => (r1 = 0 → z_ty σ1 a0 = some (.inl 7) ∧ ((((1 : Int32)) ≤ (z_I σ1 710 a0) → z_ty σ1 a0 = some (.inl 7) ∧ ∃ r22, z_R σ1 709 a0 = some r22 ∧ (z_ty σ1 a0 = some (.inl 7) ∧ (∃ n31 s31, z_ty σ1 r22 = some (.inr (10, n31, s31)) ∧ vp_in ((z_I σ1 710 a0) - ((1 : Int32))) n31 ∧ ∃ r31, z_Q σ1 s31 r22 ((z_I σ1 710 a0) - ((1 : Int32))).toNatClampNeg = some r31 ∧ (z_ty σ1 a0 = some (.inl 7) ∧ kp_Vr_settle a0 r31 ((-1 : Int32)) σ1 (fun (r33 : Int32) (σ33 : z_S) => (r33 < 0 → Post r33 σ33) ∧ (¬ r33 < 0 → z_ty σ33 a0 = some (.inl 7) ∧ (z_ty σ33 a0 = some (.inl 7) ∧ ∀ σ48, σ48 = z_sI σ33 710 a0 ((z_I σ33 710 a0) - ((1 : Int32))) → Post r33 σ48))))))) ∧ (¬ ((1 : Int32)) ≤ (z_I σ1 710 a0) → Post ((-1 : Int32)) σ1))) ∧ (¬ r1 = 0 → Post ((-4 : Int32)) σ1)))
set_option maxHeartbeats 4000000 in
set_option maxRecDepth 100000 in
theorem kc_Vr_undo (l : Launch) (D : va_G) (dA : Nat → ClassId) (Z : Nat) (a0 : Nat) (σ : z_S) (Post : Int32 → z_S → Prop) : Met l km_Vr_undo ks_Vr_undo kr_Vr_undo (va_Pc [.ref a0] (fun U => z_U D z_cl z_KT dA Z (z_tys dA) z_nw σ U ∧ kp_Vr_undo  a0 σ Post)) (z_Qi D z_cl z_KT dA Z (z_tys dA) z_nw Post) 0 0 (fun q => Z ≤ q) := by
  refine Met.ofW (cc := prog_1_method_12_code) (maxL := 2) (ret := (some .int)) (by decide) rfl ?_
  intro p e s m args below meth c s₁ B hml hv
  obtain ⟨rfl, ⟨hZ, hG, hK, hN⟩, hw⟩ := hv
  have hx := B.exec
  have hb := B.bytes
  have hr := B.returns
  have hts := atoms_spec (ws := ks_Vr_undo) B.pre
  have hown : s.vm.findClass kR_Vr = some m.cls := findClass_of_methodNamed B.named
  have hlocks := B.notSynchronized
  have hS : va_S (fun q => Z ≤ q) s.heap s.heap [] := va_S.rf
  have hl := lv_entry ([.ref a0]) (n := 2) (Nat.le_of_ble_eq_true rfl)
  rw [lg_entry_eq]
  generalize (lg_sl ([.ref a0]) ++ List.replicate (2 - (lg_sl ([.ref a0])).length) Slot.unset).toArray = ls at hl ⊢
  have hl : lv_has ls 2 [(0, .ref a0)] := hl
  unfold kp_Vr_undo at hw
  refine lv_aload_n hx hb kb_Vr_undo_0 rfl (lv_at hl 0 rfl) ?_
  obtain ⟨hy, hw⟩ := hw
  refine zr_ci (va_runV (C := kR_Vr) (As := []) (rest := []) ⟨hx, hb, hml, hown, hts⟩ (kc_Vr_hasNoRules l D dA Z a0 σ _) ⟨callB_of 0 hts (z_gw kw_474) rfl rfl rfl (hts _ (List.mem_cons_of_mem _ kw_1)) (hts _ (List.mem_cons_of_mem _ kw_472)) (by decide +kernel) ⟨Nat.le_of_ble_eq_true rfl, Nat.le_of_ble_eq_true rfl⟩, (hts _ (List.mem_cons_of_mem _ kw_473)), (hts _ (List.mem_cons_of_mem _ kw_945))⟩ (z_preV z_nwN (Nat.le_trans hZ hS.1) hG hK hN hy (ci := 7) (r := (kR_Vr, kT_Vr, 13)) rfl hw) rfl rfl hl.1 rfl (lv_room (Nat.le_of_ble_eq_true rfl)) kb_Vr_undo_1 ⟨Nat.le_of_ble_eq_true rfl, Nat.le_of_ble_eq_true rfl⟩) hS (fun r1 σ1 H locs hw hG hS => ?_)
  refine lv_if_eq (tgt := 10) hx hb kb_Vr_undo_4 (by decide) (fun hc => ?_) (fun hc => ?_)
  · have hw := hw.1 hc
    refine lv_aload_n hx hb kb_Vr_undo_10 rfl (lv_at hl 0 rfl) ?_
    obtain ⟨hy, hw⟩ := hw
    refine zr_getI (ci := 7) (f := 710) hx hb hts ki_Vr hown hK hG hy rfl 10 (by decide) (hts _ (List.mem_cons_of_mem _ kw_205)) (fun _ h => h) rfl rfl kb_Vr_undo_11 ?_
    refine lv_iconst (v := (1 : Int32)) hx hb kb_Vr_undo_14 (by decide) ?_
    refine lv_icmp_ge (tgt := 20) hx hb kb_Vr_undo_15 (by decide) (fun hc => ?_) (fun hc => ?_)
    · have hw := hw.1 hc
      refine lv_aload_n hx hb kb_Vr_undo_20 rfl (lv_at hl 0 rfl) ?_
      refine lv_aload_n hx hb kb_Vr_undo_21 rfl (lv_at hl 0 rfl) ?_
      obtain ⟨hy, r22, hrf, hw⟩ := hw
      refine zr_getR (ci := 7) (f := 709) hx hb hts ki_Vr hown hK hG hy rfl 9 (by decide) (hts _ (List.mem_cons_of_mem _ kw_204)) (fun _ h => h) rfl rfl hrf kb_Vr_undo_22 ?_
      refine lv_aload_n hx hb kb_Vr_undo_25 rfl (lv_at hl 0 rfl) ?_
      obtain ⟨hy, hw⟩ := hw
      refine zr_getI (ci := 7) (f := 710) hx hb hts ki_Vr hown hK hG hy rfl 10 (by decide) (hts _ (List.mem_cons_of_mem _ kw_205)) (fun _ h => h) rfl rfl kb_Vr_undo_26 ?_
      refine lv_iconst (v := (1 : Int32)) hx hb kb_Vr_undo_29 (by decide) ?_
      refine lv_isub hx hb kb_Vr_undo_30 ?_
      obtain ⟨n31, s31, hy, hi, r31, hrf, hw⟩ := hw
      refine zr_aald hx hb hK hG 5 (by decide) hy rfl hi hrf kb_Vr_undo_31 ?_
      refine lv_iconst (v := (-1 : Int32)) hx hb kb_Vr_undo_32 (by decide) ?_
      obtain ⟨hy, hw⟩ := hw
      refine zr_ci (va_runV (C := kR_Vr) (As := [.ref r31, .int ((-1 : Int32))]) (rest := []) ⟨hx, hb, hml, hown, hts⟩ (kc_Vr_settle l D dA Z a0 r31 ((-1 : Int32)) σ1 _) ⟨callB_of 2 hts (z_gw kw_502) rfl rfl rfl (hts _ (List.mem_cons_of_mem _ kw_1)) (hts _ (List.mem_cons_of_mem _ kw_500)) (by decide +kernel) ⟨Nat.le_of_ble_eq_true rfl, Nat.le_of_ble_eq_true rfl⟩, (hts _ (List.mem_cons_of_mem _ kw_501)), (hts _ (List.mem_cons_of_mem _ kw_946))⟩ (z_preV z_nwN (Nat.le_trans hZ hS.1) hG hK hN hy (ci := 7) (r := (kR_Vr, kT_Vr, 13)) rfl hw) rfl rfl hl.1 rfl (lv_room (Nat.le_of_ble_eq_true rfl)) kb_Vr_undo_33 ⟨Nat.le_of_ble_eq_true rfl, Nat.le_of_ble_eq_true rfl⟩) hS (fun r33 σ33 H locs hw hG hS => ?_)
      refine lv_istore_n (lv' := [(1, .int r33), (0, .ref a0)]) hx hb kb_Vr_undo_36 rfl hl (by decide) rfl (fun ls hl => ?_)
      refine lv_iload_n hx hb kb_Vr_undo_37 rfl (lv_at hl 0 rfl) ?_
      refine lv_if_lt (tgt := 51) hx hb kb_Vr_undo_38 (by decide) (fun hc => ?_) (fun hc => ?_)
      · have hw := hw.1 hc
        refine lv_iload_n hx hb kb_Vr_undo_51 rfl (lv_at hl 0 rfl) ?_
        exact zr_iret (free := fun q => Z ≤ q) z_nwN hx hb hr rfl hZ hK hN hG hS hw kb_Vr_undo_52 hlocks
      · have hw := hw.2 hc
        refine lv_aload_n hx hb kb_Vr_undo_41 rfl (lv_at hl 1 rfl) ?_
        refine lv_dup hx hb kb_Vr_undo_42 rfl ?_
        obtain ⟨hy, hw⟩ := hw
        refine zr_getI (ci := 7) (f := 710) hx hb hts ki_Vr hown hK hG hy rfl 10 (by decide) (hts _ (List.mem_cons_of_mem _ kw_205)) (fun _ h => h) rfl rfl kb_Vr_undo_43 ?_
        refine lv_iconst (v := (1 : Int32)) hx hb kb_Vr_undo_46 (by decide) ?_
        refine lv_isub hx hb kb_Vr_undo_47 ?_
        obtain ⟨hy, hw⟩ := hw
        refine zr_putI (ci := 7) (f := 710) hx hb hts ki_Vr ky_Vr kyo_Vr kn_Vr hown hK hG hS hy rfl 10 (by decide) (hts _ (List.mem_cons_of_mem _ kw_205)) (fun _ h => h) rfl rfl rfl rfl rfl kb_Vr_undo_48 (fun H locs hG hS => ?_)
        obtain ⟨σ48, e48⟩ : ∃ z, z = z_sI σ33 710 a0 ((z_I σ33 710 a0) - ((1 : Int32))) := ⟨_, rfl⟩
        rw [← e48] at hG
        have hw := hw _ e48
        refine lv_iload_n hx hb kb_Vr_undo_51 rfl (lv_at hl 0 rfl) ?_
        exact zr_iret (free := fun q => Z ≤ q) z_nwN hx hb hr rfl hZ hK hN hG hS hw kb_Vr_undo_52 hlocks
    · have hw := hw.2 hc
      refine lv_iconst (v := (-1 : Int32)) hx hb kb_Vr_undo_18 (by decide) ?_
      exact zr_iret (free := fun q => Z ≤ q) z_nwN hx hb hr rfl hZ hK hN hG hS hw kb_Vr_undo_19 hlocks
  · have hw := hw.2 hc
    refine lv_bipush (v := (-4 : Int32)) hx hb kb_Vr_undo_7 (by decide) ?_
    exact zr_iret (free := fun q => Z ≤ q) z_nwN hx hb hr rfl hZ hK hN hG hS hw kb_Vr_undo_9 hlocks
def kp_Vr_has (a0 : Nat) (x1 : Int32) (x2 : Int32) (x3 : Int32) (x4 : Int32) (σ : z_S) (Post : Int32 → z_S → Prop) : Prop :=     (z_ty σ a0 = some (.inl 7) ∧ kp_Vr_hasNoRules a0 σ (fun (r1 : Int32) (σ1 : z_S) => (r1 = 0 → z_ty σ1 a0 = some (.inl 7) ∧ ∃ r11, z_R σ1 705 a0 = some r11 ∧ (z_ty σ1 r11 = some (.inl 2) ∧ kp_Pr_isRelation r11 x1 σ1 (fun (r15 : Int32) (σ15 : z_S) => (¬ r15 = 0 → z_ty σ15 a0 = some (.inl 7) ∧ ∃ r25, z_R σ15 705 a0 = some r25 ∧ (z_ty σ15 r25 = some (.inl 2) ∧ ∃ r28, z_R σ15 203 r25 = some r28 ∧ (∃ n32 s32, z_ty σ15 r28 = some (.inr (0, n32, s32)) ∧ vp_in x1 n32 ∧ (kp_Vr_pack (z_A σ15 s32 r28 x1.toNatClampNeg) x2 x3 x4 σ15 (fun (r37 : Int32) (σ37 : z_S) => (0 ≤ r37 → z_ty σ37 a0 = some (.inl 7) ∧ ∃ r53, z_R σ37 706 a0 = some r53 ∧ (∃ n57 s57, z_ty σ37 r53 = some (.inr (9, n57, s57)) ∧ vp_in x1 n57 ∧ ∃ r57, z_Q σ37 s57 r53 x1.toNatClampNeg = some r57 ∧ (z_ty σ37 r57 = some (.inl 4) ∧ kp_Ro_countOf r57 r37 σ37 (fun (r60 : Int32) (σ60 : z_S) => Post r60 σ60)))) ∧ (¬ 0 ≤ r37 → Post ((-2 : Int32)) σ37)))))) ∧ (r15 = 0 → Post ((-2 : Int32)) σ15)))) ∧ (¬ r1 = 0 → Post ((-4 : Int32)) σ1)))
set_option maxHeartbeats 4000000 in
set_option maxRecDepth 100000 in
theorem kc_Vr_has (l : Launch) (D : va_G) (dA : Nat → ClassId) (Z : Nat) (a0 : Nat) (x1 : Int32) (x2 : Int32) (x3 : Int32) (x4 : Int32) (σ : z_S) (Post : Int32 → z_S → Prop) : Met l km_Vr_has ks_Vr_has kr_Vr_has (va_Pc [.ref a0, .int x1, .int x2, .int x3, .int x4] (fun U => z_U D z_cl z_KT dA Z (z_tys dA) z_nw σ U ∧ kp_Vr_has  a0 x1 x2 x3 x4 σ Post)) (z_Qi D z_cl z_KT dA Z (z_tys dA) z_nw Post) 0 0 (fun q => Z ≤ q) := by
  refine Met.ofW (cc := prog_1_method_13_code) (maxL := 6) (ret := (some .int)) (by decide) rfl ?_
  intro p e s m args below meth c s₁ B hml hv
  obtain ⟨rfl, ⟨hZ, hG, hK, hN⟩, hw⟩ := hv
  have hx := B.exec
  have hb := B.bytes
  have hr := B.returns
  have hts := atoms_spec (ws := ks_Vr_has) B.pre
  have hown : s.vm.findClass kR_Vr = some m.cls := findClass_of_methodNamed B.named
  have hlocks := B.notSynchronized
  have hS : va_S (fun q => Z ≤ q) s.heap s.heap [] := va_S.rf
  have hl := lv_entry ([.ref a0, .int x1, .int x2, .int x3, .int x4]) (n := 6) (Nat.le_of_ble_eq_true rfl)
  rw [lg_entry_eq]
  generalize (lg_sl ([.ref a0, .int x1, .int x2, .int x3, .int x4]) ++ List.replicate (6 - (lg_sl ([.ref a0, .int x1, .int x2, .int x3, .int x4])).length) Slot.unset).toArray = ls at hl ⊢
  have hl : lv_has ls 6 [(0, .ref a0), (1, .int x1), (2, .int x2), (3, .int x3), (4, .int x4)] := hl
  unfold kp_Vr_has at hw
  refine lv_aload_n hx hb kb_Vr_has_0 rfl (lv_at hl 0 rfl) ?_
  obtain ⟨hy, hw⟩ := hw
  refine zr_ci (va_runV (C := kR_Vr) (As := []) (rest := []) ⟨hx, hb, hml, hown, hts⟩ (kc_Vr_hasNoRules l D dA Z a0 σ _) ⟨callB_of 0 hts (z_gw kw_474) rfl rfl rfl (hts _ (List.mem_cons_of_mem _ kw_1)) (hts _ (List.mem_cons_of_mem _ kw_472)) (by decide +kernel) ⟨Nat.le_of_ble_eq_true rfl, Nat.le_of_ble_eq_true rfl⟩, (hts _ (List.mem_cons_of_mem _ kw_473)), (hts _ (List.mem_cons_of_mem _ kw_945))⟩ (z_preV z_nwN (Nat.le_trans hZ hS.1) hG hK hN hy (ci := 7) (r := (kR_Vr, kT_Vr, 13)) rfl hw) rfl rfl hl.1 rfl (lv_room (Nat.le_of_ble_eq_true rfl)) kb_Vr_has_1 ⟨Nat.le_of_ble_eq_true rfl, Nat.le_of_ble_eq_true rfl⟩) hS (fun r1 σ1 H locs hw hG hS => ?_)
  refine lv_if_eq (tgt := 10) hx hb kb_Vr_has_4 (by decide) (fun hc => ?_) (fun hc => ?_)
  · have hw := hw.1 hc
    refine lv_aload_n hx hb kb_Vr_has_10 rfl (lv_at hl 0 rfl) ?_
    obtain ⟨hy, r11, hrf, hw⟩ := hw
    refine zr_getR (ci := 7) (f := 705) hx hb hts ki_Vr hown hK hG hy rfl 5 (by decide) (hts _ (List.mem_cons_of_mem _ kw_200)) (fun _ h => h) rfl rfl hrf kb_Vr_has_11 ?_
    refine lv_iload_n hx hb kb_Vr_has_14 rfl (lv_at hl 1 rfl) ?_
    obtain ⟨hy, hw⟩ := hw
    refine zr_ci (va_runV (C := kR_Pr) (As := [.int x1]) (rest := []) ⟨hx, hb, hml, hown, hts⟩ (kc_Pr_isRelation l D dA Z r11 x1 σ1 _) ⟨callB_of 1 hts (z_gw kw_328) rfl rfl rfl (hts _ (List.mem_cons_of_mem _ kw_2)) (hts _ (List.mem_cons_of_mem _ kw_480)) (by decide +kernel) ⟨Nat.le_of_ble_eq_true rfl, Nat.le_of_ble_eq_true rfl⟩, (hts _ (List.mem_cons_of_mem _ kw_326)), (hts _ (List.mem_cons_of_mem _ kw_327))⟩ (z_preV z_nwN (Nat.le_trans hZ hS.1) hG hK hN hy (ci := 2) (r := (kR_Pr, kT_Pr, 11)) rfl hw) rfl rfl hl.1 rfl (lv_room (Nat.le_of_ble_eq_true rfl)) kb_Vr_has_15 ⟨Nat.le_of_ble_eq_true rfl, Nat.le_of_ble_eq_true rfl⟩) hS (fun r15 σ15 H locs hw hG hS => ?_)
    refine lv_if_ne (tgt := 24) hx hb kb_Vr_has_18 (by decide) (fun hc => ?_) (fun hc => ?_)
    · have hw := hw.1 hc
      refine lv_aload_n hx hb kb_Vr_has_24 rfl (lv_at hl 0 rfl) ?_
      obtain ⟨hy, r25, hrf, hw⟩ := hw
      refine zr_getR (ci := 7) (f := 705) hx hb hts ki_Vr hown hK hG hy rfl 5 (by decide) (hts _ (List.mem_cons_of_mem _ kw_200)) (fun _ h => h) rfl rfl hrf kb_Vr_has_25 ?_
      obtain ⟨hy, r28, hrf, hw⟩ := hw
      refine zr_getR (ci := 2) (f := 203) hx hb hts ki_Pr hown hK hG hy rfl 3 (by decide) (hts _ (List.mem_cons_of_mem _ kw_35)) (fun _ h => h) rfl rfl hrf kb_Vr_has_28 ?_
      refine lv_iload_n hx hb kb_Vr_has_31 rfl (lv_at hl 1 rfl) ?_
      obtain ⟨n32, s32, hy, hi, hw⟩ := hw
      refine zr_iald hx hb hK hG 0 hy rfl hi kb_Vr_has_32 ?_
      refine lv_iload_n hx hb kb_Vr_has_33 rfl (lv_at hl 2 rfl) ?_
      refine lv_iload_n hx hb kb_Vr_has_34 rfl (lv_at hl 3 rfl) ?_
      refine lv_iload hx hb kb_Vr_has_35 (lv_at hl 4 rfl) ?_
      refine zr_ci (va_runS (As := [.int (z_A σ15 s32 r28 x1.toNatClampNeg), .int x2, .int x3, .int x4]) (rest := []) ⟨hx, hb, hml, hown, hts⟩ (kc_Vr_pack l D dA Z (z_A σ15 s32 r28 x1.toNatClampNeg) x2 x3 x4 σ15 _) ⟨callB_of 4 hts (z_gw kw_488) rfl rfl rfl (hts _ (List.mem_cons_of_mem _ kw_1)) (hts _ (List.mem_cons_of_mem _ kw_486)) (by decide +kernel) ⟨Nat.le_of_ble_eq_true rfl, Nat.le_of_ble_eq_true rfl⟩, (hts _ (List.mem_cons_of_mem _ kw_487))⟩ (z_preS z_nwN (Nat.le_trans hZ hS.1) hG hK hN hw) rfl rfl hl.1 rfl (lv_room (Nat.le_of_ble_eq_true rfl)) kb_Vr_has_37 ⟨Nat.le_of_ble_eq_true rfl, Nat.le_of_ble_eq_true rfl⟩) hS (fun r37 σ37 H locs hw hG hS => ?_)
      refine lv_istore (lv' := [(5, .int r37), (0, .ref a0), (1, .int x1), (2, .int x2), (3, .int x3), (4, .int x4)]) hx hb kb_Vr_has_40 hl (by decide) rfl (fun ls hl => ?_)
      refine lv_iload hx hb kb_Vr_has_42 (lv_at hl 0 rfl) ?_
      refine lv_if_ge (tgt := 52) hx hb kb_Vr_has_44 (by decide) (fun hc => ?_) (fun hc => ?_)
      · have hw := hw.1 hc
        refine lv_aload_n hx hb kb_Vr_has_52 rfl (lv_at hl 1 rfl) ?_
        obtain ⟨hy, r53, hrf, hw⟩ := hw
        refine zr_getR (ci := 7) (f := 706) hx hb hts ki_Vr hown hK hG hy rfl 6 (by decide) (hts _ (List.mem_cons_of_mem _ kw_201)) (fun _ h => h) rfl rfl hrf kb_Vr_has_53 ?_
        refine lv_iload_n hx hb kb_Vr_has_56 rfl (lv_at hl 2 rfl) ?_
        obtain ⟨n57, s57, hy, hi, r57, hrf, hw⟩ := hw
        refine zr_aald hx hb hK hG 4 (by decide) hy rfl hi hrf kb_Vr_has_57 ?_
        refine lv_iload hx hb kb_Vr_has_58 (lv_at hl 0 rfl) ?_
        obtain ⟨hy, hw⟩ := hw
        refine zr_ci (va_runV (C := kR_Ro) (As := [.int r37]) (rest := []) ⟨hx, hb, hml, hown, hts⟩ (kc_Ro_countOf l D dA Z r57 r37 σ37 _) ⟨callB_of 1 hts (z_gw kw_417) rfl rfl rfl (hts _ (List.mem_cons_of_mem _ kw_8)) (hts _ (List.mem_cons_of_mem _ kw_538)) (by decide +kernel) ⟨Nat.le_of_ble_eq_true rfl, Nat.le_of_ble_eq_true rfl⟩, (hts _ (List.mem_cons_of_mem _ kw_415)), (hts _ (List.mem_cons_of_mem _ kw_416))⟩ (z_preV z_nwN (Nat.le_trans hZ hS.1) hG hK hN hy (ci := 4) (r := (kR_Ro, kT_Ro, 3)) rfl hw) rfl rfl hl.1 rfl (lv_room (Nat.le_of_ble_eq_true rfl)) kb_Vr_has_60 ⟨Nat.le_of_ble_eq_true rfl, Nat.le_of_ble_eq_true rfl⟩) hS (fun r60 σ60 H locs hw hG hS => ?_)
        exact zr_iret (free := fun q => Z ≤ q) z_nwN hx hb hr rfl hZ hK hN hG hS hw kb_Vr_has_63 hlocks
      · have hw := hw.2 hc
        refine lv_bipush (v := (-2 : Int32)) hx hb kb_Vr_has_47 (by decide) ?_
        refine lv_goto (tgt := 63) hx hb kb_Vr_has_49 (by decide) ?_
        exact zr_iret (free := fun q => Z ≤ q) z_nwN hx hb hr rfl hZ hK hN hG hS hw kb_Vr_has_63 hlocks
    · have hw := hw.2 hc
      refine lv_bipush (v := (-2 : Int32)) hx hb kb_Vr_has_21 (by decide) ?_
      exact zr_iret (free := fun q => Z ≤ q) z_nwN hx hb hr rfl hZ hK hN hG hS hw kb_Vr_has_23 hlocks
  · have hw := hw.2 hc
    refine lv_bipush (v := (-4 : Int32)) hx hb kb_Vr_has_7 (by decide) ?_
    exact zr_iret (free := fun q => Z ≤ q) z_nwN hx hb hr rfl hZ hK hN hG hS hw kb_Vr_has_9 hlocks
def kp_Vr_row (a0 : Nat) (x1 : Int32) (x2 : Int32) (x3 : Int32) (σ : z_S) (Post : Int32 → z_S → Prop) : Prop :=     (z_ty σ a0 = some (.inl 7) ∧ kp_Vr_hasNoRules a0 σ (fun (r1 : Int32) (σ1 : z_S) => (r1 = 0 → z_ty σ1 a0 = some (.inl 7) ∧ ∃ r11, z_R σ1 705 a0 = some r11 ∧ (z_ty σ1 r11 = some (.inl 2) ∧ kp_Pr_isRelation r11 x1 σ1 (fun (r15 : Int32) (σ15 : z_S) => (r15 = 0 → Post ((-2 : Int32)) σ15) ∧ (¬ r15 = 0 → (x3 < 0 → Post ((-2 : Int32)) σ15) ∧ (¬ x3 < 0 → (x3 ≤ ((3 : Int32)) → z_ty σ15 a0 = some (.inl 7) ∧ ∃ r34, z_R σ15 706 a0 = some r34 ∧ (∃ n38 s38, z_ty σ15 r34 = some (.inr (9, n38, s38)) ∧ vp_in x1 n38 ∧ ∃ r38, z_Q σ15 s38 r34 x1.toNatClampNeg = some r38 ∧ ((x2 < 0 → Post ((-1 : Int32)) σ15) ∧ (¬ x2 < 0 → z_ty σ15 r38 = some (.inl 4) ∧ ((x2 < (z_I σ15 402 r38) → (¬ x3 = ((3 : Int32)) → z_ty σ15 r38 = some (.inl 4) ∧ ∃ r73, z_R σ15 400 r38 = some r73 ∧ (∃ n77 s77, z_ty σ15 r73 = some (.inr (0, n77, s77)) ∧ vp_in x2 n77 ∧ (kp_Vr_valueAt (z_A σ15 s77 r73 x2.toNatClampNeg) x3 σ15 (fun (r79 : Int32) (σ79 : z_S) => Post r79 σ79)))) ∧ (x3 = ((3 : Int32)) → z_ty σ15 r38 = some (.inl 4) ∧ ∃ r63, z_R σ15 401 r38 = some r63 ∧ (∃ n67 s67, z_ty σ15 r63 = some (.inr (0, n67, s67)) ∧ vp_in x2 n67 ∧ (Post (z_A σ15 s67 r63 x2.toNatClampNeg) σ15)))) ∧ (¬ x2 < (z_I σ15 402 r38) → Post ((-1 : Int32)) σ15)))))) ∧ (¬ x3 ≤ ((3 : Int32)) → Post ((-2 : Int32)) σ15)))))) ∧ (¬ r1 = 0 → Post ((-4 : Int32)) σ1)))
set_option maxHeartbeats 4000000 in
set_option maxRecDepth 100000 in
theorem kc_Vr_row (l : Launch) (D : va_G) (dA : Nat → ClassId) (Z : Nat) (a0 : Nat) (x1 : Int32) (x2 : Int32) (x3 : Int32) (σ : z_S) (Post : Int32 → z_S → Prop) : Met l km_Vr_row ks_Vr_row kr_Vr_row (va_Pc [.ref a0, .int x1, .int x2, .int x3] (fun U => z_U D z_cl z_KT dA Z (z_tys dA) z_nw σ U ∧ kp_Vr_row  a0 x1 x2 x3 σ Post)) (z_Qi D z_cl z_KT dA Z (z_tys dA) z_nw Post) 0 0 (fun q => Z ≤ q) := by
  refine Met.ofW (cc := prog_1_method_14_code) (maxL := 5) (ret := (some .int)) (by decide) rfl ?_
  intro p e s m args below meth c s₁ B hml hv
  obtain ⟨rfl, ⟨hZ, hG, hK, hN⟩, hw⟩ := hv
  have hx := B.exec
  have hb := B.bytes
  have hr := B.returns
  have hts := atoms_spec (ws := ks_Vr_row) B.pre
  have hown : s.vm.findClass kR_Vr = some m.cls := findClass_of_methodNamed B.named
  have hlocks := B.notSynchronized
  have hS : va_S (fun q => Z ≤ q) s.heap s.heap [] := va_S.rf
  have hl := lv_entry ([.ref a0, .int x1, .int x2, .int x3]) (n := 5) (Nat.le_of_ble_eq_true rfl)
  rw [lg_entry_eq]
  generalize (lg_sl ([.ref a0, .int x1, .int x2, .int x3]) ++ List.replicate (5 - (lg_sl ([.ref a0, .int x1, .int x2, .int x3])).length) Slot.unset).toArray = ls at hl ⊢
  have hl : lv_has ls 5 [(0, .ref a0), (1, .int x1), (2, .int x2), (3, .int x3)] := hl
  unfold kp_Vr_row at hw
  refine lv_aload_n hx hb kb_Vr_row_0 rfl (lv_at hl 0 rfl) ?_
  obtain ⟨hy, hw⟩ := hw
  refine zr_ci (va_runV (C := kR_Vr) (As := []) (rest := []) ⟨hx, hb, hml, hown, hts⟩ (kc_Vr_hasNoRules l D dA Z a0 σ _) ⟨callB_of 0 hts (z_gw kw_474) rfl rfl rfl (hts _ (List.mem_cons_of_mem _ kw_1)) (hts _ (List.mem_cons_of_mem _ kw_472)) (by decide +kernel) ⟨Nat.le_of_ble_eq_true rfl, Nat.le_of_ble_eq_true rfl⟩, (hts _ (List.mem_cons_of_mem _ kw_473)), (hts _ (List.mem_cons_of_mem _ kw_945))⟩ (z_preV z_nwN (Nat.le_trans hZ hS.1) hG hK hN hy (ci := 7) (r := (kR_Vr, kT_Vr, 13)) rfl hw) rfl rfl hl.1 rfl (lv_room (Nat.le_of_ble_eq_true rfl)) kb_Vr_row_1 ⟨Nat.le_of_ble_eq_true rfl, Nat.le_of_ble_eq_true rfl⟩) hS (fun r1 σ1 H locs hw hG hS => ?_)
  refine lv_if_eq (tgt := 10) hx hb kb_Vr_row_4 (by decide) (fun hc => ?_) (fun hc => ?_)
  · have hw := hw.1 hc
    refine lv_aload_n hx hb kb_Vr_row_10 rfl (lv_at hl 0 rfl) ?_
    obtain ⟨hy, r11, hrf, hw⟩ := hw
    refine zr_getR (ci := 7) (f := 705) hx hb hts ki_Vr hown hK hG hy rfl 5 (by decide) (hts _ (List.mem_cons_of_mem _ kw_200)) (fun _ h => h) rfl rfl hrf kb_Vr_row_11 ?_
    refine lv_iload_n hx hb kb_Vr_row_14 rfl (lv_at hl 1 rfl) ?_
    obtain ⟨hy, hw⟩ := hw
    refine zr_ci (va_runV (C := kR_Pr) (As := [.int x1]) (rest := []) ⟨hx, hb, hml, hown, hts⟩ (kc_Pr_isRelation l D dA Z r11 x1 σ1 _) ⟨callB_of 1 hts (z_gw kw_328) rfl rfl rfl (hts _ (List.mem_cons_of_mem _ kw_2)) (hts _ (List.mem_cons_of_mem _ kw_480)) (by decide +kernel) ⟨Nat.le_of_ble_eq_true rfl, Nat.le_of_ble_eq_true rfl⟩, (hts _ (List.mem_cons_of_mem _ kw_326)), (hts _ (List.mem_cons_of_mem _ kw_327))⟩ (z_preV z_nwN (Nat.le_trans hZ hS.1) hG hK hN hy (ci := 2) (r := (kR_Pr, kT_Pr, 11)) rfl hw) rfl rfl hl.1 rfl (lv_room (Nat.le_of_ble_eq_true rfl)) kb_Vr_row_15 ⟨Nat.le_of_ble_eq_true rfl, Nat.le_of_ble_eq_true rfl⟩) hS (fun r15 σ15 H locs hw hG hS => ?_)
    refine lv_if_eq (tgt := 30) hx hb kb_Vr_row_18 (by decide) (fun hc => ?_) (fun hc => ?_)
    · have hw := hw.1 hc
      refine lv_bipush (v := (-2 : Int32)) hx hb kb_Vr_row_30 (by decide) ?_
      exact zr_iret (free := fun q => Z ≤ q) z_nwN hx hb hr rfl hZ hK hN hG hS hw kb_Vr_row_32 hlocks
    · have hw := hw.2 hc
      refine lv_iload_n hx hb kb_Vr_row_21 rfl (lv_at hl 3 rfl) ?_
      refine lv_if_lt (tgt := 30) hx hb kb_Vr_row_22 (by decide) (fun hc => ?_) (fun hc => ?_)
      · have hw := hw.1 hc
        refine lv_bipush (v := (-2 : Int32)) hx hb kb_Vr_row_30 (by decide) ?_
        exact zr_iret (free := fun q => Z ≤ q) z_nwN hx hb hr rfl hZ hK hN hG hS hw kb_Vr_row_32 hlocks
      · have hw := hw.2 hc
        refine lv_iload_n hx hb kb_Vr_row_25 rfl (lv_at hl 3 rfl) ?_
        refine lv_iconst (v := (3 : Int32)) hx hb kb_Vr_row_26 (by decide) ?_
        refine lv_icmp_le (tgt := 33) hx hb kb_Vr_row_27 (by decide) (fun hc => ?_) (fun hc => ?_)
        · have hw := hw.1 hc
          refine lv_aload_n hx hb kb_Vr_row_33 rfl (lv_at hl 0 rfl) ?_
          obtain ⟨hy, r34, hrf, hw⟩ := hw
          refine zr_getR (ci := 7) (f := 706) hx hb hts ki_Vr hown hK hG hy rfl 6 (by decide) (hts _ (List.mem_cons_of_mem _ kw_201)) (fun _ h => h) rfl rfl hrf kb_Vr_row_34 ?_
          refine lv_iload_n hx hb kb_Vr_row_37 rfl (lv_at hl 1 rfl) ?_
          obtain ⟨n38, s38, hy, hi, r38, hrf, hw⟩ := hw
          refine zr_aald hx hb hK hG 4 (by decide) hy rfl hi hrf kb_Vr_row_38 ?_
          refine lv_astore (lv' := [(4, .ref r38), (0, .ref a0), (1, .int x1), (2, .int x2), (3, .int x3)]) hx hb kb_Vr_row_39 hl (by decide) rfl (fun ls hl => ?_)
          refine lv_iload_n hx hb kb_Vr_row_41 rfl (lv_at hl 3 rfl) ?_
          refine lv_if_lt (tgt := 54) hx hb kb_Vr_row_42 (by decide) (fun hc => ?_) (fun hc => ?_)
          · have hw := hw.1 hc
            refine lv_iconst (v := (-1 : Int32)) hx hb kb_Vr_row_54 (by decide) ?_
            exact zr_iret (free := fun q => Z ≤ q) z_nwN hx hb hr rfl hZ hK hN hG hS hw kb_Vr_row_55 hlocks
          · have hw := hw.2 hc
            refine lv_iload_n hx hb kb_Vr_row_45 rfl (lv_at hl 3 rfl) ?_
            refine lv_aload hx hb kb_Vr_row_46 (lv_at hl 0 rfl) ?_
            obtain ⟨hy, hw⟩ := hw
            refine zr_getI (ci := 4) (f := 402) hx hb hts ki_Ro hown hK hG hy rfl 2 (by decide) (hts _ (List.mem_cons_of_mem _ kw_191)) (fun _ h => h) rfl rfl kb_Vr_row_48 ?_
            refine lv_icmp_lt (tgt := 56) hx hb kb_Vr_row_51 (by decide) (fun hc => ?_) (fun hc => ?_)
            · have hw := hw.1 hc
              refine lv_iload_n hx hb kb_Vr_row_56 rfl (lv_at hl 4 rfl) ?_
              refine lv_iconst (v := (3 : Int32)) hx hb kb_Vr_row_57 (by decide) ?_
              refine lv_icmp_ne (tgt := 71) hx hb kb_Vr_row_58 (by decide) (fun hc => ?_) (fun hc => ?_)
              · have hw := hw.1 hc
                refine lv_aload hx hb kb_Vr_row_71 (lv_at hl 0 rfl) ?_
                obtain ⟨hy, r73, hrf, hw⟩ := hw
                refine zr_getR (ci := 4) (f := 400) hx hb hts ki_Ro hown hK hG hy rfl 0 (by decide) (hts _ (List.mem_cons_of_mem _ kw_185)) (fun _ h => h) rfl rfl hrf kb_Vr_row_73 ?_
                refine lv_iload_n hx hb kb_Vr_row_76 rfl (lv_at hl 3 rfl) ?_
                obtain ⟨n77, s77, hy, hi, hw⟩ := hw
                refine zr_iald hx hb hK hG 0 hy rfl hi kb_Vr_row_77 ?_
                refine lv_iload_n hx hb kb_Vr_row_78 rfl (lv_at hl 4 rfl) ?_
                refine zr_ci (va_runS (As := [.int (z_A σ15 s77 r73 x2.toNatClampNeg), .int x3]) (rest := []) ⟨hx, hb, hml, hown, hts⟩ (kc_Vr_valueAt l D dA Z (z_A σ15 s77 r73 x2.toNatClampNeg) x3 σ15 _) ⟨callB_of 2 hts (z_gw kw_450) rfl rfl rfl (hts _ (List.mem_cons_of_mem _ kw_1)) (hts _ (List.mem_cons_of_mem _ kw_529)) (by decide +kernel) ⟨Nat.le_of_ble_eq_true rfl, Nat.le_of_ble_eq_true rfl⟩, (hts _ (List.mem_cons_of_mem _ kw_449))⟩ (z_preS z_nwN (Nat.le_trans hZ hS.1) hG hK hN hw) rfl rfl hl.1 rfl (lv_room (Nat.le_of_ble_eq_true rfl)) kb_Vr_row_79 ⟨Nat.le_of_ble_eq_true rfl, Nat.le_of_ble_eq_true rfl⟩) hS (fun r79 σ79 H locs hw hG hS => ?_)
                exact zr_iret (free := fun q => Z ≤ q) z_nwN hx hb hr rfl hZ hK hN hG hS hw kb_Vr_row_82 hlocks
              · have hw := hw.2 hc
                refine lv_aload hx hb kb_Vr_row_61 (lv_at hl 0 rfl) ?_
                obtain ⟨hy, r63, hrf, hw⟩ := hw
                refine zr_getR (ci := 4) (f := 401) hx hb hts ki_Ro hown hK hG hy rfl 1 (by decide) (hts _ (List.mem_cons_of_mem _ kw_188)) (fun _ h => h) rfl rfl hrf kb_Vr_row_63 ?_
                refine lv_iload_n hx hb kb_Vr_row_66 rfl (lv_at hl 3 rfl) ?_
                obtain ⟨n67, s67, hy, hi, hw⟩ := hw
                refine zr_iald hx hb hK hG 0 hy rfl hi kb_Vr_row_67 ?_
                refine lv_goto (tgt := 82) hx hb kb_Vr_row_68 (by decide) ?_
                exact zr_iret (free := fun q => Z ≤ q) z_nwN hx hb hr rfl hZ hK hN hG hS hw kb_Vr_row_82 hlocks
            · have hw := hw.2 hc
              refine lv_iconst (v := (-1 : Int32)) hx hb kb_Vr_row_54 (by decide) ?_
              exact zr_iret (free := fun q => Z ≤ q) z_nwN hx hb hr rfl hZ hK hN hG hS hw kb_Vr_row_55 hlocks
        · have hw := hw.2 hc
          refine lv_bipush (v := (-2 : Int32)) hx hb kb_Vr_row_30 (by decide) ?_
          exact zr_iret (free := fun q => Z ≤ q) z_nwN hx hb hr rfl hZ hK hN hG hS hw kb_Vr_row_32 hlocks
  · have hw := hw.2 hc
    refine lv_bipush (v := (-4 : Int32)) hx hb kb_Vr_row_7 (by decide) ?_
    exact zr_iret (free := fun q => Z ≤ q) z_nwN hx hb hr rfl hZ hK hN hG hS hw kb_Vr_row_9 hlocks
def kp_Vr_derivations (a0 : Nat) (x1 : Int32) (x2 : Int32) (x3 : Int32) (x4 : Int32) (σ : z_S) (Post : Int32 → z_S → Prop) : Prop :=     (z_ty σ a0 = some (.inl 7) ∧ kp_Vr_hasNoRules a0 σ (fun (r1 : Int32) (σ1 : z_S) => (r1 = 0 → z_ty σ1 a0 = some (.inl 7) ∧ ∃ r11, z_R σ1 705 a0 = some r11 ∧ (z_ty σ1 r11 = some (.inl 2) ∧ kp_Pr_isView r11 x1 σ1 (fun (r15 : Int32) (σ15 : z_S) => (¬ r15 = 0 → z_ty σ15 a0 = some (.inl 7) ∧ ∃ r25, z_R σ15 705 a0 = some r25 ∧ (z_ty σ15 r25 = some (.inl 2) ∧ ∃ r28, z_R σ15 203 r25 = some r28 ∧ (∃ n32 s32, z_ty σ15 r28 = some (.inr (0, n32, s32)) ∧ vp_in x1 n32 ∧ (kp_Vr_pack (z_A σ15 s32 r28 x1.toNatClampNeg) x2 x3 x4 σ15 (fun (r37 : Int32) (σ37 : z_S) => (0 ≤ r37 → z_ty σ37 a0 = some (.inl 7) ∧ ∃ r51, z_R σ37 705 a0 = some r51 ∧ (z_ty σ37 r51 = some (.inl 2) ∧ kp_Pr_isCounted r51 x1 σ37 (fun (r55 : Int32) (σ55 : z_S) => (¬ r55 = 0 → z_ty σ55 a0 = some (.inl 7) ∧ ∃ r81, z_R σ55 706 a0 = some r81 ∧ (∃ n85 s85, z_ty σ55 r81 = some (.inr (9, n85, s85)) ∧ vp_in x1 n85 ∧ ∃ r85, z_Q σ55 s85 r81 x1.toNatClampNeg = some r85 ∧ (z_ty σ55 r85 = some (.inl 4) ∧ kp_Ro_countOf r85 r37 σ55 (fun (r88 : Int32) (σ88 : z_S) => (¬ r88 = 0 → z_ty σ88 a0 = some (.inl 7) ∧ ∃ r101, z_R σ88 705 a0 = some r101 ∧ (z_ty σ88 r101 = some (.inl 2) ∧ ∃ r104, z_R σ88 203 r101 = some r104 ∧ (∃ n108 s108, z_ty σ88 r104 = some (.inr (0, n108, s108)) ∧ vp_in x1 n108 ∧ (kp_Vr_valueAt r37 ((z_A σ88 s108 r104 x1.toNatClampNeg) - ((1 : Int32))) σ88 (fun (r111 : Int32) (σ111 : z_S) => Post r111 σ111))))) ∧ (r88 = 0 → Post ((0 : Int32)) σ88))))) ∧ (r55 = 0 → z_ty σ55 a0 = some (.inl 7) ∧ ∃ r62, z_R σ55 712 a0 = some r62 ∧ (z_ty σ55 a0 = some (.inl 7) ∧ ∃ r66, z_R σ55 705 a0 = some r66 ∧ (z_ty σ55 a0 = some (.inl 7) ∧ ∃ r70, z_R σ55 706 a0 = some r70 ∧ (z_ty σ55 r62 = some (.inl 1) ∧ kp_En_countDerivations r62 r66 r70 x1 r37 σ55 (fun (r76 : Int32) (σ76 : z_S) => Post r76 σ76)))))))) ∧ (¬ 0 ≤ r37 → Post ((-2 : Int32)) σ37)))))) ∧ (r15 = 0 → Post ((-2 : Int32)) σ15)))) ∧ (¬ r1 = 0 → Post ((-4 : Int32)) σ1)))
set_option maxHeartbeats 4000000 in
set_option maxRecDepth 100000 in
theorem kc_Vr_derivations (l : Launch) (D : va_G) (dA : Nat → ClassId) (Z : Nat) (a0 : Nat) (x1 : Int32) (x2 : Int32) (x3 : Int32) (x4 : Int32) (σ : z_S) (Post : Int32 → z_S → Prop) : Met l km_Vr_derivations ks_Vr_derivations kr_Vr_derivations (va_Pc [.ref a0, .int x1, .int x2, .int x3, .int x4] (fun U => z_U D z_cl z_KT dA Z (z_tys dA) z_nw σ U ∧ kp_Vr_derivations  a0 x1 x2 x3 x4 σ Post)) (z_Qi D z_cl z_KT dA Z (z_tys dA) z_nw Post) 0 0 (fun q => Z ≤ q) := by
  refine Met.ofW (cc := prog_1_method_15_code) (maxL := 6) (ret := (some .int)) (by decide) rfl ?_
  intro p e s m args below meth c s₁ B hml hv
  obtain ⟨rfl, ⟨hZ, hG, hK, hN⟩, hw⟩ := hv
  have hx := B.exec
  have hb := B.bytes
  have hr := B.returns
  have hts := atoms_spec (ws := ks_Vr_derivations) B.pre
  have hown : s.vm.findClass kR_Vr = some m.cls := findClass_of_methodNamed B.named
  have hlocks := B.notSynchronized
  have hS : va_S (fun q => Z ≤ q) s.heap s.heap [] := va_S.rf
  have hl := lv_entry ([.ref a0, .int x1, .int x2, .int x3, .int x4]) (n := 6) (Nat.le_of_ble_eq_true rfl)
  rw [lg_entry_eq]
  generalize (lg_sl ([.ref a0, .int x1, .int x2, .int x3, .int x4]) ++ List.replicate (6 - (lg_sl ([.ref a0, .int x1, .int x2, .int x3, .int x4])).length) Slot.unset).toArray = ls at hl ⊢
  have hl : lv_has ls 6 [(0, .ref a0), (1, .int x1), (2, .int x2), (3, .int x3), (4, .int x4)] := hl
  unfold kp_Vr_derivations at hw
  refine lv_aload_n hx hb kb_Vr_derivations_0 rfl (lv_at hl 0 rfl) ?_
  obtain ⟨hy, hw⟩ := hw
  refine zr_ci (va_runV (C := kR_Vr) (As := []) (rest := []) ⟨hx, hb, hml, hown, hts⟩ (kc_Vr_hasNoRules l D dA Z a0 σ _) ⟨callB_of 0 hts (z_gw kw_474) rfl rfl rfl (hts _ (List.mem_cons_of_mem _ kw_1)) (hts _ (List.mem_cons_of_mem _ kw_472)) (by decide +kernel) ⟨Nat.le_of_ble_eq_true rfl, Nat.le_of_ble_eq_true rfl⟩, (hts _ (List.mem_cons_of_mem _ kw_473)), (hts _ (List.mem_cons_of_mem _ kw_945))⟩ (z_preV z_nwN (Nat.le_trans hZ hS.1) hG hK hN hy (ci := 7) (r := (kR_Vr, kT_Vr, 13)) rfl hw) rfl rfl hl.1 rfl (lv_room (Nat.le_of_ble_eq_true rfl)) kb_Vr_derivations_1 ⟨Nat.le_of_ble_eq_true rfl, Nat.le_of_ble_eq_true rfl⟩) hS (fun r1 σ1 H locs hw hG hS => ?_)
  refine lv_if_eq (tgt := 10) hx hb kb_Vr_derivations_4 (by decide) (fun hc => ?_) (fun hc => ?_)
  · have hw := hw.1 hc
    refine lv_aload_n hx hb kb_Vr_derivations_10 rfl (lv_at hl 0 rfl) ?_
    obtain ⟨hy, r11, hrf, hw⟩ := hw
    refine zr_getR (ci := 7) (f := 705) hx hb hts ki_Vr hown hK hG hy rfl 5 (by decide) (hts _ (List.mem_cons_of_mem _ kw_200)) (fun _ h => h) rfl rfl hrf kb_Vr_derivations_11 ?_
    refine lv_iload_n hx hb kb_Vr_derivations_14 rfl (lv_at hl 1 rfl) ?_
    obtain ⟨hy, hw⟩ := hw
    refine zr_ci (va_runV (C := kR_Pr) (As := [.int x1]) (rest := []) ⟨hx, hb, hml, hown, hts⟩ (kc_Pr_isView l D dA Z r11 x1 σ1 _) ⟨callB_of 1 hts (z_gw kw_324) rfl rfl rfl (hts _ (List.mem_cons_of_mem _ kw_2)) (hts _ (List.mem_cons_of_mem _ kw_481)) (by decide +kernel) ⟨Nat.le_of_ble_eq_true rfl, Nat.le_of_ble_eq_true rfl⟩, (hts _ (List.mem_cons_of_mem _ kw_322)), (hts _ (List.mem_cons_of_mem _ kw_323))⟩ (z_preV z_nwN (Nat.le_trans hZ hS.1) hG hK hN hy (ci := 2) (r := (kR_Pr, kT_Pr, 11)) rfl hw) rfl rfl hl.1 rfl (lv_room (Nat.le_of_ble_eq_true rfl)) kb_Vr_derivations_15 ⟨Nat.le_of_ble_eq_true rfl, Nat.le_of_ble_eq_true rfl⟩) hS (fun r15 σ15 H locs hw hG hS => ?_)
    refine lv_if_ne (tgt := 24) hx hb kb_Vr_derivations_18 (by decide) (fun hc => ?_) (fun hc => ?_)
    · have hw := hw.1 hc
      refine lv_aload_n hx hb kb_Vr_derivations_24 rfl (lv_at hl 0 rfl) ?_
      obtain ⟨hy, r25, hrf, hw⟩ := hw
      refine zr_getR (ci := 7) (f := 705) hx hb hts ki_Vr hown hK hG hy rfl 5 (by decide) (hts _ (List.mem_cons_of_mem _ kw_200)) (fun _ h => h) rfl rfl hrf kb_Vr_derivations_25 ?_
      obtain ⟨hy, r28, hrf, hw⟩ := hw
      refine zr_getR (ci := 2) (f := 203) hx hb hts ki_Pr hown hK hG hy rfl 3 (by decide) (hts _ (List.mem_cons_of_mem _ kw_35)) (fun _ h => h) rfl rfl hrf kb_Vr_derivations_28 ?_
      refine lv_iload_n hx hb kb_Vr_derivations_31 rfl (lv_at hl 1 rfl) ?_
      obtain ⟨n32, s32, hy, hi, hw⟩ := hw
      refine zr_iald hx hb hK hG 0 hy rfl hi kb_Vr_derivations_32 ?_
      refine lv_iload_n hx hb kb_Vr_derivations_33 rfl (lv_at hl 2 rfl) ?_
      refine lv_iload_n hx hb kb_Vr_derivations_34 rfl (lv_at hl 3 rfl) ?_
      refine lv_iload hx hb kb_Vr_derivations_35 (lv_at hl 4 rfl) ?_
      refine zr_ci (va_runS (As := [.int (z_A σ15 s32 r28 x1.toNatClampNeg), .int x2, .int x3, .int x4]) (rest := []) ⟨hx, hb, hml, hown, hts⟩ (kc_Vr_pack l D dA Z (z_A σ15 s32 r28 x1.toNatClampNeg) x2 x3 x4 σ15 _) ⟨callB_of 4 hts (z_gw kw_488) rfl rfl rfl (hts _ (List.mem_cons_of_mem _ kw_1)) (hts _ (List.mem_cons_of_mem _ kw_486)) (by decide +kernel) ⟨Nat.le_of_ble_eq_true rfl, Nat.le_of_ble_eq_true rfl⟩, (hts _ (List.mem_cons_of_mem _ kw_487))⟩ (z_preS z_nwN (Nat.le_trans hZ hS.1) hG hK hN hw) rfl rfl hl.1 rfl (lv_room (Nat.le_of_ble_eq_true rfl)) kb_Vr_derivations_37 ⟨Nat.le_of_ble_eq_true rfl, Nat.le_of_ble_eq_true rfl⟩) hS (fun r37 σ37 H locs hw hG hS => ?_)
      refine lv_istore (lv' := [(5, .int r37), (0, .ref a0), (1, .int x1), (2, .int x2), (3, .int x3), (4, .int x4)]) hx hb kb_Vr_derivations_40 hl (by decide) rfl (fun ls hl => ?_)
      refine lv_iload hx hb kb_Vr_derivations_42 (lv_at hl 0 rfl) ?_
      refine lv_if_ge (tgt := 50) hx hb kb_Vr_derivations_44 (by decide) (fun hc => ?_) (fun hc => ?_)
      · have hw := hw.1 hc
        refine lv_aload_n hx hb kb_Vr_derivations_50 rfl (lv_at hl 1 rfl) ?_
        obtain ⟨hy, r51, hrf, hw⟩ := hw
        refine zr_getR (ci := 7) (f := 705) hx hb hts ki_Vr hown hK hG hy rfl 5 (by decide) (hts _ (List.mem_cons_of_mem _ kw_200)) (fun _ h => h) rfl rfl hrf kb_Vr_derivations_51 ?_
        refine lv_iload_n hx hb kb_Vr_derivations_54 rfl (lv_at hl 2 rfl) ?_
        obtain ⟨hy, hw⟩ := hw
        refine zr_ci (va_runV (C := kR_Pr) (As := [.int x1]) (rest := []) ⟨hx, hb, hml, hown, hts⟩ (kc_Pr_isCounted l D dA Z r51 x1 σ37 _) ⟨callB_of 1 hts (z_gw kw_332) rfl rfl rfl (hts _ (List.mem_cons_of_mem _ kw_2)) (hts _ (List.mem_cons_of_mem _ kw_547)) (by decide +kernel) ⟨Nat.le_of_ble_eq_true rfl, Nat.le_of_ble_eq_true rfl⟩, (hts _ (List.mem_cons_of_mem _ kw_330)), (hts _ (List.mem_cons_of_mem _ kw_331))⟩ (z_preV z_nwN (Nat.le_trans hZ hS.1) hG hK hN hy (ci := 2) (r := (kR_Pr, kT_Pr, 11)) rfl hw) rfl rfl hl.1 rfl (lv_room (Nat.le_of_ble_eq_true rfl)) kb_Vr_derivations_55 ⟨Nat.le_of_ble_eq_true rfl, Nat.le_of_ble_eq_true rfl⟩) hS (fun r55 σ55 H locs hw hG hS => ?_)
        refine lv_if_ne (tgt := 80) hx hb kb_Vr_derivations_58 (by decide) (fun hc => ?_) (fun hc => ?_)
        · have hw := hw.1 hc
          refine lv_aload_n hx hb kb_Vr_derivations_80 rfl (lv_at hl 1 rfl) ?_
          obtain ⟨hy, r81, hrf, hw⟩ := hw
          refine zr_getR (ci := 7) (f := 706) hx hb hts ki_Vr hown hK hG hy rfl 6 (by decide) (hts _ (List.mem_cons_of_mem _ kw_201)) (fun _ h => h) rfl rfl hrf kb_Vr_derivations_81 ?_
          refine lv_iload_n hx hb kb_Vr_derivations_84 rfl (lv_at hl 2 rfl) ?_
          obtain ⟨n85, s85, hy, hi, r85, hrf, hw⟩ := hw
          refine zr_aald hx hb hK hG 4 (by decide) hy rfl hi hrf kb_Vr_derivations_85 ?_
          refine lv_iload hx hb kb_Vr_derivations_86 (lv_at hl 0 rfl) ?_
          obtain ⟨hy, hw⟩ := hw
          refine zr_ci (va_runV (C := kR_Ro) (As := [.int r37]) (rest := []) ⟨hx, hb, hml, hown, hts⟩ (kc_Ro_countOf l D dA Z r85 r37 σ55 _) ⟨callB_of 1 hts (z_gw kw_417) rfl rfl rfl (hts _ (List.mem_cons_of_mem _ kw_8)) (hts _ (List.mem_cons_of_mem _ kw_538)) (by decide +kernel) ⟨Nat.le_of_ble_eq_true rfl, Nat.le_of_ble_eq_true rfl⟩, (hts _ (List.mem_cons_of_mem _ kw_415)), (hts _ (List.mem_cons_of_mem _ kw_416))⟩ (z_preV z_nwN (Nat.le_trans hZ hS.1) hG hK hN hy (ci := 4) (r := (kR_Ro, kT_Ro, 3)) rfl hw) rfl rfl hl.1 rfl (lv_room (Nat.le_of_ble_eq_true rfl)) kb_Vr_derivations_88 ⟨Nat.le_of_ble_eq_true rfl, Nat.le_of_ble_eq_true rfl⟩) hS (fun r88 σ88 H locs hw hG hS => ?_)
          refine lv_if_ne (tgt := 98) hx hb kb_Vr_derivations_91 (by decide) (fun hc => ?_) (fun hc => ?_)
          · have hw := hw.1 hc
            refine lv_iload hx hb kb_Vr_derivations_98 (lv_at hl 0 rfl) ?_
            refine lv_aload_n hx hb kb_Vr_derivations_100 rfl (lv_at hl 1 rfl) ?_
            obtain ⟨hy, r101, hrf, hw⟩ := hw
            refine zr_getR (ci := 7) (f := 705) hx hb hts ki_Vr hown hK hG hy rfl 5 (by decide) (hts _ (List.mem_cons_of_mem _ kw_200)) (fun _ h => h) rfl rfl hrf kb_Vr_derivations_101 ?_
            obtain ⟨hy, r104, hrf, hw⟩ := hw
            refine zr_getR (ci := 2) (f := 203) hx hb hts ki_Pr hown hK hG hy rfl 3 (by decide) (hts _ (List.mem_cons_of_mem _ kw_35)) (fun _ h => h) rfl rfl hrf kb_Vr_derivations_104 ?_
            refine lv_iload_n hx hb kb_Vr_derivations_107 rfl (lv_at hl 2 rfl) ?_
            obtain ⟨n108, s108, hy, hi, hw⟩ := hw
            refine zr_iald hx hb hK hG 0 hy rfl hi kb_Vr_derivations_108 ?_
            refine lv_iconst (v := (1 : Int32)) hx hb kb_Vr_derivations_109 (by decide) ?_
            refine lv_isub hx hb kb_Vr_derivations_110 ?_
            refine zr_ci (va_runS (As := [.int r37, .int ((z_A σ88 s108 r104 x1.toNatClampNeg) - ((1 : Int32)))]) (rest := []) ⟨hx, hb, hml, hown, hts⟩ (kc_Vr_valueAt l D dA Z r37 ((z_A σ88 s108 r104 x1.toNatClampNeg) - ((1 : Int32))) σ88 _) ⟨callB_of 2 hts (z_gw kw_450) rfl rfl rfl (hts _ (List.mem_cons_of_mem _ kw_1)) (hts _ (List.mem_cons_of_mem _ kw_529)) (by decide +kernel) ⟨Nat.le_of_ble_eq_true rfl, Nat.le_of_ble_eq_true rfl⟩, (hts _ (List.mem_cons_of_mem _ kw_449))⟩ (z_preS z_nwN (Nat.le_trans hZ hS.1) hG hK hN hw) rfl rfl hl.1 rfl (lv_room (Nat.le_of_ble_eq_true rfl)) kb_Vr_derivations_111 ⟨Nat.le_of_ble_eq_true rfl, Nat.le_of_ble_eq_true rfl⟩) hS (fun r111 σ111 H locs hw hG hS => ?_)
            exact zr_iret (free := fun q => Z ≤ q) z_nwN hx hb hr rfl hZ hK hN hG hS hw kb_Vr_derivations_114 hlocks
          · have hw := hw.2 hc
            refine lv_iconst (v := (0 : Int32)) hx hb kb_Vr_derivations_94 (by decide) ?_
            refine lv_goto (tgt := 114) hx hb kb_Vr_derivations_95 (by decide) ?_
            exact zr_iret (free := fun q => Z ≤ q) z_nwN hx hb hr rfl hZ hK hN hG hS hw kb_Vr_derivations_114 hlocks
        · have hw := hw.2 hc
          refine lv_aload_n hx hb kb_Vr_derivations_61 rfl (lv_at hl 1 rfl) ?_
          obtain ⟨hy, r62, hrf, hw⟩ := hw
          refine zr_getR (ci := 7) (f := 712) hx hb hts ki_Vr hown hK hG hy rfl 12 (by decide) (hts _ (List.mem_cons_of_mem _ kw_207)) (fun _ h => h) rfl rfl hrf kb_Vr_derivations_62 ?_
          refine lv_aload_n hx hb kb_Vr_derivations_65 rfl (lv_at hl 1 rfl) ?_
          obtain ⟨hy, r66, hrf, hw⟩ := hw
          refine zr_getR (ci := 7) (f := 705) hx hb hts ki_Vr hown hK hG hy rfl 5 (by decide) (hts _ (List.mem_cons_of_mem _ kw_200)) (fun _ h => h) rfl rfl hrf kb_Vr_derivations_66 ?_
          refine lv_aload_n hx hb kb_Vr_derivations_69 rfl (lv_at hl 1 rfl) ?_
          obtain ⟨hy, r70, hrf, hw⟩ := hw
          refine zr_getR (ci := 7) (f := 706) hx hb hts ki_Vr hown hK hG hy rfl 6 (by decide) (hts _ (List.mem_cons_of_mem _ kw_201)) (fun _ h => h) rfl rfl hrf kb_Vr_derivations_70 ?_
          refine lv_iload_n hx hb kb_Vr_derivations_73 rfl (lv_at hl 2 rfl) ?_
          refine lv_iload hx hb kb_Vr_derivations_74 (lv_at hl 0 rfl) ?_
          obtain ⟨hy, hw⟩ := hw
          refine zr_ci (va_runV (C := kR_En) (As := [.ref r66, .ref r70, .int x1, .int r37]) (rest := []) ⟨hx, hb, hml, hown, hts⟩ (kc_En_countDerivations l D dA Z r62 r66 r70 x1 r37 σ55 _) ⟨callB_of 4 hts (z_gw kw_551) rfl rfl rfl (hts _ (List.mem_cons_of_mem _ kw_5)) (hts _ (List.mem_cons_of_mem _ kw_548)) (by decide +kernel) ⟨Nat.le_of_ble_eq_true rfl, Nat.le_of_ble_eq_true rfl⟩, (hts _ (List.mem_cons_of_mem _ kw_549)), (hts _ (List.mem_cons_of_mem _ kw_550))⟩ (z_preV z_nwN (Nat.le_trans hZ hS.1) hG hK hN hy (ci := 1) (r := (kR_En, kT_En, 12)) rfl hw) rfl rfl hl.1 rfl (lv_room (Nat.le_of_ble_eq_true rfl)) kb_Vr_derivations_76 ⟨Nat.le_of_ble_eq_true rfl, Nat.le_of_ble_eq_true rfl⟩) hS (fun r76 σ76 H locs hw hG hS => ?_)
          exact zr_iret (free := fun q => Z ≤ q) z_nwN hx hb hr rfl hZ hK hN hG hS hw kb_Vr_derivations_79 hlocks
      · have hw := hw.2 hc
        refine lv_bipush (v := (-2 : Int32)) hx hb kb_Vr_derivations_47 (by decide) ?_
        exact zr_iret (free := fun q => Z ≤ q) z_nwN hx hb hr rfl hZ hK hN hG hS hw kb_Vr_derivations_49 hlocks
    · have hw := hw.2 hc
      refine lv_bipush (v := (-2 : Int32)) hx hb kb_Vr_derivations_21 (by decide) ?_
      exact zr_iret (free := fun q => Z ≤ q) z_nwN hx hb hr rfl hZ hK hN hG hS hw kb_Vr_derivations_23 hlocks
  · have hw := hw.2 hc
    refine lv_bipush (v := (-4 : Int32)) hx hb kb_Vr_derivations_7 (by decide) ?_
    exact zr_iret (free := fun q => Z ≤ q) z_nwN hx hb hr rfl hZ hK hN hG hS hw kb_Vr_derivations_9 hlocks
def kp_Vr_why (a0 : Nat) (x1 : Int32) (x2 : Int32) (x3 : Int32) (x4 : Int32) (x5 : Int32) (σ : z_S) (Post : Int32 → z_S → Prop) : Prop :=     (z_ty σ a0 = some (.inl 7) ∧ kp_Vr_hasNoRules a0 σ (fun (r1 : Int32) (σ1 : z_S) => (r1 = 0 → z_ty σ1 a0 = some (.inl 7) ∧ ∃ r11, z_R σ1 705 a0 = some r11 ∧ (z_ty σ1 r11 = some (.inl 2) ∧ kp_Pr_isView r11 x1 σ1 (fun (r15 : Int32) (σ15 : z_S) => (r15 = 0 → Post ((-2 : Int32)) σ15) ∧ (¬ r15 = 0 → z_ty σ15 a0 = some (.inl 7) ∧ ∃ r22, z_R σ15 705 a0 = some r22 ∧ (z_ty σ15 r22 = some (.inl 2) ∧ kp_Pr_isCounted r22 x1 σ15 (fun (r26 : Int32) (σ26 : z_S) => (¬ r26 = 0 → Post ((-2 : Int32)) σ26) ∧ (r26 = 0 → (x5 < 0 → Post ((-2 : Int32)) σ26) ∧ (¬ x5 < 0 → (x5 ≤ ((7 : Int32)) → z_ty σ26 a0 = some (.inl 7) ∧ ∃ r48, z_R σ26 705 a0 = some r48 ∧ (z_ty σ26 r48 = some (.inl 2) ∧ ∃ r51, z_R σ26 203 r48 = some r51 ∧ (∃ n55 s55, z_ty σ26 r51 = some (.inr (0, n55, s55)) ∧ vp_in x1 n55 ∧ (kp_Vr_pack (z_A σ26 s55 r51 x1.toNatClampNeg) x2 x3 x4 σ26 (fun (r60 : Int32) (σ60 : z_S) => (0 ≤ r60 → z_ty σ60 a0 = some (.inl 7) ∧ ∃ r74, z_R σ60 712 a0 = some r74 ∧ (z_ty σ60 a0 = some (.inl 7) ∧ ∃ r78, z_R σ60 705 a0 = some r78 ∧ (z_ty σ60 a0 = some (.inl 7) ∧ ∃ r82, z_R σ60 706 a0 = some r82 ∧ (z_ty σ60 r74 = some (.inl 1) ∧ kp_En_findLeast r74 r78 r82 x1 r60 σ60 (fun (r88 : Int32) (σ88 : z_S) => (0 ≤ r88 → z_ty σ88 a0 = some (.inl 7) ∧ ∃ r101, z_R σ88 705 a0 = some r101 ∧ (z_ty σ88 r101 = some (.inl 2) ∧ ∃ r104, z_R σ88 200 r101 = some r104 ∧ (∃ n109 s109, z_ty σ88 r104 = some (.inr (8, n109, s109)) ∧ vp_in r88 n109 ∧ ∃ r109, z_Q σ88 s109 r104 r88.toNatClampNeg = some r109 ∧ (z_ty σ88 r109 = some (.inl 5) ∧ ((((2 : Int32)) ≤ x5 → ((z_I σ88 506 r109) ≤ (x5 - ((2 : Int32))) → Post ((-1 : Int32)) σ88) ∧ (¬ (z_I σ88 506 r109) ≤ (x5 - ((2 : Int32))) → z_ty σ88 a0 = some (.inl 7) ∧ ∃ r144, z_R σ88 712 a0 = some r144 ∧ (z_ty σ88 r144 = some (.inl 1) ∧ ∃ r147, z_R σ88 100 r144 = some r147 ∧ (∃ n154 s154, z_ty σ88 r147 = some (.inr (0, n154, s154)) ∧ vp_in (x5 - ((2 : Int32))) n154 ∧ (Post (z_A σ88 s154 r147 (x5 - ((2 : Int32))).toNatClampNeg) σ88))))) ∧ (¬ ((2 : Int32)) ≤ x5 → (¬ x5 = 0 → Post (z_I σ88 506 r109) σ88) ∧ (x5 = 0 → Post r88 σ88))))))) ∧ (¬ 0 ≤ r88 → Post ((-1 : Int32)) σ88)))))) ∧ (¬ 0 ≤ r60 → Post ((-2 : Int32)) σ60)))))) ∧ (¬ x5 ≤ ((7 : Int32)) → Post ((-2 : Int32)) σ26))))))))) ∧ (¬ r1 = 0 → Post ((-4 : Int32)) σ1)))
set_option maxHeartbeats 4000000 in
set_option maxRecDepth 100000 in
theorem kc_Vr_why (l : Launch) (D : va_G) (dA : Nat → ClassId) (Z : Nat) (a0 : Nat) (x1 : Int32) (x2 : Int32) (x3 : Int32) (x4 : Int32) (x5 : Int32) (σ : z_S) (Post : Int32 → z_S → Prop) : Met l km_Vr_why ks_Vr_why kr_Vr_why (va_Pc [.ref a0, .int x1, .int x2, .int x3, .int x4, .int x5] (fun U => z_U D z_cl z_KT dA Z (z_tys dA) z_nw σ U ∧ kp_Vr_why  a0 x1 x2 x3 x4 x5 σ Post)) (z_Qi D z_cl z_KT dA Z (z_tys dA) z_nw Post) 0 0 (fun q => Z ≤ q) := by
  refine Met.ofW (cc := prog_1_method_16_code) (maxL := 9) (ret := (some .int)) (by decide) rfl ?_
  intro p e s m args below meth c s₁ B hml hv
  obtain ⟨rfl, ⟨hZ, hG, hK, hN⟩, hw⟩ := hv
  have hx := B.exec
  have hb := B.bytes
  have hr := B.returns
  have hts := atoms_spec (ws := ks_Vr_why) B.pre
  have hown : s.vm.findClass kR_Vr = some m.cls := findClass_of_methodNamed B.named
  have hlocks := B.notSynchronized
  have hS : va_S (fun q => Z ≤ q) s.heap s.heap [] := va_S.rf
  have hl := lv_entry ([.ref a0, .int x1, .int x2, .int x3, .int x4, .int x5]) (n := 9) (Nat.le_of_ble_eq_true rfl)
  rw [lg_entry_eq]
  generalize (lg_sl ([.ref a0, .int x1, .int x2, .int x3, .int x4, .int x5]) ++ List.replicate (9 - (lg_sl ([.ref a0, .int x1, .int x2, .int x3, .int x4, .int x5])).length) Slot.unset).toArray = ls at hl ⊢
  have hl : lv_has ls 9 [(0, .ref a0), (1, .int x1), (2, .int x2), (3, .int x3), (4, .int x4), (5, .int x5)] := hl
  unfold kp_Vr_why at hw
  refine lv_aload_n hx hb kb_Vr_why_0 rfl (lv_at hl 0 rfl) ?_
  obtain ⟨hy, hw⟩ := hw
  refine zr_ci (va_runV (C := kR_Vr) (As := []) (rest := []) ⟨hx, hb, hml, hown, hts⟩ (kc_Vr_hasNoRules l D dA Z a0 σ _) ⟨callB_of 0 hts (z_gw kw_474) rfl rfl rfl (hts _ (List.mem_cons_of_mem _ kw_1)) (hts _ (List.mem_cons_of_mem _ kw_472)) (by decide +kernel) ⟨Nat.le_of_ble_eq_true rfl, Nat.le_of_ble_eq_true rfl⟩, (hts _ (List.mem_cons_of_mem _ kw_473)), (hts _ (List.mem_cons_of_mem _ kw_945))⟩ (z_preV z_nwN (Nat.le_trans hZ hS.1) hG hK hN hy (ci := 7) (r := (kR_Vr, kT_Vr, 13)) rfl hw) rfl rfl hl.1 rfl (lv_room (Nat.le_of_ble_eq_true rfl)) kb_Vr_why_1 ⟨Nat.le_of_ble_eq_true rfl, Nat.le_of_ble_eq_true rfl⟩) hS (fun r1 σ1 H locs hw hG hS => ?_)
  refine lv_if_eq (tgt := 10) hx hb kb_Vr_why_4 (by decide) (fun hc => ?_) (fun hc => ?_)
  · have hw := hw.1 hc
    refine lv_aload_n hx hb kb_Vr_why_10 rfl (lv_at hl 0 rfl) ?_
    obtain ⟨hy, r11, hrf, hw⟩ := hw
    refine zr_getR (ci := 7) (f := 705) hx hb hts ki_Vr hown hK hG hy rfl 5 (by decide) (hts _ (List.mem_cons_of_mem _ kw_200)) (fun _ h => h) rfl rfl hrf kb_Vr_why_11 ?_
    refine lv_iload_n hx hb kb_Vr_why_14 rfl (lv_at hl 1 rfl) ?_
    obtain ⟨hy, hw⟩ := hw
    refine zr_ci (va_runV (C := kR_Pr) (As := [.int x1]) (rest := []) ⟨hx, hb, hml, hown, hts⟩ (kc_Pr_isView l D dA Z r11 x1 σ1 _) ⟨callB_of 1 hts (z_gw kw_324) rfl rfl rfl (hts _ (List.mem_cons_of_mem _ kw_2)) (hts _ (List.mem_cons_of_mem _ kw_481)) (by decide +kernel) ⟨Nat.le_of_ble_eq_true rfl, Nat.le_of_ble_eq_true rfl⟩, (hts _ (List.mem_cons_of_mem _ kw_322)), (hts _ (List.mem_cons_of_mem _ kw_323))⟩ (z_preV z_nwN (Nat.le_trans hZ hS.1) hG hK hN hy (ci := 2) (r := (kR_Pr, kT_Pr, 11)) rfl hw) rfl rfl hl.1 rfl (lv_room (Nat.le_of_ble_eq_true rfl)) kb_Vr_why_15 ⟨Nat.le_of_ble_eq_true rfl, Nat.le_of_ble_eq_true rfl⟩) hS (fun r15 σ15 H locs hw hG hS => ?_)
    refine lv_if_eq (tgt := 44) hx hb kb_Vr_why_18 (by decide) (fun hc => ?_) (fun hc => ?_)
    · have hw := hw.1 hc
      refine lv_bipush (v := (-2 : Int32)) hx hb kb_Vr_why_44 (by decide) ?_
      exact zr_iret (free := fun q => Z ≤ q) z_nwN hx hb hr rfl hZ hK hN hG hS hw kb_Vr_why_46 hlocks
    · have hw := hw.2 hc
      refine lv_aload_n hx hb kb_Vr_why_21 rfl (lv_at hl 0 rfl) ?_
      obtain ⟨hy, r22, hrf, hw⟩ := hw
      refine zr_getR (ci := 7) (f := 705) hx hb hts ki_Vr hown hK hG hy rfl 5 (by decide) (hts _ (List.mem_cons_of_mem _ kw_200)) (fun _ h => h) rfl rfl hrf kb_Vr_why_22 ?_
      refine lv_iload_n hx hb kb_Vr_why_25 rfl (lv_at hl 1 rfl) ?_
      obtain ⟨hy, hw⟩ := hw
      refine zr_ci (va_runV (C := kR_Pr) (As := [.int x1]) (rest := []) ⟨hx, hb, hml, hown, hts⟩ (kc_Pr_isCounted l D dA Z r22 x1 σ15 _) ⟨callB_of 1 hts (z_gw kw_332) rfl rfl rfl (hts _ (List.mem_cons_of_mem _ kw_2)) (hts _ (List.mem_cons_of_mem _ kw_547)) (by decide +kernel) ⟨Nat.le_of_ble_eq_true rfl, Nat.le_of_ble_eq_true rfl⟩, (hts _ (List.mem_cons_of_mem _ kw_330)), (hts _ (List.mem_cons_of_mem _ kw_331))⟩ (z_preV z_nwN (Nat.le_trans hZ hS.1) hG hK hN hy (ci := 2) (r := (kR_Pr, kT_Pr, 11)) rfl hw) rfl rfl hl.1 rfl (lv_room (Nat.le_of_ble_eq_true rfl)) kb_Vr_why_26 ⟨Nat.le_of_ble_eq_true rfl, Nat.le_of_ble_eq_true rfl⟩) hS (fun r26 σ26 H locs hw hG hS => ?_)
      refine lv_if_ne (tgt := 44) hx hb kb_Vr_why_29 (by decide) (fun hc => ?_) (fun hc => ?_)
      · have hw := hw.1 hc
        refine lv_bipush (v := (-2 : Int32)) hx hb kb_Vr_why_44 (by decide) ?_
        exact zr_iret (free := fun q => Z ≤ q) z_nwN hx hb hr rfl hZ hK hN hG hS hw kb_Vr_why_46 hlocks
      · have hw := hw.2 hc
        refine lv_iload hx hb kb_Vr_why_32 (lv_at hl 5 rfl) ?_
        refine lv_if_lt (tgt := 44) hx hb kb_Vr_why_34 (by decide) (fun hc => ?_) (fun hc => ?_)
        · have hw := hw.1 hc
          refine lv_bipush (v := (-2 : Int32)) hx hb kb_Vr_why_44 (by decide) ?_
          exact zr_iret (free := fun q => Z ≤ q) z_nwN hx hb hr rfl hZ hK hN hG hS hw kb_Vr_why_46 hlocks
        · have hw := hw.2 hc
          refine lv_iload hx hb kb_Vr_why_37 (lv_at hl 5 rfl) ?_
          refine lv_bipush (v := (7 : Int32)) hx hb kb_Vr_why_39 (by decide) ?_
          refine lv_icmp_le (tgt := 47) hx hb kb_Vr_why_41 (by decide) (fun hc => ?_) (fun hc => ?_)
          · have hw := hw.1 hc
            refine lv_aload_n hx hb kb_Vr_why_47 rfl (lv_at hl 0 rfl) ?_
            obtain ⟨hy, r48, hrf, hw⟩ := hw
            refine zr_getR (ci := 7) (f := 705) hx hb hts ki_Vr hown hK hG hy rfl 5 (by decide) (hts _ (List.mem_cons_of_mem _ kw_200)) (fun _ h => h) rfl rfl hrf kb_Vr_why_48 ?_
            obtain ⟨hy, r51, hrf, hw⟩ := hw
            refine zr_getR (ci := 2) (f := 203) hx hb hts ki_Pr hown hK hG hy rfl 3 (by decide) (hts _ (List.mem_cons_of_mem _ kw_35)) (fun _ h => h) rfl rfl hrf kb_Vr_why_51 ?_
            refine lv_iload_n hx hb kb_Vr_why_54 rfl (lv_at hl 1 rfl) ?_
            obtain ⟨n55, s55, hy, hi, hw⟩ := hw
            refine zr_iald hx hb hK hG 0 hy rfl hi kb_Vr_why_55 ?_
            refine lv_iload_n hx hb kb_Vr_why_56 rfl (lv_at hl 2 rfl) ?_
            refine lv_iload_n hx hb kb_Vr_why_57 rfl (lv_at hl 3 rfl) ?_
            refine lv_iload hx hb kb_Vr_why_58 (lv_at hl 4 rfl) ?_
            refine zr_ci (va_runS (As := [.int (z_A σ26 s55 r51 x1.toNatClampNeg), .int x2, .int x3, .int x4]) (rest := []) ⟨hx, hb, hml, hown, hts⟩ (kc_Vr_pack l D dA Z (z_A σ26 s55 r51 x1.toNatClampNeg) x2 x3 x4 σ26 _) ⟨callB_of 4 hts (z_gw kw_488) rfl rfl rfl (hts _ (List.mem_cons_of_mem _ kw_1)) (hts _ (List.mem_cons_of_mem _ kw_486)) (by decide +kernel) ⟨Nat.le_of_ble_eq_true rfl, Nat.le_of_ble_eq_true rfl⟩, (hts _ (List.mem_cons_of_mem _ kw_487))⟩ (z_preS z_nwN (Nat.le_trans hZ hS.1) hG hK hN hw) rfl rfl hl.1 rfl (lv_room (Nat.le_of_ble_eq_true rfl)) kb_Vr_why_60 ⟨Nat.le_of_ble_eq_true rfl, Nat.le_of_ble_eq_true rfl⟩) hS (fun r60 σ60 H locs hw hG hS => ?_)
            refine lv_istore (lv' := [(6, .int r60), (0, .ref a0), (1, .int x1), (2, .int x2), (3, .int x3), (4, .int x4), (5, .int x5)]) hx hb kb_Vr_why_63 hl (by decide) rfl (fun ls hl => ?_)
            refine lv_iload hx hb kb_Vr_why_65 (lv_at hl 0 rfl) ?_
            refine lv_if_ge (tgt := 73) hx hb kb_Vr_why_67 (by decide) (fun hc => ?_) (fun hc => ?_)
            · have hw := hw.1 hc
              refine lv_aload_n hx hb kb_Vr_why_73 rfl (lv_at hl 1 rfl) ?_
              obtain ⟨hy, r74, hrf, hw⟩ := hw
              refine zr_getR (ci := 7) (f := 712) hx hb hts ki_Vr hown hK hG hy rfl 12 (by decide) (hts _ (List.mem_cons_of_mem _ kw_207)) (fun _ h => h) rfl rfl hrf kb_Vr_why_74 ?_
              refine lv_aload_n hx hb kb_Vr_why_77 rfl (lv_at hl 1 rfl) ?_
              obtain ⟨hy, r78, hrf, hw⟩ := hw
              refine zr_getR (ci := 7) (f := 705) hx hb hts ki_Vr hown hK hG hy rfl 5 (by decide) (hts _ (List.mem_cons_of_mem _ kw_200)) (fun _ h => h) rfl rfl hrf kb_Vr_why_78 ?_
              refine lv_aload_n hx hb kb_Vr_why_81 rfl (lv_at hl 1 rfl) ?_
              obtain ⟨hy, r82, hrf, hw⟩ := hw
              refine zr_getR (ci := 7) (f := 706) hx hb hts ki_Vr hown hK hG hy rfl 6 (by decide) (hts _ (List.mem_cons_of_mem _ kw_201)) (fun _ h => h) rfl rfl hrf kb_Vr_why_82 ?_
              refine lv_iload_n hx hb kb_Vr_why_85 rfl (lv_at hl 2 rfl) ?_
              refine lv_iload hx hb kb_Vr_why_86 (lv_at hl 0 rfl) ?_
              obtain ⟨hy, hw⟩ := hw
              refine zr_ci (va_runV (C := kR_En) (As := [.ref r78, .ref r82, .int x1, .int r60]) (rest := []) ⟨hx, hb, hml, hown, hts⟩ (kc_En_findLeast l D dA Z r74 r78 r82 x1 r60 σ60 _) ⟨callB_of 4 hts (z_gw kw_562) rfl rfl rfl (hts _ (List.mem_cons_of_mem _ kw_5)) (hts _ (List.mem_cons_of_mem _ kw_559)) (by decide +kernel) ⟨Nat.le_of_ble_eq_true rfl, Nat.le_of_ble_eq_true rfl⟩, (hts _ (List.mem_cons_of_mem _ kw_560)), (hts _ (List.mem_cons_of_mem _ kw_561))⟩ (z_preV z_nwN (Nat.le_trans hZ hS.1) hG hK hN hy (ci := 1) (r := (kR_En, kT_En, 12)) rfl hw) rfl rfl hl.1 rfl (lv_room (Nat.le_of_ble_eq_true rfl)) kb_Vr_why_88 ⟨Nat.le_of_ble_eq_true rfl, Nat.le_of_ble_eq_true rfl⟩) hS (fun r88 σ88 H locs hw hG hS => ?_)
              refine lv_istore (lv' := [(7, .int r88), (6, .int r60), (0, .ref a0), (1, .int x1), (2, .int x2), (3, .int x3), (4, .int x4), (5, .int x5)]) hx hb kb_Vr_why_91 hl (by decide) rfl (fun ls hl => ?_)
              refine lv_iload hx hb kb_Vr_why_93 (lv_at hl 0 rfl) ?_
              refine lv_if_ge (tgt := 100) hx hb kb_Vr_why_95 (by decide) (fun hc => ?_) (fun hc => ?_)
              · have hw := hw.1 hc
                refine lv_aload_n hx hb kb_Vr_why_100 rfl (lv_at hl 2 rfl) ?_
                obtain ⟨hy, r101, hrf, hw⟩ := hw
                refine zr_getR (ci := 7) (f := 705) hx hb hts ki_Vr hown hK hG hy rfl 5 (by decide) (hts _ (List.mem_cons_of_mem _ kw_200)) (fun _ h => h) rfl rfl hrf kb_Vr_why_101 ?_
                obtain ⟨hy, r104, hrf, hw⟩ := hw
                refine zr_getR (ci := 2) (f := 200) hx hb hts ki_Pr hown hK hG hy rfl 0 (by decide) (hts _ (List.mem_cons_of_mem _ kw_27)) (fun _ h => h) rfl rfl hrf kb_Vr_why_104 ?_
                refine lv_iload hx hb kb_Vr_why_107 (lv_at hl 0 rfl) ?_
                obtain ⟨n109, s109, hy, hi, r109, hrf, hw⟩ := hw
                refine zr_aald hx hb hK hG 3 (by decide) hy rfl hi hrf kb_Vr_why_109 ?_
                obtain ⟨hy, hw⟩ := hw
                refine zr_getI (ci := 5) (f := 506) hx hb hts ki_Ru hown hK hG hy rfl 6 (by decide) (hts _ (List.mem_cons_of_mem _ kw_145)) (fun _ h => h) rfl rfl kb_Vr_why_110 ?_
                refine lv_istore (lv' := [(8, .int (z_I σ88 506 r109)), (7, .int r88), (6, .int r60), (0, .ref a0), (1, .int x1), (2, .int x2), (3, .int x3), (4, .int x4), (5, .int x5)]) hx hb kb_Vr_why_113 hl (by decide) rfl (fun ls hl => ?_)
                refine lv_iload hx hb kb_Vr_why_115 (lv_at hl 8 rfl) ?_
                refine lv_iconst (v := (2 : Int32)) hx hb kb_Vr_why_117 (by decide) ?_
                refine lv_icmp_ge (tgt := 134) hx hb kb_Vr_why_118 (by decide) (fun hc => ?_) (fun hc => ?_)
                · have hw := hw.1 hc
                  refine lv_iload hx hb kb_Vr_why_134 (lv_at hl 8 rfl) ?_
                  refine lv_iconst (v := (2 : Int32)) hx hb kb_Vr_why_136 (by decide) ?_
                  refine lv_isub hx hb kb_Vr_why_137 ?_
                  refine lv_iload hx hb kb_Vr_why_138 (lv_at hl 0 rfl) ?_
                  refine lv_icmp_ge (tgt := 158) hx hb kb_Vr_why_140 (by decide) (fun hc => ?_) (fun hc => ?_)
                  · have hw := hw.1 hc
                    refine lv_iconst (v := (-1 : Int32)) hx hb kb_Vr_why_158 (by decide) ?_
                    exact zr_iret (free := fun q => Z ≤ q) z_nwN hx hb hr rfl hZ hK hN hG hS hw kb_Vr_why_159 hlocks
                  · have hw := hw.2 hc
                    refine lv_aload_n hx hb kb_Vr_why_143 rfl (lv_at hl 3 rfl) ?_
                    obtain ⟨hy, r144, hrf, hw⟩ := hw
                    refine zr_getR (ci := 7) (f := 712) hx hb hts ki_Vr hown hK hG hy rfl 12 (by decide) (hts _ (List.mem_cons_of_mem _ kw_207)) (fun _ h => h) rfl rfl hrf kb_Vr_why_144 ?_
                    obtain ⟨hy, r147, hrf, hw⟩ := hw
                    refine zr_getR (ci := 1) (f := 100) hx hb hts ki_En hown hK hG hy rfl 0 (by decide) (hts _ (List.mem_cons_of_mem _ kw_155)) (fun _ h => h) rfl rfl hrf kb_Vr_why_147 ?_
                    refine lv_iload hx hb kb_Vr_why_150 (lv_at hl 8 rfl) ?_
                    refine lv_iconst (v := (2 : Int32)) hx hb kb_Vr_why_152 (by decide) ?_
                    refine lv_isub hx hb kb_Vr_why_153 ?_
                    obtain ⟨n154, s154, hy, hi, hw⟩ := hw
                    refine zr_iald hx hb hK hG 0 hy rfl hi kb_Vr_why_154 ?_
                    refine lv_goto (tgt := 159) hx hb kb_Vr_why_155 (by decide) ?_
                    exact zr_iret (free := fun q => Z ≤ q) z_nwN hx hb hr rfl hZ hK hN hG hS hw kb_Vr_why_159 hlocks
                · have hw := hw.2 hc
                  refine lv_iload hx hb kb_Vr_why_121 (lv_at hl 8 rfl) ?_
                  refine lv_if_ne (tgt := 131) hx hb kb_Vr_why_123 (by decide) (fun hc => ?_) (fun hc => ?_)
                  · have hw := hw.1 hc
                    refine lv_iload hx hb kb_Vr_why_131 (lv_at hl 0 rfl) ?_
                    exact zr_iret (free := fun q => Z ≤ q) z_nwN hx hb hr rfl hZ hK hN hG hS hw kb_Vr_why_133 hlocks
                  · have hw := hw.2 hc
                    refine lv_iload hx hb kb_Vr_why_126 (lv_at hl 1 rfl) ?_
                    refine lv_goto (tgt := 133) hx hb kb_Vr_why_128 (by decide) ?_
                    exact zr_iret (free := fun q => Z ≤ q) z_nwN hx hb hr rfl hZ hK hN hG hS hw kb_Vr_why_133 hlocks
              · have hw := hw.2 hc
                refine lv_iconst (v := (-1 : Int32)) hx hb kb_Vr_why_98 (by decide) ?_
                exact zr_iret (free := fun q => Z ≤ q) z_nwN hx hb hr rfl hZ hK hN hG hS hw kb_Vr_why_99 hlocks
            · have hw := hw.2 hc
              refine lv_bipush (v := (-2 : Int32)) hx hb kb_Vr_why_70 (by decide) ?_
              exact zr_iret (free := fun q => Z ≤ q) z_nwN hx hb hr rfl hZ hK hN hG hS hw kb_Vr_why_72 hlocks
          · have hw := hw.2 hc
            refine lv_bipush (v := (-2 : Int32)) hx hb kb_Vr_why_44 (by decide) ?_
            exact zr_iret (free := fun q => Z ≤ q) z_nwN hx hb hr rfl hZ hK hN hG hS hw kb_Vr_why_46 hlocks
  · have hw := hw.2 hc
    refine lv_bipush (v := (-4 : Int32)) hx hb kb_Vr_why_7 (by decide) ?_
    exact zr_iret (free := fun q => Z ≤ q) z_nwN hx hb hr rfl hZ hK hN hG hS hw kb_Vr_why_9 hlocks
