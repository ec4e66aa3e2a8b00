def kp_Mo_isCounted (a0 : Nat) (x1 : Int32) (σ : z_S) (Post : Int32 → z_S → Prop) : Prop := ∀ (X4 : Int32 → Int32 → z_S → Prop),
    (∀ (v2 : Int32) (v3 : Int32) (σ : z_S), (z_ty σ a0 = some (.inl 8) ∧ (((z_I σ 808 a0) ≤ v3 → (v2 = 0 ∨ v2 = 1) ∧ Post v2 σ) ∧ (¬ (z_I σ 808 a0) ≤ v3 → (¬ v2 = 0 → X4 ((1 : Int32)) (v3 + (1 : Int32)) σ) ∧ (v2 = 0 → z_ty σ a0 = some (.inl 8) ∧ ∃ r17, z_R σ 809 a0 = some r17 ∧ (∃ n21 s21, z_ty σ r17 = some (.inr (0, n21, s21)) ∧ vp_in v3 n21 ∧ ((¬ (z_A σ s21 r17 v3.toNatClampNeg) = x1 → X4 ((0 : Int32)) (v3 + (1 : Int32)) σ) ∧ ((z_A σ s21 r17 v3.toNatClampNeg) = x1 → z_ty σ a0 = some (.inl 8) ∧ ∃ r27, z_R σ 815 a0 = some r27 ∧ (∃ n31 s31, z_ty σ r27 = some (.inr (2, n31, s31)) ∧ vp_in v3 n31 ∧ ((((z_A σ s31 r27 v3.toNatClampNeg)) = 0 → X4 ((0 : Int32)) (v3 + (1 : Int32)) σ) ∧ (¬ ((z_A σ s31 r27 v3.toNatClampNeg)) = 0 → X4 ((1 : Int32)) (v3 + (1 : Int32)) σ)))))))))) → X4 v2 v3 σ) →
    (X4 ((0 : Int32)) ((0 : Int32)) σ)
set_option maxHeartbeats 4000000 in
set_option maxRecDepth 100000 in
theorem kc_Mo_isCounted (l : Launch) (D : va_G) (dA : Nat → ClassId) (Z : Nat) (a0 : Nat) (x1 : Int32) (σ : z_S) (Post : Int32 → z_S → Prop) : Met l km_Mo_isCounted ks_Mo_isCounted kr_Mo_isCounted (va_Pc [.ref a0, .int x1] (fun U => z_U D z_cl z_KT dA Z (z_tys dA) z_nw σ U ∧ kp_Mo_isCounted  a0 x1 σ Post)) (z_Qi D z_cl z_KT dA Z (z_tys dA) z_nw Post) 0 0 (fun q => Z ≤ q) := by
  refine Met.ofW (cc := prog_10_method_62_code) (maxL := 4) (ret := (some .boolean)) (by decide) rfl ?_
  intro p e s m args below meth c s₁ B hml hv
  obtain ⟨rfl, ⟨hZ, hG, hK, hN⟩, hw⟩ := hv
  have hx := B.exec
  have hb := B.bytes
  have hr := B.returns
  have hts := atoms_spec (ws := ks_Mo_isCounted) B.pre
  have hown : s.vm.findClass kR_Mo = some m.cls := findClass_of_methodNamed B.named
  have hlocks := B.notSynchronized
  have hS : va_S (fun q => Z ≤ q) s.heap s.heap [] := va_S.rf
  have hl := lv_entry ([.ref a0, .int x1]) (n := 4) (Nat.le_of_ble_eq_true rfl)
  rw [lg_entry_eq]
  generalize (lg_sl ([.ref a0, .int x1]) ++ List.replicate (4 - (lg_sl ([.ref a0, .int x1])).length) Slot.unset).toArray = ls at hl ⊢
  have hl : lv_has ls 4 [(0, .ref a0), (1, .int x1)] := hl
  unfold kp_Mo_isCounted at hw
  have hw := hw (fun (v2 : Int32) (v3 : Int32) (σ : z_S) => ∀ (H : Heap) (locs : List Loc) (ls : Array Slot), z_G D z_cl z_KT dA Z σ H → va_S (fun q => Z ≤ q) s.heap H locs → lv_has ls 4 [(0, .ref a0), (1, .int x1), (2, .int v2), (3, .int v3)] → W p l e (headSpec ks_Mo_isCounted kr_Mo_isCounted).room s m ([.ref a0, .int x1] : List Value).toArray below meth c H locs 0 0 (MQ below (z_Qi D z_cl z_KT dA Z (z_tys dA) z_nw Post) ([.ref a0, .int x1] : List Value).toArray s 0 0 (fun q => Z ≤ q)) (F0 m 4 ls []))
  have hw := hw (by
    intro v2 v3 σ hw H locs ls hG hS hl
    refine lv_iload_n hx hb kb_Mo_isCounted_4 rfl (lv_at hl 3 rfl) ?_
    refine lv_aload_n hx hb kb_Mo_isCounted_5 rfl (lv_at hl 0 rfl) ?_
    obtain ⟨hy, hw⟩ := hw
    refine zr_getI (ci := 8) (f := 808) hx hb hts ki_Mo hown hK hG hy rfl 8 (by decide) (hts _ (List.mem_cons_of_mem _ kw_592)) (fun _ h => h) rfl rfl kb_Mo_isCounted_6 ?_
    refine lv_icmp_ge (tgt := 47) hx hb kb_Mo_isCounted_9 (by decide) (fun hc => ?_) (fun hc => ?_)
    · have hw := hw.1 hc
      refine lv_iload_n hx hb kb_Mo_isCounted_47 rfl (lv_at hl 2 rfl) ?_
      exact zr_iret (free := fun q => Z ≤ q) z_nwN hx hb hr (z_bool hw.1) hZ hK hN hG hS hw.2 kb_Mo_isCounted_48 hlocks
    · have hw := hw.2 hc
      refine lv_iload_n hx hb kb_Mo_isCounted_12 rfl (lv_at hl 2 rfl) ?_
      refine lv_if_ne (tgt := 35) hx hb kb_Mo_isCounted_13 (by decide) (fun hc => ?_) (fun hc => ?_)
      · have hw := hw.1 hc
        refine lv_iconst (v := (1 : Int32)) hx hb kb_Mo_isCounted_35 (by decide) ?_
        refine lv_goto (tgt := 40) hx hb kb_Mo_isCounted_36 (by decide) ?_
        refine lv_istore_n (lv' := [(2, .int ((1 : Int32))), (0, .ref a0), (1, .int x1), (3, .int v3)]) hx hb kb_Mo_isCounted_40 rfl hl (by decide) rfl (fun ls hl => ?_)
        refine lv_iinc (v := v3 + (1 : Int32)) (lv' := [(3, .int (v3 + (1 : Int32))), (2, .int ((1 : Int32))), (0, .ref a0), (1, .int x1)]) hx hb kb_Mo_isCounted_41 hl (k := 3) rfl rfl (by decide) rfl (fun ls hl => ?_)
        refine lv_goto (tgt := 4) hx hb kb_Mo_isCounted_44 (by decide) ?_
        exact hw _ _ _ hG hS (lv_sub hl [2, 3, 1, 0] rfl)
      · have hw := hw.2 hc
        refine lv_aload_n hx hb kb_Mo_isCounted_16 rfl (lv_at hl 0 rfl) ?_
        obtain ⟨hy, r17, hrf, hw⟩ := hw
        refine zr_getR (ci := 8) (f := 809) hx hb hts ki_Mo hown hK hG hy rfl 9 (by decide) (hts _ (List.mem_cons_of_mem _ kw_593)) (fun _ h => h) rfl rfl hrf kb_Mo_isCounted_17 ?_
        refine lv_iload_n hx hb kb_Mo_isCounted_20 rfl (lv_at hl 3 rfl) ?_
        obtain ⟨n21, s21, hy, hi, hw⟩ := hw
        refine zr_iald hx hb hK hG 0 hy rfl hi kb_Mo_isCounted_21 ?_
        refine lv_iload_n hx hb kb_Mo_isCounted_22 rfl (lv_at hl 1 rfl) ?_
        refine lv_icmp_ne (tgt := 39) hx hb kb_Mo_isCounted_23 (by decide) (fun hc => ?_) (fun hc => ?_)
        · have hw := hw.1 hc
          refine lv_iconst (v := (0 : Int32)) hx hb kb_Mo_isCounted_39 (by decide) ?_
          refine lv_istore_n (lv' := [(2, .int ((0 : Int32))), (0, .ref a0), (1, .int x1), (3, .int v3)]) hx hb kb_Mo_isCounted_40 rfl hl (by decide) rfl (fun ls hl => ?_)
          refine lv_iinc (v := v3 + (1 : Int32)) (lv' := [(3, .int (v3 + (1 : Int32))), (2, .int ((0 : Int32))), (0, .ref a0), (1, .int x1)]) hx hb kb_Mo_isCounted_41 hl (k := 3) rfl rfl (by decide) rfl (fun ls hl => ?_)
          refine lv_goto (tgt := 4) hx hb kb_Mo_isCounted_44 (by decide) ?_
          exact hw _ _ _ hG hS (lv_sub hl [2, 3, 1, 0] rfl)
        · have hw := hw.2 hc
          refine lv_aload_n hx hb kb_Mo_isCounted_26 rfl (lv_at hl 0 rfl) ?_
          obtain ⟨hy, r27, hrf, hw⟩ := hw
          refine zr_getR (ci := 8) (f := 815) hx hb hts ki_Mo hown hK hG hy rfl 15 (by decide) (hts _ (List.mem_cons_of_mem _ kw_599)) (fun _ h => h) rfl rfl hrf kb_Mo_isCounted_27 ?_
          refine lv_iload_n hx hb kb_Mo_isCounted_30 rfl (lv_at hl 3 rfl) ?_
          obtain ⟨n31, s31, hy, hi, hw⟩ := hw
          refine zr_zald hx hb hK hG 2 hy rfl hi kb_Mo_isCounted_31 ?_
          refine lv_if_eq (tgt := 39) hx hb kb_Mo_isCounted_32 (by decide) (fun hc => ?_) (fun hc => ?_)
          · have hw := hw.1 hc
            refine lv_iconst (v := (0 : Int32)) hx hb kb_Mo_isCounted_39 (by decide) ?_
            refine lv_istore_n (lv' := [(2, .int ((0 : Int32))), (0, .ref a0), (1, .int x1), (3, .int v3)]) hx hb kb_Mo_isCounted_40 rfl hl (by decide) rfl (fun ls hl => ?_)
            refine lv_iinc (v := v3 + (1 : Int32)) (lv' := [(3, .int (v3 + (1 : Int32))), (2, .int ((0 : Int32))), (0, .ref a0), (1, .int x1)]) hx hb kb_Mo_isCounted_41 hl (k := 3) rfl rfl (by decide) rfl (fun ls hl => ?_)
            refine lv_goto (tgt := 4) hx hb kb_Mo_isCounted_44 (by decide) ?_
            exact hw _ _ _ hG hS (lv_sub hl [2, 3, 1, 0] rfl)
          · have hw := hw.2 hc
            refine lv_iconst (v := (1 : Int32)) hx hb kb_Mo_isCounted_35 (by decide) ?_
            refine lv_goto (tgt := 40) hx hb kb_Mo_isCounted_36 (by decide) ?_
            refine lv_istore_n (lv' := [(2, .int ((1 : Int32))), (0, .ref a0), (1, .int x1), (3, .int v3)]) hx hb kb_Mo_isCounted_40 rfl hl (by decide) rfl (fun ls hl => ?_)
            refine lv_iinc (v := v3 + (1 : Int32)) (lv' := [(3, .int (v3 + (1 : Int32))), (2, .int ((1 : Int32))), (0, .ref a0), (1, .int x1)]) hx hb kb_Mo_isCounted_41 hl (k := 3) rfl rfl (by decide) rfl (fun ls hl => ?_)
            refine lv_goto (tgt := 4) hx hb kb_Mo_isCounted_44 (by decide) ?_
            exact hw _ _ _ hG hS (lv_sub hl [2, 3, 1, 0] rfl))
  refine lv_iconst (v := (0 : Int32)) hx hb kb_Mo_isCounted_0 (by decide) ?_
  refine lv_istore_n (lv' := [(2, .int ((0 : Int32))), (0, .ref a0), (1, .int x1)]) hx hb kb_Mo_isCounted_1 rfl hl (by decide) rfl (fun ls hl => ?_)
  refine lv_iconst (v := (0 : Int32)) hx hb kb_Mo_isCounted_2 (by decide) ?_
  refine lv_istore_n (lv' := [(3, .int ((0 : Int32))), (2, .int ((0 : Int32))), (0, .ref a0), (1, .int x1)]) hx hb kb_Mo_isCounted_3 rfl hl (by decide) rfl (fun ls hl => ?_)
  exact hw _ _ _ hG hS (lv_sub hl [2, 3, 1, 0] rfl)
def kp_Mo_leads (a0 : Nat) (x1 : Int32) (x2 : Int32) (x3 : Int32) (σ : z_S) (Post : Int32 → z_S → Prop) : Prop :=     (z_ty σ a0 = some (.inl 8) ∧ kp_Mo_headValue a0 ((0 : Int32)) σ (fun (r2 : Int32) (σ2 : z_S) => (¬ r2 = x1 → Post ((0 : Int32)) σ2) ∧ (r2 = x1 → z_ty σ2 a0 = some (.inl 8) ∧ kp_Mo_headValue a0 ((1 : Int32)) σ2 (fun (r11 : Int32) (σ11 : z_S) => (¬ r11 = x2 → Post ((0 : Int32)) σ11) ∧ (r11 = x2 → z_ty σ11 a0 = some (.inl 8) ∧ kp_Mo_headValue a0 ((2 : Int32)) σ11 (fun (r20 : Int32) (σ20 : z_S) => (¬ r20 = x3 → Post ((0 : Int32)) σ20) ∧ (r20 = x3 → Post ((1 : Int32)) σ20)))))))
set_option maxHeartbeats 4000000 in
set_option maxRecDepth 100000 in
theorem kc_Mo_leads (l : Launch) (D : va_G) (dA : Nat → ClassId) (Z : Nat) (a0 : Nat) (x1 : Int32) (x2 : Int32) (x3 : Int32) (σ : z_S) (Post : Int32 → z_S → Prop) : Met l km_Mo_leads ks_Mo_leads kr_Mo_leads (va_Pc [.ref a0, .int x1, .int x2, .int x3] (fun U => z_U D z_cl z_KT dA Z (z_tys dA) z_nw σ U ∧ kp_Mo_leads  a0 x1 x2 x3 σ Post)) (z_Qi D z_cl z_KT dA Z (z_tys dA) z_nw Post) 0 0 (fun q => Z ≤ q) := by
  refine Met.ofW (cc := prog_10_method_63_code) (maxL := 4) (ret := (some .boolean)) (by decide) rfl ?_
  intro p e s m args below meth c s₁ B hml hv
  obtain ⟨rfl, ⟨hZ, hG, hK, hN⟩, hw⟩ := hv
  have hx := B.exec
  have hb := B.bytes
  have hr := B.returns
  have hts := atoms_spec (ws := ks_Mo_leads) B.pre
  have hown : s.vm.findClass kR_Mo = some m.cls := findClass_of_methodNamed B.named
  have hlocks := B.notSynchronized
  have hS : va_S (fun q => Z ≤ q) s.heap s.heap [] := va_S.rf
  have hl := lv_entry ([.ref a0, .int x1, .int x2, .int x3]) (n := 4) (Nat.le_of_ble_eq_true rfl)
  rw [lg_entry_eq]
  generalize (lg_sl ([.ref a0, .int x1, .int x2, .int x3]) ++ List.replicate (4 - (lg_sl ([.ref a0, .int x1, .int x2, .int x3])).length) Slot.unset).toArray = ls at hl ⊢
  have hl : lv_has ls 4 [(0, .ref a0), (1, .int x1), (2, .int x2), (3, .int x3)] := hl
  unfold kp_Mo_leads at hw
  refine lv_aload_n hx hb kb_Mo_leads_0 rfl (lv_at hl 0 rfl) ?_
  refine lv_iconst (v := (0 : Int32)) hx hb kb_Mo_leads_1 (by decide) ?_
  obtain ⟨hy, hw⟩ := hw
  refine zr_ci (va_runV (C := kR_Mo) (As := [.int ((0 : Int32))]) (rest := []) ⟨hx, hb, hml, hown, hts⟩ (kc_Mo_headValue l D dA Z a0 ((0 : Int32)) σ _) ⟨callB_of 1 hts (z_gw kw_796) rfl rfl rfl (hts _ (List.mem_cons_of_mem _ kw_9)) (hts _ (List.mem_cons_of_mem _ kw_794)) (by decide +kernel) ⟨Nat.le_of_ble_eq_true rfl, Nat.le_of_ble_eq_true rfl⟩, (hts _ (List.mem_cons_of_mem _ kw_795)), (hts _ (List.mem_cons_of_mem _ kw_979))⟩ (z_preV z_nwN (Nat.le_trans hZ hS.1) hG hK hN hy (ci := 8) (r := (kR_Mo, kT_Mo, 51)) rfl hw) rfl rfl hl.1 rfl (lv_room (Nat.le_of_ble_eq_true rfl)) kb_Mo_leads_2 ⟨Nat.le_of_ble_eq_true rfl, Nat.le_of_ble_eq_true rfl⟩) hS (fun r2 σ2 H locs hw hG hS => ?_)
  refine lv_iload_n hx hb kb_Mo_leads_5 rfl (lv_at hl 1 rfl) ?_
  refine lv_icmp_ne (tgt := 31) hx hb kb_Mo_leads_6 (by decide) (fun hc => ?_) (fun hc => ?_)
  · have hw := hw.1 hc
    refine lv_iconst (v := (0 : Int32)) hx hb kb_Mo_leads_31 (by decide) ?_
    exact zr_iret (free := fun q => Z ≤ q) z_nwN hx hb hr rfl hZ hK hN hG hS hw kb_Mo_leads_32 hlocks
  · have hw := hw.2 hc
    refine lv_aload_n hx hb kb_Mo_leads_9 rfl (lv_at hl 0 rfl) ?_
    refine lv_iconst (v := (1 : Int32)) hx hb kb_Mo_leads_10 (by decide) ?_
    obtain ⟨hy, hw⟩ := hw
    refine zr_ci (va_runV (C := kR_Mo) (As := [.int ((1 : Int32))]) (rest := []) ⟨hx, hb, hml, hown, hts⟩ (kc_Mo_headValue l D dA Z a0 ((1 : Int32)) σ2 _) ⟨callB_of 1 hts (z_gw kw_796) rfl rfl rfl (hts _ (List.mem_cons_of_mem _ kw_9)) (hts _ (List.mem_cons_of_mem _ kw_794)) (by decide +kernel) ⟨Nat.le_of_ble_eq_true rfl, Nat.le_of_ble_eq_true rfl⟩, (hts _ (List.mem_cons_of_mem _ kw_795)), (hts _ (List.mem_cons_of_mem _ kw_979))⟩ (z_preV z_nwN (Nat.le_trans hZ hS.1) hG hK hN hy (ci := 8) (r := (kR_Mo, kT_Mo, 51)) rfl hw) rfl rfl hl.1 rfl (lv_room (Nat.le_of_ble_eq_true rfl)) kb_Mo_leads_11 ⟨Nat.le_of_ble_eq_true rfl, Nat.le_of_ble_eq_true rfl⟩) hS (fun r11 σ11 H locs hw hG hS => ?_)
    refine lv_iload_n hx hb kb_Mo_leads_14 rfl (lv_at hl 2 rfl) ?_
    refine lv_icmp_ne (tgt := 31) hx hb kb_Mo_leads_15 (by decide) (fun hc => ?_) (fun hc => ?_)
    · have hw := hw.1 hc
      refine lv_iconst (v := (0 : Int32)) hx hb kb_Mo_leads_31 (by decide) ?_
      exact zr_iret (free := fun q => Z ≤ q) z_nwN hx hb hr rfl hZ hK hN hG hS hw kb_Mo_leads_32 hlocks
    · have hw := hw.2 hc
      refine lv_aload_n hx hb kb_Mo_leads_18 rfl (lv_at hl 0 rfl) ?_
      refine lv_iconst (v := (2 : Int32)) hx hb kb_Mo_leads_19 (by decide) ?_
      obtain ⟨hy, hw⟩ := hw
      refine zr_ci (va_runV (C := kR_Mo) (As := [.int ((2 : Int32))]) (rest := []) ⟨hx, hb, hml, hown, hts⟩ (kc_Mo_headValue l D dA Z a0 ((2 : Int32)) σ11 _) ⟨callB_of 1 hts (z_gw kw_796) rfl rfl rfl (hts _ (List.mem_cons_of_mem _ kw_9)) (hts _ (List.mem_cons_of_mem _ kw_794)) (by decide +kernel) ⟨Nat.le_of_ble_eq_true rfl, Nat.le_of_ble_eq_true rfl⟩, (hts _ (List.mem_cons_of_mem _ kw_795)), (hts _ (List.mem_cons_of_mem _ kw_979))⟩ (z_preV z_nwN (Nat.le_trans hZ hS.1) hG hK hN hy (ci := 8) (r := (kR_Mo, kT_Mo, 51)) rfl hw) rfl rfl hl.1 rfl (lv_room (Nat.le_of_ble_eq_true rfl)) kb_Mo_leads_20 ⟨Nat.le_of_ble_eq_true rfl, Nat.le_of_ble_eq_true rfl⟩) hS (fun r20 σ20 H locs hw hG hS => ?_)
      refine lv_iload_n hx hb kb_Mo_leads_23 rfl (lv_at hl 3 rfl) ?_
      refine lv_icmp_ne (tgt := 31) hx hb kb_Mo_leads_24 (by decide) (fun hc => ?_) (fun hc => ?_)
      · have hw := hw.1 hc
        refine lv_iconst (v := (0 : Int32)) hx hb kb_Mo_leads_31 (by decide) ?_
        exact zr_iret (free := fun q => Z ≤ q) z_nwN hx hb hr rfl hZ hK hN hG hS hw kb_Mo_leads_32 hlocks
      · have hw := hw.2 hc
        refine lv_iconst (v := (1 : Int32)) hx hb kb_Mo_leads_27 (by decide) ?_
        refine lv_goto (tgt := 32) hx hb kb_Mo_leads_28 (by decide) ?_
        exact zr_iret (free := fun q => Z ≤ q) z_nwN hx hb hr rfl hZ hK hN hG hS hw kb_Mo_leads_32 hlocks
def kp_Mo_derivations (a0 : Nat) (x1 : Int32) (x2 : Int32) (x3 : Int32) (x4 : Int32) (σ : z_S) (Post : Int32 → z_S → Prop) : Prop := ∀ (X100 : Int32 → Int32 → Int32 → z_S → Prop) (X129 : Int32 → Int32 → Int32 → Int32 → z_S → Prop) (X155 : Int32 → Int32 → Int32 → Int32 → z_S → Prop),
    (∀ (v5 : Int32) (v6 : Int32) (t0 : Int32) (σ : z_S), (z_ty σ a0 = some (.inl 8) ∧ kp_Mo_find a0 x1 x2 v5 v6 σ (fun (r109 : Int32) (σ109 : z_S) => (¬ r109 = ((-1 : Int32)) → Post t0 σ109) ∧ (r109 = ((-1 : Int32)) → Post ((0 : Int32)) σ109))) → X100 v5 v6 t0 σ) →
    (∀ (v5 : Int32) (v6 : Int32) (v7 : Int32) (v8 : Int32) (σ : z_S), (z_ty σ a0 = some (.inl 8) ∧ (((z_I σ 808 a0) ≤ v8 → Post v7 σ) ∧ (¬ (z_I σ 808 a0) ≤ v8 → z_ty σ a0 = some (.inl 8) ∧ ∃ r139, z_R σ 809 a0 = some r139 ∧ (∃ n144 s144, z_ty σ r139 = some (.inr (0, n144, s144)) ∧ vp_in v8 n144 ∧ ((¬ (z_A σ s144 r139 v8.toNatClampNeg) = x1 → X129 v5 v6 v7 (v8 + (1 : Int32)) σ) ∧ ((z_A σ s144 r139 v8.toNatClampNeg) = x1 → z_ty σ a0 = some (.inl 8) ∧ kp_Mo_begin a0 v8 σ (fun (σ152 : z_S) => X155 v5 v6 v7 v8 σ152))))))) → X129 v5 v6 v7 v8 σ) →
    (∀ (v5 : Int32) (v6 : Int32) (v7 : Int32) (v8 : Int32) (σ : z_S), (z_ty σ a0 = some (.inl 8) ∧ kp_Mo_next a0 σ (fun (r156 : Int32) (σ156 : z_S) => (r156 = 0 → X129 v5 v6 v7 (v8 + (1 : Int32)) σ156) ∧ (¬ r156 = 0 → z_ty σ156 a0 = some (.inl 8) ∧ kp_Mo_leads a0 x2 v5 v6 σ156 (fun (r170 : Int32) (σ170 : z_S) => (r170 = 0 → X155 v5 v6 (v7 + ((0 : Int32))) v8 σ170) ∧ (¬ r170 = 0 → X155 v5 v6 (v7 + ((1 : Int32))) v8 σ170))))) → X155 v5 v6 v7 v8 σ) →
    (z_ty σ a0 = some (.inl 8) ∧ ((¬ ((z_I σ 808 a0)) = 0 → z_ty σ a0 = some (.inl 8) ∧ kp_Mo_isRelation a0 x1 σ (fun (r12 : Int32) (σ12 : z_S) => (r12 = 0 → Post ((-2 : Int32)) σ12) ∧ (¬ r12 = 0 → z_ty σ12 a0 = some (.inl 8) ∧ ∃ r19, z_R σ12 820 a0 = some r19 ∧ (∃ n23 s23, z_ty σ12 r19 = some (.inr (2, n23, s23)) ∧ vp_in x1 n23 ∧ ((((z_A σ12 s23 r19 x1.toNatClampNeg)) = 0 → Post ((-2 : Int32)) σ12) ∧ (¬ ((z_A σ12 s23 r19 x1.toNatClampNeg)) = 0 → z_ty σ12 a0 = some (.inl 8) ∧ kp_Mo_areValues a0 x1 x2 x3 x4 σ12 (fun (r33 : Int32) (σ33 : z_S) => (¬ r33 = 0 → z_ty σ33 a0 = some (.inl 8) ∧ kp_Mo_given a0 x1 ((1 : Int32)) x3 σ33 (fun (r46 : Int32) (σ46 : z_S) => z_ty σ46 a0 = some (.inl 8) ∧ kp_Mo_given a0 x1 ((2 : Int32)) x4 σ46 (fun (r56 : Int32) (σ56 : z_S) => z_ty σ56 a0 = some (.inl 8) ∧ kp_Mo_isCounted a0 x1 σ56 (fun (r63 : Int32) (σ63 : z_S) => (r63 = 0 → X129 r46 r56 ((0 : Int32)) ((0 : Int32)) σ63) ∧ (¬ r63 = 0 → z_ty σ63 a0 = some (.inl 8) ∧ ∃ r70, z_R σ63 819 a0 = some r70 ∧ (∃ n74 s74, z_ty σ63 r70 = some (.inr (0, n74, s74)) ∧ vp_in x1 n74 ∧ ((¬ (z_A σ63 s74 r70 x1.toNatClampNeg) = ((1 : Int32)) → z_ty σ63 a0 = some (.inl 8) ∧ ∃ r84, z_R σ63 819 a0 = some r84 ∧ (∃ n88 s88, z_ty σ63 r84 = some (.inr (0, n88, s88)) ∧ vp_in x1 n88 ∧ ((¬ (z_A σ63 s88 r84 x1.toNatClampNeg) = ((2 : Int32)) → X100 r46 r56 r56 σ63) ∧ ((z_A σ63 s88 r84 x1.toNatClampNeg) = ((2 : Int32)) → X100 r46 r56 r46 σ63)))) ∧ ((z_A σ63 s74 r70 x1.toNatClampNeg) = ((1 : Int32)) → X100 r46 r56 x2 σ63)))))))) ∧ (r33 = 0 → Post ((-2 : Int32)) σ33)))))))) ∧ (((z_I σ 808 a0)) = 0 → Post ((-4 : Int32)) σ)))
set_option maxHeartbeats 4000000 in
set_option maxRecDepth 100000 in
theorem kc_Mo_derivations (l : Launch) (D : va_G) (dA : Nat → ClassId) (Z : Nat) (a0 : Nat) (x1 : Int32) (x2 : Int32) (x3 : Int32) (x4 : Int32) (σ : z_S) (Post : Int32 → z_S → Prop) : Met l km_Mo_derivations ks_Mo_derivations kr_Mo_derivations (va_Pc [.ref a0, .int x1, .int x2, .int x3, .int x4] (fun U => z_U D z_cl z_KT dA Z (z_tys dA) z_nw σ U ∧ kp_Mo_derivations  a0 x1 x2 x3 x4 σ Post)) (z_Qi D z_cl z_KT dA Z (z_tys dA) z_nw Post) 0 0 (fun q => Z ≤ q) := by
  refine Met.ofW (cc := prog_10_method_64_code) (maxL := 9) (ret := (some .int)) (by decide) rfl ?_
  intro p e s m args below meth c s₁ B hml hv
  obtain ⟨rfl, ⟨hZ, hG, hK, hN⟩, hw⟩ := hv
  have hx := B.exec
  have hb := B.bytes
  have hr := B.returns
  have hts := atoms_spec (ws := ks_Mo_derivations) B.pre
  have hown : s.vm.findClass kR_Mo = some m.cls := findClass_of_methodNamed B.named
  have hlocks := B.notSynchronized
  have hS : va_S (fun q => Z ≤ q) s.heap s.heap [] := va_S.rf
  have hl := lv_entry ([.ref a0, .int x1, .int x2, .int x3, .int x4]) (n := 9) (Nat.le_of_ble_eq_true rfl)
  rw [lg_entry_eq]
  generalize (lg_sl ([.ref a0, .int x1, .int x2, .int x3, .int x4]) ++ List.replicate (9 - (lg_sl ([.ref a0, .int x1, .int x2, .int x3, .int x4])).length) Slot.unset).toArray = ls at hl ⊢
  have hl : lv_has ls 9 [(0, .ref a0), (1, .int x1), (2, .int x2), (3, .int x3), (4, .int x4)] := hl
  unfold kp_Mo_derivations at hw
  have hw := hw (fun (v5 : Int32) (v6 : Int32) (t0 : Int32) (σ : z_S) => ∀ (H : Heap) (locs : List Loc) (ls : Array Slot), z_G D z_cl z_KT dA Z σ H → va_S (fun q => Z ≤ q) s.heap H locs → lv_has ls 9 [(0, .ref a0), (1, .int x1), (2, .int x2), (5, .int v5), (6, .int v6)] → W p l e (headSpec ks_Mo_derivations kr_Mo_derivations).room s m ([.ref a0, .int x1, .int x2, .int x3, .int x4] : List Value).toArray below meth c H locs 0 0 (MQ below (z_Qi D z_cl z_KT dA Z (z_tys dA) z_nw Post) ([.ref a0, .int x1, .int x2, .int x3, .int x4] : List Value).toArray s 0 0 (fun q => Z ≤ q)) (F0 m 100 ls [.int t0]))
  have hw := hw (fun (v5 : Int32) (v6 : Int32) (v7 : Int32) (v8 : Int32) (σ : z_S) => ∀ (H : Heap) (locs : List Loc) (ls : Array Slot), z_G D z_cl z_KT dA Z σ H → va_S (fun q => Z ≤ q) s.heap H locs → lv_has ls 9 [(0, .ref a0), (1, .int x1), (2, .int x2), (5, .int v5), (6, .int v6), (7, .int v7), (8, .int v8)] → W p l e (headSpec ks_Mo_derivations kr_Mo_derivations).room s m ([.ref a0, .int x1, .int x2, .int x3, .int x4] : List Value).toArray below meth c H locs 0 0 (MQ below (z_Qi D z_cl z_KT dA Z (z_tys dA) z_nw Post) ([.ref a0, .int x1, .int x2, .int x3, .int x4] : List Value).toArray s 0 0 (fun q => Z ≤ q)) (F0 m 129 ls []))
  have hw := hw (fun (v5 : Int32) (v6 : Int32) (v7 : Int32) (v8 : Int32) (σ : z_S) => ∀ (H : Heap) (locs : List Loc) (ls : Array Slot), z_G D z_cl z_KT dA Z σ H → va_S (fun q => Z ≤ q) s.heap H locs → lv_has ls 9 [(0, .ref a0), (1, .int x1), (2, .int x2), (5, .int v5), (6, .int v6), (7, .int v7), (8, .int v8)] → W p l e (headSpec ks_Mo_derivations kr_Mo_derivations).room s m ([.ref a0, .int x1, .int x2, .int x3, .int x4] : List Value).toArray below meth c H locs 0 0 (MQ below (z_Qi D z_cl z_KT dA Z (z_tys dA) z_nw Post) ([.ref a0, .int x1, .int x2, .int x3, .int x4] : List Value).toArray s 0 0 (fun q => Z ≤ q)) (F0 m 155 ls []))
  have hw := hw (by
    intro v5 v6 t0 σ hw H locs ls hG hS hl
    refine lv_istore (lv' := [(7, .int t0), (0, .ref a0), (1, .int x1), (2, .int x2), (5, .int v5), (6, .int v6)]) hx hb kb_Mo_derivations_100 hl (by decide) rfl (fun ls hl => ?_)
    refine lv_aload_n hx hb kb_Mo_derivations_102 rfl (lv_at hl 1 rfl) ?_
    refine lv_iload_n hx hb kb_Mo_derivations_103 rfl (lv_at hl 2 rfl) ?_
    refine lv_iload_n hx hb kb_Mo_derivations_104 rfl (lv_at hl 3 rfl) ?_
    refine lv_iload hx hb kb_Mo_derivations_105 (lv_at hl 4 rfl) ?_
    refine lv_iload hx hb kb_Mo_derivations_107 (lv_at hl 5 rfl) ?_
    obtain ⟨hy, hw⟩ := hw
    refine zr_ci (va_runV (C := kR_Mo) (As := [.int x1, .int x2, .int v5, .int v6]) (rest := []) ⟨hx, hb, hml, hown, hts⟩ (kc_Mo_find l D dA Z a0 x1 x2 v5 v6 σ _) ⟨callB_of 4 hts (z_gw kw_784) rfl rfl rfl (hts _ (List.mem_cons_of_mem _ kw_9)) (hts _ (List.mem_cons_of_mem _ kw_782)) (by decide +kernel) ⟨Nat.le_of_ble_eq_true rfl, Nat.le_of_ble_eq_true rfl⟩, (hts _ (List.mem_cons_of_mem _ kw_783)), (hts _ (List.mem_cons_of_mem _ kw_975))⟩ (z_preV z_nwN (Nat.le_trans hZ hS.1) hG hK hN hy (ci := 8) (r := (kR_Mo, kT_Mo, 51)) rfl hw) rfl rfl hl.1 rfl (lv_room (Nat.le_of_ble_eq_true rfl)) kb_Mo_derivations_109 ⟨Nat.le_of_ble_eq_true rfl, Nat.le_of_ble_eq_true rfl⟩) hS (fun r109 σ109 H locs hw hG hS => ?_)
    refine lv_iconst (v := (-1 : Int32)) hx hb kb_Mo_derivations_112 (by decide) ?_
    refine lv_icmp_ne (tgt := 120) hx hb kb_Mo_derivations_113 (by decide) (fun hc => ?_) (fun hc => ?_)
    · have hw := hw.1 hc
      refine lv_iload hx hb kb_Mo_derivations_120 (lv_at hl 0 rfl) ?_
      exact zr_iret (free := fun q => Z ≤ q) z_nwN hx hb hr rfl hZ hK hN hG hS hw kb_Mo_derivations_122 hlocks
    · have hw := hw.2 hc
      refine lv_iconst (v := (0 : Int32)) hx hb kb_Mo_derivations_116 (by decide) ?_
      refine lv_goto (tgt := 122) hx hb kb_Mo_derivations_117 (by decide) ?_
      exact zr_iret (free := fun q => Z ≤ q) z_nwN hx hb hr rfl hZ hK hN hG hS hw kb_Mo_derivations_122 hlocks)
  have hw := hw (by
    intro v5 v6 v7 v8 σ hw H locs ls hG hS hl
    refine lv_iload hx hb kb_Mo_derivations_129 (lv_at hl 6 rfl) ?_
    refine lv_aload_n hx hb kb_Mo_derivations_131 rfl (lv_at hl 0 rfl) ?_
    obtain ⟨hy, hw⟩ := hw
    refine zr_getI (ci := 8) (f := 808) hx hb hts ki_Mo hown hK hG hy rfl 8 (by decide) (hts _ (List.mem_cons_of_mem _ kw_592)) (fun _ h => h) rfl rfl kb_Mo_derivations_132 ?_
    refine lv_icmp_ge (tgt := 193) hx hb kb_Mo_derivations_135 (by decide) (fun hc => ?_) (fun hc => ?_)
    · have hw := hw.1 hc
      refine lv_iload hx hb kb_Mo_derivations_193 (lv_at hl 5 rfl) ?_
      exact zr_iret (free := fun q => Z ≤ q) z_nwN hx hb hr rfl hZ hK hN hG hS hw kb_Mo_derivations_195 hlocks
    · have hw := hw.2 hc
      refine lv_aload_n hx hb kb_Mo_derivations_138 rfl (lv_at hl 0 rfl) ?_
      obtain ⟨hy, r139, hrf, hw⟩ := hw
      refine zr_getR (ci := 8) (f := 809) hx hb hts ki_Mo hown hK hG hy rfl 9 (by decide) (hts _ (List.mem_cons_of_mem _ kw_593)) (fun _ h => h) rfl rfl hrf kb_Mo_derivations_139 ?_
      refine lv_iload hx hb kb_Mo_derivations_142 (lv_at hl 6 rfl) ?_
      obtain ⟨n144, s144, hy, hi, hw⟩ := hw
      refine zr_iald hx hb hK hG 0 hy rfl hi kb_Mo_derivations_144 ?_
      refine lv_iload_n hx hb kb_Mo_derivations_145 rfl (lv_at hl 1 rfl) ?_
      refine lv_icmp_ne (tgt := 187) hx hb kb_Mo_derivations_146 (by decide) (fun hc => ?_) (fun hc => ?_)
      · have hw := hw.1 hc
        refine lv_iinc (v := v8 + (1 : Int32)) (lv' := [(8, .int (v8 + (1 : Int32))), (0, .ref a0), (1, .int x1), (2, .int x2), (5, .int v5), (6, .int v6), (7, .int v7)]) hx hb kb_Mo_derivations_187 hl (k := 6) rfl rfl (by decide) rfl (fun ls hl => ?_)
        refine lv_goto (tgt := 129) hx hb kb_Mo_derivations_190 (by decide) ?_
        exact hw _ _ _ hG hS (lv_sub hl [1, 2, 3, 4, 5, 6, 0] rfl)
      · have hw := hw.2 hc
        refine lv_aload_n hx hb kb_Mo_derivations_149 rfl (lv_at hl 0 rfl) ?_
        refine lv_iload hx hb kb_Mo_derivations_150 (lv_at hl 6 rfl) ?_
        obtain ⟨hy, hw⟩ := hw
        refine zr_cv (va_runV (C := kR_Mo) (As := [.int v8]) (rest := []) ⟨hx, hb, hml, hown, hts⟩ (kc_Mo_begin l D dA Z a0 v8 σ _) ⟨callB_of 1 hts (z_gw kw_772) rfl rfl rfl (hts _ (List.mem_cons_of_mem _ kw_9)) (hts _ (List.mem_cons_of_mem _ kw_770)) (by decide +kernel) ⟨Nat.le_of_ble_eq_true rfl, Nat.le_of_ble_eq_true rfl⟩, (hts _ (List.mem_cons_of_mem _ kw_771)), (hts _ (List.mem_cons_of_mem _ kw_971))⟩ (z_preV z_nwN (Nat.le_trans hZ hS.1) hG hK hN hy (ci := 8) (r := (kR_Mo, kT_Mo, 51)) rfl hw) rfl rfl hl.1 rfl (lv_room (Nat.le_of_ble_eq_true rfl)) kb_Mo_derivations_152 ⟨Nat.le_of_ble_eq_true rfl, Nat.le_of_ble_eq_true rfl⟩) hS (fun σ152 H locs hw hG hS => ?_)
        exact hw _ _ _ hG hS (lv_sub hl [0, 1, 2, 3, 4, 5, 6] rfl))
  have hw := hw (by
    intro v5 v6 v7 v8 σ hw H locs ls hG hS hl
    refine lv_aload_n hx hb kb_Mo_derivations_155 rfl (lv_at hl 0 rfl) ?_
    obtain ⟨hy, hw⟩ := hw
    refine zr_ci (va_runV (C := kR_Mo) (As := []) (rest := []) ⟨hx, hb, hml, hown, hts⟩ (kc_Mo_next l D dA Z a0 σ _) ⟨callB_of 0 hts (z_gw kw_775) rfl rfl rfl (hts _ (List.mem_cons_of_mem _ kw_9)) (hts _ (List.mem_cons_of_mem _ kw_773)) (by decide +kernel) ⟨Nat.le_of_ble_eq_true rfl, Nat.le_of_ble_eq_true rfl⟩, (hts _ (List.mem_cons_of_mem _ kw_774)), (hts _ (List.mem_cons_of_mem _ kw_972))⟩ (z_preV z_nwN (Nat.le_trans hZ hS.1) hG hK hN hy (ci := 8) (r := (kR_Mo, kT_Mo, 51)) rfl hw) rfl rfl hl.1 rfl (lv_room (Nat.le_of_ble_eq_true rfl)) kb_Mo_derivations_156 ⟨Nat.le_of_ble_eq_true rfl, Nat.le_of_ble_eq_true rfl⟩) hS (fun r156 σ156 H locs hw hG hS => ?_)
    refine lv_if_eq (tgt := 187) hx hb kb_Mo_derivations_159 (by decide) (fun hc => ?_) (fun hc => ?_)
    · have hw := hw.1 hc
      refine lv_iinc (v := v8 + (1 : Int32)) (lv' := [(8, .int (v8 + (1 : Int32))), (0, .ref a0), (1, .int x1), (2, .int x2), (5, .int v5), (6, .int v6), (7, .int v7)]) hx hb kb_Mo_derivations_187 hl (k := 6) rfl rfl (by decide) rfl (fun ls hl => ?_)
      refine lv_goto (tgt := 129) hx hb kb_Mo_derivations_190 (by decide) ?_
      exact hw _ _ _ hG hS (lv_sub hl [1, 2, 3, 4, 5, 6, 0] rfl)
    · have hw := hw.2 hc
      refine lv_iload hx hb kb_Mo_derivations_162 (lv_at hl 5 rfl) ?_
      refine lv_aload_n hx hb kb_Mo_derivations_164 rfl (lv_at hl 0 rfl) ?_
      refine lv_iload_n hx hb kb_Mo_derivations_165 rfl (lv_at hl 2 rfl) ?_
      refine lv_iload hx hb kb_Mo_derivations_166 (lv_at hl 3 rfl) ?_
      refine lv_iload hx hb kb_Mo_derivations_168 (lv_at hl 4 rfl) ?_
      obtain ⟨hy, hw⟩ := hw
      refine zr_ci (va_runV (C := kR_Mo) (As := [.int x2, .int v5, .int v6]) (rest := [.int v7]) ⟨hx, hb, hml, hown, hts⟩ (kc_Mo_leads l D dA Z a0 x2 v5 v6 σ156 _) ⟨callB_of 3 hts (z_gw kw_889) rfl rfl rfl (hts _ (List.mem_cons_of_mem _ kw_9)) (hts _ (List.mem_cons_of_mem _ kw_887)) (by decide +kernel) ⟨Nat.le_of_ble_eq_true rfl, Nat.le_of_ble_eq_true rfl⟩, (hts _ (List.mem_cons_of_mem _ kw_888)), (hts _ (List.mem_cons_of_mem _ kw_994))⟩ (z_preV z_nwN (Nat.le_trans hZ hS.1) hG hK hN hy (ci := 8) (r := (kR_Mo, kT_Mo, 51)) rfl hw) rfl rfl hl.1 rfl (lv_room (Nat.le_of_ble_eq_true rfl)) kb_Mo_derivations_170 ⟨Nat.le_of_ble_eq_true rfl, Nat.le_of_ble_eq_true rfl⟩) hS (fun r170 σ170 H locs hw hG hS => ?_)
      refine lv_if_eq (tgt := 180) hx hb kb_Mo_derivations_173 (by decide) (fun hc => ?_) (fun hc => ?_)
      · have hw := hw.1 hc
        refine lv_iconst (v := (0 : Int32)) hx hb kb_Mo_derivations_180 (by decide) ?_
        refine lv_iadd hx hb kb_Mo_derivations_181 ?_
        refine lv_istore (lv' := [(7, .int (v7 + ((0 : Int32)))), (0, .ref a0), (1, .int x1), (2, .int x2), (5, .int v5), (6, .int v6), (8, .int v8)]) hx hb kb_Mo_derivations_182 hl (by decide) rfl (fun ls hl => ?_)
        refine lv_goto (tgt := 155) hx hb kb_Mo_derivations_184 (by decide) ?_
        exact hw _ _ _ hG hS (lv_sub hl [1, 2, 3, 4, 5, 0, 6] rfl)
      · have hw := hw.2 hc
        refine lv_iconst (v := (1 : Int32)) hx hb kb_Mo_derivations_176 (by decide) ?_
        refine lv_goto (tgt := 181) hx hb kb_Mo_derivations_177 (by decide) ?_
        refine lv_iadd hx hb kb_Mo_derivations_181 ?_
        refine lv_istore (lv' := [(7, .int (v7 + ((1 : Int32)))), (0, .ref a0), (1, .int x1), (2, .int x2), (5, .int v5), (6, .int v6), (8, .int v8)]) hx hb kb_Mo_derivations_182 hl (by decide) rfl (fun ls hl => ?_)
        refine lv_goto (tgt := 155) hx hb kb_Mo_derivations_184 (by decide) ?_
        exact hw _ _ _ hG hS (lv_sub hl [1, 2, 3, 4, 5, 0, 6] rfl))
  refine lv_aload_n hx hb kb_Mo_derivations_0 rfl (lv_at hl 0 rfl) ?_
  obtain ⟨hy, hw⟩ := hw
  refine zr_getI (ci := 8) (f := 808) hx hb hts ki_Mo hown hK hG hy rfl 8 (by decide) (hts _ (List.mem_cons_of_mem _ kw_592)) (fun _ h => h) rfl rfl kb_Mo_derivations_1 ?_
  refine lv_if_ne (tgt := 10) hx hb kb_Mo_derivations_4 (by decide) (fun hc => ?_) (fun hc => ?_)
  · have hw := hw.1 hc
    refine lv_aload_n hx hb kb_Mo_derivations_10 rfl (lv_at hl 0 rfl) ?_
    refine lv_iload_n hx hb kb_Mo_derivations_11 rfl (lv_at hl 1 rfl) ?_
    obtain ⟨hy, hw⟩ := hw
    refine zr_ci (va_runV (C := kR_Mo) (As := [.int x1]) (rest := []) ⟨hx, hb, hml, hown, hts⟩ (kc_Mo_isRelation l D dA Z a0 x1 σ _) ⟨callB_of 1 hts (z_gw kw_824) rfl rfl rfl (hts _ (List.mem_cons_of_mem _ kw_9)) (hts _ (List.mem_cons_of_mem _ kw_822)) (by decide +kernel) ⟨Nat.le_of_ble_eq_true rfl, Nat.le_of_ble_eq_true rfl⟩, (hts _ (List.mem_cons_of_mem _ kw_823)), (hts _ (List.mem_cons_of_mem _ kw_983))⟩ (z_preV z_nwN (Nat.le_trans hZ hS.1) hG hK hN hy (ci := 8) (r := (kR_Mo, kT_Mo, 51)) rfl hw) rfl rfl hl.1 rfl (lv_room (Nat.le_of_ble_eq_true rfl)) kb_Mo_derivations_12 ⟨Nat.le_of_ble_eq_true rfl, Nat.le_of_ble_eq_true rfl⟩) hS (fun r12 σ12 H locs hw hG hS => ?_)
    refine lv_if_eq (tgt := 39) hx hb kb_Mo_derivations_15 (by decide) (fun hc => ?_) (fun hc => ?_)
    · have hw := hw.1 hc
      refine lv_bipush (v := (-2 : Int32)) hx hb kb_Mo_derivations_39 (by decide) ?_
      exact zr_iret (free := fun q => Z ≤ q) z_nwN hx hb hr rfl hZ hK hN hG hS hw kb_Mo_derivations_41 hlocks
    · have hw := hw.2 hc
      refine lv_aload_n hx hb kb_Mo_derivations_18 rfl (lv_at hl 0 rfl) ?_
      obtain ⟨hy, r19, hrf, hw⟩ := hw
      refine zr_getR (ci := 8) (f := 820) hx hb hts ki_Mo hown hK hG hy rfl 20 (by decide) (hts _ (List.mem_cons_of_mem _ kw_604)) (fun _ h => h) rfl rfl hrf kb_Mo_derivations_19 ?_
      refine lv_iload_n hx hb kb_Mo_derivations_22 rfl (lv_at hl 1 rfl) ?_
      obtain ⟨n23, s23, hy, hi, hw⟩ := hw
      refine zr_zald hx hb hK hG 2 hy rfl hi kb_Mo_derivations_23 ?_
      refine lv_if_eq (tgt := 39) hx hb kb_Mo_derivations_24 (by decide) (fun hc => ?_) (fun hc => ?_)
      · have hw := hw.1 hc
        refine lv_bipush (v := (-2 : Int32)) hx hb kb_Mo_derivations_39 (by decide) ?_
        exact zr_iret (free := fun q => Z ≤ q) z_nwN hx hb hr rfl hZ hK hN hG hS hw kb_Mo_derivations_41 hlocks
      · have hw := hw.2 hc
        refine lv_aload_n hx hb kb_Mo_derivations_27 rfl (lv_at hl 0 rfl) ?_
        refine lv_iload_n hx hb kb_Mo_derivations_28 rfl (lv_at hl 1 rfl) ?_
        refine lv_iload_n hx hb kb_Mo_derivations_29 rfl (lv_at hl 2 rfl) ?_
        refine lv_iload_n hx hb kb_Mo_derivations_30 rfl (lv_at hl 3 rfl) ?_
        refine lv_iload hx hb kb_Mo_derivations_31 (lv_at hl 4 rfl) ?_
        obtain ⟨hy, hw⟩ := hw
        refine zr_ci (va_runV (C := kR_Mo) (As := [.int x1, .int x2, .int x3, .int x4]) (rest := []) ⟨hx, hb, hml, hown, hts⟩ (kc_Mo_areValues l D dA Z a0 x1 x2 x3 x4 σ12 _) ⟨callB_of 4 hts (z_gw kw_831) rfl rfl rfl (hts _ (List.mem_cons_of_mem _ kw_9)) (hts _ (List.mem_cons_of_mem _ kw_829)) (by decide +kernel) ⟨Nat.le_of_ble_eq_true rfl, Nat.le_of_ble_eq_true rfl⟩, (hts _ (List.mem_cons_of_mem _ kw_830)), (hts _ (List.mem_cons_of_mem _ kw_984))⟩ (z_preV z_nwN (Nat.le_trans hZ hS.1) hG hK hN hy (ci := 8) (r := (kR_Mo, kT_Mo, 51)) rfl hw) rfl rfl hl.1 rfl (lv_room (Nat.le_of_ble_eq_true rfl)) kb_Mo_derivations_33 ⟨Nat.le_of_ble_eq_true rfl, Nat.le_of_ble_eq_true rfl⟩) hS (fun r33 σ33 H locs hw hG hS => ?_)
        refine lv_if_ne (tgt := 42) hx hb kb_Mo_derivations_36 (by decide) (fun hc => ?_) (fun hc => ?_)
        · have hw := hw.1 hc
          refine lv_aload_n hx hb kb_Mo_derivations_42 rfl (lv_at hl 0 rfl) ?_
          refine lv_iload_n hx hb kb_Mo_derivations_43 rfl (lv_at hl 1 rfl) ?_
          refine lv_iconst (v := (1 : Int32)) hx hb kb_Mo_derivations_44 (by decide) ?_
          refine lv_iload_n hx hb kb_Mo_derivations_45 rfl (lv_at hl 3 rfl) ?_
          obtain ⟨hy, hw⟩ := hw
          refine zr_ci (va_runV (C := kR_Mo) (As := [.int x1, .int ((1 : Int32)), .int x3]) (rest := []) ⟨hx, hb, hml, hown, hts⟩ (kc_Mo_given l D dA Z a0 x1 ((1 : Int32)) x3 σ33 _) ⟨callB_of 3 hts (z_gw kw_834) rfl rfl rfl (hts _ (List.mem_cons_of_mem _ kw_9)) (hts _ (List.mem_cons_of_mem _ kw_832)) (by decide +kernel) ⟨Nat.le_of_ble_eq_true rfl, Nat.le_of_ble_eq_true rfl⟩, (hts _ (List.mem_cons_of_mem _ kw_833)), (hts _ (List.mem_cons_of_mem _ kw_985))⟩ (z_preV z_nwN (Nat.le_trans hZ hS.1) hG hK hN hy (ci := 8) (r := (kR_Mo, kT_Mo, 51)) rfl hw) rfl rfl hl.1 rfl (lv_room (Nat.le_of_ble_eq_true rfl)) kb_Mo_derivations_46 ⟨Nat.le_of_ble_eq_true rfl, Nat.le_of_ble_eq_true rfl⟩) hS (fun r46 σ46 H locs hw hG hS => ?_)
          refine lv_istore (lv' := [(5, .int r46), (0, .ref a0), (1, .int x1), (2, .int x2), (3, .int x3), (4, .int x4)]) hx hb kb_Mo_derivations_49 hl (by decide) rfl (fun ls hl => ?_)
          refine lv_aload_n hx hb kb_Mo_derivations_51 rfl (lv_at hl 1 rfl) ?_
          refine lv_iload_n hx hb kb_Mo_derivations_52 rfl (lv_at hl 2 rfl) ?_
          refine lv_iconst (v := (2 : Int32)) hx hb kb_Mo_derivations_53 (by decide) ?_
          refine lv_iload hx hb kb_Mo_derivations_54 (lv_at hl 5 rfl) ?_
          obtain ⟨hy, hw⟩ := hw
          refine zr_ci (va_runV (C := kR_Mo) (As := [.int x1, .int ((2 : Int32)), .int x4]) (rest := []) ⟨hx, hb, hml, hown, hts⟩ (kc_Mo_given l D dA Z a0 x1 ((2 : Int32)) x4 σ46 _) ⟨callB_of 3 hts (z_gw kw_834) rfl rfl rfl (hts _ (List.mem_cons_of_mem _ kw_9)) (hts _ (List.mem_cons_of_mem _ kw_832)) (by decide +kernel) ⟨Nat.le_of_ble_eq_true rfl, Nat.le_of_ble_eq_true rfl⟩, (hts _ (List.mem_cons_of_mem _ kw_833)), (hts _ (List.mem_cons_of_mem _ kw_985))⟩ (z_preV z_nwN (Nat.le_trans hZ hS.1) hG hK hN hy (ci := 8) (r := (kR_Mo, kT_Mo, 51)) rfl hw) rfl rfl hl.1 rfl (lv_room (Nat.le_of_ble_eq_true rfl)) kb_Mo_derivations_56 ⟨Nat.le_of_ble_eq_true rfl, Nat.le_of_ble_eq_true rfl⟩) hS (fun r56 σ56 H locs hw hG hS => ?_)
          refine lv_istore (lv' := [(6, .int r56), (5, .int r46), (0, .ref a0), (1, .int x1), (2, .int x2), (3, .int x3), (4, .int x4)]) hx hb kb_Mo_derivations_59 hl (by decide) rfl (fun ls hl => ?_)
          refine lv_aload_n hx hb kb_Mo_derivations_61 rfl (lv_at hl 2 rfl) ?_
          refine lv_iload_n hx hb kb_Mo_derivations_62 rfl (lv_at hl 3 rfl) ?_
          obtain ⟨hy, hw⟩ := hw
          refine zr_ci (va_runV (C := kR_Mo) (As := [.int x1]) (rest := []) ⟨hx, hb, hml, hown, hts⟩ (kc_Mo_isCounted l D dA Z a0 x1 σ56 _) ⟨callB_of 1 hts (z_gw kw_886) rfl rfl rfl (hts _ (List.mem_cons_of_mem _ kw_9)) (hts _ (List.mem_cons_of_mem _ kw_884)) (by decide +kernel) ⟨Nat.le_of_ble_eq_true rfl, Nat.le_of_ble_eq_true rfl⟩, (hts _ (List.mem_cons_of_mem _ kw_885)), (hts _ (List.mem_cons_of_mem _ kw_993))⟩ (z_preV z_nwN (Nat.le_trans hZ hS.1) hG hK hN hy (ci := 8) (r := (kR_Mo, kT_Mo, 51)) rfl hw) rfl rfl hl.1 rfl (lv_room (Nat.le_of_ble_eq_true rfl)) kb_Mo_derivations_63 ⟨Nat.le_of_ble_eq_true rfl, Nat.le_of_ble_eq_true rfl⟩) hS (fun r63 σ63 H locs hw hG hS => ?_)
          refine lv_if_eq (tgt := 123) hx hb kb_Mo_derivations_66 (by decide) (fun hc => ?_) (fun hc => ?_)
          · have hw := hw.1 hc
            refine lv_iconst (v := (0 : Int32)) hx hb kb_Mo_derivations_123 (by decide) ?_
            refine lv_istore (lv' := [(7, .int ((0 : Int32))), (6, .int r56), (5, .int r46), (0, .ref a0), (1, .int x1), (2, .int x2), (3, .int x3), (4, .int x4)]) hx hb kb_Mo_derivations_124 hl (by decide) rfl (fun ls hl => ?_)
            refine lv_iconst (v := (0 : Int32)) hx hb kb_Mo_derivations_126 (by decide) ?_
            refine lv_istore (lv' := [(8, .int ((0 : Int32))), (7, .int ((0 : Int32))), (6, .int r56), (5, .int r46), (0, .ref a0), (1, .int x1), (2, .int x2), (3, .int x3), (4, .int x4)]) hx hb kb_Mo_derivations_127 hl (by decide) rfl (fun ls hl => ?_)
            exact hw _ _ _ hG hS (lv_sub hl [4, 5, 6, 3, 2, 1, 0] rfl)
          · have hw := hw.2 hc
            refine lv_aload_n hx hb kb_Mo_derivations_69 rfl (lv_at hl 2 rfl) ?_
            obtain ⟨hy, r70, hrf, hw⟩ := hw
            refine zr_getR (ci := 8) (f := 819) hx hb hts ki_Mo hown hK hG hy rfl 19 (by decide) (hts _ (List.mem_cons_of_mem _ kw_603)) (fun _ h => h) rfl rfl hrf kb_Mo_derivations_70 ?_
            refine lv_iload_n hx hb kb_Mo_derivations_73 rfl (lv_at hl 3 rfl) ?_
            obtain ⟨n74, s74, hy, hi, hw⟩ := hw
            refine zr_iald hx hb hK hG 0 hy rfl hi kb_Mo_derivations_74 ?_
            refine lv_iconst (v := (1 : Int32)) hx hb kb_Mo_derivations_75 (by decide) ?_
            refine lv_icmp_ne (tgt := 83) hx hb kb_Mo_derivations_76 (by decide) (fun hc => ?_) (fun hc => ?_)
            · have hw := hw.1 hc
              refine lv_aload_n hx hb kb_Mo_derivations_83 rfl (lv_at hl 2 rfl) ?_
              obtain ⟨hy, r84, hrf, hw⟩ := hw
              refine zr_getR (ci := 8) (f := 819) hx hb hts ki_Mo hown hK hG hy rfl 19 (by decide) (hts _ (List.mem_cons_of_mem _ kw_603)) (fun _ h => h) rfl rfl hrf kb_Mo_derivations_84 ?_
              refine lv_iload_n hx hb kb_Mo_derivations_87 rfl (lv_at hl 3 rfl) ?_
              obtain ⟨n88, s88, hy, hi, hw⟩ := hw
              refine zr_iald hx hb hK hG 0 hy rfl hi kb_Mo_derivations_88 ?_
              refine lv_iconst (v := (2 : Int32)) hx hb kb_Mo_derivations_89 (by decide) ?_
              refine lv_icmp_ne (tgt := 98) hx hb kb_Mo_derivations_90 (by decide) (fun hc => ?_) (fun hc => ?_)
              · have hw := hw.1 hc
                refine lv_iload hx hb kb_Mo_derivations_98 (lv_at hl 0 rfl) ?_
                exact hw _ _ _ hG hS (lv_sub hl [2, 3, 4, 1, 0] rfl)
              · have hw := hw.2 hc
                refine lv_iload hx hb kb_Mo_derivations_93 (lv_at hl 1 rfl) ?_
                refine lv_goto (tgt := 100) hx hb kb_Mo_derivations_95 (by decide) ?_
                exact hw _ _ _ hG hS (lv_sub hl [2, 3, 4, 1, 0] rfl)
            · have hw := hw.2 hc
              refine lv_iload_n hx hb kb_Mo_derivations_79 rfl (lv_at hl 4 rfl) ?_
              refine lv_goto (tgt := 100) hx hb kb_Mo_derivations_80 (by decide) ?_
              exact hw _ _ _ hG hS (lv_sub hl [2, 3, 4, 1, 0] rfl)
        · have hw := hw.2 hc
          refine lv_bipush (v := (-2 : Int32)) hx hb kb_Mo_derivations_39 (by decide) ?_
          exact zr_iret (free := fun q => Z ≤ q) z_nwN hx hb hr rfl hZ hK hN hG hS hw kb_Mo_derivations_41 hlocks
  · have hw := hw.2 hc
    refine lv_bipush (v := (-4 : Int32)) hx hb kb_Mo_derivations_7 (by decide) ?_
    exact zr_iret (free := fun q => Z ≤ q) z_nwN hx hb hr rfl hZ hK hN hG hS hw kb_Mo_derivations_9 hlocks
def kp_Mo_isLess (a0 : Nat) (σ : z_S) (Post : Int32 → z_S → Prop) : Prop := ∀ (X2 : Int32 → z_S → Prop),
    (∀ (v1 : Int32) (σ : z_S), ((((26 : Int32)) ≤ v1 → Post ((0 : Int32)) σ) ∧ (¬ ((26 : Int32)) ≤ v1 → z_ty σ a0 = some (.inl 8) ∧ ∃ r9, z_R σ 837 a0 = some r9 ∧ (z_ty σ a0 = some (.inl 8) ∧ (∃ n21 s21, z_ty σ r9 = some (.inr (0, n21, s21)) ∧ vp_in ((((26 : Int32)) * (z_I σ 841 a0)) + v1) n21 ∧ (z_ty σ a0 = some (.inl 8) ∧ ∃ r25, z_R σ 850 a0 = some r25 ∧ (∃ n29 s29, z_ty σ r25 = some (.inr (0, n29, s29)) ∧ vp_in v1 n29 ∧ (((z_A σ s21 r9 ((((26 : Int32)) * (z_I σ 841 a0)) + v1).toNatClampNeg) = (z_A σ s29 r25 v1.toNatClampNeg) → X2 (v1 + (1 : Int32)) σ) ∧ (¬ (z_A σ s21 r9 ((((26 : Int32)) * (z_I σ 841 a0)) + v1).toNatClampNeg) = (z_A σ s29 r25 v1.toNatClampNeg) → z_ty σ a0 = some (.inl 8) ∧ ∃ r35, z_R σ 850 a0 = some r35 ∧ (∃ n39 s39, z_ty σ r35 = some (.inr (0, n39, s39)) ∧ vp_in v1 n39 ∧ (((z_A σ s39 r35 v1.toNatClampNeg) ≤ (z_A σ s21 r9 ((((26 : Int32)) * (z_I σ 841 a0)) + v1).toNatClampNeg) → Post ((0 : Int32)) σ) ∧ (¬ (z_A σ s39 r35 v1.toNatClampNeg) ≤ (z_A σ s21 r9 ((((26 : Int32)) * (z_I σ 841 a0)) + v1).toNatClampNeg) → Post ((1 : Int32)) σ))))))))))) → X2 v1 σ) →
    (X2 ((0 : Int32)) σ)
set_option maxHeartbeats 4000000 in
set_option maxRecDepth 100000 in
theorem kc_Mo_isLess (l : Launch) (D : va_G) (dA : Nat → ClassId) (Z : Nat) (a0 : Nat) (σ : z_S) (Post : Int32 → z_S → Prop) : Met l km_Mo_isLess ks_Mo_isLess kr_Mo_isLess (va_Pc [.ref a0] (fun U => z_U D z_cl z_KT dA Z (z_tys dA) z_nw σ U ∧ kp_Mo_isLess  a0 σ Post)) (z_Qi D z_cl z_KT dA Z (z_tys dA) z_nw Post) 0 0 (fun q => Z ≤ q) := by
  refine Met.ofW (cc := prog_10_method_65_code) (maxL := 3) (ret := (some .boolean)) (by decide) rfl ?_
  intro p e s m args below meth c s₁ B hml hv
  obtain ⟨rfl, ⟨hZ, hG, hK, hN⟩, hw⟩ := hv
  have hx := B.exec
  have hb := B.bytes
  have hr := B.returns
  have hts := atoms_spec (ws := ks_Mo_isLess) B.pre
  have hown : s.vm.findClass kR_Mo = some m.cls := findClass_of_methodNamed B.named
  have hlocks := B.notSynchronized
  have hS : va_S (fun q => Z ≤ q) s.heap s.heap [] := va_S.rf
  have hl := lv_entry ([.ref a0]) (n := 3) (Nat.le_of_ble_eq_true rfl)
  rw [lg_entry_eq]
  generalize (lg_sl ([.ref a0]) ++ List.replicate (3 - (lg_sl ([.ref a0])).length) Slot.unset).toArray = ls at hl ⊢
  have hl : lv_has ls 3 [(0, .ref a0)] := hl
  unfold kp_Mo_isLess at hw
  have hw := hw (fun (v1 : Int32) (σ : z_S) => ∀ (H : Heap) (locs : List Loc) (ls : Array Slot), z_G D z_cl z_KT dA Z σ H → va_S (fun q => Z ≤ q) s.heap H locs → lv_has ls 3 [(0, .ref a0), (1, .int v1)] → W p l e (headSpec ks_Mo_isLess kr_Mo_isLess).room s m ([.ref a0] : List Value).toArray below meth c H locs 0 0 (MQ below (z_Qi D z_cl z_KT dA Z (z_tys dA) z_nw Post) ([.ref a0] : List Value).toArray s 0 0 (fun q => Z ≤ q)) (F0 m 2 ls []))
  have hw := hw (by
    intro v1 σ hw H locs ls hG hS hl
    refine lv_iload_n hx hb kb_Mo_isLess_2 rfl (lv_at hl 1 rfl) ?_
    refine lv_bipush (v := (26 : Int32)) hx hb kb_Mo_isLess_3 (by decide) ?_
    refine lv_icmp_ge (tgt := 55) hx hb kb_Mo_isLess_5 (by decide) (fun hc => ?_) (fun hc => ?_)
    · have hw := hw.1 hc
      refine lv_iconst (v := (0 : Int32)) hx hb kb_Mo_isLess_55 (by decide) ?_
      exact zr_iret (free := fun q => Z ≤ q) z_nwN hx hb hr rfl hZ hK hN hG hS hw kb_Mo_isLess_56 hlocks
    · have hw := hw.2 hc
      refine lv_aload_n hx hb kb_Mo_isLess_8 rfl (lv_at hl 0 rfl) ?_
      obtain ⟨hy, r9, hrf, hw⟩ := hw
      refine zr_getR (ci := 8) (f := 837) hx hb hts ki_Mo hown hK hG hy rfl 37 (by decide) (hts _ (List.mem_cons_of_mem _ kw_621)) (fun _ h => h) rfl rfl hrf kb_Mo_isLess_9 ?_
      refine lv_bipush (v := (26 : Int32)) hx hb kb_Mo_isLess_12 (by decide) ?_
      refine lv_aload_n hx hb kb_Mo_isLess_14 rfl (lv_at hl 0 rfl) ?_
      obtain ⟨hy, hw⟩ := hw
      refine zr_getI (ci := 8) (f := 841) hx hb hts ki_Mo hown hK hG hy rfl 41 (by decide) (hts _ (List.mem_cons_of_mem _ kw_625)) (fun _ h => h) rfl rfl kb_Mo_isLess_15 ?_
      refine lv_imul hx hb kb_Mo_isLess_18 ?_
      refine lv_iload_n hx hb kb_Mo_isLess_19 rfl (lv_at hl 1 rfl) ?_
      refine lv_iadd hx hb kb_Mo_isLess_20 ?_
      obtain ⟨n21, s21, hy, hi, hw⟩ := hw
      refine zr_iald hx hb hK hG 0 hy rfl hi kb_Mo_isLess_21 ?_
      refine lv_istore_n (lv' := [(2, .int (z_A σ s21 r9 ((((26 : Int32)) * (z_I σ 841 a0)) + v1).toNatClampNeg)), (0, .ref a0), (1, .int v1)]) hx hb kb_Mo_isLess_22 rfl hl (by decide) rfl (fun ls hl => ?_)
      refine lv_iload_n hx hb kb_Mo_isLess_23 rfl (lv_at hl 0 rfl) ?_
      refine lv_aload_n hx hb kb_Mo_isLess_24 rfl (lv_at hl 1 rfl) ?_
      obtain ⟨hy, r25, hrf, hw⟩ := hw
      refine zr_getR (ci := 8) (f := 850) hx hb hts ki_Mo hown hK hG hy rfl 50 (by decide) (hts _ (List.mem_cons_of_mem _ kw_634)) (fun _ h => h) rfl rfl hrf kb_Mo_isLess_25 ?_
      refine lv_iload_n hx hb kb_Mo_isLess_28 rfl (lv_at hl 2 rfl) ?_
      obtain ⟨n29, s29, hy, hi, hw⟩ := hw
      refine zr_iald hx hb hK hG 0 hy rfl hi kb_Mo_isLess_29 ?_
      refine lv_icmp_eq (tgt := 49) hx hb kb_Mo_isLess_30 (by decide) (fun hc => ?_) (fun hc => ?_)
      · have hw := hw.1 hc
        refine lv_iinc (v := v1 + (1 : Int32)) (lv' := [(1, .int (v1 + (1 : Int32))), (2, .int (z_A σ s21 r9 ((((26 : Int32)) * (z_I σ 841 a0)) + v1).toNatClampNeg)), (0, .ref a0)]) hx hb kb_Mo_isLess_49 hl (k := 2) rfl rfl (by decide) rfl (fun ls hl => ?_)
        refine lv_goto (tgt := 2) hx hb kb_Mo_isLess_52 (by decide) ?_
        exact hw _ _ _ hG hS (lv_sub hl [2, 0] rfl)
      · have hw := hw.2 hc
        refine lv_iload_n hx hb kb_Mo_isLess_33 rfl (lv_at hl 0 rfl) ?_
        refine lv_aload_n hx hb kb_Mo_isLess_34 rfl (lv_at hl 1 rfl) ?_
        obtain ⟨hy, r35, hrf, hw⟩ := hw
        refine zr_getR (ci := 8) (f := 850) hx hb hts ki_Mo hown hK hG hy rfl 50 (by decide) (hts _ (List.mem_cons_of_mem _ kw_634)) (fun _ h => h) rfl rfl hrf kb_Mo_isLess_35 ?_
        refine lv_iload_n hx hb kb_Mo_isLess_38 rfl (lv_at hl 2 rfl) ?_
        obtain ⟨n39, s39, hy, hi, hw⟩ := hw
        refine zr_iald hx hb hK hG 0 hy rfl hi kb_Mo_isLess_39 ?_
        refine lv_icmp_ge (tgt := 47) hx hb kb_Mo_isLess_40 (by decide) (fun hc => ?_) (fun hc => ?_)
        · have hw := hw.1 hc
          refine lv_iconst (v := (0 : Int32)) hx hb kb_Mo_isLess_47 (by decide) ?_
          exact zr_iret (free := fun q => Z ≤ q) z_nwN hx hb hr rfl hZ hK hN hG hS hw kb_Mo_isLess_48 hlocks
        · have hw := hw.2 hc
          refine lv_iconst (v := (1 : Int32)) hx hb kb_Mo_isLess_43 (by decide) ?_
          refine lv_goto (tgt := 48) hx hb kb_Mo_isLess_44 (by decide) ?_
          exact zr_iret (free := fun q => Z ≤ q) z_nwN hx hb hr rfl hZ hK hN hG hS hw kb_Mo_isLess_48 hlocks)
  refine lv_iconst (v := (0 : Int32)) hx hb kb_Mo_isLess_0 (by decide) ?_
  refine lv_istore_n (lv' := [(1, .int ((0 : Int32))), (0, .ref a0)]) hx hb kb_Mo_isLess_1 rfl hl (by decide) rfl (fun ls hl => ?_)
  exact hw _ _ _ hG hS (lv_sub hl [1, 0] rfl)
def kp_Mo_tell (a0 : Nat) (x1 : Int32) (x2 : Int32) (σ : z_S) (Post : Int32 → z_S → Prop) : Prop := ∀ (X8 : Int32 → Int32 → Int32 → z_S → Prop),
    (∀ (v3 : Int32) (v4 : Int32) (v5 : Int32) (σ : z_S), ((((26 : Int32)) ≤ v5 → (¬ x2 = 0 → (¬ x2 = ((1 : Int32)) → Post v4 σ) ∧ (x2 = ((1 : Int32)) → Post v3 σ)) ∧ (x2 = 0 → Post x1 σ)) ∧ (¬ ((26 : Int32)) ≤ v5 → z_ty σ a0 = some (.inl 8) ∧ ∃ r16, z_R σ 816 a0 = some r16 ∧ (∃ n20 s20, z_ty σ r16 = some (.inr (0, n20, s20)) ∧ vp_in x1 n20 ∧ ((¬ (((z_A σ s20 r16 x1.toNatClampNeg) >>> (v5 &&& 31)) &&& ((1 : Int32))) = ((1 : Int32)) → X8 v3 v4 (v5 + (1 : Int32)) σ) ∧ ((((z_A σ s20 r16 x1.toNatClampNeg) >>> (v5 &&& 31)) &&& ((1 : Int32))) = ((1 : Int32)) → (¬ v3 = (x2 - ((2 : Int32))) → X8 (v3 + (1 : Int32)) v4 (v5 + (1 : Int32)) σ) ∧ (v3 = (x2 - ((2 : Int32))) → z_ty σ a0 = some (.inl 8) ∧ ∃ r38, z_R σ 850 a0 = some r38 ∧ (∃ n43 s43, z_ty σ r38 = some (.inr (0, n43, s43)) ∧ vp_in v5 n43 ∧ (X8 (v3 + (1 : Int32)) (z_A σ s43 r38 v5.toNatClampNeg) (v5 + (1 : Int32)) σ)))))))) → X8 v3 v4 v5 σ) →
    (X8 ((0 : Int32)) ((-1 : Int32)) ((0 : Int32)) σ)
set_option maxHeartbeats 4000000 in
set_option maxRecDepth 100000 in
theorem kc_Mo_tell (l : Launch) (D : va_G) (dA : Nat → ClassId) (Z : Nat) (a0 : Nat) (x1 : Int32) (x2 : Int32) (σ : z_S) (Post : Int32 → z_S → Prop) : Met l km_Mo_tell ks_Mo_tell kr_Mo_tell (va_Pc [.ref a0, .int x1, .int x2] (fun U => z_U D z_cl z_KT dA Z (z_tys dA) z_nw σ U ∧ kp_Mo_tell  a0 x1 x2 σ Post)) (z_Qi D z_cl z_KT dA Z (z_tys dA) z_nw Post) 0 0 (fun q => Z ≤ q) := by
  refine Met.ofW (cc := prog_10_method_67_code) (maxL := 6) (ret := (some .int)) (by decide) rfl ?_
  intro p e s m args below meth c s₁ B hml hv
  obtain ⟨rfl, ⟨hZ, hG, hK, hN⟩, hw⟩ := hv
  have hx := B.exec
  have hb := B.bytes
  have hr := B.returns
  have hts := atoms_spec (ws := ks_Mo_tell) B.pre
  have hown : s.vm.findClass kR_Mo = some m.cls := findClass_of_methodNamed B.named
  have hlocks := B.notSynchronized
  have hS : va_S (fun q => Z ≤ q) s.heap s.heap [] := va_S.rf
  have hl := lv_entry ([.ref a0, .int x1, .int x2]) (n := 6) (Nat.le_of_ble_eq_true rfl)
  rw [lg_entry_eq]
  generalize (lg_sl ([.ref a0, .int x1, .int x2]) ++ List.replicate (6 - (lg_sl ([.ref a0, .int x1, .int x2])).length) Slot.unset).toArray = ls at hl ⊢
  have hl : lv_has ls 6 [(0, .ref a0), (1, .int x1), (2, .int x2)] := hl
  unfold kp_Mo_tell at hw
  have hw := hw (fun (v3 : Int32) (v4 : Int32) (v5 : Int32) (σ : z_S) => ∀ (H : Heap) (locs : List Loc) (ls : Array Slot), z_G D z_cl z_KT dA Z σ H → va_S (fun q => Z ≤ q) s.heap H locs → lv_has ls 6 [(0, .ref a0), (1, .int x1), (2, .int x2), (3, .int v3), (4, .int v4), (5, .int v5)] → W p l e (headSpec ks_Mo_tell kr_Mo_tell).room s m ([.ref a0, .int x1, .int x2] : List Value).toArray below meth c H locs 0 0 (MQ below (z_Qi D z_cl z_KT dA Z (z_tys dA) z_nw Post) ([.ref a0, .int x1, .int x2] : List Value).toArray s 0 0 (fun q => Z ≤ q)) (F0 m 8 ls []))
  have hw := hw (by
    intro v3 v4 v5 σ hw H locs ls hG hS hl
    refine lv_iload hx hb kb_Mo_tell_8 (lv_at hl 5 rfl) ?_
    refine lv_bipush (v := (26 : Int32)) hx hb kb_Mo_tell_10 (by decide) ?_
    refine lv_icmp_ge (tgt := 60) hx hb kb_Mo_tell_12 (by decide) (fun hc => ?_) (fun hc => ?_)
    · have hw := hw.1 hc
      refine lv_iload_n hx hb kb_Mo_tell_60 rfl (lv_at hl 2 rfl) ?_
      refine lv_if_ne (tgt := 68) hx hb kb_Mo_tell_61 (by decide) (fun hc => ?_) (fun hc => ?_)
      · have hw := hw.1 hc
        refine lv_iload_n hx hb kb_Mo_tell_68 rfl (lv_at hl 2 rfl) ?_
        refine lv_iconst (v := (1 : Int32)) hx hb kb_Mo_tell_69 (by decide) ?_
        refine lv_icmp_ne (tgt := 77) hx hb kb_Mo_tell_70 (by decide) (fun hc => ?_) (fun hc => ?_)
        · have hw := hw.1 hc
          refine lv_iload hx hb kb_Mo_tell_77 (lv_at hl 4 rfl) ?_
          exact zr_iret (free := fun q => Z ≤ q) z_nwN hx hb hr rfl hZ hK hN hG hS hw kb_Mo_tell_79 hlocks
        · have hw := hw.2 hc
          refine lv_iload_n hx hb kb_Mo_tell_73 rfl (lv_at hl 3 rfl) ?_
          refine lv_goto (tgt := 79) hx hb kb_Mo_tell_74 (by decide) ?_
          exact zr_iret (free := fun q => Z ≤ q) z_nwN hx hb hr rfl hZ hK hN hG hS hw kb_Mo_tell_79 hlocks
      · have hw := hw.2 hc
        refine lv_iload_n hx hb kb_Mo_tell_64 rfl (lv_at hl 1 rfl) ?_
        refine lv_goto (tgt := 79) hx hb kb_Mo_tell_65 (by decide) ?_
        exact zr_iret (free := fun q => Z ≤ q) z_nwN hx hb hr rfl hZ hK hN hG hS hw kb_Mo_tell_79 hlocks
    · have hw := hw.2 hc
      refine lv_aload_n hx hb kb_Mo_tell_15 rfl (lv_at hl 0 rfl) ?_
      obtain ⟨hy, r16, hrf, hw⟩ := hw
      refine zr_getR (ci := 8) (f := 816) hx hb hts ki_Mo hown hK hG hy rfl 16 (by decide) (hts _ (List.mem_cons_of_mem _ kw_600)) (fun _ h => h) rfl rfl hrf kb_Mo_tell_16 ?_
      refine lv_iload_n hx hb kb_Mo_tell_19 rfl (lv_at hl 1 rfl) ?_
      obtain ⟨n20, s20, hy, hi, hw⟩ := hw
      refine zr_iald hx hb hK hG 0 hy rfl hi kb_Mo_tell_20 ?_
      refine lv_iload hx hb kb_Mo_tell_21 (lv_at hl 5 rfl) ?_
      refine lv_ishr hx hb kb_Mo_tell_23 ?_
      refine lv_iconst (v := (1 : Int32)) hx hb kb_Mo_tell_24 (by decide) ?_
      refine lv_iand hx hb kb_Mo_tell_25 ?_
      refine lv_iconst (v := (1 : Int32)) hx hb kb_Mo_tell_26 (by decide) ?_
      refine lv_icmp_ne (tgt := 54) hx hb kb_Mo_tell_27 (by decide) (fun hc => ?_) (fun hc => ?_)
      · have hw := hw.1 hc
        refine lv_iinc (v := v5 + (1 : Int32)) (lv' := [(5, .int (v5 + (1 : Int32))), (0, .ref a0), (1, .int x1), (2, .int x2), (3, .int v3), (4, .int v4)]) hx hb kb_Mo_tell_54 hl (k := 5) rfl rfl (by decide) rfl (fun ls hl => ?_)
        refine lv_goto (tgt := 8) hx hb kb_Mo_tell_57 (by decide) ?_
        exact hw _ _ _ hG hS (lv_sub hl [1, 2, 3, 4, 5, 0] rfl)
      · have hw := hw.2 hc
        refine lv_iload_n hx hb kb_Mo_tell_30 rfl (lv_at hl 3 rfl) ?_
        refine lv_iload_n hx hb kb_Mo_tell_31 rfl (lv_at hl 2 rfl) ?_
        refine lv_iconst (v := (2 : Int32)) hx hb kb_Mo_tell_32 (by decide) ?_
        refine lv_isub hx hb kb_Mo_tell_33 ?_
        refine lv_icmp_ne (tgt := 47) hx hb kb_Mo_tell_34 (by decide) (fun hc => ?_) (fun hc => ?_)
        · have hw := hw.1 hc
          refine lv_iload hx hb kb_Mo_tell_47 (lv_at hl 4 rfl) ?_
          refine lv_istore (lv' := [(4, .int v4), (0, .ref a0), (1, .int x1), (2, .int x2), (3, .int v3), (5, .int v5)]) hx hb kb_Mo_tell_49 hl (by decide) rfl (fun ls hl => ?_)
          refine lv_iinc (v := v3 + (1 : Int32)) (lv' := [(3, .int (v3 + (1 : Int32))), (4, .int v4), (0, .ref a0), (1, .int x1), (2, .int x2), (5, .int v5)]) hx hb kb_Mo_tell_51 hl (k := 4) rfl rfl (by decide) rfl (fun ls hl => ?_)
          refine lv_iinc (v := v5 + (1 : Int32)) (lv' := [(5, .int (v5 + (1 : Int32))), (3, .int (v3 + (1 : Int32))), (4, .int v4), (0, .ref a0), (1, .int x1), (2, .int x2)]) hx hb kb_Mo_tell_54 hl (k := 5) rfl rfl (by decide) rfl (fun ls hl => ?_)
          refine lv_goto (tgt := 8) hx hb kb_Mo_tell_57 (by decide) ?_
          exact hw _ _ _ hG hS (lv_sub hl [3, 4, 5, 1, 2, 0] rfl)
        · have hw := hw.2 hc
          refine lv_aload_n hx hb kb_Mo_tell_37 rfl (lv_at hl 0 rfl) ?_
          obtain ⟨hy, r38, hrf, hw⟩ := hw
          refine zr_getR (ci := 8) (f := 850) hx hb hts ki_Mo hown hK hG hy rfl 50 (by decide) (hts _ (List.mem_cons_of_mem _ kw_634)) (fun _ h => h) rfl rfl hrf kb_Mo_tell_38 ?_
          refine lv_iload hx hb kb_Mo_tell_41 (lv_at hl 5 rfl) ?_
          obtain ⟨n43, s43, hy, hi, hw⟩ := hw
          refine zr_iald hx hb hK hG 0 hy rfl hi kb_Mo_tell_43 ?_
          refine lv_goto (tgt := 49) hx hb kb_Mo_tell_44 (by decide) ?_
          refine lv_istore (lv' := [(4, .int (z_A σ s43 r38 v5.toNatClampNeg)), (0, .ref a0), (1, .int x1), (2, .int x2), (3, .int v3), (5, .int v5)]) hx hb kb_Mo_tell_49 hl (by decide) rfl (fun ls hl => ?_)
          refine lv_iinc (v := v3 + (1 : Int32)) (lv' := [(3, .int (v3 + (1 : Int32))), (4, .int (z_A σ s43 r38 v5.toNatClampNeg)), (0, .ref a0), (1, .int x1), (2, .int x2), (5, .int v5)]) hx hb kb_Mo_tell_51 hl (k := 4) rfl rfl (by decide) rfl (fun ls hl => ?_)
          refine lv_iinc (v := v5 + (1 : Int32)) (lv' := [(5, .int (v5 + (1 : Int32))), (3, .int (v3 + (1 : Int32))), (4, .int (z_A σ s43 r38 v5.toNatClampNeg)), (0, .ref a0), (1, .int x1), (2, .int x2)]) hx hb kb_Mo_tell_54 hl (k := 5) rfl rfl (by decide) rfl (fun ls hl => ?_)
          refine lv_goto (tgt := 8) hx hb kb_Mo_tell_57 (by decide) ?_
          exact hw _ _ _ hG hS (lv_sub hl [3, 4, 5, 1, 2, 0] rfl))
  refine lv_iconst (v := (0 : Int32)) hx hb kb_Mo_tell_0 (by decide) ?_
  refine lv_istore_n (lv' := [(3, .int ((0 : Int32))), (0, .ref a0), (1, .int x1), (2, .int x2)]) hx hb kb_Mo_tell_1 rfl hl (by decide) rfl (fun ls hl => ?_)
  refine lv_iconst (v := (-1 : Int32)) hx hb kb_Mo_tell_2 (by decide) ?_
  refine lv_istore (lv' := [(4, .int ((-1 : Int32))), (3, .int ((0 : Int32))), (0, .ref a0), (1, .int x1), (2, .int x2)]) hx hb kb_Mo_tell_3 hl (by decide) rfl (fun ls hl => ?_)
  refine lv_iconst (v := (0 : Int32)) hx hb kb_Mo_tell_5 (by decide) ?_
  refine lv_istore (lv' := [(5, .int ((0 : Int32))), (4, .int ((-1 : Int32))), (3, .int ((0 : Int32))), (0, .ref a0), (1, .int x1), (2, .int x2)]) hx hb kb_Mo_tell_6 hl (by decide) rfl (fun ls hl => ?_)
  exact hw _ _ _ hG hS (lv_sub hl [3, 4, 5, 2, 1, 0] rfl)
def kp_Mo_why (a0 : Nat) (x1 : Int32) (x2 : Int32) (x3 : Int32) (x4 : Int32) (x5 : Int32) (σ : z_S) (Post : Int32 → z_S → Prop) : Prop := ∀ (X83 : Int32 → Int32 → Int32 → z_S → Prop) (X112 : Int32 → Int32 → Int32 → Int32 → z_S → Prop) (X149 : Int32 → Int32 → Int32 → Int32 → Int32 → z_S → Prop) (X187 : Int32 → Int32 → Int32 → Int32 → z_S → Prop),
    (∀ (v6 : Int32) (v7 : Int32) (v8 : Int32) (σ : z_S), (z_ty σ a0 = some (.inl 8) ∧ (((z_I σ 808 a0) ≤ v8 → Post ((-1 : Int32)) σ) ∧ (¬ (z_I σ 808 a0) ≤ v8 → z_ty σ a0 = some (.inl 8) ∧ ∃ r96, z_R σ 809 a0 = some r96 ∧ (∃ n101 s101, z_ty σ r96 = some (.inr (0, n101, s101)) ∧ vp_in v8 n101 ∧ ((¬ (z_A σ s101 r96 v8.toNatClampNeg) = x1 → X187 v6 v7 v8 ((0 : Int32)) σ) ∧ ((z_A σ s101 r96 v8.toNatClampNeg) = x1 → z_ty σ a0 = some (.inl 8) ∧ kp_Mo_begin a0 v8 σ (fun (σ109 : z_S) => X112 v6 v7 v8 ((0 : Int32)) σ109))))))) → X83 v6 v7 v8 σ) →
    (∀ (v6 : Int32) (v7 : Int32) (v8 : Int32) (v9 : Int32) (σ : z_S), (z_ty σ a0 = some (.inl 8) ∧ kp_Mo_next a0 σ (fun (r113 : Int32) (σ113 : z_S) => (r113 = 0 → X187 v6 v7 v8 v9 σ113) ∧ (¬ r113 = 0 → z_ty σ113 a0 = some (.inl 8) ∧ kp_Mo_leads a0 x2 v6 v7 σ113 (fun (r125 : Int32) (σ125 : z_S) => (r125 = 0 → X112 v6 v7 v8 v9 σ125) ∧ (¬ r125 = 0 → (v9 = 0 → X149 v6 v7 v8 ((1 : Int32)) ((0 : Int32)) σ125) ∧ (¬ v9 = 0 → z_ty σ125 a0 = some (.inl 8) ∧ kp_Mo_isLess a0 σ125 (fun (r137 : Int32) (σ137 : z_S) => (r137 = 0 → X112 v6 v7 v8 v9 σ137) ∧ (¬ r137 = 0 → X149 v6 v7 v8 ((1 : Int32)) ((0 : Int32)) σ137)))))))) → X112 v6 v7 v8 v9 σ) →
    (∀ (v6 : Int32) (v7 : Int32) (v8 : Int32) (v9 : Int32) (v10 : Int32) (σ : z_S), ((((26 : Int32)) ≤ v10 → X112 v6 v7 v8 v9 σ) ∧ (¬ ((26 : Int32)) ≤ v10 → z_ty σ a0 = some (.inl 8) ∧ ∃ r157, z_R σ 850 a0 = some r157 ∧ (z_ty σ a0 = some (.inl 8) ∧ ∃ r163, z_R σ 837 a0 = some r163 ∧ (z_ty σ a0 = some (.inl 8) ∧ (∃ n176 s176, z_ty σ r163 = some (.inr (0, n176, s176)) ∧ vp_in ((((26 : Int32)) * (z_I σ 841 a0)) + v10) n176 ∧ (∃ n177 s177, z_ty σ r157 = some (.inr (0, n177, s177)) ∧ vp_in v10 n177 ∧ ∀ σ177, σ177 = z_sA σ s177 r157 (upd (z_A σ s177 r157) v10.toNatClampNeg (z_A σ s176 r163 ((((26 : Int32)) * (z_I σ 841 a0)) + v10).toNatClampNeg)) → X149 v6 v7 v8 v9 (v10 + (1 : Int32)) σ177)))))) → X149 v6 v7 v8 v9 v10 σ) →
    (∀ (v6 : Int32) (v7 : Int32) (v8 : Int32) (v9 : Int32) (σ : z_S), ((v9 = 0 → X83 v6 v7 (v8 + (1 : Int32)) σ) ∧ (¬ v9 = 0 → z_ty σ a0 = some (.inl 8) ∧ kp_Mo_tell a0 v8 x5 σ (fun (r197 : Int32) (σ197 : z_S) => Post r197 σ197))) → X187 v6 v7 v8 v9 σ) →
    (z_ty σ a0 = some (.inl 8) ∧ ((¬ ((z_I σ 808 a0)) = 0 → z_ty σ a0 = some (.inl 8) ∧ kp_Mo_isRelation a0 x1 σ (fun (r12 : Int32) (σ12 : z_S) => (r12 = 0 → Post ((-2 : Int32)) σ12) ∧ (¬ r12 = 0 → z_ty σ12 a0 = some (.inl 8) ∧ ∃ r19, z_R σ12 820 a0 = some r19 ∧ (∃ n23 s23, z_ty σ12 r19 = some (.inr (2, n23, s23)) ∧ vp_in x1 n23 ∧ ((((z_A σ12 s23 r19 x1.toNatClampNeg)) = 0 → Post ((-2 : Int32)) σ12) ∧ (¬ ((z_A σ12 s23 r19 x1.toNatClampNeg)) = 0 → z_ty σ12 a0 = some (.inl 8) ∧ kp_Mo_isCounted a0 x1 σ12 (fun (r29 : Int32) (σ29 : z_S) => (¬ r29 = 0 → Post ((-2 : Int32)) σ29) ∧ (r29 = 0 → z_ty σ29 a0 = some (.inl 8) ∧ kp_Mo_areValues a0 x1 x2 x3 x4 σ29 (fun (r41 : Int32) (σ41 : z_S) => (r41 = 0 → Post ((-2 : Int32)) σ41) ∧ (¬ r41 = 0 → kp_Mo_isIn x5 ((0 : Int32)) ((7 : Int32)) σ41 (fun (r52 : Int32) (σ52 : z_S) => (¬ r52 = 0 → z_ty σ52 a0 = some (.inl 8) ∧ kp_Mo_given a0 x1 ((1 : Int32)) x3 σ52 (fun (r65 : Int32) (σ65 : z_S) => z_ty σ65 a0 = some (.inl 8) ∧ kp_Mo_given a0 x1 ((2 : Int32)) x4 σ65 (fun (r75 : Int32) (σ75 : z_S) => X83 r65 r75 ((0 : Int32)) σ75))) ∧ (r52 = 0 → Post ((-2 : Int32)) σ52)))))))))))) ∧ (((z_I σ 808 a0)) = 0 → Post ((-4 : Int32)) σ)))
set_option maxHeartbeats 4000000 in
set_option maxRecDepth 100000 in
theorem kc_Mo_why (l : Launch) (D : va_G) (dA : Nat → ClassId) (Z : Nat) (a0 : Nat) (x1 : Int32) (x2 : Int32) (x3 : Int32) (x4 : Int32) (x5 : Int32) (σ : z_S) (Post : Int32 → z_S → Prop) : Met l km_Mo_why ks_Mo_why kr_Mo_why (va_Pc [.ref a0, .int x1, .int x2, .int x3, .int x4, .int x5] (fun U => z_U D z_cl z_KT dA Z (z_tys dA) z_nw σ U ∧ kp_Mo_why  a0 x1 x2 x3 x4 x5 σ Post)) (z_Qi D z_cl z_KT dA Z (z_tys dA) z_nw Post) 0 0 (fun q => Z ≤ q) := by
  refine Met.ofW (cc := prog_10_method_66_code) (maxL := 11) (ret := (some .int)) (by decide) rfl ?_
  intro p e s m args below meth c s₁ B hml hv
  obtain ⟨rfl, ⟨hZ, hG, hK, hN⟩, hw⟩ := hv
  have hx := B.exec
  have hb := B.bytes
  have hr := B.returns
  have hts := atoms_spec (ws := ks_Mo_why) B.pre
  have hown : s.vm.findClass kR_Mo = some m.cls := findClass_of_methodNamed B.named
  have hlocks := B.notSynchronized
  have hS : va_S (fun q => Z ≤ q) s.heap s.heap [] := va_S.rf
  have hl := lv_entry ([.ref a0, .int x1, .int x2, .int x3, .int x4, .int x5]) (n := 11) (Nat.le_of_ble_eq_true rfl)
  rw [lg_entry_eq]
  generalize (lg_sl ([.ref a0, .int x1, .int x2, .int x3, .int x4, .int x5]) ++ List.replicate (11 - (lg_sl ([.ref a0, .int x1, .int x2, .int x3, .int x4, .int x5])).length) Slot.unset).toArray = ls at hl ⊢
  have hl : lv_has ls 11 [(0, .ref a0), (1, .int x1), (2, .int x2), (3, .int x3), (4, .int x4), (5, .int x5)] := hl
  unfold kp_Mo_why at hw
  have hw := hw (fun (v6 : Int32) (v7 : Int32) (v8 : Int32) (σ : z_S) => ∀ (H : Heap) (locs : List Loc) (ls : Array Slot), z_G D z_cl z_KT dA Z σ H → va_S (fun q => Z ≤ q) s.heap H locs → lv_has ls 11 [(0, .ref a0), (1, .int x1), (2, .int x2), (5, .int x5), (6, .int v6), (7, .int v7), (8, .int v8)] → W p l e (headSpec ks_Mo_why kr_Mo_why).room s m ([.ref a0, .int x1, .int x2, .int x3, .int x4, .int x5] : List Value).toArray below meth c H locs 0 0 (MQ below (z_Qi D z_cl z_KT dA Z (z_tys dA) z_nw Post) ([.ref a0, .int x1, .int x2, .int x3, .int x4, .int x5] : List Value).toArray s 0 0 (fun q => Z ≤ q)) (F0 m 83 ls []))
  have hw := hw (fun (v6 : Int32) (v7 : Int32) (v8 : Int32) (v9 : Int32) (σ : z_S) => ∀ (H : Heap) (locs : List Loc) (ls : Array Slot), z_G D z_cl z_KT dA Z σ H → va_S (fun q => Z ≤ q) s.heap H locs → lv_has ls 11 [(0, .ref a0), (1, .int x1), (2, .int x2), (5, .int x5), (6, .int v6), (7, .int v7), (8, .int v8), (9, .int v9)] → W p l e (headSpec ks_Mo_why kr_Mo_why).room s m ([.ref a0, .int x1, .int x2, .int x3, .int x4, .int x5] : List Value).toArray below meth c H locs 0 0 (MQ below (z_Qi D z_cl z_KT dA Z (z_tys dA) z_nw Post) ([.ref a0, .int x1, .int x2, .int x3, .int x4, .int x5] : List Value).toArray s 0 0 (fun q => Z ≤ q)) (F0 m 112 ls []))
  have hw := hw (fun (v6 : Int32) (v7 : Int32) (v8 : Int32) (v9 : Int32) (v10 : Int32) (σ : z_S) => ∀ (H : Heap) (locs : List Loc) (ls : Array Slot), z_G D z_cl z_KT dA Z σ H → va_S (fun q => Z ≤ q) s.heap H locs → lv_has ls 11 [(0, .ref a0), (1, .int x1), (2, .int x2), (5, .int x5), (6, .int v6), (7, .int v7), (8, .int v8), (9, .int v9), (10, .int v10)] → W p l e (headSpec ks_Mo_why kr_Mo_why).room s m ([.ref a0, .int x1, .int x2, .int x3, .int x4, .int x5] : List Value).toArray below meth c H locs 0 0 (MQ below (z_Qi D z_cl z_KT dA Z (z_tys dA) z_nw Post) ([.ref a0, .int x1, .int x2, .int x3, .int x4, .int x5] : List Value).toArray s 0 0 (fun q => Z ≤ q)) (F0 m 149 ls []))
  have hw := hw (fun (v6 : Int32) (v7 : Int32) (v8 : Int32) (v9 : Int32) (σ : z_S) => ∀ (H : Heap) (locs : List Loc) (ls : Array Slot), z_G D z_cl z_KT dA Z σ H → va_S (fun q => Z ≤ q) s.heap H locs → lv_has ls 11 [(0, .ref a0), (1, .int x1), (2, .int x2), (5, .int x5), (6, .int v6), (7, .int v7), (8, .int v8), (9, .int v9)] → W p l e (headSpec ks_Mo_why kr_Mo_why).room s m ([.ref a0, .int x1, .int x2, .int x3, .int x4, .int x5] : List Value).toArray below meth c H locs 0 0 (MQ below (z_Qi D z_cl z_KT dA Z (z_tys dA) z_nw Post) ([.ref a0, .int x1, .int x2, .int x3, .int x4, .int x5] : List Value).toArray s 0 0 (fun q => Z ≤ q)) (F0 m 187 ls []))
  have hw := hw (by
    intro v6 v7 v8 σ hw H locs ls hG hS hl
    refine lv_iload hx hb kb_Mo_why_83 (lv_at hl 6 rfl) ?_
    refine lv_aload_n hx hb kb_Mo_why_85 rfl (lv_at hl 0 rfl) ?_
    obtain ⟨hy, hw⟩ := hw
    refine zr_getI (ci := 8) (f := 808) hx hb hts ki_Mo hown hK hG hy rfl 8 (by decide) (hts _ (List.mem_cons_of_mem _ kw_592)) (fun _ h => h) rfl rfl kb_Mo_why_86 ?_
    refine lv_icmp_ge (tgt := 207) hx hb kb_Mo_why_89 (by decide) (fun hc => ?_) (fun hc => ?_)
    · have hw := hw.1 hc
      refine lv_iconst (v := (-1 : Int32)) hx hb kb_Mo_why_207 (by decide) ?_
      exact zr_iret (free := fun q => Z ≤ q) z_nwN hx hb hr rfl hZ hK hN hG hS hw kb_Mo_why_208 hlocks
    · have hw := hw.2 hc
      refine lv_iconst (v := (0 : Int32)) hx hb kb_Mo_why_92 (by decide) ?_
      refine lv_istore (lv' := [(9, .int ((0 : Int32))), (0, .ref a0), (1, .int x1), (2, .int x2), (5, .int x5), (6, .int v6), (7, .int v7), (8, .int v8)]) hx hb kb_Mo_why_93 hl (by decide) rfl (fun ls hl => ?_)
      refine lv_aload_n hx hb kb_Mo_why_95 rfl (lv_at hl 1 rfl) ?_
      obtain ⟨hy, r96, hrf, hw⟩ := hw
      refine zr_getR (ci := 8) (f := 809) hx hb hts ki_Mo hown hK hG hy rfl 9 (by decide) (hts _ (List.mem_cons_of_mem _ kw_593)) (fun _ h => h) rfl rfl hrf kb_Mo_why_96 ?_
      refine lv_iload hx hb kb_Mo_why_99 (lv_at hl 7 rfl) ?_
      obtain ⟨n101, s101, hy, hi, hw⟩ := hw
      refine zr_iald hx hb hK hG 0 hy rfl hi kb_Mo_why_101 ?_
      refine lv_iload_n hx hb kb_Mo_why_102 rfl (lv_at hl 2 rfl) ?_
      refine lv_icmp_ne (tgt := 187) hx hb kb_Mo_why_103 (by decide) (fun hc => ?_) (fun hc => ?_)
      · have hw := hw.1 hc
        exact hw _ _ _ hG hS (lv_sub hl [1, 2, 3, 4, 5, 6, 7, 0] rfl)
      · have hw := hw.2 hc
        refine lv_aload_n hx hb kb_Mo_why_106 rfl (lv_at hl 1 rfl) ?_
        refine lv_iload hx hb kb_Mo_why_107 (lv_at hl 7 rfl) ?_
        obtain ⟨hy, hw⟩ := hw
        refine zr_cv (va_runV (C := kR_Mo) (As := [.int v8]) (rest := []) ⟨hx, hb, hml, hown, hts⟩ (kc_Mo_begin l D dA Z a0 v8 σ _) ⟨callB_of 1 hts (z_gw kw_772) rfl rfl rfl (hts _ (List.mem_cons_of_mem _ kw_9)) (hts _ (List.mem_cons_of_mem _ kw_770)) (by decide +kernel) ⟨Nat.le_of_ble_eq_true rfl, Nat.le_of_ble_eq_true rfl⟩, (hts _ (List.mem_cons_of_mem _ kw_771)), (hts _ (List.mem_cons_of_mem _ kw_971))⟩ (z_preV z_nwN (Nat.le_trans hZ hS.1) hG hK hN hy (ci := 8) (r := (kR_Mo, kT_Mo, 51)) rfl hw) rfl rfl hl.1 rfl (lv_room (Nat.le_of_ble_eq_true rfl)) kb_Mo_why_109 ⟨Nat.le_of_ble_eq_true rfl, Nat.le_of_ble_eq_true rfl⟩) hS (fun σ109 H locs hw hG hS => ?_)
        exact hw _ _ _ hG hS (lv_sub hl [1, 2, 3, 4, 5, 6, 7, 0] rfl))
  have hw := hw (by
    intro v6 v7 v8 v9 σ hw H locs ls hG hS hl
    refine lv_aload_n hx hb kb_Mo_why_112 rfl (lv_at hl 0 rfl) ?_
    obtain ⟨hy, hw⟩ := hw
    refine zr_ci (va_runV (C := kR_Mo) (As := []) (rest := []) ⟨hx, hb, hml, hown, hts⟩ (kc_Mo_next l D dA Z a0 σ _) ⟨callB_of 0 hts (z_gw kw_775) rfl rfl rfl (hts _ (List.mem_cons_of_mem _ kw_9)) (hts _ (List.mem_cons_of_mem _ kw_773)) (by decide +kernel) ⟨Nat.le_of_ble_eq_true rfl, Nat.le_of_ble_eq_true rfl⟩, (hts _ (List.mem_cons_of_mem _ kw_774)), (hts _ (List.mem_cons_of_mem _ kw_972))⟩ (z_preV z_nwN (Nat.le_trans hZ hS.1) hG hK hN hy (ci := 8) (r := (kR_Mo, kT_Mo, 51)) rfl hw) rfl rfl hl.1 rfl (lv_room (Nat.le_of_ble_eq_true rfl)) kb_Mo_why_113 ⟨Nat.le_of_ble_eq_true rfl, Nat.le_of_ble_eq_true rfl⟩) hS (fun r113 σ113 H locs hw hG hS => ?_)
    refine lv_if_eq (tgt := 187) hx hb kb_Mo_why_116 (by decide) (fun hc => ?_) (fun hc => ?_)
    · have hw := hw.1 hc
      exact hw _ _ _ hG hS (lv_sub hl [0, 1, 2, 3, 4, 5, 6, 7] rfl)
    · have hw := hw.2 hc
      refine lv_aload_n hx hb kb_Mo_why_119 rfl (lv_at hl 0 rfl) ?_
      refine lv_iload_n hx hb kb_Mo_why_120 rfl (lv_at hl 2 rfl) ?_
      refine lv_iload hx hb kb_Mo_why_121 (lv_at hl 4 rfl) ?_
      refine lv_iload hx hb kb_Mo_why_123 (lv_at hl 5 rfl) ?_
      obtain ⟨hy, hw⟩ := hw
      refine zr_ci (va_runV (C := kR_Mo) (As := [.int x2, .int v6, .int v7]) (rest := []) ⟨hx, hb, hml, hown, hts⟩ (kc_Mo_leads l D dA Z a0 x2 v6 v7 σ113 _) ⟨callB_of 3 hts (z_gw kw_889) rfl rfl rfl (hts _ (List.mem_cons_of_mem _ kw_9)) (hts _ (List.mem_cons_of_mem _ kw_887)) (by decide +kernel) ⟨Nat.le_of_ble_eq_true rfl, Nat.le_of_ble_eq_true rfl⟩, (hts _ (List.mem_cons_of_mem _ kw_888)), (hts _ (List.mem_cons_of_mem _ kw_994))⟩ (z_preV z_nwN (Nat.le_trans hZ hS.1) hG hK hN hy (ci := 8) (r := (kR_Mo, kT_Mo, 51)) rfl hw) rfl rfl hl.1 rfl (lv_room (Nat.le_of_ble_eq_true rfl)) kb_Mo_why_125 ⟨Nat.le_of_ble_eq_true rfl, Nat.le_of_ble_eq_true rfl⟩) hS (fun r125 σ125 H locs hw hG hS => ?_)
      refine lv_if_eq (tgt := 112) hx hb kb_Mo_why_128 (by decide) (fun hc => ?_) (fun hc => ?_)
      · have hw := hw.1 hc
        exact hw _ _ _ hG hS (lv_sub hl [0, 1, 2, 3, 4, 5, 6, 7] rfl)
      · have hw := hw.2 hc
        refine lv_iload hx hb kb_Mo_why_131 (lv_at hl 7 rfl) ?_
        refine lv_if_eq (tgt := 143) hx hb kb_Mo_why_133 (by decide) (fun hc => ?_) (fun hc => ?_)
        · have hw := hw.1 hc
          refine lv_iconst (v := (1 : Int32)) hx hb kb_Mo_why_143 (by decide) ?_
          refine lv_istore (lv' := [(9, .int ((1 : Int32))), (0, .ref a0), (1, .int x1), (2, .int x2), (5, .int x5), (6, .int v6), (7, .int v7), (8, .int v8)]) hx hb kb_Mo_why_144 hl (by decide) rfl (fun ls hl => ?_)
          refine lv_iconst (v := (0 : Int32)) hx hb kb_Mo_why_146 (by decide) ?_
          refine lv_istore (lv' := [(10, .int ((0 : Int32))), (9, .int ((1 : Int32))), (0, .ref a0), (1, .int x1), (2, .int x2), (5, .int x5), (6, .int v6), (7, .int v7), (8, .int v8)]) hx hb kb_Mo_why_147 hl (by decide) rfl (fun ls hl => ?_)
          exact hw _ _ _ hG hS (lv_sub hl [2, 3, 4, 5, 6, 7, 8, 1, 0] rfl)
        · have hw := hw.2 hc
          refine lv_aload_n hx hb kb_Mo_why_136 rfl (lv_at hl 0 rfl) ?_
          obtain ⟨hy, hw⟩ := hw
          refine zr_ci (va_runV (C := kR_Mo) (As := []) (rest := []) ⟨hx, hb, hml, hown, hts⟩ (kc_Mo_isLess l D dA Z a0 σ125 _) ⟨callB_of 0 hts (z_gw kw_896) rfl rfl rfl (hts _ (List.mem_cons_of_mem _ kw_9)) (hts _ (List.mem_cons_of_mem _ kw_894)) (by decide +kernel) ⟨Nat.le_of_ble_eq_true rfl, Nat.le_of_ble_eq_true rfl⟩, (hts _ (List.mem_cons_of_mem _ kw_895)), (hts _ (List.mem_cons_of_mem _ kw_995))⟩ (z_preV z_nwN (Nat.le_trans hZ hS.1) hG hK hN hy (ci := 8) (r := (kR_Mo, kT_Mo, 51)) rfl hw) rfl rfl hl.1 rfl (lv_room (Nat.le_of_ble_eq_true rfl)) kb_Mo_why_137 ⟨Nat.le_of_ble_eq_true rfl, Nat.le_of_ble_eq_true rfl⟩) hS (fun r137 σ137 H locs hw hG hS => ?_)
          refine lv_if_eq (tgt := 112) hx hb kb_Mo_why_140 (by decide) (fun hc => ?_) (fun hc => ?_)
          · have hw := hw.1 hc
            exact hw _ _ _ hG hS (lv_sub hl [0, 1, 2, 3, 4, 5, 6, 7] rfl)
          · have hw := hw.2 hc
            refine lv_iconst (v := (1 : Int32)) hx hb kb_Mo_why_143 (by decide) ?_
            refine lv_istore (lv' := [(9, .int ((1 : Int32))), (0, .ref a0), (1, .int x1), (2, .int x2), (5, .int x5), (6, .int v6), (7, .int v7), (8, .int v8)]) hx hb kb_Mo_why_144 hl (by decide) rfl (fun ls hl => ?_)
            refine lv_iconst (v := (0 : Int32)) hx hb kb_Mo_why_146 (by decide) ?_
            refine lv_istore (lv' := [(10, .int ((0 : Int32))), (9, .int ((1 : Int32))), (0, .ref a0), (1, .int x1), (2, .int x2), (5, .int x5), (6, .int v6), (7, .int v7), (8, .int v8)]) hx hb kb_Mo_why_147 hl (by decide) rfl (fun ls hl => ?_)
            exact hw _ _ _ hG hS (lv_sub hl [2, 3, 4, 5, 6, 7, 8, 1, 0] rfl))
  have hw := hw (by
    intro v6 v7 v8 v9 v10 σ hw H locs ls hG hS hl
    refine lv_iload hx hb kb_Mo_why_149 (lv_at hl 8 rfl) ?_
    refine lv_bipush (v := (26 : Int32)) hx hb kb_Mo_why_151 (by decide) ?_
    refine lv_icmp_ge (tgt := 184) hx hb kb_Mo_why_153 (by decide) (fun hc => ?_) (fun hc => ?_)
    · have hw := hw.1 hc
      refine lv_goto (tgt := 112) hx hb kb_Mo_why_184 (by decide) ?_
      exact hw _ _ _ hG hS (lv_sub hl [0, 1, 2, 3, 4, 5, 6, 7] rfl)
    · have hw := hw.2 hc
      refine lv_aload_n hx hb kb_Mo_why_156 rfl (lv_at hl 0 rfl) ?_
      obtain ⟨hy, r157, hrf, hw⟩ := hw
      refine zr_getR (ci := 8) (f := 850) hx hb hts ki_Mo hown hK hG hy rfl 50 (by decide) (hts _ (List.mem_cons_of_mem _ kw_634)) (fun _ h => h) rfl rfl hrf kb_Mo_why_157 ?_
      refine lv_iload hx hb kb_Mo_why_160 (lv_at hl 8 rfl) ?_
      refine lv_aload_n hx hb kb_Mo_why_162 rfl (lv_at hl 0 rfl) ?_
      obtain ⟨hy, r163, hrf, hw⟩ := hw
      refine zr_getR (ci := 8) (f := 837) hx hb hts ki_Mo hown hK hG hy rfl 37 (by decide) (hts _ (List.mem_cons_of_mem _ kw_621)) (fun _ h => h) rfl rfl hrf kb_Mo_why_163 ?_
      refine lv_bipush (v := (26 : Int32)) hx hb kb_Mo_why_166 (by decide) ?_
      refine lv_aload_n hx hb kb_Mo_why_168 rfl (lv_at hl 0 rfl) ?_
      obtain ⟨hy, hw⟩ := hw
      refine zr_getI (ci := 8) (f := 841) hx hb hts ki_Mo hown hK hG hy rfl 41 (by decide) (hts _ (List.mem_cons_of_mem _ kw_625)) (fun _ h => h) rfl rfl kb_Mo_why_169 ?_
      refine lv_imul hx hb kb_Mo_why_172 ?_
      refine lv_iload hx hb kb_Mo_why_173 (lv_at hl 8 rfl) ?_
      refine lv_iadd hx hb kb_Mo_why_175 ?_
      obtain ⟨n176, s176, hy, hi, hw⟩ := hw
      refine zr_iald hx hb hK hG 0 hy rfl hi kb_Mo_why_176 ?_
      obtain ⟨n177, s177, hy, hi, hw⟩ := hw
      refine zr_iast hx hb hK hG hS 0 hy rfl hi kb_Mo_why_177 (fun H locs hG hS => ?_)
      obtain ⟨σ177, e177⟩ : ∃ z, z = z_sA σ s177 r157 (upd (z_A σ s177 r157) v10.toNatClampNeg (z_A σ s176 r163 ((((26 : Int32)) * (z_I σ 841 a0)) + v10).toNatClampNeg)) := ⟨_, rfl⟩
      rw [← e177] at hG
      have hw := hw _ e177
      refine lv_iinc (v := v10 + (1 : Int32)) (lv' := [(10, .int (v10 + (1 : Int32))), (0, .ref a0), (1, .int x1), (2, .int x2), (5, .int x5), (6, .int v6), (7, .int v7), (8, .int v8), (9, .int v9)]) hx hb kb_Mo_why_178 hl (k := 8) rfl rfl (by decide) rfl (fun ls hl => ?_)
      refine lv_goto (tgt := 149) hx hb kb_Mo_why_181 (by decide) ?_
      exact hw _ _ _ hG hS (lv_sub hl [1, 2, 3, 4, 5, 6, 7, 8, 0] rfl))
  have hw := hw (by
    intro v6 v7 v8 v9 σ hw H locs ls hG hS hl
    refine lv_iload hx hb kb_Mo_why_187 (lv_at hl 7 rfl) ?_
    refine lv_if_eq (tgt := 201) hx hb kb_Mo_why_189 (by decide) (fun hc => ?_) (fun hc => ?_)
    · have hw := hw.1 hc
      refine lv_iinc (v := v8 + (1 : Int32)) (lv' := [(8, .int (v8 + (1 : Int32))), (0, .ref a0), (1, .int x1), (2, .int x2), (5, .int x5), (6, .int v6), (7, .int v7), (9, .int v9)]) hx hb kb_Mo_why_201 hl (k := 6) rfl rfl (by decide) rfl (fun ls hl => ?_)
      refine lv_goto (tgt := 83) hx hb kb_Mo_why_204 (by decide) ?_
      exact hw _ _ _ hG hS (lv_sub hl [1, 2, 3, 4, 5, 6, 0] rfl)
    · have hw := hw.2 hc
      refine lv_aload_n hx hb kb_Mo_why_192 rfl (lv_at hl 0 rfl) ?_
      refine lv_iload hx hb kb_Mo_why_193 (lv_at hl 6 rfl) ?_
      refine lv_iload hx hb kb_Mo_why_195 (lv_at hl 3 rfl) ?_
      obtain ⟨hy, hw⟩ := hw
      refine zr_ci (va_runV (C := kR_Mo) (As := [.int v8, .int x5]) (rest := []) ⟨hx, hb, hml, hown, hts⟩ (kc_Mo_tell l D dA Z a0 v8 x5 σ _) ⟨callB_of 2 hts (z_gw kw_899) rfl rfl rfl (hts _ (List.mem_cons_of_mem _ kw_9)) (hts _ (List.mem_cons_of_mem _ kw_897)) (by decide +kernel) ⟨Nat.le_of_ble_eq_true rfl, Nat.le_of_ble_eq_true rfl⟩, (hts _ (List.mem_cons_of_mem _ kw_898)), (hts _ (List.mem_cons_of_mem _ kw_996))⟩ (z_preV z_nwN (Nat.le_trans hZ hS.1) hG hK hN hy (ci := 8) (r := (kR_Mo, kT_Mo, 51)) rfl hw) rfl rfl hl.1 rfl (lv_room (Nat.le_of_ble_eq_true rfl)) kb_Mo_why_197 ⟨Nat.le_of_ble_eq_true rfl, Nat.le_of_ble_eq_true rfl⟩) hS (fun r197 σ197 H locs hw hG hS => ?_)
      exact zr_iret (free := fun q => Z ≤ q) z_nwN hx hb hr rfl hZ hK hN hG hS hw kb_Mo_why_200 hlocks)
  refine lv_aload_n hx hb kb_Mo_why_0 rfl (lv_at hl 0 rfl) ?_
  obtain ⟨hy, hw⟩ := hw
  refine zr_getI (ci := 8) (f := 808) hx hb hts ki_Mo hown hK hG hy rfl 8 (by decide) (hts _ (List.mem_cons_of_mem _ kw_592)) (fun _ h => h) rfl rfl kb_Mo_why_1 ?_
  refine lv_if_ne (tgt := 10) hx hb kb_Mo_why_4 (by decide) (fun hc => ?_) (fun hc => ?_)
  · have hw := hw.1 hc
    refine lv_aload_n hx hb kb_Mo_why_10 rfl (lv_at hl 0 rfl) ?_
    refine lv_iload_n hx hb kb_Mo_why_11 rfl (lv_at hl 1 rfl) ?_
    obtain ⟨hy, hw⟩ := hw
    refine zr_ci (va_runV (C := kR_Mo) (As := [.int x1]) (rest := []) ⟨hx, hb, hml, hown, hts⟩ (kc_Mo_isRelation l D dA Z a0 x1 σ _) ⟨callB_of 1 hts (z_gw kw_824) rfl rfl rfl (hts _ (List.mem_cons_of_mem _ kw_9)) (hts _ (List.mem_cons_of_mem _ kw_822)) (by decide +kernel) ⟨Nat.le_of_ble_eq_true rfl, Nat.le_of_ble_eq_true rfl⟩, (hts _ (List.mem_cons_of_mem _ kw_823)), (hts _ (List.mem_cons_of_mem _ kw_983))⟩ (z_preV z_nwN (Nat.le_trans hZ hS.1) hG hK hN hy (ci := 8) (r := (kR_Mo, kT_Mo, 51)) rfl hw) rfl rfl hl.1 rfl (lv_room (Nat.le_of_ble_eq_true rfl)) kb_Mo_why_12 ⟨Nat.le_of_ble_eq_true rfl, Nat.le_of_ble_eq_true rfl⟩) hS (fun r12 σ12 H locs hw hG hS => ?_)
    refine lv_if_eq (tgt := 58) hx hb kb_Mo_why_15 (by decide) (fun hc => ?_) (fun hc => ?_)
    · have hw := hw.1 hc
      refine lv_bipush (v := (-2 : Int32)) hx hb kb_Mo_why_58 (by decide) ?_
      exact zr_iret (free := fun q => Z ≤ q) z_nwN hx hb hr rfl hZ hK hN hG hS hw kb_Mo_why_60 hlocks
    · have hw := hw.2 hc
      refine lv_aload_n hx hb kb_Mo_why_18 rfl (lv_at hl 0 rfl) ?_
      obtain ⟨hy, r19, hrf, hw⟩ := hw
      refine zr_getR (ci := 8) (f := 820) hx hb hts ki_Mo hown hK hG hy rfl 20 (by decide) (hts _ (List.mem_cons_of_mem _ kw_604)) (fun _ h => h) rfl rfl hrf kb_Mo_why_19 ?_
      refine lv_iload_n hx hb kb_Mo_why_22 rfl (lv_at hl 1 rfl) ?_
      obtain ⟨n23, s23, hy, hi, hw⟩ := hw
      refine zr_zald hx hb hK hG 2 hy rfl hi kb_Mo_why_23 ?_
      refine lv_if_eq (tgt := 58) hx hb kb_Mo_why_24 (by decide) (fun hc => ?_) (fun hc => ?_)
      · have hw := hw.1 hc
        refine lv_bipush (v := (-2 : Int32)) hx hb kb_Mo_why_58 (by decide) ?_
        exact zr_iret (free := fun q => Z ≤ q) z_nwN hx hb hr rfl hZ hK hN hG hS hw kb_Mo_why_60 hlocks
      · have hw := hw.2 hc
        refine lv_aload_n hx hb kb_Mo_why_27 rfl (lv_at hl 0 rfl) ?_
        refine lv_iload_n hx hb kb_Mo_why_28 rfl (lv_at hl 1 rfl) ?_
        obtain ⟨hy, hw⟩ := hw
        refine zr_ci (va_runV (C := kR_Mo) (As := [.int x1]) (rest := []) ⟨hx, hb, hml, hown, hts⟩ (kc_Mo_isCounted l D dA Z a0 x1 σ12 _) ⟨callB_of 1 hts (z_gw kw_886) rfl rfl rfl (hts _ (List.mem_cons_of_mem _ kw_9)) (hts _ (List.mem_cons_of_mem _ kw_884)) (by decide +kernel) ⟨Nat.le_of_ble_eq_true rfl, Nat.le_of_ble_eq_true rfl⟩, (hts _ (List.mem_cons_of_mem _ kw_885)), (hts _ (List.mem_cons_of_mem _ kw_993))⟩ (z_preV z_nwN (Nat.le_trans hZ hS.1) hG hK hN hy (ci := 8) (r := (kR_Mo, kT_Mo, 51)) rfl hw) rfl rfl hl.1 rfl (lv_room (Nat.le_of_ble_eq_true rfl)) kb_Mo_why_29 ⟨Nat.le_of_ble_eq_true rfl, Nat.le_of_ble_eq_true rfl⟩) hS (fun r29 σ29 H locs hw hG hS => ?_)
        refine lv_if_ne (tgt := 58) hx hb kb_Mo_why_32 (by decide) (fun hc => ?_) (fun hc => ?_)
        · have hw := hw.1 hc
          refine lv_bipush (v := (-2 : Int32)) hx hb kb_Mo_why_58 (by decide) ?_
          exact zr_iret (free := fun q => Z ≤ q) z_nwN hx hb hr rfl hZ hK hN hG hS hw kb_Mo_why_60 hlocks
        · have hw := hw.2 hc
          refine lv_aload_n hx hb kb_Mo_why_35 rfl (lv_at hl 0 rfl) ?_
          refine lv_iload_n hx hb kb_Mo_why_36 rfl (lv_at hl 1 rfl) ?_
          refine lv_iload_n hx hb kb_Mo_why_37 rfl (lv_at hl 2 rfl) ?_
          refine lv_iload_n hx hb kb_Mo_why_38 rfl (lv_at hl 3 rfl) ?_
          refine lv_iload hx hb kb_Mo_why_39 (lv_at hl 4 rfl) ?_
          obtain ⟨hy, hw⟩ := hw
          refine zr_ci (va_runV (C := kR_Mo) (As := [.int x1, .int x2, .int x3, .int x4]) (rest := []) ⟨hx, hb, hml, hown, hts⟩ (kc_Mo_areValues l D dA Z a0 x1 x2 x3 x4 σ29 _) ⟨callB_of 4 hts (z_gw kw_831) rfl rfl rfl (hts _ (List.mem_cons_of_mem _ kw_9)) (hts _ (List.mem_cons_of_mem _ kw_829)) (by decide +kernel) ⟨Nat.le_of_ble_eq_true rfl, Nat.le_of_ble_eq_true rfl⟩, (hts _ (List.mem_cons_of_mem _ kw_830)), (hts _ (List.mem_cons_of_mem _ kw_984))⟩ (z_preV z_nwN (Nat.le_trans hZ hS.1) hG hK hN hy (ci := 8) (r := (kR_Mo, kT_Mo, 51)) rfl hw) rfl rfl hl.1 rfl (lv_room (Nat.le_of_ble_eq_true rfl)) kb_Mo_why_41 ⟨Nat.le_of_ble_eq_true rfl, Nat.le_of_ble_eq_true rfl⟩) hS (fun r41 σ41 H locs hw hG hS => ?_)
          refine lv_if_eq (tgt := 58) hx hb kb_Mo_why_44 (by decide) (fun hc => ?_) (fun hc => ?_)
          · have hw := hw.1 hc
            refine lv_bipush (v := (-2 : Int32)) hx hb kb_Mo_why_58 (by decide) ?_
            exact zr_iret (free := fun q => Z ≤ q) z_nwN hx hb hr rfl hZ hK hN hG hS hw kb_Mo_why_60 hlocks
          · have hw := hw.2 hc
            refine lv_iload hx hb kb_Mo_why_47 (lv_at hl 5 rfl) ?_
            refine lv_iconst (v := (0 : Int32)) hx hb kb_Mo_why_49 (by decide) ?_
            refine lv_bipush (v := (7 : Int32)) hx hb kb_Mo_why_50 (by decide) ?_
            refine zr_ci (va_runS (As := [.int x5, .int ((0 : Int32)), .int ((7 : Int32))]) (rest := []) ⟨hx, hb, hml, hown, hts⟩ (kc_Mo_isIn l D dA Z x5 ((0 : Int32)) ((7 : Int32)) σ41 _) ⟨callB_of 3 hts (z_gw kw_693) rfl rfl rfl (hts _ (List.mem_cons_of_mem _ kw_9)) (hts _ (List.mem_cons_of_mem _ kw_691)) (by decide +kernel) ⟨Nat.le_of_ble_eq_true rfl, Nat.le_of_ble_eq_true rfl⟩, (hts _ (List.mem_cons_of_mem _ kw_692))⟩ (z_preS z_nwN (Nat.le_trans hZ hS.1) hG hK hN hw) rfl rfl hl.1 rfl (lv_room (Nat.le_of_ble_eq_true rfl)) kb_Mo_why_52 ⟨Nat.le_of_ble_eq_true rfl, Nat.le_of_ble_eq_true rfl⟩) hS (fun r52 σ52 H locs hw hG hS => ?_)
            refine lv_if_ne (tgt := 61) hx hb kb_Mo_why_55 (by decide) (fun hc => ?_) (fun hc => ?_)
            · have hw := hw.1 hc
              refine lv_aload_n hx hb kb_Mo_why_61 rfl (lv_at hl 0 rfl) ?_
              refine lv_iload_n hx hb kb_Mo_why_62 rfl (lv_at hl 1 rfl) ?_
              refine lv_iconst (v := (1 : Int32)) hx hb kb_Mo_why_63 (by decide) ?_
              refine lv_iload_n hx hb kb_Mo_why_64 rfl (lv_at hl 3 rfl) ?_
              obtain ⟨hy, hw⟩ := hw
              refine zr_ci (va_runV (C := kR_Mo) (As := [.int x1, .int ((1 : Int32)), .int x3]) (rest := []) ⟨hx, hb, hml, hown, hts⟩ (kc_Mo_given l D dA Z a0 x1 ((1 : Int32)) x3 σ52 _) ⟨callB_of 3 hts (z_gw kw_834) rfl rfl rfl (hts _ (List.mem_cons_of_mem _ kw_9)) (hts _ (List.mem_cons_of_mem _ kw_832)) (by decide +kernel) ⟨Nat.le_of_ble_eq_true rfl, Nat.le_of_ble_eq_true rfl⟩, (hts _ (List.mem_cons_of_mem _ kw_833)), (hts _ (List.mem_cons_of_mem _ kw_985))⟩ (z_preV z_nwN (Nat.le_trans hZ hS.1) hG hK hN hy (ci := 8) (r := (kR_Mo, kT_Mo, 51)) rfl hw) rfl rfl hl.1 rfl (lv_room (Nat.le_of_ble_eq_true rfl)) kb_Mo_why_65 ⟨Nat.le_of_ble_eq_true rfl, Nat.le_of_ble_eq_true rfl⟩) hS (fun r65 σ65 H locs hw hG hS => ?_)
              refine lv_istore (lv' := [(6, .int r65), (0, .ref a0), (1, .int x1), (2, .int x2), (3, .int x3), (4, .int x4), (5, .int x5)]) hx hb kb_Mo_why_68 hl (by decide) rfl (fun ls hl => ?_)
              refine lv_aload_n hx hb kb_Mo_why_70 rfl (lv_at hl 1 rfl) ?_
              refine lv_iload_n hx hb kb_Mo_why_71 rfl (lv_at hl 2 rfl) ?_
              refine lv_iconst (v := (2 : Int32)) hx hb kb_Mo_why_72 (by decide) ?_
              refine lv_iload hx hb kb_Mo_why_73 (lv_at hl 5 rfl) ?_
              obtain ⟨hy, hw⟩ := hw
              refine zr_ci (va_runV (C := kR_Mo) (As := [.int x1, .int ((2 : Int32)), .int x4]) (rest := []) ⟨hx, hb, hml, hown, hts⟩ (kc_Mo_given l D dA Z a0 x1 ((2 : Int32)) x4 σ65 _) ⟨callB_of 3 hts (z_gw kw_834) rfl rfl rfl (hts _ (List.mem_cons_of_mem _ kw_9)) (hts _ (List.mem_cons_of_mem _ kw_832)) (by decide +kernel) ⟨Nat.le_of_ble_eq_true rfl, Nat.le_of_ble_eq_true rfl⟩, (hts _ (List.mem_cons_of_mem _ kw_833)), (hts _ (List.mem_cons_of_mem _ kw_985))⟩ (z_preV z_nwN (Nat.le_trans hZ hS.1) hG hK hN hy (ci := 8) (r := (kR_Mo, kT_Mo, 51)) rfl hw) rfl rfl hl.1 rfl (lv_room (Nat.le_of_ble_eq_true rfl)) kb_Mo_why_75 ⟨Nat.le_of_ble_eq_true rfl, Nat.le_of_ble_eq_true rfl⟩) hS (fun r75 σ75 H locs hw hG hS => ?_)
              refine lv_istore (lv' := [(7, .int r75), (6, .int r65), (0, .ref a0), (1, .int x1), (2, .int x2), (3, .int x3), (4, .int x4), (5, .int x5)]) hx hb kb_Mo_why_78 hl (by decide) rfl (fun ls hl => ?_)
              refine lv_iconst (v := (0 : Int32)) hx hb kb_Mo_why_80 (by decide) ?_
              refine lv_istore (lv' := [(8, .int ((0 : Int32))), (7, .int r75), (6, .int r65), (0, .ref a0), (1, .int x1), (2, .int x2), (3, .int x3), (4, .int x4), (5, .int x5)]) hx hb kb_Mo_why_81 hl (by decide) rfl (fun ls hl => ?_)
              exact hw _ _ _ hG hS (lv_sub hl [3, 4, 5, 8, 2, 1, 0] rfl)
            · have hw := hw.2 hc
              refine lv_bipush (v := (-2 : Int32)) hx hb kb_Mo_why_58 (by decide) ?_
              exact zr_iret (free := fun q => Z ≤ q) z_nwN hx hb hr rfl hZ hK hN hG hS hw kb_Mo_why_60 hlocks
  · have hw := hw.2 hc
    refine lv_bipush (v := (-4 : Int32)) hx hb kb_Mo_why_7 (by decide) ?_
    exact zr_iret (free := fun q => Z ≤ q) z_nwN hx hb hr rfl hZ hK hN hG hS hw kb_Mo_why_9 hlocks
def kp_Mo_anew (a0 : Nat) (σ : z_S) (Post : Int32 → z_S → Prop) : Prop :=     (z_ty σ a0 = some (.inl 8) ∧ ((((z_I σ 808 a0)) ≤ 0 → Post ((0 : Int32)) σ) ∧ (¬ ((z_I σ 808 a0)) ≤ 0 → Post ((1 : Int32)) σ)))
set_option maxHeartbeats 4000000 in
set_option maxRecDepth 100000 in
theorem kc_Mo_anew (l : Launch) (D : va_G) (dA : Nat → ClassId) (Z : Nat) (a0 : Nat) (σ : z_S) (Post : Int32 → z_S → Prop) : Met l km_Mo_anew ks_Mo_anew kr_Mo_anew (va_Pc [.ref a0] (fun U => z_U D z_cl z_KT dA Z (z_tys dA) z_nw σ U ∧ kp_Mo_anew  a0 σ Post)) (z_Qi D z_cl z_KT dA Z (z_tys dA) z_nw Post) 0 0 (fun q => Z ≤ q) := by
  refine Met.ofW (cc := prog_10_method_68_code) (maxL := 1) (ret := (some .boolean)) (by decide) rfl ?_
  intro p e s m args below meth c s₁ B hml hv
  obtain ⟨rfl, ⟨hZ, hG, hK, hN⟩, hw⟩ := hv
  have hx := B.exec
  have hb := B.bytes
  have hr := B.returns
  have hts := atoms_spec (ws := ks_Mo_anew) B.pre
  have hown : s.vm.findClass kR_Mo = some m.cls := findClass_of_methodNamed B.named
  have hlocks := B.notSynchronized
  have hS : va_S (fun q => Z ≤ q) s.heap s.heap [] := va_S.rf
  have hl := lv_entry ([.ref a0]) (n := 1) (Nat.le_of_ble_eq_true rfl)
  rw [lg_entry_eq]
  generalize (lg_sl ([.ref a0]) ++ List.replicate (1 - (lg_sl ([.ref a0])).length) Slot.unset).toArray = ls at hl ⊢
  have hl : lv_has ls 1 [(0, .ref a0)] := hl
  unfold kp_Mo_anew at hw
  refine lv_aload_n hx hb kb_Mo_anew_0 rfl (lv_at hl 0 rfl) ?_
  obtain ⟨hy, hw⟩ := hw
  refine zr_getI (ci := 8) (f := 808) hx hb hts ki_Mo hown hK hG hy rfl 8 (by decide) (hts _ (List.mem_cons_of_mem _ kw_592)) (fun _ h => h) rfl rfl kb_Mo_anew_1 ?_
  refine lv_if_le (tgt := 11) hx hb kb_Mo_anew_4 (by decide) (fun hc => ?_) (fun hc => ?_)
  · have hw := hw.1 hc
    refine lv_iconst (v := (0 : Int32)) hx hb kb_Mo_anew_11 (by decide) ?_
    exact zr_iret (free := fun q => Z ≤ q) z_nwN hx hb hr rfl hZ hK hN hG hS hw kb_Mo_anew_12 hlocks
  · have hw := hw.2 hc
    refine lv_iconst (v := (1 : Int32)) hx hb kb_Mo_anew_7 (by decide) ?_
    refine lv_goto (tgt := 12) hx hb kb_Mo_anew_8 (by decide) ?_
    exact zr_iret (free := fun q => Z ≤ q) z_nwN hx hb hr rfl hZ hK hN hG hS hw kb_Mo_anew_12 hlocks
def kp_Mo_told (a0 : Nat) (x1 : Int32) (σ : z_S) (Post : Int32 → z_S → Prop) : Prop := ∀ (X24 : z_S → Prop) (X42 : Int32 → Int32 → z_S → Prop),
    (∀ (σ : z_S), ((¬ x1 = ((2 : Int32)) → Post ((0 : Int32)) σ) ∧ (x1 = ((2 : Int32)) → z_ty σ a0 = some (.inl 8) ∧ (Post (z_I σ 831 a0) σ))) → X24 σ) →
    (∀ (v2 : Int32) (v3 : Int32) (σ : z_S), (z_ty σ a0 = some (.inl 8) ∧ (((z_I σ 817 a0) ≤ v3 → (¬ x1 = 0 → (¬ x1 = ((1 : Int32)) → (¬ x1 = ((3 : Int32)) → (¬ x1 = ((4 : Int32)) → Post v2 σ) ∧ (x1 = ((4 : Int32)) → z_ty σ a0 = some (.inl 8) ∧ (Post (z_I σ 834 a0) σ))) ∧ (x1 = ((3 : Int32)) → z_ty σ a0 = some (.inl 8) ∧ (Post (z_I σ 836 a0) σ))) ∧ (x1 = ((1 : Int32)) → z_ty σ a0 = some (.inl 8) ∧ (Post (z_I σ 817 a0) σ))) ∧ (x1 = 0 → z_ty σ a0 = some (.inl 8) ∧ (Post (z_I σ 808 a0) σ))) ∧ (¬ (z_I σ 817 a0) ≤ v3 → z_ty σ a0 = some (.inl 8) ∧ ∃ r51, z_R σ 821 a0 = some r51 ∧ (∃ n55 s55, z_ty σ r51 = some (.inr (0, n55, s55)) ∧ vp_in v3 n55 ∧ (((z_A σ s55 r51 v3.toNatClampNeg) ≤ v2 → X42 v2 (v3 + (1 : Int32)) σ) ∧ (¬ (z_A σ s55 r51 v3.toNatClampNeg) ≤ v2 → z_ty σ a0 = some (.inl 8) ∧ ∃ r61, z_R σ 821 a0 = some r61 ∧ (∃ n65 s65, z_ty σ r61 = some (.inr (0, n65, s65)) ∧ vp_in v3 n65 ∧ (X42 (z_A σ s65 r61 v3.toNatClampNeg) (v3 + (1 : Int32)) σ)))))))) → X42 v2 v3 σ) →
    (kp_Mo_isIn x1 ((0 : Int32)) ((5 : Int32)) σ (fun (r3 : Int32) (σ3 : z_S) => (¬ r3 = 0 → (x1 = ((2 : Int32)) → X24 σ3) ∧ (¬ x1 = ((2 : Int32)) → z_ty σ3 a0 = some (.inl 8) ∧ ((¬ ((z_I σ3 808 a0)) = 0 → X42 ((0 : Int32)) ((0 : Int32)) σ3) ∧ (((z_I σ3 808 a0)) = 0 → X24 σ3)))) ∧ (r3 = 0 → Post ((-2 : Int32)) σ3)))
set_option maxHeartbeats 4000000 in
set_option maxRecDepth 100000 in
theorem kc_Mo_told (l : Launch) (D : va_G) (dA : Nat → ClassId) (Z : Nat) (a0 : Nat) (x1 : Int32) (σ : z_S) (Post : Int32 → z_S → Prop) : Met l km_Mo_told ks_Mo_told kr_Mo_told (va_Pc [.ref a0, .int x1] (fun U => z_U D z_cl z_KT dA Z (z_tys dA) z_nw σ U ∧ kp_Mo_told  a0 x1 σ Post)) (z_Qi D z_cl z_KT dA Z (z_tys dA) z_nw Post) 0 0 (fun q => Z ≤ q) := by
  refine Met.ofW (cc := prog_10_method_69_code) (maxL := 4) (ret := (some .int)) (by decide) rfl ?_
  intro p e s m args below meth c s₁ B hml hv
  obtain ⟨rfl, ⟨hZ, hG, hK, hN⟩, hw⟩ := hv
  have hx := B.exec
  have hb := B.bytes
  have hr := B.returns
  have hts := atoms_spec (ws := ks_Mo_told) B.pre
  have hown : s.vm.findClass kR_Mo = some m.cls := findClass_of_methodNamed B.named
  have hlocks := B.notSynchronized
  have hS : va_S (fun q => Z ≤ q) s.heap s.heap [] := va_S.rf
  have hl := lv_entry ([.ref a0, .int x1]) (n := 4) (Nat.le_of_ble_eq_true rfl)
  rw [lg_entry_eq]
  generalize (lg_sl ([.ref a0, .int x1]) ++ List.replicate (4 - (lg_sl ([.ref a0, .int x1])).length) Slot.unset).toArray = ls at hl ⊢
  have hl : lv_has ls 4 [(0, .ref a0), (1, .int x1)] := hl
  unfold kp_Mo_told at hw
  have hw := hw (fun (σ : z_S) => ∀ (H : Heap) (locs : List Loc) (ls : Array Slot), z_G D z_cl z_KT dA Z σ H → va_S (fun q => Z ≤ q) s.heap H locs → lv_has ls 4 [(0, .ref a0), (1, .int x1)] → W p l e (headSpec ks_Mo_told kr_Mo_told).room s m ([.ref a0, .int x1] : List Value).toArray below meth c H locs 0 0 (MQ below (z_Qi D z_cl z_KT dA Z (z_tys dA) z_nw Post) ([.ref a0, .int x1] : List Value).toArray s 0 0 (fun q => Z ≤ q)) (F0 m 24 ls []))
  have hw := hw (fun (v2 : Int32) (v3 : Int32) (σ : z_S) => ∀ (H : Heap) (locs : List Loc) (ls : Array Slot), z_G D z_cl z_KT dA Z σ H → va_S (fun q => Z ≤ q) s.heap H locs → lv_has ls 4 [(0, .ref a0), (1, .int x1), (2, .int v2), (3, .int v3)] → W p l e (headSpec ks_Mo_told kr_Mo_told).room s m ([.ref a0, .int x1] : List Value).toArray below meth c H locs 0 0 (MQ below (z_Qi D z_cl z_KT dA Z (z_tys dA) z_nw Post) ([.ref a0, .int x1] : List Value).toArray s 0 0 (fun q => Z ≤ q)) (F0 m 42 ls []))
  have hw := hw (by
    intro σ hw H locs ls hG hS hl
    refine lv_iload_n hx hb kb_Mo_told_24 rfl (lv_at hl 1 rfl) ?_
    refine lv_iconst (v := (2 : Int32)) hx hb kb_Mo_told_25 (by decide) ?_
    refine lv_icmp_ne (tgt := 36) hx hb kb_Mo_told_26 (by decide) (fun hc => ?_) (fun hc => ?_)
    · have hw := hw.1 hc
      refine lv_iconst (v := (0 : Int32)) hx hb kb_Mo_told_36 (by decide) ?_
      exact zr_iret (free := fun q => Z ≤ q) z_nwN hx hb hr rfl hZ hK hN hG hS hw kb_Mo_told_37 hlocks
    · have hw := hw.2 hc
      refine lv_aload_n hx hb kb_Mo_told_29 rfl (lv_at hl 0 rfl) ?_
      obtain ⟨hy, hw⟩ := hw
      refine zr_getI (ci := 8) (f := 831) hx hb hts ki_Mo hown hK hG hy rfl 31 (by decide) (hts _ (List.mem_cons_of_mem _ kw_615)) (fun _ h => h) rfl rfl kb_Mo_told_30 ?_
      refine lv_goto (tgt := 37) hx hb kb_Mo_told_33 (by decide) ?_
      exact zr_iret (free := fun q => Z ≤ q) z_nwN hx hb hr rfl hZ hK hN hG hS hw kb_Mo_told_37 hlocks)
  have hw := hw (by
    intro v2 v3 σ hw H locs ls hG hS hl
    refine lv_iload_n hx hb kb_Mo_told_42 rfl (lv_at hl 3 rfl) ?_
    refine lv_aload_n hx hb kb_Mo_told_43 rfl (lv_at hl 0 rfl) ?_
    obtain ⟨hy, hw⟩ := hw
    refine zr_getI (ci := 8) (f := 817) hx hb hts ki_Mo hown hK hG hy rfl 17 (by decide) (hts _ (List.mem_cons_of_mem _ kw_601)) (fun _ h => h) rfl rfl kb_Mo_told_44 ?_
    refine lv_icmp_ge (tgt := 77) hx hb kb_Mo_told_47 (by decide) (fun hc => ?_) (fun hc => ?_)
    · have hw := hw.1 hc
      refine lv_iload_n hx hb kb_Mo_told_77 rfl (lv_at hl 1 rfl) ?_
      refine lv_if_ne (tgt := 88) hx hb kb_Mo_told_78 (by decide) (fun hc => ?_) (fun hc => ?_)
      · have hw := hw.1 hc
        refine lv_iload_n hx hb kb_Mo_told_88 rfl (lv_at hl 1 rfl) ?_
        refine lv_iconst (v := (1 : Int32)) hx hb kb_Mo_told_89 (by decide) ?_
        refine lv_icmp_ne (tgt := 100) hx hb kb_Mo_told_90 (by decide) (fun hc => ?_) (fun hc => ?_)
        · have hw := hw.1 hc
          refine lv_iload_n hx hb kb_Mo_told_100 rfl (lv_at hl 1 rfl) ?_
          refine lv_iconst (v := (3 : Int32)) hx hb kb_Mo_told_101 (by decide) ?_
          refine lv_icmp_ne (tgt := 112) hx hb kb_Mo_told_102 (by decide) (fun hc => ?_) (fun hc => ?_)
          · have hw := hw.1 hc
            refine lv_iload_n hx hb kb_Mo_told_112 rfl (lv_at hl 1 rfl) ?_
            refine lv_iconst (v := (4 : Int32)) hx hb kb_Mo_told_113 (by decide) ?_
            refine lv_icmp_ne (tgt := 124) hx hb kb_Mo_told_114 (by decide) (fun hc => ?_) (fun hc => ?_)
            · have hw := hw.1 hc
              refine lv_iload_n hx hb kb_Mo_told_124 rfl (lv_at hl 2 rfl) ?_
              exact zr_iret (free := fun q => Z ≤ q) z_nwN hx hb hr rfl hZ hK hN hG hS hw kb_Mo_told_125 hlocks
            · have hw := hw.2 hc
              refine lv_aload_n hx hb kb_Mo_told_117 rfl (lv_at hl 0 rfl) ?_
              obtain ⟨hy, hw⟩ := hw
              refine zr_getI (ci := 8) (f := 834) hx hb hts ki_Mo hown hK hG hy rfl 34 (by decide) (hts _ (List.mem_cons_of_mem _ kw_618)) (fun _ h => h) rfl rfl kb_Mo_told_118 ?_
              refine lv_goto (tgt := 125) hx hb kb_Mo_told_121 (by decide) ?_
              exact zr_iret (free := fun q => Z ≤ q) z_nwN hx hb hr rfl hZ hK hN hG hS hw kb_Mo_told_125 hlocks
          · have hw := hw.2 hc
            refine lv_aload_n hx hb kb_Mo_told_105 rfl (lv_at hl 0 rfl) ?_
            obtain ⟨hy, hw⟩ := hw
            refine zr_getI (ci := 8) (f := 836) hx hb hts ki_Mo hown hK hG hy rfl 36 (by decide) (hts _ (List.mem_cons_of_mem _ kw_620)) (fun _ h => h) rfl rfl kb_Mo_told_106 ?_
            refine lv_goto (tgt := 125) hx hb kb_Mo_told_109 (by decide) ?_
            exact zr_iret (free := fun q => Z ≤ q) z_nwN hx hb hr rfl hZ hK hN hG hS hw kb_Mo_told_125 hlocks
        · have hw := hw.2 hc
          refine lv_aload_n hx hb kb_Mo_told_93 rfl (lv_at hl 0 rfl) ?_
          obtain ⟨hy, hw⟩ := hw
          refine zr_getI (ci := 8) (f := 817) hx hb hts ki_Mo hown hK hG hy rfl 17 (by decide) (hts _ (List.mem_cons_of_mem _ kw_601)) (fun _ h => h) rfl rfl kb_Mo_told_94 ?_
          refine lv_goto (tgt := 125) hx hb kb_Mo_told_97 (by decide) ?_
          exact zr_iret (free := fun q => Z ≤ q) z_nwN hx hb hr rfl hZ hK hN hG hS hw kb_Mo_told_125 hlocks
      · have hw := hw.2 hc
        refine lv_aload_n hx hb kb_Mo_told_81 rfl (lv_at hl 0 rfl) ?_
        obtain ⟨hy, hw⟩ := hw
        refine zr_getI (ci := 8) (f := 808) hx hb hts ki_Mo hown hK hG hy rfl 8 (by decide) (hts _ (List.mem_cons_of_mem _ kw_592)) (fun _ h => h) rfl rfl kb_Mo_told_82 ?_
        refine lv_goto (tgt := 125) hx hb kb_Mo_told_85 (by decide) ?_
        exact zr_iret (free := fun q => Z ≤ q) z_nwN hx hb hr rfl hZ hK hN hG hS hw kb_Mo_told_125 hlocks
    · have hw := hw.2 hc
      refine lv_aload_n hx hb kb_Mo_told_50 rfl (lv_at hl 0 rfl) ?_
      obtain ⟨hy, r51, hrf, hw⟩ := hw
      refine zr_getR (ci := 8) (f := 821) hx hb hts ki_Mo hown hK hG hy rfl 21 (by decide) (hts _ (List.mem_cons_of_mem _ kw_605)) (fun _ h => h) rfl rfl hrf kb_Mo_told_51 ?_
      refine lv_iload_n hx hb kb_Mo_told_54 rfl (lv_at hl 3 rfl) ?_
      obtain ⟨n55, s55, hy, hi, hw⟩ := hw
      refine zr_iald hx hb hK hG 0 hy rfl hi kb_Mo_told_55 ?_
      refine lv_iload_n hx hb kb_Mo_told_56 rfl (lv_at hl 2 rfl) ?_
      refine lv_icmp_le (tgt := 69) hx hb kb_Mo_told_57 (by decide) (fun hc => ?_) (fun hc => ?_)
      · have hw := hw.1 hc
        refine lv_iload_n hx hb kb_Mo_told_69 rfl (lv_at hl 2 rfl) ?_
        refine lv_istore_n (lv' := [(2, .int v2), (0, .ref a0), (1, .int x1), (3, .int v3)]) hx hb kb_Mo_told_70 rfl hl (by decide) rfl (fun ls hl => ?_)
        refine lv_iinc (v := v3 + (1 : Int32)) (lv' := [(3, .int (v3 + (1 : Int32))), (2, .int v2), (0, .ref a0), (1, .int x1)]) hx hb kb_Mo_told_71 hl (k := 3) rfl rfl (by decide) rfl (fun ls hl => ?_)
        refine lv_goto (tgt := 42) hx hb kb_Mo_told_74 (by decide) ?_
        exact hw _ _ _ hG hS (lv_sub hl [2, 3, 1, 0] rfl)
      · have hw := hw.2 hc
        refine lv_aload_n hx hb kb_Mo_told_60 rfl (lv_at hl 0 rfl) ?_
        obtain ⟨hy, r61, hrf, hw⟩ := hw
        refine zr_getR (ci := 8) (f := 821) hx hb hts ki_Mo hown hK hG hy rfl 21 (by decide) (hts _ (List.mem_cons_of_mem _ kw_605)) (fun _ h => h) rfl rfl hrf kb_Mo_told_61 ?_
        refine lv_iload_n hx hb kb_Mo_told_64 rfl (lv_at hl 3 rfl) ?_
        obtain ⟨n65, s65, hy, hi, hw⟩ := hw
        refine zr_iald hx hb hK hG 0 hy rfl hi kb_Mo_told_65 ?_
        refine lv_goto (tgt := 70) hx hb kb_Mo_told_66 (by decide) ?_
        refine lv_istore_n (lv' := [(2, .int (z_A σ s65 r61 v3.toNatClampNeg)), (0, .ref a0), (1, .int x1), (3, .int v3)]) hx hb kb_Mo_told_70 rfl hl (by decide) rfl (fun ls hl => ?_)
        refine lv_iinc (v := v3 + (1 : Int32)) (lv' := [(3, .int (v3 + (1 : Int32))), (2, .int (z_A σ s65 r61 v3.toNatClampNeg)), (0, .ref a0), (1, .int x1)]) hx hb kb_Mo_told_71 hl (k := 3) rfl rfl (by decide) rfl (fun ls hl => ?_)
        refine lv_goto (tgt := 42) hx hb kb_Mo_told_74 (by decide) ?_
        exact hw _ _ _ hG hS (lv_sub hl [2, 3, 1, 0] rfl))
  refine lv_iload_n hx hb kb_Mo_told_0 rfl (lv_at hl 1 rfl) ?_
  refine lv_iconst (v := (0 : Int32)) hx hb kb_Mo_told_1 (by decide) ?_
  refine lv_iconst (v := (5 : Int32)) hx hb kb_Mo_told_2 (by decide) ?_
  refine zr_ci (va_runS (As := [.int x1, .int ((0 : Int32)), .int ((5 : Int32))]) (rest := []) ⟨hx, hb, hml, hown, hts⟩ (kc_Mo_isIn l D dA Z x1 ((0 : Int32)) ((5 : Int32)) σ _) ⟨callB_of 3 hts (z_gw kw_693) rfl rfl rfl (hts _ (List.mem_cons_of_mem _ kw_9)) (hts _ (List.mem_cons_of_mem _ kw_691)) (by decide +kernel) ⟨Nat.le_of_ble_eq_true rfl, Nat.le_of_ble_eq_true rfl⟩, (hts _ (List.mem_cons_of_mem _ kw_692))⟩ (z_preS z_nwN (Nat.le_trans hZ hS.1) hG hK hN hw) rfl rfl hl.1 rfl (lv_room (Nat.le_of_ble_eq_true rfl)) kb_Mo_told_3 ⟨Nat.le_of_ble_eq_true rfl, Nat.le_of_ble_eq_true rfl⟩) hS (fun r3 σ3 H locs hw hG hS => ?_)
  refine lv_if_ne (tgt := 12) hx hb kb_Mo_told_6 (by decide) (fun hc => ?_) (fun hc => ?_)
  · have hw := hw.1 hc
    refine lv_iload_n hx hb kb_Mo_told_12 rfl (lv_at hl 1 rfl) ?_
    refine lv_iconst (v := (2 : Int32)) hx hb kb_Mo_told_13 (by decide) ?_
    refine lv_icmp_eq (tgt := 24) hx hb kb_Mo_told_14 (by decide) (fun hc => ?_) (fun hc => ?_)
    · have hw := hw.1 hc
      exact hw _ _ _ hG hS (lv_sub hl [0, 1] rfl)
    · have hw := hw.2 hc
      refine lv_aload_n hx hb kb_Mo_told_17 rfl (lv_at hl 0 rfl) ?_
      obtain ⟨hy, hw⟩ := hw
      refine zr_getI (ci := 8) (f := 808) hx hb hts ki_Mo hown hK hG hy rfl 8 (by decide) (hts _ (List.mem_cons_of_mem _ kw_592)) (fun _ h => h) rfl rfl kb_Mo_told_18 ?_
      refine lv_if_ne (tgt := 38) hx hb kb_Mo_told_21 (by decide) (fun hc => ?_) (fun hc => ?_)
      · have hw := hw.1 hc
        refine lv_iconst (v := (0 : Int32)) hx hb kb_Mo_told_38 (by decide) ?_
        refine lv_istore_n (lv' := [(2, .int ((0 : Int32))), (0, .ref a0), (1, .int x1)]) hx hb kb_Mo_told_39 rfl hl (by decide) rfl (fun ls hl => ?_)
        refine lv_iconst (v := (0 : Int32)) hx hb kb_Mo_told_40 (by decide) ?_
        refine lv_istore_n (lv' := [(3, .int ((0 : Int32))), (2, .int ((0 : Int32))), (0, .ref a0), (1, .int x1)]) hx hb kb_Mo_told_41 rfl hl (by decide) rfl (fun ls hl => ?_)
        exact hw _ _ _ hG hS (lv_sub hl [2, 3, 1, 0] rfl)
      · have hw := hw.2 hc
        exact hw _ _ _ hG hS (lv_sub hl [0, 1] rfl)
  · have hw := hw.2 hc
    refine lv_bipush (v := (-2 : Int32)) hx hb kb_Mo_told_9 (by decide) ?_
    exact zr_iret (free := fun q => Z ≤ q) z_nwN hx hb hr rfl hZ hK hN hG hS hw kb_Mo_told_11 hlocks
