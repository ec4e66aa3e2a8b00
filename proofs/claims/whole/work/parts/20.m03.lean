def kp_Mo_plainRule (a0 : Nat) (x1 : Int32) (σ : z_S) (Post : Int32 → z_S → Prop) : Prop := ∀ (X10 : z_S → Prop) (X64 : Int32 → Int32 → Int32 → Int32 → Int32 → z_S → Prop) (X208 : Int32 → z_S → Prop),
    (∀ (σ : z_S), (z_ty σ a0 = some (.inl 8) ∧ kp_Mo_next a0 σ (fun (r11 : Int32) (σ11 : z_S) => (r11 = 0 → X208 ((0 : Int32)) σ11) ∧ (¬ r11 = 0 → z_ty σ11 a0 = some (.inl 8) ∧ kp_Mo_headValue a0 ((0 : Int32)) σ11 (fun (r19 : Int32) (σ19 : z_S) => z_ty σ19 a0 = some (.inl 8) ∧ kp_Mo_headValue a0 ((1 : Int32)) σ19 (fun (r25 : Int32) (σ25 : z_S) => z_ty σ25 a0 = some (.inl 8) ∧ kp_Mo_headValue a0 ((2 : Int32)) σ25 (fun (r31 : Int32) (σ31 : z_S) => z_ty σ31 a0 = some (.inl 8) ∧ ∃ r38, z_R σ31 809 a0 = some r38 ∧ (∃ n42 s42, z_ty σ31 r38 = some (.inr (0, n42, s42)) ∧ vp_in x1 n42 ∧ (z_ty σ31 a0 = some (.inl 8) ∧ kp_Mo_find a0 (z_A σ31 s42 r38 x1.toNatClampNeg) r19 r25 r31 σ31 (fun (r47 : Int32) (σ47 : z_S) => (r47 = ((-1 : Int32)) → X64 r19 r25 r31 ((0 : Int32)) ((0 : Int32)) σ47) ∧ (¬ r47 = ((-1 : Int32)) → X64 r19 r25 r31 ((1 : Int32)) ((0 : Int32)) σ47)))))))))) → X10 σ) →
    (∀ (v2 : Int32) (v3 : Int32) (v4 : Int32) (v5 : Int32) (v6 : Int32) (σ : z_S), (z_ty σ a0 = some (.inl 8) ∧ (((z_I σ 845 a0) ≤ v6 → (¬ v5 = 0 → X10 σ) ∧ (v5 = 0 → z_ty σ a0 = some (.inl 8) ∧ ((¬ (z_I σ 845 a0) = ((40 : Int32)) → z_ty σ a0 = some (.inl 8) ∧ ∃ r153, z_R σ 843 a0 = some r153 ∧ (z_ty σ a0 = some (.inl 8) ∧ (∃ n163 s163, z_ty σ r153 = some (.inr (0, n163, s163)) ∧ vp_in (((3 : Int32)) * (z_I σ 845 a0)) n163 ∧ ∀ σ163, σ163 = z_sA σ s163 r153 (upd (z_A σ s163 r153) (((3 : Int32)) * (z_I σ 845 a0)).toNatClampNeg v2) → z_ty σ163 a0 = some (.inl 8) ∧ ∃ r165, z_R σ163 843 a0 = some r165 ∧ (z_ty σ163 a0 = some (.inl 8) ∧ (∃ n177 s177, z_ty σ163 r165 = some (.inr (0, n177, s177)) ∧ vp_in ((((3 : Int32)) * (z_I σ163 845 a0)) + ((1 : Int32))) n177 ∧ ∀ σ177, σ177 = z_sA σ163 s177 r165 (upd (z_A σ163 s177 r165) ((((3 : Int32)) * (z_I σ163 845 a0)) + ((1 : Int32))).toNatClampNeg v3) → z_ty σ177 a0 = some (.inl 8) ∧ ∃ r179, z_R σ177 843 a0 = some r179 ∧ (z_ty σ177 a0 = some (.inl 8) ∧ (∃ n192 s192, z_ty σ177 r179 = some (.inr (0, n192, s192)) ∧ vp_in ((((3 : Int32)) * (z_I σ177 845 a0)) + ((2 : Int32))) n192 ∧ ∀ σ192, σ192 = z_sA σ177 s192 r179 (upd (z_A σ177 s192 r179) ((((3 : Int32)) * (z_I σ177 845 a0)) + ((2 : Int32))).toNatClampNeg v4) → z_ty σ192 a0 = some (.inl 8) ∧ (z_ty σ192 a0 = some (.inl 8) ∧ ∀ σ200, σ200 = z_sI σ192 845 a0 ((z_I σ192 845 a0) + ((1 : Int32))) → X10 σ200)))))))) ∧ ((z_I σ 845 a0) = ((40 : Int32)) → Post ((-3 : Int32)) σ)))) ∧ (¬ (z_I σ 845 a0) ≤ v6 → (¬ v5 = 0 → X64 v2 v3 v4 ((1 : Int32)) (v6 + (1 : Int32)) σ) ∧ (v5 = 0 → z_ty σ a0 = some (.inl 8) ∧ ∃ r79, z_R σ 843 a0 = some r79 ∧ (∃ n86 s86, z_ty σ r79 = some (.inr (0, n86, s86)) ∧ vp_in (((3 : Int32)) * v6) n86 ∧ ((¬ (z_A σ s86 r79 (((3 : Int32)) * v6).toNatClampNeg) = v2 → X64 v2 v3 v4 ((0 : Int32)) (v6 + (1 : Int32)) σ) ∧ ((z_A σ s86 r79 (((3 : Int32)) * v6).toNatClampNeg) = v2 → z_ty σ a0 = some (.inl 8) ∧ ∃ r92, z_R σ 843 a0 = some r92 ∧ (∃ n101 s101, z_ty σ r92 = some (.inr (0, n101, s101)) ∧ vp_in ((((3 : Int32)) * v6) + ((1 : Int32))) n101 ∧ ((¬ (z_A σ s101 r92 ((((3 : Int32)) * v6) + ((1 : Int32))).toNatClampNeg) = v3 → X64 v2 v3 v4 ((0 : Int32)) (v6 + (1 : Int32)) σ) ∧ ((z_A σ s101 r92 ((((3 : Int32)) * v6) + ((1 : Int32))).toNatClampNeg) = v3 → z_ty σ a0 = some (.inl 8) ∧ ∃ r107, z_R σ 843 a0 = some r107 ∧ (∃ n116 s116, z_ty σ r107 = some (.inr (0, n116, s116)) ∧ vp_in ((((3 : Int32)) * v6) + ((2 : Int32))) n116 ∧ ((¬ (z_A σ s116 r107 ((((3 : Int32)) * v6) + ((2 : Int32))).toNatClampNeg) = v4 → X64 v2 v3 v4 ((0 : Int32)) (v6 + (1 : Int32)) σ) ∧ ((z_A σ s116 r107 ((((3 : Int32)) * v6) + ((2 : Int32))).toNatClampNeg) = v4 → X64 v2 v3 v4 ((1 : Int32)) (v6 + (1 : Int32)) σ))))))))))))) → X64 v2 v3 v4 v5 v6 σ) →
    (∀ (v2 : Int32) (σ : z_S), (z_ty σ a0 = some (.inl 8) ∧ (((z_I σ 845 a0) ≤ v2 → z_ty σ a0 = some (.inl 8) ∧ ((((z_I σ 845 a0)) ≤ 0 → Post ((0 : Int32)) σ) ∧ (¬ ((z_I σ 845 a0)) ≤ 0 → Post ((1 : Int32)) σ))) ∧ (¬ (z_I σ 845 a0) ≤ v2 → z_ty σ a0 = some (.inl 8) ∧ ∃ r218, z_R σ 809 a0 = some r218 ∧ (∃ n222 s222, z_ty σ r218 = some (.inr (0, n222, s222)) ∧ vp_in x1 n222 ∧ (z_ty σ a0 = some (.inl 8) ∧ ∃ r224, z_R σ 843 a0 = some r224 ∧ (∃ n230 s230, z_ty σ r224 = some (.inr (0, n230, s230)) ∧ vp_in (((3 : Int32)) * v2) n230 ∧ (z_ty σ a0 = some (.inl 8) ∧ ∃ r232, z_R σ 843 a0 = some r232 ∧ (∃ n240 s240, z_ty σ r232 = some (.inr (0, n240, s240)) ∧ vp_in ((((3 : Int32)) * v2) + ((1 : Int32))) n240 ∧ (z_ty σ a0 = some (.inl 8) ∧ ∃ r242, z_R σ 843 a0 = some r242 ∧ (∃ n250 s250, z_ty σ r242 = some (.inr (0, n250, s250)) ∧ vp_in ((((3 : Int32)) * v2) + ((2 : Int32))) n250 ∧ (z_ty σ a0 = some (.inl 8) ∧ kp_Mo_insert a0 (z_A σ s222 r218 x1.toNatClampNeg) (z_A σ s230 r224 (((3 : Int32)) * v2).toNatClampNeg) (z_A σ s240 r232 ((((3 : Int32)) * v2) + ((1 : Int32))).toNatClampNeg) (z_A σ s250 r242 ((((3 : Int32)) * v2) + ((2 : Int32))).toNatClampNeg) ((1 : Int32)) σ (fun (r252 : Int32) (σ252 : z_S) => (¬ r252 = 0 → X208 (v2 + (1 : Int32)) σ252) ∧ (r252 = 0 → Post ((-3 : Int32)) σ252))))))))))))) → X208 v2 σ) →
    (z_ty σ a0 = some (.inl 8) ∧ ∀ σ2, σ2 = z_sI σ 845 a0 ((0 : Int32)) → z_ty σ2 a0 = some (.inl 8) ∧ kp_Mo_begin a0 x1 σ2 (fun (σ7 : z_S) => X10 σ7))
set_option maxHeartbeats 4000000 in
set_option maxRecDepth 100000 in
theorem kc_Mo_plainRule (l : Launch) (D : va_G) (dA : Nat → ClassId) (Z : Nat) (a0 : Nat) (x1 : Int32) (σ : z_S) (Post : Int32 → z_S → Prop) : Met l km_Mo_plainRule ks_Mo_plainRule kr_Mo_plainRule (va_Pc [.ref a0, .int x1] (fun U => z_U D z_cl z_KT dA Z (z_tys dA) z_nw σ U ∧ kp_Mo_plainRule  a0 x1 σ Post)) (z_Qi D z_cl z_KT dA Z (z_tys dA) z_nw Post) 0 0 (fun q => Z ≤ q) := by
  refine Met.ofW (cc := prog_10_method_36_code) (maxL := 7) (ret := (some .int)) (by decide) rfl ?_
  intro p e s m args below meth c s₁ B hml hv
  obtain ⟨rfl, ⟨hZ, hG, hK, hN⟩, hw⟩ := hv
  have hx := B.exec
  have hb := B.bytes
  have hr := B.returns
  have hts := atoms_spec (ws := ks_Mo_plainRule) B.pre
  have hown : s.vm.findClass kR_Mo = some m.cls := findClass_of_methodNamed B.named
  have hlocks := B.notSynchronized
  have hS : va_S (fun q => Z ≤ q) s.heap s.heap [] := va_S.rf
  have hl := lv_entry ([.ref a0, .int x1]) (n := 7) (Nat.le_of_ble_eq_true rfl)
  rw [lg_entry_eq]
  generalize (lg_sl ([.ref a0, .int x1]) ++ List.replicate (7 - (lg_sl ([.ref a0, .int x1])).length) Slot.unset).toArray = ls at hl ⊢
  have hl : lv_has ls 7 [(0, .ref a0), (1, .int x1)] := hl
  unfold kp_Mo_plainRule at hw
  have hw := hw (fun (σ : z_S) => ∀ (H : Heap) (locs : List Loc) (ls : Array Slot), z_G D z_cl z_KT dA Z σ H → va_S (fun q => Z ≤ q) s.heap H locs → lv_has ls 7 [(0, .ref a0), (1, .int x1)] → W p l e (headSpec ks_Mo_plainRule kr_Mo_plainRule).room s m ([.ref a0, .int x1] : List Value).toArray below meth c H locs 0 0 (MQ below (z_Qi D z_cl z_KT dA Z (z_tys dA) z_nw Post) ([.ref a0, .int x1] : List Value).toArray s 0 0 (fun q => Z ≤ q)) (F0 m 10 ls []))
  have hw := hw (fun (v2 : Int32) (v3 : Int32) (v4 : Int32) (v5 : Int32) (v6 : Int32) (σ : z_S) => ∀ (H : Heap) (locs : List Loc) (ls : Array Slot), z_G D z_cl z_KT dA Z σ H → va_S (fun q => Z ≤ q) s.heap H locs → lv_has ls 7 [(0, .ref a0), (1, .int x1), (2, .int v2), (3, .int v3), (4, .int v4), (5, .int v5), (6, .int v6)] → W p l e (headSpec ks_Mo_plainRule kr_Mo_plainRule).room s m ([.ref a0, .int x1] : List Value).toArray below meth c H locs 0 0 (MQ below (z_Qi D z_cl z_KT dA Z (z_tys dA) z_nw Post) ([.ref a0, .int x1] : List Value).toArray s 0 0 (fun q => Z ≤ q)) (F0 m 64 ls []))
  have hw := hw (fun (v2 : Int32) (σ : z_S) => ∀ (H : Heap) (locs : List Loc) (ls : Array Slot), z_G D z_cl z_KT dA Z σ H → va_S (fun q => Z ≤ q) s.heap H locs → lv_has ls 7 [(0, .ref a0), (1, .int x1), (2, .int v2)] → W p l e (headSpec ks_Mo_plainRule kr_Mo_plainRule).room s m ([.ref a0, .int x1] : List Value).toArray below meth c H locs 0 0 (MQ below (z_Qi D z_cl z_KT dA Z (z_tys dA) z_nw Post) ([.ref a0, .int x1] : List Value).toArray s 0 0 (fun q => Z ≤ q)) (F0 m 208 ls []))
  have hw := hw (by
    intro σ hw H locs ls hG hS hl
    refine lv_aload_n hx hb kb_Mo_plainRule_10 rfl (lv_at hl 0 rfl) ?_
    obtain ⟨hy, hw⟩ := hw
    refine zr_ci (va_runV (C := kR_Mo) (As := []) (rest := []) ⟨hx, hb, hml, hown, hts⟩ (kc_Mo_next l D dA Z a0 σ _) ⟨callB_of 0 hts (z_gw kw_775) rfl rfl rfl (hts _ (List.mem_cons_of_mem _ kw_9)) (hts _ (List.mem_cons_of_mem _ kw_773)) (by decide +kernel) ⟨Nat.le_of_ble_eq_true rfl, Nat.le_of_ble_eq_true rfl⟩, (hts _ (List.mem_cons_of_mem _ kw_774)), (hts _ (List.mem_cons_of_mem _ kw_972))⟩ (z_preV z_nwN (Nat.le_trans hZ hS.1) hG hK hN hy (ci := 8) (r := (kR_Mo, kT_Mo, 51)) rfl hw) rfl rfl hl.1 rfl (lv_room (Nat.le_of_ble_eq_true rfl)) kb_Mo_plainRule_11 ⟨Nat.le_of_ble_eq_true rfl, Nat.le_of_ble_eq_true rfl⟩) hS (fun r11 σ11 H locs hw hG hS => ?_)
    refine lv_if_eq (tgt := 206) hx hb kb_Mo_plainRule_14 (by decide) (fun hc => ?_) (fun hc => ?_)
    · have hw := hw.1 hc
      refine lv_iconst (v := (0 : Int32)) hx hb kb_Mo_plainRule_206 (by decide) ?_
      refine lv_istore_n (lv' := [(2, .int ((0 : Int32))), (0, .ref a0), (1, .int x1)]) hx hb kb_Mo_plainRule_207 rfl hl (by decide) rfl (fun ls hl => ?_)
      exact hw _ _ _ hG hS (lv_sub hl [1, 2, 0] rfl)
    · have hw := hw.2 hc
      refine lv_aload_n hx hb kb_Mo_plainRule_17 rfl (lv_at hl 0 rfl) ?_
      refine lv_iconst (v := (0 : Int32)) hx hb kb_Mo_plainRule_18 (by decide) ?_
      obtain ⟨hy, hw⟩ := hw
      refine zr_ci (va_runV (C := kR_Mo) (As := [.int ((0 : Int32))]) (rest := []) ⟨hx, hb, hml, hown, hts⟩ (kc_Mo_headValue l D dA Z a0 ((0 : Int32)) σ11 _) ⟨callB_of 1 hts (z_gw kw_796) rfl rfl rfl (hts _ (List.mem_cons_of_mem _ kw_9)) (hts _ (List.mem_cons_of_mem _ kw_794)) (by decide +kernel) ⟨Nat.le_of_ble_eq_true rfl, Nat.le_of_ble_eq_true rfl⟩, (hts _ (List.mem_cons_of_mem _ kw_795)), (hts _ (List.mem_cons_of_mem _ kw_979))⟩ (z_preV z_nwN (Nat.le_trans hZ hS.1) hG hK hN hy (ci := 8) (r := (kR_Mo, kT_Mo, 51)) rfl hw) rfl rfl hl.1 rfl (lv_room (Nat.le_of_ble_eq_true rfl)) kb_Mo_plainRule_19 ⟨Nat.le_of_ble_eq_true rfl, Nat.le_of_ble_eq_true rfl⟩) hS (fun r19 σ19 H locs hw hG hS => ?_)
      refine lv_istore_n (lv' := [(2, .int r19), (0, .ref a0), (1, .int x1)]) hx hb kb_Mo_plainRule_22 rfl hl (by decide) rfl (fun ls hl => ?_)
      refine lv_aload_n hx hb kb_Mo_plainRule_23 rfl (lv_at hl 1 rfl) ?_
      refine lv_iconst (v := (1 : Int32)) hx hb kb_Mo_plainRule_24 (by decide) ?_
      obtain ⟨hy, hw⟩ := hw
      refine zr_ci (va_runV (C := kR_Mo) (As := [.int ((1 : Int32))]) (rest := []) ⟨hx, hb, hml, hown, hts⟩ (kc_Mo_headValue l D dA Z a0 ((1 : Int32)) σ19 _) ⟨callB_of 1 hts (z_gw kw_796) rfl rfl rfl (hts _ (List.mem_cons_of_mem _ kw_9)) (hts _ (List.mem_cons_of_mem _ kw_794)) (by decide +kernel) ⟨Nat.le_of_ble_eq_true rfl, Nat.le_of_ble_eq_true rfl⟩, (hts _ (List.mem_cons_of_mem _ kw_795)), (hts _ (List.mem_cons_of_mem _ kw_979))⟩ (z_preV z_nwN (Nat.le_trans hZ hS.1) hG hK hN hy (ci := 8) (r := (kR_Mo, kT_Mo, 51)) rfl hw) rfl rfl hl.1 rfl (lv_room (Nat.le_of_ble_eq_true rfl)) kb_Mo_plainRule_25 ⟨Nat.le_of_ble_eq_true rfl, Nat.le_of_ble_eq_true rfl⟩) hS (fun r25 σ25 H locs hw hG hS => ?_)
      refine lv_istore_n (lv' := [(3, .int r25), (2, .int r19), (0, .ref a0), (1, .int x1)]) hx hb kb_Mo_plainRule_28 rfl hl (by decide) rfl (fun ls hl => ?_)
      refine lv_aload_n hx hb kb_Mo_plainRule_29 rfl (lv_at hl 2 rfl) ?_
      refine lv_iconst (v := (2 : Int32)) hx hb kb_Mo_plainRule_30 (by decide) ?_
      obtain ⟨hy, hw⟩ := hw
      refine zr_ci (va_runV (C := kR_Mo) (As := [.int ((2 : Int32))]) (rest := []) ⟨hx, hb, hml, hown, hts⟩ (kc_Mo_headValue l D dA Z a0 ((2 : Int32)) σ25 _) ⟨callB_of 1 hts (z_gw kw_796) rfl rfl rfl (hts _ (List.mem_cons_of_mem _ kw_9)) (hts _ (List.mem_cons_of_mem _ kw_794)) (by decide +kernel) ⟨Nat.le_of_ble_eq_true rfl, Nat.le_of_ble_eq_true rfl⟩, (hts _ (List.mem_cons_of_mem _ kw_795)), (hts _ (List.mem_cons_of_mem _ kw_979))⟩ (z_preV z_nwN (Nat.le_trans hZ hS.1) hG hK hN hy (ci := 8) (r := (kR_Mo, kT_Mo, 51)) rfl hw) rfl rfl hl.1 rfl (lv_room (Nat.le_of_ble_eq_true rfl)) kb_Mo_plainRule_31 ⟨Nat.le_of_ble_eq_true rfl, Nat.le_of_ble_eq_true rfl⟩) hS (fun r31 σ31 H locs hw hG hS => ?_)
      refine lv_istore (lv' := [(4, .int r31), (3, .int r25), (2, .int r19), (0, .ref a0), (1, .int x1)]) hx hb kb_Mo_plainRule_34 hl (by decide) rfl (fun ls hl => ?_)
      refine lv_aload_n hx hb kb_Mo_plainRule_36 rfl (lv_at hl 3 rfl) ?_
      refine lv_aload_n hx hb kb_Mo_plainRule_37 rfl (lv_at hl 3 rfl) ?_
      obtain ⟨hy, r38, hrf, hw⟩ := hw
      refine zr_getR (ci := 8) (f := 809) hx hb hts ki_Mo hown hK hG hy rfl 9 (by decide) (hts _ (List.mem_cons_of_mem _ kw_593)) (fun _ h => h) rfl rfl hrf kb_Mo_plainRule_38 ?_
      refine lv_iload_n hx hb kb_Mo_plainRule_41 rfl (lv_at hl 4 rfl) ?_
      obtain ⟨n42, s42, hy, hi, hw⟩ := hw
      refine zr_iald hx hb hK hG 0 hy rfl hi kb_Mo_plainRule_42 ?_
      refine lv_iload_n hx hb kb_Mo_plainRule_43 rfl (lv_at hl 2 rfl) ?_
      refine lv_iload_n hx hb kb_Mo_plainRule_44 rfl (lv_at hl 1 rfl) ?_
      refine lv_iload hx hb kb_Mo_plainRule_45 (lv_at hl 0 rfl) ?_
      obtain ⟨hy, hw⟩ := hw
      refine zr_ci (va_runV (C := kR_Mo) (As := [.int (z_A σ31 s42 r38 x1.toNatClampNeg), .int r19, .int r25, .int r31]) (rest := []) ⟨hx, hb, hml, hown, hts⟩ (kc_Mo_find l D dA Z a0 (z_A σ31 s42 r38 x1.toNatClampNeg) r19 r25 r31 σ31 _) ⟨callB_of 4 hts (z_gw kw_784) rfl rfl rfl (hts _ (List.mem_cons_of_mem _ kw_9)) (hts _ (List.mem_cons_of_mem _ kw_782)) (by decide +kernel) ⟨Nat.le_of_ble_eq_true rfl, Nat.le_of_ble_eq_true rfl⟩, (hts _ (List.mem_cons_of_mem _ kw_783)), (hts _ (List.mem_cons_of_mem _ kw_975))⟩ (z_preV z_nwN (Nat.le_trans hZ hS.1) hG hK hN hy (ci := 8) (r := (kR_Mo, kT_Mo, 51)) rfl hw) rfl rfl hl.1 rfl (lv_room (Nat.le_of_ble_eq_true rfl)) kb_Mo_plainRule_47 ⟨Nat.le_of_ble_eq_true rfl, Nat.le_of_ble_eq_true rfl⟩) hS (fun r47 σ47 H locs hw hG hS => ?_)
      refine lv_iconst (v := (-1 : Int32)) hx hb kb_Mo_plainRule_50 (by decide) ?_
      refine lv_icmp_eq (tgt := 58) hx hb kb_Mo_plainRule_51 (by decide) (fun hc => ?_) (fun hc => ?_)
      · have hw := hw.1 hc
        refine lv_iconst (v := (0 : Int32)) hx hb kb_Mo_plainRule_58 (by decide) ?_
        refine lv_istore (lv' := [(5, .int ((0 : Int32))), (4, .int r31), (3, .int r25), (2, .int r19), (0, .ref a0), (1, .int x1)]) hx hb kb_Mo_plainRule_59 hl (by decide) rfl (fun ls hl => ?_)
        refine lv_iconst (v := (0 : Int32)) hx hb kb_Mo_plainRule_61 (by decide) ?_
        refine lv_istore (lv' := [(6, .int ((0 : Int32))), (5, .int ((0 : Int32))), (4, .int r31), (3, .int r25), (2, .int r19), (0, .ref a0), (1, .int x1)]) hx hb kb_Mo_plainRule_62 hl (by decide) rfl (fun ls hl => ?_)
        exact hw _ _ _ hG hS (lv_sub hl [5, 6, 4, 3, 2, 1, 0] rfl)
      · have hw := hw.2 hc
        refine lv_iconst (v := (1 : Int32)) hx hb kb_Mo_plainRule_54 (by decide) ?_
        refine lv_goto (tgt := 59) hx hb kb_Mo_plainRule_55 (by decide) ?_
        refine lv_istore (lv' := [(5, .int ((1 : Int32))), (4, .int r31), (3, .int r25), (2, .int r19), (0, .ref a0), (1, .int x1)]) hx hb kb_Mo_plainRule_59 hl (by decide) rfl (fun ls hl => ?_)
        refine lv_iconst (v := (0 : Int32)) hx hb kb_Mo_plainRule_61 (by decide) ?_
        refine lv_istore (lv' := [(6, .int ((0 : Int32))), (5, .int ((1 : Int32))), (4, .int r31), (3, .int r25), (2, .int r19), (0, .ref a0), (1, .int x1)]) hx hb kb_Mo_plainRule_62 hl (by decide) rfl (fun ls hl => ?_)
        exact hw _ _ _ hG hS (lv_sub hl [5, 6, 4, 3, 2, 1, 0] rfl))
  have hw := hw (by
    intro v2 v3 v4 v5 v6 σ hw H locs ls hG hS hl
    refine lv_iload hx hb kb_Mo_plainRule_64 (lv_at hl 6 rfl) ?_
    refine lv_aload_n hx hb kb_Mo_plainRule_66 rfl (lv_at hl 0 rfl) ?_
    obtain ⟨hy, hw⟩ := hw
    refine zr_getI (ci := 8) (f := 845) hx hb hts ki_Mo hown hK hG hy rfl 45 (by decide) (hts _ (List.mem_cons_of_mem _ kw_629)) (fun _ h => h) rfl rfl kb_Mo_plainRule_67 ?_
    refine lv_icmp_ge (tgt := 135) hx hb kb_Mo_plainRule_70 (by decide) (fun hc => ?_) (fun hc => ?_)
    · have hw := hw.1 hc
      refine lv_iload hx hb kb_Mo_plainRule_135 (lv_at hl 5 rfl) ?_
      refine lv_if_ne (tgt := 203) hx hb kb_Mo_plainRule_137 (by decide) (fun hc => ?_) (fun hc => ?_)
      · have hw := hw.1 hc
        refine lv_goto (tgt := 10) hx hb kb_Mo_plainRule_203 (by decide) ?_
        exact hw _ _ _ hG hS (lv_sub hl [0, 1] rfl)
      · have hw := hw.2 hc
        refine lv_aload_n hx hb kb_Mo_plainRule_140 rfl (lv_at hl 0 rfl) ?_
        obtain ⟨hy, hw⟩ := hw
        refine zr_getI (ci := 8) (f := 845) hx hb hts ki_Mo hown hK hG hy rfl 45 (by decide) (hts _ (List.mem_cons_of_mem _ kw_629)) (fun _ h => h) rfl rfl kb_Mo_plainRule_141 ?_
        refine lv_bipush (v := (40 : Int32)) hx hb kb_Mo_plainRule_144 (by decide) ?_
        refine lv_icmp_ne (tgt := 152) hx hb kb_Mo_plainRule_146 (by decide) (fun hc => ?_) (fun hc => ?_)
        · have hw := hw.1 hc
          refine lv_aload_n hx hb kb_Mo_plainRule_152 rfl (lv_at hl 0 rfl) ?_
          obtain ⟨hy, r153, hrf, hw⟩ := hw
          refine zr_getR (ci := 8) (f := 843) hx hb hts ki_Mo hown hK hG hy rfl 43 (by decide) (hts _ (List.mem_cons_of_mem _ kw_627)) (fun _ h => h) rfl rfl hrf kb_Mo_plainRule_153 ?_
          refine lv_iconst (v := (3 : Int32)) hx hb kb_Mo_plainRule_156 (by decide) ?_
          refine lv_aload_n hx hb kb_Mo_plainRule_157 rfl (lv_at hl 0 rfl) ?_
          obtain ⟨hy, hw⟩ := hw
          refine zr_getI (ci := 8) (f := 845) hx hb hts ki_Mo hown hK hG hy rfl 45 (by decide) (hts _ (List.mem_cons_of_mem _ kw_629)) (fun _ h => h) rfl rfl kb_Mo_plainRule_158 ?_
          refine lv_imul hx hb kb_Mo_plainRule_161 ?_
          refine lv_iload_n hx hb kb_Mo_plainRule_162 rfl (lv_at hl 2 rfl) ?_
          obtain ⟨n163, s163, hy, hi, hw⟩ := hw
          refine zr_iast hx hb hK hG hS 0 hy rfl hi kb_Mo_plainRule_163 (fun H locs hG hS => ?_)
          obtain ⟨σ163, e163⟩ : ∃ z, z = z_sA σ s163 r153 (upd (z_A σ s163 r153) (((3 : Int32)) * (z_I σ 845 a0)).toNatClampNeg v2) := ⟨_, rfl⟩
          rw [← e163] at hG
          have hw := hw _ e163
          refine lv_aload_n hx hb kb_Mo_plainRule_164 rfl (lv_at hl 0 rfl) ?_
          obtain ⟨hy, r165, hrf, hw⟩ := hw
          refine zr_getR (ci := 8) (f := 843) hx hb hts ki_Mo hown hK hG hy rfl 43 (by decide) (hts _ (List.mem_cons_of_mem _ kw_627)) (fun _ h => h) rfl rfl hrf kb_Mo_plainRule_165 ?_
          refine lv_iconst (v := (3 : Int32)) hx hb kb_Mo_plainRule_168 (by decide) ?_
          refine lv_aload_n hx hb kb_Mo_plainRule_169 rfl (lv_at hl 0 rfl) ?_
          obtain ⟨hy, hw⟩ := hw
          refine zr_getI (ci := 8) (f := 845) hx hb hts ki_Mo hown hK hG hy rfl 45 (by decide) (hts _ (List.mem_cons_of_mem _ kw_629)) (fun _ h => h) rfl rfl kb_Mo_plainRule_170 ?_
          refine lv_imul hx hb kb_Mo_plainRule_173 ?_
          refine lv_iconst (v := (1 : Int32)) hx hb kb_Mo_plainRule_174 (by decide) ?_
          refine lv_iadd hx hb kb_Mo_plainRule_175 ?_
          refine lv_iload_n hx hb kb_Mo_plainRule_176 rfl (lv_at hl 3 rfl) ?_
          obtain ⟨n177, s177, hy, hi, hw⟩ := hw
          refine zr_iast hx hb hK hG hS 0 hy rfl hi kb_Mo_plainRule_177 (fun H locs hG hS => ?_)
          obtain ⟨σ177, e177⟩ : ∃ z, z = z_sA σ163 s177 r165 (upd (z_A σ163 s177 r165) ((((3 : Int32)) * (z_I σ163 845 a0)) + ((1 : Int32))).toNatClampNeg v3) := ⟨_, rfl⟩
          rw [← e177] at hG
          have hw := hw _ e177
          refine lv_aload_n hx hb kb_Mo_plainRule_178 rfl (lv_at hl 0 rfl) ?_
          obtain ⟨hy, r179, hrf, hw⟩ := hw
          refine zr_getR (ci := 8) (f := 843) hx hb hts ki_Mo hown hK hG hy rfl 43 (by decide) (hts _ (List.mem_cons_of_mem _ kw_627)) (fun _ h => h) rfl rfl hrf kb_Mo_plainRule_179 ?_
          refine lv_iconst (v := (3 : Int32)) hx hb kb_Mo_plainRule_182 (by decide) ?_
          refine lv_aload_n hx hb kb_Mo_plainRule_183 rfl (lv_at hl 0 rfl) ?_
          obtain ⟨hy, hw⟩ := hw
          refine zr_getI (ci := 8) (f := 845) hx hb hts ki_Mo hown hK hG hy rfl 45 (by decide) (hts _ (List.mem_cons_of_mem _ kw_629)) (fun _ h => h) rfl rfl kb_Mo_plainRule_184 ?_
          refine lv_imul hx hb kb_Mo_plainRule_187 ?_
          refine lv_iconst (v := (2 : Int32)) hx hb kb_Mo_plainRule_188 (by decide) ?_
          refine lv_iadd hx hb kb_Mo_plainRule_189 ?_
          refine lv_iload hx hb kb_Mo_plainRule_190 (lv_at hl 4 rfl) ?_
          obtain ⟨n192, s192, hy, hi, hw⟩ := hw
          refine zr_iast hx hb hK hG hS 0 hy rfl hi kb_Mo_plainRule_192 (fun H locs hG hS => ?_)
          obtain ⟨σ192, e192⟩ : ∃ z, z = z_sA σ177 s192 r179 (upd (z_A σ177 s192 r179) ((((3 : Int32)) * (z_I σ177 845 a0)) + ((2 : Int32))).toNatClampNeg v4) := ⟨_, rfl⟩
          rw [← e192] at hG
          have hw := hw _ e192
          refine lv_aload_n hx hb kb_Mo_plainRule_193 rfl (lv_at hl 0 rfl) ?_
          refine lv_dup hx hb kb_Mo_plainRule_194 rfl ?_
          obtain ⟨hy, hw⟩ := hw
          refine zr_getI (ci := 8) (f := 845) hx hb hts ki_Mo hown hK hG hy rfl 45 (by decide) (hts _ (List.mem_cons_of_mem _ kw_629)) (fun _ h => h) rfl rfl kb_Mo_plainRule_195 ?_
          refine lv_iconst (v := (1 : Int32)) hx hb kb_Mo_plainRule_198 (by decide) ?_
          refine lv_iadd hx hb kb_Mo_plainRule_199 ?_
          obtain ⟨hy, hw⟩ := hw
          refine zr_putI (ci := 8) (f := 845) hx hb hts ki_Mo ky_Mo kyo_Mo kn_Mo hown hK hG hS hy rfl 45 (by decide) (hts _ (List.mem_cons_of_mem _ kw_629)) (fun _ h => h) rfl rfl rfl rfl rfl kb_Mo_plainRule_200 (fun H locs hG hS => ?_)
          obtain ⟨σ200, e200⟩ : ∃ z, z = z_sI σ192 845 a0 ((z_I σ192 845 a0) + ((1 : Int32))) := ⟨_, rfl⟩
          rw [← e200] at hG
          have hw := hw _ e200
          refine lv_goto (tgt := 10) hx hb kb_Mo_plainRule_203 (by decide) ?_
          exact hw _ _ _ hG hS (lv_sub hl [0, 1] rfl)
        · have hw := hw.2 hc
          refine lv_bipush (v := (-3 : Int32)) hx hb kb_Mo_plainRule_149 (by decide) ?_
          exact zr_iret (free := fun q => Z ≤ q) z_nwN hx hb hr rfl hZ hK hN hG hS hw kb_Mo_plainRule_151 hlocks
    · have hw := hw.2 hc
      refine lv_iload hx hb kb_Mo_plainRule_73 (lv_at hl 5 rfl) ?_
      refine lv_if_ne (tgt := 122) hx hb kb_Mo_plainRule_75 (by decide) (fun hc => ?_) (fun hc => ?_)
      · have hw := hw.1 hc
        refine lv_iconst (v := (1 : Int32)) hx hb kb_Mo_plainRule_122 (by decide) ?_
        refine lv_goto (tgt := 127) hx hb kb_Mo_plainRule_123 (by decide) ?_
        refine lv_istore (lv' := [(5, .int ((1 : Int32))), (0, .ref a0), (1, .int x1), (2, .int v2), (3, .int v3), (4, .int v4), (6, .int v6)]) hx hb kb_Mo_plainRule_127 hl (by decide) rfl (fun ls hl => ?_)
        refine lv_iinc (v := v6 + (1 : Int32)) (lv' := [(6, .int (v6 + (1 : Int32))), (5, .int ((1 : Int32))), (0, .ref a0), (1, .int x1), (2, .int v2), (3, .int v3), (4, .int v4)]) hx hb kb_Mo_plainRule_129 hl (k := 6) rfl rfl (by decide) rfl (fun ls hl => ?_)
        refine lv_goto (tgt := 64) hx hb kb_Mo_plainRule_132 (by decide) ?_
        exact hw _ _ _ hG hS (lv_sub hl [2, 3, 4, 5, 6, 1, 0] rfl)
      · have hw := hw.2 hc
        refine lv_aload_n hx hb kb_Mo_plainRule_78 rfl (lv_at hl 0 rfl) ?_
        obtain ⟨hy, r79, hrf, hw⟩ := hw
        refine zr_getR (ci := 8) (f := 843) hx hb hts ki_Mo hown hK hG hy rfl 43 (by decide) (hts _ (List.mem_cons_of_mem _ kw_627)) (fun _ h => h) rfl rfl hrf kb_Mo_plainRule_79 ?_
        refine lv_iconst (v := (3 : Int32)) hx hb kb_Mo_plainRule_82 (by decide) ?_
        refine lv_iload hx hb kb_Mo_plainRule_83 (lv_at hl 6 rfl) ?_
        refine lv_imul hx hb kb_Mo_plainRule_85 ?_
        obtain ⟨n86, s86, hy, hi, hw⟩ := hw
        refine zr_iald hx hb hK hG 0 hy rfl hi kb_Mo_plainRule_86 ?_
        refine lv_iload_n hx hb kb_Mo_plainRule_87 rfl (lv_at hl 2 rfl) ?_
        refine lv_icmp_ne (tgt := 126) hx hb kb_Mo_plainRule_88 (by decide) (fun hc => ?_) (fun hc => ?_)
        · have hw := hw.1 hc
          refine lv_iconst (v := (0 : Int32)) hx hb kb_Mo_plainRule_126 (by decide) ?_
          refine lv_istore (lv' := [(5, .int ((0 : Int32))), (0, .ref a0), (1, .int x1), (2, .int v2), (3, .int v3), (4, .int v4), (6, .int v6)]) hx hb kb_Mo_plainRule_127 hl (by decide) rfl (fun ls hl => ?_)
          refine lv_iinc (v := v6 + (1 : Int32)) (lv' := [(6, .int (v6 + (1 : Int32))), (5, .int ((0 : Int32))), (0, .ref a0), (1, .int x1), (2, .int v2), (3, .int v3), (4, .int v4)]) hx hb kb_Mo_plainRule_129 hl (k := 6) rfl rfl (by decide) rfl (fun ls hl => ?_)
          refine lv_goto (tgt := 64) hx hb kb_Mo_plainRule_132 (by decide) ?_
          exact hw _ _ _ hG hS (lv_sub hl [2, 3, 4, 5, 6, 1, 0] rfl)
        · have hw := hw.2 hc
          refine lv_aload_n hx hb kb_Mo_plainRule_91 rfl (lv_at hl 0 rfl) ?_
          obtain ⟨hy, r92, hrf, hw⟩ := hw
          refine zr_getR (ci := 8) (f := 843) hx hb hts ki_Mo hown hK hG hy rfl 43 (by decide) (hts _ (List.mem_cons_of_mem _ kw_627)) (fun _ h => h) rfl rfl hrf kb_Mo_plainRule_92 ?_
          refine lv_iconst (v := (3 : Int32)) hx hb kb_Mo_plainRule_95 (by decide) ?_
          refine lv_iload hx hb kb_Mo_plainRule_96 (lv_at hl 6 rfl) ?_
          refine lv_imul hx hb kb_Mo_plainRule_98 ?_
          refine lv_iconst (v := (1 : Int32)) hx hb kb_Mo_plainRule_99 (by decide) ?_
          refine lv_iadd hx hb kb_Mo_plainRule_100 ?_
          obtain ⟨n101, s101, hy, hi, hw⟩ := hw
          refine zr_iald hx hb hK hG 0 hy rfl hi kb_Mo_plainRule_101 ?_
          refine lv_iload_n hx hb kb_Mo_plainRule_102 rfl (lv_at hl 3 rfl) ?_
          refine lv_icmp_ne (tgt := 126) hx hb kb_Mo_plainRule_103 (by decide) (fun hc => ?_) (fun hc => ?_)
          · have hw := hw.1 hc
            refine lv_iconst (v := (0 : Int32)) hx hb kb_Mo_plainRule_126 (by decide) ?_
            refine lv_istore (lv' := [(5, .int ((0 : Int32))), (0, .ref a0), (1, .int x1), (2, .int v2), (3, .int v3), (4, .int v4), (6, .int v6)]) hx hb kb_Mo_plainRule_127 hl (by decide) rfl (fun ls hl => ?_)
            refine lv_iinc (v := v6 + (1 : Int32)) (lv' := [(6, .int (v6 + (1 : Int32))), (5, .int ((0 : Int32))), (0, .ref a0), (1, .int x1), (2, .int v2), (3, .int v3), (4, .int v4)]) hx hb kb_Mo_plainRule_129 hl (k := 6) rfl rfl (by decide) rfl (fun ls hl => ?_)
            refine lv_goto (tgt := 64) hx hb kb_Mo_plainRule_132 (by decide) ?_
            exact hw _ _ _ hG hS (lv_sub hl [2, 3, 4, 5, 6, 1, 0] rfl)
          · have hw := hw.2 hc
            refine lv_aload_n hx hb kb_Mo_plainRule_106 rfl (lv_at hl 0 rfl) ?_
            obtain ⟨hy, r107, hrf, hw⟩ := hw
            refine zr_getR (ci := 8) (f := 843) hx hb hts ki_Mo hown hK hG hy rfl 43 (by decide) (hts _ (List.mem_cons_of_mem _ kw_627)) (fun _ h => h) rfl rfl hrf kb_Mo_plainRule_107 ?_
            refine lv_iconst (v := (3 : Int32)) hx hb kb_Mo_plainRule_110 (by decide) ?_
            refine lv_iload hx hb kb_Mo_plainRule_111 (lv_at hl 6 rfl) ?_
            refine lv_imul hx hb kb_Mo_plainRule_113 ?_
            refine lv_iconst (v := (2 : Int32)) hx hb kb_Mo_plainRule_114 (by decide) ?_
            refine lv_iadd hx hb kb_Mo_plainRule_115 ?_
            obtain ⟨n116, s116, hy, hi, hw⟩ := hw
            refine zr_iald hx hb hK hG 0 hy rfl hi kb_Mo_plainRule_116 ?_
            refine lv_iload hx hb kb_Mo_plainRule_117 (lv_at hl 4 rfl) ?_
            refine lv_icmp_ne (tgt := 126) hx hb kb_Mo_plainRule_119 (by decide) (fun hc => ?_) (fun hc => ?_)
            · have hw := hw.1 hc
              refine lv_iconst (v := (0 : Int32)) hx hb kb_Mo_plainRule_126 (by decide) ?_
              refine lv_istore (lv' := [(5, .int ((0 : Int32))), (0, .ref a0), (1, .int x1), (2, .int v2), (3, .int v3), (4, .int v4), (6, .int v6)]) hx hb kb_Mo_plainRule_127 hl (by decide) rfl (fun ls hl => ?_)
              refine lv_iinc (v := v6 + (1 : Int32)) (lv' := [(6, .int (v6 + (1 : Int32))), (5, .int ((0 : Int32))), (0, .ref a0), (1, .int x1), (2, .int v2), (3, .int v3), (4, .int v4)]) hx hb kb_Mo_plainRule_129 hl (k := 6) rfl rfl (by decide) rfl (fun ls hl => ?_)
              refine lv_goto (tgt := 64) hx hb kb_Mo_plainRule_132 (by decide) ?_
              exact hw _ _ _ hG hS (lv_sub hl [2, 3, 4, 5, 6, 1, 0] rfl)
            · have hw := hw.2 hc
              refine lv_iconst (v := (1 : Int32)) hx hb kb_Mo_plainRule_122 (by decide) ?_
              refine lv_goto (tgt := 127) hx hb kb_Mo_plainRule_123 (by decide) ?_
              refine lv_istore (lv' := [(5, .int ((1 : Int32))), (0, .ref a0), (1, .int x1), (2, .int v2), (3, .int v3), (4, .int v4), (6, .int v6)]) hx hb kb_Mo_plainRule_127 hl (by decide) rfl (fun ls hl => ?_)
              refine lv_iinc (v := v6 + (1 : Int32)) (lv' := [(6, .int (v6 + (1 : Int32))), (5, .int ((1 : Int32))), (0, .ref a0), (1, .int x1), (2, .int v2), (3, .int v3), (4, .int v4)]) hx hb kb_Mo_plainRule_129 hl (k := 6) rfl rfl (by decide) rfl (fun ls hl => ?_)
              refine lv_goto (tgt := 64) hx hb kb_Mo_plainRule_132 (by decide) ?_
              exact hw _ _ _ hG hS (lv_sub hl [2, 3, 4, 5, 6, 1, 0] rfl))
  have hw := hw (by
    intro v2 σ hw H locs ls hG hS hl
    refine lv_iload_n hx hb kb_Mo_plainRule_208 rfl (lv_at hl 2 rfl) ?_
    refine lv_aload_n hx hb kb_Mo_plainRule_209 rfl (lv_at hl 0 rfl) ?_
    obtain ⟨hy, hw⟩ := hw
    refine zr_getI (ci := 8) (f := 845) hx hb hts ki_Mo hown hK hG hy rfl 45 (by decide) (hts _ (List.mem_cons_of_mem _ kw_629)) (fun _ h => h) rfl rfl kb_Mo_plainRule_210 ?_
    refine lv_icmp_ge (tgt := 267) hx hb kb_Mo_plainRule_213 (by decide) (fun hc => ?_) (fun hc => ?_)
    · have hw := hw.1 hc
      refine lv_aload_n hx hb kb_Mo_plainRule_267 rfl (lv_at hl 0 rfl) ?_
      obtain ⟨hy, hw⟩ := hw
      refine zr_getI (ci := 8) (f := 845) hx hb hts ki_Mo hown hK hG hy rfl 45 (by decide) (hts _ (List.mem_cons_of_mem _ kw_629)) (fun _ h => h) rfl rfl kb_Mo_plainRule_268 ?_
      refine lv_if_le (tgt := 278) hx hb kb_Mo_plainRule_271 (by decide) (fun hc => ?_) (fun hc => ?_)
      · have hw := hw.1 hc
        refine lv_iconst (v := (0 : Int32)) hx hb kb_Mo_plainRule_278 (by decide) ?_
        exact zr_iret (free := fun q => Z ≤ q) z_nwN hx hb hr rfl hZ hK hN hG hS hw kb_Mo_plainRule_279 hlocks
      · have hw := hw.2 hc
        refine lv_iconst (v := (1 : Int32)) hx hb kb_Mo_plainRule_274 (by decide) ?_
        refine lv_goto (tgt := 279) hx hb kb_Mo_plainRule_275 (by decide) ?_
        exact zr_iret (free := fun q => Z ≤ q) z_nwN hx hb hr rfl hZ hK hN hG hS hw kb_Mo_plainRule_279 hlocks
    · have hw := hw.2 hc
      refine lv_aload_n hx hb kb_Mo_plainRule_216 rfl (lv_at hl 0 rfl) ?_
      refine lv_aload_n hx hb kb_Mo_plainRule_217 rfl (lv_at hl 0 rfl) ?_
      obtain ⟨hy, r218, hrf, hw⟩ := hw
      refine zr_getR (ci := 8) (f := 809) hx hb hts ki_Mo hown hK hG hy rfl 9 (by decide) (hts _ (List.mem_cons_of_mem _ kw_593)) (fun _ h => h) rfl rfl hrf kb_Mo_plainRule_218 ?_
      refine lv_iload_n hx hb kb_Mo_plainRule_221 rfl (lv_at hl 1 rfl) ?_
      obtain ⟨n222, s222, hy, hi, hw⟩ := hw
      refine zr_iald hx hb hK hG 0 hy rfl hi kb_Mo_plainRule_222 ?_
      refine lv_aload_n hx hb kb_Mo_plainRule_223 rfl (lv_at hl 0 rfl) ?_
      obtain ⟨hy, r224, hrf, hw⟩ := hw
      refine zr_getR (ci := 8) (f := 843) hx hb hts ki_Mo hown hK hG hy rfl 43 (by decide) (hts _ (List.mem_cons_of_mem _ kw_627)) (fun _ h => h) rfl rfl hrf kb_Mo_plainRule_224 ?_
      refine lv_iconst (v := (3 : Int32)) hx hb kb_Mo_plainRule_227 (by decide) ?_
      refine lv_iload_n hx hb kb_Mo_plainRule_228 rfl (lv_at hl 2 rfl) ?_
      refine lv_imul hx hb kb_Mo_plainRule_229 ?_
      obtain ⟨n230, s230, hy, hi, hw⟩ := hw
      refine zr_iald hx hb hK hG 0 hy rfl hi kb_Mo_plainRule_230 ?_
      refine lv_aload_n hx hb kb_Mo_plainRule_231 rfl (lv_at hl 0 rfl) ?_
      obtain ⟨hy, r232, hrf, hw⟩ := hw
      refine zr_getR (ci := 8) (f := 843) hx hb hts ki_Mo hown hK hG hy rfl 43 (by decide) (hts _ (List.mem_cons_of_mem _ kw_627)) (fun _ h => h) rfl rfl hrf kb_Mo_plainRule_232 ?_
      refine lv_iconst (v := (3 : Int32)) hx hb kb_Mo_plainRule_235 (by decide) ?_
      refine lv_iload_n hx hb kb_Mo_plainRule_236 rfl (lv_at hl 2 rfl) ?_
      refine lv_imul hx hb kb_Mo_plainRule_237 ?_
      refine lv_iconst (v := (1 : Int32)) hx hb kb_Mo_plainRule_238 (by decide) ?_
      refine lv_iadd hx hb kb_Mo_plainRule_239 ?_
      obtain ⟨n240, s240, hy, hi, hw⟩ := hw
      refine zr_iald hx hb hK hG 0 hy rfl hi kb_Mo_plainRule_240 ?_
      refine lv_aload_n hx hb kb_Mo_plainRule_241 rfl (lv_at hl 0 rfl) ?_
      obtain ⟨hy, r242, hrf, hw⟩ := hw
      refine zr_getR (ci := 8) (f := 843) hx hb hts ki_Mo hown hK hG hy rfl 43 (by decide) (hts _ (List.mem_cons_of_mem _ kw_627)) (fun _ h => h) rfl rfl hrf kb_Mo_plainRule_242 ?_
      refine lv_iconst (v := (3 : Int32)) hx hb kb_Mo_plainRule_245 (by decide) ?_
      refine lv_iload_n hx hb kb_Mo_plainRule_246 rfl (lv_at hl 2 rfl) ?_
      refine lv_imul hx hb kb_Mo_plainRule_247 ?_
      refine lv_iconst (v := (2 : Int32)) hx hb kb_Mo_plainRule_248 (by decide) ?_
      refine lv_iadd hx hb kb_Mo_plainRule_249 ?_
      obtain ⟨n250, s250, hy, hi, hw⟩ := hw
      refine zr_iald hx hb hK hG 0 hy rfl hi kb_Mo_plainRule_250 ?_
      refine lv_iconst (v := (1 : Int32)) hx hb kb_Mo_plainRule_251 (by decide) ?_
      obtain ⟨hy, hw⟩ := hw
      refine zr_ci (va_runV (C := kR_Mo) (As := [.int (z_A σ s222 r218 x1.toNatClampNeg), .int (z_A σ s230 r224 (((3 : Int32)) * v2).toNatClampNeg), .int (z_A σ s240 r232 ((((3 : Int32)) * v2) + ((1 : Int32))).toNatClampNeg), .int (z_A σ s250 r242 ((((3 : Int32)) * v2) + ((2 : Int32))).toNatClampNeg), .int ((1 : Int32))]) (rest := []) ⟨hx, hb, hml, hown, hts⟩ (kc_Mo_insert l D dA Z a0 (z_A σ s222 r218 x1.toNatClampNeg) (z_A σ s230 r224 (((3 : Int32)) * v2).toNatClampNeg) (z_A σ s240 r232 ((((3 : Int32)) * v2) + ((1 : Int32))).toNatClampNeg) (z_A σ s250 r242 ((((3 : Int32)) * v2) + ((2 : Int32))).toNatClampNeg) ((1 : Int32)) σ _) ⟨callB_of 5 hts (z_gw kw_799) rfl rfl rfl (hts _ (List.mem_cons_of_mem _ kw_9)) (hts _ (List.mem_cons_of_mem _ kw_797)) (by decide +kernel) ⟨Nat.le_of_ble_eq_true rfl, Nat.le_of_ble_eq_true rfl⟩, (hts _ (List.mem_cons_of_mem _ kw_798)), (hts _ (List.mem_cons_of_mem _ kw_980))⟩ (z_preV z_nwN (Nat.le_trans hZ hS.1) hG hK hN hy (ci := 8) (r := (kR_Mo, kT_Mo, 51)) rfl hw) rfl rfl hl.1 rfl (lv_room (Nat.le_of_ble_eq_true rfl)) kb_Mo_plainRule_252 ⟨Nat.le_of_ble_eq_true rfl, Nat.le_of_ble_eq_true rfl⟩) hS (fun r252 σ252 H locs hw hG hS => ?_)
      refine lv_if_ne (tgt := 261) hx hb kb_Mo_plainRule_255 (by decide) (fun hc => ?_) (fun hc => ?_)
      · have hw := hw.1 hc
        refine lv_iinc (v := v2 + (1 : Int32)) (lv' := [(2, .int (v2 + (1 : Int32))), (0, .ref a0), (1, .int x1)]) hx hb kb_Mo_plainRule_261 hl (k := 2) rfl rfl (by decide) rfl (fun ls hl => ?_)
        refine lv_goto (tgt := 208) hx hb kb_Mo_plainRule_264 (by decide) ?_
        exact hw _ _ _ hG hS (lv_sub hl [1, 2, 0] rfl)
      · have hw := hw.2 hc
        refine lv_bipush (v := (-3 : Int32)) hx hb kb_Mo_plainRule_258 (by decide) ?_
        exact zr_iret (free := fun q => Z ≤ q) z_nwN hx hb hr rfl hZ hK hN hG hS hw kb_Mo_plainRule_260 hlocks)
  refine lv_aload_n hx hb kb_Mo_plainRule_0 rfl (lv_at hl 0 rfl) ?_
  refine lv_iconst (v := (0 : Int32)) hx hb kb_Mo_plainRule_1 (by decide) ?_
  obtain ⟨hy, hw⟩ := hw
  refine zr_putI (ci := 8) (f := 845) hx hb hts ki_Mo ky_Mo kyo_Mo kn_Mo hown hK hG hS hy rfl 45 (by decide) (hts _ (List.mem_cons_of_mem _ kw_629)) (fun _ h => h) rfl rfl rfl rfl rfl kb_Mo_plainRule_2 (fun H locs hG hS => ?_)
  obtain ⟨σ2, e2⟩ : ∃ z, z = z_sI σ 845 a0 ((0 : Int32)) := ⟨_, rfl⟩
  rw [← e2] at hG
  have hw := hw _ e2
  refine lv_aload_n hx hb kb_Mo_plainRule_5 rfl (lv_at hl 0 rfl) ?_
  refine lv_iload_n hx hb kb_Mo_plainRule_6 rfl (lv_at hl 1 rfl) ?_
  obtain ⟨hy, hw⟩ := hw
  refine zr_cv (va_runV (C := kR_Mo) (As := [.int x1]) (rest := []) ⟨hx, hb, hml, hown, hts⟩ (kc_Mo_begin l D dA Z a0 x1 σ2 _) ⟨callB_of 1 hts (z_gw kw_772) rfl rfl rfl (hts _ (List.mem_cons_of_mem _ kw_9)) (hts _ (List.mem_cons_of_mem _ kw_770)) (by decide +kernel) ⟨Nat.le_of_ble_eq_true rfl, Nat.le_of_ble_eq_true rfl⟩, (hts _ (List.mem_cons_of_mem _ kw_771)), (hts _ (List.mem_cons_of_mem _ kw_971))⟩ (z_preV z_nwN (Nat.le_trans hZ hS.1) hG hK hN hy (ci := 8) (r := (kR_Mo, kT_Mo, 51)) rfl hw) rfl rfl hl.1 rfl (lv_room (Nat.le_of_ble_eq_true rfl)) kb_Mo_plainRule_7 ⟨Nat.le_of_ble_eq_true rfl, Nat.le_of_ble_eq_true rfl⟩) hS (fun σ7 H locs hw hG hS => ?_)
  exact hw _ _ _ hG hS (lv_sub hl [0, 1] rfl)
def kp_Mo_work (a0 : Nat) (σ : z_S) (Post : Int32 → z_S → Prop) : Prop := ∀ (X2 : Int32 → z_S → Prop) (X34 : Int32 → Nat → Int32 → Int32 → z_S → Prop) (X43 : Int32 → z_S → Prop) (X51 : Int32 → Int32 → z_S → Prop) (X101 : Int32 → Int32 → z_S → Prop) (X109 : Int32 → Int32 → Int32 → z_S → Prop),
    (∀ (v1 : Int32) (σ : z_S), (z_ty σ a0 = some (.inl 8) ∧ (((z_I σ 817 a0) ≤ v1 → X43 ((1 : Int32)) σ) ∧ (¬ (z_I σ 817 a0) ≤ v1 → z_ty σ a0 = some (.inl 8) ∧ ∃ r11, z_R σ 826 a0 = some r11 ∧ (z_ty σ a0 = some (.inl 8) ∧ ∃ r16, z_R σ 820 a0 = some r16 ∧ (∃ n20 s20, z_ty σ r16 = some (.inr (2, n20, s20)) ∧ vp_in v1 n20 ∧ ((((z_A σ s20 r16 v1.toNatClampNeg)) = 0 → z_ty σ a0 = some (.inl 8) ∧ ∃ r29, z_R σ 826 a0 = some r29 ∧ (∃ n33 s33, z_ty σ r29 = some (.inr (0, n33, s33)) ∧ vp_in v1 n33 ∧ (X34 v1 r11 v1 (z_A σ s33 r29 v1.toNatClampNeg) σ))) ∧ (¬ ((z_A σ s20 r16 v1.toNatClampNeg)) = 0 → X34 v1 r11 v1 ((0 : Int32)) σ))))))) → X2 v1 σ) →
    (∀ (v1 : Int32) (t0 : Nat) (t1 : Int32) (t2 : Int32) (σ : z_S), (∃ n34 s34, z_ty σ t0 = some (.inr (0, n34, s34)) ∧ vp_in t1 n34 ∧ ∀ σ34, σ34 = z_sA σ s34 t0 (upd (z_A σ s34 t0) t1.toNatClampNeg t2) → X2 (v1 + (1 : Int32)) σ34) → X34 v1 t0 t1 t2 σ) →
    (∀ (v1 : Int32) (σ : z_S), ((((8 : Int32)) < v1 → Post ((1 : Int32)) σ) ∧ (¬ ((8 : Int32)) < v1 → X51 v1 ((0 : Int32)) σ)) → X43 v1 σ) →
    (∀ (v1 : Int32) (v2 : Int32) (σ : z_S), (z_ty σ a0 = some (.inl 8) ∧ (((z_I σ 808 a0) ≤ v2 → X101 v1 ((1 : Int32)) σ) ∧ (¬ (z_I σ 808 a0) ≤ v2 → z_ty σ a0 = some (.inl 8) ∧ ∃ r60, z_R σ 821 a0 = some r60 ∧ (z_ty σ a0 = some (.inl 8) ∧ ∃ r64, z_R σ 809 a0 = some r64 ∧ (∃ n68 s68, z_ty σ r64 = some (.inr (0, n68, s68)) ∧ vp_in v2 n68 ∧ (∃ n69 s69, z_ty σ r60 = some (.inr (0, n69, s69)) ∧ vp_in (z_A σ s68 r64 v2.toNatClampNeg) n69 ∧ ((¬ (z_A σ s69 r60 (z_A σ s68 r64 v2.toNatClampNeg).toNatClampNeg) = v1 → X51 v1 (v2 + (1 : Int32)) σ) ∧ ((z_A σ s69 r60 (z_A σ s68 r64 v2.toNatClampNeg).toNatClampNeg) = v1 → z_ty σ a0 = some (.inl 8) ∧ ∃ r75, z_R σ 815 a0 = some r75 ∧ (∃ n79 s79, z_ty σ r75 = some (.inr (2, n79, s79)) ∧ vp_in v2 n79 ∧ ((((z_A σ s79 r75 v2.toNatClampNeg)) = 0 → X51 v1 (v2 + (1 : Int32)) σ) ∧ (¬ ((z_A σ s79 r75 v2.toNatClampNeg)) = 0 → z_ty σ a0 = some (.inl 8) ∧ kp_Mo_countRule a0 v2 σ (fun (r85 : Int32) (σ85 : z_S) => (¬ r85 = 0 → X51 v1 (v2 + (1 : Int32)) σ85) ∧ (r85 = 0 → Post ((0 : Int32)) σ85))))))))))))) → X51 v1 v2 σ) →
    (∀ (v1 : Int32) (v2 : Int32) (σ : z_S), ((v2 = 0 → X43 (v1 + (1 : Int32)) σ) ∧ (¬ v2 = 0 → X109 v1 ((0 : Int32)) ((0 : Int32)) σ)) → X101 v1 v2 σ) →
    (∀ (v1 : Int32) (v2 : Int32) (v3 : Int32) (σ : z_S), (z_ty σ a0 = some (.inl 8) ∧ (((z_I σ 808 a0) ≤ v3 → X101 v1 v2 σ) ∧ (¬ (z_I σ 808 a0) ≤ v3 → z_ty σ a0 = some (.inl 8) ∧ ∃ r118, z_R σ 821 a0 = some r118 ∧ (z_ty σ a0 = some (.inl 8) ∧ ∃ r122, z_R σ 809 a0 = some r122 ∧ (∃ n126 s126, z_ty σ r122 = some (.inr (0, n126, s126)) ∧ vp_in v3 n126 ∧ (∃ n127 s127, z_ty σ r118 = some (.inr (0, n127, s127)) ∧ vp_in (z_A σ s126 r122 v3.toNatClampNeg) n127 ∧ ((¬ (z_A σ s127 r118 (z_A σ s126 r122 v3.toNatClampNeg).toNatClampNeg) = v1 → X109 v1 v2 (v3 + (1 : Int32)) σ) ∧ ((z_A σ s127 r118 (z_A σ s126 r122 v3.toNatClampNeg).toNatClampNeg) = v1 → z_ty σ a0 = some (.inl 8) ∧ ∃ r133, z_R σ 815 a0 = some r133 ∧ (∃ n137 s137, z_ty σ r133 = some (.inr (2, n137, s137)) ∧ vp_in v3 n137 ∧ ((¬ ((z_A σ s137 r133 v3.toNatClampNeg)) = 0 → X109 v1 v2 (v3 + (1 : Int32)) σ) ∧ (((z_A σ s137 r133 v3.toNatClampNeg)) = 0 → z_ty σ a0 = some (.inl 8) ∧ kp_Mo_plainRule a0 v3 σ (fun (r143 : Int32) (σ143 : z_S) => (¬ r143 = ((-3 : Int32)) → (¬ v2 = 0 → X109 v1 ((1 : Int32)) (v3 + (1 : Int32)) σ143) ∧ (v2 = 0 → (r143 ≤ 0 → X109 v1 ((0 : Int32)) (v3 + (1 : Int32)) σ143) ∧ (¬ r143 ≤ 0 → X109 v1 ((1 : Int32)) (v3 + (1 : Int32)) σ143))) ∧ (r143 = ((-3 : Int32)) → Post ((0 : Int32)) σ143))))))))))))) → X109 v1 v2 v3 σ) →
    (X2 ((0 : Int32)) σ)
set_option maxHeartbeats 4000000 in
set_option maxRecDepth 100000 in
theorem kc_Mo_work (l : Launch) (D : va_G) (dA : Nat → ClassId) (Z : Nat) (a0 : Nat) (σ : z_S) (Post : Int32 → z_S → Prop) : Met l km_Mo_work ks_Mo_work kr_Mo_work (va_Pc [.ref a0] (fun U => z_U D z_cl z_KT dA Z (z_tys dA) z_nw σ U ∧ kp_Mo_work  a0 σ Post)) (z_Qi D z_cl z_KT dA Z (z_tys dA) z_nw Post) 0 0 (fun q => Z ≤ q) := by
  refine Met.ofW (cc := prog_10_method_37_code) (maxL := 5) (ret := (some .boolean)) (by decide) rfl ?_
  intro p e s m args below meth c s₁ B hml hv
  obtain ⟨rfl, ⟨hZ, hG, hK, hN⟩, hw⟩ := hv
  have hx := B.exec
  have hb := B.bytes
  have hr := B.returns
  have hts := atoms_spec (ws := ks_Mo_work) B.pre
  have hown : s.vm.findClass kR_Mo = some m.cls := findClass_of_methodNamed B.named
  have hlocks := B.notSynchronized
  have hS : va_S (fun q => Z ≤ q) s.heap s.heap [] := va_S.rf
  have hl := lv_entry ([.ref a0]) (n := 5) (Nat.le_of_ble_eq_true rfl)
  rw [lg_entry_eq]
  generalize (lg_sl ([.ref a0]) ++ List.replicate (5 - (lg_sl ([.ref a0])).length) Slot.unset).toArray = ls at hl ⊢
  have hl : lv_has ls 5 [(0, .ref a0)] := hl
  unfold kp_Mo_work at hw
  have hw := hw (fun (v1 : Int32) (σ : z_S) => ∀ (H : Heap) (locs : List Loc) (ls : Array Slot), z_G D z_cl z_KT dA Z σ H → va_S (fun q => Z ≤ q) s.heap H locs → lv_has ls 5 [(0, .ref a0), (1, .int v1)] → W p l e (headSpec ks_Mo_work kr_Mo_work).room s m ([.ref a0] : List Value).toArray below meth c H locs 0 0 (MQ below (z_Qi D z_cl z_KT dA Z (z_tys dA) z_nw Post) ([.ref a0] : List Value).toArray s 0 0 (fun q => Z ≤ q)) (F0 m 2 ls []))
  have hw := hw (fun (v1 : Int32) (t0 : Nat) (t1 : Int32) (t2 : Int32) (σ : z_S) => ∀ (H : Heap) (locs : List Loc) (ls : Array Slot), z_G D z_cl z_KT dA Z σ H → va_S (fun q => Z ≤ q) s.heap H locs → lv_has ls 5 [(0, .ref a0), (1, .int v1)] → W p l e (headSpec ks_Mo_work kr_Mo_work).room s m ([.ref a0] : List Value).toArray below meth c H locs 0 0 (MQ below (z_Qi D z_cl z_KT dA Z (z_tys dA) z_nw Post) ([.ref a0] : List Value).toArray s 0 0 (fun q => Z ≤ q)) (F0 m 34 ls [.int t2, .int t1, .ref t0]))
  have hw := hw (fun (v1 : Int32) (σ : z_S) => ∀ (H : Heap) (locs : List Loc) (ls : Array Slot), z_G D z_cl z_KT dA Z σ H → va_S (fun q => Z ≤ q) s.heap H locs → lv_has ls 5 [(0, .ref a0), (1, .int v1)] → W p l e (headSpec ks_Mo_work kr_Mo_work).room s m ([.ref a0] : List Value).toArray below meth c H locs 0 0 (MQ below (z_Qi D z_cl z_KT dA Z (z_tys dA) z_nw Post) ([.ref a0] : List Value).toArray s 0 0 (fun q => Z ≤ q)) (F0 m 43 ls []))
  have hw := hw (fun (v1 : Int32) (v2 : Int32) (σ : z_S) => ∀ (H : Heap) (locs : List Loc) (ls : Array Slot), z_G D z_cl z_KT dA Z σ H → va_S (fun q => Z ≤ q) s.heap H locs → lv_has ls 5 [(0, .ref a0), (1, .int v1), (2, .int v2)] → W p l e (headSpec ks_Mo_work kr_Mo_work).room s m ([.ref a0] : List Value).toArray below meth c H locs 0 0 (MQ below (z_Qi D z_cl z_KT dA Z (z_tys dA) z_nw Post) ([.ref a0] : List Value).toArray s 0 0 (fun q => Z ≤ q)) (F0 m 51 ls []))
  have hw := hw (fun (v1 : Int32) (v2 : Int32) (σ : z_S) => ∀ (H : Heap) (locs : List Loc) (ls : Array Slot), z_G D z_cl z_KT dA Z σ H → va_S (fun q => Z ≤ q) s.heap H locs → lv_has ls 5 [(0, .ref a0), (1, .int v1), (2, .int v2)] → W p l e (headSpec ks_Mo_work kr_Mo_work).room s m ([.ref a0] : List Value).toArray below meth c H locs 0 0 (MQ below (z_Qi D z_cl z_KT dA Z (z_tys dA) z_nw Post) ([.ref a0] : List Value).toArray s 0 0 (fun q => Z ≤ q)) (F0 m 101 ls []))
  have hw := hw (fun (v1 : Int32) (v2 : Int32) (v3 : Int32) (σ : z_S) => ∀ (H : Heap) (locs : List Loc) (ls : Array Slot), z_G D z_cl z_KT dA Z σ H → va_S (fun q => Z ≤ q) s.heap H locs → lv_has ls 5 [(0, .ref a0), (1, .int v1), (2, .int v2), (3, .int v3)] → W p l e (headSpec ks_Mo_work kr_Mo_work).room s m ([.ref a0] : List Value).toArray below meth c H locs 0 0 (MQ below (z_Qi D z_cl z_KT dA Z (z_tys dA) z_nw Post) ([.ref a0] : List Value).toArray s 0 0 (fun q => Z ≤ q)) (F0 m 109 ls []))
  have hw := hw (by
    intro v1 σ hw H locs ls hG hS hl
    refine lv_iload_n hx hb kb_Mo_work_2 rfl (lv_at hl 1 rfl) ?_
    refine lv_aload_n hx hb kb_Mo_work_3 rfl (lv_at hl 0 rfl) ?_
    obtain ⟨hy, hw⟩ := hw
    refine zr_getI (ci := 8) (f := 817) hx hb hts ki_Mo hown hK hG hy rfl 17 (by decide) (hts _ (List.mem_cons_of_mem _ kw_601)) (fun _ h => h) rfl rfl kb_Mo_work_4 ?_
    refine lv_icmp_ge (tgt := 41) hx hb kb_Mo_work_7 (by decide) (fun hc => ?_) (fun hc => ?_)
    · have hw := hw.1 hc
      refine lv_iconst (v := (1 : Int32)) hx hb kb_Mo_work_41 (by decide) ?_
      refine lv_istore_n (lv' := [(1, .int ((1 : Int32))), (0, .ref a0)]) hx hb kb_Mo_work_42 rfl hl (by decide) rfl (fun ls hl => ?_)
      exact hw _ _ _ hG hS (lv_sub hl [1, 0] rfl)
    · have hw := hw.2 hc
      refine lv_aload_n hx hb kb_Mo_work_10 rfl (lv_at hl 0 rfl) ?_
      obtain ⟨hy, r11, hrf, hw⟩ := hw
      refine zr_getR (ci := 8) (f := 826) hx hb hts ki_Mo hown hK hG hy rfl 26 (by decide) (hts _ (List.mem_cons_of_mem _ kw_610)) (fun _ h => h) rfl rfl hrf kb_Mo_work_11 ?_
      refine lv_iload_n hx hb kb_Mo_work_14 rfl (lv_at hl 1 rfl) ?_
      refine lv_aload_n hx hb kb_Mo_work_15 rfl (lv_at hl 0 rfl) ?_
      obtain ⟨hy, r16, hrf, hw⟩ := hw
      refine zr_getR (ci := 8) (f := 820) hx hb hts ki_Mo hown hK hG hy rfl 20 (by decide) (hts _ (List.mem_cons_of_mem _ kw_604)) (fun _ h => h) rfl rfl hrf kb_Mo_work_16 ?_
      refine lv_iload_n hx hb kb_Mo_work_19 rfl (lv_at hl 1 rfl) ?_
      obtain ⟨n20, s20, hy, hi, hw⟩ := hw
      refine zr_zald hx hb hK hG 2 hy rfl hi kb_Mo_work_20 ?_
      refine lv_if_eq (tgt := 28) hx hb kb_Mo_work_21 (by decide) (fun hc => ?_) (fun hc => ?_)
      · have hw := hw.1 hc
        refine lv_aload_n hx hb kb_Mo_work_28 rfl (lv_at hl 0 rfl) ?_
        obtain ⟨hy, r29, hrf, hw⟩ := hw
        refine zr_getR (ci := 8) (f := 826) hx hb hts ki_Mo hown hK hG hy rfl 26 (by decide) (hts _ (List.mem_cons_of_mem _ kw_610)) (fun _ h => h) rfl rfl hrf kb_Mo_work_29 ?_
        refine lv_iload_n hx hb kb_Mo_work_32 rfl (lv_at hl 1 rfl) ?_
        obtain ⟨n33, s33, hy, hi, hw⟩ := hw
        refine zr_iald hx hb hK hG 0 hy rfl hi kb_Mo_work_33 ?_
        exact hw _ _ _ hG hS (lv_sub hl [0, 1] rfl)
      · have hw := hw.2 hc
        refine lv_iconst (v := (0 : Int32)) hx hb kb_Mo_work_24 (by decide) ?_
        refine lv_goto (tgt := 34) hx hb kb_Mo_work_25 (by decide) ?_
        exact hw _ _ _ hG hS (lv_sub hl [0, 1] rfl))
  have hw := hw (by
    intro v1 t0 t1 t2 σ hw H locs ls hG hS hl
    obtain ⟨n34, s34, hy, hi, hw⟩ := hw
    refine zr_iast hx hb hK hG hS 0 hy rfl hi kb_Mo_work_34 (fun H locs hG hS => ?_)
    obtain ⟨σ34, e34⟩ : ∃ z, z = z_sA σ s34 t0 (upd (z_A σ s34 t0) t1.toNatClampNeg t2) := ⟨_, rfl⟩
    rw [← e34] at hG
    have hw := hw _ e34
    refine lv_iinc (v := v1 + (1 : Int32)) (lv' := [(1, .int (v1 + (1 : Int32))), (0, .ref a0)]) hx hb kb_Mo_work_35 hl (k := 1) rfl rfl (by decide) rfl (fun ls hl => ?_)
    refine lv_goto (tgt := 2) hx hb kb_Mo_work_38 (by decide) ?_
    exact hw _ _ _ hG hS (lv_sub hl [1, 0] rfl))
  have hw := hw (by
    intro v1 σ hw H locs ls hG hS hl
    refine lv_iload_n hx hb kb_Mo_work_43 rfl (lv_at hl 1 rfl) ?_
    refine lv_bipush (v := (8 : Int32)) hx hb kb_Mo_work_44 (by decide) ?_
    refine lv_icmp_gt (tgt := 187) hx hb kb_Mo_work_46 (by decide) (fun hc => ?_) (fun hc => ?_)
    · have hw := hw.1 hc
      refine lv_iconst (v := (1 : Int32)) hx hb kb_Mo_work_187 (by decide) ?_
      exact zr_iret (free := fun q => Z ≤ q) z_nwN hx hb hr rfl hZ hK hN hG hS hw kb_Mo_work_188 hlocks
    · have hw := hw.2 hc
      refine lv_iconst (v := (0 : Int32)) hx hb kb_Mo_work_49 (by decide) ?_
      refine lv_istore_n (lv' := [(2, .int ((0 : Int32))), (0, .ref a0), (1, .int v1)]) hx hb kb_Mo_work_50 rfl hl (by decide) rfl (fun ls hl => ?_)
      exact hw _ _ _ hG hS (lv_sub hl [1, 2, 0] rfl))
  have hw := hw (by
    intro v1 v2 σ hw H locs ls hG hS hl
    refine lv_iload_n hx hb kb_Mo_work_51 rfl (lv_at hl 2 rfl) ?_
    refine lv_aload_n hx hb kb_Mo_work_52 rfl (lv_at hl 0 rfl) ?_
    obtain ⟨hy, hw⟩ := hw
    refine zr_getI (ci := 8) (f := 808) hx hb hts ki_Mo hown hK hG hy rfl 8 (by decide) (hts _ (List.mem_cons_of_mem _ kw_592)) (fun _ h => h) rfl rfl kb_Mo_work_53 ?_
    refine lv_icmp_ge (tgt := 99) hx hb kb_Mo_work_56 (by decide) (fun hc => ?_) (fun hc => ?_)
    · have hw := hw.1 hc
      refine lv_iconst (v := (1 : Int32)) hx hb kb_Mo_work_99 (by decide) ?_
      refine lv_istore_n (lv' := [(2, .int ((1 : Int32))), (0, .ref a0), (1, .int v1)]) hx hb kb_Mo_work_100 rfl hl (by decide) rfl (fun ls hl => ?_)
      exact hw _ _ _ hG hS (lv_sub hl [1, 2, 0] rfl)
    · have hw := hw.2 hc
      refine lv_aload_n hx hb kb_Mo_work_59 rfl (lv_at hl 0 rfl) ?_
      obtain ⟨hy, r60, hrf, hw⟩ := hw
      refine zr_getR (ci := 8) (f := 821) hx hb hts ki_Mo hown hK hG hy rfl 21 (by decide) (hts _ (List.mem_cons_of_mem _ kw_605)) (fun _ h => h) rfl rfl hrf kb_Mo_work_60 ?_
      refine lv_aload_n hx hb kb_Mo_work_63 rfl (lv_at hl 0 rfl) ?_
      obtain ⟨hy, r64, hrf, hw⟩ := hw
      refine zr_getR (ci := 8) (f := 809) hx hb hts ki_Mo hown hK hG hy rfl 9 (by decide) (hts _ (List.mem_cons_of_mem _ kw_593)) (fun _ h => h) rfl rfl hrf kb_Mo_work_64 ?_
      refine lv_iload_n hx hb kb_Mo_work_67 rfl (lv_at hl 2 rfl) ?_
      obtain ⟨n68, s68, hy, hi, hw⟩ := hw
      refine zr_iald hx hb hK hG 0 hy rfl hi kb_Mo_work_68 ?_
      obtain ⟨n69, s69, hy, hi, hw⟩ := hw
      refine zr_iald hx hb hK hG 0 hy rfl hi kb_Mo_work_69 ?_
      refine lv_iload_n hx hb kb_Mo_work_70 rfl (lv_at hl 1 rfl) ?_
      refine lv_icmp_ne (tgt := 93) hx hb kb_Mo_work_71 (by decide) (fun hc => ?_) (fun hc => ?_)
      · have hw := hw.1 hc
        refine lv_iinc (v := v2 + (1 : Int32)) (lv' := [(2, .int (v2 + (1 : Int32))), (0, .ref a0), (1, .int v1)]) hx hb kb_Mo_work_93 hl (k := 2) rfl rfl (by decide) rfl (fun ls hl => ?_)
        refine lv_goto (tgt := 51) hx hb kb_Mo_work_96 (by decide) ?_
        exact hw _ _ _ hG hS (lv_sub hl [1, 2, 0] rfl)
      · have hw := hw.2 hc
        refine lv_aload_n hx hb kb_Mo_work_74 rfl (lv_at hl 0 rfl) ?_
        obtain ⟨hy, r75, hrf, hw⟩ := hw
        refine zr_getR (ci := 8) (f := 815) hx hb hts ki_Mo hown hK hG hy rfl 15 (by decide) (hts _ (List.mem_cons_of_mem _ kw_599)) (fun _ h => h) rfl rfl hrf kb_Mo_work_75 ?_
        refine lv_iload_n hx hb kb_Mo_work_78 rfl (lv_at hl 2 rfl) ?_
        obtain ⟨n79, s79, hy, hi, hw⟩ := hw
        refine zr_zald hx hb hK hG 2 hy rfl hi kb_Mo_work_79 ?_
        refine lv_if_eq (tgt := 93) hx hb kb_Mo_work_80 (by decide) (fun hc => ?_) (fun hc => ?_)
        · have hw := hw.1 hc
          refine lv_iinc (v := v2 + (1 : Int32)) (lv' := [(2, .int (v2 + (1 : Int32))), (0, .ref a0), (1, .int v1)]) hx hb kb_Mo_work_93 hl (k := 2) rfl rfl (by decide) rfl (fun ls hl => ?_)
          refine lv_goto (tgt := 51) hx hb kb_Mo_work_96 (by decide) ?_
          exact hw _ _ _ hG hS (lv_sub hl [1, 2, 0] rfl)
        · have hw := hw.2 hc
          refine lv_aload_n hx hb kb_Mo_work_83 rfl (lv_at hl 0 rfl) ?_
          refine lv_iload_n hx hb kb_Mo_work_84 rfl (lv_at hl 2 rfl) ?_
          obtain ⟨hy, hw⟩ := hw
          refine zr_ci (va_runV (C := kR_Mo) (As := [.int v2]) (rest := []) ⟨hx, hb, hml, hown, hts⟩ (kc_Mo_countRule l D dA Z a0 v2 σ _) ⟨callB_of 1 hts (z_gw kw_766) rfl rfl rfl (hts _ (List.mem_cons_of_mem _ kw_9)) (hts _ (List.mem_cons_of_mem _ kw_764)) (by decide +kernel) ⟨Nat.le_of_ble_eq_true rfl, Nat.le_of_ble_eq_true rfl⟩, (hts _ (List.mem_cons_of_mem _ kw_765)), (hts _ (List.mem_cons_of_mem _ kw_969))⟩ (z_preV z_nwN (Nat.le_trans hZ hS.1) hG hK hN hy (ci := 8) (r := (kR_Mo, kT_Mo, 51)) rfl hw) rfl rfl hl.1 rfl (lv_room (Nat.le_of_ble_eq_true rfl)) kb_Mo_work_85 ⟨Nat.le_of_ble_eq_true rfl, Nat.le_of_ble_eq_true rfl⟩) hS (fun r85 σ85 H locs hw hG hS => ?_)
          refine lv_if_ne (tgt := 93) hx hb kb_Mo_work_88 (by decide) (fun hc => ?_) (fun hc => ?_)
          · have hw := hw.1 hc
            refine lv_iinc (v := v2 + (1 : Int32)) (lv' := [(2, .int (v2 + (1 : Int32))), (0, .ref a0), (1, .int v1)]) hx hb kb_Mo_work_93 hl (k := 2) rfl rfl (by decide) rfl (fun ls hl => ?_)
            refine lv_goto (tgt := 51) hx hb kb_Mo_work_96 (by decide) ?_
            exact hw _ _ _ hG hS (lv_sub hl [1, 2, 0] rfl)
          · have hw := hw.2 hc
            refine lv_iconst (v := (0 : Int32)) hx hb kb_Mo_work_91 (by decide) ?_
            exact zr_iret (free := fun q => Z ≤ q) z_nwN hx hb hr rfl hZ hK hN hG hS hw kb_Mo_work_92 hlocks)
  have hw := hw (by
    intro v1 v2 σ hw H locs ls hG hS hl
    refine lv_iload_n hx hb kb_Mo_work_101 rfl (lv_at hl 2 rfl) ?_
    refine lv_if_eq (tgt := 181) hx hb kb_Mo_work_102 (by decide) (fun hc => ?_) (fun hc => ?_)
    · have hw := hw.1 hc
      refine lv_iinc (v := v1 + (1 : Int32)) (lv' := [(1, .int (v1 + (1 : Int32))), (0, .ref a0), (2, .int v2)]) hx hb kb_Mo_work_181 hl (k := 1) rfl rfl (by decide) rfl (fun ls hl => ?_)
      refine lv_goto (tgt := 43) hx hb kb_Mo_work_184 (by decide) ?_
      exact hw _ _ _ hG hS (lv_sub hl [1, 0] rfl)
    · have hw := hw.2 hc
      refine lv_iconst (v := (0 : Int32)) hx hb kb_Mo_work_105 (by decide) ?_
      refine lv_istore_n (lv' := [(2, .int ((0 : Int32))), (0, .ref a0), (1, .int v1)]) hx hb kb_Mo_work_106 rfl hl (by decide) rfl (fun ls hl => ?_)
      refine lv_iconst (v := (0 : Int32)) hx hb kb_Mo_work_107 (by decide) ?_
      refine lv_istore_n (lv' := [(3, .int ((0 : Int32))), (2, .int ((0 : Int32))), (0, .ref a0), (1, .int v1)]) hx hb kb_Mo_work_108 rfl hl (by decide) rfl (fun ls hl => ?_)
      exact hw _ _ _ hG hS (lv_sub hl [2, 3, 1, 0] rfl))
  have hw := hw (by
    intro v1 v2 v3 σ hw H locs ls hG hS hl
    refine lv_iload_n hx hb kb_Mo_work_109 rfl (lv_at hl 3 rfl) ?_
    refine lv_aload_n hx hb kb_Mo_work_110 rfl (lv_at hl 0 rfl) ?_
    obtain ⟨hy, hw⟩ := hw
    refine zr_getI (ci := 8) (f := 808) hx hb hts ki_Mo hown hK hG hy rfl 8 (by decide) (hts _ (List.mem_cons_of_mem _ kw_592)) (fun _ h => h) rfl rfl kb_Mo_work_111 ?_
    refine lv_icmp_ge (tgt := 178) hx hb kb_Mo_work_114 (by decide) (fun hc => ?_) (fun hc => ?_)
    · have hw := hw.1 hc
      refine lv_goto (tgt := 101) hx hb kb_Mo_work_178 (by decide) ?_
      exact hw _ _ _ hG hS (lv_sub hl [0, 1, 2] rfl)
    · have hw := hw.2 hc
      refine lv_aload_n hx hb kb_Mo_work_117 rfl (lv_at hl 0 rfl) ?_
      obtain ⟨hy, r118, hrf, hw⟩ := hw
      refine zr_getR (ci := 8) (f := 821) hx hb hts ki_Mo hown hK hG hy rfl 21 (by decide) (hts _ (List.mem_cons_of_mem _ kw_605)) (fun _ h => h) rfl rfl hrf kb_Mo_work_118 ?_
      refine lv_aload_n hx hb kb_Mo_work_121 rfl (lv_at hl 0 rfl) ?_
      obtain ⟨hy, r122, hrf, hw⟩ := hw
      refine zr_getR (ci := 8) (f := 809) hx hb hts ki_Mo hown hK hG hy rfl 9 (by decide) (hts _ (List.mem_cons_of_mem _ kw_593)) (fun _ h => h) rfl rfl hrf kb_Mo_work_122 ?_
      refine lv_iload_n hx hb kb_Mo_work_125 rfl (lv_at hl 3 rfl) ?_
      obtain ⟨n126, s126, hy, hi, hw⟩ := hw
      refine zr_iald hx hb hK hG 0 hy rfl hi kb_Mo_work_126 ?_
      obtain ⟨n127, s127, hy, hi, hw⟩ := hw
      refine zr_iald hx hb hK hG 0 hy rfl hi kb_Mo_work_127 ?_
      refine lv_iload_n hx hb kb_Mo_work_128 rfl (lv_at hl 1 rfl) ?_
      refine lv_icmp_ne (tgt := 172) hx hb kb_Mo_work_129 (by decide) (fun hc => ?_) (fun hc => ?_)
      · have hw := hw.1 hc
        refine lv_iinc (v := v3 + (1 : Int32)) (lv' := [(3, .int (v3 + (1 : Int32))), (0, .ref a0), (1, .int v1), (2, .int v2)]) hx hb kb_Mo_work_172 hl (k := 3) rfl rfl (by decide) rfl (fun ls hl => ?_)
        refine lv_goto (tgt := 109) hx hb kb_Mo_work_175 (by decide) ?_
        exact hw _ _ _ hG hS (lv_sub hl [1, 2, 3, 0] rfl)
      · have hw := hw.2 hc
        refine lv_aload_n hx hb kb_Mo_work_132 rfl (lv_at hl 0 rfl) ?_
        obtain ⟨hy, r133, hrf, hw⟩ := hw
        refine zr_getR (ci := 8) (f := 815) hx hb hts ki_Mo hown hK hG hy rfl 15 (by decide) (hts _ (List.mem_cons_of_mem _ kw_599)) (fun _ h => h) rfl rfl hrf kb_Mo_work_133 ?_
        refine lv_iload_n hx hb kb_Mo_work_136 rfl (lv_at hl 3 rfl) ?_
        obtain ⟨n137, s137, hy, hi, hw⟩ := hw
        refine zr_zald hx hb hK hG 2 hy rfl hi kb_Mo_work_137 ?_
        refine lv_if_ne (tgt := 172) hx hb kb_Mo_work_138 (by decide) (fun hc => ?_) (fun hc => ?_)
        · have hw := hw.1 hc
          refine lv_iinc (v := v3 + (1 : Int32)) (lv' := [(3, .int (v3 + (1 : Int32))), (0, .ref a0), (1, .int v1), (2, .int v2)]) hx hb kb_Mo_work_172 hl (k := 3) rfl rfl (by decide) rfl (fun ls hl => ?_)
          refine lv_goto (tgt := 109) hx hb kb_Mo_work_175 (by decide) ?_
          exact hw _ _ _ hG hS (lv_sub hl [1, 2, 3, 0] rfl)
        · have hw := hw.2 hc
          refine lv_aload_n hx hb kb_Mo_work_141 rfl (lv_at hl 0 rfl) ?_
          refine lv_iload_n hx hb kb_Mo_work_142 rfl (lv_at hl 3 rfl) ?_
          obtain ⟨hy, hw⟩ := hw
          refine zr_ci (va_runV (C := kR_Mo) (As := [.int v3]) (rest := []) ⟨hx, hb, hml, hown, hts⟩ (kc_Mo_plainRule l D dA Z a0 v3 σ _) ⟨callB_of 1 hts (z_gw kw_805) rfl rfl rfl (hts _ (List.mem_cons_of_mem _ kw_9)) (hts _ (List.mem_cons_of_mem _ kw_803)) (by decide +kernel) ⟨Nat.le_of_ble_eq_true rfl, Nat.le_of_ble_eq_true rfl⟩, (hts _ (List.mem_cons_of_mem _ kw_804)), (hts _ (List.mem_cons_of_mem _ kw_982))⟩ (z_preV z_nwN (Nat.le_trans hZ hS.1) hG hK hN hy (ci := 8) (r := (kR_Mo, kT_Mo, 51)) rfl hw) rfl rfl hl.1 rfl (lv_room (Nat.le_of_ble_eq_true rfl)) kb_Mo_work_143 ⟨Nat.le_of_ble_eq_true rfl, Nat.le_of_ble_eq_true rfl⟩) hS (fun r143 σ143 H locs hw hG hS => ?_)
          refine lv_istore (lv' := [(4, .int r143), (0, .ref a0), (1, .int v1), (2, .int v2), (3, .int v3)]) hx hb kb_Mo_work_146 hl (by decide) rfl (fun ls hl => ?_)
          refine lv_iload hx hb kb_Mo_work_148 (lv_at hl 0 rfl) ?_
          refine lv_bipush (v := (-3 : Int32)) hx hb kb_Mo_work_150 (by decide) ?_
          refine lv_icmp_ne (tgt := 157) hx hb kb_Mo_work_152 (by decide) (fun hc => ?_) (fun hc => ?_)
          · have hw := hw.1 hc
            refine lv_iload_n hx hb kb_Mo_work_157 rfl (lv_at hl 3 rfl) ?_
            refine lv_if_ne (tgt := 166) hx hb kb_Mo_work_158 (by decide) (fun hc => ?_) (fun hc => ?_)
            · have hw := hw.1 hc
              refine lv_iconst (v := (1 : Int32)) hx hb kb_Mo_work_166 (by decide) ?_
              refine lv_goto (tgt := 171) hx hb kb_Mo_work_167 (by decide) ?_
              refine lv_istore_n (lv' := [(2, .int ((1 : Int32))), (4, .int r143), (0, .ref a0), (1, .int v1), (3, .int v3)]) hx hb kb_Mo_work_171 rfl hl (by decide) rfl (fun ls hl => ?_)
              refine lv_iinc (v := v3 + (1 : Int32)) (lv' := [(3, .int (v3 + (1 : Int32))), (2, .int ((1 : Int32))), (4, .int r143), (0, .ref a0), (1, .int v1)]) hx hb kb_Mo_work_172 hl (k := 4) rfl rfl (by decide) rfl (fun ls hl => ?_)
              refine lv_goto (tgt := 109) hx hb kb_Mo_work_175 (by decide) ?_
              exact hw _ _ _ hG hS (lv_sub hl [3, 4, 1, 0] rfl)
            · have hw := hw.2 hc
              refine lv_iload hx hb kb_Mo_work_161 (lv_at hl 0 rfl) ?_
              refine lv_if_le (tgt := 170) hx hb kb_Mo_work_163 (by decide) (fun hc => ?_) (fun hc => ?_)
              · have hw := hw.1 hc
                refine lv_iconst (v := (0 : Int32)) hx hb kb_Mo_work_170 (by decide) ?_
                refine lv_istore_n (lv' := [(2, .int ((0 : Int32))), (4, .int r143), (0, .ref a0), (1, .int v1), (3, .int v3)]) hx hb kb_Mo_work_171 rfl hl (by decide) rfl (fun ls hl => ?_)
                refine lv_iinc (v := v3 + (1 : Int32)) (lv' := [(3, .int (v3 + (1 : Int32))), (2, .int ((0 : Int32))), (4, .int r143), (0, .ref a0), (1, .int v1)]) hx hb kb_Mo_work_172 hl (k := 4) rfl rfl (by decide) rfl (fun ls hl => ?_)
                refine lv_goto (tgt := 109) hx hb kb_Mo_work_175 (by decide) ?_
                exact hw _ _ _ hG hS (lv_sub hl [3, 4, 1, 0] rfl)
              · have hw := hw.2 hc
                refine lv_iconst (v := (1 : Int32)) hx hb kb_Mo_work_166 (by decide) ?_
                refine lv_goto (tgt := 171) hx hb kb_Mo_work_167 (by decide) ?_
                refine lv_istore_n (lv' := [(2, .int ((1 : Int32))), (4, .int r143), (0, .ref a0), (1, .int v1), (3, .int v3)]) hx hb kb_Mo_work_171 rfl hl (by decide) rfl (fun ls hl => ?_)
                refine lv_iinc (v := v3 + (1 : Int32)) (lv' := [(3, .int (v3 + (1 : Int32))), (2, .int ((1 : Int32))), (4, .int r143), (0, .ref a0), (1, .int v1)]) hx hb kb_Mo_work_172 hl (k := 4) rfl rfl (by decide) rfl (fun ls hl => ?_)
                refine lv_goto (tgt := 109) hx hb kb_Mo_work_175 (by decide) ?_
                exact hw _ _ _ hG hS (lv_sub hl [3, 4, 1, 0] rfl)
          · have hw := hw.2 hc
            refine lv_iconst (v := (0 : Int32)) hx hb kb_Mo_work_155 (by decide) ?_
            exact zr_iret (free := fun q => Z ≤ q) z_nwN hx hb hr rfl hZ hK hN hG hS hw kb_Mo_work_156 hlocks)
  refine lv_iconst (v := (0 : Int32)) hx hb kb_Mo_work_0 (by decide) ?_
  refine lv_istore_n (lv' := [(1, .int ((0 : Int32))), (0, .ref a0)]) hx hb kb_Mo_work_1 rfl hl (by decide) rfl (fun ls hl => ?_)
  exact hw _ _ _ hG hS (lv_sub hl [1, 0] rfl)
def kp_Mo_keep (a0 : Nat) (σ : z_S) (Post : z_S → Prop) : Prop := ∀ (X2 : Int32 → z_S → Prop) (X29 : Int32 → z_S → Prop) (X56 : Int32 → z_S → Prop),
    (∀ (v1 : Int32) (σ : z_S), ((((960 : Int32)) ≤ v1 → X29 ((0 : Int32)) σ) ∧ (¬ ((960 : Int32)) ≤ v1 → z_ty σ a0 = some (.inl 8) ∧ ∃ r10, z_R σ 827 a0 = some r10 ∧ (z_ty σ a0 = some (.inl 8) ∧ ∃ r15, z_R σ 824 a0 = some r15 ∧ (∃ n19 s19, z_ty σ r15 = some (.inr (0, n19, s19)) ∧ vp_in v1 n19 ∧ (∃ n20 s20, z_ty σ r10 = some (.inr (0, n20, s20)) ∧ vp_in v1 n20 ∧ ∀ σ20, σ20 = z_sA σ s20 r10 (upd (z_A σ s20 r10) v1.toNatClampNeg (z_A σ s19 r15 v1.toNatClampNeg)) → X2 (v1 + (1 : Int32)) σ20))))) → X2 v1 σ) →
    (∀ (v1 : Int32) (σ : z_S), ((((320 : Int32)) ≤ v1 → X56 ((0 : Int32)) σ) ∧ (¬ ((320 : Int32)) ≤ v1 → z_ty σ a0 = some (.inl 8) ∧ ∃ r37, z_R σ 828 a0 = some r37 ∧ (z_ty σ a0 = some (.inl 8) ∧ ∃ r42, z_R σ 825 a0 = some r42 ∧ (∃ n46 s46, z_ty σ r42 = some (.inr (0, n46, s46)) ∧ vp_in v1 n46 ∧ (∃ n47 s47, z_ty σ r37 = some (.inr (0, n47, s47)) ∧ vp_in v1 n47 ∧ ∀ σ47, σ47 = z_sA σ s47 r37 (upd (z_A σ s47 r37) v1.toNatClampNeg (z_A σ s46 r42 v1.toNatClampNeg)) → X29 (v1 + (1 : Int32)) σ47))))) → X29 v1 σ) →
    (∀ (v1 : Int32) (σ : z_S), ((((8 : Int32)) ≤ v1 → Post σ) ∧ (¬ ((8 : Int32)) ≤ v1 → z_ty σ a0 = some (.inl 8) ∧ ∃ r63, z_R σ 829 a0 = some r63 ∧ (z_ty σ a0 = some (.inl 8) ∧ ∃ r68, z_R σ 826 a0 = some r68 ∧ (∃ n72 s72, z_ty σ r68 = some (.inr (0, n72, s72)) ∧ vp_in v1 n72 ∧ (∃ n73 s73, z_ty σ r63 = some (.inr (0, n73, s73)) ∧ vp_in v1 n73 ∧ ∀ σ73, σ73 = z_sA σ s73 r63 (upd (z_A σ s73 r63) v1.toNatClampNeg (z_A σ s72 r68 v1.toNatClampNeg)) → X56 (v1 + (1 : Int32)) σ73))))) → X56 v1 σ) →
    (X2 ((0 : Int32)) σ)
set_option maxHeartbeats 4000000 in
set_option maxRecDepth 100000 in
theorem kc_Mo_keep (l : Launch) (D : va_G) (dA : Nat → ClassId) (Z : Nat) (a0 : Nat) (σ : z_S) (Post : z_S → Prop) : Met l km_Mo_keep ks_Mo_keep kr_Mo_keep (va_Pc [.ref a0] (fun U => z_U D z_cl z_KT dA Z (z_tys dA) z_nw σ U ∧ kp_Mo_keep  a0 σ Post)) (z_Qv D z_cl z_KT dA Z (z_tys dA) z_nw Post) 0 0 (fun q => Z ≤ q) := by
  refine Met.ofW (cc := prog_10_method_38_code) (maxL := 2) (ret := none) (by decide) rfl ?_
  intro p e s m args below meth c s₁ B hml hv
  obtain ⟨rfl, ⟨hZ, hG, hK, hN⟩, hw⟩ := hv
  have hx := B.exec
  have hb := B.bytes
  have hr := B.returns
  have hts := atoms_spec (ws := ks_Mo_keep) B.pre
  have hown : s.vm.findClass kR_Mo = some m.cls := findClass_of_methodNamed B.named
  have hlocks := B.notSynchronized
  have hS : va_S (fun q => Z ≤ q) s.heap s.heap [] := va_S.rf
  have hl := lv_entry ([.ref a0]) (n := 2) (Nat.le_of_ble_eq_true rfl)
  rw [lg_entry_eq]
  generalize (lg_sl ([.ref a0]) ++ List.replicate (2 - (lg_sl ([.ref a0])).length) Slot.unset).toArray = ls at hl ⊢
  have hl : lv_has ls 2 [(0, .ref a0)] := hl
  unfold kp_Mo_keep at hw
  have hw := hw (fun (v1 : Int32) (σ : z_S) => ∀ (H : Heap) (locs : List Loc) (ls : Array Slot), z_G D z_cl z_KT dA Z σ H → va_S (fun q => Z ≤ q) s.heap H locs → lv_has ls 2 [(0, .ref a0), (1, .int v1)] → W p l e (headSpec ks_Mo_keep kr_Mo_keep).room s m ([.ref a0] : List Value).toArray below meth c H locs 0 0 (MQ below (z_Qv D z_cl z_KT dA Z (z_tys dA) z_nw Post) ([.ref a0] : List Value).toArray s 0 0 (fun q => Z ≤ q)) (F0 m 2 ls []))
  have hw := hw (fun (v1 : Int32) (σ : z_S) => ∀ (H : Heap) (locs : List Loc) (ls : Array Slot), z_G D z_cl z_KT dA Z σ H → va_S (fun q => Z ≤ q) s.heap H locs → lv_has ls 2 [(0, .ref a0), (1, .int v1)] → W p l e (headSpec ks_Mo_keep kr_Mo_keep).room s m ([.ref a0] : List Value).toArray below meth c H locs 0 0 (MQ below (z_Qv D z_cl z_KT dA Z (z_tys dA) z_nw Post) ([.ref a0] : List Value).toArray s 0 0 (fun q => Z ≤ q)) (F0 m 29 ls []))
  have hw := hw (fun (v1 : Int32) (σ : z_S) => ∀ (H : Heap) (locs : List Loc) (ls : Array Slot), z_G D z_cl z_KT dA Z σ H → va_S (fun q => Z ≤ q) s.heap H locs → lv_has ls 2 [(0, .ref a0), (1, .int v1)] → W p l e (headSpec ks_Mo_keep kr_Mo_keep).room s m ([.ref a0] : List Value).toArray below meth c H locs 0 0 (MQ below (z_Qv D z_cl z_KT dA Z (z_tys dA) z_nw Post) ([.ref a0] : List Value).toArray s 0 0 (fun q => Z ≤ q)) (F0 m 56 ls []))
  have hw := hw (by
    intro v1 σ hw H locs ls hG hS hl
    refine lv_iload_n hx hb kb_Mo_keep_2 rfl (lv_at hl 1 rfl) ?_
    refine lv_sipush (v := (960 : Int32)) hx hb kb_Mo_keep_3 (by decide) ?_
    refine lv_icmp_ge (tgt := 27) hx hb kb_Mo_keep_6 (by decide) (fun hc => ?_) (fun hc => ?_)
    · have hw := hw.1 hc
      refine lv_iconst (v := (0 : Int32)) hx hb kb_Mo_keep_27 (by decide) ?_
      refine lv_istore_n (lv' := [(1, .int ((0 : Int32))), (0, .ref a0)]) hx hb kb_Mo_keep_28 rfl hl (by decide) rfl (fun ls hl => ?_)
      exact hw _ _ _ hG hS (lv_sub hl [1, 0] rfl)
    · have hw := hw.2 hc
      refine lv_aload_n hx hb kb_Mo_keep_9 rfl (lv_at hl 0 rfl) ?_
      obtain ⟨hy, r10, hrf, hw⟩ := hw
      refine zr_getR (ci := 8) (f := 827) hx hb hts ki_Mo hown hK hG hy rfl 27 (by decide) (hts _ (List.mem_cons_of_mem _ kw_611)) (fun _ h => h) rfl rfl hrf kb_Mo_keep_10 ?_
      refine lv_iload_n hx hb kb_Mo_keep_13 rfl (lv_at hl 1 rfl) ?_
      refine lv_aload_n hx hb kb_Mo_keep_14 rfl (lv_at hl 0 rfl) ?_
      obtain ⟨hy, r15, hrf, hw⟩ := hw
      refine zr_getR (ci := 8) (f := 824) hx hb hts ki_Mo hown hK hG hy rfl 24 (by decide) (hts _ (List.mem_cons_of_mem _ kw_608)) (fun _ h => h) rfl rfl hrf kb_Mo_keep_15 ?_
      refine lv_iload_n hx hb kb_Mo_keep_18 rfl (lv_at hl 1 rfl) ?_
      obtain ⟨n19, s19, hy, hi, hw⟩ := hw
      refine zr_iald hx hb hK hG 0 hy rfl hi kb_Mo_keep_19 ?_
      obtain ⟨n20, s20, hy, hi, hw⟩ := hw
      refine zr_iast hx hb hK hG hS 0 hy rfl hi kb_Mo_keep_20 (fun H locs hG hS => ?_)
      obtain ⟨σ20, e20⟩ : ∃ z, z = z_sA σ s20 r10 (upd (z_A σ s20 r10) v1.toNatClampNeg (z_A σ s19 r15 v1.toNatClampNeg)) := ⟨_, rfl⟩
      rw [← e20] at hG
      have hw := hw _ e20
      refine lv_iinc (v := v1 + (1 : Int32)) (lv' := [(1, .int (v1 + (1 : Int32))), (0, .ref a0)]) hx hb kb_Mo_keep_21 hl (k := 1) rfl rfl (by decide) rfl (fun ls hl => ?_)
      refine lv_goto (tgt := 2) hx hb kb_Mo_keep_24 (by decide) ?_
      exact hw _ _ _ hG hS (lv_sub hl [1, 0] rfl))
  have hw := hw (by
    intro v1 σ hw H locs ls hG hS hl
    refine lv_iload_n hx hb kb_Mo_keep_29 rfl (lv_at hl 1 rfl) ?_
    refine lv_sipush (v := (320 : Int32)) hx hb kb_Mo_keep_30 (by decide) ?_
    refine lv_icmp_ge (tgt := 54) hx hb kb_Mo_keep_33 (by decide) (fun hc => ?_) (fun hc => ?_)
    · have hw := hw.1 hc
      refine lv_iconst (v := (0 : Int32)) hx hb kb_Mo_keep_54 (by decide) ?_
      refine lv_istore_n (lv' := [(1, .int ((0 : Int32))), (0, .ref a0)]) hx hb kb_Mo_keep_55 rfl hl (by decide) rfl (fun ls hl => ?_)
      exact hw _ _ _ hG hS (lv_sub hl [1, 0] rfl)
    · have hw := hw.2 hc
      refine lv_aload_n hx hb kb_Mo_keep_36 rfl (lv_at hl 0 rfl) ?_
      obtain ⟨hy, r37, hrf, hw⟩ := hw
      refine zr_getR (ci := 8) (f := 828) hx hb hts ki_Mo hown hK hG hy rfl 28 (by decide) (hts _ (List.mem_cons_of_mem _ kw_612)) (fun _ h => h) rfl rfl hrf kb_Mo_keep_37 ?_
      refine lv_iload_n hx hb kb_Mo_keep_40 rfl (lv_at hl 1 rfl) ?_
      refine lv_aload_n hx hb kb_Mo_keep_41 rfl (lv_at hl 0 rfl) ?_
      obtain ⟨hy, r42, hrf, hw⟩ := hw
      refine zr_getR (ci := 8) (f := 825) hx hb hts ki_Mo hown hK hG hy rfl 25 (by decide) (hts _ (List.mem_cons_of_mem _ kw_609)) (fun _ h => h) rfl rfl hrf kb_Mo_keep_42 ?_
      refine lv_iload_n hx hb kb_Mo_keep_45 rfl (lv_at hl 1 rfl) ?_
      obtain ⟨n46, s46, hy, hi, hw⟩ := hw
      refine zr_iald hx hb hK hG 0 hy rfl hi kb_Mo_keep_46 ?_
      obtain ⟨n47, s47, hy, hi, hw⟩ := hw
      refine zr_iast hx hb hK hG hS 0 hy rfl hi kb_Mo_keep_47 (fun H locs hG hS => ?_)
      obtain ⟨σ47, e47⟩ : ∃ z, z = z_sA σ s47 r37 (upd (z_A σ s47 r37) v1.toNatClampNeg (z_A σ s46 r42 v1.toNatClampNeg)) := ⟨_, rfl⟩
      rw [← e47] at hG
      have hw := hw _ e47
      refine lv_iinc (v := v1 + (1 : Int32)) (lv' := [(1, .int (v1 + (1 : Int32))), (0, .ref a0)]) hx hb kb_Mo_keep_48 hl (k := 1) rfl rfl (by decide) rfl (fun ls hl => ?_)
      refine lv_goto (tgt := 29) hx hb kb_Mo_keep_51 (by decide) ?_
      exact hw _ _ _ hG hS (lv_sub hl [1, 0] rfl))
  have hw := hw (by
    intro v1 σ hw H locs ls hG hS hl
    refine lv_iload_n hx hb kb_Mo_keep_56 rfl (lv_at hl 1 rfl) ?_
    refine lv_bipush (v := (8 : Int32)) hx hb kb_Mo_keep_57 (by decide) ?_
    refine lv_icmp_ge (tgt := 80) hx hb kb_Mo_keep_59 (by decide) (fun hc => ?_) (fun hc => ?_)
    · have hw := hw.1 hc
      exact zr_vret z_nwN hx hb hr hZ hK hN hG hS hw kb_Mo_keep_80 hlocks
    · have hw := hw.2 hc
      refine lv_aload_n hx hb kb_Mo_keep_62 rfl (lv_at hl 0 rfl) ?_
      obtain ⟨hy, r63, hrf, hw⟩ := hw
      refine zr_getR (ci := 8) (f := 829) hx hb hts ki_Mo hown hK hG hy rfl 29 (by decide) (hts _ (List.mem_cons_of_mem _ kw_613)) (fun _ h => h) rfl rfl hrf kb_Mo_keep_63 ?_
      refine lv_iload_n hx hb kb_Mo_keep_66 rfl (lv_at hl 1 rfl) ?_
      refine lv_aload_n hx hb kb_Mo_keep_67 rfl (lv_at hl 0 rfl) ?_
      obtain ⟨hy, r68, hrf, hw⟩ := hw
      refine zr_getR (ci := 8) (f := 826) hx hb hts ki_Mo hown hK hG hy rfl 26 (by decide) (hts _ (List.mem_cons_of_mem _ kw_610)) (fun _ h => h) rfl rfl hrf kb_Mo_keep_68 ?_
      refine lv_iload_n hx hb kb_Mo_keep_71 rfl (lv_at hl 1 rfl) ?_
      obtain ⟨n72, s72, hy, hi, hw⟩ := hw
      refine zr_iald hx hb hK hG 0 hy rfl hi kb_Mo_keep_72 ?_
      obtain ⟨n73, s73, hy, hi, hw⟩ := hw
      refine zr_iast hx hb hK hG hS 0 hy rfl hi kb_Mo_keep_73 (fun H locs hG hS => ?_)
      obtain ⟨σ73, e73⟩ : ∃ z, z = z_sA σ s73 r63 (upd (z_A σ s73 r63) v1.toNatClampNeg (z_A σ s72 r68 v1.toNatClampNeg)) := ⟨_, rfl⟩
      rw [← e73] at hG
      have hw := hw _ e73
      refine lv_iinc (v := v1 + (1 : Int32)) (lv' := [(1, .int (v1 + (1 : Int32))), (0, .ref a0)]) hx hb kb_Mo_keep_74 hl (k := 1) rfl rfl (by decide) rfl (fun ls hl => ?_)
      refine lv_goto (tgt := 56) hx hb kb_Mo_keep_77 (by decide) ?_
      exact hw _ _ _ hG hS (lv_sub hl [1, 0] rfl))
  refine lv_iconst (v := (0 : Int32)) hx hb kb_Mo_keep_0 (by decide) ?_
  refine lv_istore_n (lv' := [(1, .int ((0 : Int32))), (0, .ref a0)]) hx hb kb_Mo_keep_1 rfl hl (by decide) rfl (fun ls hl => ?_)
  exact hw _ _ _ hG hS (lv_sub hl [1, 0] rfl)
def kp_Mo_back (a0 : Nat) (σ : z_S) (Post : z_S → Prop) : Prop := ∀ (X2 : Int32 → z_S → Prop) (X29 : Int32 → z_S → Prop) (X56 : Int32 → z_S → Prop),
    (∀ (v1 : Int32) (σ : z_S), ((((960 : Int32)) ≤ v1 → X29 ((0 : Int32)) σ) ∧ (¬ ((960 : Int32)) ≤ v1 → z_ty σ a0 = some (.inl 8) ∧ ∃ r10, z_R σ 824 a0 = some r10 ∧ (z_ty σ a0 = some (.inl 8) ∧ ∃ r15, z_R σ 827 a0 = some r15 ∧ (∃ n19 s19, z_ty σ r15 = some (.inr (0, n19, s19)) ∧ vp_in v1 n19 ∧ (∃ n20 s20, z_ty σ r10 = some (.inr (0, n20, s20)) ∧ vp_in v1 n20 ∧ ∀ σ20, σ20 = z_sA σ s20 r10 (upd (z_A σ s20 r10) v1.toNatClampNeg (z_A σ s19 r15 v1.toNatClampNeg)) → X2 (v1 + (1 : Int32)) σ20))))) → X2 v1 σ) →
    (∀ (v1 : Int32) (σ : z_S), ((((320 : Int32)) ≤ v1 → X56 ((0 : Int32)) σ) ∧ (¬ ((320 : Int32)) ≤ v1 → z_ty σ a0 = some (.inl 8) ∧ ∃ r37, z_R σ 825 a0 = some r37 ∧ (z_ty σ a0 = some (.inl 8) ∧ ∃ r42, z_R σ 828 a0 = some r42 ∧ (∃ n46 s46, z_ty σ r42 = some (.inr (0, n46, s46)) ∧ vp_in v1 n46 ∧ (∃ n47 s47, z_ty σ r37 = some (.inr (0, n47, s47)) ∧ vp_in v1 n47 ∧ ∀ σ47, σ47 = z_sA σ s47 r37 (upd (z_A σ s47 r37) v1.toNatClampNeg (z_A σ s46 r42 v1.toNatClampNeg)) → X29 (v1 + (1 : Int32)) σ47))))) → X29 v1 σ) →
    (∀ (v1 : Int32) (σ : z_S), ((((8 : Int32)) ≤ v1 → Post σ) ∧ (¬ ((8 : Int32)) ≤ v1 → z_ty σ a0 = some (.inl 8) ∧ ∃ r63, z_R σ 826 a0 = some r63 ∧ (z_ty σ a0 = some (.inl 8) ∧ ∃ r68, z_R σ 829 a0 = some r68 ∧ (∃ n72 s72, z_ty σ r68 = some (.inr (0, n72, s72)) ∧ vp_in v1 n72 ∧ (∃ n73 s73, z_ty σ r63 = some (.inr (0, n73, s73)) ∧ vp_in v1 n73 ∧ ∀ σ73, σ73 = z_sA σ s73 r63 (upd (z_A σ s73 r63) v1.toNatClampNeg (z_A σ s72 r68 v1.toNatClampNeg)) → X56 (v1 + (1 : Int32)) σ73))))) → X56 v1 σ) →
    (X2 ((0 : Int32)) σ)
set_option maxHeartbeats 4000000 in
set_option maxRecDepth 100000 in
theorem kc_Mo_back (l : Launch) (D : va_G) (dA : Nat → ClassId) (Z : Nat) (a0 : Nat) (σ : z_S) (Post : z_S → Prop) : Met l km_Mo_back ks_Mo_back kr_Mo_back (va_Pc [.ref a0] (fun U => z_U D z_cl z_KT dA Z (z_tys dA) z_nw σ U ∧ kp_Mo_back  a0 σ Post)) (z_Qv D z_cl z_KT dA Z (z_tys dA) z_nw Post) 0 0 (fun q => Z ≤ q) := by
  refine Met.ofW (cc := prog_10_method_39_code) (maxL := 2) (ret := none) (by decide) rfl ?_
  intro p e s m args below meth c s₁ B hml hv
  obtain ⟨rfl, ⟨hZ, hG, hK, hN⟩, hw⟩ := hv
  have hx := B.exec
  have hb := B.bytes
  have hr := B.returns
  have hts := atoms_spec (ws := ks_Mo_back) B.pre
  have hown : s.vm.findClass kR_Mo = some m.cls := findClass_of_methodNamed B.named
  have hlocks := B.notSynchronized
  have hS : va_S (fun q => Z ≤ q) s.heap s.heap [] := va_S.rf
  have hl := lv_entry ([.ref a0]) (n := 2) (Nat.le_of_ble_eq_true rfl)
  rw [lg_entry_eq]
  generalize (lg_sl ([.ref a0]) ++ List.replicate (2 - (lg_sl ([.ref a0])).length) Slot.unset).toArray = ls at hl ⊢
  have hl : lv_has ls 2 [(0, .ref a0)] := hl
  unfold kp_Mo_back at hw
  have hw := hw (fun (v1 : Int32) (σ : z_S) => ∀ (H : Heap) (locs : List Loc) (ls : Array Slot), z_G D z_cl z_KT dA Z σ H → va_S (fun q => Z ≤ q) s.heap H locs → lv_has ls 2 [(0, .ref a0), (1, .int v1)] → W p l e (headSpec ks_Mo_back kr_Mo_back).room s m ([.ref a0] : List Value).toArray below meth c H locs 0 0 (MQ below (z_Qv D z_cl z_KT dA Z (z_tys dA) z_nw Post) ([.ref a0] : List Value).toArray s 0 0 (fun q => Z ≤ q)) (F0 m 2 ls []))
  have hw := hw (fun (v1 : Int32) (σ : z_S) => ∀ (H : Heap) (locs : List Loc) (ls : Array Slot), z_G D z_cl z_KT dA Z σ H → va_S (fun q => Z ≤ q) s.heap H locs → lv_has ls 2 [(0, .ref a0), (1, .int v1)] → W p l e (headSpec ks_Mo_back kr_Mo_back).room s m ([.ref a0] : List Value).toArray below meth c H locs 0 0 (MQ below (z_Qv D z_cl z_KT dA Z (z_tys dA) z_nw Post) ([.ref a0] : List Value).toArray s 0 0 (fun q => Z ≤ q)) (F0 m 29 ls []))
  have hw := hw (fun (v1 : Int32) (σ : z_S) => ∀ (H : Heap) (locs : List Loc) (ls : Array Slot), z_G D z_cl z_KT dA Z σ H → va_S (fun q => Z ≤ q) s.heap H locs → lv_has ls 2 [(0, .ref a0), (1, .int v1)] → W p l e (headSpec ks_Mo_back kr_Mo_back).room s m ([.ref a0] : List Value).toArray below meth c H locs 0 0 (MQ below (z_Qv D z_cl z_KT dA Z (z_tys dA) z_nw Post) ([.ref a0] : List Value).toArray s 0 0 (fun q => Z ≤ q)) (F0 m 56 ls []))
  have hw := hw (by
    intro v1 σ hw H locs ls hG hS hl
    refine lv_iload_n hx hb kb_Mo_back_2 rfl (lv_at hl 1 rfl) ?_
    refine lv_sipush (v := (960 : Int32)) hx hb kb_Mo_back_3 (by decide) ?_
    refine lv_icmp_ge (tgt := 27) hx hb kb_Mo_back_6 (by decide) (fun hc => ?_) (fun hc => ?_)
    · have hw := hw.1 hc
      refine lv_iconst (v := (0 : Int32)) hx hb kb_Mo_back_27 (by decide) ?_
      refine lv_istore_n (lv' := [(1, .int ((0 : Int32))), (0, .ref a0)]) hx hb kb_Mo_back_28 rfl hl (by decide) rfl (fun ls hl => ?_)
      exact hw _ _ _ hG hS (lv_sub hl [1, 0] rfl)
    · have hw := hw.2 hc
      refine lv_aload_n hx hb kb_Mo_back_9 rfl (lv_at hl 0 rfl) ?_
      obtain ⟨hy, r10, hrf, hw⟩ := hw
      refine zr_getR (ci := 8) (f := 824) hx hb hts ki_Mo hown hK hG hy rfl 24 (by decide) (hts _ (List.mem_cons_of_mem _ kw_608)) (fun _ h => h) rfl rfl hrf kb_Mo_back_10 ?_
      refine lv_iload_n hx hb kb_Mo_back_13 rfl (lv_at hl 1 rfl) ?_
      refine lv_aload_n hx hb kb_Mo_back_14 rfl (lv_at hl 0 rfl) ?_
      obtain ⟨hy, r15, hrf, hw⟩ := hw
      refine zr_getR (ci := 8) (f := 827) hx hb hts ki_Mo hown hK hG hy rfl 27 (by decide) (hts _ (List.mem_cons_of_mem _ kw_611)) (fun _ h => h) rfl rfl hrf kb_Mo_back_15 ?_
      refine lv_iload_n hx hb kb_Mo_back_18 rfl (lv_at hl 1 rfl) ?_
      obtain ⟨n19, s19, hy, hi, hw⟩ := hw
      refine zr_iald hx hb hK hG 0 hy rfl hi kb_Mo_back_19 ?_
      obtain ⟨n20, s20, hy, hi, hw⟩ := hw
      refine zr_iast hx hb hK hG hS 0 hy rfl hi kb_Mo_back_20 (fun H locs hG hS => ?_)
      obtain ⟨σ20, e20⟩ : ∃ z, z = z_sA σ s20 r10 (upd (z_A σ s20 r10) v1.toNatClampNeg (z_A σ s19 r15 v1.toNatClampNeg)) := ⟨_, rfl⟩
      rw [← e20] at hG
      have hw := hw _ e20
      refine lv_iinc (v := v1 + (1 : Int32)) (lv' := [(1, .int (v1 + (1 : Int32))), (0, .ref a0)]) hx hb kb_Mo_back_21 hl (k := 1) rfl rfl (by decide) rfl (fun ls hl => ?_)
      refine lv_goto (tgt := 2) hx hb kb_Mo_back_24 (by decide) ?_
      exact hw _ _ _ hG hS (lv_sub hl [1, 0] rfl))
  have hw := hw (by
    intro v1 σ hw H locs ls hG hS hl
    refine lv_iload_n hx hb kb_Mo_back_29 rfl (lv_at hl 1 rfl) ?_
    refine lv_sipush (v := (320 : Int32)) hx hb kb_Mo_back_30 (by decide) ?_
    refine lv_icmp_ge (tgt := 54) hx hb kb_Mo_back_33 (by decide) (fun hc => ?_) (fun hc => ?_)
    · have hw := hw.1 hc
      refine lv_iconst (v := (0 : Int32)) hx hb kb_Mo_back_54 (by decide) ?_
      refine lv_istore_n (lv' := [(1, .int ((0 : Int32))), (0, .ref a0)]) hx hb kb_Mo_back_55 rfl hl (by decide) rfl (fun ls hl => ?_)
      exact hw _ _ _ hG hS (lv_sub hl [1, 0] rfl)
    · have hw := hw.2 hc
      refine lv_aload_n hx hb kb_Mo_back_36 rfl (lv_at hl 0 rfl) ?_
      obtain ⟨hy, r37, hrf, hw⟩ := hw
      refine zr_getR (ci := 8) (f := 825) hx hb hts ki_Mo hown hK hG hy rfl 25 (by decide) (hts _ (List.mem_cons_of_mem _ kw_609)) (fun _ h => h) rfl rfl hrf kb_Mo_back_37 ?_
      refine lv_iload_n hx hb kb_Mo_back_40 rfl (lv_at hl 1 rfl) ?_
      refine lv_aload_n hx hb kb_Mo_back_41 rfl (lv_at hl 0 rfl) ?_
      obtain ⟨hy, r42, hrf, hw⟩ := hw
      refine zr_getR (ci := 8) (f := 828) hx hb hts ki_Mo hown hK hG hy rfl 28 (by decide) (hts _ (List.mem_cons_of_mem _ kw_612)) (fun _ h => h) rfl rfl hrf kb_Mo_back_42 ?_
      refine lv_iload_n hx hb kb_Mo_back_45 rfl (lv_at hl 1 rfl) ?_
      obtain ⟨n46, s46, hy, hi, hw⟩ := hw
      refine zr_iald hx hb hK hG 0 hy rfl hi kb_Mo_back_46 ?_
      obtain ⟨n47, s47, hy, hi, hw⟩ := hw
      refine zr_iast hx hb hK hG hS 0 hy rfl hi kb_Mo_back_47 (fun H locs hG hS => ?_)
      obtain ⟨σ47, e47⟩ : ∃ z, z = z_sA σ s47 r37 (upd (z_A σ s47 r37) v1.toNatClampNeg (z_A σ s46 r42 v1.toNatClampNeg)) := ⟨_, rfl⟩
      rw [← e47] at hG
      have hw := hw _ e47
      refine lv_iinc (v := v1 + (1 : Int32)) (lv' := [(1, .int (v1 + (1 : Int32))), (0, .ref a0)]) hx hb kb_Mo_back_48 hl (k := 1) rfl rfl (by decide) rfl (fun ls hl => ?_)
      refine lv_goto (tgt := 29) hx hb kb_Mo_back_51 (by decide) ?_
      exact hw _ _ _ hG hS (lv_sub hl [1, 0] rfl))
  have hw := hw (by
    intro v1 σ hw H locs ls hG hS hl
    refine lv_iload_n hx hb kb_Mo_back_56 rfl (lv_at hl 1 rfl) ?_
    refine lv_bipush (v := (8 : Int32)) hx hb kb_Mo_back_57 (by decide) ?_
    refine lv_icmp_ge (tgt := 80) hx hb kb_Mo_back_59 (by decide) (fun hc => ?_) (fun hc => ?_)
    · have hw := hw.1 hc
      exact zr_vret z_nwN hx hb hr hZ hK hN hG hS hw kb_Mo_back_80 hlocks
    · have hw := hw.2 hc
      refine lv_aload_n hx hb kb_Mo_back_62 rfl (lv_at hl 0 rfl) ?_
      obtain ⟨hy, r63, hrf, hw⟩ := hw
      refine zr_getR (ci := 8) (f := 826) hx hb hts ki_Mo hown hK hG hy rfl 26 (by decide) (hts _ (List.mem_cons_of_mem _ kw_610)) (fun _ h => h) rfl rfl hrf kb_Mo_back_63 ?_
      refine lv_iload_n hx hb kb_Mo_back_66 rfl (lv_at hl 1 rfl) ?_
      refine lv_aload_n hx hb kb_Mo_back_67 rfl (lv_at hl 0 rfl) ?_
      obtain ⟨hy, r68, hrf, hw⟩ := hw
      refine zr_getR (ci := 8) (f := 829) hx hb hts ki_Mo hown hK hG hy rfl 29 (by decide) (hts _ (List.mem_cons_of_mem _ kw_613)) (fun _ h => h) rfl rfl hrf kb_Mo_back_68 ?_
      refine lv_iload_n hx hb kb_Mo_back_71 rfl (lv_at hl 1 rfl) ?_
      obtain ⟨n72, s72, hy, hi, hw⟩ := hw
      refine zr_iald hx hb hK hG 0 hy rfl hi kb_Mo_back_72 ?_
      obtain ⟨n73, s73, hy, hi, hw⟩ := hw
      refine zr_iast hx hb hK hG hS 0 hy rfl hi kb_Mo_back_73 (fun H locs hG hS => ?_)
      obtain ⟨σ73, e73⟩ : ∃ z, z = z_sA σ s73 r63 (upd (z_A σ s73 r63) v1.toNatClampNeg (z_A σ s72 r68 v1.toNatClampNeg)) := ⟨_, rfl⟩
      rw [← e73] at hG
      have hw := hw _ e73
      refine lv_iinc (v := v1 + (1 : Int32)) (lv' := [(1, .int (v1 + (1 : Int32))), (0, .ref a0)]) hx hb kb_Mo_back_74 hl (k := 1) rfl rfl (by decide) rfl (fun ls hl => ?_)
      refine lv_goto (tgt := 56) hx hb kb_Mo_back_77 (by decide) ?_
      exact hw _ _ _ hG hS (lv_sub hl [1, 0] rfl))
  refine lv_iconst (v := (0 : Int32)) hx hb kb_Mo_back_0 (by decide) ?_
  refine lv_istore_n (lv' := [(1, .int ((0 : Int32))), (0, .ref a0)]) hx hb kb_Mo_back_1 rfl hl (by decide) rfl (fun ls hl => ?_)
  exact hw _ _ _ hG hS (lv_sub hl [1, 0] rfl)
def kp_Mo_sum (a0 : Nat) (b1 : Nat) (x2 : Int32) (x3 : Int32) (x4 : Int32) (σ : z_S) (Post : z_S → Prop) : Prop := ∀ (X8 : Int32 → z_S → Prop) (X28 : Int32 → Int32 → Int32 → Int32 → z_S → Prop) (X143 : Int32 → Int32 → Int32 → Int32 → z_S → Prop) (X196 : Int32 → Int32 → Int32 → z_S → Prop),
    (∀ (v5 : Int32) (σ : z_S), ((x3 ≤ v5 → Post σ) ∧ (¬ x3 ≤ v5 → X28 v5 (x2 + (((5 : Int32)) * v5)) ((-1 : Int32)) ((0 : Int32)) σ)) → X8 v5 σ) →
    (∀ (v5 : Int32) (v6 : Int32) (v7 : Int32) (v8 : Int32) (σ : z_S), (z_ty σ a0 = some (.inl 8) ∧ (((z_I σ 847 a0) ≤ v8 → (¬ v7 = ((-1 : Int32)) → X196 v5 v6 v7 σ) ∧ (v7 = ((-1 : Int32)) → z_ty σ a0 = some (.inl 8) ∧ (X143 v5 v6 (z_I σ 847 a0) ((0 : Int32)) σ))) ∧ (¬ (z_I σ 847 a0) ≤ v8 → z_ty σ a0 = some (.inl 8) ∧ ∃ r38, z_R σ 846 a0 = some r38 ∧ (∃ n45 s45, z_ty σ r38 = some (.inr (0, n45, s45)) ∧ vp_in (((5 : Int32)) * v8) n45 ∧ (∃ n49 s49, z_ty σ b1 = some (.inr (0, n49, s49)) ∧ vp_in v6 n49 ∧ ((¬ (z_A σ s45 r38 (((5 : Int32)) * v8).toNatClampNeg) = (z_A σ s49 b1 v6.toNatClampNeg) → X28 v5 v6 v7 (v8 + (1 : Int32)) σ) ∧ ((z_A σ s45 r38 (((5 : Int32)) * v8).toNatClampNeg) = (z_A σ s49 b1 v6.toNatClampNeg) → z_ty σ a0 = some (.inl 8) ∧ ∃ r54, z_R σ 846 a0 = some r54 ∧ (∃ n63 s63, z_ty σ r54 = some (.inr (0, n63, s63)) ∧ vp_in ((((5 : Int32)) * v8) + ((1 : Int32))) n63 ∧ (∃ n69 s69, z_ty σ b1 = some (.inr (0, n69, s69)) ∧ vp_in (v6 + ((1 : Int32))) n69 ∧ ((¬ (z_A σ s63 r54 ((((5 : Int32)) * v8) + ((1 : Int32))).toNatClampNeg) = (z_A σ s69 b1 (v6 + ((1 : Int32))).toNatClampNeg) → X28 v5 v6 v7 (v8 + (1 : Int32)) σ) ∧ ((z_A σ s63 r54 ((((5 : Int32)) * v8) + ((1 : Int32))).toNatClampNeg) = (z_A σ s69 b1 (v6 + ((1 : Int32))).toNatClampNeg) → z_ty σ a0 = some (.inl 8) ∧ ∃ r74, z_R σ 846 a0 = some r74 ∧ (∃ n83 s83, z_ty σ r74 = some (.inr (0, n83, s83)) ∧ vp_in ((((5 : Int32)) * v8) + ((2 : Int32))) n83 ∧ (∃ n89 s89, z_ty σ b1 = some (.inr (0, n89, s89)) ∧ vp_in (v6 + ((2 : Int32))) n89 ∧ ((¬ (z_A σ s83 r74 ((((5 : Int32)) * v8) + ((2 : Int32))).toNatClampNeg) = (z_A σ s89 b1 (v6 + ((2 : Int32))).toNatClampNeg) → X28 v5 v6 v7 (v8 + (1 : Int32)) σ) ∧ ((z_A σ s83 r74 ((((5 : Int32)) * v8) + ((2 : Int32))).toNatClampNeg) = (z_A σ s89 b1 (v6 + ((2 : Int32))).toNatClampNeg) → z_ty σ a0 = some (.inl 8) ∧ ∃ r94, z_R σ 846 a0 = some r94 ∧ (∃ n103 s103, z_ty σ r94 = some (.inr (0, n103, s103)) ∧ vp_in ((((5 : Int32)) * v8) + ((3 : Int32))) n103 ∧ (∃ n109 s109, z_ty σ b1 = some (.inr (0, n109, s109)) ∧ vp_in (v6 + ((3 : Int32))) n109 ∧ ((¬ (z_A σ s103 r94 ((((5 : Int32)) * v8) + ((3 : Int32))).toNatClampNeg) = (z_A σ s109 b1 (v6 + ((3 : Int32))).toNatClampNeg) → X28 v5 v6 v7 (v8 + (1 : Int32)) σ) ∧ ((z_A σ s103 r94 ((((5 : Int32)) * v8) + ((3 : Int32))).toNatClampNeg) = (z_A σ s109 b1 (v6 + ((3 : Int32))).toNatClampNeg) → X28 v5 v6 v8 (v8 + (1 : Int32)) σ))))))))))))))))))) → X28 v5 v6 v7 v8 σ) →
    (∀ (v5 : Int32) (v6 : Int32) (v7 : Int32) (v8 : Int32) (σ : z_S), ((((4 : Int32)) ≤ v8 → z_ty σ a0 = some (.inl 8) ∧ ∃ r175, z_R σ 846 a0 = some r175 ∧ (∃ n185 s185, z_ty σ r175 = some (.inr (0, n185, s185)) ∧ vp_in ((((5 : Int32)) * v7) + ((4 : Int32))) n185 ∧ ∀ σ185, σ185 = z_sA σ s185 r175 (upd (z_A σ s185 r175) ((((5 : Int32)) * v7) + ((4 : Int32))).toNatClampNeg ((0 : Int32))) → z_ty σ185 a0 = some (.inl 8) ∧ (z_ty σ185 a0 = some (.inl 8) ∧ ∀ σ193, σ193 = z_sI σ185 847 a0 ((z_I σ185 847 a0) + ((1 : Int32))) → X196 v5 v6 v7 σ193))) ∧ (¬ ((4 : Int32)) ≤ v8 → z_ty σ a0 = some (.inl 8) ∧ ∃ r150, z_R σ 846 a0 = some r150 ∧ (∃ n166 s166, z_ty σ b1 = some (.inr (0, n166, s166)) ∧ vp_in (v6 + v8) n166 ∧ (∃ n167 s167, z_ty σ r150 = some (.inr (0, n167, s167)) ∧ vp_in ((((5 : Int32)) * v7) + v8) n167 ∧ ∀ σ167, σ167 = z_sA σ s167 r150 (upd (z_A σ s167 r150) ((((5 : Int32)) * v7) + v8).toNatClampNeg (z_A σ s166 b1 (v6 + v8).toNatClampNeg)) → X143 v5 v6 v7 (v8 + (1 : Int32)) σ167)))) → X143 v5 v6 v7 v8 σ) →
    (∀ (v5 : Int32) (v6 : Int32) (v7 : Int32) (σ : z_S), (z_ty σ a0 = some (.inl 8) ∧ ∃ r197, z_R σ 846 a0 = some r197 ∧ (∃ n207 s207, z_ty σ r197 = some (.inr (0, n207, s207)) ∧ vp_in ((((5 : Int32)) * v7) + ((4 : Int32))) n207 ∧ (∃ n215 s215, z_ty σ b1 = some (.inr (0, n215, s215)) ∧ vp_in (v6 + ((4 : Int32))) n215 ∧ (∃ n218 s218, z_ty σ r197 = some (.inr (0, n218, s218)) ∧ vp_in ((((5 : Int32)) * v7) + ((4 : Int32))) n218 ∧ ∀ σ218, σ218 = z_sA σ s218 r197 (upd (z_A σ s218 r197) ((((5 : Int32)) * v7) + ((4 : Int32))).toNatClampNeg ((z_A σ s207 r197 ((((5 : Int32)) * v7) + ((4 : Int32))).toNatClampNeg) + (x4 * (z_A σ s215 b1 (v6 + ((4 : Int32))).toNatClampNeg)))) → X8 (v5 + (1 : Int32)) σ218)))) → X196 v5 v6 v7 σ) →
    (z_ty σ a0 = some (.inl 8) ∧ ∀ σ2, σ2 = z_sI σ 847 a0 ((0 : Int32)) → X8 ((0 : Int32)) σ2)
set_option maxHeartbeats 4000000 in
set_option maxRecDepth 100000 in
theorem kc_Mo_sum (l : Launch) (D : va_G) (dA : Nat → ClassId) (Z : Nat) (a0 : Nat) (b1 : Nat) (x2 : Int32) (x3 : Int32) (x4 : Int32) (σ : z_S) (Post : z_S → Prop) : Met l km_Mo_sum ks_Mo_sum kr_Mo_sum (va_Pc [.ref a0, .ref b1, .int x2, .int x3, .int x4] (fun U => z_U D z_cl z_KT dA Z (z_tys dA) z_nw σ U ∧ kp_Mo_sum  a0 b1 x2 x3 x4 σ Post)) (z_Qv D z_cl z_KT dA Z (z_tys dA) z_nw Post) 0 0 (fun q => Z ≤ q) := by
  refine Met.ofW (cc := prog_10_method_40_code) (maxL := 9) (ret := none) (by decide) rfl ?_
  intro p e s m args below meth c s₁ B hml hv
  obtain ⟨rfl, ⟨hZ, hG, hK, hN⟩, hw⟩ := hv
  have hx := B.exec
  have hb := B.bytes
  have hr := B.returns
  have hts := atoms_spec (ws := ks_Mo_sum) B.pre
  have hown : s.vm.findClass kR_Mo = some m.cls := findClass_of_methodNamed B.named
  have hlocks := B.notSynchronized
  have hS : va_S (fun q => Z ≤ q) s.heap s.heap [] := va_S.rf
  have hl := lv_entry ([.ref a0, .ref b1, .int x2, .int x3, .int x4]) (n := 9) (Nat.le_of_ble_eq_true rfl)
  rw [lg_entry_eq]
  generalize (lg_sl ([.ref a0, .ref b1, .int x2, .int x3, .int x4]) ++ List.replicate (9 - (lg_sl ([.ref a0, .ref b1, .int x2, .int x3, .int x4])).length) Slot.unset).toArray = ls at hl ⊢
  have hl : lv_has ls 9 [(0, .ref a0), (1, .ref b1), (2, .int x2), (3, .int x3), (4, .int x4)] := hl
  unfold kp_Mo_sum at hw
  have hw := hw (fun (v5 : Int32) (σ : z_S) => ∀ (H : Heap) (locs : List Loc) (ls : Array Slot), z_G D z_cl z_KT dA Z σ H → va_S (fun q => Z ≤ q) s.heap H locs → lv_has ls 9 [(0, .ref a0), (1, .ref b1), (2, .int x2), (3, .int x3), (4, .int x4), (5, .int v5)] → W p l e (headSpec ks_Mo_sum kr_Mo_sum).room s m ([.ref a0, .ref b1, .int x2, .int x3, .int x4] : List Value).toArray below meth c H locs 0 0 (MQ below (z_Qv D z_cl z_KT dA Z (z_tys dA) z_nw Post) ([.ref a0, .ref b1, .int x2, .int x3, .int x4] : List Value).toArray s 0 0 (fun q => Z ≤ q)) (F0 m 8 ls []))
  have hw := hw (fun (v5 : Int32) (v6 : Int32) (v7 : Int32) (v8 : Int32) (σ : z_S) => ∀ (H : Heap) (locs : List Loc) (ls : Array Slot), z_G D z_cl z_KT dA Z σ H → va_S (fun q => Z ≤ q) s.heap H locs → lv_has ls 9 [(0, .ref a0), (1, .ref b1), (2, .int x2), (3, .int x3), (4, .int x4), (5, .int v5), (6, .int v6), (7, .int v7), (8, .int v8)] → W p l e (headSpec ks_Mo_sum kr_Mo_sum).room s m ([.ref a0, .ref b1, .int x2, .int x3, .int x4] : List Value).toArray below meth c H locs 0 0 (MQ below (z_Qv D z_cl z_KT dA Z (z_tys dA) z_nw Post) ([.ref a0, .ref b1, .int x2, .int x3, .int x4] : List Value).toArray s 0 0 (fun q => Z ≤ q)) (F0 m 28 ls []))
  have hw := hw (fun (v5 : Int32) (v6 : Int32) (v7 : Int32) (v8 : Int32) (σ : z_S) => ∀ (H : Heap) (locs : List Loc) (ls : Array Slot), z_G D z_cl z_KT dA Z σ H → va_S (fun q => Z ≤ q) s.heap H locs → lv_has ls 9 [(0, .ref a0), (1, .ref b1), (2, .int x2), (3, .int x3), (4, .int x4), (5, .int v5), (6, .int v6), (7, .int v7), (8, .int v8)] → W p l e (headSpec ks_Mo_sum kr_Mo_sum).room s m ([.ref a0, .ref b1, .int x2, .int x3, .int x4] : List Value).toArray below meth c H locs 0 0 (MQ below (z_Qv D z_cl z_KT dA Z (z_tys dA) z_nw Post) ([.ref a0, .ref b1, .int x2, .int x3, .int x4] : List Value).toArray s 0 0 (fun q => Z ≤ q)) (F0 m 143 ls []))
  have hw := hw (fun (v5 : Int32) (v6 : Int32) (v7 : Int32) (σ : z_S) => ∀ (H : Heap) (locs : List Loc) (ls : Array Slot), z_G D z_cl z_KT dA Z σ H → va_S (fun q => Z ≤ q) s.heap H locs → lv_has ls 9 [(0, .ref a0), (1, .ref b1), (2, .int x2), (3, .int x3), (4, .int x4), (5, .int v5), (6, .int v6), (7, .int v7)] → W p l e (headSpec ks_Mo_sum kr_Mo_sum).room s m ([.ref a0, .ref b1, .int x2, .int x3, .int x4] : List Value).toArray below meth c H locs 0 0 (MQ below (z_Qv D z_cl z_KT dA Z (z_tys dA) z_nw Post) ([.ref a0, .ref b1, .int x2, .int x3, .int x4] : List Value).toArray s 0 0 (fun q => Z ≤ q)) (F0 m 196 ls []))
  have hw := hw (by
    intro v5 σ hw H locs ls hG hS hl
    refine lv_iload hx hb kb_Mo_sum_8 (lv_at hl 5 rfl) ?_
    refine lv_iload_n hx hb kb_Mo_sum_10 rfl (lv_at hl 3 rfl) ?_
    refine lv_icmp_ge (tgt := 225) hx hb kb_Mo_sum_11 (by decide) (fun hc => ?_) (fun hc => ?_)
    · have hw := hw.1 hc
      exact zr_vret z_nwN hx hb hr hZ hK hN hG hS hw kb_Mo_sum_225 hlocks
    · have hw := hw.2 hc
      refine lv_iload_n hx hb kb_Mo_sum_14 rfl (lv_at hl 2 rfl) ?_
      refine lv_iconst (v := (5 : Int32)) hx hb kb_Mo_sum_15 (by decide) ?_
      refine lv_iload hx hb kb_Mo_sum_16 (lv_at hl 5 rfl) ?_
      refine lv_imul hx hb kb_Mo_sum_18 ?_
      refine lv_iadd hx hb kb_Mo_sum_19 ?_
      refine lv_istore (lv' := [(6, .int (x2 + (((5 : Int32)) * v5))), (0, .ref a0), (1, .ref b1), (2, .int x2), (3, .int x3), (4, .int x4), (5, .int v5)]) hx hb kb_Mo_sum_20 hl (by decide) rfl (fun ls hl => ?_)
      refine lv_iconst (v := (-1 : Int32)) hx hb kb_Mo_sum_22 (by decide) ?_
      refine lv_istore (lv' := [(7, .int ((-1 : Int32))), (6, .int (x2 + (((5 : Int32)) * v5))), (0, .ref a0), (1, .ref b1), (2, .int x2), (3, .int x3), (4, .int x4), (5, .int v5)]) hx hb kb_Mo_sum_23 hl (by decide) rfl (fun ls hl => ?_)
      refine lv_iconst (v := (0 : Int32)) hx hb kb_Mo_sum_25 (by decide) ?_
      refine lv_istore (lv' := [(8, .int ((0 : Int32))), (7, .int ((-1 : Int32))), (6, .int (x2 + (((5 : Int32)) * v5))), (0, .ref a0), (1, .ref b1), (2, .int x2), (3, .int x3), (4, .int x4), (5, .int v5)]) hx hb kb_Mo_sum_26 hl (by decide) rfl (fun ls hl => ?_)
      exact hw _ _ _ hG hS (lv_sub hl [3, 4, 5, 6, 7, 8, 2, 1, 0] rfl))
  have hw := hw (by
    intro v5 v6 v7 v8 σ hw H locs ls hG hS hl
    refine lv_iload hx hb kb_Mo_sum_28 (lv_at hl 8 rfl) ?_
    refine lv_aload_n hx hb kb_Mo_sum_30 rfl (lv_at hl 0 rfl) ?_
    obtain ⟨hy, hw⟩ := hw
    refine zr_getI (ci := 8) (f := 847) hx hb hts ki_Mo hown hK hG hy rfl 47 (by decide) (hts _ (List.mem_cons_of_mem _ kw_631)) (fun _ h => h) rfl rfl kb_Mo_sum_31 ?_
    refine lv_icmp_ge (tgt := 128) hx hb kb_Mo_sum_34 (by decide) (fun hc => ?_) (fun hc => ?_)
    · have hw := hw.1 hc
      refine lv_iload hx hb kb_Mo_sum_128 (lv_at hl 7 rfl) ?_
      refine lv_iconst (v := (-1 : Int32)) hx hb kb_Mo_sum_130 (by decide) ?_
      refine lv_icmp_ne (tgt := 196) hx hb kb_Mo_sum_131 (by decide) (fun hc => ?_) (fun hc => ?_)
      · have hw := hw.1 hc
        exact hw _ _ _ hG hS (lv_sub hl [0, 1, 2, 3, 4, 5, 6, 7] rfl)
      · have hw := hw.2 hc
        refine lv_aload_n hx hb kb_Mo_sum_134 rfl (lv_at hl 0 rfl) ?_
        obtain ⟨hy, hw⟩ := hw
        refine zr_getI (ci := 8) (f := 847) hx hb hts ki_Mo hown hK hG hy rfl 47 (by decide) (hts _ (List.mem_cons_of_mem _ kw_631)) (fun _ h => h) rfl rfl kb_Mo_sum_135 ?_
        refine lv_istore (lv' := [(7, .int (z_I σ 847 a0)), (0, .ref a0), (1, .ref b1), (2, .int x2), (3, .int x3), (4, .int x4), (5, .int v5), (6, .int v6), (8, .int v8)]) hx hb kb_Mo_sum_138 hl (by decide) rfl (fun ls hl => ?_)
        refine lv_iconst (v := (0 : Int32)) hx hb kb_Mo_sum_140 (by decide) ?_
        refine lv_istore (lv' := [(8, .int ((0 : Int32))), (7, .int (z_I σ 847 a0)), (0, .ref a0), (1, .ref b1), (2, .int x2), (3, .int x3), (4, .int x4), (5, .int v5), (6, .int v6)]) hx hb kb_Mo_sum_141 hl (by decide) rfl (fun ls hl => ?_)
        exact hw _ _ _ hG hS (lv_sub hl [2, 3, 4, 5, 6, 7, 8, 1, 0] rfl)
    · have hw := hw.2 hc
      refine lv_aload_n hx hb kb_Mo_sum_37 rfl (lv_at hl 0 rfl) ?_
      obtain ⟨hy, r38, hrf, hw⟩ := hw
      refine zr_getR (ci := 8) (f := 846) hx hb hts ki_Mo hown hK hG hy rfl 46 (by decide) (hts _ (List.mem_cons_of_mem _ kw_630)) (fun _ h => h) rfl rfl hrf kb_Mo_sum_38 ?_
      refine lv_iconst (v := (5 : Int32)) hx hb kb_Mo_sum_41 (by decide) ?_
      refine lv_iload hx hb kb_Mo_sum_42 (lv_at hl 8 rfl) ?_
      refine lv_imul hx hb kb_Mo_sum_44 ?_
      obtain ⟨n45, s45, hy, hi, hw⟩ := hw
      refine zr_iald hx hb hK hG 0 hy rfl hi kb_Mo_sum_45 ?_
      refine lv_aload_n hx hb kb_Mo_sum_46 rfl (lv_at hl 1 rfl) ?_
      refine lv_iload hx hb kb_Mo_sum_47 (lv_at hl 6 rfl) ?_
      obtain ⟨n49, s49, hy, hi, hw⟩ := hw
      refine zr_iald hx hb hK hG 0 hy rfl hi kb_Mo_sum_49 ?_
      refine lv_icmp_ne (tgt := 118) hx hb kb_Mo_sum_50 (by decide) (fun hc => ?_) (fun hc => ?_)
      · have hw := hw.1 hc
        refine lv_iload hx hb kb_Mo_sum_118 (lv_at hl 7 rfl) ?_
        refine lv_istore (lv' := [(7, .int v7), (0, .ref a0), (1, .ref b1), (2, .int x2), (3, .int x3), (4, .int x4), (5, .int v5), (6, .int v6), (8, .int v8)]) hx hb kb_Mo_sum_120 hl (by decide) rfl (fun ls hl => ?_)
        refine lv_iinc (v := v8 + (1 : Int32)) (lv' := [(8, .int (v8 + (1 : Int32))), (7, .int v7), (0, .ref a0), (1, .ref b1), (2, .int x2), (3, .int x3), (4, .int x4), (5, .int v5), (6, .int v6)]) hx hb kb_Mo_sum_122 hl (k := 8) rfl rfl (by decide) rfl (fun ls hl => ?_)
        refine lv_goto (tgt := 28) hx hb kb_Mo_sum_125 (by decide) ?_
        exact hw _ _ _ hG hS (lv_sub hl [2, 3, 4, 5, 6, 7, 8, 1, 0] rfl)
      · have hw := hw.2 hc
        refine lv_aload_n hx hb kb_Mo_sum_53 rfl (lv_at hl 0 rfl) ?_
        obtain ⟨hy, r54, hrf, hw⟩ := hw
        refine zr_getR (ci := 8) (f := 846) hx hb hts ki_Mo hown hK hG hy rfl 46 (by decide) (hts _ (List.mem_cons_of_mem _ kw_630)) (fun _ h => h) rfl rfl hrf kb_Mo_sum_54 ?_
        refine lv_iconst (v := (5 : Int32)) hx hb kb_Mo_sum_57 (by decide) ?_
        refine lv_iload hx hb kb_Mo_sum_58 (lv_at hl 8 rfl) ?_
        refine lv_imul hx hb kb_Mo_sum_60 ?_
        refine lv_iconst (v := (1 : Int32)) hx hb kb_Mo_sum_61 (by decide) ?_
        refine lv_iadd hx hb kb_Mo_sum_62 ?_
        obtain ⟨n63, s63, hy, hi, hw⟩ := hw
        refine zr_iald hx hb hK hG 0 hy rfl hi kb_Mo_sum_63 ?_
        refine lv_aload_n hx hb kb_Mo_sum_64 rfl (lv_at hl 1 rfl) ?_
        refine lv_iload hx hb kb_Mo_sum_65 (lv_at hl 6 rfl) ?_
        refine lv_iconst (v := (1 : Int32)) hx hb kb_Mo_sum_67 (by decide) ?_
        refine lv_iadd hx hb kb_Mo_sum_68 ?_
        obtain ⟨n69, s69, hy, hi, hw⟩ := hw
        refine zr_iald hx hb hK hG 0 hy rfl hi kb_Mo_sum_69 ?_
        refine lv_icmp_ne (tgt := 118) hx hb kb_Mo_sum_70 (by decide) (fun hc => ?_) (fun hc => ?_)
        · have hw := hw.1 hc
          refine lv_iload hx hb kb_Mo_sum_118 (lv_at hl 7 rfl) ?_
          refine lv_istore (lv' := [(7, .int v7), (0, .ref a0), (1, .ref b1), (2, .int x2), (3, .int x3), (4, .int x4), (5, .int v5), (6, .int v6), (8, .int v8)]) hx hb kb_Mo_sum_120 hl (by decide) rfl (fun ls hl => ?_)
          refine lv_iinc (v := v8 + (1 : Int32)) (lv' := [(8, .int (v8 + (1 : Int32))), (7, .int v7), (0, .ref a0), (1, .ref b1), (2, .int x2), (3, .int x3), (4, .int x4), (5, .int v5), (6, .int v6)]) hx hb kb_Mo_sum_122 hl (k := 8) rfl rfl (by decide) rfl (fun ls hl => ?_)
          refine lv_goto (tgt := 28) hx hb kb_Mo_sum_125 (by decide) ?_
          exact hw _ _ _ hG hS (lv_sub hl [2, 3, 4, 5, 6, 7, 8, 1, 0] rfl)
        · have hw := hw.2 hc
          refine lv_aload_n hx hb kb_Mo_sum_73 rfl (lv_at hl 0 rfl) ?_
          obtain ⟨hy, r74, hrf, hw⟩ := hw
          refine zr_getR (ci := 8) (f := 846) hx hb hts ki_Mo hown hK hG hy rfl 46 (by decide) (hts _ (List.mem_cons_of_mem _ kw_630)) (fun _ h => h) rfl rfl hrf kb_Mo_sum_74 ?_
          refine lv_iconst (v := (5 : Int32)) hx hb kb_Mo_sum_77 (by decide) ?_
          refine lv_iload hx hb kb_Mo_sum_78 (lv_at hl 8 rfl) ?_
          refine lv_imul hx hb kb_Mo_sum_80 ?_
          refine lv_iconst (v := (2 : Int32)) hx hb kb_Mo_sum_81 (by decide) ?_
          refine lv_iadd hx hb kb_Mo_sum_82 ?_
          obtain ⟨n83, s83, hy, hi, hw⟩ := hw
          refine zr_iald hx hb hK hG 0 hy rfl hi kb_Mo_sum_83 ?_
          refine lv_aload_n hx hb kb_Mo_sum_84 rfl (lv_at hl 1 rfl) ?_
          refine lv_iload hx hb kb_Mo_sum_85 (lv_at hl 6 rfl) ?_
          refine lv_iconst (v := (2 : Int32)) hx hb kb_Mo_sum_87 (by decide) ?_
          refine lv_iadd hx hb kb_Mo_sum_88 ?_
          obtain ⟨n89, s89, hy, hi, hw⟩ := hw
          refine zr_iald hx hb hK hG 0 hy rfl hi kb_Mo_sum_89 ?_
          refine lv_icmp_ne (tgt := 118) hx hb kb_Mo_sum_90 (by decide) (fun hc => ?_) (fun hc => ?_)
          · have hw := hw.1 hc
            refine lv_iload hx hb kb_Mo_sum_118 (lv_at hl 7 rfl) ?_
            refine lv_istore (lv' := [(7, .int v7), (0, .ref a0), (1, .ref b1), (2, .int x2), (3, .int x3), (4, .int x4), (5, .int v5), (6, .int v6), (8, .int v8)]) hx hb kb_Mo_sum_120 hl (by decide) rfl (fun ls hl => ?_)
            refine lv_iinc (v := v8 + (1 : Int32)) (lv' := [(8, .int (v8 + (1 : Int32))), (7, .int v7), (0, .ref a0), (1, .ref b1), (2, .int x2), (3, .int x3), (4, .int x4), (5, .int v5), (6, .int v6)]) hx hb kb_Mo_sum_122 hl (k := 8) rfl rfl (by decide) rfl (fun ls hl => ?_)
            refine lv_goto (tgt := 28) hx hb kb_Mo_sum_125 (by decide) ?_
            exact hw _ _ _ hG hS (lv_sub hl [2, 3, 4, 5, 6, 7, 8, 1, 0] rfl)
          · have hw := hw.2 hc
            refine lv_aload_n hx hb kb_Mo_sum_93 rfl (lv_at hl 0 rfl) ?_
            obtain ⟨hy, r94, hrf, hw⟩ := hw
            refine zr_getR (ci := 8) (f := 846) hx hb hts ki_Mo hown hK hG hy rfl 46 (by decide) (hts _ (List.mem_cons_of_mem _ kw_630)) (fun _ h => h) rfl rfl hrf kb_Mo_sum_94 ?_
            refine lv_iconst (v := (5 : Int32)) hx hb kb_Mo_sum_97 (by decide) ?_
            refine lv_iload hx hb kb_Mo_sum_98 (lv_at hl 8 rfl) ?_
            refine lv_imul hx hb kb_Mo_sum_100 ?_
            refine lv_iconst (v := (3 : Int32)) hx hb kb_Mo_sum_101 (by decide) ?_
            refine lv_iadd hx hb kb_Mo_sum_102 ?_
            obtain ⟨n103, s103, hy, hi, hw⟩ := hw
            refine zr_iald hx hb hK hG 0 hy rfl hi kb_Mo_sum_103 ?_
            refine lv_aload_n hx hb kb_Mo_sum_104 rfl (lv_at hl 1 rfl) ?_
            refine lv_iload hx hb kb_Mo_sum_105 (lv_at hl 6 rfl) ?_
            refine lv_iconst (v := (3 : Int32)) hx hb kb_Mo_sum_107 (by decide) ?_
            refine lv_iadd hx hb kb_Mo_sum_108 ?_
            obtain ⟨n109, s109, hy, hi, hw⟩ := hw
            refine zr_iald hx hb hK hG 0 hy rfl hi kb_Mo_sum_109 ?_
            refine lv_icmp_ne (tgt := 118) hx hb kb_Mo_sum_110 (by decide) (fun hc => ?_) (fun hc => ?_)
            · have hw := hw.1 hc
              refine lv_iload hx hb kb_Mo_sum_118 (lv_at hl 7 rfl) ?_
              refine lv_istore (lv' := [(7, .int v7), (0, .ref a0), (1, .ref b1), (2, .int x2), (3, .int x3), (4, .int x4), (5, .int v5), (6, .int v6), (8, .int v8)]) hx hb kb_Mo_sum_120 hl (by decide) rfl (fun ls hl => ?_)
              refine lv_iinc (v := v8 + (1 : Int32)) (lv' := [(8, .int (v8 + (1 : Int32))), (7, .int v7), (0, .ref a0), (1, .ref b1), (2, .int x2), (3, .int x3), (4, .int x4), (5, .int v5), (6, .int v6)]) hx hb kb_Mo_sum_122 hl (k := 8) rfl rfl (by decide) rfl (fun ls hl => ?_)
              refine lv_goto (tgt := 28) hx hb kb_Mo_sum_125 (by decide) ?_
              exact hw _ _ _ hG hS (lv_sub hl [2, 3, 4, 5, 6, 7, 8, 1, 0] rfl)
            · have hw := hw.2 hc
              refine lv_iload hx hb kb_Mo_sum_113 (lv_at hl 8 rfl) ?_
              refine lv_goto (tgt := 120) hx hb kb_Mo_sum_115 (by decide) ?_
              refine lv_istore (lv' := [(7, .int v8), (0, .ref a0), (1, .ref b1), (2, .int x2), (3, .int x3), (4, .int x4), (5, .int v5), (6, .int v6), (8, .int v8)]) hx hb kb_Mo_sum_120 hl (by decide) rfl (fun ls hl => ?_)
              refine lv_iinc (v := v8 + (1 : Int32)) (lv' := [(8, .int (v8 + (1 : Int32))), (7, .int v8), (0, .ref a0), (1, .ref b1), (2, .int x2), (3, .int x3), (4, .int x4), (5, .int v5), (6, .int v6)]) hx hb kb_Mo_sum_122 hl (k := 8) rfl rfl (by decide) rfl (fun ls hl => ?_)
              refine lv_goto (tgt := 28) hx hb kb_Mo_sum_125 (by decide) ?_
              exact hw _ _ _ hG hS (lv_sub hl [2, 3, 4, 5, 6, 7, 8, 1, 0] rfl))
  have hw := hw (by
    intro v5 v6 v7 v8 σ hw H locs ls hG hS hl
    refine lv_iload hx hb kb_Mo_sum_143 (lv_at hl 8 rfl) ?_
    refine lv_iconst (v := (4 : Int32)) hx hb kb_Mo_sum_145 (by decide) ?_
    refine lv_icmp_ge (tgt := 174) hx hb kb_Mo_sum_146 (by decide) (fun hc => ?_) (fun hc => ?_)
    · have hw := hw.1 hc
      refine lv_aload_n hx hb kb_Mo_sum_174 rfl (lv_at hl 0 rfl) ?_
      obtain ⟨hy, r175, hrf, hw⟩ := hw
      refine zr_getR (ci := 8) (f := 846) hx hb hts ki_Mo hown hK hG hy rfl 46 (by decide) (hts _ (List.mem_cons_of_mem _ kw_630)) (fun _ h => h) rfl rfl hrf kb_Mo_sum_175 ?_
      refine lv_iconst (v := (5 : Int32)) hx hb kb_Mo_sum_178 (by decide) ?_
      refine lv_iload hx hb kb_Mo_sum_179 (lv_at hl 7 rfl) ?_
      refine lv_imul hx hb kb_Mo_sum_181 ?_
      refine lv_iconst (v := (4 : Int32)) hx hb kb_Mo_sum_182 (by decide) ?_
      refine lv_iadd hx hb kb_Mo_sum_183 ?_
      refine lv_iconst (v := (0 : Int32)) hx hb kb_Mo_sum_184 (by decide) ?_
      obtain ⟨n185, s185, hy, hi, hw⟩ := hw
      refine zr_iast hx hb hK hG hS 0 hy rfl hi kb_Mo_sum_185 (fun H locs hG hS => ?_)
      obtain ⟨σ185, e185⟩ : ∃ z, z = z_sA σ s185 r175 (upd (z_A σ s185 r175) ((((5 : Int32)) * v7) + ((4 : Int32))).toNatClampNeg ((0 : Int32))) := ⟨_, rfl⟩
      rw [← e185] at hG
      have hw := hw _ e185
      refine lv_aload_n hx hb kb_Mo_sum_186 rfl (lv_at hl 0 rfl) ?_
      refine lv_dup hx hb kb_Mo_sum_187 rfl ?_
      obtain ⟨hy, hw⟩ := hw
      refine zr_getI (ci := 8) (f := 847) hx hb hts ki_Mo hown hK hG hy rfl 47 (by decide) (hts _ (List.mem_cons_of_mem _ kw_631)) (fun _ h => h) rfl rfl kb_Mo_sum_188 ?_
      refine lv_iconst (v := (1 : Int32)) hx hb kb_Mo_sum_191 (by decide) ?_
      refine lv_iadd hx hb kb_Mo_sum_192 ?_
      obtain ⟨hy, hw⟩ := hw
      refine zr_putI (ci := 8) (f := 847) hx hb hts ki_Mo ky_Mo kyo_Mo kn_Mo hown hK hG hS hy rfl 47 (by decide) (hts _ (List.mem_cons_of_mem _ kw_631)) (fun _ h => h) rfl rfl rfl rfl rfl kb_Mo_sum_193 (fun H locs hG hS => ?_)
      obtain ⟨σ193, e193⟩ : ∃ z, z = z_sI σ185 847 a0 ((z_I σ185 847 a0) + ((1 : Int32))) := ⟨_, rfl⟩
      rw [← e193] at hG
      have hw := hw _ e193
      exact hw _ _ _ hG hS (lv_sub hl [0, 1, 2, 3, 4, 5, 6, 7] rfl)
    · have hw := hw.2 hc
      refine lv_aload_n hx hb kb_Mo_sum_149 rfl (lv_at hl 0 rfl) ?_
      obtain ⟨hy, r150, hrf, hw⟩ := hw
      refine zr_getR (ci := 8) (f := 846) hx hb hts ki_Mo hown hK hG hy rfl 46 (by decide) (hts _ (List.mem_cons_of_mem _ kw_630)) (fun _ h => h) rfl rfl hrf kb_Mo_sum_150 ?_
      refine lv_iconst (v := (5 : Int32)) hx hb kb_Mo_sum_153 (by decide) ?_
      refine lv_iload hx hb kb_Mo_sum_154 (lv_at hl 7 rfl) ?_
      refine lv_imul hx hb kb_Mo_sum_156 ?_
      refine lv_iload hx hb kb_Mo_sum_157 (lv_at hl 8 rfl) ?_
      refine lv_iadd hx hb kb_Mo_sum_159 ?_
      refine lv_aload_n hx hb kb_Mo_sum_160 rfl (lv_at hl 1 rfl) ?_
      refine lv_iload hx hb kb_Mo_sum_161 (lv_at hl 6 rfl) ?_
      refine lv_iload hx hb kb_Mo_sum_163 (lv_at hl 8 rfl) ?_
      refine lv_iadd hx hb kb_Mo_sum_165 ?_
      obtain ⟨n166, s166, hy, hi, hw⟩ := hw
      refine zr_iald hx hb hK hG 0 hy rfl hi kb_Mo_sum_166 ?_
      obtain ⟨n167, s167, hy, hi, hw⟩ := hw
      refine zr_iast hx hb hK hG hS 0 hy rfl hi kb_Mo_sum_167 (fun H locs hG hS => ?_)
      obtain ⟨σ167, e167⟩ : ∃ z, z = z_sA σ s167 r150 (upd (z_A σ s167 r150) ((((5 : Int32)) * v7) + v8).toNatClampNeg (z_A σ s166 b1 (v6 + v8).toNatClampNeg)) := ⟨_, rfl⟩
      rw [← e167] at hG
      have hw := hw _ e167
      refine lv_iinc (v := v8 + (1 : Int32)) (lv' := [(8, .int (v8 + (1 : Int32))), (0, .ref a0), (1, .ref b1), (2, .int x2), (3, .int x3), (4, .int x4), (5, .int v5), (6, .int v6), (7, .int v7)]) hx hb kb_Mo_sum_168 hl (k := 8) rfl rfl (by decide) rfl (fun ls hl => ?_)
      refine lv_goto (tgt := 143) hx hb kb_Mo_sum_171 (by decide) ?_
      exact hw _ _ _ hG hS (lv_sub hl [1, 2, 3, 4, 5, 6, 7, 8, 0] rfl))
  have hw := hw (by
    intro v5 v6 v7 σ hw H locs ls hG hS hl
    refine lv_aload_n hx hb kb_Mo_sum_196 rfl (lv_at hl 0 rfl) ?_
    obtain ⟨hy, r197, hrf, hw⟩ := hw
    refine zr_getR (ci := 8) (f := 846) hx hb hts ki_Mo hown hK hG hy rfl 46 (by decide) (hts _ (List.mem_cons_of_mem _ kw_630)) (fun _ h => h) rfl rfl hrf kb_Mo_sum_197 ?_
    refine lv_iconst (v := (5 : Int32)) hx hb kb_Mo_sum_200 (by decide) ?_
    refine lv_iload hx hb kb_Mo_sum_201 (lv_at hl 7 rfl) ?_
    refine lv_imul hx hb kb_Mo_sum_203 ?_
    refine lv_iconst (v := (4 : Int32)) hx hb kb_Mo_sum_204 (by decide) ?_
    refine lv_iadd hx hb kb_Mo_sum_205 ?_
    refine lv_dup2_11 hx hb kb_Mo_sum_206 rfl rfl ?_
    obtain ⟨n207, s207, hy, hi, hw⟩ := hw
    refine zr_iald hx hb hK hG 0 hy rfl hi kb_Mo_sum_207 ?_
    refine lv_iload hx hb kb_Mo_sum_208 (lv_at hl 4 rfl) ?_
    refine lv_aload_n hx hb kb_Mo_sum_210 rfl (lv_at hl 1 rfl) ?_
    refine lv_iload hx hb kb_Mo_sum_211 (lv_at hl 6 rfl) ?_
    refine lv_iconst (v := (4 : Int32)) hx hb kb_Mo_sum_213 (by decide) ?_
    refine lv_iadd hx hb kb_Mo_sum_214 ?_
    obtain ⟨n215, s215, hy, hi, hw⟩ := hw
    refine zr_iald hx hb hK hG 0 hy rfl hi kb_Mo_sum_215 ?_
    refine lv_imul hx hb kb_Mo_sum_216 ?_
    refine lv_iadd hx hb kb_Mo_sum_217 ?_
    obtain ⟨n218, s218, hy, hi, hw⟩ := hw
    refine zr_iast hx hb hK hG hS 0 hy rfl hi kb_Mo_sum_218 (fun H locs hG hS => ?_)
    obtain ⟨σ218, e218⟩ : ∃ z, z = z_sA σ s218 r197 (upd (z_A σ s218 r197) ((((5 : Int32)) * v7) + ((4 : Int32))).toNatClampNeg ((z_A σ s207 r197 ((((5 : Int32)) * v7) + ((4 : Int32))).toNatClampNeg) + (x4 * (z_A σ s215 b1 (v6 + ((4 : Int32))).toNatClampNeg)))) := ⟨_, rfl⟩
    rw [← e218] at hG
    have hw := hw _ e218
    refine lv_iinc (v := v5 + (1 : Int32)) (lv' := [(5, .int (v5 + (1 : Int32))), (0, .ref a0), (1, .ref b1), (2, .int x2), (3, .int x3), (4, .int x4), (6, .int v6), (7, .int v7)]) hx hb kb_Mo_sum_219 hl (k := 5) rfl rfl (by decide) rfl (fun ls hl => ?_)
    refine lv_goto (tgt := 8) hx hb kb_Mo_sum_222 (by decide) ?_
    exact hw _ _ _ hG hS (lv_sub hl [1, 2, 3, 4, 5, 0] rfl))
  refine lv_aload_n hx hb kb_Mo_sum_0 rfl (lv_at hl 0 rfl) ?_
  refine lv_iconst (v := (0 : Int32)) hx hb kb_Mo_sum_1 (by decide) ?_
  obtain ⟨hy, hw⟩ := hw
  refine zr_putI (ci := 8) (f := 847) hx hb hts ki_Mo ky_Mo kyo_Mo kn_Mo hown hK hG hS hy rfl 47 (by decide) (hts _ (List.mem_cons_of_mem _ kw_631)) (fun _ h => h) rfl rfl rfl rfl rfl kb_Mo_sum_2 (fun H locs hG hS => ?_)
  obtain ⟨σ2, e2⟩ : ∃ z, z = z_sI σ 847 a0 ((0 : Int32)) := ⟨_, rfl⟩
  rw [← e2] at hG
  have hw := hw _ e2
  refine lv_iconst (v := (0 : Int32)) hx hb kb_Mo_sum_5 (by decide) ?_
  refine lv_istore (lv' := [(5, .int ((0 : Int32))), (0, .ref a0), (1, .ref b1), (2, .int x2), (3, .int x3), (4, .int x4)]) hx hb kb_Mo_sum_6 hl (by decide) rfl (fun ls hl => ?_)
  exact hw _ _ _ hG hS (lv_sub hl [1, 2, 3, 4, 5, 0] rfl)
def kp_Mo_differ (a0 : Nat) (x1 : Int32) (x2 : Int32) (x3 : Int32) (x4 : Int32) (x5 : Int32) (σ : z_S) (Post : z_S → Prop) : Prop :=     (z_ty σ a0 = some (.inl 8) ∧ (z_ty σ a0 = some (.inl 8) ∧ ∃ r9, z_R σ 835 a0 = some r9 ∧ (∃ n15 s15, z_ty σ r9 = some (.inr (0, n15, s15)) ∧ vp_in (((5 : Int32)) * (z_I σ 836 a0)) n15 ∧ ∀ σ15, σ15 = z_sA σ s15 r9 (upd (z_A σ s15 r9) (((5 : Int32)) * (z_I σ 836 a0)).toNatClampNeg x1) → z_ty σ15 a0 = some (.inl 8) ∧ ∃ r17, z_R σ15 835 a0 = some r17 ∧ (∃ n25 s25, z_ty σ15 r17 = some (.inr (0, n25, s25)) ∧ vp_in ((((5 : Int32)) * (z_I σ 836 a0)) + ((1 : Int32))) n25 ∧ ∀ σ25, σ25 = z_sA σ15 s25 r17 (upd (z_A σ15 s25 r17) ((((5 : Int32)) * (z_I σ 836 a0)) + ((1 : Int32))).toNatClampNeg x2) → z_ty σ25 a0 = some (.inl 8) ∧ ∃ r27, z_R σ25 835 a0 = some r27 ∧ (∃ n35 s35, z_ty σ25 r27 = some (.inr (0, n35, s35)) ∧ vp_in ((((5 : Int32)) * (z_I σ 836 a0)) + ((2 : Int32))) n35 ∧ ∀ σ35, σ35 = z_sA σ25 s35 r27 (upd (z_A σ25 s35 r27) ((((5 : Int32)) * (z_I σ 836 a0)) + ((2 : Int32))).toNatClampNeg x3) → z_ty σ35 a0 = some (.inl 8) ∧ ∃ r37, z_R σ35 835 a0 = some r37 ∧ (∃ n46 s46, z_ty σ35 r37 = some (.inr (0, n46, s46)) ∧ vp_in ((((5 : Int32)) * (z_I σ 836 a0)) + ((3 : Int32))) n46 ∧ ∀ σ46, σ46 = z_sA σ35 s46 r37 (upd (z_A σ35 s46 r37) ((((5 : Int32)) * (z_I σ 836 a0)) + ((3 : Int32))).toNatClampNeg x4) → z_ty σ46 a0 = some (.inl 8) ∧ ∃ r48, z_R σ46 835 a0 = some r48 ∧ (∃ n57 s57, z_ty σ46 r48 = some (.inr (0, n57, s57)) ∧ vp_in ((((5 : Int32)) * (z_I σ 836 a0)) + ((4 : Int32))) n57 ∧ ∀ σ57, σ57 = z_sA σ46 s57 r48 (upd (z_A σ46 s57 r48) ((((5 : Int32)) * (z_I σ 836 a0)) + ((4 : Int32))).toNatClampNeg x5) → z_ty σ57 a0 = some (.inl 8) ∧ (z_ty σ57 a0 = some (.inl 8) ∧ ∀ σ65, σ65 = z_sI σ57 836 a0 ((z_I σ57 836 a0) + ((1 : Int32))) → Post σ65))))))))
set_option maxHeartbeats 4000000 in
set_option maxRecDepth 100000 in
theorem kc_Mo_differ (l : Launch) (D : va_G) (dA : Nat → ClassId) (Z : Nat) (a0 : Nat) (x1 : Int32) (x2 : Int32) (x3 : Int32) (x4 : Int32) (x5 : Int32) (σ : z_S) (Post : z_S → Prop) : Met l km_Mo_differ ks_Mo_differ kr_Mo_differ (va_Pc [.ref a0, .int x1, .int x2, .int x3, .int x4, .int x5] (fun U => z_U D z_cl z_KT dA Z (z_tys dA) z_nw σ U ∧ kp_Mo_differ  a0 x1 x2 x3 x4 x5 σ Post)) (z_Qv D z_cl z_KT dA Z (z_tys dA) z_nw Post) 0 0 (fun q => Z ≤ q) := by
  refine Met.ofW (cc := prog_10_method_42_code) (maxL := 7) (ret := none) (by decide) rfl ?_
  intro p e s m args below meth c s₁ B hml hv
  obtain ⟨rfl, ⟨hZ, hG, hK, hN⟩, hw⟩ := hv
  have hx := B.exec
  have hb := B.bytes
  have hr := B.returns
  have hts := atoms_spec (ws := ks_Mo_differ) B.pre
  have hown : s.vm.findClass kR_Mo = some m.cls := findClass_of_methodNamed B.named
  have hlocks := B.notSynchronized
  have hS : va_S (fun q => Z ≤ q) s.heap s.heap [] := va_S.rf
  have hl := lv_entry ([.ref a0, .int x1, .int x2, .int x3, .int x4, .int x5]) (n := 7) (Nat.le_of_ble_eq_true rfl)
  rw [lg_entry_eq]
  generalize (lg_sl ([.ref a0, .int x1, .int x2, .int x3, .int x4, .int x5]) ++ List.replicate (7 - (lg_sl ([.ref a0, .int x1, .int x2, .int x3, .int x4, .int x5])).length) Slot.unset).toArray = ls at hl ⊢
  have hl : lv_has ls 7 [(0, .ref a0), (1, .int x1), (2, .int x2), (3, .int x3), (4, .int x4), (5, .int x5)] := hl
  unfold kp_Mo_differ at hw
  refine lv_iconst (v := (5 : Int32)) hx hb kb_Mo_differ_0 (by decide) ?_
  refine lv_aload_n hx hb kb_Mo_differ_1 rfl (lv_at hl 0 rfl) ?_
  obtain ⟨hy, hw⟩ := hw
  refine zr_getI (ci := 8) (f := 836) hx hb hts ki_Mo hown hK hG hy rfl 36 (by decide) (hts _ (List.mem_cons_of_mem _ kw_620)) (fun _ h => h) rfl rfl kb_Mo_differ_2 ?_
  refine lv_imul hx hb kb_Mo_differ_5 ?_
  refine lv_istore (lv' := [(6, .int (((5 : Int32)) * (z_I σ 836 a0))), (0, .ref a0), (1, .int x1), (2, .int x2), (3, .int x3), (4, .int x4), (5, .int x5)]) hx hb kb_Mo_differ_6 hl (by decide) rfl (fun ls hl => ?_)
  refine lv_aload_n hx hb kb_Mo_differ_8 rfl (lv_at hl 1 rfl) ?_
  obtain ⟨hy, r9, hrf, hw⟩ := hw
  refine zr_getR (ci := 8) (f := 835) hx hb hts ki_Mo hown hK hG hy rfl 35 (by decide) (hts _ (List.mem_cons_of_mem _ kw_619)) (fun _ h => h) rfl rfl hrf kb_Mo_differ_9 ?_
  refine lv_iload hx hb kb_Mo_differ_12 (lv_at hl 0 rfl) ?_
  refine lv_iload_n hx hb kb_Mo_differ_14 rfl (lv_at hl 2 rfl) ?_
  obtain ⟨n15, s15, hy, hi, hw⟩ := hw
  refine zr_iast hx hb hK hG hS 0 hy rfl hi kb_Mo_differ_15 (fun H locs hG hS => ?_)
  obtain ⟨σ15, e15⟩ : ∃ z, z = z_sA σ s15 r9 (upd (z_A σ s15 r9) (((5 : Int32)) * (z_I σ 836 a0)).toNatClampNeg x1) := ⟨_, rfl⟩
  rw [← e15] at hG
  have hw := hw _ e15
  refine lv_aload_n hx hb kb_Mo_differ_16 rfl (lv_at hl 1 rfl) ?_
  obtain ⟨hy, r17, hrf, hw⟩ := hw
  refine zr_getR (ci := 8) (f := 835) hx hb hts ki_Mo hown hK hG hy rfl 35 (by decide) (hts _ (List.mem_cons_of_mem _ kw_619)) (fun _ h => h) rfl rfl hrf kb_Mo_differ_17 ?_
  refine lv_iload hx hb kb_Mo_differ_20 (lv_at hl 0 rfl) ?_
  refine lv_iconst (v := (1 : Int32)) hx hb kb_Mo_differ_22 (by decide) ?_
  refine lv_iadd hx hb kb_Mo_differ_23 ?_
  refine lv_iload_n hx hb kb_Mo_differ_24 rfl (lv_at hl 3 rfl) ?_
  obtain ⟨n25, s25, hy, hi, hw⟩ := hw
  refine zr_iast hx hb hK hG hS 0 hy rfl hi kb_Mo_differ_25 (fun H locs hG hS => ?_)
  obtain ⟨σ25, e25⟩ : ∃ z, z = z_sA σ15 s25 r17 (upd (z_A σ15 s25 r17) ((((5 : Int32)) * (z_I σ 836 a0)) + ((1 : Int32))).toNatClampNeg x2) := ⟨_, rfl⟩
  rw [← e25] at hG
  have hw := hw _ e25
  refine lv_aload_n hx hb kb_Mo_differ_26 rfl (lv_at hl 1 rfl) ?_
  obtain ⟨hy, r27, hrf, hw⟩ := hw
  refine zr_getR (ci := 8) (f := 835) hx hb hts ki_Mo hown hK hG hy rfl 35 (by decide) (hts _ (List.mem_cons_of_mem _ kw_619)) (fun _ h => h) rfl rfl hrf kb_Mo_differ_27 ?_
  refine lv_iload hx hb kb_Mo_differ_30 (lv_at hl 0 rfl) ?_
  refine lv_iconst (v := (2 : Int32)) hx hb kb_Mo_differ_32 (by decide) ?_
  refine lv_iadd hx hb kb_Mo_differ_33 ?_
  refine lv_iload_n hx hb kb_Mo_differ_34 rfl (lv_at hl 4 rfl) ?_
  obtain ⟨n35, s35, hy, hi, hw⟩ := hw
  refine zr_iast hx hb hK hG hS 0 hy rfl hi kb_Mo_differ_35 (fun H locs hG hS => ?_)
  obtain ⟨σ35, e35⟩ : ∃ z, z = z_sA σ25 s35 r27 (upd (z_A σ25 s35 r27) ((((5 : Int32)) * (z_I σ 836 a0)) + ((2 : Int32))).toNatClampNeg x3) := ⟨_, rfl⟩
  rw [← e35] at hG
  have hw := hw _ e35
  refine lv_aload_n hx hb kb_Mo_differ_36 rfl (lv_at hl 1 rfl) ?_
  obtain ⟨hy, r37, hrf, hw⟩ := hw
  refine zr_getR (ci := 8) (f := 835) hx hb hts ki_Mo hown hK hG hy rfl 35 (by decide) (hts _ (List.mem_cons_of_mem _ kw_619)) (fun _ h => h) rfl rfl hrf kb_Mo_differ_37 ?_
  refine lv_iload hx hb kb_Mo_differ_40 (lv_at hl 0 rfl) ?_
  refine lv_iconst (v := (3 : Int32)) hx hb kb_Mo_differ_42 (by decide) ?_
  refine lv_iadd hx hb kb_Mo_differ_43 ?_
  refine lv_iload hx hb kb_Mo_differ_44 (lv_at hl 5 rfl) ?_
  obtain ⟨n46, s46, hy, hi, hw⟩ := hw
  refine zr_iast hx hb hK hG hS 0 hy rfl hi kb_Mo_differ_46 (fun H locs hG hS => ?_)
  obtain ⟨σ46, e46⟩ : ∃ z, z = z_sA σ35 s46 r37 (upd (z_A σ35 s46 r37) ((((5 : Int32)) * (z_I σ 836 a0)) + ((3 : Int32))).toNatClampNeg x4) := ⟨_, rfl⟩
  rw [← e46] at hG
  have hw := hw _ e46
  refine lv_aload_n hx hb kb_Mo_differ_47 rfl (lv_at hl 1 rfl) ?_
  obtain ⟨hy, r48, hrf, hw⟩ := hw
  refine zr_getR (ci := 8) (f := 835) hx hb hts ki_Mo hown hK hG hy rfl 35 (by decide) (hts _ (List.mem_cons_of_mem _ kw_619)) (fun _ h => h) rfl rfl hrf kb_Mo_differ_48 ?_
  refine lv_iload hx hb kb_Mo_differ_51 (lv_at hl 0 rfl) ?_
  refine lv_iconst (v := (4 : Int32)) hx hb kb_Mo_differ_53 (by decide) ?_
  refine lv_iadd hx hb kb_Mo_differ_54 ?_
  refine lv_iload hx hb kb_Mo_differ_55 (lv_at hl 6 rfl) ?_
  obtain ⟨n57, s57, hy, hi, hw⟩ := hw
  refine zr_iast hx hb hK hG hS 0 hy rfl hi kb_Mo_differ_57 (fun H locs hG hS => ?_)
  obtain ⟨σ57, e57⟩ : ∃ z, z = z_sA σ46 s57 r48 (upd (z_A σ46 s57 r48) ((((5 : Int32)) * (z_I σ 836 a0)) + ((4 : Int32))).toNatClampNeg x5) := ⟨_, rfl⟩
  rw [← e57] at hG
  have hw := hw _ e57
  refine lv_aload_n hx hb kb_Mo_differ_58 rfl (lv_at hl 1 rfl) ?_
  refine lv_dup hx hb kb_Mo_differ_59 rfl ?_
  obtain ⟨hy, hw⟩ := hw
  refine zr_getI (ci := 8) (f := 836) hx hb hts ki_Mo hown hK hG hy rfl 36 (by decide) (hts _ (List.mem_cons_of_mem _ kw_620)) (fun _ h => h) rfl rfl kb_Mo_differ_60 ?_
  refine lv_iconst (v := (1 : Int32)) hx hb kb_Mo_differ_63 (by decide) ?_
  refine lv_iadd hx hb kb_Mo_differ_64 ?_
  obtain ⟨hy, hw⟩ := hw
  refine zr_putI (ci := 8) (f := 836) hx hb hts ki_Mo ky_Mo kyo_Mo kn_Mo hown hK hG hS hy rfl 36 (by decide) (hts _ (List.mem_cons_of_mem _ kw_620)) (fun _ h => h) rfl rfl rfl rfl rfl kb_Mo_differ_65 (fun H locs hG hS => ?_)
  obtain ⟨σ65, e65⟩ : ∃ z, z = z_sI σ57 836 a0 ((z_I σ57 836 a0) + ((1 : Int32))) := ⟨_, rfl⟩
  rw [← e65] at hG
  have hw := hw _ e65
  exact zr_vret z_nwN hx hb hr hZ hK hN hG hS hw kb_Mo_differ_68 hlocks
def kp_Mo_compareAll (a0 : Nat) (σ : z_S) (Post : z_S → Prop) : Prop := ∀ (X7 : Int32 → z_S → Prop) (X19 : Int32 → Int32 → Int32 → z_S → Prop) (X48 : Int32 → Int32 → Int32 → z_S → Prop) (X115 : Int32 → Int32 → Int32 → Int32 → Int32 → z_S → Prop),
    (∀ (v1 : Int32) (σ : z_S), (z_ty σ a0 = some (.inl 8) ∧ (((z_I σ 817 a0) ≤ v1 → Post σ) ∧ (¬ (z_I σ 817 a0) ≤ v1 → X19 v1 ((0 : Int32)) ((0 : Int32)) σ))) → X7 v1 σ) →
    (∀ (v1 : Int32) (v2 : Int32) (v3 : Int32) (σ : z_S), (z_ty σ a0 = some (.inl 8) ∧ ∃ r20, z_R σ 820 a0 = some r20 ∧ (∃ n24 s24, z_ty σ r20 = some (.inr (2, n24, s24)) ∧ vp_in v1 n24 ∧ ((((z_A σ s24 r20 v1.toNatClampNeg)) = 0 → X7 (v1 + (1 : Int32)) σ) ∧ (¬ ((z_A σ s24 r20 v1.toNatClampNeg)) = 0 → z_ty σ a0 = some (.inl 8) ∧ ∃ r30, z_R σ 829 a0 = some r30 ∧ (∃ n34 s34, z_ty σ r30 = some (.inr (0, n34, s34)) ∧ vp_in v1 n34 ∧ ((v2 < (z_A σ s34 r30 v1.toNatClampNeg) → X48 v1 v2 v3 σ) ∧ (¬ v2 < (z_A σ s34 r30 v1.toNatClampNeg) → z_ty σ a0 = some (.inl 8) ∧ ∃ r40, z_R σ 826 a0 = some r40 ∧ (∃ n44 s44, z_ty σ r40 = some (.inr (0, n44, s44)) ∧ vp_in v1 n44 ∧ (((z_A σ s44 r40 v1.toNatClampNeg) ≤ v3 → X7 (v1 + (1 : Int32)) σ) ∧ (¬ (z_A σ s44 r40 v1.toNatClampNeg) ≤ v3 → X48 v1 v2 v3 σ)))))))))) → X19 v1 v2 v3 σ) →
    (∀ (v1 : Int32) (v2 : Int32) (v3 : Int32) (σ : z_S), (z_ty σ a0 = some (.inl 8) ∧ kp_Mo_base a0 v1 v2 σ (fun (r51 : Int32) (σ51 : z_S) => z_ty σ51 a0 = some (.inl 8) ∧ ∃ r58, z_R σ51 829 a0 = some r58 ∧ (∃ n62 s62, z_ty σ51 r58 = some (.inr (0, n62, s62)) ∧ vp_in v1 n62 ∧ ((¬ v2 = (z_A σ51 s62 r58 v1.toNatClampNeg) → z_ty σ51 a0 = some (.inl 8) ∧ ∃ r72, z_R σ51 826 a0 = some r72 ∧ (∃ n76 s76, z_ty σ51 r72 = some (.inr (0, n76, s76)) ∧ vp_in v1 n76 ∧ ((¬ v3 = (z_A σ51 s76 r72 v1.toNatClampNeg) → z_ty σ51 a0 = some (.inl 8) ∧ ∃ r88, z_R σ51 827 a0 = some r88 ∧ (∃ n93 s93, z_ty σ51 r88 = some (.inr (0, n93, s93)) ∧ vp_in r51 n93 ∧ (z_ty σ51 a0 = some (.inl 8) ∧ ∃ r95, z_R σ51 827 a0 = some r95 ∧ (∃ n102 s102, z_ty σ51 r95 = some (.inr (0, n102, s102)) ∧ vp_in (r51 + ((1 : Int32))) n102 ∧ (z_ty σ51 a0 = some (.inl 8) ∧ ∃ r104, z_R σ51 827 a0 = some r104 ∧ (∃ n111 s111, z_ty σ51 r104 = some (.inr (0, n111, s111)) ∧ vp_in (r51 + ((2 : Int32))) n111 ∧ (z_ty σ51 a0 = some (.inl 8) ∧ kp_Mo_compare a0 v1 v3 (z_A σ51 s93 r88 r51.toNatClampNeg) (z_A σ51 s102 r95 (r51 + ((1 : Int32))).toNatClampNeg) (z_A σ51 s111 r104 (r51 + ((2 : Int32))).toNatClampNeg) σ51 (fun (r112 : Int32) (σ112 : z_S) => X115 v1 v2 v3 r51 r112 σ112)))))))) ∧ (v3 = (z_A σ51 s76 r72 v1.toNatClampNeg) → X115 v1 v2 v3 r51 ((-1 : Int32)) σ51)))) ∧ (v2 = (z_A σ51 s62 r58 v1.toNatClampNeg) → X115 v1 v2 v3 r51 ((1 : Int32)) σ51))))) → X48 v1 v2 v3 σ) →
    (∀ (v1 : Int32) (v2 : Int32) (v3 : Int32) (v4 : Int32) (t0 : Int32) (σ : z_S), ((¬ t0 = 0 → (t0 ≤ 0 → z_ty σ a0 = some (.inl 8) ∧ ∃ r184, z_R σ 827 a0 = some r184 ∧ (∃ n189 s189, z_ty σ r184 = some (.inr (0, n189, s189)) ∧ vp_in v4 n189 ∧ (z_ty σ a0 = some (.inl 8) ∧ ∃ r191, z_R σ 827 a0 = some r191 ∧ (∃ n198 s198, z_ty σ r191 = some (.inr (0, n198, s198)) ∧ vp_in (v4 + ((1 : Int32))) n198 ∧ (z_ty σ a0 = some (.inl 8) ∧ ∃ r200, z_R σ 827 a0 = some r200 ∧ (∃ n207 s207, z_ty σ r200 = some (.inr (0, n207, s207)) ∧ vp_in (v4 + ((2 : Int32))) n207 ∧ (z_ty σ a0 = some (.inl 8) ∧ kp_Mo_differ a0 v1 (z_A σ s189 r184 v4.toNatClampNeg) (z_A σ s198 r191 (v4 + ((1 : Int32))).toNatClampNeg) (z_A σ s207 r200 (v4 + ((2 : Int32))).toNatClampNeg) ((-1 : Int32)) σ (fun (σ209 : z_S) => X19 v1 (v2 + (1 : Int32)) v3 σ209)))))))) ∧ (¬ t0 ≤ 0 → z_ty σ a0 = some (.inl 8) ∧ kp_Mo_base a0 v1 v3 σ (fun (r139 : Int32) (σ139 : z_S) => z_ty σ139 a0 = some (.inl 8) ∧ ∃ r147, z_R σ139 824 a0 = some r147 ∧ (∃ n152 s152, z_ty σ139 r147 = some (.inr (0, n152, s152)) ∧ vp_in r139 n152 ∧ (z_ty σ139 a0 = some (.inl 8) ∧ ∃ r154, z_R σ139 824 a0 = some r154 ∧ (∃ n161 s161, z_ty σ139 r154 = some (.inr (0, n161, s161)) ∧ vp_in (r139 + ((1 : Int32))) n161 ∧ (z_ty σ139 a0 = some (.inl 8) ∧ ∃ r163, z_R σ139 824 a0 = some r163 ∧ (∃ n170 s170, z_ty σ139 r163 = some (.inr (0, n170, s170)) ∧ vp_in (r139 + ((2 : Int32))) n170 ∧ (z_ty σ139 a0 = some (.inl 8) ∧ kp_Mo_differ a0 v1 (z_A σ139 s152 r147 r139.toNatClampNeg) (z_A σ139 s161 r154 (r139 + ((1 : Int32))).toNatClampNeg) (z_A σ139 s170 r163 (r139 + ((2 : Int32))).toNatClampNeg) ((1 : Int32)) σ139 (fun (σ172 : z_S) => X19 v1 v2 (v3 + (1 : Int32)) σ172)))))))))) ∧ (t0 = 0 → X19 v1 (v2 + (1 : Int32)) (v3 + (1 : Int32)) σ)) → X115 v1 v2 v3 v4 t0 σ) →
    (z_ty σ a0 = some (.inl 8) ∧ ∀ σ2, σ2 = z_sI σ 836 a0 ((0 : Int32)) → X7 ((0 : Int32)) σ2)
set_option maxHeartbeats 4000000 in
set_option maxRecDepth 100000 in
theorem kc_Mo_compareAll (l : Launch) (D : va_G) (dA : Nat → ClassId) (Z : Nat) (a0 : Nat) (σ : z_S) (Post : z_S → Prop) : Met l km_Mo_compareAll ks_Mo_compareAll kr_Mo_compareAll (va_Pc [.ref a0] (fun U => z_U D z_cl z_KT dA Z (z_tys dA) z_nw σ U ∧ kp_Mo_compareAll  a0 σ Post)) (z_Qv D z_cl z_KT dA Z (z_tys dA) z_nw Post) 0 0 (fun q => Z ≤ q) := by
  refine Met.ofW (cc := prog_10_method_43_code) (maxL := 7) (ret := none) (by decide) rfl ?_
  intro p e s m args below meth c s₁ B hml hv
  obtain ⟨rfl, ⟨hZ, hG, hK, hN⟩, hw⟩ := hv
  have hx := B.exec
  have hb := B.bytes
  have hr := B.returns
  have hts := atoms_spec (ws := ks_Mo_compareAll) B.pre
  have hown : s.vm.findClass kR_Mo = some m.cls := findClass_of_methodNamed B.named
  have hlocks := B.notSynchronized
  have hS : va_S (fun q => Z ≤ q) s.heap s.heap [] := va_S.rf
  have hl := lv_entry ([.ref a0]) (n := 7) (Nat.le_of_ble_eq_true rfl)
  rw [lg_entry_eq]
  generalize (lg_sl ([.ref a0]) ++ List.replicate (7 - (lg_sl ([.ref a0])).length) Slot.unset).toArray = ls at hl ⊢
  have hl : lv_has ls 7 [(0, .ref a0)] := hl
  unfold kp_Mo_compareAll at hw
  have hw := hw (fun (v1 : Int32) (σ : z_S) => ∀ (H : Heap) (locs : List Loc) (ls : Array Slot), z_G D z_cl z_KT dA Z σ H → va_S (fun q => Z ≤ q) s.heap H locs → lv_has ls 7 [(0, .ref a0), (1, .int v1)] → W p l e (headSpec ks_Mo_compareAll kr_Mo_compareAll).room s m ([.ref a0] : List Value).toArray below meth c H locs 0 0 (MQ below (z_Qv D z_cl z_KT dA Z (z_tys dA) z_nw Post) ([.ref a0] : List Value).toArray s 0 0 (fun q => Z ≤ q)) (F0 m 7 ls []))
  have hw := hw (fun (v1 : Int32) (v2 : Int32) (v3 : Int32) (σ : z_S) => ∀ (H : Heap) (locs : List Loc) (ls : Array Slot), z_G D z_cl z_KT dA Z σ H → va_S (fun q => Z ≤ q) s.heap H locs → lv_has ls 7 [(0, .ref a0), (1, .int v1), (2, .int v2), (3, .int v3)] → W p l e (headSpec ks_Mo_compareAll kr_Mo_compareAll).room s m ([.ref a0] : List Value).toArray below meth c H locs 0 0 (MQ below (z_Qv D z_cl z_KT dA Z (z_tys dA) z_nw Post) ([.ref a0] : List Value).toArray s 0 0 (fun q => Z ≤ q)) (F0 m 19 ls []))
  have hw := hw (fun (v1 : Int32) (v2 : Int32) (v3 : Int32) (σ : z_S) => ∀ (H : Heap) (locs : List Loc) (ls : Array Slot), z_G D z_cl z_KT dA Z σ H → va_S (fun q => Z ≤ q) s.heap H locs → lv_has ls 7 [(0, .ref a0), (1, .int v1), (2, .int v2), (3, .int v3)] → W p l e (headSpec ks_Mo_compareAll kr_Mo_compareAll).room s m ([.ref a0] : List Value).toArray below meth c H locs 0 0 (MQ below (z_Qv D z_cl z_KT dA Z (z_tys dA) z_nw Post) ([.ref a0] : List Value).toArray s 0 0 (fun q => Z ≤ q)) (F0 m 48 ls []))
  have hw := hw (fun (v1 : Int32) (v2 : Int32) (v3 : Int32) (v4 : Int32) (t0 : Int32) (σ : z_S) => ∀ (H : Heap) (locs : List Loc) (ls : Array Slot), z_G D z_cl z_KT dA Z σ H → va_S (fun q => Z ≤ q) s.heap H locs → lv_has ls 7 [(0, .ref a0), (1, .int v1), (2, .int v2), (3, .int v3), (4, .int v4)] → W p l e (headSpec ks_Mo_compareAll kr_Mo_compareAll).room s m ([.ref a0] : List Value).toArray below meth c H locs 0 0 (MQ below (z_Qv D z_cl z_KT dA Z (z_tys dA) z_nw Post) ([.ref a0] : List Value).toArray s 0 0 (fun q => Z ≤ q)) (F0 m 115 ls [.int t0]))
  have hw := hw (by
    intro v1 σ hw H locs ls hG hS hl
    refine lv_iload_n hx hb kb_Mo_compareAll_7 rfl (lv_at hl 1 rfl) ?_
    refine lv_aload_n hx hb kb_Mo_compareAll_8 rfl (lv_at hl 0 rfl) ?_
    obtain ⟨hy, hw⟩ := hw
    refine zr_getI (ci := 8) (f := 817) hx hb hts ki_Mo hown hK hG hy rfl 17 (by decide) (hts _ (List.mem_cons_of_mem _ kw_601)) (fun _ h => h) rfl rfl kb_Mo_compareAll_9 ?_
    refine lv_icmp_ge (tgt := 224) hx hb kb_Mo_compareAll_12 (by decide) (fun hc => ?_) (fun hc => ?_)
    · have hw := hw.1 hc
      exact zr_vret z_nwN hx hb hr hZ hK hN hG hS hw kb_Mo_compareAll_224 hlocks
    · have hw := hw.2 hc
      refine lv_iconst (v := (0 : Int32)) hx hb kb_Mo_compareAll_15 (by decide) ?_
      refine lv_istore_n (lv' := [(2, .int ((0 : Int32))), (0, .ref a0), (1, .int v1)]) hx hb kb_Mo_compareAll_16 rfl hl (by decide) rfl (fun ls hl => ?_)
      refine lv_iconst (v := (0 : Int32)) hx hb kb_Mo_compareAll_17 (by decide) ?_
      refine lv_istore_n (lv' := [(3, .int ((0 : Int32))), (2, .int ((0 : Int32))), (0, .ref a0), (1, .int v1)]) hx hb kb_Mo_compareAll_18 rfl hl (by decide) rfl (fun ls hl => ?_)
      exact hw _ _ _ hG hS (lv_sub hl [2, 3, 1, 0] rfl))
  have hw := hw (by
    intro v1 v2 v3 σ hw H locs ls hG hS hl
    refine lv_aload_n hx hb kb_Mo_compareAll_19 rfl (lv_at hl 0 rfl) ?_
    obtain ⟨hy, r20, hrf, hw⟩ := hw
    refine zr_getR (ci := 8) (f := 820) hx hb hts ki_Mo hown hK hG hy rfl 20 (by decide) (hts _ (List.mem_cons_of_mem _ kw_604)) (fun _ h => h) rfl rfl hrf kb_Mo_compareAll_20 ?_
    refine lv_iload_n hx hb kb_Mo_compareAll_23 rfl (lv_at hl 1 rfl) ?_
    obtain ⟨n24, s24, hy, hi, hw⟩ := hw
    refine zr_zald hx hb hK hG 2 hy rfl hi kb_Mo_compareAll_24 ?_
    refine lv_if_eq (tgt := 218) hx hb kb_Mo_compareAll_25 (by decide) (fun hc => ?_) (fun hc => ?_)
    · have hw := hw.1 hc
      refine lv_iinc (v := v1 + (1 : Int32)) (lv' := [(1, .int (v1 + (1 : Int32))), (0, .ref a0), (2, .int v2), (3, .int v3)]) hx hb kb_Mo_compareAll_218 hl (k := 1) rfl rfl (by decide) rfl (fun ls hl => ?_)
      refine lv_goto (tgt := 7) hx hb kb_Mo_compareAll_221 (by decide) ?_
      exact hw _ _ _ hG hS (lv_sub hl [1, 0] rfl)
    · have hw := hw.2 hc
      refine lv_iload_n hx hb kb_Mo_compareAll_28 rfl (lv_at hl 2 rfl) ?_
      refine lv_aload_n hx hb kb_Mo_compareAll_29 rfl (lv_at hl 0 rfl) ?_
      obtain ⟨hy, r30, hrf, hw⟩ := hw
      refine zr_getR (ci := 8) (f := 829) hx hb hts ki_Mo hown hK hG hy rfl 29 (by decide) (hts _ (List.mem_cons_of_mem _ kw_613)) (fun _ h => h) rfl rfl hrf kb_Mo_compareAll_30 ?_
      refine lv_iload_n hx hb kb_Mo_compareAll_33 rfl (lv_at hl 1 rfl) ?_
      obtain ⟨n34, s34, hy, hi, hw⟩ := hw
      refine zr_iald hx hb hK hG 0 hy rfl hi kb_Mo_compareAll_34 ?_
      refine lv_icmp_lt (tgt := 48) hx hb kb_Mo_compareAll_35 (by decide) (fun hc => ?_) (fun hc => ?_)
      · have hw := hw.1 hc
        exact hw _ _ _ hG hS (lv_sub hl [0, 1, 2, 3] rfl)
      · have hw := hw.2 hc
        refine lv_iload_n hx hb kb_Mo_compareAll_38 rfl (lv_at hl 3 rfl) ?_
        refine lv_aload_n hx hb kb_Mo_compareAll_39 rfl (lv_at hl 0 rfl) ?_
        obtain ⟨hy, r40, hrf, hw⟩ := hw
        refine zr_getR (ci := 8) (f := 826) hx hb hts ki_Mo hown hK hG hy rfl 26 (by decide) (hts _ (List.mem_cons_of_mem _ kw_610)) (fun _ h => h) rfl rfl hrf kb_Mo_compareAll_40 ?_
        refine lv_iload_n hx hb kb_Mo_compareAll_43 rfl (lv_at hl 1 rfl) ?_
        obtain ⟨n44, s44, hy, hi, hw⟩ := hw
        refine zr_iald hx hb hK hG 0 hy rfl hi kb_Mo_compareAll_44 ?_
        refine lv_icmp_ge (tgt := 218) hx hb kb_Mo_compareAll_45 (by decide) (fun hc => ?_) (fun hc => ?_)
        · have hw := hw.1 hc
          refine lv_iinc (v := v1 + (1 : Int32)) (lv' := [(1, .int (v1 + (1 : Int32))), (0, .ref a0), (2, .int v2), (3, .int v3)]) hx hb kb_Mo_compareAll_218 hl (k := 1) rfl rfl (by decide) rfl (fun ls hl => ?_)
          refine lv_goto (tgt := 7) hx hb kb_Mo_compareAll_221 (by decide) ?_
          exact hw _ _ _ hG hS (lv_sub hl [1, 0] rfl)
        · have hw := hw.2 hc
          exact hw _ _ _ hG hS (lv_sub hl [0, 1, 2, 3] rfl))
  have hw := hw (by
    intro v1 v2 v3 σ hw H locs ls hG hS hl
    refine lv_aload_n hx hb kb_Mo_compareAll_48 rfl (lv_at hl 0 rfl) ?_
    refine lv_iload_n hx hb kb_Mo_compareAll_49 rfl (lv_at hl 1 rfl) ?_
    refine lv_iload_n hx hb kb_Mo_compareAll_50 rfl (lv_at hl 2 rfl) ?_
    obtain ⟨hy, hw⟩ := hw
    refine zr_ci (va_runV (C := kR_Mo) (As := [.int v1, .int v2]) (rest := []) ⟨hx, hb, hml, hown, hts⟩ (kc_Mo_base l D dA Z a0 v1 v2 σ _) ⟨callB_of 2 hts (z_gw kw_790) rfl rfl rfl (hts _ (List.mem_cons_of_mem _ kw_9)) (hts _ (List.mem_cons_of_mem _ kw_788)) (by decide +kernel) ⟨Nat.le_of_ble_eq_true rfl, Nat.le_of_ble_eq_true rfl⟩, (hts _ (List.mem_cons_of_mem _ kw_789)), (hts _ (List.mem_cons_of_mem _ kw_977))⟩ (z_preV z_nwN (Nat.le_trans hZ hS.1) hG hK hN hy (ci := 8) (r := (kR_Mo, kT_Mo, 51)) rfl hw) rfl rfl hl.1 rfl (lv_room (Nat.le_of_ble_eq_true rfl)) kb_Mo_compareAll_51 ⟨Nat.le_of_ble_eq_true rfl, Nat.le_of_ble_eq_true rfl⟩) hS (fun r51 σ51 H locs hw hG hS => ?_)
    refine lv_istore (lv' := [(4, .int r51), (0, .ref a0), (1, .int v1), (2, .int v2), (3, .int v3)]) hx hb kb_Mo_compareAll_54 hl (by decide) rfl (fun ls hl => ?_)
    refine lv_iload_n hx hb kb_Mo_compareAll_56 rfl (lv_at hl 3 rfl) ?_
    refine lv_aload_n hx hb kb_Mo_compareAll_57 rfl (lv_at hl 1 rfl) ?_
    obtain ⟨hy, r58, hrf, hw⟩ := hw
    refine zr_getR (ci := 8) (f := 829) hx hb hts ki_Mo hown hK hG hy rfl 29 (by decide) (hts _ (List.mem_cons_of_mem _ kw_613)) (fun _ h => h) rfl rfl hrf kb_Mo_compareAll_58 ?_
    refine lv_iload_n hx hb kb_Mo_compareAll_61 rfl (lv_at hl 2 rfl) ?_
    obtain ⟨n62, s62, hy, hi, hw⟩ := hw
    refine zr_iald hx hb hK hG 0 hy rfl hi kb_Mo_compareAll_62 ?_
    refine lv_icmp_ne (tgt := 70) hx hb kb_Mo_compareAll_63 (by decide) (fun hc => ?_) (fun hc => ?_)
    · have hw := hw.1 hc
      refine lv_iload_n hx hb kb_Mo_compareAll_70 rfl (lv_at hl 4 rfl) ?_
      refine lv_aload_n hx hb kb_Mo_compareAll_71 rfl (lv_at hl 1 rfl) ?_
      obtain ⟨hy, r72, hrf, hw⟩ := hw
      refine zr_getR (ci := 8) (f := 826) hx hb hts ki_Mo hown hK hG hy rfl 26 (by decide) (hts _ (List.mem_cons_of_mem _ kw_610)) (fun _ h => h) rfl rfl hrf kb_Mo_compareAll_72 ?_
      refine lv_iload_n hx hb kb_Mo_compareAll_75 rfl (lv_at hl 2 rfl) ?_
      obtain ⟨n76, s76, hy, hi, hw⟩ := hw
      refine zr_iald hx hb hK hG 0 hy rfl hi kb_Mo_compareAll_76 ?_
      refine lv_icmp_ne (tgt := 84) hx hb kb_Mo_compareAll_77 (by decide) (fun hc => ?_) (fun hc => ?_)
      · have hw := hw.1 hc
        refine lv_aload_n hx hb kb_Mo_compareAll_84 rfl (lv_at hl 1 rfl) ?_
        refine lv_iload_n hx hb kb_Mo_compareAll_85 rfl (lv_at hl 2 rfl) ?_
        refine lv_iload_n hx hb kb_Mo_compareAll_86 rfl (lv_at hl 4 rfl) ?_
        refine lv_aload_n hx hb kb_Mo_compareAll_87 rfl (lv_at hl 1 rfl) ?_
        obtain ⟨hy, r88, hrf, hw⟩ := hw
        refine zr_getR (ci := 8) (f := 827) hx hb hts ki_Mo hown hK hG hy rfl 27 (by decide) (hts _ (List.mem_cons_of_mem _ kw_611)) (fun _ h => h) rfl rfl hrf kb_Mo_compareAll_88 ?_
        refine lv_iload hx hb kb_Mo_compareAll_91 (lv_at hl 0 rfl) ?_
        obtain ⟨n93, s93, hy, hi, hw⟩ := hw
        refine zr_iald hx hb hK hG 0 hy rfl hi kb_Mo_compareAll_93 ?_
        refine lv_aload_n hx hb kb_Mo_compareAll_94 rfl (lv_at hl 1 rfl) ?_
        obtain ⟨hy, r95, hrf, hw⟩ := hw
        refine zr_getR (ci := 8) (f := 827) hx hb hts ki_Mo hown hK hG hy rfl 27 (by decide) (hts _ (List.mem_cons_of_mem _ kw_611)) (fun _ h => h) rfl rfl hrf kb_Mo_compareAll_95 ?_
        refine lv_iload hx hb kb_Mo_compareAll_98 (lv_at hl 0 rfl) ?_
        refine lv_iconst (v := (1 : Int32)) hx hb kb_Mo_compareAll_100 (by decide) ?_
        refine lv_iadd hx hb kb_Mo_compareAll_101 ?_
        obtain ⟨n102, s102, hy, hi, hw⟩ := hw
        refine zr_iald hx hb hK hG 0 hy rfl hi kb_Mo_compareAll_102 ?_
        refine lv_aload_n hx hb kb_Mo_compareAll_103 rfl (lv_at hl 1 rfl) ?_
        obtain ⟨hy, r104, hrf, hw⟩ := hw
        refine zr_getR (ci := 8) (f := 827) hx hb hts ki_Mo hown hK hG hy rfl 27 (by decide) (hts _ (List.mem_cons_of_mem _ kw_611)) (fun _ h => h) rfl rfl hrf kb_Mo_compareAll_104 ?_
        refine lv_iload hx hb kb_Mo_compareAll_107 (lv_at hl 0 rfl) ?_
        refine lv_iconst (v := (2 : Int32)) hx hb kb_Mo_compareAll_109 (by decide) ?_
        refine lv_iadd hx hb kb_Mo_compareAll_110 ?_
        obtain ⟨n111, s111, hy, hi, hw⟩ := hw
        refine zr_iald hx hb hK hG 0 hy rfl hi kb_Mo_compareAll_111 ?_
        obtain ⟨hy, hw⟩ := hw
        refine zr_ci (va_runV (C := kR_Mo) (As := [.int v1, .int v3, .int (z_A σ51 s93 r88 r51.toNatClampNeg), .int (z_A σ51 s102 r95 (r51 + ((1 : Int32))).toNatClampNeg), .int (z_A σ51 s111 r104 (r51 + ((2 : Int32))).toNatClampNeg)]) (rest := []) ⟨hx, hb, hml, hown, hts⟩ (kc_Mo_compare l D dA Z a0 v1 v3 (z_A σ51 s93 r88 r51.toNatClampNeg) (z_A σ51 s102 r95 (r51 + ((1 : Int32))).toNatClampNeg) (z_A σ51 s111 r104 (r51 + ((2 : Int32))).toNatClampNeg) σ51 _) ⟨callB_of 5 hts (z_gw kw_787) rfl rfl rfl (hts _ (List.mem_cons_of_mem _ kw_9)) (hts _ (List.mem_cons_of_mem _ kw_785)) (by decide +kernel) ⟨Nat.le_of_ble_eq_true rfl, Nat.le_of_ble_eq_true rfl⟩, (hts _ (List.mem_cons_of_mem _ kw_786)), (hts _ (List.mem_cons_of_mem _ kw_976))⟩ (z_preV z_nwN (Nat.le_trans hZ hS.1) hG hK hN hy (ci := 8) (r := (kR_Mo, kT_Mo, 51)) rfl hw) rfl rfl hl.1 rfl (lv_room (Nat.le_of_ble_eq_true rfl)) kb_Mo_compareAll_112 ⟨Nat.le_of_ble_eq_true rfl, Nat.le_of_ble_eq_true rfl⟩) hS (fun r112 σ112 H locs hw hG hS => ?_)
        exact hw _ _ _ hG hS (lv_sub hl [1, 2, 3, 4, 0] rfl)
      · have hw := hw.2 hc
        refine lv_iconst (v := (-1 : Int32)) hx hb kb_Mo_compareAll_80 (by decide) ?_
        refine lv_goto (tgt := 115) hx hb kb_Mo_compareAll_81 (by decide) ?_
        exact hw _ _ _ hG hS (lv_sub hl [1, 2, 3, 4, 0] rfl)
    · have hw := hw.2 hc
      refine lv_iconst (v := (1 : Int32)) hx hb kb_Mo_compareAll_66 (by decide) ?_
      refine lv_goto (tgt := 115) hx hb kb_Mo_compareAll_67 (by decide) ?_
      exact hw _ _ _ hG hS (lv_sub hl [1, 2, 3, 4, 0] rfl))
  have hw := hw (by
    intro v1 v2 v3 v4 t0 σ hw H locs ls hG hS hl
    refine lv_istore (lv' := [(5, .int t0), (0, .ref a0), (1, .int v1), (2, .int v2), (3, .int v3), (4, .int v4)]) hx hb kb_Mo_compareAll_115 hl (by decide) rfl (fun ls hl => ?_)
    refine lv_iload hx hb kb_Mo_compareAll_117 (lv_at hl 0 rfl) ?_
    refine lv_if_ne (tgt := 131) hx hb kb_Mo_compareAll_119 (by decide) (fun hc => ?_) (fun hc => ?_)
    · have hw := hw.1 hc
      refine lv_iload hx hb kb_Mo_compareAll_131 (lv_at hl 0 rfl) ?_
      refine lv_if_le (tgt := 181) hx hb kb_Mo_compareAll_133 (by decide) (fun hc => ?_) (fun hc => ?_)
      · have hw := hw.1 hc
        refine lv_aload_n hx hb kb_Mo_compareAll_181 rfl (lv_at hl 1 rfl) ?_
        refine lv_iload_n hx hb kb_Mo_compareAll_182 rfl (lv_at hl 2 rfl) ?_
        refine lv_aload_n hx hb kb_Mo_compareAll_183 rfl (lv_at hl 1 rfl) ?_
        obtain ⟨hy, r184, hrf, hw⟩ := hw
        refine zr_getR (ci := 8) (f := 827) hx hb hts ki_Mo hown hK hG hy rfl 27 (by decide) (hts _ (List.mem_cons_of_mem _ kw_611)) (fun _ h => h) rfl rfl hrf kb_Mo_compareAll_184 ?_
        refine lv_iload hx hb kb_Mo_compareAll_187 (lv_at hl 5 rfl) ?_
        obtain ⟨n189, s189, hy, hi, hw⟩ := hw
        refine zr_iald hx hb hK hG 0 hy rfl hi kb_Mo_compareAll_189 ?_
        refine lv_aload_n hx hb kb_Mo_compareAll_190 rfl (lv_at hl 1 rfl) ?_
        obtain ⟨hy, r191, hrf, hw⟩ := hw
        refine zr_getR (ci := 8) (f := 827) hx hb hts ki_Mo hown hK hG hy rfl 27 (by decide) (hts _ (List.mem_cons_of_mem _ kw_611)) (fun _ h => h) rfl rfl hrf kb_Mo_compareAll_191 ?_
        refine lv_iload hx hb kb_Mo_compareAll_194 (lv_at hl 5 rfl) ?_
        refine lv_iconst (v := (1 : Int32)) hx hb kb_Mo_compareAll_196 (by decide) ?_
        refine lv_iadd hx hb kb_Mo_compareAll_197 ?_
        obtain ⟨n198, s198, hy, hi, hw⟩ := hw
        refine zr_iald hx hb hK hG 0 hy rfl hi kb_Mo_compareAll_198 ?_
        refine lv_aload_n hx hb kb_Mo_compareAll_199 rfl (lv_at hl 1 rfl) ?_
        obtain ⟨hy, r200, hrf, hw⟩ := hw
        refine zr_getR (ci := 8) (f := 827) hx hb hts ki_Mo hown hK hG hy rfl 27 (by decide) (hts _ (List.mem_cons_of_mem _ kw_611)) (fun _ h => h) rfl rfl hrf kb_Mo_compareAll_200 ?_
        refine lv_iload hx hb kb_Mo_compareAll_203 (lv_at hl 5 rfl) ?_
        refine lv_iconst (v := (2 : Int32)) hx hb kb_Mo_compareAll_205 (by decide) ?_
        refine lv_iadd hx hb kb_Mo_compareAll_206 ?_
        obtain ⟨n207, s207, hy, hi, hw⟩ := hw
        refine zr_iald hx hb hK hG 0 hy rfl hi kb_Mo_compareAll_207 ?_
        refine lv_iconst (v := (-1 : Int32)) hx hb kb_Mo_compareAll_208 (by decide) ?_
        obtain ⟨hy, hw⟩ := hw
        refine zr_cv (va_runV (C := kR_Mo) (As := [.int v1, .int (z_A σ s189 r184 v4.toNatClampNeg), .int (z_A σ s198 r191 (v4 + ((1 : Int32))).toNatClampNeg), .int (z_A σ s207 r200 (v4 + ((2 : Int32))).toNatClampNeg), .int ((-1 : Int32))]) (rest := []) ⟨hx, hb, hml, hown, hts⟩ (kc_Mo_differ l D dA Z a0 v1 (z_A σ s189 r184 v4.toNatClampNeg) (z_A σ s198 r191 (v4 + ((1 : Int32))).toNatClampNeg) (z_A σ s207 r200 (v4 + ((2 : Int32))).toNatClampNeg) ((-1 : Int32)) σ _) ⟨callB_of 5 hts (z_gw kw_859) rfl rfl rfl (hts _ (List.mem_cons_of_mem _ kw_9)) (hts _ (List.mem_cons_of_mem _ kw_857)) (by decide +kernel) ⟨Nat.le_of_ble_eq_true rfl, Nat.le_of_ble_eq_true rfl⟩, (hts _ (List.mem_cons_of_mem _ kw_858)), (hts _ (List.mem_cons_of_mem _ kw_992))⟩ (z_preV z_nwN (Nat.le_trans hZ hS.1) hG hK hN hy (ci := 8) (r := (kR_Mo, kT_Mo, 51)) rfl hw) rfl rfl hl.1 rfl (lv_room (Nat.le_of_ble_eq_true rfl)) kb_Mo_compareAll_209 ⟨Nat.le_of_ble_eq_true rfl, Nat.le_of_ble_eq_true rfl⟩) hS (fun σ209 H locs hw hG hS => ?_)
        refine lv_iinc (v := v2 + (1 : Int32)) (lv' := [(2, .int (v2 + (1 : Int32))), (5, .int t0), (0, .ref a0), (1, .int v1), (3, .int v3), (4, .int v4)]) hx hb kb_Mo_compareAll_212 hl (k := 3) rfl rfl (by decide) rfl (fun ls hl => ?_)
        refine lv_goto (tgt := 19) hx hb kb_Mo_compareAll_215 (by decide) ?_
        exact hw _ _ _ hG hS (lv_sub hl [2, 3, 0, 4] rfl)
      · have hw := hw.2 hc
        refine lv_aload_n hx hb kb_Mo_compareAll_136 rfl (lv_at hl 1 rfl) ?_
        refine lv_iload_n hx hb kb_Mo_compareAll_137 rfl (lv_at hl 2 rfl) ?_
        refine lv_iload_n hx hb kb_Mo_compareAll_138 rfl (lv_at hl 4 rfl) ?_
        obtain ⟨hy, hw⟩ := hw
        refine zr_ci (va_runV (C := kR_Mo) (As := [.int v1, .int v3]) (rest := []) ⟨hx, hb, hml, hown, hts⟩ (kc_Mo_base l D dA Z a0 v1 v3 σ _) ⟨callB_of 2 hts (z_gw kw_790) rfl rfl rfl (hts _ (List.mem_cons_of_mem _ kw_9)) (hts _ (List.mem_cons_of_mem _ kw_788)) (by decide +kernel) ⟨Nat.le_of_ble_eq_true rfl, Nat.le_of_ble_eq_true rfl⟩, (hts _ (List.mem_cons_of_mem _ kw_789)), (hts _ (List.mem_cons_of_mem _ kw_977))⟩ (z_preV z_nwN (Nat.le_trans hZ hS.1) hG hK hN hy (ci := 8) (r := (kR_Mo, kT_Mo, 51)) rfl hw) rfl rfl hl.1 rfl (lv_room (Nat.le_of_ble_eq_true rfl)) kb_Mo_compareAll_139 ⟨Nat.le_of_ble_eq_true rfl, Nat.le_of_ble_eq_true rfl⟩) hS (fun r139 σ139 H locs hw hG hS => ?_)
        refine lv_istore (lv' := [(6, .int r139), (5, .int t0), (0, .ref a0), (1, .int v1), (2, .int v2), (3, .int v3), (4, .int v4)]) hx hb kb_Mo_compareAll_142 hl (by decide) rfl (fun ls hl => ?_)
        refine lv_aload_n hx hb kb_Mo_compareAll_144 rfl (lv_at hl 2 rfl) ?_
        refine lv_iload_n hx hb kb_Mo_compareAll_145 rfl (lv_at hl 3 rfl) ?_
        refine lv_aload_n hx hb kb_Mo_compareAll_146 rfl (lv_at hl 2 rfl) ?_
        obtain ⟨hy, r147, hrf, hw⟩ := hw
        refine zr_getR (ci := 8) (f := 824) hx hb hts ki_Mo hown hK hG hy rfl 24 (by decide) (hts _ (List.mem_cons_of_mem _ kw_608)) (fun _ h => h) rfl rfl hrf kb_Mo_compareAll_147 ?_
        refine lv_iload hx hb kb_Mo_compareAll_150 (lv_at hl 0 rfl) ?_
        obtain ⟨n152, s152, hy, hi, hw⟩ := hw
        refine zr_iald hx hb hK hG 0 hy rfl hi kb_Mo_compareAll_152 ?_
        refine lv_aload_n hx hb kb_Mo_compareAll_153 rfl (lv_at hl 2 rfl) ?_
        obtain ⟨hy, r154, hrf, hw⟩ := hw
        refine zr_getR (ci := 8) (f := 824) hx hb hts ki_Mo hown hK hG hy rfl 24 (by decide) (hts _ (List.mem_cons_of_mem _ kw_608)) (fun _ h => h) rfl rfl hrf kb_Mo_compareAll_154 ?_
        refine lv_iload hx hb kb_Mo_compareAll_157 (lv_at hl 0 rfl) ?_
        refine lv_iconst (v := (1 : Int32)) hx hb kb_Mo_compareAll_159 (by decide) ?_
        refine lv_iadd hx hb kb_Mo_compareAll_160 ?_
        obtain ⟨n161, s161, hy, hi, hw⟩ := hw
        refine zr_iald hx hb hK hG 0 hy rfl hi kb_Mo_compareAll_161 ?_
        refine lv_aload_n hx hb kb_Mo_compareAll_162 rfl (lv_at hl 2 rfl) ?_
        obtain ⟨hy, r163, hrf, hw⟩ := hw
        refine zr_getR (ci := 8) (f := 824) hx hb hts ki_Mo hown hK hG hy rfl 24 (by decide) (hts _ (List.mem_cons_of_mem _ kw_608)) (fun _ h => h) rfl rfl hrf kb_Mo_compareAll_163 ?_
        refine lv_iload hx hb kb_Mo_compareAll_166 (lv_at hl 0 rfl) ?_
        refine lv_iconst (v := (2 : Int32)) hx hb kb_Mo_compareAll_168 (by decide) ?_
        refine lv_iadd hx hb kb_Mo_compareAll_169 ?_
        obtain ⟨n170, s170, hy, hi, hw⟩ := hw
        refine zr_iald hx hb hK hG 0 hy rfl hi kb_Mo_compareAll_170 ?_
        refine lv_iconst (v := (1 : Int32)) hx hb kb_Mo_compareAll_171 (by decide) ?_
        obtain ⟨hy, hw⟩ := hw
        refine zr_cv (va_runV (C := kR_Mo) (As := [.int v1, .int (z_A σ139 s152 r147 r139.toNatClampNeg), .int (z_A σ139 s161 r154 (r139 + ((1 : Int32))).toNatClampNeg), .int (z_A σ139 s170 r163 (r139 + ((2 : Int32))).toNatClampNeg), .int ((1 : Int32))]) (rest := []) ⟨hx, hb, hml, hown, hts⟩ (kc_Mo_differ l D dA Z a0 v1 (z_A σ139 s152 r147 r139.toNatClampNeg) (z_A σ139 s161 r154 (r139 + ((1 : Int32))).toNatClampNeg) (z_A σ139 s170 r163 (r139 + ((2 : Int32))).toNatClampNeg) ((1 : Int32)) σ139 _) ⟨callB_of 5 hts (z_gw kw_859) rfl rfl rfl (hts _ (List.mem_cons_of_mem _ kw_9)) (hts _ (List.mem_cons_of_mem _ kw_857)) (by decide +kernel) ⟨Nat.le_of_ble_eq_true rfl, Nat.le_of_ble_eq_true rfl⟩, (hts _ (List.mem_cons_of_mem _ kw_858)), (hts _ (List.mem_cons_of_mem _ kw_992))⟩ (z_preV z_nwN (Nat.le_trans hZ hS.1) hG hK hN hy (ci := 8) (r := (kR_Mo, kT_Mo, 51)) rfl hw) rfl rfl hl.1 rfl (lv_room (Nat.le_of_ble_eq_true rfl)) kb_Mo_compareAll_172 ⟨Nat.le_of_ble_eq_true rfl, Nat.le_of_ble_eq_true rfl⟩) hS (fun σ172 H locs hw hG hS => ?_)
        refine lv_iinc (v := v3 + (1 : Int32)) (lv' := [(3, .int (v3 + (1 : Int32))), (6, .int r139), (5, .int t0), (0, .ref a0), (1, .int v1), (2, .int v2), (4, .int v4)]) hx hb kb_Mo_compareAll_175 hl (k := 5) rfl rfl (by decide) rfl (fun ls hl => ?_)
        refine lv_goto (tgt := 215) hx hb kb_Mo_compareAll_178 (by decide) ?_
        refine lv_goto (tgt := 19) hx hb kb_Mo_compareAll_215 (by decide) ?_
        exact hw _ _ _ hG hS (lv_sub hl [3, 4, 5, 0] rfl)
    · have hw := hw.2 hc
      refine lv_iinc (v := v2 + (1 : Int32)) (lv' := [(2, .int (v2 + (1 : Int32))), (5, .int t0), (0, .ref a0), (1, .int v1), (3, .int v3), (4, .int v4)]) hx hb kb_Mo_compareAll_122 hl (k := 3) rfl rfl (by decide) rfl (fun ls hl => ?_)
      refine lv_iinc (v := v3 + (1 : Int32)) (lv' := [(3, .int (v3 + (1 : Int32))), (2, .int (v2 + (1 : Int32))), (5, .int t0), (0, .ref a0), (1, .int v1), (4, .int v4)]) hx hb kb_Mo_compareAll_125 hl (k := 4) rfl rfl (by decide) rfl (fun ls hl => ?_)
      refine lv_goto (tgt := 215) hx hb kb_Mo_compareAll_128 (by decide) ?_
      refine lv_goto (tgt := 19) hx hb kb_Mo_compareAll_215 (by decide) ?_
      exact hw _ _ _ hG hS (lv_sub hl [3, 4, 1, 0] rfl))
  refine lv_aload_n hx hb kb_Mo_compareAll_0 rfl (lv_at hl 0 rfl) ?_
  refine lv_iconst (v := (0 : Int32)) hx hb kb_Mo_compareAll_1 (by decide) ?_
  obtain ⟨hy, hw⟩ := hw
  refine zr_putI (ci := 8) (f := 836) hx hb hts ki_Mo ky_Mo kyo_Mo kn_Mo hown hK hG hS hy rfl 36 (by decide) (hts _ (List.mem_cons_of_mem _ kw_620)) (fun _ h => h) rfl rfl rfl rfl rfl kb_Mo_compareAll_2 (fun H locs hG hS => ?_)
  obtain ⟨σ2, e2⟩ : ∃ z, z = z_sI σ 836 a0 ((0 : Int32)) := ⟨_, rfl⟩
  rw [← e2] at hG
  have hw := hw _ e2
  refine lv_iconst (v := (0 : Int32)) hx hb kb_Mo_compareAll_5 (by decide) ?_
  refine lv_istore_n (lv' := [(1, .int ((0 : Int32))), (0, .ref a0)]) hx hb kb_Mo_compareAll_6 rfl hl (by decide) rfl (fun ls hl => ?_)
  exact hw _ _ _ hG hS (lv_sub hl [1, 0] rfl)
def kp_Mo_apply (a0 : Nat) (σ : z_S) (Post : Int32 → z_S → Prop) : Prop := ∀ (X2 : Int32 → z_S → Prop) (X74 : Int32 → Int32 → Int32 → z_S → Prop) (X112 : Int32 → z_S → Prop) (X119 : Int32 → Int32 → z_S → Prop) (X194 : Int32 → Int32 → Int32 → Int32 → Int32 → Int32 → z_S → Prop) (X240 : Int32 → Int32 → Int32 → Int32 → Int32 → Int32 → z_S → Prop) (X269 : Int32 → Int32 → Int32 → Int32 → Int32 → z_S → Prop),
    (∀ (v1 : Int32) (σ : z_S), (z_ty σ a0 = some (.inl 8) ∧ (((z_I σ 847 a0) ≤ v1 → z_ty σ a0 = some (.inl 8) ∧ kp_Mo_keep a0 σ (fun (σ107 : z_S) => X112 ((0 : Int32)) σ107)) ∧ (¬ (z_I σ 847 a0) ≤ v1 → z_ty σ a0 = some (.inl 8) ∧ ∃ r16, z_R σ 846 a0 = some r16 ∧ (∃ n20 s20, z_ty σ r16 = some (.inr (0, n20, s20)) ∧ vp_in (((5 : Int32)) * v1) n20 ∧ (z_ty σ a0 = some (.inl 8) ∧ ∃ r22, z_R σ 846 a0 = some r22 ∧ (∃ n28 s28, z_ty σ r22 = some (.inr (0, n28, s28)) ∧ vp_in ((((5 : Int32)) * v1) + ((1 : Int32))) n28 ∧ (z_ty σ a0 = some (.inl 8) ∧ ∃ r30, z_R σ 846 a0 = some r30 ∧ (∃ n36 s36, z_ty σ r30 = some (.inr (0, n36, s36)) ∧ vp_in ((((5 : Int32)) * v1) + ((2 : Int32))) n36 ∧ (z_ty σ a0 = some (.inl 8) ∧ ∃ r38, z_R σ 846 a0 = some r38 ∧ (∃ n44 s44, z_ty σ r38 = some (.inr (0, n44, s44)) ∧ vp_in ((((5 : Int32)) * v1) + ((3 : Int32))) n44 ∧ (z_ty σ a0 = some (.inl 8) ∧ kp_Mo_find a0 (z_A σ s20 r16 (((5 : Int32)) * v1).toNatClampNeg) (z_A σ s28 r22 ((((5 : Int32)) * v1) + ((1 : Int32))).toNatClampNeg) (z_A σ s36 r30 ((((5 : Int32)) * v1) + ((2 : Int32))).toNatClampNeg) (z_A σ s44 r38 ((((5 : Int32)) * v1) + ((3 : Int32))).toNatClampNeg) σ (fun (r45 : Int32) (σ45 : z_S) => (¬ r45 = ((-1 : Int32)) → z_ty σ45 a0 = some (.inl 8) ∧ ∃ r59, z_R σ45 825 a0 = some r59 ∧ (z_ty σ45 a0 = some (.inl 8) ∧ ∃ r65, z_R σ45 846 a0 = some r65 ∧ (∃ n69 s69, z_ty σ45 r65 = some (.inr (0, n69, s69)) ∧ vp_in (((5 : Int32)) * v1) n69 ∧ (∃ n73 s73, z_ty σ45 r59 = some (.inr (0, n73, s73)) ∧ vp_in ((((40 : Int32)) * (z_A σ45 s69 r65 (((5 : Int32)) * v1).toNatClampNeg)) + r45) n73 ∧ (X74 v1 (((5 : Int32)) * v1) (z_A σ45 s73 r59 ((((40 : Int32)) * (z_A σ45 s69 r65 (((5 : Int32)) * v1).toNatClampNeg)) + r45).toNatClampNeg) σ45))))) ∧ (r45 = ((-1 : Int32)) → X74 v1 (((5 : Int32)) * v1) ((0 : Int32)) σ45))))))))))))) → X2 v1 σ) →
    (∀ (v1 : Int32) (v2 : Int32) (t0 : Int32) (σ : z_S), (z_ty σ a0 = some (.inl 8) ∧ ∃ r75, z_R σ 846 a0 = some r75 ∧ (∃ n81 s81, z_ty σ r75 = some (.inr (0, n81, s81)) ∧ vp_in (v2 + ((4 : Int32))) n81 ∧ ((((t0 + (z_A σ s81 r75 (v2 + ((4 : Int32))).toNatClampNeg))) < 0 → Post ((-2 : Int32)) σ) ∧ (¬ ((t0 + (z_A σ s81 r75 (v2 + ((4 : Int32))).toNatClampNeg))) < 0 → ((t0 + (z_A σ s81 r75 (v2 + ((4 : Int32))).toNatClampNeg)) ≤ ((9 : Int32)) → X2 (v1 + (1 : Int32)) σ) ∧ (¬ (t0 + (z_A σ s81 r75 (v2 + ((4 : Int32))).toNatClampNeg)) ≤ ((9 : Int32)) → Post ((-2 : Int32)) σ))))) → X74 v1 v2 t0 σ) →
    (∀ (v1 : Int32) (σ : z_S), ((((2 : Int32)) ≤ v1 → z_ty σ a0 = some (.inl 8) ∧ kp_Mo_work a0 σ (fun (r334 : Int32) (σ334 : z_S) => (¬ r334 = 0 → z_ty σ334 a0 = some (.inl 8) ∧ kp_Mo_compareAll a0 σ334 (fun (σ348 : z_S) => Post ((0 : Int32)) σ348)) ∧ (r334 = 0 → z_ty σ334 a0 = some (.inl 8) ∧ kp_Mo_back a0 σ334 (fun (σ341 : z_S) => Post ((-3 : Int32)) σ341)))) ∧ (¬ ((2 : Int32)) ≤ v1 → X119 v1 ((0 : Int32)) σ)) → X112 v1 σ) →
    (∀ (v1 : Int32) (v2 : Int32) (σ : z_S), (z_ty σ a0 = some (.inl 8) ∧ (((z_I σ 847 a0) ≤ v2 → X112 (v1 + (1 : Int32)) σ) ∧ (¬ (z_I σ 847 a0) ≤ v2 → z_ty σ a0 = some (.inl 8) ∧ ∃ r132, z_R σ 846 a0 = some r132 ∧ (∃ n136 s136, z_ty σ r132 = some (.inr (0, n136, s136)) ∧ vp_in (((5 : Int32)) * v2) n136 ∧ (z_ty σ a0 = some (.inl 8) ∧ ∃ r143, z_R σ 846 a0 = some r143 ∧ (∃ n149 s149, z_ty σ r143 = some (.inr (0, n149, s149)) ∧ vp_in ((((5 : Int32)) * v2) + ((1 : Int32))) n149 ∧ (z_ty σ a0 = some (.inl 8) ∧ ∃ r151, z_R σ 846 a0 = some r151 ∧ (∃ n157 s157, z_ty σ r151 = some (.inr (0, n157, s157)) ∧ vp_in ((((5 : Int32)) * v2) + ((2 : Int32))) n157 ∧ (z_ty σ a0 = some (.inl 8) ∧ ∃ r159, z_R σ 846 a0 = some r159 ∧ (∃ n165 s165, z_ty σ r159 = some (.inr (0, n165, s165)) ∧ vp_in ((((5 : Int32)) * v2) + ((3 : Int32))) n165 ∧ (z_ty σ a0 = some (.inl 8) ∧ kp_Mo_find a0 (z_A σ s136 r132 (((5 : Int32)) * v2).toNatClampNeg) (z_A σ s149 r143 ((((5 : Int32)) * v2) + ((1 : Int32))).toNatClampNeg) (z_A σ s157 r151 ((((5 : Int32)) * v2) + ((2 : Int32))).toNatClampNeg) (z_A σ s165 r159 ((((5 : Int32)) * v2) + ((3 : Int32))).toNatClampNeg) σ (fun (r166 : Int32) (σ166 : z_S) => (¬ r166 = ((-1 : Int32)) → z_ty σ166 a0 = some (.inl 8) ∧ ∃ r182, z_R σ166 825 a0 = some r182 ∧ (∃ n193 s193, z_ty σ166 r182 = some (.inr (0, n193, s193)) ∧ vp_in ((((40 : Int32)) * (z_A σ s136 r132 (((5 : Int32)) * v2).toNatClampNeg)) + r166) n193 ∧ (X194 v1 v2 (((5 : Int32)) * v2) (z_A σ s136 r132 (((5 : Int32)) * v2).toNatClampNeg) r166 (z_A σ166 s193 r182 ((((40 : Int32)) * (z_A σ s136 r132 (((5 : Int32)) * v2).toNatClampNeg)) + r166).toNatClampNeg) σ166))) ∧ (r166 = ((-1 : Int32)) → X194 v1 v2 (((5 : Int32)) * v2) (z_A σ s136 r132 (((5 : Int32)) * v2).toNatClampNeg) r166 ((0 : Int32)) σ166))))))))))))) → X119 v1 v2 σ) →
    (∀ (v1 : Int32) (v2 : Int32) (v3 : Int32) (v4 : Int32) (v5 : Int32) (t0 : Int32) (σ : z_S), (z_ty σ a0 = some (.inl 8) ∧ ∃ r195, z_R σ 846 a0 = some r195 ∧ (∃ n201 s201, z_ty σ r195 = some (.inr (0, n201, s201)) ∧ vp_in (v3 + ((4 : Int32))) n201 ∧ ((¬ v1 = 0 → X240 v1 v2 v3 v4 v5 (t0 + (z_A σ s201 r195 (v3 + ((4 : Int32))).toNatClampNeg)) σ) ∧ (v1 = 0 → (v5 = ((-1 : Int32)) → X240 v1 v2 v3 v4 v5 (t0 + (z_A σ s201 r195 (v3 + ((4 : Int32))).toNatClampNeg)) σ) ∧ (¬ v5 = ((-1 : Int32)) → (¬ ((t0 + (z_A σ s201 r195 (v3 + ((4 : Int32))).toNatClampNeg))) = 0 → X240 v1 v2 v3 v4 v5 (t0 + (z_A σ s201 r195 (v3 + ((4 : Int32))).toNatClampNeg)) σ) ∧ (((t0 + (z_A σ s201 r195 (v3 + ((4 : Int32))).toNatClampNeg))) = 0 → z_ty σ a0 = some (.inl 8) ∧ kp_Mo_remove a0 v4 v5 σ (fun (σ225 : z_S) => z_ty σ225 a0 = some (.inl 8) ∧ ∃ r229, z_R σ225 846 a0 = some r229 ∧ (∃ n236 s236, z_ty σ225 r229 = some (.inr (0, n236, s236)) ∧ vp_in (v3 + ((4 : Int32))) n236 ∧ ∀ σ236, σ236 = z_sA σ225 s236 r229 (upd (z_A σ225 s236 r229) (v3 + ((4 : Int32))).toNatClampNeg ((0 : Int32))) → X119 v1 (v2 + (1 : Int32)) σ236)))))))) → X194 v1 v2 v3 v4 v5 t0 σ) →
    (∀ (v1 : Int32) (v2 : Int32) (v3 : Int32) (v4 : Int32) (v5 : Int32) (v6 : Int32) (σ : z_S), ((¬ v1 = ((1 : Int32)) → X269 v1 v2 v3 v4 v6 σ) ∧ (v1 = ((1 : Int32)) → (v5 = ((-1 : Int32)) → X269 v1 v2 v3 v4 v6 σ) ∧ (¬ v5 = ((-1 : Int32)) → z_ty σ a0 = some (.inl 8) ∧ ∃ r252, z_R σ 825 a0 = some r252 ∧ (∃ n265 s265, z_ty σ r252 = some (.inr (0, n265, s265)) ∧ vp_in ((((40 : Int32)) * v4) + v5) n265 ∧ ∀ σ265, σ265 = z_sA σ s265 r252 (upd (z_A σ s265 r252) ((((40 : Int32)) * v4) + v5).toNatClampNeg v6) → X119 v1 (v2 + (1 : Int32)) σ265)))) → X240 v1 v2 v3 v4 v5 v6 σ) →
    (∀ (v1 : Int32) (v2 : Int32) (v3 : Int32) (v4 : Int32) (v6 : Int32) (σ : z_S), ((¬ v1 = ((1 : Int32)) → X119 v1 (v2 + (1 : Int32)) σ) ∧ (v1 = ((1 : Int32)) → (v6 ≤ 0 → X119 v1 (v2 + (1 : Int32)) σ) ∧ (¬ v6 ≤ 0 → z_ty σ a0 = some (.inl 8) ∧ ∃ r283, z_R σ 846 a0 = some r283 ∧ (∃ n289 s289, z_ty σ r283 = some (.inr (0, n289, s289)) ∧ vp_in (v3 + ((1 : Int32))) n289 ∧ (z_ty σ a0 = some (.inl 8) ∧ ∃ r291, z_R σ 846 a0 = some r291 ∧ (∃ n297 s297, z_ty σ r291 = some (.inr (0, n297, s297)) ∧ vp_in (v3 + ((2 : Int32))) n297 ∧ (z_ty σ a0 = some (.inl 8) ∧ ∃ r299, z_R σ 846 a0 = some r299 ∧ (∃ n305 s305, z_ty σ r299 = some (.inr (0, n305, s305)) ∧ vp_in (v3 + ((3 : Int32))) n305 ∧ (z_ty σ a0 = some (.inl 8) ∧ kp_Mo_insert a0 v4 (z_A σ s289 r283 (v3 + ((1 : Int32))).toNatClampNeg) (z_A σ s297 r291 (v3 + ((2 : Int32))).toNatClampNeg) (z_A σ s305 r299 (v3 + ((3 : Int32))).toNatClampNeg) v6 σ (fun (r308 : Int32) (σ308 : z_S) => (¬ r308 = 0 → X119 v1 (v2 + (1 : Int32)) σ308) ∧ (r308 = 0 → z_ty σ308 a0 = some (.inl 8) ∧ kp_Mo_back a0 σ308 (fun (σ315 : z_S) => Post ((-3 : Int32)) σ315)))))))))))) → X269 v1 v2 v3 v4 v6 σ) →
    (X2 ((0 : Int32)) σ)
set_option maxHeartbeats 4000000 in
set_option maxRecDepth 100000 in
theorem kc_Mo_apply (l : Launch) (D : va_G) (dA : Nat → ClassId) (Z : Nat) (a0 : Nat) (σ : z_S) (Post : Int32 → z_S → Prop) : Met l km_Mo_apply ks_Mo_apply kr_Mo_apply (va_Pc [.ref a0] (fun U => z_U D z_cl z_KT dA Z (z_tys dA) z_nw σ U ∧ kp_Mo_apply  a0 σ Post)) (z_Qi D z_cl z_KT dA Z (z_tys dA) z_nw Post) 0 0 (fun q => Z ≤ q) := by
  refine Met.ofW (cc := prog_10_method_41_code) (maxL := 7) (ret := (some .int)) (by decide) rfl ?_
  intro p e s m args below meth c s₁ B hml hv
  obtain ⟨rfl, ⟨hZ, hG, hK, hN⟩, hw⟩ := hv
  have hx := B.exec
  have hb := B.bytes
  have hr := B.returns
  have hts := atoms_spec (ws := ks_Mo_apply) B.pre
  have hown : s.vm.findClass kR_Mo = some m.cls := findClass_of_methodNamed B.named
  have hlocks := B.notSynchronized
  have hS : va_S (fun q => Z ≤ q) s.heap s.heap [] := va_S.rf
  have hl := lv_entry ([.ref a0]) (n := 7) (Nat.le_of_ble_eq_true rfl)
  rw [lg_entry_eq]
  generalize (lg_sl ([.ref a0]) ++ List.replicate (7 - (lg_sl ([.ref a0])).length) Slot.unset).toArray = ls at hl ⊢
  have hl : lv_has ls 7 [(0, .ref a0)] := hl
  unfold kp_Mo_apply at hw
  have hw := hw (fun (v1 : Int32) (σ : z_S) => ∀ (H : Heap) (locs : List Loc) (ls : Array Slot), z_G D z_cl z_KT dA Z σ H → va_S (fun q => Z ≤ q) s.heap H locs → lv_has ls 7 [(0, .ref a0), (1, .int v1)] → W p l e (headSpec ks_Mo_apply kr_Mo_apply).room s m ([.ref a0] : List Value).toArray below meth c H locs 0 0 (MQ below (z_Qi D z_cl z_KT dA Z (z_tys dA) z_nw Post) ([.ref a0] : List Value).toArray s 0 0 (fun q => Z ≤ q)) (F0 m 2 ls []))
  have hw := hw (fun (v1 : Int32) (v2 : Int32) (t0 : Int32) (σ : z_S) => ∀ (H : Heap) (locs : List Loc) (ls : Array Slot), z_G D z_cl z_KT dA Z σ H → va_S (fun q => Z ≤ q) s.heap H locs → lv_has ls 7 [(0, .ref a0), (1, .int v1), (2, .int v2)] → W p l e (headSpec ks_Mo_apply kr_Mo_apply).room s m ([.ref a0] : List Value).toArray below meth c H locs 0 0 (MQ below (z_Qi D z_cl z_KT dA Z (z_tys dA) z_nw Post) ([.ref a0] : List Value).toArray s 0 0 (fun q => Z ≤ q)) (F0 m 74 ls [.int t0]))
  have hw := hw (fun (v1 : Int32) (σ : z_S) => ∀ (H : Heap) (locs : List Loc) (ls : Array Slot), z_G D z_cl z_KT dA Z σ H → va_S (fun q => Z ≤ q) s.heap H locs → lv_has ls 7 [(0, .ref a0), (1, .int v1)] → W p l e (headSpec ks_Mo_apply kr_Mo_apply).room s m ([.ref a0] : List Value).toArray below meth c H locs 0 0 (MQ below (z_Qi D z_cl z_KT dA Z (z_tys dA) z_nw Post) ([.ref a0] : List Value).toArray s 0 0 (fun q => Z ≤ q)) (F0 m 112 ls []))
  have hw := hw (fun (v1 : Int32) (v2 : Int32) (σ : z_S) => ∀ (H : Heap) (locs : List Loc) (ls : Array Slot), z_G D z_cl z_KT dA Z σ H → va_S (fun q => Z ≤ q) s.heap H locs → lv_has ls 7 [(0, .ref a0), (1, .int v1), (2, .int v2)] → W p l e (headSpec ks_Mo_apply kr_Mo_apply).room s m ([.ref a0] : List Value).toArray below meth c H locs 0 0 (MQ below (z_Qi D z_cl z_KT dA Z (z_tys dA) z_nw Post) ([.ref a0] : List Value).toArray s 0 0 (fun q => Z ≤ q)) (F0 m 119 ls []))
  have hw := hw (fun (v1 : Int32) (v2 : Int32) (v3 : Int32) (v4 : Int32) (v5 : Int32) (t0 : Int32) (σ : z_S) => ∀ (H : Heap) (locs : List Loc) (ls : Array Slot), z_G D z_cl z_KT dA Z σ H → va_S (fun q => Z ≤ q) s.heap H locs → lv_has ls 7 [(0, .ref a0), (1, .int v1), (2, .int v2), (3, .int v3), (4, .int v4), (5, .int v5)] → W p l e (headSpec ks_Mo_apply kr_Mo_apply).room s m ([.ref a0] : List Value).toArray below meth c H locs 0 0 (MQ below (z_Qi D z_cl z_KT dA Z (z_tys dA) z_nw Post) ([.ref a0] : List Value).toArray s 0 0 (fun q => Z ≤ q)) (F0 m 194 ls [.int t0]))
  have hw := hw (fun (v1 : Int32) (v2 : Int32) (v3 : Int32) (v4 : Int32) (v5 : Int32) (v6 : Int32) (σ : z_S) => ∀ (H : Heap) (locs : List Loc) (ls : Array Slot), z_G D z_cl z_KT dA Z σ H → va_S (fun q => Z ≤ q) s.heap H locs → lv_has ls 7 [(0, .ref a0), (1, .int v1), (2, .int v2), (3, .int v3), (4, .int v4), (5, .int v5), (6, .int v6)] → W p l e (headSpec ks_Mo_apply kr_Mo_apply).room s m ([.ref a0] : List Value).toArray below meth c H locs 0 0 (MQ below (z_Qi D z_cl z_KT dA Z (z_tys dA) z_nw Post) ([.ref a0] : List Value).toArray s 0 0 (fun q => Z ≤ q)) (F0 m 240 ls []))
  have hw := hw (fun (v1 : Int32) (v2 : Int32) (v3 : Int32) (v4 : Int32) (v6 : Int32) (σ : z_S) => ∀ (H : Heap) (locs : List Loc) (ls : Array Slot), z_G D z_cl z_KT dA Z σ H → va_S (fun q => Z ≤ q) s.heap H locs → lv_has ls 7 [(0, .ref a0), (1, .int v1), (2, .int v2), (3, .int v3), (4, .int v4), (6, .int v6)] → W p l e (headSpec ks_Mo_apply kr_Mo_apply).room s m ([.ref a0] : List Value).toArray below meth c H locs 0 0 (MQ below (z_Qi D z_cl z_KT dA Z (z_tys dA) z_nw Post) ([.ref a0] : List Value).toArray s 0 0 (fun q => Z ≤ q)) (F0 m 269 ls []))
  have hw := hw (by
    intro v1 σ hw H locs ls hG hS hl
    refine lv_iload_n hx hb kb_Mo_apply_2 rfl (lv_at hl 1 rfl) ?_
    refine lv_aload_n hx hb kb_Mo_apply_3 rfl (lv_at hl 0 rfl) ?_
    obtain ⟨hy, hw⟩ := hw
    refine zr_getI (ci := 8) (f := 847) hx hb hts ki_Mo hown hK hG hy rfl 47 (by decide) (hts _ (List.mem_cons_of_mem _ kw_631)) (fun _ h => h) rfl rfl kb_Mo_apply_4 ?_
    refine lv_icmp_ge (tgt := 106) hx hb kb_Mo_apply_7 (by decide) (fun hc => ?_) (fun hc => ?_)
    · have hw := hw.1 hc
      refine lv_aload_n hx hb kb_Mo_apply_106 rfl (lv_at hl 0 rfl) ?_
      obtain ⟨hy, hw⟩ := hw
      refine zr_cv (va_runV (C := kR_Mo) (As := []) (rest := []) ⟨hx, hb, hml, hown, hts⟩ (kc_Mo_keep l D dA Z a0 σ _) ⟨callB_of 0 hts (z_gw kw_847) rfl rfl rfl (hts _ (List.mem_cons_of_mem _ kw_9)) (hts _ (List.mem_cons_of_mem _ kw_845)) (by decide +kernel) ⟨Nat.le_of_ble_eq_true rfl, Nat.le_of_ble_eq_true rfl⟩, (hts _ (List.mem_cons_of_mem _ kw_846)), (hts _ (List.mem_cons_of_mem _ kw_988))⟩ (z_preV z_nwN (Nat.le_trans hZ hS.1) hG hK hN hy (ci := 8) (r := (kR_Mo, kT_Mo, 51)) rfl hw) rfl rfl hl.1 rfl (lv_room (Nat.le_of_ble_eq_true rfl)) kb_Mo_apply_107 ⟨Nat.le_of_ble_eq_true rfl, Nat.le_of_ble_eq_true rfl⟩) hS (fun σ107 H locs hw hG hS => ?_)
      refine lv_iconst (v := (0 : Int32)) hx hb kb_Mo_apply_110 (by decide) ?_
      refine lv_istore_n (lv' := [(1, .int ((0 : Int32))), (0, .ref a0)]) hx hb kb_Mo_apply_111 rfl hl (by decide) rfl (fun ls hl => ?_)
      exact hw _ _ _ hG hS (lv_sub hl [1, 0] rfl)
    · have hw := hw.2 hc
      refine lv_iconst (v := (5 : Int32)) hx hb kb_Mo_apply_10 (by decide) ?_
      refine lv_iload_n hx hb kb_Mo_apply_11 rfl (lv_at hl 1 rfl) ?_
      refine lv_imul hx hb kb_Mo_apply_12 ?_
      refine lv_istore_n (lv' := [(2, .int (((5 : Int32)) * v1)), (0, .ref a0), (1, .int v1)]) hx hb kb_Mo_apply_13 rfl hl (by decide) rfl (fun ls hl => ?_)
      refine lv_aload_n hx hb kb_Mo_apply_14 rfl (lv_at hl 1 rfl) ?_
      refine lv_aload_n hx hb kb_Mo_apply_15 rfl (lv_at hl 1 rfl) ?_
      obtain ⟨hy, r16, hrf, hw⟩ := hw
      refine zr_getR (ci := 8) (f := 846) hx hb hts ki_Mo hown hK hG hy rfl 46 (by decide) (hts _ (List.mem_cons_of_mem _ kw_630)) (fun _ h => h) rfl rfl hrf kb_Mo_apply_16 ?_
      refine lv_iload_n hx hb kb_Mo_apply_19 rfl (lv_at hl 0 rfl) ?_
      obtain ⟨n20, s20, hy, hi, hw⟩ := hw
      refine zr_iald hx hb hK hG 0 hy rfl hi kb_Mo_apply_20 ?_
      refine lv_aload_n hx hb kb_Mo_apply_21 rfl (lv_at hl 1 rfl) ?_
      obtain ⟨hy, r22, hrf, hw⟩ := hw
      refine zr_getR (ci := 8) (f := 846) hx hb hts ki_Mo hown hK hG hy rfl 46 (by decide) (hts _ (List.mem_cons_of_mem _ kw_630)) (fun _ h => h) rfl rfl hrf kb_Mo_apply_22 ?_
      refine lv_iload_n hx hb kb_Mo_apply_25 rfl (lv_at hl 0 rfl) ?_
      refine lv_iconst (v := (1 : Int32)) hx hb kb_Mo_apply_26 (by decide) ?_
      refine lv_iadd hx hb kb_Mo_apply_27 ?_
      obtain ⟨n28, s28, hy, hi, hw⟩ := hw
      refine zr_iald hx hb hK hG 0 hy rfl hi kb_Mo_apply_28 ?_
      refine lv_aload_n hx hb kb_Mo_apply_29 rfl (lv_at hl 1 rfl) ?_
      obtain ⟨hy, r30, hrf, hw⟩ := hw
      refine zr_getR (ci := 8) (f := 846) hx hb hts ki_Mo hown hK hG hy rfl 46 (by decide) (hts _ (List.mem_cons_of_mem _ kw_630)) (fun _ h => h) rfl rfl hrf kb_Mo_apply_30 ?_
      refine lv_iload_n hx hb kb_Mo_apply_33 rfl (lv_at hl 0 rfl) ?_
      refine lv_iconst (v := (2 : Int32)) hx hb kb_Mo_apply_34 (by decide) ?_
      refine lv_iadd hx hb kb_Mo_apply_35 ?_
      obtain ⟨n36, s36, hy, hi, hw⟩ := hw
      refine zr_iald hx hb hK hG 0 hy rfl hi kb_Mo_apply_36 ?_
      refine lv_aload_n hx hb kb_Mo_apply_37 rfl (lv_at hl 1 rfl) ?_
      obtain ⟨hy, r38, hrf, hw⟩ := hw
      refine zr_getR (ci := 8) (f := 846) hx hb hts ki_Mo hown hK hG hy rfl 46 (by decide) (hts _ (List.mem_cons_of_mem _ kw_630)) (fun _ h => h) rfl rfl hrf kb_Mo_apply_38 ?_
      refine lv_iload_n hx hb kb_Mo_apply_41 rfl (lv_at hl 0 rfl) ?_
      refine lv_iconst (v := (3 : Int32)) hx hb kb_Mo_apply_42 (by decide) ?_
      refine lv_iadd hx hb kb_Mo_apply_43 ?_
      obtain ⟨n44, s44, hy, hi, hw⟩ := hw
      refine zr_iald hx hb hK hG 0 hy rfl hi kb_Mo_apply_44 ?_
      obtain ⟨hy, hw⟩ := hw
      refine zr_ci (va_runV (C := kR_Mo) (As := [.int (z_A σ s20 r16 (((5 : Int32)) * v1).toNatClampNeg), .int (z_A σ s28 r22 ((((5 : Int32)) * v1) + ((1 : Int32))).toNatClampNeg), .int (z_A σ s36 r30 ((((5 : Int32)) * v1) + ((2 : Int32))).toNatClampNeg), .int (z_A σ s44 r38 ((((5 : Int32)) * v1) + ((3 : Int32))).toNatClampNeg)]) (rest := []) ⟨hx, hb, hml, hown, hts⟩ (kc_Mo_find l D dA Z a0 (z_A σ s20 r16 (((5 : Int32)) * v1).toNatClampNeg) (z_A σ s28 r22 ((((5 : Int32)) * v1) + ((1 : Int32))).toNatClampNeg) (z_A σ s36 r30 ((((5 : Int32)) * v1) + ((2 : Int32))).toNatClampNeg) (z_A σ s44 r38 ((((5 : Int32)) * v1) + ((3 : Int32))).toNatClampNeg) σ _) ⟨callB_of 4 hts (z_gw kw_784) rfl rfl rfl (hts _ (List.mem_cons_of_mem _ kw_9)) (hts _ (List.mem_cons_of_mem _ kw_782)) (by decide +kernel) ⟨Nat.le_of_ble_eq_true rfl, Nat.le_of_ble_eq_true rfl⟩, (hts _ (List.mem_cons_of_mem _ kw_783)), (hts _ (List.mem_cons_of_mem _ kw_975))⟩ (z_preV z_nwN (Nat.le_trans hZ hS.1) hG hK hN hy (ci := 8) (r := (kR_Mo, kT_Mo, 51)) rfl hw) rfl rfl hl.1 rfl (lv_room (Nat.le_of_ble_eq_true rfl)) kb_Mo_apply_45 ⟨Nat.le_of_ble_eq_true rfl, Nat.le_of_ble_eq_true rfl⟩) hS (fun r45 σ45 H locs hw hG hS => ?_)
      refine lv_istore_n (lv' := [(3, .int r45), (2, .int (((5 : Int32)) * v1)), (0, .ref a0), (1, .int v1)]) hx hb kb_Mo_apply_48 rfl hl (by decide) rfl (fun ls hl => ?_)
      refine lv_iload_n hx hb kb_Mo_apply_49 rfl (lv_at hl 0 rfl) ?_
      refine lv_iconst (v := (-1 : Int32)) hx hb kb_Mo_apply_50 (by decide) ?_
      refine lv_icmp_ne (tgt := 58) hx hb kb_Mo_apply_51 (by decide) (fun hc => ?_) (fun hc => ?_)
      · have hw := hw.1 hc
        refine lv_aload_n hx hb kb_Mo_apply_58 rfl (lv_at hl 2 rfl) ?_
        obtain ⟨hy, r59, hrf, hw⟩ := hw
        refine zr_getR (ci := 8) (f := 825) hx hb hts ki_Mo hown hK hG hy rfl 25 (by decide) (hts _ (List.mem_cons_of_mem _ kw_609)) (fun _ h => h) rfl rfl hrf kb_Mo_apply_59 ?_
        refine lv_bipush (v := (40 : Int32)) hx hb kb_Mo_apply_62 (by decide) ?_
        refine lv_aload_n hx hb kb_Mo_apply_64 rfl (lv_at hl 2 rfl) ?_
        obtain ⟨hy, r65, hrf, hw⟩ := hw
        refine zr_getR (ci := 8) (f := 846) hx hb hts ki_Mo hown hK hG hy rfl 46 (by decide) (hts _ (List.mem_cons_of_mem _ kw_630)) (fun _ h => h) rfl rfl hrf kb_Mo_apply_65 ?_
        refine lv_iload_n hx hb kb_Mo_apply_68 rfl (lv_at hl 1 rfl) ?_
        obtain ⟨n69, s69, hy, hi, hw⟩ := hw
        refine zr_iald hx hb hK hG 0 hy rfl hi kb_Mo_apply_69 ?_
        refine lv_imul hx hb kb_Mo_apply_70 ?_
        refine lv_iload_n hx hb kb_Mo_apply_71 rfl (lv_at hl 0 rfl) ?_
        refine lv_iadd hx hb kb_Mo_apply_72 ?_
        obtain ⟨n73, s73, hy, hi, hw⟩ := hw
        refine zr_iald hx hb hK hG 0 hy rfl hi kb_Mo_apply_73 ?_
        exact hw _ _ _ hG hS (lv_sub hl [2, 3, 1] rfl)
      · have hw := hw.2 hc
        refine lv_iconst (v := (0 : Int32)) hx hb kb_Mo_apply_54 (by decide) ?_
        refine lv_goto (tgt := 74) hx hb kb_Mo_apply_55 (by decide) ?_
        exact hw _ _ _ hG hS (lv_sub hl [2, 3, 1] rfl))
  have hw := hw (by
    intro v1 v2 t0 σ hw H locs ls hG hS hl
    refine lv_aload_n hx hb kb_Mo_apply_74 rfl (lv_at hl 0 rfl) ?_
    obtain ⟨hy, r75, hrf, hw⟩ := hw
    refine zr_getR (ci := 8) (f := 846) hx hb hts ki_Mo hown hK hG hy rfl 46 (by decide) (hts _ (List.mem_cons_of_mem _ kw_630)) (fun _ h => h) rfl rfl hrf kb_Mo_apply_75 ?_
    refine lv_iload_n hx hb kb_Mo_apply_78 rfl (lv_at hl 2 rfl) ?_
    refine lv_iconst (v := (4 : Int32)) hx hb kb_Mo_apply_79 (by decide) ?_
    refine lv_iadd hx hb kb_Mo_apply_80 ?_
    obtain ⟨n81, s81, hy, hi, hw⟩ := hw
    refine zr_iald hx hb hK hG 0 hy rfl hi kb_Mo_apply_81 ?_
    refine lv_iadd hx hb kb_Mo_apply_82 ?_
    refine lv_istore (lv' := [(4, .int (t0 + (z_A σ s81 r75 (v2 + ((4 : Int32))).toNatClampNeg))), (0, .ref a0), (1, .int v1), (2, .int v2)]) hx hb kb_Mo_apply_83 hl (by decide) rfl (fun ls hl => ?_)
    refine lv_iload hx hb kb_Mo_apply_85 (lv_at hl 0 rfl) ?_
    refine lv_if_lt (tgt := 97) hx hb kb_Mo_apply_87 (by decide) (fun hc => ?_) (fun hc => ?_)
    · have hw := hw.1 hc
      refine lv_bipush (v := (-2 : Int32)) hx hb kb_Mo_apply_97 (by decide) ?_
      exact zr_iret (free := fun q => Z ≤ q) z_nwN hx hb hr rfl hZ hK hN hG hS hw kb_Mo_apply_99 hlocks
    · have hw := hw.2 hc
      refine lv_iload hx hb kb_Mo_apply_90 (lv_at hl 0 rfl) ?_
      refine lv_bipush (v := (9 : Int32)) hx hb kb_Mo_apply_92 (by decide) ?_
      refine lv_icmp_le (tgt := 100) hx hb kb_Mo_apply_94 (by decide) (fun hc => ?_) (fun hc => ?_)
      · have hw := hw.1 hc
        refine lv_iinc (v := v1 + (1 : Int32)) (lv' := [(1, .int (v1 + (1 : Int32))), (4, .int (t0 + (z_A σ s81 r75 (v2 + ((4 : Int32))).toNatClampNeg))), (0, .ref a0), (2, .int v2)]) hx hb kb_Mo_apply_100 hl (k := 2) rfl rfl (by decide) rfl (fun ls hl => ?_)
        refine lv_goto (tgt := 2) hx hb kb_Mo_apply_103 (by decide) ?_
        exact hw _ _ _ hG hS (lv_sub hl [2, 0] rfl)
      · have hw := hw.2 hc
        refine lv_bipush (v := (-2 : Int32)) hx hb kb_Mo_apply_97 (by decide) ?_
        exact zr_iret (free := fun q => Z ≤ q) z_nwN hx hb hr rfl hZ hK hN hG hS hw kb_Mo_apply_99 hlocks)
  have hw := hw (by
    intro v1 σ hw H locs ls hG hS hl
    refine lv_iload_n hx hb kb_Mo_apply_112 rfl (lv_at hl 1 rfl) ?_
    refine lv_iconst (v := (2 : Int32)) hx hb kb_Mo_apply_113 (by decide) ?_
    refine lv_icmp_ge (tgt := 333) hx hb kb_Mo_apply_114 (by decide) (fun hc => ?_) (fun hc => ?_)
    · have hw := hw.1 hc
      refine lv_aload_n hx hb kb_Mo_apply_333 rfl (lv_at hl 0 rfl) ?_
      obtain ⟨hy, hw⟩ := hw
      refine zr_ci (va_runV (C := kR_Mo) (As := []) (rest := []) ⟨hx, hb, hml, hown, hts⟩ (kc_Mo_work l D dA Z a0 σ _) ⟨callB_of 0 hts (z_gw kw_763) rfl rfl rfl (hts _ (List.mem_cons_of_mem _ kw_9)) (hts _ (List.mem_cons_of_mem _ kw_761)) (by decide +kernel) ⟨Nat.le_of_ble_eq_true rfl, Nat.le_of_ble_eq_true rfl⟩, (hts _ (List.mem_cons_of_mem _ kw_762)), (hts _ (List.mem_cons_of_mem _ kw_968))⟩ (z_preV z_nwN (Nat.le_trans hZ hS.1) hG hK hN hy (ci := 8) (r := (kR_Mo, kT_Mo, 51)) rfl hw) rfl rfl hl.1 rfl (lv_room (Nat.le_of_ble_eq_true rfl)) kb_Mo_apply_334 ⟨Nat.le_of_ble_eq_true rfl, Nat.le_of_ble_eq_true rfl⟩) hS (fun r334 σ334 H locs hw hG hS => ?_)
      refine lv_if_ne (tgt := 347) hx hb kb_Mo_apply_337 (by decide) (fun hc => ?_) (fun hc => ?_)
      · have hw := hw.1 hc
        refine lv_aload_n hx hb kb_Mo_apply_347 rfl (lv_at hl 0 rfl) ?_
        obtain ⟨hy, hw⟩ := hw
        refine zr_cv (va_runV (C := kR_Mo) (As := []) (rest := []) ⟨hx, hb, hml, hown, hts⟩ (kc_Mo_compareAll l D dA Z a0 σ334 _) ⟨callB_of 0 hts (z_gw kw_856) rfl rfl rfl (hts _ (List.mem_cons_of_mem _ kw_9)) (hts _ (List.mem_cons_of_mem _ kw_854)) (by decide +kernel) ⟨Nat.le_of_ble_eq_true rfl, Nat.le_of_ble_eq_true rfl⟩, (hts _ (List.mem_cons_of_mem _ kw_855)), (hts _ (List.mem_cons_of_mem _ kw_991))⟩ (z_preV z_nwN (Nat.le_trans hZ hS.1) hG hK hN hy (ci := 8) (r := (kR_Mo, kT_Mo, 51)) rfl hw) rfl rfl hl.1 rfl (lv_room (Nat.le_of_ble_eq_true rfl)) kb_Mo_apply_348 ⟨Nat.le_of_ble_eq_true rfl, Nat.le_of_ble_eq_true rfl⟩) hS (fun σ348 H locs hw hG hS => ?_)
        refine lv_iconst (v := (0 : Int32)) hx hb kb_Mo_apply_351 (by decide) ?_
        exact zr_iret (free := fun q => Z ≤ q) z_nwN hx hb hr rfl hZ hK hN hG hS hw kb_Mo_apply_352 hlocks
      · have hw := hw.2 hc
        refine lv_aload_n hx hb kb_Mo_apply_340 rfl (lv_at hl 0 rfl) ?_
        obtain ⟨hy, hw⟩ := hw
        refine zr_cv (va_runV (C := kR_Mo) (As := []) (rest := []) ⟨hx, hb, hml, hown, hts⟩ (kc_Mo_back l D dA Z a0 σ334 _) ⟨callB_of 0 hts (z_gw kw_853) rfl rfl rfl (hts _ (List.mem_cons_of_mem _ kw_9)) (hts _ (List.mem_cons_of_mem _ kw_851)) (by decide +kernel) ⟨Nat.le_of_ble_eq_true rfl, Nat.le_of_ble_eq_true rfl⟩, (hts _ (List.mem_cons_of_mem _ kw_852)), (hts _ (List.mem_cons_of_mem _ kw_990))⟩ (z_preV z_nwN (Nat.le_trans hZ hS.1) hG hK hN hy (ci := 8) (r := (kR_Mo, kT_Mo, 51)) rfl hw) rfl rfl hl.1 rfl (lv_room (Nat.le_of_ble_eq_true rfl)) kb_Mo_apply_341 ⟨Nat.le_of_ble_eq_true rfl, Nat.le_of_ble_eq_true rfl⟩) hS (fun σ341 H locs hw hG hS => ?_)
        refine lv_bipush (v := (-3 : Int32)) hx hb kb_Mo_apply_344 (by decide) ?_
        exact zr_iret (free := fun q => Z ≤ q) z_nwN hx hb hr rfl hZ hK hN hG hS hw kb_Mo_apply_346 hlocks
    · have hw := hw.2 hc
      refine lv_iconst (v := (0 : Int32)) hx hb kb_Mo_apply_117 (by decide) ?_
      refine lv_istore_n (lv' := [(2, .int ((0 : Int32))), (0, .ref a0), (1, .int v1)]) hx hb kb_Mo_apply_118 rfl hl (by decide) rfl (fun ls hl => ?_)
      exact hw _ _ _ hG hS (lv_sub hl [1, 2, 0] rfl))
  have hw := hw (by
    intro v1 v2 σ hw H locs ls hG hS hl
    refine lv_iload_n hx hb kb_Mo_apply_119 rfl (lv_at hl 2 rfl) ?_
    refine lv_aload_n hx hb kb_Mo_apply_120 rfl (lv_at hl 0 rfl) ?_
    obtain ⟨hy, hw⟩ := hw
    refine zr_getI (ci := 8) (f := 847) hx hb hts ki_Mo hown hK hG hy rfl 47 (by decide) (hts _ (List.mem_cons_of_mem _ kw_631)) (fun _ h => h) rfl rfl kb_Mo_apply_121 ?_
    refine lv_icmp_ge (tgt := 327) hx hb kb_Mo_apply_124 (by decide) (fun hc => ?_) (fun hc => ?_)
    · have hw := hw.1 hc
      refine lv_iinc (v := v1 + (1 : Int32)) (lv' := [(1, .int (v1 + (1 : Int32))), (0, .ref a0), (2, .int v2)]) hx hb kb_Mo_apply_327 hl (k := 1) rfl rfl (by decide) rfl (fun ls hl => ?_)
      refine lv_goto (tgt := 112) hx hb kb_Mo_apply_330 (by decide) ?_
      exact hw _ _ _ hG hS (lv_sub hl [1, 0] rfl)
    · have hw := hw.2 hc
      refine lv_iconst (v := (5 : Int32)) hx hb kb_Mo_apply_127 (by decide) ?_
      refine lv_iload_n hx hb kb_Mo_apply_128 rfl (lv_at hl 2 rfl) ?_
      refine lv_imul hx hb kb_Mo_apply_129 ?_
      refine lv_istore_n (lv' := [(3, .int (((5 : Int32)) * v2)), (0, .ref a0), (1, .int v1), (2, .int v2)]) hx hb kb_Mo_apply_130 rfl hl (by decide) rfl (fun ls hl => ?_)
      refine lv_aload_n hx hb kb_Mo_apply_131 rfl (lv_at hl 1 rfl) ?_
      obtain ⟨hy, r132, hrf, hw⟩ := hw
      refine zr_getR (ci := 8) (f := 846) hx hb hts ki_Mo hown hK hG hy rfl 46 (by decide) (hts _ (List.mem_cons_of_mem _ kw_630)) (fun _ h => h) rfl rfl hrf kb_Mo_apply_132 ?_
      refine lv_iload_n hx hb kb_Mo_apply_135 rfl (lv_at hl 0 rfl) ?_
      obtain ⟨n136, s136, hy, hi, hw⟩ := hw
      refine zr_iald hx hb hK hG 0 hy rfl hi kb_Mo_apply_136 ?_
      refine lv_istore (lv' := [(4, .int (z_A σ s136 r132 (((5 : Int32)) * v2).toNatClampNeg)), (3, .int (((5 : Int32)) * v2)), (0, .ref a0), (1, .int v1), (2, .int v2)]) hx hb kb_Mo_apply_137 hl (by decide) rfl (fun ls hl => ?_)
      refine lv_aload_n hx hb kb_Mo_apply_139 rfl (lv_at hl 2 rfl) ?_
      refine lv_iload hx hb kb_Mo_apply_140 (lv_at hl 0 rfl) ?_
      refine lv_aload_n hx hb kb_Mo_apply_142 rfl (lv_at hl 2 rfl) ?_
      obtain ⟨hy, r143, hrf, hw⟩ := hw
      refine zr_getR (ci := 8) (f := 846) hx hb hts ki_Mo hown hK hG hy rfl 46 (by decide) (hts _ (List.mem_cons_of_mem _ kw_630)) (fun _ h => h) rfl rfl hrf kb_Mo_apply_143 ?_
      refine lv_iload_n hx hb kb_Mo_apply_146 rfl (lv_at hl 1 rfl) ?_
      refine lv_iconst (v := (1 : Int32)) hx hb kb_Mo_apply_147 (by decide) ?_
      refine lv_iadd hx hb kb_Mo_apply_148 ?_
      obtain ⟨n149, s149, hy, hi, hw⟩ := hw
      refine zr_iald hx hb hK hG 0 hy rfl hi kb_Mo_apply_149 ?_
      refine lv_aload_n hx hb kb_Mo_apply_150 rfl (lv_at hl 2 rfl) ?_
      obtain ⟨hy, r151, hrf, hw⟩ := hw
      refine zr_getR (ci := 8) (f := 846) hx hb hts ki_Mo hown hK hG hy rfl 46 (by decide) (hts _ (List.mem_cons_of_mem _ kw_630)) (fun _ h => h) rfl rfl hrf kb_Mo_apply_151 ?_
      refine lv_iload_n hx hb kb_Mo_apply_154 rfl (lv_at hl 1 rfl) ?_
      refine lv_iconst (v := (2 : Int32)) hx hb kb_Mo_apply_155 (by decide) ?_
      refine lv_iadd hx hb kb_Mo_apply_156 ?_
      obtain ⟨n157, s157, hy, hi, hw⟩ := hw
      refine zr_iald hx hb hK hG 0 hy rfl hi kb_Mo_apply_157 ?_
      refine lv_aload_n hx hb kb_Mo_apply_158 rfl (lv_at hl 2 rfl) ?_
      obtain ⟨hy, r159, hrf, hw⟩ := hw
      refine zr_getR (ci := 8) (f := 846) hx hb hts ki_Mo hown hK hG hy rfl 46 (by decide) (hts _ (List.mem_cons_of_mem _ kw_630)) (fun _ h => h) rfl rfl hrf kb_Mo_apply_159 ?_
      refine lv_iload_n hx hb kb_Mo_apply_162 rfl (lv_at hl 1 rfl) ?_
      refine lv_iconst (v := (3 : Int32)) hx hb kb_Mo_apply_163 (by decide) ?_
      refine lv_iadd hx hb kb_Mo_apply_164 ?_
      obtain ⟨n165, s165, hy, hi, hw⟩ := hw
      refine zr_iald hx hb hK hG 0 hy rfl hi kb_Mo_apply_165 ?_
      obtain ⟨hy, hw⟩ := hw
      refine zr_ci (va_runV (C := kR_Mo) (As := [.int (z_A σ s136 r132 (((5 : Int32)) * v2).toNatClampNeg), .int (z_A σ s149 r143 ((((5 : Int32)) * v2) + ((1 : Int32))).toNatClampNeg), .int (z_A σ s157 r151 ((((5 : Int32)) * v2) + ((2 : Int32))).toNatClampNeg), .int (z_A σ s165 r159 ((((5 : Int32)) * v2) + ((3 : Int32))).toNatClampNeg)]) (rest := []) ⟨hx, hb, hml, hown, hts⟩ (kc_Mo_find l D dA Z a0 (z_A σ s136 r132 (((5 : Int32)) * v2).toNatClampNeg) (z_A σ s149 r143 ((((5 : Int32)) * v2) + ((1 : Int32))).toNatClampNeg) (z_A σ s157 r151 ((((5 : Int32)) * v2) + ((2 : Int32))).toNatClampNeg) (z_A σ s165 r159 ((((5 : Int32)) * v2) + ((3 : Int32))).toNatClampNeg) σ _) ⟨callB_of 4 hts (z_gw kw_784) rfl rfl rfl (hts _ (List.mem_cons_of_mem _ kw_9)) (hts _ (List.mem_cons_of_mem _ kw_782)) (by decide +kernel) ⟨Nat.le_of_ble_eq_true rfl, Nat.le_of_ble_eq_true rfl⟩, (hts _ (List.mem_cons_of_mem _ kw_783)), (hts _ (List.mem_cons_of_mem _ kw_975))⟩ (z_preV z_nwN (Nat.le_trans hZ hS.1) hG hK hN hy (ci := 8) (r := (kR_Mo, kT_Mo, 51)) rfl hw) rfl rfl hl.1 rfl (lv_room (Nat.le_of_ble_eq_true rfl)) kb_Mo_apply_166 ⟨Nat.le_of_ble_eq_true rfl, Nat.le_of_ble_eq_true rfl⟩) hS (fun r166 σ166 H locs hw hG hS => ?_)
      refine lv_istore (lv' := [(5, .int r166), (4, .int (z_A σ s136 r132 (((5 : Int32)) * v2).toNatClampNeg)), (3, .int (((5 : Int32)) * v2)), (0, .ref a0), (1, .int v1), (2, .int v2)]) hx hb kb_Mo_apply_169 hl (by decide) rfl (fun ls hl => ?_)
      refine lv_iload hx hb kb_Mo_apply_171 (lv_at hl 0 rfl) ?_
      refine lv_iconst (v := (-1 : Int32)) hx hb kb_Mo_apply_173 (by decide) ?_
      refine lv_icmp_ne (tgt := 181) hx hb kb_Mo_apply_174 (by decide) (fun hc => ?_) (fun hc => ?_)
      · have hw := hw.1 hc
        refine lv_aload_n hx hb kb_Mo_apply_181 rfl (lv_at hl 3 rfl) ?_
        obtain ⟨hy, r182, hrf, hw⟩ := hw
        refine zr_getR (ci := 8) (f := 825) hx hb hts ki_Mo hown hK hG hy rfl 25 (by decide) (hts _ (List.mem_cons_of_mem _ kw_609)) (fun _ h => h) rfl rfl hrf kb_Mo_apply_182 ?_
        refine lv_bipush (v := (40 : Int32)) hx hb kb_Mo_apply_185 (by decide) ?_
        refine lv_iload hx hb kb_Mo_apply_187 (lv_at hl 1 rfl) ?_
        refine lv_imul hx hb kb_Mo_apply_189 ?_
        refine lv_iload hx hb kb_Mo_apply_190 (lv_at hl 0 rfl) ?_
        refine lv_iadd hx hb kb_Mo_apply_192 ?_
        obtain ⟨n193, s193, hy, hi, hw⟩ := hw
        refine zr_iald hx hb hK hG 0 hy rfl hi kb_Mo_apply_193 ?_
        exact hw _ _ _ hG hS (lv_sub hl [3, 4, 5, 2, 1, 0] rfl)
      · have hw := hw.2 hc
        refine lv_iconst (v := (0 : Int32)) hx hb kb_Mo_apply_177 (by decide) ?_
        refine lv_goto (tgt := 194) hx hb kb_Mo_apply_178 (by decide) ?_
        exact hw _ _ _ hG hS (lv_sub hl [3, 4, 5, 2, 1, 0] rfl))
  have hw := hw (by
    intro v1 v2 v3 v4 v5 t0 σ hw H locs ls hG hS hl
    refine lv_aload_n hx hb kb_Mo_apply_194 rfl (lv_at hl 0 rfl) ?_
    obtain ⟨hy, r195, hrf, hw⟩ := hw
    refine zr_getR (ci := 8) (f := 846) hx hb hts ki_Mo hown hK hG hy rfl 46 (by decide) (hts _ (List.mem_cons_of_mem _ kw_630)) (fun _ h => h) rfl rfl hrf kb_Mo_apply_195 ?_
    refine lv_iload_n hx hb kb_Mo_apply_198 rfl (lv_at hl 3 rfl) ?_
    refine lv_iconst (v := (4 : Int32)) hx hb kb_Mo_apply_199 (by decide) ?_
    refine lv_iadd hx hb kb_Mo_apply_200 ?_
    obtain ⟨n201, s201, hy, hi, hw⟩ := hw
    refine zr_iald hx hb hK hG 0 hy rfl hi kb_Mo_apply_201 ?_
    refine lv_iadd hx hb kb_Mo_apply_202 ?_
    refine lv_istore (lv' := [(6, .int (t0 + (z_A σ s201 r195 (v3 + ((4 : Int32))).toNatClampNeg))), (0, .ref a0), (1, .int v1), (2, .int v2), (3, .int v3), (4, .int v4), (5, .int v5)]) hx hb kb_Mo_apply_203 hl (by decide) rfl (fun ls hl => ?_)
    refine lv_iload_n hx hb kb_Mo_apply_205 rfl (lv_at hl 2 rfl) ?_
    refine lv_if_ne (tgt := 240) hx hb kb_Mo_apply_206 (by decide) (fun hc => ?_) (fun hc => ?_)
    · have hw := hw.1 hc
      exact hw _ _ _ hG hS (lv_sub hl [1, 2, 3, 4, 5, 6, 0] rfl)
    · have hw := hw.2 hc
      refine lv_iload hx hb kb_Mo_apply_209 (lv_at hl 6 rfl) ?_
      refine lv_iconst (v := (-1 : Int32)) hx hb kb_Mo_apply_211 (by decide) ?_
      refine lv_icmp_eq (tgt := 240) hx hb kb_Mo_apply_212 (by decide) (fun hc => ?_) (fun hc => ?_)
      · have hw := hw.1 hc
        exact hw _ _ _ hG hS (lv_sub hl [1, 2, 3, 4, 5, 6, 0] rfl)
      · have hw := hw.2 hc
        refine lv_iload hx hb kb_Mo_apply_215 (lv_at hl 0 rfl) ?_
        refine lv_if_ne (tgt := 240) hx hb kb_Mo_apply_217 (by decide) (fun hc => ?_) (fun hc => ?_)
        · have hw := hw.1 hc
          exact hw _ _ _ hG hS (lv_sub hl [1, 2, 3, 4, 5, 6, 0] rfl)
        · have hw := hw.2 hc
          refine lv_aload_n hx hb kb_Mo_apply_220 rfl (lv_at hl 1 rfl) ?_
          refine lv_iload hx hb kb_Mo_apply_221 (lv_at hl 5 rfl) ?_
          refine lv_iload hx hb kb_Mo_apply_223 (lv_at hl 6 rfl) ?_
          obtain ⟨hy, hw⟩ := hw
          refine zr_cv (va_runV (C := kR_Mo) (As := [.int v4, .int v5]) (rest := []) ⟨hx, hb, hml, hown, hts⟩ (kc_Mo_remove l D dA Z a0 v4 v5 σ _) ⟨callB_of 2 hts (z_gw kw_850) rfl rfl rfl (hts _ (List.mem_cons_of_mem _ kw_9)) (hts _ (List.mem_cons_of_mem _ kw_848)) (by decide +kernel) ⟨Nat.le_of_ble_eq_true rfl, Nat.le_of_ble_eq_true rfl⟩, (hts _ (List.mem_cons_of_mem _ kw_849)), (hts _ (List.mem_cons_of_mem _ kw_989))⟩ (z_preV z_nwN (Nat.le_trans hZ hS.1) hG hK hN hy (ci := 8) (r := (kR_Mo, kT_Mo, 51)) rfl hw) rfl rfl hl.1 rfl (lv_room (Nat.le_of_ble_eq_true rfl)) kb_Mo_apply_225 ⟨Nat.le_of_ble_eq_true rfl, Nat.le_of_ble_eq_true rfl⟩) hS (fun σ225 H locs hw hG hS => ?_)
          refine lv_aload_n hx hb kb_Mo_apply_228 rfl (lv_at hl 1 rfl) ?_
          obtain ⟨hy, r229, hrf, hw⟩ := hw
          refine zr_getR (ci := 8) (f := 846) hx hb hts ki_Mo hown hK hG hy rfl 46 (by decide) (hts _ (List.mem_cons_of_mem _ kw_630)) (fun _ h => h) rfl rfl hrf kb_Mo_apply_229 ?_
          refine lv_iload_n hx hb kb_Mo_apply_232 rfl (lv_at hl 4 rfl) ?_
          refine lv_iconst (v := (4 : Int32)) hx hb kb_Mo_apply_233 (by decide) ?_
          refine lv_iadd hx hb kb_Mo_apply_234 ?_
          refine lv_iconst (v := (0 : Int32)) hx hb kb_Mo_apply_235 (by decide) ?_
          obtain ⟨n236, s236, hy, hi, hw⟩ := hw
          refine zr_iast hx hb hK hG hS 0 hy rfl hi kb_Mo_apply_236 (fun H locs hG hS => ?_)
          obtain ⟨σ236, e236⟩ : ∃ z, z = z_sA σ225 s236 r229 (upd (z_A σ225 s236 r229) (v3 + ((4 : Int32))).toNatClampNeg ((0 : Int32))) := ⟨_, rfl⟩
          rw [← e236] at hG
          have hw := hw _ e236
          refine lv_goto (tgt := 321) hx hb kb_Mo_apply_237 (by decide) ?_
          refine lv_iinc (v := v2 + (1 : Int32)) (lv' := [(2, .int (v2 + (1 : Int32))), (6, .int (t0 + (z_A σ s201 r195 (v3 + ((4 : Int32))).toNatClampNeg))), (0, .ref a0), (1, .int v1), (3, .int v3), (4, .int v4), (5, .int v5)]) hx hb kb_Mo_apply_321 hl (k := 3) rfl rfl (by decide) rfl (fun ls hl => ?_)
          refine lv_goto (tgt := 119) hx hb kb_Mo_apply_324 (by decide) ?_
          exact hw _ _ _ hG hS (lv_sub hl [2, 3, 0] rfl))
  have hw := hw (by
    intro v1 v2 v3 v4 v5 v6 σ hw H locs ls hG hS hl
    refine lv_iload_n hx hb kb_Mo_apply_240 rfl (lv_at hl 1 rfl) ?_
    refine lv_iconst (v := (1 : Int32)) hx hb kb_Mo_apply_241 (by decide) ?_
    refine lv_icmp_ne (tgt := 269) hx hb kb_Mo_apply_242 (by decide) (fun hc => ?_) (fun hc => ?_)
    · have hw := hw.1 hc
      exact hw _ _ _ hG hS (lv_sub hl [0, 1, 2, 3, 4, 6] rfl)
    · have hw := hw.2 hc
      refine lv_iload hx hb kb_Mo_apply_245 (lv_at hl 5 rfl) ?_
      refine lv_iconst (v := (-1 : Int32)) hx hb kb_Mo_apply_247 (by decide) ?_
      refine lv_icmp_eq (tgt := 269) hx hb kb_Mo_apply_248 (by decide) (fun hc => ?_) (fun hc => ?_)
      · have hw := hw.1 hc
        exact hw _ _ _ hG hS (lv_sub hl [0, 1, 2, 3, 4, 6] rfl)
      · have hw := hw.2 hc
        refine lv_aload_n hx hb kb_Mo_apply_251 rfl (lv_at hl 0 rfl) ?_
        obtain ⟨hy, r252, hrf, hw⟩ := hw
        refine zr_getR (ci := 8) (f := 825) hx hb hts ki_Mo hown hK hG hy rfl 25 (by decide) (hts _ (List.mem_cons_of_mem _ kw_609)) (fun _ h => h) rfl rfl hrf kb_Mo_apply_252 ?_
        refine lv_bipush (v := (40 : Int32)) hx hb kb_Mo_apply_255 (by decide) ?_
        refine lv_iload hx hb kb_Mo_apply_257 (lv_at hl 4 rfl) ?_
        refine lv_imul hx hb kb_Mo_apply_259 ?_
        refine lv_iload hx hb kb_Mo_apply_260 (lv_at hl 5 rfl) ?_
        refine lv_iadd hx hb kb_Mo_apply_262 ?_
        refine lv_iload hx hb kb_Mo_apply_263 (lv_at hl 6 rfl) ?_
        obtain ⟨n265, s265, hy, hi, hw⟩ := hw
        refine zr_iast hx hb hK hG hS 0 hy rfl hi kb_Mo_apply_265 (fun H locs hG hS => ?_)
        obtain ⟨σ265, e265⟩ : ∃ z, z = z_sA σ s265 r252 (upd (z_A σ s265 r252) ((((40 : Int32)) * v4) + v5).toNatClampNeg v6) := ⟨_, rfl⟩
        rw [← e265] at hG
        have hw := hw _ e265
        refine lv_goto (tgt := 321) hx hb kb_Mo_apply_266 (by decide) ?_
        refine lv_iinc (v := v2 + (1 : Int32)) (lv' := [(2, .int (v2 + (1 : Int32))), (0, .ref a0), (1, .int v1), (3, .int v3), (4, .int v4), (5, .int v5), (6, .int v6)]) hx hb kb_Mo_apply_321 hl (k := 2) rfl rfl (by decide) rfl (fun ls hl => ?_)
        refine lv_goto (tgt := 119) hx hb kb_Mo_apply_324 (by decide) ?_
        exact hw _ _ _ hG hS (lv_sub hl [1, 2, 0] rfl))
  have hw := hw (by
    intro v1 v2 v3 v4 v6 σ hw H locs ls hG hS hl
    refine lv_iload_n hx hb kb_Mo_apply_269 rfl (lv_at hl 1 rfl) ?_
    refine lv_iconst (v := (1 : Int32)) hx hb kb_Mo_apply_270 (by decide) ?_
    refine lv_icmp_ne (tgt := 321) hx hb kb_Mo_apply_271 (by decide) (fun hc => ?_) (fun hc => ?_)
    · have hw := hw.1 hc
      refine lv_iinc (v := v2 + (1 : Int32)) (lv' := [(2, .int (v2 + (1 : Int32))), (0, .ref a0), (1, .int v1), (3, .int v3), (4, .int v4), (6, .int v6)]) hx hb kb_Mo_apply_321 hl (k := 2) rfl rfl (by decide) rfl (fun ls hl => ?_)
      refine lv_goto (tgt := 119) hx hb kb_Mo_apply_324 (by decide) ?_
      exact hw _ _ _ hG hS (lv_sub hl [1, 2, 0] rfl)
    · have hw := hw.2 hc
      refine lv_iload hx hb kb_Mo_apply_274 (lv_at hl 5 rfl) ?_
      refine lv_if_le (tgt := 321) hx hb kb_Mo_apply_276 (by decide) (fun hc => ?_) (fun hc => ?_)
      · have hw := hw.1 hc
        refine lv_iinc (v := v2 + (1 : Int32)) (lv' := [(2, .int (v2 + (1 : Int32))), (0, .ref a0), (1, .int v1), (3, .int v3), (4, .int v4), (6, .int v6)]) hx hb kb_Mo_apply_321 hl (k := 2) rfl rfl (by decide) rfl (fun ls hl => ?_)
        refine lv_goto (tgt := 119) hx hb kb_Mo_apply_324 (by decide) ?_
        exact hw _ _ _ hG hS (lv_sub hl [1, 2, 0] rfl)
      · have hw := hw.2 hc
        refine lv_aload_n hx hb kb_Mo_apply_279 rfl (lv_at hl 0 rfl) ?_
        refine lv_iload hx hb kb_Mo_apply_280 (lv_at hl 4 rfl) ?_
        refine lv_aload_n hx hb kb_Mo_apply_282 rfl (lv_at hl 0 rfl) ?_
        obtain ⟨hy, r283, hrf, hw⟩ := hw
        refine zr_getR (ci := 8) (f := 846) hx hb hts ki_Mo hown hK hG hy rfl 46 (by decide) (hts _ (List.mem_cons_of_mem _ kw_630)) (fun _ h => h) rfl rfl hrf kb_Mo_apply_283 ?_
        refine lv_iload_n hx hb kb_Mo_apply_286 rfl (lv_at hl 3 rfl) ?_
        refine lv_iconst (v := (1 : Int32)) hx hb kb_Mo_apply_287 (by decide) ?_
        refine lv_iadd hx hb kb_Mo_apply_288 ?_
        obtain ⟨n289, s289, hy, hi, hw⟩ := hw
        refine zr_iald hx hb hK hG 0 hy rfl hi kb_Mo_apply_289 ?_
        refine lv_aload_n hx hb kb_Mo_apply_290 rfl (lv_at hl 0 rfl) ?_
        obtain ⟨hy, r291, hrf, hw⟩ := hw
        refine zr_getR (ci := 8) (f := 846) hx hb hts ki_Mo hown hK hG hy rfl 46 (by decide) (hts _ (List.mem_cons_of_mem _ kw_630)) (fun _ h => h) rfl rfl hrf kb_Mo_apply_291 ?_
        refine lv_iload_n hx hb kb_Mo_apply_294 rfl (lv_at hl 3 rfl) ?_
        refine lv_iconst (v := (2 : Int32)) hx hb kb_Mo_apply_295 (by decide) ?_
        refine lv_iadd hx hb kb_Mo_apply_296 ?_
        obtain ⟨n297, s297, hy, hi, hw⟩ := hw
        refine zr_iald hx hb hK hG 0 hy rfl hi kb_Mo_apply_297 ?_
        refine lv_aload_n hx hb kb_Mo_apply_298 rfl (lv_at hl 0 rfl) ?_
        obtain ⟨hy, r299, hrf, hw⟩ := hw
        refine zr_getR (ci := 8) (f := 846) hx hb hts ki_Mo hown hK hG hy rfl 46 (by decide) (hts _ (List.mem_cons_of_mem _ kw_630)) (fun _ h => h) rfl rfl hrf kb_Mo_apply_299 ?_
        refine lv_iload_n hx hb kb_Mo_apply_302 rfl (lv_at hl 3 rfl) ?_
        refine lv_iconst (v := (3 : Int32)) hx hb kb_Mo_apply_303 (by decide) ?_
        refine lv_iadd hx hb kb_Mo_apply_304 ?_
        obtain ⟨n305, s305, hy, hi, hw⟩ := hw
        refine zr_iald hx hb hK hG 0 hy rfl hi kb_Mo_apply_305 ?_
        refine lv_iload hx hb kb_Mo_apply_306 (lv_at hl 5 rfl) ?_
        obtain ⟨hy, hw⟩ := hw
        refine zr_ci (va_runV (C := kR_Mo) (As := [.int v4, .int (z_A σ s289 r283 (v3 + ((1 : Int32))).toNatClampNeg), .int (z_A σ s297 r291 (v3 + ((2 : Int32))).toNatClampNeg), .int (z_A σ s305 r299 (v3 + ((3 : Int32))).toNatClampNeg), .int v6]) (rest := []) ⟨hx, hb, hml, hown, hts⟩ (kc_Mo_insert l D dA Z a0 v4 (z_A σ s289 r283 (v3 + ((1 : Int32))).toNatClampNeg) (z_A σ s297 r291 (v3 + ((2 : Int32))).toNatClampNeg) (z_A σ s305 r299 (v3 + ((3 : Int32))).toNatClampNeg) v6 σ _) ⟨callB_of 5 hts (z_gw kw_799) rfl rfl rfl (hts _ (List.mem_cons_of_mem _ kw_9)) (hts _ (List.mem_cons_of_mem _ kw_797)) (by decide +kernel) ⟨Nat.le_of_ble_eq_true rfl, Nat.le_of_ble_eq_true rfl⟩, (hts _ (List.mem_cons_of_mem _ kw_798)), (hts _ (List.mem_cons_of_mem _ kw_980))⟩ (z_preV z_nwN (Nat.le_trans hZ hS.1) hG hK hN hy (ci := 8) (r := (kR_Mo, kT_Mo, 51)) rfl hw) rfl rfl hl.1 rfl (lv_room (Nat.le_of_ble_eq_true rfl)) kb_Mo_apply_308 ⟨Nat.le_of_ble_eq_true rfl, Nat.le_of_ble_eq_true rfl⟩) hS (fun r308 σ308 H locs hw hG hS => ?_)
        refine lv_if_ne (tgt := 321) hx hb kb_Mo_apply_311 (by decide) (fun hc => ?_) (fun hc => ?_)
        · have hw := hw.1 hc
          refine lv_iinc (v := v2 + (1 : Int32)) (lv' := [(2, .int (v2 + (1 : Int32))), (0, .ref a0), (1, .int v1), (3, .int v3), (4, .int v4), (6, .int v6)]) hx hb kb_Mo_apply_321 hl (k := 2) rfl rfl (by decide) rfl (fun ls hl => ?_)
          refine lv_goto (tgt := 119) hx hb kb_Mo_apply_324 (by decide) ?_
          exact hw _ _ _ hG hS (lv_sub hl [1, 2, 0] rfl)
        · have hw := hw.2 hc
          refine lv_aload_n hx hb kb_Mo_apply_314 rfl (lv_at hl 0 rfl) ?_
          obtain ⟨hy, hw⟩ := hw
          refine zr_cv (va_runV (C := kR_Mo) (As := []) (rest := []) ⟨hx, hb, hml, hown, hts⟩ (kc_Mo_back l D dA Z a0 σ308 _) ⟨callB_of 0 hts (z_gw kw_853) rfl rfl rfl (hts _ (List.mem_cons_of_mem _ kw_9)) (hts _ (List.mem_cons_of_mem _ kw_851)) (by decide +kernel) ⟨Nat.le_of_ble_eq_true rfl, Nat.le_of_ble_eq_true rfl⟩, (hts _ (List.mem_cons_of_mem _ kw_852)), (hts _ (List.mem_cons_of_mem _ kw_990))⟩ (z_preV z_nwN (Nat.le_trans hZ hS.1) hG hK hN hy (ci := 8) (r := (kR_Mo, kT_Mo, 51)) rfl hw) rfl rfl hl.1 rfl (lv_room (Nat.le_of_ble_eq_true rfl)) kb_Mo_apply_315 ⟨Nat.le_of_ble_eq_true rfl, Nat.le_of_ble_eq_true rfl⟩) hS (fun σ315 H locs hw hG hS => ?_)
          refine lv_bipush (v := (-3 : Int32)) hx hb kb_Mo_apply_318 (by decide) ?_
          exact zr_iret (free := fun q => Z ≤ q) z_nwN hx hb hr rfl hZ hK hN hG hS hw kb_Mo_apply_320 hlocks)
  refine lv_iconst (v := (0 : Int32)) hx hb kb_Mo_apply_0 (by decide) ?_
  refine lv_istore_n (lv' := [(1, .int ((0 : Int32))), (0, .ref a0)]) hx hb kb_Mo_apply_1 rfl hl (by decide) rfl (fun ls hl => ?_)
  exact hw _ _ _ hG hS (lv_sub hl [1, 0] rfl)
