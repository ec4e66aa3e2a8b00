def kp_Re_readLiteral (a0 : Nat) (σ : z_S) (Post : Int32 → z_S → Prop) : Prop := ∀ (X24 : Int32 → Int32 → z_S → Prop) (X48 : Int32 → Int32 → z_S → Prop) (X71 : Int32 → Int32 → Int32 → z_S → Prop) (X87 : z_S → Prop) (X164 : Int32 → Nat → Nat → Int32 → z_S → Prop) (X182 : Nat → z_S → Prop) (X199 : Nat → Int32 → z_S → Prop),
    (∀ (v1 : Int32) (t0 : Int32) (σ : z_S), ((¬ t0 = 0 → X48 v1 t0 σ) ∧ (t0 = 0 → kp_Re_isName v1 σ (fun (r30 : Int32) (σ30 : z_S) => (¬ r30 = 0 → X48 v1 t0 σ30) ∧ (r30 = 0 → (v1 = ((126 : Int32)) → X48 v1 t0 σ30) ∧ (¬ v1 = ((126 : Int32)) → z_ty σ30 a0 = some (.inl 3) ∧ kp_Re_fail a0 ((1 : Int32)) σ30 (fun (r44 : Int32) (σ44 : z_S) => (r44 = 0 ∨ r44 = 1) ∧ Post r44 σ44)))))) → X24 v1 t0 σ) →
    (∀ (v1 : Int32) (v2 : Int32) (σ : z_S), (kp_Re_isName v1 σ (fun (r49 : Int32) (σ49 : z_S) => (r49 = 0 → X71 v1 v2 ((0 : Int32)) σ49) ∧ (¬ r49 = 0 → z_ty σ49 a0 = some (.inl 3) ∧ ∃ r56, z_R σ49 306 a0 = some r56 ∧ (z_ty σ49 r56 = some (.inl 5) ∧ (((z_I σ49 503 r56) < ((3 : Int32)) → X71 v1 v2 ((0 : Int32)) σ49) ∧ (¬ (z_I σ49 503 r56) < ((3 : Int32)) → X71 v1 v2 ((1 : Int32)) σ49)))))) → X48 v1 v2 σ) →
    (∀ (v1 : Int32) (v2 : Int32) (t0 : Int32) (σ : z_S), (z_ty σ a0 = some (.inl 3) ∧ ∃ r73, z_R σ 306 a0 = some r73 ∧ (z_ty σ r73 = some (.inl 5) ∧ ((((5 : Int32)) ≤ (z_I σ 502 r73) → X87 σ) ∧ (¬ ((5 : Int32)) ≤ (z_I σ 502 r73) → (t0 = 0 → ∀ q93, z_ty σ q93 = none → ∀ σ93, σ93 = z_new σ q93 0 → kp_At_init q93 σ93 (fun (σ97 : z_S) => (v2 = 0 → (¬ v1 = ((126 : Int32)) → X164 v1 q93 q93 ((0 : Int32)) σ97) ∧ (v1 = ((126 : Int32)) → X164 v1 q93 q93 ((1 : Int32)) σ97)) ∧ (¬ v2 = 0 → z_ty σ97 q93 = some (.inl 0) ∧ ∀ σ109, σ109 = z_sI σ97 2 q93 ((2 : Int32)) → z_ty σ109 a0 = some (.inl 3) ∧ kp_Re_readTerm a0 q93 ((0 : Int32)) σ109 (fun (r116 : Int32) (σ116 : z_S) => (r116 = 0 → X199 q93 ((0 : Int32)) σ116) ∧ (¬ r116 = 0 → z_ty σ116 a0 = some (.inl 3) ∧ kp_Re_readOperator a0 q93 σ116 (fun (r125 : Int32) (σ125 : z_S) => (r125 = 0 → X199 q93 ((0 : Int32)) σ125) ∧ (¬ r125 = 0 → z_ty σ125 a0 = some (.inl 3) ∧ kp_Re_readTerm a0 q93 ((0 : Int32)) σ125 (fun (r135 : Int32) (σ135 : z_S) => (r135 = 0 → X199 q93 ((0 : Int32)) σ135) ∧ (¬ r135 = 0 → X199 q93 ((1 : Int32)) σ135))))))))) ∧ (¬ t0 = 0 → X87 σ))))) → X71 v1 v2 t0 σ) →
    (∀ (σ : z_S), (z_ty σ a0 = some (.inl 3) ∧ kp_Re_fail a0 ((3 : Int32)) σ (fun (r89 : Int32) (σ89 : z_S) => (r89 = 0 ∨ r89 = 1) ∧ Post r89 σ89)) → X87 σ) →
    (∀ (v1 : Int32) (v4 : Nat) (t0 : Nat) (t1 : Int32) (σ : z_S), (z_ty σ t0 = some (.inl 0) ∧ ∀ σ164, σ164 = z_sI σ 2 t0 t1 → (¬ v1 = ((126 : Int32)) → X182 v4 σ164) ∧ (v1 = ((126 : Int32)) → z_ty σ164 a0 = some (.inl 3) ∧ kp_Re_takes a0 ((126 : Int32)) σ164 (fun (r176 : Int32) (σ176 : z_S) => (r176 = 0 → X199 v4 ((0 : Int32)) σ176) ∧ (¬ r176 = 0 → X182 v4 σ176)))) → X164 v1 v4 t0 t1 σ) →
    (∀ (v4 : Nat) (σ : z_S), (z_ty σ a0 = some (.inl 3) ∧ kp_Re_readNamed a0 v4 ((0 : Int32)) σ (fun (r186 : Int32) (σ186 : z_S) => (r186 = 0 → X199 v4 ((0 : Int32)) σ186) ∧ (¬ r186 = 0 → X199 v4 ((1 : Int32)) σ186))) → X182 v4 σ) →
    (∀ (v4 : Nat) (v5 : Int32) (σ : z_S), (z_ty σ a0 = some (.inl 3) ∧ ∃ r200, z_R σ 306 a0 = some r200 ∧ (z_ty σ r200 = some (.inl 5) ∧ kp_Ru_append r200 v4 σ (fun (σ205 : z_S) => (v5 = 0 ∨ v5 = 1) ∧ Post v5 σ205))) → X199 v4 v5 σ) →
    (z_ty σ a0 = some (.inl 3) ∧ kp_Re_sign a0 σ (fun (r1 : Int32) (σ1 : z_S) => kp_Re_isVariable r1 σ1 (fun (r6 : Int32) (σ6 : z_S) => (¬ r6 = 0 → X24 r1 ((1 : Int32)) σ6) ∧ (r6 = 0 → kp_Re_isDigit r1 σ6 (fun (r13 : Int32) (σ13 : z_S) => (r13 = 0 → X24 r1 ((0 : Int32)) σ13) ∧ (¬ r13 = 0 → X24 r1 ((1 : Int32)) σ13))))))
set_option maxHeartbeats 4000000 in
set_option maxRecDepth 100000 in
theorem kc_Re_readLiteral (l : Launch) (D : va_G) (dA : Nat → ClassId) (Z : Nat) (a0 : Nat) (σ : z_S) (Post : Int32 → z_S → Prop) : Met l km_Re_readLiteral ks_Re_readLiteral kr_Re_readLiteral (va_Pc [.ref a0] (fun U => z_U D z_cl z_KT dA Z (z_tys dA) z_nw σ U ∧ kp_Re_readLiteral  a0 σ Post)) (z_Qi D z_cl z_KT dA Z (z_tys dA) z_nw Post) 2 9 (fun q => Z ≤ q) := by
  refine Met.ofW (cc := prog_5_method_5_code) (maxL := 6) (ret := (some .boolean)) (by decide) rfl ?_
  intro p e s m args below meth c s₁ B hml hv
  obtain ⟨rfl, ⟨hZ, hG, hK, hN⟩, hw⟩ := hv
  have hx := B.exec
  have hb := B.bytes
  have hr := B.returns
  have hts := atoms_spec (ws := ks_Re_readLiteral) B.pre
  have hown : s.vm.findClass kR_Re = some m.cls := findClass_of_methodNamed B.named
  have hlocks := B.notSynchronized
  have hS : va_S (fun q => Z ≤ q) s.heap s.heap [] := va_S.rf
  have hl := lv_entry ([.ref a0]) (n := 6) (Nat.le_of_ble_eq_true rfl)
  rw [lg_entry_eq]
  generalize (lg_sl ([.ref a0]) ++ List.replicate (6 - (lg_sl ([.ref a0])).length) Slot.unset).toArray = ls at hl ⊢
  have hl : lv_has ls 6 [(0, .ref a0)] := hl
  unfold kp_Re_readLiteral at hw
  have hw := hw (fun (v1 : Int32) (t0 : Int32) (σ : z_S) => ∀ (H : Heap) (locs : List Loc) (ls : Array Slot), z_G D z_cl z_KT dA Z σ H → va_S (fun q => Z ≤ q) s.heap H locs → lv_has ls 6 [(0, .ref a0), (1, .int v1)] → W p l e (headSpec ks_Re_readLiteral kr_Re_readLiteral).room s m ([.ref a0] : List Value).toArray below meth c H locs 0 0 (MQ below (z_Qi D z_cl z_KT dA Z (z_tys dA) z_nw Post) ([.ref a0] : List Value).toArray s 2 9 (fun q => Z ≤ q)) (F0 m 24 ls [.int t0]))
  have hw := hw (fun (v1 : Int32) (v2 : Int32) (σ : z_S) => ∀ (H : Heap) (locs : List Loc) (ls : Array Slot), z_G D z_cl z_KT dA Z σ H → va_S (fun q => Z ≤ q) s.heap H locs → lv_has ls 6 [(0, .ref a0), (1, .int v1), (2, .int v2)] → W p l e (headSpec ks_Re_readLiteral kr_Re_readLiteral).room s m ([.ref a0] : List Value).toArray below meth c H locs 0 0 (MQ below (z_Qi D z_cl z_KT dA Z (z_tys dA) z_nw Post) ([.ref a0] : List Value).toArray s 2 9 (fun q => Z ≤ q)) (F0 m 48 ls []))
  have hw := hw (fun (v1 : Int32) (v2 : Int32) (t0 : Int32) (σ : z_S) => ∀ (H : Heap) (locs : List Loc) (ls : Array Slot), z_G D z_cl z_KT dA Z σ H → va_S (fun q => Z ≤ q) s.heap H locs → lv_has ls 6 [(0, .ref a0), (1, .int v1), (2, .int v2)] → W p l e (headSpec ks_Re_readLiteral kr_Re_readLiteral).room s m ([.ref a0] : List Value).toArray below meth c H locs 0 0 (MQ below (z_Qi D z_cl z_KT dA Z (z_tys dA) z_nw Post) ([.ref a0] : List Value).toArray s 2 9 (fun q => Z ≤ q)) (F0 m 71 ls [.int t0]))
  have hw := hw (fun (σ : z_S) => ∀ (H : Heap) (locs : List Loc) (ls : Array Slot), z_G D z_cl z_KT dA Z σ H → va_S (fun q => Z ≤ q) s.heap H locs → lv_has ls 6 [(0, .ref a0)] → W p l e (headSpec ks_Re_readLiteral kr_Re_readLiteral).room s m ([.ref a0] : List Value).toArray below meth c H locs 0 0 (MQ below (z_Qi D z_cl z_KT dA Z (z_tys dA) z_nw Post) ([.ref a0] : List Value).toArray s 2 9 (fun q => Z ≤ q)) (F0 m 87 ls []))
  have hw := hw (fun (v1 : Int32) (v4 : Nat) (t0 : Nat) (t1 : Int32) (σ : z_S) => ∀ (H : Heap) (locs : List Loc) (ls : Array Slot), z_G D z_cl z_KT dA Z σ H → va_S (fun q => Z ≤ q) s.heap H locs → lv_has ls 6 [(0, .ref a0), (1, .int v1), (4, .ref v4)] → W p l e (headSpec ks_Re_readLiteral kr_Re_readLiteral).room s m ([.ref a0] : List Value).toArray below meth c H locs 2 9 (MQ below (z_Qi D z_cl z_KT dA Z (z_tys dA) z_nw Post) ([.ref a0] : List Value).toArray s 2 9 (fun q => Z ≤ q)) (F0 m 164 ls [.int t1, .ref t0]))
  have hw := hw (fun (v4 : Nat) (σ : z_S) => ∀ (H : Heap) (locs : List Loc) (ls : Array Slot), z_G D z_cl z_KT dA Z σ H → va_S (fun q => Z ≤ q) s.heap H locs → lv_has ls 6 [(0, .ref a0), (4, .ref v4)] → W p l e (headSpec ks_Re_readLiteral kr_Re_readLiteral).room s m ([.ref a0] : List Value).toArray below meth c H locs 2 9 (MQ below (z_Qi D z_cl z_KT dA Z (z_tys dA) z_nw Post) ([.ref a0] : List Value).toArray s 2 9 (fun q => Z ≤ q)) (F0 m 182 ls []))
  have hw := hw (fun (v4 : Nat) (v5 : Int32) (σ : z_S) => ∀ (H : Heap) (locs : List Loc) (ls : Array Slot), z_G D z_cl z_KT dA Z σ H → va_S (fun q => Z ≤ q) s.heap H locs → lv_has ls 6 [(0, .ref a0), (4, .ref v4), (5, .int v5)] → W p l e (headSpec ks_Re_readLiteral kr_Re_readLiteral).room s m ([.ref a0] : List Value).toArray below meth c H locs 2 9 (MQ below (z_Qi D z_cl z_KT dA Z (z_tys dA) z_nw Post) ([.ref a0] : List Value).toArray s 2 9 (fun q => Z ≤ q)) (F0 m 199 ls []))
  have hw := hw (by
    intro v1 t0 σ hw H locs ls hG hS hl
    refine lv_istore_n (lv' := [(2, .int t0), (0, .ref a0), (1, .int v1)]) hx hb kb_Re_readLiteral_24 rfl hl (by decide) rfl (fun ls hl => ?_)
    refine lv_iload_n hx hb kb_Re_readLiteral_25 rfl (lv_at hl 0 rfl) ?_
    refine lv_if_ne (tgt := 48) hx hb kb_Re_readLiteral_26 (by decide) (fun hc => ?_) (fun hc => ?_)
    · have hw := hw.1 hc
      exact hw _ _ _ hG hS (lv_sub hl [1, 2, 0] rfl)
    · have hw := hw.2 hc
      refine lv_iload_n hx hb kb_Re_readLiteral_29 rfl (lv_at hl 2 rfl) ?_
      refine zr_ci (va_runS (As := [.int v1]) (rest := []) ⟨hx, hb, hml, hown, hts⟩ (kc_Re_isName l D dA Z v1 σ _) ⟨callB_of 1 hts (z_gw kw_269) rfl rfl rfl (hts _ (List.mem_cons_of_mem _ kw_10)) (hts _ (List.mem_cons_of_mem _ kw_267)) (by decide +kernel) ⟨Nat.le_of_ble_eq_true rfl, Nat.le_of_ble_eq_true rfl⟩, (hts _ (List.mem_cons_of_mem _ kw_268))⟩ (z_preS z_nwN (Nat.le_trans hZ hS.1) hG hK hN hw) rfl rfl hl.1 rfl (lv_room (Nat.le_of_ble_eq_true rfl)) kb_Re_readLiteral_30 ⟨Nat.le_of_ble_eq_true rfl, Nat.le_of_ble_eq_true rfl⟩) hS (fun r30 σ30 H locs hw hG hS => ?_)
      refine lv_if_ne (tgt := 48) hx hb kb_Re_readLiteral_33 (by decide) (fun hc => ?_) (fun hc => ?_)
      · have hw := hw.1 hc
        exact hw _ _ _ hG hS (lv_sub hl [1, 2, 0] rfl)
      · have hw := hw.2 hc
        refine lv_iload_n hx hb kb_Re_readLiteral_36 rfl (lv_at hl 2 rfl) ?_
        refine lv_bipush (v := (126 : Int32)) hx hb kb_Re_readLiteral_37 (by decide) ?_
        refine lv_icmp_eq (tgt := 48) hx hb kb_Re_readLiteral_39 (by decide) (fun hc => ?_) (fun hc => ?_)
        · have hw := hw.1 hc
          exact hw _ _ _ hG hS (lv_sub hl [1, 2, 0] rfl)
        · have hw := hw.2 hc
          refine lv_aload_n hx hb kb_Re_readLiteral_42 rfl (lv_at hl 1 rfl) ?_
          refine lv_iconst (v := (1 : Int32)) hx hb kb_Re_readLiteral_43 (by decide) ?_
          obtain ⟨hy, hw⟩ := hw
          refine zr_ci (va_runV (C := kR_Re) (As := [.int ((1 : Int32))]) (rest := []) ⟨hx, hb, hml, hown, hts⟩ (kc_Re_fail l D dA Z a0 ((1 : Int32)) σ30 _) ⟨callB_of 1 hts (z_gw kw_272) rfl rfl rfl (hts _ (List.mem_cons_of_mem _ kw_10)) (hts _ (List.mem_cons_of_mem _ kw_270)) (by decide +kernel) ⟨Nat.le_of_ble_eq_true rfl, Nat.le_of_ble_eq_true rfl⟩, (hts _ (List.mem_cons_of_mem _ kw_271)), (hts _ (List.mem_cons_of_mem _ kw_911))⟩ (z_preV z_nwN (Nat.le_trans hZ hS.1) hG hK hN hy (ci := 3) (r := (kR_Re, kT_Re, 7)) rfl hw) rfl rfl hl.1 rfl (lv_room (Nat.le_of_ble_eq_true rfl)) kb_Re_readLiteral_44 ⟨Nat.le_of_ble_eq_true rfl, Nat.le_of_ble_eq_true rfl⟩) hS (fun r44 σ44 H locs hw hG hS => ?_)
          refine W.widen (k := 2) (n := 9) (Nat.le_of_ble_eq_true rfl) (Nat.le_of_ble_eq_true rfl) ?_
          exact zr_iret (free := fun q => Z ≤ q) z_nwN hx hb hr (z_bool hw.1) hZ hK hN hG hS hw.2 kb_Re_readLiteral_47 hlocks)
  have hw := hw (by
    intro v1 v2 σ hw H locs ls hG hS hl
    refine lv_iload_n hx hb kb_Re_readLiteral_48 rfl (lv_at hl 1 rfl) ?_
    refine zr_ci (va_runS (As := [.int v1]) (rest := []) ⟨hx, hb, hml, hown, hts⟩ (kc_Re_isName l D dA Z v1 σ _) ⟨callB_of 1 hts (z_gw kw_269) rfl rfl rfl (hts _ (List.mem_cons_of_mem _ kw_10)) (hts _ (List.mem_cons_of_mem _ kw_267)) (by decide +kernel) ⟨Nat.le_of_ble_eq_true rfl, Nat.le_of_ble_eq_true rfl⟩, (hts _ (List.mem_cons_of_mem _ kw_268))⟩ (z_preS z_nwN (Nat.le_trans hZ hS.1) hG hK hN hw) rfl rfl hl.1 rfl (lv_room (Nat.le_of_ble_eq_true rfl)) kb_Re_readLiteral_49 ⟨Nat.le_of_ble_eq_true rfl, Nat.le_of_ble_eq_true rfl⟩) hS (fun r49 σ49 H locs hw hG hS => ?_)
    refine lv_if_eq (tgt := 70) hx hb kb_Re_readLiteral_52 (by decide) (fun hc => ?_) (fun hc => ?_)
    · have hw := hw.1 hc
      refine lv_iconst (v := (0 : Int32)) hx hb kb_Re_readLiteral_70 (by decide) ?_
      exact hw _ _ _ hG hS (lv_sub hl [0, 1, 2] rfl)
    · have hw := hw.2 hc
      refine lv_aload_n hx hb kb_Re_readLiteral_55 rfl (lv_at hl 0 rfl) ?_
      obtain ⟨hy, r56, hrf, hw⟩ := hw
      refine zr_getR (ci := 3) (f := 306) hx hb hts ki_Re hown hK hG hy rfl 6 (by decide) (hts _ (List.mem_cons_of_mem _ kw_249)) (fun _ h => h) rfl rfl hrf kb_Re_readLiteral_56 ?_
      obtain ⟨hy, hw⟩ := hw
      refine zr_getI (ci := 5) (f := 503) hx hb hts ki_Ru hown hK hG hy rfl 3 (by decide) (hts _ (List.mem_cons_of_mem _ kw_138)) (fun _ h => h) rfl rfl kb_Re_readLiteral_59 ?_
      refine lv_iconst (v := (3 : Int32)) hx hb kb_Re_readLiteral_62 (by decide) ?_
      refine lv_icmp_lt (tgt := 70) hx hb kb_Re_readLiteral_63 (by decide) (fun hc => ?_) (fun hc => ?_)
      · have hw := hw.1 hc
        refine lv_iconst (v := (0 : Int32)) hx hb kb_Re_readLiteral_70 (by decide) ?_
        exact hw _ _ _ hG hS (lv_sub hl [0, 1, 2] rfl)
      · have hw := hw.2 hc
        refine lv_iconst (v := (1 : Int32)) hx hb kb_Re_readLiteral_66 (by decide) ?_
        refine lv_goto (tgt := 71) hx hb kb_Re_readLiteral_67 (by decide) ?_
        exact hw _ _ _ hG hS (lv_sub hl [0, 1, 2] rfl))
  have hw := hw (by
    intro v1 v2 t0 σ hw H locs ls hG hS hl
    refine lv_istore_n (lv' := [(3, .int t0), (0, .ref a0), (1, .int v1), (2, .int v2)]) hx hb kb_Re_readLiteral_71 rfl hl (by decide) rfl (fun ls hl => ?_)
    refine lv_aload_n hx hb kb_Re_readLiteral_72 rfl (lv_at hl 1 rfl) ?_
    obtain ⟨hy, r73, hrf, hw⟩ := hw
    refine zr_getR (ci := 3) (f := 306) hx hb hts ki_Re hown hK hG hy rfl 6 (by decide) (hts _ (List.mem_cons_of_mem _ kw_249)) (fun _ h => h) rfl rfl hrf kb_Re_readLiteral_73 ?_
    obtain ⟨hy, hw⟩ := hw
    refine zr_getI (ci := 5) (f := 502) hx hb hts ki_Ru hown hK hG hy rfl 2 (by decide) (hts _ (List.mem_cons_of_mem _ kw_134)) (fun _ h => h) rfl rfl kb_Re_readLiteral_76 ?_
    refine lv_iconst (v := (5 : Int32)) hx hb kb_Re_readLiteral_79 (by decide) ?_
    refine lv_icmp_ge (tgt := 87) hx hb kb_Re_readLiteral_80 (by decide) (fun hc => ?_) (fun hc => ?_)
    · have hw := hw.1 hc
      exact hw _ _ _ hG hS (lv_sub hl [1] rfl)
    · have hw := hw.2 hc
      refine lv_iload_n hx hb kb_Re_readLiteral_83 rfl (lv_at hl 0 rfl) ?_
      refine lv_if_eq (tgt := 93) hx hb kb_Re_readLiteral_84 (by decide) (fun hc => ?_) (fun hc => ?_)
      · have hw := hw.1 hc
        refine zr_new (ci := 0) hx hb hts ki_At ky_At kyo_At hown (hts _ (List.mem_cons_of_mem _ kw_347)) (hts _ (List.mem_cons_of_mem _ kw_99)) (hts _ (List.mem_cons_of_mem _ kw_7)) hK hG hS hZ rfl kd_At (Nat.le_of_ble_eq_true rfl) (Nat.le_of_ble_eq_true rfl) kb_Re_readLiteral_93 (fun q93 H hq hG hS => ?_)
        obtain ⟨σ93, e93⟩ : ∃ z, z = z_new σ q93 0 := ⟨_, rfl⟩
        rw [← e93] at hG
        have hw := hw q93 hq _ e93
        refine lv_dup hx hb kb_Re_readLiteral_96 rfl ?_
        refine zr_cv (va_runIN (b := q93) (As := []) (rest := [.ref q93]) ⟨hx, hb, hml, hown, hts⟩ (kc_At_init l D dA Z q93 σ93 _) ⟨va_cnB 0 hts (z_gw kw_101) rfl rfl rfl (hN _ kq_10) (hts _ (List.mem_cons_of_mem _ kw_7)) (by decide +kernel) ⟨Nat.le_of_ble_eq_true rfl, Nat.le_of_ble_eq_true rfl⟩, rfl, (hts _ (List.mem_cons_of_mem _ kw_100))⟩ (z_preS z_nwN (Nat.le_trans hZ hS.1) hG hK hN hw) rfl rfl hl.1 rfl (lv_room (Nat.le_of_ble_eq_true rfl)) kb_Re_readLiteral_97 ⟨Nat.le_of_ble_eq_true rfl, Nat.le_of_ble_eq_true rfl⟩) hS (fun σ97 H locs hw hG hS => ?_)
        refine lv_astore (lv' := [(4, .ref q93), (3, .int t0), (0, .ref a0), (1, .int v1), (2, .int v2)]) hx hb kb_Re_readLiteral_100 hl (by decide) rfl (fun ls hl => ?_)
        refine lv_iload_n hx hb kb_Re_readLiteral_102 rfl (lv_at hl 4 rfl) ?_
        refine lv_if_eq (tgt := 151) hx hb kb_Re_readLiteral_103 (by decide) (fun hc => ?_) (fun hc => ?_)
        · have hw := hw.1 hc
          refine lv_aload hx hb kb_Re_readLiteral_151 (lv_at hl 0 rfl) ?_
          refine lv_iload_n hx hb kb_Re_readLiteral_153 rfl (lv_at hl 3 rfl) ?_
          refine lv_bipush (v := (126 : Int32)) hx hb kb_Re_readLiteral_154 (by decide) ?_
          refine lv_icmp_ne (tgt := 163) hx hb kb_Re_readLiteral_156 (by decide) (fun hc => ?_) (fun hc => ?_)
          · have hw := hw.1 hc
            refine lv_iconst (v := (0 : Int32)) hx hb kb_Re_readLiteral_163 (by decide) ?_
            refine W.widen (k := 2) (n := 9) (Nat.le_of_ble_eq_true rfl) (Nat.le_of_ble_eq_true rfl) ?_
            exact hw _ _ _ hG hS (lv_sub hl [2, 3, 0] rfl)
          · have hw := hw.2 hc
            refine lv_iconst (v := (1 : Int32)) hx hb kb_Re_readLiteral_159 (by decide) ?_
            refine lv_goto (tgt := 164) hx hb kb_Re_readLiteral_160 (by decide) ?_
            refine W.widen (k := 2) (n := 9) (Nat.le_of_ble_eq_true rfl) (Nat.le_of_ble_eq_true rfl) ?_
            exact hw _ _ _ hG hS (lv_sub hl [2, 3, 0] rfl)
        · have hw := hw.2 hc
          refine lv_aload hx hb kb_Re_readLiteral_106 (lv_at hl 0 rfl) ?_
          refine lv_iconst (v := (2 : Int32)) hx hb kb_Re_readLiteral_108 (by decide) ?_
          obtain ⟨hy, hw⟩ := hw
          refine zr_putI (ci := 0) (f := 2) hx hb hts ki_At ky_At kyo_At kn_At hown hK hG hS hy rfl 2 (by decide) (hts _ (List.mem_cons_of_mem _ kw_109)) (fun _ h => h) rfl rfl rfl rfl rfl kb_Re_readLiteral_109 (fun H locs hG hS => ?_)
          obtain ⟨σ109, e109⟩ : ∃ z, z = z_sI σ97 2 q93 ((2 : Int32)) := ⟨_, rfl⟩
          rw [← e109] at hG
          have hw := hw _ e109
          refine lv_aload_n hx hb kb_Re_readLiteral_112 rfl (lv_at hl 2 rfl) ?_
          refine lv_aload hx hb kb_Re_readLiteral_113 (lv_at hl 0 rfl) ?_
          refine lv_iconst (v := (0 : Int32)) hx hb kb_Re_readLiteral_115 (by decide) ?_
          obtain ⟨hy, hw⟩ := hw
          refine zr_ci (va_runV (C := kR_Re) (As := [.ref q93, .int ((0 : Int32))]) (rest := []) ⟨hx, hb, hml, hown, hts⟩ (kc_Re_readTerm l D dA Z a0 q93 ((0 : Int32)) σ109 _) ⟨callB_of 2 hts (z_gw kw_290) rfl rfl rfl (hts _ (List.mem_cons_of_mem _ kw_10)) (hts _ (List.mem_cons_of_mem _ kw_288)) (by decide +kernel) ⟨Nat.le_of_ble_eq_true rfl, Nat.le_of_ble_eq_true rfl⟩, (hts _ (List.mem_cons_of_mem _ kw_289)), (hts _ (List.mem_cons_of_mem _ kw_914))⟩ (z_preV z_nwN (Nat.le_trans hZ hS.1) hG hK hN hy (ci := 3) (r := (kR_Re, kT_Re, 7)) rfl hw) rfl rfl hl.1 rfl (lv_room (Nat.le_of_ble_eq_true rfl)) kb_Re_readLiteral_116 ⟨Nat.le_of_ble_eq_true rfl, Nat.le_of_ble_eq_true rfl⟩) hS (fun r116 σ116 H locs hw hG hS => ?_)
          refine lv_if_eq (tgt := 145) hx hb kb_Re_readLiteral_119 (by decide) (fun hc => ?_) (fun hc => ?_)
          · have hw := hw.1 hc
            refine lv_iconst (v := (0 : Int32)) hx hb kb_Re_readLiteral_145 (by decide) ?_
            refine lv_istore (lv' := [(5, .int ((0 : Int32))), (4, .ref q93), (3, .int t0), (0, .ref a0), (1, .int v1), (2, .int v2)]) hx hb kb_Re_readLiteral_146 hl (by decide) rfl (fun ls hl => ?_)
            refine lv_goto (tgt := 199) hx hb kb_Re_readLiteral_148 (by decide) ?_
            refine W.widen (k := 2) (n := 9) (Nat.le_of_ble_eq_true rfl) (Nat.le_of_ble_eq_true rfl) ?_
            exact hw _ _ _ hG hS (lv_sub hl [3, 1, 0] rfl)
          · have hw := hw.2 hc
            refine lv_aload_n hx hb kb_Re_readLiteral_122 rfl (lv_at hl 2 rfl) ?_
            refine lv_aload hx hb kb_Re_readLiteral_123 (lv_at hl 0 rfl) ?_
            obtain ⟨hy, hw⟩ := hw
            refine zr_ci (va_runV (C := kR_Re) (As := [.ref q93]) (rest := []) ⟨hx, hb, hml, hown, hts⟩ (kc_Re_readOperator l D dA Z a0 q93 σ116 _) ⟨callB_of 1 hts (z_gw kw_350) rfl rfl rfl (hts _ (List.mem_cons_of_mem _ kw_10)) (hts _ (List.mem_cons_of_mem _ kw_348)) (by decide +kernel) ⟨Nat.le_of_ble_eq_true rfl, Nat.le_of_ble_eq_true rfl⟩, (hts _ (List.mem_cons_of_mem _ kw_349)), (hts _ (List.mem_cons_of_mem _ kw_919))⟩ (z_preV z_nwN (Nat.le_trans hZ hS.1) hG hK hN hy (ci := 3) (r := (kR_Re, kT_Re, 7)) rfl hw) rfl rfl hl.1 rfl (lv_room (Nat.le_of_ble_eq_true rfl)) kb_Re_readLiteral_125 ⟨Nat.le_of_ble_eq_true rfl, Nat.le_of_ble_eq_true rfl⟩) hS (fun r125 σ125 H locs hw hG hS => ?_)
            refine lv_if_eq (tgt := 145) hx hb kb_Re_readLiteral_128 (by decide) (fun hc => ?_) (fun hc => ?_)
            · have hw := hw.1 hc
              refine lv_iconst (v := (0 : Int32)) hx hb kb_Re_readLiteral_145 (by decide) ?_
              refine lv_istore (lv' := [(5, .int ((0 : Int32))), (4, .ref q93), (3, .int t0), (0, .ref a0), (1, .int v1), (2, .int v2)]) hx hb kb_Re_readLiteral_146 hl (by decide) rfl (fun ls hl => ?_)
              refine lv_goto (tgt := 199) hx hb kb_Re_readLiteral_148 (by decide) ?_
              refine W.widen (k := 2) (n := 9) (Nat.le_of_ble_eq_true rfl) (Nat.le_of_ble_eq_true rfl) ?_
              exact hw _ _ _ hG hS (lv_sub hl [3, 1, 0] rfl)
            · have hw := hw.2 hc
              refine lv_aload_n hx hb kb_Re_readLiteral_131 rfl (lv_at hl 2 rfl) ?_
              refine lv_aload hx hb kb_Re_readLiteral_132 (lv_at hl 0 rfl) ?_
              refine lv_iconst (v := (0 : Int32)) hx hb kb_Re_readLiteral_134 (by decide) ?_
              obtain ⟨hy, hw⟩ := hw
              refine zr_ci (va_runV (C := kR_Re) (As := [.ref q93, .int ((0 : Int32))]) (rest := []) ⟨hx, hb, hml, hown, hts⟩ (kc_Re_readTerm l D dA Z a0 q93 ((0 : Int32)) σ125 _) ⟨callB_of 2 hts (z_gw kw_290) rfl rfl rfl (hts _ (List.mem_cons_of_mem _ kw_10)) (hts _ (List.mem_cons_of_mem _ kw_288)) (by decide +kernel) ⟨Nat.le_of_ble_eq_true rfl, Nat.le_of_ble_eq_true rfl⟩, (hts _ (List.mem_cons_of_mem _ kw_289)), (hts _ (List.mem_cons_of_mem _ kw_914))⟩ (z_preV z_nwN (Nat.le_trans hZ hS.1) hG hK hN hy (ci := 3) (r := (kR_Re, kT_Re, 7)) rfl hw) rfl rfl hl.1 rfl (lv_room (Nat.le_of_ble_eq_true rfl)) kb_Re_readLiteral_135 ⟨Nat.le_of_ble_eq_true rfl, Nat.le_of_ble_eq_true rfl⟩) hS (fun r135 σ135 H locs hw hG hS => ?_)
              refine lv_if_eq (tgt := 145) hx hb kb_Re_readLiteral_138 (by decide) (fun hc => ?_) (fun hc => ?_)
              · have hw := hw.1 hc
                refine lv_iconst (v := (0 : Int32)) hx hb kb_Re_readLiteral_145 (by decide) ?_
                refine lv_istore (lv' := [(5, .int ((0 : Int32))), (4, .ref q93), (3, .int t0), (0, .ref a0), (1, .int v1), (2, .int v2)]) hx hb kb_Re_readLiteral_146 hl (by decide) rfl (fun ls hl => ?_)
                refine lv_goto (tgt := 199) hx hb kb_Re_readLiteral_148 (by decide) ?_
                refine W.widen (k := 2) (n := 9) (Nat.le_of_ble_eq_true rfl) (Nat.le_of_ble_eq_true rfl) ?_
                exact hw _ _ _ hG hS (lv_sub hl [3, 1, 0] rfl)
              · have hw := hw.2 hc
                refine lv_iconst (v := (1 : Int32)) hx hb kb_Re_readLiteral_141 (by decide) ?_
                refine lv_goto (tgt := 146) hx hb kb_Re_readLiteral_142 (by decide) ?_
                refine lv_istore (lv' := [(5, .int ((1 : Int32))), (4, .ref q93), (3, .int t0), (0, .ref a0), (1, .int v1), (2, .int v2)]) hx hb kb_Re_readLiteral_146 hl (by decide) rfl (fun ls hl => ?_)
                refine lv_goto (tgt := 199) hx hb kb_Re_readLiteral_148 (by decide) ?_
                refine W.widen (k := 2) (n := 9) (Nat.le_of_ble_eq_true rfl) (Nat.le_of_ble_eq_true rfl) ?_
                exact hw _ _ _ hG hS (lv_sub hl [3, 1, 0] rfl)
      · have hw := hw.2 hc
        exact hw _ _ _ hG hS (lv_sub hl [1] rfl))
  have hw := hw (by
    intro σ hw H locs ls hG hS hl
    refine lv_aload_n hx hb kb_Re_readLiteral_87 rfl (lv_at hl 0 rfl) ?_
    refine lv_iconst (v := (3 : Int32)) hx hb kb_Re_readLiteral_88 (by decide) ?_
    obtain ⟨hy, hw⟩ := hw
    refine zr_ci (va_runV (C := kR_Re) (As := [.int ((3 : Int32))]) (rest := []) ⟨hx, hb, hml, hown, hts⟩ (kc_Re_fail l D dA Z a0 ((3 : Int32)) σ _) ⟨callB_of 1 hts (z_gw kw_272) rfl rfl rfl (hts _ (List.mem_cons_of_mem _ kw_10)) (hts _ (List.mem_cons_of_mem _ kw_270)) (by decide +kernel) ⟨Nat.le_of_ble_eq_true rfl, Nat.le_of_ble_eq_true rfl⟩, (hts _ (List.mem_cons_of_mem _ kw_271)), (hts _ (List.mem_cons_of_mem _ kw_911))⟩ (z_preV z_nwN (Nat.le_trans hZ hS.1) hG hK hN hy (ci := 3) (r := (kR_Re, kT_Re, 7)) rfl hw) rfl rfl hl.1 rfl (lv_room (Nat.le_of_ble_eq_true rfl)) kb_Re_readLiteral_89 ⟨Nat.le_of_ble_eq_true rfl, Nat.le_of_ble_eq_true rfl⟩) hS (fun r89 σ89 H locs hw hG hS => ?_)
    refine W.widen (k := 2) (n := 9) (Nat.le_of_ble_eq_true rfl) (Nat.le_of_ble_eq_true rfl) ?_
    exact zr_iret (free := fun q => Z ≤ q) z_nwN hx hb hr (z_bool hw.1) hZ hK hN hG hS hw.2 kb_Re_readLiteral_92 hlocks)
  have hw := hw (by
    intro v1 v4 t0 t1 σ hw H locs ls hG hS hl
    obtain ⟨hy, hw⟩ := hw
    refine zr_putI (ci := 0) (f := 2) hx hb hts ki_At ky_At kyo_At kn_At hown hK hG hS hy rfl 2 (by decide) (hts _ (List.mem_cons_of_mem _ kw_109)) (fun _ h => h) rfl rfl rfl rfl rfl kb_Re_readLiteral_164 (fun H locs hG hS => ?_)
    obtain ⟨σ164, e164⟩ : ∃ z, z = z_sI σ 2 t0 t1 := ⟨_, rfl⟩
    rw [← e164] at hG
    have hw := hw _ e164
    refine lv_iload_n hx hb kb_Re_readLiteral_167 rfl (lv_at hl 1 rfl) ?_
    refine lv_bipush (v := (126 : Int32)) hx hb kb_Re_readLiteral_168 (by decide) ?_
    refine lv_icmp_ne (tgt := 182) hx hb kb_Re_readLiteral_170 (by decide) (fun hc => ?_) (fun hc => ?_)
    · have hw := hw.1 hc
      exact hw _ _ _ hG hS (lv_sub hl [0, 2] rfl)
    · have hw := hw.2 hc
      refine lv_aload_n hx hb kb_Re_readLiteral_173 rfl (lv_at hl 0 rfl) ?_
      refine lv_bipush (v := (126 : Int32)) hx hb kb_Re_readLiteral_174 (by decide) ?_
      obtain ⟨hy, hw⟩ := hw
      refine zr_ci (va_runV (C := kR_Re) (As := [.int ((126 : Int32))]) (rest := []) ⟨hx, hb, hml, hown, hts⟩ (kc_Re_takes l D dA Z a0 ((126 : Int32)) σ164 _) ⟨callB_of 1 hts (z_gw kw_287) rfl rfl rfl (hts _ (List.mem_cons_of_mem _ kw_10)) (hts _ (List.mem_cons_of_mem _ kw_285)) (by decide +kernel) ⟨Nat.le_of_ble_eq_true rfl, Nat.le_of_ble_eq_true rfl⟩, (hts _ (List.mem_cons_of_mem _ kw_286)), (hts _ (List.mem_cons_of_mem _ kw_913))⟩ (z_preV z_nwN (Nat.le_trans hZ hS.1) hG hK hN hy (ci := 3) (r := (kR_Re, kT_Re, 7)) rfl hw) rfl rfl hl.1 rfl (lv_room (Nat.le_of_ble_eq_true rfl)) kb_Re_readLiteral_176 ⟨Nat.le_of_ble_eq_true rfl, Nat.le_of_ble_eq_true rfl⟩) hS (fun r176 σ176 H locs hw hG hS => ?_)
      refine lv_if_eq (tgt := 196) hx hb kb_Re_readLiteral_179 (by decide) (fun hc => ?_) (fun hc => ?_)
      · have hw := hw.1 hc
        refine lv_iconst (v := (0 : Int32)) hx hb kb_Re_readLiteral_196 (by decide) ?_
        refine lv_istore (lv' := [(5, .int ((0 : Int32))), (0, .ref a0), (1, .int v1), (4, .ref v4)]) hx hb kb_Re_readLiteral_197 hl (by decide) rfl (fun ls hl => ?_)
        exact hw _ _ _ hG hS (lv_sub hl [1, 3, 0] rfl)
      · have hw := hw.2 hc
        exact hw _ _ _ hG hS (lv_sub hl [0, 2] rfl))
  have hw := hw (by
    intro v4 σ hw H locs ls hG hS hl
    refine lv_aload_n hx hb kb_Re_readLiteral_182 rfl (lv_at hl 0 rfl) ?_
    refine lv_aload hx hb kb_Re_readLiteral_183 (lv_at hl 1 rfl) ?_
    refine lv_iconst (v := (0 : Int32)) hx hb kb_Re_readLiteral_185 (by decide) ?_
    obtain ⟨hy, hw⟩ := hw
    refine zr_ci (va_runV (C := kR_Re) (As := [.ref v4, .int ((0 : Int32))]) (rest := []) ⟨hx, hb, hml, hown, hts⟩ (kc_Re_readNamed l D dA Z a0 v4 ((0 : Int32)) σ _) ⟨callB_of 2 hts (z_gw kw_275) rfl rfl rfl (hts _ (List.mem_cons_of_mem _ kw_10)) (hts _ (List.mem_cons_of_mem _ kw_273)) (by decide +kernel) ⟨Nat.le_of_ble_eq_true rfl, Nat.le_of_ble_eq_true rfl⟩, (hts _ (List.mem_cons_of_mem _ kw_274)), (hts _ (List.mem_cons_of_mem _ kw_912))⟩ (z_preV z_nwN (Nat.le_trans hZ hS.1) hG hK hN hy (ci := 3) (r := (kR_Re, kT_Re, 7)) rfl hw) rfl rfl hl.1 rfl (lv_room (Nat.le_of_ble_eq_true rfl)) kb_Re_readLiteral_186 ⟨Nat.le_of_ble_eq_true rfl, Nat.le_of_ble_eq_true rfl⟩) hS (fun r186 σ186 H locs hw hG hS => ?_)
    refine lv_if_eq (tgt := 196) hx hb kb_Re_readLiteral_189 (by decide) (fun hc => ?_) (fun hc => ?_)
    · have hw := hw.1 hc
      refine lv_iconst (v := (0 : Int32)) hx hb kb_Re_readLiteral_196 (by decide) ?_
      refine lv_istore (lv' := [(5, .int ((0 : Int32))), (0, .ref a0), (4, .ref v4)]) hx hb kb_Re_readLiteral_197 hl (by decide) rfl (fun ls hl => ?_)
      exact hw _ _ _ hG hS (lv_sub hl [1, 2, 0] rfl)
    · have hw := hw.2 hc
      refine lv_iconst (v := (1 : Int32)) hx hb kb_Re_readLiteral_192 (by decide) ?_
      refine lv_goto (tgt := 197) hx hb kb_Re_readLiteral_193 (by decide) ?_
      refine lv_istore (lv' := [(5, .int ((1 : Int32))), (0, .ref a0), (4, .ref v4)]) hx hb kb_Re_readLiteral_197 hl (by decide) rfl (fun ls hl => ?_)
      exact hw _ _ _ hG hS (lv_sub hl [1, 2, 0] rfl))
  have hw := hw (by
    intro v4 v5 σ hw H locs ls hG hS hl
    refine lv_aload_n hx hb kb_Re_readLiteral_199 rfl (lv_at hl 0 rfl) ?_
    obtain ⟨hy, r200, hrf, hw⟩ := hw
    refine zr_getR (ci := 3) (f := 306) hx hb hts ki_Re hown hK hG hy rfl 6 (by decide) (hts _ (List.mem_cons_of_mem _ kw_249)) (fun _ h => h) rfl rfl hrf kb_Re_readLiteral_200 ?_
    refine lv_aload hx hb kb_Re_readLiteral_203 (lv_at hl 1 rfl) ?_
    obtain ⟨hy, hw⟩ := hw
    refine zr_cv (va_runV (C := kR_Ru) (As := [.ref v4]) (rest := []) ⟨hx, hb, hml, hown, hts⟩ (kc_Ru_append l D dA Z r200 v4 σ _) ⟨callB_of 1 hts (z_gw kw_354) rfl rfl rfl (hts _ (List.mem_cons_of_mem _ kw_6)) (hts _ (List.mem_cons_of_mem _ kw_351)) (by decide +kernel) ⟨Nat.le_of_ble_eq_true rfl, Nat.le_of_ble_eq_true rfl⟩, (hts _ (List.mem_cons_of_mem _ kw_352)), (hts _ (List.mem_cons_of_mem _ kw_353))⟩ (z_preV z_nwN (Nat.le_trans hZ hS.1) hG hK hN hy (ci := 5) (r := (kR_Ru, kT_Ru, 7)) rfl hw) rfl rfl hl.1 rfl (lv_room (Nat.le_of_ble_eq_true rfl)) kb_Re_readLiteral_205 ⟨Nat.le_of_ble_eq_true rfl, Nat.le_of_ble_eq_true rfl⟩) hS (fun σ205 H locs hw hG hS => ?_)
    refine lv_iload hx hb kb_Re_readLiteral_208 (lv_at hl 2 rfl) ?_
    exact zr_iret (free := fun q => Z ≤ q) z_nwN hx hb hr (z_bool hw.1) hZ hK hN hG hS hw.2 kb_Re_readLiteral_210 hlocks)
  refine lv_aload_n hx hb kb_Re_readLiteral_0 rfl (lv_at hl 0 rfl) ?_
  obtain ⟨hy, hw⟩ := hw
  refine zr_ci (va_runV (C := kR_Re) (As := []) (rest := []) ⟨hx, hb, hml, hown, hts⟩ (kc_Re_sign l D dA Z a0 σ _) ⟨callB_of 0 hts (z_gw kw_263) rfl rfl rfl (hts _ (List.mem_cons_of_mem _ kw_10)) (hts _ (List.mem_cons_of_mem _ kw_261)) (by decide +kernel) ⟨Nat.le_of_ble_eq_true rfl, Nat.le_of_ble_eq_true rfl⟩, (hts _ (List.mem_cons_of_mem _ kw_262)), (hts _ (List.mem_cons_of_mem _ kw_909))⟩ (z_preV z_nwN (Nat.le_trans hZ hS.1) hG hK hN hy (ci := 3) (r := (kR_Re, kT_Re, 7)) rfl hw) rfl rfl hl.1 rfl (lv_room (Nat.le_of_ble_eq_true rfl)) kb_Re_readLiteral_1 ⟨Nat.le_of_ble_eq_true rfl, Nat.le_of_ble_eq_true rfl⟩) hS (fun r1 σ1 H locs hw hG hS => ?_)
  refine lv_istore_n (lv' := [(1, .int r1), (0, .ref a0)]) hx hb kb_Re_readLiteral_4 rfl hl (by decide) rfl (fun ls hl => ?_)
  refine lv_iload_n hx hb kb_Re_readLiteral_5 rfl (lv_at hl 0 rfl) ?_
  refine zr_ci (va_runS (As := [.int r1]) (rest := []) ⟨hx, hb, hml, hown, hts⟩ (kc_Re_isVariable l D dA Z r1 σ1 _) ⟨callB_of 1 hts (z_gw kw_303) rfl rfl rfl (hts _ (List.mem_cons_of_mem _ kw_10)) (hts _ (List.mem_cons_of_mem _ kw_301)) (by decide +kernel) ⟨Nat.le_of_ble_eq_true rfl, Nat.le_of_ble_eq_true rfl⟩, (hts _ (List.mem_cons_of_mem _ kw_302))⟩ (z_preS z_nwN (Nat.le_trans hZ hS.1) hG hK hN hw) rfl rfl hl.1 rfl (lv_room (Nat.le_of_ble_eq_true rfl)) kb_Re_readLiteral_6 ⟨Nat.le_of_ble_eq_true rfl, Nat.le_of_ble_eq_true rfl⟩) hS (fun r6 σ6 H locs hw hG hS => ?_)
  refine lv_if_ne (tgt := 19) hx hb kb_Re_readLiteral_9 (by decide) (fun hc => ?_) (fun hc => ?_)
  · have hw := hw.1 hc
    refine lv_iconst (v := (1 : Int32)) hx hb kb_Re_readLiteral_19 (by decide) ?_
    refine lv_goto (tgt := 24) hx hb kb_Re_readLiteral_20 (by decide) ?_
    exact hw _ _ _ hG hS (lv_sub hl [1, 0] rfl)
  · have hw := hw.2 hc
    refine lv_iload_n hx hb kb_Re_readLiteral_12 rfl (lv_at hl 0 rfl) ?_
    refine zr_ci (va_runS (As := [.int r1]) (rest := []) ⟨hx, hb, hml, hown, hts⟩ (kc_Re_isDigit l D dA Z r1 σ6 _) ⟨callB_of 1 hts (z_gw kw_293) rfl rfl rfl (hts _ (List.mem_cons_of_mem _ kw_10)) (hts _ (List.mem_cons_of_mem _ kw_291)) (by decide +kernel) ⟨Nat.le_of_ble_eq_true rfl, Nat.le_of_ble_eq_true rfl⟩, (hts _ (List.mem_cons_of_mem _ kw_292))⟩ (z_preS z_nwN (Nat.le_trans hZ hS.1) hG hK hN hw) rfl rfl hl.1 rfl (lv_room (Nat.le_of_ble_eq_true rfl)) kb_Re_readLiteral_13 ⟨Nat.le_of_ble_eq_true rfl, Nat.le_of_ble_eq_true rfl⟩) hS (fun r13 σ13 H locs hw hG hS => ?_)
    refine lv_if_eq (tgt := 23) hx hb kb_Re_readLiteral_16 (by decide) (fun hc => ?_) (fun hc => ?_)
    · have hw := hw.1 hc
      refine lv_iconst (v := (0 : Int32)) hx hb kb_Re_readLiteral_23 (by decide) ?_
      exact hw _ _ _ hG hS (lv_sub hl [1, 0] rfl)
    · have hw := hw.2 hc
      refine lv_iconst (v := (1 : Int32)) hx hb kb_Re_readLiteral_19 (by decide) ?_
      refine lv_goto (tgt := 24) hx hb kb_Re_readLiteral_20 (by decide) ?_
      exact hw _ _ _ hG hS (lv_sub hl [1, 0] rfl)
def kp_Re_readRule (a0 : Nat) (σ : z_S) (Post : Int32 → z_S → Prop) : Prop := ∀ (X39 : Nat → Nat → z_S → Prop) (X92 : Int32 → Nat → Nat → z_S → Prop),
    (∀ (kc : Nat) (ks : Nat) (σ : z_S), (z_ty σ a0 = some (.inl 3) ∧ ∃ r41, z_R σ 306 a0 = some r41 ∧ (z_ty σ r41 = some (.inl 5) ∧ ∃ r44, z_R σ 500 r41 = some r44 ∧ ((kc + 0 ≤ 16 ∧ ks + 0 ≤ 75) ∧ z_ty σ a0 = some (.inl 3) ∧ kp_Re_readNamed a0 r44 ((1 : Int32)) σ (fun (r48 : Int32) (σ48 : z_S) => (¬ r48 = 0 → ((kc + 0) + 0 ≤ 16 ∧ (ks + 0) + 0 ≤ 75) ∧ z_ty σ48 a0 = some (.inl 3) ∧ kp_Re_sign a0 σ48 (fun (r57 : Int32) (σ57 : z_S) => (¬ r57 = ((46 : Int32)) → (((kc + 0) + 0) + 0 ≤ 16 ∧ ((ks + 0) + 0) + 0 ≤ 75) ∧ z_ty σ57 a0 = some (.inl 3) ∧ kp_Re_takes a0 ((58 : Int32)) σ57 (fun (r73 : Int32) (σ73 : z_S) => (r73 = 0 → Post ((0 : Int32)) σ73) ∧ (¬ r73 = 0 → ((((kc + 0) + 0) + 0) + 0 ≤ 16 ∧ (((ks + 0) + 0) + 0) + 0 ≤ 75) ∧ z_ty σ73 a0 = some (.inl 3) ∧ kp_Re_takes a0 ((45 : Int32)) σ73 (fun (r82 : Int32) (σ82 : z_S) => (¬ r82 = 0 → X92 ((0 : Int32)) ((((kc + 0) + 0) + 0) + 0) ((((ks + 0) + 0) + 0) + 0) σ82) ∧ (r82 = 0 → Post ((0 : Int32)) σ82))))) ∧ (r57 = ((46 : Int32)) → (((kc + 0) + 0) + 0 ≤ 16 ∧ ((ks + 0) + 0) + 0 ≤ 75) ∧ z_ty σ57 a0 = some (.inl 3) ∧ kp_Re_closeRule a0 σ57 (fun (r66 : Int32) (σ66 : z_S) => (r66 = 0 ∨ r66 = 1) ∧ Post r66 σ66)))) ∧ (r48 = 0 → Post ((0 : Int32)) σ48))))) → X39 kc ks σ) →
    (∀ (v1 : Int32) (kc : Nat) (ks : Nat) (σ : z_S), ((((5 : Int32)) < v1 → Post ((0 : Int32)) σ) ∧ (¬ ((5 : Int32)) < v1 → (kc + 2 ≤ 16 ∧ ks + 9 ≤ 75) ∧ z_ty σ a0 = some (.inl 3) ∧ kp_Re_readLiteral a0 σ (fun (r98 : Int32) (σ98 : z_S) => (¬ r98 = 0 → ((kc + 2) + 0 ≤ 16 ∧ (ks + 9) + 0 ≤ 75) ∧ z_ty σ98 a0 = some (.inl 3) ∧ kp_Re_sign a0 σ98 (fun (r107 : Int32) (σ107 : z_S) => (¬ r107 = ((46 : Int32)) → (((kc + 2) + 0) + 0 ≤ 16 ∧ ((ks + 9) + 0) + 0 ≤ 75) ∧ z_ty σ107 a0 = some (.inl 3) ∧ kp_Re_takes a0 ((44 : Int32)) σ107 (fun (r123 : Int32) (σ123 : z_S) => (¬ r123 = 0 → X92 (v1 + (1 : Int32)) (((kc + 2) + 0) + 0) (((ks + 9) + 0) + 0) σ123) ∧ (r123 = 0 → Post ((0 : Int32)) σ123))) ∧ (r107 = ((46 : Int32)) → (((kc + 2) + 0) + 0 ≤ 16 ∧ ((ks + 9) + 0) + 0 ≤ 75) ∧ z_ty σ107 a0 = some (.inl 3) ∧ kp_Re_closeRule a0 σ107 (fun (r116 : Int32) (σ116 : z_S) => (r116 = 0 ∨ r116 = 1) ∧ Post r116 σ116)))) ∧ (r98 = 0 → Post ((0 : Int32)) σ98)))) → X92 v1 kc ks σ) →
    ((0 + 1 ≤ 16 ∧ 0 + 7 ≤ 75) ∧ ∀ q1, z_ty σ q1 = none → ∀ σ1, σ1 = z_new σ q1 5 → ((0 + 1) + 3 ≤ 16 ∧ (0 + 7) + 14 ≤ 75) ∧ kp_Ru_init q1 σ1 (fun (σ5 : z_S) => z_ty σ5 a0 = some (.inl 3) ∧ ∀ σ8, σ8 = z_sR σ5 306 a0 (some q1) → (((0 + 1) + 3) + 0 ≤ 16 ∧ ((0 + 7) + 14) + 0 ≤ 75) ∧ z_ty σ8 a0 = some (.inl 3) ∧ kp_Re_sign a0 σ8 (fun (r12 : Int32) (σ12 : z_S) => ((((0 + 1) + 3) + 0) + 0 ≤ 16 ∧ (((0 + 7) + 14) + 0) + 0 ≤ 75) ∧ kp_Re_isName r12 σ12 (fun (r15 : Int32) (σ15 : z_S) => (r15 = 0 → X39 ((((0 + 1) + 3) + 0) + 0) ((((0 + 7) + 14) + 0) + 0) σ15) ∧ (¬ r15 = 0 → z_ty σ15 a0 = some (.inl 3) ∧ ∃ r22, z_R σ15 300 a0 = some r22 ∧ (z_ty σ15 r22 = some (.inl 2) ∧ (((z_I σ15 201 r22) < ((16 : Int32)) → X39 ((((0 + 1) + 3) + 0) + 0) ((((0 + 7) + 14) + 0) + 0) σ15) ∧ (¬ (z_I σ15 201 r22) < ((16 : Int32)) → (((((0 + 1) + 3) + 0) + 0) + 0 ≤ 16 ∧ ((((0 + 7) + 14) + 0) + 0) + 0 ≤ 75) ∧ z_ty σ15 a0 = some (.inl 3) ∧ kp_Re_fail a0 ((3 : Int32)) σ15 (fun (r35 : Int32) (σ35 : z_S) => (r35 = 0 ∨ r35 = 1) ∧ Post r35 σ35)))))))))
set_option maxHeartbeats 4000000 in
set_option maxRecDepth 100000 in
theorem kc_Re_readRule (l : Launch) (D : va_G) (dA : Nat → ClassId) (Z : Nat) (a0 : Nat) (σ : z_S) (Post : Int32 → z_S → Prop) : Met l km_Re_readRule ks_Re_readRule kr_Re_readRule (va_Pc [.ref a0] (fun U => z_U D z_cl z_KT dA Z (z_tys dA) z_nw σ U ∧ kp_Re_readRule  a0 σ Post)) (z_Qi D z_cl z_KT dA Z (z_tys dA) z_nw Post) 16 75 (fun q => Z ≤ q) := by
  refine Met.ofW (cc := prog_5_method_3_code) (maxL := 2) (ret := (some .boolean)) (by decide) rfl ?_
  intro p e s m args below meth c s₁ B hml hv
  obtain ⟨rfl, ⟨hZ, hG, hK, hN⟩, hw⟩ := hv
  have hx := B.exec
  have hb := B.bytes
  have hr := B.returns
  have hts := atoms_spec (ws := ks_Re_readRule) B.pre
  have hown : s.vm.findClass kR_Re = some m.cls := findClass_of_methodNamed B.named
  have hlocks := B.notSynchronized
  have hS : va_S (fun q => Z ≤ q) s.heap s.heap [] := va_S.rf
  have hl := lv_entry ([.ref a0]) (n := 2) (Nat.le_of_ble_eq_true rfl)
  rw [lg_entry_eq]
  generalize (lg_sl ([.ref a0]) ++ List.replicate (2 - (lg_sl ([.ref a0])).length) Slot.unset).toArray = ls at hl ⊢
  have hl : lv_has ls 2 [(0, .ref a0)] := hl
  unfold kp_Re_readRule at hw
  have hw := hw (fun (kc : Nat) (ks : Nat) (σ : z_S) => ∀ (H : Heap) (locs : List Loc) (ls : Array Slot), kc ≤ 16 → ks ≤ 75 → z_G D z_cl z_KT dA Z σ H → va_S (fun q => Z ≤ q) s.heap H locs → lv_has ls 2 [(0, .ref a0)] → W p l e (headSpec ks_Re_readRule kr_Re_readRule).room s m ([.ref a0] : List Value).toArray below meth c H locs kc ks (MQ below (z_Qi D z_cl z_KT dA Z (z_tys dA) z_nw Post) ([.ref a0] : List Value).toArray s 16 75 (fun q => Z ≤ q)) (F0 m 39 ls []))
  have hw := hw (fun (v1 : Int32) (kc : Nat) (ks : Nat) (σ : z_S) => ∀ (H : Heap) (locs : List Loc) (ls : Array Slot), kc ≤ 16 → ks ≤ 75 → z_G D z_cl z_KT dA Z σ H → va_S (fun q => Z ≤ q) s.heap H locs → lv_has ls 2 [(0, .ref a0), (1, .int v1)] → W p l e (headSpec ks_Re_readRule kr_Re_readRule).room s m ([.ref a0] : List Value).toArray below meth c H locs kc ks (MQ below (z_Qi D z_cl z_KT dA Z (z_tys dA) z_nw Post) ([.ref a0] : List Value).toArray s 16 75 (fun q => Z ≤ q)) (F0 m 92 ls []))
  have hw := hw (by
    intro kc ks σ hw H locs ls hkc hks hG hS hl
    refine lv_aload_n hx hb kb_Re_readRule_39 rfl (lv_at hl 0 rfl) ?_
    refine lv_aload_n hx hb kb_Re_readRule_40 rfl (lv_at hl 0 rfl) ?_
    obtain ⟨hy, r41, hrf, hw⟩ := hw
    refine zr_getR (ci := 3) (f := 306) hx hb hts ki_Re hown hK hG hy rfl 6 (by decide) (hts _ (List.mem_cons_of_mem _ kw_249)) (fun _ h => h) rfl rfl hrf kb_Re_readRule_41 ?_
    obtain ⟨hy, r44, hrf, hw⟩ := hw
    refine zr_getR (ci := 5) (f := 500) hx hb hts ki_Ru hown hK hG hy rfl 0 (by decide) (hts _ (List.mem_cons_of_mem _ kw_127)) (fun _ h => h) rfl rfl hrf kb_Re_readRule_44 ?_
    refine lv_iconst (v := (1 : Int32)) hx hb kb_Re_readRule_47 (by decide) ?_
    obtain ⟨k6, hw⟩ := hw
    obtain ⟨hy, hw⟩ := hw
    refine zr_ci (va_runV (C := kR_Re) (As := [.ref r44, .int ((1 : Int32))]) (rest := []) ⟨hx, hb, hml, hown, hts⟩ (kc_Re_readNamed l D dA Z a0 r44 ((1 : Int32)) σ _) ⟨callB_of 2 hts (z_gw kw_275) rfl rfl rfl (hts _ (List.mem_cons_of_mem _ kw_10)) (hts _ (List.mem_cons_of_mem _ kw_273)) (by decide +kernel) ⟨Nat.le_of_ble_eq_true rfl, Nat.le_of_ble_eq_true rfl⟩, (hts _ (List.mem_cons_of_mem _ kw_274)), (hts _ (List.mem_cons_of_mem _ kw_912))⟩ (z_preV z_nwN (Nat.le_trans hZ hS.1) hG hK hN hy (ci := 3) (r := (kR_Re, kT_Re, 7)) rfl hw) rfl rfl hl.1 rfl (lv_room (Nat.le_of_ble_eq_true rfl)) kb_Re_readRule_48 k6) hS (fun r48 σ48 H locs hw hG hS => ?_)
    refine lv_if_ne (tgt := 56) hx hb kb_Re_readRule_51 (by decide) (fun hc => ?_) (fun hc => ?_)
    · have hw := hw.1 hc
      refine lv_aload_n hx hb kb_Re_readRule_56 rfl (lv_at hl 0 rfl) ?_
      obtain ⟨k7, hw⟩ := hw
      obtain ⟨hy, hw⟩ := hw
      refine zr_ci (va_runV (C := kR_Re) (As := []) (rest := []) ⟨hx, hb, hml, hown, hts⟩ (kc_Re_sign l D dA Z a0 σ48 _) ⟨callB_of 0 hts (z_gw kw_263) rfl rfl rfl (hts _ (List.mem_cons_of_mem _ kw_10)) (hts _ (List.mem_cons_of_mem _ kw_261)) (by decide +kernel) ⟨Nat.le_of_ble_eq_true rfl, Nat.le_of_ble_eq_true rfl⟩, (hts _ (List.mem_cons_of_mem _ kw_262)), (hts _ (List.mem_cons_of_mem _ kw_909))⟩ (z_preV z_nwN (Nat.le_trans hZ hS.1) hG hK hN hy (ci := 3) (r := (kR_Re, kT_Re, 7)) rfl hw) rfl rfl hl.1 rfl (lv_room (Nat.le_of_ble_eq_true rfl)) kb_Re_readRule_57 k7) hS (fun r57 σ57 H locs hw hG hS => ?_)
      refine lv_bipush (v := (46 : Int32)) hx hb kb_Re_readRule_60 (by decide) ?_
      refine lv_icmp_ne (tgt := 70) hx hb kb_Re_readRule_62 (by decide) (fun hc => ?_) (fun hc => ?_)
      · have hw := hw.1 hc
        refine lv_aload_n hx hb kb_Re_readRule_70 rfl (lv_at hl 0 rfl) ?_
        refine lv_bipush (v := (58 : Int32)) hx hb kb_Re_readRule_71 (by decide) ?_
        obtain ⟨k8, hw⟩ := hw
        obtain ⟨hy, hw⟩ := hw
        refine zr_ci (va_runV (C := kR_Re) (As := [.int ((58 : Int32))]) (rest := []) ⟨hx, hb, hml, hown, hts⟩ (kc_Re_takes l D dA Z a0 ((58 : Int32)) σ57 _) ⟨callB_of 1 hts (z_gw kw_287) rfl rfl rfl (hts _ (List.mem_cons_of_mem _ kw_10)) (hts _ (List.mem_cons_of_mem _ kw_285)) (by decide +kernel) ⟨Nat.le_of_ble_eq_true rfl, Nat.le_of_ble_eq_true rfl⟩, (hts _ (List.mem_cons_of_mem _ kw_286)), (hts _ (List.mem_cons_of_mem _ kw_913))⟩ (z_preV z_nwN (Nat.le_trans hZ hS.1) hG hK hN hy (ci := 3) (r := (kR_Re, kT_Re, 7)) rfl hw) rfl rfl hl.1 rfl (lv_room (Nat.le_of_ble_eq_true rfl)) kb_Re_readRule_73 k8) hS (fun r73 σ73 H locs hw hG hS => ?_)
        refine lv_if_eq (tgt := 88) hx hb kb_Re_readRule_76 (by decide) (fun hc => ?_) (fun hc => ?_)
        · have hw := hw.1 hc
          refine lv_iconst (v := (0 : Int32)) hx hb kb_Re_readRule_88 (by decide) ?_
          refine W.widen (k := 16) (n := 75) k8.1 k8.2 ?_
          exact zr_iret (free := fun q => Z ≤ q) z_nwN hx hb hr rfl hZ hK hN hG hS hw kb_Re_readRule_89 hlocks
        · have hw := hw.2 hc
          refine lv_aload_n hx hb kb_Re_readRule_79 rfl (lv_at hl 0 rfl) ?_
          refine lv_bipush (v := (45 : Int32)) hx hb kb_Re_readRule_80 (by decide) ?_
          obtain ⟨k9, hw⟩ := hw
          obtain ⟨hy, hw⟩ := hw
          refine zr_ci (va_runV (C := kR_Re) (As := [.int ((45 : Int32))]) (rest := []) ⟨hx, hb, hml, hown, hts⟩ (kc_Re_takes l D dA Z a0 ((45 : Int32)) σ73 _) ⟨callB_of 1 hts (z_gw kw_287) rfl rfl rfl (hts _ (List.mem_cons_of_mem _ kw_10)) (hts _ (List.mem_cons_of_mem _ kw_285)) (by decide +kernel) ⟨Nat.le_of_ble_eq_true rfl, Nat.le_of_ble_eq_true rfl⟩, (hts _ (List.mem_cons_of_mem _ kw_286)), (hts _ (List.mem_cons_of_mem _ kw_913))⟩ (z_preV z_nwN (Nat.le_trans hZ hS.1) hG hK hN hy (ci := 3) (r := (kR_Re, kT_Re, 7)) rfl hw) rfl rfl hl.1 rfl (lv_room (Nat.le_of_ble_eq_true rfl)) kb_Re_readRule_82 k9) hS (fun r82 σ82 H locs hw hG hS => ?_)
          refine lv_if_ne (tgt := 90) hx hb kb_Re_readRule_85 (by decide) (fun hc => ?_) (fun hc => ?_)
          · have hw := hw.1 hc
            refine lv_iconst (v := (0 : Int32)) hx hb kb_Re_readRule_90 (by decide) ?_
            refine lv_istore_n (lv' := [(1, .int ((0 : Int32))), (0, .ref a0)]) hx hb kb_Re_readRule_91 rfl hl (by decide) rfl (fun ls hl => ?_)
            exact hw _ _ _ k9.1 k9.2 hG hS (lv_sub hl [1, 0] rfl)
          · have hw := hw.2 hc
            refine lv_iconst (v := (0 : Int32)) hx hb kb_Re_readRule_88 (by decide) ?_
            refine W.widen (k := 16) (n := 75) k9.1 k9.2 ?_
            exact zr_iret (free := fun q => Z ≤ q) z_nwN hx hb hr rfl hZ hK hN hG hS hw kb_Re_readRule_89 hlocks
      · have hw := hw.2 hc
        refine lv_aload_n hx hb kb_Re_readRule_65 rfl (lv_at hl 0 rfl) ?_
        obtain ⟨k10, hw⟩ := hw
        obtain ⟨hy, hw⟩ := hw
        refine zr_ci (va_runV (C := kR_Re) (As := []) (rest := []) ⟨hx, hb, hml, hown, hts⟩ (kc_Re_closeRule l D dA Z a0 σ57 _) ⟨callB_of 0 hts (z_gw kw_312) rfl rfl rfl (hts _ (List.mem_cons_of_mem _ kw_10)) (hts _ (List.mem_cons_of_mem _ kw_310)) (by decide +kernel) ⟨Nat.le_of_ble_eq_true rfl, Nat.le_of_ble_eq_true rfl⟩, (hts _ (List.mem_cons_of_mem _ kw_311)), (hts _ (List.mem_cons_of_mem _ kw_916))⟩ (z_preV z_nwN (Nat.le_trans hZ hS.1) hG hK hN hy (ci := 3) (r := (kR_Re, kT_Re, 7)) rfl hw) rfl rfl hl.1 rfl (lv_room (Nat.le_of_ble_eq_true rfl)) kb_Re_readRule_66 k10) hS (fun r66 σ66 H locs hw hG hS => ?_)
        refine W.widen (k := 16) (n := 75) k10.1 k10.2 ?_
        exact zr_iret (free := fun q => Z ≤ q) z_nwN hx hb hr (z_bool hw.1) hZ hK hN hG hS hw.2 kb_Re_readRule_69 hlocks
    · have hw := hw.2 hc
      refine lv_iconst (v := (0 : Int32)) hx hb kb_Re_readRule_54 (by decide) ?_
      refine W.widen (k := 16) (n := 75) k6.1 k6.2 ?_
      exact zr_iret (free := fun q => Z ≤ q) z_nwN hx hb hr rfl hZ hK hN hG hS hw kb_Re_readRule_55 hlocks)
  have hw := hw (by
    intro v1 kc ks σ hw H locs ls hkc hks hG hS hl
    refine lv_iload_n hx hb kb_Re_readRule_92 rfl (lv_at hl 1 rfl) ?_
    refine lv_iconst (v := (5 : Int32)) hx hb kb_Re_readRule_93 (by decide) ?_
    refine lv_icmp_gt (tgt := 137) hx hb kb_Re_readRule_94 (by decide) (fun hc => ?_) (fun hc => ?_)
    · have hw := hw.1 hc
      refine lv_iconst (v := (0 : Int32)) hx hb kb_Re_readRule_137 (by decide) ?_
      refine W.widen (k := 16) (n := 75) hkc hks ?_
      exact zr_iret (free := fun q => Z ≤ q) z_nwN hx hb hr rfl hZ hK hN hG hS hw kb_Re_readRule_138 hlocks
    · have hw := hw.2 hc
      refine lv_aload_n hx hb kb_Re_readRule_97 rfl (lv_at hl 0 rfl) ?_
      obtain ⟨k11, hw⟩ := hw
      obtain ⟨hy, hw⟩ := hw
      refine zr_ci (va_runV (C := kR_Re) (As := []) (rest := []) ⟨hx, hb, hml, hown, hts⟩ (kc_Re_readLiteral l D dA Z a0 σ _) ⟨callB_of 0 hts (z_gw kw_346) rfl rfl rfl (hts _ (List.mem_cons_of_mem _ kw_10)) (hts _ (List.mem_cons_of_mem _ kw_344)) (by decide +kernel) ⟨Nat.le_of_ble_eq_true rfl, Nat.le_of_ble_eq_true rfl⟩, (hts _ (List.mem_cons_of_mem _ kw_345)), (hts _ (List.mem_cons_of_mem _ kw_918))⟩ (z_preV z_nwN (Nat.le_trans hZ hS.1) hG hK hN hy (ci := 3) (r := (kR_Re, kT_Re, 7)) rfl hw) rfl rfl hl.1 rfl (lv_room (Nat.le_of_ble_eq_true rfl)) kb_Re_readRule_98 k11) hS (fun r98 σ98 H locs hw hG hS => ?_)
      refine lv_if_ne (tgt := 106) hx hb kb_Re_readRule_101 (by decide) (fun hc => ?_) (fun hc => ?_)
      · have hw := hw.1 hc
        refine lv_aload_n hx hb kb_Re_readRule_106 rfl (lv_at hl 0 rfl) ?_
        obtain ⟨k12, hw⟩ := hw
        obtain ⟨hy, hw⟩ := hw
        refine zr_ci (va_runV (C := kR_Re) (As := []) (rest := []) ⟨hx, hb, hml, hown, hts⟩ (kc_Re_sign l D dA Z a0 σ98 _) ⟨callB_of 0 hts (z_gw kw_263) rfl rfl rfl (hts _ (List.mem_cons_of_mem _ kw_10)) (hts _ (List.mem_cons_of_mem _ kw_261)) (by decide +kernel) ⟨Nat.le_of_ble_eq_true rfl, Nat.le_of_ble_eq_true rfl⟩, (hts _ (List.mem_cons_of_mem _ kw_262)), (hts _ (List.mem_cons_of_mem _ kw_909))⟩ (z_preV z_nwN (Nat.le_trans hZ hS.1) hG hK hN hy (ci := 3) (r := (kR_Re, kT_Re, 7)) rfl hw) rfl rfl hl.1 rfl (lv_room (Nat.le_of_ble_eq_true rfl)) kb_Re_readRule_107 k12) hS (fun r107 σ107 H locs hw hG hS => ?_)
        refine lv_bipush (v := (46 : Int32)) hx hb kb_Re_readRule_110 (by decide) ?_
        refine lv_icmp_ne (tgt := 120) hx hb kb_Re_readRule_112 (by decide) (fun hc => ?_) (fun hc => ?_)
        · have hw := hw.1 hc
          refine lv_aload_n hx hb kb_Re_readRule_120 rfl (lv_at hl 0 rfl) ?_
          refine lv_bipush (v := (44 : Int32)) hx hb kb_Re_readRule_121 (by decide) ?_
          obtain ⟨k13, hw⟩ := hw
          obtain ⟨hy, hw⟩ := hw
          refine zr_ci (va_runV (C := kR_Re) (As := [.int ((44 : Int32))]) (rest := []) ⟨hx, hb, hml, hown, hts⟩ (kc_Re_takes l D dA Z a0 ((44 : Int32)) σ107 _) ⟨callB_of 1 hts (z_gw kw_287) rfl rfl rfl (hts _ (List.mem_cons_of_mem _ kw_10)) (hts _ (List.mem_cons_of_mem _ kw_285)) (by decide +kernel) ⟨Nat.le_of_ble_eq_true rfl, Nat.le_of_ble_eq_true rfl⟩, (hts _ (List.mem_cons_of_mem _ kw_286)), (hts _ (List.mem_cons_of_mem _ kw_913))⟩ (z_preV z_nwN (Nat.le_trans hZ hS.1) hG hK hN hy (ci := 3) (r := (kR_Re, kT_Re, 7)) rfl hw) rfl rfl hl.1 rfl (lv_room (Nat.le_of_ble_eq_true rfl)) kb_Re_readRule_123 k13) hS (fun r123 σ123 H locs hw hG hS => ?_)
          refine lv_if_ne (tgt := 131) hx hb kb_Re_readRule_126 (by decide) (fun hc => ?_) (fun hc => ?_)
          · have hw := hw.1 hc
            refine lv_iinc (v := v1 + (1 : Int32)) (lv' := [(1, .int (v1 + (1 : Int32))), (0, .ref a0)]) hx hb kb_Re_readRule_131 hl (k := 1) rfl rfl (by decide) rfl (fun ls hl => ?_)
            refine lv_goto (tgt := 92) hx hb kb_Re_readRule_134 (by decide) ?_
            exact hw _ _ _ k13.1 k13.2 hG hS (lv_sub hl [1, 0] rfl)
          · have hw := hw.2 hc
            refine lv_iconst (v := (0 : Int32)) hx hb kb_Re_readRule_129 (by decide) ?_
            refine W.widen (k := 16) (n := 75) k13.1 k13.2 ?_
            exact zr_iret (free := fun q => Z ≤ q) z_nwN hx hb hr rfl hZ hK hN hG hS hw kb_Re_readRule_130 hlocks
        · have hw := hw.2 hc
          refine lv_aload_n hx hb kb_Re_readRule_115 rfl (lv_at hl 0 rfl) ?_
          obtain ⟨k14, hw⟩ := hw
          obtain ⟨hy, hw⟩ := hw
          refine zr_ci (va_runV (C := kR_Re) (As := []) (rest := []) ⟨hx, hb, hml, hown, hts⟩ (kc_Re_closeRule l D dA Z a0 σ107 _) ⟨callB_of 0 hts (z_gw kw_312) rfl rfl rfl (hts _ (List.mem_cons_of_mem _ kw_10)) (hts _ (List.mem_cons_of_mem _ kw_310)) (by decide +kernel) ⟨Nat.le_of_ble_eq_true rfl, Nat.le_of_ble_eq_true rfl⟩, (hts _ (List.mem_cons_of_mem _ kw_311)), (hts _ (List.mem_cons_of_mem _ kw_916))⟩ (z_preV z_nwN (Nat.le_trans hZ hS.1) hG hK hN hy (ci := 3) (r := (kR_Re, kT_Re, 7)) rfl hw) rfl rfl hl.1 rfl (lv_room (Nat.le_of_ble_eq_true rfl)) kb_Re_readRule_116 k14) hS (fun r116 σ116 H locs hw hG hS => ?_)
          refine W.widen (k := 16) (n := 75) k14.1 k14.2 ?_
          exact zr_iret (free := fun q => Z ≤ q) z_nwN hx hb hr (z_bool hw.1) hZ hK hN hG hS hw.2 kb_Re_readRule_119 hlocks
      · have hw := hw.2 hc
        refine lv_iconst (v := (0 : Int32)) hx hb kb_Re_readRule_104 (by decide) ?_
        refine W.widen (k := 16) (n := 75) k11.1 k11.2 ?_
        exact zr_iret (free := fun q => Z ≤ q) z_nwN hx hb hr rfl hZ hK hN hG hS hw kb_Re_readRule_105 hlocks)
  refine lv_aload_n hx hb kb_Re_readRule_0 rfl (lv_at hl 0 rfl) ?_
  obtain ⟨k1, hw⟩ := hw
  refine zr_new (ci := 5) hx hb hts ki_Ru ky_Ru kyo_Ru hown (hts _ (List.mem_cons_of_mem _ kw_236)) (hts _ (List.mem_cons_of_mem _ kw_94)) (hts _ (List.mem_cons_of_mem _ kw_6)) hK hG hS hZ rfl kd_Ru k1.1 k1.2 kb_Re_readRule_1 (fun q1 H hq hG hS => ?_)
  obtain ⟨σ1, e1⟩ : ∃ z, z = z_new σ q1 5 := ⟨_, rfl⟩
  rw [← e1] at hG
  have hw := hw q1 hq _ e1
  refine lv_dup hx hb kb_Re_readRule_4 rfl ?_
  obtain ⟨k2, hw⟩ := hw
  refine zr_cv (va_runIN (b := q1) (As := []) (rest := [.ref q1, .ref a0]) ⟨hx, hb, hml, hown, hts⟩ (kc_Ru_init l D dA Z q1 σ1 _) ⟨va_cnB 0 hts (z_gw kw_96) rfl rfl rfl (hN _ kq_7) (hts _ (List.mem_cons_of_mem _ kw_6)) (by decide +kernel) ⟨Nat.le_of_ble_eq_true rfl, Nat.le_of_ble_eq_true rfl⟩, rfl, (hts _ (List.mem_cons_of_mem _ kw_95))⟩ (z_preS z_nwN (Nat.le_trans hZ hS.1) hG hK hN hw) rfl rfl hl.1 rfl (lv_room (Nat.le_of_ble_eq_true rfl)) kb_Re_readRule_5 k2) hS (fun σ5 H locs hw hG hS => ?_)
  obtain ⟨hy, hw⟩ := hw
  refine zr_putR (ci := 3) (f := 306) hx hb hts ki_Re ky_Re kyo_Re kn_Re hown hK hG hS hy rfl 6 (by decide) (hts _ (List.mem_cons_of_mem _ kw_249)) (fun _ h => h) rfl rfl rfl rfl rfl kb_Re_readRule_8 (fun H locs hG hS => ?_)
  obtain ⟨σ8, e8⟩ : ∃ z, z = z_sR σ5 306 a0 (some q1) := ⟨_, rfl⟩
  rw [← e8] at hG
  have hw := hw _ e8
  refine lv_aload_n hx hb kb_Re_readRule_11 rfl (lv_at hl 0 rfl) ?_
  obtain ⟨k3, hw⟩ := hw
  obtain ⟨hy, hw⟩ := hw
  refine zr_ci (va_runV (C := kR_Re) (As := []) (rest := []) ⟨hx, hb, hml, hown, hts⟩ (kc_Re_sign l D dA Z a0 σ8 _) ⟨callB_of 0 hts (z_gw kw_263) rfl rfl rfl (hts _ (List.mem_cons_of_mem _ kw_10)) (hts _ (List.mem_cons_of_mem _ kw_261)) (by decide +kernel) ⟨Nat.le_of_ble_eq_true rfl, Nat.le_of_ble_eq_true rfl⟩, (hts _ (List.mem_cons_of_mem _ kw_262)), (hts _ (List.mem_cons_of_mem _ kw_909))⟩ (z_preV z_nwN (Nat.le_trans hZ hS.1) hG hK hN hy (ci := 3) (r := (kR_Re, kT_Re, 7)) rfl hw) rfl rfl hl.1 rfl (lv_room (Nat.le_of_ble_eq_true rfl)) kb_Re_readRule_12 k3) hS (fun r12 σ12 H locs hw hG hS => ?_)
  obtain ⟨k4, hw⟩ := hw
  refine zr_ci (va_runS (As := [.int r12]) (rest := []) ⟨hx, hb, hml, hown, hts⟩ (kc_Re_isName l D dA Z r12 σ12 _) ⟨callB_of 1 hts (z_gw kw_269) rfl rfl rfl (hts _ (List.mem_cons_of_mem _ kw_10)) (hts _ (List.mem_cons_of_mem _ kw_267)) (by decide +kernel) ⟨Nat.le_of_ble_eq_true rfl, Nat.le_of_ble_eq_true rfl⟩, (hts _ (List.mem_cons_of_mem _ kw_268))⟩ (z_preS z_nwN (Nat.le_trans hZ hS.1) hG hK hN hw) rfl rfl hl.1 rfl (lv_room (Nat.le_of_ble_eq_true rfl)) kb_Re_readRule_15 k4) hS (fun r15 σ15 H locs hw hG hS => ?_)
  refine lv_if_eq (tgt := 39) hx hb kb_Re_readRule_18 (by decide) (fun hc => ?_) (fun hc => ?_)
  · have hw := hw.1 hc
    exact hw _ _ _ k4.1 k4.2 hG hS (lv_sub hl [0] rfl)
  · have hw := hw.2 hc
    refine lv_aload_n hx hb kb_Re_readRule_21 rfl (lv_at hl 0 rfl) ?_
    obtain ⟨hy, r22, hrf, hw⟩ := hw
    refine zr_getR (ci := 3) (f := 300) hx hb hts ki_Re hown hK hG hy rfl 0 (by decide) (hts _ (List.mem_cons_of_mem _ kw_240)) (fun _ h => h) rfl rfl hrf kb_Re_readRule_22 ?_
    obtain ⟨hy, hw⟩ := hw
    refine zr_getI (ci := 2) (f := 201) hx hb hts ki_Pr hown hK hG hy rfl 1 (by decide) (hts _ (List.mem_cons_of_mem _ kw_29)) (fun _ h => h) rfl rfl kb_Re_readRule_25 ?_
    refine lv_bipush (v := (16 : Int32)) hx hb kb_Re_readRule_28 (by decide) ?_
    refine lv_icmp_lt (tgt := 39) hx hb kb_Re_readRule_30 (by decide) (fun hc => ?_) (fun hc => ?_)
    · have hw := hw.1 hc
      exact hw _ _ _ k4.1 k4.2 hG hS (lv_sub hl [0] rfl)
    · have hw := hw.2 hc
      refine lv_aload_n hx hb kb_Re_readRule_33 rfl (lv_at hl 0 rfl) ?_
      refine lv_iconst (v := (3 : Int32)) hx hb kb_Re_readRule_34 (by decide) ?_
      obtain ⟨k5, hw⟩ := hw
      obtain ⟨hy, hw⟩ := hw
      refine zr_ci (va_runV (C := kR_Re) (As := [.int ((3 : Int32))]) (rest := []) ⟨hx, hb, hml, hown, hts⟩ (kc_Re_fail l D dA Z a0 ((3 : Int32)) σ15 _) ⟨callB_of 1 hts (z_gw kw_272) rfl rfl rfl (hts _ (List.mem_cons_of_mem _ kw_10)) (hts _ (List.mem_cons_of_mem _ kw_270)) (by decide +kernel) ⟨Nat.le_of_ble_eq_true rfl, Nat.le_of_ble_eq_true rfl⟩, (hts _ (List.mem_cons_of_mem _ kw_271)), (hts _ (List.mem_cons_of_mem _ kw_911))⟩ (z_preV z_nwN (Nat.le_trans hZ hS.1) hG hK hN hy (ci := 3) (r := (kR_Re, kT_Re, 7)) rfl hw) rfl rfl hl.1 rfl (lv_room (Nat.le_of_ble_eq_true rfl)) kb_Re_readRule_35 k5) hS (fun r35 σ35 H locs hw hG hS => ?_)
      refine W.widen (k := 16) (n := 75) k5.1 k5.2 ?_
      exact zr_iret (free := fun q => Z ≤ q) z_nwN hx hb hr (z_bool hw.1) hZ hK hN hG hS hw.2 kb_Re_readRule_38 hlocks
def kp_Re_readRules (a0 : Nat) (σ : z_S) (Post : z_S → Prop) : Prop := ∀ (X4 : Int32 → Int32 → Nat → Nat → z_S → Prop) (X33 : Int32 → Nat → Nat → z_S → Prop),
    (∀ (v1 : Int32) (v2 : Int32) (kc : Nat) (ks : Nat) (σ : z_S), ((((16 : Int32)) < v2 → X33 v1 kc ks σ) ∧ (¬ ((16 : Int32)) < v2 → (v1 = 0 → X33 v1 kc ks σ) ∧ (¬ v1 = 0 → (kc + 0 ≤ 272 ∧ ks + 0 ≤ 1275) ∧ z_ty σ a0 = some (.inl 3) ∧ kp_Re_sign a0 σ (fun (r15 : Int32) (σ15 : z_S) => (r15 = ((-1 : Int32)) → X33 v1 (kc + 0) (ks + 0) σ15) ∧ (¬ r15 = ((-1 : Int32)) → ((kc + 0) + 16 ≤ 272 ∧ (ks + 0) + 75 ≤ 1275) ∧ z_ty σ15 a0 = some (.inl 3) ∧ kp_Re_readRule a0 σ15 (fun (r23 : Int32) (σ23 : z_S) => X4 r23 (v2 + (1 : Int32)) ((kc + 0) + 16) ((ks + 0) + 75) σ23)))))) → X4 v1 v2 kc ks σ) →
    (∀ (v1 : Int32) (kc : Nat) (ks : Nat) (σ : z_S), ((v1 = 0 → Post σ) ∧ (¬ v1 = 0 → z_ty σ a0 = some (.inl 3) ∧ ∃ r38, z_R σ 300 a0 = some r38 ∧ ((kc + 0 ≤ 272 ∧ ks + 0 ≤ 1275) ∧ z_ty σ r38 = some (.inl 2) ∧ kp_Pr_findLayers r38 σ (fun (r41 : Int32) (σ41 : z_S) => (¬ r41 = 0 → Post σ41) ∧ (r41 = 0 → ((kc + 0) + 0 ≤ 272 ∧ (ks + 0) + 0 ≤ 1275) ∧ z_ty σ41 a0 = some (.inl 3) ∧ kp_Re_fail a0 ((6 : Int32)) σ41 (fun (r50 : Int32) (σ50 : z_S) => Post σ50)))))) → X33 v1 kc ks σ) →
    (X4 ((1 : Int32)) ((0 : Int32)) 0 0 σ)
set_option maxHeartbeats 4000000 in
set_option maxRecDepth 100000 in
theorem kc_Re_readRules (l : Launch) (D : va_G) (dA : Nat → ClassId) (Z : Nat) (a0 : Nat) (σ : z_S) (Post : z_S → Prop) : Met l km_Re_readRules ks_Re_readRules kr_Re_readRules (va_Pc [.ref a0] (fun U => z_U D z_cl z_KT dA Z (z_tys dA) z_nw σ U ∧ kp_Re_readRules  a0 σ Post)) (z_Qv D z_cl z_KT dA Z (z_tys dA) z_nw Post) 272 1275 (fun q => Z ≤ q) := by
  refine Met.ofW (cc := prog_5_method_2_code) (maxL := 3) (ret := none) (by decide) rfl ?_
  intro p e s m args below meth c s₁ B hml hv
  obtain ⟨rfl, ⟨hZ, hG, hK, hN⟩, hw⟩ := hv
  have hx := B.exec
  have hb := B.bytes
  have hr := B.returns
  have hts := atoms_spec (ws := ks_Re_readRules) B.pre
  have hown : s.vm.findClass kR_Re = some m.cls := findClass_of_methodNamed B.named
  have hlocks := B.notSynchronized
  have hS : va_S (fun q => Z ≤ q) s.heap s.heap [] := va_S.rf
  have hl := lv_entry ([.ref a0]) (n := 3) (Nat.le_of_ble_eq_true rfl)
  rw [lg_entry_eq]
  generalize (lg_sl ([.ref a0]) ++ List.replicate (3 - (lg_sl ([.ref a0])).length) Slot.unset).toArray = ls at hl ⊢
  have hl : lv_has ls 3 [(0, .ref a0)] := hl
  unfold kp_Re_readRules at hw
  have hw := hw (fun (v1 : Int32) (v2 : Int32) (kc : Nat) (ks : Nat) (σ : z_S) => ∀ (H : Heap) (locs : List Loc) (ls : Array Slot), kc ≤ 272 → ks ≤ 1275 → z_G D z_cl z_KT dA Z σ H → va_S (fun q => Z ≤ q) s.heap H locs → lv_has ls 3 [(0, .ref a0), (1, .int v1), (2, .int v2)] → W p l e (headSpec ks_Re_readRules kr_Re_readRules).room s m ([.ref a0] : List Value).toArray below meth c H locs kc ks (MQ below (z_Qv D z_cl z_KT dA Z (z_tys dA) z_nw Post) ([.ref a0] : List Value).toArray s 272 1275 (fun q => Z ≤ q)) (F0 m 4 ls []))
  have hw := hw (fun (v1 : Int32) (kc : Nat) (ks : Nat) (σ : z_S) => ∀ (H : Heap) (locs : List Loc) (ls : Array Slot), kc ≤ 272 → ks ≤ 1275 → z_G D z_cl z_KT dA Z σ H → va_S (fun q => Z ≤ q) s.heap H locs → lv_has ls 3 [(0, .ref a0), (1, .int v1)] → W p l e (headSpec ks_Re_readRules kr_Re_readRules).room s m ([.ref a0] : List Value).toArray below meth c H locs kc ks (MQ below (z_Qv D z_cl z_KT dA Z (z_tys dA) z_nw Post) ([.ref a0] : List Value).toArray s 272 1275 (fun q => Z ≤ q)) (F0 m 33 ls []))
  have hw := hw (by
    intro v1 v2 kc ks σ hw H locs ls hkc hks hG hS hl
    refine lv_iload_n hx hb kb_Re_readRules_4 rfl (lv_at hl 2 rfl) ?_
    refine lv_bipush (v := (16 : Int32)) hx hb kb_Re_readRules_5 (by decide) ?_
    refine lv_icmp_gt (tgt := 33) hx hb kb_Re_readRules_7 (by decide) (fun hc => ?_) (fun hc => ?_)
    · have hw := hw.1 hc
      exact hw _ _ _ hkc hks hG hS (lv_sub hl [0, 1] rfl)
    · have hw := hw.2 hc
      refine lv_iload_n hx hb kb_Re_readRules_10 rfl (lv_at hl 1 rfl) ?_
      refine lv_if_eq (tgt := 33) hx hb kb_Re_readRules_11 (by decide) (fun hc => ?_) (fun hc => ?_)
      · have hw := hw.1 hc
        exact hw _ _ _ hkc hks hG hS (lv_sub hl [0, 1] rfl)
      · have hw := hw.2 hc
        refine lv_aload_n hx hb kb_Re_readRules_14 rfl (lv_at hl 0 rfl) ?_
        obtain ⟨k1, hw⟩ := hw
        obtain ⟨hy, hw⟩ := hw
        refine zr_ci (va_runV (C := kR_Re) (As := []) (rest := []) ⟨hx, hb, hml, hown, hts⟩ (kc_Re_sign l D dA Z a0 σ _) ⟨callB_of 0 hts (z_gw kw_263) rfl rfl rfl (hts _ (List.mem_cons_of_mem _ kw_10)) (hts _ (List.mem_cons_of_mem _ kw_261)) (by decide +kernel) ⟨Nat.le_of_ble_eq_true rfl, Nat.le_of_ble_eq_true rfl⟩, (hts _ (List.mem_cons_of_mem _ kw_262)), (hts _ (List.mem_cons_of_mem _ kw_909))⟩ (z_preV z_nwN (Nat.le_trans hZ hS.1) hG hK hN hy (ci := 3) (r := (kR_Re, kT_Re, 7)) rfl hw) rfl rfl hl.1 rfl (lv_room (Nat.le_of_ble_eq_true rfl)) kb_Re_readRules_15 k1) hS (fun r15 σ15 H locs hw hG hS => ?_)
        refine lv_iconst (v := (-1 : Int32)) hx hb kb_Re_readRules_18 (by decide) ?_
        refine lv_icmp_eq (tgt := 33) hx hb kb_Re_readRules_19 (by decide) (fun hc => ?_) (fun hc => ?_)
        · have hw := hw.1 hc
          exact hw _ _ _ k1.1 k1.2 hG hS (lv_sub hl [0, 1] rfl)
        · have hw := hw.2 hc
          refine lv_aload_n hx hb kb_Re_readRules_22 rfl (lv_at hl 0 rfl) ?_
          obtain ⟨k2, hw⟩ := hw
          obtain ⟨hy, hw⟩ := hw
          refine zr_ci (va_runV (C := kR_Re) (As := []) (rest := []) ⟨hx, hb, hml, hown, hts⟩ (kc_Re_readRule l D dA Z a0 σ15 _) ⟨callB_of 0 hts (z_gw kw_266) rfl rfl rfl (hts _ (List.mem_cons_of_mem _ kw_10)) (hts _ (List.mem_cons_of_mem _ kw_264)) (by decide +kernel) ⟨Nat.le_of_ble_eq_true rfl, Nat.le_of_ble_eq_true rfl⟩, (hts _ (List.mem_cons_of_mem _ kw_265)), (hts _ (List.mem_cons_of_mem _ kw_910))⟩ (z_preV z_nwN (Nat.le_trans hZ hS.1) hG hK hN hy (ci := 3) (r := (kR_Re, kT_Re, 7)) rfl hw) rfl rfl hl.1 rfl (lv_room (Nat.le_of_ble_eq_true rfl)) kb_Re_readRules_23 k2) hS (fun r23 σ23 H locs hw hG hS => ?_)
          refine lv_istore_n (lv' := [(1, .int r23), (0, .ref a0), (2, .int v2)]) hx hb kb_Re_readRules_26 rfl hl (by decide) rfl (fun ls hl => ?_)
          refine lv_iinc (v := v2 + (1 : Int32)) (lv' := [(2, .int (v2 + (1 : Int32))), (1, .int r23), (0, .ref a0)]) hx hb kb_Re_readRules_27 hl (k := 2) rfl rfl (by decide) rfl (fun ls hl => ?_)
          refine lv_goto (tgt := 4) hx hb kb_Re_readRules_30 (by decide) ?_
          exact hw _ _ _ k2.1 k2.2 hG hS (lv_sub hl [2, 1, 0] rfl))
  have hw := hw (by
    intro v1 kc ks σ hw H locs ls hkc hks hG hS hl
    refine lv_iload_n hx hb kb_Re_readRules_33 rfl (lv_at hl 1 rfl) ?_
    refine lv_if_eq (tgt := 54) hx hb kb_Re_readRules_34 (by decide) (fun hc => ?_) (fun hc => ?_)
    · have hw := hw.1 hc
      refine W.widen (k := 272) (n := 1275) hkc hks ?_
      exact zr_vret z_nwN hx hb hr hZ hK hN hG hS hw kb_Re_readRules_54 hlocks
    · have hw := hw.2 hc
      refine lv_aload_n hx hb kb_Re_readRules_37 rfl (lv_at hl 0 rfl) ?_
      obtain ⟨hy, r38, hrf, hw⟩ := hw
      refine zr_getR (ci := 3) (f := 300) hx hb hts ki_Re hown hK hG hy rfl 0 (by decide) (hts _ (List.mem_cons_of_mem _ kw_240)) (fun _ h => h) rfl rfl hrf kb_Re_readRules_38 ?_
      obtain ⟨k3, hw⟩ := hw
      obtain ⟨hy, hw⟩ := hw
      refine zr_ci (va_runV (C := kR_Pr) (As := []) (rest := []) ⟨hx, hb, hml, hown, hts⟩ (kc_Pr_findLayers l D dA Z r38 σ _) ⟨callB_of 0 hts (z_gw kw_358) rfl rfl rfl (hts _ (List.mem_cons_of_mem _ kw_2)) (hts _ (List.mem_cons_of_mem _ kw_355)) (by decide +kernel) ⟨Nat.le_of_ble_eq_true rfl, Nat.le_of_ble_eq_true rfl⟩, (hts _ (List.mem_cons_of_mem _ kw_356)), (hts _ (List.mem_cons_of_mem _ kw_357))⟩ (z_preV z_nwN (Nat.le_trans hZ hS.1) hG hK hN hy (ci := 2) (r := (kR_Pr, kT_Pr, 11)) rfl hw) rfl rfl hl.1 rfl (lv_room (Nat.le_of_ble_eq_true rfl)) kb_Re_readRules_41 k3) hS (fun r41 σ41 H locs hw hG hS => ?_)
      refine lv_if_ne (tgt := 54) hx hb kb_Re_readRules_44 (by decide) (fun hc => ?_) (fun hc => ?_)
      · have hw := hw.1 hc
        refine W.widen (k := 272) (n := 1275) k3.1 k3.2 ?_
        exact zr_vret z_nwN hx hb hr hZ hK hN hG hS hw kb_Re_readRules_54 hlocks
      · have hw := hw.2 hc
        refine lv_aload_n hx hb kb_Re_readRules_47 rfl (lv_at hl 0 rfl) ?_
        refine lv_bipush (v := (6 : Int32)) hx hb kb_Re_readRules_48 (by decide) ?_
        obtain ⟨k4, hw⟩ := hw
        obtain ⟨hy, hw⟩ := hw
        refine zr_ci (va_runV (C := kR_Re) (As := [.int ((6 : Int32))]) (rest := []) ⟨hx, hb, hml, hown, hts⟩ (kc_Re_fail l D dA Z a0 ((6 : Int32)) σ41 _) ⟨callB_of 1 hts (z_gw kw_272) rfl rfl rfl (hts _ (List.mem_cons_of_mem _ kw_10)) (hts _ (List.mem_cons_of_mem _ kw_270)) (by decide +kernel) ⟨Nat.le_of_ble_eq_true rfl, Nat.le_of_ble_eq_true rfl⟩, (hts _ (List.mem_cons_of_mem _ kw_271)), (hts _ (List.mem_cons_of_mem _ kw_911))⟩ (z_preV z_nwN (Nat.le_trans hZ hS.1) hG hK hN hy (ci := 3) (r := (kR_Re, kT_Re, 7)) rfl hw) rfl rfl hl.1 rfl (lv_room (Nat.le_of_ble_eq_true rfl)) kb_Re_readRules_50 k4) hS (fun r50 σ50 H locs hw hG hS => ?_)
        refine lv_pop hx hb kb_Re_readRules_53 rfl ?_
        refine W.widen (k := 272) (n := 1275) k4.1 k4.2 ?_
        exact zr_vret z_nwN hx hb hr hZ hK hN hG hS hw kb_Re_readRules_54 hlocks)
  refine lv_iconst (v := (1 : Int32)) hx hb kb_Re_readRules_0 (by decide) ?_
  refine lv_istore_n (lv' := [(1, .int ((1 : Int32))), (0, .ref a0)]) hx hb kb_Re_readRules_1 rfl hl (by decide) rfl (fun ls hl => ?_)
  refine lv_iconst (v := (0 : Int32)) hx hb kb_Re_readRules_2 (by decide) ?_
  refine lv_istore_n (lv' := [(2, .int ((0 : Int32))), (1, .int ((1 : Int32))), (0, .ref a0)]) hx hb kb_Re_readRules_3 rfl hl (by decide) rfl (fun ls hl => ?_)
  exact hw _ _ _ (Nat.zero_le _) (Nat.zero_le _) hG hS (lv_sub hl [2, 1, 0] rfl)
def kp_Ro_init (a0 : Nat) (σ : z_S) (Post : z_S → Prop) : Prop :=     (∀ q7, z_ty σ q7 = none → ∀ σ7, σ7 = z_arr σ q7 0 100 12 → z_ty σ7 a0 = some (.inl 4) ∧ ∀ σ9, σ9 = z_sR σ7 400 a0 (some q7) → ∀ q15, z_ty σ9 q15 = none → ∀ σ15, σ15 = z_arr σ9 q15 0 100 13 → z_ty σ15 a0 = some (.inl 4) ∧ ∀ σ17, σ17 = z_sR σ15 401 a0 (some q15) → Post σ17)
set_option maxHeartbeats 4000000 in
set_option maxRecDepth 100000 in
theorem kc_Ro_init (l : Launch) (D : va_G) (dA : Nat → ClassId) (Z : Nat) (a0 : Nat) (σ : z_S) (Post : z_S → Prop) : Met l km_Ro_init ks_Ro_init kr_Ro_init (va_Pc [.ref a0] (fun U => z_U D z_cl z_KT dA Z (z_tys dA) z_nw σ U ∧ kp_Ro_init  a0 σ Post)) (z_Qv D z_cl z_KT dA Z (z_tys dA) z_nw Post) 2 200 (fun q => Z ≤ q) := by
  refine Met.ofW (cc := prog_6_method_1_code) (maxL := 1) (ret := none) (by decide) rfl ?_
  intro p e s m args below meth c s₁ B hml hv
  obtain ⟨rfl, ⟨hZ, hG, hK, hN⟩, hw⟩ := hv
  have hx := B.exec
  have hb := B.bytes
  have hr := B.returns
  have hts := atoms_spec (ws := ks_Ro_init) B.pre
  have hown : s.vm.findClass kR_Ro = some m.cls := findClass_of_methodNamed B.named
  have hlocks := B.notSynchronized
  have hin : meth.name = "<init>" := (name_of_methodNamed B.named B.method).1
  have hS : va_S (fun q => Z ≤ q) s.heap s.heap [] := va_S.rf
  have hl := lv_entry ([.ref a0]) (n := 1) (Nat.le_of_ble_eq_true rfl)
  rw [lg_entry_eq]
  generalize (lg_sl ([.ref a0]) ++ List.replicate (1 - (lg_sl ([.ref a0])).length) Slot.unset).toArray = ls at hl ⊢
  have hl : lv_has ls 1 [(0, .ref a0)] := hl
  unfold kp_Ro_init at hw
  refine lv_aload_n hx hb kb_Ro_init_0 rfl (lv_at hl 0 rfl) ?_
  refine W.objInit hx hb hown (hts _ (List.mem_cons_of_mem _ kw_182)) (hts _ (List.mem_cons_of_mem _ kw_17)) (hts _ (List.mem_cons_of_mem _ kw_18)) rfl (by rw [hml]; exact hl.1) rfl kb_Ro_init_1 (Nat.le_of_ble_eq_true rfl) (Nat.le_of_ble_eq_true rfl) ?_
  refine W.eq (g2 := F0 m 4 ls []) rfl ?_
  refine lv_aload_n hx hb kb_Ro_init_4 rfl (lv_at hl 0 rfl) ?_
  refine lv_bipush (v := (100 : Int32)) hx hb kb_Ro_init_5 (by decide) ?_
  refine zr_newa (atype := .int) (ty := .int) (N' := 100) hx hb (hts _ (List.mem_cons_of_mem _ kw_64)) rfl hK hG hS hZ 0 0 12 (by decide) rfl (fun _ _ h1 h2 => z_RA_int h1 h2) rfl (by decide) (by decide) (by decide) (Nat.le_of_ble_eq_true rfl) (Nat.le_of_ble_eq_true rfl) kb_Ro_init_7 (fun q7 H hq hG hS => ?_)
  obtain ⟨σ7, e7⟩ : ∃ z, z = z_arr σ q7 0 100 12 := ⟨_, rfl⟩
  rw [← e7] at hG
  have hw := hw q7 hq _ e7
  obtain ⟨hy, hw⟩ := hw
  refine zr_putRF (ci := 4) (f := 400) hx hb hts ki_Ro ky_Ro kyo_Ro kn_Ro hown hK hG hS hy rfl 0 (by decide) (hts _ (List.mem_cons_of_mem _ kw_183)) (fun _ h => h) rfl hin rfl rfl rfl rfl rfl kb_Ro_init_9 (fun H locs hG hS => ?_)
  obtain ⟨σ9, e9⟩ : ∃ z, z = z_sR σ7 400 a0 (some q7) := ⟨_, rfl⟩
  rw [← e9] at hG
  have hw := hw _ e9
  refine lv_aload_n hx hb kb_Ro_init_12 rfl (lv_at hl 0 rfl) ?_
  refine lv_bipush (v := (100 : Int32)) hx hb kb_Ro_init_13 (by decide) ?_
  refine zr_newa (atype := .int) (ty := .int) (N' := 100) hx hb (hts _ (List.mem_cons_of_mem _ kw_64)) rfl hK hG hS hZ 0 0 13 (by decide) rfl (fun _ _ h1 h2 => z_RA_int h1 h2) rfl (by decide) (by decide) (by decide) (Nat.le_of_ble_eq_true rfl) (Nat.le_of_ble_eq_true rfl) kb_Ro_init_15 (fun q15 H hq hG hS => ?_)
  obtain ⟨σ15, e15⟩ : ∃ z, z = z_arr σ9 q15 0 100 13 := ⟨_, rfl⟩
  rw [← e15] at hG
  have hw := hw q15 hq _ e15
  obtain ⟨hy, hw⟩ := hw
  refine zr_putRF (ci := 4) (f := 401) hx hb hts ki_Ro ky_Ro kyo_Ro kn_Ro hown hK hG hS hy rfl 1 (by decide) (hts _ (List.mem_cons_of_mem _ kw_186)) (fun _ h => h) rfl hin rfl rfl rfl rfl rfl kb_Ro_init_17 (fun H locs hG hS => ?_)
  obtain ⟨σ17, e17⟩ : ∃ z, z = z_sR σ15 401 a0 (some q15) := ⟨_, rfl⟩
  rw [← e17] at hG
  have hw := hw _ e17
  refine W.widen (k := 2) (n := 200) (Nat.le_of_ble_eq_true rfl) (Nat.le_of_ble_eq_true rfl) ?_
  exact zr_vret z_nwN hx hb hr hZ hK hN hG hS hw kb_Ro_init_20 hlocks
def kp_Ro_dropZeros (a0 : Nat) (σ : z_S) (Post : Int32 → z_S → Prop) : Prop := ∀ (X4 : Int32 → Int32 → z_S → Prop),
    (∀ (v1 : Int32) (v2 : Int32) (σ : z_S), (z_ty σ a0 = some (.inl 4) ∧ (((z_I σ 402 a0) ≤ v2 → z_ty σ a0 = some (.inl 4) ∧ ∀ σ78, σ78 = z_sI σ 402 a0 v1 → Post ((1 : Int32)) σ78) ∧ (¬ (z_I σ 402 a0) ≤ v2 → z_ty σ a0 = some (.inl 4) ∧ ∃ r13, z_R σ 401 a0 = some r13 ∧ (∃ n17 s17, z_ty σ r13 = some (.inr (0, n17, s17)) ∧ vp_in v2 n17 ∧ ((((z_A σ s17 r13 v2.toNatClampNeg)) < 0 → Post ((0 : Int32)) σ) ∧ (¬ ((z_A σ s17 r13 v2.toNatClampNeg)) < 0 → z_ty σ a0 = some (.inl 4) ∧ ∃ r22, z_R σ 401 a0 = some r22 ∧ (∃ n26 s26, z_ty σ r22 = some (.inr (0, n26, s26)) ∧ vp_in v2 n26 ∧ (((z_A σ s26 r22 v2.toNatClampNeg) ≤ ((9 : Int32)) → z_ty σ a0 = some (.inl 4) ∧ ∃ r35, z_R σ 401 a0 = some r35 ∧ (∃ n39 s39, z_ty σ r35 = some (.inr (0, n39, s39)) ∧ vp_in v2 n39 ∧ ((((z_A σ s39 r35 v2.toNatClampNeg)) ≤ 0 → X4 v1 (v2 + (1 : Int32)) σ) ∧ (¬ ((z_A σ s39 r35 v2.toNatClampNeg)) ≤ 0 → z_ty σ a0 = some (.inl 4) ∧ ∃ r44, z_R σ 400 a0 = some r44 ∧ (z_ty σ a0 = some (.inl 4) ∧ ∃ r49, z_R σ 400 a0 = some r49 ∧ (∃ n53 s53, z_ty σ r49 = some (.inr (0, n53, s53)) ∧ vp_in v2 n53 ∧ (∃ n54 s54, z_ty σ r44 = some (.inr (0, n54, s54)) ∧ vp_in v1 n54 ∧ ∀ σ54, σ54 = z_sA σ s54 r44 (upd (z_A σ s54 r44) v1.toNatClampNeg (z_A σ s53 r49 v2.toNatClampNeg)) → z_ty σ54 a0 = some (.inl 4) ∧ ∃ r56, z_R σ54 401 a0 = some r56 ∧ (z_ty σ54 a0 = some (.inl 4) ∧ ∃ r61, z_R σ54 401 a0 = some r61 ∧ (∃ n65 s65, z_ty σ54 r61 = some (.inr (0, n65, s65)) ∧ vp_in v2 n65 ∧ (∃ n66 s66, z_ty σ54 r56 = some (.inr (0, n66, s66)) ∧ vp_in v1 n66 ∧ ∀ σ66, σ66 = z_sA σ54 s66 r56 (upd (z_A σ54 s66 r56) v1.toNatClampNeg (z_A σ54 s65 r61 v2.toNatClampNeg)) → X4 (v1 + (1 : Int32)) (v2 + (1 : Int32)) σ66)))))))))) ∧ (¬ (z_A σ s26 r22 v2.toNatClampNeg) ≤ ((9 : Int32)) → Post ((0 : Int32)) σ))))))))) → X4 v1 v2 σ) →
    (X4 ((0 : Int32)) ((0 : Int32)) σ)
set_option maxHeartbeats 4000000 in
set_option maxRecDepth 100000 in
theorem kc_Ro_dropZeros (l : Launch) (D : va_G) (dA : Nat → ClassId) (Z : Nat) (a0 : Nat) (σ : z_S) (Post : Int32 → z_S → Prop) : Met l km_Ro_dropZeros ks_Ro_dropZeros kr_Ro_dropZeros (va_Pc [.ref a0] (fun U => z_U D z_cl z_KT dA Z (z_tys dA) z_nw σ U ∧ kp_Ro_dropZeros  a0 σ Post)) (z_Qi D z_cl z_KT dA Z (z_tys dA) z_nw Post) 0 0 (fun q => Z ≤ q) := by
  refine Met.ofW (cc := prog_6_method_5_code) (maxL := 3) (ret := (some .boolean)) (by decide) rfl ?_
  intro p e s m args below meth c s₁ B hml hv
  obtain ⟨rfl, ⟨hZ, hG, hK, hN⟩, hw⟩ := hv
  have hx := B.exec
  have hb := B.bytes
  have hr := B.returns
  have hts := atoms_spec (ws := ks_Ro_dropZeros) B.pre
  have hown : s.vm.findClass kR_Ro = some m.cls := findClass_of_methodNamed B.named
  have hlocks := B.notSynchronized
  have hS : va_S (fun q => Z ≤ q) s.heap s.heap [] := va_S.rf
  have hl := lv_entry ([.ref a0]) (n := 3) (Nat.le_of_ble_eq_true rfl)
  rw [lg_entry_eq]
  generalize (lg_sl ([.ref a0]) ++ List.replicate (3 - (lg_sl ([.ref a0])).length) Slot.unset).toArray = ls at hl ⊢
  have hl : lv_has ls 3 [(0, .ref a0)] := hl
  unfold kp_Ro_dropZeros at hw
  have hw := hw (fun (v1 : Int32) (v2 : Int32) (σ : z_S) => ∀ (H : Heap) (locs : List Loc) (ls : Array Slot), z_G D z_cl z_KT dA Z σ H → va_S (fun q => Z ≤ q) s.heap H locs → lv_has ls 3 [(0, .ref a0), (1, .int v1), (2, .int v2)] → W p l e (headSpec ks_Ro_dropZeros kr_Ro_dropZeros).room s m ([.ref a0] : List Value).toArray below meth c H locs 0 0 (MQ below (z_Qi D z_cl z_KT dA Z (z_tys dA) z_nw Post) ([.ref a0] : List Value).toArray s 0 0 (fun q => Z ≤ q)) (F0 m 4 ls []))
  have hw := hw (by
    intro v1 v2 σ hw H locs ls hG hS hl
    refine lv_iload_n hx hb kb_Ro_dropZeros_4 rfl (lv_at hl 2 rfl) ?_
    refine lv_aload_n hx hb kb_Ro_dropZeros_5 rfl (lv_at hl 0 rfl) ?_
    obtain ⟨hy, hw⟩ := hw
    refine zr_getI (ci := 4) (f := 402) hx hb hts ki_Ro hown hK hG hy rfl 2 (by decide) (hts _ (List.mem_cons_of_mem _ kw_189)) (fun _ h => h) rfl rfl kb_Ro_dropZeros_6 ?_
    refine lv_icmp_ge (tgt := 76) hx hb kb_Ro_dropZeros_9 (by decide) (fun hc => ?_) (fun hc => ?_)
    · have hw := hw.1 hc
      refine lv_aload_n hx hb kb_Ro_dropZeros_76 rfl (lv_at hl 0 rfl) ?_
      refine lv_iload_n hx hb kb_Ro_dropZeros_77 rfl (lv_at hl 1 rfl) ?_
      obtain ⟨hy, hw⟩ := hw
      refine zr_putI (ci := 4) (f := 402) hx hb hts ki_Ro ky_Ro kyo_Ro kn_Ro hown hK hG hS hy rfl 2 (by decide) (hts _ (List.mem_cons_of_mem _ kw_189)) (fun _ h => h) rfl rfl rfl rfl rfl kb_Ro_dropZeros_78 (fun H locs hG hS => ?_)
      obtain ⟨σ78, e78⟩ : ∃ z, z = z_sI σ 402 a0 v1 := ⟨_, rfl⟩
      rw [← e78] at hG
      have hw := hw _ e78
      refine lv_iconst (v := (1 : Int32)) hx hb kb_Ro_dropZeros_81 (by decide) ?_
      exact zr_iret (free := fun q => Z ≤ q) z_nwN hx hb hr rfl hZ hK hN hG hS hw kb_Ro_dropZeros_82 hlocks
    · have hw := hw.2 hc
      refine lv_aload_n hx hb kb_Ro_dropZeros_12 rfl (lv_at hl 0 rfl) ?_
      obtain ⟨hy, r13, hrf, hw⟩ := hw
      refine zr_getR (ci := 4) (f := 401) hx hb hts ki_Ro hown hK hG hy rfl 1 (by decide) (hts _ (List.mem_cons_of_mem _ kw_186)) (fun _ h => h) rfl rfl hrf kb_Ro_dropZeros_13 ?_
      refine lv_iload_n hx hb kb_Ro_dropZeros_16 rfl (lv_at hl 2 rfl) ?_
      obtain ⟨n17, s17, hy, hi, hw⟩ := hw
      refine zr_iald hx hb hK hG 0 hy rfl hi kb_Ro_dropZeros_17 ?_
      refine lv_if_lt (tgt := 32) hx hb kb_Ro_dropZeros_18 (by decide) (fun hc => ?_) (fun hc => ?_)
      · have hw := hw.1 hc
        refine lv_iconst (v := (0 : Int32)) hx hb kb_Ro_dropZeros_32 (by decide) ?_
        exact zr_iret (free := fun q => Z ≤ q) z_nwN hx hb hr rfl hZ hK hN hG hS hw kb_Ro_dropZeros_33 hlocks
      · have hw := hw.2 hc
        refine lv_aload_n hx hb kb_Ro_dropZeros_21 rfl (lv_at hl 0 rfl) ?_
        obtain ⟨hy, r22, hrf, hw⟩ := hw
        refine zr_getR (ci := 4) (f := 401) hx hb hts ki_Ro hown hK hG hy rfl 1 (by decide) (hts _ (List.mem_cons_of_mem _ kw_186)) (fun _ h => h) rfl rfl hrf kb_Ro_dropZeros_22 ?_
        refine lv_iload_n hx hb kb_Ro_dropZeros_25 rfl (lv_at hl 2 rfl) ?_
        obtain ⟨n26, s26, hy, hi, hw⟩ := hw
        refine zr_iald hx hb hK hG 0 hy rfl hi kb_Ro_dropZeros_26 ?_
        refine lv_bipush (v := (9 : Int32)) hx hb kb_Ro_dropZeros_27 (by decide) ?_
        refine lv_icmp_le (tgt := 34) hx hb kb_Ro_dropZeros_29 (by decide) (fun hc => ?_) (fun hc => ?_)
        · have hw := hw.1 hc
          refine lv_aload_n hx hb kb_Ro_dropZeros_34 rfl (lv_at hl 0 rfl) ?_
          obtain ⟨hy, r35, hrf, hw⟩ := hw
          refine zr_getR (ci := 4) (f := 401) hx hb hts ki_Ro hown hK hG hy rfl 1 (by decide) (hts _ (List.mem_cons_of_mem _ kw_186)) (fun _ h => h) rfl rfl hrf kb_Ro_dropZeros_35 ?_
          refine lv_iload_n hx hb kb_Ro_dropZeros_38 rfl (lv_at hl 2 rfl) ?_
          obtain ⟨n39, s39, hy, hi, hw⟩ := hw
          refine zr_iald hx hb hK hG 0 hy rfl hi kb_Ro_dropZeros_39 ?_
          refine lv_if_le (tgt := 70) hx hb kb_Ro_dropZeros_40 (by decide) (fun hc => ?_) (fun hc => ?_)
          · have hw := hw.1 hc
            refine lv_iinc (v := v2 + (1 : Int32)) (lv' := [(2, .int (v2 + (1 : Int32))), (0, .ref a0), (1, .int v1)]) hx hb kb_Ro_dropZeros_70 hl (k := 2) rfl rfl (by decide) rfl (fun ls hl => ?_)
            refine lv_goto (tgt := 4) hx hb kb_Ro_dropZeros_73 (by decide) ?_
            exact hw _ _ _ hG hS (lv_sub hl [1, 2, 0] rfl)
          · have hw := hw.2 hc
            refine lv_aload_n hx hb kb_Ro_dropZeros_43 rfl (lv_at hl 0 rfl) ?_
            obtain ⟨hy, r44, hrf, hw⟩ := hw
            refine zr_getR (ci := 4) (f := 400) hx hb hts ki_Ro hown hK hG hy rfl 0 (by decide) (hts _ (List.mem_cons_of_mem _ kw_183)) (fun _ h => h) rfl rfl hrf kb_Ro_dropZeros_44 ?_
            refine lv_iload_n hx hb kb_Ro_dropZeros_47 rfl (lv_at hl 1 rfl) ?_
            refine lv_aload_n hx hb kb_Ro_dropZeros_48 rfl (lv_at hl 0 rfl) ?_
            obtain ⟨hy, r49, hrf, hw⟩ := hw
            refine zr_getR (ci := 4) (f := 400) hx hb hts ki_Ro hown hK hG hy rfl 0 (by decide) (hts _ (List.mem_cons_of_mem _ kw_183)) (fun _ h => h) rfl rfl hrf kb_Ro_dropZeros_49 ?_
            refine lv_iload_n hx hb kb_Ro_dropZeros_52 rfl (lv_at hl 2 rfl) ?_
            obtain ⟨n53, s53, hy, hi, hw⟩ := hw
            refine zr_iald hx hb hK hG 0 hy rfl hi kb_Ro_dropZeros_53 ?_
            obtain ⟨n54, s54, hy, hi, hw⟩ := hw
            refine zr_iast hx hb hK hG hS 0 hy rfl hi kb_Ro_dropZeros_54 (fun H locs hG hS => ?_)
            obtain ⟨σ54, e54⟩ : ∃ z, z = z_sA σ s54 r44 (upd (z_A σ s54 r44) v1.toNatClampNeg (z_A σ s53 r49 v2.toNatClampNeg)) := ⟨_, rfl⟩
            rw [← e54] at hG
            have hw := hw _ e54
            refine lv_aload_n hx hb kb_Ro_dropZeros_55 rfl (lv_at hl 0 rfl) ?_
            obtain ⟨hy, r56, hrf, hw⟩ := hw
            refine zr_getR (ci := 4) (f := 401) hx hb hts ki_Ro hown hK hG hy rfl 1 (by decide) (hts _ (List.mem_cons_of_mem _ kw_186)) (fun _ h => h) rfl rfl hrf kb_Ro_dropZeros_56 ?_
            refine lv_iload_n hx hb kb_Ro_dropZeros_59 rfl (lv_at hl 1 rfl) ?_
            refine lv_aload_n hx hb kb_Ro_dropZeros_60 rfl (lv_at hl 0 rfl) ?_
            obtain ⟨hy, r61, hrf, hw⟩ := hw
            refine zr_getR (ci := 4) (f := 401) hx hb hts ki_Ro hown hK hG hy rfl 1 (by decide) (hts _ (List.mem_cons_of_mem _ kw_186)) (fun _ h => h) rfl rfl hrf kb_Ro_dropZeros_61 ?_
            refine lv_iload_n hx hb kb_Ro_dropZeros_64 rfl (lv_at hl 2 rfl) ?_
            obtain ⟨n65, s65, hy, hi, hw⟩ := hw
            refine zr_iald hx hb hK hG 0 hy rfl hi kb_Ro_dropZeros_65 ?_
            obtain ⟨n66, s66, hy, hi, hw⟩ := hw
            refine zr_iast hx hb hK hG hS 0 hy rfl hi kb_Ro_dropZeros_66 (fun H locs hG hS => ?_)
            obtain ⟨σ66, e66⟩ : ∃ z, z = z_sA σ54 s66 r56 (upd (z_A σ54 s66 r56) v1.toNatClampNeg (z_A σ54 s65 r61 v2.toNatClampNeg)) := ⟨_, rfl⟩
            rw [← e66] at hG
            have hw := hw _ e66
            refine lv_iinc (v := v1 + (1 : Int32)) (lv' := [(1, .int (v1 + (1 : Int32))), (0, .ref a0), (2, .int v2)]) hx hb kb_Ro_dropZeros_67 hl (k := 1) rfl rfl (by decide) rfl (fun ls hl => ?_)
            refine lv_iinc (v := v2 + (1 : Int32)) (lv' := [(2, .int (v2 + (1 : Int32))), (1, .int (v1 + (1 : Int32))), (0, .ref a0)]) hx hb kb_Ro_dropZeros_70 hl (k := 2) rfl rfl (by decide) rfl (fun ls hl => ?_)
            refine lv_goto (tgt := 4) hx hb kb_Ro_dropZeros_73 (by decide) ?_
            exact hw _ _ _ hG hS (lv_sub hl [2, 1, 0] rfl)
        · have hw := hw.2 hc
          refine lv_iconst (v := (0 : Int32)) hx hb kb_Ro_dropZeros_32 (by decide) ?_
          exact zr_iret (free := fun q => Z ≤ q) z_nwN hx hb hr rfl hZ hK hN hG hS hw kb_Ro_dropZeros_33 hlocks)
  refine lv_iconst (v := (0 : Int32)) hx hb kb_Ro_dropZeros_0 (by decide) ?_
  refine lv_istore_n (lv' := [(1, .int ((0 : Int32))), (0, .ref a0)]) hx hb kb_Ro_dropZeros_1 rfl hl (by decide) rfl (fun ls hl => ?_)
  refine lv_iconst (v := (0 : Int32)) hx hb kb_Ro_dropZeros_2 (by decide) ?_
  refine lv_istore_n (lv' := [(2, .int ((0 : Int32))), (1, .int ((0 : Int32))), (0, .ref a0)]) hx hb kb_Ro_dropZeros_3 rfl hl (by decide) rfl (fun ls hl => ?_)
  exact hw _ _ _ hG hS (lv_sub hl [2, 1, 0] rfl)
def kp_Ro_copy (a0 : Nat) (b1 : Nat) (σ : z_S) (Post : z_S → Prop) : Prop := ∀ (X10 : Int32 → z_S → Prop),
    (∀ (v2 : Int32) (σ : z_S), (z_ty σ a0 = some (.inl 4) ∧ (((z_I σ 402 a0) ≤ v2 → Post σ) ∧ (¬ (z_I σ 402 a0) ≤ v2 → z_ty σ a0 = some (.inl 4) ∧ ∃ r19, z_R σ 400 a0 = some r19 ∧ (z_ty σ b1 = some (.inl 4) ∧ ∃ r24, z_R σ 400 b1 = some r24 ∧ (∃ n28 s28, z_ty σ r24 = some (.inr (0, n28, s28)) ∧ vp_in v2 n28 ∧ (∃ n29 s29, z_ty σ r19 = some (.inr (0, n29, s29)) ∧ vp_in v2 n29 ∧ ∀ σ29, σ29 = z_sA σ s29 r19 (upd (z_A σ s29 r19) v2.toNatClampNeg (z_A σ s28 r24 v2.toNatClampNeg)) → z_ty σ29 a0 = some (.inl 4) ∧ ∃ r31, z_R σ29 401 a0 = some r31 ∧ (z_ty σ29 b1 = some (.inl 4) ∧ ∃ r36, z_R σ29 401 b1 = some r36 ∧ (∃ n40 s40, z_ty σ29 r36 = some (.inr (0, n40, s40)) ∧ vp_in v2 n40 ∧ (∃ n41 s41, z_ty σ29 r31 = some (.inr (0, n41, s41)) ∧ vp_in v2 n41 ∧ ∀ σ41, σ41 = z_sA σ29 s41 r31 (upd (z_A σ29 s41 r31) v2.toNatClampNeg (z_A σ29 s40 r36 v2.toNatClampNeg)) → X10 (v2 + (1 : Int32)) σ41))))))))) → X10 v2 σ) →
    (z_ty σ b1 = some (.inl 4) ∧ (z_ty σ a0 = some (.inl 4) ∧ ∀ σ5, σ5 = z_sI σ 402 a0 (z_I σ 402 b1) → X10 ((0 : Int32)) σ5))
set_option maxHeartbeats 4000000 in
set_option maxRecDepth 100000 in
theorem kc_Ro_copy (l : Launch) (D : va_G) (dA : Nat → ClassId) (Z : Nat) (a0 : Nat) (b1 : Nat) (σ : z_S) (Post : z_S → Prop) : Met l km_Ro_copy ks_Ro_copy kr_Ro_copy (va_Pc [.ref a0, .ref b1] (fun U => z_U D z_cl z_KT dA Z (z_tys dA) z_nw σ U ∧ kp_Ro_copy  a0 b1 σ Post)) (z_Qv D z_cl z_KT dA Z (z_tys dA) z_nw Post) 0 0 (fun q => Z ≤ q) := by
  refine Met.ofW (cc := prog_6_method_6_code) (maxL := 3) (ret := none) (by decide) rfl ?_
  intro p e s m args below meth c s₁ B hml hv
  obtain ⟨rfl, ⟨hZ, hG, hK, hN⟩, hw⟩ := hv
  have hx := B.exec
  have hb := B.bytes
  have hr := B.returns
  have hts := atoms_spec (ws := ks_Ro_copy) B.pre
  have hown : s.vm.findClass kR_Ro = some m.cls := findClass_of_methodNamed B.named
  have hlocks := B.notSynchronized
  have hS : va_S (fun q => Z ≤ q) s.heap s.heap [] := va_S.rf
  have hl := lv_entry ([.ref a0, .ref b1]) (n := 3) (Nat.le_of_ble_eq_true rfl)
  rw [lg_entry_eq]
  generalize (lg_sl ([.ref a0, .ref b1]) ++ List.replicate (3 - (lg_sl ([.ref a0, .ref b1])).length) Slot.unset).toArray = ls at hl ⊢
  have hl : lv_has ls 3 [(0, .ref a0), (1, .ref b1)] := hl
  unfold kp_Ro_copy at hw
  have hw := hw (fun (v2 : Int32) (σ : z_S) => ∀ (H : Heap) (locs : List Loc) (ls : Array Slot), z_G D z_cl z_KT dA Z σ H → va_S (fun q => Z ≤ q) s.heap H locs → lv_has ls 3 [(0, .ref a0), (1, .ref b1), (2, .int v2)] → W p l e (headSpec ks_Ro_copy kr_Ro_copy).room s m ([.ref a0, .ref b1] : List Value).toArray below meth c H locs 0 0 (MQ below (z_Qv D z_cl z_KT dA Z (z_tys dA) z_nw Post) ([.ref a0, .ref b1] : List Value).toArray s 0 0 (fun q => Z ≤ q)) (F0 m 10 ls []))
  have hw := hw (by
    intro v2 σ hw H locs ls hG hS hl
    refine lv_iload_n hx hb kb_Ro_copy_10 rfl (lv_at hl 2 rfl) ?_
    refine lv_aload_n hx hb kb_Ro_copy_11 rfl (lv_at hl 0 rfl) ?_
    obtain ⟨hy, hw⟩ := hw
    refine zr_getI (ci := 4) (f := 402) hx hb hts ki_Ro hown hK hG hy rfl 2 (by decide) (hts _ (List.mem_cons_of_mem _ kw_189)) (fun _ h => h) rfl rfl kb_Ro_copy_12 ?_
    refine lv_icmp_ge (tgt := 48) hx hb kb_Ro_copy_15 (by decide) (fun hc => ?_) (fun hc => ?_)
    · have hw := hw.1 hc
      exact zr_vret z_nwN hx hb hr hZ hK hN hG hS hw kb_Ro_copy_48 hlocks
    · have hw := hw.2 hc
      refine lv_aload_n hx hb kb_Ro_copy_18 rfl (lv_at hl 0 rfl) ?_
      obtain ⟨hy, r19, hrf, hw⟩ := hw
      refine zr_getR (ci := 4) (f := 400) hx hb hts ki_Ro hown hK hG hy rfl 0 (by decide) (hts _ (List.mem_cons_of_mem _ kw_183)) (fun _ h => h) rfl rfl hrf kb_Ro_copy_19 ?_
      refine lv_iload_n hx hb kb_Ro_copy_22 rfl (lv_at hl 2 rfl) ?_
      refine lv_aload_n hx hb kb_Ro_copy_23 rfl (lv_at hl 1 rfl) ?_
      obtain ⟨hy, r24, hrf, hw⟩ := hw
      refine zr_getR (ci := 4) (f := 400) hx hb hts ki_Ro hown hK hG hy rfl 0 (by decide) (hts _ (List.mem_cons_of_mem _ kw_183)) (fun _ h => h) rfl rfl hrf kb_Ro_copy_24 ?_
      refine lv_iload_n hx hb kb_Ro_copy_27 rfl (lv_at hl 2 rfl) ?_
      obtain ⟨n28, s28, hy, hi, hw⟩ := hw
      refine zr_iald hx hb hK hG 0 hy rfl hi kb_Ro_copy_28 ?_
      obtain ⟨n29, s29, hy, hi, hw⟩ := hw
      refine zr_iast hx hb hK hG hS 0 hy rfl hi kb_Ro_copy_29 (fun H locs hG hS => ?_)
      obtain ⟨σ29, e29⟩ : ∃ z, z = z_sA σ s29 r19 (upd (z_A σ s29 r19) v2.toNatClampNeg (z_A σ s28 r24 v2.toNatClampNeg)) := ⟨_, rfl⟩
      rw [← e29] at hG
      have hw := hw _ e29
      refine lv_aload_n hx hb kb_Ro_copy_30 rfl (lv_at hl 0 rfl) ?_
      obtain ⟨hy, r31, hrf, hw⟩ := hw
      refine zr_getR (ci := 4) (f := 401) hx hb hts ki_Ro hown hK hG hy rfl 1 (by decide) (hts _ (List.mem_cons_of_mem _ kw_186)) (fun _ h => h) rfl rfl hrf kb_Ro_copy_31 ?_
      refine lv_iload_n hx hb kb_Ro_copy_34 rfl (lv_at hl 2 rfl) ?_
      refine lv_aload_n hx hb kb_Ro_copy_35 rfl (lv_at hl 1 rfl) ?_
      obtain ⟨hy, r36, hrf, hw⟩ := hw
      refine zr_getR (ci := 4) (f := 401) hx hb hts ki_Ro hown hK hG hy rfl 1 (by decide) (hts _ (List.mem_cons_of_mem _ kw_186)) (fun _ h => h) rfl rfl hrf kb_Ro_copy_36 ?_
      refine lv_iload_n hx hb kb_Ro_copy_39 rfl (lv_at hl 2 rfl) ?_
      obtain ⟨n40, s40, hy, hi, hw⟩ := hw
      refine zr_iald hx hb hK hG 0 hy rfl hi kb_Ro_copy_40 ?_
      obtain ⟨n41, s41, hy, hi, hw⟩ := hw
      refine zr_iast hx hb hK hG hS 0 hy rfl hi kb_Ro_copy_41 (fun H locs hG hS => ?_)
      obtain ⟨σ41, e41⟩ : ∃ z, z = z_sA σ29 s41 r31 (upd (z_A σ29 s41 r31) v2.toNatClampNeg (z_A σ29 s40 r36 v2.toNatClampNeg)) := ⟨_, rfl⟩
      rw [← e41] at hG
      have hw := hw _ e41
      refine lv_iinc (v := v2 + (1 : Int32)) (lv' := [(2, .int (v2 + (1 : Int32))), (0, .ref a0), (1, .ref b1)]) hx hb kb_Ro_copy_42 hl (k := 2) rfl rfl (by decide) rfl (fun ls hl => ?_)
      refine lv_goto (tgt := 10) hx hb kb_Ro_copy_45 (by decide) ?_
      exact hw _ _ _ hG hS (lv_sub hl [1, 2, 0] rfl))
  refine lv_aload_n hx hb kb_Ro_copy_0 rfl (lv_at hl 0 rfl) ?_
  refine lv_aload_n hx hb kb_Ro_copy_1 rfl (lv_at hl 1 rfl) ?_
  obtain ⟨hy, hw⟩ := hw
  refine zr_getI (ci := 4) (f := 402) hx hb hts ki_Ro hown hK hG hy rfl 2 (by decide) (hts _ (List.mem_cons_of_mem _ kw_189)) (fun _ h => h) rfl rfl kb_Ro_copy_2 ?_
  obtain ⟨hy, hw⟩ := hw
  refine zr_putI (ci := 4) (f := 402) hx hb hts ki_Ro ky_Ro kyo_Ro kn_Ro hown hK hG hS hy rfl 2 (by decide) (hts _ (List.mem_cons_of_mem _ kw_189)) (fun _ h => h) rfl rfl rfl rfl rfl kb_Ro_copy_5 (fun H locs hG hS => ?_)
  obtain ⟨σ5, e5⟩ : ∃ z, z = z_sI σ 402 a0 (z_I σ 402 b1) := ⟨_, rfl⟩
  rw [← e5] at hG
  have hw := hw _ e5
  refine lv_iconst (v := (0 : Int32)) hx hb kb_Ro_copy_8 (by decide) ?_
  refine lv_istore_n (lv' := [(2, .int ((0 : Int32))), (0, .ref a0), (1, .ref b1)]) hx hb kb_Ro_copy_9 rfl hl (by decide) rfl (fun ls hl => ?_)
  exact hw _ _ _ hG hS (lv_sub hl [1, 2, 0] rfl)
def kp_Ro_isSame (a0 : Nat) (b1 : Nat) (σ : z_S) (Post : Int32 → z_S → Prop) : Prop := ∀ (X15 : Int32 → z_S → Prop),
    (∀ (v2 : Int32) (σ : z_S), (z_ty σ a0 = some (.inl 4) ∧ (((z_I σ 402 a0) ≤ v2 → Post ((1 : Int32)) σ) ∧ (¬ (z_I σ 402 a0) ≤ v2 → z_ty σ a0 = some (.inl 4) ∧ ∃ r24, z_R σ 400 a0 = some r24 ∧ (∃ n28 s28, z_ty σ r24 = some (.inr (0, n28, s28)) ∧ vp_in v2 n28 ∧ (z_ty σ b1 = some (.inl 4) ∧ ∃ r30, z_R σ 400 b1 = some r30 ∧ (∃ n34 s34, z_ty σ r30 = some (.inr (0, n34, s34)) ∧ vp_in v2 n34 ∧ (((z_A σ s28 r24 v2.toNatClampNeg) = (z_A σ s34 r30 v2.toNatClampNeg) → X15 (v2 + (1 : Int32)) σ) ∧ (¬ (z_A σ s28 r24 v2.toNatClampNeg) = (z_A σ s34 r30 v2.toNatClampNeg) → Post ((0 : Int32)) σ)))))))) → X15 v2 σ) →
    (z_ty σ a0 = some (.inl 4) ∧ (z_ty σ b1 = some (.inl 4) ∧ (((z_I σ 402 a0) = (z_I σ 402 b1) → X15 ((0 : Int32)) σ) ∧ (¬ (z_I σ 402 a0) = (z_I σ 402 b1) → Post ((0 : Int32)) σ))))
set_option maxHeartbeats 4000000 in
set_option maxRecDepth 100000 in
theorem kc_Ro_isSame (l : Launch) (D : va_G) (dA : Nat → ClassId) (Z : Nat) (a0 : Nat) (b1 : Nat) (σ : z_S) (Post : Int32 → z_S → Prop) : Met l km_Ro_isSame ks_Ro_isSame kr_Ro_isSame (va_Pc [.ref a0, .ref b1] (fun U => z_U D z_cl z_KT dA Z (z_tys dA) z_nw σ U ∧ kp_Ro_isSame  a0 b1 σ Post)) (z_Qi D z_cl z_KT dA Z (z_tys dA) z_nw Post) 0 0 (fun q => Z ≤ q) := by
  refine Met.ofW (cc := prog_6_method_7_code) (maxL := 3) (ret := (some .boolean)) (by decide) rfl ?_
  intro p e s m args below meth c s₁ B hml hv
  obtain ⟨rfl, ⟨hZ, hG, hK, hN⟩, hw⟩ := hv
  have hx := B.exec
  have hb := B.bytes
  have hr := B.returns
  have hts := atoms_spec (ws := ks_Ro_isSame) B.pre
  have hown : s.vm.findClass kR_Ro = some m.cls := findClass_of_methodNamed B.named
  have hlocks := B.notSynchronized
  have hS : va_S (fun q => Z ≤ q) s.heap s.heap [] := va_S.rf
  have hl := lv_entry ([.ref a0, .ref b1]) (n := 3) (Nat.le_of_ble_eq_true rfl)
  rw [lg_entry_eq]
  generalize (lg_sl ([.ref a0, .ref b1]) ++ List.replicate (3 - (lg_sl ([.ref a0, .ref b1])).length) Slot.unset).toArray = ls at hl ⊢
  have hl : lv_has ls 3 [(0, .ref a0), (1, .ref b1)] := hl
  unfold kp_Ro_isSame at hw
  have hw := hw (fun (v2 : Int32) (σ : z_S) => ∀ (H : Heap) (locs : List Loc) (ls : Array Slot), z_G D z_cl z_KT dA Z σ H → va_S (fun q => Z ≤ q) s.heap H locs → lv_has ls 3 [(0, .ref a0), (1, .ref b1), (2, .int v2)] → W p l e (headSpec ks_Ro_isSame kr_Ro_isSame).room s m ([.ref a0, .ref b1] : List Value).toArray below meth c H locs 0 0 (MQ below (z_Qi D z_cl z_KT dA Z (z_tys dA) z_nw Post) ([.ref a0, .ref b1] : List Value).toArray s 0 0 (fun q => Z ≤ q)) (F0 m 15 ls []))
  have hw := hw (by
    intro v2 σ hw H locs ls hG hS hl
    refine lv_iload_n hx hb kb_Ro_isSame_15 rfl (lv_at hl 2 rfl) ?_
    refine lv_aload_n hx hb kb_Ro_isSame_16 rfl (lv_at hl 0 rfl) ?_
    obtain ⟨hy, hw⟩ := hw
    refine zr_getI (ci := 4) (f := 402) hx hb hts ki_Ro hown hK hG hy rfl 2 (by decide) (hts _ (List.mem_cons_of_mem _ kw_189)) (fun _ h => h) rfl rfl kb_Ro_isSame_17 ?_
    refine lv_icmp_ge (tgt := 46) hx hb kb_Ro_isSame_20 (by decide) (fun hc => ?_) (fun hc => ?_)
    · have hw := hw.1 hc
      refine lv_iconst (v := (1 : Int32)) hx hb kb_Ro_isSame_46 (by decide) ?_
      exact zr_iret (free := fun q => Z ≤ q) z_nwN hx hb hr rfl hZ hK hN hG hS hw kb_Ro_isSame_47 hlocks
    · have hw := hw.2 hc
      refine lv_aload_n hx hb kb_Ro_isSame_23 rfl (lv_at hl 0 rfl) ?_
      obtain ⟨hy, r24, hrf, hw⟩ := hw
      refine zr_getR (ci := 4) (f := 400) hx hb hts ki_Ro hown hK hG hy rfl 0 (by decide) (hts _ (List.mem_cons_of_mem _ kw_183)) (fun _ h => h) rfl rfl hrf kb_Ro_isSame_24 ?_
      refine lv_iload_n hx hb kb_Ro_isSame_27 rfl (lv_at hl 2 rfl) ?_
      obtain ⟨n28, s28, hy, hi, hw⟩ := hw
      refine zr_iald hx hb hK hG 0 hy rfl hi kb_Ro_isSame_28 ?_
      refine lv_aload_n hx hb kb_Ro_isSame_29 rfl (lv_at hl 1 rfl) ?_
      obtain ⟨hy, r30, hrf, hw⟩ := hw
      refine zr_getR (ci := 4) (f := 400) hx hb hts ki_Ro hown hK hG hy rfl 0 (by decide) (hts _ (List.mem_cons_of_mem _ kw_183)) (fun _ h => h) rfl rfl hrf kb_Ro_isSame_30 ?_
      refine lv_iload_n hx hb kb_Ro_isSame_33 rfl (lv_at hl 2 rfl) ?_
      obtain ⟨n34, s34, hy, hi, hw⟩ := hw
      refine zr_iald hx hb hK hG 0 hy rfl hi kb_Ro_isSame_34 ?_
      refine lv_icmp_eq (tgt := 40) hx hb kb_Ro_isSame_35 (by decide) (fun hc => ?_) (fun hc => ?_)
      · have hw := hw.1 hc
        refine lv_iinc (v := v2 + (1 : Int32)) (lv' := [(2, .int (v2 + (1 : Int32))), (0, .ref a0), (1, .ref b1)]) hx hb kb_Ro_isSame_40 hl (k := 2) rfl rfl (by decide) rfl (fun ls hl => ?_)
        refine lv_goto (tgt := 15) hx hb kb_Ro_isSame_43 (by decide) ?_
        exact hw _ _ _ hG hS (lv_sub hl [1, 2, 0] rfl)
      · have hw := hw.2 hc
        refine lv_iconst (v := (0 : Int32)) hx hb kb_Ro_isSame_38 (by decide) ?_
        exact zr_iret (free := fun q => Z ≤ q) z_nwN hx hb hr rfl hZ hK hN hG hS hw kb_Ro_isSame_39 hlocks)
  refine lv_aload_n hx hb kb_Ro_isSame_0 rfl (lv_at hl 0 rfl) ?_
  obtain ⟨hy, hw⟩ := hw
  refine zr_getI (ci := 4) (f := 402) hx hb hts ki_Ro hown hK hG hy rfl 2 (by decide) (hts _ (List.mem_cons_of_mem _ kw_189)) (fun _ h => h) rfl rfl kb_Ro_isSame_1 ?_
  refine lv_aload_n hx hb kb_Ro_isSame_4 rfl (lv_at hl 1 rfl) ?_
  obtain ⟨hy, hw⟩ := hw
  refine zr_getI (ci := 4) (f := 402) hx hb hts ki_Ro hown hK hG hy rfl 2 (by decide) (hts _ (List.mem_cons_of_mem _ kw_189)) (fun _ h => h) rfl rfl kb_Ro_isSame_5 ?_
  refine lv_icmp_eq (tgt := 13) hx hb kb_Ro_isSame_8 (by decide) (fun hc => ?_) (fun hc => ?_)
  · have hw := hw.1 hc
    refine lv_iconst (v := (0 : Int32)) hx hb kb_Ro_isSame_13 (by decide) ?_
    refine lv_istore_n (lv' := [(2, .int ((0 : Int32))), (0, .ref a0), (1, .ref b1)]) hx hb kb_Ro_isSame_14 rfl hl (by decide) rfl (fun ls hl => ?_)
    exact hw _ _ _ hG hS (lv_sub hl [1, 2, 0] rfl)
  · have hw := hw.2 hc
    refine lv_iconst (v := (0 : Int32)) hx hb kb_Ro_isSame_11 (by decide) ?_
    exact zr_iret (free := fun q => Z ≤ q) z_nwN hx hb hr rfl hZ hK hN hG hS hw kb_Ro_isSame_12 hlocks
def kp_Si_init (a0 : Nat) (x1 : Int32) (σ : z_S) (Post : z_S → Prop) : Prop :=     ((¬ (if ((0 : Int32)) < x1 then x1 else ((0 : Int32))) < 0) ∧ (if ((0 : Int32)) < x1 then x1 else ((0 : Int32))).toNatClampNeg ≤ 640 ∧ ∀ q12, z_ty σ q12 = none → ∀ σ12, σ12 = z_arr σ q12 0 ((if ((0 : Int32)) < x1 then x1 else ((0 : Int32))).toNatClampNeg) 15 → z_ty σ12 a0 = some (.inl 6) ∧ ∀ σ14, σ14 = z_sR σ12 600 a0 (some q12) → (¬ (if ((0 : Int32)) < x1 then x1 else ((0 : Int32))) < 0) ∧ (if ((0 : Int32)) < x1 then x1 else ((0 : Int32))).toNatClampNeg ≤ 640 ∧ ∀ q19, z_ty σ14 q19 = none → ∀ σ19, σ19 = z_arr σ14 q19 0 ((if ((0 : Int32)) < x1 then x1 else ((0 : Int32))).toNatClampNeg) 16 → z_ty σ19 a0 = some (.inl 6) ∧ ∀ σ21, σ21 = z_sR σ19 601 a0 (some q19) → (¬ (if ((0 : Int32)) < x1 then x1 else ((0 : Int32))) < 0) ∧ (if ((0 : Int32)) < x1 then x1 else ((0 : Int32))).toNatClampNeg ≤ 640 ∧ ∀ q26, z_ty σ21 q26 = none → ∀ σ26, σ26 = z_arr σ21 q26 0 ((if ((0 : Int32)) < x1 then x1 else ((0 : Int32))).toNatClampNeg) 17 → z_ty σ26 a0 = some (.inl 6) ∧ ∀ σ28, σ28 = z_sR σ26 602 a0 (some q26) → Post σ28)
set_option maxHeartbeats 4000000 in
set_option maxRecDepth 100000 in
theorem kc_Si_init (l : Launch) (D : va_G) (dA : Nat → ClassId) (Z : Nat) (a0 : Nat) (x1 : Int32) (σ : z_S) (Post : z_S → Prop) : Met l km_Si_init ks_Si_init kr_Si_init (va_Pc [.ref a0, .int x1] (fun U => z_U D z_cl z_KT dA Z (z_tys dA) z_nw σ U ∧ kp_Si_init  a0 x1 σ Post)) (z_Qv D z_cl z_KT dA Z (z_tys dA) z_nw Post) 3 1920 (fun q => Z ≤ q) := by
  refine Met.ofW (cc := prog_8_method_1_code) (maxL := 3) (ret := none) (by decide) rfl ?_
  intro p e s m args below meth c s₁ B hml hv
  obtain ⟨rfl, ⟨hZ, hG, hK, hN⟩, hw⟩ := hv
  have hx := B.exec
  have hb := B.bytes
  have hr := B.returns
  have hts := atoms_spec (ws := ks_Si_init) B.pre
  have hown : s.vm.findClass kR_Si = some m.cls := findClass_of_methodNamed B.named
  have hlocks := B.notSynchronized
  have hin : meth.name = "<init>" := (name_of_methodNamed B.named B.method).1
  have hS : va_S (fun q => Z ≤ q) s.heap s.heap [] := va_S.rf
  have hl := lv_entry ([.ref a0, .int x1]) (n := 3) (Nat.le_of_ble_eq_true rfl)
  rw [lg_entry_eq]
  generalize (lg_sl ([.ref a0, .int x1]) ++ List.replicate (3 - (lg_sl ([.ref a0, .int x1])).length) Slot.unset).toArray = ls at hl ⊢
  have hl : lv_has ls 3 [(0, .ref a0), (1, .int x1)] := hl
  unfold kp_Si_init at hw
  refine lv_aload_n hx hb kb_Si_init_0 rfl (lv_at hl 0 rfl) ?_
  refine W.objInit hx hb hown (hts _ (List.mem_cons_of_mem _ kw_71)) (hts _ (List.mem_cons_of_mem _ kw_17)) (hts _ (List.mem_cons_of_mem _ kw_18)) rfl (by rw [hml]; exact hl.1) rfl kb_Si_init_1 (Nat.le_of_ble_eq_true rfl) (Nat.le_of_ble_eq_true rfl) ?_
  refine W.eq (g2 := F0 m 4 ls []) rfl ?_
  refine lv_iconst (v := (0 : Int32)) hx hb kb_Si_init_4 (by decide) ?_
  refine lv_iload_n hx hb kb_Si_init_5 rfl (lv_at hl 1 rfl) ?_
  refine va_mmax hx hb (by rw [hml, hl.1]) hown (hts _ (List.mem_cons_of_mem _ kw_72)) (hts _ (List.mem_cons_of_mem _ kw_73)) (hts _ (List.mem_cons_of_mem _ kw_4)) (hts _ (List.mem_cons_of_mem _ kw_74)) (Nat.le_of_ble_eq_true rfl) (Nat.le_of_ble_eq_true rfl) (Nat.le_of_ble_eq_true rfl) (Nat.le_of_ble_eq_true rfl) kb_Si_init_6 ?_
  refine lv_istore_n (lv' := [(2, .int (if ((0 : Int32)) < x1 then x1 else ((0 : Int32)))), (0, .ref a0), (1, .int x1)]) hx hb kb_Si_init_9 rfl hl (by decide) rfl (fun ls hl => ?_)
  refine lv_aload_n hx hb kb_Si_init_10 rfl (lv_at hl 1 rfl) ?_
  refine lv_iload_n hx hb kb_Si_init_11 rfl (lv_at hl 0 rfl) ?_
  obtain ⟨hz, hzb, hw⟩ := hw
  refine zr_newa (atype := .int) (ty := .int) (N' := (if ((0 : Int32)) < x1 then x1 else ((0 : Int32))).toNatClampNeg) hx hb (hts _ (List.mem_cons_of_mem _ kw_64)) rfl hK hG hS hZ 0 0 15 (by decide) rfl (fun _ _ h1 h2 => z_RA_int h1 h2) rfl hz rfl (by show _ * _ ≤ _; simp only [componentBytes]; omega) (Nat.le_of_ble_eq_true rfl) (by show 0 + _ ≤ 1920; omega) kb_Si_init_12 (fun q12 H hq hG hS => ?_)
  refine W.widen (k := 1) (n := 640) (Nat.le_refl _) (by omega) ?_
  obtain ⟨σ12, e12⟩ : ∃ z, z = z_arr σ q12 0 ((if ((0 : Int32)) < x1 then x1 else ((0 : Int32))).toNatClampNeg) 15 := ⟨_, rfl⟩
  rw [← e12] at hG
  have hw := hw q12 hq _ e12
  obtain ⟨hy, hw⟩ := hw
  refine zr_putRF (ci := 6) (f := 600) hx hb hts ki_Si ky_Si kyo_Si kn_Si hown hK hG hS hy rfl 0 (by decide) (hts _ (List.mem_cons_of_mem _ kw_75)) (fun _ h => h) rfl hin rfl rfl rfl rfl rfl kb_Si_init_14 (fun H locs hG hS => ?_)
  obtain ⟨σ14, e14⟩ : ∃ z, z = z_sR σ12 600 a0 (some q12) := ⟨_, rfl⟩
  rw [← e14] at hG
  have hw := hw _ e14
  refine lv_aload_n hx hb kb_Si_init_17 rfl (lv_at hl 1 rfl) ?_
  refine lv_iload_n hx hb kb_Si_init_18 rfl (lv_at hl 0 rfl) ?_
  obtain ⟨hz, hzb, hw⟩ := hw
  refine zr_newa (atype := .int) (ty := .int) (N' := (if ((0 : Int32)) < x1 then x1 else ((0 : Int32))).toNatClampNeg) hx hb (hts _ (List.mem_cons_of_mem _ kw_64)) rfl hK hG hS hZ 0 0 16 (by decide) rfl (fun _ _ h1 h2 => z_RA_int h1 h2) rfl hz rfl (by show _ * _ ≤ _; simp only [componentBytes]; omega) (Nat.le_of_ble_eq_true rfl) (by show 640 + _ ≤ 1920; omega) kb_Si_init_19 (fun q19 H hq hG hS => ?_)
  refine W.widen (k := 2) (n := 1280) (Nat.le_refl _) (by omega) ?_
  obtain ⟨σ19, e19⟩ : ∃ z, z = z_arr σ14 q19 0 ((if ((0 : Int32)) < x1 then x1 else ((0 : Int32))).toNatClampNeg) 16 := ⟨_, rfl⟩
  rw [← e19] at hG
  have hw := hw q19 hq _ e19
  obtain ⟨hy, hw⟩ := hw
  refine zr_putRF (ci := 6) (f := 601) hx hb hts ki_Si ky_Si kyo_Si kn_Si hown hK hG hS hy rfl 1 (by decide) (hts _ (List.mem_cons_of_mem _ kw_77)) (fun _ h => h) rfl hin rfl rfl rfl rfl rfl kb_Si_init_21 (fun H locs hG hS => ?_)
  obtain ⟨σ21, e21⟩ : ∃ z, z = z_sR σ19 601 a0 (some q19) := ⟨_, rfl⟩
  rw [← e21] at hG
  have hw := hw _ e21
  refine lv_aload_n hx hb kb_Si_init_24 rfl (lv_at hl 1 rfl) ?_
  refine lv_iload_n hx hb kb_Si_init_25 rfl (lv_at hl 0 rfl) ?_
  obtain ⟨hz, hzb, hw⟩ := hw
  refine zr_newa (atype := .int) (ty := .int) (N' := (if ((0 : Int32)) < x1 then x1 else ((0 : Int32))).toNatClampNeg) hx hb (hts _ (List.mem_cons_of_mem _ kw_64)) rfl hK hG hS hZ 0 0 17 (by decide) rfl (fun _ _ h1 h2 => z_RA_int h1 h2) rfl hz rfl (by show _ * _ ≤ _; simp only [componentBytes]; omega) (Nat.le_of_ble_eq_true rfl) (by show 1280 + _ ≤ 1920; omega) kb_Si_init_26 (fun q26 H hq hG hS => ?_)
  refine W.widen (k := 3) (n := 1920) (Nat.le_refl _) (by omega) ?_
  obtain ⟨σ26, e26⟩ : ∃ z, z = z_arr σ21 q26 0 ((if ((0 : Int32)) < x1 then x1 else ((0 : Int32))).toNatClampNeg) 17 := ⟨_, rfl⟩
  rw [← e26] at hG
  have hw := hw q26 hq _ e26
  obtain ⟨hy, hw⟩ := hw
  refine zr_putRF (ci := 6) (f := 602) hx hb hts ki_Si ky_Si kyo_Si kn_Si hown hK hG hS hy rfl 2 (by decide) (hts _ (List.mem_cons_of_mem _ kw_79)) (fun _ h => h) rfl hin rfl rfl rfl rfl rfl kb_Si_init_28 (fun H locs hG hS => ?_)
  obtain ⟨σ28, e28⟩ : ∃ z, z = z_sR σ26 602 a0 (some q26) := ⟨_, rfl⟩
  rw [← e28] at hG
  have hw := hw _ e28
  refine W.widen (k := 3) (n := 1920) (Nat.le_of_ble_eq_true rfl) (Nat.le_of_ble_eq_true rfl) ?_
  exact zr_vret z_nwN hx hb hr hZ hK hN hG hS hw kb_Si_init_31 hlocks
def kp_Si_append (a0 : Nat) (x1 : Int32) (x2 : Int32) (x3 : Int32) (σ : z_S) (Post : z_S → Prop) : Prop :=     (z_ty σ a0 = some (.inl 6) ∧ (z_ty σ a0 = some (.inl 6) ∧ ∃ r5, z_R σ 601 a0 = some r5 ∧ (∃ n8 s8, z_ty σ r5 = some (.inr (0, n8, s8)) ∧ (((z_I σ 603 a0) < (nI n8) → z_ty σ a0 = some (.inl 6) ∧ ∃ r14, z_R σ 600 a0 = some r14 ∧ (z_ty σ a0 = some (.inl 6) ∧ (∃ n22 s22, z_ty σ r14 = some (.inr (0, n22, s22)) ∧ vp_in (z_I σ 603 a0) n22 ∧ ∀ σ22, σ22 = z_sA σ s22 r14 (upd (z_A σ s22 r14) (z_I σ 603 a0).toNatClampNeg x1) → z_ty σ22 a0 = some (.inl 6) ∧ ∃ r24, z_R σ22 601 a0 = some r24 ∧ (z_ty σ22 a0 = some (.inl 6) ∧ (∃ n32 s32, z_ty σ22 r24 = some (.inr (0, n32, s32)) ∧ vp_in (z_I σ22 603 a0) n32 ∧ ∀ σ32, σ32 = z_sA σ22 s32 r24 (upd (z_A σ22 s32 r24) (z_I σ22 603 a0).toNatClampNeg x2) → z_ty σ32 a0 = some (.inl 6) ∧ ∃ r34, z_R σ32 602 a0 = some r34 ∧ (z_ty σ32 a0 = some (.inl 6) ∧ (∃ n42 s42, z_ty σ32 r34 = some (.inr (0, n42, s42)) ∧ vp_in (z_I σ32 603 a0) n42 ∧ ∀ σ42, σ42 = z_sA σ32 s42 r34 (upd (z_A σ32 s42 r34) (z_I σ32 603 a0).toNatClampNeg x3) → z_ty σ42 a0 = some (.inl 6) ∧ (z_ty σ42 a0 = some (.inl 6) ∧ ∀ σ50, σ50 = z_sI σ42 603 a0 ((z_I σ42 603 a0) + ((1 : Int32))) → Post σ50)))))))) ∧ (¬ (z_I σ 603 a0) < (nI n8) → Post σ)))))
set_option maxHeartbeats 4000000 in
set_option maxRecDepth 100000 in
theorem kc_Si_append (l : Launch) (D : va_G) (dA : Nat → ClassId) (Z : Nat) (a0 : Nat) (x1 : Int32) (x2 : Int32) (x3 : Int32) (σ : z_S) (Post : z_S → Prop) : Met l km_Si_append ks_Si_append kr_Si_append (va_Pc [.ref a0, .int x1, .int x2, .int x3] (fun U => z_U D z_cl z_KT dA Z (z_tys dA) z_nw σ U ∧ kp_Si_append  a0 x1 x2 x3 σ Post)) (z_Qv D z_cl z_KT dA Z (z_tys dA) z_nw Post) 0 0 (fun q => Z ≤ q) := by
  refine Met.ofW (cc := prog_8_method_2_code) (maxL := 4) (ret := none) (by decide) rfl ?_
  intro p e s m args below meth c s₁ B hml hv
  obtain ⟨rfl, ⟨hZ, hG, hK, hN⟩, hw⟩ := hv
  have hx := B.exec
  have hb := B.bytes
  have hr := B.returns
  have hts := atoms_spec (ws := ks_Si_append) B.pre
  have hown : s.vm.findClass kR_Si = some m.cls := findClass_of_methodNamed B.named
  have hlocks := B.notSynchronized
  have hS : va_S (fun q => Z ≤ q) s.heap s.heap [] := va_S.rf
  have hl := lv_entry ([.ref a0, .int x1, .int x2, .int x3]) (n := 4) (Nat.le_of_ble_eq_true rfl)
  rw [lg_entry_eq]
  generalize (lg_sl ([.ref a0, .int x1, .int x2, .int x3]) ++ List.replicate (4 - (lg_sl ([.ref a0, .int x1, .int x2, .int x3])).length) Slot.unset).toArray = ls at hl ⊢
  have hl : lv_has ls 4 [(0, .ref a0), (1, .int x1), (2, .int x2), (3, .int x3)] := hl
  unfold kp_Si_append at hw
  refine lv_aload_n hx hb kb_Si_append_0 rfl (lv_at hl 0 rfl) ?_
  obtain ⟨hy, hw⟩ := hw
  refine zr_getI (ci := 6) (f := 603) hx hb hts ki_Si hown hK hG hy rfl 3 (by decide) (hts _ (List.mem_cons_of_mem _ kw_81)) (fun _ h => h) rfl rfl kb_Si_append_1 ?_
  refine lv_aload_n hx hb kb_Si_append_4 rfl (lv_at hl 0 rfl) ?_
  obtain ⟨hy, r5, hrf, hw⟩ := hw
  refine zr_getR (ci := 6) (f := 601) hx hb hts ki_Si hown hK hG hy rfl 1 (by decide) (hts _ (List.mem_cons_of_mem _ kw_77)) (fun _ h => h) rfl rfl hrf kb_Si_append_5 ?_
  obtain ⟨n8, s8, hy, hw⟩ := hw
  refine zr_alen hx hb hK hG 0 hy rfl kb_Si_append_8 ?_
  refine lv_icmp_lt (tgt := 13) hx hb kb_Si_append_9 (by decide) (fun hc => ?_) (fun hc => ?_)
  · have hw := hw.1 hc
    refine lv_aload_n hx hb kb_Si_append_13 rfl (lv_at hl 0 rfl) ?_
    obtain ⟨hy, r14, hrf, hw⟩ := hw
    refine zr_getR (ci := 6) (f := 600) hx hb hts ki_Si hown hK hG hy rfl 0 (by decide) (hts _ (List.mem_cons_of_mem _ kw_75)) (fun _ h => h) rfl rfl hrf kb_Si_append_14 ?_
    refine lv_aload_n hx hb kb_Si_append_17 rfl (lv_at hl 0 rfl) ?_
    obtain ⟨hy, hw⟩ := hw
    refine zr_getI (ci := 6) (f := 603) hx hb hts ki_Si hown hK hG hy rfl 3 (by decide) (hts _ (List.mem_cons_of_mem _ kw_81)) (fun _ h => h) rfl rfl kb_Si_append_18 ?_
    refine lv_iload_n hx hb kb_Si_append_21 rfl (lv_at hl 1 rfl) ?_
    obtain ⟨n22, s22, hy, hi, hw⟩ := hw
    refine zr_iast hx hb hK hG hS 0 hy rfl hi kb_Si_append_22 (fun H locs hG hS => ?_)
    obtain ⟨σ22, e22⟩ : ∃ z, z = z_sA σ s22 r14 (upd (z_A σ s22 r14) (z_I σ 603 a0).toNatClampNeg x1) := ⟨_, rfl⟩
    rw [← e22] at hG
    have hw := hw _ e22
    refine lv_aload_n hx hb kb_Si_append_23 rfl (lv_at hl 0 rfl) ?_
    obtain ⟨hy, r24, hrf, hw⟩ := hw
    refine zr_getR (ci := 6) (f := 601) hx hb hts ki_Si hown hK hG hy rfl 1 (by decide) (hts _ (List.mem_cons_of_mem _ kw_77)) (fun _ h => h) rfl rfl hrf kb_Si_append_24 ?_
    refine lv_aload_n hx hb kb_Si_append_27 rfl (lv_at hl 0 rfl) ?_
    obtain ⟨hy, hw⟩ := hw
    refine zr_getI (ci := 6) (f := 603) hx hb hts ki_Si hown hK hG hy rfl 3 (by decide) (hts _ (List.mem_cons_of_mem _ kw_81)) (fun _ h => h) rfl rfl kb_Si_append_28 ?_
    refine lv_iload_n hx hb kb_Si_append_31 rfl (lv_at hl 2 rfl) ?_
    obtain ⟨n32, s32, hy, hi, hw⟩ := hw
    refine zr_iast hx hb hK hG hS 0 hy rfl hi kb_Si_append_32 (fun H locs hG hS => ?_)
    obtain ⟨σ32, e32⟩ : ∃ z, z = z_sA σ22 s32 r24 (upd (z_A σ22 s32 r24) (z_I σ22 603 a0).toNatClampNeg x2) := ⟨_, rfl⟩
    rw [← e32] at hG
    have hw := hw _ e32
    refine lv_aload_n hx hb kb_Si_append_33 rfl (lv_at hl 0 rfl) ?_
    obtain ⟨hy, r34, hrf, hw⟩ := hw
    refine zr_getR (ci := 6) (f := 602) hx hb hts ki_Si hown hK hG hy rfl 2 (by decide) (hts _ (List.mem_cons_of_mem _ kw_79)) (fun _ h => h) rfl rfl hrf kb_Si_append_34 ?_
    refine lv_aload_n hx hb kb_Si_append_37 rfl (lv_at hl 0 rfl) ?_
    obtain ⟨hy, hw⟩ := hw
    refine zr_getI (ci := 6) (f := 603) hx hb hts ki_Si hown hK hG hy rfl 3 (by decide) (hts _ (List.mem_cons_of_mem _ kw_81)) (fun _ h => h) rfl rfl kb_Si_append_38 ?_
    refine lv_iload_n hx hb kb_Si_append_41 rfl (lv_at hl 3 rfl) ?_
    obtain ⟨n42, s42, hy, hi, hw⟩ := hw
    refine zr_iast hx hb hK hG hS 0 hy rfl hi kb_Si_append_42 (fun H locs hG hS => ?_)
    obtain ⟨σ42, e42⟩ : ∃ z, z = z_sA σ32 s42 r34 (upd (z_A σ32 s42 r34) (z_I σ32 603 a0).toNatClampNeg x3) := ⟨_, rfl⟩
    rw [← e42] at hG
    have hw := hw _ e42
    refine lv_aload_n hx hb kb_Si_append_43 rfl (lv_at hl 0 rfl) ?_
    refine lv_dup hx hb kb_Si_append_44 rfl ?_
    obtain ⟨hy, hw⟩ := hw
    refine zr_getI (ci := 6) (f := 603) hx hb hts ki_Si hown hK hG hy rfl 3 (by decide) (hts _ (List.mem_cons_of_mem _ kw_81)) (fun _ h => h) rfl rfl kb_Si_append_45 ?_
    refine lv_iconst (v := (1 : Int32)) hx hb kb_Si_append_48 (by decide) ?_
    refine lv_iadd hx hb kb_Si_append_49 ?_
    obtain ⟨hy, hw⟩ := hw
    refine zr_putI (ci := 6) (f := 603) hx hb hts ki_Si ky_Si kyo_Si kn_Si hown hK hG hS hy rfl 3 (by decide) (hts _ (List.mem_cons_of_mem _ kw_81)) (fun _ h => h) rfl rfl rfl rfl rfl kb_Si_append_50 (fun H locs hG hS => ?_)
    obtain ⟨σ50, e50⟩ : ∃ z, z = z_sI σ42 603 a0 ((z_I σ42 603 a0) + ((1 : Int32))) := ⟨_, rfl⟩
    rw [← e50] at hG
    have hw := hw _ e50
    exact zr_vret z_nwN hx hb hr hZ hK hN hG hS hw kb_Si_append_53 hlocks
  · have hw := hw.2 hc
    exact zr_vret z_nwN hx hb hr hZ hK hN hG hS hw kb_Si_append_12 hlocks
def kp_Vr_init (a0 : Nat) (σ : z_S) (Post : z_S → Prop) : Prop := ∀ (X104 : Int32 → Nat → Nat → z_S → Prop) (X144 : Int32 → Nat → Nat → z_S → Prop),
    (∀ (v1 : Int32) (kc : Nat) (ks : Nat) (σ : z_S), ((((8 : Int32)) ≤ v1 → X144 ((0 : Int32)) kc ks σ) ∧ (¬ ((8 : Int32)) ≤ v1 → z_ty σ a0 = some (.inl 7) ∧ ∃ r111, z_R σ 706 a0 = some r111 ∧ ((kc + 1 ≤ 200 ∧ ks + 3 ≤ 30000) ∧ ∀ q115, z_ty σ q115 = none → ∀ σ115, σ115 = z_new σ q115 4 → ((kc + 1) + 2 ≤ 200 ∧ (ks + 3) + 200 ≤ 30000) ∧ kp_Ro_init q115 σ115 (fun (σ119 : z_S) => ∃ n122 s122, z_ty σ119 r111 = some (.inr (9, n122, s122)) ∧ vp_in v1 n122 ∧ z_ty σ119 q115 = some (.inl 4) ∧ ∀ σ122, σ122 = z_sQ σ119 s122 r111 (va_up (z_Q σ119 s122 r111) v1.toNatClampNeg (some q115)) → z_ty σ122 a0 = some (.inl 7) ∧ ∃ r124, z_R σ122 707 a0 = some r124 ∧ ((((kc + 1) + 2) + 1 ≤ 200 ∧ ((ks + 3) + 200) + 3 ≤ 30000) ∧ ∀ q128, z_ty σ122 q128 = none → ∀ σ128, σ128 = z_new σ122 q128 4 → ((((kc + 1) + 2) + 1) + 2 ≤ 200 ∧ (((ks + 3) + 200) + 3) + 200 ≤ 30000) ∧ kp_Ro_init q128 σ128 (fun (σ132 : z_S) => ∃ n135 s135, z_ty σ132 r124 = some (.inr (9, n135, s135)) ∧ vp_in v1 n135 ∧ z_ty σ132 q128 = some (.inl 4) ∧ ∀ σ135, σ135 = z_sQ σ132 s135 r124 (va_up (z_Q σ132 s135 r124) v1.toNatClampNeg (some q128)) → X104 (v1 + (1 : Int32)) ((((kc + 1) + 2) + 1) + 2) ((((ks + 3) + 200) + 3) + 200) σ135)))))) → X104 v1 kc ks σ) →
    (∀ (v1 : Int32) (kc : Nat) (ks : Nat) (σ : z_S), ((((6 : Int32)) ≤ v1 → Post σ) ∧ (¬ ((6 : Int32)) ≤ v1 → z_ty σ a0 = some (.inl 7) ∧ ∃ r151, z_R σ 709 a0 = some r151 ∧ ((kc + 1 ≤ 200 ∧ ks + 4 ≤ 30000) ∧ ∀ q155, z_ty σ q155 = none → ∀ σ155, σ155 = z_new σ q155 6 → ((kc + 1) + 3 ≤ 200 ∧ (ks + 4) + 1920 ≤ 30000) ∧ kp_Si_init q155 ((60 : Int32)) σ155 (fun (σ161 : z_S) => ∃ n164 s164, z_ty σ161 r151 = some (.inr (10, n164, s164)) ∧ vp_in v1 n164 ∧ z_ty σ161 q155 = some (.inl 6) ∧ ∀ σ164, σ164 = z_sQ σ161 s164 r151 (va_up (z_Q σ161 s164 r151) v1.toNatClampNeg (some q155)) → X144 (v1 + (1 : Int32)) ((kc + 1) + 3) ((ks + 4) + 1920) σ164)))) → X144 v1 kc ks σ) →
    ((0 + 1 ≤ 200 ∧ 0 + 600 ≤ 30000) ∧ ∀ q8, z_ty σ q8 = none → ∀ σ8, σ8 = z_arr σ q8 1 600 18 → z_ty σ8 a0 = some (.inl 7) ∧ ∀ σ10, σ10 = z_sR σ8 700 a0 (some q8) → z_ty σ10 a0 = some (.inl 7) ∧ ∀ σ15, σ15 = z_sI σ10 702 a0 ((-1 : Int32)) → ((0 + 1) + 1 ≤ 200 ∧ (0 + 600) + 8 ≤ 30000) ∧ ∀ q21, z_ty σ15 q21 = none → ∀ σ21, σ21 = z_arr σ15 q21 0 8 19 → z_ty σ21 a0 = some (.inl 7) ∧ ∀ σ23, σ23 = z_sR σ21 703 a0 (some q21) → (((0 + 1) + 1) + 1 ≤ 200 ∧ ((0 + 600) + 8) + 11 ≤ 30000) ∧ ∀ q27, z_ty σ23 q27 = none → ∀ σ27, σ27 = z_new σ23 q27 2 → ((((0 + 1) + 1) + 1) + 5 ≤ 200 ∧ (((0 + 600) + 8) + 11) + 48 ≤ 30000) ∧ kp_Pr_init q27 σ27 (fun (σ31 : z_S) => z_ty σ31 a0 = some (.inl 7) ∧ ∀ σ34, σ34 = z_sR σ31 705 a0 (some q27) → (((((0 + 1) + 1) + 1) + 5) + 1 ≤ 200 ∧ ((((0 + 600) + 8) + 11) + 48) + 8 ≤ 30000) ∧ ∀ q40, z_ty σ34 q40 = none → ∀ σ40, σ40 = z_arr σ34 q40 9 8 20 → z_ty σ40 a0 = some (.inl 7) ∧ ∀ σ43, σ43 = z_sR σ40 706 a0 (some q40) → ((((((0 + 1) + 1) + 1) + 5) + 1) + 1 ≤ 200 ∧ (((((0 + 600) + 8) + 11) + 48) + 8) + 8 ≤ 30000) ∧ ∀ q49, z_ty σ43 q49 = none → ∀ σ49, σ49 = z_arr σ43 q49 9 8 21 → z_ty σ49 a0 = some (.inl 7) ∧ ∀ σ52, σ52 = z_sR σ49 707 a0 (some q49) → (((((((0 + 1) + 1) + 1) + 5) + 1) + 1) + 1 ≤ 200 ∧ ((((((0 + 600) + 8) + 11) + 48) + 8) + 8) + 4 ≤ 30000) ∧ ∀ q56, z_ty σ52 q56 = none → ∀ σ56, σ56 = z_new σ52 q56 6 → ((((((((0 + 1) + 1) + 1) + 5) + 1) + 1) + 1) + 3 ≤ 200 ∧ (((((((0 + 600) + 8) + 11) + 48) + 8) + 8) + 4) + 1920 ≤ 30000) ∧ kp_Si_init q56 ((60 : Int32)) σ56 (fun (σ62 : z_S) => z_ty σ62 a0 = some (.inl 7) ∧ ∀ σ65, σ65 = z_sR σ62 708 a0 (some q56) → (((((((((0 + 1) + 1) + 1) + 5) + 1) + 1) + 1) + 3) + 1 ≤ 200 ∧ ((((((((0 + 600) + 8) + 11) + 48) + 8) + 8) + 4) + 1920) + 6 ≤ 30000) ∧ ∀ q71, z_ty σ65 q71 = none → ∀ σ71, σ71 = z_arr σ65 q71 10 6 22 → z_ty σ71 a0 = some (.inl 7) ∧ ∀ σ74, σ74 = z_sR σ71 709 a0 (some q71) → ((((((((((0 + 1) + 1) + 1) + 5) + 1) + 1) + 1) + 3) + 1) + 1 ≤ 200 ∧ (((((((((0 + 600) + 8) + 11) + 48) + 8) + 8) + 4) + 1920) + 6) + 4 ≤ 30000) ∧ ∀ q78, z_ty σ74 q78 = none → ∀ σ78, σ78 = z_new σ74 q78 6 → (((((((((((0 + 1) + 1) + 1) + 5) + 1) + 1) + 1) + 3) + 1) + 1) + 3 ≤ 200 ∧ ((((((((((0 + 600) + 8) + 11) + 48) + 8) + 8) + 4) + 1920) + 6) + 4) + 1920 ≤ 30000) ∧ kp_Si_init q78 ((640 : Int32)) σ78 (fun (σ85 : z_S) => z_ty σ85 a0 = some (.inl 7) ∧ ∀ σ88, σ88 = z_sR σ85 711 a0 (some q78) → ((((((((((((0 + 1) + 1) + 1) + 5) + 1) + 1) + 1) + 3) + 1) + 1) + 3) + 1 ≤ 200 ∧ (((((((((((0 + 600) + 8) + 11) + 48) + 8) + 8) + 4) + 1920) + 6) + 4) + 1920) + 12 ≤ 30000) ∧ ∀ q92, z_ty σ88 q92 = none → ∀ σ92, σ92 = z_new σ88 q92 1 → (((((((((((((0 + 1) + 1) + 1) + 5) + 1) + 1) + 1) + 3) + 1) + 1) + 3) + 1) + 15 ≤ 200 ∧ ((((((((((((0 + 600) + 8) + 11) + 48) + 8) + 8) + 4) + 1920) + 6) + 4) + 1920) + 12) + 752 ≤ 30000) ∧ kp_En_init q92 σ92 (fun (σ96 : z_S) => z_ty σ96 a0 = some (.inl 7) ∧ ∀ σ99, σ99 = z_sR σ96 712 a0 (some q92) → X104 ((0 : Int32)) (((((((((((((0 + 1) + 1) + 1) + 5) + 1) + 1) + 1) + 3) + 1) + 1) + 3) + 1) + 15) (((((((((((((0 + 600) + 8) + 11) + 48) + 8) + 8) + 4) + 1920) + 6) + 4) + 1920) + 12) + 752) σ99)))))
set_option maxHeartbeats 4000000 in
set_option maxRecDepth 100000 in
theorem kc_Vr_init (l : Launch) (D : va_G) (dA : Nat → ClassId) (Z : Nat) (a0 : Nat) (σ : z_S) (Post : z_S → Prop) : Met l km_Vr_init ks_Vr_init kr_Vr_init (va_Pc [.ref a0] (fun U => z_U D z_cl z_KT dA Z (z_tys dA) z_nw σ U ∧ kp_Vr_init  a0 σ Post)) (z_Qv D z_cl z_KT dA Z (z_tys dA) z_nw Post) 200 30000 (fun q => Z ≤ q) := by
  refine Met.ofW (cc := prog_1_method_1_code) (maxL := 2) (ret := none) (by decide) rfl ?_
  intro p e s m args below meth c s₁ B hml hv
  obtain ⟨rfl, ⟨hZ, hG, hK, hN⟩, hw⟩ := hv
  have hx := B.exec
  have hb := B.bytes
  have hr := B.returns
  have hts := atoms_spec (ws := ks_Vr_init) B.pre
  have hown : s.vm.findClass kR_Vr = some m.cls := findClass_of_methodNamed B.named
  have hlocks := B.notSynchronized
  have hin : meth.name = "<init>" := (name_of_methodNamed B.named B.method).1
  have hS : va_S (fun q => Z ≤ q) s.heap s.heap [] := va_S.rf
  have hl := lv_entry ([.ref a0]) (n := 2) (Nat.le_of_ble_eq_true rfl)
  rw [lg_entry_eq]
  generalize (lg_sl ([.ref a0]) ++ List.replicate (2 - (lg_sl ([.ref a0])).length) Slot.unset).toArray = ls at hl ⊢
  have hl : lv_has ls 2 [(0, .ref a0)] := hl
  unfold kp_Vr_init at hw
  have hw := hw (fun (v1 : Int32) (kc : Nat) (ks : Nat) (σ : z_S) => ∀ (H : Heap) (locs : List Loc) (ls : Array Slot), kc ≤ 200 → ks ≤ 30000 → z_G D z_cl z_KT dA Z σ H → va_S (fun q => Z ≤ q) s.heap H locs → lv_has ls 2 [(0, .ref a0), (1, .int v1)] → W p l e (headSpec ks_Vr_init kr_Vr_init).room s m ([.ref a0] : List Value).toArray below meth c H locs kc ks (MQ below (z_Qv D z_cl z_KT dA Z (z_tys dA) z_nw Post) ([.ref a0] : List Value).toArray s 200 30000 (fun q => Z ≤ q)) (F0 m 104 ls []))
  have hw := hw (fun (v1 : Int32) (kc : Nat) (ks : Nat) (σ : z_S) => ∀ (H : Heap) (locs : List Loc) (ls : Array Slot), kc ≤ 200 → ks ≤ 30000 → z_G D z_cl z_KT dA Z σ H → va_S (fun q => Z ≤ q) s.heap H locs → lv_has ls 2 [(0, .ref a0), (1, .int v1)] → W p l e (headSpec ks_Vr_init kr_Vr_init).room s m ([.ref a0] : List Value).toArray below meth c H locs kc ks (MQ below (z_Qv D z_cl z_KT dA Z (z_tys dA) z_nw Post) ([.ref a0] : List Value).toArray s 200 30000 (fun q => Z ≤ q)) (F0 m 144 ls []))
  have hw := hw (by
    intro v1 kc ks σ hw H locs ls hkc hks hG hS hl
    refine lv_iload_n hx hb kb_Vr_init_104 rfl (lv_at hl 1 rfl) ?_
    refine lv_bipush (v := (8 : Int32)) hx hb kb_Vr_init_105 (by decide) ?_
    refine lv_icmp_ge (tgt := 142) hx hb kb_Vr_init_107 (by decide) (fun hc => ?_) (fun hc => ?_)
    · have hw := hw.1 hc
      refine lv_iconst (v := (0 : Int32)) hx hb kb_Vr_init_142 (by decide) ?_
      refine lv_istore_n (lv' := [(1, .int ((0 : Int32))), (0, .ref a0)]) hx hb kb_Vr_init_143 rfl hl (by decide) rfl (fun ls hl => ?_)
      exact hw _ _ _ hkc hks hG hS (lv_sub hl [1, 0] rfl)
    · have hw := hw.2 hc
      refine lv_aload_n hx hb kb_Vr_init_110 rfl (lv_at hl 0 rfl) ?_
      obtain ⟨hy, r111, hrf, hw⟩ := hw
      refine zr_getR (ci := 7) (f := 706) hx hb hts ki_Vr hown hK hG hy rfl 6 (by decide) (hts _ (List.mem_cons_of_mem _ kw_201)) (fun _ h => h) rfl rfl hrf kb_Vr_init_111 ?_
      refine lv_iload_n hx hb kb_Vr_init_114 rfl (lv_at hl 1 rfl) ?_
      obtain ⟨k14, hw⟩ := hw
      refine zr_new (ci := 4) hx hb hts ki_Ro ky_Ro kyo_Ro hown (hts _ (List.mem_cons_of_mem _ kw_65)) (hts _ (List.mem_cons_of_mem _ kw_179)) (hts _ (List.mem_cons_of_mem _ kw_8)) hK hG hS hZ rfl kd_Ro k14.1 k14.2 kb_Vr_init_115 (fun q115 H hq hG hS => ?_)
      obtain ⟨σ115, e115⟩ : ∃ z, z = z_new σ q115 4 := ⟨_, rfl⟩
      rw [← e115] at hG
      have hw := hw q115 hq _ e115
      refine lv_dup hx hb kb_Vr_init_118 rfl ?_
      obtain ⟨k15, hw⟩ := hw
      refine zr_cv (va_runIN (b := q115) (As := []) (rest := [.ref q115, .int v1, .ref r111]) ⟨hx, hb, hml, hown, hts⟩ (kc_Ro_init l D dA Z q115 σ115 _) ⟨va_cnB 0 hts (z_gw kw_181) rfl rfl rfl (hN _ kq_5) (hts _ (List.mem_cons_of_mem _ kw_8)) (by decide +kernel) ⟨Nat.le_of_ble_eq_true rfl, Nat.le_of_ble_eq_true rfl⟩, rfl, (hts _ (List.mem_cons_of_mem _ kw_180))⟩ (z_preS z_nwN (Nat.le_trans hZ hS.1) hG hK hN hw) rfl rfl hl.1 rfl (lv_room (Nat.le_of_ble_eq_true rfl)) kb_Vr_init_119 k15) hS (fun σ119 H locs hw hG hS => ?_)
      obtain ⟨n122, s122, hy, hi, hv, hw⟩ := hw
      refine zr_aast hx hb hK hG hS 4 4 (by decide) hy rfl hv rfl hi kb_Vr_init_122 (fun H locs hG hS => ?_)
      obtain ⟨σ122, e122⟩ : ∃ z, z = z_sQ σ119 s122 r111 (va_up (z_Q σ119 s122 r111) v1.toNatClampNeg (some q115)) := ⟨_, rfl⟩
      rw [← e122] at hG
      have hw := hw _ e122
      refine lv_aload_n hx hb kb_Vr_init_123 rfl (lv_at hl 0 rfl) ?_
      obtain ⟨hy, r124, hrf, hw⟩ := hw
      refine zr_getR (ci := 7) (f := 707) hx hb hts ki_Vr hown hK hG hy rfl 7 (by decide) (hts _ (List.mem_cons_of_mem _ kw_202)) (fun _ h => h) rfl rfl hrf kb_Vr_init_124 ?_
      refine lv_iload_n hx hb kb_Vr_init_127 rfl (lv_at hl 1 rfl) ?_
      obtain ⟨k16, hw⟩ := hw
      refine zr_new (ci := 4) hx hb hts ki_Ro ky_Ro kyo_Ro hown (hts _ (List.mem_cons_of_mem _ kw_65)) (hts _ (List.mem_cons_of_mem _ kw_179)) (hts _ (List.mem_cons_of_mem _ kw_8)) hK hG hS hZ rfl kd_Ro k16.1 k16.2 kb_Vr_init_128 (fun q128 H hq hG hS => ?_)
      obtain ⟨σ128, e128⟩ : ∃ z, z = z_new σ122 q128 4 := ⟨_, rfl⟩
      rw [← e128] at hG
      have hw := hw q128 hq _ e128
      refine lv_dup hx hb kb_Vr_init_131 rfl ?_
      obtain ⟨k17, hw⟩ := hw
      refine zr_cv (va_runIN (b := q128) (As := []) (rest := [.ref q128, .int v1, .ref r124]) ⟨hx, hb, hml, hown, hts⟩ (kc_Ro_init l D dA Z q128 σ128 _) ⟨va_cnB 0 hts (z_gw kw_181) rfl rfl rfl (hN _ kq_5) (hts _ (List.mem_cons_of_mem _ kw_8)) (by decide +kernel) ⟨Nat.le_of_ble_eq_true rfl, Nat.le_of_ble_eq_true rfl⟩, rfl, (hts _ (List.mem_cons_of_mem _ kw_180))⟩ (z_preS z_nwN (Nat.le_trans hZ hS.1) hG hK hN hw) rfl rfl hl.1 rfl (lv_room (Nat.le_of_ble_eq_true rfl)) kb_Vr_init_132 k17) hS (fun σ132 H locs hw hG hS => ?_)
      obtain ⟨n135, s135, hy, hi, hv, hw⟩ := hw
      refine zr_aast hx hb hK hG hS 4 4 (by decide) hy rfl hv rfl hi kb_Vr_init_135 (fun H locs hG hS => ?_)
      obtain ⟨σ135, e135⟩ : ∃ z, z = z_sQ σ132 s135 r124 (va_up (z_Q σ132 s135 r124) v1.toNatClampNeg (some q128)) := ⟨_, rfl⟩
      rw [← e135] at hG
      have hw := hw _ e135
      refine lv_iinc (v := v1 + (1 : Int32)) (lv' := [(1, .int (v1 + (1 : Int32))), (0, .ref a0)]) hx hb kb_Vr_init_136 hl (k := 1) rfl rfl (by decide) rfl (fun ls hl => ?_)
      refine lv_goto (tgt := 104) hx hb kb_Vr_init_139 (by decide) ?_
      exact hw _ _ _ k17.1 k17.2 hG hS (lv_sub hl [1, 0] rfl))
  have hw := hw (by
    intro v1 kc ks σ hw H locs ls hkc hks hG hS hl
    refine lv_iload_n hx hb kb_Vr_init_144 rfl (lv_at hl 1 rfl) ?_
    refine lv_bipush (v := (6 : Int32)) hx hb kb_Vr_init_145 (by decide) ?_
    refine lv_icmp_ge (tgt := 171) hx hb kb_Vr_init_147 (by decide) (fun hc => ?_) (fun hc => ?_)
    · have hw := hw.1 hc
      refine W.widen (k := 200) (n := 30000) hkc hks ?_
      exact zr_vret z_nwN hx hb hr hZ hK hN hG hS hw kb_Vr_init_171 hlocks
    · have hw := hw.2 hc
      refine lv_aload_n hx hb kb_Vr_init_150 rfl (lv_at hl 0 rfl) ?_
      obtain ⟨hy, r151, hrf, hw⟩ := hw
      refine zr_getR (ci := 7) (f := 709) hx hb hts ki_Vr hown hK hG hy rfl 9 (by decide) (hts _ (List.mem_cons_of_mem _ kw_204)) (fun _ h => h) rfl rfl hrf kb_Vr_init_151 ?_
      refine lv_iload_n hx hb kb_Vr_init_154 rfl (lv_at hl 1 rfl) ?_
      obtain ⟨k18, hw⟩ := hw
      refine zr_new (ci := 6) hx hb hts ki_Si ky_Si kyo_Si hown (hts _ (List.mem_cons_of_mem _ kw_66)) (hts _ (List.mem_cons_of_mem _ kw_67)) (hts _ (List.mem_cons_of_mem _ kw_3)) hK hG hS hZ rfl kd_Si k18.1 k18.2 kb_Vr_init_155 (fun q155 H hq hG hS => ?_)
      obtain ⟨σ155, e155⟩ : ∃ z, z = z_new σ q155 6 := ⟨_, rfl⟩
      rw [← e155] at hG
      have hw := hw q155 hq _ e155
      refine lv_dup hx hb kb_Vr_init_158 rfl ?_
      refine lv_bipush (v := (60 : Int32)) hx hb kb_Vr_init_159 (by decide) ?_
      obtain ⟨k19, hw⟩ := hw
      refine zr_cv (va_runI (b := q155) (As := [.int ((60 : Int32))]) (rest := [.ref q155, .int v1, .ref r151]) ⟨hx, hb, hml, hown, hts⟩ (kc_Si_init l D dA Z q155 ((60 : Int32)) σ155 _) ⟨callB_of 1 hts (z_gw kw_70) rfl rfl rfl (hts _ (List.mem_cons_of_mem _ kw_3)) (hts _ (List.mem_cons_of_mem _ kw_68)) (by decide +kernel) ⟨Nat.le_of_ble_eq_true rfl, Nat.le_of_ble_eq_true rfl⟩, rfl, (hts _ (List.mem_cons_of_mem _ kw_69))⟩ (z_preS z_nwN (Nat.le_trans hZ hS.1) hG hK hN hw) rfl rfl hl.1 rfl (lv_room (Nat.le_of_ble_eq_true rfl)) kb_Vr_init_161 k19) hS (fun σ161 H locs hw hG hS => ?_)
      obtain ⟨n164, s164, hy, hi, hv, hw⟩ := hw
      refine zr_aast hx hb hK hG hS 5 6 (by decide) hy rfl hv rfl hi kb_Vr_init_164 (fun H locs hG hS => ?_)
      obtain ⟨σ164, e164⟩ : ∃ z, z = z_sQ σ161 s164 r151 (va_up (z_Q σ161 s164 r151) v1.toNatClampNeg (some q155)) := ⟨_, rfl⟩
      rw [← e164] at hG
      have hw := hw _ e164
      refine lv_iinc (v := v1 + (1 : Int32)) (lv' := [(1, .int (v1 + (1 : Int32))), (0, .ref a0)]) hx hb kb_Vr_init_165 hl (k := 1) rfl rfl (by decide) rfl (fun ls hl => ?_)
      refine lv_goto (tgt := 144) hx hb kb_Vr_init_168 (by decide) ?_
      exact hw _ _ _ k19.1 k19.2 hG hS (lv_sub hl [1, 0] rfl))
  refine lv_aload_n hx hb kb_Vr_init_0 rfl (lv_at hl 0 rfl) ?_
  refine W.objInit hx hb hown (hts _ (List.mem_cons_of_mem _ kw_16)) (hts _ (List.mem_cons_of_mem _ kw_17)) (hts _ (List.mem_cons_of_mem _ kw_18)) rfl (by rw [hml]; exact hl.1) rfl kb_Vr_init_1 (Nat.le_of_ble_eq_true rfl) (Nat.le_of_ble_eq_true rfl) ?_
  refine W.eq (g2 := F0 m 4 ls []) rfl ?_
  refine lv_aload_n hx hb kb_Vr_init_4 rfl (lv_at hl 0 rfl) ?_
  refine lv_sipush (v := (600 : Int32)) hx hb kb_Vr_init_5 (by decide) ?_
  obtain ⟨k1, hw⟩ := hw
  refine zr_newa (atype := .byte) (ty := .byte) (N' := 600) hx hb (hts _ (List.mem_cons_of_mem _ kw_63)) rfl hK hG hS hZ 1 1 18 (by decide) rfl (fun _ _ h1 h2 => z_RA_byte h1 h2) rfl (by decide) (by decide) (by decide) k1.1 k1.2 kb_Vr_init_8 (fun q8 H hq hG hS => ?_)
  obtain ⟨σ8, e8⟩ : ∃ z, z = z_arr σ q8 1 600 18 := ⟨_, rfl⟩
  rw [← e8] at hG
  have hw := hw q8 hq _ e8
  obtain ⟨hy, hw⟩ := hw
  refine zr_putRF (ci := 7) (f := 700) hx hb hts ki_Vr ky_Vr kyo_Vr kn_Vr hown hK hG hS hy rfl 0 (by decide) (hts _ (List.mem_cons_of_mem _ kw_195)) (fun _ h => h) rfl hin rfl rfl rfl rfl rfl kb_Vr_init_10 (fun H locs hG hS => ?_)
  obtain ⟨σ10, e10⟩ : ∃ z, z = z_sR σ8 700 a0 (some q8) := ⟨_, rfl⟩
  rw [← e10] at hG
  have hw := hw _ e10
  refine lv_aload_n hx hb kb_Vr_init_13 rfl (lv_at hl 0 rfl) ?_
  refine lv_iconst (v := (-1 : Int32)) hx hb kb_Vr_init_14 (by decide) ?_
  obtain ⟨hy, hw⟩ := hw
  refine zr_putI (ci := 7) (f := 702) hx hb hts ki_Vr ky_Vr kyo_Vr kn_Vr hown hK hG hS hy rfl 2 (by decide) (hts _ (List.mem_cons_of_mem _ kw_197)) (fun _ h => h) rfl rfl rfl rfl rfl kb_Vr_init_15 (fun H locs hG hS => ?_)
  obtain ⟨σ15, e15⟩ : ∃ z, z = z_sI σ10 702 a0 ((-1 : Int32)) := ⟨_, rfl⟩
  rw [← e15] at hG
  have hw := hw _ e15
  refine lv_aload_n hx hb kb_Vr_init_18 rfl (lv_at hl 0 rfl) ?_
  refine lv_bipush (v := (8 : Int32)) hx hb kb_Vr_init_19 (by decide) ?_
  obtain ⟨k2, hw⟩ := hw
  refine zr_newa (atype := .int) (ty := .int) (N' := 8) hx hb (hts _ (List.mem_cons_of_mem _ kw_64)) rfl hK hG hS hZ 0 0 19 (by decide) rfl (fun _ _ h1 h2 => z_RA_int h1 h2) rfl (by decide) (by decide) (by decide) k2.1 k2.2 kb_Vr_init_21 (fun q21 H hq hG hS => ?_)
  obtain ⟨σ21, e21⟩ : ∃ z, z = z_arr σ15 q21 0 8 19 := ⟨_, rfl⟩
  rw [← e21] at hG
  have hw := hw q21 hq _ e21
  obtain ⟨hy, hw⟩ := hw
  refine zr_putRF (ci := 7) (f := 703) hx hb hts ki_Vr ky_Vr kyo_Vr kn_Vr hown hK hG hS hy rfl 3 (by decide) (hts _ (List.mem_cons_of_mem _ kw_198)) (fun _ h => h) rfl hin rfl rfl rfl rfl rfl kb_Vr_init_23 (fun H locs hG hS => ?_)
  obtain ⟨σ23, e23⟩ : ∃ z, z = z_sR σ21 703 a0 (some q21) := ⟨_, rfl⟩
  rw [← e23] at hG
  have hw := hw _ e23
  refine lv_aload_n hx hb kb_Vr_init_26 rfl (lv_at hl 0 rfl) ?_
  obtain ⟨k3, hw⟩ := hw
  refine zr_new (ci := 2) hx hb hts ki_Pr ky_Pr kyo_Pr hown (hts _ (List.mem_cons_of_mem _ kw_19)) (hts _ (List.mem_cons_of_mem _ kw_20)) (hts _ (List.mem_cons_of_mem _ kw_2)) hK hG hS hZ rfl kd_Pr k3.1 k3.2 kb_Vr_init_27 (fun q27 H hq hG hS => ?_)
  obtain ⟨σ27, e27⟩ : ∃ z, z = z_new σ23 q27 2 := ⟨_, rfl⟩
  rw [← e27] at hG
  have hw := hw q27 hq _ e27
  refine lv_dup hx hb kb_Vr_init_30 rfl ?_
  obtain ⟨k4, hw⟩ := hw
  refine zr_cv (va_runIN (b := q27) (As := []) (rest := [.ref q27, .ref a0]) ⟨hx, hb, hml, hown, hts⟩ (kc_Pr_init l D dA Z q27 σ27 _) ⟨va_cnB 0 hts (z_gw kw_22) rfl rfl rfl (hN _ kq_0) (hts _ (List.mem_cons_of_mem _ kw_2)) (by decide +kernel) ⟨Nat.le_of_ble_eq_true rfl, Nat.le_of_ble_eq_true rfl⟩, rfl, (hts _ (List.mem_cons_of_mem _ kw_21))⟩ (z_preS z_nwN (Nat.le_trans hZ hS.1) hG hK hN hw) rfl rfl hl.1 rfl (lv_room (Nat.le_of_ble_eq_true rfl)) kb_Vr_init_31 k4) hS (fun σ31 H locs hw hG hS => ?_)
  obtain ⟨hy, hw⟩ := hw
  refine zr_putR (ci := 7) (f := 705) hx hb hts ki_Vr ky_Vr kyo_Vr kn_Vr hown hK hG hS hy rfl 5 (by decide) (hts _ (List.mem_cons_of_mem _ kw_200)) (fun _ h => h) rfl rfl rfl rfl rfl kb_Vr_init_34 (fun H locs hG hS => ?_)
  obtain ⟨σ34, e34⟩ : ∃ z, z = z_sR σ31 705 a0 (some q27) := ⟨_, rfl⟩
  rw [← e34] at hG
  have hw := hw _ e34
  refine lv_aload_n hx hb kb_Vr_init_37 rfl (lv_at hl 0 rfl) ?_
  refine lv_bipush (v := (8 : Int32)) hx hb kb_Vr_init_38 (by decide) ?_
  obtain ⟨k5, hw⟩ := hw
  refine zr_newq (N' := 8) hx hb hown (hts _ (List.mem_cons_of_mem _ kw_65)) (hN _ kq_15) hK hG hS hZ 9 4 20 (by decide) rfl (by decide) (by decide) (by decide) k5.1 k5.2 kb_Vr_init_40 (fun q40 H hq hG hS => ?_)
  obtain ⟨σ40, e40⟩ : ∃ z, z = z_arr σ34 q40 9 8 20 := ⟨_, rfl⟩
  rw [← e40] at hG
  have hw := hw q40 hq _ e40
  obtain ⟨hy, hw⟩ := hw
  refine zr_putR (ci := 7) (f := 706) hx hb hts ki_Vr ky_Vr kyo_Vr kn_Vr hown hK hG hS hy rfl 6 (by decide) (hts _ (List.mem_cons_of_mem _ kw_201)) (fun _ h => h) rfl rfl rfl rfl rfl kb_Vr_init_43 (fun H locs hG hS => ?_)
  obtain ⟨σ43, e43⟩ : ∃ z, z = z_sR σ40 706 a0 (some q40) := ⟨_, rfl⟩
  rw [← e43] at hG
  have hw := hw _ e43
  refine lv_aload_n hx hb kb_Vr_init_46 rfl (lv_at hl 0 rfl) ?_
  refine lv_bipush (v := (8 : Int32)) hx hb kb_Vr_init_47 (by decide) ?_
  obtain ⟨k6, hw⟩ := hw
  refine zr_newq (N' := 8) hx hb hown (hts _ (List.mem_cons_of_mem _ kw_65)) (hN _ kq_15) hK hG hS hZ 9 4 21 (by decide) rfl (by decide) (by decide) (by decide) k6.1 k6.2 kb_Vr_init_49 (fun q49 H hq hG hS => ?_)
  obtain ⟨σ49, e49⟩ : ∃ z, z = z_arr σ43 q49 9 8 21 := ⟨_, rfl⟩
  rw [← e49] at hG
  have hw := hw q49 hq _ e49
  obtain ⟨hy, hw⟩ := hw
  refine zr_putR (ci := 7) (f := 707) hx hb hts ki_Vr ky_Vr kyo_Vr kn_Vr hown hK hG hS hy rfl 7 (by decide) (hts _ (List.mem_cons_of_mem _ kw_202)) (fun _ h => h) rfl rfl rfl rfl rfl kb_Vr_init_52 (fun H locs hG hS => ?_)
  obtain ⟨σ52, e52⟩ : ∃ z, z = z_sR σ49 707 a0 (some q49) := ⟨_, rfl⟩
  rw [← e52] at hG
  have hw := hw _ e52
  refine lv_aload_n hx hb kb_Vr_init_55 rfl (lv_at hl 0 rfl) ?_
  obtain ⟨k7, hw⟩ := hw
  refine zr_new (ci := 6) hx hb hts ki_Si ky_Si kyo_Si hown (hts _ (List.mem_cons_of_mem _ kw_66)) (hts _ (List.mem_cons_of_mem _ kw_67)) (hts _ (List.mem_cons_of_mem _ kw_3)) hK hG hS hZ rfl kd_Si k7.1 k7.2 kb_Vr_init_56 (fun q56 H hq hG hS => ?_)
  obtain ⟨σ56, e56⟩ : ∃ z, z = z_new σ52 q56 6 := ⟨_, rfl⟩
  rw [← e56] at hG
  have hw := hw q56 hq _ e56
  refine lv_dup hx hb kb_Vr_init_59 rfl ?_
  refine lv_bipush (v := (60 : Int32)) hx hb kb_Vr_init_60 (by decide) ?_
  obtain ⟨k8, hw⟩ := hw
  refine zr_cv (va_runI (b := q56) (As := [.int ((60 : Int32))]) (rest := [.ref q56, .ref a0]) ⟨hx, hb, hml, hown, hts⟩ (kc_Si_init l D dA Z q56 ((60 : Int32)) σ56 _) ⟨callB_of 1 hts (z_gw kw_70) rfl rfl rfl (hts _ (List.mem_cons_of_mem _ kw_3)) (hts _ (List.mem_cons_of_mem _ kw_68)) (by decide +kernel) ⟨Nat.le_of_ble_eq_true rfl, Nat.le_of_ble_eq_true rfl⟩, rfl, (hts _ (List.mem_cons_of_mem _ kw_69))⟩ (z_preS z_nwN (Nat.le_trans hZ hS.1) hG hK hN hw) rfl rfl hl.1 rfl (lv_room (Nat.le_of_ble_eq_true rfl)) kb_Vr_init_62 k8) hS (fun σ62 H locs hw hG hS => ?_)
  obtain ⟨hy, hw⟩ := hw
  refine zr_putR (ci := 7) (f := 708) hx hb hts ki_Vr ky_Vr kyo_Vr kn_Vr hown hK hG hS hy rfl 8 (by decide) (hts _ (List.mem_cons_of_mem _ kw_203)) (fun _ h => h) rfl rfl rfl rfl rfl kb_Vr_init_65 (fun H locs hG hS => ?_)
  obtain ⟨σ65, e65⟩ : ∃ z, z = z_sR σ62 708 a0 (some q56) := ⟨_, rfl⟩
  rw [← e65] at hG
  have hw := hw _ e65
  refine lv_aload_n hx hb kb_Vr_init_68 rfl (lv_at hl 0 rfl) ?_
  refine lv_bipush (v := (6 : Int32)) hx hb kb_Vr_init_69 (by decide) ?_
  obtain ⟨k9, hw⟩ := hw
  refine zr_newq (N' := 6) hx hb hown (hts _ (List.mem_cons_of_mem _ kw_66)) (hN _ kq_16) hK hG hS hZ 10 5 22 (by decide) rfl (by decide) (by decide) (by decide) k9.1 k9.2 kb_Vr_init_71 (fun q71 H hq hG hS => ?_)
  obtain ⟨σ71, e71⟩ : ∃ z, z = z_arr σ65 q71 10 6 22 := ⟨_, rfl⟩
  rw [← e71] at hG
  have hw := hw q71 hq _ e71
  obtain ⟨hy, hw⟩ := hw
  refine zr_putRF (ci := 7) (f := 709) hx hb hts ki_Vr ky_Vr kyo_Vr kn_Vr hown hK hG hS hy rfl 9 (by decide) (hts _ (List.mem_cons_of_mem _ kw_204)) (fun _ h => h) rfl hin rfl rfl rfl rfl rfl kb_Vr_init_74 (fun H locs hG hS => ?_)
  obtain ⟨σ74, e74⟩ : ∃ z, z = z_sR σ71 709 a0 (some q71) := ⟨_, rfl⟩
  rw [← e74] at hG
  have hw := hw _ e74
  refine lv_aload_n hx hb kb_Vr_init_77 rfl (lv_at hl 0 rfl) ?_
  obtain ⟨k10, hw⟩ := hw
  refine zr_new (ci := 6) hx hb hts ki_Si ky_Si kyo_Si hown (hts _ (List.mem_cons_of_mem _ kw_66)) (hts _ (List.mem_cons_of_mem _ kw_67)) (hts _ (List.mem_cons_of_mem _ kw_3)) hK hG hS hZ rfl kd_Si k10.1 k10.2 kb_Vr_init_78 (fun q78 H hq hG hS => ?_)
  obtain ⟨σ78, e78⟩ : ∃ z, z = z_new σ74 q78 6 := ⟨_, rfl⟩
  rw [← e78] at hG
  have hw := hw q78 hq _ e78
  refine lv_dup hx hb kb_Vr_init_81 rfl ?_
  refine lv_sipush (v := (640 : Int32)) hx hb kb_Vr_init_82 (by decide) ?_
  obtain ⟨k11, hw⟩ := hw
  refine zr_cv (va_runI (b := q78) (As := [.int ((640 : Int32))]) (rest := [.ref q78, .ref a0]) ⟨hx, hb, hml, hown, hts⟩ (kc_Si_init l D dA Z q78 ((640 : Int32)) σ78 _) ⟨callB_of 1 hts (z_gw kw_70) rfl rfl rfl (hts _ (List.mem_cons_of_mem _ kw_3)) (hts _ (List.mem_cons_of_mem _ kw_68)) (by decide +kernel) ⟨Nat.le_of_ble_eq_true rfl, Nat.le_of_ble_eq_true rfl⟩, rfl, (hts _ (List.mem_cons_of_mem _ kw_69))⟩ (z_preS z_nwN (Nat.le_trans hZ hS.1) hG hK hN hw) rfl rfl hl.1 rfl (lv_room (Nat.le_of_ble_eq_true rfl)) kb_Vr_init_85 k11) hS (fun σ85 H locs hw hG hS => ?_)
  obtain ⟨hy, hw⟩ := hw
  refine zr_putRF (ci := 7) (f := 711) hx hb hts ki_Vr ky_Vr kyo_Vr kn_Vr hown hK hG hS hy rfl 11 (by decide) (hts _ (List.mem_cons_of_mem _ kw_206)) (fun _ h => h) rfl hin rfl rfl rfl rfl rfl kb_Vr_init_88 (fun H locs hG hS => ?_)
  obtain ⟨σ88, e88⟩ : ∃ z, z = z_sR σ85 711 a0 (some q78) := ⟨_, rfl⟩
  rw [← e88] at hG
  have hw := hw _ e88
  refine lv_aload_n hx hb kb_Vr_init_91 rfl (lv_at hl 0 rfl) ?_
  obtain ⟨k12, hw⟩ := hw
  refine zr_new (ci := 1) hx hb hts ki_En ky_En kyo_En hown (hts _ (List.mem_cons_of_mem _ kw_87)) (hts _ (List.mem_cons_of_mem _ kw_88)) (hts _ (List.mem_cons_of_mem _ kw_5)) hK hG hS hZ rfl kd_En k12.1 k12.2 kb_Vr_init_92 (fun q92 H hq hG hS => ?_)
  obtain ⟨σ92, e92⟩ : ∃ z, z = z_new σ88 q92 1 := ⟨_, rfl⟩
  rw [← e92] at hG
  have hw := hw q92 hq _ e92
  refine lv_dup hx hb kb_Vr_init_95 rfl ?_
  obtain ⟨k13, hw⟩ := hw
  refine zr_cv (va_runIN (b := q92) (As := []) (rest := [.ref q92, .ref a0]) ⟨hx, hb, hml, hown, hts⟩ (kc_En_init l D dA Z q92 σ92 _) ⟨va_cnB 0 hts (z_gw kw_90) rfl rfl rfl (hN _ kq_1) (hts _ (List.mem_cons_of_mem _ kw_5)) (by decide +kernel) ⟨Nat.le_of_ble_eq_true rfl, Nat.le_of_ble_eq_true rfl⟩, rfl, (hts _ (List.mem_cons_of_mem _ kw_89))⟩ (z_preS z_nwN (Nat.le_trans hZ hS.1) hG hK hN hw) rfl rfl hl.1 rfl (lv_room (Nat.le_of_ble_eq_true rfl)) kb_Vr_init_96 k13) hS (fun σ96 H locs hw hG hS => ?_)
  obtain ⟨hy, hw⟩ := hw
  refine zr_putRF (ci := 7) (f := 712) hx hb hts ki_Vr ky_Vr kyo_Vr kn_Vr hown hK hG hS hy rfl 12 (by decide) (hts _ (List.mem_cons_of_mem _ kw_207)) (fun _ h => h) rfl hin rfl rfl rfl rfl rfl kb_Vr_init_99 (fun H locs hG hS => ?_)
  obtain ⟨σ99, e99⟩ : ∃ z, z = z_sR σ96 712 a0 (some q92) := ⟨_, rfl⟩
  rw [← e99] at hG
  have hw := hw _ e99
  refine lv_iconst (v := (0 : Int32)) hx hb kb_Vr_init_102 (by decide) ?_
  refine lv_istore_n (lv' := [(1, .int ((0 : Int32))), (0, .ref a0)]) hx hb kb_Vr_init_103 rfl hl (by decide) rfl (fun ls hl => ?_)
  exact hw _ _ _ k13.1 k13.2 hG hS (lv_sub hl [1, 0] rfl)
def kp_Vr_feed (a0 : Nat) (x1 : Int64) (x2 : Int32) (σ : z_S) (Post : Int32 → z_S → Prop) : Prop := ∀ (X32 : Int32 → z_S → Prop),
    (∀ (v4 : Int32) (σ : z_S), ((x2 ≤ v4 → z_ty σ a0 = some (.inl 7) ∧ (z_ty σ a0 = some (.inl 7) ∧ ∀ σ72, σ72 = z_sI σ 701 a0 ((z_I σ 701 a0) + x2) → z_ty σ72 a0 = some (.inl 7) ∧ (Post (z_I σ72 701 a0) σ72))) ∧ (¬ x2 ≤ v4 → z_ty σ a0 = some (.inl 7) ∧ ∃ r39, z_R σ 700 a0 = some r39 ∧ (z_ty σ a0 = some (.inl 7) ∧ (∃ n58 s58, z_ty σ r39 = some (.inr (1, n58, s58)) ∧ vp_in ((z_I σ 701 a0) + v4) n58 ∧ ∀ σ58, σ58 = z_sA σ s58 r39 (upd (z_A σ s58 r39) ((z_I σ 701 a0) + v4).toNatClampNeg (vp_nar .byte ((((x1.toUInt64 >>> ((((8 : Int32)) * v4).toInt64.toUInt64 &&& Int64.toUInt64 63)).toInt64).toInt32).toInt8.toInt32))) → X32 (v4 + (1 : Int32)) σ58)))) → X32 v4 σ) →
    ((x2 < ((1 : Int32)) → Post ((-2 : Int32)) σ) ∧ (¬ x2 < ((1 : Int32)) → (x2 ≤ ((8 : Int32)) → z_ty σ a0 = some (.inl 7) ∧ ((((z_I σ 701 a0) + x2) ≤ ((600 : Int32)) → X32 ((0 : Int32)) σ) ∧ (¬ ((z_I σ 701 a0) + x2) ≤ ((600 : Int32)) → Post ((-3 : Int32)) σ))) ∧ (¬ x2 ≤ ((8 : Int32)) → Post ((-2 : Int32)) σ)))
set_option maxHeartbeats 4000000 in
set_option maxRecDepth 100000 in
theorem kc_Vr_feed (l : Launch) (D : va_G) (dA : Nat → ClassId) (Z : Nat) (a0 : Nat) (x1 : Int64) (x2 : Int32) (σ : z_S) (Post : Int32 → z_S → Prop) : Met l km_Vr_feed ks_Vr_feed kr_Vr_feed (va_Pc [.ref a0, .long x1, .int x2] (fun U => z_U D z_cl z_KT dA Z (z_tys dA) z_nw σ U ∧ kp_Vr_feed  a0 x1 x2 σ Post)) (z_Qi D z_cl z_KT dA Z (z_tys dA) z_nw Post) 0 0 (fun q => Z ≤ q) := by
  refine Met.ofW (cc := prog_1_method_2_code) (maxL := 5) (ret := (some .int)) (by decide) rfl ?_
  intro p e s m args below meth c s₁ B hml hv
  obtain ⟨rfl, ⟨hZ, hG, hK, hN⟩, hw⟩ := hv
  have hx := B.exec
  have hb := B.bytes
  have hr := B.returns
  have hts := atoms_spec (ws := ks_Vr_feed) B.pre
  have hown : s.vm.findClass kR_Vr = some m.cls := findClass_of_methodNamed B.named
  have hlocks := B.notSynchronized
  have hS : va_S (fun q => Z ≤ q) s.heap s.heap [] := va_S.rf
  have hl := lv_entry ([.ref a0, .long x1, .int x2]) (n := 5) (Nat.le_of_ble_eq_true rfl)
  rw [lg_entry_eq]
  generalize (lg_sl ([.ref a0, .long x1, .int x2]) ++ List.replicate (5 - (lg_sl ([.ref a0, .long x1, .int x2])).length) Slot.unset).toArray = ls at hl ⊢
  have hl : lv_has ls 5 [(0, .ref a0), (1, .long x1), (3, .int x2)] := hl
  unfold kp_Vr_feed at hw
  have hw := hw (fun (v4 : Int32) (σ : z_S) => ∀ (H : Heap) (locs : List Loc) (ls : Array Slot), z_G D z_cl z_KT dA Z σ H → va_S (fun q => Z ≤ q) s.heap H locs → lv_has ls 5 [(0, .ref a0), (1, .long x1), (3, .int x2), (4, .int v4)] → W p l e (headSpec ks_Vr_feed kr_Vr_feed).room s m ([.ref a0, .long x1, .int x2] : List Value).toArray below meth c H locs 0 0 (MQ below (z_Qi D z_cl z_KT dA Z (z_tys dA) z_nw Post) ([.ref a0, .long x1, .int x2] : List Value).toArray s 0 0 (fun q => Z ≤ q)) (F0 m 32 ls []))
  have hw := hw (by
    intro v4 σ hw H locs ls hG hS hl
    refine lv_iload hx hb kb_Vr_feed_32 (lv_at hl 3 rfl) ?_
    refine lv_iload_n hx hb kb_Vr_feed_34 rfl (lv_at hl 2 rfl) ?_
    refine lv_icmp_ge (tgt := 65) hx hb kb_Vr_feed_35 (by decide) (fun hc => ?_) (fun hc => ?_)
    · have hw := hw.1 hc
      refine lv_aload_n hx hb kb_Vr_feed_65 rfl (lv_at hl 0 rfl) ?_
      refine lv_dup hx hb kb_Vr_feed_66 rfl ?_
      obtain ⟨hy, hw⟩ := hw
      refine zr_getI (ci := 7) (f := 701) hx hb hts ki_Vr hown hK hG hy rfl 1 (by decide) (hts _ (List.mem_cons_of_mem _ kw_196)) (fun _ h => h) rfl rfl kb_Vr_feed_67 ?_
      refine lv_iload_n hx hb kb_Vr_feed_70 rfl (lv_at hl 2 rfl) ?_
      refine lv_iadd hx hb kb_Vr_feed_71 ?_
      obtain ⟨hy, hw⟩ := hw
      refine zr_putI (ci := 7) (f := 701) hx hb hts ki_Vr ky_Vr kyo_Vr kn_Vr hown hK hG hS hy rfl 1 (by decide) (hts _ (List.mem_cons_of_mem _ kw_196)) (fun _ h => h) rfl rfl rfl rfl rfl kb_Vr_feed_72 (fun H locs hG hS => ?_)
      obtain ⟨σ72, e72⟩ : ∃ z, z = z_sI σ 701 a0 ((z_I σ 701 a0) + x2) := ⟨_, rfl⟩
      rw [← e72] at hG
      have hw := hw _ e72
      refine lv_aload_n hx hb kb_Vr_feed_75 rfl (lv_at hl 0 rfl) ?_
      obtain ⟨hy, hw⟩ := hw
      refine zr_getI (ci := 7) (f := 701) hx hb hts ki_Vr hown hK hG hy rfl 1 (by decide) (hts _ (List.mem_cons_of_mem _ kw_196)) (fun _ h => h) rfl rfl kb_Vr_feed_76 ?_
      exact zr_iret (free := fun q => Z ≤ q) z_nwN hx hb hr rfl hZ hK hN hG hS hw kb_Vr_feed_79 hlocks
    · have hw := hw.2 hc
      refine lv_aload_n hx hb kb_Vr_feed_38 rfl (lv_at hl 0 rfl) ?_
      obtain ⟨hy, r39, hrf, hw⟩ := hw
      refine zr_getR (ci := 7) (f := 700) hx hb hts ki_Vr hown hK hG hy rfl 0 (by decide) (hts _ (List.mem_cons_of_mem _ kw_195)) (fun _ h => h) rfl rfl hrf kb_Vr_feed_39 ?_
      refine lv_aload_n hx hb kb_Vr_feed_42 rfl (lv_at hl 0 rfl) ?_
      obtain ⟨hy, hw⟩ := hw
      refine zr_getI (ci := 7) (f := 701) hx hb hts ki_Vr hown hK hG hy rfl 1 (by decide) (hts _ (List.mem_cons_of_mem _ kw_196)) (fun _ h => h) rfl rfl kb_Vr_feed_43 ?_
      refine lv_iload hx hb kb_Vr_feed_46 (lv_at hl 3 rfl) ?_
      refine lv_iadd hx hb kb_Vr_feed_48 ?_
      refine lv_lload_n hx hb kb_Vr_feed_49 rfl (lv_at hl 1 rfl) ?_
      refine lv_bipush (v := (8 : Int32)) hx hb kb_Vr_feed_50 (by decide) ?_
      refine lv_iload hx hb kb_Vr_feed_52 (lv_at hl 3 rfl) ?_
      refine lv_imul hx hb kb_Vr_feed_54 ?_
      refine lv_lushr hx hb kb_Vr_feed_55 rfl ?_
      refine lv_l2i hx hb kb_Vr_feed_56 rfl ?_
      refine lv_i2b hx hb kb_Vr_feed_57 rfl ?_
      obtain ⟨n58, s58, hy, hi, hw⟩ := hw
      refine zr_bast hx hb hK hG hS 1 hy rfl hi kb_Vr_feed_58 (fun H locs hG hS => ?_)
      obtain ⟨σ58, e58⟩ : ∃ z, z = z_sA σ s58 r39 (upd (z_A σ s58 r39) ((z_I σ 701 a0) + v4).toNatClampNeg (vp_nar .byte ((((x1.toUInt64 >>> ((((8 : Int32)) * v4).toInt64.toUInt64 &&& Int64.toUInt64 63)).toInt64).toInt32).toInt8.toInt32))) := ⟨_, rfl⟩
      rw [← e58] at hG
      have hw := hw _ e58
      refine lv_iinc (v := v4 + (1 : Int32)) (lv' := [(4, .int (v4 + (1 : Int32))), (0, .ref a0), (1, .long x1), (3, .int x2)]) hx hb kb_Vr_feed_59 hl (k := 3) rfl rfl (by decide) rfl (fun ls hl => ?_)
      refine lv_goto (tgt := 32) hx hb kb_Vr_feed_62 (by decide) ?_
      exact hw _ _ _ hG hS (lv_sub hl [1, 2, 3, 0] rfl))
  refine lv_iload_n hx hb kb_Vr_feed_0 rfl (lv_at hl 2 rfl) ?_
  refine lv_iconst (v := (1 : Int32)) hx hb kb_Vr_feed_1 (by decide) ?_
  refine lv_icmp_lt (tgt := 11) hx hb kb_Vr_feed_2 (by decide) (fun hc => ?_) (fun hc => ?_)
  · have hw := hw.1 hc
    refine lv_bipush (v := (-2 : Int32)) hx hb kb_Vr_feed_11 (by decide) ?_
    exact zr_iret (free := fun q => Z ≤ q) z_nwN hx hb hr rfl hZ hK hN hG hS hw kb_Vr_feed_13 hlocks
  · have hw := hw.2 hc
    refine lv_iload_n hx hb kb_Vr_feed_5 rfl (lv_at hl 2 rfl) ?_
    refine lv_bipush (v := (8 : Int32)) hx hb kb_Vr_feed_6 (by decide) ?_
    refine lv_icmp_le (tgt := 14) hx hb kb_Vr_feed_8 (by decide) (fun hc => ?_) (fun hc => ?_)
    · have hw := hw.1 hc
      refine lv_aload_n hx hb kb_Vr_feed_14 rfl (lv_at hl 0 rfl) ?_
      obtain ⟨hy, hw⟩ := hw
      refine zr_getI (ci := 7) (f := 701) hx hb hts ki_Vr hown hK hG hy rfl 1 (by decide) (hts _ (List.mem_cons_of_mem _ kw_196)) (fun _ h => h) rfl rfl kb_Vr_feed_15 ?_
      refine lv_iload_n hx hb kb_Vr_feed_18 rfl (lv_at hl 2 rfl) ?_
      refine lv_iadd hx hb kb_Vr_feed_19 ?_
      refine lv_sipush (v := (600 : Int32)) hx hb kb_Vr_feed_20 (by decide) ?_
      refine lv_icmp_le (tgt := 29) hx hb kb_Vr_feed_23 (by decide) (fun hc => ?_) (fun hc => ?_)
      · have hw := hw.1 hc
        refine lv_iconst (v := (0 : Int32)) hx hb kb_Vr_feed_29 (by decide) ?_
        refine lv_istore (lv' := [(4, .int ((0 : Int32))), (0, .ref a0), (1, .long x1), (3, .int x2)]) hx hb kb_Vr_feed_30 hl (by decide) rfl (fun ls hl => ?_)
        exact hw _ _ _ hG hS (lv_sub hl [1, 2, 3, 0] rfl)
      · have hw := hw.2 hc
        refine lv_bipush (v := (-3 : Int32)) hx hb kb_Vr_feed_26 (by decide) ?_
        exact zr_iret (free := fun q => Z ≤ q) z_nwN hx hb hr rfl hZ hK hN hG hS hw kb_Vr_feed_28 hlocks
    · have hw := hw.2 hc
      refine lv_bipush (v := (-2 : Int32)) hx hb kb_Vr_feed_11 (by decide) ?_
      exact zr_iret (free := fun q => Z ≤ q) z_nwN hx hb hr rfl hZ hK hN hG hS hw kb_Vr_feed_13 hlocks
def kp_Vr_forgetRules (a0 : Nat) (σ : z_S) (Post : z_S → Prop) : Prop :=     (∀ q1, z_ty σ q1 = none → ∀ σ1, σ1 = z_new σ q1 2 → kp_Pr_init q1 σ1 (fun (σ5 : z_S) => z_ty σ5 a0 = some (.inl 7) ∧ ∀ σ8, σ8 = z_sR σ5 705 a0 (some q1) → z_ty σ8 a0 = some (.inl 7) ∧ ∀ σ13, σ13 = z_sI σ8 702 a0 ((-1 : Int32)) → z_ty σ13 a0 = some (.inl 7) ∧ ∀ σ18, σ18 = z_sI σ13 704 a0 ((0 : Int32)) → z_ty σ18 a0 = some (.inl 7) ∧ ∃ r22, z_R σ18 708 a0 = some r22 ∧ (z_ty σ18 r22 = some (.inl 6) ∧ ∀ σ26, σ26 = z_sI σ18 603 r22 ((0 : Int32)) → z_ty σ26 a0 = some (.inl 7) ∧ ∀ σ31, σ31 = z_sI σ26 710 a0 ((0 : Int32)) → z_ty σ31 a0 = some (.inl 7) ∧ ∃ r35, z_R σ31 711 a0 = some r35 ∧ (z_ty σ31 r35 = some (.inl 6) ∧ ∀ σ39, σ39 = z_sI σ31 603 r35 ((0 : Int32)) → Post σ39))))
set_option maxHeartbeats 4000000 in
set_option maxRecDepth 100000 in
theorem kc_Vr_forgetRules (l : Launch) (D : va_G) (dA : Nat → ClassId) (Z : Nat) (a0 : Nat) (σ : z_S) (Post : z_S → Prop) : Met l km_Vr_forgetRules ks_Vr_forgetRules kr_Vr_forgetRules (va_Pc [.ref a0] (fun U => z_U D z_cl z_KT dA Z (z_tys dA) z_nw σ U ∧ kp_Vr_forgetRules  a0 σ Post)) (z_Qv D z_cl z_KT dA Z (z_tys dA) z_nw Post) 6 59 (fun q => Z ≤ q) := by
  refine Met.ofW (cc := prog_1_method_20_code) (maxL := 1) (ret := none) (by decide) rfl ?_
  intro p e s m args below meth c s₁ B hml hv
  obtain ⟨rfl, ⟨hZ, hG, hK, hN⟩, hw⟩ := hv
  have hx := B.exec
  have hb := B.bytes
  have hr := B.returns
  have hts := atoms_spec (ws := ks_Vr_forgetRules) B.pre
  have hown : s.vm.findClass kR_Vr = some m.cls := findClass_of_methodNamed B.named
  have hlocks := B.notSynchronized
  have hS : va_S (fun q => Z ≤ q) s.heap s.heap [] := va_S.rf
  have hl := lv_entry ([.ref a0]) (n := 1) (Nat.le_of_ble_eq_true rfl)
  rw [lg_entry_eq]
  generalize (lg_sl ([.ref a0]) ++ List.replicate (1 - (lg_sl ([.ref a0])).length) Slot.unset).toArray = ls at hl ⊢
  have hl : lv_has ls 1 [(0, .ref a0)] := hl
  unfold kp_Vr_forgetRules at hw
  refine lv_aload_n hx hb kb_Vr_forgetRules_0 rfl (lv_at hl 0 rfl) ?_
  refine zr_new (ci := 2) hx hb hts ki_Pr ky_Pr kyo_Pr hown (hts _ (List.mem_cons_of_mem _ kw_19)) (hts _ (List.mem_cons_of_mem _ kw_20)) (hts _ (List.mem_cons_of_mem _ kw_2)) hK hG hS hZ rfl kd_Pr (Nat.le_of_ble_eq_true rfl) (Nat.le_of_ble_eq_true rfl) kb_Vr_forgetRules_1 (fun q1 H hq hG hS => ?_)
  obtain ⟨σ1, e1⟩ : ∃ z, z = z_new σ q1 2 := ⟨_, rfl⟩
  rw [← e1] at hG
  have hw := hw q1 hq _ e1
  refine lv_dup hx hb kb_Vr_forgetRules_4 rfl ?_
  refine zr_cv (va_runIN (b := q1) (As := []) (rest := [.ref q1, .ref a0]) ⟨hx, hb, hml, hown, hts⟩ (kc_Pr_init l D dA Z q1 σ1 _) ⟨va_cnB 0 hts (z_gw kw_22) rfl rfl rfl (hN _ kq_0) (hts _ (List.mem_cons_of_mem _ kw_2)) (by decide +kernel) ⟨Nat.le_of_ble_eq_true rfl, Nat.le_of_ble_eq_true rfl⟩, rfl, (hts _ (List.mem_cons_of_mem _ kw_21))⟩ (z_preS z_nwN (Nat.le_trans hZ hS.1) hG hK hN hw) rfl rfl hl.1 rfl (lv_room (Nat.le_of_ble_eq_true rfl)) kb_Vr_forgetRules_5 ⟨Nat.le_of_ble_eq_true rfl, Nat.le_of_ble_eq_true rfl⟩) hS (fun σ5 H locs hw hG hS => ?_)
  obtain ⟨hy, hw⟩ := hw
  refine zr_putR (ci := 7) (f := 705) hx hb hts ki_Vr ky_Vr kyo_Vr kn_Vr hown hK hG hS hy rfl 5 (by decide) (hts _ (List.mem_cons_of_mem _ kw_200)) (fun _ h => h) rfl rfl rfl rfl rfl kb_Vr_forgetRules_8 (fun H locs hG hS => ?_)
  obtain ⟨σ8, e8⟩ : ∃ z, z = z_sR σ5 705 a0 (some q1) := ⟨_, rfl⟩
  rw [← e8] at hG
  have hw := hw _ e8
  refine lv_aload_n hx hb kb_Vr_forgetRules_11 rfl (lv_at hl 0 rfl) ?_
  refine lv_iconst (v := (-1 : Int32)) hx hb kb_Vr_forgetRules_12 (by decide) ?_
  obtain ⟨hy, hw⟩ := hw
  refine zr_putI (ci := 7) (f := 702) hx hb hts ki_Vr ky_Vr kyo_Vr kn_Vr hown hK hG hS hy rfl 2 (by decide) (hts _ (List.mem_cons_of_mem _ kw_197)) (fun _ h => h) rfl rfl rfl rfl rfl kb_Vr_forgetRules_13 (fun H locs hG hS => ?_)
  obtain ⟨σ13, e13⟩ : ∃ z, z = z_sI σ8 702 a0 ((-1 : Int32)) := ⟨_, rfl⟩
  rw [← e13] at hG
  have hw := hw _ e13
  refine lv_aload_n hx hb kb_Vr_forgetRules_16 rfl (lv_at hl 0 rfl) ?_
  refine lv_iconst (v := (0 : Int32)) hx hb kb_Vr_forgetRules_17 (by decide) ?_
  obtain ⟨hy, hw⟩ := hw
  refine zr_putI (ci := 7) (f := 704) hx hb hts ki_Vr ky_Vr kyo_Vr kn_Vr hown hK hG hS hy rfl 4 (by decide) (hts _ (List.mem_cons_of_mem _ kw_199)) (fun _ h => h) rfl rfl rfl rfl rfl kb_Vr_forgetRules_18 (fun H locs hG hS => ?_)
  obtain ⟨σ18, e18⟩ : ∃ z, z = z_sI σ13 704 a0 ((0 : Int32)) := ⟨_, rfl⟩
  rw [← e18] at hG
  have hw := hw _ e18
  refine lv_aload_n hx hb kb_Vr_forgetRules_21 rfl (lv_at hl 0 rfl) ?_
  obtain ⟨hy, r22, hrf, hw⟩ := hw
  refine zr_getR (ci := 7) (f := 708) hx hb hts ki_Vr hown hK hG hy rfl 8 (by decide) (hts _ (List.mem_cons_of_mem _ kw_203)) (fun _ h => h) rfl rfl hrf kb_Vr_forgetRules_22 ?_
  refine lv_iconst (v := (0 : Int32)) hx hb kb_Vr_forgetRules_25 (by decide) ?_
  obtain ⟨hy, hw⟩ := hw
  refine zr_putI (ci := 6) (f := 603) hx hb hts ki_Si ky_Si kyo_Si kn_Si hown hK hG hS hy rfl 3 (by decide) (hts _ (List.mem_cons_of_mem _ kw_82)) (fun _ h => h) rfl rfl rfl rfl rfl kb_Vr_forgetRules_26 (fun H locs hG hS => ?_)
  obtain ⟨σ26, e26⟩ : ∃ z, z = z_sI σ18 603 r22 ((0 : Int32)) := ⟨_, rfl⟩
  rw [← e26] at hG
  have hw := hw _ e26
  refine lv_aload_n hx hb kb_Vr_forgetRules_29 rfl (lv_at hl 0 rfl) ?_
  refine lv_iconst (v := (0 : Int32)) hx hb kb_Vr_forgetRules_30 (by decide) ?_
  obtain ⟨hy, hw⟩ := hw
  refine zr_putI (ci := 7) (f := 710) hx hb hts ki_Vr ky_Vr kyo_Vr kn_Vr hown hK hG hS hy rfl 10 (by decide) (hts _ (List.mem_cons_of_mem _ kw_205)) (fun _ h => h) rfl rfl rfl rfl rfl kb_Vr_forgetRules_31 (fun H locs hG hS => ?_)
  obtain ⟨σ31, e31⟩ : ∃ z, z = z_sI σ26 710 a0 ((0 : Int32)) := ⟨_, rfl⟩
  rw [← e31] at hG
  have hw := hw _ e31
  refine lv_aload_n hx hb kb_Vr_forgetRules_34 rfl (lv_at hl 0 rfl) ?_
  obtain ⟨hy, r35, hrf, hw⟩ := hw
  refine zr_getR (ci := 7) (f := 711) hx hb hts ki_Vr hown hK hG hy rfl 11 (by decide) (hts _ (List.mem_cons_of_mem _ kw_206)) (fun _ h => h) rfl rfl hrf kb_Vr_forgetRules_35 ?_
  refine lv_iconst (v := (0 : Int32)) hx hb kb_Vr_forgetRules_38 (by decide) ?_
  obtain ⟨hy, hw⟩ := hw
  refine zr_putI (ci := 6) (f := 603) hx hb hts ki_Si ky_Si kyo_Si kn_Si hown hK hG hS hy rfl 3 (by decide) (hts _ (List.mem_cons_of_mem _ kw_82)) (fun _ h => h) rfl rfl rfl rfl rfl kb_Vr_forgetRules_39 (fun H locs hG hS => ?_)
  obtain ⟨σ39, e39⟩ : ∃ z, z = z_sI σ31 603 r35 ((0 : Int32)) := ⟨_, rfl⟩
  rw [← e39] at hG
  have hw := hw _ e39
  refine W.widen (k := 6) (n := 59) (Nat.le_of_ble_eq_true rfl) (Nat.le_of_ble_eq_true rfl) ?_
  exact zr_vret z_nwN hx hb hr hZ hK hN hG hS hw kb_Vr_forgetRules_42 hlocks
def kp_Vr_keepFault (a0 : Nat) (b1 : Nat) (σ : z_S) (Post : z_S → Prop) : Prop := ∀ (X10 : Int32 → z_S → Prop),
    (∀ (v2 : Int32) (σ : z_S), (z_ty σ b1 = some (.inl 3) ∧ ∃ r12, z_R σ 300 b1 = some r12 ∧ (z_ty σ r12 = some (.inl 2) ∧ (((z_I σ 206 r12) ≤ v2 → Post σ) ∧ (¬ (z_I σ 206 r12) ≤ v2 → z_ty σ b1 = some (.inl 3) ∧ ∃ r22, z_R σ 300 b1 = some r22 ∧ (z_ty σ r22 = some (.inl 2) ∧ (kp_Vr_isIn (z_I σ 208 r22) v2 σ (fun (r29 : Int32) (σ29 : z_S) => (r29 = 0 → X10 (v2 + (1 : Int32)) σ29) ∧ (¬ r29 = 0 → z_ty σ29 a0 = some (.inl 7) ∧ ∃ r36, z_R σ29 703 a0 = some r36 ∧ (z_ty σ29 a0 = some (.inl 7) ∧ (z_ty σ29 b1 = some (.inl 3) ∧ ∃ r44, z_R σ29 300 b1 = some r44 ∧ (z_ty σ29 r44 = some (.inl 2) ∧ ∃ r47, z_R σ29 202 r44 = some r47 ∧ (∃ n51 s51, z_ty σ29 r47 = some (.inr (0, n51, s51)) ∧ vp_in v2 n51 ∧ (∃ n52 s52, z_ty σ29 r36 = some (.inr (0, n52, s52)) ∧ vp_in (z_I σ29 704 a0) n52 ∧ ∀ σ52, σ52 = z_sA σ29 s52 r36 (upd (z_A σ29 s52 r36) (z_I σ29 704 a0).toNatClampNeg (z_A σ29 s51 r47 v2.toNatClampNeg)) → z_ty σ52 a0 = some (.inl 7) ∧ (z_ty σ52 a0 = some (.inl 7) ∧ ∀ σ60, σ60 = z_sI σ52 704 a0 ((z_I σ52 704 a0) + ((1 : Int32))) → X10 (v2 + (1 : Int32)) σ60)))))))))))))) → X10 v2 σ) →
    (z_ty σ b1 = some (.inl 3) ∧ (z_ty σ a0 = some (.inl 7) ∧ ∀ σ5, σ5 = z_sI σ 702 a0 (z_I σ 302 b1) → X10 ((0 : Int32)) σ5))
set_option maxHeartbeats 4000000 in
set_option maxRecDepth 100000 in
theorem kc_Vr_keepFault (l : Launch) (D : va_G) (dA : Nat → ClassId) (Z : Nat) (a0 : Nat) (b1 : Nat) (σ : z_S) (Post : z_S → Prop) : Met l km_Vr_keepFault ks_Vr_keepFault kr_Vr_keepFault (va_Pc [.ref a0, .ref b1] (fun U => z_U D z_cl z_KT dA Z (z_tys dA) z_nw σ U ∧ kp_Vr_keepFault  a0 b1 σ Post)) (z_Qv D z_cl z_KT dA Z (z_tys dA) z_nw Post) 0 0 (fun q => Z ≤ q) := by
  refine Met.ofW (cc := prog_1_method_21_code) (maxL := 3) (ret := none) (by decide) rfl ?_
  intro p e s m args below meth c s₁ B hml hv
  obtain ⟨rfl, ⟨hZ, hG, hK, hN⟩, hw⟩ := hv
  have hx := B.exec
  have hb := B.bytes
  have hr := B.returns
  have hts := atoms_spec (ws := ks_Vr_keepFault) B.pre
  have hown : s.vm.findClass kR_Vr = some m.cls := findClass_of_methodNamed B.named
  have hlocks := B.notSynchronized
  have hS : va_S (fun q => Z ≤ q) s.heap s.heap [] := va_S.rf
  have hl := lv_entry ([.ref a0, .ref b1]) (n := 3) (Nat.le_of_ble_eq_true rfl)
  rw [lg_entry_eq]
  generalize (lg_sl ([.ref a0, .ref b1]) ++ List.replicate (3 - (lg_sl ([.ref a0, .ref b1])).length) Slot.unset).toArray = ls at hl ⊢
  have hl : lv_has ls 3 [(0, .ref a0), (1, .ref b1)] := hl
  unfold kp_Vr_keepFault at hw
  have hw := hw (fun (v2 : Int32) (σ : z_S) => ∀ (H : Heap) (locs : List Loc) (ls : Array Slot), z_G D z_cl z_KT dA Z σ H → va_S (fun q => Z ≤ q) s.heap H locs → lv_has ls 3 [(0, .ref a0), (1, .ref b1), (2, .int v2)] → W p l e (headSpec ks_Vr_keepFault kr_Vr_keepFault).room s m ([.ref a0, .ref b1] : List Value).toArray below meth c H locs 0 0 (MQ below (z_Qv D z_cl z_KT dA Z (z_tys dA) z_nw Post) ([.ref a0, .ref b1] : List Value).toArray s 0 0 (fun q => Z ≤ q)) (F0 m 10 ls []))
  have hw := hw (by
    intro v2 σ hw H locs ls hG hS hl
    refine lv_iload_n hx hb kb_Vr_keepFault_10 rfl (lv_at hl 2 rfl) ?_
    refine lv_aload_n hx hb kb_Vr_keepFault_11 rfl (lv_at hl 1 rfl) ?_
    obtain ⟨hy, r12, hrf, hw⟩ := hw
    refine zr_getR (ci := 3) (f := 300) hx hb hts ki_Re hown hK hG hy rfl 0 (by decide) (hts _ (List.mem_cons_of_mem _ kw_241)) (fun _ h => h) rfl rfl hrf kb_Vr_keepFault_12 ?_
    obtain ⟨hy, hw⟩ := hw
    refine zr_getI (ci := 2) (f := 206) hx hb hts ki_Pr hown hK hG hy rfl 6 (by decide) (hts _ (List.mem_cons_of_mem _ kw_44)) (fun _ h => h) rfl rfl kb_Vr_keepFault_15 ?_
    refine lv_icmp_ge (tgt := 69) hx hb kb_Vr_keepFault_18 (by decide) (fun hc => ?_) (fun hc => ?_)
    · have hw := hw.1 hc
      exact zr_vret z_nwN hx hb hr hZ hK hN hG hS hw kb_Vr_keepFault_69 hlocks
    · have hw := hw.2 hc
      refine lv_aload_n hx hb kb_Vr_keepFault_21 rfl (lv_at hl 1 rfl) ?_
      obtain ⟨hy, r22, hrf, hw⟩ := hw
      refine zr_getR (ci := 3) (f := 300) hx hb hts ki_Re hown hK hG hy rfl 0 (by decide) (hts _ (List.mem_cons_of_mem _ kw_241)) (fun _ h => h) rfl rfl hrf kb_Vr_keepFault_22 ?_
      obtain ⟨hy, hw⟩ := hw
      refine zr_getI (ci := 2) (f := 208) hx hb hts ki_Pr hown hK hG hy rfl 8 (by decide) (hts _ (List.mem_cons_of_mem _ kw_49)) (fun _ h => h) rfl rfl kb_Vr_keepFault_25 ?_
      refine lv_iload_n hx hb kb_Vr_keepFault_28 rfl (lv_at hl 2 rfl) ?_
      refine zr_ci (va_runS (As := [.int (z_I σ 208 r22), .int v2]) (rest := []) ⟨hx, hb, hml, hown, hts⟩ (kc_Vr_isIn l D dA Z (z_I σ 208 r22) v2 σ _) ⟨callB_of 2 hts (z_gw kw_309) rfl rfl rfl (hts _ (List.mem_cons_of_mem _ kw_1)) (hts _ (List.mem_cons_of_mem _ kw_384)) (by decide +kernel) ⟨Nat.le_of_ble_eq_true rfl, Nat.le_of_ble_eq_true rfl⟩, (hts _ (List.mem_cons_of_mem _ kw_308))⟩ (z_preS z_nwN (Nat.le_trans hZ hS.1) hG hK hN hw) rfl rfl hl.1 rfl (lv_room (Nat.le_of_ble_eq_true rfl)) kb_Vr_keepFault_29 ⟨Nat.le_of_ble_eq_true rfl, Nat.le_of_ble_eq_true rfl⟩) hS (fun r29 σ29 H locs hw hG hS => ?_)
      refine lv_if_eq (tgt := 63) hx hb kb_Vr_keepFault_32 (by decide) (fun hc => ?_) (fun hc => ?_)
      · have hw := hw.1 hc
        refine lv_iinc (v := v2 + (1 : Int32)) (lv' := [(2, .int (v2 + (1 : Int32))), (0, .ref a0), (1, .ref b1)]) hx hb kb_Vr_keepFault_63 hl (k := 2) rfl rfl (by decide) rfl (fun ls hl => ?_)
        refine lv_goto (tgt := 10) hx hb kb_Vr_keepFault_66 (by decide) ?_
        exact hw _ _ _ hG hS (lv_sub hl [1, 2, 0] rfl)
      · have hw := hw.2 hc
        refine lv_aload_n hx hb kb_Vr_keepFault_35 rfl (lv_at hl 0 rfl) ?_
        obtain ⟨hy, r36, hrf, hw⟩ := hw
        refine zr_getR (ci := 7) (f := 703) hx hb hts ki_Vr hown hK hG hy rfl 3 (by decide) (hts _ (List.mem_cons_of_mem _ kw_198)) (fun _ h => h) rfl rfl hrf kb_Vr_keepFault_36 ?_
        refine lv_aload_n hx hb kb_Vr_keepFault_39 rfl (lv_at hl 0 rfl) ?_
        obtain ⟨hy, hw⟩ := hw
        refine zr_getI (ci := 7) (f := 704) hx hb hts ki_Vr hown hK hG hy rfl 4 (by decide) (hts _ (List.mem_cons_of_mem _ kw_199)) (fun _ h => h) rfl rfl kb_Vr_keepFault_40 ?_
        refine lv_aload_n hx hb kb_Vr_keepFault_43 rfl (lv_at hl 1 rfl) ?_
        obtain ⟨hy, r44, hrf, hw⟩ := hw
        refine zr_getR (ci := 3) (f := 300) hx hb hts ki_Re hown hK hG hy rfl 0 (by decide) (hts _ (List.mem_cons_of_mem _ kw_241)) (fun _ h => h) rfl rfl hrf kb_Vr_keepFault_44 ?_
        obtain ⟨hy, r47, hrf, hw⟩ := hw
        refine zr_getR (ci := 2) (f := 202) hx hb hts ki_Pr hown hK hG hy rfl 2 (by decide) (hts _ (List.mem_cons_of_mem _ kw_33)) (fun _ h => h) rfl rfl hrf kb_Vr_keepFault_47 ?_
        refine lv_iload_n hx hb kb_Vr_keepFault_50 rfl (lv_at hl 2 rfl) ?_
        obtain ⟨n51, s51, hy, hi, hw⟩ := hw
        refine zr_iald hx hb hK hG 0 hy rfl hi kb_Vr_keepFault_51 ?_
        obtain ⟨n52, s52, hy, hi, hw⟩ := hw
        refine zr_iast hx hb hK hG hS 0 hy rfl hi kb_Vr_keepFault_52 (fun H locs hG hS => ?_)
        obtain ⟨σ52, e52⟩ : ∃ z, z = z_sA σ29 s52 r36 (upd (z_A σ29 s52 r36) (z_I σ29 704 a0).toNatClampNeg (z_A σ29 s51 r47 v2.toNatClampNeg)) := ⟨_, rfl⟩
        rw [← e52] at hG
        have hw := hw _ e52
        refine lv_aload_n hx hb kb_Vr_keepFault_53 rfl (lv_at hl 0 rfl) ?_
        refine lv_dup hx hb kb_Vr_keepFault_54 rfl ?_
        obtain ⟨hy, hw⟩ := hw
        refine zr_getI (ci := 7) (f := 704) hx hb hts ki_Vr hown hK hG hy rfl 4 (by decide) (hts _ (List.mem_cons_of_mem _ kw_199)) (fun _ h => h) rfl rfl kb_Vr_keepFault_55 ?_
        refine lv_iconst (v := (1 : Int32)) hx hb kb_Vr_keepFault_58 (by decide) ?_
        refine lv_iadd hx hb kb_Vr_keepFault_59 ?_
        obtain ⟨hy, hw⟩ := hw
        refine zr_putI (ci := 7) (f := 704) hx hb hts ki_Vr ky_Vr kyo_Vr kn_Vr hown hK hG hS hy rfl 4 (by decide) (hts _ (List.mem_cons_of_mem _ kw_199)) (fun _ h => h) rfl rfl rfl rfl rfl kb_Vr_keepFault_60 (fun H locs hG hS => ?_)
        obtain ⟨σ60, e60⟩ : ∃ z, z = z_sI σ52 704 a0 ((z_I σ52 704 a0) + ((1 : Int32))) := ⟨_, rfl⟩
        rw [← e60] at hG
        have hw := hw _ e60
        refine lv_iinc (v := v2 + (1 : Int32)) (lv' := [(2, .int (v2 + (1 : Int32))), (0, .ref a0), (1, .ref b1)]) hx hb kb_Vr_keepFault_63 hl (k := 2) rfl rfl (by decide) rfl (fun ls hl => ?_)
        refine lv_goto (tgt := 10) hx hb kb_Vr_keepFault_66 (by decide) ?_
        exact hw _ _ _ hG hS (lv_sub hl [1, 2, 0] rfl))
  refine lv_aload_n hx hb kb_Vr_keepFault_0 rfl (lv_at hl 0 rfl) ?_
  refine lv_aload_n hx hb kb_Vr_keepFault_1 rfl (lv_at hl 1 rfl) ?_
  obtain ⟨hy, hw⟩ := hw
  refine zr_getI (ci := 3) (f := 302) hx hb hts ki_Re hown hK hG hy rfl 2 (by decide) (hts _ (List.mem_cons_of_mem _ kw_245)) (fun _ h => h) rfl rfl kb_Vr_keepFault_2 ?_
  obtain ⟨hy, hw⟩ := hw
  refine zr_putI (ci := 7) (f := 702) hx hb hts ki_Vr ky_Vr kyo_Vr kn_Vr hown hK hG hS hy rfl 2 (by decide) (hts _ (List.mem_cons_of_mem _ kw_197)) (fun _ h => h) rfl rfl rfl rfl rfl kb_Vr_keepFault_5 (fun H locs hG hS => ?_)
  obtain ⟨σ5, e5⟩ : ∃ z, z = z_sI σ 702 a0 (z_I σ 302 b1) := ⟨_, rfl⟩
  rw [← e5] at hG
  have hw := hw _ e5
  refine lv_iconst (v := (0 : Int32)) hx hb kb_Vr_keepFault_8 (by decide) ?_
  refine lv_istore_n (lv' := [(2, .int ((0 : Int32))), (0, .ref a0), (1, .ref b1)]) hx hb kb_Vr_keepFault_9 rfl hl (by decide) rfl (fun ls hl => ?_)
  exact hw _ _ _ hG hS (lv_sub hl [1, 2, 0] rfl)
def kp_Vr_takeNext (a0 : Nat) (σ : z_S) (Post : z_S → Prop) : Prop :=     (z_ty σ a0 = some (.inl 7) ∧ ∃ r1, z_R σ 706 a0 = some r1 ∧ (z_ty σ a0 = some (.inl 7) ∧ ∃ r7, z_R σ 707 a0 = some r7 ∧ (z_ty σ a0 = some (.inl 7) ∧ ∀ σ10, σ10 = z_sR σ 706 a0 (some r7) → z_ty σ10 a0 = some (.inl 7) ∧ ∀ σ15, σ15 = z_sR σ10 707 a0 (some r1) → Post σ15)))
set_option maxHeartbeats 4000000 in
set_option maxRecDepth 100000 in
theorem kc_Vr_takeNext (l : Launch) (D : va_G) (dA : Nat → ClassId) (Z : Nat) (a0 : Nat) (σ : z_S) (Post : z_S → Prop) : Met l km_Vr_takeNext ks_Vr_takeNext kr_Vr_takeNext (va_Pc [.ref a0] (fun U => z_U D z_cl z_KT dA Z (z_tys dA) z_nw σ U ∧ kp_Vr_takeNext  a0 σ Post)) (z_Qv D z_cl z_KT dA Z (z_tys dA) z_nw Post) 0 0 (fun q => Z ≤ q) := by
  refine Met.ofW (cc := prog_1_method_26_code) (maxL := 2) (ret := none) (by decide) rfl ?_
  intro p e s m args below meth c s₁ B hml hv
  obtain ⟨rfl, ⟨hZ, hG, hK, hN⟩, hw⟩ := hv
  have hx := B.exec
  have hb := B.bytes
  have hr := B.returns
  have hts := atoms_spec (ws := ks_Vr_takeNext) B.pre
  have hown : s.vm.findClass kR_Vr = some m.cls := findClass_of_methodNamed B.named
  have hlocks := B.notSynchronized
  have hS : va_S (fun q => Z ≤ q) s.heap s.heap [] := va_S.rf
  have hl := lv_entry ([.ref a0]) (n := 2) (Nat.le_of_ble_eq_true rfl)
  rw [lg_entry_eq]
  generalize (lg_sl ([.ref a0]) ++ List.replicate (2 - (lg_sl ([.ref a0])).length) Slot.unset).toArray = ls at hl ⊢
  have hl : lv_has ls 2 [(0, .ref a0)] := hl
  unfold kp_Vr_takeNext at hw
  refine lv_aload_n hx hb kb_Vr_takeNext_0 rfl (lv_at hl 0 rfl) ?_
  obtain ⟨hy, r1, hrf, hw⟩ := hw
  refine zr_getR (ci := 7) (f := 706) hx hb hts ki_Vr hown hK hG hy rfl 6 (by decide) (hts _ (List.mem_cons_of_mem _ kw_201)) (fun _ h => h) rfl rfl hrf kb_Vr_takeNext_1 ?_
  refine lv_astore_n (lv' := [(1, .ref r1), (0, .ref a0)]) hx hb kb_Vr_takeNext_4 rfl hl (by decide) rfl (fun ls hl => ?_)
  refine lv_aload_n hx hb kb_Vr_takeNext_5 rfl (lv_at hl 1 rfl) ?_
  refine lv_aload_n hx hb kb_Vr_takeNext_6 rfl (lv_at hl 1 rfl) ?_
  obtain ⟨hy, r7, hrf, hw⟩ := hw
  refine zr_getR (ci := 7) (f := 707) hx hb hts ki_Vr hown hK hG hy rfl 7 (by decide) (hts _ (List.mem_cons_of_mem _ kw_202)) (fun _ h => h) rfl rfl hrf kb_Vr_takeNext_7 ?_
  obtain ⟨hy, hw⟩ := hw
  refine zr_putR (ci := 7) (f := 706) hx hb hts ki_Vr ky_Vr kyo_Vr kn_Vr hown hK hG hS hy rfl 6 (by decide) (hts _ (List.mem_cons_of_mem _ kw_201)) (fun _ h => h) rfl rfl rfl rfl rfl kb_Vr_takeNext_10 (fun H locs hG hS => ?_)
  obtain ⟨σ10, e10⟩ : ∃ z, z = z_sR σ 706 a0 (some r7) := ⟨_, rfl⟩
  rw [← e10] at hG
  have hw := hw _ e10
  refine lv_aload_n hx hb kb_Vr_takeNext_13 rfl (lv_at hl 1 rfl) ?_
  refine lv_aload_n hx hb kb_Vr_takeNext_14 rfl (lv_at hl 0 rfl) ?_
  obtain ⟨hy, hw⟩ := hw
  refine zr_putR (ci := 7) (f := 707) hx hb hts ki_Vr ky_Vr kyo_Vr kn_Vr hown hK hG hS hy rfl 7 (by decide) (hts _ (List.mem_cons_of_mem _ kw_202)) (fun _ h => h) rfl rfl rfl rfl rfl kb_Vr_takeNext_15 (fun H locs hG hS => ?_)
  obtain ⟨σ15, e15⟩ : ∃ z, z = z_sR σ10 707 a0 (some r1) := ⟨_, rfl⟩
  rw [← e15] at hG
  have hw := hw _ e15
  exact zr_vret z_nwN hx hb hr hZ hK hN hG hS hw kb_Vr_takeNext_18 hlocks
def kp_Vr_parse (a0 : Nat) (σ : z_S) (Post : Int32 → z_S → Prop) : Prop := ∀ (X51 : Nat → Int32 → z_S → Prop),
    (∀ (v1 : Nat) (v2 : Int32) (σ : z_S), ((((8 : Int32)) ≤ v2 → z_ty σ a0 = some (.inl 7) ∧ ∃ r74, z_R σ 712 a0 = some r74 ∧ (z_ty σ v1 = some (.inl 3) ∧ ∃ r78, z_R σ 300 v1 = some r78 ∧ (z_ty σ a0 = some (.inl 7) ∧ ∃ r82, z_R σ 707 a0 = some r82 ∧ (z_ty σ r74 = some (.inl 1) ∧ kp_En_workViews r74 r78 r82 σ (fun (r85 : Int32) (σ85 : z_S) => (¬ r85 = 0 → z_ty σ85 v1 = some (.inl 3) ∧ ∃ r96, z_R σ85 300 v1 = some r96 ∧ (z_ty σ85 a0 = some (.inl 7) ∧ ∀ σ99, σ99 = z_sR σ85 705 a0 (some r96) → z_ty σ99 a0 = some (.inl 7) ∧ kp_Vr_takeNext a0 σ99 (fun (σ103 : z_S) => z_ty σ103 a0 = some (.inl 7) ∧ ∃ r107, z_R σ103 705 a0 = some r107 ∧ (z_ty σ103 r107 = some (.inl 2) ∧ (Post (z_I σ103 201 r107) σ103))))) ∧ (r85 = 0 → Post ((-3 : Int32)) σ85)))))) ∧ (¬ ((8 : Int32)) ≤ v2 → z_ty σ a0 = some (.inl 7) ∧ ∃ r58, z_R σ 707 a0 = some r58 ∧ (∃ n62 s62, z_ty σ r58 = some (.inr (9, n62, s62)) ∧ vp_in v2 n62 ∧ ∃ r62, z_Q σ s62 r58 v2.toNatClampNeg = some r62 ∧ (z_ty σ r62 = some (.inl 4) ∧ ∀ σ64, σ64 = z_sI σ 402 r62 ((0 : Int32)) → X51 v1 (v2 + (1 : Int32)) σ64)))) → X51 v1 v2 σ) →
    (∀ q0, z_ty σ q0 = none → ∀ σ0, σ0 = z_new σ q0 3 → z_ty σ0 a0 = some (.inl 7) ∧ ∃ r5, z_R σ0 700 a0 = some r5 ∧ (z_ty σ0 a0 = some (.inl 7) ∧ (kp_Re_init q0 r5 (z_I σ0 701 a0) σ0 (fun (σ12 : z_S) => z_ty σ12 q0 = some (.inl 3) ∧ kp_Re_readRules q0 σ12 (fun (σ17 : z_S) => z_ty σ17 a0 = some (.inl 7) ∧ ∀ σ22, σ22 = z_sI σ17 701 a0 ((0 : Int32)) → z_ty σ22 a0 = some (.inl 7) ∧ kp_Vr_forgetRules a0 σ22 (fun (σ26 : z_S) => z_ty σ26 q0 = some (.inl 3) ∧ ((((z_I σ26 301 q0)) = 0 → X51 q0 ((0 : Int32)) σ26) ∧ (¬ ((z_I σ26 301 q0)) = 0 → z_ty σ26 a0 = some (.inl 7) ∧ kp_Vr_keepFault a0 q0 σ26 (fun (σ38 : z_S) => z_ty σ38 q0 = some (.inl 3) ∧ (Post (((-10 : Int32)) - (z_I σ38 301 q0)) σ38))))))))))
set_option maxHeartbeats 4000000 in
set_option maxRecDepth 100000 in
theorem kc_Vr_parse (l : Launch) (D : va_G) (dA : Nat → ClassId) (Z : Nat) (a0 : Nat) (σ : z_S) (Post : Int32 → z_S → Prop) : Met l km_Vr_parse ks_Vr_parse kr_Vr_parse (va_Pc [.ref a0] (fun U => z_U D z_cl z_KT dA Z (z_tys dA) z_nw σ U ∧ kp_Vr_parse  a0 σ Post)) (z_Qi D z_cl z_KT dA Z (z_tys dA) z_nw Post) 289 1421 (fun q => Z ≤ q) := by
  refine Met.ofW (cc := prog_1_method_3_code) (maxL := 3) (ret := (some .int)) (by decide) rfl ?_
  intro p e s m args below meth c s₁ B hml hv
  obtain ⟨rfl, ⟨hZ, hG, hK, hN⟩, hw⟩ := hv
  have hx := B.exec
  have hb := B.bytes
  have hr := B.returns
  have hts := atoms_spec (ws := ks_Vr_parse) B.pre
  have hown : s.vm.findClass kR_Vr = some m.cls := findClass_of_methodNamed B.named
  have hlocks := B.notSynchronized
  have hS : va_S (fun q => Z ≤ q) s.heap s.heap [] := va_S.rf
  have hl := lv_entry ([.ref a0]) (n := 3) (Nat.le_of_ble_eq_true rfl)
  rw [lg_entry_eq]
  generalize (lg_sl ([.ref a0]) ++ List.replicate (3 - (lg_sl ([.ref a0])).length) Slot.unset).toArray = ls at hl ⊢
  have hl : lv_has ls 3 [(0, .ref a0)] := hl
  unfold kp_Vr_parse at hw
  have hw := hw (fun (v1 : Nat) (v2 : Int32) (σ : z_S) => ∀ (H : Heap) (locs : List Loc) (ls : Array Slot), z_G D z_cl z_KT dA Z σ H → va_S (fun q => Z ≤ q) s.heap H locs → lv_has ls 3 [(0, .ref a0), (1, .ref v1), (2, .int v2)] → W p l e (headSpec ks_Vr_parse kr_Vr_parse).room s m ([.ref a0] : List Value).toArray below meth c H locs 289 1421 (MQ below (z_Qi D z_cl z_KT dA Z (z_tys dA) z_nw Post) ([.ref a0] : List Value).toArray s 289 1421 (fun q => Z ≤ q)) (F0 m 51 ls []))
  have hw := hw (by
    intro v1 v2 σ hw H locs ls hG hS hl
    refine lv_iload_n hx hb kb_Vr_parse_51 rfl (lv_at hl 2 rfl) ?_
    refine lv_bipush (v := (8 : Int32)) hx hb kb_Vr_parse_52 (by decide) ?_
    refine lv_icmp_ge (tgt := 73) hx hb kb_Vr_parse_54 (by decide) (fun hc => ?_) (fun hc => ?_)
    · have hw := hw.1 hc
      refine lv_aload_n hx hb kb_Vr_parse_73 rfl (lv_at hl 0 rfl) ?_
      obtain ⟨hy, r74, hrf, hw⟩ := hw
      refine zr_getR (ci := 7) (f := 712) hx hb hts ki_Vr hown hK hG hy rfl 12 (by decide) (hts _ (List.mem_cons_of_mem _ kw_207)) (fun _ h => h) rfl rfl hrf kb_Vr_parse_74 ?_
      refine lv_aload_n hx hb kb_Vr_parse_77 rfl (lv_at hl 1 rfl) ?_
      obtain ⟨hy, r78, hrf, hw⟩ := hw
      refine zr_getR (ci := 3) (f := 300) hx hb hts ki_Re hown hK hG hy rfl 0 (by decide) (hts _ (List.mem_cons_of_mem _ kw_241)) (fun _ h => h) rfl rfl hrf kb_Vr_parse_78 ?_
      refine lv_aload_n hx hb kb_Vr_parse_81 rfl (lv_at hl 0 rfl) ?_
      obtain ⟨hy, r82, hrf, hw⟩ := hw
      refine zr_getR (ci := 7) (f := 707) hx hb hts ki_Vr hown hK hG hy rfl 7 (by decide) (hts _ (List.mem_cons_of_mem _ kw_202)) (fun _ h => h) rfl rfl hrf kb_Vr_parse_82 ?_
      obtain ⟨hy, hw⟩ := hw
      refine zr_ci (va_runV (C := kR_En) (As := [.ref r78, .ref r82]) (rest := []) ⟨hx, hb, hml, hown, hts⟩ (kc_En_workViews l D dA Z r74 r78 r82 σ _) ⟨callB_of 2 hts (z_gw kw_388) rfl rfl rfl (hts _ (List.mem_cons_of_mem _ kw_5)) (hts _ (List.mem_cons_of_mem _ kw_385)) (by decide +kernel) ⟨Nat.le_of_ble_eq_true rfl, Nat.le_of_ble_eq_true rfl⟩, (hts _ (List.mem_cons_of_mem _ kw_386)), (hts _ (List.mem_cons_of_mem _ kw_387))⟩ (z_preV z_nwN (Nat.le_trans hZ hS.1) hG hK hN hy (ci := 1) (r := (kR_En, kT_En, 12)) rfl hw) rfl rfl hl.1 rfl (lv_room (Nat.le_of_ble_eq_true rfl)) kb_Vr_parse_85 ⟨Nat.le_of_ble_eq_true rfl, Nat.le_of_ble_eq_true rfl⟩) hS (fun r85 σ85 H locs hw hG hS => ?_)
      refine lv_if_ne (tgt := 94) hx hb kb_Vr_parse_88 (by decide) (fun hc => ?_) (fun hc => ?_)
      · have hw := hw.1 hc
        refine lv_aload_n hx hb kb_Vr_parse_94 rfl (lv_at hl 0 rfl) ?_
        refine lv_aload_n hx hb kb_Vr_parse_95 rfl (lv_at hl 1 rfl) ?_
        obtain ⟨hy, r96, hrf, hw⟩ := hw
        refine zr_getR (ci := 3) (f := 300) hx hb hts ki_Re hown hK hG hy rfl 0 (by decide) (hts _ (List.mem_cons_of_mem _ kw_241)) (fun _ h => h) rfl rfl hrf kb_Vr_parse_96 ?_
        obtain ⟨hy, hw⟩ := hw
        refine zr_putR (ci := 7) (f := 705) hx hb hts ki_Vr ky_Vr kyo_Vr kn_Vr hown hK hG hS hy rfl 5 (by decide) (hts _ (List.mem_cons_of_mem _ kw_200)) (fun _ h => h) rfl rfl rfl rfl rfl kb_Vr_parse_99 (fun H locs hG hS => ?_)
        obtain ⟨σ99, e99⟩ : ∃ z, z = z_sR σ85 705 a0 (some r96) := ⟨_, rfl⟩
        rw [← e99] at hG
        have hw := hw _ e99
        refine lv_aload_n hx hb kb_Vr_parse_102 rfl (lv_at hl 0 rfl) ?_
        obtain ⟨hy, hw⟩ := hw
        refine zr_cv (va_runV (C := kR_Vr) (As := []) (rest := []) ⟨hx, hb, hml, hown, hts⟩ (kc_Vr_takeNext l D dA Z a0 σ99 _) ⟨callB_of 0 hts (z_gw kw_459) rfl rfl rfl (hts _ (List.mem_cons_of_mem _ kw_1)) (hts _ (List.mem_cons_of_mem _ kw_457)) (by decide +kernel) ⟨Nat.le_of_ble_eq_true rfl, Nat.le_of_ble_eq_true rfl⟩, (hts _ (List.mem_cons_of_mem _ kw_458)), (hts _ (List.mem_cons_of_mem _ kw_944))⟩ (z_preV z_nwN (Nat.le_trans hZ hS.1) hG hK hN hy (ci := 7) (r := (kR_Vr, kT_Vr, 13)) rfl hw) rfl rfl hl.1 rfl (lv_room (Nat.le_of_ble_eq_true rfl)) kb_Vr_parse_103 ⟨Nat.le_of_ble_eq_true rfl, Nat.le_of_ble_eq_true rfl⟩) hS (fun σ103 H locs hw hG hS => ?_)
        refine lv_aload_n hx hb kb_Vr_parse_106 rfl (lv_at hl 0 rfl) ?_
        obtain ⟨hy, r107, hrf, hw⟩ := hw
        refine zr_getR (ci := 7) (f := 705) hx hb hts ki_Vr hown hK hG hy rfl 5 (by decide) (hts _ (List.mem_cons_of_mem _ kw_200)) (fun _ h => h) rfl rfl hrf kb_Vr_parse_107 ?_
        obtain ⟨hy, hw⟩ := hw
        refine zr_getI (ci := 2) (f := 201) hx hb hts ki_Pr hown hK hG hy rfl 1 (by decide) (hts _ (List.mem_cons_of_mem _ kw_30)) (fun _ h => h) rfl rfl kb_Vr_parse_110 ?_
        exact zr_iret (free := fun q => Z ≤ q) z_nwN hx hb hr rfl hZ hK hN hG hS hw kb_Vr_parse_113 hlocks
      · have hw := hw.2 hc
        refine lv_bipush (v := (-3 : Int32)) hx hb kb_Vr_parse_91 (by decide) ?_
        exact zr_iret (free := fun q => Z ≤ q) z_nwN hx hb hr rfl hZ hK hN hG hS hw kb_Vr_parse_93 hlocks
    · have hw := hw.2 hc
      refine lv_aload_n hx hb kb_Vr_parse_57 rfl (lv_at hl 0 rfl) ?_
      obtain ⟨hy, r58, hrf, hw⟩ := hw
      refine zr_getR (ci := 7) (f := 707) hx hb hts ki_Vr hown hK hG hy rfl 7 (by decide) (hts _ (List.mem_cons_of_mem _ kw_202)) (fun _ h => h) rfl rfl hrf kb_Vr_parse_58 ?_
      refine lv_iload_n hx hb kb_Vr_parse_61 rfl (lv_at hl 2 rfl) ?_
      obtain ⟨n62, s62, hy, hi, r62, hrf, hw⟩ := hw
      refine zr_aald hx hb hK hG 4 (by decide) hy rfl hi hrf kb_Vr_parse_62 ?_
      refine lv_iconst (v := (0 : Int32)) hx hb kb_Vr_parse_63 (by decide) ?_
      obtain ⟨hy, hw⟩ := hw
      refine zr_putI (ci := 4) (f := 402) hx hb hts ki_Ro ky_Ro kyo_Ro kn_Ro hown hK hG hS hy rfl 2 (by decide) (hts _ (List.mem_cons_of_mem _ kw_191)) (fun _ h => h) rfl rfl rfl rfl rfl kb_Vr_parse_64 (fun H locs hG hS => ?_)
      obtain ⟨σ64, e64⟩ : ∃ z, z = z_sI σ 402 r62 ((0 : Int32)) := ⟨_, rfl⟩
      rw [← e64] at hG
      have hw := hw _ e64
      refine lv_iinc (v := v2 + (1 : Int32)) (lv' := [(2, .int (v2 + (1 : Int32))), (0, .ref a0), (1, .ref v1)]) hx hb kb_Vr_parse_67 hl (k := 2) rfl rfl (by decide) rfl (fun ls hl => ?_)
      refine lv_goto (tgt := 51) hx hb kb_Vr_parse_70 (by decide) ?_
      exact hw _ _ _ hG hS (lv_sub hl [1, 2, 0] rfl))
  refine zr_new (ci := 3) hx hb hts ki_Re ky_Re kyo_Re hown (hts _ (List.mem_cons_of_mem _ kw_229)) (hts _ (List.mem_cons_of_mem _ kw_230)) (hts _ (List.mem_cons_of_mem _ kw_10)) hK hG hS hZ rfl kd_Re (Nat.le_of_ble_eq_true rfl) (Nat.le_of_ble_eq_true rfl) kb_Vr_parse_0 (fun q0 H hq hG hS => ?_)
  obtain ⟨σ0, e0⟩ : ∃ z, z = z_new σ q0 3 := ⟨_, rfl⟩
  rw [← e0] at hG
  have hw := hw q0 hq _ e0
  refine lv_dup hx hb kb_Vr_parse_3 rfl ?_
  refine lv_aload_n hx hb kb_Vr_parse_4 rfl (lv_at hl 0 rfl) ?_
  obtain ⟨hy, r5, hrf, hw⟩ := hw
  refine zr_getR (ci := 7) (f := 700) hx hb hts ki_Vr hown hK hG hy rfl 0 (by decide) (hts _ (List.mem_cons_of_mem _ kw_195)) (fun _ h => h) rfl rfl hrf kb_Vr_parse_5 ?_
  refine lv_aload_n hx hb kb_Vr_parse_8 rfl (lv_at hl 0 rfl) ?_
  obtain ⟨hy, hw⟩ := hw
  refine zr_getI (ci := 7) (f := 701) hx hb hts ki_Vr hown hK hG hy rfl 1 (by decide) (hts _ (List.mem_cons_of_mem _ kw_196)) (fun _ h => h) rfl rfl kb_Vr_parse_9 ?_
  refine zr_cv (va_runI (b := q0) (As := [.ref r5, .int (z_I σ0 701 a0)]) (rest := [.ref q0]) ⟨hx, hb, hml, hown, hts⟩ (kc_Re_init l D dA Z q0 r5 (z_I σ0 701 a0) σ0 _) ⟨callB_of 2 hts (z_gw kw_233) rfl rfl rfl (hts _ (List.mem_cons_of_mem _ kw_10)) (hts _ (List.mem_cons_of_mem _ kw_231)) (by decide +kernel) ⟨Nat.le_of_ble_eq_true rfl, Nat.le_of_ble_eq_true rfl⟩, rfl, (hts _ (List.mem_cons_of_mem _ kw_232))⟩ (z_preS z_nwN (Nat.le_trans hZ hS.1) hG hK hN hw) rfl rfl hl.1 rfl (lv_room (Nat.le_of_ble_eq_true rfl)) kb_Vr_parse_12 ⟨Nat.le_of_ble_eq_true rfl, Nat.le_of_ble_eq_true rfl⟩) hS (fun σ12 H locs hw hG hS => ?_)
  refine lv_astore_n (lv' := [(1, .ref q0), (0, .ref a0)]) hx hb kb_Vr_parse_15 rfl hl (by decide) rfl (fun ls hl => ?_)
  refine lv_aload_n hx hb kb_Vr_parse_16 rfl (lv_at hl 0 rfl) ?_
  obtain ⟨hy, hw⟩ := hw
  refine zr_cv (va_runV (C := kR_Re) (As := []) (rest := []) ⟨hx, hb, hml, hown, hts⟩ (kc_Re_readRules l D dA Z q0 σ12 _) ⟨callB_of 0 hts (z_gw kw_260) rfl rfl rfl (hts _ (List.mem_cons_of_mem _ kw_10)) (hts _ (List.mem_cons_of_mem _ kw_257)) (by decide +kernel) ⟨Nat.le_of_ble_eq_true rfl, Nat.le_of_ble_eq_true rfl⟩, (hts _ (List.mem_cons_of_mem _ kw_258)), (hts _ (List.mem_cons_of_mem _ kw_259))⟩ (z_preV z_nwN (Nat.le_trans hZ hS.1) hG hK hN hy (ci := 3) (r := (kR_Re, kT_Re, 7)) rfl hw) rfl rfl hl.1 rfl (lv_room (Nat.le_of_ble_eq_true rfl)) kb_Vr_parse_17 ⟨Nat.le_of_ble_eq_true rfl, Nat.le_of_ble_eq_true rfl⟩) hS (fun σ17 H locs hw hG hS => ?_)
  refine lv_aload_n hx hb kb_Vr_parse_20 rfl (lv_at hl 1 rfl) ?_
  refine lv_iconst (v := (0 : Int32)) hx hb kb_Vr_parse_21 (by decide) ?_
  obtain ⟨hy, hw⟩ := hw
  refine zr_putI (ci := 7) (f := 701) hx hb hts ki_Vr ky_Vr kyo_Vr kn_Vr hown hK hG hS hy rfl 1 (by decide) (hts _ (List.mem_cons_of_mem _ kw_196)) (fun _ h => h) rfl rfl rfl rfl rfl kb_Vr_parse_22 (fun H locs hG hS => ?_)
  obtain ⟨σ22, e22⟩ : ∃ z, z = z_sI σ17 701 a0 ((0 : Int32)) := ⟨_, rfl⟩
  rw [← e22] at hG
  have hw := hw _ e22
  refine lv_aload_n hx hb kb_Vr_parse_25 rfl (lv_at hl 1 rfl) ?_
  obtain ⟨hy, hw⟩ := hw
  refine zr_cv (va_runV (C := kR_Vr) (As := []) (rest := []) ⟨hx, hb, hml, hown, hts⟩ (kc_Vr_forgetRules l D dA Z a0 σ22 _) ⟨callB_of 0 hts (z_gw kw_380) rfl rfl rfl (hts _ (List.mem_cons_of_mem _ kw_1)) (hts _ (List.mem_cons_of_mem _ kw_378)) (by decide +kernel) ⟨Nat.le_of_ble_eq_true rfl, Nat.le_of_ble_eq_true rfl⟩, (hts _ (List.mem_cons_of_mem _ kw_379)), (hts _ (List.mem_cons_of_mem _ kw_926))⟩ (z_preV z_nwN (Nat.le_trans hZ hS.1) hG hK hN hy (ci := 7) (r := (kR_Vr, kT_Vr, 13)) rfl hw) rfl rfl hl.1 rfl (lv_room (Nat.le_of_ble_eq_true rfl)) kb_Vr_parse_26 ⟨Nat.le_of_ble_eq_true rfl, Nat.le_of_ble_eq_true rfl⟩) hS (fun σ26 H locs hw hG hS => ?_)
  refine lv_aload_n hx hb kb_Vr_parse_29 rfl (lv_at hl 0 rfl) ?_
  obtain ⟨hy, hw⟩ := hw
  refine zr_getI (ci := 3) (f := 301) hx hb hts ki_Re hown hK hG hy rfl 1 (by decide) (hts _ (List.mem_cons_of_mem _ kw_242)) (fun _ h => h) rfl rfl kb_Vr_parse_30 ?_
  refine lv_if_eq (tgt := 49) hx hb kb_Vr_parse_33 (by decide) (fun hc => ?_) (fun hc => ?_)
  · have hw := hw.1 hc
    refine lv_iconst (v := (0 : Int32)) hx hb kb_Vr_parse_49 (by decide) ?_
    refine lv_istore_n (lv' := [(2, .int ((0 : Int32))), (1, .ref q0), (0, .ref a0)]) hx hb kb_Vr_parse_50 rfl hl (by decide) rfl (fun ls hl => ?_)
    refine W.widen (k := 289) (n := 1421) (Nat.le_of_ble_eq_true rfl) (Nat.le_of_ble_eq_true rfl) ?_
    exact hw _ _ _ hG hS (lv_sub hl [2, 1, 0] rfl)
  · have hw := hw.2 hc
    refine lv_aload_n hx hb kb_Vr_parse_36 rfl (lv_at hl 1 rfl) ?_
    refine lv_aload_n hx hb kb_Vr_parse_37 rfl (lv_at hl 0 rfl) ?_
    obtain ⟨hy, hw⟩ := hw
    refine zr_cv (va_runV (C := kR_Vr) (As := [.ref q0]) (rest := []) ⟨hx, hb, hml, hown, hts⟩ (kc_Vr_keepFault l D dA Z a0 q0 σ26 _) ⟨callB_of 1 hts (z_gw kw_383) rfl rfl rfl (hts _ (List.mem_cons_of_mem _ kw_1)) (hts _ (List.mem_cons_of_mem _ kw_381)) (by decide +kernel) ⟨Nat.le_of_ble_eq_true rfl, Nat.le_of_ble_eq_true rfl⟩, (hts _ (List.mem_cons_of_mem _ kw_382)), (hts _ (List.mem_cons_of_mem _ kw_927))⟩ (z_preV z_nwN (Nat.le_trans hZ hS.1) hG hK hN hy (ci := 7) (r := (kR_Vr, kT_Vr, 13)) rfl hw) rfl rfl hl.1 rfl (lv_room (Nat.le_of_ble_eq_true rfl)) kb_Vr_parse_38 ⟨Nat.le_of_ble_eq_true rfl, Nat.le_of_ble_eq_true rfl⟩) hS (fun σ38 H locs hw hG hS => ?_)
    refine lv_bipush (v := (-10 : Int32)) hx hb kb_Vr_parse_41 (by decide) ?_
    refine lv_aload_n hx hb kb_Vr_parse_43 rfl (lv_at hl 0 rfl) ?_
    obtain ⟨hy, hw⟩ := hw
    refine zr_getI (ci := 3) (f := 301) hx hb hts ki_Re hown hK hG hy rfl 1 (by decide) (hts _ (List.mem_cons_of_mem _ kw_242)) (fun _ h => h) rfl rfl kb_Vr_parse_44 ?_
    refine lv_isub hx hb kb_Vr_parse_47 ?_
    refine W.widen (k := 289) (n := 1421) (Nat.le_of_ble_eq_true rfl) (Nat.le_of_ble_eq_true rfl) ?_
    exact zr_iret (free := fun q => Z ≤ q) z_nwN hx hb hr rfl hZ hK hN hG hS hw kb_Vr_parse_48 hlocks
def kp_Vr_place (a0 : Nat) (σ : z_S) (Post : Int32 → z_S → Prop) : Prop :=     (z_ty σ a0 = some (.inl 7) ∧ (Post (z_I σ 702 a0) σ))
set_option maxHeartbeats 4000000 in
set_option maxRecDepth 100000 in
theorem kc_Vr_place (l : Launch) (D : va_G) (dA : Nat → ClassId) (Z : Nat) (a0 : Nat) (σ : z_S) (Post : Int32 → z_S → Prop) : Met l km_Vr_place ks_Vr_place kr_Vr_place (va_Pc [.ref a0] (fun U => z_U D z_cl z_KT dA Z (z_tys dA) z_nw σ U ∧ kp_Vr_place  a0 σ Post)) (z_Qi D z_cl z_KT dA Z (z_tys dA) z_nw Post) 0 0 (fun q => Z ≤ q) := by
  refine Met.ofW (cc := prog_1_method_4_code) (maxL := 1) (ret := (some .int)) (by decide) rfl ?_
  intro p e s m args below meth c s₁ B hml hv
  obtain ⟨rfl, ⟨hZ, hG, hK, hN⟩, hw⟩ := hv
  have hx := B.exec
  have hb := B.bytes
  have hr := B.returns
  have hts := atoms_spec (ws := ks_Vr_place) B.pre
  have hown : s.vm.findClass kR_Vr = some m.cls := findClass_of_methodNamed B.named
  have hlocks := B.notSynchronized
  have hS : va_S (fun q => Z ≤ q) s.heap s.heap [] := va_S.rf
  have hl := lv_entry ([.ref a0]) (n := 1) (Nat.le_of_ble_eq_true rfl)
  rw [lg_entry_eq]
  generalize (lg_sl ([.ref a0]) ++ List.replicate (1 - (lg_sl ([.ref a0])).length) Slot.unset).toArray = ls at hl ⊢
  have hl : lv_has ls 1 [(0, .ref a0)] := hl
  unfold kp_Vr_place at hw
  refine lv_aload_n hx hb kb_Vr_place_0 rfl (lv_at hl 0 rfl) ?_
  obtain ⟨hy, hw⟩ := hw
  refine zr_getI (ci := 7) (f := 702) hx hb hts ki_Vr hown hK hG hy rfl 2 (by decide) (hts _ (List.mem_cons_of_mem _ kw_197)) (fun _ h => h) rfl rfl kb_Vr_place_1 ?_
  exact zr_iret (free := fun q => Z ≤ q) z_nwN hx hb hr rfl hZ hK hN hG hS hw kb_Vr_place_4 hlocks
def kp_Vr_ring (a0 : Nat) (x1 : Int32) (σ : z_S) (Post : Int32 → z_S → Prop) : Prop :=     ((x1 < 0 → Post ((-1 : Int32)) σ) ∧ (¬ x1 < 0 → z_ty σ a0 = some (.inl 7) ∧ ((x1 < (z_I σ 704 a0) → z_ty σ a0 = some (.inl 7) ∧ ∃ r17, z_R σ 703 a0 = some r17 ∧ (∃ n21 s21, z_ty σ r17 = some (.inr (0, n21, s21)) ∧ vp_in x1 n21 ∧ (Post (z_A σ s21 r17 x1.toNatClampNeg) σ))) ∧ (¬ x1 < (z_I σ 704 a0) → Post ((-1 : Int32)) σ))))
set_option maxHeartbeats 4000000 in
set_option maxRecDepth 100000 in
theorem kc_Vr_ring (l : Launch) (D : va_G) (dA : Nat → ClassId) (Z : Nat) (a0 : Nat) (x1 : Int32) (σ : z_S) (Post : Int32 → z_S → Prop) : Met l km_Vr_ring ks_Vr_ring kr_Vr_ring (va_Pc [.ref a0, .int x1] (fun U => z_U D z_cl z_KT dA Z (z_tys dA) z_nw σ U ∧ kp_Vr_ring  a0 x1 σ Post)) (z_Qi D z_cl z_KT dA Z (z_tys dA) z_nw Post) 0 0 (fun q => Z ≤ q) := by
  refine Met.ofW (cc := prog_1_method_5_code) (maxL := 2) (ret := (some .int)) (by decide) rfl ?_
  intro p e s m args below meth c s₁ B hml hv
  obtain ⟨rfl, ⟨hZ, hG, hK, hN⟩, hw⟩ := hv
  have hx := B.exec
  have hb := B.bytes
  have hr := B.returns
  have hts := atoms_spec (ws := ks_Vr_ring) B.pre
  have hown : s.vm.findClass kR_Vr = some m.cls := findClass_of_methodNamed B.named
  have hlocks := B.notSynchronized
  have hS : va_S (fun q => Z ≤ q) s.heap s.heap [] := va_S.rf
  have hl := lv_entry ([.ref a0, .int x1]) (n := 2) (Nat.le_of_ble_eq_true rfl)
  rw [lg_entry_eq]
  generalize (lg_sl ([.ref a0, .int x1]) ++ List.replicate (2 - (lg_sl ([.ref a0, .int x1])).length) Slot.unset).toArray = ls at hl ⊢
  have hl : lv_has ls 2 [(0, .ref a0), (1, .int x1)] := hl
  unfold kp_Vr_ring at hw
  refine lv_iload_n hx hb kb_Vr_ring_0 rfl (lv_at hl 1 rfl) ?_
  refine lv_if_lt (tgt := 12) hx hb kb_Vr_ring_1 (by decide) (fun hc => ?_) (fun hc => ?_)
  · have hw := hw.1 hc
    refine lv_iconst (v := (-1 : Int32)) hx hb kb_Vr_ring_12 (by decide) ?_
    refine lv_goto (tgt := 22) hx hb kb_Vr_ring_13 (by decide) ?_
    exact zr_iret (free := fun q => Z ≤ q) z_nwN hx hb hr rfl hZ hK hN hG hS hw kb_Vr_ring_22 hlocks
  · have hw := hw.2 hc
    refine lv_iload_n hx hb kb_Vr_ring_4 rfl (lv_at hl 1 rfl) ?_
    refine lv_aload_n hx hb kb_Vr_ring_5 rfl (lv_at hl 0 rfl) ?_
    obtain ⟨hy, hw⟩ := hw
    refine zr_getI (ci := 7) (f := 704) hx hb hts ki_Vr hown hK hG hy rfl 4 (by decide) (hts _ (List.mem_cons_of_mem _ kw_199)) (fun _ h => h) rfl rfl kb_Vr_ring_6 ?_
    refine lv_icmp_lt (tgt := 16) hx hb kb_Vr_ring_9 (by decide) (fun hc => ?_) (fun hc => ?_)
    · have hw := hw.1 hc
      refine lv_aload_n hx hb kb_Vr_ring_16 rfl (lv_at hl 0 rfl) ?_
      obtain ⟨hy, r17, hrf, hw⟩ := hw
      refine zr_getR (ci := 7) (f := 703) hx hb hts ki_Vr hown hK hG hy rfl 3 (by decide) (hts _ (List.mem_cons_of_mem _ kw_198)) (fun _ h => h) rfl rfl hrf kb_Vr_ring_17 ?_
      refine lv_iload_n hx hb kb_Vr_ring_20 rfl (lv_at hl 1 rfl) ?_
      obtain ⟨n21, s21, hy, hi, hw⟩ := hw
      refine zr_iald hx hb hK hG 0 hy rfl hi kb_Vr_ring_21 ?_
      exact zr_iret (free := fun q => Z ≤ q) z_nwN hx hb hr rfl hZ hK hN hG hS hw kb_Vr_ring_22 hlocks
    · have hw := hw.2 hc
      refine lv_iconst (v := (-1 : Int32)) hx hb kb_Vr_ring_12 (by decide) ?_
      refine lv_goto (tgt := 22) hx hb kb_Vr_ring_13 (by decide) ?_
      exact zr_iret (free := fun q => Z ≤ q) z_nwN hx hb hr rfl hZ hK hN hG hS hw kb_Vr_ring_22 hlocks
def kp_Vr_hasNoRules (a0 : Nat) (σ : z_S) (Post : Int32 → z_S → Prop) : Prop :=     (z_ty σ a0 = some (.inl 7) ∧ ∃ r1, z_R σ 705 a0 = some r1 ∧ (z_ty σ r1 = some (.inl 2) ∧ ((¬ ((z_I σ 201 r1)) = 0 → Post ((0 : Int32)) σ) ∧ (((z_I σ 201 r1)) = 0 → Post ((1 : Int32)) σ))))
set_option maxHeartbeats 4000000 in
set_option maxRecDepth 100000 in
theorem kc_Vr_hasNoRules (l : Launch) (D : va_G) (dA : Nat → ClassId) (Z : Nat) (a0 : Nat) (σ : z_S) (Post : Int32 → z_S → Prop) : Met l km_Vr_hasNoRules ks_Vr_hasNoRules kr_Vr_hasNoRules (va_Pc [.ref a0] (fun U => z_U D z_cl z_KT dA Z (z_tys dA) z_nw σ U ∧ kp_Vr_hasNoRules  a0 σ Post)) (z_Qi D z_cl z_KT dA Z (z_tys dA) z_nw Post) 0 0 (fun q => Z ≤ q) := by
  refine Met.ofW (cc := prog_1_method_19_code) (maxL := 1) (ret := (some .boolean)) (by decide) rfl ?_
  intro p e s m args below meth c s₁ B hml hv
  obtain ⟨rfl, ⟨hZ, hG, hK, hN⟩, hw⟩ := hv
  have hx := B.exec
  have hb := B.bytes
  have hr := B.returns
  have hts := atoms_spec (ws := ks_Vr_hasNoRules) B.pre
  have hown : s.vm.findClass kR_Vr = some m.cls := findClass_of_methodNamed B.named
  have hlocks := B.notSynchronized
  have hS : va_S (fun q => Z ≤ q) s.heap s.heap [] := va_S.rf
  have hl := lv_entry ([.ref a0]) (n := 1) (Nat.le_of_ble_eq_true rfl)
  rw [lg_entry_eq]
  generalize (lg_sl ([.ref a0]) ++ List.replicate (1 - (lg_sl ([.ref a0])).length) Slot.unset).toArray = ls at hl ⊢
  have hl : lv_has ls 1 [(0, .ref a0)] := hl
  unfold kp_Vr_hasNoRules at hw
  refine lv_aload_n hx hb kb_Vr_hasNoRules_0 rfl (lv_at hl 0 rfl) ?_
  obtain ⟨hy, r1, hrf, hw⟩ := hw
  refine zr_getR (ci := 7) (f := 705) hx hb hts ki_Vr hown hK hG hy rfl 5 (by decide) (hts _ (List.mem_cons_of_mem _ kw_200)) (fun _ h => h) rfl rfl hrf kb_Vr_hasNoRules_1 ?_
  obtain ⟨hy, hw⟩ := hw
  refine zr_getI (ci := 2) (f := 201) hx hb hts ki_Pr hown hK hG hy rfl 1 (by decide) (hts _ (List.mem_cons_of_mem _ kw_30)) (fun _ h => h) rfl rfl kb_Vr_hasNoRules_4 ?_
  refine lv_if_ne (tgt := 14) hx hb kb_Vr_hasNoRules_7 (by decide) (fun hc => ?_) (fun hc => ?_)
  · have hw := hw.1 hc
    refine lv_iconst (v := (0 : Int32)) hx hb kb_Vr_hasNoRules_14 (by decide) ?_
    exact zr_iret (free := fun q => Z ≤ q) z_nwN hx hb hr rfl hZ hK hN hG hS hw kb_Vr_hasNoRules_15 hlocks
  · have hw := hw.2 hc
    refine lv_iconst (v := (1 : Int32)) hx hb kb_Vr_hasNoRules_10 (by decide) ?_
    refine lv_goto (tgt := 15) hx hb kb_Vr_hasNoRules_11 (by decide) ?_
    exact zr_iret (free := fun q => Z ≤ q) z_nwN hx hb hr rfl hZ hK hN hG hS hw kb_Vr_hasNoRules_15 hlocks
def kp_Vr_relation (a0 : Nat) (x1 : Int32) (σ : z_S) (Post : Int32 → z_S → Prop) : Prop :=     (z_ty σ a0 = some (.inl 7) ∧ kp_Vr_hasNoRules a0 σ (fun (r1 : Int32) (σ1 : z_S) => (r1 = 0 → z_ty σ1 a0 = some (.inl 7) ∧ ∃ r11, z_R σ1 705 a0 = some r11 ∧ (z_ty σ1 r11 = some (.inl 2) ∧ kp_Pr_relationNamed r11 x1 σ1 (fun (r15 : Int32) (σ15 : z_S) => Post r15 σ15))) ∧ (¬ r1 = 0 → Post ((-4 : Int32)) σ1)))
set_option maxHeartbeats 4000000 in
set_option maxRecDepth 100000 in
theorem kc_Vr_relation (l : Launch) (D : va_G) (dA : Nat → ClassId) (Z : Nat) (a0 : Nat) (x1 : Int32) (σ : z_S) (Post : Int32 → z_S → Prop) : Met l km_Vr_relation ks_Vr_relation kr_Vr_relation (va_Pc [.ref a0, .int x1] (fun U => z_U D z_cl z_KT dA Z (z_tys dA) z_nw σ U ∧ kp_Vr_relation  a0 x1 σ Post)) (z_Qi D z_cl z_KT dA Z (z_tys dA) z_nw Post) 0 0 (fun q => Z ≤ q) := by
  refine Met.ofW (cc := prog_1_method_6_code) (maxL := 2) (ret := (some .int)) (by decide) rfl ?_
  intro p e s m args below meth c s₁ B hml hv
  obtain ⟨rfl, ⟨hZ, hG, hK, hN⟩, hw⟩ := hv
  have hx := B.exec
  have hb := B.bytes
  have hr := B.returns
  have hts := atoms_spec (ws := ks_Vr_relation) B.pre
  have hown : s.vm.findClass kR_Vr = some m.cls := findClass_of_methodNamed B.named
  have hlocks := B.notSynchronized
  have hS : va_S (fun q => Z ≤ q) s.heap s.heap [] := va_S.rf
  have hl := lv_entry ([.ref a0, .int x1]) (n := 2) (Nat.le_of_ble_eq_true rfl)
  rw [lg_entry_eq]
  generalize (lg_sl ([.ref a0, .int x1]) ++ List.replicate (2 - (lg_sl ([.ref a0, .int x1])).length) Slot.unset).toArray = ls at hl ⊢
  have hl : lv_has ls 2 [(0, .ref a0), (1, .int x1)] := hl
  unfold kp_Vr_relation at hw
  refine lv_aload_n hx hb kb_Vr_relation_0 rfl (lv_at hl 0 rfl) ?_
  obtain ⟨hy, hw⟩ := hw
  refine zr_ci (va_runV (C := kR_Vr) (As := []) (rest := []) ⟨hx, hb, hml, hown, hts⟩ (kc_Vr_hasNoRules l D dA Z a0 σ _) ⟨callB_of 0 hts (z_gw kw_474) rfl rfl rfl (hts _ (List.mem_cons_of_mem _ kw_1)) (hts _ (List.mem_cons_of_mem _ kw_472)) (by decide +kernel) ⟨Nat.le_of_ble_eq_true rfl, Nat.le_of_ble_eq_true rfl⟩, (hts _ (List.mem_cons_of_mem _ kw_473)), (hts _ (List.mem_cons_of_mem _ kw_945))⟩ (z_preV z_nwN (Nat.le_trans hZ hS.1) hG hK hN hy (ci := 7) (r := (kR_Vr, kT_Vr, 13)) rfl hw) rfl rfl hl.1 rfl (lv_room (Nat.le_of_ble_eq_true rfl)) kb_Vr_relation_1 ⟨Nat.le_of_ble_eq_true rfl, Nat.le_of_ble_eq_true rfl⟩) hS (fun r1 σ1 H locs hw hG hS => ?_)
  refine lv_if_eq (tgt := 10) hx hb kb_Vr_relation_4 (by decide) (fun hc => ?_) (fun hc => ?_)
  · have hw := hw.1 hc
    refine lv_aload_n hx hb kb_Vr_relation_10 rfl (lv_at hl 0 rfl) ?_
    obtain ⟨hy, r11, hrf, hw⟩ := hw
    refine zr_getR (ci := 7) (f := 705) hx hb hts ki_Vr hown hK hG hy rfl 5 (by decide) (hts _ (List.mem_cons_of_mem _ kw_200)) (fun _ h => h) rfl rfl hrf kb_Vr_relation_11 ?_
    refine lv_iload_n hx hb kb_Vr_relation_14 rfl (lv_at hl 1 rfl) ?_
    obtain ⟨hy, hw⟩ := hw
    refine zr_ci (va_runV (C := kR_Pr) (As := [.int x1]) (rest := []) ⟨hx, hb, hml, hown, hts⟩ (kc_Pr_relationNamed l D dA Z r11 x1 σ1 _) ⟨callB_of 1 hts (z_gw kw_279) rfl rfl rfl (hts _ (List.mem_cons_of_mem _ kw_2)) (hts _ (List.mem_cons_of_mem _ kw_475)) (by decide +kernel) ⟨Nat.le_of_ble_eq_true rfl, Nat.le_of_ble_eq_true rfl⟩, (hts _ (List.mem_cons_of_mem _ kw_277)), (hts _ (List.mem_cons_of_mem _ kw_278))⟩ (z_preV z_nwN (Nat.le_trans hZ hS.1) hG hK hN hy (ci := 2) (r := (kR_Pr, kT_Pr, 11)) rfl hw) rfl rfl hl.1 rfl (lv_room (Nat.le_of_ble_eq_true rfl)) kb_Vr_relation_15 ⟨Nat.le_of_ble_eq_true rfl, Nat.le_of_ble_eq_true rfl⟩) hS (fun r15 σ15 H locs hw hG hS => ?_)
    exact zr_iret (free := fun q => Z ≤ q) z_nwN hx hb hr rfl hZ hK hN hG hS hw kb_Vr_relation_18 hlocks
  · have hw := hw.2 hc
    refine lv_bipush (v := (-4 : Int32)) hx hb kb_Vr_relation_7 (by decide) ?_
    exact zr_iret (free := fun q => Z ≤ q) z_nwN hx hb hr rfl hZ hK hN hG hS hw kb_Vr_relation_9 hlocks
def kp_Vr_of (a0 : Nat) (x1 : Int32) (x2 : Int32) (σ : z_S) (Post : Int32 → z_S → Prop) : Prop :=     (z_ty σ a0 = some (.inl 7) ∧ kp_Vr_hasNoRules a0 σ (fun (r1 : Int32) (σ1 : z_S) => (r1 = 0 → z_ty σ1 a0 = some (.inl 7) ∧ ∃ r11, z_R σ1 705 a0 = some r11 ∧ (z_ty σ1 r11 = some (.inl 2) ∧ kp_Pr_isRelation r11 x1 σ1 (fun (r15 : Int32) (σ15 : z_S) => (¬ r15 = 0 → (x2 = (0 : Int32) → z_ty σ15 a0 = some (.inl 7) ∧ ∃ r61, z_R σ15 705 a0 = some r61 ∧ (z_ty σ15 r61 = some (.inl 2) ∧ kp_Pr_isView r61 x1 σ15 (fun (r65 : Int32) (σ65 : z_S) => (r65 = 0 → Post ((0 : Int32)) σ65) ∧ (¬ r65 = 0 → Post ((1 : Int32)) σ65)))) ∧ (¬ x2 = (0 : Int32) → (x2 = (1 : Int32) → z_ty σ15 a0 = some (.inl 7) ∧ ∃ r78, z_R σ15 705 a0 = some r78 ∧ (z_ty σ15 r78 = some (.inl 2) ∧ ∃ r81, z_R σ15 203 r78 = some r81 ∧ (∃ n85 s85, z_ty σ15 r81 = some (.inr (0, n85, s85)) ∧ vp_in x1 n85 ∧ (Post (z_A σ15 s85 r81 x1.toNatClampNeg) σ15)))) ∧ (¬ x2 = (1 : Int32) → (x2 = (2 : Int32) → z_ty σ15 a0 = some (.inl 7) ∧ ∃ r88, z_R σ15 705 a0 = some r88 ∧ (z_ty σ15 r88 = some (.inl 2) ∧ ∃ r91, z_R σ15 204 r88 = some r91 ∧ (∃ n95 s95, z_ty σ15 r91 = some (.inr (0, n95, s95)) ∧ vp_in x1 n95 ∧ (Post (z_A σ15 s95 r91 x1.toNatClampNeg) σ15)))) ∧ (¬ x2 = (2 : Int32) → (x2 = (3 : Int32) → z_ty σ15 a0 = some (.inl 7) ∧ ∃ r98, z_R σ15 706 a0 = some r98 ∧ (∃ n102 s102, z_ty σ15 r98 = some (.inr (9, n102, s102)) ∧ vp_in x1 n102 ∧ ∃ r102, z_Q σ15 s102 r98 x1.toNatClampNeg = some r102 ∧ (z_ty σ15 r102 = some (.inl 4) ∧ (Post (z_I σ15 402 r102) σ15)))) ∧ (¬ x2 = (3 : Int32) → (x2 = (4 : Int32) → z_ty σ15 a0 = some (.inl 7) ∧ ∃ r108, z_R σ15 705 a0 = some r108 ∧ (z_ty σ15 r108 = some (.inl 2) ∧ ∃ r111, z_R σ15 205 r108 = some r111 ∧ (∃ n115 s115, z_ty σ15 r111 = some (.inr (0, n115, s115)) ∧ vp_in x1 n115 ∧ (kp_Vr_isIn (z_A σ15 s115 r111 x1.toNatClampNeg) x1 σ15 (fun (r117 : Int32) (σ117 : z_S) => (r117 = 0 → Post ((0 : Int32)) σ117) ∧ (¬ r117 = 0 → Post ((1 : Int32)) σ117)))))) ∧ (¬ x2 = (4 : Int32) → Post ((-2 : Int32)) σ15)))))) ∧ (r15 = 0 → Post ((-2 : Int32)) σ15)))) ∧ (¬ r1 = 0 → Post ((-4 : Int32)) σ1)))
set_option maxHeartbeats 4000000 in
set_option maxRecDepth 100000 in
theorem kc_Vr_of (l : Launch) (D : va_G) (dA : Nat → ClassId) (Z : Nat) (a0 : Nat) (x1 : Int32) (x2 : Int32) (σ : z_S) (Post : Int32 → z_S → Prop) : Met l km_Vr_of ks_Vr_of kr_Vr_of (va_Pc [.ref a0, .int x1, .int x2] (fun U => z_U D z_cl z_KT dA Z (z_tys dA) z_nw σ U ∧ kp_Vr_of  a0 x1 x2 σ Post)) (z_Qi D z_cl z_KT dA Z (z_tys dA) z_nw Post) 0 0 (fun q => Z ≤ q) := by
  refine Met.ofW (cc := prog_1_method_7_code) (maxL := 3) (ret := (some .int)) (by decide) rfl ?_
  intro p e s m args below meth c s₁ B hml hv
  obtain ⟨rfl, ⟨hZ, hG, hK, hN⟩, hw⟩ := hv
  have hx := B.exec
  have hb := B.bytes
  have hr := B.returns
  have hts := atoms_spec (ws := ks_Vr_of) B.pre
  have hown : s.vm.findClass kR_Vr = some m.cls := findClass_of_methodNamed B.named
  have hlocks := B.notSynchronized
  have hS : va_S (fun q => Z ≤ q) s.heap s.heap [] := va_S.rf
  have hl := lv_entry ([.ref a0, .int x1, .int x2]) (n := 3) (Nat.le_of_ble_eq_true rfl)
  rw [lg_entry_eq]
  generalize (lg_sl ([.ref a0, .int x1, .int x2]) ++ List.replicate (3 - (lg_sl ([.ref a0, .int x1, .int x2])).length) Slot.unset).toArray = ls at hl ⊢
  have hl : lv_has ls 3 [(0, .ref a0), (1, .int x1), (2, .int x2)] := hl
  unfold kp_Vr_of at hw
  refine lv_aload_n hx hb kb_Vr_of_0 rfl (lv_at hl 0 rfl) ?_
  obtain ⟨hy, hw⟩ := hw
  refine zr_ci (va_runV (C := kR_Vr) (As := []) (rest := []) ⟨hx, hb, hml, hown, hts⟩ (kc_Vr_hasNoRules l D dA Z a0 σ _) ⟨callB_of 0 hts (z_gw kw_474) rfl rfl rfl (hts _ (List.mem_cons_of_mem _ kw_1)) (hts _ (List.mem_cons_of_mem _ kw_472)) (by decide +kernel) ⟨Nat.le_of_ble_eq_true rfl, Nat.le_of_ble_eq_true rfl⟩, (hts _ (List.mem_cons_of_mem _ kw_473)), (hts _ (List.mem_cons_of_mem _ kw_945))⟩ (z_preV z_nwN (Nat.le_trans hZ hS.1) hG hK hN hy (ci := 7) (r := (kR_Vr, kT_Vr, 13)) rfl hw) rfl rfl hl.1 rfl (lv_room (Nat.le_of_ble_eq_true rfl)) kb_Vr_of_1 ⟨Nat.le_of_ble_eq_true rfl, Nat.le_of_ble_eq_true rfl⟩) hS (fun r1 σ1 H locs hw hG hS => ?_)
  refine lv_if_eq (tgt := 10) hx hb kb_Vr_of_4 (by decide) (fun hc => ?_) (fun hc => ?_)
  · have hw := hw.1 hc
    refine lv_aload_n hx hb kb_Vr_of_10 rfl (lv_at hl 0 rfl) ?_
    obtain ⟨hy, r11, hrf, hw⟩ := hw
    refine zr_getR (ci := 7) (f := 705) hx hb hts ki_Vr hown hK hG hy rfl 5 (by decide) (hts _ (List.mem_cons_of_mem _ kw_200)) (fun _ h => h) rfl rfl hrf kb_Vr_of_11 ?_
    refine lv_iload_n hx hb kb_Vr_of_14 rfl (lv_at hl 1 rfl) ?_
    obtain ⟨hy, hw⟩ := hw
    refine zr_ci (va_runV (C := kR_Pr) (As := [.int x1]) (rest := []) ⟨hx, hb, hml, hown, hts⟩ (kc_Pr_isRelation l D dA Z r11 x1 σ1 _) ⟨callB_of 1 hts (z_gw kw_328) rfl rfl rfl (hts _ (List.mem_cons_of_mem _ kw_2)) (hts _ (List.mem_cons_of_mem _ kw_480)) (by decide +kernel) ⟨Nat.le_of_ble_eq_true rfl, Nat.le_of_ble_eq_true rfl⟩, (hts _ (List.mem_cons_of_mem _ kw_326)), (hts _ (List.mem_cons_of_mem _ kw_327))⟩ (z_preV z_nwN (Nat.le_trans hZ hS.1) hG hK hN hy (ci := 2) (r := (kR_Pr, kT_Pr, 11)) rfl hw) rfl rfl hl.1 rfl (lv_room (Nat.le_of_ble_eq_true rfl)) kb_Vr_of_15 ⟨Nat.le_of_ble_eq_true rfl, Nat.le_of_ble_eq_true rfl⟩) hS (fun r15 σ15 H locs hw hG hS => ?_)
    refine lv_if_ne (tgt := 24) hx hb kb_Vr_of_18 (by decide) (fun hc => ?_) (fun hc => ?_)
    · have hw := hw.1 hc
      refine lv_iload_n hx hb kb_Vr_of_24 rfl (lv_at hl 2 rfl) ?_
      rcases Decidable.em (x2 = (0 : Int32)) with hc | hn0
      · have hw := hw.1 hc
        refine lv_tableIn (off := 35) (tgt := 60) hx hb kb_Vr_of_25 (by rw [hc]; decide) (by rw [hc]; decide) (by rw [hc]; rfl) (by decide) ?_
        refine lv_aload_n hx hb kb_Vr_of_60 rfl (lv_at hl 0 rfl) ?_
        obtain ⟨hy, r61, hrf, hw⟩ := hw
        refine zr_getR (ci := 7) (f := 705) hx hb hts ki_Vr hown hK hG hy rfl 5 (by decide) (hts _ (List.mem_cons_of_mem _ kw_200)) (fun _ h => h) rfl rfl hrf kb_Vr_of_61 ?_
        refine lv_iload_n hx hb kb_Vr_of_64 rfl (lv_at hl 1 rfl) ?_
        obtain ⟨hy, hw⟩ := hw
        refine zr_ci (va_runV (C := kR_Pr) (As := [.int x1]) (rest := []) ⟨hx, hb, hml, hown, hts⟩ (kc_Pr_isView l D dA Z r61 x1 σ15 _) ⟨callB_of 1 hts (z_gw kw_324) rfl rfl rfl (hts _ (List.mem_cons_of_mem _ kw_2)) (hts _ (List.mem_cons_of_mem _ kw_481)) (by decide +kernel) ⟨Nat.le_of_ble_eq_true rfl, Nat.le_of_ble_eq_true rfl⟩, (hts _ (List.mem_cons_of_mem _ kw_322)), (hts _ (List.mem_cons_of_mem _ kw_323))⟩ (z_preV z_nwN (Nat.le_trans hZ hS.1) hG hK hN hy (ci := 2) (r := (kR_Pr, kT_Pr, 11)) rfl hw) rfl rfl hl.1 rfl (lv_room (Nat.le_of_ble_eq_true rfl)) kb_Vr_of_65 ⟨Nat.le_of_ble_eq_true rfl, Nat.le_of_ble_eq_true rfl⟩) hS (fun r65 σ65 H locs hw hG hS => ?_)
        refine lv_if_eq (tgt := 75) hx hb kb_Vr_of_68 (by decide) (fun hc => ?_) (fun hc => ?_)
        · have hw := hw.1 hc
          refine lv_iconst (v := (0 : Int32)) hx hb kb_Vr_of_75 (by decide) ?_
          exact zr_iret (free := fun q => Z ≤ q) z_nwN hx hb hr rfl hZ hK hN hG hS hw kb_Vr_of_76 hlocks
        · have hw := hw.2 hc
          refine lv_iconst (v := (1 : Int32)) hx hb kb_Vr_of_71 (by decide) ?_
          refine lv_goto (tgt := 76) hx hb kb_Vr_of_72 (by decide) ?_
          exact zr_iret (free := fun q => Z ≤ q) z_nwN hx hb hr rfl hZ hK hN hG hS hw kb_Vr_of_76 hlocks
      · have hw := hw.2 hn0
        rcases Decidable.em (x2 = (1 : Int32)) with hc | hn1
        · have hw := hw.1 hc
          refine lv_tableIn (off := 52) (tgt := 77) hx hb kb_Vr_of_25 (by rw [hc]; decide) (by rw [hc]; decide) (by rw [hc]; rfl) (by decide) ?_
          refine lv_aload_n hx hb kb_Vr_of_77 rfl (lv_at hl 0 rfl) ?_
          obtain ⟨hy, r78, hrf, hw⟩ := hw
          refine zr_getR (ci := 7) (f := 705) hx hb hts ki_Vr hown hK hG hy rfl 5 (by decide) (hts _ (List.mem_cons_of_mem _ kw_200)) (fun _ h => h) rfl rfl hrf kb_Vr_of_78 ?_
          obtain ⟨hy, r81, hrf, hw⟩ := hw
          refine zr_getR (ci := 2) (f := 203) hx hb hts ki_Pr hown hK hG hy rfl 3 (by decide) (hts _ (List.mem_cons_of_mem _ kw_35)) (fun _ h => h) rfl rfl hrf kb_Vr_of_81 ?_
          refine lv_iload_n hx hb kb_Vr_of_84 rfl (lv_at hl 1 rfl) ?_
          obtain ⟨n85, s85, hy, hi, hw⟩ := hw
          refine zr_iald hx hb hK hG 0 hy rfl hi kb_Vr_of_85 ?_
          exact zr_iret (free := fun q => Z ≤ q) z_nwN hx hb hr rfl hZ hK hN hG hS hw kb_Vr_of_86 hlocks
        · have hw := hw.2 hn1
          rcases Decidable.em (x2 = (2 : Int32)) with hc | hn2
          · have hw := hw.1 hc
            refine lv_tableIn (off := 62) (tgt := 87) hx hb kb_Vr_of_25 (by rw [hc]; decide) (by rw [hc]; decide) (by rw [hc]; rfl) (by decide) ?_
            refine lv_aload_n hx hb kb_Vr_of_87 rfl (lv_at hl 0 rfl) ?_
            obtain ⟨hy, r88, hrf, hw⟩ := hw
            refine zr_getR (ci := 7) (f := 705) hx hb hts ki_Vr hown hK hG hy rfl 5 (by decide) (hts _ (List.mem_cons_of_mem _ kw_200)) (fun _ h => h) rfl rfl hrf kb_Vr_of_88 ?_
            obtain ⟨hy, r91, hrf, hw⟩ := hw
            refine zr_getR (ci := 2) (f := 204) hx hb hts ki_Pr hown hK hG hy rfl 4 (by decide) (hts _ (List.mem_cons_of_mem _ kw_39)) (fun _ h => h) rfl rfl hrf kb_Vr_of_91 ?_
            refine lv_iload_n hx hb kb_Vr_of_94 rfl (lv_at hl 1 rfl) ?_
            obtain ⟨n95, s95, hy, hi, hw⟩ := hw
            refine zr_iald hx hb hK hG 0 hy rfl hi kb_Vr_of_95 ?_
            exact zr_iret (free := fun q => Z ≤ q) z_nwN hx hb hr rfl hZ hK hN hG hS hw kb_Vr_of_96 hlocks
          · have hw := hw.2 hn2
            rcases Decidable.em (x2 = (3 : Int32)) with hc | hn3
            · have hw := hw.1 hc
              refine lv_tableIn (off := 72) (tgt := 97) hx hb kb_Vr_of_25 (by rw [hc]; decide) (by rw [hc]; decide) (by rw [hc]; rfl) (by decide) ?_
              refine lv_aload_n hx hb kb_Vr_of_97 rfl (lv_at hl 0 rfl) ?_
              obtain ⟨hy, r98, hrf, hw⟩ := hw
              refine zr_getR (ci := 7) (f := 706) hx hb hts ki_Vr hown hK hG hy rfl 6 (by decide) (hts _ (List.mem_cons_of_mem _ kw_201)) (fun _ h => h) rfl rfl hrf kb_Vr_of_98 ?_
              refine lv_iload_n hx hb kb_Vr_of_101 rfl (lv_at hl 1 rfl) ?_
              obtain ⟨n102, s102, hy, hi, r102, hrf, hw⟩ := hw
              refine zr_aald hx hb hK hG 4 (by decide) hy rfl hi hrf kb_Vr_of_102 ?_
              obtain ⟨hy, hw⟩ := hw
              refine zr_getI (ci := 4) (f := 402) hx hb hts ki_Ro hown hK hG hy rfl 2 (by decide) (hts _ (List.mem_cons_of_mem _ kw_191)) (fun _ h => h) rfl rfl kb_Vr_of_103 ?_
              exact zr_iret (free := fun q => Z ≤ q) z_nwN hx hb hr rfl hZ hK hN hG hS hw kb_Vr_of_106 hlocks
            · have hw := hw.2 hn3
              rcases Decidable.em (x2 = (4 : Int32)) with hc | hn4
              · have hw := hw.1 hc
                refine lv_tableIn (off := 82) (tgt := 107) hx hb kb_Vr_of_25 (by rw [hc]; decide) (by rw [hc]; decide) (by rw [hc]; rfl) (by decide) ?_
                refine lv_aload_n hx hb kb_Vr_of_107 rfl (lv_at hl 0 rfl) ?_
                obtain ⟨hy, r108, hrf, hw⟩ := hw
                refine zr_getR (ci := 7) (f := 705) hx hb hts ki_Vr hown hK hG hy rfl 5 (by decide) (hts _ (List.mem_cons_of_mem _ kw_200)) (fun _ h => h) rfl rfl hrf kb_Vr_of_108 ?_
                obtain ⟨hy, r111, hrf, hw⟩ := hw
                refine zr_getR (ci := 2) (f := 205) hx hb hts ki_Pr hown hK hG hy rfl 5 (by decide) (hts _ (List.mem_cons_of_mem _ kw_41)) (fun _ h => h) rfl rfl hrf kb_Vr_of_111 ?_
                refine lv_iload_n hx hb kb_Vr_of_114 rfl (lv_at hl 1 rfl) ?_
                obtain ⟨n115, s115, hy, hi, hw⟩ := hw
                refine zr_iald hx hb hK hG 0 hy rfl hi kb_Vr_of_115 ?_
                refine lv_iload_n hx hb kb_Vr_of_116 rfl (lv_at hl 1 rfl) ?_
                refine zr_ci (va_runS (As := [.int (z_A σ15 s115 r111 x1.toNatClampNeg), .int x1]) (rest := []) ⟨hx, hb, hml, hown, hts⟩ (kc_Vr_isIn l D dA Z (z_A σ15 s115 r111 x1.toNatClampNeg) x1 σ15 _) ⟨callB_of 2 hts (z_gw kw_309) rfl rfl rfl (hts _ (List.mem_cons_of_mem _ kw_1)) (hts _ (List.mem_cons_of_mem _ kw_384)) (by decide +kernel) ⟨Nat.le_of_ble_eq_true rfl, Nat.le_of_ble_eq_true rfl⟩, (hts _ (List.mem_cons_of_mem _ kw_308))⟩ (z_preS z_nwN (Nat.le_trans hZ hS.1) hG hK hN hw) rfl rfl hl.1 rfl (lv_room (Nat.le_of_ble_eq_true rfl)) kb_Vr_of_117 ⟨Nat.le_of_ble_eq_true rfl, Nat.le_of_ble_eq_true rfl⟩) hS (fun r117 σ117 H locs hw hG hS => ?_)
                refine lv_if_eq (tgt := 127) hx hb kb_Vr_of_120 (by decide) (fun hc => ?_) (fun hc => ?_)
                · have hw := hw.1 hc
                  refine lv_iconst (v := (0 : Int32)) hx hb kb_Vr_of_127 (by decide) ?_
                  exact zr_iret (free := fun q => Z ≤ q) z_nwN hx hb hr rfl hZ hK hN hG hS hw kb_Vr_of_128 hlocks
                · have hw := hw.2 hc
                  refine lv_iconst (v := (1 : Int32)) hx hb kb_Vr_of_123 (by decide) ?_
                  refine lv_goto (tgt := 128) hx hb kb_Vr_of_124 (by decide) ?_
                  exact zr_iret (free := fun q => Z ≤ q) z_nwN hx hb hr rfl hZ hK hN hG hS hw kb_Vr_of_128 hlocks
              · have hw := hw.2 hn4
                refine lv_tableOut (tgt := 129) hx hb kb_Vr_of_25 (by have := lv_neT hn0 (a := 0) (by decide); have := lv_neT hn1 (a := 1) (by decide); have := lv_neT hn2 (a := 2) (by decide); have := lv_neT hn3 (a := 3) (by decide); have := lv_neT hn4 (a := 4) (by decide); omega) (by decide) ?_
                refine lv_bipush (v := (-2 : Int32)) hx hb kb_Vr_of_129 (by decide) ?_
                exact zr_iret (free := fun q => Z ≤ q) z_nwN hx hb hr rfl hZ hK hN hG hS hw kb_Vr_of_131 hlocks
    · have hw := hw.2 hc
      refine lv_bipush (v := (-2 : Int32)) hx hb kb_Vr_of_21 (by decide) ?_
      exact zr_iret (free := fun q => Z ≤ q) z_nwN hx hb hr rfl hZ hK hN hG hS hw kb_Vr_of_23 hlocks
  · have hw := hw.2 hc
    refine lv_bipush (v := (-4 : Int32)) hx hb kb_Vr_of_7 (by decide) ?_
    exact zr_iret (free := fun q => Z ≤ q) z_nwN hx hb hr rfl hZ hK hN hG hS hw kb_Vr_of_9 hlocks
