def kp_Vr_viewsAreTheSame (a0 : Nat) (σ : z_S) (Post : Int32 → z_S → Prop) : Prop := ∀ (X2 : Int32 → z_S → Prop),
    (∀ (v1 : Int32) (σ : z_S), (z_ty σ a0 = some (.inl 7) ∧ ∃ r4, z_R σ 705 a0 = some r4 ∧ (z_ty σ r4 = some (.inl 2) ∧ (((z_I σ 206 r4) ≤ v1 → Post ((1 : Int32)) σ) ∧ (¬ (z_I σ 206 r4) ≤ v1 → z_ty σ a0 = some (.inl 7) ∧ ∃ r14, z_R σ 705 a0 = some r14 ∧ (z_ty σ r14 = some (.inl 2) ∧ kp_Pr_isView r14 v1 σ (fun (r18 : Int32) (σ18 : z_S) => (r18 = 0 → X2 (v1 + (1 : Int32)) σ18) ∧ (¬ r18 = 0 → z_ty σ18 a0 = some (.inl 7) ∧ ∃ r25, z_R σ18 706 a0 = some r25 ∧ (∃ n29 s29, z_ty σ18 r25 = some (.inr (9, n29, s29)) ∧ vp_in v1 n29 ∧ ∃ r29, z_Q σ18 s29 r25 v1.toNatClampNeg = some r29 ∧ (z_ty σ18 a0 = some (.inl 7) ∧ ∃ r31, z_R σ18 707 a0 = some r31 ∧ (∃ n35 s35, z_ty σ18 r31 = some (.inr (9, n35, s35)) ∧ vp_in v1 n35 ∧ ∃ r35, z_Q σ18 s35 r31 v1.toNatClampNeg = some r35 ∧ (z_ty σ18 r29 = some (.inl 4) ∧ kp_Ro_isSame r29 r35 σ18 (fun (r36 : Int32) (σ36 : z_S) => (¬ r36 = 0 → X2 (v1 + (1 : Int32)) σ36) ∧ (r36 = 0 → Post ((0 : Int32)) σ36))))))))))))) → X2 v1 σ) →
    (X2 ((0 : Int32)) σ)
set_option maxHeartbeats 4000000 in
set_option maxRecDepth 100000 in
theorem kc_Vr_viewsAreTheSame (l : Launch) (D : va_G) (dA : Nat → ClassId) (Z : Nat) (a0 : Nat) (σ : z_S) (Post : Int32 → z_S → Prop) : Met l km_Vr_viewsAreTheSame ks_Vr_viewsAreTheSame kr_Vr_viewsAreTheSame (va_Pc [.ref a0] (fun U => z_U D z_cl z_KT dA Z (z_tys dA) z_nw σ U ∧ kp_Vr_viewsAreTheSame  a0 σ Post)) (z_Qi D z_cl z_KT dA Z (z_tys dA) z_nw Post) 0 0 (fun q => Z ≤ q) := by
  refine Met.ofW (cc := prog_1_method_27_code) (maxL := 2) (ret := (some .boolean)) (by decide) rfl ?_
  intro p e s m args below meth c s₁ B hml hv
  obtain ⟨rfl, ⟨hZ, hG, hK, hN⟩, hw⟩ := hv
  have hx := B.exec
  have hb := B.bytes
  have hr := B.returns
  have hts := atoms_spec (ws := ks_Vr_viewsAreTheSame) B.pre
  have hown : s.vm.findClass kR_Vr = some m.cls := findClass_of_methodNamed B.named
  have hlocks := B.notSynchronized
  have hS : va_S (fun q => Z ≤ q) s.heap s.heap [] := va_S.rf
  have hl := lv_entry ([.ref a0]) (n := 2) (Nat.le_of_ble_eq_true rfl)
  rw [lg_entry_eq]
  generalize (lg_sl ([.ref a0]) ++ List.replicate (2 - (lg_sl ([.ref a0])).length) Slot.unset).toArray = ls at hl ⊢
  have hl : lv_has ls 2 [(0, .ref a0)] := hl
  unfold kp_Vr_viewsAreTheSame at hw
  have hw := hw (fun (v1 : Int32) (σ : z_S) => ∀ (H : Heap) (locs : List Loc) (ls : Array Slot), z_G D z_cl z_KT dA Z σ H → va_S (fun q => Z ≤ q) s.heap H locs → lv_has ls 2 [(0, .ref a0), (1, .int v1)] → W p l e (headSpec ks_Vr_viewsAreTheSame kr_Vr_viewsAreTheSame).room s m ([.ref a0] : List Value).toArray below meth c H locs 0 0 (MQ below (z_Qi D z_cl z_KT dA Z (z_tys dA) z_nw Post) ([.ref a0] : List Value).toArray s 0 0 (fun q => Z ≤ q)) (F0 m 2 ls []))
  have hw := hw (by
    intro v1 σ hw H locs ls hG hS hl
    refine lv_iload_n hx hb kb_Vr_viewsAreTheSame_2 rfl (lv_at hl 1 rfl) ?_
    refine lv_aload_n hx hb kb_Vr_viewsAreTheSame_3 rfl (lv_at hl 0 rfl) ?_
    obtain ⟨hy, r4, hrf, hw⟩ := hw
    refine zr_getR (ci := 7) (f := 705) hx hb hts ki_Vr hown hK hG hy rfl 5 (by decide) (hts _ (List.mem_cons_of_mem _ kw_200)) (fun _ h => h) rfl rfl hrf kb_Vr_viewsAreTheSame_4 ?_
    obtain ⟨hy, hw⟩ := hw
    refine zr_getI (ci := 2) (f := 206) hx hb hts ki_Pr hown hK hG hy rfl 6 (by decide) (hts _ (List.mem_cons_of_mem _ kw_44)) (fun _ h => h) rfl rfl kb_Vr_viewsAreTheSame_7 ?_
    refine lv_icmp_ge (tgt := 50) hx hb kb_Vr_viewsAreTheSame_10 (by decide) (fun hc => ?_) (fun hc => ?_)
    · have hw := hw.1 hc
      refine lv_iconst (v := (1 : Int32)) hx hb kb_Vr_viewsAreTheSame_50 (by decide) ?_
      exact zr_iret (free := fun q => Z ≤ q) z_nwN hx hb hr rfl hZ hK hN hG hS hw kb_Vr_viewsAreTheSame_51 hlocks
    · have hw := hw.2 hc
      refine lv_aload_n hx hb kb_Vr_viewsAreTheSame_13 rfl (lv_at hl 0 rfl) ?_
      obtain ⟨hy, r14, hrf, hw⟩ := hw
      refine zr_getR (ci := 7) (f := 705) hx hb hts ki_Vr hown hK hG hy rfl 5 (by decide) (hts _ (List.mem_cons_of_mem _ kw_200)) (fun _ h => h) rfl rfl hrf kb_Vr_viewsAreTheSame_14 ?_
      refine lv_iload_n hx hb kb_Vr_viewsAreTheSame_17 rfl (lv_at hl 1 rfl) ?_
      obtain ⟨hy, hw⟩ := hw
      refine zr_ci (va_runV (C := kR_Pr) (As := [.int v1]) (rest := []) ⟨hx, hb, hml, hown, hts⟩ (kc_Pr_isView l D dA Z r14 v1 σ _) ⟨callB_of 1 hts (z_gw kw_324) rfl rfl rfl (hts _ (List.mem_cons_of_mem _ kw_2)) (hts _ (List.mem_cons_of_mem _ kw_481)) (by decide +kernel) ⟨Nat.le_of_ble_eq_true rfl, Nat.le_of_ble_eq_true rfl⟩, (hts _ (List.mem_cons_of_mem _ kw_322)), (hts _ (List.mem_cons_of_mem _ kw_323))⟩ (z_preV z_nwN (Nat.le_trans hZ hS.1) hG hK hN hy (ci := 2) (r := (kR_Pr, kT_Pr, 11)) rfl hw) rfl rfl hl.1 rfl (lv_room (Nat.le_of_ble_eq_true rfl)) kb_Vr_viewsAreTheSame_18 ⟨Nat.le_of_ble_eq_true rfl, Nat.le_of_ble_eq_true rfl⟩) hS (fun r18 σ18 H locs hw hG hS => ?_)
      refine lv_if_eq (tgt := 44) hx hb kb_Vr_viewsAreTheSame_21 (by decide) (fun hc => ?_) (fun hc => ?_)
      · have hw := hw.1 hc
        refine lv_iinc (v := v1 + (1 : Int32)) (lv' := [(1, .int (v1 + (1 : Int32))), (0, .ref a0)]) hx hb kb_Vr_viewsAreTheSame_44 hl (k := 1) rfl rfl (by decide) rfl (fun ls hl => ?_)
        refine lv_goto (tgt := 2) hx hb kb_Vr_viewsAreTheSame_47 (by decide) ?_
        exact hw _ _ _ hG hS (lv_sub hl [1, 0] rfl)
      · have hw := hw.2 hc
        refine lv_aload_n hx hb kb_Vr_viewsAreTheSame_24 rfl (lv_at hl 0 rfl) ?_
        obtain ⟨hy, r25, hrf, hw⟩ := hw
        refine zr_getR (ci := 7) (f := 706) hx hb hts ki_Vr hown hK hG hy rfl 6 (by decide) (hts _ (List.mem_cons_of_mem _ kw_201)) (fun _ h => h) rfl rfl hrf kb_Vr_viewsAreTheSame_25 ?_
        refine lv_iload_n hx hb kb_Vr_viewsAreTheSame_28 rfl (lv_at hl 1 rfl) ?_
        obtain ⟨n29, s29, hy, hi, r29, hrf, hw⟩ := hw
        refine zr_aald hx hb hK hG 4 (by decide) hy rfl hi hrf kb_Vr_viewsAreTheSame_29 ?_
        refine lv_aload_n hx hb kb_Vr_viewsAreTheSame_30 rfl (lv_at hl 0 rfl) ?_
        obtain ⟨hy, r31, hrf, hw⟩ := hw
        refine zr_getR (ci := 7) (f := 707) hx hb hts ki_Vr hown hK hG hy rfl 7 (by decide) (hts _ (List.mem_cons_of_mem _ kw_202)) (fun _ h => h) rfl rfl hrf kb_Vr_viewsAreTheSame_31 ?_
        refine lv_iload_n hx hb kb_Vr_viewsAreTheSame_34 rfl (lv_at hl 1 rfl) ?_
        obtain ⟨n35, s35, hy, hi, r35, hrf, hw⟩ := hw
        refine zr_aald hx hb hK hG 4 (by decide) hy rfl hi hrf kb_Vr_viewsAreTheSame_35 ?_
        obtain ⟨hy, hw⟩ := hw
        refine zr_ci (va_runV (C := kR_Ro) (As := [.ref r35]) (rest := []) ⟨hx, hb, hml, hown, hts⟩ (kc_Ro_isSame l D dA Z r29 r35 σ18 _) ⟨callB_of 1 hts (z_gw kw_573) rfl rfl rfl (hts _ (List.mem_cons_of_mem _ kw_8)) (hts _ (List.mem_cons_of_mem _ kw_570)) (by decide +kernel) ⟨Nat.le_of_ble_eq_true rfl, Nat.le_of_ble_eq_true rfl⟩, (hts _ (List.mem_cons_of_mem _ kw_571)), (hts _ (List.mem_cons_of_mem _ kw_572))⟩ (z_preV z_nwN (Nat.le_trans hZ hS.1) hG hK hN hy (ci := 4) (r := (kR_Ro, kT_Ro, 3)) rfl hw) rfl rfl hl.1 rfl (lv_room (Nat.le_of_ble_eq_true rfl)) kb_Vr_viewsAreTheSame_36 ⟨Nat.le_of_ble_eq_true rfl, Nat.le_of_ble_eq_true rfl⟩) hS (fun r36 σ36 H locs hw hG hS => ?_)
        refine lv_if_ne (tgt := 44) hx hb kb_Vr_viewsAreTheSame_39 (by decide) (fun hc => ?_) (fun hc => ?_)
        · have hw := hw.1 hc
          refine lv_iinc (v := v1 + (1 : Int32)) (lv' := [(1, .int (v1 + (1 : Int32))), (0, .ref a0)]) hx hb kb_Vr_viewsAreTheSame_44 hl (k := 1) rfl rfl (by decide) rfl (fun ls hl => ?_)
          refine lv_goto (tgt := 2) hx hb kb_Vr_viewsAreTheSame_47 (by decide) ?_
          exact hw _ _ _ hG hS (lv_sub hl [1, 0] rfl)
        · have hw := hw.2 hc
          refine lv_iconst (v := (0 : Int32)) hx hb kb_Vr_viewsAreTheSame_42 (by decide) ?_
          exact zr_iret (free := fun q => Z ≤ q) z_nwN hx hb hr rfl hZ hK hN hG hS hw kb_Vr_viewsAreTheSame_43 hlocks)
  refine lv_iconst (v := (0 : Int32)) hx hb kb_Vr_viewsAreTheSame_0 (by decide) ?_
  refine lv_istore_n (lv' := [(1, .int ((0 : Int32))), (0, .ref a0)]) hx hb kb_Vr_viewsAreTheSame_1 rfl hl (by decide) rfl (fun ls hl => ?_)
  exact hw _ _ _ hG hS (lv_sub hl [1, 0] rfl)
def kp_Vr_anew (a0 : Nat) (σ : z_S) (Post : Int32 → z_S → Prop) : Prop :=     (z_ty σ a0 = some (.inl 7) ∧ kp_Vr_hasNoRules a0 σ (fun (r1 : Int32) (σ1 : z_S) => (r1 = 0 → z_ty σ1 a0 = some (.inl 7) ∧ kp_Vr_copyTables a0 σ1 (fun (σ10 : z_S) => z_ty σ10 a0 = some (.inl 7) ∧ ∃ r14, z_R σ10 712 a0 = some r14 ∧ (z_ty σ10 a0 = some (.inl 7) ∧ ∃ r18, z_R σ10 705 a0 = some r18 ∧ (z_ty σ10 a0 = some (.inl 7) ∧ ∃ r22, z_R σ10 707 a0 = some r22 ∧ (z_ty σ10 r14 = some (.inl 1) ∧ kp_En_workViews r14 r18 r22 σ10 (fun (r25 : Int32) (σ25 : z_S) => (r25 = 0 → Post ((0 : Int32)) σ25) ∧ (¬ r25 = 0 → z_ty σ25 a0 = some (.inl 7) ∧ kp_Vr_viewsAreTheSame a0 σ25 (fun (r32 : Int32) (σ32 : z_S) => (r32 = 0 → Post ((0 : Int32)) σ32) ∧ (¬ r32 = 0 → Post ((1 : Int32)) σ32))))))))) ∧ (¬ r1 = 0 → Post ((0 : Int32)) σ1)))
set_option maxHeartbeats 4000000 in
set_option maxRecDepth 100000 in
theorem kc_Vr_anew (l : Launch) (D : va_G) (dA : Nat → ClassId) (Z : Nat) (a0 : Nat) (σ : z_S) (Post : Int32 → z_S → Prop) : Met l km_Vr_anew ks_Vr_anew kr_Vr_anew (va_Pc [.ref a0] (fun U => z_U D z_cl z_KT dA Z (z_tys dA) z_nw σ U ∧ kp_Vr_anew  a0 σ Post)) (z_Qi D z_cl z_KT dA Z (z_tys dA) z_nw Post) 0 0 (fun q => Z ≤ q) := by
  refine Met.ofW (cc := prog_1_method_17_code) (maxL := 1) (ret := (some .boolean)) (by decide) rfl ?_
  intro p e s m args below meth c s₁ B hml hv
  obtain ⟨rfl, ⟨hZ, hG, hK, hN⟩, hw⟩ := hv
  have hx := B.exec
  have hb := B.bytes
  have hr := B.returns
  have hts := atoms_spec (ws := ks_Vr_anew) B.pre
  have hown : s.vm.findClass kR_Vr = some m.cls := findClass_of_methodNamed B.named
  have hlocks := B.notSynchronized
  have hS : va_S (fun q => Z ≤ q) s.heap s.heap [] := va_S.rf
  have hl := lv_entry ([.ref a0]) (n := 1) (Nat.le_of_ble_eq_true rfl)
  rw [lg_entry_eq]
  generalize (lg_sl ([.ref a0]) ++ List.replicate (1 - (lg_sl ([.ref a0])).length) Slot.unset).toArray = ls at hl ⊢
  have hl : lv_has ls 1 [(0, .ref a0)] := hl
  unfold kp_Vr_anew at hw
  refine lv_aload_n hx hb kb_Vr_anew_0 rfl (lv_at hl 0 rfl) ?_
  obtain ⟨hy, hw⟩ := hw
  refine zr_ci (va_runV (C := kR_Vr) (As := []) (rest := []) ⟨hx, hb, hml, hown, hts⟩ (kc_Vr_hasNoRules l D dA Z a0 σ _) ⟨callB_of 0 hts (z_gw kw_474) rfl rfl rfl (hts _ (List.mem_cons_of_mem _ kw_1)) (hts _ (List.mem_cons_of_mem _ kw_472)) (by decide +kernel) ⟨Nat.le_of_ble_eq_true rfl, Nat.le_of_ble_eq_true rfl⟩, (hts _ (List.mem_cons_of_mem _ kw_473)), (hts _ (List.mem_cons_of_mem _ kw_945))⟩ (z_preV z_nwN (Nat.le_trans hZ hS.1) hG hK hN hy (ci := 7) (r := (kR_Vr, kT_Vr, 13)) rfl hw) rfl rfl hl.1 rfl (lv_room (Nat.le_of_ble_eq_true rfl)) kb_Vr_anew_1 ⟨Nat.le_of_ble_eq_true rfl, Nat.le_of_ble_eq_true rfl⟩) hS (fun r1 σ1 H locs hw hG hS => ?_)
  refine lv_if_eq (tgt := 9) hx hb kb_Vr_anew_4 (by decide) (fun hc => ?_) (fun hc => ?_)
  · have hw := hw.1 hc
    refine lv_aload_n hx hb kb_Vr_anew_9 rfl (lv_at hl 0 rfl) ?_
    obtain ⟨hy, hw⟩ := hw
    refine zr_cv (va_runV (C := kR_Vr) (As := []) (rest := []) ⟨hx, hb, hml, hown, hts⟩ (kc_Vr_copyTables l D dA Z a0 σ1 _) ⟨callB_of 0 hts (z_gw kw_505) rfl rfl rfl (hts _ (List.mem_cons_of_mem _ kw_1)) (hts _ (List.mem_cons_of_mem _ kw_503)) (by decide +kernel) ⟨Nat.le_of_ble_eq_true rfl, Nat.le_of_ble_eq_true rfl⟩, (hts _ (List.mem_cons_of_mem _ kw_504)), (hts _ (List.mem_cons_of_mem _ kw_947))⟩ (z_preV z_nwN (Nat.le_trans hZ hS.1) hG hK hN hy (ci := 7) (r := (kR_Vr, kT_Vr, 13)) rfl hw) rfl rfl hl.1 rfl (lv_room (Nat.le_of_ble_eq_true rfl)) kb_Vr_anew_10 ⟨Nat.le_of_ble_eq_true rfl, Nat.le_of_ble_eq_true rfl⟩) hS (fun σ10 H locs hw hG hS => ?_)
    refine lv_aload_n hx hb kb_Vr_anew_13 rfl (lv_at hl 0 rfl) ?_
    obtain ⟨hy, r14, hrf, hw⟩ := hw
    refine zr_getR (ci := 7) (f := 712) hx hb hts ki_Vr hown hK hG hy rfl 12 (by decide) (hts _ (List.mem_cons_of_mem _ kw_207)) (fun _ h => h) rfl rfl hrf kb_Vr_anew_14 ?_
    refine lv_aload_n hx hb kb_Vr_anew_17 rfl (lv_at hl 0 rfl) ?_
    obtain ⟨hy, r18, hrf, hw⟩ := hw
    refine zr_getR (ci := 7) (f := 705) hx hb hts ki_Vr hown hK hG hy rfl 5 (by decide) (hts _ (List.mem_cons_of_mem _ kw_200)) (fun _ h => h) rfl rfl hrf kb_Vr_anew_18 ?_
    refine lv_aload_n hx hb kb_Vr_anew_21 rfl (lv_at hl 0 rfl) ?_
    obtain ⟨hy, r22, hrf, hw⟩ := hw
    refine zr_getR (ci := 7) (f := 707) hx hb hts ki_Vr hown hK hG hy rfl 7 (by decide) (hts _ (List.mem_cons_of_mem _ kw_202)) (fun _ h => h) rfl rfl hrf kb_Vr_anew_22 ?_
    obtain ⟨hy, hw⟩ := hw
    refine zr_ci (va_runV (C := kR_En) (As := [.ref r18, .ref r22]) (rest := []) ⟨hx, hb, hml, hown, hts⟩ (kc_En_workViews l D dA Z r14 r18 r22 σ10 _) ⟨callB_of 2 hts (z_gw kw_388) rfl rfl rfl (hts _ (List.mem_cons_of_mem _ kw_5)) (hts _ (List.mem_cons_of_mem _ kw_385)) (by decide +kernel) ⟨Nat.le_of_ble_eq_true rfl, Nat.le_of_ble_eq_true rfl⟩, (hts _ (List.mem_cons_of_mem _ kw_386)), (hts _ (List.mem_cons_of_mem _ kw_387))⟩ (z_preV z_nwN (Nat.le_trans hZ hS.1) hG hK hN hy (ci := 1) (r := (kR_En, kT_En, 12)) rfl hw) rfl rfl hl.1 rfl (lv_room (Nat.le_of_ble_eq_true rfl)) kb_Vr_anew_25 ⟨Nat.le_of_ble_eq_true rfl, Nat.le_of_ble_eq_true rfl⟩) hS (fun r25 σ25 H locs hw hG hS => ?_)
    refine lv_if_eq (tgt := 42) hx hb kb_Vr_anew_28 (by decide) (fun hc => ?_) (fun hc => ?_)
    · have hw := hw.1 hc
      refine lv_iconst (v := (0 : Int32)) hx hb kb_Vr_anew_42 (by decide) ?_
      exact zr_iret (free := fun q => Z ≤ q) z_nwN hx hb hr rfl hZ hK hN hG hS hw kb_Vr_anew_43 hlocks
    · have hw := hw.2 hc
      refine lv_aload_n hx hb kb_Vr_anew_31 rfl (lv_at hl 0 rfl) ?_
      obtain ⟨hy, hw⟩ := hw
      refine zr_ci (va_runV (C := kR_Vr) (As := []) (rest := []) ⟨hx, hb, hml, hown, hts⟩ (kc_Vr_viewsAreTheSame l D dA Z a0 σ25 _) ⟨callB_of 0 hts (z_gw kw_569) rfl rfl rfl (hts _ (List.mem_cons_of_mem _ kw_1)) (hts _ (List.mem_cons_of_mem _ kw_567)) (by decide +kernel) ⟨Nat.le_of_ble_eq_true rfl, Nat.le_of_ble_eq_true rfl⟩, (hts _ (List.mem_cons_of_mem _ kw_568)), (hts _ (List.mem_cons_of_mem _ kw_951))⟩ (z_preV z_nwN (Nat.le_trans hZ hS.1) hG hK hN hy (ci := 7) (r := (kR_Vr, kT_Vr, 13)) rfl hw) rfl rfl hl.1 rfl (lv_room (Nat.le_of_ble_eq_true rfl)) kb_Vr_anew_32 ⟨Nat.le_of_ble_eq_true rfl, Nat.le_of_ble_eq_true rfl⟩) hS (fun r32 σ32 H locs hw hG hS => ?_)
      refine lv_if_eq (tgt := 42) hx hb kb_Vr_anew_35 (by decide) (fun hc => ?_) (fun hc => ?_)
      · have hw := hw.1 hc
        refine lv_iconst (v := (0 : Int32)) hx hb kb_Vr_anew_42 (by decide) ?_
        exact zr_iret (free := fun q => Z ≤ q) z_nwN hx hb hr rfl hZ hK hN hG hS hw kb_Vr_anew_43 hlocks
      · have hw := hw.2 hc
        refine lv_iconst (v := (1 : Int32)) hx hb kb_Vr_anew_38 (by decide) ?_
        refine lv_goto (tgt := 43) hx hb kb_Vr_anew_39 (by decide) ?_
        exact zr_iret (free := fun q => Z ≤ q) z_nwN hx hb hr rfl hZ hK hN hG hS hw kb_Vr_anew_43 hlocks
  · have hw := hw.2 hc
    refine lv_iconst (v := (0 : Int32)) hx hb kb_Vr_anew_7 (by decide) ?_
    exact zr_iret (free := fun q => Z ≤ q) z_nwN hx hb hr rfl hZ hK hN hG hS hw kb_Vr_anew_8 hlocks
def kp_Vr_told (a0 : Nat) (x1 : Int32) (σ : z_S) (Post : Int32 → z_S → Prop) : Prop :=     ((x1 = (0 : Int32) → z_ty σ a0 = some (.inl 7) ∧ ∃ r41, z_R σ 705 a0 = some r41 ∧ (z_ty σ r41 = some (.inl 2) ∧ (Post (z_I σ 201 r41) σ))) ∧ (¬ x1 = (0 : Int32) → (x1 = (1 : Int32) → z_ty σ a0 = some (.inl 7) ∧ ∃ r49, z_R σ 705 a0 = some r49 ∧ (z_ty σ r49 = some (.inl 2) ∧ (Post (z_I σ 206 r49) σ))) ∧ (¬ x1 = (1 : Int32) → (x1 = (2 : Int32) → z_ty σ a0 = some (.inl 7) ∧ ∃ r57, z_R σ 708 a0 = some r57 ∧ (z_ty σ r57 = some (.inl 6) ∧ (Post (z_I σ 603 r57) σ))) ∧ (¬ x1 = (2 : Int32) → (x1 = (3 : Int32) → z_ty σ a0 = some (.inl 7) ∧ ∃ r65, z_R σ 711 a0 = some r65 ∧ (z_ty σ r65 = some (.inl 6) ∧ (Post (z_I σ 603 r65) σ))) ∧ (¬ x1 = (3 : Int32) → (x1 = (4 : Int32) → z_ty σ a0 = some (.inl 7) ∧ (Post (z_I σ 710 a0) σ)) ∧ (¬ x1 = (4 : Int32) → (x1 = (5 : Int32) → z_ty σ a0 = some (.inl 7) ∧ ∃ r78, z_R σ 705 a0 = some r78 ∧ (z_ty σ r78 = some (.inl 2) ∧ (Post (z_I σ 207 r78) σ))) ∧ (¬ x1 = (5 : Int32) → Post ((-2 : Int32)) σ)))))))
set_option maxHeartbeats 4000000 in
set_option maxRecDepth 100000 in
theorem kc_Vr_told (l : Launch) (D : va_G) (dA : Nat → ClassId) (Z : Nat) (a0 : Nat) (x1 : Int32) (σ : z_S) (Post : Int32 → z_S → Prop) : Met l km_Vr_told ks_Vr_told kr_Vr_told (va_Pc [.ref a0, .int x1] (fun U => z_U D z_cl z_KT dA Z (z_tys dA) z_nw σ U ∧ kp_Vr_told  a0 x1 σ Post)) (z_Qi D z_cl z_KT dA Z (z_tys dA) z_nw Post) 0 0 (fun q => Z ≤ q) := by
  refine Met.ofW (cc := prog_1_method_18_code) (maxL := 2) (ret := (some .int)) (by decide) rfl ?_
  intro p e s m args below meth c s₁ B hml hv
  obtain ⟨rfl, ⟨hZ, hG, hK, hN⟩, hw⟩ := hv
  have hx := B.exec
  have hb := B.bytes
  have hr := B.returns
  have hts := atoms_spec (ws := ks_Vr_told) B.pre
  have hown : s.vm.findClass kR_Vr = some m.cls := findClass_of_methodNamed B.named
  have hlocks := B.notSynchronized
  have hS : va_S (fun q => Z ≤ q) s.heap s.heap [] := va_S.rf
  have hl := lv_entry ([.ref a0, .int x1]) (n := 2) (Nat.le_of_ble_eq_true rfl)
  rw [lg_entry_eq]
  generalize (lg_sl ([.ref a0, .int x1]) ++ List.replicate (2 - (lg_sl ([.ref a0, .int x1])).length) Slot.unset).toArray = ls at hl ⊢
  have hl : lv_has ls 2 [(0, .ref a0), (1, .int x1)] := hl
  unfold kp_Vr_told at hw
  refine lv_iload_n hx hb kb_Vr_told_0 rfl (lv_at hl 1 rfl) ?_
  rcases Decidable.em (x1 = (0 : Int32)) with hc | hn0
  · have hw := hw.1 hc
    refine lv_tableIn (off := 39) (tgt := 40) hx hb kb_Vr_told_1 (by rw [hc]; decide) (by rw [hc]; decide) (by rw [hc]; rfl) (by decide) ?_
    refine lv_aload_n hx hb kb_Vr_told_40 rfl (lv_at hl 0 rfl) ?_
    obtain ⟨hy, r41, hrf, hw⟩ := hw
    refine zr_getR (ci := 7) (f := 705) hx hb hts ki_Vr hown hK hG hy rfl 5 (by decide) (hts _ (List.mem_cons_of_mem _ kw_200)) (fun _ h => h) rfl rfl hrf kb_Vr_told_41 ?_
    obtain ⟨hy, hw⟩ := hw
    refine zr_getI (ci := 2) (f := 201) hx hb hts ki_Pr hown hK hG hy rfl 1 (by decide) (hts _ (List.mem_cons_of_mem _ kw_30)) (fun _ h => h) rfl rfl kb_Vr_told_44 ?_
    exact zr_iret (free := fun q => Z ≤ q) z_nwN hx hb hr rfl hZ hK hN hG hS hw kb_Vr_told_47 hlocks
  · have hw := hw.2 hn0
    rcases Decidable.em (x1 = (1 : Int32)) with hc | hn1
    · have hw := hw.1 hc
      refine lv_tableIn (off := 47) (tgt := 48) hx hb kb_Vr_told_1 (by rw [hc]; decide) (by rw [hc]; decide) (by rw [hc]; rfl) (by decide) ?_
      refine lv_aload_n hx hb kb_Vr_told_48 rfl (lv_at hl 0 rfl) ?_
      obtain ⟨hy, r49, hrf, hw⟩ := hw
      refine zr_getR (ci := 7) (f := 705) hx hb hts ki_Vr hown hK hG hy rfl 5 (by decide) (hts _ (List.mem_cons_of_mem _ kw_200)) (fun _ h => h) rfl rfl hrf kb_Vr_told_49 ?_
      obtain ⟨hy, hw⟩ := hw
      refine zr_getI (ci := 2) (f := 206) hx hb hts ki_Pr hown hK hG hy rfl 6 (by decide) (hts _ (List.mem_cons_of_mem _ kw_44)) (fun _ h => h) rfl rfl kb_Vr_told_52 ?_
      exact zr_iret (free := fun q => Z ≤ q) z_nwN hx hb hr rfl hZ hK hN hG hS hw kb_Vr_told_55 hlocks
    · have hw := hw.2 hn1
      rcases Decidable.em (x1 = (2 : Int32)) with hc | hn2
      · have hw := hw.1 hc
        refine lv_tableIn (off := 55) (tgt := 56) hx hb kb_Vr_told_1 (by rw [hc]; decide) (by rw [hc]; decide) (by rw [hc]; rfl) (by decide) ?_
        refine lv_aload_n hx hb kb_Vr_told_56 rfl (lv_at hl 0 rfl) ?_
        obtain ⟨hy, r57, hrf, hw⟩ := hw
        refine zr_getR (ci := 7) (f := 708) hx hb hts ki_Vr hown hK hG hy rfl 8 (by decide) (hts _ (List.mem_cons_of_mem _ kw_203)) (fun _ h => h) rfl rfl hrf kb_Vr_told_57 ?_
        obtain ⟨hy, hw⟩ := hw
        refine zr_getI (ci := 6) (f := 603) hx hb hts ki_Si hown hK hG hy rfl 3 (by decide) (hts _ (List.mem_cons_of_mem _ kw_82)) (fun _ h => h) rfl rfl kb_Vr_told_60 ?_
        exact zr_iret (free := fun q => Z ≤ q) z_nwN hx hb hr rfl hZ hK hN hG hS hw kb_Vr_told_63 hlocks
      · have hw := hw.2 hn2
        rcases Decidable.em (x1 = (3 : Int32)) with hc | hn3
        · have hw := hw.1 hc
          refine lv_tableIn (off := 63) (tgt := 64) hx hb kb_Vr_told_1 (by rw [hc]; decide) (by rw [hc]; decide) (by rw [hc]; rfl) (by decide) ?_
          refine lv_aload_n hx hb kb_Vr_told_64 rfl (lv_at hl 0 rfl) ?_
          obtain ⟨hy, r65, hrf, hw⟩ := hw
          refine zr_getR (ci := 7) (f := 711) hx hb hts ki_Vr hown hK hG hy rfl 11 (by decide) (hts _ (List.mem_cons_of_mem _ kw_206)) (fun _ h => h) rfl rfl hrf kb_Vr_told_65 ?_
          obtain ⟨hy, hw⟩ := hw
          refine zr_getI (ci := 6) (f := 603) hx hb hts ki_Si hown hK hG hy rfl 3 (by decide) (hts _ (List.mem_cons_of_mem _ kw_82)) (fun _ h => h) rfl rfl kb_Vr_told_68 ?_
          exact zr_iret (free := fun q => Z ≤ q) z_nwN hx hb hr rfl hZ hK hN hG hS hw kb_Vr_told_71 hlocks
        · have hw := hw.2 hn3
          rcases Decidable.em (x1 = (4 : Int32)) with hc | hn4
          · have hw := hw.1 hc
            refine lv_tableIn (off := 71) (tgt := 72) hx hb kb_Vr_told_1 (by rw [hc]; decide) (by rw [hc]; decide) (by rw [hc]; rfl) (by decide) ?_
            refine lv_aload_n hx hb kb_Vr_told_72 rfl (lv_at hl 0 rfl) ?_
            obtain ⟨hy, hw⟩ := hw
            refine zr_getI (ci := 7) (f := 710) hx hb hts ki_Vr hown hK hG hy rfl 10 (by decide) (hts _ (List.mem_cons_of_mem _ kw_205)) (fun _ h => h) rfl rfl kb_Vr_told_73 ?_
            exact zr_iret (free := fun q => Z ≤ q) z_nwN hx hb hr rfl hZ hK hN hG hS hw kb_Vr_told_76 hlocks
          · have hw := hw.2 hn4
            rcases Decidable.em (x1 = (5 : Int32)) with hc | hn5
            · have hw := hw.1 hc
              refine lv_tableIn (off := 76) (tgt := 77) hx hb kb_Vr_told_1 (by rw [hc]; decide) (by rw [hc]; decide) (by rw [hc]; rfl) (by decide) ?_
              refine lv_aload_n hx hb kb_Vr_told_77 rfl (lv_at hl 0 rfl) ?_
              obtain ⟨hy, r78, hrf, hw⟩ := hw
              refine zr_getR (ci := 7) (f := 705) hx hb hts ki_Vr hown hK hG hy rfl 5 (by decide) (hts _ (List.mem_cons_of_mem _ kw_200)) (fun _ h => h) rfl rfl hrf kb_Vr_told_78 ?_
              obtain ⟨hy, hw⟩ := hw
              refine zr_getI (ci := 2) (f := 207) hx hb hts ki_Pr hown hK hG hy rfl 7 (by decide) (hts _ (List.mem_cons_of_mem _ kw_47)) (fun _ h => h) rfl rfl kb_Vr_told_81 ?_
              exact zr_iret (free := fun q => Z ≤ q) z_nwN hx hb hr rfl hZ hK hN hG hS hw kb_Vr_told_84 hlocks
            · have hw := hw.2 hn5
              refine lv_tableOut (tgt := 85) hx hb kb_Vr_told_1 (by have := lv_neT hn0 (a := 0) (by decide); have := lv_neT hn1 (a := 1) (by decide); have := lv_neT hn2 (a := 2) (by decide); have := lv_neT hn3 (a := 3) (by decide); have := lv_neT hn4 (a := 4) (by decide); have := lv_neT hn5 (a := 5) (by decide); omega) (by decide) ?_
              refine lv_bipush (v := (-2 : Int32)) hx hb kb_Vr_told_85 (by decide) ?_
              exact zr_iret (free := fun q => Z ≤ q) z_nwN hx hb hr rfl hZ hK hN hG hS hw kb_Vr_told_87 hlocks
