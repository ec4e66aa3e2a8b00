def kp_Mo_find (a0 : Nat) (x1 : Int32) (x2 : Int32) (x3 : Int32) (x4 : Int32) (σ : z_S) (Post : Int32 → z_S → Prop) : Prop := ∀ (X3 : Int32 → z_S → Prop),
    (∀ (v5 : Int32) (σ : z_S), (z_ty σ a0 = some (.inl 8) ∧ ∃ r6, z_R σ 826 a0 = some r6 ∧ (∃ n10 s10, z_ty σ r6 = some (.inr (0, n10, s10)) ∧ vp_in x1 n10 ∧ (((z_A σ s10 r6 x1.toNatClampNeg) ≤ v5 → Post ((-1 : Int32)) σ) ∧ (¬ (z_A σ s10 r6 x1.toNatClampNeg) ≤ v5 → z_ty σ a0 = some (.inl 8) ∧ kp_Mo_compare a0 x1 v5 x2 x3 x4 σ (fun (r22 : Int32) (σ22 : z_S) => (¬ r22 = 0 → X3 (v5 + (1 : Int32)) σ22) ∧ (r22 = 0 → Post v5 σ22)))))) → X3 v5 σ) →
    (X3 ((0 : Int32)) σ)
set_option maxHeartbeats 4000000 in
set_option maxRecDepth 100000 in
theorem kc_Mo_find (l : Launch) (D : va_G) (dA : Nat → ClassId) (Z : Nat) (a0 : Nat) (x1 : Int32) (x2 : Int32) (x3 : Int32) (x4 : Int32) (σ : z_S) (Post : Int32 → z_S → Prop) : Met l km_Mo_find ks_Mo_find kr_Mo_find (va_Pc [.ref a0, .int x1, .int x2, .int x3, .int x4] (fun U => z_U D z_cl z_KT dA Z (z_tys dA) z_nw σ U ∧ kp_Mo_find  a0 x1 x2 x3 x4 σ Post)) (z_Qi D z_cl z_KT dA Z (z_tys dA) z_nw Post) 0 0 (fun q => Z ≤ q) := by
  refine Met.ofW (cc := prog_10_method_24_code) (maxL := 6) (ret := (some .int)) (by decide) rfl ?_
  intro p e s m args below meth c s₁ B hml hv
  obtain ⟨rfl, ⟨hZ, hG, hK, hN⟩, hw⟩ := hv
  have hx := B.exec
  have hb := B.bytes
  have hr := B.returns
  have hts := atoms_spec (ws := ks_Mo_find) B.pre
  have hown : s.vm.findClass kR_Mo = some m.cls := findClass_of_methodNamed B.named
  have hlocks := B.notSynchronized
  have hS : va_S (fun q => Z ≤ q) s.heap s.heap [] := va_S.rf
  have hl := lv_entry ([.ref a0, .int x1, .int x2, .int x3, .int x4]) (n := 6) (Nat.le_of_ble_eq_true rfl)
  rw [lg_entry_eq]
  generalize (lg_sl ([.ref a0, .int x1, .int x2, .int x3, .int x4]) ++ List.replicate (6 - (lg_sl ([.ref a0, .int x1, .int x2, .int x3, .int x4])).length) Slot.unset).toArray = ls at hl ⊢
  have hl : lv_has ls 6 [(0, .ref a0), (1, .int x1), (2, .int x2), (3, .int x3), (4, .int x4)] := hl
  unfold kp_Mo_find at hw
  have hw := hw (fun (v5 : Int32) (σ : z_S) => ∀ (H : Heap) (locs : List Loc) (ls : Array Slot), z_G D z_cl z_KT dA Z σ H → va_S (fun q => Z ≤ q) s.heap H locs → lv_has ls 6 [(0, .ref a0), (1, .int x1), (2, .int x2), (3, .int x3), (4, .int x4), (5, .int v5)] → W p l e (headSpec ks_Mo_find kr_Mo_find).room s m ([.ref a0, .int x1, .int x2, .int x3, .int x4] : List Value).toArray below meth c H locs 0 0 (MQ below (z_Qi D z_cl z_KT dA Z (z_tys dA) z_nw Post) ([.ref a0, .int x1, .int x2, .int x3, .int x4] : List Value).toArray s 0 0 (fun q => Z ≤ q)) (F0 m 3 ls []))
  have hw := hw (by
    intro v5 σ hw H locs ls hG hS hl
    refine lv_iload hx hb kb_Mo_find_3 (lv_at hl 5 rfl) ?_
    refine lv_aload_n hx hb kb_Mo_find_5 rfl (lv_at hl 0 rfl) ?_
    obtain ⟨hy, r6, hrf, hw⟩ := hw
    refine zr_getR (ci := 8) (f := 826) hx hb hts ki_Mo hown hK hG hy rfl 26 (by decide) (hts _ (List.mem_cons_of_mem _ kw_610)) (fun _ h => h) rfl rfl hrf kb_Mo_find_6 ?_
    refine lv_iload_n hx hb kb_Mo_find_9 rfl (lv_at hl 1 rfl) ?_
    obtain ⟨n10, s10, hy, hi, hw⟩ := hw
    refine zr_iald hx hb hK hG 0 hy rfl hi kb_Mo_find_10 ?_
    refine lv_icmp_ge (tgt := 37) hx hb kb_Mo_find_11 (by decide) (fun hc => ?_) (fun hc => ?_)
    · have hw := hw.1 hc
      refine lv_iconst (v := (-1 : Int32)) hx hb kb_Mo_find_37 (by decide) ?_
      exact zr_iret (free := fun q => Z ≤ q) z_nwN hx hb hr rfl hZ hK hN hG hS hw kb_Mo_find_38 hlocks
    · have hw := hw.2 hc
      refine lv_aload_n hx hb kb_Mo_find_14 rfl (lv_at hl 0 rfl) ?_
      refine lv_iload_n hx hb kb_Mo_find_15 rfl (lv_at hl 1 rfl) ?_
      refine lv_iload hx hb kb_Mo_find_16 (lv_at hl 5 rfl) ?_
      refine lv_iload_n hx hb kb_Mo_find_18 rfl (lv_at hl 2 rfl) ?_
      refine lv_iload_n hx hb kb_Mo_find_19 rfl (lv_at hl 3 rfl) ?_
      refine lv_iload hx hb kb_Mo_find_20 (lv_at hl 4 rfl) ?_
      obtain ⟨hy, hw⟩ := hw
      refine zr_ci (va_runV (C := kR_Mo) (As := [.int x1, .int v5, .int x2, .int x3, .int x4]) (rest := []) ⟨hx, hb, hml, hown, hts⟩ (kc_Mo_compare l D dA Z a0 x1 v5 x2 x3 x4 σ _) ⟨callB_of 5 hts (z_gw kw_787) rfl rfl rfl (hts _ (List.mem_cons_of_mem _ kw_9)) (hts _ (List.mem_cons_of_mem _ kw_785)) (by decide +kernel) ⟨Nat.le_of_ble_eq_true rfl, Nat.le_of_ble_eq_true rfl⟩, (hts _ (List.mem_cons_of_mem _ kw_786)), (hts _ (List.mem_cons_of_mem _ kw_976))⟩ (z_preV z_nwN (Nat.le_trans hZ hS.1) hG hK hN hy (ci := 8) (r := (kR_Mo, kT_Mo, 51)) rfl hw) rfl rfl hl.1 rfl (lv_room (Nat.le_of_ble_eq_true rfl)) kb_Mo_find_22 ⟨Nat.le_of_ble_eq_true rfl, Nat.le_of_ble_eq_true rfl⟩) hS (fun r22 σ22 H locs hw hG hS => ?_)
      refine lv_if_ne (tgt := 31) hx hb kb_Mo_find_25 (by decide) (fun hc => ?_) (fun hc => ?_)
      · have hw := hw.1 hc
        refine lv_iinc (v := v5 + (1 : Int32)) (lv' := [(5, .int (v5 + (1 : Int32))), (0, .ref a0), (1, .int x1), (2, .int x2), (3, .int x3), (4, .int x4)]) hx hb kb_Mo_find_31 hl (k := 5) rfl rfl (by decide) rfl (fun ls hl => ?_)
        refine lv_goto (tgt := 3) hx hb kb_Mo_find_34 (by decide) ?_
        exact hw _ _ _ hG hS (lv_sub hl [1, 2, 3, 4, 5, 0] rfl)
      · have hw := hw.2 hc
        refine lv_iload hx hb kb_Mo_find_28 (lv_at hl 5 rfl) ?_
        exact zr_iret (free := fun q => Z ≤ q) z_nwN hx hb hr rfl hZ hK hN hG hS hw kb_Mo_find_30 hlocks)
  refine lv_iconst (v := (0 : Int32)) hx hb kb_Mo_find_0 (by decide) ?_
  refine lv_istore (lv' := [(5, .int ((0 : Int32))), (0, .ref a0), (1, .int x1), (2, .int x2), (3, .int x3), (4, .int x4)]) hx hb kb_Mo_find_1 hl (by decide) rfl (fun ls hl => ?_)
  exact hw _ _ _ hG hS (lv_sub hl [1, 2, 3, 4, 5, 0] rfl)
def kp_Mo_move (a0 : Nat) (x1 : Int32) (x2 : Int32) (x3 : Int32) (σ : z_S) (Post : z_S → Prop) : Prop := ∀ (X3 : Int32 → z_S → Prop),
    (∀ (v4 : Int32) (σ : z_S), ((((3 : Int32)) ≤ v4 → z_ty σ a0 = some (.inl 8) ∧ ∃ r44, z_R σ 825 a0 = some r44 ∧ (z_ty σ a0 = some (.inl 8) ∧ ∃ r54, z_R σ 825 a0 = some r54 ∧ (∃ n63 s63, z_ty σ r54 = some (.inr (0, n63, s63)) ∧ vp_in ((((40 : Int32)) * x1) + x2) n63 ∧ (∃ n64 s64, z_ty σ r44 = some (.inr (0, n64, s64)) ∧ vp_in ((((40 : Int32)) * x1) + x3) n64 ∧ ∀ σ64, σ64 = z_sA σ s64 r44 (upd (z_A σ s64 r44) ((((40 : Int32)) * x1) + x3).toNatClampNeg (z_A σ s63 r54 ((((40 : Int32)) * x1) + x2).toNatClampNeg)) → Post σ64)))) ∧ (¬ ((3 : Int32)) ≤ v4 → z_ty σ a0 = some (.inl 8) ∧ ∃ r10, z_R σ 824 a0 = some r10 ∧ (z_ty σ a0 = some (.inl 8) ∧ kp_Mo_base a0 x1 x3 σ (fun (r16 : Int32) (σ16 : z_S) => z_ty σ16 a0 = some (.inl 8) ∧ ∃ r23, z_R σ16 824 a0 = some r23 ∧ (z_ty σ16 a0 = some (.inl 8) ∧ kp_Mo_base a0 x1 x2 σ16 (fun (r29 : Int32) (σ29 : z_S) => ∃ n35 s35, z_ty σ29 r23 = some (.inr (0, n35, s35)) ∧ vp_in (r29 + v4) n35 ∧ (∃ n36 s36, z_ty σ29 r10 = some (.inr (0, n36, s36)) ∧ vp_in (r16 + v4) n36 ∧ ∀ σ36, σ36 = z_sA σ29 s36 r10 (upd (z_A σ29 s36 r10) (r16 + v4).toNatClampNeg (z_A σ29 s35 r23 (r29 + v4).toNatClampNeg)) → X3 (v4 + (1 : Int32)) σ36))))))) → X3 v4 σ) →
    (X3 ((0 : Int32)) σ)
set_option maxHeartbeats 4000000 in
set_option maxRecDepth 100000 in
theorem kc_Mo_move (l : Launch) (D : va_G) (dA : Nat → ClassId) (Z : Nat) (a0 : Nat) (x1 : Int32) (x2 : Int32) (x3 : Int32) (σ : z_S) (Post : z_S → Prop) : Met l km_Mo_move ks_Mo_move kr_Mo_move (va_Pc [.ref a0, .int x1, .int x2, .int x3] (fun U => z_U D z_cl z_KT dA Z (z_tys dA) z_nw σ U ∧ kp_Mo_move  a0 x1 x2 x3 σ Post)) (z_Qv D z_cl z_KT dA Z (z_tys dA) z_nw Post) 0 0 (fun q => Z ≤ q) := by
  refine Met.ofW (cc := prog_10_method_26_code) (maxL := 5) (ret := none) (by decide) rfl ?_
  intro p e s m args below meth c s₁ B hml hv
  obtain ⟨rfl, ⟨hZ, hG, hK, hN⟩, hw⟩ := hv
  have hx := B.exec
  have hb := B.bytes
  have hr := B.returns
  have hts := atoms_spec (ws := ks_Mo_move) B.pre
  have hown : s.vm.findClass kR_Mo = some m.cls := findClass_of_methodNamed B.named
  have hlocks := B.notSynchronized
  have hS : va_S (fun q => Z ≤ q) s.heap s.heap [] := va_S.rf
  have hl := lv_entry ([.ref a0, .int x1, .int x2, .int x3]) (n := 5) (Nat.le_of_ble_eq_true rfl)
  rw [lg_entry_eq]
  generalize (lg_sl ([.ref a0, .int x1, .int x2, .int x3]) ++ List.replicate (5 - (lg_sl ([.ref a0, .int x1, .int x2, .int x3])).length) Slot.unset).toArray = ls at hl ⊢
  have hl : lv_has ls 5 [(0, .ref a0), (1, .int x1), (2, .int x2), (3, .int x3)] := hl
  unfold kp_Mo_move at hw
  have hw := hw (fun (v4 : Int32) (σ : z_S) => ∀ (H : Heap) (locs : List Loc) (ls : Array Slot), z_G D z_cl z_KT dA Z σ H → va_S (fun q => Z ≤ q) s.heap H locs → lv_has ls 5 [(0, .ref a0), (1, .int x1), (2, .int x2), (3, .int x3), (4, .int v4)] → W p l e (headSpec ks_Mo_move kr_Mo_move).room s m ([.ref a0, .int x1, .int x2, .int x3] : List Value).toArray below meth c H locs 0 0 (MQ below (z_Qv D z_cl z_KT dA Z (z_tys dA) z_nw Post) ([.ref a0, .int x1, .int x2, .int x3] : List Value).toArray s 0 0 (fun q => Z ≤ q)) (F0 m 3 ls []))
  have hw := hw (by
    intro v4 σ hw H locs ls hG hS hl
    refine lv_iload hx hb kb_Mo_move_3 (lv_at hl 4 rfl) ?_
    refine lv_iconst (v := (3 : Int32)) hx hb kb_Mo_move_5 (by decide) ?_
    refine lv_icmp_ge (tgt := 43) hx hb kb_Mo_move_6 (by decide) (fun hc => ?_) (fun hc => ?_)
    · have hw := hw.1 hc
      refine lv_aload_n hx hb kb_Mo_move_43 rfl (lv_at hl 0 rfl) ?_
      obtain ⟨hy, r44, hrf, hw⟩ := hw
      refine zr_getR (ci := 8) (f := 825) hx hb hts ki_Mo hown hK hG hy rfl 25 (by decide) (hts _ (List.mem_cons_of_mem _ kw_609)) (fun _ h => h) rfl rfl hrf kb_Mo_move_44 ?_
      refine lv_bipush (v := (40 : Int32)) hx hb kb_Mo_move_47 (by decide) ?_
      refine lv_iload_n hx hb kb_Mo_move_49 rfl (lv_at hl 1 rfl) ?_
      refine lv_imul hx hb kb_Mo_move_50 ?_
      refine lv_iload_n hx hb kb_Mo_move_51 rfl (lv_at hl 3 rfl) ?_
      refine lv_iadd hx hb kb_Mo_move_52 ?_
      refine lv_aload_n hx hb kb_Mo_move_53 rfl (lv_at hl 0 rfl) ?_
      obtain ⟨hy, r54, hrf, hw⟩ := hw
      refine zr_getR (ci := 8) (f := 825) hx hb hts ki_Mo hown hK hG hy rfl 25 (by decide) (hts _ (List.mem_cons_of_mem _ kw_609)) (fun _ h => h) rfl rfl hrf kb_Mo_move_54 ?_
      refine lv_bipush (v := (40 : Int32)) hx hb kb_Mo_move_57 (by decide) ?_
      refine lv_iload_n hx hb kb_Mo_move_59 rfl (lv_at hl 1 rfl) ?_
      refine lv_imul hx hb kb_Mo_move_60 ?_
      refine lv_iload_n hx hb kb_Mo_move_61 rfl (lv_at hl 2 rfl) ?_
      refine lv_iadd hx hb kb_Mo_move_62 ?_
      obtain ⟨n63, s63, hy, hi, hw⟩ := hw
      refine zr_iald hx hb hK hG 0 hy rfl hi kb_Mo_move_63 ?_
      obtain ⟨n64, s64, hy, hi, hw⟩ := hw
      refine zr_iast hx hb hK hG hS 0 hy rfl hi kb_Mo_move_64 (fun H locs hG hS => ?_)
      obtain ⟨σ64, e64⟩ : ∃ z, z = z_sA σ s64 r44 (upd (z_A σ s64 r44) ((((40 : Int32)) * x1) + x3).toNatClampNeg (z_A σ s63 r54 ((((40 : Int32)) * x1) + x2).toNatClampNeg)) := ⟨_, rfl⟩
      rw [← e64] at hG
      have hw := hw _ e64
      exact zr_vret z_nwN hx hb hr hZ hK hN hG hS hw kb_Mo_move_65 hlocks
    · have hw := hw.2 hc
      refine lv_aload_n hx hb kb_Mo_move_9 rfl (lv_at hl 0 rfl) ?_
      obtain ⟨hy, r10, hrf, hw⟩ := hw
      refine zr_getR (ci := 8) (f := 824) hx hb hts ki_Mo hown hK hG hy rfl 24 (by decide) (hts _ (List.mem_cons_of_mem _ kw_608)) (fun _ h => h) rfl rfl hrf kb_Mo_move_10 ?_
      refine lv_aload_n hx hb kb_Mo_move_13 rfl (lv_at hl 0 rfl) ?_
      refine lv_iload_n hx hb kb_Mo_move_14 rfl (lv_at hl 1 rfl) ?_
      refine lv_iload_n hx hb kb_Mo_move_15 rfl (lv_at hl 3 rfl) ?_
      obtain ⟨hy, hw⟩ := hw
      refine zr_ci (va_runV (C := kR_Mo) (As := [.int x1, .int x3]) (rest := [.ref r10]) ⟨hx, hb, hml, hown, hts⟩ (kc_Mo_base l D dA Z a0 x1 x3 σ _) ⟨callB_of 2 hts (z_gw kw_790) rfl rfl rfl (hts _ (List.mem_cons_of_mem _ kw_9)) (hts _ (List.mem_cons_of_mem _ kw_788)) (by decide +kernel) ⟨Nat.le_of_ble_eq_true rfl, Nat.le_of_ble_eq_true rfl⟩, (hts _ (List.mem_cons_of_mem _ kw_789)), (hts _ (List.mem_cons_of_mem _ kw_977))⟩ (z_preV z_nwN (Nat.le_trans hZ hS.1) hG hK hN hy (ci := 8) (r := (kR_Mo, kT_Mo, 51)) rfl hw) rfl rfl hl.1 rfl (lv_room (Nat.le_of_ble_eq_true rfl)) kb_Mo_move_16 ⟨Nat.le_of_ble_eq_true rfl, Nat.le_of_ble_eq_true rfl⟩) hS (fun r16 σ16 H locs hw hG hS => ?_)
      refine lv_iload hx hb kb_Mo_move_19 (lv_at hl 4 rfl) ?_
      refine lv_iadd hx hb kb_Mo_move_21 ?_
      refine lv_aload_n hx hb kb_Mo_move_22 rfl (lv_at hl 0 rfl) ?_
      obtain ⟨hy, r23, hrf, hw⟩ := hw
      refine zr_getR (ci := 8) (f := 824) hx hb hts ki_Mo hown hK hG hy rfl 24 (by decide) (hts _ (List.mem_cons_of_mem _ kw_608)) (fun _ h => h) rfl rfl hrf kb_Mo_move_23 ?_
      refine lv_aload_n hx hb kb_Mo_move_26 rfl (lv_at hl 0 rfl) ?_
      refine lv_iload_n hx hb kb_Mo_move_27 rfl (lv_at hl 1 rfl) ?_
      refine lv_iload_n hx hb kb_Mo_move_28 rfl (lv_at hl 2 rfl) ?_
      obtain ⟨hy, hw⟩ := hw
      refine zr_ci (va_runV (C := kR_Mo) (As := [.int x1, .int x2]) (rest := [.ref r23, .int (r16 + v4), .ref r10]) ⟨hx, hb, hml, hown, hts⟩ (kc_Mo_base l D dA Z a0 x1 x2 σ16 _) ⟨callB_of 2 hts (z_gw kw_790) rfl rfl rfl (hts _ (List.mem_cons_of_mem _ kw_9)) (hts _ (List.mem_cons_of_mem _ kw_788)) (by decide +kernel) ⟨Nat.le_of_ble_eq_true rfl, Nat.le_of_ble_eq_true rfl⟩, (hts _ (List.mem_cons_of_mem _ kw_789)), (hts _ (List.mem_cons_of_mem _ kw_977))⟩ (z_preV z_nwN (Nat.le_trans hZ hS.1) hG hK hN hy (ci := 8) (r := (kR_Mo, kT_Mo, 51)) rfl hw) rfl rfl hl.1 rfl (lv_room (Nat.le_of_ble_eq_true rfl)) kb_Mo_move_29 ⟨Nat.le_of_ble_eq_true rfl, Nat.le_of_ble_eq_true rfl⟩) hS (fun r29 σ29 H locs hw hG hS => ?_)
      refine lv_iload hx hb kb_Mo_move_32 (lv_at hl 4 rfl) ?_
      refine lv_iadd hx hb kb_Mo_move_34 ?_
      obtain ⟨n35, s35, hy, hi, hw⟩ := hw
      refine zr_iald hx hb hK hG 0 hy rfl hi kb_Mo_move_35 ?_
      obtain ⟨n36, s36, hy, hi, hw⟩ := hw
      refine zr_iast hx hb hK hG hS 0 hy rfl hi kb_Mo_move_36 (fun H locs hG hS => ?_)
      obtain ⟨σ36, e36⟩ : ∃ z, z = z_sA σ29 s36 r10 (upd (z_A σ29 s36 r10) (r16 + v4).toNatClampNeg (z_A σ29 s35 r23 (r29 + v4).toNatClampNeg)) := ⟨_, rfl⟩
      rw [← e36] at hG
      have hw := hw _ e36
      refine lv_iinc (v := v4 + (1 : Int32)) (lv' := [(4, .int (v4 + (1 : Int32))), (0, .ref a0), (1, .int x1), (2, .int x2), (3, .int x3)]) hx hb kb_Mo_move_37 hl (k := 4) rfl rfl (by decide) rfl (fun ls hl => ?_)
      refine lv_goto (tgt := 3) hx hb kb_Mo_move_40 (by decide) ?_
      exact hw _ _ _ hG hS (lv_sub hl [1, 2, 3, 4, 0] rfl))
  refine lv_iconst (v := (0 : Int32)) hx hb kb_Mo_move_0 (by decide) ?_
  refine lv_istore (lv' := [(4, .int ((0 : Int32))), (0, .ref a0), (1, .int x1), (2, .int x2), (3, .int x3)]) hx hb kb_Mo_move_1 hl (by decide) rfl (fun ls hl => ?_)
  exact hw _ _ _ hG hS (lv_sub hl [1, 2, 3, 4, 0] rfl)
def kp_Mo_insert (a0 : Nat) (x1 : Int32) (x2 : Int32) (x3 : Int32) (x4 : Int32) (x5 : Int32) (σ : z_S) (Post : Int32 → z_S → Prop) : Prop := ∀ (X21 : Int32 → z_S → Prop) (X59 : Int32 → z_S → Prop),
    (∀ (v6 : Int32) (σ : z_S), ((v6 ≤ 0 → X59 v6 σ) ∧ (¬ v6 ≤ 0 → z_ty σ a0 = some (.inl 8) ∧ kp_Mo_compare a0 x1 (v6 - ((1 : Int32))) x2 x3 x4 σ (fun (r36 : Int32) (σ36 : z_S) => (0 ≤ r36 → X59 v6 σ36) ∧ (¬ 0 ≤ r36 → z_ty σ36 a0 = some (.inl 8) ∧ kp_Mo_move a0 x1 (v6 - ((1 : Int32))) v6 σ36 (fun (σ50 : z_S) => X21 (v6 + (-1 : Int32)) σ50))))) → X21 v6 σ) →
    (∀ (v6 : Int32) (σ : z_S), (z_ty σ a0 = some (.inl 8) ∧ kp_Mo_base a0 x1 v6 σ (fun (r63 : Int32) (σ63 : z_S) => z_ty σ63 a0 = some (.inl 8) ∧ ∃ r69, z_R σ63 824 a0 = some r69 ∧ (∃ n75 s75, z_ty σ63 r69 = some (.inr (0, n75, s75)) ∧ vp_in r63 n75 ∧ ∀ σ75, σ75 = z_sA σ63 s75 r69 (upd (z_A σ63 s75 r69) r63.toNatClampNeg x2) → z_ty σ75 a0 = some (.inl 8) ∧ ∃ r77, z_R σ75 824 a0 = some r77 ∧ (∃ n85 s85, z_ty σ75 r77 = some (.inr (0, n85, s85)) ∧ vp_in (r63 + ((1 : Int32))) n85 ∧ ∀ σ85, σ85 = z_sA σ75 s85 r77 (upd (z_A σ75 s85 r77) (r63 + ((1 : Int32))).toNatClampNeg x3) → z_ty σ85 a0 = some (.inl 8) ∧ ∃ r87, z_R σ85 824 a0 = some r87 ∧ (∃ n96 s96, z_ty σ85 r87 = some (.inr (0, n96, s96)) ∧ vp_in (r63 + ((2 : Int32))) n96 ∧ ∀ σ96, σ96 = z_sA σ85 s96 r87 (upd (z_A σ85 s96 r87) (r63 + ((2 : Int32))).toNatClampNeg x4) → z_ty σ96 a0 = some (.inl 8) ∧ ∃ r98, z_R σ96 825 a0 = some r98 ∧ (∃ n110 s110, z_ty σ96 r98 = some (.inr (0, n110, s110)) ∧ vp_in ((((40 : Int32)) * x1) + v6) n110 ∧ ∀ σ110, σ110 = z_sA σ96 s110 r98 (upd (z_A σ96 s110 r98) ((((40 : Int32)) * x1) + v6).toNatClampNeg x5) → z_ty σ110 a0 = some (.inl 8) ∧ ∃ r112, z_R σ110 826 a0 = some r112 ∧ (∃ n117 s117, z_ty σ110 r112 = some (.inr (0, n117, s117)) ∧ vp_in x1 n117 ∧ (∃ n120 s120, z_ty σ110 r112 = some (.inr (0, n120, s120)) ∧ vp_in x1 n120 ∧ ∀ σ120, σ120 = z_sA σ110 s120 r112 (upd (z_A σ110 s120 r112) x1.toNatClampNeg ((z_A σ110 s117 r112 x1.toNatClampNeg) + ((1 : Int32)))) → Post ((1 : Int32)) σ120)))))))) → X59 v6 σ) →
    (z_ty σ a0 = some (.inl 8) ∧ ∃ r1, z_R σ 826 a0 = some r1 ∧ (∃ n5 s5, z_ty σ r1 = some (.inr (0, n5, s5)) ∧ vp_in x1 n5 ∧ ((¬ (z_A σ s5 r1 x1.toNatClampNeg) = ((40 : Int32)) → z_ty σ a0 = some (.inl 8) ∧ ∃ r14, z_R σ 826 a0 = some r14 ∧ (∃ n18 s18, z_ty σ r14 = some (.inr (0, n18, s18)) ∧ vp_in x1 n18 ∧ (X21 (z_A σ s18 r14 x1.toNatClampNeg) σ))) ∧ ((z_A σ s5 r1 x1.toNatClampNeg) = ((40 : Int32)) → Post ((0 : Int32)) σ))))
set_option maxHeartbeats 4000000 in
set_option maxRecDepth 100000 in
theorem kc_Mo_insert (l : Launch) (D : va_G) (dA : Nat → ClassId) (Z : Nat) (a0 : Nat) (x1 : Int32) (x2 : Int32) (x3 : Int32) (x4 : Int32) (x5 : Int32) (σ : z_S) (Post : Int32 → z_S → Prop) : Met l km_Mo_insert ks_Mo_insert kr_Mo_insert (va_Pc [.ref a0, .int x1, .int x2, .int x3, .int x4, .int x5] (fun U => z_U D z_cl z_KT dA Z (z_tys dA) z_nw σ U ∧ kp_Mo_insert  a0 x1 x2 x3 x4 x5 σ Post)) (z_Qi D z_cl z_KT dA Z (z_tys dA) z_nw Post) 0 0 (fun q => Z ≤ q) := by
  refine Met.ofW (cc := prog_10_method_25_code) (maxL := 8) (ret := (some .boolean)) (by decide) rfl ?_
  intro p e s m args below meth c s₁ B hml hv
  obtain ⟨rfl, ⟨hZ, hG, hK, hN⟩, hw⟩ := hv
  have hx := B.exec
  have hb := B.bytes
  have hr := B.returns
  have hts := atoms_spec (ws := ks_Mo_insert) B.pre
  have hown : s.vm.findClass kR_Mo = some m.cls := findClass_of_methodNamed B.named
  have hlocks := B.notSynchronized
  have hS : va_S (fun q => Z ≤ q) s.heap s.heap [] := va_S.rf
  have hl := lv_entry ([.ref a0, .int x1, .int x2, .int x3, .int x4, .int x5]) (n := 8) (Nat.le_of_ble_eq_true rfl)
  rw [lg_entry_eq]
  generalize (lg_sl ([.ref a0, .int x1, .int x2, .int x3, .int x4, .int x5]) ++ List.replicate (8 - (lg_sl ([.ref a0, .int x1, .int x2, .int x3, .int x4, .int x5])).length) Slot.unset).toArray = ls at hl ⊢
  have hl : lv_has ls 8 [(0, .ref a0), (1, .int x1), (2, .int x2), (3, .int x3), (4, .int x4), (5, .int x5)] := hl
  unfold kp_Mo_insert at hw
  have hw := hw (fun (v6 : Int32) (σ : z_S) => ∀ (H : Heap) (locs : List Loc) (ls : Array Slot), z_G D z_cl z_KT dA Z σ H → va_S (fun q => Z ≤ q) s.heap H locs → lv_has ls 8 [(0, .ref a0), (1, .int x1), (2, .int x2), (3, .int x3), (4, .int x4), (5, .int x5), (6, .int v6)] → W p l e (headSpec ks_Mo_insert kr_Mo_insert).room s m ([.ref a0, .int x1, .int x2, .int x3, .int x4, .int x5] : List Value).toArray below meth c H locs 0 0 (MQ below (z_Qi D z_cl z_KT dA Z (z_tys dA) z_nw Post) ([.ref a0, .int x1, .int x2, .int x3, .int x4, .int x5] : List Value).toArray s 0 0 (fun q => Z ≤ q)) (F0 m 21 ls []))
  have hw := hw (fun (v6 : Int32) (σ : z_S) => ∀ (H : Heap) (locs : List Loc) (ls : Array Slot), z_G D z_cl z_KT dA Z σ H → va_S (fun q => Z ≤ q) s.heap H locs → lv_has ls 8 [(0, .ref a0), (1, .int x1), (2, .int x2), (3, .int x3), (4, .int x4), (5, .int x5), (6, .int v6)] → W p l e (headSpec ks_Mo_insert kr_Mo_insert).room s m ([.ref a0, .int x1, .int x2, .int x3, .int x4, .int x5] : List Value).toArray below meth c H locs 0 0 (MQ below (z_Qi D z_cl z_KT dA Z (z_tys dA) z_nw Post) ([.ref a0, .int x1, .int x2, .int x3, .int x4, .int x5] : List Value).toArray s 0 0 (fun q => Z ≤ q)) (F0 m 59 ls []))
  have hw := hw (by
    intro v6 σ hw H locs ls hG hS hl
    refine lv_iload hx hb kb_Mo_insert_21 (lv_at hl 6 rfl) ?_
    refine lv_if_le (tgt := 59) hx hb kb_Mo_insert_23 (by decide) (fun hc => ?_) (fun hc => ?_)
    · have hw := hw.1 hc
      exact hw _ _ _ hG hS (lv_sub hl [0, 1, 2, 3, 4, 5, 6] rfl)
    · have hw := hw.2 hc
      refine lv_aload_n hx hb kb_Mo_insert_26 rfl (lv_at hl 0 rfl) ?_
      refine lv_iload_n hx hb kb_Mo_insert_27 rfl (lv_at hl 1 rfl) ?_
      refine lv_iload hx hb kb_Mo_insert_28 (lv_at hl 6 rfl) ?_
      refine lv_iconst (v := (1 : Int32)) hx hb kb_Mo_insert_30 (by decide) ?_
      refine lv_isub hx hb kb_Mo_insert_31 ?_
      refine lv_iload_n hx hb kb_Mo_insert_32 rfl (lv_at hl 2 rfl) ?_
      refine lv_iload_n hx hb kb_Mo_insert_33 rfl (lv_at hl 3 rfl) ?_
      refine lv_iload hx hb kb_Mo_insert_34 (lv_at hl 4 rfl) ?_
      obtain ⟨hy, hw⟩ := hw
      refine zr_ci (va_runV (C := kR_Mo) (As := [.int x1, .int (v6 - ((1 : Int32))), .int x2, .int x3, .int x4]) (rest := []) ⟨hx, hb, hml, hown, hts⟩ (kc_Mo_compare l D dA Z a0 x1 (v6 - ((1 : Int32))) x2 x3 x4 σ _) ⟨callB_of 5 hts (z_gw kw_787) rfl rfl rfl (hts _ (List.mem_cons_of_mem _ kw_9)) (hts _ (List.mem_cons_of_mem _ kw_785)) (by decide +kernel) ⟨Nat.le_of_ble_eq_true rfl, Nat.le_of_ble_eq_true rfl⟩, (hts _ (List.mem_cons_of_mem _ kw_786)), (hts _ (List.mem_cons_of_mem _ kw_976))⟩ (z_preV z_nwN (Nat.le_trans hZ hS.1) hG hK hN hy (ci := 8) (r := (kR_Mo, kT_Mo, 51)) rfl hw) rfl rfl hl.1 rfl (lv_room (Nat.le_of_ble_eq_true rfl)) kb_Mo_insert_36 ⟨Nat.le_of_ble_eq_true rfl, Nat.le_of_ble_eq_true rfl⟩) hS (fun r36 σ36 H locs hw hG hS => ?_)
      refine lv_if_ge (tgt := 59) hx hb kb_Mo_insert_39 (by decide) (fun hc => ?_) (fun hc => ?_)
      · have hw := hw.1 hc
        exact hw _ _ _ hG hS (lv_sub hl [0, 1, 2, 3, 4, 5, 6] rfl)
      · have hw := hw.2 hc
        refine lv_aload_n hx hb kb_Mo_insert_42 rfl (lv_at hl 0 rfl) ?_
        refine lv_iload_n hx hb kb_Mo_insert_43 rfl (lv_at hl 1 rfl) ?_
        refine lv_iload hx hb kb_Mo_insert_44 (lv_at hl 6 rfl) ?_
        refine lv_iconst (v := (1 : Int32)) hx hb kb_Mo_insert_46 (by decide) ?_
        refine lv_isub hx hb kb_Mo_insert_47 ?_
        refine lv_iload hx hb kb_Mo_insert_48 (lv_at hl 6 rfl) ?_
        obtain ⟨hy, hw⟩ := hw
        refine zr_cv (va_runV (C := kR_Mo) (As := [.int x1, .int (v6 - ((1 : Int32))), .int v6]) (rest := []) ⟨hx, hb, hml, hown, hts⟩ (kc_Mo_move l D dA Z a0 x1 (v6 - ((1 : Int32))) v6 σ36 _) ⟨callB_of 3 hts (z_gw kw_802) rfl rfl rfl (hts _ (List.mem_cons_of_mem _ kw_9)) (hts _ (List.mem_cons_of_mem _ kw_800)) (by decide +kernel) ⟨Nat.le_of_ble_eq_true rfl, Nat.le_of_ble_eq_true rfl⟩, (hts _ (List.mem_cons_of_mem _ kw_801)), (hts _ (List.mem_cons_of_mem _ kw_981))⟩ (z_preV z_nwN (Nat.le_trans hZ hS.1) hG hK hN hy (ci := 8) (r := (kR_Mo, kT_Mo, 51)) rfl hw) rfl rfl hl.1 rfl (lv_room (Nat.le_of_ble_eq_true rfl)) kb_Mo_insert_50 ⟨Nat.le_of_ble_eq_true rfl, Nat.le_of_ble_eq_true rfl⟩) hS (fun σ50 H locs hw hG hS => ?_)
        refine lv_iinc (v := v6 + (-1 : Int32)) (lv' := [(6, .int (v6 + (-1 : Int32))), (0, .ref a0), (1, .int x1), (2, .int x2), (3, .int x3), (4, .int x4), (5, .int x5)]) hx hb kb_Mo_insert_53 hl (k := 6) rfl rfl (by decide) rfl (fun ls hl => ?_)
        refine lv_goto (tgt := 21) hx hb kb_Mo_insert_56 (by decide) ?_
        exact hw _ _ _ hG hS (lv_sub hl [1, 2, 3, 4, 5, 6, 0] rfl))
  have hw := hw (by
    intro v6 σ hw H locs ls hG hS hl
    refine lv_aload_n hx hb kb_Mo_insert_59 rfl (lv_at hl 0 rfl) ?_
    refine lv_iload_n hx hb kb_Mo_insert_60 rfl (lv_at hl 1 rfl) ?_
    refine lv_iload hx hb kb_Mo_insert_61 (lv_at hl 6 rfl) ?_
    obtain ⟨hy, hw⟩ := hw
    refine zr_ci (va_runV (C := kR_Mo) (As := [.int x1, .int v6]) (rest := []) ⟨hx, hb, hml, hown, hts⟩ (kc_Mo_base l D dA Z a0 x1 v6 σ _) ⟨callB_of 2 hts (z_gw kw_790) rfl rfl rfl (hts _ (List.mem_cons_of_mem _ kw_9)) (hts _ (List.mem_cons_of_mem _ kw_788)) (by decide +kernel) ⟨Nat.le_of_ble_eq_true rfl, Nat.le_of_ble_eq_true rfl⟩, (hts _ (List.mem_cons_of_mem _ kw_789)), (hts _ (List.mem_cons_of_mem _ kw_977))⟩ (z_preV z_nwN (Nat.le_trans hZ hS.1) hG hK hN hy (ci := 8) (r := (kR_Mo, kT_Mo, 51)) rfl hw) rfl rfl hl.1 rfl (lv_room (Nat.le_of_ble_eq_true rfl)) kb_Mo_insert_63 ⟨Nat.le_of_ble_eq_true rfl, Nat.le_of_ble_eq_true rfl⟩) hS (fun r63 σ63 H locs hw hG hS => ?_)
    refine lv_istore (lv' := [(7, .int r63), (0, .ref a0), (1, .int x1), (2, .int x2), (3, .int x3), (4, .int x4), (5, .int x5), (6, .int v6)]) hx hb kb_Mo_insert_66 hl (by decide) rfl (fun ls hl => ?_)
    refine lv_aload_n hx hb kb_Mo_insert_68 rfl (lv_at hl 1 rfl) ?_
    obtain ⟨hy, r69, hrf, hw⟩ := hw
    refine zr_getR (ci := 8) (f := 824) hx hb hts ki_Mo hown hK hG hy rfl 24 (by decide) (hts _ (List.mem_cons_of_mem _ kw_608)) (fun _ h => h) rfl rfl hrf kb_Mo_insert_69 ?_
    refine lv_iload hx hb kb_Mo_insert_72 (lv_at hl 0 rfl) ?_
    refine lv_iload_n hx hb kb_Mo_insert_74 rfl (lv_at hl 3 rfl) ?_
    obtain ⟨n75, s75, hy, hi, hw⟩ := hw
    refine zr_iast hx hb hK hG hS 0 hy rfl hi kb_Mo_insert_75 (fun H locs hG hS => ?_)
    obtain ⟨σ75, e75⟩ : ∃ z, z = z_sA σ63 s75 r69 (upd (z_A σ63 s75 r69) r63.toNatClampNeg x2) := ⟨_, rfl⟩
    rw [← e75] at hG
    have hw := hw _ e75
    refine lv_aload_n hx hb kb_Mo_insert_76 rfl (lv_at hl 1 rfl) ?_
    obtain ⟨hy, r77, hrf, hw⟩ := hw
    refine zr_getR (ci := 8) (f := 824) hx hb hts ki_Mo hown hK hG hy rfl 24 (by decide) (hts _ (List.mem_cons_of_mem _ kw_608)) (fun _ h => h) rfl rfl hrf kb_Mo_insert_77 ?_
    refine lv_iload hx hb kb_Mo_insert_80 (lv_at hl 0 rfl) ?_
    refine lv_iconst (v := (1 : Int32)) hx hb kb_Mo_insert_82 (by decide) ?_
    refine lv_iadd hx hb kb_Mo_insert_83 ?_
    refine lv_iload_n hx hb kb_Mo_insert_84 rfl (lv_at hl 4 rfl) ?_
    obtain ⟨n85, s85, hy, hi, hw⟩ := hw
    refine zr_iast hx hb hK hG hS 0 hy rfl hi kb_Mo_insert_85 (fun H locs hG hS => ?_)
    obtain ⟨σ85, e85⟩ : ∃ z, z = z_sA σ75 s85 r77 (upd (z_A σ75 s85 r77) (r63 + ((1 : Int32))).toNatClampNeg x3) := ⟨_, rfl⟩
    rw [← e85] at hG
    have hw := hw _ e85
    refine lv_aload_n hx hb kb_Mo_insert_86 rfl (lv_at hl 1 rfl) ?_
    obtain ⟨hy, r87, hrf, hw⟩ := hw
    refine zr_getR (ci := 8) (f := 824) hx hb hts ki_Mo hown hK hG hy rfl 24 (by decide) (hts _ (List.mem_cons_of_mem _ kw_608)) (fun _ h => h) rfl rfl hrf kb_Mo_insert_87 ?_
    refine lv_iload hx hb kb_Mo_insert_90 (lv_at hl 0 rfl) ?_
    refine lv_iconst (v := (2 : Int32)) hx hb kb_Mo_insert_92 (by decide) ?_
    refine lv_iadd hx hb kb_Mo_insert_93 ?_
    refine lv_iload hx hb kb_Mo_insert_94 (lv_at hl 5 rfl) ?_
    obtain ⟨n96, s96, hy, hi, hw⟩ := hw
    refine zr_iast hx hb hK hG hS 0 hy rfl hi kb_Mo_insert_96 (fun H locs hG hS => ?_)
    obtain ⟨σ96, e96⟩ : ∃ z, z = z_sA σ85 s96 r87 (upd (z_A σ85 s96 r87) (r63 + ((2 : Int32))).toNatClampNeg x4) := ⟨_, rfl⟩
    rw [← e96] at hG
    have hw := hw _ e96
    refine lv_aload_n hx hb kb_Mo_insert_97 rfl (lv_at hl 1 rfl) ?_
    obtain ⟨hy, r98, hrf, hw⟩ := hw
    refine zr_getR (ci := 8) (f := 825) hx hb hts ki_Mo hown hK hG hy rfl 25 (by decide) (hts _ (List.mem_cons_of_mem _ kw_609)) (fun _ h => h) rfl rfl hrf kb_Mo_insert_98 ?_
    refine lv_bipush (v := (40 : Int32)) hx hb kb_Mo_insert_101 (by decide) ?_
    refine lv_iload_n hx hb kb_Mo_insert_103 rfl (lv_at hl 2 rfl) ?_
    refine lv_imul hx hb kb_Mo_insert_104 ?_
    refine lv_iload hx hb kb_Mo_insert_105 (lv_at hl 7 rfl) ?_
    refine lv_iadd hx hb kb_Mo_insert_107 ?_
    refine lv_iload hx hb kb_Mo_insert_108 (lv_at hl 6 rfl) ?_
    obtain ⟨n110, s110, hy, hi, hw⟩ := hw
    refine zr_iast hx hb hK hG hS 0 hy rfl hi kb_Mo_insert_110 (fun H locs hG hS => ?_)
    obtain ⟨σ110, e110⟩ : ∃ z, z = z_sA σ96 s110 r98 (upd (z_A σ96 s110 r98) ((((40 : Int32)) * x1) + v6).toNatClampNeg x5) := ⟨_, rfl⟩
    rw [← e110] at hG
    have hw := hw _ e110
    refine lv_aload_n hx hb kb_Mo_insert_111 rfl (lv_at hl 1 rfl) ?_
    obtain ⟨hy, r112, hrf, hw⟩ := hw
    refine zr_getR (ci := 8) (f := 826) hx hb hts ki_Mo hown hK hG hy rfl 26 (by decide) (hts _ (List.mem_cons_of_mem _ kw_610)) (fun _ h => h) rfl rfl hrf kb_Mo_insert_112 ?_
    refine lv_iload_n hx hb kb_Mo_insert_115 rfl (lv_at hl 2 rfl) ?_
    refine lv_dup2_11 hx hb kb_Mo_insert_116 rfl rfl ?_
    obtain ⟨n117, s117, hy, hi, hw⟩ := hw
    refine zr_iald hx hb hK hG 0 hy rfl hi kb_Mo_insert_117 ?_
    refine lv_iconst (v := (1 : Int32)) hx hb kb_Mo_insert_118 (by decide) ?_
    refine lv_iadd hx hb kb_Mo_insert_119 ?_
    obtain ⟨n120, s120, hy, hi, hw⟩ := hw
    refine zr_iast hx hb hK hG hS 0 hy rfl hi kb_Mo_insert_120 (fun H locs hG hS => ?_)
    obtain ⟨σ120, e120⟩ : ∃ z, z = z_sA σ110 s120 r112 (upd (z_A σ110 s120 r112) x1.toNatClampNeg ((z_A σ110 s117 r112 x1.toNatClampNeg) + ((1 : Int32)))) := ⟨_, rfl⟩
    rw [← e120] at hG
    have hw := hw _ e120
    refine lv_iconst (v := (1 : Int32)) hx hb kb_Mo_insert_121 (by decide) ?_
    exact zr_iret (free := fun q => Z ≤ q) z_nwN hx hb hr rfl hZ hK hN hG hS hw kb_Mo_insert_122 hlocks)
  refine lv_aload_n hx hb kb_Mo_insert_0 rfl (lv_at hl 0 rfl) ?_
  obtain ⟨hy, r1, hrf, hw⟩ := hw
  refine zr_getR (ci := 8) (f := 826) hx hb hts ki_Mo hown hK hG hy rfl 26 (by decide) (hts _ (List.mem_cons_of_mem _ kw_610)) (fun _ h => h) rfl rfl hrf kb_Mo_insert_1 ?_
  refine lv_iload_n hx hb kb_Mo_insert_4 rfl (lv_at hl 1 rfl) ?_
  obtain ⟨n5, s5, hy, hi, hw⟩ := hw
  refine zr_iald hx hb hK hG 0 hy rfl hi kb_Mo_insert_5 ?_
  refine lv_bipush (v := (40 : Int32)) hx hb kb_Mo_insert_6 (by decide) ?_
  refine lv_icmp_ne (tgt := 13) hx hb kb_Mo_insert_8 (by decide) (fun hc => ?_) (fun hc => ?_)
  · have hw := hw.1 hc
    refine lv_aload_n hx hb kb_Mo_insert_13 rfl (lv_at hl 0 rfl) ?_
    obtain ⟨hy, r14, hrf, hw⟩ := hw
    refine zr_getR (ci := 8) (f := 826) hx hb hts ki_Mo hown hK hG hy rfl 26 (by decide) (hts _ (List.mem_cons_of_mem _ kw_610)) (fun _ h => h) rfl rfl hrf kb_Mo_insert_14 ?_
    refine lv_iload_n hx hb kb_Mo_insert_17 rfl (lv_at hl 1 rfl) ?_
    obtain ⟨n18, s18, hy, hi, hw⟩ := hw
    refine zr_iald hx hb hK hG 0 hy rfl hi kb_Mo_insert_18 ?_
    refine lv_istore (lv' := [(6, .int (z_A σ s18 r14 x1.toNatClampNeg)), (0, .ref a0), (1, .int x1), (2, .int x2), (3, .int x3), (4, .int x4), (5, .int x5)]) hx hb kb_Mo_insert_19 hl (by decide) rfl (fun ls hl => ?_)
    exact hw _ _ _ hG hS (lv_sub hl [1, 2, 3, 4, 5, 6, 0] rfl)
  · have hw := hw.2 hc
    refine lv_iconst (v := (0 : Int32)) hx hb kb_Mo_insert_11 (by decide) ?_
    exact zr_iret (free := fun q => Z ≤ q) z_nwN hx hb hr rfl hZ hK hN hG hS hw kb_Mo_insert_12 hlocks
def kp_Mo_remove (a0 : Nat) (x1 : Int32) (x2 : Int32) (σ : z_S) (Post : z_S → Prop) : Prop := ∀ (X4 : Int32 → z_S → Prop),
    (∀ (v3 : Int32) (σ : z_S), (z_ty σ a0 = some (.inl 8) ∧ ∃ r6, z_R σ 826 a0 = some r6 ∧ (∃ n10 s10, z_ty σ r6 = some (.inr (0, n10, s10)) ∧ vp_in x1 n10 ∧ (((z_A σ s10 r6 x1.toNatClampNeg) ≤ v3 → z_ty σ a0 = some (.inl 8) ∧ ∃ r30, z_R σ 826 a0 = some r30 ∧ (∃ n35 s35, z_ty σ r30 = some (.inr (0, n35, s35)) ∧ vp_in x1 n35 ∧ (∃ n38 s38, z_ty σ r30 = some (.inr (0, n38, s38)) ∧ vp_in x1 n38 ∧ ∀ σ38, σ38 = z_sA σ s38 r30 (upd (z_A σ s38 r30) x1.toNatClampNeg ((z_A σ s35 r30 x1.toNatClampNeg) - ((1 : Int32)))) → Post σ38))) ∧ (¬ (z_A σ s10 r6 x1.toNatClampNeg) ≤ v3 → z_ty σ a0 = some (.inl 8) ∧ kp_Mo_move a0 x1 v3 (v3 - ((1 : Int32))) σ (fun (σ20 : z_S) => X4 (v3 + (1 : Int32)) σ20))))) → X4 v3 σ) →
    (X4 (x2 + ((1 : Int32))) σ)
set_option maxHeartbeats 4000000 in
set_option maxRecDepth 100000 in
theorem kc_Mo_remove (l : Launch) (D : va_G) (dA : Nat → ClassId) (Z : Nat) (a0 : Nat) (x1 : Int32) (x2 : Int32) (σ : z_S) (Post : z_S → Prop) : Met l km_Mo_remove ks_Mo_remove kr_Mo_remove (va_Pc [.ref a0, .int x1, .int x2] (fun U => z_U D z_cl z_KT dA Z (z_tys dA) z_nw σ U ∧ kp_Mo_remove  a0 x1 x2 σ Post)) (z_Qv D z_cl z_KT dA Z (z_tys dA) z_nw Post) 0 0 (fun q => Z ≤ q) := by
  refine Met.ofW (cc := prog_10_method_27_code) (maxL := 4) (ret := none) (by decide) rfl ?_
  intro p e s m args below meth c s₁ B hml hv
  obtain ⟨rfl, ⟨hZ, hG, hK, hN⟩, hw⟩ := hv
  have hx := B.exec
  have hb := B.bytes
  have hr := B.returns
  have hts := atoms_spec (ws := ks_Mo_remove) B.pre
  have hown : s.vm.findClass kR_Mo = some m.cls := findClass_of_methodNamed B.named
  have hlocks := B.notSynchronized
  have hS : va_S (fun q => Z ≤ q) s.heap s.heap [] := va_S.rf
  have hl := lv_entry ([.ref a0, .int x1, .int x2]) (n := 4) (Nat.le_of_ble_eq_true rfl)
  rw [lg_entry_eq]
  generalize (lg_sl ([.ref a0, .int x1, .int x2]) ++ List.replicate (4 - (lg_sl ([.ref a0, .int x1, .int x2])).length) Slot.unset).toArray = ls at hl ⊢
  have hl : lv_has ls 4 [(0, .ref a0), (1, .int x1), (2, .int x2)] := hl
  unfold kp_Mo_remove at hw
  have hw := hw (fun (v3 : Int32) (σ : z_S) => ∀ (H : Heap) (locs : List Loc) (ls : Array Slot), z_G D z_cl z_KT dA Z σ H → va_S (fun q => Z ≤ q) s.heap H locs → lv_has ls 4 [(0, .ref a0), (1, .int x1), (3, .int v3)] → W p l e (headSpec ks_Mo_remove kr_Mo_remove).room s m ([.ref a0, .int x1, .int x2] : List Value).toArray below meth c H locs 0 0 (MQ below (z_Qv D z_cl z_KT dA Z (z_tys dA) z_nw Post) ([.ref a0, .int x1, .int x2] : List Value).toArray s 0 0 (fun q => Z ≤ q)) (F0 m 4 ls []))
  have hw := hw (by
    intro v3 σ hw H locs ls hG hS hl
    refine lv_iload_n hx hb kb_Mo_remove_4 rfl (lv_at hl 2 rfl) ?_
    refine lv_aload_n hx hb kb_Mo_remove_5 rfl (lv_at hl 0 rfl) ?_
    obtain ⟨hy, r6, hrf, hw⟩ := hw
    refine zr_getR (ci := 8) (f := 826) hx hb hts ki_Mo hown hK hG hy rfl 26 (by decide) (hts _ (List.mem_cons_of_mem _ kw_610)) (fun _ h => h) rfl rfl hrf kb_Mo_remove_6 ?_
    refine lv_iload_n hx hb kb_Mo_remove_9 rfl (lv_at hl 1 rfl) ?_
    obtain ⟨n10, s10, hy, hi, hw⟩ := hw
    refine zr_iald hx hb hK hG 0 hy rfl hi kb_Mo_remove_10 ?_
    refine lv_icmp_ge (tgt := 29) hx hb kb_Mo_remove_11 (by decide) (fun hc => ?_) (fun hc => ?_)
    · have hw := hw.1 hc
      refine lv_aload_n hx hb kb_Mo_remove_29 rfl (lv_at hl 0 rfl) ?_
      obtain ⟨hy, r30, hrf, hw⟩ := hw
      refine zr_getR (ci := 8) (f := 826) hx hb hts ki_Mo hown hK hG hy rfl 26 (by decide) (hts _ (List.mem_cons_of_mem _ kw_610)) (fun _ h => h) rfl rfl hrf kb_Mo_remove_30 ?_
      refine lv_iload_n hx hb kb_Mo_remove_33 rfl (lv_at hl 1 rfl) ?_
      refine lv_dup2_11 hx hb kb_Mo_remove_34 rfl rfl ?_
      obtain ⟨n35, s35, hy, hi, hw⟩ := hw
      refine zr_iald hx hb hK hG 0 hy rfl hi kb_Mo_remove_35 ?_
      refine lv_iconst (v := (1 : Int32)) hx hb kb_Mo_remove_36 (by decide) ?_
      refine lv_isub hx hb kb_Mo_remove_37 ?_
      obtain ⟨n38, s38, hy, hi, hw⟩ := hw
      refine zr_iast hx hb hK hG hS 0 hy rfl hi kb_Mo_remove_38 (fun H locs hG hS => ?_)
      obtain ⟨σ38, e38⟩ : ∃ z, z = z_sA σ s38 r30 (upd (z_A σ s38 r30) x1.toNatClampNeg ((z_A σ s35 r30 x1.toNatClampNeg) - ((1 : Int32)))) := ⟨_, rfl⟩
      rw [← e38] at hG
      have hw := hw _ e38
      exact zr_vret z_nwN hx hb hr hZ hK hN hG hS hw kb_Mo_remove_39 hlocks
    · have hw := hw.2 hc
      refine lv_aload_n hx hb kb_Mo_remove_14 rfl (lv_at hl 0 rfl) ?_
      refine lv_iload_n hx hb kb_Mo_remove_15 rfl (lv_at hl 1 rfl) ?_
      refine lv_iload_n hx hb kb_Mo_remove_16 rfl (lv_at hl 2 rfl) ?_
      refine lv_iload_n hx hb kb_Mo_remove_17 rfl (lv_at hl 2 rfl) ?_
      refine lv_iconst (v := (1 : Int32)) hx hb kb_Mo_remove_18 (by decide) ?_
      refine lv_isub hx hb kb_Mo_remove_19 ?_
      obtain ⟨hy, hw⟩ := hw
      refine zr_cv (va_runV (C := kR_Mo) (As := [.int x1, .int v3, .int (v3 - ((1 : Int32)))]) (rest := []) ⟨hx, hb, hml, hown, hts⟩ (kc_Mo_move l D dA Z a0 x1 v3 (v3 - ((1 : Int32))) σ _) ⟨callB_of 3 hts (z_gw kw_802) rfl rfl rfl (hts _ (List.mem_cons_of_mem _ kw_9)) (hts _ (List.mem_cons_of_mem _ kw_800)) (by decide +kernel) ⟨Nat.le_of_ble_eq_true rfl, Nat.le_of_ble_eq_true rfl⟩, (hts _ (List.mem_cons_of_mem _ kw_801)), (hts _ (List.mem_cons_of_mem _ kw_981))⟩ (z_preV z_nwN (Nat.le_trans hZ hS.1) hG hK hN hy (ci := 8) (r := (kR_Mo, kT_Mo, 51)) rfl hw) rfl rfl hl.1 rfl (lv_room (Nat.le_of_ble_eq_true rfl)) kb_Mo_remove_20 ⟨Nat.le_of_ble_eq_true rfl, Nat.le_of_ble_eq_true rfl⟩) hS (fun σ20 H locs hw hG hS => ?_)
      refine lv_iinc (v := v3 + (1 : Int32)) (lv' := [(3, .int (v3 + (1 : Int32))), (0, .ref a0), (1, .int x1)]) hx hb kb_Mo_remove_23 hl (k := 2) rfl rfl (by decide) rfl (fun ls hl => ?_)
      refine lv_goto (tgt := 4) hx hb kb_Mo_remove_26 (by decide) ?_
      exact hw _ _ _ hG hS (lv_sub hl [1, 2, 0] rfl))
  refine lv_iload_n hx hb kb_Mo_remove_0 rfl (lv_at hl 2 rfl) ?_
  refine lv_iconst (v := (1 : Int32)) hx hb kb_Mo_remove_1 (by decide) ?_
  refine lv_iadd hx hb kb_Mo_remove_2 ?_
  refine lv_istore_n (lv' := [(3, .int (x2 + ((1 : Int32)))), (0, .ref a0), (1, .int x1), (2, .int x2)]) hx hb kb_Mo_remove_3 rfl hl (by decide) rfl (fun ls hl => ?_)
  exact hw _ _ _ hG hS (lv_sub hl [1, 2, 0] rfl)
def kp_Mo_begin (a0 : Nat) (x1 : Int32) (σ : z_S) (Post : z_S → Prop) : Prop := ∀ (X12 : Int32 → z_S → Prop) (X67 : Int32 → z_S → Prop),
    (∀ (v2 : Int32) (σ : z_S), (z_ty σ a0 = some (.inl 8) ∧ ∃ r14, z_R σ 811 a0 = some r14 ∧ (∃ n18 s18, z_ty σ r14 = some (.inr (0, n18, s18)) ∧ vp_in x1 n18 ∧ (((z_A σ s18 r14 x1.toNatClampNeg) ≤ v2 → X67 ((0 : Int32)) σ) ∧ (¬ (z_A σ s18 r14 x1.toNatClampNeg) ≤ v2 → z_ty σ a0 = some (.inl 8) ∧ ∃ r23, z_R σ 812 a0 = some r23 ∧ (∃ n31 s31, z_ty σ r23 = some (.inr (0, n31, s31)) ∧ vp_in ((((5 : Int32)) * x1) + v2) n31 ∧ ((¬ ((z_A σ s31 r23 ((((5 : Int32)) * x1) + v2).toNatClampNeg)) = 0 → X12 (v2 + (1 : Int32)) σ) ∧ (((z_A σ s31 r23 ((((5 : Int32)) * x1) + v2).toNatClampNeg)) = 0 → z_ty σ a0 = some (.inl 8) ∧ ∃ r36, z_R σ 839 a0 = some r36 ∧ (z_ty σ a0 = some (.inl 8) ∧ (∃ n48 s48, z_ty σ r36 = some (.inr (0, n48, s48)) ∧ vp_in (z_I σ 841 a0) n48 ∧ ∀ σ48, σ48 = z_sA σ s48 r36 (upd (z_A σ s48 r36) (z_I σ 841 a0).toNatClampNeg ((((5 : Int32)) * x1) + v2)) → z_ty σ48 a0 = some (.inl 8) ∧ (z_ty σ48 a0 = some (.inl 8) ∧ ∀ σ56, σ56 = z_sI σ48 841 a0 ((z_I σ48 841 a0) + ((1 : Int32))) → X12 (v2 + (1 : Int32)) σ56)))))))))) → X12 v2 σ) →
    (∀ (v2 : Int32) (σ : z_S), ((((26 : Int32)) ≤ v2 → z_ty σ a0 = some (.inl 8) ∧ ∀ σ88, σ88 = z_sI σ 840 a0 ((0 : Int32)) → z_ty σ88 a0 = some (.inl 8) ∧ ∃ r92, z_R σ88 838 a0 = some r92 ∧ (∃ n97 s97, z_ty σ88 r92 = some (.inr (0, n97, s97)) ∧ vp_in ((0 : Int32)) n97 ∧ ∀ σ97, σ97 = z_sA σ88 s97 r92 (upd (z_A σ88 s97 r92) ((0 : Int32)).toNatClampNeg ((0 : Int32))) → Post σ97)) ∧ (¬ ((26 : Int32)) ≤ v2 → z_ty σ a0 = some (.inl 8) ∧ ∃ r74, z_R σ 837 a0 = some r74 ∧ (∃ n79 s79, z_ty σ r74 = some (.inr (0, n79, s79)) ∧ vp_in v2 n79 ∧ ∀ σ79, σ79 = z_sA σ s79 r74 (upd (z_A σ s79 r74) v2.toNatClampNeg ((-1 : Int32))) → X67 (v2 + (1 : Int32)) σ79))) → X67 v2 σ) →
    (z_ty σ a0 = some (.inl 8) ∧ ∀ σ2, σ2 = z_sI σ 842 a0 x1 → z_ty σ2 a0 = some (.inl 8) ∧ ∀ σ7, σ7 = z_sI σ2 841 a0 ((0 : Int32)) → X12 ((0 : Int32)) σ7)
set_option maxHeartbeats 4000000 in
set_option maxRecDepth 100000 in
theorem kc_Mo_begin (l : Launch) (D : va_G) (dA : Nat → ClassId) (Z : Nat) (a0 : Nat) (x1 : Int32) (σ : z_S) (Post : z_S → Prop) : Met l km_Mo_begin ks_Mo_begin kr_Mo_begin (va_Pc [.ref a0, .int x1] (fun U => z_U D z_cl z_KT dA Z (z_tys dA) z_nw σ U ∧ kp_Mo_begin  a0 x1 σ Post)) (z_Qv D z_cl z_KT dA Z (z_tys dA) z_nw Post) 0 0 (fun q => Z ≤ q) := by
  refine Met.ofW (cc := prog_10_method_28_code) (maxL := 3) (ret := none) (by decide) rfl ?_
  intro p e s m args below meth c s₁ B hml hv
  obtain ⟨rfl, ⟨hZ, hG, hK, hN⟩, hw⟩ := hv
  have hx := B.exec
  have hb := B.bytes
  have hr := B.returns
  have hts := atoms_spec (ws := ks_Mo_begin) B.pre
  have hown : s.vm.findClass kR_Mo = some m.cls := findClass_of_methodNamed B.named
  have hlocks := B.notSynchronized
  have hS : va_S (fun q => Z ≤ q) s.heap s.heap [] := va_S.rf
  have hl := lv_entry ([.ref a0, .int x1]) (n := 3) (Nat.le_of_ble_eq_true rfl)
  rw [lg_entry_eq]
  generalize (lg_sl ([.ref a0, .int x1]) ++ List.replicate (3 - (lg_sl ([.ref a0, .int x1])).length) Slot.unset).toArray = ls at hl ⊢
  have hl : lv_has ls 3 [(0, .ref a0), (1, .int x1)] := hl
  unfold kp_Mo_begin at hw
  have hw := hw (fun (v2 : Int32) (σ : z_S) => ∀ (H : Heap) (locs : List Loc) (ls : Array Slot), z_G D z_cl z_KT dA Z σ H → va_S (fun q => Z ≤ q) s.heap H locs → lv_has ls 3 [(0, .ref a0), (1, .int x1), (2, .int v2)] → W p l e (headSpec ks_Mo_begin kr_Mo_begin).room s m ([.ref a0, .int x1] : List Value).toArray below meth c H locs 0 0 (MQ below (z_Qv D z_cl z_KT dA Z (z_tys dA) z_nw Post) ([.ref a0, .int x1] : List Value).toArray s 0 0 (fun q => Z ≤ q)) (F0 m 12 ls []))
  have hw := hw (fun (v2 : Int32) (σ : z_S) => ∀ (H : Heap) (locs : List Loc) (ls : Array Slot), z_G D z_cl z_KT dA Z σ H → va_S (fun q => Z ≤ q) s.heap H locs → lv_has ls 3 [(0, .ref a0), (2, .int v2)] → W p l e (headSpec ks_Mo_begin kr_Mo_begin).room s m ([.ref a0, .int x1] : List Value).toArray below meth c H locs 0 0 (MQ below (z_Qv D z_cl z_KT dA Z (z_tys dA) z_nw Post) ([.ref a0, .int x1] : List Value).toArray s 0 0 (fun q => Z ≤ q)) (F0 m 67 ls []))
  have hw := hw (by
    intro v2 σ hw H locs ls hG hS hl
    refine lv_iload_n hx hb kb_Mo_begin_12 rfl (lv_at hl 2 rfl) ?_
    refine lv_aload_n hx hb kb_Mo_begin_13 rfl (lv_at hl 0 rfl) ?_
    obtain ⟨hy, r14, hrf, hw⟩ := hw
    refine zr_getR (ci := 8) (f := 811) hx hb hts ki_Mo hown hK hG hy rfl 11 (by decide) (hts _ (List.mem_cons_of_mem _ kw_595)) (fun _ h => h) rfl rfl hrf kb_Mo_begin_14 ?_
    refine lv_iload_n hx hb kb_Mo_begin_17 rfl (lv_at hl 1 rfl) ?_
    obtain ⟨n18, s18, hy, hi, hw⟩ := hw
    refine zr_iald hx hb hK hG 0 hy rfl hi kb_Mo_begin_18 ?_
    refine lv_icmp_ge (tgt := 65) hx hb kb_Mo_begin_19 (by decide) (fun hc => ?_) (fun hc => ?_)
    · have hw := hw.1 hc
      refine lv_iconst (v := (0 : Int32)) hx hb kb_Mo_begin_65 (by decide) ?_
      refine lv_istore_n (lv' := [(2, .int ((0 : Int32))), (0, .ref a0), (1, .int x1)]) hx hb kb_Mo_begin_66 rfl hl (by decide) rfl (fun ls hl => ?_)
      exact hw _ _ _ hG hS (lv_sub hl [1, 0] rfl)
    · have hw := hw.2 hc
      refine lv_aload_n hx hb kb_Mo_begin_22 rfl (lv_at hl 0 rfl) ?_
      obtain ⟨hy, r23, hrf, hw⟩ := hw
      refine zr_getR (ci := 8) (f := 812) hx hb hts ki_Mo hown hK hG hy rfl 12 (by decide) (hts _ (List.mem_cons_of_mem _ kw_596)) (fun _ h => h) rfl rfl hrf kb_Mo_begin_23 ?_
      refine lv_iconst (v := (5 : Int32)) hx hb kb_Mo_begin_26 (by decide) ?_
      refine lv_iload_n hx hb kb_Mo_begin_27 rfl (lv_at hl 1 rfl) ?_
      refine lv_imul hx hb kb_Mo_begin_28 ?_
      refine lv_iload_n hx hb kb_Mo_begin_29 rfl (lv_at hl 2 rfl) ?_
      refine lv_iadd hx hb kb_Mo_begin_30 ?_
      obtain ⟨n31, s31, hy, hi, hw⟩ := hw
      refine zr_iald hx hb hK hG 0 hy rfl hi kb_Mo_begin_31 ?_
      refine lv_if_ne (tgt := 59) hx hb kb_Mo_begin_32 (by decide) (fun hc => ?_) (fun hc => ?_)
      · have hw := hw.1 hc
        refine lv_iinc (v := v2 + (1 : Int32)) (lv' := [(2, .int (v2 + (1 : Int32))), (0, .ref a0), (1, .int x1)]) hx hb kb_Mo_begin_59 hl (k := 2) rfl rfl (by decide) rfl (fun ls hl => ?_)
        refine lv_goto (tgt := 12) hx hb kb_Mo_begin_62 (by decide) ?_
        exact hw _ _ _ hG hS (lv_sub hl [1, 2, 0] rfl)
      · have hw := hw.2 hc
        refine lv_aload_n hx hb kb_Mo_begin_35 rfl (lv_at hl 0 rfl) ?_
        obtain ⟨hy, r36, hrf, hw⟩ := hw
        refine zr_getR (ci := 8) (f := 839) hx hb hts ki_Mo hown hK hG hy rfl 39 (by decide) (hts _ (List.mem_cons_of_mem _ kw_623)) (fun _ h => h) rfl rfl hrf kb_Mo_begin_36 ?_
        refine lv_aload_n hx hb kb_Mo_begin_39 rfl (lv_at hl 0 rfl) ?_
        obtain ⟨hy, hw⟩ := hw
        refine zr_getI (ci := 8) (f := 841) hx hb hts ki_Mo hown hK hG hy rfl 41 (by decide) (hts _ (List.mem_cons_of_mem _ kw_625)) (fun _ h => h) rfl rfl kb_Mo_begin_40 ?_
        refine lv_iconst (v := (5 : Int32)) hx hb kb_Mo_begin_43 (by decide) ?_
        refine lv_iload_n hx hb kb_Mo_begin_44 rfl (lv_at hl 1 rfl) ?_
        refine lv_imul hx hb kb_Mo_begin_45 ?_
        refine lv_iload_n hx hb kb_Mo_begin_46 rfl (lv_at hl 2 rfl) ?_
        refine lv_iadd hx hb kb_Mo_begin_47 ?_
        obtain ⟨n48, s48, hy, hi, hw⟩ := hw
        refine zr_iast hx hb hK hG hS 0 hy rfl hi kb_Mo_begin_48 (fun H locs hG hS => ?_)
        obtain ⟨σ48, e48⟩ : ∃ z, z = z_sA σ s48 r36 (upd (z_A σ s48 r36) (z_I σ 841 a0).toNatClampNeg ((((5 : Int32)) * x1) + v2)) := ⟨_, rfl⟩
        rw [← e48] at hG
        have hw := hw _ e48
        refine lv_aload_n hx hb kb_Mo_begin_49 rfl (lv_at hl 0 rfl) ?_
        refine lv_dup hx hb kb_Mo_begin_50 rfl ?_
        obtain ⟨hy, hw⟩ := hw
        refine zr_getI (ci := 8) (f := 841) hx hb hts ki_Mo hown hK hG hy rfl 41 (by decide) (hts _ (List.mem_cons_of_mem _ kw_625)) (fun _ h => h) rfl rfl kb_Mo_begin_51 ?_
        refine lv_iconst (v := (1 : Int32)) hx hb kb_Mo_begin_54 (by decide) ?_
        refine lv_iadd hx hb kb_Mo_begin_55 ?_
        obtain ⟨hy, hw⟩ := hw
        refine zr_putI (ci := 8) (f := 841) hx hb hts ki_Mo ky_Mo kyo_Mo kn_Mo hown hK hG hS hy rfl 41 (by decide) (hts _ (List.mem_cons_of_mem _ kw_625)) (fun _ h => h) rfl rfl rfl rfl rfl kb_Mo_begin_56 (fun H locs hG hS => ?_)
        obtain ⟨σ56, e56⟩ : ∃ z, z = z_sI σ48 841 a0 ((z_I σ48 841 a0) + ((1 : Int32))) := ⟨_, rfl⟩
        rw [← e56] at hG
        have hw := hw _ e56
        refine lv_iinc (v := v2 + (1 : Int32)) (lv' := [(2, .int (v2 + (1 : Int32))), (0, .ref a0), (1, .int x1)]) hx hb kb_Mo_begin_59 hl (k := 2) rfl rfl (by decide) rfl (fun ls hl => ?_)
        refine lv_goto (tgt := 12) hx hb kb_Mo_begin_62 (by decide) ?_
        exact hw _ _ _ hG hS (lv_sub hl [1, 2, 0] rfl))
  have hw := hw (by
    intro v2 σ hw H locs ls hG hS hl
    refine lv_iload_n hx hb kb_Mo_begin_67 rfl (lv_at hl 1 rfl) ?_
    refine lv_bipush (v := (26 : Int32)) hx hb kb_Mo_begin_68 (by decide) ?_
    refine lv_icmp_ge (tgt := 86) hx hb kb_Mo_begin_70 (by decide) (fun hc => ?_) (fun hc => ?_)
    · have hw := hw.1 hc
      refine lv_aload_n hx hb kb_Mo_begin_86 rfl (lv_at hl 0 rfl) ?_
      refine lv_iconst (v := (0 : Int32)) hx hb kb_Mo_begin_87 (by decide) ?_
      obtain ⟨hy, hw⟩ := hw
      refine zr_putI (ci := 8) (f := 840) hx hb hts ki_Mo ky_Mo kyo_Mo kn_Mo hown hK hG hS hy rfl 40 (by decide) (hts _ (List.mem_cons_of_mem _ kw_624)) (fun _ h => h) rfl rfl rfl rfl rfl kb_Mo_begin_88 (fun H locs hG hS => ?_)
      obtain ⟨σ88, e88⟩ : ∃ z, z = z_sI σ 840 a0 ((0 : Int32)) := ⟨_, rfl⟩
      rw [← e88] at hG
      have hw := hw _ e88
      refine lv_aload_n hx hb kb_Mo_begin_91 rfl (lv_at hl 0 rfl) ?_
      obtain ⟨hy, r92, hrf, hw⟩ := hw
      refine zr_getR (ci := 8) (f := 838) hx hb hts ki_Mo hown hK hG hy rfl 38 (by decide) (hts _ (List.mem_cons_of_mem _ kw_622)) (fun _ h => h) rfl rfl hrf kb_Mo_begin_92 ?_
      refine lv_iconst (v := (0 : Int32)) hx hb kb_Mo_begin_95 (by decide) ?_
      refine lv_iconst (v := (0 : Int32)) hx hb kb_Mo_begin_96 (by decide) ?_
      obtain ⟨n97, s97, hy, hi, hw⟩ := hw
      refine zr_iast hx hb hK hG hS 0 hy rfl hi kb_Mo_begin_97 (fun H locs hG hS => ?_)
      obtain ⟨σ97, e97⟩ : ∃ z, z = z_sA σ88 s97 r92 (upd (z_A σ88 s97 r92) ((0 : Int32)).toNatClampNeg ((0 : Int32))) := ⟨_, rfl⟩
      rw [← e97] at hG
      have hw := hw _ e97
      exact zr_vret z_nwN hx hb hr hZ hK hN hG hS hw kb_Mo_begin_98 hlocks
    · have hw := hw.2 hc
      refine lv_aload_n hx hb kb_Mo_begin_73 rfl (lv_at hl 0 rfl) ?_
      obtain ⟨hy, r74, hrf, hw⟩ := hw
      refine zr_getR (ci := 8) (f := 837) hx hb hts ki_Mo hown hK hG hy rfl 37 (by decide) (hts _ (List.mem_cons_of_mem _ kw_621)) (fun _ h => h) rfl rfl hrf kb_Mo_begin_74 ?_
      refine lv_iload_n hx hb kb_Mo_begin_77 rfl (lv_at hl 1 rfl) ?_
      refine lv_iconst (v := (-1 : Int32)) hx hb kb_Mo_begin_78 (by decide) ?_
      obtain ⟨n79, s79, hy, hi, hw⟩ := hw
      refine zr_iast hx hb hK hG hS 0 hy rfl hi kb_Mo_begin_79 (fun H locs hG hS => ?_)
      obtain ⟨σ79, e79⟩ : ∃ z, z = z_sA σ s79 r74 (upd (z_A σ s79 r74) v2.toNatClampNeg ((-1 : Int32))) := ⟨_, rfl⟩
      rw [← e79] at hG
      have hw := hw _ e79
      refine lv_iinc (v := v2 + (1 : Int32)) (lv' := [(2, .int (v2 + (1 : Int32))), (0, .ref a0)]) hx hb kb_Mo_begin_80 hl (k := 1) rfl rfl (by decide) rfl (fun ls hl => ?_)
      refine lv_goto (tgt := 67) hx hb kb_Mo_begin_83 (by decide) ?_
      exact hw _ _ _ hG hS (lv_sub hl [1, 0] rfl))
  refine lv_aload_n hx hb kb_Mo_begin_0 rfl (lv_at hl 0 rfl) ?_
  refine lv_iload_n hx hb kb_Mo_begin_1 rfl (lv_at hl 1 rfl) ?_
  obtain ⟨hy, hw⟩ := hw
  refine zr_putI (ci := 8) (f := 842) hx hb hts ki_Mo ky_Mo kyo_Mo kn_Mo hown hK hG hS hy rfl 42 (by decide) (hts _ (List.mem_cons_of_mem _ kw_626)) (fun _ h => h) rfl rfl rfl rfl rfl kb_Mo_begin_2 (fun H locs hG hS => ?_)
  obtain ⟨σ2, e2⟩ : ∃ z, z = z_sI σ 842 a0 x1 := ⟨_, rfl⟩
  rw [← e2] at hG
  have hw := hw _ e2
  refine lv_aload_n hx hb kb_Mo_begin_5 rfl (lv_at hl 0 rfl) ?_
  refine lv_iconst (v := (0 : Int32)) hx hb kb_Mo_begin_6 (by decide) ?_
  obtain ⟨hy, hw⟩ := hw
  refine zr_putI (ci := 8) (f := 841) hx hb hts ki_Mo ky_Mo kyo_Mo kn_Mo hown hK hG hS hy rfl 41 (by decide) (hts _ (List.mem_cons_of_mem _ kw_625)) (fun _ h => h) rfl rfl rfl rfl rfl kb_Mo_begin_7 (fun H locs hG hS => ?_)
  obtain ⟨σ7, e7⟩ : ∃ z, z = z_sI σ2 841 a0 ((0 : Int32)) := ⟨_, rfl⟩
  rw [← e7] at hG
  have hw := hw _ e7
  refine lv_iconst (v := (0 : Int32)) hx hb kb_Mo_begin_10 (by decide) ?_
  refine lv_istore_n (lv' := [(2, .int ((0 : Int32))), (0, .ref a0), (1, .int x1)]) hx hb kb_Mo_begin_11 rfl hl (by decide) rfl (fun ls hl => ?_)
  exact hw _ _ _ hG hS (lv_sub hl [1, 2, 0] rfl)
def kp_Mo_valueOf (a0 : Nat) (x1 : Int32) (x2 : Int32) (σ : z_S) (Post : Int32 → z_S → Prop) : Prop :=     ((x1 < ((100 : Int32)) → z_ty σ a0 = some (.inl 8) ∧ ∃ r14, z_R σ 837 a0 = some r14 ∧ (∃ n23 s23, z_ty σ r14 = some (.inr (0, n23, s23)) ∧ vp_in ((((26 : Int32)) * x2) + x1) n23 ∧ (Post (z_A σ s23 r14 ((((26 : Int32)) * x2) + x1).toNatClampNeg) σ))) ∧ (¬ x1 < ((100 : Int32)) → Post (x1 - ((100 : Int32))) σ))
set_option maxHeartbeats 4000000 in
set_option maxRecDepth 100000 in
theorem kc_Mo_valueOf (l : Launch) (D : va_G) (dA : Nat → ClassId) (Z : Nat) (a0 : Nat) (x1 : Int32) (x2 : Int32) (σ : z_S) (Post : Int32 → z_S → Prop) : Met l km_Mo_valueOf ks_Mo_valueOf kr_Mo_valueOf (va_Pc [.ref a0, .int x1, .int x2] (fun U => z_U D z_cl z_KT dA Z (z_tys dA) z_nw σ U ∧ kp_Mo_valueOf  a0 x1 x2 σ Post)) (z_Qi D z_cl z_KT dA Z (z_tys dA) z_nw Post) 0 0 (fun q => Z ≤ q) := by
  refine Met.ofW (cc := prog_10_method_29_code) (maxL := 3) (ret := (some .int)) (by decide) rfl ?_
  intro p e s m args below meth c s₁ B hml hv
  obtain ⟨rfl, ⟨hZ, hG, hK, hN⟩, hw⟩ := hv
  have hx := B.exec
  have hb := B.bytes
  have hr := B.returns
  have hts := atoms_spec (ws := ks_Mo_valueOf) B.pre
  have hown : s.vm.findClass kR_Mo = some m.cls := findClass_of_methodNamed B.named
  have hlocks := B.notSynchronized
  have hS : va_S (fun q => Z ≤ q) s.heap s.heap [] := va_S.rf
  have hl := lv_entry ([.ref a0, .int x1, .int x2]) (n := 3) (Nat.le_of_ble_eq_true rfl)
  rw [lg_entry_eq]
  generalize (lg_sl ([.ref a0, .int x1, .int x2]) ++ List.replicate (3 - (lg_sl ([.ref a0, .int x1, .int x2])).length) Slot.unset).toArray = ls at hl ⊢
  have hl : lv_has ls 3 [(0, .ref a0), (1, .int x1), (2, .int x2)] := hl
  unfold kp_Mo_valueOf at hw
  refine lv_iload_n hx hb kb_Mo_valueOf_0 rfl (lv_at hl 1 rfl) ?_
  refine lv_bipush (v := (100 : Int32)) hx hb kb_Mo_valueOf_1 (by decide) ?_
  refine lv_icmp_lt (tgt := 13) hx hb kb_Mo_valueOf_3 (by decide) (fun hc => ?_) (fun hc => ?_)
  · have hw := hw.1 hc
    refine lv_aload_n hx hb kb_Mo_valueOf_13 rfl (lv_at hl 0 rfl) ?_
    obtain ⟨hy, r14, hrf, hw⟩ := hw
    refine zr_getR (ci := 8) (f := 837) hx hb hts ki_Mo hown hK hG hy rfl 37 (by decide) (hts _ (List.mem_cons_of_mem _ kw_621)) (fun _ h => h) rfl rfl hrf kb_Mo_valueOf_14 ?_
    refine lv_bipush (v := (26 : Int32)) hx hb kb_Mo_valueOf_17 (by decide) ?_
    refine lv_iload_n hx hb kb_Mo_valueOf_19 rfl (lv_at hl 2 rfl) ?_
    refine lv_imul hx hb kb_Mo_valueOf_20 ?_
    refine lv_iload_n hx hb kb_Mo_valueOf_21 rfl (lv_at hl 1 rfl) ?_
    refine lv_iadd hx hb kb_Mo_valueOf_22 ?_
    obtain ⟨n23, s23, hy, hi, hw⟩ := hw
    refine zr_iald hx hb hK hG 0 hy rfl hi kb_Mo_valueOf_23 ?_
    exact zr_iret (free := fun q => Z ≤ q) z_nwN hx hb hr rfl hZ hK hN hG hS hw kb_Mo_valueOf_24 hlocks
  · have hw := hw.2 hc
    refine lv_iload_n hx hb kb_Mo_valueOf_6 rfl (lv_at hl 1 rfl) ?_
    refine lv_bipush (v := (100 : Int32)) hx hb kb_Mo_valueOf_7 (by decide) ?_
    refine lv_isub hx hb kb_Mo_valueOf_9 ?_
    refine lv_goto (tgt := 24) hx hb kb_Mo_valueOf_10 (by decide) ?_
    exact zr_iret (free := fun q => Z ≤ q) z_nwN hx hb hr rfl hZ hK hN hG hS hw kb_Mo_valueOf_24 hlocks
def kp_Mo_fits (a0 : Nat) (x1 : Int32) (x2 : Int32) (x3 : Int32) (σ : z_S) (Post : Int32 → z_S → Prop) : Prop := ∀ (X16 : Int32 → Int32 → z_S → Prop) (X61 : Int32 → Int32 → Int32 → z_S → Prop),
    (∀ (v4 : Int32) (v5 : Int32) (σ : z_S), ((((26 : Int32)) ≤ v5 → X61 v4 ((1 : Int32)) ((0 : Int32)) σ) ∧ (¬ ((26 : Int32)) ≤ v5 → z_ty σ a0 = some (.inl 8) ∧ ∃ r24, z_R σ 837 a0 = some r24 ∧ (z_ty σ a0 = some (.inl 8) ∧ ∃ r37, z_R σ 837 a0 = some r37 ∧ (∃ n47 s47, z_ty σ r37 = some (.inr (0, n47, s47)) ∧ vp_in ((((26 : Int32)) * x3) + v5) n47 ∧ (∃ n48 s48, z_ty σ r24 = some (.inr (0, n48, s48)) ∧ vp_in ((((26 : Int32)) * (x3 + ((1 : Int32)))) + v5) n48 ∧ ∀ σ48, σ48 = z_sA σ s48 r24 (upd (z_A σ s48 r24) ((((26 : Int32)) * (x3 + ((1 : Int32)))) + v5).toNatClampNeg (z_A σ s47 r37 ((((26 : Int32)) * x3) + v5).toNatClampNeg)) → X16 v4 (v5 + (1 : Int32)) σ48))))) → X16 v4 v5 σ) →
    (∀ (v4 : Int32) (v5 : Int32) (v6 : Int32) (σ : z_S), ((((3 : Int32)) ≤ v6 → (v5 = 0 ∨ v5 = 1) ∧ Post v5 σ) ∧ (¬ ((3 : Int32)) ≤ v6 → (v5 = 0 → (v5 = 0 ∨ v5 = 1) ∧ Post v5 σ) ∧ (¬ v5 = 0 → z_ty σ a0 = some (.inl 8) ∧ ∃ r73, z_R σ 814 a0 = some r73 ∧ (∃ n82 s82, z_ty σ r73 = some (.inr (0, n82, s82)) ∧ vp_in ((((3 : Int32)) * x1) + v6) n82 ∧ (((z_A σ s82 r73 ((((3 : Int32)) * x1) + v6).toNatClampNeg) < ((100 : Int32)) → z_ty σ a0 = some (.inl 8) ∧ ∃ r121, z_R σ 837 a0 = some r121 ∧ (∃ n133 s133, z_ty σ r121 = some (.inr (0, n133, s133)) ∧ vp_in ((((26 : Int32)) * (x3 + ((1 : Int32)))) + (z_A σ s82 r73 ((((3 : Int32)) * x1) + v6).toNatClampNeg)) n133 ∧ ((¬ (z_A σ s133 r121 ((((26 : Int32)) * (x3 + ((1 : Int32)))) + (z_A σ s82 r73 ((((3 : Int32)) * x1) + v6).toNatClampNeg)).toNatClampNeg) = ((-1 : Int32)) → z_ty σ a0 = some (.inl 8) ∧ ∃ r166, z_R σ 837 a0 = some r166 ∧ (∃ n178 s178, z_ty σ r166 = some (.inr (0, n178, s178)) ∧ vp_in ((((26 : Int32)) * (x3 + ((1 : Int32)))) + (z_A σ s82 r73 ((((3 : Int32)) * x1) + v6).toNatClampNeg)) n178 ∧ (z_ty σ a0 = some (.inl 8) ∧ ∃ r180, z_R σ 824 a0 = some r180 ∧ (∃ n188 s188, z_ty σ r180 = some (.inr (0, n188, s188)) ∧ vp_in (v4 + v6) n188 ∧ ((¬ (z_A σ s178 r166 ((((26 : Int32)) * (x3 + ((1 : Int32)))) + (z_A σ s82 r73 ((((3 : Int32)) * x1) + v6).toNatClampNeg)).toNatClampNeg) = (z_A σ s188 r180 (v4 + v6).toNatClampNeg) → X61 v4 ((0 : Int32)) (v6 + (1 : Int32)) σ) ∧ ((z_A σ s178 r166 ((((26 : Int32)) * (x3 + ((1 : Int32)))) + (z_A σ s82 r73 ((((3 : Int32)) * x1) + v6).toNatClampNeg)).toNatClampNeg) = (z_A σ s188 r180 (v4 + v6).toNatClampNeg) → X61 v4 ((1 : Int32)) (v6 + (1 : Int32)) σ)))))) ∧ ((z_A σ s133 r121 ((((26 : Int32)) * (x3 + ((1 : Int32)))) + (z_A σ s82 r73 ((((3 : Int32)) * x1) + v6).toNatClampNeg)).toNatClampNeg) = ((-1 : Int32)) → z_ty σ a0 = some (.inl 8) ∧ ∃ r139, z_R σ 837 a0 = some r139 ∧ (z_ty σ a0 = some (.inl 8) ∧ ∃ r152, z_R σ 824 a0 = some r152 ∧ (∃ n160 s160, z_ty σ r152 = some (.inr (0, n160, s160)) ∧ vp_in (v4 + v6) n160 ∧ (∃ n161 s161, z_ty σ r139 = some (.inr (0, n161, s161)) ∧ vp_in ((((26 : Int32)) * (x3 + ((1 : Int32)))) + (z_A σ s82 r73 ((((3 : Int32)) * x1) + v6).toNatClampNeg)) n161 ∧ ∀ σ161, σ161 = z_sA σ s161 r139 (upd (z_A σ s161 r139) ((((26 : Int32)) * (x3 + ((1 : Int32)))) + (z_A σ s82 r73 ((((3 : Int32)) * x1) + v6).toNatClampNeg)).toNatClampNeg (z_A σ s160 r152 (v4 + v6).toNatClampNeg)) → X61 v4 v5 (v6 + (1 : Int32)) σ161))))))) ∧ (¬ (z_A σ s82 r73 ((((3 : Int32)) * x1) + v6).toNatClampNeg) < ((100 : Int32)) → z_ty σ a0 = some (.inl 8) ∧ ∃ r98, z_R σ 824 a0 = some r98 ∧ (∃ n106 s106, z_ty σ r98 = some (.inr (0, n106, s106)) ∧ vp_in (v4 + v6) n106 ∧ ((¬ ((z_A σ s82 r73 ((((3 : Int32)) * x1) + v6).toNatClampNeg) - ((100 : Int32))) = (z_A σ s106 r98 (v4 + v6).toNatClampNeg) → X61 v4 ((0 : Int32)) (v6 + (1 : Int32)) σ) ∧ (((z_A σ s82 r73 ((((3 : Int32)) * x1) + v6).toNatClampNeg) - ((100 : Int32))) = (z_A σ s106 r98 (v4 + v6).toNatClampNeg) → X61 v4 ((1 : Int32)) (v6 + (1 : Int32)) σ))))))))) → X61 v4 v5 v6 σ) →
    (z_ty σ a0 = some (.inl 8) ∧ ∃ r2, z_R σ 813 a0 = some r2 ∧ (∃ n6 s6, z_ty σ r2 = some (.inr (0, n6, s6)) ∧ vp_in x1 n6 ∧ (z_ty σ a0 = some (.inl 8) ∧ kp_Mo_base a0 (z_A σ s6 r2 x1.toNatClampNeg) x2 σ (fun (r8 : Int32) (σ8 : z_S) => X16 r8 ((0 : Int32)) σ8))))
set_option maxHeartbeats 4000000 in
set_option maxRecDepth 100000 in
theorem kc_Mo_fits (l : Launch) (D : va_G) (dA : Nat → ClassId) (Z : Nat) (a0 : Nat) (x1 : Int32) (x2 : Int32) (x3 : Int32) (σ : z_S) (Post : Int32 → z_S → Prop) : Met l km_Mo_fits ks_Mo_fits kr_Mo_fits (va_Pc [.ref a0, .int x1, .int x2, .int x3] (fun U => z_U D z_cl z_KT dA Z (z_tys dA) z_nw σ U ∧ kp_Mo_fits  a0 x1 x2 x3 σ Post)) (z_Qi D z_cl z_KT dA Z (z_tys dA) z_nw Post) 0 0 (fun q => Z ≤ q) := by
  refine Met.ofW (cc := prog_10_method_30_code) (maxL := 8) (ret := (some .boolean)) (by decide) rfl ?_
  intro p e s m args below meth c s₁ B hml hv
  obtain ⟨rfl, ⟨hZ, hG, hK, hN⟩, hw⟩ := hv
  have hx := B.exec
  have hb := B.bytes
  have hr := B.returns
  have hts := atoms_spec (ws := ks_Mo_fits) B.pre
  have hown : s.vm.findClass kR_Mo = some m.cls := findClass_of_methodNamed B.named
  have hlocks := B.notSynchronized
  have hS : va_S (fun q => Z ≤ q) s.heap s.heap [] := va_S.rf
  have hl := lv_entry ([.ref a0, .int x1, .int x2, .int x3]) (n := 8) (Nat.le_of_ble_eq_true rfl)
  rw [lg_entry_eq]
  generalize (lg_sl ([.ref a0, .int x1, .int x2, .int x3]) ++ List.replicate (8 - (lg_sl ([.ref a0, .int x1, .int x2, .int x3])).length) Slot.unset).toArray = ls at hl ⊢
  have hl : lv_has ls 8 [(0, .ref a0), (1, .int x1), (2, .int x2), (3, .int x3)] := hl
  unfold kp_Mo_fits at hw
  have hw := hw (fun (v4 : Int32) (v5 : Int32) (σ : z_S) => ∀ (H : Heap) (locs : List Loc) (ls : Array Slot), z_G D z_cl z_KT dA Z σ H → va_S (fun q => Z ≤ q) s.heap H locs → lv_has ls 8 [(0, .ref a0), (1, .int x1), (3, .int x3), (4, .int v4), (5, .int v5)] → W p l e (headSpec ks_Mo_fits kr_Mo_fits).room s m ([.ref a0, .int x1, .int x2, .int x3] : List Value).toArray below meth c H locs 0 0 (MQ below (z_Qi D z_cl z_KT dA Z (z_tys dA) z_nw Post) ([.ref a0, .int x1, .int x2, .int x3] : List Value).toArray s 0 0 (fun q => Z ≤ q)) (F0 m 16 ls []))
  have hw := hw (fun (v4 : Int32) (v5 : Int32) (v6 : Int32) (σ : z_S) => ∀ (H : Heap) (locs : List Loc) (ls : Array Slot), z_G D z_cl z_KT dA Z σ H → va_S (fun q => Z ≤ q) s.heap H locs → lv_has ls 8 [(0, .ref a0), (1, .int x1), (3, .int x3), (4, .int v4), (5, .int v5), (6, .int v6)] → W p l e (headSpec ks_Mo_fits kr_Mo_fits).room s m ([.ref a0, .int x1, .int x2, .int x3] : List Value).toArray below meth c H locs 0 0 (MQ below (z_Qi D z_cl z_KT dA Z (z_tys dA) z_nw Post) ([.ref a0, .int x1, .int x2, .int x3] : List Value).toArray s 0 0 (fun q => Z ≤ q)) (F0 m 61 ls []))
  have hw := hw (by
    intro v4 v5 σ hw H locs ls hG hS hl
    refine lv_iload hx hb kb_Mo_fits_16 (lv_at hl 4 rfl) ?_
    refine lv_bipush (v := (26 : Int32)) hx hb kb_Mo_fits_18 (by decide) ?_
    refine lv_icmp_ge (tgt := 55) hx hb kb_Mo_fits_20 (by decide) (fun hc => ?_) (fun hc => ?_)
    · have hw := hw.1 hc
      refine lv_iconst (v := (1 : Int32)) hx hb kb_Mo_fits_55 (by decide) ?_
      refine lv_istore (lv' := [(5, .int ((1 : Int32))), (0, .ref a0), (1, .int x1), (3, .int x3), (4, .int v4)]) hx hb kb_Mo_fits_56 hl (by decide) rfl (fun ls hl => ?_)
      refine lv_iconst (v := (0 : Int32)) hx hb kb_Mo_fits_58 (by decide) ?_
      refine lv_istore (lv' := [(6, .int ((0 : Int32))), (5, .int ((1 : Int32))), (0, .ref a0), (1, .int x1), (3, .int x3), (4, .int v4)]) hx hb kb_Mo_fits_59 hl (by decide) rfl (fun ls hl => ?_)
      exact hw _ _ _ hG hS (lv_sub hl [2, 3, 4, 5, 1, 0] rfl)
    · have hw := hw.2 hc
      refine lv_aload_n hx hb kb_Mo_fits_23 rfl (lv_at hl 0 rfl) ?_
      obtain ⟨hy, r24, hrf, hw⟩ := hw
      refine zr_getR (ci := 8) (f := 837) hx hb hts ki_Mo hown hK hG hy rfl 37 (by decide) (hts _ (List.mem_cons_of_mem _ kw_621)) (fun _ h => h) rfl rfl hrf kb_Mo_fits_24 ?_
      refine lv_bipush (v := (26 : Int32)) hx hb kb_Mo_fits_27 (by decide) ?_
      refine lv_iload_n hx hb kb_Mo_fits_29 rfl (lv_at hl 2 rfl) ?_
      refine lv_iconst (v := (1 : Int32)) hx hb kb_Mo_fits_30 (by decide) ?_
      refine lv_iadd hx hb kb_Mo_fits_31 ?_
      refine lv_imul hx hb kb_Mo_fits_32 ?_
      refine lv_iload hx hb kb_Mo_fits_33 (lv_at hl 4 rfl) ?_
      refine lv_iadd hx hb kb_Mo_fits_35 ?_
      refine lv_aload_n hx hb kb_Mo_fits_36 rfl (lv_at hl 0 rfl) ?_
      obtain ⟨hy, r37, hrf, hw⟩ := hw
      refine zr_getR (ci := 8) (f := 837) hx hb hts ki_Mo hown hK hG hy rfl 37 (by decide) (hts _ (List.mem_cons_of_mem _ kw_621)) (fun _ h => h) rfl rfl hrf kb_Mo_fits_37 ?_
      refine lv_bipush (v := (26 : Int32)) hx hb kb_Mo_fits_40 (by decide) ?_
      refine lv_iload_n hx hb kb_Mo_fits_42 rfl (lv_at hl 2 rfl) ?_
      refine lv_imul hx hb kb_Mo_fits_43 ?_
      refine lv_iload hx hb kb_Mo_fits_44 (lv_at hl 4 rfl) ?_
      refine lv_iadd hx hb kb_Mo_fits_46 ?_
      obtain ⟨n47, s47, hy, hi, hw⟩ := hw
      refine zr_iald hx hb hK hG 0 hy rfl hi kb_Mo_fits_47 ?_
      obtain ⟨n48, s48, hy, hi, hw⟩ := hw
      refine zr_iast hx hb hK hG hS 0 hy rfl hi kb_Mo_fits_48 (fun H locs hG hS => ?_)
      obtain ⟨σ48, e48⟩ : ∃ z, z = z_sA σ s48 r24 (upd (z_A σ s48 r24) ((((26 : Int32)) * (x3 + ((1 : Int32)))) + v5).toNatClampNeg (z_A σ s47 r37 ((((26 : Int32)) * x3) + v5).toNatClampNeg)) := ⟨_, rfl⟩
      rw [← e48] at hG
      have hw := hw _ e48
      refine lv_iinc (v := v5 + (1 : Int32)) (lv' := [(5, .int (v5 + (1 : Int32))), (0, .ref a0), (1, .int x1), (3, .int x3), (4, .int v4)]) hx hb kb_Mo_fits_49 hl (k := 4) rfl rfl (by decide) rfl (fun ls hl => ?_)
      refine lv_goto (tgt := 16) hx hb kb_Mo_fits_52 (by decide) ?_
      exact hw _ _ _ hG hS (lv_sub hl [1, 2, 3, 4, 0] rfl))
  have hw := hw (by
    intro v4 v5 v6 σ hw H locs ls hG hS hl
    refine lv_iload hx hb kb_Mo_fits_61 (lv_at hl 5 rfl) ?_
    refine lv_iconst (v := (3 : Int32)) hx hb kb_Mo_fits_63 (by decide) ?_
    refine lv_icmp_ge (tgt := 205) hx hb kb_Mo_fits_64 (by decide) (fun hc => ?_) (fun hc => ?_)
    · have hw := hw.1 hc
      refine lv_iload hx hb kb_Mo_fits_205 (lv_at hl 4 rfl) ?_
      exact zr_iret (free := fun q => Z ≤ q) z_nwN hx hb hr (z_bool hw.1) hZ hK hN hG hS hw.2 kb_Mo_fits_207 hlocks
    · have hw := hw.2 hc
      refine lv_iload hx hb kb_Mo_fits_67 (lv_at hl 4 rfl) ?_
      refine lv_if_eq (tgt := 205) hx hb kb_Mo_fits_69 (by decide) (fun hc => ?_) (fun hc => ?_)
      · have hw := hw.1 hc
        refine lv_iload hx hb kb_Mo_fits_205 (lv_at hl 4 rfl) ?_
        exact zr_iret (free := fun q => Z ≤ q) z_nwN hx hb hr (z_bool hw.1) hZ hK hN hG hS hw.2 kb_Mo_fits_207 hlocks
      · have hw := hw.2 hc
        refine lv_aload_n hx hb kb_Mo_fits_72 rfl (lv_at hl 0 rfl) ?_
        obtain ⟨hy, r73, hrf, hw⟩ := hw
        refine zr_getR (ci := 8) (f := 814) hx hb hts ki_Mo hown hK hG hy rfl 14 (by decide) (hts _ (List.mem_cons_of_mem _ kw_598)) (fun _ h => h) rfl rfl hrf kb_Mo_fits_73 ?_
        refine lv_iconst (v := (3 : Int32)) hx hb kb_Mo_fits_76 (by decide) ?_
        refine lv_iload_n hx hb kb_Mo_fits_77 rfl (lv_at hl 1 rfl) ?_
        refine lv_imul hx hb kb_Mo_fits_78 ?_
        refine lv_iload hx hb kb_Mo_fits_79 (lv_at hl 5 rfl) ?_
        refine lv_iadd hx hb kb_Mo_fits_81 ?_
        obtain ⟨n82, s82, hy, hi, hw⟩ := hw
        refine zr_iald hx hb hK hG 0 hy rfl hi kb_Mo_fits_82 ?_
        refine lv_istore (lv' := [(7, .int (z_A σ s82 r73 ((((3 : Int32)) * x1) + v6).toNatClampNeg)), (0, .ref a0), (1, .int x1), (3, .int x3), (4, .int v4), (5, .int v5), (6, .int v6)]) hx hb kb_Mo_fits_83 hl (by decide) rfl (fun ls hl => ?_)
        refine lv_iload hx hb kb_Mo_fits_85 (lv_at hl 0 rfl) ?_
        refine lv_bipush (v := (100 : Int32)) hx hb kb_Mo_fits_87 (by decide) ?_
        refine lv_icmp_lt (tgt := 120) hx hb kb_Mo_fits_89 (by decide) (fun hc => ?_) (fun hc => ?_)
        · have hw := hw.1 hc
          refine lv_aload_n hx hb kb_Mo_fits_120 rfl (lv_at hl 1 rfl) ?_
          obtain ⟨hy, r121, hrf, hw⟩ := hw
          refine zr_getR (ci := 8) (f := 837) hx hb hts ki_Mo hown hK hG hy rfl 37 (by decide) (hts _ (List.mem_cons_of_mem _ kw_621)) (fun _ h => h) rfl rfl hrf kb_Mo_fits_121 ?_
          refine lv_bipush (v := (26 : Int32)) hx hb kb_Mo_fits_124 (by decide) ?_
          refine lv_iload_n hx hb kb_Mo_fits_126 rfl (lv_at hl 3 rfl) ?_
          refine lv_iconst (v := (1 : Int32)) hx hb kb_Mo_fits_127 (by decide) ?_
          refine lv_iadd hx hb kb_Mo_fits_128 ?_
          refine lv_imul hx hb kb_Mo_fits_129 ?_
          refine lv_iload hx hb kb_Mo_fits_130 (lv_at hl 0 rfl) ?_
          refine lv_iadd hx hb kb_Mo_fits_132 ?_
          obtain ⟨n133, s133, hy, hi, hw⟩ := hw
          refine zr_iald hx hb hK hG 0 hy rfl hi kb_Mo_fits_133 ?_
          refine lv_iconst (v := (-1 : Int32)) hx hb kb_Mo_fits_134 (by decide) ?_
          refine lv_icmp_ne (tgt := 165) hx hb kb_Mo_fits_135 (by decide) (fun hc => ?_) (fun hc => ?_)
          · have hw := hw.1 hc
            refine lv_aload_n hx hb kb_Mo_fits_165 rfl (lv_at hl 1 rfl) ?_
            obtain ⟨hy, r166, hrf, hw⟩ := hw
            refine zr_getR (ci := 8) (f := 837) hx hb hts ki_Mo hown hK hG hy rfl 37 (by decide) (hts _ (List.mem_cons_of_mem _ kw_621)) (fun _ h => h) rfl rfl hrf kb_Mo_fits_166 ?_
            refine lv_bipush (v := (26 : Int32)) hx hb kb_Mo_fits_169 (by decide) ?_
            refine lv_iload_n hx hb kb_Mo_fits_171 rfl (lv_at hl 3 rfl) ?_
            refine lv_iconst (v := (1 : Int32)) hx hb kb_Mo_fits_172 (by decide) ?_
            refine lv_iadd hx hb kb_Mo_fits_173 ?_
            refine lv_imul hx hb kb_Mo_fits_174 ?_
            refine lv_iload hx hb kb_Mo_fits_175 (lv_at hl 0 rfl) ?_
            refine lv_iadd hx hb kb_Mo_fits_177 ?_
            obtain ⟨n178, s178, hy, hi, hw⟩ := hw
            refine zr_iald hx hb hK hG 0 hy rfl hi kb_Mo_fits_178 ?_
            refine lv_aload_n hx hb kb_Mo_fits_179 rfl (lv_at hl 1 rfl) ?_
            obtain ⟨hy, r180, hrf, hw⟩ := hw
            refine zr_getR (ci := 8) (f := 824) hx hb hts ki_Mo hown hK hG hy rfl 24 (by decide) (hts _ (List.mem_cons_of_mem _ kw_608)) (fun _ h => h) rfl rfl hrf kb_Mo_fits_180 ?_
            refine lv_iload hx hb kb_Mo_fits_183 (lv_at hl 4 rfl) ?_
            refine lv_iload hx hb kb_Mo_fits_185 (lv_at hl 6 rfl) ?_
            refine lv_iadd hx hb kb_Mo_fits_187 ?_
            obtain ⟨n188, s188, hy, hi, hw⟩ := hw
            refine zr_iald hx hb hK hG 0 hy rfl hi kb_Mo_fits_188 ?_
            refine lv_icmp_ne (tgt := 196) hx hb kb_Mo_fits_189 (by decide) (fun hc => ?_) (fun hc => ?_)
            · have hw := hw.1 hc
              refine lv_iconst (v := (0 : Int32)) hx hb kb_Mo_fits_196 (by decide) ?_
              refine lv_istore (lv' := [(5, .int ((0 : Int32))), (7, .int (z_A σ s82 r73 ((((3 : Int32)) * x1) + v6).toNatClampNeg)), (0, .ref a0), (1, .int x1), (3, .int x3), (4, .int v4), (6, .int v6)]) hx hb kb_Mo_fits_197 hl (by decide) rfl (fun ls hl => ?_)
              refine lv_iinc (v := v6 + (1 : Int32)) (lv' := [(6, .int (v6 + (1 : Int32))), (5, .int ((0 : Int32))), (7, .int (z_A σ s82 r73 ((((3 : Int32)) * x1) + v6).toNatClampNeg)), (0, .ref a0), (1, .int x1), (3, .int x3), (4, .int v4)]) hx hb kb_Mo_fits_199 hl (k := 6) rfl rfl (by decide) rfl (fun ls hl => ?_)
              refine lv_goto (tgt := 61) hx hb kb_Mo_fits_202 (by decide) ?_
              exact hw _ _ _ hG hS (lv_sub hl [3, 4, 5, 6, 1, 0] rfl)
            · have hw := hw.2 hc
              refine lv_iconst (v := (1 : Int32)) hx hb kb_Mo_fits_192 (by decide) ?_
              refine lv_goto (tgt := 197) hx hb kb_Mo_fits_193 (by decide) ?_
              refine lv_istore (lv' := [(5, .int ((1 : Int32))), (7, .int (z_A σ s82 r73 ((((3 : Int32)) * x1) + v6).toNatClampNeg)), (0, .ref a0), (1, .int x1), (3, .int x3), (4, .int v4), (6, .int v6)]) hx hb kb_Mo_fits_197 hl (by decide) rfl (fun ls hl => ?_)
              refine lv_iinc (v := v6 + (1 : Int32)) (lv' := [(6, .int (v6 + (1 : Int32))), (5, .int ((1 : Int32))), (7, .int (z_A σ s82 r73 ((((3 : Int32)) * x1) + v6).toNatClampNeg)), (0, .ref a0), (1, .int x1), (3, .int x3), (4, .int v4)]) hx hb kb_Mo_fits_199 hl (k := 6) rfl rfl (by decide) rfl (fun ls hl => ?_)
              refine lv_goto (tgt := 61) hx hb kb_Mo_fits_202 (by decide) ?_
              exact hw _ _ _ hG hS (lv_sub hl [3, 4, 5, 6, 1, 0] rfl)
          · have hw := hw.2 hc
            refine lv_aload_n hx hb kb_Mo_fits_138 rfl (lv_at hl 1 rfl) ?_
            obtain ⟨hy, r139, hrf, hw⟩ := hw
            refine zr_getR (ci := 8) (f := 837) hx hb hts ki_Mo hown hK hG hy rfl 37 (by decide) (hts _ (List.mem_cons_of_mem _ kw_621)) (fun _ h => h) rfl rfl hrf kb_Mo_fits_139 ?_
            refine lv_bipush (v := (26 : Int32)) hx hb kb_Mo_fits_142 (by decide) ?_
            refine lv_iload_n hx hb kb_Mo_fits_144 rfl (lv_at hl 3 rfl) ?_
            refine lv_iconst (v := (1 : Int32)) hx hb kb_Mo_fits_145 (by decide) ?_
            refine lv_iadd hx hb kb_Mo_fits_146 ?_
            refine lv_imul hx hb kb_Mo_fits_147 ?_
            refine lv_iload hx hb kb_Mo_fits_148 (lv_at hl 0 rfl) ?_
            refine lv_iadd hx hb kb_Mo_fits_150 ?_
            refine lv_aload_n hx hb kb_Mo_fits_151 rfl (lv_at hl 1 rfl) ?_
            obtain ⟨hy, r152, hrf, hw⟩ := hw
            refine zr_getR (ci := 8) (f := 824) hx hb hts ki_Mo hown hK hG hy rfl 24 (by decide) (hts _ (List.mem_cons_of_mem _ kw_608)) (fun _ h => h) rfl rfl hrf kb_Mo_fits_152 ?_
            refine lv_iload hx hb kb_Mo_fits_155 (lv_at hl 4 rfl) ?_
            refine lv_iload hx hb kb_Mo_fits_157 (lv_at hl 6 rfl) ?_
            refine lv_iadd hx hb kb_Mo_fits_159 ?_
            obtain ⟨n160, s160, hy, hi, hw⟩ := hw
            refine zr_iald hx hb hK hG 0 hy rfl hi kb_Mo_fits_160 ?_
            obtain ⟨n161, s161, hy, hi, hw⟩ := hw
            refine zr_iast hx hb hK hG hS 0 hy rfl hi kb_Mo_fits_161 (fun H locs hG hS => ?_)
            obtain ⟨σ161, e161⟩ : ∃ z, z = z_sA σ s161 r139 (upd (z_A σ s161 r139) ((((26 : Int32)) * (x3 + ((1 : Int32)))) + (z_A σ s82 r73 ((((3 : Int32)) * x1) + v6).toNatClampNeg)).toNatClampNeg (z_A σ s160 r152 (v4 + v6).toNatClampNeg)) := ⟨_, rfl⟩
            rw [← e161] at hG
            have hw := hw _ e161
            refine lv_goto (tgt := 199) hx hb kb_Mo_fits_162 (by decide) ?_
            refine lv_iinc (v := v6 + (1 : Int32)) (lv' := [(6, .int (v6 + (1 : Int32))), (7, .int (z_A σ s82 r73 ((((3 : Int32)) * x1) + v6).toNatClampNeg)), (0, .ref a0), (1, .int x1), (3, .int x3), (4, .int v4), (5, .int v5)]) hx hb kb_Mo_fits_199 hl (k := 6) rfl rfl (by decide) rfl (fun ls hl => ?_)
            refine lv_goto (tgt := 61) hx hb kb_Mo_fits_202 (by decide) ?_
            exact hw _ _ _ hG hS (lv_sub hl [2, 3, 4, 5, 6, 0] rfl)
        · have hw := hw.2 hc
          refine lv_iload hx hb kb_Mo_fits_92 (lv_at hl 0 rfl) ?_
          refine lv_bipush (v := (100 : Int32)) hx hb kb_Mo_fits_94 (by decide) ?_
          refine lv_isub hx hb kb_Mo_fits_96 ?_
          refine lv_aload_n hx hb kb_Mo_fits_97 rfl (lv_at hl 1 rfl) ?_
          obtain ⟨hy, r98, hrf, hw⟩ := hw
          refine zr_getR (ci := 8) (f := 824) hx hb hts ki_Mo hown hK hG hy rfl 24 (by decide) (hts _ (List.mem_cons_of_mem _ kw_608)) (fun _ h => h) rfl rfl hrf kb_Mo_fits_98 ?_
          refine lv_iload hx hb kb_Mo_fits_101 (lv_at hl 4 rfl) ?_
          refine lv_iload hx hb kb_Mo_fits_103 (lv_at hl 6 rfl) ?_
          refine lv_iadd hx hb kb_Mo_fits_105 ?_
          obtain ⟨n106, s106, hy, hi, hw⟩ := hw
          refine zr_iald hx hb hK hG 0 hy rfl hi kb_Mo_fits_106 ?_
          refine lv_icmp_ne (tgt := 114) hx hb kb_Mo_fits_107 (by decide) (fun hc => ?_) (fun hc => ?_)
          · have hw := hw.1 hc
            refine lv_iconst (v := (0 : Int32)) hx hb kb_Mo_fits_114 (by decide) ?_
            refine lv_istore (lv' := [(5, .int ((0 : Int32))), (7, .int (z_A σ s82 r73 ((((3 : Int32)) * x1) + v6).toNatClampNeg)), (0, .ref a0), (1, .int x1), (3, .int x3), (4, .int v4), (6, .int v6)]) hx hb kb_Mo_fits_115 hl (by decide) rfl (fun ls hl => ?_)
            refine lv_goto (tgt := 199) hx hb kb_Mo_fits_117 (by decide) ?_
            refine lv_iinc (v := v6 + (1 : Int32)) (lv' := [(6, .int (v6 + (1 : Int32))), (5, .int ((0 : Int32))), (7, .int (z_A σ s82 r73 ((((3 : Int32)) * x1) + v6).toNatClampNeg)), (0, .ref a0), (1, .int x1), (3, .int x3), (4, .int v4)]) hx hb kb_Mo_fits_199 hl (k := 6) rfl rfl (by decide) rfl (fun ls hl => ?_)
            refine lv_goto (tgt := 61) hx hb kb_Mo_fits_202 (by decide) ?_
            exact hw _ _ _ hG hS (lv_sub hl [3, 4, 5, 6, 1, 0] rfl)
          · have hw := hw.2 hc
            refine lv_iconst (v := (1 : Int32)) hx hb kb_Mo_fits_110 (by decide) ?_
            refine lv_goto (tgt := 115) hx hb kb_Mo_fits_111 (by decide) ?_
            refine lv_istore (lv' := [(5, .int ((1 : Int32))), (7, .int (z_A σ s82 r73 ((((3 : Int32)) * x1) + v6).toNatClampNeg)), (0, .ref a0), (1, .int x1), (3, .int x3), (4, .int v4), (6, .int v6)]) hx hb kb_Mo_fits_115 hl (by decide) rfl (fun ls hl => ?_)
            refine lv_goto (tgt := 199) hx hb kb_Mo_fits_117 (by decide) ?_
            refine lv_iinc (v := v6 + (1 : Int32)) (lv' := [(6, .int (v6 + (1 : Int32))), (5, .int ((1 : Int32))), (7, .int (z_A σ s82 r73 ((((3 : Int32)) * x1) + v6).toNatClampNeg)), (0, .ref a0), (1, .int x1), (3, .int x3), (4, .int v4)]) hx hb kb_Mo_fits_199 hl (k := 6) rfl rfl (by decide) rfl (fun ls hl => ?_)
            refine lv_goto (tgt := 61) hx hb kb_Mo_fits_202 (by decide) ?_
            exact hw _ _ _ hG hS (lv_sub hl [3, 4, 5, 6, 1, 0] rfl))
  refine lv_aload_n hx hb kb_Mo_fits_0 rfl (lv_at hl 0 rfl) ?_
  refine lv_aload_n hx hb kb_Mo_fits_1 rfl (lv_at hl 0 rfl) ?_
  obtain ⟨hy, r2, hrf, hw⟩ := hw
  refine zr_getR (ci := 8) (f := 813) hx hb hts ki_Mo hown hK hG hy rfl 13 (by decide) (hts _ (List.mem_cons_of_mem _ kw_597)) (fun _ h => h) rfl rfl hrf kb_Mo_fits_2 ?_
  refine lv_iload_n hx hb kb_Mo_fits_5 rfl (lv_at hl 1 rfl) ?_
  obtain ⟨n6, s6, hy, hi, hw⟩ := hw
  refine zr_iald hx hb hK hG 0 hy rfl hi kb_Mo_fits_6 ?_
  refine lv_iload_n hx hb kb_Mo_fits_7 rfl (lv_at hl 2 rfl) ?_
  obtain ⟨hy, hw⟩ := hw
  refine zr_ci (va_runV (C := kR_Mo) (As := [.int (z_A σ s6 r2 x1.toNatClampNeg), .int x2]) (rest := []) ⟨hx, hb, hml, hown, hts⟩ (kc_Mo_base l D dA Z a0 (z_A σ s6 r2 x1.toNatClampNeg) x2 σ _) ⟨callB_of 2 hts (z_gw kw_790) rfl rfl rfl (hts _ (List.mem_cons_of_mem _ kw_9)) (hts _ (List.mem_cons_of_mem _ kw_788)) (by decide +kernel) ⟨Nat.le_of_ble_eq_true rfl, Nat.le_of_ble_eq_true rfl⟩, (hts _ (List.mem_cons_of_mem _ kw_789)), (hts _ (List.mem_cons_of_mem _ kw_977))⟩ (z_preV z_nwN (Nat.le_trans hZ hS.1) hG hK hN hy (ci := 8) (r := (kR_Mo, kT_Mo, 51)) rfl hw) rfl rfl hl.1 rfl (lv_room (Nat.le_of_ble_eq_true rfl)) kb_Mo_fits_8 ⟨Nat.le_of_ble_eq_true rfl, Nat.le_of_ble_eq_true rfl⟩) hS (fun r8 σ8 H locs hw hG hS => ?_)
  refine lv_istore (lv' := [(4, .int r8), (0, .ref a0), (1, .int x1), (2, .int x2), (3, .int x3)]) hx hb kb_Mo_fits_11 hl (by decide) rfl (fun ls hl => ?_)
  refine lv_iconst (v := (0 : Int32)) hx hb kb_Mo_fits_13 (by decide) ?_
  refine lv_istore (lv' := [(5, .int ((0 : Int32))), (4, .int r8), (0, .ref a0), (1, .int x1), (2, .int x2), (3, .int x3)]) hx hb kb_Mo_fits_14 hl (by decide) rfl (fun ls hl => ?_)
  exact hw _ _ _ hG hS (lv_sub hl [2, 3, 5, 1, 0] rfl)
def kp_Mo_holds (a0 : Nat) (σ : z_S) (Post : Int32 → z_S → Prop) : Prop := ∀ (X9 : Int32 → Int32 → z_S → Prop) (X62 : Int32 → Int32 → Int32 → z_S → Prop) (X94 : Int32 → Int32 → Int32 → Int32 → z_S → Prop),
    (∀ (v1 : Int32) (v2 : Int32) (σ : z_S), (z_ty σ a0 = some (.inl 8) ∧ (z_ty σ a0 = some (.inl 8) ∧ ∃ r17, z_R σ 811 a0 = some r17 ∧ (z_ty σ a0 = some (.inl 8) ∧ (∃ n24 s24, z_ty σ r17 = some (.inr (0, n24, s24)) ∧ vp_in (z_I σ 842 a0) n24 ∧ ((((((5 : Int32)) * (z_I σ 842 a0)) + (z_A σ s24 r17 (z_I σ 842 a0).toNatClampNeg)) ≤ v2 → (v1 = 0 ∨ v1 = 1) ∧ Post v1 σ) ∧ (¬ ((((5 : Int32)) * (z_I σ 842 a0)) + (z_A σ s24 r17 (z_I σ 842 a0).toNatClampNeg)) ≤ v2 → (v1 = 0 → (v1 = 0 ∨ v1 = 1) ∧ Post v1 σ) ∧ (¬ v1 = 0 → z_ty σ a0 = some (.inl 8) ∧ ∃ r34, z_R σ 812 a0 = some r34 ∧ (∃ n38 s38, z_ty σ r34 = some (.inr (0, n38, s38)) ∧ vp_in v2 n38 ∧ ((¬ ((z_A σ s38 r34 v2.toNatClampNeg)) = 0 → z_ty σ a0 = some (.inl 8) ∧ ∃ r48, z_R σ 814 a0 = some r48 ∧ (∃ n54 s54, z_ty σ r48 = some (.inr (0, n54, s54)) ∧ vp_in (((3 : Int32)) * v2) n54 ∧ (z_ty σ a0 = some (.inl 8) ∧ (z_ty σ a0 = some (.inl 8) ∧ kp_Mo_valueOf a0 (z_A σ s54 r48 (((3 : Int32)) * v2).toNatClampNeg) (z_I σ 841 a0) σ (fun (r59 : Int32) (σ59 : z_S) => X62 v1 v2 r59 σ59))))) ∧ (((z_A σ s38 r34 v2.toNatClampNeg)) = 0 → X62 v1 v2 ((0 : Int32)) σ)))))))))) → X9 v1 v2 σ) →
    (∀ (v1 : Int32) (v2 : Int32) (t0 : Int32) (σ : z_S), (z_ty σ a0 = some (.inl 8) ∧ ∃ r64, z_R σ 812 a0 = some r64 ∧ (∃ n68 s68, z_ty σ r64 = some (.inr (0, n68, s68)) ∧ vp_in v2 n68 ∧ ((¬ ((z_A σ s68 r64 v2.toNatClampNeg)) = 0 → z_ty σ a0 = some (.inl 8) ∧ ∃ r78, z_R σ 814 a0 = some r78 ∧ (∃ n86 s86, z_ty σ r78 = some (.inr (0, n86, s86)) ∧ vp_in ((((3 : Int32)) * v2) + ((1 : Int32))) n86 ∧ (z_ty σ a0 = some (.inl 8) ∧ (z_ty σ a0 = some (.inl 8) ∧ kp_Mo_valueOf a0 (z_A σ s86 r78 ((((3 : Int32)) * v2) + ((1 : Int32))).toNatClampNeg) (z_I σ 841 a0) σ (fun (r91 : Int32) (σ91 : z_S) => X94 v1 v2 t0 r91 σ91))))) ∧ (((z_A σ s68 r64 v2.toNatClampNeg)) = 0 → X94 v1 v2 t0 ((0 : Int32)) σ)))) → X62 v1 v2 t0 σ) →
    (∀ (v1 : Int32) (v2 : Int32) (v3 : Int32) (t0 : Int32) (σ : z_S), (z_ty σ a0 = some (.inl 8) ∧ ∃ r97, z_R σ 812 a0 = some r97 ∧ (∃ n101 s101, z_ty σ r97 = some (.inr (0, n101, s101)) ∧ vp_in v2 n101 ∧ ((¬ (z_A σ s101 r97 v2.toNatClampNeg) = ((1 : Int32)) → z_ty σ a0 = some (.inl 8) ∧ ∃ r151, z_R σ 812 a0 = some r151 ∧ (∃ n155 s155, z_ty σ r151 = some (.inr (0, n155, s155)) ∧ vp_in v2 n155 ∧ ((¬ (z_A σ s155 r151 v2.toNatClampNeg) = ((2 : Int32)) → X9 v1 (v2 + (1 : Int32)) σ) ∧ ((z_A σ s155 r151 v2.toNatClampNeg) = ((2 : Int32)) → z_ty σ a0 = some (.inl 8) ∧ ∃ r161, z_R σ 813 a0 = some r161 ∧ (∃ n165 s165, z_ty σ r161 = some (.inr (0, n165, s165)) ∧ vp_in v2 n165 ∧ ((¬ (z_A σ s165 r161 v2.toNatClampNeg) = ((60 : Int32)) → z_ty σ a0 = some (.inl 8) ∧ ∃ r186, z_R σ 813 a0 = some r186 ∧ (∃ n190 s190, z_ty σ r186 = some (.inr (0, n190, s190)) ∧ vp_in v2 n190 ∧ ((¬ (z_A σ s190 r186 v2.toNatClampNeg) = ((61 : Int32)) → (v3 = t0 → X9 ((0 : Int32)) (v2 + (1 : Int32)) σ) ∧ (¬ v3 = t0 → X9 ((1 : Int32)) (v2 + (1 : Int32)) σ)) ∧ ((z_A σ s190 r186 v2.toNatClampNeg) = ((61 : Int32)) → (¬ v3 = t0 → X9 ((0 : Int32)) (v2 + (1 : Int32)) σ) ∧ (v3 = t0 → X9 ((1 : Int32)) (v2 + (1 : Int32)) σ))))) ∧ ((z_A σ s165 r161 v2.toNatClampNeg) = ((60 : Int32)) → (t0 ≤ v3 → X9 ((0 : Int32)) (v2 + (1 : Int32)) σ) ∧ (¬ t0 ≤ v3 → X9 ((1 : Int32)) (v2 + (1 : Int32)) σ)))))))) ∧ ((z_A σ s101 r97 v2.toNatClampNeg) = ((1 : Int32)) → z_ty σ a0 = some (.inl 8) ∧ ∃ r108, z_R σ 813 a0 = some r108 ∧ (∃ n112 s112, z_ty σ r108 = some (.inr (0, n112, s112)) ∧ vp_in v2 n112 ∧ (z_ty σ a0 = some (.inl 8) ∧ ∃ r118, z_R σ 814 a0 = some r118 ∧ (∃ n126 s126, z_ty σ r118 = some (.inr (0, n126, s126)) ∧ vp_in ((((3 : Int32)) * v2) + ((2 : Int32))) n126 ∧ (z_ty σ a0 = some (.inl 8) ∧ (z_ty σ a0 = some (.inl 8) ∧ kp_Mo_valueOf a0 (z_A σ s126 r118 ((((3 : Int32)) * v2) + ((2 : Int32))).toNatClampNeg) (z_I σ 841 a0) σ (fun (r131 : Int32) (σ131 : z_S) => z_ty σ131 a0 = some (.inl 8) ∧ kp_Mo_find a0 (z_A σ s112 r108 v2.toNatClampNeg) v3 t0 r131 σ131 (fun (r134 : Int32) (σ134 : z_S) => (¬ r134 = ((-1 : Int32)) → X9 ((0 : Int32)) (v2 + (1 : Int32)) σ134) ∧ (r134 = ((-1 : Int32)) → X9 ((1 : Int32)) (v2 + (1 : Int32)) σ134)))))))))))) → X94 v1 v2 v3 t0 σ) →
    (z_ty σ a0 = some (.inl 8) ∧ (X9 ((1 : Int32)) (((5 : Int32)) * (z_I σ 842 a0)) σ))
set_option maxHeartbeats 4000000 in
set_option maxRecDepth 100000 in
theorem kc_Mo_holds (l : Launch) (D : va_G) (dA : Nat → ClassId) (Z : Nat) (a0 : Nat) (σ : z_S) (Post : Int32 → z_S → Prop) : Met l km_Mo_holds ks_Mo_holds kr_Mo_holds (va_Pc [.ref a0] (fun U => z_U D z_cl z_KT dA Z (z_tys dA) z_nw σ U ∧ kp_Mo_holds  a0 σ Post)) (z_Qi D z_cl z_KT dA Z (z_tys dA) z_nw Post) 0 0 (fun q => Z ≤ q) := by
  refine Met.ofW (cc := prog_10_method_31_code) (maxL := 5) (ret := (some .boolean)) (by decide) rfl ?_
  intro p e s m args below meth c s₁ B hml hv
  obtain ⟨rfl, ⟨hZ, hG, hK, hN⟩, hw⟩ := hv
  have hx := B.exec
  have hb := B.bytes
  have hr := B.returns
  have hts := atoms_spec (ws := ks_Mo_holds) B.pre
  have hown : s.vm.findClass kR_Mo = some m.cls := findClass_of_methodNamed B.named
  have hlocks := B.notSynchronized
  have hS : va_S (fun q => Z ≤ q) s.heap s.heap [] := va_S.rf
  have hl := lv_entry ([.ref a0]) (n := 5) (Nat.le_of_ble_eq_true rfl)
  rw [lg_entry_eq]
  generalize (lg_sl ([.ref a0]) ++ List.replicate (5 - (lg_sl ([.ref a0])).length) Slot.unset).toArray = ls at hl ⊢
  have hl : lv_has ls 5 [(0, .ref a0)] := hl
  unfold kp_Mo_holds at hw
  have hw := hw (fun (v1 : Int32) (v2 : Int32) (σ : z_S) => ∀ (H : Heap) (locs : List Loc) (ls : Array Slot), z_G D z_cl z_KT dA Z σ H → va_S (fun q => Z ≤ q) s.heap H locs → lv_has ls 5 [(0, .ref a0), (1, .int v1), (2, .int v2)] → W p l e (headSpec ks_Mo_holds kr_Mo_holds).room s m ([.ref a0] : List Value).toArray below meth c H locs 0 0 (MQ below (z_Qi D z_cl z_KT dA Z (z_tys dA) z_nw Post) ([.ref a0] : List Value).toArray s 0 0 (fun q => Z ≤ q)) (F0 m 9 ls []))
  have hw := hw (fun (v1 : Int32) (v2 : Int32) (t0 : Int32) (σ : z_S) => ∀ (H : Heap) (locs : List Loc) (ls : Array Slot), z_G D z_cl z_KT dA Z σ H → va_S (fun q => Z ≤ q) s.heap H locs → lv_has ls 5 [(0, .ref a0), (1, .int v1), (2, .int v2)] → W p l e (headSpec ks_Mo_holds kr_Mo_holds).room s m ([.ref a0] : List Value).toArray below meth c H locs 0 0 (MQ below (z_Qi D z_cl z_KT dA Z (z_tys dA) z_nw Post) ([.ref a0] : List Value).toArray s 0 0 (fun q => Z ≤ q)) (F0 m 62 ls [.int t0]))
  have hw := hw (fun (v1 : Int32) (v2 : Int32) (v3 : Int32) (t0 : Int32) (σ : z_S) => ∀ (H : Heap) (locs : List Loc) (ls : Array Slot), z_G D z_cl z_KT dA Z σ H → va_S (fun q => Z ≤ q) s.heap H locs → lv_has ls 5 [(0, .ref a0), (1, .int v1), (2, .int v2), (3, .int v3)] → W p l e (headSpec ks_Mo_holds kr_Mo_holds).room s m ([.ref a0] : List Value).toArray below meth c H locs 0 0 (MQ below (z_Qi D z_cl z_KT dA Z (z_tys dA) z_nw Post) ([.ref a0] : List Value).toArray s 0 0 (fun q => Z ≤ q)) (F0 m 94 ls [.int t0]))
  have hw := hw (by
    intro v1 v2 σ hw H locs ls hG hS hl
    refine lv_iload_n hx hb kb_Mo_holds_9 rfl (lv_at hl 2 rfl) ?_
    refine lv_iconst (v := (5 : Int32)) hx hb kb_Mo_holds_10 (by decide) ?_
    refine lv_aload_n hx hb kb_Mo_holds_11 rfl (lv_at hl 0 rfl) ?_
    obtain ⟨hy, hw⟩ := hw
    refine zr_getI (ci := 8) (f := 842) hx hb hts ki_Mo hown hK hG hy rfl 42 (by decide) (hts _ (List.mem_cons_of_mem _ kw_626)) (fun _ h => h) rfl rfl kb_Mo_holds_12 ?_
    refine lv_imul hx hb kb_Mo_holds_15 ?_
    refine lv_aload_n hx hb kb_Mo_holds_16 rfl (lv_at hl 0 rfl) ?_
    obtain ⟨hy, r17, hrf, hw⟩ := hw
    refine zr_getR (ci := 8) (f := 811) hx hb hts ki_Mo hown hK hG hy rfl 11 (by decide) (hts _ (List.mem_cons_of_mem _ kw_595)) (fun _ h => h) rfl rfl hrf kb_Mo_holds_17 ?_
    refine lv_aload_n hx hb kb_Mo_holds_20 rfl (lv_at hl 0 rfl) ?_
    obtain ⟨hy, hw⟩ := hw
    refine zr_getI (ci := 8) (f := 842) hx hb hts ki_Mo hown hK hG hy rfl 42 (by decide) (hts _ (List.mem_cons_of_mem _ kw_626)) (fun _ h => h) rfl rfl kb_Mo_holds_21 ?_
    obtain ⟨n24, s24, hy, hi, hw⟩ := hw
    refine zr_iald hx hb hK hG 0 hy rfl hi kb_Mo_holds_24 ?_
    refine lv_iadd hx hb kb_Mo_holds_25 ?_
    refine lv_icmp_ge (tgt := 228) hx hb kb_Mo_holds_26 (by decide) (fun hc => ?_) (fun hc => ?_)
    · have hw := hw.1 hc
      refine lv_iload_n hx hb kb_Mo_holds_228 rfl (lv_at hl 1 rfl) ?_
      exact zr_iret (free := fun q => Z ≤ q) z_nwN hx hb hr (z_bool hw.1) hZ hK hN hG hS hw.2 kb_Mo_holds_229 hlocks
    · have hw := hw.2 hc
      refine lv_iload_n hx hb kb_Mo_holds_29 rfl (lv_at hl 1 rfl) ?_
      refine lv_if_eq (tgt := 228) hx hb kb_Mo_holds_30 (by decide) (fun hc => ?_) (fun hc => ?_)
      · have hw := hw.1 hc
        refine lv_iload_n hx hb kb_Mo_holds_228 rfl (lv_at hl 1 rfl) ?_
        exact zr_iret (free := fun q => Z ≤ q) z_nwN hx hb hr (z_bool hw.1) hZ hK hN hG hS hw.2 kb_Mo_holds_229 hlocks
      · have hw := hw.2 hc
        refine lv_aload_n hx hb kb_Mo_holds_33 rfl (lv_at hl 0 rfl) ?_
        obtain ⟨hy, r34, hrf, hw⟩ := hw
        refine zr_getR (ci := 8) (f := 812) hx hb hts ki_Mo hown hK hG hy rfl 12 (by decide) (hts _ (List.mem_cons_of_mem _ kw_596)) (fun _ h => h) rfl rfl hrf kb_Mo_holds_34 ?_
        refine lv_iload_n hx hb kb_Mo_holds_37 rfl (lv_at hl 2 rfl) ?_
        obtain ⟨n38, s38, hy, hi, hw⟩ := hw
        refine zr_iald hx hb hK hG 0 hy rfl hi kb_Mo_holds_38 ?_
        refine lv_if_ne (tgt := 46) hx hb kb_Mo_holds_39 (by decide) (fun hc => ?_) (fun hc => ?_)
        · have hw := hw.1 hc
          refine lv_aload_n hx hb kb_Mo_holds_46 rfl (lv_at hl 0 rfl) ?_
          refine lv_aload_n hx hb kb_Mo_holds_47 rfl (lv_at hl 0 rfl) ?_
          obtain ⟨hy, r48, hrf, hw⟩ := hw
          refine zr_getR (ci := 8) (f := 814) hx hb hts ki_Mo hown hK hG hy rfl 14 (by decide) (hts _ (List.mem_cons_of_mem _ kw_598)) (fun _ h => h) rfl rfl hrf kb_Mo_holds_48 ?_
          refine lv_iconst (v := (3 : Int32)) hx hb kb_Mo_holds_51 (by decide) ?_
          refine lv_iload_n hx hb kb_Mo_holds_52 rfl (lv_at hl 2 rfl) ?_
          refine lv_imul hx hb kb_Mo_holds_53 ?_
          obtain ⟨n54, s54, hy, hi, hw⟩ := hw
          refine zr_iald hx hb hK hG 0 hy rfl hi kb_Mo_holds_54 ?_
          refine lv_aload_n hx hb kb_Mo_holds_55 rfl (lv_at hl 0 rfl) ?_
          obtain ⟨hy, hw⟩ := hw
          refine zr_getI (ci := 8) (f := 841) hx hb hts ki_Mo hown hK hG hy rfl 41 (by decide) (hts _ (List.mem_cons_of_mem _ kw_625)) (fun _ h => h) rfl rfl kb_Mo_holds_56 ?_
          obtain ⟨hy, hw⟩ := hw
          refine zr_ci (va_runV (C := kR_Mo) (As := [.int (z_A σ s54 r48 (((3 : Int32)) * v2).toNatClampNeg), .int (z_I σ 841 a0)]) (rest := []) ⟨hx, hb, hml, hown, hts⟩ (kc_Mo_valueOf l D dA Z a0 (z_A σ s54 r48 (((3 : Int32)) * v2).toNatClampNeg) (z_I σ 841 a0) σ _) ⟨callB_of 2 hts (z_gw kw_781) rfl rfl rfl (hts _ (List.mem_cons_of_mem _ kw_9)) (hts _ (List.mem_cons_of_mem _ kw_779)) (by decide +kernel) ⟨Nat.le_of_ble_eq_true rfl, Nat.le_of_ble_eq_true rfl⟩, (hts _ (List.mem_cons_of_mem _ kw_780)), (hts _ (List.mem_cons_of_mem _ kw_974))⟩ (z_preV z_nwN (Nat.le_trans hZ hS.1) hG hK hN hy (ci := 8) (r := (kR_Mo, kT_Mo, 51)) rfl hw) rfl rfl hl.1 rfl (lv_room (Nat.le_of_ble_eq_true rfl)) kb_Mo_holds_59 ⟨Nat.le_of_ble_eq_true rfl, Nat.le_of_ble_eq_true rfl⟩) hS (fun r59 σ59 H locs hw hG hS => ?_)
          exact hw _ _ _ hG hS (lv_sub hl [0, 1, 2] rfl)
        · have hw := hw.2 hc
          refine lv_iconst (v := (0 : Int32)) hx hb kb_Mo_holds_42 (by decide) ?_
          refine lv_goto (tgt := 62) hx hb kb_Mo_holds_43 (by decide) ?_
          exact hw _ _ _ hG hS (lv_sub hl [0, 1, 2] rfl))
  have hw := hw (by
    intro v1 v2 t0 σ hw H locs ls hG hS hl
    refine lv_istore_n (lv' := [(3, .int t0), (0, .ref a0), (1, .int v1), (2, .int v2)]) hx hb kb_Mo_holds_62 rfl hl (by decide) rfl (fun ls hl => ?_)
    refine lv_aload_n hx hb kb_Mo_holds_63 rfl (lv_at hl 1 rfl) ?_
    obtain ⟨hy, r64, hrf, hw⟩ := hw
    refine zr_getR (ci := 8) (f := 812) hx hb hts ki_Mo hown hK hG hy rfl 12 (by decide) (hts _ (List.mem_cons_of_mem _ kw_596)) (fun _ h => h) rfl rfl hrf kb_Mo_holds_64 ?_
    refine lv_iload_n hx hb kb_Mo_holds_67 rfl (lv_at hl 3 rfl) ?_
    obtain ⟨n68, s68, hy, hi, hw⟩ := hw
    refine zr_iald hx hb hK hG 0 hy rfl hi kb_Mo_holds_68 ?_
    refine lv_if_ne (tgt := 76) hx hb kb_Mo_holds_69 (by decide) (fun hc => ?_) (fun hc => ?_)
    · have hw := hw.1 hc
      refine lv_aload_n hx hb kb_Mo_holds_76 rfl (lv_at hl 1 rfl) ?_
      refine lv_aload_n hx hb kb_Mo_holds_77 rfl (lv_at hl 1 rfl) ?_
      obtain ⟨hy, r78, hrf, hw⟩ := hw
      refine zr_getR (ci := 8) (f := 814) hx hb hts ki_Mo hown hK hG hy rfl 14 (by decide) (hts _ (List.mem_cons_of_mem _ kw_598)) (fun _ h => h) rfl rfl hrf kb_Mo_holds_78 ?_
      refine lv_iconst (v := (3 : Int32)) hx hb kb_Mo_holds_81 (by decide) ?_
      refine lv_iload_n hx hb kb_Mo_holds_82 rfl (lv_at hl 3 rfl) ?_
      refine lv_imul hx hb kb_Mo_holds_83 ?_
      refine lv_iconst (v := (1 : Int32)) hx hb kb_Mo_holds_84 (by decide) ?_
      refine lv_iadd hx hb kb_Mo_holds_85 ?_
      obtain ⟨n86, s86, hy, hi, hw⟩ := hw
      refine zr_iald hx hb hK hG 0 hy rfl hi kb_Mo_holds_86 ?_
      refine lv_aload_n hx hb kb_Mo_holds_87 rfl (lv_at hl 1 rfl) ?_
      obtain ⟨hy, hw⟩ := hw
      refine zr_getI (ci := 8) (f := 841) hx hb hts ki_Mo hown hK hG hy rfl 41 (by decide) (hts _ (List.mem_cons_of_mem _ kw_625)) (fun _ h => h) rfl rfl kb_Mo_holds_88 ?_
      obtain ⟨hy, hw⟩ := hw
      refine zr_ci (va_runV (C := kR_Mo) (As := [.int (z_A σ s86 r78 ((((3 : Int32)) * v2) + ((1 : Int32))).toNatClampNeg), .int (z_I σ 841 a0)]) (rest := []) ⟨hx, hb, hml, hown, hts⟩ (kc_Mo_valueOf l D dA Z a0 (z_A σ s86 r78 ((((3 : Int32)) * v2) + ((1 : Int32))).toNatClampNeg) (z_I σ 841 a0) σ _) ⟨callB_of 2 hts (z_gw kw_781) rfl rfl rfl (hts _ (List.mem_cons_of_mem _ kw_9)) (hts _ (List.mem_cons_of_mem _ kw_779)) (by decide +kernel) ⟨Nat.le_of_ble_eq_true rfl, Nat.le_of_ble_eq_true rfl⟩, (hts _ (List.mem_cons_of_mem _ kw_780)), (hts _ (List.mem_cons_of_mem _ kw_974))⟩ (z_preV z_nwN (Nat.le_trans hZ hS.1) hG hK hN hy (ci := 8) (r := (kR_Mo, kT_Mo, 51)) rfl hw) rfl rfl hl.1 rfl (lv_room (Nat.le_of_ble_eq_true rfl)) kb_Mo_holds_91 ⟨Nat.le_of_ble_eq_true rfl, Nat.le_of_ble_eq_true rfl⟩) hS (fun r91 σ91 H locs hw hG hS => ?_)
      exact hw _ _ _ hG hS (lv_sub hl [1, 2, 3, 0] rfl)
    · have hw := hw.2 hc
      refine lv_iconst (v := (0 : Int32)) hx hb kb_Mo_holds_72 (by decide) ?_
      refine lv_goto (tgt := 94) hx hb kb_Mo_holds_73 (by decide) ?_
      exact hw _ _ _ hG hS (lv_sub hl [1, 2, 3, 0] rfl))
  have hw := hw (by
    intro v1 v2 v3 t0 σ hw H locs ls hG hS hl
    refine lv_istore (lv' := [(4, .int t0), (0, .ref a0), (1, .int v1), (2, .int v2), (3, .int v3)]) hx hb kb_Mo_holds_94 hl (by decide) rfl (fun ls hl => ?_)
    refine lv_aload_n hx hb kb_Mo_holds_96 rfl (lv_at hl 1 rfl) ?_
    obtain ⟨hy, r97, hrf, hw⟩ := hw
    refine zr_getR (ci := 8) (f := 812) hx hb hts ki_Mo hown hK hG hy rfl 12 (by decide) (hts _ (List.mem_cons_of_mem _ kw_596)) (fun _ h => h) rfl rfl hrf kb_Mo_holds_97 ?_
    refine lv_iload_n hx hb kb_Mo_holds_100 rfl (lv_at hl 3 rfl) ?_
    obtain ⟨n101, s101, hy, hi, hw⟩ := hw
    refine zr_iald hx hb hK hG 0 hy rfl hi kb_Mo_holds_101 ?_
    refine lv_iconst (v := (1 : Int32)) hx hb kb_Mo_holds_102 (by decide) ?_
    refine lv_icmp_ne (tgt := 150) hx hb kb_Mo_holds_103 (by decide) (fun hc => ?_) (fun hc => ?_)
    · have hw := hw.1 hc
      refine lv_aload_n hx hb kb_Mo_holds_150 rfl (lv_at hl 1 rfl) ?_
      obtain ⟨hy, r151, hrf, hw⟩ := hw
      refine zr_getR (ci := 8) (f := 812) hx hb hts ki_Mo hown hK hG hy rfl 12 (by decide) (hts _ (List.mem_cons_of_mem _ kw_596)) (fun _ h => h) rfl rfl hrf kb_Mo_holds_151 ?_
      refine lv_iload_n hx hb kb_Mo_holds_154 rfl (lv_at hl 3 rfl) ?_
      obtain ⟨n155, s155, hy, hi, hw⟩ := hw
      refine zr_iald hx hb hK hG 0 hy rfl hi kb_Mo_holds_155 ?_
      refine lv_iconst (v := (2 : Int32)) hx hb kb_Mo_holds_156 (by decide) ?_
      refine lv_icmp_ne (tgt := 222) hx hb kb_Mo_holds_157 (by decide) (fun hc => ?_) (fun hc => ?_)
      · have hw := hw.1 hc
        refine lv_iinc (v := v2 + (1 : Int32)) (lv' := [(2, .int (v2 + (1 : Int32))), (4, .int t0), (0, .ref a0), (1, .int v1), (3, .int v3)]) hx hb kb_Mo_holds_222 hl (k := 3) rfl rfl (by decide) rfl (fun ls hl => ?_)
        refine lv_goto (tgt := 9) hx hb kb_Mo_holds_225 (by decide) ?_
        exact hw _ _ _ hG hS (lv_sub hl [2, 3, 0] rfl)
      · have hw := hw.2 hc
        refine lv_aload_n hx hb kb_Mo_holds_160 rfl (lv_at hl 1 rfl) ?_
        obtain ⟨hy, r161, hrf, hw⟩ := hw
        refine zr_getR (ci := 8) (f := 813) hx hb hts ki_Mo hown hK hG hy rfl 13 (by decide) (hts _ (List.mem_cons_of_mem _ kw_597)) (fun _ h => h) rfl rfl hrf kb_Mo_holds_161 ?_
        refine lv_iload_n hx hb kb_Mo_holds_164 rfl (lv_at hl 3 rfl) ?_
        obtain ⟨n165, s165, hy, hi, hw⟩ := hw
        refine zr_iald hx hb hK hG 0 hy rfl hi kb_Mo_holds_165 ?_
        refine lv_bipush (v := (60 : Int32)) hx hb kb_Mo_holds_166 (by decide) ?_
        refine lv_icmp_ne (tgt := 185) hx hb kb_Mo_holds_168 (by decide) (fun hc => ?_) (fun hc => ?_)
        · have hw := hw.1 hc
          refine lv_aload_n hx hb kb_Mo_holds_185 rfl (lv_at hl 1 rfl) ?_
          obtain ⟨hy, r186, hrf, hw⟩ := hw
          refine zr_getR (ci := 8) (f := 813) hx hb hts ki_Mo hown hK hG hy rfl 13 (by decide) (hts _ (List.mem_cons_of_mem _ kw_597)) (fun _ h => h) rfl rfl hrf kb_Mo_holds_186 ?_
          refine lv_iload_n hx hb kb_Mo_holds_189 rfl (lv_at hl 3 rfl) ?_
          obtain ⟨n190, s190, hy, hi, hw⟩ := hw
          refine zr_iald hx hb hK hG 0 hy rfl hi kb_Mo_holds_190 ?_
          refine lv_bipush (v := (61 : Int32)) hx hb kb_Mo_holds_191 (by decide) ?_
          refine lv_icmp_ne (tgt := 210) hx hb kb_Mo_holds_193 (by decide) (fun hc => ?_) (fun hc => ?_)
          · have hw := hw.1 hc
            refine lv_iload_n hx hb kb_Mo_holds_210 rfl (lv_at hl 4 rfl) ?_
            refine lv_iload hx hb kb_Mo_holds_211 (lv_at hl 0 rfl) ?_
            refine lv_icmp_eq (tgt := 220) hx hb kb_Mo_holds_213 (by decide) (fun hc => ?_) (fun hc => ?_)
            · have hw := hw.1 hc
              refine lv_iconst (v := (0 : Int32)) hx hb kb_Mo_holds_220 (by decide) ?_
              refine lv_istore_n (lv' := [(1, .int ((0 : Int32))), (4, .int t0), (0, .ref a0), (2, .int v2), (3, .int v3)]) hx hb kb_Mo_holds_221 rfl hl (by decide) rfl (fun ls hl => ?_)
              refine lv_iinc (v := v2 + (1 : Int32)) (lv' := [(2, .int (v2 + (1 : Int32))), (1, .int ((0 : Int32))), (4, .int t0), (0, .ref a0), (3, .int v3)]) hx hb kb_Mo_holds_222 hl (k := 3) rfl rfl (by decide) rfl (fun ls hl => ?_)
              refine lv_goto (tgt := 9) hx hb kb_Mo_holds_225 (by decide) ?_
              exact hw _ _ _ hG hS (lv_sub hl [3, 1, 0] rfl)
            · have hw := hw.2 hc
              refine lv_iconst (v := (1 : Int32)) hx hb kb_Mo_holds_216 (by decide) ?_
              refine lv_goto (tgt := 221) hx hb kb_Mo_holds_217 (by decide) ?_
              refine lv_istore_n (lv' := [(1, .int ((1 : Int32))), (4, .int t0), (0, .ref a0), (2, .int v2), (3, .int v3)]) hx hb kb_Mo_holds_221 rfl hl (by decide) rfl (fun ls hl => ?_)
              refine lv_iinc (v := v2 + (1 : Int32)) (lv' := [(2, .int (v2 + (1 : Int32))), (1, .int ((1 : Int32))), (4, .int t0), (0, .ref a0), (3, .int v3)]) hx hb kb_Mo_holds_222 hl (k := 3) rfl rfl (by decide) rfl (fun ls hl => ?_)
              refine lv_goto (tgt := 9) hx hb kb_Mo_holds_225 (by decide) ?_
              exact hw _ _ _ hG hS (lv_sub hl [3, 1, 0] rfl)
          · have hw := hw.2 hc
            refine lv_iload_n hx hb kb_Mo_holds_196 rfl (lv_at hl 4 rfl) ?_
            refine lv_iload hx hb kb_Mo_holds_197 (lv_at hl 0 rfl) ?_
            refine lv_icmp_ne (tgt := 206) hx hb kb_Mo_holds_199 (by decide) (fun hc => ?_) (fun hc => ?_)
            · have hw := hw.1 hc
              refine lv_iconst (v := (0 : Int32)) hx hb kb_Mo_holds_206 (by decide) ?_
              refine lv_goto (tgt := 221) hx hb kb_Mo_holds_207 (by decide) ?_
              refine lv_istore_n (lv' := [(1, .int ((0 : Int32))), (4, .int t0), (0, .ref a0), (2, .int v2), (3, .int v3)]) hx hb kb_Mo_holds_221 rfl hl (by decide) rfl (fun ls hl => ?_)
              refine lv_iinc (v := v2 + (1 : Int32)) (lv' := [(2, .int (v2 + (1 : Int32))), (1, .int ((0 : Int32))), (4, .int t0), (0, .ref a0), (3, .int v3)]) hx hb kb_Mo_holds_222 hl (k := 3) rfl rfl (by decide) rfl (fun ls hl => ?_)
              refine lv_goto (tgt := 9) hx hb kb_Mo_holds_225 (by decide) ?_
              exact hw _ _ _ hG hS (lv_sub hl [3, 1, 0] rfl)
            · have hw := hw.2 hc
              refine lv_iconst (v := (1 : Int32)) hx hb kb_Mo_holds_202 (by decide) ?_
              refine lv_goto (tgt := 221) hx hb kb_Mo_holds_203 (by decide) ?_
              refine lv_istore_n (lv' := [(1, .int ((1 : Int32))), (4, .int t0), (0, .ref a0), (2, .int v2), (3, .int v3)]) hx hb kb_Mo_holds_221 rfl hl (by decide) rfl (fun ls hl => ?_)
              refine lv_iinc (v := v2 + (1 : Int32)) (lv' := [(2, .int (v2 + (1 : Int32))), (1, .int ((1 : Int32))), (4, .int t0), (0, .ref a0), (3, .int v3)]) hx hb kb_Mo_holds_222 hl (k := 3) rfl rfl (by decide) rfl (fun ls hl => ?_)
              refine lv_goto (tgt := 9) hx hb kb_Mo_holds_225 (by decide) ?_
              exact hw _ _ _ hG hS (lv_sub hl [3, 1, 0] rfl)
        · have hw := hw.2 hc
          refine lv_iload_n hx hb kb_Mo_holds_171 rfl (lv_at hl 4 rfl) ?_
          refine lv_iload hx hb kb_Mo_holds_172 (lv_at hl 0 rfl) ?_
          refine lv_icmp_ge (tgt := 181) hx hb kb_Mo_holds_174 (by decide) (fun hc => ?_) (fun hc => ?_)
          · have hw := hw.1 hc
            refine lv_iconst (v := (0 : Int32)) hx hb kb_Mo_holds_181 (by decide) ?_
            refine lv_goto (tgt := 221) hx hb kb_Mo_holds_182 (by decide) ?_
            refine lv_istore_n (lv' := [(1, .int ((0 : Int32))), (4, .int t0), (0, .ref a0), (2, .int v2), (3, .int v3)]) hx hb kb_Mo_holds_221 rfl hl (by decide) rfl (fun ls hl => ?_)
            refine lv_iinc (v := v2 + (1 : Int32)) (lv' := [(2, .int (v2 + (1 : Int32))), (1, .int ((0 : Int32))), (4, .int t0), (0, .ref a0), (3, .int v3)]) hx hb kb_Mo_holds_222 hl (k := 3) rfl rfl (by decide) rfl (fun ls hl => ?_)
            refine lv_goto (tgt := 9) hx hb kb_Mo_holds_225 (by decide) ?_
            exact hw _ _ _ hG hS (lv_sub hl [3, 1, 0] rfl)
          · have hw := hw.2 hc
            refine lv_iconst (v := (1 : Int32)) hx hb kb_Mo_holds_177 (by decide) ?_
            refine lv_goto (tgt := 221) hx hb kb_Mo_holds_178 (by decide) ?_
            refine lv_istore_n (lv' := [(1, .int ((1 : Int32))), (4, .int t0), (0, .ref a0), (2, .int v2), (3, .int v3)]) hx hb kb_Mo_holds_221 rfl hl (by decide) rfl (fun ls hl => ?_)
            refine lv_iinc (v := v2 + (1 : Int32)) (lv' := [(2, .int (v2 + (1 : Int32))), (1, .int ((1 : Int32))), (4, .int t0), (0, .ref a0), (3, .int v3)]) hx hb kb_Mo_holds_222 hl (k := 3) rfl rfl (by decide) rfl (fun ls hl => ?_)
            refine lv_goto (tgt := 9) hx hb kb_Mo_holds_225 (by decide) ?_
            exact hw _ _ _ hG hS (lv_sub hl [3, 1, 0] rfl)
    · have hw := hw.2 hc
      refine lv_aload_n hx hb kb_Mo_holds_106 rfl (lv_at hl 1 rfl) ?_
      refine lv_aload_n hx hb kb_Mo_holds_107 rfl (lv_at hl 1 rfl) ?_
      obtain ⟨hy, r108, hrf, hw⟩ := hw
      refine zr_getR (ci := 8) (f := 813) hx hb hts ki_Mo hown hK hG hy rfl 13 (by decide) (hts _ (List.mem_cons_of_mem _ kw_597)) (fun _ h => h) rfl rfl hrf kb_Mo_holds_108 ?_
      refine lv_iload_n hx hb kb_Mo_holds_111 rfl (lv_at hl 3 rfl) ?_
      obtain ⟨n112, s112, hy, hi, hw⟩ := hw
      refine zr_iald hx hb hK hG 0 hy rfl hi kb_Mo_holds_112 ?_
      refine lv_iload_n hx hb kb_Mo_holds_113 rfl (lv_at hl 4 rfl) ?_
      refine lv_iload hx hb kb_Mo_holds_114 (lv_at hl 0 rfl) ?_
      refine lv_aload_n hx hb kb_Mo_holds_116 rfl (lv_at hl 1 rfl) ?_
      refine lv_aload_n hx hb kb_Mo_holds_117 rfl (lv_at hl 1 rfl) ?_
      obtain ⟨hy, r118, hrf, hw⟩ := hw
      refine zr_getR (ci := 8) (f := 814) hx hb hts ki_Mo hown hK hG hy rfl 14 (by decide) (hts _ (List.mem_cons_of_mem _ kw_598)) (fun _ h => h) rfl rfl hrf kb_Mo_holds_118 ?_
      refine lv_iconst (v := (3 : Int32)) hx hb kb_Mo_holds_121 (by decide) ?_
      refine lv_iload_n hx hb kb_Mo_holds_122 rfl (lv_at hl 3 rfl) ?_
      refine lv_imul hx hb kb_Mo_holds_123 ?_
      refine lv_iconst (v := (2 : Int32)) hx hb kb_Mo_holds_124 (by decide) ?_
      refine lv_iadd hx hb kb_Mo_holds_125 ?_
      obtain ⟨n126, s126, hy, hi, hw⟩ := hw
      refine zr_iald hx hb hK hG 0 hy rfl hi kb_Mo_holds_126 ?_
      refine lv_aload_n hx hb kb_Mo_holds_127 rfl (lv_at hl 1 rfl) ?_
      obtain ⟨hy, hw⟩ := hw
      refine zr_getI (ci := 8) (f := 841) hx hb hts ki_Mo hown hK hG hy rfl 41 (by decide) (hts _ (List.mem_cons_of_mem _ kw_625)) (fun _ h => h) rfl rfl kb_Mo_holds_128 ?_
      obtain ⟨hy, hw⟩ := hw
      refine zr_ci (va_runV (C := kR_Mo) (As := [.int (z_A σ s126 r118 ((((3 : Int32)) * v2) + ((2 : Int32))).toNatClampNeg), .int (z_I σ 841 a0)]) (rest := [.int t0, .int v3, .int (z_A σ s112 r108 v2.toNatClampNeg), .ref a0]) ⟨hx, hb, hml, hown, hts⟩ (kc_Mo_valueOf l D dA Z a0 (z_A σ s126 r118 ((((3 : Int32)) * v2) + ((2 : Int32))).toNatClampNeg) (z_I σ 841 a0) σ _) ⟨callB_of 2 hts (z_gw kw_781) rfl rfl rfl (hts _ (List.mem_cons_of_mem _ kw_9)) (hts _ (List.mem_cons_of_mem _ kw_779)) (by decide +kernel) ⟨Nat.le_of_ble_eq_true rfl, Nat.le_of_ble_eq_true rfl⟩, (hts _ (List.mem_cons_of_mem _ kw_780)), (hts _ (List.mem_cons_of_mem _ kw_974))⟩ (z_preV z_nwN (Nat.le_trans hZ hS.1) hG hK hN hy (ci := 8) (r := (kR_Mo, kT_Mo, 51)) rfl hw) rfl rfl hl.1 rfl (lv_room (Nat.le_of_ble_eq_true rfl)) kb_Mo_holds_131 ⟨Nat.le_of_ble_eq_true rfl, Nat.le_of_ble_eq_true rfl⟩) hS (fun r131 σ131 H locs hw hG hS => ?_)
      obtain ⟨hy, hw⟩ := hw
      refine zr_ci (va_runV (C := kR_Mo) (As := [.int (z_A σ s112 r108 v2.toNatClampNeg), .int v3, .int t0, .int r131]) (rest := []) ⟨hx, hb, hml, hown, hts⟩ (kc_Mo_find l D dA Z a0 (z_A σ s112 r108 v2.toNatClampNeg) v3 t0 r131 σ131 _) ⟨callB_of 4 hts (z_gw kw_784) rfl rfl rfl (hts _ (List.mem_cons_of_mem _ kw_9)) (hts _ (List.mem_cons_of_mem _ kw_782)) (by decide +kernel) ⟨Nat.le_of_ble_eq_true rfl, Nat.le_of_ble_eq_true rfl⟩, (hts _ (List.mem_cons_of_mem _ kw_783)), (hts _ (List.mem_cons_of_mem _ kw_975))⟩ (z_preV z_nwN (Nat.le_trans hZ hS.1) hG hK hN hy (ci := 8) (r := (kR_Mo, kT_Mo, 51)) rfl hw) rfl rfl hl.1 rfl (lv_room (Nat.le_of_ble_eq_true rfl)) kb_Mo_holds_134 ⟨Nat.le_of_ble_eq_true rfl, Nat.le_of_ble_eq_true rfl⟩) hS (fun r134 σ134 H locs hw hG hS => ?_)
      refine lv_iconst (v := (-1 : Int32)) hx hb kb_Mo_holds_137 (by decide) ?_
      refine lv_icmp_ne (tgt := 145) hx hb kb_Mo_holds_138 (by decide) (fun hc => ?_) (fun hc => ?_)
      · have hw := hw.1 hc
        refine lv_iconst (v := (0 : Int32)) hx hb kb_Mo_holds_145 (by decide) ?_
        refine lv_istore_n (lv' := [(1, .int ((0 : Int32))), (4, .int t0), (0, .ref a0), (2, .int v2), (3, .int v3)]) hx hb kb_Mo_holds_146 rfl hl (by decide) rfl (fun ls hl => ?_)
        refine lv_goto (tgt := 222) hx hb kb_Mo_holds_147 (by decide) ?_
        refine lv_iinc (v := v2 + (1 : Int32)) (lv' := [(2, .int (v2 + (1 : Int32))), (1, .int ((0 : Int32))), (4, .int t0), (0, .ref a0), (3, .int v3)]) hx hb kb_Mo_holds_222 hl (k := 3) rfl rfl (by decide) rfl (fun ls hl => ?_)
        refine lv_goto (tgt := 9) hx hb kb_Mo_holds_225 (by decide) ?_
        exact hw _ _ _ hG hS (lv_sub hl [3, 1, 0] rfl)
      · have hw := hw.2 hc
        refine lv_iconst (v := (1 : Int32)) hx hb kb_Mo_holds_141 (by decide) ?_
        refine lv_goto (tgt := 146) hx hb kb_Mo_holds_142 (by decide) ?_
        refine lv_istore_n (lv' := [(1, .int ((1 : Int32))), (4, .int t0), (0, .ref a0), (2, .int v2), (3, .int v3)]) hx hb kb_Mo_holds_146 rfl hl (by decide) rfl (fun ls hl => ?_)
        refine lv_goto (tgt := 222) hx hb kb_Mo_holds_147 (by decide) ?_
        refine lv_iinc (v := v2 + (1 : Int32)) (lv' := [(2, .int (v2 + (1 : Int32))), (1, .int ((1 : Int32))), (4, .int t0), (0, .ref a0), (3, .int v3)]) hx hb kb_Mo_holds_222 hl (k := 3) rfl rfl (by decide) rfl (fun ls hl => ?_)
        refine lv_goto (tgt := 9) hx hb kb_Mo_holds_225 (by decide) ?_
        exact hw _ _ _ hG hS (lv_sub hl [3, 1, 0] rfl))
  refine lv_iconst (v := (1 : Int32)) hx hb kb_Mo_holds_0 (by decide) ?_
  refine lv_istore_n (lv' := [(1, .int ((1 : Int32))), (0, .ref a0)]) hx hb kb_Mo_holds_1 rfl hl (by decide) rfl (fun ls hl => ?_)
  refine lv_iconst (v := (5 : Int32)) hx hb kb_Mo_holds_2 (by decide) ?_
  refine lv_aload_n hx hb kb_Mo_holds_3 rfl (lv_at hl 1 rfl) ?_
  obtain ⟨hy, hw⟩ := hw
  refine zr_getI (ci := 8) (f := 842) hx hb hts ki_Mo hown hK hG hy rfl 42 (by decide) (hts _ (List.mem_cons_of_mem _ kw_626)) (fun _ h => h) rfl rfl kb_Mo_holds_4 ?_
  refine lv_imul hx hb kb_Mo_holds_7 ?_
  refine lv_istore_n (lv' := [(2, .int (((5 : Int32)) * (z_I σ 842 a0))), (1, .int ((1 : Int32))), (0, .ref a0)]) hx hb kb_Mo_holds_8 rfl hl (by decide) rfl (fun ls hl => ?_)
  exact hw _ _ _ hG hS (lv_sub hl [2, 1, 0] rfl)
def kp_Mo_next (a0 : Nat) (σ : z_S) (Post : Int32 → z_S → Prop) : Prop := ∀ (X0 : z_S → Prop),
    (∀ (σ : z_S), (z_ty σ a0 = some (.inl 8) ∧ ((((z_I σ 840 a0)) < 0 → Post ((0 : Int32)) σ) ∧ (¬ ((z_I σ 840 a0)) < 0 → z_ty σ a0 = some (.inl 8) ∧ (z_ty σ a0 = some (.inl 8) ∧ ((¬ (z_I σ 840 a0) = (z_I σ 841 a0) → z_ty σ a0 = some (.inl 8) ∧ ∃ r38, z_R σ 839 a0 = some r38 ∧ (z_ty σ a0 = some (.inl 8) ∧ (∃ n45 s45, z_ty σ r38 = some (.inr (0, n45, s45)) ∧ vp_in (z_I σ 840 a0) n45 ∧ (z_ty σ a0 = some (.inl 8) ∧ ∃ r48, z_R σ 838 a0 = some r48 ∧ (z_ty σ a0 = some (.inl 8) ∧ (∃ n55 s55, z_ty σ r48 = some (.inr (0, n55, s55)) ∧ vp_in (z_I σ 840 a0) n55 ∧ (z_ty σ a0 = some (.inl 8) ∧ ∃ r57, z_R σ 826 a0 = some r57 ∧ (z_ty σ a0 = some (.inl 8) ∧ ∃ r61, z_R σ 813 a0 = some r61 ∧ (∃ n65 s65, z_ty σ r61 = some (.inr (0, n65, s65)) ∧ vp_in (z_A σ s45 r38 (z_I σ 840 a0).toNatClampNeg) n65 ∧ (∃ n66 s66, z_ty σ r57 = some (.inr (0, n66, s66)) ∧ vp_in (z_A σ s65 r61 (z_A σ s45 r38 (z_I σ 840 a0).toNatClampNeg).toNatClampNeg) n66 ∧ ((¬ (z_A σ s55 r48 (z_I σ 840 a0).toNatClampNeg) = (z_A σ s66 r57 (z_A σ s65 r61 (z_A σ s45 r38 (z_I σ 840 a0).toNatClampNeg).toNatClampNeg).toNatClampNeg) → z_ty σ a0 = some (.inl 8) ∧ ∃ r84, z_R σ 838 a0 = some r84 ∧ (z_ty σ a0 = some (.inl 8) ∧ (∃ n91 s91, z_ty σ r84 = some (.inr (0, n91, s91)) ∧ vp_in (z_I σ 840 a0) n91 ∧ (z_ty σ a0 = some (.inl 8) ∧ ∃ r94, z_R σ 838 a0 = some r94 ∧ (z_ty σ a0 = some (.inl 8) ∧ (∃ n102 s102, z_ty σ r94 = some (.inr (0, n102, s102)) ∧ vp_in (z_I σ 840 a0) n102 ∧ (∃ n105 s105, z_ty σ r94 = some (.inr (0, n105, s105)) ∧ vp_in (z_I σ 840 a0) n105 ∧ ∀ σ105, σ105 = z_sA σ s105 r94 (upd (z_A σ s105 r94) (z_I σ 840 a0).toNatClampNeg ((z_A σ s102 r94 (z_I σ 840 a0).toNatClampNeg) + ((1 : Int32)))) → z_ty σ105 a0 = some (.inl 8) ∧ (z_ty σ105 a0 = some (.inl 8) ∧ kp_Mo_fits a0 (z_A σ s45 r38 (z_I σ 840 a0).toNatClampNeg) (z_A σ s91 r84 (z_I σ 840 a0).toNatClampNeg) (z_I σ105 840 a0) σ105 (fun (r113 : Int32) (σ113 : z_S) => (r113 = 0 → X0 σ113) ∧ (¬ r113 = 0 → z_ty σ113 a0 = some (.inl 8) ∧ (z_ty σ113 a0 = some (.inl 8) ∧ ∀ σ126, σ126 = z_sI σ113 840 a0 ((z_I σ113 840 a0) + ((1 : Int32))) → z_ty σ126 a0 = some (.inl 8) ∧ ∃ r130, z_R σ126 838 a0 = some r130 ∧ (z_ty σ126 a0 = some (.inl 8) ∧ (∃ n138 s138, z_ty σ126 r130 = some (.inr (0, n138, s138)) ∧ vp_in (z_I σ126 840 a0) n138 ∧ ∀ σ138, σ138 = z_sA σ126 s138 r130 (upd (z_A σ126 s138 r130) (z_I σ126 840 a0).toNatClampNeg ((0 : Int32))) → X0 σ138))))))))))))) ∧ ((z_A σ s55 r48 (z_I σ 840 a0).toNatClampNeg) = (z_A σ s66 r57 (z_A σ s65 r61 (z_A σ s45 r38 (z_I σ 840 a0).toNatClampNeg).toNatClampNeg).toNatClampNeg) → z_ty σ a0 = some (.inl 8) ∧ (z_ty σ a0 = some (.inl 8) ∧ ∀ σ77, σ77 = z_sI σ 840 a0 ((z_I σ 840 a0) - ((1 : Int32))) → X0 σ77))))))))))))) ∧ ((z_I σ 840 a0) = (z_I σ 841 a0) → z_ty σ a0 = some (.inl 8) ∧ (z_ty σ a0 = some (.inl 8) ∧ ∀ σ25, σ25 = z_sI σ 840 a0 ((z_I σ 840 a0) - ((1 : Int32))) → z_ty σ25 a0 = some (.inl 8) ∧ kp_Mo_holds a0 σ25 (fun (r29 : Int32) (σ29 : z_S) => (r29 = 0 → X0 σ29) ∧ (¬ r29 = 0 → Post ((1 : Int32)) σ29))))))))) → X0 σ) →
    (X0 σ)
set_option maxHeartbeats 4000000 in
set_option maxRecDepth 100000 in
theorem kc_Mo_next (l : Launch) (D : va_G) (dA : Nat → ClassId) (Z : Nat) (a0 : Nat) (σ : z_S) (Post : Int32 → z_S → Prop) : Met l km_Mo_next ks_Mo_next kr_Mo_next (va_Pc [.ref a0] (fun U => z_U D z_cl z_KT dA Z (z_tys dA) z_nw σ U ∧ kp_Mo_next  a0 σ Post)) (z_Qi D z_cl z_KT dA Z (z_tys dA) z_nw Post) 0 0 (fun q => Z ≤ q) := by
  refine Met.ofW (cc := prog_10_method_32_code) (maxL := 3) (ret := (some .boolean)) (by decide) rfl ?_
  intro p e s m args below meth c s₁ B hml hv
  obtain ⟨rfl, ⟨hZ, hG, hK, hN⟩, hw⟩ := hv
  have hx := B.exec
  have hb := B.bytes
  have hr := B.returns
  have hts := atoms_spec (ws := ks_Mo_next) B.pre
  have hown : s.vm.findClass kR_Mo = some m.cls := findClass_of_methodNamed B.named
  have hlocks := B.notSynchronized
  have hS : va_S (fun q => Z ≤ q) s.heap s.heap [] := va_S.rf
  have hl := lv_entry ([.ref a0]) (n := 3) (Nat.le_of_ble_eq_true rfl)
  rw [lg_entry_eq]
  generalize (lg_sl ([.ref a0]) ++ List.replicate (3 - (lg_sl ([.ref a0])).length) Slot.unset).toArray = ls at hl ⊢
  have hl : lv_has ls 3 [(0, .ref a0)] := hl
  unfold kp_Mo_next at hw
  have hw := hw (fun (σ : z_S) => ∀ (H : Heap) (locs : List Loc) (ls : Array Slot), z_G D z_cl z_KT dA Z σ H → va_S (fun q => Z ≤ q) s.heap H locs → lv_has ls 3 [(0, .ref a0)] → W p l e (headSpec ks_Mo_next kr_Mo_next).room s m ([.ref a0] : List Value).toArray below meth c H locs 0 0 (MQ below (z_Qi D z_cl z_KT dA Z (z_tys dA) z_nw Post) ([.ref a0] : List Value).toArray s 0 0 (fun q => Z ≤ q)) (F0 m 0 ls []))
  have hw := hw (by
    intro σ hw H locs ls hG hS hl
    refine lv_aload_n hx hb kb_Mo_next_0 rfl (lv_at hl 0 rfl) ?_
    obtain ⟨hy, hw⟩ := hw
    refine zr_getI (ci := 8) (f := 840) hx hb hts ki_Mo hown hK hG hy rfl 40 (by decide) (hts _ (List.mem_cons_of_mem _ kw_624)) (fun _ h => h) rfl rfl kb_Mo_next_1 ?_
    refine lv_if_lt (tgt := 142) hx hb kb_Mo_next_4 (by decide) (fun hc => ?_) (fun hc => ?_)
    · have hw := hw.1 hc
      refine lv_iconst (v := (0 : Int32)) hx hb kb_Mo_next_142 (by decide) ?_
      exact zr_iret (free := fun q => Z ≤ q) z_nwN hx hb hr rfl hZ hK hN hG hS hw kb_Mo_next_143 hlocks
    · have hw := hw.2 hc
      refine lv_aload_n hx hb kb_Mo_next_7 rfl (lv_at hl 0 rfl) ?_
      obtain ⟨hy, hw⟩ := hw
      refine zr_getI (ci := 8) (f := 840) hx hb hts ki_Mo hown hK hG hy rfl 40 (by decide) (hts _ (List.mem_cons_of_mem _ kw_624)) (fun _ h => h) rfl rfl kb_Mo_next_8 ?_
      refine lv_aload_n hx hb kb_Mo_next_11 rfl (lv_at hl 0 rfl) ?_
      obtain ⟨hy, hw⟩ := hw
      refine zr_getI (ci := 8) (f := 841) hx hb hts ki_Mo hown hK hG hy rfl 41 (by decide) (hts _ (List.mem_cons_of_mem _ kw_625)) (fun _ h => h) rfl rfl kb_Mo_next_12 ?_
      refine lv_icmp_ne (tgt := 37) hx hb kb_Mo_next_15 (by decide) (fun hc => ?_) (fun hc => ?_)
      · have hw := hw.1 hc
        refine lv_aload_n hx hb kb_Mo_next_37 rfl (lv_at hl 0 rfl) ?_
        obtain ⟨hy, r38, hrf, hw⟩ := hw
        refine zr_getR (ci := 8) (f := 839) hx hb hts ki_Mo hown hK hG hy rfl 39 (by decide) (hts _ (List.mem_cons_of_mem _ kw_623)) (fun _ h => h) rfl rfl hrf kb_Mo_next_38 ?_
        refine lv_aload_n hx hb kb_Mo_next_41 rfl (lv_at hl 0 rfl) ?_
        obtain ⟨hy, hw⟩ := hw
        refine zr_getI (ci := 8) (f := 840) hx hb hts ki_Mo hown hK hG hy rfl 40 (by decide) (hts _ (List.mem_cons_of_mem _ kw_624)) (fun _ h => h) rfl rfl kb_Mo_next_42 ?_
        obtain ⟨n45, s45, hy, hi, hw⟩ := hw
        refine zr_iald hx hb hK hG 0 hy rfl hi kb_Mo_next_45 ?_
        refine lv_istore_n (lv' := [(1, .int (z_A σ s45 r38 (z_I σ 840 a0).toNatClampNeg)), (0, .ref a0)]) hx hb kb_Mo_next_46 rfl hl (by decide) rfl (fun ls hl => ?_)
        refine lv_aload_n hx hb kb_Mo_next_47 rfl (lv_at hl 1 rfl) ?_
        obtain ⟨hy, r48, hrf, hw⟩ := hw
        refine zr_getR (ci := 8) (f := 838) hx hb hts ki_Mo hown hK hG hy rfl 38 (by decide) (hts _ (List.mem_cons_of_mem _ kw_622)) (fun _ h => h) rfl rfl hrf kb_Mo_next_48 ?_
        refine lv_aload_n hx hb kb_Mo_next_51 rfl (lv_at hl 1 rfl) ?_
        obtain ⟨hy, hw⟩ := hw
        refine zr_getI (ci := 8) (f := 840) hx hb hts ki_Mo hown hK hG hy rfl 40 (by decide) (hts _ (List.mem_cons_of_mem _ kw_624)) (fun _ h => h) rfl rfl kb_Mo_next_52 ?_
        obtain ⟨n55, s55, hy, hi, hw⟩ := hw
        refine zr_iald hx hb hK hG 0 hy rfl hi kb_Mo_next_55 ?_
        refine lv_aload_n hx hb kb_Mo_next_56 rfl (lv_at hl 1 rfl) ?_
        obtain ⟨hy, r57, hrf, hw⟩ := hw
        refine zr_getR (ci := 8) (f := 826) hx hb hts ki_Mo hown hK hG hy rfl 26 (by decide) (hts _ (List.mem_cons_of_mem _ kw_610)) (fun _ h => h) rfl rfl hrf kb_Mo_next_57 ?_
        refine lv_aload_n hx hb kb_Mo_next_60 rfl (lv_at hl 1 rfl) ?_
        obtain ⟨hy, r61, hrf, hw⟩ := hw
        refine zr_getR (ci := 8) (f := 813) hx hb hts ki_Mo hown hK hG hy rfl 13 (by decide) (hts _ (List.mem_cons_of_mem _ kw_597)) (fun _ h => h) rfl rfl hrf kb_Mo_next_61 ?_
        refine lv_iload_n hx hb kb_Mo_next_64 rfl (lv_at hl 0 rfl) ?_
        obtain ⟨n65, s65, hy, hi, hw⟩ := hw
        refine zr_iald hx hb hK hG 0 hy rfl hi kb_Mo_next_65 ?_
        obtain ⟨n66, s66, hy, hi, hw⟩ := hw
        refine zr_iald hx hb hK hG 0 hy rfl hi kb_Mo_next_66 ?_
        refine lv_icmp_ne (tgt := 83) hx hb kb_Mo_next_67 (by decide) (fun hc => ?_) (fun hc => ?_)
        · have hw := hw.1 hc
          refine lv_aload_n hx hb kb_Mo_next_83 rfl (lv_at hl 1 rfl) ?_
          obtain ⟨hy, r84, hrf, hw⟩ := hw
          refine zr_getR (ci := 8) (f := 838) hx hb hts ki_Mo hown hK hG hy rfl 38 (by decide) (hts _ (List.mem_cons_of_mem _ kw_622)) (fun _ h => h) rfl rfl hrf kb_Mo_next_84 ?_
          refine lv_aload_n hx hb kb_Mo_next_87 rfl (lv_at hl 1 rfl) ?_
          obtain ⟨hy, hw⟩ := hw
          refine zr_getI (ci := 8) (f := 840) hx hb hts ki_Mo hown hK hG hy rfl 40 (by decide) (hts _ (List.mem_cons_of_mem _ kw_624)) (fun _ h => h) rfl rfl kb_Mo_next_88 ?_
          obtain ⟨n91, s91, hy, hi, hw⟩ := hw
          refine zr_iald hx hb hK hG 0 hy rfl hi kb_Mo_next_91 ?_
          refine lv_istore_n (lv' := [(2, .int (z_A σ s91 r84 (z_I σ 840 a0).toNatClampNeg)), (1, .int (z_A σ s45 r38 (z_I σ 840 a0).toNatClampNeg)), (0, .ref a0)]) hx hb kb_Mo_next_92 rfl hl (by decide) rfl (fun ls hl => ?_)
          refine lv_aload_n hx hb kb_Mo_next_93 rfl (lv_at hl 2 rfl) ?_
          obtain ⟨hy, r94, hrf, hw⟩ := hw
          refine zr_getR (ci := 8) (f := 838) hx hb hts ki_Mo hown hK hG hy rfl 38 (by decide) (hts _ (List.mem_cons_of_mem _ kw_622)) (fun _ h => h) rfl rfl hrf kb_Mo_next_94 ?_
          refine lv_aload_n hx hb kb_Mo_next_97 rfl (lv_at hl 2 rfl) ?_
          obtain ⟨hy, hw⟩ := hw
          refine zr_getI (ci := 8) (f := 840) hx hb hts ki_Mo hown hK hG hy rfl 40 (by decide) (hts _ (List.mem_cons_of_mem _ kw_624)) (fun _ h => h) rfl rfl kb_Mo_next_98 ?_
          refine lv_dup2_11 hx hb kb_Mo_next_101 rfl rfl ?_
          obtain ⟨n102, s102, hy, hi, hw⟩ := hw
          refine zr_iald hx hb hK hG 0 hy rfl hi kb_Mo_next_102 ?_
          refine lv_iconst (v := (1 : Int32)) hx hb kb_Mo_next_103 (by decide) ?_
          refine lv_iadd hx hb kb_Mo_next_104 ?_
          obtain ⟨n105, s105, hy, hi, hw⟩ := hw
          refine zr_iast hx hb hK hG hS 0 hy rfl hi kb_Mo_next_105 (fun H locs hG hS => ?_)
          obtain ⟨σ105, e105⟩ : ∃ z, z = z_sA σ s105 r94 (upd (z_A σ s105 r94) (z_I σ 840 a0).toNatClampNeg ((z_A σ s102 r94 (z_I σ 840 a0).toNatClampNeg) + ((1 : Int32)))) := ⟨_, rfl⟩
          rw [← e105] at hG
          have hw := hw _ e105
          refine lv_aload_n hx hb kb_Mo_next_106 rfl (lv_at hl 2 rfl) ?_
          refine lv_iload_n hx hb kb_Mo_next_107 rfl (lv_at hl 1 rfl) ?_
          refine lv_iload_n hx hb kb_Mo_next_108 rfl (lv_at hl 0 rfl) ?_
          refine lv_aload_n hx hb kb_Mo_next_109 rfl (lv_at hl 2 rfl) ?_
          obtain ⟨hy, hw⟩ := hw
          refine zr_getI (ci := 8) (f := 840) hx hb hts ki_Mo hown hK hG hy rfl 40 (by decide) (hts _ (List.mem_cons_of_mem _ kw_624)) (fun _ h => h) rfl rfl kb_Mo_next_110 ?_
          obtain ⟨hy, hw⟩ := hw
          refine zr_ci (va_runV (C := kR_Mo) (As := [.int (z_A σ s45 r38 (z_I σ 840 a0).toNatClampNeg), .int (z_A σ s91 r84 (z_I σ 840 a0).toNatClampNeg), .int (z_I σ105 840 a0)]) (rest := []) ⟨hx, hb, hml, hown, hts⟩ (kc_Mo_fits l D dA Z a0 (z_A σ s45 r38 (z_I σ 840 a0).toNatClampNeg) (z_A σ s91 r84 (z_I σ 840 a0).toNatClampNeg) (z_I σ105 840 a0) σ105 _) ⟨callB_of 3 hts (z_gw kw_793) rfl rfl rfl (hts _ (List.mem_cons_of_mem _ kw_9)) (hts _ (List.mem_cons_of_mem _ kw_791)) (by decide +kernel) ⟨Nat.le_of_ble_eq_true rfl, Nat.le_of_ble_eq_true rfl⟩, (hts _ (List.mem_cons_of_mem _ kw_792)), (hts _ (List.mem_cons_of_mem _ kw_978))⟩ (z_preV z_nwN (Nat.le_trans hZ hS.1) hG hK hN hy (ci := 8) (r := (kR_Mo, kT_Mo, 51)) rfl hw) rfl rfl hl.1 rfl (lv_room (Nat.le_of_ble_eq_true rfl)) kb_Mo_next_113 ⟨Nat.le_of_ble_eq_true rfl, Nat.le_of_ble_eq_true rfl⟩) hS (fun r113 σ113 H locs hw hG hS => ?_)
          refine lv_if_eq (tgt := 139) hx hb kb_Mo_next_116 (by decide) (fun hc => ?_) (fun hc => ?_)
          · have hw := hw.1 hc
            refine lv_goto (tgt := 0) hx hb kb_Mo_next_139 (by decide) ?_
            exact hw _ _ _ hG hS (lv_sub hl [2] rfl)
          · have hw := hw.2 hc
            refine lv_aload_n hx hb kb_Mo_next_119 rfl (lv_at hl 2 rfl) ?_
            refine lv_dup hx hb kb_Mo_next_120 rfl ?_
            obtain ⟨hy, hw⟩ := hw
            refine zr_getI (ci := 8) (f := 840) hx hb hts ki_Mo hown hK hG hy rfl 40 (by decide) (hts _ (List.mem_cons_of_mem _ kw_624)) (fun _ h => h) rfl rfl kb_Mo_next_121 ?_
            refine lv_iconst (v := (1 : Int32)) hx hb kb_Mo_next_124 (by decide) ?_
            refine lv_iadd hx hb kb_Mo_next_125 ?_
            obtain ⟨hy, hw⟩ := hw
            refine zr_putI (ci := 8) (f := 840) hx hb hts ki_Mo ky_Mo kyo_Mo kn_Mo hown hK hG hS hy rfl 40 (by decide) (hts _ (List.mem_cons_of_mem _ kw_624)) (fun _ h => h) rfl rfl rfl rfl rfl kb_Mo_next_126 (fun H locs hG hS => ?_)
            obtain ⟨σ126, e126⟩ : ∃ z, z = z_sI σ113 840 a0 ((z_I σ113 840 a0) + ((1 : Int32))) := ⟨_, rfl⟩
            rw [← e126] at hG
            have hw := hw _ e126
            refine lv_aload_n hx hb kb_Mo_next_129 rfl (lv_at hl 2 rfl) ?_
            obtain ⟨hy, r130, hrf, hw⟩ := hw
            refine zr_getR (ci := 8) (f := 838) hx hb hts ki_Mo hown hK hG hy rfl 38 (by decide) (hts _ (List.mem_cons_of_mem _ kw_622)) (fun _ h => h) rfl rfl hrf kb_Mo_next_130 ?_
            refine lv_aload_n hx hb kb_Mo_next_133 rfl (lv_at hl 2 rfl) ?_
            obtain ⟨hy, hw⟩ := hw
            refine zr_getI (ci := 8) (f := 840) hx hb hts ki_Mo hown hK hG hy rfl 40 (by decide) (hts _ (List.mem_cons_of_mem _ kw_624)) (fun _ h => h) rfl rfl kb_Mo_next_134 ?_
            refine lv_iconst (v := (0 : Int32)) hx hb kb_Mo_next_137 (by decide) ?_
            obtain ⟨n138, s138, hy, hi, hw⟩ := hw
            refine zr_iast hx hb hK hG hS 0 hy rfl hi kb_Mo_next_138 (fun H locs hG hS => ?_)
            obtain ⟨σ138, e138⟩ : ∃ z, z = z_sA σ126 s138 r130 (upd (z_A σ126 s138 r130) (z_I σ126 840 a0).toNatClampNeg ((0 : Int32))) := ⟨_, rfl⟩
            rw [← e138] at hG
            have hw := hw _ e138
            refine lv_goto (tgt := 0) hx hb kb_Mo_next_139 (by decide) ?_
            exact hw _ _ _ hG hS (lv_sub hl [2] rfl)
        · have hw := hw.2 hc
          refine lv_aload_n hx hb kb_Mo_next_70 rfl (lv_at hl 1 rfl) ?_
          refine lv_dup hx hb kb_Mo_next_71 rfl ?_
          obtain ⟨hy, hw⟩ := hw
          refine zr_getI (ci := 8) (f := 840) hx hb hts ki_Mo hown hK hG hy rfl 40 (by decide) (hts _ (List.mem_cons_of_mem _ kw_624)) (fun _ h => h) rfl rfl kb_Mo_next_72 ?_
          refine lv_iconst (v := (1 : Int32)) hx hb kb_Mo_next_75 (by decide) ?_
          refine lv_isub hx hb kb_Mo_next_76 ?_
          obtain ⟨hy, hw⟩ := hw
          refine zr_putI (ci := 8) (f := 840) hx hb hts ki_Mo ky_Mo kyo_Mo kn_Mo hown hK hG hS hy rfl 40 (by decide) (hts _ (List.mem_cons_of_mem _ kw_624)) (fun _ h => h) rfl rfl rfl rfl rfl kb_Mo_next_77 (fun H locs hG hS => ?_)
          obtain ⟨σ77, e77⟩ : ∃ z, z = z_sI σ 840 a0 ((z_I σ 840 a0) - ((1 : Int32))) := ⟨_, rfl⟩
          rw [← e77] at hG
          have hw := hw _ e77
          refine lv_goto (tgt := 139) hx hb kb_Mo_next_80 (by decide) ?_
          refine lv_goto (tgt := 0) hx hb kb_Mo_next_139 (by decide) ?_
          exact hw _ _ _ hG hS (lv_sub hl [1] rfl)
      · have hw := hw.2 hc
        refine lv_aload_n hx hb kb_Mo_next_18 rfl (lv_at hl 0 rfl) ?_
        refine lv_dup hx hb kb_Mo_next_19 rfl ?_
        obtain ⟨hy, hw⟩ := hw
        refine zr_getI (ci := 8) (f := 840) hx hb hts ki_Mo hown hK hG hy rfl 40 (by decide) (hts _ (List.mem_cons_of_mem _ kw_624)) (fun _ h => h) rfl rfl kb_Mo_next_20 ?_
        refine lv_iconst (v := (1 : Int32)) hx hb kb_Mo_next_23 (by decide) ?_
        refine lv_isub hx hb kb_Mo_next_24 ?_
        obtain ⟨hy, hw⟩ := hw
        refine zr_putI (ci := 8) (f := 840) hx hb hts ki_Mo ky_Mo kyo_Mo kn_Mo hown hK hG hS hy rfl 40 (by decide) (hts _ (List.mem_cons_of_mem _ kw_624)) (fun _ h => h) rfl rfl rfl rfl rfl kb_Mo_next_25 (fun H locs hG hS => ?_)
        obtain ⟨σ25, e25⟩ : ∃ z, z = z_sI σ 840 a0 ((z_I σ 840 a0) - ((1 : Int32))) := ⟨_, rfl⟩
        rw [← e25] at hG
        have hw := hw _ e25
        refine lv_aload_n hx hb kb_Mo_next_28 rfl (lv_at hl 0 rfl) ?_
        obtain ⟨hy, hw⟩ := hw
        refine zr_ci (va_runV (C := kR_Mo) (As := []) (rest := []) ⟨hx, hb, hml, hown, hts⟩ (kc_Mo_holds l D dA Z a0 σ25 _) ⟨callB_of 0 hts (z_gw kw_778) rfl rfl rfl (hts _ (List.mem_cons_of_mem _ kw_9)) (hts _ (List.mem_cons_of_mem _ kw_776)) (by decide +kernel) ⟨Nat.le_of_ble_eq_true rfl, Nat.le_of_ble_eq_true rfl⟩, (hts _ (List.mem_cons_of_mem _ kw_777)), (hts _ (List.mem_cons_of_mem _ kw_973))⟩ (z_preV z_nwN (Nat.le_trans hZ hS.1) hG hK hN hy (ci := 8) (r := (kR_Mo, kT_Mo, 51)) rfl hw) rfl rfl hl.1 rfl (lv_room (Nat.le_of_ble_eq_true rfl)) kb_Mo_next_29 ⟨Nat.le_of_ble_eq_true rfl, Nat.le_of_ble_eq_true rfl⟩) hS (fun r29 σ29 H locs hw hG hS => ?_)
        refine lv_if_eq (tgt := 0) hx hb kb_Mo_next_32 (by decide) (fun hc => ?_) (fun hc => ?_)
        · have hw := hw.1 hc
          exact hw _ _ _ hG hS (lv_sub hl [0] rfl)
        · have hw := hw.2 hc
          refine lv_iconst (v := (1 : Int32)) hx hb kb_Mo_next_35 (by decide) ?_
          exact zr_iret (free := fun q => Z ≤ q) z_nwN hx hb hr rfl hZ hK hN hG hS hw kb_Mo_next_36 hlocks)
  exact hw _ _ _ hG hS (lv_sub hl [0] rfl)
def kp_Mo_headValue (a0 : Nat) (x1 : Int32) (σ : z_S) (Post : Int32 → z_S → Prop) : Prop :=     (z_ty σ a0 = some (.inl 8) ∧ ∃ r1, z_R σ 810 a0 = some r1 ∧ (z_ty σ a0 = some (.inl 8) ∧ (∃ n12 s12, z_ty σ r1 = some (.inr (0, n12, s12)) ∧ vp_in ((((3 : Int32)) * (z_I σ 842 a0)) + x1) n12 ∧ ((¬ (z_A σ s12 r1 ((((3 : Int32)) * (z_I σ 842 a0)) + x1).toNatClampNeg) = ((99 : Int32)) → z_ty σ a0 = some (.inl 8) ∧ (z_ty σ a0 = some (.inl 8) ∧ kp_Mo_valueOf a0 (z_A σ s12 r1 ((((3 : Int32)) * (z_I σ 842 a0)) + x1).toNatClampNeg) (z_I σ 841 a0) σ (fun (r30 : Int32) (σ30 : z_S) => Post r30 σ30))) ∧ ((z_A σ s12 r1 ((((3 : Int32)) * (z_I σ 842 a0)) + x1).toNatClampNeg) = ((99 : Int32)) → Post ((0 : Int32)) σ)))))
set_option maxHeartbeats 4000000 in
set_option maxRecDepth 100000 in
theorem kc_Mo_headValue (l : Launch) (D : va_G) (dA : Nat → ClassId) (Z : Nat) (a0 : Nat) (x1 : Int32) (σ : z_S) (Post : Int32 → z_S → Prop) : Met l km_Mo_headValue ks_Mo_headValue kr_Mo_headValue (va_Pc [.ref a0, .int x1] (fun U => z_U D z_cl z_KT dA Z (z_tys dA) z_nw σ U ∧ kp_Mo_headValue  a0 x1 σ Post)) (z_Qi D z_cl z_KT dA Z (z_tys dA) z_nw Post) 0 0 (fun q => Z ≤ q) := by
  refine Met.ofW (cc := prog_10_method_33_code) (maxL := 3) (ret := (some .int)) (by decide) rfl ?_
  intro p e s m args below meth c s₁ B hml hv
  obtain ⟨rfl, ⟨hZ, hG, hK, hN⟩, hw⟩ := hv
  have hx := B.exec
  have hb := B.bytes
  have hr := B.returns
  have hts := atoms_spec (ws := ks_Mo_headValue) B.pre
  have hown : s.vm.findClass kR_Mo = some m.cls := findClass_of_methodNamed B.named
  have hlocks := B.notSynchronized
  have hS : va_S (fun q => Z ≤ q) s.heap s.heap [] := va_S.rf
  have hl := lv_entry ([.ref a0, .int x1]) (n := 3) (Nat.le_of_ble_eq_true rfl)
  rw [lg_entry_eq]
  generalize (lg_sl ([.ref a0, .int x1]) ++ List.replicate (3 - (lg_sl ([.ref a0, .int x1])).length) Slot.unset).toArray = ls at hl ⊢
  have hl : lv_has ls 3 [(0, .ref a0), (1, .int x1)] := hl
  unfold kp_Mo_headValue at hw
  refine lv_aload_n hx hb kb_Mo_headValue_0 rfl (lv_at hl 0 rfl) ?_
  obtain ⟨hy, r1, hrf, hw⟩ := hw
  refine zr_getR (ci := 8) (f := 810) hx hb hts ki_Mo hown hK hG hy rfl 10 (by decide) (hts _ (List.mem_cons_of_mem _ kw_594)) (fun _ h => h) rfl rfl hrf kb_Mo_headValue_1 ?_
  refine lv_iconst (v := (3 : Int32)) hx hb kb_Mo_headValue_4 (by decide) ?_
  refine lv_aload_n hx hb kb_Mo_headValue_5 rfl (lv_at hl 0 rfl) ?_
  obtain ⟨hy, hw⟩ := hw
  refine zr_getI (ci := 8) (f := 842) hx hb hts ki_Mo hown hK hG hy rfl 42 (by decide) (hts _ (List.mem_cons_of_mem _ kw_626)) (fun _ h => h) rfl rfl kb_Mo_headValue_6 ?_
  refine lv_imul hx hb kb_Mo_headValue_9 ?_
  refine lv_iload_n hx hb kb_Mo_headValue_10 rfl (lv_at hl 1 rfl) ?_
  refine lv_iadd hx hb kb_Mo_headValue_11 ?_
  obtain ⟨n12, s12, hy, hi, hw⟩ := hw
  refine zr_iald hx hb hK hG 0 hy rfl hi kb_Mo_headValue_12 ?_
  refine lv_istore_n (lv' := [(2, .int (z_A σ s12 r1 ((((3 : Int32)) * (z_I σ 842 a0)) + x1).toNatClampNeg)), (0, .ref a0), (1, .int x1)]) hx hb kb_Mo_headValue_13 rfl hl (by decide) rfl (fun ls hl => ?_)
  refine lv_iload_n hx hb kb_Mo_headValue_14 rfl (lv_at hl 0 rfl) ?_
  refine lv_bipush (v := (99 : Int32)) hx hb kb_Mo_headValue_15 (by decide) ?_
  refine lv_icmp_ne (tgt := 24) hx hb kb_Mo_headValue_17 (by decide) (fun hc => ?_) (fun hc => ?_)
  · have hw := hw.1 hc
    refine lv_aload_n hx hb kb_Mo_headValue_24 rfl (lv_at hl 1 rfl) ?_
    refine lv_iload_n hx hb kb_Mo_headValue_25 rfl (lv_at hl 0 rfl) ?_
    refine lv_aload_n hx hb kb_Mo_headValue_26 rfl (lv_at hl 1 rfl) ?_
    obtain ⟨hy, hw⟩ := hw
    refine zr_getI (ci := 8) (f := 841) hx hb hts ki_Mo hown hK hG hy rfl 41 (by decide) (hts _ (List.mem_cons_of_mem _ kw_625)) (fun _ h => h) rfl rfl kb_Mo_headValue_27 ?_
    obtain ⟨hy, hw⟩ := hw
    refine zr_ci (va_runV (C := kR_Mo) (As := [.int (z_A σ s12 r1 ((((3 : Int32)) * (z_I σ 842 a0)) + x1).toNatClampNeg), .int (z_I σ 841 a0)]) (rest := []) ⟨hx, hb, hml, hown, hts⟩ (kc_Mo_valueOf l D dA Z a0 (z_A σ s12 r1 ((((3 : Int32)) * (z_I σ 842 a0)) + x1).toNatClampNeg) (z_I σ 841 a0) σ _) ⟨callB_of 2 hts (z_gw kw_781) rfl rfl rfl (hts _ (List.mem_cons_of_mem _ kw_9)) (hts _ (List.mem_cons_of_mem _ kw_779)) (by decide +kernel) ⟨Nat.le_of_ble_eq_true rfl, Nat.le_of_ble_eq_true rfl⟩, (hts _ (List.mem_cons_of_mem _ kw_780)), (hts _ (List.mem_cons_of_mem _ kw_974))⟩ (z_preV z_nwN (Nat.le_trans hZ hS.1) hG hK hN hy (ci := 8) (r := (kR_Mo, kT_Mo, 51)) rfl hw) rfl rfl hl.1 rfl (lv_room (Nat.le_of_ble_eq_true rfl)) kb_Mo_headValue_30 ⟨Nat.le_of_ble_eq_true rfl, Nat.le_of_ble_eq_true rfl⟩) hS (fun r30 σ30 H locs hw hG hS => ?_)
    exact zr_iret (free := fun q => Z ≤ q) z_nwN hx hb hr rfl hZ hK hN hG hS hw kb_Mo_headValue_33 hlocks
  · have hw := hw.2 hc
    refine lv_iconst (v := (0 : Int32)) hx hb kb_Mo_headValue_20 (by decide) ?_
    refine lv_goto (tgt := 33) hx hb kb_Mo_headValue_21 (by decide) ?_
    exact zr_iret (free := fun q => Z ≤ q) z_nwN hx hb hr rfl hZ hK hN hG hS hw kb_Mo_headValue_33 hlocks
def kp_Mo_markOf (a0 : Nat) (x1 : Int32) (σ : z_S) (Post : Int32 → z_S → Prop) : Prop := ∀ (X4 : Int32 → Int32 → z_S → Prop),
    (∀ (v2 : Int32) (v3 : Int32) (σ : z_S), ((((3 : Int32)) ≤ v3 → Post v2 σ) ∧ (¬ ((3 : Int32)) ≤ v3 → z_ty σ a0 = some (.inl 8) ∧ ∃ r10, z_R σ 810 a0 = some r10 ∧ (∃ n18 s18, z_ty σ r10 = some (.inr (0, n18, s18)) ∧ vp_in ((((3 : Int32)) * x1) + v3) n18 ∧ ((¬ (z_A σ s18 r10 ((((3 : Int32)) * x1) + v3).toNatClampNeg) = ((99 : Int32)) → X4 v2 (v3 + (1 : Int32)) σ) ∧ ((z_A σ s18 r10 ((((3 : Int32)) * x1) + v3).toNatClampNeg) = ((99 : Int32)) → X4 v3 (v3 + (1 : Int32)) σ))))) → X4 v2 v3 σ) →
    (X4 ((-1 : Int32)) ((0 : Int32)) σ)
set_option maxHeartbeats 4000000 in
set_option maxRecDepth 100000 in
theorem kc_Mo_markOf (l : Launch) (D : va_G) (dA : Nat → ClassId) (Z : Nat) (a0 : Nat) (x1 : Int32) (σ : z_S) (Post : Int32 → z_S → Prop) : Met l km_Mo_markOf ks_Mo_markOf kr_Mo_markOf (va_Pc [.ref a0, .int x1] (fun U => z_U D z_cl z_KT dA Z (z_tys dA) z_nw σ U ∧ kp_Mo_markOf  a0 x1 σ Post)) (z_Qi D z_cl z_KT dA Z (z_tys dA) z_nw Post) 0 0 (fun q => Z ≤ q) := by
  refine Met.ofW (cc := prog_10_method_34_code) (maxL := 4) (ret := (some .int)) (by decide) rfl ?_
  intro p e s m args below meth c s₁ B hml hv
  obtain ⟨rfl, ⟨hZ, hG, hK, hN⟩, hw⟩ := hv
  have hx := B.exec
  have hb := B.bytes
  have hr := B.returns
  have hts := atoms_spec (ws := ks_Mo_markOf) B.pre
  have hown : s.vm.findClass kR_Mo = some m.cls := findClass_of_methodNamed B.named
  have hlocks := B.notSynchronized
  have hS : va_S (fun q => Z ≤ q) s.heap s.heap [] := va_S.rf
  have hl := lv_entry ([.ref a0, .int x1]) (n := 4) (Nat.le_of_ble_eq_true rfl)
  rw [lg_entry_eq]
  generalize (lg_sl ([.ref a0, .int x1]) ++ List.replicate (4 - (lg_sl ([.ref a0, .int x1])).length) Slot.unset).toArray = ls at hl ⊢
  have hl : lv_has ls 4 [(0, .ref a0), (1, .int x1)] := hl
  unfold kp_Mo_markOf at hw
  have hw := hw (fun (v2 : Int32) (v3 : Int32) (σ : z_S) => ∀ (H : Heap) (locs : List Loc) (ls : Array Slot), z_G D z_cl z_KT dA Z σ H → va_S (fun q => Z ≤ q) s.heap H locs → lv_has ls 4 [(0, .ref a0), (1, .int x1), (2, .int v2), (3, .int v3)] → W p l e (headSpec ks_Mo_markOf kr_Mo_markOf).room s m ([.ref a0, .int x1] : List Value).toArray below meth c H locs 0 0 (MQ below (z_Qi D z_cl z_KT dA Z (z_tys dA) z_nw Post) ([.ref a0, .int x1] : List Value).toArray s 0 0 (fun q => Z ≤ q)) (F0 m 4 ls []))
  have hw := hw (by
    intro v2 v3 σ hw H locs ls hG hS hl
    refine lv_iload_n hx hb kb_Mo_markOf_4 rfl (lv_at hl 3 rfl) ?_
    refine lv_iconst (v := (3 : Int32)) hx hb kb_Mo_markOf_5 (by decide) ?_
    refine lv_icmp_ge (tgt := 36) hx hb kb_Mo_markOf_6 (by decide) (fun hc => ?_) (fun hc => ?_)
    · have hw := hw.1 hc
      refine lv_iload_n hx hb kb_Mo_markOf_36 rfl (lv_at hl 2 rfl) ?_
      exact zr_iret (free := fun q => Z ≤ q) z_nwN hx hb hr rfl hZ hK hN hG hS hw kb_Mo_markOf_37 hlocks
    · have hw := hw.2 hc
      refine lv_aload_n hx hb kb_Mo_markOf_9 rfl (lv_at hl 0 rfl) ?_
      obtain ⟨hy, r10, hrf, hw⟩ := hw
      refine zr_getR (ci := 8) (f := 810) hx hb hts ki_Mo hown hK hG hy rfl 10 (by decide) (hts _ (List.mem_cons_of_mem _ kw_594)) (fun _ h => h) rfl rfl hrf kb_Mo_markOf_10 ?_
      refine lv_iconst (v := (3 : Int32)) hx hb kb_Mo_markOf_13 (by decide) ?_
      refine lv_iload_n hx hb kb_Mo_markOf_14 rfl (lv_at hl 1 rfl) ?_
      refine lv_imul hx hb kb_Mo_markOf_15 ?_
      refine lv_iload_n hx hb kb_Mo_markOf_16 rfl (lv_at hl 3 rfl) ?_
      refine lv_iadd hx hb kb_Mo_markOf_17 ?_
      obtain ⟨n18, s18, hy, hi, hw⟩ := hw
      refine zr_iald hx hb hK hG 0 hy rfl hi kb_Mo_markOf_18 ?_
      refine lv_bipush (v := (99 : Int32)) hx hb kb_Mo_markOf_19 (by decide) ?_
      refine lv_icmp_ne (tgt := 28) hx hb kb_Mo_markOf_21 (by decide) (fun hc => ?_) (fun hc => ?_)
      · have hw := hw.1 hc
        refine lv_iload_n hx hb kb_Mo_markOf_28 rfl (lv_at hl 2 rfl) ?_
        refine lv_istore_n (lv' := [(2, .int v2), (0, .ref a0), (1, .int x1), (3, .int v3)]) hx hb kb_Mo_markOf_29 rfl hl (by decide) rfl (fun ls hl => ?_)
        refine lv_iinc (v := v3 + (1 : Int32)) (lv' := [(3, .int (v3 + (1 : Int32))), (2, .int v2), (0, .ref a0), (1, .int x1)]) hx hb kb_Mo_markOf_30 hl (k := 3) rfl rfl (by decide) rfl (fun ls hl => ?_)
        refine lv_goto (tgt := 4) hx hb kb_Mo_markOf_33 (by decide) ?_
        exact hw _ _ _ hG hS (lv_sub hl [2, 3, 1, 0] rfl)
      · have hw := hw.2 hc
        refine lv_iload_n hx hb kb_Mo_markOf_24 rfl (lv_at hl 3 rfl) ?_
        refine lv_goto (tgt := 29) hx hb kb_Mo_markOf_25 (by decide) ?_
        refine lv_istore_n (lv' := [(2, .int v3), (0, .ref a0), (1, .int x1), (3, .int v3)]) hx hb kb_Mo_markOf_29 rfl hl (by decide) rfl (fun ls hl => ?_)
        refine lv_iinc (v := v3 + (1 : Int32)) (lv' := [(3, .int (v3 + (1 : Int32))), (2, .int v3), (0, .ref a0), (1, .int x1)]) hx hb kb_Mo_markOf_30 hl (k := 3) rfl rfl (by decide) rfl (fun ls hl => ?_)
        refine lv_goto (tgt := 4) hx hb kb_Mo_markOf_33 (by decide) ?_
        exact hw _ _ _ hG hS (lv_sub hl [2, 3, 1, 0] rfl))
  refine lv_iconst (v := (-1 : Int32)) hx hb kb_Mo_markOf_0 (by decide) ?_
  refine lv_istore_n (lv' := [(2, .int ((-1 : Int32))), (0, .ref a0), (1, .int x1)]) hx hb kb_Mo_markOf_1 rfl hl (by decide) rfl (fun ls hl => ?_)
  refine lv_iconst (v := (0 : Int32)) hx hb kb_Mo_markOf_2 (by decide) ?_
  refine lv_istore_n (lv' := [(3, .int ((0 : Int32))), (2, .int ((-1 : Int32))), (0, .ref a0), (1, .int x1)]) hx hb kb_Mo_markOf_3 rfl hl (by decide) rfl (fun ls hl => ?_)
  exact hw _ _ _ hG hS (lv_sub hl [2, 3, 1, 0] rfl)
def kp_Mo_countRule (a0 : Nat) (x1 : Int32) (σ : z_S) (Post : Int32 → z_S → Prop) : Prop := ∀ (X16 : Int32 → z_S → Prop) (X42 : Int32 → Int32 → Int32 → Int32 → Int32 → z_S → Prop) (X159 : Int32 → Int32 → z_S → Prop) (X178 : Int32 → Int32 → Int32 → z_S → Prop) (X233 : Int32 → Int32 → Int32 → Nat → Int32 → Int32 → z_S → Prop) (X254 : Int32 → Int32 → Int32 → Nat → Int32 → Int32 → Int32 → z_S → Prop) (X265 : Int32 → Int32 → Nat → Int32 → Int32 → Int32 → Int32 → z_S → Prop),
    (∀ (v2 : Int32) (σ : z_S), (z_ty σ a0 = some (.inl 8) ∧ kp_Mo_next a0 σ (fun (r17 : Int32) (σ17 : z_S) => (r17 = 0 → X178 v2 ((1 : Int32)) ((0 : Int32)) σ17) ∧ (¬ r17 = 0 → z_ty σ17 a0 = some (.inl 8) ∧ kp_Mo_headValue a0 ((0 : Int32)) σ17 (fun (r25 : Int32) (σ25 : z_S) => z_ty σ25 a0 = some (.inl 8) ∧ kp_Mo_headValue a0 ((1 : Int32)) σ25 (fun (r31 : Int32) (σ31 : z_S) => X42 v2 r25 r31 ((-1 : Int32)) ((0 : Int32)) σ31))))) → X16 v2 σ) →
    (∀ (v2 : Int32) (v3 : Int32) (v4 : Int32) (v5 : Int32) (v6 : Int32) (σ : z_S), (z_ty σ a0 = some (.inl 8) ∧ (((z_I σ 845 a0) ≤ v6 → (¬ v5 = ((-1 : Int32)) → X159 v2 v5 σ) ∧ (v5 = ((-1 : Int32)) → z_ty σ a0 = some (.inl 8) ∧ ((¬ (z_I σ 845 a0) = ((40 : Int32)) → z_ty σ a0 = some (.inl 8) ∧ (z_ty σ a0 = some (.inl 8) ∧ ∃ r119, z_R σ 843 a0 = some r119 ∧ (∃ n127 s127, z_ty σ r119 = some (.inr (0, n127, s127)) ∧ vp_in (((3 : Int32)) * (z_I σ 845 a0)) n127 ∧ ∀ σ127, σ127 = z_sA σ s127 r119 (upd (z_A σ s127 r119) (((3 : Int32)) * (z_I σ 845 a0)).toNatClampNeg v3) → z_ty σ127 a0 = some (.inl 8) ∧ ∃ r129, z_R σ127 843 a0 = some r129 ∧ (∃ n140 s140, z_ty σ127 r129 = some (.inr (0, n140, s140)) ∧ vp_in ((((3 : Int32)) * (z_I σ 845 a0)) + ((1 : Int32))) n140 ∧ ∀ σ140, σ140 = z_sA σ127 s140 r129 (upd (z_A σ127 s140 r129) ((((3 : Int32)) * (z_I σ 845 a0)) + ((1 : Int32))).toNatClampNeg v4) → z_ty σ140 a0 = some (.inl 8) ∧ ∃ r142, z_R σ140 844 a0 = some r142 ∧ (∃ n148 s148, z_ty σ140 r142 = some (.inr (0, n148, s148)) ∧ vp_in (z_I σ 845 a0) n148 ∧ ∀ σ148, σ148 = z_sA σ140 s148 r142 (upd (z_A σ140 s148 r142) (z_I σ 845 a0).toNatClampNeg ((0 : Int32))) → z_ty σ148 a0 = some (.inl 8) ∧ (z_ty σ148 a0 = some (.inl 8) ∧ ∀ σ156, σ156 = z_sI σ148 845 a0 ((z_I σ148 845 a0) + ((1 : Int32))) → X159 v2 (z_I σ 845 a0) σ156)))))) ∧ ((z_I σ 845 a0) = ((40 : Int32)) → Post ((0 : Int32)) σ)))) ∧ (¬ (z_I σ 845 a0) ≤ v6 → z_ty σ a0 = some (.inl 8) ∧ ∃ r52, z_R σ 843 a0 = some r52 ∧ (∃ n59 s59, z_ty σ r52 = some (.inr (0, n59, s59)) ∧ vp_in (((3 : Int32)) * v6) n59 ∧ ((¬ (z_A σ s59 r52 (((3 : Int32)) * v6).toNatClampNeg) = v3 → X42 v2 v3 v4 v5 (v6 + (1 : Int32)) σ) ∧ ((z_A σ s59 r52 (((3 : Int32)) * v6).toNatClampNeg) = v3 → z_ty σ a0 = some (.inl 8) ∧ ∃ r65, z_R σ 843 a0 = some r65 ∧ (∃ n74 s74, z_ty σ r65 = some (.inr (0, n74, s74)) ∧ vp_in ((((3 : Int32)) * v6) + ((1 : Int32))) n74 ∧ ((¬ (z_A σ s74 r65 ((((3 : Int32)) * v6) + ((1 : Int32))).toNatClampNeg) = v4 → X42 v2 v3 v4 v5 (v6 + (1 : Int32)) σ) ∧ ((z_A σ s74 r65 ((((3 : Int32)) * v6) + ((1 : Int32))).toNatClampNeg) = v4 → X42 v2 v3 v4 v6 (v6 + (1 : Int32)) σ))))))))) → X42 v2 v3 v4 v5 v6 σ) →
    (∀ (v2 : Int32) (v5 : Int32) (σ : z_S), (z_ty σ a0 = some (.inl 8) ∧ ∃ r160, z_R σ 844 a0 = some r160 ∧ (∃ n166 s166, z_ty σ r160 = some (.inr (0, n166, s166)) ∧ vp_in v5 n166 ∧ (∃ n169 s169, z_ty σ r160 = some (.inr (0, n169, s169)) ∧ vp_in v5 n169 ∧ ∀ σ169, σ169 = z_sA σ s169 r160 (upd (z_A σ s169 r160) v5.toNatClampNeg ((z_A σ s166 r160 v5.toNatClampNeg) + ((1 : Int32)))) → X16 v2 σ169))) → X159 v2 v5 σ) →
    (∀ (v2 : Int32) (v3 : Int32) (v4 : Int32) (σ : z_S), (z_ty σ a0 = some (.inl 8) ∧ (((z_I σ 845 a0) ≤ v4 → (v3 = 0 ∨ v3 = 1) ∧ Post v3 σ) ∧ (¬ (z_I σ 845 a0) ≤ v4 → (v3 = 0 → (v3 = 0 ∨ v3 = 1) ∧ Post v3 σ) ∧ (¬ v3 = 0 → z_ty σ a0 = some (.inl 8) ∧ ∃ r192, z_R σ 844 a0 = some r192 ∧ (∃ n197 s197, z_ty σ r192 = some (.inr (0, n197, s197)) ∧ vp_in v4 n197 ∧ ((((999 : Int32)) < (z_A σ s197 r192 v4.toNatClampNeg) → X178 v2 ((0 : Int32)) (v4 + (1 : Int32)) σ) ∧ (¬ ((999 : Int32)) < (z_A σ s197 r192 v4.toNatClampNeg) → z_ty σ a0 = some (.inl 8) ∧ ∃ r210, z_R σ 809 a0 = some r210 ∧ (∃ n214 s214, z_ty σ r210 = some (.inr (0, n214, s214)) ∧ vp_in x1 n214 ∧ ((¬ v2 = 0 → z_ty σ a0 = some (.inl 8) ∧ ∃ r225, z_R σ 843 a0 = some r225 ∧ (∃ n232 s232, z_ty σ r225 = some (.inr (0, n232, s232)) ∧ vp_in (((3 : Int32)) * v4) n232 ∧ (X233 v2 v4 (z_A σ s197 r192 v4.toNatClampNeg) a0 (z_A σ s214 r210 x1.toNatClampNeg) (z_A σ s232 r225 (((3 : Int32)) * v4).toNatClampNeg) σ))) ∧ (v2 = 0 → X233 v2 v4 (z_A σ s197 r192 v4.toNatClampNeg) a0 (z_A σ s214 r210 x1.toNatClampNeg) (z_A σ s197 r192 v4.toNatClampNeg) σ)))))))))) → X178 v2 v3 v4 σ) →
    (∀ (v2 : Int32) (v4 : Int32) (v5 : Int32) (t0 : Nat) (t1 : Int32) (t2 : Int32) (σ : z_S), ((¬ v2 = ((1 : Int32)) → z_ty σ a0 = some (.inl 8) ∧ ∃ r244, z_R σ 843 a0 = some r244 ∧ (∃ n253 s253, z_ty σ r244 = some (.inr (0, n253, s253)) ∧ vp_in ((((3 : Int32)) * v4) + ((1 : Int32))) n253 ∧ (X254 v2 v4 v5 t0 t1 t2 (z_A σ s253 r244 ((((3 : Int32)) * v4) + ((1 : Int32))).toNatClampNeg) σ))) ∧ (v2 = ((1 : Int32)) → X254 v2 v4 v5 t0 t1 t2 v5 σ)) → X233 v2 v4 v5 t0 t1 t2 σ) →
    (∀ (v2 : Int32) (v4 : Int32) (v5 : Int32) (t0 : Nat) (t1 : Int32) (t2 : Int32) (t3 : Int32) (σ : z_S), ((¬ v2 = ((2 : Int32)) → X265 v2 v4 t0 t1 t2 t3 ((0 : Int32)) σ) ∧ (v2 = ((2 : Int32)) → X265 v2 v4 t0 t1 t2 t3 v5 σ)) → X254 v2 v4 v5 t0 t1 t2 t3 σ) →
    (∀ (v2 : Int32) (v4 : Int32) (t0 : Nat) (t1 : Int32) (t2 : Int32) (t3 : Int32) (t4 : Int32) (σ : z_S), (z_ty σ t0 = some (.inl 8) ∧ kp_Mo_insert t0 t1 t2 t3 t4 ((1 : Int32)) σ (fun (r266 : Int32) (σ266 : z_S) => (r266 = 0 → X178 v2 ((0 : Int32)) (v4 + (1 : Int32)) σ266) ∧ (¬ r266 = 0 → X178 v2 ((1 : Int32)) (v4 + (1 : Int32)) σ266))) → X265 v2 v4 t0 t1 t2 t3 t4 σ) →
    (z_ty σ a0 = some (.inl 8) ∧ kp_Mo_markOf a0 x1 σ (fun (r2 : Int32) (σ2 : z_S) => z_ty σ2 a0 = some (.inl 8) ∧ ∀ σ8, σ8 = z_sI σ2 845 a0 ((0 : Int32)) → z_ty σ8 a0 = some (.inl 8) ∧ kp_Mo_begin a0 x1 σ8 (fun (σ13 : z_S) => X16 r2 σ13)))
set_option maxHeartbeats 4000000 in
set_option maxRecDepth 100000 in
theorem kc_Mo_countRule (l : Launch) (D : va_G) (dA : Nat → ClassId) (Z : Nat) (a0 : Nat) (x1 : Int32) (σ : z_S) (Post : Int32 → z_S → Prop) : Met l km_Mo_countRule ks_Mo_countRule kr_Mo_countRule (va_Pc [.ref a0, .int x1] (fun U => z_U D z_cl z_KT dA Z (z_tys dA) z_nw σ U ∧ kp_Mo_countRule  a0 x1 σ Post)) (z_Qi D z_cl z_KT dA Z (z_tys dA) z_nw Post) 0 0 (fun q => Z ≤ q) := by
  refine Met.ofW (cc := prog_10_method_35_code) (maxL := 7) (ret := (some .boolean)) (by decide) rfl ?_
  intro p e s m args below meth c s₁ B hml hv
  obtain ⟨rfl, ⟨hZ, hG, hK, hN⟩, hw⟩ := hv
  have hx := B.exec
  have hb := B.bytes
  have hr := B.returns
  have hts := atoms_spec (ws := ks_Mo_countRule) B.pre
  have hown : s.vm.findClass kR_Mo = some m.cls := findClass_of_methodNamed B.named
  have hlocks := B.notSynchronized
  have hS : va_S (fun q => Z ≤ q) s.heap s.heap [] := va_S.rf
  have hl := lv_entry ([.ref a0, .int x1]) (n := 7) (Nat.le_of_ble_eq_true rfl)
  rw [lg_entry_eq]
  generalize (lg_sl ([.ref a0, .int x1]) ++ List.replicate (7 - (lg_sl ([.ref a0, .int x1])).length) Slot.unset).toArray = ls at hl ⊢
  have hl : lv_has ls 7 [(0, .ref a0), (1, .int x1)] := hl
  unfold kp_Mo_countRule at hw
  have hw := hw (fun (v2 : Int32) (σ : z_S) => ∀ (H : Heap) (locs : List Loc) (ls : Array Slot), z_G D z_cl z_KT dA Z σ H → va_S (fun q => Z ≤ q) s.heap H locs → lv_has ls 7 [(0, .ref a0), (1, .int x1), (2, .int v2)] → W p l e (headSpec ks_Mo_countRule kr_Mo_countRule).room s m ([.ref a0, .int x1] : List Value).toArray below meth c H locs 0 0 (MQ below (z_Qi D z_cl z_KT dA Z (z_tys dA) z_nw Post) ([.ref a0, .int x1] : List Value).toArray s 0 0 (fun q => Z ≤ q)) (F0 m 16 ls []))
  have hw := hw (fun (v2 : Int32) (v3 : Int32) (v4 : Int32) (v5 : Int32) (v6 : Int32) (σ : z_S) => ∀ (H : Heap) (locs : List Loc) (ls : Array Slot), z_G D z_cl z_KT dA Z σ H → va_S (fun q => Z ≤ q) s.heap H locs → lv_has ls 7 [(0, .ref a0), (1, .int x1), (2, .int v2), (3, .int v3), (4, .int v4), (5, .int v5), (6, .int v6)] → W p l e (headSpec ks_Mo_countRule kr_Mo_countRule).room s m ([.ref a0, .int x1] : List Value).toArray below meth c H locs 0 0 (MQ below (z_Qi D z_cl z_KT dA Z (z_tys dA) z_nw Post) ([.ref a0, .int x1] : List Value).toArray s 0 0 (fun q => Z ≤ q)) (F0 m 42 ls []))
  have hw := hw (fun (v2 : Int32) (v5 : Int32) (σ : z_S) => ∀ (H : Heap) (locs : List Loc) (ls : Array Slot), z_G D z_cl z_KT dA Z σ H → va_S (fun q => Z ≤ q) s.heap H locs → lv_has ls 7 [(0, .ref a0), (1, .int x1), (2, .int v2), (5, .int v5)] → W p l e (headSpec ks_Mo_countRule kr_Mo_countRule).room s m ([.ref a0, .int x1] : List Value).toArray below meth c H locs 0 0 (MQ below (z_Qi D z_cl z_KT dA Z (z_tys dA) z_nw Post) ([.ref a0, .int x1] : List Value).toArray s 0 0 (fun q => Z ≤ q)) (F0 m 159 ls []))
  have hw := hw (fun (v2 : Int32) (v3 : Int32) (v4 : Int32) (σ : z_S) => ∀ (H : Heap) (locs : List Loc) (ls : Array Slot), z_G D z_cl z_KT dA Z σ H → va_S (fun q => Z ≤ q) s.heap H locs → lv_has ls 7 [(0, .ref a0), (1, .int x1), (2, .int v2), (3, .int v3), (4, .int v4)] → W p l e (headSpec ks_Mo_countRule kr_Mo_countRule).room s m ([.ref a0, .int x1] : List Value).toArray below meth c H locs 0 0 (MQ below (z_Qi D z_cl z_KT dA Z (z_tys dA) z_nw Post) ([.ref a0, .int x1] : List Value).toArray s 0 0 (fun q => Z ≤ q)) (F0 m 178 ls []))
  have hw := hw (fun (v2 : Int32) (v4 : Int32) (v5 : Int32) (t0 : Nat) (t1 : Int32) (t2 : Int32) (σ : z_S) => ∀ (H : Heap) (locs : List Loc) (ls : Array Slot), z_G D z_cl z_KT dA Z σ H → va_S (fun q => Z ≤ q) s.heap H locs → lv_has ls 7 [(0, .ref a0), (1, .int x1), (2, .int v2), (4, .int v4), (5, .int v5)] → W p l e (headSpec ks_Mo_countRule kr_Mo_countRule).room s m ([.ref a0, .int x1] : List Value).toArray below meth c H locs 0 0 (MQ below (z_Qi D z_cl z_KT dA Z (z_tys dA) z_nw Post) ([.ref a0, .int x1] : List Value).toArray s 0 0 (fun q => Z ≤ q)) (F0 m 233 ls [.int t2, .int t1, .ref t0]))
  have hw := hw (fun (v2 : Int32) (v4 : Int32) (v5 : Int32) (t0 : Nat) (t1 : Int32) (t2 : Int32) (t3 : Int32) (σ : z_S) => ∀ (H : Heap) (locs : List Loc) (ls : Array Slot), z_G D z_cl z_KT dA Z σ H → va_S (fun q => Z ≤ q) s.heap H locs → lv_has ls 7 [(0, .ref a0), (1, .int x1), (2, .int v2), (4, .int v4), (5, .int v5)] → W p l e (headSpec ks_Mo_countRule kr_Mo_countRule).room s m ([.ref a0, .int x1] : List Value).toArray below meth c H locs 0 0 (MQ below (z_Qi D z_cl z_KT dA Z (z_tys dA) z_nw Post) ([.ref a0, .int x1] : List Value).toArray s 0 0 (fun q => Z ≤ q)) (F0 m 254 ls [.int t3, .int t2, .int t1, .ref t0]))
  have hw := hw (fun (v2 : Int32) (v4 : Int32) (t0 : Nat) (t1 : Int32) (t2 : Int32) (t3 : Int32) (t4 : Int32) (σ : z_S) => ∀ (H : Heap) (locs : List Loc) (ls : Array Slot), z_G D z_cl z_KT dA Z σ H → va_S (fun q => Z ≤ q) s.heap H locs → lv_has ls 7 [(0, .ref a0), (1, .int x1), (2, .int v2), (4, .int v4)] → W p l e (headSpec ks_Mo_countRule kr_Mo_countRule).room s m ([.ref a0, .int x1] : List Value).toArray below meth c H locs 0 0 (MQ below (z_Qi D z_cl z_KT dA Z (z_tys dA) z_nw Post) ([.ref a0, .int x1] : List Value).toArray s 0 0 (fun q => Z ≤ q)) (F0 m 265 ls [.int t4, .int t3, .int t2, .int t1, .ref t0]))
  have hw := hw (by
    intro v2 σ hw H locs ls hG hS hl
    refine lv_aload_n hx hb kb_Mo_countRule_16 rfl (lv_at hl 0 rfl) ?_
    obtain ⟨hy, hw⟩ := hw
    refine zr_ci (va_runV (C := kR_Mo) (As := []) (rest := []) ⟨hx, hb, hml, hown, hts⟩ (kc_Mo_next l D dA Z a0 σ _) ⟨callB_of 0 hts (z_gw kw_775) rfl rfl rfl (hts _ (List.mem_cons_of_mem _ kw_9)) (hts _ (List.mem_cons_of_mem _ kw_773)) (by decide +kernel) ⟨Nat.le_of_ble_eq_true rfl, Nat.le_of_ble_eq_true rfl⟩, (hts _ (List.mem_cons_of_mem _ kw_774)), (hts _ (List.mem_cons_of_mem _ kw_972))⟩ (z_preV z_nwN (Nat.le_trans hZ hS.1) hG hK hN hy (ci := 8) (r := (kR_Mo, kT_Mo, 51)) rfl hw) rfl rfl hl.1 rfl (lv_room (Nat.le_of_ble_eq_true rfl)) kb_Mo_countRule_17 ⟨Nat.le_of_ble_eq_true rfl, Nat.le_of_ble_eq_true rfl⟩) hS (fun r17 σ17 H locs hw hG hS => ?_)
    refine lv_if_eq (tgt := 173) hx hb kb_Mo_countRule_20 (by decide) (fun hc => ?_) (fun hc => ?_)
    · have hw := hw.1 hc
      refine lv_iconst (v := (1 : Int32)) hx hb kb_Mo_countRule_173 (by decide) ?_
      refine lv_istore_n (lv' := [(3, .int ((1 : Int32))), (0, .ref a0), (1, .int x1), (2, .int v2)]) hx hb kb_Mo_countRule_174 rfl hl (by decide) rfl (fun ls hl => ?_)
      refine lv_iconst (v := (0 : Int32)) hx hb kb_Mo_countRule_175 (by decide) ?_
      refine lv_istore (lv' := [(4, .int ((0 : Int32))), (3, .int ((1 : Int32))), (0, .ref a0), (1, .int x1), (2, .int v2)]) hx hb kb_Mo_countRule_176 hl (by decide) rfl (fun ls hl => ?_)
      exact hw _ _ _ hG hS (lv_sub hl [2, 3, 4, 1, 0] rfl)
    · have hw := hw.2 hc
      refine lv_aload_n hx hb kb_Mo_countRule_23 rfl (lv_at hl 0 rfl) ?_
      refine lv_iconst (v := (0 : Int32)) hx hb kb_Mo_countRule_24 (by decide) ?_
      obtain ⟨hy, hw⟩ := hw
      refine zr_ci (va_runV (C := kR_Mo) (As := [.int ((0 : Int32))]) (rest := []) ⟨hx, hb, hml, hown, hts⟩ (kc_Mo_headValue l D dA Z a0 ((0 : Int32)) σ17 _) ⟨callB_of 1 hts (z_gw kw_796) rfl rfl rfl (hts _ (List.mem_cons_of_mem _ kw_9)) (hts _ (List.mem_cons_of_mem _ kw_794)) (by decide +kernel) ⟨Nat.le_of_ble_eq_true rfl, Nat.le_of_ble_eq_true rfl⟩, (hts _ (List.mem_cons_of_mem _ kw_795)), (hts _ (List.mem_cons_of_mem _ kw_979))⟩ (z_preV z_nwN (Nat.le_trans hZ hS.1) hG hK hN hy (ci := 8) (r := (kR_Mo, kT_Mo, 51)) rfl hw) rfl rfl hl.1 rfl (lv_room (Nat.le_of_ble_eq_true rfl)) kb_Mo_countRule_25 ⟨Nat.le_of_ble_eq_true rfl, Nat.le_of_ble_eq_true rfl⟩) hS (fun r25 σ25 H locs hw hG hS => ?_)
      refine lv_istore_n (lv' := [(3, .int r25), (0, .ref a0), (1, .int x1), (2, .int v2)]) hx hb kb_Mo_countRule_28 rfl hl (by decide) rfl (fun ls hl => ?_)
      refine lv_aload_n hx hb kb_Mo_countRule_29 rfl (lv_at hl 1 rfl) ?_
      refine lv_iconst (v := (1 : Int32)) hx hb kb_Mo_countRule_30 (by decide) ?_
      obtain ⟨hy, hw⟩ := hw
      refine zr_ci (va_runV (C := kR_Mo) (As := [.int ((1 : Int32))]) (rest := []) ⟨hx, hb, hml, hown, hts⟩ (kc_Mo_headValue l D dA Z a0 ((1 : Int32)) σ25 _) ⟨callB_of 1 hts (z_gw kw_796) rfl rfl rfl (hts _ (List.mem_cons_of_mem _ kw_9)) (hts _ (List.mem_cons_of_mem _ kw_794)) (by decide +kernel) ⟨Nat.le_of_ble_eq_true rfl, Nat.le_of_ble_eq_true rfl⟩, (hts _ (List.mem_cons_of_mem _ kw_795)), (hts _ (List.mem_cons_of_mem _ kw_979))⟩ (z_preV z_nwN (Nat.le_trans hZ hS.1) hG hK hN hy (ci := 8) (r := (kR_Mo, kT_Mo, 51)) rfl hw) rfl rfl hl.1 rfl (lv_room (Nat.le_of_ble_eq_true rfl)) kb_Mo_countRule_31 ⟨Nat.le_of_ble_eq_true rfl, Nat.le_of_ble_eq_true rfl⟩) hS (fun r31 σ31 H locs hw hG hS => ?_)
      refine lv_istore (lv' := [(4, .int r31), (3, .int r25), (0, .ref a0), (1, .int x1), (2, .int v2)]) hx hb kb_Mo_countRule_34 hl (by decide) rfl (fun ls hl => ?_)
      refine lv_iconst (v := (-1 : Int32)) hx hb kb_Mo_countRule_36 (by decide) ?_
      refine lv_istore (lv' := [(5, .int ((-1 : Int32))), (4, .int r31), (3, .int r25), (0, .ref a0), (1, .int x1), (2, .int v2)]) hx hb kb_Mo_countRule_37 hl (by decide) rfl (fun ls hl => ?_)
      refine lv_iconst (v := (0 : Int32)) hx hb kb_Mo_countRule_39 (by decide) ?_
      refine lv_istore (lv' := [(6, .int ((0 : Int32))), (5, .int ((-1 : Int32))), (4, .int r31), (3, .int r25), (0, .ref a0), (1, .int x1), (2, .int v2)]) hx hb kb_Mo_countRule_40 hl (by decide) rfl (fun ls hl => ?_)
      exact hw _ _ _ hG hS (lv_sub hl [4, 5, 6, 3, 2, 1, 0] rfl))
  have hw := hw (by
    intro v2 v3 v4 v5 v6 σ hw H locs ls hG hS hl
    refine lv_iload hx hb kb_Mo_countRule_42 (lv_at hl 6 rfl) ?_
    refine lv_aload_n hx hb kb_Mo_countRule_44 rfl (lv_at hl 0 rfl) ?_
    obtain ⟨hy, hw⟩ := hw
    refine zr_getI (ci := 8) (f := 845) hx hb hts ki_Mo hown hK hG hy rfl 45 (by decide) (hts _ (List.mem_cons_of_mem _ kw_629)) (fun _ h => h) rfl rfl kb_Mo_countRule_45 ?_
    refine lv_icmp_ge (tgt := 95) hx hb kb_Mo_countRule_48 (by decide) (fun hc => ?_) (fun hc => ?_)
    · have hw := hw.1 hc
      refine lv_iload hx hb kb_Mo_countRule_95 (lv_at hl 5 rfl) ?_
      refine lv_iconst (v := (-1 : Int32)) hx hb kb_Mo_countRule_97 (by decide) ?_
      refine lv_icmp_ne (tgt := 159) hx hb kb_Mo_countRule_98 (by decide) (fun hc => ?_) (fun hc => ?_)
      · have hw := hw.1 hc
        exact hw _ _ _ hG hS (lv_sub hl [0, 1, 2, 5] rfl)
      · have hw := hw.2 hc
        refine lv_aload_n hx hb kb_Mo_countRule_101 rfl (lv_at hl 0 rfl) ?_
        obtain ⟨hy, hw⟩ := hw
        refine zr_getI (ci := 8) (f := 845) hx hb hts ki_Mo hown hK hG hy rfl 45 (by decide) (hts _ (List.mem_cons_of_mem _ kw_629)) (fun _ h => h) rfl rfl kb_Mo_countRule_102 ?_
        refine lv_bipush (v := (40 : Int32)) hx hb kb_Mo_countRule_105 (by decide) ?_
        refine lv_icmp_ne (tgt := 112) hx hb kb_Mo_countRule_107 (by decide) (fun hc => ?_) (fun hc => ?_)
        · have hw := hw.1 hc
          refine lv_aload_n hx hb kb_Mo_countRule_112 rfl (lv_at hl 0 rfl) ?_
          obtain ⟨hy, hw⟩ := hw
          refine zr_getI (ci := 8) (f := 845) hx hb hts ki_Mo hown hK hG hy rfl 45 (by decide) (hts _ (List.mem_cons_of_mem _ kw_629)) (fun _ h => h) rfl rfl kb_Mo_countRule_113 ?_
          refine lv_istore (lv' := [(5, .int (z_I σ 845 a0)), (0, .ref a0), (1, .int x1), (2, .int v2), (3, .int v3), (4, .int v4), (6, .int v6)]) hx hb kb_Mo_countRule_116 hl (by decide) rfl (fun ls hl => ?_)
          refine lv_aload_n hx hb kb_Mo_countRule_118 rfl (lv_at hl 1 rfl) ?_
          obtain ⟨hy, r119, hrf, hw⟩ := hw
          refine zr_getR (ci := 8) (f := 843) hx hb hts ki_Mo hown hK hG hy rfl 43 (by decide) (hts _ (List.mem_cons_of_mem _ kw_627)) (fun _ h => h) rfl rfl hrf kb_Mo_countRule_119 ?_
          refine lv_iconst (v := (3 : Int32)) hx hb kb_Mo_countRule_122 (by decide) ?_
          refine lv_iload hx hb kb_Mo_countRule_123 (lv_at hl 0 rfl) ?_
          refine lv_imul hx hb kb_Mo_countRule_125 ?_
          refine lv_iload_n hx hb kb_Mo_countRule_126 rfl (lv_at hl 4 rfl) ?_
          obtain ⟨n127, s127, hy, hi, hw⟩ := hw
          refine zr_iast hx hb hK hG hS 0 hy rfl hi kb_Mo_countRule_127 (fun H locs hG hS => ?_)
          obtain ⟨σ127, e127⟩ : ∃ z, z = z_sA σ s127 r119 (upd (z_A σ s127 r119) (((3 : Int32)) * (z_I σ 845 a0)).toNatClampNeg v3) := ⟨_, rfl⟩
          rw [← e127] at hG
          have hw := hw _ e127
          refine lv_aload_n hx hb kb_Mo_countRule_128 rfl (lv_at hl 1 rfl) ?_
          obtain ⟨hy, r129, hrf, hw⟩ := hw
          refine zr_getR (ci := 8) (f := 843) hx hb hts ki_Mo hown hK hG hy rfl 43 (by decide) (hts _ (List.mem_cons_of_mem _ kw_627)) (fun _ h => h) rfl rfl hrf kb_Mo_countRule_129 ?_
          refine lv_iconst (v := (3 : Int32)) hx hb kb_Mo_countRule_132 (by decide) ?_
          refine lv_iload hx hb kb_Mo_countRule_133 (lv_at hl 0 rfl) ?_
          refine lv_imul hx hb kb_Mo_countRule_135 ?_
          refine lv_iconst (v := (1 : Int32)) hx hb kb_Mo_countRule_136 (by decide) ?_
          refine lv_iadd hx hb kb_Mo_countRule_137 ?_
          refine lv_iload hx hb kb_Mo_countRule_138 (lv_at hl 5 rfl) ?_
          obtain ⟨n140, s140, hy, hi, hw⟩ := hw
          refine zr_iast hx hb hK hG hS 0 hy rfl hi kb_Mo_countRule_140 (fun H locs hG hS => ?_)
          obtain ⟨σ140, e140⟩ : ∃ z, z = z_sA σ127 s140 r129 (upd (z_A σ127 s140 r129) ((((3 : Int32)) * (z_I σ 845 a0)) + ((1 : Int32))).toNatClampNeg v4) := ⟨_, rfl⟩
          rw [← e140] at hG
          have hw := hw _ e140
          refine lv_aload_n hx hb kb_Mo_countRule_141 rfl (lv_at hl 1 rfl) ?_
          obtain ⟨hy, r142, hrf, hw⟩ := hw
          refine zr_getR (ci := 8) (f := 844) hx hb hts ki_Mo hown hK hG hy rfl 44 (by decide) (hts _ (List.mem_cons_of_mem _ kw_628)) (fun _ h => h) rfl rfl hrf kb_Mo_countRule_142 ?_
          refine lv_iload hx hb kb_Mo_countRule_145 (lv_at hl 0 rfl) ?_
          refine lv_iconst (v := (0 : Int32)) hx hb kb_Mo_countRule_147 (by decide) ?_
          obtain ⟨n148, s148, hy, hi, hw⟩ := hw
          refine zr_iast hx hb hK hG hS 0 hy rfl hi kb_Mo_countRule_148 (fun H locs hG hS => ?_)
          obtain ⟨σ148, e148⟩ : ∃ z, z = z_sA σ140 s148 r142 (upd (z_A σ140 s148 r142) (z_I σ 845 a0).toNatClampNeg ((0 : Int32))) := ⟨_, rfl⟩
          rw [← e148] at hG
          have hw := hw _ e148
          refine lv_aload_n hx hb kb_Mo_countRule_149 rfl (lv_at hl 1 rfl) ?_
          refine lv_dup hx hb kb_Mo_countRule_150 rfl ?_
          obtain ⟨hy, hw⟩ := hw
          refine zr_getI (ci := 8) (f := 845) hx hb hts ki_Mo hown hK hG hy rfl 45 (by decide) (hts _ (List.mem_cons_of_mem _ kw_629)) (fun _ h => h) rfl rfl kb_Mo_countRule_151 ?_
          refine lv_iconst (v := (1 : Int32)) hx hb kb_Mo_countRule_154 (by decide) ?_
          refine lv_iadd hx hb kb_Mo_countRule_155 ?_
          obtain ⟨hy, hw⟩ := hw
          refine zr_putI (ci := 8) (f := 845) hx hb hts ki_Mo ky_Mo kyo_Mo kn_Mo hown hK hG hS hy rfl 45 (by decide) (hts _ (List.mem_cons_of_mem _ kw_629)) (fun _ h => h) rfl rfl rfl rfl rfl kb_Mo_countRule_156 (fun H locs hG hS => ?_)
          obtain ⟨σ156, e156⟩ : ∃ z, z = z_sI σ148 845 a0 ((z_I σ148 845 a0) + ((1 : Int32))) := ⟨_, rfl⟩
          rw [← e156] at hG
          have hw := hw _ e156
          exact hw _ _ _ hG hS (lv_sub hl [1, 2, 3, 0] rfl)
        · have hw := hw.2 hc
          refine lv_iconst (v := (0 : Int32)) hx hb kb_Mo_countRule_110 (by decide) ?_
          exact zr_iret (free := fun q => Z ≤ q) z_nwN hx hb hr rfl hZ hK hN hG hS hw kb_Mo_countRule_111 hlocks
    · have hw := hw.2 hc
      refine lv_aload_n hx hb kb_Mo_countRule_51 rfl (lv_at hl 0 rfl) ?_
      obtain ⟨hy, r52, hrf, hw⟩ := hw
      refine zr_getR (ci := 8) (f := 843) hx hb hts ki_Mo hown hK hG hy rfl 43 (by decide) (hts _ (List.mem_cons_of_mem _ kw_627)) (fun _ h => h) rfl rfl hrf kb_Mo_countRule_52 ?_
      refine lv_iconst (v := (3 : Int32)) hx hb kb_Mo_countRule_55 (by decide) ?_
      refine lv_iload hx hb kb_Mo_countRule_56 (lv_at hl 6 rfl) ?_
      refine lv_imul hx hb kb_Mo_countRule_58 ?_
      obtain ⟨n59, s59, hy, hi, hw⟩ := hw
      refine zr_iald hx hb hK hG 0 hy rfl hi kb_Mo_countRule_59 ?_
      refine lv_iload_n hx hb kb_Mo_countRule_60 rfl (lv_at hl 3 rfl) ?_
      refine lv_icmp_ne (tgt := 85) hx hb kb_Mo_countRule_61 (by decide) (fun hc => ?_) (fun hc => ?_)
      · have hw := hw.1 hc
        refine lv_iload hx hb kb_Mo_countRule_85 (lv_at hl 5 rfl) ?_
        refine lv_istore (lv' := [(5, .int v5), (0, .ref a0), (1, .int x1), (2, .int v2), (3, .int v3), (4, .int v4), (6, .int v6)]) hx hb kb_Mo_countRule_87 hl (by decide) rfl (fun ls hl => ?_)
        refine lv_iinc (v := v6 + (1 : Int32)) (lv' := [(6, .int (v6 + (1 : Int32))), (5, .int v5), (0, .ref a0), (1, .int x1), (2, .int v2), (3, .int v3), (4, .int v4)]) hx hb kb_Mo_countRule_89 hl (k := 6) rfl rfl (by decide) rfl (fun ls hl => ?_)
        refine lv_goto (tgt := 42) hx hb kb_Mo_countRule_92 (by decide) ?_
        exact hw _ _ _ hG hS (lv_sub hl [2, 3, 4, 5, 6, 1, 0] rfl)
      · have hw := hw.2 hc
        refine lv_aload_n hx hb kb_Mo_countRule_64 rfl (lv_at hl 0 rfl) ?_
        obtain ⟨hy, r65, hrf, hw⟩ := hw
        refine zr_getR (ci := 8) (f := 843) hx hb hts ki_Mo hown hK hG hy rfl 43 (by decide) (hts _ (List.mem_cons_of_mem _ kw_627)) (fun _ h => h) rfl rfl hrf kb_Mo_countRule_65 ?_
        refine lv_iconst (v := (3 : Int32)) hx hb kb_Mo_countRule_68 (by decide) ?_
        refine lv_iload hx hb kb_Mo_countRule_69 (lv_at hl 6 rfl) ?_
        refine lv_imul hx hb kb_Mo_countRule_71 ?_
        refine lv_iconst (v := (1 : Int32)) hx hb kb_Mo_countRule_72 (by decide) ?_
        refine lv_iadd hx hb kb_Mo_countRule_73 ?_
        obtain ⟨n74, s74, hy, hi, hw⟩ := hw
        refine zr_iald hx hb hK hG 0 hy rfl hi kb_Mo_countRule_74 ?_
        refine lv_iload hx hb kb_Mo_countRule_75 (lv_at hl 4 rfl) ?_
        refine lv_icmp_ne (tgt := 85) hx hb kb_Mo_countRule_77 (by decide) (fun hc => ?_) (fun hc => ?_)
        · have hw := hw.1 hc
          refine lv_iload hx hb kb_Mo_countRule_85 (lv_at hl 5 rfl) ?_
          refine lv_istore (lv' := [(5, .int v5), (0, .ref a0), (1, .int x1), (2, .int v2), (3, .int v3), (4, .int v4), (6, .int v6)]) hx hb kb_Mo_countRule_87 hl (by decide) rfl (fun ls hl => ?_)
          refine lv_iinc (v := v6 + (1 : Int32)) (lv' := [(6, .int (v6 + (1 : Int32))), (5, .int v5), (0, .ref a0), (1, .int x1), (2, .int v2), (3, .int v3), (4, .int v4)]) hx hb kb_Mo_countRule_89 hl (k := 6) rfl rfl (by decide) rfl (fun ls hl => ?_)
          refine lv_goto (tgt := 42) hx hb kb_Mo_countRule_92 (by decide) ?_
          exact hw _ _ _ hG hS (lv_sub hl [2, 3, 4, 5, 6, 1, 0] rfl)
        · have hw := hw.2 hc
          refine lv_iload hx hb kb_Mo_countRule_80 (lv_at hl 6 rfl) ?_
          refine lv_goto (tgt := 87) hx hb kb_Mo_countRule_82 (by decide) ?_
          refine lv_istore (lv' := [(5, .int v6), (0, .ref a0), (1, .int x1), (2, .int v2), (3, .int v3), (4, .int v4), (6, .int v6)]) hx hb kb_Mo_countRule_87 hl (by decide) rfl (fun ls hl => ?_)
          refine lv_iinc (v := v6 + (1 : Int32)) (lv' := [(6, .int (v6 + (1 : Int32))), (5, .int v6), (0, .ref a0), (1, .int x1), (2, .int v2), (3, .int v3), (4, .int v4)]) hx hb kb_Mo_countRule_89 hl (k := 6) rfl rfl (by decide) rfl (fun ls hl => ?_)
          refine lv_goto (tgt := 42) hx hb kb_Mo_countRule_92 (by decide) ?_
          exact hw _ _ _ hG hS (lv_sub hl [2, 3, 4, 5, 6, 1, 0] rfl))
  have hw := hw (by
    intro v2 v5 σ hw H locs ls hG hS hl
    refine lv_aload_n hx hb kb_Mo_countRule_159 rfl (lv_at hl 0 rfl) ?_
    obtain ⟨hy, r160, hrf, hw⟩ := hw
    refine zr_getR (ci := 8) (f := 844) hx hb hts ki_Mo hown hK hG hy rfl 44 (by decide) (hts _ (List.mem_cons_of_mem _ kw_628)) (fun _ h => h) rfl rfl hrf kb_Mo_countRule_160 ?_
    refine lv_iload hx hb kb_Mo_countRule_163 (lv_at hl 3 rfl) ?_
    refine lv_dup2_11 hx hb kb_Mo_countRule_165 rfl rfl ?_
    obtain ⟨n166, s166, hy, hi, hw⟩ := hw
    refine zr_iald hx hb hK hG 0 hy rfl hi kb_Mo_countRule_166 ?_
    refine lv_iconst (v := (1 : Int32)) hx hb kb_Mo_countRule_167 (by decide) ?_
    refine lv_iadd hx hb kb_Mo_countRule_168 ?_
    obtain ⟨n169, s169, hy, hi, hw⟩ := hw
    refine zr_iast hx hb hK hG hS 0 hy rfl hi kb_Mo_countRule_169 (fun H locs hG hS => ?_)
    obtain ⟨σ169, e169⟩ : ∃ z, z = z_sA σ s169 r160 (upd (z_A σ s169 r160) v5.toNatClampNeg ((z_A σ s166 r160 v5.toNatClampNeg) + ((1 : Int32)))) := ⟨_, rfl⟩
    rw [← e169] at hG
    have hw := hw _ e169
    refine lv_goto (tgt := 16) hx hb kb_Mo_countRule_170 (by decide) ?_
    exact hw _ _ _ hG hS (lv_sub hl [0, 1, 2] rfl))
  have hw := hw (by
    intro v2 v3 v4 σ hw H locs ls hG hS hl
    refine lv_iload hx hb kb_Mo_countRule_178 (lv_at hl 4 rfl) ?_
    refine lv_aload_n hx hb kb_Mo_countRule_180 rfl (lv_at hl 0 rfl) ?_
    obtain ⟨hy, hw⟩ := hw
    refine zr_getI (ci := 8) (f := 845) hx hb hts ki_Mo hown hK hG hy rfl 45 (by decide) (hts _ (List.mem_cons_of_mem _ kw_629)) (fun _ h => h) rfl rfl kb_Mo_countRule_181 ?_
    refine lv_icmp_ge (tgt := 284) hx hb kb_Mo_countRule_184 (by decide) (fun hc => ?_) (fun hc => ?_)
    · have hw := hw.1 hc
      refine lv_iload_n hx hb kb_Mo_countRule_284 rfl (lv_at hl 3 rfl) ?_
      exact zr_iret (free := fun q => Z ≤ q) z_nwN hx hb hr (z_bool hw.1) hZ hK hN hG hS hw.2 kb_Mo_countRule_285 hlocks
    · have hw := hw.2 hc
      refine lv_iload_n hx hb kb_Mo_countRule_187 rfl (lv_at hl 3 rfl) ?_
      refine lv_if_eq (tgt := 284) hx hb kb_Mo_countRule_188 (by decide) (fun hc => ?_) (fun hc => ?_)
      · have hw := hw.1 hc
        refine lv_iload_n hx hb kb_Mo_countRule_284 rfl (lv_at hl 3 rfl) ?_
        exact zr_iret (free := fun q => Z ≤ q) z_nwN hx hb hr (z_bool hw.1) hZ hK hN hG hS hw.2 kb_Mo_countRule_285 hlocks
      · have hw := hw.2 hc
        refine lv_aload_n hx hb kb_Mo_countRule_191 rfl (lv_at hl 0 rfl) ?_
        obtain ⟨hy, r192, hrf, hw⟩ := hw
        refine zr_getR (ci := 8) (f := 844) hx hb hts ki_Mo hown hK hG hy rfl 44 (by decide) (hts _ (List.mem_cons_of_mem _ kw_628)) (fun _ h => h) rfl rfl hrf kb_Mo_countRule_192 ?_
        refine lv_iload hx hb kb_Mo_countRule_195 (lv_at hl 4 rfl) ?_
        obtain ⟨n197, s197, hy, hi, hw⟩ := hw
        refine zr_iald hx hb hK hG 0 hy rfl hi kb_Mo_countRule_197 ?_
        refine lv_istore (lv' := [(5, .int (z_A σ s197 r192 v4.toNatClampNeg)), (0, .ref a0), (1, .int x1), (2, .int v2), (3, .int v3), (4, .int v4)]) hx hb kb_Mo_countRule_198 hl (by decide) rfl (fun ls hl => ?_)
        refine lv_iload hx hb kb_Mo_countRule_200 (lv_at hl 0 rfl) ?_
        refine lv_sipush (v := (999 : Int32)) hx hb kb_Mo_countRule_202 (by decide) ?_
        refine lv_icmp_gt (tgt := 276) hx hb kb_Mo_countRule_205 (by decide) (fun hc => ?_) (fun hc => ?_)
        · have hw := hw.1 hc
          refine lv_iconst (v := (0 : Int32)) hx hb kb_Mo_countRule_276 (by decide) ?_
          refine lv_istore_n (lv' := [(3, .int ((0 : Int32))), (5, .int (z_A σ s197 r192 v4.toNatClampNeg)), (0, .ref a0), (1, .int x1), (2, .int v2), (4, .int v4)]) hx hb kb_Mo_countRule_277 rfl hl (by decide) rfl (fun ls hl => ?_)
          refine lv_iinc (v := v4 + (1 : Int32)) (lv' := [(4, .int (v4 + (1 : Int32))), (3, .int ((0 : Int32))), (5, .int (z_A σ s197 r192 v4.toNatClampNeg)), (0, .ref a0), (1, .int x1), (2, .int v2)]) hx hb kb_Mo_countRule_278 hl (k := 5) rfl rfl (by decide) rfl (fun ls hl => ?_)
          refine lv_goto (tgt := 178) hx hb kb_Mo_countRule_281 (by decide) ?_
          exact hw _ _ _ hG hS (lv_sub hl [3, 4, 5, 1, 0] rfl)
        · have hw := hw.2 hc
          refine lv_aload_n hx hb kb_Mo_countRule_208 rfl (lv_at hl 1 rfl) ?_
          refine lv_aload_n hx hb kb_Mo_countRule_209 rfl (lv_at hl 1 rfl) ?_
          obtain ⟨hy, r210, hrf, hw⟩ := hw
          refine zr_getR (ci := 8) (f := 809) hx hb hts ki_Mo hown hK hG hy rfl 9 (by decide) (hts _ (List.mem_cons_of_mem _ kw_593)) (fun _ h => h) rfl rfl hrf kb_Mo_countRule_210 ?_
          refine lv_iload_n hx hb kb_Mo_countRule_213 rfl (lv_at hl 2 rfl) ?_
          obtain ⟨n214, s214, hy, hi, hw⟩ := hw
          refine zr_iald hx hb hK hG 0 hy rfl hi kb_Mo_countRule_214 ?_
          refine lv_iload_n hx hb kb_Mo_countRule_215 rfl (lv_at hl 3 rfl) ?_
          refine lv_if_ne (tgt := 224) hx hb kb_Mo_countRule_216 (by decide) (fun hc => ?_) (fun hc => ?_)
          · have hw := hw.1 hc
            refine lv_aload_n hx hb kb_Mo_countRule_224 rfl (lv_at hl 1 rfl) ?_
            obtain ⟨hy, r225, hrf, hw⟩ := hw
            refine zr_getR (ci := 8) (f := 843) hx hb hts ki_Mo hown hK hG hy rfl 43 (by decide) (hts _ (List.mem_cons_of_mem _ kw_627)) (fun _ h => h) rfl rfl hrf kb_Mo_countRule_225 ?_
            refine lv_iconst (v := (3 : Int32)) hx hb kb_Mo_countRule_228 (by decide) ?_
            refine lv_iload hx hb kb_Mo_countRule_229 (lv_at hl 5 rfl) ?_
            refine lv_imul hx hb kb_Mo_countRule_231 ?_
            obtain ⟨n232, s232, hy, hi, hw⟩ := hw
            refine zr_iald hx hb hK hG 0 hy rfl hi kb_Mo_countRule_232 ?_
            exact hw _ _ _ hG hS (lv_sub hl [1, 2, 3, 5, 0] rfl)
          · have hw := hw.2 hc
            refine lv_iload hx hb kb_Mo_countRule_219 (lv_at hl 0 rfl) ?_
            refine lv_goto (tgt := 233) hx hb kb_Mo_countRule_221 (by decide) ?_
            exact hw _ _ _ hG hS (lv_sub hl [1, 2, 3, 5, 0] rfl))
  have hw := hw (by
    intro v2 v4 v5 t0 t1 t2 σ hw H locs ls hG hS hl
    refine lv_iload_n hx hb kb_Mo_countRule_233 rfl (lv_at hl 2 rfl) ?_
    refine lv_iconst (v := (1 : Int32)) hx hb kb_Mo_countRule_234 (by decide) ?_
    refine lv_icmp_ne (tgt := 243) hx hb kb_Mo_countRule_235 (by decide) (fun hc => ?_) (fun hc => ?_)
    · have hw := hw.1 hc
      refine lv_aload_n hx hb kb_Mo_countRule_243 rfl (lv_at hl 0 rfl) ?_
      obtain ⟨hy, r244, hrf, hw⟩ := hw
      refine zr_getR (ci := 8) (f := 843) hx hb hts ki_Mo hown hK hG hy rfl 43 (by decide) (hts _ (List.mem_cons_of_mem _ kw_627)) (fun _ h => h) rfl rfl hrf kb_Mo_countRule_244 ?_
      refine lv_iconst (v := (3 : Int32)) hx hb kb_Mo_countRule_247 (by decide) ?_
      refine lv_iload hx hb kb_Mo_countRule_248 (lv_at hl 3 rfl) ?_
      refine lv_imul hx hb kb_Mo_countRule_250 ?_
      refine lv_iconst (v := (1 : Int32)) hx hb kb_Mo_countRule_251 (by decide) ?_
      refine lv_iadd hx hb kb_Mo_countRule_252 ?_
      obtain ⟨n253, s253, hy, hi, hw⟩ := hw
      refine zr_iald hx hb hK hG 0 hy rfl hi kb_Mo_countRule_253 ?_
      exact hw _ _ _ hG hS (lv_sub hl [0, 1, 2, 3, 4] rfl)
    · have hw := hw.2 hc
      refine lv_iload hx hb kb_Mo_countRule_238 (lv_at hl 4 rfl) ?_
      refine lv_goto (tgt := 254) hx hb kb_Mo_countRule_240 (by decide) ?_
      exact hw _ _ _ hG hS (lv_sub hl [0, 1, 2, 3, 4] rfl))
  have hw := hw (by
    intro v2 v4 v5 t0 t1 t2 t3 σ hw H locs ls hG hS hl
    refine lv_iload_n hx hb kb_Mo_countRule_254 rfl (lv_at hl 2 rfl) ?_
    refine lv_iconst (v := (2 : Int32)) hx hb kb_Mo_countRule_255 (by decide) ?_
    refine lv_icmp_ne (tgt := 264) hx hb kb_Mo_countRule_256 (by decide) (fun hc => ?_) (fun hc => ?_)
    · have hw := hw.1 hc
      refine lv_iconst (v := (0 : Int32)) hx hb kb_Mo_countRule_264 (by decide) ?_
      exact hw _ _ _ hG hS (lv_sub hl [0, 1, 2, 3] rfl)
    · have hw := hw.2 hc
      refine lv_iload hx hb kb_Mo_countRule_259 (lv_at hl 4 rfl) ?_
      refine lv_goto (tgt := 265) hx hb kb_Mo_countRule_261 (by decide) ?_
      exact hw _ _ _ hG hS (lv_sub hl [0, 1, 2, 3] rfl))
  have hw := hw (by
    intro v2 v4 t0 t1 t2 t3 t4 σ hw H locs ls hG hS hl
    refine lv_iconst (v := (1 : Int32)) hx hb kb_Mo_countRule_265 (by decide) ?_
    obtain ⟨hy, hw⟩ := hw
    refine zr_ci (va_runV (C := kR_Mo) (As := [.int t1, .int t2, .int t3, .int t4, .int ((1 : Int32))]) (rest := []) ⟨hx, hb, hml, hown, hts⟩ (kc_Mo_insert l D dA Z t0 t1 t2 t3 t4 ((1 : Int32)) σ _) ⟨callB_of 5 hts (z_gw kw_799) rfl rfl rfl (hts _ (List.mem_cons_of_mem _ kw_9)) (hts _ (List.mem_cons_of_mem _ kw_797)) (by decide +kernel) ⟨Nat.le_of_ble_eq_true rfl, Nat.le_of_ble_eq_true rfl⟩, (hts _ (List.mem_cons_of_mem _ kw_798)), (hts _ (List.mem_cons_of_mem _ kw_980))⟩ (z_preV z_nwN (Nat.le_trans hZ hS.1) hG hK hN hy (ci := 8) (r := (kR_Mo, kT_Mo, 51)) rfl hw) rfl rfl hl.1 rfl (lv_room (Nat.le_of_ble_eq_true rfl)) kb_Mo_countRule_266 ⟨Nat.le_of_ble_eq_true rfl, Nat.le_of_ble_eq_true rfl⟩) hS (fun r266 σ266 H locs hw hG hS => ?_)
    refine lv_if_eq (tgt := 276) hx hb kb_Mo_countRule_269 (by decide) (fun hc => ?_) (fun hc => ?_)
    · have hw := hw.1 hc
      refine lv_iconst (v := (0 : Int32)) hx hb kb_Mo_countRule_276 (by decide) ?_
      refine lv_istore_n (lv' := [(3, .int ((0 : Int32))), (0, .ref a0), (1, .int x1), (2, .int v2), (4, .int v4)]) hx hb kb_Mo_countRule_277 rfl hl (by decide) rfl (fun ls hl => ?_)
      refine lv_iinc (v := v4 + (1 : Int32)) (lv' := [(4, .int (v4 + (1 : Int32))), (3, .int ((0 : Int32))), (0, .ref a0), (1, .int x1), (2, .int v2)]) hx hb kb_Mo_countRule_278 hl (k := 4) rfl rfl (by decide) rfl (fun ls hl => ?_)
      refine lv_goto (tgt := 178) hx hb kb_Mo_countRule_281 (by decide) ?_
      exact hw _ _ _ hG hS (lv_sub hl [2, 3, 4, 1, 0] rfl)
    · have hw := hw.2 hc
      refine lv_iconst (v := (1 : Int32)) hx hb kb_Mo_countRule_272 (by decide) ?_
      refine lv_goto (tgt := 277) hx hb kb_Mo_countRule_273 (by decide) ?_
      refine lv_istore_n (lv' := [(3, .int ((1 : Int32))), (0, .ref a0), (1, .int x1), (2, .int v2), (4, .int v4)]) hx hb kb_Mo_countRule_277 rfl hl (by decide) rfl (fun ls hl => ?_)
      refine lv_iinc (v := v4 + (1 : Int32)) (lv' := [(4, .int (v4 + (1 : Int32))), (3, .int ((1 : Int32))), (0, .ref a0), (1, .int x1), (2, .int v2)]) hx hb kb_Mo_countRule_278 hl (k := 4) rfl rfl (by decide) rfl (fun ls hl => ?_)
      refine lv_goto (tgt := 178) hx hb kb_Mo_countRule_281 (by decide) ?_
      exact hw _ _ _ hG hS (lv_sub hl [2, 3, 4, 1, 0] rfl))
  refine lv_aload_n hx hb kb_Mo_countRule_0 rfl (lv_at hl 0 rfl) ?_
  refine lv_iload_n hx hb kb_Mo_countRule_1 rfl (lv_at hl 1 rfl) ?_
  obtain ⟨hy, hw⟩ := hw
  refine zr_ci (va_runV (C := kR_Mo) (As := [.int x1]) (rest := []) ⟨hx, hb, hml, hown, hts⟩ (kc_Mo_markOf l D dA Z a0 x1 σ _) ⟨callB_of 1 hts (z_gw kw_769) rfl rfl rfl (hts _ (List.mem_cons_of_mem _ kw_9)) (hts _ (List.mem_cons_of_mem _ kw_767)) (by decide +kernel) ⟨Nat.le_of_ble_eq_true rfl, Nat.le_of_ble_eq_true rfl⟩, (hts _ (List.mem_cons_of_mem _ kw_768)), (hts _ (List.mem_cons_of_mem _ kw_970))⟩ (z_preV z_nwN (Nat.le_trans hZ hS.1) hG hK hN hy (ci := 8) (r := (kR_Mo, kT_Mo, 51)) rfl hw) rfl rfl hl.1 rfl (lv_room (Nat.le_of_ble_eq_true rfl)) kb_Mo_countRule_2 ⟨Nat.le_of_ble_eq_true rfl, Nat.le_of_ble_eq_true rfl⟩) hS (fun r2 σ2 H locs hw hG hS => ?_)
  refine lv_istore_n (lv' := [(2, .int r2), (0, .ref a0), (1, .int x1)]) hx hb kb_Mo_countRule_5 rfl hl (by decide) rfl (fun ls hl => ?_)
  refine lv_aload_n hx hb kb_Mo_countRule_6 rfl (lv_at hl 1 rfl) ?_
  refine lv_iconst (v := (0 : Int32)) hx hb kb_Mo_countRule_7 (by decide) ?_
  obtain ⟨hy, hw⟩ := hw
  refine zr_putI (ci := 8) (f := 845) hx hb hts ki_Mo ky_Mo kyo_Mo kn_Mo hown hK hG hS hy rfl 45 (by decide) (hts _ (List.mem_cons_of_mem _ kw_629)) (fun _ h => h) rfl rfl rfl rfl rfl kb_Mo_countRule_8 (fun H locs hG hS => ?_)
  obtain ⟨σ8, e8⟩ : ∃ z, z = z_sI σ2 845 a0 ((0 : Int32)) := ⟨_, rfl⟩
  rw [← e8] at hG
  have hw := hw _ e8
  refine lv_aload_n hx hb kb_Mo_countRule_11 rfl (lv_at hl 1 rfl) ?_
  refine lv_iload_n hx hb kb_Mo_countRule_12 rfl (lv_at hl 2 rfl) ?_
  obtain ⟨hy, hw⟩ := hw
  refine zr_cv (va_runV (C := kR_Mo) (As := [.int x1]) (rest := []) ⟨hx, hb, hml, hown, hts⟩ (kc_Mo_begin l D dA Z a0 x1 σ8 _) ⟨callB_of 1 hts (z_gw kw_772) rfl rfl rfl (hts _ (List.mem_cons_of_mem _ kw_9)) (hts _ (List.mem_cons_of_mem _ kw_770)) (by decide +kernel) ⟨Nat.le_of_ble_eq_true rfl, Nat.le_of_ble_eq_true rfl⟩, (hts _ (List.mem_cons_of_mem _ kw_771)), (hts _ (List.mem_cons_of_mem _ kw_971))⟩ (z_preV z_nwN (Nat.le_trans hZ hS.1) hG hK hN hy (ci := 8) (r := (kR_Mo, kT_Mo, 51)) rfl hw) rfl rfl hl.1 rfl (lv_room (Nat.le_of_ble_eq_true rfl)) kb_Mo_countRule_13 ⟨Nat.le_of_ble_eq_true rfl, Nat.le_of_ble_eq_true rfl⟩) hS (fun σ13 H locs hw hG hS => ?_)
  exact hw _ _ _ hG hS (lv_sub hl [1, 2, 0] rfl)
