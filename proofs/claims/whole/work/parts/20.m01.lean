def kp_Mo_lettersOf (b1 : Nat) (x2 : Int32) (σ : z_S) (Post : Int32 → z_S → Prop) : Prop := ∀ (X4 : Int32 → Int32 → z_S → Prop),
    (∀ (v2 : Int32) (v3 : Int32) (σ : z_S), ((((3 : Int32)) ≤ v3 → Post v2 σ) ∧ (¬ ((3 : Int32)) ≤ v3 → ∃ n14 s14, z_ty σ b1 = some (.inr (0, n14, s14)) ∧ vp_in (x2 + v3) n14 ∧ ((((26 : Int32)) ≤ (z_A σ s14 b1 (x2 + v3).toNatClampNeg) → X4 (v2 ||| ((0 : Int32))) (v3 + (1 : Int32)) σ) ∧ (¬ ((26 : Int32)) ≤ (z_A σ s14 b1 (x2 + v3).toNatClampNeg) → ∃ n25 s25, z_ty σ b1 = some (.inr (0, n25, s25)) ∧ vp_in (x2 + v3) n25 ∧ (X4 (v2 ||| (((1 : Int32)) <<< ((z_A σ s25 b1 (x2 + v3).toNatClampNeg) &&& 31))) (v3 + (1 : Int32)) σ))))) → X4 v2 v3 σ) →
    (X4 ((0 : Int32)) ((0 : Int32)) σ)
set_option maxHeartbeats 4000000 in
set_option maxRecDepth 100000 in
theorem kc_Mo_lettersOf (l : Launch) (D : va_G) (dA : Nat → ClassId) (Z : Nat) (b1 : Nat) (x2 : Int32) (σ : z_S) (Post : Int32 → z_S → Prop) : Met l km_Mo_lettersOf ks_Mo_lettersOf kr_Mo_lettersOf (va_Pc [.ref b1, .int x2] (fun U => z_U D z_cl z_KT dA Z (z_tys dA) z_nw σ U ∧ kp_Mo_lettersOf  b1 x2 σ Post)) (z_Qi D z_cl z_KT dA Z (z_tys dA) z_nw Post) 0 0 (fun q => Z ≤ q) := by
  refine Met.ofW (cc := prog_10_method_14_code) (maxL := 4) (ret := (some .int)) (by decide) rfl ?_
  intro p e s m args below meth c s₁ B hml hv
  obtain ⟨rfl, ⟨hZ, hG, hK, hN⟩, hw⟩ := hv
  have hx := B.exec
  have hb := B.bytes
  have hr := B.returns
  have hts := atoms_spec (ws := ks_Mo_lettersOf) B.pre
  have hown : s.vm.findClass kR_Mo = some m.cls := findClass_of_methodNamed B.named
  have hlocks := B.notSynchronized
  have hS : va_S (fun q => Z ≤ q) s.heap s.heap [] := va_S.rf
  have hl := lv_entry ([.ref b1, .int x2]) (n := 4) (Nat.le_of_ble_eq_true rfl)
  rw [lg_entry_eq]
  generalize (lg_sl ([.ref b1, .int x2]) ++ List.replicate (4 - (lg_sl ([.ref b1, .int x2])).length) Slot.unset).toArray = ls at hl ⊢
  have hl : lv_has ls 4 [(0, .ref b1), (1, .int x2)] := hl
  unfold kp_Mo_lettersOf at hw
  have hw := hw (fun (v2 : Int32) (v3 : Int32) (σ : z_S) => ∀ (H : Heap) (locs : List Loc) (ls : Array Slot), z_G D z_cl z_KT dA Z σ H → va_S (fun q => Z ≤ q) s.heap H locs → lv_has ls 4 [(0, .ref b1), (1, .int x2), (2, .int v2), (3, .int v3)] → W p l e (headSpec ks_Mo_lettersOf kr_Mo_lettersOf).room s m ([.ref b1, .int x2] : List Value).toArray below meth c H locs 0 0 (MQ below (z_Qi D z_cl z_KT dA Z (z_tys dA) z_nw Post) ([.ref b1, .int x2] : List Value).toArray s 0 0 (fun q => Z ≤ q)) (F0 m 4 ls []))
  have hw := hw (by
    intro v2 v3 σ hw H locs ls hG hS hl
    refine lv_iload_n hx hb kb_Mo_lettersOf_4 rfl (lv_at hl 3 rfl) ?_
    refine lv_iconst (v := (3 : Int32)) hx hb kb_Mo_lettersOf_5 (by decide) ?_
    refine lv_icmp_ge (tgt := 39) hx hb kb_Mo_lettersOf_6 (by decide) (fun hc => ?_) (fun hc => ?_)
    · have hw := hw.1 hc
      refine lv_iload_n hx hb kb_Mo_lettersOf_39 rfl (lv_at hl 2 rfl) ?_
      exact zr_iret (free := fun q => Z ≤ q) z_nwN hx hb hr rfl hZ hK hN hG hS hw kb_Mo_lettersOf_40 hlocks
    · have hw := hw.2 hc
      refine lv_iload_n hx hb kb_Mo_lettersOf_9 rfl (lv_at hl 2 rfl) ?_
      refine lv_aload_n hx hb kb_Mo_lettersOf_10 rfl (lv_at hl 0 rfl) ?_
      refine lv_iload_n hx hb kb_Mo_lettersOf_11 rfl (lv_at hl 1 rfl) ?_
      refine lv_iload_n hx hb kb_Mo_lettersOf_12 rfl (lv_at hl 3 rfl) ?_
      refine lv_iadd hx hb kb_Mo_lettersOf_13 ?_
      obtain ⟨n14, s14, hy, hi, hw⟩ := hw
      refine zr_iald hx hb hK hG 0 hy rfl hi kb_Mo_lettersOf_14 ?_
      refine lv_bipush (v := (26 : Int32)) hx hb kb_Mo_lettersOf_15 (by decide) ?_
      refine lv_icmp_ge (tgt := 30) hx hb kb_Mo_lettersOf_17 (by decide) (fun hc => ?_) (fun hc => ?_)
      · have hw := hw.1 hc
        refine lv_iconst (v := (0 : Int32)) hx hb kb_Mo_lettersOf_30 (by decide) ?_
        refine lv_ior hx hb kb_Mo_lettersOf_31 ?_
        refine lv_istore_n (lv' := [(2, .int (v2 ||| ((0 : Int32)))), (0, .ref b1), (1, .int x2), (3, .int v3)]) hx hb kb_Mo_lettersOf_32 rfl hl (by decide) rfl (fun ls hl => ?_)
        refine lv_iinc (v := v3 + (1 : Int32)) (lv' := [(3, .int (v3 + (1 : Int32))), (2, .int (v2 ||| ((0 : Int32)))), (0, .ref b1), (1, .int x2)]) hx hb kb_Mo_lettersOf_33 hl (k := 3) rfl rfl (by decide) rfl (fun ls hl => ?_)
        refine lv_goto (tgt := 4) hx hb kb_Mo_lettersOf_36 (by decide) ?_
        exact hw _ _ _ hG hS (lv_sub hl [2, 3, 1, 0] rfl)
      · have hw := hw.2 hc
        refine lv_iconst (v := (1 : Int32)) hx hb kb_Mo_lettersOf_20 (by decide) ?_
        refine lv_aload_n hx hb kb_Mo_lettersOf_21 rfl (lv_at hl 0 rfl) ?_
        refine lv_iload_n hx hb kb_Mo_lettersOf_22 rfl (lv_at hl 1 rfl) ?_
        refine lv_iload_n hx hb kb_Mo_lettersOf_23 rfl (lv_at hl 3 rfl) ?_
        refine lv_iadd hx hb kb_Mo_lettersOf_24 ?_
        obtain ⟨n25, s25, hy, hi, hw⟩ := hw
        refine zr_iald hx hb hK hG 0 hy rfl hi kb_Mo_lettersOf_25 ?_
        refine lv_ishl hx hb kb_Mo_lettersOf_26 ?_
        refine lv_goto (tgt := 31) hx hb kb_Mo_lettersOf_27 (by decide) ?_
        refine lv_ior hx hb kb_Mo_lettersOf_31 ?_
        refine lv_istore_n (lv' := [(2, .int (v2 ||| (((1 : Int32)) <<< ((z_A σ s25 b1 (x2 + v3).toNatClampNeg) &&& 31)))), (0, .ref b1), (1, .int x2), (3, .int v3)]) hx hb kb_Mo_lettersOf_32 rfl hl (by decide) rfl (fun ls hl => ?_)
        refine lv_iinc (v := v3 + (1 : Int32)) (lv' := [(3, .int (v3 + (1 : Int32))), (2, .int (v2 ||| (((1 : Int32)) <<< ((z_A σ s25 b1 (x2 + v3).toNatClampNeg) &&& 31)))), (0, .ref b1), (1, .int x2)]) hx hb kb_Mo_lettersOf_33 hl (k := 3) rfl rfl (by decide) rfl (fun ls hl => ?_)
        refine lv_goto (tgt := 4) hx hb kb_Mo_lettersOf_36 (by decide) ?_
        exact hw _ _ _ hG hS (lv_sub hl [2, 3, 1, 0] rfl))
  refine lv_iconst (v := (0 : Int32)) hx hb kb_Mo_lettersOf_0 (by decide) ?_
  refine lv_istore_n (lv' := [(2, .int ((0 : Int32))), (0, .ref b1), (1, .int x2)]) hx hb kb_Mo_lettersOf_1 rfl hl (by decide) rfl (fun ls hl => ?_)
  refine lv_iconst (v := (0 : Int32)) hx hb kb_Mo_lettersOf_2 (by decide) ?_
  refine lv_istore_n (lv' := [(3, .int ((0 : Int32))), (2, .int ((0 : Int32))), (0, .ref b1), (1, .int x2)]) hx hb kb_Mo_lettersOf_3 rfl hl (by decide) rfl (fun ls hl => ?_)
  exact hw _ _ _ hG hS (lv_sub hl [2, 3, 1, 0] rfl)
def kp_Mo_judge (a0 : Nat) (x1 : Int32) (σ : z_S) (Post : z_S → Prop) : Prop := ∀ (X16 : Int32 → Int32 → Int32 → z_S → Prop) (X105 : Int32 → Int32 → Int32 → z_S → Prop) (X176 : Int32 → Int32 → z_S → Prop) (X186 : z_S → Prop),
    (∀ (v2 : Int32) (v3 : Int32) (v4 : Int32) (σ : z_S), (z_ty σ a0 = some (.inl 8) ∧ ∃ r19, z_R σ 811 a0 = some r19 ∧ (∃ n23 s23, z_ty σ r19 = some (.inr (0, n23, s23)) ∧ vp_in x1 n23 ∧ (((z_A σ s23 r19 x1.toNatClampNeg) ≤ v4 → (((v3 &&& (v2 ^^^ ((-1 : Int32))))) = 0 → z_ty σ a0 = some (.inl 8) ∧ ∃ r95, z_R σ 815 a0 = some r95 ∧ (∃ n99 s99, z_ty σ r95 = some (.inr (2, n99, s99)) ∧ vp_in x1 n99 ∧ (X105 ((1 : Int32)) (z_A σ s99 r95 x1.toNatClampNeg) ((0 : Int32)) σ))) ∧ (¬ ((v3 &&& (v2 ^^^ ((-1 : Int32))))) = 0 → z_ty σ a0 = some (.inl 8) ∧ kp_Mo_wrong a0 ((4 : Int32)) σ (fun (σ87 : z_S) => Post σ87))) ∧ (¬ (z_A σ s23 r19 x1.toNatClampNeg) ≤ v4 → z_ty σ a0 = some (.inl 8) ∧ ∃ r28, z_R σ 814 a0 = some r28 ∧ (kp_Mo_lettersOf r28 (((3 : Int32)) * ((((5 : Int32)) * x1) + v4)) σ (fun (r39 : Int32) (σ39 : z_S) => z_ty σ39 a0 = some (.inl 8) ∧ ∃ r45, z_R σ39 812 a0 = some r45 ∧ (∃ n54 s54, z_ty σ39 r45 = some (.inr (0, n54, s54)) ∧ vp_in ((((5 : Int32)) * x1) + v4) n54 ∧ ((¬ ((z_A σ39 s54 r45 ((((5 : Int32)) * x1) + v4).toNatClampNeg)) = 0 → X16 v2 (v3 ||| r39) (v4 + (1 : Int32)) σ39) ∧ (((z_A σ39 s54 r45 ((((5 : Int32)) * x1) + v4).toNatClampNeg)) = 0 → X16 (v2 ||| r39) v3 (v4 + (1 : Int32)) σ39))))))))) → X16 v2 v3 v4 σ) →
    (∀ (v4 : Int32) (v5 : Int32) (v6 : Int32) (σ : z_S), ((x1 ≤ v6 → z_ty σ a0 = some (.inl 8) ∧ ∃ r159, z_R σ 815 a0 = some r159 ∧ (∃ n163 s163, z_ty σ r159 = some (.inr (2, n163, s163)) ∧ vp_in x1 n163 ∧ ((((z_A σ s163 r159 x1.toNatClampNeg)) = 0 → X176 v4 v5 σ) ∧ (¬ ((z_A σ s163 r159 x1.toNatClampNeg)) = 0 → z_ty σ a0 = some (.inl 8) ∧ ∃ r168, z_R σ 811 a0 = some r168 ∧ (∃ n172 s172, z_ty σ r168 = some (.inr (0, n172, s172)) ∧ vp_in x1 n172 ∧ ((((z_A σ s172 r168 x1.toNatClampNeg)) = 0 → X186 σ) ∧ (¬ ((z_A σ s172 r168 x1.toNatClampNeg)) = 0 → X176 v4 v5 σ))))))) ∧ (¬ x1 ≤ v6 → z_ty σ a0 = some (.inl 8) ∧ ∃ r112, z_R σ 809 a0 = some r112 ∧ (∃ n117 s117, z_ty σ r112 = some (.inr (0, n117, s117)) ∧ vp_in v6 n117 ∧ (z_ty σ a0 = some (.inl 8) ∧ ∃ r119, z_R σ 809 a0 = some r119 ∧ (∃ n123 s123, z_ty σ r119 = some (.inr (0, n123, s123)) ∧ vp_in x1 n123 ∧ ((¬ (z_A σ s117 r112 v6.toNatClampNeg) = (z_A σ s123 r119 x1.toNatClampNeg) → X105 v4 v5 (v6 + (1 : Int32)) σ) ∧ ((z_A σ s117 r112 v6.toNatClampNeg) = (z_A σ s123 r119 x1.toNatClampNeg) → (¬ v5 = 0 → X105 ((0 : Int32)) ((1 : Int32)) (v6 + (1 : Int32)) σ) ∧ (v5 = 0 → z_ty σ a0 = some (.inl 8) ∧ ∃ r136, z_R σ 815 a0 = some r136 ∧ (∃ n141 s141, z_ty σ r136 = some (.inr (2, n141, s141)) ∧ vp_in v6 n141 ∧ ((((z_A σ s141 r136 v6.toNatClampNeg)) = 0 → X105 ((0 : Int32)) ((0 : Int32)) (v6 + (1 : Int32)) σ) ∧ (¬ ((z_A σ s141 r136 v6.toNatClampNeg)) = 0 → X105 ((0 : Int32)) ((1 : Int32)) (v6 + (1 : Int32)) σ))))))))))) → X105 v4 v5 v6 σ) →
    (∀ (v4 : Int32) (v5 : Int32) (σ : z_S), ((v5 = 0 → Post σ) ∧ (¬ v5 = 0 → (¬ v4 = 0 → Post σ) ∧ (v4 = 0 → X186 σ))) → X176 v4 v5 σ) →
    (∀ (σ : z_S), (z_ty σ a0 = some (.inl 8) ∧ kp_Mo_wrong a0 ((5 : Int32)) σ (fun (σ188 : z_S) => Post σ188)) → X186 σ) →
    (z_ty σ a0 = some (.inl 8) ∧ ∃ r3, z_R σ 810 a0 = some r3 ∧ (kp_Mo_lettersOf r3 (((3 : Int32)) * x1) σ (fun (r9 : Int32) (σ9 : z_S) => X16 ((0 : Int32)) r9 ((0 : Int32)) σ9)))
set_option maxHeartbeats 4000000 in
set_option maxRecDepth 100000 in
theorem kc_Mo_judge (l : Launch) (D : va_G) (dA : Nat → ClassId) (Z : Nat) (a0 : Nat) (x1 : Int32) (σ : z_S) (Post : z_S → Prop) : Met l km_Mo_judge ks_Mo_judge kr_Mo_judge (va_Pc [.ref a0, .int x1] (fun U => z_U D z_cl z_KT dA Z (z_tys dA) z_nw σ U ∧ kp_Mo_judge  a0 x1 σ Post)) (z_Qv D z_cl z_KT dA Z (z_tys dA) z_nw Post) 0 0 (fun q => Z ≤ q) := by
  refine Met.ofW (cc := prog_10_method_16_code) (maxL := 7) (ret := none) (by decide) rfl ?_
  intro p e s m args below meth c s₁ B hml hv
  obtain ⟨rfl, ⟨hZ, hG, hK, hN⟩, hw⟩ := hv
  have hx := B.exec
  have hb := B.bytes
  have hr := B.returns
  have hts := atoms_spec (ws := ks_Mo_judge) B.pre
  have hown : s.vm.findClass kR_Mo = some m.cls := findClass_of_methodNamed B.named
  have hlocks := B.notSynchronized
  have hS : va_S (fun q => Z ≤ q) s.heap s.heap [] := va_S.rf
  have hl := lv_entry ([.ref a0, .int x1]) (n := 7) (Nat.le_of_ble_eq_true rfl)
  rw [lg_entry_eq]
  generalize (lg_sl ([.ref a0, .int x1]) ++ List.replicate (7 - (lg_sl ([.ref a0, .int x1])).length) Slot.unset).toArray = ls at hl ⊢
  have hl : lv_has ls 7 [(0, .ref a0), (1, .int x1)] := hl
  unfold kp_Mo_judge at hw
  have hw := hw (fun (v2 : Int32) (v3 : Int32) (v4 : Int32) (σ : z_S) => ∀ (H : Heap) (locs : List Loc) (ls : Array Slot), z_G D z_cl z_KT dA Z σ H → va_S (fun q => Z ≤ q) s.heap H locs → lv_has ls 7 [(0, .ref a0), (1, .int x1), (2, .int v2), (3, .int v3), (4, .int v4)] → W p l e (headSpec ks_Mo_judge kr_Mo_judge).room s m ([.ref a0, .int x1] : List Value).toArray below meth c H locs 0 0 (MQ below (z_Qv D z_cl z_KT dA Z (z_tys dA) z_nw Post) ([.ref a0, .int x1] : List Value).toArray s 0 0 (fun q => Z ≤ q)) (F0 m 16 ls []))
  have hw := hw (fun (v4 : Int32) (v5 : Int32) (v6 : Int32) (σ : z_S) => ∀ (H : Heap) (locs : List Loc) (ls : Array Slot), z_G D z_cl z_KT dA Z σ H → va_S (fun q => Z ≤ q) s.heap H locs → lv_has ls 7 [(0, .ref a0), (1, .int x1), (4, .int v4), (5, .int v5), (6, .int v6)] → W p l e (headSpec ks_Mo_judge kr_Mo_judge).room s m ([.ref a0, .int x1] : List Value).toArray below meth c H locs 0 0 (MQ below (z_Qv D z_cl z_KT dA Z (z_tys dA) z_nw Post) ([.ref a0, .int x1] : List Value).toArray s 0 0 (fun q => Z ≤ q)) (F0 m 105 ls []))
  have hw := hw (fun (v4 : Int32) (v5 : Int32) (σ : z_S) => ∀ (H : Heap) (locs : List Loc) (ls : Array Slot), z_G D z_cl z_KT dA Z σ H → va_S (fun q => Z ≤ q) s.heap H locs → lv_has ls 7 [(0, .ref a0), (4, .int v4), (5, .int v5)] → W p l e (headSpec ks_Mo_judge kr_Mo_judge).room s m ([.ref a0, .int x1] : List Value).toArray below meth c H locs 0 0 (MQ below (z_Qv D z_cl z_KT dA Z (z_tys dA) z_nw Post) ([.ref a0, .int x1] : List Value).toArray s 0 0 (fun q => Z ≤ q)) (F0 m 176 ls []))
  have hw := hw (fun (σ : z_S) => ∀ (H : Heap) (locs : List Loc) (ls : Array Slot), z_G D z_cl z_KT dA Z σ H → va_S (fun q => Z ≤ q) s.heap H locs → lv_has ls 7 [(0, .ref a0)] → W p l e (headSpec ks_Mo_judge kr_Mo_judge).room s m ([.ref a0, .int x1] : List Value).toArray below meth c H locs 0 0 (MQ below (z_Qv D z_cl z_KT dA Z (z_tys dA) z_nw Post) ([.ref a0, .int x1] : List Value).toArray s 0 0 (fun q => Z ≤ q)) (F0 m 186 ls []))
  have hw := hw (by
    intro v2 v3 v4 σ hw H locs ls hG hS hl
    refine lv_iload hx hb kb_Mo_judge_16 (lv_at hl 4 rfl) ?_
    refine lv_aload_n hx hb kb_Mo_judge_18 rfl (lv_at hl 0 rfl) ?_
    obtain ⟨hy, r19, hrf, hw⟩ := hw
    refine zr_getR (ci := 8) (f := 811) hx hb hts ki_Mo hown hK hG hy rfl 11 (by decide) (hts _ (List.mem_cons_of_mem _ kw_595)) (fun _ h => h) rfl rfl hrf kb_Mo_judge_19 ?_
    refine lv_iload_n hx hb kb_Mo_judge_22 rfl (lv_at hl 1 rfl) ?_
    obtain ⟨n23, s23, hy, hi, hw⟩ := hw
    refine zr_iald hx hb hK hG 0 hy rfl hi kb_Mo_judge_23 ?_
    refine lv_icmp_ge (tgt := 77) hx hb kb_Mo_judge_24 (by decide) (fun hc => ?_) (fun hc => ?_)
    · have hw := hw.1 hc
      refine lv_iload_n hx hb kb_Mo_judge_77 rfl (lv_at hl 3 rfl) ?_
      refine lv_iload_n hx hb kb_Mo_judge_78 rfl (lv_at hl 2 rfl) ?_
      refine lv_iconst (v := (-1 : Int32)) hx hb kb_Mo_judge_79 (by decide) ?_
      refine lv_ixor hx hb kb_Mo_judge_80 ?_
      refine lv_iand hx hb kb_Mo_judge_81 ?_
      refine lv_if_eq (tgt := 91) hx hb kb_Mo_judge_82 (by decide) (fun hc => ?_) (fun hc => ?_)
      · have hw := hw.1 hc
        refine lv_iconst (v := (1 : Int32)) hx hb kb_Mo_judge_91 (by decide) ?_
        refine lv_istore (lv' := [(4, .int ((1 : Int32))), (0, .ref a0), (1, .int x1), (2, .int v2), (3, .int v3)]) hx hb kb_Mo_judge_92 hl (by decide) rfl (fun ls hl => ?_)
        refine lv_aload_n hx hb kb_Mo_judge_94 rfl (lv_at hl 1 rfl) ?_
        obtain ⟨hy, r95, hrf, hw⟩ := hw
        refine zr_getR (ci := 8) (f := 815) hx hb hts ki_Mo hown hK hG hy rfl 15 (by decide) (hts _ (List.mem_cons_of_mem _ kw_599)) (fun _ h => h) rfl rfl hrf kb_Mo_judge_95 ?_
        refine lv_iload_n hx hb kb_Mo_judge_98 rfl (lv_at hl 2 rfl) ?_
        obtain ⟨n99, s99, hy, hi, hw⟩ := hw
        refine zr_zald hx hb hK hG 2 hy rfl hi kb_Mo_judge_99 ?_
        refine lv_istore (lv' := [(5, .int (z_A σ s99 r95 x1.toNatClampNeg)), (4, .int ((1 : Int32))), (0, .ref a0), (1, .int x1), (2, .int v2), (3, .int v3)]) hx hb kb_Mo_judge_100 hl (by decide) rfl (fun ls hl => ?_)
        refine lv_iconst (v := (0 : Int32)) hx hb kb_Mo_judge_102 (by decide) ?_
        refine lv_istore (lv' := [(6, .int ((0 : Int32))), (5, .int (z_A σ s99 r95 x1.toNatClampNeg)), (4, .int ((1 : Int32))), (0, .ref a0), (1, .int x1), (2, .int v2), (3, .int v3)]) hx hb kb_Mo_judge_103 hl (by decide) rfl (fun ls hl => ?_)
        exact hw _ _ _ hG hS (lv_sub hl [3, 4, 2, 1, 0] rfl)
      · have hw := hw.2 hc
        refine lv_aload_n hx hb kb_Mo_judge_85 rfl (lv_at hl 0 rfl) ?_
        refine lv_iconst (v := (4 : Int32)) hx hb kb_Mo_judge_86 (by decide) ?_
        obtain ⟨hy, hw⟩ := hw
        refine zr_cv (va_runV (C := kR_Mo) (As := [.int ((4 : Int32))]) (rest := []) ⟨hx, hb, hml, hown, hts⟩ (kc_Mo_wrong l D dA Z a0 ((4 : Int32)) σ _) ⟨callB_of 1 hts (z_gw kw_712) rfl rfl rfl (hts _ (List.mem_cons_of_mem _ kw_9)) (hts _ (List.mem_cons_of_mem _ kw_710)) (by decide +kernel) ⟨Nat.le_of_ble_eq_true rfl, Nat.le_of_ble_eq_true rfl⟩, (hts _ (List.mem_cons_of_mem _ kw_711)), (hts _ (List.mem_cons_of_mem _ kw_955))⟩ (z_preV z_nwN (Nat.le_trans hZ hS.1) hG hK hN hy (ci := 8) (r := (kR_Mo, kT_Mo, 51)) rfl hw) rfl rfl hl.1 rfl (lv_room (Nat.le_of_ble_eq_true rfl)) kb_Mo_judge_87 ⟨Nat.le_of_ble_eq_true rfl, Nat.le_of_ble_eq_true rfl⟩) hS (fun σ87 H locs hw hG hS => ?_)
        exact zr_vret z_nwN hx hb hr hZ hK hN hG hS hw kb_Mo_judge_90 hlocks
    · have hw := hw.2 hc
      refine lv_aload_n hx hb kb_Mo_judge_27 rfl (lv_at hl 0 rfl) ?_
      obtain ⟨hy, r28, hrf, hw⟩ := hw
      refine zr_getR (ci := 8) (f := 814) hx hb hts ki_Mo hown hK hG hy rfl 14 (by decide) (hts _ (List.mem_cons_of_mem _ kw_598)) (fun _ h => h) rfl rfl hrf kb_Mo_judge_28 ?_
      refine lv_iconst (v := (3 : Int32)) hx hb kb_Mo_judge_31 (by decide) ?_
      refine lv_iconst (v := (5 : Int32)) hx hb kb_Mo_judge_32 (by decide) ?_
      refine lv_iload_n hx hb kb_Mo_judge_33 rfl (lv_at hl 1 rfl) ?_
      refine lv_imul hx hb kb_Mo_judge_34 ?_
      refine lv_iload hx hb kb_Mo_judge_35 (lv_at hl 4 rfl) ?_
      refine lv_iadd hx hb kb_Mo_judge_37 ?_
      refine lv_imul hx hb kb_Mo_judge_38 ?_
      refine zr_ci (va_runS (As := [.ref r28, .int (((3 : Int32)) * ((((5 : Int32)) * x1) + v4))]) (rest := []) ⟨hx, hb, hml, hown, hts⟩ (kc_Mo_lettersOf l D dA Z r28 (((3 : Int32)) * ((((5 : Int32)) * x1) + v4)) σ _) ⟨callB_of 2 hts (z_gw kw_742) rfl rfl rfl (hts _ (List.mem_cons_of_mem _ kw_9)) (hts _ (List.mem_cons_of_mem _ kw_740)) (by decide +kernel) ⟨Nat.le_of_ble_eq_true rfl, Nat.le_of_ble_eq_true rfl⟩, (hts _ (List.mem_cons_of_mem _ kw_741))⟩ (z_preS z_nwN (Nat.le_trans hZ hS.1) hG hK hN hw) rfl rfl hl.1 rfl (lv_room (Nat.le_of_ble_eq_true rfl)) kb_Mo_judge_39 ⟨Nat.le_of_ble_eq_true rfl, Nat.le_of_ble_eq_true rfl⟩) hS (fun r39 σ39 H locs hw hG hS => ?_)
      refine lv_istore (lv' := [(5, .int r39), (0, .ref a0), (1, .int x1), (2, .int v2), (3, .int v3), (4, .int v4)]) hx hb kb_Mo_judge_42 hl (by decide) rfl (fun ls hl => ?_)
      refine lv_aload_n hx hb kb_Mo_judge_44 rfl (lv_at hl 1 rfl) ?_
      obtain ⟨hy, r45, hrf, hw⟩ := hw
      refine zr_getR (ci := 8) (f := 812) hx hb hts ki_Mo hown hK hG hy rfl 12 (by decide) (hts _ (List.mem_cons_of_mem _ kw_596)) (fun _ h => h) rfl rfl hrf kb_Mo_judge_45 ?_
      refine lv_iconst (v := (5 : Int32)) hx hb kb_Mo_judge_48 (by decide) ?_
      refine lv_iload_n hx hb kb_Mo_judge_49 rfl (lv_at hl 2 rfl) ?_
      refine lv_imul hx hb kb_Mo_judge_50 ?_
      refine lv_iload hx hb kb_Mo_judge_51 (lv_at hl 5 rfl) ?_
      refine lv_iadd hx hb kb_Mo_judge_53 ?_
      obtain ⟨n54, s54, hy, hi, hw⟩ := hw
      refine zr_iald hx hb hK hG 0 hy rfl hi kb_Mo_judge_54 ?_
      refine lv_if_ne (tgt := 66) hx hb kb_Mo_judge_55 (by decide) (fun hc => ?_) (fun hc => ?_)
      · have hw := hw.1 hc
        refine lv_iload_n hx hb kb_Mo_judge_66 rfl (lv_at hl 4 rfl) ?_
        refine lv_iload hx hb kb_Mo_judge_67 (lv_at hl 0 rfl) ?_
        refine lv_ior hx hb kb_Mo_judge_69 ?_
        refine lv_istore_n (lv' := [(3, .int (v3 ||| r39)), (5, .int r39), (0, .ref a0), (1, .int x1), (2, .int v2), (4, .int v4)]) hx hb kb_Mo_judge_70 rfl hl (by decide) rfl (fun ls hl => ?_)
        refine lv_iinc (v := v4 + (1 : Int32)) (lv' := [(4, .int (v4 + (1 : Int32))), (3, .int (v3 ||| r39)), (5, .int r39), (0, .ref a0), (1, .int x1), (2, .int v2)]) hx hb kb_Mo_judge_71 hl (k := 5) rfl rfl (by decide) rfl (fun ls hl => ?_)
        refine lv_goto (tgt := 16) hx hb kb_Mo_judge_74 (by decide) ?_
        exact hw _ _ _ hG hS (lv_sub hl [3, 4, 5, 1, 0] rfl)
      · have hw := hw.2 hc
        refine lv_iload_n hx hb kb_Mo_judge_58 rfl (lv_at hl 3 rfl) ?_
        refine lv_iload hx hb kb_Mo_judge_59 (lv_at hl 0 rfl) ?_
        refine lv_ior hx hb kb_Mo_judge_61 ?_
        refine lv_istore_n (lv' := [(2, .int (v2 ||| r39)), (5, .int r39), (0, .ref a0), (1, .int x1), (3, .int v3), (4, .int v4)]) hx hb kb_Mo_judge_62 rfl hl (by decide) rfl (fun ls hl => ?_)
        refine lv_goto (tgt := 71) hx hb kb_Mo_judge_63 (by decide) ?_
        refine lv_iinc (v := v4 + (1 : Int32)) (lv' := [(4, .int (v4 + (1 : Int32))), (2, .int (v2 ||| r39)), (5, .int r39), (0, .ref a0), (1, .int x1), (3, .int v3)]) hx hb kb_Mo_judge_71 hl (k := 5) rfl rfl (by decide) rfl (fun ls hl => ?_)
        refine lv_goto (tgt := 16) hx hb kb_Mo_judge_74 (by decide) ?_
        exact hw _ _ _ hG hS (lv_sub hl [3, 4, 1, 5, 0] rfl))
  have hw := hw (by
    intro v4 v5 v6 σ hw H locs ls hG hS hl
    refine lv_iload hx hb kb_Mo_judge_105 (lv_at hl 4 rfl) ?_
    refine lv_iload_n hx hb kb_Mo_judge_107 rfl (lv_at hl 1 rfl) ?_
    refine lv_icmp_ge (tgt := 158) hx hb kb_Mo_judge_108 (by decide) (fun hc => ?_) (fun hc => ?_)
    · have hw := hw.1 hc
      refine lv_aload_n hx hb kb_Mo_judge_158 rfl (lv_at hl 0 rfl) ?_
      obtain ⟨hy, r159, hrf, hw⟩ := hw
      refine zr_getR (ci := 8) (f := 815) hx hb hts ki_Mo hown hK hG hy rfl 15 (by decide) (hts _ (List.mem_cons_of_mem _ kw_599)) (fun _ h => h) rfl rfl hrf kb_Mo_judge_159 ?_
      refine lv_iload_n hx hb kb_Mo_judge_162 rfl (lv_at hl 1 rfl) ?_
      obtain ⟨n163, s163, hy, hi, hw⟩ := hw
      refine zr_zald hx hb hK hG 2 hy rfl hi kb_Mo_judge_163 ?_
      refine lv_if_eq (tgt := 176) hx hb kb_Mo_judge_164 (by decide) (fun hc => ?_) (fun hc => ?_)
      · have hw := hw.1 hc
        exact hw _ _ _ hG hS (lv_sub hl [0, 2, 3] rfl)
      · have hw := hw.2 hc
        refine lv_aload_n hx hb kb_Mo_judge_167 rfl (lv_at hl 0 rfl) ?_
        obtain ⟨hy, r168, hrf, hw⟩ := hw
        refine zr_getR (ci := 8) (f := 811) hx hb hts ki_Mo hown hK hG hy rfl 11 (by decide) (hts _ (List.mem_cons_of_mem _ kw_595)) (fun _ h => h) rfl rfl hrf kb_Mo_judge_168 ?_
        refine lv_iload_n hx hb kb_Mo_judge_171 rfl (lv_at hl 1 rfl) ?_
        obtain ⟨n172, s172, hy, hi, hw⟩ := hw
        refine zr_iald hx hb hK hG 0 hy rfl hi kb_Mo_judge_172 ?_
        refine lv_if_eq (tgt := 186) hx hb kb_Mo_judge_173 (by decide) (fun hc => ?_) (fun hc => ?_)
        · have hw := hw.1 hc
          exact hw _ _ _ hG hS (lv_sub hl [0] rfl)
        · have hw := hw.2 hc
          exact hw _ _ _ hG hS (lv_sub hl [0, 2, 3] rfl)
    · have hw := hw.2 hc
      refine lv_aload_n hx hb kb_Mo_judge_111 rfl (lv_at hl 0 rfl) ?_
      obtain ⟨hy, r112, hrf, hw⟩ := hw
      refine zr_getR (ci := 8) (f := 809) hx hb hts ki_Mo hown hK hG hy rfl 9 (by decide) (hts _ (List.mem_cons_of_mem _ kw_593)) (fun _ h => h) rfl rfl hrf kb_Mo_judge_112 ?_
      refine lv_iload hx hb kb_Mo_judge_115 (lv_at hl 4 rfl) ?_
      obtain ⟨n117, s117, hy, hi, hw⟩ := hw
      refine zr_iald hx hb hK hG 0 hy rfl hi kb_Mo_judge_117 ?_
      refine lv_aload_n hx hb kb_Mo_judge_118 rfl (lv_at hl 0 rfl) ?_
      obtain ⟨hy, r119, hrf, hw⟩ := hw
      refine zr_getR (ci := 8) (f := 809) hx hb hts ki_Mo hown hK hG hy rfl 9 (by decide) (hts _ (List.mem_cons_of_mem _ kw_593)) (fun _ h => h) rfl rfl hrf kb_Mo_judge_119 ?_
      refine lv_iload_n hx hb kb_Mo_judge_122 rfl (lv_at hl 1 rfl) ?_
      obtain ⟨n123, s123, hy, hi, hw⟩ := hw
      refine zr_iald hx hb hK hG 0 hy rfl hi kb_Mo_judge_123 ?_
      refine lv_icmp_ne (tgt := 152) hx hb kb_Mo_judge_124 (by decide) (fun hc => ?_) (fun hc => ?_)
      · have hw := hw.1 hc
        refine lv_iinc (v := v6 + (1 : Int32)) (lv' := [(6, .int (v6 + (1 : Int32))), (0, .ref a0), (1, .int x1), (4, .int v4), (5, .int v5)]) hx hb kb_Mo_judge_152 hl (k := 4) rfl rfl (by decide) rfl (fun ls hl => ?_)
        refine lv_goto (tgt := 105) hx hb kb_Mo_judge_155 (by decide) ?_
        exact hw _ _ _ hG hS (lv_sub hl [1, 2, 3, 4, 0] rfl)
      · have hw := hw.2 hc
        refine lv_iconst (v := (0 : Int32)) hx hb kb_Mo_judge_127 (by decide) ?_
        refine lv_istore (lv' := [(4, .int ((0 : Int32))), (0, .ref a0), (1, .int x1), (5, .int v5), (6, .int v6)]) hx hb kb_Mo_judge_128 hl (by decide) rfl (fun ls hl => ?_)
        refine lv_iload hx hb kb_Mo_judge_130 (lv_at hl 3 rfl) ?_
        refine lv_if_ne (tgt := 145) hx hb kb_Mo_judge_132 (by decide) (fun hc => ?_) (fun hc => ?_)
        · have hw := hw.1 hc
          refine lv_iconst (v := (1 : Int32)) hx hb kb_Mo_judge_145 (by decide) ?_
          refine lv_goto (tgt := 150) hx hb kb_Mo_judge_146 (by decide) ?_
          refine lv_istore (lv' := [(5, .int ((1 : Int32))), (4, .int ((0 : Int32))), (0, .ref a0), (1, .int x1), (6, .int v6)]) hx hb kb_Mo_judge_150 hl (by decide) rfl (fun ls hl => ?_)
          refine lv_iinc (v := v6 + (1 : Int32)) (lv' := [(6, .int (v6 + (1 : Int32))), (5, .int ((1 : Int32))), (4, .int ((0 : Int32))), (0, .ref a0), (1, .int x1)]) hx hb kb_Mo_judge_152 hl (k := 4) rfl rfl (by decide) rfl (fun ls hl => ?_)
          refine lv_goto (tgt := 105) hx hb kb_Mo_judge_155 (by decide) ?_
          exact hw _ _ _ hG hS (lv_sub hl [3, 4, 2, 1, 0] rfl)
        · have hw := hw.2 hc
          refine lv_aload_n hx hb kb_Mo_judge_135 rfl (lv_at hl 1 rfl) ?_
          obtain ⟨hy, r136, hrf, hw⟩ := hw
          refine zr_getR (ci := 8) (f := 815) hx hb hts ki_Mo hown hK hG hy rfl 15 (by decide) (hts _ (List.mem_cons_of_mem _ kw_599)) (fun _ h => h) rfl rfl hrf kb_Mo_judge_136 ?_
          refine lv_iload hx hb kb_Mo_judge_139 (lv_at hl 4 rfl) ?_
          obtain ⟨n141, s141, hy, hi, hw⟩ := hw
          refine zr_zald hx hb hK hG 2 hy rfl hi kb_Mo_judge_141 ?_
          refine lv_if_eq (tgt := 149) hx hb kb_Mo_judge_142 (by decide) (fun hc => ?_) (fun hc => ?_)
          · have hw := hw.1 hc
            refine lv_iconst (v := (0 : Int32)) hx hb kb_Mo_judge_149 (by decide) ?_
            refine lv_istore (lv' := [(5, .int ((0 : Int32))), (4, .int ((0 : Int32))), (0, .ref a0), (1, .int x1), (6, .int v6)]) hx hb kb_Mo_judge_150 hl (by decide) rfl (fun ls hl => ?_)
            refine lv_iinc (v := v6 + (1 : Int32)) (lv' := [(6, .int (v6 + (1 : Int32))), (5, .int ((0 : Int32))), (4, .int ((0 : Int32))), (0, .ref a0), (1, .int x1)]) hx hb kb_Mo_judge_152 hl (k := 4) rfl rfl (by decide) rfl (fun ls hl => ?_)
            refine lv_goto (tgt := 105) hx hb kb_Mo_judge_155 (by decide) ?_
            exact hw _ _ _ hG hS (lv_sub hl [3, 4, 2, 1, 0] rfl)
          · have hw := hw.2 hc
            refine lv_iconst (v := (1 : Int32)) hx hb kb_Mo_judge_145 (by decide) ?_
            refine lv_goto (tgt := 150) hx hb kb_Mo_judge_146 (by decide) ?_
            refine lv_istore (lv' := [(5, .int ((1 : Int32))), (4, .int ((0 : Int32))), (0, .ref a0), (1, .int x1), (6, .int v6)]) hx hb kb_Mo_judge_150 hl (by decide) rfl (fun ls hl => ?_)
            refine lv_iinc (v := v6 + (1 : Int32)) (lv' := [(6, .int (v6 + (1 : Int32))), (5, .int ((1 : Int32))), (4, .int ((0 : Int32))), (0, .ref a0), (1, .int x1)]) hx hb kb_Mo_judge_152 hl (k := 4) rfl rfl (by decide) rfl (fun ls hl => ?_)
            refine lv_goto (tgt := 105) hx hb kb_Mo_judge_155 (by decide) ?_
            exact hw _ _ _ hG hS (lv_sub hl [3, 4, 2, 1, 0] rfl))
  have hw := hw (by
    intro v4 v5 σ hw H locs ls hG hS hl
    refine lv_iload hx hb kb_Mo_judge_176 (lv_at hl 2 rfl) ?_
    refine lv_if_eq (tgt := 191) hx hb kb_Mo_judge_178 (by decide) (fun hc => ?_) (fun hc => ?_)
    · have hw := hw.1 hc
      exact zr_vret z_nwN hx hb hr hZ hK hN hG hS hw kb_Mo_judge_191 hlocks
    · have hw := hw.2 hc
      refine lv_iload hx hb kb_Mo_judge_181 (lv_at hl 1 rfl) ?_
      refine lv_if_ne (tgt := 191) hx hb kb_Mo_judge_183 (by decide) (fun hc => ?_) (fun hc => ?_)
      · have hw := hw.1 hc
        exact zr_vret z_nwN hx hb hr hZ hK hN hG hS hw kb_Mo_judge_191 hlocks
      · have hw := hw.2 hc
        exact hw _ _ _ hG hS (lv_sub hl [0] rfl))
  have hw := hw (by
    intro σ hw H locs ls hG hS hl
    refine lv_aload_n hx hb kb_Mo_judge_186 rfl (lv_at hl 0 rfl) ?_
    refine lv_iconst (v := (5 : Int32)) hx hb kb_Mo_judge_187 (by decide) ?_
    obtain ⟨hy, hw⟩ := hw
    refine zr_cv (va_runV (C := kR_Mo) (As := [.int ((5 : Int32))]) (rest := []) ⟨hx, hb, hml, hown, hts⟩ (kc_Mo_wrong l D dA Z a0 ((5 : Int32)) σ _) ⟨callB_of 1 hts (z_gw kw_712) rfl rfl rfl (hts _ (List.mem_cons_of_mem _ kw_9)) (hts _ (List.mem_cons_of_mem _ kw_710)) (by decide +kernel) ⟨Nat.le_of_ble_eq_true rfl, Nat.le_of_ble_eq_true rfl⟩, (hts _ (List.mem_cons_of_mem _ kw_711)), (hts _ (List.mem_cons_of_mem _ kw_955))⟩ (z_preV z_nwN (Nat.le_trans hZ hS.1) hG hK hN hy (ci := 8) (r := (kR_Mo, kT_Mo, 51)) rfl hw) rfl rfl hl.1 rfl (lv_room (Nat.le_of_ble_eq_true rfl)) kb_Mo_judge_188 ⟨Nat.le_of_ble_eq_true rfl, Nat.le_of_ble_eq_true rfl⟩) hS (fun σ188 H locs hw hG hS => ?_)
    exact zr_vret z_nwN hx hb hr hZ hK hN hG hS hw kb_Mo_judge_191 hlocks)
  refine lv_iconst (v := (0 : Int32)) hx hb kb_Mo_judge_0 (by decide) ?_
  refine lv_istore_n (lv' := [(2, .int ((0 : Int32))), (0, .ref a0), (1, .int x1)]) hx hb kb_Mo_judge_1 rfl hl (by decide) rfl (fun ls hl => ?_)
  refine lv_aload_n hx hb kb_Mo_judge_2 rfl (lv_at hl 1 rfl) ?_
  obtain ⟨hy, r3, hrf, hw⟩ := hw
  refine zr_getR (ci := 8) (f := 810) hx hb hts ki_Mo hown hK hG hy rfl 10 (by decide) (hts _ (List.mem_cons_of_mem _ kw_594)) (fun _ h => h) rfl rfl hrf kb_Mo_judge_3 ?_
  refine lv_iconst (v := (3 : Int32)) hx hb kb_Mo_judge_6 (by decide) ?_
  refine lv_iload_n hx hb kb_Mo_judge_7 rfl (lv_at hl 2 rfl) ?_
  refine lv_imul hx hb kb_Mo_judge_8 ?_
  refine zr_ci (va_runS (As := [.ref r3, .int (((3 : Int32)) * x1)]) (rest := []) ⟨hx, hb, hml, hown, hts⟩ (kc_Mo_lettersOf l D dA Z r3 (((3 : Int32)) * x1) σ _) ⟨callB_of 2 hts (z_gw kw_742) rfl rfl rfl (hts _ (List.mem_cons_of_mem _ kw_9)) (hts _ (List.mem_cons_of_mem _ kw_740)) (by decide +kernel) ⟨Nat.le_of_ble_eq_true rfl, Nat.le_of_ble_eq_true rfl⟩, (hts _ (List.mem_cons_of_mem _ kw_741))⟩ (z_preS z_nwN (Nat.le_trans hZ hS.1) hG hK hN hw) rfl rfl hl.1 rfl (lv_room (Nat.le_of_ble_eq_true rfl)) kb_Mo_judge_9 ⟨Nat.le_of_ble_eq_true rfl, Nat.le_of_ble_eq_true rfl⟩) hS (fun r9 σ9 H locs hw hG hS => ?_)
  refine lv_istore_n (lv' := [(3, .int r9), (2, .int ((0 : Int32))), (0, .ref a0), (1, .int x1)]) hx hb kb_Mo_judge_12 rfl hl (by decide) rfl (fun ls hl => ?_)
  refine lv_iconst (v := (0 : Int32)) hx hb kb_Mo_judge_13 (by decide) ?_
  refine lv_istore (lv' := [(4, .int ((0 : Int32))), (3, .int r9), (2, .int ((0 : Int32))), (0, .ref a0), (1, .int x1)]) hx hb kb_Mo_judge_14 hl (by decide) rfl (fun ls hl => ?_)
  exact hw _ _ _ hG hS (lv_sub hl [3, 4, 2, 1, 0] rfl)
def kp_Mo_rule (a0 : Nat) (σ : z_S) (Post : z_S → Prop) : Prop := ∀ (X48 : Int32 → z_S → Prop) (X129 : Int32 → z_S → Prop) (X163 : Int32 → z_S → Prop) (X184 : Int32 → z_S → Prop) (X196 : Int32 → z_S → Prop),
    (∀ (v1 : Int32) (σ : z_S), (z_ty σ a0 = some (.inl 8) ∧ ∃ r49, z_R σ 809 a0 = some r49 ∧ (z_ty σ a0 = some (.inl 8) ∧ kp_Mo_relationAt a0 σ (fun (r54 : Int32) (σ54 : z_S) => ∃ n57 s57, z_ty σ54 r49 = some (.inr (0, n57, s57)) ∧ vp_in v1 n57 ∧ ∀ σ57, σ57 = z_sA σ54 s57 r49 (upd (z_A σ54 s57 r49) v1.toNatClampNeg r54) → z_ty σ57 a0 = some (.inl 8) ∧ ((((z_I σ57 806 a0)) = 0 → z_ty σ57 a0 = some (.inl 8) ∧ ∃ r69, z_R σ57 809 a0 = some r69 ∧ (∃ n73 s73, z_ty σ57 r69 = some (.inr (0, n73, s73)) ∧ vp_in v1 n73 ∧ (z_ty σ57 a0 = some (.inl 8) ∧ ∃ r75, z_R σ57 810 a0 = some r75 ∧ (z_ty σ57 a0 = some (.inl 8) ∧ kp_Mo_terms a0 v1 (z_A σ57 s73 r69 v1.toNatClampNeg) r75 (((3 : Int32)) * v1) ((1 : Int32)) σ57 (fun (σ82 : z_S) => z_ty σ82 a0 = some (.inl 8) ∧ ((¬ ((z_I σ82 806 a0)) = 0 → X163 v1 σ82) ∧ (((z_I σ82 806 a0)) = 0 → z_ty σ82 a0 = some (.inl 8) ∧ kp_Mo_sign a0 σ82 (fun (r93 : Int32) (σ93 : z_S) => (¬ r93 = ((58 : Int32)) → X163 v1 σ93) ∧ (r93 = ((58 : Int32)) → z_ty σ93 a0 = some (.inl 8) ∧ (z_ty σ93 a0 = some (.inl 8) ∧ ∀ σ108, σ108 = z_sI σ93 805 a0 ((z_I σ93 805 a0) + ((1 : Int32))) → z_ty σ108 a0 = some (.inl 8) ∧ kp_Mo_take a0 ((45 : Int32)) σ108 (fun (σ114 : z_S) => z_ty σ114 a0 = some (.inl 8) ∧ ((¬ ((z_I σ114 806 a0)) = 0 → X129 v1 σ114) ∧ (((z_I σ114 806 a0)) = 0 → z_ty σ114 a0 = some (.inl 8) ∧ kp_Mo_literal a0 v1 σ114 (fun (σ126 : z_S) => X129 v1 σ126)))))))))))))) ∧ (¬ ((z_I σ57 806 a0)) = 0 → Post σ57))))) → X48 v1 σ) →
    (∀ (v1 : Int32) (σ : z_S), (z_ty σ a0 = some (.inl 8) ∧ ((¬ ((z_I σ 806 a0)) = 0 → X163 v1 σ) ∧ (((z_I σ 806 a0)) = 0 → z_ty σ a0 = some (.inl 8) ∧ kp_Mo_sign a0 σ (fun (r137 : Int32) (σ137 : z_S) => (¬ r137 = ((44 : Int32)) → X163 v1 σ137) ∧ (r137 = ((44 : Int32)) → z_ty σ137 a0 = some (.inl 8) ∧ (z_ty σ137 a0 = some (.inl 8) ∧ ∀ σ152, σ152 = z_sI σ137 805 a0 ((z_I σ137 805 a0) + ((1 : Int32))) → z_ty σ152 a0 = some (.inl 8) ∧ kp_Mo_literal a0 v1 σ152 (fun (σ157 : z_S) => X129 v1 σ157))))))) → X129 v1 σ) →
    (∀ (v1 : Int32) (σ : z_S), (z_ty σ a0 = some (.inl 8) ∧ ((¬ ((z_I σ 806 a0)) = 0 → X184 v1 σ) ∧ (((z_I σ 806 a0)) = 0 → z_ty σ a0 = some (.inl 8) ∧ kp_Mo_sign a0 σ (fun (r171 : Int32) (σ171 : z_S) => (r171 = ((46 : Int32)) → X184 v1 σ171) ∧ (¬ r171 = ((46 : Int32)) → z_ty σ171 a0 = some (.inl 8) ∧ kp_Mo_wrong a0 ((1 : Int32)) σ171 (fun (σ181 : z_S) => X184 v1 σ181)))))) → X163 v1 σ) →
    (∀ (v1 : Int32) (σ : z_S), (z_ty σ a0 = some (.inl 8) ∧ ((¬ ((z_I σ 806 a0)) = 0 → X196 v1 σ) ∧ (((z_I σ 806 a0)) = 0 → z_ty σ a0 = some (.inl 8) ∧ kp_Mo_judge a0 v1 σ (fun (σ193 : z_S) => X196 v1 σ193)))) → X184 v1 σ) →
    (∀ (v1 : Int32) (σ : z_S), (z_ty σ a0 = some (.inl 8) ∧ ((¬ ((z_I σ 806 a0)) = 0 → Post σ) ∧ (((z_I σ 806 a0)) = 0 → z_ty σ a0 = some (.inl 8) ∧ (z_ty σ a0 = some (.inl 8) ∧ ∀ σ210, σ210 = z_sI σ 805 a0 ((z_I σ 805 a0) + ((1 : Int32))) → z_ty σ210 a0 = some (.inl 8) ∧ ∃ r214, z_R σ210 820 a0 = some r214 ∧ (z_ty σ210 a0 = some (.inl 8) ∧ ∃ r218, z_R σ210 809 a0 = some r218 ∧ (∃ n222 s222, z_ty σ210 r218 = some (.inr (0, n222, s222)) ∧ vp_in v1 n222 ∧ (∃ n224 s224, z_ty σ210 r214 = some (.inr (2, n224, s224)) ∧ vp_in (z_A σ210 s222 r218 v1.toNatClampNeg) n224 ∧ ∀ σ224, σ224 = z_sA σ210 s224 r214 (upd (z_A σ210 s224 r214) (z_A σ210 s222 r218 v1.toNatClampNeg).toNatClampNeg (vp_nar .boolean ((1 : Int32)))) → z_ty σ224 a0 = some (.inl 8) ∧ (z_ty σ224 a0 = some (.inl 8) ∧ ∀ σ232, σ232 = z_sI σ224 808 a0 ((z_I σ224 808 a0) + ((1 : Int32))) → Post σ232)))))))) → X196 v1 σ) →
    (z_ty σ a0 = some (.inl 8) ∧ (z_ty σ a0 = some (.inl 8) ∧ ∃ r6, z_R σ 811 a0 = some r6 ∧ (∃ n11 s11, z_ty σ r6 = some (.inr (0, n11, s11)) ∧ vp_in (z_I σ 808 a0) n11 ∧ ∀ σ11, σ11 = z_sA σ s11 r6 (upd (z_A σ s11 r6) (z_I σ 808 a0).toNatClampNeg ((0 : Int32))) → z_ty σ11 a0 = some (.inl 8) ∧ ∃ r13, z_R σ11 816 a0 = some r13 ∧ (∃ n18 s18, z_ty σ11 r13 = some (.inr (0, n18, s18)) ∧ vp_in (z_I σ 808 a0) n18 ∧ ∀ σ18, σ18 = z_sA σ11 s18 r13 (upd (z_A σ11 s18 r13) (z_I σ 808 a0).toNatClampNeg ((0 : Int32))) → z_ty σ18 a0 = some (.inl 8) ∧ ∃ r20, z_R σ18 815 a0 = some r20 ∧ (∃ n25 s25, z_ty σ18 r20 = some (.inr (2, n25, s25)) ∧ vp_in (z_I σ 808 a0) n25 ∧ ∀ σ25, σ25 = z_sA σ18 s25 r20 (upd (z_A σ18 s25 r20) (z_I σ 808 a0).toNatClampNeg (vp_nar .boolean ((0 : Int32)))) → z_ty σ25 a0 = some (.inl 8) ∧ kp_Mo_sign a0 σ25 (fun (r27 : Int32) (σ27 : z_S) => kp_Mo_isName r27 σ27 (fun (r30 : Int32) (σ30 : z_S) => (r30 = 0 → X48 (z_I σ 808 a0) σ30) ∧ (¬ r30 = 0 → (¬ (z_I σ 808 a0) = ((16 : Int32)) → X48 (z_I σ 808 a0) σ30) ∧ ((z_I σ 808 a0) = ((16 : Int32)) → z_ty σ30 a0 = some (.inl 8) ∧ kp_Mo_wrong a0 ((3 : Int32)) σ30 (fun (σ44 : z_S) => Post σ44))))))))))
set_option maxHeartbeats 4000000 in
set_option maxRecDepth 100000 in
theorem kc_Mo_rule (l : Launch) (D : va_G) (dA : Nat → ClassId) (Z : Nat) (a0 : Nat) (σ : z_S) (Post : z_S → Prop) : Met l km_Mo_rule ks_Mo_rule kr_Mo_rule (va_Pc [.ref a0] (fun U => z_U D z_cl z_KT dA Z (z_tys dA) z_nw σ U ∧ kp_Mo_rule  a0 σ Post)) (z_Qv D z_cl z_KT dA Z (z_tys dA) z_nw Post) 0 0 (fun q => Z ≤ q) := by
  refine Met.ofW (cc := prog_10_method_15_code) (maxL := 2) (ret := none) (by decide) rfl ?_
  intro p e s m args below meth c s₁ B hml hv
  obtain ⟨rfl, ⟨hZ, hG, hK, hN⟩, hw⟩ := hv
  have hx := B.exec
  have hb := B.bytes
  have hr := B.returns
  have hts := atoms_spec (ws := ks_Mo_rule) B.pre
  have hown : s.vm.findClass kR_Mo = some m.cls := findClass_of_methodNamed B.named
  have hlocks := B.notSynchronized
  have hS : va_S (fun q => Z ≤ q) s.heap s.heap [] := va_S.rf
  have hl := lv_entry ([.ref a0]) (n := 2) (Nat.le_of_ble_eq_true rfl)
  rw [lg_entry_eq]
  generalize (lg_sl ([.ref a0]) ++ List.replicate (2 - (lg_sl ([.ref a0])).length) Slot.unset).toArray = ls at hl ⊢
  have hl : lv_has ls 2 [(0, .ref a0)] := hl
  unfold kp_Mo_rule at hw
  have hw := hw (fun (v1 : Int32) (σ : z_S) => ∀ (H : Heap) (locs : List Loc) (ls : Array Slot), z_G D z_cl z_KT dA Z σ H → va_S (fun q => Z ≤ q) s.heap H locs → lv_has ls 2 [(0, .ref a0), (1, .int v1)] → W p l e (headSpec ks_Mo_rule kr_Mo_rule).room s m ([.ref a0] : List Value).toArray below meth c H locs 0 0 (MQ below (z_Qv D z_cl z_KT dA Z (z_tys dA) z_nw Post) ([.ref a0] : List Value).toArray s 0 0 (fun q => Z ≤ q)) (F0 m 48 ls []))
  have hw := hw (fun (v1 : Int32) (σ : z_S) => ∀ (H : Heap) (locs : List Loc) (ls : Array Slot), z_G D z_cl z_KT dA Z σ H → va_S (fun q => Z ≤ q) s.heap H locs → lv_has ls 2 [(0, .ref a0), (1, .int v1)] → W p l e (headSpec ks_Mo_rule kr_Mo_rule).room s m ([.ref a0] : List Value).toArray below meth c H locs 0 0 (MQ below (z_Qv D z_cl z_KT dA Z (z_tys dA) z_nw Post) ([.ref a0] : List Value).toArray s 0 0 (fun q => Z ≤ q)) (F0 m 129 ls []))
  have hw := hw (fun (v1 : Int32) (σ : z_S) => ∀ (H : Heap) (locs : List Loc) (ls : Array Slot), z_G D z_cl z_KT dA Z σ H → va_S (fun q => Z ≤ q) s.heap H locs → lv_has ls 2 [(0, .ref a0), (1, .int v1)] → W p l e (headSpec ks_Mo_rule kr_Mo_rule).room s m ([.ref a0] : List Value).toArray below meth c H locs 0 0 (MQ below (z_Qv D z_cl z_KT dA Z (z_tys dA) z_nw Post) ([.ref a0] : List Value).toArray s 0 0 (fun q => Z ≤ q)) (F0 m 163 ls []))
  have hw := hw (fun (v1 : Int32) (σ : z_S) => ∀ (H : Heap) (locs : List Loc) (ls : Array Slot), z_G D z_cl z_KT dA Z σ H → va_S (fun q => Z ≤ q) s.heap H locs → lv_has ls 2 [(0, .ref a0), (1, .int v1)] → W p l e (headSpec ks_Mo_rule kr_Mo_rule).room s m ([.ref a0] : List Value).toArray below meth c H locs 0 0 (MQ below (z_Qv D z_cl z_KT dA Z (z_tys dA) z_nw Post) ([.ref a0] : List Value).toArray s 0 0 (fun q => Z ≤ q)) (F0 m 184 ls []))
  have hw := hw (fun (v1 : Int32) (σ : z_S) => ∀ (H : Heap) (locs : List Loc) (ls : Array Slot), z_G D z_cl z_KT dA Z σ H → va_S (fun q => Z ≤ q) s.heap H locs → lv_has ls 2 [(0, .ref a0), (1, .int v1)] → W p l e (headSpec ks_Mo_rule kr_Mo_rule).room s m ([.ref a0] : List Value).toArray below meth c H locs 0 0 (MQ below (z_Qv D z_cl z_KT dA Z (z_tys dA) z_nw Post) ([.ref a0] : List Value).toArray s 0 0 (fun q => Z ≤ q)) (F0 m 196 ls []))
  have hw := hw (by
    intro v1 σ hw H locs ls hG hS hl
    refine lv_aload_n hx hb kb_Mo_rule_48 rfl (lv_at hl 0 rfl) ?_
    obtain ⟨hy, r49, hrf, hw⟩ := hw
    refine zr_getR (ci := 8) (f := 809) hx hb hts ki_Mo hown hK hG hy rfl 9 (by decide) (hts _ (List.mem_cons_of_mem _ kw_593)) (fun _ h => h) rfl rfl hrf kb_Mo_rule_49 ?_
    refine lv_iload_n hx hb kb_Mo_rule_52 rfl (lv_at hl 1 rfl) ?_
    refine lv_aload_n hx hb kb_Mo_rule_53 rfl (lv_at hl 0 rfl) ?_
    obtain ⟨hy, hw⟩ := hw
    refine zr_ci (va_runV (C := kR_Mo) (As := []) (rest := [.int v1, .ref r49]) ⟨hx, hb, hml, hown, hts⟩ (kc_Mo_relationAt l D dA Z a0 σ _) ⟨callB_of 0 hts (z_gw kw_715) rfl rfl rfl (hts _ (List.mem_cons_of_mem _ kw_9)) (hts _ (List.mem_cons_of_mem _ kw_713)) (by decide +kernel) ⟨Nat.le_of_ble_eq_true rfl, Nat.le_of_ble_eq_true rfl⟩, (hts _ (List.mem_cons_of_mem _ kw_714)), (hts _ (List.mem_cons_of_mem _ kw_956))⟩ (z_preV z_nwN (Nat.le_trans hZ hS.1) hG hK hN hy (ci := 8) (r := (kR_Mo, kT_Mo, 51)) rfl hw) rfl rfl hl.1 rfl (lv_room (Nat.le_of_ble_eq_true rfl)) kb_Mo_rule_54 ⟨Nat.le_of_ble_eq_true rfl, Nat.le_of_ble_eq_true rfl⟩) hS (fun r54 σ54 H locs hw hG hS => ?_)
    obtain ⟨n57, s57, hy, hi, hw⟩ := hw
    refine zr_iast hx hb hK hG hS 0 hy rfl hi kb_Mo_rule_57 (fun H locs hG hS => ?_)
    obtain ⟨σ57, e57⟩ : ∃ z, z = z_sA σ54 s57 r49 (upd (z_A σ54 s57 r49) v1.toNatClampNeg r54) := ⟨_, rfl⟩
    rw [← e57] at hG
    have hw := hw _ e57
    refine lv_aload_n hx hb kb_Mo_rule_58 rfl (lv_at hl 0 rfl) ?_
    obtain ⟨hy, hw⟩ := hw
    refine zr_getI (ci := 8) (f := 806) hx hb hts ki_Mo hown hK hG hy rfl 6 (by decide) (hts _ (List.mem_cons_of_mem _ kw_590)) (fun _ h => h) rfl rfl kb_Mo_rule_59 ?_
    refine lv_if_eq (tgt := 66) hx hb kb_Mo_rule_62 (by decide) (fun hc => ?_) (fun hc => ?_)
    · have hw := hw.1 hc
      refine lv_aload_n hx hb kb_Mo_rule_66 rfl (lv_at hl 0 rfl) ?_
      refine lv_iload_n hx hb kb_Mo_rule_67 rfl (lv_at hl 1 rfl) ?_
      refine lv_aload_n hx hb kb_Mo_rule_68 rfl (lv_at hl 0 rfl) ?_
      obtain ⟨hy, r69, hrf, hw⟩ := hw
      refine zr_getR (ci := 8) (f := 809) hx hb hts ki_Mo hown hK hG hy rfl 9 (by decide) (hts _ (List.mem_cons_of_mem _ kw_593)) (fun _ h => h) rfl rfl hrf kb_Mo_rule_69 ?_
      refine lv_iload_n hx hb kb_Mo_rule_72 rfl (lv_at hl 1 rfl) ?_
      obtain ⟨n73, s73, hy, hi, hw⟩ := hw
      refine zr_iald hx hb hK hG 0 hy rfl hi kb_Mo_rule_73 ?_
      refine lv_aload_n hx hb kb_Mo_rule_74 rfl (lv_at hl 0 rfl) ?_
      obtain ⟨hy, r75, hrf, hw⟩ := hw
      refine zr_getR (ci := 8) (f := 810) hx hb hts ki_Mo hown hK hG hy rfl 10 (by decide) (hts _ (List.mem_cons_of_mem _ kw_594)) (fun _ h => h) rfl rfl hrf kb_Mo_rule_75 ?_
      refine lv_iconst (v := (3 : Int32)) hx hb kb_Mo_rule_78 (by decide) ?_
      refine lv_iload_n hx hb kb_Mo_rule_79 rfl (lv_at hl 1 rfl) ?_
      refine lv_imul hx hb kb_Mo_rule_80 ?_
      refine lv_iconst (v := (1 : Int32)) hx hb kb_Mo_rule_81 (by decide) ?_
      obtain ⟨hy, hw⟩ := hw
      refine zr_cv (va_runV (C := kR_Mo) (As := [.int v1, .int (z_A σ57 s73 r69 v1.toNatClampNeg), .ref r75, .int (((3 : Int32)) * v1), .int ((1 : Int32))]) (rest := []) ⟨hx, hb, hml, hown, hts⟩ (kc_Mo_terms l D dA Z a0 v1 (z_A σ57 s73 r69 v1.toNatClampNeg) r75 (((3 : Int32)) * v1) ((1 : Int32)) σ57 _) ⟨callB_of 5 hts (z_gw kw_718) rfl rfl rfl (hts _ (List.mem_cons_of_mem _ kw_9)) (hts _ (List.mem_cons_of_mem _ kw_716)) (by decide +kernel) ⟨Nat.le_of_ble_eq_true rfl, Nat.le_of_ble_eq_true rfl⟩, (hts _ (List.mem_cons_of_mem _ kw_717)), (hts _ (List.mem_cons_of_mem _ kw_957))⟩ (z_preV z_nwN (Nat.le_trans hZ hS.1) hG hK hN hy (ci := 8) (r := (kR_Mo, kT_Mo, 51)) rfl hw) rfl rfl hl.1 rfl (lv_room (Nat.le_of_ble_eq_true rfl)) kb_Mo_rule_82 ⟨Nat.le_of_ble_eq_true rfl, Nat.le_of_ble_eq_true rfl⟩) hS (fun σ82 H locs hw hG hS => ?_)
      refine lv_aload_n hx hb kb_Mo_rule_85 rfl (lv_at hl 0 rfl) ?_
      obtain ⟨hy, hw⟩ := hw
      refine zr_getI (ci := 8) (f := 806) hx hb hts ki_Mo hown hK hG hy rfl 6 (by decide) (hts _ (List.mem_cons_of_mem _ kw_590)) (fun _ h => h) rfl rfl kb_Mo_rule_86 ?_
      refine lv_if_ne (tgt := 163) hx hb kb_Mo_rule_89 (by decide) (fun hc => ?_) (fun hc => ?_)
      · have hw := hw.1 hc
        exact hw _ _ _ hG hS (lv_sub hl [0, 1] rfl)
      · have hw := hw.2 hc
        refine lv_aload_n hx hb kb_Mo_rule_92 rfl (lv_at hl 0 rfl) ?_
        obtain ⟨hy, hw⟩ := hw
        refine zr_ci (va_runV (C := kR_Mo) (As := []) (rest := []) ⟨hx, hb, hml, hown, hts⟩ (kc_Mo_sign l D dA Z a0 σ82 _) ⟨callB_of 0 hts (z_gw kw_706) rfl rfl rfl (hts _ (List.mem_cons_of_mem _ kw_9)) (hts _ (List.mem_cons_of_mem _ kw_704)) (by decide +kernel) ⟨Nat.le_of_ble_eq_true rfl, Nat.le_of_ble_eq_true rfl⟩, (hts _ (List.mem_cons_of_mem _ kw_705)), (hts _ (List.mem_cons_of_mem _ kw_954))⟩ (z_preV z_nwN (Nat.le_trans hZ hS.1) hG hK hN hy (ci := 8) (r := (kR_Mo, kT_Mo, 51)) rfl hw) rfl rfl hl.1 rfl (lv_room (Nat.le_of_ble_eq_true rfl)) kb_Mo_rule_93 ⟨Nat.le_of_ble_eq_true rfl, Nat.le_of_ble_eq_true rfl⟩) hS (fun r93 σ93 H locs hw hG hS => ?_)
        refine lv_bipush (v := (58 : Int32)) hx hb kb_Mo_rule_96 (by decide) ?_
        refine lv_icmp_ne (tgt := 163) hx hb kb_Mo_rule_98 (by decide) (fun hc => ?_) (fun hc => ?_)
        · have hw := hw.1 hc
          exact hw _ _ _ hG hS (lv_sub hl [0, 1] rfl)
        · have hw := hw.2 hc
          refine lv_aload_n hx hb kb_Mo_rule_101 rfl (lv_at hl 0 rfl) ?_
          refine lv_dup hx hb kb_Mo_rule_102 rfl ?_
          obtain ⟨hy, hw⟩ := hw
          refine zr_getI (ci := 8) (f := 805) hx hb hts ki_Mo hown hK hG hy rfl 5 (by decide) (hts _ (List.mem_cons_of_mem _ kw_589)) (fun _ h => h) rfl rfl kb_Mo_rule_103 ?_
          refine lv_iconst (v := (1 : Int32)) hx hb kb_Mo_rule_106 (by decide) ?_
          refine lv_iadd hx hb kb_Mo_rule_107 ?_
          obtain ⟨hy, hw⟩ := hw
          refine zr_putI (ci := 8) (f := 805) hx hb hts ki_Mo ky_Mo kyo_Mo kn_Mo hown hK hG hS hy rfl 5 (by decide) (hts _ (List.mem_cons_of_mem _ kw_589)) (fun _ h => h) rfl rfl rfl rfl rfl kb_Mo_rule_108 (fun H locs hG hS => ?_)
          obtain ⟨σ108, e108⟩ : ∃ z, z = z_sI σ93 805 a0 ((z_I σ93 805 a0) + ((1 : Int32))) := ⟨_, rfl⟩
          rw [← e108] at hG
          have hw := hw _ e108
          refine lv_aload_n hx hb kb_Mo_rule_111 rfl (lv_at hl 0 rfl) ?_
          refine lv_bipush (v := (45 : Int32)) hx hb kb_Mo_rule_112 (by decide) ?_
          obtain ⟨hy, hw⟩ := hw
          refine zr_cv (va_runV (C := kR_Mo) (As := [.int ((45 : Int32))]) (rest := []) ⟨hx, hb, hml, hown, hts⟩ (kc_Mo_take l D dA Z a0 ((45 : Int32)) σ108 _) ⟨callB_of 1 hts (z_gw kw_721) rfl rfl rfl (hts _ (List.mem_cons_of_mem _ kw_9)) (hts _ (List.mem_cons_of_mem _ kw_719)) (by decide +kernel) ⟨Nat.le_of_ble_eq_true rfl, Nat.le_of_ble_eq_true rfl⟩, (hts _ (List.mem_cons_of_mem _ kw_720)), (hts _ (List.mem_cons_of_mem _ kw_958))⟩ (z_preV z_nwN (Nat.le_trans hZ hS.1) hG hK hN hy (ci := 8) (r := (kR_Mo, kT_Mo, 51)) rfl hw) rfl rfl hl.1 rfl (lv_room (Nat.le_of_ble_eq_true rfl)) kb_Mo_rule_114 ⟨Nat.le_of_ble_eq_true rfl, Nat.le_of_ble_eq_true rfl⟩) hS (fun σ114 H locs hw hG hS => ?_)
          refine lv_aload_n hx hb kb_Mo_rule_117 rfl (lv_at hl 0 rfl) ?_
          obtain ⟨hy, hw⟩ := hw
          refine zr_getI (ci := 8) (f := 806) hx hb hts ki_Mo hown hK hG hy rfl 6 (by decide) (hts _ (List.mem_cons_of_mem _ kw_590)) (fun _ h => h) rfl rfl kb_Mo_rule_118 ?_
          refine lv_if_ne (tgt := 129) hx hb kb_Mo_rule_121 (by decide) (fun hc => ?_) (fun hc => ?_)
          · have hw := hw.1 hc
            exact hw _ _ _ hG hS (lv_sub hl [0, 1] rfl)
          · have hw := hw.2 hc
            refine lv_aload_n hx hb kb_Mo_rule_124 rfl (lv_at hl 0 rfl) ?_
            refine lv_iload_n hx hb kb_Mo_rule_125 rfl (lv_at hl 1 rfl) ?_
            obtain ⟨hy, hw⟩ := hw
            refine zr_cv (va_runV (C := kR_Mo) (As := [.int v1]) (rest := []) ⟨hx, hb, hml, hown, hts⟩ (kc_Mo_literal l D dA Z a0 v1 σ114 _) ⟨callB_of 1 hts (z_gw kw_736) rfl rfl rfl (hts _ (List.mem_cons_of_mem _ kw_9)) (hts _ (List.mem_cons_of_mem _ kw_734)) (by decide +kernel) ⟨Nat.le_of_ble_eq_true rfl, Nat.le_of_ble_eq_true rfl⟩, (hts _ (List.mem_cons_of_mem _ kw_735)), (hts _ (List.mem_cons_of_mem _ kw_960))⟩ (z_preV z_nwN (Nat.le_trans hZ hS.1) hG hK hN hy (ci := 8) (r := (kR_Mo, kT_Mo, 51)) rfl hw) rfl rfl hl.1 rfl (lv_room (Nat.le_of_ble_eq_true rfl)) kb_Mo_rule_126 ⟨Nat.le_of_ble_eq_true rfl, Nat.le_of_ble_eq_true rfl⟩) hS (fun σ126 H locs hw hG hS => ?_)
            exact hw _ _ _ hG hS (lv_sub hl [0, 1] rfl)
    · have hw := hw.2 hc
      exact zr_vret z_nwN hx hb hr hZ hK hN hG hS hw kb_Mo_rule_65 hlocks)
  have hw := hw (by
    intro v1 σ hw H locs ls hG hS hl
    refine lv_aload_n hx hb kb_Mo_rule_129 rfl (lv_at hl 0 rfl) ?_
    obtain ⟨hy, hw⟩ := hw
    refine zr_getI (ci := 8) (f := 806) hx hb hts ki_Mo hown hK hG hy rfl 6 (by decide) (hts _ (List.mem_cons_of_mem _ kw_590)) (fun _ h => h) rfl rfl kb_Mo_rule_130 ?_
    refine lv_if_ne (tgt := 163) hx hb kb_Mo_rule_133 (by decide) (fun hc => ?_) (fun hc => ?_)
    · have hw := hw.1 hc
      exact hw _ _ _ hG hS (lv_sub hl [0, 1] rfl)
    · have hw := hw.2 hc
      refine lv_aload_n hx hb kb_Mo_rule_136 rfl (lv_at hl 0 rfl) ?_
      obtain ⟨hy, hw⟩ := hw
      refine zr_ci (va_runV (C := kR_Mo) (As := []) (rest := []) ⟨hx, hb, hml, hown, hts⟩ (kc_Mo_sign l D dA Z a0 σ _) ⟨callB_of 0 hts (z_gw kw_706) rfl rfl rfl (hts _ (List.mem_cons_of_mem _ kw_9)) (hts _ (List.mem_cons_of_mem _ kw_704)) (by decide +kernel) ⟨Nat.le_of_ble_eq_true rfl, Nat.le_of_ble_eq_true rfl⟩, (hts _ (List.mem_cons_of_mem _ kw_705)), (hts _ (List.mem_cons_of_mem _ kw_954))⟩ (z_preV z_nwN (Nat.le_trans hZ hS.1) hG hK hN hy (ci := 8) (r := (kR_Mo, kT_Mo, 51)) rfl hw) rfl rfl hl.1 rfl (lv_room (Nat.le_of_ble_eq_true rfl)) kb_Mo_rule_137 ⟨Nat.le_of_ble_eq_true rfl, Nat.le_of_ble_eq_true rfl⟩) hS (fun r137 σ137 H locs hw hG hS => ?_)
      refine lv_bipush (v := (44 : Int32)) hx hb kb_Mo_rule_140 (by decide) ?_
      refine lv_icmp_ne (tgt := 163) hx hb kb_Mo_rule_142 (by decide) (fun hc => ?_) (fun hc => ?_)
      · have hw := hw.1 hc
        exact hw _ _ _ hG hS (lv_sub hl [0, 1] rfl)
      · have hw := hw.2 hc
        refine lv_aload_n hx hb kb_Mo_rule_145 rfl (lv_at hl 0 rfl) ?_
        refine lv_dup hx hb kb_Mo_rule_146 rfl ?_
        obtain ⟨hy, hw⟩ := hw
        refine zr_getI (ci := 8) (f := 805) hx hb hts ki_Mo hown hK hG hy rfl 5 (by decide) (hts _ (List.mem_cons_of_mem _ kw_589)) (fun _ h => h) rfl rfl kb_Mo_rule_147 ?_
        refine lv_iconst (v := (1 : Int32)) hx hb kb_Mo_rule_150 (by decide) ?_
        refine lv_iadd hx hb kb_Mo_rule_151 ?_
        obtain ⟨hy, hw⟩ := hw
        refine zr_putI (ci := 8) (f := 805) hx hb hts ki_Mo ky_Mo kyo_Mo kn_Mo hown hK hG hS hy rfl 5 (by decide) (hts _ (List.mem_cons_of_mem _ kw_589)) (fun _ h => h) rfl rfl rfl rfl rfl kb_Mo_rule_152 (fun H locs hG hS => ?_)
        obtain ⟨σ152, e152⟩ : ∃ z, z = z_sI σ137 805 a0 ((z_I σ137 805 a0) + ((1 : Int32))) := ⟨_, rfl⟩
        rw [← e152] at hG
        have hw := hw _ e152
        refine lv_aload_n hx hb kb_Mo_rule_155 rfl (lv_at hl 0 rfl) ?_
        refine lv_iload_n hx hb kb_Mo_rule_156 rfl (lv_at hl 1 rfl) ?_
        obtain ⟨hy, hw⟩ := hw
        refine zr_cv (va_runV (C := kR_Mo) (As := [.int v1]) (rest := []) ⟨hx, hb, hml, hown, hts⟩ (kc_Mo_literal l D dA Z a0 v1 σ152 _) ⟨callB_of 1 hts (z_gw kw_736) rfl rfl rfl (hts _ (List.mem_cons_of_mem _ kw_9)) (hts _ (List.mem_cons_of_mem _ kw_734)) (by decide +kernel) ⟨Nat.le_of_ble_eq_true rfl, Nat.le_of_ble_eq_true rfl⟩, (hts _ (List.mem_cons_of_mem _ kw_735)), (hts _ (List.mem_cons_of_mem _ kw_960))⟩ (z_preV z_nwN (Nat.le_trans hZ hS.1) hG hK hN hy (ci := 8) (r := (kR_Mo, kT_Mo, 51)) rfl hw) rfl rfl hl.1 rfl (lv_room (Nat.le_of_ble_eq_true rfl)) kb_Mo_rule_157 ⟨Nat.le_of_ble_eq_true rfl, Nat.le_of_ble_eq_true rfl⟩) hS (fun σ157 H locs hw hG hS => ?_)
        refine lv_goto (tgt := 129) hx hb kb_Mo_rule_160 (by decide) ?_
        exact hw _ _ _ hG hS (lv_sub hl [0, 1] rfl))
  have hw := hw (by
    intro v1 σ hw H locs ls hG hS hl
    refine lv_aload_n hx hb kb_Mo_rule_163 rfl (lv_at hl 0 rfl) ?_
    obtain ⟨hy, hw⟩ := hw
    refine zr_getI (ci := 8) (f := 806) hx hb hts ki_Mo hown hK hG hy rfl 6 (by decide) (hts _ (List.mem_cons_of_mem _ kw_590)) (fun _ h => h) rfl rfl kb_Mo_rule_164 ?_
    refine lv_if_ne (tgt := 184) hx hb kb_Mo_rule_167 (by decide) (fun hc => ?_) (fun hc => ?_)
    · have hw := hw.1 hc
      exact hw _ _ _ hG hS (lv_sub hl [0, 1] rfl)
    · have hw := hw.2 hc
      refine lv_aload_n hx hb kb_Mo_rule_170 rfl (lv_at hl 0 rfl) ?_
      obtain ⟨hy, hw⟩ := hw
      refine zr_ci (va_runV (C := kR_Mo) (As := []) (rest := []) ⟨hx, hb, hml, hown, hts⟩ (kc_Mo_sign l D dA Z a0 σ _) ⟨callB_of 0 hts (z_gw kw_706) rfl rfl rfl (hts _ (List.mem_cons_of_mem _ kw_9)) (hts _ (List.mem_cons_of_mem _ kw_704)) (by decide +kernel) ⟨Nat.le_of_ble_eq_true rfl, Nat.le_of_ble_eq_true rfl⟩, (hts _ (List.mem_cons_of_mem _ kw_705)), (hts _ (List.mem_cons_of_mem _ kw_954))⟩ (z_preV z_nwN (Nat.le_trans hZ hS.1) hG hK hN hy (ci := 8) (r := (kR_Mo, kT_Mo, 51)) rfl hw) rfl rfl hl.1 rfl (lv_room (Nat.le_of_ble_eq_true rfl)) kb_Mo_rule_171 ⟨Nat.le_of_ble_eq_true rfl, Nat.le_of_ble_eq_true rfl⟩) hS (fun r171 σ171 H locs hw hG hS => ?_)
      refine lv_bipush (v := (46 : Int32)) hx hb kb_Mo_rule_174 (by decide) ?_
      refine lv_icmp_eq (tgt := 184) hx hb kb_Mo_rule_176 (by decide) (fun hc => ?_) (fun hc => ?_)
      · have hw := hw.1 hc
        exact hw _ _ _ hG hS (lv_sub hl [0, 1] rfl)
      · have hw := hw.2 hc
        refine lv_aload_n hx hb kb_Mo_rule_179 rfl (lv_at hl 0 rfl) ?_
        refine lv_iconst (v := (1 : Int32)) hx hb kb_Mo_rule_180 (by decide) ?_
        obtain ⟨hy, hw⟩ := hw
        refine zr_cv (va_runV (C := kR_Mo) (As := [.int ((1 : Int32))]) (rest := []) ⟨hx, hb, hml, hown, hts⟩ (kc_Mo_wrong l D dA Z a0 ((1 : Int32)) σ171 _) ⟨callB_of 1 hts (z_gw kw_712) rfl rfl rfl (hts _ (List.mem_cons_of_mem _ kw_9)) (hts _ (List.mem_cons_of_mem _ kw_710)) (by decide +kernel) ⟨Nat.le_of_ble_eq_true rfl, Nat.le_of_ble_eq_true rfl⟩, (hts _ (List.mem_cons_of_mem _ kw_711)), (hts _ (List.mem_cons_of_mem _ kw_955))⟩ (z_preV z_nwN (Nat.le_trans hZ hS.1) hG hK hN hy (ci := 8) (r := (kR_Mo, kT_Mo, 51)) rfl hw) rfl rfl hl.1 rfl (lv_room (Nat.le_of_ble_eq_true rfl)) kb_Mo_rule_181 ⟨Nat.le_of_ble_eq_true rfl, Nat.le_of_ble_eq_true rfl⟩) hS (fun σ181 H locs hw hG hS => ?_)
        exact hw _ _ _ hG hS (lv_sub hl [0, 1] rfl))
  have hw := hw (by
    intro v1 σ hw H locs ls hG hS hl
    refine lv_aload_n hx hb kb_Mo_rule_184 rfl (lv_at hl 0 rfl) ?_
    obtain ⟨hy, hw⟩ := hw
    refine zr_getI (ci := 8) (f := 806) hx hb hts ki_Mo hown hK hG hy rfl 6 (by decide) (hts _ (List.mem_cons_of_mem _ kw_590)) (fun _ h => h) rfl rfl kb_Mo_rule_185 ?_
    refine lv_if_ne (tgt := 196) hx hb kb_Mo_rule_188 (by decide) (fun hc => ?_) (fun hc => ?_)
    · have hw := hw.1 hc
      exact hw _ _ _ hG hS (lv_sub hl [0, 1] rfl)
    · have hw := hw.2 hc
      refine lv_aload_n hx hb kb_Mo_rule_191 rfl (lv_at hl 0 rfl) ?_
      refine lv_iload_n hx hb kb_Mo_rule_192 rfl (lv_at hl 1 rfl) ?_
      obtain ⟨hy, hw⟩ := hw
      refine zr_cv (va_runV (C := kR_Mo) (As := [.int v1]) (rest := []) ⟨hx, hb, hml, hown, hts⟩ (kc_Mo_judge l D dA Z a0 v1 σ _) ⟨callB_of 1 hts (z_gw kw_739) rfl rfl rfl (hts _ (List.mem_cons_of_mem _ kw_9)) (hts _ (List.mem_cons_of_mem _ kw_737)) (by decide +kernel) ⟨Nat.le_of_ble_eq_true rfl, Nat.le_of_ble_eq_true rfl⟩, (hts _ (List.mem_cons_of_mem _ kw_738)), (hts _ (List.mem_cons_of_mem _ kw_961))⟩ (z_preV z_nwN (Nat.le_trans hZ hS.1) hG hK hN hy (ci := 8) (r := (kR_Mo, kT_Mo, 51)) rfl hw) rfl rfl hl.1 rfl (lv_room (Nat.le_of_ble_eq_true rfl)) kb_Mo_rule_193 ⟨Nat.le_of_ble_eq_true rfl, Nat.le_of_ble_eq_true rfl⟩) hS (fun σ193 H locs hw hG hS => ?_)
      exact hw _ _ _ hG hS (lv_sub hl [0, 1] rfl))
  have hw := hw (by
    intro v1 σ hw H locs ls hG hS hl
    refine lv_aload_n hx hb kb_Mo_rule_196 rfl (lv_at hl 0 rfl) ?_
    obtain ⟨hy, hw⟩ := hw
    refine zr_getI (ci := 8) (f := 806) hx hb hts ki_Mo hown hK hG hy rfl 6 (by decide) (hts _ (List.mem_cons_of_mem _ kw_590)) (fun _ h => h) rfl rfl kb_Mo_rule_197 ?_
    refine lv_if_ne (tgt := 235) hx hb kb_Mo_rule_200 (by decide) (fun hc => ?_) (fun hc => ?_)
    · have hw := hw.1 hc
      exact zr_vret z_nwN hx hb hr hZ hK hN hG hS hw kb_Mo_rule_235 hlocks
    · have hw := hw.2 hc
      refine lv_aload_n hx hb kb_Mo_rule_203 rfl (lv_at hl 0 rfl) ?_
      refine lv_dup hx hb kb_Mo_rule_204 rfl ?_
      obtain ⟨hy, hw⟩ := hw
      refine zr_getI (ci := 8) (f := 805) hx hb hts ki_Mo hown hK hG hy rfl 5 (by decide) (hts _ (List.mem_cons_of_mem _ kw_589)) (fun _ h => h) rfl rfl kb_Mo_rule_205 ?_
      refine lv_iconst (v := (1 : Int32)) hx hb kb_Mo_rule_208 (by decide) ?_
      refine lv_iadd hx hb kb_Mo_rule_209 ?_
      obtain ⟨hy, hw⟩ := hw
      refine zr_putI (ci := 8) (f := 805) hx hb hts ki_Mo ky_Mo kyo_Mo kn_Mo hown hK hG hS hy rfl 5 (by decide) (hts _ (List.mem_cons_of_mem _ kw_589)) (fun _ h => h) rfl rfl rfl rfl rfl kb_Mo_rule_210 (fun H locs hG hS => ?_)
      obtain ⟨σ210, e210⟩ : ∃ z, z = z_sI σ 805 a0 ((z_I σ 805 a0) + ((1 : Int32))) := ⟨_, rfl⟩
      rw [← e210] at hG
      have hw := hw _ e210
      refine lv_aload_n hx hb kb_Mo_rule_213 rfl (lv_at hl 0 rfl) ?_
      obtain ⟨hy, r214, hrf, hw⟩ := hw
      refine zr_getR (ci := 8) (f := 820) hx hb hts ki_Mo hown hK hG hy rfl 20 (by decide) (hts _ (List.mem_cons_of_mem _ kw_604)) (fun _ h => h) rfl rfl hrf kb_Mo_rule_214 ?_
      refine lv_aload_n hx hb kb_Mo_rule_217 rfl (lv_at hl 0 rfl) ?_
      obtain ⟨hy, r218, hrf, hw⟩ := hw
      refine zr_getR (ci := 8) (f := 809) hx hb hts ki_Mo hown hK hG hy rfl 9 (by decide) (hts _ (List.mem_cons_of_mem _ kw_593)) (fun _ h => h) rfl rfl hrf kb_Mo_rule_218 ?_
      refine lv_iload_n hx hb kb_Mo_rule_221 rfl (lv_at hl 1 rfl) ?_
      obtain ⟨n222, s222, hy, hi, hw⟩ := hw
      refine zr_iald hx hb hK hG 0 hy rfl hi kb_Mo_rule_222 ?_
      refine lv_iconst (v := (1 : Int32)) hx hb kb_Mo_rule_223 (by decide) ?_
      obtain ⟨n224, s224, hy, hi, hw⟩ := hw
      refine zr_zast hx hb hK hG hS 2 hy rfl hi kb_Mo_rule_224 (fun H locs hG hS => ?_)
      obtain ⟨σ224, e224⟩ : ∃ z, z = z_sA σ210 s224 r214 (upd (z_A σ210 s224 r214) (z_A σ210 s222 r218 v1.toNatClampNeg).toNatClampNeg (vp_nar .boolean ((1 : Int32)))) := ⟨_, rfl⟩
      rw [← e224] at hG
      have hw := hw _ e224
      refine lv_aload_n hx hb kb_Mo_rule_225 rfl (lv_at hl 0 rfl) ?_
      refine lv_dup hx hb kb_Mo_rule_226 rfl ?_
      obtain ⟨hy, hw⟩ := hw
      refine zr_getI (ci := 8) (f := 808) hx hb hts ki_Mo hown hK hG hy rfl 8 (by decide) (hts _ (List.mem_cons_of_mem _ kw_592)) (fun _ h => h) rfl rfl kb_Mo_rule_227 ?_
      refine lv_iconst (v := (1 : Int32)) hx hb kb_Mo_rule_230 (by decide) ?_
      refine lv_iadd hx hb kb_Mo_rule_231 ?_
      obtain ⟨hy, hw⟩ := hw
      refine zr_putI (ci := 8) (f := 808) hx hb hts ki_Mo ky_Mo kyo_Mo kn_Mo hown hK hG hS hy rfl 8 (by decide) (hts _ (List.mem_cons_of_mem _ kw_592)) (fun _ h => h) rfl rfl rfl rfl rfl kb_Mo_rule_232 (fun H locs hG hS => ?_)
      obtain ⟨σ232, e232⟩ : ∃ z, z = z_sI σ224 808 a0 ((z_I σ224 808 a0) + ((1 : Int32))) := ⟨_, rfl⟩
      rw [← e232] at hG
      have hw := hw _ e232
      exact zr_vret z_nwN hx hb hr hZ hK hN hG hS hw kb_Mo_rule_235 hlocks)
  refine lv_aload_n hx hb kb_Mo_rule_0 rfl (lv_at hl 0 rfl) ?_
  obtain ⟨hy, hw⟩ := hw
  refine zr_getI (ci := 8) (f := 808) hx hb hts ki_Mo hown hK hG hy rfl 8 (by decide) (hts _ (List.mem_cons_of_mem _ kw_592)) (fun _ h => h) rfl rfl kb_Mo_rule_1 ?_
  refine lv_istore_n (lv' := [(1, .int (z_I σ 808 a0)), (0, .ref a0)]) hx hb kb_Mo_rule_4 rfl hl (by decide) rfl (fun ls hl => ?_)
  refine lv_aload_n hx hb kb_Mo_rule_5 rfl (lv_at hl 1 rfl) ?_
  obtain ⟨hy, r6, hrf, hw⟩ := hw
  refine zr_getR (ci := 8) (f := 811) hx hb hts ki_Mo hown hK hG hy rfl 11 (by decide) (hts _ (List.mem_cons_of_mem _ kw_595)) (fun _ h => h) rfl rfl hrf kb_Mo_rule_6 ?_
  refine lv_iload_n hx hb kb_Mo_rule_9 rfl (lv_at hl 0 rfl) ?_
  refine lv_iconst (v := (0 : Int32)) hx hb kb_Mo_rule_10 (by decide) ?_
  obtain ⟨n11, s11, hy, hi, hw⟩ := hw
  refine zr_iast hx hb hK hG hS 0 hy rfl hi kb_Mo_rule_11 (fun H locs hG hS => ?_)
  obtain ⟨σ11, e11⟩ : ∃ z, z = z_sA σ s11 r6 (upd (z_A σ s11 r6) (z_I σ 808 a0).toNatClampNeg ((0 : Int32))) := ⟨_, rfl⟩
  rw [← e11] at hG
  have hw := hw _ e11
  refine lv_aload_n hx hb kb_Mo_rule_12 rfl (lv_at hl 1 rfl) ?_
  obtain ⟨hy, r13, hrf, hw⟩ := hw
  refine zr_getR (ci := 8) (f := 816) hx hb hts ki_Mo hown hK hG hy rfl 16 (by decide) (hts _ (List.mem_cons_of_mem _ kw_600)) (fun _ h => h) rfl rfl hrf kb_Mo_rule_13 ?_
  refine lv_iload_n hx hb kb_Mo_rule_16 rfl (lv_at hl 0 rfl) ?_
  refine lv_iconst (v := (0 : Int32)) hx hb kb_Mo_rule_17 (by decide) ?_
  obtain ⟨n18, s18, hy, hi, hw⟩ := hw
  refine zr_iast hx hb hK hG hS 0 hy rfl hi kb_Mo_rule_18 (fun H locs hG hS => ?_)
  obtain ⟨σ18, e18⟩ : ∃ z, z = z_sA σ11 s18 r13 (upd (z_A σ11 s18 r13) (z_I σ 808 a0).toNatClampNeg ((0 : Int32))) := ⟨_, rfl⟩
  rw [← e18] at hG
  have hw := hw _ e18
  refine lv_aload_n hx hb kb_Mo_rule_19 rfl (lv_at hl 1 rfl) ?_
  obtain ⟨hy, r20, hrf, hw⟩ := hw
  refine zr_getR (ci := 8) (f := 815) hx hb hts ki_Mo hown hK hG hy rfl 15 (by decide) (hts _ (List.mem_cons_of_mem _ kw_599)) (fun _ h => h) rfl rfl hrf kb_Mo_rule_20 ?_
  refine lv_iload_n hx hb kb_Mo_rule_23 rfl (lv_at hl 0 rfl) ?_
  refine lv_iconst (v := (0 : Int32)) hx hb kb_Mo_rule_24 (by decide) ?_
  obtain ⟨n25, s25, hy, hi, hw⟩ := hw
  refine zr_zast hx hb hK hG hS 2 hy rfl hi kb_Mo_rule_25 (fun H locs hG hS => ?_)
  obtain ⟨σ25, e25⟩ : ∃ z, z = z_sA σ18 s25 r20 (upd (z_A σ18 s25 r20) (z_I σ 808 a0).toNatClampNeg (vp_nar .boolean ((0 : Int32)))) := ⟨_, rfl⟩
  rw [← e25] at hG
  have hw := hw _ e25
  refine lv_aload_n hx hb kb_Mo_rule_26 rfl (lv_at hl 1 rfl) ?_
  obtain ⟨hy, hw⟩ := hw
  refine zr_ci (va_runV (C := kR_Mo) (As := []) (rest := []) ⟨hx, hb, hml, hown, hts⟩ (kc_Mo_sign l D dA Z a0 σ25 _) ⟨callB_of 0 hts (z_gw kw_706) rfl rfl rfl (hts _ (List.mem_cons_of_mem _ kw_9)) (hts _ (List.mem_cons_of_mem _ kw_704)) (by decide +kernel) ⟨Nat.le_of_ble_eq_true rfl, Nat.le_of_ble_eq_true rfl⟩, (hts _ (List.mem_cons_of_mem _ kw_705)), (hts _ (List.mem_cons_of_mem _ kw_954))⟩ (z_preV z_nwN (Nat.le_trans hZ hS.1) hG hK hN hy (ci := 8) (r := (kR_Mo, kT_Mo, 51)) rfl hw) rfl rfl hl.1 rfl (lv_room (Nat.le_of_ble_eq_true rfl)) kb_Mo_rule_27 ⟨Nat.le_of_ble_eq_true rfl, Nat.le_of_ble_eq_true rfl⟩) hS (fun r27 σ27 H locs hw hG hS => ?_)
  refine zr_ci (va_runS (As := [.int r27]) (rest := []) ⟨hx, hb, hml, hown, hts⟩ (kc_Mo_isName l D dA Z r27 σ27 _) ⟨callB_of 1 hts (z_gw kw_709) rfl rfl rfl (hts _ (List.mem_cons_of_mem _ kw_9)) (hts _ (List.mem_cons_of_mem _ kw_707)) (by decide +kernel) ⟨Nat.le_of_ble_eq_true rfl, Nat.le_of_ble_eq_true rfl⟩, (hts _ (List.mem_cons_of_mem _ kw_708))⟩ (z_preS z_nwN (Nat.le_trans hZ hS.1) hG hK hN hw) rfl rfl hl.1 rfl (lv_room (Nat.le_of_ble_eq_true rfl)) kb_Mo_rule_30 ⟨Nat.le_of_ble_eq_true rfl, Nat.le_of_ble_eq_true rfl⟩) hS (fun r30 σ30 H locs hw hG hS => ?_)
  refine lv_if_eq (tgt := 48) hx hb kb_Mo_rule_33 (by decide) (fun hc => ?_) (fun hc => ?_)
  · have hw := hw.1 hc
    exact hw _ _ _ hG hS (lv_sub hl [1, 0] rfl)
  · have hw := hw.2 hc
    refine lv_iload_n hx hb kb_Mo_rule_36 rfl (lv_at hl 0 rfl) ?_
    refine lv_bipush (v := (16 : Int32)) hx hb kb_Mo_rule_37 (by decide) ?_
    refine lv_icmp_ne (tgt := 48) hx hb kb_Mo_rule_39 (by decide) (fun hc => ?_) (fun hc => ?_)
    · have hw := hw.1 hc
      exact hw _ _ _ hG hS (lv_sub hl [1, 0] rfl)
    · have hw := hw.2 hc
      refine lv_aload_n hx hb kb_Mo_rule_42 rfl (lv_at hl 1 rfl) ?_
      refine lv_iconst (v := (3 : Int32)) hx hb kb_Mo_rule_43 (by decide) ?_
      obtain ⟨hy, hw⟩ := hw
      refine zr_cv (va_runV (C := kR_Mo) (As := [.int ((3 : Int32))]) (rest := []) ⟨hx, hb, hml, hown, hts⟩ (kc_Mo_wrong l D dA Z a0 ((3 : Int32)) σ30 _) ⟨callB_of 1 hts (z_gw kw_712) rfl rfl rfl (hts _ (List.mem_cons_of_mem _ kw_9)) (hts _ (List.mem_cons_of_mem _ kw_710)) (by decide +kernel) ⟨Nat.le_of_ble_eq_true rfl, Nat.le_of_ble_eq_true rfl⟩, (hts _ (List.mem_cons_of_mem _ kw_711)), (hts _ (List.mem_cons_of_mem _ kw_955))⟩ (z_preV z_nwN (Nat.le_trans hZ hS.1) hG hK hN hy (ci := 8) (r := (kR_Mo, kT_Mo, 51)) rfl hw) rfl rfl hl.1 rfl (lv_room (Nat.le_of_ble_eq_true rfl)) kb_Mo_rule_44 ⟨Nat.le_of_ble_eq_true rfl, Nat.le_of_ble_eq_true rfl⟩) hS (fun σ44 H locs hw hG hS => ?_)
      exact zr_vret z_nwN hx hb hr hZ hK hN hG hS hw kb_Mo_rule_47 hlocks
def kp_Mo_isStrict (a0 : Nat) (x1 : Int32) (x2 : Int32) (σ : z_S) (Post : Int32 → z_S → Prop) : Prop :=     (z_ty σ a0 = some (.inl 8) ∧ ∃ r1, z_R σ 815 a0 = some r1 ∧ (∃ n5 s5, z_ty σ r1 = some (.inr (2, n5, s5)) ∧ vp_in x1 n5 ∧ ((¬ ((z_A σ s5 r1 x1.toNatClampNeg)) = 0 → Post ((1 : Int32)) σ) ∧ (((z_A σ s5 r1 x1.toNatClampNeg)) = 0 → z_ty σ a0 = some (.inl 8) ∧ ∃ r10, z_R σ 812 a0 = some r10 ∧ (∃ n18 s18, z_ty σ r10 = some (.inr (0, n18, s18)) ∧ vp_in ((((5 : Int32)) * x1) + x2) n18 ∧ ((¬ (z_A σ s18 r10 ((((5 : Int32)) * x1) + x2).toNatClampNeg) = ((1 : Int32)) → Post ((0 : Int32)) σ) ∧ ((z_A σ s18 r10 ((((5 : Int32)) * x1) + x2).toNatClampNeg) = ((1 : Int32)) → Post ((1 : Int32)) σ)))))))
set_option maxHeartbeats 4000000 in
set_option maxRecDepth 100000 in
theorem kc_Mo_isStrict (l : Launch) (D : va_G) (dA : Nat → ClassId) (Z : Nat) (a0 : Nat) (x1 : Int32) (x2 : Int32) (σ : z_S) (Post : Int32 → z_S → Prop) : Met l km_Mo_isStrict ks_Mo_isStrict kr_Mo_isStrict (va_Pc [.ref a0, .int x1, .int x2] (fun U => z_U D z_cl z_KT dA Z (z_tys dA) z_nw σ U ∧ kp_Mo_isStrict  a0 x1 x2 σ Post)) (z_Qi D z_cl z_KT dA Z (z_tys dA) z_nw Post) 0 0 (fun q => Z ≤ q) := by
  refine Met.ofW (cc := prog_10_method_17_code) (maxL := 3) (ret := (some .boolean)) (by decide) rfl ?_
  intro p e s m args below meth c s₁ B hml hv
  obtain ⟨rfl, ⟨hZ, hG, hK, hN⟩, hw⟩ := hv
  have hx := B.exec
  have hb := B.bytes
  have hr := B.returns
  have hts := atoms_spec (ws := ks_Mo_isStrict) B.pre
  have hown : s.vm.findClass kR_Mo = some m.cls := findClass_of_methodNamed B.named
  have hlocks := B.notSynchronized
  have hS : va_S (fun q => Z ≤ q) s.heap s.heap [] := va_S.rf
  have hl := lv_entry ([.ref a0, .int x1, .int x2]) (n := 3) (Nat.le_of_ble_eq_true rfl)
  rw [lg_entry_eq]
  generalize (lg_sl ([.ref a0, .int x1, .int x2]) ++ List.replicate (3 - (lg_sl ([.ref a0, .int x1, .int x2])).length) Slot.unset).toArray = ls at hl ⊢
  have hl : lv_has ls 3 [(0, .ref a0), (1, .int x1), (2, .int x2)] := hl
  unfold kp_Mo_isStrict at hw
  refine lv_aload_n hx hb kb_Mo_isStrict_0 rfl (lv_at hl 0 rfl) ?_
  obtain ⟨hy, r1, hrf, hw⟩ := hw
  refine zr_getR (ci := 8) (f := 815) hx hb hts ki_Mo hown hK hG hy rfl 15 (by decide) (hts _ (List.mem_cons_of_mem _ kw_599)) (fun _ h => h) rfl rfl hrf kb_Mo_isStrict_1 ?_
  refine lv_iload_n hx hb kb_Mo_isStrict_4 rfl (lv_at hl 1 rfl) ?_
  obtain ⟨n5, s5, hy, hi, hw⟩ := hw
  refine zr_zald hx hb hK hG 2 hy rfl hi kb_Mo_isStrict_5 ?_
  refine lv_if_ne (tgt := 23) hx hb kb_Mo_isStrict_6 (by decide) (fun hc => ?_) (fun hc => ?_)
  · have hw := hw.1 hc
    refine lv_iconst (v := (1 : Int32)) hx hb kb_Mo_isStrict_23 (by decide) ?_
    refine lv_goto (tgt := 28) hx hb kb_Mo_isStrict_24 (by decide) ?_
    exact zr_iret (free := fun q => Z ≤ q) z_nwN hx hb hr rfl hZ hK hN hG hS hw kb_Mo_isStrict_28 hlocks
  · have hw := hw.2 hc
    refine lv_aload_n hx hb kb_Mo_isStrict_9 rfl (lv_at hl 0 rfl) ?_
    obtain ⟨hy, r10, hrf, hw⟩ := hw
    refine zr_getR (ci := 8) (f := 812) hx hb hts ki_Mo hown hK hG hy rfl 12 (by decide) (hts _ (List.mem_cons_of_mem _ kw_596)) (fun _ h => h) rfl rfl hrf kb_Mo_isStrict_10 ?_
    refine lv_iconst (v := (5 : Int32)) hx hb kb_Mo_isStrict_13 (by decide) ?_
    refine lv_iload_n hx hb kb_Mo_isStrict_14 rfl (lv_at hl 1 rfl) ?_
    refine lv_imul hx hb kb_Mo_isStrict_15 ?_
    refine lv_iload_n hx hb kb_Mo_isStrict_16 rfl (lv_at hl 2 rfl) ?_
    refine lv_iadd hx hb kb_Mo_isStrict_17 ?_
    obtain ⟨n18, s18, hy, hi, hw⟩ := hw
    refine zr_iald hx hb hK hG 0 hy rfl hi kb_Mo_isStrict_18 ?_
    refine lv_iconst (v := (1 : Int32)) hx hb kb_Mo_isStrict_19 (by decide) ?_
    refine lv_icmp_ne (tgt := 27) hx hb kb_Mo_isStrict_20 (by decide) (fun hc => ?_) (fun hc => ?_)
    · have hw := hw.1 hc
      refine lv_iconst (v := (0 : Int32)) hx hb kb_Mo_isStrict_27 (by decide) ?_
      exact zr_iret (free := fun q => Z ≤ q) z_nwN hx hb hr rfl hZ hK hN hG hS hw kb_Mo_isStrict_28 hlocks
    · have hw := hw.2 hc
      refine lv_iconst (v := (1 : Int32)) hx hb kb_Mo_isStrict_23 (by decide) ?_
      refine lv_goto (tgt := 28) hx hb kb_Mo_isStrict_24 (by decide) ?_
      exact zr_iret (free := fun q => Z ≤ q) z_nwN hx hb hr rfl hZ hK hN hG hS hw kb_Mo_isStrict_28 hlocks
def kp_Mo_layers (a0 : Nat) (σ : z_S) (Post : Int32 → z_S → Prop) : Prop := ∀ (X2 : Int32 → z_S → Prop) (X29 : Int32 → Nat → Int32 → Int32 → z_S → Prop) (X38 : Int32 → z_S → Prop) (X46 : Int32 → Int32 → z_S → Prop) (X56 : Int32 → Int32 → Int32 → z_S → Prop) (X115 : Int32 → Int32 → Int32 → Int32 → z_S → Prop) (X162 : Int32 → Int32 → z_S → Prop),
    (∀ (v1 : Int32) (σ : z_S), (z_ty σ a0 = some (.inl 8) ∧ (((z_I σ 817 a0) ≤ v1 → X38 ((1 : Int32)) σ) ∧ (¬ (z_I σ 817 a0) ≤ v1 → z_ty σ a0 = some (.inl 8) ∧ ∃ r11, z_R σ 821 a0 = some r11 ∧ (z_ty σ a0 = some (.inl 8) ∧ ∃ r16, z_R σ 820 a0 = some r16 ∧ (∃ n20 s20, z_ty σ r16 = some (.inr (2, n20, s20)) ∧ vp_in v1 n20 ∧ ((((z_A σ s20 r16 v1.toNatClampNeg)) = 0 → X29 v1 r11 v1 ((0 : Int32)) σ) ∧ (¬ ((z_A σ s20 r16 v1.toNatClampNeg)) = 0 → X29 v1 r11 v1 ((1 : Int32)) σ))))))) → X2 v1 σ) →
    (∀ (v1 : Int32) (t0 : Nat) (t1 : Int32) (t2 : Int32) (σ : z_S), (∃ n29 s29, z_ty σ t0 = some (.inr (0, n29, s29)) ∧ vp_in t1 n29 ∧ ∀ σ29, σ29 = z_sA σ s29 t0 (upd (z_A σ s29 t0) t1.toNatClampNeg t2) → X2 (v1 + (1 : Int32)) σ29) → X29 v1 t0 t1 t2 σ) →
    (∀ (v1 : Int32) (σ : z_S), ((v1 = 0 → Post ((1 : Int32)) σ) ∧ (¬ v1 = 0 → X46 ((0 : Int32)) ((0 : Int32)) σ)) → X38 v1 σ) →
    (∀ (v1 : Int32) (v2 : Int32) (σ : z_S), (z_ty σ a0 = some (.inl 8) ∧ (((z_I σ 808 a0) ≤ v2 → X162 v1 ((0 : Int32)) σ) ∧ (¬ (z_I σ 808 a0) ≤ v2 → X56 v1 v2 ((0 : Int32)) σ))) → X46 v1 v2 σ) →
    (∀ (v1 : Int32) (v2 : Int32) (v3 : Int32) (σ : z_S), (z_ty σ a0 = some (.inl 8) ∧ ∃ r58, z_R σ 811 a0 = some r58 ∧ (∃ n62 s62, z_ty σ r58 = some (.inr (0, n62, s62)) ∧ vp_in v2 n62 ∧ (((z_A σ s62 r58 v2.toNatClampNeg) ≤ v3 → X46 v1 (v2 + (1 : Int32)) σ) ∧ (¬ (z_A σ s62 r58 v2.toNatClampNeg) ≤ v3 → z_ty σ a0 = some (.inl 8) ∧ ∃ r74, z_R σ 812 a0 = some r74 ∧ (∃ n79 s79, z_ty σ r74 = some (.inr (0, n79, s79)) ∧ vp_in ((((5 : Int32)) * v2) + v3) n79 ∧ ((¬ (z_A σ s79 r74 ((((5 : Int32)) * v2) + v3).toNatClampNeg) = ((2 : Int32)) → z_ty σ a0 = some (.inl 8) ∧ ∃ r89, z_R σ 821 a0 = some r89 ∧ (z_ty σ a0 = some (.inl 8) ∧ ∃ r93, z_R σ 813 a0 = some r93 ∧ (∃ n98 s98, z_ty σ r93 = some (.inr (0, n98, s98)) ∧ vp_in ((((5 : Int32)) * v2) + v3) n98 ∧ (∃ n99 s99, z_ty σ r89 = some (.inr (0, n99, s99)) ∧ vp_in (z_A σ s98 r93 ((((5 : Int32)) * v2) + v3).toNatClampNeg) n99 ∧ (z_ty σ a0 = some (.inl 8) ∧ kp_Mo_isStrict a0 v2 v3 σ (fun (r103 : Int32) (σ103 : z_S) => (r103 = 0 → X115 v1 v2 v3 ((z_A σ s99 r89 (z_A σ s98 r93 ((((5 : Int32)) * v2) + v3).toNatClampNeg).toNatClampNeg) + ((0 : Int32))) σ103) ∧ (¬ r103 = 0 → X115 v1 v2 v3 ((z_A σ s99 r89 (z_A σ s98 r93 ((((5 : Int32)) * v2) + v3).toNatClampNeg).toNatClampNeg) + ((1 : Int32))) σ103))))))) ∧ ((z_A σ s79 r74 ((((5 : Int32)) * v2) + v3).toNatClampNeg) = ((2 : Int32)) → X115 v1 v2 v3 ((0 : Int32)) σ))))))) → X56 v1 v2 v3 σ) →
    (∀ (v1 : Int32) (v2 : Int32) (v3 : Int32) (t0 : Int32) (σ : z_S), (z_ty σ a0 = some (.inl 8) ∧ ∃ r120, z_R σ 821 a0 = some r120 ∧ (z_ty σ a0 = some (.inl 8) ∧ ∃ r124, z_R σ 809 a0 = some r124 ∧ (∃ n128 s128, z_ty σ r124 = some (.inr (0, n128, s128)) ∧ vp_in v2 n128 ∧ (∃ n129 s129, z_ty σ r120 = some (.inr (0, n129, s129)) ∧ vp_in (z_A σ s128 r124 v2.toNatClampNeg) n129 ∧ ((t0 ≤ (z_A σ s129 r120 (z_A σ s128 r124 v2.toNatClampNeg).toNatClampNeg) → X56 v1 v2 (v3 + (1 : Int32)) σ) ∧ (¬ t0 ≤ (z_A σ s129 r120 (z_A σ s128 r124 v2.toNatClampNeg).toNatClampNeg) → z_ty σ a0 = some (.inl 8) ∧ ∃ r134, z_R σ 821 a0 = some r134 ∧ (z_ty σ a0 = some (.inl 8) ∧ ∃ r138, z_R σ 809 a0 = some r138 ∧ (∃ n142 s142, z_ty σ r138 = some (.inr (0, n142, s142)) ∧ vp_in v2 n142 ∧ (∃ n145 s145, z_ty σ r134 = some (.inr (0, n145, s145)) ∧ vp_in (z_A σ s142 r138 v2.toNatClampNeg) n145 ∧ ∀ σ145, σ145 = z_sA σ s145 r134 (upd (z_A σ s145 r134) (z_A σ s142 r138 v2.toNatClampNeg).toNatClampNeg t0) → X56 ((1 : Int32)) v2 (v3 + (1 : Int32)) σ145))))))))) → X115 v1 v2 v3 t0 σ) →
    (∀ (v1 : Int32) (v2 : Int32) (σ : z_S), (z_ty σ a0 = some (.inl 8) ∧ (((z_I σ 817 a0) ≤ v2 → X38 v1 σ) ∧ (¬ (z_I σ 817 a0) ≤ v2 → z_ty σ a0 = some (.inl 8) ∧ ∃ r171, z_R σ 821 a0 = some r171 ∧ (∃ n175 s175, z_ty σ r171 = some (.inr (0, n175, s175)) ∧ vp_in v2 n175 ∧ (((z_A σ s175 r171 v2.toNatClampNeg) ≤ ((8 : Int32)) → X162 v1 (v2 + (1 : Int32)) σ) ∧ (¬ (z_A σ s175 r171 v2.toNatClampNeg) ≤ ((8 : Int32)) → Post ((0 : Int32)) σ)))))) → X162 v1 v2 σ) →
    (X2 ((0 : Int32)) σ)
set_option maxHeartbeats 4000000 in
set_option maxRecDepth 100000 in
theorem kc_Mo_layers (l : Launch) (D : va_G) (dA : Nat → ClassId) (Z : Nat) (a0 : Nat) (σ : z_S) (Post : Int32 → z_S → Prop) : Met l km_Mo_layers ks_Mo_layers kr_Mo_layers (va_Pc [.ref a0] (fun U => z_U D z_cl z_KT dA Z (z_tys dA) z_nw σ U ∧ kp_Mo_layers  a0 σ Post)) (z_Qi D z_cl z_KT dA Z (z_tys dA) z_nw Post) 0 0 (fun q => Z ≤ q) := by
  refine Met.ofW (cc := prog_10_method_18_code) (maxL := 6) (ret := (some .boolean)) (by decide) rfl ?_
  intro p e s m args below meth c s₁ B hml hv
  obtain ⟨rfl, ⟨hZ, hG, hK, hN⟩, hw⟩ := hv
  have hx := B.exec
  have hb := B.bytes
  have hr := B.returns
  have hts := atoms_spec (ws := ks_Mo_layers) B.pre
  have hown : s.vm.findClass kR_Mo = some m.cls := findClass_of_methodNamed B.named
  have hlocks := B.notSynchronized
  have hS : va_S (fun q => Z ≤ q) s.heap s.heap [] := va_S.rf
  have hl := lv_entry ([.ref a0]) (n := 6) (Nat.le_of_ble_eq_true rfl)
  rw [lg_entry_eq]
  generalize (lg_sl ([.ref a0]) ++ List.replicate (6 - (lg_sl ([.ref a0])).length) Slot.unset).toArray = ls at hl ⊢
  have hl : lv_has ls 6 [(0, .ref a0)] := hl
  unfold kp_Mo_layers at hw
  have hw := hw (fun (v1 : Int32) (σ : z_S) => ∀ (H : Heap) (locs : List Loc) (ls : Array Slot), z_G D z_cl z_KT dA Z σ H → va_S (fun q => Z ≤ q) s.heap H locs → lv_has ls 6 [(0, .ref a0), (1, .int v1)] → W p l e (headSpec ks_Mo_layers kr_Mo_layers).room s m ([.ref a0] : List Value).toArray below meth c H locs 0 0 (MQ below (z_Qi D z_cl z_KT dA Z (z_tys dA) z_nw Post) ([.ref a0] : List Value).toArray s 0 0 (fun q => Z ≤ q)) (F0 m 2 ls []))
  have hw := hw (fun (v1 : Int32) (t0 : Nat) (t1 : Int32) (t2 : Int32) (σ : z_S) => ∀ (H : Heap) (locs : List Loc) (ls : Array Slot), z_G D z_cl z_KT dA Z σ H → va_S (fun q => Z ≤ q) s.heap H locs → lv_has ls 6 [(0, .ref a0), (1, .int v1)] → W p l e (headSpec ks_Mo_layers kr_Mo_layers).room s m ([.ref a0] : List Value).toArray below meth c H locs 0 0 (MQ below (z_Qi D z_cl z_KT dA Z (z_tys dA) z_nw Post) ([.ref a0] : List Value).toArray s 0 0 (fun q => Z ≤ q)) (F0 m 29 ls [.int t2, .int t1, .ref t0]))
  have hw := hw (fun (v1 : Int32) (σ : z_S) => ∀ (H : Heap) (locs : List Loc) (ls : Array Slot), z_G D z_cl z_KT dA Z σ H → va_S (fun q => Z ≤ q) s.heap H locs → lv_has ls 6 [(0, .ref a0), (1, .int v1)] → W p l e (headSpec ks_Mo_layers kr_Mo_layers).room s m ([.ref a0] : List Value).toArray below meth c H locs 0 0 (MQ below (z_Qi D z_cl z_KT dA Z (z_tys dA) z_nw Post) ([.ref a0] : List Value).toArray s 0 0 (fun q => Z ≤ q)) (F0 m 38 ls []))
  have hw := hw (fun (v1 : Int32) (v2 : Int32) (σ : z_S) => ∀ (H : Heap) (locs : List Loc) (ls : Array Slot), z_G D z_cl z_KT dA Z σ H → va_S (fun q => Z ≤ q) s.heap H locs → lv_has ls 6 [(0, .ref a0), (1, .int v1), (2, .int v2)] → W p l e (headSpec ks_Mo_layers kr_Mo_layers).room s m ([.ref a0] : List Value).toArray below meth c H locs 0 0 (MQ below (z_Qi D z_cl z_KT dA Z (z_tys dA) z_nw Post) ([.ref a0] : List Value).toArray s 0 0 (fun q => Z ≤ q)) (F0 m 46 ls []))
  have hw := hw (fun (v1 : Int32) (v2 : Int32) (v3 : Int32) (σ : z_S) => ∀ (H : Heap) (locs : List Loc) (ls : Array Slot), z_G D z_cl z_KT dA Z σ H → va_S (fun q => Z ≤ q) s.heap H locs → lv_has ls 6 [(0, .ref a0), (1, .int v1), (2, .int v2), (3, .int v3)] → W p l e (headSpec ks_Mo_layers kr_Mo_layers).room s m ([.ref a0] : List Value).toArray below meth c H locs 0 0 (MQ below (z_Qi D z_cl z_KT dA Z (z_tys dA) z_nw Post) ([.ref a0] : List Value).toArray s 0 0 (fun q => Z ≤ q)) (F0 m 56 ls []))
  have hw := hw (fun (v1 : Int32) (v2 : Int32) (v3 : Int32) (t0 : Int32) (σ : z_S) => ∀ (H : Heap) (locs : List Loc) (ls : Array Slot), z_G D z_cl z_KT dA Z σ H → va_S (fun q => Z ≤ q) s.heap H locs → lv_has ls 6 [(0, .ref a0), (1, .int v1), (2, .int v2), (3, .int v3)] → W p l e (headSpec ks_Mo_layers kr_Mo_layers).room s m ([.ref a0] : List Value).toArray below meth c H locs 0 0 (MQ below (z_Qi D z_cl z_KT dA Z (z_tys dA) z_nw Post) ([.ref a0] : List Value).toArray s 0 0 (fun q => Z ≤ q)) (F0 m 115 ls [.int t0]))
  have hw := hw (fun (v1 : Int32) (v2 : Int32) (σ : z_S) => ∀ (H : Heap) (locs : List Loc) (ls : Array Slot), z_G D z_cl z_KT dA Z σ H → va_S (fun q => Z ≤ q) s.heap H locs → lv_has ls 6 [(0, .ref a0), (1, .int v1), (2, .int v2)] → W p l e (headSpec ks_Mo_layers kr_Mo_layers).room s m ([.ref a0] : List Value).toArray below meth c H locs 0 0 (MQ below (z_Qi D z_cl z_KT dA Z (z_tys dA) z_nw Post) ([.ref a0] : List Value).toArray s 0 0 (fun q => Z ≤ q)) (F0 m 162 ls []))
  have hw := hw (by
    intro v1 σ hw H locs ls hG hS hl
    refine lv_iload_n hx hb kb_Mo_layers_2 rfl (lv_at hl 1 rfl) ?_
    refine lv_aload_n hx hb kb_Mo_layers_3 rfl (lv_at hl 0 rfl) ?_
    obtain ⟨hy, hw⟩ := hw
    refine zr_getI (ci := 8) (f := 817) hx hb hts ki_Mo hown hK hG hy rfl 17 (by decide) (hts _ (List.mem_cons_of_mem _ kw_601)) (fun _ h => h) rfl rfl kb_Mo_layers_4 ?_
    refine lv_icmp_ge (tgt := 36) hx hb kb_Mo_layers_7 (by decide) (fun hc => ?_) (fun hc => ?_)
    · have hw := hw.1 hc
      refine lv_iconst (v := (1 : Int32)) hx hb kb_Mo_layers_36 (by decide) ?_
      refine lv_istore_n (lv' := [(1, .int ((1 : Int32))), (0, .ref a0)]) hx hb kb_Mo_layers_37 rfl hl (by decide) rfl (fun ls hl => ?_)
      exact hw _ _ _ hG hS (lv_sub hl [1, 0] rfl)
    · have hw := hw.2 hc
      refine lv_aload_n hx hb kb_Mo_layers_10 rfl (lv_at hl 0 rfl) ?_
      obtain ⟨hy, r11, hrf, hw⟩ := hw
      refine zr_getR (ci := 8) (f := 821) hx hb hts ki_Mo hown hK hG hy rfl 21 (by decide) (hts _ (List.mem_cons_of_mem _ kw_605)) (fun _ h => h) rfl rfl hrf kb_Mo_layers_11 ?_
      refine lv_iload_n hx hb kb_Mo_layers_14 rfl (lv_at hl 1 rfl) ?_
      refine lv_aload_n hx hb kb_Mo_layers_15 rfl (lv_at hl 0 rfl) ?_
      obtain ⟨hy, r16, hrf, hw⟩ := hw
      refine zr_getR (ci := 8) (f := 820) hx hb hts ki_Mo hown hK hG hy rfl 20 (by decide) (hts _ (List.mem_cons_of_mem _ kw_604)) (fun _ h => h) rfl rfl hrf kb_Mo_layers_16 ?_
      refine lv_iload_n hx hb kb_Mo_layers_19 rfl (lv_at hl 1 rfl) ?_
      obtain ⟨n20, s20, hy, hi, hw⟩ := hw
      refine zr_zald hx hb hK hG 2 hy rfl hi kb_Mo_layers_20 ?_
      refine lv_if_eq (tgt := 28) hx hb kb_Mo_layers_21 (by decide) (fun hc => ?_) (fun hc => ?_)
      · have hw := hw.1 hc
        refine lv_iconst (v := (0 : Int32)) hx hb kb_Mo_layers_28 (by decide) ?_
        exact hw _ _ _ hG hS (lv_sub hl [0, 1] rfl)
      · have hw := hw.2 hc
        refine lv_iconst (v := (1 : Int32)) hx hb kb_Mo_layers_24 (by decide) ?_
        refine lv_goto (tgt := 29) hx hb kb_Mo_layers_25 (by decide) ?_
        exact hw _ _ _ hG hS (lv_sub hl [0, 1] rfl))
  have hw := hw (by
    intro v1 t0 t1 t2 σ hw H locs ls hG hS hl
    obtain ⟨n29, s29, hy, hi, hw⟩ := hw
    refine zr_iast hx hb hK hG hS 0 hy rfl hi kb_Mo_layers_29 (fun H locs hG hS => ?_)
    obtain ⟨σ29, e29⟩ : ∃ z, z = z_sA σ s29 t0 (upd (z_A σ s29 t0) t1.toNatClampNeg t2) := ⟨_, rfl⟩
    rw [← e29] at hG
    have hw := hw _ e29
    refine lv_iinc (v := v1 + (1 : Int32)) (lv' := [(1, .int (v1 + (1 : Int32))), (0, .ref a0)]) hx hb kb_Mo_layers_30 hl (k := 1) rfl rfl (by decide) rfl (fun ls hl => ?_)
    refine lv_goto (tgt := 2) hx hb kb_Mo_layers_33 (by decide) ?_
    exact hw _ _ _ hG hS (lv_sub hl [1, 0] rfl))
  have hw := hw (by
    intro v1 σ hw H locs ls hG hS hl
    refine lv_iload_n hx hb kb_Mo_layers_38 rfl (lv_at hl 1 rfl) ?_
    refine lv_if_eq (tgt := 192) hx hb kb_Mo_layers_39 (by decide) (fun hc => ?_) (fun hc => ?_)
    · have hw := hw.1 hc
      refine lv_iconst (v := (1 : Int32)) hx hb kb_Mo_layers_192 (by decide) ?_
      exact zr_iret (free := fun q => Z ≤ q) z_nwN hx hb hr rfl hZ hK hN hG hS hw kb_Mo_layers_193 hlocks
    · have hw := hw.2 hc
      refine lv_iconst (v := (0 : Int32)) hx hb kb_Mo_layers_42 (by decide) ?_
      refine lv_istore_n (lv' := [(1, .int ((0 : Int32))), (0, .ref a0)]) hx hb kb_Mo_layers_43 rfl hl (by decide) rfl (fun ls hl => ?_)
      refine lv_iconst (v := (0 : Int32)) hx hb kb_Mo_layers_44 (by decide) ?_
      refine lv_istore_n (lv' := [(2, .int ((0 : Int32))), (1, .int ((0 : Int32))), (0, .ref a0)]) hx hb kb_Mo_layers_45 rfl hl (by decide) rfl (fun ls hl => ?_)
      exact hw _ _ _ hG hS (lv_sub hl [2, 1, 0] rfl))
  have hw := hw (by
    intro v1 v2 σ hw H locs ls hG hS hl
    refine lv_iload_n hx hb kb_Mo_layers_46 rfl (lv_at hl 2 rfl) ?_
    refine lv_aload_n hx hb kb_Mo_layers_47 rfl (lv_at hl 0 rfl) ?_
    obtain ⟨hy, hw⟩ := hw
    refine zr_getI (ci := 8) (f := 808) hx hb hts ki_Mo hown hK hG hy rfl 8 (by decide) (hts _ (List.mem_cons_of_mem _ kw_592)) (fun _ h => h) rfl rfl kb_Mo_layers_48 ?_
    refine lv_icmp_ge (tgt := 160) hx hb kb_Mo_layers_51 (by decide) (fun hc => ?_) (fun hc => ?_)
    · have hw := hw.1 hc
      refine lv_iconst (v := (0 : Int32)) hx hb kb_Mo_layers_160 (by decide) ?_
      refine lv_istore_n (lv' := [(2, .int ((0 : Int32))), (0, .ref a0), (1, .int v1)]) hx hb kb_Mo_layers_161 rfl hl (by decide) rfl (fun ls hl => ?_)
      exact hw _ _ _ hG hS (lv_sub hl [1, 2, 0] rfl)
    · have hw := hw.2 hc
      refine lv_iconst (v := (0 : Int32)) hx hb kb_Mo_layers_54 (by decide) ?_
      refine lv_istore_n (lv' := [(3, .int ((0 : Int32))), (0, .ref a0), (1, .int v1), (2, .int v2)]) hx hb kb_Mo_layers_55 rfl hl (by decide) rfl (fun ls hl => ?_)
      exact hw _ _ _ hG hS (lv_sub hl [1, 2, 3, 0] rfl))
  have hw := hw (by
    intro v1 v2 v3 σ hw H locs ls hG hS hl
    refine lv_iload_n hx hb kb_Mo_layers_56 rfl (lv_at hl 3 rfl) ?_
    refine lv_aload_n hx hb kb_Mo_layers_57 rfl (lv_at hl 0 rfl) ?_
    obtain ⟨hy, r58, hrf, hw⟩ := hw
    refine zr_getR (ci := 8) (f := 811) hx hb hts ki_Mo hown hK hG hy rfl 11 (by decide) (hts _ (List.mem_cons_of_mem _ kw_595)) (fun _ h => h) rfl rfl hrf kb_Mo_layers_58 ?_
    refine lv_iload_n hx hb kb_Mo_layers_61 rfl (lv_at hl 2 rfl) ?_
    obtain ⟨n62, s62, hy, hi, hw⟩ := hw
    refine zr_iald hx hb hK hG 0 hy rfl hi kb_Mo_layers_62 ?_
    refine lv_icmp_ge (tgt := 154) hx hb kb_Mo_layers_63 (by decide) (fun hc => ?_) (fun hc => ?_)
    · have hw := hw.1 hc
      refine lv_iinc (v := v2 + (1 : Int32)) (lv' := [(2, .int (v2 + (1 : Int32))), (0, .ref a0), (1, .int v1), (3, .int v3)]) hx hb kb_Mo_layers_154 hl (k := 2) rfl rfl (by decide) rfl (fun ls hl => ?_)
      refine lv_goto (tgt := 46) hx hb kb_Mo_layers_157 (by decide) ?_
      exact hw _ _ _ hG hS (lv_sub hl [1, 2, 0] rfl)
    · have hw := hw.2 hc
      refine lv_iconst (v := (5 : Int32)) hx hb kb_Mo_layers_66 (by decide) ?_
      refine lv_iload_n hx hb kb_Mo_layers_67 rfl (lv_at hl 2 rfl) ?_
      refine lv_imul hx hb kb_Mo_layers_68 ?_
      refine lv_iload_n hx hb kb_Mo_layers_69 rfl (lv_at hl 3 rfl) ?_
      refine lv_iadd hx hb kb_Mo_layers_70 ?_
      refine lv_istore (lv' := [(4, .int ((((5 : Int32)) * v2) + v3)), (0, .ref a0), (1, .int v1), (2, .int v2), (3, .int v3)]) hx hb kb_Mo_layers_71 hl (by decide) rfl (fun ls hl => ?_)
      refine lv_aload_n hx hb kb_Mo_layers_73 rfl (lv_at hl 1 rfl) ?_
      obtain ⟨hy, r74, hrf, hw⟩ := hw
      refine zr_getR (ci := 8) (f := 812) hx hb hts ki_Mo hown hK hG hy rfl 12 (by decide) (hts _ (List.mem_cons_of_mem _ kw_596)) (fun _ h => h) rfl rfl hrf kb_Mo_layers_74 ?_
      refine lv_iload hx hb kb_Mo_layers_77 (lv_at hl 0 rfl) ?_
      obtain ⟨n79, s79, hy, hi, hw⟩ := hw
      refine zr_iald hx hb hK hG 0 hy rfl hi kb_Mo_layers_79 ?_
      refine lv_iconst (v := (2 : Int32)) hx hb kb_Mo_layers_80 (by decide) ?_
      refine lv_icmp_ne (tgt := 88) hx hb kb_Mo_layers_81 (by decide) (fun hc => ?_) (fun hc => ?_)
      · have hw := hw.1 hc
        refine lv_aload_n hx hb kb_Mo_layers_88 rfl (lv_at hl 1 rfl) ?_
        obtain ⟨hy, r89, hrf, hw⟩ := hw
        refine zr_getR (ci := 8) (f := 821) hx hb hts ki_Mo hown hK hG hy rfl 21 (by decide) (hts _ (List.mem_cons_of_mem _ kw_605)) (fun _ h => h) rfl rfl hrf kb_Mo_layers_89 ?_
        refine lv_aload_n hx hb kb_Mo_layers_92 rfl (lv_at hl 1 rfl) ?_
        obtain ⟨hy, r93, hrf, hw⟩ := hw
        refine zr_getR (ci := 8) (f := 813) hx hb hts ki_Mo hown hK hG hy rfl 13 (by decide) (hts _ (List.mem_cons_of_mem _ kw_597)) (fun _ h => h) rfl rfl hrf kb_Mo_layers_93 ?_
        refine lv_iload hx hb kb_Mo_layers_96 (lv_at hl 0 rfl) ?_
        obtain ⟨n98, s98, hy, hi, hw⟩ := hw
        refine zr_iald hx hb hK hG 0 hy rfl hi kb_Mo_layers_98 ?_
        obtain ⟨n99, s99, hy, hi, hw⟩ := hw
        refine zr_iald hx hb hK hG 0 hy rfl hi kb_Mo_layers_99 ?_
        refine lv_aload_n hx hb kb_Mo_layers_100 rfl (lv_at hl 1 rfl) ?_
        refine lv_iload_n hx hb kb_Mo_layers_101 rfl (lv_at hl 3 rfl) ?_
        refine lv_iload_n hx hb kb_Mo_layers_102 rfl (lv_at hl 4 rfl) ?_
        obtain ⟨hy, hw⟩ := hw
        refine zr_ci (va_runV (C := kR_Mo) (As := [.int v2, .int v3]) (rest := [.int (z_A σ s99 r89 (z_A σ s98 r93 ((((5 : Int32)) * v2) + v3).toNatClampNeg).toNatClampNeg)]) ⟨hx, hb, hml, hown, hts⟩ (kc_Mo_isStrict l D dA Z a0 v2 v3 σ _) ⟨callB_of 2 hts (z_gw kw_751) rfl rfl rfl (hts _ (List.mem_cons_of_mem _ kw_9)) (hts _ (List.mem_cons_of_mem _ kw_749)) (by decide +kernel) ⟨Nat.le_of_ble_eq_true rfl, Nat.le_of_ble_eq_true rfl⟩, (hts _ (List.mem_cons_of_mem _ kw_750)), (hts _ (List.mem_cons_of_mem _ kw_964))⟩ (z_preV z_nwN (Nat.le_trans hZ hS.1) hG hK hN hy (ci := 8) (r := (kR_Mo, kT_Mo, 51)) rfl hw) rfl rfl hl.1 rfl (lv_room (Nat.le_of_ble_eq_true rfl)) kb_Mo_layers_103 ⟨Nat.le_of_ble_eq_true rfl, Nat.le_of_ble_eq_true rfl⟩) hS (fun r103 σ103 H locs hw hG hS => ?_)
        refine lv_if_eq (tgt := 113) hx hb kb_Mo_layers_106 (by decide) (fun hc => ?_) (fun hc => ?_)
        · have hw := hw.1 hc
          refine lv_iconst (v := (0 : Int32)) hx hb kb_Mo_layers_113 (by decide) ?_
          refine lv_iadd hx hb kb_Mo_layers_114 ?_
          exact hw _ _ _ hG hS (lv_sub hl [1, 2, 3, 4] rfl)
        · have hw := hw.2 hc
          refine lv_iconst (v := (1 : Int32)) hx hb kb_Mo_layers_109 (by decide) ?_
          refine lv_goto (tgt := 114) hx hb kb_Mo_layers_110 (by decide) ?_
          refine lv_iadd hx hb kb_Mo_layers_114 ?_
          exact hw _ _ _ hG hS (lv_sub hl [1, 2, 3, 4] rfl)
      · have hw := hw.2 hc
        refine lv_iconst (v := (0 : Int32)) hx hb kb_Mo_layers_84 (by decide) ?_
        refine lv_goto (tgt := 115) hx hb kb_Mo_layers_85 (by decide) ?_
        exact hw _ _ _ hG hS (lv_sub hl [1, 2, 3, 4] rfl))
  have hw := hw (by
    intro v1 v2 v3 t0 σ hw H locs ls hG hS hl
    refine lv_istore (lv' := [(5, .int t0), (0, .ref a0), (1, .int v1), (2, .int v2), (3, .int v3)]) hx hb kb_Mo_layers_115 hl (by decide) rfl (fun ls hl => ?_)
    refine lv_iload hx hb kb_Mo_layers_117 (lv_at hl 0 rfl) ?_
    refine lv_aload_n hx hb kb_Mo_layers_119 rfl (lv_at hl 1 rfl) ?_
    obtain ⟨hy, r120, hrf, hw⟩ := hw
    refine zr_getR (ci := 8) (f := 821) hx hb hts ki_Mo hown hK hG hy rfl 21 (by decide) (hts _ (List.mem_cons_of_mem _ kw_605)) (fun _ h => h) rfl rfl hrf kb_Mo_layers_120 ?_
    refine lv_aload_n hx hb kb_Mo_layers_123 rfl (lv_at hl 1 rfl) ?_
    obtain ⟨hy, r124, hrf, hw⟩ := hw
    refine zr_getR (ci := 8) (f := 809) hx hb hts ki_Mo hown hK hG hy rfl 9 (by decide) (hts _ (List.mem_cons_of_mem _ kw_593)) (fun _ h => h) rfl rfl hrf kb_Mo_layers_124 ?_
    refine lv_iload_n hx hb kb_Mo_layers_127 rfl (lv_at hl 3 rfl) ?_
    obtain ⟨n128, s128, hy, hi, hw⟩ := hw
    refine zr_iald hx hb hK hG 0 hy rfl hi kb_Mo_layers_128 ?_
    obtain ⟨n129, s129, hy, hi, hw⟩ := hw
    refine zr_iald hx hb hK hG 0 hy rfl hi kb_Mo_layers_129 ?_
    refine lv_icmp_le (tgt := 148) hx hb kb_Mo_layers_130 (by decide) (fun hc => ?_) (fun hc => ?_)
    · have hw := hw.1 hc
      refine lv_iinc (v := v3 + (1 : Int32)) (lv' := [(3, .int (v3 + (1 : Int32))), (5, .int t0), (0, .ref a0), (1, .int v1), (2, .int v2)]) hx hb kb_Mo_layers_148 hl (k := 4) rfl rfl (by decide) rfl (fun ls hl => ?_)
      refine lv_goto (tgt := 56) hx hb kb_Mo_layers_151 (by decide) ?_
      exact hw _ _ _ hG hS (lv_sub hl [2, 3, 4, 0] rfl)
    · have hw := hw.2 hc
      refine lv_aload_n hx hb kb_Mo_layers_133 rfl (lv_at hl 1 rfl) ?_
      obtain ⟨hy, r134, hrf, hw⟩ := hw
      refine zr_getR (ci := 8) (f := 821) hx hb hts ki_Mo hown hK hG hy rfl 21 (by decide) (hts _ (List.mem_cons_of_mem _ kw_605)) (fun _ h => h) rfl rfl hrf kb_Mo_layers_134 ?_
      refine lv_aload_n hx hb kb_Mo_layers_137 rfl (lv_at hl 1 rfl) ?_
      obtain ⟨hy, r138, hrf, hw⟩ := hw
      refine zr_getR (ci := 8) (f := 809) hx hb hts ki_Mo hown hK hG hy rfl 9 (by decide) (hts _ (List.mem_cons_of_mem _ kw_593)) (fun _ h => h) rfl rfl hrf kb_Mo_layers_138 ?_
      refine lv_iload_n hx hb kb_Mo_layers_141 rfl (lv_at hl 3 rfl) ?_
      obtain ⟨n142, s142, hy, hi, hw⟩ := hw
      refine zr_iald hx hb hK hG 0 hy rfl hi kb_Mo_layers_142 ?_
      refine lv_iload hx hb kb_Mo_layers_143 (lv_at hl 0 rfl) ?_
      obtain ⟨n145, s145, hy, hi, hw⟩ := hw
      refine zr_iast hx hb hK hG hS 0 hy rfl hi kb_Mo_layers_145 (fun H locs hG hS => ?_)
      obtain ⟨σ145, e145⟩ : ∃ z, z = z_sA σ s145 r134 (upd (z_A σ s145 r134) (z_A σ s142 r138 v2.toNatClampNeg).toNatClampNeg t0) := ⟨_, rfl⟩
      rw [← e145] at hG
      have hw := hw _ e145
      refine lv_iconst (v := (1 : Int32)) hx hb kb_Mo_layers_146 (by decide) ?_
      refine lv_istore_n (lv' := [(1, .int ((1 : Int32))), (5, .int t0), (0, .ref a0), (2, .int v2), (3, .int v3)]) hx hb kb_Mo_layers_147 rfl hl (by decide) rfl (fun ls hl => ?_)
      refine lv_iinc (v := v3 + (1 : Int32)) (lv' := [(3, .int (v3 + (1 : Int32))), (1, .int ((1 : Int32))), (5, .int t0), (0, .ref a0), (2, .int v2)]) hx hb kb_Mo_layers_148 hl (k := 4) rfl rfl (by decide) rfl (fun ls hl => ?_)
      refine lv_goto (tgt := 56) hx hb kb_Mo_layers_151 (by decide) ?_
      exact hw _ _ _ hG hS (lv_sub hl [3, 1, 4, 0] rfl))
  have hw := hw (by
    intro v1 v2 σ hw H locs ls hG hS hl
    refine lv_iload_n hx hb kb_Mo_layers_162 rfl (lv_at hl 2 rfl) ?_
    refine lv_aload_n hx hb kb_Mo_layers_163 rfl (lv_at hl 0 rfl) ?_
    obtain ⟨hy, hw⟩ := hw
    refine zr_getI (ci := 8) (f := 817) hx hb hts ki_Mo hown hK hG hy rfl 17 (by decide) (hts _ (List.mem_cons_of_mem _ kw_601)) (fun _ h => h) rfl rfl kb_Mo_layers_164 ?_
    refine lv_icmp_ge (tgt := 189) hx hb kb_Mo_layers_167 (by decide) (fun hc => ?_) (fun hc => ?_)
    · have hw := hw.1 hc
      refine lv_goto (tgt := 38) hx hb kb_Mo_layers_189 (by decide) ?_
      exact hw _ _ _ hG hS (lv_sub hl [0, 1] rfl)
    · have hw := hw.2 hc
      refine lv_aload_n hx hb kb_Mo_layers_170 rfl (lv_at hl 0 rfl) ?_
      obtain ⟨hy, r171, hrf, hw⟩ := hw
      refine zr_getR (ci := 8) (f := 821) hx hb hts ki_Mo hown hK hG hy rfl 21 (by decide) (hts _ (List.mem_cons_of_mem _ kw_605)) (fun _ h => h) rfl rfl hrf kb_Mo_layers_171 ?_
      refine lv_iload_n hx hb kb_Mo_layers_174 rfl (lv_at hl 2 rfl) ?_
      obtain ⟨n175, s175, hy, hi, hw⟩ := hw
      refine zr_iald hx hb hK hG 0 hy rfl hi kb_Mo_layers_175 ?_
      refine lv_bipush (v := (8 : Int32)) hx hb kb_Mo_layers_176 (by decide) ?_
      refine lv_icmp_le (tgt := 183) hx hb kb_Mo_layers_178 (by decide) (fun hc => ?_) (fun hc => ?_)
      · have hw := hw.1 hc
        refine lv_iinc (v := v2 + (1 : Int32)) (lv' := [(2, .int (v2 + (1 : Int32))), (0, .ref a0), (1, .int v1)]) hx hb kb_Mo_layers_183 hl (k := 2) rfl rfl (by decide) rfl (fun ls hl => ?_)
        refine lv_goto (tgt := 162) hx hb kb_Mo_layers_186 (by decide) ?_
        exact hw _ _ _ hG hS (lv_sub hl [1, 2, 0] rfl)
      · have hw := hw.2 hc
        refine lv_iconst (v := (0 : Int32)) hx hb kb_Mo_layers_181 (by decide) ?_
        exact zr_iret (free := fun q => Z ≤ q) z_nwN hx hb hr rfl hZ hK hN hG hS hw kb_Mo_layers_182 hlocks)
  refine lv_iconst (v := (0 : Int32)) hx hb kb_Mo_layers_0 (by decide) ?_
  refine lv_istore_n (lv' := [(1, .int ((0 : Int32))), (0, .ref a0)]) hx hb kb_Mo_layers_1 rfl hl (by decide) rfl (fun ls hl => ?_)
  exact hw _ _ _ hG hS (lv_sub hl [1, 0] rfl)
def kp_Mo_reaches (a0 : Nat) (σ : z_S) (Post : z_S → Prop) : Prop := ∀ (X2 : Int32 → z_S → Prop) (X23 : Int32 → z_S → Prop) (X33 : Int32 → Int32 → z_S → Prop) (X97 : Int32 → z_S → Prop) (X105 : Int32 → Int32 → z_S → Prop) (X113 : Int32 → Int32 → Int32 → z_S → Prop) (X176 : Int32 → Int32 → Int32 → Nat → Int32 → Int32 → z_S → Prop),
    (∀ (v1 : Int32) (σ : z_S), ((((64 : Int32)) ≤ v1 → X23 ((0 : Int32)) σ) ∧ (¬ ((64 : Int32)) ≤ v1 → z_ty σ a0 = some (.inl 8) ∧ ∃ r9, z_R σ 822 a0 = some r9 ∧ (∃ n14 s14, z_ty σ r9 = some (.inr (2, n14, s14)) ∧ vp_in v1 n14 ∧ ∀ σ14, σ14 = z_sA σ s14 r9 (upd (z_A σ s14 r9) v1.toNatClampNeg (vp_nar .boolean ((0 : Int32)))) → X2 (v1 + (1 : Int32)) σ14))) → X2 v1 σ) →
    (∀ (v1 : Int32) (σ : z_S), (z_ty σ a0 = some (.inl 8) ∧ (((z_I σ 808 a0) ≤ v1 → X97 ((0 : Int32)) σ) ∧ (¬ (z_I σ 808 a0) ≤ v1 → X33 v1 ((0 : Int32)) σ))) → X23 v1 σ) →
    (∀ (v1 : Int32) (v2 : Int32) (σ : z_S), (z_ty σ a0 = some (.inl 8) ∧ ∃ r35, z_R σ 811 a0 = some r35 ∧ (∃ n39 s39, z_ty σ r35 = some (.inr (0, n39, s39)) ∧ vp_in v1 n39 ∧ (((z_A σ s39 r35 v1.toNatClampNeg) ≤ v2 → X23 (v1 + (1 : Int32)) σ) ∧ (¬ (z_A σ s39 r35 v1.toNatClampNeg) ≤ v2 → z_ty σ a0 = some (.inl 8) ∧ ∃ r44, z_R σ 812 a0 = some r44 ∧ (∃ n52 s52, z_ty σ r44 = some (.inr (0, n52, s52)) ∧ vp_in ((((5 : Int32)) * v1) + v2) n52 ∧ (((z_A σ s52 r44 ((((5 : Int32)) * v1) + v2).toNatClampNeg) = ((2 : Int32)) → X33 v1 (v2 + (1 : Int32)) σ) ∧ (¬ (z_A σ s52 r44 ((((5 : Int32)) * v1) + v2).toNatClampNeg) = ((2 : Int32)) → z_ty σ a0 = some (.inl 8) ∧ ∃ r58, z_R σ 822 a0 = some r58 ∧ (z_ty σ a0 = some (.inl 8) ∧ ∃ r64, z_R σ 809 a0 = some r64 ∧ (∃ n68 s68, z_ty σ r64 = some (.inr (0, n68, s68)) ∧ vp_in v1 n68 ∧ (z_ty σ a0 = some (.inl 8) ∧ ∃ r71, z_R σ 813 a0 = some r71 ∧ (∃ n79 s79, z_ty σ r71 = some (.inr (0, n79, s79)) ∧ vp_in ((((5 : Int32)) * v1) + v2) n79 ∧ (∃ n82 s82, z_ty σ r58 = some (.inr (2, n82, s82)) ∧ vp_in ((((8 : Int32)) * (z_A σ s68 r64 v1.toNatClampNeg)) + (z_A σ s79 r71 ((((5 : Int32)) * v1) + v2).toNatClampNeg)) n82 ∧ ∀ σ82, σ82 = z_sA σ s82 r58 (upd (z_A σ s82 r58) ((((8 : Int32)) * (z_A σ s68 r64 v1.toNatClampNeg)) + (z_A σ s79 r71 ((((5 : Int32)) * v1) + v2).toNatClampNeg)).toNatClampNeg (vp_nar .boolean ((1 : Int32)))) → X33 v1 (v2 + (1 : Int32)) σ82)))))))))))) → X33 v1 v2 σ) →
    (∀ (v1 : Int32) (σ : z_S), ((((8 : Int32)) ≤ v1 → Post σ) ∧ (¬ ((8 : Int32)) ≤ v1 → X105 v1 ((0 : Int32)) σ)) → X97 v1 σ) →
    (∀ (v1 : Int32) (v2 : Int32) (σ : z_S), ((((8 : Int32)) ≤ v2 → X97 (v1 + (1 : Int32)) σ) ∧ (¬ ((8 : Int32)) ≤ v2 → X113 v1 v2 ((0 : Int32)) σ)) → X105 v1 v2 σ) →
    (∀ (v1 : Int32) (v2 : Int32) (v3 : Int32) (σ : z_S), ((((8 : Int32)) ≤ v3 → X105 v1 (v2 + (1 : Int32)) σ) ∧ (¬ ((8 : Int32)) ≤ v3 → z_ty σ a0 = some (.inl 8) ∧ ∃ r120, z_R σ 822 a0 = some r120 ∧ (z_ty σ a0 = some (.inl 8) ∧ ∃ r130, z_R σ 822 a0 = some r130 ∧ (∃ n139 s139, z_ty σ r130 = some (.inr (2, n139, s139)) ∧ vp_in ((((8 : Int32)) * v2) + v3) n139 ∧ ((¬ ((z_A σ s139 r130 ((((8 : Int32)) * v2) + v3).toNatClampNeg)) = 0 → X176 v1 v2 v3 r120 ((((8 : Int32)) * v2) + v3) ((1 : Int32)) σ) ∧ (((z_A σ s139 r130 ((((8 : Int32)) * v2) + v3).toNatClampNeg)) = 0 → z_ty σ a0 = some (.inl 8) ∧ ∃ r144, z_R σ 822 a0 = some r144 ∧ (∃ n153 s153, z_ty σ r144 = some (.inr (2, n153, s153)) ∧ vp_in ((((8 : Int32)) * v2) + v1) n153 ∧ ((((z_A σ s153 r144 ((((8 : Int32)) * v2) + v1).toNatClampNeg)) = 0 → X176 v1 v2 v3 r120 ((((8 : Int32)) * v2) + v3) ((0 : Int32)) σ) ∧ (¬ ((z_A σ s153 r144 ((((8 : Int32)) * v2) + v1).toNatClampNeg)) = 0 → z_ty σ a0 = some (.inl 8) ∧ ∃ r158, z_R σ 822 a0 = some r158 ∧ (∃ n167 s167, z_ty σ r158 = some (.inr (2, n167, s167)) ∧ vp_in ((((8 : Int32)) * v1) + v3) n167 ∧ ((((z_A σ s167 r158 ((((8 : Int32)) * v1) + v3).toNatClampNeg)) = 0 → X176 v1 v2 v3 r120 ((((8 : Int32)) * v2) + v3) ((0 : Int32)) σ) ∧ (¬ ((z_A σ s167 r158 ((((8 : Int32)) * v1) + v3).toNatClampNeg)) = 0 → X176 v1 v2 v3 r120 ((((8 : Int32)) * v2) + v3) ((1 : Int32)) σ)))))))))))) → X113 v1 v2 v3 σ) →
    (∀ (v1 : Int32) (v2 : Int32) (v3 : Int32) (t0 : Nat) (t1 : Int32) (t2 : Int32) (σ : z_S), (∃ n176 s176, z_ty σ t0 = some (.inr (2, n176, s176)) ∧ vp_in t1 n176 ∧ ∀ σ176, σ176 = z_sA σ s176 t0 (upd (z_A σ s176 t0) t1.toNatClampNeg (vp_nar .boolean t2)) → X113 v1 v2 (v3 + (1 : Int32)) σ176) → X176 v1 v2 v3 t0 t1 t2 σ) →
    (X2 ((0 : Int32)) σ)
set_option maxHeartbeats 4000000 in
set_option maxRecDepth 100000 in
theorem kc_Mo_reaches (l : Launch) (D : va_G) (dA : Nat → ClassId) (Z : Nat) (a0 : Nat) (σ : z_S) (Post : z_S → Prop) : Met l km_Mo_reaches ks_Mo_reaches kr_Mo_reaches (va_Pc [.ref a0] (fun U => z_U D z_cl z_KT dA Z (z_tys dA) z_nw σ U ∧ kp_Mo_reaches  a0 σ Post)) (z_Qv D z_cl z_KT dA Z (z_tys dA) z_nw Post) 0 0 (fun q => Z ≤ q) := by
  refine Met.ofW (cc := prog_10_method_19_code) (maxL := 4) (ret := none) (by decide) rfl ?_
  intro p e s m args below meth c s₁ B hml hv
  obtain ⟨rfl, ⟨hZ, hG, hK, hN⟩, hw⟩ := hv
  have hx := B.exec
  have hb := B.bytes
  have hr := B.returns
  have hts := atoms_spec (ws := ks_Mo_reaches) B.pre
  have hown : s.vm.findClass kR_Mo = some m.cls := findClass_of_methodNamed B.named
  have hlocks := B.notSynchronized
  have hS : va_S (fun q => Z ≤ q) s.heap s.heap [] := va_S.rf
  have hl := lv_entry ([.ref a0]) (n := 4) (Nat.le_of_ble_eq_true rfl)
  rw [lg_entry_eq]
  generalize (lg_sl ([.ref a0]) ++ List.replicate (4 - (lg_sl ([.ref a0])).length) Slot.unset).toArray = ls at hl ⊢
  have hl : lv_has ls 4 [(0, .ref a0)] := hl
  unfold kp_Mo_reaches at hw
  have hw := hw (fun (v1 : Int32) (σ : z_S) => ∀ (H : Heap) (locs : List Loc) (ls : Array Slot), z_G D z_cl z_KT dA Z σ H → va_S (fun q => Z ≤ q) s.heap H locs → lv_has ls 4 [(0, .ref a0), (1, .int v1)] → W p l e (headSpec ks_Mo_reaches kr_Mo_reaches).room s m ([.ref a0] : List Value).toArray below meth c H locs 0 0 (MQ below (z_Qv D z_cl z_KT dA Z (z_tys dA) z_nw Post) ([.ref a0] : List Value).toArray s 0 0 (fun q => Z ≤ q)) (F0 m 2 ls []))
  have hw := hw (fun (v1 : Int32) (σ : z_S) => ∀ (H : Heap) (locs : List Loc) (ls : Array Slot), z_G D z_cl z_KT dA Z σ H → va_S (fun q => Z ≤ q) s.heap H locs → lv_has ls 4 [(0, .ref a0), (1, .int v1)] → W p l e (headSpec ks_Mo_reaches kr_Mo_reaches).room s m ([.ref a0] : List Value).toArray below meth c H locs 0 0 (MQ below (z_Qv D z_cl z_KT dA Z (z_tys dA) z_nw Post) ([.ref a0] : List Value).toArray s 0 0 (fun q => Z ≤ q)) (F0 m 23 ls []))
  have hw := hw (fun (v1 : Int32) (v2 : Int32) (σ : z_S) => ∀ (H : Heap) (locs : List Loc) (ls : Array Slot), z_G D z_cl z_KT dA Z σ H → va_S (fun q => Z ≤ q) s.heap H locs → lv_has ls 4 [(0, .ref a0), (1, .int v1), (2, .int v2)] → W p l e (headSpec ks_Mo_reaches kr_Mo_reaches).room s m ([.ref a0] : List Value).toArray below meth c H locs 0 0 (MQ below (z_Qv D z_cl z_KT dA Z (z_tys dA) z_nw Post) ([.ref a0] : List Value).toArray s 0 0 (fun q => Z ≤ q)) (F0 m 33 ls []))
  have hw := hw (fun (v1 : Int32) (σ : z_S) => ∀ (H : Heap) (locs : List Loc) (ls : Array Slot), z_G D z_cl z_KT dA Z σ H → va_S (fun q => Z ≤ q) s.heap H locs → lv_has ls 4 [(0, .ref a0), (1, .int v1)] → W p l e (headSpec ks_Mo_reaches kr_Mo_reaches).room s m ([.ref a0] : List Value).toArray below meth c H locs 0 0 (MQ below (z_Qv D z_cl z_KT dA Z (z_tys dA) z_nw Post) ([.ref a0] : List Value).toArray s 0 0 (fun q => Z ≤ q)) (F0 m 97 ls []))
  have hw := hw (fun (v1 : Int32) (v2 : Int32) (σ : z_S) => ∀ (H : Heap) (locs : List Loc) (ls : Array Slot), z_G D z_cl z_KT dA Z σ H → va_S (fun q => Z ≤ q) s.heap H locs → lv_has ls 4 [(0, .ref a0), (1, .int v1), (2, .int v2)] → W p l e (headSpec ks_Mo_reaches kr_Mo_reaches).room s m ([.ref a0] : List Value).toArray below meth c H locs 0 0 (MQ below (z_Qv D z_cl z_KT dA Z (z_tys dA) z_nw Post) ([.ref a0] : List Value).toArray s 0 0 (fun q => Z ≤ q)) (F0 m 105 ls []))
  have hw := hw (fun (v1 : Int32) (v2 : Int32) (v3 : Int32) (σ : z_S) => ∀ (H : Heap) (locs : List Loc) (ls : Array Slot), z_G D z_cl z_KT dA Z σ H → va_S (fun q => Z ≤ q) s.heap H locs → lv_has ls 4 [(0, .ref a0), (1, .int v1), (2, .int v2), (3, .int v3)] → W p l e (headSpec ks_Mo_reaches kr_Mo_reaches).room s m ([.ref a0] : List Value).toArray below meth c H locs 0 0 (MQ below (z_Qv D z_cl z_KT dA Z (z_tys dA) z_nw Post) ([.ref a0] : List Value).toArray s 0 0 (fun q => Z ≤ q)) (F0 m 113 ls []))
  have hw := hw (fun (v1 : Int32) (v2 : Int32) (v3 : Int32) (t0 : Nat) (t1 : Int32) (t2 : Int32) (σ : z_S) => ∀ (H : Heap) (locs : List Loc) (ls : Array Slot), z_G D z_cl z_KT dA Z σ H → va_S (fun q => Z ≤ q) s.heap H locs → lv_has ls 4 [(0, .ref a0), (1, .int v1), (2, .int v2), (3, .int v3)] → W p l e (headSpec ks_Mo_reaches kr_Mo_reaches).room s m ([.ref a0] : List Value).toArray below meth c H locs 0 0 (MQ below (z_Qv D z_cl z_KT dA Z (z_tys dA) z_nw Post) ([.ref a0] : List Value).toArray s 0 0 (fun q => Z ≤ q)) (F0 m 176 ls [.int t2, .int t1, .ref t0]))
  have hw := hw (by
    intro v1 σ hw H locs ls hG hS hl
    refine lv_iload_n hx hb kb_Mo_reaches_2 rfl (lv_at hl 1 rfl) ?_
    refine lv_bipush (v := (64 : Int32)) hx hb kb_Mo_reaches_3 (by decide) ?_
    refine lv_icmp_ge (tgt := 21) hx hb kb_Mo_reaches_5 (by decide) (fun hc => ?_) (fun hc => ?_)
    · have hw := hw.1 hc
      refine lv_iconst (v := (0 : Int32)) hx hb kb_Mo_reaches_21 (by decide) ?_
      refine lv_istore_n (lv' := [(1, .int ((0 : Int32))), (0, .ref a0)]) hx hb kb_Mo_reaches_22 rfl hl (by decide) rfl (fun ls hl => ?_)
      exact hw _ _ _ hG hS (lv_sub hl [1, 0] rfl)
    · have hw := hw.2 hc
      refine lv_aload_n hx hb kb_Mo_reaches_8 rfl (lv_at hl 0 rfl) ?_
      obtain ⟨hy, r9, hrf, hw⟩ := hw
      refine zr_getR (ci := 8) (f := 822) hx hb hts ki_Mo hown hK hG hy rfl 22 (by decide) (hts _ (List.mem_cons_of_mem _ kw_606)) (fun _ h => h) rfl rfl hrf kb_Mo_reaches_9 ?_
      refine lv_iload_n hx hb kb_Mo_reaches_12 rfl (lv_at hl 1 rfl) ?_
      refine lv_iconst (v := (0 : Int32)) hx hb kb_Mo_reaches_13 (by decide) ?_
      obtain ⟨n14, s14, hy, hi, hw⟩ := hw
      refine zr_zast hx hb hK hG hS 2 hy rfl hi kb_Mo_reaches_14 (fun H locs hG hS => ?_)
      obtain ⟨σ14, e14⟩ : ∃ z, z = z_sA σ s14 r9 (upd (z_A σ s14 r9) v1.toNatClampNeg (vp_nar .boolean ((0 : Int32)))) := ⟨_, rfl⟩
      rw [← e14] at hG
      have hw := hw _ e14
      refine lv_iinc (v := v1 + (1 : Int32)) (lv' := [(1, .int (v1 + (1 : Int32))), (0, .ref a0)]) hx hb kb_Mo_reaches_15 hl (k := 1) rfl rfl (by decide) rfl (fun ls hl => ?_)
      refine lv_goto (tgt := 2) hx hb kb_Mo_reaches_18 (by decide) ?_
      exact hw _ _ _ hG hS (lv_sub hl [1, 0] rfl))
  have hw := hw (by
    intro v1 σ hw H locs ls hG hS hl
    refine lv_iload_n hx hb kb_Mo_reaches_23 rfl (lv_at hl 1 rfl) ?_
    refine lv_aload_n hx hb kb_Mo_reaches_24 rfl (lv_at hl 0 rfl) ?_
    obtain ⟨hy, hw⟩ := hw
    refine zr_getI (ci := 8) (f := 808) hx hb hts ki_Mo hown hK hG hy rfl 8 (by decide) (hts _ (List.mem_cons_of_mem _ kw_592)) (fun _ h => h) rfl rfl kb_Mo_reaches_25 ?_
    refine lv_icmp_ge (tgt := 95) hx hb kb_Mo_reaches_28 (by decide) (fun hc => ?_) (fun hc => ?_)
    · have hw := hw.1 hc
      refine lv_iconst (v := (0 : Int32)) hx hb kb_Mo_reaches_95 (by decide) ?_
      refine lv_istore_n (lv' := [(1, .int ((0 : Int32))), (0, .ref a0)]) hx hb kb_Mo_reaches_96 rfl hl (by decide) rfl (fun ls hl => ?_)
      exact hw _ _ _ hG hS (lv_sub hl [1, 0] rfl)
    · have hw := hw.2 hc
      refine lv_iconst (v := (0 : Int32)) hx hb kb_Mo_reaches_31 (by decide) ?_
      refine lv_istore_n (lv' := [(2, .int ((0 : Int32))), (0, .ref a0), (1, .int v1)]) hx hb kb_Mo_reaches_32 rfl hl (by decide) rfl (fun ls hl => ?_)
      exact hw _ _ _ hG hS (lv_sub hl [1, 2, 0] rfl))
  have hw := hw (by
    intro v1 v2 σ hw H locs ls hG hS hl
    refine lv_iload_n hx hb kb_Mo_reaches_33 rfl (lv_at hl 2 rfl) ?_
    refine lv_aload_n hx hb kb_Mo_reaches_34 rfl (lv_at hl 0 rfl) ?_
    obtain ⟨hy, r35, hrf, hw⟩ := hw
    refine zr_getR (ci := 8) (f := 811) hx hb hts ki_Mo hown hK hG hy rfl 11 (by decide) (hts _ (List.mem_cons_of_mem _ kw_595)) (fun _ h => h) rfl rfl hrf kb_Mo_reaches_35 ?_
    refine lv_iload_n hx hb kb_Mo_reaches_38 rfl (lv_at hl 1 rfl) ?_
    obtain ⟨n39, s39, hy, hi, hw⟩ := hw
    refine zr_iald hx hb hK hG 0 hy rfl hi kb_Mo_reaches_39 ?_
    refine lv_icmp_ge (tgt := 89) hx hb kb_Mo_reaches_40 (by decide) (fun hc => ?_) (fun hc => ?_)
    · have hw := hw.1 hc
      refine lv_iinc (v := v1 + (1 : Int32)) (lv' := [(1, .int (v1 + (1 : Int32))), (0, .ref a0), (2, .int v2)]) hx hb kb_Mo_reaches_89 hl (k := 1) rfl rfl (by decide) rfl (fun ls hl => ?_)
      refine lv_goto (tgt := 23) hx hb kb_Mo_reaches_92 (by decide) ?_
      exact hw _ _ _ hG hS (lv_sub hl [1, 0] rfl)
    · have hw := hw.2 hc
      refine lv_aload_n hx hb kb_Mo_reaches_43 rfl (lv_at hl 0 rfl) ?_
      obtain ⟨hy, r44, hrf, hw⟩ := hw
      refine zr_getR (ci := 8) (f := 812) hx hb hts ki_Mo hown hK hG hy rfl 12 (by decide) (hts _ (List.mem_cons_of_mem _ kw_596)) (fun _ h => h) rfl rfl hrf kb_Mo_reaches_44 ?_
      refine lv_iconst (v := (5 : Int32)) hx hb kb_Mo_reaches_47 (by decide) ?_
      refine lv_iload_n hx hb kb_Mo_reaches_48 rfl (lv_at hl 1 rfl) ?_
      refine lv_imul hx hb kb_Mo_reaches_49 ?_
      refine lv_iload_n hx hb kb_Mo_reaches_50 rfl (lv_at hl 2 rfl) ?_
      refine lv_iadd hx hb kb_Mo_reaches_51 ?_
      obtain ⟨n52, s52, hy, hi, hw⟩ := hw
      refine zr_iald hx hb hK hG 0 hy rfl hi kb_Mo_reaches_52 ?_
      refine lv_iconst (v := (2 : Int32)) hx hb kb_Mo_reaches_53 (by decide) ?_
      refine lv_icmp_eq (tgt := 83) hx hb kb_Mo_reaches_54 (by decide) (fun hc => ?_) (fun hc => ?_)
      · have hw := hw.1 hc
        refine lv_iinc (v := v2 + (1 : Int32)) (lv' := [(2, .int (v2 + (1 : Int32))), (0, .ref a0), (1, .int v1)]) hx hb kb_Mo_reaches_83 hl (k := 2) rfl rfl (by decide) rfl (fun ls hl => ?_)
        refine lv_goto (tgt := 33) hx hb kb_Mo_reaches_86 (by decide) ?_
        exact hw _ _ _ hG hS (lv_sub hl [1, 2, 0] rfl)
      · have hw := hw.2 hc
        refine lv_aload_n hx hb kb_Mo_reaches_57 rfl (lv_at hl 0 rfl) ?_
        obtain ⟨hy, r58, hrf, hw⟩ := hw
        refine zr_getR (ci := 8) (f := 822) hx hb hts ki_Mo hown hK hG hy rfl 22 (by decide) (hts _ (List.mem_cons_of_mem _ kw_606)) (fun _ h => h) rfl rfl hrf kb_Mo_reaches_58 ?_
        refine lv_bipush (v := (8 : Int32)) hx hb kb_Mo_reaches_61 (by decide) ?_
        refine lv_aload_n hx hb kb_Mo_reaches_63 rfl (lv_at hl 0 rfl) ?_
        obtain ⟨hy, r64, hrf, hw⟩ := hw
        refine zr_getR (ci := 8) (f := 809) hx hb hts ki_Mo hown hK hG hy rfl 9 (by decide) (hts _ (List.mem_cons_of_mem _ kw_593)) (fun _ h => h) rfl rfl hrf kb_Mo_reaches_64 ?_
        refine lv_iload_n hx hb kb_Mo_reaches_67 rfl (lv_at hl 1 rfl) ?_
        obtain ⟨n68, s68, hy, hi, hw⟩ := hw
        refine zr_iald hx hb hK hG 0 hy rfl hi kb_Mo_reaches_68 ?_
        refine lv_imul hx hb kb_Mo_reaches_69 ?_
        refine lv_aload_n hx hb kb_Mo_reaches_70 rfl (lv_at hl 0 rfl) ?_
        obtain ⟨hy, r71, hrf, hw⟩ := hw
        refine zr_getR (ci := 8) (f := 813) hx hb hts ki_Mo hown hK hG hy rfl 13 (by decide) (hts _ (List.mem_cons_of_mem _ kw_597)) (fun _ h => h) rfl rfl hrf kb_Mo_reaches_71 ?_
        refine lv_iconst (v := (5 : Int32)) hx hb kb_Mo_reaches_74 (by decide) ?_
        refine lv_iload_n hx hb kb_Mo_reaches_75 rfl (lv_at hl 1 rfl) ?_
        refine lv_imul hx hb kb_Mo_reaches_76 ?_
        refine lv_iload_n hx hb kb_Mo_reaches_77 rfl (lv_at hl 2 rfl) ?_
        refine lv_iadd hx hb kb_Mo_reaches_78 ?_
        obtain ⟨n79, s79, hy, hi, hw⟩ := hw
        refine zr_iald hx hb hK hG 0 hy rfl hi kb_Mo_reaches_79 ?_
        refine lv_iadd hx hb kb_Mo_reaches_80 ?_
        refine lv_iconst (v := (1 : Int32)) hx hb kb_Mo_reaches_81 (by decide) ?_
        obtain ⟨n82, s82, hy, hi, hw⟩ := hw
        refine zr_zast hx hb hK hG hS 2 hy rfl hi kb_Mo_reaches_82 (fun H locs hG hS => ?_)
        obtain ⟨σ82, e82⟩ : ∃ z, z = z_sA σ s82 r58 (upd (z_A σ s82 r58) ((((8 : Int32)) * (z_A σ s68 r64 v1.toNatClampNeg)) + (z_A σ s79 r71 ((((5 : Int32)) * v1) + v2).toNatClampNeg)).toNatClampNeg (vp_nar .boolean ((1 : Int32)))) := ⟨_, rfl⟩
        rw [← e82] at hG
        have hw := hw _ e82
        refine lv_iinc (v := v2 + (1 : Int32)) (lv' := [(2, .int (v2 + (1 : Int32))), (0, .ref a0), (1, .int v1)]) hx hb kb_Mo_reaches_83 hl (k := 2) rfl rfl (by decide) rfl (fun ls hl => ?_)
        refine lv_goto (tgt := 33) hx hb kb_Mo_reaches_86 (by decide) ?_
        exact hw _ _ _ hG hS (lv_sub hl [1, 2, 0] rfl))
  have hw := hw (by
    intro v1 σ hw H locs ls hG hS hl
    refine lv_iload_n hx hb kb_Mo_reaches_97 rfl (lv_at hl 1 rfl) ?_
    refine lv_bipush (v := (8 : Int32)) hx hb kb_Mo_reaches_98 (by decide) ?_
    refine lv_icmp_ge (tgt := 195) hx hb kb_Mo_reaches_100 (by decide) (fun hc => ?_) (fun hc => ?_)
    · have hw := hw.1 hc
      exact zr_vret z_nwN hx hb hr hZ hK hN hG hS hw kb_Mo_reaches_195 hlocks
    · have hw := hw.2 hc
      refine lv_iconst (v := (0 : Int32)) hx hb kb_Mo_reaches_103 (by decide) ?_
      refine lv_istore_n (lv' := [(2, .int ((0 : Int32))), (0, .ref a0), (1, .int v1)]) hx hb kb_Mo_reaches_104 rfl hl (by decide) rfl (fun ls hl => ?_)
      exact hw _ _ _ hG hS (lv_sub hl [1, 2, 0] rfl))
  have hw := hw (by
    intro v1 v2 σ hw H locs ls hG hS hl
    refine lv_iload_n hx hb kb_Mo_reaches_105 rfl (lv_at hl 2 rfl) ?_
    refine lv_bipush (v := (8 : Int32)) hx hb kb_Mo_reaches_106 (by decide) ?_
    refine lv_icmp_ge (tgt := 189) hx hb kb_Mo_reaches_108 (by decide) (fun hc => ?_) (fun hc => ?_)
    · have hw := hw.1 hc
      refine lv_iinc (v := v1 + (1 : Int32)) (lv' := [(1, .int (v1 + (1 : Int32))), (0, .ref a0), (2, .int v2)]) hx hb kb_Mo_reaches_189 hl (k := 1) rfl rfl (by decide) rfl (fun ls hl => ?_)
      refine lv_goto (tgt := 97) hx hb kb_Mo_reaches_192 (by decide) ?_
      exact hw _ _ _ hG hS (lv_sub hl [1, 0] rfl)
    · have hw := hw.2 hc
      refine lv_iconst (v := (0 : Int32)) hx hb kb_Mo_reaches_111 (by decide) ?_
      refine lv_istore_n (lv' := [(3, .int ((0 : Int32))), (0, .ref a0), (1, .int v1), (2, .int v2)]) hx hb kb_Mo_reaches_112 rfl hl (by decide) rfl (fun ls hl => ?_)
      exact hw _ _ _ hG hS (lv_sub hl [1, 2, 3, 0] rfl))
  have hw := hw (by
    intro v1 v2 v3 σ hw H locs ls hG hS hl
    refine lv_iload_n hx hb kb_Mo_reaches_113 rfl (lv_at hl 3 rfl) ?_
    refine lv_bipush (v := (8 : Int32)) hx hb kb_Mo_reaches_114 (by decide) ?_
    refine lv_icmp_ge (tgt := 183) hx hb kb_Mo_reaches_116 (by decide) (fun hc => ?_) (fun hc => ?_)
    · have hw := hw.1 hc
      refine lv_iinc (v := v2 + (1 : Int32)) (lv' := [(2, .int (v2 + (1 : Int32))), (0, .ref a0), (1, .int v1), (3, .int v3)]) hx hb kb_Mo_reaches_183 hl (k := 2) rfl rfl (by decide) rfl (fun ls hl => ?_)
      refine lv_goto (tgt := 105) hx hb kb_Mo_reaches_186 (by decide) ?_
      exact hw _ _ _ hG hS (lv_sub hl [1, 2, 0] rfl)
    · have hw := hw.2 hc
      refine lv_aload_n hx hb kb_Mo_reaches_119 rfl (lv_at hl 0 rfl) ?_
      obtain ⟨hy, r120, hrf, hw⟩ := hw
      refine zr_getR (ci := 8) (f := 822) hx hb hts ki_Mo hown hK hG hy rfl 22 (by decide) (hts _ (List.mem_cons_of_mem _ kw_606)) (fun _ h => h) rfl rfl hrf kb_Mo_reaches_120 ?_
      refine lv_bipush (v := (8 : Int32)) hx hb kb_Mo_reaches_123 (by decide) ?_
      refine lv_iload_n hx hb kb_Mo_reaches_125 rfl (lv_at hl 2 rfl) ?_
      refine lv_imul hx hb kb_Mo_reaches_126 ?_
      refine lv_iload_n hx hb kb_Mo_reaches_127 rfl (lv_at hl 3 rfl) ?_
      refine lv_iadd hx hb kb_Mo_reaches_128 ?_
      refine lv_aload_n hx hb kb_Mo_reaches_129 rfl (lv_at hl 0 rfl) ?_
      obtain ⟨hy, r130, hrf, hw⟩ := hw
      refine zr_getR (ci := 8) (f := 822) hx hb hts ki_Mo hown hK hG hy rfl 22 (by decide) (hts _ (List.mem_cons_of_mem _ kw_606)) (fun _ h => h) rfl rfl hrf kb_Mo_reaches_130 ?_
      refine lv_bipush (v := (8 : Int32)) hx hb kb_Mo_reaches_133 (by decide) ?_
      refine lv_iload_n hx hb kb_Mo_reaches_135 rfl (lv_at hl 2 rfl) ?_
      refine lv_imul hx hb kb_Mo_reaches_136 ?_
      refine lv_iload_n hx hb kb_Mo_reaches_137 rfl (lv_at hl 3 rfl) ?_
      refine lv_iadd hx hb kb_Mo_reaches_138 ?_
      obtain ⟨n139, s139, hy, hi, hw⟩ := hw
      refine zr_zald hx hb hK hG 2 hy rfl hi kb_Mo_reaches_139 ?_
      refine lv_if_ne (tgt := 171) hx hb kb_Mo_reaches_140 (by decide) (fun hc => ?_) (fun hc => ?_)
      · have hw := hw.1 hc
        refine lv_iconst (v := (1 : Int32)) hx hb kb_Mo_reaches_171 (by decide) ?_
        refine lv_goto (tgt := 176) hx hb kb_Mo_reaches_172 (by decide) ?_
        exact hw _ _ _ hG hS (lv_sub hl [0, 1, 2, 3] rfl)
      · have hw := hw.2 hc
        refine lv_aload_n hx hb kb_Mo_reaches_143 rfl (lv_at hl 0 rfl) ?_
        obtain ⟨hy, r144, hrf, hw⟩ := hw
        refine zr_getR (ci := 8) (f := 822) hx hb hts ki_Mo hown hK hG hy rfl 22 (by decide) (hts _ (List.mem_cons_of_mem _ kw_606)) (fun _ h => h) rfl rfl hrf kb_Mo_reaches_144 ?_
        refine lv_bipush (v := (8 : Int32)) hx hb kb_Mo_reaches_147 (by decide) ?_
        refine lv_iload_n hx hb kb_Mo_reaches_149 rfl (lv_at hl 2 rfl) ?_
        refine lv_imul hx hb kb_Mo_reaches_150 ?_
        refine lv_iload_n hx hb kb_Mo_reaches_151 rfl (lv_at hl 1 rfl) ?_
        refine lv_iadd hx hb kb_Mo_reaches_152 ?_
        obtain ⟨n153, s153, hy, hi, hw⟩ := hw
        refine zr_zald hx hb hK hG 2 hy rfl hi kb_Mo_reaches_153 ?_
        refine lv_if_eq (tgt := 175) hx hb kb_Mo_reaches_154 (by decide) (fun hc => ?_) (fun hc => ?_)
        · have hw := hw.1 hc
          refine lv_iconst (v := (0 : Int32)) hx hb kb_Mo_reaches_175 (by decide) ?_
          exact hw _ _ _ hG hS (lv_sub hl [0, 1, 2, 3] rfl)
        · have hw := hw.2 hc
          refine lv_aload_n hx hb kb_Mo_reaches_157 rfl (lv_at hl 0 rfl) ?_
          obtain ⟨hy, r158, hrf, hw⟩ := hw
          refine zr_getR (ci := 8) (f := 822) hx hb hts ki_Mo hown hK hG hy rfl 22 (by decide) (hts _ (List.mem_cons_of_mem _ kw_606)) (fun _ h => h) rfl rfl hrf kb_Mo_reaches_158 ?_
          refine lv_bipush (v := (8 : Int32)) hx hb kb_Mo_reaches_161 (by decide) ?_
          refine lv_iload_n hx hb kb_Mo_reaches_163 rfl (lv_at hl 1 rfl) ?_
          refine lv_imul hx hb kb_Mo_reaches_164 ?_
          refine lv_iload_n hx hb kb_Mo_reaches_165 rfl (lv_at hl 3 rfl) ?_
          refine lv_iadd hx hb kb_Mo_reaches_166 ?_
          obtain ⟨n167, s167, hy, hi, hw⟩ := hw
          refine zr_zald hx hb hK hG 2 hy rfl hi kb_Mo_reaches_167 ?_
          refine lv_if_eq (tgt := 175) hx hb kb_Mo_reaches_168 (by decide) (fun hc => ?_) (fun hc => ?_)
          · have hw := hw.1 hc
            refine lv_iconst (v := (0 : Int32)) hx hb kb_Mo_reaches_175 (by decide) ?_
            exact hw _ _ _ hG hS (lv_sub hl [0, 1, 2, 3] rfl)
          · have hw := hw.2 hc
            refine lv_iconst (v := (1 : Int32)) hx hb kb_Mo_reaches_171 (by decide) ?_
            refine lv_goto (tgt := 176) hx hb kb_Mo_reaches_172 (by decide) ?_
            exact hw _ _ _ hG hS (lv_sub hl [0, 1, 2, 3] rfl))
  have hw := hw (by
    intro v1 v2 v3 t0 t1 t2 σ hw H locs ls hG hS hl
    obtain ⟨n176, s176, hy, hi, hw⟩ := hw
    refine zr_zast hx hb hK hG hS 2 hy rfl hi kb_Mo_reaches_176 (fun H locs hG hS => ?_)
    obtain ⟨σ176, e176⟩ : ∃ z, z = z_sA σ s176 t0 (upd (z_A σ s176 t0) t1.toNatClampNeg (vp_nar .boolean t2)) := ⟨_, rfl⟩
    rw [← e176] at hG
    have hw := hw _ e176
    refine lv_iinc (v := v3 + (1 : Int32)) (lv' := [(3, .int (v3 + (1 : Int32))), (0, .ref a0), (1, .int v1), (2, .int v2)]) hx hb kb_Mo_reaches_177 hl (k := 3) rfl rfl (by decide) rfl (fun ls hl => ?_)
    refine lv_goto (tgt := 113) hx hb kb_Mo_reaches_180 (by decide) ?_
    exact hw _ _ _ hG hS (lv_sub hl [1, 2, 3, 0] rfl))
  refine lv_iconst (v := (0 : Int32)) hx hb kb_Mo_reaches_0 (by decide) ?_
  refine lv_istore_n (lv' := [(1, .int ((0 : Int32))), (0, .ref a0)]) hx hb kb_Mo_reaches_1 rfl hl (by decide) rfl (fun ls hl => ?_)
  exact hw _ _ _ hG hS (lv_sub hl [1, 0] rfl)
def kp_Mo_isBadRing (a0 : Nat) (x1 : Int32) (σ : z_S) (Post : Int32 → z_S → Prop) : Prop := ∀ (X4 : Int32 → Int32 → z_S → Prop) (X15 : Int32 → Int32 → Int32 → z_S → Prop) (X85 : Int32 → Int32 → Int32 → Int32 → z_S → Prop),
    (∀ (v2 : Int32) (v3 : Int32) (σ : z_S), (z_ty σ a0 = some (.inl 8) ∧ (((z_I σ 808 a0) ≤ v3 → (v2 = 0 ∨ v2 = 1) ∧ Post v2 σ) ∧ (¬ (z_I σ 808 a0) ≤ v3 → X15 v2 v3 ((0 : Int32)) σ))) → X4 v2 v3 σ) →
    (∀ (v2 : Int32) (v3 : Int32) (v4 : Int32) (σ : z_S), (z_ty σ a0 = some (.inl 8) ∧ ∃ r18, z_R σ 811 a0 = some r18 ∧ (∃ n22 s22, z_ty σ r18 = some (.inr (0, n22, s22)) ∧ vp_in v3 n22 ∧ (((z_A σ s22 r18 v3.toNatClampNeg) ≤ v4 → X4 v2 (v3 + (1 : Int32)) σ) ∧ (¬ (z_A σ s22 r18 v3.toNatClampNeg) ≤ v4 → z_ty σ a0 = some (.inl 8) ∧ ∃ r35, z_R σ 812 a0 = some r35 ∧ (∃ n40 s40, z_ty σ r35 = some (.inr (0, n40, s40)) ∧ vp_in ((((5 : Int32)) * v3) + v4) n40 ∧ (((z_A σ s40 r35 ((((5 : Int32)) * v3) + v4).toNatClampNeg) = ((2 : Int32)) → X85 v2 v3 v4 ((0 : Int32)) σ) ∧ (¬ (z_A σ s40 r35 ((((5 : Int32)) * v3) + v4).toNatClampNeg) = ((2 : Int32)) → z_ty σ a0 = some (.inl 8) ∧ kp_Mo_isStrict a0 v3 v4 σ (fun (r49 : Int32) (σ49 : z_S) => (r49 = 0 → X85 v2 v3 v4 ((0 : Int32)) σ49) ∧ (¬ r49 = 0 → z_ty σ49 a0 = some (.inl 8) ∧ ∃ r56, z_R σ49 822 a0 = some r56 ∧ (z_ty σ49 a0 = some (.inl 8) ∧ ∃ r62, z_R σ49 813 a0 = some r62 ∧ (∃ n67 s67, z_ty σ49 r62 = some (.inr (0, n67, s67)) ∧ vp_in ((((5 : Int32)) * v3) + v4) n67 ∧ (z_ty σ49 a0 = some (.inl 8) ∧ ∃ r70, z_R σ49 809 a0 = some r70 ∧ (∃ n74 s74, z_ty σ49 r70 = some (.inr (0, n74, s74)) ∧ vp_in v3 n74 ∧ (∃ n76 s76, z_ty σ49 r56 = some (.inr (2, n76, s76)) ∧ vp_in ((((8 : Int32)) * (z_A σ49 s67 r62 ((((5 : Int32)) * v3) + v4).toNatClampNeg)) + (z_A σ49 s74 r70 v3.toNatClampNeg)) n76 ∧ ((((z_A σ49 s76 r56 ((((8 : Int32)) * (z_A σ49 s67 r62 ((((5 : Int32)) * v3) + v4).toNatClampNeg)) + (z_A σ49 s74 r70 v3.toNatClampNeg)).toNatClampNeg)) = 0 → X85 v2 v3 v4 ((0 : Int32)) σ49) ∧ (¬ ((z_A σ49 s76 r56 ((((8 : Int32)) * (z_A σ49 s67 r62 ((((5 : Int32)) * v3) + v4).toNatClampNeg)) + (z_A σ49 s74 r70 v3.toNatClampNeg)).toNatClampNeg)) = 0 → X85 v2 v3 v4 ((1 : Int32)) σ49)))))))))))))))) → X15 v2 v3 v4 σ) →
    (∀ (v2 : Int32) (v3 : Int32) (v4 : Int32) (t0 : Int32) (σ : z_S), ((¬ v2 = 0 → X15 ((1 : Int32)) v3 (v4 + (1 : Int32)) σ) ∧ (v2 = 0 → (t0 = 0 → X15 ((0 : Int32)) v3 (v4 + (1 : Int32)) σ) ∧ (¬ t0 = 0 → z_ty σ a0 = some (.inl 8) ∧ ∃ r97, z_R σ 809 a0 = some r97 ∧ (∃ n101 s101, z_ty σ r97 = some (.inr (0, n101, s101)) ∧ vp_in v3 n101 ∧ (((z_A σ s101 r97 v3.toNatClampNeg) = x1 → X15 ((1 : Int32)) v3 (v4 + (1 : Int32)) σ) ∧ (¬ (z_A σ s101 r97 v3.toNatClampNeg) = x1 → z_ty σ a0 = some (.inl 8) ∧ ∃ r107, z_R σ 822 a0 = some r107 ∧ (z_ty σ a0 = some (.inl 8) ∧ ∃ r115, z_R σ 809 a0 = some r115 ∧ (∃ n119 s119, z_ty σ r115 = some (.inr (0, n119, s119)) ∧ vp_in v3 n119 ∧ (∃ n121 s121, z_ty σ r107 = some (.inr (2, n121, s121)) ∧ vp_in ((((8 : Int32)) * x1) + (z_A σ s119 r115 v3.toNatClampNeg)) n121 ∧ ((((z_A σ s121 r107 ((((8 : Int32)) * x1) + (z_A σ s119 r115 v3.toNatClampNeg)).toNatClampNeg)) = 0 → X15 ((0 : Int32)) v3 (v4 + (1 : Int32)) σ) ∧ (¬ ((z_A σ s121 r107 ((((8 : Int32)) * x1) + (z_A σ s119 r115 v3.toNatClampNeg)).toNatClampNeg)) = 0 → z_ty σ a0 = some (.inl 8) ∧ ∃ r126, z_R σ 822 a0 = some r126 ∧ (z_ty σ a0 = some (.inl 8) ∧ ∃ r132, z_R σ 809 a0 = some r132 ∧ (∃ n136 s136, z_ty σ r132 = some (.inr (0, n136, s136)) ∧ vp_in v3 n136 ∧ (∃ n140 s140, z_ty σ r126 = some (.inr (2, n140, s140)) ∧ vp_in ((((8 : Int32)) * (z_A σ s136 r132 v3.toNatClampNeg)) + x1) n140 ∧ ((((z_A σ s140 r126 ((((8 : Int32)) * (z_A σ s136 r132 v3.toNatClampNeg)) + x1).toNatClampNeg)) = 0 → X15 ((0 : Int32)) v3 (v4 + (1 : Int32)) σ) ∧ (¬ ((z_A σ s140 r126 ((((8 : Int32)) * (z_A σ s136 r132 v3.toNatClampNeg)) + x1).toNatClampNeg)) = 0 → X15 ((1 : Int32)) v3 (v4 + (1 : Int32)) σ)))))))))))))))) → X85 v2 v3 v4 t0 σ) →
    (X4 ((0 : Int32)) ((0 : Int32)) σ)
set_option maxHeartbeats 4000000 in
set_option maxRecDepth 100000 in
theorem kc_Mo_isBadRing (l : Launch) (D : va_G) (dA : Nat → ClassId) (Z : Nat) (a0 : Nat) (x1 : Int32) (σ : z_S) (Post : Int32 → z_S → Prop) : Met l km_Mo_isBadRing ks_Mo_isBadRing kr_Mo_isBadRing (va_Pc [.ref a0, .int x1] (fun U => z_U D z_cl z_KT dA Z (z_tys dA) z_nw σ U ∧ kp_Mo_isBadRing  a0 x1 σ Post)) (z_Qi D z_cl z_KT dA Z (z_tys dA) z_nw Post) 0 0 (fun q => Z ≤ q) := by
  refine Met.ofW (cc := prog_10_method_20_code) (maxL := 7) (ret := (some .boolean)) (by decide) rfl ?_
  intro p e s m args below meth c s₁ B hml hv
  obtain ⟨rfl, ⟨hZ, hG, hK, hN⟩, hw⟩ := hv
  have hx := B.exec
  have hb := B.bytes
  have hr := B.returns
  have hts := atoms_spec (ws := ks_Mo_isBadRing) B.pre
  have hown : s.vm.findClass kR_Mo = some m.cls := findClass_of_methodNamed B.named
  have hlocks := B.notSynchronized
  have hS : va_S (fun q => Z ≤ q) s.heap s.heap [] := va_S.rf
  have hl := lv_entry ([.ref a0, .int x1]) (n := 7) (Nat.le_of_ble_eq_true rfl)
  rw [lg_entry_eq]
  generalize (lg_sl ([.ref a0, .int x1]) ++ List.replicate (7 - (lg_sl ([.ref a0, .int x1])).length) Slot.unset).toArray = ls at hl ⊢
  have hl : lv_has ls 7 [(0, .ref a0), (1, .int x1)] := hl
  unfold kp_Mo_isBadRing at hw
  have hw := hw (fun (v2 : Int32) (v3 : Int32) (σ : z_S) => ∀ (H : Heap) (locs : List Loc) (ls : Array Slot), z_G D z_cl z_KT dA Z σ H → va_S (fun q => Z ≤ q) s.heap H locs → lv_has ls 7 [(0, .ref a0), (1, .int x1), (2, .int v2), (3, .int v3)] → W p l e (headSpec ks_Mo_isBadRing kr_Mo_isBadRing).room s m ([.ref a0, .int x1] : List Value).toArray below meth c H locs 0 0 (MQ below (z_Qi D z_cl z_KT dA Z (z_tys dA) z_nw Post) ([.ref a0, .int x1] : List Value).toArray s 0 0 (fun q => Z ≤ q)) (F0 m 4 ls []))
  have hw := hw (fun (v2 : Int32) (v3 : Int32) (v4 : Int32) (σ : z_S) => ∀ (H : Heap) (locs : List Loc) (ls : Array Slot), z_G D z_cl z_KT dA Z σ H → va_S (fun q => Z ≤ q) s.heap H locs → lv_has ls 7 [(0, .ref a0), (1, .int x1), (2, .int v2), (3, .int v3), (4, .int v4)] → W p l e (headSpec ks_Mo_isBadRing kr_Mo_isBadRing).room s m ([.ref a0, .int x1] : List Value).toArray below meth c H locs 0 0 (MQ below (z_Qi D z_cl z_KT dA Z (z_tys dA) z_nw Post) ([.ref a0, .int x1] : List Value).toArray s 0 0 (fun q => Z ≤ q)) (F0 m 15 ls []))
  have hw := hw (fun (v2 : Int32) (v3 : Int32) (v4 : Int32) (t0 : Int32) (σ : z_S) => ∀ (H : Heap) (locs : List Loc) (ls : Array Slot), z_G D z_cl z_KT dA Z σ H → va_S (fun q => Z ≤ q) s.heap H locs → lv_has ls 7 [(0, .ref a0), (1, .int x1), (2, .int v2), (3, .int v3), (4, .int v4)] → W p l e (headSpec ks_Mo_isBadRing kr_Mo_isBadRing).room s m ([.ref a0, .int x1] : List Value).toArray below meth c H locs 0 0 (MQ below (z_Qi D z_cl z_KT dA Z (z_tys dA) z_nw Post) ([.ref a0, .int x1] : List Value).toArray s 0 0 (fun q => Z ≤ q)) (F0 m 85 ls [.int t0]))
  have hw := hw (by
    intro v2 v3 σ hw H locs ls hG hS hl
    refine lv_iload_n hx hb kb_Mo_isBadRing_4 rfl (lv_at hl 3 rfl) ?_
    refine lv_aload_n hx hb kb_Mo_isBadRing_5 rfl (lv_at hl 0 rfl) ?_
    obtain ⟨hy, hw⟩ := hw
    refine zr_getI (ci := 8) (f := 808) hx hb hts ki_Mo hown hK hG hy rfl 8 (by decide) (hts _ (List.mem_cons_of_mem _ kw_592)) (fun _ h => h) rfl rfl kb_Mo_isBadRing_6 ?_
    refine lv_icmp_ge (tgt := 162) hx hb kb_Mo_isBadRing_9 (by decide) (fun hc => ?_) (fun hc => ?_)
    · have hw := hw.1 hc
      refine lv_iload_n hx hb kb_Mo_isBadRing_162 rfl (lv_at hl 2 rfl) ?_
      exact zr_iret (free := fun q => Z ≤ q) z_nwN hx hb hr (z_bool hw.1) hZ hK hN hG hS hw.2 kb_Mo_isBadRing_163 hlocks
    · have hw := hw.2 hc
      refine lv_iconst (v := (0 : Int32)) hx hb kb_Mo_isBadRing_12 (by decide) ?_
      refine lv_istore (lv' := [(4, .int ((0 : Int32))), (0, .ref a0), (1, .int x1), (2, .int v2), (3, .int v3)]) hx hb kb_Mo_isBadRing_13 hl (by decide) rfl (fun ls hl => ?_)
      exact hw _ _ _ hG hS (lv_sub hl [1, 2, 3, 4, 0] rfl))
  have hw := hw (by
    intro v2 v3 v4 σ hw H locs ls hG hS hl
    refine lv_iload hx hb kb_Mo_isBadRing_15 (lv_at hl 4 rfl) ?_
    refine lv_aload_n hx hb kb_Mo_isBadRing_17 rfl (lv_at hl 0 rfl) ?_
    obtain ⟨hy, r18, hrf, hw⟩ := hw
    refine zr_getR (ci := 8) (f := 811) hx hb hts ki_Mo hown hK hG hy rfl 11 (by decide) (hts _ (List.mem_cons_of_mem _ kw_595)) (fun _ h => h) rfl rfl hrf kb_Mo_isBadRing_18 ?_
    refine lv_iload_n hx hb kb_Mo_isBadRing_21 rfl (lv_at hl 3 rfl) ?_
    obtain ⟨n22, s22, hy, hi, hw⟩ := hw
    refine zr_iald hx hb hK hG 0 hy rfl hi kb_Mo_isBadRing_22 ?_
    refine lv_icmp_ge (tgt := 156) hx hb kb_Mo_isBadRing_23 (by decide) (fun hc => ?_) (fun hc => ?_)
    · have hw := hw.1 hc
      refine lv_iinc (v := v3 + (1 : Int32)) (lv' := [(3, .int (v3 + (1 : Int32))), (0, .ref a0), (1, .int x1), (2, .int v2), (4, .int v4)]) hx hb kb_Mo_isBadRing_156 hl (k := 3) rfl rfl (by decide) rfl (fun ls hl => ?_)
      refine lv_goto (tgt := 4) hx hb kb_Mo_isBadRing_159 (by decide) ?_
      exact hw _ _ _ hG hS (lv_sub hl [1, 2, 3, 0] rfl)
    · have hw := hw.2 hc
      refine lv_iconst (v := (5 : Int32)) hx hb kb_Mo_isBadRing_26 (by decide) ?_
      refine lv_iload_n hx hb kb_Mo_isBadRing_27 rfl (lv_at hl 3 rfl) ?_
      refine lv_imul hx hb kb_Mo_isBadRing_28 ?_
      refine lv_iload hx hb kb_Mo_isBadRing_29 (lv_at hl 4 rfl) ?_
      refine lv_iadd hx hb kb_Mo_isBadRing_31 ?_
      refine lv_istore (lv' := [(5, .int ((((5 : Int32)) * v3) + v4)), (0, .ref a0), (1, .int x1), (2, .int v2), (3, .int v3), (4, .int v4)]) hx hb kb_Mo_isBadRing_32 hl (by decide) rfl (fun ls hl => ?_)
      refine lv_aload_n hx hb kb_Mo_isBadRing_34 rfl (lv_at hl 1 rfl) ?_
      obtain ⟨hy, r35, hrf, hw⟩ := hw
      refine zr_getR (ci := 8) (f := 812) hx hb hts ki_Mo hown hK hG hy rfl 12 (by decide) (hts _ (List.mem_cons_of_mem _ kw_596)) (fun _ h => h) rfl rfl hrf kb_Mo_isBadRing_35 ?_
      refine lv_iload hx hb kb_Mo_isBadRing_38 (lv_at hl 0 rfl) ?_
      obtain ⟨n40, s40, hy, hi, hw⟩ := hw
      refine zr_iald hx hb hK hG 0 hy rfl hi kb_Mo_isBadRing_40 ?_
      refine lv_iconst (v := (2 : Int32)) hx hb kb_Mo_isBadRing_41 (by decide) ?_
      refine lv_icmp_eq (tgt := 84) hx hb kb_Mo_isBadRing_42 (by decide) (fun hc => ?_) (fun hc => ?_)
      · have hw := hw.1 hc
        refine lv_iconst (v := (0 : Int32)) hx hb kb_Mo_isBadRing_84 (by decide) ?_
        exact hw _ _ _ hG hS (lv_sub hl [1, 2, 3, 4, 5] rfl)
      · have hw := hw.2 hc
        refine lv_aload_n hx hb kb_Mo_isBadRing_45 rfl (lv_at hl 1 rfl) ?_
        refine lv_iload_n hx hb kb_Mo_isBadRing_46 rfl (lv_at hl 4 rfl) ?_
        refine lv_iload hx hb kb_Mo_isBadRing_47 (lv_at hl 5 rfl) ?_
        obtain ⟨hy, hw⟩ := hw
        refine zr_ci (va_runV (C := kR_Mo) (As := [.int v3, .int v4]) (rest := []) ⟨hx, hb, hml, hown, hts⟩ (kc_Mo_isStrict l D dA Z a0 v3 v4 σ _) ⟨callB_of 2 hts (z_gw kw_751) rfl rfl rfl (hts _ (List.mem_cons_of_mem _ kw_9)) (hts _ (List.mem_cons_of_mem _ kw_749)) (by decide +kernel) ⟨Nat.le_of_ble_eq_true rfl, Nat.le_of_ble_eq_true rfl⟩, (hts _ (List.mem_cons_of_mem _ kw_750)), (hts _ (List.mem_cons_of_mem _ kw_964))⟩ (z_preV z_nwN (Nat.le_trans hZ hS.1) hG hK hN hy (ci := 8) (r := (kR_Mo, kT_Mo, 51)) rfl hw) rfl rfl hl.1 rfl (lv_room (Nat.le_of_ble_eq_true rfl)) kb_Mo_isBadRing_49 ⟨Nat.le_of_ble_eq_true rfl, Nat.le_of_ble_eq_true rfl⟩) hS (fun r49 σ49 H locs hw hG hS => ?_)
        refine lv_if_eq (tgt := 84) hx hb kb_Mo_isBadRing_52 (by decide) (fun hc => ?_) (fun hc => ?_)
        · have hw := hw.1 hc
          refine lv_iconst (v := (0 : Int32)) hx hb kb_Mo_isBadRing_84 (by decide) ?_
          exact hw _ _ _ hG hS (lv_sub hl [1, 2, 3, 4, 5] rfl)
        · have hw := hw.2 hc
          refine lv_aload_n hx hb kb_Mo_isBadRing_55 rfl (lv_at hl 1 rfl) ?_
          obtain ⟨hy, r56, hrf, hw⟩ := hw
          refine zr_getR (ci := 8) (f := 822) hx hb hts ki_Mo hown hK hG hy rfl 22 (by decide) (hts _ (List.mem_cons_of_mem _ kw_606)) (fun _ h => h) rfl rfl hrf kb_Mo_isBadRing_56 ?_
          refine lv_bipush (v := (8 : Int32)) hx hb kb_Mo_isBadRing_59 (by decide) ?_
          refine lv_aload_n hx hb kb_Mo_isBadRing_61 rfl (lv_at hl 1 rfl) ?_
          obtain ⟨hy, r62, hrf, hw⟩ := hw
          refine zr_getR (ci := 8) (f := 813) hx hb hts ki_Mo hown hK hG hy rfl 13 (by decide) (hts _ (List.mem_cons_of_mem _ kw_597)) (fun _ h => h) rfl rfl hrf kb_Mo_isBadRing_62 ?_
          refine lv_iload hx hb kb_Mo_isBadRing_65 (lv_at hl 0 rfl) ?_
          obtain ⟨n67, s67, hy, hi, hw⟩ := hw
          refine zr_iald hx hb hK hG 0 hy rfl hi kb_Mo_isBadRing_67 ?_
          refine lv_imul hx hb kb_Mo_isBadRing_68 ?_
          refine lv_aload_n hx hb kb_Mo_isBadRing_69 rfl (lv_at hl 1 rfl) ?_
          obtain ⟨hy, r70, hrf, hw⟩ := hw
          refine zr_getR (ci := 8) (f := 809) hx hb hts ki_Mo hown hK hG hy rfl 9 (by decide) (hts _ (List.mem_cons_of_mem _ kw_593)) (fun _ h => h) rfl rfl hrf kb_Mo_isBadRing_70 ?_
          refine lv_iload_n hx hb kb_Mo_isBadRing_73 rfl (lv_at hl 4 rfl) ?_
          obtain ⟨n74, s74, hy, hi, hw⟩ := hw
          refine zr_iald hx hb hK hG 0 hy rfl hi kb_Mo_isBadRing_74 ?_
          refine lv_iadd hx hb kb_Mo_isBadRing_75 ?_
          obtain ⟨n76, s76, hy, hi, hw⟩ := hw
          refine zr_zald hx hb hK hG 2 hy rfl hi kb_Mo_isBadRing_76 ?_
          refine lv_if_eq (tgt := 84) hx hb kb_Mo_isBadRing_77 (by decide) (fun hc => ?_) (fun hc => ?_)
          · have hw := hw.1 hc
            refine lv_iconst (v := (0 : Int32)) hx hb kb_Mo_isBadRing_84 (by decide) ?_
            exact hw _ _ _ hG hS (lv_sub hl [1, 2, 3, 4, 5] rfl)
          · have hw := hw.2 hc
            refine lv_iconst (v := (1 : Int32)) hx hb kb_Mo_isBadRing_80 (by decide) ?_
            refine lv_goto (tgt := 85) hx hb kb_Mo_isBadRing_81 (by decide) ?_
            exact hw _ _ _ hG hS (lv_sub hl [1, 2, 3, 4, 5] rfl))
  have hw := hw (by
    intro v2 v3 v4 t0 σ hw H locs ls hG hS hl
    refine lv_istore (lv' := [(6, .int t0), (0, .ref a0), (1, .int x1), (2, .int v2), (3, .int v3), (4, .int v4)]) hx hb kb_Mo_isBadRing_85 hl (by decide) rfl (fun ls hl => ?_)
    refine lv_iload_n hx hb kb_Mo_isBadRing_87 rfl (lv_at hl 3 rfl) ?_
    refine lv_if_ne (tgt := 144) hx hb kb_Mo_isBadRing_88 (by decide) (fun hc => ?_) (fun hc => ?_)
    · have hw := hw.1 hc
      refine lv_iconst (v := (1 : Int32)) hx hb kb_Mo_isBadRing_144 (by decide) ?_
      refine lv_goto (tgt := 149) hx hb kb_Mo_isBadRing_145 (by decide) ?_
      refine lv_istore_n (lv' := [(2, .int ((1 : Int32))), (6, .int t0), (0, .ref a0), (1, .int x1), (3, .int v3), (4, .int v4)]) hx hb kb_Mo_isBadRing_149 rfl hl (by decide) rfl (fun ls hl => ?_)
      refine lv_iinc (v := v4 + (1 : Int32)) (lv' := [(4, .int (v4 + (1 : Int32))), (2, .int ((1 : Int32))), (6, .int t0), (0, .ref a0), (1, .int x1), (3, .int v3)]) hx hb kb_Mo_isBadRing_150 hl (k := 5) rfl rfl (by decide) rfl (fun ls hl => ?_)
      refine lv_goto (tgt := 15) hx hb kb_Mo_isBadRing_153 (by decide) ?_
      exact hw _ _ _ hG hS (lv_sub hl [3, 4, 1, 5, 0] rfl)
    · have hw := hw.2 hc
      refine lv_iload hx hb kb_Mo_isBadRing_91 (lv_at hl 0 rfl) ?_
      refine lv_if_eq (tgt := 148) hx hb kb_Mo_isBadRing_93 (by decide) (fun hc => ?_) (fun hc => ?_)
      · have hw := hw.1 hc
        refine lv_iconst (v := (0 : Int32)) hx hb kb_Mo_isBadRing_148 (by decide) ?_
        refine lv_istore_n (lv' := [(2, .int ((0 : Int32))), (6, .int t0), (0, .ref a0), (1, .int x1), (3, .int v3), (4, .int v4)]) hx hb kb_Mo_isBadRing_149 rfl hl (by decide) rfl (fun ls hl => ?_)
        refine lv_iinc (v := v4 + (1 : Int32)) (lv' := [(4, .int (v4 + (1 : Int32))), (2, .int ((0 : Int32))), (6, .int t0), (0, .ref a0), (1, .int x1), (3, .int v3)]) hx hb kb_Mo_isBadRing_150 hl (k := 5) rfl rfl (by decide) rfl (fun ls hl => ?_)
        refine lv_goto (tgt := 15) hx hb kb_Mo_isBadRing_153 (by decide) ?_
        exact hw _ _ _ hG hS (lv_sub hl [3, 4, 1, 5, 0] rfl)
      · have hw := hw.2 hc
        refine lv_aload_n hx hb kb_Mo_isBadRing_96 rfl (lv_at hl 1 rfl) ?_
        obtain ⟨hy, r97, hrf, hw⟩ := hw
        refine zr_getR (ci := 8) (f := 809) hx hb hts ki_Mo hown hK hG hy rfl 9 (by decide) (hts _ (List.mem_cons_of_mem _ kw_593)) (fun _ h => h) rfl rfl hrf kb_Mo_isBadRing_97 ?_
        refine lv_iload_n hx hb kb_Mo_isBadRing_100 rfl (lv_at hl 4 rfl) ?_
        obtain ⟨n101, s101, hy, hi, hw⟩ := hw
        refine zr_iald hx hb hK hG 0 hy rfl hi kb_Mo_isBadRing_101 ?_
        refine lv_iload_n hx hb kb_Mo_isBadRing_102 rfl (lv_at hl 2 rfl) ?_
        refine lv_icmp_eq (tgt := 144) hx hb kb_Mo_isBadRing_103 (by decide) (fun hc => ?_) (fun hc => ?_)
        · have hw := hw.1 hc
          refine lv_iconst (v := (1 : Int32)) hx hb kb_Mo_isBadRing_144 (by decide) ?_
          refine lv_goto (tgt := 149) hx hb kb_Mo_isBadRing_145 (by decide) ?_
          refine lv_istore_n (lv' := [(2, .int ((1 : Int32))), (6, .int t0), (0, .ref a0), (1, .int x1), (3, .int v3), (4, .int v4)]) hx hb kb_Mo_isBadRing_149 rfl hl (by decide) rfl (fun ls hl => ?_)
          refine lv_iinc (v := v4 + (1 : Int32)) (lv' := [(4, .int (v4 + (1 : Int32))), (2, .int ((1 : Int32))), (6, .int t0), (0, .ref a0), (1, .int x1), (3, .int v3)]) hx hb kb_Mo_isBadRing_150 hl (k := 5) rfl rfl (by decide) rfl (fun ls hl => ?_)
          refine lv_goto (tgt := 15) hx hb kb_Mo_isBadRing_153 (by decide) ?_
          exact hw _ _ _ hG hS (lv_sub hl [3, 4, 1, 5, 0] rfl)
        · have hw := hw.2 hc
          refine lv_aload_n hx hb kb_Mo_isBadRing_106 rfl (lv_at hl 1 rfl) ?_
          obtain ⟨hy, r107, hrf, hw⟩ := hw
          refine zr_getR (ci := 8) (f := 822) hx hb hts ki_Mo hown hK hG hy rfl 22 (by decide) (hts _ (List.mem_cons_of_mem _ kw_606)) (fun _ h => h) rfl rfl hrf kb_Mo_isBadRing_107 ?_
          refine lv_bipush (v := (8 : Int32)) hx hb kb_Mo_isBadRing_110 (by decide) ?_
          refine lv_iload_n hx hb kb_Mo_isBadRing_112 rfl (lv_at hl 2 rfl) ?_
          refine lv_imul hx hb kb_Mo_isBadRing_113 ?_
          refine lv_aload_n hx hb kb_Mo_isBadRing_114 rfl (lv_at hl 1 rfl) ?_
          obtain ⟨hy, r115, hrf, hw⟩ := hw
          refine zr_getR (ci := 8) (f := 809) hx hb hts ki_Mo hown hK hG hy rfl 9 (by decide) (hts _ (List.mem_cons_of_mem _ kw_593)) (fun _ h => h) rfl rfl hrf kb_Mo_isBadRing_115 ?_
          refine lv_iload_n hx hb kb_Mo_isBadRing_118 rfl (lv_at hl 4 rfl) ?_
          obtain ⟨n119, s119, hy, hi, hw⟩ := hw
          refine zr_iald hx hb hK hG 0 hy rfl hi kb_Mo_isBadRing_119 ?_
          refine lv_iadd hx hb kb_Mo_isBadRing_120 ?_
          obtain ⟨n121, s121, hy, hi, hw⟩ := hw
          refine zr_zald hx hb hK hG 2 hy rfl hi kb_Mo_isBadRing_121 ?_
          refine lv_if_eq (tgt := 148) hx hb kb_Mo_isBadRing_122 (by decide) (fun hc => ?_) (fun hc => ?_)
          · have hw := hw.1 hc
            refine lv_iconst (v := (0 : Int32)) hx hb kb_Mo_isBadRing_148 (by decide) ?_
            refine lv_istore_n (lv' := [(2, .int ((0 : Int32))), (6, .int t0), (0, .ref a0), (1, .int x1), (3, .int v3), (4, .int v4)]) hx hb kb_Mo_isBadRing_149 rfl hl (by decide) rfl (fun ls hl => ?_)
            refine lv_iinc (v := v4 + (1 : Int32)) (lv' := [(4, .int (v4 + (1 : Int32))), (2, .int ((0 : Int32))), (6, .int t0), (0, .ref a0), (1, .int x1), (3, .int v3)]) hx hb kb_Mo_isBadRing_150 hl (k := 5) rfl rfl (by decide) rfl (fun ls hl => ?_)
            refine lv_goto (tgt := 15) hx hb kb_Mo_isBadRing_153 (by decide) ?_
            exact hw _ _ _ hG hS (lv_sub hl [3, 4, 1, 5, 0] rfl)
          · have hw := hw.2 hc
            refine lv_aload_n hx hb kb_Mo_isBadRing_125 rfl (lv_at hl 1 rfl) ?_
            obtain ⟨hy, r126, hrf, hw⟩ := hw
            refine zr_getR (ci := 8) (f := 822) hx hb hts ki_Mo hown hK hG hy rfl 22 (by decide) (hts _ (List.mem_cons_of_mem _ kw_606)) (fun _ h => h) rfl rfl hrf kb_Mo_isBadRing_126 ?_
            refine lv_bipush (v := (8 : Int32)) hx hb kb_Mo_isBadRing_129 (by decide) ?_
            refine lv_aload_n hx hb kb_Mo_isBadRing_131 rfl (lv_at hl 1 rfl) ?_
            obtain ⟨hy, r132, hrf, hw⟩ := hw
            refine zr_getR (ci := 8) (f := 809) hx hb hts ki_Mo hown hK hG hy rfl 9 (by decide) (hts _ (List.mem_cons_of_mem _ kw_593)) (fun _ h => h) rfl rfl hrf kb_Mo_isBadRing_132 ?_
            refine lv_iload_n hx hb kb_Mo_isBadRing_135 rfl (lv_at hl 4 rfl) ?_
            obtain ⟨n136, s136, hy, hi, hw⟩ := hw
            refine zr_iald hx hb hK hG 0 hy rfl hi kb_Mo_isBadRing_136 ?_
            refine lv_imul hx hb kb_Mo_isBadRing_137 ?_
            refine lv_iload_n hx hb kb_Mo_isBadRing_138 rfl (lv_at hl 2 rfl) ?_
            refine lv_iadd hx hb kb_Mo_isBadRing_139 ?_
            obtain ⟨n140, s140, hy, hi, hw⟩ := hw
            refine zr_zald hx hb hK hG 2 hy rfl hi kb_Mo_isBadRing_140 ?_
            refine lv_if_eq (tgt := 148) hx hb kb_Mo_isBadRing_141 (by decide) (fun hc => ?_) (fun hc => ?_)
            · have hw := hw.1 hc
              refine lv_iconst (v := (0 : Int32)) hx hb kb_Mo_isBadRing_148 (by decide) ?_
              refine lv_istore_n (lv' := [(2, .int ((0 : Int32))), (6, .int t0), (0, .ref a0), (1, .int x1), (3, .int v3), (4, .int v4)]) hx hb kb_Mo_isBadRing_149 rfl hl (by decide) rfl (fun ls hl => ?_)
              refine lv_iinc (v := v4 + (1 : Int32)) (lv' := [(4, .int (v4 + (1 : Int32))), (2, .int ((0 : Int32))), (6, .int t0), (0, .ref a0), (1, .int x1), (3, .int v3)]) hx hb kb_Mo_isBadRing_150 hl (k := 5) rfl rfl (by decide) rfl (fun ls hl => ?_)
              refine lv_goto (tgt := 15) hx hb kb_Mo_isBadRing_153 (by decide) ?_
              exact hw _ _ _ hG hS (lv_sub hl [3, 4, 1, 5, 0] rfl)
            · have hw := hw.2 hc
              refine lv_iconst (v := (1 : Int32)) hx hb kb_Mo_isBadRing_144 (by decide) ?_
              refine lv_goto (tgt := 149) hx hb kb_Mo_isBadRing_145 (by decide) ?_
              refine lv_istore_n (lv' := [(2, .int ((1 : Int32))), (6, .int t0), (0, .ref a0), (1, .int x1), (3, .int v3), (4, .int v4)]) hx hb kb_Mo_isBadRing_149 rfl hl (by decide) rfl (fun ls hl => ?_)
              refine lv_iinc (v := v4 + (1 : Int32)) (lv' := [(4, .int (v4 + (1 : Int32))), (2, .int ((1 : Int32))), (6, .int t0), (0, .ref a0), (1, .int x1), (3, .int v3)]) hx hb kb_Mo_isBadRing_150 hl (k := 5) rfl rfl (by decide) rfl (fun ls hl => ?_)
              refine lv_goto (tgt := 15) hx hb kb_Mo_isBadRing_153 (by decide) ?_
              exact hw _ _ _ hG hS (lv_sub hl [3, 4, 1, 5, 0] rfl))
  refine lv_iconst (v := (0 : Int32)) hx hb kb_Mo_isBadRing_0 (by decide) ?_
  refine lv_istore_n (lv' := [(2, .int ((0 : Int32))), (0, .ref a0), (1, .int x1)]) hx hb kb_Mo_isBadRing_1 rfl hl (by decide) rfl (fun ls hl => ?_)
  refine lv_iconst (v := (0 : Int32)) hx hb kb_Mo_isBadRing_2 (by decide) ?_
  refine lv_istore_n (lv' := [(3, .int ((0 : Int32))), (2, .int ((0 : Int32))), (0, .ref a0), (1, .int x1)]) hx hb kb_Mo_isBadRing_3 rfl hl (by decide) rfl (fun ls hl => ?_)
  exact hw _ _ _ hG hS (lv_sub hl [2, 3, 1, 0] rfl)
def kp_Mo_findRing (a0 : Nat) (σ : z_S) (Post : z_S → Prop) : Prop := ∀ (X9 : Int32 → Int32 → z_S → Prop) (X35 : Int32 → Int32 → z_S → Prop) (X89 : Int32 → Int32 → Nat → Int32 → Int32 → z_S → Prop),
    (∀ (v1 : Int32) (v2 : Int32) (σ : z_S), ((v2 < 0 → X35 v1 ((0 : Int32)) σ) ∧ (¬ v2 < 0 → z_ty σ a0 = some (.inl 8) ∧ kp_Mo_isBadRing a0 v2 σ (fun (r15 : Int32) (σ15 : z_S) => (r15 = 0 → X9 v1 (v2 + (-1 : Int32)) σ15) ∧ (¬ r15 = 0 → X9 v2 (v2 + (-1 : Int32)) σ15)))) → X9 v1 v2 σ) →
    (∀ (v1 : Int32) (v2 : Int32) (σ : z_S), ((((8 : Int32)) ≤ v2 → Post σ) ∧ (¬ ((8 : Int32)) ≤ v2 → z_ty σ a0 = some (.inl 8) ∧ ∃ r42, z_R σ 823 a0 = some r42 ∧ ((v1 = ((-1 : Int32)) → X89 v1 v2 r42 v2 ((0 : Int32)) σ) ∧ (¬ v1 = ((-1 : Int32)) → (v2 = v1 → X89 v1 v2 r42 v2 ((1 : Int32)) σ) ∧ (¬ v2 = v1 → z_ty σ a0 = some (.inl 8) ∧ ∃ r57, z_R σ 822 a0 = some r57 ∧ (∃ n66 s66, z_ty σ r57 = some (.inr (2, n66, s66)) ∧ vp_in ((((8 : Int32)) * v1) + v2) n66 ∧ ((((z_A σ s66 r57 ((((8 : Int32)) * v1) + v2).toNatClampNeg)) = 0 → X89 v1 v2 r42 v2 ((0 : Int32)) σ) ∧ (¬ ((z_A σ s66 r57 ((((8 : Int32)) * v1) + v2).toNatClampNeg)) = 0 → z_ty σ a0 = some (.inl 8) ∧ ∃ r71, z_R σ 822 a0 = some r71 ∧ (∃ n80 s80, z_ty σ r71 = some (.inr (2, n80, s80)) ∧ vp_in ((((8 : Int32)) * v2) + v1) n80 ∧ ((((z_A σ s80 r71 ((((8 : Int32)) * v2) + v1).toNatClampNeg)) = 0 → X89 v1 v2 r42 v2 ((0 : Int32)) σ) ∧ (¬ ((z_A σ s80 r71 ((((8 : Int32)) * v2) + v1).toNatClampNeg)) = 0 → X89 v1 v2 r42 v2 ((1 : Int32)) σ))))))))))) → X35 v1 v2 σ) →
    (∀ (v1 : Int32) (v2 : Int32) (t0 : Nat) (t1 : Int32) (t2 : Int32) (σ : z_S), (∃ n89 s89, z_ty σ t0 = some (.inr (2, n89, s89)) ∧ vp_in t1 n89 ∧ ∀ σ89, σ89 = z_sA σ s89 t0 (upd (z_A σ s89 t0) t1.toNatClampNeg (vp_nar .boolean t2)) → X35 v1 (v2 + (1 : Int32)) σ89) → X89 v1 v2 t0 t1 t2 σ) →
    (z_ty σ a0 = some (.inl 8) ∧ (X9 ((-1 : Int32)) ((z_I σ 817 a0) - ((1 : Int32))) σ))
set_option maxHeartbeats 4000000 in
set_option maxRecDepth 100000 in
theorem kc_Mo_findRing (l : Launch) (D : va_G) (dA : Nat → ClassId) (Z : Nat) (a0 : Nat) (σ : z_S) (Post : z_S → Prop) : Met l km_Mo_findRing ks_Mo_findRing kr_Mo_findRing (va_Pc [.ref a0] (fun U => z_U D z_cl z_KT dA Z (z_tys dA) z_nw σ U ∧ kp_Mo_findRing  a0 σ Post)) (z_Qv D z_cl z_KT dA Z (z_tys dA) z_nw Post) 0 0 (fun q => Z ≤ q) := by
  refine Met.ofW (cc := prog_10_method_21_code) (maxL := 3) (ret := none) (by decide) rfl ?_
  intro p e s m args below meth c s₁ B hml hv
  obtain ⟨rfl, ⟨hZ, hG, hK, hN⟩, hw⟩ := hv
  have hx := B.exec
  have hb := B.bytes
  have hr := B.returns
  have hts := atoms_spec (ws := ks_Mo_findRing) B.pre
  have hown : s.vm.findClass kR_Mo = some m.cls := findClass_of_methodNamed B.named
  have hlocks := B.notSynchronized
  have hS : va_S (fun q => Z ≤ q) s.heap s.heap [] := va_S.rf
  have hl := lv_entry ([.ref a0]) (n := 3) (Nat.le_of_ble_eq_true rfl)
  rw [lg_entry_eq]
  generalize (lg_sl ([.ref a0]) ++ List.replicate (3 - (lg_sl ([.ref a0])).length) Slot.unset).toArray = ls at hl ⊢
  have hl : lv_has ls 3 [(0, .ref a0)] := hl
  unfold kp_Mo_findRing at hw
  have hw := hw (fun (v1 : Int32) (v2 : Int32) (σ : z_S) => ∀ (H : Heap) (locs : List Loc) (ls : Array Slot), z_G D z_cl z_KT dA Z σ H → va_S (fun q => Z ≤ q) s.heap H locs → lv_has ls 3 [(0, .ref a0), (1, .int v1), (2, .int v2)] → W p l e (headSpec ks_Mo_findRing kr_Mo_findRing).room s m ([.ref a0] : List Value).toArray below meth c H locs 0 0 (MQ below (z_Qv D z_cl z_KT dA Z (z_tys dA) z_nw Post) ([.ref a0] : List Value).toArray s 0 0 (fun q => Z ≤ q)) (F0 m 9 ls []))
  have hw := hw (fun (v1 : Int32) (v2 : Int32) (σ : z_S) => ∀ (H : Heap) (locs : List Loc) (ls : Array Slot), z_G D z_cl z_KT dA Z σ H → va_S (fun q => Z ≤ q) s.heap H locs → lv_has ls 3 [(0, .ref a0), (1, .int v1), (2, .int v2)] → W p l e (headSpec ks_Mo_findRing kr_Mo_findRing).room s m ([.ref a0] : List Value).toArray below meth c H locs 0 0 (MQ below (z_Qv D z_cl z_KT dA Z (z_tys dA) z_nw Post) ([.ref a0] : List Value).toArray s 0 0 (fun q => Z ≤ q)) (F0 m 35 ls []))
  have hw := hw (fun (v1 : Int32) (v2 : Int32) (t0 : Nat) (t1 : Int32) (t2 : Int32) (σ : z_S) => ∀ (H : Heap) (locs : List Loc) (ls : Array Slot), z_G D z_cl z_KT dA Z σ H → va_S (fun q => Z ≤ q) s.heap H locs → lv_has ls 3 [(0, .ref a0), (1, .int v1), (2, .int v2)] → W p l e (headSpec ks_Mo_findRing kr_Mo_findRing).room s m ([.ref a0] : List Value).toArray below meth c H locs 0 0 (MQ below (z_Qv D z_cl z_KT dA Z (z_tys dA) z_nw Post) ([.ref a0] : List Value).toArray s 0 0 (fun q => Z ≤ q)) (F0 m 89 ls [.int t2, .int t1, .ref t0]))
  have hw := hw (by
    intro v1 v2 σ hw H locs ls hG hS hl
    refine lv_iload_n hx hb kb_Mo_findRing_9 rfl (lv_at hl 2 rfl) ?_
    refine lv_if_lt (tgt := 33) hx hb kb_Mo_findRing_10 (by decide) (fun hc => ?_) (fun hc => ?_)
    · have hw := hw.1 hc
      refine lv_iconst (v := (0 : Int32)) hx hb kb_Mo_findRing_33 (by decide) ?_
      refine lv_istore_n (lv' := [(2, .int ((0 : Int32))), (0, .ref a0), (1, .int v1)]) hx hb kb_Mo_findRing_34 rfl hl (by decide) rfl (fun ls hl => ?_)
      exact hw _ _ _ hG hS (lv_sub hl [1, 2, 0] rfl)
    · have hw := hw.2 hc
      refine lv_aload_n hx hb kb_Mo_findRing_13 rfl (lv_at hl 0 rfl) ?_
      refine lv_iload_n hx hb kb_Mo_findRing_14 rfl (lv_at hl 2 rfl) ?_
      obtain ⟨hy, hw⟩ := hw
      refine zr_ci (va_runV (C := kR_Mo) (As := [.int v2]) (rest := []) ⟨hx, hb, hml, hown, hts⟩ (kc_Mo_isBadRing l D dA Z a0 v2 σ _) ⟨callB_of 1 hts (z_gw kw_757) rfl rfl rfl (hts _ (List.mem_cons_of_mem _ kw_9)) (hts _ (List.mem_cons_of_mem _ kw_755)) (by decide +kernel) ⟨Nat.le_of_ble_eq_true rfl, Nat.le_of_ble_eq_true rfl⟩, (hts _ (List.mem_cons_of_mem _ kw_756)), (hts _ (List.mem_cons_of_mem _ kw_966))⟩ (z_preV z_nwN (Nat.le_trans hZ hS.1) hG hK hN hy (ci := 8) (r := (kR_Mo, kT_Mo, 51)) rfl hw) rfl rfl hl.1 rfl (lv_room (Nat.le_of_ble_eq_true rfl)) kb_Mo_findRing_15 ⟨Nat.le_of_ble_eq_true rfl, Nat.le_of_ble_eq_true rfl⟩) hS (fun r15 σ15 H locs hw hG hS => ?_)
      refine lv_if_eq (tgt := 25) hx hb kb_Mo_findRing_18 (by decide) (fun hc => ?_) (fun hc => ?_)
      · have hw := hw.1 hc
        refine lv_iload_n hx hb kb_Mo_findRing_25 rfl (lv_at hl 1 rfl) ?_
        refine lv_istore_n (lv' := [(1, .int v1), (0, .ref a0), (2, .int v2)]) hx hb kb_Mo_findRing_26 rfl hl (by decide) rfl (fun ls hl => ?_)
        refine lv_iinc (v := v2 + (-1 : Int32)) (lv' := [(2, .int (v2 + (-1 : Int32))), (1, .int v1), (0, .ref a0)]) hx hb kb_Mo_findRing_27 hl (k := 2) rfl rfl (by decide) rfl (fun ls hl => ?_)
        refine lv_goto (tgt := 9) hx hb kb_Mo_findRing_30 (by decide) ?_
        exact hw _ _ _ hG hS (lv_sub hl [2, 1, 0] rfl)
      · have hw := hw.2 hc
        refine lv_iload_n hx hb kb_Mo_findRing_21 rfl (lv_at hl 2 rfl) ?_
        refine lv_goto (tgt := 26) hx hb kb_Mo_findRing_22 (by decide) ?_
        refine lv_istore_n (lv' := [(1, .int v2), (0, .ref a0), (2, .int v2)]) hx hb kb_Mo_findRing_26 rfl hl (by decide) rfl (fun ls hl => ?_)
        refine lv_iinc (v := v2 + (-1 : Int32)) (lv' := [(2, .int (v2 + (-1 : Int32))), (1, .int v2), (0, .ref a0)]) hx hb kb_Mo_findRing_27 hl (k := 2) rfl rfl (by decide) rfl (fun ls hl => ?_)
        refine lv_goto (tgt := 9) hx hb kb_Mo_findRing_30 (by decide) ?_
        exact hw _ _ _ hG hS (lv_sub hl [2, 1, 0] rfl))
  have hw := hw (by
    intro v1 v2 σ hw H locs ls hG hS hl
    refine lv_iload_n hx hb kb_Mo_findRing_35 rfl (lv_at hl 2 rfl) ?_
    refine lv_bipush (v := (8 : Int32)) hx hb kb_Mo_findRing_36 (by decide) ?_
    refine lv_icmp_ge (tgt := 96) hx hb kb_Mo_findRing_38 (by decide) (fun hc => ?_) (fun hc => ?_)
    · have hw := hw.1 hc
      exact zr_vret z_nwN hx hb hr hZ hK hN hG hS hw kb_Mo_findRing_96 hlocks
    · have hw := hw.2 hc
      refine lv_aload_n hx hb kb_Mo_findRing_41 rfl (lv_at hl 0 rfl) ?_
      obtain ⟨hy, r42, hrf, hw⟩ := hw
      refine zr_getR (ci := 8) (f := 823) hx hb hts ki_Mo hown hK hG hy rfl 23 (by decide) (hts _ (List.mem_cons_of_mem _ kw_607)) (fun _ h => h) rfl rfl hrf kb_Mo_findRing_42 ?_
      refine lv_iload_n hx hb kb_Mo_findRing_45 rfl (lv_at hl 2 rfl) ?_
      refine lv_iload_n hx hb kb_Mo_findRing_46 rfl (lv_at hl 1 rfl) ?_
      refine lv_iconst (v := (-1 : Int32)) hx hb kb_Mo_findRing_47 (by decide) ?_
      refine lv_icmp_eq (tgt := 88) hx hb kb_Mo_findRing_48 (by decide) (fun hc => ?_) (fun hc => ?_)
      · have hw := hw.1 hc
        refine lv_iconst (v := (0 : Int32)) hx hb kb_Mo_findRing_88 (by decide) ?_
        exact hw _ _ _ hG hS (lv_sub hl [0, 1, 2] rfl)
      · have hw := hw.2 hc
        refine lv_iload_n hx hb kb_Mo_findRing_51 rfl (lv_at hl 2 rfl) ?_
        refine lv_iload_n hx hb kb_Mo_findRing_52 rfl (lv_at hl 1 rfl) ?_
        refine lv_icmp_eq (tgt := 84) hx hb kb_Mo_findRing_53 (by decide) (fun hc => ?_) (fun hc => ?_)
        · have hw := hw.1 hc
          refine lv_iconst (v := (1 : Int32)) hx hb kb_Mo_findRing_84 (by decide) ?_
          refine lv_goto (tgt := 89) hx hb kb_Mo_findRing_85 (by decide) ?_
          exact hw _ _ _ hG hS (lv_sub hl [0, 1, 2] rfl)
        · have hw := hw.2 hc
          refine lv_aload_n hx hb kb_Mo_findRing_56 rfl (lv_at hl 0 rfl) ?_
          obtain ⟨hy, r57, hrf, hw⟩ := hw
          refine zr_getR (ci := 8) (f := 822) hx hb hts ki_Mo hown hK hG hy rfl 22 (by decide) (hts _ (List.mem_cons_of_mem _ kw_606)) (fun _ h => h) rfl rfl hrf kb_Mo_findRing_57 ?_
          refine lv_bipush (v := (8 : Int32)) hx hb kb_Mo_findRing_60 (by decide) ?_
          refine lv_iload_n hx hb kb_Mo_findRing_62 rfl (lv_at hl 1 rfl) ?_
          refine lv_imul hx hb kb_Mo_findRing_63 ?_
          refine lv_iload_n hx hb kb_Mo_findRing_64 rfl (lv_at hl 2 rfl) ?_
          refine lv_iadd hx hb kb_Mo_findRing_65 ?_
          obtain ⟨n66, s66, hy, hi, hw⟩ := hw
          refine zr_zald hx hb hK hG 2 hy rfl hi kb_Mo_findRing_66 ?_
          refine lv_if_eq (tgt := 88) hx hb kb_Mo_findRing_67 (by decide) (fun hc => ?_) (fun hc => ?_)
          · have hw := hw.1 hc
            refine lv_iconst (v := (0 : Int32)) hx hb kb_Mo_findRing_88 (by decide) ?_
            exact hw _ _ _ hG hS (lv_sub hl [0, 1, 2] rfl)
          · have hw := hw.2 hc
            refine lv_aload_n hx hb kb_Mo_findRing_70 rfl (lv_at hl 0 rfl) ?_
            obtain ⟨hy, r71, hrf, hw⟩ := hw
            refine zr_getR (ci := 8) (f := 822) hx hb hts ki_Mo hown hK hG hy rfl 22 (by decide) (hts _ (List.mem_cons_of_mem _ kw_606)) (fun _ h => h) rfl rfl hrf kb_Mo_findRing_71 ?_
            refine lv_bipush (v := (8 : Int32)) hx hb kb_Mo_findRing_74 (by decide) ?_
            refine lv_iload_n hx hb kb_Mo_findRing_76 rfl (lv_at hl 2 rfl) ?_
            refine lv_imul hx hb kb_Mo_findRing_77 ?_
            refine lv_iload_n hx hb kb_Mo_findRing_78 rfl (lv_at hl 1 rfl) ?_
            refine lv_iadd hx hb kb_Mo_findRing_79 ?_
            obtain ⟨n80, s80, hy, hi, hw⟩ := hw
            refine zr_zald hx hb hK hG 2 hy rfl hi kb_Mo_findRing_80 ?_
            refine lv_if_eq (tgt := 88) hx hb kb_Mo_findRing_81 (by decide) (fun hc => ?_) (fun hc => ?_)
            · have hw := hw.1 hc
              refine lv_iconst (v := (0 : Int32)) hx hb kb_Mo_findRing_88 (by decide) ?_
              exact hw _ _ _ hG hS (lv_sub hl [0, 1, 2] rfl)
            · have hw := hw.2 hc
              refine lv_iconst (v := (1 : Int32)) hx hb kb_Mo_findRing_84 (by decide) ?_
              refine lv_goto (tgt := 89) hx hb kb_Mo_findRing_85 (by decide) ?_
              exact hw _ _ _ hG hS (lv_sub hl [0, 1, 2] rfl))
  have hw := hw (by
    intro v1 v2 t0 t1 t2 σ hw H locs ls hG hS hl
    obtain ⟨n89, s89, hy, hi, hw⟩ := hw
    refine zr_zast hx hb hK hG hS 2 hy rfl hi kb_Mo_findRing_89 (fun H locs hG hS => ?_)
    obtain ⟨σ89, e89⟩ : ∃ z, z = z_sA σ s89 t0 (upd (z_A σ s89 t0) t1.toNatClampNeg (vp_nar .boolean t2)) := ⟨_, rfl⟩
    rw [← e89] at hG
    have hw := hw _ e89
    refine lv_iinc (v := v2 + (1 : Int32)) (lv' := [(2, .int (v2 + (1 : Int32))), (0, .ref a0), (1, .int v1)]) hx hb kb_Mo_findRing_90 hl (k := 2) rfl rfl (by decide) rfl (fun ls hl => ?_)
    refine lv_goto (tgt := 35) hx hb kb_Mo_findRing_93 (by decide) ?_
    exact hw _ _ _ hG hS (lv_sub hl [1, 2, 0] rfl))
  refine lv_iconst (v := (-1 : Int32)) hx hb kb_Mo_findRing_0 (by decide) ?_
  refine lv_istore_n (lv' := [(1, .int ((-1 : Int32))), (0, .ref a0)]) hx hb kb_Mo_findRing_1 rfl hl (by decide) rfl (fun ls hl => ?_)
  refine lv_aload_n hx hb kb_Mo_findRing_2 rfl (lv_at hl 1 rfl) ?_
  obtain ⟨hy, hw⟩ := hw
  refine zr_getI (ci := 8) (f := 817) hx hb hts ki_Mo hown hK hG hy rfl 17 (by decide) (hts _ (List.mem_cons_of_mem _ kw_601)) (fun _ h => h) rfl rfl kb_Mo_findRing_3 ?_
  refine lv_iconst (v := (1 : Int32)) hx hb kb_Mo_findRing_6 (by decide) ?_
  refine lv_isub hx hb kb_Mo_findRing_7 ?_
  refine lv_istore_n (lv' := [(2, .int ((z_I σ 817 a0) - ((1 : Int32)))), (1, .int ((-1 : Int32))), (0, .ref a0)]) hx hb kb_Mo_findRing_8 rfl hl (by decide) rfl (fun ls hl => ?_)
  exact hw _ _ _ hG hS (lv_sub hl [2, 1, 0] rfl)
def kp_Mo_base (a0 : Nat) (x1 : Int32) (x2 : Int32) (σ : z_S) (Post : Int32 → z_S → Prop) : Prop :=     (Post ((((120 : Int32)) * x1) + (((3 : Int32)) * x2)) σ)
set_option maxHeartbeats 4000000 in
set_option maxRecDepth 100000 in
theorem kc_Mo_base (l : Launch) (D : va_G) (dA : Nat → ClassId) (Z : Nat) (a0 : Nat) (x1 : Int32) (x2 : Int32) (σ : z_S) (Post : Int32 → z_S → Prop) : Met l km_Mo_base ks_Mo_base kr_Mo_base (va_Pc [.ref a0, .int x1, .int x2] (fun U => z_U D z_cl z_KT dA Z (z_tys dA) z_nw σ U ∧ kp_Mo_base  a0 x1 x2 σ Post)) (z_Qi D z_cl z_KT dA Z (z_tys dA) z_nw Post) 0 0 (fun q => Z ≤ q) := by
  refine Met.ofW (cc := prog_10_method_22_code) (maxL := 3) (ret := (some .int)) (by decide) rfl ?_
  intro p e s m args below meth c s₁ B hml hv
  obtain ⟨rfl, ⟨hZ, hG, hK, hN⟩, hw⟩ := hv
  have hx := B.exec
  have hb := B.bytes
  have hr := B.returns
  have hts := atoms_spec (ws := ks_Mo_base) B.pre
  have hown : s.vm.findClass kR_Mo = some m.cls := findClass_of_methodNamed B.named
  have hlocks := B.notSynchronized
  have hS : va_S (fun q => Z ≤ q) s.heap s.heap [] := va_S.rf
  have hl := lv_entry ([.ref a0, .int x1, .int x2]) (n := 3) (Nat.le_of_ble_eq_true rfl)
  rw [lg_entry_eq]
  generalize (lg_sl ([.ref a0, .int x1, .int x2]) ++ List.replicate (3 - (lg_sl ([.ref a0, .int x1, .int x2])).length) Slot.unset).toArray = ls at hl ⊢
  have hl : lv_has ls 3 [(0, .ref a0), (1, .int x1), (2, .int x2)] := hl
  unfold kp_Mo_base at hw
  refine lv_bipush (v := (120 : Int32)) hx hb kb_Mo_base_0 (by decide) ?_
  refine lv_iload_n hx hb kb_Mo_base_2 rfl (lv_at hl 1 rfl) ?_
  refine lv_imul hx hb kb_Mo_base_3 ?_
  refine lv_iconst (v := (3 : Int32)) hx hb kb_Mo_base_4 (by decide) ?_
  refine lv_iload_n hx hb kb_Mo_base_5 rfl (lv_at hl 2 rfl) ?_
  refine lv_imul hx hb kb_Mo_base_6 ?_
  refine lv_iadd hx hb kb_Mo_base_7 ?_
  exact zr_iret (free := fun q => Z ≤ q) z_nwN hx hb hr rfl hZ hK hN hG hS hw kb_Mo_base_8 hlocks
def kp_Mo_compare (a0 : Nat) (x1 : Int32) (x2 : Int32) (x3 : Int32) (x4 : Int32) (x5 : Int32) (σ : z_S) (Post : Int32 → z_S → Prop) : Prop := ∀ (X72 : Int32 → z_S → Prop),
    (∀ (t0 : Int32) (σ : z_S), ((0 ≤ t0 → (t0 ≤ 0 → Post ((0 : Int32)) σ) ∧ (¬ t0 ≤ 0 → Post ((1 : Int32)) σ)) ∧ (¬ 0 ≤ t0 → Post ((-1 : Int32)) σ)) → X72 t0 σ) →
    (z_ty σ a0 = some (.inl 8) ∧ kp_Mo_base a0 x1 x2 σ (fun (r3 : Int32) (σ3 : z_S) => z_ty σ3 a0 = some (.inl 8) ∧ ∃ r10, z_R σ3 824 a0 = some r10 ∧ (∃ n15 s15, z_ty σ3 r10 = some (.inr (0, n15, s15)) ∧ vp_in r3 n15 ∧ ((x3 = (z_A σ3 s15 r10 r3.toNatClampNeg) → z_ty σ3 a0 = some (.inl 8) ∧ ∃ r34, z_R σ3 824 a0 = some r34 ∧ (∃ n41 s41, z_ty σ3 r34 = some (.inr (0, n41, s41)) ∧ vp_in (r3 + ((1 : Int32))) n41 ∧ ((x4 = (z_A σ3 s41 r34 (r3 + ((1 : Int32))).toNatClampNeg) → z_ty σ3 a0 = some (.inl 8) ∧ ∃ r63, z_R σ3 824 a0 = some r63 ∧ (∃ n70 s70, z_ty σ3 r63 = some (.inr (0, n70, s70)) ∧ vp_in (r3 + ((2 : Int32))) n70 ∧ (X72 (x5 - (z_A σ3 s70 r63 (r3 + ((2 : Int32))).toNatClampNeg)) σ3))) ∧ (¬ x4 = (z_A σ3 s41 r34 (r3 + ((1 : Int32))).toNatClampNeg) → z_ty σ3 a0 = some (.inl 8) ∧ ∃ r48, z_R σ3 824 a0 = some r48 ∧ (∃ n55 s55, z_ty σ3 r48 = some (.inr (0, n55, s55)) ∧ vp_in (r3 + ((1 : Int32))) n55 ∧ (X72 (x4 - (z_A σ3 s55 r48 (r3 + ((1 : Int32))).toNatClampNeg)) σ3)))))) ∧ (¬ x3 = (z_A σ3 s15 r10 r3.toNatClampNeg) → z_ty σ3 a0 = some (.inl 8) ∧ ∃ r21, z_R σ3 824 a0 = some r21 ∧ (∃ n26 s26, z_ty σ3 r21 = some (.inr (0, n26, s26)) ∧ vp_in r3 n26 ∧ (X72 (x3 - (z_A σ3 s26 r21 r3.toNatClampNeg)) σ3)))))))
set_option maxHeartbeats 4000000 in
set_option maxRecDepth 100000 in
theorem kc_Mo_compare (l : Launch) (D : va_G) (dA : Nat → ClassId) (Z : Nat) (a0 : Nat) (x1 : Int32) (x2 : Int32) (x3 : Int32) (x4 : Int32) (x5 : Int32) (σ : z_S) (Post : Int32 → z_S → Prop) : Met l km_Mo_compare ks_Mo_compare kr_Mo_compare (va_Pc [.ref a0, .int x1, .int x2, .int x3, .int x4, .int x5] (fun U => z_U D z_cl z_KT dA Z (z_tys dA) z_nw σ U ∧ kp_Mo_compare  a0 x1 x2 x3 x4 x5 σ Post)) (z_Qi D z_cl z_KT dA Z (z_tys dA) z_nw Post) 0 0 (fun q => Z ≤ q) := by
  refine Met.ofW (cc := prog_10_method_23_code) (maxL := 8) (ret := (some .int)) (by decide) rfl ?_
  intro p e s m args below meth c s₁ B hml hv
  obtain ⟨rfl, ⟨hZ, hG, hK, hN⟩, hw⟩ := hv
  have hx := B.exec
  have hb := B.bytes
  have hr := B.returns
  have hts := atoms_spec (ws := ks_Mo_compare) B.pre
  have hown : s.vm.findClass kR_Mo = some m.cls := findClass_of_methodNamed B.named
  have hlocks := B.notSynchronized
  have hS : va_S (fun q => Z ≤ q) s.heap s.heap [] := va_S.rf
  have hl := lv_entry ([.ref a0, .int x1, .int x2, .int x3, .int x4, .int x5]) (n := 8) (Nat.le_of_ble_eq_true rfl)
  rw [lg_entry_eq]
  generalize (lg_sl ([.ref a0, .int x1, .int x2, .int x3, .int x4, .int x5]) ++ List.replicate (8 - (lg_sl ([.ref a0, .int x1, .int x2, .int x3, .int x4, .int x5])).length) Slot.unset).toArray = ls at hl ⊢
  have hl : lv_has ls 8 [(0, .ref a0), (1, .int x1), (2, .int x2), (3, .int x3), (4, .int x4), (5, .int x5)] := hl
  unfold kp_Mo_compare at hw
  have hw := hw (fun (t0 : Int32) (σ : z_S) => ∀ (H : Heap) (locs : List Loc) (ls : Array Slot), z_G D z_cl z_KT dA Z σ H → va_S (fun q => Z ≤ q) s.heap H locs → lv_has ls 8 [] → W p l e (headSpec ks_Mo_compare kr_Mo_compare).room s m ([.ref a0, .int x1, .int x2, .int x3, .int x4, .int x5] : List Value).toArray below meth c H locs 0 0 (MQ below (z_Qi D z_cl z_KT dA Z (z_tys dA) z_nw Post) ([.ref a0, .int x1, .int x2, .int x3, .int x4, .int x5] : List Value).toArray s 0 0 (fun q => Z ≤ q)) (F0 m 72 ls [.int t0]))
  have hw := hw (by
    intro t0 σ hw H locs ls hG hS hl
    refine lv_istore (lv' := [(7, .int t0)]) hx hb kb_Mo_compare_72 hl (by decide) rfl (fun ls hl => ?_)
    refine lv_iload hx hb kb_Mo_compare_74 (lv_at hl 0 rfl) ?_
    refine lv_if_ge (tgt := 83) hx hb kb_Mo_compare_76 (by decide) (fun hc => ?_) (fun hc => ?_)
    · have hw := hw.1 hc
      refine lv_iload hx hb kb_Mo_compare_83 (lv_at hl 0 rfl) ?_
      refine lv_if_le (tgt := 92) hx hb kb_Mo_compare_85 (by decide) (fun hc => ?_) (fun hc => ?_)
      · have hw := hw.1 hc
        refine lv_iconst (v := (0 : Int32)) hx hb kb_Mo_compare_92 (by decide) ?_
        exact zr_iret (free := fun q => Z ≤ q) z_nwN hx hb hr rfl hZ hK hN hG hS hw kb_Mo_compare_93 hlocks
      · have hw := hw.2 hc
        refine lv_iconst (v := (1 : Int32)) hx hb kb_Mo_compare_88 (by decide) ?_
        refine lv_goto (tgt := 93) hx hb kb_Mo_compare_89 (by decide) ?_
        exact zr_iret (free := fun q => Z ≤ q) z_nwN hx hb hr rfl hZ hK hN hG hS hw kb_Mo_compare_93 hlocks
    · have hw := hw.2 hc
      refine lv_iconst (v := (-1 : Int32)) hx hb kb_Mo_compare_79 (by decide) ?_
      refine lv_goto (tgt := 93) hx hb kb_Mo_compare_80 (by decide) ?_
      exact zr_iret (free := fun q => Z ≤ q) z_nwN hx hb hr rfl hZ hK hN hG hS hw kb_Mo_compare_93 hlocks)
  refine lv_aload_n hx hb kb_Mo_compare_0 rfl (lv_at hl 0 rfl) ?_
  refine lv_iload_n hx hb kb_Mo_compare_1 rfl (lv_at hl 1 rfl) ?_
  refine lv_iload_n hx hb kb_Mo_compare_2 rfl (lv_at hl 2 rfl) ?_
  obtain ⟨hy, hw⟩ := hw
  refine zr_ci (va_runV (C := kR_Mo) (As := [.int x1, .int x2]) (rest := []) ⟨hx, hb, hml, hown, hts⟩ (kc_Mo_base l D dA Z a0 x1 x2 σ _) ⟨callB_of 2 hts (z_gw kw_790) rfl rfl rfl (hts _ (List.mem_cons_of_mem _ kw_9)) (hts _ (List.mem_cons_of_mem _ kw_788)) (by decide +kernel) ⟨Nat.le_of_ble_eq_true rfl, Nat.le_of_ble_eq_true rfl⟩, (hts _ (List.mem_cons_of_mem _ kw_789)), (hts _ (List.mem_cons_of_mem _ kw_977))⟩ (z_preV z_nwN (Nat.le_trans hZ hS.1) hG hK hN hy (ci := 8) (r := (kR_Mo, kT_Mo, 51)) rfl hw) rfl rfl hl.1 rfl (lv_room (Nat.le_of_ble_eq_true rfl)) kb_Mo_compare_3 ⟨Nat.le_of_ble_eq_true rfl, Nat.le_of_ble_eq_true rfl⟩) hS (fun r3 σ3 H locs hw hG hS => ?_)
  refine lv_istore (lv' := [(6, .int r3), (0, .ref a0), (1, .int x1), (2, .int x2), (3, .int x3), (4, .int x4), (5, .int x5)]) hx hb kb_Mo_compare_6 hl (by decide) rfl (fun ls hl => ?_)
  refine lv_iload_n hx hb kb_Mo_compare_8 rfl (lv_at hl 4 rfl) ?_
  refine lv_aload_n hx hb kb_Mo_compare_9 rfl (lv_at hl 1 rfl) ?_
  obtain ⟨hy, r10, hrf, hw⟩ := hw
  refine zr_getR (ci := 8) (f := 824) hx hb hts ki_Mo hown hK hG hy rfl 24 (by decide) (hts _ (List.mem_cons_of_mem _ kw_608)) (fun _ h => h) rfl rfl hrf kb_Mo_compare_10 ?_
  refine lv_iload hx hb kb_Mo_compare_13 (lv_at hl 0 rfl) ?_
  obtain ⟨n15, s15, hy, hi, hw⟩ := hw
  refine zr_iald hx hb hK hG 0 hy rfl hi kb_Mo_compare_15 ?_
  refine lv_icmp_eq (tgt := 31) hx hb kb_Mo_compare_16 (by decide) (fun hc => ?_) (fun hc => ?_)
  · have hw := hw.1 hc
    refine lv_iload hx hb kb_Mo_compare_31 (lv_at hl 5 rfl) ?_
    refine lv_aload_n hx hb kb_Mo_compare_33 rfl (lv_at hl 1 rfl) ?_
    obtain ⟨hy, r34, hrf, hw⟩ := hw
    refine zr_getR (ci := 8) (f := 824) hx hb hts ki_Mo hown hK hG hy rfl 24 (by decide) (hts _ (List.mem_cons_of_mem _ kw_608)) (fun _ h => h) rfl rfl hrf kb_Mo_compare_34 ?_
    refine lv_iload hx hb kb_Mo_compare_37 (lv_at hl 0 rfl) ?_
    refine lv_iconst (v := (1 : Int32)) hx hb kb_Mo_compare_39 (by decide) ?_
    refine lv_iadd hx hb kb_Mo_compare_40 ?_
    obtain ⟨n41, s41, hy, hi, hw⟩ := hw
    refine zr_iald hx hb hK hG 0 hy rfl hi kb_Mo_compare_41 ?_
    refine lv_icmp_eq (tgt := 60) hx hb kb_Mo_compare_42 (by decide) (fun hc => ?_) (fun hc => ?_)
    · have hw := hw.1 hc
      refine lv_iload hx hb kb_Mo_compare_60 (lv_at hl 6 rfl) ?_
      refine lv_aload_n hx hb kb_Mo_compare_62 rfl (lv_at hl 1 rfl) ?_
      obtain ⟨hy, r63, hrf, hw⟩ := hw
      refine zr_getR (ci := 8) (f := 824) hx hb hts ki_Mo hown hK hG hy rfl 24 (by decide) (hts _ (List.mem_cons_of_mem _ kw_608)) (fun _ h => h) rfl rfl hrf kb_Mo_compare_63 ?_
      refine lv_iload hx hb kb_Mo_compare_66 (lv_at hl 0 rfl) ?_
      refine lv_iconst (v := (2 : Int32)) hx hb kb_Mo_compare_68 (by decide) ?_
      refine lv_iadd hx hb kb_Mo_compare_69 ?_
      obtain ⟨n70, s70, hy, hi, hw⟩ := hw
      refine zr_iald hx hb hK hG 0 hy rfl hi kb_Mo_compare_70 ?_
      refine lv_isub hx hb kb_Mo_compare_71 ?_
      exact hw _ _ _ hG hS (lv_sub hl [] rfl)
    · have hw := hw.2 hc
      refine lv_iload hx hb kb_Mo_compare_45 (lv_at hl 5 rfl) ?_
      refine lv_aload_n hx hb kb_Mo_compare_47 rfl (lv_at hl 1 rfl) ?_
      obtain ⟨hy, r48, hrf, hw⟩ := hw
      refine zr_getR (ci := 8) (f := 824) hx hb hts ki_Mo hown hK hG hy rfl 24 (by decide) (hts _ (List.mem_cons_of_mem _ kw_608)) (fun _ h => h) rfl rfl hrf kb_Mo_compare_48 ?_
      refine lv_iload hx hb kb_Mo_compare_51 (lv_at hl 0 rfl) ?_
      refine lv_iconst (v := (1 : Int32)) hx hb kb_Mo_compare_53 (by decide) ?_
      refine lv_iadd hx hb kb_Mo_compare_54 ?_
      obtain ⟨n55, s55, hy, hi, hw⟩ := hw
      refine zr_iald hx hb hK hG 0 hy rfl hi kb_Mo_compare_55 ?_
      refine lv_isub hx hb kb_Mo_compare_56 ?_
      refine lv_goto (tgt := 72) hx hb kb_Mo_compare_57 (by decide) ?_
      exact hw _ _ _ hG hS (lv_sub hl [] rfl)
  · have hw := hw.2 hc
    refine lv_iload_n hx hb kb_Mo_compare_19 rfl (lv_at hl 4 rfl) ?_
    refine lv_aload_n hx hb kb_Mo_compare_20 rfl (lv_at hl 1 rfl) ?_
    obtain ⟨hy, r21, hrf, hw⟩ := hw
    refine zr_getR (ci := 8) (f := 824) hx hb hts ki_Mo hown hK hG hy rfl 24 (by decide) (hts _ (List.mem_cons_of_mem _ kw_608)) (fun _ h => h) rfl rfl hrf kb_Mo_compare_21 ?_
    refine lv_iload hx hb kb_Mo_compare_24 (lv_at hl 0 rfl) ?_
    obtain ⟨n26, s26, hy, hi, hw⟩ := hw
    refine zr_iald hx hb hK hG 0 hy rfl hi kb_Mo_compare_26 ?_
    refine lv_isub hx hb kb_Mo_compare_27 ?_
    refine lv_goto (tgt := 72) hx hb kb_Mo_compare_28 (by decide) ?_
    exact hw _ _ _ hG hS (lv_sub hl [] rfl)
