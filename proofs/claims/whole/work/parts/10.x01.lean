def kp_En_solve : Nat → Nat → Int32 → z_S → (z_S → Prop) → Prop
  | 0, _, _, _, _ => False
  | d + 1, a0, x1, σ, Post => ∀ (X31 : z_S → Prop) (X95 : Nat → Nat → Int32 → Int32 → Int32 → Int32 → z_S → Prop) (X150 : Nat → Nat → Int32 → Int32 → Int32 → z_S → Prop) (X158 : Nat → Nat → Int32 → Int32 → Int32 → Int32 → z_S → Prop) (X211 : Nat → Nat → Int32 → Int32 → Int32 → Int32 → z_S → Prop),
    (∀ (σ : z_S), (z_ty σ a0 = some (.inl 1) ∧ kp_En_found a0 σ (fun (σ32 : z_S) => Post σ32)) → X31 σ) →
    (∀ (v2 : Nat) (v3 : Nat) (v4 : Int32) (v5 : Int32) (v6 : Int32) (v7 : Int32) (σ : z_S), (z_ty σ v2 = some (.inl 0) ∧ (((z_I σ 1 v2) ≤ v7 → X150 v2 v3 v4 v5 v6 σ) ∧ (¬ (z_I σ 1 v2) ≤ v7 → z_ty σ v2 = some (.inl 0) ∧ ∃ r106, z_R σ 0 v2 = some r106 ∧ (∃ n111 s111, z_ty σ r106 = some (.inr (0, n111, s111)) ∧ vp_in v7 n111 ∧ (z_ty σ a0 = some (.inl 1) ∧ kp_En_isKnown a0 (z_A σ s111 r106 v7.toNatClampNeg) σ (fun (r112 : Int32) (σ112 : z_S) => (r112 = 0 → X150 v2 v3 v4 v5 v6 σ112) ∧ (¬ r112 = 0 → kp_Vr_weight v7 σ112 (fun (r120 : Int32) (σ120 : z_S) => z_ty σ120 v2 = some (.inl 0) ∧ ∃ r129, z_R σ120 0 v2 = some r129 ∧ (∃ n134 s134, z_ty σ120 r129 = some (.inr (0, n134, s134)) ∧ vp_in v7 n134 ∧ (z_ty σ120 a0 = some (.inl 1) ∧ kp_En_valueOf a0 (z_A σ120 s134 r129 v7.toNatClampNeg) σ120 (fun (r135 : Int32) (σ135 : z_S) => X95 v2 v3 v4 (v5 + (r135 * r120)) r120 (v7 + (1 : Int32)) σ135))))))))))) → X95 v2 v3 v4 v5 v6 v7 σ) →
    (∀ (v2 : Nat) (v3 : Nat) (v4 : Int32) (v5 : Int32) (v6 : Int32) (σ : z_S), (z_ty σ v3 = some (.inl 4) ∧ kp_Ro_seek v3 v5 σ (fun (r153 : Int32) (σ153 : z_S) => X158 v2 v3 v4 v5 v6 r153 σ153)) → X150 v2 v3 v4 v5 v6 σ) →
    (∀ (v2 : Nat) (v3 : Nat) (v4 : Int32) (v5 : Int32) (v6 : Int32) (v7 : Int32) (σ : z_S), (z_ty σ v3 = some (.inl 4) ∧ (((z_I σ 402 v3) ≤ v7 → Post σ) ∧ (¬ (z_I σ 402 v3) ≤ v7 → (((100 : Int32)) ≤ v7 → Post σ) ∧ (¬ ((100 : Int32)) ≤ v7 → z_ty σ v3 = some (.inl 4) ∧ ∃ r175, z_R σ 400 v3 = some r175 ∧ (∃ n180 s180, z_ty σ r175 = some (.inr (0, n180, s180)) ∧ vp_in v7 n180 ∧ ((v6 ≤ ((z_A σ s180 r175 v7.toNatClampNeg) - v5) → Post σ) ∧ (¬ v6 ≤ ((z_A σ s180 r175 v7.toNatClampNeg) - v5) → z_ty σ v3 = some (.inl 4) ∧ ∃ r192, z_R σ 400 v3 = some r192 ∧ (∃ n197 s197, z_ty σ r192 = some (.inr (0, n197, s197)) ∧ vp_in v7 n197 ∧ (z_ty σ a0 = some (.inl 1) ∧ kp_En_matches a0 v2 (z_A σ s197 r192 v7.toNatClampNeg) σ (fun (r198 : Int32) (σ198 : z_S) => (r198 = 0 → X211 v2 v3 v4 v5 v6 v7 σ198) ∧ (¬ r198 = 0 → z_ty σ198 a0 = some (.inl 1) ∧ kp_En_solve d a0 (x1 + ((1 : Int32))) σ198 (fun (σ208 : z_S) => X211 v2 v3 v4 v5 v6 v7 σ208)))))))))))) → X158 v2 v3 v4 v5 v6 v7 σ) →
    (∀ (v2 : Nat) (v3 : Nat) (v4 : Int32) (v5 : Int32) (v6 : Int32) (v7 : Int32) (σ : z_S), (z_ty σ a0 = some (.inl 1) ∧ ∀ σ214, σ214 = z_sI σ 105 a0 v4 → X158 v2 v3 v4 v5 v6 (v7 + (1 : Int32)) σ214) → X211 v2 v3 v4 v5 v6 v7 σ) →
    (z_ty σ a0 = some (.inl 1) ∧ ((¬ ((z_I σ 108 a0)) = 0 → Post σ) ∧ (((z_I σ 108 a0)) = 0 → z_ty σ a0 = some (.inl 1) ∧ kp_En_isNothingNew a0 σ (fun (r8 : Int32) (σ8 : z_S) => (r8 = 0 → z_ty σ8 a0 = some (.inl 1) ∧ ∃ r17, z_R σ8 110 a0 = some r17 ∧ (z_ty σ8 r17 = some (.inl 5) ∧ (((z_I σ8 502 r17) ≤ x1 → X31 σ8) ∧ (¬ (z_I σ8 502 r17) ≤ x1 → (x1 < ((5 : Int32)) → z_ty σ8 a0 = some (.inl 1) ∧ ∃ r37, z_R σ8 110 a0 = some r37 ∧ (z_ty σ8 r37 = some (.inl 5) ∧ ∃ r40, z_R σ8 501 r37 = some r40 ∧ (∃ n44 s44, z_ty σ8 r40 = some (.inr (11, n44, s44)) ∧ vp_in x1 n44 ∧ ∃ r44, z_Q σ8 s44 r40 x1.toNatClampNeg = some r44 ∧ (z_ty σ8 r44 = some (.inl 0) ∧ ((((z_I σ8 2 r44)) = 0 → z_ty σ8 a0 = some (.inl 1) ∧ ∃ r70, z_R σ8 111 a0 = some r70 ∧ (z_ty σ8 r44 = some (.inl 0) ∧ (∃ n77 s77, z_ty σ8 r70 = some (.inr (9, n77, s77)) ∧ vp_in (z_I σ8 3 r44) n77 ∧ ∃ r77, z_Q σ8 s77 r70 (z_I σ8 3 r44).toNatClampNeg = some r77 ∧ (z_ty σ8 a0 = some (.inl 1) ∧ (X95 r44 r77 (z_I σ8 105 a0) ((0 : Int32)) ((1000000000 : Int32)) ((0 : Int32)) σ8))))) ∧ (¬ ((z_I σ8 2 r44)) = 0 → z_ty σ8 a0 = some (.inl 1) ∧ kp_En_holds a0 r44 σ8 (fun (r55 : Int32) (σ55 : z_S) => (r55 = 0 → Post σ55) ∧ (¬ r55 = 0 → z_ty σ55 a0 = some (.inl 1) ∧ kp_En_solve d a0 (x1 + ((1 : Int32))) σ55 (fun (σ65 : z_S) => Post σ65))))))))) ∧ (¬ x1 < ((5 : Int32)) → X31 σ8))))) ∧ (¬ r8 = 0 → Post σ8)))))
set_option maxHeartbeats 4000000 in
set_option maxRecDepth 100000 in
theorem kc_En_solve (l : Launch) (D : va_G) (dA : Nat → ClassId) (Z : Nat) : ∀ (d : Nat) (a0 : Nat) (x1 : Int32) (σ : z_S) (Post : z_S → Prop), Met l km_En_solve ks_En_solve (kr_En_solve d) (va_Pc [.ref a0, .int x1] (fun U => z_U D z_cl z_KT dA Z (z_tys dA) z_nw σ U ∧ kp_En_solve d  a0 x1 σ Post)) (z_Qv D z_cl z_KT dA Z (z_tys dA) z_nw Post) 0 0 (fun q => Z ≤ q) := by
  intro d
  induction d with
  | zero =>
    intro a0 x1 σ Post
    refine Met.ofW (cc := prog_3_method_10_code) (maxL := 8) (ret := none) (by decide) rfl ?_
    intro p e s m args below meth c s₁ B hml hv
    exact absurd hv.2.2 (fun h => by simp only [kp_En_solve] at h)
  | succ d ih =>
    intro a0 x1 σ Post
    refine Met.ofW (cc := prog_3_method_10_code) (maxL := 8) (ret := none) (by decide) rfl ?_
    intro p e s m args below meth c s₁ B hml hv
    obtain ⟨rfl, ⟨hZ, hG, hK, hN⟩, hw⟩ := hv
    have hx := B.exec
    have hb := B.bytes
    have hr := B.returns
    have hts := atoms_spec (ws := ks_En_solve) B.pre
    have hown : s.vm.findClass kR_En = some m.cls := findClass_of_methodNamed B.named
    have hlocks := B.notSynchronized
    have hS : va_S (fun q => Z ≤ q) s.heap s.heap [] := va_S.rf
    have hl := lv_entry ([.ref a0, .int x1]) (n := 8) (Nat.le_of_ble_eq_true rfl)
    rw [lg_entry_eq]
    generalize (lg_sl ([.ref a0, .int x1]) ++ List.replicate (8 - (lg_sl ([.ref a0, .int x1])).length) Slot.unset).toArray = ls at hl ⊢
    have hl : lv_has ls 8 [(0, .ref a0), (1, .int x1)] := hl
    rw [kp_En_solve] at hw
    have hw := hw (fun (σ : z_S) => ∀ (H : Heap) (locs : List Loc) (ls : Array Slot), z_G D z_cl z_KT dA Z σ H → va_S (fun q => Z ≤ q) s.heap H locs → lv_has ls 8 [(0, .ref a0)] → W p l e (headSpec ks_En_solve (kr_En_solve (d + 1))).room s m ([.ref a0, .int x1] : List Value).toArray below meth c H locs 0 0 (MQ below (z_Qv D z_cl z_KT dA Z (z_tys dA) z_nw Post) ([.ref a0, .int x1] : List Value).toArray s 0 0 (fun q => Z ≤ q)) (F0 m 31 ls []))
    have hw := hw (fun (v2 : Nat) (v3 : Nat) (v4 : Int32) (v5 : Int32) (v6 : Int32) (v7 : Int32) (σ : z_S) => ∀ (H : Heap) (locs : List Loc) (ls : Array Slot), z_G D z_cl z_KT dA Z σ H → va_S (fun q => Z ≤ q) s.heap H locs → lv_has ls 8 [(0, .ref a0), (1, .int x1), (2, .ref v2), (3, .ref v3), (4, .int v4), (5, .int v5), (6, .int v6), (7, .int v7)] → W p l e (headSpec ks_En_solve (kr_En_solve (d + 1))).room s m ([.ref a0, .int x1] : List Value).toArray below meth c H locs 0 0 (MQ below (z_Qv D z_cl z_KT dA Z (z_tys dA) z_nw Post) ([.ref a0, .int x1] : List Value).toArray s 0 0 (fun q => Z ≤ q)) (F0 m 95 ls []))
    have hw := hw (fun (v2 : Nat) (v3 : Nat) (v4 : Int32) (v5 : Int32) (v6 : Int32) (σ : z_S) => ∀ (H : Heap) (locs : List Loc) (ls : Array Slot), z_G D z_cl z_KT dA Z σ H → va_S (fun q => Z ≤ q) s.heap H locs → lv_has ls 8 [(0, .ref a0), (1, .int x1), (2, .ref v2), (3, .ref v3), (4, .int v4), (5, .int v5), (6, .int v6)] → W p l e (headSpec ks_En_solve (kr_En_solve (d + 1))).room s m ([.ref a0, .int x1] : List Value).toArray below meth c H locs 0 0 (MQ below (z_Qv D z_cl z_KT dA Z (z_tys dA) z_nw Post) ([.ref a0, .int x1] : List Value).toArray s 0 0 (fun q => Z ≤ q)) (F0 m 150 ls []))
    have hw := hw (fun (v2 : Nat) (v3 : Nat) (v4 : Int32) (v5 : Int32) (v6 : Int32) (v7 : Int32) (σ : z_S) => ∀ (H : Heap) (locs : List Loc) (ls : Array Slot), z_G D z_cl z_KT dA Z σ H → va_S (fun q => Z ≤ q) s.heap H locs → lv_has ls 8 [(0, .ref a0), (1, .int x1), (2, .ref v2), (3, .ref v3), (4, .int v4), (5, .int v5), (6, .int v6), (7, .int v7)] → W p l e (headSpec ks_En_solve (kr_En_solve (d + 1))).room s m ([.ref a0, .int x1] : List Value).toArray below meth c H locs 0 0 (MQ below (z_Qv D z_cl z_KT dA Z (z_tys dA) z_nw Post) ([.ref a0, .int x1] : List Value).toArray s 0 0 (fun q => Z ≤ q)) (F0 m 158 ls []))
    have hw := hw (fun (v2 : Nat) (v3 : Nat) (v4 : Int32) (v5 : Int32) (v6 : Int32) (v7 : Int32) (σ : z_S) => ∀ (H : Heap) (locs : List Loc) (ls : Array Slot), z_G D z_cl z_KT dA Z σ H → va_S (fun q => Z ≤ q) s.heap H locs → lv_has ls 8 [(0, .ref a0), (1, .int x1), (2, .ref v2), (3, .ref v3), (4, .int v4), (5, .int v5), (6, .int v6), (7, .int v7)] → W p l e (headSpec ks_En_solve (kr_En_solve (d + 1))).room s m ([.ref a0, .int x1] : List Value).toArray below meth c H locs 0 0 (MQ below (z_Qv D z_cl z_KT dA Z (z_tys dA) z_nw Post) ([.ref a0, .int x1] : List Value).toArray s 0 0 (fun q => Z ≤ q)) (F0 m 211 ls []))
    have hw := hw (by
      intro σ hw H locs ls hG hS hl
      refine lv_aload_n hx hb kb_En_solve_31 rfl (lv_at hl 0 rfl) ?_
      obtain ⟨hy, hw⟩ := hw
      refine zr_cv (va_runV (C := kR_En) (As := []) (rest := []) ⟨hx, hb, hml, hown, hts⟩ (kc_En_found l D dA Z a0 σ _) ⟨callB_of 0 hts (z_gw kw_424) rfl rfl rfl (hts _ (List.mem_cons_of_mem _ kw_5)) (hts _ (List.mem_cons_of_mem _ kw_422)) (by decide +kernel) ⟨by show kr_En_found.frames + 1 ≤ (kr_En_solve (d + 1)).frames; simp only [kr_En_found, kr_En_solve]; omega, by show 8 + (4 + 11) + kr_En_found.locals ≤ (kr_En_solve (d + 1)).locals; simp only [kr_En_found, kr_En_solve]; omega⟩, (hts _ (List.mem_cons_of_mem _ kw_423)), (hts _ (List.mem_cons_of_mem _ kw_935))⟩ (z_preV z_nwN (Nat.le_trans hZ hS.1) hG hK hN hy (ci := 1) (r := (kR_En, kT_En, 12)) rfl hw) rfl rfl hl.1 rfl (lv_room (Nat.le_of_ble_eq_true rfl)) kb_En_solve_32 ⟨Nat.le_of_ble_eq_true rfl, Nat.le_of_ble_eq_true rfl⟩) hS (fun σ32 H locs hw hG hS => ?_)
      exact zr_vret z_nwN hx hb hr hZ hK hN hG hS hw kb_En_solve_35 hlocks)
    have hw := hw (by
      intro v2 v3 v4 v5 v6 v7 σ hw H locs ls hG hS hl
      refine lv_iload hx hb kb_En_solve_95 (lv_at hl 7 rfl) ?_
      refine lv_aload_n hx hb kb_En_solve_97 rfl (lv_at hl 2 rfl) ?_
      obtain ⟨hy, hw⟩ := hw
      refine zr_getI (ci := 0) (f := 1) hx hb hts ki_At hown hK hG hy rfl 1 (by decide) (hts _ (List.mem_cons_of_mem _ kw_107)) (fun _ h => h) rfl rfl kb_En_solve_98 ?_
      refine lv_icmp_ge (tgt := 150) hx hb kb_En_solve_101 (by decide) (fun hc => ?_) (fun hc => ?_)
      · have hw := hw.1 hc
        exact hw _ _ _ hG hS (lv_sub hl [0, 1, 2, 3, 4, 5, 6] rfl)
      · have hw := hw.2 hc
        refine lv_aload_n hx hb kb_En_solve_104 rfl (lv_at hl 0 rfl) ?_
        refine lv_aload_n hx hb kb_En_solve_105 rfl (lv_at hl 2 rfl) ?_
        obtain ⟨hy, r106, hrf, hw⟩ := hw
        refine zr_getR (ci := 0) (f := 0) hx hb hts ki_At hown hK hG hy rfl 0 (by decide) (hts _ (List.mem_cons_of_mem _ kw_104)) (fun _ h => h) rfl rfl hrf kb_En_solve_106 ?_
        refine lv_iload hx hb kb_En_solve_109 (lv_at hl 7 rfl) ?_
        obtain ⟨n111, s111, hy, hi, hw⟩ := hw
        refine zr_iald hx hb hK hG 0 hy rfl hi kb_En_solve_111 ?_
        obtain ⟨hy, hw⟩ := hw
        refine zr_ci (va_runV (C := kR_En) (As := [.int (z_A σ s111 r106 v7.toNatClampNeg)]) (rest := []) ⟨hx, hb, hml, hown, hts⟩ (kc_En_isKnown l D dA Z a0 (z_A σ s111 r106 v7.toNatClampNeg) σ _) ⟨callB_of 1 hts (z_gw kw_444) rfl rfl rfl (hts _ (List.mem_cons_of_mem _ kw_5)) (hts _ (List.mem_cons_of_mem _ kw_442)) (by decide +kernel) ⟨by show kr_En_isKnown.frames + 1 ≤ (kr_En_solve (d + 1)).frames; simp only [kr_En_isKnown, kr_En_solve]; omega, by show 8 + (2 + 11) + kr_En_isKnown.locals ≤ (kr_En_solve (d + 1)).locals; simp only [kr_En_isKnown, kr_En_solve]; omega⟩, (hts _ (List.mem_cons_of_mem _ kw_443)), (hts _ (List.mem_cons_of_mem _ kw_940))⟩ (z_preV z_nwN (Nat.le_trans hZ hS.1) hG hK hN hy (ci := 1) (r := (kR_En, kT_En, 12)) rfl hw) rfl rfl hl.1 rfl (lv_room (Nat.le_of_ble_eq_true rfl)) kb_En_solve_112 ⟨Nat.le_of_ble_eq_true rfl, Nat.le_of_ble_eq_true rfl⟩) hS (fun r112 σ112 H locs hw hG hS => ?_)
        refine lv_if_eq (tgt := 150) hx hb kb_En_solve_115 (by decide) (fun hc => ?_) (fun hc => ?_)
        · have hw := hw.1 hc
          exact hw _ _ _ hG hS (lv_sub hl [0, 1, 2, 3, 4, 5, 6] rfl)
        · have hw := hw.2 hc
          refine lv_iload hx hb kb_En_solve_118 (lv_at hl 7 rfl) ?_
          refine zr_ci (va_runSN (As := [.int v7]) (rest := []) ⟨hx, hb, hml, hown, hts⟩ (kc_Vr_weight l D dA Z v7 σ112 _) ⟨va_cnB 1 hts (z_gw kw_412) rfl rfl rfl (hN _ kq_11) (hts _ (List.mem_cons_of_mem _ kw_1)) (by decide +kernel) ⟨by show kr_Vr_weight.frames + 1 ≤ (kr_En_solve (d + 1)).frames; simp only [kr_Vr_weight, kr_En_solve]; omega, by show 8 + (1 + 11) + kr_Vr_weight.locals ≤ (kr_En_solve (d + 1)).locals; simp only [kr_Vr_weight, kr_En_solve]; omega⟩, (hts _ (List.mem_cons_of_mem _ kw_411)), trivial⟩ (z_preS z_nwN (Nat.le_trans hZ hS.1) hG hK hN hw) rfl rfl hl.1 rfl (lv_room (Nat.le_of_ble_eq_true rfl)) kb_En_solve_120 ⟨Nat.le_of_ble_eq_true rfl, Nat.le_of_ble_eq_true rfl⟩) hS (fun r120 σ120 H locs hw hG hS => ?_)
          refine lv_istore (lv' := [(6, .int r120), (0, .ref a0), (1, .int x1), (2, .ref v2), (3, .ref v3), (4, .int v4), (5, .int v5), (7, .int v7)]) hx hb kb_En_solve_123 hl (by decide) rfl (fun ls hl => ?_)
          refine lv_iload hx hb kb_En_solve_125 (lv_at hl 6 rfl) ?_
          refine lv_aload_n hx hb kb_En_solve_127 rfl (lv_at hl 1 rfl) ?_
          refine lv_aload_n hx hb kb_En_solve_128 rfl (lv_at hl 3 rfl) ?_
          obtain ⟨hy, r129, hrf, hw⟩ := hw
          refine zr_getR (ci := 0) (f := 0) hx hb hts ki_At hown hK hG hy rfl 0 (by decide) (hts _ (List.mem_cons_of_mem _ kw_104)) (fun _ h => h) rfl rfl hrf kb_En_solve_129 ?_
          refine lv_iload hx hb kb_En_solve_132 (lv_at hl 7 rfl) ?_
          obtain ⟨n134, s134, hy, hi, hw⟩ := hw
          refine zr_iald hx hb hK hG 0 hy rfl hi kb_En_solve_134 ?_
          obtain ⟨hy, hw⟩ := hw
          refine zr_ci (va_runV (C := kR_En) (As := [.int (z_A σ120 s134 r129 v7.toNatClampNeg)]) (rest := [.int v5]) ⟨hx, hb, hml, hown, hts⟩ (kc_En_valueOf l D dA Z a0 (z_A σ120 s134 r129 v7.toNatClampNeg) σ120 _) ⟨callB_of 1 hts (z_gw kw_410) rfl rfl rfl (hts _ (List.mem_cons_of_mem _ kw_5)) (hts _ (List.mem_cons_of_mem _ kw_408)) (by decide +kernel) ⟨by show kr_En_valueOf.frames + 1 ≤ (kr_En_solve (d + 1)).frames; simp only [kr_En_valueOf, kr_En_solve]; omega, by show 8 + (2 + 11) + kr_En_valueOf.locals ≤ (kr_En_solve (d + 1)).locals; simp only [kr_En_valueOf, kr_En_solve]; omega⟩, (hts _ (List.mem_cons_of_mem _ kw_409)), (hts _ (List.mem_cons_of_mem _ kw_934))⟩ (z_preV z_nwN (Nat.le_trans hZ hS.1) hG hK hN hy (ci := 1) (r := (kR_En, kT_En, 12)) rfl hw) rfl rfl hl.1 rfl (lv_room (Nat.le_of_ble_eq_true rfl)) kb_En_solve_135 ⟨Nat.le_of_ble_eq_true rfl, Nat.le_of_ble_eq_true rfl⟩) hS (fun r135 σ135 H locs hw hG hS => ?_)
          refine lv_iload hx hb kb_En_solve_138 (lv_at hl 0 rfl) ?_
          refine lv_imul hx hb kb_En_solve_140 ?_
          refine lv_iadd hx hb kb_En_solve_141 ?_
          refine lv_istore (lv' := [(5, .int (v5 + (r135 * r120))), (6, .int r120), (0, .ref a0), (1, .int x1), (2, .ref v2), (3, .ref v3), (4, .int v4), (7, .int v7)]) hx hb kb_En_solve_142 hl (by decide) rfl (fun ls hl => ?_)
          refine lv_iinc (v := v7 + (1 : Int32)) (lv' := [(7, .int (v7 + (1 : Int32))), (5, .int (v5 + (r135 * r120))), (6, .int r120), (0, .ref a0), (1, .int x1), (2, .ref v2), (3, .ref v3), (4, .int v4)]) hx hb kb_En_solve_144 hl (k := 7) rfl rfl (by decide) rfl (fun ls hl => ?_)
          refine lv_goto (tgt := 95) hx hb kb_En_solve_147 (by decide) ?_
          exact hw _ _ _ hG hS (lv_sub hl [3, 4, 5, 6, 7, 1, 2, 0] rfl))
    have hw := hw (by
      intro v2 v3 v4 v5 v6 σ hw H locs ls hG hS hl
      refine lv_aload_n hx hb kb_En_solve_150 rfl (lv_at hl 3 rfl) ?_
      refine lv_iload hx hb kb_En_solve_151 (lv_at hl 5 rfl) ?_
      obtain ⟨hy, hw⟩ := hw
      refine zr_ci (va_runV (C := kR_Ro) (As := [.int v5]) (rest := []) ⟨hx, hb, hml, hown, hts⟩ (kc_Ro_seek l D dA Z v3 v5 σ _) ⟨callB_of 1 hts (z_gw kw_421) rfl rfl rfl (hts _ (List.mem_cons_of_mem _ kw_8)) (hts _ (List.mem_cons_of_mem _ kw_445)) (by decide +kernel) ⟨by show kr_Ro_seek.frames + 1 ≤ (kr_En_solve (d + 1)).frames; simp only [kr_Ro_seek, kr_En_solve]; omega, by show 8 + (5 + 11) + kr_Ro_seek.locals ≤ (kr_En_solve (d + 1)).locals; simp only [kr_Ro_seek, kr_En_solve]; omega⟩, (hts _ (List.mem_cons_of_mem _ kw_419)), (hts _ (List.mem_cons_of_mem _ kw_420))⟩ (z_preV z_nwN (Nat.le_trans hZ hS.1) hG hK hN hy (ci := 4) (r := (kR_Ro, kT_Ro, 3)) rfl hw) rfl rfl hl.1 rfl (lv_room (Nat.le_of_ble_eq_true rfl)) kb_En_solve_153 ⟨Nat.le_of_ble_eq_true rfl, Nat.le_of_ble_eq_true rfl⟩) hS (fun r153 σ153 H locs hw hG hS => ?_)
      refine lv_istore (lv' := [(7, .int r153), (0, .ref a0), (1, .int x1), (2, .ref v2), (3, .ref v3), (4, .int v4), (5, .int v5), (6, .int v6)]) hx hb kb_En_solve_156 hl (by decide) rfl (fun ls hl => ?_)
      exact hw _ _ _ hG hS (lv_sub hl [1, 2, 3, 4, 5, 6, 7, 0] rfl))
    have hw := hw (by
      intro v2 v3 v4 v5 v6 v7 σ hw H locs ls hG hS hl
      refine lv_iload hx hb kb_En_solve_158 (lv_at hl 7 rfl) ?_
      refine lv_aload_n hx hb kb_En_solve_160 rfl (lv_at hl 3 rfl) ?_
      obtain ⟨hy, hw⟩ := hw
      refine zr_getI (ci := 4) (f := 402) hx hb hts ki_Ro hown hK hG hy rfl 2 (by decide) (hts _ (List.mem_cons_of_mem _ kw_190)) (fun _ h => h) rfl rfl kb_En_solve_161 ?_
      refine lv_icmp_ge (tgt := 223) hx hb kb_En_solve_164 (by decide) (fun hc => ?_) (fun hc => ?_)
      · have hw := hw.1 hc
        exact zr_vret z_nwN hx hb hr hZ hK hN hG hS hw kb_En_solve_223 hlocks
      · have hw := hw.2 hc
        refine lv_iload hx hb kb_En_solve_167 (lv_at hl 7 rfl) ?_
        refine lv_bipush (v := (100 : Int32)) hx hb kb_En_solve_169 (by decide) ?_
        refine lv_icmp_ge (tgt := 223) hx hb kb_En_solve_171 (by decide) (fun hc => ?_) (fun hc => ?_)
        · have hw := hw.1 hc
          exact zr_vret z_nwN hx hb hr hZ hK hN hG hS hw kb_En_solve_223 hlocks
        · have hw := hw.2 hc
          refine lv_aload_n hx hb kb_En_solve_174 rfl (lv_at hl 3 rfl) ?_
          obtain ⟨hy, r175, hrf, hw⟩ := hw
          refine zr_getR (ci := 4) (f := 400) hx hb hts ki_Ro hown hK hG hy rfl 0 (by decide) (hts _ (List.mem_cons_of_mem _ kw_184)) (fun _ h => h) rfl rfl hrf kb_En_solve_175 ?_
          refine lv_iload hx hb kb_En_solve_178 (lv_at hl 7 rfl) ?_
          obtain ⟨n180, s180, hy, hi, hw⟩ := hw
          refine zr_iald hx hb hK hG 0 hy rfl hi kb_En_solve_180 ?_
          refine lv_iload hx hb kb_En_solve_181 (lv_at hl 5 rfl) ?_
          refine lv_isub hx hb kb_En_solve_183 ?_
          refine lv_iload hx hb kb_En_solve_184 (lv_at hl 6 rfl) ?_
          refine lv_icmp_ge (tgt := 223) hx hb kb_En_solve_186 (by decide) (fun hc => ?_) (fun hc => ?_)
          · have hw := hw.1 hc
            exact zr_vret z_nwN hx hb hr hZ hK hN hG hS hw kb_En_solve_223 hlocks
          · have hw := hw.2 hc
            refine lv_aload_n hx hb kb_En_solve_189 rfl (lv_at hl 0 rfl) ?_
            refine lv_aload_n hx hb kb_En_solve_190 rfl (lv_at hl 2 rfl) ?_
            refine lv_aload_n hx hb kb_En_solve_191 rfl (lv_at hl 3 rfl) ?_
            obtain ⟨hy, r192, hrf, hw⟩ := hw
            refine zr_getR (ci := 4) (f := 400) hx hb hts ki_Ro hown hK hG hy rfl 0 (by decide) (hts _ (List.mem_cons_of_mem _ kw_184)) (fun _ h => h) rfl rfl hrf kb_En_solve_192 ?_
            refine lv_iload hx hb kb_En_solve_195 (lv_at hl 7 rfl) ?_
            obtain ⟨n197, s197, hy, hi, hw⟩ := hw
            refine zr_iald hx hb hK hG 0 hy rfl hi kb_En_solve_197 ?_
            obtain ⟨hy, hw⟩ := hw
            refine zr_ci (va_runV (C := kR_En) (As := [.ref v2, .int (z_A σ s197 r192 v7.toNatClampNeg)]) (rest := []) ⟨hx, hb, hml, hown, hts⟩ (kc_En_matches l D dA Z a0 v2 (z_A σ s197 r192 v7.toNatClampNeg) σ _) ⟨callB_of 2 hts (z_gw kw_448) rfl rfl rfl (hts _ (List.mem_cons_of_mem _ kw_5)) (hts _ (List.mem_cons_of_mem _ kw_446)) (by decide +kernel) ⟨by show kr_En_matches.frames + 1 ≤ (kr_En_solve (d + 1)).frames; simp only [kr_En_matches, kr_En_solve]; omega, by show 8 + (6 + 11) + kr_En_matches.locals ≤ (kr_En_solve (d + 1)).locals; simp only [kr_En_matches, kr_En_solve]; omega⟩, (hts _ (List.mem_cons_of_mem _ kw_447)), (hts _ (List.mem_cons_of_mem _ kw_941))⟩ (z_preV z_nwN (Nat.le_trans hZ hS.1) hG hK hN hy (ci := 1) (r := (kR_En, kT_En, 12)) rfl hw) rfl rfl hl.1 rfl (lv_room (Nat.le_of_ble_eq_true rfl)) kb_En_solve_198 ⟨Nat.le_of_ble_eq_true rfl, Nat.le_of_ble_eq_true rfl⟩) hS (fun r198 σ198 H locs hw hG hS => ?_)
            refine lv_if_eq (tgt := 211) hx hb kb_En_solve_201 (by decide) (fun hc => ?_) (fun hc => ?_)
            · have hw := hw.1 hc
              exact hw _ _ _ hG hS (lv_sub hl [0, 1, 2, 3, 4, 5, 6, 7] rfl)
            · have hw := hw.2 hc
              refine lv_aload_n hx hb kb_En_solve_204 rfl (lv_at hl 0 rfl) ?_
              refine lv_iload_n hx hb kb_En_solve_205 rfl (lv_at hl 1 rfl) ?_
              refine lv_iconst (v := (1 : Int32)) hx hb kb_En_solve_206 (by decide) ?_
              refine lv_iadd hx hb kb_En_solve_207 ?_
              obtain ⟨hy, hw⟩ := hw
              refine zr_cv (va_runV (C := kR_En) (As := [.int (x1 + ((1 : Int32)))]) (rest := []) ⟨hx, hb, hml, hown, hts⟩ (ih a0 (x1 + ((1 : Int32))) σ198 _) ⟨callB_of 1 hts (z_gw kw_401) rfl rfl rfl (hts _ (List.mem_cons_of_mem _ kw_5)) (hts _ (List.mem_cons_of_mem _ kw_399)) (by decide +kernel) ⟨by show (kr_En_solve d).frames + 1 ≤ (kr_En_solve (d + 1)).frames; simp only [kr_En_solve, kr_En_solve]; omega, by show 8 + (8 + 11) + (kr_En_solve d).locals ≤ (kr_En_solve (d + 1)).locals; simp only [kr_En_solve, kr_En_solve]; omega⟩, (hts _ (List.mem_cons_of_mem _ kw_400)), (hts _ (List.mem_cons_of_mem _ kw_931))⟩ (z_preV z_nwN (Nat.le_trans hZ hS.1) hG hK hN hy (ci := 1) (r := (kR_En, kT_En, 12)) rfl hw) rfl rfl hl.1 rfl (lv_room (Nat.le_of_ble_eq_true rfl)) kb_En_solve_208 ⟨Nat.le_of_ble_eq_true rfl, Nat.le_of_ble_eq_true rfl⟩) hS (fun σ208 H locs hw hG hS => ?_)
              exact hw _ _ _ hG hS (lv_sub hl [0, 1, 2, 3, 4, 5, 6, 7] rfl))
    have hw := hw (by
      intro v2 v3 v4 v5 v6 v7 σ hw H locs ls hG hS hl
      refine lv_aload_n hx hb kb_En_solve_211 rfl (lv_at hl 0 rfl) ?_
      refine lv_iload hx hb kb_En_solve_212 (lv_at hl 4 rfl) ?_
      obtain ⟨hy, hw⟩ := hw
      refine zr_putI (ci := 1) (f := 105) hx hb hts ki_En ky_En kyo_En kn_En hown hK hG hS hy rfl 5 (by decide) (hts _ (List.mem_cons_of_mem _ kw_160)) (fun _ h => h) rfl rfl rfl rfl rfl kb_En_solve_214 (fun H locs hG hS => ?_)
      obtain ⟨σ214, e214⟩ : ∃ z, z = z_sI σ 105 a0 v4 := ⟨_, rfl⟩
      rw [← e214] at hG
      have hw := hw _ e214
      refine lv_iinc (v := v7 + (1 : Int32)) (lv' := [(7, .int (v7 + (1 : Int32))), (0, .ref a0), (1, .int x1), (2, .ref v2), (3, .ref v3), (4, .int v4), (5, .int v5), (6, .int v6)]) hx hb kb_En_solve_217 hl (k := 7) rfl rfl (by decide) rfl (fun ls hl => ?_)
      refine lv_goto (tgt := 158) hx hb kb_En_solve_220 (by decide) ?_
      exact hw _ _ _ hG hS (lv_sub hl [1, 2, 3, 4, 5, 6, 7, 0] rfl))
    refine lv_aload_n hx hb kb_En_solve_0 rfl (lv_at hl 0 rfl) ?_
    obtain ⟨hy, hw⟩ := hw
    refine zr_getI (ci := 1) (f := 108) hx hb hts ki_En hown hK hG hy rfl 8 (by decide) (hts _ (List.mem_cons_of_mem _ kw_163)) (fun _ h => h) rfl rfl kb_En_solve_1 ?_
    refine lv_if_ne (tgt := 14) hx hb kb_En_solve_4 (by decide) (fun hc => ?_) (fun hc => ?_)
    · have hw := hw.1 hc
      exact zr_vret z_nwN hx hb hr hZ hK hN hG hS hw kb_En_solve_14 hlocks
    · have hw := hw.2 hc
      refine lv_aload_n hx hb kb_En_solve_7 rfl (lv_at hl 0 rfl) ?_
      obtain ⟨hy, hw⟩ := hw
      refine zr_ci (va_runV (C := kR_En) (As := []) (rest := []) ⟨hx, hb, hml, hown, hts⟩ (kc_En_isNothingNew l D dA Z a0 σ _) ⟨callB_of 0 hts (z_gw kw_404) rfl rfl rfl (hts _ (List.mem_cons_of_mem _ kw_5)) (hts _ (List.mem_cons_of_mem _ kw_402)) (by decide +kernel) ⟨by show kr_En_isNothingNew.frames + 1 ≤ (kr_En_solve (d + 1)).frames; simp only [kr_En_isNothingNew, kr_En_solve]; omega, by show 8 + (2 + 11) + kr_En_isNothingNew.locals ≤ (kr_En_solve (d + 1)).locals; simp only [kr_En_isNothingNew, kr_En_solve]; omega⟩, (hts _ (List.mem_cons_of_mem _ kw_403)), (hts _ (List.mem_cons_of_mem _ kw_932))⟩ (z_preV z_nwN (Nat.le_trans hZ hS.1) hG hK hN hy (ci := 1) (r := (kR_En, kT_En, 12)) rfl hw) rfl rfl hl.1 rfl (lv_room (Nat.le_of_ble_eq_true rfl)) kb_En_solve_8 ⟨Nat.le_of_ble_eq_true rfl, Nat.le_of_ble_eq_true rfl⟩) hS (fun r8 σ8 H locs hw hG hS => ?_)
      refine lv_if_eq (tgt := 15) hx hb kb_En_solve_11 (by decide) (fun hc => ?_) (fun hc => ?_)
      · have hw := hw.1 hc
        refine lv_iload_n hx hb kb_En_solve_15 rfl (lv_at hl 1 rfl) ?_
        refine lv_aload_n hx hb kb_En_solve_16 rfl (lv_at hl 0 rfl) ?_
        obtain ⟨hy, r17, hrf, hw⟩ := hw
        refine zr_getR (ci := 1) (f := 110) hx hb hts ki_En hown hK hG hy rfl 10 (by decide) (hts _ (List.mem_cons_of_mem _ kw_165)) (fun _ h => h) rfl rfl hrf kb_En_solve_17 ?_
        obtain ⟨hy, hw⟩ := hw
        refine zr_getI (ci := 5) (f := 502) hx hb hts ki_Ru hown hK hG hy rfl 2 (by decide) (hts _ (List.mem_cons_of_mem _ kw_136)) (fun _ h => h) rfl rfl kb_En_solve_20 ?_
        refine lv_icmp_ge (tgt := 31) hx hb kb_En_solve_23 (by decide) (fun hc => ?_) (fun hc => ?_)
        · have hw := hw.1 hc
          exact hw _ _ _ hG hS (lv_sub hl [0] rfl)
        · have hw := hw.2 hc
          refine lv_iload_n hx hb kb_En_solve_26 rfl (lv_at hl 1 rfl) ?_
          refine lv_iconst (v := (5 : Int32)) hx hb kb_En_solve_27 (by decide) ?_
          refine lv_icmp_lt (tgt := 36) hx hb kb_En_solve_28 (by decide) (fun hc => ?_) (fun hc => ?_)
          · have hw := hw.1 hc
            refine lv_aload_n hx hb kb_En_solve_36 rfl (lv_at hl 0 rfl) ?_
            obtain ⟨hy, r37, hrf, hw⟩ := hw
            refine zr_getR (ci := 1) (f := 110) hx hb hts ki_En hown hK hG hy rfl 10 (by decide) (hts _ (List.mem_cons_of_mem _ kw_165)) (fun _ h => h) rfl rfl hrf kb_En_solve_37 ?_
            obtain ⟨hy, r40, hrf, hw⟩ := hw
            refine zr_getR (ci := 5) (f := 501) hx hb hts ki_Ru hown hK hG hy rfl 1 (by decide) (hts _ (List.mem_cons_of_mem _ kw_131)) (fun _ h => h) rfl rfl hrf kb_En_solve_40 ?_
            refine lv_iload_n hx hb kb_En_solve_43 rfl (lv_at hl 1 rfl) ?_
            obtain ⟨n44, s44, hy, hi, r44, hrf, hw⟩ := hw
            refine zr_aald hx hb hK hG 6 (by decide) hy rfl hi hrf kb_En_solve_44 ?_
            refine lv_astore_n (lv' := [(2, .ref r44), (0, .ref a0), (1, .int x1)]) hx hb kb_En_solve_45 rfl hl (by decide) rfl (fun ls hl => ?_)
            refine lv_aload_n hx hb kb_En_solve_46 rfl (lv_at hl 0 rfl) ?_
            obtain ⟨hy, hw⟩ := hw
            refine zr_getI (ci := 0) (f := 2) hx hb hts ki_At hown hK hG hy rfl 2 (by decide) (hts _ (List.mem_cons_of_mem _ kw_110)) (fun _ h => h) rfl rfl kb_En_solve_47 ?_
            refine lv_if_eq (tgt := 69) hx hb kb_En_solve_50 (by decide) (fun hc => ?_) (fun hc => ?_)
            · have hw := hw.1 hc
              refine lv_aload_n hx hb kb_En_solve_69 rfl (lv_at hl 1 rfl) ?_
              obtain ⟨hy, r70, hrf, hw⟩ := hw
              refine zr_getR (ci := 1) (f := 111) hx hb hts ki_En hown hK hG hy rfl 11 (by decide) (hts _ (List.mem_cons_of_mem _ kw_166)) (fun _ h => h) rfl rfl hrf kb_En_solve_70 ?_
              refine lv_aload_n hx hb kb_En_solve_73 rfl (lv_at hl 0 rfl) ?_
              obtain ⟨hy, hw⟩ := hw
              refine zr_getI (ci := 0) (f := 3) hx hb hts ki_At hown hK hG hy rfl 3 (by decide) (hts _ (List.mem_cons_of_mem _ kw_112)) (fun _ h => h) rfl rfl kb_En_solve_74 ?_
              obtain ⟨n77, s77, hy, hi, r77, hrf, hw⟩ := hw
              refine zr_aald hx hb hK hG 4 (by decide) hy rfl hi hrf kb_En_solve_77 ?_
              refine lv_astore_n (lv' := [(3, .ref r77), (2, .ref r44), (0, .ref a0), (1, .int x1)]) hx hb kb_En_solve_78 rfl hl (by decide) rfl (fun ls hl => ?_)
              refine lv_aload_n hx hb kb_En_solve_79 rfl (lv_at hl 2 rfl) ?_
              obtain ⟨hy, hw⟩ := hw
              refine zr_getI (ci := 1) (f := 105) hx hb hts ki_En hown hK hG hy rfl 5 (by decide) (hts _ (List.mem_cons_of_mem _ kw_160)) (fun _ h => h) rfl rfl kb_En_solve_80 ?_
              refine lv_istore (lv' := [(4, .int (z_I σ8 105 a0)), (3, .ref r77), (2, .ref r44), (0, .ref a0), (1, .int x1)]) hx hb kb_En_solve_83 hl (by decide) rfl (fun ls hl => ?_)
              refine lv_iconst (v := (0 : Int32)) hx hb kb_En_solve_85 (by decide) ?_
              refine lv_istore (lv' := [(5, .int ((0 : Int32))), (4, .int (z_I σ8 105 a0)), (3, .ref r77), (2, .ref r44), (0, .ref a0), (1, .int x1)]) hx hb kb_En_solve_86 hl (by decide) rfl (fun ls hl => ?_)
              refine lv_ldc (v := (1000000000 : Int32)) hx hb hown (hts _ (List.mem_cons_of_mem _ kw_441)) kb_En_solve_88 ?_
              refine lv_istore (lv' := [(6, .int ((1000000000 : Int32))), (5, .int ((0 : Int32))), (4, .int (z_I σ8 105 a0)), (3, .ref r77), (2, .ref r44), (0, .ref a0), (1, .int x1)]) hx hb kb_En_solve_90 hl (by decide) rfl (fun ls hl => ?_)
              refine lv_iconst (v := (0 : Int32)) hx hb kb_En_solve_92 (by decide) ?_
              refine lv_istore (lv' := [(7, .int ((0 : Int32))), (6, .int ((1000000000 : Int32))), (5, .int ((0 : Int32))), (4, .int (z_I σ8 105 a0)), (3, .ref r77), (2, .ref r44), (0, .ref a0), (1, .int x1)]) hx hb kb_En_solve_93 hl (by decide) rfl (fun ls hl => ?_)
              exact hw _ _ _ hG hS (lv_sub hl [6, 7, 5, 4, 3, 2, 1, 0] rfl)
            · have hw := hw.2 hc
              refine lv_aload_n hx hb kb_En_solve_53 rfl (lv_at hl 1 rfl) ?_
              refine lv_aload_n hx hb kb_En_solve_54 rfl (lv_at hl 0 rfl) ?_
              obtain ⟨hy, hw⟩ := hw
              refine zr_ci (va_runV (C := kR_En) (As := [.ref r44]) (rest := []) ⟨hx, hb, hml, hown, hts⟩ (kc_En_holds l D dA Z a0 r44 σ8 _) ⟨callB_of 1 hts (z_gw kw_440) rfl rfl rfl (hts _ (List.mem_cons_of_mem _ kw_5)) (hts _ (List.mem_cons_of_mem _ kw_438)) (by decide +kernel) ⟨by show kr_En_holds.frames + 1 ≤ (kr_En_solve (d + 1)).frames; simp only [kr_En_holds, kr_En_solve]; omega, by show 8 + (4 + 11) + kr_En_holds.locals ≤ (kr_En_solve (d + 1)).locals; simp only [kr_En_holds, kr_En_solve]; omega⟩, (hts _ (List.mem_cons_of_mem _ kw_439)), (hts _ (List.mem_cons_of_mem _ kw_939))⟩ (z_preV z_nwN (Nat.le_trans hZ hS.1) hG hK hN hy (ci := 1) (r := (kR_En, kT_En, 12)) rfl hw) rfl rfl hl.1 rfl (lv_room (Nat.le_of_ble_eq_true rfl)) kb_En_solve_55 ⟨Nat.le_of_ble_eq_true rfl, Nat.le_of_ble_eq_true rfl⟩) hS (fun r55 σ55 H locs hw hG hS => ?_)
              refine lv_if_eq (tgt := 68) hx hb kb_En_solve_58 (by decide) (fun hc => ?_) (fun hc => ?_)
              · have hw := hw.1 hc
                exact zr_vret z_nwN hx hb hr hZ hK hN hG hS hw kb_En_solve_68 hlocks
              · have hw := hw.2 hc
                refine lv_aload_n hx hb kb_En_solve_61 rfl (lv_at hl 1 rfl) ?_
                refine lv_iload_n hx hb kb_En_solve_62 rfl (lv_at hl 2 rfl) ?_
                refine lv_iconst (v := (1 : Int32)) hx hb kb_En_solve_63 (by decide) ?_
                refine lv_iadd hx hb kb_En_solve_64 ?_
                obtain ⟨hy, hw⟩ := hw
                refine zr_cv (va_runV (C := kR_En) (As := [.int (x1 + ((1 : Int32)))]) (rest := []) ⟨hx, hb, hml, hown, hts⟩ (ih a0 (x1 + ((1 : Int32))) σ55 _) ⟨callB_of 1 hts (z_gw kw_401) rfl rfl rfl (hts _ (List.mem_cons_of_mem _ kw_5)) (hts _ (List.mem_cons_of_mem _ kw_399)) (by decide +kernel) ⟨by show (kr_En_solve d).frames + 1 ≤ (kr_En_solve (d + 1)).frames; simp only [kr_En_solve, kr_En_solve]; omega, by show 8 + (8 + 11) + (kr_En_solve d).locals ≤ (kr_En_solve (d + 1)).locals; simp only [kr_En_solve, kr_En_solve]; omega⟩, (hts _ (List.mem_cons_of_mem _ kw_400)), (hts _ (List.mem_cons_of_mem _ kw_931))⟩ (z_preV z_nwN (Nat.le_trans hZ hS.1) hG hK hN hy (ci := 1) (r := (kR_En, kT_En, 12)) rfl hw) rfl rfl hl.1 rfl (lv_room (Nat.le_of_ble_eq_true rfl)) kb_En_solve_65 ⟨Nat.le_of_ble_eq_true rfl, Nat.le_of_ble_eq_true rfl⟩) hS (fun σ65 H locs hw hG hS => ?_)
                exact zr_vret z_nwN hx hb hr hZ hK hN hG hS hw kb_En_solve_68 hlocks
          · have hw := hw.2 hc
            exact hw _ _ _ hG hS (lv_sub hl [0] rfl)
      · have hw := hw.2 hc
        exact zr_vret z_nwN hx hb hr hZ hK hN hG hS hw kb_En_solve_14 hlocks
def kp_En_closeCounts (a0 : Nat) (σ : z_S) (Post : z_S → Prop) : Prop := ∀ (X18 : Nat → Int32 → z_S → Prop),
    (∀ (v1 : Nat) (v2 : Int32) (σ : z_S), (z_ty σ v1 = some (.inl 4) ∧ (((z_I σ 402 v1) ≤ v2 → Post σ) ∧ (¬ (z_I σ 402 v1) ≤ v2 → z_ty σ a0 = some (.inl 1) ∧ ((¬ ((z_I σ 108 a0)) = 0 → Post σ) ∧ (((z_I σ 108 a0)) = 0 → z_ty σ v1 = some (.inl 4) ∧ ∃ r34, z_R σ 400 v1 = some r34 ∧ (∃ n39 s39, z_ty σ r34 = some (.inr (0, n39, s39)) ∧ vp_in v2 n39 ∧ (z_ty σ v1 = some (.inl 4) ∧ ∃ r41, z_R σ 401 v1 = some r41 ∧ (∃ n45 s45, z_ty σ r41 = some (.inr (0, n45, s45)) ∧ vp_in v2 n45 ∧ (z_ty σ a0 = some (.inl 1) ∧ ∃ r47, z_R σ 110 a0 = some r47 ∧ (z_ty σ r47 = some (.inl 5) ∧ ∃ r50, z_R σ 500 r47 = some r50 ∧ (z_ty σ r50 = some (.inl 0) ∧ (kp_Vr_weight ((z_I σ 1 r50) - ((1 : Int32))) σ (fun (r58 : Int32) (σ58 : z_S) => ∃ n63 s63, z_ty σ58 r34 = some (.inr (0, n63, s63)) ∧ vp_in v2 n63 ∧ ∀ σ63, σ63 = z_sA σ58 s63 r34 (upd (z_A σ58 s63 r34) v2.toNatClampNeg ((z_A σ s39 r34 v2.toNatClampNeg) + ((z_A σ s45 r41 v2.toNatClampNeg) * r58))) → z_ty σ63 v1 = some (.inl 4) ∧ ∃ r65, z_R σ63 401 v1 = some r65 ∧ (∃ n70 s70, z_ty σ63 r65 = some (.inr (0, n70, s70)) ∧ vp_in v2 n70 ∧ ∀ σ70, σ70 = z_sA σ63 s70 r65 (upd (z_A σ63 s70 r65) v2.toNatClampNeg ((1 : Int32))) → z_ty σ70 a0 = some (.inl 1) ∧ ∃ r73, z_R σ70 110 a0 = some r73 ∧ (z_ty σ70 r73 = some (.inl 5) ∧ ∃ r76, z_R σ70 500 r73 = some r76 ∧ (z_ty σ70 r76 = some (.inl 0) ∧ (z_ty σ70 v1 = some (.inl 4) ∧ ∃ r83, z_R σ70 400 v1 = some r83 ∧ (∃ n87 s87, z_ty σ70 r83 = some (.inr (0, n87, s87)) ∧ vp_in v2 n87 ∧ (z_ty σ70 a0 = some (.inl 1) ∧ kp_En_enqueue a0 (z_I σ70 3 r76) (z_A σ70 s87 r83 v2.toNatClampNeg) σ70 (fun (σ88 : z_S) => X18 v1 (v2 + (1 : Int32)) σ88)))))))))))))))))))) → X18 v1 v2 σ) →
    (z_ty σ a0 = some (.inl 1) ∧ ∃ r1, z_R σ 111 a0 = some r1 ∧ (z_ty σ a0 = some (.inl 1) ∧ ∃ r5, z_R σ 110 a0 = some r5 ∧ (z_ty σ r5 = some (.inl 5) ∧ ∃ r8, z_R σ 500 r5 = some r8 ∧ (z_ty σ r8 = some (.inl 0) ∧ (∃ n14 s14, z_ty σ r1 = some (.inr (9, n14, s14)) ∧ vp_in (z_I σ 3 r8) n14 ∧ ∃ r14, z_Q σ s14 r1 (z_I σ 3 r8).toNatClampNeg = some r14 ∧ (X18 r14 ((0 : Int32)) σ))))))
set_option maxHeartbeats 4000000 in
set_option maxRecDepth 100000 in
theorem kc_En_closeCounts (l : Launch) (D : va_G) (dA : Nat → ClassId) (Z : Nat) (a0 : Nat) (σ : z_S) (Post : z_S → Prop) : Met l km_En_closeCounts ks_En_closeCounts kr_En_closeCounts (va_Pc [.ref a0] (fun U => z_U D z_cl z_KT dA Z (z_tys dA) z_nw σ U ∧ kp_En_closeCounts  a0 σ Post)) (z_Qv D z_cl z_KT dA Z (z_tys dA) z_nw Post) 0 0 (fun q => Z ≤ q) := by
  refine Met.ofW (cc := prog_3_method_14_code) (maxL := 3) (ret := none) (by decide) rfl ?_
  intro p e s m args below meth c s₁ B hml hv
  obtain ⟨rfl, ⟨hZ, hG, hK, hN⟩, hw⟩ := hv
  have hx := B.exec
  have hb := B.bytes
  have hr := B.returns
  have hts := atoms_spec (ws := ks_En_closeCounts) B.pre
  have hown : s.vm.findClass kR_En = some m.cls := findClass_of_methodNamed B.named
  have hlocks := B.notSynchronized
  have hS : va_S (fun q => Z ≤ q) s.heap s.heap [] := va_S.rf
  have hl := lv_entry ([.ref a0]) (n := 3) (Nat.le_of_ble_eq_true rfl)
  rw [lg_entry_eq]
  generalize (lg_sl ([.ref a0]) ++ List.replicate (3 - (lg_sl ([.ref a0])).length) Slot.unset).toArray = ls at hl ⊢
  have hl : lv_has ls 3 [(0, .ref a0)] := hl
  unfold kp_En_closeCounts at hw
  have hw := hw (fun (v1 : Nat) (v2 : Int32) (σ : z_S) => ∀ (H : Heap) (locs : List Loc) (ls : Array Slot), z_G D z_cl z_KT dA Z σ H → va_S (fun q => Z ≤ q) s.heap H locs → lv_has ls 3 [(0, .ref a0), (1, .ref v1), (2, .int v2)] → W p l e (headSpec ks_En_closeCounts kr_En_closeCounts).room s m ([.ref a0] : List Value).toArray below meth c H locs 0 0 (MQ below (z_Qv D z_cl z_KT dA Z (z_tys dA) z_nw Post) ([.ref a0] : List Value).toArray s 0 0 (fun q => Z ≤ q)) (F0 m 18 ls []))
  have hw := hw (by
    intro v1 v2 σ hw H locs ls hG hS hl
    refine lv_iload_n hx hb kb_En_closeCounts_18 rfl (lv_at hl 2 rfl) ?_
    refine lv_aload_n hx hb kb_En_closeCounts_19 rfl (lv_at hl 1 rfl) ?_
    obtain ⟨hy, hw⟩ := hw
    refine zr_getI (ci := 4) (f := 402) hx hb hts ki_Ro hown hK hG hy rfl 2 (by decide) (hts _ (List.mem_cons_of_mem _ kw_190)) (fun _ h => h) rfl rfl kb_En_closeCounts_20 ?_
    refine lv_icmp_ge (tgt := 97) hx hb kb_En_closeCounts_23 (by decide) (fun hc => ?_) (fun hc => ?_)
    · have hw := hw.1 hc
      exact zr_vret z_nwN hx hb hr hZ hK hN hG hS hw kb_En_closeCounts_97 hlocks
    · have hw := hw.2 hc
      refine lv_aload_n hx hb kb_En_closeCounts_26 rfl (lv_at hl 0 rfl) ?_
      obtain ⟨hy, hw⟩ := hw
      refine zr_getI (ci := 1) (f := 108) hx hb hts ki_En hown hK hG hy rfl 8 (by decide) (hts _ (List.mem_cons_of_mem _ kw_163)) (fun _ h => h) rfl rfl kb_En_closeCounts_27 ?_
      refine lv_if_ne (tgt := 97) hx hb kb_En_closeCounts_30 (by decide) (fun hc => ?_) (fun hc => ?_)
      · have hw := hw.1 hc
        exact zr_vret z_nwN hx hb hr hZ hK hN hG hS hw kb_En_closeCounts_97 hlocks
      · have hw := hw.2 hc
        refine lv_aload_n hx hb kb_En_closeCounts_33 rfl (lv_at hl 1 rfl) ?_
        obtain ⟨hy, r34, hrf, hw⟩ := hw
        refine zr_getR (ci := 4) (f := 400) hx hb hts ki_Ro hown hK hG hy rfl 0 (by decide) (hts _ (List.mem_cons_of_mem _ kw_184)) (fun _ h => h) rfl rfl hrf kb_En_closeCounts_34 ?_
        refine lv_iload_n hx hb kb_En_closeCounts_37 rfl (lv_at hl 2 rfl) ?_
        refine lv_dup2_11 hx hb kb_En_closeCounts_38 rfl rfl ?_
        obtain ⟨n39, s39, hy, hi, hw⟩ := hw
        refine zr_iald hx hb hK hG 0 hy rfl hi kb_En_closeCounts_39 ?_
        refine lv_aload_n hx hb kb_En_closeCounts_40 rfl (lv_at hl 1 rfl) ?_
        obtain ⟨hy, r41, hrf, hw⟩ := hw
        refine zr_getR (ci := 4) (f := 401) hx hb hts ki_Ro hown hK hG hy rfl 1 (by decide) (hts _ (List.mem_cons_of_mem _ kw_187)) (fun _ h => h) rfl rfl hrf kb_En_closeCounts_41 ?_
        refine lv_iload_n hx hb kb_En_closeCounts_44 rfl (lv_at hl 2 rfl) ?_
        obtain ⟨n45, s45, hy, hi, hw⟩ := hw
        refine zr_iald hx hb hK hG 0 hy rfl hi kb_En_closeCounts_45 ?_
        refine lv_aload_n hx hb kb_En_closeCounts_46 rfl (lv_at hl 0 rfl) ?_
        obtain ⟨hy, r47, hrf, hw⟩ := hw
        refine zr_getR (ci := 1) (f := 110) hx hb hts ki_En hown hK hG hy rfl 10 (by decide) (hts _ (List.mem_cons_of_mem _ kw_165)) (fun _ h => h) rfl rfl hrf kb_En_closeCounts_47 ?_
        obtain ⟨hy, r50, hrf, hw⟩ := hw
        refine zr_getR (ci := 5) (f := 500) hx hb hts ki_Ru hown hK hG hy rfl 0 (by decide) (hts _ (List.mem_cons_of_mem _ kw_128)) (fun _ h => h) rfl rfl hrf kb_En_closeCounts_50 ?_
        obtain ⟨hy, hw⟩ := hw
        refine zr_getI (ci := 0) (f := 1) hx hb hts ki_At hown hK hG hy rfl 1 (by decide) (hts _ (List.mem_cons_of_mem _ kw_107)) (fun _ h => h) rfl rfl kb_En_closeCounts_53 ?_
        refine lv_iconst (v := (1 : Int32)) hx hb kb_En_closeCounts_56 (by decide) ?_
        refine lv_isub hx hb kb_En_closeCounts_57 ?_
        refine zr_ci (va_runSN (As := [.int ((z_I σ 1 r50) - ((1 : Int32)))]) (rest := [.int (z_A σ s45 r41 v2.toNatClampNeg), .int (z_A σ s39 r34 v2.toNatClampNeg), .int v2, .ref r34]) ⟨hx, hb, hml, hown, hts⟩ (kc_Vr_weight l D dA Z ((z_I σ 1 r50) - ((1 : Int32))) σ _) ⟨va_cnB 1 hts (z_gw kw_412) rfl rfl rfl (hN _ kq_11) (hts _ (List.mem_cons_of_mem _ kw_1)) (by decide +kernel) ⟨Nat.le_of_ble_eq_true rfl, Nat.le_of_ble_eq_true rfl⟩, (hts _ (List.mem_cons_of_mem _ kw_411)), trivial⟩ (z_preS z_nwN (Nat.le_trans hZ hS.1) hG hK hN hw) rfl rfl hl.1 rfl (lv_room (Nat.le_of_ble_eq_true rfl)) kb_En_closeCounts_58 ⟨Nat.le_of_ble_eq_true rfl, Nat.le_of_ble_eq_true rfl⟩) hS (fun r58 σ58 H locs hw hG hS => ?_)
        refine lv_imul hx hb kb_En_closeCounts_61 ?_
        refine lv_iadd hx hb kb_En_closeCounts_62 ?_
        obtain ⟨n63, s63, hy, hi, hw⟩ := hw
        refine zr_iast hx hb hK hG hS 0 hy rfl hi kb_En_closeCounts_63 (fun H locs hG hS => ?_)
        obtain ⟨σ63, e63⟩ : ∃ z, z = z_sA σ58 s63 r34 (upd (z_A σ58 s63 r34) v2.toNatClampNeg ((z_A σ s39 r34 v2.toNatClampNeg) + ((z_A σ s45 r41 v2.toNatClampNeg) * r58))) := ⟨_, rfl⟩
        rw [← e63] at hG
        have hw := hw _ e63
        refine lv_aload_n hx hb kb_En_closeCounts_64 rfl (lv_at hl 1 rfl) ?_
        obtain ⟨hy, r65, hrf, hw⟩ := hw
        refine zr_getR (ci := 4) (f := 401) hx hb hts ki_Ro hown hK hG hy rfl 1 (by decide) (hts _ (List.mem_cons_of_mem _ kw_187)) (fun _ h => h) rfl rfl hrf kb_En_closeCounts_65 ?_
        refine lv_iload_n hx hb kb_En_closeCounts_68 rfl (lv_at hl 2 rfl) ?_
        refine lv_iconst (v := (1 : Int32)) hx hb kb_En_closeCounts_69 (by decide) ?_
        obtain ⟨n70, s70, hy, hi, hw⟩ := hw
        refine zr_iast hx hb hK hG hS 0 hy rfl hi kb_En_closeCounts_70 (fun H locs hG hS => ?_)
        obtain ⟨σ70, e70⟩ : ∃ z, z = z_sA σ63 s70 r65 (upd (z_A σ63 s70 r65) v2.toNatClampNeg ((1 : Int32))) := ⟨_, rfl⟩
        rw [← e70] at hG
        have hw := hw _ e70
        refine lv_aload_n hx hb kb_En_closeCounts_71 rfl (lv_at hl 0 rfl) ?_
        refine lv_aload_n hx hb kb_En_closeCounts_72 rfl (lv_at hl 0 rfl) ?_
        obtain ⟨hy, r73, hrf, hw⟩ := hw
        refine zr_getR (ci := 1) (f := 110) hx hb hts ki_En hown hK hG hy rfl 10 (by decide) (hts _ (List.mem_cons_of_mem _ kw_165)) (fun _ h => h) rfl rfl hrf kb_En_closeCounts_73 ?_
        obtain ⟨hy, r76, hrf, hw⟩ := hw
        refine zr_getR (ci := 5) (f := 500) hx hb hts ki_Ru hown hK hG hy rfl 0 (by decide) (hts _ (List.mem_cons_of_mem _ kw_128)) (fun _ h => h) rfl rfl hrf kb_En_closeCounts_76 ?_
        obtain ⟨hy, hw⟩ := hw
        refine zr_getI (ci := 0) (f := 3) hx hb hts ki_At hown hK hG hy rfl 3 (by decide) (hts _ (List.mem_cons_of_mem _ kw_112)) (fun _ h => h) rfl rfl kb_En_closeCounts_79 ?_
        refine lv_aload_n hx hb kb_En_closeCounts_82 rfl (lv_at hl 1 rfl) ?_
        obtain ⟨hy, r83, hrf, hw⟩ := hw
        refine zr_getR (ci := 4) (f := 400) hx hb hts ki_Ro hown hK hG hy rfl 0 (by decide) (hts _ (List.mem_cons_of_mem _ kw_184)) (fun _ h => h) rfl rfl hrf kb_En_closeCounts_83 ?_
        refine lv_iload_n hx hb kb_En_closeCounts_86 rfl (lv_at hl 2 rfl) ?_
        obtain ⟨n87, s87, hy, hi, hw⟩ := hw
        refine zr_iald hx hb hK hG 0 hy rfl hi kb_En_closeCounts_87 ?_
        obtain ⟨hy, hw⟩ := hw
        refine zr_cv (va_runV (C := kR_En) (As := [.int (z_I σ70 3 r76), .int (z_A σ70 s87 r83 v2.toNatClampNeg)]) (rest := []) ⟨hx, hb, hml, hown, hts⟩ (kc_En_enqueue l D dA Z a0 (z_I σ70 3 r76) (z_A σ70 s87 r83 v2.toNatClampNeg) σ70 _) ⟨callB_of 2 hts (z_gw kw_431) rfl rfl rfl (hts _ (List.mem_cons_of_mem _ kw_5)) (hts _ (List.mem_cons_of_mem _ kw_429)) (by decide +kernel) ⟨Nat.le_of_ble_eq_true rfl, Nat.le_of_ble_eq_true rfl⟩, (hts _ (List.mem_cons_of_mem _ kw_430)), (hts _ (List.mem_cons_of_mem _ kw_936))⟩ (z_preV z_nwN (Nat.le_trans hZ hS.1) hG hK hN hy (ci := 1) (r := (kR_En, kT_En, 12)) rfl hw) rfl rfl hl.1 rfl (lv_room (Nat.le_of_ble_eq_true rfl)) kb_En_closeCounts_88 ⟨Nat.le_of_ble_eq_true rfl, Nat.le_of_ble_eq_true rfl⟩) hS (fun σ88 H locs hw hG hS => ?_)
        refine lv_iinc (v := v2 + (1 : Int32)) (lv' := [(2, .int (v2 + (1 : Int32))), (0, .ref a0), (1, .ref v1)]) hx hb kb_En_closeCounts_91 hl (k := 2) rfl rfl (by decide) rfl (fun ls hl => ?_)
        refine lv_goto (tgt := 18) hx hb kb_En_closeCounts_94 (by decide) ?_
        exact hw _ _ _ hG hS (lv_sub hl [1, 2, 0] rfl))
  refine lv_aload_n hx hb kb_En_closeCounts_0 rfl (lv_at hl 0 rfl) ?_
  obtain ⟨hy, r1, hrf, hw⟩ := hw
  refine zr_getR (ci := 1) (f := 111) hx hb hts ki_En hown hK hG hy rfl 11 (by decide) (hts _ (List.mem_cons_of_mem _ kw_166)) (fun _ h => h) rfl rfl hrf kb_En_closeCounts_1 ?_
  refine lv_aload_n hx hb kb_En_closeCounts_4 rfl (lv_at hl 0 rfl) ?_
  obtain ⟨hy, r5, hrf, hw⟩ := hw
  refine zr_getR (ci := 1) (f := 110) hx hb hts ki_En hown hK hG hy rfl 10 (by decide) (hts _ (List.mem_cons_of_mem _ kw_165)) (fun _ h => h) rfl rfl hrf kb_En_closeCounts_5 ?_
  obtain ⟨hy, r8, hrf, hw⟩ := hw
  refine zr_getR (ci := 5) (f := 500) hx hb hts ki_Ru hown hK hG hy rfl 0 (by decide) (hts _ (List.mem_cons_of_mem _ kw_128)) (fun _ h => h) rfl rfl hrf kb_En_closeCounts_8 ?_
  obtain ⟨hy, hw⟩ := hw
  refine zr_getI (ci := 0) (f := 3) hx hb hts ki_At hown hK hG hy rfl 3 (by decide) (hts _ (List.mem_cons_of_mem _ kw_112)) (fun _ h => h) rfl rfl kb_En_closeCounts_11 ?_
  obtain ⟨n14, s14, hy, hi, r14, hrf, hw⟩ := hw
  refine zr_aald hx hb hK hG 4 (by decide) hy rfl hi hrf kb_En_closeCounts_14 ?_
  refine lv_astore_n (lv' := [(1, .ref r14), (0, .ref a0)]) hx hb kb_En_closeCounts_15 rfl hl (by decide) rfl (fun ls hl => ?_)
  refine lv_iconst (v := (0 : Int32)) hx hb kb_En_closeCounts_16 (by decide) ?_
  refine lv_istore_n (lv' := [(2, .int ((0 : Int32))), (1, .ref r14), (0, .ref a0)]) hx hb kb_En_closeCounts_17 rfl hl (by decide) rfl (fun ls hl => ?_)
  exact hw _ _ _ hG hS (lv_sub hl [2, 1, 0] rfl)
def kp_En_seed (a0 : Nat) (x1 : Int32) (σ : z_S) (Post : z_S → Prop) : Prop := ∀ (X2 : Int32 → z_S → Prop),
    (∀ (v2 : Int32) (σ : z_S), (z_ty σ a0 = some (.inl 1) ∧ ∃ r4, z_R σ 109 a0 = some r4 ∧ (z_ty σ r4 = some (.inl 2) ∧ (((z_I σ 201 r4) ≤ v2 → Post σ) ∧ (¬ (z_I σ 201 r4) ≤ v2 → z_ty σ a0 = some (.inl 1) ∧ ((¬ ((z_I σ 108 a0)) = 0 → Post σ) ∧ (((z_I σ 108 a0)) = 0 → z_ty σ a0 = some (.inl 1) ∧ ∃ r22, z_R σ 109 a0 = some r22 ∧ (z_ty σ r22 = some (.inl 2) ∧ ∃ r25, z_R σ 200 r22 = some r25 ∧ (∃ n29 s29, z_ty σ r25 = some (.inr (8, n29, s29)) ∧ vp_in v2 n29 ∧ ∃ r29, z_Q σ s29 r25 v2.toNatClampNeg = some r29 ∧ (z_ty σ a0 = some (.inl 1) ∧ ∀ σ30, σ30 = z_sR σ 110 a0 (some r29) → z_ty σ30 a0 = some (.inl 1) ∧ ∃ r34, z_R σ30 109 a0 = some r34 ∧ (z_ty σ30 r34 = some (.inl 2) ∧ ∃ r37, z_R σ30 204 r34 = some r37 ∧ (z_ty σ30 a0 = some (.inl 1) ∧ ∃ r41, z_R σ30 110 a0 = some r41 ∧ (z_ty σ30 r41 = some (.inl 5) ∧ ∃ r44, z_R σ30 500 r41 = some r44 ∧ (z_ty σ30 r44 = some (.inl 0) ∧ (∃ n50 s50, z_ty σ30 r37 = some (.inr (0, n50, s50)) ∧ vp_in (z_I σ30 3 r44) n50 ∧ ((¬ (z_A σ30 s50 r37 (z_I σ30 3 r44).toNatClampNeg) = x1 → X2 (v2 + (1 : Int32)) σ30) ∧ ((z_A σ30 s50 r37 (z_I σ30 3 r44).toNatClampNeg) = x1 → z_ty σ30 a0 = some (.inl 1) ∧ kp_En_usesLayer a0 x1 σ30 (fun (r57 : Int32) (σ57 : z_S) => (¬ r57 = 0 → X2 (v2 + (1 : Int32)) σ57) ∧ (r57 = 0 → z_ty σ57 a0 = some (.inl 1) ∧ ∀ σ65, σ65 = z_sI σ57 105 a0 ((0 : Int32)) → z_ty σ65 a0 = some (.inl 1) ∧ kp_En_solve 8 a0 ((0 : Int32)) σ65 (fun (σ70 : z_S) => z_ty σ70 a0 = some (.inl 1) ∧ ∃ r74, z_R σ70 110 a0 = some r74 ∧ (z_ty σ70 r74 = some (.inl 5) ∧ ((((z_I σ70 504 r74)) = 0 → X2 (v2 + (1 : Int32)) σ70) ∧ (¬ ((z_I σ70 504 r74)) = 0 → z_ty σ70 a0 = some (.inl 1) ∧ kp_En_closeCounts a0 σ70 (fun (σ84 : z_S) => X2 (v2 + (1 : Int32)) σ84))))))))))))))))))))))) → X2 v2 σ) →
    (X2 ((0 : Int32)) σ)
set_option maxHeartbeats 4000000 in
set_option maxRecDepth 100000 in
theorem kc_En_seed (l : Launch) (D : va_G) (dA : Nat → ClassId) (Z : Nat) (a0 : Nat) (x1 : Int32) (σ : z_S) (Post : z_S → Prop) : Met l km_En_seed ks_En_seed kr_En_seed (va_Pc [.ref a0, .int x1] (fun U => z_U D z_cl z_KT dA Z (z_tys dA) z_nw σ U ∧ kp_En_seed  a0 x1 σ Post)) (z_Qv D z_cl z_KT dA Z (z_tys dA) z_nw Post) 0 0 (fun q => Z ≤ q) := by
  refine Met.ofW (cc := prog_3_method_7_code) (maxL := 3) (ret := none) (by decide) rfl ?_
  intro p e s m args below meth c s₁ B hml hv
  obtain ⟨rfl, ⟨hZ, hG, hK, hN⟩, hw⟩ := hv
  have hx := B.exec
  have hb := B.bytes
  have hr := B.returns
  have hts := atoms_spec (ws := ks_En_seed) B.pre
  have hown : s.vm.findClass kR_En = some m.cls := findClass_of_methodNamed B.named
  have hlocks := B.notSynchronized
  have hS : va_S (fun q => Z ≤ q) s.heap s.heap [] := va_S.rf
  have hl := lv_entry ([.ref a0, .int x1]) (n := 3) (Nat.le_of_ble_eq_true rfl)
  rw [lg_entry_eq]
  generalize (lg_sl ([.ref a0, .int x1]) ++ List.replicate (3 - (lg_sl ([.ref a0, .int x1])).length) Slot.unset).toArray = ls at hl ⊢
  have hl : lv_has ls 3 [(0, .ref a0), (1, .int x1)] := hl
  unfold kp_En_seed at hw
  have hw := hw (fun (v2 : Int32) (σ : z_S) => ∀ (H : Heap) (locs : List Loc) (ls : Array Slot), z_G D z_cl z_KT dA Z σ H → va_S (fun q => Z ≤ q) s.heap H locs → lv_has ls 3 [(0, .ref a0), (1, .int x1), (2, .int v2)] → W p l e (headSpec ks_En_seed kr_En_seed).room s m ([.ref a0, .int x1] : List Value).toArray below meth c H locs 0 0 (MQ below (z_Qv D z_cl z_KT dA Z (z_tys dA) z_nw Post) ([.ref a0, .int x1] : List Value).toArray s 0 0 (fun q => Z ≤ q)) (F0 m 2 ls []))
  have hw := hw (by
    intro v2 σ hw H locs ls hG hS hl
    refine lv_iload_n hx hb kb_En_seed_2 rfl (lv_at hl 2 rfl) ?_
    refine lv_aload_n hx hb kb_En_seed_3 rfl (lv_at hl 0 rfl) ?_
    obtain ⟨hy, r4, hrf, hw⟩ := hw
    refine zr_getR (ci := 1) (f := 109) hx hb hts ki_En hown hK hG hy rfl 9 (by decide) (hts _ (List.mem_cons_of_mem _ kw_164)) (fun _ h => h) rfl rfl hrf kb_En_seed_4 ?_
    obtain ⟨hy, hw⟩ := hw
    refine zr_getI (ci := 2) (f := 201) hx hb hts ki_Pr hown hK hG hy rfl 1 (by decide) (hts _ (List.mem_cons_of_mem _ kw_28)) (fun _ h => h) rfl rfl kb_En_seed_7 ?_
    refine lv_icmp_ge (tgt := 93) hx hb kb_En_seed_10 (by decide) (fun hc => ?_) (fun hc => ?_)
    · have hw := hw.1 hc
      exact zr_vret z_nwN hx hb hr hZ hK hN hG hS hw kb_En_seed_93 hlocks
    · have hw := hw.2 hc
      refine lv_aload_n hx hb kb_En_seed_13 rfl (lv_at hl 0 rfl) ?_
      obtain ⟨hy, hw⟩ := hw
      refine zr_getI (ci := 1) (f := 108) hx hb hts ki_En hown hK hG hy rfl 8 (by decide) (hts _ (List.mem_cons_of_mem _ kw_163)) (fun _ h => h) rfl rfl kb_En_seed_14 ?_
      refine lv_if_ne (tgt := 93) hx hb kb_En_seed_17 (by decide) (fun hc => ?_) (fun hc => ?_)
      · have hw := hw.1 hc
        exact zr_vret z_nwN hx hb hr hZ hK hN hG hS hw kb_En_seed_93 hlocks
      · have hw := hw.2 hc
        refine lv_aload_n hx hb kb_En_seed_20 rfl (lv_at hl 0 rfl) ?_
        refine lv_aload_n hx hb kb_En_seed_21 rfl (lv_at hl 0 rfl) ?_
        obtain ⟨hy, r22, hrf, hw⟩ := hw
        refine zr_getR (ci := 1) (f := 109) hx hb hts ki_En hown hK hG hy rfl 9 (by decide) (hts _ (List.mem_cons_of_mem _ kw_164)) (fun _ h => h) rfl rfl hrf kb_En_seed_22 ?_
        obtain ⟨hy, r25, hrf, hw⟩ := hw
        refine zr_getR (ci := 2) (f := 200) hx hb hts ki_Pr hown hK hG hy rfl 0 (by decide) (hts _ (List.mem_cons_of_mem _ kw_26)) (fun _ h => h) rfl rfl hrf kb_En_seed_25 ?_
        refine lv_iload_n hx hb kb_En_seed_28 rfl (lv_at hl 2 rfl) ?_
        obtain ⟨n29, s29, hy, hi, r29, hrf, hw⟩ := hw
        refine zr_aald hx hb hK hG 3 (by decide) hy rfl hi hrf kb_En_seed_29 ?_
        obtain ⟨hy, hw⟩ := hw
        refine zr_putR (ci := 1) (f := 110) hx hb hts ki_En ky_En kyo_En kn_En hown hK hG hS hy rfl 10 (by decide) (hts _ (List.mem_cons_of_mem _ kw_165)) (fun _ h => h) rfl rfl rfl rfl rfl kb_En_seed_30 (fun H locs hG hS => ?_)
        obtain ⟨σ30, e30⟩ : ∃ z, z = z_sR σ 110 a0 (some r29) := ⟨_, rfl⟩
        rw [← e30] at hG
        have hw := hw _ e30
        refine lv_aload_n hx hb kb_En_seed_33 rfl (lv_at hl 0 rfl) ?_
        obtain ⟨hy, r34, hrf, hw⟩ := hw
        refine zr_getR (ci := 1) (f := 109) hx hb hts ki_En hown hK hG hy rfl 9 (by decide) (hts _ (List.mem_cons_of_mem _ kw_164)) (fun _ h => h) rfl rfl hrf kb_En_seed_34 ?_
        obtain ⟨hy, r37, hrf, hw⟩ := hw
        refine zr_getR (ci := 2) (f := 204) hx hb hts ki_Pr hown hK hG hy rfl 4 (by decide) (hts _ (List.mem_cons_of_mem _ kw_38)) (fun _ h => h) rfl rfl hrf kb_En_seed_37 ?_
        refine lv_aload_n hx hb kb_En_seed_40 rfl (lv_at hl 0 rfl) ?_
        obtain ⟨hy, r41, hrf, hw⟩ := hw
        refine zr_getR (ci := 1) (f := 110) hx hb hts ki_En hown hK hG hy rfl 10 (by decide) (hts _ (List.mem_cons_of_mem _ kw_165)) (fun _ h => h) rfl rfl hrf kb_En_seed_41 ?_
        obtain ⟨hy, r44, hrf, hw⟩ := hw
        refine zr_getR (ci := 5) (f := 500) hx hb hts ki_Ru hown hK hG hy rfl 0 (by decide) (hts _ (List.mem_cons_of_mem _ kw_128)) (fun _ h => h) rfl rfl hrf kb_En_seed_44 ?_
        obtain ⟨hy, hw⟩ := hw
        refine zr_getI (ci := 0) (f := 3) hx hb hts ki_At hown hK hG hy rfl 3 (by decide) (hts _ (List.mem_cons_of_mem _ kw_112)) (fun _ h => h) rfl rfl kb_En_seed_47 ?_
        obtain ⟨n50, s50, hy, hi, hw⟩ := hw
        refine zr_iald hx hb hK hG 0 hy rfl hi kb_En_seed_50 ?_
        refine lv_iload_n hx hb kb_En_seed_51 rfl (lv_at hl 1 rfl) ?_
        refine lv_icmp_ne (tgt := 87) hx hb kb_En_seed_52 (by decide) (fun hc => ?_) (fun hc => ?_)
        · have hw := hw.1 hc
          refine lv_iinc (v := v2 + (1 : Int32)) (lv' := [(2, .int (v2 + (1 : Int32))), (0, .ref a0), (1, .int x1)]) hx hb kb_En_seed_87 hl (k := 2) rfl rfl (by decide) rfl (fun ls hl => ?_)
          refine lv_goto (tgt := 2) hx hb kb_En_seed_90 (by decide) ?_
          exact hw _ _ _ hG hS (lv_sub hl [1, 2, 0] rfl)
        · have hw := hw.2 hc
          refine lv_aload_n hx hb kb_En_seed_55 rfl (lv_at hl 0 rfl) ?_
          refine lv_iload_n hx hb kb_En_seed_56 rfl (lv_at hl 1 rfl) ?_
          obtain ⟨hy, hw⟩ := hw
          refine zr_ci (va_runV (C := kR_En) (As := [.int x1]) (rest := []) ⟨hx, hb, hml, hown, hts⟩ (kc_En_usesLayer l D dA Z a0 x1 σ30 _) ⟨callB_of 1 hts (z_gw kw_398) rfl rfl rfl (hts _ (List.mem_cons_of_mem _ kw_5)) (hts _ (List.mem_cons_of_mem _ kw_396)) (by decide +kernel) ⟨Nat.le_of_ble_eq_true rfl, Nat.le_of_ble_eq_true rfl⟩, (hts _ (List.mem_cons_of_mem _ kw_397)), (hts _ (List.mem_cons_of_mem _ kw_930))⟩ (z_preV z_nwN (Nat.le_trans hZ hS.1) hG hK hN hy (ci := 1) (r := (kR_En, kT_En, 12)) rfl hw) rfl rfl hl.1 rfl (lv_room (Nat.le_of_ble_eq_true rfl)) kb_En_seed_57 ⟨Nat.le_of_ble_eq_true rfl, Nat.le_of_ble_eq_true rfl⟩) hS (fun r57 σ57 H locs hw hG hS => ?_)
          refine lv_if_ne (tgt := 87) hx hb kb_En_seed_60 (by decide) (fun hc => ?_) (fun hc => ?_)
          · have hw := hw.1 hc
            refine lv_iinc (v := v2 + (1 : Int32)) (lv' := [(2, .int (v2 + (1 : Int32))), (0, .ref a0), (1, .int x1)]) hx hb kb_En_seed_87 hl (k := 2) rfl rfl (by decide) rfl (fun ls hl => ?_)
            refine lv_goto (tgt := 2) hx hb kb_En_seed_90 (by decide) ?_
            exact hw _ _ _ hG hS (lv_sub hl [1, 2, 0] rfl)
          · have hw := hw.2 hc
            refine lv_aload_n hx hb kb_En_seed_63 rfl (lv_at hl 0 rfl) ?_
            refine lv_iconst (v := (0 : Int32)) hx hb kb_En_seed_64 (by decide) ?_
            obtain ⟨hy, hw⟩ := hw
            refine zr_putI (ci := 1) (f := 105) hx hb hts ki_En ky_En kyo_En kn_En hown hK hG hS hy rfl 5 (by decide) (hts _ (List.mem_cons_of_mem _ kw_160)) (fun _ h => h) rfl rfl rfl rfl rfl kb_En_seed_65 (fun H locs hG hS => ?_)
            obtain ⟨σ65, e65⟩ : ∃ z, z = z_sI σ57 105 a0 ((0 : Int32)) := ⟨_, rfl⟩
            rw [← e65] at hG
            have hw := hw _ e65
            refine lv_aload_n hx hb kb_En_seed_68 rfl (lv_at hl 0 rfl) ?_
            refine lv_iconst (v := (0 : Int32)) hx hb kb_En_seed_69 (by decide) ?_
            obtain ⟨hy, hw⟩ := hw
            refine zr_cv (va_runV (C := kR_En) (As := [.int ((0 : Int32))]) (rest := []) ⟨hx, hb, hml, hown, hts⟩ (kc_En_solve l D dA Z 8 a0 ((0 : Int32)) σ65 _) ⟨callB_of 1 hts (z_gw kw_401) rfl rfl rfl (hts _ (List.mem_cons_of_mem _ kw_5)) (hts _ (List.mem_cons_of_mem _ kw_399)) (by decide +kernel) ⟨Nat.le_of_ble_eq_true rfl, Nat.le_of_ble_eq_true rfl⟩, (hts _ (List.mem_cons_of_mem _ kw_400)), (hts _ (List.mem_cons_of_mem _ kw_931))⟩ (z_preV z_nwN (Nat.le_trans hZ hS.1) hG hK hN hy (ci := 1) (r := (kR_En, kT_En, 12)) rfl hw) rfl rfl hl.1 rfl (lv_room (Nat.le_of_ble_eq_true rfl)) kb_En_seed_70 ⟨Nat.le_of_ble_eq_true rfl, Nat.le_of_ble_eq_true rfl⟩) hS (fun σ70 H locs hw hG hS => ?_)
            refine lv_aload_n hx hb kb_En_seed_73 rfl (lv_at hl 0 rfl) ?_
            obtain ⟨hy, r74, hrf, hw⟩ := hw
            refine zr_getR (ci := 1) (f := 110) hx hb hts ki_En hown hK hG hy rfl 10 (by decide) (hts _ (List.mem_cons_of_mem _ kw_165)) (fun _ h => h) rfl rfl hrf kb_En_seed_74 ?_
            obtain ⟨hy, hw⟩ := hw
            refine zr_getI (ci := 5) (f := 504) hx hb hts ki_Ru hown hK hG hy rfl 4 (by decide) (hts _ (List.mem_cons_of_mem _ kw_140)) (fun _ h => h) rfl rfl kb_En_seed_77 ?_
            refine lv_if_eq (tgt := 87) hx hb kb_En_seed_80 (by decide) (fun hc => ?_) (fun hc => ?_)
            · have hw := hw.1 hc
              refine lv_iinc (v := v2 + (1 : Int32)) (lv' := [(2, .int (v2 + (1 : Int32))), (0, .ref a0), (1, .int x1)]) hx hb kb_En_seed_87 hl (k := 2) rfl rfl (by decide) rfl (fun ls hl => ?_)
              refine lv_goto (tgt := 2) hx hb kb_En_seed_90 (by decide) ?_
              exact hw _ _ _ hG hS (lv_sub hl [1, 2, 0] rfl)
            · have hw := hw.2 hc
              refine lv_aload_n hx hb kb_En_seed_83 rfl (lv_at hl 0 rfl) ?_
              obtain ⟨hy, hw⟩ := hw
              refine zr_cv (va_runV (C := kR_En) (As := []) (rest := []) ⟨hx, hb, hml, hown, hts⟩ (kc_En_closeCounts l D dA Z a0 σ70 _) ⟨callB_of 0 hts (z_gw kw_453) rfl rfl rfl (hts _ (List.mem_cons_of_mem _ kw_5)) (hts _ (List.mem_cons_of_mem _ kw_451)) (by decide +kernel) ⟨Nat.le_of_ble_eq_true rfl, Nat.le_of_ble_eq_true rfl⟩, (hts _ (List.mem_cons_of_mem _ kw_452)), (hts _ (List.mem_cons_of_mem _ kw_942))⟩ (z_preV z_nwN (Nat.le_trans hZ hS.1) hG hK hN hy (ci := 1) (r := (kR_En, kT_En, 12)) rfl hw) rfl rfl hl.1 rfl (lv_room (Nat.le_of_ble_eq_true rfl)) kb_En_seed_84 ⟨Nat.le_of_ble_eq_true rfl, Nat.le_of_ble_eq_true rfl⟩) hS (fun σ84 H locs hw hG hS => ?_)
              refine lv_iinc (v := v2 + (1 : Int32)) (lv' := [(2, .int (v2 + (1 : Int32))), (0, .ref a0), (1, .int x1)]) hx hb kb_En_seed_87 hl (k := 2) rfl rfl (by decide) rfl (fun ls hl => ?_)
              refine lv_goto (tgt := 2) hx hb kb_En_seed_90 (by decide) ?_
              exact hw _ _ _ hG hS (lv_sub hl [1, 2, 0] rfl))
  refine lv_iconst (v := (0 : Int32)) hx hb kb_En_seed_0 (by decide) ?_
  refine lv_istore_n (lv' := [(2, .int ((0 : Int32))), (0, .ref a0), (1, .int x1)]) hx hb kb_En_seed_1 rfl hl (by decide) rfl (fun ls hl => ?_)
  exact hw _ _ _ hG hS (lv_sub hl [1, 2, 0] rfl)
def kp_En_spread (a0 : Nat) (x1 : Int32) (σ : z_S) (Post : z_S → Prop) : Prop := ∀ (X2 : Int32 → z_S → Prop) (X19 : Int32 → Int32 → z_S → Prop) (X46 : Int32 → Int32 → Int32 → z_S → Prop),
    (∀ (v2 : Int32) (σ : z_S), (z_ty σ a0 = some (.inl 1) ∧ (((z_I σ 104 a0) ≤ v2 → Post σ) ∧ (¬ (z_I σ 104 a0) ≤ v2 → (((320 : Int32)) ≤ v2 → Post σ) ∧ (¬ ((320 : Int32)) ≤ v2 → X19 v2 ((0 : Int32)) σ)))) → X2 v2 σ) →
    (∀ (v2 : Int32) (v3 : Int32) (σ : z_S), (z_ty σ a0 = some (.inl 1) ∧ ∃ r21, z_R σ 109 a0 = some r21 ∧ (z_ty σ r21 = some (.inl 2) ∧ (((z_I σ 201 r21) ≤ v3 → X2 (v2 + (1 : Int32)) σ) ∧ (¬ (z_I σ 201 r21) ≤ v3 → z_ty σ a0 = some (.inl 1) ∧ ∃ r32, z_R σ 109 a0 = some r32 ∧ (z_ty σ r32 = some (.inl 2) ∧ ∃ r35, z_R σ 200 r32 = some r35 ∧ (∃ n39 s39, z_ty σ r35 = some (.inr (8, n39, s39)) ∧ vp_in v3 n39 ∧ ∃ r39, z_Q σ s39 r35 v3.toNatClampNeg = some r39 ∧ (z_ty σ a0 = some (.inl 1) ∧ ∀ σ40, σ40 = z_sR σ 110 a0 (some r39) → X46 v2 v3 ((0 : Int32)) σ40))))))) → X19 v2 v3 σ) →
    (∀ (v2 : Int32) (v3 : Int32) (v4 : Int32) (σ : z_S), (z_ty σ a0 = some (.inl 1) ∧ ∃ r49, z_R σ 110 a0 = some r49 ∧ (z_ty σ r49 = some (.inl 5) ∧ (((z_I σ 502 r49) ≤ v4 → X19 v2 (v3 + (1 : Int32)) σ) ∧ (¬ (z_I σ 502 r49) ≤ v4 → z_ty σ a0 = some (.inl 1) ∧ ∃ r59, z_R σ 109 a0 = some r59 ∧ (z_ty σ r59 = some (.inl 2) ∧ ∃ r62, z_R σ 204 r59 = some r62 ∧ (z_ty σ a0 = some (.inl 1) ∧ ∃ r66, z_R σ 110 a0 = some r66 ∧ (z_ty σ r66 = some (.inl 5) ∧ ∃ r69, z_R σ 500 r66 = some r69 ∧ (z_ty σ r69 = some (.inl 0) ∧ (∃ n75 s75, z_ty σ r62 = some (.inr (0, n75, s75)) ∧ vp_in (z_I σ 3 r69) n75 ∧ ((¬ (z_A σ s75 r62 (z_I σ 3 r69).toNatClampNeg) = x1 → X19 v2 (v3 + (1 : Int32)) σ) ∧ ((z_A σ s75 r62 (z_I σ 3 r69).toNatClampNeg) = x1 → z_ty σ a0 = some (.inl 1) ∧ ((¬ ((z_I σ 108 a0)) = 0 → X19 v2 (v3 + (1 : Int32)) σ) ∧ (((z_I σ 108 a0)) = 0 → z_ty σ a0 = some (.inl 1) ∧ ∃ r88, z_R σ 110 a0 = some r88 ∧ (z_ty σ r88 = some (.inl 5) ∧ ∃ r91, z_R σ 501 r88 = some r91 ∧ (∃ n96 s96, z_ty σ r91 = some (.inr (11, n96, s96)) ∧ vp_in v4 n96 ∧ ∃ r96, z_Q σ s96 r91 v4.toNatClampNeg = some r96 ∧ (z_ty σ a0 = some (.inl 1) ∧ ∀ σ101, σ101 = z_sI σ 105 a0 ((0 : Int32)) → z_ty σ101 r96 = some (.inl 0) ∧ ((¬ ((z_I σ101 2 r96)) = 0 → X46 v2 v3 (v4 + (1 : Int32)) σ101) ∧ (((z_I σ101 2 r96)) = 0 → z_ty σ101 r96 = some (.inl 0) ∧ (z_ty σ101 a0 = some (.inl 1) ∧ ∃ r118, z_R σ101 102 a0 = some r118 ∧ (∃ n122 s122, z_ty σ101 r118 = some (.inr (0, n122, s122)) ∧ vp_in v2 n122 ∧ ((¬ (z_I σ101 3 r96) = (z_A σ101 s122 r118 v2.toNatClampNeg) → X46 v2 v3 (v4 + (1 : Int32)) σ101) ∧ ((z_I σ101 3 r96) = (z_A σ101 s122 r118 v2.toNatClampNeg) → z_ty σ101 a0 = some (.inl 1) ∧ ∃ r130, z_R σ101 103 a0 = some r130 ∧ (∃ n134 s134, z_ty σ101 r130 = some (.inr (0, n134, s134)) ∧ vp_in v2 n134 ∧ (z_ty σ101 a0 = some (.inl 1) ∧ kp_En_matches a0 r96 (z_A σ101 s134 r130 v2.toNatClampNeg) σ101 (fun (r135 : Int32) (σ135 : z_S) => (r135 = 0 → X46 v2 v3 (v4 + (1 : Int32)) σ135) ∧ (¬ r135 = 0 → z_ty σ135 a0 = some (.inl 1) ∧ kp_En_solve 8 a0 ((0 : Int32)) σ135 (fun (σ143 : z_S) => X46 v2 v3 (v4 + (1 : Int32)) σ143))))))))))))))))))))))))))) → X46 v2 v3 v4 σ) →
    (X2 ((0 : Int32)) σ)
set_option maxHeartbeats 4000000 in
set_option maxRecDepth 100000 in
theorem kc_En_spread (l : Launch) (D : va_G) (dA : Nat → ClassId) (Z : Nat) (a0 : Nat) (x1 : Int32) (σ : z_S) (Post : z_S → Prop) : Met l km_En_spread ks_En_spread kr_En_spread (va_Pc [.ref a0, .int x1] (fun U => z_U D z_cl z_KT dA Z (z_tys dA) z_nw σ U ∧ kp_En_spread  a0 x1 σ Post)) (z_Qv D z_cl z_KT dA Z (z_tys dA) z_nw Post) 0 0 (fun q => Z ≤ q) := by
  refine Met.ofW (cc := prog_3_method_9_code) (maxL := 6) (ret := none) (by decide) rfl ?_
  intro p e s m args below meth c s₁ B hml hv
  obtain ⟨rfl, ⟨hZ, hG, hK, hN⟩, hw⟩ := hv
  have hx := B.exec
  have hb := B.bytes
  have hr := B.returns
  have hts := atoms_spec (ws := ks_En_spread) B.pre
  have hown : s.vm.findClass kR_En = some m.cls := findClass_of_methodNamed B.named
  have hlocks := B.notSynchronized
  have hS : va_S (fun q => Z ≤ q) s.heap s.heap [] := va_S.rf
  have hl := lv_entry ([.ref a0, .int x1]) (n := 6) (Nat.le_of_ble_eq_true rfl)
  rw [lg_entry_eq]
  generalize (lg_sl ([.ref a0, .int x1]) ++ List.replicate (6 - (lg_sl ([.ref a0, .int x1])).length) Slot.unset).toArray = ls at hl ⊢
  have hl : lv_has ls 6 [(0, .ref a0), (1, .int x1)] := hl
  unfold kp_En_spread at hw
  have hw := hw (fun (v2 : Int32) (σ : z_S) => ∀ (H : Heap) (locs : List Loc) (ls : Array Slot), z_G D z_cl z_KT dA Z σ H → va_S (fun q => Z ≤ q) s.heap H locs → lv_has ls 6 [(0, .ref a0), (1, .int x1), (2, .int v2)] → W p l e (headSpec ks_En_spread kr_En_spread).room s m ([.ref a0, .int x1] : List Value).toArray below meth c H locs 0 0 (MQ below (z_Qv D z_cl z_KT dA Z (z_tys dA) z_nw Post) ([.ref a0, .int x1] : List Value).toArray s 0 0 (fun q => Z ≤ q)) (F0 m 2 ls []))
  have hw := hw (fun (v2 : Int32) (v3 : Int32) (σ : z_S) => ∀ (H : Heap) (locs : List Loc) (ls : Array Slot), z_G D z_cl z_KT dA Z σ H → va_S (fun q => Z ≤ q) s.heap H locs → lv_has ls 6 [(0, .ref a0), (1, .int x1), (2, .int v2), (3, .int v3)] → W p l e (headSpec ks_En_spread kr_En_spread).room s m ([.ref a0, .int x1] : List Value).toArray below meth c H locs 0 0 (MQ below (z_Qv D z_cl z_KT dA Z (z_tys dA) z_nw Post) ([.ref a0, .int x1] : List Value).toArray s 0 0 (fun q => Z ≤ q)) (F0 m 19 ls []))
  have hw := hw (fun (v2 : Int32) (v3 : Int32) (v4 : Int32) (σ : z_S) => ∀ (H : Heap) (locs : List Loc) (ls : Array Slot), z_G D z_cl z_KT dA Z σ H → va_S (fun q => Z ≤ q) s.heap H locs → lv_has ls 6 [(0, .ref a0), (1, .int x1), (2, .int v2), (3, .int v3), (4, .int v4)] → W p l e (headSpec ks_En_spread kr_En_spread).room s m ([.ref a0, .int x1] : List Value).toArray below meth c H locs 0 0 (MQ below (z_Qv D z_cl z_KT dA Z (z_tys dA) z_nw Post) ([.ref a0, .int x1] : List Value).toArray s 0 0 (fun q => Z ≤ q)) (F0 m 46 ls []))
  have hw := hw (by
    intro v2 σ hw H locs ls hG hS hl
    refine lv_iload_n hx hb kb_En_spread_2 rfl (lv_at hl 2 rfl) ?_
    refine lv_aload_n hx hb kb_En_spread_3 rfl (lv_at hl 0 rfl) ?_
    obtain ⟨hy, hw⟩ := hw
    refine zr_getI (ci := 1) (f := 104) hx hb hts ki_En hown hK hG hy rfl 4 (by decide) (hts _ (List.mem_cons_of_mem _ kw_159)) (fun _ h => h) rfl rfl kb_En_spread_4 ?_
    refine lv_icmp_ge (tgt := 164) hx hb kb_En_spread_7 (by decide) (fun hc => ?_) (fun hc => ?_)
    · have hw := hw.1 hc
      exact zr_vret z_nwN hx hb hr hZ hK hN hG hS hw kb_En_spread_164 hlocks
    · have hw := hw.2 hc
      refine lv_iload_n hx hb kb_En_spread_10 rfl (lv_at hl 2 rfl) ?_
      refine lv_sipush (v := (320 : Int32)) hx hb kb_En_spread_11 (by decide) ?_
      refine lv_icmp_ge (tgt := 164) hx hb kb_En_spread_14 (by decide) (fun hc => ?_) (fun hc => ?_)
      · have hw := hw.1 hc
        exact zr_vret z_nwN hx hb hr hZ hK hN hG hS hw kb_En_spread_164 hlocks
      · have hw := hw.2 hc
        refine lv_iconst (v := (0 : Int32)) hx hb kb_En_spread_17 (by decide) ?_
        refine lv_istore_n (lv' := [(3, .int ((0 : Int32))), (0, .ref a0), (1, .int x1), (2, .int v2)]) hx hb kb_En_spread_18 rfl hl (by decide) rfl (fun ls hl => ?_)
        exact hw _ _ _ hG hS (lv_sub hl [1, 2, 3, 0] rfl))
  have hw := hw (by
    intro v2 v3 σ hw H locs ls hG hS hl
    refine lv_iload_n hx hb kb_En_spread_19 rfl (lv_at hl 3 rfl) ?_
    refine lv_aload_n hx hb kb_En_spread_20 rfl (lv_at hl 0 rfl) ?_
    obtain ⟨hy, r21, hrf, hw⟩ := hw
    refine zr_getR (ci := 1) (f := 109) hx hb hts ki_En hown hK hG hy rfl 9 (by decide) (hts _ (List.mem_cons_of_mem _ kw_164)) (fun _ h => h) rfl rfl hrf kb_En_spread_21 ?_
    obtain ⟨hy, hw⟩ := hw
    refine zr_getI (ci := 2) (f := 201) hx hb hts ki_Pr hown hK hG hy rfl 1 (by decide) (hts _ (List.mem_cons_of_mem _ kw_28)) (fun _ h => h) rfl rfl kb_En_spread_24 ?_
    refine lv_icmp_ge (tgt := 158) hx hb kb_En_spread_27 (by decide) (fun hc => ?_) (fun hc => ?_)
    · have hw := hw.1 hc
      refine lv_iinc (v := v2 + (1 : Int32)) (lv' := [(2, .int (v2 + (1 : Int32))), (0, .ref a0), (1, .int x1), (3, .int v3)]) hx hb kb_En_spread_158 hl (k := 2) rfl rfl (by decide) rfl (fun ls hl => ?_)
      refine lv_goto (tgt := 2) hx hb kb_En_spread_161 (by decide) ?_
      exact hw _ _ _ hG hS (lv_sub hl [1, 2, 0] rfl)
    · have hw := hw.2 hc
      refine lv_aload_n hx hb kb_En_spread_30 rfl (lv_at hl 0 rfl) ?_
      refine lv_aload_n hx hb kb_En_spread_31 rfl (lv_at hl 0 rfl) ?_
      obtain ⟨hy, r32, hrf, hw⟩ := hw
      refine zr_getR (ci := 1) (f := 109) hx hb hts ki_En hown hK hG hy rfl 9 (by decide) (hts _ (List.mem_cons_of_mem _ kw_164)) (fun _ h => h) rfl rfl hrf kb_En_spread_32 ?_
      obtain ⟨hy, r35, hrf, hw⟩ := hw
      refine zr_getR (ci := 2) (f := 200) hx hb hts ki_Pr hown hK hG hy rfl 0 (by decide) (hts _ (List.mem_cons_of_mem _ kw_26)) (fun _ h => h) rfl rfl hrf kb_En_spread_35 ?_
      refine lv_iload_n hx hb kb_En_spread_38 rfl (lv_at hl 3 rfl) ?_
      obtain ⟨n39, s39, hy, hi, r39, hrf, hw⟩ := hw
      refine zr_aald hx hb hK hG 3 (by decide) hy rfl hi hrf kb_En_spread_39 ?_
      obtain ⟨hy, hw⟩ := hw
      refine zr_putR (ci := 1) (f := 110) hx hb hts ki_En ky_En kyo_En kn_En hown hK hG hS hy rfl 10 (by decide) (hts _ (List.mem_cons_of_mem _ kw_165)) (fun _ h => h) rfl rfl rfl rfl rfl kb_En_spread_40 (fun H locs hG hS => ?_)
      obtain ⟨σ40, e40⟩ : ∃ z, z = z_sR σ 110 a0 (some r39) := ⟨_, rfl⟩
      rw [← e40] at hG
      have hw := hw _ e40
      refine lv_iconst (v := (0 : Int32)) hx hb kb_En_spread_43 (by decide) ?_
      refine lv_istore (lv' := [(4, .int ((0 : Int32))), (0, .ref a0), (1, .int x1), (2, .int v2), (3, .int v3)]) hx hb kb_En_spread_44 hl (by decide) rfl (fun ls hl => ?_)
      exact hw _ _ _ hG hS (lv_sub hl [1, 2, 3, 4, 0] rfl))
  have hw := hw (by
    intro v2 v3 v4 σ hw H locs ls hG hS hl
    refine lv_iload hx hb kb_En_spread_46 (lv_at hl 4 rfl) ?_
    refine lv_aload_n hx hb kb_En_spread_48 rfl (lv_at hl 0 rfl) ?_
    obtain ⟨hy, r49, hrf, hw⟩ := hw
    refine zr_getR (ci := 1) (f := 110) hx hb hts ki_En hown hK hG hy rfl 10 (by decide) (hts _ (List.mem_cons_of_mem _ kw_165)) (fun _ h => h) rfl rfl hrf kb_En_spread_49 ?_
    obtain ⟨hy, hw⟩ := hw
    refine zr_getI (ci := 5) (f := 502) hx hb hts ki_Ru hown hK hG hy rfl 2 (by decide) (hts _ (List.mem_cons_of_mem _ kw_136)) (fun _ h => h) rfl rfl kb_En_spread_52 ?_
    refine lv_icmp_ge (tgt := 152) hx hb kb_En_spread_55 (by decide) (fun hc => ?_) (fun hc => ?_)
    · have hw := hw.1 hc
      refine lv_iinc (v := v3 + (1 : Int32)) (lv' := [(3, .int (v3 + (1 : Int32))), (0, .ref a0), (1, .int x1), (2, .int v2), (4, .int v4)]) hx hb kb_En_spread_152 hl (k := 3) rfl rfl (by decide) rfl (fun ls hl => ?_)
      refine lv_goto (tgt := 19) hx hb kb_En_spread_155 (by decide) ?_
      exact hw _ _ _ hG hS (lv_sub hl [1, 2, 3, 0] rfl)
    · have hw := hw.2 hc
      refine lv_aload_n hx hb kb_En_spread_58 rfl (lv_at hl 0 rfl) ?_
      obtain ⟨hy, r59, hrf, hw⟩ := hw
      refine zr_getR (ci := 1) (f := 109) hx hb hts ki_En hown hK hG hy rfl 9 (by decide) (hts _ (List.mem_cons_of_mem _ kw_164)) (fun _ h => h) rfl rfl hrf kb_En_spread_59 ?_
      obtain ⟨hy, r62, hrf, hw⟩ := hw
      refine zr_getR (ci := 2) (f := 204) hx hb hts ki_Pr hown hK hG hy rfl 4 (by decide) (hts _ (List.mem_cons_of_mem _ kw_38)) (fun _ h => h) rfl rfl hrf kb_En_spread_62 ?_
      refine lv_aload_n hx hb kb_En_spread_65 rfl (lv_at hl 0 rfl) ?_
      obtain ⟨hy, r66, hrf, hw⟩ := hw
      refine zr_getR (ci := 1) (f := 110) hx hb hts ki_En hown hK hG hy rfl 10 (by decide) (hts _ (List.mem_cons_of_mem _ kw_165)) (fun _ h => h) rfl rfl hrf kb_En_spread_66 ?_
      obtain ⟨hy, r69, hrf, hw⟩ := hw
      refine zr_getR (ci := 5) (f := 500) hx hb hts ki_Ru hown hK hG hy rfl 0 (by decide) (hts _ (List.mem_cons_of_mem _ kw_128)) (fun _ h => h) rfl rfl hrf kb_En_spread_69 ?_
      obtain ⟨hy, hw⟩ := hw
      refine zr_getI (ci := 0) (f := 3) hx hb hts ki_At hown hK hG hy rfl 3 (by decide) (hts _ (List.mem_cons_of_mem _ kw_112)) (fun _ h => h) rfl rfl kb_En_spread_72 ?_
      obtain ⟨n75, s75, hy, hi, hw⟩ := hw
      refine zr_iald hx hb hK hG 0 hy rfl hi kb_En_spread_75 ?_
      refine lv_iload_n hx hb kb_En_spread_76 rfl (lv_at hl 1 rfl) ?_
      refine lv_icmp_ne (tgt := 152) hx hb kb_En_spread_77 (by decide) (fun hc => ?_) (fun hc => ?_)
      · have hw := hw.1 hc
        refine lv_iinc (v := v3 + (1 : Int32)) (lv' := [(3, .int (v3 + (1 : Int32))), (0, .ref a0), (1, .int x1), (2, .int v2), (4, .int v4)]) hx hb kb_En_spread_152 hl (k := 3) rfl rfl (by decide) rfl (fun ls hl => ?_)
        refine lv_goto (tgt := 19) hx hb kb_En_spread_155 (by decide) ?_
        exact hw _ _ _ hG hS (lv_sub hl [1, 2, 3, 0] rfl)
      · have hw := hw.2 hc
        refine lv_aload_n hx hb kb_En_spread_80 rfl (lv_at hl 0 rfl) ?_
        obtain ⟨hy, hw⟩ := hw
        refine zr_getI (ci := 1) (f := 108) hx hb hts ki_En hown hK hG hy rfl 8 (by decide) (hts _ (List.mem_cons_of_mem _ kw_163)) (fun _ h => h) rfl rfl kb_En_spread_81 ?_
        refine lv_if_ne (tgt := 152) hx hb kb_En_spread_84 (by decide) (fun hc => ?_) (fun hc => ?_)
        · have hw := hw.1 hc
          refine lv_iinc (v := v3 + (1 : Int32)) (lv' := [(3, .int (v3 + (1 : Int32))), (0, .ref a0), (1, .int x1), (2, .int v2), (4, .int v4)]) hx hb kb_En_spread_152 hl (k := 3) rfl rfl (by decide) rfl (fun ls hl => ?_)
          refine lv_goto (tgt := 19) hx hb kb_En_spread_155 (by decide) ?_
          exact hw _ _ _ hG hS (lv_sub hl [1, 2, 3, 0] rfl)
        · have hw := hw.2 hc
          refine lv_aload_n hx hb kb_En_spread_87 rfl (lv_at hl 0 rfl) ?_
          obtain ⟨hy, r88, hrf, hw⟩ := hw
          refine zr_getR (ci := 1) (f := 110) hx hb hts ki_En hown hK hG hy rfl 10 (by decide) (hts _ (List.mem_cons_of_mem _ kw_165)) (fun _ h => h) rfl rfl hrf kb_En_spread_88 ?_
          obtain ⟨hy, r91, hrf, hw⟩ := hw
          refine zr_getR (ci := 5) (f := 501) hx hb hts ki_Ru hown hK hG hy rfl 1 (by decide) (hts _ (List.mem_cons_of_mem _ kw_131)) (fun _ h => h) rfl rfl hrf kb_En_spread_91 ?_
          refine lv_iload hx hb kb_En_spread_94 (lv_at hl 4 rfl) ?_
          obtain ⟨n96, s96, hy, hi, r96, hrf, hw⟩ := hw
          refine zr_aald hx hb hK hG 6 (by decide) hy rfl hi hrf kb_En_spread_96 ?_
          refine lv_astore (lv' := [(5, .ref r96), (0, .ref a0), (1, .int x1), (2, .int v2), (3, .int v3), (4, .int v4)]) hx hb kb_En_spread_97 hl (by decide) rfl (fun ls hl => ?_)
          refine lv_aload_n hx hb kb_En_spread_99 rfl (lv_at hl 1 rfl) ?_
          refine lv_iconst (v := (0 : Int32)) hx hb kb_En_spread_100 (by decide) ?_
          obtain ⟨hy, hw⟩ := hw
          refine zr_putI (ci := 1) (f := 105) hx hb hts ki_En ky_En kyo_En kn_En hown hK hG hS hy rfl 5 (by decide) (hts _ (List.mem_cons_of_mem _ kw_160)) (fun _ h => h) rfl rfl rfl rfl rfl kb_En_spread_101 (fun H locs hG hS => ?_)
          obtain ⟨σ101, e101⟩ : ∃ z, z = z_sI σ 105 a0 ((0 : Int32)) := ⟨_, rfl⟩
          rw [← e101] at hG
          have hw := hw _ e101
          refine lv_aload hx hb kb_En_spread_104 (lv_at hl 0 rfl) ?_
          obtain ⟨hy, hw⟩ := hw
          refine zr_getI (ci := 0) (f := 2) hx hb hts ki_At hown hK hG hy rfl 2 (by decide) (hts _ (List.mem_cons_of_mem _ kw_110)) (fun _ h => h) rfl rfl kb_En_spread_106 ?_
          refine lv_if_ne (tgt := 146) hx hb kb_En_spread_109 (by decide) (fun hc => ?_) (fun hc => ?_)
          · have hw := hw.1 hc
            refine lv_iinc (v := v4 + (1 : Int32)) (lv' := [(4, .int (v4 + (1 : Int32))), (5, .ref r96), (0, .ref a0), (1, .int x1), (2, .int v2), (3, .int v3)]) hx hb kb_En_spread_146 hl (k := 5) rfl rfl (by decide) rfl (fun ls hl => ?_)
            refine lv_goto (tgt := 46) hx hb kb_En_spread_149 (by decide) ?_
            exact hw _ _ _ hG hS (lv_sub hl [2, 3, 4, 5, 0] rfl)
          · have hw := hw.2 hc
            refine lv_aload hx hb kb_En_spread_112 (lv_at hl 0 rfl) ?_
            obtain ⟨hy, hw⟩ := hw
            refine zr_getI (ci := 0) (f := 3) hx hb hts ki_At hown hK hG hy rfl 3 (by decide) (hts _ (List.mem_cons_of_mem _ kw_112)) (fun _ h => h) rfl rfl kb_En_spread_114 ?_
            refine lv_aload_n hx hb kb_En_spread_117 rfl (lv_at hl 1 rfl) ?_
            obtain ⟨hy, r118, hrf, hw⟩ := hw
            refine zr_getR (ci := 1) (f := 102) hx hb hts ki_En hown hK hG hy rfl 2 (by decide) (hts _ (List.mem_cons_of_mem _ kw_157)) (fun _ h => h) rfl rfl hrf kb_En_spread_118 ?_
            refine lv_iload_n hx hb kb_En_spread_121 rfl (lv_at hl 3 rfl) ?_
            obtain ⟨n122, s122, hy, hi, hw⟩ := hw
            refine zr_iald hx hb hK hG 0 hy rfl hi kb_En_spread_122 ?_
            refine lv_icmp_ne (tgt := 146) hx hb kb_En_spread_123 (by decide) (fun hc => ?_) (fun hc => ?_)
            · have hw := hw.1 hc
              refine lv_iinc (v := v4 + (1 : Int32)) (lv' := [(4, .int (v4 + (1 : Int32))), (5, .ref r96), (0, .ref a0), (1, .int x1), (2, .int v2), (3, .int v3)]) hx hb kb_En_spread_146 hl (k := 5) rfl rfl (by decide) rfl (fun ls hl => ?_)
              refine lv_goto (tgt := 46) hx hb kb_En_spread_149 (by decide) ?_
              exact hw _ _ _ hG hS (lv_sub hl [2, 3, 4, 5, 0] rfl)
            · have hw := hw.2 hc
              refine lv_aload_n hx hb kb_En_spread_126 rfl (lv_at hl 1 rfl) ?_
              refine lv_aload hx hb kb_En_spread_127 (lv_at hl 0 rfl) ?_
              refine lv_aload_n hx hb kb_En_spread_129 rfl (lv_at hl 1 rfl) ?_
              obtain ⟨hy, r130, hrf, hw⟩ := hw
              refine zr_getR (ci := 1) (f := 103) hx hb hts ki_En hown hK hG hy rfl 3 (by decide) (hts _ (List.mem_cons_of_mem _ kw_158)) (fun _ h => h) rfl rfl hrf kb_En_spread_130 ?_
              refine lv_iload_n hx hb kb_En_spread_133 rfl (lv_at hl 3 rfl) ?_
              obtain ⟨n134, s134, hy, hi, hw⟩ := hw
              refine zr_iald hx hb hK hG 0 hy rfl hi kb_En_spread_134 ?_
              obtain ⟨hy, hw⟩ := hw
              refine zr_ci (va_runV (C := kR_En) (As := [.ref r96, .int (z_A σ101 s134 r130 v2.toNatClampNeg)]) (rest := []) ⟨hx, hb, hml, hown, hts⟩ (kc_En_matches l D dA Z a0 r96 (z_A σ101 s134 r130 v2.toNatClampNeg) σ101 _) ⟨callB_of 2 hts (z_gw kw_448) rfl rfl rfl (hts _ (List.mem_cons_of_mem _ kw_5)) (hts _ (List.mem_cons_of_mem _ kw_446)) (by decide +kernel) ⟨Nat.le_of_ble_eq_true rfl, Nat.le_of_ble_eq_true rfl⟩, (hts _ (List.mem_cons_of_mem _ kw_447)), (hts _ (List.mem_cons_of_mem _ kw_941))⟩ (z_preV z_nwN (Nat.le_trans hZ hS.1) hG hK hN hy (ci := 1) (r := (kR_En, kT_En, 12)) rfl hw) rfl rfl hl.1 rfl (lv_room (Nat.le_of_ble_eq_true rfl)) kb_En_spread_135 ⟨Nat.le_of_ble_eq_true rfl, Nat.le_of_ble_eq_true rfl⟩) hS (fun r135 σ135 H locs hw hG hS => ?_)
              refine lv_if_eq (tgt := 146) hx hb kb_En_spread_138 (by decide) (fun hc => ?_) (fun hc => ?_)
              · have hw := hw.1 hc
                refine lv_iinc (v := v4 + (1 : Int32)) (lv' := [(4, .int (v4 + (1 : Int32))), (5, .ref r96), (0, .ref a0), (1, .int x1), (2, .int v2), (3, .int v3)]) hx hb kb_En_spread_146 hl (k := 5) rfl rfl (by decide) rfl (fun ls hl => ?_)
                refine lv_goto (tgt := 46) hx hb kb_En_spread_149 (by decide) ?_
                exact hw _ _ _ hG hS (lv_sub hl [2, 3, 4, 5, 0] rfl)
              · have hw := hw.2 hc
                refine lv_aload_n hx hb kb_En_spread_141 rfl (lv_at hl 1 rfl) ?_
                refine lv_iconst (v := (0 : Int32)) hx hb kb_En_spread_142 (by decide) ?_
                obtain ⟨hy, hw⟩ := hw
                refine zr_cv (va_runV (C := kR_En) (As := [.int ((0 : Int32))]) (rest := []) ⟨hx, hb, hml, hown, hts⟩ (kc_En_solve l D dA Z 8 a0 ((0 : Int32)) σ135 _) ⟨callB_of 1 hts (z_gw kw_401) rfl rfl rfl (hts _ (List.mem_cons_of_mem _ kw_5)) (hts _ (List.mem_cons_of_mem _ kw_399)) (by decide +kernel) ⟨Nat.le_of_ble_eq_true rfl, Nat.le_of_ble_eq_true rfl⟩, (hts _ (List.mem_cons_of_mem _ kw_400)), (hts _ (List.mem_cons_of_mem _ kw_931))⟩ (z_preV z_nwN (Nat.le_trans hZ hS.1) hG hK hN hy (ci := 1) (r := (kR_En, kT_En, 12)) rfl hw) rfl rfl hl.1 rfl (lv_room (Nat.le_of_ble_eq_true rfl)) kb_En_spread_143 ⟨Nat.le_of_ble_eq_true rfl, Nat.le_of_ble_eq_true rfl⟩) hS (fun σ143 H locs hw hG hS => ?_)
                refine lv_iinc (v := v4 + (1 : Int32)) (lv' := [(4, .int (v4 + (1 : Int32))), (5, .ref r96), (0, .ref a0), (1, .int x1), (2, .int v2), (3, .int v3)]) hx hb kb_En_spread_146 hl (k := 5) rfl rfl (by decide) rfl (fun ls hl => ?_)
                refine lv_goto (tgt := 46) hx hb kb_En_spread_149 (by decide) ?_
                exact hw _ _ _ hG hS (lv_sub hl [2, 3, 4, 5, 0] rfl))
  refine lv_iconst (v := (0 : Int32)) hx hb kb_En_spread_0 (by decide) ?_
  refine lv_istore_n (lv' := [(2, .int ((0 : Int32))), (0, .ref a0), (1, .int x1)]) hx hb kb_En_spread_1 rfl hl (by decide) rfl (fun ls hl => ?_)
  exact hw _ _ _ hG hS (lv_sub hl [1, 2, 0] rfl)
def kp_En_workViews (a0 : Nat) (b1 : Nat) (b2 : Nat) (σ : z_S) (Post : Int32 → z_S → Prop) : Prop := ∀ (X9 : Int32 → z_S → Prop) (X49 : Int32 → z_S → Prop) (X88 : z_S → Prop),
    (∀ (v3 : Int32) (σ : z_S), (z_ty σ a0 = some (.inl 1) ∧ ∃ r11, z_R σ 109 a0 = some r11 ∧ (z_ty σ r11 = some (.inl 2) ∧ (((z_I σ 206 r11) ≤ v3 → X49 ((1 : Int32)) σ) ∧ (¬ (z_I σ 206 r11) ≤ v3 → z_ty σ a0 = some (.inl 1) ∧ ∃ r21, z_R σ 109 a0 = some r21 ∧ (z_ty σ r21 = some (.inl 2) ∧ kp_Pr_isView r21 v3 σ (fun (r25 : Int32) (σ25 : z_S) => (r25 = 0 → X9 (v3 + (1 : Int32)) σ25) ∧ (¬ r25 = 0 → z_ty σ25 a0 = some (.inl 1) ∧ ∃ r32, z_R σ25 111 a0 = some r32 ∧ (∃ n36 s36, z_ty σ25 r32 = some (.inr (9, n36, s36)) ∧ vp_in v3 n36 ∧ ∃ r36, z_Q σ25 s36 r32 v3.toNatClampNeg = some r36 ∧ (z_ty σ25 r36 = some (.inl 4) ∧ ∀ σ38, σ38 = z_sI σ25 402 r36 ((0 : Int32)) → X9 (v3 + (1 : Int32)) σ38))))))))) → X9 v3 σ) →
    (∀ (v3 : Int32) (σ : z_S), (z_ty σ a0 = some (.inl 1) ∧ ∃ r51, z_R σ 109 a0 = some r51 ∧ (z_ty σ r51 = some (.inl 2) ∧ (((z_I σ 207 r51) < v3 → X88 σ) ∧ (¬ (z_I σ 207 r51) < v3 → z_ty σ a0 = some (.inl 1) ∧ ((¬ ((z_I σ 108 a0)) = 0 → X88 σ) ∧ (((z_I σ 108 a0)) = 0 → z_ty σ a0 = some (.inl 1) ∧ ∀ σ69, σ69 = z_sI σ 104 a0 ((0 : Int32)) → z_ty σ69 a0 = some (.inl 1) ∧ kp_En_seed a0 v3 σ69 (fun (σ74 : z_S) => z_ty σ74 a0 = some (.inl 1) ∧ kp_En_spread a0 v3 σ74 (fun (σ79 : z_S) => X49 (v3 + (1 : Int32)) σ79)))))))) → X49 v3 σ) →
    (∀ (σ : z_S), (z_ty σ a0 = some (.inl 1) ∧ ((¬ ((z_I σ 108 a0)) = 0 → Post ((0 : Int32)) σ) ∧ (((z_I σ 108 a0)) = 0 → Post ((1 : Int32)) σ))) → X88 σ) →
    (z_ty σ a0 = some (.inl 1) ∧ kp_En_begin a0 b1 b2 ((0 : Int32)) σ (fun (σ4 : z_S) => X9 ((0 : Int32)) σ4))
set_option maxHeartbeats 4000000 in
set_option maxRecDepth 100000 in
theorem kc_En_workViews (l : Launch) (D : va_G) (dA : Nat → ClassId) (Z : Nat) (a0 : Nat) (b1 : Nat) (b2 : Nat) (σ : z_S) (Post : Int32 → z_S → Prop) : Met l km_En_workViews ks_En_workViews kr_En_workViews (va_Pc [.ref a0, .ref b1, .ref b2] (fun U => z_U D z_cl z_KT dA Z (z_tys dA) z_nw σ U ∧ kp_En_workViews  a0 b1 b2 σ Post)) (z_Qi D z_cl z_KT dA Z (z_tys dA) z_nw Post) 0 0 (fun q => Z ≤ q) := by
  refine Met.ofW (cc := prog_3_method_2_code) (maxL := 4) (ret := (some .boolean)) (by decide) rfl ?_
  intro p e s m args below meth c s₁ B hml hv
  obtain ⟨rfl, ⟨hZ, hG, hK, hN⟩, hw⟩ := hv
  have hx := B.exec
  have hb := B.bytes
  have hr := B.returns
  have hts := atoms_spec (ws := ks_En_workViews) B.pre
  have hown : s.vm.findClass kR_En = some m.cls := findClass_of_methodNamed B.named
  have hlocks := B.notSynchronized
  have hS : va_S (fun q => Z ≤ q) s.heap s.heap [] := va_S.rf
  have hl := lv_entry ([.ref a0, .ref b1, .ref b2]) (n := 4) (Nat.le_of_ble_eq_true rfl)
  rw [lg_entry_eq]
  generalize (lg_sl ([.ref a0, .ref b1, .ref b2]) ++ List.replicate (4 - (lg_sl ([.ref a0, .ref b1, .ref b2])).length) Slot.unset).toArray = ls at hl ⊢
  have hl : lv_has ls 4 [(0, .ref a0), (1, .ref b1), (2, .ref b2)] := hl
  unfold kp_En_workViews at hw
  have hw := hw (fun (v3 : Int32) (σ : z_S) => ∀ (H : Heap) (locs : List Loc) (ls : Array Slot), z_G D z_cl z_KT dA Z σ H → va_S (fun q => Z ≤ q) s.heap H locs → lv_has ls 4 [(0, .ref a0), (3, .int v3)] → W p l e (headSpec ks_En_workViews kr_En_workViews).room s m ([.ref a0, .ref b1, .ref b2] : List Value).toArray below meth c H locs 0 0 (MQ below (z_Qi D z_cl z_KT dA Z (z_tys dA) z_nw Post) ([.ref a0, .ref b1, .ref b2] : List Value).toArray s 0 0 (fun q => Z ≤ q)) (F0 m 9 ls []))
  have hw := hw (fun (v3 : Int32) (σ : z_S) => ∀ (H : Heap) (locs : List Loc) (ls : Array Slot), z_G D z_cl z_KT dA Z σ H → va_S (fun q => Z ≤ q) s.heap H locs → lv_has ls 4 [(0, .ref a0), (3, .int v3)] → W p l e (headSpec ks_En_workViews kr_En_workViews).room s m ([.ref a0, .ref b1, .ref b2] : List Value).toArray below meth c H locs 0 0 (MQ below (z_Qi D z_cl z_KT dA Z (z_tys dA) z_nw Post) ([.ref a0, .ref b1, .ref b2] : List Value).toArray s 0 0 (fun q => Z ≤ q)) (F0 m 49 ls []))
  have hw := hw (fun (σ : z_S) => ∀ (H : Heap) (locs : List Loc) (ls : Array Slot), z_G D z_cl z_KT dA Z σ H → va_S (fun q => Z ≤ q) s.heap H locs → lv_has ls 4 [(0, .ref a0)] → W p l e (headSpec ks_En_workViews kr_En_workViews).room s m ([.ref a0, .ref b1, .ref b2] : List Value).toArray below meth c H locs 0 0 (MQ below (z_Qi D z_cl z_KT dA Z (z_tys dA) z_nw Post) ([.ref a0, .ref b1, .ref b2] : List Value).toArray s 0 0 (fun q => Z ≤ q)) (F0 m 88 ls []))
  have hw := hw (by
    intro v3 σ hw H locs ls hG hS hl
    refine lv_iload_n hx hb kb_En_workViews_9 rfl (lv_at hl 1 rfl) ?_
    refine lv_aload_n hx hb kb_En_workViews_10 rfl (lv_at hl 0 rfl) ?_
    obtain ⟨hy, r11, hrf, hw⟩ := hw
    refine zr_getR (ci := 1) (f := 109) hx hb hts ki_En hown hK hG hy rfl 9 (by decide) (hts _ (List.mem_cons_of_mem _ kw_164)) (fun _ h => h) rfl rfl hrf kb_En_workViews_11 ?_
    obtain ⟨hy, hw⟩ := hw
    refine zr_getI (ci := 2) (f := 206) hx hb hts ki_Pr hown hK hG hy rfl 6 (by decide) (hts _ (List.mem_cons_of_mem _ kw_43)) (fun _ h => h) rfl rfl kb_En_workViews_14 ?_
    refine lv_icmp_ge (tgt := 47) hx hb kb_En_workViews_17 (by decide) (fun hc => ?_) (fun hc => ?_)
    · have hw := hw.1 hc
      refine lv_iconst (v := (1 : Int32)) hx hb kb_En_workViews_47 (by decide) ?_
      refine lv_istore_n (lv' := [(3, .int ((1 : Int32))), (0, .ref a0)]) hx hb kb_En_workViews_48 rfl hl (by decide) rfl (fun ls hl => ?_)
      exact hw _ _ _ hG hS (lv_sub hl [1, 0] rfl)
    · have hw := hw.2 hc
      refine lv_aload_n hx hb kb_En_workViews_20 rfl (lv_at hl 0 rfl) ?_
      obtain ⟨hy, r21, hrf, hw⟩ := hw
      refine zr_getR (ci := 1) (f := 109) hx hb hts ki_En hown hK hG hy rfl 9 (by decide) (hts _ (List.mem_cons_of_mem _ kw_164)) (fun _ h => h) rfl rfl hrf kb_En_workViews_21 ?_
      refine lv_iload_n hx hb kb_En_workViews_24 rfl (lv_at hl 1 rfl) ?_
      obtain ⟨hy, hw⟩ := hw
      refine zr_ci (va_runV (C := kR_Pr) (As := [.int v3]) (rest := []) ⟨hx, hb, hml, hown, hts⟩ (kc_Pr_isView l D dA Z r21 v3 σ _) ⟨callB_of 1 hts (z_gw kw_324) rfl rfl rfl (hts _ (List.mem_cons_of_mem _ kw_2)) (hts _ (List.mem_cons_of_mem _ kw_392)) (by decide +kernel) ⟨Nat.le_of_ble_eq_true rfl, Nat.le_of_ble_eq_true rfl⟩, (hts _ (List.mem_cons_of_mem _ kw_322)), (hts _ (List.mem_cons_of_mem _ kw_323))⟩ (z_preV z_nwN (Nat.le_trans hZ hS.1) hG hK hN hy (ci := 2) (r := (kR_Pr, kT_Pr, 11)) rfl hw) rfl rfl hl.1 rfl (lv_room (Nat.le_of_ble_eq_true rfl)) kb_En_workViews_25 ⟨Nat.le_of_ble_eq_true rfl, Nat.le_of_ble_eq_true rfl⟩) hS (fun r25 σ25 H locs hw hG hS => ?_)
      refine lv_if_eq (tgt := 41) hx hb kb_En_workViews_28 (by decide) (fun hc => ?_) (fun hc => ?_)
      · have hw := hw.1 hc
        refine lv_iinc (v := v3 + (1 : Int32)) (lv' := [(3, .int (v3 + (1 : Int32))), (0, .ref a0)]) hx hb kb_En_workViews_41 hl (k := 1) rfl rfl (by decide) rfl (fun ls hl => ?_)
        refine lv_goto (tgt := 9) hx hb kb_En_workViews_44 (by decide) ?_
        exact hw _ _ _ hG hS (lv_sub hl [1, 0] rfl)
      · have hw := hw.2 hc
        refine lv_aload_n hx hb kb_En_workViews_31 rfl (lv_at hl 0 rfl) ?_
        obtain ⟨hy, r32, hrf, hw⟩ := hw
        refine zr_getR (ci := 1) (f := 111) hx hb hts ki_En hown hK hG hy rfl 11 (by decide) (hts _ (List.mem_cons_of_mem _ kw_166)) (fun _ h => h) rfl rfl hrf kb_En_workViews_32 ?_
        refine lv_iload_n hx hb kb_En_workViews_35 rfl (lv_at hl 1 rfl) ?_
        obtain ⟨n36, s36, hy, hi, r36, hrf, hw⟩ := hw
        refine zr_aald hx hb hK hG 4 (by decide) hy rfl hi hrf kb_En_workViews_36 ?_
        refine lv_iconst (v := (0 : Int32)) hx hb kb_En_workViews_37 (by decide) ?_
        obtain ⟨hy, hw⟩ := hw
        refine zr_putI (ci := 4) (f := 402) hx hb hts ki_Ro ky_Ro kyo_Ro kn_Ro hown hK hG hS hy rfl 2 (by decide) (hts _ (List.mem_cons_of_mem _ kw_190)) (fun _ h => h) rfl rfl rfl rfl rfl kb_En_workViews_38 (fun H locs hG hS => ?_)
        obtain ⟨σ38, e38⟩ : ∃ z, z = z_sI σ25 402 r36 ((0 : Int32)) := ⟨_, rfl⟩
        rw [← e38] at hG
        have hw := hw _ e38
        refine lv_iinc (v := v3 + (1 : Int32)) (lv' := [(3, .int (v3 + (1 : Int32))), (0, .ref a0)]) hx hb kb_En_workViews_41 hl (k := 1) rfl rfl (by decide) rfl (fun ls hl => ?_)
        refine lv_goto (tgt := 9) hx hb kb_En_workViews_44 (by decide) ?_
        exact hw _ _ _ hG hS (lv_sub hl [1, 0] rfl))
  have hw := hw (by
    intro v3 σ hw H locs ls hG hS hl
    refine lv_iload_n hx hb kb_En_workViews_49 rfl (lv_at hl 1 rfl) ?_
    refine lv_aload_n hx hb kb_En_workViews_50 rfl (lv_at hl 0 rfl) ?_
    obtain ⟨hy, r51, hrf, hw⟩ := hw
    refine zr_getR (ci := 1) (f := 109) hx hb hts ki_En hown hK hG hy rfl 9 (by decide) (hts _ (List.mem_cons_of_mem _ kw_164)) (fun _ h => h) rfl rfl hrf kb_En_workViews_51 ?_
    obtain ⟨hy, hw⟩ := hw
    refine zr_getI (ci := 2) (f := 207) hx hb hts ki_Pr hown hK hG hy rfl 7 (by decide) (hts _ (List.mem_cons_of_mem _ kw_45)) (fun _ h => h) rfl rfl kb_En_workViews_54 ?_
    refine lv_icmp_gt (tgt := 88) hx hb kb_En_workViews_57 (by decide) (fun hc => ?_) (fun hc => ?_)
    · have hw := hw.1 hc
      exact hw _ _ _ hG hS (lv_sub hl [0] rfl)
    · have hw := hw.2 hc
      refine lv_aload_n hx hb kb_En_workViews_60 rfl (lv_at hl 0 rfl) ?_
      obtain ⟨hy, hw⟩ := hw
      refine zr_getI (ci := 1) (f := 108) hx hb hts ki_En hown hK hG hy rfl 8 (by decide) (hts _ (List.mem_cons_of_mem _ kw_163)) (fun _ h => h) rfl rfl kb_En_workViews_61 ?_
      refine lv_if_ne (tgt := 88) hx hb kb_En_workViews_64 (by decide) (fun hc => ?_) (fun hc => ?_)
      · have hw := hw.1 hc
        exact hw _ _ _ hG hS (lv_sub hl [0] rfl)
      · have hw := hw.2 hc
        refine lv_aload_n hx hb kb_En_workViews_67 rfl (lv_at hl 0 rfl) ?_
        refine lv_iconst (v := (0 : Int32)) hx hb kb_En_workViews_68 (by decide) ?_
        obtain ⟨hy, hw⟩ := hw
        refine zr_putI (ci := 1) (f := 104) hx hb hts ki_En ky_En kyo_En kn_En hown hK hG hS hy rfl 4 (by decide) (hts _ (List.mem_cons_of_mem _ kw_159)) (fun _ h => h) rfl rfl rfl rfl rfl kb_En_workViews_69 (fun H locs hG hS => ?_)
        obtain ⟨σ69, e69⟩ : ∃ z, z = z_sI σ 104 a0 ((0 : Int32)) := ⟨_, rfl⟩
        rw [← e69] at hG
        have hw := hw _ e69
        refine lv_aload_n hx hb kb_En_workViews_72 rfl (lv_at hl 0 rfl) ?_
        refine lv_iload_n hx hb kb_En_workViews_73 rfl (lv_at hl 1 rfl) ?_
        obtain ⟨hy, hw⟩ := hw
        refine zr_cv (va_runV (C := kR_En) (As := [.int v3]) (rest := []) ⟨hx, hb, hml, hown, hts⟩ (kc_En_seed l D dA Z a0 v3 σ69 _) ⟨callB_of 1 hts (z_gw kw_395) rfl rfl rfl (hts _ (List.mem_cons_of_mem _ kw_5)) (hts _ (List.mem_cons_of_mem _ kw_393)) (by decide +kernel) ⟨Nat.le_of_ble_eq_true rfl, Nat.le_of_ble_eq_true rfl⟩, (hts _ (List.mem_cons_of_mem _ kw_394)), (hts _ (List.mem_cons_of_mem _ kw_929))⟩ (z_preV z_nwN (Nat.le_trans hZ hS.1) hG hK hN hy (ci := 1) (r := (kR_En, kT_En, 12)) rfl hw) rfl rfl hl.1 rfl (lv_room (Nat.le_of_ble_eq_true rfl)) kb_En_workViews_74 ⟨Nat.le_of_ble_eq_true rfl, Nat.le_of_ble_eq_true rfl⟩) hS (fun σ74 H locs hw hG hS => ?_)
        refine lv_aload_n hx hb kb_En_workViews_77 rfl (lv_at hl 0 rfl) ?_
        refine lv_iload_n hx hb kb_En_workViews_78 rfl (lv_at hl 1 rfl) ?_
        obtain ⟨hy, hw⟩ := hw
        refine zr_cv (va_runV (C := kR_En) (As := [.int v3]) (rest := []) ⟨hx, hb, hml, hown, hts⟩ (kc_En_spread l D dA Z a0 v3 σ74 _) ⟨callB_of 1 hts (z_gw kw_456) rfl rfl rfl (hts _ (List.mem_cons_of_mem _ kw_5)) (hts _ (List.mem_cons_of_mem _ kw_454)) (by decide +kernel) ⟨Nat.le_of_ble_eq_true rfl, Nat.le_of_ble_eq_true rfl⟩, (hts _ (List.mem_cons_of_mem _ kw_455)), (hts _ (List.mem_cons_of_mem _ kw_943))⟩ (z_preV z_nwN (Nat.le_trans hZ hS.1) hG hK hN hy (ci := 1) (r := (kR_En, kT_En, 12)) rfl hw) rfl rfl hl.1 rfl (lv_room (Nat.le_of_ble_eq_true rfl)) kb_En_workViews_79 ⟨Nat.le_of_ble_eq_true rfl, Nat.le_of_ble_eq_true rfl⟩) hS (fun σ79 H locs hw hG hS => ?_)
        refine lv_iinc (v := v3 + (1 : Int32)) (lv' := [(3, .int (v3 + (1 : Int32))), (0, .ref a0)]) hx hb kb_En_workViews_82 hl (k := 1) rfl rfl (by decide) rfl (fun ls hl => ?_)
        refine lv_goto (tgt := 49) hx hb kb_En_workViews_85 (by decide) ?_
        exact hw _ _ _ hG hS (lv_sub hl [1, 0] rfl))
  have hw := hw (by
    intro σ hw H locs ls hG hS hl
    refine lv_aload_n hx hb kb_En_workViews_88 rfl (lv_at hl 0 rfl) ?_
    obtain ⟨hy, hw⟩ := hw
    refine zr_getI (ci := 1) (f := 108) hx hb hts ki_En hown hK hG hy rfl 8 (by decide) (hts _ (List.mem_cons_of_mem _ kw_163)) (fun _ h => h) rfl rfl kb_En_workViews_89 ?_
    refine lv_if_ne (tgt := 99) hx hb kb_En_workViews_92 (by decide) (fun hc => ?_) (fun hc => ?_)
    · have hw := hw.1 hc
      refine lv_iconst (v := (0 : Int32)) hx hb kb_En_workViews_99 (by decide) ?_
      exact zr_iret (free := fun q => Z ≤ q) z_nwN hx hb hr rfl hZ hK hN hG hS hw kb_En_workViews_100 hlocks
    · have hw := hw.2 hc
      refine lv_iconst (v := (1 : Int32)) hx hb kb_En_workViews_95 (by decide) ?_
      refine lv_goto (tgt := 100) hx hb kb_En_workViews_96 (by decide) ?_
      exact zr_iret (free := fun q => Z ≤ q) z_nwN hx hb hr rfl hZ hK hN hG hS hw kb_En_workViews_100 hlocks)
  refine lv_aload_n hx hb kb_En_workViews_0 rfl (lv_at hl 0 rfl) ?_
  refine lv_aload_n hx hb kb_En_workViews_1 rfl (lv_at hl 1 rfl) ?_
  refine lv_aload_n hx hb kb_En_workViews_2 rfl (lv_at hl 2 rfl) ?_
  refine lv_iconst (v := (0 : Int32)) hx hb kb_En_workViews_3 (by decide) ?_
  obtain ⟨hy, hw⟩ := hw
  refine zr_cv (va_runV (C := kR_En) (As := [.ref b1, .ref b2, .int ((0 : Int32))]) (rest := []) ⟨hx, hb, hml, hown, hts⟩ (kc_En_begin l D dA Z a0 b1 b2 ((0 : Int32)) σ _) ⟨callB_of 3 hts (z_gw kw_391) rfl rfl rfl (hts _ (List.mem_cons_of_mem _ kw_5)) (hts _ (List.mem_cons_of_mem _ kw_389)) (by decide +kernel) ⟨Nat.le_of_ble_eq_true rfl, Nat.le_of_ble_eq_true rfl⟩, (hts _ (List.mem_cons_of_mem _ kw_390)), (hts _ (List.mem_cons_of_mem _ kw_928))⟩ (z_preV z_nwN (Nat.le_trans hZ hS.1) hG hK hN hy (ci := 1) (r := (kR_En, kT_En, 12)) rfl hw) rfl rfl hl.1 rfl (lv_room (Nat.le_of_ble_eq_true rfl)) kb_En_workViews_4 ⟨Nat.le_of_ble_eq_true rfl, Nat.le_of_ble_eq_true rfl⟩) hS (fun σ4 H locs hw hG hS => ?_)
  refine lv_iconst (v := (0 : Int32)) hx hb kb_En_workViews_7 (by decide) ?_
  refine lv_istore_n (lv' := [(3, .int ((0 : Int32))), (0, .ref a0), (1, .ref b1), (2, .ref b2)]) hx hb kb_En_workViews_8 rfl hl (by decide) rfl (fun ls hl => ?_)
  exact hw _ _ _ hG hS (lv_sub hl [1, 0] rfl)
def kp_En_solveFor (a0 : Nat) (x1 : Int32) (x2 : Int32) (x3 : Int32) (σ : z_S) (Post : z_S → Prop) : Prop :=     (z_ty σ a0 = some (.inl 1) ∧ ∃ r2, z_R σ 109 a0 = some r2 ∧ (z_ty σ r2 = some (.inl 2) ∧ ∃ r5, z_R σ 200 r2 = some r5 ∧ (∃ n9 s9, z_ty σ r5 = some (.inr (8, n9, s9)) ∧ vp_in x1 n9 ∧ ∃ r9, z_Q σ s9 r5 x1.toNatClampNeg = some r9 ∧ (z_ty σ a0 = some (.inl 1) ∧ ∀ σ10, σ10 = z_sR σ 110 a0 (some r9) → z_ty σ10 a0 = some (.inl 1) ∧ ∀ σ15, σ15 = z_sI σ10 105 a0 ((0 : Int32)) → z_ty σ15 a0 = some (.inl 1) ∧ ∃ r19, z_R σ15 110 a0 = some r19 ∧ (z_ty σ15 r19 = some (.inl 5) ∧ ∃ r22, z_R σ15 500 r19 = some r22 ∧ (z_ty σ15 r22 = some (.inl 0) ∧ ((¬ (z_I σ15 3 r22) = x2 → Post σ15) ∧ ((z_I σ15 3 r22) = x2 → z_ty σ15 a0 = some (.inl 1) ∧ ∃ r34, z_R σ15 110 a0 = some r34 ∧ (z_ty σ15 r34 = some (.inl 5) ∧ ∃ r37, z_R σ15 500 r34 = some r37 ∧ (z_ty σ15 a0 = some (.inl 1) ∧ kp_En_matches a0 r37 x3 σ15 (fun (r41 : Int32) (σ41 : z_S) => (r41 = 0 → Post σ41) ∧ (¬ r41 = 0 → z_ty σ41 a0 = some (.inl 1) ∧ kp_En_solve 8 a0 ((0 : Int32)) σ41 (fun (σ49 : z_S) => Post σ49)))))))))))))
set_option maxHeartbeats 4000000 in
set_option maxRecDepth 100000 in
theorem kc_En_solveFor (l : Launch) (D : va_G) (dA : Nat → ClassId) (Z : Nat) (a0 : Nat) (x1 : Int32) (x2 : Int32) (x3 : Int32) (σ : z_S) (Post : z_S → Prop) : Met l km_En_solveFor ks_En_solveFor kr_En_solveFor (va_Pc [.ref a0, .int x1, .int x2, .int x3] (fun U => z_U D z_cl z_KT dA Z (z_tys dA) z_nw σ U ∧ kp_En_solveFor  a0 x1 x2 x3 σ Post)) (z_Qv D z_cl z_KT dA Z (z_tys dA) z_nw Post) 0 0 (fun q => Z ≤ q) := by
  refine Met.ofW (cc := prog_3_method_6_code) (maxL := 4) (ret := none) (by decide) rfl ?_
  intro p e s m args below meth c s₁ B hml hv
  obtain ⟨rfl, ⟨hZ, hG, hK, hN⟩, hw⟩ := hv
  have hx := B.exec
  have hb := B.bytes
  have hr := B.returns
  have hts := atoms_spec (ws := ks_En_solveFor) B.pre
  have hown : s.vm.findClass kR_En = some m.cls := findClass_of_methodNamed B.named
  have hlocks := B.notSynchronized
  have hS : va_S (fun q => Z ≤ q) s.heap s.heap [] := va_S.rf
  have hl := lv_entry ([.ref a0, .int x1, .int x2, .int x3]) (n := 4) (Nat.le_of_ble_eq_true rfl)
  rw [lg_entry_eq]
  generalize (lg_sl ([.ref a0, .int x1, .int x2, .int x3]) ++ List.replicate (4 - (lg_sl ([.ref a0, .int x1, .int x2, .int x3])).length) Slot.unset).toArray = ls at hl ⊢
  have hl : lv_has ls 4 [(0, .ref a0), (1, .int x1), (2, .int x2), (3, .int x3)] := hl
  unfold kp_En_solveFor at hw
  refine lv_aload_n hx hb kb_En_solveFor_0 rfl (lv_at hl 0 rfl) ?_
  refine lv_aload_n hx hb kb_En_solveFor_1 rfl (lv_at hl 0 rfl) ?_
  obtain ⟨hy, r2, hrf, hw⟩ := hw
  refine zr_getR (ci := 1) (f := 109) hx hb hts ki_En hown hK hG hy rfl 9 (by decide) (hts _ (List.mem_cons_of_mem _ kw_164)) (fun _ h => h) rfl rfl hrf kb_En_solveFor_2 ?_
  obtain ⟨hy, r5, hrf, hw⟩ := hw
  refine zr_getR (ci := 2) (f := 200) hx hb hts ki_Pr hown hK hG hy rfl 0 (by decide) (hts _ (List.mem_cons_of_mem _ kw_26)) (fun _ h => h) rfl rfl hrf kb_En_solveFor_5 ?_
  refine lv_iload_n hx hb kb_En_solveFor_8 rfl (lv_at hl 1 rfl) ?_
  obtain ⟨n9, s9, hy, hi, r9, hrf, hw⟩ := hw
  refine zr_aald hx hb hK hG 3 (by decide) hy rfl hi hrf kb_En_solveFor_9 ?_
  obtain ⟨hy, hw⟩ := hw
  refine zr_putR (ci := 1) (f := 110) hx hb hts ki_En ky_En kyo_En kn_En hown hK hG hS hy rfl 10 (by decide) (hts _ (List.mem_cons_of_mem _ kw_165)) (fun _ h => h) rfl rfl rfl rfl rfl kb_En_solveFor_10 (fun H locs hG hS => ?_)
  obtain ⟨σ10, e10⟩ : ∃ z, z = z_sR σ 110 a0 (some r9) := ⟨_, rfl⟩
  rw [← e10] at hG
  have hw := hw _ e10
  refine lv_aload_n hx hb kb_En_solveFor_13 rfl (lv_at hl 0 rfl) ?_
  refine lv_iconst (v := (0 : Int32)) hx hb kb_En_solveFor_14 (by decide) ?_
  obtain ⟨hy, hw⟩ := hw
  refine zr_putI (ci := 1) (f := 105) hx hb hts ki_En ky_En kyo_En kn_En hown hK hG hS hy rfl 5 (by decide) (hts _ (List.mem_cons_of_mem _ kw_160)) (fun _ h => h) rfl rfl rfl rfl rfl kb_En_solveFor_15 (fun H locs hG hS => ?_)
  obtain ⟨σ15, e15⟩ : ∃ z, z = z_sI σ10 105 a0 ((0 : Int32)) := ⟨_, rfl⟩
  rw [← e15] at hG
  have hw := hw _ e15
  refine lv_aload_n hx hb kb_En_solveFor_18 rfl (lv_at hl 0 rfl) ?_
  obtain ⟨hy, r19, hrf, hw⟩ := hw
  refine zr_getR (ci := 1) (f := 110) hx hb hts ki_En hown hK hG hy rfl 10 (by decide) (hts _ (List.mem_cons_of_mem _ kw_165)) (fun _ h => h) rfl rfl hrf kb_En_solveFor_19 ?_
  obtain ⟨hy, r22, hrf, hw⟩ := hw
  refine zr_getR (ci := 5) (f := 500) hx hb hts ki_Ru hown hK hG hy rfl 0 (by decide) (hts _ (List.mem_cons_of_mem _ kw_128)) (fun _ h => h) rfl rfl hrf kb_En_solveFor_22 ?_
  obtain ⟨hy, hw⟩ := hw
  refine zr_getI (ci := 0) (f := 3) hx hb hts ki_At hown hK hG hy rfl 3 (by decide) (hts _ (List.mem_cons_of_mem _ kw_112)) (fun _ h => h) rfl rfl kb_En_solveFor_25 ?_
  refine lv_iload_n hx hb kb_En_solveFor_28 rfl (lv_at hl 2 rfl) ?_
  refine lv_icmp_ne (tgt := 52) hx hb kb_En_solveFor_29 (by decide) (fun hc => ?_) (fun hc => ?_)
  · have hw := hw.1 hc
    exact zr_vret z_nwN hx hb hr hZ hK hN hG hS hw kb_En_solveFor_52 hlocks
  · have hw := hw.2 hc
    refine lv_aload_n hx hb kb_En_solveFor_32 rfl (lv_at hl 0 rfl) ?_
    refine lv_aload_n hx hb kb_En_solveFor_33 rfl (lv_at hl 0 rfl) ?_
    obtain ⟨hy, r34, hrf, hw⟩ := hw
    refine zr_getR (ci := 1) (f := 110) hx hb hts ki_En hown hK hG hy rfl 10 (by decide) (hts _ (List.mem_cons_of_mem _ kw_165)) (fun _ h => h) rfl rfl hrf kb_En_solveFor_34 ?_
    obtain ⟨hy, r37, hrf, hw⟩ := hw
    refine zr_getR (ci := 5) (f := 500) hx hb hts ki_Ru hown hK hG hy rfl 0 (by decide) (hts _ (List.mem_cons_of_mem _ kw_128)) (fun _ h => h) rfl rfl hrf kb_En_solveFor_37 ?_
    refine lv_iload_n hx hb kb_En_solveFor_40 rfl (lv_at hl 3 rfl) ?_
    obtain ⟨hy, hw⟩ := hw
    refine zr_ci (va_runV (C := kR_En) (As := [.ref r37, .int x3]) (rest := []) ⟨hx, hb, hml, hown, hts⟩ (kc_En_matches l D dA Z a0 r37 x3 σ15 _) ⟨callB_of 2 hts (z_gw kw_448) rfl rfl rfl (hts _ (List.mem_cons_of_mem _ kw_5)) (hts _ (List.mem_cons_of_mem _ kw_446)) (by decide +kernel) ⟨Nat.le_of_ble_eq_true rfl, Nat.le_of_ble_eq_true rfl⟩, (hts _ (List.mem_cons_of_mem _ kw_447)), (hts _ (List.mem_cons_of_mem _ kw_941))⟩ (z_preV z_nwN (Nat.le_trans hZ hS.1) hG hK hN hy (ci := 1) (r := (kR_En, kT_En, 12)) rfl hw) rfl rfl hl.1 rfl (lv_room (Nat.le_of_ble_eq_true rfl)) kb_En_solveFor_41 ⟨Nat.le_of_ble_eq_true rfl, Nat.le_of_ble_eq_true rfl⟩) hS (fun r41 σ41 H locs hw hG hS => ?_)
    refine lv_if_eq (tgt := 52) hx hb kb_En_solveFor_44 (by decide) (fun hc => ?_) (fun hc => ?_)
    · have hw := hw.1 hc
      exact zr_vret z_nwN hx hb hr hZ hK hN hG hS hw kb_En_solveFor_52 hlocks
    · have hw := hw.2 hc
      refine lv_aload_n hx hb kb_En_solveFor_47 rfl (lv_at hl 0 rfl) ?_
      refine lv_iconst (v := (0 : Int32)) hx hb kb_En_solveFor_48 (by decide) ?_
      obtain ⟨hy, hw⟩ := hw
      refine zr_cv (va_runV (C := kR_En) (As := [.int ((0 : Int32))]) (rest := []) ⟨hx, hb, hml, hown, hts⟩ (kc_En_solve l D dA Z 8 a0 ((0 : Int32)) σ41 _) ⟨callB_of 1 hts (z_gw kw_401) rfl rfl rfl (hts _ (List.mem_cons_of_mem _ kw_5)) (hts _ (List.mem_cons_of_mem _ kw_399)) (by decide +kernel) ⟨Nat.le_of_ble_eq_true rfl, Nat.le_of_ble_eq_true rfl⟩, (hts _ (List.mem_cons_of_mem _ kw_400)), (hts _ (List.mem_cons_of_mem _ kw_931))⟩ (z_preV z_nwN (Nat.le_trans hZ hS.1) hG hK hN hy (ci := 1) (r := (kR_En, kT_En, 12)) rfl hw) rfl rfl hl.1 rfl (lv_room (Nat.le_of_ble_eq_true rfl)) kb_En_solveFor_49 ⟨Nat.le_of_ble_eq_true rfl, Nat.le_of_ble_eq_true rfl⟩) hS (fun σ49 H locs hw hG hS => ?_)
      exact zr_vret z_nwN hx hb hr hZ hK hN hG hS hw kb_En_solveFor_52 hlocks
def kp_En_countDerivations (a0 : Nat) (b1 : Nat) (b2 : Nat) (x3 : Int32) (x4 : Int32) (σ : z_S) (Post : Int32 → z_S → Prop) : Prop := ∀ (X10 : Int32 → z_S → Prop),
    (∀ (v5 : Int32) (σ : z_S), (z_ty σ a0 = some (.inl 1) ∧ ∃ r13, z_R σ 109 a0 = some r13 ∧ (z_ty σ r13 = some (.inl 2) ∧ (((z_I σ 201 r13) ≤ v5 → z_ty σ a0 = some (.inl 1) ∧ (Post (z_I σ 107 a0) σ)) ∧ (¬ (z_I σ 201 r13) ≤ v5 → z_ty σ a0 = some (.inl 1) ∧ kp_En_solveFor a0 v5 x3 x4 σ (fun (σ28 : z_S) => X10 (v5 + (1 : Int32)) σ28))))) → X10 v5 σ) →
    (z_ty σ a0 = some (.inl 1) ∧ kp_En_begin a0 b1 b2 ((1 : Int32)) σ (fun (σ4 : z_S) => X10 ((0 : Int32)) σ4))
set_option maxHeartbeats 4000000 in
set_option maxRecDepth 100000 in
theorem kc_En_countDerivations (l : Launch) (D : va_G) (dA : Nat → ClassId) (Z : Nat) (a0 : Nat) (b1 : Nat) (b2 : Nat) (x3 : Int32) (x4 : Int32) (σ : z_S) (Post : Int32 → z_S → Prop) : Met l km_En_countDerivations ks_En_countDerivations kr_En_countDerivations (va_Pc [.ref a0, .ref b1, .ref b2, .int x3, .int x4] (fun U => z_U D z_cl z_KT dA Z (z_tys dA) z_nw σ U ∧ kp_En_countDerivations  a0 b1 b2 x3 x4 σ Post)) (z_Qi D z_cl z_KT dA Z (z_tys dA) z_nw Post) 0 0 (fun q => Z ≤ q) := by
  refine Met.ofW (cc := prog_3_method_3_code) (maxL := 6) (ret := (some .int)) (by decide) rfl ?_
  intro p e s m args below meth c s₁ B hml hv
  obtain ⟨rfl, ⟨hZ, hG, hK, hN⟩, hw⟩ := hv
  have hx := B.exec
  have hb := B.bytes
  have hr := B.returns
  have hts := atoms_spec (ws := ks_En_countDerivations) B.pre
  have hown : s.vm.findClass kR_En = some m.cls := findClass_of_methodNamed B.named
  have hlocks := B.notSynchronized
  have hS : va_S (fun q => Z ≤ q) s.heap s.heap [] := va_S.rf
  have hl := lv_entry ([.ref a0, .ref b1, .ref b2, .int x3, .int x4]) (n := 6) (Nat.le_of_ble_eq_true rfl)
  rw [lg_entry_eq]
  generalize (lg_sl ([.ref a0, .ref b1, .ref b2, .int x3, .int x4]) ++ List.replicate (6 - (lg_sl ([.ref a0, .ref b1, .ref b2, .int x3, .int x4])).length) Slot.unset).toArray = ls at hl ⊢
  have hl : lv_has ls 6 [(0, .ref a0), (1, .ref b1), (2, .ref b2), (3, .int x3), (4, .int x4)] := hl
  unfold kp_En_countDerivations at hw
  have hw := hw (fun (v5 : Int32) (σ : z_S) => ∀ (H : Heap) (locs : List Loc) (ls : Array Slot), z_G D z_cl z_KT dA Z σ H → va_S (fun q => Z ≤ q) s.heap H locs → lv_has ls 6 [(0, .ref a0), (3, .int x3), (4, .int x4), (5, .int v5)] → W p l e (headSpec ks_En_countDerivations kr_En_countDerivations).room s m ([.ref a0, .ref b1, .ref b2, .int x3, .int x4] : List Value).toArray below meth c H locs 0 0 (MQ below (z_Qi D z_cl z_KT dA Z (z_tys dA) z_nw Post) ([.ref a0, .ref b1, .ref b2, .int x3, .int x4] : List Value).toArray s 0 0 (fun q => Z ≤ q)) (F0 m 10 ls []))
  have hw := hw (by
    intro v5 σ hw H locs ls hG hS hl
    refine lv_iload hx hb kb_En_countDerivations_10 (lv_at hl 3 rfl) ?_
    refine lv_aload_n hx hb kb_En_countDerivations_12 rfl (lv_at hl 0 rfl) ?_
    obtain ⟨hy, r13, hrf, hw⟩ := hw
    refine zr_getR (ci := 1) (f := 109) hx hb hts ki_En hown hK hG hy rfl 9 (by decide) (hts _ (List.mem_cons_of_mem _ kw_164)) (fun _ h => h) rfl rfl hrf kb_En_countDerivations_13 ?_
    obtain ⟨hy, hw⟩ := hw
    refine zr_getI (ci := 2) (f := 201) hx hb hts ki_Pr hown hK hG hy rfl 1 (by decide) (hts _ (List.mem_cons_of_mem _ kw_28)) (fun _ h => h) rfl rfl kb_En_countDerivations_16 ?_
    refine lv_icmp_ge (tgt := 37) hx hb kb_En_countDerivations_19 (by decide) (fun hc => ?_) (fun hc => ?_)
    · have hw := hw.1 hc
      refine lv_aload_n hx hb kb_En_countDerivations_37 rfl (lv_at hl 0 rfl) ?_
      obtain ⟨hy, hw⟩ := hw
      refine zr_getI (ci := 1) (f := 107) hx hb hts ki_En hown hK hG hy rfl 7 (by decide) (hts _ (List.mem_cons_of_mem _ kw_162)) (fun _ h => h) rfl rfl kb_En_countDerivations_38 ?_
      exact zr_iret (free := fun q => Z ≤ q) z_nwN hx hb hr rfl hZ hK hN hG hS hw kb_En_countDerivations_41 hlocks
    · have hw := hw.2 hc
      refine lv_aload_n hx hb kb_En_countDerivations_22 rfl (lv_at hl 0 rfl) ?_
      refine lv_iload hx hb kb_En_countDerivations_23 (lv_at hl 3 rfl) ?_
      refine lv_iload_n hx hb kb_En_countDerivations_25 rfl (lv_at hl 1 rfl) ?_
      refine lv_iload hx hb kb_En_countDerivations_26 (lv_at hl 2 rfl) ?_
      obtain ⟨hy, hw⟩ := hw
      refine zr_cv (va_runV (C := kR_En) (As := [.int v5, .int x3, .int x4]) (rest := []) ⟨hx, hb, hml, hown, hts⟩ (kc_En_solveFor l D dA Z a0 v5 x3 x4 σ _) ⟨callB_of 3 hts (z_gw kw_554) rfl rfl rfl (hts _ (List.mem_cons_of_mem _ kw_5)) (hts _ (List.mem_cons_of_mem _ kw_552)) (by decide +kernel) ⟨Nat.le_of_ble_eq_true rfl, Nat.le_of_ble_eq_true rfl⟩, (hts _ (List.mem_cons_of_mem _ kw_553)), (hts _ (List.mem_cons_of_mem _ kw_950))⟩ (z_preV z_nwN (Nat.le_trans hZ hS.1) hG hK hN hy (ci := 1) (r := (kR_En, kT_En, 12)) rfl hw) rfl rfl hl.1 rfl (lv_room (Nat.le_of_ble_eq_true rfl)) kb_En_countDerivations_28 ⟨Nat.le_of_ble_eq_true rfl, Nat.le_of_ble_eq_true rfl⟩) hS (fun σ28 H locs hw hG hS => ?_)
      refine lv_iinc (v := v5 + (1 : Int32)) (lv' := [(5, .int (v5 + (1 : Int32))), (0, .ref a0), (3, .int x3), (4, .int x4)]) hx hb kb_En_countDerivations_31 hl (k := 3) rfl rfl (by decide) rfl (fun ls hl => ?_)
      refine lv_goto (tgt := 10) hx hb kb_En_countDerivations_34 (by decide) ?_
      exact hw _ _ _ hG hS (lv_sub hl [1, 2, 3, 0] rfl))
  refine lv_aload_n hx hb kb_En_countDerivations_0 rfl (lv_at hl 0 rfl) ?_
  refine lv_aload_n hx hb kb_En_countDerivations_1 rfl (lv_at hl 1 rfl) ?_
  refine lv_aload_n hx hb kb_En_countDerivations_2 rfl (lv_at hl 2 rfl) ?_
  refine lv_iconst (v := (1 : Int32)) hx hb kb_En_countDerivations_3 (by decide) ?_
  obtain ⟨hy, hw⟩ := hw
  refine zr_cv (va_runV (C := kR_En) (As := [.ref b1, .ref b2, .int ((1 : Int32))]) (rest := []) ⟨hx, hb, hml, hown, hts⟩ (kc_En_begin l D dA Z a0 b1 b2 ((1 : Int32)) σ _) ⟨callB_of 3 hts (z_gw kw_391) rfl rfl rfl (hts _ (List.mem_cons_of_mem _ kw_5)) (hts _ (List.mem_cons_of_mem _ kw_389)) (by decide +kernel) ⟨Nat.le_of_ble_eq_true rfl, Nat.le_of_ble_eq_true rfl⟩, (hts _ (List.mem_cons_of_mem _ kw_390)), (hts _ (List.mem_cons_of_mem _ kw_928))⟩ (z_preV z_nwN (Nat.le_trans hZ hS.1) hG hK hN hy (ci := 1) (r := (kR_En, kT_En, 12)) rfl hw) rfl rfl hl.1 rfl (lv_room (Nat.le_of_ble_eq_true rfl)) kb_En_countDerivations_4 ⟨Nat.le_of_ble_eq_true rfl, Nat.le_of_ble_eq_true rfl⟩) hS (fun σ4 H locs hw hG hS => ?_)
  refine lv_iconst (v := (0 : Int32)) hx hb kb_En_countDerivations_7 (by decide) ?_
  refine lv_istore (lv' := [(5, .int ((0 : Int32))), (0, .ref a0), (1, .ref b1), (2, .ref b2), (3, .int x3), (4, .int x4)]) hx hb kb_En_countDerivations_8 hl (by decide) rfl (fun ls hl => ?_)
  exact hw _ _ _ hG hS (lv_sub hl [1, 4, 5, 0] rfl)
def kp_En_findLeast (a0 : Nat) (b1 : Nat) (b2 : Nat) (x3 : Int32) (x4 : Int32) (σ : z_S) (Post : Int32 → z_S → Prop) : Prop := ∀ (X10 : Int32 → z_S → Prop),
    (∀ (v5 : Int32) (σ : z_S), (z_ty σ a0 = some (.inl 1) ∧ ∃ r13, z_R σ 109 a0 = some r13 ∧ (z_ty σ r13 = some (.inl 2) ∧ (((z_I σ 201 r13) ≤ v5 → Post ((-1 : Int32)) σ) ∧ (¬ (z_I σ 201 r13) ≤ v5 → z_ty σ a0 = some (.inl 1) ∧ kp_En_solveFor a0 v5 x3 x4 σ (fun (σ28 : z_S) => z_ty σ28 a0 = some (.inl 1) ∧ ((((z_I σ28 107 a0)) ≤ 0 → X10 (v5 + (1 : Int32)) σ28) ∧ (¬ ((z_I σ28 107 a0)) ≤ 0 → Post v5 σ28))))))) → X10 v5 σ) →
    (z_ty σ a0 = some (.inl 1) ∧ kp_En_begin a0 b1 b2 ((2 : Int32)) σ (fun (σ4 : z_S) => X10 ((0 : Int32)) σ4))
set_option maxHeartbeats 4000000 in
set_option maxRecDepth 100000 in
theorem kc_En_findLeast (l : Launch) (D : va_G) (dA : Nat → ClassId) (Z : Nat) (a0 : Nat) (b1 : Nat) (b2 : Nat) (x3 : Int32) (x4 : Int32) (σ : z_S) (Post : Int32 → z_S → Prop) : Met l km_En_findLeast ks_En_findLeast kr_En_findLeast (va_Pc [.ref a0, .ref b1, .ref b2, .int x3, .int x4] (fun U => z_U D z_cl z_KT dA Z (z_tys dA) z_nw σ U ∧ kp_En_findLeast  a0 b1 b2 x3 x4 σ Post)) (z_Qi D z_cl z_KT dA Z (z_tys dA) z_nw Post) 0 0 (fun q => Z ≤ q) := by
  refine Met.ofW (cc := prog_3_method_4_code) (maxL := 6) (ret := (some .int)) (by decide) rfl ?_
  intro p e s m args below meth c s₁ B hml hv
  obtain ⟨rfl, ⟨hZ, hG, hK, hN⟩, hw⟩ := hv
  have hx := B.exec
  have hb := B.bytes
  have hr := B.returns
  have hts := atoms_spec (ws := ks_En_findLeast) B.pre
  have hown : s.vm.findClass kR_En = some m.cls := findClass_of_methodNamed B.named
  have hlocks := B.notSynchronized
  have hS : va_S (fun q => Z ≤ q) s.heap s.heap [] := va_S.rf
  have hl := lv_entry ([.ref a0, .ref b1, .ref b2, .int x3, .int x4]) (n := 6) (Nat.le_of_ble_eq_true rfl)
  rw [lg_entry_eq]
  generalize (lg_sl ([.ref a0, .ref b1, .ref b2, .int x3, .int x4]) ++ List.replicate (6 - (lg_sl ([.ref a0, .ref b1, .ref b2, .int x3, .int x4])).length) Slot.unset).toArray = ls at hl ⊢
  have hl : lv_has ls 6 [(0, .ref a0), (1, .ref b1), (2, .ref b2), (3, .int x3), (4, .int x4)] := hl
  unfold kp_En_findLeast at hw
  have hw := hw (fun (v5 : Int32) (σ : z_S) => ∀ (H : Heap) (locs : List Loc) (ls : Array Slot), z_G D z_cl z_KT dA Z σ H → va_S (fun q => Z ≤ q) s.heap H locs → lv_has ls 6 [(0, .ref a0), (3, .int x3), (4, .int x4), (5, .int v5)] → W p l e (headSpec ks_En_findLeast kr_En_findLeast).room s m ([.ref a0, .ref b1, .ref b2, .int x3, .int x4] : List Value).toArray below meth c H locs 0 0 (MQ below (z_Qi D z_cl z_KT dA Z (z_tys dA) z_nw Post) ([.ref a0, .ref b1, .ref b2, .int x3, .int x4] : List Value).toArray s 0 0 (fun q => Z ≤ q)) (F0 m 10 ls []))
  have hw := hw (by
    intro v5 σ hw H locs ls hG hS hl
    refine lv_iload hx hb kb_En_findLeast_10 (lv_at hl 3 rfl) ?_
    refine lv_aload_n hx hb kb_En_findLeast_12 rfl (lv_at hl 0 rfl) ?_
    obtain ⟨hy, r13, hrf, hw⟩ := hw
    refine zr_getR (ci := 1) (f := 109) hx hb hts ki_En hown hK hG hy rfl 9 (by decide) (hts _ (List.mem_cons_of_mem _ kw_164)) (fun _ h => h) rfl rfl hrf kb_En_findLeast_13 ?_
    obtain ⟨hy, hw⟩ := hw
    refine zr_getI (ci := 2) (f := 201) hx hb hts ki_Pr hown hK hG hy rfl 1 (by decide) (hts _ (List.mem_cons_of_mem _ kw_28)) (fun _ h => h) rfl rfl kb_En_findLeast_16 ?_
    refine lv_icmp_ge (tgt := 47) hx hb kb_En_findLeast_19 (by decide) (fun hc => ?_) (fun hc => ?_)
    · have hw := hw.1 hc
      refine lv_iconst (v := (-1 : Int32)) hx hb kb_En_findLeast_47 (by decide) ?_
      exact zr_iret (free := fun q => Z ≤ q) z_nwN hx hb hr rfl hZ hK hN hG hS hw kb_En_findLeast_48 hlocks
    · have hw := hw.2 hc
      refine lv_aload_n hx hb kb_En_findLeast_22 rfl (lv_at hl 0 rfl) ?_
      refine lv_iload hx hb kb_En_findLeast_23 (lv_at hl 3 rfl) ?_
      refine lv_iload_n hx hb kb_En_findLeast_25 rfl (lv_at hl 1 rfl) ?_
      refine lv_iload hx hb kb_En_findLeast_26 (lv_at hl 2 rfl) ?_
      obtain ⟨hy, hw⟩ := hw
      refine zr_cv (va_runV (C := kR_En) (As := [.int v5, .int x3, .int x4]) (rest := []) ⟨hx, hb, hml, hown, hts⟩ (kc_En_solveFor l D dA Z a0 v5 x3 x4 σ _) ⟨callB_of 3 hts (z_gw kw_554) rfl rfl rfl (hts _ (List.mem_cons_of_mem _ kw_5)) (hts _ (List.mem_cons_of_mem _ kw_552)) (by decide +kernel) ⟨Nat.le_of_ble_eq_true rfl, Nat.le_of_ble_eq_true rfl⟩, (hts _ (List.mem_cons_of_mem _ kw_553)), (hts _ (List.mem_cons_of_mem _ kw_950))⟩ (z_preV z_nwN (Nat.le_trans hZ hS.1) hG hK hN hy (ci := 1) (r := (kR_En, kT_En, 12)) rfl hw) rfl rfl hl.1 rfl (lv_room (Nat.le_of_ble_eq_true rfl)) kb_En_findLeast_28 ⟨Nat.le_of_ble_eq_true rfl, Nat.le_of_ble_eq_true rfl⟩) hS (fun σ28 H locs hw hG hS => ?_)
      refine lv_aload_n hx hb kb_En_findLeast_31 rfl (lv_at hl 0 rfl) ?_
      obtain ⟨hy, hw⟩ := hw
      refine zr_getI (ci := 1) (f := 107) hx hb hts ki_En hown hK hG hy rfl 7 (by decide) (hts _ (List.mem_cons_of_mem _ kw_162)) (fun _ h => h) rfl rfl kb_En_findLeast_32 ?_
      refine lv_if_le (tgt := 41) hx hb kb_En_findLeast_35 (by decide) (fun hc => ?_) (fun hc => ?_)
      · have hw := hw.1 hc
        refine lv_iinc (v := v5 + (1 : Int32)) (lv' := [(5, .int (v5 + (1 : Int32))), (0, .ref a0), (3, .int x3), (4, .int x4)]) hx hb kb_En_findLeast_41 hl (k := 3) rfl rfl (by decide) rfl (fun ls hl => ?_)
        refine lv_goto (tgt := 10) hx hb kb_En_findLeast_44 (by decide) ?_
        exact hw _ _ _ hG hS (lv_sub hl [1, 2, 3, 0] rfl)
      · have hw := hw.2 hc
        refine lv_iload hx hb kb_En_findLeast_38 (lv_at hl 3 rfl) ?_
        exact zr_iret (free := fun q => Z ≤ q) z_nwN hx hb hr rfl hZ hK hN hG hS hw kb_En_findLeast_40 hlocks)
  refine lv_aload_n hx hb kb_En_findLeast_0 rfl (lv_at hl 0 rfl) ?_
  refine lv_aload_n hx hb kb_En_findLeast_1 rfl (lv_at hl 1 rfl) ?_
  refine lv_aload_n hx hb kb_En_findLeast_2 rfl (lv_at hl 2 rfl) ?_
  refine lv_iconst (v := (2 : Int32)) hx hb kb_En_findLeast_3 (by decide) ?_
  obtain ⟨hy, hw⟩ := hw
  refine zr_cv (va_runV (C := kR_En) (As := [.ref b1, .ref b2, .int ((2 : Int32))]) (rest := []) ⟨hx, hb, hml, hown, hts⟩ (kc_En_begin l D dA Z a0 b1 b2 ((2 : Int32)) σ _) ⟨callB_of 3 hts (z_gw kw_391) rfl rfl rfl (hts _ (List.mem_cons_of_mem _ kw_5)) (hts _ (List.mem_cons_of_mem _ kw_389)) (by decide +kernel) ⟨Nat.le_of_ble_eq_true rfl, Nat.le_of_ble_eq_true rfl⟩, (hts _ (List.mem_cons_of_mem _ kw_390)), (hts _ (List.mem_cons_of_mem _ kw_928))⟩ (z_preV z_nwN (Nat.le_trans hZ hS.1) hG hK hN hy (ci := 1) (r := (kR_En, kT_En, 12)) rfl hw) rfl rfl hl.1 rfl (lv_room (Nat.le_of_ble_eq_true rfl)) kb_En_findLeast_4 ⟨Nat.le_of_ble_eq_true rfl, Nat.le_of_ble_eq_true rfl⟩) hS (fun σ4 H locs hw hG hS => ?_)
  refine lv_iconst (v := (0 : Int32)) hx hb kb_En_findLeast_7 (by decide) ?_
  refine lv_istore (lv' := [(5, .int ((0 : Int32))), (0, .ref a0), (1, .ref b1), (2, .ref b2), (3, .int x3), (4, .int x4)]) hx hb kb_En_findLeast_8 hl (by decide) rfl (fun ls hl => ?_)
  exact hw _ _ _ hG hS (lv_sub hl [1, 4, 5, 0] rfl)
def kp_Pr_isCounted (a0 : Nat) (x1 : Int32) (σ : z_S) (Post : Int32 → z_S → Prop) : Prop :=     (z_ty σ a0 = some (.inl 2) ∧ kp_Pr_isRelation a0 x1 σ (fun (r2 : Int32) (σ2 : z_S) => (r2 = 0 → Post ((0 : Int32)) σ2) ∧ (¬ r2 = 0 → z_ty σ2 a0 = some (.inl 2) ∧ (kp_Vr_isIn (z_I σ2 210 a0) x1 σ2 (fun (r13 : Int32) (σ13 : z_S) => (r13 = 0 → Post ((0 : Int32)) σ13) ∧ (¬ r13 = 0 → Post ((1 : Int32)) σ13))))))
set_option maxHeartbeats 4000000 in
set_option maxRecDepth 100000 in
theorem kc_Pr_isCounted (l : Launch) (D : va_G) (dA : Nat → ClassId) (Z : Nat) (a0 : Nat) (x1 : Int32) (σ : z_S) (Post : Int32 → z_S → Prop) : Met l km_Pr_isCounted ks_Pr_isCounted kr_Pr_isCounted (va_Pc [.ref a0, .int x1] (fun U => z_U D z_cl z_KT dA Z (z_tys dA) z_nw σ U ∧ kp_Pr_isCounted  a0 x1 σ Post)) (z_Qi D z_cl z_KT dA Z (z_tys dA) z_nw Post) 0 0 (fun q => Z ≤ q) := by
  refine Met.ofW (cc := prog_4_method_4_code) (maxL := 2) (ret := (some .boolean)) (by decide) rfl ?_
  intro p e s m args below meth c s₁ B hml hv
  obtain ⟨rfl, ⟨hZ, hG, hK, hN⟩, hw⟩ := hv
  have hx := B.exec
  have hb := B.bytes
  have hr := B.returns
  have hts := atoms_spec (ws := ks_Pr_isCounted) B.pre
  have hown : s.vm.findClass kR_Pr = some m.cls := findClass_of_methodNamed B.named
  have hlocks := B.notSynchronized
  have hS : va_S (fun q => Z ≤ q) s.heap s.heap [] := va_S.rf
  have hl := lv_entry ([.ref a0, .int x1]) (n := 2) (Nat.le_of_ble_eq_true rfl)
  rw [lg_entry_eq]
  generalize (lg_sl ([.ref a0, .int x1]) ++ List.replicate (2 - (lg_sl ([.ref a0, .int x1])).length) Slot.unset).toArray = ls at hl ⊢
  have hl : lv_has ls 2 [(0, .ref a0), (1, .int x1)] := hl
  unfold kp_Pr_isCounted at hw
  refine lv_aload_n hx hb kb_Pr_isCounted_0 rfl (lv_at hl 0 rfl) ?_
  refine lv_iload_n hx hb kb_Pr_isCounted_1 rfl (lv_at hl 1 rfl) ?_
  obtain ⟨hy, hw⟩ := hw
  refine zr_ci (va_runV (C := kR_Pr) (As := [.int x1]) (rest := []) ⟨hx, hb, hml, hown, hts⟩ (kc_Pr_isRelation l D dA Z a0 x1 σ _) ⟨callB_of 1 hts (z_gw kw_328) rfl rfl rfl (hts _ (List.mem_cons_of_mem _ kw_2)) (hts _ (List.mem_cons_of_mem _ kw_325)) (by decide +kernel) ⟨Nat.le_of_ble_eq_true rfl, Nat.le_of_ble_eq_true rfl⟩, (hts _ (List.mem_cons_of_mem _ kw_326)), (hts _ (List.mem_cons_of_mem _ kw_327))⟩ (z_preV z_nwN (Nat.le_trans hZ hS.1) hG hK hN hy (ci := 2) (r := (kR_Pr, kT_Pr, 11)) rfl hw) rfl rfl hl.1 rfl (lv_room (Nat.le_of_ble_eq_true rfl)) kb_Pr_isCounted_2 ⟨Nat.le_of_ble_eq_true rfl, Nat.le_of_ble_eq_true rfl⟩) hS (fun r2 σ2 H locs hw hG hS => ?_)
  refine lv_if_eq (tgt := 23) hx hb kb_Pr_isCounted_5 (by decide) (fun hc => ?_) (fun hc => ?_)
  · have hw := hw.1 hc
    refine lv_iconst (v := (0 : Int32)) hx hb kb_Pr_isCounted_23 (by decide) ?_
    exact zr_iret (free := fun q => Z ≤ q) z_nwN hx hb hr rfl hZ hK hN hG hS hw kb_Pr_isCounted_24 hlocks
  · have hw := hw.2 hc
    refine lv_aload_n hx hb kb_Pr_isCounted_8 rfl (lv_at hl 0 rfl) ?_
    obtain ⟨hy, hw⟩ := hw
    refine zr_getI (ci := 2) (f := 210) hx hb hts ki_Pr hown hK hG hy rfl 10 (by decide) (hts _ (List.mem_cons_of_mem _ kw_51)) (fun _ h => h) rfl rfl kb_Pr_isCounted_9 ?_
    refine lv_iload_n hx hb kb_Pr_isCounted_12 rfl (lv_at hl 1 rfl) ?_
    refine zr_ci (va_runSN (As := [.int (z_I σ2 210 a0), .int x1]) (rest := []) ⟨hx, hb, hml, hown, hts⟩ (kc_Vr_isIn l D dA Z (z_I σ2 210 a0) x1 σ2 _) ⟨va_cnB 2 hts (z_gw kw_309) rfl rfl rfl (hN _ kq_9) (hts _ (List.mem_cons_of_mem _ kw_1)) (by decide +kernel) ⟨Nat.le_of_ble_eq_true rfl, Nat.le_of_ble_eq_true rfl⟩, (hts _ (List.mem_cons_of_mem _ kw_308)), trivial⟩ (z_preS z_nwN (Nat.le_trans hZ hS.1) hG hK hN hw) rfl rfl hl.1 rfl (lv_room (Nat.le_of_ble_eq_true rfl)) kb_Pr_isCounted_13 ⟨Nat.le_of_ble_eq_true rfl, Nat.le_of_ble_eq_true rfl⟩) hS (fun r13 σ13 H locs hw hG hS => ?_)
    refine lv_if_eq (tgt := 23) hx hb kb_Pr_isCounted_16 (by decide) (fun hc => ?_) (fun hc => ?_)
    · have hw := hw.1 hc
      refine lv_iconst (v := (0 : Int32)) hx hb kb_Pr_isCounted_23 (by decide) ?_
      exact zr_iret (free := fun q => Z ≤ q) z_nwN hx hb hr rfl hZ hK hN hG hS hw kb_Pr_isCounted_24 hlocks
    · have hw := hw.2 hc
      refine lv_iconst (v := (1 : Int32)) hx hb kb_Pr_isCounted_19 (by decide) ?_
      refine lv_goto (tgt := 24) hx hb kb_Pr_isCounted_20 (by decide) ?_
      exact zr_iret (free := fun q => Z ≤ q) z_nwN hx hb hr rfl hZ hK hN hG hS hw kb_Pr_isCounted_24 hlocks
def kp_Pr_relationNamed (a0 : Nat) (x1 : Int32) (σ : z_S) (Post : Int32 → z_S → Prop) : Prop := ∀ (X2 : Int32 → z_S → Prop),
    (∀ (v2 : Int32) (σ : z_S), (z_ty σ a0 = some (.inl 2) ∧ (((z_I σ 206 a0) ≤ v2 → Post ((-1 : Int32)) σ) ∧ (¬ (z_I σ 206 a0) ≤ v2 → z_ty σ a0 = some (.inl 2) ∧ ∃ r11, z_R σ 202 a0 = some r11 ∧ (∃ n15 s15, z_ty σ r11 = some (.inr (0, n15, s15)) ∧ vp_in v2 n15 ∧ ((¬ (z_A σ s15 r11 v2.toNatClampNeg) = x1 → X2 (v2 + (1 : Int32)) σ) ∧ ((z_A σ s15 r11 v2.toNatClampNeg) = x1 → Post v2 σ)))))) → X2 v2 σ) →
    (X2 ((0 : Int32)) σ)
set_option maxHeartbeats 4000000 in
set_option maxRecDepth 100000 in
theorem kc_Pr_relationNamed (l : Launch) (D : va_G) (dA : Nat → ClassId) (Z : Nat) (a0 : Nat) (x1 : Int32) (σ : z_S) (Post : Int32 → z_S → Prop) : Met l km_Pr_relationNamed ks_Pr_relationNamed kr_Pr_relationNamed (va_Pc [.ref a0, .int x1] (fun U => z_U D z_cl z_KT dA Z (z_tys dA) z_nw σ U ∧ kp_Pr_relationNamed  a0 x1 σ Post)) (z_Qi D z_cl z_KT dA Z (z_tys dA) z_nw Post) 0 0 (fun q => Z ≤ q) := by
  refine Met.ofW (cc := prog_4_method_5_code) (maxL := 3) (ret := (some .int)) (by decide) rfl ?_
  intro p e s m args below meth c s₁ B hml hv
  obtain ⟨rfl, ⟨hZ, hG, hK, hN⟩, hw⟩ := hv
  have hx := B.exec
  have hb := B.bytes
  have hr := B.returns
  have hts := atoms_spec (ws := ks_Pr_relationNamed) B.pre
  have hown : s.vm.findClass kR_Pr = some m.cls := findClass_of_methodNamed B.named
  have hlocks := B.notSynchronized
  have hS : va_S (fun q => Z ≤ q) s.heap s.heap [] := va_S.rf
  have hl := lv_entry ([.ref a0, .int x1]) (n := 3) (Nat.le_of_ble_eq_true rfl)
  rw [lg_entry_eq]
  generalize (lg_sl ([.ref a0, .int x1]) ++ List.replicate (3 - (lg_sl ([.ref a0, .int x1])).length) Slot.unset).toArray = ls at hl ⊢
  have hl : lv_has ls 3 [(0, .ref a0), (1, .int x1)] := hl
  unfold kp_Pr_relationNamed at hw
  have hw := hw (fun (v2 : Int32) (σ : z_S) => ∀ (H : Heap) (locs : List Loc) (ls : Array Slot), z_G D z_cl z_KT dA Z σ H → va_S (fun q => Z ≤ q) s.heap H locs → lv_has ls 3 [(0, .ref a0), (1, .int x1), (2, .int v2)] → W p l e (headSpec ks_Pr_relationNamed kr_Pr_relationNamed).room s m ([.ref a0, .int x1] : List Value).toArray below meth c H locs 0 0 (MQ below (z_Qi D z_cl z_KT dA Z (z_tys dA) z_nw Post) ([.ref a0, .int x1] : List Value).toArray s 0 0 (fun q => Z ≤ q)) (F0 m 2 ls []))
  have hw := hw (by
    intro v2 σ hw H locs ls hG hS hl
    refine lv_iload_n hx hb kb_Pr_relationNamed_2 rfl (lv_at hl 2 rfl) ?_
    refine lv_aload_n hx hb kb_Pr_relationNamed_3 rfl (lv_at hl 0 rfl) ?_
    obtain ⟨hy, hw⟩ := hw
    refine zr_getI (ci := 2) (f := 206) hx hb hts ki_Pr hown hK hG hy rfl 6 (by decide) (hts _ (List.mem_cons_of_mem _ kw_42)) (fun _ h => h) rfl rfl kb_Pr_relationNamed_4 ?_
    refine lv_icmp_ge (tgt := 28) hx hb kb_Pr_relationNamed_7 (by decide) (fun hc => ?_) (fun hc => ?_)
    · have hw := hw.1 hc
      refine lv_iconst (v := (-1 : Int32)) hx hb kb_Pr_relationNamed_28 (by decide) ?_
      exact zr_iret (free := fun q => Z ≤ q) z_nwN hx hb hr rfl hZ hK hN hG hS hw kb_Pr_relationNamed_29 hlocks
    · have hw := hw.2 hc
      refine lv_aload_n hx hb kb_Pr_relationNamed_10 rfl (lv_at hl 0 rfl) ?_
      obtain ⟨hy, r11, hrf, hw⟩ := hw
      refine zr_getR (ci := 2) (f := 202) hx hb hts ki_Pr hown hK hG hy rfl 2 (by decide) (hts _ (List.mem_cons_of_mem _ kw_32)) (fun _ h => h) rfl rfl hrf kb_Pr_relationNamed_11 ?_
      refine lv_iload_n hx hb kb_Pr_relationNamed_14 rfl (lv_at hl 2 rfl) ?_
      obtain ⟨n15, s15, hy, hi, hw⟩ := hw
      refine zr_iald hx hb hK hG 0 hy rfl hi kb_Pr_relationNamed_15 ?_
      refine lv_iload_n hx hb kb_Pr_relationNamed_16 rfl (lv_at hl 1 rfl) ?_
      refine lv_icmp_ne (tgt := 22) hx hb kb_Pr_relationNamed_17 (by decide) (fun hc => ?_) (fun hc => ?_)
      · have hw := hw.1 hc
        refine lv_iinc (v := v2 + (1 : Int32)) (lv' := [(2, .int (v2 + (1 : Int32))), (0, .ref a0), (1, .int x1)]) hx hb kb_Pr_relationNamed_22 hl (k := 2) rfl rfl (by decide) rfl (fun ls hl => ?_)
        refine lv_goto (tgt := 2) hx hb kb_Pr_relationNamed_25 (by decide) ?_
        exact hw _ _ _ hG hS (lv_sub hl [1, 2, 0] rfl)
      · have hw := hw.2 hc
        refine lv_iload_n hx hb kb_Pr_relationNamed_20 rfl (lv_at hl 2 rfl) ?_
        exact zr_iret (free := fun q => Z ≤ q) z_nwN hx hb hr rfl hZ hK hN hG hS hw kb_Pr_relationNamed_21 hlocks)
  refine lv_iconst (v := (0 : Int32)) hx hb kb_Pr_relationNamed_0 (by decide) ?_
  refine lv_istore_n (lv' := [(2, .int ((0 : Int32))), (0, .ref a0), (1, .int x1)]) hx hb kb_Pr_relationNamed_1 rfl hl (by decide) rfl (fun ls hl => ?_)
  exact hw _ _ _ hG hS (lv_sub hl [1, 2, 0] rfl)
def kp_Pr_relationMade (a0 : Nat) (x1 : Int32) (σ : z_S) (Post : Int32 → z_S → Prop) : Prop :=     (z_ty σ a0 = some (.inl 2) ∧ kp_Pr_relationNamed a0 x1 σ (fun (r2 : Int32) (σ2 : z_S) => (¬ r2 = ((-1 : Int32)) → Post r2 σ2) ∧ (r2 = ((-1 : Int32)) → z_ty σ2 a0 = some (.inl 2) ∧ (((z_I σ2 206 a0) < ((8 : Int32)) → z_ty σ2 a0 = some (.inl 2) ∧ ∃ r23, z_R σ2 202 a0 = some r23 ∧ (z_ty σ2 a0 = some (.inl 2) ∧ (∃ n31 s31, z_ty σ2 r23 = some (.inr (0, n31, s31)) ∧ vp_in (z_I σ2 206 a0) n31 ∧ ∀ σ31, σ31 = z_sA σ2 s31 r23 (upd (z_A σ2 s31 r23) (z_I σ2 206 a0).toNatClampNeg x1) → z_ty σ31 a0 = some (.inl 2) ∧ (z_ty σ31 a0 = some (.inl 2) ∧ ∀ σ39, σ39 = z_sI σ31 206 a0 ((z_I σ31 206 a0) + ((1 : Int32))) → z_ty σ39 a0 = some (.inl 2) ∧ (Post ((z_I σ39 206 a0) - ((1 : Int32))) σ39))))) ∧ (¬ (z_I σ2 206 a0) < ((8 : Int32)) → Post r2 σ2)))))
set_option maxHeartbeats 4000000 in
set_option maxRecDepth 100000 in
theorem kc_Pr_relationMade (l : Launch) (D : va_G) (dA : Nat → ClassId) (Z : Nat) (a0 : Nat) (x1 : Int32) (σ : z_S) (Post : Int32 → z_S → Prop) : Met l km_Pr_relationMade ks_Pr_relationMade kr_Pr_relationMade (va_Pc [.ref a0, .int x1] (fun U => z_U D z_cl z_KT dA Z (z_tys dA) z_nw σ U ∧ kp_Pr_relationMade  a0 x1 σ Post)) (z_Qi D z_cl z_KT dA Z (z_tys dA) z_nw Post) 0 0 (fun q => Z ≤ q) := by
  refine Met.ofW (cc := prog_4_method_6_code) (maxL := 3) (ret := (some .int)) (by decide) rfl ?_
  intro p e s m args below meth c s₁ B hml hv
  obtain ⟨rfl, ⟨hZ, hG, hK, hN⟩, hw⟩ := hv
  have hx := B.exec
  have hb := B.bytes
  have hr := B.returns
  have hts := atoms_spec (ws := ks_Pr_relationMade) B.pre
  have hown : s.vm.findClass kR_Pr = some m.cls := findClass_of_methodNamed B.named
  have hlocks := B.notSynchronized
  have hS : va_S (fun q => Z ≤ q) s.heap s.heap [] := va_S.rf
  have hl := lv_entry ([.ref a0, .int x1]) (n := 3) (Nat.le_of_ble_eq_true rfl)
  rw [lg_entry_eq]
  generalize (lg_sl ([.ref a0, .int x1]) ++ List.replicate (3 - (lg_sl ([.ref a0, .int x1])).length) Slot.unset).toArray = ls at hl ⊢
  have hl : lv_has ls 3 [(0, .ref a0), (1, .int x1)] := hl
  unfold kp_Pr_relationMade at hw
  refine lv_aload_n hx hb kb_Pr_relationMade_0 rfl (lv_at hl 0 rfl) ?_
  refine lv_iload_n hx hb kb_Pr_relationMade_1 rfl (lv_at hl 1 rfl) ?_
  obtain ⟨hy, hw⟩ := hw
  refine zr_ci (va_runV (C := kR_Pr) (As := [.int x1]) (rest := []) ⟨hx, hb, hml, hown, hts⟩ (kc_Pr_relationNamed l D dA Z a0 x1 σ _) ⟨callB_of 1 hts (z_gw kw_279) rfl rfl rfl (hts _ (List.mem_cons_of_mem _ kw_2)) (hts _ (List.mem_cons_of_mem _ kw_284)) (by decide +kernel) ⟨Nat.le_of_ble_eq_true rfl, Nat.le_of_ble_eq_true rfl⟩, (hts _ (List.mem_cons_of_mem _ kw_277)), (hts _ (List.mem_cons_of_mem _ kw_278))⟩ (z_preV z_nwN (Nat.le_trans hZ hS.1) hG hK hN hy (ci := 2) (r := (kR_Pr, kT_Pr, 11)) rfl hw) rfl rfl hl.1 rfl (lv_room (Nat.le_of_ble_eq_true rfl)) kb_Pr_relationMade_2 ⟨Nat.le_of_ble_eq_true rfl, Nat.le_of_ble_eq_true rfl⟩) hS (fun r2 σ2 H locs hw hG hS => ?_)
  refine lv_istore_n (lv' := [(2, .int r2), (0, .ref a0), (1, .int x1)]) hx hb kb_Pr_relationMade_5 rfl hl (by decide) rfl (fun ls hl => ?_)
  refine lv_iload_n hx hb kb_Pr_relationMade_6 rfl (lv_at hl 0 rfl) ?_
  refine lv_iconst (v := (-1 : Int32)) hx hb kb_Pr_relationMade_7 (by decide) ?_
  refine lv_icmp_ne (tgt := 20) hx hb kb_Pr_relationMade_8 (by decide) (fun hc => ?_) (fun hc => ?_)
  · have hw := hw.1 hc
    refine lv_iload_n hx hb kb_Pr_relationMade_20 rfl (lv_at hl 0 rfl) ?_
    exact zr_iret (free := fun q => Z ≤ q) z_nwN hx hb hr rfl hZ hK hN hG hS hw kb_Pr_relationMade_21 hlocks
  · have hw := hw.2 hc
    refine lv_aload_n hx hb kb_Pr_relationMade_11 rfl (lv_at hl 1 rfl) ?_
    obtain ⟨hy, hw⟩ := hw
    refine zr_getI (ci := 2) (f := 206) hx hb hts ki_Pr hown hK hG hy rfl 6 (by decide) (hts _ (List.mem_cons_of_mem _ kw_42)) (fun _ h => h) rfl rfl kb_Pr_relationMade_12 ?_
    refine lv_bipush (v := (8 : Int32)) hx hb kb_Pr_relationMade_15 (by decide) ?_
    refine lv_icmp_lt (tgt := 22) hx hb kb_Pr_relationMade_17 (by decide) (fun hc => ?_) (fun hc => ?_)
    · have hw := hw.1 hc
      refine lv_aload_n hx hb kb_Pr_relationMade_22 rfl (lv_at hl 1 rfl) ?_
      obtain ⟨hy, r23, hrf, hw⟩ := hw
      refine zr_getR (ci := 2) (f := 202) hx hb hts ki_Pr hown hK hG hy rfl 2 (by decide) (hts _ (List.mem_cons_of_mem _ kw_32)) (fun _ h => h) rfl rfl hrf kb_Pr_relationMade_23 ?_
      refine lv_aload_n hx hb kb_Pr_relationMade_26 rfl (lv_at hl 1 rfl) ?_
      obtain ⟨hy, hw⟩ := hw
      refine zr_getI (ci := 2) (f := 206) hx hb hts ki_Pr hown hK hG hy rfl 6 (by decide) (hts _ (List.mem_cons_of_mem _ kw_42)) (fun _ h => h) rfl rfl kb_Pr_relationMade_27 ?_
      refine lv_iload_n hx hb kb_Pr_relationMade_30 rfl (lv_at hl 2 rfl) ?_
      obtain ⟨n31, s31, hy, hi, hw⟩ := hw
      refine zr_iast hx hb hK hG hS 0 hy rfl hi kb_Pr_relationMade_31 (fun H locs hG hS => ?_)
      obtain ⟨σ31, e31⟩ : ∃ z, z = z_sA σ2 s31 r23 (upd (z_A σ2 s31 r23) (z_I σ2 206 a0).toNatClampNeg x1) := ⟨_, rfl⟩
      rw [← e31] at hG
      have hw := hw _ e31
      refine lv_aload_n hx hb kb_Pr_relationMade_32 rfl (lv_at hl 1 rfl) ?_
      refine lv_dup hx hb kb_Pr_relationMade_33 rfl ?_
      obtain ⟨hy, hw⟩ := hw
      refine zr_getI (ci := 2) (f := 206) hx hb hts ki_Pr hown hK hG hy rfl 6 (by decide) (hts _ (List.mem_cons_of_mem _ kw_42)) (fun _ h => h) rfl rfl kb_Pr_relationMade_34 ?_
      refine lv_iconst (v := (1 : Int32)) hx hb kb_Pr_relationMade_37 (by decide) ?_
      refine lv_iadd hx hb kb_Pr_relationMade_38 ?_
      obtain ⟨hy, hw⟩ := hw
      refine zr_putI (ci := 2) (f := 206) hx hb hts ki_Pr ky_Pr kyo_Pr kn_Pr hown hK hG hS hy rfl 6 (by decide) (hts _ (List.mem_cons_of_mem _ kw_42)) (fun _ h => h) rfl rfl rfl rfl rfl kb_Pr_relationMade_39 (fun H locs hG hS => ?_)
      obtain ⟨σ39, e39⟩ : ∃ z, z = z_sI σ31 206 a0 ((z_I σ31 206 a0) + ((1 : Int32))) := ⟨_, rfl⟩
      rw [← e39] at hG
      have hw := hw _ e39
      refine lv_aload_n hx hb kb_Pr_relationMade_42 rfl (lv_at hl 1 rfl) ?_
      obtain ⟨hy, hw⟩ := hw
      refine zr_getI (ci := 2) (f := 206) hx hb hts ki_Pr hown hK hG hy rfl 6 (by decide) (hts _ (List.mem_cons_of_mem _ kw_42)) (fun _ h => h) rfl rfl kb_Pr_relationMade_43 ?_
      refine lv_iconst (v := (1 : Int32)) hx hb kb_Pr_relationMade_46 (by decide) ?_
      refine lv_isub hx hb kb_Pr_relationMade_47 ?_
      exact zr_iret (free := fun q => Z ≤ q) z_nwN hx hb hr rfl hZ hK hN hG hS hw kb_Pr_relationMade_48 hlocks
    · have hw := hw.2 hc
      refine lv_iload_n hx hb kb_Pr_relationMade_20 rfl (lv_at hl 0 rfl) ?_
      exact zr_iret (free := fun q => Z ≤ q) z_nwN hx hb hr rfl hZ hK hN hG hS hw kb_Pr_relationMade_21 hlocks
def kp_Pr_refusesCount (a0 : Nat) (b1 : Nat) (σ : z_S) (Post : Int32 → z_S → Prop) : Prop := ∀ (X30 : z_S → Prop),
    (∀ (σ : z_S), (z_ty σ b1 = some (.inl 5) ∧ ∃ r32, z_R σ 500 b1 = some r32 ∧ (z_ty σ r32 = some (.inl 0) ∧ (z_ty σ a0 = some (.inl 2) ∧ kp_Pr_isCounted a0 (z_I σ 3 r32) σ (fun (r38 : Int32) (σ38 : z_S) => (r38 = 0 ∨ r38 = 1) ∧ Post r38 σ38)))) → X30 σ) →
    (z_ty σ b1 = some (.inl 5) ∧ ((((z_I σ 504 b1)) = 0 → X30 σ) ∧ (¬ ((z_I σ 504 b1)) = 0 → z_ty σ b1 = some (.inl 5) ∧ ((((z_I σ 502 b1)) = 0 → Post ((1 : Int32)) σ) ∧ (¬ ((z_I σ 502 b1)) = 0 → z_ty σ b1 = some (.inl 5) ∧ ∃ r16, z_R σ 500 b1 = some r16 ∧ (z_ty σ r16 = some (.inl 0) ∧ (z_ty σ a0 = some (.inl 2) ∧ kp_Pr_isView a0 (z_I σ 3 r16) σ (fun (r22 : Int32) (σ22 : z_S) => (r22 = 0 → X30 σ22) ∧ (¬ r22 = 0 → Post ((1 : Int32)) σ22)))))))))
set_option maxHeartbeats 4000000 in
set_option maxRecDepth 100000 in
theorem kc_Pr_refusesCount (l : Launch) (D : va_G) (dA : Nat → ClassId) (Z : Nat) (a0 : Nat) (b1 : Nat) (σ : z_S) (Post : Int32 → z_S → Prop) : Met l km_Pr_refusesCount ks_Pr_refusesCount kr_Pr_refusesCount (va_Pc [.ref a0, .ref b1] (fun U => z_U D z_cl z_KT dA Z (z_tys dA) z_nw σ U ∧ kp_Pr_refusesCount  a0 b1 σ Post)) (z_Qi D z_cl z_KT dA Z (z_tys dA) z_nw Post) 0 0 (fun q => Z ≤ q) := by
  refine Met.ofW (cc := prog_4_method_7_code) (maxL := 2) (ret := (some .boolean)) (by decide) rfl ?_
  intro p e s m args below meth c s₁ B hml hv
  obtain ⟨rfl, ⟨hZ, hG, hK, hN⟩, hw⟩ := hv
  have hx := B.exec
  have hb := B.bytes
  have hr := B.returns
  have hts := atoms_spec (ws := ks_Pr_refusesCount) B.pre
  have hown : s.vm.findClass kR_Pr = some m.cls := findClass_of_methodNamed B.named
  have hlocks := B.notSynchronized
  have hS : va_S (fun q => Z ≤ q) s.heap s.heap [] := va_S.rf
  have hl := lv_entry ([.ref a0, .ref b1]) (n := 2) (Nat.le_of_ble_eq_true rfl)
  rw [lg_entry_eq]
  generalize (lg_sl ([.ref a0, .ref b1]) ++ List.replicate (2 - (lg_sl ([.ref a0, .ref b1])).length) Slot.unset).toArray = ls at hl ⊢
  have hl : lv_has ls 2 [(0, .ref a0), (1, .ref b1)] := hl
  unfold kp_Pr_refusesCount at hw
  have hw := hw (fun (σ : z_S) => ∀ (H : Heap) (locs : List Loc) (ls : Array Slot), z_G D z_cl z_KT dA Z σ H → va_S (fun q => Z ≤ q) s.heap H locs → lv_has ls 2 [(0, .ref a0), (1, .ref b1)] → W p l e (headSpec ks_Pr_refusesCount kr_Pr_refusesCount).room s m ([.ref a0, .ref b1] : List Value).toArray below meth c H locs 0 0 (MQ below (z_Qi D z_cl z_KT dA Z (z_tys dA) z_nw Post) ([.ref a0, .ref b1] : List Value).toArray s 0 0 (fun q => Z ≤ q)) (F0 m 30 ls []))
  have hw := hw (by
    intro σ hw H locs ls hG hS hl
    refine lv_aload_n hx hb kb_Pr_refusesCount_30 rfl (lv_at hl 0 rfl) ?_
    refine lv_aload_n hx hb kb_Pr_refusesCount_31 rfl (lv_at hl 1 rfl) ?_
    obtain ⟨hy, r32, hrf, hw⟩ := hw
    refine zr_getR (ci := 5) (f := 500) hx hb hts ki_Ru hown hK hG hy rfl 0 (by decide) (hts _ (List.mem_cons_of_mem _ kw_129)) (fun _ h => h) rfl rfl hrf kb_Pr_refusesCount_32 ?_
    obtain ⟨hy, hw⟩ := hw
    refine zr_getI (ci := 0) (f := 3) hx hb hts ki_At hown hK hG hy rfl 3 (by decide) (hts _ (List.mem_cons_of_mem _ kw_113)) (fun _ h => h) rfl rfl kb_Pr_refusesCount_35 ?_
    obtain ⟨hy, hw⟩ := hw
    refine zr_ci (va_runV (C := kR_Pr) (As := [.int (z_I σ 3 r32)]) (rest := []) ⟨hx, hb, hml, hown, hts⟩ (kc_Pr_isCounted l D dA Z a0 (z_I σ 3 r32) σ _) ⟨callB_of 1 hts (z_gw kw_332) rfl rfl rfl (hts _ (List.mem_cons_of_mem _ kw_2)) (hts _ (List.mem_cons_of_mem _ kw_329)) (by decide +kernel) ⟨Nat.le_of_ble_eq_true rfl, Nat.le_of_ble_eq_true rfl⟩, (hts _ (List.mem_cons_of_mem _ kw_330)), (hts _ (List.mem_cons_of_mem _ kw_331))⟩ (z_preV z_nwN (Nat.le_trans hZ hS.1) hG hK hN hy (ci := 2) (r := (kR_Pr, kT_Pr, 11)) rfl hw) rfl rfl hl.1 rfl (lv_room (Nat.le_of_ble_eq_true rfl)) kb_Pr_refusesCount_38 ⟨Nat.le_of_ble_eq_true rfl, Nat.le_of_ble_eq_true rfl⟩) hS (fun r38 σ38 H locs hw hG hS => ?_)
    exact zr_iret (free := fun q => Z ≤ q) z_nwN hx hb hr (z_bool hw.1) hZ hK hN hG hS hw.2 kb_Pr_refusesCount_41 hlocks)
  refine lv_aload_n hx hb kb_Pr_refusesCount_0 rfl (lv_at hl 1 rfl) ?_
  obtain ⟨hy, hw⟩ := hw
  refine zr_getI (ci := 5) (f := 504) hx hb hts ki_Ru hown hK hG hy rfl 4 (by decide) (hts _ (List.mem_cons_of_mem _ kw_139)) (fun _ h => h) rfl rfl kb_Pr_refusesCount_1 ?_
  refine lv_if_eq (tgt := 30) hx hb kb_Pr_refusesCount_4 (by decide) (fun hc => ?_) (fun hc => ?_)
  · have hw := hw.1 hc
    exact hw _ _ _ hG hS (lv_sub hl [0, 1] rfl)
  · have hw := hw.2 hc
    refine lv_aload_n hx hb kb_Pr_refusesCount_7 rfl (lv_at hl 1 rfl) ?_
    obtain ⟨hy, hw⟩ := hw
    refine zr_getI (ci := 5) (f := 502) hx hb hts ki_Ru hown hK hG hy rfl 2 (by decide) (hts _ (List.mem_cons_of_mem _ kw_135)) (fun _ h => h) rfl rfl kb_Pr_refusesCount_8 ?_
    refine lv_if_eq (tgt := 28) hx hb kb_Pr_refusesCount_11 (by decide) (fun hc => ?_) (fun hc => ?_)
    · have hw := hw.1 hc
      refine lv_iconst (v := (1 : Int32)) hx hb kb_Pr_refusesCount_28 (by decide) ?_
      exact zr_iret (free := fun q => Z ≤ q) z_nwN hx hb hr rfl hZ hK hN hG hS hw kb_Pr_refusesCount_29 hlocks
    · have hw := hw.2 hc
      refine lv_aload_n hx hb kb_Pr_refusesCount_14 rfl (lv_at hl 0 rfl) ?_
      refine lv_aload_n hx hb kb_Pr_refusesCount_15 rfl (lv_at hl 1 rfl) ?_
      obtain ⟨hy, r16, hrf, hw⟩ := hw
      refine zr_getR (ci := 5) (f := 500) hx hb hts ki_Ru hown hK hG hy rfl 0 (by decide) (hts _ (List.mem_cons_of_mem _ kw_129)) (fun _ h => h) rfl rfl hrf kb_Pr_refusesCount_16 ?_
      obtain ⟨hy, hw⟩ := hw
      refine zr_getI (ci := 0) (f := 3) hx hb hts ki_At hown hK hG hy rfl 3 (by decide) (hts _ (List.mem_cons_of_mem _ kw_113)) (fun _ h => h) rfl rfl kb_Pr_refusesCount_19 ?_
      obtain ⟨hy, hw⟩ := hw
      refine zr_ci (va_runV (C := kR_Pr) (As := [.int (z_I σ 3 r16)]) (rest := []) ⟨hx, hb, hml, hown, hts⟩ (kc_Pr_isView l D dA Z a0 (z_I σ 3 r16) σ _) ⟨callB_of 1 hts (z_gw kw_324) rfl rfl rfl (hts _ (List.mem_cons_of_mem _ kw_2)) (hts _ (List.mem_cons_of_mem _ kw_321)) (by decide +kernel) ⟨Nat.le_of_ble_eq_true rfl, Nat.le_of_ble_eq_true rfl⟩, (hts _ (List.mem_cons_of_mem _ kw_322)), (hts _ (List.mem_cons_of_mem _ kw_323))⟩ (z_preV z_nwN (Nat.le_trans hZ hS.1) hG hK hN hy (ci := 2) (r := (kR_Pr, kT_Pr, 11)) rfl hw) rfl rfl hl.1 rfl (lv_room (Nat.le_of_ble_eq_true rfl)) kb_Pr_refusesCount_22 ⟨Nat.le_of_ble_eq_true rfl, Nat.le_of_ble_eq_true rfl⟩) hS (fun r22 σ22 H locs hw hG hS => ?_)
      refine lv_if_eq (tgt := 30) hx hb kb_Pr_refusesCount_25 (by decide) (fun hc => ?_) (fun hc => ?_)
      · have hw := hw.1 hc
        exact hw _ _ _ hG hS (lv_sub hl [0, 1] rfl)
      · have hw := hw.2 hc
        refine lv_iconst (v := (1 : Int32)) hx hb kb_Pr_refusesCount_28 (by decide) ?_
        exact zr_iret (free := fun q => Z ≤ q) z_nwN hx hb hr rfl hZ hK hN hG hS hw kb_Pr_refusesCount_29 hlocks
def kp_Pr_append (a0 : Nat) (b1 : Nat) (σ : z_S) (Post : z_S → Prop) : Prop :=     (z_ty σ a0 = some (.inl 2) ∧ (((z_I σ 201 a0) < ((16 : Int32)) → z_ty σ a0 = some (.inl 2) ∧ ∃ r11, z_R σ 200 a0 = some r11 ∧ (z_ty σ a0 = some (.inl 2) ∧ (∃ n19 s19, z_ty σ r11 = some (.inr (8, n19, s19)) ∧ vp_in (z_I σ 201 a0) n19 ∧ z_ty σ b1 = some (.inl 5) ∧ ∀ σ19, σ19 = z_sQ σ s19 r11 (va_up (z_Q σ s19 r11) (z_I σ 201 a0).toNatClampNeg (some b1)) → z_ty σ19 a0 = some (.inl 2) ∧ (z_ty σ19 a0 = some (.inl 2) ∧ ∀ σ27, σ27 = z_sI σ19 201 a0 ((z_I σ19 201 a0) + ((1 : Int32))) → z_ty σ27 a0 = some (.inl 2) ∧ (z_ty σ27 b1 = some (.inl 5) ∧ ∃ r37, z_R σ27 500 b1 = some r37 ∧ (z_ty σ27 r37 = some (.inl 0) ∧ (z_ty σ27 a0 = some (.inl 2) ∧ ∀ σ45, σ45 = z_sI σ27 209 a0 ((z_I σ27 209 a0) ||| (((1 : Int32)) <<< ((z_I σ27 3 r37) &&& 31))) → z_ty σ45 b1 = some (.inl 5) ∧ ((((z_I σ45 504 b1)) = 0 → Post σ45) ∧ (¬ ((z_I σ45 504 b1)) = 0 → z_ty σ45 a0 = some (.inl 2) ∧ (z_ty σ45 b1 = some (.inl 5) ∧ ∃ r62, z_R σ45 500 b1 = some r62 ∧ (z_ty σ45 r62 = some (.inl 0) ∧ (z_ty σ45 a0 = some (.inl 2) ∧ ∀ σ70, σ70 = z_sI σ45 210 a0 ((z_I σ45 210 a0) ||| (((1 : Int32)) <<< ((z_I σ45 3 r62) &&& 31))) → Post σ70)))))))))))) ∧ (¬ (z_I σ 201 a0) < ((16 : Int32)) → Post σ)))
set_option maxHeartbeats 4000000 in
set_option maxRecDepth 100000 in
theorem kc_Pr_append (l : Launch) (D : va_G) (dA : Nat → ClassId) (Z : Nat) (a0 : Nat) (b1 : Nat) (σ : z_S) (Post : z_S → Prop) : Met l km_Pr_append ks_Pr_append kr_Pr_append (va_Pc [.ref a0, .ref b1] (fun U => z_U D z_cl z_KT dA Z (z_tys dA) z_nw σ U ∧ kp_Pr_append  a0 b1 σ Post)) (z_Qv D z_cl z_KT dA Z (z_tys dA) z_nw Post) 0 0 (fun q => Z ≤ q) := by
  refine Met.ofW (cc := prog_4_method_8_code) (maxL := 2) (ret := none) (by decide) rfl ?_
  intro p e s m args below meth c s₁ B hml hv
  obtain ⟨rfl, ⟨hZ, hG, hK, hN⟩, hw⟩ := hv
  have hx := B.exec
  have hb := B.bytes
  have hr := B.returns
  have hts := atoms_spec (ws := ks_Pr_append) B.pre
  have hown : s.vm.findClass kR_Pr = some m.cls := findClass_of_methodNamed B.named
  have hlocks := B.notSynchronized
  have hS : va_S (fun q => Z ≤ q) s.heap s.heap [] := va_S.rf
  have hl := lv_entry ([.ref a0, .ref b1]) (n := 2) (Nat.le_of_ble_eq_true rfl)
  rw [lg_entry_eq]
  generalize (lg_sl ([.ref a0, .ref b1]) ++ List.replicate (2 - (lg_sl ([.ref a0, .ref b1])).length) Slot.unset).toArray = ls at hl ⊢
  have hl : lv_has ls 2 [(0, .ref a0), (1, .ref b1)] := hl
  unfold kp_Pr_append at hw
  refine lv_aload_n hx hb kb_Pr_append_0 rfl (lv_at hl 0 rfl) ?_
  obtain ⟨hy, hw⟩ := hw
  refine zr_getI (ci := 2) (f := 201) hx hb hts ki_Pr hown hK hG hy rfl 1 (by decide) (hts _ (List.mem_cons_of_mem _ kw_31)) (fun _ h => h) rfl rfl kb_Pr_append_1 ?_
  refine lv_bipush (v := (16 : Int32)) hx hb kb_Pr_append_4 (by decide) ?_
  refine lv_icmp_lt (tgt := 10) hx hb kb_Pr_append_6 (by decide) (fun hc => ?_) (fun hc => ?_)
  · have hw := hw.1 hc
    refine lv_aload_n hx hb kb_Pr_append_10 rfl (lv_at hl 0 rfl) ?_
    obtain ⟨hy, r11, hrf, hw⟩ := hw
    refine zr_getR (ci := 2) (f := 200) hx hb hts ki_Pr hown hK hG hy rfl 0 (by decide) (hts _ (List.mem_cons_of_mem _ kw_25)) (fun _ h => h) rfl rfl hrf kb_Pr_append_11 ?_
    refine lv_aload_n hx hb kb_Pr_append_14 rfl (lv_at hl 0 rfl) ?_
    obtain ⟨hy, hw⟩ := hw
    refine zr_getI (ci := 2) (f := 201) hx hb hts ki_Pr hown hK hG hy rfl 1 (by decide) (hts _ (List.mem_cons_of_mem _ kw_31)) (fun _ h => h) rfl rfl kb_Pr_append_15 ?_
    refine lv_aload_n hx hb kb_Pr_append_18 rfl (lv_at hl 1 rfl) ?_
    obtain ⟨n19, s19, hy, hi, hv, hw⟩ := hw
    refine zr_aast hx hb hK hG hS 3 5 (by decide) hy rfl hv rfl hi kb_Pr_append_19 (fun H locs hG hS => ?_)
    obtain ⟨σ19, e19⟩ : ∃ z, z = z_sQ σ s19 r11 (va_up (z_Q σ s19 r11) (z_I σ 201 a0).toNatClampNeg (some b1)) := ⟨_, rfl⟩
    rw [← e19] at hG
    have hw := hw _ e19
    refine lv_aload_n hx hb kb_Pr_append_20 rfl (lv_at hl 0 rfl) ?_
    refine lv_dup hx hb kb_Pr_append_21 rfl ?_
    obtain ⟨hy, hw⟩ := hw
    refine zr_getI (ci := 2) (f := 201) hx hb hts ki_Pr hown hK hG hy rfl 1 (by decide) (hts _ (List.mem_cons_of_mem _ kw_31)) (fun _ h => h) rfl rfl kb_Pr_append_22 ?_
    refine lv_iconst (v := (1 : Int32)) hx hb kb_Pr_append_25 (by decide) ?_
    refine lv_iadd hx hb kb_Pr_append_26 ?_
    obtain ⟨hy, hw⟩ := hw
    refine zr_putI (ci := 2) (f := 201) hx hb hts ki_Pr ky_Pr kyo_Pr kn_Pr hown hK hG hS hy rfl 1 (by decide) (hts _ (List.mem_cons_of_mem _ kw_31)) (fun _ h => h) rfl rfl rfl rfl rfl kb_Pr_append_27 (fun H locs hG hS => ?_)
    obtain ⟨σ27, e27⟩ : ∃ z, z = z_sI σ19 201 a0 ((z_I σ19 201 a0) + ((1 : Int32))) := ⟨_, rfl⟩
    rw [← e27] at hG
    have hw := hw _ e27
    refine lv_aload_n hx hb kb_Pr_append_30 rfl (lv_at hl 0 rfl) ?_
    refine lv_dup hx hb kb_Pr_append_31 rfl ?_
    obtain ⟨hy, hw⟩ := hw
    refine zr_getI (ci := 2) (f := 209) hx hb hts ki_Pr hown hK hG hy rfl 9 (by decide) (hts _ (List.mem_cons_of_mem _ kw_50)) (fun _ h => h) rfl rfl kb_Pr_append_32 ?_
    refine lv_iconst (v := (1 : Int32)) hx hb kb_Pr_append_35 (by decide) ?_
    refine lv_aload_n hx hb kb_Pr_append_36 rfl (lv_at hl 1 rfl) ?_
    obtain ⟨hy, r37, hrf, hw⟩ := hw
    refine zr_getR (ci := 5) (f := 500) hx hb hts ki_Ru hown hK hG hy rfl 0 (by decide) (hts _ (List.mem_cons_of_mem _ kw_129)) (fun _ h => h) rfl rfl hrf kb_Pr_append_37 ?_
    obtain ⟨hy, hw⟩ := hw
    refine zr_getI (ci := 0) (f := 3) hx hb hts ki_At hown hK hG hy rfl 3 (by decide) (hts _ (List.mem_cons_of_mem _ kw_113)) (fun _ h => h) rfl rfl kb_Pr_append_40 ?_
    refine lv_ishl hx hb kb_Pr_append_43 ?_
    refine lv_ior hx hb kb_Pr_append_44 ?_
    obtain ⟨hy, hw⟩ := hw
    refine zr_putI (ci := 2) (f := 209) hx hb hts ki_Pr ky_Pr kyo_Pr kn_Pr hown hK hG hS hy rfl 9 (by decide) (hts _ (List.mem_cons_of_mem _ kw_50)) (fun _ h => h) rfl rfl rfl rfl rfl kb_Pr_append_45 (fun H locs hG hS => ?_)
    obtain ⟨σ45, e45⟩ : ∃ z, z = z_sI σ27 209 a0 ((z_I σ27 209 a0) ||| (((1 : Int32)) <<< ((z_I σ27 3 r37) &&& 31))) := ⟨_, rfl⟩
    rw [← e45] at hG
    have hw := hw _ e45
    refine lv_aload_n hx hb kb_Pr_append_48 rfl (lv_at hl 1 rfl) ?_
    obtain ⟨hy, hw⟩ := hw
    refine zr_getI (ci := 5) (f := 504) hx hb hts ki_Ru hown hK hG hy rfl 4 (by decide) (hts _ (List.mem_cons_of_mem _ kw_139)) (fun _ h => h) rfl rfl kb_Pr_append_49 ?_
    refine lv_if_eq (tgt := 73) hx hb kb_Pr_append_52 (by decide) (fun hc => ?_) (fun hc => ?_)
    · have hw := hw.1 hc
      exact zr_vret z_nwN hx hb hr hZ hK hN hG hS hw kb_Pr_append_73 hlocks
    · have hw := hw.2 hc
      refine lv_aload_n hx hb kb_Pr_append_55 rfl (lv_at hl 0 rfl) ?_
      refine lv_dup hx hb kb_Pr_append_56 rfl ?_
      obtain ⟨hy, hw⟩ := hw
      refine zr_getI (ci := 2) (f := 210) hx hb hts ki_Pr hown hK hG hy rfl 10 (by decide) (hts _ (List.mem_cons_of_mem _ kw_51)) (fun _ h => h) rfl rfl kb_Pr_append_57 ?_
      refine lv_iconst (v := (1 : Int32)) hx hb kb_Pr_append_60 (by decide) ?_
      refine lv_aload_n hx hb kb_Pr_append_61 rfl (lv_at hl 1 rfl) ?_
      obtain ⟨hy, r62, hrf, hw⟩ := hw
      refine zr_getR (ci := 5) (f := 500) hx hb hts ki_Ru hown hK hG hy rfl 0 (by decide) (hts _ (List.mem_cons_of_mem _ kw_129)) (fun _ h => h) rfl rfl hrf kb_Pr_append_62 ?_
      obtain ⟨hy, hw⟩ := hw
      refine zr_getI (ci := 0) (f := 3) hx hb hts ki_At hown hK hG hy rfl 3 (by decide) (hts _ (List.mem_cons_of_mem _ kw_113)) (fun _ h => h) rfl rfl kb_Pr_append_65 ?_
      refine lv_ishl hx hb kb_Pr_append_68 ?_
      refine lv_ior hx hb kb_Pr_append_69 ?_
      obtain ⟨hy, hw⟩ := hw
      refine zr_putI (ci := 2) (f := 210) hx hb hts ki_Pr ky_Pr kyo_Pr kn_Pr hown hK hG hS hy rfl 10 (by decide) (hts _ (List.mem_cons_of_mem _ kw_51)) (fun _ h => h) rfl rfl rfl rfl rfl kb_Pr_append_70 (fun H locs hG hS => ?_)
      obtain ⟨σ70, e70⟩ : ∃ z, z = z_sI σ45 210 a0 ((z_I σ45 210 a0) ||| (((1 : Int32)) <<< ((z_I σ45 3 r62) &&& 31))) := ⟨_, rfl⟩
      rw [← e70] at hG
      have hw := hw _ e70
      exact zr_vret z_nwN hx hb hr hZ hK hN hG hS hw kb_Pr_append_73 hlocks
  · have hw := hw.2 hc
    exact zr_vret z_nwN hx hb hr hZ hK hN hG hS hw kb_Pr_append_9 hlocks
def kp_Pr_findReach (a0 : Nat) (σ : z_S) (Post : z_S → Prop) : Prop := ∀ (X2 : Int32 → z_S → Prop) (X19 : Int32 → Nat → Int32 → z_S → Prop) (X80 : Int32 → z_S → Prop) (X90 : Int32 → Int32 → z_S → Prop),
    (∀ (v1 : Int32) (σ : z_S), (z_ty σ a0 = some (.inl 2) ∧ (((z_I σ 201 a0) ≤ v1 → X80 ((0 : Int32)) σ) ∧ (¬ (z_I σ 201 a0) ≤ v1 → z_ty σ a0 = some (.inl 2) ∧ ∃ r11, z_R σ 200 a0 = some r11 ∧ (∃ n15 s15, z_ty σ r11 = some (.inr (8, n15, s15)) ∧ vp_in v1 n15 ∧ ∃ r15, z_Q σ s15 r11 v1.toNatClampNeg = some r15 ∧ (X19 v1 r15 ((0 : Int32)) σ))))) → X2 v1 σ) →
    (∀ (v1 : Int32) (v2 : Nat) (v3 : Int32) (σ : z_S), (z_ty σ v2 = some (.inl 5) ∧ (((z_I σ 502 v2) ≤ v3 → X2 (v1 + (1 : Int32)) σ) ∧ (¬ (z_I σ 502 v2) ≤ v3 → z_ty σ v2 = some (.inl 5) ∧ ∃ r28, z_R σ 501 v2 = some r28 ∧ (∃ n32 s32, z_ty σ r28 = some (.inr (11, n32, s32)) ∧ vp_in v3 n32 ∧ ∃ r32, z_Q σ s32 r28 v3.toNatClampNeg = some r32 ∧ (z_ty σ r32 = some (.inl 0) ∧ (((z_I σ 2 r32) = ((2 : Int32)) → X19 v1 v2 (v3 + (1 : Int32)) σ) ∧ (¬ (z_I σ 2 r32) = ((2 : Int32)) → z_ty σ a0 = some (.inl 2) ∧ ∃ r41, z_R σ 205 a0 = some r41 ∧ (z_ty σ v2 = some (.inl 5) ∧ ∃ r45, z_R σ 500 v2 = some r45 ∧ (z_ty σ r45 = some (.inl 0) ∧ (∃ n52 s52, z_ty σ r41 = some (.inr (0, n52, s52)) ∧ vp_in (z_I σ 3 r45) n52 ∧ (z_ty σ v2 = some (.inl 5) ∧ ∃ r55, z_R σ 501 v2 = some r55 ∧ (∃ n59 s59, z_ty σ r55 = some (.inr (11, n59, s59)) ∧ vp_in v3 n59 ∧ ∃ r59, z_Q σ s59 r55 v3.toNatClampNeg = some r59 ∧ (z_ty σ r59 = some (.inl 0) ∧ (∃ n65 s65, z_ty σ r41 = some (.inr (0, n65, s65)) ∧ vp_in (z_I σ 3 r45) n65 ∧ ∀ σ65, σ65 = z_sA σ s65 r41 (upd (z_A σ s65 r41) (z_I σ 3 r45).toNatClampNeg ((z_A σ s52 r41 (z_I σ 3 r45).toNatClampNeg) ||| (((1 : Int32)) <<< ((z_I σ 3 r59) &&& 31)))) → X19 v1 v2 (v3 + (1 : Int32)) σ65)))))))))))))) → X19 v1 v2 v3 σ) →
    (∀ (v1 : Int32) (σ : z_S), (z_ty σ a0 = some (.inl 2) ∧ (((z_I σ 206 a0) ≤ v1 → Post σ) ∧ (¬ (z_I σ 206 a0) ≤ v1 → X90 v1 ((0 : Int32)) σ))) → X80 v1 σ) →
    (∀ (v1 : Int32) (v2 : Int32) (σ : z_S), (z_ty σ a0 = some (.inl 2) ∧ (((z_I σ 206 a0) ≤ v2 → X80 (v1 + (1 : Int32)) σ) ∧ (¬ (z_I σ 206 a0) ≤ v2 → z_ty σ a0 = some (.inl 2) ∧ ∃ r99, z_R σ 205 a0 = some r99 ∧ (∃ n103 s103, z_ty σ r99 = some (.inr (0, n103, s103)) ∧ vp_in v2 n103 ∧ (kp_Vr_isIn (z_A σ s103 r99 v2.toNatClampNeg) v1 σ (fun (r105 : Int32) (σ105 : z_S) => (r105 = 0 → X90 v1 (v2 + (1 : Int32)) σ105) ∧ (¬ r105 = 0 → z_ty σ105 a0 = some (.inl 2) ∧ ∃ r112, z_R σ105 205 a0 = some r112 ∧ (∃ n117 s117, z_ty σ105 r112 = some (.inr (0, n117, s117)) ∧ vp_in v2 n117 ∧ (z_ty σ105 a0 = some (.inl 2) ∧ ∃ r119, z_R σ105 205 a0 = some r119 ∧ (∃ n123 s123, z_ty σ105 r119 = some (.inr (0, n123, s123)) ∧ vp_in v1 n123 ∧ (∃ n125 s125, z_ty σ105 r112 = some (.inr (0, n125, s125)) ∧ vp_in v2 n125 ∧ ∀ σ125, σ125 = z_sA σ105 s125 r112 (upd (z_A σ105 s125 r112) v2.toNatClampNeg ((z_A σ105 s117 r112 v2.toNatClampNeg) ||| (z_A σ105 s123 r119 v1.toNatClampNeg))) → X90 v1 (v2 + (1 : Int32)) σ125))))))))))) → X90 v1 v2 σ) →
    (X2 ((0 : Int32)) σ)
set_option maxHeartbeats 4000000 in
set_option maxRecDepth 100000 in
theorem kc_Pr_findReach (l : Launch) (D : va_G) (dA : Nat → ClassId) (Z : Nat) (a0 : Nat) (σ : z_S) (Post : z_S → Prop) : Met l km_Pr_findReach ks_Pr_findReach kr_Pr_findReach (va_Pc [.ref a0] (fun U => z_U D z_cl z_KT dA Z (z_tys dA) z_nw σ U ∧ kp_Pr_findReach  a0 σ Post)) (z_Qv D z_cl z_KT dA Z (z_tys dA) z_nw Post) 0 0 (fun q => Z ≤ q) := by
  refine Met.ofW (cc := prog_4_method_10_code) (maxL := 4) (ret := none) (by decide) rfl ?_
  intro p e s m args below meth c s₁ B hml hv
  obtain ⟨rfl, ⟨hZ, hG, hK, hN⟩, hw⟩ := hv
  have hx := B.exec
  have hb := B.bytes
  have hr := B.returns
  have hts := atoms_spec (ws := ks_Pr_findReach) B.pre
  have hown : s.vm.findClass kR_Pr = some m.cls := findClass_of_methodNamed B.named
  have hlocks := B.notSynchronized
  have hS : va_S (fun q => Z ≤ q) s.heap s.heap [] := va_S.rf
  have hl := lv_entry ([.ref a0]) (n := 4) (Nat.le_of_ble_eq_true rfl)
  rw [lg_entry_eq]
  generalize (lg_sl ([.ref a0]) ++ List.replicate (4 - (lg_sl ([.ref a0])).length) Slot.unset).toArray = ls at hl ⊢
  have hl : lv_has ls 4 [(0, .ref a0)] := hl
  unfold kp_Pr_findReach at hw
  have hw := hw (fun (v1 : Int32) (σ : z_S) => ∀ (H : Heap) (locs : List Loc) (ls : Array Slot), z_G D z_cl z_KT dA Z σ H → va_S (fun q => Z ≤ q) s.heap H locs → lv_has ls 4 [(0, .ref a0), (1, .int v1)] → W p l e (headSpec ks_Pr_findReach kr_Pr_findReach).room s m ([.ref a0] : List Value).toArray below meth c H locs 0 0 (MQ below (z_Qv D z_cl z_KT dA Z (z_tys dA) z_nw Post) ([.ref a0] : List Value).toArray s 0 0 (fun q => Z ≤ q)) (F0 m 2 ls []))
  have hw := hw (fun (v1 : Int32) (v2 : Nat) (v3 : Int32) (σ : z_S) => ∀ (H : Heap) (locs : List Loc) (ls : Array Slot), z_G D z_cl z_KT dA Z σ H → va_S (fun q => Z ≤ q) s.heap H locs → lv_has ls 4 [(0, .ref a0), (1, .int v1), (2, .ref v2), (3, .int v3)] → W p l e (headSpec ks_Pr_findReach kr_Pr_findReach).room s m ([.ref a0] : List Value).toArray below meth c H locs 0 0 (MQ below (z_Qv D z_cl z_KT dA Z (z_tys dA) z_nw Post) ([.ref a0] : List Value).toArray s 0 0 (fun q => Z ≤ q)) (F0 m 19 ls []))
  have hw := hw (fun (v1 : Int32) (σ : z_S) => ∀ (H : Heap) (locs : List Loc) (ls : Array Slot), z_G D z_cl z_KT dA Z σ H → va_S (fun q => Z ≤ q) s.heap H locs → lv_has ls 4 [(0, .ref a0), (1, .int v1)] → W p l e (headSpec ks_Pr_findReach kr_Pr_findReach).room s m ([.ref a0] : List Value).toArray below meth c H locs 0 0 (MQ below (z_Qv D z_cl z_KT dA Z (z_tys dA) z_nw Post) ([.ref a0] : List Value).toArray s 0 0 (fun q => Z ≤ q)) (F0 m 80 ls []))
  have hw := hw (fun (v1 : Int32) (v2 : Int32) (σ : z_S) => ∀ (H : Heap) (locs : List Loc) (ls : Array Slot), z_G D z_cl z_KT dA Z σ H → va_S (fun q => Z ≤ q) s.heap H locs → lv_has ls 4 [(0, .ref a0), (1, .int v1), (2, .int v2)] → W p l e (headSpec ks_Pr_findReach kr_Pr_findReach).room s m ([.ref a0] : List Value).toArray below meth c H locs 0 0 (MQ below (z_Qv D z_cl z_KT dA Z (z_tys dA) z_nw Post) ([.ref a0] : List Value).toArray s 0 0 (fun q => Z ≤ q)) (F0 m 90 ls []))
  have hw := hw (by
    intro v1 σ hw H locs ls hG hS hl
    refine lv_iload_n hx hb kb_Pr_findReach_2 rfl (lv_at hl 1 rfl) ?_
    refine lv_aload_n hx hb kb_Pr_findReach_3 rfl (lv_at hl 0 rfl) ?_
    obtain ⟨hy, hw⟩ := hw
    refine zr_getI (ci := 2) (f := 201) hx hb hts ki_Pr hown hK hG hy rfl 1 (by decide) (hts _ (List.mem_cons_of_mem _ kw_31)) (fun _ h => h) rfl rfl kb_Pr_findReach_4 ?_
    refine lv_icmp_ge (tgt := 78) hx hb kb_Pr_findReach_7 (by decide) (fun hc => ?_) (fun hc => ?_)
    · have hw := hw.1 hc
      refine lv_iconst (v := (0 : Int32)) hx hb kb_Pr_findReach_78 (by decide) ?_
      refine lv_istore_n (lv' := [(1, .int ((0 : Int32))), (0, .ref a0)]) hx hb kb_Pr_findReach_79 rfl hl (by decide) rfl (fun ls hl => ?_)
      exact hw _ _ _ hG hS (lv_sub hl [1, 0] rfl)
    · have hw := hw.2 hc
      refine lv_aload_n hx hb kb_Pr_findReach_10 rfl (lv_at hl 0 rfl) ?_
      obtain ⟨hy, r11, hrf, hw⟩ := hw
      refine zr_getR (ci := 2) (f := 200) hx hb hts ki_Pr hown hK hG hy rfl 0 (by decide) (hts _ (List.mem_cons_of_mem _ kw_25)) (fun _ h => h) rfl rfl hrf kb_Pr_findReach_11 ?_
      refine lv_iload_n hx hb kb_Pr_findReach_14 rfl (lv_at hl 1 rfl) ?_
      obtain ⟨n15, s15, hy, hi, r15, hrf, hw⟩ := hw
      refine zr_aald hx hb hK hG 3 (by decide) hy rfl hi hrf kb_Pr_findReach_15 ?_
      refine lv_astore_n (lv' := [(2, .ref r15), (0, .ref a0), (1, .int v1)]) hx hb kb_Pr_findReach_16 rfl hl (by decide) rfl (fun ls hl => ?_)
      refine lv_iconst (v := (0 : Int32)) hx hb kb_Pr_findReach_17 (by decide) ?_
      refine lv_istore_n (lv' := [(3, .int ((0 : Int32))), (2, .ref r15), (0, .ref a0), (1, .int v1)]) hx hb kb_Pr_findReach_18 rfl hl (by decide) rfl (fun ls hl => ?_)
      exact hw _ _ _ hG hS (lv_sub hl [2, 3, 1, 0] rfl))
  have hw := hw (by
    intro v1 v2 v3 σ hw H locs ls hG hS hl
    refine lv_iload_n hx hb kb_Pr_findReach_19 rfl (lv_at hl 3 rfl) ?_
    refine lv_aload_n hx hb kb_Pr_findReach_20 rfl (lv_at hl 2 rfl) ?_
    obtain ⟨hy, hw⟩ := hw
    refine zr_getI (ci := 5) (f := 502) hx hb hts ki_Ru hown hK hG hy rfl 2 (by decide) (hts _ (List.mem_cons_of_mem _ kw_135)) (fun _ h => h) rfl rfl kb_Pr_findReach_21 ?_
    refine lv_icmp_ge (tgt := 72) hx hb kb_Pr_findReach_24 (by decide) (fun hc => ?_) (fun hc => ?_)
    · have hw := hw.1 hc
      refine lv_iinc (v := v1 + (1 : Int32)) (lv' := [(1, .int (v1 + (1 : Int32))), (0, .ref a0), (2, .ref v2), (3, .int v3)]) hx hb kb_Pr_findReach_72 hl (k := 1) rfl rfl (by decide) rfl (fun ls hl => ?_)
      refine lv_goto (tgt := 2) hx hb kb_Pr_findReach_75 (by decide) ?_
      exact hw _ _ _ hG hS (lv_sub hl [1, 0] rfl)
    · have hw := hw.2 hc
      refine lv_aload_n hx hb kb_Pr_findReach_27 rfl (lv_at hl 2 rfl) ?_
      obtain ⟨hy, r28, hrf, hw⟩ := hw
      refine zr_getR (ci := 5) (f := 501) hx hb hts ki_Ru hown hK hG hy rfl 1 (by decide) (hts _ (List.mem_cons_of_mem _ kw_132)) (fun _ h => h) rfl rfl hrf kb_Pr_findReach_28 ?_
      refine lv_iload_n hx hb kb_Pr_findReach_31 rfl (lv_at hl 3 rfl) ?_
      obtain ⟨n32, s32, hy, hi, r32, hrf, hw⟩ := hw
      refine zr_aald hx hb hK hG 6 (by decide) hy rfl hi hrf kb_Pr_findReach_32 ?_
      obtain ⟨hy, hw⟩ := hw
      refine zr_getI (ci := 0) (f := 2) hx hb hts ki_At hown hK hG hy rfl 2 (by decide) (hts _ (List.mem_cons_of_mem _ kw_111)) (fun _ h => h) rfl rfl kb_Pr_findReach_33 ?_
      refine lv_iconst (v := (2 : Int32)) hx hb kb_Pr_findReach_36 (by decide) ?_
      refine lv_icmp_eq (tgt := 66) hx hb kb_Pr_findReach_37 (by decide) (fun hc => ?_) (fun hc => ?_)
      · have hw := hw.1 hc
        refine lv_iinc (v := v3 + (1 : Int32)) (lv' := [(3, .int (v3 + (1 : Int32))), (0, .ref a0), (1, .int v1), (2, .ref v2)]) hx hb kb_Pr_findReach_66 hl (k := 3) rfl rfl (by decide) rfl (fun ls hl => ?_)
        refine lv_goto (tgt := 19) hx hb kb_Pr_findReach_69 (by decide) ?_
        exact hw _ _ _ hG hS (lv_sub hl [1, 2, 3, 0] rfl)
      · have hw := hw.2 hc
        refine lv_aload_n hx hb kb_Pr_findReach_40 rfl (lv_at hl 0 rfl) ?_
        obtain ⟨hy, r41, hrf, hw⟩ := hw
        refine zr_getR (ci := 2) (f := 205) hx hb hts ki_Pr hown hK hG hy rfl 5 (by decide) (hts _ (List.mem_cons_of_mem _ kw_40)) (fun _ h => h) rfl rfl hrf kb_Pr_findReach_41 ?_
        refine lv_aload_n hx hb kb_Pr_findReach_44 rfl (lv_at hl 2 rfl) ?_
        obtain ⟨hy, r45, hrf, hw⟩ := hw
        refine zr_getR (ci := 5) (f := 500) hx hb hts ki_Ru hown hK hG hy rfl 0 (by decide) (hts _ (List.mem_cons_of_mem _ kw_129)) (fun _ h => h) rfl rfl hrf kb_Pr_findReach_45 ?_
        obtain ⟨hy, hw⟩ := hw
        refine zr_getI (ci := 0) (f := 3) hx hb hts ki_At hown hK hG hy rfl 3 (by decide) (hts _ (List.mem_cons_of_mem _ kw_113)) (fun _ h => h) rfl rfl kb_Pr_findReach_48 ?_
        refine lv_dup2_11 hx hb kb_Pr_findReach_51 rfl rfl ?_
        obtain ⟨n52, s52, hy, hi, hw⟩ := hw
        refine zr_iald hx hb hK hG 0 hy rfl hi kb_Pr_findReach_52 ?_
        refine lv_iconst (v := (1 : Int32)) hx hb kb_Pr_findReach_53 (by decide) ?_
        refine lv_aload_n hx hb kb_Pr_findReach_54 rfl (lv_at hl 2 rfl) ?_
        obtain ⟨hy, r55, hrf, hw⟩ := hw
        refine zr_getR (ci := 5) (f := 501) hx hb hts ki_Ru hown hK hG hy rfl 1 (by decide) (hts _ (List.mem_cons_of_mem _ kw_132)) (fun _ h => h) rfl rfl hrf kb_Pr_findReach_55 ?_
        refine lv_iload_n hx hb kb_Pr_findReach_58 rfl (lv_at hl 3 rfl) ?_
        obtain ⟨n59, s59, hy, hi, r59, hrf, hw⟩ := hw
        refine zr_aald hx hb hK hG 6 (by decide) hy rfl hi hrf kb_Pr_findReach_59 ?_
        obtain ⟨hy, hw⟩ := hw
        refine zr_getI (ci := 0) (f := 3) hx hb hts ki_At hown hK hG hy rfl 3 (by decide) (hts _ (List.mem_cons_of_mem _ kw_113)) (fun _ h => h) rfl rfl kb_Pr_findReach_60 ?_
        refine lv_ishl hx hb kb_Pr_findReach_63 ?_
        refine lv_ior hx hb kb_Pr_findReach_64 ?_
        obtain ⟨n65, s65, hy, hi, hw⟩ := hw
        refine zr_iast hx hb hK hG hS 0 hy rfl hi kb_Pr_findReach_65 (fun H locs hG hS => ?_)
        obtain ⟨σ65, e65⟩ : ∃ z, z = z_sA σ s65 r41 (upd (z_A σ s65 r41) (z_I σ 3 r45).toNatClampNeg ((z_A σ s52 r41 (z_I σ 3 r45).toNatClampNeg) ||| (((1 : Int32)) <<< ((z_I σ 3 r59) &&& 31)))) := ⟨_, rfl⟩
        rw [← e65] at hG
        have hw := hw _ e65
        refine lv_iinc (v := v3 + (1 : Int32)) (lv' := [(3, .int (v3 + (1 : Int32))), (0, .ref a0), (1, .int v1), (2, .ref v2)]) hx hb kb_Pr_findReach_66 hl (k := 3) rfl rfl (by decide) rfl (fun ls hl => ?_)
        refine lv_goto (tgt := 19) hx hb kb_Pr_findReach_69 (by decide) ?_
        exact hw _ _ _ hG hS (lv_sub hl [1, 2, 3, 0] rfl))
  have hw := hw (by
    intro v1 σ hw H locs ls hG hS hl
    refine lv_iload_n hx hb kb_Pr_findReach_80 rfl (lv_at hl 1 rfl) ?_
    refine lv_aload_n hx hb kb_Pr_findReach_81 rfl (lv_at hl 0 rfl) ?_
    obtain ⟨hy, hw⟩ := hw
    refine zr_getI (ci := 2) (f := 206) hx hb hts ki_Pr hown hK hG hy rfl 6 (by decide) (hts _ (List.mem_cons_of_mem _ kw_42)) (fun _ h => h) rfl rfl kb_Pr_findReach_82 ?_
    refine lv_icmp_ge (tgt := 138) hx hb kb_Pr_findReach_85 (by decide) (fun hc => ?_) (fun hc => ?_)
    · have hw := hw.1 hc
      exact zr_vret z_nwN hx hb hr hZ hK hN hG hS hw kb_Pr_findReach_138 hlocks
    · have hw := hw.2 hc
      refine lv_iconst (v := (0 : Int32)) hx hb kb_Pr_findReach_88 (by decide) ?_
      refine lv_istore_n (lv' := [(2, .int ((0 : Int32))), (0, .ref a0), (1, .int v1)]) hx hb kb_Pr_findReach_89 rfl hl (by decide) rfl (fun ls hl => ?_)
      exact hw _ _ _ hG hS (lv_sub hl [1, 2, 0] rfl))
  have hw := hw (by
    intro v1 v2 σ hw H locs ls hG hS hl
    refine lv_iload_n hx hb kb_Pr_findReach_90 rfl (lv_at hl 2 rfl) ?_
    refine lv_aload_n hx hb kb_Pr_findReach_91 rfl (lv_at hl 0 rfl) ?_
    obtain ⟨hy, hw⟩ := hw
    refine zr_getI (ci := 2) (f := 206) hx hb hts ki_Pr hown hK hG hy rfl 6 (by decide) (hts _ (List.mem_cons_of_mem _ kw_42)) (fun _ h => h) rfl rfl kb_Pr_findReach_92 ?_
    refine lv_icmp_ge (tgt := 132) hx hb kb_Pr_findReach_95 (by decide) (fun hc => ?_) (fun hc => ?_)
    · have hw := hw.1 hc
      refine lv_iinc (v := v1 + (1 : Int32)) (lv' := [(1, .int (v1 + (1 : Int32))), (0, .ref a0), (2, .int v2)]) hx hb kb_Pr_findReach_132 hl (k := 1) rfl rfl (by decide) rfl (fun ls hl => ?_)
      refine lv_goto (tgt := 80) hx hb kb_Pr_findReach_135 (by decide) ?_
      exact hw _ _ _ hG hS (lv_sub hl [1, 0] rfl)
    · have hw := hw.2 hc
      refine lv_aload_n hx hb kb_Pr_findReach_98 rfl (lv_at hl 0 rfl) ?_
      obtain ⟨hy, r99, hrf, hw⟩ := hw
      refine zr_getR (ci := 2) (f := 205) hx hb hts ki_Pr hown hK hG hy rfl 5 (by decide) (hts _ (List.mem_cons_of_mem _ kw_40)) (fun _ h => h) rfl rfl hrf kb_Pr_findReach_99 ?_
      refine lv_iload_n hx hb kb_Pr_findReach_102 rfl (lv_at hl 2 rfl) ?_
      obtain ⟨n103, s103, hy, hi, hw⟩ := hw
      refine zr_iald hx hb hK hG 0 hy rfl hi kb_Pr_findReach_103 ?_
      refine lv_iload_n hx hb kb_Pr_findReach_104 rfl (lv_at hl 1 rfl) ?_
      refine zr_ci (va_runSN (As := [.int (z_A σ s103 r99 v2.toNatClampNeg), .int v1]) (rest := []) ⟨hx, hb, hml, hown, hts⟩ (kc_Vr_isIn l D dA Z (z_A σ s103 r99 v2.toNatClampNeg) v1 σ _) ⟨va_cnB 2 hts (z_gw kw_309) rfl rfl rfl (hN _ kq_9) (hts _ (List.mem_cons_of_mem _ kw_1)) (by decide +kernel) ⟨Nat.le_of_ble_eq_true rfl, Nat.le_of_ble_eq_true rfl⟩, (hts _ (List.mem_cons_of_mem _ kw_308)), trivial⟩ (z_preS z_nwN (Nat.le_trans hZ hS.1) hG hK hN hw) rfl rfl hl.1 rfl (lv_room (Nat.le_of_ble_eq_true rfl)) kb_Pr_findReach_105 ⟨Nat.le_of_ble_eq_true rfl, Nat.le_of_ble_eq_true rfl⟩) hS (fun r105 σ105 H locs hw hG hS => ?_)
      refine lv_if_eq (tgt := 126) hx hb kb_Pr_findReach_108 (by decide) (fun hc => ?_) (fun hc => ?_)
      · have hw := hw.1 hc
        refine lv_iinc (v := v2 + (1 : Int32)) (lv' := [(2, .int (v2 + (1 : Int32))), (0, .ref a0), (1, .int v1)]) hx hb kb_Pr_findReach_126 hl (k := 2) rfl rfl (by decide) rfl (fun ls hl => ?_)
        refine lv_goto (tgt := 90) hx hb kb_Pr_findReach_129 (by decide) ?_
        exact hw _ _ _ hG hS (lv_sub hl [1, 2, 0] rfl)
      · have hw := hw.2 hc
        refine lv_aload_n hx hb kb_Pr_findReach_111 rfl (lv_at hl 0 rfl) ?_
        obtain ⟨hy, r112, hrf, hw⟩ := hw
        refine zr_getR (ci := 2) (f := 205) hx hb hts ki_Pr hown hK hG hy rfl 5 (by decide) (hts _ (List.mem_cons_of_mem _ kw_40)) (fun _ h => h) rfl rfl hrf kb_Pr_findReach_112 ?_
        refine lv_iload_n hx hb kb_Pr_findReach_115 rfl (lv_at hl 2 rfl) ?_
        refine lv_dup2_11 hx hb kb_Pr_findReach_116 rfl rfl ?_
        obtain ⟨n117, s117, hy, hi, hw⟩ := hw
        refine zr_iald hx hb hK hG 0 hy rfl hi kb_Pr_findReach_117 ?_
        refine lv_aload_n hx hb kb_Pr_findReach_118 rfl (lv_at hl 0 rfl) ?_
        obtain ⟨hy, r119, hrf, hw⟩ := hw
        refine zr_getR (ci := 2) (f := 205) hx hb hts ki_Pr hown hK hG hy rfl 5 (by decide) (hts _ (List.mem_cons_of_mem _ kw_40)) (fun _ h => h) rfl rfl hrf kb_Pr_findReach_119 ?_
        refine lv_iload_n hx hb kb_Pr_findReach_122 rfl (lv_at hl 1 rfl) ?_
        obtain ⟨n123, s123, hy, hi, hw⟩ := hw
        refine zr_iald hx hb hK hG 0 hy rfl hi kb_Pr_findReach_123 ?_
        refine lv_ior hx hb kb_Pr_findReach_124 ?_
        obtain ⟨n125, s125, hy, hi, hw⟩ := hw
        refine zr_iast hx hb hK hG hS 0 hy rfl hi kb_Pr_findReach_125 (fun H locs hG hS => ?_)
        obtain ⟨σ125, e125⟩ : ∃ z, z = z_sA σ105 s125 r112 (upd (z_A σ105 s125 r112) v2.toNatClampNeg ((z_A σ105 s117 r112 v2.toNatClampNeg) ||| (z_A σ105 s123 r119 v1.toNatClampNeg))) := ⟨_, rfl⟩
        rw [← e125] at hG
        have hw := hw _ e125
        refine lv_iinc (v := v2 + (1 : Int32)) (lv' := [(2, .int (v2 + (1 : Int32))), (0, .ref a0), (1, .int v1)]) hx hb kb_Pr_findReach_126 hl (k := 2) rfl rfl (by decide) rfl (fun ls hl => ?_)
        refine lv_goto (tgt := 90) hx hb kb_Pr_findReach_129 (by decide) ?_
        exact hw _ _ _ hG hS (lv_sub hl [1, 2, 0] rfl))
  refine lv_iconst (v := (0 : Int32)) hx hb kb_Pr_findReach_0 (by decide) ?_
  refine lv_istore_n (lv' := [(1, .int ((0 : Int32))), (0, .ref a0)]) hx hb kb_Pr_findReach_1 rfl hl (by decide) rfl (fun ls hl => ?_)
  exact hw _ _ _ hG hS (lv_sub hl [1, 0] rfl)
def kp_Pr_mustLieBelow (a0 : Nat) (b1 : Nat) (b2 : Nat) (σ : z_S) (Post : Int32 → z_S → Prop) : Prop :=     (z_ty σ b2 = some (.inl 0) ∧ (((z_I σ 2 b2) = ((1 : Int32)) → Post ((1 : Int32)) σ) ∧ (¬ (z_I σ 2 b2) = ((1 : Int32)) → z_ty σ b2 = some (.inl 0) ∧ ((¬ ((z_I σ 2 b2)) = 0 → Post ((0 : Int32)) σ) ∧ (((z_I σ 2 b2)) = 0 → z_ty σ b1 = some (.inl 5) ∧ ((((z_I σ 504 b1)) = 0 → Post ((0 : Int32)) σ) ∧ (¬ ((z_I σ 504 b1)) = 0 → Post ((1 : Int32)) σ)))))))
set_option maxHeartbeats 4000000 in
set_option maxRecDepth 100000 in
theorem kc_Pr_mustLieBelow (l : Launch) (D : va_G) (dA : Nat → ClassId) (Z : Nat) (a0 : Nat) (b1 : Nat) (b2 : Nat) (σ : z_S) (Post : Int32 → z_S → Prop) : Met l km_Pr_mustLieBelow ks_Pr_mustLieBelow kr_Pr_mustLieBelow (va_Pc [.ref a0, .ref b1, .ref b2] (fun U => z_U D z_cl z_KT dA Z (z_tys dA) z_nw σ U ∧ kp_Pr_mustLieBelow  a0 b1 b2 σ Post)) (z_Qi D z_cl z_KT dA Z (z_tys dA) z_nw Post) 0 0 (fun q => Z ≤ q) := by
  refine Met.ofW (cc := prog_4_method_12_code) (maxL := 3) (ret := (some .boolean)) (by decide) rfl ?_
  intro p e s m args below meth c s₁ B hml hv
  obtain ⟨rfl, ⟨hZ, hG, hK, hN⟩, hw⟩ := hv
  have hx := B.exec
  have hb := B.bytes
  have hr := B.returns
  have hts := atoms_spec (ws := ks_Pr_mustLieBelow) B.pre
  have hown : s.vm.findClass kR_Pr = some m.cls := findClass_of_methodNamed B.named
  have hlocks := B.notSynchronized
  have hS : va_S (fun q => Z ≤ q) s.heap s.heap [] := va_S.rf
  have hl := lv_entry ([.ref a0, .ref b1, .ref b2]) (n := 3) (Nat.le_of_ble_eq_true rfl)
  rw [lg_entry_eq]
  generalize (lg_sl ([.ref a0, .ref b1, .ref b2]) ++ List.replicate (3 - (lg_sl ([.ref a0, .ref b1, .ref b2])).length) Slot.unset).toArray = ls at hl ⊢
  have hl : lv_has ls 3 [(0, .ref a0), (1, .ref b1), (2, .ref b2)] := hl
  unfold kp_Pr_mustLieBelow at hw
  refine lv_aload_n hx hb kb_Pr_mustLieBelow_0 rfl (lv_at hl 2 rfl) ?_
  obtain ⟨hy, hw⟩ := hw
  refine zr_getI (ci := 0) (f := 2) hx hb hts ki_At hown hK hG hy rfl 2 (by decide) (hts _ (List.mem_cons_of_mem _ kw_111)) (fun _ h => h) rfl rfl kb_Pr_mustLieBelow_1 ?_
  refine lv_iconst (v := (1 : Int32)) hx hb kb_Pr_mustLieBelow_4 (by decide) ?_
  refine lv_icmp_eq (tgt := 22) hx hb kb_Pr_mustLieBelow_5 (by decide) (fun hc => ?_) (fun hc => ?_)
  · have hw := hw.1 hc
    refine lv_iconst (v := (1 : Int32)) hx hb kb_Pr_mustLieBelow_22 (by decide) ?_
    refine lv_goto (tgt := 27) hx hb kb_Pr_mustLieBelow_23 (by decide) ?_
    exact zr_iret (free := fun q => Z ≤ q) z_nwN hx hb hr rfl hZ hK hN hG hS hw kb_Pr_mustLieBelow_27 hlocks
  · have hw := hw.2 hc
    refine lv_aload_n hx hb kb_Pr_mustLieBelow_8 rfl (lv_at hl 2 rfl) ?_
    obtain ⟨hy, hw⟩ := hw
    refine zr_getI (ci := 0) (f := 2) hx hb hts ki_At hown hK hG hy rfl 2 (by decide) (hts _ (List.mem_cons_of_mem _ kw_111)) (fun _ h => h) rfl rfl kb_Pr_mustLieBelow_9 ?_
    refine lv_if_ne (tgt := 26) hx hb kb_Pr_mustLieBelow_12 (by decide) (fun hc => ?_) (fun hc => ?_)
    · have hw := hw.1 hc
      refine lv_iconst (v := (0 : Int32)) hx hb kb_Pr_mustLieBelow_26 (by decide) ?_
      exact zr_iret (free := fun q => Z ≤ q) z_nwN hx hb hr rfl hZ hK hN hG hS hw kb_Pr_mustLieBelow_27 hlocks
    · have hw := hw.2 hc
      refine lv_aload_n hx hb kb_Pr_mustLieBelow_15 rfl (lv_at hl 1 rfl) ?_
      obtain ⟨hy, hw⟩ := hw
      refine zr_getI (ci := 5) (f := 504) hx hb hts ki_Ru hown hK hG hy rfl 4 (by decide) (hts _ (List.mem_cons_of_mem _ kw_139)) (fun _ h => h) rfl rfl kb_Pr_mustLieBelow_16 ?_
      refine lv_if_eq (tgt := 26) hx hb kb_Pr_mustLieBelow_19 (by decide) (fun hc => ?_) (fun hc => ?_)
      · have hw := hw.1 hc
        refine lv_iconst (v := (0 : Int32)) hx hb kb_Pr_mustLieBelow_26 (by decide) ?_
        exact zr_iret (free := fun q => Z ≤ q) z_nwN hx hb hr rfl hZ hK hN hG hS hw kb_Pr_mustLieBelow_27 hlocks
      · have hw := hw.2 hc
        refine lv_iconst (v := (1 : Int32)) hx hb kb_Pr_mustLieBelow_22 (by decide) ?_
        refine lv_goto (tgt := 27) hx hb kb_Pr_mustLieBelow_23 (by decide) ?_
        exact zr_iret (free := fun q => Z ≤ q) z_nwN hx hb hr rfl hZ hK hN hG hS hw kb_Pr_mustLieBelow_27 hlocks
def kp_Pr_ringThrough (a0 : Nat) (x1 : Int32) (σ : z_S) (Post : Int32 → z_S → Prop) : Prop := ∀ (X4 : Int32 → Int32 → z_S → Prop),
    (∀ (v2 : Int32) (v3 : Int32) (σ : z_S), (z_ty σ a0 = some (.inl 2) ∧ (((z_I σ 206 a0) ≤ v3 → Post v2 σ) ∧ (¬ (z_I σ 206 a0) ≤ v3 → z_ty σ a0 = some (.inl 2) ∧ ∃ r13, z_R σ 205 a0 = some r13 ∧ (∃ n17 s17, z_ty σ r13 = some (.inr (0, n17, s17)) ∧ vp_in x1 n17 ∧ (kp_Vr_isIn (z_A σ s17 r13 x1.toNatClampNeg) v3 σ (fun (r19 : Int32) (σ19 : z_S) => (r19 = 0 → X4 v2 (v3 + (1 : Int32)) σ19) ∧ (¬ r19 = 0 → z_ty σ19 a0 = some (.inl 2) ∧ ∃ r26, z_R σ19 205 a0 = some r26 ∧ (∃ n30 s30, z_ty σ19 r26 = some (.inr (0, n30, s30)) ∧ vp_in v3 n30 ∧ (kp_Vr_isIn (z_A σ19 s30 r26 v3.toNatClampNeg) x1 σ19 (fun (r32 : Int32) (σ32 : z_S) => (r32 = 0 → X4 v2 (v3 + (1 : Int32)) σ32) ∧ (¬ r32 = 0 → X4 (v2 ||| (((1 : Int32)) <<< (v3 &&& 31))) (v3 + (1 : Int32)) σ32))))))))))) → X4 v2 v3 σ) →
    (X4 ((0 : Int32)) ((0 : Int32)) σ)
set_option maxHeartbeats 4000000 in
set_option maxRecDepth 100000 in
theorem kc_Pr_ringThrough (l : Launch) (D : va_G) (dA : Nat → ClassId) (Z : Nat) (a0 : Nat) (x1 : Int32) (σ : z_S) (Post : Int32 → z_S → Prop) : Met l km_Pr_ringThrough ks_Pr_ringThrough kr_Pr_ringThrough (va_Pc [.ref a0, .int x1] (fun U => z_U D z_cl z_KT dA Z (z_tys dA) z_nw σ U ∧ kp_Pr_ringThrough  a0 x1 σ Post)) (z_Qi D z_cl z_KT dA Z (z_tys dA) z_nw Post) 0 0 (fun q => Z ≤ q) := by
  refine Met.ofW (cc := prog_4_method_13_code) (maxL := 4) (ret := (some .int)) (by decide) rfl ?_
  intro p e s m args below meth c s₁ B hml hv
  obtain ⟨rfl, ⟨hZ, hG, hK, hN⟩, hw⟩ := hv
  have hx := B.exec
  have hb := B.bytes
  have hr := B.returns
  have hts := atoms_spec (ws := ks_Pr_ringThrough) B.pre
  have hown : s.vm.findClass kR_Pr = some m.cls := findClass_of_methodNamed B.named
  have hlocks := B.notSynchronized
  have hS : va_S (fun q => Z ≤ q) s.heap s.heap [] := va_S.rf
  have hl := lv_entry ([.ref a0, .int x1]) (n := 4) (Nat.le_of_ble_eq_true rfl)
  rw [lg_entry_eq]
  generalize (lg_sl ([.ref a0, .int x1]) ++ List.replicate (4 - (lg_sl ([.ref a0, .int x1])).length) Slot.unset).toArray = ls at hl ⊢
  have hl : lv_has ls 4 [(0, .ref a0), (1, .int x1)] := hl
  unfold kp_Pr_ringThrough at hw
  have hw := hw (fun (v2 : Int32) (v3 : Int32) (σ : z_S) => ∀ (H : Heap) (locs : List Loc) (ls : Array Slot), z_G D z_cl z_KT dA Z σ H → va_S (fun q => Z ≤ q) s.heap H locs → lv_has ls 4 [(0, .ref a0), (1, .int x1), (2, .int v2), (3, .int v3)] → W p l e (headSpec ks_Pr_ringThrough kr_Pr_ringThrough).room s m ([.ref a0, .int x1] : List Value).toArray below meth c H locs 0 0 (MQ below (z_Qi D z_cl z_KT dA Z (z_tys dA) z_nw Post) ([.ref a0, .int x1] : List Value).toArray s 0 0 (fun q => Z ≤ q)) (F0 m 4 ls []))
  have hw := hw (by
    intro v2 v3 σ hw H locs ls hG hS hl
    refine lv_iload_n hx hb kb_Pr_ringThrough_4 rfl (lv_at hl 3 rfl) ?_
    refine lv_aload_n hx hb kb_Pr_ringThrough_5 rfl (lv_at hl 0 rfl) ?_
    obtain ⟨hy, hw⟩ := hw
    refine zr_getI (ci := 2) (f := 206) hx hb hts ki_Pr hown hK hG hy rfl 6 (by decide) (hts _ (List.mem_cons_of_mem _ kw_42)) (fun _ h => h) rfl rfl kb_Pr_ringThrough_6 ?_
    refine lv_icmp_ge (tgt := 50) hx hb kb_Pr_ringThrough_9 (by decide) (fun hc => ?_) (fun hc => ?_)
    · have hw := hw.1 hc
      refine lv_iload_n hx hb kb_Pr_ringThrough_50 rfl (lv_at hl 2 rfl) ?_
      exact zr_iret (free := fun q => Z ≤ q) z_nwN hx hb hr rfl hZ hK hN hG hS hw kb_Pr_ringThrough_51 hlocks
    · have hw := hw.2 hc
      refine lv_aload_n hx hb kb_Pr_ringThrough_12 rfl (lv_at hl 0 rfl) ?_
      obtain ⟨hy, r13, hrf, hw⟩ := hw
      refine zr_getR (ci := 2) (f := 205) hx hb hts ki_Pr hown hK hG hy rfl 5 (by decide) (hts _ (List.mem_cons_of_mem _ kw_40)) (fun _ h => h) rfl rfl hrf kb_Pr_ringThrough_13 ?_
      refine lv_iload_n hx hb kb_Pr_ringThrough_16 rfl (lv_at hl 1 rfl) ?_
      obtain ⟨n17, s17, hy, hi, hw⟩ := hw
      refine zr_iald hx hb hK hG 0 hy rfl hi kb_Pr_ringThrough_17 ?_
      refine lv_iload_n hx hb kb_Pr_ringThrough_18 rfl (lv_at hl 3 rfl) ?_
      refine zr_ci (va_runSN (As := [.int (z_A σ s17 r13 x1.toNatClampNeg), .int v3]) (rest := []) ⟨hx, hb, hml, hown, hts⟩ (kc_Vr_isIn l D dA Z (z_A σ s17 r13 x1.toNatClampNeg) v3 σ _) ⟨va_cnB 2 hts (z_gw kw_309) rfl rfl rfl (hN _ kq_9) (hts _ (List.mem_cons_of_mem _ kw_1)) (by decide +kernel) ⟨Nat.le_of_ble_eq_true rfl, Nat.le_of_ble_eq_true rfl⟩, (hts _ (List.mem_cons_of_mem _ kw_308)), trivial⟩ (z_preS z_nwN (Nat.le_trans hZ hS.1) hG hK hN hw) rfl rfl hl.1 rfl (lv_room (Nat.le_of_ble_eq_true rfl)) kb_Pr_ringThrough_19 ⟨Nat.le_of_ble_eq_true rfl, Nat.le_of_ble_eq_true rfl⟩) hS (fun r19 σ19 H locs hw hG hS => ?_)
      refine lv_if_eq (tgt := 44) hx hb kb_Pr_ringThrough_22 (by decide) (fun hc => ?_) (fun hc => ?_)
      · have hw := hw.1 hc
        refine lv_iinc (v := v3 + (1 : Int32)) (lv' := [(3, .int (v3 + (1 : Int32))), (0, .ref a0), (1, .int x1), (2, .int v2)]) hx hb kb_Pr_ringThrough_44 hl (k := 3) rfl rfl (by decide) rfl (fun ls hl => ?_)
        refine lv_goto (tgt := 4) hx hb kb_Pr_ringThrough_47 (by decide) ?_
        exact hw _ _ _ hG hS (lv_sub hl [1, 2, 3, 0] rfl)
      · have hw := hw.2 hc
        refine lv_aload_n hx hb kb_Pr_ringThrough_25 rfl (lv_at hl 0 rfl) ?_
        obtain ⟨hy, r26, hrf, hw⟩ := hw
        refine zr_getR (ci := 2) (f := 205) hx hb hts ki_Pr hown hK hG hy rfl 5 (by decide) (hts _ (List.mem_cons_of_mem _ kw_40)) (fun _ h => h) rfl rfl hrf kb_Pr_ringThrough_26 ?_
        refine lv_iload_n hx hb kb_Pr_ringThrough_29 rfl (lv_at hl 3 rfl) ?_
        obtain ⟨n30, s30, hy, hi, hw⟩ := hw
        refine zr_iald hx hb hK hG 0 hy rfl hi kb_Pr_ringThrough_30 ?_
        refine lv_iload_n hx hb kb_Pr_ringThrough_31 rfl (lv_at hl 1 rfl) ?_
        refine zr_ci (va_runSN (As := [.int (z_A σ19 s30 r26 v3.toNatClampNeg), .int x1]) (rest := []) ⟨hx, hb, hml, hown, hts⟩ (kc_Vr_isIn l D dA Z (z_A σ19 s30 r26 v3.toNatClampNeg) x1 σ19 _) ⟨va_cnB 2 hts (z_gw kw_309) rfl rfl rfl (hN _ kq_9) (hts _ (List.mem_cons_of_mem _ kw_1)) (by decide +kernel) ⟨Nat.le_of_ble_eq_true rfl, Nat.le_of_ble_eq_true rfl⟩, (hts _ (List.mem_cons_of_mem _ kw_308)), trivial⟩ (z_preS z_nwN (Nat.le_trans hZ hS.1) hG hK hN hw) rfl rfl hl.1 rfl (lv_room (Nat.le_of_ble_eq_true rfl)) kb_Pr_ringThrough_32 ⟨Nat.le_of_ble_eq_true rfl, Nat.le_of_ble_eq_true rfl⟩) hS (fun r32 σ32 H locs hw hG hS => ?_)
        refine lv_if_eq (tgt := 44) hx hb kb_Pr_ringThrough_35 (by decide) (fun hc => ?_) (fun hc => ?_)
        · have hw := hw.1 hc
          refine lv_iinc (v := v3 + (1 : Int32)) (lv' := [(3, .int (v3 + (1 : Int32))), (0, .ref a0), (1, .int x1), (2, .int v2)]) hx hb kb_Pr_ringThrough_44 hl (k := 3) rfl rfl (by decide) rfl (fun ls hl => ?_)
          refine lv_goto (tgt := 4) hx hb kb_Pr_ringThrough_47 (by decide) ?_
          exact hw _ _ _ hG hS (lv_sub hl [1, 2, 3, 0] rfl)
        · have hw := hw.2 hc
          refine lv_iload_n hx hb kb_Pr_ringThrough_38 rfl (lv_at hl 2 rfl) ?_
          refine lv_iconst (v := (1 : Int32)) hx hb kb_Pr_ringThrough_39 (by decide) ?_
          refine lv_iload_n hx hb kb_Pr_ringThrough_40 rfl (lv_at hl 3 rfl) ?_
          refine lv_ishl hx hb kb_Pr_ringThrough_41 ?_
          refine lv_ior hx hb kb_Pr_ringThrough_42 ?_
          refine lv_istore_n (lv' := [(2, .int (v2 ||| (((1 : Int32)) <<< (v3 &&& 31)))), (0, .ref a0), (1, .int x1), (3, .int v3)]) hx hb kb_Pr_ringThrough_43 rfl hl (by decide) rfl (fun ls hl => ?_)
          refine lv_iinc (v := v3 + (1 : Int32)) (lv' := [(3, .int (v3 + (1 : Int32))), (2, .int (v2 ||| (((1 : Int32)) <<< (v3 &&& 31)))), (0, .ref a0), (1, .int x1)]) hx hb kb_Pr_ringThrough_44 hl (k := 3) rfl rfl (by decide) rfl (fun ls hl => ?_)
          refine lv_goto (tgt := 4) hx hb kb_Pr_ringThrough_47 (by decide) ?_
          exact hw _ _ _ hG hS (lv_sub hl [2, 3, 1, 0] rfl))
  refine lv_iconst (v := (0 : Int32)) hx hb kb_Pr_ringThrough_0 (by decide) ?_
  refine lv_istore_n (lv' := [(2, .int ((0 : Int32))), (0, .ref a0), (1, .int x1)]) hx hb kb_Pr_ringThrough_1 rfl hl (by decide) rfl (fun ls hl => ?_)
  refine lv_iconst (v := (0 : Int32)) hx hb kb_Pr_ringThrough_2 (by decide) ?_
  refine lv_istore_n (lv' := [(3, .int ((0 : Int32))), (2, .int ((0 : Int32))), (0, .ref a0), (1, .int x1)]) hx hb kb_Pr_ringThrough_3 rfl hl (by decide) rfl (fun ls hl => ?_)
  exact hw _ _ _ hG hS (lv_sub hl [2, 3, 1, 0] rfl)
def kp_Pr_chooseRing (a0 : Nat) (x1 : Int32) (σ : z_S) (Post : z_S → Prop) : Prop := ∀ (X24 : z_S → Prop),
    (∀ (σ : z_S), (z_ty σ a0 = some (.inl 2) ∧ ∀ σ26, σ26 = z_sI σ 208 a0 x1 → Post σ26) → X24 σ) →
    (z_ty σ a0 = some (.inl 2) ∧ ((((z_I σ 208 a0)) = 0 → X24 σ) ∧ (¬ ((z_I σ 208 a0)) = 0 → z_ty σ a0 = some (.inl 2) ∧ (z_ty σ a0 = some (.inl 2) ∧ ((((z_I σ 208 a0) &&& (-(z_I σ 208 a0))) ≤ (x1 &&& (-x1)) → Post σ) ∧ (¬ ((z_I σ 208 a0) &&& (-(z_I σ 208 a0))) ≤ (x1 &&& (-x1)) → X24 σ))))))
set_option maxHeartbeats 4000000 in
set_option maxRecDepth 100000 in
theorem kc_Pr_chooseRing (l : Launch) (D : va_G) (dA : Nat → ClassId) (Z : Nat) (a0 : Nat) (x1 : Int32) (σ : z_S) (Post : z_S → Prop) : Met l km_Pr_chooseRing ks_Pr_chooseRing kr_Pr_chooseRing (va_Pc [.ref a0, .int x1] (fun U => z_U D z_cl z_KT dA Z (z_tys dA) z_nw σ U ∧ kp_Pr_chooseRing  a0 x1 σ Post)) (z_Qv D z_cl z_KT dA Z (z_tys dA) z_nw Post) 0 0 (fun q => Z ≤ q) := by
  refine Met.ofW (cc := prog_4_method_14_code) (maxL := 2) (ret := none) (by decide) rfl ?_
  intro p e s m args below meth c s₁ B hml hv
  obtain ⟨rfl, ⟨hZ, hG, hK, hN⟩, hw⟩ := hv
  have hx := B.exec
  have hb := B.bytes
  have hr := B.returns
  have hts := atoms_spec (ws := ks_Pr_chooseRing) B.pre
  have hown : s.vm.findClass kR_Pr = some m.cls := findClass_of_methodNamed B.named
  have hlocks := B.notSynchronized
  have hS : va_S (fun q => Z ≤ q) s.heap s.heap [] := va_S.rf
  have hl := lv_entry ([.ref a0, .int x1]) (n := 2) (Nat.le_of_ble_eq_true rfl)
  rw [lg_entry_eq]
  generalize (lg_sl ([.ref a0, .int x1]) ++ List.replicate (2 - (lg_sl ([.ref a0, .int x1])).length) Slot.unset).toArray = ls at hl ⊢
  have hl : lv_has ls 2 [(0, .ref a0), (1, .int x1)] := hl
  unfold kp_Pr_chooseRing at hw
  have hw := hw (fun (σ : z_S) => ∀ (H : Heap) (locs : List Loc) (ls : Array Slot), z_G D z_cl z_KT dA Z σ H → va_S (fun q => Z ≤ q) s.heap H locs → lv_has ls 2 [(0, .ref a0), (1, .int x1)] → W p l e (headSpec ks_Pr_chooseRing kr_Pr_chooseRing).room s m ([.ref a0, .int x1] : List Value).toArray below meth c H locs 0 0 (MQ below (z_Qv D z_cl z_KT dA Z (z_tys dA) z_nw Post) ([.ref a0, .int x1] : List Value).toArray s 0 0 (fun q => Z ≤ q)) (F0 m 24 ls []))
  have hw := hw (by
    intro σ hw H locs ls hG hS hl
    refine lv_aload_n hx hb kb_Pr_chooseRing_24 rfl (lv_at hl 0 rfl) ?_
    refine lv_iload_n hx hb kb_Pr_chooseRing_25 rfl (lv_at hl 1 rfl) ?_
    obtain ⟨hy, hw⟩ := hw
    refine zr_putI (ci := 2) (f := 208) hx hb hts ki_Pr ky_Pr kyo_Pr kn_Pr hown hK hG hS hy rfl 8 (by decide) (hts _ (List.mem_cons_of_mem _ kw_48)) (fun _ h => h) rfl rfl rfl rfl rfl kb_Pr_chooseRing_26 (fun H locs hG hS => ?_)
    obtain ⟨σ26, e26⟩ : ∃ z, z = z_sI σ 208 a0 x1 := ⟨_, rfl⟩
    rw [← e26] at hG
    have hw := hw _ e26
    exact zr_vret z_nwN hx hb hr hZ hK hN hG hS hw kb_Pr_chooseRing_29 hlocks)
  refine lv_aload_n hx hb kb_Pr_chooseRing_0 rfl (lv_at hl 0 rfl) ?_
  obtain ⟨hy, hw⟩ := hw
  refine zr_getI (ci := 2) (f := 208) hx hb hts ki_Pr hown hK hG hy rfl 8 (by decide) (hts _ (List.mem_cons_of_mem _ kw_48)) (fun _ h => h) rfl rfl kb_Pr_chooseRing_1 ?_
  refine lv_if_eq (tgt := 24) hx hb kb_Pr_chooseRing_4 (by decide) (fun hc => ?_) (fun hc => ?_)
  · have hw := hw.1 hc
    exact hw _ _ _ hG hS (lv_sub hl [0, 1] rfl)
  · have hw := hw.2 hc
    refine lv_iload_n hx hb kb_Pr_chooseRing_7 rfl (lv_at hl 1 rfl) ?_
    refine lv_iload_n hx hb kb_Pr_chooseRing_8 rfl (lv_at hl 1 rfl) ?_
    refine lv_ineg hx hb kb_Pr_chooseRing_9 ?_
    refine lv_iand hx hb kb_Pr_chooseRing_10 ?_
    refine lv_aload_n hx hb kb_Pr_chooseRing_11 rfl (lv_at hl 0 rfl) ?_
    obtain ⟨hy, hw⟩ := hw
    refine zr_getI (ci := 2) (f := 208) hx hb hts ki_Pr hown hK hG hy rfl 8 (by decide) (hts _ (List.mem_cons_of_mem _ kw_48)) (fun _ h => h) rfl rfl kb_Pr_chooseRing_12 ?_
    refine lv_aload_n hx hb kb_Pr_chooseRing_15 rfl (lv_at hl 0 rfl) ?_
    obtain ⟨hy, hw⟩ := hw
    refine zr_getI (ci := 2) (f := 208) hx hb hts ki_Pr hown hK hG hy rfl 8 (by decide) (hts _ (List.mem_cons_of_mem _ kw_48)) (fun _ h => h) rfl rfl kb_Pr_chooseRing_16 ?_
    refine lv_ineg hx hb kb_Pr_chooseRing_19 ?_
    refine lv_iand hx hb kb_Pr_chooseRing_20 ?_
    refine lv_icmp_ge (tgt := 29) hx hb kb_Pr_chooseRing_21 (by decide) (fun hc => ?_) (fun hc => ?_)
    · have hw := hw.1 hc
      exact zr_vret z_nwN hx hb hr hZ hK hN hG hS hw kb_Pr_chooseRing_29 hlocks
    · have hw := hw.2 hc
      exact hw _ _ _ hG hS (lv_sub hl [0, 1] rfl)
def kp_Pr_findRing (a0 : Nat) (σ : z_S) (Post : z_S → Prop) : Prop := ∀ (X2 : Int32 → z_S → Prop) (X28 : Int32 → Nat → Int32 → Int32 → z_S → Prop),
    (∀ (v1 : Int32) (σ : z_S), (z_ty σ a0 = some (.inl 2) ∧ (((z_I σ 201 a0) ≤ v1 → Post σ) ∧ (¬ (z_I σ 201 a0) ≤ v1 → z_ty σ a0 = some (.inl 2) ∧ ∃ r11, z_R σ 200 a0 = some r11 ∧ (∃ n15 s15, z_ty σ r11 = some (.inr (8, n15, s15)) ∧ vp_in v1 n15 ∧ ∃ r15, z_Q σ s15 r11 v1.toNatClampNeg = some r15 ∧ (z_ty σ r15 = some (.inl 5) ∧ ∃ r18, z_R σ 500 r15 = some r18 ∧ (z_ty σ r18 = some (.inl 0) ∧ (X28 v1 r15 (z_I σ 3 r18) ((0 : Int32)) σ))))))) → X2 v1 σ) →
    (∀ (v1 : Int32) (v2 : Nat) (v3 : Int32) (v4 : Int32) (σ : z_S), (z_ty σ v2 = some (.inl 5) ∧ (((z_I σ 502 v2) ≤ v4 → X2 (v1 + (1 : Int32)) σ) ∧ (¬ (z_I σ 502 v2) ≤ v4 → z_ty σ v2 = some (.inl 5) ∧ ∃ r38, z_R σ 501 v2 = some r38 ∧ (∃ n43 s43, z_ty σ r38 = some (.inr (11, n43, s43)) ∧ vp_in v4 n43 ∧ ∃ r43, z_Q σ s43 r38 v4.toNatClampNeg = some r43 ∧ (z_ty σ a0 = some (.inl 2) ∧ kp_Pr_mustLieBelow a0 v2 r43 σ (fun (r50 : Int32) (σ50 : z_S) => (r50 = 0 → X28 v1 v2 v3 (v4 + (1 : Int32)) σ50) ∧ (¬ r50 = 0 → z_ty σ50 a0 = some (.inl 2) ∧ ∃ r57, z_R σ50 205 a0 = some r57 ∧ (z_ty σ50 r43 = some (.inl 0) ∧ (∃ n65 s65, z_ty σ50 r57 = some (.inr (0, n65, s65)) ∧ vp_in (z_I σ50 3 r43) n65 ∧ (kp_Vr_isIn (z_A σ50 s65 r57 (z_I σ50 3 r43).toNatClampNeg) v3 σ50 (fun (r67 : Int32) (σ67 : z_S) => (r67 = 0 → X28 v1 v2 v3 (v4 + (1 : Int32)) σ67) ∧ (¬ r67 = 0 → z_ty σ67 a0 = some (.inl 2) ∧ kp_Pr_ringThrough a0 v3 σ67 (fun (r76 : Int32) (σ76 : z_S) => z_ty σ76 a0 = some (.inl 2) ∧ kp_Pr_chooseRing a0 r76 σ76 (fun (σ79 : z_S) => X28 v1 v2 v3 (v4 + (1 : Int32)) σ79)))))))))))))) → X28 v1 v2 v3 v4 σ) →
    (X2 ((0 : Int32)) σ)
set_option maxHeartbeats 4000000 in
set_option maxRecDepth 100000 in
theorem kc_Pr_findRing (l : Launch) (D : va_G) (dA : Nat → ClassId) (Z : Nat) (a0 : Nat) (σ : z_S) (Post : z_S → Prop) : Met l km_Pr_findRing ks_Pr_findRing kr_Pr_findRing (va_Pc [.ref a0] (fun U => z_U D z_cl z_KT dA Z (z_tys dA) z_nw σ U ∧ kp_Pr_findRing  a0 σ Post)) (z_Qv D z_cl z_KT dA Z (z_tys dA) z_nw Post) 0 0 (fun q => Z ≤ q) := by
  refine Met.ofW (cc := prog_4_method_11_code) (maxL := 6) (ret := none) (by decide) rfl ?_
  intro p e s m args below meth c s₁ B hml hv
  obtain ⟨rfl, ⟨hZ, hG, hK, hN⟩, hw⟩ := hv
  have hx := B.exec
  have hb := B.bytes
  have hr := B.returns
  have hts := atoms_spec (ws := ks_Pr_findRing) B.pre
  have hown : s.vm.findClass kR_Pr = some m.cls := findClass_of_methodNamed B.named
  have hlocks := B.notSynchronized
  have hS : va_S (fun q => Z ≤ q) s.heap s.heap [] := va_S.rf
  have hl := lv_entry ([.ref a0]) (n := 6) (Nat.le_of_ble_eq_true rfl)
  rw [lg_entry_eq]
  generalize (lg_sl ([.ref a0]) ++ List.replicate (6 - (lg_sl ([.ref a0])).length) Slot.unset).toArray = ls at hl ⊢
  have hl : lv_has ls 6 [(0, .ref a0)] := hl
  unfold kp_Pr_findRing at hw
  have hw := hw (fun (v1 : Int32) (σ : z_S) => ∀ (H : Heap) (locs : List Loc) (ls : Array Slot), z_G D z_cl z_KT dA Z σ H → va_S (fun q => Z ≤ q) s.heap H locs → lv_has ls 6 [(0, .ref a0), (1, .int v1)] → W p l e (headSpec ks_Pr_findRing kr_Pr_findRing).room s m ([.ref a0] : List Value).toArray below meth c H locs 0 0 (MQ below (z_Qv D z_cl z_KT dA Z (z_tys dA) z_nw Post) ([.ref a0] : List Value).toArray s 0 0 (fun q => Z ≤ q)) (F0 m 2 ls []))
  have hw := hw (fun (v1 : Int32) (v2 : Nat) (v3 : Int32) (v4 : Int32) (σ : z_S) => ∀ (H : Heap) (locs : List Loc) (ls : Array Slot), z_G D z_cl z_KT dA Z σ H → va_S (fun q => Z ≤ q) s.heap H locs → lv_has ls 6 [(0, .ref a0), (1, .int v1), (2, .ref v2), (3, .int v3), (4, .int v4)] → W p l e (headSpec ks_Pr_findRing kr_Pr_findRing).room s m ([.ref a0] : List Value).toArray below meth c H locs 0 0 (MQ below (z_Qv D z_cl z_KT dA Z (z_tys dA) z_nw Post) ([.ref a0] : List Value).toArray s 0 0 (fun q => Z ≤ q)) (F0 m 28 ls []))
  have hw := hw (by
    intro v1 σ hw H locs ls hG hS hl
    refine lv_iload_n hx hb kb_Pr_findRing_2 rfl (lv_at hl 1 rfl) ?_
    refine lv_aload_n hx hb kb_Pr_findRing_3 rfl (lv_at hl 0 rfl) ?_
    obtain ⟨hy, hw⟩ := hw
    refine zr_getI (ci := 2) (f := 201) hx hb hts ki_Pr hown hK hG hy rfl 1 (by decide) (hts _ (List.mem_cons_of_mem _ kw_31)) (fun _ h => h) rfl rfl kb_Pr_findRing_4 ?_
    refine lv_icmp_ge (tgt := 94) hx hb kb_Pr_findRing_7 (by decide) (fun hc => ?_) (fun hc => ?_)
    · have hw := hw.1 hc
      exact zr_vret z_nwN hx hb hr hZ hK hN hG hS hw kb_Pr_findRing_94 hlocks
    · have hw := hw.2 hc
      refine lv_aload_n hx hb kb_Pr_findRing_10 rfl (lv_at hl 0 rfl) ?_
      obtain ⟨hy, r11, hrf, hw⟩ := hw
      refine zr_getR (ci := 2) (f := 200) hx hb hts ki_Pr hown hK hG hy rfl 0 (by decide) (hts _ (List.mem_cons_of_mem _ kw_25)) (fun _ h => h) rfl rfl hrf kb_Pr_findRing_11 ?_
      refine lv_iload_n hx hb kb_Pr_findRing_14 rfl (lv_at hl 1 rfl) ?_
      obtain ⟨n15, s15, hy, hi, r15, hrf, hw⟩ := hw
      refine zr_aald hx hb hK hG 3 (by decide) hy rfl hi hrf kb_Pr_findRing_15 ?_
      refine lv_astore_n (lv' := [(2, .ref r15), (0, .ref a0), (1, .int v1)]) hx hb kb_Pr_findRing_16 rfl hl (by decide) rfl (fun ls hl => ?_)
      refine lv_aload_n hx hb kb_Pr_findRing_17 rfl (lv_at hl 0 rfl) ?_
      obtain ⟨hy, r18, hrf, hw⟩ := hw
      refine zr_getR (ci := 5) (f := 500) hx hb hts ki_Ru hown hK hG hy rfl 0 (by decide) (hts _ (List.mem_cons_of_mem _ kw_129)) (fun _ h => h) rfl rfl hrf kb_Pr_findRing_18 ?_
      obtain ⟨hy, hw⟩ := hw
      refine zr_getI (ci := 0) (f := 3) hx hb hts ki_At hown hK hG hy rfl 3 (by decide) (hts _ (List.mem_cons_of_mem _ kw_113)) (fun _ h => h) rfl rfl kb_Pr_findRing_21 ?_
      refine lv_istore_n (lv' := [(3, .int (z_I σ 3 r18)), (2, .ref r15), (0, .ref a0), (1, .int v1)]) hx hb kb_Pr_findRing_24 rfl hl (by decide) rfl (fun ls hl => ?_)
      refine lv_iconst (v := (0 : Int32)) hx hb kb_Pr_findRing_25 (by decide) ?_
      refine lv_istore (lv' := [(4, .int ((0 : Int32))), (3, .int (z_I σ 3 r18)), (2, .ref r15), (0, .ref a0), (1, .int v1)]) hx hb kb_Pr_findRing_26 hl (by decide) rfl (fun ls hl => ?_)
      exact hw _ _ _ hG hS (lv_sub hl [3, 4, 2, 1, 0] rfl))
  have hw := hw (by
    intro v1 v2 v3 v4 σ hw H locs ls hG hS hl
    refine lv_iload hx hb kb_Pr_findRing_28 (lv_at hl 4 rfl) ?_
    refine lv_aload_n hx hb kb_Pr_findRing_30 rfl (lv_at hl 2 rfl) ?_
    obtain ⟨hy, hw⟩ := hw
    refine zr_getI (ci := 5) (f := 502) hx hb hts ki_Ru hown hK hG hy rfl 2 (by decide) (hts _ (List.mem_cons_of_mem _ kw_135)) (fun _ h => h) rfl rfl kb_Pr_findRing_31 ?_
    refine lv_icmp_ge (tgt := 88) hx hb kb_Pr_findRing_34 (by decide) (fun hc => ?_) (fun hc => ?_)
    · have hw := hw.1 hc
      refine lv_iinc (v := v1 + (1 : Int32)) (lv' := [(1, .int (v1 + (1 : Int32))), (0, .ref a0), (2, .ref v2), (3, .int v3), (4, .int v4)]) hx hb kb_Pr_findRing_88 hl (k := 1) rfl rfl (by decide) rfl (fun ls hl => ?_)
      refine lv_goto (tgt := 2) hx hb kb_Pr_findRing_91 (by decide) ?_
      exact hw _ _ _ hG hS (lv_sub hl [1, 0] rfl)
    · have hw := hw.2 hc
      refine lv_aload_n hx hb kb_Pr_findRing_37 rfl (lv_at hl 2 rfl) ?_
      obtain ⟨hy, r38, hrf, hw⟩ := hw
      refine zr_getR (ci := 5) (f := 501) hx hb hts ki_Ru hown hK hG hy rfl 1 (by decide) (hts _ (List.mem_cons_of_mem _ kw_132)) (fun _ h => h) rfl rfl hrf kb_Pr_findRing_38 ?_
      refine lv_iload hx hb kb_Pr_findRing_41 (lv_at hl 4 rfl) ?_
      obtain ⟨n43, s43, hy, hi, r43, hrf, hw⟩ := hw
      refine zr_aald hx hb hK hG 6 (by decide) hy rfl hi hrf kb_Pr_findRing_43 ?_
      refine lv_astore (lv' := [(5, .ref r43), (0, .ref a0), (1, .int v1), (2, .ref v2), (3, .int v3), (4, .int v4)]) hx hb kb_Pr_findRing_44 hl (by decide) rfl (fun ls hl => ?_)
      refine lv_aload_n hx hb kb_Pr_findRing_46 rfl (lv_at hl 1 rfl) ?_
      refine lv_aload_n hx hb kb_Pr_findRing_47 rfl (lv_at hl 3 rfl) ?_
      refine lv_aload hx hb kb_Pr_findRing_48 (lv_at hl 0 rfl) ?_
      obtain ⟨hy, hw⟩ := hw
      refine zr_ci (va_runV (C := kR_Pr) (As := [.ref v2, .ref r43]) (rest := []) ⟨hx, hb, hml, hown, hts⟩ (kc_Pr_mustLieBelow l D dA Z a0 v2 r43 σ _) ⟨callB_of 2 hts (z_gw kw_367) rfl rfl rfl (hts _ (List.mem_cons_of_mem _ kw_2)) (hts _ (List.mem_cons_of_mem _ kw_365)) (by decide +kernel) ⟨Nat.le_of_ble_eq_true rfl, Nat.le_of_ble_eq_true rfl⟩, (hts _ (List.mem_cons_of_mem _ kw_366)), (hts _ (List.mem_cons_of_mem _ kw_922))⟩ (z_preV z_nwN (Nat.le_trans hZ hS.1) hG hK hN hy (ci := 2) (r := (kR_Pr, kT_Pr, 11)) rfl hw) rfl rfl hl.1 rfl (lv_room (Nat.le_of_ble_eq_true rfl)) kb_Pr_findRing_50 ⟨Nat.le_of_ble_eq_true rfl, Nat.le_of_ble_eq_true rfl⟩) hS (fun r50 σ50 H locs hw hG hS => ?_)
      refine lv_if_eq (tgt := 82) hx hb kb_Pr_findRing_53 (by decide) (fun hc => ?_) (fun hc => ?_)
      · have hw := hw.1 hc
        refine lv_iinc (v := v4 + (1 : Int32)) (lv' := [(4, .int (v4 + (1 : Int32))), (5, .ref r43), (0, .ref a0), (1, .int v1), (2, .ref v2), (3, .int v3)]) hx hb kb_Pr_findRing_82 hl (k := 5) rfl rfl (by decide) rfl (fun ls hl => ?_)
        refine lv_goto (tgt := 28) hx hb kb_Pr_findRing_85 (by decide) ?_
        exact hw _ _ _ hG hS (lv_sub hl [2, 3, 4, 5, 0] rfl)
      · have hw := hw.2 hc
        refine lv_aload_n hx hb kb_Pr_findRing_56 rfl (lv_at hl 1 rfl) ?_
        obtain ⟨hy, r57, hrf, hw⟩ := hw
        refine zr_getR (ci := 2) (f := 205) hx hb hts ki_Pr hown hK hG hy rfl 5 (by decide) (hts _ (List.mem_cons_of_mem _ kw_40)) (fun _ h => h) rfl rfl hrf kb_Pr_findRing_57 ?_
        refine lv_aload hx hb kb_Pr_findRing_60 (lv_at hl 0 rfl) ?_
        obtain ⟨hy, hw⟩ := hw
        refine zr_getI (ci := 0) (f := 3) hx hb hts ki_At hown hK hG hy rfl 3 (by decide) (hts _ (List.mem_cons_of_mem _ kw_113)) (fun _ h => h) rfl rfl kb_Pr_findRing_62 ?_
        obtain ⟨n65, s65, hy, hi, hw⟩ := hw
        refine zr_iald hx hb hK hG 0 hy rfl hi kb_Pr_findRing_65 ?_
        refine lv_iload_n hx hb kb_Pr_findRing_66 rfl (lv_at hl 4 rfl) ?_
        refine zr_ci (va_runSN (As := [.int (z_A σ50 s65 r57 (z_I σ50 3 r43).toNatClampNeg), .int v3]) (rest := []) ⟨hx, hb, hml, hown, hts⟩ (kc_Vr_isIn l D dA Z (z_A σ50 s65 r57 (z_I σ50 3 r43).toNatClampNeg) v3 σ50 _) ⟨va_cnB 2 hts (z_gw kw_309) rfl rfl rfl (hN _ kq_9) (hts _ (List.mem_cons_of_mem _ kw_1)) (by decide +kernel) ⟨Nat.le_of_ble_eq_true rfl, Nat.le_of_ble_eq_true rfl⟩, (hts _ (List.mem_cons_of_mem _ kw_308)), trivial⟩ (z_preS z_nwN (Nat.le_trans hZ hS.1) hG hK hN hw) rfl rfl hl.1 rfl (lv_room (Nat.le_of_ble_eq_true rfl)) kb_Pr_findRing_67 ⟨Nat.le_of_ble_eq_true rfl, Nat.le_of_ble_eq_true rfl⟩) hS (fun r67 σ67 H locs hw hG hS => ?_)
        refine lv_if_eq (tgt := 82) hx hb kb_Pr_findRing_70 (by decide) (fun hc => ?_) (fun hc => ?_)
        · have hw := hw.1 hc
          refine lv_iinc (v := v4 + (1 : Int32)) (lv' := [(4, .int (v4 + (1 : Int32))), (5, .ref r43), (0, .ref a0), (1, .int v1), (2, .ref v2), (3, .int v3)]) hx hb kb_Pr_findRing_82 hl (k := 5) rfl rfl (by decide) rfl (fun ls hl => ?_)
          refine lv_goto (tgt := 28) hx hb kb_Pr_findRing_85 (by decide) ?_
          exact hw _ _ _ hG hS (lv_sub hl [2, 3, 4, 5, 0] rfl)
        · have hw := hw.2 hc
          refine lv_aload_n hx hb kb_Pr_findRing_73 rfl (lv_at hl 1 rfl) ?_
          refine lv_aload_n hx hb kb_Pr_findRing_74 rfl (lv_at hl 1 rfl) ?_
          refine lv_iload_n hx hb kb_Pr_findRing_75 rfl (lv_at hl 4 rfl) ?_
          obtain ⟨hy, hw⟩ := hw
          refine zr_ci (va_runV (C := kR_Pr) (As := [.int v3]) (rest := [.ref a0]) ⟨hx, hb, hml, hown, hts⟩ (kc_Pr_ringThrough l D dA Z a0 v3 σ67 _) ⟨callB_of 1 hts (z_gw kw_370) rfl rfl rfl (hts _ (List.mem_cons_of_mem _ kw_2)) (hts _ (List.mem_cons_of_mem _ kw_368)) (by decide +kernel) ⟨Nat.le_of_ble_eq_true rfl, Nat.le_of_ble_eq_true rfl⟩, (hts _ (List.mem_cons_of_mem _ kw_369)), (hts _ (List.mem_cons_of_mem _ kw_923))⟩ (z_preV z_nwN (Nat.le_trans hZ hS.1) hG hK hN hy (ci := 2) (r := (kR_Pr, kT_Pr, 11)) rfl hw) rfl rfl hl.1 rfl (lv_room (Nat.le_of_ble_eq_true rfl)) kb_Pr_findRing_76 ⟨Nat.le_of_ble_eq_true rfl, Nat.le_of_ble_eq_true rfl⟩) hS (fun r76 σ76 H locs hw hG hS => ?_)
          obtain ⟨hy, hw⟩ := hw
          refine zr_cv (va_runV (C := kR_Pr) (As := [.int r76]) (rest := []) ⟨hx, hb, hml, hown, hts⟩ (kc_Pr_chooseRing l D dA Z a0 r76 σ76 _) ⟨callB_of 1 hts (z_gw kw_373) rfl rfl rfl (hts _ (List.mem_cons_of_mem _ kw_2)) (hts _ (List.mem_cons_of_mem _ kw_371)) (by decide +kernel) ⟨Nat.le_of_ble_eq_true rfl, Nat.le_of_ble_eq_true rfl⟩, (hts _ (List.mem_cons_of_mem _ kw_372)), (hts _ (List.mem_cons_of_mem _ kw_924))⟩ (z_preV z_nwN (Nat.le_trans hZ hS.1) hG hK hN hy (ci := 2) (r := (kR_Pr, kT_Pr, 11)) rfl hw) rfl rfl hl.1 rfl (lv_room (Nat.le_of_ble_eq_true rfl)) kb_Pr_findRing_79 ⟨Nat.le_of_ble_eq_true rfl, Nat.le_of_ble_eq_true rfl⟩) hS (fun σ79 H locs hw hG hS => ?_)
          refine lv_iinc (v := v4 + (1 : Int32)) (lv' := [(4, .int (v4 + (1 : Int32))), (5, .ref r43), (0, .ref a0), (1, .int v1), (2, .ref v2), (3, .int v3)]) hx hb kb_Pr_findRing_82 hl (k := 5) rfl rfl (by decide) rfl (fun ls hl => ?_)
          refine lv_goto (tgt := 28) hx hb kb_Pr_findRing_85 (by decide) ?_
          exact hw _ _ _ hG hS (lv_sub hl [2, 3, 4, 5, 0] rfl))
  refine lv_iconst (v := (0 : Int32)) hx hb kb_Pr_findRing_0 (by decide) ?_
  refine lv_istore_n (lv' := [(1, .int ((0 : Int32))), (0, .ref a0)]) hx hb kb_Pr_findRing_1 rfl hl (by decide) rfl (fun ls hl => ?_)
  exact hw _ _ _ hG hS (lv_sub hl [1, 0] rfl)
