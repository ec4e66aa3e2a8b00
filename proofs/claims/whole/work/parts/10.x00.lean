def kp_At_init (a0 : Nat) (σ : z_S) (Post : z_S → Prop) : Prop :=     (∀ q6, z_ty σ q6 = none → ∀ σ6, σ6 = z_arr σ q6 0 3 1 → z_ty σ6 a0 = some (.inl 0) ∧ ∀ σ8, σ8 = z_sR σ6 0 a0 (some q6) → Post σ8)
set_option maxHeartbeats 4000000 in
set_option maxRecDepth 100000 in
theorem kc_At_init (l : Launch) (D : va_G) (dA : Nat → ClassId) (Z : Nat) (a0 : Nat) (σ : z_S) (Post : z_S → Prop) : Met l km_At_init ks_At_init kr_At_init (va_Pc [.ref a0] (fun U => z_U D z_cl z_KT dA Z (z_tys dA) z_nw σ U ∧ kp_At_init  a0 σ Post)) (z_Qv D z_cl z_KT dA Z (z_tys dA) z_nw Post) 1 3 (fun q => Z ≤ q) := by
  refine Met.ofW (cc := prog_2_method_1_code) (maxL := 1) (ret := none) (by decide) rfl ?_
  intro p e s m args below meth c s₁ B hml hv
  obtain ⟨rfl, ⟨hZ, hG, hK, hN⟩, hw⟩ := hv
  have hx := B.exec
  have hb := B.bytes
  have hr := B.returns
  have hts := atoms_spec (ws := ks_At_init) B.pre
  have hown : s.vm.findClass kR_At = some m.cls := findClass_of_methodNamed B.named
  have hlocks := B.notSynchronized
  have hin : meth.name = "<init>" := (name_of_methodNamed B.named B.method).1
  have hS : va_S (fun q => Z ≤ q) s.heap s.heap [] := va_S.rf
  have hl := lv_entry ([.ref a0]) (n := 1) (Nat.le_of_ble_eq_true rfl)
  rw [lg_entry_eq]
  generalize (lg_sl ([.ref a0]) ++ List.replicate (1 - (lg_sl ([.ref a0])).length) Slot.unset).toArray = ls at hl ⊢
  have hl : lv_has ls 1 [(0, .ref a0)] := hl
  unfold kp_At_init at hw
  refine lv_aload_n hx hb kb_At_init_0 rfl (lv_at hl 0 rfl) ?_
  refine W.objInit hx hb hown (hts _ (List.mem_cons_of_mem _ kw_102)) (hts _ (List.mem_cons_of_mem _ kw_17)) (hts _ (List.mem_cons_of_mem _ kw_18)) rfl (by rw [hml]; exact hl.1) rfl kb_At_init_1 (Nat.le_of_ble_eq_true rfl) (Nat.le_of_ble_eq_true rfl) ?_
  refine W.eq (g2 := F0 m 4 ls []) rfl ?_
  refine lv_aload_n hx hb kb_At_init_4 rfl (lv_at hl 0 rfl) ?_
  refine lv_iconst (v := (3 : Int32)) hx hb kb_At_init_5 (by decide) ?_
  refine zr_newa (atype := .int) (ty := .int) (N' := 3) hx hb (hts _ (List.mem_cons_of_mem _ kw_64)) rfl hK hG hS hZ 0 0 1 (by decide) rfl (fun _ _ h1 h2 => z_RA_int h1 h2) rfl (by decide) (by decide) (by decide) (Nat.le_of_ble_eq_true rfl) (Nat.le_of_ble_eq_true rfl) kb_At_init_6 (fun q6 H hq hG hS => ?_)
  obtain ⟨σ6, e6⟩ : ∃ z, z = z_arr σ q6 0 3 1 := ⟨_, rfl⟩
  rw [← e6] at hG
  have hw := hw q6 hq _ e6
  obtain ⟨hy, hw⟩ := hw
  refine zr_putRF (ci := 0) (f := 0) hx hb hts ki_At ky_At kyo_At kn_At hown hK hG hS hy rfl 0 (by decide) (hts _ (List.mem_cons_of_mem _ kw_103)) (fun _ h => h) rfl hin rfl rfl rfl rfl rfl kb_At_init_8 (fun H locs hG hS => ?_)
  obtain ⟨σ8, e8⟩ : ∃ z, z = z_sR σ6 0 a0 (some q6) := ⟨_, rfl⟩
  rw [← e8] at hG
  have hw := hw _ e8
  refine W.widen (k := 1) (n := 3) (Nat.le_of_ble_eq_true rfl) (Nat.le_of_ble_eq_true rfl) ?_
  exact zr_vret z_nwN hx hb hr hZ hK hN hG hS hw kb_At_init_11 hlocks
def kp_At_append (a0 : Nat) (x1 : Int32) (σ : z_S) (Post : z_S → Prop) : Prop :=     (z_ty σ a0 = some (.inl 0) ∧ (((z_I σ 1 a0) < ((3 : Int32)) → z_ty σ a0 = some (.inl 0) ∧ ∃ r10, z_R σ 0 a0 = some r10 ∧ (z_ty σ a0 = some (.inl 0) ∧ (∃ n18 s18, z_ty σ r10 = some (.inr (0, n18, s18)) ∧ vp_in (z_I σ 1 a0) n18 ∧ ∀ σ18, σ18 = z_sA σ s18 r10 (upd (z_A σ s18 r10) (z_I σ 1 a0).toNatClampNeg x1) → z_ty σ18 a0 = some (.inl 0) ∧ (z_ty σ18 a0 = some (.inl 0) ∧ ∀ σ26, σ26 = z_sI σ18 1 a0 ((z_I σ18 1 a0) + ((1 : Int32))) → (0 ≤ x1 → Post σ26) ∧ (¬ 0 ≤ x1 → z_ty σ26 a0 = some (.inl 0) ∧ (z_ty σ26 a0 = some (.inl 0) ∧ ∀ σ44, σ44 = z_sI σ26 5 a0 ((z_I σ26 5 a0) ||| (((1 : Int32)) <<< ((((-1 : Int32)) - x1) &&& 31))) → Post σ44)))))) ∧ (¬ (z_I σ 1 a0) < ((3 : Int32)) → Post σ)))
set_option maxHeartbeats 4000000 in
set_option maxRecDepth 100000 in
theorem kc_At_append (l : Launch) (D : va_G) (dA : Nat → ClassId) (Z : Nat) (a0 : Nat) (x1 : Int32) (σ : z_S) (Post : z_S → Prop) : Met l km_At_append ks_At_append kr_At_append (va_Pc [.ref a0, .int x1] (fun U => z_U D z_cl z_KT dA Z (z_tys dA) z_nw σ U ∧ kp_At_append  a0 x1 σ Post)) (z_Qv D z_cl z_KT dA Z (z_tys dA) z_nw Post) 0 0 (fun q => Z ≤ q) := by
  refine Met.ofW (cc := prog_2_method_2_code) (maxL := 2) (ret := none) (by decide) rfl ?_
  intro p e s m args below meth c s₁ B hml hv
  obtain ⟨rfl, ⟨hZ, hG, hK, hN⟩, hw⟩ := hv
  have hx := B.exec
  have hb := B.bytes
  have hr := B.returns
  have hts := atoms_spec (ws := ks_At_append) B.pre
  have hown : s.vm.findClass kR_At = some m.cls := findClass_of_methodNamed B.named
  have hlocks := B.notSynchronized
  have hS : va_S (fun q => Z ≤ q) s.heap s.heap [] := va_S.rf
  have hl := lv_entry ([.ref a0, .int x1]) (n := 2) (Nat.le_of_ble_eq_true rfl)
  rw [lg_entry_eq]
  generalize (lg_sl ([.ref a0, .int x1]) ++ List.replicate (2 - (lg_sl ([.ref a0, .int x1])).length) Slot.unset).toArray = ls at hl ⊢
  have hl : lv_has ls 2 [(0, .ref a0), (1, .int x1)] := hl
  unfold kp_At_append at hw
  refine lv_aload_n hx hb kb_At_append_0 rfl (lv_at hl 0 rfl) ?_
  obtain ⟨hy, hw⟩ := hw
  refine zr_getI (ci := 0) (f := 1) hx hb hts ki_At hown hK hG hy rfl 1 (by decide) (hts _ (List.mem_cons_of_mem _ kw_105)) (fun _ h => h) rfl rfl kb_At_append_1 ?_
  refine lv_iconst (v := (3 : Int32)) hx hb kb_At_append_4 (by decide) ?_
  refine lv_icmp_lt (tgt := 9) hx hb kb_At_append_5 (by decide) (fun hc => ?_) (fun hc => ?_)
  · have hw := hw.1 hc
    refine lv_aload_n hx hb kb_At_append_9 rfl (lv_at hl 0 rfl) ?_
    obtain ⟨hy, r10, hrf, hw⟩ := hw
    refine zr_getR (ci := 0) (f := 0) hx hb hts ki_At hown hK hG hy rfl 0 (by decide) (hts _ (List.mem_cons_of_mem _ kw_103)) (fun _ h => h) rfl rfl hrf kb_At_append_10 ?_
    refine lv_aload_n hx hb kb_At_append_13 rfl (lv_at hl 0 rfl) ?_
    obtain ⟨hy, hw⟩ := hw
    refine zr_getI (ci := 0) (f := 1) hx hb hts ki_At hown hK hG hy rfl 1 (by decide) (hts _ (List.mem_cons_of_mem _ kw_105)) (fun _ h => h) rfl rfl kb_At_append_14 ?_
    refine lv_iload_n hx hb kb_At_append_17 rfl (lv_at hl 1 rfl) ?_
    obtain ⟨n18, s18, hy, hi, hw⟩ := hw
    refine zr_iast hx hb hK hG hS 0 hy rfl hi kb_At_append_18 (fun H locs hG hS => ?_)
    obtain ⟨σ18, e18⟩ : ∃ z, z = z_sA σ s18 r10 (upd (z_A σ s18 r10) (z_I σ 1 a0).toNatClampNeg x1) := ⟨_, rfl⟩
    rw [← e18] at hG
    have hw := hw _ e18
    refine lv_aload_n hx hb kb_At_append_19 rfl (lv_at hl 0 rfl) ?_
    refine lv_dup hx hb kb_At_append_20 rfl ?_
    obtain ⟨hy, hw⟩ := hw
    refine zr_getI (ci := 0) (f := 1) hx hb hts ki_At hown hK hG hy rfl 1 (by decide) (hts _ (List.mem_cons_of_mem _ kw_105)) (fun _ h => h) rfl rfl kb_At_append_21 ?_
    refine lv_iconst (v := (1 : Int32)) hx hb kb_At_append_24 (by decide) ?_
    refine lv_iadd hx hb kb_At_append_25 ?_
    obtain ⟨hy, hw⟩ := hw
    refine zr_putI (ci := 0) (f := 1) hx hb hts ki_At ky_At kyo_At kn_At hown hK hG hS hy rfl 1 (by decide) (hts _ (List.mem_cons_of_mem _ kw_105)) (fun _ h => h) rfl rfl rfl rfl rfl kb_At_append_26 (fun H locs hG hS => ?_)
    obtain ⟨σ26, e26⟩ : ∃ z, z = z_sI σ18 1 a0 ((z_I σ18 1 a0) + ((1 : Int32))) := ⟨_, rfl⟩
    rw [← e26] at hG
    have hw := hw _ e26
    refine lv_iload_n hx hb kb_At_append_29 rfl (lv_at hl 1 rfl) ?_
    refine lv_if_ge (tgt := 47) hx hb kb_At_append_30 (by decide) (fun hc => ?_) (fun hc => ?_)
    · have hw := hw.1 hc
      exact zr_vret z_nwN hx hb hr hZ hK hN hG hS hw kb_At_append_47 hlocks
    · have hw := hw.2 hc
      refine lv_aload_n hx hb kb_At_append_33 rfl (lv_at hl 0 rfl) ?_
      refine lv_dup hx hb kb_At_append_34 rfl ?_
      obtain ⟨hy, hw⟩ := hw
      refine zr_getI (ci := 0) (f := 5) hx hb hts ki_At hown hK hG hy rfl 5 (by decide) (hts _ (List.mem_cons_of_mem _ kw_117)) (fun _ h => h) rfl rfl kb_At_append_35 ?_
      refine lv_iconst (v := (1 : Int32)) hx hb kb_At_append_38 (by decide) ?_
      refine lv_iconst (v := (-1 : Int32)) hx hb kb_At_append_39 (by decide) ?_
      refine lv_iload_n hx hb kb_At_append_40 rfl (lv_at hl 1 rfl) ?_
      refine lv_isub hx hb kb_At_append_41 ?_
      refine lv_ishl hx hb kb_At_append_42 ?_
      refine lv_ior hx hb kb_At_append_43 ?_
      obtain ⟨hy, hw⟩ := hw
      refine zr_putI (ci := 0) (f := 5) hx hb hts ki_At ky_At kyo_At kn_At hown hK hG hS hy rfl 5 (by decide) (hts _ (List.mem_cons_of_mem _ kw_117)) (fun _ h => h) rfl rfl rfl rfl rfl kb_At_append_44 (fun H locs hG hS => ?_)
      obtain ⟨σ44, e44⟩ : ∃ z, z = z_sI σ26 5 a0 ((z_I σ26 5 a0) ||| (((1 : Int32)) <<< ((((-1 : Int32)) - x1) &&& 31))) := ⟨_, rfl⟩
      rw [← e44] at hG
      have hw := hw _ e44
      exact zr_vret z_nwN hx hb hr hZ hK hN hG hS hw kb_At_append_47 hlocks
  · have hw := hw.2 hc
    exact zr_vret z_nwN hx hb hr hZ hK hN hG hS hw kb_At_append_8 hlocks
def kp_Pr_init (a0 : Nat) (σ : z_S) (Post : z_S → Prop) : Prop :=     (∀ q7, z_ty σ q7 = none → ∀ σ7, σ7 = z_arr σ q7 8 16 7 → z_ty σ7 a0 = some (.inl 2) ∧ ∀ σ10, σ10 = z_sR σ7 200 a0 (some q7) → ∀ q16, z_ty σ10 q16 = none → ∀ σ16, σ16 = z_arr σ10 q16 0 8 8 → z_ty σ16 a0 = some (.inl 2) ∧ ∀ σ18, σ18 = z_sR σ16 202 a0 (some q16) → ∀ q24, z_ty σ18 q24 = none → ∀ σ24, σ24 = z_arr σ18 q24 0 8 9 → z_ty σ24 a0 = some (.inl 2) ∧ ∀ σ26, σ26 = z_sR σ24 203 a0 (some q24) → ∀ q32, z_ty σ26 q32 = none → ∀ σ32, σ32 = z_arr σ26 q32 0 8 10 → z_ty σ32 a0 = some (.inl 2) ∧ ∀ σ34, σ34 = z_sR σ32 204 a0 (some q32) → ∀ q40, z_ty σ34 q40 = none → ∀ σ40, σ40 = z_arr σ34 q40 0 8 11 → z_ty σ40 a0 = some (.inl 2) ∧ ∀ σ42, σ42 = z_sR σ40 205 a0 (some q40) → Post σ42)
set_option maxHeartbeats 4000000 in
set_option maxRecDepth 100000 in
theorem kc_Pr_init (l : Launch) (D : va_G) (dA : Nat → ClassId) (Z : Nat) (a0 : Nat) (σ : z_S) (Post : z_S → Prop) : Met l km_Pr_init ks_Pr_init kr_Pr_init (va_Pc [.ref a0] (fun U => z_U D z_cl z_KT dA Z (z_tys dA) z_nw σ U ∧ kp_Pr_init  a0 σ Post)) (z_Qv D z_cl z_KT dA Z (z_tys dA) z_nw Post) 5 48 (fun q => Z ≤ q) := by
  refine Met.ofW (cc := prog_4_method_1_code) (maxL := 1) (ret := none) (by decide) rfl ?_
  intro p e s m args below meth c s₁ B hml hv
  obtain ⟨rfl, ⟨hZ, hG, hK, hN⟩, hw⟩ := hv
  have hx := B.exec
  have hb := B.bytes
  have hr := B.returns
  have hts := atoms_spec (ws := ks_Pr_init) B.pre
  have hown : s.vm.findClass kR_Pr = some m.cls := findClass_of_methodNamed B.named
  have hlocks := B.notSynchronized
  have hin : meth.name = "<init>" := (name_of_methodNamed B.named B.method).1
  have hS : va_S (fun q => Z ≤ q) s.heap s.heap [] := va_S.rf
  have hl := lv_entry ([.ref a0]) (n := 1) (Nat.le_of_ble_eq_true rfl)
  rw [lg_entry_eq]
  generalize (lg_sl ([.ref a0]) ++ List.replicate (1 - (lg_sl ([.ref a0])).length) Slot.unset).toArray = ls at hl ⊢
  have hl : lv_has ls 1 [(0, .ref a0)] := hl
  unfold kp_Pr_init at hw
  refine lv_aload_n hx hb kb_Pr_init_0 rfl (lv_at hl 0 rfl) ?_
  refine W.objInit hx hb hown (hts _ (List.mem_cons_of_mem _ kw_23)) (hts _ (List.mem_cons_of_mem _ kw_17)) (hts _ (List.mem_cons_of_mem _ kw_18)) rfl (by rw [hml]; exact hl.1) rfl kb_Pr_init_1 (Nat.le_of_ble_eq_true rfl) (Nat.le_of_ble_eq_true rfl) ?_
  refine W.eq (g2 := F0 m 4 ls []) rfl ?_
  refine lv_aload_n hx hb kb_Pr_init_4 rfl (lv_at hl 0 rfl) ?_
  refine lv_bipush (v := (16 : Int32)) hx hb kb_Pr_init_5 (by decide) ?_
  refine zr_newq (N' := 16) hx hb hown (hts _ (List.mem_cons_of_mem _ kw_24)) (hN _ kq_14) hK hG hS hZ 8 3 7 (by decide) rfl (by decide) (by decide) (by decide) (Nat.le_of_ble_eq_true rfl) (Nat.le_of_ble_eq_true rfl) kb_Pr_init_7 (fun q7 H hq hG hS => ?_)
  obtain ⟨σ7, e7⟩ : ∃ z, z = z_arr σ q7 8 16 7 := ⟨_, rfl⟩
  rw [← e7] at hG
  have hw := hw q7 hq _ e7
  obtain ⟨hy, hw⟩ := hw
  refine zr_putRF (ci := 2) (f := 200) hx hb hts ki_Pr ky_Pr kyo_Pr kn_Pr hown hK hG hS hy rfl 0 (by decide) (hts _ (List.mem_cons_of_mem _ kw_25)) (fun _ h => h) rfl hin rfl rfl rfl rfl rfl kb_Pr_init_10 (fun H locs hG hS => ?_)
  obtain ⟨σ10, e10⟩ : ∃ z, z = z_sR σ7 200 a0 (some q7) := ⟨_, rfl⟩
  rw [← e10] at hG
  have hw := hw _ e10
  refine lv_aload_n hx hb kb_Pr_init_13 rfl (lv_at hl 0 rfl) ?_
  refine lv_bipush (v := (8 : Int32)) hx hb kb_Pr_init_14 (by decide) ?_
  refine zr_newa (atype := .int) (ty := .int) (N' := 8) hx hb (hts _ (List.mem_cons_of_mem _ kw_64)) rfl hK hG hS hZ 0 0 8 (by decide) rfl (fun _ _ h1 h2 => z_RA_int h1 h2) rfl (by decide) (by decide) (by decide) (Nat.le_of_ble_eq_true rfl) (Nat.le_of_ble_eq_true rfl) kb_Pr_init_16 (fun q16 H hq hG hS => ?_)
  obtain ⟨σ16, e16⟩ : ∃ z, z = z_arr σ10 q16 0 8 8 := ⟨_, rfl⟩
  rw [← e16] at hG
  have hw := hw q16 hq _ e16
  obtain ⟨hy, hw⟩ := hw
  refine zr_putRF (ci := 2) (f := 202) hx hb hts ki_Pr ky_Pr kyo_Pr kn_Pr hown hK hG hS hy rfl 2 (by decide) (hts _ (List.mem_cons_of_mem _ kw_32)) (fun _ h => h) rfl hin rfl rfl rfl rfl rfl kb_Pr_init_18 (fun H locs hG hS => ?_)
  obtain ⟨σ18, e18⟩ : ∃ z, z = z_sR σ16 202 a0 (some q16) := ⟨_, rfl⟩
  rw [← e18] at hG
  have hw := hw _ e18
  refine lv_aload_n hx hb kb_Pr_init_21 rfl (lv_at hl 0 rfl) ?_
  refine lv_bipush (v := (8 : Int32)) hx hb kb_Pr_init_22 (by decide) ?_
  refine zr_newa (atype := .int) (ty := .int) (N' := 8) hx hb (hts _ (List.mem_cons_of_mem _ kw_64)) rfl hK hG hS hZ 0 0 9 (by decide) rfl (fun _ _ h1 h2 => z_RA_int h1 h2) rfl (by decide) (by decide) (by decide) (Nat.le_of_ble_eq_true rfl) (Nat.le_of_ble_eq_true rfl) kb_Pr_init_24 (fun q24 H hq hG hS => ?_)
  obtain ⟨σ24, e24⟩ : ∃ z, z = z_arr σ18 q24 0 8 9 := ⟨_, rfl⟩
  rw [← e24] at hG
  have hw := hw q24 hq _ e24
  obtain ⟨hy, hw⟩ := hw
  refine zr_putRF (ci := 2) (f := 203) hx hb hts ki_Pr ky_Pr kyo_Pr kn_Pr hown hK hG hS hy rfl 3 (by decide) (hts _ (List.mem_cons_of_mem _ kw_34)) (fun _ h => h) rfl hin rfl rfl rfl rfl rfl kb_Pr_init_26 (fun H locs hG hS => ?_)
  obtain ⟨σ26, e26⟩ : ∃ z, z = z_sR σ24 203 a0 (some q24) := ⟨_, rfl⟩
  rw [← e26] at hG
  have hw := hw _ e26
  refine lv_aload_n hx hb kb_Pr_init_29 rfl (lv_at hl 0 rfl) ?_
  refine lv_bipush (v := (8 : Int32)) hx hb kb_Pr_init_30 (by decide) ?_
  refine zr_newa (atype := .int) (ty := .int) (N' := 8) hx hb (hts _ (List.mem_cons_of_mem _ kw_64)) rfl hK hG hS hZ 0 0 10 (by decide) rfl (fun _ _ h1 h2 => z_RA_int h1 h2) rfl (by decide) (by decide) (by decide) (Nat.le_of_ble_eq_true rfl) (Nat.le_of_ble_eq_true rfl) kb_Pr_init_32 (fun q32 H hq hG hS => ?_)
  obtain ⟨σ32, e32⟩ : ∃ z, z = z_arr σ26 q32 0 8 10 := ⟨_, rfl⟩
  rw [← e32] at hG
  have hw := hw q32 hq _ e32
  obtain ⟨hy, hw⟩ := hw
  refine zr_putRF (ci := 2) (f := 204) hx hb hts ki_Pr ky_Pr kyo_Pr kn_Pr hown hK hG hS hy rfl 4 (by decide) (hts _ (List.mem_cons_of_mem _ kw_37)) (fun _ h => h) rfl hin rfl rfl rfl rfl rfl kb_Pr_init_34 (fun H locs hG hS => ?_)
  obtain ⟨σ34, e34⟩ : ∃ z, z = z_sR σ32 204 a0 (some q32) := ⟨_, rfl⟩
  rw [← e34] at hG
  have hw := hw _ e34
  refine lv_aload_n hx hb kb_Pr_init_37 rfl (lv_at hl 0 rfl) ?_
  refine lv_bipush (v := (8 : Int32)) hx hb kb_Pr_init_38 (by decide) ?_
  refine zr_newa (atype := .int) (ty := .int) (N' := 8) hx hb (hts _ (List.mem_cons_of_mem _ kw_64)) rfl hK hG hS hZ 0 0 11 (by decide) rfl (fun _ _ h1 h2 => z_RA_int h1 h2) rfl (by decide) (by decide) (by decide) (Nat.le_of_ble_eq_true rfl) (Nat.le_of_ble_eq_true rfl) kb_Pr_init_40 (fun q40 H hq hG hS => ?_)
  obtain ⟨σ40, e40⟩ : ∃ z, z = z_arr σ34 q40 0 8 11 := ⟨_, rfl⟩
  rw [← e40] at hG
  have hw := hw q40 hq _ e40
  obtain ⟨hy, hw⟩ := hw
  refine zr_putRF (ci := 2) (f := 205) hx hb hts ki_Pr ky_Pr kyo_Pr kn_Pr hown hK hG hS hy rfl 5 (by decide) (hts _ (List.mem_cons_of_mem _ kw_40)) (fun _ h => h) rfl hin rfl rfl rfl rfl rfl kb_Pr_init_42 (fun H locs hG hS => ?_)
  obtain ⟨σ42, e42⟩ : ∃ z, z = z_sR σ40 205 a0 (some q40) := ⟨_, rfl⟩
  rw [← e42] at hG
  have hw := hw _ e42
  refine W.widen (k := 5) (n := 48) (Nat.le_of_ble_eq_true rfl) (Nat.le_of_ble_eq_true rfl) ?_
  exact zr_vret z_nwN hx hb hr hZ hK hN hG hS hw kb_Pr_init_45 hlocks
def kp_Ru_init (a0 : Nat) (σ : z_S) (Post : z_S → Prop) : Prop :=     (∀ q5, z_ty σ q5 = none → ∀ σ5, σ5 = z_new σ q5 0 → kp_At_init q5 σ5 (fun (σ9 : z_S) => z_ty σ9 a0 = some (.inl 5) ∧ ∀ σ12, σ12 = z_sR σ9 500 a0 (some q5) → ∀ q17, z_ty σ12 q17 = none → ∀ σ17, σ17 = z_arr σ12 q17 11 5 14 → z_ty σ17 a0 = some (.inl 5) ∧ ∀ σ20, σ20 = z_sR σ17 501 a0 (some q17) → Post σ20))
set_option maxHeartbeats 4000000 in
set_option maxRecDepth 100000 in
theorem kc_Ru_init (l : Launch) (D : va_G) (dA : Nat → ClassId) (Z : Nat) (a0 : Nat) (σ : z_S) (Post : z_S → Prop) : Met l km_Ru_init ks_Ru_init kr_Ru_init (va_Pc [.ref a0] (fun U => z_U D z_cl z_KT dA Z (z_tys dA) z_nw σ U ∧ kp_Ru_init  a0 σ Post)) (z_Qv D z_cl z_KT dA Z (z_tys dA) z_nw Post) 3 14 (fun q => Z ≤ q) := by
  refine Met.ofW (cc := prog_7_method_1_code) (maxL := 1) (ret := none) (by decide) rfl ?_
  intro p e s m args below meth c s₁ B hml hv
  obtain ⟨rfl, ⟨hZ, hG, hK, hN⟩, hw⟩ := hv
  have hx := B.exec
  have hb := B.bytes
  have hr := B.returns
  have hts := atoms_spec (ws := ks_Ru_init) B.pre
  have hown : s.vm.findClass kR_Ru = some m.cls := findClass_of_methodNamed B.named
  have hlocks := B.notSynchronized
  have hin : meth.name = "<init>" := (name_of_methodNamed B.named B.method).1
  have hS : va_S (fun q => Z ≤ q) s.heap s.heap [] := va_S.rf
  have hl := lv_entry ([.ref a0]) (n := 1) (Nat.le_of_ble_eq_true rfl)
  rw [lg_entry_eq]
  generalize (lg_sl ([.ref a0]) ++ List.replicate (1 - (lg_sl ([.ref a0])).length) Slot.unset).toArray = ls at hl ⊢
  have hl : lv_has ls 1 [(0, .ref a0)] := hl
  unfold kp_Ru_init at hw
  refine lv_aload_n hx hb kb_Ru_init_0 rfl (lv_at hl 0 rfl) ?_
  refine W.objInit hx hb hown (hts _ (List.mem_cons_of_mem _ kw_97)) (hts _ (List.mem_cons_of_mem _ kw_17)) (hts _ (List.mem_cons_of_mem _ kw_18)) rfl (by rw [hml]; exact hl.1) rfl kb_Ru_init_1 (Nat.le_of_ble_eq_true rfl) (Nat.le_of_ble_eq_true rfl) ?_
  refine W.eq (g2 := F0 m 4 ls []) rfl ?_
  refine lv_aload_n hx hb kb_Ru_init_4 rfl (lv_at hl 0 rfl) ?_
  refine zr_new (ci := 0) hx hb hts ki_At ky_At kyo_At hown (hts _ (List.mem_cons_of_mem _ kw_98)) (hts _ (List.mem_cons_of_mem _ kw_99)) (hts _ (List.mem_cons_of_mem _ kw_7)) hK hG hS hZ rfl kd_At (Nat.le_of_ble_eq_true rfl) (Nat.le_of_ble_eq_true rfl) kb_Ru_init_5 (fun q5 H hq hG hS => ?_)
  obtain ⟨σ5, e5⟩ : ∃ z, z = z_new σ q5 0 := ⟨_, rfl⟩
  rw [← e5] at hG
  have hw := hw q5 hq _ e5
  refine lv_dup hx hb kb_Ru_init_8 rfl ?_
  refine zr_cv (va_runIN (b := q5) (As := []) (rest := [.ref q5, .ref a0]) ⟨hx, hb, hml, hown, hts⟩ (kc_At_init l D dA Z q5 σ5 _) ⟨va_cnB 0 hts (z_gw kw_101) rfl rfl rfl (hN _ kq_4) (hts _ (List.mem_cons_of_mem _ kw_7)) (by decide +kernel) ⟨Nat.le_of_ble_eq_true rfl, Nat.le_of_ble_eq_true rfl⟩, rfl, (hts _ (List.mem_cons_of_mem _ kw_100))⟩ (z_preS z_nwN (Nat.le_trans hZ hS.1) hG hK hN hw) rfl rfl hl.1 rfl (lv_room (Nat.le_of_ble_eq_true rfl)) kb_Ru_init_9 ⟨Nat.le_of_ble_eq_true rfl, Nat.le_of_ble_eq_true rfl⟩) hS (fun σ9 H locs hw hG hS => ?_)
  obtain ⟨hy, hw⟩ := hw
  refine zr_putRF (ci := 5) (f := 500) hx hb hts ki_Ru ky_Ru kyo_Ru kn_Ru hown hK hG hS hy rfl 0 (by decide) (hts _ (List.mem_cons_of_mem _ kw_126)) (fun _ h => h) rfl hin rfl rfl rfl rfl rfl kb_Ru_init_12 (fun H locs hG hS => ?_)
  obtain ⟨σ12, e12⟩ : ∃ z, z = z_sR σ9 500 a0 (some q5) := ⟨_, rfl⟩
  rw [← e12] at hG
  have hw := hw _ e12
  refine lv_aload_n hx hb kb_Ru_init_15 rfl (lv_at hl 0 rfl) ?_
  refine lv_iconst (v := (5 : Int32)) hx hb kb_Ru_init_16 (by decide) ?_
  refine zr_newq (N' := 5) hx hb hown (hts _ (List.mem_cons_of_mem _ kw_98)) (hN _ kq_17) hK hG hS hZ 11 6 14 (by decide) rfl (by decide) (by decide) (by decide) (Nat.le_of_ble_eq_true rfl) (Nat.le_of_ble_eq_true rfl) kb_Ru_init_17 (fun q17 H hq hG hS => ?_)
  obtain ⟨σ17, e17⟩ : ∃ z, z = z_arr σ12 q17 11 5 14 := ⟨_, rfl⟩
  rw [← e17] at hG
  have hw := hw q17 hq _ e17
  obtain ⟨hy, hw⟩ := hw
  refine zr_putRF (ci := 5) (f := 501) hx hb hts ki_Ru ky_Ru kyo_Ru kn_Ru hown hK hG hS hy rfl 1 (by decide) (hts _ (List.mem_cons_of_mem _ kw_130)) (fun _ h => h) rfl hin rfl rfl rfl rfl rfl kb_Ru_init_20 (fun H locs hG hS => ?_)
  obtain ⟨σ20, e20⟩ : ∃ z, z = z_sR σ17 501 a0 (some q17) := ⟨_, rfl⟩
  rw [← e20] at hG
  have hw := hw _ e20
  refine W.widen (k := 3) (n := 14) (Nat.le_of_ble_eq_true rfl) (Nat.le_of_ble_eq_true rfl) ?_
  exact zr_vret z_nwN hx hb hr hZ hK hN hG hS hw kb_Ru_init_23 hlocks
def kp_En_init (a0 : Nat) (σ : z_S) (Post : z_S → Prop) : Prop :=     (∀ q7, z_ty σ q7 = none → ∀ σ7, σ7 = z_arr σ q7 0 6 2 → z_ty σ7 a0 = some (.inl 1) ∧ ∀ σ9, σ9 = z_sR σ7 100 a0 (some q7) → ∀ q15, z_ty σ9 q15 = none → ∀ σ15, σ15 = z_arr σ9 q15 0 26 3 → z_ty σ15 a0 = some (.inl 1) ∧ ∀ σ17, σ17 = z_sR σ15 101 a0 (some q15) → ∀ q24, z_ty σ17 q24 = none → ∀ σ24, σ24 = z_arr σ17 q24 0 320 4 → z_ty σ24 a0 = some (.inl 1) ∧ ∀ σ26, σ26 = z_sR σ24 102 a0 (some q24) → ∀ q33, z_ty σ26 q33 = none → ∀ σ33, σ33 = z_arr σ26 q33 0 320 5 → z_ty σ33 a0 = some (.inl 1) ∧ ∀ σ35, σ35 = z_sR σ33 103 a0 (some q33) → ∀ q39, z_ty σ35 q39 = none → ∀ σ39, σ39 = z_new σ35 q39 2 → kp_Pr_init q39 σ39 (fun (σ43 : z_S) => z_ty σ43 a0 = some (.inl 1) ∧ ∀ σ46, σ46 = z_sR σ43 109 a0 (some q39) → ∀ q50, z_ty σ46 q50 = none → ∀ σ50, σ50 = z_new σ46 q50 5 → kp_Ru_init q50 σ50 (fun (σ54 : z_S) => z_ty σ54 a0 = some (.inl 1) ∧ ∀ σ57, σ57 = z_sR σ54 110 a0 (some q50) → ∀ q62, z_ty σ57 q62 = none → ∀ σ62, σ62 = z_arr σ57 q62 9 0 6 → z_ty σ62 a0 = some (.inl 1) ∧ ∀ σ65, σ65 = z_sR σ62 111 a0 (some q62) → Post σ65)))
set_option maxHeartbeats 4000000 in
set_option maxRecDepth 100000 in
theorem kc_En_init (l : Launch) (D : va_G) (dA : Nat → ClassId) (Z : Nat) (a0 : Nat) (σ : z_S) (Post : z_S → Prop) : Met l km_En_init ks_En_init kr_En_init (va_Pc [.ref a0] (fun U => z_U D z_cl z_KT dA Z (z_tys dA) z_nw σ U ∧ kp_En_init  a0 σ Post)) (z_Qv D z_cl z_KT dA Z (z_tys dA) z_nw Post) 15 752 (fun q => Z ≤ q) := by
  refine Met.ofW (cc := prog_3_method_1_code) (maxL := 1) (ret := none) (by decide) rfl ?_
  intro p e s m args below meth c s₁ B hml hv
  obtain ⟨rfl, ⟨hZ, hG, hK, hN⟩, hw⟩ := hv
  have hx := B.exec
  have hb := B.bytes
  have hr := B.returns
  have hts := atoms_spec (ws := ks_En_init) B.pre
  have hown : s.vm.findClass kR_En = some m.cls := findClass_of_methodNamed B.named
  have hlocks := B.notSynchronized
  have hin : meth.name = "<init>" := (name_of_methodNamed B.named B.method).1
  have hS : va_S (fun q => Z ≤ q) s.heap s.heap [] := va_S.rf
  have hl := lv_entry ([.ref a0]) (n := 1) (Nat.le_of_ble_eq_true rfl)
  rw [lg_entry_eq]
  generalize (lg_sl ([.ref a0]) ++ List.replicate (1 - (lg_sl ([.ref a0])).length) Slot.unset).toArray = ls at hl ⊢
  have hl : lv_has ls 1 [(0, .ref a0)] := hl
  unfold kp_En_init at hw
  refine lv_aload_n hx hb kb_En_init_0 rfl (lv_at hl 0 rfl) ?_
  refine W.objInit hx hb hown (hts _ (List.mem_cons_of_mem _ kw_91)) (hts _ (List.mem_cons_of_mem _ kw_17)) (hts _ (List.mem_cons_of_mem _ kw_18)) rfl (by rw [hml]; exact hl.1) rfl kb_En_init_1 (Nat.le_of_ble_eq_true rfl) (Nat.le_of_ble_eq_true rfl) ?_
  refine W.eq (g2 := F0 m 4 ls []) rfl ?_
  refine lv_aload_n hx hb kb_En_init_4 rfl (lv_at hl 0 rfl) ?_
  refine lv_bipush (v := (6 : Int32)) hx hb kb_En_init_5 (by decide) ?_
  refine zr_newa (atype := .int) (ty := .int) (N' := 6) hx hb (hts _ (List.mem_cons_of_mem _ kw_64)) rfl hK hG hS hZ 0 0 2 (by decide) rfl (fun _ _ h1 h2 => z_RA_int h1 h2) rfl (by decide) (by decide) (by decide) (Nat.le_of_ble_eq_true rfl) (Nat.le_of_ble_eq_true rfl) kb_En_init_7 (fun q7 H hq hG hS => ?_)
  obtain ⟨σ7, e7⟩ : ∃ z, z = z_arr σ q7 0 6 2 := ⟨_, rfl⟩
  rw [← e7] at hG
  have hw := hw q7 hq _ e7
  obtain ⟨hy, hw⟩ := hw
  refine zr_putRF (ci := 1) (f := 100) hx hb hts ki_En ky_En kyo_En kn_En hown hK hG hS hy rfl 0 (by decide) (hts _ (List.mem_cons_of_mem _ kw_154)) (fun _ h => h) rfl hin rfl rfl rfl rfl rfl kb_En_init_9 (fun H locs hG hS => ?_)
  obtain ⟨σ9, e9⟩ : ∃ z, z = z_sR σ7 100 a0 (some q7) := ⟨_, rfl⟩
  rw [← e9] at hG
  have hw := hw _ e9
  refine lv_aload_n hx hb kb_En_init_12 rfl (lv_at hl 0 rfl) ?_
  refine lv_bipush (v := (26 : Int32)) hx hb kb_En_init_13 (by decide) ?_
  refine zr_newa (atype := .int) (ty := .int) (N' := 26) hx hb (hts _ (List.mem_cons_of_mem _ kw_64)) rfl hK hG hS hZ 0 0 3 (by decide) rfl (fun _ _ h1 h2 => z_RA_int h1 h2) rfl (by decide) (by decide) (by decide) (Nat.le_of_ble_eq_true rfl) (Nat.le_of_ble_eq_true rfl) kb_En_init_15 (fun q15 H hq hG hS => ?_)
  obtain ⟨σ15, e15⟩ : ∃ z, z = z_arr σ9 q15 0 26 3 := ⟨_, rfl⟩
  rw [← e15] at hG
  have hw := hw q15 hq _ e15
  obtain ⟨hy, hw⟩ := hw
  refine zr_putRF (ci := 1) (f := 101) hx hb hts ki_En ky_En kyo_En kn_En hown hK hG hS hy rfl 1 (by decide) (hts _ (List.mem_cons_of_mem _ kw_156)) (fun _ h => h) rfl hin rfl rfl rfl rfl rfl kb_En_init_17 (fun H locs hG hS => ?_)
  obtain ⟨σ17, e17⟩ : ∃ z, z = z_sR σ15 101 a0 (some q15) := ⟨_, rfl⟩
  rw [← e17] at hG
  have hw := hw _ e17
  refine lv_aload_n hx hb kb_En_init_20 rfl (lv_at hl 0 rfl) ?_
  refine lv_sipush (v := (320 : Int32)) hx hb kb_En_init_21 (by decide) ?_
  refine zr_newa (atype := .int) (ty := .int) (N' := 320) hx hb (hts _ (List.mem_cons_of_mem _ kw_64)) rfl hK hG hS hZ 0 0 4 (by decide) rfl (fun _ _ h1 h2 => z_RA_int h1 h2) rfl (by decide) (by decide) (by decide) (Nat.le_of_ble_eq_true rfl) (Nat.le_of_ble_eq_true rfl) kb_En_init_24 (fun q24 H hq hG hS => ?_)
  obtain ⟨σ24, e24⟩ : ∃ z, z = z_arr σ17 q24 0 320 4 := ⟨_, rfl⟩
  rw [← e24] at hG
  have hw := hw q24 hq _ e24
  obtain ⟨hy, hw⟩ := hw
  refine zr_putRF (ci := 1) (f := 102) hx hb hts ki_En ky_En kyo_En kn_En hown hK hG hS hy rfl 2 (by decide) (hts _ (List.mem_cons_of_mem _ kw_157)) (fun _ h => h) rfl hin rfl rfl rfl rfl rfl kb_En_init_26 (fun H locs hG hS => ?_)
  obtain ⟨σ26, e26⟩ : ∃ z, z = z_sR σ24 102 a0 (some q24) := ⟨_, rfl⟩
  rw [← e26] at hG
  have hw := hw _ e26
  refine lv_aload_n hx hb kb_En_init_29 rfl (lv_at hl 0 rfl) ?_
  refine lv_sipush (v := (320 : Int32)) hx hb kb_En_init_30 (by decide) ?_
  refine zr_newa (atype := .int) (ty := .int) (N' := 320) hx hb (hts _ (List.mem_cons_of_mem _ kw_64)) rfl hK hG hS hZ 0 0 5 (by decide) rfl (fun _ _ h1 h2 => z_RA_int h1 h2) rfl (by decide) (by decide) (by decide) (Nat.le_of_ble_eq_true rfl) (Nat.le_of_ble_eq_true rfl) kb_En_init_33 (fun q33 H hq hG hS => ?_)
  obtain ⟨σ33, e33⟩ : ∃ z, z = z_arr σ26 q33 0 320 5 := ⟨_, rfl⟩
  rw [← e33] at hG
  have hw := hw q33 hq _ e33
  obtain ⟨hy, hw⟩ := hw
  refine zr_putRF (ci := 1) (f := 103) hx hb hts ki_En ky_En kyo_En kn_En hown hK hG hS hy rfl 3 (by decide) (hts _ (List.mem_cons_of_mem _ kw_158)) (fun _ h => h) rfl hin rfl rfl rfl rfl rfl kb_En_init_35 (fun H locs hG hS => ?_)
  obtain ⟨σ35, e35⟩ : ∃ z, z = z_sR σ33 103 a0 (some q33) := ⟨_, rfl⟩
  rw [← e35] at hG
  have hw := hw _ e35
  refine lv_aload_n hx hb kb_En_init_38 rfl (lv_at hl 0 rfl) ?_
  refine zr_new (ci := 2) hx hb hts ki_Pr ky_Pr kyo_Pr hown (hts _ (List.mem_cons_of_mem _ kw_92)) (hts _ (List.mem_cons_of_mem _ kw_20)) (hts _ (List.mem_cons_of_mem _ kw_2)) hK hG hS hZ rfl kd_Pr (Nat.le_of_ble_eq_true rfl) (Nat.le_of_ble_eq_true rfl) kb_En_init_39 (fun q39 H hq hG hS => ?_)
  obtain ⟨σ39, e39⟩ : ∃ z, z = z_new σ35 q39 2 := ⟨_, rfl⟩
  rw [← e39] at hG
  have hw := hw q39 hq _ e39
  refine lv_dup hx hb kb_En_init_42 rfl ?_
  refine zr_cv (va_runIN (b := q39) (As := []) (rest := [.ref q39, .ref a0]) ⟨hx, hb, hml, hown, hts⟩ (kc_Pr_init l D dA Z q39 σ39 _) ⟨va_cnB 0 hts (z_gw kw_22) rfl rfl rfl (hN _ kq_2) (hts _ (List.mem_cons_of_mem _ kw_2)) (by decide +kernel) ⟨Nat.le_of_ble_eq_true rfl, Nat.le_of_ble_eq_true rfl⟩, rfl, (hts _ (List.mem_cons_of_mem _ kw_21))⟩ (z_preS z_nwN (Nat.le_trans hZ hS.1) hG hK hN hw) rfl rfl hl.1 rfl (lv_room (Nat.le_of_ble_eq_true rfl)) kb_En_init_43 ⟨Nat.le_of_ble_eq_true rfl, Nat.le_of_ble_eq_true rfl⟩) hS (fun σ43 H locs hw hG hS => ?_)
  obtain ⟨hy, hw⟩ := hw
  refine zr_putR (ci := 1) (f := 109) hx hb hts ki_En ky_En kyo_En kn_En hown hK hG hS hy rfl 9 (by decide) (hts _ (List.mem_cons_of_mem _ kw_164)) (fun _ h => h) rfl rfl rfl rfl rfl kb_En_init_46 (fun H locs hG hS => ?_)
  obtain ⟨σ46, e46⟩ : ∃ z, z = z_sR σ43 109 a0 (some q39) := ⟨_, rfl⟩
  rw [← e46] at hG
  have hw := hw _ e46
  refine lv_aload_n hx hb kb_En_init_49 rfl (lv_at hl 0 rfl) ?_
  refine zr_new (ci := 5) hx hb hts ki_Ru ky_Ru kyo_Ru hown (hts _ (List.mem_cons_of_mem _ kw_93)) (hts _ (List.mem_cons_of_mem _ kw_94)) (hts _ (List.mem_cons_of_mem _ kw_6)) hK hG hS hZ rfl kd_Ru (Nat.le_of_ble_eq_true rfl) (Nat.le_of_ble_eq_true rfl) kb_En_init_50 (fun q50 H hq hG hS => ?_)
  obtain ⟨σ50, e50⟩ : ∃ z, z = z_new σ46 q50 5 := ⟨_, rfl⟩
  rw [← e50] at hG
  have hw := hw q50 hq _ e50
  refine lv_dup hx hb kb_En_init_53 rfl ?_
  refine zr_cv (va_runIN (b := q50) (As := []) (rest := [.ref q50, .ref a0]) ⟨hx, hb, hml, hown, hts⟩ (kc_Ru_init l D dA Z q50 σ50 _) ⟨va_cnB 0 hts (z_gw kw_96) rfl rfl rfl (hN _ kq_3) (hts _ (List.mem_cons_of_mem _ kw_6)) (by decide +kernel) ⟨Nat.le_of_ble_eq_true rfl, Nat.le_of_ble_eq_true rfl⟩, rfl, (hts _ (List.mem_cons_of_mem _ kw_95))⟩ (z_preS z_nwN (Nat.le_trans hZ hS.1) hG hK hN hw) rfl rfl hl.1 rfl (lv_room (Nat.le_of_ble_eq_true rfl)) kb_En_init_54 ⟨Nat.le_of_ble_eq_true rfl, Nat.le_of_ble_eq_true rfl⟩) hS (fun σ54 H locs hw hG hS => ?_)
  obtain ⟨hy, hw⟩ := hw
  refine zr_putR (ci := 1) (f := 110) hx hb hts ki_En ky_En kyo_En kn_En hown hK hG hS hy rfl 10 (by decide) (hts _ (List.mem_cons_of_mem _ kw_165)) (fun _ h => h) rfl rfl rfl rfl rfl kb_En_init_57 (fun H locs hG hS => ?_)
  obtain ⟨σ57, e57⟩ : ∃ z, z = z_sR σ54 110 a0 (some q50) := ⟨_, rfl⟩
  rw [← e57] at hG
  have hw := hw _ e57
  refine lv_aload_n hx hb kb_En_init_60 rfl (lv_at hl 0 rfl) ?_
  refine lv_iconst (v := (0 : Int32)) hx hb kb_En_init_61 (by decide) ?_
  refine zr_newq (N' := 0) hx hb hown (hts _ (List.mem_cons_of_mem _ kw_153)) (hN _ kq_15) hK hG hS hZ 9 4 6 (by decide) rfl (by decide) (by decide) (by decide) (Nat.le_of_ble_eq_true rfl) (Nat.le_of_ble_eq_true rfl) kb_En_init_62 (fun q62 H hq hG hS => ?_)
  obtain ⟨σ62, e62⟩ : ∃ z, z = z_arr σ57 q62 9 0 6 := ⟨_, rfl⟩
  rw [← e62] at hG
  have hw := hw q62 hq _ e62
  obtain ⟨hy, hw⟩ := hw
  refine zr_putR (ci := 1) (f := 111) hx hb hts ki_En ky_En kyo_En kn_En hown hK hG hS hy rfl 11 (by decide) (hts _ (List.mem_cons_of_mem _ kw_166)) (fun _ h => h) rfl rfl rfl rfl rfl kb_En_init_65 (fun H locs hG hS => ?_)
  obtain ⟨σ65, e65⟩ : ∃ z, z = z_sR σ62 111 a0 (some q62) := ⟨_, rfl⟩
  rw [← e65] at hG
  have hw := hw _ e65
  refine W.widen (k := 15) (n := 752) (Nat.le_of_ble_eq_true rfl) (Nat.le_of_ble_eq_true rfl) ?_
  exact zr_vret z_nwN hx hb hr hZ hK hN hG hS hw kb_En_init_68 hlocks
def kp_En_begin (a0 : Nat) (b1 : Nat) (b2 : Nat) (x3 : Int32) (σ : z_S) (Post : z_S → Prop) : Prop :=     (z_ty σ a0 = some (.inl 1) ∧ ∀ σ2, σ2 = z_sR σ 109 a0 (some b1) → z_ty σ2 a0 = some (.inl 1) ∧ ∀ σ7, σ7 = z_sR σ2 111 a0 (some b2) → z_ty σ7 a0 = some (.inl 1) ∧ ∀ σ12, σ12 = z_sI σ7 106 a0 x3 → z_ty σ12 a0 = some (.inl 1) ∧ ∀ σ17, σ17 = z_sI σ12 107 a0 ((0 : Int32)) → z_ty σ17 a0 = some (.inl 1) ∧ (((0 : Int32)) = 0 ∨ ((0 : Int32)) = 1) ∧ ∀ σ22, σ22 = z_sI σ17 108 a0 ((0 : Int32)) → Post σ22)
set_option maxHeartbeats 4000000 in
set_option maxRecDepth 100000 in
theorem kc_En_begin (l : Launch) (D : va_G) (dA : Nat → ClassId) (Z : Nat) (a0 : Nat) (b1 : Nat) (b2 : Nat) (x3 : Int32) (σ : z_S) (Post : z_S → Prop) : Met l km_En_begin ks_En_begin kr_En_begin (va_Pc [.ref a0, .ref b1, .ref b2, .int x3] (fun U => z_U D z_cl z_KT dA Z (z_tys dA) z_nw σ U ∧ kp_En_begin  a0 b1 b2 x3 σ Post)) (z_Qv D z_cl z_KT dA Z (z_tys dA) z_nw Post) 0 0 (fun q => Z ≤ q) := by
  refine Met.ofW (cc := prog_3_method_5_code) (maxL := 4) (ret := none) (by decide) rfl ?_
  intro p e s m args below meth c s₁ B hml hv
  obtain ⟨rfl, ⟨hZ, hG, hK, hN⟩, hw⟩ := hv
  have hx := B.exec
  have hb := B.bytes
  have hr := B.returns
  have hts := atoms_spec (ws := ks_En_begin) B.pre
  have hown : s.vm.findClass kR_En = some m.cls := findClass_of_methodNamed B.named
  have hlocks := B.notSynchronized
  have hS : va_S (fun q => Z ≤ q) s.heap s.heap [] := va_S.rf
  have hl := lv_entry ([.ref a0, .ref b1, .ref b2, .int x3]) (n := 4) (Nat.le_of_ble_eq_true rfl)
  rw [lg_entry_eq]
  generalize (lg_sl ([.ref a0, .ref b1, .ref b2, .int x3]) ++ List.replicate (4 - (lg_sl ([.ref a0, .ref b1, .ref b2, .int x3])).length) Slot.unset).toArray = ls at hl ⊢
  have hl : lv_has ls 4 [(0, .ref a0), (1, .ref b1), (2, .ref b2), (3, .int x3)] := hl
  unfold kp_En_begin at hw
  refine lv_aload_n hx hb kb_En_begin_0 rfl (lv_at hl 0 rfl) ?_
  refine lv_aload_n hx hb kb_En_begin_1 rfl (lv_at hl 1 rfl) ?_
  obtain ⟨hy, hw⟩ := hw
  refine zr_putR (ci := 1) (f := 109) hx hb hts ki_En ky_En kyo_En kn_En hown hK hG hS hy rfl 9 (by decide) (hts _ (List.mem_cons_of_mem _ kw_164)) (fun _ h => h) rfl rfl rfl rfl rfl kb_En_begin_2 (fun H locs hG hS => ?_)
  obtain ⟨σ2, e2⟩ : ∃ z, z = z_sR σ 109 a0 (some b1) := ⟨_, rfl⟩
  rw [← e2] at hG
  have hw := hw _ e2
  refine lv_aload_n hx hb kb_En_begin_5 rfl (lv_at hl 0 rfl) ?_
  refine lv_aload_n hx hb kb_En_begin_6 rfl (lv_at hl 2 rfl) ?_
  obtain ⟨hy, hw⟩ := hw
  refine zr_putR (ci := 1) (f := 111) hx hb hts ki_En ky_En kyo_En kn_En hown hK hG hS hy rfl 11 (by decide) (hts _ (List.mem_cons_of_mem _ kw_166)) (fun _ h => h) rfl rfl rfl rfl rfl kb_En_begin_7 (fun H locs hG hS => ?_)
  obtain ⟨σ7, e7⟩ : ∃ z, z = z_sR σ2 111 a0 (some b2) := ⟨_, rfl⟩
  rw [← e7] at hG
  have hw := hw _ e7
  refine lv_aload_n hx hb kb_En_begin_10 rfl (lv_at hl 0 rfl) ?_
  refine lv_iload_n hx hb kb_En_begin_11 rfl (lv_at hl 3 rfl) ?_
  obtain ⟨hy, hw⟩ := hw
  refine zr_putI (ci := 1) (f := 106) hx hb hts ki_En ky_En kyo_En kn_En hown hK hG hS hy rfl 6 (by decide) (hts _ (List.mem_cons_of_mem _ kw_161)) (fun _ h => h) rfl rfl rfl rfl rfl kb_En_begin_12 (fun H locs hG hS => ?_)
  obtain ⟨σ12, e12⟩ : ∃ z, z = z_sI σ7 106 a0 x3 := ⟨_, rfl⟩
  rw [← e12] at hG
  have hw := hw _ e12
  refine lv_aload_n hx hb kb_En_begin_15 rfl (lv_at hl 0 rfl) ?_
  refine lv_iconst (v := (0 : Int32)) hx hb kb_En_begin_16 (by decide) ?_
  obtain ⟨hy, hw⟩ := hw
  refine zr_putI (ci := 1) (f := 107) hx hb hts ki_En ky_En kyo_En kn_En hown hK hG hS hy rfl 7 (by decide) (hts _ (List.mem_cons_of_mem _ kw_162)) (fun _ h => h) rfl rfl rfl rfl rfl kb_En_begin_17 (fun H locs hG hS => ?_)
  obtain ⟨σ17, e17⟩ : ∃ z, z = z_sI σ12 107 a0 ((0 : Int32)) := ⟨_, rfl⟩
  rw [← e17] at hG
  have hw := hw _ e17
  refine lv_aload_n hx hb kb_En_begin_20 rfl (lv_at hl 0 rfl) ?_
  refine lv_iconst (v := (0 : Int32)) hx hb kb_En_begin_21 (by decide) ?_
  obtain ⟨hy, hz, hw⟩ := hw
  refine zr_putI (ci := 1) (f := 108) hx hb hts ki_En ky_En kyo_En kn_En hown hK hG hS hy rfl 8 (by decide) (hts _ (List.mem_cons_of_mem _ kw_163)) (fun _ h => h) rfl (z_bool hz) (z_boolF hz) rfl rfl kb_En_begin_22 (fun H locs hG hS => ?_)
  obtain ⟨σ22, e22⟩ : ∃ z, z = z_sI σ17 108 a0 ((0 : Int32)) := ⟨_, rfl⟩
  rw [← e22] at hG
  have hw := hw _ e22
  exact zr_vret z_nwN hx hb hr hZ hK hN hG hS hw kb_En_begin_25 hlocks
def kp_Pr_isRelation (a0 : Nat) (x1 : Int32) (σ : z_S) (Post : Int32 → z_S → Prop) : Prop :=     ((x1 < 0 → Post ((0 : Int32)) σ) ∧ (¬ x1 < 0 → z_ty σ a0 = some (.inl 2) ∧ (((z_I σ 206 a0) ≤ x1 → Post ((0 : Int32)) σ) ∧ (¬ (z_I σ 206 a0) ≤ x1 → Post ((1 : Int32)) σ))))
set_option maxHeartbeats 4000000 in
set_option maxRecDepth 100000 in
theorem kc_Pr_isRelation (l : Launch) (D : va_G) (dA : Nat → ClassId) (Z : Nat) (a0 : Nat) (x1 : Int32) (σ : z_S) (Post : Int32 → z_S → Prop) : Met l km_Pr_isRelation ks_Pr_isRelation kr_Pr_isRelation (va_Pc [.ref a0, .int x1] (fun U => z_U D z_cl z_KT dA Z (z_tys dA) z_nw σ U ∧ kp_Pr_isRelation  a0 x1 σ Post)) (z_Qi D z_cl z_KT dA Z (z_tys dA) z_nw Post) 0 0 (fun q => Z ≤ q) := by
  refine Met.ofW (cc := prog_4_method_2_code) (maxL := 2) (ret := (some .boolean)) (by decide) rfl ?_
  intro p e s m args below meth c s₁ B hml hv
  obtain ⟨rfl, ⟨hZ, hG, hK, hN⟩, hw⟩ := hv
  have hx := B.exec
  have hb := B.bytes
  have hr := B.returns
  have hts := atoms_spec (ws := ks_Pr_isRelation) B.pre
  have hown : s.vm.findClass kR_Pr = some m.cls := findClass_of_methodNamed B.named
  have hlocks := B.notSynchronized
  have hS : va_S (fun q => Z ≤ q) s.heap s.heap [] := va_S.rf
  have hl := lv_entry ([.ref a0, .int x1]) (n := 2) (Nat.le_of_ble_eq_true rfl)
  rw [lg_entry_eq]
  generalize (lg_sl ([.ref a0, .int x1]) ++ List.replicate (2 - (lg_sl ([.ref a0, .int x1])).length) Slot.unset).toArray = ls at hl ⊢
  have hl : lv_has ls 2 [(0, .ref a0), (1, .int x1)] := hl
  unfold kp_Pr_isRelation at hw
  refine lv_iload_n hx hb kb_Pr_isRelation_0 rfl (lv_at hl 1 rfl) ?_
  refine lv_if_lt (tgt := 16) hx hb kb_Pr_isRelation_1 (by decide) (fun hc => ?_) (fun hc => ?_)
  · have hw := hw.1 hc
    refine lv_iconst (v := (0 : Int32)) hx hb kb_Pr_isRelation_16 (by decide) ?_
    exact zr_iret (free := fun q => Z ≤ q) z_nwN hx hb hr rfl hZ hK hN hG hS hw kb_Pr_isRelation_17 hlocks
  · have hw := hw.2 hc
    refine lv_iload_n hx hb kb_Pr_isRelation_4 rfl (lv_at hl 1 rfl) ?_
    refine lv_aload_n hx hb kb_Pr_isRelation_5 rfl (lv_at hl 0 rfl) ?_
    obtain ⟨hy, hw⟩ := hw
    refine zr_getI (ci := 2) (f := 206) hx hb hts ki_Pr hown hK hG hy rfl 6 (by decide) (hts _ (List.mem_cons_of_mem _ kw_42)) (fun _ h => h) rfl rfl kb_Pr_isRelation_6 ?_
    refine lv_icmp_ge (tgt := 16) hx hb kb_Pr_isRelation_9 (by decide) (fun hc => ?_) (fun hc => ?_)
    · have hw := hw.1 hc
      refine lv_iconst (v := (0 : Int32)) hx hb kb_Pr_isRelation_16 (by decide) ?_
      exact zr_iret (free := fun q => Z ≤ q) z_nwN hx hb hr rfl hZ hK hN hG hS hw kb_Pr_isRelation_17 hlocks
    · have hw := hw.2 hc
      refine lv_iconst (v := (1 : Int32)) hx hb kb_Pr_isRelation_12 (by decide) ?_
      refine lv_goto (tgt := 17) hx hb kb_Pr_isRelation_13 (by decide) ?_
      exact zr_iret (free := fun q => Z ≤ q) z_nwN hx hb hr rfl hZ hK hN hG hS hw kb_Pr_isRelation_17 hlocks
def kp_Vr_isIn (x1 : Int32) (x2 : Int32) (σ : z_S) (Post : Int32 → z_S → Prop) : Prop :=     ((((x1 &&& (((1 : Int32)) <<< (x2 &&& 31)))) = 0 → Post ((0 : Int32)) σ) ∧ (¬ ((x1 &&& (((1 : Int32)) <<< (x2 &&& 31)))) = 0 → Post ((1 : Int32)) σ))
set_option maxHeartbeats 4000000 in
set_option maxRecDepth 100000 in
theorem kc_Vr_isIn (l : Launch) (D : va_G) (dA : Nat → ClassId) (Z : Nat) (x1 : Int32) (x2 : Int32) (σ : z_S) (Post : Int32 → z_S → Prop) : Met l km_Vr_isIn ks_Vr_isIn kr_Vr_isIn (va_Pc [.int x1, .int x2] (fun U => z_U D z_cl z_KT dA Z (z_tys dA) z_nw σ U ∧ kp_Vr_isIn  x1 x2 σ Post)) (z_Qi D z_cl z_KT dA Z (z_tys dA) z_nw Post) 0 0 (fun q => Z ≤ q) := by
  refine Met.ofW (cc := prog_1_method_28_code) (maxL := 2) (ret := (some .boolean)) (by decide) rfl ?_
  intro p e s m args below meth c s₁ B hml hv
  obtain ⟨rfl, ⟨hZ, hG, hK, hN⟩, hw⟩ := hv
  have hx := B.exec
  have hb := B.bytes
  have hr := B.returns
  have hts := atoms_spec (ws := ks_Vr_isIn) B.pre
  have hown : s.vm.findClass kR_Vr = some m.cls := findClass_of_methodNamed B.named
  have hlocks := B.notSynchronized
  have hS : va_S (fun q => Z ≤ q) s.heap s.heap [] := va_S.rf
  have hl := lv_entry ([.int x1, .int x2]) (n := 2) (Nat.le_of_ble_eq_true rfl)
  rw [lg_entry_eq]
  generalize (lg_sl ([.int x1, .int x2]) ++ List.replicate (2 - (lg_sl ([.int x1, .int x2])).length) Slot.unset).toArray = ls at hl ⊢
  have hl : lv_has ls 2 [(0, .int x1), (1, .int x2)] := hl
  unfold kp_Vr_isIn at hw
  refine lv_iload_n hx hb kb_Vr_isIn_0 rfl (lv_at hl 0 rfl) ?_
  refine lv_iconst (v := (1 : Int32)) hx hb kb_Vr_isIn_1 (by decide) ?_
  refine lv_iload_n hx hb kb_Vr_isIn_2 rfl (lv_at hl 1 rfl) ?_
  refine lv_ishl hx hb kb_Vr_isIn_3 ?_
  refine lv_iand hx hb kb_Vr_isIn_4 ?_
  refine lv_if_eq (tgt := 12) hx hb kb_Vr_isIn_5 (by decide) (fun hc => ?_) (fun hc => ?_)
  · have hw := hw.1 hc
    refine lv_iconst (v := (0 : Int32)) hx hb kb_Vr_isIn_12 (by decide) ?_
    exact zr_iret (free := fun q => Z ≤ q) z_nwN hx hb hr rfl hZ hK hN hG hS hw kb_Vr_isIn_13 hlocks
  · have hw := hw.2 hc
    refine lv_iconst (v := (1 : Int32)) hx hb kb_Vr_isIn_8 (by decide) ?_
    refine lv_goto (tgt := 13) hx hb kb_Vr_isIn_9 (by decide) ?_
    exact zr_iret (free := fun q => Z ≤ q) z_nwN hx hb hr rfl hZ hK hN hG hS hw kb_Vr_isIn_13 hlocks
def kp_Pr_isView (a0 : Nat) (x1 : Int32) (σ : z_S) (Post : Int32 → z_S → Prop) : Prop :=     (z_ty σ a0 = some (.inl 2) ∧ kp_Pr_isRelation a0 x1 σ (fun (r2 : Int32) (σ2 : z_S) => (r2 = 0 → Post ((0 : Int32)) σ2) ∧ (¬ r2 = 0 → z_ty σ2 a0 = some (.inl 2) ∧ (kp_Vr_isIn (z_I σ2 209 a0) x1 σ2 (fun (r13 : Int32) (σ13 : z_S) => (r13 = 0 → Post ((0 : Int32)) σ13) ∧ (¬ r13 = 0 → Post ((1 : Int32)) σ13))))))
set_option maxHeartbeats 4000000 in
set_option maxRecDepth 100000 in
theorem kc_Pr_isView (l : Launch) (D : va_G) (dA : Nat → ClassId) (Z : Nat) (a0 : Nat) (x1 : Int32) (σ : z_S) (Post : Int32 → z_S → Prop) : Met l km_Pr_isView ks_Pr_isView kr_Pr_isView (va_Pc [.ref a0, .int x1] (fun U => z_U D z_cl z_KT dA Z (z_tys dA) z_nw σ U ∧ kp_Pr_isView  a0 x1 σ Post)) (z_Qi D z_cl z_KT dA Z (z_tys dA) z_nw Post) 0 0 (fun q => Z ≤ q) := by
  refine Met.ofW (cc := prog_4_method_3_code) (maxL := 2) (ret := (some .boolean)) (by decide) rfl ?_
  intro p e s m args below meth c s₁ B hml hv
  obtain ⟨rfl, ⟨hZ, hG, hK, hN⟩, hw⟩ := hv
  have hx := B.exec
  have hb := B.bytes
  have hr := B.returns
  have hts := atoms_spec (ws := ks_Pr_isView) B.pre
  have hown : s.vm.findClass kR_Pr = some m.cls := findClass_of_methodNamed B.named
  have hlocks := B.notSynchronized
  have hS : va_S (fun q => Z ≤ q) s.heap s.heap [] := va_S.rf
  have hl := lv_entry ([.ref a0, .int x1]) (n := 2) (Nat.le_of_ble_eq_true rfl)
  rw [lg_entry_eq]
  generalize (lg_sl ([.ref a0, .int x1]) ++ List.replicate (2 - (lg_sl ([.ref a0, .int x1])).length) Slot.unset).toArray = ls at hl ⊢
  have hl : lv_has ls 2 [(0, .ref a0), (1, .int x1)] := hl
  unfold kp_Pr_isView at hw
  refine lv_aload_n hx hb kb_Pr_isView_0 rfl (lv_at hl 0 rfl) ?_
  refine lv_iload_n hx hb kb_Pr_isView_1 rfl (lv_at hl 1 rfl) ?_
  obtain ⟨hy, hw⟩ := hw
  refine zr_ci (va_runV (C := kR_Pr) (As := [.int x1]) (rest := []) ⟨hx, hb, hml, hown, hts⟩ (kc_Pr_isRelation l D dA Z a0 x1 σ _) ⟨callB_of 1 hts (z_gw kw_328) rfl rfl rfl (hts _ (List.mem_cons_of_mem _ kw_2)) (hts _ (List.mem_cons_of_mem _ kw_325)) (by decide +kernel) ⟨Nat.le_of_ble_eq_true rfl, Nat.le_of_ble_eq_true rfl⟩, (hts _ (List.mem_cons_of_mem _ kw_326)), (hts _ (List.mem_cons_of_mem _ kw_327))⟩ (z_preV z_nwN (Nat.le_trans hZ hS.1) hG hK hN hy (ci := 2) (r := (kR_Pr, kT_Pr, 11)) rfl hw) rfl rfl hl.1 rfl (lv_room (Nat.le_of_ble_eq_true rfl)) kb_Pr_isView_2 ⟨Nat.le_of_ble_eq_true rfl, Nat.le_of_ble_eq_true rfl⟩) hS (fun r2 σ2 H locs hw hG hS => ?_)
  refine lv_if_eq (tgt := 23) hx hb kb_Pr_isView_5 (by decide) (fun hc => ?_) (fun hc => ?_)
  · have hw := hw.1 hc
    refine lv_iconst (v := (0 : Int32)) hx hb kb_Pr_isView_23 (by decide) ?_
    exact zr_iret (free := fun q => Z ≤ q) z_nwN hx hb hr rfl hZ hK hN hG hS hw kb_Pr_isView_24 hlocks
  · have hw := hw.2 hc
    refine lv_aload_n hx hb kb_Pr_isView_8 rfl (lv_at hl 0 rfl) ?_
    obtain ⟨hy, hw⟩ := hw
    refine zr_getI (ci := 2) (f := 209) hx hb hts ki_Pr hown hK hG hy rfl 9 (by decide) (hts _ (List.mem_cons_of_mem _ kw_50)) (fun _ h => h) rfl rfl kb_Pr_isView_9 ?_
    refine lv_iload_n hx hb kb_Pr_isView_12 rfl (lv_at hl 1 rfl) ?_
    refine zr_ci (va_runSN (As := [.int (z_I σ2 209 a0), .int x1]) (rest := []) ⟨hx, hb, hml, hown, hts⟩ (kc_Vr_isIn l D dA Z (z_I σ2 209 a0) x1 σ2 _) ⟨va_cnB 2 hts (z_gw kw_309) rfl rfl rfl (hN _ kq_9) (hts _ (List.mem_cons_of_mem _ kw_1)) (by decide +kernel) ⟨Nat.le_of_ble_eq_true rfl, Nat.le_of_ble_eq_true rfl⟩, (hts _ (List.mem_cons_of_mem _ kw_308)), trivial⟩ (z_preS z_nwN (Nat.le_trans hZ hS.1) hG hK hN hw) rfl rfl hl.1 rfl (lv_room (Nat.le_of_ble_eq_true rfl)) kb_Pr_isView_13 ⟨Nat.le_of_ble_eq_true rfl, Nat.le_of_ble_eq_true rfl⟩) hS (fun r13 σ13 H locs hw hG hS => ?_)
    refine lv_if_eq (tgt := 23) hx hb kb_Pr_isView_16 (by decide) (fun hc => ?_) (fun hc => ?_)
    · have hw := hw.1 hc
      refine lv_iconst (v := (0 : Int32)) hx hb kb_Pr_isView_23 (by decide) ?_
      exact zr_iret (free := fun q => Z ≤ q) z_nwN hx hb hr rfl hZ hK hN hG hS hw kb_Pr_isView_24 hlocks
    · have hw := hw.2 hc
      refine lv_iconst (v := (1 : Int32)) hx hb kb_Pr_isView_19 (by decide) ?_
      refine lv_goto (tgt := 24) hx hb kb_Pr_isView_20 (by decide) ?_
      exact zr_iret (free := fun q => Z ≤ q) z_nwN hx hb hr rfl hZ hK hN hG hS hw kb_Pr_isView_24 hlocks
def kp_En_usesLayer (a0 : Nat) (x1 : Int32) (σ : z_S) (Post : Int32 → z_S → Prop) : Prop := ∀ (X2 : Int32 → z_S → Prop),
    (∀ (v2 : Int32) (σ : z_S), (z_ty σ a0 = some (.inl 1) ∧ ∃ r4, z_R σ 110 a0 = some r4 ∧ (z_ty σ r4 = some (.inl 5) ∧ (((z_I σ 502 r4) ≤ v2 → Post ((0 : Int32)) σ) ∧ (¬ (z_I σ 502 r4) ≤ v2 → z_ty σ a0 = some (.inl 1) ∧ ∃ r14, z_R σ 110 a0 = some r14 ∧ (z_ty σ r14 = some (.inl 5) ∧ ∃ r17, z_R σ 501 r14 = some r17 ∧ (∃ n21 s21, z_ty σ r17 = some (.inr (11, n21, s21)) ∧ vp_in v2 n21 ∧ ∃ r21, z_Q σ s21 r17 v2.toNatClampNeg = some r21 ∧ (z_ty σ r21 = some (.inl 0) ∧ ((¬ ((z_I σ 2 r21)) = 0 → X2 (v2 + (1 : Int32)) σ) ∧ (((z_I σ 2 r21)) = 0 → z_ty σ a0 = some (.inl 1) ∧ ∃ r29, z_R σ 109 a0 = some r29 ∧ (z_ty σ r29 = some (.inl 2) ∧ ∃ r32, z_R σ 204 r29 = some r32 ∧ (z_ty σ a0 = some (.inl 1) ∧ ∃ r36, z_R σ 110 a0 = some r36 ∧ (z_ty σ r36 = some (.inl 5) ∧ ∃ r39, z_R σ 501 r36 = some r39 ∧ (∃ n43 s43, z_ty σ r39 = some (.inr (11, n43, s43)) ∧ vp_in v2 n43 ∧ ∃ r43, z_Q σ s43 r39 v2.toNatClampNeg = some r43 ∧ (z_ty σ r43 = some (.inl 0) ∧ (∃ n47 s47, z_ty σ r32 = some (.inr (0, n47, s47)) ∧ vp_in (z_I σ 3 r43) n47 ∧ ((¬ (z_A σ s47 r32 (z_I σ 3 r43).toNatClampNeg) = x1 → X2 (v2 + (1 : Int32)) σ) ∧ ((z_A σ s47 r32 (z_I σ 3 r43).toNatClampNeg) = x1 → Post ((1 : Int32)) σ))))))))))))))))) → X2 v2 σ) →
    (X2 ((0 : Int32)) σ)
set_option maxHeartbeats 4000000 in
set_option maxRecDepth 100000 in
theorem kc_En_usesLayer (l : Launch) (D : va_G) (dA : Nat → ClassId) (Z : Nat) (a0 : Nat) (x1 : Int32) (σ : z_S) (Post : Int32 → z_S → Prop) : Met l km_En_usesLayer ks_En_usesLayer kr_En_usesLayer (va_Pc [.ref a0, .int x1] (fun U => z_U D z_cl z_KT dA Z (z_tys dA) z_nw σ U ∧ kp_En_usesLayer  a0 x1 σ Post)) (z_Qi D z_cl z_KT dA Z (z_tys dA) z_nw Post) 0 0 (fun q => Z ≤ q) := by
  refine Met.ofW (cc := prog_3_method_8_code) (maxL := 3) (ret := (some .boolean)) (by decide) rfl ?_
  intro p e s m args below meth c s₁ B hml hv
  obtain ⟨rfl, ⟨hZ, hG, hK, hN⟩, hw⟩ := hv
  have hx := B.exec
  have hb := B.bytes
  have hr := B.returns
  have hts := atoms_spec (ws := ks_En_usesLayer) B.pre
  have hown : s.vm.findClass kR_En = some m.cls := findClass_of_methodNamed B.named
  have hlocks := B.notSynchronized
  have hS : va_S (fun q => Z ≤ q) s.heap s.heap [] := va_S.rf
  have hl := lv_entry ([.ref a0, .int x1]) (n := 3) (Nat.le_of_ble_eq_true rfl)
  rw [lg_entry_eq]
  generalize (lg_sl ([.ref a0, .int x1]) ++ List.replicate (3 - (lg_sl ([.ref a0, .int x1])).length) Slot.unset).toArray = ls at hl ⊢
  have hl : lv_has ls 3 [(0, .ref a0), (1, .int x1)] := hl
  unfold kp_En_usesLayer at hw
  have hw := hw (fun (v2 : Int32) (σ : z_S) => ∀ (H : Heap) (locs : List Loc) (ls : Array Slot), z_G D z_cl z_KT dA Z σ H → va_S (fun q => Z ≤ q) s.heap H locs → lv_has ls 3 [(0, .ref a0), (1, .int x1), (2, .int v2)] → W p l e (headSpec ks_En_usesLayer kr_En_usesLayer).room s m ([.ref a0, .int x1] : List Value).toArray below meth c H locs 0 0 (MQ below (z_Qi D z_cl z_KT dA Z (z_tys dA) z_nw Post) ([.ref a0, .int x1] : List Value).toArray s 0 0 (fun q => Z ≤ q)) (F0 m 2 ls []))
  have hw := hw (by
    intro v2 σ hw H locs ls hG hS hl
    refine lv_iload_n hx hb kb_En_usesLayer_2 rfl (lv_at hl 2 rfl) ?_
    refine lv_aload_n hx hb kb_En_usesLayer_3 rfl (lv_at hl 0 rfl) ?_
    obtain ⟨hy, r4, hrf, hw⟩ := hw
    refine zr_getR (ci := 1) (f := 110) hx hb hts ki_En hown hK hG hy rfl 10 (by decide) (hts _ (List.mem_cons_of_mem _ kw_165)) (fun _ h => h) rfl rfl hrf kb_En_usesLayer_4 ?_
    obtain ⟨hy, hw⟩ := hw
    refine zr_getI (ci := 5) (f := 502) hx hb hts ki_Ru hown hK hG hy rfl 2 (by decide) (hts _ (List.mem_cons_of_mem _ kw_136)) (fun _ h => h) rfl rfl kb_En_usesLayer_7 ?_
    refine lv_icmp_ge (tgt := 60) hx hb kb_En_usesLayer_10 (by decide) (fun hc => ?_) (fun hc => ?_)
    · have hw := hw.1 hc
      refine lv_iconst (v := (0 : Int32)) hx hb kb_En_usesLayer_60 (by decide) ?_
      exact zr_iret (free := fun q => Z ≤ q) z_nwN hx hb hr rfl hZ hK hN hG hS hw kb_En_usesLayer_61 hlocks
    · have hw := hw.2 hc
      refine lv_aload_n hx hb kb_En_usesLayer_13 rfl (lv_at hl 0 rfl) ?_
      obtain ⟨hy, r14, hrf, hw⟩ := hw
      refine zr_getR (ci := 1) (f := 110) hx hb hts ki_En hown hK hG hy rfl 10 (by decide) (hts _ (List.mem_cons_of_mem _ kw_165)) (fun _ h => h) rfl rfl hrf kb_En_usesLayer_14 ?_
      obtain ⟨hy, r17, hrf, hw⟩ := hw
      refine zr_getR (ci := 5) (f := 501) hx hb hts ki_Ru hown hK hG hy rfl 1 (by decide) (hts _ (List.mem_cons_of_mem _ kw_131)) (fun _ h => h) rfl rfl hrf kb_En_usesLayer_17 ?_
      refine lv_iload_n hx hb kb_En_usesLayer_20 rfl (lv_at hl 2 rfl) ?_
      obtain ⟨n21, s21, hy, hi, r21, hrf, hw⟩ := hw
      refine zr_aald hx hb hK hG 6 (by decide) hy rfl hi hrf kb_En_usesLayer_21 ?_
      obtain ⟨hy, hw⟩ := hw
      refine zr_getI (ci := 0) (f := 2) hx hb hts ki_At hown hK hG hy rfl 2 (by decide) (hts _ (List.mem_cons_of_mem _ kw_110)) (fun _ h => h) rfl rfl kb_En_usesLayer_22 ?_
      refine lv_if_ne (tgt := 54) hx hb kb_En_usesLayer_25 (by decide) (fun hc => ?_) (fun hc => ?_)
      · have hw := hw.1 hc
        refine lv_iinc (v := v2 + (1 : Int32)) (lv' := [(2, .int (v2 + (1 : Int32))), (0, .ref a0), (1, .int x1)]) hx hb kb_En_usesLayer_54 hl (k := 2) rfl rfl (by decide) rfl (fun ls hl => ?_)
        refine lv_goto (tgt := 2) hx hb kb_En_usesLayer_57 (by decide) ?_
        exact hw _ _ _ hG hS (lv_sub hl [1, 2, 0] rfl)
      · have hw := hw.2 hc
        refine lv_aload_n hx hb kb_En_usesLayer_28 rfl (lv_at hl 0 rfl) ?_
        obtain ⟨hy, r29, hrf, hw⟩ := hw
        refine zr_getR (ci := 1) (f := 109) hx hb hts ki_En hown hK hG hy rfl 9 (by decide) (hts _ (List.mem_cons_of_mem _ kw_164)) (fun _ h => h) rfl rfl hrf kb_En_usesLayer_29 ?_
        obtain ⟨hy, r32, hrf, hw⟩ := hw
        refine zr_getR (ci := 2) (f := 204) hx hb hts ki_Pr hown hK hG hy rfl 4 (by decide) (hts _ (List.mem_cons_of_mem _ kw_38)) (fun _ h => h) rfl rfl hrf kb_En_usesLayer_32 ?_
        refine lv_aload_n hx hb kb_En_usesLayer_35 rfl (lv_at hl 0 rfl) ?_
        obtain ⟨hy, r36, hrf, hw⟩ := hw
        refine zr_getR (ci := 1) (f := 110) hx hb hts ki_En hown hK hG hy rfl 10 (by decide) (hts _ (List.mem_cons_of_mem _ kw_165)) (fun _ h => h) rfl rfl hrf kb_En_usesLayer_36 ?_
        obtain ⟨hy, r39, hrf, hw⟩ := hw
        refine zr_getR (ci := 5) (f := 501) hx hb hts ki_Ru hown hK hG hy rfl 1 (by decide) (hts _ (List.mem_cons_of_mem _ kw_131)) (fun _ h => h) rfl rfl hrf kb_En_usesLayer_39 ?_
        refine lv_iload_n hx hb kb_En_usesLayer_42 rfl (lv_at hl 2 rfl) ?_
        obtain ⟨n43, s43, hy, hi, r43, hrf, hw⟩ := hw
        refine zr_aald hx hb hK hG 6 (by decide) hy rfl hi hrf kb_En_usesLayer_43 ?_
        obtain ⟨hy, hw⟩ := hw
        refine zr_getI (ci := 0) (f := 3) hx hb hts ki_At hown hK hG hy rfl 3 (by decide) (hts _ (List.mem_cons_of_mem _ kw_112)) (fun _ h => h) rfl rfl kb_En_usesLayer_44 ?_
        obtain ⟨n47, s47, hy, hi, hw⟩ := hw
        refine zr_iald hx hb hK hG 0 hy rfl hi kb_En_usesLayer_47 ?_
        refine lv_iload_n hx hb kb_En_usesLayer_48 rfl (lv_at hl 1 rfl) ?_
        refine lv_icmp_ne (tgt := 54) hx hb kb_En_usesLayer_49 (by decide) (fun hc => ?_) (fun hc => ?_)
        · have hw := hw.1 hc
          refine lv_iinc (v := v2 + (1 : Int32)) (lv' := [(2, .int (v2 + (1 : Int32))), (0, .ref a0), (1, .int x1)]) hx hb kb_En_usesLayer_54 hl (k := 2) rfl rfl (by decide) rfl (fun ls hl => ?_)
          refine lv_goto (tgt := 2) hx hb kb_En_usesLayer_57 (by decide) ?_
          exact hw _ _ _ hG hS (lv_sub hl [1, 2, 0] rfl)
        · have hw := hw.2 hc
          refine lv_iconst (v := (1 : Int32)) hx hb kb_En_usesLayer_52 (by decide) ?_
          exact zr_iret (free := fun q => Z ≤ q) z_nwN hx hb hr rfl hZ hK hN hG hS hw kb_En_usesLayer_53 hlocks)
  refine lv_iconst (v := (0 : Int32)) hx hb kb_En_usesLayer_0 (by decide) ?_
  refine lv_istore_n (lv' := [(2, .int ((0 : Int32))), (0, .ref a0), (1, .int x1)]) hx hb kb_En_usesLayer_1 rfl hl (by decide) rfl (fun ls hl => ?_)
  exact hw _ _ _ hG hS (lv_sub hl [1, 2, 0] rfl)
def kp_En_valueOf (a0 : Nat) (x1 : Int32) (σ : z_S) (Post : Int32 → z_S → Prop) : Prop :=     ((x1 < 0 → z_ty σ a0 = some (.inl 1) ∧ ∃ r9, z_R σ 101 a0 = some r9 ∧ (∃ n15 s15, z_ty σ r9 = some (.inr (0, n15, s15)) ∧ vp_in (((-1 : Int32)) - x1) n15 ∧ (Post (z_A σ s15 r9 (((-1 : Int32)) - x1).toNatClampNeg) σ))) ∧ (¬ x1 < 0 → Post x1 σ))
set_option maxHeartbeats 4000000 in
set_option maxRecDepth 100000 in
theorem kc_En_valueOf (l : Launch) (D : va_G) (dA : Nat → ClassId) (Z : Nat) (a0 : Nat) (x1 : Int32) (σ : z_S) (Post : Int32 → z_S → Prop) : Met l km_En_valueOf ks_En_valueOf kr_En_valueOf (va_Pc [.ref a0, .int x1] (fun U => z_U D z_cl z_KT dA Z (z_tys dA) z_nw σ U ∧ kp_En_valueOf  a0 x1 σ Post)) (z_Qi D z_cl z_KT dA Z (z_tys dA) z_nw Post) 0 0 (fun q => Z ≤ q) := by
  refine Met.ofW (cc := prog_3_method_21_code) (maxL := 2) (ret := (some .int)) (by decide) rfl ?_
  intro p e s m args below meth c s₁ B hml hv
  obtain ⟨rfl, ⟨hZ, hG, hK, hN⟩, hw⟩ := hv
  have hx := B.exec
  have hb := B.bytes
  have hr := B.returns
  have hts := atoms_spec (ws := ks_En_valueOf) B.pre
  have hown : s.vm.findClass kR_En = some m.cls := findClass_of_methodNamed B.named
  have hlocks := B.notSynchronized
  have hS : va_S (fun q => Z ≤ q) s.heap s.heap [] := va_S.rf
  have hl := lv_entry ([.ref a0, .int x1]) (n := 2) (Nat.le_of_ble_eq_true rfl)
  rw [lg_entry_eq]
  generalize (lg_sl ([.ref a0, .int x1]) ++ List.replicate (2 - (lg_sl ([.ref a0, .int x1])).length) Slot.unset).toArray = ls at hl ⊢
  have hl : lv_has ls 2 [(0, .ref a0), (1, .int x1)] := hl
  unfold kp_En_valueOf at hw
  refine lv_iload_n hx hb kb_En_valueOf_0 rfl (lv_at hl 1 rfl) ?_
  refine lv_if_lt (tgt := 8) hx hb kb_En_valueOf_1 (by decide) (fun hc => ?_) (fun hc => ?_)
  · have hw := hw.1 hc
    refine lv_aload_n hx hb kb_En_valueOf_8 rfl (lv_at hl 0 rfl) ?_
    obtain ⟨hy, r9, hrf, hw⟩ := hw
    refine zr_getR (ci := 1) (f := 101) hx hb hts ki_En hown hK hG hy rfl 1 (by decide) (hts _ (List.mem_cons_of_mem _ kw_156)) (fun _ h => h) rfl rfl hrf kb_En_valueOf_9 ?_
    refine lv_iconst (v := (-1 : Int32)) hx hb kb_En_valueOf_12 (by decide) ?_
    refine lv_iload_n hx hb kb_En_valueOf_13 rfl (lv_at hl 1 rfl) ?_
    refine lv_isub hx hb kb_En_valueOf_14 ?_
    obtain ⟨n15, s15, hy, hi, hw⟩ := hw
    refine zr_iald hx hb hK hG 0 hy rfl hi kb_En_valueOf_15 ?_
    exact zr_iret (free := fun q => Z ≤ q) z_nwN hx hb hr rfl hZ hK hN hG hS hw kb_En_valueOf_16 hlocks
  · have hw := hw.2 hc
    refine lv_iload_n hx hb kb_En_valueOf_4 rfl (lv_at hl 1 rfl) ?_
    refine lv_goto (tgt := 16) hx hb kb_En_valueOf_5 (by decide) ?_
    exact zr_iret (free := fun q => Z ≤ q) z_nwN hx hb hr rfl hZ hK hN hG hS hw kb_En_valueOf_16 hlocks
def kp_Vr_weight (x1 : Int32) (σ : z_S) (Post : Int32 → z_S → Prop) : Prop :=     ((¬ x1 = 0 → (¬ x1 = ((1 : Int32)) → Post ((1 : Int32)) σ) ∧ (x1 = ((1 : Int32)) → Post ((1000 : Int32)) σ)) ∧ (x1 = 0 → Post ((1000000 : Int32)) σ))
set_option maxHeartbeats 4000000 in
set_option maxRecDepth 100000 in
theorem kc_Vr_weight (l : Launch) (D : va_G) (dA : Nat → ClassId) (Z : Nat) (x1 : Int32) (σ : z_S) (Post : Int32 → z_S → Prop) : Met l km_Vr_weight ks_Vr_weight kr_Vr_weight (va_Pc [.int x1] (fun U => z_U D z_cl z_KT dA Z (z_tys dA) z_nw σ U ∧ kp_Vr_weight  x1 σ Post)) (z_Qi D z_cl z_KT dA Z (z_tys dA) z_nw Post) 0 0 (fun q => Z ≤ q) := by
  refine Met.ofW (cc := prog_1_method_29_code) (maxL := 1) (ret := (some .int)) (by decide) rfl ?_
  intro p e s m args below meth c s₁ B hml hv
  obtain ⟨rfl, ⟨hZ, hG, hK, hN⟩, hw⟩ := hv
  have hx := B.exec
  have hb := B.bytes
  have hr := B.returns
  have hts := atoms_spec (ws := ks_Vr_weight) B.pre
  have hown : s.vm.findClass kR_Vr = some m.cls := findClass_of_methodNamed B.named
  have hlocks := B.notSynchronized
  have hS : va_S (fun q => Z ≤ q) s.heap s.heap [] := va_S.rf
  have hl := lv_entry ([.int x1]) (n := 1) (Nat.le_of_ble_eq_true rfl)
  rw [lg_entry_eq]
  generalize (lg_sl ([.int x1]) ++ List.replicate (1 - (lg_sl ([.int x1])).length) Slot.unset).toArray = ls at hl ⊢
  have hl : lv_has ls 1 [(0, .int x1)] := hl
  unfold kp_Vr_weight at hw
  refine lv_iload_n hx hb kb_Vr_weight_0 rfl (lv_at hl 0 rfl) ?_
  refine lv_if_ne (tgt := 7) hx hb kb_Vr_weight_1 (by decide) (fun hc => ?_) (fun hc => ?_)
  · have hw := hw.1 hc
    refine lv_iload_n hx hb kb_Vr_weight_7 rfl (lv_at hl 0 rfl) ?_
    refine lv_iconst (v := (1 : Int32)) hx hb kb_Vr_weight_8 (by decide) ?_
    refine lv_icmp_ne (tgt := 18) hx hb kb_Vr_weight_9 (by decide) (fun hc => ?_) (fun hc => ?_)
    · have hw := hw.1 hc
      refine lv_iconst (v := (1 : Int32)) hx hb kb_Vr_weight_18 (by decide) ?_
      exact zr_iret (free := fun q => Z ≤ q) z_nwN hx hb hr rfl hZ hK hN hG hS hw kb_Vr_weight_19 hlocks
    · have hw := hw.2 hc
      refine lv_sipush (v := (1000 : Int32)) hx hb kb_Vr_weight_12 (by decide) ?_
      refine lv_goto (tgt := 19) hx hb kb_Vr_weight_15 (by decide) ?_
      exact zr_iret (free := fun q => Z ≤ q) z_nwN hx hb hr rfl hZ hK hN hG hS hw kb_Vr_weight_19 hlocks
  · have hw := hw.2 hc
    refine lv_ldc (v := (1000000 : Int32)) hx hb hown (hts _ (List.mem_cons_of_mem _ kw_413)) kb_Vr_weight_4 ?_
    exact zr_iret (free := fun q => Z ≤ q) z_nwN hx hb hr rfl hZ hK hN hG hS hw kb_Vr_weight_6 hlocks
def kp_En_keyOf (a0 : Nat) (b1 : Nat) (σ : z_S) (Post : Int32 → z_S → Prop) : Prop := ∀ (X4 : Int32 → Int32 → z_S → Prop),
    (∀ (v2 : Int32) (v3 : Int32) (σ : z_S), (z_ty σ b1 = some (.inl 0) ∧ (((z_I σ 1 b1) ≤ v3 → Post v2 σ) ∧ (¬ (z_I σ 1 b1) ≤ v3 → z_ty σ b1 = some (.inl 0) ∧ ∃ r15, z_R σ 0 b1 = some r15 ∧ (∃ n19 s19, z_ty σ r15 = some (.inr (0, n19, s19)) ∧ vp_in v3 n19 ∧ (z_ty σ a0 = some (.inl 1) ∧ kp_En_valueOf a0 (z_A σ s19 r15 v3.toNatClampNeg) σ (fun (r20 : Int32) (σ20 : z_S) => kp_Vr_weight v3 σ20 (fun (r24 : Int32) (σ24 : z_S) => X4 (v2 + (r20 * r24)) (v3 + (1 : Int32)) σ24))))))) → X4 v2 v3 σ) →
    (X4 ((0 : Int32)) ((0 : Int32)) σ)
set_option maxHeartbeats 4000000 in
set_option maxRecDepth 100000 in
theorem kc_En_keyOf (l : Launch) (D : va_G) (dA : Nat → ClassId) (Z : Nat) (a0 : Nat) (b1 : Nat) (σ : z_S) (Post : Int32 → z_S → Prop) : Met l km_En_keyOf ks_En_keyOf kr_En_keyOf (va_Pc [.ref a0, .ref b1] (fun U => z_U D z_cl z_KT dA Z (z_tys dA) z_nw σ U ∧ kp_En_keyOf  a0 b1 σ Post)) (z_Qi D z_cl z_KT dA Z (z_tys dA) z_nw Post) 0 0 (fun q => Z ≤ q) := by
  refine Met.ofW (cc := prog_3_method_19_code) (maxL := 4) (ret := (some .int)) (by decide) rfl ?_
  intro p e s m args below meth c s₁ B hml hv
  obtain ⟨rfl, ⟨hZ, hG, hK, hN⟩, hw⟩ := hv
  have hx := B.exec
  have hb := B.bytes
  have hr := B.returns
  have hts := atoms_spec (ws := ks_En_keyOf) B.pre
  have hown : s.vm.findClass kR_En = some m.cls := findClass_of_methodNamed B.named
  have hlocks := B.notSynchronized
  have hS : va_S (fun q => Z ≤ q) s.heap s.heap [] := va_S.rf
  have hl := lv_entry ([.ref a0, .ref b1]) (n := 4) (Nat.le_of_ble_eq_true rfl)
  rw [lg_entry_eq]
  generalize (lg_sl ([.ref a0, .ref b1]) ++ List.replicate (4 - (lg_sl ([.ref a0, .ref b1])).length) Slot.unset).toArray = ls at hl ⊢
  have hl : lv_has ls 4 [(0, .ref a0), (1, .ref b1)] := hl
  unfold kp_En_keyOf at hw
  have hw := hw (fun (v2 : Int32) (v3 : Int32) (σ : z_S) => ∀ (H : Heap) (locs : List Loc) (ls : Array Slot), z_G D z_cl z_KT dA Z σ H → va_S (fun q => Z ≤ q) s.heap H locs → lv_has ls 4 [(0, .ref a0), (1, .ref b1), (2, .int v2), (3, .int v3)] → W p l e (headSpec ks_En_keyOf kr_En_keyOf).room s m ([.ref a0, .ref b1] : List Value).toArray below meth c H locs 0 0 (MQ below (z_Qi D z_cl z_KT dA Z (z_tys dA) z_nw Post) ([.ref a0, .ref b1] : List Value).toArray s 0 0 (fun q => Z ≤ q)) (F0 m 4 ls []))
  have hw := hw (by
    intro v2 v3 σ hw H locs ls hG hS hl
    refine lv_iload_n hx hb kb_En_keyOf_4 rfl (lv_at hl 3 rfl) ?_
    refine lv_aload_n hx hb kb_En_keyOf_5 rfl (lv_at hl 1 rfl) ?_
    obtain ⟨hy, hw⟩ := hw
    refine zr_getI (ci := 0) (f := 1) hx hb hts ki_At hown hK hG hy rfl 1 (by decide) (hts _ (List.mem_cons_of_mem _ kw_107)) (fun _ h => h) rfl rfl kb_En_keyOf_6 ?_
    refine lv_icmp_ge (tgt := 36) hx hb kb_En_keyOf_9 (by decide) (fun hc => ?_) (fun hc => ?_)
    · have hw := hw.1 hc
      refine lv_iload_n hx hb kb_En_keyOf_36 rfl (lv_at hl 2 rfl) ?_
      exact zr_iret (free := fun q => Z ≤ q) z_nwN hx hb hr rfl hZ hK hN hG hS hw kb_En_keyOf_37 hlocks
    · have hw := hw.2 hc
      refine lv_iload_n hx hb kb_En_keyOf_12 rfl (lv_at hl 2 rfl) ?_
      refine lv_aload_n hx hb kb_En_keyOf_13 rfl (lv_at hl 0 rfl) ?_
      refine lv_aload_n hx hb kb_En_keyOf_14 rfl (lv_at hl 1 rfl) ?_
      obtain ⟨hy, r15, hrf, hw⟩ := hw
      refine zr_getR (ci := 0) (f := 0) hx hb hts ki_At hown hK hG hy rfl 0 (by decide) (hts _ (List.mem_cons_of_mem _ kw_104)) (fun _ h => h) rfl rfl hrf kb_En_keyOf_15 ?_
      refine lv_iload_n hx hb kb_En_keyOf_18 rfl (lv_at hl 3 rfl) ?_
      obtain ⟨n19, s19, hy, hi, hw⟩ := hw
      refine zr_iald hx hb hK hG 0 hy rfl hi kb_En_keyOf_19 ?_
      obtain ⟨hy, hw⟩ := hw
      refine zr_ci (va_runV (C := kR_En) (As := [.int (z_A σ s19 r15 v3.toNatClampNeg)]) (rest := [.int v2]) ⟨hx, hb, hml, hown, hts⟩ (kc_En_valueOf l D dA Z a0 (z_A σ s19 r15 v3.toNatClampNeg) σ _) ⟨callB_of 1 hts (z_gw kw_410) rfl rfl rfl (hts _ (List.mem_cons_of_mem _ kw_5)) (hts _ (List.mem_cons_of_mem _ kw_408)) (by decide +kernel) ⟨Nat.le_of_ble_eq_true rfl, Nat.le_of_ble_eq_true rfl⟩, (hts _ (List.mem_cons_of_mem _ kw_409)), (hts _ (List.mem_cons_of_mem _ kw_934))⟩ (z_preV z_nwN (Nat.le_trans hZ hS.1) hG hK hN hy (ci := 1) (r := (kR_En, kT_En, 12)) rfl hw) rfl rfl hl.1 rfl (lv_room (Nat.le_of_ble_eq_true rfl)) kb_En_keyOf_20 ⟨Nat.le_of_ble_eq_true rfl, Nat.le_of_ble_eq_true rfl⟩) hS (fun r20 σ20 H locs hw hG hS => ?_)
      refine lv_iload_n hx hb kb_En_keyOf_23 rfl (lv_at hl 3 rfl) ?_
      refine zr_ci (va_runSN (As := [.int v3]) (rest := [.int r20, .int v2]) ⟨hx, hb, hml, hown, hts⟩ (kc_Vr_weight l D dA Z v3 σ20 _) ⟨va_cnB 1 hts (z_gw kw_412) rfl rfl rfl (hN _ kq_11) (hts _ (List.mem_cons_of_mem _ kw_1)) (by decide +kernel) ⟨Nat.le_of_ble_eq_true rfl, Nat.le_of_ble_eq_true rfl⟩, (hts _ (List.mem_cons_of_mem _ kw_411)), trivial⟩ (z_preS z_nwN (Nat.le_trans hZ hS.1) hG hK hN hw) rfl rfl hl.1 rfl (lv_room (Nat.le_of_ble_eq_true rfl)) kb_En_keyOf_24 ⟨Nat.le_of_ble_eq_true rfl, Nat.le_of_ble_eq_true rfl⟩) hS (fun r24 σ24 H locs hw hG hS => ?_)
      refine lv_imul hx hb kb_En_keyOf_27 ?_
      refine lv_iadd hx hb kb_En_keyOf_28 ?_
      refine lv_istore_n (lv' := [(2, .int (v2 + (r20 * r24))), (0, .ref a0), (1, .ref b1), (3, .int v3)]) hx hb kb_En_keyOf_29 rfl hl (by decide) rfl (fun ls hl => ?_)
      refine lv_iinc (v := v3 + (1 : Int32)) (lv' := [(3, .int (v3 + (1 : Int32))), (2, .int (v2 + (r20 * r24))), (0, .ref a0), (1, .ref b1)]) hx hb kb_En_keyOf_30 hl (k := 3) rfl rfl (by decide) rfl (fun ls hl => ?_)
      refine lv_goto (tgt := 4) hx hb kb_En_keyOf_33 (by decide) ?_
      exact hw _ _ _ hG hS (lv_sub hl [2, 3, 1, 0] rfl))
  refine lv_iconst (v := (0 : Int32)) hx hb kb_En_keyOf_0 (by decide) ?_
  refine lv_istore_n (lv' := [(2, .int ((0 : Int32))), (0, .ref a0), (1, .ref b1)]) hx hb kb_En_keyOf_1 rfl hl (by decide) rfl (fun ls hl => ?_)
  refine lv_iconst (v := (0 : Int32)) hx hb kb_En_keyOf_2 (by decide) ?_
  refine lv_istore_n (lv' := [(3, .int ((0 : Int32))), (2, .int ((0 : Int32))), (0, .ref a0), (1, .ref b1)]) hx hb kb_En_keyOf_3 rfl hl (by decide) rfl (fun ls hl => ?_)
  exact hw _ _ _ hG hS (lv_sub hl [2, 3, 1, 0] rfl)
def kp_Ro_seek (a0 : Nat) (x1 : Int32) (σ : z_S) (Post : Int32 → z_S → Prop) : Prop := ∀ (X5 : Int32 → Int32 → z_S → Prop),
    (∀ (v2 : Int32) (v3 : Int32) (σ : z_S), ((v3 ≤ 0 → Post v2 σ) ∧ (¬ v3 ≤ 0 → z_ty σ a0 = some (.inl 4) ∧ (((z_I σ 402 a0) ≤ ((v2 + v3) - ((1 : Int32))) → X5 v2 (v3 >>> (((1 : Int32)) &&& 31)) σ) ∧ (¬ (z_I σ 402 a0) ≤ ((v2 + v3) - ((1 : Int32))) → (((100 : Int32)) ≤ ((v2 + v3) - ((1 : Int32))) → X5 v2 (v3 >>> (((1 : Int32)) &&& 31)) σ) ∧ (¬ ((100 : Int32)) ≤ ((v2 + v3) - ((1 : Int32))) → z_ty σ a0 = some (.inl 4) ∧ ∃ r33, z_R σ 400 a0 = some r33 ∧ (∃ n38 s38, z_ty σ r33 = some (.inr (0, n38, s38)) ∧ vp_in ((v2 + v3) - ((1 : Int32))) n38 ∧ ((x1 ≤ (z_A σ s38 r33 ((v2 + v3) - ((1 : Int32))).toNatClampNeg) → X5 v2 (v3 >>> (((1 : Int32)) &&& 31)) σ) ∧ (¬ x1 ≤ (z_A σ s38 r33 ((v2 + v3) - ((1 : Int32))).toNatClampNeg) → X5 (v2 + v3) (v3 >>> (((1 : Int32)) &&& 31)) σ)))))))) → X5 v2 v3 σ) →
    (X5 ((0 : Int32)) ((64 : Int32)) σ)
set_option maxHeartbeats 4000000 in
set_option maxRecDepth 100000 in
theorem kc_Ro_seek (l : Launch) (D : va_G) (dA : Nat → ClassId) (Z : Nat) (a0 : Nat) (x1 : Int32) (σ : z_S) (Post : Int32 → z_S → Prop) : Met l km_Ro_seek ks_Ro_seek kr_Ro_seek (va_Pc [.ref a0, .int x1] (fun U => z_U D z_cl z_KT dA Z (z_tys dA) z_nw σ U ∧ kp_Ro_seek  a0 x1 σ Post)) (z_Qi D z_cl z_KT dA Z (z_tys dA) z_nw Post) 0 0 (fun q => Z ≤ q) := by
  refine Met.ofW (cc := prog_6_method_2_code) (maxL := 5) (ret := (some .int)) (by decide) rfl ?_
  intro p e s m args below meth c s₁ B hml hv
  obtain ⟨rfl, ⟨hZ, hG, hK, hN⟩, hw⟩ := hv
  have hx := B.exec
  have hb := B.bytes
  have hr := B.returns
  have hts := atoms_spec (ws := ks_Ro_seek) B.pre
  have hown : s.vm.findClass kR_Ro = some m.cls := findClass_of_methodNamed B.named
  have hlocks := B.notSynchronized
  have hS : va_S (fun q => Z ≤ q) s.heap s.heap [] := va_S.rf
  have hl := lv_entry ([.ref a0, .int x1]) (n := 5) (Nat.le_of_ble_eq_true rfl)
  rw [lg_entry_eq]
  generalize (lg_sl ([.ref a0, .int x1]) ++ List.replicate (5 - (lg_sl ([.ref a0, .int x1])).length) Slot.unset).toArray = ls at hl ⊢
  have hl : lv_has ls 5 [(0, .ref a0), (1, .int x1)] := hl
  unfold kp_Ro_seek at hw
  have hw := hw (fun (v2 : Int32) (v3 : Int32) (σ : z_S) => ∀ (H : Heap) (locs : List Loc) (ls : Array Slot), z_G D z_cl z_KT dA Z σ H → va_S (fun q => Z ≤ q) s.heap H locs → lv_has ls 5 [(0, .ref a0), (1, .int x1), (2, .int v2), (3, .int v3)] → W p l e (headSpec ks_Ro_seek kr_Ro_seek).room s m ([.ref a0, .int x1] : List Value).toArray below meth c H locs 0 0 (MQ below (z_Qi D z_cl z_KT dA Z (z_tys dA) z_nw Post) ([.ref a0, .int x1] : List Value).toArray s 0 0 (fun q => Z ≤ q)) (F0 m 5 ls []))
  have hw := hw (by
    intro v2 v3 σ hw H locs ls hG hS hl
    refine lv_iload_n hx hb kb_Ro_seek_5 rfl (lv_at hl 3 rfl) ?_
    refine lv_if_le (tgt := 54) hx hb kb_Ro_seek_6 (by decide) (fun hc => ?_) (fun hc => ?_)
    · have hw := hw.1 hc
      refine lv_iload_n hx hb kb_Ro_seek_54 rfl (lv_at hl 2 rfl) ?_
      exact zr_iret (free := fun q => Z ≤ q) z_nwN hx hb hr rfl hZ hK hN hG hS hw kb_Ro_seek_55 hlocks
    · have hw := hw.2 hc
      refine lv_iload_n hx hb kb_Ro_seek_9 rfl (lv_at hl 2 rfl) ?_
      refine lv_iload_n hx hb kb_Ro_seek_10 rfl (lv_at hl 3 rfl) ?_
      refine lv_iadd hx hb kb_Ro_seek_11 ?_
      refine lv_iconst (v := (1 : Int32)) hx hb kb_Ro_seek_12 (by decide) ?_
      refine lv_isub hx hb kb_Ro_seek_13 ?_
      refine lv_istore (lv' := [(4, .int ((v2 + v3) - ((1 : Int32)))), (0, .ref a0), (1, .int x1), (2, .int v2), (3, .int v3)]) hx hb kb_Ro_seek_14 hl (by decide) rfl (fun ls hl => ?_)
      refine lv_iload hx hb kb_Ro_seek_16 (lv_at hl 0 rfl) ?_
      refine lv_aload_n hx hb kb_Ro_seek_18 rfl (lv_at hl 1 rfl) ?_
      obtain ⟨hy, hw⟩ := hw
      refine zr_getI (ci := 4) (f := 402) hx hb hts ki_Ro hown hK hG hy rfl 2 (by decide) (hts _ (List.mem_cons_of_mem _ kw_189)) (fun _ h => h) rfl rfl kb_Ro_seek_19 ?_
      refine lv_icmp_ge (tgt := 47) hx hb kb_Ro_seek_22 (by decide) (fun hc => ?_) (fun hc => ?_)
      · have hw := hw.1 hc
        refine lv_iload_n hx hb kb_Ro_seek_47 rfl (lv_at hl 4 rfl) ?_
        refine lv_iconst (v := (1 : Int32)) hx hb kb_Ro_seek_48 (by decide) ?_
        refine lv_ishr hx hb kb_Ro_seek_49 ?_
        refine lv_istore_n (lv' := [(3, .int (v3 >>> (((1 : Int32)) &&& 31))), (4, .int ((v2 + v3) - ((1 : Int32)))), (0, .ref a0), (1, .int x1), (2, .int v2)]) hx hb kb_Ro_seek_50 rfl hl (by decide) rfl (fun ls hl => ?_)
        refine lv_goto (tgt := 5) hx hb kb_Ro_seek_51 (by decide) ?_
        exact hw _ _ _ hG hS (lv_sub hl [2, 3, 4, 0] rfl)
      · have hw := hw.2 hc
        refine lv_iload hx hb kb_Ro_seek_25 (lv_at hl 0 rfl) ?_
        refine lv_bipush (v := (100 : Int32)) hx hb kb_Ro_seek_27 (by decide) ?_
        refine lv_icmp_ge (tgt := 47) hx hb kb_Ro_seek_29 (by decide) (fun hc => ?_) (fun hc => ?_)
        · have hw := hw.1 hc
          refine lv_iload_n hx hb kb_Ro_seek_47 rfl (lv_at hl 4 rfl) ?_
          refine lv_iconst (v := (1 : Int32)) hx hb kb_Ro_seek_48 (by decide) ?_
          refine lv_ishr hx hb kb_Ro_seek_49 ?_
          refine lv_istore_n (lv' := [(3, .int (v3 >>> (((1 : Int32)) &&& 31))), (4, .int ((v2 + v3) - ((1 : Int32)))), (0, .ref a0), (1, .int x1), (2, .int v2)]) hx hb kb_Ro_seek_50 rfl hl (by decide) rfl (fun ls hl => ?_)
          refine lv_goto (tgt := 5) hx hb kb_Ro_seek_51 (by decide) ?_
          exact hw _ _ _ hG hS (lv_sub hl [2, 3, 4, 0] rfl)
        · have hw := hw.2 hc
          refine lv_aload_n hx hb kb_Ro_seek_32 rfl (lv_at hl 1 rfl) ?_
          obtain ⟨hy, r33, hrf, hw⟩ := hw
          refine zr_getR (ci := 4) (f := 400) hx hb hts ki_Ro hown hK hG hy rfl 0 (by decide) (hts _ (List.mem_cons_of_mem _ kw_183)) (fun _ h => h) rfl rfl hrf kb_Ro_seek_33 ?_
          refine lv_iload hx hb kb_Ro_seek_36 (lv_at hl 0 rfl) ?_
          obtain ⟨n38, s38, hy, hi, hw⟩ := hw
          refine zr_iald hx hb hK hG 0 hy rfl hi kb_Ro_seek_38 ?_
          refine lv_iload_n hx hb kb_Ro_seek_39 rfl (lv_at hl 2 rfl) ?_
          refine lv_icmp_ge (tgt := 47) hx hb kb_Ro_seek_40 (by decide) (fun hc => ?_) (fun hc => ?_)
          · have hw := hw.1 hc
            refine lv_iload_n hx hb kb_Ro_seek_47 rfl (lv_at hl 4 rfl) ?_
            refine lv_iconst (v := (1 : Int32)) hx hb kb_Ro_seek_48 (by decide) ?_
            refine lv_ishr hx hb kb_Ro_seek_49 ?_
            refine lv_istore_n (lv' := [(3, .int (v3 >>> (((1 : Int32)) &&& 31))), (4, .int ((v2 + v3) - ((1 : Int32)))), (0, .ref a0), (1, .int x1), (2, .int v2)]) hx hb kb_Ro_seek_50 rfl hl (by decide) rfl (fun ls hl => ?_)
            refine lv_goto (tgt := 5) hx hb kb_Ro_seek_51 (by decide) ?_
            exact hw _ _ _ hG hS (lv_sub hl [2, 3, 4, 0] rfl)
          · have hw := hw.2 hc
            refine lv_iload_n hx hb kb_Ro_seek_43 rfl (lv_at hl 3 rfl) ?_
            refine lv_iload_n hx hb kb_Ro_seek_44 rfl (lv_at hl 4 rfl) ?_
            refine lv_iadd hx hb kb_Ro_seek_45 ?_
            refine lv_istore_n (lv' := [(2, .int (v2 + v3)), (4, .int ((v2 + v3) - ((1 : Int32)))), (0, .ref a0), (1, .int x1), (3, .int v3)]) hx hb kb_Ro_seek_46 rfl hl (by decide) rfl (fun ls hl => ?_)
            refine lv_iload_n hx hb kb_Ro_seek_47 rfl (lv_at hl 4 rfl) ?_
            refine lv_iconst (v := (1 : Int32)) hx hb kb_Ro_seek_48 (by decide) ?_
            refine lv_ishr hx hb kb_Ro_seek_49 ?_
            refine lv_istore_n (lv' := [(3, .int (v3 >>> (((1 : Int32)) &&& 31))), (2, .int (v2 + v3)), (4, .int ((v2 + v3) - ((1 : Int32)))), (0, .ref a0), (1, .int x1)]) hx hb kb_Ro_seek_50 rfl hl (by decide) rfl (fun ls hl => ?_)
            refine lv_goto (tgt := 5) hx hb kb_Ro_seek_51 (by decide) ?_
            exact hw _ _ _ hG hS (lv_sub hl [3, 4, 1, 0] rfl))
  refine lv_iconst (v := (0 : Int32)) hx hb kb_Ro_seek_0 (by decide) ?_
  refine lv_istore_n (lv' := [(2, .int ((0 : Int32))), (0, .ref a0), (1, .int x1)]) hx hb kb_Ro_seek_1 rfl hl (by decide) rfl (fun ls hl => ?_)
  refine lv_bipush (v := (64 : Int32)) hx hb kb_Ro_seek_2 (by decide) ?_
  refine lv_istore_n (lv' := [(3, .int ((64 : Int32))), (2, .int ((0 : Int32))), (0, .ref a0), (1, .int x1)]) hx hb kb_Ro_seek_4 rfl hl (by decide) rfl (fun ls hl => ?_)
  exact hw _ _ _ hG hS (lv_sub hl [2, 3, 1, 0] rfl)
def kp_Ro_countOf (a0 : Nat) (x1 : Int32) (σ : z_S) (Post : Int32 → z_S → Prop) : Prop :=     (z_ty σ a0 = some (.inl 4) ∧ kp_Ro_seek a0 x1 σ (fun (r2 : Int32) (σ2 : z_S) => z_ty σ2 a0 = some (.inl 4) ∧ (((z_I σ2 402 a0) ≤ r2 → Post ((0 : Int32)) σ2) ∧ (¬ (z_I σ2 402 a0) ≤ r2 → z_ty σ2 a0 = some (.inl 4) ∧ ∃ r15, z_R σ2 400 a0 = some r15 ∧ (∃ n19 s19, z_ty σ2 r15 = some (.inr (0, n19, s19)) ∧ vp_in r2 n19 ∧ ((¬ (z_A σ2 s19 r15 r2.toNatClampNeg) = x1 → Post ((0 : Int32)) σ2) ∧ ((z_A σ2 s19 r15 r2.toNatClampNeg) = x1 → z_ty σ2 a0 = some (.inl 4) ∧ ∃ r25, z_R σ2 401 a0 = some r25 ∧ (∃ n29 s29, z_ty σ2 r25 = some (.inr (0, n29, s29)) ∧ vp_in r2 n29 ∧ (Post (z_A σ2 s29 r25 r2.toNatClampNeg) σ2)))))))))
set_option maxHeartbeats 4000000 in
set_option maxRecDepth 100000 in
theorem kc_Ro_countOf (l : Launch) (D : va_G) (dA : Nat → ClassId) (Z : Nat) (a0 : Nat) (x1 : Int32) (σ : z_S) (Post : Int32 → z_S → Prop) : Met l km_Ro_countOf ks_Ro_countOf kr_Ro_countOf (va_Pc [.ref a0, .int x1] (fun U => z_U D z_cl z_KT dA Z (z_tys dA) z_nw σ U ∧ kp_Ro_countOf  a0 x1 σ Post)) (z_Qi D z_cl z_KT dA Z (z_tys dA) z_nw Post) 0 0 (fun q => Z ≤ q) := by
  refine Met.ofW (cc := prog_6_method_3_code) (maxL := 3) (ret := (some .int)) (by decide) rfl ?_
  intro p e s m args below meth c s₁ B hml hv
  obtain ⟨rfl, ⟨hZ, hG, hK, hN⟩, hw⟩ := hv
  have hx := B.exec
  have hb := B.bytes
  have hr := B.returns
  have hts := atoms_spec (ws := ks_Ro_countOf) B.pre
  have hown : s.vm.findClass kR_Ro = some m.cls := findClass_of_methodNamed B.named
  have hlocks := B.notSynchronized
  have hS : va_S (fun q => Z ≤ q) s.heap s.heap [] := va_S.rf
  have hl := lv_entry ([.ref a0, .int x1]) (n := 3) (Nat.le_of_ble_eq_true rfl)
  rw [lg_entry_eq]
  generalize (lg_sl ([.ref a0, .int x1]) ++ List.replicate (3 - (lg_sl ([.ref a0, .int x1])).length) Slot.unset).toArray = ls at hl ⊢
  have hl : lv_has ls 3 [(0, .ref a0), (1, .int x1)] := hl
  unfold kp_Ro_countOf at hw
  refine lv_aload_n hx hb kb_Ro_countOf_0 rfl (lv_at hl 0 rfl) ?_
  refine lv_iload_n hx hb kb_Ro_countOf_1 rfl (lv_at hl 1 rfl) ?_
  obtain ⟨hy, hw⟩ := hw
  refine zr_ci (va_runV (C := kR_Ro) (As := [.int x1]) (rest := []) ⟨hx, hb, hml, hown, hts⟩ (kc_Ro_seek l D dA Z a0 x1 σ _) ⟨callB_of 1 hts (z_gw kw_421) rfl rfl rfl (hts _ (List.mem_cons_of_mem _ kw_8)) (hts _ (List.mem_cons_of_mem _ kw_418)) (by decide +kernel) ⟨Nat.le_of_ble_eq_true rfl, Nat.le_of_ble_eq_true rfl⟩, (hts _ (List.mem_cons_of_mem _ kw_419)), (hts _ (List.mem_cons_of_mem _ kw_420))⟩ (z_preV z_nwN (Nat.le_trans hZ hS.1) hG hK hN hy (ci := 4) (r := (kR_Ro, kT_Ro, 3)) rfl hw) rfl rfl hl.1 rfl (lv_room (Nat.le_of_ble_eq_true rfl)) kb_Ro_countOf_2 ⟨Nat.le_of_ble_eq_true rfl, Nat.le_of_ble_eq_true rfl⟩) hS (fun r2 σ2 H locs hw hG hS => ?_)
  refine lv_istore_n (lv' := [(2, .int r2), (0, .ref a0), (1, .int x1)]) hx hb kb_Ro_countOf_5 rfl hl (by decide) rfl (fun ls hl => ?_)
  refine lv_iload_n hx hb kb_Ro_countOf_6 rfl (lv_at hl 0 rfl) ?_
  refine lv_aload_n hx hb kb_Ro_countOf_7 rfl (lv_at hl 1 rfl) ?_
  obtain ⟨hy, hw⟩ := hw
  refine zr_getI (ci := 4) (f := 402) hx hb hts ki_Ro hown hK hG hy rfl 2 (by decide) (hts _ (List.mem_cons_of_mem _ kw_189)) (fun _ h => h) rfl rfl kb_Ro_countOf_8 ?_
  refine lv_icmp_ge (tgt := 33) hx hb kb_Ro_countOf_11 (by decide) (fun hc => ?_) (fun hc => ?_)
  · have hw := hw.1 hc
    refine lv_iconst (v := (0 : Int32)) hx hb kb_Ro_countOf_33 (by decide) ?_
    exact zr_iret (free := fun q => Z ≤ q) z_nwN hx hb hr rfl hZ hK hN hG hS hw kb_Ro_countOf_34 hlocks
  · have hw := hw.2 hc
    refine lv_aload_n hx hb kb_Ro_countOf_14 rfl (lv_at hl 1 rfl) ?_
    obtain ⟨hy, r15, hrf, hw⟩ := hw
    refine zr_getR (ci := 4) (f := 400) hx hb hts ki_Ro hown hK hG hy rfl 0 (by decide) (hts _ (List.mem_cons_of_mem _ kw_183)) (fun _ h => h) rfl rfl hrf kb_Ro_countOf_15 ?_
    refine lv_iload_n hx hb kb_Ro_countOf_18 rfl (lv_at hl 0 rfl) ?_
    obtain ⟨n19, s19, hy, hi, hw⟩ := hw
    refine zr_iald hx hb hK hG 0 hy rfl hi kb_Ro_countOf_19 ?_
    refine lv_iload_n hx hb kb_Ro_countOf_20 rfl (lv_at hl 2 rfl) ?_
    refine lv_icmp_ne (tgt := 33) hx hb kb_Ro_countOf_21 (by decide) (fun hc => ?_) (fun hc => ?_)
    · have hw := hw.1 hc
      refine lv_iconst (v := (0 : Int32)) hx hb kb_Ro_countOf_33 (by decide) ?_
      exact zr_iret (free := fun q => Z ≤ q) z_nwN hx hb hr rfl hZ hK hN hG hS hw kb_Ro_countOf_34 hlocks
    · have hw := hw.2 hc
      refine lv_aload_n hx hb kb_Ro_countOf_24 rfl (lv_at hl 1 rfl) ?_
      obtain ⟨hy, r25, hrf, hw⟩ := hw
      refine zr_getR (ci := 4) (f := 401) hx hb hts ki_Ro hown hK hG hy rfl 1 (by decide) (hts _ (List.mem_cons_of_mem _ kw_186)) (fun _ h => h) rfl rfl hrf kb_Ro_countOf_25 ?_
      refine lv_iload_n hx hb kb_Ro_countOf_28 rfl (lv_at hl 0 rfl) ?_
      obtain ⟨n29, s29, hy, hi, hw⟩ := hw
      refine zr_iald hx hb hK hG 0 hy rfl hi kb_Ro_countOf_29 ?_
      refine lv_goto (tgt := 34) hx hb kb_Ro_countOf_30 (by decide) ?_
      exact zr_iret (free := fun q => Z ≤ q) z_nwN hx hb hr rfl hZ hK hN hG hS hw kb_Ro_countOf_34 hlocks
def kp_En_isNothingNew (a0 : Nat) (σ : z_S) (Post : Int32 → z_S → Prop) : Prop :=     (z_ty σ a0 = some (.inl 1) ∧ ∃ r1, z_R σ 110 a0 = some r1 ∧ (z_ty σ r1 = some (.inl 5) ∧ ∃ r4, z_R σ 500 r1 = some r4 ∧ (z_ty σ a0 = some (.inl 1) ∧ ((¬ ((z_I σ 106 a0)) = 0 → Post ((0 : Int32)) σ) ∧ (((z_I σ 106 a0)) = 0 → z_ty σ a0 = some (.inl 1) ∧ ∃ r16, z_R σ 110 a0 = some r16 ∧ (z_ty σ r16 = some (.inl 5) ∧ ((¬ ((z_I σ 504 r16)) = 0 → Post ((0 : Int32)) σ) ∧ (((z_I σ 504 r16)) = 0 → z_ty σ r4 = some (.inl 0) ∧ (z_ty σ a0 = some (.inl 1) ∧ (((((z_I σ 5 r4) &&& ((z_I σ 105 a0) ^^^ ((-1 : Int32))))) = 0 → z_ty σ a0 = some (.inl 1) ∧ ∃ r42, z_R σ 111 a0 = some r42 ∧ (z_ty σ r4 = some (.inl 0) ∧ (∃ n49 s49, z_ty σ r42 = some (.inr (9, n49, s49)) ∧ vp_in (z_I σ 3 r4) n49 ∧ ∃ r49, z_Q σ s49 r42 (z_I σ 3 r4).toNatClampNeg = some r49 ∧ (z_ty σ a0 = some (.inl 1) ∧ kp_En_keyOf a0 r4 σ (fun (r52 : Int32) (σ52 : z_S) => z_ty σ52 r49 = some (.inl 4) ∧ kp_Ro_countOf r49 r52 σ52 (fun (r55 : Int32) (σ55 : z_S) => (r55 ≤ 0 → Post ((0 : Int32)) σ55) ∧ (¬ r55 ≤ 0 → Post ((1 : Int32)) σ55))))))) ∧ (¬ (((z_I σ 5 r4) &&& ((z_I σ 105 a0) ^^^ ((-1 : Int32))))) = 0 → Post ((0 : Int32)) σ)))))))))))
set_option maxHeartbeats 4000000 in
set_option maxRecDepth 100000 in
theorem kc_En_isNothingNew (l : Launch) (D : va_G) (dA : Nat → ClassId) (Z : Nat) (a0 : Nat) (σ : z_S) (Post : Int32 → z_S → Prop) : Met l km_En_isNothingNew ks_En_isNothingNew kr_En_isNothingNew (va_Pc [.ref a0] (fun U => z_U D z_cl z_KT dA Z (z_tys dA) z_nw σ U ∧ kp_En_isNothingNew  a0 σ Post)) (z_Qi D z_cl z_KT dA Z (z_tys dA) z_nw Post) 0 0 (fun q => Z ≤ q) := by
  refine Met.ofW (cc := prog_3_method_11_code) (maxL := 2) (ret := (some .boolean)) (by decide) rfl ?_
  intro p e s m args below meth c s₁ B hml hv
  obtain ⟨rfl, ⟨hZ, hG, hK, hN⟩, hw⟩ := hv
  have hx := B.exec
  have hb := B.bytes
  have hr := B.returns
  have hts := atoms_spec (ws := ks_En_isNothingNew) B.pre
  have hown : s.vm.findClass kR_En = some m.cls := findClass_of_methodNamed B.named
  have hlocks := B.notSynchronized
  have hS : va_S (fun q => Z ≤ q) s.heap s.heap [] := va_S.rf
  have hl := lv_entry ([.ref a0]) (n := 2) (Nat.le_of_ble_eq_true rfl)
  rw [lg_entry_eq]
  generalize (lg_sl ([.ref a0]) ++ List.replicate (2 - (lg_sl ([.ref a0])).length) Slot.unset).toArray = ls at hl ⊢
  have hl : lv_has ls 2 [(0, .ref a0)] := hl
  unfold kp_En_isNothingNew at hw
  refine lv_aload_n hx hb kb_En_isNothingNew_0 rfl (lv_at hl 0 rfl) ?_
  obtain ⟨hy, r1, hrf, hw⟩ := hw
  refine zr_getR (ci := 1) (f := 110) hx hb hts ki_En hown hK hG hy rfl 10 (by decide) (hts _ (List.mem_cons_of_mem _ kw_165)) (fun _ h => h) rfl rfl hrf kb_En_isNothingNew_1 ?_
  obtain ⟨hy, r4, hrf, hw⟩ := hw
  refine zr_getR (ci := 5) (f := 500) hx hb hts ki_Ru hown hK hG hy rfl 0 (by decide) (hts _ (List.mem_cons_of_mem _ kw_128)) (fun _ h => h) rfl rfl hrf kb_En_isNothingNew_4 ?_
  refine lv_astore_n (lv' := [(1, .ref r4), (0, .ref a0)]) hx hb kb_En_isNothingNew_7 rfl hl (by decide) rfl (fun ls hl => ?_)
  refine lv_aload_n hx hb kb_En_isNothingNew_8 rfl (lv_at hl 1 rfl) ?_
  obtain ⟨hy, hw⟩ := hw
  refine zr_getI (ci := 1) (f := 106) hx hb hts ki_En hown hK hG hy rfl 6 (by decide) (hts _ (List.mem_cons_of_mem _ kw_161)) (fun _ h => h) rfl rfl kb_En_isNothingNew_9 ?_
  refine lv_if_ne (tgt := 39) hx hb kb_En_isNothingNew_12 (by decide) (fun hc => ?_) (fun hc => ?_)
  · have hw := hw.1 hc
    refine lv_iconst (v := (0 : Int32)) hx hb kb_En_isNothingNew_39 (by decide) ?_
    exact zr_iret (free := fun q => Z ≤ q) z_nwN hx hb hr rfl hZ hK hN hG hS hw kb_En_isNothingNew_40 hlocks
  · have hw := hw.2 hc
    refine lv_aload_n hx hb kb_En_isNothingNew_15 rfl (lv_at hl 1 rfl) ?_
    obtain ⟨hy, r16, hrf, hw⟩ := hw
    refine zr_getR (ci := 1) (f := 110) hx hb hts ki_En hown hK hG hy rfl 10 (by decide) (hts _ (List.mem_cons_of_mem _ kw_165)) (fun _ h => h) rfl rfl hrf kb_En_isNothingNew_16 ?_
    obtain ⟨hy, hw⟩ := hw
    refine zr_getI (ci := 5) (f := 504) hx hb hts ki_Ru hown hK hG hy rfl 4 (by decide) (hts _ (List.mem_cons_of_mem _ kw_140)) (fun _ h => h) rfl rfl kb_En_isNothingNew_19 ?_
    refine lv_if_ne (tgt := 39) hx hb kb_En_isNothingNew_22 (by decide) (fun hc => ?_) (fun hc => ?_)
    · have hw := hw.1 hc
      refine lv_iconst (v := (0 : Int32)) hx hb kb_En_isNothingNew_39 (by decide) ?_
      exact zr_iret (free := fun q => Z ≤ q) z_nwN hx hb hr rfl hZ hK hN hG hS hw kb_En_isNothingNew_40 hlocks
    · have hw := hw.2 hc
      refine lv_aload_n hx hb kb_En_isNothingNew_25 rfl (lv_at hl 0 rfl) ?_
      obtain ⟨hy, hw⟩ := hw
      refine zr_getI (ci := 0) (f := 5) hx hb hts ki_At hown hK hG hy rfl 5 (by decide) (hts _ (List.mem_cons_of_mem _ kw_119)) (fun _ h => h) rfl rfl kb_En_isNothingNew_26 ?_
      refine lv_aload_n hx hb kb_En_isNothingNew_29 rfl (lv_at hl 1 rfl) ?_
      obtain ⟨hy, hw⟩ := hw
      refine zr_getI (ci := 1) (f := 105) hx hb hts ki_En hown hK hG hy rfl 5 (by decide) (hts _ (List.mem_cons_of_mem _ kw_160)) (fun _ h => h) rfl rfl kb_En_isNothingNew_30 ?_
      refine lv_iconst (v := (-1 : Int32)) hx hb kb_En_isNothingNew_33 (by decide) ?_
      refine lv_ixor hx hb kb_En_isNothingNew_34 ?_
      refine lv_iand hx hb kb_En_isNothingNew_35 ?_
      refine lv_if_eq (tgt := 41) hx hb kb_En_isNothingNew_36 (by decide) (fun hc => ?_) (fun hc => ?_)
      · have hw := hw.1 hc
        refine lv_aload_n hx hb kb_En_isNothingNew_41 rfl (lv_at hl 1 rfl) ?_
        obtain ⟨hy, r42, hrf, hw⟩ := hw
        refine zr_getR (ci := 1) (f := 111) hx hb hts ki_En hown hK hG hy rfl 11 (by decide) (hts _ (List.mem_cons_of_mem _ kw_166)) (fun _ h => h) rfl rfl hrf kb_En_isNothingNew_42 ?_
        refine lv_aload_n hx hb kb_En_isNothingNew_45 rfl (lv_at hl 0 rfl) ?_
        obtain ⟨hy, hw⟩ := hw
        refine zr_getI (ci := 0) (f := 3) hx hb hts ki_At hown hK hG hy rfl 3 (by decide) (hts _ (List.mem_cons_of_mem _ kw_112)) (fun _ h => h) rfl rfl kb_En_isNothingNew_46 ?_
        obtain ⟨n49, s49, hy, hi, r49, hrf, hw⟩ := hw
        refine zr_aald hx hb hK hG 4 (by decide) hy rfl hi hrf kb_En_isNothingNew_49 ?_
        refine lv_aload_n hx hb kb_En_isNothingNew_50 rfl (lv_at hl 1 rfl) ?_
        refine lv_aload_n hx hb kb_En_isNothingNew_51 rfl (lv_at hl 0 rfl) ?_
        obtain ⟨hy, hw⟩ := hw
        refine zr_ci (va_runV (C := kR_En) (As := [.ref r4]) (rest := [.ref r49]) ⟨hx, hb, hml, hown, hts⟩ (kc_En_keyOf l D dA Z a0 r4 σ _) ⟨callB_of 1 hts (z_gw kw_407) rfl rfl rfl (hts _ (List.mem_cons_of_mem _ kw_5)) (hts _ (List.mem_cons_of_mem _ kw_405)) (by decide +kernel) ⟨Nat.le_of_ble_eq_true rfl, Nat.le_of_ble_eq_true rfl⟩, (hts _ (List.mem_cons_of_mem _ kw_406)), (hts _ (List.mem_cons_of_mem _ kw_933))⟩ (z_preV z_nwN (Nat.le_trans hZ hS.1) hG hK hN hy (ci := 1) (r := (kR_En, kT_En, 12)) rfl hw) rfl rfl hl.1 rfl (lv_room (Nat.le_of_ble_eq_true rfl)) kb_En_isNothingNew_52 ⟨Nat.le_of_ble_eq_true rfl, Nat.le_of_ble_eq_true rfl⟩) hS (fun r52 σ52 H locs hw hG hS => ?_)
        obtain ⟨hy, hw⟩ := hw
        refine zr_ci (va_runV (C := kR_Ro) (As := [.int r52]) (rest := []) ⟨hx, hb, hml, hown, hts⟩ (kc_Ro_countOf l D dA Z r49 r52 σ52 _) ⟨callB_of 1 hts (z_gw kw_417) rfl rfl rfl (hts _ (List.mem_cons_of_mem _ kw_8)) (hts _ (List.mem_cons_of_mem _ kw_414)) (by decide +kernel) ⟨Nat.le_of_ble_eq_true rfl, Nat.le_of_ble_eq_true rfl⟩, (hts _ (List.mem_cons_of_mem _ kw_415)), (hts _ (List.mem_cons_of_mem _ kw_416))⟩ (z_preV z_nwN (Nat.le_trans hZ hS.1) hG hK hN hy (ci := 4) (r := (kR_Ro, kT_Ro, 3)) rfl hw) rfl rfl hl.1 rfl (lv_room (Nat.le_of_ble_eq_true rfl)) kb_En_isNothingNew_55 ⟨Nat.le_of_ble_eq_true rfl, Nat.le_of_ble_eq_true rfl⟩) hS (fun r55 σ55 H locs hw hG hS => ?_)
        refine lv_if_le (tgt := 65) hx hb kb_En_isNothingNew_58 (by decide) (fun hc => ?_) (fun hc => ?_)
        · have hw := hw.1 hc
          refine lv_iconst (v := (0 : Int32)) hx hb kb_En_isNothingNew_65 (by decide) ?_
          exact zr_iret (free := fun q => Z ≤ q) z_nwN hx hb hr rfl hZ hK hN hG hS hw kb_En_isNothingNew_66 hlocks
        · have hw := hw.2 hc
          refine lv_iconst (v := (1 : Int32)) hx hb kb_En_isNothingNew_61 (by decide) ?_
          refine lv_goto (tgt := 66) hx hb kb_En_isNothingNew_62 (by decide) ?_
          exact zr_iret (free := fun q => Z ≤ q) z_nwN hx hb hr rfl hZ hK hN hG hS hw kb_En_isNothingNew_66 hlocks
      · have hw := hw.2 hc
        refine lv_iconst (v := (0 : Int32)) hx hb kb_En_isNothingNew_39 (by decide) ?_
        exact zr_iret (free := fun q => Z ≤ q) z_nwN hx hb hr rfl hZ hK hN hG hS hw kb_En_isNothingNew_40 hlocks
def kp_Ro_add (a0 : Nat) (x1 : Int32) (x2 : Int32) (σ : z_S) (Post : Int32 → z_S → Prop) : Prop := ∀ (X41 : Int32 → z_S → Prop) (X58 : Int32 → Int32 → z_S → Prop),
    (∀ (v3 : Int32) (σ : z_S), (z_ty σ a0 = some (.inl 4) ∧ (((z_I σ 402 a0) < ((100 : Int32)) → z_ty σ a0 = some (.inl 4) ∧ (X58 v3 (z_I σ 402 a0) σ)) ∧ (¬ (z_I σ 402 a0) < ((100 : Int32)) → Post ((0 : Int32)) σ))) → X41 v3 σ) →
    (∀ (v3 : Int32) (v4 : Int32) (σ : z_S), ((v4 ≤ v3 → z_ty σ a0 = some (.inl 4) ∧ ∃ r103, z_R σ 400 a0 = some r103 ∧ (∃ n108 s108, z_ty σ r103 = some (.inr (0, n108, s108)) ∧ vp_in v3 n108 ∧ ∀ σ108, σ108 = z_sA σ s108 r103 (upd (z_A σ s108 r103) v3.toNatClampNeg x1) → z_ty σ108 a0 = some (.inl 4) ∧ ∃ r110, z_R σ108 401 a0 = some r110 ∧ (∃ n115 s115, z_ty σ108 r110 = some (.inr (0, n115, s115)) ∧ vp_in v3 n115 ∧ ∀ σ115, σ115 = z_sA σ108 s115 r110 (upd (z_A σ108 s115 r110) v3.toNatClampNeg x2) → z_ty σ115 a0 = some (.inl 4) ∧ (z_ty σ115 a0 = some (.inl 4) ∧ ∀ σ123, σ123 = z_sI σ115 402 a0 ((z_I σ115 402 a0) + ((1 : Int32))) → Post x2 σ123)))) ∧ (¬ v4 ≤ v3 → z_ty σ a0 = some (.inl 4) ∧ ∃ r65, z_R σ 400 a0 = some r65 ∧ (z_ty σ a0 = some (.inl 4) ∧ ∃ r71, z_R σ 400 a0 = some r71 ∧ (∃ n78 s78, z_ty σ r71 = some (.inr (0, n78, s78)) ∧ vp_in (v4 - ((1 : Int32))) n78 ∧ (∃ n79 s79, z_ty σ r65 = some (.inr (0, n79, s79)) ∧ vp_in v4 n79 ∧ ∀ σ79, σ79 = z_sA σ s79 r65 (upd (z_A σ s79 r65) v4.toNatClampNeg (z_A σ s78 r71 (v4 - ((1 : Int32))).toNatClampNeg)) → z_ty σ79 a0 = some (.inl 4) ∧ ∃ r81, z_R σ79 401 a0 = some r81 ∧ (z_ty σ79 a0 = some (.inl 4) ∧ ∃ r87, z_R σ79 401 a0 = some r87 ∧ (∃ n94 s94, z_ty σ79 r87 = some (.inr (0, n94, s94)) ∧ vp_in (v4 - ((1 : Int32))) n94 ∧ (∃ n95 s95, z_ty σ79 r81 = some (.inr (0, n95, s95)) ∧ vp_in v4 n95 ∧ ∀ σ95, σ95 = z_sA σ79 s95 r81 (upd (z_A σ79 s95 r81) v4.toNatClampNeg (z_A σ79 s94 r87 (v4 - ((1 : Int32))).toNatClampNeg)) → X58 v3 (v4 + (-1 : Int32)) σ95)))))))) → X58 v3 v4 σ) →
    (z_ty σ a0 = some (.inl 4) ∧ kp_Ro_seek a0 x1 σ (fun (r2 : Int32) (σ2 : z_S) => z_ty σ2 a0 = some (.inl 4) ∧ (((z_I σ2 402 a0) ≤ r2 → X41 r2 σ2) ∧ (¬ (z_I σ2 402 a0) ≤ r2 → z_ty σ2 a0 = some (.inl 4) ∧ ∃ r15, z_R σ2 400 a0 = some r15 ∧ (∃ n19 s19, z_ty σ2 r15 = some (.inr (0, n19, s19)) ∧ vp_in r2 n19 ∧ ((¬ (z_A σ2 s19 r15 r2.toNatClampNeg) = x1 → X41 r2 σ2) ∧ ((z_A σ2 s19 r15 r2.toNatClampNeg) = x1 → z_ty σ2 a0 = some (.inl 4) ∧ ∃ r25, z_R σ2 401 a0 = some r25 ∧ (∃ n30 s30, z_ty σ2 r25 = some (.inr (0, n30, s30)) ∧ vp_in r2 n30 ∧ (∃ n33 s33, z_ty σ2 r25 = some (.inr (0, n33, s33)) ∧ vp_in r2 n33 ∧ ∀ σ33, σ33 = z_sA σ2 s33 r25 (upd (z_A σ2 s33 r25) r2.toNatClampNeg ((z_A σ2 s30 r25 r2.toNatClampNeg) + x2)) → z_ty σ33 a0 = some (.inl 4) ∧ ∃ r35, z_R σ33 401 a0 = some r35 ∧ (∃ n39 s39, z_ty σ33 r35 = some (.inr (0, n39, s39)) ∧ vp_in r2 n39 ∧ (Post (z_A σ33 s39 r35 r2.toNatClampNeg) σ33)))))))))))
set_option maxHeartbeats 4000000 in
set_option maxRecDepth 100000 in
theorem kc_Ro_add (l : Launch) (D : va_G) (dA : Nat → ClassId) (Z : Nat) (a0 : Nat) (x1 : Int32) (x2 : Int32) (σ : z_S) (Post : Int32 → z_S → Prop) : Met l km_Ro_add ks_Ro_add kr_Ro_add (va_Pc [.ref a0, .int x1, .int x2] (fun U => z_U D z_cl z_KT dA Z (z_tys dA) z_nw σ U ∧ kp_Ro_add  a0 x1 x2 σ Post)) (z_Qi D z_cl z_KT dA Z (z_tys dA) z_nw Post) 0 0 (fun q => Z ≤ q) := by
  refine Met.ofW (cc := prog_6_method_4_code) (maxL := 5) (ret := (some .int)) (by decide) rfl ?_
  intro p e s m args below meth c s₁ B hml hv
  obtain ⟨rfl, ⟨hZ, hG, hK, hN⟩, hw⟩ := hv
  have hx := B.exec
  have hb := B.bytes
  have hr := B.returns
  have hts := atoms_spec (ws := ks_Ro_add) B.pre
  have hown : s.vm.findClass kR_Ro = some m.cls := findClass_of_methodNamed B.named
  have hlocks := B.notSynchronized
  have hS : va_S (fun q => Z ≤ q) s.heap s.heap [] := va_S.rf
  have hl := lv_entry ([.ref a0, .int x1, .int x2]) (n := 5) (Nat.le_of_ble_eq_true rfl)
  rw [lg_entry_eq]
  generalize (lg_sl ([.ref a0, .int x1, .int x2]) ++ List.replicate (5 - (lg_sl ([.ref a0, .int x1, .int x2])).length) Slot.unset).toArray = ls at hl ⊢
  have hl : lv_has ls 5 [(0, .ref a0), (1, .int x1), (2, .int x2)] := hl
  unfold kp_Ro_add at hw
  have hw := hw (fun (v3 : Int32) (σ : z_S) => ∀ (H : Heap) (locs : List Loc) (ls : Array Slot), z_G D z_cl z_KT dA Z σ H → va_S (fun q => Z ≤ q) s.heap H locs → lv_has ls 5 [(0, .ref a0), (1, .int x1), (2, .int x2), (3, .int v3)] → W p l e (headSpec ks_Ro_add kr_Ro_add).room s m ([.ref a0, .int x1, .int x2] : List Value).toArray below meth c H locs 0 0 (MQ below (z_Qi D z_cl z_KT dA Z (z_tys dA) z_nw Post) ([.ref a0, .int x1, .int x2] : List Value).toArray s 0 0 (fun q => Z ≤ q)) (F0 m 41 ls []))
  have hw := hw (fun (v3 : Int32) (v4 : Int32) (σ : z_S) => ∀ (H : Heap) (locs : List Loc) (ls : Array Slot), z_G D z_cl z_KT dA Z σ H → va_S (fun q => Z ≤ q) s.heap H locs → lv_has ls 5 [(0, .ref a0), (1, .int x1), (2, .int x2), (3, .int v3), (4, .int v4)] → W p l e (headSpec ks_Ro_add kr_Ro_add).room s m ([.ref a0, .int x1, .int x2] : List Value).toArray below meth c H locs 0 0 (MQ below (z_Qi D z_cl z_KT dA Z (z_tys dA) z_nw Post) ([.ref a0, .int x1, .int x2] : List Value).toArray s 0 0 (fun q => Z ≤ q)) (F0 m 58 ls []))
  have hw := hw (by
    intro v3 σ hw H locs ls hG hS hl
    refine lv_aload_n hx hb kb_Ro_add_41 rfl (lv_at hl 0 rfl) ?_
    obtain ⟨hy, hw⟩ := hw
    refine zr_getI (ci := 4) (f := 402) hx hb hts ki_Ro hown hK hG hy rfl 2 (by decide) (hts _ (List.mem_cons_of_mem _ kw_189)) (fun _ h => h) rfl rfl kb_Ro_add_42 ?_
    refine lv_bipush (v := (100 : Int32)) hx hb kb_Ro_add_45 (by decide) ?_
    refine lv_icmp_lt (tgt := 52) hx hb kb_Ro_add_47 (by decide) (fun hc => ?_) (fun hc => ?_)
    · have hw := hw.1 hc
      refine lv_aload_n hx hb kb_Ro_add_52 rfl (lv_at hl 0 rfl) ?_
      obtain ⟨hy, hw⟩ := hw
      refine zr_getI (ci := 4) (f := 402) hx hb hts ki_Ro hown hK hG hy rfl 2 (by decide) (hts _ (List.mem_cons_of_mem _ kw_189)) (fun _ h => h) rfl rfl kb_Ro_add_53 ?_
      refine lv_istore (lv' := [(4, .int (z_I σ 402 a0)), (0, .ref a0), (1, .int x1), (2, .int x2), (3, .int v3)]) hx hb kb_Ro_add_56 hl (by decide) rfl (fun ls hl => ?_)
      exact hw _ _ _ hG hS (lv_sub hl [1, 2, 3, 4, 0] rfl)
    · have hw := hw.2 hc
      refine lv_iconst (v := (0 : Int32)) hx hb kb_Ro_add_50 (by decide) ?_
      exact zr_iret (free := fun q => Z ≤ q) z_nwN hx hb hr rfl hZ hK hN hG hS hw kb_Ro_add_51 hlocks)
  have hw := hw (by
    intro v3 v4 σ hw H locs ls hG hS hl
    refine lv_iload hx hb kb_Ro_add_58 (lv_at hl 4 rfl) ?_
    refine lv_iload_n hx hb kb_Ro_add_60 rfl (lv_at hl 3 rfl) ?_
    refine lv_icmp_le (tgt := 102) hx hb kb_Ro_add_61 (by decide) (fun hc => ?_) (fun hc => ?_)
    · have hw := hw.1 hc
      refine lv_aload_n hx hb kb_Ro_add_102 rfl (lv_at hl 0 rfl) ?_
      obtain ⟨hy, r103, hrf, hw⟩ := hw
      refine zr_getR (ci := 4) (f := 400) hx hb hts ki_Ro hown hK hG hy rfl 0 (by decide) (hts _ (List.mem_cons_of_mem _ kw_183)) (fun _ h => h) rfl rfl hrf kb_Ro_add_103 ?_
      refine lv_iload_n hx hb kb_Ro_add_106 rfl (lv_at hl 3 rfl) ?_
      refine lv_iload_n hx hb kb_Ro_add_107 rfl (lv_at hl 1 rfl) ?_
      obtain ⟨n108, s108, hy, hi, hw⟩ := hw
      refine zr_iast hx hb hK hG hS 0 hy rfl hi kb_Ro_add_108 (fun H locs hG hS => ?_)
      obtain ⟨σ108, e108⟩ : ∃ z, z = z_sA σ s108 r103 (upd (z_A σ s108 r103) v3.toNatClampNeg x1) := ⟨_, rfl⟩
      rw [← e108] at hG
      have hw := hw _ e108
      refine lv_aload_n hx hb kb_Ro_add_109 rfl (lv_at hl 0 rfl) ?_
      obtain ⟨hy, r110, hrf, hw⟩ := hw
      refine zr_getR (ci := 4) (f := 401) hx hb hts ki_Ro hown hK hG hy rfl 1 (by decide) (hts _ (List.mem_cons_of_mem _ kw_186)) (fun _ h => h) rfl rfl hrf kb_Ro_add_110 ?_
      refine lv_iload_n hx hb kb_Ro_add_113 rfl (lv_at hl 3 rfl) ?_
      refine lv_iload_n hx hb kb_Ro_add_114 rfl (lv_at hl 2 rfl) ?_
      obtain ⟨n115, s115, hy, hi, hw⟩ := hw
      refine zr_iast hx hb hK hG hS 0 hy rfl hi kb_Ro_add_115 (fun H locs hG hS => ?_)
      obtain ⟨σ115, e115⟩ : ∃ z, z = z_sA σ108 s115 r110 (upd (z_A σ108 s115 r110) v3.toNatClampNeg x2) := ⟨_, rfl⟩
      rw [← e115] at hG
      have hw := hw _ e115
      refine lv_aload_n hx hb kb_Ro_add_116 rfl (lv_at hl 0 rfl) ?_
      refine lv_dup hx hb kb_Ro_add_117 rfl ?_
      obtain ⟨hy, hw⟩ := hw
      refine zr_getI (ci := 4) (f := 402) hx hb hts ki_Ro hown hK hG hy rfl 2 (by decide) (hts _ (List.mem_cons_of_mem _ kw_189)) (fun _ h => h) rfl rfl kb_Ro_add_118 ?_
      refine lv_iconst (v := (1 : Int32)) hx hb kb_Ro_add_121 (by decide) ?_
      refine lv_iadd hx hb kb_Ro_add_122 ?_
      obtain ⟨hy, hw⟩ := hw
      refine zr_putI (ci := 4) (f := 402) hx hb hts ki_Ro ky_Ro kyo_Ro kn_Ro hown hK hG hS hy rfl 2 (by decide) (hts _ (List.mem_cons_of_mem _ kw_189)) (fun _ h => h) rfl rfl rfl rfl rfl kb_Ro_add_123 (fun H locs hG hS => ?_)
      obtain ⟨σ123, e123⟩ : ∃ z, z = z_sI σ115 402 a0 ((z_I σ115 402 a0) + ((1 : Int32))) := ⟨_, rfl⟩
      rw [← e123] at hG
      have hw := hw _ e123
      refine lv_iload_n hx hb kb_Ro_add_126 rfl (lv_at hl 2 rfl) ?_
      exact zr_iret (free := fun q => Z ≤ q) z_nwN hx hb hr rfl hZ hK hN hG hS hw kb_Ro_add_127 hlocks
    · have hw := hw.2 hc
      refine lv_aload_n hx hb kb_Ro_add_64 rfl (lv_at hl 0 rfl) ?_
      obtain ⟨hy, r65, hrf, hw⟩ := hw
      refine zr_getR (ci := 4) (f := 400) hx hb hts ki_Ro hown hK hG hy rfl 0 (by decide) (hts _ (List.mem_cons_of_mem _ kw_183)) (fun _ h => h) rfl rfl hrf kb_Ro_add_65 ?_
      refine lv_iload hx hb kb_Ro_add_68 (lv_at hl 4 rfl) ?_
      refine lv_aload_n hx hb kb_Ro_add_70 rfl (lv_at hl 0 rfl) ?_
      obtain ⟨hy, r71, hrf, hw⟩ := hw
      refine zr_getR (ci := 4) (f := 400) hx hb hts ki_Ro hown hK hG hy rfl 0 (by decide) (hts _ (List.mem_cons_of_mem _ kw_183)) (fun _ h => h) rfl rfl hrf kb_Ro_add_71 ?_
      refine lv_iload hx hb kb_Ro_add_74 (lv_at hl 4 rfl) ?_
      refine lv_iconst (v := (1 : Int32)) hx hb kb_Ro_add_76 (by decide) ?_
      refine lv_isub hx hb kb_Ro_add_77 ?_
      obtain ⟨n78, s78, hy, hi, hw⟩ := hw
      refine zr_iald hx hb hK hG 0 hy rfl hi kb_Ro_add_78 ?_
      obtain ⟨n79, s79, hy, hi, hw⟩ := hw
      refine zr_iast hx hb hK hG hS 0 hy rfl hi kb_Ro_add_79 (fun H locs hG hS => ?_)
      obtain ⟨σ79, e79⟩ : ∃ z, z = z_sA σ s79 r65 (upd (z_A σ s79 r65) v4.toNatClampNeg (z_A σ s78 r71 (v4 - ((1 : Int32))).toNatClampNeg)) := ⟨_, rfl⟩
      rw [← e79] at hG
      have hw := hw _ e79
      refine lv_aload_n hx hb kb_Ro_add_80 rfl (lv_at hl 0 rfl) ?_
      obtain ⟨hy, r81, hrf, hw⟩ := hw
      refine zr_getR (ci := 4) (f := 401) hx hb hts ki_Ro hown hK hG hy rfl 1 (by decide) (hts _ (List.mem_cons_of_mem _ kw_186)) (fun _ h => h) rfl rfl hrf kb_Ro_add_81 ?_
      refine lv_iload hx hb kb_Ro_add_84 (lv_at hl 4 rfl) ?_
      refine lv_aload_n hx hb kb_Ro_add_86 rfl (lv_at hl 0 rfl) ?_
      obtain ⟨hy, r87, hrf, hw⟩ := hw
      refine zr_getR (ci := 4) (f := 401) hx hb hts ki_Ro hown hK hG hy rfl 1 (by decide) (hts _ (List.mem_cons_of_mem _ kw_186)) (fun _ h => h) rfl rfl hrf kb_Ro_add_87 ?_
      refine lv_iload hx hb kb_Ro_add_90 (lv_at hl 4 rfl) ?_
      refine lv_iconst (v := (1 : Int32)) hx hb kb_Ro_add_92 (by decide) ?_
      refine lv_isub hx hb kb_Ro_add_93 ?_
      obtain ⟨n94, s94, hy, hi, hw⟩ := hw
      refine zr_iald hx hb hK hG 0 hy rfl hi kb_Ro_add_94 ?_
      obtain ⟨n95, s95, hy, hi, hw⟩ := hw
      refine zr_iast hx hb hK hG hS 0 hy rfl hi kb_Ro_add_95 (fun H locs hG hS => ?_)
      obtain ⟨σ95, e95⟩ : ∃ z, z = z_sA σ79 s95 r81 (upd (z_A σ79 s95 r81) v4.toNatClampNeg (z_A σ79 s94 r87 (v4 - ((1 : Int32))).toNatClampNeg)) := ⟨_, rfl⟩
      rw [← e95] at hG
      have hw := hw _ e95
      refine lv_iinc (v := v4 + (-1 : Int32)) (lv' := [(4, .int (v4 + (-1 : Int32))), (0, .ref a0), (1, .int x1), (2, .int x2), (3, .int v3)]) hx hb kb_Ro_add_96 hl (k := 4) rfl rfl (by decide) rfl (fun ls hl => ?_)
      refine lv_goto (tgt := 58) hx hb kb_Ro_add_99 (by decide) ?_
      exact hw _ _ _ hG hS (lv_sub hl [1, 2, 3, 4, 0] rfl))
  refine lv_aload_n hx hb kb_Ro_add_0 rfl (lv_at hl 0 rfl) ?_
  refine lv_iload_n hx hb kb_Ro_add_1 rfl (lv_at hl 1 rfl) ?_
  obtain ⟨hy, hw⟩ := hw
  refine zr_ci (va_runV (C := kR_Ro) (As := [.int x1]) (rest := []) ⟨hx, hb, hml, hown, hts⟩ (kc_Ro_seek l D dA Z a0 x1 σ _) ⟨callB_of 1 hts (z_gw kw_421) rfl rfl rfl (hts _ (List.mem_cons_of_mem _ kw_8)) (hts _ (List.mem_cons_of_mem _ kw_418)) (by decide +kernel) ⟨Nat.le_of_ble_eq_true rfl, Nat.le_of_ble_eq_true rfl⟩, (hts _ (List.mem_cons_of_mem _ kw_419)), (hts _ (List.mem_cons_of_mem _ kw_420))⟩ (z_preV z_nwN (Nat.le_trans hZ hS.1) hG hK hN hy (ci := 4) (r := (kR_Ro, kT_Ro, 3)) rfl hw) rfl rfl hl.1 rfl (lv_room (Nat.le_of_ble_eq_true rfl)) kb_Ro_add_2 ⟨Nat.le_of_ble_eq_true rfl, Nat.le_of_ble_eq_true rfl⟩) hS (fun r2 σ2 H locs hw hG hS => ?_)
  refine lv_istore_n (lv' := [(3, .int r2), (0, .ref a0), (1, .int x1), (2, .int x2)]) hx hb kb_Ro_add_5 rfl hl (by decide) rfl (fun ls hl => ?_)
  refine lv_iload_n hx hb kb_Ro_add_6 rfl (lv_at hl 0 rfl) ?_
  refine lv_aload_n hx hb kb_Ro_add_7 rfl (lv_at hl 1 rfl) ?_
  obtain ⟨hy, hw⟩ := hw
  refine zr_getI (ci := 4) (f := 402) hx hb hts ki_Ro hown hK hG hy rfl 2 (by decide) (hts _ (List.mem_cons_of_mem _ kw_189)) (fun _ h => h) rfl rfl kb_Ro_add_8 ?_
  refine lv_icmp_ge (tgt := 41) hx hb kb_Ro_add_11 (by decide) (fun hc => ?_) (fun hc => ?_)
  · have hw := hw.1 hc
    exact hw _ _ _ hG hS (lv_sub hl [1, 2, 3, 0] rfl)
  · have hw := hw.2 hc
    refine lv_aload_n hx hb kb_Ro_add_14 rfl (lv_at hl 1 rfl) ?_
    obtain ⟨hy, r15, hrf, hw⟩ := hw
    refine zr_getR (ci := 4) (f := 400) hx hb hts ki_Ro hown hK hG hy rfl 0 (by decide) (hts _ (List.mem_cons_of_mem _ kw_183)) (fun _ h => h) rfl rfl hrf kb_Ro_add_15 ?_
    refine lv_iload_n hx hb kb_Ro_add_18 rfl (lv_at hl 0 rfl) ?_
    obtain ⟨n19, s19, hy, hi, hw⟩ := hw
    refine zr_iald hx hb hK hG 0 hy rfl hi kb_Ro_add_19 ?_
    refine lv_iload_n hx hb kb_Ro_add_20 rfl (lv_at hl 2 rfl) ?_
    refine lv_icmp_ne (tgt := 41) hx hb kb_Ro_add_21 (by decide) (fun hc => ?_) (fun hc => ?_)
    · have hw := hw.1 hc
      exact hw _ _ _ hG hS (lv_sub hl [1, 2, 3, 0] rfl)
    · have hw := hw.2 hc
      refine lv_aload_n hx hb kb_Ro_add_24 rfl (lv_at hl 1 rfl) ?_
      obtain ⟨hy, r25, hrf, hw⟩ := hw
      refine zr_getR (ci := 4) (f := 401) hx hb hts ki_Ro hown hK hG hy rfl 1 (by decide) (hts _ (List.mem_cons_of_mem _ kw_186)) (fun _ h => h) rfl rfl hrf kb_Ro_add_25 ?_
      refine lv_iload_n hx hb kb_Ro_add_28 rfl (lv_at hl 0 rfl) ?_
      refine lv_dup2_11 hx hb kb_Ro_add_29 rfl rfl ?_
      obtain ⟨n30, s30, hy, hi, hw⟩ := hw
      refine zr_iald hx hb hK hG 0 hy rfl hi kb_Ro_add_30 ?_
      refine lv_iload_n hx hb kb_Ro_add_31 rfl (lv_at hl 3 rfl) ?_
      refine lv_iadd hx hb kb_Ro_add_32 ?_
      obtain ⟨n33, s33, hy, hi, hw⟩ := hw
      refine zr_iast hx hb hK hG hS 0 hy rfl hi kb_Ro_add_33 (fun H locs hG hS => ?_)
      obtain ⟨σ33, e33⟩ : ∃ z, z = z_sA σ2 s33 r25 (upd (z_A σ2 s33 r25) r2.toNatClampNeg ((z_A σ2 s30 r25 r2.toNatClampNeg) + x2)) := ⟨_, rfl⟩
      rw [← e33] at hG
      have hw := hw _ e33
      refine lv_aload_n hx hb kb_Ro_add_34 rfl (lv_at hl 1 rfl) ?_
      obtain ⟨hy, r35, hrf, hw⟩ := hw
      refine zr_getR (ci := 4) (f := 401) hx hb hts ki_Ro hown hK hG hy rfl 1 (by decide) (hts _ (List.mem_cons_of_mem _ kw_186)) (fun _ h => h) rfl rfl hrf kb_Ro_add_35 ?_
      refine lv_iload_n hx hb kb_Ro_add_38 rfl (lv_at hl 0 rfl) ?_
      obtain ⟨n39, s39, hy, hi, hw⟩ := hw
      refine zr_iald hx hb hK hG 0 hy rfl hi kb_Ro_add_39 ?_
      exact zr_iret (free := fun q => Z ≤ q) z_nwN hx hb hr rfl hZ hK hN hG hS hw kb_Ro_add_40 hlocks
def kp_En_enqueue (a0 : Nat) (x1 : Int32) (x2 : Int32) (σ : z_S) (Post : z_S → Prop) : Prop :=     (z_ty σ a0 = some (.inl 1) ∧ ((((320 : Int32)) ≤ (z_I σ 104 a0) → Post σ) ∧ (¬ ((320 : Int32)) ≤ (z_I σ 104 a0) → z_ty σ a0 = some (.inl 1) ∧ ∃ r11, z_R σ 102 a0 = some r11 ∧ (z_ty σ a0 = some (.inl 1) ∧ (∃ n19 s19, z_ty σ r11 = some (.inr (0, n19, s19)) ∧ vp_in (z_I σ 104 a0) n19 ∧ ∀ σ19, σ19 = z_sA σ s19 r11 (upd (z_A σ s19 r11) (z_I σ 104 a0).toNatClampNeg x1) → z_ty σ19 a0 = some (.inl 1) ∧ ∃ r21, z_R σ19 103 a0 = some r21 ∧ (z_ty σ19 a0 = some (.inl 1) ∧ (∃ n29 s29, z_ty σ19 r21 = some (.inr (0, n29, s29)) ∧ vp_in (z_I σ19 104 a0) n29 ∧ ∀ σ29, σ29 = z_sA σ19 s29 r21 (upd (z_A σ19 s29 r21) (z_I σ19 104 a0).toNatClampNeg x2) → z_ty σ29 a0 = some (.inl 1) ∧ (z_ty σ29 a0 = some (.inl 1) ∧ ∀ σ37, σ37 = z_sI σ29 104 a0 ((z_I σ29 104 a0) + ((1 : Int32))) → Post σ37))))))))
set_option maxHeartbeats 4000000 in
set_option maxRecDepth 100000 in
theorem kc_En_enqueue (l : Launch) (D : va_G) (dA : Nat → ClassId) (Z : Nat) (a0 : Nat) (x1 : Int32) (x2 : Int32) (σ : z_S) (Post : z_S → Prop) : Met l km_En_enqueue ks_En_enqueue kr_En_enqueue (va_Pc [.ref a0, .int x1, .int x2] (fun U => z_U D z_cl z_KT dA Z (z_tys dA) z_nw σ U ∧ kp_En_enqueue  a0 x1 x2 σ Post)) (z_Qv D z_cl z_KT dA Z (z_tys dA) z_nw Post) 0 0 (fun q => Z ≤ q) := by
  refine Met.ofW (cc := prog_3_method_13_code) (maxL := 3) (ret := none) (by decide) rfl ?_
  intro p e s m args below meth c s₁ B hml hv
  obtain ⟨rfl, ⟨hZ, hG, hK, hN⟩, hw⟩ := hv
  have hx := B.exec
  have hb := B.bytes
  have hr := B.returns
  have hts := atoms_spec (ws := ks_En_enqueue) B.pre
  have hown : s.vm.findClass kR_En = some m.cls := findClass_of_methodNamed B.named
  have hlocks := B.notSynchronized
  have hS : va_S (fun q => Z ≤ q) s.heap s.heap [] := va_S.rf
  have hl := lv_entry ([.ref a0, .int x1, .int x2]) (n := 3) (Nat.le_of_ble_eq_true rfl)
  rw [lg_entry_eq]
  generalize (lg_sl ([.ref a0, .int x1, .int x2]) ++ List.replicate (3 - (lg_sl ([.ref a0, .int x1, .int x2])).length) Slot.unset).toArray = ls at hl ⊢
  have hl : lv_has ls 3 [(0, .ref a0), (1, .int x1), (2, .int x2)] := hl
  unfold kp_En_enqueue at hw
  refine lv_aload_n hx hb kb_En_enqueue_0 rfl (lv_at hl 0 rfl) ?_
  obtain ⟨hy, hw⟩ := hw
  refine zr_getI (ci := 1) (f := 104) hx hb hts ki_En hown hK hG hy rfl 4 (by decide) (hts _ (List.mem_cons_of_mem _ kw_159)) (fun _ h => h) rfl rfl kb_En_enqueue_1 ?_
  refine lv_sipush (v := (320 : Int32)) hx hb kb_En_enqueue_4 (by decide) ?_
  refine lv_icmp_ge (tgt := 40) hx hb kb_En_enqueue_7 (by decide) (fun hc => ?_) (fun hc => ?_)
  · have hw := hw.1 hc
    exact zr_vret z_nwN hx hb hr hZ hK hN hG hS hw kb_En_enqueue_40 hlocks
  · have hw := hw.2 hc
    refine lv_aload_n hx hb kb_En_enqueue_10 rfl (lv_at hl 0 rfl) ?_
    obtain ⟨hy, r11, hrf, hw⟩ := hw
    refine zr_getR (ci := 1) (f := 102) hx hb hts ki_En hown hK hG hy rfl 2 (by decide) (hts _ (List.mem_cons_of_mem _ kw_157)) (fun _ h => h) rfl rfl hrf kb_En_enqueue_11 ?_
    refine lv_aload_n hx hb kb_En_enqueue_14 rfl (lv_at hl 0 rfl) ?_
    obtain ⟨hy, hw⟩ := hw
    refine zr_getI (ci := 1) (f := 104) hx hb hts ki_En hown hK hG hy rfl 4 (by decide) (hts _ (List.mem_cons_of_mem _ kw_159)) (fun _ h => h) rfl rfl kb_En_enqueue_15 ?_
    refine lv_iload_n hx hb kb_En_enqueue_18 rfl (lv_at hl 1 rfl) ?_
    obtain ⟨n19, s19, hy, hi, hw⟩ := hw
    refine zr_iast hx hb hK hG hS 0 hy rfl hi kb_En_enqueue_19 (fun H locs hG hS => ?_)
    obtain ⟨σ19, e19⟩ : ∃ z, z = z_sA σ s19 r11 (upd (z_A σ s19 r11) (z_I σ 104 a0).toNatClampNeg x1) := ⟨_, rfl⟩
    rw [← e19] at hG
    have hw := hw _ e19
    refine lv_aload_n hx hb kb_En_enqueue_20 rfl (lv_at hl 0 rfl) ?_
    obtain ⟨hy, r21, hrf, hw⟩ := hw
    refine zr_getR (ci := 1) (f := 103) hx hb hts ki_En hown hK hG hy rfl 3 (by decide) (hts _ (List.mem_cons_of_mem _ kw_158)) (fun _ h => h) rfl rfl hrf kb_En_enqueue_21 ?_
    refine lv_aload_n hx hb kb_En_enqueue_24 rfl (lv_at hl 0 rfl) ?_
    obtain ⟨hy, hw⟩ := hw
    refine zr_getI (ci := 1) (f := 104) hx hb hts ki_En hown hK hG hy rfl 4 (by decide) (hts _ (List.mem_cons_of_mem _ kw_159)) (fun _ h => h) rfl rfl kb_En_enqueue_25 ?_
    refine lv_iload_n hx hb kb_En_enqueue_28 rfl (lv_at hl 2 rfl) ?_
    obtain ⟨n29, s29, hy, hi, hw⟩ := hw
    refine zr_iast hx hb hK hG hS 0 hy rfl hi kb_En_enqueue_29 (fun H locs hG hS => ?_)
    obtain ⟨σ29, e29⟩ : ∃ z, z = z_sA σ19 s29 r21 (upd (z_A σ19 s29 r21) (z_I σ19 104 a0).toNatClampNeg x2) := ⟨_, rfl⟩
    rw [← e29] at hG
    have hw := hw _ e29
    refine lv_aload_n hx hb kb_En_enqueue_30 rfl (lv_at hl 0 rfl) ?_
    refine lv_dup hx hb kb_En_enqueue_31 rfl ?_
    obtain ⟨hy, hw⟩ := hw
    refine zr_getI (ci := 1) (f := 104) hx hb hts ki_En hown hK hG hy rfl 4 (by decide) (hts _ (List.mem_cons_of_mem _ kw_159)) (fun _ h => h) rfl rfl kb_En_enqueue_32 ?_
    refine lv_iconst (v := (1 : Int32)) hx hb kb_En_enqueue_35 (by decide) ?_
    refine lv_iadd hx hb kb_En_enqueue_36 ?_
    obtain ⟨hy, hw⟩ := hw
    refine zr_putI (ci := 1) (f := 104) hx hb hts ki_En ky_En kyo_En kn_En hown hK hG hS hy rfl 4 (by decide) (hts _ (List.mem_cons_of_mem _ kw_159)) (fun _ h => h) rfl rfl rfl rfl rfl kb_En_enqueue_37 (fun H locs hG hS => ?_)
    obtain ⟨σ37, e37⟩ : ∃ z, z = z_sI σ29 104 a0 ((z_I σ29 104 a0) + ((1 : Int32))) := ⟨_, rfl⟩
    rw [← e37] at hG
    have hw := hw _ e37
    exact zr_vret z_nwN hx hb hr hZ hK hN hG hS hw kb_En_enqueue_40 hlocks
def kp_En_isLess (a0 : Nat) (σ : z_S) (Post : Int32 → z_S → Prop) : Prop := ∀ (X4 : Int32 → Int32 → z_S → Prop),
    (∀ (v1 : Int32) (v2 : Int32) (σ : z_S), ((((26 : Int32)) ≤ v2 → Post ((0 : Int32)) σ) ∧ (¬ ((26 : Int32)) ≤ v2 → (((6 : Int32)) ≤ v1 → Post ((0 : Int32)) σ) ∧ (¬ ((6 : Int32)) ≤ v1 → z_ty σ a0 = some (.inl 1) ∧ ∃ r17, z_R σ 110 a0 = some r17 ∧ (z_ty σ r17 = some (.inl 5) ∧ (kp_Vr_isIn (z_I σ 505 r17) v2 σ (fun (r24 : Int32) (σ24 : z_S) => (r24 = 0 → X4 v1 (v2 + (1 : Int32)) σ24) ∧ (¬ r24 = 0 → z_ty σ24 a0 = some (.inl 1) ∧ ∃ r31, z_R σ24 101 a0 = some r31 ∧ (∃ n35 s35, z_ty σ24 r31 = some (.inr (0, n35, s35)) ∧ vp_in v2 n35 ∧ (z_ty σ24 a0 = some (.inl 1) ∧ ∃ r37, z_R σ24 100 a0 = some r37 ∧ (∃ n41 s41, z_ty σ24 r37 = some (.inr (0, n41, s41)) ∧ vp_in v1 n41 ∧ (((z_A σ24 s35 r31 v2.toNatClampNeg) = (z_A σ24 s41 r37 v1.toNatClampNeg) → X4 (v1 + (1 : Int32)) (v2 + (1 : Int32)) σ24) ∧ (¬ (z_A σ24 s35 r31 v2.toNatClampNeg) = (z_A σ24 s41 r37 v1.toNatClampNeg) → z_ty σ24 a0 = some (.inl 1) ∧ ∃ r46, z_R σ24 101 a0 = some r46 ∧ (∃ n50 s50, z_ty σ24 r46 = some (.inr (0, n50, s50)) ∧ vp_in v2 n50 ∧ (z_ty σ24 a0 = some (.inl 1) ∧ ∃ r52, z_R σ24 100 a0 = some r52 ∧ (∃ n56 s56, z_ty σ24 r52 = some (.inr (0, n56, s56)) ∧ vp_in v1 n56 ∧ (((z_A σ24 s56 r52 v1.toNatClampNeg) ≤ (z_A σ24 s50 r46 v2.toNatClampNeg) → Post ((0 : Int32)) σ24) ∧ (¬ (z_A σ24 s56 r52 v1.toNatClampNeg) ≤ (z_A σ24 s50 r46 v2.toNatClampNeg) → Post ((1 : Int32)) σ24))))))))))))))))) → X4 v1 v2 σ) →
    (X4 ((0 : Int32)) ((0 : Int32)) σ)
set_option maxHeartbeats 4000000 in
set_option maxRecDepth 100000 in
theorem kc_En_isLess (l : Launch) (D : va_G) (dA : Nat → ClassId) (Z : Nat) (a0 : Nat) (σ : z_S) (Post : Int32 → z_S → Prop) : Met l km_En_isLess ks_En_isLess kr_En_isLess (va_Pc [.ref a0] (fun U => z_U D z_cl z_KT dA Z (z_tys dA) z_nw σ U ∧ kp_En_isLess  a0 σ Post)) (z_Qi D z_cl z_KT dA Z (z_tys dA) z_nw Post) 0 0 (fun q => Z ≤ q) := by
  refine Met.ofW (cc := prog_3_method_15_code) (maxL := 3) (ret := (some .boolean)) (by decide) rfl ?_
  intro p e s m args below meth c s₁ B hml hv
  obtain ⟨rfl, ⟨hZ, hG, hK, hN⟩, hw⟩ := hv
  have hx := B.exec
  have hb := B.bytes
  have hr := B.returns
  have hts := atoms_spec (ws := ks_En_isLess) B.pre
  have hown : s.vm.findClass kR_En = some m.cls := findClass_of_methodNamed B.named
  have hlocks := B.notSynchronized
  have hS : va_S (fun q => Z ≤ q) s.heap s.heap [] := va_S.rf
  have hl := lv_entry ([.ref a0]) (n := 3) (Nat.le_of_ble_eq_true rfl)
  rw [lg_entry_eq]
  generalize (lg_sl ([.ref a0]) ++ List.replicate (3 - (lg_sl ([.ref a0])).length) Slot.unset).toArray = ls at hl ⊢
  have hl : lv_has ls 3 [(0, .ref a0)] := hl
  unfold kp_En_isLess at hw
  have hw := hw (fun (v1 : Int32) (v2 : Int32) (σ : z_S) => ∀ (H : Heap) (locs : List Loc) (ls : Array Slot), z_G D z_cl z_KT dA Z σ H → va_S (fun q => Z ≤ q) s.heap H locs → lv_has ls 3 [(0, .ref a0), (1, .int v1), (2, .int v2)] → W p l e (headSpec ks_En_isLess kr_En_isLess).room s m ([.ref a0] : List Value).toArray below meth c H locs 0 0 (MQ below (z_Qi D z_cl z_KT dA Z (z_tys dA) z_nw Post) ([.ref a0] : List Value).toArray s 0 0 (fun q => Z ≤ q)) (F0 m 4 ls []))
  have hw := hw (by
    intro v1 v2 σ hw H locs ls hG hS hl
    refine lv_iload_n hx hb kb_En_isLess_4 rfl (lv_at hl 2 rfl) ?_
    refine lv_bipush (v := (26 : Int32)) hx hb kb_En_isLess_5 (by decide) ?_
    refine lv_icmp_ge (tgt := 75) hx hb kb_En_isLess_7 (by decide) (fun hc => ?_) (fun hc => ?_)
    · have hw := hw.1 hc
      refine lv_iconst (v := (0 : Int32)) hx hb kb_En_isLess_75 (by decide) ?_
      exact zr_iret (free := fun q => Z ≤ q) z_nwN hx hb hr rfl hZ hK hN hG hS hw kb_En_isLess_76 hlocks
    · have hw := hw.2 hc
      refine lv_iload_n hx hb kb_En_isLess_10 rfl (lv_at hl 1 rfl) ?_
      refine lv_bipush (v := (6 : Int32)) hx hb kb_En_isLess_11 (by decide) ?_
      refine lv_icmp_ge (tgt := 75) hx hb kb_En_isLess_13 (by decide) (fun hc => ?_) (fun hc => ?_)
      · have hw := hw.1 hc
        refine lv_iconst (v := (0 : Int32)) hx hb kb_En_isLess_75 (by decide) ?_
        exact zr_iret (free := fun q => Z ≤ q) z_nwN hx hb hr rfl hZ hK hN hG hS hw kb_En_isLess_76 hlocks
      · have hw := hw.2 hc
        refine lv_aload_n hx hb kb_En_isLess_16 rfl (lv_at hl 0 rfl) ?_
        obtain ⟨hy, r17, hrf, hw⟩ := hw
        refine zr_getR (ci := 1) (f := 110) hx hb hts ki_En hown hK hG hy rfl 10 (by decide) (hts _ (List.mem_cons_of_mem _ kw_165)) (fun _ h => h) rfl rfl hrf kb_En_isLess_17 ?_
        obtain ⟨hy, hw⟩ := hw
        refine zr_getI (ci := 5) (f := 505) hx hb hts ki_Ru hown hK hG hy rfl 5 (by decide) (hts _ (List.mem_cons_of_mem _ kw_143)) (fun _ h => h) rfl rfl kb_En_isLess_20 ?_
        refine lv_iload_n hx hb kb_En_isLess_23 rfl (lv_at hl 2 rfl) ?_
        refine zr_ci (va_runSN (As := [.int (z_I σ 505 r17), .int v2]) (rest := []) ⟨hx, hb, hml, hown, hts⟩ (kc_Vr_isIn l D dA Z (z_I σ 505 r17) v2 σ _) ⟨va_cnB 2 hts (z_gw kw_309) rfl rfl rfl (hN _ kq_12) (hts _ (List.mem_cons_of_mem _ kw_1)) (by decide +kernel) ⟨Nat.le_of_ble_eq_true rfl, Nat.le_of_ble_eq_true rfl⟩, (hts _ (List.mem_cons_of_mem _ kw_308)), trivial⟩ (z_preS z_nwN (Nat.le_trans hZ hS.1) hG hK hN hw) rfl rfl hl.1 rfl (lv_room (Nat.le_of_ble_eq_true rfl)) kb_En_isLess_24 ⟨Nat.le_of_ble_eq_true rfl, Nat.le_of_ble_eq_true rfl⟩) hS (fun r24 σ24 H locs hw hG hS => ?_)
        refine lv_if_eq (tgt := 69) hx hb kb_En_isLess_27 (by decide) (fun hc => ?_) (fun hc => ?_)
        · have hw := hw.1 hc
          refine lv_iinc (v := v2 + (1 : Int32)) (lv' := [(2, .int (v2 + (1 : Int32))), (0, .ref a0), (1, .int v1)]) hx hb kb_En_isLess_69 hl (k := 2) rfl rfl (by decide) rfl (fun ls hl => ?_)
          refine lv_goto (tgt := 4) hx hb kb_En_isLess_72 (by decide) ?_
          exact hw _ _ _ hG hS (lv_sub hl [1, 2, 0] rfl)
        · have hw := hw.2 hc
          refine lv_aload_n hx hb kb_En_isLess_30 rfl (lv_at hl 0 rfl) ?_
          obtain ⟨hy, r31, hrf, hw⟩ := hw
          refine zr_getR (ci := 1) (f := 101) hx hb hts ki_En hown hK hG hy rfl 1 (by decide) (hts _ (List.mem_cons_of_mem _ kw_156)) (fun _ h => h) rfl rfl hrf kb_En_isLess_31 ?_
          refine lv_iload_n hx hb kb_En_isLess_34 rfl (lv_at hl 2 rfl) ?_
          obtain ⟨n35, s35, hy, hi, hw⟩ := hw
          refine zr_iald hx hb hK hG 0 hy rfl hi kb_En_isLess_35 ?_
          refine lv_aload_n hx hb kb_En_isLess_36 rfl (lv_at hl 0 rfl) ?_
          obtain ⟨hy, r37, hrf, hw⟩ := hw
          refine zr_getR (ci := 1) (f := 100) hx hb hts ki_En hown hK hG hy rfl 0 (by decide) (hts _ (List.mem_cons_of_mem _ kw_154)) (fun _ h => h) rfl rfl hrf kb_En_isLess_37 ?_
          refine lv_iload_n hx hb kb_En_isLess_40 rfl (lv_at hl 1 rfl) ?_
          obtain ⟨n41, s41, hy, hi, hw⟩ := hw
          refine zr_iald hx hb hK hG 0 hy rfl hi kb_En_isLess_41 ?_
          refine lv_icmp_eq (tgt := 66) hx hb kb_En_isLess_42 (by decide) (fun hc => ?_) (fun hc => ?_)
          · have hw := hw.1 hc
            refine lv_iinc (v := v1 + (1 : Int32)) (lv' := [(1, .int (v1 + (1 : Int32))), (0, .ref a0), (2, .int v2)]) hx hb kb_En_isLess_66 hl (k := 1) rfl rfl (by decide) rfl (fun ls hl => ?_)
            refine lv_iinc (v := v2 + (1 : Int32)) (lv' := [(2, .int (v2 + (1 : Int32))), (1, .int (v1 + (1 : Int32))), (0, .ref a0)]) hx hb kb_En_isLess_69 hl (k := 2) rfl rfl (by decide) rfl (fun ls hl => ?_)
            refine lv_goto (tgt := 4) hx hb kb_En_isLess_72 (by decide) ?_
            exact hw _ _ _ hG hS (lv_sub hl [2, 1, 0] rfl)
          · have hw := hw.2 hc
            refine lv_aload_n hx hb kb_En_isLess_45 rfl (lv_at hl 0 rfl) ?_
            obtain ⟨hy, r46, hrf, hw⟩ := hw
            refine zr_getR (ci := 1) (f := 101) hx hb hts ki_En hown hK hG hy rfl 1 (by decide) (hts _ (List.mem_cons_of_mem _ kw_156)) (fun _ h => h) rfl rfl hrf kb_En_isLess_46 ?_
            refine lv_iload_n hx hb kb_En_isLess_49 rfl (lv_at hl 2 rfl) ?_
            obtain ⟨n50, s50, hy, hi, hw⟩ := hw
            refine zr_iald hx hb hK hG 0 hy rfl hi kb_En_isLess_50 ?_
            refine lv_aload_n hx hb kb_En_isLess_51 rfl (lv_at hl 0 rfl) ?_
            obtain ⟨hy, r52, hrf, hw⟩ := hw
            refine zr_getR (ci := 1) (f := 100) hx hb hts ki_En hown hK hG hy rfl 0 (by decide) (hts _ (List.mem_cons_of_mem _ kw_154)) (fun _ h => h) rfl rfl hrf kb_En_isLess_52 ?_
            refine lv_iload_n hx hb kb_En_isLess_55 rfl (lv_at hl 1 rfl) ?_
            obtain ⟨n56, s56, hy, hi, hw⟩ := hw
            refine zr_iald hx hb hK hG 0 hy rfl hi kb_En_isLess_56 ?_
            refine lv_icmp_ge (tgt := 64) hx hb kb_En_isLess_57 (by decide) (fun hc => ?_) (fun hc => ?_)
            · have hw := hw.1 hc
              refine lv_iconst (v := (0 : Int32)) hx hb kb_En_isLess_64 (by decide) ?_
              exact zr_iret (free := fun q => Z ≤ q) z_nwN hx hb hr rfl hZ hK hN hG hS hw kb_En_isLess_65 hlocks
            · have hw := hw.2 hc
              refine lv_iconst (v := (1 : Int32)) hx hb kb_En_isLess_60 (by decide) ?_
              refine lv_goto (tgt := 65) hx hb kb_En_isLess_61 (by decide) ?_
              exact zr_iret (free := fun q => Z ≤ q) z_nwN hx hb hr rfl hZ hK hN hG hS hw kb_En_isLess_65 hlocks)
  refine lv_iconst (v := (0 : Int32)) hx hb kb_En_isLess_0 (by decide) ?_
  refine lv_istore_n (lv' := [(1, .int ((0 : Int32))), (0, .ref a0)]) hx hb kb_En_isLess_1 rfl hl (by decide) rfl (fun ls hl => ?_)
  refine lv_iconst (v := (0 : Int32)) hx hb kb_En_isLess_2 (by decide) ?_
  refine lv_istore_n (lv' := [(2, .int ((0 : Int32))), (1, .int ((0 : Int32))), (0, .ref a0)]) hx hb kb_En_isLess_3 rfl hl (by decide) rfl (fun ls hl => ?_)
  exact hw _ _ _ hG hS (lv_sub hl [2, 1, 0] rfl)
def kp_En_keepValues (a0 : Nat) (σ : z_S) (Post : z_S → Prop) : Prop := ∀ (X4 : Int32 → Int32 → z_S → Prop),
    (∀ (v1 : Int32) (v2 : Int32) (σ : z_S), ((((26 : Int32)) ≤ v2 → Post σ) ∧ (¬ ((26 : Int32)) ≤ v2 → (((6 : Int32)) ≤ v1 → Post σ) ∧ (¬ ((6 : Int32)) ≤ v1 → z_ty σ a0 = some (.inl 1) ∧ ∃ r17, z_R σ 110 a0 = some r17 ∧ (z_ty σ r17 = some (.inl 5) ∧ (kp_Vr_isIn (z_I σ 505 r17) v2 σ (fun (r24 : Int32) (σ24 : z_S) => (r24 = 0 → X4 v1 (v2 + (1 : Int32)) σ24) ∧ (¬ r24 = 0 → z_ty σ24 a0 = some (.inl 1) ∧ ∃ r31, z_R σ24 100 a0 = some r31 ∧ (z_ty σ24 a0 = some (.inl 1) ∧ ∃ r36, z_R σ24 101 a0 = some r36 ∧ (∃ n40 s40, z_ty σ24 r36 = some (.inr (0, n40, s40)) ∧ vp_in v2 n40 ∧ (∃ n41 s41, z_ty σ24 r31 = some (.inr (0, n41, s41)) ∧ vp_in v1 n41 ∧ ∀ σ41, σ41 = z_sA σ24 s41 r31 (upd (z_A σ24 s41 r31) v1.toNatClampNeg (z_A σ24 s40 r36 v2.toNatClampNeg)) → X4 (v1 + (1 : Int32)) (v2 + (1 : Int32)) σ41)))))))))) → X4 v1 v2 σ) →
    (X4 ((0 : Int32)) ((0 : Int32)) σ)
set_option maxHeartbeats 4000000 in
set_option maxRecDepth 100000 in
theorem kc_En_keepValues (l : Launch) (D : va_G) (dA : Nat → ClassId) (Z : Nat) (a0 : Nat) (σ : z_S) (Post : z_S → Prop) : Met l km_En_keepValues ks_En_keepValues kr_En_keepValues (va_Pc [.ref a0] (fun U => z_U D z_cl z_KT dA Z (z_tys dA) z_nw σ U ∧ kp_En_keepValues  a0 σ Post)) (z_Qv D z_cl z_KT dA Z (z_tys dA) z_nw Post) 0 0 (fun q => Z ≤ q) := by
  refine Met.ofW (cc := prog_3_method_16_code) (maxL := 3) (ret := none) (by decide) rfl ?_
  intro p e s m args below meth c s₁ B hml hv
  obtain ⟨rfl, ⟨hZ, hG, hK, hN⟩, hw⟩ := hv
  have hx := B.exec
  have hb := B.bytes
  have hr := B.returns
  have hts := atoms_spec (ws := ks_En_keepValues) B.pre
  have hown : s.vm.findClass kR_En = some m.cls := findClass_of_methodNamed B.named
  have hlocks := B.notSynchronized
  have hS : va_S (fun q => Z ≤ q) s.heap s.heap [] := va_S.rf
  have hl := lv_entry ([.ref a0]) (n := 3) (Nat.le_of_ble_eq_true rfl)
  rw [lg_entry_eq]
  generalize (lg_sl ([.ref a0]) ++ List.replicate (3 - (lg_sl ([.ref a0])).length) Slot.unset).toArray = ls at hl ⊢
  have hl : lv_has ls 3 [(0, .ref a0)] := hl
  unfold kp_En_keepValues at hw
  have hw := hw (fun (v1 : Int32) (v2 : Int32) (σ : z_S) => ∀ (H : Heap) (locs : List Loc) (ls : Array Slot), z_G D z_cl z_KT dA Z σ H → va_S (fun q => Z ≤ q) s.heap H locs → lv_has ls 3 [(0, .ref a0), (1, .int v1), (2, .int v2)] → W p l e (headSpec ks_En_keepValues kr_En_keepValues).room s m ([.ref a0] : List Value).toArray below meth c H locs 0 0 (MQ below (z_Qv D z_cl z_KT dA Z (z_tys dA) z_nw Post) ([.ref a0] : List Value).toArray s 0 0 (fun q => Z ≤ q)) (F0 m 4 ls []))
  have hw := hw (by
    intro v1 v2 σ hw H locs ls hG hS hl
    refine lv_iload_n hx hb kb_En_keepValues_4 rfl (lv_at hl 2 rfl) ?_
    refine lv_bipush (v := (26 : Int32)) hx hb kb_En_keepValues_5 (by decide) ?_
    refine lv_icmp_ge (tgt := 51) hx hb kb_En_keepValues_7 (by decide) (fun hc => ?_) (fun hc => ?_)
    · have hw := hw.1 hc
      exact zr_vret z_nwN hx hb hr hZ hK hN hG hS hw kb_En_keepValues_51 hlocks
    · have hw := hw.2 hc
      refine lv_iload_n hx hb kb_En_keepValues_10 rfl (lv_at hl 1 rfl) ?_
      refine lv_bipush (v := (6 : Int32)) hx hb kb_En_keepValues_11 (by decide) ?_
      refine lv_icmp_ge (tgt := 51) hx hb kb_En_keepValues_13 (by decide) (fun hc => ?_) (fun hc => ?_)
      · have hw := hw.1 hc
        exact zr_vret z_nwN hx hb hr hZ hK hN hG hS hw kb_En_keepValues_51 hlocks
      · have hw := hw.2 hc
        refine lv_aload_n hx hb kb_En_keepValues_16 rfl (lv_at hl 0 rfl) ?_
        obtain ⟨hy, r17, hrf, hw⟩ := hw
        refine zr_getR (ci := 1) (f := 110) hx hb hts ki_En hown hK hG hy rfl 10 (by decide) (hts _ (List.mem_cons_of_mem _ kw_165)) (fun _ h => h) rfl rfl hrf kb_En_keepValues_17 ?_
        obtain ⟨hy, hw⟩ := hw
        refine zr_getI (ci := 5) (f := 505) hx hb hts ki_Ru hown hK hG hy rfl 5 (by decide) (hts _ (List.mem_cons_of_mem _ kw_143)) (fun _ h => h) rfl rfl kb_En_keepValues_20 ?_
        refine lv_iload_n hx hb kb_En_keepValues_23 rfl (lv_at hl 2 rfl) ?_
        refine zr_ci (va_runSN (As := [.int (z_I σ 505 r17), .int v2]) (rest := []) ⟨hx, hb, hml, hown, hts⟩ (kc_Vr_isIn l D dA Z (z_I σ 505 r17) v2 σ _) ⟨va_cnB 2 hts (z_gw kw_309) rfl rfl rfl (hN _ kq_12) (hts _ (List.mem_cons_of_mem _ kw_1)) (by decide +kernel) ⟨Nat.le_of_ble_eq_true rfl, Nat.le_of_ble_eq_true rfl⟩, (hts _ (List.mem_cons_of_mem _ kw_308)), trivial⟩ (z_preS z_nwN (Nat.le_trans hZ hS.1) hG hK hN hw) rfl rfl hl.1 rfl (lv_room (Nat.le_of_ble_eq_true rfl)) kb_En_keepValues_24 ⟨Nat.le_of_ble_eq_true rfl, Nat.le_of_ble_eq_true rfl⟩) hS (fun r24 σ24 H locs hw hG hS => ?_)
        refine lv_if_eq (tgt := 45) hx hb kb_En_keepValues_27 (by decide) (fun hc => ?_) (fun hc => ?_)
        · have hw := hw.1 hc
          refine lv_iinc (v := v2 + (1 : Int32)) (lv' := [(2, .int (v2 + (1 : Int32))), (0, .ref a0), (1, .int v1)]) hx hb kb_En_keepValues_45 hl (k := 2) rfl rfl (by decide) rfl (fun ls hl => ?_)
          refine lv_goto (tgt := 4) hx hb kb_En_keepValues_48 (by decide) ?_
          exact hw _ _ _ hG hS (lv_sub hl [1, 2, 0] rfl)
        · have hw := hw.2 hc
          refine lv_aload_n hx hb kb_En_keepValues_30 rfl (lv_at hl 0 rfl) ?_
          obtain ⟨hy, r31, hrf, hw⟩ := hw
          refine zr_getR (ci := 1) (f := 100) hx hb hts ki_En hown hK hG hy rfl 0 (by decide) (hts _ (List.mem_cons_of_mem _ kw_154)) (fun _ h => h) rfl rfl hrf kb_En_keepValues_31 ?_
          refine lv_iload_n hx hb kb_En_keepValues_34 rfl (lv_at hl 1 rfl) ?_
          refine lv_aload_n hx hb kb_En_keepValues_35 rfl (lv_at hl 0 rfl) ?_
          obtain ⟨hy, r36, hrf, hw⟩ := hw
          refine zr_getR (ci := 1) (f := 101) hx hb hts ki_En hown hK hG hy rfl 1 (by decide) (hts _ (List.mem_cons_of_mem _ kw_156)) (fun _ h => h) rfl rfl hrf kb_En_keepValues_36 ?_
          refine lv_iload_n hx hb kb_En_keepValues_39 rfl (lv_at hl 2 rfl) ?_
          obtain ⟨n40, s40, hy, hi, hw⟩ := hw
          refine zr_iald hx hb hK hG 0 hy rfl hi kb_En_keepValues_40 ?_
          obtain ⟨n41, s41, hy, hi, hw⟩ := hw
          refine zr_iast hx hb hK hG hS 0 hy rfl hi kb_En_keepValues_41 (fun H locs hG hS => ?_)
          obtain ⟨σ41, e41⟩ : ∃ z, z = z_sA σ24 s41 r31 (upd (z_A σ24 s41 r31) v1.toNatClampNeg (z_A σ24 s40 r36 v2.toNatClampNeg)) := ⟨_, rfl⟩
          rw [← e41] at hG
          have hw := hw _ e41
          refine lv_iinc (v := v1 + (1 : Int32)) (lv' := [(1, .int (v1 + (1 : Int32))), (0, .ref a0), (2, .int v2)]) hx hb kb_En_keepValues_42 hl (k := 1) rfl rfl (by decide) rfl (fun ls hl => ?_)
          refine lv_iinc (v := v2 + (1 : Int32)) (lv' := [(2, .int (v2 + (1 : Int32))), (1, .int (v1 + (1 : Int32))), (0, .ref a0)]) hx hb kb_En_keepValues_45 hl (k := 2) rfl rfl (by decide) rfl (fun ls hl => ?_)
          refine lv_goto (tgt := 4) hx hb kb_En_keepValues_48 (by decide) ?_
          exact hw _ _ _ hG hS (lv_sub hl [2, 1, 0] rfl))
  refine lv_iconst (v := (0 : Int32)) hx hb kb_En_keepValues_0 (by decide) ?_
  refine lv_istore_n (lv' := [(1, .int ((0 : Int32))), (0, .ref a0)]) hx hb kb_En_keepValues_1 rfl hl (by decide) rfl (fun ls hl => ?_)
  refine lv_iconst (v := (0 : Int32)) hx hb kb_En_keepValues_2 (by decide) ?_
  refine lv_istore_n (lv' := [(2, .int ((0 : Int32))), (1, .int ((0 : Int32))), (0, .ref a0)]) hx hb kb_En_keepValues_3 rfl hl (by decide) rfl (fun ls hl => ?_)
  exact hw _ _ _ hG hS (lv_sub hl [2, 1, 0] rfl)
def kp_En_found (a0 : Nat) (σ : z_S) (Post : z_S → Prop) : Prop := ∀ (X64 : Int32 → Nat → Int32 → z_S → Prop) (X126 : z_S → Prop),
    (∀ (v2 : Int32) (t0 : Nat) (t1 : Int32) (σ : z_S), (z_ty σ t0 = some (.inl 1) ∧ (t1 = 0 ∨ t1 = 1) ∧ ∀ σ64, σ64 = z_sI σ 108 t0 t1 → z_ty σ64 a0 = some (.inl 1) ∧ ∃ r68, z_R σ64 110 a0 = some r68 ∧ (z_ty σ64 r68 = some (.inl 5) ∧ ((¬ ((z_I σ64 504 r68)) = 0 → Post σ64) ∧ (((z_I σ64 504 r68)) = 0 → z_ty σ64 a0 = some (.inl 1) ∧ ∃ r79, z_R σ64 110 a0 = some r79 ∧ (z_ty σ64 r79 = some (.inl 5) ∧ ∃ r82, z_R σ64 500 r79 = some r82 ∧ (z_ty σ64 r82 = some (.inl 0) ∧ (z_ty σ64 a0 = some (.inl 1) ∧ kp_En_enqueue a0 (z_I σ64 3 r82) v2 σ64 (fun (σ89 : z_S) => Post σ89)))))))) → X64 v2 t0 t1 σ) →
    (∀ (σ : z_S), (z_ty σ a0 = some (.inl 1) ∧ kp_En_keepValues a0 σ (fun (σ127 : z_S) => Post σ127)) → X126 σ) →
    (z_ty σ a0 = some (.inl 1) ∧ ((¬ ((z_I σ 106 a0)) = 0 → z_ty σ a0 = some (.inl 1) ∧ (z_ty σ a0 = some (.inl 1) ∧ ∀ σ100, σ100 = z_sI σ 107 a0 ((z_I σ 107 a0) + ((1 : Int32))) → z_ty σ100 a0 = some (.inl 1) ∧ ((¬ (z_I σ100 106 a0) = ((2 : Int32)) → Post σ100) ∧ ((z_I σ100 106 a0) = ((2 : Int32)) → z_ty σ100 a0 = some (.inl 1) ∧ (((z_I σ100 107 a0) = ((1 : Int32)) → X126 σ100) ∧ (¬ (z_I σ100 107 a0) = ((1 : Int32)) → z_ty σ100 a0 = some (.inl 1) ∧ kp_En_isLess a0 σ100 (fun (r120 : Int32) (σ120 : z_S) => (r120 = 0 → Post σ120) ∧ (¬ r120 = 0 → X126 σ120)))))))) ∧ (((z_I σ 106 a0)) = 0 → z_ty σ a0 = some (.inl 1) ∧ ∃ r8, z_R σ 111 a0 = some r8 ∧ (z_ty σ a0 = some (.inl 1) ∧ ∃ r12, z_R σ 110 a0 = some r12 ∧ (z_ty σ r12 = some (.inl 5) ∧ ∃ r15, z_R σ 500 r12 = some r15 ∧ (z_ty σ r15 = some (.inl 0) ∧ (∃ n21 s21, z_ty σ r8 = some (.inr (9, n21, s21)) ∧ vp_in (z_I σ 3 r15) n21 ∧ ∃ r21, z_Q σ s21 r8 (z_I σ 3 r15).toNatClampNeg = some r21 ∧ (z_ty σ a0 = some (.inl 1) ∧ ∃ r25, z_R σ 110 a0 = some r25 ∧ (z_ty σ r25 = some (.inl 5) ∧ ∃ r28, z_R σ 500 r25 = some r28 ∧ (z_ty σ a0 = some (.inl 1) ∧ kp_En_keyOf a0 r28 σ (fun (r31 : Int32) (σ31 : z_S) => z_ty σ31 r21 = some (.inl 4) ∧ kp_Ro_add r21 r31 ((1 : Int32)) σ31 (fun (r38 : Int32) (σ38 : z_S) => z_ty σ38 r21 = some (.inl 4) ∧ ((((40 : Int32)) < (z_I σ38 402 r21) → X64 r31 a0 ((1 : Int32)) σ38) ∧ (¬ ((40 : Int32)) < (z_I σ38 402 r21) → (r38 ≤ ((999 : Int32)) → X64 r31 a0 ((0 : Int32)) σ38) ∧ (¬ r38 ≤ ((999 : Int32)) → X64 r31 a0 ((1 : Int32)) σ38)))))))))))))))
set_option maxHeartbeats 4000000 in
set_option maxRecDepth 100000 in
theorem kc_En_found (l : Launch) (D : va_G) (dA : Nat → ClassId) (Z : Nat) (a0 : Nat) (σ : z_S) (Post : z_S → Prop) : Met l km_En_found ks_En_found kr_En_found (va_Pc [.ref a0] (fun U => z_U D z_cl z_KT dA Z (z_tys dA) z_nw σ U ∧ kp_En_found  a0 σ Post)) (z_Qv D z_cl z_KT dA Z (z_tys dA) z_nw Post) 0 0 (fun q => Z ≤ q) := by
  refine Met.ofW (cc := prog_3_method_12_code) (maxL := 4) (ret := none) (by decide) rfl ?_
  intro p e s m args below meth c s₁ B hml hv
  obtain ⟨rfl, ⟨hZ, hG, hK, hN⟩, hw⟩ := hv
  have hx := B.exec
  have hb := B.bytes
  have hr := B.returns
  have hts := atoms_spec (ws := ks_En_found) B.pre
  have hown : s.vm.findClass kR_En = some m.cls := findClass_of_methodNamed B.named
  have hlocks := B.notSynchronized
  have hS : va_S (fun q => Z ≤ q) s.heap s.heap [] := va_S.rf
  have hl := lv_entry ([.ref a0]) (n := 4) (Nat.le_of_ble_eq_true rfl)
  rw [lg_entry_eq]
  generalize (lg_sl ([.ref a0]) ++ List.replicate (4 - (lg_sl ([.ref a0])).length) Slot.unset).toArray = ls at hl ⊢
  have hl : lv_has ls 4 [(0, .ref a0)] := hl
  unfold kp_En_found at hw
  have hw := hw (fun (v2 : Int32) (t0 : Nat) (t1 : Int32) (σ : z_S) => ∀ (H : Heap) (locs : List Loc) (ls : Array Slot), z_G D z_cl z_KT dA Z σ H → va_S (fun q => Z ≤ q) s.heap H locs → lv_has ls 4 [(0, .ref a0), (2, .int v2)] → W p l e (headSpec ks_En_found kr_En_found).room s m ([.ref a0] : List Value).toArray below meth c H locs 0 0 (MQ below (z_Qv D z_cl z_KT dA Z (z_tys dA) z_nw Post) ([.ref a0] : List Value).toArray s 0 0 (fun q => Z ≤ q)) (F0 m 64 ls [.int t1, .ref t0]))
  have hw := hw (fun (σ : z_S) => ∀ (H : Heap) (locs : List Loc) (ls : Array Slot), z_G D z_cl z_KT dA Z σ H → va_S (fun q => Z ≤ q) s.heap H locs → lv_has ls 4 [(0, .ref a0)] → W p l e (headSpec ks_En_found kr_En_found).room s m ([.ref a0] : List Value).toArray below meth c H locs 0 0 (MQ below (z_Qv D z_cl z_KT dA Z (z_tys dA) z_nw Post) ([.ref a0] : List Value).toArray s 0 0 (fun q => Z ≤ q)) (F0 m 126 ls []))
  have hw := hw (by
    intro v2 t0 t1 σ hw H locs ls hG hS hl
    obtain ⟨hy, hz, hw⟩ := hw
    refine zr_putI (ci := 1) (f := 108) hx hb hts ki_En ky_En kyo_En kn_En hown hK hG hS hy rfl 8 (by decide) (hts _ (List.mem_cons_of_mem _ kw_163)) (fun _ h => h) rfl (z_bool hz) (z_boolF hz) rfl rfl kb_En_found_64 (fun H locs hG hS => ?_)
    obtain ⟨σ64, e64⟩ : ∃ z, z = z_sI σ 108 t0 t1 := ⟨_, rfl⟩
    rw [← e64] at hG
    have hw := hw _ e64
    refine lv_aload_n hx hb kb_En_found_67 rfl (lv_at hl 0 rfl) ?_
    obtain ⟨hy, r68, hrf, hw⟩ := hw
    refine zr_getR (ci := 1) (f := 110) hx hb hts ki_En hown hK hG hy rfl 10 (by decide) (hts _ (List.mem_cons_of_mem _ kw_165)) (fun _ h => h) rfl rfl hrf kb_En_found_68 ?_
    obtain ⟨hy, hw⟩ := hw
    refine zr_getI (ci := 5) (f := 504) hx hb hts ki_Ru hown hK hG hy rfl 4 (by decide) (hts _ (List.mem_cons_of_mem _ kw_140)) (fun _ h => h) rfl rfl kb_En_found_71 ?_
    refine lv_if_ne (tgt := 92) hx hb kb_En_found_74 (by decide) (fun hc => ?_) (fun hc => ?_)
    · have hw := hw.1 hc
      exact zr_vret z_nwN hx hb hr hZ hK hN hG hS hw kb_En_found_92 hlocks
    · have hw := hw.2 hc
      refine lv_aload_n hx hb kb_En_found_77 rfl (lv_at hl 0 rfl) ?_
      refine lv_aload_n hx hb kb_En_found_78 rfl (lv_at hl 0 rfl) ?_
      obtain ⟨hy, r79, hrf, hw⟩ := hw
      refine zr_getR (ci := 1) (f := 110) hx hb hts ki_En hown hK hG hy rfl 10 (by decide) (hts _ (List.mem_cons_of_mem _ kw_165)) (fun _ h => h) rfl rfl hrf kb_En_found_79 ?_
      obtain ⟨hy, r82, hrf, hw⟩ := hw
      refine zr_getR (ci := 5) (f := 500) hx hb hts ki_Ru hown hK hG hy rfl 0 (by decide) (hts _ (List.mem_cons_of_mem _ kw_128)) (fun _ h => h) rfl rfl hrf kb_En_found_82 ?_
      obtain ⟨hy, hw⟩ := hw
      refine zr_getI (ci := 0) (f := 3) hx hb hts ki_At hown hK hG hy rfl 3 (by decide) (hts _ (List.mem_cons_of_mem _ kw_112)) (fun _ h => h) rfl rfl kb_En_found_85 ?_
      refine lv_iload_n hx hb kb_En_found_88 rfl (lv_at hl 1 rfl) ?_
      obtain ⟨hy, hw⟩ := hw
      refine zr_cv (va_runV (C := kR_En) (As := [.int (z_I σ64 3 r82), .int v2]) (rest := []) ⟨hx, hb, hml, hown, hts⟩ (kc_En_enqueue l D dA Z a0 (z_I σ64 3 r82) v2 σ64 _) ⟨callB_of 2 hts (z_gw kw_431) rfl rfl rfl (hts _ (List.mem_cons_of_mem _ kw_5)) (hts _ (List.mem_cons_of_mem _ kw_429)) (by decide +kernel) ⟨Nat.le_of_ble_eq_true rfl, Nat.le_of_ble_eq_true rfl⟩, (hts _ (List.mem_cons_of_mem _ kw_430)), (hts _ (List.mem_cons_of_mem _ kw_936))⟩ (z_preV z_nwN (Nat.le_trans hZ hS.1) hG hK hN hy (ci := 1) (r := (kR_En, kT_En, 12)) rfl hw) rfl rfl hl.1 rfl (lv_room (Nat.le_of_ble_eq_true rfl)) kb_En_found_89 ⟨Nat.le_of_ble_eq_true rfl, Nat.le_of_ble_eq_true rfl⟩) hS (fun σ89 H locs hw hG hS => ?_)
      exact zr_vret z_nwN hx hb hr hZ hK hN hG hS hw kb_En_found_92 hlocks)
  have hw := hw (by
    intro σ hw H locs ls hG hS hl
    refine lv_aload_n hx hb kb_En_found_126 rfl (lv_at hl 0 rfl) ?_
    obtain ⟨hy, hw⟩ := hw
    refine zr_cv (va_runV (C := kR_En) (As := []) (rest := []) ⟨hx, hb, hml, hown, hts⟩ (kc_En_keepValues l D dA Z a0 σ _) ⟨callB_of 0 hts (z_gw kw_437) rfl rfl rfl (hts _ (List.mem_cons_of_mem _ kw_5)) (hts _ (List.mem_cons_of_mem _ kw_435)) (by decide +kernel) ⟨Nat.le_of_ble_eq_true rfl, Nat.le_of_ble_eq_true rfl⟩, (hts _ (List.mem_cons_of_mem _ kw_436)), (hts _ (List.mem_cons_of_mem _ kw_938))⟩ (z_preV z_nwN (Nat.le_trans hZ hS.1) hG hK hN hy (ci := 1) (r := (kR_En, kT_En, 12)) rfl hw) rfl rfl hl.1 rfl (lv_room (Nat.le_of_ble_eq_true rfl)) kb_En_found_127 ⟨Nat.le_of_ble_eq_true rfl, Nat.le_of_ble_eq_true rfl⟩) hS (fun σ127 H locs hw hG hS => ?_)
    exact zr_vret z_nwN hx hb hr hZ hK hN hG hS hw kb_En_found_130 hlocks)
  refine lv_aload_n hx hb kb_En_found_0 rfl (lv_at hl 0 rfl) ?_
  obtain ⟨hy, hw⟩ := hw
  refine zr_getI (ci := 1) (f := 106) hx hb hts ki_En hown hK hG hy rfl 6 (by decide) (hts _ (List.mem_cons_of_mem _ kw_161)) (fun _ h => h) rfl rfl kb_En_found_1 ?_
  refine lv_if_ne (tgt := 93) hx hb kb_En_found_4 (by decide) (fun hc => ?_) (fun hc => ?_)
  · have hw := hw.1 hc
    refine lv_aload_n hx hb kb_En_found_93 rfl (lv_at hl 0 rfl) ?_
    refine lv_dup hx hb kb_En_found_94 rfl ?_
    obtain ⟨hy, hw⟩ := hw
    refine zr_getI (ci := 1) (f := 107) hx hb hts ki_En hown hK hG hy rfl 7 (by decide) (hts _ (List.mem_cons_of_mem _ kw_162)) (fun _ h => h) rfl rfl kb_En_found_95 ?_
    refine lv_iconst (v := (1 : Int32)) hx hb kb_En_found_98 (by decide) ?_
    refine lv_iadd hx hb kb_En_found_99 ?_
    obtain ⟨hy, hw⟩ := hw
    refine zr_putI (ci := 1) (f := 107) hx hb hts ki_En ky_En kyo_En kn_En hown hK hG hS hy rfl 7 (by decide) (hts _ (List.mem_cons_of_mem _ kw_162)) (fun _ h => h) rfl rfl rfl rfl rfl kb_En_found_100 (fun H locs hG hS => ?_)
    obtain ⟨σ100, e100⟩ : ∃ z, z = z_sI σ 107 a0 ((z_I σ 107 a0) + ((1 : Int32))) := ⟨_, rfl⟩
    rw [← e100] at hG
    have hw := hw _ e100
    refine lv_aload_n hx hb kb_En_found_103 rfl (lv_at hl 0 rfl) ?_
    obtain ⟨hy, hw⟩ := hw
    refine zr_getI (ci := 1) (f := 106) hx hb hts ki_En hown hK hG hy rfl 6 (by decide) (hts _ (List.mem_cons_of_mem _ kw_161)) (fun _ h => h) rfl rfl kb_En_found_104 ?_
    refine lv_iconst (v := (2 : Int32)) hx hb kb_En_found_107 (by decide) ?_
    refine lv_icmp_ne (tgt := 130) hx hb kb_En_found_108 (by decide) (fun hc => ?_) (fun hc => ?_)
    · have hw := hw.1 hc
      exact zr_vret z_nwN hx hb hr hZ hK hN hG hS hw kb_En_found_130 hlocks
    · have hw := hw.2 hc
      refine lv_aload_n hx hb kb_En_found_111 rfl (lv_at hl 0 rfl) ?_
      obtain ⟨hy, hw⟩ := hw
      refine zr_getI (ci := 1) (f := 107) hx hb hts ki_En hown hK hG hy rfl 7 (by decide) (hts _ (List.mem_cons_of_mem _ kw_162)) (fun _ h => h) rfl rfl kb_En_found_112 ?_
      refine lv_iconst (v := (1 : Int32)) hx hb kb_En_found_115 (by decide) ?_
      refine lv_icmp_eq (tgt := 126) hx hb kb_En_found_116 (by decide) (fun hc => ?_) (fun hc => ?_)
      · have hw := hw.1 hc
        exact hw _ _ _ hG hS (lv_sub hl [0] rfl)
      · have hw := hw.2 hc
        refine lv_aload_n hx hb kb_En_found_119 rfl (lv_at hl 0 rfl) ?_
        obtain ⟨hy, hw⟩ := hw
        refine zr_ci (va_runV (C := kR_En) (As := []) (rest := []) ⟨hx, hb, hml, hown, hts⟩ (kc_En_isLess l D dA Z a0 σ100 _) ⟨callB_of 0 hts (z_gw kw_434) rfl rfl rfl (hts _ (List.mem_cons_of_mem _ kw_5)) (hts _ (List.mem_cons_of_mem _ kw_432)) (by decide +kernel) ⟨Nat.le_of_ble_eq_true rfl, Nat.le_of_ble_eq_true rfl⟩, (hts _ (List.mem_cons_of_mem _ kw_433)), (hts _ (List.mem_cons_of_mem _ kw_937))⟩ (z_preV z_nwN (Nat.le_trans hZ hS.1) hG hK hN hy (ci := 1) (r := (kR_En, kT_En, 12)) rfl hw) rfl rfl hl.1 rfl (lv_room (Nat.le_of_ble_eq_true rfl)) kb_En_found_120 ⟨Nat.le_of_ble_eq_true rfl, Nat.le_of_ble_eq_true rfl⟩) hS (fun r120 σ120 H locs hw hG hS => ?_)
        refine lv_if_eq (tgt := 130) hx hb kb_En_found_123 (by decide) (fun hc => ?_) (fun hc => ?_)
        · have hw := hw.1 hc
          exact zr_vret z_nwN hx hb hr hZ hK hN hG hS hw kb_En_found_130 hlocks
        · have hw := hw.2 hc
          exact hw _ _ _ hG hS (lv_sub hl [0] rfl)
  · have hw := hw.2 hc
    refine lv_aload_n hx hb kb_En_found_7 rfl (lv_at hl 0 rfl) ?_
    obtain ⟨hy, r8, hrf, hw⟩ := hw
    refine zr_getR (ci := 1) (f := 111) hx hb hts ki_En hown hK hG hy rfl 11 (by decide) (hts _ (List.mem_cons_of_mem _ kw_166)) (fun _ h => h) rfl rfl hrf kb_En_found_8 ?_
    refine lv_aload_n hx hb kb_En_found_11 rfl (lv_at hl 0 rfl) ?_
    obtain ⟨hy, r12, hrf, hw⟩ := hw
    refine zr_getR (ci := 1) (f := 110) hx hb hts ki_En hown hK hG hy rfl 10 (by decide) (hts _ (List.mem_cons_of_mem _ kw_165)) (fun _ h => h) rfl rfl hrf kb_En_found_12 ?_
    obtain ⟨hy, r15, hrf, hw⟩ := hw
    refine zr_getR (ci := 5) (f := 500) hx hb hts ki_Ru hown hK hG hy rfl 0 (by decide) (hts _ (List.mem_cons_of_mem _ kw_128)) (fun _ h => h) rfl rfl hrf kb_En_found_15 ?_
    obtain ⟨hy, hw⟩ := hw
    refine zr_getI (ci := 0) (f := 3) hx hb hts ki_At hown hK hG hy rfl 3 (by decide) (hts _ (List.mem_cons_of_mem _ kw_112)) (fun _ h => h) rfl rfl kb_En_found_18 ?_
    obtain ⟨n21, s21, hy, hi, r21, hrf, hw⟩ := hw
    refine zr_aald hx hb hK hG 4 (by decide) hy rfl hi hrf kb_En_found_21 ?_
    refine lv_astore_n (lv' := [(1, .ref r21), (0, .ref a0)]) hx hb kb_En_found_22 rfl hl (by decide) rfl (fun ls hl => ?_)
    refine lv_aload_n hx hb kb_En_found_23 rfl (lv_at hl 1 rfl) ?_
    refine lv_aload_n hx hb kb_En_found_24 rfl (lv_at hl 1 rfl) ?_
    obtain ⟨hy, r25, hrf, hw⟩ := hw
    refine zr_getR (ci := 1) (f := 110) hx hb hts ki_En hown hK hG hy rfl 10 (by decide) (hts _ (List.mem_cons_of_mem _ kw_165)) (fun _ h => h) rfl rfl hrf kb_En_found_25 ?_
    obtain ⟨hy, r28, hrf, hw⟩ := hw
    refine zr_getR (ci := 5) (f := 500) hx hb hts ki_Ru hown hK hG hy rfl 0 (by decide) (hts _ (List.mem_cons_of_mem _ kw_128)) (fun _ h => h) rfl rfl hrf kb_En_found_28 ?_
    obtain ⟨hy, hw⟩ := hw
    refine zr_ci (va_runV (C := kR_En) (As := [.ref r28]) (rest := []) ⟨hx, hb, hml, hown, hts⟩ (kc_En_keyOf l D dA Z a0 r28 σ _) ⟨callB_of 1 hts (z_gw kw_407) rfl rfl rfl (hts _ (List.mem_cons_of_mem _ kw_5)) (hts _ (List.mem_cons_of_mem _ kw_405)) (by decide +kernel) ⟨Nat.le_of_ble_eq_true rfl, Nat.le_of_ble_eq_true rfl⟩, (hts _ (List.mem_cons_of_mem _ kw_406)), (hts _ (List.mem_cons_of_mem _ kw_933))⟩ (z_preV z_nwN (Nat.le_trans hZ hS.1) hG hK hN hy (ci := 1) (r := (kR_En, kT_En, 12)) rfl hw) rfl rfl hl.1 rfl (lv_room (Nat.le_of_ble_eq_true rfl)) kb_En_found_31 ⟨Nat.le_of_ble_eq_true rfl, Nat.le_of_ble_eq_true rfl⟩) hS (fun r31 σ31 H locs hw hG hS => ?_)
    refine lv_istore_n (lv' := [(2, .int r31), (1, .ref r21), (0, .ref a0)]) hx hb kb_En_found_34 rfl hl (by decide) rfl (fun ls hl => ?_)
    refine lv_aload_n hx hb kb_En_found_35 rfl (lv_at hl 1 rfl) ?_
    refine lv_iload_n hx hb kb_En_found_36 rfl (lv_at hl 0 rfl) ?_
    refine lv_iconst (v := (1 : Int32)) hx hb kb_En_found_37 (by decide) ?_
    obtain ⟨hy, hw⟩ := hw
    refine zr_ci (va_runV (C := kR_Ro) (As := [.int r31, .int ((1 : Int32))]) (rest := []) ⟨hx, hb, hml, hown, hts⟩ (kc_Ro_add l D dA Z r21 r31 ((1 : Int32)) σ31 _) ⟨callB_of 2 hts (z_gw kw_428) rfl rfl rfl (hts _ (List.mem_cons_of_mem _ kw_8)) (hts _ (List.mem_cons_of_mem _ kw_425)) (by decide +kernel) ⟨Nat.le_of_ble_eq_true rfl, Nat.le_of_ble_eq_true rfl⟩, (hts _ (List.mem_cons_of_mem _ kw_426)), (hts _ (List.mem_cons_of_mem _ kw_427))⟩ (z_preV z_nwN (Nat.le_trans hZ hS.1) hG hK hN hy (ci := 4) (r := (kR_Ro, kT_Ro, 3)) rfl hw) rfl rfl hl.1 rfl (lv_room (Nat.le_of_ble_eq_true rfl)) kb_En_found_38 ⟨Nat.le_of_ble_eq_true rfl, Nat.le_of_ble_eq_true rfl⟩) hS (fun r38 σ38 H locs hw hG hS => ?_)
    refine lv_istore_n (lv' := [(3, .int r38), (2, .int r31), (1, .ref r21), (0, .ref a0)]) hx hb kb_En_found_41 rfl hl (by decide) rfl (fun ls hl => ?_)
    refine lv_aload_n hx hb kb_En_found_42 rfl (lv_at hl 3 rfl) ?_
    refine lv_aload_n hx hb kb_En_found_43 rfl (lv_at hl 2 rfl) ?_
    obtain ⟨hy, hw⟩ := hw
    refine zr_getI (ci := 4) (f := 402) hx hb hts ki_Ro hown hK hG hy rfl 2 (by decide) (hts _ (List.mem_cons_of_mem _ kw_190)) (fun _ h => h) rfl rfl kb_En_found_44 ?_
    refine lv_bipush (v := (40 : Int32)) hx hb kb_En_found_47 (by decide) ?_
    refine lv_icmp_gt (tgt := 59) hx hb kb_En_found_49 (by decide) (fun hc => ?_) (fun hc => ?_)
    · have hw := hw.1 hc
      refine lv_iconst (v := (1 : Int32)) hx hb kb_En_found_59 (by decide) ?_
      refine lv_goto (tgt := 64) hx hb kb_En_found_60 (by decide) ?_
      exact hw _ _ _ hG hS (lv_sub hl [3, 1] rfl)
    · have hw := hw.2 hc
      refine lv_iload_n hx hb kb_En_found_52 rfl (lv_at hl 0 rfl) ?_
      refine lv_sipush (v := (999 : Int32)) hx hb kb_En_found_53 (by decide) ?_
      refine lv_icmp_le (tgt := 63) hx hb kb_En_found_56 (by decide) (fun hc => ?_) (fun hc => ?_)
      · have hw := hw.1 hc
        refine lv_iconst (v := (0 : Int32)) hx hb kb_En_found_63 (by decide) ?_
        exact hw _ _ _ hG hS (lv_sub hl [3, 1] rfl)
      · have hw := hw.2 hc
        refine lv_iconst (v := (1 : Int32)) hx hb kb_En_found_59 (by decide) ?_
        refine lv_goto (tgt := 64) hx hb kb_En_found_60 (by decide) ?_
        exact hw _ _ _ hG hS (lv_sub hl [3, 1] rfl)
def kp_En_holds (a0 : Nat) (b1 : Nat) (σ : z_S) (Post : Int32 → z_S → Prop) : Prop := ∀ (X86 : Int32 → z_S → Prop) (X100 : Int32 → Int32 → z_S → Prop),
    (∀ (t0 : Int32) (σ : z_S), (z_ty σ b1 = some (.inl 0) ∧ ((¬ (z_I σ 4 b1) = ((61 : Int32)) → X100 t0 ((0 : Int32)) σ) ∧ ((z_I σ 4 b1) = ((61 : Int32)) → X100 t0 ((1 : Int32)) σ))) → X86 t0 σ) →
    (∀ (t0 : Int32) (t1 : Int32) (σ : z_S), ((¬ t0 = t1 → Post ((0 : Int32)) σ) ∧ (t0 = t1 → Post ((1 : Int32)) σ)) → X100 t0 t1 σ) →
    (z_ty σ b1 = some (.inl 0) ∧ ((¬ (z_I σ 2 b1) = ((1 : Int32)) → z_ty σ b1 = some (.inl 0) ∧ ∃ r36, z_R σ 0 b1 = some r36 ∧ (∃ n40 s40, z_ty σ r36 = some (.inr (0, n40, s40)) ∧ vp_in ((0 : Int32)) n40 ∧ (z_ty σ a0 = some (.inl 1) ∧ kp_En_valueOf a0 (z_A σ s40 r36 ((0 : Int32)).toNatClampNeg) σ (fun (r41 : Int32) (σ41 : z_S) => z_ty σ41 b1 = some (.inl 0) ∧ ∃ r47, z_R σ41 0 b1 = some r47 ∧ (∃ n51 s51, z_ty σ41 r47 = some (.inr (0, n51, s51)) ∧ vp_in ((1 : Int32)) n51 ∧ (z_ty σ41 a0 = some (.inl 1) ∧ kp_En_valueOf a0 (z_A σ41 s51 r47 ((1 : Int32)).toNatClampNeg) σ41 (fun (r52 : Int32) (σ52 : z_S) => z_ty σ52 b1 = some (.inl 0) ∧ ((¬ (z_I σ52 4 b1) = ((60 : Int32)) → (¬ r41 = r52 → X86 ((0 : Int32)) σ52) ∧ (r41 = r52 → X86 ((1 : Int32)) σ52)) ∧ ((z_I σ52 4 b1) = ((60 : Int32)) → (r52 ≤ r41 → Post ((0 : Int32)) σ52) ∧ (¬ r52 ≤ r41 → Post ((1 : Int32)) σ52)))))))))) ∧ ((z_I σ 2 b1) = ((1 : Int32)) → z_ty σ a0 = some (.inl 1) ∧ ∃ r9, z_R σ 111 a0 = some r9 ∧ (z_ty σ b1 = some (.inl 0) ∧ (∃ n16 s16, z_ty σ r9 = some (.inr (9, n16, s16)) ∧ vp_in (z_I σ 3 b1) n16 ∧ ∃ r16, z_Q σ s16 r9 (z_I σ 3 b1).toNatClampNeg = some r16 ∧ (z_ty σ a0 = some (.inl 1) ∧ kp_En_keyOf a0 b1 σ (fun (r19 : Int32) (σ19 : z_S) => z_ty σ19 r16 = some (.inl 4) ∧ kp_Ro_countOf r16 r19 σ19 (fun (r22 : Int32) (σ22 : z_S) => (¬ r22 = 0 → Post ((0 : Int32)) σ22) ∧ (r22 = 0 → Post ((1 : Int32)) σ22)))))))))
set_option maxHeartbeats 4000000 in
set_option maxRecDepth 100000 in
theorem kc_En_holds (l : Launch) (D : va_G) (dA : Nat → ClassId) (Z : Nat) (a0 : Nat) (b1 : Nat) (σ : z_S) (Post : Int32 → z_S → Prop) : Met l km_En_holds ks_En_holds kr_En_holds (va_Pc [.ref a0, .ref b1] (fun U => z_U D z_cl z_KT dA Z (z_tys dA) z_nw σ U ∧ kp_En_holds  a0 b1 σ Post)) (z_Qi D z_cl z_KT dA Z (z_tys dA) z_nw Post) 0 0 (fun q => Z ≤ q) := by
  refine Met.ofW (cc := prog_3_method_18_code) (maxL := 4) (ret := (some .boolean)) (by decide) rfl ?_
  intro p e s m args below meth c s₁ B hml hv
  obtain ⟨rfl, ⟨hZ, hG, hK, hN⟩, hw⟩ := hv
  have hx := B.exec
  have hb := B.bytes
  have hr := B.returns
  have hts := atoms_spec (ws := ks_En_holds) B.pre
  have hown : s.vm.findClass kR_En = some m.cls := findClass_of_methodNamed B.named
  have hlocks := B.notSynchronized
  have hS : va_S (fun q => Z ≤ q) s.heap s.heap [] := va_S.rf
  have hl := lv_entry ([.ref a0, .ref b1]) (n := 4) (Nat.le_of_ble_eq_true rfl)
  rw [lg_entry_eq]
  generalize (lg_sl ([.ref a0, .ref b1]) ++ List.replicate (4 - (lg_sl ([.ref a0, .ref b1])).length) Slot.unset).toArray = ls at hl ⊢
  have hl : lv_has ls 4 [(0, .ref a0), (1, .ref b1)] := hl
  unfold kp_En_holds at hw
  have hw := hw (fun (t0 : Int32) (σ : z_S) => ∀ (H : Heap) (locs : List Loc) (ls : Array Slot), z_G D z_cl z_KT dA Z σ H → va_S (fun q => Z ≤ q) s.heap H locs → lv_has ls 4 [(1, .ref b1)] → W p l e (headSpec ks_En_holds kr_En_holds).room s m ([.ref a0, .ref b1] : List Value).toArray below meth c H locs 0 0 (MQ below (z_Qi D z_cl z_KT dA Z (z_tys dA) z_nw Post) ([.ref a0, .ref b1] : List Value).toArray s 0 0 (fun q => Z ≤ q)) (F0 m 86 ls [.int t0]))
  have hw := hw (fun (t0 : Int32) (t1 : Int32) (σ : z_S) => ∀ (H : Heap) (locs : List Loc) (ls : Array Slot), z_G D z_cl z_KT dA Z σ H → va_S (fun q => Z ≤ q) s.heap H locs → lv_has ls 4 [] → W p l e (headSpec ks_En_holds kr_En_holds).room s m ([.ref a0, .ref b1] : List Value).toArray below meth c H locs 0 0 (MQ below (z_Qi D z_cl z_KT dA Z (z_tys dA) z_nw Post) ([.ref a0, .ref b1] : List Value).toArray s 0 0 (fun q => Z ≤ q)) (F0 m 100 ls [.int t1, .int t0]))
  have hw := hw (by
    intro t0 σ hw H locs ls hG hS hl
    refine lv_aload_n hx hb kb_En_holds_86 rfl (lv_at hl 0 rfl) ?_
    obtain ⟨hy, hw⟩ := hw
    refine zr_getI (ci := 0) (f := 4) hx hb hts ki_At hown hK hG hy rfl 4 (by decide) (hts _ (List.mem_cons_of_mem _ kw_116)) (fun _ h => h) rfl rfl kb_En_holds_87 ?_
    refine lv_bipush (v := (61 : Int32)) hx hb kb_En_holds_90 (by decide) ?_
    refine lv_icmp_ne (tgt := 99) hx hb kb_En_holds_92 (by decide) (fun hc => ?_) (fun hc => ?_)
    · have hw := hw.1 hc
      refine lv_iconst (v := (0 : Int32)) hx hb kb_En_holds_99 (by decide) ?_
      exact hw _ _ _ hG hS (lv_sub hl [] rfl)
    · have hw := hw.2 hc
      refine lv_iconst (v := (1 : Int32)) hx hb kb_En_holds_95 (by decide) ?_
      refine lv_goto (tgt := 100) hx hb kb_En_holds_96 (by decide) ?_
      exact hw _ _ _ hG hS (lv_sub hl [] rfl))
  have hw := hw (by
    intro t0 t1 σ hw H locs ls hG hS hl
    refine lv_icmp_ne (tgt := 107) hx hb kb_En_holds_100 (by decide) (fun hc => ?_) (fun hc => ?_)
    · have hw := hw.1 hc
      refine lv_iconst (v := (0 : Int32)) hx hb kb_En_holds_107 (by decide) ?_
      exact zr_iret (free := fun q => Z ≤ q) z_nwN hx hb hr rfl hZ hK hN hG hS hw kb_En_holds_108 hlocks
    · have hw := hw.2 hc
      refine lv_iconst (v := (1 : Int32)) hx hb kb_En_holds_103 (by decide) ?_
      refine lv_goto (tgt := 108) hx hb kb_En_holds_104 (by decide) ?_
      exact zr_iret (free := fun q => Z ≤ q) z_nwN hx hb hr rfl hZ hK hN hG hS hw kb_En_holds_108 hlocks)
  refine lv_aload_n hx hb kb_En_holds_0 rfl (lv_at hl 1 rfl) ?_
  obtain ⟨hy, hw⟩ := hw
  refine zr_getI (ci := 0) (f := 2) hx hb hts ki_At hown hK hG hy rfl 2 (by decide) (hts _ (List.mem_cons_of_mem _ kw_110)) (fun _ h => h) rfl rfl kb_En_holds_1 ?_
  refine lv_iconst (v := (1 : Int32)) hx hb kb_En_holds_4 (by decide) ?_
  refine lv_icmp_ne (tgt := 34) hx hb kb_En_holds_5 (by decide) (fun hc => ?_) (fun hc => ?_)
  · have hw := hw.1 hc
    refine lv_aload_n hx hb kb_En_holds_34 rfl (lv_at hl 0 rfl) ?_
    refine lv_aload_n hx hb kb_En_holds_35 rfl (lv_at hl 1 rfl) ?_
    obtain ⟨hy, r36, hrf, hw⟩ := hw
    refine zr_getR (ci := 0) (f := 0) hx hb hts ki_At hown hK hG hy rfl 0 (by decide) (hts _ (List.mem_cons_of_mem _ kw_104)) (fun _ h => h) rfl rfl hrf kb_En_holds_36 ?_
    refine lv_iconst (v := (0 : Int32)) hx hb kb_En_holds_39 (by decide) ?_
    obtain ⟨n40, s40, hy, hi, hw⟩ := hw
    refine zr_iald hx hb hK hG 0 hy rfl hi kb_En_holds_40 ?_
    obtain ⟨hy, hw⟩ := hw
    refine zr_ci (va_runV (C := kR_En) (As := [.int (z_A σ s40 r36 ((0 : Int32)).toNatClampNeg)]) (rest := []) ⟨hx, hb, hml, hown, hts⟩ (kc_En_valueOf l D dA Z a0 (z_A σ s40 r36 ((0 : Int32)).toNatClampNeg) σ _) ⟨callB_of 1 hts (z_gw kw_410) rfl rfl rfl (hts _ (List.mem_cons_of_mem _ kw_5)) (hts _ (List.mem_cons_of_mem _ kw_408)) (by decide +kernel) ⟨Nat.le_of_ble_eq_true rfl, Nat.le_of_ble_eq_true rfl⟩, (hts _ (List.mem_cons_of_mem _ kw_409)), (hts _ (List.mem_cons_of_mem _ kw_934))⟩ (z_preV z_nwN (Nat.le_trans hZ hS.1) hG hK hN hy (ci := 1) (r := (kR_En, kT_En, 12)) rfl hw) rfl rfl hl.1 rfl (lv_room (Nat.le_of_ble_eq_true rfl)) kb_En_holds_41 ⟨Nat.le_of_ble_eq_true rfl, Nat.le_of_ble_eq_true rfl⟩) hS (fun r41 σ41 H locs hw hG hS => ?_)
    refine lv_istore_n (lv' := [(2, .int r41), (0, .ref a0), (1, .ref b1)]) hx hb kb_En_holds_44 rfl hl (by decide) rfl (fun ls hl => ?_)
    refine lv_aload_n hx hb kb_En_holds_45 rfl (lv_at hl 1 rfl) ?_
    refine lv_aload_n hx hb kb_En_holds_46 rfl (lv_at hl 2 rfl) ?_
    obtain ⟨hy, r47, hrf, hw⟩ := hw
    refine zr_getR (ci := 0) (f := 0) hx hb hts ki_At hown hK hG hy rfl 0 (by decide) (hts _ (List.mem_cons_of_mem _ kw_104)) (fun _ h => h) rfl rfl hrf kb_En_holds_47 ?_
    refine lv_iconst (v := (1 : Int32)) hx hb kb_En_holds_50 (by decide) ?_
    obtain ⟨n51, s51, hy, hi, hw⟩ := hw
    refine zr_iald hx hb hK hG 0 hy rfl hi kb_En_holds_51 ?_
    obtain ⟨hy, hw⟩ := hw
    refine zr_ci (va_runV (C := kR_En) (As := [.int (z_A σ41 s51 r47 ((1 : Int32)).toNatClampNeg)]) (rest := []) ⟨hx, hb, hml, hown, hts⟩ (kc_En_valueOf l D dA Z a0 (z_A σ41 s51 r47 ((1 : Int32)).toNatClampNeg) σ41 _) ⟨callB_of 1 hts (z_gw kw_410) rfl rfl rfl (hts _ (List.mem_cons_of_mem _ kw_5)) (hts _ (List.mem_cons_of_mem _ kw_408)) (by decide +kernel) ⟨Nat.le_of_ble_eq_true rfl, Nat.le_of_ble_eq_true rfl⟩, (hts _ (List.mem_cons_of_mem _ kw_409)), (hts _ (List.mem_cons_of_mem _ kw_934))⟩ (z_preV z_nwN (Nat.le_trans hZ hS.1) hG hK hN hy (ci := 1) (r := (kR_En, kT_En, 12)) rfl hw) rfl rfl hl.1 rfl (lv_room (Nat.le_of_ble_eq_true rfl)) kb_En_holds_52 ⟨Nat.le_of_ble_eq_true rfl, Nat.le_of_ble_eq_true rfl⟩) hS (fun r52 σ52 H locs hw hG hS => ?_)
    refine lv_istore_n (lv' := [(3, .int r52), (2, .int r41), (0, .ref a0), (1, .ref b1)]) hx hb kb_En_holds_55 rfl hl (by decide) rfl (fun ls hl => ?_)
    refine lv_aload_n hx hb kb_En_holds_56 rfl (lv_at hl 3 rfl) ?_
    obtain ⟨hy, hw⟩ := hw
    refine zr_getI (ci := 0) (f := 4) hx hb hts ki_At hown hK hG hy rfl 4 (by decide) (hts _ (List.mem_cons_of_mem _ kw_116)) (fun _ h => h) rfl rfl kb_En_holds_57 ?_
    refine lv_bipush (v := (60 : Int32)) hx hb kb_En_holds_60 (by decide) ?_
    refine lv_icmp_ne (tgt := 76) hx hb kb_En_holds_62 (by decide) (fun hc => ?_) (fun hc => ?_)
    · have hw := hw.1 hc
      refine lv_iload_n hx hb kb_En_holds_76 rfl (lv_at hl 1 rfl) ?_
      refine lv_iload_n hx hb kb_En_holds_77 rfl (lv_at hl 0 rfl) ?_
      refine lv_icmp_ne (tgt := 85) hx hb kb_En_holds_78 (by decide) (fun hc => ?_) (fun hc => ?_)
      · have hw := hw.1 hc
        refine lv_iconst (v := (0 : Int32)) hx hb kb_En_holds_85 (by decide) ?_
        exact hw _ _ _ hG hS (lv_sub hl [3] rfl)
      · have hw := hw.2 hc
        refine lv_iconst (v := (1 : Int32)) hx hb kb_En_holds_81 (by decide) ?_
        refine lv_goto (tgt := 86) hx hb kb_En_holds_82 (by decide) ?_
        exact hw _ _ _ hG hS (lv_sub hl [3] rfl)
    · have hw := hw.2 hc
      refine lv_iload_n hx hb kb_En_holds_65 rfl (lv_at hl 1 rfl) ?_
      refine lv_iload_n hx hb kb_En_holds_66 rfl (lv_at hl 0 rfl) ?_
      refine lv_icmp_ge (tgt := 74) hx hb kb_En_holds_67 (by decide) (fun hc => ?_) (fun hc => ?_)
      · have hw := hw.1 hc
        refine lv_iconst (v := (0 : Int32)) hx hb kb_En_holds_74 (by decide) ?_
        exact zr_iret (free := fun q => Z ≤ q) z_nwN hx hb hr rfl hZ hK hN hG hS hw kb_En_holds_75 hlocks
      · have hw := hw.2 hc
        refine lv_iconst (v := (1 : Int32)) hx hb kb_En_holds_70 (by decide) ?_
        refine lv_goto (tgt := 75) hx hb kb_En_holds_71 (by decide) ?_
        exact zr_iret (free := fun q => Z ≤ q) z_nwN hx hb hr rfl hZ hK hN hG hS hw kb_En_holds_75 hlocks
  · have hw := hw.2 hc
    refine lv_aload_n hx hb kb_En_holds_8 rfl (lv_at hl 0 rfl) ?_
    obtain ⟨hy, r9, hrf, hw⟩ := hw
    refine zr_getR (ci := 1) (f := 111) hx hb hts ki_En hown hK hG hy rfl 11 (by decide) (hts _ (List.mem_cons_of_mem _ kw_166)) (fun _ h => h) rfl rfl hrf kb_En_holds_9 ?_
    refine lv_aload_n hx hb kb_En_holds_12 rfl (lv_at hl 1 rfl) ?_
    obtain ⟨hy, hw⟩ := hw
    refine zr_getI (ci := 0) (f := 3) hx hb hts ki_At hown hK hG hy rfl 3 (by decide) (hts _ (List.mem_cons_of_mem _ kw_112)) (fun _ h => h) rfl rfl kb_En_holds_13 ?_
    obtain ⟨n16, s16, hy, hi, r16, hrf, hw⟩ := hw
    refine zr_aald hx hb hK hG 4 (by decide) hy rfl hi hrf kb_En_holds_16 ?_
    refine lv_aload_n hx hb kb_En_holds_17 rfl (lv_at hl 0 rfl) ?_
    refine lv_aload_n hx hb kb_En_holds_18 rfl (lv_at hl 1 rfl) ?_
    obtain ⟨hy, hw⟩ := hw
    refine zr_ci (va_runV (C := kR_En) (As := [.ref b1]) (rest := [.ref r16]) ⟨hx, hb, hml, hown, hts⟩ (kc_En_keyOf l D dA Z a0 b1 σ _) ⟨callB_of 1 hts (z_gw kw_407) rfl rfl rfl (hts _ (List.mem_cons_of_mem _ kw_5)) (hts _ (List.mem_cons_of_mem _ kw_405)) (by decide +kernel) ⟨Nat.le_of_ble_eq_true rfl, Nat.le_of_ble_eq_true rfl⟩, (hts _ (List.mem_cons_of_mem _ kw_406)), (hts _ (List.mem_cons_of_mem _ kw_933))⟩ (z_preV z_nwN (Nat.le_trans hZ hS.1) hG hK hN hy (ci := 1) (r := (kR_En, kT_En, 12)) rfl hw) rfl rfl hl.1 rfl (lv_room (Nat.le_of_ble_eq_true rfl)) kb_En_holds_19 ⟨Nat.le_of_ble_eq_true rfl, Nat.le_of_ble_eq_true rfl⟩) hS (fun r19 σ19 H locs hw hG hS => ?_)
    obtain ⟨hy, hw⟩ := hw
    refine zr_ci (va_runV (C := kR_Ro) (As := [.int r19]) (rest := []) ⟨hx, hb, hml, hown, hts⟩ (kc_Ro_countOf l D dA Z r16 r19 σ19 _) ⟨callB_of 1 hts (z_gw kw_417) rfl rfl rfl (hts _ (List.mem_cons_of_mem _ kw_8)) (hts _ (List.mem_cons_of_mem _ kw_414)) (by decide +kernel) ⟨Nat.le_of_ble_eq_true rfl, Nat.le_of_ble_eq_true rfl⟩, (hts _ (List.mem_cons_of_mem _ kw_415)), (hts _ (List.mem_cons_of_mem _ kw_416))⟩ (z_preV z_nwN (Nat.le_trans hZ hS.1) hG hK hN hy (ci := 4) (r := (kR_Ro, kT_Ro, 3)) rfl hw) rfl rfl hl.1 rfl (lv_room (Nat.le_of_ble_eq_true rfl)) kb_En_holds_22 ⟨Nat.le_of_ble_eq_true rfl, Nat.le_of_ble_eq_true rfl⟩) hS (fun r22 σ22 H locs hw hG hS => ?_)
    refine lv_if_ne (tgt := 32) hx hb kb_En_holds_25 (by decide) (fun hc => ?_) (fun hc => ?_)
    · have hw := hw.1 hc
      refine lv_iconst (v := (0 : Int32)) hx hb kb_En_holds_32 (by decide) ?_
      exact zr_iret (free := fun q => Z ≤ q) z_nwN hx hb hr rfl hZ hK hN hG hS hw kb_En_holds_33 hlocks
    · have hw := hw.2 hc
      refine lv_iconst (v := (1 : Int32)) hx hb kb_En_holds_28 (by decide) ?_
      refine lv_goto (tgt := 33) hx hb kb_En_holds_29 (by decide) ?_
      exact zr_iret (free := fun q => Z ≤ q) z_nwN hx hb hr rfl hZ hK hN hG hS hw kb_En_holds_33 hlocks
def kp_En_isKnown (a0 : Nat) (x1 : Int32) (σ : z_S) (Post : Int32 → z_S → Prop) : Prop :=     ((0 ≤ x1 → Post ((1 : Int32)) σ) ∧ (¬ 0 ≤ x1 → z_ty σ a0 = some (.inl 1) ∧ (kp_Vr_isIn (z_I σ 105 a0) (((-1 : Int32)) - x1) σ (fun (r11 : Int32) (σ11 : z_S) => (r11 = 0 → Post ((0 : Int32)) σ11) ∧ (¬ r11 = 0 → Post ((1 : Int32)) σ11)))))
set_option maxHeartbeats 4000000 in
set_option maxRecDepth 100000 in
theorem kc_En_isKnown (l : Launch) (D : va_G) (dA : Nat → ClassId) (Z : Nat) (a0 : Nat) (x1 : Int32) (σ : z_S) (Post : Int32 → z_S → Prop) : Met l km_En_isKnown ks_En_isKnown kr_En_isKnown (va_Pc [.ref a0, .int x1] (fun U => z_U D z_cl z_KT dA Z (z_tys dA) z_nw σ U ∧ kp_En_isKnown  a0 x1 σ Post)) (z_Qi D z_cl z_KT dA Z (z_tys dA) z_nw Post) 0 0 (fun q => Z ≤ q) := by
  refine Met.ofW (cc := prog_3_method_20_code) (maxL := 2) (ret := (some .boolean)) (by decide) rfl ?_
  intro p e s m args below meth c s₁ B hml hv
  obtain ⟨rfl, ⟨hZ, hG, hK, hN⟩, hw⟩ := hv
  have hx := B.exec
  have hb := B.bytes
  have hr := B.returns
  have hts := atoms_spec (ws := ks_En_isKnown) B.pre
  have hown : s.vm.findClass kR_En = some m.cls := findClass_of_methodNamed B.named
  have hlocks := B.notSynchronized
  have hS : va_S (fun q => Z ≤ q) s.heap s.heap [] := va_S.rf
  have hl := lv_entry ([.ref a0, .int x1]) (n := 2) (Nat.le_of_ble_eq_true rfl)
  rw [lg_entry_eq]
  generalize (lg_sl ([.ref a0, .int x1]) ++ List.replicate (2 - (lg_sl ([.ref a0, .int x1])).length) Slot.unset).toArray = ls at hl ⊢
  have hl : lv_has ls 2 [(0, .ref a0), (1, .int x1)] := hl
  unfold kp_En_isKnown at hw
  refine lv_iload_n hx hb kb_En_isKnown_0 rfl (lv_at hl 1 rfl) ?_
  refine lv_if_ge (tgt := 17) hx hb kb_En_isKnown_1 (by decide) (fun hc => ?_) (fun hc => ?_)
  · have hw := hw.1 hc
    refine lv_iconst (v := (1 : Int32)) hx hb kb_En_isKnown_17 (by decide) ?_
    refine lv_goto (tgt := 22) hx hb kb_En_isKnown_18 (by decide) ?_
    exact zr_iret (free := fun q => Z ≤ q) z_nwN hx hb hr rfl hZ hK hN hG hS hw kb_En_isKnown_22 hlocks
  · have hw := hw.2 hc
    refine lv_aload_n hx hb kb_En_isKnown_4 rfl (lv_at hl 0 rfl) ?_
    obtain ⟨hy, hw⟩ := hw
    refine zr_getI (ci := 1) (f := 105) hx hb hts ki_En hown hK hG hy rfl 5 (by decide) (hts _ (List.mem_cons_of_mem _ kw_160)) (fun _ h => h) rfl rfl kb_En_isKnown_5 ?_
    refine lv_iconst (v := (-1 : Int32)) hx hb kb_En_isKnown_8 (by decide) ?_
    refine lv_iload_n hx hb kb_En_isKnown_9 rfl (lv_at hl 1 rfl) ?_
    refine lv_isub hx hb kb_En_isKnown_10 ?_
    refine zr_ci (va_runSN (As := [.int (z_I σ 105 a0), .int (((-1 : Int32)) - x1)]) (rest := []) ⟨hx, hb, hml, hown, hts⟩ (kc_Vr_isIn l D dA Z (z_I σ 105 a0) (((-1 : Int32)) - x1) σ _) ⟨va_cnB 2 hts (z_gw kw_309) rfl rfl rfl (hN _ kq_12) (hts _ (List.mem_cons_of_mem _ kw_1)) (by decide +kernel) ⟨Nat.le_of_ble_eq_true rfl, Nat.le_of_ble_eq_true rfl⟩, (hts _ (List.mem_cons_of_mem _ kw_308)), trivial⟩ (z_preS z_nwN (Nat.le_trans hZ hS.1) hG hK hN hw) rfl rfl hl.1 rfl (lv_room (Nat.le_of_ble_eq_true rfl)) kb_En_isKnown_11 ⟨Nat.le_of_ble_eq_true rfl, Nat.le_of_ble_eq_true rfl⟩) hS (fun r11 σ11 H locs hw hG hS => ?_)
    refine lv_if_eq (tgt := 21) hx hb kb_En_isKnown_14 (by decide) (fun hc => ?_) (fun hc => ?_)
    · have hw := hw.1 hc
      refine lv_iconst (v := (0 : Int32)) hx hb kb_En_isKnown_21 (by decide) ?_
      exact zr_iret (free := fun q => Z ≤ q) z_nwN hx hb hr rfl hZ hK hN hG hS hw kb_En_isKnown_22 hlocks
    · have hw := hw.2 hc
      refine lv_iconst (v := (1 : Int32)) hx hb kb_En_isKnown_17 (by decide) ?_
      refine lv_goto (tgt := 22) hx hb kb_En_isKnown_18 (by decide) ?_
      exact zr_iret (free := fun q => Z ≤ q) z_nwN hx hb hr rfl hZ hK hN hG hS hw kb_En_isKnown_22 hlocks
def kp_Vr_valueAt (x1 : Int32) (x2 : Int32) (σ : z_S) (Post : Int32 → z_S → Prop) : Prop :=     ((¬ x2 = 0 → (¬ x2 = ((1 : Int32)) → Post (x1 - x1 / ((1000 : Int32)) * ((1000 : Int32))) σ) ∧ (x2 = ((1 : Int32)) → Post ((x1 / ((1000 : Int32))) - (x1 / ((1000 : Int32))) / ((1000 : Int32)) * ((1000 : Int32))) σ)) ∧ (x2 = 0 → Post (x1 / ((1000000 : Int32))) σ))
set_option maxHeartbeats 4000000 in
set_option maxRecDepth 100000 in
theorem kc_Vr_valueAt (l : Launch) (D : va_G) (dA : Nat → ClassId) (Z : Nat) (x1 : Int32) (x2 : Int32) (σ : z_S) (Post : Int32 → z_S → Prop) : Met l km_Vr_valueAt ks_Vr_valueAt kr_Vr_valueAt (va_Pc [.int x1, .int x2] (fun U => z_U D z_cl z_KT dA Z (z_tys dA) z_nw σ U ∧ kp_Vr_valueAt  x1 x2 σ Post)) (z_Qi D z_cl z_KT dA Z (z_tys dA) z_nw Post) 0 0 (fun q => Z ≤ q) := by
  refine Met.ofW (cc := prog_1_method_30_code) (maxL := 2) (ret := (some .int)) (by decide) rfl ?_
  intro p e s m args below meth c s₁ B hml hv
  obtain ⟨rfl, ⟨hZ, hG, hK, hN⟩, hw⟩ := hv
  have hx := B.exec
  have hb := B.bytes
  have hr := B.returns
  have hts := atoms_spec (ws := ks_Vr_valueAt) B.pre
  have hown : s.vm.findClass kR_Vr = some m.cls := findClass_of_methodNamed B.named
  have hlocks := B.notSynchronized
  have hS : va_S (fun q => Z ≤ q) s.heap s.heap [] := va_S.rf
  have hl := lv_entry ([.int x1, .int x2]) (n := 2) (Nat.le_of_ble_eq_true rfl)
  rw [lg_entry_eq]
  generalize (lg_sl ([.int x1, .int x2]) ++ List.replicate (2 - (lg_sl ([.int x1, .int x2])).length) Slot.unset).toArray = ls at hl ⊢
  have hl : lv_has ls 2 [(0, .int x1), (1, .int x2)] := hl
  unfold kp_Vr_valueAt at hw
  refine lv_iload_n hx hb kb_Vr_valueAt_0 rfl (lv_at hl 1 rfl) ?_
  refine lv_if_ne (tgt := 9) hx hb kb_Vr_valueAt_1 (by decide) (fun hc => ?_) (fun hc => ?_)
  · have hw := hw.1 hc
    refine lv_iload_n hx hb kb_Vr_valueAt_9 rfl (lv_at hl 1 rfl) ?_
    refine lv_iconst (v := (1 : Int32)) hx hb kb_Vr_valueAt_10 (by decide) ?_
    refine lv_icmp_ne (tgt := 26) hx hb kb_Vr_valueAt_11 (by decide) (fun hc => ?_) (fun hc => ?_)
    · have hw := hw.1 hc
      refine lv_iload_n hx hb kb_Vr_valueAt_26 rfl (lv_at hl 0 rfl) ?_
      refine lv_sipush (v := (1000 : Int32)) hx hb kb_Vr_valueAt_27 (by decide) ?_
      refine lv_irem hx hb kb_Vr_valueAt_30 (by decide) ?_
      exact zr_iret (free := fun q => Z ≤ q) z_nwN hx hb hr rfl hZ hK hN hG hS hw kb_Vr_valueAt_31 hlocks
    · have hw := hw.2 hc
      refine lv_iload_n hx hb kb_Vr_valueAt_14 rfl (lv_at hl 0 rfl) ?_
      refine lv_sipush (v := (1000 : Int32)) hx hb kb_Vr_valueAt_15 (by decide) ?_
      refine lv_idiv hx hb kb_Vr_valueAt_18 (by decide) ?_
      refine lv_sipush (v := (1000 : Int32)) hx hb kb_Vr_valueAt_19 (by decide) ?_
      refine lv_irem hx hb kb_Vr_valueAt_22 (by decide) ?_
      refine lv_goto (tgt := 31) hx hb kb_Vr_valueAt_23 (by decide) ?_
      exact zr_iret (free := fun q => Z ≤ q) z_nwN hx hb hr rfl hZ hK hN hG hS hw kb_Vr_valueAt_31 hlocks
  · have hw := hw.2 hc
    refine lv_iload_n hx hb kb_Vr_valueAt_4 rfl (lv_at hl 0 rfl) ?_
    refine lv_ldc (v := (1000000 : Int32)) hx hb hown (hts _ (List.mem_cons_of_mem _ kw_413)) kb_Vr_valueAt_5 ?_
    refine lv_idiv hx hb kb_Vr_valueAt_7 (by decide) ?_
    exact zr_iret (free := fun q => Z ≤ q) z_nwN hx hb hr rfl hZ hK hN hG hS hw kb_Vr_valueAt_8 hlocks
def kp_En_matches (a0 : Nat) (b1 : Nat) (x2 : Int32) (σ : z_S) (Post : Int32 → z_S → Prop) : Prop := ∀ (X2 : Int32 → z_S → Prop),
    (∀ (v3 : Int32) (σ : z_S), (z_ty σ b1 = some (.inl 0) ∧ (((z_I σ 1 b1) ≤ v3 → Post ((1 : Int32)) σ) ∧ (¬ (z_I σ 1 b1) ≤ v3 → z_ty σ b1 = some (.inl 0) ∧ ∃ r11, z_R σ 0 b1 = some r11 ∧ (∃ n15 s15, z_ty σ r11 = some (.inr (0, n15, s15)) ∧ vp_in v3 n15 ∧ (kp_Vr_valueAt x2 v3 σ (fun (r20 : Int32) (σ20 : z_S) => z_ty σ20 a0 = some (.inl 1) ∧ kp_En_isKnown a0 (z_A σ s15 r11 v3.toNatClampNeg) σ20 (fun (r28 : Int32) (σ28 : z_S) => (¬ r28 = 0 → z_ty σ28 a0 = some (.inl 1) ∧ kp_En_valueOf a0 (z_A σ s15 r11 v3.toNatClampNeg) σ28 (fun (r66 : Int32) (σ66 : z_S) => (r66 = r20 → X2 (v3 + (1 : Int32)) σ66) ∧ (¬ r66 = r20 → Post ((0 : Int32)) σ66))) ∧ (r28 = 0 → z_ty σ28 a0 = some (.inl 1) ∧ ∃ r35, z_R σ28 101 a0 = some r35 ∧ (∃ n44 s44, z_ty σ28 r35 = some (.inr (0, n44, s44)) ∧ vp_in (((-1 : Int32)) - (z_A σ s15 r11 v3.toNatClampNeg)) n44 ∧ ∀ σ44, σ44 = z_sA σ28 s44 r35 (upd (z_A σ28 s44 r35) (((-1 : Int32)) - (z_A σ s15 r11 v3.toNatClampNeg)).toNatClampNeg r20) → z_ty σ44 a0 = some (.inl 1) ∧ (z_ty σ44 a0 = some (.inl 1) ∧ ∀ σ57, σ57 = z_sI σ44 105 a0 ((z_I σ44 105 a0) ||| (((1 : Int32)) <<< ((((-1 : Int32)) - (z_A σ s15 r11 v3.toNatClampNeg)) &&& 31))) → X2 (v3 + (1 : Int32)) σ57)))))))))) → X2 v3 σ) →
    (X2 ((0 : Int32)) σ)
set_option maxHeartbeats 4000000 in
set_option maxRecDepth 100000 in
theorem kc_En_matches (l : Launch) (D : va_G) (dA : Nat → ClassId) (Z : Nat) (a0 : Nat) (b1 : Nat) (x2 : Int32) (σ : z_S) (Post : Int32 → z_S → Prop) : Met l km_En_matches ks_En_matches kr_En_matches (va_Pc [.ref a0, .ref b1, .int x2] (fun U => z_U D z_cl z_KT dA Z (z_tys dA) z_nw σ U ∧ kp_En_matches  a0 b1 x2 σ Post)) (z_Qi D z_cl z_KT dA Z (z_tys dA) z_nw Post) 0 0 (fun q => Z ≤ q) := by
  refine Met.ofW (cc := prog_3_method_17_code) (maxL := 6) (ret := (some .boolean)) (by decide) rfl ?_
  intro p e s m args below meth c s₁ B hml hv
  obtain ⟨rfl, ⟨hZ, hG, hK, hN⟩, hw⟩ := hv
  have hx := B.exec
  have hb := B.bytes
  have hr := B.returns
  have hts := atoms_spec (ws := ks_En_matches) B.pre
  have hown : s.vm.findClass kR_En = some m.cls := findClass_of_methodNamed B.named
  have hlocks := B.notSynchronized
  have hS : va_S (fun q => Z ≤ q) s.heap s.heap [] := va_S.rf
  have hl := lv_entry ([.ref a0, .ref b1, .int x2]) (n := 6) (Nat.le_of_ble_eq_true rfl)
  rw [lg_entry_eq]
  generalize (lg_sl ([.ref a0, .ref b1, .int x2]) ++ List.replicate (6 - (lg_sl ([.ref a0, .ref b1, .int x2])).length) Slot.unset).toArray = ls at hl ⊢
  have hl : lv_has ls 6 [(0, .ref a0), (1, .ref b1), (2, .int x2)] := hl
  unfold kp_En_matches at hw
  have hw := hw (fun (v3 : Int32) (σ : z_S) => ∀ (H : Heap) (locs : List Loc) (ls : Array Slot), z_G D z_cl z_KT dA Z σ H → va_S (fun q => Z ≤ q) s.heap H locs → lv_has ls 6 [(0, .ref a0), (1, .ref b1), (2, .int x2), (3, .int v3)] → W p l e (headSpec ks_En_matches kr_En_matches).room s m ([.ref a0, .ref b1, .int x2] : List Value).toArray below meth c H locs 0 0 (MQ below (z_Qi D z_cl z_KT dA Z (z_tys dA) z_nw Post) ([.ref a0, .ref b1, .int x2] : List Value).toArray s 0 0 (fun q => Z ≤ q)) (F0 m 2 ls []))
  have hw := hw (by
    intro v3 σ hw H locs ls hG hS hl
    refine lv_iload_n hx hb kb_En_matches_2 rfl (lv_at hl 3 rfl) ?_
    refine lv_aload_n hx hb kb_En_matches_3 rfl (lv_at hl 1 rfl) ?_
    obtain ⟨hy, hw⟩ := hw
    refine zr_getI (ci := 0) (f := 1) hx hb hts ki_At hown hK hG hy rfl 1 (by decide) (hts _ (List.mem_cons_of_mem _ kw_107)) (fun _ h => h) rfl rfl kb_En_matches_4 ?_
    refine lv_icmp_ge (tgt := 82) hx hb kb_En_matches_7 (by decide) (fun hc => ?_) (fun hc => ?_)
    · have hw := hw.1 hc
      refine lv_iconst (v := (1 : Int32)) hx hb kb_En_matches_82 (by decide) ?_
      exact zr_iret (free := fun q => Z ≤ q) z_nwN hx hb hr rfl hZ hK hN hG hS hw kb_En_matches_83 hlocks
    · have hw := hw.2 hc
      refine lv_aload_n hx hb kb_En_matches_10 rfl (lv_at hl 1 rfl) ?_
      obtain ⟨hy, r11, hrf, hw⟩ := hw
      refine zr_getR (ci := 0) (f := 0) hx hb hts ki_At hown hK hG hy rfl 0 (by decide) (hts _ (List.mem_cons_of_mem _ kw_104)) (fun _ h => h) rfl rfl hrf kb_En_matches_11 ?_
      refine lv_iload_n hx hb kb_En_matches_14 rfl (lv_at hl 3 rfl) ?_
      obtain ⟨n15, s15, hy, hi, hw⟩ := hw
      refine zr_iald hx hb hK hG 0 hy rfl hi kb_En_matches_15 ?_
      refine lv_istore (lv' := [(4, .int (z_A σ s15 r11 v3.toNatClampNeg)), (0, .ref a0), (1, .ref b1), (2, .int x2), (3, .int v3)]) hx hb kb_En_matches_16 hl (by decide) rfl (fun ls hl => ?_)
      refine lv_iload_n hx hb kb_En_matches_18 rfl (lv_at hl 3 rfl) ?_
      refine lv_iload_n hx hb kb_En_matches_19 rfl (lv_at hl 4 rfl) ?_
      refine zr_ci (va_runSN (As := [.int x2, .int v3]) (rest := []) ⟨hx, hb, hml, hown, hts⟩ (kc_Vr_valueAt l D dA Z x2 v3 σ _) ⟨va_cnB 2 hts (z_gw kw_450) rfl rfl rfl (hN _ kq_13) (hts _ (List.mem_cons_of_mem _ kw_1)) (by decide +kernel) ⟨Nat.le_of_ble_eq_true rfl, Nat.le_of_ble_eq_true rfl⟩, (hts _ (List.mem_cons_of_mem _ kw_449)), trivial⟩ (z_preS z_nwN (Nat.le_trans hZ hS.1) hG hK hN hw) rfl rfl hl.1 rfl (lv_room (Nat.le_of_ble_eq_true rfl)) kb_En_matches_20 ⟨Nat.le_of_ble_eq_true rfl, Nat.le_of_ble_eq_true rfl⟩) hS (fun r20 σ20 H locs hw hG hS => ?_)
      refine lv_istore (lv' := [(5, .int r20), (4, .int (z_A σ s15 r11 v3.toNatClampNeg)), (0, .ref a0), (1, .ref b1), (2, .int x2), (3, .int v3)]) hx hb kb_En_matches_23 hl (by decide) rfl (fun ls hl => ?_)
      refine lv_aload_n hx hb kb_En_matches_25 rfl (lv_at hl 2 rfl) ?_
      refine lv_iload hx hb kb_En_matches_26 (lv_at hl 1 rfl) ?_
      obtain ⟨hy, hw⟩ := hw
      refine zr_ci (va_runV (C := kR_En) (As := [.int (z_A σ s15 r11 v3.toNatClampNeg)]) (rest := []) ⟨hx, hb, hml, hown, hts⟩ (kc_En_isKnown l D dA Z a0 (z_A σ s15 r11 v3.toNatClampNeg) σ20 _) ⟨callB_of 1 hts (z_gw kw_444) rfl rfl rfl (hts _ (List.mem_cons_of_mem _ kw_5)) (hts _ (List.mem_cons_of_mem _ kw_442)) (by decide +kernel) ⟨Nat.le_of_ble_eq_true rfl, Nat.le_of_ble_eq_true rfl⟩, (hts _ (List.mem_cons_of_mem _ kw_443)), (hts _ (List.mem_cons_of_mem _ kw_940))⟩ (z_preV z_nwN (Nat.le_trans hZ hS.1) hG hK hN hy (ci := 1) (r := (kR_En, kT_En, 12)) rfl hw) rfl rfl hl.1 rfl (lv_room (Nat.le_of_ble_eq_true rfl)) kb_En_matches_28 ⟨Nat.le_of_ble_eq_true rfl, Nat.le_of_ble_eq_true rfl⟩) hS (fun r28 σ28 H locs hw hG hS => ?_)
      refine lv_if_ne (tgt := 63) hx hb kb_En_matches_31 (by decide) (fun hc => ?_) (fun hc => ?_)
      · have hw := hw.1 hc
        refine lv_aload_n hx hb kb_En_matches_63 rfl (lv_at hl 2 rfl) ?_
        refine lv_iload hx hb kb_En_matches_64 (lv_at hl 1 rfl) ?_
        obtain ⟨hy, hw⟩ := hw
        refine zr_ci (va_runV (C := kR_En) (As := [.int (z_A σ s15 r11 v3.toNatClampNeg)]) (rest := []) ⟨hx, hb, hml, hown, hts⟩ (kc_En_valueOf l D dA Z a0 (z_A σ s15 r11 v3.toNatClampNeg) σ28 _) ⟨callB_of 1 hts (z_gw kw_410) rfl rfl rfl (hts _ (List.mem_cons_of_mem _ kw_5)) (hts _ (List.mem_cons_of_mem _ kw_408)) (by decide +kernel) ⟨Nat.le_of_ble_eq_true rfl, Nat.le_of_ble_eq_true rfl⟩, (hts _ (List.mem_cons_of_mem _ kw_409)), (hts _ (List.mem_cons_of_mem _ kw_934))⟩ (z_preV z_nwN (Nat.le_trans hZ hS.1) hG hK hN hy (ci := 1) (r := (kR_En, kT_En, 12)) rfl hw) rfl rfl hl.1 rfl (lv_room (Nat.le_of_ble_eq_true rfl)) kb_En_matches_66 ⟨Nat.le_of_ble_eq_true rfl, Nat.le_of_ble_eq_true rfl⟩) hS (fun r66 σ66 H locs hw hG hS => ?_)
        refine lv_iload hx hb kb_En_matches_69 (lv_at hl 0 rfl) ?_
        refine lv_icmp_eq (tgt := 76) hx hb kb_En_matches_71 (by decide) (fun hc => ?_) (fun hc => ?_)
        · have hw := hw.1 hc
          refine lv_iinc (v := v3 + (1 : Int32)) (lv' := [(3, .int (v3 + (1 : Int32))), (5, .int r20), (4, .int (z_A σ s15 r11 v3.toNatClampNeg)), (0, .ref a0), (1, .ref b1), (2, .int x2)]) hx hb kb_En_matches_76 hl (k := 5) rfl rfl (by decide) rfl (fun ls hl => ?_)
          refine lv_goto (tgt := 2) hx hb kb_En_matches_79 (by decide) ?_
          exact hw _ _ _ hG hS (lv_sub hl [3, 4, 5, 0] rfl)
        · have hw := hw.2 hc
          refine lv_iconst (v := (0 : Int32)) hx hb kb_En_matches_74 (by decide) ?_
          exact zr_iret (free := fun q => Z ≤ q) z_nwN hx hb hr rfl hZ hK hN hG hS hw kb_En_matches_75 hlocks
      · have hw := hw.2 hc
        refine lv_aload_n hx hb kb_En_matches_34 rfl (lv_at hl 2 rfl) ?_
        obtain ⟨hy, r35, hrf, hw⟩ := hw
        refine zr_getR (ci := 1) (f := 101) hx hb hts ki_En hown hK hG hy rfl 1 (by decide) (hts _ (List.mem_cons_of_mem _ kw_156)) (fun _ h => h) rfl rfl hrf kb_En_matches_35 ?_
        refine lv_iconst (v := (-1 : Int32)) hx hb kb_En_matches_38 (by decide) ?_
        refine lv_iload hx hb kb_En_matches_39 (lv_at hl 1 rfl) ?_
        refine lv_isub hx hb kb_En_matches_41 ?_
        refine lv_iload hx hb kb_En_matches_42 (lv_at hl 0 rfl) ?_
        obtain ⟨n44, s44, hy, hi, hw⟩ := hw
        refine zr_iast hx hb hK hG hS 0 hy rfl hi kb_En_matches_44 (fun H locs hG hS => ?_)
        obtain ⟨σ44, e44⟩ : ∃ z, z = z_sA σ28 s44 r35 (upd (z_A σ28 s44 r35) (((-1 : Int32)) - (z_A σ s15 r11 v3.toNatClampNeg)).toNatClampNeg r20) := ⟨_, rfl⟩
        rw [← e44] at hG
        have hw := hw _ e44
        refine lv_aload_n hx hb kb_En_matches_45 rfl (lv_at hl 2 rfl) ?_
        refine lv_dup hx hb kb_En_matches_46 rfl ?_
        obtain ⟨hy, hw⟩ := hw
        refine zr_getI (ci := 1) (f := 105) hx hb hts ki_En hown hK hG hy rfl 5 (by decide) (hts _ (List.mem_cons_of_mem _ kw_160)) (fun _ h => h) rfl rfl kb_En_matches_47 ?_
        refine lv_iconst (v := (1 : Int32)) hx hb kb_En_matches_50 (by decide) ?_
        refine lv_iconst (v := (-1 : Int32)) hx hb kb_En_matches_51 (by decide) ?_
        refine lv_iload hx hb kb_En_matches_52 (lv_at hl 1 rfl) ?_
        refine lv_isub hx hb kb_En_matches_54 ?_
        refine lv_ishl hx hb kb_En_matches_55 ?_
        refine lv_ior hx hb kb_En_matches_56 ?_
        obtain ⟨hy, hw⟩ := hw
        refine zr_putI (ci := 1) (f := 105) hx hb hts ki_En ky_En kyo_En kn_En hown hK hG hS hy rfl 5 (by decide) (hts _ (List.mem_cons_of_mem _ kw_160)) (fun _ h => h) rfl rfl rfl rfl rfl kb_En_matches_57 (fun H locs hG hS => ?_)
        obtain ⟨σ57, e57⟩ : ∃ z, z = z_sI σ44 105 a0 ((z_I σ44 105 a0) ||| (((1 : Int32)) <<< ((((-1 : Int32)) - (z_A σ s15 r11 v3.toNatClampNeg)) &&& 31))) := ⟨_, rfl⟩
        rw [← e57] at hG
        have hw := hw _ e57
        refine lv_goto (tgt := 76) hx hb kb_En_matches_60 (by decide) ?_
        refine lv_iinc (v := v3 + (1 : Int32)) (lv' := [(3, .int (v3 + (1 : Int32))), (5, .int r20), (4, .int (z_A σ s15 r11 v3.toNatClampNeg)), (0, .ref a0), (1, .ref b1), (2, .int x2)]) hx hb kb_En_matches_76 hl (k := 5) rfl rfl (by decide) rfl (fun ls hl => ?_)
        refine lv_goto (tgt := 2) hx hb kb_En_matches_79 (by decide) ?_
        exact hw _ _ _ hG hS (lv_sub hl [3, 4, 5, 0] rfl))
  refine lv_iconst (v := (0 : Int32)) hx hb kb_En_matches_0 (by decide) ?_
  refine lv_istore_n (lv' := [(3, .int ((0 : Int32))), (0, .ref a0), (1, .ref b1), (2, .int x2)]) hx hb kb_En_matches_1 rfl hl (by decide) rfl (fun ls hl => ?_)
  exact hw _ _ _ hG hS (lv_sub hl [1, 2, 3, 0] rfl)
