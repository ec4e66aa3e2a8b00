def kp_Mo_init (a0 : Nat) (σ : z_S) (Post : z_S → Prop) : Prop :=     (∀ q8, z_ty σ q8 = none → ∀ σ8, σ8 = z_arr σ q8 1 600 23 → z_ty σ8 a0 = some (.inl 8) ∧ ∀ σ10, σ10 = z_sR σ8 800 a0 (some q8) → ∀ q17, z_ty σ10 q17 = none → ∀ σ17, σ17 = z_arr σ10 q17 0 602 24 → z_ty σ17 a0 = some (.inl 8) ∧ ∀ σ19, σ19 = z_sR σ17 802 a0 (some q17) → ∀ q26, z_ty σ19 q26 = none → ∀ σ26, σ26 = z_arr σ19 q26 0 602 25 → z_ty σ26 a0 = some (.inl 8) ∧ ∀ σ28, σ28 = z_sR σ26 803 a0 (some q26) → z_ty σ28 a0 = some (.inl 8) ∧ ∀ σ33, σ33 = z_sI σ28 807 a0 ((-1 : Int32)) → ∀ q39, z_ty σ33 q39 = none → ∀ σ39, σ39 = z_arr σ33 q39 0 17 26 → z_ty σ39 a0 = some (.inl 8) ∧ ∀ σ41, σ41 = z_sR σ39 809 a0 (some q39) → ∀ q47, z_ty σ41 q47 = none → ∀ σ47, σ47 = z_arr σ41 q47 0 51 27 → z_ty σ47 a0 = some (.inl 8) ∧ ∀ σ49, σ49 = z_sR σ47 810 a0 (some q47) → ∀ q55, z_ty σ49 q55 = none → ∀ σ55, σ55 = z_arr σ49 q55 0 17 28 → z_ty σ55 a0 = some (.inl 8) ∧ ∀ σ57, σ57 = z_sR σ55 811 a0 (some q55) → ∀ q63, z_ty σ57 q63 = none → ∀ σ63, σ63 = z_arr σ57 q63 0 85 29 → z_ty σ63 a0 = some (.inl 8) ∧ ∀ σ65, σ65 = z_sR σ63 812 a0 (some q63) → ∀ q71, z_ty σ65 q71 = none → ∀ σ71, σ71 = z_arr σ65 q71 0 85 30 → z_ty σ71 a0 = some (.inl 8) ∧ ∀ σ73, σ73 = z_sR σ71 813 a0 (some q71) → ∀ q80, z_ty σ73 q80 = none → ∀ σ80, σ80 = z_arr σ73 q80 0 255 31 → z_ty σ80 a0 = some (.inl 8) ∧ ∀ σ82, σ82 = z_sR σ80 814 a0 (some q80) → ∀ q88, z_ty σ82 q88 = none → ∀ σ88, σ88 = z_arr σ82 q88 2 17 32 → z_ty σ88 a0 = some (.inl 8) ∧ ∀ σ90, σ90 = z_sR σ88 815 a0 (some q88) → ∀ q96, z_ty σ90 q96 = none → ∀ σ96, σ96 = z_arr σ90 q96 0 17 33 → z_ty σ96 a0 = some (.inl 8) ∧ ∀ σ98, σ98 = z_sR σ96 816 a0 (some q96) → ∀ q104, z_ty σ98 q104 = none → ∀ σ104, σ104 = z_arr σ98 q104 0 9 34 → z_ty σ104 a0 = some (.inl 8) ∧ ∀ σ106, σ106 = z_sR σ104 818 a0 (some q104) → ∀ q112, z_ty σ106 q112 = none → ∀ σ112, σ112 = z_arr σ106 q112 0 9 35 → z_ty σ112 a0 = some (.inl 8) ∧ ∀ σ114, σ114 = z_sR σ112 819 a0 (some q112) → ∀ q120, z_ty σ114 q120 = none → ∀ σ120, σ120 = z_arr σ114 q120 2 9 36 → z_ty σ120 a0 = some (.inl 8) ∧ ∀ σ122, σ122 = z_sR σ120 820 a0 (some q120) → ∀ q128, z_ty σ122 q128 = none → ∀ σ128, σ128 = z_arr σ122 q128 0 9 37 → z_ty σ128 a0 = some (.inl 8) ∧ ∀ σ130, σ130 = z_sR σ128 821 a0 (some q128) → ∀ q136, z_ty σ130 q136 = none → ∀ σ136, σ136 = z_arr σ130 q136 2 64 38 → z_ty σ136 a0 = some (.inl 8) ∧ ∀ σ138, σ138 = z_sR σ136 822 a0 (some q136) → ∀ q144, z_ty σ138 q144 = none → ∀ σ144, σ144 = z_arr σ138 q144 2 8 39 → z_ty σ144 a0 = some (.inl 8) ∧ ∀ σ146, σ146 = z_sR σ144 823 a0 (some q144) → ∀ q153, z_ty σ146 q153 = none → ∀ σ153, σ153 = z_arr σ146 q153 0 960 40 → z_ty σ153 a0 = some (.inl 8) ∧ ∀ σ155, σ155 = z_sR σ153 824 a0 (some q153) → ∀ q162, z_ty σ155 q162 = none → ∀ σ162, σ162 = z_arr σ155 q162 0 320 41 → z_ty σ162 a0 = some (.inl 8) ∧ ∀ σ164, σ164 = z_sR σ162 825 a0 (some q162) → ∀ q170, z_ty σ164 q170 = none → ∀ σ170, σ170 = z_arr σ164 q170 0 8 42 → z_ty σ170 a0 = some (.inl 8) ∧ ∀ σ172, σ172 = z_sR σ170 826 a0 (some q170) → ∀ q179, z_ty σ172 q179 = none → ∀ σ179, σ179 = z_arr σ172 q179 0 960 43 → z_ty σ179 a0 = some (.inl 8) ∧ ∀ σ181, σ181 = z_sR σ179 827 a0 (some q179) → ∀ q188, z_ty σ181 q188 = none → ∀ σ188, σ188 = z_arr σ181 q188 0 320 44 → z_ty σ188 a0 = some (.inl 8) ∧ ∀ σ190, σ190 = z_sR σ188 828 a0 (some q188) → ∀ q196, z_ty σ190 q196 = none → ∀ σ196, σ196 = z_arr σ190 q196 0 8 45 → z_ty σ196 a0 = some (.inl 8) ∧ ∀ σ198, σ198 = z_sR σ196 829 a0 (some q196) → ∀ q205, z_ty σ198 q205 = none → ∀ σ205, σ205 = z_arr σ198 q205 0 300 46 → z_ty σ205 a0 = some (.inl 8) ∧ ∀ σ207, σ207 = z_sR σ205 830 a0 (some q205) → ∀ q214, z_ty σ207 q214 = none → ∀ σ214, σ214 = z_arr σ207 q214 0 1800 47 → z_ty σ214 a0 = some (.inl 8) ∧ ∀ σ216, σ216 = z_sR σ214 832 a0 (some q214) → ∀ q222, z_ty σ216 q222 = none → ∀ σ222, σ222 = z_arr σ216 q222 0 6 48 → z_ty σ222 a0 = some (.inl 8) ∧ ∀ σ224, σ224 = z_sR σ222 833 a0 (some q222) → ∀ q231, z_ty σ224 q231 = none → ∀ σ231, σ231 = z_arr σ224 q231 0 3300 49 → z_ty σ231 a0 = some (.inl 8) ∧ ∀ σ233, σ233 = z_sR σ231 835 a0 (some q231) → ∀ q239, z_ty σ233 q239 = none → ∀ σ239, σ239 = z_arr σ233 q239 0 104 50 → z_ty σ239 a0 = some (.inl 8) ∧ ∀ σ241, σ241 = z_sR σ239 837 a0 (some q239) → ∀ q246, z_ty σ241 q246 = none → ∀ σ246, σ246 = z_arr σ241 q246 0 4 51 → z_ty σ246 a0 = some (.inl 8) ∧ ∀ σ248, σ248 = z_sR σ246 838 a0 (some q246) → ∀ q253, z_ty σ248 q253 = none → ∀ σ253, σ253 = z_arr σ248 q253 0 3 52 → z_ty σ253 a0 = some (.inl 8) ∧ ∀ σ255, σ255 = z_sR σ253 839 a0 (some q253) → ∀ q261, z_ty σ255 q261 = none → ∀ σ261, σ261 = z_arr σ255 q261 0 120 53 → z_ty σ261 a0 = some (.inl 8) ∧ ∀ σ263, σ263 = z_sR σ261 843 a0 (some q261) → ∀ q269, z_ty σ263 q269 = none → ∀ σ269, σ269 = z_arr σ263 q269 0 40 54 → z_ty σ269 a0 = some (.inl 8) ∧ ∀ σ271, σ271 = z_sR σ269 844 a0 (some q269) → ∀ q278, z_ty σ271 q278 = none → ∀ σ278, σ278 = z_arr σ271 q278 0 300 55 → z_ty σ278 a0 = some (.inl 8) ∧ ∀ σ280, σ280 = z_sR σ278 846 a0 (some q278) → ∀ q286, z_ty σ280 q286 = none → ∀ σ286, σ286 = z_arr σ280 q286 0 8 56 → z_ty σ286 a0 = some (.inl 8) ∧ ∀ σ288, σ288 = z_sR σ286 848 a0 (some q286) → ∀ q294, z_ty σ288 q294 = none → ∀ σ294, σ294 = z_arr σ288 q294 0 26 57 → z_ty σ294 a0 = some (.inl 8) ∧ ∀ σ296, σ296 = z_sR σ294 850 a0 (some q294) → Post σ296)
set_option maxHeartbeats 4000000 in
set_option maxRecDepth 100000 in
theorem kc_Mo_init (l : Launch) (D : va_G) (dA : Nat → ClassId) (Z : Nat) (a0 : Nat) (σ : z_S) (Post : z_S → Prop) : Met l km_Mo_init ks_Mo_init kr_Mo_init (va_Pc [.ref a0] (fun U => z_U D z_cl z_KT dA Z (z_tys dA) z_nw σ U ∧ kp_Mo_init  a0 σ Post)) (z_Qv D z_cl z_KT dA Z (z_tys dA) z_nw Post) 35 11043 (fun q => Z ≤ q) := by
  refine Met.ofW (cc := prog_10_method_1_code) (maxL := 1) (ret := none) (by decide) rfl ?_
  intro p e s m args below meth c s₁ B hml hv
  obtain ⟨rfl, ⟨hZ, hG, hK, hN⟩, hw⟩ := hv
  have hx := B.exec
  have hb := B.bytes
  have hr := B.returns
  have hts := atoms_spec (ws := ks_Mo_init) B.pre
  have hown : s.vm.findClass kR_Mo = some m.cls := findClass_of_methodNamed B.named
  have hlocks := B.notSynchronized
  have hin : meth.name = "<init>" := (name_of_methodNamed B.named B.method).1
  have hS : va_S (fun q => Z ≤ q) s.heap s.heap [] := va_S.rf
  have hl := lv_entry ([.ref a0]) (n := 1) (Nat.le_of_ble_eq_true rfl)
  rw [lg_entry_eq]
  generalize (lg_sl ([.ref a0]) ++ List.replicate (1 - (lg_sl ([.ref a0])).length) Slot.unset).toArray = ls at hl ⊢
  have hl : lv_has ls 1 [(0, .ref a0)] := hl
  unfold kp_Mo_init at hw
  refine lv_aload_n hx hb kb_Mo_init_0 rfl (lv_at hl 0 rfl) ?_
  refine W.objInit hx hb hown (hts _ (List.mem_cons_of_mem _ kw_583)) (hts _ (List.mem_cons_of_mem _ kw_17)) (hts _ (List.mem_cons_of_mem _ kw_18)) rfl (by rw [hml]; exact hl.1) rfl kb_Mo_init_1 (Nat.le_of_ble_eq_true rfl) (Nat.le_of_ble_eq_true rfl) ?_
  refine W.eq (g2 := F0 m 4 ls []) rfl ?_
  refine lv_aload_n hx hb kb_Mo_init_4 rfl (lv_at hl 0 rfl) ?_
  refine lv_sipush (v := (600 : Int32)) hx hb kb_Mo_init_5 (by decide) ?_
  refine zr_newa (atype := .byte) (ty := .byte) (N' := 600) hx hb (hts _ (List.mem_cons_of_mem _ kw_63)) rfl hK hG hS hZ 1 1 23 (by decide) rfl (fun _ _ h1 h2 => z_RA_byte h1 h2) rfl (by decide) (by decide) (by decide) (Nat.le_of_ble_eq_true rfl) (Nat.le_of_ble_eq_true rfl) kb_Mo_init_8 (fun q8 H hq hG hS => ?_)
  obtain ⟨σ8, e8⟩ : ∃ z, z = z_arr σ q8 1 600 23 := ⟨_, rfl⟩
  rw [← e8] at hG
  have hw := hw q8 hq _ e8
  obtain ⟨hy, hw⟩ := hw
  refine zr_putRF (ci := 8) (f := 800) hx hb hts ki_Mo ky_Mo kyo_Mo kn_Mo hown hK hG hS hy rfl 0 (by decide) (hts _ (List.mem_cons_of_mem _ kw_584)) (fun _ h => h) rfl hin rfl rfl rfl rfl rfl kb_Mo_init_10 (fun H locs hG hS => ?_)
  obtain ⟨σ10, e10⟩ : ∃ z, z = z_sR σ8 800 a0 (some q8) := ⟨_, rfl⟩
  rw [← e10] at hG
  have hw := hw _ e10
  refine lv_aload_n hx hb kb_Mo_init_13 rfl (lv_at hl 0 rfl) ?_
  refine lv_sipush (v := (602 : Int32)) hx hb kb_Mo_init_14 (by decide) ?_
  refine zr_newa (atype := .int) (ty := .int) (N' := 602) hx hb (hts _ (List.mem_cons_of_mem _ kw_64)) rfl hK hG hS hZ 0 0 24 (by decide) rfl (fun _ _ h1 h2 => z_RA_int h1 h2) rfl (by decide) (by decide) (by decide) (Nat.le_of_ble_eq_true rfl) (Nat.le_of_ble_eq_true rfl) kb_Mo_init_17 (fun q17 H hq hG hS => ?_)
  obtain ⟨σ17, e17⟩ : ∃ z, z = z_arr σ10 q17 0 602 24 := ⟨_, rfl⟩
  rw [← e17] at hG
  have hw := hw q17 hq _ e17
  obtain ⟨hy, hw⟩ := hw
  refine zr_putRF (ci := 8) (f := 802) hx hb hts ki_Mo ky_Mo kyo_Mo kn_Mo hown hK hG hS hy rfl 2 (by decide) (hts _ (List.mem_cons_of_mem _ kw_586)) (fun _ h => h) rfl hin rfl rfl rfl rfl rfl kb_Mo_init_19 (fun H locs hG hS => ?_)
  obtain ⟨σ19, e19⟩ : ∃ z, z = z_sR σ17 802 a0 (some q17) := ⟨_, rfl⟩
  rw [← e19] at hG
  have hw := hw _ e19
  refine lv_aload_n hx hb kb_Mo_init_22 rfl (lv_at hl 0 rfl) ?_
  refine lv_sipush (v := (602 : Int32)) hx hb kb_Mo_init_23 (by decide) ?_
  refine zr_newa (atype := .int) (ty := .int) (N' := 602) hx hb (hts _ (List.mem_cons_of_mem _ kw_64)) rfl hK hG hS hZ 0 0 25 (by decide) rfl (fun _ _ h1 h2 => z_RA_int h1 h2) rfl (by decide) (by decide) (by decide) (Nat.le_of_ble_eq_true rfl) (Nat.le_of_ble_eq_true rfl) kb_Mo_init_26 (fun q26 H hq hG hS => ?_)
  obtain ⟨σ26, e26⟩ : ∃ z, z = z_arr σ19 q26 0 602 25 := ⟨_, rfl⟩
  rw [← e26] at hG
  have hw := hw q26 hq _ e26
  obtain ⟨hy, hw⟩ := hw
  refine zr_putRF (ci := 8) (f := 803) hx hb hts ki_Mo ky_Mo kyo_Mo kn_Mo hown hK hG hS hy rfl 3 (by decide) (hts _ (List.mem_cons_of_mem _ kw_587)) (fun _ h => h) rfl hin rfl rfl rfl rfl rfl kb_Mo_init_28 (fun H locs hG hS => ?_)
  obtain ⟨σ28, e28⟩ : ∃ z, z = z_sR σ26 803 a0 (some q26) := ⟨_, rfl⟩
  rw [← e28] at hG
  have hw := hw _ e28
  refine lv_aload_n hx hb kb_Mo_init_31 rfl (lv_at hl 0 rfl) ?_
  refine lv_iconst (v := (-1 : Int32)) hx hb kb_Mo_init_32 (by decide) ?_
  obtain ⟨hy, hw⟩ := hw
  refine zr_putI (ci := 8) (f := 807) hx hb hts ki_Mo ky_Mo kyo_Mo kn_Mo hown hK hG hS hy rfl 7 (by decide) (hts _ (List.mem_cons_of_mem _ kw_591)) (fun _ h => h) rfl rfl rfl rfl rfl kb_Mo_init_33 (fun H locs hG hS => ?_)
  obtain ⟨σ33, e33⟩ : ∃ z, z = z_sI σ28 807 a0 ((-1 : Int32)) := ⟨_, rfl⟩
  rw [← e33] at hG
  have hw := hw _ e33
  refine lv_aload_n hx hb kb_Mo_init_36 rfl (lv_at hl 0 rfl) ?_
  refine lv_bipush (v := (17 : Int32)) hx hb kb_Mo_init_37 (by decide) ?_
  refine zr_newa (atype := .int) (ty := .int) (N' := 17) hx hb (hts _ (List.mem_cons_of_mem _ kw_64)) rfl hK hG hS hZ 0 0 26 (by decide) rfl (fun _ _ h1 h2 => z_RA_int h1 h2) rfl (by decide) (by decide) (by decide) (Nat.le_of_ble_eq_true rfl) (Nat.le_of_ble_eq_true rfl) kb_Mo_init_39 (fun q39 H hq hG hS => ?_)
  obtain ⟨σ39, e39⟩ : ∃ z, z = z_arr σ33 q39 0 17 26 := ⟨_, rfl⟩
  rw [← e39] at hG
  have hw := hw q39 hq _ e39
  obtain ⟨hy, hw⟩ := hw
  refine zr_putRF (ci := 8) (f := 809) hx hb hts ki_Mo ky_Mo kyo_Mo kn_Mo hown hK hG hS hy rfl 9 (by decide) (hts _ (List.mem_cons_of_mem _ kw_593)) (fun _ h => h) rfl hin rfl rfl rfl rfl rfl kb_Mo_init_41 (fun H locs hG hS => ?_)
  obtain ⟨σ41, e41⟩ : ∃ z, z = z_sR σ39 809 a0 (some q39) := ⟨_, rfl⟩
  rw [← e41] at hG
  have hw := hw _ e41
  refine lv_aload_n hx hb kb_Mo_init_44 rfl (lv_at hl 0 rfl) ?_
  refine lv_bipush (v := (51 : Int32)) hx hb kb_Mo_init_45 (by decide) ?_
  refine zr_newa (atype := .int) (ty := .int) (N' := 51) hx hb (hts _ (List.mem_cons_of_mem _ kw_64)) rfl hK hG hS hZ 0 0 27 (by decide) rfl (fun _ _ h1 h2 => z_RA_int h1 h2) rfl (by decide) (by decide) (by decide) (Nat.le_of_ble_eq_true rfl) (Nat.le_of_ble_eq_true rfl) kb_Mo_init_47 (fun q47 H hq hG hS => ?_)
  obtain ⟨σ47, e47⟩ : ∃ z, z = z_arr σ41 q47 0 51 27 := ⟨_, rfl⟩
  rw [← e47] at hG
  have hw := hw q47 hq _ e47
  obtain ⟨hy, hw⟩ := hw
  refine zr_putRF (ci := 8) (f := 810) hx hb hts ki_Mo ky_Mo kyo_Mo kn_Mo hown hK hG hS hy rfl 10 (by decide) (hts _ (List.mem_cons_of_mem _ kw_594)) (fun _ h => h) rfl hin rfl rfl rfl rfl rfl kb_Mo_init_49 (fun H locs hG hS => ?_)
  obtain ⟨σ49, e49⟩ : ∃ z, z = z_sR σ47 810 a0 (some q47) := ⟨_, rfl⟩
  rw [← e49] at hG
  have hw := hw _ e49
  refine lv_aload_n hx hb kb_Mo_init_52 rfl (lv_at hl 0 rfl) ?_
  refine lv_bipush (v := (17 : Int32)) hx hb kb_Mo_init_53 (by decide) ?_
  refine zr_newa (atype := .int) (ty := .int) (N' := 17) hx hb (hts _ (List.mem_cons_of_mem _ kw_64)) rfl hK hG hS hZ 0 0 28 (by decide) rfl (fun _ _ h1 h2 => z_RA_int h1 h2) rfl (by decide) (by decide) (by decide) (Nat.le_of_ble_eq_true rfl) (Nat.le_of_ble_eq_true rfl) kb_Mo_init_55 (fun q55 H hq hG hS => ?_)
  obtain ⟨σ55, e55⟩ : ∃ z, z = z_arr σ49 q55 0 17 28 := ⟨_, rfl⟩
  rw [← e55] at hG
  have hw := hw q55 hq _ e55
  obtain ⟨hy, hw⟩ := hw
  refine zr_putRF (ci := 8) (f := 811) hx hb hts ki_Mo ky_Mo kyo_Mo kn_Mo hown hK hG hS hy rfl 11 (by decide) (hts _ (List.mem_cons_of_mem _ kw_595)) (fun _ h => h) rfl hin rfl rfl rfl rfl rfl kb_Mo_init_57 (fun H locs hG hS => ?_)
  obtain ⟨σ57, e57⟩ : ∃ z, z = z_sR σ55 811 a0 (some q55) := ⟨_, rfl⟩
  rw [← e57] at hG
  have hw := hw _ e57
  refine lv_aload_n hx hb kb_Mo_init_60 rfl (lv_at hl 0 rfl) ?_
  refine lv_bipush (v := (85 : Int32)) hx hb kb_Mo_init_61 (by decide) ?_
  refine zr_newa (atype := .int) (ty := .int) (N' := 85) hx hb (hts _ (List.mem_cons_of_mem _ kw_64)) rfl hK hG hS hZ 0 0 29 (by decide) rfl (fun _ _ h1 h2 => z_RA_int h1 h2) rfl (by decide) (by decide) (by decide) (Nat.le_of_ble_eq_true rfl) (Nat.le_of_ble_eq_true rfl) kb_Mo_init_63 (fun q63 H hq hG hS => ?_)
  obtain ⟨σ63, e63⟩ : ∃ z, z = z_arr σ57 q63 0 85 29 := ⟨_, rfl⟩
  rw [← e63] at hG
  have hw := hw q63 hq _ e63
  obtain ⟨hy, hw⟩ := hw
  refine zr_putRF (ci := 8) (f := 812) hx hb hts ki_Mo ky_Mo kyo_Mo kn_Mo hown hK hG hS hy rfl 12 (by decide) (hts _ (List.mem_cons_of_mem _ kw_596)) (fun _ h => h) rfl hin rfl rfl rfl rfl rfl kb_Mo_init_65 (fun H locs hG hS => ?_)
  obtain ⟨σ65, e65⟩ : ∃ z, z = z_sR σ63 812 a0 (some q63) := ⟨_, rfl⟩
  rw [← e65] at hG
  have hw := hw _ e65
  refine lv_aload_n hx hb kb_Mo_init_68 rfl (lv_at hl 0 rfl) ?_
  refine lv_bipush (v := (85 : Int32)) hx hb kb_Mo_init_69 (by decide) ?_
  refine zr_newa (atype := .int) (ty := .int) (N' := 85) hx hb (hts _ (List.mem_cons_of_mem _ kw_64)) rfl hK hG hS hZ 0 0 30 (by decide) rfl (fun _ _ h1 h2 => z_RA_int h1 h2) rfl (by decide) (by decide) (by decide) (Nat.le_of_ble_eq_true rfl) (Nat.le_of_ble_eq_true rfl) kb_Mo_init_71 (fun q71 H hq hG hS => ?_)
  obtain ⟨σ71, e71⟩ : ∃ z, z = z_arr σ65 q71 0 85 30 := ⟨_, rfl⟩
  rw [← e71] at hG
  have hw := hw q71 hq _ e71
  obtain ⟨hy, hw⟩ := hw
  refine zr_putRF (ci := 8) (f := 813) hx hb hts ki_Mo ky_Mo kyo_Mo kn_Mo hown hK hG hS hy rfl 13 (by decide) (hts _ (List.mem_cons_of_mem _ kw_597)) (fun _ h => h) rfl hin rfl rfl rfl rfl rfl kb_Mo_init_73 (fun H locs hG hS => ?_)
  obtain ⟨σ73, e73⟩ : ∃ z, z = z_sR σ71 813 a0 (some q71) := ⟨_, rfl⟩
  rw [← e73] at hG
  have hw := hw _ e73
  refine lv_aload_n hx hb kb_Mo_init_76 rfl (lv_at hl 0 rfl) ?_
  refine lv_sipush (v := (255 : Int32)) hx hb kb_Mo_init_77 (by decide) ?_
  refine zr_newa (atype := .int) (ty := .int) (N' := 255) hx hb (hts _ (List.mem_cons_of_mem _ kw_64)) rfl hK hG hS hZ 0 0 31 (by decide) rfl (fun _ _ h1 h2 => z_RA_int h1 h2) rfl (by decide) (by decide) (by decide) (Nat.le_of_ble_eq_true rfl) (Nat.le_of_ble_eq_true rfl) kb_Mo_init_80 (fun q80 H hq hG hS => ?_)
  obtain ⟨σ80, e80⟩ : ∃ z, z = z_arr σ73 q80 0 255 31 := ⟨_, rfl⟩
  rw [← e80] at hG
  have hw := hw q80 hq _ e80
  obtain ⟨hy, hw⟩ := hw
  refine zr_putRF (ci := 8) (f := 814) hx hb hts ki_Mo ky_Mo kyo_Mo kn_Mo hown hK hG hS hy rfl 14 (by decide) (hts _ (List.mem_cons_of_mem _ kw_598)) (fun _ h => h) rfl hin rfl rfl rfl rfl rfl kb_Mo_init_82 (fun H locs hG hS => ?_)
  obtain ⟨σ82, e82⟩ : ∃ z, z = z_sR σ80 814 a0 (some q80) := ⟨_, rfl⟩
  rw [← e82] at hG
  have hw := hw _ e82
  refine lv_aload_n hx hb kb_Mo_init_85 rfl (lv_at hl 0 rfl) ?_
  refine lv_bipush (v := (17 : Int32)) hx hb kb_Mo_init_86 (by decide) ?_
  refine zr_newa (atype := .boolean) (ty := .boolean) (N' := 17) hx hb (hts _ (List.mem_cons_of_mem _ kw_686)) rfl hK hG hS hZ 2 2 32 (by decide) rfl (fun _ _ h1 h2 => z_RA_bool h1 h2) rfl (by decide) (by decide) (by decide) (Nat.le_of_ble_eq_true rfl) (Nat.le_of_ble_eq_true rfl) kb_Mo_init_88 (fun q88 H hq hG hS => ?_)
  obtain ⟨σ88, e88⟩ : ∃ z, z = z_arr σ82 q88 2 17 32 := ⟨_, rfl⟩
  rw [← e88] at hG
  have hw := hw q88 hq _ e88
  obtain ⟨hy, hw⟩ := hw
  refine zr_putRF (ci := 8) (f := 815) hx hb hts ki_Mo ky_Mo kyo_Mo kn_Mo hown hK hG hS hy rfl 15 (by decide) (hts _ (List.mem_cons_of_mem _ kw_599)) (fun _ h => h) rfl hin rfl rfl rfl rfl rfl kb_Mo_init_90 (fun H locs hG hS => ?_)
  obtain ⟨σ90, e90⟩ : ∃ z, z = z_sR σ88 815 a0 (some q88) := ⟨_, rfl⟩
  rw [← e90] at hG
  have hw := hw _ e90
  refine lv_aload_n hx hb kb_Mo_init_93 rfl (lv_at hl 0 rfl) ?_
  refine lv_bipush (v := (17 : Int32)) hx hb kb_Mo_init_94 (by decide) ?_
  refine zr_newa (atype := .int) (ty := .int) (N' := 17) hx hb (hts _ (List.mem_cons_of_mem _ kw_64)) rfl hK hG hS hZ 0 0 33 (by decide) rfl (fun _ _ h1 h2 => z_RA_int h1 h2) rfl (by decide) (by decide) (by decide) (Nat.le_of_ble_eq_true rfl) (Nat.le_of_ble_eq_true rfl) kb_Mo_init_96 (fun q96 H hq hG hS => ?_)
  obtain ⟨σ96, e96⟩ : ∃ z, z = z_arr σ90 q96 0 17 33 := ⟨_, rfl⟩
  rw [← e96] at hG
  have hw := hw q96 hq _ e96
  obtain ⟨hy, hw⟩ := hw
  refine zr_putRF (ci := 8) (f := 816) hx hb hts ki_Mo ky_Mo kyo_Mo kn_Mo hown hK hG hS hy rfl 16 (by decide) (hts _ (List.mem_cons_of_mem _ kw_600)) (fun _ h => h) rfl hin rfl rfl rfl rfl rfl kb_Mo_init_98 (fun H locs hG hS => ?_)
  obtain ⟨σ98, e98⟩ : ∃ z, z = z_sR σ96 816 a0 (some q96) := ⟨_, rfl⟩
  rw [← e98] at hG
  have hw := hw _ e98
  refine lv_aload_n hx hb kb_Mo_init_101 rfl (lv_at hl 0 rfl) ?_
  refine lv_bipush (v := (9 : Int32)) hx hb kb_Mo_init_102 (by decide) ?_
  refine zr_newa (atype := .int) (ty := .int) (N' := 9) hx hb (hts _ (List.mem_cons_of_mem _ kw_64)) rfl hK hG hS hZ 0 0 34 (by decide) rfl (fun _ _ h1 h2 => z_RA_int h1 h2) rfl (by decide) (by decide) (by decide) (Nat.le_of_ble_eq_true rfl) (Nat.le_of_ble_eq_true rfl) kb_Mo_init_104 (fun q104 H hq hG hS => ?_)
  obtain ⟨σ104, e104⟩ : ∃ z, z = z_arr σ98 q104 0 9 34 := ⟨_, rfl⟩
  rw [← e104] at hG
  have hw := hw q104 hq _ e104
  obtain ⟨hy, hw⟩ := hw
  refine zr_putRF (ci := 8) (f := 818) hx hb hts ki_Mo ky_Mo kyo_Mo kn_Mo hown hK hG hS hy rfl 18 (by decide) (hts _ (List.mem_cons_of_mem _ kw_602)) (fun _ h => h) rfl hin rfl rfl rfl rfl rfl kb_Mo_init_106 (fun H locs hG hS => ?_)
  obtain ⟨σ106, e106⟩ : ∃ z, z = z_sR σ104 818 a0 (some q104) := ⟨_, rfl⟩
  rw [← e106] at hG
  have hw := hw _ e106
  refine lv_aload_n hx hb kb_Mo_init_109 rfl (lv_at hl 0 rfl) ?_
  refine lv_bipush (v := (9 : Int32)) hx hb kb_Mo_init_110 (by decide) ?_
  refine zr_newa (atype := .int) (ty := .int) (N' := 9) hx hb (hts _ (List.mem_cons_of_mem _ kw_64)) rfl hK hG hS hZ 0 0 35 (by decide) rfl (fun _ _ h1 h2 => z_RA_int h1 h2) rfl (by decide) (by decide) (by decide) (Nat.le_of_ble_eq_true rfl) (Nat.le_of_ble_eq_true rfl) kb_Mo_init_112 (fun q112 H hq hG hS => ?_)
  obtain ⟨σ112, e112⟩ : ∃ z, z = z_arr σ106 q112 0 9 35 := ⟨_, rfl⟩
  rw [← e112] at hG
  have hw := hw q112 hq _ e112
  obtain ⟨hy, hw⟩ := hw
  refine zr_putRF (ci := 8) (f := 819) hx hb hts ki_Mo ky_Mo kyo_Mo kn_Mo hown hK hG hS hy rfl 19 (by decide) (hts _ (List.mem_cons_of_mem _ kw_603)) (fun _ h => h) rfl hin rfl rfl rfl rfl rfl kb_Mo_init_114 (fun H locs hG hS => ?_)
  obtain ⟨σ114, e114⟩ : ∃ z, z = z_sR σ112 819 a0 (some q112) := ⟨_, rfl⟩
  rw [← e114] at hG
  have hw := hw _ e114
  refine lv_aload_n hx hb kb_Mo_init_117 rfl (lv_at hl 0 rfl) ?_
  refine lv_bipush (v := (9 : Int32)) hx hb kb_Mo_init_118 (by decide) ?_
  refine zr_newa (atype := .boolean) (ty := .boolean) (N' := 9) hx hb (hts _ (List.mem_cons_of_mem _ kw_686)) rfl hK hG hS hZ 2 2 36 (by decide) rfl (fun _ _ h1 h2 => z_RA_bool h1 h2) rfl (by decide) (by decide) (by decide) (Nat.le_of_ble_eq_true rfl) (Nat.le_of_ble_eq_true rfl) kb_Mo_init_120 (fun q120 H hq hG hS => ?_)
  obtain ⟨σ120, e120⟩ : ∃ z, z = z_arr σ114 q120 2 9 36 := ⟨_, rfl⟩
  rw [← e120] at hG
  have hw := hw q120 hq _ e120
  obtain ⟨hy, hw⟩ := hw
  refine zr_putRF (ci := 8) (f := 820) hx hb hts ki_Mo ky_Mo kyo_Mo kn_Mo hown hK hG hS hy rfl 20 (by decide) (hts _ (List.mem_cons_of_mem _ kw_604)) (fun _ h => h) rfl hin rfl rfl rfl rfl rfl kb_Mo_init_122 (fun H locs hG hS => ?_)
  obtain ⟨σ122, e122⟩ : ∃ z, z = z_sR σ120 820 a0 (some q120) := ⟨_, rfl⟩
  rw [← e122] at hG
  have hw := hw _ e122
  refine lv_aload_n hx hb kb_Mo_init_125 rfl (lv_at hl 0 rfl) ?_
  refine lv_bipush (v := (9 : Int32)) hx hb kb_Mo_init_126 (by decide) ?_
  refine zr_newa (atype := .int) (ty := .int) (N' := 9) hx hb (hts _ (List.mem_cons_of_mem _ kw_64)) rfl hK hG hS hZ 0 0 37 (by decide) rfl (fun _ _ h1 h2 => z_RA_int h1 h2) rfl (by decide) (by decide) (by decide) (Nat.le_of_ble_eq_true rfl) (Nat.le_of_ble_eq_true rfl) kb_Mo_init_128 (fun q128 H hq hG hS => ?_)
  obtain ⟨σ128, e128⟩ : ∃ z, z = z_arr σ122 q128 0 9 37 := ⟨_, rfl⟩
  rw [← e128] at hG
  have hw := hw q128 hq _ e128
  obtain ⟨hy, hw⟩ := hw
  refine zr_putRF (ci := 8) (f := 821) hx hb hts ki_Mo ky_Mo kyo_Mo kn_Mo hown hK hG hS hy rfl 21 (by decide) (hts _ (List.mem_cons_of_mem _ kw_605)) (fun _ h => h) rfl hin rfl rfl rfl rfl rfl kb_Mo_init_130 (fun H locs hG hS => ?_)
  obtain ⟨σ130, e130⟩ : ∃ z, z = z_sR σ128 821 a0 (some q128) := ⟨_, rfl⟩
  rw [← e130] at hG
  have hw := hw _ e130
  refine lv_aload_n hx hb kb_Mo_init_133 rfl (lv_at hl 0 rfl) ?_
  refine lv_bipush (v := (64 : Int32)) hx hb kb_Mo_init_134 (by decide) ?_
  refine zr_newa (atype := .boolean) (ty := .boolean) (N' := 64) hx hb (hts _ (List.mem_cons_of_mem _ kw_686)) rfl hK hG hS hZ 2 2 38 (by decide) rfl (fun _ _ h1 h2 => z_RA_bool h1 h2) rfl (by decide) (by decide) (by decide) (Nat.le_of_ble_eq_true rfl) (Nat.le_of_ble_eq_true rfl) kb_Mo_init_136 (fun q136 H hq hG hS => ?_)
  obtain ⟨σ136, e136⟩ : ∃ z, z = z_arr σ130 q136 2 64 38 := ⟨_, rfl⟩
  rw [← e136] at hG
  have hw := hw q136 hq _ e136
  obtain ⟨hy, hw⟩ := hw
  refine zr_putRF (ci := 8) (f := 822) hx hb hts ki_Mo ky_Mo kyo_Mo kn_Mo hown hK hG hS hy rfl 22 (by decide) (hts _ (List.mem_cons_of_mem _ kw_606)) (fun _ h => h) rfl hin rfl rfl rfl rfl rfl kb_Mo_init_138 (fun H locs hG hS => ?_)
  obtain ⟨σ138, e138⟩ : ∃ z, z = z_sR σ136 822 a0 (some q136) := ⟨_, rfl⟩
  rw [← e138] at hG
  have hw := hw _ e138
  refine lv_aload_n hx hb kb_Mo_init_141 rfl (lv_at hl 0 rfl) ?_
  refine lv_bipush (v := (8 : Int32)) hx hb kb_Mo_init_142 (by decide) ?_
  refine zr_newa (atype := .boolean) (ty := .boolean) (N' := 8) hx hb (hts _ (List.mem_cons_of_mem _ kw_686)) rfl hK hG hS hZ 2 2 39 (by decide) rfl (fun _ _ h1 h2 => z_RA_bool h1 h2) rfl (by decide) (by decide) (by decide) (Nat.le_of_ble_eq_true rfl) (Nat.le_of_ble_eq_true rfl) kb_Mo_init_144 (fun q144 H hq hG hS => ?_)
  obtain ⟨σ144, e144⟩ : ∃ z, z = z_arr σ138 q144 2 8 39 := ⟨_, rfl⟩
  rw [← e144] at hG
  have hw := hw q144 hq _ e144
  obtain ⟨hy, hw⟩ := hw
  refine zr_putRF (ci := 8) (f := 823) hx hb hts ki_Mo ky_Mo kyo_Mo kn_Mo hown hK hG hS hy rfl 23 (by decide) (hts _ (List.mem_cons_of_mem _ kw_607)) (fun _ h => h) rfl hin rfl rfl rfl rfl rfl kb_Mo_init_146 (fun H locs hG hS => ?_)
  obtain ⟨σ146, e146⟩ : ∃ z, z = z_sR σ144 823 a0 (some q144) := ⟨_, rfl⟩
  rw [← e146] at hG
  have hw := hw _ e146
  refine lv_aload_n hx hb kb_Mo_init_149 rfl (lv_at hl 0 rfl) ?_
  refine lv_sipush (v := (960 : Int32)) hx hb kb_Mo_init_150 (by decide) ?_
  refine zr_newa (atype := .int) (ty := .int) (N' := 960) hx hb (hts _ (List.mem_cons_of_mem _ kw_64)) rfl hK hG hS hZ 0 0 40 (by decide) rfl (fun _ _ h1 h2 => z_RA_int h1 h2) rfl (by decide) (by decide) (by decide) (Nat.le_of_ble_eq_true rfl) (Nat.le_of_ble_eq_true rfl) kb_Mo_init_153 (fun q153 H hq hG hS => ?_)
  obtain ⟨σ153, e153⟩ : ∃ z, z = z_arr σ146 q153 0 960 40 := ⟨_, rfl⟩
  rw [← e153] at hG
  have hw := hw q153 hq _ e153
  obtain ⟨hy, hw⟩ := hw
  refine zr_putRF (ci := 8) (f := 824) hx hb hts ki_Mo ky_Mo kyo_Mo kn_Mo hown hK hG hS hy rfl 24 (by decide) (hts _ (List.mem_cons_of_mem _ kw_608)) (fun _ h => h) rfl hin rfl rfl rfl rfl rfl kb_Mo_init_155 (fun H locs hG hS => ?_)
  obtain ⟨σ155, e155⟩ : ∃ z, z = z_sR σ153 824 a0 (some q153) := ⟨_, rfl⟩
  rw [← e155] at hG
  have hw := hw _ e155
  refine lv_aload_n hx hb kb_Mo_init_158 rfl (lv_at hl 0 rfl) ?_
  refine lv_sipush (v := (320 : Int32)) hx hb kb_Mo_init_159 (by decide) ?_
  refine zr_newa (atype := .int) (ty := .int) (N' := 320) hx hb (hts _ (List.mem_cons_of_mem _ kw_64)) rfl hK hG hS hZ 0 0 41 (by decide) rfl (fun _ _ h1 h2 => z_RA_int h1 h2) rfl (by decide) (by decide) (by decide) (Nat.le_of_ble_eq_true rfl) (Nat.le_of_ble_eq_true rfl) kb_Mo_init_162 (fun q162 H hq hG hS => ?_)
  obtain ⟨σ162, e162⟩ : ∃ z, z = z_arr σ155 q162 0 320 41 := ⟨_, rfl⟩
  rw [← e162] at hG
  have hw := hw q162 hq _ e162
  obtain ⟨hy, hw⟩ := hw
  refine zr_putRF (ci := 8) (f := 825) hx hb hts ki_Mo ky_Mo kyo_Mo kn_Mo hown hK hG hS hy rfl 25 (by decide) (hts _ (List.mem_cons_of_mem _ kw_609)) (fun _ h => h) rfl hin rfl rfl rfl rfl rfl kb_Mo_init_164 (fun H locs hG hS => ?_)
  obtain ⟨σ164, e164⟩ : ∃ z, z = z_sR σ162 825 a0 (some q162) := ⟨_, rfl⟩
  rw [← e164] at hG
  have hw := hw _ e164
  refine lv_aload_n hx hb kb_Mo_init_167 rfl (lv_at hl 0 rfl) ?_
  refine lv_bipush (v := (8 : Int32)) hx hb kb_Mo_init_168 (by decide) ?_
  refine zr_newa (atype := .int) (ty := .int) (N' := 8) hx hb (hts _ (List.mem_cons_of_mem _ kw_64)) rfl hK hG hS hZ 0 0 42 (by decide) rfl (fun _ _ h1 h2 => z_RA_int h1 h2) rfl (by decide) (by decide) (by decide) (Nat.le_of_ble_eq_true rfl) (Nat.le_of_ble_eq_true rfl) kb_Mo_init_170 (fun q170 H hq hG hS => ?_)
  obtain ⟨σ170, e170⟩ : ∃ z, z = z_arr σ164 q170 0 8 42 := ⟨_, rfl⟩
  rw [← e170] at hG
  have hw := hw q170 hq _ e170
  obtain ⟨hy, hw⟩ := hw
  refine zr_putRF (ci := 8) (f := 826) hx hb hts ki_Mo ky_Mo kyo_Mo kn_Mo hown hK hG hS hy rfl 26 (by decide) (hts _ (List.mem_cons_of_mem _ kw_610)) (fun _ h => h) rfl hin rfl rfl rfl rfl rfl kb_Mo_init_172 (fun H locs hG hS => ?_)
  obtain ⟨σ172, e172⟩ : ∃ z, z = z_sR σ170 826 a0 (some q170) := ⟨_, rfl⟩
  rw [← e172] at hG
  have hw := hw _ e172
  refine lv_aload_n hx hb kb_Mo_init_175 rfl (lv_at hl 0 rfl) ?_
  refine lv_sipush (v := (960 : Int32)) hx hb kb_Mo_init_176 (by decide) ?_
  refine zr_newa (atype := .int) (ty := .int) (N' := 960) hx hb (hts _ (List.mem_cons_of_mem _ kw_64)) rfl hK hG hS hZ 0 0 43 (by decide) rfl (fun _ _ h1 h2 => z_RA_int h1 h2) rfl (by decide) (by decide) (by decide) (Nat.le_of_ble_eq_true rfl) (Nat.le_of_ble_eq_true rfl) kb_Mo_init_179 (fun q179 H hq hG hS => ?_)
  obtain ⟨σ179, e179⟩ : ∃ z, z = z_arr σ172 q179 0 960 43 := ⟨_, rfl⟩
  rw [← e179] at hG
  have hw := hw q179 hq _ e179
  obtain ⟨hy, hw⟩ := hw
  refine zr_putRF (ci := 8) (f := 827) hx hb hts ki_Mo ky_Mo kyo_Mo kn_Mo hown hK hG hS hy rfl 27 (by decide) (hts _ (List.mem_cons_of_mem _ kw_611)) (fun _ h => h) rfl hin rfl rfl rfl rfl rfl kb_Mo_init_181 (fun H locs hG hS => ?_)
  obtain ⟨σ181, e181⟩ : ∃ z, z = z_sR σ179 827 a0 (some q179) := ⟨_, rfl⟩
  rw [← e181] at hG
  have hw := hw _ e181
  refine lv_aload_n hx hb kb_Mo_init_184 rfl (lv_at hl 0 rfl) ?_
  refine lv_sipush (v := (320 : Int32)) hx hb kb_Mo_init_185 (by decide) ?_
  refine zr_newa (atype := .int) (ty := .int) (N' := 320) hx hb (hts _ (List.mem_cons_of_mem _ kw_64)) rfl hK hG hS hZ 0 0 44 (by decide) rfl (fun _ _ h1 h2 => z_RA_int h1 h2) rfl (by decide) (by decide) (by decide) (Nat.le_of_ble_eq_true rfl) (Nat.le_of_ble_eq_true rfl) kb_Mo_init_188 (fun q188 H hq hG hS => ?_)
  obtain ⟨σ188, e188⟩ : ∃ z, z = z_arr σ181 q188 0 320 44 := ⟨_, rfl⟩
  rw [← e188] at hG
  have hw := hw q188 hq _ e188
  obtain ⟨hy, hw⟩ := hw
  refine zr_putRF (ci := 8) (f := 828) hx hb hts ki_Mo ky_Mo kyo_Mo kn_Mo hown hK hG hS hy rfl 28 (by decide) (hts _ (List.mem_cons_of_mem _ kw_612)) (fun _ h => h) rfl hin rfl rfl rfl rfl rfl kb_Mo_init_190 (fun H locs hG hS => ?_)
  obtain ⟨σ190, e190⟩ : ∃ z, z = z_sR σ188 828 a0 (some q188) := ⟨_, rfl⟩
  rw [← e190] at hG
  have hw := hw _ e190
  refine lv_aload_n hx hb kb_Mo_init_193 rfl (lv_at hl 0 rfl) ?_
  refine lv_bipush (v := (8 : Int32)) hx hb kb_Mo_init_194 (by decide) ?_
  refine zr_newa (atype := .int) (ty := .int) (N' := 8) hx hb (hts _ (List.mem_cons_of_mem _ kw_64)) rfl hK hG hS hZ 0 0 45 (by decide) rfl (fun _ _ h1 h2 => z_RA_int h1 h2) rfl (by decide) (by decide) (by decide) (Nat.le_of_ble_eq_true rfl) (Nat.le_of_ble_eq_true rfl) kb_Mo_init_196 (fun q196 H hq hG hS => ?_)
  obtain ⟨σ196, e196⟩ : ∃ z, z = z_arr σ190 q196 0 8 45 := ⟨_, rfl⟩
  rw [← e196] at hG
  have hw := hw q196 hq _ e196
  obtain ⟨hy, hw⟩ := hw
  refine zr_putRF (ci := 8) (f := 829) hx hb hts ki_Mo ky_Mo kyo_Mo kn_Mo hown hK hG hS hy rfl 29 (by decide) (hts _ (List.mem_cons_of_mem _ kw_613)) (fun _ h => h) rfl hin rfl rfl rfl rfl rfl kb_Mo_init_198 (fun H locs hG hS => ?_)
  obtain ⟨σ198, e198⟩ : ∃ z, z = z_sR σ196 829 a0 (some q196) := ⟨_, rfl⟩
  rw [← e198] at hG
  have hw := hw _ e198
  refine lv_aload_n hx hb kb_Mo_init_201 rfl (lv_at hl 0 rfl) ?_
  refine lv_sipush (v := (300 : Int32)) hx hb kb_Mo_init_202 (by decide) ?_
  refine zr_newa (atype := .int) (ty := .int) (N' := 300) hx hb (hts _ (List.mem_cons_of_mem _ kw_64)) rfl hK hG hS hZ 0 0 46 (by decide) rfl (fun _ _ h1 h2 => z_RA_int h1 h2) rfl (by decide) (by decide) (by decide) (Nat.le_of_ble_eq_true rfl) (Nat.le_of_ble_eq_true rfl) kb_Mo_init_205 (fun q205 H hq hG hS => ?_)
  obtain ⟨σ205, e205⟩ : ∃ z, z = z_arr σ198 q205 0 300 46 := ⟨_, rfl⟩
  rw [← e205] at hG
  have hw := hw q205 hq _ e205
  obtain ⟨hy, hw⟩ := hw
  refine zr_putRF (ci := 8) (f := 830) hx hb hts ki_Mo ky_Mo kyo_Mo kn_Mo hown hK hG hS hy rfl 30 (by decide) (hts _ (List.mem_cons_of_mem _ kw_614)) (fun _ h => h) rfl hin rfl rfl rfl rfl rfl kb_Mo_init_207 (fun H locs hG hS => ?_)
  obtain ⟨σ207, e207⟩ : ∃ z, z = z_sR σ205 830 a0 (some q205) := ⟨_, rfl⟩
  rw [← e207] at hG
  have hw := hw _ e207
  refine lv_aload_n hx hb kb_Mo_init_210 rfl (lv_at hl 0 rfl) ?_
  refine lv_sipush (v := (1800 : Int32)) hx hb kb_Mo_init_211 (by decide) ?_
  refine zr_newa (atype := .int) (ty := .int) (N' := 1800) hx hb (hts _ (List.mem_cons_of_mem _ kw_64)) rfl hK hG hS hZ 0 0 47 (by decide) rfl (fun _ _ h1 h2 => z_RA_int h1 h2) rfl (by decide) (by decide) (by decide) (Nat.le_of_ble_eq_true rfl) (Nat.le_of_ble_eq_true rfl) kb_Mo_init_214 (fun q214 H hq hG hS => ?_)
  obtain ⟨σ214, e214⟩ : ∃ z, z = z_arr σ207 q214 0 1800 47 := ⟨_, rfl⟩
  rw [← e214] at hG
  have hw := hw q214 hq _ e214
  obtain ⟨hy, hw⟩ := hw
  refine zr_putRF (ci := 8) (f := 832) hx hb hts ki_Mo ky_Mo kyo_Mo kn_Mo hown hK hG hS hy rfl 32 (by decide) (hts _ (List.mem_cons_of_mem _ kw_616)) (fun _ h => h) rfl hin rfl rfl rfl rfl rfl kb_Mo_init_216 (fun H locs hG hS => ?_)
  obtain ⟨σ216, e216⟩ : ∃ z, z = z_sR σ214 832 a0 (some q214) := ⟨_, rfl⟩
  rw [← e216] at hG
  have hw := hw _ e216
  refine lv_aload_n hx hb kb_Mo_init_219 rfl (lv_at hl 0 rfl) ?_
  refine lv_bipush (v := (6 : Int32)) hx hb kb_Mo_init_220 (by decide) ?_
  refine zr_newa (atype := .int) (ty := .int) (N' := 6) hx hb (hts _ (List.mem_cons_of_mem _ kw_64)) rfl hK hG hS hZ 0 0 48 (by decide) rfl (fun _ _ h1 h2 => z_RA_int h1 h2) rfl (by decide) (by decide) (by decide) (Nat.le_of_ble_eq_true rfl) (Nat.le_of_ble_eq_true rfl) kb_Mo_init_222 (fun q222 H hq hG hS => ?_)
  obtain ⟨σ222, e222⟩ : ∃ z, z = z_arr σ216 q222 0 6 48 := ⟨_, rfl⟩
  rw [← e222] at hG
  have hw := hw q222 hq _ e222
  obtain ⟨hy, hw⟩ := hw
  refine zr_putRF (ci := 8) (f := 833) hx hb hts ki_Mo ky_Mo kyo_Mo kn_Mo hown hK hG hS hy rfl 33 (by decide) (hts _ (List.mem_cons_of_mem _ kw_617)) (fun _ h => h) rfl hin rfl rfl rfl rfl rfl kb_Mo_init_224 (fun H locs hG hS => ?_)
  obtain ⟨σ224, e224⟩ : ∃ z, z = z_sR σ222 833 a0 (some q222) := ⟨_, rfl⟩
  rw [← e224] at hG
  have hw := hw _ e224
  refine lv_aload_n hx hb kb_Mo_init_227 rfl (lv_at hl 0 rfl) ?_
  refine lv_sipush (v := (3300 : Int32)) hx hb kb_Mo_init_228 (by decide) ?_
  refine zr_newa (atype := .int) (ty := .int) (N' := 3300) hx hb (hts _ (List.mem_cons_of_mem _ kw_64)) rfl hK hG hS hZ 0 0 49 (by decide) rfl (fun _ _ h1 h2 => z_RA_int h1 h2) rfl (by decide) (by decide) (by decide) (Nat.le_of_ble_eq_true rfl) (Nat.le_of_ble_eq_true rfl) kb_Mo_init_231 (fun q231 H hq hG hS => ?_)
  obtain ⟨σ231, e231⟩ : ∃ z, z = z_arr σ224 q231 0 3300 49 := ⟨_, rfl⟩
  rw [← e231] at hG
  have hw := hw q231 hq _ e231
  obtain ⟨hy, hw⟩ := hw
  refine zr_putRF (ci := 8) (f := 835) hx hb hts ki_Mo ky_Mo kyo_Mo kn_Mo hown hK hG hS hy rfl 35 (by decide) (hts _ (List.mem_cons_of_mem _ kw_619)) (fun _ h => h) rfl hin rfl rfl rfl rfl rfl kb_Mo_init_233 (fun H locs hG hS => ?_)
  obtain ⟨σ233, e233⟩ : ∃ z, z = z_sR σ231 835 a0 (some q231) := ⟨_, rfl⟩
  rw [← e233] at hG
  have hw := hw _ e233
  refine lv_aload_n hx hb kb_Mo_init_236 rfl (lv_at hl 0 rfl) ?_
  refine lv_bipush (v := (104 : Int32)) hx hb kb_Mo_init_237 (by decide) ?_
  refine zr_newa (atype := .int) (ty := .int) (N' := 104) hx hb (hts _ (List.mem_cons_of_mem _ kw_64)) rfl hK hG hS hZ 0 0 50 (by decide) rfl (fun _ _ h1 h2 => z_RA_int h1 h2) rfl (by decide) (by decide) (by decide) (Nat.le_of_ble_eq_true rfl) (Nat.le_of_ble_eq_true rfl) kb_Mo_init_239 (fun q239 H hq hG hS => ?_)
  obtain ⟨σ239, e239⟩ : ∃ z, z = z_arr σ233 q239 0 104 50 := ⟨_, rfl⟩
  rw [← e239] at hG
  have hw := hw q239 hq _ e239
  obtain ⟨hy, hw⟩ := hw
  refine zr_putRF (ci := 8) (f := 837) hx hb hts ki_Mo ky_Mo kyo_Mo kn_Mo hown hK hG hS hy rfl 37 (by decide) (hts _ (List.mem_cons_of_mem _ kw_621)) (fun _ h => h) rfl hin rfl rfl rfl rfl rfl kb_Mo_init_241 (fun H locs hG hS => ?_)
  obtain ⟨σ241, e241⟩ : ∃ z, z = z_sR σ239 837 a0 (some q239) := ⟨_, rfl⟩
  rw [← e241] at hG
  have hw := hw _ e241
  refine lv_aload_n hx hb kb_Mo_init_244 rfl (lv_at hl 0 rfl) ?_
  refine lv_iconst (v := (4 : Int32)) hx hb kb_Mo_init_245 (by decide) ?_
  refine zr_newa (atype := .int) (ty := .int) (N' := 4) hx hb (hts _ (List.mem_cons_of_mem _ kw_64)) rfl hK hG hS hZ 0 0 51 (by decide) rfl (fun _ _ h1 h2 => z_RA_int h1 h2) rfl (by decide) (by decide) (by decide) (Nat.le_of_ble_eq_true rfl) (Nat.le_of_ble_eq_true rfl) kb_Mo_init_246 (fun q246 H hq hG hS => ?_)
  obtain ⟨σ246, e246⟩ : ∃ z, z = z_arr σ241 q246 0 4 51 := ⟨_, rfl⟩
  rw [← e246] at hG
  have hw := hw q246 hq _ e246
  obtain ⟨hy, hw⟩ := hw
  refine zr_putRF (ci := 8) (f := 838) hx hb hts ki_Mo ky_Mo kyo_Mo kn_Mo hown hK hG hS hy rfl 38 (by decide) (hts _ (List.mem_cons_of_mem _ kw_622)) (fun _ h => h) rfl hin rfl rfl rfl rfl rfl kb_Mo_init_248 (fun H locs hG hS => ?_)
  obtain ⟨σ248, e248⟩ : ∃ z, z = z_sR σ246 838 a0 (some q246) := ⟨_, rfl⟩
  rw [← e248] at hG
  have hw := hw _ e248
  refine lv_aload_n hx hb kb_Mo_init_251 rfl (lv_at hl 0 rfl) ?_
  refine lv_iconst (v := (3 : Int32)) hx hb kb_Mo_init_252 (by decide) ?_
  refine zr_newa (atype := .int) (ty := .int) (N' := 3) hx hb (hts _ (List.mem_cons_of_mem _ kw_64)) rfl hK hG hS hZ 0 0 52 (by decide) rfl (fun _ _ h1 h2 => z_RA_int h1 h2) rfl (by decide) (by decide) (by decide) (Nat.le_of_ble_eq_true rfl) (Nat.le_of_ble_eq_true rfl) kb_Mo_init_253 (fun q253 H hq hG hS => ?_)
  obtain ⟨σ253, e253⟩ : ∃ z, z = z_arr σ248 q253 0 3 52 := ⟨_, rfl⟩
  rw [← e253] at hG
  have hw := hw q253 hq _ e253
  obtain ⟨hy, hw⟩ := hw
  refine zr_putRF (ci := 8) (f := 839) hx hb hts ki_Mo ky_Mo kyo_Mo kn_Mo hown hK hG hS hy rfl 39 (by decide) (hts _ (List.mem_cons_of_mem _ kw_623)) (fun _ h => h) rfl hin rfl rfl rfl rfl rfl kb_Mo_init_255 (fun H locs hG hS => ?_)
  obtain ⟨σ255, e255⟩ : ∃ z, z = z_sR σ253 839 a0 (some q253) := ⟨_, rfl⟩
  rw [← e255] at hG
  have hw := hw _ e255
  refine lv_aload_n hx hb kb_Mo_init_258 rfl (lv_at hl 0 rfl) ?_
  refine lv_bipush (v := (120 : Int32)) hx hb kb_Mo_init_259 (by decide) ?_
  refine zr_newa (atype := .int) (ty := .int) (N' := 120) hx hb (hts _ (List.mem_cons_of_mem _ kw_64)) rfl hK hG hS hZ 0 0 53 (by decide) rfl (fun _ _ h1 h2 => z_RA_int h1 h2) rfl (by decide) (by decide) (by decide) (Nat.le_of_ble_eq_true rfl) (Nat.le_of_ble_eq_true rfl) kb_Mo_init_261 (fun q261 H hq hG hS => ?_)
  obtain ⟨σ261, e261⟩ : ∃ z, z = z_arr σ255 q261 0 120 53 := ⟨_, rfl⟩
  rw [← e261] at hG
  have hw := hw q261 hq _ e261
  obtain ⟨hy, hw⟩ := hw
  refine zr_putRF (ci := 8) (f := 843) hx hb hts ki_Mo ky_Mo kyo_Mo kn_Mo hown hK hG hS hy rfl 43 (by decide) (hts _ (List.mem_cons_of_mem _ kw_627)) (fun _ h => h) rfl hin rfl rfl rfl rfl rfl kb_Mo_init_263 (fun H locs hG hS => ?_)
  obtain ⟨σ263, e263⟩ : ∃ z, z = z_sR σ261 843 a0 (some q261) := ⟨_, rfl⟩
  rw [← e263] at hG
  have hw := hw _ e263
  refine lv_aload_n hx hb kb_Mo_init_266 rfl (lv_at hl 0 rfl) ?_
  refine lv_bipush (v := (40 : Int32)) hx hb kb_Mo_init_267 (by decide) ?_
  refine zr_newa (atype := .int) (ty := .int) (N' := 40) hx hb (hts _ (List.mem_cons_of_mem _ kw_64)) rfl hK hG hS hZ 0 0 54 (by decide) rfl (fun _ _ h1 h2 => z_RA_int h1 h2) rfl (by decide) (by decide) (by decide) (Nat.le_of_ble_eq_true rfl) (Nat.le_of_ble_eq_true rfl) kb_Mo_init_269 (fun q269 H hq hG hS => ?_)
  obtain ⟨σ269, e269⟩ : ∃ z, z = z_arr σ263 q269 0 40 54 := ⟨_, rfl⟩
  rw [← e269] at hG
  have hw := hw q269 hq _ e269
  obtain ⟨hy, hw⟩ := hw
  refine zr_putRF (ci := 8) (f := 844) hx hb hts ki_Mo ky_Mo kyo_Mo kn_Mo hown hK hG hS hy rfl 44 (by decide) (hts _ (List.mem_cons_of_mem _ kw_628)) (fun _ h => h) rfl hin rfl rfl rfl rfl rfl kb_Mo_init_271 (fun H locs hG hS => ?_)
  obtain ⟨σ271, e271⟩ : ∃ z, z = z_sR σ269 844 a0 (some q269) := ⟨_, rfl⟩
  rw [← e271] at hG
  have hw := hw _ e271
  refine lv_aload_n hx hb kb_Mo_init_274 rfl (lv_at hl 0 rfl) ?_
  refine lv_sipush (v := (300 : Int32)) hx hb kb_Mo_init_275 (by decide) ?_
  refine zr_newa (atype := .int) (ty := .int) (N' := 300) hx hb (hts _ (List.mem_cons_of_mem _ kw_64)) rfl hK hG hS hZ 0 0 55 (by decide) rfl (fun _ _ h1 h2 => z_RA_int h1 h2) rfl (by decide) (by decide) (by decide) (Nat.le_of_ble_eq_true rfl) (Nat.le_of_ble_eq_true rfl) kb_Mo_init_278 (fun q278 H hq hG hS => ?_)
  obtain ⟨σ278, e278⟩ : ∃ z, z = z_arr σ271 q278 0 300 55 := ⟨_, rfl⟩
  rw [← e278] at hG
  have hw := hw q278 hq _ e278
  obtain ⟨hy, hw⟩ := hw
  refine zr_putRF (ci := 8) (f := 846) hx hb hts ki_Mo ky_Mo kyo_Mo kn_Mo hown hK hG hS hy rfl 46 (by decide) (hts _ (List.mem_cons_of_mem _ kw_630)) (fun _ h => h) rfl hin rfl rfl rfl rfl rfl kb_Mo_init_280 (fun H locs hG hS => ?_)
  obtain ⟨σ280, e280⟩ : ∃ z, z = z_sR σ278 846 a0 (some q278) := ⟨_, rfl⟩
  rw [← e280] at hG
  have hw := hw _ e280
  refine lv_aload_n hx hb kb_Mo_init_283 rfl (lv_at hl 0 rfl) ?_
  refine lv_bipush (v := (8 : Int32)) hx hb kb_Mo_init_284 (by decide) ?_
  refine zr_newa (atype := .int) (ty := .int) (N' := 8) hx hb (hts _ (List.mem_cons_of_mem _ kw_64)) rfl hK hG hS hZ 0 0 56 (by decide) rfl (fun _ _ h1 h2 => z_RA_int h1 h2) rfl (by decide) (by decide) (by decide) (Nat.le_of_ble_eq_true rfl) (Nat.le_of_ble_eq_true rfl) kb_Mo_init_286 (fun q286 H hq hG hS => ?_)
  obtain ⟨σ286, e286⟩ : ∃ z, z = z_arr σ280 q286 0 8 56 := ⟨_, rfl⟩
  rw [← e286] at hG
  have hw := hw q286 hq _ e286
  obtain ⟨hy, hw⟩ := hw
  refine zr_putRF (ci := 8) (f := 848) hx hb hts ki_Mo ky_Mo kyo_Mo kn_Mo hown hK hG hS hy rfl 48 (by decide) (hts _ (List.mem_cons_of_mem _ kw_632)) (fun _ h => h) rfl hin rfl rfl rfl rfl rfl kb_Mo_init_288 (fun H locs hG hS => ?_)
  obtain ⟨σ288, e288⟩ : ∃ z, z = z_sR σ286 848 a0 (some q286) := ⟨_, rfl⟩
  rw [← e288] at hG
  have hw := hw _ e288
  refine lv_aload_n hx hb kb_Mo_init_291 rfl (lv_at hl 0 rfl) ?_
  refine lv_bipush (v := (26 : Int32)) hx hb kb_Mo_init_292 (by decide) ?_
  refine zr_newa (atype := .int) (ty := .int) (N' := 26) hx hb (hts _ (List.mem_cons_of_mem _ kw_64)) rfl hK hG hS hZ 0 0 57 (by decide) rfl (fun _ _ h1 h2 => z_RA_int h1 h2) rfl (by decide) (by decide) (by decide) (Nat.le_of_ble_eq_true rfl) (Nat.le_of_ble_eq_true rfl) kb_Mo_init_294 (fun q294 H hq hG hS => ?_)
  obtain ⟨σ294, e294⟩ : ∃ z, z = z_arr σ288 q294 0 26 57 := ⟨_, rfl⟩
  rw [← e294] at hG
  have hw := hw q294 hq _ e294
  obtain ⟨hy, hw⟩ := hw
  refine zr_putRF (ci := 8) (f := 850) hx hb hts ki_Mo ky_Mo kyo_Mo kn_Mo hown hK hG hS hy rfl 50 (by decide) (hts _ (List.mem_cons_of_mem _ kw_634)) (fun _ h => h) rfl hin rfl rfl rfl rfl rfl kb_Mo_init_296 (fun H locs hG hS => ?_)
  obtain ⟨σ296, e296⟩ : ∃ z, z = z_sR σ294 850 a0 (some q294) := ⟨_, rfl⟩
  rw [← e296] at hG
  have hw := hw _ e296
  refine W.widen (k := 35) (n := 11043) (Nat.le_of_ble_eq_true rfl) (Nat.le_of_ble_eq_true rfl) ?_
  exact zr_vret z_nwN hx hb hr hZ hK hN hG hS hw kb_Mo_init_299 hlocks
def kp_Mo_isIn (x1 : Int32) (x2 : Int32) (x3 : Int32) (σ : z_S) (Post : Int32 → z_S → Prop) : Prop :=     ((x1 < x2 → Post ((0 : Int32)) σ) ∧ (¬ x1 < x2 → (x3 < x1 → Post ((0 : Int32)) σ) ∧ (¬ x3 < x1 → Post ((1 : Int32)) σ)))
set_option maxHeartbeats 4000000 in
set_option maxRecDepth 100000 in
theorem kc_Mo_isIn (l : Launch) (D : va_G) (dA : Nat → ClassId) (Z : Nat) (x1 : Int32) (x2 : Int32) (x3 : Int32) (σ : z_S) (Post : Int32 → z_S → Prop) : Met l km_Mo_isIn ks_Mo_isIn kr_Mo_isIn (va_Pc [.int x1, .int x2, .int x3] (fun U => z_U D z_cl z_KT dA Z (z_tys dA) z_nw σ U ∧ kp_Mo_isIn  x1 x2 x3 σ Post)) (z_Qi D z_cl z_KT dA Z (z_tys dA) z_nw Post) 0 0 (fun q => Z ≤ q) := by
  refine Met.ofW (cc := prog_10_method_2_code) (maxL := 3) (ret := (some .boolean)) (by decide) rfl ?_
  intro p e s m args below meth c s₁ B hml hv
  obtain ⟨rfl, ⟨hZ, hG, hK, hN⟩, hw⟩ := hv
  have hx := B.exec
  have hb := B.bytes
  have hr := B.returns
  have hts := atoms_spec (ws := ks_Mo_isIn) B.pre
  have hown : s.vm.findClass kR_Mo = some m.cls := findClass_of_methodNamed B.named
  have hlocks := B.notSynchronized
  have hS : va_S (fun q => Z ≤ q) s.heap s.heap [] := va_S.rf
  have hl := lv_entry ([.int x1, .int x2, .int x3]) (n := 3) (Nat.le_of_ble_eq_true rfl)
  rw [lg_entry_eq]
  generalize (lg_sl ([.int x1, .int x2, .int x3]) ++ List.replicate (3 - (lg_sl ([.int x1, .int x2, .int x3])).length) Slot.unset).toArray = ls at hl ⊢
  have hl : lv_has ls 3 [(0, .int x1), (1, .int x2), (2, .int x3)] := hl
  unfold kp_Mo_isIn at hw
  refine lv_iload_n hx hb kb_Mo_isIn_0 rfl (lv_at hl 0 rfl) ?_
  refine lv_iload_n hx hb kb_Mo_isIn_1 rfl (lv_at hl 1 rfl) ?_
  refine lv_icmp_lt (tgt := 14) hx hb kb_Mo_isIn_2 (by decide) (fun hc => ?_) (fun hc => ?_)
  · have hw := hw.1 hc
    refine lv_iconst (v := (0 : Int32)) hx hb kb_Mo_isIn_14 (by decide) ?_
    exact zr_iret (free := fun q => Z ≤ q) z_nwN hx hb hr rfl hZ hK hN hG hS hw kb_Mo_isIn_15 hlocks
  · have hw := hw.2 hc
    refine lv_iload_n hx hb kb_Mo_isIn_5 rfl (lv_at hl 0 rfl) ?_
    refine lv_iload_n hx hb kb_Mo_isIn_6 rfl (lv_at hl 2 rfl) ?_
    refine lv_icmp_gt (tgt := 14) hx hb kb_Mo_isIn_7 (by decide) (fun hc => ?_) (fun hc => ?_)
    · have hw := hw.1 hc
      refine lv_iconst (v := (0 : Int32)) hx hb kb_Mo_isIn_14 (by decide) ?_
      exact zr_iret (free := fun q => Z ≤ q) z_nwN hx hb hr rfl hZ hK hN hG hS hw kb_Mo_isIn_15 hlocks
    · have hw := hw.2 hc
      refine lv_iconst (v := (1 : Int32)) hx hb kb_Mo_isIn_10 (by decide) ?_
      refine lv_goto (tgt := 15) hx hb kb_Mo_isIn_11 (by decide) ?_
      exact zr_iret (free := fun q => Z ≤ q) z_nwN hx hb hr rfl hZ hK hN hG hS hw kb_Mo_isIn_15 hlocks
def kp_Mo_wrong (a0 : Nat) (x1 : Int32) (σ : z_S) (Post : z_S → Prop) : Prop :=     (z_ty σ a0 = some (.inl 8) ∧ ((¬ ((z_I σ 806 a0)) = 0 → Post σ) ∧ (((z_I σ 806 a0)) = 0 → z_ty σ a0 = some (.inl 8) ∧ ∀ σ9, σ9 = z_sI σ 806 a0 x1 → z_ty σ9 a0 = some (.inl 8) ∧ ∃ r14, z_R σ9 803 a0 = some r14 ∧ (z_ty σ9 a0 = some (.inl 8) ∧ (∃ n21 s21, z_ty σ9 r14 = some (.inr (0, n21, s21)) ∧ vp_in (z_I σ9 805 a0) n21 ∧ (z_ty σ9 a0 = some (.inl 8) ∧ ∀ σ22, σ22 = z_sI σ9 807 a0 (z_A σ9 s21 r14 (z_I σ9 805 a0).toNatClampNeg) → Post σ22))))))
set_option maxHeartbeats 4000000 in
set_option maxRecDepth 100000 in
theorem kc_Mo_wrong (l : Launch) (D : va_G) (dA : Nat → ClassId) (Z : Nat) (a0 : Nat) (x1 : Int32) (σ : z_S) (Post : z_S → Prop) : Met l km_Mo_wrong ks_Mo_wrong kr_Mo_wrong (va_Pc [.ref a0, .int x1] (fun U => z_U D z_cl z_KT dA Z (z_tys dA) z_nw σ U ∧ kp_Mo_wrong  a0 x1 σ Post)) (z_Qv D z_cl z_KT dA Z (z_tys dA) z_nw Post) 0 0 (fun q => Z ≤ q) := by
  refine Met.ofW (cc := prog_10_method_3_code) (maxL := 2) (ret := none) (by decide) rfl ?_
  intro p e s m args below meth c s₁ B hml hv
  obtain ⟨rfl, ⟨hZ, hG, hK, hN⟩, hw⟩ := hv
  have hx := B.exec
  have hb := B.bytes
  have hr := B.returns
  have hts := atoms_spec (ws := ks_Mo_wrong) B.pre
  have hown : s.vm.findClass kR_Mo = some m.cls := findClass_of_methodNamed B.named
  have hlocks := B.notSynchronized
  have hS : va_S (fun q => Z ≤ q) s.heap s.heap [] := va_S.rf
  have hl := lv_entry ([.ref a0, .int x1]) (n := 2) (Nat.le_of_ble_eq_true rfl)
  rw [lg_entry_eq]
  generalize (lg_sl ([.ref a0, .int x1]) ++ List.replicate (2 - (lg_sl ([.ref a0, .int x1])).length) Slot.unset).toArray = ls at hl ⊢
  have hl : lv_has ls 2 [(0, .ref a0), (1, .int x1)] := hl
  unfold kp_Mo_wrong at hw
  refine lv_aload_n hx hb kb_Mo_wrong_0 rfl (lv_at hl 0 rfl) ?_
  obtain ⟨hy, hw⟩ := hw
  refine zr_getI (ci := 8) (f := 806) hx hb hts ki_Mo hown hK hG hy rfl 6 (by decide) (hts _ (List.mem_cons_of_mem _ kw_590)) (fun _ h => h) rfl rfl kb_Mo_wrong_1 ?_
  refine lv_if_ne (tgt := 25) hx hb kb_Mo_wrong_4 (by decide) (fun hc => ?_) (fun hc => ?_)
  · have hw := hw.1 hc
    exact zr_vret z_nwN hx hb hr hZ hK hN hG hS hw kb_Mo_wrong_25 hlocks
  · have hw := hw.2 hc
    refine lv_aload_n hx hb kb_Mo_wrong_7 rfl (lv_at hl 0 rfl) ?_
    refine lv_iload_n hx hb kb_Mo_wrong_8 rfl (lv_at hl 1 rfl) ?_
    obtain ⟨hy, hw⟩ := hw
    refine zr_putI (ci := 8) (f := 806) hx hb hts ki_Mo ky_Mo kyo_Mo kn_Mo hown hK hG hS hy rfl 6 (by decide) (hts _ (List.mem_cons_of_mem _ kw_590)) (fun _ h => h) rfl rfl rfl rfl rfl kb_Mo_wrong_9 (fun H locs hG hS => ?_)
    obtain ⟨σ9, e9⟩ : ∃ z, z = z_sI σ 806 a0 x1 := ⟨_, rfl⟩
    rw [← e9] at hG
    have hw := hw _ e9
    refine lv_aload_n hx hb kb_Mo_wrong_12 rfl (lv_at hl 0 rfl) ?_
    refine lv_aload_n hx hb kb_Mo_wrong_13 rfl (lv_at hl 0 rfl) ?_
    obtain ⟨hy, r14, hrf, hw⟩ := hw
    refine zr_getR (ci := 8) (f := 803) hx hb hts ki_Mo hown hK hG hy rfl 3 (by decide) (hts _ (List.mem_cons_of_mem _ kw_587)) (fun _ h => h) rfl rfl hrf kb_Mo_wrong_14 ?_
    refine lv_aload_n hx hb kb_Mo_wrong_17 rfl (lv_at hl 0 rfl) ?_
    obtain ⟨hy, hw⟩ := hw
    refine zr_getI (ci := 8) (f := 805) hx hb hts ki_Mo hown hK hG hy rfl 5 (by decide) (hts _ (List.mem_cons_of_mem _ kw_589)) (fun _ h => h) rfl rfl kb_Mo_wrong_18 ?_
    obtain ⟨n21, s21, hy, hi, hw⟩ := hw
    refine zr_iald hx hb hK hG 0 hy rfl hi kb_Mo_wrong_21 ?_
    obtain ⟨hy, hw⟩ := hw
    refine zr_putI (ci := 8) (f := 807) hx hb hts ki_Mo ky_Mo kyo_Mo kn_Mo hown hK hG hS hy rfl 7 (by decide) (hts _ (List.mem_cons_of_mem _ kw_591)) (fun _ h => h) rfl rfl rfl rfl rfl kb_Mo_wrong_22 (fun H locs hG hS => ?_)
    obtain ⟨σ22, e22⟩ : ∃ z, z = z_sI σ9 807 a0 (z_A σ9 s21 r14 (z_I σ9 805 a0).toNatClampNeg) := ⟨_, rfl⟩
    rw [← e22] at hG
    have hw := hw _ e22
    exact zr_vret z_nwN hx hb hr hZ hK hN hG hS hw kb_Mo_wrong_25 hlocks
def kp_Mo_sign (a0 : Nat) (σ : z_S) (Post : Int32 → z_S → Prop) : Prop :=     (z_ty σ a0 = some (.inl 8) ∧ ∃ r1, z_R σ 802 a0 = some r1 ∧ (z_ty σ a0 = some (.inl 8) ∧ (∃ n8 s8, z_ty σ r1 = some (.inr (0, n8, s8)) ∧ vp_in (z_I σ 805 a0) n8 ∧ (Post (z_A σ s8 r1 (z_I σ 805 a0).toNatClampNeg) σ))))
set_option maxHeartbeats 4000000 in
set_option maxRecDepth 100000 in
theorem kc_Mo_sign (l : Launch) (D : va_G) (dA : Nat → ClassId) (Z : Nat) (a0 : Nat) (σ : z_S) (Post : Int32 → z_S → Prop) : Met l km_Mo_sign ks_Mo_sign kr_Mo_sign (va_Pc [.ref a0] (fun U => z_U D z_cl z_KT dA Z (z_tys dA) z_nw σ U ∧ kp_Mo_sign  a0 σ Post)) (z_Qi D z_cl z_KT dA Z (z_tys dA) z_nw Post) 0 0 (fun q => Z ≤ q) := by
  refine Met.ofW (cc := prog_10_method_4_code) (maxL := 1) (ret := (some .int)) (by decide) rfl ?_
  intro p e s m args below meth c s₁ B hml hv
  obtain ⟨rfl, ⟨hZ, hG, hK, hN⟩, hw⟩ := hv
  have hx := B.exec
  have hb := B.bytes
  have hr := B.returns
  have hts := atoms_spec (ws := ks_Mo_sign) B.pre
  have hown : s.vm.findClass kR_Mo = some m.cls := findClass_of_methodNamed B.named
  have hlocks := B.notSynchronized
  have hS : va_S (fun q => Z ≤ q) s.heap s.heap [] := va_S.rf
  have hl := lv_entry ([.ref a0]) (n := 1) (Nat.le_of_ble_eq_true rfl)
  rw [lg_entry_eq]
  generalize (lg_sl ([.ref a0]) ++ List.replicate (1 - (lg_sl ([.ref a0])).length) Slot.unset).toArray = ls at hl ⊢
  have hl : lv_has ls 1 [(0, .ref a0)] := hl
  unfold kp_Mo_sign at hw
  refine lv_aload_n hx hb kb_Mo_sign_0 rfl (lv_at hl 0 rfl) ?_
  obtain ⟨hy, r1, hrf, hw⟩ := hw
  refine zr_getR (ci := 8) (f := 802) hx hb hts ki_Mo hown hK hG hy rfl 2 (by decide) (hts _ (List.mem_cons_of_mem _ kw_586)) (fun _ h => h) rfl rfl hrf kb_Mo_sign_1 ?_
  refine lv_aload_n hx hb kb_Mo_sign_4 rfl (lv_at hl 0 rfl) ?_
  obtain ⟨hy, hw⟩ := hw
  refine zr_getI (ci := 8) (f := 805) hx hb hts ki_Mo hown hK hG hy rfl 5 (by decide) (hts _ (List.mem_cons_of_mem _ kw_589)) (fun _ h => h) rfl rfl kb_Mo_sign_5 ?_
  obtain ⟨n8, s8, hy, hi, hw⟩ := hw
  refine zr_iald hx hb hK hG 0 hy rfl hi kb_Mo_sign_8 ?_
  exact zr_iret (free := fun q => Z ≤ q) z_nwN hx hb hr rfl hZ hK hN hG hS hw kb_Mo_sign_9 hlocks
def kp_Mo_take (a0 : Nat) (x1 : Int32) (σ : z_S) (Post : z_S → Prop) : Prop := ∀ (X20 : z_S → Prop) (X37 : Nat → Int32 → Int32 → z_S → Prop),
    (∀ (σ : z_S), (z_ty σ a0 = some (.inl 8) ∧ (z_ty σ a0 = some (.inl 8) ∧ ((¬ ((z_I σ 806 a0)) = 0 → X37 a0 (z_I σ 805 a0) ((0 : Int32)) σ) ∧ (((z_I σ 806 a0)) = 0 → X37 a0 (z_I σ 805 a0) ((1 : Int32)) σ)))) → X20 σ) →
    (∀ (t0 : Nat) (t1 : Int32) (t2 : Int32) (σ : z_S), (z_ty σ t0 = some (.inl 8) ∧ ∀ σ38, σ38 = z_sI σ 805 t0 (t1 + t2) → Post σ38) → X37 t0 t1 t2 σ) →
    (z_ty σ a0 = some (.inl 8) ∧ ((¬ ((z_I σ 806 a0)) = 0 → X20 σ) ∧ (((z_I σ 806 a0)) = 0 → z_ty σ a0 = some (.inl 8) ∧ kp_Mo_sign a0 σ (fun (r8 : Int32) (σ8 : z_S) => (r8 = x1 → X20 σ8) ∧ (¬ r8 = x1 → z_ty σ8 a0 = some (.inl 8) ∧ kp_Mo_wrong a0 ((1 : Int32)) σ8 (fun (σ17 : z_S) => X20 σ17))))))
set_option maxHeartbeats 4000000 in
set_option maxRecDepth 100000 in
theorem kc_Mo_take (l : Launch) (D : va_G) (dA : Nat → ClassId) (Z : Nat) (a0 : Nat) (x1 : Int32) (σ : z_S) (Post : z_S → Prop) : Met l km_Mo_take ks_Mo_take kr_Mo_take (va_Pc [.ref a0, .int x1] (fun U => z_U D z_cl z_KT dA Z (z_tys dA) z_nw σ U ∧ kp_Mo_take  a0 x1 σ Post)) (z_Qv D z_cl z_KT dA Z (z_tys dA) z_nw Post) 0 0 (fun q => Z ≤ q) := by
  refine Met.ofW (cc := prog_10_method_5_code) (maxL := 2) (ret := none) (by decide) rfl ?_
  intro p e s m args below meth c s₁ B hml hv
  obtain ⟨rfl, ⟨hZ, hG, hK, hN⟩, hw⟩ := hv
  have hx := B.exec
  have hb := B.bytes
  have hr := B.returns
  have hts := atoms_spec (ws := ks_Mo_take) B.pre
  have hown : s.vm.findClass kR_Mo = some m.cls := findClass_of_methodNamed B.named
  have hlocks := B.notSynchronized
  have hS : va_S (fun q => Z ≤ q) s.heap s.heap [] := va_S.rf
  have hl := lv_entry ([.ref a0, .int x1]) (n := 2) (Nat.le_of_ble_eq_true rfl)
  rw [lg_entry_eq]
  generalize (lg_sl ([.ref a0, .int x1]) ++ List.replicate (2 - (lg_sl ([.ref a0, .int x1])).length) Slot.unset).toArray = ls at hl ⊢
  have hl : lv_has ls 2 [(0, .ref a0), (1, .int x1)] := hl
  unfold kp_Mo_take at hw
  have hw := hw (fun (σ : z_S) => ∀ (H : Heap) (locs : List Loc) (ls : Array Slot), z_G D z_cl z_KT dA Z σ H → va_S (fun q => Z ≤ q) s.heap H locs → lv_has ls 2 [(0, .ref a0)] → W p l e (headSpec ks_Mo_take kr_Mo_take).room s m ([.ref a0, .int x1] : List Value).toArray below meth c H locs 0 0 (MQ below (z_Qv D z_cl z_KT dA Z (z_tys dA) z_nw Post) ([.ref a0, .int x1] : List Value).toArray s 0 0 (fun q => Z ≤ q)) (F0 m 20 ls []))
  have hw := hw (fun (t0 : Nat) (t1 : Int32) (t2 : Int32) (σ : z_S) => ∀ (H : Heap) (locs : List Loc) (ls : Array Slot), z_G D z_cl z_KT dA Z σ H → va_S (fun q => Z ≤ q) s.heap H locs → lv_has ls 2 [] → W p l e (headSpec ks_Mo_take kr_Mo_take).room s m ([.ref a0, .int x1] : List Value).toArray below meth c H locs 0 0 (MQ below (z_Qv D z_cl z_KT dA Z (z_tys dA) z_nw Post) ([.ref a0, .int x1] : List Value).toArray s 0 0 (fun q => Z ≤ q)) (F0 m 37 ls [.int t2, .int t1, .ref t0]))
  have hw := hw (by
    intro σ hw H locs ls hG hS hl
    refine lv_aload_n hx hb kb_Mo_take_20 rfl (lv_at hl 0 rfl) ?_
    refine lv_dup hx hb kb_Mo_take_21 rfl ?_
    obtain ⟨hy, hw⟩ := hw
    refine zr_getI (ci := 8) (f := 805) hx hb hts ki_Mo hown hK hG hy rfl 5 (by decide) (hts _ (List.mem_cons_of_mem _ kw_589)) (fun _ h => h) rfl rfl kb_Mo_take_22 ?_
    refine lv_aload_n hx hb kb_Mo_take_25 rfl (lv_at hl 0 rfl) ?_
    obtain ⟨hy, hw⟩ := hw
    refine zr_getI (ci := 8) (f := 806) hx hb hts ki_Mo hown hK hG hy rfl 6 (by decide) (hts _ (List.mem_cons_of_mem _ kw_590)) (fun _ h => h) rfl rfl kb_Mo_take_26 ?_
    refine lv_if_ne (tgt := 36) hx hb kb_Mo_take_29 (by decide) (fun hc => ?_) (fun hc => ?_)
    · have hw := hw.1 hc
      refine lv_iconst (v := (0 : Int32)) hx hb kb_Mo_take_36 (by decide) ?_
      exact hw _ _ _ hG hS (lv_sub hl [] rfl)
    · have hw := hw.2 hc
      refine lv_iconst (v := (1 : Int32)) hx hb kb_Mo_take_32 (by decide) ?_
      refine lv_goto (tgt := 37) hx hb kb_Mo_take_33 (by decide) ?_
      exact hw _ _ _ hG hS (lv_sub hl [] rfl))
  have hw := hw (by
    intro t0 t1 t2 σ hw H locs ls hG hS hl
    refine lv_iadd hx hb kb_Mo_take_37 ?_
    obtain ⟨hy, hw⟩ := hw
    refine zr_putI (ci := 8) (f := 805) hx hb hts ki_Mo ky_Mo kyo_Mo kn_Mo hown hK hG hS hy rfl 5 (by decide) (hts _ (List.mem_cons_of_mem _ kw_589)) (fun _ h => h) rfl rfl rfl rfl rfl kb_Mo_take_38 (fun H locs hG hS => ?_)
    obtain ⟨σ38, e38⟩ : ∃ z, z = z_sI σ 805 t0 (t1 + t2) := ⟨_, rfl⟩
    rw [← e38] at hG
    have hw := hw _ e38
    exact zr_vret z_nwN hx hb hr hZ hK hN hG hS hw kb_Mo_take_41 hlocks)
  refine lv_aload_n hx hb kb_Mo_take_0 rfl (lv_at hl 0 rfl) ?_
  obtain ⟨hy, hw⟩ := hw
  refine zr_getI (ci := 8) (f := 806) hx hb hts ki_Mo hown hK hG hy rfl 6 (by decide) (hts _ (List.mem_cons_of_mem _ kw_590)) (fun _ h => h) rfl rfl kb_Mo_take_1 ?_
  refine lv_if_ne (tgt := 20) hx hb kb_Mo_take_4 (by decide) (fun hc => ?_) (fun hc => ?_)
  · have hw := hw.1 hc
    exact hw _ _ _ hG hS (lv_sub hl [0] rfl)
  · have hw := hw.2 hc
    refine lv_aload_n hx hb kb_Mo_take_7 rfl (lv_at hl 0 rfl) ?_
    obtain ⟨hy, hw⟩ := hw
    refine zr_ci (va_runV (C := kR_Mo) (As := []) (rest := []) ⟨hx, hb, hml, hown, hts⟩ (kc_Mo_sign l D dA Z a0 σ _) ⟨callB_of 0 hts (z_gw kw_706) rfl rfl rfl (hts _ (List.mem_cons_of_mem _ kw_9)) (hts _ (List.mem_cons_of_mem _ kw_704)) (by decide +kernel) ⟨Nat.le_of_ble_eq_true rfl, Nat.le_of_ble_eq_true rfl⟩, (hts _ (List.mem_cons_of_mem _ kw_705)), (hts _ (List.mem_cons_of_mem _ kw_954))⟩ (z_preV z_nwN (Nat.le_trans hZ hS.1) hG hK hN hy (ci := 8) (r := (kR_Mo, kT_Mo, 51)) rfl hw) rfl rfl hl.1 rfl (lv_room (Nat.le_of_ble_eq_true rfl)) kb_Mo_take_8 ⟨Nat.le_of_ble_eq_true rfl, Nat.le_of_ble_eq_true rfl⟩) hS (fun r8 σ8 H locs hw hG hS => ?_)
    refine lv_iload_n hx hb kb_Mo_take_11 rfl (lv_at hl 1 rfl) ?_
    refine lv_icmp_eq (tgt := 20) hx hb kb_Mo_take_12 (by decide) (fun hc => ?_) (fun hc => ?_)
    · have hw := hw.1 hc
      exact hw _ _ _ hG hS (lv_sub hl [0] rfl)
    · have hw := hw.2 hc
      refine lv_aload_n hx hb kb_Mo_take_15 rfl (lv_at hl 0 rfl) ?_
      refine lv_iconst (v := (1 : Int32)) hx hb kb_Mo_take_16 (by decide) ?_
      obtain ⟨hy, hw⟩ := hw
      refine zr_cv (va_runV (C := kR_Mo) (As := [.int ((1 : Int32))]) (rest := []) ⟨hx, hb, hml, hown, hts⟩ (kc_Mo_wrong l D dA Z a0 ((1 : Int32)) σ8 _) ⟨callB_of 1 hts (z_gw kw_712) rfl rfl rfl (hts _ (List.mem_cons_of_mem _ kw_9)) (hts _ (List.mem_cons_of_mem _ kw_710)) (by decide +kernel) ⟨Nat.le_of_ble_eq_true rfl, Nat.le_of_ble_eq_true rfl⟩, (hts _ (List.mem_cons_of_mem _ kw_711)), (hts _ (List.mem_cons_of_mem _ kw_955))⟩ (z_preV z_nwN (Nat.le_trans hZ hS.1) hG hK hN hy (ci := 8) (r := (kR_Mo, kT_Mo, 51)) rfl hw) rfl rfl hl.1 rfl (lv_room (Nat.le_of_ble_eq_true rfl)) kb_Mo_take_17 ⟨Nat.le_of_ble_eq_true rfl, Nat.le_of_ble_eq_true rfl⟩) hS (fun σ17 H locs hw hG hS => ?_)
      exact hw _ _ _ hG hS (lv_sub hl [0] rfl)
def kp_Mo_count (x1 : Int32) (σ : z_S) (Post : Int32 → z_S → Prop) : Prop := ∀ (X4 : Int32 → Int32 → z_S → Prop),
    (∀ (v1 : Int32) (v2 : Int32) (σ : z_S), ((((26 : Int32)) ≤ v2 → Post v1 σ) ∧ (¬ ((26 : Int32)) ≤ v2 → X4 (v1 + ((x1 >>> (v2 &&& 31)) &&& ((1 : Int32)))) (v2 + (1 : Int32)) σ)) → X4 v1 v2 σ) →
    (X4 ((0 : Int32)) ((0 : Int32)) σ)
set_option maxHeartbeats 4000000 in
set_option maxRecDepth 100000 in
theorem kc_Mo_count (l : Launch) (D : va_G) (dA : Nat → ClassId) (Z : Nat) (x1 : Int32) (σ : z_S) (Post : Int32 → z_S → Prop) : Met l km_Mo_count ks_Mo_count kr_Mo_count (va_Pc [.int x1] (fun U => z_U D z_cl z_KT dA Z (z_tys dA) z_nw σ U ∧ kp_Mo_count  x1 σ Post)) (z_Qi D z_cl z_KT dA Z (z_tys dA) z_nw Post) 0 0 (fun q => Z ≤ q) := by
  refine Met.ofW (cc := prog_10_method_6_code) (maxL := 3) (ret := (some .int)) (by decide) rfl ?_
  intro p e s m args below meth c s₁ B hml hv
  obtain ⟨rfl, ⟨hZ, hG, hK, hN⟩, hw⟩ := hv
  have hx := B.exec
  have hb := B.bytes
  have hr := B.returns
  have hts := atoms_spec (ws := ks_Mo_count) B.pre
  have hown : s.vm.findClass kR_Mo = some m.cls := findClass_of_methodNamed B.named
  have hlocks := B.notSynchronized
  have hS : va_S (fun q => Z ≤ q) s.heap s.heap [] := va_S.rf
  have hl := lv_entry ([.int x1]) (n := 3) (Nat.le_of_ble_eq_true rfl)
  rw [lg_entry_eq]
  generalize (lg_sl ([.int x1]) ++ List.replicate (3 - (lg_sl ([.int x1])).length) Slot.unset).toArray = ls at hl ⊢
  have hl : lv_has ls 3 [(0, .int x1)] := hl
  unfold kp_Mo_count at hw
  have hw := hw (fun (v1 : Int32) (v2 : Int32) (σ : z_S) => ∀ (H : Heap) (locs : List Loc) (ls : Array Slot), z_G D z_cl z_KT dA Z σ H → va_S (fun q => Z ≤ q) s.heap H locs → lv_has ls 3 [(0, .int x1), (1, .int v1), (2, .int v2)] → W p l e (headSpec ks_Mo_count kr_Mo_count).room s m ([.int x1] : List Value).toArray below meth c H locs 0 0 (MQ below (z_Qi D z_cl z_KT dA Z (z_tys dA) z_nw Post) ([.int x1] : List Value).toArray s 0 0 (fun q => Z ≤ q)) (F0 m 4 ls []))
  have hw := hw (by
    intro v1 v2 σ hw H locs ls hG hS hl
    refine lv_iload_n hx hb kb_Mo_count_4 rfl (lv_at hl 2 rfl) ?_
    refine lv_bipush (v := (26 : Int32)) hx hb kb_Mo_count_5 (by decide) ?_
    refine lv_icmp_ge (tgt := 24) hx hb kb_Mo_count_7 (by decide) (fun hc => ?_) (fun hc => ?_)
    · have hw := hw.1 hc
      refine lv_iload_n hx hb kb_Mo_count_24 rfl (lv_at hl 1 rfl) ?_
      exact zr_iret (free := fun q => Z ≤ q) z_nwN hx hb hr rfl hZ hK hN hG hS hw kb_Mo_count_25 hlocks
    · have hw := hw.2 hc
      refine lv_iload_n hx hb kb_Mo_count_10 rfl (lv_at hl 1 rfl) ?_
      refine lv_iload_n hx hb kb_Mo_count_11 rfl (lv_at hl 0 rfl) ?_
      refine lv_iload_n hx hb kb_Mo_count_12 rfl (lv_at hl 2 rfl) ?_
      refine lv_ishr hx hb kb_Mo_count_13 ?_
      refine lv_iconst (v := (1 : Int32)) hx hb kb_Mo_count_14 (by decide) ?_
      refine lv_iand hx hb kb_Mo_count_15 ?_
      refine lv_iadd hx hb kb_Mo_count_16 ?_
      refine lv_istore_n (lv' := [(1, .int (v1 + ((x1 >>> (v2 &&& 31)) &&& ((1 : Int32))))), (0, .int x1), (2, .int v2)]) hx hb kb_Mo_count_17 rfl hl (by decide) rfl (fun ls hl => ?_)
      refine lv_iinc (v := v2 + (1 : Int32)) (lv' := [(2, .int (v2 + (1 : Int32))), (1, .int (v1 + ((x1 >>> (v2 &&& 31)) &&& ((1 : Int32))))), (0, .int x1)]) hx hb kb_Mo_count_18 hl (k := 2) rfl rfl (by decide) rfl (fun ls hl => ?_)
      refine lv_goto (tgt := 4) hx hb kb_Mo_count_21 (by decide) ?_
      exact hw _ _ _ hG hS (lv_sub hl [2, 1, 0] rfl))
  refine lv_iconst (v := (0 : Int32)) hx hb kb_Mo_count_0 (by decide) ?_
  refine lv_istore_n (lv' := [(1, .int ((0 : Int32))), (0, .int x1)]) hx hb kb_Mo_count_1 rfl hl (by decide) rfl (fun ls hl => ?_)
  refine lv_iconst (v := (0 : Int32)) hx hb kb_Mo_count_2 (by decide) ?_
  refine lv_istore_n (lv' := [(2, .int ((0 : Int32))), (1, .int ((0 : Int32))), (0, .int x1)]) hx hb kb_Mo_count_3 rfl hl (by decide) rfl (fun ls hl => ?_)
  exact hw _ _ _ hG hS (lv_sub hl [2, 1, 0] rfl)
def kp_Mo_isName (x1 : Int32) (σ : z_S) (Post : Int32 → z_S → Prop) : Prop :=     ((x1 < ((97 : Int32)) → Post ((0 : Int32)) σ) ∧ (¬ x1 < ((97 : Int32)) → (((122 : Int32)) < x1 → Post ((0 : Int32)) σ) ∧ (¬ ((122 : Int32)) < x1 → Post ((1 : Int32)) σ)))
set_option maxHeartbeats 4000000 in
set_option maxRecDepth 100000 in
theorem kc_Mo_isName (l : Launch) (D : va_G) (dA : Nat → ClassId) (Z : Nat) (x1 : Int32) (σ : z_S) (Post : Int32 → z_S → Prop) : Met l km_Mo_isName ks_Mo_isName kr_Mo_isName (va_Pc [.int x1] (fun U => z_U D z_cl z_KT dA Z (z_tys dA) z_nw σ U ∧ kp_Mo_isName  x1 σ Post)) (z_Qi D z_cl z_KT dA Z (z_tys dA) z_nw Post) 0 0 (fun q => Z ≤ q) := by
  refine Met.ofW (cc := prog_10_method_7_code) (maxL := 1) (ret := (some .boolean)) (by decide) rfl ?_
  intro p e s m args below meth c s₁ B hml hv
  obtain ⟨rfl, ⟨hZ, hG, hK, hN⟩, hw⟩ := hv
  have hx := B.exec
  have hb := B.bytes
  have hr := B.returns
  have hts := atoms_spec (ws := ks_Mo_isName) B.pre
  have hown : s.vm.findClass kR_Mo = some m.cls := findClass_of_methodNamed B.named
  have hlocks := B.notSynchronized
  have hS : va_S (fun q => Z ≤ q) s.heap s.heap [] := va_S.rf
  have hl := lv_entry ([.int x1]) (n := 1) (Nat.le_of_ble_eq_true rfl)
  rw [lg_entry_eq]
  generalize (lg_sl ([.int x1]) ++ List.replicate (1 - (lg_sl ([.int x1])).length) Slot.unset).toArray = ls at hl ⊢
  have hl : lv_has ls 1 [(0, .int x1)] := hl
  unfold kp_Mo_isName at hw
  refine lv_iload_n hx hb kb_Mo_isName_0 rfl (lv_at hl 0 rfl) ?_
  refine lv_bipush (v := (97 : Int32)) hx hb kb_Mo_isName_1 (by decide) ?_
  refine lv_icmp_lt (tgt := 16) hx hb kb_Mo_isName_3 (by decide) (fun hc => ?_) (fun hc => ?_)
  · have hw := hw.1 hc
    refine lv_iconst (v := (0 : Int32)) hx hb kb_Mo_isName_16 (by decide) ?_
    exact zr_iret (free := fun q => Z ≤ q) z_nwN hx hb hr rfl hZ hK hN hG hS hw kb_Mo_isName_17 hlocks
  · have hw := hw.2 hc
    refine lv_iload_n hx hb kb_Mo_isName_6 rfl (lv_at hl 0 rfl) ?_
    refine lv_bipush (v := (122 : Int32)) hx hb kb_Mo_isName_7 (by decide) ?_
    refine lv_icmp_gt (tgt := 16) hx hb kb_Mo_isName_9 (by decide) (fun hc => ?_) (fun hc => ?_)
    · have hw := hw.1 hc
      refine lv_iconst (v := (0 : Int32)) hx hb kb_Mo_isName_16 (by decide) ?_
      exact zr_iret (free := fun q => Z ≤ q) z_nwN hx hb hr rfl hZ hK hN hG hS hw kb_Mo_isName_17 hlocks
    · have hw := hw.2 hc
      refine lv_iconst (v := (1 : Int32)) hx hb kb_Mo_isName_12 (by decide) ?_
      refine lv_goto (tgt := 17) hx hb kb_Mo_isName_13 (by decide) ?_
      exact zr_iret (free := fun q => Z ≤ q) z_nwN hx hb hr rfl hZ hK hN hG hS hw kb_Mo_isName_17 hlocks
def kp_Mo_isVariable (x1 : Int32) (σ : z_S) (Post : Int32 → z_S → Prop) : Prop :=     ((x1 < ((65 : Int32)) → Post ((0 : Int32)) σ) ∧ (¬ x1 < ((65 : Int32)) → (((90 : Int32)) < x1 → Post ((0 : Int32)) σ) ∧ (¬ ((90 : Int32)) < x1 → Post ((1 : Int32)) σ)))
set_option maxHeartbeats 4000000 in
set_option maxRecDepth 100000 in
theorem kc_Mo_isVariable (l : Launch) (D : va_G) (dA : Nat → ClassId) (Z : Nat) (x1 : Int32) (σ : z_S) (Post : Int32 → z_S → Prop) : Met l km_Mo_isVariable ks_Mo_isVariable kr_Mo_isVariable (va_Pc [.int x1] (fun U => z_U D z_cl z_KT dA Z (z_tys dA) z_nw σ U ∧ kp_Mo_isVariable  x1 σ Post)) (z_Qi D z_cl z_KT dA Z (z_tys dA) z_nw Post) 0 0 (fun q => Z ≤ q) := by
  refine Met.ofW (cc := prog_10_method_8_code) (maxL := 1) (ret := (some .boolean)) (by decide) rfl ?_
  intro p e s m args below meth c s₁ B hml hv
  obtain ⟨rfl, ⟨hZ, hG, hK, hN⟩, hw⟩ := hv
  have hx := B.exec
  have hb := B.bytes
  have hr := B.returns
  have hts := atoms_spec (ws := ks_Mo_isVariable) B.pre
  have hown : s.vm.findClass kR_Mo = some m.cls := findClass_of_methodNamed B.named
  have hlocks := B.notSynchronized
  have hS : va_S (fun q => Z ≤ q) s.heap s.heap [] := va_S.rf
  have hl := lv_entry ([.int x1]) (n := 1) (Nat.le_of_ble_eq_true rfl)
  rw [lg_entry_eq]
  generalize (lg_sl ([.int x1]) ++ List.replicate (1 - (lg_sl ([.int x1])).length) Slot.unset).toArray = ls at hl ⊢
  have hl : lv_has ls 1 [(0, .int x1)] := hl
  unfold kp_Mo_isVariable at hw
  refine lv_iload_n hx hb kb_Mo_isVariable_0 rfl (lv_at hl 0 rfl) ?_
  refine lv_bipush (v := (65 : Int32)) hx hb kb_Mo_isVariable_1 (by decide) ?_
  refine lv_icmp_lt (tgt := 16) hx hb kb_Mo_isVariable_3 (by decide) (fun hc => ?_) (fun hc => ?_)
  · have hw := hw.1 hc
    refine lv_iconst (v := (0 : Int32)) hx hb kb_Mo_isVariable_16 (by decide) ?_
    exact zr_iret (free := fun q => Z ≤ q) z_nwN hx hb hr rfl hZ hK hN hG hS hw kb_Mo_isVariable_17 hlocks
  · have hw := hw.2 hc
    refine lv_iload_n hx hb kb_Mo_isVariable_6 rfl (lv_at hl 0 rfl) ?_
    refine lv_bipush (v := (90 : Int32)) hx hb kb_Mo_isVariable_7 (by decide) ?_
    refine lv_icmp_gt (tgt := 16) hx hb kb_Mo_isVariable_9 (by decide) (fun hc => ?_) (fun hc => ?_)
    · have hw := hw.1 hc
      refine lv_iconst (v := (0 : Int32)) hx hb kb_Mo_isVariable_16 (by decide) ?_
      exact zr_iret (free := fun q => Z ≤ q) z_nwN hx hb hr rfl hZ hK hN hG hS hw kb_Mo_isVariable_17 hlocks
    · have hw := hw.2 hc
      refine lv_iconst (v := (1 : Int32)) hx hb kb_Mo_isVariable_12 (by decide) ?_
      refine lv_goto (tgt := 17) hx hb kb_Mo_isVariable_13 (by decide) ?_
      exact zr_iret (free := fun q => Z ≤ q) z_nwN hx hb hr rfl hZ hK hN hG hS hw kb_Mo_isVariable_17 hlocks
def kp_Mo_isDigit (x1 : Int32) (σ : z_S) (Post : Int32 → z_S → Prop) : Prop :=     ((x1 < ((48 : Int32)) → Post ((0 : Int32)) σ) ∧ (¬ x1 < ((48 : Int32)) → (((57 : Int32)) < x1 → Post ((0 : Int32)) σ) ∧ (¬ ((57 : Int32)) < x1 → Post ((1 : Int32)) σ)))
set_option maxHeartbeats 4000000 in
set_option maxRecDepth 100000 in
theorem kc_Mo_isDigit (l : Launch) (D : va_G) (dA : Nat → ClassId) (Z : Nat) (x1 : Int32) (σ : z_S) (Post : Int32 → z_S → Prop) : Met l km_Mo_isDigit ks_Mo_isDigit kr_Mo_isDigit (va_Pc [.int x1] (fun U => z_U D z_cl z_KT dA Z (z_tys dA) z_nw σ U ∧ kp_Mo_isDigit  x1 σ Post)) (z_Qi D z_cl z_KT dA Z (z_tys dA) z_nw Post) 0 0 (fun q => Z ≤ q) := by
  refine Met.ofW (cc := prog_10_method_9_code) (maxL := 1) (ret := (some .boolean)) (by decide) rfl ?_
  intro p e s m args below meth c s₁ B hml hv
  obtain ⟨rfl, ⟨hZ, hG, hK, hN⟩, hw⟩ := hv
  have hx := B.exec
  have hb := B.bytes
  have hr := B.returns
  have hts := atoms_spec (ws := ks_Mo_isDigit) B.pre
  have hown : s.vm.findClass kR_Mo = some m.cls := findClass_of_methodNamed B.named
  have hlocks := B.notSynchronized
  have hS : va_S (fun q => Z ≤ q) s.heap s.heap [] := va_S.rf
  have hl := lv_entry ([.int x1]) (n := 1) (Nat.le_of_ble_eq_true rfl)
  rw [lg_entry_eq]
  generalize (lg_sl ([.int x1]) ++ List.replicate (1 - (lg_sl ([.int x1])).length) Slot.unset).toArray = ls at hl ⊢
  have hl : lv_has ls 1 [(0, .int x1)] := hl
  unfold kp_Mo_isDigit at hw
  refine lv_iload_n hx hb kb_Mo_isDigit_0 rfl (lv_at hl 0 rfl) ?_
  refine lv_bipush (v := (48 : Int32)) hx hb kb_Mo_isDigit_1 (by decide) ?_
  refine lv_icmp_lt (tgt := 16) hx hb kb_Mo_isDigit_3 (by decide) (fun hc => ?_) (fun hc => ?_)
  · have hw := hw.1 hc
    refine lv_iconst (v := (0 : Int32)) hx hb kb_Mo_isDigit_16 (by decide) ?_
    exact zr_iret (free := fun q => Z ≤ q) z_nwN hx hb hr rfl hZ hK hN hG hS hw kb_Mo_isDigit_17 hlocks
  · have hw := hw.2 hc
    refine lv_iload_n hx hb kb_Mo_isDigit_6 rfl (lv_at hl 0 rfl) ?_
    refine lv_bipush (v := (57 : Int32)) hx hb kb_Mo_isDigit_7 (by decide) ?_
    refine lv_icmp_gt (tgt := 16) hx hb kb_Mo_isDigit_9 (by decide) (fun hc => ?_) (fun hc => ?_)
    · have hw := hw.1 hc
      refine lv_iconst (v := (0 : Int32)) hx hb kb_Mo_isDigit_16 (by decide) ?_
      exact zr_iret (free := fun q => Z ≤ q) z_nwN hx hb hr rfl hZ hK hN hG hS hw kb_Mo_isDigit_17 hlocks
    · have hw := hw.2 hc
      refine lv_iconst (v := (1 : Int32)) hx hb kb_Mo_isDigit_12 (by decide) ?_
      refine lv_goto (tgt := 17) hx hb kb_Mo_isDigit_13 (by decide) ?_
      exact zr_iret (free := fun q => Z ≤ q) z_nwN hx hb hr rfl hZ hK hN hG hS hw kb_Mo_isDigit_17 hlocks
def kp_Mo_relationAt (a0 : Nat) (σ : z_S) (Post : Int32 → z_S → Prop) : Prop := ∀ (X21 : Int32 → Int32 → z_S → Prop) (X123 : Int32 → z_S → Prop),
    (∀ (v1 : Int32) (v2 : Int32) (σ : z_S), (z_ty σ a0 = some (.inl 8) ∧ (((z_I σ 817 a0) ≤ v2 → (¬ v1 = ((-1 : Int32)) → X123 v1 σ) ∧ (v1 = ((-1 : Int32)) → z_ty σ a0 = some (.inl 8) ∧ ((¬ (z_I σ 817 a0) = ((8 : Int32)) → z_ty σ a0 = some (.inl 8) ∧ (z_ty σ a0 = some (.inl 8) ∧ ∃ r81, z_R σ 818 a0 = some r81 ∧ (z_ty σ a0 = some (.inl 8) ∧ (z_ty σ a0 = some (.inl 8) ∧ kp_Mo_sign a0 σ (fun (r89 : Int32) (σ89 : z_S) => ∃ n92 s92, z_ty σ89 r81 = some (.inr (0, n92, s92)) ∧ vp_in (z_I σ 817 a0) n92 ∧ ∀ σ92, σ92 = z_sA σ89 s92 r81 (upd (z_A σ89 s92 r81) (z_I σ 817 a0).toNatClampNeg r89) → z_ty σ92 a0 = some (.inl 8) ∧ ∃ r94, z_R σ92 819 a0 = some r94 ∧ (z_ty σ92 a0 = some (.inl 8) ∧ (∃ n102 s102, z_ty σ92 r94 = some (.inr (0, n102, s102)) ∧ vp_in (z_I σ92 817 a0) n102 ∧ ∀ σ102, σ102 = z_sA σ92 s102 r94 (upd (z_A σ92 s102 r94) (z_I σ92 817 a0).toNatClampNeg ((0 : Int32))) → z_ty σ102 a0 = some (.inl 8) ∧ ∃ r104, z_R σ102 820 a0 = some r104 ∧ (z_ty σ102 a0 = some (.inl 8) ∧ (∃ n112 s112, z_ty σ102 r104 = some (.inr (2, n112, s112)) ∧ vp_in (z_I σ102 817 a0) n112 ∧ ∀ σ112, σ112 = z_sA σ102 s112 r104 (upd (z_A σ102 s112 r104) (z_I σ102 817 a0).toNatClampNeg (vp_nar .boolean ((0 : Int32)))) → z_ty σ112 a0 = some (.inl 8) ∧ (z_ty σ112 a0 = some (.inl 8) ∧ ∀ σ120, σ120 = z_sI σ112 817 a0 ((z_I σ112 817 a0) + ((1 : Int32))) → X123 (z_I σ 817 a0) σ120)))))))))) ∧ ((z_I σ 817 a0) = ((8 : Int32)) → z_ty σ a0 = some (.inl 8) ∧ kp_Mo_wrong a0 ((3 : Int32)) σ (fun (σ70 : z_S) => Post ((0 : Int32)) σ70))))) ∧ (¬ (z_I σ 817 a0) ≤ v2 → z_ty σ a0 = some (.inl 8) ∧ ∃ r30, z_R σ 818 a0 = some r30 ∧ (∃ n34 s34, z_ty σ r30 = some (.inr (0, n34, s34)) ∧ vp_in v2 n34 ∧ (z_ty σ a0 = some (.inl 8) ∧ kp_Mo_sign a0 σ (fun (r36 : Int32) (σ36 : z_S) => (¬ (z_A σ s34 r30 v2.toNatClampNeg) = r36 → X21 v1 (v2 + (1 : Int32)) σ36) ∧ ((z_A σ s34 r30 v2.toNatClampNeg) = r36 → X21 v2 (v2 + (1 : Int32)) σ36))))))) → X21 v1 v2 σ) →
    (∀ (v1 : Int32) (σ : z_S), (z_ty σ a0 = some (.inl 8) ∧ (z_ty σ a0 = some (.inl 8) ∧ ∀ σ130, σ130 = z_sI σ 805 a0 ((z_I σ 805 a0) + ((1 : Int32))) → Post v1 σ130)) → X123 v1 σ) →
    (z_ty σ a0 = some (.inl 8) ∧ kp_Mo_sign a0 σ (fun (r1 : Int32) (σ1 : z_S) => kp_Mo_isName r1 σ1 (fun (r4 : Int32) (σ4 : z_S) => (¬ r4 = 0 → X21 ((-1 : Int32)) ((0 : Int32)) σ4) ∧ (r4 = 0 → z_ty σ4 a0 = some (.inl 8) ∧ kp_Mo_wrong a0 ((1 : Int32)) σ4 (fun (σ12 : z_S) => Post ((0 : Int32)) σ12)))))
set_option maxHeartbeats 4000000 in
set_option maxRecDepth 100000 in
theorem kc_Mo_relationAt (l : Launch) (D : va_G) (dA : Nat → ClassId) (Z : Nat) (a0 : Nat) (σ : z_S) (Post : Int32 → z_S → Prop) : Met l km_Mo_relationAt ks_Mo_relationAt kr_Mo_relationAt (va_Pc [.ref a0] (fun U => z_U D z_cl z_KT dA Z (z_tys dA) z_nw σ U ∧ kp_Mo_relationAt  a0 σ Post)) (z_Qi D z_cl z_KT dA Z (z_tys dA) z_nw Post) 0 0 (fun q => Z ≤ q) := by
  refine Met.ofW (cc := prog_10_method_10_code) (maxL := 3) (ret := (some .int)) (by decide) rfl ?_
  intro p e s m args below meth c s₁ B hml hv
  obtain ⟨rfl, ⟨hZ, hG, hK, hN⟩, hw⟩ := hv
  have hx := B.exec
  have hb := B.bytes
  have hr := B.returns
  have hts := atoms_spec (ws := ks_Mo_relationAt) B.pre
  have hown : s.vm.findClass kR_Mo = some m.cls := findClass_of_methodNamed B.named
  have hlocks := B.notSynchronized
  have hS : va_S (fun q => Z ≤ q) s.heap s.heap [] := va_S.rf
  have hl := lv_entry ([.ref a0]) (n := 3) (Nat.le_of_ble_eq_true rfl)
  rw [lg_entry_eq]
  generalize (lg_sl ([.ref a0]) ++ List.replicate (3 - (lg_sl ([.ref a0])).length) Slot.unset).toArray = ls at hl ⊢
  have hl : lv_has ls 3 [(0, .ref a0)] := hl
  unfold kp_Mo_relationAt at hw
  have hw := hw (fun (v1 : Int32) (v2 : Int32) (σ : z_S) => ∀ (H : Heap) (locs : List Loc) (ls : Array Slot), z_G D z_cl z_KT dA Z σ H → va_S (fun q => Z ≤ q) s.heap H locs → lv_has ls 3 [(0, .ref a0), (1, .int v1), (2, .int v2)] → W p l e (headSpec ks_Mo_relationAt kr_Mo_relationAt).room s m ([.ref a0] : List Value).toArray below meth c H locs 0 0 (MQ below (z_Qi D z_cl z_KT dA Z (z_tys dA) z_nw Post) ([.ref a0] : List Value).toArray s 0 0 (fun q => Z ≤ q)) (F0 m 21 ls []))
  have hw := hw (fun (v1 : Int32) (σ : z_S) => ∀ (H : Heap) (locs : List Loc) (ls : Array Slot), z_G D z_cl z_KT dA Z σ H → va_S (fun q => Z ≤ q) s.heap H locs → lv_has ls 3 [(0, .ref a0), (1, .int v1)] → W p l e (headSpec ks_Mo_relationAt kr_Mo_relationAt).room s m ([.ref a0] : List Value).toArray below meth c H locs 0 0 (MQ below (z_Qi D z_cl z_KT dA Z (z_tys dA) z_nw Post) ([.ref a0] : List Value).toArray s 0 0 (fun q => Z ≤ q)) (F0 m 123 ls []))
  have hw := hw (by
    intro v1 v2 σ hw H locs ls hG hS hl
    refine lv_iload_n hx hb kb_Mo_relationAt_21 rfl (lv_at hl 2 rfl) ?_
    refine lv_aload_n hx hb kb_Mo_relationAt_22 rfl (lv_at hl 0 rfl) ?_
    obtain ⟨hy, hw⟩ := hw
    refine zr_getI (ci := 8) (f := 817) hx hb hts ki_Mo hown hK hG hy rfl 17 (by decide) (hts _ (List.mem_cons_of_mem _ kw_601)) (fun _ h => h) rfl rfl kb_Mo_relationAt_23 ?_
    refine lv_icmp_ge (tgt := 54) hx hb kb_Mo_relationAt_26 (by decide) (fun hc => ?_) (fun hc => ?_)
    · have hw := hw.1 hc
      refine lv_iload_n hx hb kb_Mo_relationAt_54 rfl (lv_at hl 1 rfl) ?_
      refine lv_iconst (v := (-1 : Int32)) hx hb kb_Mo_relationAt_55 (by decide) ?_
      refine lv_icmp_ne (tgt := 123) hx hb kb_Mo_relationAt_56 (by decide) (fun hc => ?_) (fun hc => ?_)
      · have hw := hw.1 hc
        exact hw _ _ _ hG hS (lv_sub hl [0, 1] rfl)
      · have hw := hw.2 hc
        refine lv_aload_n hx hb kb_Mo_relationAt_59 rfl (lv_at hl 0 rfl) ?_
        obtain ⟨hy, hw⟩ := hw
        refine zr_getI (ci := 8) (f := 817) hx hb hts ki_Mo hown hK hG hy rfl 17 (by decide) (hts _ (List.mem_cons_of_mem _ kw_601)) (fun _ h => h) rfl rfl kb_Mo_relationAt_60 ?_
        refine lv_bipush (v := (8 : Int32)) hx hb kb_Mo_relationAt_63 (by decide) ?_
        refine lv_icmp_ne (tgt := 75) hx hb kb_Mo_relationAt_65 (by decide) (fun hc => ?_) (fun hc => ?_)
        · have hw := hw.1 hc
          refine lv_aload_n hx hb kb_Mo_relationAt_75 rfl (lv_at hl 0 rfl) ?_
          obtain ⟨hy, hw⟩ := hw
          refine zr_getI (ci := 8) (f := 817) hx hb hts ki_Mo hown hK hG hy rfl 17 (by decide) (hts _ (List.mem_cons_of_mem _ kw_601)) (fun _ h => h) rfl rfl kb_Mo_relationAt_76 ?_
          refine lv_istore_n (lv' := [(1, .int (z_I σ 817 a0)), (0, .ref a0), (2, .int v2)]) hx hb kb_Mo_relationAt_79 rfl hl (by decide) rfl (fun ls hl => ?_)
          refine lv_aload_n hx hb kb_Mo_relationAt_80 rfl (lv_at hl 1 rfl) ?_
          obtain ⟨hy, r81, hrf, hw⟩ := hw
          refine zr_getR (ci := 8) (f := 818) hx hb hts ki_Mo hown hK hG hy rfl 18 (by decide) (hts _ (List.mem_cons_of_mem _ kw_602)) (fun _ h => h) rfl rfl hrf kb_Mo_relationAt_81 ?_
          refine lv_aload_n hx hb kb_Mo_relationAt_84 rfl (lv_at hl 1 rfl) ?_
          obtain ⟨hy, hw⟩ := hw
          refine zr_getI (ci := 8) (f := 817) hx hb hts ki_Mo hown hK hG hy rfl 17 (by decide) (hts _ (List.mem_cons_of_mem _ kw_601)) (fun _ h => h) rfl rfl kb_Mo_relationAt_85 ?_
          refine lv_aload_n hx hb kb_Mo_relationAt_88 rfl (lv_at hl 1 rfl) ?_
          obtain ⟨hy, hw⟩ := hw
          refine zr_ci (va_runV (C := kR_Mo) (As := []) (rest := [.int (z_I σ 817 a0), .ref r81]) ⟨hx, hb, hml, hown, hts⟩ (kc_Mo_sign l D dA Z a0 σ _) ⟨callB_of 0 hts (z_gw kw_706) rfl rfl rfl (hts _ (List.mem_cons_of_mem _ kw_9)) (hts _ (List.mem_cons_of_mem _ kw_704)) (by decide +kernel) ⟨Nat.le_of_ble_eq_true rfl, Nat.le_of_ble_eq_true rfl⟩, (hts _ (List.mem_cons_of_mem _ kw_705)), (hts _ (List.mem_cons_of_mem _ kw_954))⟩ (z_preV z_nwN (Nat.le_trans hZ hS.1) hG hK hN hy (ci := 8) (r := (kR_Mo, kT_Mo, 51)) rfl hw) rfl rfl hl.1 rfl (lv_room (Nat.le_of_ble_eq_true rfl)) kb_Mo_relationAt_89 ⟨Nat.le_of_ble_eq_true rfl, Nat.le_of_ble_eq_true rfl⟩) hS (fun r89 σ89 H locs hw hG hS => ?_)
          obtain ⟨n92, s92, hy, hi, hw⟩ := hw
          refine zr_iast hx hb hK hG hS 0 hy rfl hi kb_Mo_relationAt_92 (fun H locs hG hS => ?_)
          obtain ⟨σ92, e92⟩ : ∃ z, z = z_sA σ89 s92 r81 (upd (z_A σ89 s92 r81) (z_I σ 817 a0).toNatClampNeg r89) := ⟨_, rfl⟩
          rw [← e92] at hG
          have hw := hw _ e92
          refine lv_aload_n hx hb kb_Mo_relationAt_93 rfl (lv_at hl 1 rfl) ?_
          obtain ⟨hy, r94, hrf, hw⟩ := hw
          refine zr_getR (ci := 8) (f := 819) hx hb hts ki_Mo hown hK hG hy rfl 19 (by decide) (hts _ (List.mem_cons_of_mem _ kw_603)) (fun _ h => h) rfl rfl hrf kb_Mo_relationAt_94 ?_
          refine lv_aload_n hx hb kb_Mo_relationAt_97 rfl (lv_at hl 1 rfl) ?_
          obtain ⟨hy, hw⟩ := hw
          refine zr_getI (ci := 8) (f := 817) hx hb hts ki_Mo hown hK hG hy rfl 17 (by decide) (hts _ (List.mem_cons_of_mem _ kw_601)) (fun _ h => h) rfl rfl kb_Mo_relationAt_98 ?_
          refine lv_iconst (v := (0 : Int32)) hx hb kb_Mo_relationAt_101 (by decide) ?_
          obtain ⟨n102, s102, hy, hi, hw⟩ := hw
          refine zr_iast hx hb hK hG hS 0 hy rfl hi kb_Mo_relationAt_102 (fun H locs hG hS => ?_)
          obtain ⟨σ102, e102⟩ : ∃ z, z = z_sA σ92 s102 r94 (upd (z_A σ92 s102 r94) (z_I σ92 817 a0).toNatClampNeg ((0 : Int32))) := ⟨_, rfl⟩
          rw [← e102] at hG
          have hw := hw _ e102
          refine lv_aload_n hx hb kb_Mo_relationAt_103 rfl (lv_at hl 1 rfl) ?_
          obtain ⟨hy, r104, hrf, hw⟩ := hw
          refine zr_getR (ci := 8) (f := 820) hx hb hts ki_Mo hown hK hG hy rfl 20 (by decide) (hts _ (List.mem_cons_of_mem _ kw_604)) (fun _ h => h) rfl rfl hrf kb_Mo_relationAt_104 ?_
          refine lv_aload_n hx hb kb_Mo_relationAt_107 rfl (lv_at hl 1 rfl) ?_
          obtain ⟨hy, hw⟩ := hw
          refine zr_getI (ci := 8) (f := 817) hx hb hts ki_Mo hown hK hG hy rfl 17 (by decide) (hts _ (List.mem_cons_of_mem _ kw_601)) (fun _ h => h) rfl rfl kb_Mo_relationAt_108 ?_
          refine lv_iconst (v := (0 : Int32)) hx hb kb_Mo_relationAt_111 (by decide) ?_
          obtain ⟨n112, s112, hy, hi, hw⟩ := hw
          refine zr_zast hx hb hK hG hS 2 hy rfl hi kb_Mo_relationAt_112 (fun H locs hG hS => ?_)
          obtain ⟨σ112, e112⟩ : ∃ z, z = z_sA σ102 s112 r104 (upd (z_A σ102 s112 r104) (z_I σ102 817 a0).toNatClampNeg (vp_nar .boolean ((0 : Int32)))) := ⟨_, rfl⟩
          rw [← e112] at hG
          have hw := hw _ e112
          refine lv_aload_n hx hb kb_Mo_relationAt_113 rfl (lv_at hl 1 rfl) ?_
          refine lv_dup hx hb kb_Mo_relationAt_114 rfl ?_
          obtain ⟨hy, hw⟩ := hw
          refine zr_getI (ci := 8) (f := 817) hx hb hts ki_Mo hown hK hG hy rfl 17 (by decide) (hts _ (List.mem_cons_of_mem _ kw_601)) (fun _ h => h) rfl rfl kb_Mo_relationAt_115 ?_
          refine lv_iconst (v := (1 : Int32)) hx hb kb_Mo_relationAt_118 (by decide) ?_
          refine lv_iadd hx hb kb_Mo_relationAt_119 ?_
          obtain ⟨hy, hw⟩ := hw
          refine zr_putI (ci := 8) (f := 817) hx hb hts ki_Mo ky_Mo kyo_Mo kn_Mo hown hK hG hS hy rfl 17 (by decide) (hts _ (List.mem_cons_of_mem _ kw_601)) (fun _ h => h) rfl rfl rfl rfl rfl kb_Mo_relationAt_120 (fun H locs hG hS => ?_)
          obtain ⟨σ120, e120⟩ : ∃ z, z = z_sI σ112 817 a0 ((z_I σ112 817 a0) + ((1 : Int32))) := ⟨_, rfl⟩
          rw [← e120] at hG
          have hw := hw _ e120
          exact hw _ _ _ hG hS (lv_sub hl [1, 0] rfl)
        · have hw := hw.2 hc
          refine lv_aload_n hx hb kb_Mo_relationAt_68 rfl (lv_at hl 0 rfl) ?_
          refine lv_iconst (v := (3 : Int32)) hx hb kb_Mo_relationAt_69 (by decide) ?_
          obtain ⟨hy, hw⟩ := hw
          refine zr_cv (va_runV (C := kR_Mo) (As := [.int ((3 : Int32))]) (rest := []) ⟨hx, hb, hml, hown, hts⟩ (kc_Mo_wrong l D dA Z a0 ((3 : Int32)) σ _) ⟨callB_of 1 hts (z_gw kw_712) rfl rfl rfl (hts _ (List.mem_cons_of_mem _ kw_9)) (hts _ (List.mem_cons_of_mem _ kw_710)) (by decide +kernel) ⟨Nat.le_of_ble_eq_true rfl, Nat.le_of_ble_eq_true rfl⟩, (hts _ (List.mem_cons_of_mem _ kw_711)), (hts _ (List.mem_cons_of_mem _ kw_955))⟩ (z_preV z_nwN (Nat.le_trans hZ hS.1) hG hK hN hy (ci := 8) (r := (kR_Mo, kT_Mo, 51)) rfl hw) rfl rfl hl.1 rfl (lv_room (Nat.le_of_ble_eq_true rfl)) kb_Mo_relationAt_70 ⟨Nat.le_of_ble_eq_true rfl, Nat.le_of_ble_eq_true rfl⟩) hS (fun σ70 H locs hw hG hS => ?_)
          refine lv_iconst (v := (0 : Int32)) hx hb kb_Mo_relationAt_73 (by decide) ?_
          exact zr_iret (free := fun q => Z ≤ q) z_nwN hx hb hr rfl hZ hK hN hG hS hw kb_Mo_relationAt_74 hlocks
    · have hw := hw.2 hc
      refine lv_aload_n hx hb kb_Mo_relationAt_29 rfl (lv_at hl 0 rfl) ?_
      obtain ⟨hy, r30, hrf, hw⟩ := hw
      refine zr_getR (ci := 8) (f := 818) hx hb hts ki_Mo hown hK hG hy rfl 18 (by decide) (hts _ (List.mem_cons_of_mem _ kw_602)) (fun _ h => h) rfl rfl hrf kb_Mo_relationAt_30 ?_
      refine lv_iload_n hx hb kb_Mo_relationAt_33 rfl (lv_at hl 2 rfl) ?_
      obtain ⟨n34, s34, hy, hi, hw⟩ := hw
      refine zr_iald hx hb hK hG 0 hy rfl hi kb_Mo_relationAt_34 ?_
      refine lv_aload_n hx hb kb_Mo_relationAt_35 rfl (lv_at hl 0 rfl) ?_
      obtain ⟨hy, hw⟩ := hw
      refine zr_ci (va_runV (C := kR_Mo) (As := []) (rest := [.int (z_A σ s34 r30 v2.toNatClampNeg)]) ⟨hx, hb, hml, hown, hts⟩ (kc_Mo_sign l D dA Z a0 σ _) ⟨callB_of 0 hts (z_gw kw_706) rfl rfl rfl (hts _ (List.mem_cons_of_mem _ kw_9)) (hts _ (List.mem_cons_of_mem _ kw_704)) (by decide +kernel) ⟨Nat.le_of_ble_eq_true rfl, Nat.le_of_ble_eq_true rfl⟩, (hts _ (List.mem_cons_of_mem _ kw_705)), (hts _ (List.mem_cons_of_mem _ kw_954))⟩ (z_preV z_nwN (Nat.le_trans hZ hS.1) hG hK hN hy (ci := 8) (r := (kR_Mo, kT_Mo, 51)) rfl hw) rfl rfl hl.1 rfl (lv_room (Nat.le_of_ble_eq_true rfl)) kb_Mo_relationAt_36 ⟨Nat.le_of_ble_eq_true rfl, Nat.le_of_ble_eq_true rfl⟩) hS (fun r36 σ36 H locs hw hG hS => ?_)
      refine lv_icmp_ne (tgt := 46) hx hb kb_Mo_relationAt_39 (by decide) (fun hc => ?_) (fun hc => ?_)
      · have hw := hw.1 hc
        refine lv_iload_n hx hb kb_Mo_relationAt_46 rfl (lv_at hl 1 rfl) ?_
        refine lv_istore_n (lv' := [(1, .int v1), (0, .ref a0), (2, .int v2)]) hx hb kb_Mo_relationAt_47 rfl hl (by decide) rfl (fun ls hl => ?_)
        refine lv_iinc (v := v2 + (1 : Int32)) (lv' := [(2, .int (v2 + (1 : Int32))), (1, .int v1), (0, .ref a0)]) hx hb kb_Mo_relationAt_48 hl (k := 2) rfl rfl (by decide) rfl (fun ls hl => ?_)
        refine lv_goto (tgt := 21) hx hb kb_Mo_relationAt_51 (by decide) ?_
        exact hw _ _ _ hG hS (lv_sub hl [2, 1, 0] rfl)
      · have hw := hw.2 hc
        refine lv_iload_n hx hb kb_Mo_relationAt_42 rfl (lv_at hl 2 rfl) ?_
        refine lv_goto (tgt := 47) hx hb kb_Mo_relationAt_43 (by decide) ?_
        refine lv_istore_n (lv' := [(1, .int v2), (0, .ref a0), (2, .int v2)]) hx hb kb_Mo_relationAt_47 rfl hl (by decide) rfl (fun ls hl => ?_)
        refine lv_iinc (v := v2 + (1 : Int32)) (lv' := [(2, .int (v2 + (1 : Int32))), (1, .int v2), (0, .ref a0)]) hx hb kb_Mo_relationAt_48 hl (k := 2) rfl rfl (by decide) rfl (fun ls hl => ?_)
        refine lv_goto (tgt := 21) hx hb kb_Mo_relationAt_51 (by decide) ?_
        exact hw _ _ _ hG hS (lv_sub hl [2, 1, 0] rfl))
  have hw := hw (by
    intro v1 σ hw H locs ls hG hS hl
    refine lv_aload_n hx hb kb_Mo_relationAt_123 rfl (lv_at hl 0 rfl) ?_
    refine lv_dup hx hb kb_Mo_relationAt_124 rfl ?_
    obtain ⟨hy, hw⟩ := hw
    refine zr_getI (ci := 8) (f := 805) hx hb hts ki_Mo hown hK hG hy rfl 5 (by decide) (hts _ (List.mem_cons_of_mem _ kw_589)) (fun _ h => h) rfl rfl kb_Mo_relationAt_125 ?_
    refine lv_iconst (v := (1 : Int32)) hx hb kb_Mo_relationAt_128 (by decide) ?_
    refine lv_iadd hx hb kb_Mo_relationAt_129 ?_
    obtain ⟨hy, hw⟩ := hw
    refine zr_putI (ci := 8) (f := 805) hx hb hts ki_Mo ky_Mo kyo_Mo kn_Mo hown hK hG hS hy rfl 5 (by decide) (hts _ (List.mem_cons_of_mem _ kw_589)) (fun _ h => h) rfl rfl rfl rfl rfl kb_Mo_relationAt_130 (fun H locs hG hS => ?_)
    obtain ⟨σ130, e130⟩ : ∃ z, z = z_sI σ 805 a0 ((z_I σ 805 a0) + ((1 : Int32))) := ⟨_, rfl⟩
    rw [← e130] at hG
    have hw := hw _ e130
    refine lv_iload_n hx hb kb_Mo_relationAt_133 rfl (lv_at hl 1 rfl) ?_
    exact zr_iret (free := fun q => Z ≤ q) z_nwN hx hb hr rfl hZ hK hN hG hS hw kb_Mo_relationAt_134 hlocks)
  refine lv_aload_n hx hb kb_Mo_relationAt_0 rfl (lv_at hl 0 rfl) ?_
  obtain ⟨hy, hw⟩ := hw
  refine zr_ci (va_runV (C := kR_Mo) (As := []) (rest := []) ⟨hx, hb, hml, hown, hts⟩ (kc_Mo_sign l D dA Z a0 σ _) ⟨callB_of 0 hts (z_gw kw_706) rfl rfl rfl (hts _ (List.mem_cons_of_mem _ kw_9)) (hts _ (List.mem_cons_of_mem _ kw_704)) (by decide +kernel) ⟨Nat.le_of_ble_eq_true rfl, Nat.le_of_ble_eq_true rfl⟩, (hts _ (List.mem_cons_of_mem _ kw_705)), (hts _ (List.mem_cons_of_mem _ kw_954))⟩ (z_preV z_nwN (Nat.le_trans hZ hS.1) hG hK hN hy (ci := 8) (r := (kR_Mo, kT_Mo, 51)) rfl hw) rfl rfl hl.1 rfl (lv_room (Nat.le_of_ble_eq_true rfl)) kb_Mo_relationAt_1 ⟨Nat.le_of_ble_eq_true rfl, Nat.le_of_ble_eq_true rfl⟩) hS (fun r1 σ1 H locs hw hG hS => ?_)
  refine zr_ci (va_runS (As := [.int r1]) (rest := []) ⟨hx, hb, hml, hown, hts⟩ (kc_Mo_isName l D dA Z r1 σ1 _) ⟨callB_of 1 hts (z_gw kw_709) rfl rfl rfl (hts _ (List.mem_cons_of_mem _ kw_9)) (hts _ (List.mem_cons_of_mem _ kw_707)) (by decide +kernel) ⟨Nat.le_of_ble_eq_true rfl, Nat.le_of_ble_eq_true rfl⟩, (hts _ (List.mem_cons_of_mem _ kw_708))⟩ (z_preS z_nwN (Nat.le_trans hZ hS.1) hG hK hN hw) rfl rfl hl.1 rfl (lv_room (Nat.le_of_ble_eq_true rfl)) kb_Mo_relationAt_4 ⟨Nat.le_of_ble_eq_true rfl, Nat.le_of_ble_eq_true rfl⟩) hS (fun r4 σ4 H locs hw hG hS => ?_)
  refine lv_if_ne (tgt := 17) hx hb kb_Mo_relationAt_7 (by decide) (fun hc => ?_) (fun hc => ?_)
  · have hw := hw.1 hc
    refine lv_iconst (v := (-1 : Int32)) hx hb kb_Mo_relationAt_17 (by decide) ?_
    refine lv_istore_n (lv' := [(1, .int ((-1 : Int32))), (0, .ref a0)]) hx hb kb_Mo_relationAt_18 rfl hl (by decide) rfl (fun ls hl => ?_)
    refine lv_iconst (v := (0 : Int32)) hx hb kb_Mo_relationAt_19 (by decide) ?_
    refine lv_istore_n (lv' := [(2, .int ((0 : Int32))), (1, .int ((-1 : Int32))), (0, .ref a0)]) hx hb kb_Mo_relationAt_20 rfl hl (by decide) rfl (fun ls hl => ?_)
    exact hw _ _ _ hG hS (lv_sub hl [2, 1, 0] rfl)
  · have hw := hw.2 hc
    refine lv_aload_n hx hb kb_Mo_relationAt_10 rfl (lv_at hl 0 rfl) ?_
    refine lv_iconst (v := (1 : Int32)) hx hb kb_Mo_relationAt_11 (by decide) ?_
    obtain ⟨hy, hw⟩ := hw
    refine zr_cv (va_runV (C := kR_Mo) (As := [.int ((1 : Int32))]) (rest := []) ⟨hx, hb, hml, hown, hts⟩ (kc_Mo_wrong l D dA Z a0 ((1 : Int32)) σ4 _) ⟨callB_of 1 hts (z_gw kw_712) rfl rfl rfl (hts _ (List.mem_cons_of_mem _ kw_9)) (hts _ (List.mem_cons_of_mem _ kw_710)) (by decide +kernel) ⟨Nat.le_of_ble_eq_true rfl, Nat.le_of_ble_eq_true rfl⟩, (hts _ (List.mem_cons_of_mem _ kw_711)), (hts _ (List.mem_cons_of_mem _ kw_955))⟩ (z_preV z_nwN (Nat.le_trans hZ hS.1) hG hK hN hy (ci := 8) (r := (kR_Mo, kT_Mo, 51)) rfl hw) rfl rfl hl.1 rfl (lv_room (Nat.le_of_ble_eq_true rfl)) kb_Mo_relationAt_12 ⟨Nat.le_of_ble_eq_true rfl, Nat.le_of_ble_eq_true rfl⟩) hS (fun σ12 H locs hw hG hS => ?_)
    refine lv_iconst (v := (0 : Int32)) hx hb kb_Mo_relationAt_15 (by decide) ?_
    exact zr_iret (free := fun q => Z ≤ q) z_nwN hx hb hr rfl hZ hK hN hG hS hw kb_Mo_relationAt_16 hlocks
def kp_Mo_term (a0 : Nat) (x1 : Int32) (σ : z_S) (Post : Int32 → z_S → Prop) : Prop := ∀ (X51 : Int32 → Int32 → z_S → Prop) (X95 : Int32 → Int32 → z_S → Prop) (X141 : Int32 → Int32 → z_S → Prop),
    (∀ (v2 : Int32) (v3 : Int32) (σ : z_S), (z_ty σ a0 = some (.inl 8) ∧ ∃ r52, z_R σ 816 a0 = some r52 ∧ (∃ n57 s57, z_ty σ r52 = some (.inr (0, n57, s57)) ∧ vp_in x1 n57 ∧ (∃ n60 s60, z_ty σ r52 = some (.inr (0, n60, s60)) ∧ vp_in x1 n60 ∧ ∀ σ60, σ60 = z_sA σ s60 r52 (upd (z_A σ s60 r52) x1.toNatClampNeg ((z_A σ s57 r52 x1.toNatClampNeg) ||| v3)) → z_ty σ60 a0 = some (.inl 8) ∧ (z_ty σ60 a0 = some (.inl 8) ∧ ∀ σ68, σ68 = z_sI σ60 805 a0 ((z_I σ60 805 a0) + ((1 : Int32))) → Post (v2 - ((65 : Int32))) σ68)))) → X51 v2 v3 σ) →
    (∀ (v3 : Int32) (v4 : Int32) (σ : z_S), ((((3 : Int32)) ≤ v4 → Post (((100 : Int32)) + v3) σ) ∧ (¬ ((3 : Int32)) ≤ v4 → z_ty σ a0 = some (.inl 8) ∧ kp_Mo_sign a0 σ (fun (r102 : Int32) (σ102 : z_S) => kp_Mo_isDigit r102 σ102 (fun (r105 : Int32) (σ105 : z_S) => (r105 = 0 → Post (((100 : Int32)) + v3) σ105) ∧ (¬ r105 = 0 → (v4 = 0 → X141 v3 v4 σ105) ∧ (¬ v4 = 0 → z_ty σ105 a0 = some (.inl 8) ∧ ∃ r117, z_R σ105 803 a0 = some r117 ∧ (z_ty σ105 a0 = some (.inl 8) ∧ (∃ n124 s124, z_ty σ105 r117 = some (.inr (0, n124, s124)) ∧ vp_in (z_I σ105 805 a0) n124 ∧ (z_ty σ105 a0 = some (.inl 8) ∧ ∃ r126, z_R σ105 803 a0 = some r126 ∧ (z_ty σ105 a0 = some (.inl 8) ∧ (∃ n135 s135, z_ty σ105 r126 = some (.inr (0, n135, s135)) ∧ vp_in ((z_I σ105 805 a0) - ((1 : Int32))) n135 ∧ ((¬ (z_A σ105 s124 r117 (z_I σ105 805 a0).toNatClampNeg) = ((z_A σ105 s135 r126 ((z_I σ105 805 a0) - ((1 : Int32))).toNatClampNeg) + ((1 : Int32))) → Post (((100 : Int32)) + v3) σ105) ∧ ((z_A σ105 s124 r117 (z_I σ105 805 a0).toNatClampNeg) = ((z_A σ105 s135 r126 ((z_I σ105 805 a0) - ((1 : Int32))).toNatClampNeg) + ((1 : Int32))) → X141 v3 v4 σ105))))))))))))) → X95 v3 v4 σ) →
    (∀ (v3 : Int32) (v4 : Int32) (σ : z_S), (z_ty σ a0 = some (.inl 8) ∧ kp_Mo_sign a0 σ (fun (r146 : Int32) (σ146 : z_S) => z_ty σ146 a0 = some (.inl 8) ∧ (z_ty σ146 a0 = some (.inl 8) ∧ ∀ σ161, σ161 = z_sI σ146 805 a0 ((z_I σ146 805 a0) + ((1 : Int32))) → X95 (((((10 : Int32)) * v3) + r146) - ((48 : Int32))) (v4 + (1 : Int32)) σ161))) → X141 v3 v4 σ) →
    (z_ty σ a0 = some (.inl 8) ∧ kp_Mo_sign a0 σ (fun (r1 : Int32) (σ1 : z_S) => kp_Mo_isVariable r1 σ1 (fun (r6 : Int32) (σ6 : z_S) => (r6 = 0 → kp_Mo_isDigit r1 σ6 (fun (r77 : Int32) (σ77 : z_S) => (¬ r77 = 0 → X95 ((0 : Int32)) ((0 : Int32)) σ77) ∧ (r77 = 0 → z_ty σ77 a0 = some (.inl 8) ∧ kp_Mo_wrong a0 ((1 : Int32)) σ77 (fun (σ85 : z_S) => Post ((0 : Int32)) σ85)))) ∧ (¬ r6 = 0 → z_ty σ6 a0 = some (.inl 8) ∧ ∃ r20, z_R σ6 816 a0 = some r20 ∧ (∃ n24 s24, z_ty σ6 r20 = some (.inr (0, n24, s24)) ∧ vp_in x1 n24 ∧ ((¬ (((z_A σ6 s24 r20 x1.toNatClampNeg) &&& (((1 : Int32)) <<< ((r1 - ((65 : Int32))) &&& 31)))) = 0 → X51 r1 (((1 : Int32)) <<< ((r1 - ((65 : Int32))) &&& 31)) σ6) ∧ ((((z_A σ6 s24 r20 x1.toNatClampNeg) &&& (((1 : Int32)) <<< ((r1 - ((65 : Int32))) &&& 31)))) = 0 → z_ty σ6 a0 = some (.inl 8) ∧ ∃ r31, z_R σ6 816 a0 = some r31 ∧ (∃ n35 s35, z_ty σ6 r31 = some (.inr (0, n35, s35)) ∧ vp_in x1 n35 ∧ (kp_Mo_count (z_A σ6 s35 r31 x1.toNatClampNeg) σ6 (fun (r36 : Int32) (σ36 : z_S) => (¬ r36 = ((6 : Int32)) → X51 r1 (((1 : Int32)) <<< ((r1 - ((65 : Int32))) &&& 31)) σ36) ∧ (r36 = ((6 : Int32)) → z_ty σ36 a0 = some (.inl 8) ∧ kp_Mo_wrong a0 ((3 : Int32)) σ36 (fun (σ46 : z_S) => Post ((0 : Int32)) σ46))))))))))))
set_option maxHeartbeats 4000000 in
set_option maxRecDepth 100000 in
theorem kc_Mo_term (l : Launch) (D : va_G) (dA : Nat → ClassId) (Z : Nat) (a0 : Nat) (x1 : Int32) (σ : z_S) (Post : Int32 → z_S → Prop) : Met l km_Mo_term ks_Mo_term kr_Mo_term (va_Pc [.ref a0, .int x1] (fun U => z_U D z_cl z_KT dA Z (z_tys dA) z_nw σ U ∧ kp_Mo_term  a0 x1 σ Post)) (z_Qi D z_cl z_KT dA Z (z_tys dA) z_nw Post) 0 0 (fun q => Z ≤ q) := by
  refine Met.ofW (cc := prog_10_method_11_code) (maxL := 5) (ret := (some .int)) (by decide) rfl ?_
  intro p e s m args below meth c s₁ B hml hv
  obtain ⟨rfl, ⟨hZ, hG, hK, hN⟩, hw⟩ := hv
  have hx := B.exec
  have hb := B.bytes
  have hr := B.returns
  have hts := atoms_spec (ws := ks_Mo_term) B.pre
  have hown : s.vm.findClass kR_Mo = some m.cls := findClass_of_methodNamed B.named
  have hlocks := B.notSynchronized
  have hS : va_S (fun q => Z ≤ q) s.heap s.heap [] := va_S.rf
  have hl := lv_entry ([.ref a0, .int x1]) (n := 5) (Nat.le_of_ble_eq_true rfl)
  rw [lg_entry_eq]
  generalize (lg_sl ([.ref a0, .int x1]) ++ List.replicate (5 - (lg_sl ([.ref a0, .int x1])).length) Slot.unset).toArray = ls at hl ⊢
  have hl : lv_has ls 5 [(0, .ref a0), (1, .int x1)] := hl
  unfold kp_Mo_term at hw
  have hw := hw (fun (v2 : Int32) (v3 : Int32) (σ : z_S) => ∀ (H : Heap) (locs : List Loc) (ls : Array Slot), z_G D z_cl z_KT dA Z σ H → va_S (fun q => Z ≤ q) s.heap H locs → lv_has ls 5 [(0, .ref a0), (1, .int x1), (2, .int v2), (3, .int v3)] → W p l e (headSpec ks_Mo_term kr_Mo_term).room s m ([.ref a0, .int x1] : List Value).toArray below meth c H locs 0 0 (MQ below (z_Qi D z_cl z_KT dA Z (z_tys dA) z_nw Post) ([.ref a0, .int x1] : List Value).toArray s 0 0 (fun q => Z ≤ q)) (F0 m 51 ls []))
  have hw := hw (fun (v3 : Int32) (v4 : Int32) (σ : z_S) => ∀ (H : Heap) (locs : List Loc) (ls : Array Slot), z_G D z_cl z_KT dA Z σ H → va_S (fun q => Z ≤ q) s.heap H locs → lv_has ls 5 [(0, .ref a0), (3, .int v3), (4, .int v4)] → W p l e (headSpec ks_Mo_term kr_Mo_term).room s m ([.ref a0, .int x1] : List Value).toArray below meth c H locs 0 0 (MQ below (z_Qi D z_cl z_KT dA Z (z_tys dA) z_nw Post) ([.ref a0, .int x1] : List Value).toArray s 0 0 (fun q => Z ≤ q)) (F0 m 95 ls []))
  have hw := hw (fun (v3 : Int32) (v4 : Int32) (σ : z_S) => ∀ (H : Heap) (locs : List Loc) (ls : Array Slot), z_G D z_cl z_KT dA Z σ H → va_S (fun q => Z ≤ q) s.heap H locs → lv_has ls 5 [(0, .ref a0), (3, .int v3), (4, .int v4)] → W p l e (headSpec ks_Mo_term kr_Mo_term).room s m ([.ref a0, .int x1] : List Value).toArray below meth c H locs 0 0 (MQ below (z_Qi D z_cl z_KT dA Z (z_tys dA) z_nw Post) ([.ref a0, .int x1] : List Value).toArray s 0 0 (fun q => Z ≤ q)) (F0 m 141 ls []))
  have hw := hw (by
    intro v2 v3 σ hw H locs ls hG hS hl
    refine lv_aload_n hx hb kb_Mo_term_51 rfl (lv_at hl 0 rfl) ?_
    obtain ⟨hy, r52, hrf, hw⟩ := hw
    refine zr_getR (ci := 8) (f := 816) hx hb hts ki_Mo hown hK hG hy rfl 16 (by decide) (hts _ (List.mem_cons_of_mem _ kw_600)) (fun _ h => h) rfl rfl hrf kb_Mo_term_52 ?_
    refine lv_iload_n hx hb kb_Mo_term_55 rfl (lv_at hl 1 rfl) ?_
    refine lv_dup2_11 hx hb kb_Mo_term_56 rfl rfl ?_
    obtain ⟨n57, s57, hy, hi, hw⟩ := hw
    refine zr_iald hx hb hK hG 0 hy rfl hi kb_Mo_term_57 ?_
    refine lv_iload_n hx hb kb_Mo_term_58 rfl (lv_at hl 3 rfl) ?_
    refine lv_ior hx hb kb_Mo_term_59 ?_
    obtain ⟨n60, s60, hy, hi, hw⟩ := hw
    refine zr_iast hx hb hK hG hS 0 hy rfl hi kb_Mo_term_60 (fun H locs hG hS => ?_)
    obtain ⟨σ60, e60⟩ : ∃ z, z = z_sA σ s60 r52 (upd (z_A σ s60 r52) x1.toNatClampNeg ((z_A σ s57 r52 x1.toNatClampNeg) ||| v3)) := ⟨_, rfl⟩
    rw [← e60] at hG
    have hw := hw _ e60
    refine lv_aload_n hx hb kb_Mo_term_61 rfl (lv_at hl 0 rfl) ?_
    refine lv_dup hx hb kb_Mo_term_62 rfl ?_
    obtain ⟨hy, hw⟩ := hw
    refine zr_getI (ci := 8) (f := 805) hx hb hts ki_Mo hown hK hG hy rfl 5 (by decide) (hts _ (List.mem_cons_of_mem _ kw_589)) (fun _ h => h) rfl rfl kb_Mo_term_63 ?_
    refine lv_iconst (v := (1 : Int32)) hx hb kb_Mo_term_66 (by decide) ?_
    refine lv_iadd hx hb kb_Mo_term_67 ?_
    obtain ⟨hy, hw⟩ := hw
    refine zr_putI (ci := 8) (f := 805) hx hb hts ki_Mo ky_Mo kyo_Mo kn_Mo hown hK hG hS hy rfl 5 (by decide) (hts _ (List.mem_cons_of_mem _ kw_589)) (fun _ h => h) rfl rfl rfl rfl rfl kb_Mo_term_68 (fun H locs hG hS => ?_)
    obtain ⟨σ68, e68⟩ : ∃ z, z = z_sI σ60 805 a0 ((z_I σ60 805 a0) + ((1 : Int32))) := ⟨_, rfl⟩
    rw [← e68] at hG
    have hw := hw _ e68
    refine lv_iload_n hx hb kb_Mo_term_71 rfl (lv_at hl 2 rfl) ?_
    refine lv_bipush (v := (65 : Int32)) hx hb kb_Mo_term_72 (by decide) ?_
    refine lv_isub hx hb kb_Mo_term_74 ?_
    exact zr_iret (free := fun q => Z ≤ q) z_nwN hx hb hr rfl hZ hK hN hG hS hw kb_Mo_term_75 hlocks)
  have hw := hw (by
    intro v3 v4 σ hw H locs ls hG hS hl
    refine lv_iload hx hb kb_Mo_term_95 (lv_at hl 2 rfl) ?_
    refine lv_iconst (v := (3 : Int32)) hx hb kb_Mo_term_97 (by decide) ?_
    refine lv_icmp_ge (tgt := 170) hx hb kb_Mo_term_98 (by decide) (fun hc => ?_) (fun hc => ?_)
    · have hw := hw.1 hc
      refine lv_bipush (v := (100 : Int32)) hx hb kb_Mo_term_170 (by decide) ?_
      refine lv_iload_n hx hb kb_Mo_term_172 rfl (lv_at hl 1 rfl) ?_
      refine lv_iadd hx hb kb_Mo_term_173 ?_
      exact zr_iret (free := fun q => Z ≤ q) z_nwN hx hb hr rfl hZ hK hN hG hS hw kb_Mo_term_174 hlocks
    · have hw := hw.2 hc
      refine lv_aload_n hx hb kb_Mo_term_101 rfl (lv_at hl 0 rfl) ?_
      obtain ⟨hy, hw⟩ := hw
      refine zr_ci (va_runV (C := kR_Mo) (As := []) (rest := []) ⟨hx, hb, hml, hown, hts⟩ (kc_Mo_sign l D dA Z a0 σ _) ⟨callB_of 0 hts (z_gw kw_706) rfl rfl rfl (hts _ (List.mem_cons_of_mem _ kw_9)) (hts _ (List.mem_cons_of_mem _ kw_704)) (by decide +kernel) ⟨Nat.le_of_ble_eq_true rfl, Nat.le_of_ble_eq_true rfl⟩, (hts _ (List.mem_cons_of_mem _ kw_705)), (hts _ (List.mem_cons_of_mem _ kw_954))⟩ (z_preV z_nwN (Nat.le_trans hZ hS.1) hG hK hN hy (ci := 8) (r := (kR_Mo, kT_Mo, 51)) rfl hw) rfl rfl hl.1 rfl (lv_room (Nat.le_of_ble_eq_true rfl)) kb_Mo_term_102 ⟨Nat.le_of_ble_eq_true rfl, Nat.le_of_ble_eq_true rfl⟩) hS (fun r102 σ102 H locs hw hG hS => ?_)
      refine zr_ci (va_runS (As := [.int r102]) (rest := []) ⟨hx, hb, hml, hown, hts⟩ (kc_Mo_isDigit l D dA Z r102 σ102 _) ⟨callB_of 1 hts (z_gw kw_733) rfl rfl rfl (hts _ (List.mem_cons_of_mem _ kw_9)) (hts _ (List.mem_cons_of_mem _ kw_731)) (by decide +kernel) ⟨Nat.le_of_ble_eq_true rfl, Nat.le_of_ble_eq_true rfl⟩, (hts _ (List.mem_cons_of_mem _ kw_732))⟩ (z_preS z_nwN (Nat.le_trans hZ hS.1) hG hK hN hw) rfl rfl hl.1 rfl (lv_room (Nat.le_of_ble_eq_true rfl)) kb_Mo_term_105 ⟨Nat.le_of_ble_eq_true rfl, Nat.le_of_ble_eq_true rfl⟩) hS (fun r105 σ105 H locs hw hG hS => ?_)
      refine lv_if_eq (tgt := 170) hx hb kb_Mo_term_108 (by decide) (fun hc => ?_) (fun hc => ?_)
      · have hw := hw.1 hc
        refine lv_bipush (v := (100 : Int32)) hx hb kb_Mo_term_170 (by decide) ?_
        refine lv_iload_n hx hb kb_Mo_term_172 rfl (lv_at hl 1 rfl) ?_
        refine lv_iadd hx hb kb_Mo_term_173 ?_
        exact zr_iret (free := fun q => Z ≤ q) z_nwN hx hb hr rfl hZ hK hN hG hS hw kb_Mo_term_174 hlocks
      · have hw := hw.2 hc
        refine lv_iload hx hb kb_Mo_term_111 (lv_at hl 2 rfl) ?_
        refine lv_if_eq (tgt := 141) hx hb kb_Mo_term_113 (by decide) (fun hc => ?_) (fun hc => ?_)
        · have hw := hw.1 hc
          exact hw _ _ _ hG hS (lv_sub hl [0, 1, 2] rfl)
        · have hw := hw.2 hc
          refine lv_aload_n hx hb kb_Mo_term_116 rfl (lv_at hl 0 rfl) ?_
          obtain ⟨hy, r117, hrf, hw⟩ := hw
          refine zr_getR (ci := 8) (f := 803) hx hb hts ki_Mo hown hK hG hy rfl 3 (by decide) (hts _ (List.mem_cons_of_mem _ kw_587)) (fun _ h => h) rfl rfl hrf kb_Mo_term_117 ?_
          refine lv_aload_n hx hb kb_Mo_term_120 rfl (lv_at hl 0 rfl) ?_
          obtain ⟨hy, hw⟩ := hw
          refine zr_getI (ci := 8) (f := 805) hx hb hts ki_Mo hown hK hG hy rfl 5 (by decide) (hts _ (List.mem_cons_of_mem _ kw_589)) (fun _ h => h) rfl rfl kb_Mo_term_121 ?_
          obtain ⟨n124, s124, hy, hi, hw⟩ := hw
          refine zr_iald hx hb hK hG 0 hy rfl hi kb_Mo_term_124 ?_
          refine lv_aload_n hx hb kb_Mo_term_125 rfl (lv_at hl 0 rfl) ?_
          obtain ⟨hy, r126, hrf, hw⟩ := hw
          refine zr_getR (ci := 8) (f := 803) hx hb hts ki_Mo hown hK hG hy rfl 3 (by decide) (hts _ (List.mem_cons_of_mem _ kw_587)) (fun _ h => h) rfl rfl hrf kb_Mo_term_126 ?_
          refine lv_aload_n hx hb kb_Mo_term_129 rfl (lv_at hl 0 rfl) ?_
          obtain ⟨hy, hw⟩ := hw
          refine zr_getI (ci := 8) (f := 805) hx hb hts ki_Mo hown hK hG hy rfl 5 (by decide) (hts _ (List.mem_cons_of_mem _ kw_589)) (fun _ h => h) rfl rfl kb_Mo_term_130 ?_
          refine lv_iconst (v := (1 : Int32)) hx hb kb_Mo_term_133 (by decide) ?_
          refine lv_isub hx hb kb_Mo_term_134 ?_
          obtain ⟨n135, s135, hy, hi, hw⟩ := hw
          refine zr_iald hx hb hK hG 0 hy rfl hi kb_Mo_term_135 ?_
          refine lv_iconst (v := (1 : Int32)) hx hb kb_Mo_term_136 (by decide) ?_
          refine lv_iadd hx hb kb_Mo_term_137 ?_
          refine lv_icmp_ne (tgt := 170) hx hb kb_Mo_term_138 (by decide) (fun hc => ?_) (fun hc => ?_)
          · have hw := hw.1 hc
            refine lv_bipush (v := (100 : Int32)) hx hb kb_Mo_term_170 (by decide) ?_
            refine lv_iload_n hx hb kb_Mo_term_172 rfl (lv_at hl 1 rfl) ?_
            refine lv_iadd hx hb kb_Mo_term_173 ?_
            exact zr_iret (free := fun q => Z ≤ q) z_nwN hx hb hr rfl hZ hK hN hG hS hw kb_Mo_term_174 hlocks
          · have hw := hw.2 hc
            exact hw _ _ _ hG hS (lv_sub hl [0, 1, 2] rfl))
  have hw := hw (by
    intro v3 v4 σ hw H locs ls hG hS hl
    refine lv_bipush (v := (10 : Int32)) hx hb kb_Mo_term_141 (by decide) ?_
    refine lv_iload_n hx hb kb_Mo_term_143 rfl (lv_at hl 1 rfl) ?_
    refine lv_imul hx hb kb_Mo_term_144 ?_
    refine lv_aload_n hx hb kb_Mo_term_145 rfl (lv_at hl 0 rfl) ?_
    obtain ⟨hy, hw⟩ := hw
    refine zr_ci (va_runV (C := kR_Mo) (As := []) (rest := [.int (((10 : Int32)) * v3)]) ⟨hx, hb, hml, hown, hts⟩ (kc_Mo_sign l D dA Z a0 σ _) ⟨callB_of 0 hts (z_gw kw_706) rfl rfl rfl (hts _ (List.mem_cons_of_mem _ kw_9)) (hts _ (List.mem_cons_of_mem _ kw_704)) (by decide +kernel) ⟨Nat.le_of_ble_eq_true rfl, Nat.le_of_ble_eq_true rfl⟩, (hts _ (List.mem_cons_of_mem _ kw_705)), (hts _ (List.mem_cons_of_mem _ kw_954))⟩ (z_preV z_nwN (Nat.le_trans hZ hS.1) hG hK hN hy (ci := 8) (r := (kR_Mo, kT_Mo, 51)) rfl hw) rfl rfl hl.1 rfl (lv_room (Nat.le_of_ble_eq_true rfl)) kb_Mo_term_146 ⟨Nat.le_of_ble_eq_true rfl, Nat.le_of_ble_eq_true rfl⟩) hS (fun r146 σ146 H locs hw hG hS => ?_)
    refine lv_iadd hx hb kb_Mo_term_149 ?_
    refine lv_bipush (v := (48 : Int32)) hx hb kb_Mo_term_150 (by decide) ?_
    refine lv_isub hx hb kb_Mo_term_152 ?_
    refine lv_istore_n (lv' := [(3, .int (((((10 : Int32)) * v3) + r146) - ((48 : Int32)))), (0, .ref a0), (4, .int v4)]) hx hb kb_Mo_term_153 rfl hl (by decide) rfl (fun ls hl => ?_)
    refine lv_aload_n hx hb kb_Mo_term_154 rfl (lv_at hl 1 rfl) ?_
    refine lv_dup hx hb kb_Mo_term_155 rfl ?_
    obtain ⟨hy, hw⟩ := hw
    refine zr_getI (ci := 8) (f := 805) hx hb hts ki_Mo hown hK hG hy rfl 5 (by decide) (hts _ (List.mem_cons_of_mem _ kw_589)) (fun _ h => h) rfl rfl kb_Mo_term_156 ?_
    refine lv_iconst (v := (1 : Int32)) hx hb kb_Mo_term_159 (by decide) ?_
    refine lv_iadd hx hb kb_Mo_term_160 ?_
    obtain ⟨hy, hw⟩ := hw
    refine zr_putI (ci := 8) (f := 805) hx hb hts ki_Mo ky_Mo kyo_Mo kn_Mo hown hK hG hS hy rfl 5 (by decide) (hts _ (List.mem_cons_of_mem _ kw_589)) (fun _ h => h) rfl rfl rfl rfl rfl kb_Mo_term_161 (fun H locs hG hS => ?_)
    obtain ⟨σ161, e161⟩ : ∃ z, z = z_sI σ146 805 a0 ((z_I σ146 805 a0) + ((1 : Int32))) := ⟨_, rfl⟩
    rw [← e161] at hG
    have hw := hw _ e161
    refine lv_iinc (v := v4 + (1 : Int32)) (lv' := [(4, .int (v4 + (1 : Int32))), (3, .int (((((10 : Int32)) * v3) + r146) - ((48 : Int32)))), (0, .ref a0)]) hx hb kb_Mo_term_164 hl (k := 2) rfl rfl (by decide) rfl (fun ls hl => ?_)
    refine lv_goto (tgt := 95) hx hb kb_Mo_term_167 (by decide) ?_
    exact hw _ _ _ hG hS (lv_sub hl [2, 1, 0] rfl))
  refine lv_aload_n hx hb kb_Mo_term_0 rfl (lv_at hl 0 rfl) ?_
  obtain ⟨hy, hw⟩ := hw
  refine zr_ci (va_runV (C := kR_Mo) (As := []) (rest := []) ⟨hx, hb, hml, hown, hts⟩ (kc_Mo_sign l D dA Z a0 σ _) ⟨callB_of 0 hts (z_gw kw_706) rfl rfl rfl (hts _ (List.mem_cons_of_mem _ kw_9)) (hts _ (List.mem_cons_of_mem _ kw_704)) (by decide +kernel) ⟨Nat.le_of_ble_eq_true rfl, Nat.le_of_ble_eq_true rfl⟩, (hts _ (List.mem_cons_of_mem _ kw_705)), (hts _ (List.mem_cons_of_mem _ kw_954))⟩ (z_preV z_nwN (Nat.le_trans hZ hS.1) hG hK hN hy (ci := 8) (r := (kR_Mo, kT_Mo, 51)) rfl hw) rfl rfl hl.1 rfl (lv_room (Nat.le_of_ble_eq_true rfl)) kb_Mo_term_1 ⟨Nat.le_of_ble_eq_true rfl, Nat.le_of_ble_eq_true rfl⟩) hS (fun r1 σ1 H locs hw hG hS => ?_)
  refine lv_istore_n (lv' := [(2, .int r1), (0, .ref a0), (1, .int x1)]) hx hb kb_Mo_term_4 rfl hl (by decide) rfl (fun ls hl => ?_)
  refine lv_iload_n hx hb kb_Mo_term_5 rfl (lv_at hl 0 rfl) ?_
  refine zr_ci (va_runS (As := [.int r1]) (rest := []) ⟨hx, hb, hml, hown, hts⟩ (kc_Mo_isVariable l D dA Z r1 σ1 _) ⟨callB_of 1 hts (z_gw kw_727) rfl rfl rfl (hts _ (List.mem_cons_of_mem _ kw_9)) (hts _ (List.mem_cons_of_mem _ kw_725)) (by decide +kernel) ⟨Nat.le_of_ble_eq_true rfl, Nat.le_of_ble_eq_true rfl⟩, (hts _ (List.mem_cons_of_mem _ kw_726))⟩ (z_preS z_nwN (Nat.le_trans hZ hS.1) hG hK hN hw) rfl rfl hl.1 rfl (lv_room (Nat.le_of_ble_eq_true rfl)) kb_Mo_term_6 ⟨Nat.le_of_ble_eq_true rfl, Nat.le_of_ble_eq_true rfl⟩) hS (fun r6 σ6 H locs hw hG hS => ?_)
  refine lv_if_eq (tgt := 76) hx hb kb_Mo_term_9 (by decide) (fun hc => ?_) (fun hc => ?_)
  · have hw := hw.1 hc
    refine lv_iload_n hx hb kb_Mo_term_76 rfl (lv_at hl 0 rfl) ?_
    refine zr_ci (va_runS (As := [.int r1]) (rest := []) ⟨hx, hb, hml, hown, hts⟩ (kc_Mo_isDigit l D dA Z r1 σ6 _) ⟨callB_of 1 hts (z_gw kw_733) rfl rfl rfl (hts _ (List.mem_cons_of_mem _ kw_9)) (hts _ (List.mem_cons_of_mem _ kw_731)) (by decide +kernel) ⟨Nat.le_of_ble_eq_true rfl, Nat.le_of_ble_eq_true rfl⟩, (hts _ (List.mem_cons_of_mem _ kw_732))⟩ (z_preS z_nwN (Nat.le_trans hZ hS.1) hG hK hN hw) rfl rfl hl.1 rfl (lv_room (Nat.le_of_ble_eq_true rfl)) kb_Mo_term_77 ⟨Nat.le_of_ble_eq_true rfl, Nat.le_of_ble_eq_true rfl⟩) hS (fun r77 σ77 H locs hw hG hS => ?_)
    refine lv_if_ne (tgt := 90) hx hb kb_Mo_term_80 (by decide) (fun hc => ?_) (fun hc => ?_)
    · have hw := hw.1 hc
      refine lv_iconst (v := (0 : Int32)) hx hb kb_Mo_term_90 (by decide) ?_
      refine lv_istore_n (lv' := [(3, .int ((0 : Int32))), (2, .int r1), (0, .ref a0), (1, .int x1)]) hx hb kb_Mo_term_91 rfl hl (by decide) rfl (fun ls hl => ?_)
      refine lv_iconst (v := (0 : Int32)) hx hb kb_Mo_term_92 (by decide) ?_
      refine lv_istore (lv' := [(4, .int ((0 : Int32))), (3, .int ((0 : Int32))), (2, .int r1), (0, .ref a0), (1, .int x1)]) hx hb kb_Mo_term_93 hl (by decide) rfl (fun ls hl => ?_)
      exact hw _ _ _ hG hS (lv_sub hl [3, 1, 0] rfl)
    · have hw := hw.2 hc
      refine lv_aload_n hx hb kb_Mo_term_83 rfl (lv_at hl 1 rfl) ?_
      refine lv_iconst (v := (1 : Int32)) hx hb kb_Mo_term_84 (by decide) ?_
      obtain ⟨hy, hw⟩ := hw
      refine zr_cv (va_runV (C := kR_Mo) (As := [.int ((1 : Int32))]) (rest := []) ⟨hx, hb, hml, hown, hts⟩ (kc_Mo_wrong l D dA Z a0 ((1 : Int32)) σ77 _) ⟨callB_of 1 hts (z_gw kw_712) rfl rfl rfl (hts _ (List.mem_cons_of_mem _ kw_9)) (hts _ (List.mem_cons_of_mem _ kw_710)) (by decide +kernel) ⟨Nat.le_of_ble_eq_true rfl, Nat.le_of_ble_eq_true rfl⟩, (hts _ (List.mem_cons_of_mem _ kw_711)), (hts _ (List.mem_cons_of_mem _ kw_955))⟩ (z_preV z_nwN (Nat.le_trans hZ hS.1) hG hK hN hy (ci := 8) (r := (kR_Mo, kT_Mo, 51)) rfl hw) rfl rfl hl.1 rfl (lv_room (Nat.le_of_ble_eq_true rfl)) kb_Mo_term_85 ⟨Nat.le_of_ble_eq_true rfl, Nat.le_of_ble_eq_true rfl⟩) hS (fun σ85 H locs hw hG hS => ?_)
      refine lv_iconst (v := (0 : Int32)) hx hb kb_Mo_term_88 (by decide) ?_
      exact zr_iret (free := fun q => Z ≤ q) z_nwN hx hb hr rfl hZ hK hN hG hS hw kb_Mo_term_89 hlocks
  · have hw := hw.2 hc
    refine lv_iconst (v := (1 : Int32)) hx hb kb_Mo_term_12 (by decide) ?_
    refine lv_iload_n hx hb kb_Mo_term_13 rfl (lv_at hl 0 rfl) ?_
    refine lv_bipush (v := (65 : Int32)) hx hb kb_Mo_term_14 (by decide) ?_
    refine lv_isub hx hb kb_Mo_term_16 ?_
    refine lv_ishl hx hb kb_Mo_term_17 ?_
    refine lv_istore_n (lv' := [(3, .int (((1 : Int32)) <<< ((r1 - ((65 : Int32))) &&& 31))), (2, .int r1), (0, .ref a0), (1, .int x1)]) hx hb kb_Mo_term_18 rfl hl (by decide) rfl (fun ls hl => ?_)
    refine lv_aload_n hx hb kb_Mo_term_19 rfl (lv_at hl 2 rfl) ?_
    obtain ⟨hy, r20, hrf, hw⟩ := hw
    refine zr_getR (ci := 8) (f := 816) hx hb hts ki_Mo hown hK hG hy rfl 16 (by decide) (hts _ (List.mem_cons_of_mem _ kw_600)) (fun _ h => h) rfl rfl hrf kb_Mo_term_20 ?_
    refine lv_iload_n hx hb kb_Mo_term_23 rfl (lv_at hl 3 rfl) ?_
    obtain ⟨n24, s24, hy, hi, hw⟩ := hw
    refine zr_iald hx hb hK hG 0 hy rfl hi kb_Mo_term_24 ?_
    refine lv_iload_n hx hb kb_Mo_term_25 rfl (lv_at hl 0 rfl) ?_
    refine lv_iand hx hb kb_Mo_term_26 ?_
    refine lv_if_ne (tgt := 51) hx hb kb_Mo_term_27 (by decide) (fun hc => ?_) (fun hc => ?_)
    · have hw := hw.1 hc
      exact hw _ _ _ hG hS (lv_sub hl [2, 3, 1, 0] rfl)
    · have hw := hw.2 hc
      refine lv_aload_n hx hb kb_Mo_term_30 rfl (lv_at hl 2 rfl) ?_
      obtain ⟨hy, r31, hrf, hw⟩ := hw
      refine zr_getR (ci := 8) (f := 816) hx hb hts ki_Mo hown hK hG hy rfl 16 (by decide) (hts _ (List.mem_cons_of_mem _ kw_600)) (fun _ h => h) rfl rfl hrf kb_Mo_term_31 ?_
      refine lv_iload_n hx hb kb_Mo_term_34 rfl (lv_at hl 3 rfl) ?_
      obtain ⟨n35, s35, hy, hi, hw⟩ := hw
      refine zr_iald hx hb hK hG 0 hy rfl hi kb_Mo_term_35 ?_
      refine zr_ci (va_runS (As := [.int (z_A σ6 s35 r31 x1.toNatClampNeg)]) (rest := []) ⟨hx, hb, hml, hown, hts⟩ (kc_Mo_count l D dA Z (z_A σ6 s35 r31 x1.toNatClampNeg) σ6 _) ⟨callB_of 1 hts (z_gw kw_730) rfl rfl rfl (hts _ (List.mem_cons_of_mem _ kw_9)) (hts _ (List.mem_cons_of_mem _ kw_728)) (by decide +kernel) ⟨Nat.le_of_ble_eq_true rfl, Nat.le_of_ble_eq_true rfl⟩, (hts _ (List.mem_cons_of_mem _ kw_729))⟩ (z_preS z_nwN (Nat.le_trans hZ hS.1) hG hK hN hw) rfl rfl hl.1 rfl (lv_room (Nat.le_of_ble_eq_true rfl)) kb_Mo_term_36 ⟨Nat.le_of_ble_eq_true rfl, Nat.le_of_ble_eq_true rfl⟩) hS (fun r36 σ36 H locs hw hG hS => ?_)
      refine lv_bipush (v := (6 : Int32)) hx hb kb_Mo_term_39 (by decide) ?_
      refine lv_icmp_ne (tgt := 51) hx hb kb_Mo_term_41 (by decide) (fun hc => ?_) (fun hc => ?_)
      · have hw := hw.1 hc
        exact hw _ _ _ hG hS (lv_sub hl [2, 3, 1, 0] rfl)
      · have hw := hw.2 hc
        refine lv_aload_n hx hb kb_Mo_term_44 rfl (lv_at hl 2 rfl) ?_
        refine lv_iconst (v := (3 : Int32)) hx hb kb_Mo_term_45 (by decide) ?_
        obtain ⟨hy, hw⟩ := hw
        refine zr_cv (va_runV (C := kR_Mo) (As := [.int ((3 : Int32))]) (rest := []) ⟨hx, hb, hml, hown, hts⟩ (kc_Mo_wrong l D dA Z a0 ((3 : Int32)) σ36 _) ⟨callB_of 1 hts (z_gw kw_712) rfl rfl rfl (hts _ (List.mem_cons_of_mem _ kw_9)) (hts _ (List.mem_cons_of_mem _ kw_710)) (by decide +kernel) ⟨Nat.le_of_ble_eq_true rfl, Nat.le_of_ble_eq_true rfl⟩, (hts _ (List.mem_cons_of_mem _ kw_711)), (hts _ (List.mem_cons_of_mem _ kw_955))⟩ (z_preV z_nwN (Nat.le_trans hZ hS.1) hG hK hN hy (ci := 8) (r := (kR_Mo, kT_Mo, 51)) rfl hw) rfl rfl hl.1 rfl (lv_room (Nat.le_of_ble_eq_true rfl)) kb_Mo_term_46 ⟨Nat.le_of_ble_eq_true rfl, Nat.le_of_ble_eq_true rfl⟩) hS (fun σ46 H locs hw hG hS => ?_)
        refine lv_iconst (v := (0 : Int32)) hx hb kb_Mo_term_49 (by decide) ?_
        exact zr_iret (free := fun q => Z ≤ q) z_nwN hx hb hr rfl hZ hK hN hG hS hw kb_Mo_term_50 hlocks
def kp_Mo_terms (a0 : Nat) (x1 : Int32) (x2 : Int32) (b3 : Nat) (x4 : Int32) (x5 : Int32) (σ : z_S) (Post : z_S → Prop) : Prop := ∀ (X29 : Int32 → Int32 → Int32 → Int32 → z_S → Prop) (X50 : Int32 → Int32 → Int32 → z_S → Prop) (X94 : Int32 → Int32 → z_S → Prop) (X106 : Int32 → Int32 → z_S → Prop) (X141 : Int32 → Int32 → Int32 → z_S → Prop) (X158 : Int32 → Int32 → Int32 → Nat → Int32 → Int32 → z_S → Prop) (X206 : Int32 → Int32 → z_S → Prop) (X227 : Int32 → z_S → Prop) (X251 : Nat → Int32 → Int32 → z_S → Prop),
    (∀ (v6 : Int32) (v7 : Int32) (v8 : Int32) (v9 : Int32) (σ : z_S), ((((3 : Int32)) ≤ v9 → X50 v6 v7 v8 σ) ∧ (¬ ((3 : Int32)) ≤ v9 → ∃ n43 s43, z_ty σ b3 = some (.inr (0, n43, s43)) ∧ vp_in (x4 + v9) n43 ∧ ∀ σ43, σ43 = z_sA σ s43 b3 (upd (z_A σ s43 b3) (x4 + v9).toNatClampNeg ((100 : Int32))) → X29 v6 v7 v8 (v9 + (1 : Int32)) σ43)) → X29 v6 v7 v8 v9 σ) →
    (∀ (v6 : Int32) (v7 : Int32) (v8 : Int32) (σ : z_S), ((v7 = 0 → z_ty σ a0 = some (.inl 8) ∧ ((¬ ((z_I σ 806 a0)) = 0 → X206 v6 v8 σ) ∧ (((z_I σ 806 a0)) = 0 → z_ty σ a0 = some (.inl 8) ∧ kp_Mo_sign a0 σ (fun (r173 : Int32) (σ173 : z_S) => (¬ r173 = ((41 : Int32)) → X206 v6 v8 σ173) ∧ (r173 = ((41 : Int32)) → z_ty σ173 a0 = some (.inl 8) ∧ ∃ r182, z_R σ173 819 a0 = some r182 ∧ (∃ n186 s186, z_ty σ173 r182 = some (.inr (0, n186, s186)) ∧ vp_in x2 n186 ∧ ((((z_A σ173 s186 r182 x2.toNatClampNeg)) = 0 → X206 v6 v8 σ173) ∧ (¬ ((z_A σ173 s186 r182 x2.toNatClampNeg)) = 0 → z_ty σ173 a0 = some (.inl 8) ∧ ∃ r191, z_R σ173 819 a0 = some r191 ∧ (∃ n195 s195, z_ty σ173 r191 = some (.inr (0, n195, s195)) ∧ vp_in x2 n195 ∧ (((z_A σ173 s195 r191 x2.toNatClampNeg) = v6 → X206 v6 v8 σ173) ∧ (¬ (z_A σ173 s195 r191 x2.toNatClampNeg) = v6 → z_ty σ173 a0 = some (.inl 8) ∧ kp_Mo_wrong a0 ((2 : Int32)) σ173 (fun (σ203 : z_S) => X206 v6 v8 σ203)))))))))))) ∧ (¬ v7 = 0 → (x5 = 0 → X94 v6 v8 σ) ∧ (¬ x5 = 0 → z_ty σ a0 = some (.inl 8) ∧ kp_Mo_sign a0 σ (fun (r61 : Int32) (σ61 : z_S) => (¬ r61 = ((35 : Int32)) → X94 v6 v8 σ61) ∧ (r61 = ((35 : Int32)) → ∃ n77 s77, z_ty σ61 b3 = some (.inr (0, n77, s77)) ∧ vp_in (x4 + v6) n77 ∧ ∀ σ77, σ77 = z_sA σ61 s77 b3 (upd (z_A σ61 s77 b3) (x4 + v6).toNatClampNeg ((99 : Int32))) → z_ty σ77 a0 = some (.inl 8) ∧ (z_ty σ77 a0 = some (.inl 8) ∧ ∀ σ85, σ85 = z_sI σ77 805 a0 ((z_I σ77 805 a0) + ((1 : Int32))) → X106 v6 ((1 : Int32)) σ85)))))) → X50 v6 v7 v8 σ) →
    (∀ (v6 : Int32) (v8 : Int32) (σ : z_S), (z_ty σ a0 = some (.inl 8) ∧ kp_Mo_term a0 x1 σ (fun (r102 : Int32) (σ102 : z_S) => ∃ n105 s105, z_ty σ102 b3 = some (.inr (0, n105, s105)) ∧ vp_in (x4 + v6) n105 ∧ ∀ σ105, σ105 = z_sA σ102 s105 b3 (upd (z_A σ102 s105 b3) (x4 + v6).toNatClampNeg r102) → X106 v6 v8 σ105)) → X94 v6 v8 σ) →
    (∀ (v6 : Int32) (v8 : Int32) (σ : z_S), (z_ty σ a0 = some (.inl 8) ∧ ((¬ ((z_I σ 806 a0)) = 0 → X141 (v6 + (1 : Int32)) v8 ((0 : Int32)) σ) ∧ (((z_I σ 806 a0)) = 0 → (¬ v8 = 0 → X141 (v6 + (1 : Int32)) v8 ((0 : Int32)) σ) ∧ (v8 = 0 → (((3 : Int32)) ≤ (v6 + (1 : Int32)) → X141 (v6 + (1 : Int32)) v8 ((0 : Int32)) σ) ∧ (¬ ((3 : Int32)) ≤ (v6 + (1 : Int32)) → z_ty σ a0 = some (.inl 8) ∧ kp_Mo_sign a0 σ (fun (r128 : Int32) (σ128 : z_S) => (¬ r128 = ((44 : Int32)) → X141 (v6 + (1 : Int32)) v8 ((0 : Int32)) σ128) ∧ (r128 = ((44 : Int32)) → X141 (v6 + (1 : Int32)) v8 ((1 : Int32)) σ128))))))) → X106 v6 v8 σ) →
    (∀ (v6 : Int32) (v8 : Int32) (t0 : Int32) (σ : z_S), (z_ty σ a0 = some (.inl 8) ∧ ((t0 = 0 → X158 v6 t0 v8 a0 (z_I σ 805 a0) ((0 : Int32)) σ) ∧ (¬ t0 = 0 → X158 v6 t0 v8 a0 (z_I σ 805 a0) ((1 : Int32)) σ))) → X141 v6 v8 t0 σ) →
    (∀ (v6 : Int32) (v7 : Int32) (v8 : Int32) (t0 : Nat) (t1 : Int32) (t2 : Int32) (σ : z_S), (z_ty σ t0 = some (.inl 8) ∧ ∀ σ159, σ159 = z_sI σ 805 t0 (t1 + t2) → X50 v6 v7 v8 σ159) → X158 v6 v7 v8 t0 t1 t2 σ) →
    (∀ (v6 : Int32) (v8 : Int32) (σ : z_S), (z_ty σ a0 = some (.inl 8) ∧ kp_Mo_take a0 ((41 : Int32)) σ (fun (σ209 : z_S) => z_ty σ209 a0 = some (.inl 8) ∧ ((¬ ((z_I σ209 806 a0)) = 0 → X227 v8 σ209) ∧ (((z_I σ209 806 a0)) = 0 → z_ty σ209 a0 = some (.inl 8) ∧ ∃ r220, z_R σ209 819 a0 = some r220 ∧ (∃ n226 s226, z_ty σ209 r220 = some (.inr (0, n226, s226)) ∧ vp_in x2 n226 ∧ ∀ σ226, σ226 = z_sA σ209 s226 r220 (upd (z_A σ209 s226 r220) x2.toNatClampNeg v6) → X227 v8 σ226))))) → X206 v6 v8 σ) →
    (∀ (v8 : Int32) (σ : z_S), (z_ty σ a0 = some (.inl 8) ∧ ∃ r228, z_R σ 815 a0 = some r228 ∧ (z_ty σ a0 = some (.inl 8) ∧ ∃ r233, z_R σ 815 a0 = some r233 ∧ (∃ n237 s237, z_ty σ r233 = some (.inr (2, n237, s237)) ∧ vp_in x1 n237 ∧ ((¬ ((z_A σ s237 r233 x1.toNatClampNeg)) = 0 → X251 r228 x1 ((1 : Int32)) σ) ∧ (((z_A σ s237 r233 x1.toNatClampNeg)) = 0 → (v8 = 0 → X251 r228 x1 ((0 : Int32)) σ) ∧ (¬ v8 = 0 → X251 r228 x1 ((1 : Int32)) σ)))))) → X227 v8 σ) →
    (∀ (t0 : Nat) (t1 : Int32) (t2 : Int32) (σ : z_S), (∃ n251 s251, z_ty σ t0 = some (.inr (2, n251, s251)) ∧ vp_in t1 n251 ∧ ∀ σ251, σ251 = z_sA σ s251 t0 (upd (z_A σ s251 t0) t1.toNatClampNeg (vp_nar .boolean t2)) → Post σ251) → X251 t0 t1 t2 σ) →
    (z_ty σ a0 = some (.inl 8) ∧ kp_Mo_take a0 ((40 : Int32)) σ (fun (σ3 : z_S) => z_ty σ3 a0 = some (.inl 8) ∧ ((¬ ((z_I σ3 806 a0)) = 0 → X29 ((0 : Int32)) ((0 : Int32)) ((0 : Int32)) ((0 : Int32)) σ3) ∧ (((z_I σ3 806 a0)) = 0 → X29 ((0 : Int32)) ((1 : Int32)) ((0 : Int32)) ((0 : Int32)) σ3))))
set_option maxHeartbeats 4000000 in
set_option maxRecDepth 100000 in
theorem kc_Mo_terms (l : Launch) (D : va_G) (dA : Nat → ClassId) (Z : Nat) (a0 : Nat) (x1 : Int32) (x2 : Int32) (b3 : Nat) (x4 : Int32) (x5 : Int32) (σ : z_S) (Post : z_S → Prop) : Met l km_Mo_terms ks_Mo_terms kr_Mo_terms (va_Pc [.ref a0, .int x1, .int x2, .ref b3, .int x4, .int x5] (fun U => z_U D z_cl z_KT dA Z (z_tys dA) z_nw σ U ∧ kp_Mo_terms  a0 x1 x2 b3 x4 x5 σ Post)) (z_Qv D z_cl z_KT dA Z (z_tys dA) z_nw Post) 0 0 (fun q => Z ≤ q) := by
  refine Met.ofW (cc := prog_10_method_12_code) (maxL := 10) (ret := none) (by decide) rfl ?_
  intro p e s m args below meth c s₁ B hml hv
  obtain ⟨rfl, ⟨hZ, hG, hK, hN⟩, hw⟩ := hv
  have hx := B.exec
  have hb := B.bytes
  have hr := B.returns
  have hts := atoms_spec (ws := ks_Mo_terms) B.pre
  have hown : s.vm.findClass kR_Mo = some m.cls := findClass_of_methodNamed B.named
  have hlocks := B.notSynchronized
  have hS : va_S (fun q => Z ≤ q) s.heap s.heap [] := va_S.rf
  have hl := lv_entry ([.ref a0, .int x1, .int x2, .ref b3, .int x4, .int x5]) (n := 10) (Nat.le_of_ble_eq_true rfl)
  rw [lg_entry_eq]
  generalize (lg_sl ([.ref a0, .int x1, .int x2, .ref b3, .int x4, .int x5]) ++ List.replicate (10 - (lg_sl ([.ref a0, .int x1, .int x2, .ref b3, .int x4, .int x5])).length) Slot.unset).toArray = ls at hl ⊢
  have hl : lv_has ls 10 [(0, .ref a0), (1, .int x1), (2, .int x2), (3, .ref b3), (4, .int x4), (5, .int x5)] := hl
  unfold kp_Mo_terms at hw
  have hw := hw (fun (v6 : Int32) (v7 : Int32) (v8 : Int32) (v9 : Int32) (σ : z_S) => ∀ (H : Heap) (locs : List Loc) (ls : Array Slot), z_G D z_cl z_KT dA Z σ H → va_S (fun q => Z ≤ q) s.heap H locs → lv_has ls 10 [(0, .ref a0), (1, .int x1), (2, .int x2), (3, .ref b3), (4, .int x4), (5, .int x5), (6, .int v6), (7, .int v7), (8, .int v8), (9, .int v9)] → W p l e (headSpec ks_Mo_terms kr_Mo_terms).room s m ([.ref a0, .int x1, .int x2, .ref b3, .int x4, .int x5] : List Value).toArray below meth c H locs 0 0 (MQ below (z_Qv D z_cl z_KT dA Z (z_tys dA) z_nw Post) ([.ref a0, .int x1, .int x2, .ref b3, .int x4, .int x5] : List Value).toArray s 0 0 (fun q => Z ≤ q)) (F0 m 29 ls []))
  have hw := hw (fun (v6 : Int32) (v7 : Int32) (v8 : Int32) (σ : z_S) => ∀ (H : Heap) (locs : List Loc) (ls : Array Slot), z_G D z_cl z_KT dA Z σ H → va_S (fun q => Z ≤ q) s.heap H locs → lv_has ls 10 [(0, .ref a0), (1, .int x1), (2, .int x2), (3, .ref b3), (4, .int x4), (5, .int x5), (6, .int v6), (7, .int v7), (8, .int v8)] → W p l e (headSpec ks_Mo_terms kr_Mo_terms).room s m ([.ref a0, .int x1, .int x2, .ref b3, .int x4, .int x5] : List Value).toArray below meth c H locs 0 0 (MQ below (z_Qv D z_cl z_KT dA Z (z_tys dA) z_nw Post) ([.ref a0, .int x1, .int x2, .ref b3, .int x4, .int x5] : List Value).toArray s 0 0 (fun q => Z ≤ q)) (F0 m 50 ls []))
  have hw := hw (fun (v6 : Int32) (v8 : Int32) (σ : z_S) => ∀ (H : Heap) (locs : List Loc) (ls : Array Slot), z_G D z_cl z_KT dA Z σ H → va_S (fun q => Z ≤ q) s.heap H locs → lv_has ls 10 [(0, .ref a0), (1, .int x1), (2, .int x2), (3, .ref b3), (4, .int x4), (5, .int x5), (6, .int v6), (8, .int v8)] → W p l e (headSpec ks_Mo_terms kr_Mo_terms).room s m ([.ref a0, .int x1, .int x2, .ref b3, .int x4, .int x5] : List Value).toArray below meth c H locs 0 0 (MQ below (z_Qv D z_cl z_KT dA Z (z_tys dA) z_nw Post) ([.ref a0, .int x1, .int x2, .ref b3, .int x4, .int x5] : List Value).toArray s 0 0 (fun q => Z ≤ q)) (F0 m 94 ls []))
  have hw := hw (fun (v6 : Int32) (v8 : Int32) (σ : z_S) => ∀ (H : Heap) (locs : List Loc) (ls : Array Slot), z_G D z_cl z_KT dA Z σ H → va_S (fun q => Z ≤ q) s.heap H locs → lv_has ls 10 [(0, .ref a0), (1, .int x1), (2, .int x2), (3, .ref b3), (4, .int x4), (5, .int x5), (6, .int v6), (8, .int v8)] → W p l e (headSpec ks_Mo_terms kr_Mo_terms).room s m ([.ref a0, .int x1, .int x2, .ref b3, .int x4, .int x5] : List Value).toArray below meth c H locs 0 0 (MQ below (z_Qv D z_cl z_KT dA Z (z_tys dA) z_nw Post) ([.ref a0, .int x1, .int x2, .ref b3, .int x4, .int x5] : List Value).toArray s 0 0 (fun q => Z ≤ q)) (F0 m 106 ls []))
  have hw := hw (fun (v6 : Int32) (v8 : Int32) (t0 : Int32) (σ : z_S) => ∀ (H : Heap) (locs : List Loc) (ls : Array Slot), z_G D z_cl z_KT dA Z σ H → va_S (fun q => Z ≤ q) s.heap H locs → lv_has ls 10 [(0, .ref a0), (1, .int x1), (2, .int x2), (3, .ref b3), (4, .int x4), (5, .int x5), (6, .int v6), (8, .int v8)] → W p l e (headSpec ks_Mo_terms kr_Mo_terms).room s m ([.ref a0, .int x1, .int x2, .ref b3, .int x4, .int x5] : List Value).toArray below meth c H locs 0 0 (MQ below (z_Qv D z_cl z_KT dA Z (z_tys dA) z_nw Post) ([.ref a0, .int x1, .int x2, .ref b3, .int x4, .int x5] : List Value).toArray s 0 0 (fun q => Z ≤ q)) (F0 m 141 ls [.int t0]))
  have hw := hw (fun (v6 : Int32) (v7 : Int32) (v8 : Int32) (t0 : Nat) (t1 : Int32) (t2 : Int32) (σ : z_S) => ∀ (H : Heap) (locs : List Loc) (ls : Array Slot), z_G D z_cl z_KT dA Z σ H → va_S (fun q => Z ≤ q) s.heap H locs → lv_has ls 10 [(0, .ref a0), (1, .int x1), (2, .int x2), (3, .ref b3), (4, .int x4), (5, .int x5), (6, .int v6), (7, .int v7), (8, .int v8)] → W p l e (headSpec ks_Mo_terms kr_Mo_terms).room s m ([.ref a0, .int x1, .int x2, .ref b3, .int x4, .int x5] : List Value).toArray below meth c H locs 0 0 (MQ below (z_Qv D z_cl z_KT dA Z (z_tys dA) z_nw Post) ([.ref a0, .int x1, .int x2, .ref b3, .int x4, .int x5] : List Value).toArray s 0 0 (fun q => Z ≤ q)) (F0 m 158 ls [.int t2, .int t1, .ref t0]))
  have hw := hw (fun (v6 : Int32) (v8 : Int32) (σ : z_S) => ∀ (H : Heap) (locs : List Loc) (ls : Array Slot), z_G D z_cl z_KT dA Z σ H → va_S (fun q => Z ≤ q) s.heap H locs → lv_has ls 10 [(0, .ref a0), (1, .int x1), (2, .int x2), (6, .int v6), (8, .int v8)] → W p l e (headSpec ks_Mo_terms kr_Mo_terms).room s m ([.ref a0, .int x1, .int x2, .ref b3, .int x4, .int x5] : List Value).toArray below meth c H locs 0 0 (MQ below (z_Qv D z_cl z_KT dA Z (z_tys dA) z_nw Post) ([.ref a0, .int x1, .int x2, .ref b3, .int x4, .int x5] : List Value).toArray s 0 0 (fun q => Z ≤ q)) (F0 m 206 ls []))
  have hw := hw (fun (v8 : Int32) (σ : z_S) => ∀ (H : Heap) (locs : List Loc) (ls : Array Slot), z_G D z_cl z_KT dA Z σ H → va_S (fun q => Z ≤ q) s.heap H locs → lv_has ls 10 [(0, .ref a0), (1, .int x1), (8, .int v8)] → W p l e (headSpec ks_Mo_terms kr_Mo_terms).room s m ([.ref a0, .int x1, .int x2, .ref b3, .int x4, .int x5] : List Value).toArray below meth c H locs 0 0 (MQ below (z_Qv D z_cl z_KT dA Z (z_tys dA) z_nw Post) ([.ref a0, .int x1, .int x2, .ref b3, .int x4, .int x5] : List Value).toArray s 0 0 (fun q => Z ≤ q)) (F0 m 227 ls []))
  have hw := hw (fun (t0 : Nat) (t1 : Int32) (t2 : Int32) (σ : z_S) => ∀ (H : Heap) (locs : List Loc) (ls : Array Slot), z_G D z_cl z_KT dA Z σ H → va_S (fun q => Z ≤ q) s.heap H locs → lv_has ls 10 [] → W p l e (headSpec ks_Mo_terms kr_Mo_terms).room s m ([.ref a0, .int x1, .int x2, .ref b3, .int x4, .int x5] : List Value).toArray below meth c H locs 0 0 (MQ below (z_Qv D z_cl z_KT dA Z (z_tys dA) z_nw Post) ([.ref a0, .int x1, .int x2, .ref b3, .int x4, .int x5] : List Value).toArray s 0 0 (fun q => Z ≤ q)) (F0 m 251 ls [.int t2, .int t1, .ref t0]))
  have hw := hw (by
    intro v6 v7 v8 v9 σ hw H locs ls hG hS hl
    refine lv_iload hx hb kb_Mo_terms_29 (lv_at hl 9 rfl) ?_
    refine lv_iconst (v := (3 : Int32)) hx hb kb_Mo_terms_31 (by decide) ?_
    refine lv_icmp_ge (tgt := 50) hx hb kb_Mo_terms_32 (by decide) (fun hc => ?_) (fun hc => ?_)
    · have hw := hw.1 hc
      exact hw _ _ _ hG hS (lv_sub hl [0, 1, 2, 3, 4, 5, 6, 7, 8] rfl)
    · have hw := hw.2 hc
      refine lv_aload_n hx hb kb_Mo_terms_35 rfl (lv_at hl 3 rfl) ?_
      refine lv_iload hx hb kb_Mo_terms_36 (lv_at hl 4 rfl) ?_
      refine lv_iload hx hb kb_Mo_terms_38 (lv_at hl 9 rfl) ?_
      refine lv_iadd hx hb kb_Mo_terms_40 ?_
      refine lv_bipush (v := (100 : Int32)) hx hb kb_Mo_terms_41 (by decide) ?_
      obtain ⟨n43, s43, hy, hi, hw⟩ := hw
      refine zr_iast hx hb hK hG hS 0 hy rfl hi kb_Mo_terms_43 (fun H locs hG hS => ?_)
      obtain ⟨σ43, e43⟩ : ∃ z, z = z_sA σ s43 b3 (upd (z_A σ s43 b3) (x4 + v9).toNatClampNeg ((100 : Int32))) := ⟨_, rfl⟩
      rw [← e43] at hG
      have hw := hw _ e43
      refine lv_iinc (v := v9 + (1 : Int32)) (lv' := [(9, .int (v9 + (1 : Int32))), (0, .ref a0), (1, .int x1), (2, .int x2), (3, .ref b3), (4, .int x4), (5, .int x5), (6, .int v6), (7, .int v7), (8, .int v8)]) hx hb kb_Mo_terms_44 hl (k := 9) rfl rfl (by decide) rfl (fun ls hl => ?_)
      refine lv_goto (tgt := 29) hx hb kb_Mo_terms_47 (by decide) ?_
      exact hw _ _ _ hG hS (lv_sub hl [1, 2, 3, 4, 5, 6, 7, 8, 9, 0] rfl))
  have hw := hw (by
    intro v6 v7 v8 σ hw H locs ls hG hS hl
    refine lv_iload hx hb kb_Mo_terms_50 (lv_at hl 7 rfl) ?_
    refine lv_if_eq (tgt := 165) hx hb kb_Mo_terms_52 (by decide) (fun hc => ?_) (fun hc => ?_)
    · have hw := hw.1 hc
      refine lv_aload_n hx hb kb_Mo_terms_165 rfl (lv_at hl 0 rfl) ?_
      obtain ⟨hy, hw⟩ := hw
      refine zr_getI (ci := 8) (f := 806) hx hb hts ki_Mo hown hK hG hy rfl 6 (by decide) (hts _ (List.mem_cons_of_mem _ kw_590)) (fun _ h => h) rfl rfl kb_Mo_terms_166 ?_
      refine lv_if_ne (tgt := 206) hx hb kb_Mo_terms_169 (by decide) (fun hc => ?_) (fun hc => ?_)
      · have hw := hw.1 hc
        exact hw _ _ _ hG hS (lv_sub hl [0, 1, 2, 6, 8] rfl)
      · have hw := hw.2 hc
        refine lv_aload_n hx hb kb_Mo_terms_172 rfl (lv_at hl 0 rfl) ?_
        obtain ⟨hy, hw⟩ := hw
        refine zr_ci (va_runV (C := kR_Mo) (As := []) (rest := []) ⟨hx, hb, hml, hown, hts⟩ (kc_Mo_sign l D dA Z a0 σ _) ⟨callB_of 0 hts (z_gw kw_706) rfl rfl rfl (hts _ (List.mem_cons_of_mem _ kw_9)) (hts _ (List.mem_cons_of_mem _ kw_704)) (by decide +kernel) ⟨Nat.le_of_ble_eq_true rfl, Nat.le_of_ble_eq_true rfl⟩, (hts _ (List.mem_cons_of_mem _ kw_705)), (hts _ (List.mem_cons_of_mem _ kw_954))⟩ (z_preV z_nwN (Nat.le_trans hZ hS.1) hG hK hN hy (ci := 8) (r := (kR_Mo, kT_Mo, 51)) rfl hw) rfl rfl hl.1 rfl (lv_room (Nat.le_of_ble_eq_true rfl)) kb_Mo_terms_173 ⟨Nat.le_of_ble_eq_true rfl, Nat.le_of_ble_eq_true rfl⟩) hS (fun r173 σ173 H locs hw hG hS => ?_)
        refine lv_bipush (v := (41 : Int32)) hx hb kb_Mo_terms_176 (by decide) ?_
        refine lv_icmp_ne (tgt := 206) hx hb kb_Mo_terms_178 (by decide) (fun hc => ?_) (fun hc => ?_)
        · have hw := hw.1 hc
          exact hw _ _ _ hG hS (lv_sub hl [0, 1, 2, 6, 8] rfl)
        · have hw := hw.2 hc
          refine lv_aload_n hx hb kb_Mo_terms_181 rfl (lv_at hl 0 rfl) ?_
          obtain ⟨hy, r182, hrf, hw⟩ := hw
          refine zr_getR (ci := 8) (f := 819) hx hb hts ki_Mo hown hK hG hy rfl 19 (by decide) (hts _ (List.mem_cons_of_mem _ kw_603)) (fun _ h => h) rfl rfl hrf kb_Mo_terms_182 ?_
          refine lv_iload_n hx hb kb_Mo_terms_185 rfl (lv_at hl 2 rfl) ?_
          obtain ⟨n186, s186, hy, hi, hw⟩ := hw
          refine zr_iald hx hb hK hG 0 hy rfl hi kb_Mo_terms_186 ?_
          refine lv_if_eq (tgt := 206) hx hb kb_Mo_terms_187 (by decide) (fun hc => ?_) (fun hc => ?_)
          · have hw := hw.1 hc
            exact hw _ _ _ hG hS (lv_sub hl [0, 1, 2, 6, 8] rfl)
          · have hw := hw.2 hc
            refine lv_aload_n hx hb kb_Mo_terms_190 rfl (lv_at hl 0 rfl) ?_
            obtain ⟨hy, r191, hrf, hw⟩ := hw
            refine zr_getR (ci := 8) (f := 819) hx hb hts ki_Mo hown hK hG hy rfl 19 (by decide) (hts _ (List.mem_cons_of_mem _ kw_603)) (fun _ h => h) rfl rfl hrf kb_Mo_terms_191 ?_
            refine lv_iload_n hx hb kb_Mo_terms_194 rfl (lv_at hl 2 rfl) ?_
            obtain ⟨n195, s195, hy, hi, hw⟩ := hw
            refine zr_iald hx hb hK hG 0 hy rfl hi kb_Mo_terms_195 ?_
            refine lv_iload hx hb kb_Mo_terms_196 (lv_at hl 6 rfl) ?_
            refine lv_icmp_eq (tgt := 206) hx hb kb_Mo_terms_198 (by decide) (fun hc => ?_) (fun hc => ?_)
            · have hw := hw.1 hc
              exact hw _ _ _ hG hS (lv_sub hl [0, 1, 2, 6, 8] rfl)
            · have hw := hw.2 hc
              refine lv_aload_n hx hb kb_Mo_terms_201 rfl (lv_at hl 0 rfl) ?_
              refine lv_iconst (v := (2 : Int32)) hx hb kb_Mo_terms_202 (by decide) ?_
              obtain ⟨hy, hw⟩ := hw
              refine zr_cv (va_runV (C := kR_Mo) (As := [.int ((2 : Int32))]) (rest := []) ⟨hx, hb, hml, hown, hts⟩ (kc_Mo_wrong l D dA Z a0 ((2 : Int32)) σ173 _) ⟨callB_of 1 hts (z_gw kw_712) rfl rfl rfl (hts _ (List.mem_cons_of_mem _ kw_9)) (hts _ (List.mem_cons_of_mem _ kw_710)) (by decide +kernel) ⟨Nat.le_of_ble_eq_true rfl, Nat.le_of_ble_eq_true rfl⟩, (hts _ (List.mem_cons_of_mem _ kw_711)), (hts _ (List.mem_cons_of_mem _ kw_955))⟩ (z_preV z_nwN (Nat.le_trans hZ hS.1) hG hK hN hy (ci := 8) (r := (kR_Mo, kT_Mo, 51)) rfl hw) rfl rfl hl.1 rfl (lv_room (Nat.le_of_ble_eq_true rfl)) kb_Mo_terms_203 ⟨Nat.le_of_ble_eq_true rfl, Nat.le_of_ble_eq_true rfl⟩) hS (fun σ203 H locs hw hG hS => ?_)
              exact hw _ _ _ hG hS (lv_sub hl [0, 1, 2, 6, 8] rfl)
    · have hw := hw.2 hc
      refine lv_iload hx hb kb_Mo_terms_55 (lv_at hl 5 rfl) ?_
      refine lv_if_eq (tgt := 94) hx hb kb_Mo_terms_57 (by decide) (fun hc => ?_) (fun hc => ?_)
      · have hw := hw.1 hc
        exact hw _ _ _ hG hS (lv_sub hl [0, 1, 2, 3, 4, 5, 6, 8] rfl)
      · have hw := hw.2 hc
        refine lv_aload_n hx hb kb_Mo_terms_60 rfl (lv_at hl 0 rfl) ?_
        obtain ⟨hy, hw⟩ := hw
        refine zr_ci (va_runV (C := kR_Mo) (As := []) (rest := []) ⟨hx, hb, hml, hown, hts⟩ (kc_Mo_sign l D dA Z a0 σ _) ⟨callB_of 0 hts (z_gw kw_706) rfl rfl rfl (hts _ (List.mem_cons_of_mem _ kw_9)) (hts _ (List.mem_cons_of_mem _ kw_704)) (by decide +kernel) ⟨Nat.le_of_ble_eq_true rfl, Nat.le_of_ble_eq_true rfl⟩, (hts _ (List.mem_cons_of_mem _ kw_705)), (hts _ (List.mem_cons_of_mem _ kw_954))⟩ (z_preV z_nwN (Nat.le_trans hZ hS.1) hG hK hN hy (ci := 8) (r := (kR_Mo, kT_Mo, 51)) rfl hw) rfl rfl hl.1 rfl (lv_room (Nat.le_of_ble_eq_true rfl)) kb_Mo_terms_61 ⟨Nat.le_of_ble_eq_true rfl, Nat.le_of_ble_eq_true rfl⟩) hS (fun r61 σ61 H locs hw hG hS => ?_)
        refine lv_bipush (v := (35 : Int32)) hx hb kb_Mo_terms_64 (by decide) ?_
        refine lv_icmp_ne (tgt := 94) hx hb kb_Mo_terms_66 (by decide) (fun hc => ?_) (fun hc => ?_)
        · have hw := hw.1 hc
          exact hw _ _ _ hG hS (lv_sub hl [0, 1, 2, 3, 4, 5, 6, 8] rfl)
        · have hw := hw.2 hc
          refine lv_aload_n hx hb kb_Mo_terms_69 rfl (lv_at hl 3 rfl) ?_
          refine lv_iload hx hb kb_Mo_terms_70 (lv_at hl 4 rfl) ?_
          refine lv_iload hx hb kb_Mo_terms_72 (lv_at hl 6 rfl) ?_
          refine lv_iadd hx hb kb_Mo_terms_74 ?_
          refine lv_bipush (v := (99 : Int32)) hx hb kb_Mo_terms_75 (by decide) ?_
          obtain ⟨n77, s77, hy, hi, hw⟩ := hw
          refine zr_iast hx hb hK hG hS 0 hy rfl hi kb_Mo_terms_77 (fun H locs hG hS => ?_)
          obtain ⟨σ77, e77⟩ : ∃ z, z = z_sA σ61 s77 b3 (upd (z_A σ61 s77 b3) (x4 + v6).toNatClampNeg ((99 : Int32))) := ⟨_, rfl⟩
          rw [← e77] at hG
          have hw := hw _ e77
          refine lv_aload_n hx hb kb_Mo_terms_78 rfl (lv_at hl 0 rfl) ?_
          refine lv_dup hx hb kb_Mo_terms_79 rfl ?_
          obtain ⟨hy, hw⟩ := hw
          refine zr_getI (ci := 8) (f := 805) hx hb hts ki_Mo hown hK hG hy rfl 5 (by decide) (hts _ (List.mem_cons_of_mem _ kw_589)) (fun _ h => h) rfl rfl kb_Mo_terms_80 ?_
          refine lv_iconst (v := (1 : Int32)) hx hb kb_Mo_terms_83 (by decide) ?_
          refine lv_iadd hx hb kb_Mo_terms_84 ?_
          obtain ⟨hy, hw⟩ := hw
          refine zr_putI (ci := 8) (f := 805) hx hb hts ki_Mo ky_Mo kyo_Mo kn_Mo hown hK hG hS hy rfl 5 (by decide) (hts _ (List.mem_cons_of_mem _ kw_589)) (fun _ h => h) rfl rfl rfl rfl rfl kb_Mo_terms_85 (fun H locs hG hS => ?_)
          obtain ⟨σ85, e85⟩ : ∃ z, z = z_sI σ77 805 a0 ((z_I σ77 805 a0) + ((1 : Int32))) := ⟨_, rfl⟩
          rw [← e85] at hG
          have hw := hw _ e85
          refine lv_iconst (v := (1 : Int32)) hx hb kb_Mo_terms_88 (by decide) ?_
          refine lv_istore (lv' := [(8, .int ((1 : Int32))), (0, .ref a0), (1, .int x1), (2, .int x2), (3, .ref b3), (4, .int x4), (5, .int x5), (6, .int v6), (7, .int v7)]) hx hb kb_Mo_terms_89 hl (by decide) rfl (fun ls hl => ?_)
          refine lv_goto (tgt := 106) hx hb kb_Mo_terms_91 (by decide) ?_
          exact hw _ _ _ hG hS (lv_sub hl [1, 2, 3, 4, 5, 6, 7, 0] rfl))
  have hw := hw (by
    intro v6 v8 σ hw H locs ls hG hS hl
    refine lv_aload_n hx hb kb_Mo_terms_94 rfl (lv_at hl 3 rfl) ?_
    refine lv_iload hx hb kb_Mo_terms_95 (lv_at hl 4 rfl) ?_
    refine lv_iload hx hb kb_Mo_terms_97 (lv_at hl 6 rfl) ?_
    refine lv_iadd hx hb kb_Mo_terms_99 ?_
    refine lv_aload_n hx hb kb_Mo_terms_100 rfl (lv_at hl 0 rfl) ?_
    refine lv_iload_n hx hb kb_Mo_terms_101 rfl (lv_at hl 1 rfl) ?_
    obtain ⟨hy, hw⟩ := hw
    refine zr_ci (va_runV (C := kR_Mo) (As := [.int x1]) (rest := [.int (x4 + v6), .ref b3]) ⟨hx, hb, hml, hown, hts⟩ (kc_Mo_term l D dA Z a0 x1 σ _) ⟨callB_of 1 hts (z_gw kw_724) rfl rfl rfl (hts _ (List.mem_cons_of_mem _ kw_9)) (hts _ (List.mem_cons_of_mem _ kw_722)) (by decide +kernel) ⟨Nat.le_of_ble_eq_true rfl, Nat.le_of_ble_eq_true rfl⟩, (hts _ (List.mem_cons_of_mem _ kw_723)), (hts _ (List.mem_cons_of_mem _ kw_959))⟩ (z_preV z_nwN (Nat.le_trans hZ hS.1) hG hK hN hy (ci := 8) (r := (kR_Mo, kT_Mo, 51)) rfl hw) rfl rfl hl.1 rfl (lv_room (Nat.le_of_ble_eq_true rfl)) kb_Mo_terms_102 ⟨Nat.le_of_ble_eq_true rfl, Nat.le_of_ble_eq_true rfl⟩) hS (fun r102 σ102 H locs hw hG hS => ?_)
    obtain ⟨n105, s105, hy, hi, hw⟩ := hw
    refine zr_iast hx hb hK hG hS 0 hy rfl hi kb_Mo_terms_105 (fun H locs hG hS => ?_)
    obtain ⟨σ105, e105⟩ : ∃ z, z = z_sA σ102 s105 b3 (upd (z_A σ102 s105 b3) (x4 + v6).toNatClampNeg r102) := ⟨_, rfl⟩
    rw [← e105] at hG
    have hw := hw _ e105
    exact hw _ _ _ hG hS (lv_sub hl [0, 1, 2, 3, 4, 5, 6, 7] rfl))
  have hw := hw (by
    intro v6 v8 σ hw H locs ls hG hS hl
    refine lv_iinc (v := v6 + (1 : Int32)) (lv' := [(6, .int (v6 + (1 : Int32))), (0, .ref a0), (1, .int x1), (2, .int x2), (3, .ref b3), (4, .int x4), (5, .int x5), (8, .int v8)]) hx hb kb_Mo_terms_106 hl (k := 6) rfl rfl (by decide) rfl (fun ls hl => ?_)
    refine lv_aload_n hx hb kb_Mo_terms_109 rfl (lv_at hl 1 rfl) ?_
    obtain ⟨hy, hw⟩ := hw
    refine zr_getI (ci := 8) (f := 806) hx hb hts ki_Mo hown hK hG hy rfl 6 (by decide) (hts _ (List.mem_cons_of_mem _ kw_590)) (fun _ h => h) rfl rfl kb_Mo_terms_110 ?_
    refine lv_if_ne (tgt := 140) hx hb kb_Mo_terms_113 (by decide) (fun hc => ?_) (fun hc => ?_)
    · have hw := hw.1 hc
      refine lv_iconst (v := (0 : Int32)) hx hb kb_Mo_terms_140 (by decide) ?_
      exact hw _ _ _ hG hS (lv_sub hl [1, 2, 3, 4, 5, 6, 0, 7] rfl)
    · have hw := hw.2 hc
      refine lv_iload hx hb kb_Mo_terms_116 (lv_at hl 7 rfl) ?_
      refine lv_if_ne (tgt := 140) hx hb kb_Mo_terms_118 (by decide) (fun hc => ?_) (fun hc => ?_)
      · have hw := hw.1 hc
        refine lv_iconst (v := (0 : Int32)) hx hb kb_Mo_terms_140 (by decide) ?_
        exact hw _ _ _ hG hS (lv_sub hl [1, 2, 3, 4, 5, 6, 0, 7] rfl)
      · have hw := hw.2 hc
        refine lv_iload hx hb kb_Mo_terms_121 (lv_at hl 0 rfl) ?_
        refine lv_iconst (v := (3 : Int32)) hx hb kb_Mo_terms_123 (by decide) ?_
        refine lv_icmp_ge (tgt := 140) hx hb kb_Mo_terms_124 (by decide) (fun hc => ?_) (fun hc => ?_)
        · have hw := hw.1 hc
          refine lv_iconst (v := (0 : Int32)) hx hb kb_Mo_terms_140 (by decide) ?_
          exact hw _ _ _ hG hS (lv_sub hl [1, 2, 3, 4, 5, 6, 0, 7] rfl)
        · have hw := hw.2 hc
          refine lv_aload_n hx hb kb_Mo_terms_127 rfl (lv_at hl 1 rfl) ?_
          obtain ⟨hy, hw⟩ := hw
          refine zr_ci (va_runV (C := kR_Mo) (As := []) (rest := []) ⟨hx, hb, hml, hown, hts⟩ (kc_Mo_sign l D dA Z a0 σ _) ⟨callB_of 0 hts (z_gw kw_706) rfl rfl rfl (hts _ (List.mem_cons_of_mem _ kw_9)) (hts _ (List.mem_cons_of_mem _ kw_704)) (by decide +kernel) ⟨Nat.le_of_ble_eq_true rfl, Nat.le_of_ble_eq_true rfl⟩, (hts _ (List.mem_cons_of_mem _ kw_705)), (hts _ (List.mem_cons_of_mem _ kw_954))⟩ (z_preV z_nwN (Nat.le_trans hZ hS.1) hG hK hN hy (ci := 8) (r := (kR_Mo, kT_Mo, 51)) rfl hw) rfl rfl hl.1 rfl (lv_room (Nat.le_of_ble_eq_true rfl)) kb_Mo_terms_128 ⟨Nat.le_of_ble_eq_true rfl, Nat.le_of_ble_eq_true rfl⟩) hS (fun r128 σ128 H locs hw hG hS => ?_)
          refine lv_bipush (v := (44 : Int32)) hx hb kb_Mo_terms_131 (by decide) ?_
          refine lv_icmp_ne (tgt := 140) hx hb kb_Mo_terms_133 (by decide) (fun hc => ?_) (fun hc => ?_)
          · have hw := hw.1 hc
            refine lv_iconst (v := (0 : Int32)) hx hb kb_Mo_terms_140 (by decide) ?_
            exact hw _ _ _ hG hS (lv_sub hl [1, 2, 3, 4, 5, 6, 0, 7] rfl)
          · have hw := hw.2 hc
            refine lv_iconst (v := (1 : Int32)) hx hb kb_Mo_terms_136 (by decide) ?_
            refine lv_goto (tgt := 141) hx hb kb_Mo_terms_137 (by decide) ?_
            exact hw _ _ _ hG hS (lv_sub hl [1, 2, 3, 4, 5, 6, 0, 7] rfl))
  have hw := hw (by
    intro v6 v8 t0 σ hw H locs ls hG hS hl
    refine lv_istore (lv' := [(7, .int t0), (0, .ref a0), (1, .int x1), (2, .int x2), (3, .ref b3), (4, .int x4), (5, .int x5), (6, .int v6), (8, .int v8)]) hx hb kb_Mo_terms_141 hl (by decide) rfl (fun ls hl => ?_)
    refine lv_aload_n hx hb kb_Mo_terms_143 rfl (lv_at hl 1 rfl) ?_
    refine lv_dup hx hb kb_Mo_terms_144 rfl ?_
    obtain ⟨hy, hw⟩ := hw
    refine zr_getI (ci := 8) (f := 805) hx hb hts ki_Mo hown hK hG hy rfl 5 (by decide) (hts _ (List.mem_cons_of_mem _ kw_589)) (fun _ h => h) rfl rfl kb_Mo_terms_145 ?_
    refine lv_iload hx hb kb_Mo_terms_148 (lv_at hl 0 rfl) ?_
    refine lv_if_eq (tgt := 157) hx hb kb_Mo_terms_150 (by decide) (fun hc => ?_) (fun hc => ?_)
    · have hw := hw.1 hc
      refine lv_iconst (v := (0 : Int32)) hx hb kb_Mo_terms_157 (by decide) ?_
      exact hw _ _ _ hG hS (lv_sub hl [1, 2, 3, 4, 5, 6, 7, 0, 8] rfl)
    · have hw := hw.2 hc
      refine lv_iconst (v := (1 : Int32)) hx hb kb_Mo_terms_153 (by decide) ?_
      refine lv_goto (tgt := 158) hx hb kb_Mo_terms_154 (by decide) ?_
      exact hw _ _ _ hG hS (lv_sub hl [1, 2, 3, 4, 5, 6, 7, 0, 8] rfl))
  have hw := hw (by
    intro v6 v7 v8 t0 t1 t2 σ hw H locs ls hG hS hl
    refine lv_iadd hx hb kb_Mo_terms_158 ?_
    obtain ⟨hy, hw⟩ := hw
    refine zr_putI (ci := 8) (f := 805) hx hb hts ki_Mo ky_Mo kyo_Mo kn_Mo hown hK hG hS hy rfl 5 (by decide) (hts _ (List.mem_cons_of_mem _ kw_589)) (fun _ h => h) rfl rfl rfl rfl rfl kb_Mo_terms_159 (fun H locs hG hS => ?_)
    obtain ⟨σ159, e159⟩ : ∃ z, z = z_sI σ 805 t0 (t1 + t2) := ⟨_, rfl⟩
    rw [← e159] at hG
    have hw := hw _ e159
    refine lv_goto (tgt := 50) hx hb kb_Mo_terms_162 (by decide) ?_
    exact hw _ _ _ hG hS (lv_sub hl [0, 1, 2, 3, 4, 5, 6, 7, 8] rfl))
  have hw := hw (by
    intro v6 v8 σ hw H locs ls hG hS hl
    refine lv_aload_n hx hb kb_Mo_terms_206 rfl (lv_at hl 0 rfl) ?_
    refine lv_bipush (v := (41 : Int32)) hx hb kb_Mo_terms_207 (by decide) ?_
    obtain ⟨hy, hw⟩ := hw
    refine zr_cv (va_runV (C := kR_Mo) (As := [.int ((41 : Int32))]) (rest := []) ⟨hx, hb, hml, hown, hts⟩ (kc_Mo_take l D dA Z a0 ((41 : Int32)) σ _) ⟨callB_of 1 hts (z_gw kw_721) rfl rfl rfl (hts _ (List.mem_cons_of_mem _ kw_9)) (hts _ (List.mem_cons_of_mem _ kw_719)) (by decide +kernel) ⟨Nat.le_of_ble_eq_true rfl, Nat.le_of_ble_eq_true rfl⟩, (hts _ (List.mem_cons_of_mem _ kw_720)), (hts _ (List.mem_cons_of_mem _ kw_958))⟩ (z_preV z_nwN (Nat.le_trans hZ hS.1) hG hK hN hy (ci := 8) (r := (kR_Mo, kT_Mo, 51)) rfl hw) rfl rfl hl.1 rfl (lv_room (Nat.le_of_ble_eq_true rfl)) kb_Mo_terms_209 ⟨Nat.le_of_ble_eq_true rfl, Nat.le_of_ble_eq_true rfl⟩) hS (fun σ209 H locs hw hG hS => ?_)
    refine lv_aload_n hx hb kb_Mo_terms_212 rfl (lv_at hl 0 rfl) ?_
    obtain ⟨hy, hw⟩ := hw
    refine zr_getI (ci := 8) (f := 806) hx hb hts ki_Mo hown hK hG hy rfl 6 (by decide) (hts _ (List.mem_cons_of_mem _ kw_590)) (fun _ h => h) rfl rfl kb_Mo_terms_213 ?_
    refine lv_if_ne (tgt := 227) hx hb kb_Mo_terms_216 (by decide) (fun hc => ?_) (fun hc => ?_)
    · have hw := hw.1 hc
      exact hw _ _ _ hG hS (lv_sub hl [0, 1, 4] rfl)
    · have hw := hw.2 hc
      refine lv_aload_n hx hb kb_Mo_terms_219 rfl (lv_at hl 0 rfl) ?_
      obtain ⟨hy, r220, hrf, hw⟩ := hw
      refine zr_getR (ci := 8) (f := 819) hx hb hts ki_Mo hown hK hG hy rfl 19 (by decide) (hts _ (List.mem_cons_of_mem _ kw_603)) (fun _ h => h) rfl rfl hrf kb_Mo_terms_220 ?_
      refine lv_iload_n hx hb kb_Mo_terms_223 rfl (lv_at hl 2 rfl) ?_
      refine lv_iload hx hb kb_Mo_terms_224 (lv_at hl 3 rfl) ?_
      obtain ⟨n226, s226, hy, hi, hw⟩ := hw
      refine zr_iast hx hb hK hG hS 0 hy rfl hi kb_Mo_terms_226 (fun H locs hG hS => ?_)
      obtain ⟨σ226, e226⟩ : ∃ z, z = z_sA σ209 s226 r220 (upd (z_A σ209 s226 r220) x2.toNatClampNeg v6) := ⟨_, rfl⟩
      rw [← e226] at hG
      have hw := hw _ e226
      exact hw _ _ _ hG hS (lv_sub hl [0, 1, 4] rfl))
  have hw := hw (by
    intro v8 σ hw H locs ls hG hS hl
    refine lv_aload_n hx hb kb_Mo_terms_227 rfl (lv_at hl 0 rfl) ?_
    obtain ⟨hy, r228, hrf, hw⟩ := hw
    refine zr_getR (ci := 8) (f := 815) hx hb hts ki_Mo hown hK hG hy rfl 15 (by decide) (hts _ (List.mem_cons_of_mem _ kw_599)) (fun _ h => h) rfl rfl hrf kb_Mo_terms_228 ?_
    refine lv_iload_n hx hb kb_Mo_terms_231 rfl (lv_at hl 1 rfl) ?_
    refine lv_aload_n hx hb kb_Mo_terms_232 rfl (lv_at hl 0 rfl) ?_
    obtain ⟨hy, r233, hrf, hw⟩ := hw
    refine zr_getR (ci := 8) (f := 815) hx hb hts ki_Mo hown hK hG hy rfl 15 (by decide) (hts _ (List.mem_cons_of_mem _ kw_599)) (fun _ h => h) rfl rfl hrf kb_Mo_terms_233 ?_
    refine lv_iload_n hx hb kb_Mo_terms_236 rfl (lv_at hl 1 rfl) ?_
    obtain ⟨n237, s237, hy, hi, hw⟩ := hw
    refine zr_zald hx hb hK hG 2 hy rfl hi kb_Mo_terms_237 ?_
    refine lv_if_ne (tgt := 246) hx hb kb_Mo_terms_238 (by decide) (fun hc => ?_) (fun hc => ?_)
    · have hw := hw.1 hc
      refine lv_iconst (v := (1 : Int32)) hx hb kb_Mo_terms_246 (by decide) ?_
      refine lv_goto (tgt := 251) hx hb kb_Mo_terms_247 (by decide) ?_
      exact hw _ _ _ hG hS (lv_sub hl [] rfl)
    · have hw := hw.2 hc
      refine lv_iload hx hb kb_Mo_terms_241 (lv_at hl 2 rfl) ?_
      refine lv_if_eq (tgt := 250) hx hb kb_Mo_terms_243 (by decide) (fun hc => ?_) (fun hc => ?_)
      · have hw := hw.1 hc
        refine lv_iconst (v := (0 : Int32)) hx hb kb_Mo_terms_250 (by decide) ?_
        exact hw _ _ _ hG hS (lv_sub hl [] rfl)
      · have hw := hw.2 hc
        refine lv_iconst (v := (1 : Int32)) hx hb kb_Mo_terms_246 (by decide) ?_
        refine lv_goto (tgt := 251) hx hb kb_Mo_terms_247 (by decide) ?_
        exact hw _ _ _ hG hS (lv_sub hl [] rfl))
  have hw := hw (by
    intro t0 t1 t2 σ hw H locs ls hG hS hl
    obtain ⟨n251, s251, hy, hi, hw⟩ := hw
    refine zr_zast hx hb hK hG hS 2 hy rfl hi kb_Mo_terms_251 (fun H locs hG hS => ?_)
    obtain ⟨σ251, e251⟩ : ∃ z, z = z_sA σ s251 t0 (upd (z_A σ s251 t0) t1.toNatClampNeg (vp_nar .boolean t2)) := ⟨_, rfl⟩
    rw [← e251] at hG
    have hw := hw _ e251
    exact zr_vret z_nwN hx hb hr hZ hK hN hG hS hw kb_Mo_terms_252 hlocks)
  refine lv_aload_n hx hb kb_Mo_terms_0 rfl (lv_at hl 0 rfl) ?_
  refine lv_bipush (v := (40 : Int32)) hx hb kb_Mo_terms_1 (by decide) ?_
  obtain ⟨hy, hw⟩ := hw
  refine zr_cv (va_runV (C := kR_Mo) (As := [.int ((40 : Int32))]) (rest := []) ⟨hx, hb, hml, hown, hts⟩ (kc_Mo_take l D dA Z a0 ((40 : Int32)) σ _) ⟨callB_of 1 hts (z_gw kw_721) rfl rfl rfl (hts _ (List.mem_cons_of_mem _ kw_9)) (hts _ (List.mem_cons_of_mem _ kw_719)) (by decide +kernel) ⟨Nat.le_of_ble_eq_true rfl, Nat.le_of_ble_eq_true rfl⟩, (hts _ (List.mem_cons_of_mem _ kw_720)), (hts _ (List.mem_cons_of_mem _ kw_958))⟩ (z_preV z_nwN (Nat.le_trans hZ hS.1) hG hK hN hy (ci := 8) (r := (kR_Mo, kT_Mo, 51)) rfl hw) rfl rfl hl.1 rfl (lv_room (Nat.le_of_ble_eq_true rfl)) kb_Mo_terms_3 ⟨Nat.le_of_ble_eq_true rfl, Nat.le_of_ble_eq_true rfl⟩) hS (fun σ3 H locs hw hG hS => ?_)
  refine lv_iconst (v := (0 : Int32)) hx hb kb_Mo_terms_6 (by decide) ?_
  refine lv_istore (lv' := [(6, .int ((0 : Int32))), (0, .ref a0), (1, .int x1), (2, .int x2), (3, .ref b3), (4, .int x4), (5, .int x5)]) hx hb kb_Mo_terms_7 hl (by decide) rfl (fun ls hl => ?_)
  refine lv_aload_n hx hb kb_Mo_terms_9 rfl (lv_at hl 1 rfl) ?_
  obtain ⟨hy, hw⟩ := hw
  refine zr_getI (ci := 8) (f := 806) hx hb hts ki_Mo hown hK hG hy rfl 6 (by decide) (hts _ (List.mem_cons_of_mem _ kw_590)) (fun _ h => h) rfl rfl kb_Mo_terms_10 ?_
  refine lv_if_ne (tgt := 20) hx hb kb_Mo_terms_13 (by decide) (fun hc => ?_) (fun hc => ?_)
  · have hw := hw.1 hc
    refine lv_iconst (v := (0 : Int32)) hx hb kb_Mo_terms_20 (by decide) ?_
    refine lv_istore (lv' := [(7, .int ((0 : Int32))), (6, .int ((0 : Int32))), (0, .ref a0), (1, .int x1), (2, .int x2), (3, .ref b3), (4, .int x4), (5, .int x5)]) hx hb kb_Mo_terms_21 hl (by decide) rfl (fun ls hl => ?_)
    refine lv_iconst (v := (0 : Int32)) hx hb kb_Mo_terms_23 (by decide) ?_
    refine lv_istore (lv' := [(8, .int ((0 : Int32))), (7, .int ((0 : Int32))), (6, .int ((0 : Int32))), (0, .ref a0), (1, .int x1), (2, .int x2), (3, .ref b3), (4, .int x4), (5, .int x5)]) hx hb kb_Mo_terms_24 hl (by decide) rfl (fun ls hl => ?_)
    refine lv_iconst (v := (0 : Int32)) hx hb kb_Mo_terms_26 (by decide) ?_
    refine lv_istore (lv' := [(9, .int ((0 : Int32))), (8, .int ((0 : Int32))), (7, .int ((0 : Int32))), (6, .int ((0 : Int32))), (0, .ref a0), (1, .int x1), (2, .int x2), (3, .ref b3), (4, .int x4), (5, .int x5)]) hx hb kb_Mo_terms_27 hl (by decide) rfl (fun ls hl => ?_)
    exact hw _ _ _ hG hS (lv_sub hl [4, 5, 6, 7, 8, 9, 3, 2, 1, 0] rfl)
  · have hw := hw.2 hc
    refine lv_iconst (v := (1 : Int32)) hx hb kb_Mo_terms_16 (by decide) ?_
    refine lv_goto (tgt := 21) hx hb kb_Mo_terms_17 (by decide) ?_
    refine lv_istore (lv' := [(7, .int ((1 : Int32))), (6, .int ((0 : Int32))), (0, .ref a0), (1, .int x1), (2, .int x2), (3, .ref b3), (4, .int x4), (5, .int x5)]) hx hb kb_Mo_terms_21 hl (by decide) rfl (fun ls hl => ?_)
    refine lv_iconst (v := (0 : Int32)) hx hb kb_Mo_terms_23 (by decide) ?_
    refine lv_istore (lv' := [(8, .int ((0 : Int32))), (7, .int ((1 : Int32))), (6, .int ((0 : Int32))), (0, .ref a0), (1, .int x1), (2, .int x2), (3, .ref b3), (4, .int x4), (5, .int x5)]) hx hb kb_Mo_terms_24 hl (by decide) rfl (fun ls hl => ?_)
    refine lv_iconst (v := (0 : Int32)) hx hb kb_Mo_terms_26 (by decide) ?_
    refine lv_istore (lv' := [(9, .int ((0 : Int32))), (8, .int ((0 : Int32))), (7, .int ((1 : Int32))), (6, .int ((0 : Int32))), (0, .ref a0), (1, .int x1), (2, .int x2), (3, .ref b3), (4, .int x4), (5, .int x5)]) hx hb kb_Mo_terms_27 hl (by decide) rfl (fun ls hl => ?_)
    exact hw _ _ _ hG hS (lv_sub hl [4, 5, 6, 7, 8, 9, 3, 2, 1, 0] rfl)
def kp_Mo_literal (a0 : Nat) (x1 : Int32) (σ : z_S) (Post : z_S → Prop) : Prop := ∀ (X55 : Int32 → Int32 → Int32 → Int32 → z_S → Prop) (X74 : Int32 → Int32 → Int32 → Int32 → Int32 → z_S → Prop) (X129 : z_S → Prop) (X135 : Int32 → Int32 → z_S → Prop) (X150 : Int32 → Int32 → z_S → Prop) (X167 : Int32 → Int32 → Nat → Int32 → Int32 → z_S → Prop) (X185 : Int32 → Nat → Int32 → Int32 → z_S → Prop) (X287 : Int32 → z_S → Prop) (X314 : Int32 → Nat → Int32 → Int32 → z_S → Prop) (X340 : Int32 → z_S → Prop) (X352 : z_S → Prop),
    (∀ (v2 : Int32) (v3 : Int32) (v4 : Int32) (t0 : Int32) (σ : z_S), ((¬ t0 = 0 → X74 v2 v3 v4 ((0 : Int32)) ((0 : Int32)) σ) ∧ (t0 = 0 → z_ty σ a0 = some (.inl 8) ∧ kp_Mo_wrong a0 ((1 : Int32)) σ (fun (σ64 : z_S) => Post σ64))) → X55 v2 v3 v4 t0 σ) →
    (∀ (v2 : Int32) (v3 : Int32) (v4 : Int32) (v6 : Int32) (v7 : Int32) (σ : z_S), ((v2 ≤ v7 → (v2 = ((5 : Int32)) → X129 σ) ∧ (¬ v2 = ((5 : Int32)) → kp_Mo_isName v4 σ (fun (r117 : Int32) (σ117 : z_S) => (r117 = 0 → X135 v3 v4 σ117) ∧ (¬ r117 = 0 → (¬ v6 = ((3 : Int32)) → X135 v3 v4 σ117) ∧ (v6 = ((3 : Int32)) → X129 σ117))))) ∧ (¬ v2 ≤ v7 → z_ty σ a0 = some (.inl 8) ∧ ∃ r83, z_R σ 812 a0 = some r83 ∧ (∃ n92 s92, z_ty σ r83 = some (.inr (0, n92, s92)) ∧ vp_in ((((5 : Int32)) * x1) + v7) n92 ∧ ((¬ ((z_A σ s92 r83 ((((5 : Int32)) * x1) + v7).toNatClampNeg)) = 0 → X74 v2 v3 v4 (v6 + ((0 : Int32))) (v7 + (1 : Int32)) σ) ∧ (((z_A σ s92 r83 ((((5 : Int32)) * x1) + v7).toNatClampNeg)) = 0 → X74 v2 v3 v4 (v6 + ((1 : Int32))) (v7 + (1 : Int32)) σ))))) → X74 v2 v3 v4 v6 v7 σ) →
    (∀ (σ : z_S), (z_ty σ a0 = some (.inl 8) ∧ kp_Mo_wrong a0 ((3 : Int32)) σ (fun (σ131 : z_S) => Post σ131)) → X129 σ) →
    (∀ (v3 : Int32) (v4 : Int32) (σ : z_S), (kp_Mo_isName v4 σ (fun (r137 : Int32) (σ137 : z_S) => (¬ r137 = 0 → X150 v3 v4 σ137) ∧ (r137 = 0 → (¬ v4 = ((126 : Int32)) → z_ty σ137 a0 = some (.inl 8) ∧ ∃ r229, z_R σ137 812 a0 = some r229 ∧ (∃ n234 s234, z_ty σ137 r229 = some (.inr (0, n234, s234)) ∧ vp_in v3 n234 ∧ ∀ σ234, σ234 = z_sA σ137 s234 r229 (upd (z_A σ137 s234 r229) v3.toNatClampNeg ((2 : Int32))) → z_ty σ234 a0 = some (.inl 8) ∧ ∃ r236, z_R σ234 814 a0 = some r236 ∧ (z_ty σ234 a0 = some (.inl 8) ∧ kp_Mo_term a0 x1 σ234 (fun (r244 : Int32) (σ244 : z_S) => ∃ n247 s247, z_ty σ244 r236 = some (.inr (0, n247, s247)) ∧ vp_in (((3 : Int32)) * v3) n247 ∧ ∀ σ247, σ247 = z_sA σ244 s247 r236 (upd (z_A σ244 s247 r236) (((3 : Int32)) * v3).toNatClampNeg r244) → z_ty σ247 a0 = some (.inl 8) ∧ ((¬ ((z_I σ247 806 a0)) = 0 → X287 v3 σ247) ∧ (((z_I σ247 806 a0)) = 0 → z_ty σ247 a0 = some (.inl 8) ∧ kp_Mo_sign a0 σ247 (fun (r256 : Int32) (σ256 : z_S) => (r256 = ((60 : Int32)) → X287 v3 σ256) ∧ (¬ r256 = ((60 : Int32)) → z_ty σ256 a0 = some (.inl 8) ∧ kp_Mo_sign a0 σ256 (fun (r265 : Int32) (σ265 : z_S) => (r265 = ((61 : Int32)) → X287 v3 σ265) ∧ (¬ r265 = ((61 : Int32)) → z_ty σ265 a0 = some (.inl 8) ∧ kp_Mo_sign a0 σ265 (fun (r274 : Int32) (σ274 : z_S) => (r274 = ((33 : Int32)) → X287 v3 σ274) ∧ (¬ r274 = ((33 : Int32)) → z_ty σ274 a0 = some (.inl 8) ∧ kp_Mo_wrong a0 ((1 : Int32)) σ274 (fun (σ284 : z_S) => X287 v3 σ284))))))))))))) ∧ (v4 = ((126 : Int32)) → X150 v3 v4 σ137)))) → X135 v3 v4 σ) →
    (∀ (v3 : Int32) (v4 : Int32) (σ : z_S), (z_ty σ a0 = some (.inl 8) ∧ ∃ r151, z_R σ 812 a0 = some r151 ∧ ((¬ v4 = ((126 : Int32)) → X167 v3 v4 r151 v3 ((0 : Int32)) σ) ∧ (v4 = ((126 : Int32)) → X167 v3 v4 r151 v3 ((1 : Int32)) σ))) → X150 v3 v4 σ) →
    (∀ (v3 : Int32) (v4 : Int32) (t0 : Nat) (t1 : Int32) (t2 : Int32) (σ : z_S), (∃ n167 s167, z_ty σ t0 = some (.inr (0, n167, s167)) ∧ vp_in t1 n167 ∧ ∀ σ167, σ167 = z_sA σ s167 t0 (upd (z_A σ s167 t0) t1.toNatClampNeg t2) → z_ty σ167 a0 = some (.inl 8) ∧ ((¬ v4 = ((126 : Int32)) → X185 v3 a0 (z_I σ167 805 a0) ((0 : Int32)) σ167) ∧ (v4 = ((126 : Int32)) → X185 v3 a0 (z_I σ167 805 a0) ((1 : Int32)) σ167))) → X167 v3 v4 t0 t1 t2 σ) →
    (∀ (v3 : Int32) (t0 : Nat) (t1 : Int32) (t2 : Int32) (σ : z_S), (z_ty σ t0 = some (.inl 8) ∧ ∀ σ186, σ186 = z_sI σ 805 t0 (t1 + t2) → z_ty σ186 a0 = some (.inl 8) ∧ ∃ r190, z_R σ186 813 a0 = some r190 ∧ (z_ty σ186 a0 = some (.inl 8) ∧ kp_Mo_relationAt a0 σ186 (fun (r195 : Int32) (σ195 : z_S) => ∃ n198 s198, z_ty σ195 r190 = some (.inr (0, n198, s198)) ∧ vp_in v3 n198 ∧ ∀ σ198, σ198 = z_sA σ195 s198 r190 (upd (z_A σ195 s198 r190) v3.toNatClampNeg r195) → z_ty σ198 a0 = some (.inl 8) ∧ ((¬ ((z_I σ198 806 a0)) = 0 → X352 σ198) ∧ (((z_I σ198 806 a0)) = 0 → z_ty σ198 a0 = some (.inl 8) ∧ ∃ r209, z_R σ198 813 a0 = some r209 ∧ (∃ n213 s213, z_ty σ198 r209 = some (.inr (0, n213, s213)) ∧ vp_in v3 n213 ∧ (z_ty σ198 a0 = some (.inl 8) ∧ ∃ r215, z_R σ198 814 a0 = some r215 ∧ (z_ty σ198 a0 = some (.inl 8) ∧ kp_Mo_terms a0 x1 (z_A σ198 s213 r209 v3.toNatClampNeg) r215 (((3 : Int32)) * v3) ((0 : Int32)) σ198 (fun (σ222 : z_S) => X352 σ222))))))))) → X185 v3 t0 t1 t2 σ) →
    (∀ (v3 : Int32) (σ : z_S), (z_ty σ a0 = some (.inl 8) ∧ ∃ r288, z_R σ 813 a0 = some r288 ∧ (z_ty σ a0 = some (.inl 8) ∧ kp_Mo_sign a0 σ (fun (r293 : Int32) (σ293 : z_S) => ∃ n296 s296, z_ty σ293 r288 = some (.inr (0, n296, s296)) ∧ vp_in v3 n296 ∧ ∀ σ296, σ296 = z_sA σ293 s296 r288 (upd (z_A σ293 s296 r288) v3.toNatClampNeg r293) → z_ty σ296 a0 = some (.inl 8) ∧ (z_ty σ296 a0 = some (.inl 8) ∧ ((¬ ((z_I σ296 806 a0)) = 0 → X314 v3 a0 (z_I σ296 805 a0) ((0 : Int32)) σ296) ∧ (((z_I σ296 806 a0)) = 0 → X314 v3 a0 (z_I σ296 805 a0) ((1 : Int32)) σ296)))))) → X287 v3 σ) →
    (∀ (v3 : Int32) (t0 : Nat) (t1 : Int32) (t2 : Int32) (σ : z_S), (z_ty σ t0 = some (.inl 8) ∧ ∀ σ315, σ315 = z_sI σ 805 t0 (t1 + t2) → z_ty σ315 a0 = some (.inl 8) ∧ ((¬ ((z_I σ315 806 a0)) = 0 → X340 v3 σ315) ∧ (((z_I σ315 806 a0)) = 0 → z_ty σ315 a0 = some (.inl 8) ∧ ∃ r326, z_R σ315 814 a0 = some r326 ∧ (z_ty σ315 a0 = some (.inl 8) ∧ kp_Mo_term a0 x1 σ315 (fun (r336 : Int32) (σ336 : z_S) => ∃ n339 s339, z_ty σ336 r326 = some (.inr (0, n339, s339)) ∧ vp_in ((((3 : Int32)) * v3) + ((1 : Int32))) n339 ∧ ∀ σ339, σ339 = z_sA σ336 s339 r326 (upd (z_A σ336 s339 r326) ((((3 : Int32)) * v3) + ((1 : Int32))).toNatClampNeg r336) → X340 v3 σ339))))) → X314 v3 t0 t1 t2 σ) →
    (∀ (v3 : Int32) (σ : z_S), (z_ty σ a0 = some (.inl 8) ∧ ∃ r341, z_R σ 814 a0 = some r341 ∧ (∃ n351 s351, z_ty σ r341 = some (.inr (0, n351, s351)) ∧ vp_in ((((3 : Int32)) * v3) + ((2 : Int32))) n351 ∧ ∀ σ351, σ351 = z_sA σ s351 r341 (upd (z_A σ s351 r341) ((((3 : Int32)) * v3) + ((2 : Int32))).toNatClampNeg ((100 : Int32))) → X352 σ351)) → X340 v3 σ) →
    (∀ (σ : z_S), (z_ty σ a0 = some (.inl 8) ∧ ∃ r353, z_R σ 811 a0 = some r353 ∧ (∃ n358 s358, z_ty σ r353 = some (.inr (0, n358, s358)) ∧ vp_in x1 n358 ∧ (∃ n361 s361, z_ty σ r353 = some (.inr (0, n361, s361)) ∧ vp_in x1 n361 ∧ ∀ σ361, σ361 = z_sA σ s361 r353 (upd (z_A σ s361 r353) x1.toNatClampNeg ((z_A σ s358 r353 x1.toNatClampNeg) + ((1 : Int32)))) → Post σ361))) → X352 σ) →
    (z_ty σ a0 = some (.inl 8) ∧ ∃ r1, z_R σ 811 a0 = some r1 ∧ (∃ n5 s5, z_ty σ r1 = some (.inr (0, n5, s5)) ∧ vp_in x1 n5 ∧ (z_ty σ a0 = some (.inl 8) ∧ kp_Mo_sign a0 σ (fun (r14 : Int32) (σ14 : z_S) => kp_Mo_isName r14 σ14 (fun (r21 : Int32) (σ21 : z_S) => (¬ r21 = 0 → X55 (z_A σ s5 r1 x1.toNatClampNeg) ((((5 : Int32)) * x1) + (z_A σ s5 r1 x1.toNatClampNeg)) r14 ((1 : Int32)) σ21) ∧ (r21 = 0 → (r14 = ((126 : Int32)) → X55 (z_A σ s5 r1 x1.toNatClampNeg) ((((5 : Int32)) * x1) + (z_A σ s5 r1 x1.toNatClampNeg)) r14 ((1 : Int32)) σ21) ∧ (¬ r14 = ((126 : Int32)) → kp_Mo_isVariable r14 σ21 (fun (r36 : Int32) (σ36 : z_S) => (¬ r36 = 0 → X55 (z_A σ s5 r1 x1.toNatClampNeg) ((((5 : Int32)) * x1) + (z_A σ s5 r1 x1.toNatClampNeg)) r14 ((1 : Int32)) σ36) ∧ (r36 = 0 → kp_Mo_isDigit r14 σ36 (fun (r44 : Int32) (σ44 : z_S) => (r44 = 0 → X55 (z_A σ s5 r1 x1.toNatClampNeg) ((((5 : Int32)) * x1) + (z_A σ s5 r1 x1.toNatClampNeg)) r14 ((0 : Int32)) σ44) ∧ (¬ r44 = 0 → X55 (z_A σ s5 r1 x1.toNatClampNeg) ((((5 : Int32)) * x1) + (z_A σ s5 r1 x1.toNatClampNeg)) r14 ((1 : Int32)) σ44)))))))))))
set_option maxHeartbeats 4000000 in
set_option maxRecDepth 100000 in
theorem kc_Mo_literal (l : Launch) (D : va_G) (dA : Nat → ClassId) (Z : Nat) (a0 : Nat) (x1 : Int32) (σ : z_S) (Post : z_S → Prop) : Met l km_Mo_literal ks_Mo_literal kr_Mo_literal (va_Pc [.ref a0, .int x1] (fun U => z_U D z_cl z_KT dA Z (z_tys dA) z_nw σ U ∧ kp_Mo_literal  a0 x1 σ Post)) (z_Qv D z_cl z_KT dA Z (z_tys dA) z_nw Post) 0 0 (fun q => Z ≤ q) := by
  refine Met.ofW (cc := prog_10_method_13_code) (maxL := 8) (ret := none) (by decide) rfl ?_
  intro p e s m args below meth c s₁ B hml hv
  obtain ⟨rfl, ⟨hZ, hG, hK, hN⟩, hw⟩ := hv
  have hx := B.exec
  have hb := B.bytes
  have hr := B.returns
  have hts := atoms_spec (ws := ks_Mo_literal) B.pre
  have hown : s.vm.findClass kR_Mo = some m.cls := findClass_of_methodNamed B.named
  have hlocks := B.notSynchronized
  have hS : va_S (fun q => Z ≤ q) s.heap s.heap [] := va_S.rf
  have hl := lv_entry ([.ref a0, .int x1]) (n := 8) (Nat.le_of_ble_eq_true rfl)
  rw [lg_entry_eq]
  generalize (lg_sl ([.ref a0, .int x1]) ++ List.replicate (8 - (lg_sl ([.ref a0, .int x1])).length) Slot.unset).toArray = ls at hl ⊢
  have hl : lv_has ls 8 [(0, .ref a0), (1, .int x1)] := hl
  unfold kp_Mo_literal at hw
  have hw := hw (fun (v2 : Int32) (v3 : Int32) (v4 : Int32) (t0 : Int32) (σ : z_S) => ∀ (H : Heap) (locs : List Loc) (ls : Array Slot), z_G D z_cl z_KT dA Z σ H → va_S (fun q => Z ≤ q) s.heap H locs → lv_has ls 8 [(0, .ref a0), (1, .int x1), (2, .int v2), (3, .int v3), (4, .int v4)] → W p l e (headSpec ks_Mo_literal kr_Mo_literal).room s m ([.ref a0, .int x1] : List Value).toArray below meth c H locs 0 0 (MQ below (z_Qv D z_cl z_KT dA Z (z_tys dA) z_nw Post) ([.ref a0, .int x1] : List Value).toArray s 0 0 (fun q => Z ≤ q)) (F0 m 55 ls [.int t0]))
  have hw := hw (fun (v2 : Int32) (v3 : Int32) (v4 : Int32) (v6 : Int32) (v7 : Int32) (σ : z_S) => ∀ (H : Heap) (locs : List Loc) (ls : Array Slot), z_G D z_cl z_KT dA Z σ H → va_S (fun q => Z ≤ q) s.heap H locs → lv_has ls 8 [(0, .ref a0), (1, .int x1), (2, .int v2), (3, .int v3), (4, .int v4), (6, .int v6), (7, .int v7)] → W p l e (headSpec ks_Mo_literal kr_Mo_literal).room s m ([.ref a0, .int x1] : List Value).toArray below meth c H locs 0 0 (MQ below (z_Qv D z_cl z_KT dA Z (z_tys dA) z_nw Post) ([.ref a0, .int x1] : List Value).toArray s 0 0 (fun q => Z ≤ q)) (F0 m 74 ls []))
  have hw := hw (fun (σ : z_S) => ∀ (H : Heap) (locs : List Loc) (ls : Array Slot), z_G D z_cl z_KT dA Z σ H → va_S (fun q => Z ≤ q) s.heap H locs → lv_has ls 8 [(0, .ref a0)] → W p l e (headSpec ks_Mo_literal kr_Mo_literal).room s m ([.ref a0, .int x1] : List Value).toArray below meth c H locs 0 0 (MQ below (z_Qv D z_cl z_KT dA Z (z_tys dA) z_nw Post) ([.ref a0, .int x1] : List Value).toArray s 0 0 (fun q => Z ≤ q)) (F0 m 129 ls []))
  have hw := hw (fun (v3 : Int32) (v4 : Int32) (σ : z_S) => ∀ (H : Heap) (locs : List Loc) (ls : Array Slot), z_G D z_cl z_KT dA Z σ H → va_S (fun q => Z ≤ q) s.heap H locs → lv_has ls 8 [(0, .ref a0), (1, .int x1), (3, .int v3), (4, .int v4)] → W p l e (headSpec ks_Mo_literal kr_Mo_literal).room s m ([.ref a0, .int x1] : List Value).toArray below meth c H locs 0 0 (MQ below (z_Qv D z_cl z_KT dA Z (z_tys dA) z_nw Post) ([.ref a0, .int x1] : List Value).toArray s 0 0 (fun q => Z ≤ q)) (F0 m 135 ls []))
  have hw := hw (fun (v3 : Int32) (v4 : Int32) (σ : z_S) => ∀ (H : Heap) (locs : List Loc) (ls : Array Slot), z_G D z_cl z_KT dA Z σ H → va_S (fun q => Z ≤ q) s.heap H locs → lv_has ls 8 [(0, .ref a0), (1, .int x1), (3, .int v3), (4, .int v4)] → W p l e (headSpec ks_Mo_literal kr_Mo_literal).room s m ([.ref a0, .int x1] : List Value).toArray below meth c H locs 0 0 (MQ below (z_Qv D z_cl z_KT dA Z (z_tys dA) z_nw Post) ([.ref a0, .int x1] : List Value).toArray s 0 0 (fun q => Z ≤ q)) (F0 m 150 ls []))
  have hw := hw (fun (v3 : Int32) (v4 : Int32) (t0 : Nat) (t1 : Int32) (t2 : Int32) (σ : z_S) => ∀ (H : Heap) (locs : List Loc) (ls : Array Slot), z_G D z_cl z_KT dA Z σ H → va_S (fun q => Z ≤ q) s.heap H locs → lv_has ls 8 [(0, .ref a0), (1, .int x1), (3, .int v3), (4, .int v4)] → W p l e (headSpec ks_Mo_literal kr_Mo_literal).room s m ([.ref a0, .int x1] : List Value).toArray below meth c H locs 0 0 (MQ below (z_Qv D z_cl z_KT dA Z (z_tys dA) z_nw Post) ([.ref a0, .int x1] : List Value).toArray s 0 0 (fun q => Z ≤ q)) (F0 m 167 ls [.int t2, .int t1, .ref t0]))
  have hw := hw (fun (v3 : Int32) (t0 : Nat) (t1 : Int32) (t2 : Int32) (σ : z_S) => ∀ (H : Heap) (locs : List Loc) (ls : Array Slot), z_G D z_cl z_KT dA Z σ H → va_S (fun q => Z ≤ q) s.heap H locs → lv_has ls 8 [(0, .ref a0), (1, .int x1), (3, .int v3)] → W p l e (headSpec ks_Mo_literal kr_Mo_literal).room s m ([.ref a0, .int x1] : List Value).toArray below meth c H locs 0 0 (MQ below (z_Qv D z_cl z_KT dA Z (z_tys dA) z_nw Post) ([.ref a0, .int x1] : List Value).toArray s 0 0 (fun q => Z ≤ q)) (F0 m 185 ls [.int t2, .int t1, .ref t0]))
  have hw := hw (fun (v3 : Int32) (σ : z_S) => ∀ (H : Heap) (locs : List Loc) (ls : Array Slot), z_G D z_cl z_KT dA Z σ H → va_S (fun q => Z ≤ q) s.heap H locs → lv_has ls 8 [(0, .ref a0), (1, .int x1), (3, .int v3)] → W p l e (headSpec ks_Mo_literal kr_Mo_literal).room s m ([.ref a0, .int x1] : List Value).toArray below meth c H locs 0 0 (MQ below (z_Qv D z_cl z_KT dA Z (z_tys dA) z_nw Post) ([.ref a0, .int x1] : List Value).toArray s 0 0 (fun q => Z ≤ q)) (F0 m 287 ls []))
  have hw := hw (fun (v3 : Int32) (t0 : Nat) (t1 : Int32) (t2 : Int32) (σ : z_S) => ∀ (H : Heap) (locs : List Loc) (ls : Array Slot), z_G D z_cl z_KT dA Z σ H → va_S (fun q => Z ≤ q) s.heap H locs → lv_has ls 8 [(0, .ref a0), (1, .int x1), (3, .int v3)] → W p l e (headSpec ks_Mo_literal kr_Mo_literal).room s m ([.ref a0, .int x1] : List Value).toArray below meth c H locs 0 0 (MQ below (z_Qv D z_cl z_KT dA Z (z_tys dA) z_nw Post) ([.ref a0, .int x1] : List Value).toArray s 0 0 (fun q => Z ≤ q)) (F0 m 314 ls [.int t2, .int t1, .ref t0]))
  have hw := hw (fun (v3 : Int32) (σ : z_S) => ∀ (H : Heap) (locs : List Loc) (ls : Array Slot), z_G D z_cl z_KT dA Z σ H → va_S (fun q => Z ≤ q) s.heap H locs → lv_has ls 8 [(0, .ref a0), (1, .int x1), (3, .int v3)] → W p l e (headSpec ks_Mo_literal kr_Mo_literal).room s m ([.ref a0, .int x1] : List Value).toArray below meth c H locs 0 0 (MQ below (z_Qv D z_cl z_KT dA Z (z_tys dA) z_nw Post) ([.ref a0, .int x1] : List Value).toArray s 0 0 (fun q => Z ≤ q)) (F0 m 340 ls []))
  have hw := hw (fun (σ : z_S) => ∀ (H : Heap) (locs : List Loc) (ls : Array Slot), z_G D z_cl z_KT dA Z σ H → va_S (fun q => Z ≤ q) s.heap H locs → lv_has ls 8 [(0, .ref a0), (1, .int x1)] → W p l e (headSpec ks_Mo_literal kr_Mo_literal).room s m ([.ref a0, .int x1] : List Value).toArray below meth c H locs 0 0 (MQ below (z_Qv D z_cl z_KT dA Z (z_tys dA) z_nw Post) ([.ref a0, .int x1] : List Value).toArray s 0 0 (fun q => Z ≤ q)) (F0 m 352 ls []))
  have hw := hw (by
    intro v2 v3 v4 t0 σ hw H locs ls hG hS hl
    refine lv_istore (lv' := [(5, .int t0), (0, .ref a0), (1, .int x1), (2, .int v2), (3, .int v3), (4, .int v4)]) hx hb kb_Mo_literal_55 hl (by decide) rfl (fun ls hl => ?_)
    refine lv_iload hx hb kb_Mo_literal_57 (lv_at hl 0 rfl) ?_
    refine lv_if_ne (tgt := 68) hx hb kb_Mo_literal_59 (by decide) (fun hc => ?_) (fun hc => ?_)
    · have hw := hw.1 hc
      refine lv_iconst (v := (0 : Int32)) hx hb kb_Mo_literal_68 (by decide) ?_
      refine lv_istore (lv' := [(6, .int ((0 : Int32))), (5, .int t0), (0, .ref a0), (1, .int x1), (2, .int v2), (3, .int v3), (4, .int v4)]) hx hb kb_Mo_literal_69 hl (by decide) rfl (fun ls hl => ?_)
      refine lv_iconst (v := (0 : Int32)) hx hb kb_Mo_literal_71 (by decide) ?_
      refine lv_istore (lv' := [(7, .int ((0 : Int32))), (6, .int ((0 : Int32))), (5, .int t0), (0, .ref a0), (1, .int x1), (2, .int v2), (3, .int v3), (4, .int v4)]) hx hb kb_Mo_literal_72 hl (by decide) rfl (fun ls hl => ?_)
      exact hw _ _ _ hG hS (lv_sub hl [3, 4, 5, 6, 7, 1, 0] rfl)
    · have hw := hw.2 hc
      refine lv_aload_n hx hb kb_Mo_literal_62 rfl (lv_at hl 1 rfl) ?_
      refine lv_iconst (v := (1 : Int32)) hx hb kb_Mo_literal_63 (by decide) ?_
      obtain ⟨hy, hw⟩ := hw
      refine zr_cv (va_runV (C := kR_Mo) (As := [.int ((1 : Int32))]) (rest := []) ⟨hx, hb, hml, hown, hts⟩ (kc_Mo_wrong l D dA Z a0 ((1 : Int32)) σ _) ⟨callB_of 1 hts (z_gw kw_712) rfl rfl rfl (hts _ (List.mem_cons_of_mem _ kw_9)) (hts _ (List.mem_cons_of_mem _ kw_710)) (by decide +kernel) ⟨Nat.le_of_ble_eq_true rfl, Nat.le_of_ble_eq_true rfl⟩, (hts _ (List.mem_cons_of_mem _ kw_711)), (hts _ (List.mem_cons_of_mem _ kw_955))⟩ (z_preV z_nwN (Nat.le_trans hZ hS.1) hG hK hN hy (ci := 8) (r := (kR_Mo, kT_Mo, 51)) rfl hw) rfl rfl hl.1 rfl (lv_room (Nat.le_of_ble_eq_true rfl)) kb_Mo_literal_64 ⟨Nat.le_of_ble_eq_true rfl, Nat.le_of_ble_eq_true rfl⟩) hS (fun σ64 H locs hw hG hS => ?_)
      exact zr_vret z_nwN hx hb hr hZ hK hN hG hS hw kb_Mo_literal_67 hlocks)
  have hw := hw (by
    intro v2 v3 v4 v6 v7 σ hw H locs ls hG hS hl
    refine lv_iload hx hb kb_Mo_literal_74 (lv_at hl 6 rfl) ?_
    refine lv_iload_n hx hb kb_Mo_literal_76 rfl (lv_at hl 2 rfl) ?_
    refine lv_icmp_ge (tgt := 110) hx hb kb_Mo_literal_77 (by decide) (fun hc => ?_) (fun hc => ?_)
    · have hw := hw.1 hc
      refine lv_iload_n hx hb kb_Mo_literal_110 rfl (lv_at hl 2 rfl) ?_
      refine lv_iconst (v := (5 : Int32)) hx hb kb_Mo_literal_111 (by decide) ?_
      refine lv_icmp_eq (tgt := 129) hx hb kb_Mo_literal_112 (by decide) (fun hc => ?_) (fun hc => ?_)
      · have hw := hw.1 hc
        exact hw _ _ _ hG hS (lv_sub hl [0] rfl)
      · have hw := hw.2 hc
        refine lv_iload hx hb kb_Mo_literal_115 (lv_at hl 4 rfl) ?_
        refine zr_ci (va_runS (As := [.int v4]) (rest := []) ⟨hx, hb, hml, hown, hts⟩ (kc_Mo_isName l D dA Z v4 σ _) ⟨callB_of 1 hts (z_gw kw_709) rfl rfl rfl (hts _ (List.mem_cons_of_mem _ kw_9)) (hts _ (List.mem_cons_of_mem _ kw_707)) (by decide +kernel) ⟨Nat.le_of_ble_eq_true rfl, Nat.le_of_ble_eq_true rfl⟩, (hts _ (List.mem_cons_of_mem _ kw_708))⟩ (z_preS z_nwN (Nat.le_trans hZ hS.1) hG hK hN hw) rfl rfl hl.1 rfl (lv_room (Nat.le_of_ble_eq_true rfl)) kb_Mo_literal_117 ⟨Nat.le_of_ble_eq_true rfl, Nat.le_of_ble_eq_true rfl⟩) hS (fun r117 σ117 H locs hw hG hS => ?_)
        refine lv_if_eq (tgt := 135) hx hb kb_Mo_literal_120 (by decide) (fun hc => ?_) (fun hc => ?_)
        · have hw := hw.1 hc
          exact hw _ _ _ hG hS (lv_sub hl [0, 1, 3, 4] rfl)
        · have hw := hw.2 hc
          refine lv_iload hx hb kb_Mo_literal_123 (lv_at hl 5 rfl) ?_
          refine lv_iconst (v := (3 : Int32)) hx hb kb_Mo_literal_125 (by decide) ?_
          refine lv_icmp_ne (tgt := 135) hx hb kb_Mo_literal_126 (by decide) (fun hc => ?_) (fun hc => ?_)
          · have hw := hw.1 hc
            exact hw _ _ _ hG hS (lv_sub hl [0, 1, 3, 4] rfl)
          · have hw := hw.2 hc
            exact hw _ _ _ hG hS (lv_sub hl [0] rfl)
    · have hw := hw.2 hc
      refine lv_iload hx hb kb_Mo_literal_80 (lv_at hl 5 rfl) ?_
      refine lv_aload_n hx hb kb_Mo_literal_82 rfl (lv_at hl 0 rfl) ?_
      obtain ⟨hy, r83, hrf, hw⟩ := hw
      refine zr_getR (ci := 8) (f := 812) hx hb hts ki_Mo hown hK hG hy rfl 12 (by decide) (hts _ (List.mem_cons_of_mem _ kw_596)) (fun _ h => h) rfl rfl hrf kb_Mo_literal_83 ?_
      refine lv_iconst (v := (5 : Int32)) hx hb kb_Mo_literal_86 (by decide) ?_
      refine lv_iload_n hx hb kb_Mo_literal_87 rfl (lv_at hl 1 rfl) ?_
      refine lv_imul hx hb kb_Mo_literal_88 ?_
      refine lv_iload hx hb kb_Mo_literal_89 (lv_at hl 6 rfl) ?_
      refine lv_iadd hx hb kb_Mo_literal_91 ?_
      obtain ⟨n92, s92, hy, hi, hw⟩ := hw
      refine zr_iald hx hb hK hG 0 hy rfl hi kb_Mo_literal_92 ?_
      refine lv_if_ne (tgt := 100) hx hb kb_Mo_literal_93 (by decide) (fun hc => ?_) (fun hc => ?_)
      · have hw := hw.1 hc
        refine lv_iconst (v := (0 : Int32)) hx hb kb_Mo_literal_100 (by decide) ?_
        refine lv_iadd hx hb kb_Mo_literal_101 ?_
        refine lv_istore (lv' := [(6, .int (v6 + ((0 : Int32)))), (0, .ref a0), (1, .int x1), (2, .int v2), (3, .int v3), (4, .int v4), (7, .int v7)]) hx hb kb_Mo_literal_102 hl (by decide) rfl (fun ls hl => ?_)
        refine lv_iinc (v := v7 + (1 : Int32)) (lv' := [(7, .int (v7 + (1 : Int32))), (6, .int (v6 + ((0 : Int32)))), (0, .ref a0), (1, .int x1), (2, .int v2), (3, .int v3), (4, .int v4)]) hx hb kb_Mo_literal_104 hl (k := 6) rfl rfl (by decide) rfl (fun ls hl => ?_)
        refine lv_goto (tgt := 74) hx hb kb_Mo_literal_107 (by decide) ?_
        exact hw _ _ _ hG hS (lv_sub hl [2, 3, 4, 5, 6, 1, 0] rfl)
      · have hw := hw.2 hc
        refine lv_iconst (v := (1 : Int32)) hx hb kb_Mo_literal_96 (by decide) ?_
        refine lv_goto (tgt := 101) hx hb kb_Mo_literal_97 (by decide) ?_
        refine lv_iadd hx hb kb_Mo_literal_101 ?_
        refine lv_istore (lv' := [(6, .int (v6 + ((1 : Int32)))), (0, .ref a0), (1, .int x1), (2, .int v2), (3, .int v3), (4, .int v4), (7, .int v7)]) hx hb kb_Mo_literal_102 hl (by decide) rfl (fun ls hl => ?_)
        refine lv_iinc (v := v7 + (1 : Int32)) (lv' := [(7, .int (v7 + (1 : Int32))), (6, .int (v6 + ((1 : Int32)))), (0, .ref a0), (1, .int x1), (2, .int v2), (3, .int v3), (4, .int v4)]) hx hb kb_Mo_literal_104 hl (k := 6) rfl rfl (by decide) rfl (fun ls hl => ?_)
        refine lv_goto (tgt := 74) hx hb kb_Mo_literal_107 (by decide) ?_
        exact hw _ _ _ hG hS (lv_sub hl [2, 3, 4, 5, 6, 1, 0] rfl))
  have hw := hw (by
    intro σ hw H locs ls hG hS hl
    refine lv_aload_n hx hb kb_Mo_literal_129 rfl (lv_at hl 0 rfl) ?_
    refine lv_iconst (v := (3 : Int32)) hx hb kb_Mo_literal_130 (by decide) ?_
    obtain ⟨hy, hw⟩ := hw
    refine zr_cv (va_runV (C := kR_Mo) (As := [.int ((3 : Int32))]) (rest := []) ⟨hx, hb, hml, hown, hts⟩ (kc_Mo_wrong l D dA Z a0 ((3 : Int32)) σ _) ⟨callB_of 1 hts (z_gw kw_712) rfl rfl rfl (hts _ (List.mem_cons_of_mem _ kw_9)) (hts _ (List.mem_cons_of_mem _ kw_710)) (by decide +kernel) ⟨Nat.le_of_ble_eq_true rfl, Nat.le_of_ble_eq_true rfl⟩, (hts _ (List.mem_cons_of_mem _ kw_711)), (hts _ (List.mem_cons_of_mem _ kw_955))⟩ (z_preV z_nwN (Nat.le_trans hZ hS.1) hG hK hN hy (ci := 8) (r := (kR_Mo, kT_Mo, 51)) rfl hw) rfl rfl hl.1 rfl (lv_room (Nat.le_of_ble_eq_true rfl)) kb_Mo_literal_131 ⟨Nat.le_of_ble_eq_true rfl, Nat.le_of_ble_eq_true rfl⟩) hS (fun σ131 H locs hw hG hS => ?_)
    exact zr_vret z_nwN hx hb hr hZ hK hN hG hS hw kb_Mo_literal_134 hlocks)
  have hw := hw (by
    intro v3 v4 σ hw H locs ls hG hS hl
    refine lv_iload hx hb kb_Mo_literal_135 (lv_at hl 3 rfl) ?_
    refine zr_ci (va_runS (As := [.int v4]) (rest := []) ⟨hx, hb, hml, hown, hts⟩ (kc_Mo_isName l D dA Z v4 σ _) ⟨callB_of 1 hts (z_gw kw_709) rfl rfl rfl (hts _ (List.mem_cons_of_mem _ kw_9)) (hts _ (List.mem_cons_of_mem _ kw_707)) (by decide +kernel) ⟨Nat.le_of_ble_eq_true rfl, Nat.le_of_ble_eq_true rfl⟩, (hts _ (List.mem_cons_of_mem _ kw_708))⟩ (z_preS z_nwN (Nat.le_trans hZ hS.1) hG hK hN hw) rfl rfl hl.1 rfl (lv_room (Nat.le_of_ble_eq_true rfl)) kb_Mo_literal_137 ⟨Nat.le_of_ble_eq_true rfl, Nat.le_of_ble_eq_true rfl⟩) hS (fun r137 σ137 H locs hw hG hS => ?_)
    refine lv_if_ne (tgt := 150) hx hb kb_Mo_literal_140 (by decide) (fun hc => ?_) (fun hc => ?_)
    · have hw := hw.1 hc
      exact hw _ _ _ hG hS (lv_sub hl [0, 1, 2, 3] rfl)
    · have hw := hw.2 hc
      refine lv_iload hx hb kb_Mo_literal_143 (lv_at hl 3 rfl) ?_
      refine lv_bipush (v := (126 : Int32)) hx hb kb_Mo_literal_145 (by decide) ?_
      refine lv_icmp_ne (tgt := 228) hx hb kb_Mo_literal_147 (by decide) (fun hc => ?_) (fun hc => ?_)
      · have hw := hw.1 hc
        refine lv_aload_n hx hb kb_Mo_literal_228 rfl (lv_at hl 0 rfl) ?_
        obtain ⟨hy, r229, hrf, hw⟩ := hw
        refine zr_getR (ci := 8) (f := 812) hx hb hts ki_Mo hown hK hG hy rfl 12 (by decide) (hts _ (List.mem_cons_of_mem _ kw_596)) (fun _ h => h) rfl rfl hrf kb_Mo_literal_229 ?_
        refine lv_iload_n hx hb kb_Mo_literal_232 rfl (lv_at hl 2 rfl) ?_
        refine lv_iconst (v := (2 : Int32)) hx hb kb_Mo_literal_233 (by decide) ?_
        obtain ⟨n234, s234, hy, hi, hw⟩ := hw
        refine zr_iast hx hb hK hG hS 0 hy rfl hi kb_Mo_literal_234 (fun H locs hG hS => ?_)
        obtain ⟨σ234, e234⟩ : ∃ z, z = z_sA σ137 s234 r229 (upd (z_A σ137 s234 r229) v3.toNatClampNeg ((2 : Int32))) := ⟨_, rfl⟩
        rw [← e234] at hG
        have hw := hw _ e234
        refine lv_aload_n hx hb kb_Mo_literal_235 rfl (lv_at hl 0 rfl) ?_
        obtain ⟨hy, r236, hrf, hw⟩ := hw
        refine zr_getR (ci := 8) (f := 814) hx hb hts ki_Mo hown hK hG hy rfl 14 (by decide) (hts _ (List.mem_cons_of_mem _ kw_598)) (fun _ h => h) rfl rfl hrf kb_Mo_literal_236 ?_
        refine lv_iconst (v := (3 : Int32)) hx hb kb_Mo_literal_239 (by decide) ?_
        refine lv_iload_n hx hb kb_Mo_literal_240 rfl (lv_at hl 2 rfl) ?_
        refine lv_imul hx hb kb_Mo_literal_241 ?_
        refine lv_aload_n hx hb kb_Mo_literal_242 rfl (lv_at hl 0 rfl) ?_
        refine lv_iload_n hx hb kb_Mo_literal_243 rfl (lv_at hl 1 rfl) ?_
        obtain ⟨hy, hw⟩ := hw
        refine zr_ci (va_runV (C := kR_Mo) (As := [.int x1]) (rest := [.int (((3 : Int32)) * v3), .ref r236]) ⟨hx, hb, hml, hown, hts⟩ (kc_Mo_term l D dA Z a0 x1 σ234 _) ⟨callB_of 1 hts (z_gw kw_724) rfl rfl rfl (hts _ (List.mem_cons_of_mem _ kw_9)) (hts _ (List.mem_cons_of_mem _ kw_722)) (by decide +kernel) ⟨Nat.le_of_ble_eq_true rfl, Nat.le_of_ble_eq_true rfl⟩, (hts _ (List.mem_cons_of_mem _ kw_723)), (hts _ (List.mem_cons_of_mem _ kw_959))⟩ (z_preV z_nwN (Nat.le_trans hZ hS.1) hG hK hN hy (ci := 8) (r := (kR_Mo, kT_Mo, 51)) rfl hw) rfl rfl hl.1 rfl (lv_room (Nat.le_of_ble_eq_true rfl)) kb_Mo_literal_244 ⟨Nat.le_of_ble_eq_true rfl, Nat.le_of_ble_eq_true rfl⟩) hS (fun r244 σ244 H locs hw hG hS => ?_)
        obtain ⟨n247, s247, hy, hi, hw⟩ := hw
        refine zr_iast hx hb hK hG hS 0 hy rfl hi kb_Mo_literal_247 (fun H locs hG hS => ?_)
        obtain ⟨σ247, e247⟩ : ∃ z, z = z_sA σ244 s247 r236 (upd (z_A σ244 s247 r236) (((3 : Int32)) * v3).toNatClampNeg r244) := ⟨_, rfl⟩
        rw [← e247] at hG
        have hw := hw _ e247
        refine lv_aload_n hx hb kb_Mo_literal_248 rfl (lv_at hl 0 rfl) ?_
        obtain ⟨hy, hw⟩ := hw
        refine zr_getI (ci := 8) (f := 806) hx hb hts ki_Mo hown hK hG hy rfl 6 (by decide) (hts _ (List.mem_cons_of_mem _ kw_590)) (fun _ h => h) rfl rfl kb_Mo_literal_249 ?_
        refine lv_if_ne (tgt := 287) hx hb kb_Mo_literal_252 (by decide) (fun hc => ?_) (fun hc => ?_)
        · have hw := hw.1 hc
          exact hw _ _ _ hG hS (lv_sub hl [0, 1, 2] rfl)
        · have hw := hw.2 hc
          refine lv_aload_n hx hb kb_Mo_literal_255 rfl (lv_at hl 0 rfl) ?_
          obtain ⟨hy, hw⟩ := hw
          refine zr_ci (va_runV (C := kR_Mo) (As := []) (rest := []) ⟨hx, hb, hml, hown, hts⟩ (kc_Mo_sign l D dA Z a0 σ247 _) ⟨callB_of 0 hts (z_gw kw_706) rfl rfl rfl (hts _ (List.mem_cons_of_mem _ kw_9)) (hts _ (List.mem_cons_of_mem _ kw_704)) (by decide +kernel) ⟨Nat.le_of_ble_eq_true rfl, Nat.le_of_ble_eq_true rfl⟩, (hts _ (List.mem_cons_of_mem _ kw_705)), (hts _ (List.mem_cons_of_mem _ kw_954))⟩ (z_preV z_nwN (Nat.le_trans hZ hS.1) hG hK hN hy (ci := 8) (r := (kR_Mo, kT_Mo, 51)) rfl hw) rfl rfl hl.1 rfl (lv_room (Nat.le_of_ble_eq_true rfl)) kb_Mo_literal_256 ⟨Nat.le_of_ble_eq_true rfl, Nat.le_of_ble_eq_true rfl⟩) hS (fun r256 σ256 H locs hw hG hS => ?_)
          refine lv_bipush (v := (60 : Int32)) hx hb kb_Mo_literal_259 (by decide) ?_
          refine lv_icmp_eq (tgt := 287) hx hb kb_Mo_literal_261 (by decide) (fun hc => ?_) (fun hc => ?_)
          · have hw := hw.1 hc
            exact hw _ _ _ hG hS (lv_sub hl [0, 1, 2] rfl)
          · have hw := hw.2 hc
            refine lv_aload_n hx hb kb_Mo_literal_264 rfl (lv_at hl 0 rfl) ?_
            obtain ⟨hy, hw⟩ := hw
            refine zr_ci (va_runV (C := kR_Mo) (As := []) (rest := []) ⟨hx, hb, hml, hown, hts⟩ (kc_Mo_sign l D dA Z a0 σ256 _) ⟨callB_of 0 hts (z_gw kw_706) rfl rfl rfl (hts _ (List.mem_cons_of_mem _ kw_9)) (hts _ (List.mem_cons_of_mem _ kw_704)) (by decide +kernel) ⟨Nat.le_of_ble_eq_true rfl, Nat.le_of_ble_eq_true rfl⟩, (hts _ (List.mem_cons_of_mem _ kw_705)), (hts _ (List.mem_cons_of_mem _ kw_954))⟩ (z_preV z_nwN (Nat.le_trans hZ hS.1) hG hK hN hy (ci := 8) (r := (kR_Mo, kT_Mo, 51)) rfl hw) rfl rfl hl.1 rfl (lv_room (Nat.le_of_ble_eq_true rfl)) kb_Mo_literal_265 ⟨Nat.le_of_ble_eq_true rfl, Nat.le_of_ble_eq_true rfl⟩) hS (fun r265 σ265 H locs hw hG hS => ?_)
            refine lv_bipush (v := (61 : Int32)) hx hb kb_Mo_literal_268 (by decide) ?_
            refine lv_icmp_eq (tgt := 287) hx hb kb_Mo_literal_270 (by decide) (fun hc => ?_) (fun hc => ?_)
            · have hw := hw.1 hc
              exact hw _ _ _ hG hS (lv_sub hl [0, 1, 2] rfl)
            · have hw := hw.2 hc
              refine lv_aload_n hx hb kb_Mo_literal_273 rfl (lv_at hl 0 rfl) ?_
              obtain ⟨hy, hw⟩ := hw
              refine zr_ci (va_runV (C := kR_Mo) (As := []) (rest := []) ⟨hx, hb, hml, hown, hts⟩ (kc_Mo_sign l D dA Z a0 σ265 _) ⟨callB_of 0 hts (z_gw kw_706) rfl rfl rfl (hts _ (List.mem_cons_of_mem _ kw_9)) (hts _ (List.mem_cons_of_mem _ kw_704)) (by decide +kernel) ⟨Nat.le_of_ble_eq_true rfl, Nat.le_of_ble_eq_true rfl⟩, (hts _ (List.mem_cons_of_mem _ kw_705)), (hts _ (List.mem_cons_of_mem _ kw_954))⟩ (z_preV z_nwN (Nat.le_trans hZ hS.1) hG hK hN hy (ci := 8) (r := (kR_Mo, kT_Mo, 51)) rfl hw) rfl rfl hl.1 rfl (lv_room (Nat.le_of_ble_eq_true rfl)) kb_Mo_literal_274 ⟨Nat.le_of_ble_eq_true rfl, Nat.le_of_ble_eq_true rfl⟩) hS (fun r274 σ274 H locs hw hG hS => ?_)
              refine lv_bipush (v := (33 : Int32)) hx hb kb_Mo_literal_277 (by decide) ?_
              refine lv_icmp_eq (tgt := 287) hx hb kb_Mo_literal_279 (by decide) (fun hc => ?_) (fun hc => ?_)
              · have hw := hw.1 hc
                exact hw _ _ _ hG hS (lv_sub hl [0, 1, 2] rfl)
              · have hw := hw.2 hc
                refine lv_aload_n hx hb kb_Mo_literal_282 rfl (lv_at hl 0 rfl) ?_
                refine lv_iconst (v := (1 : Int32)) hx hb kb_Mo_literal_283 (by decide) ?_
                obtain ⟨hy, hw⟩ := hw
                refine zr_cv (va_runV (C := kR_Mo) (As := [.int ((1 : Int32))]) (rest := []) ⟨hx, hb, hml, hown, hts⟩ (kc_Mo_wrong l D dA Z a0 ((1 : Int32)) σ274 _) ⟨callB_of 1 hts (z_gw kw_712) rfl rfl rfl (hts _ (List.mem_cons_of_mem _ kw_9)) (hts _ (List.mem_cons_of_mem _ kw_710)) (by decide +kernel) ⟨Nat.le_of_ble_eq_true rfl, Nat.le_of_ble_eq_true rfl⟩, (hts _ (List.mem_cons_of_mem _ kw_711)), (hts _ (List.mem_cons_of_mem _ kw_955))⟩ (z_preV z_nwN (Nat.le_trans hZ hS.1) hG hK hN hy (ci := 8) (r := (kR_Mo, kT_Mo, 51)) rfl hw) rfl rfl hl.1 rfl (lv_room (Nat.le_of_ble_eq_true rfl)) kb_Mo_literal_284 ⟨Nat.le_of_ble_eq_true rfl, Nat.le_of_ble_eq_true rfl⟩) hS (fun σ284 H locs hw hG hS => ?_)
                exact hw _ _ _ hG hS (lv_sub hl [0, 1, 2] rfl)
      · have hw := hw.2 hc
        exact hw _ _ _ hG hS (lv_sub hl [0, 1, 2, 3] rfl))
  have hw := hw (by
    intro v3 v4 σ hw H locs ls hG hS hl
    refine lv_aload_n hx hb kb_Mo_literal_150 rfl (lv_at hl 0 rfl) ?_
    obtain ⟨hy, r151, hrf, hw⟩ := hw
    refine zr_getR (ci := 8) (f := 812) hx hb hts ki_Mo hown hK hG hy rfl 12 (by decide) (hts _ (List.mem_cons_of_mem _ kw_596)) (fun _ h => h) rfl rfl hrf kb_Mo_literal_151 ?_
    refine lv_iload_n hx hb kb_Mo_literal_154 rfl (lv_at hl 2 rfl) ?_
    refine lv_iload hx hb kb_Mo_literal_155 (lv_at hl 3 rfl) ?_
    refine lv_bipush (v := (126 : Int32)) hx hb kb_Mo_literal_157 (by decide) ?_
    refine lv_icmp_ne (tgt := 166) hx hb kb_Mo_literal_159 (by decide) (fun hc => ?_) (fun hc => ?_)
    · have hw := hw.1 hc
      refine lv_iconst (v := (0 : Int32)) hx hb kb_Mo_literal_166 (by decide) ?_
      exact hw _ _ _ hG hS (lv_sub hl [0, 1, 2, 3] rfl)
    · have hw := hw.2 hc
      refine lv_iconst (v := (1 : Int32)) hx hb kb_Mo_literal_162 (by decide) ?_
      refine lv_goto (tgt := 167) hx hb kb_Mo_literal_163 (by decide) ?_
      exact hw _ _ _ hG hS (lv_sub hl [0, 1, 2, 3] rfl))
  have hw := hw (by
    intro v3 v4 t0 t1 t2 σ hw H locs ls hG hS hl
    obtain ⟨n167, s167, hy, hi, hw⟩ := hw
    refine zr_iast hx hb hK hG hS 0 hy rfl hi kb_Mo_literal_167 (fun H locs hG hS => ?_)
    obtain ⟨σ167, e167⟩ : ∃ z, z = z_sA σ s167 t0 (upd (z_A σ s167 t0) t1.toNatClampNeg t2) := ⟨_, rfl⟩
    rw [← e167] at hG
    have hw := hw _ e167
    refine lv_aload_n hx hb kb_Mo_literal_168 rfl (lv_at hl 0 rfl) ?_
    refine lv_dup hx hb kb_Mo_literal_169 rfl ?_
    obtain ⟨hy, hw⟩ := hw
    refine zr_getI (ci := 8) (f := 805) hx hb hts ki_Mo hown hK hG hy rfl 5 (by decide) (hts _ (List.mem_cons_of_mem _ kw_589)) (fun _ h => h) rfl rfl kb_Mo_literal_170 ?_
    refine lv_iload hx hb kb_Mo_literal_173 (lv_at hl 3 rfl) ?_
    refine lv_bipush (v := (126 : Int32)) hx hb kb_Mo_literal_175 (by decide) ?_
    refine lv_icmp_ne (tgt := 184) hx hb kb_Mo_literal_177 (by decide) (fun hc => ?_) (fun hc => ?_)
    · have hw := hw.1 hc
      refine lv_iconst (v := (0 : Int32)) hx hb kb_Mo_literal_184 (by decide) ?_
      exact hw _ _ _ hG hS (lv_sub hl [0, 1, 2] rfl)
    · have hw := hw.2 hc
      refine lv_iconst (v := (1 : Int32)) hx hb kb_Mo_literal_180 (by decide) ?_
      refine lv_goto (tgt := 185) hx hb kb_Mo_literal_181 (by decide) ?_
      exact hw _ _ _ hG hS (lv_sub hl [0, 1, 2] rfl))
  have hw := hw (by
    intro v3 t0 t1 t2 σ hw H locs ls hG hS hl
    refine lv_iadd hx hb kb_Mo_literal_185 ?_
    obtain ⟨hy, hw⟩ := hw
    refine zr_putI (ci := 8) (f := 805) hx hb hts ki_Mo ky_Mo kyo_Mo kn_Mo hown hK hG hS hy rfl 5 (by decide) (hts _ (List.mem_cons_of_mem _ kw_589)) (fun _ h => h) rfl rfl rfl rfl rfl kb_Mo_literal_186 (fun H locs hG hS => ?_)
    obtain ⟨σ186, e186⟩ : ∃ z, z = z_sI σ 805 t0 (t1 + t2) := ⟨_, rfl⟩
    rw [← e186] at hG
    have hw := hw _ e186
    refine lv_aload_n hx hb kb_Mo_literal_189 rfl (lv_at hl 0 rfl) ?_
    obtain ⟨hy, r190, hrf, hw⟩ := hw
    refine zr_getR (ci := 8) (f := 813) hx hb hts ki_Mo hown hK hG hy rfl 13 (by decide) (hts _ (List.mem_cons_of_mem _ kw_597)) (fun _ h => h) rfl rfl hrf kb_Mo_literal_190 ?_
    refine lv_iload_n hx hb kb_Mo_literal_193 rfl (lv_at hl 2 rfl) ?_
    refine lv_aload_n hx hb kb_Mo_literal_194 rfl (lv_at hl 0 rfl) ?_
    obtain ⟨hy, hw⟩ := hw
    refine zr_ci (va_runV (C := kR_Mo) (As := []) (rest := [.int v3, .ref r190]) ⟨hx, hb, hml, hown, hts⟩ (kc_Mo_relationAt l D dA Z a0 σ186 _) ⟨callB_of 0 hts (z_gw kw_715) rfl rfl rfl (hts _ (List.mem_cons_of_mem _ kw_9)) (hts _ (List.mem_cons_of_mem _ kw_713)) (by decide +kernel) ⟨Nat.le_of_ble_eq_true rfl, Nat.le_of_ble_eq_true rfl⟩, (hts _ (List.mem_cons_of_mem _ kw_714)), (hts _ (List.mem_cons_of_mem _ kw_956))⟩ (z_preV z_nwN (Nat.le_trans hZ hS.1) hG hK hN hy (ci := 8) (r := (kR_Mo, kT_Mo, 51)) rfl hw) rfl rfl hl.1 rfl (lv_room (Nat.le_of_ble_eq_true rfl)) kb_Mo_literal_195 ⟨Nat.le_of_ble_eq_true rfl, Nat.le_of_ble_eq_true rfl⟩) hS (fun r195 σ195 H locs hw hG hS => ?_)
    obtain ⟨n198, s198, hy, hi, hw⟩ := hw
    refine zr_iast hx hb hK hG hS 0 hy rfl hi kb_Mo_literal_198 (fun H locs hG hS => ?_)
    obtain ⟨σ198, e198⟩ : ∃ z, z = z_sA σ195 s198 r190 (upd (z_A σ195 s198 r190) v3.toNatClampNeg r195) := ⟨_, rfl⟩
    rw [← e198] at hG
    have hw := hw _ e198
    refine lv_aload_n hx hb kb_Mo_literal_199 rfl (lv_at hl 0 rfl) ?_
    obtain ⟨hy, hw⟩ := hw
    refine zr_getI (ci := 8) (f := 806) hx hb hts ki_Mo hown hK hG hy rfl 6 (by decide) (hts _ (List.mem_cons_of_mem _ kw_590)) (fun _ h => h) rfl rfl kb_Mo_literal_200 ?_
    refine lv_if_ne (tgt := 352) hx hb kb_Mo_literal_203 (by decide) (fun hc => ?_) (fun hc => ?_)
    · have hw := hw.1 hc
      exact hw _ _ _ hG hS (lv_sub hl [0, 1] rfl)
    · have hw := hw.2 hc
      refine lv_aload_n hx hb kb_Mo_literal_206 rfl (lv_at hl 0 rfl) ?_
      refine lv_iload_n hx hb kb_Mo_literal_207 rfl (lv_at hl 1 rfl) ?_
      refine lv_aload_n hx hb kb_Mo_literal_208 rfl (lv_at hl 0 rfl) ?_
      obtain ⟨hy, r209, hrf, hw⟩ := hw
      refine zr_getR (ci := 8) (f := 813) hx hb hts ki_Mo hown hK hG hy rfl 13 (by decide) (hts _ (List.mem_cons_of_mem _ kw_597)) (fun _ h => h) rfl rfl hrf kb_Mo_literal_209 ?_
      refine lv_iload_n hx hb kb_Mo_literal_212 rfl (lv_at hl 2 rfl) ?_
      obtain ⟨n213, s213, hy, hi, hw⟩ := hw
      refine zr_iald hx hb hK hG 0 hy rfl hi kb_Mo_literal_213 ?_
      refine lv_aload_n hx hb kb_Mo_literal_214 rfl (lv_at hl 0 rfl) ?_
      obtain ⟨hy, r215, hrf, hw⟩ := hw
      refine zr_getR (ci := 8) (f := 814) hx hb hts ki_Mo hown hK hG hy rfl 14 (by decide) (hts _ (List.mem_cons_of_mem _ kw_598)) (fun _ h => h) rfl rfl hrf kb_Mo_literal_215 ?_
      refine lv_iconst (v := (3 : Int32)) hx hb kb_Mo_literal_218 (by decide) ?_
      refine lv_iload_n hx hb kb_Mo_literal_219 rfl (lv_at hl 2 rfl) ?_
      refine lv_imul hx hb kb_Mo_literal_220 ?_
      refine lv_iconst (v := (0 : Int32)) hx hb kb_Mo_literal_221 (by decide) ?_
      obtain ⟨hy, hw⟩ := hw
      refine zr_cv (va_runV (C := kR_Mo) (As := [.int x1, .int (z_A σ198 s213 r209 v3.toNatClampNeg), .ref r215, .int (((3 : Int32)) * v3), .int ((0 : Int32))]) (rest := []) ⟨hx, hb, hml, hown, hts⟩ (kc_Mo_terms l D dA Z a0 x1 (z_A σ198 s213 r209 v3.toNatClampNeg) r215 (((3 : Int32)) * v3) ((0 : Int32)) σ198 _) ⟨callB_of 5 hts (z_gw kw_718) rfl rfl rfl (hts _ (List.mem_cons_of_mem _ kw_9)) (hts _ (List.mem_cons_of_mem _ kw_716)) (by decide +kernel) ⟨Nat.le_of_ble_eq_true rfl, Nat.le_of_ble_eq_true rfl⟩, (hts _ (List.mem_cons_of_mem _ kw_717)), (hts _ (List.mem_cons_of_mem _ kw_957))⟩ (z_preV z_nwN (Nat.le_trans hZ hS.1) hG hK hN hy (ci := 8) (r := (kR_Mo, kT_Mo, 51)) rfl hw) rfl rfl hl.1 rfl (lv_room (Nat.le_of_ble_eq_true rfl)) kb_Mo_literal_222 ⟨Nat.le_of_ble_eq_true rfl, Nat.le_of_ble_eq_true rfl⟩) hS (fun σ222 H locs hw hG hS => ?_)
      refine lv_goto (tgt := 352) hx hb kb_Mo_literal_225 (by decide) ?_
      exact hw _ _ _ hG hS (lv_sub hl [0, 1] rfl))
  have hw := hw (by
    intro v3 σ hw H locs ls hG hS hl
    refine lv_aload_n hx hb kb_Mo_literal_287 rfl (lv_at hl 0 rfl) ?_
    obtain ⟨hy, r288, hrf, hw⟩ := hw
    refine zr_getR (ci := 8) (f := 813) hx hb hts ki_Mo hown hK hG hy rfl 13 (by decide) (hts _ (List.mem_cons_of_mem _ kw_597)) (fun _ h => h) rfl rfl hrf kb_Mo_literal_288 ?_
    refine lv_iload_n hx hb kb_Mo_literal_291 rfl (lv_at hl 2 rfl) ?_
    refine lv_aload_n hx hb kb_Mo_literal_292 rfl (lv_at hl 0 rfl) ?_
    obtain ⟨hy, hw⟩ := hw
    refine zr_ci (va_runV (C := kR_Mo) (As := []) (rest := [.int v3, .ref r288]) ⟨hx, hb, hml, hown, hts⟩ (kc_Mo_sign l D dA Z a0 σ _) ⟨callB_of 0 hts (z_gw kw_706) rfl rfl rfl (hts _ (List.mem_cons_of_mem _ kw_9)) (hts _ (List.mem_cons_of_mem _ kw_704)) (by decide +kernel) ⟨Nat.le_of_ble_eq_true rfl, Nat.le_of_ble_eq_true rfl⟩, (hts _ (List.mem_cons_of_mem _ kw_705)), (hts _ (List.mem_cons_of_mem _ kw_954))⟩ (z_preV z_nwN (Nat.le_trans hZ hS.1) hG hK hN hy (ci := 8) (r := (kR_Mo, kT_Mo, 51)) rfl hw) rfl rfl hl.1 rfl (lv_room (Nat.le_of_ble_eq_true rfl)) kb_Mo_literal_293 ⟨Nat.le_of_ble_eq_true rfl, Nat.le_of_ble_eq_true rfl⟩) hS (fun r293 σ293 H locs hw hG hS => ?_)
    obtain ⟨n296, s296, hy, hi, hw⟩ := hw
    refine zr_iast hx hb hK hG hS 0 hy rfl hi kb_Mo_literal_296 (fun H locs hG hS => ?_)
    obtain ⟨σ296, e296⟩ : ∃ z, z = z_sA σ293 s296 r288 (upd (z_A σ293 s296 r288) v3.toNatClampNeg r293) := ⟨_, rfl⟩
    rw [← e296] at hG
    have hw := hw _ e296
    refine lv_aload_n hx hb kb_Mo_literal_297 rfl (lv_at hl 0 rfl) ?_
    refine lv_dup hx hb kb_Mo_literal_298 rfl ?_
    obtain ⟨hy, hw⟩ := hw
    refine zr_getI (ci := 8) (f := 805) hx hb hts ki_Mo hown hK hG hy rfl 5 (by decide) (hts _ (List.mem_cons_of_mem _ kw_589)) (fun _ h => h) rfl rfl kb_Mo_literal_299 ?_
    refine lv_aload_n hx hb kb_Mo_literal_302 rfl (lv_at hl 0 rfl) ?_
    obtain ⟨hy, hw⟩ := hw
    refine zr_getI (ci := 8) (f := 806) hx hb hts ki_Mo hown hK hG hy rfl 6 (by decide) (hts _ (List.mem_cons_of_mem _ kw_590)) (fun _ h => h) rfl rfl kb_Mo_literal_303 ?_
    refine lv_if_ne (tgt := 313) hx hb kb_Mo_literal_306 (by decide) (fun hc => ?_) (fun hc => ?_)
    · have hw := hw.1 hc
      refine lv_iconst (v := (0 : Int32)) hx hb kb_Mo_literal_313 (by decide) ?_
      exact hw _ _ _ hG hS (lv_sub hl [0, 1, 2] rfl)
    · have hw := hw.2 hc
      refine lv_iconst (v := (1 : Int32)) hx hb kb_Mo_literal_309 (by decide) ?_
      refine lv_goto (tgt := 314) hx hb kb_Mo_literal_310 (by decide) ?_
      exact hw _ _ _ hG hS (lv_sub hl [0, 1, 2] rfl))
  have hw := hw (by
    intro v3 t0 t1 t2 σ hw H locs ls hG hS hl
    refine lv_iadd hx hb kb_Mo_literal_314 ?_
    obtain ⟨hy, hw⟩ := hw
    refine zr_putI (ci := 8) (f := 805) hx hb hts ki_Mo ky_Mo kyo_Mo kn_Mo hown hK hG hS hy rfl 5 (by decide) (hts _ (List.mem_cons_of_mem _ kw_589)) (fun _ h => h) rfl rfl rfl rfl rfl kb_Mo_literal_315 (fun H locs hG hS => ?_)
    obtain ⟨σ315, e315⟩ : ∃ z, z = z_sI σ 805 t0 (t1 + t2) := ⟨_, rfl⟩
    rw [← e315] at hG
    have hw := hw _ e315
    refine lv_aload_n hx hb kb_Mo_literal_318 rfl (lv_at hl 0 rfl) ?_
    obtain ⟨hy, hw⟩ := hw
    refine zr_getI (ci := 8) (f := 806) hx hb hts ki_Mo hown hK hG hy rfl 6 (by decide) (hts _ (List.mem_cons_of_mem _ kw_590)) (fun _ h => h) rfl rfl kb_Mo_literal_319 ?_
    refine lv_if_ne (tgt := 340) hx hb kb_Mo_literal_322 (by decide) (fun hc => ?_) (fun hc => ?_)
    · have hw := hw.1 hc
      exact hw _ _ _ hG hS (lv_sub hl [0, 1, 2] rfl)
    · have hw := hw.2 hc
      refine lv_aload_n hx hb kb_Mo_literal_325 rfl (lv_at hl 0 rfl) ?_
      obtain ⟨hy, r326, hrf, hw⟩ := hw
      refine zr_getR (ci := 8) (f := 814) hx hb hts ki_Mo hown hK hG hy rfl 14 (by decide) (hts _ (List.mem_cons_of_mem _ kw_598)) (fun _ h => h) rfl rfl hrf kb_Mo_literal_326 ?_
      refine lv_iconst (v := (3 : Int32)) hx hb kb_Mo_literal_329 (by decide) ?_
      refine lv_iload_n hx hb kb_Mo_literal_330 rfl (lv_at hl 2 rfl) ?_
      refine lv_imul hx hb kb_Mo_literal_331 ?_
      refine lv_iconst (v := (1 : Int32)) hx hb kb_Mo_literal_332 (by decide) ?_
      refine lv_iadd hx hb kb_Mo_literal_333 ?_
      refine lv_aload_n hx hb kb_Mo_literal_334 rfl (lv_at hl 0 rfl) ?_
      refine lv_iload_n hx hb kb_Mo_literal_335 rfl (lv_at hl 1 rfl) ?_
      obtain ⟨hy, hw⟩ := hw
      refine zr_ci (va_runV (C := kR_Mo) (As := [.int x1]) (rest := [.int ((((3 : Int32)) * v3) + ((1 : Int32))), .ref r326]) ⟨hx, hb, hml, hown, hts⟩ (kc_Mo_term l D dA Z a0 x1 σ315 _) ⟨callB_of 1 hts (z_gw kw_724) rfl rfl rfl (hts _ (List.mem_cons_of_mem _ kw_9)) (hts _ (List.mem_cons_of_mem _ kw_722)) (by decide +kernel) ⟨Nat.le_of_ble_eq_true rfl, Nat.le_of_ble_eq_true rfl⟩, (hts _ (List.mem_cons_of_mem _ kw_723)), (hts _ (List.mem_cons_of_mem _ kw_959))⟩ (z_preV z_nwN (Nat.le_trans hZ hS.1) hG hK hN hy (ci := 8) (r := (kR_Mo, kT_Mo, 51)) rfl hw) rfl rfl hl.1 rfl (lv_room (Nat.le_of_ble_eq_true rfl)) kb_Mo_literal_336 ⟨Nat.le_of_ble_eq_true rfl, Nat.le_of_ble_eq_true rfl⟩) hS (fun r336 σ336 H locs hw hG hS => ?_)
      obtain ⟨n339, s339, hy, hi, hw⟩ := hw
      refine zr_iast hx hb hK hG hS 0 hy rfl hi kb_Mo_literal_339 (fun H locs hG hS => ?_)
      obtain ⟨σ339, e339⟩ : ∃ z, z = z_sA σ336 s339 r326 (upd (z_A σ336 s339 r326) ((((3 : Int32)) * v3) + ((1 : Int32))).toNatClampNeg r336) := ⟨_, rfl⟩
      rw [← e339] at hG
      have hw := hw _ e339
      exact hw _ _ _ hG hS (lv_sub hl [0, 1, 2] rfl))
  have hw := hw (by
    intro v3 σ hw H locs ls hG hS hl
    refine lv_aload_n hx hb kb_Mo_literal_340 rfl (lv_at hl 0 rfl) ?_
    obtain ⟨hy, r341, hrf, hw⟩ := hw
    refine zr_getR (ci := 8) (f := 814) hx hb hts ki_Mo hown hK hG hy rfl 14 (by decide) (hts _ (List.mem_cons_of_mem _ kw_598)) (fun _ h => h) rfl rfl hrf kb_Mo_literal_341 ?_
    refine lv_iconst (v := (3 : Int32)) hx hb kb_Mo_literal_344 (by decide) ?_
    refine lv_iload_n hx hb kb_Mo_literal_345 rfl (lv_at hl 2 rfl) ?_
    refine lv_imul hx hb kb_Mo_literal_346 ?_
    refine lv_iconst (v := (2 : Int32)) hx hb kb_Mo_literal_347 (by decide) ?_
    refine lv_iadd hx hb kb_Mo_literal_348 ?_
    refine lv_bipush (v := (100 : Int32)) hx hb kb_Mo_literal_349 (by decide) ?_
    obtain ⟨n351, s351, hy, hi, hw⟩ := hw
    refine zr_iast hx hb hK hG hS 0 hy rfl hi kb_Mo_literal_351 (fun H locs hG hS => ?_)
    obtain ⟨σ351, e351⟩ : ∃ z, z = z_sA σ s351 r341 (upd (z_A σ s351 r341) ((((3 : Int32)) * v3) + ((2 : Int32))).toNatClampNeg ((100 : Int32))) := ⟨_, rfl⟩
    rw [← e351] at hG
    have hw := hw _ e351
    exact hw _ _ _ hG hS (lv_sub hl [0, 1] rfl))
  have hw := hw (by
    intro σ hw H locs ls hG hS hl
    refine lv_aload_n hx hb kb_Mo_literal_352 rfl (lv_at hl 0 rfl) ?_
    obtain ⟨hy, r353, hrf, hw⟩ := hw
    refine zr_getR (ci := 8) (f := 811) hx hb hts ki_Mo hown hK hG hy rfl 11 (by decide) (hts _ (List.mem_cons_of_mem _ kw_595)) (fun _ h => h) rfl rfl hrf kb_Mo_literal_353 ?_
    refine lv_iload_n hx hb kb_Mo_literal_356 rfl (lv_at hl 1 rfl) ?_
    refine lv_dup2_11 hx hb kb_Mo_literal_357 rfl rfl ?_
    obtain ⟨n358, s358, hy, hi, hw⟩ := hw
    refine zr_iald hx hb hK hG 0 hy rfl hi kb_Mo_literal_358 ?_
    refine lv_iconst (v := (1 : Int32)) hx hb kb_Mo_literal_359 (by decide) ?_
    refine lv_iadd hx hb kb_Mo_literal_360 ?_
    obtain ⟨n361, s361, hy, hi, hw⟩ := hw
    refine zr_iast hx hb hK hG hS 0 hy rfl hi kb_Mo_literal_361 (fun H locs hG hS => ?_)
    obtain ⟨σ361, e361⟩ : ∃ z, z = z_sA σ s361 r353 (upd (z_A σ s361 r353) x1.toNatClampNeg ((z_A σ s358 r353 x1.toNatClampNeg) + ((1 : Int32)))) := ⟨_, rfl⟩
    rw [← e361] at hG
    have hw := hw _ e361
    exact zr_vret z_nwN hx hb hr hZ hK hN hG hS hw kb_Mo_literal_362 hlocks)
  refine lv_aload_n hx hb kb_Mo_literal_0 rfl (lv_at hl 0 rfl) ?_
  obtain ⟨hy, r1, hrf, hw⟩ := hw
  refine zr_getR (ci := 8) (f := 811) hx hb hts ki_Mo hown hK hG hy rfl 11 (by decide) (hts _ (List.mem_cons_of_mem _ kw_595)) (fun _ h => h) rfl rfl hrf kb_Mo_literal_1 ?_
  refine lv_iload_n hx hb kb_Mo_literal_4 rfl (lv_at hl 1 rfl) ?_
  obtain ⟨n5, s5, hy, hi, hw⟩ := hw
  refine zr_iald hx hb hK hG 0 hy rfl hi kb_Mo_literal_5 ?_
  refine lv_istore_n (lv' := [(2, .int (z_A σ s5 r1 x1.toNatClampNeg)), (0, .ref a0), (1, .int x1)]) hx hb kb_Mo_literal_6 rfl hl (by decide) rfl (fun ls hl => ?_)
  refine lv_iconst (v := (5 : Int32)) hx hb kb_Mo_literal_7 (by decide) ?_
  refine lv_iload_n hx hb kb_Mo_literal_8 rfl (lv_at hl 2 rfl) ?_
  refine lv_imul hx hb kb_Mo_literal_9 ?_
  refine lv_iload_n hx hb kb_Mo_literal_10 rfl (lv_at hl 0 rfl) ?_
  refine lv_iadd hx hb kb_Mo_literal_11 ?_
  refine lv_istore_n (lv' := [(3, .int ((((5 : Int32)) * x1) + (z_A σ s5 r1 x1.toNatClampNeg))), (2, .int (z_A σ s5 r1 x1.toNatClampNeg)), (0, .ref a0), (1, .int x1)]) hx hb kb_Mo_literal_12 rfl hl (by decide) rfl (fun ls hl => ?_)
  refine lv_aload_n hx hb kb_Mo_literal_13 rfl (lv_at hl 2 rfl) ?_
  obtain ⟨hy, hw⟩ := hw
  refine zr_ci (va_runV (C := kR_Mo) (As := []) (rest := []) ⟨hx, hb, hml, hown, hts⟩ (kc_Mo_sign l D dA Z a0 σ _) ⟨callB_of 0 hts (z_gw kw_706) rfl rfl rfl (hts _ (List.mem_cons_of_mem _ kw_9)) (hts _ (List.mem_cons_of_mem _ kw_704)) (by decide +kernel) ⟨Nat.le_of_ble_eq_true rfl, Nat.le_of_ble_eq_true rfl⟩, (hts _ (List.mem_cons_of_mem _ kw_705)), (hts _ (List.mem_cons_of_mem _ kw_954))⟩ (z_preV z_nwN (Nat.le_trans hZ hS.1) hG hK hN hy (ci := 8) (r := (kR_Mo, kT_Mo, 51)) rfl hw) rfl rfl hl.1 rfl (lv_room (Nat.le_of_ble_eq_true rfl)) kb_Mo_literal_14 ⟨Nat.le_of_ble_eq_true rfl, Nat.le_of_ble_eq_true rfl⟩) hS (fun r14 σ14 H locs hw hG hS => ?_)
  refine lv_istore (lv' := [(4, .int r14), (3, .int ((((5 : Int32)) * x1) + (z_A σ s5 r1 x1.toNatClampNeg))), (2, .int (z_A σ s5 r1 x1.toNatClampNeg)), (0, .ref a0), (1, .int x1)]) hx hb kb_Mo_literal_17 hl (by decide) rfl (fun ls hl => ?_)
  refine lv_iload hx hb kb_Mo_literal_19 (lv_at hl 0 rfl) ?_
  refine zr_ci (va_runS (As := [.int r14]) (rest := []) ⟨hx, hb, hml, hown, hts⟩ (kc_Mo_isName l D dA Z r14 σ14 _) ⟨callB_of 1 hts (z_gw kw_709) rfl rfl rfl (hts _ (List.mem_cons_of_mem _ kw_9)) (hts _ (List.mem_cons_of_mem _ kw_707)) (by decide +kernel) ⟨Nat.le_of_ble_eq_true rfl, Nat.le_of_ble_eq_true rfl⟩, (hts _ (List.mem_cons_of_mem _ kw_708))⟩ (z_preS z_nwN (Nat.le_trans hZ hS.1) hG hK hN hw) rfl rfl hl.1 rfl (lv_room (Nat.le_of_ble_eq_true rfl)) kb_Mo_literal_21 ⟨Nat.le_of_ble_eq_true rfl, Nat.le_of_ble_eq_true rfl⟩) hS (fun r21 σ21 H locs hw hG hS => ?_)
  refine lv_if_ne (tgt := 50) hx hb kb_Mo_literal_24 (by decide) (fun hc => ?_) (fun hc => ?_)
  · have hw := hw.1 hc
    refine lv_iconst (v := (1 : Int32)) hx hb kb_Mo_literal_50 (by decide) ?_
    refine lv_goto (tgt := 55) hx hb kb_Mo_literal_51 (by decide) ?_
    exact hw _ _ _ hG hS (lv_sub hl [3, 4, 2, 1, 0] rfl)
  · have hw := hw.2 hc
    refine lv_iload hx hb kb_Mo_literal_27 (lv_at hl 0 rfl) ?_
    refine lv_bipush (v := (126 : Int32)) hx hb kb_Mo_literal_29 (by decide) ?_
    refine lv_icmp_eq (tgt := 50) hx hb kb_Mo_literal_31 (by decide) (fun hc => ?_) (fun hc => ?_)
    · have hw := hw.1 hc
      refine lv_iconst (v := (1 : Int32)) hx hb kb_Mo_literal_50 (by decide) ?_
      refine lv_goto (tgt := 55) hx hb kb_Mo_literal_51 (by decide) ?_
      exact hw _ _ _ hG hS (lv_sub hl [3, 4, 2, 1, 0] rfl)
    · have hw := hw.2 hc
      refine lv_iload hx hb kb_Mo_literal_34 (lv_at hl 0 rfl) ?_
      refine zr_ci (va_runS (As := [.int r14]) (rest := []) ⟨hx, hb, hml, hown, hts⟩ (kc_Mo_isVariable l D dA Z r14 σ21 _) ⟨callB_of 1 hts (z_gw kw_727) rfl rfl rfl (hts _ (List.mem_cons_of_mem _ kw_9)) (hts _ (List.mem_cons_of_mem _ kw_725)) (by decide +kernel) ⟨Nat.le_of_ble_eq_true rfl, Nat.le_of_ble_eq_true rfl⟩, (hts _ (List.mem_cons_of_mem _ kw_726))⟩ (z_preS z_nwN (Nat.le_trans hZ hS.1) hG hK hN hw) rfl rfl hl.1 rfl (lv_room (Nat.le_of_ble_eq_true rfl)) kb_Mo_literal_36 ⟨Nat.le_of_ble_eq_true rfl, Nat.le_of_ble_eq_true rfl⟩) hS (fun r36 σ36 H locs hw hG hS => ?_)
      refine lv_if_ne (tgt := 50) hx hb kb_Mo_literal_39 (by decide) (fun hc => ?_) (fun hc => ?_)
      · have hw := hw.1 hc
        refine lv_iconst (v := (1 : Int32)) hx hb kb_Mo_literal_50 (by decide) ?_
        refine lv_goto (tgt := 55) hx hb kb_Mo_literal_51 (by decide) ?_
        exact hw _ _ _ hG hS (lv_sub hl [3, 4, 2, 1, 0] rfl)
      · have hw := hw.2 hc
        refine lv_iload hx hb kb_Mo_literal_42 (lv_at hl 0 rfl) ?_
        refine zr_ci (va_runS (As := [.int r14]) (rest := []) ⟨hx, hb, hml, hown, hts⟩ (kc_Mo_isDigit l D dA Z r14 σ36 _) ⟨callB_of 1 hts (z_gw kw_733) rfl rfl rfl (hts _ (List.mem_cons_of_mem _ kw_9)) (hts _ (List.mem_cons_of_mem _ kw_731)) (by decide +kernel) ⟨Nat.le_of_ble_eq_true rfl, Nat.le_of_ble_eq_true rfl⟩, (hts _ (List.mem_cons_of_mem _ kw_732))⟩ (z_preS z_nwN (Nat.le_trans hZ hS.1) hG hK hN hw) rfl rfl hl.1 rfl (lv_room (Nat.le_of_ble_eq_true rfl)) kb_Mo_literal_44 ⟨Nat.le_of_ble_eq_true rfl, Nat.le_of_ble_eq_true rfl⟩) hS (fun r44 σ44 H locs hw hG hS => ?_)
        refine lv_if_eq (tgt := 54) hx hb kb_Mo_literal_47 (by decide) (fun hc => ?_) (fun hc => ?_)
        · have hw := hw.1 hc
          refine lv_iconst (v := (0 : Int32)) hx hb kb_Mo_literal_54 (by decide) ?_
          exact hw _ _ _ hG hS (lv_sub hl [3, 4, 2, 1, 0] rfl)
        · have hw := hw.2 hc
          refine lv_iconst (v := (1 : Int32)) hx hb kb_Mo_literal_50 (by decide) ?_
          refine lv_goto (tgt := 55) hx hb kb_Mo_literal_51 (by decide) ?_
          exact hw _ _ _ hG hS (lv_sub hl [3, 4, 2, 1, 0] rfl)
