/-! THE REFERENCE'S APPLY -/
abbrev ats : List Nat := [40, 41, 42, 43, 44, 45, 49, 50, 51, 52, 53, 54, 55]
abbrev afs : List Nat := [836, 840, 841, 842, 845, 847]
abbrev at0 : List Nat := [40, 41, 42, 43, 44, 45, 50, 51, 52, 53, 54, 55]
abbrev af0 : List Nat := [840, 841, 842, 845, 847]
def finv (T : Nat → al_T) (cs : sl_T) (d : Int) (v k : Nat) : Int := al_get (T v) k + csum cs d v k
theorem get_cnt {μ : mo_U} {R : mr_R} {N : Nat → Nat} {T : Nat → al_T} (hW : mo_W μ R N T) {v key : Nat} (hv : v < 8) (hin : al_in (T v) key) : 40 * v + al_b (T v) key < 320 ∧ al_b (T v) key < 40 ∧ μ.2 41 (40 * v + al_b (T v) key) = Int32.ofInt (al_get (T v) key) := by
  obtain ⟨tr, ts⟩ := hW.2 v hv
  obtain ⟨p1, p2⟩ := al_pos ts hin
  have hlen : (T v).length = N v := by rw [tr, mr_l_len]
  have hN := (hW.1.2 v hv).2
  obtain ⟨_, _, _, _, h5⟩ := hW.1.1 v (al_b (T v) key) hv (by omega)
  refine ⟨by omega, by omega, ?_⟩
  rw [h5, al_get_b _ _ ts, if_pos ⟨p1, p2⟩]
  have hgd : ∀ j, j < N v → (T v).getD j (0, 0) = R v j := fun j hj => by rw [tr, mr_l_gd R N v hj]
  rw [hgd _ (by omega)]
theorem skey_take (ss : sl_T) {j : Nat} (hj : j < ss.length) : skey (ss.take (j + 1)) = skey (ss.take j) ++ [((ss.getD j (0, 0, 0)).1, (ss.getD j (0, 0, 0)).2.1)] := by
  unfold skey
  rw [List.take_succ_eq_append_getElem hj, List.map_append, gd_eq _ _ hj]
  rfl
theorem skey_nin {ss : sl_T} (hn : (skey ss).Nodup) {j : Nat} (hj : j < ss.length) : ((ss.getD j (0, 0, 0)).1, (ss.getD j (0, 0, 0)).2.1) ∉ skey (ss.take j) := by
  intro h
  have e : skey ss = skey (ss.take (j + 1)) ++ skey (ss.drop (j + 1)) := by unfold skey; rw [← List.map_append, List.take_append_drop]
  rw [e, skey_take ss hj] at hn
  have := (List.nodup_append.mp (List.nodup_append.mp hn).1).2.2 _ h _ (List.mem_singleton.mpr rfl)
  exact this rfl
/-- behind the first turn -/
def tr0 (T : Nat → al_T) (cs : sl_T) (d : Int) (ss : sl_T) (j : Nat) (T' : Nat → al_T) (ss' : sl_T) : Prop := (∀ v, ∀ q ∈ T' v, 0 < q.2) ∧ (∀ v k, al_get (T' v) k = if (v, k) ∈ skey (ss.take j) ∧ finv T cs d v k = 0 then 0 else al_get (T v) k) ∧ (ss'.length = ss.length) ∧ (∀ i, i < ss.length → (ss'.getD i (0, 0, 0)).1 = (ss.getD i (0, 0, 0)).1 ∧ (ss'.getD i (0, 0, 0)).2.1 = (ss.getD i (0, 0, 0)).2.1 ∧ (ss'.getD i (0, 0, 0)).2.2 = if i < j ∧ finv T cs d (ss.getD i (0, 0, 0)).1 (ss.getD i (0, 0, 0)).2.1 = 0 ∧ al_get (T (ss.getD i (0, 0, 0)).1) (ss.getD i (0, 0, 0)).2.1 ≠ 0 then 0 else (ss.getD i (0, 0, 0)).2.2)
theorem tr0.p {T : Nat → al_T} {cs : sl_T} {d : Int} {ss : sl_T} {j : Nat} {T' : Nat → al_T} {ss' : sl_T} (h' : tr0 T cs d ss j T' ss') : ∀ v, ∀ q ∈ T' v, 0 < q.2 := h'.1
theorem tr0.g {T : Nat → al_T} {cs : sl_T} {d : Int} {ss : sl_T} {j : Nat} {T' : Nat → al_T} {ss' : sl_T} (h' : tr0 T cs d ss j T' ss') : ∀ v k, al_get (T' v) k = if (v, k) ∈ skey (ss.take j) ∧ finv T cs d v k = 0 then 0 else al_get (T v) k := h'.2.1
theorem tr0.l {T : Nat → al_T} {cs : sl_T} {d : Int} {ss : sl_T} {j : Nat} {T' : Nat → al_T} {ss' : sl_T} (h' : tr0 T cs d ss j T' ss') : ss'.length = ss.length := h'.2.2.1
theorem tr0.s {T : Nat → al_T} {cs : sl_T} {d : Int} {ss : sl_T} {j : Nat} {T' : Nat → al_T} {ss' : sl_T} (h' : tr0 T cs d ss j T' ss') : ∀ i, i < ss.length → (ss'.getD i (0, 0, 0)).1 = (ss.getD i (0, 0, 0)).1 ∧ (ss'.getD i (0, 0, 0)).2.1 = (ss.getD i (0, 0, 0)).2.1 ∧ (ss'.getD i (0, 0, 0)).2.2 = if i < j ∧ finv T cs d (ss.getD i (0, 0, 0)).1 (ss.getD i (0, 0, 0)).2.1 = 0 ∧ al_get (T (ss.getD i (0, 0, 0)).1) (ss.getD i (0, 0, 0)).2.1 ≠ 0 then 0 else (ss.getD i (0, 0, 0)).2.2 := h'.2.2.2
def tr1 (T : Nat → al_T) (cs : sl_T) (d : Int) (ss : sl_T) (T0 : Nat → al_T) (j : Nat) (T' : Nat → al_T) : Prop := (∀ v, ∀ q ∈ T' v, 0 < q.2) ∧ (∀ v k, al_get (T' v) k = if (v, k) ∈ skey (ss.take j) then finv T cs d v k else al_get (T0 v) k)
theorem tr1.p {T : Nat → al_T} {cs : sl_T} {d : Int} {ss : sl_T} {T0 : Nat → al_T} {j : Nat} {T' : Nat → al_T} (h' : tr1 T cs d ss T0 j T') : ∀ v, ∀ q ∈ T' v, 0 < q.2 := h'.1
theorem tr1.g {T : Nat → al_T} {cs : sl_T} {d : Int} {ss : sl_T} {T0 : Nat → al_T} {j : Nat} {T' : Nat → al_T} (h' : tr1 T cs d ss T0 j T') : ∀ v k, al_get (T' v) k = if (v, k) ∈ skey (ss.take j) then finv T cs d v k else al_get (T0 v) k := h'.2
theorem fives_set {A : Nat → Int32} {ss : sl_T} (h : fives A 0 ss) {j : Nat} (hj : j < ss.length) (s : Int) : fives (upd A (5 * j + 4) (Int32.ofInt s)) 0 (ss.set j ((ss.getD j (0, 0, 0)).1, (ss.getD j (0, 0, 0)).2.1, s)) := by
  intro i hi
  rw [List.length_set] at hi
  rw [gd_set _ _ _ hi]
  obtain ⟨⟨k0, k1, k2, k3, k4⟩, k8, kk⟩ := h i hi
  rw [Nat.zero_add] at k0 k1 k2 k3 k4 ⊢
  by_cases z : i = j
  · rw [if_pos z]
    rw [z] at k0 k1 k2 k3 k4 k8 kk ⊢
    refine ⟨?_, k8, kk⟩
    unfold five upd
    rw [if_neg (by omega), if_neg (by omega), if_neg (by omega), if_neg (by omega), if_pos rfl]
    exact ⟨k0, k1, k2, k3, rfl⟩
  · rw [if_neg z]
    refine ⟨?_, k8, kk⟩
    unfold five upd
    rw [if_neg (by omega), if_neg (by omega), if_neg (by omega), if_neg (by omega), if_neg (by omega)]
    exact ⟨k0, k1, k2, k3, k4⟩
theorem ref_apply {μ0 : mo_U} {G : pg_T} (hok : pg_ok G) {T : Nat → al_T} (hT : rT μ0 G T) (h9 : tb9 G T) (hpos : ∀ v, ∀ p ∈ T v, 0 < p.2) {cs : sl_T} (hcs : ch_ok G cs) {d : Int} (hd : d = 1 ∨ d = -1) (hSS : mo_SS μ0 (ssum cs d)) (Q : Int32 → mo_U → Prop)
    (hB : ¬ bOk T cs d → ∀ μ, mo_fr [] [] μ0 μ → Q (-2) μ)
    (hF : bOk T cs d → (bFull G T cs d ∨ WOv G 8 (ks (Tz G (bT G T cs d)))) → ∀ μ, rT μ G T → mo_fr at0 af0 μ0 μ → Q (-3) μ)
    (hO : bOk T cs d → ∀ T' μ, rT μ G T' → mo_fr ats afs μ0 μ → WK G 8 (ks (Tz G (bT G T cs d))) (ks T') → (∀ v, G.lay v = 0 → T' v = bT G T cs d v) → (∀ v, 1 ≤ G.lay v → ∀ p ∈ T' v, p.2 = 1) → mo_DL μ (dff G T T' G.n) → Q 0 μ) : mp_apply μ0 Q := by
  intro X2 X74 X112 X119 X194 X240 X269 h2 h74 h112 h119 h194 h240 h269
  have hn8 := hok.n8
  have hc60 := hcs.n
  have hsT := rT_srt hT
  have hso : ss_ok cs d (ssum cs d) := by
    have := ss_all cs d cs.length (Nat.le_refl _)
    rw [List.take_length] at this
    exact this
  obtain ⟨ss, hss⟩ : ∃ ss, ss = ssum cs d := ⟨_, rfl⟩
  rw [← hss] at hSS hso
  have hsl : ss.length ≤ 60 := hSS.2.1
  have hall := cT_all (d := d) (fun v => (hsT v).1) (fun v => (hsT v).2.1) (fun c hc => (hcs.k c hc).1)
  have hval : ∀ i, i < ss.length → (ss.getD i (0, 0, 0)).2.2 = csum cs d (ss.getD i (0, 0, 0)).1 (ss.getD i (0, 0, 0)).2.1 := fun i hi => by rw [← hso.s, csum_in hso.nd hi]
  have hkin : ∀ i, i < ss.length → ((ss.getD i (0, 0, 0)).1, (ss.getD i (0, 0, 0)).2.1) ∈ skey cs := fun i hi => (hso.k _).mp (List.mem_map.mpr ⟨ss.getD i (0, 0, 0), by rw [gd_eq _ _ hi]; exact List.getElem_mem hi, rfl⟩)
  have hex : ∀ i, i < ss.length → ∃ c ∈ cs, c.1 = (ss.getD i (0, 0, 0)).1 ∧ c.2.1 = (ss.getD i (0, 0, 0)).2.1 := fun i hi => by
    obtain ⟨c, hc, e⟩ := List.mem_map.mp (hkin i hi)
    exact ⟨c, hc, by injection e, by injection e⟩
  have hbd9 : ∀ v, G.vw v = false → ∀ k, 0 ≤ al_get (T v) k ∧ al_get (T v) k ≤ 9 := fun v hv k => al_get_bd (by decide) (fun p hp => ⟨by have := h9 v hv p hp; omega, (h9 v hv p hp).2⟩)
  have hcb : ∀ v k, -60 ≤ csum cs d v k ∧ csum cs d v k ≤ 60 := fun v k => by
    have := csum_bd hd hcs.s v k
    omega
  -- reading a row's count
  have rdc : ∀ {μ : mo_U} {T1 : Nat → al_T} {v key : Nat}, rT μ G T1 → v < 8 → key < 1000000000 → ∀ (Q : Int32 → mo_U → Prop), (al_in (T1 v) key → Q (nI (al_b (T1 v) key)) μ) → (¬ al_in (T1 v) key → Q (-1) μ) → mp_find (nI v) (nI (key / 1000000)) (nI (key / 1000 % 1000)) (nI (key % 1000)) μ Q := by
    intro μ T1 v key h1 h2 h3 Q q1 q0
    obtain ⟨R, N, hW⟩ := h1.w
    have hpk : pk3 (key / 1000000) (key / 1000 % 1000) (key % 1000) = key := by unfold pk3; omega
    refine mo_findL hW h2 (by omega) (by omega) (by omega) Q ?_ ?_
    · rw [hpk]; exact q1
    · rw [hpk]; exact q0
  -- all is within 0 .. 9: rows change
  have good : bOk T cs d → mp_keep μ0 (fun μ107 => X112 0 μ107) := by
    intro hbo
    obtain ⟨R0, N0, hW0⟩ := hT.w
    refine mo_keep _ (fun μ1 hf1 hk1 => ?_)
    have hO1 : mo_WO μ1 R0 N0 T := ⟨mo_O_keep hW0.1 hk1, hW0.2⟩
    have hT1 : rT μ1 G T := ⟨⟨R0, N0, mo_W_fr hW0 hf1 (by decide) (by decide) (by decide)⟩, hT.t8, rf_L_fr hT.g hf1 (by decide) (by decide)⟩
    have hfa1 : mo_fr at0 af0 μ0 μ1 := mo_fr_mono hf1 (by decide) (by decide)
    have hfin : ∀ i, i < ss.length → 0 ≤ finv T cs d (ss.getD i (0, 0, 0)).1 (ss.getD i (0, 0, 0)).2.1 ∧ finv T cs d (ss.getD i (0, 0, 0)).1 (ss.getD i (0, 0, 0)).2.1 ≤ 9 := fun i hi => by
      obtain ⟨c, hc, e1, e2⟩ := hex i hi
      have := hbo c hc
      rw [e1, e2] at this
      exact this
    have hcell : ∀ i, i < ss.length → (ss.getD i (0, 0, 0)).1 < 8 ∧ (ss.getD i (0, 0, 0)).2.1 < 1000000000 := fun i hi => by
      have := hSS.2.2 i hi
      exact ⟨this.2.1, this.2.2⟩
    -- the end is called: all comes back
    have backs : ∀ μ2, mo_O μ2 R0 N0 → rf_L μ2 G → mo_fr at0 af0 μ0 μ2 → (bFull G T cs d ∨ WOv G 8 (ks (Tz G (bT G T cs d)))) → mp_back μ2 (fun μ3 => Q (-3) μ3) := fun μ2 hO2 hg2 hf2 hor => by
      refine mo_back _ (fun μ3 hf3 hk3 => ?_)
      exact hF hbo hor μ3 ⟨⟨R0, N0, mo_M_back hO2 hk3, hW0.2⟩, hT.t8, rf_L_fr hg2 hf3 (by decide) (by decide)⟩ (mo_fr_tr hf2 (mo_fr_mono hf3 (by decide) (by decide)))
    -- what the rows are at the end
    have lastT : ∀ T1, (∀ v, al_s (T1 v)) → (∀ v, ∀ q ∈ T1 v, 0 < q.2) → (∀ v k, al_get (T1 v) k = finv T cs d v k) → T1 = bT G T cs d := fun T1 h1 h2 h3 => by
      funext v
      unfold bT
      split
      · rename_i hv
        refine al_gext (h1 v) (hsT v).1 (h2 v) (hpos v) (fun k => ?_)
        rw [h3]
        unfold finv
        rw [csum_0 (fun c hc e => ?_), Int.add_zero]
        have := (hcs.t c hc).2
        rw [e.1, hv] at this
        cases this
      · rename_i hv
        have hv : G.vw v = false := by simpa using hv
        have hp0 : ∀ p ∈ cT T cs d v, 0 ≤ p.2 ∧ p.2 ≤ 9 := (bOk_iff hall (h9 v hv)).mpr (fun c hc e => by have := hbo c hc; rw [e] at this; exact this)
        refine al_gext (h1 v) (al_ps_s (hall.s v)) (h2 v) (al_ps_pos _) (fun k => ?_)
        rw [h3, al_ps_get (hall.s v) (fun p hp => (hp0 p hp).1), hall.g]
        rfl
    -- the second turn
    have turn1 : ∀ (T0 : Nat → al_T) (ss0 : sl_T), tr0 T cs d ss ss.length T0 ss0 → ∀ m j T1 μ, j + m = ss.length → rT μ G T1 → mo_O μ R0 N0 → mo_fr at0 af0 μ0 μ → mo_SS μ ss0 → tr1 T cs d ss T0 j T1 → X119 1 (nI j) μ := by
      intro T0 ss0 h0 m
      have h0s : ∀ i, i < ss.length → al_get (T0 (ss.getD i (0, 0, 0)).1) (ss.getD i (0, 0, 0)).2.1 + (ss0.getD i (0, 0, 0)).2.2 = finv T cs d (ss.getD i (0, 0, 0)).1 (ss.getD i (0, 0, 0)).2.1 := fun i hi => by
        have hmem : ((ss.getD i (0, 0, 0)).1, (ss.getD i (0, 0, 0)).2.1) ∈ skey (ss.take ss.length) := by
          rw [List.take_length]
          exact List.mem_map.mpr ⟨ss.getD i (0, 0, 0), by rw [gd_eq _ _ hi]; exact List.getElem_mem hi, rfl⟩
        have hg := h0.g (ss.getD i (0, 0, 0)).1 (ss.getD i (0, 0, 0)).2.1
        have hs := (h0.s i hi).2.2
        have hv := hval i hi
        by_cases z : finv T cs d (ss.getD i (0, 0, 0)).1 (ss.getD i (0, 0, 0)).2.1 = 0
        · rw [if_pos ⟨hmem, z⟩] at hg
          rw [hg, z]
          by_cases y : al_get (T (ss.getD i (0, 0, 0)).1) (ss.getD i (0, 0, 0)).2.1 ≠ 0
          · rw [hs, if_pos ⟨hi, z, y⟩]; rfl
          · rw [hs, if_neg (fun w => y w.2.2), hv]
            unfold finv at z
            rw [Classical.not_not.mp y, Int.zero_add] at z
            rw [z]
            rfl
        · rw [if_neg (fun w => z w.2)] at hg
          rw [hg, hs, if_neg (fun w => z w.2.1), hv]
          rfl
      induction m with
      | zero =>
        intro j T1 μ hj hT1 hO1' hf hS0 h1
        refine h119 _ _ _ ?_
        rw [hS0.1]
        have hl0 := h0.l
        refine ⟨fun _ => h112 _ _ ⟨fun _ => ?_, fun q => absurd (by decide) q⟩, fun q => absurd (nI_le (by omega) (by omega)) q⟩
        have eT : T1 = bT G T cs d := lastT T1 (fun v => (rT_srt hT1 v).1) h1.p (fun v k => by
          rw [h1.g, show j = ss.length by omega, List.take_length]
          by_cases z : (v, k) ∈ skey ss
          · rw [if_pos z]
          · rw [if_neg z, h0.g, if_neg (fun y => z (by have := y.1; rw [List.take_length] at this; exact this))]
            unfold finv
            rw [csum_0 (fun c hc e => z ((hso.k _).mpr (List.mem_map.mpr ⟨c, hc, by rw [e.1, e.2]⟩))), Int.add_zero])
        rw [eT] at hT1
        refine ref_work hok hT1 _ (fun μ' T' hT' hf' hW' hl' ho' => ⟨fun _ => ?_, fun q => absurd q (by decide)⟩) (fun μ' R' N' hM' hf' hov => ⟨fun q => absurd rfl q, fun _ => ?_⟩)
        · obtain ⟨R', N', hW2⟩ := hT'.w
          have hO' := mo_O_fr hO1' hf' (by decide) (by decide) (by decide)
          refine ref_compareAll hok hT'.g hW2 ⟨hO', hW0.2⟩ (fun v => (hsT v).2.2) (fun v => (rT_srt hT' v).2.2) _ (fun μ'' hf'' hD => ?_)
          refine hO hbo T' μ'' ⟨⟨R', N', mo_W_fr hW2 hf'' (by decide) (by decide) (by decide)⟩, hT'.t8, rf_L_fr hT'.g hf'' (by decide) (by decide)⟩ (mo_fr_tr (mo_fr_mono hf (by decide) (by decide)) (mo_fr_tr (mo_fr_mono hf' (by decide) (by decide)) (mo_fr_mono hf'' (by decide) (by decide)))) hW' hl' ho' hD
        · exact backs μ' (mo_O_fr hO1' hf' (by decide) (by decide) (by decide)) (rf_L_fr hT1.g hf' (by decide) (by decide)) (mo_fr_tr hf (mo_fr_mono hf' (by decide) (by decide))) (Or.inr hov)
      | succ m ih =>
        intro j T1 μ hj hT1 hO1' hf hS0 h1
        have hjl : j < ss.length := by omega
        have hl0 := h0.l
        obtain ⟨c8, ck⟩ := hcell j hjl
        obtain ⟨⟨k0, k1, k2, k3, k4⟩, _, _⟩ := hS0.2.2 j (by omega)
        rw [Nat.zero_add] at k0 k1 k2 k3 k4
        obtain ⟨e1, e2, _⟩ := h0.s j hjl
        rw [e1] at k0
        rw [e2] at k1 k2 k3
        have hnin := skey_nin hso.nd hjl
        have hcur : al_get (T1 (ss.getD j (0, 0, 0)).1) (ss.getD j (0, 0, 0)).2.1 = al_get (T0 (ss.getD j (0, 0, 0)).1) (ss.getD j (0, 0, 0)).2.1 := by rw [h1.g, if_neg hnin]
        have hcnt : al_get (T1 (ss.getD j (0, 0, 0)).1) (ss.getD j (0, 0, 0)).2.1 + (ss0.getD j (0, 0, 0)).2.2 = finv T cs d (ss.getD j (0, 0, 0)).1 (ss.getD j (0, 0, 0)).2.1 := by rw [hcur]; exact h0s j hjl
        obtain ⟨f1, f9⟩ := hfin j hjl
        have hst := skey_take ss hjl
        have hs1 := rT_srt hT1
        -- the row's count is what it is to be
        have nextT : ∀ x : Int, al_get (T1 (ss.getD j (0, 0, 0)).1) (ss.getD j (0, 0, 0)).2.1 + x = finv T cs d (ss.getD j (0, 0, 0)).1 (ss.getD j (0, 0, 0)).2.1 → 0 < finv T cs d (ss.getD j (0, 0, 0)).1 (ss.getD j (0, 0, 0)).2.1 → tr1 T cs d ss T0 (j + 1) (fun v => if v = (ss.getD j (0, 0, 0)).1 then al_add (T1 (ss.getD j (0, 0, 0)).1) (ss.getD j (0, 0, 0)).2.1 x else T1 v) := fun x hx hp => by
          refine ⟨fun v q hq => ?_, fun v k => ?_⟩
          · change q ∈ (if v = (ss.getD j (0, 0, 0)).1 then _ else T1 v) at hq
            split at hq
            · rcases al_add_mem hq with z | z
              · exact h1.p _ q z
              · have := al_get_mem (al_add_s (hs1 _).1) hq
                rw [al_get_add (hs1 _).1, if_pos z, hx] at this
                omega
            · exact h1.p v q hq
          · show al_get (if v = (ss.getD j (0, 0, 0)).1 then _ else T1 v) k = _
            rw [hst]
            by_cases z : v = (ss.getD j (0, 0, 0)).1
            · rw [if_pos z, al_get_add (hs1 _).1]
              by_cases y : k = (ss.getD j (0, 0, 0)).2.1
              · rw [if_pos y, if_pos (List.mem_append.mpr (Or.inr (List.mem_singleton.mpr (by rw [z, y])))), z, y]
                exact hx
              · rw [if_neg y, h1.g, ← z]
                by_cases w : (v, k) ∈ skey (ss.take j)
                · rw [if_pos w, if_pos (List.mem_append.mpr (Or.inl w))]
                · rw [if_neg w, if_neg (fun u => (List.mem_append.mp u).elim w (fun t => y (by have := List.mem_singleton.mp t; injection this)))]
            · rw [if_neg z, h1.g]
              by_cases w : (v, k) ∈ skey (ss.take j)
              · rw [if_pos w, if_pos (List.mem_append.mpr (Or.inl w))]
              · rw [if_neg w, if_neg (fun u => (List.mem_append.mp u).elim w (fun t => z (by have := List.mem_singleton.mp t; injection this)))]
        refine h119 _ _ _ ?_
        rw [hS0.1]
        refine ⟨fun q => absurd q (nI_ge (by omega) (by omega)), fun _ => ?_⟩
        rw [nI_5, show (40 : Int32) = nI 40 from rfl]
        have q1 : (1 : Int32) = nI 1 := rfl
        have q2 : (2 : Int32) = nI 2 := rfl
        have q3 : (3 : Int32) = nI 3 := rfl
        have q4 : (4 : Int32) = nI 4 := rfl
        have ix1 : nI (5 * j) + (1 : Int32) = nI (5 * j + 1) := by rw [q1, nI_k]
        have ix2 : nI (5 * j) + (2 : Int32) = nI (5 * j + 2) := by rw [q2, nI_k]
        have ix3 : nI (5 * j) + (3 : Int32) = nI (5 * j + 3) := by rw [q3, nI_k]
        have ix4 : nI (5 * j) + (4 : Int32) = nI (5 * j + 4) := by rw [q4, nI_k]
        rw [ix1, ix2, ix3, cl_nI (n := 5 * j) (by omega), cl_nI (n := 5 * j + 1) (by omega), cl_nI (n := 5 * j + 2) (by omega), cl_nI (n := 5 * j + 3) (by omega), k0, k1, k2, k3]
        refine ⟨vp_in_nI (by omega) (by decide), vp_in_nI (by omega) (by decide), vp_in_nI (by omega) (by decide), vp_in_nI (by omega) (by decide), rdc hT1 c8 ck _ (fun hin => ?_) (fun hnin' => ?_)⟩
        · obtain ⟨R1, N1, hW1⟩ := hT1.w
          obtain ⟨g1, g2, g3⟩ := get_cnt hW1 c8 hin
          refine ⟨fun _ => ?_, fun q => absurd q (ov_m1 (v := al_b (T1 (ss.getD j (0, 0, 0)).1) (ss.getD j (0, 0, 0)).2.1) (by omega))⟩
          rw [pk_mul, nI_k, cl_nI (n := 40 * (ss.getD j (0, 0, 0)).1 + al_b (T1 (ss.getD j (0, 0, 0)).1) (ss.getD j (0, 0, 0)).2.1) (by omega), g3]
          refine ⟨vp_in_nI g1 (by decide), h194 _ _ _ _ _ _ _ ?_⟩
          rw [ix4, cl_nI (n := 5 * j + 4) (by omega), k4, ofI_add, hcnt]
          refine ⟨vp_in_nI (by omega) (by decide), fun _ => ?_, fun q => absurd q (by decide)⟩
          have hgpos : 0 < al_get (T1 (ss.getD j (0, 0, 0)).1) (ss.getD j (0, 0, 0)).2.1 := (al_get_pos (h1.p _)).1.mpr hin
          have hfp : 0 < finv T cs d (ss.getD j (0, 0, 0)).1 (ss.getD j (0, 0, 0)).2.1 := by
            rw [hcur, h0.g] at hgpos
            by_cases z : finv T cs d (ss.getD j (0, 0, 0)).1 (ss.getD j (0, 0, 0)).2.1 = 0
            · rw [if_pos ⟨by rw [List.take_length]; exact List.mem_map.mpr ⟨ss.getD j (0, 0, 0), by rw [gd_eq _ _ hjl]; exact List.getElem_mem hjl, rfl⟩, z⟩] at hgpos
              omega
            · omega
          refine h240 _ _ _ _ _ _ _ ⟨fun q => absurd rfl q, fun _ => ⟨fun q => absurd q (ov_m1 (v := al_b (T1 (ss.getD j (0, 0, 0)).1) (ss.getD j (0, 0, 0)).2.1) (by omega)), fun _ => ?_⟩⟩
          rw [show (40 : Int32) = nI 40 from rfl, pk_mul, nI_k]
          refine ⟨vp_in_nI g1 (by decide), fun μ2 e2' => ?_⟩
          rw [cl_nI (n := 40 * (ss.getD j (0, 0, 0)).1 + al_b (T1 (ss.getD j (0, 0, 0)).1) (ss.getD j (0, 0, 0)).2.1) (by omega), ← hcnt] at e2'
          obtain ⟨R2, hW2⟩ := mo_setL hW1 c8 hin (ss0.getD j (0, 0, 0)).2.2
          rw [← e2'] at hW2
          have hf2 : mo_fr [41] [] μ μ2 := by rw [e2']; exact mo_fr_A (by decide)
          rw [nI_1]
          refine ih (j + 1) _ μ2 (by omega) ⟨⟨R2, N1, hW2⟩, fun v hv => ?_, rf_L_fr hT1.g hf2 (by decide) (by decide)⟩ (mo_O_fr hO1' hf2 (by decide) (by decide) (by decide)) (mo_fr_tr hf (mo_fr_mono hf2 (by decide) (by decide))) ⟨by rw [hf2.2 847 (by decide)]; exact hS0.1, hS0.2.1, by rw [hf2.1 55 (by decide)]; exact hS0.2.2⟩ (nextT _ hcnt hfp)
          show (if v = (ss.getD j (0, 0, 0)).1 then _ else T1 v) = []
          rw [if_neg (by omega)]; exact hT1.t8 v hv
        · have hg0 : al_get (T1 (ss.getD j (0, 0, 0)).1) (ss.getD j (0, 0, 0)).2.1 = 0 := al_0 hnin'
          refine ⟨fun q => absurd rfl q, fun _ => h194 _ _ _ _ _ _ _ ?_⟩
          rw [ix4, cl_nI (n := 5 * j + 4) (by omega), k4, show (0 : Int32) = Int32.ofInt 0 from rfl, ofI_add]
          rw [hg0, Int.zero_add] at hcnt
          rw [Int.zero_add, hcnt]
          refine ⟨vp_in_nI (by omega) (by decide), fun _ => ?_, fun q => absurd q (by decide)⟩
          refine h240 _ _ _ _ _ _ _ ⟨fun q => absurd rfl q, fun _ => ⟨fun _ => ?_, fun q => absurd rfl q⟩⟩
          refine h269 _ _ _ _ _ _ ⟨fun q => absurd rfl q, fun _ => ⟨fun q => ?_, fun q => ?_⟩⟩
          · have hz : finv T cs d (ss.getD j (0, 0, 0)).1 (ss.getD j (0, 0, 0)).2.1 = 0 := by
              rw [show (0 : Int32) = nI 0 from rfl, ofI_le (by omega) (by omega) 0 (by decide)] at q
              omega
            rw [nI_1]
            refine ih (j + 1) T1 μ (by omega) hT1 hO1' hf hS0 ⟨h1.p, fun v k => ?_⟩
            rw [h1.g, hst]
            by_cases w : (v, k) ∈ skey (ss.take j)
            · rw [if_pos w, if_pos (List.mem_append.mpr (Or.inl w))]
            · rw [if_neg w]
              by_cases u : (v, k) = ((ss.getD j (0, 0, 0)).1, (ss.getD j (0, 0, 0)).2.1)
              · rw [if_pos (List.mem_append.mpr (Or.inr (List.mem_singleton.mpr u)))]
                injection u with u1 u2
                rw [u1, u2, ← hcur, hg0, hz]
              · rw [if_neg (fun t => (List.mem_append.mp t).elim w (fun s => u (List.mem_singleton.mp s)))]
          · have hfp : 0 < finv T cs d (ss.getD j (0, 0, 0)).1 (ss.getD j (0, 0, 0)).2.1 := by
              have := fun z => q ((ofI_le (by omega) (by omega) 0 (by decide)).mpr z)
              rw [← Int.not_le]
              exact this
            rw [ix1, ix2, ix3, cl_nI (n := 5 * j + 1) (by omega), cl_nI (n := 5 * j + 2) (by omega), cl_nI (n := 5 * j + 3) (by omega), k1, k2, k3]
            obtain ⟨R1, N1, hW1⟩ := hT1.w
            have hpk : pk3 ((ss.getD j (0, 0, 0)).2.1 / 1000000) ((ss.getD j (0, 0, 0)).2.1 / 1000 % 1000) ((ss.getD j (0, 0, 0)).2.1 % 1000) = (ss.getD j (0, 0, 0)).2.1 := by unfold pk3; omega
            refine ⟨vp_in_nI (by omega) (by decide), vp_in_nI (by omega) (by decide), vp_in_nI (by omega) (by decide), mo_insertL hW1 c8 (by omega) (by omega) (by omega) _ (by rw [hpk]; exact hnin') _ (fun h40 => ⟨fun q => absurd rfl q, fun _ => ?_⟩) (fun h40 μ2 R2 N2 hW2 hf2 => ⟨fun _ => ?_, fun q => absurd q (by decide)⟩)⟩
            · refine backs μ hO1' hT1.g hf (Or.inl ?_)
              have hvw : (ss.getD j (0, 0, 0)).1 < G.n ∧ G.vw (ss.getD j (0, 0, 0)).1 = false := by
                obtain ⟨c, hc, e1', _⟩ := hex j hjl
                have := hcs.t c hc
                rw [e1'] at this
                exact this
              refine ⟨(ss.getD j (0, 0, 0)).1, hvw.1, hvw.2, ?_⟩
              have hp0 : ∀ p ∈ cT T cs d (ss.getD j (0, 0, 0)).1, 0 ≤ p.2 ∧ p.2 ≤ 9 := (bOk_iff hall (h9 _ hvw.2)).mpr (fun c hc e => by have := hbo c hc; rw [e] at this; exact this)
              have hbg : ∀ k, al_get (bT G T cs d (ss.getD j (0, 0, 0)).1) k = finv T cs d (ss.getD j (0, 0, 0)).1 k := fun k => by
                unfold bT
                rw [if_neg (by rw [hvw.2]; decide), al_ps_get (hall.s _) (fun p hp => (hp0 p hp).1), hall.g]
                rfl
              have hbp : ∀ p ∈ bT G T cs d (ss.getD j (0, 0, 0)).1, 0 < p.2 := by
                unfold bT
                rw [if_neg (by rw [hvw.2]; decide)]
                exact al_ps_pos _
              have hbs : al_s (bT G T cs d (ss.getD j (0, 0, 0)).1) := by
                unfold bT
                rw [if_neg (by rw [hvw.2]; decide)]
                exact al_ps_s (hall.s _)
              have hle := srt_len (l := (al_add (T1 (ss.getD j (0, 0, 0)).1) (ss.getD j (0, 0, 0)).2.1 1).map Prod.fst) (l' := (bT G T cs d (ss.getD j (0, 0, 0)).1).map Prod.fst) (by rw [List.pairwise_map]; exact al_add_s (hs1 _).1) (by rw [List.pairwise_map]; exact hbs) (fun k hk => by
                obtain ⟨p, hp, e⟩ := List.mem_map.mp hk
                have hin : 0 < finv T cs d (ss.getD j (0, 0, 0)).1 k := by
                  rcases al_add_in.mp ⟨p, hp, e⟩ with z | z
                  · have h5 := (al_get_pos (h1.p _)).1.mpr z
                    rw [h1.g] at h5
                    by_cases w : ((ss.getD j (0, 0, 0)).1, k) ∈ skey (ss.take j)
                    · rw [if_pos w] at h5; exact h5
                    · rw [if_neg w, h0.g] at h5
                      by_cases u : ((ss.getD j (0, 0, 0)).1, k) ∈ skey (ss.take ss.length) ∧ finv T cs d (ss.getD j (0, 0, 0)).1 k = 0
                      · rw [if_pos u] at h5; omega
                      · rw [if_neg u] at h5
                        rw [List.take_length] at u
                        by_cases t : ((ss.getD j (0, 0, 0)).1, k) ∈ skey ss
                        · have hne : finv T cs d (ss.getD j (0, 0, 0)).1 k ≠ 0 := fun y => u ⟨t, y⟩
                          obtain ⟨c, hc, ec⟩ := List.mem_map.mp ((hso.k _).mp t)
                          injection ec with ec1 ec2
                          have := hbo c hc
                          rw [ec1, ec2] at this
                          unfold finv at hne ⊢
                          omega
                        · unfold finv
                          rw [csum_0 (fun c hc ec => t ((hso.k _).mpr (List.mem_map.mpr ⟨c, hc, by rw [ec.1, ec.2]⟩))), Int.add_zero]
                          exact h5
                  · rw [z]; exact hfp
                rw [← hbg] at hin
                obtain ⟨q, hq, e'⟩ := (al_get_pos hbp).1.mp hin
                exact List.mem_map.mpr ⟨q, hq, e'⟩)
              rw [List.length_map, List.length_map, al_add_len _ _ _ (hs1 _).1 hnin'] at hle
              omega
            · rw [hpk] at hW2
              rw [nI_1]
              refine ih (j + 1) _ μ2 (by omega) ⟨⟨R2, N2, hW2⟩, fun v hv => ?_, rf_L_fr hT1.g hf2 (by decide) (by decide)⟩ (mo_O_fr hO1' hf2 (by decide) (by decide) (by decide)) (mo_fr_tr hf (mo_fr_mono hf2 (by decide) (by decide))) ⟨by rw [hf2.2 847 (by decide)]; exact hS0.1, hS0.2.1, by rw [hf2.1 55 (by decide)]; exact hS0.2.2⟩ (nextT _ (by rw [hg0, Int.zero_add]) hfp)
              show (if v = (ss.getD j (0, 0, 0)).1 then _ else T1 v) = []
              rw [if_neg (by omega)]; exact hT1.t8 v hv
    -- the first turn
    have turn0 : ∀ m j T1 ss1 μ, j + m = ss.length → rT μ G T1 → mo_O μ R0 N0 → mo_fr at0 af0 μ0 μ → mo_SS μ ss1 → tr0 T cs d ss j T1 ss1 → X119 0 (nI j) μ := by
      intro m
      induction m with
      | zero =>
        intro j T1 ss1 μ hj hT1 hO1' hf hS1 h0
        refine h119 _ _ _ ?_
        rw [hS1.1]
        have hl0 := h0.l
        refine ⟨fun _ => h112 _ _ ⟨fun q => absurd q (by decide), fun _ => ?_⟩, fun q => absurd (nI_le (by omega) (by omega)) q⟩
        rw [show j = ss.length by omega] at h0
        exact turn1 T1 ss1 h0 ss.length 0 T1 μ (by omega) hT1 hO1' hf hS1 ⟨h0.p, fun v k => by rw [List.take_zero, if_neg (show (v, k) ∉ skey [] from List.not_mem_nil)]⟩
      | succ m ih =>
        intro j T1 ss1 μ hj hT1 hO1' hf hS1 h0
        have hjl : j < ss.length := by omega
        have hl0 := h0.l
        obtain ⟨c8, ck⟩ := hcell j hjl
        obtain ⟨⟨k0, k1, k2, k3, k4⟩, _, _⟩ := hS1.2.2 j (by omega)
        rw [Nat.zero_add] at k0 k1 k2 k3 k4
        obtain ⟨e1, e2, e3⟩ := h0.s j hjl
        rw [if_neg (fun w => absurd w.1 (Nat.lt_irrefl j))] at e3
        rw [e1] at k0
        rw [e2] at k1 k2 k3
        rw [e3] at k4
        have hnin := skey_nin hso.nd hjl
        have hcur : al_get (T1 (ss.getD j (0, 0, 0)).1) (ss.getD j (0, 0, 0)).2.1 = al_get (T (ss.getD j (0, 0, 0)).1) (ss.getD j (0, 0, 0)).2.1 := by rw [h0.g, if_neg (fun w => hnin w.1)]
        have hcnt : al_get (T1 (ss.getD j (0, 0, 0)).1) (ss.getD j (0, 0, 0)).2.1 + (ss.getD j (0, 0, 0)).2.2 = finv T cs d (ss.getD j (0, 0, 0)).1 (ss.getD j (0, 0, 0)).2.1 := by rw [hcur, hval j hjl]; rfl
        obtain ⟨f1, f9⟩ := hfin j hjl
        have hst := skey_take ss hjl
        have hs1 := rT_srt hT1
        have hinT : al_in (T1 (ss.getD j (0, 0, 0)).1) (ss.getD j (0, 0, 0)).2.1 ↔ al_get (T (ss.getD j (0, 0, 0)).1) (ss.getD j (0, 0, 0)).2.1 ≠ 0 := by
          rw [← hcur]
          exact ⟨fun h z => (al_get_pos (h0.p _)).2.mp z h, fun h => Classical.not_not.mp (fun y => h ((al_get_pos (h0.p _)).2.mpr y))⟩
        -- nothing is done
        have skip : ¬ (finv T cs d (ss.getD j (0, 0, 0)).1 (ss.getD j (0, 0, 0)).2.1 = 0 ∧ al_get (T (ss.getD j (0, 0, 0)).1) (ss.getD j (0, 0, 0)).2.1 ≠ 0) → X119 0 (nI j + 1) μ := fun hno => by
          rw [nI_1]
          refine ih (j + 1) T1 ss1 μ (by omega) hT1 hO1' hf hS1 ⟨h0.p, fun v k => ?_, hl0, fun i hi => ?_⟩
          · rw [h0.g, hst]
            by_cases w : (v, k) ∈ skey (ss.take j)
            · by_cases y : finv T cs d v k = 0
              · rw [if_pos ⟨w, y⟩, if_pos ⟨List.mem_append.mpr (Or.inl w), y⟩]
              · rw [if_neg (fun t => y t.2), if_neg (fun t => y t.2)]
            · rw [if_neg (fun t => w t.1)]
              by_cases u : (v, k) = ((ss.getD j (0, 0, 0)).1, (ss.getD j (0, 0, 0)).2.1) ∧ finv T cs d v k = 0
              · rw [if_pos ⟨List.mem_append.mpr (Or.inr (List.mem_singleton.mpr u.1)), u.2⟩]
                obtain ⟨u1, u2⟩ := u
                injection u1 with a1 a2
                rw [a1, a2] at u2 ⊢
                exact Classical.not_not.mp (fun t => hno ⟨u2, t⟩)
              · rw [if_neg (fun t => (List.mem_append.mp t.1).elim w (fun s => u ⟨List.mem_singleton.mp s, t.2⟩))]
          · obtain ⟨a1, a2, a3⟩ := h0.s i hi
            refine ⟨a1, a2, ?_⟩
            rw [a3]
            by_cases z : i = j
            · rw [z, if_neg (fun t => absurd t.1 (Nat.lt_irrefl j)), if_neg (fun t => hno t.2)]
            · by_cases y : i < j
              · by_cases w : finv T cs d (ss.getD i (0, 0, 0)).1 (ss.getD i (0, 0, 0)).2.1 = 0 ∧ al_get (T (ss.getD i (0, 0, 0)).1) (ss.getD i (0, 0, 0)).2.1 ≠ 0
                · rw [if_pos ⟨y, w⟩, if_pos ⟨by omega, w⟩]
                · rw [if_neg (fun t => w t.2), if_neg (fun t => w t.2)]
              · rw [if_neg (fun t => y t.1), if_neg (fun t => by omega)]
        have thru : ∀ x y w : Int32, ¬ (finv T cs d (ss.getD j (0, 0, 0)).1 (ss.getD j (0, 0, 0)).2.1 = 0 ∧ al_get (T (ss.getD j (0, 0, 0)).1) (ss.getD j (0, 0, 0)).2.1 ≠ 0) → X240 0 (nI j) (nI (5 * j)) x y w μ := fun x y w hno => h240 _ _ _ _ _ _ _ ⟨fun _ => h269 _ _ _ _ _ _ ⟨fun _ => skip hno, fun q => absurd q (by decide)⟩, fun q => absurd q (by decide)⟩
        refine h119 _ _ _ ?_
        rw [hS1.1]
        refine ⟨fun q => absurd q (nI_ge (by omega) (by omega)), fun _ => ?_⟩
        rw [nI_5, show (40 : Int32) = nI 40 from rfl]
        have ix1 : nI (5 * j) + (1 : Int32) = nI (5 * j + 1) := by rw [show (1 : Int32) = nI 1 from rfl, nI_k]
        have ix2 : nI (5 * j) + (2 : Int32) = nI (5 * j + 2) := by rw [show (2 : Int32) = nI 2 from rfl, nI_k]
        have ix3 : nI (5 * j) + (3 : Int32) = nI (5 * j + 3) := by rw [show (3 : Int32) = nI 3 from rfl, nI_k]
        have ix4 : nI (5 * j) + (4 : Int32) = nI (5 * j + 4) := by rw [show (4 : Int32) = nI 4 from rfl, nI_k]
        rw [ix1, ix2, ix3, cl_nI (n := 5 * j) (by omega), cl_nI (n := 5 * j + 1) (by omega), cl_nI (n := 5 * j + 2) (by omega), cl_nI (n := 5 * j + 3) (by omega), k0, k1, k2, k3]
        refine ⟨vp_in_nI (by omega) (by decide), vp_in_nI (by omega) (by decide), vp_in_nI (by omega) (by decide), vp_in_nI (by omega) (by decide), rdc hT1 c8 ck _ (fun hin => ?_) (fun hnin' => ?_)⟩
        · obtain ⟨R1, N1, hW1⟩ := hT1.w
          obtain ⟨g1, g2, g3⟩ := get_cnt hW1 c8 hin
          have hne1 : ¬ nI (al_b (T1 (ss.getD j (0, 0, 0)).1) (ss.getD j (0, 0, 0)).2.1) = -1 := ov_m1 (by omega)
          refine ⟨fun _ => ?_, fun q => absurd q hne1⟩
          rw [pk_mul, nI_k, cl_nI (n := 40 * (ss.getD j (0, 0, 0)).1 + al_b (T1 (ss.getD j (0, 0, 0)).1) (ss.getD j (0, 0, 0)).2.1) (by omega), g3]
          refine ⟨vp_in_nI g1 (by decide), h194 _ _ _ _ _ _ _ ?_⟩
          rw [ix4, cl_nI (n := 5 * j + 4) (by omega), k4, ofI_add, hcnt]
          refine ⟨vp_in_nI (by omega) (by decide), fun q => absurd rfl q, fun _ => ⟨fun q => absurd q hne1, fun _ => ⟨fun q => ?_, fun q => ?_⟩⟩⟩
          · refine thru _ _ _ (fun z => q ?_)
            rw [z.1]
            rfl
          · have hz : finv T cs d (ss.getD j (0, 0, 0)).1 (ss.getD j (0, 0, 0)).2.1 = 0 := (ofI_0 f1 (by omega)).mp q
            refine mo_removeL hW1 c8 hin _ (fun μ2 R2 N2 hW2 hf2 => ⟨vp_in_nI (by omega) (by decide), fun μ3 e3' => ?_⟩)
            have hf3 : mo_fr [40, 41, 42, 55] [] μ μ3 := by
              rw [e3']
              exact mo_fr_tr (mo_fr_mono hf2 (by decide) (by decide)) (mo_fr_A (by decide))
            have hf23 : mo_fr [55] [] μ2 μ3 := by rw [e3']; exact mo_fr_A (by decide)
            rw [nI_1]
            refine ih (j + 1) (fun v => if v = (ss.getD j (0, 0, 0)).1 then al_del (T1 (ss.getD j (0, 0, 0)).1) (ss.getD j (0, 0, 0)).2.1 else T1 v) (ss1.set j ((ss1.getD j (0, 0, 0)).1, (ss1.getD j (0, 0, 0)).2.1, 0)) μ3 (by omega) ⟨⟨R2, N2, mo_W_fr hW2 hf23 (by decide) (by decide) (by decide)⟩, fun v hv => ?_, rf_L_fr hT1.g hf3 (by decide) (by decide)⟩ (mo_O_fr hO1' hf3 (by decide) (by decide) (by decide)) (mo_fr_tr hf (mo_fr_mono hf3 (by decide) (by decide))) ⟨by rw [hf3.2 847 (by decide), List.length_set]; exact hS1.1, by rw [List.length_set]; exact hS1.2.1, ?_⟩ ⟨fun v q hq => ?_, fun v k => ?_, by rw [List.length_set]; exact hl0, fun i hi => ?_⟩
            · show (if v = (ss.getD j (0, 0, 0)).1 then _ else T1 v) = []
              rw [if_neg (by omega)]; exact hT1.t8 v hv
            · have hA : μ3.2 55 = upd (μ.2 55) (5 * j + 4) (Int32.ofInt 0) := by
                rw [e3', mu_A_sA, if_pos rfl, hf2.1 55 (by decide)]
                rfl
              rw [hA]
              exact fives_set hS1.2.2 (by omega) 0
            · change q ∈ (if v = (ss.getD j (0, 0, 0)).1 then _ else T1 v) at hq
              split at hq
              · exact h0.p _ q (al_del_sub hq)
              · exact h0.p v q hq
            · show al_get (if v = (ss.getD j (0, 0, 0)).1 then _ else T1 v) k = _
              rw [hst]
              by_cases z : v = (ss.getD j (0, 0, 0)).1
              · rw [if_pos z, al_del_get (hs1 _).1 hin]
                by_cases y : k = (ss.getD j (0, 0, 0)).2.1
                · rw [if_pos y, if_pos ⟨List.mem_append.mpr (Or.inr (List.mem_singleton.mpr (by rw [z, y]))), by rw [z, y]; exact hz⟩]
                · rw [if_neg y, ← z, h0.g]
                  by_cases w : (v, k) ∈ skey (ss.take j) ∧ finv T cs d v k = 0
                  · rw [if_pos w, if_pos ⟨List.mem_append.mpr (Or.inl w.1), w.2⟩]
                  · rw [if_neg w, if_neg (fun u => (List.mem_append.mp u.1).elim (fun t => w ⟨t, u.2⟩) (fun t => y (by have := List.mem_singleton.mp t; injection this)))]
              · rw [if_neg z, h0.g]
                by_cases w : (v, k) ∈ skey (ss.take j) ∧ finv T cs d v k = 0
                · rw [if_pos w, if_pos ⟨List.mem_append.mpr (Or.inl w.1), w.2⟩]
                · rw [if_neg w, if_neg (fun u => (List.mem_append.mp u.1).elim (fun t => w ⟨t, u.2⟩) (fun t => z (by have := List.mem_singleton.mp t; injection this)))]
            · rw [gd_set _ _ _ (by omega)]
              obtain ⟨a1, a2, a3⟩ := h0.s i hi
              by_cases z : i = j
              · rw [if_pos z, z, if_pos ⟨by omega, hz, hinT.mp hin⟩]
                exact ⟨e1, e2, rfl⟩
              · rw [if_neg z]
                refine ⟨a1, a2, ?_⟩
                rw [a3]
                by_cases y : i < j
                · by_cases w : finv T cs d (ss.getD i (0, 0, 0)).1 (ss.getD i (0, 0, 0)).2.1 = 0 ∧ al_get (T (ss.getD i (0, 0, 0)).1) (ss.getD i (0, 0, 0)).2.1 ≠ 0
                  · rw [if_pos ⟨y, w⟩, if_pos ⟨by omega, w⟩]
                  · rw [if_neg (fun t => w t.2), if_neg (fun t => w t.2)]
                · rw [if_neg (fun t => y t.1), if_neg (fun t => by omega)]
        · refine ⟨fun q => absurd rfl q, fun _ => h194 _ _ _ _ _ _ _ ?_⟩
          rw [ix4]
          exact ⟨vp_in_nI (by omega) (by decide), fun q => absurd rfl q, fun _ => ⟨fun _ => thru _ _ _ (fun z => hnin' (hinT.mpr z.2)), fun q => absurd rfl q⟩⟩
    refine h112 _ _ ⟨fun q => absurd q (by decide), fun _ => ?_⟩
    have hS1 : mo_SS μ1 ss := ⟨by rw [hf1.2 847 (by decide)]; exact hSS.1, hSS.2.1, by rw [hf1.1 55 (by decide)]; exact hSS.2.2⟩
    exact turn0 ss.length 0 T ss μ1 (by omega) hT1 hO1.1 hfa1 hS1 ⟨hpos, fun v k => by rw [List.take_zero, if_neg (fun z => absurd z.1 (show (v, k) ∉ skey [] from List.not_mem_nil))], rfl, fun i hi => ⟨rfl, rfl, by rw [if_neg (fun z => absurd z.1 (Nat.not_lt_zero i))]⟩⟩
  -- counts are looked at first
  have looks : ∀ m j, j + m = ss.length → (∀ i, i < j → 0 ≤ finv T cs d (ss.getD i (0, 0, 0)).1 (ss.getD i (0, 0, 0)).2.1 ∧ finv T cs d (ss.getD i (0, 0, 0)).1 (ss.getD i (0, 0, 0)).2.1 ≤ 9) → X2 (nI j) μ0 := by
    intro m
    induction m with
    | zero =>
      intro j hj hg
      refine h2 _ _ ?_
      rw [hSS.1]
      refine ⟨fun _ => good (fun c hc => ?_), fun q => absurd (nI_le (by omega) (by omega)) q⟩
      have hm : (c.1, c.2.1) ∈ skey ss := (hso.k _).mpr (List.mem_map.mpr ⟨c, hc, rfl⟩)
      obtain ⟨s, hs, e⟩ := List.mem_map.mp hm
      obtain ⟨i, hi, e2⟩ := List.getElem_of_mem hs
      injection e with a1 a2
      have := hg i (by omega)
      rw [gd_eq _ _ hi, e2, a1, a2] at this
      exact this
    | succ m ih =>
      intro j hj hg
      have hjl : j < ss.length := by omega
      obtain ⟨⟨k0, k1, k2, k3, k4⟩, c8, ck⟩ := hSS.2.2 j hjl
      rw [Nat.zero_add] at k0 k1 k2 k3 k4
      have hvw : G.vw (ss.getD j (0, 0, 0)).1 = false := by
        obtain ⟨c, hc, e1', _⟩ := hex j hjl
        have := (hcs.t c hc).2
        rw [e1'] at this
        exact this
      have hgb := hbd9 _ hvw (ss.getD j (0, 0, 0)).2.1
      have hcb' := hcb (ss.getD j (0, 0, 0)).1 (ss.getD j (0, 0, 0)).2.1
      have ix1 : nI (5 * j) + (1 : Int32) = nI (5 * j + 1) := by rw [show (1 : Int32) = nI 1 from rfl, nI_k]
      have ix2 : nI (5 * j) + (2 : Int32) = nI (5 * j + 2) := by rw [show (2 : Int32) = nI 2 from rfl, nI_k]
      have ix3 : nI (5 * j) + (3 : Int32) = nI (5 * j + 3) := by rw [show (3 : Int32) = nI 3 from rfl, nI_k]
      have ix4 : nI (5 * j) + (4 : Int32) = nI (5 * j + 4) := by rw [show (4 : Int32) = nI 4 from rfl, nI_k]
      have fin : X74 (nI j) (nI (5 * j)) (Int32.ofInt (al_get (T (ss.getD j (0, 0, 0)).1) (ss.getD j (0, 0, 0)).2.1)) μ0 := by
        refine h74 _ _ _ _ ?_
        rw [ix4, cl_nI (n := 5 * j + 4) (by omega), k4, ofI_add, hval j hjl]
        have bad : ¬ (0 ≤ finv T cs d (ss.getD j (0, 0, 0)).1 (ss.getD j (0, 0, 0)).2.1 ∧ finv T cs d (ss.getD j (0, 0, 0)).1 (ss.getD j (0, 0, 0)).2.1 ≤ 9) → Q (-2) μ0 := fun hno => hB (fun hbo => by
          obtain ⟨c, hc, e1', e2'⟩ := hex j hjl
          have := hbo c hc
          rw [e1', e2'] at this
          exact hno this) μ0 mo_fr_rf
        unfold finv at bad
        refine ⟨vp_in_nI (by omega) (by decide), fun q => bad ?_, fun q => ⟨fun q2 => ?_, fun q2 => bad ?_⟩⟩
        · rw [show (0 : Int32) = nI 0 from rfl, ofI_lt (by omega) (by omega) 0 (by decide)] at q
          omega
        · rw [nI_1]
          refine ih (j + 1) (by omega) (fun i hi => ?_)
          by_cases z : i = j
          · rw [z]
            rw [show (0 : Int32) = nI 0 from rfl, ofI_lt (by omega) (by omega) 0 (by decide)] at q
            rw [show (9 : Int32) = nI 9 from rfl, ofI_le (by omega) (by omega) 9 (by decide)] at q2
            unfold finv
            omega
          · exact hg i (by omega)
        · rw [show (9 : Int32) = nI 9 from rfl, ofI_le (by omega) (by omega) 9 (by decide)] at q2
          omega
      refine h2 _ _ ?_
      rw [hSS.1]
      refine ⟨fun q => absurd q (nI_ge (by omega) (by omega)), fun _ => ?_⟩
      rw [nI_5, ix1, ix2, ix3, cl_nI (n := 5 * j) (by omega), cl_nI (n := 5 * j + 1) (by omega), cl_nI (n := 5 * j + 2) (by omega), cl_nI (n := 5 * j + 3) (by omega), k0, k1, k2, k3]
      refine ⟨vp_in_nI (by omega) (by decide), vp_in_nI (by omega) (by decide), vp_in_nI (by omega) (by decide), vp_in_nI (by omega) (by decide), rdc hT c8 ck _ (fun hin => ?_) (fun hnin => ?_)⟩
      · obtain ⟨R1, N1, hW1⟩ := hT.w
        obtain ⟨g1, g2, g3⟩ := get_cnt hW1 c8 hin
        refine ⟨fun _ => ⟨vp_in_nI (by omega) (by decide), ?_⟩, fun q => absurd q (ov_m1 (v := al_b (T (ss.getD j (0, 0, 0)).1) (ss.getD j (0, 0, 0)).2.1) (by omega))⟩
        rw [k0, show (40 : Int32) = nI 40 from rfl, pk_mul, nI_k, cl_nI (n := 40 * (ss.getD j (0, 0, 0)).1 + al_b (T (ss.getD j (0, 0, 0)).1) (ss.getD j (0, 0, 0)).2.1) (by omega), g3]
        exact ⟨vp_in_nI g1 (by decide), fin⟩
      · refine ⟨fun q => absurd rfl q, fun _ => ?_⟩
        have := fin
        rw [al_0 hnin] at this
        exact this
  exact looks ss.length 0 (by omega) (fun i hi => absurd hi (Nat.not_lt_zero i))
