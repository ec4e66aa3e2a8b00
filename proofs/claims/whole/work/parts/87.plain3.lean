theorem qu_same {X : ex_T} {σ σ' : z_S} {q : List (Nat × Nat)} (h : qu_L X σ q) (h1 : z_I σ' 104 X.a = z_I σ 104 X.a) (h2 : ∀ t a, t < 12 → z_A σ' t a = z_A σ t a) : qu_L X σ' q := ⟨by rw [h1]; exact h.1, h.2.1, fun i hi => by rw [h2 4 _ (by omega), h2 5 _ (by omega)]; exact h.2.2 i hi⟩
theorem cpos_set {T : Nat → al_T} (hc : cpos T) {h : Nat} {l : al_T} (hl : ∀ p ∈ l, 0 < p.2 ∧ p.2 ≤ 100000) : cpos (tset T h l) := fun v hv p hp => by
  unfold tset at hp
  split at hp
  · exact hl p hp
  · exact hc v hv p hp
theorem rw_L_I {X : ex_T} {σ σ' : z_S} {T : Nat → al_T} (h : rw_L X σ T) (f : ef X σ σ') (h1 : ∀ a, z_I σ' 402 a = z_I σ 402 a) (h2 : ∀ a, z_A σ' 12 a = z_A σ 12 a) (h3 : ∀ a, z_A σ' 13 a = z_A σ 13 a) : rw_L X σ' T := ⟨rw_T_ef h.1 f, fun i hi => by
  obtain ⟨b1, b2, b3, b4, b5, b6⟩ := h.2 i hi
  exact ⟨ro_T_ef b1 f, by rw [h1]; exact b2, b3, b4, b5, fun j hj => by rw [h2, h3]; exact b6 j hj⟩⟩
theorem al_0 {l : al_T} {key : Nat} (h : ¬ al_in l key) : al_get l key = 0 := by
  induction l with
  | nil => rfl
  | cons p r ih =>
    unfold al_get
    rw [if_neg (fun z => h ⟨p, List.mem_cons_self, z⟩)]
    exact ih (fun ⟨q, hq, e⟩ => h ⟨q, List.mem_cons_of_mem _ hq, e⟩)
theorem tot_le {T : Nat → al_T} (h : ∀ v, v < 8 → (T v).length ≤ 40) {a : Nat} (ha : a < 8) (hl : (T a).length ≤ 39) : tot T ≤ 319 := by
  have h0 := h 0 (by omega)
  have h1 := h 1 (by omega)
  have h2 := h 2 (by omega)
  have h3 := h 3 (by omega)
  have h4 := h 4 (by omega)
  have h5 := h 5 (by omega)
  have h6 := h 6 (by omega)
  have h7 := h 7 (by omega)
  rcases (show a = 0 ∨ a = 1 ∨ a = 2 ∨ a = 3 ∨ a = 4 ∨ a = 5 ∨ a = 6 ∨ a = 7 by omega) with rfl | rfl | rfl | rfl | rfl | rfl | rfl | rfl <;> unfold tot <;> omega
theorem p_found {X : ex_T} {Y : lyr} {σ0 : z_S} {ro hb n : Nat} {r : ru_T} (hr : ru_ok r) (hL : Y.lay r.h = Y.L) (hn : n = Y.A r.h) (hH : hd_L σ0 ro r.h r.ts false n hb) {g : gs_T} {σ : z_S} {e : ev_T} (hJ : pJ X Y σ0 ro g σ) (hfl : g.fl = false) (hbn : ∀ k, vin3 r.ts k → e k ≠ none) (hno : ¬ hk3 e r.ts ∈ ks g.T r.h) (hsnd : ∀ S, CL Y S → hk3 e r.ts ∈ S r.h) (he : eV X σ e) (P : z_S → Prop) (hP : ∀ g' σ', pJ X Y σ0 ro g' σ' → eV X σ' e → le_g r.h g g' → hk3 e r.ts ∈ ks g'.T r.h → P σ') : kp_En_found X.a σ P := by
  obtain ⟨hS, hf, hRR, h0110, hI⟩ := hJ
  have h110 : z_R σ 110 X.a = some ro := by rw [hRR]; exact h0110
  have hH' := hd_L_ef hH hf
  have hA := hH'.at'
  have hh := hr.hh
  have h40 := hI.c40 hfl r.h hh
  obtain ⟨hI', hle⟩ := Iv_add hr hL hn hA.rs hI hfl he.ok hno hsnd
  have hno' : ¬ al_in (g.T r.h) (hk3 e r.ts) := fun z => hno (ks_in.mpr z)
  have hin : hk3 e r.ts ∈ ks (tset g.T r.h (al_add (g.T r.h) (hk3 e r.ts) 1)) r.h := by
    rw [ks_in]
    unfold tset
    rw [if_pos rfl]
    exact al_add_in.mpr (Or.inr rfl)
  have hcp : cpos (tset g.T r.h (al_add (g.T r.h) (hk3 e r.ts) 1)) := cpos_set hS.cp (fun p hp => by
    rcases al_add_one hno' p hp with h | h
    · exact hS.cp r.h hh p h
    · rw [h]; exact ⟨Int.one_pos, show (1 : Int) ≤ 100000 by decide⟩)
  refine en_found0 hS h110 hH' he hbn (by omega) P (fun σ' hrw' hef' hI108 hR' hA' h108 => ?_)
  rw [if_neg (by decide)]
  have hE' := en_T_ef hS.en hef'
  have h108' : z_I σ' 108 X.a = if decide (40 < (al_add (g.T r.h) (hk3 e r.ts) 1).length) then 1 else 0 := by
    rw [h108, al_0 hno']
    congr 1
    simp
  have he' : eV X σ' e := ⟨he.ok, he.hi, fun k hk => by rw [hI108 105 (by decide) (by decide)]; exact he.kn k hk, fun k v hkv => by rw [hA' 3 _ (by omega)]; exact he.vs k v hkv⟩
  have hq := hS.qu rfl hfl
  have hq' := qu_same hq (hI108 104 (by decide) (by decide)) hA'
  refine en_enq hE' hq' r.h (hk3 e r.ts) P (fun h320 => ?_) (fun h320 F G hqu => ?_)
  · have hfull : decide (40 < (al_add (g.T r.h) (hk3 e r.ts) 1).length) = true := by
      cases hd : decide (40 < (al_add (g.T r.h) (hk3 e r.ts) 1).length) with
      | true => rfl
      | false =>
        have h1 := of_decide_eq_false hd
        have h2 := al_add_len (g.T r.h) (hk3 e r.ts) 1 (hI.srt r.h).1 hno'
        have h3 := tot_le (hI.c40 hfl) hh (by omega)
        have h4 := (hI.qq hfl).2
        omega
    refine hP ⟨_, _, _⟩ σ' ⟨⟨hE', hrw', by rw [hR']; exact hS.hw, by rw [hI108 106 (by decide) (by decide)]; exact hS.gl, h108', hcp, fun _ z => ?_⟩, ef_tr hf hef', fun f => by rw [hR']; exact hRR f, h0110, hI'⟩ he' hle hin
    have z : decide (40 < (al_add (g.T r.h) (hk3 e r.ts) 1).length) = false := z
    rw [hfull] at z
    cases z
  · have hef2 : ef X σ' (z_sI (z_sA (z_sA σ' 4 X.q F) 5 X.k G) 104 X.a (nI (g.q.length + 1))) := ef_enq F G _
    refine hP ⟨_, _, _⟩ _ ⟨⟨en_T_ef hE' hef2, rw_L_I hrw' hef2 (fun a => ?_) (fun a => ?_) (fun a => ?_), ?_, ?_, ?_, hcp, fun _ _ => hqu⟩, ef_tr hf (ef_tr hef' hef2), fun f => ?_, h0110, hI'⟩ ?_ hle hin
    · rw [z_I_sI, if_neg (fun z => absurd z.1 (by decide))]; rfl
    · rw [z_A_sI, z_A_sA, if_neg (fun z => absurd z.1 (by decide)), z_A_sA, if_neg (fun z => absurd z.1 (by decide))]
    · rw [z_A_sI, z_A_sA, if_neg (fun z => absurd z.1 (by decide)), z_A_sA, if_neg (fun z => absurd z.1 (by decide))]
    · show z_R σ' 111 X.a = _
      rw [hR']; exact hS.hw
    · rw [z_I_sI, if_neg (fun z => absurd z.1 (by decide))]
      show z_I σ' 106 X.a = _
      rw [hI108 106 (by decide) (by decide)]; exact hS.gl
    · rw [z_I_sI, if_neg (fun z => absurd z.1 (by decide))]
      exact h108'
    · show z_R σ' f X.a = _
      rw [hR']; exact hRR f
    · refine ⟨he'.ok, he'.hi, fun k hk => ?_, fun k v hkv => ?_⟩
      · rw [z_I_sI, if_neg (fun z => absurd z.1 (by decide))]
        exact he'.kn k hk
      · rw [z_A_sI, z_A_sA, if_neg (fun z => absurd z.1 (by decide)), z_A_sA, if_neg (fun z => absurd z.1 (by decide))]
        exact he'.vs k v hkv
theorem Iv_low {Y : lyr} {r : ru_T} (hL : Y.lay r.h = Y.L) (hly : ly_ok Y.lay r) {as : List lit_T} (ha : arr r as) {l : lit_T} (hl : l ∈ as) (h1 : l.1 = 1) {g : gs_T} (hI : IV Y g) : ks g.T l.2.1 = ks Y.T0 l.2.1 := by
  unfold ks
  rw [hI.lo _ (by have := (hly l ((ha.ts l).mp hl)).2 h1; omega)]
theorem p_sv {X : ex_T} {Y : lyr} {σ0 : z_S} {ro bb hb n : Nat} {bo : Nat → Nat} {r : ru_T} {as : List lit_T} (hr : ru_ok r) (hc : r.c = false) (hL : Y.lay r.h = Y.L) (hly : ly_ok Y.lay r) (ha : arr r as) (hB : bd_L σ0 ro as Y.A bb bo) (hH : hd_L σ0 ro r.h r.ts false n hb) (hn : n = Y.A r.h) : sv_H X ro bb as Y.A bo (pJ X Y σ0 ro) (fun g => g.T) (fun g => g.fl) (pOk Y r as) (pPo Y r as) (pLP Y r as) (fun _ e g => pNw r e g) := by
  have hneg : ∀ {g g' : gs_T}, IV Y g → IV Y g' → ∀ l ∈ as, l.1 = 1 → ∀ k, k ∈ ks g.T l.2.1 ↔ k ∈ ks g'.T l.2.1 := fun h h' l hl h1 k => by rw [Iv_low hL hly ha hl h1 h, Iv_low hL hly ha hl h1 h']
  have htst : ∀ {g : gs_T} {S : Nat → List Nat} {e : ev_T} {l : lit_T}, IV Y g → CL Y S → l ∈ as → l.1 ≠ 0 → tst S e l = tst (ks g.T) e l := fun {g S e l} h hS hl h0 => by
    unfold tst
    by_cases h1 : l.1 = 1
    · rw [if_pos h1, if_pos h1, decide_eq_decide, Iv_low hL hly ha hl h1 h]
      have := (hly l ((ha.ts l).mp hl)).2 h1
      exact not_congr (hS.lo _ (by omega) _)
    · rw [if_neg h1, if_neg h1]
  refine ⟨?_, ?_, ?_, ?_, ?_, ?_, ?_, ?_, ?_, ?_, ?_, ?_, ?_⟩
  · intro g σ hJ
    obtain ⟨hS, hf, hRR, h110, hI⟩ := hJ
    exact ⟨hS.en, hS.rw, bd_L_ef hB hf, by rw [hRR]; exact h110, hS.hw, hS.f⟩
  · intro g σ hJ
    exact ⟨hJ.1.cp, hJ.2.2.2.2.kr⟩
  · intro g σ σ' hJ hv
    exact ⟨es_vf hJ.1 hv, ef_tr hJ.2.1 (vf_ef hv), fun f => by rw [vf_R hv]; exact hJ.2.2.1 f, hJ.2.2.2⟩
  · intro g σ step e P hJ hfl hOk hs he h0 h1
    refine en_isNN hJ.1 (by rw [hJ.2.2.1]; exact hJ.2.2.2.1) (hd_L_ef hH hJ.2.1) he (by decide) P (fun z => h0 (fun y => z ⟨rfl, rfl, y⟩)) (fun _ _ hb hk => h1 ⟨le_g_rf _ _, hOk.i, Or.inr (fun x hx => ?_)⟩)
    rw [hk3_ext (sols_ext hx) hb]
    exact hk
  · intro g σ e P hJ hfl hOk hNw he hP
    have hbn : ∀ k, vin3 r.ts k → e k ≠ none := fun k hk => by
      rcases hOk.b k hk with h | ⟨l, hl, _⟩
      · exact h
      · rw [List.drop_length] at hl; exact absurd hl List.not_mem_nil
    have hno : ¬ hk3 e r.ts ∈ ks g.T r.h := fun z => hNw ⟨hbn, z⟩
    refine p_found hr hL hn hH hJ hfl hbn hno (fun S hS => hOk.c S hS e (by rw [List.drop_length]; simp [sols])) he P (fun g' σ' hJ' he' hle hin => hP g' σ' hJ' he' ⟨hle, hJ'.2.2.2.2, Or.inr (fun x hx => ?_)⟩)
    rw [List.drop_length] at hx
    have : x = e := by simpa [sols] using hx
    rw [this]; exact hin
  · intro step e g hfl hOk
    exact ⟨le_g_rf _ _, hOk.i, Or.inl hfl⟩
  · intro step e g hOk hlt h0 k hk
    have ht := hOk.t
    rw [drop_cons as hlt] at ht
    unfold tests_ok at ht
    rw [if_neg h0] at ht
    exact ht.1 k hk
  · intro step e g hOk hlt h0 htt
    have hd := drop_cons as hlt
    refine ⟨⟨?_, fun k hk => ?_, fun S hS x hx => hOk.c S hS x ?_, hOk.i⟩, fun g' hPo => ⟨hPo.1, hPo.2.1, hPo.2.2.imp id (fun h x hx => h x ?_)⟩⟩
    · have ht := hOk.t
      rw [hd] at ht
      unfold tests_ok at ht
      rw [if_neg h0] at ht
      exact ht.2
    · rcases hOk.b k hk with h | ⟨l, hl, h1, h2⟩
      · exact Or.inl h
      · rw [hd] at hl
        rcases List.mem_cons.mp hl with rfl | hl
        · exact absurd h1 h0
        · exact Or.inr ⟨l, hl, h1, h2⟩
    · rw [hd]
      unfold sols
      rw [if_neg h0, htst hOk.i hS (gd_mem hlt) h0, htt, if_pos rfl]
      exact hx
    · rw [hd] at hx
      unfold sols at hx
      rw [if_neg h0, htt, if_pos rfl] at hx
      exact hx
  · intro step e g hOk hlt h0 htt
    refine ⟨le_g_rf _ _, hOk.i, Or.inr (fun x hx => ?_)⟩
    rw [drop_cons as hlt] at hx
    unfold sols at hx
    rw [if_neg h0, htt, if_neg (by decide)] at hx
    exact absurd hx List.not_mem_nil
  · intro step e g at' hOk hlt h0 hat hu
    refine ⟨le_g_rf _ _, hOk.i, Or.inr (fun key hkey hpos e' hu' x hx => ?_)⟩
    exfalso
    obtain ⟨p1, p2⟩ := al_pos (hOk.i.srt _).1 (ks_in.mp hkey)
    have hlt' : al_b (g.T (as.getD step d_lit).2.1) key < at' := by
      rcases hpos with hpos | hpos
      · omega
      · by_cases z : al_b (g.T (as.getD step d_lit).2.1) key < at'
        · exact z
        · have := al_gd_le (hOk.i.srt _).1 (i := at') (j := al_b (g.T (as.getD step d_lit).2.1) key) (by omega) p1
          omega
    have := hu _ hlt'
    rw [p2, hu'] at this
    cases this
  · intro step e g0 g at' hLP hOk hlt h0 hat hu
    exact p_step hlt hLP (le_g_rf _ _) hLP.2.1 hat (Or.inr (fun e' hu' => by rw [hu] at hu'; cases hu')) id
  · intro step e g0 g at' e' hLP hOk hlt h0 hat hu
    have hd := drop_cons as hlt
    have hkey : ((g.T (as.getD step d_lit).2.1).getD at' (0, 0)).1 ∈ ks g.T (as.getD step d_lit).2.1 := by
      rw [gd_eq _ _ hat]
      exact List.mem_map.mpr ⟨_, List.getElem_mem hat, rfl⟩
    refine ⟨⟨?_, fun k hk => ?_, fun S hS x hx => hOk.c S hS x ?_, hLP.2.1⟩, fun g' hPo => ?_⟩
    · have ht := hOk.t
      rw [hd] at ht
      unfold tests_ok at ht
      rw [if_pos h0] at ht
      refine tests_ok_mono (fun k hk => ?_) ht
      rcases hk with hk | hk
      · cases he : e k with
        | none => exact absurd he hk
        | some v => rw [un3_ext hu k v he]; exact fun z => by cases z
      · exact un3_bound hu hk
    · rcases hOk.b k hk with h | ⟨l, hl, h1, h2⟩
      · cases he : e k with
        | none => exact absurd he h
        | some v => exact Or.inl (by rw [un3_ext hu k v he]; exact fun z => by cases z)
      · rw [hd] at hl
        rcases List.mem_cons.mp hl with rfl | hl
        · exact Or.inl (un3_bound hu h2)
        · exact Or.inr ⟨l, hl, h1, h2⟩
    · rw [hd]
      unfold sols
      rw [if_pos h0]
      refine List.mem_flatMap.mpr ⟨_, hLP.2.1.snd S hS _ _ hkey, ?_⟩
      rw [hu]
      exact hx
    · refine p_step hlt hLP hPo.1 hPo.2.1 hat (hPo.2.2.imp id (fun h e2 hu2 x hx => ?_)) (fun hgf => ?_)
      · rw [hu] at hu2
        cases hu2
        refine h x (sols_mono (fun l hl _ k hk => hLP.1.s _ _ hk) (fun l hl h1 k => hneg hOk.i hLP.2.1 l (drop_mem hl) h1 k) hx)
      · cases hfl' : g'.fl with
        | true => rfl
        | false =>
          obtain ⟨v, hv, _, hlen⟩ := hLP.2.1.fu hgf
          have h40 := hPo.2.1.c40 hfl' v hv
          have hb := hPo.1.b v 1000000000
          have hall : al_b (g.T v) 1000000000 = (g.T v).length := by
            refine al_b_eq (hLP.2.1.srt v).1 (Nat.le_refl _) (fun j hj => al_k_gd (hLP.2.1.srt v).2 hj) (fun j h1 h2 => by omega)
          have := al_b_le (g'.T v) 1000000000
          omega
  · intro step e g0 g at' hLP hOk hlt h0 hu
    refine ⟨hLP.1, hLP.2.1, hLP.2.2.imp id (fun h x hx => ?_)⟩
    rw [drop_cons as hlt] at hx
    unfold sols at hx
    rw [if_pos h0] at hx
    obtain ⟨key, hk, hx⟩ := List.mem_flatMap.mp hx
    cases hu' : un3 e (as.getD step d_lit).2.2 key with
    | none => rw [hu'] at hx; exact absurd hx List.not_mem_nil
    | some e' =>
      rw [hu'] at hx
      obtain ⟨p1, p2⟩ := al_pos (hLP.2.1.srt _).1 (ks_in.mp (hLP.1.s _ _ hk))
      have hlt' : al_b (g.T (as.getD step d_lit).2.1) key < at' := by
        by_cases z : al_b (g.T (as.getD step d_lit).2.1) key < at'
        · exact z
        · have := hu _ (by omega) p1
          rw [p2, hu'] at this
          cases this
      refine h key hk ?_ e' hu' x hx
      by_cases z : (g.T (as.getD step d_lit).2.1).length ≤ at'
      · exact Or.inl z
      · have := al_pos_lt (hLP.2.1.srt _).1 (show at' < (g.T (as.getD step d_lit).2.1).length by omega) hlt'
        exact Or.inr (by omega)
