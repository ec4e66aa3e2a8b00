theorem gad_cnt {n M : Nat} : ∀ {l : List (Nat × Nat)} {g : Nat}, (∀ p ∈ l, p.2 + (n + 1) ≤ M) → n + 1 ≤ M → ∀ p ∈ gad l g, p.2 + n ≤ M
  | [], g, _, hM, p, hp => by
    simp only [gad, List.mem_singleton] at hp
    rw [hp]
    dsimp only
    omega
  | q :: l, g, h, hM, p, hp => by
    simp only [gad] at hp
    split at hp
    · rcases List.mem_cons.mp hp with rfl | hp
      · have := h q List.mem_cons_self
        dsimp only
        omega
      · have := h p (List.mem_cons_of_mem _ hp)
        omega
    · rcases List.mem_cons.mp hp with rfl | hp
      · have := h p List.mem_cons_self
        omega
      · exact gad_cnt (fun p hp => h p (List.mem_cons_of_mem _ hp)) hM p hp
set_option maxHeartbeats 1000000 in
theorem mo_count {μ0 : mo_U} {R : mr_R} {N : Nat → Nat} {T : Nat → al_T} (hW : mo_W μ0 R N T) {r h mk : Nat} {hts : tm_T} {ls : List lit_T} (hls : mo_lits μ0 r ls) (h3 : (ps_of ls).length ≤ 3) (hsafe : lits_safe ls) (hh : mo_head μ0 r h hts) (hmk : mk < 3) (hu : ∀ i, i < 3 → (tmi hts i = 99 ↔ i = mk)) (hm : ∀ i, i < 3 → tmi hts i < 26 ∨ 100 ≤ tmi hts i ∨ tmi hts i = 99) (hz : hts.2.2 = 99 ∨ hts.2.2 = 100) (hhs : ∀ k, vin3 hts k → ∃ p ∈ ps_of ls, vin3 p.2.2 k) (hT0 : T h = []) (h64 : (sols (mr_S R N) (ps_of ls) ev0).length ≤ 64000)
    {G : List (Nat × Nat)} (hG : grp (((sols (mr_S R N) (ps_of ls) ev0).filter (alltests (mr_S R N) ls)).map (fun x => hk3 x hts)) = G) (Q : Int32 → mo_U → Prop)
    (hQF : (40 < G.length ∨ ∃ p ∈ G, 999 < p.2) → ∀ μ' R' N', mo_M μ' R' N' → mo_fr [40, 41, 42, 50, 51, 52, 53, 54] [840, 841, 842, 845] μ0 μ' → Q 0 μ')
    (hQ1 : G.length ≤ 40 → (∀ p ∈ G, p.2 ≤ 999) → ∀ (μ' : mo_U) (R' : mr_R) (N' : Nat → Nat), mo_W μ' R' N' (fun r' => if r' = h then (G.map (ck mk)).foldl (fun l k => al_add l k 1) [] else T r') → mo_fr [40, 41, 42, 50, 51, 52, 53, 54] [840, 841, 842, 845] μ0 μ' → Q 1 μ') : mp_countRule (nI r) μ0 Q := by
  have hh0 := hh
  obtain ⟨hr17, h5, hlen, hlit⟩ := hls
  have hr17' : r < 17 := hr17
  obtain ⟨hh26, hh8, t0, t1, t2, hhok⟩ := hh
  have hGnd : (G.map Prod.fst).Nodup := by rw [← hG]; exact grp_nd _ [] List.nodup_nil
  have hok0 : ev_ok ev0 := fun k v q => by cases q
  intro X16 X42 X159 X178 X233 X254 X265 h16 h42 h159 h178 h233 h254 h265
  -- the rows go in
  have hgz : (∀ p ∈ G, gz mk p.1) → ∀ (m v : Nat) (μ1 : mo_U) (R1 : mr_R) (N1 : Nat → Nat), v + m = G.length → mo_C μ1 G → (∀ i, i < v → (G.getD i (0, 0)).2 ≤ 999) → mo_W μ1 R1 N1 (fun r' => if r' = h then ((G.take v).map (ck mk)).foldl (fun l k => al_add l k 1) [] else T r') → mo_fr [40, 41, 42, 50, 51, 52, 53, 54] [840, 841, 842, 845] μ0 μ1 → X178 (nI mk) 1 (nI v) μ1 := by
    intro hz9 m
    induction m with
    | zero =>
      intro v μ1 R1 N1 hv hC hle hw hfr
      have hvl : v = G.length := by omega
      subst hvl
      rw [List.take_length] at hw
      have := hQ1 hC.2.1 (fun p hp => by
        obtain ⟨j, hj, rfl⟩ := List.getElem_of_mem hp
        have := hle j hj
        rw [gd_eq _ _ hj] at this
        exact this) μ1 R1 N1 hw hfr
      exact h178 _ _ _ _ ⟨fun _ => ⟨Or.inr rfl, this⟩, fun q => absurd (by rw [hC.1]; exact nI_le (Nat.le_refl _) (by have := hC.2.1; omega)) q⟩
    | succ m ih =>
      intro v μ1 R1 N1 hv hC hle hw hfr
      have hC0 := hC
      obtain ⟨c1, c2, c3⟩ := hC
      have hvG : v < G.length := by omega
      obtain ⟨g0, g1, g2, g3, g4, g5⟩ := c3 v hvG
      have hmem : G.getD v (0, 0) ∈ G := by rw [gd_eq _ _ hvG]; exact List.getElem_mem hvG
      have hgv := hz9 _ hmem
      refine h178 _ _ _ _ ⟨fun q => ?_, fun _ => ⟨fun q => absurd q (by decide), fun _ => ?_⟩⟩
      · rw [c1, nI_leI (by omega) (by omega)] at q
        omega
      · rw [cl_nI (by omega), g4]
        refine ⟨vp_in_nI (by omega) (by omega), fun q => ?_, fun q => ?_⟩
        · rw [show (999 : Int32) = nI 999 from rfl, nI_ltI (by omega) (by omega)] at q
          have hq := hQF (Or.inr ⟨_, hmem, q⟩) μ1 _ _ hw.1 hfr
          exact h178 _ _ _ _ ⟨fun _ => ⟨Or.inl rfl, hq⟩, fun _ => ⟨fun _ => ⟨Or.inl rfl, hq⟩, fun q => absurd rfl q⟩⟩
        · rw [show (999 : Int32) = nI 999 from rfl, nI_ltI (by omega) (by omega)] at q
          have hn9 : (G.getD v (0, 0)).2 ≤ 999 := by omega
          have hh26' : μ1.2 26 r = nI h := by rw [hfr.1 26 (by simp)]; exact hh26
          have e0 : (3 : Int32) * nI v = nI (3 * v) := by rw [show (3 : Int32) = nI 3 from rfl, pk_mul]
          have e1 : nI (3 * v) + (1 : Int32) = nI (3 * v + 1) := nI_1 _
          have hle2 : ∀ i, i < v + 1 → (G.getD i (0, 0)).2 ≤ 999 := fun i hi => by
            rcases Nat.lt_or_ge i v with g | g
            · exact hle i g
            · have : i = v := by omega
              subst this
              exact hn9
          have hlv : (G.take v).length = v := by rw [List.length_take]; omega
          have hnd1 : ((G.take (v + 1)).map (ck mk)).Nodup := by
            refine ck_nd hmk ?_ (fun p hp => ?_)
            · rw [List.map_take]
              exact hGnd.sublist (List.take_sublist _ _)
            · obtain ⟨j, hj, rfl⟩ := List.getElem_of_mem hp
              rw [List.length_take] at hj
              rw [List.getElem_take]
              refine ⟨hz9 _ (List.getElem_mem _), ?_⟩
              have := hle2 j (by omega)
              rw [gd_eq _ _ (show j < G.length by omega)] at this
              exact this
          rw [List.take_succ_eq_append_getElem hvG, List.map_append, List.nodup_append] at hnd1
          have hno : ¬ al_in (((G.take v).map (ck mk)).foldl (fun l k => al_add l k 1) []) (ck mk (G.getD v (0, 0))) := by
            intro q
            rcases fold_no _ _ q with ⟨p, hp, -⟩ | q
            · cases hp
            · exact hnd1.2.2 _ q (ck mk (G.getD v (0, 0))) (by rw [gd_eq _ _ hvG]; simp) rfl
          have hlenv := (fold_add (l := []) (ks := (G.take v).map (ck mk)) List.Pairwise.nil (fun k _ q => by obtain ⟨p, hp, -⟩ := q; cases hp) hnd1.1).2
          have fin : X265 (nI mk) (nI v) (nI h) (nI (if mk = 0 then (G.getD v (0, 0)).2 else (G.getD v (0, 0)).1 / 1000000)) (nI (if mk = 1 then (G.getD v (0, 0)).2 else (G.getD v (0, 0)).1 / 1000 % 1000)) (nI (if mk = 2 then (G.getD v (0, 0)).2 else 0)) μ1 := by
            refine h265 _ _ _ _ _ _ _ ?_
            have hpk := ck_pk (n := (G.getD v (0, 0)).2) hmk hgv
            have hno9 : ¬ al_in ((fun r' => if r' = h then ((G.take v).map (ck mk)).foldl (fun l k => al_add l k 1) [] else T r') h) (pk3 (if mk = 0 then (G.getD v (0, 0)).2 else (G.getD v (0, 0)).1 / 1000000) (if mk = 1 then (G.getD v (0, 0)).2 else (G.getD v (0, 0)).1 / 1000 % 1000) (if mk = 2 then (G.getD v (0, 0)).2 else 0)) := by
              rw [hpk]
              dsimp only
              rw [if_pos rfl]
              exact hno
            refine mo_insertL (cnt := 1) hw hh8 (by split <;> omega) (by split <;> omega) (by split <;> omega) hno9 _ (fun hf => ?_) (fun _ μ2 R2 N2 hw2 hfr2 => ⟨fun q => absurd q (by decide), fun _ => ?_⟩)
            · try dsimp only at hf
              rw [if_pos rfl, hlenv, List.length_map, hlv] at hf
              simp at hf
              omega
            · rw [nI_1]
              refine ih (v + 1) μ2 R2 N2 (by omega) (mo_C_fr hC0 hfr2 (by simp) (by simp) (by simp)) hle2 ?_ (mo_fr_tr hfr (mo_fr_mono hfr2 (by simp) (by simp)))
              rw [hpk] at hw2
              have ef : (fun r' => if r' = h then ((G.take (v + 1)).map (ck mk)).foldl (fun l k => al_add l k 1) [] else T r') = (fun r' => if r' = h then al_add ((fun r' => if r' = h then ((G.take v).map (ck mk)).foldl (fun l k => al_add l k 1) [] else T r') h) (ck mk (G.getD v (0, 0))) 1 else (fun r' => if r' = h then ((G.take v).map (ck mk)).foldl (fun l k => al_add l k 1) [] else T r') r') := by
                funext r'
                dsimp only
                by_cases e : r' = h
                · rw [if_pos e, if_pos e, if_pos rfl, List.take_succ_eq_append_getElem hvG, List.map_append, List.foldl_append, gd_eq _ _ hvG]
                  rfl
                · rw [if_neg e, if_neg e, if_neg e]
              rw [ef]
              exact hw2
          rw [cl_nI (by omega), hh26', e0, cl_nI (by omega), g2]
          have s254 : ∀ A : Int32, A = nI (if mk = 0 then (G.getD v (0, 0)).2 else (G.getD v (0, 0)).1 / 1000000) → ∀ B : Int32, B = nI (if mk = 1 then (G.getD v (0, 0)).2 else (G.getD v (0, 0)).1 / 1000 % 1000) → X254 (nI mk) (nI v) (nI (G.getD v (0, 0)).2) (nI h) A B μ1 := by
            rintro A rfl B rfl
            refine h254 _ _ _ _ _ _ _ ⟨fun q => ?_, fun q => ?_⟩
            · rw [show (2 : Int32) = nI 2 from rfl, nI_eq (by omega) (by omega)] at q
              rw [if_neg q] at fin
              exact fin
            · rw [show (2 : Int32) = nI 2 from rfl, nI_eq (by omega) (by omega)] at q
              rw [if_pos q] at fin
              exact fin
          have s233 : ∀ A : Int32, A = nI (if mk = 0 then (G.getD v (0, 0)).2 else (G.getD v (0, 0)).1 / 1000000) → X233 (nI mk) (nI v) (nI (G.getD v (0, 0)).2) (nI h) A μ1 := by
            rintro A rfl
            refine h233 _ _ _ _ _ _ ⟨fun q => ?_, fun q => ?_⟩
            · rw [show (1 : Int32) = nI 1 from rfl, nI_eq (by omega) (by omega)] at q
              rw [e0, e1, cl_nI (by omega), g3]
              exact ⟨vp_in_nI (by omega) (by omega), s254 _ rfl _ (by rw [if_neg q])⟩
            · rw [show (1 : Int32) = nI 1 from rfl, nI_eq (by omega) (by omega)] at q
              exact s254 _ rfl _ (by rw [if_pos q])
          refine ⟨vp_in_nI hr17' (by omega), fun q => ⟨vp_in_nI (by omega) (by omega), ?_⟩, fun q => ?_⟩
          · rw [show (0 : Int32) = nI 0 from rfl, nI_eq (by omega) (by omega)] at q
            exact s233 _ (by rw [if_neg q])
          · rw [show (0 : Int32) = nI 0 from rfl, nI_eq (by omega) (by omega)] at q
            exact s233 _ (by rw [if_pos q])
  have main : ∀ (rest : List ev_T) (gs : List (Nat × Nat)) (μ1 : mo_U) (pix : Nat → Nat) (k : Nat) (C : Nat → Nat) (E : Nat → ev_T), it_S μ1 R N r ls (ps_of ls) pix → it_D μ1 N (ps_of ls) k C E → (remK (mr_S R N) (ps_of ls) E C k).filter (alltests (mr_S R N) ls) = rest → (∀ y ∈ rest, y ∈ sols (mr_S R N) (ps_of ls) ev0) → rest.length ≤ 64000 → mo_C μ1 gs → (gs.map Prod.fst).Nodup → (∀ p ∈ gs, gz mk p.1) → (∀ p ∈ gs, p.2 + rest.length ≤ 100000) → (rest.map (fun x => hk3 x hts)).foldl gad gs = G → mo_fr [50, 51, 52, 53, 54] [840, 841, 842, 845] μ0 μ1 → X16 (nI mk) μ1 := by
    intro rest
    induction rest with
    | nil =>
      intro gs μ1 pix k C E hS hD hrem _ _ hC hnd hgzs _ hG9 hfr4
      refine h16 _ _ (mo_next _ hS hD (fun _ μ2 hfr2 => ⟨fun _ => ?_, fun q => absurd rfl q⟩) (fun x rest hx => ?_))
      · have e : gs = G := hG9
        subst e
        refine hgz hgzs gs.length 0 μ2 R N (by omega) (mo_C_fr hC hfr2 (by simp) (by simp) (by simp)) (fun i hi => by omega) ?_ (mo_fr_tr (mo_fr_mono hfr4 (by simp) (by simp)) (mo_fr_mono hfr2 (by simp) (by simp)))
        have hw2 : mo_W μ2 R N T := mo_W_fr (mo_W_fr hW hfr4 (by simp) (by simp) (by simp)) hfr2 (by simp) (by simp) (by simp)
        have ef : (fun r' => if r' = h then ((gs.take 0).map (ck mk)).foldl (fun l k => al_add l k 1) [] else T r') = T := by
          funext r'
          by_cases e : r' = h
          · rw [if_pos e, e, hT0]
            rfl
          · rw [if_neg e]
        rw [ef]
        exact hw2
      · rw [hrem] at hx
        cases hx
    | cons x rest ih =>
      intro gs μ1 pix k C E hS hD hrem hall h64k hC hnd hgzs hbd hG9 hfr4
      refine h16 _ _ (mo_next _ hS hD (fun hx => ?_) (fun x' rest' hx μ2 C2 E2 hfr2 hD2 hx2 hrem2 => ⟨fun q => absurd q (by decide), fun _ => ?_⟩))
      · rw [hrem] at hx
        cases hx
      · rw [hrem] at hx
        cases hx
        have hS2 := it_S_fr hS hfr2
        have hfrB := mo_fr_tr hfr4 (mo_fr_mono (ts' := [50, 51, 52, 53, 54]) (fs' := [840, 841, 842, 845]) hfr2 (by simp) (by simp))
        have hC2 := mo_C_fr hC hfr2 (by simp) (by simp) (by simp)
        have e27 : μ2.2 27 = μ0.2 27 := hfrB.1 27 (by simp)
        have hxs := hall x List.mem_cons_self
        have hxb : ∀ t, (t = hts.1 ∨ t = hts.2.1 ∨ t = hts.2.2) → t < 26 → x t ≠ none := by
          intro t ht t26
          obtain ⟨p, hp, hv⟩ := hhs t ⟨t26, by rcases ht with e | e | e <;> simp [e]⟩
          exact sols_bound hxs (Or.inr ⟨p, hp, ps_pos hp, hv⟩)
        have okx := hx2.1
        have w1 := tv_lt okx hhok.1
        have w2 := tv_lt okx hhok.2.1
        have w3 : tv x hts.2.2 = 0 := by
          rcases hz with e | e <;> rw [e] <;> rfl
        have hk : hk3 x hts = pk3 (tv x hts.1) (tv x hts.2.1) 0 := by
          unfold hk3
          rw [w3]
        have hgk : gz mk (pk3 (tv x hts.1) (tv x hts.2.1) 0) := by
          have hmt : tv x (tmi hts mk) = 0 := by
            rw [(hu mk hmk).mpr rfl]
            rfl
          unfold gz dg
          unfold tmi at hmt
          rcases (show mk = 0 ∨ mk = 1 ∨ mk = 2 by omega) with rfl | rfl | rfl
          · simp at hmt ⊢
            unfold pk3
            omega
          · simp at hmt ⊢
            unfold pk3
            omega
          · simp at hmt ⊢
            unfold pk3
            omega
        rw [List.map_cons, hk, List.foldl_cons] at hG9
        unfold tm3_ok tm_ok at hhok
        refine mo_headValue (i := 0) hS2.2.1 hS2.2.2.1 hr17' (by omega) h3 hx2 (by rw [e27]; exact t0) hhok.1 (hm 0 (by omega)) (hxb _ (Or.inl rfl)) _ ?_
        refine mo_headValue (i := 1) hS2.2.1 hS2.2.2.1 hr17' (by omega) h3 hx2 (by rw [e27]; exact t1) hhok.2.1 (hm 1 (by omega)) (hxb _ (Or.inr (Or.inl rfl))) _ ?_
        rw [List.length_cons] at hbd h64k
        refine mo_tally hC2 w1 w2 hnd (fun i hi => ?_) (nI mk) X16 X42 X159 Q h42 h159 (fun h40 hno => hQF (Or.inl ?_) μ2 _ _ hS2.1 (mo_fr_mono hfrB (by simp) (by simp))) (fun _ μ3 hC3 hfr3 => ?_)
        · have := hbd _ (show gs.getD i (0, 0) ∈ gs by rw [gd_eq _ _ hi]; exact List.getElem_mem hi)
          omega
        · have := grp_len (rest.map (fun x => hk3 x hts)) (gad gs (pk3 (tv x hts.1) (tv x hts.2.1) 0))
          rw [hG9, gad_new gs _ hno, List.length_append, List.length_singleton] at this
          omega
        · refine ih (gad gs (pk3 (tv x hts.1) (tv x hts.2.1) 0)) μ3 pix _ C2 E2 (it_S_fr2 hS2 hfr3 (by simp) (by simp)) (it_D_fr2 hD2 hfr3 (by simp) (by simp) (by simp)) hrem2 (fun y hy => hall y (List.mem_cons_of_mem _ hy)) (by omega) hC3 (gad_nd hnd) (fun p hp => ?_) (gad_cnt hbd (by omega)) hG9 (mo_fr_tr hfrB (mo_fr_mono hfr3 (by simp) (by simp)))
          rcases gad_mem hp with g | ⟨q, hq, g⟩
          · rw [g]
            exact hgk
          · rw [← g]
            exact hgzs q hq
  refine mo_markOf hr17' hh0 hmk hu _ (fun μ1 f1 => ?_)
  have hfr1 : mo_fr [] [845] μ0 μ1 := by
    rw [f1]
    exact mo_fr_I (by simp)
  refine mo_begin (mo_M_fr hW.1 hfr1 (by simp) (by simp) (by simp)) (mo_lits_fr ⟨hr17, h5, hlen, hlit⟩ hfr1 (by simp) (by simp) (by simp) (by simp)) h3 hsafe _ (fun μ2 pix hS2 hD2 hfr2 => ?_)
  refine main _ [] μ2 pix 1 _ _ hS2 hD2 rfl (fun y hy => ?_) ?_ ⟨?_, by simp, fun i hi => by simp at hi⟩ List.nodup_nil (fun p hp => by cases hp) (fun p hp => by cases hp) ?_ (mo_fr_tr (mo_fr_mono hfr1 (by simp) (by simp)) (mo_fr_mono hfr2 (by simp) (by simp)))
  · rw [rem_begin] at hy
    exact (List.mem_filter.mp hy).1
  · rw [rem_begin]
    exact Nat.le_trans (List.length_filter_le _ _) h64
  · rw [hfr2.2 845 (by simp), f1, mu_I_sI, if_pos rfl]
    rfl
  · rw [rem_begin]
    exact hG
