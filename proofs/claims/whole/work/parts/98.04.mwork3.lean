/-- views stand empty -/
def Tz (G : pg_T) (T : Nat → al_T) : Nat → al_T := fun v => if G.vw v then [] else T v
theorem fr_w {μ μ' μ'' : mo_U} (h : mo_fr wts wfs μ μ') (g : mo_fr wts wfs μ' μ'') : mo_fr wts wfs μ μ'' := mo_fr_tr h g
theorem ref_work {μ0 : mo_U} {G : pg_T} (hok : pg_ok G) {T : Nat → al_T} (hT : rT μ0 G T) (Q : Int32 → mo_U → Prop)
    (h1 : ∀ μ' T', rT μ' G T' → mo_fr wts wfs μ0 μ' → WK G 8 (ks (Tz G T)) (ks T') → (∀ v, G.lay v = 0 → T' v = T v) → (∀ v, 1 ≤ G.lay v → ∀ p ∈ T' v, p.2 = 1) → Q 1 μ')
    (h0 : ∀ μ' R' N', mo_M μ' R' N' → mo_fr wts wfs μ0 μ' → WOv G 8 (ks (Tz G T)) → Q 0 μ') : mp_work μ0 Q := by
  intro X2 X34 X43 X51 X101 X109 hX2 hX34 hX43 hX51 hX101 hX109
  have hn8 := hok.n8
  have hn16 := hT.g.n16
  have hlz : ∀ v, G.lay v = 0 → Tz G T v = T v := fun v hv => by
    unfold Tz
    rw [if_neg (fun z => by have := (hok.lv v).mp z; omega)]
  have layers : ∀ m L TL μ, L + m = 8 → rT μ G TL → mo_fr wts wfs μ0 μ → (∀ v, L + 1 ≤ G.lay v → TL v = []) → WK G L (ks (Tz G T)) (ks TL) → (∀ v, G.lay v = 0 → TL v = T v) → (∀ v, 1 ≤ G.lay v → ∀ p ∈ TL v, p.2 = 1) → X43 (nI (L + 1)) μ := by
    intro m
    induction m with
    | zero =>
      intro L TL μ hL hTL hfr he hW h00 hone
      refine hX43 _ _ ⟨fun _ => h1 μ TL hTL hfr (by rw [← show L = 8 by omega]; exact hW) h00 hone, fun q => absurd (nI_lt (a := 8) (by omega) (by omega)) q⟩
    | succ m ih =>
      intro L TL μ hL hTL hfr he hW h00 hone
      have hsL := rT_srt hTL
      have hI0 : rI G (L + 1) TL TL := by
        refine ⟨fun _ _ => rfl, fun S hS v k hk => ?_, fun v hv p hp => ?_⟩
        · by_cases z : G.lay v < L + 1
          · exact (hS.lo v z k).mpr hk
          · unfold ks at hk
            rw [he v (by omega)] at hk
            exact absurd hk List.not_mem_nil
        · rw [he v (by omega)] at hp
          exact absurd hp List.not_mem_nil
      have bad : LOv G (L + 1) (ks TL) → WOv G 8 (ks (Tz G T)) := fun h => ⟨L, ks TL, by omega, hW, h⟩
      -- plain rules, round by round
      have rounds : ∀ mm T1 μ1, 320 ≤ tot T1 + mm → rT μ1 G T1 → mo_fr wts wfs μ0 μ1 → rI G (L + 1) TL T1 → rC G (L + 1) TL T1 G.rs.length → X101 (nI (L + 1)) 1 μ1 := by
        intro mm
        induction mm with
        | zero =>
          intro T1 μ1 hm hT1 hfr1 hI1 hC1
          have inner : ∀ m' j μ2, j + m' = G.rs.length → rT μ2 G T1 → mo_fr wts wfs μ0 μ2 → (∀ j', j' < j → j' < G.rs.length → G.lay (G.rs.getD j' d_ru).h = L + 1 → (G.rs.getD j' d_ru).c = false → ∀ k ∈ hd (ks T1) (G.rs.getD j' d_ru), k ∈ ks T1 (G.rs.getD j' d_ru).h) → X109 (nI (L + 1)) 0 (nI j) μ2 := by
            intro m'
            induction m' with
            | zero =>
              intro j μ2 hj hT2 hfr2 hcl
              refine hX109 _ _ _ _ ?_
              rw [hT2.g.nn]
              refine ⟨fun _ => hX101 _ _ _ ⟨fun _ => ?_, fun q => absurd rfl q⟩, fun q => absurd (nI_le (by omega) (by omega)) q⟩
              rw [nI_1]
              have hs2 := rT_srt hT2
              refine ih (L + 1) T1 μ2 (by omega) hT2 hfr2 (fun v hv => ?_) ⟨ks TL, hW, lay_ref hok hI1 hs2 hC1 (fun j' hj' => hcl j' (by omega) hj')⟩ (fun v hv => ?_) (fun v hv p hp => ?_)
              · rw [hI1.lo v (by omega)]; exact he v (by omega)
              · rw [hI1.lo v (by omega)]; exact h00 v hv
              · by_cases z : G.lay v = L + 1
                · exact hI1.one v z p hp
                · rw [hI1.lo v z] at hp; exact hone v hv p hp
            | succ m' ih' =>
              intro j μ2 hj hT2 hfr2 hcl
              have hjl : j < G.rs.length := by omega
              obtain ⟨hr, _, hhn, _⟩ := hok.ru _ (rs_mem hjl)
              have hh := hr.hh
              have hl8 := hok.l8 (G.rs.getD j d_ru).h
              obtain ⟨e26, _⟩ := hT2.g.hd j hjl
              refine hX109 _ _ _ _ ?_
              rw [hT2.g.nn]
              refine ⟨fun q => absurd q (nI_ge (by omega) (by omega)), fun _ => ⟨vp_in_nI (by omega) (by decide), ?_⟩⟩
              rw [cl_nI (n := j) (by omega), e26, cl_nI (n := (G.rs.getD j d_ru).h) (by omega), hT2.g.ly _ hhn, nI_eq (by omega) (by omega), hT2.g.ct j hjl, nI_1]
              refine ⟨vp_in_nI (by omega) (by decide), fun hne => ?_, fun heq => ⟨vp_in_nI (by omega) (by decide), fun hc => ?_, fun hc => ?_⟩⟩
              · exact ih' (j + 1) μ2 (by omega) hT2 hfr2 (fun j' a b c => by
                  by_cases z : j' = j
                  · rw [z] at c; exact absurd c hne
                  · exact hcl j' (by omega) b c)
              · exact ih' (j + 1) μ2 (by omega) hT2 hfr2 (fun j' a b c d => by
                  by_cases z : j' = j
                  · rw [z] at d; rw [d] at hc; exact absurd rfl hc
                  · exact hcl j' (by omega) b c d)
              · have hc : (G.rs.getD j d_ru).c = false := by
                  cases hb : (G.rs.getD j d_ru).c with
                  | false => rfl
                  | true => rw [hb] at hc; exact absurd hc (by decide)
                refine ref_plain hok hT2 hI1 hjl heq hc hC1 _ (fun μ' R' N' hM hfr' ho => ⟨fun q => absurd rfl q, fun _ => h0 μ' R' N' hM (fr_w hfr2 hfr') (bad ho)⟩) (fun μ' hT' hfr' hcl' => ⟨fun _ => ⟨fun q => absurd rfl q, fun _ => ⟨fun _ => ?_, fun q => absurd (by decide) q⟩⟩, fun q => absurd q (by decide)⟩) (fun μ' T' hT' hfr' hI' hC' htot => ?_)
                · exact ih' (j + 1) μ' (by omega) hT' (fr_w hfr2 hfr') (fun j' a b c d => by
                    by_cases z : j' = j
                    · rw [z]; exact hcl'
                    · exact hcl j' (by omega) b c d)
                · have := tot_320 (fun v => (rT_srt hT' v).2.2)
                  omega
          exact hX101 _ _ _ ⟨fun q => absurd q (by decide), fun _ => inner G.rs.length 0 μ1 (by omega) hT1 hfr1 (fun j' a => absurd a (Nat.not_lt_zero j'))⟩
        | succ mm ihm =>
          intro T1 μ1 hm hT1 hfr1 hI1 hC1
          -- something has come already
          have inner1 : ∀ m' j T2 μ2, j + m' = G.rs.length → rT μ2 G T2 → mo_fr wts wfs μ0 μ2 → rI G (L + 1) TL T2 → rC G (L + 1) TL T2 G.rs.length → tot T1 < tot T2 → X109 (nI (L + 1)) 1 (nI j) μ2 := by
            intro m'
            induction m' with
            | zero =>
              intro j T2 μ2 hj hT2 hfr2 hI2 hC2 htot
              refine hX109 _ _ _ _ ?_
              rw [hT2.g.nn]
              exact ⟨fun _ => ihm T2 μ2 (by omega) hT2 hfr2 hI2 hC2, fun q => absurd (nI_le (by omega) (by omega)) q⟩
            | succ m' ih' =>
              intro j T2 μ2 hj hT2 hfr2 hI2 hC2 htot
              have hjl : j < G.rs.length := by omega
              obtain ⟨hr, _, hhn, _⟩ := hok.ru _ (rs_mem hjl)
              have hh := hr.hh
              have hl8 := hok.l8 (G.rs.getD j d_ru).h
              obtain ⟨e26, _⟩ := hT2.g.hd j hjl
              refine hX109 _ _ _ _ ?_
              rw [hT2.g.nn]
              refine ⟨fun q => absurd q (nI_ge (by omega) (by omega)), fun _ => ⟨vp_in_nI (by omega) (by decide), ?_⟩⟩
              rw [cl_nI (n := j) (by omega), e26, cl_nI (n := (G.rs.getD j d_ru).h) (by omega), hT2.g.ly _ hhn, nI_eq (by omega) (by omega), hT2.g.ct j hjl, nI_1]
              refine ⟨vp_in_nI (by omega) (by decide), fun hne => ih' (j + 1) T2 μ2 (by omega) hT2 hfr2 hI2 hC2 htot, fun heq => ⟨vp_in_nI (by omega) (by decide), fun hc => ih' (j + 1) T2 μ2 (by omega) hT2 hfr2 hI2 hC2 htot, fun hc => ?_⟩⟩
              have hc : (G.rs.getD j d_ru).c = false := by
                cases hb : (G.rs.getD j d_ru).c with
                | false => rfl
                | true => rw [hb] at hc; exact absurd hc (by decide)
              refine ref_plain hok hT2 hI2 hjl heq hc hC2 _ (fun μ' R' N' hM hfr' ho => ⟨fun q => absurd rfl q, fun _ => h0 μ' R' N' hM (fr_w hfr2 hfr') (bad ho)⟩) (fun μ' hT' hfr' hcl' => ⟨fun _ => ⟨fun _ => ?_, fun q => absurd q (by decide)⟩, fun q => absurd q (by decide)⟩) (fun μ' T' hT' hfr' hI' hC' htot' => ⟨fun _ => ⟨fun _ => ?_, fun q => absurd q (by decide)⟩, fun q => absurd q (by decide)⟩)
              · exact ih' (j + 1) T2 μ' (by omega) hT' (fr_w hfr2 hfr') hI2 hC2 htot
              · exact ih' (j + 1) T' μ' (by omega) hT' (fr_w hfr2 hfr') hI' hC' (by omega)
          have inner : ∀ m' j μ2, j + m' = G.rs.length → rT μ2 G T1 → mo_fr wts wfs μ0 μ2 → (∀ j', j' < j → j' < G.rs.length → G.lay (G.rs.getD j' d_ru).h = L + 1 → (G.rs.getD j' d_ru).c = false → ∀ k ∈ hd (ks T1) (G.rs.getD j' d_ru), k ∈ ks T1 (G.rs.getD j' d_ru).h) → X109 (nI (L + 1)) 0 (nI j) μ2 := by
            intro m'
            induction m' with
            | zero =>
              intro j μ2 hj hT2 hfr2 hcl
              refine hX109 _ _ _ _ ?_
              rw [hT2.g.nn]
              refine ⟨fun _ => hX101 _ _ _ ⟨fun _ => ?_, fun q => absurd rfl q⟩, fun q => absurd (nI_le (by omega) (by omega)) q⟩
              rw [nI_1]
              have hs2 := rT_srt hT2
              refine ih (L + 1) T1 μ2 (by omega) hT2 hfr2 (fun v hv => ?_) ⟨ks TL, hW, lay_ref hok hI1 hs2 hC1 (fun j' hj' => hcl j' (by omega) hj')⟩ (fun v hv => ?_) (fun v hv p hp => ?_)
              · rw [hI1.lo v (by omega)]; exact he v (by omega)
              · rw [hI1.lo v (by omega)]; exact h00 v hv
              · by_cases z : G.lay v = L + 1
                · exact hI1.one v z p hp
                · rw [hI1.lo v z] at hp; exact hone v hv p hp
            | succ m' ih' =>
              intro j μ2 hj hT2 hfr2 hcl
              have hjl : j < G.rs.length := by omega
              obtain ⟨hr, _, hhn, _⟩ := hok.ru _ (rs_mem hjl)
              have hh := hr.hh
              have hl8 := hok.l8 (G.rs.getD j d_ru).h
              obtain ⟨e26, _⟩ := hT2.g.hd j hjl
              refine hX109 _ _ _ _ ?_
              rw [hT2.g.nn]
              refine ⟨fun q => absurd q (nI_ge (by omega) (by omega)), fun _ => ⟨vp_in_nI (by omega) (by decide), ?_⟩⟩
              rw [cl_nI (n := j) (by omega), e26, cl_nI (n := (G.rs.getD j d_ru).h) (by omega), hT2.g.ly _ hhn, nI_eq (by omega) (by omega), hT2.g.ct j hjl, nI_1]
              refine ⟨vp_in_nI (by omega) (by decide), fun hne => ?_, fun heq => ⟨vp_in_nI (by omega) (by decide), fun hc => ?_, fun hc => ?_⟩⟩
              · exact ih' (j + 1) μ2 (by omega) hT2 hfr2 (fun j' a b c => by
                  by_cases z : j' = j
                  · rw [z] at c; exact absurd c hne
                  · exact hcl j' (by omega) b c)
              · exact ih' (j + 1) μ2 (by omega) hT2 hfr2 (fun j' a b c d => by
                  by_cases z : j' = j
                  · rw [z] at d; rw [d] at hc; exact absurd rfl hc
                  · exact hcl j' (by omega) b c d)
              · have hc : (G.rs.getD j d_ru).c = false := by
                  cases hb : (G.rs.getD j d_ru).c with
                  | false => rfl
                  | true => rw [hb] at hc; exact absurd hc (by decide)
                refine ref_plain hok hT2 hI1 hjl heq hc hC1 _ (fun μ' R' N' hM hfr' ho => ⟨fun q => absurd rfl q, fun _ => h0 μ' R' N' hM (fr_w hfr2 hfr') (bad ho)⟩) (fun μ' hT' hfr' hcl' => ⟨fun _ => ⟨fun q => absurd rfl q, fun _ => ⟨fun _ => ?_, fun q => absurd (by decide) q⟩⟩, fun q => absurd q (by decide)⟩) (fun μ' T' hT' hfr' hI' hC' htot => ⟨fun _ => ⟨fun q => absurd rfl q, fun _ => ⟨fun q => absurd q (by decide), fun _ => ?_⟩⟩, fun q => absurd q (by decide)⟩)
                · exact ih' (j + 1) μ' (by omega) hT' (fr_w hfr2 hfr') (fun j' a b c d => by
                    by_cases z : j' = j
                    · rw [z]; exact hcl'
                    · exact hcl j' (by omega) b c d)
                · exact inner1 m' (j + 1) T' μ' (by omega) hT' (fr_w hfr2 hfr') hI' hC' htot
          exact hX101 _ _ _ ⟨fun q => absurd q (by decide), fun _ => inner G.rs.length 0 μ1 (by omega) hT1 hfr1 (fun j' a => absurd a (Nat.not_lt_zero j'))⟩
      -- counting rules
      have counts : ∀ m' j T1 μ1, j + m' = G.rs.length → rT μ1 G T1 → mo_fr wts wfs μ0 μ1 → rI G (L + 1) TL T1 → rC G (L + 1) TL T1 j → X51 (nI (L + 1)) (nI j) μ1 := by
        intro m'
        induction m' with
        | zero =>
          intro j T1 μ1 hj hT1 hfr1 hI1 hC1
          refine hX51 _ _ _ ?_
          rw [hT1.g.nn]
          refine ⟨fun _ => rounds 320 T1 μ1 (by omega) hT1 hfr1 hI1 (by rw [← show j = G.rs.length by omega]; exact hC1), fun q => absurd (nI_le (by omega) (by omega)) q⟩
        | succ m' ih' =>
          intro j T1 μ1 hj hT1 hfr1 hI1 hC1
          have hjl : j < G.rs.length := by omega
          obtain ⟨hr, _, hhn, _⟩ := hok.ru _ (rs_mem hjl)
          have hh := hr.hh
          have hl8 := hok.l8 (G.rs.getD j d_ru).h
          obtain ⟨e26, _⟩ := hT1.g.hd j hjl
          have skip : (G.lay (G.rs.getD j d_ru).h = L + 1 → (G.rs.getD j d_ru).c = true → False) → rC G (L + 1) TL T1 (j + 1) := fun hno => ⟨fun j' a b c d => by
            by_cases z : j' = j
            · rw [z] at c d; exact (hno c d).elim
            · exact hC1.c j' (by omega) b c d, fun j' a b => hC1.z j' (by omega) b⟩
          refine hX51 _ _ _ ?_
          rw [hT1.g.nn]
          refine ⟨fun q => absurd q (nI_ge (by omega) (by omega)), fun _ => ⟨vp_in_nI (by omega) (by decide), ?_⟩⟩
          rw [cl_nI (n := j) (by omega), e26, cl_nI (n := (G.rs.getD j d_ru).h) (by omega), hT1.g.ly _ hhn, nI_eq (by omega) (by omega), hT1.g.ct j hjl, nI_1]
          refine ⟨vp_in_nI (by omega) (by decide), fun hne => ?_, fun heq => ⟨vp_in_nI (by omega) (by decide), fun hc => ?_, fun hc => ?_⟩⟩
          · exact ih' (j + 1) T1 μ1 (by omega) hT1 hfr1 hI1 (skip (fun z _ => hne z))
          · exact ih' (j + 1) T1 μ1 (by omega) hT1 hfr1 hI1 (skip (fun _ z => by rw [z] at hc; exact absurd hc (by decide)))
          · have hc : (G.rs.getD j d_ru).c = true := by
              cases hb : (G.rs.getD j d_ru).c with
              | true => rfl
              | false => rw [hb] at hc; exact absurd rfl hc
            refine ref_cnt hok hT1 hI1 hjl heq hc hC1 _ (fun μ' R' N' hM hfr' ho => ⟨fun q => absurd rfl q, fun _ => h0 μ' R' N' hM (fr_w hfr1 hfr') (bad ho)⟩) (fun μ' T' hT' hfr' hI' hC' => ⟨fun _ => ih' (j + 1) T' μ' (by omega) hT' (fr_w hfr1 hfr') hI' hC', fun q => absurd q (by decide)⟩)
      refine hX43 _ _ ⟨fun q => absurd q (nI_nlt (b := L + 1) (a := 8) (by omega) (by omega)), fun _ => ?_⟩
      exact counts G.rs.length 0 TL μ (by omega) hTL hfr hI0 ⟨fun j' a => absurd a (Nat.not_lt_zero j'), fun j' _ _ c _ => he _ (by omega)⟩
  -- views stand empty
  obtain ⟨R, N, hW0⟩ := hT.w
  have empties : ∀ m i μ, i + m = G.n → mo_fr [42] [] μ0 μ → mo_M μ R (fun v => if v < i ∧ G.vw v = true then 0 else N v) → X2 (nI i) μ := by
    intro m
    induction m with
    | zero =>
      intro i μ hi hfr hM
      have hg := rf_L_fr hT.g hfr (by decide) (by decide)
      refine hX2 _ _ ?_
      rw [hg.kn]
      refine ⟨fun _ => ?_, fun q => absurd (nI_le (by omega) (by omega)) q⟩
      have hTz : ∀ v, v < 8 → Tz G T v = mr_l R (fun v => if v < i ∧ G.vw v = true then 0 else N v) v ∧ al_s (Tz G T v) := fun v hv => by
        unfold Tz mr_l
        by_cases z : G.vw v = true
        · obtain ⟨r, hr, e⟩ := (hok.vw v).mp z
          have := (hok.ru r hr).2.2.1
          simp only [if_pos z]
          rw [if_pos ⟨by omega, z⟩]
          exact ⟨rfl, List.Pairwise.nil⟩
        · simp only [if_neg z]
          rw [if_neg (fun y => z y.2)]
          have := hW0.2 v hv
          unfold mr_l at this
          exact this
      have hfw : mo_fr wts wfs μ0 μ := mo_fr_mono hfr (by decide) (by decide)
      refine layers 8 0 (Tz G T) μ (by omega) ⟨⟨R, _, hM, hTz⟩, fun v hv => ?_, hg⟩ hfw (fun v hv => ?_) rfl hlz (fun v hv p hp => ?_)
      · unfold Tz
        split
        · rfl
        · exact hT.t8 v hv
      · unfold Tz
        rw [if_pos ((hok.lv v).mpr (by omega))]
      · unfold Tz at hp
        rw [if_pos ((hok.lv v).mpr hv)] at hp
        exact absurd hp List.not_mem_nil
    | succ m ih =>
      intro i μ hi hfr hM
      have hg := rf_L_fr hT.g hfr (by decide) (by decide)
      have hi8 : i < 8 := by omega
      have step : ∀ y : Nat, y = (if i < i + 1 ∧ G.vw i = true then 0 else N i) → X34 (nI i) (nI i) (nI y) μ := fun y hy => by
        refine hX34 _ _ _ _ ⟨vp_in_nI hi8 (by decide), fun μ34 e34 => ?_⟩
        rw [nI_1]
        refine ih (i + 1) μ34 (by omega) ?_ ⟨fun r j hr hj => ?_, fun r hr => ?_⟩
        · rw [e34]; exact mo_fr_tr hfr (mo_fr_A (by decide))
        · have := hM.1 r j hr hj
          rw [e34]
          unfold mo_at at this ⊢
          simp only [mu_A_sA]
          exact this
        · have := hM.2 r hr
          rw [e34, mu_A_sA, if_pos rfl, cl_nI (by omega)]
          unfold upd
          by_cases z : r = i
          · rw [if_pos z, z, hy]
            refine ⟨rfl, ?_⟩
            have h2 := (hW0.1.2 i hi8).2
            show (if i < i + 1 ∧ G.vw i = true then 0 else N i) ≤ 40
            split <;> omega
          · rw [if_neg z]
            have e : (if r < i + 1 ∧ G.vw r = true then 0 else N r) = (if r < i ∧ G.vw r = true then 0 else N r) := by
              by_cases y : r < i
              · by_cases w : G.vw r = true
                · rw [if_pos ⟨by omega, w⟩, if_pos ⟨y, w⟩]
                · rw [if_neg (fun q => w q.2), if_neg (fun q => w q.2)]
              · rw [if_neg (fun q => by omega), if_neg (fun q => y q.1)]
            show μ.2 42 r = nI (if r < i + 1 ∧ G.vw r = true then 0 else N r) ∧ (if r < i + 1 ∧ G.vw r = true then 0 else N r) ≤ 40
            rw [e]
            exact this
      refine hX2 _ _ ?_
      rw [hg.kn]
      refine ⟨fun q => absurd q (nI_ge (by omega) (by omega)), fun _ => ⟨vp_in_nI (by omega) (by decide), ?_⟩⟩
      rw [cl_nI (by omega), hg.vw i (by omega)]
      refine ⟨fun q => ⟨vp_in_nI hi8 (by decide), ?_⟩, fun q => ?_⟩
      · have hb : ¬ G.vw i = true := fun z => by rw [z] at q; exact absurd q (by decide)
        have this : μ.2 42 i = nI (if i < i ∧ G.vw i = true then 0 else N i) := (hM.2 i hi8).1
        rw [if_neg (fun z => absurd z.1 (Nat.lt_irrefl i))] at this
        rw [this]
        exact step (N i) (by rw [if_neg (fun z => hb z.2)])
      · have hb : G.vw i = true := by
          cases hb : G.vw i with
          | true => rfl
          | false => rw [hb] at q; exact absurd rfl q
        exact step 0 (by rw [if_pos ⟨by omega, hb⟩])
  refine empties G.n 0 μ0 (by omega) mo_fr_rf ?_
  have e : (fun v => if v < 0 ∧ G.vw v = true then 0 else N v) = N := by
    funext v
    rw [if_neg (fun q => absurd q.1 (Nat.not_lt_zero v))]
  rw [e]
  exact hW0.1
