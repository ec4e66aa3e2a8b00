theorem it_S_fr2 {μ μ' : mo_U} {R : mr_R} {N : Nat → Nat} {r : Nat} {ls ps : List lit_T} {pix : Nat → Nat} {ts fs : List Nat} (h : it_S μ R N r ls ps pix) (hf : mo_fr ts fs μ μ') (hts : ∀ t ∈ [28, 29, 30, 31, 40, 41, 42, 52], t ∉ ts) (hfs : ∀ f ∈ [841, 842], f ∉ fs) : it_S μ' R N r ls ps pix := by
  obtain ⟨h1, h2, h3, h4, h5, h6, h7⟩ := h
  refine ⟨mo_M_fr h1 hf (hts 40 (by simp)) (hts 41 (by simp)) (hts 42 (by simp)), by rw [hf.2 842 (hfs 842 (by simp))]; exact h2, by rw [hf.2 841 (hfs 841 (by simp))]; exact h3, h4, mo_lits_fr h5 hf (hts 28 (by simp)) (hts 29 (by simp)) (hts 30 (by simp)) (hts 31 (by simp)), fun i hi => ?_, h7⟩
  obtain ⟨a, b, c, d⟩ := h6 i hi
  exact ⟨by rw [hf.1 52 (hts 52 (by simp))]; exact a, b, mo_lit_fr c hf (hts 29 (by simp)) (hts 30 (by simp)) (hts 31 (by simp)), d⟩
theorem it_D_fr2 {μ μ' : mo_U} {N : Nat → Nat} {ps : List lit_T} {k : Nat} {C : Nat → Nat} {E : Nat → ev_T} {ts fs : List Nat} (h : it_D μ N ps k C E) (hf : mo_fr ts fs μ μ') (h1 : 50 ∉ ts) (h2 : 51 ∉ ts) (h3 : 840 ∉ fs) : it_D μ' N ps k C E := by
  unfold it_D
  rw [hf.1 50 h1, hf.1 51 h2, hf.2 840 h3]
  exact h
set_option maxHeartbeats 1000000 in
theorem mo_plain {μ0 : mo_U} {R : mr_R} {N : Nat → Nat} {T : Nat → al_T} (hW : mo_W μ0 R N T) {r h : Nat} {hts : tm_T} {ls : List lit_T} (hls : mo_lits μ0 r ls) (h3 : (ps_of ls).length ≤ 3) (hsafe : lits_safe ls) (hh : mo_head μ0 r h hts) (hm : no_mark hts) (hhs : ∀ k, vin3 hts k → ∃ p ∈ ps_of ls, vin3 p.2.2 k) {F : List Nat} (hF : frs ((T h).map Prod.fst) (((sols (mr_S R N) (ps_of ls) ev0).filter (alltests (mr_S R N) ls)).map (fun x => hk3 x hts)) [] = F) (Q : Int32 → mo_U → Prop)
    (hQF : 40 < (T h).length + F.length → ∀ μ' R' N', mo_M μ' R' N' → mo_fr [40, 41, 42, 50, 51, 52, 53] [840, 841, 842, 845] μ0 μ' → Q (-3) μ')
    (hQ1 : (T h).length + F.length ≤ 40 → ∀ (μ' : mo_U) (R' : mr_R) (N' : Nat → Nat), mo_W μ' R' N' (fun r' => if r' = h then F.foldl (fun l k => al_add l k 1) (T h) else T r') → mo_fr [40, 41, 42, 50, 51, 52, 53] [840, 841, 842, 845] μ0 μ' → Q (if F = [] then 0 else 1) μ') : mp_plainRule (nI r) μ0 Q := by
  obtain ⟨hr17, h5, hlen, hlit⟩ := hls
  have hr17' : r < 17 := hr17
  obtain ⟨hh26, hh8, hh0, hh1, hh2, hhok⟩ := hh
  have hTh := hW.2 h hh8
  have hmem : ∀ key, key ∈ (T h).map Prod.fst ↔ al_in (T h) key := by
    intro key
    simp only [List.mem_map, al_in]
  intro X10 X64 X208 h10 h64 h208
  have hFnd : F.Nodup := by rw [← hF]; exact frs_nd _ _ [] List.nodup_nil
  have hFno : ∀ k ∈ F, ¬ al_in (T h) k := by
    intro k hk q
    rw [← hF, frs_mem] at hk
    rcases hk with hk | hk
    · cases hk
    · exact hk.2 ((hmem k).mpr q)
  -- the new rows go in
  have ins : ∀ (m v : Nat) (μ1 : mo_U) (R1 : mr_R) (N1 : Nat → Nat), v + m = F.length → mo_F μ1 F → mo_W μ1 R1 N1 (fun r' => if r' = h then (F.take v).foldl (fun l k => al_add l k 1) (T h) else T r') → mo_fr [40, 41, 42, 50, 51, 52, 53] [840, 841, 842, 845] μ0 μ1 → X208 (nI v) μ1 := by
    intro m
    induction m with
    | zero =>
      intro v μ1 R1 N1 hv hf hw hfr
      have hvl : v = F.length := by omega
      subst hvl
      rw [List.take_length] at hw
      have hle : (T h).length + F.length ≤ 40 := by
        have h40 := (hw.1.2 h hh8).2
        have e1 := (hw.2 h hh8).1
        dsimp only at e1
        rw [if_pos rfl] at e1
        have := (fold_add (l := T h) hTh.2 hFno hFnd).2
        rw [e1, mr_l_len] at this
        omega
      have := hQ1 hle μ1 R1 N1 hw hfr
      obtain ⟨f1, f2, -⟩ := hf
      refine h208 _ _ ⟨fun _ => ⟨fun q => ?_, fun q => ?_⟩, fun q => absurd ?_ q⟩
      · rw [f1, show (0 : Int32) = nI 0 from rfl, nI_leI (by omega) (by omega)] at q
        rw [if_pos (List.length_eq_zero_iff.mp (by omega))] at this
        exact this
      · rw [f1, show (0 : Int32) = nI 0 from rfl, nI_leI (by omega) (by omega)] at q
        rw [if_neg (fun e => q (by rw [e]; simp))] at this
        exact this
      · rw [f1]
        exact nI_le (Nat.le_refl _) (by omega)
    | succ m ih =>
      intro v μ1 R1 N1 hv hf hw hfr
      obtain ⟨f1, f2, f3⟩ := hf
      have hvF : v < F.length := by omega
      obtain ⟨g0, g1, g2, g3⟩ := f3 v hvF
      have e0 : (3 : Int32) * nI v = nI (3 * v) := by rw [show (3 : Int32) = nI 3 from rfl, pk_mul]
      have e1 : nI (3 * v) + (1 : Int32) = nI (3 * v + 1) := nI_1 _
      have e2 : nI (3 * v) + (2 : Int32) = nI (3 * v + 2) := nI_p _ 2
      have hgk : F.getD v 0 ∈ F := by rw [gd_eq _ _ hvF]; exact List.getElem_mem hvF
      have hpk : pk3 (F.getD v 0 / 1000000) (F.getD v 0 / 1000 % 1000) (F.getD v 0 % 1000) = F.getD v 0 := by unfold pk3; omega
      have hh26' : μ1.2 26 r = nI h := by rw [hfr.1 26 (by simp)]; exact hh26
      have htk : (F.take v).Nodup := hFnd.sublist (List.take_sublist _ _)
      have hadd := fold_add (l := T h) (ks := F.take v) hTh.2 (fun k hk => hFno k (List.mem_of_mem_take hk)) htk
      have hlv : (F.take v).length = v := by rw [List.length_take]; omega
      have hnotin : ¬ al_in ((F.take v).foldl (fun l k => al_add l k 1) (T h)) (F.getD v 0) := by
        have gen : ∀ (ks : List Nat) (l : al_T), al_in (ks.foldl (fun l k => al_add l k 1) l) (F.getD v 0) → al_in l (F.getD v 0) ∨ F.getD v 0 ∈ ks := by
          intro ks
          induction ks with
          | nil => intro l q; exact Or.inl q
          | cons k ks ih2 =>
            intro l q
            rcases ih2 _ q with ⟨p, hp, he⟩ | q
            · rcases al_add_mem hp with g | g
              · exact Or.inl ⟨p, g, he⟩
              · rw [g] at he
                exact Or.inr (by rw [he]; exact List.mem_cons_self)
            · exact Or.inr (List.mem_cons_of_mem _ q)
        intro q
        rcases gen _ _ q with q | q
        · exact hFno _ hgk q
        · obtain ⟨j, hj, he⟩ := List.getElem_of_mem q
          rw [hlv] at hj
          rw [List.getElem_take] at he
          rw [gd_eq _ _ hvF] at he
          have : j = v := (List.getElem?_inj (by omega) hFnd).mp (by rw [List.getElem?_eq_getElem (show j < F.length by omega), List.getElem?_eq_getElem hvF, he])
          omega
      refine h208 _ _ ⟨fun q => ?_, fun _ => ?_⟩
      · rw [f1, nI_leI (by omega) (by omega)] at q
        omega
      · rw [e0, e1, e2, cl_nI (by omega), cl_nI (by omega), cl_nI (by omega), cl_nI (by omega), hh26', g1, g2, g3]
        refine ⟨vp_in_nI hr17' (by omega), vp_in_nI (by omega) (by omega), vp_in_nI (by omega) (by omega), vp_in_nI (by omega) (by omega), ?_⟩
        have hno9 : ¬ al_in ((fun r' => if r' = h then (F.take v).foldl (fun l k => al_add l k 1) (T h) else T r') h) (pk3 (F.getD v 0 / 1000000) (F.getD v 0 / 1000 % 1000) (F.getD v 0 % 1000)) := by
          dsimp only
          rw [if_pos rfl, hpk]
          exact hnotin
        refine mo_insertL (cnt := 1) hw hh8 (by omega) (by omega) (by omega) hno9 _ (fun hfull => ⟨fun q => absurd rfl q, fun _ => hQF ?_ _ _ _ hw.1 hfr⟩) (fun hlt μ2 R2 N2 hw2 hfr2 => ⟨fun _ => ?_, fun q => absurd q (by decide)⟩)
        · try dsimp only at hfull
          rw [if_pos rfl, hadd.2, hlv] at hfull
          omega
        · rw [nI_1]
          refine ih (v + 1) μ2 R2 N2 (by omega) (mo_F_fr ⟨f1, f2, f3⟩ hfr2 (by simp) (by simp)) ?_ (mo_fr_tr hfr (mo_fr_mono hfr2 (by simp) (by simp)))
          have ef : (fun r' => if r' = h then (F.take (v + 1)).foldl (fun l k => al_add l k 1) (T h) else T r') = (fun r' => if r' = h then al_add ((fun r' => if r' = h then (F.take v).foldl (fun l k => al_add l k 1) (T h) else T r') h) (pk3 (F.getD v 0 / 1000000) (F.getD v 0 / 1000 % 1000) (F.getD v 0 % 1000)) 1 else (fun r' => if r' = h then (F.take v).foldl (fun l k => al_add l k 1) (T h) else T r') r') := by
            funext r'
            dsimp only
            by_cases e : r' = h
            · rw [if_pos e, if_pos e, if_pos rfl, hpk, List.take_succ_eq_append_getElem hvF, List.foldl_append, gd_eq _ _ hvF]
              rfl
            · rw [if_neg e, if_neg e, if_neg e]
          rw [ef]
          exact hw2
  -- is it there already
  have scan : ∀ (a b c : Nat) (acc : List Nat) (μ1 : mo_U), a < 1000 → b < 1000 → c < 1000 → mo_F μ1 acc → (((pk3 a b c ∈ (T h).map Prod.fst) ∨ pk3 a b c ∈ acc) → X10 μ1) → (pk3 a b c ∉ (T h).map Prod.fst → pk3 a b c ∉ acc → (acc.length = 40 → Q (-3) μ1) ∧ (acc.length < 40 → ∀ μ2, mo_F μ2 (acc ++ [pk3 a b c]) → mo_fr [53] [845] μ1 μ2 → X10 μ2)) →
      ∀ (m k : Nat) (fl : Int32), k + m = acc.length → ((fl = 0 ∧ pk3 a b c ∉ (T h).map Prod.fst ∧ pk3 a b c ∉ acc.take k) ∨ (fl = 1 ∧ (pk3 a b c ∈ (T h).map Prod.fst ∨ pk3 a b c ∈ acc))) → X64 (nI a) (nI b) (nI c) fl (nI k) μ1 := by
    intro a b c acc μ1 ha hb hc hf hyes hnew m
    obtain ⟨f1, f2, f3⟩ := hf
    have hpk : pk3 a b c < 1000000000 := by unfold pk3; omega
    induction m with
    | zero =>
      intro k fl hk hfl
      refine h64 _ _ _ _ _ _ ⟨fun _ => ⟨fun q => ?_, fun q => ?_⟩, fun q => absurd (by rw [f1]; exact nI_le (by omega) (by omega)) q⟩
      · rcases hfl with ⟨g, -⟩ | ⟨g, g2⟩
        · exact absurd g q
        · exact hyes g2
      · rcases hfl with ⟨-, g1, g2⟩ | ⟨g, -⟩
        · rw [List.take_of_length_le (by omega)] at g2
          obtain ⟨n1, n2⟩ := hnew g1 g2
          refine ⟨fun q2 => ?_, fun q2 => ?_⟩
          · rw [f1, show (40 : Int32) = nI 40 from rfl, nI_eq (by omega) (by omega)] at q2
            have e0 : (3 : Int32) * nI acc.length = nI (3 * acc.length) := by rw [show (3 : Int32) = nI 3 from rfl, pk_mul]
            have e1 : nI (3 * acc.length) + (1 : Int32) = nI (3 * acc.length + 1) := nI_1 _
            have e2 : nI (3 * acc.length) + (2 : Int32) = nI (3 * acc.length + 2) := nI_p _ 2
            rw [f1, e0, cl_nI (by omega)]
            refine ⟨vp_in_nI (by omega) (by omega), fun μ2 k2 => ?_⟩
            have s2 : μ2.1 845 = nI acc.length := by rw [k2, mu_I_sA, f1]
            rw [s2, e0, e1, cl_nI (by omega)]
            refine ⟨vp_in_nI (by omega) (by omega), fun μ3 k3 => ?_⟩
            have s3 : μ3.1 845 = nI acc.length := by rw [k3, mu_I_sA, s2]
            rw [s3, e0, e2, cl_nI (by omega)]
            refine ⟨vp_in_nI (by omega) (by omega), fun μ4 k4 μ5 k5 => ?_⟩
            have s4 : μ4.1 845 = nI acc.length := by rw [k4, mu_I_sA, s3]
            rw [s4, nI_1] at k5
            have h53 : μ5.2 53 = upd (upd (upd (μ1.2 53) (3 * acc.length) (nI a)) (3 * acc.length + 1) (nI b)) (3 * acc.length + 2) (nI c) := by
              rw [k5, mu_A_sI, k4, mu_A_sA, if_pos rfl, k3, mu_A_sA, if_pos rfl, k2, mu_A_sA, if_pos rfl]
            refine n2 (by omega) μ5 ⟨?_, ?_, fun i hi => ?_⟩ ?_
            · rw [k5, mu_I_sI, if_pos rfl, List.length_append, List.length_singleton]
            · rw [List.length_append, List.length_singleton]
              omega
            · rw [List.length_append, List.length_singleton] at hi
              rw [gd_snoc, h53]
              by_cases g : i < acc.length
              · rw [if_pos g]
                simp only [upd, if_neg (show ¬ 3 * i = 3 * acc.length + 2 by omega), if_neg (show ¬ 3 * i = 3 * acc.length + 1 by omega), if_neg (show ¬ 3 * i = 3 * acc.length by omega), if_neg (show ¬ 3 * i + 1 = 3 * acc.length + 2 by omega), if_neg (show ¬ 3 * i + 1 = 3 * acc.length + 1 by omega), if_neg (show ¬ 3 * i + 1 = 3 * acc.length by omega), if_neg (show ¬ 3 * i + 2 = 3 * acc.length + 2 by omega), if_neg (show ¬ 3 * i + 2 = 3 * acc.length + 1 by omega), if_neg (show ¬ 3 * i + 2 = 3 * acc.length by omega)]
                exact f3 i g
              · have gi : i = acc.length := by omega
                subst gi
                rw [if_neg g, if_pos rfl]
                have a1 : pk3 a b c / 1000000 = a := by unfold pk3; omega
                have a2 : pk3 a b c / 1000 % 1000 = b := by unfold pk3; omega
                have a3 : pk3 a b c % 1000 = c := by unfold pk3; omega
                rw [a1, a2, a3]
                refine ⟨hpk, ?_, ?_, ?_⟩ <;> simp [upd]
            · rw [k5, k4, k3, k2]
              exact mo_fr_tr (mo_fr_A (by simp)) (mo_fr_tr (mo_fr_A (by simp)) (mo_fr_tr (mo_fr_A (by simp)) (mo_fr_I (by simp))))
          · rw [f1, show (40 : Int32) = nI 40 from rfl, nI_eq (by omega) (by omega)] at q2
            exact n1 q2
        · rw [g] at q
          exact absurd q (by decide)
    | succ m ih =>
      intro k fl hk hfl
      have hkl : k < acc.length := by omega
      obtain ⟨g0, g1, g2, g3⟩ := f3 k hkl
      have e0 : (3 : Int32) * nI k = nI (3 * k) := by rw [show (3 : Int32) = nI 3 from rfl, pk_mul]
      have e1 : nI (3 * k) + (1 : Int32) = nI (3 * k + 1) := nI_1 _
      have e2 : nI (3 * k) + (2 : Int32) = nI (3 * k + 2) := nI_p _ 2
      have htk : pk3 a b c ∈ acc.take (k + 1) ↔ pk3 a b c ∈ acc.take k ∨ pk3 a b c = acc.getD k 0 := by
        rw [List.take_succ_eq_append_getElem hkl, List.mem_append, List.mem_singleton, gd_eq _ _ hkl]
      have hin : acc.getD k 0 ∈ acc := by rw [gd_eq _ _ hkl]; exact List.getElem_mem hkl
      refine h64 _ _ _ _ _ _ ⟨fun q => ?_, fun _ => ⟨fun q => ?_, fun q => ?_⟩⟩
      · rw [f1, nI_leI (by omega) (by omega)] at q
        omega
      · rw [nI_1]
        rcases hfl with ⟨g, -⟩ | ⟨g, g2⟩
        · exact absurd g q
        · exact ih (k + 1) 1 (by omega) (Or.inr ⟨rfl, g2⟩)
      · rcases hfl with ⟨-, n1, n2⟩ | ⟨g, -⟩
        · rw [e0, e1, e2, cl_nI (by omega), cl_nI (by omega), cl_nI (by omega), g1, g2, g3, nI_1]
          have no : pk3 a b c ≠ acc.getD k 0 → X64 (nI a) (nI b) (nI c) 0 (nI (k + 1)) μ1 := fun hne => ih (k + 1) 0 (by omega) (Or.inl ⟨rfl, n1, fun q => by
            rcases htk.mp q with q | q
            · exact n2 q
            · exact hne q⟩)
          refine ⟨vp_in_nI (by omega) (by omega), fun q2 => ?_, fun q2 => ⟨vp_in_nI (by omega) (by omega), fun q3 => ?_, fun q3 => ⟨vp_in_nI (by omega) (by omega), fun q4 => ?_, fun q4 => ?_⟩⟩⟩
          · rw [nI_eq (by omega) (by omega)] at q2
            exact no (fun e => q2 (by rw [← e]; unfold pk3; omega))
          · rw [nI_eq (by omega) (by omega)] at q3
            exact no (fun e => q3 (by rw [← e]; unfold pk3; omega))
          · rw [nI_eq (by omega) (by omega)] at q4
            exact no (fun e => q4 (by rw [← e]; unfold pk3; omega))
          · rw [nI_eq (by omega) (by omega)] at q2 q3 q4
            refine ih (k + 1) 1 (by omega) (Or.inr ⟨rfl, Or.inr ?_⟩)
            have : pk3 a b c = acc.getD k 0 := by unfold pk3; omega
            rw [this]
            exact hin
        · rw [g] at q
          exact absurd q (by decide)
  -- all solutions
  have main : ∀ (rest : List ev_T) (acc : List Nat) (μ1 : mo_U) (pix : Nat → Nat) (k : Nat) (C : Nat → Nat) (E : Nat → ev_T), it_S μ1 R N r ls (ps_of ls) pix → it_D μ1 N (ps_of ls) k C E → (remK (mr_S R N) (ps_of ls) E C k).filter (alltests (mr_S R N) ls) = rest → (∀ y ∈ rest, y ∈ sols (mr_S R N) (ps_of ls) ev0) → mo_F μ1 acc → frs ((T h).map Prod.fst) (rest.map (fun x => hk3 x hts)) acc = F → mo_fr [40, 41, 42, 50, 51, 52, 53] [840, 841, 842, 845] μ0 μ1 → mo_fr [50, 51, 52, 53] [840, 841, 842, 845] μ0 μ1 → X10 μ1 := by
    intro rest
    induction rest with
    | nil =>
      intro acc μ1 pix k C E hS hD hrem _ hf hfr9 hfr hfr4
      refine h10 _ (mo_next _ hS hD (fun _ μ2 hfr2 => ⟨fun _ => ?_, fun q => absurd rfl q⟩) (fun x rest hx => ?_))
      · have e : acc = F := hfr9
        subst e
        refine ins acc.length 0 μ2 R N (by omega) (mo_F_fr hf hfr2 (by simp) (by simp)) ?_ (mo_fr_tr hfr (mo_fr_mono hfr2 (by simp) (by simp)))
        have hw2 : mo_W μ2 R N T := mo_W_fr (mo_W_fr hW hfr4 (by simp) (by simp) (by simp)) hfr2 (by simp) (by simp) (by simp)
        have ef : (fun r' => if r' = h then (acc.take 0).foldl (fun l k => al_add l k 1) (T h) else T r') = T := by
          funext r'
          by_cases e : r' = h
          · rw [if_pos e, e]
            rfl
          · rw [if_neg e]
        rw [ef]
        exact hw2
      · rw [hrem] at hx
        cases hx
    | cons x rest ih =>
      intro acc μ1 pix k C E hS hD hrem hall hf hfr9 hfr hfr4
      refine h10 _ (mo_next _ hS hD (fun hx => ?_) (fun x' rest' hx μ2 C2 E2 hfr2 hD2 hx2 hrem2 => ⟨fun q => absurd q (by decide), fun _ => ?_⟩))
      · rw [hrem] at hx
        cases hx
      · rw [hrem] at hx
        cases hx
        have hS2 := it_S_fr hS hfr2
        have hfrA := mo_fr_tr hfr (mo_fr_mono (ts' := [40, 41, 42, 50, 51, 52, 53]) (fs' := [840, 841, 842, 845]) hfr2 (by simp) (by simp))
        have hfrB := mo_fr_tr hfr4 (mo_fr_mono (ts' := [50, 51, 52, 53]) (fs' := [840, 841, 842, 845]) hfr2 (by simp) (by simp))
        have hF2 := mo_F_fr hf hfr2 (by simp) (by simp)
        have e27 : μ2.2 27 = μ0.2 27 := hfrB.1 27 (by simp)
        have e26 : μ2.2 26 = μ0.2 26 := hfrB.1 26 (by simp)
        have hxs := hall x List.mem_cons_self
        have hxb : ∀ t, (t = hts.1 ∨ t = hts.2.1 ∨ t = hts.2.2) → t < 26 → x t ≠ none := by
          intro t ht t26
          obtain ⟨p, hp, hv⟩ := hhs t ⟨t26, by rcases ht with e | e | e <;> simp [e]⟩
          exact sols_bound hxs (Or.inr ⟨p, hp, ps_pos hp, hv⟩)
        have g3 : (ps_of ls).length ≤ 3 := h3
        have okx := hx2.1
        have t1 := tv_lt okx hhok.1
        have t2 := tv_lt okx hhok.2.1
        have t3 := tv_lt okx hhok.2.2
        have hk : hk3 x hts = pk3 (tv x hts.1) (tv x hts.2.1) (tv x hts.2.2) := rfl
        rw [List.map_cons, hk] at hfr9
        have hw2 : mo_W μ2 R N T := mo_W_fr hW hfrB (by simp) (by simp) (by simp)
        unfold tm3_ok tm_ok at hhok
        refine mo_headValue (i := 0) hS2.2.1 hS2.2.2.1 hr17' (by omega) g3 hx2 (by rw [e27]; exact hh0) hhok.1 (by have := hm.1; omega) (hxb _ (Or.inl rfl)) _ ?_
        refine mo_headValue (i := 1) hS2.2.1 hS2.2.2.1 hr17' (by omega) g3 hx2 (by rw [e27]; exact hh1) hhok.2.1 (by have := hm.2.1; omega) (hxb _ (Or.inr (Or.inl rfl))) _ ?_
        refine mo_headValue (i := 2) hS2.2.1 hS2.2.2.1 hr17' (by omega) g3 hx2 (by rw [e27]; exact hh2) hhok.2.2 (by have := hm.2.2; omega) (hxb _ (Or.inr (Or.inr rfl))) _ ?_
        rw [cl_nI (by omega), e26, hh26]
        refine ⟨vp_in_nI hr17' (by omega), ?_⟩
        have hrest : ∀ y ∈ rest, y ∈ sols (mr_S R N) (ps_of ls) ev0 := fun y hy => hall y (List.mem_cons_of_mem _ hy)
        have go := scan (tv x hts.1) (tv x hts.2.1) (tv x hts.2.2) acc μ2 t1 t2 t3 hF2 (fun hin => by
            simp only [frs, if_pos hin] at hfr9
            exact ih acc μ2 pix _ C2 E2 hS2 hD2 hrem2 hrest hF2 hfr9 hfrA hfrB) (fun n1 n2 => by
            have hn : ¬ (pk3 (tv x hts.1) (tv x hts.2.1) (tv x hts.2.2) ∈ (T h).map Prod.fst ∨ pk3 (tv x hts.1) (tv x hts.2.1) (tv x hts.2.2) ∈ acc) := fun q => by
              rcases q with q | q
              · exact n1 q
              · exact n2 q
            simp only [frs, if_neg hn] at hfr9
            refine ⟨fun h40 => hQF ?_ μ2 _ _ hS2.1 hfrA, fun _ μ3 hF3 hfr3 => ?_⟩
            · have := frs_len ((T h).map Prod.fst) (rest.map (fun x => hk3 x hts)) (acc ++ [pk3 (tv x hts.1) (tv x hts.2.1) (tv x hts.2.2)])
              rw [hfr9, List.length_append, List.length_singleton] at this
              omega
            · exact ih (acc ++ [pk3 (tv x hts.1) (tv x hts.2.1) (tv x hts.2.2)]) μ3 pix _ C2 E2 (it_S_fr2 hS2 hfr3 (by simp) (by simp)) (it_D_fr2 hD2 hfr3 (by simp) (by simp) (by simp)) hrem2 hrest hF3 hfr9 (mo_fr_tr hfrA (mo_fr_mono hfr3 (by simp) (by simp))) (mo_fr_tr hfrB (mo_fr_mono hfr3 (by simp) (by simp))))
        refine mo_findL hw2 hh8 t1 t2 t3 _ (fun hin => ⟨fun q => ?_, fun _ => ?_⟩) (fun hno => ⟨fun _ => ?_, fun q => absurd rfl q⟩)
        · have := al_b_le (T h) (pk3 (tv x hts.1) (tv x hts.2.1) (tv x hts.2.2))
          have h40 := (hw2.1.2 h hh8).2
          have e1 := hTh.1
          have e2 : (T h).length = N h := by rw [e1, mr_l_len]
          exact absurd q (ov_m1 (by omega))
        · exact go acc.length 0 1 (by omega) (Or.inr ⟨rfl, Or.inl ((hmem _).mpr hin)⟩)
        · exact go acc.length 0 0 (by omega) (Or.inl ⟨rfl, fun q => hno ((hmem _).mp q), by simp⟩)
  intro μ1 f1
  have hfr1 : mo_fr [] [845] μ0 μ1 := by
    rw [f1]
    exact mo_fr_I (by simp)
  refine mo_begin (mo_M_fr hW.1 hfr1 (by simp) (by simp) (by simp)) (mo_lits_fr ⟨hr17, h5, hlen, hlit⟩ hfr1 (by simp) (by simp) (by simp) (by simp)) h3 hsafe _ (fun μ2 pix hS2 hD2 hfr2 => ?_)
  refine main _ [] μ2 pix 1 _ _ hS2 hD2 rfl (fun y hy => ?_) ⟨?_, by simp, fun i hi => by simp at hi⟩ ?_ (mo_fr_tr (mo_fr_mono hfr1 (by simp) (by simp)) (mo_fr_mono hfr2 (by simp) (by simp))) (mo_fr_tr (mo_fr_mono hfr1 (by simp) (by simp)) (mo_fr_mono hfr2 (by simp) (by simp)))
  · rw [rem_begin] at hy
    exact (List.mem_filter.mp hy).1
  · rw [hfr2.2 845 (by simp), f1, mu_I_sI, if_pos rfl]
    rfl
  · rw [rem_begin]
    exact hF
