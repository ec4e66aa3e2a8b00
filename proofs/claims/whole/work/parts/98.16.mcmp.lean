/-! THE REFERENCE'S DIFFERENCES -/
def mo_DL (μ : mo_U) (dl : sl_T) : Prop := μ.1 836 = nI dl.length ∧ dl.length ≤ 640 ∧ fives (μ.2 49) 0 dl
theorem ref_differ {μ : mo_U} {dl : sl_T} (h : mo_DL μ dl) (hl : dl.length < 640) {v key : Nat} (hv : v < 8) (hk : key < 1000000000) (s : Int) (Q : mo_U → Prop) (hQ : ∀ μ', mo_fr [49] [836] μ μ' → mo_DL μ' (dl ++ [(v, key, s)]) → Q μ') : mp_differ (nI v) (nI (key / 1000000)) (nI (key / 1000 % 1000)) (nI (key % 1000)) (Int32.ofInt s) μ Q := by
  obtain ⟨h1, h2, h3⟩ := h
  unfold mp_differ
  rw [h1, nI_5, show (1 : Int32) = nI 1 from rfl, show (2 : Int32) = nI 2 from rfl, show (3 : Int32) = nI 3 from rfl, show (4 : Int32) = nI 4 from rfl]
  simp only [nI_k]
  rw [cl_nI (n := 5 * dl.length) (by omega), cl_nI (n := 5 * dl.length + 1) (by omega), cl_nI (n := 5 * dl.length + 2) (by omega), cl_nI (n := 5 * dl.length + 3) (by omega), cl_nI (n := 5 * dl.length + 4) (by omega)]
  refine ⟨vp_in_nI (by omega) (by decide), fun μ1 e1 => ⟨vp_in_nI (by omega) (by decide), fun μ2 e2 => ⟨vp_in_nI (by omega) (by decide), fun μ3 e3 => ⟨vp_in_nI (by omega) (by decide), fun μ4 e4 => ⟨vp_in_nI (by omega) (by decide), fun μ5 e5 μ6 e6 => ?_⟩⟩⟩⟩⟩
  have hA : μ6.2 49 = upd (upd (upd (upd (upd (μ.2 49) (5 * dl.length) (nI v)) (5 * dl.length + 1) (nI (key / 1000000))) (5 * dl.length + 2) (nI (key / 1000 % 1000))) (5 * dl.length + 3) (nI (key % 1000))) (5 * dl.length + 4) (Int32.ofInt s) := by
    rw [e6, mu_A_sI, e5, mu_A_sA, if_pos rfl, e4, mu_A_sA, if_pos rfl, e3, mu_A_sA, if_pos rfl, e2, mu_A_sA, if_pos rfl, e1, mu_A_sA, if_pos rfl]
  have hI : μ5.1 836 = nI dl.length := by rw [e5, e4, e3, e2, e1]; exact h1
  refine hQ μ6 ?_ ⟨?_, by rw [List.length_append, List.length_singleton]; omega, fun i hi => ?_⟩
  · rw [e6, e5, e4, e3, e2, e1]
    exact mo_fr_tr (mo_fr_A (by decide)) (mo_fr_tr (mo_fr_A (by decide)) (mo_fr_tr (mo_fr_A (by decide)) (mo_fr_tr (mo_fr_A (by decide)) (mo_fr_tr (mo_fr_A (by decide)) (mo_fr_I (by decide))))))
  · rw [e6, mu_I_sI, if_pos rfl, hI, nI_k, List.length_append, List.length_singleton]
  · rw [List.length_append, List.length_singleton] at hi
    rw [gd_snoc, hA, Nat.zero_add]
    by_cases z : i < dl.length
    · rw [if_pos z]
      obtain ⟨⟨k0, k1, k2, k3, k4⟩, k8, kk⟩ := h3 i z
      rw [Nat.zero_add] at k0 k1 k2 k3 k4
      refine ⟨?_, k8, kk⟩
      have e : ∀ q, q < 5 * dl.length → upd (upd (upd (upd (upd (μ.2 49) (5 * dl.length) (nI v)) (5 * dl.length + 1) (nI (key / 1000000))) (5 * dl.length + 2) (nI (key / 1000 % 1000))) (5 * dl.length + 3) (nI (key % 1000))) (5 * dl.length + 4) (Int32.ofInt s) q = μ.2 49 q := fun q hq => by
        unfold upd
        rw [if_neg (by omega), if_neg (by omega), if_neg (by omega), if_neg (by omega), if_neg (by omega)]
      unfold five
      rw [e _ (by omega), e _ (by omega), e _ (by omega), e _ (by omega), e _ (by omega)]
      exact ⟨k0, k1, k2, k3, k4⟩
    · have z2 : i = dl.length := by omega
      rw [if_neg z, if_pos z2, z2]
      refine ⟨?_, hv, hk⟩
      unfold five upd
      simp
def mo_WO (μ : mo_U) (R : mr_R) (N : Nat → Nat) (T : Nat → al_T) : Prop := mo_O μ R N ∧ ∀ r, r < 8 → T r = mr_l R N r ∧ al_s (T r)
theorem ref_compareAll {μ0 : mo_U} {G : pg_T} (hok : pg_ok G) {T T' : Nat → al_T} (hg : rf_L μ0 G) {R R' : mr_R} {N N' : Nat → Nat} (hW : mo_W μ0 R' N' T') (hO : mo_WO μ0 R N T) (h40 : ∀ v, (T v).length ≤ 40) (h40' : ∀ v, (T' v).length ≤ 40) (Q : mo_U → Prop) (hQ : ∀ μ, mo_fr [49] [836] μ0 μ → mo_DL μ (dff G T T' G.n) → Q μ) : mp_compareAll μ0 Q := by
  intro X7 X19 X48 X115 h7 h19 h48 h115
  have hn8 := hok.n8
  have main : ∀ m v μ, v + m = G.n → mo_fr [49] [836] μ0 μ → mo_DL μ (dff G T T' v) → X7 (nI v) μ := by
    intro m
    induction m with
    | zero =>
      intro v μ hv hf hD
      refine h7 _ _ ?_
      rw [hf.2 817 (by decide), hg.kn]
      exact ⟨fun _ => hQ μ hf (by rw [← show v = G.n by omega]; exact hD), fun q => absurd (nI_le (by omega) (by omega)) q⟩
    | succ m ih =>
      intro v μ hv hf hD
      have hvn : v < G.n := by omega
      have hv8 : v < 8 := by omega
      obtain ⟨t1, t2⟩ := hO.2 v hv8
      obtain ⟨u1, u2⟩ := hW.2 v hv8
      have hl : (T v).length = N v := by rw [t1, mr_l_len]
      have hl' : (T' v).length = N' v := by rw [u1, mr_l_len]
      have hgd : ∀ j, j < N v → (T v).getD j (0, 0) = R v j := fun j hj => by rw [t1, mr_l_gd R N v hj]
      have hgd' : ∀ j, j < N' v → (T' v).getD j (0, 0) = R' v j := fun j hj => by rw [u1, mr_l_gd R' N' v hj]
      have hds : dff G T T' (v + 1) = dff G T T' v ++ if G.vw v then df1 T T' v else [] := rfl
      have hdl := dff_len (G := G) h40 h40' v
      have hTv := h40 v
      have hTv' := h40' v
      cases hbv : G.vw v with
      | false =>
        refine h7 _ _ ?_
        rw [hf.2 817 (by decide), hg.kn]
        refine ⟨fun q => absurd q (nI_ge (by omega) (by omega)), fun _ => h19 _ _ _ _ ⟨vp_in_nI (by omega) (by decide), ?_⟩⟩
        rw [cl_nI (by omega), hf.1 36 (by decide), hg.vw v hvn, hbv]
        refine ⟨fun _ => ?_, fun q => absurd rfl q⟩
        rw [nI_1]
        refine ih (v + 1) μ (by omega) hf ?_
        rw [hds, hbv]
        simpa using hD
      | true =>
        have loop : ∀ k x y μ acc, x ≤ N v → y ≤ N' v → (N v - x) + (N' v - y) ≤ k → mo_fr [49] [836] μ0 μ → mo_DL μ (dff G T T' v ++ acc) → acc.length ≤ x + y → acc ++ (dmg 80 ((ks T v).drop x) ((ks T' v).drop y)).map (fun p => (v, p.1, p.2)) = df1 T T' v → X19 (nI v) (nI x) (nI y) μ := by
          intro k
          induction k with
          | zero =>
            intro x y μ acc hx hy hk hf hD hal he
            have ex : x = N v := by omega
            have ey : y = N' v := by omega
            refine h19 _ _ _ _ ⟨vp_in_nI (by omega) (by decide), ?_⟩
            rw [cl_nI (by omega), hf.1 36 (by decide), hg.vw v hvn, hbv, hf.1 45 (by decide), hf.1 42 (by decide), (hO.1.2 v hv8).1, (hW.1.2 v hv8).1]
            refine ⟨fun q => absurd q (by decide), fun _ => ⟨vp_in_nI (by omega) (by decide), fun q => ?_, fun _ => ⟨vp_in_nI (by omega) (by decide), fun _ => ?_, fun q => absurd (nI_le (by omega) (by omega)) q⟩⟩⟩
            · rw [nI_ltI (by omega) (by omega)] at q; omega
            · rw [nI_1]
              refine ih (v + 1) μ (by omega) hf ?_
              rw [hds, hbv, if_pos rfl, ← he, List.drop_eq_nil_of_le (by rw [ks_len]; omega), List.drop_eq_nil_of_le (by rw [ks_len]; omega), show dmg 80 [] [] = [] from rfl, List.map_nil, List.append_nil]
              exact hD
          | succ k ihk =>
            intro x y μ acc hx hy hk hf hD hal he
            by_cases hend : x = N v ∧ y = N' v
            · refine h19 _ _ _ _ ⟨vp_in_nI (by omega) (by decide), ?_⟩
              rw [cl_nI (by omega), hf.1 36 (by decide), hg.vw v hvn, hbv, hf.1 45 (by decide), hf.1 42 (by decide), (hO.1.2 v hv8).1, (hW.1.2 v hv8).1]
              refine ⟨fun q => absurd q (by decide), fun _ => ⟨vp_in_nI (by omega) (by decide), fun q => ?_, fun _ => ⟨vp_in_nI (by omega) (by decide), fun _ => ?_, fun q => absurd (nI_le (by omega) (by omega)) q⟩⟩⟩
              · rw [nI_ltI (by omega) (by omega)] at q; omega
              · rw [nI_1]
                refine ih (v + 1) μ (by omega) hf ?_
                rw [hds, hbv, if_pos rfl, ← he, List.drop_eq_nil_of_le (by rw [ks_len]; omega), List.drop_eq_nil_of_le (by rw [ks_len]; omega), show dmg 80 [] [] = [] from rfl, List.map_nil, List.append_nil]
                exact hD
            · have hDlen : (dff G T T' v ++ acc).length < 640 := by rw [List.length_append]; omega
              have dk : ∀ {x}, x < N v → (ks T v).drop x = (R v x).1 :: (ks T v).drop (x + 1) := fun {x} hx => by
                unfold ks
                rw [dropk (by omega), hgd x hx]
              have dk' : ∀ {y}, y < N' v → (ks T' v).drop y = (R' v y).1 :: (ks T' v).drop (y + 1) := fun {y} hy => by
                unfold ks
                rw [dropk (by omega), hgd' y hy]
              have lk : ∀ z, ((ks T v).drop z).length = N v - z := fun z => by rw [List.length_drop, ks_len, hl]
              have lk' : ∀ z, ((ks T' v).drop z).length = N' v - z := fun z => by rw [List.length_drop, ks_len, hl']
              -- an old row goes
              have goes : x < N v → (dmg 80 ((ks T v).drop x) ((ks T' v).drop y) = ((R v x).1, -1) :: dmg 80 ((ks T v).drop (x + 1)) ((ks T' v).drop y)) → X115 (nI v) (nI x) (nI y) (nI (120 * v + 3 * x)) (-1) μ := by
                intro h1 h2
                obtain ⟨a1, a2, a3, a4, _⟩ := hO.1.1 v x hv8 (by omega)
                refine h115 _ _ _ _ _ _ ⟨fun _ => ⟨fun _ => ?_, fun q => absurd (by decide) q⟩, fun q => absurd q (by decide)⟩
                rw [show (1 : Int32) = nI 1 from rfl, show (2 : Int32) = nI 2 from rfl]
                simp only [nI_k]
                rw [cl_nI (n := 120 * v + 3 * x) (by omega), cl_nI (n := 120 * v + 3 * x + 1) (by omega), cl_nI (n := 120 * v + 3 * x + 2) (by omega), hf.1 43 (by decide), a2, a3, a4, show (-nI 1 : Int32) = Int32.ofInt (-1) by decide]
                refine ⟨vp_in_nI (by omega) (by decide), vp_in_nI (by omega) (by decide), vp_in_nI (by omega) (by decide), ref_differ hD hDlen hv8 a1 (-1) _ (fun μ' hf' hD' => ?_)⟩
                refine ihk (x + 1) y μ' (acc ++ [(v, (R v x).1, -1)]) (by omega) hy (by omega) (mo_fr_tr hf hf') (by rw [← List.append_assoc]; exact hD') (by rw [List.length_append, List.length_singleton]; omega) ?_
                rw [← he, h2, List.map_cons, List.append_assoc]
                rfl
              have comes : ∀ w : Int32, ¬ w = 0 → ¬ w ≤ 0 → y < N' v → (dmg 80 ((ks T v).drop x) ((ks T' v).drop y) = ((R' v y).1, 1) :: dmg 80 ((ks T v).drop x) ((ks T' v).drop (y + 1))) → X115 (nI v) (nI x) (nI y) (nI (120 * v + 3 * x)) w μ := by
                intro w w1 w2 h1 h2
                obtain ⟨a1, a2, a3, a4, _⟩ := hW.1.1 v y hv8 (by omega)
                refine h115 _ _ _ _ _ _ ⟨fun _ => ⟨fun q => absurd q w2, fun _ => ?_⟩, fun q => absurd q w1⟩
                unfold mp_base
                rw [show (120 : Int32) = nI 120 from rfl, show (3 : Int32) = nI 3 from rfl, pk_mul, pk_mul, nI_k, show (1 : Int32) = nI 1 from rfl, show (2 : Int32) = nI 2 from rfl]
                simp only [nI_k]
                rw [cl_nI (n := 120 * v + 3 * y) (by omega), cl_nI (n := 120 * v + 3 * y + 1) (by omega), cl_nI (n := 120 * v + 3 * y + 2) (by omega), hf.1 40 (by decide), a2, a3, a4]
                refine ⟨vp_in_nI (by omega) (by decide), vp_in_nI (by omega) (by decide), vp_in_nI (by omega) (by decide), ref_differ hD hDlen hv8 a1 1 _ (fun μ' hf' hD' => ?_)⟩
                refine ihk x (y + 1) μ' (acc ++ [(v, (R' v y).1, 1)]) hx (by omega) (by omega) (mo_fr_tr hf hf') (by rw [← List.append_assoc]; exact hD') (by rw [List.length_append, List.length_singleton]; omega) ?_
                rw [← he, h2, List.map_cons, List.append_assoc]
                rfl
              have h48' : X48 (nI v) (nI x) (nI y) μ := by
                refine h48 _ _ _ _ ?_
                unfold mp_base
                dsimp only
                rw [show (120 : Int32) = nI 120 from rfl, show (3 : Int32) = nI 3 from rfl, pk_mul, pk_mul, nI_k, cl_nI (n := v) (by omega), hf.1 45 (by decide), hf.1 42 (by decide), (hO.1.2 v hv8).1, (hW.1.2 v hv8).1, nI_eq (by omega) (by omega), nI_eq (by omega) (by omega)]
                refine ⟨vp_in_nI (by omega) (by decide), fun hxn => ⟨vp_in_nI (by omega) (by decide), fun hyn => ?_, fun hye => ?_⟩, fun hxe => ?_⟩
                · have hx' : x < N v := by omega
                  have hy' : y < N' v := by omega
                  obtain ⟨a1, a2, a3, a4, _⟩ := hO.1.1 v x hv8 (by omega)
                  obtain ⟨b1, _⟩ := hW.1.1 v y hv8 (by omega)
                  rw [show (1 : Int32) = nI 1 from rfl, show (2 : Int32) = nI 2 from rfl]
                  simp only [nI_k]
                  rw [cl_nI (n := 120 * v + 3 * x) (by omega), cl_nI (n := 120 * v + 3 * x + 1) (by omega), cl_nI (n := 120 * v + 3 * x + 2) (by omega), hf.1 43 (by decide), a2, a3, a4]
                  have hM := mo_M_fr hW.1 hf (by decide) (by decide) (by decide)
                  refine ⟨vp_in_nI (by omega) (by decide), vp_in_nI (by omega) (by decide), vp_in_nI (by omega) (by decide), mo_compare hM hv8 (by omega) (by omega) (by omega) (by omega) _ ?_⟩
                  have hpk : pk3 ((R v x).1 / 1000000) ((R v x).1 / 1000 % 1000) ((R v x).1 % 1000) = (R v x).1 := by unfold pk3; omega
                  rw [hpk]
                  have hdm : dmg 80 ((ks T v).drop x) ((ks T' v).drop y) = if (R v x).1 < (R' v y).1 then ((R v x).1, -1) :: dmg 80 ((ks T v).drop (x + 1)) ((ks T' v).drop y) else if (R' v y).1 < (R v x).1 then ((R' v y).1, 1) :: dmg 80 ((ks T v).drop x) ((ks T' v).drop (y + 1)) else dmg 80 ((ks T v).drop (x + 1)) ((ks T' v).drop (y + 1)) := by
                    have d1 : dmg 79 ((ks T v).drop (x + 1)) ((ks T' v).drop y) = dmg 80 ((ks T v).drop (x + 1)) ((ks T' v).drop y) := dmg_ge 79 80 _ _ (by rw [lk, lk']; omega) (by rw [lk, lk']; omega)
                    have d2 : dmg 79 ((ks T v).drop x) ((ks T' v).drop (y + 1)) = dmg 80 ((ks T v).drop x) ((ks T' v).drop (y + 1)) := dmg_ge 79 80 _ _ (by rw [lk, lk']; omega) (by rw [lk, lk']; omega)
                    have d3 : dmg 79 ((ks T v).drop (x + 1)) ((ks T' v).drop (y + 1)) = dmg 80 ((ks T v).drop (x + 1)) ((ks T' v).drop (y + 1)) := dmg_ge 79 80 _ _ (by rw [lk, lk']; omega) (by rw [lk, lk']; omega)
                    rw [← d1, ← d2, ← d3, dk hx', dk' hy']
                    rfl
                  unfold mo_sg
                  by_cases c1 : (R v x).1 < (R' v y).1
                  · rw [if_pos c1]
                    exact goes hx' (by rw [hdm, if_pos c1])
                  · rw [if_neg c1]
                    by_cases c2 : (R v x).1 = (R' v y).1
                    · rw [if_pos c2]
                      refine h115 _ _ _ _ _ _ ⟨fun q => absurd rfl q, fun _ => ?_⟩
                      rw [nI_1, nI_1]
                      refine ihk (x + 1) (y + 1) μ acc (by omega) (by omega) (by omega) hf hD (by omega) ?_
                      rw [← he, hdm, if_neg c1, if_neg (by omega)]
                    · rw [if_neg c2]
                      exact comes 1 (by decide) (by decide) hy' (by rw [hdm, if_neg c1, if_pos (by omega)])
                · have hx' : x < N v := by omega
                  refine goes hx' ?_
                  have en : (ks T' v).drop y = [] := List.drop_eq_nil_of_le (by rw [ks_len]; omega)
                  rw [dk hx', en]
                  show _ :: dmg 79 _ [] = _
                  rw [dmg_ge 79 80 _ _ (by rw [lk, List.length_nil]; omega) (by rw [lk, List.length_nil]; omega)]
                · have hy' : y < N' v := by omega
                  refine comes 1 (by decide) (by decide) hy' ?_
                  have en : (ks T v).drop x = [] := List.drop_eq_nil_of_le (by rw [ks_len]; omega)
                  rw [dk' hy', en]
                  show _ :: dmg 79 [] _ = _
                  rw [dmg_ge 79 80 _ _ (by rw [lk', List.length_nil]; omega) (by rw [lk', List.length_nil]; omega)]
              refine h19 _ _ _ _ ⟨vp_in_nI (by omega) (by decide), ?_⟩
              rw [cl_nI (by omega), hf.1 36 (by decide), hg.vw v hvn, hbv, hf.1 45 (by decide), hf.1 42 (by decide), (hO.1.2 v hv8).1, (hW.1.2 v hv8).1]
              refine ⟨fun q => absurd q (by decide), fun _ => ⟨vp_in_nI (by omega) (by decide), fun _ => h48', fun q => ⟨vp_in_nI (by omega) (by decide), fun q2 => ?_, fun _ => h48'⟩⟩⟩
              exfalso
              rw [nI_ltI (by omega) (by omega)] at q
              rw [nI_leI (by omega) (by omega)] at q2
              exact hend ⟨by omega, by omega⟩
        refine h7 _ _ ?_
        rw [hf.2 817 (by decide), hg.kn]
        refine ⟨fun q => absurd q (nI_ge (by omega) (by omega)), fun _ => ?_⟩
        exact loop 80 0 0 μ [] (Nat.zero_le _) (Nat.zero_le _) (by omega) hf (by rw [List.append_nil]; exact hD) (Nat.zero_le _) rfl
  intro μ2 e2
  refine main G.n 0 μ2 (by omega) (by rw [e2]; exact mo_fr_I (by decide)) ?_
  rw [e2]
  exact ⟨by rw [mu_I_sI, if_pos rfl]; rfl, Nat.zero_le _, fun i hi => absurd hi (Nat.not_lt_zero i)⟩
