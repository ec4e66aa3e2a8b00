/-! THE REFERENCE: rows kept and taken back; removing and counting on lists -/
def kp_R (a b c a' b' c' : Nat) (μ μ' : mo_U) : Prop := (∀ i, i < 960 → μ'.2 a' i = μ.2 a i) ∧ (∀ i, i < 320 → μ'.2 b' i = μ.2 b i) ∧ (∀ i, i < 8 → μ'.2 c' i = μ.2 c i)
theorem kp_R.x {a b c a' b' c' : Nat} {μ μ' : mo_U} (h' : kp_R a b c a' b' c' μ μ') : ∀ i, i < 960 → μ'.2 a' i = μ.2 a i := h'.1
theorem kp_R.y {a b c a' b' c' : Nat} {μ μ' : mo_U} (h' : kp_R a b c a' b' c' μ μ') : ∀ i, i < 320 → μ'.2 b' i = μ.2 b i := h'.2.1
theorem kp_R.z {a b c a' b' c' : Nat} {μ μ' : mo_U} (h' : kp_R a b c a' b' c' μ μ') : ∀ i, i < 8 → μ'.2 c' i = μ.2 c i := h'.2.2
theorem mo_keep {μ0 : mo_U} (Q : mo_U → Prop) (hQ : ∀ μ, mo_fr [43, 44, 45] [] μ0 μ → kp_R 40 41 42 43 44 45 μ0 μ → Q μ) : mp_keep μ0 Q := by
  intro X2 X29 X56 h2 h29 h56
  have c3 : ∀ m i μ, i + m = 8 → mo_fr [43, 44, 45] [] μ0 μ → (∀ j, j < 960 → μ.2 43 j = μ0.2 40 j) → (∀ j, j < 320 → μ.2 44 j = μ0.2 41 j) → (∀ j, j < i → μ.2 45 j = μ0.2 42 j) → X56 (nI i) μ := by
    intro m
    induction m with
    | zero =>
      intro i μ hi hf e1 e2 e3
      exact h56 _ _ ⟨fun _ => hQ μ hf ⟨e1, e2, fun j hj => e3 j (by omega)⟩, fun q => absurd (nI_le (a := 8) (by omega) (by omega)) q⟩
    | succ m ih =>
      intro i μ hi hf e1 e2 e3
      refine h56 _ _ ⟨fun q => absurd q (nI_ge (b := 8) (by omega) (by omega)), fun _ => ⟨vp_in_nI (by omega) (by decide), vp_in_nI (by omega) (by decide), fun μ' e => ?_⟩⟩
      rw [cl_nI (by omega), hf.1 42 (by decide)] at e
      rw [nI_1, e]
      refine ih (i + 1) _ (by omega) (mo_fr_tr hf (mo_fr_A (by decide))) (fun j hj => ?_) (fun j hj => ?_) (fun j hj => ?_)
      · rw [mu_A_sA, if_neg (by decide)]; exact e1 j hj
      · rw [mu_A_sA, if_neg (by decide)]; exact e2 j hj
      · rw [mu_A_sA, if_pos rfl]
        unfold upd
        by_cases z : j = i
        · rw [if_pos z, z]
        · rw [if_neg z]; exact e3 j (by omega)
  have c2 : ∀ m i μ, i + m = 320 → mo_fr [43, 44, 45] [] μ0 μ → (∀ j, j < 960 → μ.2 43 j = μ0.2 40 j) → (∀ j, j < i → μ.2 44 j = μ0.2 41 j) → X29 (nI i) μ := by
    intro m
    induction m with
    | zero =>
      intro i μ hi hf e1 e2
      exact h29 _ _ ⟨fun _ => c3 8 0 μ rfl hf e1 (fun j hj => e2 j (by omega)) (fun j hj => absurd hj (Nat.not_lt_zero j)), fun q => absurd (nI_le (a := 320) (by omega) (by omega)) q⟩
    | succ m ih =>
      intro i μ hi hf e1 e2
      refine h29 _ _ ⟨fun q => absurd q (nI_ge (b := 320) (by omega) (by omega)), fun _ => ⟨vp_in_nI (by omega) (by decide), vp_in_nI (by omega) (by decide), fun μ' e => ?_⟩⟩
      rw [cl_nI (by omega), hf.1 41 (by decide)] at e
      rw [nI_1, e]
      refine ih (i + 1) _ (by omega) (mo_fr_tr hf (mo_fr_A (by decide))) (fun j hj => ?_) (fun j hj => ?_)
      · rw [mu_A_sA, if_neg (by decide)]; exact e1 j hj
      · rw [mu_A_sA, if_pos rfl]
        unfold upd
        by_cases z : j = i
        · rw [if_pos z, z]
        · rw [if_neg z]; exact e2 j (by omega)
  have c1 : ∀ m i μ, i + m = 960 → mo_fr [43, 44, 45] [] μ0 μ → (∀ j, j < i → μ.2 43 j = μ0.2 40 j) → X2 (nI i) μ := by
    intro m
    induction m with
    | zero =>
      intro i μ hi hf e1
      exact h2 _ _ ⟨fun _ => c2 320 0 μ rfl hf (fun j hj => e1 j (by omega)) (fun j hj => absurd hj (Nat.not_lt_zero j)), fun q => absurd (nI_le (a := 960) (by omega) (by omega)) q⟩
    | succ m ih =>
      intro i μ hi hf e1
      refine h2 _ _ ⟨fun q => absurd q (nI_ge (b := 960) (by omega) (by omega)), fun _ => ⟨vp_in_nI (by omega) (by decide), vp_in_nI (by omega) (by decide), fun μ' e => ?_⟩⟩
      rw [cl_nI (by omega), hf.1 40 (by decide)] at e
      rw [nI_1, e]
      refine ih (i + 1) _ (by omega) (mo_fr_tr hf (mo_fr_A (by decide))) (fun j hj => ?_)
      rw [mu_A_sA, if_pos rfl]
      unfold upd
      by_cases z : j = i
      · rw [if_pos z, z]
      · rw [if_neg z]; exact e1 j (by omega)
  exact c1 960 0 μ0 rfl mo_fr_rf (fun j hj => absurd hj (Nat.not_lt_zero j))
theorem mo_back {μ0 : mo_U} (Q : mo_U → Prop) (hQ : ∀ μ, mo_fr [40, 41, 42] [] μ0 μ → kp_R 43 44 45 40 41 42 μ0 μ → Q μ) : mp_back μ0 Q := by
  intro X2 X29 X56 h2 h29 h56
  have c3 : ∀ m i μ, i + m = 8 → mo_fr [40, 41, 42] [] μ0 μ → (∀ j, j < 960 → μ.2 40 j = μ0.2 43 j) → (∀ j, j < 320 → μ.2 41 j = μ0.2 44 j) → (∀ j, j < i → μ.2 42 j = μ0.2 45 j) → X56 (nI i) μ := by
    intro m
    induction m with
    | zero =>
      intro i μ hi hf e1 e2 e3
      exact h56 _ _ ⟨fun _ => hQ μ hf ⟨e1, e2, fun j hj => e3 j (by omega)⟩, fun q => absurd (nI_le (a := 8) (by omega) (by omega)) q⟩
    | succ m ih =>
      intro i μ hi hf e1 e2 e3
      refine h56 _ _ ⟨fun q => absurd q (nI_ge (b := 8) (by omega) (by omega)), fun _ => ⟨vp_in_nI (by omega) (by decide), vp_in_nI (by omega) (by decide), fun μ' e => ?_⟩⟩
      rw [cl_nI (by omega), hf.1 45 (by decide)] at e
      rw [nI_1, e]
      refine ih (i + 1) _ (by omega) (mo_fr_tr hf (mo_fr_A (by decide))) (fun j hj => ?_) (fun j hj => ?_) (fun j hj => ?_)
      · rw [mu_A_sA, if_neg (by decide)]; exact e1 j hj
      · rw [mu_A_sA, if_neg (by decide)]; exact e2 j hj
      · rw [mu_A_sA, if_pos rfl]
        unfold upd
        by_cases z : j = i
        · rw [if_pos z, z]
        · rw [if_neg z]; exact e3 j (by omega)
  have c2 : ∀ m i μ, i + m = 320 → mo_fr [40, 41, 42] [] μ0 μ → (∀ j, j < 960 → μ.2 40 j = μ0.2 43 j) → (∀ j, j < i → μ.2 41 j = μ0.2 44 j) → X29 (nI i) μ := by
    intro m
    induction m with
    | zero =>
      intro i μ hi hf e1 e2
      exact h29 _ _ ⟨fun _ => c3 8 0 μ rfl hf e1 (fun j hj => e2 j (by omega)) (fun j hj => absurd hj (Nat.not_lt_zero j)), fun q => absurd (nI_le (a := 320) (by omega) (by omega)) q⟩
    | succ m ih =>
      intro i μ hi hf e1 e2
      refine h29 _ _ ⟨fun q => absurd q (nI_ge (b := 320) (by omega) (by omega)), fun _ => ⟨vp_in_nI (by omega) (by decide), vp_in_nI (by omega) (by decide), fun μ' e => ?_⟩⟩
      rw [cl_nI (by omega), hf.1 44 (by decide)] at e
      rw [nI_1, e]
      refine ih (i + 1) _ (by omega) (mo_fr_tr hf (mo_fr_A (by decide))) (fun j hj => ?_) (fun j hj => ?_)
      · rw [mu_A_sA, if_neg (by decide)]; exact e1 j hj
      · rw [mu_A_sA, if_pos rfl]
        unfold upd
        by_cases z : j = i
        · rw [if_pos z, z]
        · rw [if_neg z]; exact e2 j (by omega)
  have c1 : ∀ m i μ, i + m = 960 → mo_fr [40, 41, 42] [] μ0 μ → (∀ j, j < i → μ.2 40 j = μ0.2 43 j) → X2 (nI i) μ := by
    intro m
    induction m with
    | zero =>
      intro i μ hi hf e1
      exact h2 _ _ ⟨fun _ => c2 320 0 μ rfl hf (fun j hj => e1 j (by omega)) (fun j hj => absurd hj (Nat.not_lt_zero j)), fun q => absurd (nI_le (a := 960) (by omega) (by omega)) q⟩
    | succ m ih =>
      intro i μ hi hf e1
      refine h2 _ _ ⟨fun q => absurd q (nI_ge (b := 960) (by omega) (by omega)), fun _ => ⟨vp_in_nI (by omega) (by decide), vp_in_nI (by omega) (by decide), fun μ' e => ?_⟩⟩
      rw [cl_nI (by omega), hf.1 43 (by decide)] at e
      rw [nI_1, e]
      refine ih (i + 1) _ (by omega) (mo_fr_tr hf (mo_fr_A (by decide))) (fun j hj => ?_)
      rw [mu_A_sA, if_pos rfl]
      unfold upd
      by_cases z : j = i
      · rw [if_pos z, z]
      · rw [if_neg z]; exact e1 j (by omega)
  exact c1 960 0 μ0 rfl mo_fr_rf (fun j hj => absurd hj (Nat.not_lt_zero j))
/-- the kept rows -/
def mo_O (μ : mo_U) (R : mr_R) (N : Nat → Nat) : Prop := (∀ r j, r < 8 → j < 40 → (R r j).1 < 1000000000 ∧ μ.2 43 (120 * r + 3 * j) = nI ((R r j).1 / 1000000) ∧ μ.2 43 (120 * r + 3 * j + 1) = nI ((R r j).1 / 1000 % 1000) ∧ μ.2 43 (120 * r + 3 * j + 2) = nI ((R r j).1 % 1000) ∧ μ.2 44 (40 * r + j) = Int32.ofInt (R r j).2) ∧ ∀ r, r < 8 → μ.2 45 r = nI (N r) ∧ N r ≤ 40
theorem mo_O_keep {μ μ' : mo_U} {R : mr_R} {N : Nat → Nat} (hM : mo_M μ R N) (hk : kp_R 40 41 42 43 44 45 μ μ') : mo_O μ' R N := by
  refine ⟨fun r j hr hj => ?_, fun r hr => ?_⟩
  · obtain ⟨h1, h2, h3, h4, h5⟩ := hM.1 r j hr hj
    exact ⟨h1, by rw [hk.x _ (by omega)]; exact h2, by rw [hk.x _ (by omega)]; exact h3, by rw [hk.x _ (by omega)]; exact h4, by rw [hk.y _ (by omega)]; exact h5⟩
  · rw [hk.z r hr]; exact hM.2 r hr
theorem mo_M_back {μ μ' : mo_U} {R : mr_R} {N : Nat → Nat} (hO : mo_O μ R N) (hk : kp_R 43 44 45 40 41 42 μ μ') : mo_M μ' R N := by
  refine ⟨fun r j hr hj => ?_, fun r hr => ?_⟩
  · obtain ⟨h1, h2, h3, h4, h5⟩ := hO.1 r j hr hj
    exact ⟨h1, by rw [hk.x _ (by omega)]; exact h2, by rw [hk.x _ (by omega)]; exact h3, by rw [hk.x _ (by omega)]; exact h4, by rw [hk.y _ (by omega)]; exact h5⟩
  · rw [hk.z r hr]; exact hO.2 r hr
theorem mo_O_fr {μ μ' : mo_U} {R : mr_R} {N : Nat → Nat} {ts fs : List Nat} (h : mo_O μ R N) (hf : mo_fr ts fs μ μ') (h1 : 43 ∉ ts) (h2 : 44 ∉ ts) (h3 : 45 ∉ ts) : mo_O μ' R N := by
  unfold mo_O
  rw [hf.1 43 h1, hf.1 44 h2, hf.1 45 h3]
  exact h
/-- a row taken out -/
def al_del (l : al_T) (key : Nat) : al_T := l.eraseIdx (al_b l key)
theorem al_del_s {l : al_T} (hs : al_s l) (key : Nat) : al_s (al_del l key) := List.Pairwise.sublist (List.eraseIdx_sublist _ _) hs
theorem al_del_sub {l : al_T} {key : Nat} {p : Nat × Int} (h : p ∈ al_del l key) : p ∈ l := List.mem_of_mem_eraseIdx h
theorem al_del_get : ∀ {l : al_T} {key : Nat}, al_s l → al_in l key → ∀ k, al_get (al_del l key) k = if k = key then 0 else al_get l k
  | [], key, _, ⟨p, hp, _⟩, _ => absurd hp List.not_mem_nil
  | p :: r, key, hs, hin, k => by
    obtain ⟨a1, a2⟩ := List.pairwise_cons.mp hs
    unfold al_del
    rw [al_b_cons]
    by_cases h1 : p.1 < key
    · rw [if_pos h1, List.eraseIdx_cons_succ]
      have hin' : al_in r key := by
        obtain ⟨q, hq, e⟩ := hin
        rcases List.mem_cons.mp hq with z | z
        · rw [z] at e; omega
        · exact ⟨q, z, e⟩
      have ih := al_del_get a2 hin' k
      unfold al_del at ih
      unfold al_get
      by_cases z : p.1 = k
      · rw [if_pos z, if_pos z, if_neg (by omega)]
      · rw [if_neg z, if_neg z]; exact ih
    · rw [if_neg h1, List.eraseIdx_cons_zero]
      have hpk : p.1 = key := by
        obtain ⟨q, hq, e⟩ := hin
        rcases List.mem_cons.mp hq with z | z
        · rw [← e, z]
        · have := a1 q z; omega
      by_cases z : k = key
      · rw [if_pos z]
        refine al_0 (fun ⟨q, hq, e⟩ => ?_)
        have := a1 q hq; omega
      · rw [if_neg z]
        conv => rhs; unfold al_get
        rw [if_neg (by omega)]
theorem mo_removeL {μ : mo_U} {R : mr_R} {N : Nat → Nat} {T : Nat → al_T} (hW : mo_W μ R N T) {r key : Nat} (hr : r < 8) (hin : al_in (T r) key) (Q : mo_U → Prop) (hQ : ∀ (μ' : mo_U) (R' : mr_R) (N' : Nat → Nat), mo_W μ' R' N' (fun v => if v = r then al_del (T r) key else T v) → mo_fr [40, 41, 42] [] μ μ' → Q μ') : mp_remove (nI r) (nI (al_b (T r) key)) μ Q := by
  obtain ⟨tr, ts⟩ := hW.2 r hr
  obtain ⟨p1, p2⟩ := al_pos ts hin
  have hlen : (T r).length = N r := by rw [tr, mr_l_len]
  have hgd : ∀ j, j < N r → (T r).getD j (0, 0) = R r j := fun j hj => by rw [tr, mr_l_gd R N r hj]
  refine mo_remove hW.1 hr (by omega) Q (fun μ' hM hf => hQ μ' _ _ ⟨hM, fun v hv => ?_⟩ hf)
  by_cases z : v = r
  · show (if v = r then al_del (T r) key else T v) = _ ∧ al_s (if v = r then al_del (T r) key else T v)
    rw [if_pos z, z]
    refine ⟨?_, al_del_s ts key⟩
    have hl2 : (al_del (T r) key).length = N r - 1 := by
      unfold al_del
      rw [List.length_eraseIdx, if_pos p1, hlen]
    refine al_ext ?_ (fun i hi => ?_)
    · rw [hl2, mr_l_len]; unfold mr_n; rw [if_pos rfl]
    · rw [hl2] at hi
      rw [mr_l_gd _ _ _ (by unfold mr_n; rw [if_pos rfl]; exact hi)]
      unfold al_del
      rw [gd_eq _ _ (by rw [List.length_eraseIdx, if_pos p1, hlen]; exact hi), List.getElem_eraseIdx]
      unfold mr_dn
      split
      · rename_i h1
        refine Eq.trans ?_ (if_neg (fun y => by omega)).symm
        rw [← hgd i (by omega), gd_eq _ _ (by omega)]
      · rename_i h1
        refine Eq.trans ?_ (if_pos ⟨rfl, by omega, hi⟩).symm
        rw [← hgd (i + 1) (by omega), gd_eq _ _ (by omega)]
  · show (if v = r then al_del (T r) key else T v) = _ ∧ al_s (if v = r then al_del (T r) key else T v)
    rw [if_neg z]
    obtain ⟨t1, t2⟩ := hW.2 v hv
    refine ⟨?_, t2⟩
    rw [t1]
    unfold mr_l mr_n mr_dn
    rw [if_neg z]
    apply List.map_congr_left
    intro j _
    rw [if_neg (fun y => z y.1)]
/-- a count set -/
theorem mo_setL {μ : mo_U} {R : mr_R} {N : Nat → Nat} {T : Nat → al_T} (hW : mo_W μ R N T) {r key : Nat} (hr : r < 8) (hin : al_in (T r) key) (d : Int) : ∃ R', mo_W (mu_sA μ 41 (upd (μ.2 41) (40 * r + al_b (T r) key) (Int32.ofInt (al_get (T r) key + d)))) R' N (fun v => if v = r then al_add (T r) key d else T v) := by
  obtain ⟨tr, ts⟩ := hW.2 r hr
  obtain ⟨p1, p2⟩ := al_pos ts hin
  have hlen : (T r).length = N r := by rw [tr, mr_l_len]
  have hgd : ∀ j, j < N r → (T r).getD j (0, 0) = R r j := fun j hj => by rw [tr, mr_l_gd R N r hj]
  have hN40 := (hW.1.2 r hr).2
  have hg : al_get (T r) key = ((T r).getD (al_b (T r) key) (0, 0)).2 := by rw [al_get_b _ _ ts, if_pos ⟨p1, p2⟩]
  refine ⟨mr_set R r (al_b (T r) key) (key, al_get (T r) key + d), ⟨⟨fun r' j hr' hj => ?_, fun r' hr' => ?_⟩, fun v hv => ?_⟩⟩
  · have h0 := hW.1.1 r' j hr' hj
    unfold mr_set mo_at
    simp only [mu_A_sA]
    by_cases z : r' = r ∧ j = al_b (T r) key
    · rw [if_pos z]
      have hk : (R r' j).1 = key := by rw [z.1, z.2, ← hgd _ (by omega)]; exact p2
      obtain ⟨a1, a2, a3, a4, a5⟩ := h0
      rw [hk] at a1 a2 a3 a4
      refine ⟨a1, a2, a3, a4, ?_⟩
      simp only [if_true]
      unfold upd
      rw [if_pos (by rw [z.1, z.2])]
    · rw [if_neg z]
      obtain ⟨a1, a2, a3, a4, a5⟩ := h0
      refine ⟨a1, a2, a3, a4, ?_⟩
      simp only [if_true]
      unfold upd
      rw [if_neg (fun y => z (by omega))]
      exact a5
  · rw [mu_A_sA, if_neg (by decide)]
    exact hW.1.2 r' hr'
  · show (if v = r then al_add (T r) key d else T v) = _ ∧ al_s (if v = r then al_add (T r) key d else T v)
    by_cases z : v = r
    · rw [if_pos z, z]
      refine ⟨?_, al_add_s ts⟩
      rw [al_add_old _ _ _ ts hin]
      refine al_ext (by rw [List.length_set, mr_l_len, hlen]) (fun i hi => ?_)
      rw [List.length_set, hlen] at hi
      rw [mr_l_gd _ _ _ hi, gd_set _ _ _ (by omega)]
      unfold mr_set
      by_cases y : i = al_b (T r) key
      · rw [if_pos y, if_pos ⟨rfl, y⟩, hg]
      · rw [if_neg y, if_neg (fun w => y w.2), hgd i hi]
    · rw [if_neg z]
      obtain ⟨t1, t2⟩ := hW.2 v hv
      refine ⟨?_, t2⟩
      rw [t1]
      unfold mr_l mr_set
      apply List.map_congr_left
      intro j _
      rw [if_neg (fun y => z y.1)]
