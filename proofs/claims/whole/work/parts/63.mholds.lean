theorem mo_valueOf {μ : mo_U} {t g : Nat} {x : ev_T} (hg : g ≤ 3) (hx : eB (μ.2 50) g x) (ht : t < 1100) (hm : t < 26 ∨ 100 ≤ t) (hb : t < 26 → x t ≠ none) (Q : Int32 → mo_U → Prop) (hQ : Q (nI (tv x t)) μ) : mp_valueOf (nI t) (nI g) μ Q := by
  obtain ⟨x1, x2, x3⟩ := hx
  unfold tv at hQ
  refine ⟨fun q => ?_, fun q => ?_⟩
  · rw [show (100 : Int32) = nI 100 from rfl, nI_ltI (by omega) (by omega)] at q
    rw [mo_bx, cl_nI (by omega), x3 t (by omega)]
    refine ⟨vp_in_nI (by omega) (by omega), ?_⟩
    rw [if_neg (by omega)] at hQ
    cases hx : x t with
    | none => exact absurd hx (hb (by omega))
    | some v =>
      rw [hx] at hQ
      exact hQ
  · rw [show (100 : Int32) = nI 100 from rfl, nI_ltI (by omega) (by omega)] at q
    rw [if_pos (by omega)] at hQ
    rw [show (100 : Int32) = nI 100 from rfl, pk_sub (by omega)]
    exact hQ
/-- the keys of the reference's rows -/
def mr_S (R : mr_R) (N : Nat → Nat) : Nat → List Nat := fun r => (List.range (N r)).map (fun j => (R r j).1)
theorem mr_S_mem {R : mr_R} {N : Nat → Nat} {r key : Nat} : key ∈ mr_S R N r ↔ ∃ j, j < N r ∧ (R r j).1 = key := by
  simp [mr_S]
theorem mr_S_ok {μ : mo_U} {R : mr_R} {N : Nat → Nat} (hM : mo_M μ R N) {r : Nat} (hr : r < 8) : ∀ key ∈ mr_S R N r, key < 1000000000 := by
  intro key hk
  obtain ⟨j, hj, rfl⟩ := mr_S_mem.mp hk
  have := (hM.2 r hr).2
  exact (hM.1 r j hr (by omega)).1
def d_lit : lit_T := (0, 0, 0, 0, 0)
/-- the literals of rule r -/
def mo_lits (μ : mo_U) (r : Nat) (ls : List lit_T) : Prop := r < 17 ∧ ls.length ≤ 5 ∧ μ.2 28 r = nI ls.length ∧ ∀ i, i < ls.length → mo_lit μ (5 * r + i) (ls.getD i d_lit)
theorem mo_holds {μ : mo_U} {R : mr_R} {N : Nat → Nat} (hM : mo_M μ R N) {r g : Nat} {ls : List lit_T} (hr : μ.1 842 = nI r) (hg : μ.1 841 = nI g) (hg3 : g ≤ 3) (hls : mo_lits μ r ls) {x : ev_T} (hx : eB (μ.2 50) g x) (hb : ∀ l ∈ ls, l.1 ≠ 0 → ∀ k, vin3 l.2.2 k → x k ≠ none) (Q : Int32 → mo_U → Prop)
    (hQ : Q (if alltests (mr_S R N) ls x then 1 else 0) μ) : mp_holds μ Q := by
  obtain ⟨hr17, h5, hlen, hlit⟩ := hls
  intro X9 X62 X94 h9 h62 h94
  have hat : ∀ i, i < ls.length → ls.getD i d_lit ∈ ls := fun i hi => by rw [gd_eq ls _ hi]; exact List.getElem_mem hi
  have e5 : (5 : Int32) * nI r = nI (5 * r) := by rw [show (5 : Int32) = nI 5 from rfl, pk_mul]
  have bad : ∀ i, i < ls.length → (ls.getD i d_lit).1 ≠ 0 → tst (mr_S R N) x (ls.getD i d_lit) = false → ∀ j, j ≤ ls.length → X9 0 (nI (5 * r + j)) μ := by
    intro i hi hn ht j hj
    have hf : alltests (mr_S R N) ls x = false := by
      unfold alltests
      rw [List.all_eq_false]
      refine ⟨ls.getD i d_lit, List.mem_filter.mpr ⟨hat i hi, by simpa using hn⟩, by rw [ht]; simp⟩
    rw [hf] at hQ
    have h9m := fun v1 v2 => h9 v1 v2 μ
    rw [hr] at h9m
    exact h9m _ _ ⟨vp_in_nI hr17 (by omega), fun _ => ⟨Or.inl rfl, hQ⟩, fun _ => ⟨fun _ => ⟨Or.inl rfl, hQ⟩, fun q => absurd rfl q⟩⟩
  have h9m := fun v1 v2 => h9 v1 v2 μ
  rw [hr, e5, cl_nI (by omega), hlen, nI_add] at h9m
  have h62m := fun v1 v2 t0 => h62 v1 v2 t0 μ
  have h94m := fun v1 v2 v3 t0 => h94 v1 v2 v3 t0 μ
  rw [hg] at h62m h94m h9m
  have loop : ∀ (m i : Nat), i + m = ls.length → (∀ j, j < i → (ls.getD j d_lit).1 ≠ 0 → tst (mr_S R N) x (ls.getD j d_lit) = true) → X9 1 (nI (5 * r + i)) μ := by
    intro m
    induction m with
    | zero =>
      intro i him hok
      have ht : alltests (mr_S R N) ls x = true := by
        unfold alltests
        rw [List.all_eq_true]
        intro l hl
        obtain ⟨h1, h2⟩ := List.mem_filter.mp hl
        obtain ⟨j, hj, rfl⟩ := List.getElem_of_mem h1
        have := hok j (by omega)
        rw [gd_eq ls _ hj] at this
        exact this (by simpa using h2)
      rw [ht] at hQ
      refine h9m _ _ ⟨vp_in_nI hr17 (by omega), fun _ => ⟨Or.inr rfl, hQ⟩, fun q => absurd (nI_le (by omega) (by omega)) q⟩
    | succ m ih =>
      intro i him hok
      have hi : i < ls.length := by omega
      obtain ⟨l1, l2, l3, l4, l5, l6, l7, l8, l9, l10⟩ := hlit i hi
      have hmem := hat i hi
      have hbi := hb _ hmem
      have hbad := bad i hi
      generalize hl : ls.getD i d_lit = l at *
      have go : (l.1 ≠ 0 → tst (mr_S R N) x l = true) → X9 1 (nI (5 * r + i) + (1 : Int32)) μ := by
        intro ht
        rw [nI_1]
        refine ih (i + 1) (by omega) (fun j hj => ?_)
        rcases Nat.lt_or_ge j i with g | g
        · exact hok j g
        · have : j = i := by omega
          subst this
          rw [hl]
          exact ht
      have no : l.1 ≠ 0 → tst (mr_S R N) x l = false → X9 0 (nI (5 * r + i) + (1 : Int32)) μ := by
        intro h1 h2
        rw [nI_1]
        exact hbad h1 h2 (i + 1) (by omega)
      have e30 : (3 : Int32) * nI (5 * r + i) = nI (3 * (5 * r + i)) := by rw [show (3 : Int32) = nI 3 from rfl, pk_mul]
      have e31 : nI (3 * (5 * r + i)) + (1 : Int32) = nI (3 * (5 * r + i) + 1) := nI_1 _
      have e32 : nI (3 * (5 * r + i)) + (2 : Int32) = nI (3 * (5 * r + i) + 2) := nI_p _ 2
      unfold tm3_ok tm_ok at l9
      have vL : vp_in (nI (5 * r + i)) 85 := vp_in_nI (by omega) (by omega)
      refine h9m _ _ ⟨vp_in_nI hr17 (by omega), fun q => ?_, fun _ => ⟨fun q => absurd q (by decide), fun _ => ⟨vL, fun q => ?_, fun q => ?_⟩⟩⟩
      · rw [nI_leI (by omega) (by omega)] at q
        omega
      · -- a test
        rw [cl_nI (by omega), l1, show (0 : Int32) = nI 0 from rfl, nI_eq (by omega) (by omega)] at q
        rw [e30, cl_nI (by omega), l3]
        refine ⟨vp_in_nI (by omega) (by omega), mo_valueOf hg3 hx l9.1 l10.1 (fun g => hbi q _ ⟨g, Or.inl rfl⟩) _ ?_⟩
        refine h62m _ _ _ ⟨vL, fun _ => ?_, fun q2 => ?_⟩
        · rw [e30, e31, cl_nI (by omega), l4]
          refine ⟨vp_in_nI (by omega) (by omega), mo_valueOf hg3 hx l9.2.1 l10.2.1 (fun g => hbi q _ ⟨g, Or.inr (Or.inl rfl)⟩) _ ?_⟩
          have tv1 := tv_lt hx.1 (show tm_ok l.2.2.1 from l9.1)
          have tv2 := tv_lt hx.1 (show tm_ok l.2.2.2.1 from l9.2.1)
          have tv3 := tv_lt hx.1 (show tm_ok l.2.2.2.2 from l9.2.2)
          refine h94m _ _ _ _ ⟨vL, fun q1 => ⟨vL, fun q2 => ?_, fun q2 => ?_⟩, fun q1 => ⟨vL, ?_⟩⟩
          · rw [cl_nI (by omega), l1, show (1 : Int32) = nI 1 from rfl, nI_eq (by omega) (by omega)] at q1
            rw [cl_nI (by omega), l1, show (2 : Int32) = nI 2 from rfl, nI_eq (by omega) (by omega)] at q2
            omega
          · rw [cl_nI (by omega), l1, show (1 : Int32) = nI 1 from rfl, nI_eq (by omega) (by omega)] at q1
            rw [cl_nI (by omega), l2]
            refine ⟨vL, fun q3 => ⟨vL, fun q4 => ⟨fun q5 => ?_, fun q5 => ?_⟩, fun q4 => ⟨fun q5 => ?_, fun q5 => ?_⟩⟩, fun q3 => ⟨fun q5 => ?_, fun q5 => ?_⟩⟩
            all_goals first | rw [show (60 : Int32) = nI 60 from rfl, nI_eq (by omega) (by omega)] at q3 | skip
            all_goals first | rw [show (61 : Int32) = nI 61 from rfl, nI_eq (by omega) (by omega)] at q4 | skip
            all_goals first | rw [nI_eq (by omega) (by omega)] at q5 | rw [nI_leI (by omega) (by omega)] at q5
            · refine no q ?_
              unfold tst
              rw [if_neg q1, if_neg q3, if_neg q4]
              simp [q5]
            · refine go (fun _ => ?_)
              unfold tst
              rw [if_neg q1, if_neg q3, if_neg q4]
              simp [q5]
            · refine no q ?_
              unfold tst
              rw [if_neg q1, if_neg q3, if_pos q4]
              simp [q5]
            · refine go (fun _ => ?_)
              unfold tst
              rw [if_neg q1, if_neg q3, if_pos q4]
              simp [q5]
            · refine no q ?_
              unfold tst
              rw [if_neg q1, if_pos q3]
              simp
              omega
            · refine go (fun _ => ?_)
              unfold tst
              rw [if_neg q1, if_pos q3]
              simp
              omega
          · rw [cl_nI (by omega), l1, show (1 : Int32) = nI 1 from rfl, nI_eq (by omega) (by omega)] at q1
            rw [cl_nI (by omega), l2, e30, e32, cl_nI (by omega), l5]
            have hrel := l8 (by omega)
            refine ⟨vp_in_nI (by omega) (by omega), mo_valueOf hg3 hx l9.2.2 l10.2.2 (fun g => hbi q _ ⟨g, Or.inr (Or.inr rfl)⟩) _ ?_⟩
            refine mo_find hM hrel tv1 tv2 tv3 _ (fun j hj hjk _ => ⟨fun _ => ?_, fun q2 => ?_⟩) (fun hno => ⟨fun q2 => absurd rfl q2, fun _ => ?_⟩)
            · refine no q ?_
              unfold tst
              rw [if_pos q1, decide_eq_false_iff_not]
              exact fun h => h (mr_S_mem.mpr ⟨j, hj, hjk⟩)
            · have := (hM.2 l.2.1 hrel).2
              exact absurd q2 (ov_m1 (by omega))
            · refine go (fun _ => ?_)
              unfold tst
              rw [if_pos q1, decide_eq_true_iff]
              intro h
              obtain ⟨j, hj, hjk⟩ := mr_S_mem.mp h
              exact hno j hj hjk
        · rw [cl_nI (by omega), l1, show (0 : Int32) = nI 0 from rfl, nI_eq (by omega) (by omega)] at q2
          exact absurd q2 q
      · -- a positive literal
        rw [cl_nI (by omega), l1, show (0 : Int32) = nI 0 from rfl, nI_eq (by omega) (by omega)] at q
        refine h62m _ _ _ ⟨vL, fun q2 => ?_, fun _ => ?_⟩
        · rw [cl_nI (by omega), l1, show (0 : Int32) = nI 0 from rfl, nI_eq (by omega) (by omega)] at q2
          exact absurd q q2
        · refine h94m _ _ _ _ ⟨vL, fun _ => ⟨vL, fun _ => go (fun g => absurd q g), fun q2 => ?_⟩, fun q1 => ?_⟩
          · rw [cl_nI (by omega), l1, show (2 : Int32) = nI 2 from rfl, nI_eq (by omega) (by omega)] at q2
            omega
          · rw [cl_nI (by omega), l1, show (1 : Int32) = nI 1 from rfl, nI_eq (by omega) (by omega)] at q1
            omega
  show X9 1 ((5 : Int32) * μ.1 842) μ
  rw [hr, e5]
  exact loop ls.length 0 (by omega) (fun j hj => by omega)
