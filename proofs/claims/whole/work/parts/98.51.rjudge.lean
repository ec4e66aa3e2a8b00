theorem ref_letters {μ : mo_U} {b1 base : Nat} (hb : b1 = 27 ∨ b1 = 31) (hl : base + 3 ≤ mo_len b1) {ts : tm_T} (hc : ∀ j, j < 3 → μ.2 b1 (base + j) = nI (tmi ts j)) (ht : tm3_ok ts) (Q : Int32 → mo_U → Prop) (h : ∀ m, (∀ k, k < 32 → (bi m k = true ↔ vin3 ts k)) → Q m μ) : mp_lettersOf b1 (nI base) μ Q := by
  intro X4 h4
  have mok : mo_ok b1 0 := by rcases hb with rfl | rfl <;> exact ⟨by decide, by decide, by decide⟩
  have hlen : mo_len b1 ≤ 255 := by rcases hb with rfl | rfl <;> decide
  have hti : ∀ j, j < 3 → tmi ts j < 1100 := fun j hj => by
    rcases (show j = 0 ∨ j = 1 ∨ j = 2 by omega) with rfl | rfl | rfl
    · exact ht.1
    · exact ht.2.1
    · exact ht.2.2
  have main : ∀ k i m, i + k = 3 → (∀ x, x < 32 → (bi m x = true ↔ x < 26 ∧ ∃ j, j < i ∧ tmi ts j = x)) → X4 m (nI i) μ := by
    intro k
    induction k with
    | zero =>
      intro i m hi hm
      refine h4 _ _ _ ⟨fun _ => h m (fun x hx => ?_), fun z => absurd (nI_le (a := 3) (by omega) (by omega)) z⟩
      rw [hm x hx]
      unfold vin3
      refine and_congr Iff.rfl ⟨?_, ?_⟩
      · rintro ⟨j, hj, e⟩
        rcases (show j = 0 ∨ j = 1 ∨ j = 2 by omega) with rfl | rfl | rfl
        · exact Or.inl e
        · exact Or.inr (Or.inl e)
        · exact Or.inr (Or.inr e)
      · rintro (e | e | e)
        · exact ⟨0, by omega, e⟩
        · exact ⟨1, by omega, e⟩
        · exact ⟨2, by omega, e⟩
    | succ k ih =>
      intro i m hi hm
      refine h4 _ _ _ ⟨fun z => absurd z (nI_ge (b := 3) (by omega) (by decide)), fun _ => ⟨mok, ?_⟩⟩
      have := hti i (by omega)
      rw [nI_k, cl_nI (by omega), hc i (by omega), nI_1, show (26 : Int32) = nI 26 from rfl, nI_leI (by decide) (by omega)]
      refine ⟨vp_in_nI (by omega) (by omega), fun z => ?_, fun z => ⟨mok, vp_in_nI (by omega) (by omega), ?_⟩⟩
      · refine ih (i + 1) _ (by omega) (fun x hx => ?_)
        rw [bi_or2 _ _ hx, bi_0, Bool.or_false, hm x hx]
        refine and_congr_right (fun hx26 => ⟨fun ⟨j, hj, e⟩ => ⟨j, by omega, e⟩, fun ⟨j, hj, e⟩ => ⟨j, ?_, e⟩⟩)
        by_cases y : j = i
        · rw [y] at e; omega
        · omega
      · refine ih (i + 1) _ (by omega) (fun x hx => ?_)
        rw [bi_or _ (by omega) hx, Bool.or_eq_true, decide_eq_true_iff, hm x hx]
        constructor
        · rintro (⟨g1, j, g2, g3⟩ | e)
          · exact ⟨g1, j, by omega, g3⟩
          · exact ⟨by omega, i, by omega, e.symm⟩
        · rintro ⟨g1, j, g2, g3⟩
          by_cases y : j = i
          · rw [y] at g3; exact Or.inr g3.symm
          · exact Or.inl ⟨g1, j, by omega, g3⟩
  refine main 3 0 0 rfl (fun x hx => ?_)
  rw [bi_0]
  exact ⟨fun z => absurd z (by decide), fun ⟨_, j, hj, _⟩ => absurd hj (Nat.not_lt_zero j)⟩
theorem loose_iff {ts : tm_T} {ls : List lit_T} : loose ts ls = true ↔ ∃ k, (vin3 ts k ∨ ∃ l ∈ ts_of ls, vin3 l.2.2 k) ∧ ¬ ∃ l ∈ ps_of ls, vin3 l.2.2 k := by
  unfold loose
  rw [List.any_eq_true]
  constructor
  · rintro ⟨k, hk, h⟩
    have hk26 := List.mem_range.mp hk
    rw [Bool.and_eq_true, Bool.or_eq_true, Bool.or_eq_true, Bool.or_eq_true, decide_eq_true_iff, decide_eq_true_iff, decide_eq_true_iff, List.any_eq_true, Bool.not_eq_true'] at h
    refine ⟨k, ?_, fun z => ?_⟩
    · rcases h.1 with ((e | e) | e) | ⟨l, hl, e⟩
      · exact Or.inl ⟨hk26, Or.inl e⟩
      · exact Or.inl ⟨hk26, Or.inr (Or.inl e)⟩
      · exact Or.inl ⟨hk26, Or.inr (Or.inr e)⟩
      · rw [Bool.or_eq_true, Bool.or_eq_true, decide_eq_true_iff, decide_eq_true_iff, decide_eq_true_iff] at e
        exact Or.inr ⟨l, hl, hk26, or_assoc.mp e⟩
    · rw [vlt_iff.mpr z] at h
      exact absurd h.2 (by decide)
  · rintro ⟨k, h1, h2⟩
    have hk26 : k < 26 := by
      rcases h1 with z | ⟨l, _, z⟩
      · exact z.1
      · exact z.1
    refine ⟨k, List.mem_range.mpr hk26, ?_⟩
    rw [Bool.and_eq_true, Bool.or_eq_true, Bool.or_eq_true, Bool.or_eq_true, decide_eq_true_iff, decide_eq_true_iff, decide_eq_true_iff, List.any_eq_true, Bool.not_eq_true']
    refine ⟨?_, ?_⟩
    · rcases h1 with z | ⟨l, hl, z⟩
      · exact Or.inl (or_assoc.mpr z.2)
      · refine Or.inr ⟨l, hl, ?_⟩
        rw [Bool.or_eq_true, Bool.or_eq_true, decide_eq_true_iff, decide_eq_true_iff, decide_eq_true_iff]
        exact or_assoc.mpr z.2
    · cases hv : vlt ls k with
      | false => rfl
      | true => exact absurd (vlt_iff.mp hv) h2
theorem ts_snoc {ls : List lit_T} {i : Nat} (h : i < ls.length) : (∀ l, l ∈ ps_of (ls.take (i + 1)) ↔ l ∈ ps_of (ls.take i) ∨ (l = ls.getD i d_lit ∧ l.1 = 0)) ∧ ∀ l, l ∈ ts_of (ls.take (i + 1)) ↔ l ∈ ts_of (ls.take i) ∨ (l = ls.getD i d_lit ∧ ¬ l.1 = 0) := by
  unfold ps_of ts_of
  rw [List.take_succ_eq_append_getElem h, gd_eq _ _ h]
  refine ⟨fun l => ?_, fun l => ?_⟩
  · rw [List.mem_filter, List.mem_append, List.mem_singleton, List.mem_filter, decide_eq_true_iff]
    constructor
    · rintro ⟨z | z, w⟩
      · exact Or.inl ⟨z, w⟩
      · exact Or.inr ⟨z, w⟩
    · rintro (⟨z, w⟩ | ⟨z, w⟩)
      · exact ⟨Or.inl z, w⟩
      · exact ⟨Or.inr z, w⟩
  · rw [List.mem_filter, List.mem_append, List.mem_singleton, List.mem_filter, decide_eq_true_iff]
    constructor
    · rintro ⟨z | z, w⟩
      · exact Or.inl ⟨z, w⟩
      · exact Or.inr ⟨z, w⟩
    · rintro (⟨z, w⟩ | ⟨z, w⟩)
      · exact ⟨Or.inl z, w⟩
      · exact ⟨Or.inr z, w⟩
