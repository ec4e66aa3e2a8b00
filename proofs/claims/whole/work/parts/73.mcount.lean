def tmi (hts : tm_T) (i : Nat) : Nat := if i = 0 then hts.1 else if i = 1 then hts.2.1 else hts.2.2
theorem mo_markOf {μ : mo_U} {r h : Nat} {hts : tm_T} {mk : Nat} (hr : r < 17) (hh : mo_head μ r h hts) (hmk : mk < 3) (hu : ∀ i, i < 3 → (tmi hts i = 99 ↔ i = mk)) (Q : Int32 → mo_U → Prop) (hQ : Q (nI mk) μ) : mp_markOf (nI r) μ Q := by
  obtain ⟨-, -, h0, h1, h2, o1, o2, o3⟩ := hh
  unfold tm_ok at o1 o2 o3
  have h27 : ∀ i, i < 3 → μ.2 27 (3 * r + i) = nI (tmi hts i) ∧ tmi hts i < 1100 := by
    intro i hi
    rcases (show i = 0 ∨ i = 1 ∨ i = 2 by omega) with rfl | rfl | rfl
    · exact ⟨h0, o1⟩
    · exact ⟨h1, o2⟩
    · exact ⟨h2, o3⟩
  intro X4 h4
  have loop : ∀ (m i : Nat), i + m = 3 → X4 (if mk < i then nI mk else -1) (nI i) μ := by
    intro m
    induction m with
    | zero =>
      intro i hi
      have : i = 3 := by omega
      subst this
      rw [if_pos hmk]
      exact h4 _ _ _ ⟨fun _ => hQ, fun q => absurd (by decide) q⟩
    | succ m ih =>
      intro i hi
      obtain ⟨e1, e2⟩ := h27 i (by omega)
      have hi3 := hu i (by omega)
      have ih := ih (i + 1) (by omega)
      refine h4 _ _ _ ⟨fun q => ?_, fun _ => ?_⟩
      · rw [show (3 : Int32) = nI 3 from rfl, nI_leI (by omega) (by omega)] at q
        omega
      · rw [mo_lx, cl_nI (by omega), e1, nI_1]
        refine ⟨vp_in_nI (by omega) (by omega), fun q => ?_, fun q => ?_⟩
        · rw [show (99 : Int32) = nI 99 from rfl, nI_eq (by omega) (by omega)] at q
          have hne : ¬ i = mk := fun e => q (hi3.mpr e)
          have : (if mk < i then nI mk else (-1 : Int32)) = if mk < i + 1 then nI mk else -1 := by
            by_cases g : mk < i
            · rw [if_pos g, if_pos (by omega)]
            · rw [if_neg g, if_neg (by omega)]
          rw [this]
          exact ih
        · rw [show (99 : Int32) = nI 99 from rfl, nI_eq (by omega) (by omega)] at q
          have he : i = mk := hi3.mp q
          rw [if_pos (by omega), ← he] at ih
          exact ih
  have := loop 3 0 (by omega)
  rw [if_neg (by omega)] at this
  exact this
/-- the reference's groups: their rows (the number's place 0) and numbers -/
def mo_C (μ : mo_U) (gs : List (Nat × Nat)) : Prop := μ.1 845 = nI gs.length ∧ gs.length ≤ 40 ∧ ∀ i, i < gs.length → (gs.getD i (0, 0)).1 < 1000000000 ∧ (gs.getD i (0, 0)).1 % 1000 = 0 ∧ μ.2 53 (3 * i) = nI ((gs.getD i (0, 0)).1 / 1000000) ∧ μ.2 53 (3 * i + 1) = nI ((gs.getD i (0, 0)).1 / 1000 % 1000) ∧ μ.2 54 i = nI (gs.getD i (0, 0)).2 ∧ (gs.getD i (0, 0)).2 ≤ 100000
theorem mo_C_fr {μ μ' : mo_U} {gs : List (Nat × Nat)} {ts fs : List Nat} (h : mo_C μ gs) (hf : mo_fr ts fs μ μ') (h1 : 53 ∉ ts) (h2 : 54 ∉ ts) (h3 : 845 ∉ fs) : mo_C μ' gs := by
  unfold mo_C
  rw [hf.1 53 h1, hf.1 54 h2, hf.2 845 h3]
  exact h
/-- where a group stands -/
theorem gad_old : ∀ (l : List (Nat × Nat)) (g j : Nat), j < l.length → (l.getD j (0, 0)).1 = g → (∀ i, i < j → (l.getD i (0, 0)).1 ≠ g) → gad l g = l.set j (g, (l.getD j (0, 0)).2 + 1)
  | [], g, j, hj, _, _ => by simp at hj
  | p :: r, g, 0, _, he, _ => by
    have he' : p.1 = g := by simpa using he
    simp [gad, he']
  | p :: r, g, j + 1, hj, he, hno => by
    have h0 : ¬ p.1 = g := by simpa using hno 0 (by omega)
    simp only [gad, if_neg h0, List.set_cons_succ, List.getD_cons_succ]
    rw [gad_old r g j (by simpa using hj) (by simpa using he) (fun i hi => by simpa using hno (i + 1) (by omega))]
theorem gad_new : ∀ (l : List (Nat × Nat)) (g : Nat), (∀ i, i < l.length → (l.getD i (0, 0)).1 ≠ g) → gad l g = l ++ [(g, 1)]
  | [], g, _ => rfl
  | p :: r, g, h => by
    have h0 : ¬ p.1 = g := by simpa using h 0 (by simp)
    simp only [gad, if_neg h0, List.cons_append]
    rw [gad_new r g (fun i hi => by simpa using h (i + 1) (by simpa using hi))]
