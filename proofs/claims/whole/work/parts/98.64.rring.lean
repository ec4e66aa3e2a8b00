def badE (rs : List ru_T) (v u : Nat) : Prop := edgS rs v u ∧ rea rs u v
def bad (rs : List ru_T) (x : Nat) : Prop := ∃ v u, badE rs v u ∧ (v = x ∨ (rea rs x v ∧ rea rs v x))
def badI (rs : List ru_T) (x i j : Nat) : Prop := (∃ i', i' < i ∧ ∃ l ∈ (rs.getD i' d_ru).ls, (l.1 = 1 ∨ (l.1 = 0 ∧ (rs.getD i' d_ru).c = true)) ∧ rea rs l.2.1 (rs.getD i' d_ru).h ∧ ((rs.getD i' d_ru).h = x ∨ (rea rs x (rs.getD i' d_ru).h ∧ rea rs (rs.getD i' d_ru).h x))) ∨ ∃ j', j' < j ∧ (((rs.getD i d_ru).ls.getD j' d_lit).1 = 1 ∨ (((rs.getD i d_ru).ls.getD j' d_lit).1 = 0 ∧ (rs.getD i d_ru).c = true)) ∧ rea rs ((rs.getD i d_ru).ls.getD j' d_lit).2.1 (rs.getD i d_ru).h ∧ ((rs.getD i d_ru).h = x ∨ (rea rs x (rs.getD i d_ru).h ∧ rea rs (rs.getD i d_ru).h x))
theorem badI_n {rs : List ru_T} {x i : Nat} : badI rs x i (rs.getD i d_ru).ls.length ↔ badI rs x (i + 1) 0 := by
  unfold badI
  constructor
  · rintro (⟨i', h1, h2⟩ | ⟨j', h2, h3⟩)
    · exact Or.inl ⟨i', by omega, h2⟩
    · exact Or.inl ⟨i, by omega, _, (by rw [gd_eq _ _ h2]; exact List.getElem_mem h2), h3⟩
  · rintro (⟨i', h1, l, h3, h4⟩ | ⟨j', h2, _⟩)
    · by_cases z : i' = i
      · rw [z] at h3 h4
        obtain ⟨j', hj, e⟩ := List.getElem_of_mem h3
        exact Or.inr ⟨j', hj, by rw [gd_eq _ _ hj, e]; exact h4⟩
      · exact Or.inl ⟨i', by omega, l, h3, h4⟩
    · exact absurd h2 (Nat.not_lt_zero _)
theorem badI_end {rs : List ru_T} {x : Nat} : badI rs x rs.length 0 ↔ bad rs x := by
  unfold badI bad badE edgS
  constructor
  · rintro (⟨i', h1, l, h3, h4, h5, h6⟩ | ⟨j', h2, _⟩)
    · exact ⟨_, _, ⟨⟨_, (by rw [gd_eq _ _ h1]; exact List.getElem_mem h1), rfl, l, h3, h4, rfl⟩, h5⟩, h6⟩
    · exact absurd h2 (Nat.not_lt_zero _)
  · rintro ⟨v, u, ⟨⟨r, hr, e, l, hl, h1, h2⟩, h3⟩, h4⟩
    obtain ⟨i', hi, e'⟩ := List.getElem_of_mem hr
    refine Or.inl ⟨i', hi, ?_⟩
    rw [gd_eq _ _ hi, e']
    rw [← e, ← h2] at h3
    rw [← e] at h4
    exact ⟨l, hl, h1, h3, h4⟩
theorem badI_s {rs : List ru_T} {x i j : Nat} : badI rs x i (j + 1) ↔ badI rs x i j ∨ ((((rs.getD i d_ru).ls.getD j d_lit).1 = 1 ∨ (((rs.getD i d_ru).ls.getD j d_lit).1 = 0 ∧ (rs.getD i d_ru).c = true)) ∧ rea rs ((rs.getD i d_ru).ls.getD j d_lit).2.1 (rs.getD i d_ru).h ∧ ((rs.getD i d_ru).h = x ∨ (rea rs x (rs.getD i d_ru).h ∧ rea rs (rs.getD i d_ru).h x))) := by
  unfold badI
  constructor
  · rintro (h | ⟨j', h2, h3⟩)
    · exact Or.inl (Or.inl h)
    · by_cases z : j' = j
      · rw [z] at h3; exact Or.inr h3
      · exact Or.inl (Or.inr ⟨j', by omega, h3⟩)
  · rintro ((h | ⟨j', h2, h3⟩) | h3)
    · exact Or.inl h
    · exact Or.inr ⟨j', by omega, h3⟩
    · exact Or.inr ⟨j, by omega, h3⟩
theorem ref_isBad {rs : List ru_T} {μ : mo_U} (h0 : rul_C rs μ) (hl2 : ∀ r ∈ rs, ∀ l ∈ r.ls, l.1 ≤ 2) (hc : c38 μ (rea rs)) {x : Nat} (hx : x < 8) (Q : Int32 → mo_U → Prop) (h1 : bad rs x → Q 1 μ) (h0' : ¬ bad rs x → Q 0 μ) : mp_isBadRing (nI x) μ Q := by
  intro X4 X15 X85 h4 h15 h85
  have n16 := h0.n
  have rules : ∀ (k i : Nat) (b : Bool), i + k = rs.length → (b = true ↔ badI rs x i 0) → X4 (if b then 1 else 0) (nI i) μ := by
    intro k
    induction k with
    | zero =>
      intro i b hi hb
      refine h4 _ _ _ ?_
      rw [h0.m]
      refine ⟨fun _ => ?_, fun z => absurd (nI_le (by omega) (by omega)) z⟩
      rw [show i = rs.length by omega, badI_end] at hb
      cases hbb : b with
      | true => exact ⟨Or.inr rfl, h1 (hb.mp hbb)⟩
      | false => exact ⟨Or.inl rfl, h0' (fun z => by rw [hb.mpr z] at hbb; cases hbb)⟩
    | succ k ih =>
      intro i b hi hb
      have hil : i < rs.length := by omega
      obtain ⟨hh1, hh2⟩ := h0.h i hil
      obtain ⟨_, l5, l28, llit⟩ := h0.ls i hil
      have hmem : rs.getD i d_ru ∈ rs := by rw [gd_eq _ _ hil]; exact List.getElem_mem hil
      refine h4 _ _ _ ?_
      rw [h0.m]
      refine ⟨fun z => absurd z (nI_ge (by omega) (by omega)), fun _ => ?_⟩
      have lits : ∀ (mm j : Nat) (b : Bool), j + mm = (rs.getD i d_ru).ls.length → (b = true ↔ badI rs x i j) → X15 (if b then 1 else 0) (nI i) (nI j) μ := by
        intro mm
        induction mm with
        | zero =>
          intro j b hj hb
          refine h15 _ _ _ _ ⟨vp_in_nI (by omega) (by decide), ?_⟩
          rw [cl_nI (by omega), l28]
          refine ⟨fun _ => ?_, fun z => absurd (nI_le (by omega) (by omega)) z⟩
          rw [nI_1]
          refine ih (i + 1) b (by omega) ?_
          rw [← badI_n, ← show j = (rs.getD i d_ru).ls.length by omega]
          exact hb
        | succ mm ihl =>
          intro j b hj hb
          have hjl : j < (rs.getD i d_ru).ls.length := by omega
          obtain ⟨g1, g2, _, _, _, g6, g7, g8, _⟩ := llit j hjl
          have e8 : ∀ a b : Nat, (8 : Int32) * nI a + nI b = nI (8 * a + b) := fun a b => by rw [show (8 : Int32) = nI 8 from rfl, pk_mul, nI_k]
          have n0 : ∀ {y : Int32}, (y = 0 ∨ y = 1) → ¬ y = 0 → y = 1 := fun h z => h.resolve_left z
          have z01 : ∀ {y : Int32}, y = 0 → ¬ y = 1 := fun h z => by rw [h] at z; exact absurd z (by decide)
          have next : ∀ b' : Bool, (b' = true ↔ badI rs x i (j + 1)) → X15 (if b' then 1 else 0) (nI i) (nI (j + 1)) μ := fun b' hb' => ihl (j + 1) b' (by omega) hb'
          have x85 : ∀ tb : Bool, (tb = true ↔ ((((rs.getD i d_ru).ls.getD j d_lit).1 = 1 ∨ (((rs.getD i d_ru).ls.getD j d_lit).1 = 0 ∧ (rs.getD i d_ru).c = true)) ∧ rea rs ((rs.getD i d_ru).ls.getD j d_lit).2.1 (rs.getD i d_ru).h)) → X85 (if b then 1 else 0) (nI i) (nI j) (if tb then 1 else 0) μ := fun tb ht => by
            obtain ⟨p1, p2⟩ := hc x (rs.getD i d_ru).h hx hh2
            obtain ⟨q1, q2⟩ := hc (rs.getD i d_ru).h x hh2 hx
            refine h85 _ _ _ _ _ ?_
            rw [nI_1, cl_nI (by omega), hh1, e8, e8, cl_nI (by omega), cl_nI (by omega), nI_eq (by omega) (by omega)]
            have yes : badI rs x i (j + 1) → X15 1 (nI i) (nI (j + 1)) μ := fun h => next true ⟨fun _ => h, fun _ => rfl⟩
            have no : ¬ badI rs x i (j + 1) → X15 0 (nI i) (nI (j + 1)) μ := fun h => next false ⟨fun z => (by cases z), fun z => absurd z h⟩
            cases hbb : b with
            | true => exact ⟨fun _ => yes (badI_s.mpr (Or.inl (hb.mp hbb))), fun z => absurd z (by decide)⟩
            | false =>
              have hnb : ¬ badI rs x i j := fun z => by rw [hb.mpr z] at hbb; cases hbb
              refine ⟨fun z => absurd rfl z, fun _ => ?_⟩
              cases htt : tb with
              | false =>
                refine ⟨fun _ => no (fun z => ?_), fun z => absurd rfl z⟩
                rcases badI_s.mp z with w | w
                · exact hnb w
                · rw [ht.mpr ⟨w.1, w.2.1⟩] at htt; cases htt
              | true =>
                obtain ⟨s1, s2⟩ := ht.mp htt
                refine ⟨fun z => absurd z (by decide), fun _ => ⟨vp_in_nI (by omega) (by decide), fun he => yes (badI_s.mpr (Or.inr ⟨s1, s2, Or.inl he⟩)), fun hne => ⟨vp_in_nI (by omega) (by decide), vp_in_nI (by omega) (by decide), fun zp => no (fun z => ?_), fun zp => ⟨vp_in_nI (by omega) (by decide), vp_in_nI (by omega) (by decide), fun zq => no (fun z => ?_), fun zq => yes (badI_s.mpr (Or.inr ⟨s1, s2, Or.inr ⟨p2.mp (n0 p1 zp), q2.mp (n0 q1 zq)⟩⟩))⟩⟩⟩⟩
                · rcases badI_s.mp z with w | w
                  · exact hnb w
                  · exact w.2.2.elim hne (fun y => absurd (p2.mpr y.1) (z01 zp))
                · rcases badI_s.mp z with w | w
                  · exact hnb w
                  · exact w.2.2.elim hne (fun y => absurd (q2.mpr y.2) (z01 zq))
          have x0 : ¬ ((((rs.getD i d_ru).ls.getD j d_lit).1 = 1 ∨ (((rs.getD i d_ru).ls.getD j d_lit).1 = 0 ∧ (rs.getD i d_ru).c = true)) ∧ rea rs ((rs.getD i d_ru).ls.getD j d_lit).2.1 (rs.getD i d_ru).h) → X85 (if b then 1 else 0) (nI i) (nI j) 0 μ := fun h => x85 false ⟨fun z => (by cases z), fun z => absurd z h⟩
          refine h15 _ _ _ _ ⟨vp_in_nI (by omega) (by decide), ?_⟩
          rw [cl_nI (by omega), l28]
          refine ⟨fun z => absurd z (nI_ge (by omega) (by omega)), fun _ => ?_⟩
          unfold mp_isStrict
          dsimp only
          rw [nI_5, nI_k, cl_nI (by omega), cl_nI (by omega), g1, g2, hh1, h0.c i hil, show (2 : Int32) = nI 2 from rfl, nI_eq (by omega) (by decide)]
          refine ⟨vp_in_nI (by omega) (by decide), fun hk => x0 (fun w => by rcases w.1 with y | y <;> omega), fun hk => ?_⟩
          have u8 := g8 (by omega)
          obtain ⟨p1, p2⟩ := hc ((rs.getD i d_ru).ls.getD j d_lit).2.1 (rs.getD i d_ru).h u8 hh2
          have strict : (((rs.getD i d_ru).ls.getD j d_lit).1 = 1 ∨ (((rs.getD i d_ru).ls.getD j d_lit).1 = 0 ∧ (rs.getD i d_ru).c = true)) → vp_in (nI (5 * i + j)) 85 ∧ (vp_in (nI i) 17 ∧ (vp_in ((8 : Int32) * nI ((rs.getD i d_ru).ls.getD j d_lit).2.1 + nI (rs.getD i d_ru).h) 64 ∧ ((μ.2 38 ((8 : Int32) * nI ((rs.getD i d_ru).ls.getD j d_lit).2.1 + nI (rs.getD i d_ru).h).toNatClampNeg = 0 → X85 (if b then 1 else 0) (nI i) (nI j) 0 μ) ∧ (¬ μ.2 38 ((8 : Int32) * nI ((rs.getD i d_ru).ls.getD j d_lit).2.1 + nI (rs.getD i d_ru).h).toNatClampNeg = 0 → X85 (if b then 1 else 0) (nI i) (nI j) 1 μ)))) := fun hs => by
            rw [e8, cl_nI (by omega)]
            exact ⟨vp_in_nI (by omega) (by decide), vp_in_nI (by omega) (by decide), vp_in_nI (by omega) (by decide), fun z => x0 (fun w => absurd (p2.mpr w.2) (z01 z)), fun z => x85 true ⟨fun _ => ⟨hs, p2.mp (n0 p1 z)⟩, fun _ => rfl⟩⟩
          rw [show (1 : Int32) = nI 1 from rfl, nI_eq (by omega) (by decide)]
          have strict' := strict
          rw [show (1 : Int32) = nI 1 from rfl] at strict'
          refine ⟨vp_in_nI (by omega) (by decide), fun hcc => ⟨fun w => absurd w (by decide), fun _ => strict' ?_⟩, fun hcc => ⟨vp_in_nI (by omega) (by decide), fun hne => ⟨fun _ => x0 (fun w => ?_), fun w => absurd rfl w⟩, fun he => ⟨fun w => absurd w (by decide), fun _ => strict' (Or.inl he)⟩⟩⟩
          · have hct : (rs.getD i d_ru).c = true := by
              cases hq : (rs.getD i d_ru).c with
              | true => rfl
              | false => rw [hq] at hcc; exact absurd rfl hcc
            by_cases y : ((rs.getD i d_ru).ls.getD j d_lit).1 = 1
            · exact Or.inl y
            · exact Or.inr ⟨by omega, hct⟩
          · rcases w.1 with y | y
            · exact hne y
            · rw [y.2] at hcc; exact absurd hcc (by decide)
      exact lits (rs.getD i d_ru).ls.length 0 b (by omega) hb
  refine rules rs.length 0 false (by omega) ⟨fun z => (by cases z), fun z => ?_⟩
  rcases z with ⟨i', h, _⟩ | ⟨j', h, _⟩
  · exact absurd h (Nat.not_lt_zero _)
  · exact absurd h (Nat.not_lt_zero _)
