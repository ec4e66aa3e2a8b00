def edgI (rs : List ru_T) (i j v u : Nat) : Prop := (∃ i', i' < i ∧ (rs.getD i' d_ru).h = v ∧ ∃ l ∈ (rs.getD i' d_ru).ls, l.1 ≠ 2 ∧ l.2.1 = u) ∨ ((rs.getD i d_ru).h = v ∧ ∃ j', j' < j ∧ ((rs.getD i d_ru).ls.getD j' d_lit).1 ≠ 2 ∧ ((rs.getD i d_ru).ls.getD j' d_lit).2.1 = u)
theorem edgI_n {rs : List ru_T} {i v u : Nat} : edgI rs i (rs.getD i d_ru).ls.length v u ↔ edgI rs (i + 1) 0 v u := by
  unfold edgI
  constructor
  · rintro (⟨i', h1, h2⟩ | ⟨h1, j', h2, h3⟩)
    · exact Or.inl ⟨i', by omega, h2⟩
    · exact Or.inl ⟨i, by omega, h1, _, (by rw [gd_eq _ _ h2]; exact List.getElem_mem h2), h3⟩
  · rintro (⟨i', h1, h2, l, h3, h4⟩ | ⟨_, j', h2, _⟩)
    · by_cases z : i' = i
      · rw [z] at h2 h3
        obtain ⟨j', hj, e⟩ := List.getElem_of_mem h3
        exact Or.inr ⟨h2, j', hj, by rw [gd_eq _ _ hj, e]; exact h4⟩
      · exact Or.inl ⟨i', by omega, h2, l, h3, h4⟩
    · exact absurd h2 (Nat.not_lt_zero _)
theorem edgI_end {rs : List ru_T} {v u : Nat} : edgI rs rs.length 0 v u ↔ edg rs v u := by
  unfold edgI edg
  constructor
  · rintro (⟨i', h1, h2⟩ | ⟨_, j', h2, _⟩)
    · exact ⟨_, (by rw [gd_eq _ _ h1]; exact List.getElem_mem h1), h2⟩
    · exact absurd h2 (Nat.not_lt_zero _)
  · rintro ⟨r, hr, h2⟩
    obtain ⟨i', hi, e⟩ := List.getElem_of_mem hr
    exact Or.inl ⟨i', hi, by rw [gd_eq _ _ hi, e]; exact h2⟩
theorem edgI_s {rs : List ru_T} {i j v u : Nat} : edgI rs i (j + 1) v u ↔ edgI rs i j v u ∨ ((rs.getD i d_ru).h = v ∧ ((rs.getD i d_ru).ls.getD j d_lit).1 ≠ 2 ∧ ((rs.getD i d_ru).ls.getD j d_lit).2.1 = u) := by
  unfold edgI
  constructor
  · rintro (h | ⟨h1, j', h2, h3⟩)
    · exact Or.inl (Or.inl h)
    · by_cases z : j' = j
      · rw [z] at h3; exact Or.inr ⟨h1, h3⟩
      · exact Or.inl (Or.inr ⟨h1, j', by omega, h3⟩)
  · rintro ((h | ⟨h1, j', h2, h3⟩) | ⟨h1, h3⟩)
    · exact Or.inl h
    · exact Or.inr ⟨h1, j', by omega, h3⟩
    · exact Or.inr ⟨h1, j, by omega, h3⟩
def rul_C (rs : List ru_T) (μ : mo_U) : Prop := (rs.length ≤ 16) ∧ (μ.1 808 = nI rs.length) ∧ (∀ i, i < rs.length → μ.2 26 i = nI (rs.getD i d_ru).h ∧ (rs.getD i d_ru).h < 8) ∧ (∀ i, i < rs.length → μ.2 32 i = if (rs.getD i d_ru).c then 1 else 0) ∧ (∀ i, i < rs.length → mo_lits μ i (rs.getD i d_ru).ls)
theorem rul_C.n {rs : List ru_T} {μ : mo_U} (h' : rul_C rs μ) : rs.length ≤ 16 := h'.1
theorem rul_C.m {rs : List ru_T} {μ : mo_U} (h' : rul_C rs μ) : μ.1 808 = nI rs.length := h'.2.1
theorem rul_C.h {rs : List ru_T} {μ : mo_U} (h' : rul_C rs μ) : ∀ i, i < rs.length → μ.2 26 i = nI (rs.getD i d_ru).h ∧ (rs.getD i d_ru).h < 8 := h'.2.2.1
theorem rul_C.c {rs : List ru_T} {μ : mo_U} (h' : rul_C rs μ) : ∀ i, i < rs.length → μ.2 32 i = if (rs.getD i d_ru).c then 1 else 0 := h'.2.2.2.1
theorem rul_C.ls {rs : List ru_T} {μ : mo_U} (h' : rul_C rs μ) : ∀ i, i < rs.length → mo_lits μ i (rs.getD i d_ru).ls := h'.2.2.2.2
theorem rul_C_fr {rs : List ru_T} {μ μ' : mo_U} {ts fs : List Nat} (h : rul_C rs μ) (hf : mo_fr ts fs μ μ') (h1 : ∀ t ∈ [26, 28, 29, 30, 31, 32], t ∉ ts) (h2 : 808 ∉ fs) : rul_C rs μ' := ⟨h.n, by rw [hf.2 808 h2]; exact h.m, fun i hi => by rw [hf.1 26 (h1 26 (by decide))]; exact h.h i hi, fun i hi => by rw [hf.1 32 (h1 32 (by decide))]; exact h.c i hi, fun i hi => mo_lits_fr (h.ls i hi) hf (h1 28 (by decide)) (h1 29 (by decide)) (h1 30 (by decide)) (h1 31 (by decide))⟩
theorem ref_reaches {rs : List ru_T} {μ0 : mo_U} (h0 : rul_C rs μ0) (Q : mo_U → Prop) (hQ : ∀ μ, mo_fr [38] [] μ0 μ → c38 μ (rea rs) → Q μ) : mp_reaches μ0 Q := by
  intro X2 X23 X33 X97 X105 X113 X176 h2 h23 h33 h97 h105 h113 h176
  have n16 := h0.n
  -- through one station after the other
  have through : ∀ k μ, k ≤ 8 → mo_fr [38] [] μ0 μ → c38 μ (way (edg rs) k) → X97 (nI k) μ := by
    intro k
    obtain ⟨d, hd⟩ : ∃ d, d = 8 - k := ⟨_, rfl⟩
    induction d generalizing k with
    | zero =>
      intro μ hk hf hc
      refine h97 _ _ ⟨fun _ => hQ μ hf ?_, fun z => absurd (nI_le (a := 8) (by omega) (by omega)) z⟩
      rw [show k = 8 by omega] at hc
      exact hc
    | succ d ih =>
      intro μ hk hf hc
      refine h97 _ _ ⟨fun z => absurd z (nI_ge (b := 8) (by omega) (by decide)), fun _ => ?_⟩
      have hk8 : k < 8 := by omega
      have ekk : ∀ v, way (edg rs) (k + 1) v k ↔ way (edg rs) k v k := fun v => ⟨fun h => h.elim id (fun y => y.1), Or.inl⟩
      have eku : ∀ u, way (edg rs) (k + 1) k u ↔ way (edg rs) k k u := fun u => ⟨fun h => h.elim id (fun y => y.2), Or.inl⟩
      let Ek : Nat → Nat → Nat → Nat → Prop := fun i j v u => if v < i ∨ (v = i ∧ u < j) then way (edg rs) (k + 1) v u else way (edg rs) k v u
      have row : ∀ i, i < 8 → (∀ μ2, mo_fr [38] [] μ0 μ2 → c38 μ2 (Ek (i + 1) 0) → X105 (nI k) (nI (i + 1)) μ2) → ∀ m j μ1, j + m = 8 → mo_fr [38] [] μ0 μ1 → c38 μ1 (Ek i j) → X113 (nI k) (nI i) (nI j) μ1 := by
        intro i hi next m
        induction m with
        | zero =>
          intro j μ1 hj hf1 hc1
          refine h113 _ _ _ _ ⟨fun _ => ?_, fun z => absurd (nI_le (a := 8) (by omega) (by omega)) z⟩
          rw [nI_1]
          refine next μ1 hf1 (c38_c hc1 (fun v u hv hu => ?_))
          show (if v < i ∨ (v = i ∧ u < j) then _ else _) ↔ (if v < i + 1 ∨ (v = i + 1 ∧ u < 0) then _ else _)
          by_cases z : v < i + 1
          · rw [if_pos (by omega), if_pos (Or.inl z)]
          · rw [if_neg (by omega), if_neg (by omega)]
        | succ m ihm =>
          intro j μ1 hj hf1 hc1
          have hj8 : j < 8 := by omega
          obtain ⟨a1, a2⟩ := hc1 i j hi hj8
          obtain ⟨b1, b2⟩ := hc1 i k hi hk8
          obtain ⟨c1, c2⟩ := hc1 k j hk8 hj8
          have a2 : μ1.2 38 (8 * i + j) = 1 ↔ way (edg rs) k i j := by
            rw [a2]
            show (if i < i ∨ (i = i ∧ j < j) then _ else _) ↔ _
            rw [if_neg (by omega)]
          have b2 : μ1.2 38 (8 * i + k) = 1 ↔ way (edg rs) k i k := by
            rw [b2]
            show (if i < i ∨ (i = i ∧ k < j) then _ else _) ↔ _
            split
            · exact ekk i
            · exact Iff.rfl
          have c2 : μ1.2 38 (8 * k + j) = 1 ↔ way (edg rs) k k j := by
            rw [c2]
            show (if k < i ∨ (k = i ∧ j < j) then _ else _) ↔ _
            split
            · exact eku j
            · exact Iff.rfl
          have put : ∀ x : Int32, (x = 0 ∨ x = 1) → (x = 1 ↔ way (edg rs) (k + 1) i j) → X176 (nI k) (nI i) (nI j) (nI (8 * i + j)) x μ1 := fun x hx he => by
            refine h176 _ _ _ _ _ _ ⟨vp_in_nI (by omega) (by decide), fun μ2 e2 => ?_⟩
            have hnar : vp_nar .boolean x = x := by rcases hx with z | z <;> rw [z] <;> rfl
            rw [cl_nI (by omega), hnar] at e2
            rw [nI_1]
            have x38 : ∀ y, μ2.2 38 y = if y = 8 * i + j then x else μ1.2 38 y := fun y => by rw [e2]; rfl
            refine ihm (j + 1) μ2 (by omega) (mo_fr_tr hf1 (by rw [e2]; exact fr_sA (by decide) _)) (c38_c (c38_set hc1 hi hj8 hx x38) (fun v u hv hu => ?_))
            show (if v = i ∧ u = j then x = 1 else (if v < i ∨ (v = i ∧ u < j) then _ else _)) ↔ (if v < i ∨ (v = i ∧ u < j + 1) then _ else _)
            by_cases z : v = i ∧ u = j
            · rw [if_pos z, if_pos (by omega), z.1, z.2]; exact he
            · rw [if_neg z]
              by_cases y : v < i ∨ (v = i ∧ u < j)
              · rw [if_pos y, if_pos (by omega)]
              · rw [if_neg y, if_neg (by omega)]
          have n0 : ∀ {x : Int32}, (x = 0 ∨ x = 1) → ¬ x = 0 → x = 1 := fun h z => h.resolve_left z
          have z01 : ∀ {x : Int32}, x = 0 → ¬ x = 1 := fun h z => by rw [h] at z; exact absurd z (by decide)
          refine h113 _ _ _ _ ⟨fun z => absurd z (nI_ge (b := 8) (by omega) (by decide)), fun _ => ?_⟩
          have e8 : ∀ a b : Nat, (8 : Int32) * nI a + nI b = nI (8 * a + b) := fun a b => by rw [show (8 : Int32) = nI 8 from rfl, pk_mul, nI_k]
          rw [e8, e8, e8, cl_nI (by omega), cl_nI (by omega), cl_nI (by omega)]
          refine ⟨vp_in_nI (by omega) (by decide), fun za => put 1 (Or.inr rfl) ⟨fun _ => Or.inl (a2.mp (n0 a1 za)), fun _ => rfl⟩, fun za => ⟨vp_in_nI (by omega) (by decide), fun zb => put 0 (Or.inl rfl) ⟨fun q => absurd q (by decide), fun q => ?_⟩, fun zb => ⟨vp_in_nI (by omega) (by decide), fun zc => put 0 (Or.inl rfl) ⟨fun q => absurd q (by decide), fun q => ?_⟩, fun zc => put 1 (Or.inr rfl) ⟨fun _ => Or.inr ⟨b2.mp (n0 b1 zb), c2.mp (n0 c1 zc)⟩, fun _ => rfl⟩⟩⟩⟩
          · exact q.elim (fun y => absurd (a2.mpr y) (z01 za)) (fun y => absurd (b2.mpr y.1) (z01 zb))
          · exact q.elim (fun y => absurd (a2.mpr y) (z01 za)) (fun y => absurd (c2.mpr y.2) (z01 zc))
      have rows : ∀ m i μ1, i + m = 8 → mo_fr [38] [] μ0 μ1 → c38 μ1 (Ek i 0) → X105 (nI k) (nI i) μ1 := by
        intro m
        induction m with
        | zero =>
          intro i μ1 hi hf1 hc1
          refine h105 _ _ _ ⟨fun _ => ?_, fun z => absurd (nI_le (a := 8) (by omega) (by omega)) z⟩
          rw [nI_1]
          refine ih (k + 1) (by omega) μ1 (by omega) hf1 (c38_c hc1 (fun v u hv hu => ?_))
          show (if v < i ∨ (v = i ∧ u < 0) then _ else _) ↔ _
          rw [if_pos (by omega)]
        | succ m ihm =>
          intro i μ1 hi hf1 hc1
          refine h105 _ _ _ ⟨fun z => absurd z (nI_ge (b := 8) (by omega) (by decide)), fun _ => ?_⟩
          exact row i (by omega) (fun μ2 f2 c2 => ihm (i + 1) μ2 (by omega) f2 c2) 8 0 μ1 rfl hf1 hc1
      refine rows 8 0 μ rfl hf (c38_c hc (fun v u _ _ => ?_))
      show _ ↔ (if v < 0 ∨ (v = 0 ∧ u < 0) then _ else _)
      rw [if_neg (by omega)]
  -- the steps
  have steps : ∀ m i μ, i + m = rs.length → mo_fr [38] [] μ0 μ → c38 μ (edgI rs i 0) → X23 (nI i) μ := by
    intro m
    induction m with
    | zero =>
      intro i μ hi hf hc
      refine h23 _ _ ?_
      rw [hf.2 808 (by decide), h0.m]
      refine ⟨fun _ => through 0 μ (by omega) hf (c38_c hc (fun v u _ _ => ?_)), fun z => absurd (nI_le (by omega) (by omega)) z⟩
      rw [show i = rs.length by omega]
      exact edgI_end
    | succ m ihm =>
      intro i μ hi hf hc
      have hil : i < rs.length := by omega
      obtain ⟨hh1, hh2⟩ := h0.h i hil
      obtain ⟨_, l5, l28, llit⟩ := h0.ls i hil
      refine h23 _ _ ?_
      rw [hf.2 808 (by decide), h0.m]
      refine ⟨fun z => absurd z (nI_ge (by omega) (by omega)), fun _ => ?_⟩
      have lits : ∀ mm j μ1, j + mm = (rs.getD i d_ru).ls.length → mo_fr [38] [] μ0 μ1 → c38 μ1 (edgI rs i j) → X33 (nI i) (nI j) μ1 := by
        intro mm
        induction mm with
        | zero =>
          intro j μ1 hj hf1 hc1
          refine h33 _ _ _ ⟨vp_in_nI (by omega) (by decide), ?_⟩
          rw [cl_nI (by omega), hf1.1 28 (by decide), l28]
          refine ⟨fun _ => ?_, fun z => absurd (nI_le (by omega) (by omega)) z⟩
          rw [nI_1]
          refine ihm (i + 1) μ1 (by omega) hf1 (c38_c hc1 (fun v u _ _ => ?_))
          rw [show j = (rs.getD i d_ru).ls.length by omega]
          exact edgI_n
        | succ mm ihl =>
          intro j μ1 hj hf1 hc1
          have hjl : j < (rs.getD i d_ru).ls.length := by omega
          obtain ⟨g1, g2, _, _, _, g6, g7, g8, _⟩ := llit j hjl
          refine h33 _ _ _ ⟨vp_in_nI (by omega) (by decide), ?_⟩
          rw [cl_nI (by omega), hf1.1 28 (by decide), l28]
          refine ⟨fun z => absurd z (nI_ge (by omega) (by omega)), fun _ => ?_⟩
          rw [nI_5, nI_k, cl_nI (by omega), hf1.1 29 (by decide), g1, hf1.1 26 (by decide), hh1, hf1.1 30 (by decide), g2, show (8 : Int32) = nI 8 from rfl, pk_mul, nI_k, show (2 : Int32) = nI 2 from rfl, nI_eq (by omega) (by decide), nI_1]
          refine ⟨vp_in_nI (by omega) (by decide), fun z => ihl (j + 1) μ1 (by omega) hf1 (c38_c hc1 (fun v u _ _ => ?_)), fun z => ?_⟩
          · rw [edgI_s]
            exact ⟨Or.inl, fun h => h.elim id (fun y => absurd z y.2.1)⟩
          · have r8 := g8 (by omega)
            refine ⟨vp_in_nI (by omega) (by decide), vp_in_nI (by omega) (by decide), vp_in_nI (by omega) (by decide), fun μ2 e2 => ?_⟩
            rw [cl_nI (by omega)] at e2
            have x38 : ∀ y, μ2.2 38 y = if y = 8 * (rs.getD i d_ru).h + ((rs.getD i d_ru).ls.getD j d_lit).2.1 then 1 else μ1.2 38 y := fun y => by rw [e2]; rfl
            refine ihl (j + 1) μ2 (by omega) (mo_fr_tr hf1 (by rw [e2]; exact fr_sA (by decide) _)) (c38_c (c38_set hc1 hh2 r8 (Or.inr rfl) x38) (fun v u _ _ => ?_))
            rw [edgI_s]
            by_cases y : v = (rs.getD i d_ru).h ∧ u = ((rs.getD i d_ru).ls.getD j d_lit).2.1
            · rw [if_pos y]
              exact ⟨fun _ => Or.inr ⟨y.1.symm, z, y.2.symm⟩, fun _ => rfl⟩
            · rw [if_neg y]
              exact ⟨Or.inl, fun h => h.elim id (fun w => absurd ⟨w.1.symm, w.2.2.symm⟩ y)⟩
      exact lits (rs.getD i d_ru).ls.length 0 μ (by omega) hf hc
  -- all cells empty
  have clear : ∀ m i μ, i + m = 64 → mo_fr [38] [] μ0 μ → (∀ y, y < i → μ.2 38 y = 0) → X2 (nI i) μ := by
    intro m
    induction m with
    | zero =>
      intro i μ hi hf hc
      refine h2 _ _ ⟨fun _ => steps rs.length 0 μ (by omega) hf (fun v u hv hu => ?_), fun z => absurd (nI_le (a := 64) (by omega) (by omega)) z⟩
      rw [hc _ (by omega)]
      refine ⟨Or.inl rfl, fun z => absurd z (by decide), fun z => ?_⟩
      rcases z with ⟨i', h1, _⟩ | ⟨_, j', h1, _⟩
      · exact absurd h1 (Nat.not_lt_zero _)
      · exact absurd h1 (Nat.not_lt_zero _)
    | succ m ihm =>
      intro i μ hi hf hc
      refine h2 _ _ ⟨fun z => absurd z (nI_ge (b := 64) (by omega) (by decide)), fun _ => ⟨vp_in_nI (by omega) (by decide), fun μ1 e1 => ?_⟩⟩
      rw [cl_nI (by omega)] at e1
      rw [nI_1]
      have x38 : ∀ y, μ1.2 38 y = if y = i then 0 else μ.2 38 y := fun y => by rw [e1]; rfl
      refine ihm (i + 1) μ1 (by omega) (mo_fr_tr hf (by rw [e1]; exact fr_sA (by decide) _)) (fun y hy => ?_)
      rw [x38]
      by_cases z : y = i
      · rw [if_pos z]
      · rw [if_neg z]; exact hc y (by omega)
  exact clear 64 0 μ0 rfl mo_fr_rf (fun y hy => absurd hy (Nat.not_lt_zero y))
