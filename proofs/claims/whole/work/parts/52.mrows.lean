/-! ROWS of the reference: R r j the j-th row (key, count) of relation r, N r how many -/
abbrev mr_R : Type := Nat → Nat → Nat × Int
def mo_at (μ : mo_U) (r j key : Nat) (cnt : Int) : Prop := μ.2 40 (120 * r + 3 * j) = nI (key / 1000000) ∧ μ.2 40 (120 * r + 3 * j + 1) = nI (key / 1000 % 1000) ∧ μ.2 40 (120 * r + 3 * j + 2) = nI (key % 1000) ∧ μ.2 41 (40 * r + j) = Int32.ofInt cnt
def mo_M (μ : mo_U) (R : mr_R) (N : Nat → Nat) : Prop := (∀ r j, r < 8 → j < 40 → (R r j).1 < 1000000000 ∧ mo_at μ r j (R r j).1 (R r j).2) ∧ ∀ r, r < 8 → μ.2 42 r = nI (N r) ∧ N r ≤ 40
/-- nothing but these arrays and fields is written -/
def mo_fr (ts fs : List Nat) (μ μ' : mo_U) : Prop := (∀ t, t ∉ ts → μ'.2 t = μ.2 t) ∧ ∀ f, f ∉ fs → μ'.1 f = μ.1 f
theorem mo_fr_rf {ts fs : List Nat} {μ : mo_U} : mo_fr ts fs μ μ := ⟨fun _ _ => rfl, fun _ _ => rfl⟩
theorem mo_fr_tr {ts fs : List Nat} {μ μ' μ'' : mo_U} (h1 : mo_fr ts fs μ μ') (h2 : mo_fr ts fs μ' μ'') : mo_fr ts fs μ μ'' := ⟨fun t h => (h2.1 t h).trans (h1.1 t h), fun f h => (h2.2 f h).trans (h1.2 f h)⟩
theorem mo_fr_mono {ts fs ts' fs' : List Nat} {μ μ' : mo_U} (h : mo_fr ts fs μ μ') (h1 : ∀ t ∈ ts, t ∈ ts') (h2 : ∀ f ∈ fs, f ∈ fs') : mo_fr ts' fs' μ μ' := ⟨fun t ht => h.1 t (fun q => ht (h1 t q)), fun f hf => h.2 f (fun q => hf (h2 f q))⟩
theorem mo_fr_A {ts fs : List Nat} {μ : mo_U} {t : Nat} {F : Nat → Int32} (h : t ∈ ts) : mo_fr ts fs μ (mu_sA μ t F) := ⟨fun u hu => by rw [mu_A_sA, if_neg (fun e => hu (by rw [e]; exact h))], fun _ _ => rfl⟩
theorem mo_fr_I {ts fs : List Nat} {μ : mo_U} {f : Nat} {x : Int32} (h : f ∈ fs) : mo_fr ts fs μ (mu_sI μ f x) := ⟨fun _ _ => rfl, fun g hg => by rw [mu_I_sI, if_neg (fun e => hg (by rw [e]; exact h))]⟩
def mr_set (R : mr_R) (r j : Nat) (v : Nat × Int) : mr_R := fun r' j' => if r' = r ∧ j' = j then v else R r' j'
def mr_n (N : Nat → Nat) (r n : Nat) : Nat → Nat := fun r' => if r' = r then n else N r'
def mo_sg (x y : Nat) : Int32 := if x < y then -1 else if x = y then 0 else 1
def pk3 (a b c : Nat) : Nat := a * 1000000 + b * 1000 + c
theorem mo_ix (r j : Nat) : (120 : Int32) * nI r + (3 : Int32) * nI j = nI (120 * r + 3 * j) := by
  rw [show (120 : Int32) = nI 120 from rfl, show (3 : Int32) = nI 3 from rfl, pk_mul, pk_mul, nI_add]
theorem mo_iy (r j : Nat) : (40 : Int32) * nI r + nI j = nI (40 * r + j) := by
  rw [show (40 : Int32) = nI 40 from rfl, pk_mul, nI_add]
theorem nI_p (a k : Nat) : nI a + nI k = nI (a + k) := nI_add a k
theorem mo_compare {μ : mo_U} {R : mr_R} {N : Nat → Nat} (hM : mo_M μ R N) {r j a b c : Nat} (hr : r < 8) (hj : j < 40) (ha : a < 1000) (hb : b < 1000) (hc : c < 1000) (Q : Int32 → mo_U → Prop)
    (hQ : Q (mo_sg (pk3 a b c) (R r j).1) μ) : mp_compare (nI r) (nI j) (nI a) (nI b) (nI c) μ Q := by
  obtain ⟨hk, h1, h2, h3, -⟩ := hM.1 r j hr hj
  intro X72 hX
  have e1 : (nI (120 * r + 3 * j) + (1 : Int32)) = nI (120 * r + 3 * j + 1) := nI_1 _
  have e2 : (nI (120 * r + 3 * j) + (2 : Int32)) = nI (120 * r + 3 * j + 2) := nI_p _ 2
  have key : ∀ (x y : Nat), x < 1000 → y < 1000 → (x < y → pk3 a b c < (R r j).1) → (x = y → pk3 a b c = (R r j).1) → (y < x → (R r j).1 < pk3 a b c) → X72 (nI x - nI y) μ := by
    intro x y hx hy g1 g2 g3
    have et : (nI x - nI y).toInt = (x : Int) - y := pk_sub_toInt (by omega) (by omega)
    refine hX _ _ ⟨fun h => ⟨fun h' => ?_, fun h' => ?_⟩, fun h => ?_⟩
    · rw [i32_le, et] at h h'
      have e : pk3 a b c = (R r j).1 := g2 (by have h0 : (0 : Int32).toInt = 0 := by decide
                                               omega)
      rw [mo_sg, if_neg (by omega), if_pos e] at hQ
      exact hQ
    · rw [i32_le, et] at h h'
      have e := g3 (by have h0 : (0 : Int32).toInt = 0 := by decide
                       omega)
      rw [mo_sg, if_neg (by omega), if_neg (by omega)] at hQ
      exact hQ
    · rw [i32_le, et] at h
      have e := g1 (by have h0 : (0 : Int32).toInt = 0 := by decide
                       omega)
      rw [mo_sg, if_pos e] at hQ
      exact hQ
  show vp_in _ 960 ∧ _
  rw [mo_ix, e1, e2, cl_nI (by omega), cl_nI (by omega), cl_nI (by omega), h1, h2, h3]
  refine ⟨vp_in_nI (by omega) (by omega), fun c1 => ⟨vp_in_nI (by omega) (by omega), fun c2 => ⟨vp_in_nI (by omega) (by omega), ?_⟩, fun c2 => ⟨vp_in_nI (by omega) (by omega), ?_⟩⟩, fun c1 => ⟨vp_in_nI (by omega) (by omega), ?_⟩⟩
  · rw [nI_eq (by omega) (by omega)] at c1 c2
    unfold pk3 at *
    exact key _ _ hc (by omega) (by omega) (by omega) (by omega)
  · rw [nI_eq (by omega) (by omega)] at c1 c2
    unfold pk3 at *
    exact key _ _ hb (by omega) (by omega) (by omega) (by omega)
  · rw [nI_eq (by omega) (by omega)] at c1
    unfold pk3 at *
    exact key _ _ ha (by omega) (by omega) (by omega) (by omega)
theorem mo_sg0 {x y : Nat} : mo_sg x y = 0 ↔ x = y := by
  unfold mo_sg
  by_cases h : x < y
  · rw [if_pos h]
    constructor
    · intro q
      exact absurd q (by decide)
    · omega
  · rw [if_neg h]
    by_cases h2 : x = y
    · simp [h2]
    · rw [if_neg h2]
      constructor
      · intro q
        exact absurd q (by decide)
      · omega
theorem mo_sgn {x y : Nat} : 0 ≤ mo_sg x y ↔ y ≤ x := by
  unfold mo_sg
  by_cases h : x < y
  · rw [if_pos h]
    constructor
    · intro q
      exact absurd q (by decide)
    · omega
  · rw [if_neg h]
    by_cases h2 : x = y
    · simp [h2]
    · rw [if_neg h2]
      constructor
      · omega
      · intro _
        decide
theorem mo_find {μ : mo_U} {R : mr_R} {N : Nat → Nat} (hM : mo_M μ R N) {r a b c : Nat} (hr : r < 8) (ha : a < 1000) (hb : b < 1000) (hc : c < 1000) (Q : Int32 → mo_U → Prop)
    (hQ1 : ∀ j, j < N r → (R r j).1 = pk3 a b c → (∀ i, i < j → (R r i).1 ≠ pk3 a b c) → Q (nI j) μ) (hQ0 : (∀ j, j < N r → (R r j).1 ≠ pk3 a b c) → Q (-1) μ) : mp_find (nI r) (nI a) (nI b) (nI c) μ Q := by
  obtain ⟨hn, hn40⟩ := hM.2 r hr
  intro X3 hX
  have loop : ∀ (m j : Nat), j + m = N r → (∀ i, i < j → (R r i).1 ≠ pk3 a b c) → X3 (nI j) μ := by
    intro m
    induction m with
    | zero =>
      intro j hj hno
      refine hX _ _ ⟨vp_in_nI hr (by omega), fun _ => hQ0 (fun i hi => hno i (by omega)), fun h => absurd ?_ h⟩
      rw [cl_nI (by omega), hn]
      exact nI_le (by omega) (by omega)
    | succ m ih =>
      intro j hj hno
      refine hX _ _ ⟨vp_in_nI hr (by omega), fun h => ?_, fun _ => mo_compare hM hr (by omega) ha hb hc _ ⟨fun h => ?_, fun h => ?_⟩⟩
      · rw [cl_nI (by omega), hn, nI_leI (by omega) (by omega)] at h
        omega
      · rw [mo_sg0] at h
        rw [nI_1]
        refine ih (j + 1) (by omega) (fun i hi => ?_)
        rcases Nat.lt_or_ge i j with g | g
        · exact hno i g
        · have : i = j := by omega
          subst this
          exact fun q => h q.symm
      · rw [mo_sg0] at h
        exact hQ1 j (by omega) h.symm hno
  exact loop (N r) 0 (by omega) (fun i hi => by omega)
/-- one row written -/
theorem mo_M_set {μ : mo_U} {R : mr_R} {N : Nat → Nat} (hM : mo_M μ R N) {r j key : Nat} {cnt : Int} (hr : r < 8) (hj : j < 40) (hk : key < 1000000000) {μ' : mo_U} (h40 : μ'.2 40 = upd (upd (upd (μ.2 40) (120 * r + 3 * j) (nI (key / 1000000))) (120 * r + 3 * j + 1) (nI (key / 1000 % 1000))) (120 * r + 3 * j + 2) (nI (key % 1000))) (h41 : μ'.2 41 = upd (μ.2 41) (40 * r + j) (Int32.ofInt cnt)) (h42 : μ'.2 42 = μ.2 42) : mo_M μ' (mr_set R r j (key, cnt)) N := by
  refine ⟨fun r' j' hr' hj' => ?_, fun r' hr' => by rw [h42]; exact hM.2 r' hr'⟩
  obtain ⟨k0, g1, g2, g3, g4⟩ := hM.1 r' j' hr' hj'
  unfold mo_at mr_set
  rw [h40, h41]
  by_cases e : r' = r ∧ j' = j
  · obtain ⟨rfl, rfl⟩ := e
    simp [upd, hk]
  · have n1 : ¬ 40 * r' + j' = 40 * r + j := by omega
    have n2 : ∀ (i i' : Nat), i < 3 → i' < 3 → ¬ 120 * r' + 3 * j' + i = 120 * r + 3 * j + i' := by
      intro i i' h1 h2
      omega
    rw [if_neg e]
    refine ⟨k0, ?_, ?_, ?_, ?_⟩
    · simp only [upd, if_neg (n2 0 2 (by omega) (by omega)), if_neg (n2 0 1 (by omega) (by omega)), if_neg (show ¬ 120 * r' + 3 * j' = 120 * r + 3 * j + 2 from n2 0 2 (by omega) (by omega)), if_neg (show ¬ 120 * r' + 3 * j' = 120 * r + 3 * j + 1 from n2 0 1 (by omega) (by omega)), if_neg (show ¬ 120 * r' + 3 * j' = 120 * r + 3 * j from n2 0 0 (by omega) (by omega))]
      exact g1
    · simp only [upd, if_neg (n2 1 2 (by omega) (by omega)), if_neg (n2 1 1 (by omega) (by omega)), if_neg (show ¬ 120 * r' + 3 * j' + 1 = 120 * r + 3 * j from n2 1 0 (by omega) (by omega))]
      exact g2
    · simp only [upd, if_neg (n2 2 2 (by omega) (by omega)), if_neg (n2 2 1 (by omega) (by omega)), if_neg (show ¬ 120 * r' + 3 * j' + 2 = 120 * r + 3 * j from n2 2 0 (by omega) (by omega))]
      exact g3
    · simp only [upd, if_neg n1]
      exact g4
theorem mo_move {μ : mo_U} {R : mr_R} {N : Nat → Nat} (hM : mo_M μ R N) {r f t : Nat} (hr : r < 8) (hf : f < 40) (ht : t < 40) (hft : f ≠ t) (Q : mo_U → Prop)
    (hQ : ∀ μ', mo_M μ' (mr_set R r t (R r f)) N → mo_fr [40, 41] [] μ μ' → Q μ') : mp_move (nI r) (nI f) (nI t) μ Q := by
  obtain ⟨k0, g1, g2, g3, g4⟩ := hM.1 r f hr hf
  intro X3 hX
  have fin : X3 (nI 3) (mu_sA μ 40 (upd (upd (upd (μ.2 40) (120 * r + 3 * t) (nI ((R r f).1 / 1000000))) (120 * r + 3 * t + 1) (nI ((R r f).1 / 1000 % 1000))) (120 * r + 3 * t + 2) (nI ((R r f).1 % 1000)))) := by
    refine hX _ _ ⟨fun _ => ⟨?_, ?_, fun μ' e => ?_⟩, fun h => absurd (by decide) h⟩
    · rw [mo_iy]
      exact vp_in_nI (by omega) (by omega)
    · rw [mo_iy]
      exact vp_in_nI (by omega) (by omega)
    · rw [mo_iy, mo_iy, cl_nI (by omega), cl_nI (by omega)] at e
      subst e
      refine hQ _ (mo_M_set hM hr ht k0 (cnt := (R r f).2) ?_ ?_ ?_) (mo_fr_tr (mo_fr_A (by simp)) (mo_fr_A (by simp)))
      · rw [mu_A_sA, if_neg (by omega), mu_A_sA, if_pos rfl]
      · rw [mu_A_sA, if_pos rfl, mu_A_sA, if_neg (by omega), g4]
      · rw [mu_A_sA, if_neg (by omega), mu_A_sA, if_neg (by omega)]
  have step : ∀ (i : Nat) (V : Nat → Int32), i < 3 → V (120 * r + 3 * f + i) = μ.2 40 (120 * r + 3 * f + i) → X3 (nI (i + 1)) (mu_sA μ 40 (upd V (120 * r + 3 * t + i) (μ.2 40 (120 * r + 3 * f + i)))) → X3 (nI i) (mu_sA μ 40 V) := by
    intro i V hi hv hn
    refine hX _ _ ⟨fun h => ?_, fun _ => ?_⟩
    · rw [show (3 : Int32) = nI 3 from rfl, nI_leI (by omega) (by omega)] at h
      omega
    · show vp_in _ 960 ∧ vp_in _ 960 ∧ _
      rw [mo_ix, mo_ix, nI_add, nI_add]
      refine ⟨vp_in_nI (by omega) (by omega), vp_in_nI (by omega) (by omega), fun μ' e => ?_⟩
      rw [cl_nI (by omega), cl_nI (by omega), mu_A_sA, if_pos rfl, hv] at e
      subst e
      have e2 : mu_sA (mu_sA μ 40 V) 40 (upd V (120 * r + 3 * t + i) (μ.2 40 (120 * r + 3 * f + i))) = mu_sA μ 40 (upd V (120 * r + 3 * t + i) (μ.2 40 (120 * r + 3 * f + i))) := by
        refine Prod.ext rfl ?_
        funext g
        simp only [mu_sA]
        split <;> rfl
      rw [e2, nI_1]
      exact hn
  have h0 : X3 (nI 0) (mu_sA μ 40 (μ.2 40)) := by
    refine step 0 _ (by omega) rfl (step 1 _ (by omega) ?_ (step 2 _ (by omega) ?_ ?_))
    · simp only [upd, if_neg (show ¬ 120 * r + 3 * f + 1 = 120 * r + 3 * t + 0 by omega)]
    · simp only [upd, if_neg (show ¬ 120 * r + 3 * f + 2 = 120 * r + 3 * t + 1 by omega), if_neg (show ¬ 120 * r + 3 * f + 2 = 120 * r + 3 * t + 0 by omega)]
    · rw [show 120 * r + 3 * f + 0 = 120 * r + 3 * f from rfl, show 120 * r + 3 * t + 0 = 120 * r + 3 * t from rfl, g1, g2, g3]
      exact fin
  have e3 : mu_sA μ 40 (μ.2 40) = μ := by
    refine Prod.ext rfl ?_
    funext g
    simp only [mu_sA]
    split
    · rename_i q
      rw [q]
    · rfl
  rw [e3] at h0
  exact h0
