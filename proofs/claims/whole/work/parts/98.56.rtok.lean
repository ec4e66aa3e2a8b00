/-! THE REFERENCE'S SIGNS, AND ALL RULES -/
theorem blk_em (t : tx_T) (i : Nat) : blk t i ∨ ¬ blk t i := Classical.em _
/-- signs so far -/
def tk1 (t : tx_T) (p : Nat) (μ : mo_U) : Prop := (μ.1 804 = nI (rnk t p)) ∧ (∀ q, q < p → ¬ blk t q → μ.2 24 (rnk t q) = nI (t.c q) ∧ μ.2 25 (rnk t q) = nI q)
theorem tk1.k {t : tx_T} {p : Nat} {μ : mo_U} (h' : tk1 t p μ) : μ.1 804 = nI (rnk t p) := h'.1
theorem tk1.s {t : tx_T} {p : Nat} {μ : mo_U} (h' : tk1 t p μ) : ∀ q, q < p → ¬ blk t q → μ.2 24 (rnk t q) = nI (t.c q) ∧ μ.2 25 (rnk t q) = nI q := h'.2
theorem rnk_lt (t : tx_T) {q p : Nat} (h : q < p) (hb : ¬ blk t q) : rnk t q < rnk t p := by
  have := rnk_mono t (p := q + 1) p h
  rw [rnk_s t hb] at this
  omega
theorem tk_end {t : tx_T} (hok : tx_ok t) {μ μ' : mo_U} (h : tk1 t t.n μ) (e : ∃ μ1, μ1 = mu_sA μ 24 (upd (μ.2 24) (rnk t t.n) (-1)) ∧ μ' = mu_sA μ1 25 (upd (μ1.2 25) (rnk t t.n) (nI t.n))) : tkn t μ' := by
  obtain ⟨μ1, e1, e2⟩ := e
  have x24 : ∀ j, μ'.2 24 j = if j = rnk t t.n then -1 else μ.2 24 j := fun j => by rw [e2, e1]; rfl
  have x25 : ∀ j, μ'.2 25 j = if j = rnk t t.n then nI t.n else μ.2 25 j := fun j => by rw [e2, e1]; rfl
  refine ⟨hok, by rw [e2, e1]; exact h.k, fun q hq => ?_, fun q hq => ?_⟩
  · rw [x24]
    by_cases z : q < t.n
    · have hb := hq.2 z
      have := rnk_lt t z hb
      rw [if_neg (by omega), (h.s q z hb).1]
      unfold sI sg
      have := hok.b q
      rw [if_pos z, if_neg (by omega)]
    · have : q = t.n := by have := hq.1; omega
      rw [this, if_pos rfl]
      unfold sI sg
      rw [if_neg (Nat.lt_irrefl _), if_pos rfl]
  · rw [x25]
    by_cases z : q < t.n
    · have hb := hq.2 z
      have := rnk_lt t z hb
      rw [if_neg (by omega)]
      exact (h.s q z hb).2
    · have : q = t.n := by have := hq.1; omega
      rw [this, if_pos rfl]
theorem ref_forget {μ : mo_U} (Q : mo_U → Prop) (h : ∀ μ', mo_fr [39, 42] [808, 817, 834, 836] μ μ' → μ'.1 808 = 0 → μ'.1 817 = 0 → μ'.1 836 = 0 → μ'.1 834 = 0 → (∀ j, j < 8 → μ'.2 42 j = 0 ∧ μ'.2 39 j = 0) → Q μ') : mp_forget μ Q := by
  intro X22 h22 μ1 e1 μ2 e2 μ3 e3 μ4 e4
  have fr4 : mo_fr [39, 42] [808, 817, 834, 836] μ μ4 := by
    rw [e4, e3, e2, e1]
    exact mo_fr_tr (fr_sI (by decide) _) (mo_fr_tr (fr_sI (by decide) _) (mo_fr_tr (fr_sI (by decide) _) (fr_sI (by decide) _)))
  have a1 : μ4.1 808 = 0 := by rw [e4, e3, e2, e1]; rfl
  have a2 : μ4.1 817 = 0 := by rw [e4, e3, e2, e1]; rfl
  have a3 : μ4.1 836 = 0 := by rw [e4, e3, e2, e1]; rfl
  have a4 : μ4.1 834 = 0 := by rw [e4, e3, e2, e1]; rfl
  have main : ∀ k i μ', i + k = 8 → mo_fr [39, 42] [] μ4 μ' → (∀ j, j < i → μ'.2 42 j = 0 ∧ μ'.2 39 j = 0) → X22 (nI i) μ' := by
    intro k
    induction k with
    | zero =>
      intro i μ' hi hf hc
      refine h22 _ _ ⟨fun _ => ?_, fun z => absurd (nI_le (a := 8) (by omega) (by omega)) z⟩
      exact h μ' (mo_fr_tr fr4 (fr_mono hf (by decide) (by decide))) (by rw [hf.2 808 (by decide)]; exact a1) (by rw [hf.2 817 (by decide)]; exact a2) (by rw [hf.2 836 (by decide)]; exact a3) (by rw [hf.2 834 (by decide)]; exact a4) (fun j hj => hc j (by omega))
    | succ k ih =>
      intro i μ' hi hf hc
      refine h22 _ _ ⟨fun z => absurd z (nI_ge (b := 8) (by omega) (by decide)), fun _ => ⟨vp_in_nI (by omega) (by decide), fun μ5 e5 => ⟨vp_in_nI (by omega) (by decide), fun μ6 e6 => ?_⟩⟩⟩
      rw [cl_nI (by omega)] at e5 e6
      rw [nI_1]
      have x42 : ∀ j, μ6.2 42 j = if j = i then 0 else μ'.2 42 j := fun j => by rw [e6, e5]; rfl
      have x39 : ∀ j, μ6.2 39 j = if j = i then 0 else μ'.2 39 j := fun j => by rw [e6, e5]; rfl
      refine ih (i + 1) μ6 (by omega) (mo_fr_tr hf (by rw [e6, e5]; exact mo_fr_tr (fr_sA (by decide) _) (fr_sA (by decide) _))) (fun j hj => ?_)
      rw [x42, x39]
      by_cases z : j = i
      · rw [if_pos z, if_pos z]; exact ⟨rfl, rfl⟩
      · rw [if_neg z, if_neg z]; exact hc j (by omega)
  exact main 8 0 μ4 rfl mo_fr_rf (fun j hj => absurd hj (Nat.not_lt_zero j))
abbrev gts : List Nat := [24, 25, 26, 27, 28, 29, 30, 31, 32, 33, 34, 35, 36, 39, 42]
abbrev gfs : List Nat := [804, 805, 806, 807, 808, 817, 831, 834, 836]
/-- reading all rules: what is known at the end -/
theorem ref_rules {t : tx_T} (hok : tx_ok t) {μ0 : mo_U} (h801 : μ0.1 801 = nI t.n) (h23 : ∀ i, i < t.n → (μ0.2 23 i &&& 255) = nI (t.c i)) (X7 : Int32 → mo_U → Prop) (X121 X146 : mo_U → Prop)
    (h7 : ∀ (v1 : Int32) (μ : mo_U), (((μ.1 801) ≤ v1 → vp_in (μ.1 804) 602 ∧ ∀ μ83, μ83 = mu_sA μ 24 (upd (μ.2 24) (μ.1 804).toNatClampNeg ((-1 : Int32))) → vp_in (μ83.1 804) 602 ∧ ∀ μ96, μ96 = mu_sA μ83 25 (upd (μ83.2 25) (μ83.1 804).toNatClampNeg (μ83.1 801)) → mp_forget μ96 (fun (μ98 : mo_U) => ∀ μ103, μ103 = mu_sI μ98 831 ((0 : Int32)) → ∀ μ108, μ108 = mu_sI μ103 805 ((0 : Int32)) → ∀ μ113, μ113 = mu_sI μ108 806 ((0 : Int32)) → ∀ μ118, μ118 = mu_sI μ113 807 ((-1 : Int32)) → X121 μ118)) ∧ (¬ (μ.1 801) ≤ v1 → vp_in v1 600 ∧ ((((μ.2 23 v1.toNatClampNeg) &&& ((255 : Int32))) = ((32 : Int32)) → X7 (v1 + (1 : Int32)) μ) ∧ (¬ ((μ.2 23 v1.toNatClampNeg) &&& ((255 : Int32))) = ((32 : Int32)) → (((μ.2 23 v1.toNatClampNeg) &&& ((255 : Int32))) = ((10 : Int32)) → X7 (v1 + (1 : Int32)) μ) ∧ (¬ ((μ.2 23 v1.toNatClampNeg) &&& ((255 : Int32))) = ((10 : Int32)) → vp_in (μ.1 804) 602 ∧ ∀ μ47, μ47 = mu_sA μ 24 (upd (μ.2 24) (μ.1 804).toNatClampNeg ((μ.2 23 v1.toNatClampNeg) &&& ((255 : Int32)))) → vp_in (μ47.1 804) 602 ∧ ∀ μ57, μ57 = mu_sA μ47 25 (upd (μ47.2 25) (μ47.1 804).toNatClampNeg v1) → ∀ μ65, μ65 = mu_sI μ57 804 ((μ57.1 804) + ((1 : Int32))) → X7 (v1 + (1 : Int32)) μ65))))) → X7 v1 μ)
    (h121 : ∀ (μ : mo_U), ((¬ ((μ.1 806)) = 0 → X146 μ) ∧ (((μ.1 806)) = 0 → ((μ.1 804) ≤ (μ.1 805) → X146 μ) ∧ (¬ (μ.1 804) ≤ (μ.1 805) → mp_rule μ (fun (μ140 : mo_U) => X121 μ140)))) → X121 μ)
    (hO : ∀ p μ', parse t = .ok p → (∃ q, rsS t p.rs p.nm p.A q μ') → mo_fr gts gfs μ0 μ' → μ'.1 831 = 0 → μ'.1 834 = 0 → μ'.1 836 = 0 → μ'.1 807 = -1 → (∀ j, j < 8 → μ'.2 42 j = 0 ∧ μ'.2 39 j = 0) → X146 μ')
    (hE : ∀ e μ', parse t = .error e → rsF t e μ' → mo_fr gts gfs μ0 μ' → μ'.1 831 = 0 → (∀ j, j < 8 → μ'.2 42 j = 0 ∧ μ'.2 39 j = 0) → X146 μ') : ∀ μ2, μ2 = mu_sI μ0 804 ((0 : Int32)) → X7 ((0 : Int32)) μ2 := by
  have n6 := hok.n6
  -- rule after rule
  have rules : ∀ (μ1 : mo_U), mo_fr gts gfs μ0 μ1 → μ1.1 831 = 0 → μ1.1 834 = 0 → μ1.1 836 = 0 → μ1.1 807 = -1 → (∀ j, j < 8 → μ1.2 42 j = 0 ∧ μ1.2 39 j = 0) → ∀ k (rs : List ru_T) (nm A : List Nat) (q : Nat) (μ : mo_U), rs.length + k = 17 → parse t = prs t k rs nm A q → rsS t rs nm A q μ → mo_fr pts [805, 808, 817] μ1 μ → X121 μ := by
    intro μ1 f1 a831 a834 a836 a807 a42 k
    induction k with
    | zero =>
      intro rs nm A q μ hk _ hS _
      have := hS.o.n
      omega
    | succ k ih =>
      intro rs nm A q μ hk hp hS hf
      have hqn := hS.s.q.1
      refine h121 _ ⟨fun z => absurd hS.s.f z, fun _ => ?_⟩
      have r1 := rnk_le t q
      have r2 := rnk_le t t.n
      rw [hS.s.k.k, hS.s.a, nI_leI (by omega) (by omega)]
      refine ⟨fun hle => ?_, fun hgt => ref_rule hS _ (fun r μ' hr h16 hS' fr => ?_) (fun e μ' hr hF fr => ?_)⟩
      · have hq : ¬ q < t.n := fun z => by
          have := rnk_lt t z (hS.s.q.2 z)
          omega
        refine hO ⟨rs, nm, A⟩ μ ?_ ⟨q, hS⟩ (mo_fr_tr f1 (fr_mono hf (by decide) (by decide))) (by rw [hf.2 831 (by decide)]; exact a831) (by rw [hf.2 834 (by decide)]; exact a834) (by rw [hf.2 836 (by decide)]; exact a836) (by rw [hf.2 807 (by decide)]; exact a807) (fun j hj => by rw [hf.1 42 (by decide), hf.1 39 (by decide)]; exact a42 j hj)
        rw [hp]
        unfold prs
        rw [if_neg hq]
      · have hq : q < t.n := by
          rcases Nat.lt_or_ge q t.n with z | z
          · exact z
          · exact absurd (by rw [show q = t.n by omega]; exact Nat.le_refl _) hgt
        refine ih (rs ++ [r.r]) r.nm r.A r.q μ' (by rw [List.length_append]; show rs.length + 1 + k = 17; omega) ?_ hS' (mo_fr_tr hf fr)
        rw [hp]
        show (if q < t.n then (match rul t rs nm A q with
          | .error e => _
          | .ok r => _) else _) = _
        rw [if_pos hq, hr]
      · have hq : q < t.n := by
          rcases Nat.lt_or_ge q t.n with z | z
          · exact z
          · exact absurd (by rw [show q = t.n by omega]; exact Nat.le_refl _) hgt
        refine h121 _ ⟨fun _ => hE e μ' ?_ hF (mo_fr_tr f1 (mo_fr_tr (fr_mono hf (by decide) (by decide)) (fr_mono fr (by decide) (by decide)))) (by rw [fr.2 831 (by decide), hf.2 831 (by decide)]; exact a831) (fun j hj => by rw [fr.1 42 (by decide), hf.1 42 (by decide), fr.1 39 (by decide), hf.1 39 (by decide)]; exact a42 j hj), fun z => absurd z (rsF_n0 hF)⟩
        rw [hp]
        unfold prs
        rw [if_pos hq, hr]
  have toks : ∀ k i μ, i + k = t.n → tk1 t i μ → mo_fr [24, 25] [804] μ0 μ → X7 (nI i) μ := by
    intro k
    induction k with
    | zero =>
      intro i μ hi hk hf
      have ei : i = t.n := by omega
      rw [ei] at hk ⊢
      have r2 := rnk_le t t.n
      have e801 : μ.1 801 = nI t.n := by rw [hf.2 801 (by decide)]; exact h801
      refine h7 _ _ ?_
      rw [e801]
      refine ⟨fun _ => ?_, fun z => absurd (nI_le (by omega) (by omega)) z⟩
      rw [hk.k, cl_nI (by omega)]
      refine ⟨vp_in_nI (by omega) (by decide), fun μ1 e1 => ?_⟩
      have b1 : μ1.1 804 = nI (rnk t t.n) := by rw [e1]; exact hk.k
      have b2 : μ1.1 801 = nI t.n := by rw [e1]; exact e801
      rw [b1, b2, cl_nI (by omega)]
      refine ⟨vp_in_nI (by omega) (by decide), fun μ2 e2 => ref_forget _ (fun μ3 fr3 c1 c2 c3 c4 c5 μ4 e4 μ5 e5 μ6 e6 μ7 e7 => ?_)⟩
      have htk : tkn t μ2 := tk_end hok hk ⟨μ1, e1, e2⟩
      have fr2 : mo_fr [24, 25] [804] μ0 μ2 := mo_fr_tr hf (by rw [e2, e1]; exact mo_fr_tr (fr_sA (by decide) _) (fr_sA (by decide) _))
      have fr7 : mo_fr [] [831, 805, 806, 807] μ3 μ7 := by
        rw [e7, e6, e5, e4]
        exact mo_fr_tr (fr_sI (by decide) _) (mo_fr_tr (fr_sI (by decide) _) (mo_fr_tr (fr_sI (by decide) _) (fr_sI (by decide) _)))
      have fr27 : mo_fr [39, 42] [808, 817, 834, 836, 831, 805, 806, 807] μ2 μ7 := mo_fr_tr (fr_mono fr3 (by decide) (by decide)) (fr_mono fr7 (by decide) (by decide))
      have d5 : μ7.1 805 = 0 := by rw [e7, e6, e5]; rfl
      have d6 : μ7.1 806 = 0 := by rw [e7, e6]; rfl
      have d7 : μ7.1 807 = -1 := by rw [e7]; rfl
      have d1 : μ7.1 831 = 0 := by rw [e7, e6, e5, e4]; rfl
      have htk7 := tkn_fr htk fr27 (by decide) (by decide) (by decide)
      refine rules μ7 (mo_fr_tr (fr_mono fr2 (by decide) (by decide)) (fr_mono fr27 (by decide) (by decide))) d1 (by rw [fr7.2 834 (by decide)]; exact c4) (by rw [fr7.2 836 (by decide)]; exact c3) d7 (fun j hj => by rw [fr7.1 42 (by decide), fr7.1 39 (by decide)]; exact c5 j hj) 17 [] [] [] (nxt t 0) μ7 rfl rfl ⟨⟨htk7, nxt_plc t (Nat.zero_le _), ?_, d6⟩, ⟨by rw [fr7.2 817 (by decide)]; exact c2, by decide, rfl, fun k hk => absurd hk (Nat.not_lt_zero k), fun k hk => absurd hk (Nat.not_lt_zero k), fun x hx => absurd hx List.not_mem_nil, List.nodup_nil, fun k => ?_⟩, ⟨by decide, fun j hj => absurd hj (Nat.not_lt_zero j), fun j hj => absurd hj (Nat.not_lt_zero j)⟩, by rw [fr7.2 808 (by decide)]; exact c1, fun j hj => absurd hj (Nat.not_lt_zero j), fun j hj => absurd hj (Nat.not_lt_zero j), fun j hj => absurd hj (Nat.not_lt_zero j), fun j hj => absurd hj (Nat.not_lt_zero j), fun r hr => absurd hr List.not_mem_nil⟩ mo_fr_rf
      · rw [d5, rnk_nx]; rfl
      · show ([] : List Nat).getD k 0 ≤ 3
        simp
    | succ k ih =>
      intro i μ hi hk hf
      have e801 : μ.1 801 = nI t.n := by rw [hf.2 801 (by decide)]; exact h801
      have e23 : (μ.2 23 i &&& 255) = nI (t.c i) := by rw [hf.1 23 (by decide)]; exact h23 i (by omega)
      have hb := hok.b i
      have r2 := rnk_le t i
      refine h7 _ _ ?_
      rw [e801]
      refine ⟨fun z => absurd z (nI_ge (by omega) (by omega)), fun _ => ⟨vp_in_nI (by omega) (by decide), ?_⟩⟩
      rw [cl_nI (by omega), e23, nI_1, show (32 : Int32) = nI 32 from rfl, show (10 : Int32) = nI 10 from rfl, nI_eq (by omega) (by decide), nI_eq (by omega) (by decide)]
      have skip : blk t i → X7 (nI (i + 1)) μ := fun hbl => ih (i + 1) μ (by omega) ⟨by rw [rnk_bl t (i + 1) (Nat.le_succ i) (fun j h1 h2 => by rw [show j = i by omega]; exact hbl)]; exact hk.k, fun q hq hnb => by
        by_cases y : q = i
        · rw [y] at hnb; exact absurd hbl hnb
        · exact hk.s q (by omega) hnb⟩ hf
      refine ⟨fun z => skip (Or.inl z), fun z => ⟨fun y => skip (Or.inr y), fun y => ?_⟩⟩
      have hnb : ¬ blk t i := fun w => w.elim z y
      rw [hk.k, cl_nI (by omega)]
      refine ⟨vp_in_nI (by omega) (by decide), fun μ1 e1 => ?_⟩
      have b1 : μ1.1 804 = nI (rnk t i) := by rw [e1]; exact hk.k
      rw [b1, cl_nI (by omega)]
      refine ⟨vp_in_nI (by omega) (by decide), fun μ2 e2 μ3 e3 => ?_⟩
      have b2 : μ2.1 804 = nI (rnk t i) := by rw [e2]; exact b1
      rw [b2, nI_1] at e3
      have x24 : ∀ j, μ3.2 24 j = if j = rnk t i then nI (t.c i) else μ.2 24 j := fun j => by rw [e3, e2, e1]; rfl
      have x25 : ∀ j, μ3.2 25 j = if j = rnk t i then nI i else μ.2 25 j := fun j => by rw [e3, e2, e1]; rfl
      refine ih (i + 1) μ3 (by omega) ⟨by rw [e3, mu_I_sI, if_pos rfl, rnk_s t hnb], fun q hq hnq => ?_⟩ (mo_fr_tr hf (by rw [e3, e2, e1]; exact mo_fr_tr (fr_sA (by decide) _) (mo_fr_tr (fr_sA (by decide) _) (fr_sI (by decide) _))))
      rw [x24, x25]
      by_cases w : q = i
      · rw [w, if_pos rfl, if_pos rfl]; exact ⟨rfl, rfl⟩
      · have := rnk_lt t (show q < i by omega) hnq
        rw [if_neg (by omega), if_neg (by omega)]
        exact hk.s q (by omega) hnq
  intro μ2 e2
  exact toks t.n 0 μ2 (by omega) ⟨by rw [e2]; rfl, fun q hq => absurd hq (Nat.not_lt_zero q)⟩ (by rw [e2]; exact fr_sI (by decide) _)
