/-! THE REFERENCE READS -/
def tkn (t : tx_T) (μ : mo_U) : Prop := (tx_ok t) ∧ (μ.1 804 = nI (rnk t t.n)) ∧ (∀ q, plc t q → μ.2 24 (rnk t q) = sI (sg t q)) ∧ (∀ q, plc t q → μ.2 25 (rnk t q) = nI q)
theorem tkn.ok {t : tx_T} {μ : mo_U} (h' : tkn t μ) : tx_ok t := h'.1
theorem tkn.k {t : tx_T} {μ : mo_U} (h' : tkn t μ) : μ.1 804 = nI (rnk t t.n) := h'.2.1
theorem tkn.s {t : tx_T} {μ : mo_U} (h' : tkn t μ) : ∀ q, plc t q → μ.2 24 (rnk t q) = sI (sg t q) := h'.2.2.1
theorem tkn.p {t : tx_T} {μ : mo_U} (h' : tkn t μ) : ∀ q, plc t q → μ.2 25 (rnk t q) = nI q := h'.2.2.2
theorem tkn_fr {t : tx_T} {μ μ' : mo_U} {ts fs : List Nat} (h : tkn t μ) (hf : mo_fr ts fs μ μ') (h1 : 24 ∉ ts) (h2 : 25 ∉ ts) (h3 : 804 ∉ fs) : tkn t μ' := ⟨h.ok, by rw [hf.2 804 h3]; exact h.k, fun q hq => by rw [hf.1 24 h1]; exact h.s q hq, fun q hq => by rw [hf.1 25 h2]; exact h.p q hq⟩
/-- reading stands at q, no fault -/
def rs0 (t : tx_T) (μ : mo_U) (q : Nat) : Prop := (tkn t μ) ∧ (plc t q) ∧ (μ.1 805 = nI (rnk t q)) ∧ (μ.1 806 = 0)
theorem rs0.k {t : tx_T} {μ : mo_U} {q : Nat} (h' : rs0 t μ q) : tkn t μ := h'.1
theorem rs0.q {t : tx_T} {μ : mo_U} {q : Nat} (h' : rs0 t μ q) : plc t q := h'.2.1
theorem rs0.a {t : tx_T} {μ : mo_U} {q : Nat} (h' : rs0 t μ q) : μ.1 805 = nI (rnk t q) := h'.2.2.1
theorem rs0.f {t : tx_T} {μ : mo_U} {q : Nat} (h' : rs0 t μ q) : μ.1 806 = 0 := h'.2.2.2
/-- a fault is kept -/
def rsF (t : tx_T) (e : ft_T) (μ : mo_U) : Prop := (tkn t μ) ∧ (∃ q, plc t q ∧ μ.1 805 = nI (rnk t q)) ∧ (μ.1 806 = nI e.1) ∧ (μ.1 807 = nI e.2) ∧ (1 ≤ e.1 ∧ e.1 ≤ 6)
theorem rsF.k {t : tx_T} {e : ft_T} {μ : mo_U} (h' : rsF t e μ) : tkn t μ := h'.1
theorem rsF.a {t : tx_T} {e : ft_T} {μ : mo_U} (h' : rsF t e μ) : ∃ q, plc t q ∧ μ.1 805 = nI (rnk t q) := h'.2.1
theorem rsF.f {t : tx_T} {e : ft_T} {μ : mo_U} (h' : rsF t e μ) : μ.1 806 = nI e.1 := h'.2.2.1
theorem rsF.p {t : tx_T} {e : ft_T} {μ : mo_U} (h' : rsF t e μ) : μ.1 807 = nI e.2 := h'.2.2.2.1
theorem rsF.e {t : tx_T} {e : ft_T} {μ : mo_U} (h' : rsF t e μ) : 1 ≤ e.1 ∧ e.1 ≤ 6 := h'.2.2.2.2
theorem rnk_600 {t : tx_T} (h : tx_ok t) {q : Nat} (hq : plc t q) : rnk t q ≤ 600 := Nat.le_trans (rnk_le t q) (Nat.le_trans hq.1 h.n6)
theorem plc_st {t : tx_T} {q : Nat} (h : q < t.n) : plc t (nxt t (q + 1)) := nxt_plc t h
theorem ref_sign {t : tx_T} {μ : mo_U} {q : Nat} (hk : tkn t μ) (hq : plc t q) (ha : μ.1 805 = nI (rnk t q)) (Q : Int32 → mo_U → Prop) (h : Q (sI (sg t q)) μ) : mp_sign μ Q := by
  have := rnk_600 hk.ok hq
  unfold mp_sign
  rw [ha, cl_nI (by omega), hk.s q hq]
  exact ⟨vp_in_nI (by omega) (by decide), h⟩
theorem ref_wrong {t : tx_T} {μ : mo_U} {q k : Nat} (h0 : rs0 t μ q) (hk : 1 ≤ k ∧ k ≤ 6) (Q : mo_U → Prop) (h : ∀ μ', rsF t (k, q) μ' → mo_fr [] [806, 807] μ μ' → Q μ') : mp_wrong (nI k) μ Q := by
  have := rnk_600 h0.k.ok h0.q
  refine ⟨fun z => absurd h0.f z, fun _ μ1 e1 => ?_⟩
  have a1 : μ1.1 805 = nI (rnk t q) := by rw [e1, mu_I_sI, if_neg (by decide)]; exact h0.a
  have a2 : μ1.2 25 (rnk t q) = nI q := by rw [e1]; exact h0.k.p q h0.q
  rw [a1, cl_nI (by omega), a2]
  refine ⟨vp_in_nI (by omega) (by decide), fun μ2 e2 => ?_⟩
  have fr : mo_fr [] [806, 807] μ μ2 := by
    rw [e2, e1]
    exact mo_fr_tr (fr_sI (by decide) _) (fr_sI (by decide) _)
  refine h μ2 ⟨tkn_fr h0.k fr (by decide) (by decide) (by decide), ⟨q, h0.q, by rw [fr.2 805 (by decide)]; exact h0.a⟩, ?_, ?_, hk⟩ fr
  · rw [e2, mu_I_sI, if_neg (by decide), e1, mu_I_sI, if_pos rfl]
  · rw [e2, mu_I_sI, if_pos rfl]
theorem rsF_n0 {t : tx_T} {e : ft_T} {μ : mo_U} (h : rsF t e μ) : ¬ μ.1 806 = 0 := by
  rw [h.f]
  have := h.e
  exact fun z => absurd ((nI_eq (b := 0) (by omega) (by decide)).mp z) (by omega)
theorem ref_wrongF {t : tx_T} {e : ft_T} {μ : mo_U} (h0 : rsF t e μ) (x : Int32) (Q : mo_U → Prop) (h : Q μ) : mp_wrong x μ Q := ⟨fun _ => h, fun z => absurd z (rsF_n0 h0)⟩
theorem rs0_st {t : tx_T} {μ μ' : mo_U} {q : Nat} (h0 : rs0 t μ q) (hq : q < t.n) (e : μ' = mu_sI μ 805 (nI (rnk t q + 1))) : rs0 t μ' (nxt t (q + 1)) := by
  have fr : mo_fr [] [805] μ μ' := by rw [e]; exact fr_sI (by decide) _
  refine ⟨tkn_fr h0.k fr (by decide) (by decide) (by decide), plc_st hq, ?_, by rw [fr.2 806 (by decide)]; exact h0.f⟩
  rw [e, mu_I_sI, if_pos rfl, rnk_st t (h0.q.2 hq)]
theorem ref_take {t : tx_T} {μ : mo_U} {q s : Nat} (h0 : rs0 t μ q) (hs : s < 256) (Q : mo_U → Prop) (h1 : ∀ q' μ', tak t s q = .ok q' → rs0 t μ' q' → mo_fr [] [805] μ μ' → Q μ') (h2 : ∀ e μ', tak t s q = .error e → rsF t e μ' → mo_fr [] [805, 806, 807] μ μ' → Q μ') : mp_take (nI s) μ Q := by
  intro X20 X37 h20 h37
  refine ⟨fun z => absurd h0.f z, fun _ => ref_sign h0.k h0.q h0.a _ ?_⟩
  rw [sI_eq (sg_ok h0.k.ok q) hs]
  refine ⟨fun e => h20 _ ⟨fun z => absurd h0.f z, fun _ => ?_⟩, fun e => ref_wrong (k := 1) h0 (by decide) _ (fun μ1 hF fr => ?_)⟩
  · rw [h0.a]
    refine h37 _ _ _ (fun μ1 e1 => ?_)
    rw [nI_1] at e1
    refine h1 _ μ1 (by unfold tak; rw [if_pos e]) (rs0_st h0 (sg_lt e hs) e1) (by rw [e1]; exact fr_sI (by decide) _)
  · refine h20 _ ⟨fun _ => ?_, fun z => absurd z (rsF_n0 hF)⟩
    obtain ⟨q1, g1, g2⟩ := hF.a
    rw [g2]
    refine h37 _ _ _ (fun μ2 e2 => ?_)
    have fr2 : mo_fr [] [805] μ1 μ2 := by rw [e2]; exact fr_sI (by decide) _
    refine h2 (1, q) μ2 (by unfold tak; rw [if_neg e]) ⟨tkn_fr hF.k fr2 (by decide) (by decide) (by decide), ⟨q1, g1, ?_⟩, by rw [fr2.2 806 (by decide)]; exact hF.f, by rw [fr2.2 807 (by decide)]; exact hF.p, hF.e⟩ (mo_fr_tr (fr_mono fr (by decide) (by decide)) (fr_mono fr2 (by decide) (by decide)))
    rw [e2, mu_I_sI, if_pos rfl]
    exact Int32.add_zero _
theorem rsF_fr {t : tx_T} {e : ft_T} {μ μ' : mo_U} {ts fs : List Nat} (h : rsF t e μ) (hf : mo_fr ts fs μ μ') (h1 : 24 ∉ ts) (h2 : 25 ∉ ts) (h3 : 804 ∉ fs) (h4 : 805 ∉ fs) (h5 : 806 ∉ fs) (h6 : 807 ∉ fs) : rsF t e μ' := by
  obtain ⟨q, g1, g2⟩ := h.a
  exact ⟨tkn_fr h.k hf h1 h2 h3, ⟨q, g1, by rw [hf.2 805 h4]; exact g2⟩, by rw [hf.2 806 h5]; exact h.f, by rw [hf.2 807 h6]; exact h.p, h.e⟩
/-- 805 written as it is -/
theorem rsF_0 {t : tx_T} {e : ft_T} {μ μ' : mo_U} (h : rsF t e μ) (he : μ' = mu_sI μ 805 (μ.1 805 + 0)) : rsF t e μ' ∧ mo_fr [] [805] μ μ' := by
  obtain ⟨q, g1, g2⟩ := h.a
  have fr2 : mo_fr [] [805] μ μ' := by rw [he]; exact fr_sI (by decide) _
  refine ⟨⟨tkn_fr h.k fr2 (by decide) (by decide) (by decide), ⟨q, g1, ?_⟩, by rw [fr2.2 806 (by decide)]; exact h.f, by rw [fr2.2 807 (by decide)]; exact h.p, h.e⟩, fr2⟩
  rw [he, mu_I_sI, if_pos rfl, g2]
  exact Int32.add_zero _
theorem ref_takeF {t : tx_T} {e : ft_T} {μ : mo_U} (h0 : rsF t e μ) (x : Int32) (Q : mo_U → Prop) (h : ∀ μ', rsF t e μ' → mo_fr [] [805] μ μ' → Q μ') : mp_take x μ Q := by
  intro X20 X37 h20 h37
  refine ⟨fun _ => h20 _ ⟨fun _ => ?_, fun z => absurd z (rsF_n0 h0)⟩, fun z => absurd z (rsF_n0 h0)⟩
  refine h37 _ _ _ (fun μ1 e1 => ?_)
  obtain ⟨g1, g2⟩ := rsF_0 h0 e1
  exact h μ1 g1 g2
theorem ref_isName {μ : mo_U} {s : Nat} (hs : s < 256 ∨ s = 999) (Q : Int32 → mo_U → Prop) (h1 : 97 ≤ s ∧ s ≤ 122 → Q 1 μ) (h0 : ¬ (97 ≤ s ∧ s ≤ 122) → Q 0 μ) : mp_isName (sI s) μ Q := by
  have := sI_in (a := 97) (b := 122) hs (by decide) (by decide) (by decide)
  exact ⟨fun z => h0 (fun y => (this.mpr y).1 z), fun z => ⟨fun w => h0 (fun y => (this.mpr y).2 w), fun w => h1 (this.mp ⟨z, w⟩)⟩⟩
theorem ref_isVariable {μ : mo_U} {s : Nat} (hs : s < 256 ∨ s = 999) (Q : Int32 → mo_U → Prop) (h1 : 65 ≤ s ∧ s ≤ 90 → Q 1 μ) (h0 : ¬ (65 ≤ s ∧ s ≤ 90) → Q 0 μ) : mp_isVariable (sI s) μ Q := by
  have := sI_in (a := 65) (b := 90) hs (by decide) (by decide) (by decide)
  exact ⟨fun z => h0 (fun y => (this.mpr y).1 z), fun z => ⟨fun w => h0 (fun y => (this.mpr y).2 w), fun w => h1 (this.mp ⟨z, w⟩)⟩⟩
theorem ref_isDigit {μ : mo_U} {s : Nat} (hs : s < 256 ∨ s = 999) (Q : Int32 → mo_U → Prop) (h1 : 48 ≤ s ∧ s ≤ 57 → Q 1 μ) (h0 : ¬ (48 ≤ s ∧ s ≤ 57) → Q 0 μ) : mp_isDigit (sI s) μ Q := by
  have := sI_in (a := 48) (b := 57) hs (by decide) (by decide) (by decide)
  exact ⟨fun z => h0 (fun y => (this.mpr y).1 z), fun z => ⟨fun w => h0 (fun y => (this.mpr y).2 w), fun w => h1 (this.mp ⟨z, w⟩)⟩⟩
