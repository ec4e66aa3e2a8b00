abbrev pts : List Nat := [26, 27, 28, 29, 30, 31, 32, 33, 34, 35, 36]
abbrev pfs : List Nat := [805, 806, 807, 808, 817]
def F1 (L3 ri n n' : Nat) (μ μ' : mo_U) : Prop := (mo_fr [29, 30, 31, 32, 33, 34, 35, 36] [805, 817] μ μ') ∧ (∀ j, j ≠ L3 → μ'.2 29 j = μ.2 29 j) ∧ (∀ j, j ≠ L3 → μ'.2 30 j = μ.2 30 j) ∧ (∀ j, (j < 3 * L3 ∨ 3 * L3 + 3 ≤ j) → μ'.2 31 j = μ.2 31 j) ∧ (∀ j, j ≠ ri → μ'.2 33 j = μ.2 33 j) ∧ (μ'.2 32 = μ.2 32) ∧ (∀ k, k < n → μ'.2 36 k = μ.2 36 k) ∧ (∀ k, n ≤ k → k < n' → μ'.2 36 k = 0) ∧ (n ≤ n')
theorem F1.f {L3 ri n n' : Nat} {μ μ' : mo_U} (h' : F1 L3 ri n n' μ μ') : mo_fr [29, 30, 31, 32, 33, 34, 35, 36] [805, 817] μ μ' := h'.1
theorem F1.c29 {L3 ri n n' : Nat} {μ μ' : mo_U} (h' : F1 L3 ri n n' μ μ') : ∀ j, j ≠ L3 → μ'.2 29 j = μ.2 29 j := h'.2.1
theorem F1.c30 {L3 ri n n' : Nat} {μ μ' : mo_U} (h' : F1 L3 ri n n' μ μ') : ∀ j, j ≠ L3 → μ'.2 30 j = μ.2 30 j := h'.2.2.1
theorem F1.c31 {L3 ri n n' : Nat} {μ μ' : mo_U} (h' : F1 L3 ri n n' μ μ') : ∀ j, (j < 3 * L3 ∨ 3 * L3 + 3 ≤ j) → μ'.2 31 j = μ.2 31 j := h'.2.2.2.1
theorem F1.c33 {L3 ri n n' : Nat} {μ μ' : mo_U} (h' : F1 L3 ri n n' μ μ') : ∀ j, j ≠ ri → μ'.2 33 j = μ.2 33 j := h'.2.2.2.2.1
theorem F1.c32 {L3 ri n n' : Nat} {μ μ' : mo_U} (h' : F1 L3 ri n n' μ μ') : μ'.2 32 = μ.2 32 := h'.2.2.2.2.2.1
theorem F1.c36 {L3 ri n n' : Nat} {μ μ' : mo_U} (h' : F1 L3 ri n n' μ μ') : ∀ k, k < n → μ'.2 36 k = μ.2 36 k := h'.2.2.2.2.2.2.1
theorem F1.v {L3 ri n n' : Nat} {μ μ' : mo_U} (h' : F1 L3 ri n n' μ μ') : ∀ k, n ≤ k → k < n' → μ'.2 36 k = 0 := h'.2.2.2.2.2.2.2.1
theorem F1.nn {L3 ri n n' : Nat} {μ μ' : mo_U} (h' : F1 L3 ri n n' μ μ') : n ≤ n' := h'.2.2.2.2.2.2.2.2
theorem lit_c {μ μ' : mo_U} {L3 L : Nat} {l : lit_T} (h : mo_lit μ L l) (hne : L ≠ L3) (c29 : ∀ j, j ≠ L3 → μ'.2 29 j = μ.2 29 j) (c30 : ∀ j, j ≠ L3 → μ'.2 30 j = μ.2 30 j) (c31 : ∀ j, (j < 3 * L3 ∨ 3 * L3 + 3 ≤ j) → μ'.2 31 j = μ.2 31 j) : mo_lit μ' L l := by
  unfold mo_lit
  rw [c29 L hne, c30 L hne, c31 (3 * L) (by omega), c31 (3 * L + 1) (by omega), c31 (3 * L + 2) (by omega)]
  exact h
theorem ref_litfin {t : tx_T} {μ : mo_U} {ri : Nat} {ls : List lit_T} {nm A : List Nat} {lt : Nat → Bool} {q : Nat} (h0 : rlS t ri ls nm A lt q μ) (h5 : ls.length < 5) {r : lr_T} {μ1 μ2 : mo_U} (hs : rs0 t μ1 r.q) (hn : nms r.nm r.A μ1) (hl : ∀ k, k < 26 → bi (μ1.2 33 ri) k = r.lt k) (h6 : rk r.lt 26 ≤ 6) (hm : mo_lit μ1 (5 * ri + ls.length) r.l) (hF : F1 (5 * ri + ls.length) ri nm.length r.nm.length μ μ1) (e2 : μ2 = mu_sA μ1 28 (upd (μ1.2 28) ri (nI (ls.length + 1)))) : rlS t ri (ls ++ [r.l]) r.nm r.A r.lt r.q μ2 ∧ LF ri nm.length r.nm.length μ μ2 := by
  have fr2 : mo_fr [28] [] μ1 μ2 := by rw [e2]; exact fr_sA (by decide) _
  have x28 : ∀ j, μ2.2 28 j = if j = ri then nI (ls.length + 1) else μ1.2 28 j := fun j => by rw [e2]; rfl
  have hlen : (ls ++ [r.l]).length = ls.length + 1 := by rw [List.length_append]; rfl
  have e28 : μ1.2 28 = μ.2 28 := hF.f.1 28 (by decide)
  refine ⟨⟨rs0_fr hs fr2 (by decide) (by decide) (by decide) (by decide) (by decide), nms_fr hn fr2 (by decide) (by decide) (by decide), ⟨h0.b.1, by omega, by rw [x28, if_pos rfl, hlen], fun i hi => ?_⟩, fun k hk => by rw [fr2.1 33 (by decide)]; exact hl k hk, h6⟩, ⟨mo_fr_tr (fr_mono hF.f (by decide) (by decide)) (fr_mono fr2 (by decide) (by decide)), fun j hj => by rw [x28, if_neg hj, e28], fun j hj => by rw [fr2.1 29 (by decide)]; exact hF.c29 j (by omega), fun j hj => by rw [fr2.1 30 (by decide)]; exact hF.c30 j (by omega), fun j hj => by rw [fr2.1 31 (by decide)]; exact hF.c31 j (by omega), fun j hj => by rw [fr2.1 33 (by decide)]; exact hF.c33 j hj, by rw [fr2.1 32 (by decide)]; exact hF.c32, fun k hk => by rw [fr2.1 36 (by decide)]; exact hF.c36 k hk, fun k h1 h2 => by rw [fr2.1 36 (by decide)]; exact hF.v k h1 h2, hF.nn⟩⟩
  rw [hlen] at hi
  rw [lit_sn hi]
  by_cases z : i = ls.length
  · rw [if_pos z, z]
    exact mo_lit_fr hm fr2 (by decide) (by decide) (by decide)
  · rw [if_neg z]
    exact mo_lit_fr (lit_c (h0.b.2.2.2 i (by omega)) (by omega) hF.c29 hF.c30 hF.c31) fr2 (by decide) (by decide) (by decide)
/-- a literal with a name -/
theorem ref_named {t : tx_T} {μ : mo_U} {ri : Nat} {ls : List lit_T} {nm A : List Nat} {lt : Nat → Bool} {q q0 k : Nat} (h0 : rlS t ri ls nm A lt q μ) (h5 : ls.length < 5) (hk : k ≤ 1) (h32 : μ.2 32 ri = 0 ∨ μ.2 32 ri = 1) {μa : mo_U} (hsa : rs0 t μa q0) (fra : mo_fr [29] [805] μ μa) (h29 : μa.2 29 (5 * ri + ls.length) = nI k) (ho29 : ∀ j, j ≠ 5 * ri + ls.length → μa.2 29 j = μ.2 29 j) (X : mo_U → Prop)
    (h1 : ∀ r μ', nmd t k nm A lt q0 = .ok r → rs0 t μ' r.q → nms r.nm r.A μ' → (∀ k, k < 26 → bi (μ'.2 33 ri) k = r.lt k) → rk r.lt 26 ≤ 6 → mo_lit μ' (5 * ri + ls.length) r.l → F1 (5 * ri + ls.length) ri nm.length r.nm.length μ μ' → X μ')
    (h2 : ∀ e μ', nmd t k nm A lt q0 = .error e → rsF t e μ' → mo_fr pts pfs μ μ' → X μ') : mp_relationAt μa (fun (r195 : Int32) (μ195 : mo_U) => vp_in (nI (5 * ri + ls.length)) 85 ∧ ∀ μ198, μ198 = mu_sA μ195 30 (upd (μ195.2 30) (nI (5 * ri + ls.length)).toNatClampNeg r195) → (¬ ((μ198.1 806)) = 0 → X μ198) ∧ (((μ198.1 806)) = 0 → vp_in (nI (5 * ri + ls.length)) 85 ∧ (mp_terms (nI ri) (μ198.2 30 (nI (5 * ri + ls.length)).toNatClampNeg) 31 (((3 : Int32)) * nI (5 * ri + ls.length)) ((0 : Int32)) μ198 (fun (μ222 : mo_U) => X μ222)))) := by
  have hr17 := h0.b.1
  have hna : nms nm A μa := nms_fr h0.n fra (by decide) (by decide) (by decide)
  rw [cl_nI (by omega)]
  have eN : ∀ g, rel t nm A q0 = .ok g → ∀ res, arg t false g lt = res → atm t false nm A lt q0 = res := fun g hg res hr => by
    unfold atm
    rw [hg]
    exact hr
  refine ref_rel hsa hna _ (fun g μb eg hsb hnb frb hb36 => ⟨vp_in_nI (by omega) (by decide), fun μc ec => ⟨fun z => ?_, fun _ => ⟨vp_in_nI (by omega) (by decide), ?_⟩⟩⟩) (fun e μb eg hF frb => ⟨vp_in_nI (by omega) (by decide), fun μc ec => ⟨fun _ => ?_, fun z => ?_⟩⟩)
  · have : μc.1 806 = 0 := by rw [ec]; exact hsb.f
    exact absurd this z
  · obtain ⟨gi, gi8, _, _⟩ := rel_ok h0.n.n8 eg
    have frc : mo_fr [30] [] μb μc := by rw [ec]; exact fr_sA (by decide) _
    have hsc := rs0_fr hsb frc (by decide) (by decide) (by decide) (by decide) (by decide)
    have hnc := nms_fr hnb frc (by decide) (by decide) (by decide)
    have x30 : ∀ j, μc.2 30 j = if j = 5 * ri + ls.length then nI g.i else μb.2 30 j := fun j => by rw [ec]; rfl
    have frac : mo_fr [29, 30, 34, 35, 36] [805, 817] μ μc := mo_fr_tr (fr_mono fra (by decide) (by decide)) (mo_fr_tr (fr_mono frb (by decide) (by decide)) (fr_mono frc (by decide) (by decide)))
    rw [x30, if_pos rfl, show (3 : Int32) = nI 3 from rfl, pk_mul]
    have nmle : nm.length ≤ g.nm.length := by
      unfold rel at eg
      split at eg
      · split at eg
        · rw [← Except.ok.inj eg]; exact Nat.le_refl _
        · split at eg
          · cases eg
          · rw [← Except.ok.inj eg]
            show nm.length ≤ (nm ++ [sg t q0]).length
            rw [List.length_append]; omega
      · cases eg
    have hT := ref_terms (t := t) (μ := μc) (ri := ri) (b3 := 31) (base := 3 * (5 * ri + ls.length)) (g := g) (lt := lt) (hd := false) hsc hr17 (by omega) (Or.inr rfl) (by show _ ≤ 255; omega) (fun k hk => by rw [frac.1 33 (by decide)]; exact h0.l k hk) (hnc.a g.i gi) (hnc.a3 g.i) X (fun an μd ea hd' => ?_) (fun e μd ea hF frd => ?_)
    · exact hT
    · have hA := arg_ok (L0 := fun k => lt k = true) (fun k _ => Iff.rfl) h0.r ea
      have hc : an.c = false := by
        cases hcc : an.c with
        | false => rfl
        | true => exact absurd (hA.m hcc).1 (by decide)
      obtain ⟨o1, o2⟩ := tOK_3 (hA.p hc)
      have fd : mo_fr [27, 31, 32, 33, 35] [805] μc μd := fr_mono hd'.f (by decide) (by decide)
      have c30c : ∀ j, j ≠ 5 * ri + ls.length → μc.2 30 j = μ.2 30 j := fun j hj => by rw [x30, if_neg hj, frb.1 30 (by decide), fra.1 30 (by decide)]
      have hn36 : μd.2 36 = μb.2 36 := by rw [fd.1 36 (by decide), frc.1 36 (by decide)]
      refine h1 ⟨(k, an.i, tm3 an.l), an.nm, an.A, an.lt, an.q⟩ μd ?_ hd'.s ?_ hd'.l hA.r ⟨?_, ?_, ?_, ?_, ?_, by show k ≤ 2; omega, ?_, fun _ => ?_, o1, o2⟩ ⟨?_, fun j hj => ?_, fun j hj => ?_, fun j hj => ?_, fun j hj => ?_, ?_, fun k hk => ?_, fun k k1 k2 => ?_, ?_⟩
      · unfold nmd
        rw [eN g eg _ ea]
      · show nms an.nm an.A μd
        rw [hA.nm, hA.A]
        exact nms_set hnc gi hA.n3 fd hd'.a hd'.ao
      · rw [fd.1 29 (by decide), frc.1 29 (by decide), frb.1 29 (by decide)]; exact h29
      · show μd.2 30 _ = nI an.i
        rw [fd.1 30 (by decide), x30, if_pos rfl, hA.i]
      · exact hd'.c 0 (by decide)
      · exact hd'.c 1 (by decide)
      · exact hd'.c 2 (by decide)
      · show an.i < 256
        rw [hA.i]; omega
      · show an.i < 8
        rw [hA.i]; exact gi8
      · exact mo_fr_tr (fr_mono frac (by decide) (by decide)) (fr_mono hd'.f (by decide) (by decide))
      · rw [fd.1 29 (by decide), frc.1 29 (by decide), frb.1 29 (by decide)]; exact ho29 j hj
      · rw [fd.1 30 (by decide)]; exact c30c j hj
      · rw [hd'.co j (by omega), frac.1 31 (by decide)]
      · rw [hd'.lo j hj, frac.1 33 (by decide)]
      · funext j
        have e32 : μc.2 32 = μ.2 32 := frac.1 32 (by decide)
        by_cases z : j = ri
        · rw [z, hd'.k, hc, e32]
          rcases h32 with y | y
          · rw [y, if_neg (fun w => w.elim (fun v => v rfl) (fun v => by cases v))]
          · rw [y, if_pos (Or.inl (by decide))]
        · rw [hd'.ko j z, e32]
      · rw [hn36, hb36 k (by omega), if_pos hk, fra.1 36 (by decide)]
      · have k2 : k < an.nm.length := k2
        rw [hA.nm] at k2
        rw [hn36, hb36 k k2, if_neg (by omega)]
      · show nm.length ≤ an.nm.length
        rw [hA.nm]; exact nmle
    · refine h2 e μd ?_ hF (mo_fr_tr (fr_mono frac (by decide) (by decide)) (fr_mono frd (by decide) (by decide)))
      unfold nmd
      rw [eN g eg _ ea]
  · have frc : mo_fr [30] [] μb μc := by rw [ec]; exact fr_sA (by decide) _
    refine h2 e μc ?_ (rsF_fr hF frc (by decide) (by decide) (by decide) (by decide) (by decide) (by decide)) (mo_fr_tr (fr_mono fra (by decide) (by decide)) (mo_fr_tr (fr_mono frb (by decide) (by decide)) (fr_mono frc (by decide) (by decide))))
    unfold nmd atm
    rw [eg]
  · have : ¬ μc.1 806 = 0 := by rw [ec]; exact rsF_n0 hF
    exact absurd z this
