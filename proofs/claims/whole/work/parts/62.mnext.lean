theorem mu_sA_sA (μ : mo_U) (t : Nat) (F G : Nat → Int32) : mu_sA (mu_sA μ t F) t G = mu_sA μ t G := by
  refine Prod.ext rfl ?_
  funext g
  simp only [mu_sA]
  split <;> rfl
theorem mu_sA_id (μ : mo_U) (t : Nat) : mu_sA μ t (μ.2 t) = μ := by
  refine Prod.ext rfl ?_
  funext g
  simp only [mu_sA]
  split
  · rename_i h
    rw [h]
  · rfl
/-- a level of the reference's bound values -/
def ov (o : Option Nat) : Int32 := match o with
  | none => -1
  | some v => nI v
def eB (B : Nat → Int32) (lev : Nat) (e : ev_T) : Prop := ev_ok e ∧ (∀ k, 26 ≤ k → e k = none) ∧ ∀ k, k < 26 → B (26 * lev + k) = ov (e k)
theorem ov_m1 {v : Nat} (h : v < 1000) : ¬ nI v = (-1 : Int32) := by
  intro q
  have h1 : (nI v).toInt = (v : Int) := nI_toInt (by omega)
  rw [q] at h1
  have h2 : (-1 : Int32).toInt = -1 := by decide
  omega
/-- a literal of the reference's arrays, at place L -/
def mo_lit (μ : mo_U) (L : Nat) (l : lit_T) : Prop := μ.2 29 L = nI l.1 ∧ μ.2 30 L = nI l.2.1 ∧ μ.2 31 (3 * L) = nI l.2.2.1 ∧ μ.2 31 (3 * L + 1) = nI l.2.2.2.1 ∧ μ.2 31 (3 * L + 2) = nI l.2.2.2.2 ∧ l.1 ≤ 2 ∧ l.2.1 < 256 ∧ (l.1 ≤ 1 → l.2.1 < 8) ∧ tm3_ok l.2.2 ∧ no_mark l.2.2
theorem mo_lx (L i : Nat) : (3 : Int32) * nI L + nI i = nI (3 * L + i) := by
  rw [show (3 : Int32) = nI 3 from rfl, pk_mul, nI_add]
theorem mo_bx (lev k : Nat) : (26 : Int32) * nI lev + nI k = nI (26 * lev + k) := by
  rw [show (26 : Int32) = nI 26 from rfl, pk_mul, nI_add]
theorem mo_fits {μ : mo_U} {R : mr_R} {N : Nat → Nat} (hM : mo_M μ R N) {L j lev : Nat} {l : lit_T} (hl : mo_lit μ L l) (h0 : l.1 = 0) (hL : L < 85) (hj : j < 40) (hlev : lev < 3) {e : ev_T} (he : eB (μ.2 50) lev e) (Q : Int32 → mo_U → Prop)
    (hQ1 : ∀ (e' : ev_T) (B : Nat → Int32), un3 e l.2.2 (R l.2.1 j).1 = some e' → eB B (lev + 1) e' → (∀ i, i < 26 * (lev + 1) → B i = μ.2 50 i) → Q 1 (mu_sA μ 50 B))
    (hQ0 : un3 e l.2.2 (R l.2.1 j).1 = none → ∀ B : Nat → Int32, (∀ i, i < 26 * (lev + 1) → B i = μ.2 50 i) → Q 0 (mu_sA μ 50 B)) : mp_fits (nI L) (nI j) (nI lev) μ Q := by
  obtain ⟨l1, l2, l3, l4, l5, l6, l7, l8, l9, l10⟩ := hl
  have hrel : l.2.1 < 8 := l8 (by omega)
  obtain ⟨hk, v1, v2, v3, -⟩ := hM.1 l.2.1 j hrel hj
  generalize hkey : (R l.2.1 j).1 = key at *
  obtain ⟨e1ok, e1hi, e1at⟩ := he
  intro X16 X61 h16 h61
  have e26 : (nI lev + (1 : Int32)) = nI (lev + 1) := nI_1 lev
  -- the end
  have fin0 : ∀ (i : Nat) (B : Nat → Int32), i ≤ 3 → (∀ i, i < 26 * (lev + 1) → B i = μ.2 50 i) → un3 e l.2.2 key = none → X61 (nI (120 * l.2.1 + 3 * j)) 0 (nI i) (mu_sA μ 50 B) := by
    intro i B hi hB hu
    have := hQ0 hu B hB
    exact h61 _ _ _ _ ⟨fun _ => ⟨Or.inl rfl, this⟩, fun _ => ⟨fun _ => ⟨Or.inl rfl, this⟩, fun q => absurd rfl q⟩⟩
  -- one term
  have step : ∀ (i t d : Nat) (e0 : ev_T) (B : Nat → Int32), i < 3 → μ.2 31 (3 * L + i) = nI t → μ.2 40 (120 * l.2.1 + 3 * j + i) = nI d → d < 1000 → t < 1100 → (t < 26 ∨ 100 ≤ t) → eB B (lev + 1) e0 → (∀ i, i < 26 * (lev + 1) → B i = μ.2 50 i) →
      (∀ (e' : ev_T) (B' : Nat → Int32), un1 e0 t d = some e' → eB B' (lev + 1) e' → (∀ i, i < 26 * (lev + 1) → B' i = μ.2 50 i) → X61 (nI (120 * l.2.1 + 3 * j)) 1 (nI (i + 1)) (mu_sA μ 50 B')) →
      (un1 e0 t d = none → X61 (nI (120 * l.2.1 + 3 * j)) 0 (nI (i + 1)) (mu_sA μ 50 B)) → X61 (nI (120 * l.2.1 + 3 * j)) 1 (nI i) (mu_sA μ 50 B) := by
    intro i t d e0 B hi ht hd hd9 ht9 htt hb hB hgo hno
    obtain ⟨b1, b2, b3⟩ := hb
    have r31 : (mu_sA μ 50 B).2 31 = μ.2 31 := by rw [mu_A_sA, if_neg (by omega)]
    have r40 : (mu_sA μ 50 B).2 40 = μ.2 40 := by rw [mu_A_sA, if_neg (by omega)]
    have r50 : (mu_sA μ 50 B).2 50 = B := by rw [mu_A_sA, if_pos rfl]
    refine h61 _ _ _ _ ⟨fun q => ?_, fun _ => ⟨fun q => absurd q (by decide), fun _ => ?_⟩⟩
    · rw [show (3 : Int32) = nI 3 from rfl, nI_leI (by omega) (by omega)] at q
      omega
    · rw [mo_lx, cl_nI (by omega), r31, ht, nI_add, cl_nI (by omega), r40, hd, e26, mo_bx, r50]
      refine ⟨vp_in_nI (by omega) (by omega), fun q => ?_, fun q => ?_⟩
      · rw [show (100 : Int32) = nI 100 from rfl, nI_ltI (by omega) (by omega)] at q
        have t26 : t < 26 := by omega
        have hbt := b3 t t26
        rw [cl_nI (by omega), hbt]
        refine ⟨vp_in_nI (by omega) (by omega), fun q2 => ⟨vp_in_nI (by omega) (by omega), vp_in_nI (by omega) (by omega), fun q3 => ?_, fun q3 => ?_⟩, fun q2 => ⟨vp_in_nI (by omega) (by omega), vp_in_nI (by omega) (by omega), fun μ2 f2 => ?_⟩⟩
        · cases het : e0 t with
          | none =>
            rw [het] at q2
            exact absurd rfl q2
          | some w =>
            rw [het] at q3
            have hw := b1 t w het
            rw [nI_1]
            refine hno ?_
            unfold un1
            rw [if_neg (by omega), het]
            dsimp only
            rw [if_neg (fun q => q3 (by rw [q]; rfl))]
        · cases het : e0 t with
          | none =>
            rw [het] at q2
            exact absurd rfl q2
          | some w =>
            rw [het] at q3
            have hw := b1 t w het
            have hwd : w = d := (nI_eq (by omega) (by omega)).mp q3
            rw [nI_1]
            refine hgo e0 B ?_ ⟨b1, b2, b3⟩ hB
            unfold un1
            rw [if_neg (by omega), het]
            dsimp only
            rw [if_pos hwd]
        · cases het : e0 t with
          | some w =>
            rw [het] at q2
            exact absurd q2 (ov_m1 (b1 t w het))
          | none =>
            rw [mu_sA_sA] at f2
            subst f2
            rw [nI_1]
            refine hgo (ev_set e0 t d) (upd B (26 * (lev + 1) + t) (nI d)) ?_ ⟨fun k w hkw => ?_, fun k hk26 => ?_, fun k hk26 => ?_⟩ (fun i hi => ?_)
            · unfold un1
              rw [if_neg (by omega), het]
            · by_cases g : k = t
              · simp only [ev_set, if_pos g] at hkw
                cases hkw
                exact hd9
              · simp only [ev_set, if_neg g] at hkw
                exact b1 k w hkw
            · simp only [ev_set, if_neg (show ¬ k = t by omega)]
              exact b2 k hk26
            · by_cases g : k = t
              · subst g
                simp [upd, ev_set, ov]
              · simp only [upd, ev_set, if_neg g, if_neg (show ¬ 26 * (lev + 1) + k = 26 * (lev + 1) + t by omega)]
                exact b3 k hk26
            · simp only [upd, if_neg (show ¬ i = 26 * (lev + 1) + t by omega)]
              exact hB i hi
      · rw [show (100 : Int32) = nI 100 from rfl, nI_ltI (by omega) (by omega)] at q
        rw [show (100 : Int32) = nI 100 from rfl, pk_sub (by omega)]
        refine ⟨vp_in_nI (by omega) (by omega), fun q2 => ?_, fun q2 => ?_⟩
        · rw [nI_eq (by omega) (by omega)] at q2
          rw [nI_1]
          refine hno ?_
          unfold un1
          rw [if_pos (by omega), if_neg (by omega)]
        · rw [nI_eq (by omega) (by omega)] at q2
          rw [nI_1]
          refine hgo e0 B ?_ ⟨b1, b2, b3⟩ hB
          unfold un1
          rw [if_pos (by omega), if_pos (by omega)]
  have terms : ∀ B : Nat → Int32, eB B (lev + 1) e → (∀ i, i < 26 * (lev + 1) → B i = μ.2 50 i) → X61 (nI (120 * l.2.1 + 3 * j)) 1 (nI 0) (mu_sA μ 50 B) := by
    intro B hb hB
    unfold tm3_ok tm_ok at l9
    refine step 0 l.2.2.1 (key / 1000000) e B (by omega) l3 v1 (by omega) l9.1 l10.1 hb hB (fun e1 B1 u1 hb1 hB1 => ?_) (fun u1 => fin0 1 B (by omega) hB ?_)
    · refine step 1 l.2.2.2.1 (key / 1000 % 1000) e1 B1 (by omega) l4 v2 (by omega) l9.2.1 l10.2.1 hb1 hB1 (fun e2 B2 u2 hb2 hB2 => ?_) (fun u2 => fin0 2 B1 (by omega) hB1 ?_)
      · refine step 2 l.2.2.2.2 (key % 1000) e2 B2 (by omega) l5 v3 (by omega) l9.2.2 l10.2.2 hb2 hB2 (fun e3 B3 u3 hb3 hB3 => ?_) (fun u3 => fin0 3 B2 (by omega) hB2 ?_)
        · have := hQ1 e3 B3 (by unfold un3; rw [u1, Option.bind_some, u2, Option.bind_some, u3]) hb3 hB3
          exact h61 _ _ _ _ ⟨fun _ => ⟨Or.inr rfl, this⟩, fun q => absurd (by decide) q⟩
        · unfold un3
          rw [u1, Option.bind_some, u2, Option.bind_some, u3]
      · unfold un3
        rw [u1, Option.bind_some, u2, Option.bind_none]
    · unfold un3
      rw [u1, Option.bind_none]
  have copy : ∀ (m k : Nat) (B : Nat → Int32), k + m = 26 → (∀ i, i < 26 * (lev + 1) → B i = μ.2 50 i) → (∀ i, i < k → B (26 * (lev + 1) + i) = μ.2 50 (26 * lev + i)) → X16 (nI (120 * l.2.1 + 3 * j)) (nI k) (mu_sA μ 50 B) := by
    intro m
    induction m with
    | zero =>
      intro k B hkm hB hc
      refine h16 _ _ _ ⟨fun _ => terms B ⟨e1ok, e1hi, fun i hi => ?_⟩ hB, fun q => absurd ?_ q⟩
      · rw [hc i (by omega)]
        exact e1at i hi
      · rw [show (26 : Int32) = nI 26 from rfl]
        exact nI_le (by omega) (by omega)
    | succ m ih =>
      intro k B hkm hB hc
      have r50 : (mu_sA μ 50 B).2 50 = B := by rw [mu_A_sA, if_pos rfl]
      refine h16 _ _ _ ⟨fun q => ?_, fun _ => ?_⟩
      · rw [show (26 : Int32) = nI 26 from rfl, nI_leI (by omega) (by omega)] at q
        omega
      · rw [e26, mo_bx, mo_bx, cl_nI (by omega), cl_nI (by omega), r50]
        refine ⟨vp_in_nI (by omega) (by omega), vp_in_nI (by omega) (by omega), fun μ2 f2 => ?_⟩
        rw [mu_sA_sA] at f2
        subst f2
        rw [nI_1]
        refine ih (k + 1) _ (by omega) (fun i hi => ?_) (fun i hi => ?_)
        · simp only [upd, if_neg (show ¬ i = 26 * (lev + 1) + k by omega)]
          exact hB i hi
        · by_cases g : i = k
          · subst g
            simp only [upd, if_pos]
            exact hB _ (by omega)
          · simp only [upd, if_neg (show ¬ 26 * (lev + 1) + i = 26 * (lev + 1) + k by omega)]
            exact hc i (by omega)
  refine ⟨vp_in_nI hL (by omega), ?_⟩
  show X16 _ _ _
  rw [cl_nI (by omega), l2, mo_ix]
  have := copy 26 0 (μ.2 50) (by omega) (fun _ _ => rfl) (fun i hi => by omega)
  rw [mu_sA_id] at this
  exact this
