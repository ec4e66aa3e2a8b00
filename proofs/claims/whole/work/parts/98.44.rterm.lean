theorem and_1 (y : Int32) : (y &&& 1) = 0 ∨ (y &&& 1) = 1 := by
  have d1 : ∀ i, i < 32 → 0 < i → bi 1 i = false := by decide
  have h1 : ∀ i, 0 < i → i < 32 → bi (y &&& 1) i = false := fun i h0 h => by
    rw [bi_and _ _ h, d1 i h h0, Bool.and_false]
  cases hb : bi y 0 with
  | false =>
    left
    refine bi_ext (fun i hi => ?_)
    rw [bi_0]
    by_cases z : i = 0
    · rw [z, bi_and _ _ (by decide), hb]; rfl
    · exact h1 i (by omega) hi
  | true =>
    right
    refine bi_ext (fun i hi => ?_)
    by_cases z : i = 0
    · rw [z, bi_and _ _ (by decide), hb]; decide
    · rw [h1 i (by omega) hi, d1 i hi (by omega)]
theorem ref_count {μ : mo_U} (x : Int32) (Q : Int32 → mo_U → Prop) (h : Q (nI (rk (bi x) 26)) μ) : mp_count x μ Q := by
  intro X4 h4
  have main : ∀ k i, i + k = 26 → X4 (nI (rk (bi x) i)) (nI i) μ := by
    intro k
    induction k with
    | zero =>
      intro i hi
      refine h4 _ _ _ ⟨fun _ => ?_, fun q => absurd (nI_le (a := 26) (by omega) (by omega)) q⟩
      rw [show i = 26 by omega]
      exact h
    | succ k ih =>
      intro i hi
      refine h4 _ _ _ ⟨fun q => absurd q (nI_ge (b := 26) (by omega) (by decide)), fun _ => ?_⟩
      rw [nI_1]
      have e : nI (rk (bi x) i) + ((x >>> (nI i &&& 31)) &&& 1) = nI (rk (bi x) (i + 1)) := by
        show _ = nI (rk (bi x) i + if bi x i then 1 else 0)
        have hb := bi_shr x (k := i) (by omega)
        cases hc : bi x i with
        | true =>
          rw [hc] at hb
          rw [hb.mpr rfl, if_pos rfl, nI_1]
        | false =>
          rw [hc] at hb
          rcases and_1 (x >>> (nI i &&& 31)) with z | z
          · rw [z, if_neg (by decide)]
            exact Int32.add_zero _
          · exact absurd (hb.mp z) (by decide)
      rw [e]
      exact ih (i + 1) (by omega)
  exact main 26 0 rfl
theorem nI_sub {a b : Nat} (h : b ≤ a) : nI a - nI b = nI (a - b) := by
  have : nI (a - b) + nI b = nI a := by rw [nI_k, Nat.sub_add_cancel h]
  rw [← this]
  exact Int32.add_sub_cancel _ _
theorem num_bd (t : tx_T) : ∀ k v p, (num t k v p).1 < (v + 1) * 10 ^ k ∧ p ≤ (num t k v p).2 ∧ (p ≤ t.n → (num t k v p).2 ≤ t.n)
  | 0, v, p => by unfold num; exact ⟨by omega, Nat.le_refl _, fun z => z⟩
  | k + 1, v, p => by
    unfold num
    split
    · rename_i h
      obtain ⟨h1, h2, h3⟩ := num_bd t k (10 * v + (t.c p - 48)) (p + 1)
      refine ⟨?_, by omega, fun _ => h3 (by omega)⟩
      have : (10 * v + (t.c p - 48) + 1) * 10 ^ k ≤ (v + 1) * 10 * 10 ^ k := Nat.mul_le_mul_right _ (by omega)
      rw [Nat.pow_succ, Nat.mul_comm (10 ^ k) 10, ← Nat.mul_assoc]
      omega
    · refine ⟨?_, Nat.le_refl _, fun z => z⟩
      have : (v + 1) * 1 ≤ (v + 1) * 10 ^ (k + 1) := Nat.mul_le_mul_left _ (Nat.one_le_pow _ _ (by decide))
      show v < _
      omega
theorem rnk_p {t : tx_T} {p : Nat} (h : p ≤ t.n) : plc t (nxt t p) ∧ rnk t (nxt t p) = rnk t p := ⟨nxt_plc t h, rnk_nx t p⟩
theorem dig_nb {t : tx_T} {p : Nat} (h : 48 ≤ t.c p ∧ t.c p ≤ 57) : ¬ blk t p := fun z => by unfold blk at z; omega
theorem ref_term {t : tx_T} {μ : mo_U} {q ri : Nat} (h0 : rs0 t μ q) (hr : ri < 17) {lt : Nat → Bool} (hlt : ∀ k, k < 26 → bi (μ.2 33 ri) k = lt k) (Q : Int32 → mo_U → Prop) (h1 : ∀ r μ', trm t lt q = .ok r → rs0 t μ' r.q → mo_fr [33] [805] μ μ' → (∀ k, k < 26 → bi (μ'.2 33 ri) k = r.lt k) → (∀ i, i ≠ ri → μ'.2 33 i = μ.2 33 i) → Q (nI r.x) μ') (h2 : ∀ e μ', trm t lt q = .error e → rsF t e μ' → mo_fr [] [805, 806, 807] μ μ' → Q 0 μ') : mp_term (nI ri) μ Q := by
  intro X51 X95 X141 h51 h95 h141
  have hs := sg_ok h0.k.ok q
  have hok := h0.k.ok
  have hn6 := hok.n6
  refine ref_sign h0.k h0.q h0.a _ (ref_isVariable hs _ (fun hv => ⟨fun z => absurd z (by decide), fun _ => ⟨vp_in_nI (by omega) (by decide), ?_⟩⟩) (fun hv => ⟨fun _ => ref_isDigit hs _ (fun hd => ⟨fun _ => ?_, fun z => absurd z (by decide)⟩) (fun hd => ⟨fun z => absurd rfl z, fun _ => ref_wrong (k := 1) h0 (by decide) _ (fun μ1 hF fr => ?_)⟩), fun z => absurd rfl z⟩))
  · -- a variable
    have hq : q < t.n := by
      unfold sg at hv
      split at hv
      · assumption
      · omega
    have es : sI (sg t q) = nI (sg t q) := by unfold sI; rw [if_neg (by omega)]
    have e65 : sI (sg t q) - 65 = nI (sg t q - 65) := by rw [es]; exact nI_sub hv.1
    rw [e65, cl_nI (by omega)]
    have hbi := hlt (sg t q - 65) (by omega)
    have bdef : bi (μ.2 33 ri) (sg t q - 65) = decide (¬ (μ.2 33 ri &&& ((1 : Int32) <<< (nI (sg t q - 65) &&& 31))) = 0) := rfl
    have yes : (lt (sg t q - 65) = true ∨ rk lt 26 ≠ 6) → X51 (sI (sg t q)) ((1 : Int32) <<< (nI (sg t q - 65) &&& 31)) μ := fun hc => by
      refine h51 _ _ _ ⟨vp_in_nI (by omega) (by decide), vp_in_nI (by omega) (by decide), fun μ1 e1 μ2 e2 => ?_⟩
      rw [cl_nI (by omega)] at e1
      have a1 : μ1.1 805 = nI (rnk t q) := by rw [e1]; exact h0.a
      rw [a1, nI_1] at e2
      have fr1 : mo_fr [33] [] μ μ1 := by rw [e1]; exact fr_sA (by decide) _
      have h01 : rs0 t μ1 q := ⟨tkn_fr h0.k fr1 (by decide) (by decide) (by decide), h0.q, a1, by rw [fr1.2 806 (by decide)]; exact h0.f⟩
      have x33 : ∀ i, μ2.2 33 i = if i = ri then μ.2 33 ri ||| ((1 : Int32) <<< (nI (sg t q - 65) &&& 31)) else μ.2 33 i := fun i => by rw [e2, e1]; rfl
      rw [e65]
      refine h1 ⟨sg t q - 65, addl lt (sg t q - 65), nxt t (q + 1)⟩ μ2 ?_ (rs0_st h01 hq e2) (mo_fr_tr (fr_mono fr1 (by decide) (by decide)) (by rw [e2]; exact fr_sI (by decide) _)) (fun k hk => ?_) (fun i hi => ?_)
      · unfold trm
        rw [if_pos hv, if_pos hc]
      · rw [x33, if_pos rfl, bi_or _ (by omega) (by omega), hlt k hk]
        show _ = (decide (k = sg t q - 65) || lt k)
        rw [Bool.or_comm]
      · rw [x33, if_neg hi]
    cases hb : lt (sg t q - 65) with
    | true =>
      rw [hb, bdef] at hbi
      have hz := of_decide_eq_true hbi
      exact ⟨fun _ => yes (Or.inl hb), fun z => absurd z hz⟩
    | false =>
      rw [hb, bdef] at hbi
      have hz := of_decide_eq_false hbi
      refine ⟨fun z => absurd z hz, fun _ => ⟨vp_in_nI (by omega) (by decide), ref_count _ _ ?_⟩⟩
      have erk : ∀ n, n ≤ 26 → rk (bi (μ.2 33 ri)) n = rk lt n := fun n => by
        induction n with
        | zero => intro _; rfl
        | succ n ih =>
          intro hn
          show rk (bi (μ.2 33 ri)) n + _ = rk lt n + _
          rw [ih (by omega), hlt n (by omega)]
      have hrk : rk lt 26 ≤ 26 := by
        have : ∀ n, rk lt n ≤ n := fun n => by
          induction n with
          | zero => exact Nat.le_refl _
          | succ n ih =>
            show rk lt n + (if lt n then 1 else 0) ≤ n + 1
            split <;> omega
        exact this 26
      rw [erk 26 (Nat.le_refl _), show (6 : Int32) = nI 6 from rfl, nI_eq (by omega) (by decide)]
      refine ⟨fun hne => yes (Or.inr hne), fun he => ref_wrong (k := 3) h0 (by decide) _ (fun μ1 hF fr => ?_)⟩
      refine h2 (3, q) μ1 ?_ hF (fr_mono fr (by decide) (by decide))
      unfold trm
      rw [if_pos hv, if_neg (fun z => z.elim (fun y => by rw [hb] at y; cases y) (fun y => y he))]
  · -- a number
    have hq : q < t.n := by
      unfold sg at hd
      split at hd
      · assumption
      · omega
    have etr : ∀ v p, num t 3 0 q = (v, p) → trm t lt q = .ok ⟨100 + v, lt, nxt t p⟩ := fun v p e => by
      unfold trm
      rw [if_neg hv, if_pos hd, e]
    have main : ∀ k j v p μ1, j + k = 3 → v < 10 ^ j → p = q + j → p ≤ t.n → num t 3 0 q = num t k v p → tkn t μ1 → μ1.1 805 = nI (rnk t p) → μ1.1 806 = 0 → mo_fr [] [805] μ μ1 → (0 < j → ¬ blk t (p - 1)) → X95 (nI v) (nI j) μ1 := by
      intro k
      induction k with
      | zero =>
        intro j v p μ1 hj hv1 hp hpn hnum hk1 ha1 hf1 fr1 hb1
        refine h95 _ _ _ ⟨fun _ => ?_, fun z => absurd (nI_le (a := 3) (by omega) (by omega)) z⟩
        obtain ⟨g1, g2⟩ := rnk_p hpn
        rw [show (100 : Int32) = nI 100 from rfl, nI_k]
        exact h1 ⟨100 + v, lt, nxt t p⟩ μ1 (etr v p hnum) ⟨hk1, g1, by rw [g2]; exact ha1, hf1⟩ (fr_mono fr1 (by decide) (by decide)) (fun k hk => by rw [fr1.1 33 (by decide)]; exact hlt k hk) (fun i _ => by rw [fr1.1 33 (by decide)])
      | succ k ih =>
        intro j v p μ1 hj hv1 hp hpn hnum hk1 ha1 hf1 fr1 hb1
        obtain ⟨g1, g2⟩ := rnk_p hpn
        have ha1' : μ1.1 805 = nI (rnk t (nxt t p)) := by rw [g2]; exact ha1
        have stop : ¬ (p < t.n ∧ 48 ≤ t.c p ∧ t.c p ≤ 57) → Q ((100 : Int32) + nI v) μ1 := fun hno => by
          rw [show (100 : Int32) = nI 100 from rfl, nI_k]
          have hnum' : num t 3 0 q = (v, p) := by
            rw [hnum]
            unfold num
            rw [if_neg hno]
          exact h1 ⟨100 + v, lt, nxt t p⟩ μ1 (etr v p hnum') ⟨hk1, g1, ha1', hf1⟩ (fr_mono fr1 (by decide) (by decide)) (fun k hk => by rw [fr1.1 33 (by decide)]; exact hlt k hk) (fun i _ => by rw [fr1.1 33 (by decide)])
        have r600 := rnk_600 hok g1
        have v100 : v < 100 := by
          rcases (show j = 0 ∨ j = 1 ∨ j = 2 by omega) with rfl | rfl | rfl <;> omega
        refine h95 _ _ _ ⟨fun z => absurd z (nI_ge (b := 3) (by omega) (by decide)), fun _ => ref_sign hk1 g1 ha1' _ (ref_isDigit (sg_ok hok _) _ (fun hdg => ⟨fun z => absurd z (by decide), fun _ => ?_⟩) (fun hdg => ⟨fun _ => stop (fun z => hdg ?_), fun z => absurd rfl z⟩))⟩
        · have go : nxt t p = p → X141 (nI v) (nI j) μ1 := fun hfix => by
            rw [hfix] at hdg g1 ha1'
            have hpl : p < t.n := by
              unfold sg at hdg
              split at hdg
              · assumption
              · omega
            have hsg : sg t p = t.c p := by unfold sg; rw [if_pos hpl]
            rw [hsg] at hdg
            refine h141 _ _ _ (ref_sign hk1 g1 ha1' _ (fun μ2 e2 => ?_))
            rw [ha1', nI_1] at e2
            have es : sI (sg t p) = nI (t.c p) := by rw [hsg]; unfold sI; rw [if_neg (by omega)]
            rw [es, show (10 : Int32) = nI 10 from rfl, pk_mul, nI_k, show (48 : Int32) = nI 48 from rfl, nI_sub (by omega), show 10 * v + t.c p - 48 = 10 * v + (t.c p - 48) by omega, nI_1]
            have fr2 : mo_fr [] [805] μ1 μ2 := by rw [e2]; exact fr_sI (by decide) _
            refine ih (j + 1) (10 * v + (t.c p - 48)) (p + 1) μ2 (by omega) ?_ (by omega) (by omega) ?_ (tkn_fr hk1 fr2 (by decide) (by decide) (by decide)) ?_ (by rw [fr2.2 806 (by decide)]; exact hf1) (mo_fr_tr fr1 fr2) (fun _ => dig_nb hdg)
            · rw [Nat.pow_succ]; omega
            · rw [hnum]
              show (if p < t.n ∧ 48 ≤ t.c p ∧ t.c p ≤ 57 then num t k (10 * v + (t.c p - 48)) (p + 1) else (v, p)) = _
              rw [if_pos ⟨hpl, hdg⟩]
            · rw [e2, mu_I_sI, if_pos rfl, rnk_s t (dig_nb hdg)]
          refine ⟨fun zj => go ?_, fun zj => ?_⟩
          · have : j = 0 := (nI_eq (b := 0) (by omega) (by decide)).mp zj
            rw [hp, this, Nat.add_zero]
            exact nxt_fix t h0.q
          · have hj0 : 0 < j := by
              rcases Nat.eq_zero_or_pos j with z | z
              · exact absurd (by rw [z]; rfl) zj
              · exact z
            have hnb := hb1 hj0
            obtain ⟨u, rfl⟩ : ∃ u, p = u + 1 := ⟨p - 1, by omega⟩
            have hru : rnk t (u + 1) = rnk t u + 1 := rnk_s t hnb
            have hpu : plc t u := ⟨by omega, fun _ => hnb⟩
            rw [ha1, hru]
            have r6u := rnk_600 hok hpu
            have e1 : μ1.2 25 (rnk t u + 1) = nI (nxt t (u + 1)) := by rw [← hru, ← g2]; exact hk1.p _ g1
            have e2 : μ1.2 25 (rnk t u) = nI u := hk1.p u hpu
            rw [show nI (rnk t u + 1) - (1 : Int32) = nI (rnk t u) from nI_pred _, cl_nI (by omega), cl_nI (by omega), e1, e2, nI_1, nI_eq (by have := g1.1; omega) (by omega)]
            refine ⟨vp_in_nI (by omega) (by decide), vp_in_nI (by omega) (by decide), fun hne => stop (fun z => hne ?_), fun heq => go heq⟩
            exact nxt_fix t ⟨hpn, fun _ => dig_nb z.2⟩
        · have hfix : nxt t p = p := nxt_fix t ⟨hpn, fun _ => dig_nb z.2⟩
          rw [hfix]
          unfold sg
          rw [if_pos z.1]
          exact z.2
    exact main 3 0 0 q μ rfl (by decide) rfl h0.q.1 rfl h0.k h0.a h0.f mo_fr_rf (fun z => absurd z (by decide))
  · refine h2 (1, q) μ1 ?_ hF (fr_mono fr (by decide) (by decide))
    unfold trm
    rw [if_neg hv, if_neg hd]
