theorem tm3_snoc {l : List Nat} (h : l.length < 3) (x : Nat) : ∀ j, j < 3 → tmi (tm3 (l ++ [x])) j = if j = l.length then x else tmi (tm3 l) j := by
  have hg : ∀ (l : List Nat) (j : Nat), j < 3 → tmi (tm3 l) j = l.getD j 100 := fun l j hj => by
    rcases (show j = 0 ∨ j = 1 ∨ j = 2 by omega) with rfl | rfl | rfl <;> rfl
  intro j hj
  rw [hg _ _ hj, hg _ _ hj]
  rw [List.getD_eq_getElem?_getD, List.getD_eq_getElem?_getD]
  by_cases z : j = l.length
  · rw [if_pos z, List.getElem?_append_right (by omega), z, Nat.sub_self]
    rfl
  · rw [if_neg z]
    by_cases y : j < l.length
    · rw [List.getElem?_append_left y]
    · rw [List.getElem?_eq_none (by rw [List.length_append]; show l.length + 1 ≤ j; omega), List.getElem?_eq_none (by omega)]
theorem rs0_fr {t : tx_T} {μ μ' : mo_U} {q : Nat} {ts fs : List Nat} (h : rs0 t μ q) (hf : mo_fr ts fs μ μ') (h1 : 24 ∉ ts) (h2 : 25 ∉ ts) (h3 : 804 ∉ fs) (h4 : 805 ∉ fs) (h5 : 806 ∉ fs) : rs0 t μ' q := ⟨tkn_fr h.k hf h1 h2 h3, h.q, by rw [hf.2 805 h4]; exact h.a, by rw [hf.2 806 h5]; exact h.f⟩
def rgs (t : tx_T) (b3 base ri ii : Nat) (μ0 : mo_U) (g : rg_T) (an : an_T) (μ : mo_U) : Prop := (rs0 t μ an.q) ∧ (mo_fr [b3, 32, 33, 35] [805] μ0 μ) ∧ (∀ j, j < 3 → μ.2 b3 (base + j) = nI (tmi (tm3 an.l) j)) ∧ (∀ j, (j < base ∨ base + 3 ≤ j) → μ.2 b3 j = μ0.2 b3 j) ∧ (∀ k, k < 26 → bi (μ.2 33 ri) k = an.lt k) ∧ (∀ j, j ≠ ri → μ.2 33 j = μ0.2 33 j) ∧ (μ.2 35 ii = nI an.l.length) ∧ (∀ j, j ≠ ii → μ.2 35 j = μ0.2 35 j) ∧ (μ.2 32 ri = if ¬ μ0.2 32 ri = 0 ∨ an.c = true then 1 else 0) ∧ (∀ j, j ≠ ri → μ.2 32 j = μ0.2 32 j)
theorem rgs.s {t : tx_T} {b3 base ri ii : Nat} {μ0 : mo_U} {g : rg_T} {an : an_T} {μ : mo_U} (h' : rgs t b3 base ri ii μ0 g an μ) : rs0 t μ an.q := h'.1
theorem rgs.f {t : tx_T} {b3 base ri ii : Nat} {μ0 : mo_U} {g : rg_T} {an : an_T} {μ : mo_U} (h' : rgs t b3 base ri ii μ0 g an μ) : mo_fr [b3, 32, 33, 35] [805] μ0 μ := h'.2.1
theorem rgs.c {t : tx_T} {b3 base ri ii : Nat} {μ0 : mo_U} {g : rg_T} {an : an_T} {μ : mo_U} (h' : rgs t b3 base ri ii μ0 g an μ) : ∀ j, j < 3 → μ.2 b3 (base + j) = nI (tmi (tm3 an.l) j) := h'.2.2.1
theorem rgs.co {t : tx_T} {b3 base ri ii : Nat} {μ0 : mo_U} {g : rg_T} {an : an_T} {μ : mo_U} (h' : rgs t b3 base ri ii μ0 g an μ) : ∀ j, (j < base ∨ base + 3 ≤ j) → μ.2 b3 j = μ0.2 b3 j := h'.2.2.2.1
theorem rgs.l {t : tx_T} {b3 base ri ii : Nat} {μ0 : mo_U} {g : rg_T} {an : an_T} {μ : mo_U} (h' : rgs t b3 base ri ii μ0 g an μ) : ∀ k, k < 26 → bi (μ.2 33 ri) k = an.lt k := h'.2.2.2.2.1
theorem rgs.lo {t : tx_T} {b3 base ri ii : Nat} {μ0 : mo_U} {g : rg_T} {an : an_T} {μ : mo_U} (h' : rgs t b3 base ri ii μ0 g an μ) : ∀ j, j ≠ ri → μ.2 33 j = μ0.2 33 j := h'.2.2.2.2.2.1
theorem rgs.a {t : tx_T} {b3 base ri ii : Nat} {μ0 : mo_U} {g : rg_T} {an : an_T} {μ : mo_U} (h' : rgs t b3 base ri ii μ0 g an μ) : μ.2 35 ii = nI an.l.length := h'.2.2.2.2.2.2.1
theorem rgs.ao {t : tx_T} {b3 base ri ii : Nat} {μ0 : mo_U} {g : rg_T} {an : an_T} {μ : mo_U} (h' : rgs t b3 base ri ii μ0 g an μ) : ∀ j, j ≠ ii → μ.2 35 j = μ0.2 35 j := h'.2.2.2.2.2.2.2.1
theorem rgs.k {t : tx_T} {b3 base ri ii : Nat} {μ0 : mo_U} {g : rg_T} {an : an_T} {μ : mo_U} (h' : rgs t b3 base ri ii μ0 g an μ) : μ.2 32 ri = if ¬ μ0.2 32 ri = 0 ∨ an.c = true then 1 else 0 := h'.2.2.2.2.2.2.2.2.1
theorem rgs.ko {t : tx_T} {b3 base ri ii : Nat} {μ0 : mo_U} {g : rg_T} {an : an_T} {μ : mo_U} (h' : rgs t b3 base ri ii μ0 g an μ) : ∀ j, j ≠ ri → μ.2 32 j = μ0.2 32 j := h'.2.2.2.2.2.2.2.2.2
theorem ref_terms {t : tx_T} {μ : mo_U} {ri b3 base : Nat} {g : rg_T} (h0 : rs0 t μ g.q) (hr : ri < 17) (hi : g.i < 9) (hb : b3 = 27 ∨ b3 = 31) (hbl : base + 3 ≤ mo_len b3) {lt : Nat → Bool} (hlt : ∀ k, k < 26 → bi (μ.2 33 ri) k = lt k) (h35 : μ.2 35 g.i = nI (g.A.getD g.i 0)) (h353 : g.A.getD g.i 0 ≤ 3) {hd : Bool} (Q : mo_U → Prop) (h1 : ∀ an μ', arg t hd g lt = .ok an → rgs t b3 base ri g.i μ g an μ' → Q μ') (h2 : ∀ e μ', arg t hd g lt = .error e → rsF t e μ' → mo_fr [b3, 32, 33, 35] [805, 806, 807] μ μ' → Q μ') : mp_terms (nI ri) (nI g.i) b3 (nI base) (if hd then 1 else 0) μ Q := by
  intro X29 X50 X94 X106 X141 X158 X206 X227 X251 h29 h50 h94 h106 h141 h158 h206 h227 h251
  have hok := h0.k.ok
  have mok : mo_ok b3 0 := by rcases hb with rfl | rfl <;> exact ⟨by decide, by decide, by decide⟩
  have hlen : mo_len b3 ≤ 255 := by rcases hb with rfl | rfl <;> decide
  have n24 : 24 ∉ [b3, 32, 33, 35] := by rcases hb with rfl | rfl <;> decide
  have n25 : 25 ∉ [b3, 32, 33, 35] := by rcases hb with rfl | rfl <;> decide
  have m3 : b3 ∈ [b3, 32, 33, 35] := List.mem_cons_self
  have n32 : b3 ≠ 32 := by rcases hb with rfl | rfl <;> decide
  have n33 : b3 ≠ 33 := by rcases hb with rfl | rfl <;> decide
  have n35 : b3 ≠ 35 := by rcases hb with rfl | rfl <;> decide
  have m32 : 32 ∈ [b3, 32, 33, 35] := by simp
  have m33 : 33 ∈ [b3, 32, 33, 35] := by simp
  have m35 : 35 ∈ [b3, 32, 33, 35] := by simp
  -- the end when a fault is kept
  have endF : ∀ (e : ft_T) (v6 v8 : Int32) (μ1 : mo_U), (∀ μ', rsF t e μ' → mo_fr [b3, 32, 33, 35] [805, 806, 807] μ μ' → Q μ') → (v8 = 0 ∨ v8 = 1) → rsF t e μ1 → mo_fr [b3, 32, 33, 35] [805, 806, 807] μ μ1 → X206 v6 v8 μ1 := by
    intro e v6 v8 μ1 hQ hv8 hF fr
    refine h206 _ _ _ (ref_takeF hF _ _ (fun μ2 hF2 fr2 => ⟨fun _ => h227 _ _ ⟨vp_in_nI (by omega) (by decide), ?_⟩, fun z => absurd z (rsF_n0 hF2)⟩))
    have fin : ∀ x : Int32, X251 (nI ri) x μ2 := fun x => h251 _ _ _ ⟨vp_in_nI (by omega) (by decide), fun μ3 e3 => by
      have fr3 : mo_fr [b3, 32, 33, 35] [] μ2 μ3 := by rw [e3]; exact fr_sA m32 _
      exact hQ μ3 (rsF_fr hF2 fr3 n24 n25 (by decide) (by decide) (by decide) (by decide)) (mo_fr_tr fr (mo_fr_tr (fr_mono fr2 (fun t ht => absurd ht List.not_mem_nil) (by decide)) (fr_mono fr3 (fun _ h => h) (fun t ht => absurd ht List.not_mem_nil))))⟩
    exact ⟨fun _ => fin _, fun _ => ⟨fun _ => fin _, fun _ => fin _⟩⟩
  have endF50 : ∀ (e : ft_T) (v6 v8 : Int32) (μ1 : mo_U), (∀ μ', rsF t e μ' → mo_fr [b3, 32, 33, 35] [805, 806, 807] μ μ' → Q μ') → (v8 = 0 ∨ v8 = 1) → rsF t e μ1 → mo_fr [b3, 32, 33, 35] [805, 806, 807] μ μ1 → X50 v6 0 v8 μ1 := fun e v6 v8 μ1 hQ hv8 hF fr => h50 _ _ _ _ ⟨fun _ => ⟨fun _ => endF e v6 v8 μ1 hQ hv8 hF fr, fun z => absurd z (rsF_n0 hF)⟩, fun z => absurd rfl z⟩
  -- three cells
  have cells : ∀ (v7 : Int32) (μ1 : mo_U), (∀ μ', mo_fr [b3] [] μ1 μ' → (∀ j, j < 3 → μ'.2 b3 (base + j) = nI 100) → (∀ j, (j < base ∨ base + 3 ≤ j) → μ'.2 b3 j = μ1.2 b3 j) → X50 0 v7 0 μ') → X29 0 v7 0 0 μ1 := by
    intro v7 μ1 hgo
    have main : ∀ k i μ', i + k = 3 → mo_fr [b3] [] μ1 μ' → (∀ j, j < i → μ'.2 b3 (base + j) = nI 100) → (∀ j, (j < base ∨ base + 3 ≤ j) → μ'.2 b3 j = μ1.2 b3 j) → X29 0 v7 0 (nI i) μ' := by
      intro k
      induction k with
      | zero =>
        intro i μ' hi hf hc ho
        refine h29 _ _ _ _ _ ⟨fun _ => hgo μ' hf (fun j hj => hc j (by omega)) ho, fun z => absurd (nI_le (a := 3) (by omega) (by omega)) z⟩
      | succ k ih =>
        intro i μ' hi hf hc ho
        refine h29 _ _ _ _ _ ⟨fun z => absurd z (nI_ge (b := 3) (by omega) (by decide)), fun _ => ?_⟩
        rw [nI_k, nI_1]
        refine ⟨mok, vp_in_nI (by omega) (by omega), fun μ2 e2 => ?_⟩
        rw [cl_nI (by omega)] at e2
        have x3 : ∀ j, μ2.2 b3 j = if j = base + i then 100 else μ'.2 b3 j := fun j => by
          rw [e2]
          show (if b3 = b3 then upd (μ'.2 b3) (base + i) 100 else μ'.2 b3) j = _
          rw [if_pos rfl]
          rfl
        refine ih (i + 1) μ2 (by omega) (mo_fr_tr hf (by rw [e2]; exact fr_sA List.mem_cons_self _)) (fun j hj => ?_) (fun j hj => ?_)
        · rw [x3]
          by_cases z : j = i
          · rw [if_pos (by omega)]; rfl
          · rw [if_neg (by omega)]; exact hc j (by omega)
        · rw [x3, if_neg (by omega)]; exact ho j hj
    exact main 3 0 μ1 rfl mo_fr_rf (fun j hj => absurd hj (Nat.not_lt_zero j)) (fun _ _ => rfl)
  have fmono : ∀ {ts fs : List Nat} {μ1 μ2 : mo_U}, mo_fr ts fs μ1 μ2 → (∀ t ∈ ts, t ∈ [b3, 32, 33, 35]) → (∀ f ∈ fs, f ∈ [805]) → mo_fr [b3, 32, 33, 35] [805] μ1 μ2 := fun h h1 h2 => fr_mono h h1 h2
  let LS : List Nat → (Nat → Bool) → Nat → mo_U → Prop := fun acc lt' q' μ' => rs0 t μ' q' ∧ mo_fr [b3, 32, 33, 35] [805] μ μ' ∧ (∀ j, j < 3 → μ'.2 b3 (base + j) = nI (tmi (tm3 acc) j)) ∧ (∀ j, (j < base ∨ base + 3 ≤ j) → μ'.2 b3 j = μ.2 b3 j) ∧ (∀ k, k < 26 → bi (μ'.2 33 ri) k = lt' k) ∧ (∀ j, j ≠ ri → μ'.2 33 j = μ.2 33 j) ∧ μ'.2 32 = μ.2 32 ∧ μ'.2 35 = μ.2 35
  have fF : ∀ {μ1 μ2 : mo_U}, mo_fr [b3, 32, 33, 35] [805] μ1 μ2 → mo_fr [b3, 32, 33, 35] [805, 806, 807] μ1 μ2 := fun h => fr_mono h (fun _ h => h) (by decide)
  refine ref_take (s := 40) h0 (by decide) _ (fun q1 μ1 et hs1 fr1 => ⟨fun z => absurd hs1.f z, fun _ => ?_⟩) (fun e μ1 et hF fr1 => ⟨fun _ => ?_, fun z => absurd z (rsF_n0 hF)⟩)
  · refine cells 1 μ1 (fun μ2 fr2 hc2 ho2 => ?_)
    have fr02 : mo_fr [b3, 32, 33, 35] [805] μ μ2 := mo_fr_tr (fmono fr1 (fun t ht => absurd ht List.not_mem_nil) (fun _ h => h)) (fmono fr2 (fun t ht => by rw [List.mem_singleton.mp ht]; exact m3) (fun t ht => absurd ht List.not_mem_nil))
    have nb24 : 24 ∉ [b3] := fun z => n24 (by rw [List.mem_singleton.mp z]; exact m3)
    have nb25 : 25 ∉ [b3] := fun z => n25 (by rw [List.mem_singleton.mp z]; exact m3)
    have hs2 : rs0 t μ2 q1 := rs0_fr hs1 fr2 nb24 nb25 (by decide) (by decide) (by decide)
    have eargE : ∀ e, tms t hd 3 [] lt q1 = .error e → arg t hd g lt = .error e := fun e he => by
      unfold arg
      rw [et]
      dsimp only
      rw [he]
    have eargO : ∀ s, tms t hd 3 [] lt q1 = .ok s → arg t hd g lt = if sg t s.q = 41 then (if g.A.getD g.i 0 ≠ 0 ∧ g.A.getD g.i 0 ≠ s.l.length then .error (2, s.q) else .ok ⟨g.i, s.l, s.c, g.nm, g.A.set g.i s.l.length, s.lt, nxt t (s.q + 1)⟩) else .error (1, s.q) := fun s he => by
      unfold arg
      rw [et]
      dsimp only
      rw [he]
    -- the closing sign
    have close : ∀ (s : ts_T) (μ3 : mo_U), tms t hd 3 [] lt q1 = .ok s → s.l.length ≤ 3 → LS s.l s.lt s.q μ3 → X50 (nI s.l.length) 0 (if s.c then 1 else 0) μ3 := by
      intro s μ3 hs h3 hL
      have hv8 : (if s.c then (1 : Int32) else 0) = 0 ∨ (if s.c then (1 : Int32) else 0) = 1 := by cases s.c <;> simp
      have x35 : μ3.2 35 g.i = nI (g.A.getD g.i 0) := by rw [hL.2.2.2.2.2.2.2]; exact h35
      have good : sg t s.q = 41 → ¬ (g.A.getD g.i 0 ≠ 0 ∧ g.A.getD g.i 0 ≠ s.l.length) → X206 (nI s.l.length) (if s.c then 1 else 0) μ3 := fun h41 hno => by
        refine h206 _ _ _ (ref_take (s := 41) hL.1 (by decide) _ (fun q4 μ4 et4 hs4 fr4 => ⟨fun z => absurd hs4.f z, fun _ => ⟨vp_in_nI (by omega) (by decide), fun μ5 e5 => ?_⟩⟩) (fun e μ4 et4 hF fr4 => ?_))
        · rw [cl_nI (by omega)] at e5
          have eq4 : q4 = nxt t (s.q + 1) := by
            unfold tak at et4
            rw [if_pos h41] at et4
            exact (Except.ok.inj et4).symm
          have fr5 : mo_fr [b3, 32, 33, 35] [] μ4 μ5 := by rw [e5]; exact fr_sA m35 _
          have hs5 := rs0_fr hs4 fr5 n24 n25 (by decide) (by decide) (by decide)
          have x32 : μ5.2 32 = μ.2 32 := by
            rw [e5]
            show μ4.2 32 = _
            rw [fr4.1 32 (by decide)]
            exact hL.2.2.2.2.2.2.1
          refine h227 _ _ ⟨vp_in_nI (by omega) (by decide), ?_⟩
          rw [cl_nI (by omega), x32]
          have fin : ∀ x : Int32, (x = if ¬ μ.2 32 ri = 0 ∨ s.c = true then 1 else 0) → X251 (nI ri) x μ5 := fun x hx => h251 _ _ _ ⟨vp_in_nI (by omega) (by decide), fun μ6 e6 => by
            rw [cl_nI (by omega)] at e6
            have fr6 : mo_fr [b3, 32, 33, 35] [] μ5 μ6 := by rw [e6]; exact fr_sA m32 _
            have hnar : vp_nar .boolean x = x := by
              rw [hx]
              split <;> rfl
            have y : ∀ sx, sx ≠ 32 → sx ≠ 35 → μ6.2 sx = μ3.2 sx := fun sx g1 g2 => by
              rw [e6, mu_A_sA', if_neg g1, e5, mu_A_sA', if_neg g2, fr4.1 sx List.not_mem_nil]
            have y35 : ∀ j, μ6.2 35 j = if j = g.i then nI s.l.length else μ3.2 35 j := fun j => by
              rw [e6, mu_A_sA', if_neg (by decide), e5, mu_A_sA', if_pos rfl, fr4.1 35 List.not_mem_nil]
              rfl
            have y32 : ∀ j, μ6.2 32 j = if j = ri then x else μ.2 32 j := fun j => by
              rw [e6, mu_A_sA', if_pos rfl, hnar, x32]
              rfl
            refine h1 ⟨g.i, s.l, s.c, g.nm, g.A.set g.i s.l.length, s.lt, nxt t (s.q + 1)⟩ μ6 (by rw [eargO s hs, if_pos h41, if_neg hno]) ⟨?_, ?_, fun j hj => ?_, fun j hj => ?_, fun k hk => ?_, fun j hj => ?_, ?_, fun j hj => ?_, ?_, fun j hj => ?_⟩
            · rw [← eq4]; exact rs0_fr hs5 fr6 n24 n25 (by decide) (by decide) (by decide)
            · exact mo_fr_tr hL.2.1 (mo_fr_tr (fmono fr4 (fun t ht => absurd ht List.not_mem_nil) (fun _ h => h)) (mo_fr_tr (fmono fr5 (fun _ h => h) (fun t ht => absurd ht List.not_mem_nil)) (fmono fr6 (fun _ h => h) (fun t ht => absurd ht List.not_mem_nil))))
            · rw [y b3 n32 n35]; exact hL.2.2.1 j hj
            · rw [y b3 n32 n35]; exact hL.2.2.2.1 j hj
            · rw [y 33 (by decide) (by decide)]; exact hL.2.2.2.2.1 k hk
            · rw [y 33 (by decide) (by decide)]; exact hL.2.2.2.2.2.1 j hj
            · rw [y35, if_pos rfl]
            · rw [y35, if_neg hj, hL.2.2.2.2.2.2.2]
            · rw [y32, if_pos rfl]; exact hx
            · rw [y32, if_neg hj]⟩
          refine ⟨fun z => fin 1 (by rw [if_pos (Or.inl z)]), fun z => ?_⟩
          cases hc : s.c with
          | true => exact ⟨fun w => absurd w (by decide), fun _ => fin 1 (by rw [if_pos (Or.inr hc)])⟩
          | false => exact ⟨fun _ => fin 0 (by rw [if_neg (fun w => w.elim (fun y => y z) (fun y => by rw [hc] at y; cases y))]), fun w => absurd rfl w⟩
        · unfold tak at et4
          rw [if_pos h41] at et4
          cases et4
      have bad : ∀ (e : ft_T) (μ4 : mo_U), arg t hd g lt = .error e → rsF t e μ4 → mo_fr [b3, 32, 33, 35] [805, 806, 807] μ μ4 → X206 (nI s.l.length) (if s.c then 1 else 0) μ4 := fun e μ4 ea hF fr => endF e _ _ μ4 (fun μ' hF' fr' => h2 e μ' ea hF' fr') hv8 hF fr
      refine h50 _ _ _ _ ⟨fun _ => ⟨fun z => absurd hL.1.f z, fun _ => ref_sign hL.1.k hL.1.q hL.1.a _ ?_⟩, fun z => absurd rfl z⟩
      rw [show (41 : Int32) = nI 41 from rfl, sI_eq (sg_ok hok _) (by decide)]
      refine ⟨fun hne => ?_, fun h41 => ⟨vp_in_nI (by omega) (by decide), ?_⟩⟩
      · refine h206 _ _ _ (ref_take (s := 41) hL.1 (by decide) _ (fun q4 μ4 et4 hs4 fr4 => ?_) (fun e μ4 et4 hF fr4 => ?_))
        · unfold tak at et4
          rw [if_neg hne] at et4
          cases et4
        · unfold tak at et4
          rw [if_neg hne] at et4
          have ee := Except.error.inj et4
          subst ee
          refine ⟨fun _ => h227 _ _ ⟨vp_in_nI (by omega) (by decide), ?_⟩, fun z => absurd z (rsF_n0 hF)⟩
          have fin : ∀ x : Int32, X251 (nI ri) x μ4 := fun x => h251 _ _ _ ⟨vp_in_nI (by omega) (by decide), fun μ5 e5 => by
            have fr5 : mo_fr [b3, 32, 33, 35] [] μ4 μ5 := by rw [e5]; exact fr_sA m32 _
            exact h2 (1, s.q) μ5 (by rw [eargO s hs, if_neg hne]) (rsF_fr hF fr5 n24 n25 (by decide) (by decide) (by decide) (by decide)) (mo_fr_tr (fF hL.2.1) (mo_fr_tr (fr_mono fr4 (fun t ht => absurd ht List.not_mem_nil) (fun _ h => h)) (fr_mono fr5 (fun _ h => h) (fun t ht => absurd ht List.not_mem_nil))))⟩
          exact ⟨fun _ => fin _, fun _ => ⟨fun _ => fin _, fun _ => fin _⟩⟩
      · rw [cl_nI (by omega), x35]
        refine ⟨fun z => good h41 (fun w => w.1 ((nI_eq (b := 0) (by omega) (by decide)).mp z)), fun z => ⟨vp_in_nI (by omega) (by decide), ?_⟩⟩
        rw [nI_eq (by omega) (by omega)]
        refine ⟨fun y => good h41 (fun w => w.2 y), fun y => ref_wrong (k := 2) hL.1 (by decide) _ (fun μ4 hF fr4 => bad (2, s.q) μ4 ?_ hF (mo_fr_tr (fF hL.2.1) (fr_mono fr4 (fun t ht => absurd ht List.not_mem_nil) (by decide))))⟩
        rw [eargO s hs, if_pos h41, if_pos ⟨fun w => z (by rw [w]; rfl), y⟩]
    -- one more term is written
    have put : ∀ (acc : List Nat) (lt' : Nat → Bool) (q' x : Nat) (μ4 μ5 : mo_U), acc.length < 3 → LS acc lt' q' μ4 → μ5 = mu_sA μ4 b3 (upd (μ4.2 b3) (nI base + nI acc.length).toNatClampNeg (nI x)) → LS (acc ++ [x]) lt' q' μ5 := by
      intro acc lt' q' x μ4 μ5 ha ⟨l1, l2, l3, l4, l5, l6, l7, l8⟩ e5
      rw [nI_k, cl_nI (by omega)] at e5
      have fr5 : mo_fr [b3] [] μ4 μ5 := by rw [e5]; exact fr_sA List.mem_cons_self _
      have x3 : ∀ j, μ5.2 b3 j = if j = base + acc.length then nI x else μ4.2 b3 j := fun j => by
        rw [e5, mu_A_sA', if_pos rfl]
        rfl
      have nin : ∀ sx, sx ≠ b3 → sx ∉ [b3] := fun sx h z => h (List.mem_singleton.mp z)
      refine ⟨rs0_fr l1 fr5 (nin 24 (fun z => n24 (by rw [z]; exact m3))) (nin 25 (fun z => n25 (by rw [z]; exact m3))) (by decide) (by decide) (by decide), mo_fr_tr l2 (fmono fr5 (fun t ht => by rw [List.mem_singleton.mp ht]; exact m3) (fun t ht => absurd ht List.not_mem_nil)), fun j hj => ?_, fun j hj => ?_, fun k hk => ?_, fun j hj => ?_, ?_, ?_⟩
      · rw [x3, tm3_snoc ha x j hj]
        by_cases z : j = acc.length
        · rw [if_pos (by omega), if_pos z]
        · rw [if_neg (by omega), if_neg z]; exact l3 j hj
      · rw [x3, if_neg (by omega)]; exact l4 j hj
      · rw [fr5.1 33 (nin 33 (Ne.symm n33))]; exact l5 k hk
      · rw [fr5.1 33 (nin 33 (Ne.symm n33))]; exact l6 j hj
      · rw [fr5.1 32 (nin 32 (Ne.symm n32))]; exact l7
      · rw [fr5.1 35 (nin 35 (Ne.symm n35))]; exact l8
    -- reading goes on by a sign
    have adv : ∀ (acc : List Nat) (lt' : Nat → Bool) (q' q'' : Nat) (μ4 μ5 : mo_U), LS acc lt' q' μ4 → mo_fr [] [805] μ4 μ5 → rs0 t μ5 q'' → LS acc lt' q'' μ5 := by
      intro acc lt' q' q'' μ4 μ5 ⟨l1, l2, l3, l4, l5, l6, l7, l8⟩ fr5 hs5
      exact ⟨hs5, mo_fr_tr l2 (fmono fr5 (fun t ht => absurd ht List.not_mem_nil) (fun _ h => h)), fun j hj => by rw [fr5.1 b3 List.not_mem_nil]; exact l3 j hj, fun j hj => by rw [fr5.1 b3 List.not_mem_nil]; exact l4 j hj, fun k hk => by rw [fr5.1 33 List.not_mem_nil]; exact l5 k hk, fun j hj => by rw [fr5.1 33 List.not_mem_nil]; exact l6 j hj, by rw [fr5.1 32 List.not_mem_nil]; exact l7, by rw [fr5.1 35 List.not_mem_nil]; exact l8⟩
    have stay : ∀ (acc : List Nat) (lt' : Nat → Bool) (q' : Nat) (μ4 μ5 : mo_U), LS acc lt' q' μ4 → μ5 = mu_sI μ4 805 (μ4.1 805 + 0) → LS acc lt' q' μ5 := by
      intro acc lt' q' μ4 μ5 hL e5
      have fr5 : mo_fr [] [805] μ4 μ5 := by rw [e5]; exact fr_sI (by decide) _
      refine adv acc lt' q' q' μ4 μ5 hL fr5 ⟨tkn_fr hL.1.k fr5 (by decide) (by decide) (by decide), hL.1.q, ?_, by rw [fr5.2 806 (by decide)]; exact hL.1.f⟩
      rw [e5, mu_I_sI, if_pos rfl, hL.1.a]
      exact Int32.add_zero _
    -- nothing more follows
    have done : ∀ (s : ts_T) (v8 : Int32) (μ4 : mo_U), v8 = (if s.c then 1 else 0) → tms t hd 3 [] lt q1 = .ok s → s.l.length ≤ 3 → LS s.l s.lt s.q μ4 → X141 (nI s.l.length) v8 0 μ4 := by
      intro s v8 μ4 e8 hs h3 hL
      refine h141 _ _ _ _ ⟨fun _ => h158 _ _ _ _ _ _ (fun μ5 e5 => ?_), fun z => absurd rfl z⟩
      rw [e8]
      exact close s μ5 hs h3 (stay _ _ _ μ4 μ5 hL e5)
    have one : ∀ k (acc : List Nat) (lt' : Nat → Bool) (q' : Nat) (μ3 : mo_U), k + 1 + acc.length = 3 → tms t hd 3 [] lt q1 = tms t hd (k + 1) acc lt' q' → LS acc lt' q' μ3 → (∀ (acc' : List Nat) (lt'' : Nat → Bool) (q'' : Nat) (μ4 : mo_U), k ≠ 0 → acc'.length = acc.length + 1 → tms t hd 3 [] lt q1 = tms t hd k acc' lt'' q'' → LS acc' lt'' q'' μ4 → X50 (nI acc'.length) 1 0 μ4) → X50 (nI acc.length) 1 0 μ3 := by
      intro k acc lt' q' μ3 hk htm hL next
      have hacc : acc.length < 3 := by omega
      -- a term that is no mark
      have plain : ¬ (hd = true ∧ sg t q' = 35) → X94 (nI acc.length) 0 μ3 := fun hnm => by
        have htmE : ∀ e, trm t lt' q' = .error e → tms t hd 3 [] lt q1 = .error e := fun e he => by
          rw [htm]
          show (if hd = true ∧ sg t q' = 35 then _ else _) = _
          rw [if_neg hnm, he]
        have htmO : ∀ r, trm t lt' q' = .ok r → tms t hd 3 [] lt q1 = if k ≠ 0 ∧ sg t r.q = 44 then tms t hd k (acc ++ [r.x]) r.lt (nxt t (r.q + 1)) else .ok ⟨acc ++ [r.x], false, r.lt, r.q⟩ := fun r he => by
          rw [htm]
          show (if hd = true ∧ sg t q' = 35 then _ else _) = _
          rw [if_neg hnm, he]
        refine h94 _ _ _ (ref_term hL.1 hr hL.2.2.2.2.1 _ (fun r μ4 er hs4 fr4 hb4 ho4 => ⟨mok, by rw [nI_k]; exact vp_in_nI (by omega) (by omega), fun μ5 e5 => ?_⟩) (fun e μ4 er hF fr4 => ⟨mok, by rw [nI_k]; exact vp_in_nI (by omega) (by omega), fun μ5 e5 => ?_⟩))
        · have htm' := htmO r er
          have hL4 : LS acc r.lt r.q μ4 := ⟨hs4, mo_fr_tr hL.2.1 (fmono fr4 (fun t ht => by rw [List.mem_singleton.mp ht]; exact m33) (fun _ h => h)), fun j hj => by rw [fr4.1 b3 (fun z => n33 (List.mem_singleton.mp z))]; exact hL.2.2.1 j hj, fun j hj => by rw [fr4.1 b3 (fun z => n33 (List.mem_singleton.mp z))]; exact hL.2.2.2.1 j hj, hb4, fun j hj => by rw [ho4 j hj]; exact hL.2.2.2.2.2.1 j hj, by rw [fr4.1 32 (by decide)]; exact hL.2.2.2.2.2.2.1, by rw [fr4.1 35 (by decide)]; exact hL.2.2.2.2.2.2.2⟩
          have hL5 := put acc r.lt r.q r.x μ4 μ5 hacc hL4 e5
          have hal : (acc ++ [r.x]).length = acc.length + 1 := by rw [List.length_append]; rfl
          have stop : ¬ (k ≠ 0 ∧ sg t r.q = 44) → X141 (nI (acc.length + 1)) 0 0 μ5 := fun hno => by
            rw [if_neg hno] at htm'
            have := done ⟨acc ++ [r.x], false, r.lt, r.q⟩ 0 μ5 rfl htm' (by show (acc ++ [r.x]).length ≤ 3; omega) hL5
            rw [← hal]
            exact this
          refine h106 _ _ _ ⟨fun z => absurd hL5.1.f z, fun _ => ⟨fun z => absurd rfl z, fun _ => ?_⟩⟩
          rw [nI_1]
          refine ⟨fun z3 => stop (fun w => ?_), fun z3 => ref_sign hL5.1.k hL5.1.q hL5.1.a _ ?_⟩
          · rw [show (3 : Int32) = nI 3 from rfl, nI_leI (by decide) (by omega)] at z3
            omega
          · have k0 : k ≠ 0 := fun w => z3 (nI_le (a := 3) (by omega) (by omega))
            rw [show (44 : Int32) = nI 44 from rfl, sI_eq (sg_ok hok _) (by decide)]
            refine ⟨fun hne => stop (fun w => hne w.2), fun h44 => h141 _ _ _ _ ⟨fun z => absurd z (by decide), fun _ => h158 _ _ _ _ _ _ (fun μ6 e6 => ?_)⟩⟩
            rw [if_pos ⟨k0, h44⟩] at htm'
            have a5 := hL5.1.a
            rw [a5, nI_1] at e6
            have := next (acc ++ [r.x]) r.lt (nxt t (r.q + 1)) μ6 k0 hal htm' (adv _ _ _ _ μ5 μ6 hL5 (by rw [e6]; exact fr_sI (by decide) _) (rs0_st hL5.1 (sg_lt h44 (by decide)) e6))
            rw [hal] at this
            exact this
        · have htm' := htmE e er
          have fr5 : mo_fr [b3] [] μ4 μ5 := by rw [e5]; exact fr_sA List.mem_cons_self _
          have nin : ∀ sx, sx ≠ b3 → sx ∉ [b3] := fun sx h z => h (List.mem_singleton.mp z)
          have hF5 := rsF_fr hF fr5 (nin 24 (fun z => n24 (by rw [z]; exact m3))) (nin 25 (fun z => n25 (by rw [z]; exact m3))) (by decide) (by decide) (by decide) (by decide)
          have f5 : mo_fr [b3, 32, 33, 35] [805, 806, 807] μ μ5 := mo_fr_tr (fF hL.2.1) (mo_fr_tr (fr_mono fr4 (fun t ht => absurd ht List.not_mem_nil) (fun _ h => h)) (fr_mono fr5 (fun t ht => by rw [List.mem_singleton.mp ht]; exact m3) (fun t ht => absurd ht List.not_mem_nil)))
          refine h106 _ _ _ ⟨fun _ => h141 _ _ _ _ ⟨fun _ => h158 _ _ _ _ _ _ (fun μ6 e6 => ?_), fun z => absurd rfl z⟩, fun z => absurd z (rsF_n0 hF5)⟩
          obtain ⟨hF6, fr6⟩ := rsF_0 hF5 e6
          exact endF50 e _ 0 μ6 (fun μ' hF' fr' => h2 e μ' (eargE e htm') hF' fr') (Or.inl rfl) hF6 (mo_fr_tr f5 (fr_mono fr6 (fun t ht => absurd ht List.not_mem_nil) (by decide)))
      refine h50 _ _ _ _ ⟨fun z => absurd z (by decide), fun _ => ⟨fun z => plain (fun w => ?_), fun z => ref_sign hL.1.k hL.1.q hL.1.a _ ?_⟩⟩
      · rw [if_pos w.1] at z
        exact absurd z (by decide)
      · have hhd : hd = true := by
          cases hb9 : hd with
          | true => rfl
          | false => rw [hb9] at z; exact absurd rfl z
        rw [show (35 : Int32) = nI 35 from rfl, sI_eq (sg_ok hok _) (by decide)]
        refine ⟨fun hne => plain (fun w => hne w.2), fun h35' => ⟨mok, by rw [nI_k]; exact vp_in_nI (by omega) (by omega), fun μ4 e4 μ5 e5 => ?_⟩⟩
        have htm' : tms t hd 3 [] lt q1 = .ok ⟨acc ++ [99], true, lt', nxt t (q' + 1)⟩ := by
          rw [htm]
          show (if hd = true ∧ sg t q' = 35 then _ else _) = _
          rw [if_pos ⟨hhd, h35'⟩]
        have hL4 := put acc lt' q' 99 μ3 μ4 hacc hL e4
        rw [hL4.1.a, nI_1] at e5
        have hL5 := adv _ _ _ _ μ4 μ5 hL4 (by rw [e5]; exact fr_sI (by decide) _) (rs0_st hL4.1 (sg_lt h35' (by decide)) e5)
        refine h106 _ _ _ ⟨fun z => absurd hL5.1.f z, fun _ => ⟨fun _ => ?_, fun z => absurd z (by decide)⟩⟩
        rw [nI_1]
        have hal : (acc ++ [99]).length = acc.length + 1 := by rw [List.length_append]; rfl
        have := done ⟨acc ++ [99], true, lt', nxt t (q' + 1)⟩ 1 μ5 rfl htm' (by show (acc ++ [99]).length ≤ 3; omega) hL5
        rw [← hal]
        exact this
    -- term after term
    have step : ∀ k (acc : List Nat) (lt' : Nat → Bool) (q' : Nat) (μ3 : mo_U), k + 1 + acc.length = 3 → tms t hd 3 [] lt q1 = tms t hd (k + 1) acc lt' q' → LS acc lt' q' μ3 → X50 (nI acc.length) 1 0 μ3 := by
      intro k
      induction k with
      | zero =>
        intro acc lt' q' μ3 hk htm hL
        exact one 0 acc lt' q' μ3 hk htm hL (fun acc' _ _ _ h0 _ _ _ => absurd rfl h0)
      | succ k ih =>
        intro acc lt' q' μ3 hk htm hL
        exact one (k + 1) acc lt' q' μ3 hk htm hL (fun acc' lt'' q'' μ4 h0 hl ht hL4 => ih acc' lt'' q'' μ4 (by omega) ht hL4)
    refine step 2 [] lt q1 μ2 rfl rfl ⟨hs2, fr02, fun j hj => ?_, fun j hj => ?_, fun k hk => ?_, fun j hj => ?_, ?_, ?_⟩
    · rw [hc2 j hj]
      rcases (show j = 0 ∨ j = 1 ∨ j = 2 by omega) with rfl | rfl | rfl <;> rfl
    · rw [ho2 j hj, fr1.1 b3 List.not_mem_nil]
    · rw [fr2.1 33 (fun z => n33 (List.mem_singleton.mp z).symm), fr1.1 33 List.not_mem_nil]; exact hlt k hk
    · rw [fr2.1 33 (fun z => n33 (List.mem_singleton.mp z).symm), fr1.1 33 List.not_mem_nil]
    · rw [fr2.1 32 (fun z => n32 (List.mem_singleton.mp z).symm), fr1.1 32 List.not_mem_nil]
    · rw [fr2.1 35 (fun z => n35 (List.mem_singleton.mp z).symm), fr1.1 35 List.not_mem_nil]
  · refine cells 0 μ1 (fun μ2 fr2 _ _ => ?_)
    have nb24 : 24 ∉ [b3] := fun z => n24 (by rw [List.mem_singleton.mp z]; exact m3)
    have nb25 : 25 ∉ [b3] := fun z => n25 (by rw [List.mem_singleton.mp z]; exact m3)
    refine endF50 e 0 0 μ2 (fun μ' hF' fr' => h2 e μ' ?_ hF' fr') (Or.inl rfl) (rsF_fr hF fr2 nb24 nb25 (by decide) (by decide) (by decide) (by decide)) (mo_fr_tr (fr_mono fr1 (fun t ht => absurd ht List.not_mem_nil) (by decide)) (fr_mono fr2 (fun t ht => by rw [List.mem_singleton.mp ht]; exact m3) (fun t ht => absurd ht List.not_mem_nil)))
    unfold arg
    rw [et]
