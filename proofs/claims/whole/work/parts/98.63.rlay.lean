def lst (rs : List ru_T) (n : Nat) (x0 : Nat → Nat) (i j : Nat) (y : Nat → Nat) (μ : mo_U) : Prop := (∀ v, v < n → μ.2 37 v = nI (y v)) ∧ (∀ v, ¬ v < n → y v = x0 v) ∧ (∀ v, x0 v ≤ y v) ∧ (∀ f, Sol rs f → (∀ v, x0 v ≤ f v) → ∀ v, y v ≤ f v) ∧ (∀ i', i' < i → ∀ l ∈ (rs.getD i' d_ru).ls, l.1 ≠ 2 → x0 l.2.1 + stp (rs.getD i' d_ru) l ≤ y (rs.getD i' d_ru).h) ∧ (∀ j', j' < j → ((rs.getD i d_ru).ls.getD j' d_lit).1 ≠ 2 → x0 ((rs.getD i d_ru).ls.getD j' d_lit).2.1 + stp (rs.getD i d_ru) ((rs.getD i d_ru).ls.getD j' d_lit) ≤ y (rs.getD i d_ru).h) ∧ (∀ v, y v ≤ 8 + 5 * i + j)
theorem lst.c {rs : List ru_T} {n : Nat} {x0 : Nat → Nat} {i j : Nat} {y : Nat → Nat} {μ : mo_U} (h' : lst rs n x0 i j y μ) : ∀ v, v < n → μ.2 37 v = nI (y v) := h'.1
theorem lst.z {rs : List ru_T} {n : Nat} {x0 : Nat → Nat} {i j : Nat} {y : Nat → Nat} {μ : mo_U} (h' : lst rs n x0 i j y μ) : ∀ v, ¬ v < n → y v = x0 v := h'.2.1
theorem lst.up {rs : List ru_T} {n : Nat} {x0 : Nat → Nat} {i j : Nat} {y : Nat → Nat} {μ : mo_U} (h' : lst rs n x0 i j y μ) : ∀ v, x0 v ≤ y v := h'.2.2.1
theorem lst.lo {rs : List ru_T} {n : Nat} {x0 : Nat → Nat} {i j : Nat} {y : Nat → Nat} {μ : mo_U} (h' : lst rs n x0 i j y μ) : ∀ f, Sol rs f → (∀ v, x0 v ≤ f v) → ∀ v, y v ≤ f v := h'.2.2.2.1
theorem lst.e {rs : List ru_T} {n : Nat} {x0 : Nat → Nat} {i j : Nat} {y : Nat → Nat} {μ : mo_U} (h' : lst rs n x0 i j y μ) : ∀ i', i' < i → ∀ l ∈ (rs.getD i' d_ru).ls, l.1 ≠ 2 → x0 l.2.1 + stp (rs.getD i' d_ru) l ≤ y (rs.getD i' d_ru).h := h'.2.2.2.2.1
theorem lst.e2 {rs : List ru_T} {n : Nat} {x0 : Nat → Nat} {i j : Nat} {y : Nat → Nat} {μ : mo_U} (h' : lst rs n x0 i j y μ) : ∀ j', j' < j → ((rs.getD i d_ru).ls.getD j' d_lit).1 ≠ 2 → x0 ((rs.getD i d_ru).ls.getD j' d_lit).2.1 + stp (rs.getD i d_ru) ((rs.getD i d_ru).ls.getD j' d_lit) ≤ y (rs.getD i d_ru).h := h'.2.2.2.2.2.1
theorem lst.bd {rs : List ru_T} {n : Nat} {x0 : Nat → Nat} {i j : Nat} {y : Nat → Nat} {μ : mo_U} (h' : lst rs n x0 i j y μ) : ∀ v, y v ≤ 8 + 5 * i + j := h'.2.2.2.2.2.2
theorem ref_layers {rs : List ru_T} {n : Nat} {μ0 : mo_U} (h0 : rul_C rs μ0) (hn8 : n ≤ 8) (h817 : μ0.1 817 = nI n) (hrn : ∀ r ∈ rs, r.h < n ∧ ∀ l ∈ r.ls, l.1 ≤ 2 ∧ (l.1 ≤ 1 → l.2.1 < n)) (h36 : ∀ v, v < n → μ0.2 36 v = if rs.any (fun r => decide (r.h = v)) then 1 else 0) (Q : Int32 → mo_U → Prop) (h1 : ∀ L μ, least rs L → (∀ v, L v ≤ 8) → (∀ v, v < n → μ.2 37 v = nI (L v)) → mo_fr [37] [] μ0 μ → Q 1 μ) (h0' : (∀ f, Sol rs f → ∃ v, 8 < f v) → ∀ μ, mo_fr [37] [] μ0 μ → Q 0 μ) : mp_layers μ0 Q := by
  intro X2 X29 X38 X46 X56 X115 X162 h2 h29 h38 h46 h56 h115 h162
  have n16 := h0.n
  have bz : ∀ v, ¬ v < n → bs rs v = 0 := fun v hv => by
    unfold bs
    rw [if_neg (fun z => by
      obtain ⟨r, hr, e⟩ := List.any_eq_true.mp z
      have := (hrn r hr).1
      rw [of_decide_eq_true e] at this
      exact hv this)]
  -- pass after pass
  have turns : ∀ (m : Nat) (x : Nat → Nat) (μ : mo_U), 65 ≤ m + (x 0 + x 1 + x 2 + x 3 + x 4 + x 5 + x 6 + x 7) → (∀ v, x v ≤ 8) → (∀ v, bs rs v ≤ x v) → (∀ v, ¬ v < n → x v = 0) → (∀ f, Sol rs f → ∀ v, x v ≤ f v) → (∀ v, v < n → μ.2 37 v = nI (x v)) → mo_fr [37] [] μ0 μ → X38 1 μ := by
    intro m
    induction m with
    | zero =>
      intro x μ hm h8 hb hz hlo hc hf
      have := h8 0; have := h8 1; have := h8 2; have := h8 3; have := h8 4; have := h8 5; have := h8 6; have := h8 7
      omega
    | succ m ih =>
      intro x μ hm h8 hb hz hlo hc hf
      refine h38 _ _ ⟨fun z => absurd z (by decide), fun _ => ?_⟩
      -- the check behind a pass
      have check : ∀ (ch : Bool) (y : Nat → Nat) (μ1 : mo_U), lst rs n x rs.length 0 y μ1 → mo_fr [37] [] μ0 μ1 → (ch = false → y = x) → (ch = true → ∃ v, x v < y v) → X162 (if ch then 1 else 0) 0 μ1 := by
        intro ch y μ1 hl hf1 hno hyes
        have hbd : ∀ v, y v ≤ 88 := fun v => by have := hl.bd v; omega
        have hyf : ∀ f, Sol rs f → ∀ v, y v ≤ f v := fun f hS => hl.lo f hS (hlo f hS)
        have loop : ∀ k i, i + k = n → (∀ v, v < i → y v ≤ 8) → X162 (if ch then 1 else 0) (nI i) μ1 := by
          intro k
          induction k with
          | zero =>
            intro i hi h8'
            refine h162 _ _ _ ?_
            rw [hf1.2 817 (by decide), h817]
            refine ⟨fun _ => ?_, fun z => absurd (nI_le (by omega) (by omega)) z⟩
            have hall : ∀ v, y v ≤ 8 := fun v => by
              by_cases z : v < n
              · exact h8' v (by omega)
              · rw [hl.z v z]; exact h8 v
            cases hch : ch with
            | false =>
              refine h38 _ _ ⟨fun _ => ?_, fun z => absurd rfl z⟩
              have ey := hno hch
              have hpass : pass rs x x := ⟨fun _ => Nat.le_refl _, fun f _ h v => h v, fun r hr l hl' h2 => by
                obtain ⟨i', hi', e⟩ := List.getElem_of_mem hr
                have := hl.e i' hi' l (by rw [gd_eq _ _ hi', e]; exact hl') h2
                rw [gd_eq _ _ hi', e, ey] at this
                exact this⟩
              exact h1 x μ1 (pass_fix hpass hb hlo) h8 (fun v hv => by rw [hl.c v hv, ey]) hf1
            | true =>
              obtain ⟨v, hv⟩ := hyes hch
              have hv8 : v < 8 := by
                rcases Nat.lt_or_ge v 8 with z | z
                · exact z
                · have := hl.z v (by omega); omega
              have u := hl.up
              have := u 0; have := u 1; have := u 2; have := u 3; have := u 4; have := u 5; have := u 6; have := u 7
              refine ih y μ1 ?_ hall (fun v => Nat.le_trans (hb v) (u v)) (fun v hv' => by rw [hl.z v hv']; exact hz v hv') hyf hl.c hf1
              rcases (show v = 0 ∨ v = 1 ∨ v = 2 ∨ v = 3 ∨ v = 4 ∨ v = 5 ∨ v = 6 ∨ v = 7 by omega) with e | e | e | e | e | e | e | e <;> rw [e] at hv <;> omega
          | succ k ihk =>
            intro i hi h8'
            have := hbd i
            refine h162 _ _ _ ?_
            rw [hf1.2 817 (by decide), h817]
            refine ⟨fun z => absurd z (nI_ge (by omega) (by omega)), fun _ => ⟨vp_in_nI (by omega) (by decide), ?_⟩⟩
            rw [cl_nI (by omega), hl.c i (by omega), show (8 : Int32) = nI 8 from rfl, nI_leI (by omega) (by decide), nI_1]
            refine ⟨fun z => ihk (i + 1) (by omega) (fun v hv => ?_), fun z => h0' (fun f hS => ⟨i, ?_⟩) μ1 hf1⟩
            · by_cases w : v = i
              · rw [w]; exact z
              · exact h8' v (by omega)
            · have := hyf f hS i
              omega
        exact loop n 0 (by omega) (fun v hv => absurd hv (Nat.not_lt_zero v))
      -- rule after rule
      have rules : ∀ (k i : Nat) (ch : Bool) (y : Nat → Nat) (μ1 : mo_U), i + k = rs.length → lst rs n x i 0 y μ1 → mo_fr [37] [] μ0 μ1 → (ch = false → y = x) → (ch = true → ∃ v, x v < y v) → X46 (if ch then 1 else 0) (nI i) μ1 := by
        intro k
        induction k with
        | zero =>
          intro i ch y μ1 hi hl hf1 hno hyes
          refine h46 _ _ _ ?_
          rw [hf1.2 808 (by decide), h0.m]
          refine ⟨fun _ => check ch y μ1 (by rw [← show i = rs.length by omega]; exact hl) hf1 hno hyes, fun z => absurd (nI_le (by omega) (by omega)) z⟩
        | succ k ihk =>
          intro i ch y μ1 hi hl hf1 hno hyes
          have hil : i < rs.length := by omega
          refine h46 _ _ _ ?_
          rw [hf1.2 808 (by decide), h0.m]
          refine ⟨fun z => absurd z (nI_ge (by omega) (by omega)), fun _ => ?_⟩
          obtain ⟨hh1, hh2⟩ := h0.h i hil
          obtain ⟨_, l5, l28, llit⟩ := h0.ls i hil
          have hmem : rs.getD i d_ru ∈ rs := by rw [gd_eq _ _ hil]; exact List.getElem_mem hil
          obtain ⟨hhn, hln⟩ := hrn _ hmem
          have lits : ∀ (mm j : Nat) (ch : Bool) (y : Nat → Nat) (μ2 : mo_U), j + mm = (rs.getD i d_ru).ls.length → lst rs n x i j y μ2 → mo_fr [37] [] μ0 μ2 → (ch = false → y = x) → (ch = true → ∃ v, x v < y v) → X56 (if ch then 1 else 0) (nI i) (nI j) μ2 := by
            intro mm
            induction mm with
            | zero =>
              intro j ch y μ2 hj hl hf2 hno hyes
              refine h56 _ _ _ _ ⟨vp_in_nI (by omega) (by decide), ?_⟩
              rw [cl_nI (by omega), hf2.1 28 (by decide), l28]
              refine ⟨fun _ => ?_, fun z => absurd (nI_le (by omega) (by omega)) z⟩
              rw [nI_1]
              refine ihk (i + 1) ch y μ2 (by omega) ⟨hl.c, hl.z, hl.up, hl.lo, fun i' hi' l hl' h2 => ?_, fun j' hj' => absurd hj' (Nat.not_lt_zero _), fun v => by have := hl.bd v; omega⟩ hf2 hno hyes
              by_cases w : i' = i
              · rw [w] at hl' ⊢
                obtain ⟨j', hj', e⟩ := List.getElem_of_mem hl'
                have := hl.e2 j' (by omega) (by rw [gd_eq _ _ hj', e]; exact h2)
                rw [gd_eq _ _ hj', e] at this
                exact this
              · exact hl.e i' (by omega) l hl' h2
            | succ mm ihl =>
              intro j ch y μ2 hj hl hf2 hno hyes
              have hjl : j < (rs.getD i d_ru).ls.length := by omega
              obtain ⟨g1, g2, _, _, _, g6, g7, g8, _⟩ := llit j hjl
              have hlm : (rs.getD i d_ru).ls.getD j d_lit ∈ (rs.getD i d_ru).ls := by rw [gd_eq _ _ hjl]; exact List.getElem_mem hjl
              -- raising, or not
              have raise : ∀ t0 : Nat, t0 ≤ 8 + 5 * i + (j + 1) → (((rs.getD i d_ru).ls.getD j d_lit).1 ≠ 2 → x ((rs.getD i d_ru).ls.getD j d_lit).2.1 + stp (rs.getD i d_ru) ((rs.getD i d_ru).ls.getD j d_lit) ≤ t0) → (∀ f, Sol rs f → (∀ v, x v ≤ f v) → t0 ≤ f (rs.getD i d_ru).h) → X115 (if ch then 1 else 0) (nI i) (nI j) (nI t0) μ2 := fun t0 ht he hlo' => by
                have ybd := hl.bd (rs.getD i d_ru).h
                refine h115 _ _ _ _ _ ⟨vp_in_nI (by omega) (by decide), ?_⟩
                rw [cl_nI (by omega), hf2.1 26 (by decide), hh1, cl_nI (by omega), hl.c _ hhn, nI_leI (by omega) (by omega), nI_1]
                refine ⟨vp_in_nI (by omega) (by decide), fun z => ?_, fun z => ⟨vp_in_nI (by omega) (by decide), vp_in_nI (by omega) (by decide), fun μ3 e3 => ?_⟩⟩
                · refine ihl (j + 1) ch y μ2 (by omega) ⟨hl.c, hl.z, hl.up, hl.lo, hl.e, fun j' hj' h2 => ?_, fun v => by have := hl.bd v; omega⟩ hf2 hno hyes
                  by_cases w : j' = j
                  · rw [w] at h2 ⊢; exact Nat.le_trans (he h2) z
                  · exact hl.e2 j' (by omega) h2
                · have x37 : ∀ v, μ3.2 37 v = if v = (rs.getD i d_ru).h then nI t0 else μ2.2 37 v := fun v => by rw [e3]; rfl
                  have yy : ∀ v, y v ≤ (if v = (rs.getD i d_ru).h then t0 else y v) := fun v => by
                    split
                    · rename_i w; rw [w]; omega
                    · exact Nat.le_refl _
                  refine ihl (j + 1) true (fun v => if v = (rs.getD i d_ru).h then t0 else y v) μ3 (by omega) ⟨fun v hv => ?_, fun v hv => ?_, fun v => Nat.le_trans (hl.up v) (yy v), fun f hS hx v => ?_, fun i' hi' l hl' h2 => Nat.le_trans (hl.e i' hi' l hl' h2) (yy _), fun j' hj' h2 => ?_, fun v => ?_⟩ (mo_fr_tr hf2 (by rw [e3]; exact fr_sA (by decide) _)) (fun w => by cases w) (fun _ => ⟨(rs.getD i d_ru).h, ?_⟩)
                  · rw [x37]
                    dsimp only
                    split
                    · rfl
                    · exact hl.c v hv
                  · dsimp only
                    rw [if_neg (fun w => hv (by rw [w]; exact hhn))]
                    exact hl.z v hv
                  · dsimp only
                    split
                    · rename_i w; rw [w]; exact hlo' f hS hx
                    · exact hl.lo f hS hx v
                  · by_cases w : j' = j
                    · rw [w] at h2 ⊢
                      dsimp only
                      rw [if_pos rfl]
                      exact he h2
                    · exact Nat.le_trans (hl.e2 j' (by omega) h2) (yy _)
                  · dsimp only
                    split
                    · omega
                    · have := hl.bd v; omega
                  · show x (rs.getD i d_ru).h < (if (rs.getD i d_ru).h = (rs.getD i d_ru).h then t0 else y (rs.getD i d_ru).h)
                    rw [if_pos rfl]
                    have := hl.up (rs.getD i d_ru).h
                    omega
              refine h56 _ _ _ _ ⟨vp_in_nI (by omega) (by decide), ?_⟩
              rw [cl_nI (by omega), hf2.1 28 (by decide), l28]
              refine ⟨fun z => absurd z (nI_ge (by omega) (by omega)), fun _ => ?_⟩
              rw [nI_5, nI_k, cl_nI (by omega), hf2.1 29 (by decide), g1, hf2.1 30 (by decide), g2, show (2 : Int32) = nI 2 from rfl, nI_eq (by omega) (by decide)]
              refine ⟨vp_in_nI (by omega) (by decide), fun hk => ?_, fun hk => ?_⟩
              · have hu := (hln _ hlm).2 (by have := (hln _ hlm).1; omega)
                have ub := hl.bd ((rs.getD i d_ru).ls.getD j d_lit).2.1
                rw [cl_nI (by omega), hl.c _ hu]
                refine ⟨vp_in_nI (by omega) (by decide), vp_in_nI (by omega) (by decide), ?_⟩
                have go : ∀ s : Nat, s = stp (rs.getD i d_ru) ((rs.getD i d_ru).ls.getD j d_lit) → X115 (if ch then 1 else 0) (nI i) (nI j) (nI (y ((rs.getD i d_ru).ls.getD j d_lit).2.1) + nI s) μ2 := fun s hs => by
                  have s1 : s ≤ 1 := by rw [hs]; unfold stp; split <;> omega
                  rw [nI_k]
                  refine raise _ (by omega) (fun _ => ?_) (fun f hS hx => ?_)
                  · have := hl.up ((rs.getD i d_ru).ls.getD j d_lit).2.1
                    omega
                  · have a := hl.lo f hS hx ((rs.getD i d_ru).ls.getD j d_lit).2.1
                    have b := hS.2 _ hmem _ hlm hk
                    omega
                unfold mp_isStrict
                rw [cl_nI (by omega), hf2.1 32 (by decide), h0.c i hil, nI_5, nI_k, cl_nI (by omega), hf2.1 29 (by decide), g1, show (1 : Int32) = nI 1 from rfl, nI_eq (by omega) (by decide)]
                refine ⟨vp_in_nI (by omega) (by decide), fun hc => ⟨fun w => absurd w (by decide), fun _ => go 1 ?_⟩, fun hc => ⟨vp_in_nI (by omega) (by decide), fun hne => ⟨fun _ => go 0 ?_, fun w => absurd rfl w⟩, fun he => ⟨fun w => absurd w (by decide), fun _ => go 1 ?_⟩⟩⟩
                · unfold stp
                  rw [if_pos (Or.inr ?_)]
                  cases hcc : (rs.getD i d_ru).c with
                  | true => rfl
                  | false => rw [hcc] at hc; exact absurd rfl hc
                · unfold stp
                  rw [if_neg (fun w => w.elim hne (fun v => by rw [v] at hc; exact absurd hc (by decide)))]
                · unfold stp
                  rw [if_pos (Or.inl he)]
              · exact raise 0 (by omega) (fun h => absurd hk h) (fun f hS hx => Nat.zero_le _)
          exact lits (rs.getD i d_ru).ls.length 0 ch y μ1 (by omega) hl hf1 hno hyes
      exact rules rs.length 0 false x μ (by omega) ⟨hc, fun _ _ => rfl, fun _ => Nat.le_refl _, fun f _ h v => h v, fun i' hi' => absurd hi' (Nat.not_lt_zero _), fun j' hj' => absurd hj' (Nat.not_lt_zero _), fun v => by have := h8 v; omega⟩ hf (fun _ => rfl) (fun z => by cases z)
  -- where it starts
  have start : ∀ k i μ, i + k = n → mo_fr [37] [] μ0 μ → (∀ v, v < i → μ.2 37 v = nI (bs rs v)) → X2 (nI i) μ := by
    intro k
    induction k with
    | zero =>
      intro i μ hi hf hc
      refine h2 _ _ ?_
      rw [hf.2 817 (by decide), h817]
      refine ⟨fun _ => turns 65 (bs rs) μ (by omega) (fun v => by have := bs_le rs v; omega) (fun v => Nat.le_refl _) bz (fun f hS v => hS.1 v) (fun v hv => hc v (by omega)) hf, fun z => absurd (nI_le (by omega) (by omega)) z⟩
    | succ k ih =>
      intro i μ hi hf hc
      refine h2 _ _ ?_
      rw [hf.2 817 (by decide), h817]
      refine ⟨fun z => absurd z (nI_ge (by omega) (by omega)), fun _ => ⟨vp_in_nI (by omega) (by decide), ?_⟩⟩
      rw [cl_nI (by omega), hf.1 36 (by decide), h36 i (by omega)]
      have put : ∀ b : Nat, b = bs rs i → X29 (nI i) (nI i) (nI b) μ := fun b hb => by
        refine h29 _ _ _ _ ⟨vp_in_nI (by omega) (by decide), fun μ1 e1 => ?_⟩
        rw [cl_nI (by omega)] at e1
        rw [nI_1]
        have x37 : ∀ v, μ1.2 37 v = if v = i then nI b else μ.2 37 v := fun v => by rw [e1]; rfl
        refine ih (i + 1) μ1 (by omega) (mo_fr_tr hf (by rw [e1]; exact fr_sA (by decide) _)) (fun v hv => ?_)
        rw [x37]
        by_cases z : v = i
        · rw [if_pos z, hb, z]
        · rw [if_neg z]; exact hc v (by omega)
      cases hb : rs.any (fun r => decide (r.h = i)) with
      | false => exact ⟨fun _ => put 0 (by unfold bs; rw [if_neg (by rw [hb]; decide)]), fun z => absurd rfl z⟩
      | true => exact ⟨fun z => absurd z (by decide), fun _ => put 1 (by unfold bs; rw [if_pos hb])⟩
  exact start n 0 μ0 (by omega) mo_fr_rf (fun v hv => absurd hv (Nat.not_lt_zero v))
