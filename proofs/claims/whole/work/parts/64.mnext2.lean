theorem nI_ofI {d : Nat} (h : d < 2147483648) : nI d = Int32.ofInt (d : Int) := Int32.toInt_inj.mp (by rw [nI_toInt (by omega), ofI_toInt (by omega) (by omega)])
theorem nI_dec (d : Nat) (h : d < 2147483648) : nI d - (1 : Int32) = Int32.ofInt ((d : Int) - 1) := by
  refine Int32.toInt_inj.mp ?_
  rw [ofI_toInt (by omega) (by omega)]
  cases d with
  | zero => decide
  | succ d =>
    rw [nI_pred, nI_toInt (by omega)]
    omega
/-- what comes from a literal's rows, from the c-th on -/
def solsC (S : Nat → List Nat) (ls : List lit_T) (e : ev_T) (c : Nat) : List ev_T := match ls with
  | [] => []
  | l :: ls' => ((S l.2.1).drop c).flatMap (fun key => match un3 e l.2.2 key with
      | some e' => sols S ls' e'
      | none => [])
theorem solsC_0 (S : Nat → List Nat) (l : lit_T) (ls : List lit_T) (e : ev_T) (h : l.1 = 0) : solsC S (l :: ls) e 0 = sols S (l :: ls) e := by
  simp only [solsC, sols, if_pos h, List.drop_zero]
  rfl
theorem solsC_s (S : Nat → List Nat) (l : lit_T) (ls : List lit_T) (e : ev_T) {c : Nat} (h : c < (S l.2.1).length) : solsC S (l :: ls) e c = (match un3 e l.2.2 ((S l.2.1).getD c 0) with
      | some e' => sols S ls e'
      | none => []) ++ solsC S (l :: ls) e (c + 1) := by
  simp only [solsC]
  rw [List.drop_eq_getElem_cons h, List.flatMap_cons, gd_eq _ _ h]
theorem solsC_e (S : Nat → List Nat) (l : lit_T) (ls : List lit_T) (e : ev_T) {c : Nat} (h : (S l.2.1).length ≤ c) : solsC S (l :: ls) e c = [] := by
  simp only [solsC]
  rw [List.drop_eq_nil_of_le h]
  rfl
def remD (S : Nat → List Nat) (ps : List lit_T) (E : Nat → ev_T) (C : Nat → Nat) : Nat → List ev_T
  | 0 => []
  | d + 1 => solsC S (ps.drop d) (E d) (C d) ++ remD S ps E C d
theorem remD_congr {S : Nat → List Nat} {ps : List lit_T} {E E' : Nat → ev_T} {C C' : Nat → Nat} : ∀ {d : Nat}, (∀ i, i < d → E i = E' i ∧ C i = C' i) → remD S ps E C d = remD S ps E' C' d
  | 0, _ => rfl
  | d + 1, h => by
    simp only [remD]
    rw [(h d (by omega)).1, (h d (by omega)).2, remD_congr (fun i hi => h i (by omega))]
def remK (S : Nat → List Nat) (ps : List lit_T) (E : Nat → ev_T) (C : Nat → Nat) (k : Nat) : List ev_T := if k ≤ ps.length then remD S ps E C k else E ps.length :: remD S ps E C ps.length
def it_ms (g : Nat) (N : Nat → Nat) (ps : List lit_T) (C : Nat → Nat) : Nat → Nat
  | 0 => 0
  | k + 1 => it_ms g N ps C k + (if k < g then (2 + 2 * (N (ps.getD k d_lit).2.1 - C k)) * 100 ^ (g - k) else 1)
theorem it_ms_congr {g : Nat} {N : Nat → Nat} {ps : List lit_T} {C C' : Nat → Nat} : ∀ {k : Nat}, (∀ i, i < k → C i = C' i) → it_ms g N ps C k = it_ms g N ps C' k
  | 0, _ => rfl
  | k + 1, h => by
    simp only [it_ms]
    rw [h k (by omega), it_ms_congr (fun i hi => h i (by omega))]
/-- the rule that is gone through, its literals, its positive ones -/
def it_S (μ : mo_U) (R : mr_R) (N : Nat → Nat) (r : Nat) (ls ps : List lit_T) (pix : Nat → Nat) : Prop := mo_M μ R N ∧ μ.1 842 = nI r ∧ μ.1 841 = nI ps.length ∧ ps.length ≤ 3 ∧ mo_lits μ r ls ∧ (∀ i, i < ps.length → μ.2 52 i = nI (pix i) ∧ pix i < 85 ∧ mo_lit μ (pix i) (ps.getD i d_lit) ∧ (ps.getD i d_lit).1 = 0) ∧ ∀ l ∈ ls, l.1 ≠ 0 → ∀ k, vin3 l.2.2 k → ∃ j, j < ps.length ∧ vin3 (ps.getD j d_lit).2.2 k
theorem mo_M_fr {μ μ' : mo_U} {R : mr_R} {N : Nat → Nat} {ts fs : List Nat} (h : mo_M μ R N) (hf : mo_fr ts fs μ μ') (h1 : 40 ∉ ts) (h2 : 41 ∉ ts) (h3 : 42 ∉ ts) : mo_M μ' R N := by
  unfold mo_M mo_at
  rw [hf.1 40 h1, hf.1 41 h2, hf.1 42 h3]
  exact h
theorem mo_lit_fr {μ μ' : mo_U} {L : Nat} {l : lit_T} {ts fs : List Nat} (h : mo_lit μ L l) (hf : mo_fr ts fs μ μ') (h1 : 29 ∉ ts) (h2 : 30 ∉ ts) (h3 : 31 ∉ ts) : mo_lit μ' L l := by
  unfold mo_lit
  rw [hf.1 29 h1, hf.1 30 h2, hf.1 31 h3]
  exact h
theorem mo_lits_fr {μ μ' : mo_U} {r : Nat} {ls : List lit_T} {ts fs : List Nat} (h : mo_lits μ r ls) (hf : mo_fr ts fs μ μ') (h0 : 28 ∉ ts) (h1 : 29 ∉ ts) (h2 : 30 ∉ ts) (h3 : 31 ∉ ts) : mo_lits μ' r ls :=
  ⟨h.1, h.2.1, by rw [hf.1 28 h0]; exact h.2.2.1, fun i hi => mo_lit_fr (h.2.2.2 i hi) hf h1 h2 h3⟩
theorem it_S_fr {μ μ' : mo_U} {R : mr_R} {N : Nat → Nat} {r : Nat} {ls ps : List lit_T} {pix : Nat → Nat} (h : it_S μ R N r ls ps pix) (hf : mo_fr [50, 51] [840] μ μ') : it_S μ' R N r ls ps pix := by
  obtain ⟨h1, h2, h3, h4, h5, h6, h7⟩ := h
  refine ⟨mo_M_fr h1 hf (by simp) (by simp) (by simp), by rw [hf.2 842 (by simp)]; exact h2, by rw [hf.2 841 (by simp)]; exact h3, h4, mo_lits_fr h5 hf (by simp) (by simp) (by simp) (by simp), fun i hi => ?_, h7⟩
  obtain ⟨a, b, c, d⟩ := h6 i hi
  exact ⟨by rw [hf.1 52 (by simp)]; exact a, b, mo_lit_fr c hf (by simp) (by simp) (by simp), d⟩
def it_D (μ : mo_U) (N : Nat → Nat) (ps : List lit_T) (k : Nat) (C : Nat → Nat) (E : Nat → ev_T) : Prop := k ≤ ps.length + 1 ∧ μ.1 840 = Int32.ofInt ((k : Int) - 1) ∧ ∀ i, i < k → (i < ps.length → μ.2 51 i = nI (C i) ∧ C i ≤ N (ps.getD i d_lit).2.1) ∧ eB (μ.2 50) i (E i) ∧ ∀ j, j < i → ∀ v, vin3 (ps.getD j d_lit).2.2 v → E i v ≠ none
theorem mr_S_len (R : mr_R) (N : Nat → Nat) (r : Nat) : (mr_S R N r).length = N r := by simp [mr_S]
theorem mr_S_gd (R : mr_R) (N : Nat → Nat) (r : Nat) {j : Nat} (h : j < N r) : (mr_S R N r).getD j 0 = (R r j).1 := by
  rw [gd_eq _ _ (by rw [mr_S_len]; exact h)]
  simp [mr_S]
theorem drop_cons (ps : List lit_T) {d : Nat} (h : d < ps.length) : ps.drop d = ps.getD d d_lit :: ps.drop (d + 1) := by
  rw [List.drop_eq_getElem_cons h, gd_eq _ _ h]
theorem mo_next {R : mr_R} {N : Nat → Nat} {r : Nat} {ls ps : List lit_T} {pix : Nat → Nat} (Q : Int32 → mo_U → Prop) {μ0 : mo_U} {k0 : Nat} {C0 : Nat → Nat} {E0 : Nat → ev_T} (hS0 : it_S μ0 R N r ls ps pix) (hD0 : it_D μ0 N ps k0 C0 E0)
    (hQ0 : (remK (mr_S R N) ps E0 C0 k0).filter (alltests (mr_S R N) ls) = [] → ∀ μ', mo_fr [50, 51] [840] μ0 μ' → Q 0 μ')
    (hQ1 : ∀ (x : ev_T) (rest : List ev_T), (remK (mr_S R N) ps E0 C0 k0).filter (alltests (mr_S R N) ls) = x :: rest → ∀ (μ' : mo_U) (C : Nat → Nat) (E : Nat → ev_T), mo_fr [50, 51] [840] μ0 μ' → it_D μ' N ps ps.length C E → eB (μ'.2 50) ps.length x → (remK (mr_S R N) ps E C ps.length).filter (alltests (mr_S R N) ls) = rest → Q 1 μ') : mp_next μ0 Q := by
  intro X0 hX
  have main : ∀ (n k : Nat) (C : Nat → Nat) (E : Nat → ev_T) (μ : mo_U), it_ms ps.length N ps C k < n → mo_fr [50, 51] [840] μ0 μ → it_D μ N ps k C E → (remK (mr_S R N) ps E C k).filter (alltests (mr_S R N) ls) = (remK (mr_S R N) ps E0 C0 k0).filter (alltests (mr_S R N) ls) → X0 μ := by
    intro n
    induction n with
    | zero =>
      intro k C E μ hn
      omega
    | succ n ih =>
      intro k C E μ hn hfr hD hrem
      have hS := it_S_fr hS0 hfr
      obtain ⟨hM, s842, s841, g3, hlits, hpos, hsafe⟩ := hS
      obtain ⟨hk, d840, hlev⟩ := hD
      have hXm := hX μ
      rw [d840, s841] at hXm
      cases k with
      | zero =>
        refine hXm ⟨fun _ => hQ0 ?_ μ hfr, fun q => absurd (by decide) q⟩
        rw [← hrem]
        simp [remK, remD]
      | succ d =>
        have ed : Int32.ofInt (((d + 1 : Nat) : Int) - 1) = nI d := by
          rw [nI_ofI (by omega)]
          congr 1
          omega
        rw [ed] at hXm
        have edec : nI d - (1 : Int32) = Int32.ofInt ((d : Int) - 1) := nI_dec d (by omega)
        obtain ⟨hcur, hE, hbd⟩ := hlev d (by omega)
        refine hXm ⟨fun q => absurd q (nI_pos (by omega)), fun _ => ⟨fun q => ?_, fun q => ?_⟩⟩
        · -- a literal's next row
          rw [nI_eq (by omega) (by omega)] at q
          have hd : d < ps.length := by omega
          obtain ⟨p52, p85, plit, p0⟩ := hpos d hd
          obtain ⟨c51, cN⟩ := hcur hd
          have prel : (ps.getD d d_lit).2.1 < 8 := plit.2.2.2.2.2.2.2.1 (by omega)
          have hN := hM.2 _ prel
          have hms : it_ms ps.length N ps C (d + 1) = it_ms ps.length N ps C d + (2 + 2 * (N (ps.getD d d_lit).2.1 - C d)) * 100 ^ (ps.length - d) := by
            simp only [it_ms, if_pos hd]
          have hpw : 1 ≤ 100 ^ (ps.length - d) := Nat.one_le_pow _ _ (by omega)
          have edrop := drop_cons ps hd
          have hrk : remK (mr_S R N) ps E C (d + 1) = solsC (mr_S R N) (ps.drop d) (E d) (C d) ++ remD (mr_S R N) ps E C d := by
            simp only [remK, if_pos (show d + 1 ≤ ps.length by omega), remD]
          rw [cl_nI (by omega), p52, c51, cl_nI (by omega), plit.2.1, cl_nI (by omega), hN.1]
          refine ⟨vp_in_nI (by omega) (by omega), vp_in_nI (by omega) (by omega), vp_in_nI p85 (by omega), vp_in_nI prel (by omega), fun q2 => ⟨vp_in_nI (by omega) (by omega), vp_in_nI (by omega) (by omega), vp_in_nI (by omega) (by omega), fun μ1 f1 => ?_⟩, fun q2 => ?_⟩
          · rw [nI_eq (by omega) (by omega)] at q2
            have hc : C d < N (ps.getD d d_lit).2.1 := by omega
            have hfr1 : mo_fr [50, 51] [840] μ0 μ1 := mo_fr_tr hfr (by rw [f1]; exact mo_fr_A (by simp))
            have hS1 := it_S_fr hS0 hfr1
            have d840' : μ1.1 840 = nI d := by rw [f1, mu_I_sA, d840, ed]
            have e50 : μ1.2 50 = μ.2 50 := by rw [f1, mu_A_sA, if_neg (by omega)]
            have e51 : μ1.2 51 = upd (μ.2 51) d (nI (C d + 1)) := by rw [f1, mu_A_sA, if_pos rfl, nI_1]
            rw [d840']
            have hsc := solsC_s (mr_S R N) (ps.getD d d_lit) (ps.drop (d + 1)) (E d) (c := C d) (by rw [mr_S_len]; exact hc)
            rw [mr_S_gd _ _ _ hc] at hsc
            refine mo_fits hS1.1 (hS1.2.2.2.2.2.1 d hd).2.2.1 p0 p85 (by omega) (by omega) (by rw [e50]; exact hE) _ (fun e' B hu hB hBb => ⟨fun q => absurd q (by decide), fun _ μ2 f2 => ?_⟩) (fun hu B hBb => ⟨fun _ => ?_, fun q => absurd rfl q⟩)
            · -- it fits: one deeper
              have e840 : μ2.1 840 = nI (d + 1) := by rw [f2, mu_I_sI, if_pos rfl, mu_I_sA, d840', nI_1]
              rw [e840]
              refine ⟨vp_in_nI (by omega) (by omega), fun μ3 f3 => ?_⟩
              rw [cl_nI (by omega)] at f3
              have g50 : μ3.2 50 = B := by rw [f3, mu_A_sA, if_neg (by omega), f2, mu_A_sI, mu_A_sA, if_pos rfl]
              have g51 : μ3.2 51 = upd (upd (μ.2 51) d (nI (C d + 1))) (d + 1) 0 := by
                rw [f3, mu_A_sA, if_pos rfl, f2, mu_A_sI, mu_A_sA, if_neg (by omega), e51]
              have hfr3 : mo_fr [50, 51] [840] μ0 μ3 := mo_fr_tr hfr1 (by rw [f3, f2]; exact mo_fr_tr (mo_fr_A (by simp)) (mo_fr_tr (mo_fr_I (by simp)) (mo_fr_A (by simp))))
              have hdr : remD (mr_S R N) ps (fun i => if i = d + 1 then e' else E i) (fun i => if i = d + 1 then 0 else if i = d then C d + 1 else C i) d = remD (mr_S R N) ps E C d := remD_congr (fun i hi => by
                constructor
                · try dsimp only
                  rw [if_neg (by omega)]
                · try dsimp only
                  rw [if_neg (by omega), if_neg (by omega)])
              have hdd : remD (mr_S R N) ps (fun i => if i = d + 1 then e' else E i) (fun i => if i = d + 1 then 0 else if i = d then C d + 1 else C i) (d + 1) = solsC (mr_S R N) (ps.drop d) (E d) (C d + 1) ++ remD (mr_S R N) ps E C d := by
                simp only [remD, hdr]
                rw [if_neg (by omega), if_neg (by omega), if_pos trivial]
              refine ih (d + 2) (fun i => if i = d + 1 then 0 else if i = d then C d + 1 else C i) (fun i => if i = d + 1 then e' else E i) μ3 ?_ hfr3 ⟨by omega, ?_, fun i hi => ⟨fun hig => ?_, ?_, fun j hj v hv => ?_⟩⟩ ?_
              · have hlow : it_ms ps.length N ps (fun i => if i = d + 1 then 0 else if i = d then C d + 1 else C i) d = it_ms ps.length N ps C d := it_ms_congr (fun i hi => by
                  try dsimp only
                  rw [if_neg (by omega), if_neg (by omega)])
                have hmid : (2 + 2 * (N (ps.getD d d_lit).2.1 - C d)) * 100 ^ (ps.length - d) = (2 + 2 * (N (ps.getD d d_lit).2.1 - (C d + 1))) * 100 ^ (ps.length - d) + 2 * 100 ^ (ps.length - d) := by
                  rw [← Nat.add_mul]
                  congr 1
                  omega
                have htop : (if d + 1 < ps.length then (2 + 2 * (N (ps.getD (d + 1) d_lit).2.1 - 0)) * 100 ^ (ps.length - (d + 1)) else 1) < 2 * 100 ^ (ps.length - d) := by
                  split
                  · rename_i g
                    have h40 := (hM.2 _ ((hpos (d + 1) g).2.2.1.2.2.2.2.2.2.2.1 (by rw [(hpos (d + 1) g).2.2.2]; omega))).2
                    have hp2 : 100 ^ (ps.length - d) = 100 * 100 ^ (ps.length - (d + 1)) := by
                      rw [show ps.length - d = (ps.length - (d + 1)) + 1 by omega, Nat.pow_succ]
                      omega
                    have hp1 : 1 ≤ 100 ^ (ps.length - (d + 1)) := Nat.one_le_pow _ _ (by omega)
                    rw [hp2]
                    generalize 100 ^ (ps.length - (d + 1)) = w at *
                    have : (2 + 2 * (N (ps.getD (d + 1) d_lit).2.1 - 0)) * w ≤ 82 * w := Nat.mul_le_mul_right _ (by omega)
                    omega
                  · omega
                simp only [it_ms] at hn ⊢
                rw [if_pos hd] at hn
                rw [hlow, if_pos hd, if_neg (show ¬ d = d + 1 by omega), if_pos trivial, if_pos trivial]
                omega
              · rw [f3, mu_I_sA, e840, nI_ofI (by omega)]
                congr 1
                omega
              · rw [g51]
                try dsimp only
                by_cases g1 : i = d + 1
                · rw [if_pos g1, g1]
                  exact ⟨by simp [upd, nI_0], by omega⟩
                · rw [if_neg g1]
                  by_cases g2 : i = d
                  · rw [if_pos g2, g2]
                    refine ⟨?_, by omega⟩
                    simp [upd]
                  · rw [if_neg g2]
                    obtain ⟨h1, h2⟩ := (hlev i (by omega)).1 hig
                    refine ⟨?_, h2⟩
                    simp only [upd, if_neg g1, if_neg g2]
                    exact h1
              · rw [g50]
                try dsimp only
                by_cases g1 : i = d + 1
                · rw [if_pos g1, g1]
                  exact hB
                · rw [if_neg g1]
                  obtain ⟨a1, a2, a3⟩ := (hlev i (by omega)).2.1
                  refine ⟨a1, a2, fun k hk26 => ?_⟩
                  rw [hBb _ (by omega), e50]
                  exact a3 k hk26
              · try dsimp only
                by_cases g1 : i = d + 1
                · rw [if_pos g1]
                  by_cases g2 : j = d
                  · subst g2
                    exact un3_bound hu hv
                  · have := hbd j (by omega) v hv
                    cases hEv : E d v with
                    | none => exact absurd hEv this
                    | some w =>
                      rw [un3_ext hu v w hEv]
                      simp
                · rw [if_neg g1]
                  exact (hlev i (by omega)).2.2 j hj v hv
              · rw [← hrem, hrk, edrop, hsc, hu, List.append_assoc, ← edrop]
                try dsimp only
                by_cases g : d + 2 ≤ ps.length
                · have hd1 : d + 1 < ps.length := by omega
                  rw [remK, if_pos g]
                  rw [remD, hdd, if_pos rfl, if_pos rfl, drop_cons ps hd1, solsC_0 _ _ _ _ (hpos (d + 1) hd1).2.2.2]
                · have hd1 : ps.length = d + 1 := by omega
                  rw [remK, if_neg g, hd1, if_pos rfl, hdd]
                  rw [List.drop_eq_nil_of_le (show ps.length ≤ d + 1 by omega)]
                  rfl
            · -- it does not fit
              have hfr3 : mo_fr [50, 51] [840] μ0 (mu_sA μ1 50 B) := mo_fr_tr hfr1 (mo_fr_A (by simp))
              have hdr : remD (mr_S R N) ps E (fun i => if i = d then C d + 1 else C i) d = remD (mr_S R N) ps E C d := remD_congr (fun i hi => by
                refine ⟨rfl, ?_⟩
                try dsimp only
                rw [if_neg (by omega)])
              refine ih (d + 1) (fun i => if i = d then C d + 1 else C i) E (mu_sA μ1 50 B) ?_ hfr3 ⟨hk, ?_, fun i hi => ⟨fun hig => ?_, ?_, fun j hj v hv => (hlev i hi).2.2 j hj v hv⟩⟩ ?_
              · have hlow : it_ms ps.length N ps (fun i => if i = d then C d + 1 else C i) d = it_ms ps.length N ps C d := it_ms_congr (fun i hi => by
                  try dsimp only
                  rw [if_neg (by omega)])
                have hmid : (2 + 2 * (N (ps.getD d d_lit).2.1 - C d)) * 100 ^ (ps.length - d) = (2 + 2 * (N (ps.getD d d_lit).2.1 - (C d + 1))) * 100 ^ (ps.length - d) + 2 * 100 ^ (ps.length - d) := by
                  rw [← Nat.add_mul]
                  congr 1
                  omega
                simp only [it_ms] at hn ⊢
                rw [if_pos hd] at hn
                rw [hlow, if_pos hd, if_pos trivial]
                omega
              · rw [mu_I_sA, d840', nI_ofI (by omega)]
                congr 1
                omega
              · rw [mu_A_sA, if_neg (by omega), e51]
                try dsimp only
                by_cases g2 : i = d
                · rw [if_pos g2, g2]
                  refine ⟨?_, by omega⟩
                  simp [upd]
                · rw [if_neg g2]
                  obtain ⟨h1, h2⟩ := (hlev i hi).1 hig
                  refine ⟨?_, h2⟩
                  simp only [upd, if_neg g2]
                  exact h1
              · rw [mu_A_sA, if_pos rfl]
                obtain ⟨a1, a2, a3⟩ := (hlev i hi).2.1
                refine ⟨a1, a2, fun k hk26 => ?_⟩
                rw [hBb _ (by omega), e50]
                exact a3 k hk26
              · rw [← hrem, hrk, edrop, hsc, hu, ← edrop]
                simp only [remK, if_pos (show d + 1 ≤ ps.length by omega), remD, hdr, List.nil_append, if_pos]
          · -- no more rows
            rw [nI_eq (by omega) (by omega)] at q2
            intro μ1 f1
            have hfr1 : mo_fr [50, 51] [840] μ0 μ1 := mo_fr_tr hfr (by rw [f1]; exact mo_fr_I (by simp))
            refine ih d C E μ1 ?_ hfr1 ⟨by omega, ?_, fun i hi => ?_⟩ ?_
            · rw [hms] at hn
              have := Nat.mul_le_mul (show 1 ≤ 2 + 2 * (N (ps.getD d d_lit).2.1 - C d) by omega) hpw
              omega
            · rw [f1, mu_I_sI, if_pos rfl, edec]
            · rw [f1, mu_A_sI]
              exact hlev i (by omega)
            · rw [← hrem, hrk, edrop, solsC_e _ _ _ _ (by rw [mr_S_len]; omega), List.nil_append]
              simp only [remK, if_pos (show d ≤ ps.length by omega)]
        · -- all positive literals have rows
          rw [nI_eq (by omega) (by omega)] at q
          intro μ1 f1
          have hfr1 : mo_fr [50, 51] [840] μ0 μ1 := mo_fr_tr hfr (by rw [f1]; exact mo_fr_I (by simp))
          obtain ⟨hM1, a842, a841, _, b5, _, b7⟩ := it_S_fr hS0 hfr1
          have hD1 : it_D μ1 N ps ps.length C E := by
            refine ⟨by omega, ?_, fun i hi => ?_⟩
            · rw [f1, mu_I_sI, if_pos rfl, edec, q]
            · rw [f1, mu_A_sI]
              exact hlev i (by omega)
          have hE1 : eB (μ1.2 50) ps.length (E ps.length) := by
            rw [f1, mu_A_sI, ← q]
            exact hE
          have hrk : remK (mr_S R N) ps E C (d + 1) = E ps.length :: remD (mr_S R N) ps E C ps.length := by
            rw [remK, if_neg (by omega)]
          have hrk2 : remK (mr_S R N) ps E C ps.length = remD (mr_S R N) ps E C ps.length := by
            rw [remK, if_pos (Nat.le_refl _)]
          refine mo_holds hM1 a842 a841 (by omega) b5 hE1 (fun l hl h0 k hv => ?_) _ ⟨fun q2 => ?_, fun q2 => ?_⟩
          · obtain ⟨j, hj, hjv⟩ := b7 l hl h0 k hv
            rw [← q]
            exact hbd j (by omega) k hjv
          · have hf : alltests (mr_S R N) ls (E ps.length) = false := by
              cases h : alltests (mr_S R N) ls (E ps.length) with
              | false => rfl
              | true =>
                rw [h] at q2
                exact absurd q2 (by decide)
            refine ih ps.length C E μ1 ?_ hfr1 hD1 ?_
            · have : it_ms ps.length N ps C (d + 1) = it_ms ps.length N ps C d + 1 := by simp only [it_ms, if_neg (show ¬ d < ps.length by omega)]
              have e9 : it_ms ps.length N ps C ps.length = it_ms ps.length N ps C d := congrArg (it_ms ps.length N ps C) q.symm
              omega
            · rw [← hrem, hrk, hrk2, List.filter_cons_of_neg (by rw [hf]; simp)]
          · have ht : alltests (mr_S R N) ls (E ps.length) = true := by
              cases h : alltests (mr_S R N) ls (E ps.length) with
              | true => rfl
              | false =>
                rw [h] at q2
                exact absurd rfl q2
            refine hQ1 (E ps.length) ((remD (mr_S R N) ps E C ps.length).filter (alltests (mr_S R N) ls)) ?_ μ1 C E hfr1 hD1 hE1 (by rw [hrk2])
            rw [← hrem, hrk, List.filter_cons_of_pos ht]
  exact main _ k0 C0 E0 μ0 (Nat.lt_succ_self _) mo_fr_rf hD0 rfl
