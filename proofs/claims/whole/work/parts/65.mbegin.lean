theorem ps_snoc (ls : List lit_T) {i : Nat} (hi : i < ls.length) : ps_of (ls.take (i + 1)) = if (ls.getD i d_lit).1 = 0 then ps_of (ls.take i) ++ [ls.getD i d_lit] else ps_of (ls.take i) := by
  rw [gd_eq ls _ hi, ps_of, ps_of, List.take_succ_eq_append_getElem hi, List.filter_append]
  by_cases h : (ls[i]).1 = 0 <;> simp [h]
theorem ps_pre (ls : List lit_T) (i : Nat) : (ps_of (ls.take i)).length ≤ (ps_of ls).length := by
  have h : (ps_of (ls.take i)).Sublist (ps_of ls) := List.Sublist.filter _ (List.take_sublist i ls)
  exact h.length_le
theorem ps_pos {ls : List lit_T} {l : lit_T} (h : l ∈ ps_of ls) : l.1 = 0 := by
  have := (List.mem_filter.mp h).2
  simpa using this
/-- what a rule's variables are safe by -/
def lits_safe (ls : List lit_T) : Prop := ∀ l ∈ ls, l.1 ≠ 0 → ∀ k, vin3 l.2.2 k → ∃ p ∈ ps_of ls, vin3 p.2.2 k
theorem mo_begin {μ : mo_U} {R : mr_R} {N : Nat → Nat} (hM : mo_M μ R N) {r : Nat} {ls : List lit_T} (hls : mo_lits μ r ls) (h3 : (ps_of ls).length ≤ 3) (hsafe : lits_safe ls) (Q : mo_U → Prop)
    (hQ : ∀ (μ' : mo_U) (pix : Nat → Nat), it_S μ' R N r ls (ps_of ls) pix → it_D μ' N (ps_of ls) 1 (fun _ => 0) (fun _ => ev0) → mo_fr [50, 51, 52] [840, 841, 842] μ μ' → Q μ') : mp_begin (nI r) μ Q := by
  have hls0 := hls
  obtain ⟨hr17, h5, hlen, hlit⟩ := hls
  intro X12 X67 h12 h67
  -- the bound values
  have clear : ∀ (m k : Nat) (μ1 : mo_U) (pix : Nat → Nat), k + m = 26 → mo_fr [50, 51, 52] [840, 841, 842] μ μ1 → it_S μ1 R N r ls (ps_of ls) pix → (∀ i, i < k → μ1.2 50 i = -1) → X67 (nI k) μ1 := by
    intro m
    induction m with
    | zero =>
      intro k μ1 pix hk hfr hS hB
      refine h67 _ _ ⟨fun _ μ2 f2 => ⟨vp_in_nI (n := 0) (by omega) (by omega), fun μ3 f3 => ?_⟩, fun q => absurd ?_ q⟩
      · have hf3 : mo_fr [50, 51] [840] μ1 μ3 := by
          rw [f3, f2]
          exact mo_fr_tr (mo_fr_I (by simp)) (mo_fr_A (by simp))
        refine hQ μ3 pix (it_S_fr hS hf3) ⟨by omega, ?_, fun i hi => ?_⟩ (mo_fr_tr hfr (mo_fr_mono hf3 (by simp) (by simp)))
        · rw [f3, mu_I_sA, f2, mu_I_sI, if_pos rfl]
          decide
        · have hi0 : i = 0 := by omega
          subst hi0
          refine ⟨fun _ => ⟨?_, Nat.zero_le _⟩, ⟨fun k v q => (by cases q), fun _ _ => rfl, fun k hk26 => ?_⟩, fun j hj => absurd hj (Nat.not_lt_zero j)⟩
          · rw [f3, mu_A_sA, if_pos rfl]
            simp [upd, nI_0]
          · rw [f3, mu_A_sA, if_neg (by omega), f2, mu_A_sI]
            have := hB k (by omega)
            rw [show 26 * 0 + k = k by omega]
            exact this
      · rw [show (26 : Int32) = nI 26 from rfl]
        exact nI_le (by omega) (by omega)
    | succ m ih =>
      intro k μ1 pix hk hfr hS hB
      refine h67 _ _ ⟨fun q => ?_, fun _ => ⟨vp_in_nI (by omega) (by omega), fun μ2 f2 => ?_⟩⟩
      · rw [show (26 : Int32) = nI 26 from rfl, nI_leI (by omega) (by omega)] at q
        omega
      · rw [cl_nI (by omega)] at f2
        have hf2 : mo_fr [50, 51] [840] μ1 μ2 := by
          rw [f2]
          exact mo_fr_A (by simp)
        rw [nI_1]
        refine ih (k + 1) μ2 pix (by omega) (mo_fr_tr hfr (mo_fr_mono hf2 (by simp) (by simp))) (it_S_fr hS hf2) (fun i hi => ?_)
        rw [f2, mu_A_sA, if_pos rfl]
        by_cases g : i = k
        · simp [upd, g]
        · simp only [upd, if_neg g]
          exact hB i (by omega)
  -- the positive literals
  have loop : ∀ (m i : Nat) (μ1 : mo_U) (pix : Nat → Nat), i + m = ls.length → mo_fr [50, 51, 52] [840, 841, 842] μ μ1 → μ1.1 842 = nI r → μ1.1 841 = nI (ps_of (ls.take i)).length → (∀ q, q < (ps_of (ls.take i)).length → μ1.2 52 q = nI (pix q) ∧ ∃ j, j < i ∧ pix q = 5 * r + j ∧ (ps_of (ls.take i)).getD q d_lit = ls.getD j d_lit) → X12 (nI i) μ1 := by
    intro m
    induction m with
    | zero =>
      intro i μ1 pix him hfr s842 s841 hq
      have hi : i = ls.length := by omega
      subst hi
      rw [List.take_length] at s841 hq
      have hl1 := mo_lits_fr hls0 hfr (by simp) (by simp) (by simp) (by simp)
      refine h12 _ _ ⟨vp_in_nI hr17 (by omega), fun _ => ?_, fun q => absurd ?_ q⟩
      · refine clear 26 0 μ1 pix (by omega) hfr ⟨mo_M_fr hM hfr (by simp) (by simp) (by simp), s842, s841, h3, hl1, fun q hql => ?_, fun l hl h0 k hv => ?_⟩ (fun i hi => by omega)
        · obtain ⟨a, j, hj, hp, hg⟩ := hq q hql
          refine ⟨a, by omega, ?_, ?_⟩
          · rw [hg, hp]
            exact hl1.2.2.2 j hj
          · refine ps_pos (ls := ls) ?_
            rw [gd_eq _ _ hql]
            exact List.getElem_mem hql
        · obtain ⟨p, hp, hpv⟩ := hsafe l hl h0 k hv
          obtain ⟨j, hj, rfl⟩ := List.getElem_of_mem hp
          exact ⟨j, hj, by rw [gd_eq _ _ hj]; exact hpv⟩
      · rw [cl_nI (by omega), hl1.2.2.1]
        exact nI_le (Nat.le_refl _) (by omega)
    | succ m ih =>
      intro i μ1 pix him hfr s842 s841 hq
      have hi : i < ls.length := by omega
      have hl1 := mo_lits_fr hls0 hfr (by simp) (by simp) (by simp) (by simp)
      have hli := hl1.2.2.2 i hi
      have hps := ps_snoc ls hi
      have hpre := ps_pre ls (i + 1)
      have e5 : (5 : Int32) * nI r + nI i = nI (5 * r + i) := by rw [show (5 : Int32) = nI 5 from rfl, pk_mul, nI_add]
      refine h12 _ _ ⟨vp_in_nI hr17 (by omega), fun q => ?_, fun _ => ?_⟩
      · rw [cl_nI (by omega), hl1.2.2.1, nI_leI (by omega) (by omega)] at q
        omega
      · have l6 : (ls.getD i d_lit).1 ≤ 2 := hli.2.2.2.2.2.1
        rw [e5, cl_nI (by omega), hli.1]
        refine ⟨vp_in_nI (by omega) (by omega), fun q => ?_, fun q => ?_⟩
        · rw [show (0 : Int32) = nI 0 from rfl, nI_eq (by omega) (by omega)] at q
          rw [if_neg q] at hps
          rw [nI_1]
          refine ih (i + 1) μ1 pix (by omega) hfr s842 (by rw [hps]; exact s841) (fun q' hq' => ?_)
          rw [hps] at hq' ⊢
          obtain ⟨a, j, hj, hp⟩ := hq q' hq'
          exact ⟨a, j, by omega, hp⟩
        · rw [show (0 : Int32) = nI 0 from rfl, nI_eq (by omega) (by omega)] at q
          rw [if_pos q] at hps
          rw [hps, List.length_append, List.length_singleton] at hpre
          rw [s841]
          refine ⟨vp_in_nI (by omega) (by omega), fun μ2 f2 μ3 f3 => ?_⟩
          rw [cl_nI (by omega)] at f2
          rw [nI_1]
          refine ih (i + 1) μ3 (fun q' => if q' = (ps_of (ls.take i)).length then 5 * r + i else pix q') (by omega) (mo_fr_tr hfr (by rw [f3, f2]; exact mo_fr_tr (mo_fr_A (by simp)) (mo_fr_I (by simp)))) ?_ ?_ (fun q' hq' => ?_)
          · rw [f3, mu_I_sI, if_neg (by omega), f2, mu_I_sA]
            exact s842
          · rw [f3, mu_I_sI, if_pos rfl, f2, mu_I_sA, s841, nI_1, hps, List.length_append, List.length_singleton]
          · rw [hps] at hq' ⊢
            rw [List.length_append, List.length_singleton] at hq'
            rw [f3, mu_A_sI, f2, mu_A_sA, if_pos rfl, gd_snoc]
            by_cases g : q' = (ps_of (ls.take i)).length
            · subst g
              refine ⟨by simp [upd], i, by omega, by simp, ?_⟩
              rw [if_neg (by omega), if_pos rfl]
            · obtain ⟨a, j, hj, hp1, hp2⟩ := hq q' (by omega)
              refine ⟨?_, j, by omega, ?_, ?_⟩
              · simp only [upd, if_neg g]
                exact a
              · simp only [if_neg g]
                exact hp1
              · rw [if_pos (by omega)]
                exact hp2
  intro μ1 f1 μ2 f2
  refine loop ls.length 0 μ2 (fun _ => 0) (by omega) ?_ ?_ ?_ (fun q hq => by simp [ps_of] at hq)
  · rw [f2, f1]
    exact mo_fr_tr (mo_fr_I (by simp)) (mo_fr_I (by simp))
  · rw [f2, mu_I_sI, if_neg (by omega), f1, mu_I_sI, if_pos rfl]
  · rw [f2, mu_I_sI, if_pos rfl]
    simp [ps_of, nI_0]
/-- behind begin all solutions are to come -/
theorem rem_begin {S : Nat → List Nat} {ls : List lit_T} : remK S (ps_of ls) (fun _ => ev0) (fun _ => 0) 1 = sols S (ps_of ls) ev0 := by
  unfold remK
  by_cases h : 1 ≤ (ps_of ls).length
  · rw [if_pos h]
    simp only [remD, List.append_nil, List.drop_zero]
    cases hp : ps_of ls with
    | nil =>
      rw [hp] at h
      simp at h
    | cons l r =>
      refine solsC_0 S l r ev0 (ps_pos (ls := ls) ?_)
      rw [hp]
      exact List.mem_cons_self
  · have hp : ps_of ls = [] := List.length_eq_zero_iff.mp (by omega)
    rw [if_neg h, hp]
    rfl
