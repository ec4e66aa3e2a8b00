/-- names and how many terms they have -/
def nms (nm A : List Nat) (μ : mo_U) : Prop := (μ.1 817 = nI nm.length) ∧ (nm.length ≤ 8) ∧ (A.length = nm.length) ∧ (∀ k, k < nm.length → μ.2 34 k = nI (nm.getD k 0)) ∧ (∀ k, k < nm.length → μ.2 35 k = nI (A.getD k 0)) ∧ (∀ x ∈ nm, 97 ≤ x ∧ x ≤ 122) ∧ (nm.Nodup) ∧ (∀ k, A.getD k 0 ≤ 3)
theorem nms.n {nm A : List Nat} {μ : mo_U} (h' : nms nm A μ) : μ.1 817 = nI nm.length := h'.1
theorem nms.n8 {nm A : List Nat} {μ : mo_U} (h' : nms nm A μ) : nm.length ≤ 8 := h'.2.1
theorem nms.al {nm A : List Nat} {μ : mo_U} (h' : nms nm A μ) : A.length = nm.length := h'.2.2.1
theorem nms.s {nm A : List Nat} {μ : mo_U} (h' : nms nm A μ) : ∀ k, k < nm.length → μ.2 34 k = nI (nm.getD k 0) := h'.2.2.2.1
theorem nms.a {nm A : List Nat} {μ : mo_U} (h' : nms nm A μ) : ∀ k, k < nm.length → μ.2 35 k = nI (A.getD k 0) := h'.2.2.2.2.1
theorem nms.r {nm A : List Nat} {μ : mo_U} (h' : nms nm A μ) : ∀ x ∈ nm, 97 ≤ x ∧ x ≤ 122 := h'.2.2.2.2.2.1
theorem nms.d {nm A : List Nat} {μ : mo_U} (h' : nms nm A μ) : nm.Nodup := h'.2.2.2.2.2.2.1
theorem nms.a3 {nm A : List Nat} {μ : mo_U} (h' : nms nm A μ) : ∀ k, A.getD k 0 ≤ 3 := h'.2.2.2.2.2.2.2
theorem nms_fr {nm A : List Nat} {μ μ' : mo_U} {ts fs : List Nat} (h : nms nm A μ) (hf : mo_fr ts fs μ μ') (h1 : 34 ∉ ts) (h2 : 35 ∉ ts) (h3 : 817 ∉ fs) : nms nm A μ' := ⟨by rw [hf.2 817 h3]; exact h.n, h.n8, h.al, fun k hk => by rw [hf.1 34 h1]; exact h.s k hk, fun k hk => by rw [hf.1 35 h2]; exact h.a k hk, h.r, h.d, h.a3⟩
theorem gd_sn {l : List Nat} {x j : Nat} (d : Nat) : (l ++ [x]).getD j d = if j = l.length then x else l.getD j d := by
  rw [List.getD_eq_getElem?_getD, List.getD_eq_getElem?_getD]
  by_cases z : j = l.length
  · rw [if_pos z, List.getElem?_append_right (by omega), z, Nat.sub_self]; rfl
  · rw [if_neg z]
    by_cases y : j < l.length
    · rw [List.getElem?_append_left y]
    · rw [List.getElem?_eq_none (by rw [List.length_append]; show l.length + 1 ≤ j; omega), List.getElem?_eq_none (by omega)]
theorem rel_ok {t : tx_T} {nm A : List Nat} {q : Nat} {g : rg_T} (h8 : nm.length ≤ 8) (h : rel t nm A q = .ok g) : g.i < g.nm.length ∧ g.i < 8 ∧ q < t.n ∧ g.q = nxt t (q + 1) := by
  unfold rel at h
  split at h
  · rename_i hs
    have hq : q < t.n := by
      unfold sg at hs
      split at hs
      · assumption
      · omega
    split at h
    · rename_i hi
      have := Except.ok.inj h
      rw [← this]
      exact ⟨hi, by show nm.idxOf (sg t q) < 8; omega, hq, rfl⟩
    · split at h
      · cases h
      · have := Except.ok.inj h
        rw [← this]
        refine ⟨?_, by show nm.length < 8; omega, hq, rfl⟩
        show nm.length < (nm ++ [sg t q]).length
        rw [List.length_append]
        show nm.length < nm.length + 1
        omega
  · cases h
theorem ref_rel {t : tx_T} {μ : mo_U} {q : Nat} {nm A : List Nat} (h0 : rs0 t μ q) (hn : nms nm A μ) (Q : Int32 → mo_U → Prop) (h1 : ∀ g μ', rel t nm A q = .ok g → rs0 t μ' g.q → nms g.nm g.A μ' → mo_fr [34, 35, 36] [805, 817] μ μ' → (∀ k, k < g.nm.length → μ'.2 36 k = if k < nm.length then μ.2 36 k else 0) → Q (nI g.i) μ') (h2 : ∀ e μ', rel t nm A q = .error e → rsF t e μ' → mo_fr [] [806, 807] μ μ' → Q 0 μ') : mp_relationAt μ Q := by
  intro X21 X123 h21 h123
  have hok := h0.k.ok
  have hs := sg_ok hok q
  have n8 := hn.n8
  have hidx := List.idxOf_le_length (l := nm) (a := sg t q)
  refine ref_sign h0.k h0.q h0.a _ (ref_isName hs _ (fun hN => ⟨fun _ => ?_, fun z => absurd z (by decide)⟩) (fun hN => ⟨fun z => absurd rfl z, fun _ => ref_wrong (k := 1) h0 (by decide) _ (fun μ1 hF fr => h2 (1, q) μ1 (by unfold rel; rw [if_neg hN]) hF fr)⟩))
  have hq : q < t.n := by
    unfold sg at hN
    split at hN
    · assumption
    · omega
  have es : sI (sg t q) = nI (sg t q) := by unfold sI; rw [if_neg (by omega)]
  have main : ∀ k i, i + k = nm.length → X21 (if nm.idxOf (sg t q) < i then nI (nm.idxOf (sg t q)) else -1) (nI i) μ := by
    intro k
    induction k with
    | zero =>
      intro i hi
      refine h21 _ _ _ ?_
      rw [hn.n]
      refine ⟨fun _ => ?_, fun z => absurd (nI_le (by omega) (by omega)) z⟩
      by_cases z : nm.idxOf (sg t q) < i
      · rw [if_pos z]
        refine ⟨fun _ => h123 _ _ (fun μ1 e1 => ?_), fun w => absurd w (ov_m1 (by omega))⟩
        rw [h0.a, nI_1] at e1
        have fr1 : mo_fr [] [805] μ μ1 := by rw [e1]; exact fr_sI (by decide) _
        refine h1 ⟨nm.idxOf (sg t q), nm, A, nxt t (q + 1)⟩ μ1 ?_ (rs0_st h0 hq e1) (nms_fr hn fr1 (by decide) (by decide) (by decide)) (fr_mono fr1 (by decide) (by decide)) (fun k hk => ?_)
        · unfold rel
          rw [if_pos hN, if_pos (by omega)]
        · have hk : k < nm.length := hk
          rw [if_pos hk, fr1.1 36 (by decide)]
      · rw [if_neg z]
        have hni : ¬ nm.idxOf (sg t q) < nm.length := by omega
        refine ⟨fun w => absurd rfl w, fun _ => ?_⟩
        rw [show (8 : Int32) = nI 8 from rfl, nI_eq (by omega) (by decide)]
        refine ⟨fun hne => ref_sign h0.k h0.q h0.a _ ?_, fun h8 => ref_wrong (k := 3) h0 (by decide) _ (fun μ1 hF fr => h2 (3, q) μ1 (by unfold rel; rw [if_pos hN, if_neg hni, if_pos h8]) hF fr)⟩
        rw [cl_nI (by omega)]
        refine ⟨vp_in_nI (by omega) (by decide), fun μ1 e1 => ?_⟩
        have a1 : μ1.1 817 = nI nm.length := by rw [e1]; exact hn.n
        rw [a1, cl_nI (by omega)]
        refine ⟨vp_in_nI (by omega) (by decide), fun μ2 e2 => ?_⟩
        have a2 : μ2.1 817 = nI nm.length := by rw [e2]; exact a1
        rw [a2, cl_nI (by omega)]
        refine ⟨vp_in_nI (by omega) (by decide), fun μ3 e3 μ4 e4 => h123 _ _ (fun μ5 e5 => ?_)⟩
        have a3 : μ3.1 817 = nI nm.length := by rw [e3]; exact a2
        rw [a3, nI_1] at e4
        have fr4 : mo_fr [34, 35, 36] [817] μ μ4 := by
          rw [e4, e3, e2, e1]
          exact mo_fr_tr (fr_sA (by decide) _) (mo_fr_tr (fr_sA (by decide) _) (mo_fr_tr (fr_sA (by decide) _) (fr_sI (by decide) _)))
        have h04 : rs0 t μ4 q := rs0_fr h0 fr4 (by decide) (by decide) (by decide) (by decide) (by decide)
        rw [h04.a, nI_1] at e5
        have fr5 : mo_fr [] [805] μ4 μ5 := by rw [e5]; exact fr_sI (by decide) _
        have x34 : ∀ j, μ5.2 34 j = if j = nm.length then nI (sg t q) else μ.2 34 j := fun j => by
          rw [e5, e4, e3, e2, e1, es]; rfl
        have x35 : ∀ j, μ5.2 35 j = if j = nm.length then 0 else μ.2 35 j := fun j => by
          rw [e5, e4, e3, e2, e1]; rfl
        have x36 : ∀ j, μ5.2 36 j = if j = nm.length then 0 else μ.2 36 j := fun j => by
          rw [e5, e4, e3, e2, e1]; rfl
        have hl : (nm ++ [sg t q]).length = nm.length + 1 := by rw [List.length_append]; rfl
        have hnin : sg t q ∉ nm := fun z => hni (List.idxOf_lt_length_of_mem z)
        refine h1 ⟨nm.length, nm ++ [sg t q], A ++ [0], nxt t (q + 1)⟩ μ5 ?_ (rs0_st h04 hq e5) ⟨?_, ?_, ?_, fun k hk => ?_, fun k hk => ?_, fun x hx => ?_, ?_, fun k => ?_⟩ (mo_fr_tr (fr_mono fr4 (by decide) (by decide)) (fr_mono fr5 (by decide) (by decide))) (fun k hk => ?_)
        · unfold rel
          rw [if_pos hN, if_neg hni, if_neg hne]
        · rw [fr5.2 817 (by decide), e4, mu_I_sI, if_pos rfl, hl]
        · show (nm ++ [sg t q]).length ≤ 8
          omega
        · show (A ++ [0]).length = (nm ++ [sg t q]).length
          rw [hl, List.length_append, hn.al]; rfl
        · have hk : k < (nm ++ [sg t q]).length := hk
          rw [x34]
          show _ = nI ((nm ++ [sg t q]).getD k 0)
          rw [gd_sn]
          by_cases y : k = nm.length
          · rw [if_pos y, if_pos y]
          · rw [if_neg y, if_neg y]; exact hn.s k (by omega)
        · have hk : k < (nm ++ [sg t q]).length := hk
          rw [x35]
          show _ = nI ((A ++ [0]).getD k 0)
          rw [gd_sn, hn.al]
          by_cases y : k = nm.length
          · rw [if_pos y, if_pos y]; rfl
          · rw [if_neg y, if_neg y]; exact hn.a k (by omega)
        · rcases List.mem_append.mp hx with y | y
          · exact hn.r x y
          · rw [List.mem_singleton.mp y]; exact hN
        · exact List.nodup_append.mpr ⟨hn.d, by simp, fun a ha b hb e => hnin (by rw [← List.mem_singleton.mp hb, ← e]; exact ha)⟩
        · show (A ++ [0]).getD k 0 ≤ 3
          rw [gd_sn]
          split
          · omega
          · exact hn.a3 k
        · have hk : k < (nm ++ [sg t q]).length := hk
          rw [x36]
          by_cases y : k = nm.length
          · rw [if_pos y, if_neg (by omega)]
          · rw [if_neg y, if_pos (by omega)]
    | succ k ih =>
      intro i hi
      refine h21 _ _ _ ?_
      rw [hn.n]
      refine ⟨fun z => absurd z (nI_ge (by omega) (by omega)), fun _ => ⟨vp_in_nI (by omega) (by decide), ref_sign h0.k h0.q h0.a _ ?_⟩⟩
      have hil : i < nm.length := by omega
      have hgd : nm.getD i 0 = nm[i] := gd_eq _ _ hil
      have hrr := hn.r nm[i] (List.getElem_mem hil)
      rw [cl_nI (by omega), hn.s i hil, es, nI_eq (by rw [hgd]; omega) (by omega), nI_1, hgd]
      refine ⟨fun hne => ?_, fun he => ?_⟩
      · have := ih (i + 1) (by omega)
        have hx : nm.idxOf (sg t q) ≠ i := fun z => hne (by
          have := List.getElem_idxOf (xs := nm) (x := sg t q) (by omega)
          rw [← this]
          congr 1
          exact z.symm)
        by_cases y : nm.idxOf (sg t q) < i
        · rw [if_pos y]
          rw [if_pos (by omega)] at this
          exact this
        · rw [if_neg y]
          rw [if_neg (by omega)] at this
          exact this
      · have := ih (i + 1) (by omega)
        have hx : nm.idxOf (sg t q) = i := by
          rw [← he]
          exact hn.d.idxOf_getElem i hil
        rw [hx, if_pos (by omega)] at this
        exact this
  have := main nm.length 0 (by omega)
  rw [if_neg (Nat.not_lt_zero _)] at this
  exact this
