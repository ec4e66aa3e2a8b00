def arg_R (t : tx_T) (hd : Bool) (L0 : Nat → Prop) (g : rg_T) (an : an_T) : Prop := (an.l.length ≤ 3) ∧ (1 ≤ an.l.length) ∧ (plc t an.q) ∧ (an.c = true → hd = true ∧ ∃ l', an.l = l' ++ [99] ∧ ∀ x ∈ l', tOK x) ∧ (an.c = false → ∀ x ∈ an.l, tOK x) ∧ (∀ k, k < 26 → (an.lt k = true ↔ L0 k ∨ k ∈ an.l)) ∧ (rk an.lt 26 ≤ 6) ∧ (an.i = g.i) ∧ (an.nm = g.nm) ∧ (an.A = g.A.set g.i an.l.length) ∧ (g.A.getD g.i 0 = 0 ∨ g.A.getD g.i 0 = an.l.length)
theorem arg_R.n3 {t : tx_T} {hd : Bool} {L0 : Nat → Prop} {g : rg_T} {an : an_T} (h' : arg_R t hd L0 g an) : an.l.length ≤ 3 := h'.1
theorem arg_R.n1 {t : tx_T} {hd : Bool} {L0 : Nat → Prop} {g : rg_T} {an : an_T} (h' : arg_R t hd L0 g an) : 1 ≤ an.l.length := h'.2.1
theorem arg_R.q {t : tx_T} {hd : Bool} {L0 : Nat → Prop} {g : rg_T} {an : an_T} (h' : arg_R t hd L0 g an) : plc t an.q := h'.2.2.1
theorem arg_R.m {t : tx_T} {hd : Bool} {L0 : Nat → Prop} {g : rg_T} {an : an_T} (h' : arg_R t hd L0 g an) : an.c = true → hd = true ∧ ∃ l', an.l = l' ++ [99] ∧ ∀ x ∈ l', tOK x := h'.2.2.2.1
theorem arg_R.p {t : tx_T} {hd : Bool} {L0 : Nat → Prop} {g : rg_T} {an : an_T} (h' : arg_R t hd L0 g an) : an.c = false → ∀ x ∈ an.l, tOK x := h'.2.2.2.2.1
theorem arg_R.lt {t : tx_T} {hd : Bool} {L0 : Nat → Prop} {g : rg_T} {an : an_T} (h' : arg_R t hd L0 g an) : ∀ k, k < 26 → (an.lt k = true ↔ L0 k ∨ k ∈ an.l) := h'.2.2.2.2.2.1
theorem arg_R.r {t : tx_T} {hd : Bool} {L0 : Nat → Prop} {g : rg_T} {an : an_T} (h' : arg_R t hd L0 g an) : rk an.lt 26 ≤ 6 := h'.2.2.2.2.2.2.1
theorem arg_R.i {t : tx_T} {hd : Bool} {L0 : Nat → Prop} {g : rg_T} {an : an_T} (h' : arg_R t hd L0 g an) : an.i = g.i := h'.2.2.2.2.2.2.2.1
theorem arg_R.nm {t : tx_T} {hd : Bool} {L0 : Nat → Prop} {g : rg_T} {an : an_T} (h' : arg_R t hd L0 g an) : an.nm = g.nm := h'.2.2.2.2.2.2.2.2.1
theorem arg_R.A {t : tx_T} {hd : Bool} {L0 : Nat → Prop} {g : rg_T} {an : an_T} (h' : arg_R t hd L0 g an) : an.A = g.A.set g.i an.l.length := h'.2.2.2.2.2.2.2.2.2.1
theorem arg_R.a {t : tx_T} {hd : Bool} {L0 : Nat → Prop} {g : rg_T} {an : an_T} (h' : arg_R t hd L0 g an) : g.A.getD g.i 0 = 0 ∨ g.A.getD g.i 0 = an.l.length := h'.2.2.2.2.2.2.2.2.2.2
theorem arg_ok {t : tx_T} {hd : Bool} {L0 : Nat → Prop} {g : rg_T} {lt : Nat → Bool} {an : an_T} (hl : ∀ k, k < 26 → (lt k = true ↔ L0 k)) (h6 : rk lt 26 ≤ 6) (h : arg t hd g lt = .ok an) : arg_R t hd L0 g an := by
  unfold arg at h
  split at h
  · cases h
  · rename_i q1 hq1
    have hp1 : plc t q1 := by
      unfold tak at hq1
      split at hq1
      · rename_i h40
        rw [← Except.ok.inj hq1]
        exact plc_st (sg_lt h40 (by decide))
      · cases hq1
    split at h
    · cases h
    · rename_i s hs
      have hT := tms_ok (L0 := L0) 2 (acc := []) rfl hp1 (fun x hx => absurd hx List.not_mem_nil) (fun j hj => by rw [hl j hj]; exact ⟨fun z => Or.inl z, fun z => z.elim id (fun y => absurd y List.not_mem_nil)⟩) h6 hs
      split at h
      · rename_i h41
        split at h
        · cases h
        · rename_i hno
          have e := Except.ok.inj h
          rw [← e]
          refine ⟨hT.n3, hT.n1, plc_st (sg_lt h41 (by decide)), hT.m, hT.p, hT.lt, hT.r, rfl, rfl, rfl, ?_⟩
          by_cases z : g.A.getD g.i 0 = 0
          · exact Or.inl z
          · by_cases y : g.A.getD g.i 0 = s.l.length
            · exact Or.inr y
            · exact absurd ⟨z, y⟩ hno
      · cases h
theorem tOK_gd {l : List Nat} (h : ∀ x ∈ l, tOK x) (j : Nat) : tOK (l.getD j 100) := by
  rw [List.getD_eq_getElem?_getD]
  by_cases z : j < l.length
  · rw [List.getElem?_eq_getElem z]
    exact h _ (List.getElem_mem z)
  · rw [List.getElem?_eq_none (by omega)]
    exact Or.inr ⟨Nat.le_refl _, by decide⟩
theorem tOK_3 {l : List Nat} (h : ∀ x ∈ l, tOK x) : tm3_ok (tm3 l) ∧ no_mark (tm3 l) := by
  have g : ∀ j, l.getD j 100 < 1100 ∧ (l.getD j 100 < 26 ∨ 100 ≤ l.getD j 100) := fun j => by
    rcases tOK_gd h j with z | z <;> omega
  exact ⟨⟨(g 0).1, (g 1).1, (g 2).1⟩, (g 0).2, (g 1).2, (g 2).2⟩
/-- reading stands in a rule's body -/
def rlS (t : tx_T) (ri : Nat) (ls : List lit_T) (nm A : List Nat) (lt : Nat → Bool) (q : Nat) (μ : mo_U) : Prop := (rs0 t μ q) ∧ (nms nm A μ) ∧ (mo_lits μ ri ls) ∧ (∀ k, k < 26 → bi (μ.2 33 ri) k = lt k) ∧ (rk lt 26 ≤ 6)
theorem rlS.s {t : tx_T} {ri : Nat} {ls : List lit_T} {nm A : List Nat} {lt : Nat → Bool} {q : Nat} {μ : mo_U} (h' : rlS t ri ls nm A lt q μ) : rs0 t μ q := h'.1
theorem rlS.n {t : tx_T} {ri : Nat} {ls : List lit_T} {nm A : List Nat} {lt : Nat → Bool} {q : Nat} {μ : mo_U} (h' : rlS t ri ls nm A lt q μ) : nms nm A μ := h'.2.1
theorem rlS.b {t : tx_T} {ri : Nat} {ls : List lit_T} {nm A : List Nat} {lt : Nat → Bool} {q : Nat} {μ : mo_U} (h' : rlS t ri ls nm A lt q μ) : mo_lits μ ri ls := h'.2.2.1
theorem rlS.l {t : tx_T} {ri : Nat} {ls : List lit_T} {nm A : List Nat} {lt : Nat → Bool} {q : Nat} {μ : mo_U} (h' : rlS t ri ls nm A lt q μ) : ∀ k, k < 26 → bi (μ.2 33 ri) k = lt k := h'.2.2.2.1
theorem rlS.r {t : tx_T} {ri : Nat} {ls : List lit_T} {nm A : List Nat} {lt : Nat → Bool} {q : Nat} {μ : mo_U} (h' : rlS t ri ls nm A lt q μ) : rk lt 26 ≤ 6 := h'.2.2.2.2
def LF (ri n n' : Nat) (μ μ' : mo_U) : Prop := (mo_fr [28, 29, 30, 31, 32, 33, 34, 35, 36] [805, 817] μ μ') ∧ (∀ j, j ≠ ri → μ'.2 28 j = μ.2 28 j) ∧ (∀ j, (j < 5 * ri ∨ 5 * ri + 5 ≤ j) → μ'.2 29 j = μ.2 29 j) ∧ (∀ j, (j < 5 * ri ∨ 5 * ri + 5 ≤ j) → μ'.2 30 j = μ.2 30 j) ∧ (∀ j, (j < 15 * ri ∨ 15 * ri + 15 ≤ j) → μ'.2 31 j = μ.2 31 j) ∧ (∀ j, j ≠ ri → μ'.2 33 j = μ.2 33 j) ∧ (μ'.2 32 = μ.2 32) ∧ (∀ k, k < n → μ'.2 36 k = μ.2 36 k) ∧ (∀ k, n ≤ k → k < n' → μ'.2 36 k = 0) ∧ (n ≤ n')
theorem LF.f {ri n n' : Nat} {μ μ' : mo_U} (h' : LF ri n n' μ μ') : mo_fr [28, 29, 30, 31, 32, 33, 34, 35, 36] [805, 817] μ μ' := h'.1
theorem LF.c28 {ri n n' : Nat} {μ μ' : mo_U} (h' : LF ri n n' μ μ') : ∀ j, j ≠ ri → μ'.2 28 j = μ.2 28 j := h'.2.1
theorem LF.c29 {ri n n' : Nat} {μ μ' : mo_U} (h' : LF ri n n' μ μ') : ∀ j, (j < 5 * ri ∨ 5 * ri + 5 ≤ j) → μ'.2 29 j = μ.2 29 j := h'.2.2.1
theorem LF.c30 {ri n n' : Nat} {μ μ' : mo_U} (h' : LF ri n n' μ μ') : ∀ j, (j < 5 * ri ∨ 5 * ri + 5 ≤ j) → μ'.2 30 j = μ.2 30 j := h'.2.2.2.1
theorem LF.c31 {ri n n' : Nat} {μ μ' : mo_U} (h' : LF ri n n' μ μ') : ∀ j, (j < 15 * ri ∨ 15 * ri + 15 ≤ j) → μ'.2 31 j = μ.2 31 j := h'.2.2.2.2.1
theorem LF.c33 {ri n n' : Nat} {μ μ' : mo_U} (h' : LF ri n n' μ μ') : ∀ j, j ≠ ri → μ'.2 33 j = μ.2 33 j := h'.2.2.2.2.2.1
theorem LF.c32 {ri n n' : Nat} {μ μ' : mo_U} (h' : LF ri n n' μ μ') : μ'.2 32 = μ.2 32 := h'.2.2.2.2.2.2.1
theorem LF.c36 {ri n n' : Nat} {μ μ' : mo_U} (h' : LF ri n n' μ μ') : ∀ k, k < n → μ'.2 36 k = μ.2 36 k := h'.2.2.2.2.2.2.2.1
theorem LF.v {ri n n' : Nat} {μ μ' : mo_U} (h' : LF ri n n' μ μ') : ∀ k, n ≤ k → k < n' → μ'.2 36 k = 0 := h'.2.2.2.2.2.2.2.2.1
theorem LF.nn {ri n n' : Nat} {μ μ' : mo_U} (h' : LF ri n n' μ μ') : n ≤ n' := h'.2.2.2.2.2.2.2.2.2
theorem nms_set {nm A : List Nat} {μ μ' : mo_U} {i x : Nat} (h : nms nm A μ) (hi : i < nm.length) (hx : x ≤ 3) (hf : mo_fr [27, 31, 32, 33, 35] [805] μ μ') (h1 : μ'.2 35 i = nI x) (h2 : ∀ j, j ≠ i → μ'.2 35 j = μ.2 35 j) : nms nm (A.set i x) μ' := by
  have hg : ∀ k, (A.set i x).getD k 0 = if k = i then x else A.getD k 0 := fun k => by
    rw [List.getD_eq_getElem?_getD, List.getD_eq_getElem?_getD, List.getElem?_set]
    have := h.al
    by_cases z : k = i
    · rw [if_pos z.symm, if_pos z, if_pos (by omega)]; rfl
    · rw [if_neg (fun y => z y.symm), if_neg z]
  refine ⟨by rw [hf.2 817 (by decide)]; exact h.n, h.n8, by rw [List.length_set]; exact h.al, fun k hk => by rw [hf.1 34 (by decide)]; exact h.s k hk, fun k hk => ?_, h.r, h.d, fun k => ?_⟩
  · rw [hg]
    by_cases z : k = i
    · rw [if_pos z, z]; exact h1
    · rw [if_neg z, h2 k z]; exact h.a k hk
  · rw [hg]
    split
    · exact hx
    · exact h.a3 k
theorem lit_sn {ls : List lit_T} {x : lit_T} {i : Nat} (hi : i < ls.length + 1) : (ls ++ [x]).getD i d_lit = if i = ls.length then x else ls.getD i d_lit := by
  rw [List.getD_eq_getElem?_getD, List.getD_eq_getElem?_getD]
  by_cases z : i = ls.length
  · rw [if_pos z, List.getElem?_append_right (by omega), z, Nat.sub_self]; rfl
  · rw [if_neg z, List.getElem?_append_left (by omega)]
