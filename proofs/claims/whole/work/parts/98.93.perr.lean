/-! A FAULT HAS A KIND -/
theorem tak_k {t : tx_T} {s q : Nat} {e : ft_T} (h : tak t s q = .error e) : 1 ≤ e.1 ∧ e.1 ≤ 5 := by
  unfold tak at h
  split at h
  · cases h
  · rw [← Except.error.inj h]; exact ⟨(by decide : 1 ≤ 1), (by decide : 1 ≤ 5)⟩
theorem trm_k {t : tx_T} {lt : Nat → Bool} {q : Nat} {e : ft_T} (h : trm t lt q = .error e) : 1 ≤ e.1 ∧ e.1 ≤ 5 := by
  unfold trm at h
  split at h
  · split at h
    · cases h
    · rw [← Except.error.inj h]; exact ⟨(by decide : 1 ≤ 3), (by decide : 3 ≤ 5)⟩
  · split at h
    · cases h
    · rw [← Except.error.inj h]; exact ⟨(by decide : 1 ≤ 1), (by decide : 1 ≤ 5)⟩
theorem tms_k {t : tx_T} {hd : Bool} : ∀ (k : Nat) {acc : List Nat} {lt : Nat → Bool} {q : Nat} {e : ft_T}, tms t hd k acc lt q = .error e → 1 ≤ e.1 ∧ e.1 ≤ 5
  | 0, acc, lt, q, e, h => by unfold tms at h; cases h
  | k + 1, acc, lt, q, e, h => by
    unfold tms at h
    split at h
    · cases h
    · split at h
      · rename_i e' he
        rw [← Except.error.inj h]; exact trm_k he
      · split at h
        · exact tms_k k h
        · cases h
theorem atm_k {t : tx_T} {hd : Bool} {nm A : List Nat} {lt : Nat → Bool} {q : Nat} {e : ft_T} (h : atm t hd nm A lt q = .error e) : 1 ≤ e.1 ∧ e.1 ≤ 5 := by
  unfold atm at h
  split at h
  · rename_i e' he
    rw [← Except.error.inj h]
    unfold rel at he
    split at he
    · split at he
      · cases he
      · split at he
        · rw [← Except.error.inj he]; exact ⟨(by decide : 1 ≤ 3), (by decide : 3 ≤ 5)⟩
        · cases he
    · rw [← Except.error.inj he]; exact ⟨(by decide : 1 ≤ 1), (by decide : 1 ≤ 5)⟩
  · unfold arg at h
    split at h
    · rename_i e' he
      rw [← Except.error.inj h]; exact tak_k he
    · split at h
      · rename_i e' he
        rw [← Except.error.inj h]; exact tms_k 3 he
      · split at h
        · split at h
          · rw [← Except.error.inj h]; exact ⟨(by decide : 1 ≤ 2), (by decide : 2 ≤ 5)⟩
          · cases h
        · rw [← Except.error.inj h]; exact ⟨(by decide : 1 ≤ 1), (by decide : 1 ≤ 5)⟩
theorem nmd_k {t : tx_T} {k : Nat} {nm A : List Nat} {lt : Nat → Bool} {q : Nat} {e : ft_T} (h : nmd t k nm A lt q = .error e) : 1 ≤ e.1 ∧ e.1 ≤ 5 := by
  unfold nmd at h
  split at h
  · rename_i e' he
    rw [← Except.error.inj h]; exact atm_k he
  · cases h
theorem cnd_k {t : tx_T} {nm A : List Nat} {lt : Nat → Bool} {q : Nat} {e : ft_T} (h : cnd t nm A lt q = .error e) : 1 ≤ e.1 ∧ e.1 ≤ 5 := by
  unfold cnd at h
  split at h
  · rename_i e' he
    rw [← Except.error.inj h]; exact trm_k he
  · split at h
    · split at h
      · rename_i e' he
        rw [← Except.error.inj h]; exact trm_k he
      · cases h
    · rw [← Except.error.inj h]; exact ⟨(by decide : 1 ≤ 1), (by decide : 1 ≤ 5)⟩
theorem ltl_k {t : tx_T} {ls : List lit_T} {nm A : List Nat} {lt : Nat → Bool} {q : Nat} {e : ft_T} (h : ltl t ls nm A lt q = .error e) : 1 ≤ e.1 ∧ e.1 ≤ 5 := by
  unfold ltl at h
  split at h
  · split at h
    · rw [← Except.error.inj h]; exact ⟨(by decide : 1 ≤ 3), (by decide : 3 ≤ 5)⟩
    · split at h
      · exact nmd_k h
      · split at h
        · exact nmd_k h
        · exact cnd_k h
  · rw [← Except.error.inj h]; exact ⟨(by decide : 1 ≤ 1), (by decide : 1 ≤ 5)⟩
theorem lls_k {t : tx_T} : ∀ (k : Nat) {ls : List lit_T} {nm A : List Nat} {lt : Nat → Bool} {q : Nat} {e : ft_T}, lls t k ls nm A lt q = .error e → 1 ≤ e.1 ∧ e.1 ≤ 5
  | 0, ls, nm, A, lt, q, e, h => by
    unfold lls at h
    rw [← Except.error.inj h]; exact ⟨(by decide : 1 ≤ 3), (by decide : 3 ≤ 5)⟩
  | k + 1, ls, nm, A, lt, q, e, h => by
    unfold lls at h
    split at h
    · rename_i e' he
      rw [← Except.error.inj h]; exact ltl_k he
    · split at h
      · exact lls_k k h
      · cases h
theorem cls_k {t : tx_T} {rs : List ru_T} {g : an_T} {b : ll_T} {e : ft_T} (h : cls t rs g b = .error e) : 1 ≤ e.1 ∧ e.1 ≤ 5 := by
  unfold cls at h
  split at h
  · split at h
    · rw [← Except.error.inj h]; exact ⟨(by decide : 1 ≤ 4), (by decide : 4 ≤ 5)⟩
    · split at h
      · rw [← Except.error.inj h]; exact ⟨(by decide : 1 ≤ 5), (by decide : 5 ≤ 5)⟩
      · cases h
  · rw [← Except.error.inj h]; exact ⟨(by decide : 1 ≤ 1), (by decide : 1 ≤ 5)⟩
theorem rul_k {t : tx_T} {rs : List ru_T} {nm A : List Nat} {q : Nat} {e : ft_T} (h : rul t rs nm A q = .error e) : 1 ≤ e.1 ∧ e.1 ≤ 5 := by
  unfold rul at h
  split at h
  · rw [← Except.error.inj h]; exact ⟨(by decide : 1 ≤ 3), (by decide : 3 ≤ 5)⟩
  · split at h
    · rename_i e' he
      rw [← Except.error.inj h]; exact atm_k he
    · split at h
      · split at h
        · rename_i e' he
          rw [← Except.error.inj h]; exact tak_k he
        · split at h
          · rename_i e' he
            rw [← Except.error.inj h]; exact lls_k 6 he
          · exact cls_k h
      · exact cls_k h
theorem prs_k {t : tx_T} : ∀ (k : Nat) {rs : List ru_T} {nm A : List Nat} {q : Nat} {e : ft_T}, prs t k rs nm A q = .error e → 1 ≤ e.1 ∧ e.1 ≤ 5
  | 0, rs, nm, A, q, e, h => by unfold prs at h; cases h
  | k + 1, rs, nm, A, q, e, h => by
    unfold prs at h
    split at h
    · split at h
      · rename_i e' he
        rw [← Except.error.inj h]; exact rul_k he
      · exact prs_k k h
    · cases h
theorem parse_k {t : tx_T} {e : ft_T} (h : parse t = .error e) : 1 ≤ e.1 ∧ e.1 ≤ 5 := prs_k 17 h
/-- no rules, no names -/
theorem prs_0 {t : tx_T} : ∀ (k : Nat) {rs : List ru_T} {nm A : List Nat} {q : Nat} {p : pp_T}, prs t k rs nm A q = .ok p → rs.length ≤ p.rs.length ∧ (p.rs.length = rs.length → p.nm = nm)
  | 0, rs, nm, A, q, p, h => by
    unfold prs at h
    rw [← Except.ok.inj h]
    exact ⟨Nat.le_refl _, fun _ => rfl⟩
  | k + 1, rs, nm, A, q, p, h => by
    unfold prs at h
    split at h
    · split at h
      · cases h
      · rename_i r hr
        have := (prs_0 k h).1
        rw [List.length_append] at this
        have this : rs.length + 1 ≤ p.rs.length := this
        exact ⟨by omega, fun z => by omega⟩
    · rw [← Except.ok.inj h]
      exact ⟨Nat.le_refl _, fun _ => rfl⟩
theorem parse_0 {t : tx_T} {p : pp_T} (h : parse t = .ok p) (h0 : p.rs = []) : p.nm = [] := (prs_0 17 h).2 (by rw [h0])
