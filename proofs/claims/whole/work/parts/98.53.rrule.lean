theorem vin_tm3 {l : List Nat} (h : l.length ≤ 3) {k : Nat} (hk : k < 26) : vin3 (tm3 l) k ↔ k ∈ l := by
  have hg : ∀ j, l.getD j 100 = k → k ∈ l := fun j e => by
    rw [List.getD_eq_getElem?_getD] at e
    by_cases z : j < l.length
    · rw [List.getElem?_eq_getElem z] at e
      rw [← e]; exact List.getElem_mem z
    · rw [List.getElem?_eq_none (by omega)] at e
      exact absurd e (by show ¬ 100 = k; omega)
  constructor
  · rintro ⟨_, e | e | e⟩
    · exact hg 0 e
    · exact hg 1 e
    · exact hg 2 e
  · intro hm
    obtain ⟨j, hj, e⟩ := List.getElem_of_mem hm
    have e' : l.getD j 100 = k := by rw [gd_eq _ _ hj]; exact e
    refine ⟨hk, ?_⟩
    rcases (show j = 0 ∨ j = 1 ∨ j = 2 by omega) with rfl | rfl | rfl
    · exact Or.inl e'
    · exact Or.inr (Or.inl e')
    · exact Or.inr (Or.inr e')
/-- between the rules -/
def rsS (t : tx_T) (rs : List ru_T) (nm A : List Nat) (q : Nat) (μ : mo_U) : Prop := (rs0 t μ q) ∧ (nms nm A μ) ∧ (oldR rs μ) ∧ (μ.1 808 = nI rs.length) ∧ (∀ i, i < rs.length → mo_head μ i (rs.getD i d_ru).h (rs.getD i d_ru).ts) ∧ (∀ i, i < rs.length → mo_lits μ i (rs.getD i d_ru).ls) ∧ (∀ i, i < rs.length → ∀ k, k < 26 → bi (μ.2 33 i) k = vlt (rs.getD i d_ru).ls k) ∧ (∀ k, k < nm.length → μ.2 36 k = if rs.any (fun r => decide (r.h = k)) then 1 else 0) ∧ (∀ r ∈ rs, r.h < nm.length)
theorem rsS.s {t : tx_T} {rs : List ru_T} {nm A : List Nat} {q : Nat} {μ : mo_U} (h' : rsS t rs nm A q μ) : rs0 t μ q := h'.1
theorem rsS.n {t : tx_T} {rs : List ru_T} {nm A : List Nat} {q : Nat} {μ : mo_U} (h' : rsS t rs nm A q μ) : nms nm A μ := h'.2.1
theorem rsS.o {t : tx_T} {rs : List ru_T} {nm A : List Nat} {q : Nat} {μ : mo_U} (h' : rsS t rs nm A q μ) : oldR rs μ := h'.2.2.1
theorem rsS.m {t : tx_T} {rs : List ru_T} {nm A : List Nat} {q : Nat} {μ : mo_U} (h' : rsS t rs nm A q μ) : μ.1 808 = nI rs.length := h'.2.2.2.1
theorem rsS.hd {t : tx_T} {rs : List ru_T} {nm A : List Nat} {q : Nat} {μ : mo_U} (h' : rsS t rs nm A q μ) : ∀ i, i < rs.length → mo_head μ i (rs.getD i d_ru).h (rs.getD i d_ru).ts := h'.2.2.2.2.1
theorem rsS.ls {t : tx_T} {rs : List ru_T} {nm A : List Nat} {q : Nat} {μ : mo_U} (h' : rsS t rs nm A q μ) : ∀ i, i < rs.length → mo_lits μ i (rs.getD i d_ru).ls := h'.2.2.2.2.2.1
theorem rsS.l {t : tx_T} {rs : List ru_T} {nm A : List Nat} {q : Nat} {μ : mo_U} (h' : rsS t rs nm A q μ) : ∀ i, i < rs.length → ∀ k, k < 26 → bi (μ.2 33 i) k = vlt (rs.getD i d_ru).ls k := h'.2.2.2.2.2.2.1
theorem rsS.v {t : tx_T} {rs : List ru_T} {nm A : List Nat} {q : Nat} {μ : mo_U} (h' : rsS t rs nm A q μ) : ∀ k, k < nm.length → μ.2 36 k = if rs.any (fun r => decide (r.h = k)) then 1 else 0 := h'.2.2.2.2.2.2.2.1
theorem rsS.hn {t : tx_T} {rs : List ru_T} {nm A : List Nat} {q : Nat} {μ : mo_U} (h' : rsS t rs nm A q μ) : ∀ r ∈ rs, r.h < nm.length := h'.2.2.2.2.2.2.2.2
/-- behind a rule's head -/
def HB (t : tx_T) (rs : List ru_T) (nm : List Nat) (an : an_T) (b : ll_T) (μ μ' : mo_U) : Prop := (rlS t rs.length b.ls b.nm b.A b.lt b.q μ') ∧ (mo_fr pts [805, 817] μ μ') ∧ (μ'.2 26 rs.length = nI an.i) ∧ (∀ j, j ≠ rs.length → μ'.2 26 j = μ.2 26 j) ∧ (∀ j, j < 3 → μ'.2 27 (3 * rs.length + j) = nI (tmi (tm3 an.l) j)) ∧ (∀ j, j < 3 * rs.length → μ'.2 27 j = μ.2 27 j) ∧ (μ'.2 32 rs.length = if an.c then 1 else 0) ∧ (∀ j, j ≠ rs.length → μ'.2 32 j = μ.2 32 j) ∧ (∀ j, j ≠ rs.length → μ'.2 28 j = μ.2 28 j) ∧ (∀ j, j < 5 * rs.length → μ'.2 29 j = μ.2 29 j) ∧ (∀ j, j < 5 * rs.length → μ'.2 30 j = μ.2 30 j) ∧ (∀ j, j < 15 * rs.length → μ'.2 31 j = μ.2 31 j) ∧ (∀ j, j ≠ rs.length → μ'.2 33 j = μ.2 33 j) ∧ (∀ k, k < b.nm.length → μ'.2 36 k = if k < nm.length then μ.2 36 k else 0) ∧ (nm.length ≤ b.nm.length) ∧ (an.i < b.nm.length ∧ an.i < 8) ∧ (∀ k, k < 26 → (b.lt k = true ↔ k ∈ an.l ∨ ∃ l ∈ b.ls, vin3 l.2.2 k))
theorem HB.rl {t : tx_T} {rs : List ru_T} {nm : List Nat} {an : an_T} {b : ll_T} {μ μ' : mo_U} (h' : HB t rs nm an b μ μ') : rlS t rs.length b.ls b.nm b.A b.lt b.q μ' := h'.1
theorem HB.f {t : tx_T} {rs : List ru_T} {nm : List Nat} {an : an_T} {b : ll_T} {μ μ' : mo_U} (h' : HB t rs nm an b μ μ') : mo_fr pts [805, 817] μ μ' := h'.2.1
theorem HB.h26 {t : tx_T} {rs : List ru_T} {nm : List Nat} {an : an_T} {b : ll_T} {μ μ' : mo_U} (h' : HB t rs nm an b μ μ') : μ'.2 26 rs.length = nI an.i := h'.2.2.1
theorem HB.o26 {t : tx_T} {rs : List ru_T} {nm : List Nat} {an : an_T} {b : ll_T} {μ μ' : mo_U} (h' : HB t rs nm an b μ μ') : ∀ j, j ≠ rs.length → μ'.2 26 j = μ.2 26 j := h'.2.2.2.1
theorem HB.h27 {t : tx_T} {rs : List ru_T} {nm : List Nat} {an : an_T} {b : ll_T} {μ μ' : mo_U} (h' : HB t rs nm an b μ μ') : ∀ j, j < 3 → μ'.2 27 (3 * rs.length + j) = nI (tmi (tm3 an.l) j) := h'.2.2.2.2.1
theorem HB.o27 {t : tx_T} {rs : List ru_T} {nm : List Nat} {an : an_T} {b : ll_T} {μ μ' : mo_U} (h' : HB t rs nm an b μ μ') : ∀ j, j < 3 * rs.length → μ'.2 27 j = μ.2 27 j := h'.2.2.2.2.2.1
theorem HB.h32 {t : tx_T} {rs : List ru_T} {nm : List Nat} {an : an_T} {b : ll_T} {μ μ' : mo_U} (h' : HB t rs nm an b μ μ') : μ'.2 32 rs.length = if an.c then 1 else 0 := h'.2.2.2.2.2.2.1
theorem HB.o32 {t : tx_T} {rs : List ru_T} {nm : List Nat} {an : an_T} {b : ll_T} {μ μ' : mo_U} (h' : HB t rs nm an b μ μ') : ∀ j, j ≠ rs.length → μ'.2 32 j = μ.2 32 j := h'.2.2.2.2.2.2.2.1
theorem HB.c28 {t : tx_T} {rs : List ru_T} {nm : List Nat} {an : an_T} {b : ll_T} {μ μ' : mo_U} (h' : HB t rs nm an b μ μ') : ∀ j, j ≠ rs.length → μ'.2 28 j = μ.2 28 j := h'.2.2.2.2.2.2.2.2.1
theorem HB.c29 {t : tx_T} {rs : List ru_T} {nm : List Nat} {an : an_T} {b : ll_T} {μ μ' : mo_U} (h' : HB t rs nm an b μ μ') : ∀ j, j < 5 * rs.length → μ'.2 29 j = μ.2 29 j := h'.2.2.2.2.2.2.2.2.2.1
theorem HB.c30 {t : tx_T} {rs : List ru_T} {nm : List Nat} {an : an_T} {b : ll_T} {μ μ' : mo_U} (h' : HB t rs nm an b μ μ') : ∀ j, j < 5 * rs.length → μ'.2 30 j = μ.2 30 j := h'.2.2.2.2.2.2.2.2.2.2.1
theorem HB.c31 {t : tx_T} {rs : List ru_T} {nm : List Nat} {an : an_T} {b : ll_T} {μ μ' : mo_U} (h' : HB t rs nm an b μ μ') : ∀ j, j < 15 * rs.length → μ'.2 31 j = μ.2 31 j := h'.2.2.2.2.2.2.2.2.2.2.2.1
theorem HB.c33 {t : tx_T} {rs : List ru_T} {nm : List Nat} {an : an_T} {b : ll_T} {μ μ' : mo_U} (h' : HB t rs nm an b μ μ') : ∀ j, j ≠ rs.length → μ'.2 33 j = μ.2 33 j := h'.2.2.2.2.2.2.2.2.2.2.2.2.1
theorem HB.v {t : tx_T} {rs : List ru_T} {nm : List Nat} {an : an_T} {b : ll_T} {μ μ' : mo_U} (h' : HB t rs nm an b μ μ') : ∀ k, k < b.nm.length → μ'.2 36 k = if k < nm.length then μ.2 36 k else 0 := h'.2.2.2.2.2.2.2.2.2.2.2.2.2.1
theorem HB.nn {t : tx_T} {rs : List ru_T} {nm : List Nat} {an : an_T} {b : ll_T} {μ μ' : mo_U} (h' : HB t rs nm an b μ μ') : nm.length ≤ b.nm.length := h'.2.2.2.2.2.2.2.2.2.2.2.2.2.2.1
theorem HB.ai {t : tx_T} {rs : List ru_T} {nm : List Nat} {an : an_T} {b : ll_T} {μ μ' : mo_U} (h' : HB t rs nm an b μ μ') : an.i < b.nm.length ∧ an.i < 8 := h'.2.2.2.2.2.2.2.2.2.2.2.2.2.2.2.1
theorem HB.lt {t : tx_T} {rs : List ru_T} {nm : List Nat} {an : an_T} {b : ll_T} {μ μ' : mo_U} (h' : HB t rs nm an b μ μ') : ∀ k, k < 26 → (b.lt k = true ↔ k ∈ an.l ∨ ∃ l ∈ b.ls, vin3 l.2.2 k) := h'.2.2.2.2.2.2.2.2.2.2.2.2.2.2.2.2
theorem trm2_lt {t : tx_T} {lt : Nat → Bool} {nm A : List Nat} {q : Nat} {r : lr_T} (hq : plc t q) (h : cnd t nm A lt q = .ok r) : ∀ k, k < 26 → (r.lt k = true ↔ lt k = true ∨ vin3 r.l.2.2 k) := by
  unfold cnd at h
  split at h
  · cases h
  · rename_i r1 h1
    split at h
    · rename_i hop
      obtain ⟨t1, t2, t3, t4⟩ := trm_ok hq h1
      split at h
      · cases h
      · rename_i r2 h2
        obtain ⟨u1, u2, u3, u4⟩ := trm_ok (plc_st (sg_lt (rfl : sg t r1.q = sg t r1.q) (by omega))) h2
        rw [← Except.ok.inj h]
        intro k hk
        show r2.lt k = true ↔ lt k = true ∨ vin3 (tm3 [r1.x, r2.x]) k
        rw [u3 k hk, Bool.or_eq_true, decide_eq_true_iff, t3 k hk, Bool.or_eq_true, decide_eq_true_iff, vin_tm3 (l := [r1.x, r2.x]) (show 2 ≤ 3 by decide) hk, List.mem_cons, List.mem_singleton]
        constructor
        · rintro (e | e | e)
          · exact Or.inr (Or.inr e.symm)
          · exact Or.inr (Or.inl e.symm)
          · exact Or.inl e
        · rintro (e | e | e)
          · exact Or.inr (Or.inr e)
          · exact Or.inr (Or.inl e.symm)
          · exact Or.inl e.symm
    · cases h
theorem nmd_lt {t : tx_T} {k0 : Nat} {lt : Nat → Bool} {nm A : List Nat} {q : Nat} {r : lr_T} (h6 : rk lt 26 ≤ 6) (h : nmd t k0 nm A lt q = .ok r) : ∀ k, k < 26 → (r.lt k = true ↔ lt k = true ∨ vin3 r.l.2.2 k) := by
  unfold nmd at h
  split at h
  · cases h
  · rename_i g hg
    unfold atm at hg
    split at hg
    · cases hg
    · rename_i g0 hg0
      have hA := arg_ok (L0 := fun k => lt k = true) (fun k _ => Iff.rfl) h6 hg
      rw [← Except.ok.inj h]
      intro k hk
      show g.lt k = true ↔ lt k = true ∨ vin3 (tm3 g.l) k
      rw [hA.lt k hk, vin_tm3 hA.n3 hk]
theorem ltl_lt {t : tx_T} {ls : List lit_T} {lt : Nat → Bool} {nm A : List Nat} {q : Nat} {r : lr_T} (hq : plc t q) (h6 : rk lt 26 ≤ 6) (h : ltl t ls nm A lt q = .ok r) : ls.length ≠ 5 ∧ ∀ k, k < 26 → (r.lt k = true ↔ lt k = true ∨ vin3 r.l.2.2 k) := by
  unfold ltl at h
  split at h
  · split at h
    · cases h
    · rename_i hr
      refine ⟨fun z => hr (Or.inl z), ?_⟩
      split at h
      · exact nmd_lt h6 h
      · split at h
        · exact nmd_lt h6 h
        · exact trm2_lt hq h
  · cases h
theorem HB_lit {t : tx_T} {rs : List ru_T} {nm : List Nat} {an : an_T} {b : ll_T} {μ μ1 μ2 : mo_U} (h : HB t rs nm an b μ μ1) {r : lr_T} (hr : ltl t b.ls b.nm b.A b.lt b.q = .ok r) (hrl : rlS t rs.length (b.ls ++ [r.l]) r.nm r.A r.lt r.q μ2) (hF : LF rs.length b.nm.length r.nm.length μ1 μ2) : HB t rs nm an ⟨b.ls ++ [r.l], r.nm, r.A, r.lt, r.q⟩ μ μ2 := by
  have hl := (ltl_lt h.rl.s.q h.rl.r hr).2
  have nn := h.nn
  have fnn := hF.nn
  have hai := h.ai
  refine ⟨hrl, mo_fr_tr h.f (fr_mono hF.f (by decide) (by decide)), by rw [hF.f.1 26 (by decide)]; exact h.h26, fun j hj => by rw [hF.f.1 26 (by decide)]; exact h.o26 j hj, fun j hj => by rw [hF.f.1 27 (by decide)]; exact h.h27 j hj, fun j hj => by rw [hF.f.1 27 (by decide)]; exact h.o27 j hj, by rw [hF.c32]; exact h.h32, fun j hj => by rw [hF.c32]; exact h.o32 j hj, fun j hj => by rw [hF.c28 j hj]; exact h.c28 j hj, fun j hj => by rw [hF.c29 j (Or.inl hj)]; exact h.c29 j hj, fun j hj => by rw [hF.c30 j (Or.inl hj)]; exact h.c30 j hj, fun j hj => by rw [hF.c31 j (Or.inl hj)]; exact h.c31 j hj, fun j hj => by rw [hF.c33 j hj]; exact h.c33 j hj, fun k hk => ?_, by show nm.length ≤ r.nm.length; omega, ⟨by show an.i < r.nm.length; omega, hai.2⟩, fun k hk => ?_⟩
  · have hk : k < r.nm.length := hk
    by_cases z : k < b.nm.length
    · rw [hF.c36 k z]; exact h.v k z
    · rw [hF.v k (by omega) hk, if_neg (by omega)]
  · show r.lt k = true ↔ k ∈ an.l ∨ ∃ l ∈ b.ls ++ [r.l], vin3 l.2.2 k
    rw [hl k hk, h.lt k hk]
    constructor
    · rintro ((z | ⟨l, l1, l2⟩) | z)
      · exact Or.inl z
      · exact Or.inr ⟨l, List.mem_append_left _ l1, l2⟩
      · exact Or.inr ⟨r.l, List.mem_append_right _ (List.mem_singleton.mpr rfl), z⟩
    · rintro (z | ⟨l, l1, l2⟩)
      · exact Or.inl (Or.inl z)
      · rcases List.mem_append.mp l1 with y | y
        · exact Or.inl (Or.inr ⟨l, y, l2⟩)
        · rw [List.mem_singleton.mp y] at l2; exact Or.inr l2
