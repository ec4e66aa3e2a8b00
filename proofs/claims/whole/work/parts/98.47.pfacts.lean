def tOK (x : Nat) : Prop := x < 26 ∨ (100 ≤ x ∧ x < 1100)
theorem trm_ok {t : tx_T} {lt : Nat → Bool} {q : Nat} {r : tr_T} (hq : plc t q) (h : trm t lt q = .ok r) : tOK r.x ∧ plc t r.q ∧ (∀ k, k < 26 → r.lt k = (decide (r.x = k) || lt k)) ∧ (rk lt 26 ≤ 6 → rk r.lt 26 ≤ 6) := by
  unfold trm at h
  split at h
  · rename_i hv
    have hlt : q < t.n := by
      unfold sg at hv
      split at hv
      · assumption
      · omega
    split at h
    · rename_i hc
      have e := Except.ok.inj h
      rw [← e]
      refine ⟨Or.inl ?_, plc_st hlt, fun k hk => ?_, fun h6 => ?_⟩
      · show sg t q - 65 < 26
        omega
      · show (decide (k = sg t q - 65) || lt k) = (decide (sg t q - 65 = k) || lt k)
        rw [decide_eq_decide.mpr ⟨Eq.symm, Eq.symm⟩]
      · show rk (addl lt (sg t q - 65)) 26 ≤ 6
        have gen : ∀ n, rk (addl lt (sg t q - 65)) n ≤ rk lt n + (if lt (sg t q - 65) = true then 0 else if sg t q - 65 < n then 1 else 0) := fun n => by
          induction n with
          | zero => exact Nat.zero_le _
          | succ n ih =>
            show rk (addl lt (sg t q - 65)) n + (if addl lt (sg t q - 65) n = true then 1 else 0) ≤ rk lt n + (if lt n = true then 1 else 0) + _
            by_cases y : n = sg t q - 65
            · have ea : addl lt (sg t q - 65) n = true := by unfold addl; rw [decide_eq_true y]; rfl
              rw [if_pos ea]
              rw [← y] at ih ⊢
              by_cases w : lt n = true
              · rw [if_pos w] at ih ⊢; rw [if_pos w]; omega
              · rw [if_neg w] at ih ⊢
                rw [if_neg w, if_pos (by omega)]
                rw [if_neg (by omega)] at ih
                omega
            · have ea : addl lt (sg t q - 65) n = lt n := by unfold addl; rw [decide_eq_false y]; rfl
              rw [ea]
              by_cases w : lt (sg t q - 65) = true
              · rw [if_pos w] at ih ⊢; omega
              · rw [if_neg w] at ih ⊢
                by_cases x : sg t q - 65 < n
                · rw [if_pos x] at ih; rw [if_pos (show sg t q - 65 < n + 1 by omega)]; omega
                · rw [if_neg x] at ih; rw [if_neg (show ¬ sg t q - 65 < n + 1 by omega)]; omega
        have := gen 26
        rcases hc with w | w
        · rw [if_pos w] at this; omega
        · split at this
          · omega
          · split at this <;> omega
    · cases h
  · split at h
    · rename_i hv hd
      have hlt : q < t.n := by
        unfold sg at hd
        split at hd
        · assumption
        · omega
      have e := Except.ok.inj h
      rw [← e]
      have hb := num_bd t 3 0 q
      have h1 : (num t 3 0 q).1 < 1000 := by have := hb.1; omega
      refine ⟨Or.inr ⟨?_, ?_⟩, nxt_plc t (hb.2.2 (by omega)), fun k hk => ?_, fun h6 => h6⟩
      · show 100 ≤ 100 + _
        omega
      · show 100 + (num t 3 0 q).1 < 1100
        omega
      · show lt k = (decide (100 + (num t 3 0 q).1 = k) || lt k)
        rw [decide_eq_false (by omega)]
        rfl
    · cases h
def tms_R (t : tx_T) (hd : Bool) (L0 : Nat → Prop) (s : ts_T) : Prop := (s.l.length ≤ 3) ∧ (1 ≤ s.l.length) ∧ (plc t s.q) ∧ (s.c = true → hd = true ∧ ∃ l', s.l = l' ++ [99] ∧ ∀ x ∈ l', tOK x) ∧ (s.c = false → ∀ x ∈ s.l, tOK x) ∧ (∀ k, k < 26 → (s.lt k = true ↔ L0 k ∨ k ∈ s.l)) ∧ (rk s.lt 26 ≤ 6)
theorem tms_R.n3 {t : tx_T} {hd : Bool} {L0 : Nat → Prop} {s : ts_T} (h' : tms_R t hd L0 s) : s.l.length ≤ 3 := h'.1
theorem tms_R.n1 {t : tx_T} {hd : Bool} {L0 : Nat → Prop} {s : ts_T} (h' : tms_R t hd L0 s) : 1 ≤ s.l.length := h'.2.1
theorem tms_R.q {t : tx_T} {hd : Bool} {L0 : Nat → Prop} {s : ts_T} (h' : tms_R t hd L0 s) : plc t s.q := h'.2.2.1
theorem tms_R.m {t : tx_T} {hd : Bool} {L0 : Nat → Prop} {s : ts_T} (h' : tms_R t hd L0 s) : s.c = true → hd = true ∧ ∃ l', s.l = l' ++ [99] ∧ ∀ x ∈ l', tOK x := h'.2.2.2.1
theorem tms_R.p {t : tx_T} {hd : Bool} {L0 : Nat → Prop} {s : ts_T} (h' : tms_R t hd L0 s) : s.c = false → ∀ x ∈ s.l, tOK x := h'.2.2.2.2.1
theorem tms_R.lt {t : tx_T} {hd : Bool} {L0 : Nat → Prop} {s : ts_T} (h' : tms_R t hd L0 s) : ∀ k, k < 26 → (s.lt k = true ↔ L0 k ∨ k ∈ s.l) := h'.2.2.2.2.2.1
theorem tms_R.r {t : tx_T} {hd : Bool} {L0 : Nat → Prop} {s : ts_T} (h' : tms_R t hd L0 s) : rk s.lt 26 ≤ 6 := h'.2.2.2.2.2.2
theorem tms_ok {t : tx_T} {hd : Bool} {L0 : Nat → Prop} : ∀ (k : Nat) {acc : List Nat} {lt : Nat → Bool} {q : Nat} {s : ts_T}, acc.length + (k + 1) = 3 → plc t q → (∀ x ∈ acc, tOK x) → (∀ j, j < 26 → (lt j = true ↔ L0 j ∨ j ∈ acc)) → rk lt 26 ≤ 6 → tms t hd (k + 1) acc lt q = .ok s → tms_R t hd L0 s := by
  intro k
  induction k with
  | zero =>
    intro acc lt q s hk hq ha hl h6 h
    unfold tms at h
    split at h
    · rename_i hm
      have e := Except.ok.inj h
      rw [← e]
      have hlt : q < t.n := sg_lt hm.2 (by decide)
      refine ⟨?_, ?_, plc_st hlt, fun _ => ⟨hm.1, acc, rfl, ha⟩, fun z => absurd (show true = false from z) (by decide), fun j hj => ?_, h6⟩
      · show (acc ++ [99]).length ≤ 3
        rw [List.length_append]; show acc.length + 1 ≤ 3; omega
      · show 1 ≤ (acc ++ [99]).length
        rw [List.length_append]; show 1 ≤ acc.length + 1; omega
      · show lt j = true ↔ L0 j ∨ j ∈ acc ++ [99]
        rw [hl j hj, List.mem_append, List.mem_singleton]
        constructor
        · rintro (z | z)
          · exact Or.inl z
          · exact Or.inr (Or.inl z)
        · rintro (z | z | z)
          · exact Or.inl z
          · exact Or.inr z
          · omega
    · split at h
      · cases h
      · rename_i r hr
        rw [if_neg (fun z => z.1 rfl)] at h
        obtain ⟨t1, t2, t3, t4⟩ := trm_ok hq hr
        have e := Except.ok.inj h
        rw [← e]
        refine ⟨?_, ?_, t2, fun z => absurd (show false = true from z) (by decide), fun _ x hx => ?_, fun j hj => ?_, t4 h6⟩
        · show (acc ++ [r.x]).length ≤ 3
          rw [List.length_append]; show acc.length + 1 ≤ 3; omega
        · show 1 ≤ (acc ++ [r.x]).length
          rw [List.length_append]; show 1 ≤ acc.length + 1; omega
        · rcases List.mem_append.mp hx with z | z
          · exact ha x z
          · rw [List.mem_singleton.mp z]; exact t1
        · show r.lt j = true ↔ L0 j ∨ j ∈ acc ++ [r.x]
          rw [t3 j hj, Bool.or_eq_true, decide_eq_true_iff, hl j hj, List.mem_append, List.mem_singleton]
          constructor
          · rintro (z | z | z)
            · exact Or.inr (Or.inr z.symm)
            · exact Or.inl z
            · exact Or.inr (Or.inl z)
          · rintro (z | z | z)
            · exact Or.inr (Or.inl z)
            · exact Or.inr (Or.inr z)
            · exact Or.inl z.symm
  | succ k ih =>
    intro acc lt q s hk hq ha hl h6 h
    unfold tms at h
    split at h
    · rename_i hm
      have e := Except.ok.inj h
      rw [← e]
      have hlt : q < t.n := sg_lt hm.2 (by decide)
      refine ⟨?_, ?_, plc_st hlt, fun _ => ⟨hm.1, acc, rfl, ha⟩, fun z => absurd (show true = false from z) (by decide), fun j hj => ?_, h6⟩
      · show (acc ++ [99]).length ≤ 3
        rw [List.length_append]; show acc.length + 1 ≤ 3; omega
      · show 1 ≤ (acc ++ [99]).length
        rw [List.length_append]; show 1 ≤ acc.length + 1; omega
      · show lt j = true ↔ L0 j ∨ j ∈ acc ++ [99]
        rw [hl j hj, List.mem_append, List.mem_singleton]
        constructor
        · rintro (z | z)
          · exact Or.inl z
          · exact Or.inr (Or.inl z)
        · rintro (z | z | z)
          · exact Or.inl z
          · exact Or.inr z
          · omega
    · split at h
      · cases h
      · rename_i r hr
        obtain ⟨t1, t2, t3, t4⟩ := trm_ok hq hr
        have hl' : ∀ j, j < 26 → (r.lt j = true ↔ L0 j ∨ j ∈ acc ++ [r.x]) := fun j hj => by
          rw [t3 j hj, Bool.or_eq_true, decide_eq_true_iff, hl j hj, List.mem_append, List.mem_singleton]
          constructor
          · rintro (z | z | z)
            · exact Or.inr (Or.inr z.symm)
            · exact Or.inl z
            · exact Or.inr (Or.inl z)
          · rintro (z | z | z)
            · exact Or.inr (Or.inl z)
            · exact Or.inr (Or.inr z)
            · exact Or.inl z.symm
        have ha' : ∀ x ∈ acc ++ [r.x], tOK x := fun x hx => by
          rcases List.mem_append.mp hx with z | z
          · exact ha x z
          · rw [List.mem_singleton.mp z]; exact t1
        have hlen : (acc ++ [r.x]).length = acc.length + 1 := by rw [List.length_append]; rfl
        split at h
        · rename_i hc
          exact ih (by omega) (plc_st (sg_lt hc.2 (by decide))) ha' hl' (t4 h6) h
        · have e := Except.ok.inj h
          rw [← e]
          exact ⟨by show (acc ++ [r.x]).length ≤ 3; omega, by show 1 ≤ (acc ++ [r.x]).length; omega, t2, fun z => absurd (show false = true from z) (by decide), fun _ => ha', hl', t4 h6⟩
