theorem rs_sn {rs : List ru_T} {x : ru_T} {i : Nat} (hi : i < rs.length + 1) : (rs ++ [x]).getD i d_ru = if i = rs.length then x else rs.getD i d_ru := by
  rw [List.getD_eq_getElem?_getD, List.getD_eq_getElem?_getD]
  by_cases z : i = rs.length
  · rw [if_pos z, List.getElem?_append_right (by omega), z, Nat.sub_self]; rfl
  · rw [if_neg z, List.getElem?_append_left (by omega)]
theorem mark_3 {l : List Nat} {c : Bool} (h3 : l.length ≤ 3) (hm : c = true → ∃ l', l = l' ++ [99] ∧ ∀ x ∈ l', tOK x) (hp : c = false → ∀ x ∈ l, tOK x) : tm3_ok (tm3 l) := by
  cases hc : c with
  | false => exact (tOK_3 (hp hc)).1
  | true =>
    obtain ⟨l', e, hl⟩ := hm hc
    have g : ∀ j, l.getD j 100 < 1100 := fun j => by
      rw [e, gd_sn]
      split
      · decide
      · have := tOK_gd hl j
        unfold tOK at this
        omega
    exact ⟨g 0, g 1, g 2⟩
/-- a rule is kept -/
theorem rs_keep {t : tx_T} {rs : List ru_T} {nm A : List Nat} {q : Nat} {μ μ1 μ2 : mo_U} (h0 : rsS t rs nm A q μ) (h16 : rs.length < 16) {an : an_T} {b : ll_T} (hB : HB t rs nm an b μ μ1) (hq : b.q < t.n) (ht : tm3_ok (tm3 an.l)) (h3 : an.l.length ≤ 3) (hlo : loose (tm3 an.l) b.ls = false) (e2 : ∃ μa μb, μa = mu_sI μ1 805 (nI (rnk t b.q + 1)) ∧ μb = mu_sA μa 36 (upd (μa.2 36) an.i 1) ∧ μ2 = mu_sI μb 808 (nI (rs.length + 1))) : rsS t (rs ++ [⟨an.i, tm3 an.l, b.ls, an.c⟩]) b.nm b.A (nxt t (b.q + 1)) μ2 ∧ mo_fr pts [805, 808, 817] μ μ2 := by
  obtain ⟨μa, μb, ea, eb, ec⟩ := e2
  have fr2 : mo_fr [36] [805, 808] μ1 μ2 := by
    rw [ec, eb, ea]
    exact mo_fr_tr (fr_sI (by decide) _) (mo_fr_tr (fr_sA (by decide) _) (fr_sI (by decide) _))
  have hsa := rs0_st hB.rl.s hq ea
  have frab : mo_fr [36] [808] μa μ2 := by rw [ec, eb]; exact mo_fr_tr (fr_sA (by decide) _) (fr_sI (by decide) _)
  have hlen : (rs ++ [(⟨an.i, tm3 an.l, b.ls, an.c⟩ : ru_T)]).length = rs.length + 1 := by rw [List.length_append]; rfl
  have x36 : ∀ j, μ2.2 36 j = if j = an.i then 1 else μ1.2 36 j := fun j => by rw [ec, eb, ea]; rfl
  have nn := hB.nn
  have old : ∀ i, i < rs.length → mo_lits μ2 i (rs.getD i d_ru).ls := fun i hi => by
    obtain ⟨g1, g2, g3, g4⟩ := h0.ls i hi
    refine ⟨g1, g2, by rw [fr2.1 28 (by decide), hB.c28 i (by omega)]; exact g3, fun j hj => ?_⟩
    have := g4 j hj
    unfold mo_lit at this ⊢
    rw [fr2.1 29 (by decide), fr2.1 30 (by decide), fr2.1 31 (by decide), hB.c29 _ (by omega), hB.c30 _ (by omega), hB.c31 _ (by omega), hB.c31 _ (by omega), hB.c31 _ (by omega)]
    exact this
  have oldh : ∀ i, i < rs.length → mo_head μ2 i (rs.getD i d_ru).h (rs.getD i d_ru).ts := fun i hi => by
    have := h0.hd i hi
    unfold mo_head at this ⊢
    rw [fr2.1 26 (by decide), fr2.1 27 (by decide), hB.o26 i (by omega), hB.o27 _ (by omega), hB.o27 _ (by omega), hB.o27 _ (by omega)]
    exact this
  have newl : ∀ k, k < 26 → b.lt k = vlt b.ls k := fun k hk => by
    cases hv : vlt b.ls k with
    | true =>
      obtain ⟨l, l1, l2⟩ := vlt_iff.mp hv
      exact (hB.lt k hk).mpr (Or.inr ⟨l, (List.mem_filter.mp l1).1, l2⟩)
    | false =>
      cases hb : b.lt k with
      | false => rfl
      | true =>
        have hnp : ¬ ∃ l ∈ ps_of b.ls, vin3 l.2.2 k := fun z => by rw [vlt_iff.mpr z] at hv; cases hv
        have : loose (tm3 an.l) b.ls = true := by
          refine loose_iff.mpr ⟨k, ?_, hnp⟩
          rcases (hB.lt k hk).mp hb with z | ⟨l, l1, l2⟩
          · exact Or.inl ((vin_tm3 h3 hk).mpr z)
          · by_cases y : l.1 = 0
            · exact absurd ⟨l, List.mem_filter.mpr ⟨l1, by simpa using y⟩, l2⟩ hnp
            · exact Or.inr ⟨l, List.mem_filter.mpr ⟨l1, by simpa using y⟩, l2⟩
        rw [this] at hlo; cases hlo
  refine ⟨⟨rs0_fr hsa frab (by decide) (by decide) (by decide) (by decide) (by decide), nms_fr hB.rl.n fr2 (by decide) (by decide) (by decide), ⟨by omega, fun j hj => ?_, fun j hj => ?_⟩, ?_, fun i hi => ?_, fun i hi => ?_, fun i hi k hk => ?_, fun k hk => ?_, fun r hr => ?_⟩, mo_fr_tr (fr_mono hB.f (by decide) (by decide)) (fr_mono fr2 (by decide) (by decide))⟩
  · rw [hlen] at hj
    rw [rs_sn hj, fr2.1 26 (by decide)]
    by_cases z : j = rs.length
    · rw [if_pos z, z]; exact ⟨hB.h26, hB.ai.2⟩
    · rw [if_neg z, hB.o26 j z]; exact h0.o.h j (by omega)
  · rw [hlen] at hj
    rw [rs_sn hj, fr2.1 32 (by decide)]
    by_cases z : j = rs.length
    · rw [if_pos z, z]; exact hB.h32
    · rw [if_neg z, hB.o32 j z]; exact h0.o.c j (by omega)
  · rw [ec, mu_I_sI, if_pos rfl, hlen]
  · rw [hlen] at hi
    rw [rs_sn hi]
    by_cases z : i = rs.length
    · rw [if_pos z, z]
      unfold mo_head
      rw [fr2.1 26 (by decide), fr2.1 27 (by decide)]
      exact ⟨hB.h26, hB.ai.2, hB.h27 0 (by decide), hB.h27 1 (by decide), hB.h27 2 (by decide), ht⟩
    · rw [if_neg z]; exact oldh i (by omega)
  · rw [hlen] at hi
    rw [rs_sn hi]
    by_cases z : i = rs.length
    · rw [if_pos z, z]
      exact mo_lits_fr hB.rl.b fr2 (by decide) (by decide) (by decide) (by decide)
    · rw [if_neg z]; exact old i (by omega)
  · rw [hlen] at hi
    rw [rs_sn hi, fr2.1 33 (by decide)]
    by_cases z : i = rs.length
    · rw [if_pos z, z, hB.rl.l k hk]; exact newl k hk
    · rw [if_neg z, hB.c33 i z]; exact h0.l i (by omega) k hk
  · have e1 : (([⟨an.i, tm3 an.l, b.ls, an.c⟩] : List ru_T).any (fun (r : ru_T) => decide (r.h = k))) = decide (an.i = k) := Bool.or_false _
    rw [x36, List.any_append, e1]
    by_cases z : k = an.i
    · rw [if_pos z, decide_eq_true z.symm, Bool.or_true, if_pos rfl]
    · have hz : ¬ an.i = k := fun y => z y.symm
      rw [if_neg z, hB.v k hk, decide_eq_false hz, Bool.or_false]
      by_cases y : k < nm.length
      · rw [if_pos y, h0.v k y]
      · rw [if_neg y]
        have : rs.any (fun r => decide (r.h = k)) = false := by
          rw [List.any_eq_false]
          intro r hr
          have := h0.hn r hr
          rw [decide_eq_true_iff]
          omega
        rw [this, if_neg (by decide)]
  · rcases List.mem_append.mp hr with z | z
    · have := h0.hn r z
      omega
    · rw [List.mem_singleton.mp z]; exact hB.ai.1
