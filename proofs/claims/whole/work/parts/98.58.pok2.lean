def lls_R (t : tx_T) (nm A : List Nat) (b : ll_T) : Prop := (nmA b.nm b.A) ∧ (exA nm A b.nm b.A) ∧ (∀ l ∈ b.ls, LK b.nm.length b.A l) ∧ (b.ls.length ≤ 5) ∧ ((ps_of b.ls).length ≤ 3) ∧ (plc t b.q) ∧ (rk b.lt 26 ≤ 6)
theorem lls_R.ok {t : tx_T} {nm A : List Nat} {b : ll_T} (h' : lls_R t nm A b) : nmA b.nm b.A := h'.1
theorem lls_R.ex {t : tx_T} {nm A : List Nat} {b : ll_T} (h' : lls_R t nm A b) : exA nm A b.nm b.A := h'.2.1
theorem lls_R.k {t : tx_T} {nm A : List Nat} {b : ll_T} (h' : lls_R t nm A b) : ∀ l ∈ b.ls, LK b.nm.length b.A l := h'.2.2.1
theorem lls_R.l5 {t : tx_T} {nm A : List Nat} {b : ll_T} (h' : lls_R t nm A b) : b.ls.length ≤ 5 := h'.2.2.2.1
theorem lls_R.p3 {t : tx_T} {nm A : List Nat} {b : ll_T} (h' : lls_R t nm A b) : (ps_of b.ls).length ≤ 3 := h'.2.2.2.2.1
theorem lls_R.q {t : tx_T} {nm A : List Nat} {b : ll_T} (h' : lls_R t nm A b) : plc t b.q := h'.2.2.2.2.2.1
theorem lls_R.r6 {t : tx_T} {nm A : List Nat} {b : ll_T} (h' : lls_R t nm A b) : rk b.lt 26 ≤ 6 := h'.2.2.2.2.2.2
theorem ps_app (ls : List lit_T) (l : lit_T) : (ps_of (ls ++ [l])).length = (ps_of ls).length + if l.1 = 0 then 1 else 0 := by
  unfold ps_of
  rw [List.filter_append, List.length_append]
  congr 1
  by_cases z : l.1 = 0
  · rw [List.filter_cons_of_pos (by simpa using z), if_pos z]; rfl
  · rw [List.filter_cons_of_neg (by simpa using z), if_neg z]; rfl
theorem lls_ok {t : tx_T} : ∀ (k : Nat) {ls : List lit_T} {nm A : List Nat} {lt : Nat → Bool} {q : Nat} {b : ll_T}, plc t q → nmA nm A → rk lt 26 ≤ 6 → (∀ l ∈ ls, LK nm.length A l) → ls.length ≤ 5 → (ps_of ls).length ≤ 3 → lls t k ls nm A lt q = .ok b → lls_R t nm A b
  | 0, ls, nm, A, lt, q, b, _, _, _, _, _, _, h => by
    unfold lls at h
    cases h
  | k + 1, ls, nm, A, lt, q, b, hq, hn, h6, hl, h5, h3, h => by
    unfold lls at h
    split at h
    · cases h
    · rename_i r hr
      obtain ⟨hR, hp⟩ := ltl_ok hq hn h6 hr
      have hlen := (ltl_lt hq h6 hr).1
      have hl' : ∀ l ∈ ls ++ [r.l], LK r.nm.length r.A l := fun l hm => by
        rcases List.mem_append.mp hm with z | z
        · exact LK_ex hR.ex (hl l z)
        · rw [List.mem_singleton.mp z]; exact hR.k
      have h5' : (ls ++ [r.l]).length ≤ 5 := by rw [List.length_append]; show ls.length + 1 ≤ 5; omega
      have h3' : (ps_of (ls ++ [r.l])).length ≤ 3 := by
        rw [ps_app]
        split
        · rename_i z
          have := hp z
          omega
        · omega
      split at h
      · rename_i h44
        have := lls_ok k (plc_st (sg_lt h44 (by decide))) hR.ok hR.r6 hl' h5' h3' h
        exact ⟨this.ok, exA_tr hR.ex this.ex, this.k, this.l5, this.p3, this.q, this.r6⟩
      · rw [← Except.ok.inj h]
        exact ⟨hR.ok, hR.ex, hl', h5', h3', hR.q, hR.r6⟩
def RK (n : Nat) (A : List Nat) (r : ru_T) : Prop := (ru_ok r) ∧ (r.h < n) ∧ (r.c = true → mkp r.ts + 1 = A.getD r.h 0) ∧ (∀ i, A.getD r.h 0 ≤ i → i < 3 → tmi r.ts i = 100) ∧ (∀ l ∈ r.ls, LK n A l)
theorem RK.ok {n : Nat} {A : List Nat} {r : ru_T} (h' : RK n A r) : ru_ok r := h'.1
theorem RK.h {n : Nat} {A : List Nat} {r : ru_T} (h' : RK n A r) : r.h < n := h'.2.1
theorem RK.mk {n : Nat} {A : List Nat} {r : ru_T} (h' : RK n A r) : r.c = true → mkp r.ts + 1 = A.getD r.h 0 := h'.2.2.1
theorem RK.rs {n : Nat} {A : List Nat} {r : ru_T} (h' : RK n A r) : ∀ i, A.getD r.h 0 ≤ i → i < 3 → tmi r.ts i = 100 := h'.2.2.2.1
theorem RK.ls {n : Nat} {A : List Nat} {r : ru_T} (h' : RK n A r) : ∀ l ∈ r.ls, LK n A l := h'.2.2.2.2
theorem RK_ex {nm A nm' A' : List Nat} (h : exA nm A nm' A') {r : ru_T} (hr : RK nm.length A r) : RK nm'.length A' r := ⟨hr.ok, Nat.lt_of_lt_of_le hr.h h.l, fun c => by rw [h.a _ hr.h]; exact hr.mk c, fun i hi h3 => hr.rs i (by rw [← h.a _ hr.h]; exact hi) h3, fun l hl => LK_ex h (hr.ls l hl)⟩
theorem cls_ok {t : tx_T} {rs : List ru_T} {nm A : List Nat} {q : Nat} {g : an_T} {b : ll_T} {r : rr_T} (hG : atm_R t true (fun _ => False) nm A q g) (hB : lls_R t g.nm g.A b) (h : cls t rs g b = .ok r) : nmA r.nm r.A ∧ exA nm A r.nm r.A ∧ RK r.nm.length r.A r.r ∧ plc t r.q ∧ lonely rs r.r.h r.r.c r.r.ls = false := by
  unfold cls at h
  split at h
  · rename_i h46
    split at h
    · cases h
    · rename_i hlo
      split at h
      · cases h
      · rename_i hln
        have hlo : loose (tm3 g.l) b.ls = false := by
          cases z : loose (tm3 g.l) b.ls with
          | false => rfl
          | true => exact absurd z hlo
        have hln : lonely rs g.i g.c b.ls = false := by
          cases z : lonely rs g.i g.c b.ls with
          | false => rfl
          | true => exact absurd z hln
        have hsf : ∀ k, (vin3 (tm3 g.l) k ∨ ∃ l ∈ ts_of b.ls, vin3 l.2.2 k) → ∃ l ∈ ps_of b.ls, vin3 l.2.2 k := fun k hk => Classical.byContradiction (fun hno => by
          rw [loose_iff.mpr ⟨k, hk, hno⟩] at hlo; cases hlo)
        have ha : b.A.getD g.i 0 = g.l.length := by rw [hB.ex.a _ hG.i.1]; exact hG.a
        rw [← Except.ok.inj h]
        refine ⟨hB.ok, exA_tr hG.ex hB.ex, ⟨⟨hG.i.2, hB.l5, hB.p3, fun l hl h1 k hk => hsf k (Or.inr ⟨l, List.mem_filter.mpr ⟨hl, by simpa using h1⟩, hk⟩), fun k hk => hsf k (Or.inl hk), fun l hl => (hB.k l hl).lit, mark_3 hG.n3 (fun z => (hG.m z).2) hG.p, fun hc => (tOK_3 (hG.p hc)).2, fun hc => ?_⟩, Nat.lt_of_lt_of_le hG.i.1 hB.ex.l, fun hc => ?_, fun i hi h3 => ?_, hB.k⟩, plc_st (sg_lt h46 (by decide)), hln⟩
        · obtain ⟨_, l', e, hl⟩ := hG.m hc
          have hlen : l'.length + 1 ≤ 3 := by
            have := hG.n3
            rw [e, List.length_append] at this
            exact this
          have hgl : ∀ i, i < 3 → tmi (tm3 l') i = l'.getD i 100 := fun i hi => by
            rcases (show i = 0 ∨ i = 1 ∨ i = 2 by omega) with rfl | rfl | rfl <;> rfl
          have hsn : ∀ i, i < 3 → tmi (tm3 g.l) i = if i = l'.length then 99 else tmi (tm3 l') i := fun i hi => by rw [e]; exact tm3_snoc (by omega) 99 i hi
          refine ⟨l'.length, by omega, fun i hi => ?_, fun i hi => ?_, fun i h1 h2 => ?_⟩
          · show tmi (tm3 g.l) i = 99 ↔ i = l'.length
            rw [hsn i hi]
            by_cases z : i = l'.length
            · rw [if_pos z]; exact ⟨fun _ => z, fun _ => rfl⟩
            · rw [if_neg z, hgl i hi]
              have := tOK_gd hl i
              unfold tOK at this
              exact ⟨fun y => by omega, fun y => absurd y z⟩
          · show tmi (tm3 g.l) i < 26 ∨ 100 ≤ tmi (tm3 g.l) i ∨ tmi (tm3 g.l) i = 99
            rw [hsn i hi]
            by_cases z : i = l'.length
            · rw [if_pos z]; exact Or.inr (Or.inr rfl)
            · rw [if_neg z, hgl i hi]
              have := tOK_gd hl i
              unfold tOK at this
              omega
          · show tmi (tm3 g.l) i = 100
            rw [hsn i h2, if_neg (by omega)]
            exact tm3_rest (by omega) h2
        · obtain ⟨_, l', e, hl⟩ := hG.m hc
          show mkp (tm3 g.l) + 1 = b.A.getD g.i 0
          have hlen : l'.length + 1 ≤ 3 := by
            have := hG.n3
            rw [e, List.length_append] at this
            exact this
          rw [ha, e, List.length_append]
          show mkp (tm3 (l' ++ [99])) + 1 = l'.length + 1
          have g0 : ∀ j, (l' ++ [99]).getD j 100 = if j = l'.length then 99 else l'.getD j 100 := fun j => gd_sn 100
          have hne : ∀ j, l'.getD j 100 ≠ 99 := fun j => by
            have := tOK_gd hl j
            unfold tOK at this
            omega
          unfold mkp tm3
          rw [g0, g0]
          rcases (show l'.length = 0 ∨ l'.length = 1 ∨ l'.length = 2 by omega) with z | z | z
          · rw [z, if_pos rfl, if_pos rfl]
          · rw [z, if_neg (show ¬ 0 = 1 by decide), if_neg (hne 0), if_pos rfl, if_pos rfl]
          · rw [z, if_neg (show ¬ 0 = 2 by decide), if_neg (hne 0), if_neg (show ¬ 1 = 2 by decide), if_neg (hne 1)]
        · have hi : b.A.getD g.i 0 ≤ i := hi
          rw [ha] at hi
          exact tm3_rest hi h3
  · cases h
theorem rul_ok {t : tx_T} {rs : List ru_T} {nm A : List Nat} {q : Nat} {r : rr_T} (hn : nmA nm A) (h : rul t rs nm A q = .ok r) : nmA r.nm r.A ∧ exA nm A r.nm r.A ∧ RK r.nm.length r.A r.r ∧ plc t r.q ∧ lonely rs r.r.h r.r.c r.r.ls = false := by
  unfold rul at h
  split at h
  · cases h
  · split at h
    · cases h
    · rename_i g hg
      have hG := atm_ok (L0 := fun _ => False) (lt := fun _ => false) hn (fun k _ => ⟨fun z => absurd z (by decide), fun z => z.elim⟩) (by decide) hg
      split at h
      · split at h
        · cases h
        · rename_i q1 hq1
          have hp1 : plc t q1 := by
            unfold tak at hq1
            split at hq1
            · rename_i h45
              rw [← Except.ok.inj hq1]
              exact plc_st (sg_lt h45 (by decide))
            · cases hq1
          split at h
          · cases h
          · rename_i b hb
            exact cls_ok hG (lls_ok 6 hp1 hG.ok hG.r (fun l hl => absurd hl List.not_mem_nil) (by decide) (by decide) hb) h
      · have hB : lls_R t g.nm g.A (⟨[], g.nm, g.A, g.lt, g.q⟩ : ll_T) := ⟨hG.ok, exA_rf _ _, fun l hl => absurd hl List.not_mem_nil, (show ([] : List lit_T).length ≤ 5 by decide), (show (ps_of []).length ≤ 3 by decide), hG.q, hG.r⟩
        exact cls_ok hG hB h
def pinv (rs : List ru_T) (nm A : List Nat) : Prop := (nmA nm A) ∧ (∀ r ∈ rs, RK nm.length A r) ∧ (∀ i j, i < rs.length → j < rs.length → i ≠ j → (rs.getD i d_ru).c = true → (rs.getD i d_ru).h ≠ (rs.getD j d_ru).h) ∧ (rs.length ≤ 17)
theorem pinv.ok {rs : List ru_T} {nm A : List Nat} (h' : pinv rs nm A) : nmA nm A := h'.1
theorem pinv.r {rs : List ru_T} {nm A : List Nat} (h' : pinv rs nm A) : ∀ r ∈ rs, RK nm.length A r := h'.2.1
theorem pinv.un {rs : List ru_T} {nm A : List Nat} (h' : pinv rs nm A) : ∀ i j, i < rs.length → j < rs.length → i ≠ j → (rs.getD i d_ru).c = true → (rs.getD i d_ru).h ≠ (rs.getD j d_ru).h := h'.2.2.1
theorem pinv.n {rs : List ru_T} {nm A : List Nat} (h' : pinv rs nm A) : rs.length ≤ 17 := h'.2.2.2
theorem pinv_add {rs : List ru_T} {nm A nm' A' : List Nat} {r : ru_T} (h : pinv rs nm A) (hn : nmA nm' A') (he : exA nm A nm' A') (hr : RK nm'.length A' r) (hl : lonely rs r.h r.c r.ls = false) (h17 : rs.length < 17) : pinv (rs ++ [r]) nm' A' := by
  have hlen : (rs ++ [r]).length = rs.length + 1 := by rw [List.length_append]; rfl
  unfold lonely at hl
  rw [Bool.or_eq_false_iff] at hl
  refine ⟨hn, fun x hx => ?_, fun i j hi hj hne hc => ?_, by omega⟩
  · rcases List.mem_append.mp hx with z | z
    · exact RK_ex he (h.r x z)
    · rw [List.mem_singleton.mp z]; exact hr
  · rw [hlen] at hi hj
    rw [rs_sn hi] at hc ⊢
    rw [rs_sn hj]
    by_cases z : i = rs.length
    · rw [if_pos z] at hc ⊢
      rw [if_neg (by omega)]
      intro e
      have hm : rs.getD j d_ru ∈ rs := by rw [gd_eq _ _ (by omega : j < rs.length)]; exact List.getElem_mem _
      have : rs.any (fun x => decide (x.h = r.h)) = true := List.any_eq_true.mpr ⟨_, hm, decide_eq_true e.symm⟩
      rw [hc, this, Bool.or_true] at hl
      exact absurd hl.1 (by decide)
    · rw [if_neg z] at hc ⊢
      by_cases y : j = rs.length
      · rw [if_pos y]
        intro e
        have hm : rs.getD i d_ru ∈ rs := by rw [gd_eq _ _ (by omega : i < rs.length)]; exact List.getElem_mem _
        have : rs.any (fun x => decide (x.h = r.h) && x.c) = true := List.any_eq_true.mpr ⟨_, hm, by rw [decide_eq_true e, hc]; rfl⟩
        rw [this] at hl
        exact absurd hl.2 (by decide)
      · rw [if_neg y]
        exact h.un i j (by omega) (by omega) hne hc
theorem prs_ok {t : tx_T} : ∀ (k : Nat) {rs : List ru_T} {nm A : List Nat} {q : Nat} {p : pp_T}, rs.length + k = 17 → pinv rs nm A → prs t k rs nm A q = .ok p → pinv p.rs p.nm p.A
  | 0, rs, nm, A, q, p, _, hi, h => by
    unfold prs at h
    rw [← Except.ok.inj h]
    exact hi
  | k + 1, rs, nm, A, q, p, hk, hi, h => by
    unfold prs at h
    split at h
    · split at h
      · cases h
      · rename_i r hr
        obtain ⟨a1, a2, a3, a4, a5⟩ := rul_ok hi.ok hr
        exact prs_ok k (by rw [List.length_append]; show rs.length + 1 + k = 17; omega) (pinv_add hi a1 a2 a3 a5 (by omega)) h
    · rw [← Except.ok.inj h]
      exact hi
theorem parse_ok {t : tx_T} {p : pp_T} (h : parse t = .ok p) : pinv p.rs p.nm p.A := prs_ok 17 rfl ⟨⟨by decide, rfl, fun x hx => absurd hx List.not_mem_nil, List.nodup_nil, fun k hk => absurd hk (Nat.not_lt_zero k)⟩, fun r hr => absurd hr List.not_mem_nil, fun i j hi => absurd hi (Nat.not_lt_zero i), by decide⟩ h
