/-! tests; the keys of the rows -/
def ks (T : Nat → al_T) : Nat → List Nat := fun v => (T v).map Prod.fst
theorem ks_in {T : Nat → al_T} {v key : Nat} : key ∈ ks T v ↔ al_in (T v) key := by
  unfold ks al_in
  rw [List.mem_map]
theorem al_get_pos : ∀ {l : al_T} {key : Nat}, (∀ p ∈ l, 0 < p.2) → ((0 < al_get l key) ↔ al_in l key) ∧ (al_get l key = 0 ↔ ¬ al_in l key)
  | [], key, _ => by
    have : ¬ al_in [] key := fun ⟨p, hp, _⟩ => absurd hp List.not_mem_nil
    simp [al_get, this]
  | p :: r, key, h => by
    have ih := al_get_pos (l := r) (key := key) (fun q hq => h q (List.mem_cons_of_mem _ hq))
    have hp := h p List.mem_cons_self
    unfold al_get
    by_cases g : p.1 = key
    · have hin : al_in (p :: r) key := ⟨p, List.mem_cons_self, g⟩
      rw [if_pos g]
      exact ⟨⟨fun _ => hin, fun _ => hp⟩, ⟨fun q => by omega, fun q => absurd hin q⟩⟩
    · have hin : al_in (p :: r) key ↔ al_in r key := by
        constructor
        · rintro ⟨q, hq, hk⟩
          rcases List.mem_cons.mp hq with rfl | hq
          · exact absurd hk g
          · exact ⟨q, hq, hk⟩
        · rintro ⟨q, hq, hk⟩
          exact ⟨q, List.mem_cons_of_mem _ hq, hk⟩
      rw [if_neg g, hin]
      exact ih
theorem al_get_bd {l : al_T} {key : Nat} {M : Int} (hM : 0 ≤ M) (h : ∀ p ∈ l, 0 < p.2 ∧ p.2 ≤ M) : 0 ≤ al_get l key ∧ al_get l key ≤ M := by
  induction l with
  | nil => exact ⟨by simp [al_get], by simpa [al_get] using hM⟩
  | cons p r ih =>
    unfold al_get
    split
    · have := h p List.mem_cons_self
      omega
    · exact ih (fun q hq => h q (List.mem_cons_of_mem _ hq))
/-- counts are 1 at least, 64000 at most -/
def cpos (T : Nat → al_T) : Prop := ∀ v, v < 8 → ∀ p ∈ T v, 0 < p.2 ∧ p.2 ≤ 100000
theorem ofI_0 {x : Int} (h1 : 0 ≤ x) (h2 : x ≤ 100000) : Int32.ofInt x = 0 ↔ x = 0 := by
  rw [← Int32.toInt_inj, ofI_toInt (by omega) (by omega)]
  rfl
theorem en_holds {X : ex_T} {σ : z_S} (hE : en_T X σ) {T : Nat → al_T} (hW : rw_L X σ T) (hw : z_R σ 111 X.a = some X.w) (hc : cpos T) {e : ev_T} (he : eV X σ e) {b n : Nat} {l : lit_T} (hA : at_L σ b l n) (h0 : l.1 ≠ 0) (hb : ∀ k, vin3 l.2.2 k → e k ≠ none) (P : Int32 → z_S → Prop) (hP : P (if tst (ks T) e l then 1 else 0) σ) : kp_En_holds X.a b σ P := by
  intro X86 X100 h86 h100
  have hk2 := hA.k2
  refine ⟨hA.ty, fun hn => ?_, fun hn => ?_⟩
  · rw [hA.kd] at hn
    have hl2 : l.1 = 2 := by
      by_cases g : l.1 = 1
      · exact absurd (by rw [g]; rfl) hn
      · omega
    obtain ⟨o1, o2, o3⟩ := hA.op hl2
    obtain ⟨t, ht1, ht2, ht3⟩ := hA.tm
    refine ⟨hA.ty, t, ht1, 3, 1, ht2, vp_in_nI (n := 0) (by omega) (by decide), hE.ty, ?_⟩
    rw [show ((0 : Int32)).toNatClampNeg = 0 by decide, ht3 0 (by omega)]
    refine en_valueOf hE he (tmi_ok hA.to 0) (fun q => hb _ (tmi_vin q)) _ ?_
    refine ⟨hA.ty, t, ht1, 3, 1, ht2, vp_in_nI (n := 1) (by omega) (by decide), hE.ty, ?_⟩
    rw [show ((1 : Int32)).toNatClampNeg = 1 by decide, ht3 1 (by omega)]
    refine en_valueOf hE he (tmi_ok hA.to 1) (fun q => hb _ (tmi_vin q)) _ ?_
    have ha : tv e (tmi l.2.2 0) < 1000 := tv_lt he.ok (tmi_ok hA.to 0)
    have hb' : tv e (tmi l.2.2 1) < 1000 := tv_lt he.ok (tmi_ok hA.to 1)
    have e0 : tmi l.2.2 0 = l.2.2.1 := rfl
    have e1 : tmi l.2.2 1 = l.2.2.2.1 := rfl
    rw [e0] at ha ⊢
    rw [e1] at hb' ⊢
    unfold tst at hP
    rw [if_neg (by omega : ¬ l.1 = 1)] at hP
    have c60 : z_I σ 4 b = (60 : Int32) ↔ l.2.1 = 60 := by
      rw [o1, show (60 : Int32) = nI 60 from rfl, nI_eq (by omega) (by decide)]
    have c61 : z_I σ 4 b = (61 : Int32) ↔ l.2.1 = 61 := by
      rw [o1, show (61 : Int32) = nI 61 from rfl, nI_eq (by omega) (by decide)]
    refine ⟨hA.ty, fun q => ?_, fun q => ?_⟩
    · rw [if_neg (fun z => q (c60.mpr z))] at hP
      have fin : ∀ y : Int32, (y = 0 ∨ y = 1) → ((y = 1) ↔ tv e l.2.2.1 = tv e l.2.2.2.1) → X86 y σ := by
        intro y hy1 hy
        refine h86 _ _ ⟨hA.ty, fun q2 => ?_, fun q2 => ?_⟩
        · rw [if_neg (fun z => q2 (c61.mpr z))] at hP
          refine h100 _ _ _ ⟨fun q3 => ?_, fun q3 => ?_⟩
          · have : y = 1 := hy1.resolve_left q3
            rw [decide_eq_false (fun z => z (hy.mp this))] at hP
            exact hP
          · have : ¬ y = 1 := by rw [q3]; decide
            rw [decide_eq_true (show tv e l.2.2.1 ≠ tv e l.2.2.2.1 from fun z => this (hy.mpr z))] at hP
            exact hP
        · rw [if_pos (c61.mp q2)] at hP
          refine h100 _ _ _ ⟨fun q3 => ?_, fun q3 => ?_⟩
          · rw [decide_eq_false (fun z => q3 (hy.mpr z))] at hP
            exact hP
          · rw [decide_eq_true (hy.mp q3)] at hP
            exact hP
      refine ⟨fun q3 => fin 0 (Or.inl rfl) ⟨fun z => absurd z (by decide), fun z => absurd (by rw [z]) q3⟩, fun q3 => fin 1 (Or.inr rfl) ⟨fun _ => (nI_eq (by omega) (by omega)).mp q3, fun _ => rfl⟩⟩
    · rw [if_pos (c60.mp q)] at hP
      refine ⟨fun q3 => ?_, fun q3 => ?_⟩
      · rw [decide_eq_false (by have := (nI_leI (by omega) (by omega)).mp q3; omega)] at hP
        exact hP
      · rw [decide_eq_true (Nat.lt_of_not_le (fun z => q3 ((nI_leI (by omega) (by omega)).mpr z)))] at hP
        exact hP
  · rw [hA.kd] at hn
    have hl1 : l.1 = 1 := (nI_eq (by omega) (by decide)).mp hn
    obtain ⟨r1, r2⟩ := hA.rl (by omega)
    refine ⟨hE.ty, X.w, hw, hA.ty, 8, X.s, hW.1.tw, ?_, X.ra l.2.1, ?_, hE.ty, ?_⟩
    · rw [r1]; exact vp_in_nI r2 (by decide)
    · rw [r1, cl_nI (by omega)]; exact hW.1.qw _ r2
    · refine en_keyOf hE he hA hb _ ⟨(hW.1.ro _ r2).1, ?_⟩
      have hlt := hk3_lt he.ok hA.to
      refine ro_countOf (hW.2 _ r2) hlt _ ?_
      have hp := al_get_pos (l := T l.2.1) (key := hk3 e l.2.2) (fun p hp => (hc _ r2 p hp).1)
      have hbd := al_get_bd (key := hk3 e l.2.2) (by decide : (0 : Int) ≤ 100000) (hc _ r2)
      unfold tst at hP
      rw [if_pos hl1] at hP
      refine ⟨fun q => ?_, fun q => ?_⟩
      · rw [ofI_0 hbd.1 hbd.2, hp.2, Classical.not_not, ← ks_in] at q
        rw [decide_eq_false (fun z => z q)] at hP
        exact hP
      · rw [ofI_0 hbd.1 hbd.2, hp.2, ← ks_in] at q
        rw [decide_eq_true q] at hP
        exact hP
