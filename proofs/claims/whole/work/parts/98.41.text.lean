/-! WHAT A TEXT SAYS, place by place -/
abbrev tx_T : Type := (Nat) × (Nat → Nat)
abbrev tx_T.n (x : tx_T) : Nat := x.1
abbrev tx_T.c (x : tx_T) : Nat → Nat := x.2
def blk (t : tx_T) (i : Nat) : Prop := t.c i = 32 ∨ t.c i = 10
def nxf (t : tx_T) : Nat → Nat → Nat
  | 0, p => p
  | k + 1, p => if p < t.n ∧ (t.c p = 32 ∨ t.c p = 10) then nxf t k (p + 1) else p
def nxt (t : tx_T) (p : Nat) : Nat := nxf t (t.n - p) p
theorem nxf_all (t : tx_T) : ∀ k p, t.n - p ≤ k → p ≤ nxf t k p ∧ (p ≤ t.n → nxf t k p ≤ t.n) ∧ (∀ i, p ≤ i → i < nxf t k p → blk t i ∧ i < t.n) ∧ (nxf t k p < t.n → ¬ blk t (nxf t k p))
  | 0, p, h => by
    unfold nxf
    exact ⟨Nat.le_refl _, fun z => z, fun i h1 h2 => by omega, fun z => by omega⟩
  | k + 1, p, h => by
    unfold nxf
    by_cases z : p < t.n ∧ (t.c p = 32 ∨ t.c p = 10)
    · rw [if_pos z]
      obtain ⟨h1, h2, h3, h4⟩ := nxf_all t k (p + 1) (by omega)
      refine ⟨by omega, fun _ => h2 (by omega), fun i i1 i2 => ?_, h4⟩
      by_cases y : i = p
      · rw [y]; exact ⟨z.2, z.1⟩
      · exact h3 i (by omega) i2
    · rw [if_neg z]
      exact ⟨Nat.le_refl _, fun z => z, fun i h1 h2 => by omega, fun y w => z ⟨y, w⟩⟩
theorem nxt_ge (t : tx_T) (p : Nat) : p ≤ nxt t p := (nxf_all t _ p (Nat.le_refl _)).1
theorem nxt_le (t : tx_T) {p : Nat} (h : p ≤ t.n) : nxt t p ≤ t.n := (nxf_all t _ p (Nat.le_refl _)).2.1 h
theorem nxt_bl (t : tx_T) (p : Nat) {i : Nat} (h1 : p ≤ i) (h2 : i < nxt t p) : blk t i ∧ i < t.n := (nxf_all t _ p (Nat.le_refl _)).2.2.1 i h1 h2
theorem nxt_nb (t : tx_T) (p : Nat) (h : nxt t p < t.n) : ¬ blk t (nxt t p) := (nxf_all t _ p (Nat.le_refl _)).2.2.2 h
/-- a place where reading stands -/
def plc (t : tx_T) (q : Nat) : Prop := q ≤ t.n ∧ (q < t.n → ¬ blk t q)
theorem nxt_plc (t : tx_T) {p : Nat} (h : p ≤ t.n) : plc t (nxt t p) := ⟨nxt_le t h, nxt_nb t p⟩
theorem nxt_fix (t : tx_T) {q : Nat} (h : plc t q) : nxt t q = q := by
  have h1 := nxt_ge t q
  rcases Nat.lt_or_ge q (nxt t q) with z | z
  · obtain ⟨b1, b2⟩ := nxt_bl t q (Nat.le_refl _) z
    exact absurd b1 (h.2 b2)
  · omega
theorem nxt_st (t : tx_T) {p : Nat} (h1 : p < t.n) (h2 : blk t p) : nxt t p = nxt t (p + 1) := by
  unfold nxt
  obtain ⟨k, hk⟩ : ∃ k, t.n - p = k + 1 := ⟨t.n - p - 1, by omega⟩
  rw [hk, show t.n - (p + 1) = k by omega]
  show (if p < t.n ∧ (t.c p = 32 ∨ t.c p = 10) then nxf t k (p + 1) else p) = _
  rw [if_pos ⟨h1, h2⟩]
/-- signs before a place -/
def rnk (t : tx_T) : Nat → Nat
  | 0 => 0
  | q + 1 => rnk t q + if t.c q = 32 ∨ t.c q = 10 then 0 else 1
theorem rnk_le (t : tx_T) : ∀ q, rnk t q ≤ q
  | 0 => Nat.le_refl _
  | q + 1 => by
    have := rnk_le t q
    unfold rnk
    split <;> omega
theorem rnk_bl (t : tx_T) {p : Nat} : ∀ q, p ≤ q → (∀ i, p ≤ i → i < q → blk t i) → rnk t q = rnk t p
  | 0, h, _ => by rw [show p = 0 by omega]
  | q + 1, h, hb => by
    by_cases z : p = q + 1
    · rw [z]
    · have := rnk_bl t q (by omega) (fun i h1 h2 => hb i h1 (by omega))
      show rnk t q + (if t.c q = 32 ∨ t.c q = 10 then 0 else 1) = rnk t p
      rw [this, if_pos (show t.c q = 32 ∨ t.c q = 10 from hb q (by omega) (by omega))]
      rfl
theorem rnk_nx (t : tx_T) (p : Nat) : rnk t (nxt t p) = rnk t p := rnk_bl t _ (nxt_ge t p) (fun i h1 h2 => (nxt_bl t p h1 h2).1)
theorem rnk_s (t : tx_T) {q : Nat} (h : ¬ blk t q) : rnk t (q + 1) = rnk t q + 1 := by
  show rnk t q + (if t.c q = 32 ∨ t.c q = 10 then 0 else 1) = rnk t q + 1
  rw [if_neg (show ¬ (t.c q = 32 ∨ t.c q = 10) from h)]
theorem rnk_st (t : tx_T) {q : Nat} (h : ¬ blk t q) : rnk t (nxt t (q + 1)) = rnk t q + 1 := by rw [rnk_nx, rnk_s t h]
theorem rnk_mono (t : tx_T) {p : Nat} : ∀ q, p ≤ q → rnk t p ≤ rnk t q
  | 0, h => by rw [show p = 0 by omega]; exact Nat.le_refl _
  | q + 1, h => by
    by_cases z : p = q + 1
    · rw [z]; exact Nat.le_refl _
    · exact Nat.le_trans (rnk_mono t q (by omega)) (Nat.le_add_right _ _)
/-- the sign at a place; 999 at the end -/
def sg (t : tx_T) (q : Nat) : Nat := if q < t.n then t.c q else 999
def sI (s : Nat) : Int32 := if s = 999 then -1 else nI s
theorem sI_eq {s k : Nat} (hs : s < 256 ∨ s = 999) (hk : k < 256) : sI s = nI k ↔ s = k := by
  unfold sI
  by_cases z : s = 999
  · rw [if_pos z]
    refine ⟨fun h => absurd h.symm (ov_m1 (by omega)), fun h => by omega⟩
  · rw [if_neg z]
    exact nI_eq (by omega) (by omega)
theorem sI_m1 {s : Nat} (hs : s < 256 ∨ s = 999) : sI s = -1 ↔ s = 999 := by
  unfold sI
  by_cases z : s = 999
  · rw [if_pos z]; exact ⟨fun _ => z, fun _ => rfl⟩
  · rw [if_neg z]; exact ⟨fun h => absurd h (ov_m1 (by omega)), fun h => absurd h z⟩
/-- of two bounds -/
theorem sI_in {s a b : Nat} (hs : s < 256 ∨ s = 999) (ha1 : 1 ≤ a) (ha : a < 256) (hb : b < 256) : (¬ sI s < nI a ∧ ¬ nI b < sI s) ↔ a ≤ s ∧ s ≤ b := by
  unfold sI
  by_cases z : s = 999
  · rw [if_pos z]
    refine ⟨fun h => absurd ?_ h.1, fun h => by omega⟩
    rw [Int32.lt_iff_toInt_lt, nI_toInt (by omega), show (-1 : Int32).toInt = -1 from rfl]
    omega
  · rw [if_neg z]
    have e1 : nI s < nI a ↔ s < a := nI_ltI (by omega) (by omega)
    have e2 : nI b < nI s ↔ b < s := nI_ltI (by omega) (by omega)
    rw [e1, e2]
    omega
def tx_ok (t : tx_T) : Prop := (t.n ≤ 600) ∧ (∀ i, t.c i < 256)
theorem tx_ok.n6 {t : tx_T} (h' : tx_ok t) : t.n ≤ 600 := h'.1
theorem tx_ok.b {t : tx_T} (h' : tx_ok t) : ∀ i, t.c i < 256 := h'.2
theorem sg_ok {t : tx_T} (h : tx_ok t) (q : Nat) : sg t q < 256 ∨ sg t q = 999 := by
  unfold sg
  split
  · exact Or.inl (h.b q)
  · exact Or.inr rfl
theorem sg_lt {t : tx_T} {q k : Nat} (h : sg t q = k) (hk : k < 256) : q < t.n := by
  unfold sg at h
  split at h
  · assumption
  · omega
/-- a byte's sign -/
def byt (x : Int32) : Nat := (x &&& 255).toNatClampNeg
theorem byt_all (y : Int8) : (y.toInt32 &&& 255) = nI (byt y.toInt32) ∧ byt y.toInt32 < 256 ∧ (y.toInt32 = 32 ↔ byt y.toInt32 = 32) ∧ (y.toInt32 = 10 ↔ byt y.toInt32 = 10) ∧ ((¬ y.toInt32 < 48 ∧ ¬ 57 < y.toInt32) ↔ (48 ≤ byt y.toInt32 ∧ byt y.toInt32 ≤ 57)) ∧ (48 ≤ byt y.toInt32 ∧ byt y.toInt32 ≤ 57 → y.toInt32 = nI (byt y.toInt32)) := by
  have h : ∀ k, k < 256 → ∀ y : Int8, y = Int8.ofNat k → (y.toInt32 &&& 255) = nI (byt y.toInt32) ∧ byt y.toInt32 < 256 ∧ (y.toInt32 = 32 ↔ byt y.toInt32 = 32) ∧ (y.toInt32 = 10 ↔ byt y.toInt32 = 10) ∧ ((¬ y.toInt32 < 48 ∧ ¬ 57 < y.toInt32) ↔ (48 ≤ byt y.toInt32 ∧ byt y.toInt32 ≤ 57)) ∧ (48 ≤ byt y.toInt32 ∧ byt y.toInt32 ≤ 57 → y.toInt32 = nI (byt y.toInt32)) := by
    have g : ∀ k, k < 256 → (fun y : Int8 => (y.toInt32 &&& 255) = nI (byt y.toInt32) ∧ byt y.toInt32 < 256 ∧ (y.toInt32 = 32 ↔ byt y.toInt32 = 32) ∧ (y.toInt32 = 10 ↔ byt y.toInt32 = 10) ∧ ((¬ y.toInt32 < 48 ∧ ¬ 57 < y.toInt32) ↔ (48 ≤ byt y.toInt32 ∧ byt y.toInt32 ≤ 57)) ∧ (48 ≤ byt y.toInt32 ∧ byt y.toInt32 ≤ 57 → y.toInt32 = nI (byt y.toInt32))) (Int8.ofNat k) := by decide +kernel
    intro k hk y e
    rw [e]
    exact g k hk
  refine h y.toBitVec.toNat (by have := y.toBitVec.isLt; omega) y ?_
  rw [← Int8.toBitVec_inj]
  apply BitVec.eq_of_toNat_eq
  have := y.toBitVec.isLt
  rw [Int8.toBitVec_ofNat', BitVec.toNat_ofNat]
  omega
