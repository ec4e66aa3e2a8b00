/-! BITS of an int -/
theorem bi_sh : ∀ i, i < 32 → ((nI i &&& 31).toBitVec.smod 32).toNat = i := by decide +kernel
theorem bi_lsb (x : Int32) {i : Nat} (hi : i < 32) : bi x i = x.toBitVec.getLsbD i := by
  have h1 : ((1 : Int32) <<< (nI i &&& 31)).toBitVec = BitVec.twoPow 32 i := by
    apply BitVec.eq_of_toNat_eq
    rw [pk_shl (1 : Int32) (nI i &&& 31) i (bi_sh i hi), BitVec.toNat_twoPow]
    rw [show (1 : Int32).toBitVec.toNat = 1 by decide, Nat.one_mul]
  unfold bi
  rw [Bool.eq_iff_iff, decide_eq_true_iff]
  rw [← Int32.toBitVec_inj, Int32.toBitVec_and, h1]
  constructor
  · intro h
    cases hg : x.toBitVec.getLsbD i with
    | true => rfl
    | false =>
      exfalso
      apply h
      apply BitVec.eq_of_getLsbD_eq
      intro j hj
      rw [BitVec.getLsbD_and, BitVec.getLsbD_twoPow]
      by_cases hij : i = j
      · subst hij
        simp [hg]
      · simp [hij]
  · intro hg h
    have := congrArg (fun b : BitVec 32 => b.getLsbD i) h
    try dsimp only at this
    rw [BitVec.getLsbD_and, BitVec.getLsbD_twoPow, hg] at this
    simp [hi] at this
theorem bi_0 (i : Nat) : bi 0 i = false := by
  unfold bi
  simp
theorem bi_or (x : Int32) {t i : Nat} (ht : t < 32) (hi : i < 32) : bi (x ||| ((1 : Int32) <<< (nI t &&& 31))) i = (bi x i || decide (i = t)) := by
  have h1 : ((1 : Int32) <<< (nI t &&& 31)).toBitVec = BitVec.twoPow 32 t := by
    apply BitVec.eq_of_toNat_eq
    rw [pk_shl (1 : Int32) (nI t &&& 31) t (bi_sh t ht), BitVec.toNat_twoPow]
    rw [show (1 : Int32).toBitVec.toNat = 1 by decide, Nat.one_mul]
  rw [bi_lsb _ hi, bi_lsb _ hi, Int32.toBitVec_or, h1, BitVec.getLsbD_or, BitVec.getLsbD_twoPow]
  congr 1
  rw [Bool.eq_iff_iff]
  simp
  omega
theorem bi_or2 (x y : Int32) {i : Nat} (hi : i < 32) : bi (x ||| y) i = (bi x i || bi y i) := by
  rw [bi_lsb _ hi, bi_lsb _ hi, bi_lsb _ hi, Int32.toBitVec_or, BitVec.getLsbD_or]
theorem bi_and (x y : Int32) {i : Nat} (hi : i < 32) : bi (x &&& y) i = (bi x i && bi y i) := by
  rw [bi_lsb _ hi, bi_lsb _ hi, bi_lsb _ hi, Int32.toBitVec_and, BitVec.getLsbD_and]
theorem bi_not (y : Int32) {i : Nat} (hi : i < 32) : bi (y ^^^ (-1 : Int32)) i = !(bi y i) := by
  rw [bi_lsb _ hi, bi_lsb _ hi, Int32.toBitVec_xor, BitVec.getLsbD_xor, show (-1 : Int32).toBitVec = BitVec.allOnes 32 by decide, BitVec.getLsbD_allOnes]
  simp [hi]
theorem bi_ext {x y : Int32} (h : ∀ i, i < 32 → bi x i = bi y i) : x = y := by
  rw [← Int32.toBitVec_inj]
  apply BitVec.eq_of_getLsbD_eq
  intro i hi
  have := h i hi
  rw [bi_lsb _ hi, bi_lsb _ hi] at this
  exact this
theorem bi_sub {x y : Int32} : (x &&& (y ^^^ (-1 : Int32))) = 0 ↔ ∀ i, i < 32 → bi x i = true → bi y i = true := by
  constructor
  · intro h i hi hx
    have := congrArg (fun z => bi z i) h
    try dsimp only at this
    rw [bi_and _ _ hi, bi_not _ hi, bi_0, hx] at this
    simpa using this
  · intro h
    apply bi_ext
    intro i hi
    rw [bi_and _ _ hi, bi_not _ hi, bi_0]
    cases hx : bi x i with
    | false => rfl
    | true => rw [h i hi hx]; rfl
