/-! small static methods -/
def bi (x : Int32) (i : Nat) : Bool := decide (¬ (x &&& ((1 : Int32) <<< (nI i &&& 31))) = 0)
theorem vr_isIn (x : Int32) (i : Nat) (σ : z_S) (P : Int32 → z_S → Prop) (h : P (if bi x i then 1 else 0) σ) : kp_Vr_isIn x (nI i) σ P := by
  unfold bi at h
  refine ⟨fun q => ?_, fun q => ?_⟩
  · rw [if_neg (by simp [q])] at h
    exact h
  · rw [if_pos (by simp [q])] at h
    exact h
def wt (i : Nat) : Nat := if i = 0 then 1000000 else if i = 1 then 1000 else 1
def dg (key i : Nat) : Nat := if i = 0 then key / 1000000 else if i = 1 then key / 1000 % 1000 else key % 1000
theorem vr_weight {i : Nat} (hi : i < 3) (σ : z_S) (P : Int32 → z_S → Prop) (h : P (nI (wt i)) σ) : kp_Vr_weight (nI i) σ P := by
  unfold wt at h
  refine ⟨fun q => ⟨fun q2 => ?_, fun q2 => ?_⟩, fun q => ?_⟩
  · rw [show (0 : Int32) = nI 0 from rfl, nI_eq (by omega) (by omega)] at q
    rw [show (1 : Int32) = nI 1 from rfl, nI_eq (by omega) (by omega)] at q2
    rw [if_neg q, if_neg q2] at h
    exact h
  · rw [show (0 : Int32) = nI 0 from rfl, nI_eq (by omega) (by omega)] at q
    rw [show (1 : Int32) = nI 1 from rfl, nI_eq (by omega) (by omega)] at q2
    rw [if_neg q, if_pos q2] at h
    exact h
  · rw [show (0 : Int32) = nI 0 from rfl, nI_eq (by omega) (by omega)] at q
    rw [if_pos q] at h
    exact h
theorem vr_valueAt {key i : Nat} (hk : key < 1000000000) (hi : i < 3) (σ : z_S) (P : Int32 → z_S → Prop) (h : P (nI (dg key i)) σ) : kp_Vr_valueAt (nI key) (nI i) σ P := by
  unfold dg at h
  have d6 : nI key / (1000000 : Int32) = nI (key / 1000000) := pk_div (d := 1000000) (by omega) (by omega) (by omega)
  have d3 : nI key / (1000 : Int32) = nI (key / 1000) := pk_div (d := 1000) (by omega) (by omega) (by omega)
  have m3 : nI key - nI key / (1000 : Int32) * (1000 : Int32) = nI (key % 1000) := pk_rem (d := 1000) (by omega) (by omega) (by omega)
  have m33 : nI (key / 1000) - nI (key / 1000) / (1000 : Int32) * (1000 : Int32) = nI (key / 1000 % 1000) := pk_rem (d := 1000) (by omega) (by omega) (by omega)
  refine ⟨fun q => ⟨fun q2 => ?_, fun q2 => ?_⟩, fun q => ?_⟩
  · rw [show (0 : Int32) = nI 0 from rfl, nI_eq (by omega) (by omega)] at q
    rw [show (1 : Int32) = nI 1 from rfl, nI_eq (by omega) (by omega)] at q2
    rw [if_neg q, if_neg q2] at h
    rw [m3]
    exact h
  · rw [show (0 : Int32) = nI 0 from rfl, nI_eq (by omega) (by omega)] at q
    rw [show (1 : Int32) = nI 1 from rfl, nI_eq (by omega) (by omega)] at q2
    rw [if_neg q, if_pos q2] at h
    rw [d3, m33]
    exact h
  · rw [show (0 : Int32) = nI 0 from rfl, nI_eq (by omega) (by omega)] at q
    rw [if_pos q] at h
    rw [d6]
    exact h
/-- a value 0 .. 999 -/
def isv (x : Int32) : Prop := ¬ x < 0 ∧ ¬ (999 : Int32) < x
theorem isv_iff {x : Int32} : isv x ↔ ∃ v : Nat, v < 1000 ∧ x = nI v := by
  unfold isv
  constructor
  · rintro ⟨h1, h2⟩
    rw [i32_lt] at h1 h2
    have e0 : (0 : Int32).toInt = 0 := by decide
    have e9 : (999 : Int32).toInt = 999 := by decide
    refine ⟨x.toInt.toNat, by omega, Int32.toInt_inj.mp ?_⟩
    rw [nI_toInt (by omega)]
    omega
  · rintro ⟨v, hv, rfl⟩
    refine ⟨nI_pos (by omega), ?_⟩
    rw [show (999 : Int32) = nI 999 from rfl, nI_ltI (by omega) (by omega)]
    omega
theorem vr_isValue (x : Int32) (σ : z_S) (P : Int32 → z_S → Prop) (h1 : isv x → P 1 σ) (h0 : ¬ isv x → P 0 σ) : kp_Vr_isValue x σ P := by
  refine ⟨fun q => h0 (fun g => g.1 q), fun q => ⟨fun q2 => h0 (fun g => g.2 q2), fun q2 => h1 ⟨q, q2⟩⟩⟩
/-- what lies beyond the terms is not looked at -/
def gv (n i : Nat) (x : Int32) : Int32 := if i < n then x else 0
theorem vr_pack {n : Nat} (hn : n ≤ 3) (hn1 : 1 ≤ n) (a b c : Int32) (σ : z_S) (P : Int32 → z_S → Prop) (h1 : ∀ a' b' c' : Nat, a' < 1000 → b' < 1000 → c' < 1000 → a = nI a' → gv n 1 b = nI b' → gv n 2 c = nI c' → P (nI (pk3 a' b' c')) σ) (h0 : ¬ (isv a ∧ isv (gv n 1 b) ∧ isv (gv n 2 c)) → P (-1) σ) : kp_Vr_pack (nI n) a b c σ P := by
  intro X10 X22 X52 h10 h22 h52
  have fin : X22 (gv n 1 b) (gv n 2 c) σ := by
    have no : ¬ (isv a ∧ isv (gv n 1 b) ∧ isv (gv n 2 c)) → X52 (gv n 1 b) (gv n 2 c) 0 σ := fun hno => h52 _ _ _ _ ⟨fun _ => h0 hno, fun q => absurd rfl q⟩
    refine h22 _ _ _ (vr_isValue _ _ _ (fun g1 => ⟨fun q => absurd q (by decide), fun _ => vr_isValue _ _ _ (fun g2 => ⟨fun q => absurd q (by decide), fun _ => vr_isValue _ _ _ (fun g3 => ⟨fun q => absurd q (by decide), fun _ => ?_⟩) (fun g3 => ⟨fun _ => no (fun g => g3 g.2.2), fun q => absurd rfl q⟩)⟩) (fun g2 => ⟨fun _ => no (fun g => g2 g.2.1), fun q => absurd rfl q⟩)⟩) (fun g1 => ⟨fun _ => no (fun g => g1 g.1), fun q => absurd rfl q⟩))
    obtain ⟨a', ha, ea⟩ := isv_iff.mp g1
    obtain ⟨b', hb, eb⟩ := isv_iff.mp g2
    obtain ⟨c', hc, ec⟩ := isv_iff.mp g3
    have := h1 a' b' c' ha hb hc ea eb ec
    refine h52 _ _ _ _ ⟨fun q => absurd q (by decide), fun _ => ?_⟩
    have e : a * (1000000 : Int32) + gv n 1 b * (1000 : Int32) + gv n 2 c = nI (pk3 a' b' c') := by
      rw [ea, eb, ec, show (1000000 : Int32) = nI 1000000 from rfl, show (1000 : Int32) = nI 1000 from rfl, pk_mul, pk_mul, nI_add, nI_add]
      rfl
    rw [e]
    exact this
  have t2 : X10 (gv n 1 b) σ := by
    refine h10 _ _ ⟨fun q => ?_, fun q => ?_⟩
    · rw [show (2 : Int32) = nI 2 from rfl, nI_leI (by omega) (by omega)] at q
      have e : gv n 2 c = 0 := by rw [gv, if_neg (by omega)]
      rw [e] at fin
      exact fin
    · rw [show (2 : Int32) = nI 2 from rfl, nI_leI (by omega) (by omega)] at q
      have e : gv n 2 c = c := by rw [gv, if_pos (by omega)]
      rw [e] at fin
      exact fin
  refine ⟨fun q => ?_, fun q => ?_⟩
  · rw [show (1 : Int32) = nI 1 from rfl, nI_leI (by omega) (by omega)] at q
    have e : gv n 1 b = 0 := by rw [gv, if_neg (by omega)]
    rw [e] at t2
    exact t2
  · rw [show (1 : Int32) = nI 1 from rfl, nI_leI (by omega) (by omega)] at q
    have e : gv n 1 b = b := by rw [gv, if_pos (by omega)]
    rw [e] at t2
    exact t2
