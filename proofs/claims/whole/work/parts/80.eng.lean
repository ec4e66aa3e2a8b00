/-! THE CLASS'S ENGINE: its cells, its values, an atom -/
abbrev ex_T : Type := (Nat) × (Nat) × (Nat) × (Nat) × (Nat) × (Nat) × (Nat) × (Nat → Nat) × (Nat → Nat) × (Nat → Nat)
abbrev ex_T.a (x : ex_T) : Nat := x.1
abbrev ex_T.l (x : ex_T) : Nat := x.2.1
abbrev ex_T.v (x : ex_T) : Nat := x.2.2.1
abbrev ex_T.q (x : ex_T) : Nat := x.2.2.2.1
abbrev ex_T.k (x : ex_T) : Nat := x.2.2.2.2.1
abbrev ex_T.w (x : ex_T) : Nat := x.2.2.2.2.2.1
abbrev ex_T.s (x : ex_T) : Nat := x.2.2.2.2.2.2.1
abbrev ex_T.ra (x : ex_T) : Nat → Nat := x.2.2.2.2.2.2.2.1
abbrev ex_T.ka (x : ex_T) : Nat → Nat := x.2.2.2.2.2.2.2.2.1
abbrev ex_T.ca (x : ex_T) : Nat → Nat := x.2.2.2.2.2.2.2.2.2
def en_T (X : ex_T) (σ : z_S) : Prop := (z_ty σ X.a = some (.inl 1)) ∧ (z_R σ 100 X.a = some X.l) ∧ (z_ty σ X.l = some (.inr (0, 6, 2))) ∧ (z_R σ 101 X.a = some X.v) ∧ (z_ty σ X.v = some (.inr (0, 26, 3))) ∧ (z_R σ 102 X.a = some X.q) ∧ (z_ty σ X.q = some (.inr (0, 320, 4))) ∧ (z_R σ 103 X.a = some X.k) ∧ (z_ty σ X.k = some (.inr (0, 320, 5)))
theorem en_T.ty {X : ex_T} {σ : z_S} (h' : en_T X σ) : z_ty σ X.a = some (.inl 1) := h'.1
theorem en_T.rl {X : ex_T} {σ : z_S} (h' : en_T X σ) : z_R σ 100 X.a = some X.l := h'.2.1
theorem en_T.tl {X : ex_T} {σ : z_S} (h' : en_T X σ) : z_ty σ X.l = some (.inr (0, 6, 2)) := h'.2.2.1
theorem en_T.rv {X : ex_T} {σ : z_S} (h' : en_T X σ) : z_R σ 101 X.a = some X.v := h'.2.2.2.1
theorem en_T.tv {X : ex_T} {σ : z_S} (h' : en_T X σ) : z_ty σ X.v = some (.inr (0, 26, 3)) := h'.2.2.2.2.1
theorem en_T.rq {X : ex_T} {σ : z_S} (h' : en_T X σ) : z_R σ 102 X.a = some X.q := h'.2.2.2.2.2.1
theorem en_T.tq {X : ex_T} {σ : z_S} (h' : en_T X σ) : z_ty σ X.q = some (.inr (0, 320, 4)) := h'.2.2.2.2.2.2.1
theorem en_T.rk {X : ex_T} {σ : z_S} (h' : en_T X σ) : z_R σ 103 X.a = some X.k := h'.2.2.2.2.2.2.2.1
theorem en_T.tk {X : ex_T} {σ : z_S} (h' : en_T X σ) : z_ty σ X.k = some (.inr (0, 320, 5)) := h'.2.2.2.2.2.2.2.2
/-- the array of Rows and its eight objects -/
def rw_T (X : ex_T) (σ : z_S) : Prop := (z_ty σ X.w = some (.inr (9, 8, X.s))) ∧ (∀ i, i < 8 → z_Q σ X.s X.w i = some (X.ra i)) ∧ (∀ i, i < 8 → ro_T σ (X.ra i) (X.ka i) (X.ca i)) ∧ (∀ i j, i < 8 → j < 8 → X.ra i = X.ra j → i = j) ∧ (∀ i j, i < 8 → j < 8 → X.ka i = X.ka j → i = j) ∧ (∀ i j, i < 8 → j < 8 → X.ca i = X.ca j → i = j)
theorem rw_T.tw {X : ex_T} {σ : z_S} (h' : rw_T X σ) : z_ty σ X.w = some (.inr (9, 8, X.s)) := h'.1
theorem rw_T.qw {X : ex_T} {σ : z_S} (h' : rw_T X σ) : ∀ i, i < 8 → z_Q σ X.s X.w i = some (X.ra i) := h'.2.1
theorem rw_T.ro {X : ex_T} {σ : z_S} (h' : rw_T X σ) : ∀ i, i < 8 → ro_T σ (X.ra i) (X.ka i) (X.ca i) := h'.2.2.1
theorem rw_T.ia {X : ex_T} {σ : z_S} (h' : rw_T X σ) : ∀ i j, i < 8 → j < 8 → X.ra i = X.ra j → i = j := h'.2.2.2.1
theorem rw_T.ik {X : ex_T} {σ : z_S} (h' : rw_T X σ) : ∀ i j, i < 8 → j < 8 → X.ka i = X.ka j → i = j := h'.2.2.2.2.1
theorem rw_T.ic {X : ex_T} {σ : z_S} (h' : rw_T X σ) : ∀ i j, i < 8 → j < 8 → X.ca i = X.ca j → i = j := h'.2.2.2.2.2
/-- the rows as lists -/
def rw_L (X : ex_T) (σ : z_S) (T : Nat → al_T) : Prop := rw_T X σ ∧ ∀ i, i < 8 → ro_L σ (X.ra i) (X.ka i) (X.ca i) (T i)
/-- a term of the program: a number, or -1 less the letter -/
def ct (t : Nat) : Int32 := if t < 26 then (-1 : Int32) - nI t else nI (t - 100)
theorem ct_neg {t : Nat} (h : t < 26) : ct t < 0 ∧ (-1 : Int32) - ct t = nI t := by
  unfold ct
  rw [if_pos h]
  have : ∀ t, t < 26 → ((-1 : Int32) - nI t < 0 ∧ (-1 : Int32) - ((-1 : Int32) - nI t) = nI t) := by decide +kernel
  exact this t h
theorem ct_pos {t : Nat} (h : ¬ t < 26) (h2 : t < 1100) : ct t = nI (t - 100) ∧ ¬ ct t < 0 ∧ 0 ≤ ct t := by
  unfold ct
  rw [if_neg h]
  exact ⟨rfl, nI_pos (by omega), nI_pos' (by omega)⟩
/-- values and known variables -/
def eV (X : ex_T) (σ : z_S) (e : ev_T) : Prop := (ev_ok e) ∧ (∀ k, 26 ≤ k → e k = none) ∧ (∀ k, k < 26 → bi (z_I σ 105 X.a) k = (e k).isSome) ∧ (∀ k v, e k = some v → z_A σ 3 X.v k = nI v)
theorem eV.ok {X : ex_T} {σ : z_S} {e : ev_T} (h' : eV X σ e) : ev_ok e := h'.1
theorem eV.hi {X : ex_T} {σ : z_S} {e : ev_T} (h' : eV X σ e) : ∀ k, 26 ≤ k → e k = none := h'.2.1
theorem eV.kn {X : ex_T} {σ : z_S} {e : ev_T} (h' : eV X σ e) : ∀ k, k < 26 → bi (z_I σ 105 X.a) k = (e k).isSome := h'.2.2.1
theorem eV.vs {X : ex_T} {σ : z_S} {e : ev_T} (h' : eV X σ e) : ∀ k v, e k = some v → z_A σ 3 X.v k = nI v := h'.2.2.2
theorem eV_lt {X : ex_T} {σ : z_S} {e : ev_T} (h : eV X σ e) {k v : Nat} (hk : e k = some v) : k < 26 := by
  by_cases g : k < 26
  · exact g
  · rw [h.hi k (by omega)] at hk; cases hk
/-- an atom object: kind, relation or sign, terms; n terms -/
def at_L (σ : z_S) (b : Nat) (l : lit_T) (n : Nat) : Prop := (z_ty σ b = some (.inl 0)) ∧ (1 ≤ n) ∧ (n ≤ 3) ∧ (z_I σ 1 b = nI n) ∧ (∃ t, z_R σ 0 b = some t ∧ z_ty σ t = some (.inr (0, 3, 1)) ∧ ∀ i, i < n → z_A σ 1 t i = ct (tmi l.2.2 i)) ∧ (∀ i, n ≤ i → i < 3 → tmi l.2.2 i = 100) ∧ (z_I σ 2 b = nI l.1) ∧ (l.1 ≤ 2) ∧ (l.1 ≤ 1 → z_I σ 3 b = nI l.2.1 ∧ l.2.1 < 8) ∧ (l.1 = 2 → z_I σ 4 b = nI l.2.1 ∧ l.2.1 < 256 ∧ n = 2) ∧ (∀ k, k < 32 → (bi (z_I σ 5 b) k = true ↔ vin3 l.2.2 k)) ∧ (tm3_ok l.2.2)
theorem at_L.ty {σ : z_S} {b : Nat} {l : lit_T} {n : Nat} (h' : at_L σ b l n) : z_ty σ b = some (.inl 0) := h'.1
theorem at_L.n1 {σ : z_S} {b : Nat} {l : lit_T} {n : Nat} (h' : at_L σ b l n) : 1 ≤ n := h'.2.1
theorem at_L.n3 {σ : z_S} {b : Nat} {l : lit_T} {n : Nat} (h' : at_L σ b l n) : n ≤ 3 := h'.2.2.1
theorem at_L.sz {σ : z_S} {b : Nat} {l : lit_T} {n : Nat} (h' : at_L σ b l n) : z_I σ 1 b = nI n := h'.2.2.2.1
theorem at_L.tm {σ : z_S} {b : Nat} {l : lit_T} {n : Nat} (h' : at_L σ b l n) : ∃ t, z_R σ 0 b = some t ∧ z_ty σ t = some (.inr (0, 3, 1)) ∧ ∀ i, i < n → z_A σ 1 t i = ct (tmi l.2.2 i) := h'.2.2.2.2.1
theorem at_L.rs {σ : z_S} {b : Nat} {l : lit_T} {n : Nat} (h' : at_L σ b l n) : ∀ i, n ≤ i → i < 3 → tmi l.2.2 i = 100 := h'.2.2.2.2.2.1
theorem at_L.kd {σ : z_S} {b : Nat} {l : lit_T} {n : Nat} (h' : at_L σ b l n) : z_I σ 2 b = nI l.1 := h'.2.2.2.2.2.2.1
theorem at_L.k2 {σ : z_S} {b : Nat} {l : lit_T} {n : Nat} (h' : at_L σ b l n) : l.1 ≤ 2 := h'.2.2.2.2.2.2.2.1
theorem at_L.rl {σ : z_S} {b : Nat} {l : lit_T} {n : Nat} (h' : at_L σ b l n) : l.1 ≤ 1 → z_I σ 3 b = nI l.2.1 ∧ l.2.1 < 8 := h'.2.2.2.2.2.2.2.2.1
theorem at_L.op {σ : z_S} {b : Nat} {l : lit_T} {n : Nat} (h' : at_L σ b l n) : l.1 = 2 → z_I σ 4 b = nI l.2.1 ∧ l.2.1 < 256 ∧ n = 2 := h'.2.2.2.2.2.2.2.2.2.1
theorem at_L.lt {σ : z_S} {b : Nat} {l : lit_T} {n : Nat} (h' : at_L σ b l n) : ∀ k, k < 32 → (bi (z_I σ 5 b) k = true ↔ vin3 l.2.2 k) := h'.2.2.2.2.2.2.2.2.2.2.1
theorem at_L.to {σ : z_S} {b : Nat} {l : lit_T} {n : Nat} (h' : at_L σ b l n) : tm3_ok l.2.2 := h'.2.2.2.2.2.2.2.2.2.2.2
theorem tmi_ok {ts : tm_T} (h : tm3_ok ts) (i : Nat) : tmi ts i < 1100 := by
  unfold tmi
  split
  · exact h.1
  · split
    · exact h.2.1
    · exact h.2.2
theorem tmi_vin {ts : tm_T} {i : Nat} (h : tmi ts i < 26) : vin3 ts (tmi ts i) := by
  refine ⟨h, ?_⟩
  unfold tmi
  split
  · exact Or.inl rfl
  · split
    · exact Or.inr (Or.inl rfl)
    · exact Or.inr (Or.inr rfl)
theorem en_valueOf {X : ex_T} {σ : z_S} (hE : en_T X σ) {e : ev_T} (he : eV X σ e) {t : Nat} (ht : t < 1100) (hb : t < 26 → e t ≠ none) (P : Int32 → z_S → Prop) (hP : P (nI (tv e t)) σ) : kp_En_valueOf X.a (ct t) σ P := by
  unfold kp_En_valueOf
  by_cases h : t < 26
  · obtain ⟨c1, c2⟩ := ct_neg h
    refine ⟨fun _ => ⟨hE.ty, X.v, hE.rv, 26, 3, hE.tv, ?_, ?_⟩, fun q => absurd c1 q⟩
    · rw [c2]; exact vp_in_nI h (by decide)
    · rw [c2, cl_nI (by omega)]
      cases hk : e t with
      | none => exact absurd hk (hb h)
      | some v =>
        rw [he.vs t v hk]
        unfold tv at hP
        rw [if_neg (by omega), hk] at hP
        exact hP
  · obtain ⟨c1, c2, _⟩ := ct_pos h ht
    refine ⟨fun q => absurd q c2, fun _ => ?_⟩
    rw [c1]
    unfold tv at hP
    rw [if_pos (by omega)] at hP
    exact hP
theorem en_isKnown {X : ex_T} {σ : z_S} (hE : en_T X σ) {e : ev_T} (he : eV X σ e) {t : Nat} (ht : t < 1100) (P : Int32 → z_S → Prop) (hP : P (if t < 26 ∧ e t = none then 0 else 1) σ) : kp_En_isKnown X.a (ct t) σ P := by
  unfold kp_En_isKnown
  by_cases h : t < 26
  · obtain ⟨c1, c2⟩ := ct_neg h
    refine ⟨fun q => absurd c1 (by rw [i32_lt, Int.not_lt]; exact i32_le.mp q), fun _ => ⟨hE.ty, ?_⟩⟩
    rw [c2]
    refine vr_isIn _ _ _ _ ?_
    rw [he.kn t h]
    cases hk : e t with
    | none =>
      rw [hk] at hP
      rw [if_pos ⟨h, rfl⟩] at hP
      exact ⟨fun _ => hP, fun q => absurd rfl q⟩
    | some v =>
      rw [hk] at hP
      rw [if_neg (fun q => by cases q.2)] at hP
      exact ⟨fun q => absurd q (by simp), fun _ => hP⟩
  · obtain ⟨c1, _, c2⟩ := ct_pos h ht
    rw [if_neg (fun q => h q.1)] at hP
    exact ⟨fun _ => hP, fun q => absurd c2 q⟩
def kar (n key : Nat) : Prop := key < 1000000000 ∧ ∀ i, n ≤ i → i < 3 → dg key i = 0
/-- the key of the first i terms -/
def hkI (e : ev_T) (ts : tm_T) : Nat → Nat
  | 0 => 0
  | i + 1 => hkI e ts i + tv e (tmi ts i) * wt i
theorem hkI_3 (e : ev_T) (ts : tm_T) : hkI e ts 3 = hk3 e ts := by
  unfold hk3 pk3
  simp [hkI, tmi, wt]
theorem hkI_n {e : ev_T} {ts : tm_T} {n : Nat} (hn : n ≤ 3) (hr : ∀ i, n ≤ i → i < 3 → tmi ts i = 100) : hkI e ts n = hk3 e ts := by
  rw [← hkI_3]
  have h : ∀ i, n ≤ i → i < 3 → tv e (tmi ts i) = 0 := fun i h1 h2 => by rw [hr i h1 h2]; rfl
  rcases (show n = 0 ∨ n = 1 ∨ n = 2 ∨ n = 3 by omega) with rfl | rfl | rfl | rfl
  · simp [hkI, h 0 (by omega) (by omega), h 1 (by omega) (by omega), h 2 (by omega) (by omega)]
  · simp [hkI, h 1 (by omega) (by omega), h 2 (by omega) (by omega)]
  · simp [hkI, h 2 (by omega) (by omega)]
  · rfl
theorem en_keyOf {X : ex_T} {σ : z_S} (hE : en_T X σ) {e : ev_T} (he : eV X σ e) {b n : Nat} {l : lit_T} (hA : at_L σ b l n) (hb : ∀ k, vin3 l.2.2 k → e k ≠ none) (P : Int32 → z_S → Prop) (hP : P (nI (hk3 e l.2.2)) σ) : kp_En_keyOf X.a b σ P := by
  intro X4 hX
  obtain ⟨t, ht1, ht2, ht3⟩ := hA.tm
  have hn3 := hA.n3
  have key : ∀ m i, i + m = n → X4 (nI (hkI e l.2.2 i)) (nI i) σ := by
    intro m
    induction m with
    | zero =>
      intro i hi
      refine hX _ _ _ ⟨hA.ty, ?_⟩
      rw [hA.sz]
      refine ⟨fun _ => ?_, fun q => absurd (nI_le (by omega) (by omega)) q⟩
      rw [show i = n by omega, hkI_n hn3 hA.rs]
      exact hP
    | succ m ih =>
      intro i hi
      refine hX _ _ _ ⟨hA.ty, ?_⟩
      rw [hA.sz]
      refine ⟨fun q => absurd q (nI_ge (by omega) (by omega)), fun _ => ?_⟩
      refine ⟨hA.ty, t, ht1, 3, 1, ht2, vp_in_nI (by omega) (by decide), hE.ty, ?_⟩
      rw [cl_nI (by omega), ht3 i (by omega)]
      refine en_valueOf hE he (tmi_ok hA.to i) (fun q => hb _ (tmi_vin q)) _ ?_
      refine vr_weight (by omega) _ _ ?_
      rw [pk_mul, nI_add, nI_1]
      exact ih (i + 1) (by omega)
  exact key n 0 (by omega)
