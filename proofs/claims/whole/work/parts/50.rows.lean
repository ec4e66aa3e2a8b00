/-! ROWS: one object with keys (site 12), counts (site 13), size (402) -/
def ro_T (σ : z_S) (a k c : Nat) : Prop := z_ty σ a = some (.inl 4) ∧ z_R σ 400 a = some k ∧ z_R σ 401 a = some c ∧ z_ty σ k = some (.inr (0, 100, 12)) ∧ z_ty σ c = some (.inr (0, 100, 13))
theorem i32_lt {a b : Int32} : a < b ↔ a.toInt < b.toInt := Int32.lt_iff_toInt_lt
theorem i32_le {a b : Int32} : a ≤ b ↔ a.toInt ≤ b.toInt := Int32.le_iff_toInt_le
theorem nI_last {b s : Nat} (hs : 1 ≤ s) : nI b + nI s - (1 : Int32) = nI (b + s - 1) := by
  rw [nI_add, show (1 : Int32) = nI 1 from rfl, pk_sub (by omega)]
theorem nI_half (n : Nat) (h : n < 2 ^ 31) : nI n >>> ((1 : Int32) &&& 31) = nI (n / 2) := pk_shrN h _ 1 (by decide)
theorem cl_nI {n : Nat} (h : n < 2 ^ 31) : (nI n).toNatClampNeg = n := nI_clamp h
/-- how many keys lie below x -/
theorem ro_seek {σ : z_S} {a k c : Nat} (hT : ro_T σ a k c) {n : Nat} (hn : n ≤ 100) (hz : z_I σ 402 a = nI n) (x : Int32) (P : Int32 → z_S → Prop)
    (hs : ∀ i j, i < j → j < n → z_A σ 12 k i < z_A σ 12 k j)
    (hP : ∀ b : Nat, b ≤ n → (∀ i, i < b → z_A σ 12 k i < x) → (∀ i, b ≤ i → i < n → ¬ z_A σ 12 k i < x) → P (nI b) σ) : kp_Ro_seek a x σ P := by
  obtain ⟨h1, h2, h3, h4, h5⟩ := hT
  intro X5 hX
  have loop : ∀ (j b : Nat), j ≤ 7 → b ≤ n → b + 2 ^ j ≤ 128 → (∀ i, i < b → z_A σ 12 k i < x) → (∀ i, b + 2 ^ j ≤ i + 1 → i < n → ¬ z_A σ 12 k i < x) → X5 (nI b) (nI (2 ^ j / 2)) σ := by
    intro j
    induction j with
    | zero =>
      intro b _ hb _ hlo hhi
      refine hX _ _ _ ⟨fun _ => hP b hb hlo (fun i hi hin => hhi i (by omega) hin), fun h => absurd (by decide) h⟩
    | succ j ih =>
      intro b hj hb hbn hlo hhi
      have e2 : 2 ^ (j + 1) / 2 = 2 ^ j := by rw [Nat.pow_succ]; omega
      have hp : 1 ≤ 2 ^ j := Nat.one_le_two_pow
      have hpp : 2 ^ (j + 1) = 2 * 2 ^ j := by rw [Nat.pow_succ]; omega
      have hsm : 2 ^ j ≤ 64 := by
        have : 2 ^ j ≤ 2 ^ 6 := Nat.pow_le_pow_right (by omega) (by omega)
        omega
      rw [e2]
      have el : nI b + nI (2 ^ j) - (1 : Int32) = nI (b + 2 ^ j - 1) := nI_last hp
      have eh : nI (2 ^ j) >>> ((1 : Int32) &&& 31) = nI (2 ^ j / 2) := nI_half _ (by omega)
      refine hX _ _ _ ⟨fun h => absurd h (nI_nle (by omega) (by omega)), fun _ => ⟨h1, ?_, ?_⟩⟩
      · intro hc
        rw [hz, el, nI_leI (by omega) (by omega)] at hc
        rw [eh]
        exact ih b (by omega) hb (by omega) hlo (fun i hi hin => by omega)
      · intro hc
        rw [hz, el, nI_leI (by omega) (by omega)] at hc
        refine ⟨fun hc2 => ?_, fun hc2 => ?_⟩
        · rw [el, show (100 : Int32) = nI 100 from rfl, nI_leI (by omega) (by omega)] at hc2
          omega
        · refine ⟨h1, k, h2, 100, 12, h4, ?_, ?_⟩
          · rw [el]
            exact vp_in_nI (by omega) (by omega)
          · rw [el, eh, cl_nI (by omega)]
            refine ⟨fun hc3 => ?_, fun hc3 => ?_⟩
            · refine ih b (by omega) hb (by omega) hlo (fun i hi hin => ?_)
              rcases Nat.lt_or_ge (b + 2 ^ j - 1) i with g | g
              · have := hs _ _ g hin
                rw [i32_lt] at *
                rw [i32_le] at hc3
                omega
              · have : i = b + 2 ^ j - 1 := by omega
                subst this
                rw [i32_lt]
                rw [i32_le] at hc3
                omega
            · rw [nI_add]
              refine ih (b + 2 ^ j) (by omega) (by omega) (by omega) (fun i hi => ?_) (fun i hi hin => hhi i (by omega) hin)
              rcases Nat.lt_or_ge i (b + 2 ^ j - 1) with g | g
              · have := hs i (b + 2 ^ j - 1) g (by omega)
                rw [i32_lt] at *
                rw [i32_le] at hc3
                omega
              · have : i = b + 2 ^ j - 1 := by omega
                subst this
                rw [i32_lt]
                rw [i32_le] at hc3
                omega
  exact loop 7 0 (by omega) (by omega) (by omega) (fun i hi => by omega) (fun i hi hin => by omega)
/-- keys and counts of one object written -/
def ro_w (σ : z_S) (k c : Nat) (F G : Nat → Int32) : z_S := z_sA (z_sA σ 12 k F) 13 c G
theorem ro_w_F (σ : z_S) (k c : Nat) (F G : Nat → Int32) : z_A (ro_w σ k c F G) 12 k = F := by simp [ro_w, z_A_sA]
theorem ro_w_G (σ : z_S) (k c : Nat) (F G : Nat → Int32) : z_A (ro_w σ k c F G) 13 c = G := by simp [ro_w, z_A_sA]
theorem z_sA_sA (σ : z_S) (t a : Nat) (F G : Nat → Int32) : z_sA (z_sA σ t a F) t a G = z_sA σ t a G := by
  refine Prod.ext rfl (Prod.ext rfl (Prod.ext rfl (Prod.ext ?_ rfl)))
  funext g b
  simp only [z_sA]
  split <;> rfl
theorem z_sA_cm (σ : z_S) (t a u b : Nat) (F G : Nat → Int32) (h : t ≠ u) : z_sA (z_sA σ t a F) u b G = z_sA (z_sA σ u b G) t a F := by
  refine Prod.ext rfl (Prod.ext rfl (Prod.ext rfl (Prod.ext ?_ rfl)))
  funext g d
  simp only [z_sA]
  by_cases h1 : g = t ∧ d = a
  · by_cases h2 : g = u ∧ d = b
    · exact absurd (h1.1.symm.trans h2.1) h
    · simp [h1, h2, h]
  · by_cases h2 : g = u ∧ d = b
    · simp [h2, Ne.symm h]
    · simp [h1, h2]
theorem z_sA_id (σ : z_S) (t a : Nat) : z_sA σ t a (z_A σ t a) = σ := by
  refine Prod.ext rfl (Prod.ext rfl (Prod.ext rfl (Prod.ext ?_ rfl)))
  funext g b
  simp only [z_sA, z_A]
  split
  · rename_i h
    rw [h.1, h.2]
  · rfl
theorem ro_w_sF (σ : z_S) (k c : Nat) (F G F' : Nat → Int32) : z_sA (ro_w σ k c F G) 12 k F' = ro_w σ k c F' G := by
  unfold ro_w
  rw [z_sA_cm _ 13 c 12 k _ _ (by omega), z_sA_sA]
theorem ro_w_sG (σ : z_S) (k c : Nat) (F G G' : Nat → Int32) : z_sA (ro_w σ k c F G) 13 c G' = ro_w σ k c F G' := by
  unfold ro_w
  rw [z_sA_sA]
theorem ro_w_id (σ : z_S) (k c : Nat) : ro_w σ k c (z_A σ 12 k) (z_A σ 13 c) = σ := by
  unfold ro_w
  rw [z_sA_id, z_sA_id]
theorem gd_eq {α : Type} (l : List α) (d : α) {i : Nat} (h : i < l.length) : l.getD i d = l[i] := by simp [List.getD, h]
/-! sorted rows with counts -/
abbrev al_T : Type := List (Nat × Int)
def al_s (l : al_T) : Prop := l.Pairwise (fun p q => p.1 < q.1)
def al_k (l : al_T) : Prop := ∀ p ∈ l, p.1 < 1000000000
def al_get : al_T → Nat → Int
  | [], _ => 0
  | p :: r, key => if p.1 = key then p.2 else al_get r key
def al_in (l : al_T) (key : Nat) : Prop := ∃ p ∈ l, p.1 = key
def al_add : al_T → Nat → Int → al_T
  | [], key, d => [(key, d)]
  | p :: r, key, d => if p.1 < key then p :: al_add r key d else if p.1 = key then (key, p.2 + d) :: r else (key, d) :: p :: r
/-- how many keys lie below -/
def al_b (l : al_T) (key : Nat) : Nat := (l.takeWhile (fun p => p.1 < key)).length
theorem al_b_nil (key : Nat) : al_b [] key = 0 := rfl
theorem al_b_cons (p : Nat × Int) (r : al_T) (key : Nat) : al_b (p :: r) key = if p.1 < key then al_b r key + 1 else 0 := by
  unfold al_b
  by_cases h : p.1 < key <;> simp [List.takeWhile_cons, h]
theorem al_b_le : ∀ (l : al_T) (key : Nat), al_b l key ≤ l.length
  | [], key => by simp [al_b_nil]
  | p :: r, key => by
    rw [al_b_cons]
    have := al_b_le r key
    split <;> simp <;> omega
theorem al_b_lo : ∀ (l : al_T) (key i : Nat), i < al_b l key → (l.getD i (0, 0)).1 < key
  | [], key, i, h => by simp [al_b_nil] at h
  | p :: r, key, i, h => by
    rw [al_b_cons] at h
    split at h
    · rename_i hp
      cases i with
      | zero => simpa using hp
      | succ i => simpa using al_b_lo r key i (by omega)
    · omega
theorem al_b_hi : ∀ (l : al_T) (key i : Nat), al_s l → al_b l key ≤ i → i < l.length → ¬ (l.getD i (0, 0)).1 < key
  | [], key, i, _, _, h => by simp at h
  | p :: r, key, i, hs, hb, hi => by
    rw [al_b_cons] at hb
    obtain ⟨h1, h2⟩ := List.pairwise_cons.mp hs
    cases i with
    | zero =>
      split at hb
      · omega
      · rename_i hp
        simpa using hp
    | succ i =>
      have hi' : i < r.length := by simpa using hi
      split at hb
      · simpa using al_b_hi r key i h2 (by omega) hi'
      · rename_i hp
        have h3 := h1 (r.getD i (0, 0)) (by rw [gd_eq _ _ hi']; exact List.getElem_mem hi')
        simp only [List.getD_cons_succ]
        omega
theorem al_get_b : ∀ (l : al_T) (key : Nat), al_s l → al_get l key = if al_b l key < l.length ∧ (l.getD (al_b l key) (0, 0)).1 = key then (l.getD (al_b l key) (0, 0)).2 else 0
  | [], key, _ => by simp [al_get]
  | p :: r, key, hs => by
    obtain ⟨h1, h2⟩ := List.pairwise_cons.mp hs
    have ih := al_get_b r key h2
    rw [al_b_cons]
    by_cases hp : p.1 < key
    · have hne : p.1 ≠ key := by omega
      simp only [al_get, if_pos hp, if_neg hne, ih, List.length_cons, List.getD_cons_succ, Nat.add_lt_add_iff_right]
    · simp only [if_neg hp, List.length_cons, List.getD_cons_zero]
      by_cases he : p.1 = key
      · simp [al_get, he]
      · have hno : ∀ q ∈ r, q.1 ≠ key := fun q hq => by
          have := h1 q hq
          omega
        have hz : al_get r key = 0 := by
          rw [ih]
          rw [if_neg]
          rintro ⟨g1, g2⟩
          exact hno _ (by rw [gd_eq _ _ g1]; exact List.getElem_mem g1) g2
        simp [al_get, he, hz]
theorem al_in_b {l : al_T} {key : Nat} (hs : al_s l) : al_in l key ↔ al_b l key < l.length ∧ (l.getD (al_b l key) (0, 0)).1 = key := by
  constructor
  · rintro ⟨p, hp, he⟩
    obtain ⟨i, hi, hpi⟩ := List.getElem_of_mem hp
    have hg : l.getD i (0, 0) = p := by rw [gd_eq _ _ hi, hpi]
    have h1 : ¬ i < al_b l key := fun h => by
      have := al_b_lo l key i h
      rw [hg] at this
      omega
    have h2 : al_b l key < l.length := by omega
    have h3 := al_b_hi l key (al_b l key) hs (Nat.le_refl _) h2
    refine ⟨h2, ?_⟩
    rcases Nat.lt_or_ge (al_b l key) i with g | g
    · have h4 := List.pairwise_iff_getElem.mp hs (al_b l key) i h2 hi g
      rw [← gd_eq _ (0, 0) h2, hpi, he] at h4
      omega
    · have : i = al_b l key := by omega
      rw [← this, hg]
      exact he
  · rintro ⟨h1, h2⟩
    exact ⟨_, by rw [gd_eq _ _ h1]; exact List.getElem_mem h1, h2⟩
theorem al_add_old : ∀ (l : al_T) (key : Nat) (d : Int), al_s l → al_in l key → al_add l key d = l.set (al_b l key) (key, (l.getD (al_b l key) (0, 0)).2 + d)
  | [], key, d, _, h => by obtain ⟨p, hp, _⟩ := h; cases hp
  | p :: r, key, d, hs, h => by
    obtain ⟨h1, h2⟩ := List.pairwise_cons.mp hs
    rw [al_b_cons]
    by_cases hp : p.1 < key
    · have hr : al_in r key := by
        obtain ⟨q, hq, he⟩ := h
        rcases List.mem_cons.mp hq with rfl | hq
        · omega
        · exact ⟨q, hq, he⟩
      simp only [al_add, if_pos hp, List.getD_cons_succ, List.set_cons_succ, al_add_old r key d h2 hr]
    · have he : p.1 = key := by
        obtain ⟨q, hq, he⟩ := h
        rcases List.mem_cons.mp hq with rfl | hq
        · exact he
        · have := h1 q hq
          omega
      simp [al_add, he]
theorem al_add_len : ∀ (l : al_T) (key : Nat) (d : Int), al_s l → ¬ al_in l key → (al_add l key d).length = l.length + 1
  | [], key, d, _, _ => rfl
  | p :: r, key, d, hs, h => by
    obtain ⟨h1, h2⟩ := List.pairwise_cons.mp hs
    have hne : p.1 ≠ key := fun e => h ⟨p, List.mem_cons_self, e⟩
    by_cases hp : p.1 < key
    · have hr : ¬ al_in r key := fun ⟨q, hq, e⟩ => h ⟨q, List.mem_cons_of_mem _ hq, e⟩
      simp [al_add, hp, al_add_len r key d h2 hr]
    · simp [al_add, hp, hne]
theorem al_add_new : ∀ (l : al_T) (key : Nat) (d : Int) (i : Nat), al_s l → ¬ al_in l key → i ≤ l.length → (al_add l key d).getD i (0, 0) = if i < al_b l key then l.getD i (0, 0) else if i = al_b l key then (key, d) else l.getD (i - 1) (0, 0)
  | [], key, d, i, _, _, hi => by
    have : i = 0 := by simpa using hi
    subst this
    simp [al_add, al_b_nil]
  | p :: r, key, d, i, hs, h, hi => by
    obtain ⟨h1, h2⟩ := List.pairwise_cons.mp hs
    have hne : p.1 ≠ key := fun e => h ⟨p, List.mem_cons_self, e⟩
    rw [al_b_cons]
    by_cases hp : p.1 < key
    · have hr : ¬ al_in r key := fun ⟨q, hq, e⟩ => h ⟨q, List.mem_cons_of_mem _ hq, e⟩
      cases i with
      | zero => simp [al_add, hp]
      | succ i =>
        have ih := al_add_new r key d i h2 hr (by simpa using hi)
        simp only [al_add, if_pos hp, List.getD_cons_succ, ih, Nat.add_lt_add_iff_right, Nat.add_right_cancel_iff, Nat.add_sub_cancel]
        by_cases g1 : i < al_b r key
        · simp [g1]
        · by_cases g2 : i = al_b r key
          · simp [g1, g2]
          · simp only [if_neg g1, if_neg g2]
            have : i = (i - 1) + 1 := by omega
            rw [this]
            simp
    · simp only [al_add, if_neg hp, if_neg hne]
      cases i with
      | zero => simp
      | succ i => simp
theorem al_add_mem {l : al_T} {key : Nat} {d : Int} {q : Nat × Int} : q ∈ al_add l key d → q ∈ l ∨ q.1 = key := by
  induction l with
  | nil =>
    intro h
    simp only [al_add, List.mem_singleton] at h
    exact Or.inr (by rw [h])
  | cons p r ih =>
    intro h
    simp only [al_add] at h
    split at h
    · rcases List.mem_cons.mp h with rfl | h
      · exact Or.inl List.mem_cons_self
      · rcases ih h with h | h
        · exact Or.inl (List.mem_cons_of_mem _ h)
        · exact Or.inr h
    · split at h
      · rcases List.mem_cons.mp h with rfl | h
        · exact Or.inr rfl
        · exact Or.inl (List.mem_cons_of_mem _ h)
      · rcases List.mem_cons.mp h with rfl | h
        · exact Or.inr rfl
        · exact Or.inl h
theorem al_add_s {l : al_T} {key : Nat} {d : Int} (hs : al_s l) : al_s (al_add l key d) := by
  induction l with
  | nil => simp [al_add, al_s]
  | cons p r ih =>
    obtain ⟨h1, h2⟩ := List.pairwise_cons.mp hs
    simp only [al_add]
    split
    · rename_i hp
      refine List.pairwise_cons.mpr ⟨fun q hq => ?_, ih h2⟩
      rcases al_add_mem hq with h | h
      · exact h1 q h
      · omega
    · split
      · rename_i he
        refine List.pairwise_cons.mpr ⟨fun q hq => ?_, h2⟩
        have := h1 q hq
        simp only
        omega
      · rename_i g1 g2
        refine List.pairwise_cons.mpr ⟨fun q hq => ?_, hs⟩
        rcases List.mem_cons.mp hq with rfl | hq
        · simp only
          omega
        · have := h1 q hq
          simp only
          omega
theorem al_get_add {l : al_T} {key key' : Nat} {d : Int} (hs : al_s l) : al_get (al_add l key d) key' = if key' = key then al_get l key + d else al_get l key' := by
  induction l with
  | nil =>
    by_cases h : key' = key
    · subst h
      simp [al_add, al_get]
    · have h' : key ≠ key' := Ne.symm h
      simp [al_add, al_get, h, h']
  | cons p r ih =>
    obtain ⟨h1, h2⟩ := List.pairwise_cons.mp hs
    have ih := ih h2
    simp only [al_add]
    have hno : ∀ q ∈ r, q.1 ≠ p.1 := fun q hq => by
      have := h1 q hq
      omega
    split
    · rename_i hp
      simp only [al_get, ih]
      by_cases h : key' = key
      · subst h
        have : p.1 ≠ key' := by omega
        simp [this]
      · simp [h]
    · split
      · rename_i g1 he
        simp only [al_get]
        by_cases h : key' = key
        · subst h
          simp [he]
        · have h' : key ≠ key' := Ne.symm h
          have h'' : p.1 ≠ key' := by omega
          simp [h, h', h'']
      · rename_i g1 g2
        have hz : al_get r key = 0 := by
          have hb : ∀ (r : al_T), (∀ q ∈ r, q.1 ≠ key) → al_get r key = 0 := by
            intro r
            induction r with
            | nil => intro _; rfl
            | cons q r ih =>
              intro h
              simp only [al_get, if_neg (h q List.mem_cons_self)]
              exact ih (fun x hx => h x (List.mem_cons_of_mem _ hx))
          refine hb r (fun q hq => ?_)
          have := h1 q hq
          omega
        simp only [al_get]
        by_cases h : key' = key
        · subst h
          simp [g2, hz]
        · have h' : key ≠ key' := Ne.symm h
          simp [h, h']
/-- an object of Rows holds a list -/
def ro_L (σ : z_S) (a k c : Nat) (l : al_T) : Prop := ro_T σ a k c ∧ z_I σ 402 a = nI l.length ∧ l.length ≤ 100 ∧ al_s l ∧ al_k l ∧ ∀ i, i < l.length → z_A σ 12 k i = nI (l.getD i (0, 0)).1 ∧ z_A σ 13 c i = Int32.ofInt (l.getD i (0, 0)).2
theorem al_k_gd {l : al_T} (h : al_k l) {i : Nat} (hi : i < l.length) : (l.getD i (0, 0)).1 < 1000000000 := by
  rw [gd_eq l _ hi]
  exact h _ (List.getElem_mem hi)
theorem ro_seekL {σ : z_S} {a k c : Nat} {l : al_T} (h : ro_L σ a k c l) {key : Nat} (hk : key < 1000000000) (P : Int32 → z_S → Prop) (hP : P (nI (al_b l key)) σ) : kp_Ro_seek a (nI key) σ P := by
  obtain ⟨hT, hz, hn, hs, hkk, hA⟩ := h
  refine ro_seek hT hn hz (nI key) P (fun i j hij hj => ?_) (fun b hb hlo hhi => ?_)
  · rw [(hA i (by omega)).1, (hA j hj).1]
    have h1 := al_k_gd hkk (i := i) (by omega)
    have h2 := al_k_gd hkk hj
    have h3 := List.pairwise_iff_getElem.mp hs i j (by omega) hj hij
    rw [← gd_eq l (0, 0), ← gd_eq l (0, 0)] at h3
    exact (nI_ltI (by omega) (by omega)).mpr h3
  · have e : b = al_b l key := by
      have hbl := al_b_le l key
      rcases Nat.lt_trichotomy b (al_b l key) with g | g | g
      · have h1 := al_b_lo l key b g
        have h2 := hhi b (Nat.le_refl _) (by omega)
        rw [(hA b (by omega)).1, nI_ltI (by omega) (by omega)] at h2
        exact absurd h1 h2
      · exact g
      · have h1 := hlo _ g
        have h2 := al_b_hi l key (al_b l key) hs (Nat.le_refl _) (by omega)
        have h3 := al_k_gd hkk (i := al_b l key) (by omega)
        rw [(hA _ (by omega)).1, nI_ltI (by omega) (by omega)] at h1
        exact absurd h1 h2
    rw [e]
    exact hP
theorem ro_countOf {σ : z_S} {a k c : Nat} {l : al_T} (h : ro_L σ a k c l) {key : Nat} (hk : key < 1000000000) (P : Int32 → z_S → Prop) (hP : P (Int32.ofInt (al_get l key)) σ) : kp_Ro_countOf a (nI key) σ P := by
  have h0 := h
  obtain ⟨⟨t1, t2, t3, t4, t5⟩, hz, hn, hs, hkk, hA⟩ := h
  have hbl := al_b_le l key
  have hg := al_get_b l key hs
  refine ⟨t1, ro_seekL h0 hk _ ⟨t1, fun hc => ?_, fun hc => ⟨t1, k, t2, 100, 12, t4, vp_in_nI ?_ (by omega), fun hc2 => ?_, fun hc2 => ?_⟩⟩⟩
  · rw [hz, nI_leI (by omega) (by omega)] at hc
    rw [if_neg (by omega)] at hg
    rw [hg] at hP
    exact hP
  · rw [hz, nI_leI (by omega) (by omega)] at hc
    omega
  · rw [hz, nI_leI (by omega) (by omega)] at hc
    rw [cl_nI (by omega), (hA _ (by omega)).1] at hc2
    rw [if_neg (fun q => hc2 (by rw [q.2]))] at hg
    rw [hg] at hP
    exact hP
  · rw [hz, nI_leI (by omega) (by omega)] at hc
    rw [cl_nI (by omega), (hA _ (by omega)).1] at hc2
    have h3 := al_k_gd hkk (i := al_b l key) (by omega)
    rw [nI_eq (by omega) (by omega)] at hc2
    rw [if_pos ⟨by omega, hc2⟩] at hg
    refine ⟨t1, c, t3, 100, 13, t5, vp_in_nI (by omega) (by omega), ?_⟩
    rw [cl_nI (by omega), (hA _ (by omega)).2, ← hg]
    exact hP
theorem ofI_add (x y : Int) : Int32.ofInt x + Int32.ofInt y = Int32.ofInt (x + y) := (Int32.ofInt_add x y).symm
theorem z_sI_id (σ : z_S) (f a : Nat) : z_sI σ f a (z_I σ f a) = σ := by
  refine Prod.ext rfl (Prod.ext ?_ rfl)
  funext g b
  simp only [z_sI, z_I]
  split
  · rename_i h
    rw [h.1, h.2]
  · rfl
/-- only this object's keys, counts and size are written -/
def ro_fr (σ σ' : z_S) (a k c : Nat) : Prop := ∃ (F G : Nat → Int32) (y : Int32), σ' = z_sI (ro_w σ k c F G) 402 a y
theorem ro_T_w {σ : z_S} {a k c : Nat} (h : ro_T σ a k c) (F G : Nat → Int32) (y : Int32) : ro_T (z_sI (ro_w σ k c F G) 402 a y) a k c := h
/-- what the arrays must hold after a write -/
theorem ro_L_w {σ : z_S} {a k c : Nat} (h : ro_T σ a k c) {l' : al_T} {F G : Nat → Int32} (hn : l'.length ≤ 100) (hs : al_s l') (hk : al_k l') (hA : ∀ i, i < l'.length → F i = nI (l'.getD i (0, 0)).1 ∧ G i = Int32.ofInt (l'.getD i (0, 0)).2) : ro_L (z_sI (ro_w σ k c F G) 402 a (nI l'.length)) a k c l' := by
  refine ⟨ro_T_w h F G _, by rw [z_I_sI]; simp, hn, hs, hk, fun i hi => ?_⟩
  rw [z_A_sI, z_A_sI, ro_w_F, ro_w_G]
  exact hA i hi
theorem gd_set {α : Type} (l : List α) (x d : α) {b i : Nat} (hi : i < l.length) : (l.set b x).getD i d = if i = b then x else l.getD i d := by
  rw [gd_eq (l.set b x) d (by simpa using hi), gd_eq l d hi, List.getElem_set]
  by_cases h : b = i
  · simp [h]
  · simp [h, Ne.symm h]
theorem ro_add {σ : z_S} {a k c : Nat} {l : al_T} (h : ro_L σ a k c l) {key : Nat} (hk : key < 1000000000) (d : Int) (hroom : al_in l key ∨ l.length < 100) (P : Int32 → z_S → Prop)
    (hP : ∀ σ', ro_L σ' a k c (al_add l key d) → ro_fr σ σ' a k c → P (Int32.ofInt (al_get l key + d)) σ') : kp_Ro_add a (nI key) (Int32.ofInt d) σ P := by
  have h0 := h
  obtain ⟨hT, hz, hn, hs, hkk, hA⟩ := h
  have hT0 := hT
  obtain ⟨t1, t2, t3, t4, t5⟩ := hT
  have hbl := al_b_le l key
  have hg := al_get_b l key hs
  have hib := al_in_b (l := l) (key := key) hs
  have hadk : al_k (al_add l key d) := fun q hq => by
    rcases al_add_mem hq with g | g
    · exact hkk q g
    · omega
  intro X41 X58 h41 h58
  -- the road of a new row
  have road : ¬ al_in l key → X41 (nI (al_b l key)) σ := by
    intro hno
    have hlt : l.length < 100 := by
      rcases hroom with g | g
      · exact absurd g hno
      · exact g
    have hg0 : al_get l key = 0 := by
      rw [hg, if_neg (fun q => hno (hib.mpr q))]
    have loop : ∀ m : Nat, al_b l key + m ≤ l.length → X58 (nI (al_b l key)) (nI (al_b l key + m)) (ro_w σ k c (fun j => if al_b l key + m < j ∧ j ≤ l.length then z_A σ 12 k (j - 1) else z_A σ 12 k j) (fun j => if al_b l key + m < j ∧ j ≤ l.length then z_A σ 13 c (j - 1) else z_A σ 13 c j)) := by
      intro m
      induction m with
      | zero =>
        intro _
        refine h58 _ _ _ ⟨fun _ => ⟨t1, k, t2, 100, 12, t4, vp_in_nI (by omega) (by omega), fun s1 e1 => ?_⟩, fun hc => absurd ((nI_leI (by omega) (by omega)).mpr (by omega)) hc⟩
        rw [ro_w_F, ro_w_sF] at e1
        subst e1
        refine ⟨t1, c, t3, 100, 13, t5, vp_in_nI (by omega) (by omega), fun s2 e2 => ?_⟩
        rw [ro_w_G, ro_w_sG] at e2
        subst e2
        refine ⟨t1, t1, fun s3 e3 => ?_⟩
        have ez : z_I (ro_w σ k c (upd (fun j => if al_b l key + 0 < j ∧ j ≤ l.length then z_A σ 12 k (j - 1) else z_A σ 12 k j) (nI (al_b l key)).toNatClampNeg (nI key)) (upd (fun j => if al_b l key + 0 < j ∧ j ≤ l.length then z_A σ 13 c (j - 1) else z_A σ 13 c j) (nI (al_b l key)).toNatClampNeg (Int32.ofInt d))) 402 a = nI l.length := hz
        rw [ez, nI_1, ← al_add_len l key d hs hno] at e3
        subst e3
        have hfin := hP _ (ro_L_w (σ := σ) hT0 (l' := al_add l key d) (F := upd (fun j => if al_b l key + 0 < j ∧ j ≤ l.length then z_A σ 12 k (j - 1) else z_A σ 12 k j) (nI (al_b l key)).toNatClampNeg (nI key)) (G := upd (fun j => if al_b l key + 0 < j ∧ j ≤ l.length then z_A σ 13 c (j - 1) else z_A σ 13 c j) (nI (al_b l key)).toNatClampNeg (Int32.ofInt d)) (by rw [al_add_len l key d hs hno]; omega) (al_add_s hs) hadk (fun i hi => ?_)) ⟨_, _, _, rfl⟩
        · rw [hg0, Int.zero_add] at hfin
          exact hfin
        · rw [al_add_len l key d hs hno] at hi
          rw [al_add_new l key d i hs hno (by omega), cl_nI (by omega)]
          by_cases g1 : i < al_b l key
          · have e1 := hA i (by omega)
            simp only [upd, if_pos g1, if_neg (show ¬ i = al_b l key by omega), if_neg (show ¬ (al_b l key + 0 < i ∧ i ≤ l.length) by omega)]
            exact e1
          · by_cases g2 : i = al_b l key
            · simp [upd, g1, g2]
            · have e1 := hA (i - 1) (by omega)
              simp only [upd, if_neg g1, if_neg g2, if_pos (show (al_b l key + 0 < i ∧ i ≤ l.length) by omega)]
              exact e1
      | succ m ih =>
        intro hm
        have ih := ih (by omega)
        refine h58 _ _ _ ⟨fun hc => absurd ((nI_leI (by omega) (by omega)).mp hc) (by omega), fun _ => ⟨t1, k, t2, t1, k, t2, 100, 12, t4, ?_, 100, 12, t4, vp_in_nI (by omega) (by omega), fun s1 e1 => ?_⟩⟩
        · rw [← Nat.add_assoc, nI_pred]
          exact vp_in_nI (by omega) (by omega)
        · rw [ro_w_F, ro_w_sF, ← Nat.add_assoc, nI_pred, cl_nI (by omega), cl_nI (by omega)] at e1
          subst e1
          refine ⟨t1, c, t3, t1, c, t3, 100, 13, t5, ?_, 100, 13, t5, vp_in_nI (by omega) (by omega), fun s2 e2 => ?_⟩
          · rw [← Nat.add_assoc, nI_pred]
            exact vp_in_nI (by omega) (by omega)
          · rw [ro_w_G, ro_w_sG, ← Nat.add_assoc, nI_pred, cl_nI (by omega), cl_nI (by omega)] at e2
            subst e2
            rw [← Nat.add_assoc, pk_m1]
            have eF : (upd (fun j => if al_b l key + m + 1 < j ∧ j ≤ l.length then z_A σ 12 k (j - 1) else z_A σ 12 k j) (al_b l key + m + 1) (if al_b l key + m + 1 < al_b l key + m ∧ al_b l key + m ≤ l.length then z_A σ 12 k (al_b l key + m - 1) else z_A σ 12 k (al_b l key + m))) = (fun j => if al_b l key + m < j ∧ j ≤ l.length then z_A σ 12 k (j - 1) else z_A σ 12 k j) := by
              funext j
              simp only [upd]
              by_cases g1 : j = al_b l key + m + 1
              · subst g1
                simp [if_neg (show ¬ (al_b l key + m + 1 < al_b l key + m ∧ al_b l key + m ≤ l.length) by omega), if_pos (show (al_b l key + m < al_b l key + m + 1 ∧ al_b l key + m + 1 ≤ l.length) by omega)]
                omega
              · rw [if_neg g1]
                by_cases g2 : al_b l key + m < j ∧ j ≤ l.length
                · rw [if_pos g2, if_pos (by omega)]
                · rw [if_neg g2, if_neg (by omega)]
            have eG : (upd (fun j => if al_b l key + m + 1 < j ∧ j ≤ l.length then z_A σ 13 c (j - 1) else z_A σ 13 c j) (al_b l key + m + 1) (if al_b l key + m + 1 < al_b l key + m ∧ al_b l key + m ≤ l.length then z_A σ 13 c (al_b l key + m - 1) else z_A σ 13 c (al_b l key + m))) = (fun j => if al_b l key + m < j ∧ j ≤ l.length then z_A σ 13 c (j - 1) else z_A σ 13 c j) := by
              funext j
              simp only [upd]
              by_cases g1 : j = al_b l key + m + 1
              · subst g1
                simp [if_neg (show ¬ (al_b l key + m + 1 < al_b l key + m ∧ al_b l key + m ≤ l.length) by omega), if_pos (show (al_b l key + m < al_b l key + m + 1 ∧ al_b l key + m + 1 ≤ l.length) by omega)]
                omega
              · rw [if_neg g1]
                by_cases g2 : al_b l key + m < j ∧ j ≤ l.length
                · rw [if_pos g2, if_pos (by omega)]
                · rw [if_neg g2, if_neg (by omega)]
            rw [eF, eG]
            exact ih
    refine h41 _ _ ⟨t1, fun _ => ⟨t1, ?_⟩, fun hc => absurd ?_ hc⟩
    · have := loop (l.length - al_b l key) (by omega)
      rw [show al_b l key + (l.length - al_b l key) = l.length by omega] at this
      rw [hz]
      have e1 : (fun j => if l.length < j ∧ j ≤ l.length then z_A σ 12 k (j - 1) else z_A σ 12 k j) = z_A σ 12 k := by
        funext j
        rw [if_neg (by omega)]
      have e2 : (fun j => if l.length < j ∧ j ≤ l.length then z_A σ 13 c (j - 1) else z_A σ 13 c j) = z_A σ 13 c := by
        funext j
        rw [if_neg (by omega)]
      rw [e1, e2, ro_w_id] at this
      exact this
    · rw [hz]
      exact (nI_ltI (b := 100) (by omega) (by omega)).mpr hlt
  refine ⟨t1, ro_seekL h0 hk _ ⟨t1, fun hc => ?_, fun hc => ⟨t1, k, t2, 100, 12, t4, vp_in_nI ?_ (by omega), fun hc2 => ?_, fun hc2 => ?_⟩⟩⟩
  · rw [hz, nI_leI (by omega) (by omega)] at hc
    exact road (fun q => by have := hib.mp q; omega)
  · rw [hz, nI_leI (by omega) (by omega)] at hc
    omega
  · rw [hz, nI_leI (by omega) (by omega)] at hc
    rw [cl_nI (by omega), (hA _ (by omega)).1] at hc2
    exact road (fun q => hc2 (by rw [(hib.mp q).2]))
  · rw [hz, nI_leI (by omega) (by omega)] at hc
    rw [cl_nI (by omega), (hA _ (by omega)).1] at hc2
    have h3 := al_k_gd hkk (i := al_b l key) (by omega)
    rw [nI_eq (by omega) (by omega)] at hc2
    have hin : al_in l key := hib.mpr ⟨by omega, hc2⟩
    rw [if_pos ⟨by omega, hc2⟩] at hg
    refine ⟨t1, c, t3, 100, 13, t5, vp_in_nI (by omega) (by omega), 100, 13, t5, vp_in_nI (by omega) (by omega), fun s1 e1 => ?_⟩
    rw [cl_nI (by omega), (hA _ (by omega)).2, ofI_add, ← hg] at e1
    have e2 : s1 = ro_w σ k c (z_A σ 12 k) (upd (z_A σ 13 c) (al_b l key) (Int32.ofInt (al_get l key + d))) := by
      rw [e1]
      unfold ro_w
      rw [z_sA_id]
    subst e2
    refine ⟨t1, c, t3, 100, 13, t5, vp_in_nI (by omega) (by omega), ?_⟩
    have e3 : z_A (ro_w σ k c (z_A σ 12 k) (upd (z_A σ 13 c) (al_b l key) (Int32.ofInt (al_get l key + d)))) 13 c (nI (al_b l key)).toNatClampNeg = Int32.ofInt (al_get l key + d) := by
      rw [ro_w_G, cl_nI (by omega)]
      simp [upd]
    rw [e3]
    have e4 : ro_w σ k c (z_A σ 12 k) (upd (z_A σ 13 c) (al_b l key) (Int32.ofInt (al_get l key + d))) = z_sI (ro_w σ k c (z_A σ 12 k) (upd (z_A σ 13 c) (al_b l key) (Int32.ofInt (al_get l key + d)))) 402 a (nI l.length) := by
      rw [← hz]
      exact (z_sI_id _ 402 a).symm
    rw [e4]
    have el : (al_add l key d).length = l.length := by rw [al_add_old l key d hs hin, List.length_set]
    have hfin := hP _ (ro_L_w (σ := σ) hT0 (l' := al_add l key d) (F := z_A σ 12 k) (G := upd (z_A σ 13 c) (al_b l key) (Int32.ofInt (al_get l key + d))) (by rw [el]; exact hn) (al_add_s hs) hadk (fun i hi => ?_)) ⟨_, _, _, rfl⟩
    · rw [el] at hfin
      exact hfin
    · rw [el] at hi
      rw [al_add_old l key d hs hin, gd_set l _ _ hi]
      have e1 := hA i hi
      by_cases g1 : i = al_b l key
      · subst g1
        rw [hc2] at e1
        simp only [if_pos, upd, hg]
        exact ⟨e1.1, trivial⟩
      · simp only [if_neg g1, upd]
        exact e1
