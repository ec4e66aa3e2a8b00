/-! DERIVATIONS COUNTED, AND THE LEAST ONE -/
/-- less, letter by letter -/
def lx (x y : ev_T) : Nat → Nat → Bool
  | _, 0 => false
  | k, m + 1 => if x k = y k then lx x y (k + 1) m else decide ((x k).getD 0 < (y k).getD 0)
def bst (o : Option ev_T) (x : ev_T) : Option ev_T := match o with
  | none => some x
  | some b => if lx x b 0 26 then some x else some b
def bestL (vs : List ev_T) : Option ev_T := vs.foldl bst none
theorem bestL_snoc (vs : List ev_T) (x : ev_T) : bestL (vs ++ [x]) = bst (bestL vs) x := by
  unfold bestL
  rw [List.foldl_append]
  rfl
theorem bestL_mem : ∀ {vs : List ev_T} {b : ev_T}, bestL vs = some b → b ∈ vs := by
  intro vs
  have gen : ∀ (vs : List ev_T) (o : Option ev_T) (b : ev_T), vs.foldl bst o = some b → o = some b ∨ b ∈ vs := by
    intro vs
    induction vs with
    | nil => intro o b h; exact Or.inl h
    | cons x vs ih =>
      intro o b h
      rcases ih (bst o x) b h with h' | h'
      · unfold bst at h'
        cases o with
        | none => cases h'; exact Or.inr List.mem_cons_self
        | some b0 =>
          dsimp only at h'
          split at h'
          · cases h'; exact Or.inr List.mem_cons_self
          · exact Or.inl h'
      · exact Or.inr (List.mem_cons_of_mem _ h')
  intro b h
  exact (gen vs none b h).resolve_left (fun z => by cases z)
theorem bestL_none {vs : List ev_T} (h : bestL vs = none) : vs = [] := by
  have gen : ∀ (vs : List ev_T) (b : ev_T), ∃ b', vs.foldl bst (some b) = some b' := by
    intro vs
    induction vs with
    | nil => intro b; exact ⟨b, rfl⟩
    | cons x vs ih =>
      intro b
      have : ∃ b2, bst (some b) x = some b2 := by
        unfold bst
        dsimp only
        split
        · exact ⟨x, rfl⟩
        · exact ⟨b, rfl⟩
      obtain ⟨b2, hb⟩ := this
      rw [List.foldl_cons, hb]
      exact ih b2
  cases vs with
  | nil => rfl
  | cons x vs =>
    obtain ⟨b', hb⟩ := gen vs x
    have : bestL (x :: vs) = some b' := hb
    rw [h] at this
    cases this
/-- how many letters stand before -/
def rk (lt : Nat → Bool) : Nat → Nat
  | 0 => 0
  | k + 1 => rk lt k + if lt k then 1 else 0
theorem rk_mono (lt : Nat → Bool) : ∀ {j k : Nat}, j ≤ k → rk lt j ≤ rk lt k := by
  intro j k h
  induction k with
  | zero => rw [show j = 0 by omega]; exact Nat.le_refl _
  | succ k ih =>
    by_cases z : j = k + 1
    · rw [z]; exact Nat.le_refl _
    · exact Nat.le_trans (ih (by omega)) (Nat.le_add_right _ _)
theorem rk_lt (lt : Nat → Bool) {j k : Nat} (h : j < k) (hj : lt j = true) : rk lt j < rk lt k := by
  have := rk_mono lt (j := j + 1) (k := k) h
  have e : rk lt (j + 1) = rk lt j + 1 := by
    show rk lt j + (if lt j then 1 else 0) = _
    rw [if_pos hj]
  omega
/-- values of the letters, in their places -/
def ls_R (X : ex_T) (σ : z_S) (lt : Nat → Bool) (b : ev_T) : Prop := ∀ k, k < 26 → lt k = true → ∃ v, b k = some v ∧ z_A σ 2 X.l (rk lt k) = nI v
/-- a rule's letters -/
def lt_L (σ : z_S) (ro : Nat) (lt : Nat → Bool) : Prop := (z_ty σ ro = some (.inl 5)) ∧ (∀ k, k < 26 → bi (z_I σ 505 ro) k = lt k) ∧ (z_I σ 506 ro = nI (rk lt 26)) ∧ (rk lt 26 ≤ 6)
theorem lt_L.ty {σ : z_S} {ro : Nat} {lt : Nat → Bool} (h' : lt_L σ ro lt) : z_ty σ ro = some (.inl 5) := h'.1
theorem lt_L.b {σ : z_S} {ro : Nat} {lt : Nat → Bool} (h' : lt_L σ ro lt) : ∀ k, k < 26 → bi (z_I σ 505 ro) k = lt k := h'.2.1
theorem lt_L.n {σ : z_S} {ro : Nat} {lt : Nat → Bool} (h' : lt_L σ ro lt) : z_I σ 506 ro = nI (rk lt 26) := h'.2.2.1
theorem lt_L.n6 {σ : z_S} {ro : Nat} {lt : Nat → Bool} (h' : lt_L σ ro lt) : rk lt 26 ≤ 6 := h'.2.2.2
theorem lt_L_ef {X : ex_T} {σ σ' : z_S} {ro : Nat} {lt : Nat → Bool} (h : lt_L σ ro lt) (f : ef X σ σ') : lt_L σ' ro lt := ⟨by rw [f.1]; exact h.ty, fun k hk => by rw [f.2.2.2.1 505 _ (by omega) (fun q => by omega)]; exact h.b k hk, by rw [f.2.2.2.1 506 _ (by omega) (fun q => by omega)]; exact h.n, h.n6⟩
def dmE (lt : Nat → Bool) (x : ev_T) : Prop := ∀ k, k < 26 → (lt k = true ↔ x k ≠ none)
theorem en_isLess {X : ex_T} {σ : z_S} (hE : en_T X σ) {ro : Nat} (h110 : z_R σ 110 X.a = some ro) {lt : Nat → Bool} (hlt : lt_L σ ro lt) {x b : ev_T} (hx : eV X σ x) (hxd : dmE lt x) (hb : ls_R X σ lt b) (hbok : ev_ok b) (hbd : dmE lt b) (P : Int32 → z_S → Prop) (hP : P (if lx x b 0 26 then 1 else 0) σ) : kp_En_isLess X.a σ P := by
  intro X4 hX
  have main : ∀ m k, k + m = 26 → lx x b k m = lx x b 0 26 → X4 (nI (rk lt k)) (nI k) σ := by
    intro m
    induction m with
    | zero =>
      intro k hk he
      refine hX _ _ _ ⟨fun _ => ?_, fun q => absurd (nI_le (a := 26) (by omega) (by omega)) q⟩
      rw [← he] at hP
      exact hP
    | succ m ih =>
      intro k hk he
      have hr6 := hlt.n6
      have hrk := rk_mono lt (j := k) (k := 26) (by omega)
      have skip : x k = b k → lx x b (k + 1) m = lx x b 0 26 := fun h => by
        rw [← he]
        show _ = (if x k = b k then lx x b (k + 1) m else _)
        rw [if_pos h]
      have hnone : lt k = false → x k = b k := fun h => by
        have a : x k = none := Classical.not_not.mp (fun z => by rw [(hxd k (by omega)).mpr z] at h; cases h)
        have c : b k = none := Classical.not_not.mp (fun z => by rw [(hbd k (by omega)).mpr z] at h; cases h)
        rw [a, c]
      refine hX _ _ _ ⟨fun q => absurd q (nI_ge (b := 26) (by omega) (by omega)), fun _ => ⟨fun q => ?_, fun q => ?_⟩⟩
      · -- six letters are behind: no letter is left
        have hr : rk lt k = 6 := by
          rw [show (6 : Int32) = nI 6 from rfl, nI_leI (by omega) (by omega)] at q
          omega
        have hrest : ∀ m' k', k' + m' = 26 → k ≤ k' → lx x b k' m' = false := by
          intro m'
          induction m' with
          | zero => intro k' _ _; rfl
          | succ m' ih' =>
            intro k' h1 h2
            show (if x k' = b k' then lx x b (k' + 1) m' else _) = false
            have : lt k' = false := by
              cases hh : lt k' with
              | false => rfl
              | true =>
                have a := rk_mono lt h2
                have c := rk_lt lt (j := k') (k := 26) (by omega) hh
                omega
            have e : x k' = b k' := by
              have a : x k' = none := Classical.not_not.mp (fun z => by rw [(hxd k' (by omega)).mpr z] at this; cases this)
              have c : b k' = none := Classical.not_not.mp (fun z => by rw [(hbd k' (by omega)).mpr z] at this; cases this)
              rw [a, c]
            rw [if_pos e]
            exact ih' (k' + 1) (by omega) (by omega)
        rw [← he, hrest (m + 1) k hk (Nat.le_refl _)] at hP
        exact hP
      · refine ⟨hE.ty, ro, h110, hlt.ty, vr_isIn _ _ _ _ ?_⟩
        rw [hlt.b k (by omega)]
        have hlt6 : rk lt k < 6 := by
          by_cases z : rk lt k < 6
          · exact z
          · exact absurd (nI_le (a := 6) (by omega) (by omega)) q
        cases hk' : lt k with
        | false =>
          refine ⟨fun _ => ?_, fun q => absurd rfl q⟩
          rw [nI_1]
          have := ih (k + 1) (by omega) (skip (hnone hk'))
          have e : rk lt (k + 1) = rk lt k := by show rk lt k + (if lt k then 1 else 0) = _; rw [hk']; rfl
          rw [e] at this
          exact this
        | true =>
          refine ⟨fun q => absurd q (by decide), fun _ => ⟨hE.ty, X.v, hE.rv, 26, 3, hE.tv, vp_in_nI (by omega) (by decide), hE.ty, X.l, hE.rl, 6, 2, hE.tl, vp_in_nI hlt6 (by decide), ?_⟩⟩
          obtain ⟨vb, e1, e2⟩ := hb k (by omega) hk'
          have hxk := (hxd k (by omega)).mp hk'
          cases hxv : x k with
          | none => exact absurd hxv hxk
          | some vx =>
            have h1 := hx.ok k vx hxv
            have h2 := hbok k vb e1
            rw [cl_nI (n := k) (by omega), cl_nI (n := rk lt k) (by omega), hx.vs k vx hxv, e2, nI_eq (by omega) (by omega)]
            refine ⟨fun heq => ?_, fun hne => ⟨hE.ty, X.v, hE.rv, 26, 3, hE.tv, vp_in_nI (by omega) (by decide), hE.ty, X.l, hE.rl, 6, 2, hE.tl, vp_in_nI hlt6 (by decide), ?_⟩⟩
            · rw [nI_1, nI_1]
              have := ih (k + 1) (by omega) (skip (by rw [hxv, e1, heq]))
              have e : rk lt (k + 1) = rk lt k + 1 := by show rk lt k + (if lt k then 1 else 0) = _; rw [hk']; rfl
              rw [e] at this
              exact this
            · rw [hx.vs k vx hxv, e2, nI_leI (by omega) (by omega)]
              have hl : lx x b 0 26 = decide (vx < vb) := by
                rw [← he]
                show (if x k = b k then lx x b (k + 1) m else decide ((x k).getD 0 < (b k).getD 0)) = _
                rw [if_neg (by rw [hxv, e1]; exact fun z => hne (by cases z; rfl)), hxv, e1]
                rfl
              rw [hl] at hP
              refine ⟨fun z => ?_, fun z => ?_⟩
              · rw [decide_eq_false (by omega)] at hP
                exact hP
              · rw [decide_eq_true (by omega)] at hP
                exact hP
  exact main 26 0 rfl rfl
theorem en_keep {X : ex_T} {σ : z_S} (hE : en_T X σ) {ro : Nat} (h110 : z_R σ 110 X.a = some ro) {lt : Nat → Bool} (hlt : lt_L σ ro lt) {x : ev_T} (hx : eV X σ x) (hxd : dmE lt x) (P : z_S → Prop) (hP : ∀ F, ls_R X (z_sA σ 2 X.l F) lt x → P (z_sA σ 2 X.l F)) : kp_En_keepValues X.a σ P := by
  intro X4 hX
  have fin : ∀ F, (∀ k, k < 26 → lt k = true → ∃ v, x k = some v ∧ F (rk lt k) = nI v) → P (z_sA σ 2 X.l F) := fun F h => hP F (fun k hk hl => by
    obtain ⟨v, h1, h2⟩ := h k hk hl
    exact ⟨v, h1, by rw [z_A_sA, if_pos ⟨rfl, rfl⟩]; exact h2⟩)
  have main : ∀ m k F, k + m = 26 → (∀ j, j < k → lt j = true → ∃ v, x j = some v ∧ F (rk lt j) = nI v) → X4 (nI (rk lt k)) (nI k) (z_sA σ 2 X.l F) := by
    intro m
    induction m with
    | zero =>
      intro k F hk h
      exact hX _ _ _ ⟨fun _ => fin F (fun j hj hl => h j (by omega) hl), fun q => absurd (nI_le (a := 26) (by omega) (by omega)) q⟩
    | succ m ih =>
      intro k F hk h
      have hr6 := hlt.n6
      have hrk := rk_mono lt (j := k) (k := 26) (by omega)
      have hef : ef X σ (z_sA σ 2 X.l F) := ef_sA (by omega) (by omega)
      have hE' := en_T_ef hE hef
      have hlt' := lt_L_ef hlt hef
      refine hX _ _ _ ⟨fun q => absurd q (nI_ge (b := 26) (by omega) (by omega)), fun _ => ⟨fun q => ?_, fun q => ?_⟩⟩
      · have hr : rk lt k = 6 := by
          rw [show (6 : Int32) = nI 6 from rfl, nI_leI (by omega) (by omega)] at q
          omega
        refine fin F (fun j hj hl => ?_)
        by_cases z : j < k
        · exact h j z hl
        · have a := rk_mono lt (j := k) (k := j) (by omega)
          have c := rk_lt lt (j := j) (k := 26) hj hl
          omega
      · have hlt6 : rk lt k < 6 := by
          by_cases z : rk lt k < 6
          · exact z
          · exact absurd (nI_le (a := 6) (by omega) (by omega)) q
        refine ⟨hE'.ty, ro, h110, hlt'.ty, vr_isIn _ _ _ _ ?_⟩
        rw [hlt'.b k (by omega)]
        cases hk' : lt k with
        | false =>
          refine ⟨fun _ => ?_, fun q => absurd rfl q⟩
          rw [nI_1]
          have := ih (k + 1) F (by omega) (fun j hj hl => by
            by_cases z : j = k
            · rw [z, hk'] at hl; cases hl
            · exact h j (by omega) hl)
          have e : rk lt (k + 1) = rk lt k := by show rk lt k + (if lt k then 1 else 0) = _; rw [hk']; rfl
          rw [e] at this
          exact this
        | true =>
          refine ⟨fun q => absurd q (by decide), fun _ => ⟨hE'.ty, X.l, hE'.rl, hE'.ty, X.v, hE'.rv, 26, 3, hE'.tv, vp_in_nI (by omega) (by decide), 6, 2, hE'.tl, vp_in_nI hlt6 (by decide), fun σ41 e41 => ?_⟩⟩
          have hxk := (hxd k (by omega)).mp hk'
          cases hxv : x k with
          | none => exact absurd hxv hxk
          | some vx =>
            have e3 : z_A (z_sA σ 2 X.l F) 3 X.v k = nI vx := by
              rw [z_A_sA, if_neg (fun z => absurd z.1 (by decide))]
              exact hx.vs k vx hxv
            rw [cl_nI (n := k) (by omega), cl_nI (n := rk lt k) (by omega), e3, z_A_sA, if_pos ⟨rfl, rfl⟩, z_sA_sA] at e41
            rw [e41, nI_1, nI_1]
            have := ih (k + 1) (upd F (rk lt k) (nI vx)) (by omega) (fun j hj hl => by
              unfold upd
              by_cases z : j = k
              · rw [z, if_pos rfl]; exact ⟨vx, hxv, rfl⟩
              · have := rk_lt lt (j := j) (k := k) (by omega) hl
                rw [if_neg (by omega)]
                exact h j (by omega) hl)
            have e : rk lt (k + 1) = rk lt k + 1 := by show rk lt k + (if lt k then 1 else 0) = _; rw [hk']; rfl
            rw [e] at this
            exact this
  have := main 26 0 (z_A σ 2 X.l) rfl (fun j hj => absurd hj (Nat.not_lt_zero j))
  rw [z_sA_id] at this
  exact this
