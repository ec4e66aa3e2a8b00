/-- one call of feed: class, then reference, the same answer, the invariant again -/
def st_feed (I : Nat → Nat → z_S → Prop) : Prop := ∀ (x m : Nat) (σ : z_S) (x1 : Int64) (x2 : Int32) (P : Int32 → z_S → Prop), I x m σ → (∀ (r : Int32) (σ1 : z_S), z_ty σ1 m = some (.inl 8) → (∀ P2 : Int32 → z_S → Prop, (∀ σ2, I x m σ2 → P2 r σ2) → kp_Mo_feed m x1 x2 σ1 P2) → P r σ1) → z_ty σ x = some (.inl 7) ∧ kp_Vr_feed x x1 x2 σ P
/-- one call of parse: class, then reference, the same answer, the invariant again -/
def st_parse (I : Nat → Nat → z_S → Prop) : Prop := ∀ (x m : Nat) (σ : z_S)  (P : Int32 → z_S → Prop), I x m σ → (∀ (r : Int32) (σ1 : z_S), z_ty σ1 m = some (.inl 8) → (∀ P2 : Int32 → z_S → Prop, (∀ σ2, I x m σ2 → P2 r σ2) → kp_Mo_parse m  σ1 P2) → P r σ1) → z_ty σ x = some (.inl 7) ∧ kp_Vr_parse x  σ P
/-- one call of place: class, then reference, the same answer, the invariant again -/
def st_place (I : Nat → Nat → z_S → Prop) : Prop := ∀ (x m : Nat) (σ : z_S)  (P : Int32 → z_S → Prop), I x m σ → (∀ (r : Int32) (σ1 : z_S), z_ty σ1 m = some (.inl 8) → (∀ P2 : Int32 → z_S → Prop, (∀ σ2, I x m σ2 → P2 r σ2) → kp_Mo_place m  σ1 P2) → P r σ1) → z_ty σ x = some (.inl 7) ∧ kp_Vr_place x  σ P
/-- one call of ring: class, then reference, the same answer, the invariant again -/
def st_ring (I : Nat → Nat → z_S → Prop) : Prop := ∀ (x m : Nat) (σ : z_S) (x1 : Int32) (P : Int32 → z_S → Prop), I x m σ → (∀ (r : Int32) (σ1 : z_S), z_ty σ1 m = some (.inl 8) → (∀ P2 : Int32 → z_S → Prop, (∀ σ2, I x m σ2 → P2 r σ2) → kp_Mo_ring m x1 σ1 P2) → P r σ1) → z_ty σ x = some (.inl 7) ∧ kp_Vr_ring x x1 σ P
/-- one call of relation: class, then reference, the same answer, the invariant again -/
def st_relation (I : Nat → Nat → z_S → Prop) : Prop := ∀ (x m : Nat) (σ : z_S) (x1 : Int32) (P : Int32 → z_S → Prop), I x m σ → (∀ (r : Int32) (σ1 : z_S), z_ty σ1 m = some (.inl 8) → (∀ P2 : Int32 → z_S → Prop, (∀ σ2, I x m σ2 → P2 r σ2) → kp_Mo_relation m x1 σ1 P2) → P r σ1) → z_ty σ x = some (.inl 7) ∧ kp_Vr_relation x x1 σ P
/-- one call of of: class, then reference, the same answer, the invariant again -/
def st_of (I : Nat → Nat → z_S → Prop) : Prop := ∀ (x m : Nat) (σ : z_S) (x1 : Int32) (x2 : Int32) (P : Int32 → z_S → Prop), I x m σ → (∀ (r : Int32) (σ1 : z_S), z_ty σ1 m = some (.inl 8) → (∀ P2 : Int32 → z_S → Prop, (∀ σ2, I x m σ2 → P2 r σ2) → kp_Mo_of m x1 x2 σ1 P2) → P r σ1) → z_ty σ x = some (.inl 7) ∧ kp_Vr_of x x1 x2 σ P
/-- one call of change: class, then reference, the same answer, the invariant again -/
def st_change (I : Nat → Nat → z_S → Prop) : Prop := ∀ (x m : Nat) (σ : z_S) (x1 : Int32) (x2 : Int32) (x3 : Int32) (x4 : Int32) (x5 : Int32) (P : Int32 → z_S → Prop), I x m σ → (∀ (r : Int32) (σ1 : z_S), z_ty σ1 m = some (.inl 8) → (∀ P2 : Int32 → z_S → Prop, (∀ σ2, I x m σ2 → P2 r σ2) → kp_Mo_change m x1 x2 x3 x4 x5 σ1 P2) → P r σ1) → z_ty σ x = some (.inl 7) ∧ kp_Vr_change x x1 x2 x3 x4 x5 σ P
/-- one call of batch: class, then reference, the same answer, the invariant again -/
def st_batch (I : Nat → Nat → z_S → Prop) : Prop := ∀ (x m : Nat) (σ : z_S)  (P : Int32 → z_S → Prop), I x m σ → (∀ (r : Int32) (σ1 : z_S), z_ty σ1 m = some (.inl 8) → (∀ P2 : Int32 → z_S → Prop, (∀ σ2, I x m σ2 → P2 r σ2) → kp_Mo_batch m  σ1 P2) → P r σ1) → z_ty σ x = some (.inl 7) ∧ kp_Vr_batch x  σ P
/-- one call of drop: class, then reference, the same answer, the invariant again -/
def st_drop (I : Nat → Nat → z_S → Prop) : Prop := ∀ (x m : Nat) (σ : z_S)  (P : Int32 → z_S → Prop), I x m σ → (∀ (r : Int32) (σ1 : z_S), z_ty σ1 m = some (.inl 8) → (∀ P2 : Int32 → z_S → Prop, (∀ σ2, I x m σ2 → P2 r σ2) → kp_Mo_drop m  σ1 P2) → P r σ1) → z_ty σ x = some (.inl 7) ∧ kp_Vr_drop x  σ P
/-- one call of difference: class, then reference, the same answer, the invariant again -/
def st_difference (I : Nat → Nat → z_S → Prop) : Prop := ∀ (x m : Nat) (σ : z_S) (x1 : Int32) (x2 : Int32) (P : Int32 → z_S → Prop), I x m σ → (∀ (r : Int32) (σ1 : z_S), z_ty σ1 m = some (.inl 8) → (∀ P2 : Int32 → z_S → Prop, (∀ σ2, I x m σ2 → P2 r σ2) → kp_Mo_difference m x1 x2 σ1 P2) → P r σ1) → z_ty σ x = some (.inl 7) ∧ kp_Vr_difference x x1 x2 σ P
/-- one call of undo: class, then reference, the same answer, the invariant again -/
def st_undo (I : Nat → Nat → z_S → Prop) : Prop := ∀ (x m : Nat) (σ : z_S)  (P : Int32 → z_S → Prop), I x m σ → (∀ (r : Int32) (σ1 : z_S), z_ty σ1 m = some (.inl 8) → (∀ P2 : Int32 → z_S → Prop, (∀ σ2, I x m σ2 → P2 r σ2) → kp_Mo_undo m  σ1 P2) → P r σ1) → z_ty σ x = some (.inl 7) ∧ kp_Vr_undo x  σ P
/-- one call of has: class, then reference, the same answer, the invariant again -/
def st_has (I : Nat → Nat → z_S → Prop) : Prop := ∀ (x m : Nat) (σ : z_S) (x1 : Int32) (x2 : Int32) (x3 : Int32) (x4 : Int32) (P : Int32 → z_S → Prop), I x m σ → (∀ (r : Int32) (σ1 : z_S), z_ty σ1 m = some (.inl 8) → (∀ P2 : Int32 → z_S → Prop, (∀ σ2, I x m σ2 → P2 r σ2) → kp_Mo_has m x1 x2 x3 x4 σ1 P2) → P r σ1) → z_ty σ x = some (.inl 7) ∧ kp_Vr_has x x1 x2 x3 x4 σ P
/-- one call of row: class, then reference, the same answer, the invariant again -/
def st_row (I : Nat → Nat → z_S → Prop) : Prop := ∀ (x m : Nat) (σ : z_S) (x1 : Int32) (x2 : Int32) (x3 : Int32) (P : Int32 → z_S → Prop), I x m σ → (∀ (r : Int32) (σ1 : z_S), z_ty σ1 m = some (.inl 8) → (∀ P2 : Int32 → z_S → Prop, (∀ σ2, I x m σ2 → P2 r σ2) → kp_Mo_row m x1 x2 x3 σ1 P2) → P r σ1) → z_ty σ x = some (.inl 7) ∧ kp_Vr_row x x1 x2 x3 σ P
/-- one call of derivations: class, then reference, the same answer, the invariant again -/
def st_derivations (I : Nat → Nat → z_S → Prop) : Prop := ∀ (x m : Nat) (σ : z_S) (x1 : Int32) (x2 : Int32) (x3 : Int32) (x4 : Int32) (P : Int32 → z_S → Prop), I x m σ → (∀ (r : Int32) (σ1 : z_S), z_ty σ1 m = some (.inl 8) → (∀ P2 : Int32 → z_S → Prop, (∀ σ2, I x m σ2 → P2 r σ2) → kp_Mo_derivations m x1 x2 x3 x4 σ1 P2) → P r σ1) → z_ty σ x = some (.inl 7) ∧ kp_Vr_derivations x x1 x2 x3 x4 σ P
/-- one call of why: class, then reference, the same answer, the invariant again -/
def st_why (I : Nat → Nat → z_S → Prop) : Prop := ∀ (x m : Nat) (σ : z_S) (x1 : Int32) (x2 : Int32) (x3 : Int32) (x4 : Int32) (x5 : Int32) (P : Int32 → z_S → Prop), I x m σ → (∀ (r : Int32) (σ1 : z_S), z_ty σ1 m = some (.inl 8) → (∀ P2 : Int32 → z_S → Prop, (∀ σ2, I x m σ2 → P2 r σ2) → kp_Mo_why m x1 x2 x3 x4 x5 σ1 P2) → P r σ1) → z_ty σ x = some (.inl 7) ∧ kp_Vr_why x x1 x2 x3 x4 x5 σ P
/-- one call of anew: class, then reference, the same answer, the invariant again -/
def st_anew (I : Nat → Nat → z_S → Prop) : Prop := ∀ (x m : Nat) (σ : z_S)  (P : Int32 → z_S → Prop), I x m σ → (∀ (r : Int32) (σ1 : z_S), z_ty σ1 m = some (.inl 8) → (∀ P2 : Int32 → z_S → Prop, (∀ σ2, I x m σ2 → P2 r σ2) → kp_Mo_anew m  σ1 P2) → P r σ1) → z_ty σ x = some (.inl 7) ∧ kp_Vr_anew x  σ P
/-- one call of told: class, then reference, the same answer, the invariant again -/
def st_told (I : Nat → Nat → z_S → Prop) : Prop := ∀ (x m : Nat) (σ : z_S) (x1 : Int32) (P : Int32 → z_S → Prop), I x m σ → (∀ (r : Int32) (σ1 : z_S), z_ty σ1 m = some (.inl 8) → (∀ P2 : Int32 → z_S → Prop, (∀ σ2, I x m σ2 → P2 r σ2) → kp_Mo_told m x1 σ1 P2) → P r σ1) → z_ty σ x = some (.inl 7) ∧ kp_Vr_told x x1 σ P
def st_start (I : Nat → Nat → z_S → Prop) : Prop := ∀ (q0 : Nat) (P : z_S → Prop), (∀ σ4, (∀ q8, z_ty σ4 q8 = none → ∀ P2 : z_S → Prop, (∀ σ12, I q0 q8 σ12 → P2 σ12) → kp_Mo_init q8 (z_new σ4 q8 8) P2) → P σ4) → kp_Vr_init q0 (z_new z_E q0 7) P
theorem st_in {L j k : Nat} (hL : L ≤ 3072) (h : 6 * j + 6 ≤ L) (hk : k < 6) : vp_in (nI (6 * j) + nI k) L := by
  rw [nI_add]
  exact vp_in_nI (by omega) (by omega)
theorem st_go {L j : Nat} (hL : L ≤ 3072) (h : ¬ (nI L - (6 : Int32)) < nI (6 * j)) (hj : j ≤ 512) : 6 * j + 6 ≤ L := by
  have e : (nI L - (6 : Int32)).toInt = (L : Int) - 6 := pk_sub_toInt (a := L) (b := 6) (by omega) (by omega)
  have e2 : (nI (6 * j)).toInt = ((6 * j : Nat) : Int) := nI_toInt (by omega)
  rw [Int32.lt_iff_toInt_lt, e, e2] at h
  omega
theorem law_of (I : Nat → Nat → z_S → Prop) (s_start : st_start I) (s_feed : st_feed I) (s_parse : st_parse I) (s_place : st_place I) (s_ring : st_ring I) (s_relation : st_relation I) (s_of : st_of I) (s_change : st_change I) (s_batch : st_batch I) (s_drop : st_drop I) (s_difference : st_difference I) (s_undo : st_undo I) (s_has : st_has I) (s_row : st_row I) (s_derivations : st_derivations I) (s_why : st_why I) (s_anew : st_anew I) (s_told : st_told I) {L : Nat} (hL : L ≤ 3072) (xs : Nat → Int32) : kp_La_law L xs z_E := by
  intro X18 h18
  have loop : ∀ (n j x m kc ks : Nat) (σ : z_S), L < 6 * j + n → j ≤ 512 → I x m σ → kc ≤ 300 + 289 * j → ks ≤ 50000 + 1421 * j → X18 x m (nI (6 * j)) kc ks σ := by
    intro n
    induction n with
    | zero =>
      intro j x m kc ks σ hn hj hI hkc hks
      refine h18 _ _ _ _ _ _ ⟨fun _ => trivial, fun h => ?_⟩
      have := st_go hL h hj
      omega
    | succ n ih =>
      intro j x m kc ks σ hn hj hI hkc hks
      refine h18 _ _ _ _ _ _ ⟨fun _ => trivial, fun h => ?_⟩
      have hle := st_go hL h hj
      have hv : nI (6 * j) + (6 : Int32) = nI (6 * (j + 1)) := by
        rw [show (6 : Int32) = nI 6 from rfl, nI_add]
        congr 1
      have v0 : vp_in (nI (6 * j)) L := vp_in_nI (by omega) (by omega)
      have v1 : vp_in (nI (6 * j) + (1 : Int32)) L := st_in (k := 1) hL hle (by omega)
      have v2 : vp_in (nI (6 * j) + (2 : Int32)) L := st_in (k := 2) hL hle (by omega)
      have v3 : vp_in (nI (6 * j) + (3 : Int32)) L := st_in (k := 3) hL hle (by omega)
      have v4 : vp_in (nI (6 * j) + (4 : Int32)) L := st_in (k := 4) hL hle (by omega)
      have v5 : vp_in (nI (6 * j) + (5 : Int32)) L := st_in (k := 5) hL hle (by omega)
      have again : ∀ (kc' ks' : Nat) (σ' : z_S), I x m σ' → kc' ≤ 300 + 289 * (j + 1) → ks' ≤ 50000 + 1421 * (j + 1) → X18 x m (nI (6 * j) + (6 : Int32)) kc' ks' σ' := by
        intro kc' ks' σ' h1 h2 h3
        rw [hv]
        exact ih (j + 1) x m kc' ks' σ' (by omega) (by omega) h1 h2 h3
      refine ⟨v0, ?_⟩
      refine ⟨fun _ => ?_, fun _ => ?_⟩
      · refine ⟨v1, v2, v3, ⟨by omega, by omega⟩, ?_⟩
        refine s_feed x m σ _ _ _ hI (fun r σ1 ht hm => ?_)
        exact ⟨v1, v2, v3, ⟨by omega, by omega⟩, ht, hm _ (fun σ2 h2 => ⟨fun _ => again _ _ σ2 h2 (by omega) (by omega), fun h => absurd rfl h⟩)⟩
      refine ⟨fun _ => ?_, fun _ => ?_⟩
      · refine ⟨⟨by omega, by omega⟩, ?_⟩
        refine s_parse x m σ _ hI (fun r σ1 ht hm => ?_)
        exact ⟨⟨by omega, by omega⟩, ht, hm _ (fun σ2 h2 => ⟨fun _ => again _ _ σ2 h2 (by omega) (by omega), fun h => absurd rfl h⟩)⟩
      refine ⟨fun _ => ?_, fun _ => ?_⟩
      · refine ⟨⟨by omega, by omega⟩, ?_⟩
        refine s_place x m σ _ hI (fun r σ1 ht hm => ?_)
        exact ⟨⟨by omega, by omega⟩, ht, hm _ (fun σ2 h2 => ⟨fun _ => again _ _ σ2 h2 (by omega) (by omega), fun h => absurd rfl h⟩)⟩
      refine ⟨fun _ => ?_, fun _ => ?_⟩
      · refine ⟨v1, ⟨by omega, by omega⟩, ?_⟩
        refine s_ring x m σ _ _ hI (fun r σ1 ht hm => ?_)
        exact ⟨v1, ⟨by omega, by omega⟩, ht, hm _ (fun σ2 h2 => ⟨fun _ => again _ _ σ2 h2 (by omega) (by omega), fun h => absurd rfl h⟩)⟩
      refine ⟨fun _ => ?_, fun _ => ?_⟩
      · refine ⟨v1, ⟨by omega, by omega⟩, ?_⟩
        refine s_relation x m σ _ _ hI (fun r σ1 ht hm => ?_)
        exact ⟨v1, ⟨by omega, by omega⟩, ht, hm _ (fun σ2 h2 => ⟨fun _ => again _ _ σ2 h2 (by omega) (by omega), fun h => absurd rfl h⟩)⟩
      refine ⟨fun _ => ?_, fun _ => ?_⟩
      · refine ⟨v1, v2, ⟨by omega, by omega⟩, ?_⟩
        refine s_of x m σ _ _ _ hI (fun r σ1 ht hm => ?_)
        exact ⟨v1, v2, ⟨by omega, by omega⟩, ht, hm _ (fun σ2 h2 => ⟨fun _ => again _ _ σ2 h2 (by omega) (by omega), fun h => absurd rfl h⟩)⟩
      refine ⟨fun _ => ?_, fun _ => ?_⟩
      · refine ⟨v1, v2, v3, v4, v5, ⟨by omega, by omega⟩, ?_⟩
        refine s_change x m σ _ _ _ _ _ _ hI (fun r σ1 ht hm => ?_)
        exact ⟨v1, v2, v3, v4, v5, ⟨by omega, by omega⟩, ht, hm _ (fun σ2 h2 => ⟨fun _ => again _ _ σ2 h2 (by omega) (by omega), fun h => absurd rfl h⟩)⟩
      refine ⟨fun _ => ?_, fun _ => ?_⟩
      · refine ⟨⟨by omega, by omega⟩, ?_⟩
        refine s_batch x m σ _ hI (fun r σ1 ht hm => ?_)
        exact ⟨⟨by omega, by omega⟩, ht, hm _ (fun σ2 h2 => ⟨fun _ => again _ _ σ2 h2 (by omega) (by omega), fun h => absurd rfl h⟩)⟩
      refine ⟨fun _ => ?_, fun _ => ?_⟩
      · refine ⟨⟨by omega, by omega⟩, ?_⟩
        refine s_drop x m σ _ hI (fun r σ1 ht hm => ?_)
        exact ⟨⟨by omega, by omega⟩, ht, hm _ (fun σ2 h2 => ⟨fun _ => again _ _ σ2 h2 (by omega) (by omega), fun h => absurd rfl h⟩)⟩
      refine ⟨fun _ => ?_, fun _ => ?_⟩
      · refine ⟨v1, v2, ⟨by omega, by omega⟩, ?_⟩
        refine s_difference x m σ _ _ _ hI (fun r σ1 ht hm => ?_)
        exact ⟨v1, v2, ⟨by omega, by omega⟩, ht, hm _ (fun σ2 h2 => ⟨fun _ => again _ _ σ2 h2 (by omega) (by omega), fun h => absurd rfl h⟩)⟩
      refine ⟨fun _ => ?_, fun _ => ?_⟩
      · refine ⟨⟨by omega, by omega⟩, ?_⟩
        refine s_undo x m σ _ hI (fun r σ1 ht hm => ?_)
        exact ⟨⟨by omega, by omega⟩, ht, hm _ (fun σ2 h2 => ⟨fun _ => again _ _ σ2 h2 (by omega) (by omega), fun h => absurd rfl h⟩)⟩
      refine ⟨fun _ => ?_, fun _ => ?_⟩
      · refine ⟨v1, v2, v3, v4, ⟨by omega, by omega⟩, ?_⟩
        refine s_has x m σ _ _ _ _ _ hI (fun r σ1 ht hm => ?_)
        exact ⟨v1, v2, v3, v4, ⟨by omega, by omega⟩, ht, hm _ (fun σ2 h2 => ⟨fun _ => again _ _ σ2 h2 (by omega) (by omega), fun h => absurd rfl h⟩)⟩
      refine ⟨fun _ => ?_, fun _ => ?_⟩
      · refine ⟨v1, v2, v3, ⟨by omega, by omega⟩, ?_⟩
        refine s_row x m σ _ _ _ _ hI (fun r σ1 ht hm => ?_)
        exact ⟨v1, v2, v3, ⟨by omega, by omega⟩, ht, hm _ (fun σ2 h2 => ⟨fun _ => again _ _ σ2 h2 (by omega) (by omega), fun h => absurd rfl h⟩)⟩
      refine ⟨fun _ => ?_, fun _ => ?_⟩
      · refine ⟨v1, v2, v3, v4, ⟨by omega, by omega⟩, ?_⟩
        refine s_derivations x m σ _ _ _ _ _ hI (fun r σ1 ht hm => ?_)
        exact ⟨v1, v2, v3, v4, ⟨by omega, by omega⟩, ht, hm _ (fun σ2 h2 => ⟨fun _ => again _ _ σ2 h2 (by omega) (by omega), fun h => absurd rfl h⟩)⟩
      refine ⟨fun _ => ?_, fun _ => ?_⟩
      · refine ⟨v1, v2, v3, v4, v5, ⟨by omega, by omega⟩, ?_⟩
        refine s_why x m σ _ _ _ _ _ _ hI (fun r σ1 ht hm => ?_)
        exact ⟨v1, v2, v3, v4, v5, ⟨by omega, by omega⟩, ht, hm _ (fun σ2 h2 => ⟨fun _ => again _ _ σ2 h2 (by omega) (by omega), fun h => absurd rfl h⟩)⟩
      refine ⟨fun _ => ?_, fun _ => ?_⟩
      · refine ⟨⟨by omega, by omega⟩, ?_⟩
        refine s_anew x m σ _ hI (fun r σ1 ht hm => ?_)
        exact ⟨⟨by omega, by omega⟩, ht, hm _ (fun σ2 h2 => ⟨fun _ => again _ _ σ2 h2 (by omega) (by omega), fun h => absurd rfl h⟩)⟩
      refine ⟨fun _ => ?_, fun _ => ?_⟩
      · refine ⟨v1, ⟨by omega, by omega⟩, ?_⟩
        refine s_told x m σ _ _ hI (fun r σ1 ht hm => ?_)
        exact ⟨v1, ⟨by omega, by omega⟩, ht, hm _ (fun σ2 h2 => ⟨fun _ => again _ _ σ2 h2 (by omega) (by omega), fun h => absurd rfl h⟩)⟩
      exact again _ _ σ hI (by omega) (by omega)
  refine ⟨⟨by omega, by omega⟩, fun q0 hq0 σ0 e0 => ⟨⟨by omega, by omega⟩, ?_⟩⟩
  subst e0
  refine s_start q0 _ (fun σ4 h4 => ⟨⟨by omega, by omega⟩, fun q8 hq8 σ8 e8 => ⟨⟨by omega, by omega⟩, ?_⟩⟩)
  subst e8
  exact h4 q8 hq8 _ (fun σ12 h12 => loop (L + 1) 0 q0 q8 _ _ σ12 (by omega) (by omega) h12 (by omega) (by omega))
