/-! the reference's rows as lists -/
def mr_l (R : mr_R) (N : Nat → Nat) (r : Nat) : al_T := (List.range (N r)).map (fun j => R r j)
theorem mr_l_len (R : mr_R) (N : Nat → Nat) (r : Nat) : (mr_l R N r).length = N r := by simp [mr_l]
theorem mr_l_gd (R : mr_R) (N : Nat → Nat) (r : Nat) {j : Nat} (h : j < N r) : (mr_l R N r).getD j (0, 0) = R r j := by
  rw [gd_eq _ _ (by rw [mr_l_len]; exact h)]
  simp [mr_l]
def mo_W (μ : mo_U) (R : mr_R) (N : Nat → Nat) (T : Nat → al_T) : Prop := mo_M μ R N ∧ ∀ r, r < 8 → T r = mr_l R N r ∧ al_s (T r)
theorem mr_S_l (R : mr_R) (N : Nat → Nat) (r : Nat) : mr_S R N r = (mr_l R N r).map Prod.fst := by simp [mr_S, mr_l]
theorem mo_W_k {μ : mo_U} {R : mr_R} {N : Nat → Nat} {T : Nat → al_T} (h : mo_W μ R N T) {r : Nat} (hr : r < 8) : al_k (T r) := by
  intro p hp
  rw [(h.2 r hr).1] at hp
  obtain ⟨j, hj, rfl⟩ := List.mem_map.mp hp
  have := (h.1.2 r hr).2
  have hj' : j < N r := by simpa using hj
  exact (h.1.1 r j hr (by omega)).1
theorem al_b_eq {l : al_T} {key v : Nat} (hs : al_s l) (hv : v ≤ l.length) (hlo : ∀ j, j < v → (l.getD j (0, 0)).1 < key) (hhi : ∀ j, v ≤ j → j < l.length → ¬ (l.getD j (0, 0)).1 < key) : al_b l key = v := by
  have hbl := al_b_le l key
  rcases Nat.lt_trichotomy (al_b l key) v with g | g | g
  · exact absurd (hlo _ g) (al_b_hi l key _ hs (Nat.le_refl _) (by omega))
  · exact g
  · exact absurd (al_b_lo l key v g) (hhi v (Nat.le_refl _) (by omega))
theorem al_ext {l l' : al_T} (h : l.length = l'.length) (h2 : ∀ i, i < l.length → l.getD i (0, 0) = l'.getD i (0, 0)) : l = l' := by
  refine List.ext_getElem h (fun i h3 h4 => ?_)
  have := h2 i h3
  rw [gd_eq l _ h3, gd_eq l' _ h4] at this
  exact this
/-- insert, on lists -/
theorem mo_insertL {μ : mo_U} {R : mr_R} {N : Nat → Nat} {T : Nat → al_T} (hW : mo_W μ R N T) {r a b c : Nat} (hr : r < 8) (ha : a < 1000) (hb : b < 1000) (hc : c < 1000) (cnt : Int) (hno : ¬ al_in (T r) (pk3 a b c)) (Q : Int32 → mo_U → Prop)
    (hQ0 : (T r).length = 40 → Q 0 μ)
    (hQ1 : (T r).length < 40 → ∀ (μ' : mo_U) (R' : mr_R) (N' : Nat → Nat), mo_W μ' R' N' (fun r' => if r' = r then al_add (T r) (pk3 a b c) cnt else T r') → mo_fr [40, 41, 42] [] μ μ' → Q 1 μ') : mp_insert (nI r) (nI a) (nI b) (nI c) (Int32.ofInt cnt) μ Q := by
  obtain ⟨hM, hT⟩ := hW
  obtain ⟨tr, ts⟩ := hT r hr
  have hlen : (T r).length = N r := by rw [tr, mr_l_len]
  have hgd : ∀ j, j < N r → (T r).getD j (0, 0) = R r j := fun j hj => by rw [tr, mr_l_gd R N r hj]
  refine mo_insert hM hr ha hb hc cnt Q (fun h => hQ0 (by omega)) (fun hlt v μ' hv hhi hlo hM' hfr => hQ1 (by omega) μ' _ _ ⟨hM', fun r' hr' => ?_⟩ hfr)
  have hne : ∀ j, j < N r → (R r j).1 ≠ pk3 a b c := fun j hj q => hno ⟨R r j, by rw [← hgd j hj, gd_eq _ _ (by omega)]; exact List.getElem_mem _, q⟩
  have hbv : al_b (T r) (pk3 a b c) = v := by
    refine al_b_eq ts (by omega) (fun j hj => ?_) (fun j h1 h2 => ?_)
    · rw [hgd j (by omega)]
      have h1 := hlo (by omega)
      have h2 := hne (v - 1) (by omega)
      rcases Nat.lt_or_ge j (v - 1) with g | g
      · have := List.pairwise_iff_getElem.mp ts j (v - 1) (by omega) (by omega) g
        rw [← gd_eq (T r) (0, 0), ← gd_eq (T r) (0, 0), hgd j (by omega), hgd (v - 1) (by omega)] at this
        omega
      · have : j = v - 1 := by omega
        subst this
        omega
    · rw [hgd j (by omega)]
      have := hhi j h1 (by omega)
      omega
  dsimp only
  by_cases e : r' = r
  · subst e
    rw [if_pos rfl]
    refine ⟨?_, al_add_s ts⟩
    have hl2 := al_add_len (T r') (pk3 a b c) cnt ts hno
    refine al_ext (by rw [hl2, mr_l_len, mr_n, if_pos rfl, hlen]) (fun i hi => ?_)
    rw [hl2] at hi
    rw [mr_l_gd _ _ _ (by rw [mr_n, if_pos rfl]; omega), al_add_new (T r') (pk3 a b c) cnt i ts hno (by omega), hbv]
    simp only [mr_set, mr_shl]
    by_cases g1 : i < v
    · rw [if_pos g1, if_neg (by omega), if_neg (by omega), hgd i (by omega)]
    · rw [if_neg g1]
      by_cases g2 : i = v
      · rw [if_pos g2, if_pos ⟨trivial, g2⟩]
      · rw [if_neg g2, if_neg (fun q => g2 q.2), if_pos ⟨trivial, by omega, by omega⟩, hgd (i - 1) (by omega)]
  · rw [if_neg e]
    obtain ⟨h1, h2⟩ := hT r' hr'
    refine ⟨?_, h2⟩
    rw [h1]
    unfold mr_l
    rw [mr_n, if_neg e]
    refine List.map_congr_left (fun j hj => ?_)
    simp only [mr_set, mr_shl]
    rw [if_neg (fun q => e q.1), if_neg (fun q => e q.1)]
/-- find, on lists -/
theorem mo_findL {μ : mo_U} {R : mr_R} {N : Nat → Nat} {T : Nat → al_T} (hW : mo_W μ R N T) {r a b c : Nat} (hr : r < 8) (ha : a < 1000) (hb : b < 1000) (hc : c < 1000) (Q : Int32 → mo_U → Prop)
    (hQ1 : al_in (T r) (pk3 a b c) → Q (nI (al_b (T r) (pk3 a b c))) μ) (hQ0 : ¬ al_in (T r) (pk3 a b c) → Q (-1) μ) : mp_find (nI r) (nI a) (nI b) (nI c) μ Q := by
  obtain ⟨hM, hT⟩ := hW
  obtain ⟨tr, ts⟩ := hT r hr
  have hlen : (T r).length = N r := by rw [tr, mr_l_len]
  have hgd : ∀ j, j < N r → (T r).getD j (0, 0) = R r j := fun j hj => by rw [tr, mr_l_gd R N r hj]
  refine mo_find hM hr ha hb hc Q (fun j hj hk hno => ?_) (fun hno => hQ0 ?_)
  · have hin : al_in (T r) (pk3 a b c) := ⟨R r j, by rw [← hgd j hj, gd_eq _ _ (by omega)]; exact List.getElem_mem _, hk⟩
    have hbj : al_b (T r) (pk3 a b c) = j := by
      refine al_b_eq ts (by omega) (fun i hi => ?_) (fun i h1 h2 => ?_)
      · have := List.pairwise_iff_getElem.mp ts i j (by omega) (by omega) hi
        rw [← gd_eq (T r) (0, 0), ← gd_eq (T r) (0, 0), hgd i (by omega), hgd j hj, hk] at this
        rw [hgd i (by omega)]
        exact this
      · rcases Nat.lt_or_ge j i with g | g
        · have := List.pairwise_iff_getElem.mp ts j i (by omega) h2 g
          rw [← gd_eq (T r) (0, 0), ← gd_eq (T r) (0, 0), hgd j hj, hgd i (by omega), hk] at this
          rw [hgd i (by omega)]
          omega
        · have : i = j := by omega
          subst this
          rw [hgd i hj, hk]
          omega
    rw [← hbj]
    exact hQ1 hin
  · rintro ⟨p, hp, he⟩
    obtain ⟨j, hj, rfl⟩ := List.getElem_of_mem hp
    have := hno j (by omega)
    rw [← hgd j (by omega), gd_eq _ _ hj] at this
    exact this he
theorem mo_headValue {μ : mo_U} {r g i t : Nat} {x : ev_T} (s842 : μ.1 842 = nI r) (s841 : μ.1 841 = nI g) (hr : r < 17) (hi : i < 3) (hg : g ≤ 3) (hx : eB (μ.2 50) g x) (h27 : μ.2 27 (3 * r + i) = nI t) (ht : t < 1100) (hm : t < 26 ∨ 100 ≤ t ∨ t = 99) (hb : t < 26 → x t ≠ none) (Q : Int32 → mo_U → Prop) (hQ : Q (nI (tv x t)) μ) : mp_headValue (nI i) μ Q := by
  unfold mp_headValue
  rw [s842, s841, mo_lx, cl_nI (by omega), h27]
  refine ⟨vp_in_nI (by omega) (by omega), fun q => ?_, fun q => ?_⟩
  · rw [show (99 : Int32) = nI 99 from rfl, nI_eq (by omega) (by omega)] at q
    exact mo_valueOf hg hx ht (by omega) hb _ hQ
  · rw [show (99 : Int32) = nI 99 from rfl, nI_eq (by omega) (by omega)] at q
    subst q
    exact hQ
