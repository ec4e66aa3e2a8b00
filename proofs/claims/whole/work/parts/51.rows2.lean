theorem ofI_toInt {x : Int} (h1 : -2147483648 ≤ x) (h2 : x < 2147483648) : (Int32.ofInt x).toInt = x := Int32.toInt_ofInt_of_le (by omega) (by omega)
theorem ofI_lt {x : Int} (h1 : -2147483648 ≤ x) (h2 : x < 2147483648) (n : Nat) (hn : n < 2147483648) : Int32.ofInt x < nI n ↔ x < n := by
  rw [i32_lt, ofI_toInt h1 h2, nI_toInt (by omega)]
theorem ofI_le {x : Int} (h1 : -2147483648 ≤ x) (h2 : x < 2147483648) (n : Nat) (hn : n < 2147483648) : Int32.ofInt x ≤ nI n ↔ x ≤ n := by
  rw [i32_le, ofI_toInt h1 h2, nI_toInt (by omega)]
def al_ps (l : al_T) : al_T := l.filter (fun p => decide (0 < p.2))
theorem al_ps_snoc (l : al_T) {i : Nat} (hi : i < l.length) : al_ps (l.take (i + 1)) = if 0 < (l.getD i (0, 0)).2 then al_ps (l.take i) ++ [l.getD i (0, 0)] else al_ps (l.take i) := by
  rw [gd_eq l _ hi, al_ps, al_ps, List.take_succ_eq_append_getElem hi, List.filter_append]
  by_cases h : 0 < (l[i]).2 <;> simp [h]
theorem al_ps_len (l : al_T) : (al_ps l).length ≤ l.length := List.length_filter_le _ _
theorem al_ps_s {l : al_T} (h : al_s l) : al_s (al_ps l) := List.Pairwise.filter _ h
theorem al_ps_k {l : al_T} (h : al_k l) : al_k (al_ps l) := fun p hp => h p (List.mem_filter.mp hp).1
theorem gd_snoc {α : Type} (l : List α) (x d : α) (i : Nat) : (l ++ [x]).getD i d = if i < l.length then l.getD i d else if i = l.length then x else d := by
  by_cases h : i < l.length
  · rw [if_pos h, gd_eq _ d (by simp; omega), gd_eq l d h, List.getElem_append_left h]
  · rw [if_neg h]
    by_cases h2 : i = l.length
    · subst h2
      rw [if_pos rfl, gd_eq _ d (by simp), List.getElem_append_right (Nat.le_refl _)]
      simp
    · rw [if_neg h2]
      simp only [List.getD]
      rw [List.getElem?_eq_none (by simp; omega)]
      rfl
theorem ro_dropZeros {σ : z_S} {a k c : Nat} {l : al_T} (h : ro_L σ a k c l) (hb : ∀ p ∈ l, -2147483648 ≤ p.2 ∧ p.2 < 2147483648) (P : Int32 → z_S → Prop)
    (hP0 : (∃ p ∈ l, p.2 < 0 ∨ 9 < p.2) → ∀ σ', ro_fr σ σ' a k c → P 0 σ')
    (hP1 : (∀ p ∈ l, 0 ≤ p.2 ∧ p.2 ≤ 9) → ∀ σ', ro_L σ' a k c (al_ps l) → ro_fr σ σ' a k c → P 1 σ') : kp_Ro_dropZeros a σ P := by
  obtain ⟨hT, hz, hn, hs, hkk, hA⟩ := h
  have hT0 := hT
  obtain ⟨t1, t2, t3, t4, t5⟩ := hT
  intro X4 h4
  have loop : ∀ (m i : Nat) (F G : Nat → Int32), i + m = l.length → (∀ j, j < i → 0 ≤ (l.getD j (0, 0)).2 ∧ (l.getD j (0, 0)).2 ≤ 9) → (∀ j, i ≤ j → j < l.length → F j = nI (l.getD j (0, 0)).1 ∧ G j = Int32.ofInt (l.getD j (0, 0)).2) → (∀ j, j < (al_ps (l.take i)).length → F j = nI ((al_ps (l.take i)).getD j (0, 0)).1 ∧ G j = Int32.ofInt ((al_ps (l.take i)).getD j (0, 0)).2) → X4 (nI (al_ps (l.take i)).length) (nI i) (ro_w σ k c F G) := by
    intro m
    induction m with
    | zero =>
      intro i F G him hok hr hf
      have hi : i = l.length := by omega
      subst hi
      rw [List.take_length] at hf ⊢
      refine h4 _ _ _ ⟨t1, fun _ => ⟨t1, fun s1 e1 => ?_⟩, fun hc => absurd ?_ hc⟩
      · subst e1
        refine hP1 (fun p hp => ?_) _ (ro_L_w hT0 (Nat.le_trans (al_ps_len l) hn) (al_ps_s hs) (al_ps_k hkk) hf) ⟨_, _, _, rfl⟩
        obtain ⟨j, hj, rfl⟩ := List.getElem_of_mem hp
        have := hok j hj
        rw [gd_eq l _ hj] at this
        exact this
      · have : z_I (ro_w σ k c F G) 402 a = nI l.length := hz
        rw [this]
        exact nI_le (Nat.le_refl _) (by omega)
    | succ m ih =>
      intro i F G him hok hr hf
      have hi : i < l.length := by omega
      have hq : (al_ps (l.take i)).length ≤ i := Nat.le_trans (al_ps_len _) (by rw [List.length_take]; omega)
      have ez : z_I (ro_w σ k c F G) 402 a = nI l.length := hz
      have hmem : l.getD i (0, 0) ∈ l := by rw [gd_eq l _ hi]; exact List.getElem_mem hi
      obtain ⟨b1, b2⟩ := hb _ hmem
      have eG : z_A (ro_w σ k c F G) 13 c (nI i).toNatClampNeg = Int32.ofInt (l.getD i (0, 0)).2 := by rw [ro_w_G, cl_nI (by omega)]; exact (hr i (Nat.le_refl _) hi).2
      have eF : z_A (ro_w σ k c F G) 12 k (nI i).toNatClampNeg = nI (l.getD i (0, 0)).1 := by rw [ro_w_F, cl_nI (by omega)]; exact (hr i (Nat.le_refl _) hi).1
      have hgo : 0 ≤ (l.getD i (0, 0)).2 → (l.getD i (0, 0)).2 ≤ 9 → ∀ j, j < i + 1 → 0 ≤ (l.getD j (0, 0)).2 ∧ (l.getD j (0, 0)).2 ≤ 9 := fun g1 g2 j hj => by
        rcases Nat.lt_or_ge j i with g | g
        · exact hok j g
        · have : j = i := by omega
          subst this
          exact ⟨g1, g2⟩
      have hbad : ((l.getD i (0, 0)).2 < 0 ∨ 9 < (l.getD i (0, 0)).2) → P 0 (ro_w σ k c F G) := fun g => hP0 ⟨_, hmem, g⟩ _ ⟨F, G, nI l.length, by rw [← ez]; exact (z_sI_id _ 402 a).symm⟩
      refine h4 _ _ _ ⟨t1, fun hc => ?_, fun _ => ⟨t1, c, t3, 100, 13, t5, vp_in_nI (by omega) (by omega), fun hc => ?_, fun hc => ⟨t1, c, t3, 100, 13, t5, vp_in_nI (by omega) (by omega), fun hc2 => ⟨t1, c, t3, 100, 13, t5, vp_in_nI (by omega) (by omega), fun hc3 => ?_, fun hc3 => ?_⟩, fun hc2 => ?_⟩⟩⟩
      · rw [ez, nI_leI (by omega) (by omega)] at hc
        omega
      · rw [eG, show (0 : Int32) = nI 0 from rfl, ofI_lt b1 b2 0 (by omega)] at hc
        exact hbad (Or.inl (by simpa using hc))
      · rw [eG, show (0 : Int32) = nI 0 from rfl, ofI_lt b1 b2 0 (by omega)] at hc
        rw [eG, show (9 : Int32) = nI 9 from rfl, ofI_le b1 b2 9 (by omega)] at hc2
        rw [eG, show (0 : Int32) = nI 0 from rfl, ofI_le b1 b2 0 (by omega)] at hc3
        have hz0 : ¬ 0 < (l.getD i (0, 0)).2 := by simpa using hc3
        have e1 := al_ps_snoc l hi
        rw [if_neg hz0] at e1
        have := ih (i + 1) F G (by omega) (hgo (by simpa using hc) (by simpa using hc2)) (fun j g1 g2 => hr j (by omega) g2) (by rw [e1]; exact hf)
        rw [e1] at this
        rw [nI_1]
        exact this
      · rw [eG, show (0 : Int32) = nI 0 from rfl, ofI_lt b1 b2 0 (by omega)] at hc
        rw [eG, show (9 : Int32) = nI 9 from rfl, ofI_le b1 b2 9 (by omega)] at hc2
        rw [eG, show (0 : Int32) = nI 0 from rfl, ofI_le b1 b2 0 (by omega)] at hc3
        have hz0 : 0 < (l.getD i (0, 0)).2 := by
          have : ¬ (l.getD i (0, 0)).2 ≤ 0 := by simpa using hc3
          omega
        have e1 := al_ps_snoc l hi
        rw [if_pos hz0] at e1
        refine ⟨t1, k, t2, t1, k, t2, 100, 12, t4, vp_in_nI (by omega) (by omega), 100, 12, t4, vp_in_nI (by omega) (by omega), fun s1 f1 => ?_⟩
        rw [eF, ro_w_F, ro_w_sF, cl_nI (by omega)] at f1
        subst f1
        refine ⟨t1, c, t3, t1, c, t3, 100, 13, t5, vp_in_nI (by omega) (by omega), 100, 13, t5, vp_in_nI (by omega) (by omega), fun s2 f2 => ?_⟩
        have eG2 : z_A (ro_w σ k c (upd F (al_ps (l.take i)).length (nI (l.getD i (0, 0)).1)) G) 13 c (nI i).toNatClampNeg = Int32.ofInt (l.getD i (0, 0)).2 := by rw [ro_w_G, cl_nI (by omega)]; exact (hr i (Nat.le_refl _) hi).2
        rw [eG2, ro_w_G, ro_w_sG, cl_nI (by omega)] at f2
        subst f2
        have := ih (i + 1) (upd F (al_ps (l.take i)).length (nI (l.getD i (0, 0)).1)) (upd G (al_ps (l.take i)).length (Int32.ofInt (l.getD i (0, 0)).2)) (by omega) (hgo (by simpa using hc) (by simpa using hc2)) (fun j g1 g2 => by
            simp only [upd, if_neg (show ¬ j = (al_ps (l.take i)).length by omega)]
            exact hr j (by omega) g2) (fun j hj => by
            rw [e1] at hj ⊢
            rw [List.length_append, List.length_singleton] at hj
            rw [gd_snoc]
            by_cases g : j < (al_ps (l.take i)).length
            · simp only [if_pos g, upd, if_neg (show ¬ j = (al_ps (l.take i)).length by omega)]
              exact hf j g
            · have g2 : j = (al_ps (l.take i)).length := by omega
              simp only [if_neg g, if_pos g2, upd]
              exact ⟨trivial, trivial⟩)
        rw [e1, List.length_append, List.length_singleton] at this
        rw [nI_1, nI_1]
        exact this
      · rw [eG, show (9 : Int32) = nI 9 from rfl, ofI_le b1 b2 9 (by omega)] at hc2
        refine hbad (Or.inr ?_)
        have : ¬ (l.getD i (0, 0)).2 ≤ 9 := by simpa using hc2
        omega
  have := loop l.length 0 (z_A σ 12 k) (z_A σ 13 c) (by omega) (fun j hj => by omega) (fun j _ hj => hA j hj) (fun j hj => by simp [al_ps] at hj)
  rw [ro_w_id] at this
  exact this
/-- Rows.copy: another object's rows -/
theorem ro_copy {σ : z_S} {a k c b k2 c2 : Nat} {l : al_T} (hT : ro_T σ a k c) (h : ro_L σ b k2 c2 l) (hab : a ≠ b) (hkk : k ≠ k2) (hcc : c ≠ c2) (P : z_S → Prop)
    (hP : ∀ σ', ro_L σ' a k c l → ro_fr σ σ' a k c → P σ') : kp_Ro_copy a b σ P := by
  obtain ⟨⟨u1, u2, u3, u4, u5⟩, hz, hn, hs, hk9, hA⟩ := h
  have hT0 := hT
  obtain ⟨t1, t2, t3, t4, t5⟩ := hT
  intro X10 h10
  have hw1 : ∀ (F G : Nat → Int32) (y : Int32) (j : Nat), z_A (z_sI (ro_w σ k c F G) 402 a y) 12 k2 j = z_A σ 12 k2 j := fun F G y j => by
    rw [z_A_sI]
    unfold ro_w
    rw [z_A_sA, if_neg (by omega), z_A_sA, if_neg (by omega)]
  have hw2 : ∀ (F G : Nat → Int32) (y : Int32) (j : Nat), z_A (z_sI (ro_w σ k c F G) 402 a y) 13 c2 j = z_A σ 13 c2 j := fun F G y j => by
    rw [z_A_sI]
    unfold ro_w
    rw [z_A_sA, if_neg (by omega), z_A_sA, if_neg (by omega)]
  have sF : ∀ (F G F' : Nat → Int32) (y : Int32), z_sA (z_sI (ro_w σ k c F G) 402 a y) 12 k F' = z_sI (ro_w σ k c F' G) 402 a y := fun F G F' y => by
    rw [← ro_w_sF σ k c F G F']
    rfl
  have sG : ∀ (F G G' : Nat → Int32) (y : Int32), z_sA (z_sI (ro_w σ k c F G) 402 a y) 13 c G' = z_sI (ro_w σ k c F G') 402 a y := fun F G G' y => by
    rw [← ro_w_sG σ k c F G G']
    rfl
  have loop : ∀ (m i : Nat) (F G : Nat → Int32), i + m = l.length → (∀ j, j < i → F j = nI (l.getD j (0, 0)).1 ∧ G j = Int32.ofInt (l.getD j (0, 0)).2) → X10 (nI i) (z_sI (ro_w σ k c F G) 402 a (nI l.length)) := by
    intro m
    induction m with
    | zero =>
      intro i F G him hf
      have hi : i = l.length := by omega
      subst hi
      refine h10 _ _ ⟨t1, fun _ => ?_, fun hc => absurd ?_ hc⟩
      · exact hP _ (ro_L_w hT0 hn hs hk9 hf) ⟨_, _, _, rfl⟩
      · rw [z_I_sI, if_pos ⟨rfl, rfl⟩]
        exact nI_le (Nat.le_refl _) (by omega)
    | succ m ih =>
      intro i F G him hf
      refine h10 _ _ ⟨t1, fun hc => ?_, fun _ => ⟨t1, k, t2, u1, k2, u2, 100, 12, u4, vp_in_nI (by omega) (by omega), 100, 12, t4, vp_in_nI (by omega) (by omega), fun s1 e1 => ?_⟩⟩
      · rw [z_I_sI, if_pos ⟨rfl, rfl⟩, nI_leI (by omega) (by omega)] at hc
        omega
      · rw [hw1, z_A_sI, ro_w_F, sF, cl_nI (by omega), (hA i (by omega)).1] at e1
        subst e1
        refine ⟨t1, c, t3, u1, c2, u3, 100, 13, u5, vp_in_nI (by omega) (by omega), 100, 13, t5, vp_in_nI (by omega) (by omega), fun s2 e2 => ?_⟩
        rw [hw2, z_A_sI, ro_w_G, sG, cl_nI (by omega), (hA i (by omega)).2] at e2
        subst e2
        rw [nI_1]
        refine ih (i + 1) _ _ (by omega) (fun j hj => ?_)
        by_cases g : j = i
        · subst g
          simp [upd]
        · simp only [upd, if_neg g]
          exact hf j (by omega)
  refine ⟨u1, t1, fun s1 e1 => ?_⟩
  have := loop l.length 0 (z_A σ 12 k) (z_A σ 13 c) (by omega) (fun j hj => by omega)
  rw [ro_w_id] at this
  rw [e1, hz]
  exact this
/-- Rows.isSame: keys alone -/
theorem ro_isSame {σ : z_S} {a k c b k2 c2 : Nat} {l l2 : al_T} (h : ro_L σ a k c l) (h2 : ro_L σ b k2 c2 l2) (P : Int32 → z_S → Prop)
    (hP : P (if l.map Prod.fst = l2.map Prod.fst then 1 else 0) σ) : kp_Ro_isSame a b σ P := by
  obtain ⟨⟨t1, t2, t3, t4, t5⟩, hz, hn, hs, hk9, hA⟩ := h
  obtain ⟨⟨u1, u2, u3, u4, u5⟩, vz, vn, vs, vk9, vA⟩ := h2
  intro X15 h15
  have loop : ∀ (m i : Nat), i + m = l.length → l.length = l2.length → (∀ j, j < i → (l.getD j (0, 0)).1 = (l2.getD j (0, 0)).1) → X15 (nI i) σ := by
    intro m
    induction m with
    | zero =>
      intro i him hlen heq
      have hi : i = l.length := by omega
      subst hi
      have e : l.map Prod.fst = l2.map Prod.fst := by
        refine List.ext_getElem (by simp [hlen]) (fun j h1 h2 => ?_)
        have h1' : j < l.length := by simpa using h1
        have := heq j h1'
        rw [gd_eq l _ h1', gd_eq l2 _ (by omega)] at this
        simpa using this
      rw [if_pos e] at hP
      refine h15 _ _ ⟨t1, fun _ => hP, fun hc => absurd ?_ hc⟩
      rw [hz]
      exact nI_le (Nat.le_refl _) (by omega)
    | succ m ih =>
      intro i him hlen heq
      have k1 := al_k_gd hk9 (i := i) (by omega)
      have k2' := al_k_gd vk9 (i := i) (by omega)
      refine h15 _ _ ⟨t1, fun hc => ?_, fun _ => ⟨t1, k, t2, 100, 12, t4, vp_in_nI (by omega) (by omega), u1, k2, u2, 100, 12, u4, vp_in_nI (by omega) (by omega), fun hc => ?_, fun hc => ?_⟩⟩
      · rw [hz, nI_leI (by omega) (by omega)] at hc
        omega
      · rw [cl_nI (by omega), (hA i (by omega)).1, (vA i (by omega)).1, nI_eq (by omega) (by omega)] at hc
        rw [nI_1]
        refine ih (i + 1) (by omega) hlen (fun j hj => ?_)
        rcases Nat.lt_or_ge j i with g | g
        · exact heq j g
        · have : j = i := by omega
          subst this
          exact hc
      · rw [cl_nI (by omega), (hA i (by omega)).1, (vA i (by omega)).1, nI_eq (by omega) (by omega)] at hc
        rw [if_neg (fun e => hc ?_)] at hP
        · exact hP
        · have h1 : i < l.length := by omega
          have h2 : i < l2.length := by omega
          rw [gd_eq l _ h1, gd_eq l2 _ h2]
          have := congrArg (fun q => q[i]?) e
          simpa [h1, h2] using this
  refine ⟨t1, u1, fun hc => ?_, fun hc => ?_⟩
  · rw [hz, vz, nI_eq (by omega) (by omega)] at hc
    exact loop l.length 0 (by omega) hc (fun j hj => by omega)
  · rw [hz, vz, nI_eq (by omega) (by omega)] at hc
    rw [if_neg (fun e => hc (by simpa using congrArg List.length e))] at hP
    exact hP
