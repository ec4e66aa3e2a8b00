theorem flat_len {α β : Type} (f : α → List β) (B : Nat) : ∀ (l : List α), (∀ a ∈ l, (f a).length ≤ B) → (l.flatMap f).length ≤ l.length * B
  | [], _ => by simp
  | a :: l, h => by
    rw [List.flatMap_cons, List.length_append, List.length_cons, Nat.add_mul, Nat.one_mul]
    have h1 := h a List.mem_cons_self
    have h2 := flat_len f B l (fun b hb => h b (List.mem_cons_of_mem _ hb))
    omega
/-- at most 40 rows for each literal -/
theorem sols_len {S : Nat → List Nat} : ∀ (ls : List lit_T) (e : ev_T), (∀ l ∈ ls, l.1 = 0 ∧ (S l.2.1).length ≤ 40) → (sols S ls e).length ≤ 40 ^ ls.length
  | [], e, _ => by simp [sols]
  | l :: ls, e, h => by
    obtain ⟨h0, h40⟩ := h l List.mem_cons_self
    simp only [sols, if_pos h0]
    have hB := flat_len (fun key => match un3 e l.2.2 key with
      | some e' => sols S ls e'
      | none => []) (40 ^ ls.length) (S l.2.1) (fun key _ => by
        try dsimp only
        split
        · exact sols_len ls _ (fun l hl => h l (List.mem_cons_of_mem _ hl))
        · simp)
    rw [List.length_cons, Nat.pow_succ]
    have h2 : (S l.2.1).length * 40 ^ ls.length ≤ 40 * 40 ^ ls.length := Nat.mul_le_mul_right _ h40
    refine Nat.le_trans ?_ (Nat.le_trans h2 (by omega))
    exact hB
/-- groups in the order in which they come, each with its number -/
def gad : List (Nat × Nat) → Nat → List (Nat × Nat)
  | [], g => [(g, 1)]
  | p :: r, g => if p.1 = g then (p.1, p.2 + 1) :: r else p :: gad r g
def grp (ks : List Nat) : List (Nat × Nat) := ks.foldl gad []
theorem gad_fst : ∀ (l : List (Nat × Nat)) (g : Nat), (gad l g).map Prod.fst = if g ∈ l.map Prod.fst then l.map Prod.fst else l.map Prod.fst ++ [g]
  | [], g => by simp [gad]
  | p :: r, g => by
    simp only [gad]
    by_cases h : p.1 = g
    · simp [h]
    · have ih := gad_fst r g
      have h' : ¬ g = p.1 := fun q => h q.symm
      rw [if_neg h, List.map_cons, ih]
      by_cases hg : g ∈ r.map Prod.fst
      · rw [if_pos hg, List.map_cons, if_pos (List.mem_cons_of_mem _ hg)]
      · rw [if_neg hg, List.map_cons, if_neg (by rw [List.mem_cons]; rintro (q | q); exact h' q; exact hg q)]
        rfl
theorem gad_nd {l : List (Nat × Nat)} {g : Nat} (h : (l.map Prod.fst).Nodup) : ((gad l g).map Prod.fst).Nodup := by
  rw [gad_fst]
  split
  · exact h
  · rename_i hg
    refine List.nodup_append.mpr ⟨h, by simp, fun a ha b hb => ?_⟩
    have : b = g := by simpa using hb
    subst this
    exact fun q => hg (q ▸ ha)
/-- a group's number is how often it came -/
def gcount (l : List (Nat × Nat)) (g : Nat) : Nat := match l with
  | [] => 0
  | p :: r => if p.1 = g then p.2 else gcount r g
theorem gcount_gad : ∀ (l : List (Nat × Nat)) (g g' : Nat), gcount (gad l g) g' = gcount l g' + if g = g' then 1 else 0
  | [], g, g' => by simp [gad, gcount]
  | p :: r, g, g' => by
    simp only [gad]
    by_cases h : p.1 = g
    · rw [if_pos h]
      by_cases h2 : p.1 = g'
      · have : g = g' := by omega
        simp [gcount, h2, this]
      · have : ¬ g = g' := by omega
        simp [gcount, h2, this]
    · rw [if_neg h]
      by_cases h2 : p.1 = g'
      · have : ¬ g = g' := by omega
        simp [gcount, h2, this]
      · simp only [gcount, if_neg h2]
        exact gcount_gad r g g'
theorem gcount_grp (ks : List Nat) : ∀ (l : List (Nat × Nat)) (g : Nat), gcount (ks.foldl gad l) g = gcount l g + ks.count g := by
  induction ks with
  | nil => intro l g; simp
  | cons k ks ih =>
    intro l g
    rw [List.foldl_cons, ih, gcount_gad, List.count_cons]
    by_cases h : k = g
    · simp [h]
      omega
    · simp [h]
