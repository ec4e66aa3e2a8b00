/-- the keys that are new, in their order -/
def frs (old : List Nat) : List Nat → List Nat → List Nat
  | [], acc => acc
  | k :: ks, acc => if k ∈ old ∨ k ∈ acc then frs old ks acc else frs old ks (acc ++ [k])
theorem frs_len (old : List Nat) : ∀ (ks acc : List Nat), acc.length ≤ (frs old ks acc).length
  | [], acc => Nat.le_refl _
  | k :: ks, acc => by
    simp only [frs]
    split
    · exact frs_len old ks acc
    · have := frs_len old ks (acc ++ [k])
      rw [List.length_append, List.length_singleton] at this
      omega
theorem frs_mem (old : List Nat) : ∀ (ks acc : List Nat) (x : Nat), x ∈ frs old ks acc ↔ x ∈ acc ∨ (x ∈ ks ∧ x ∉ old)
  | [], acc, x => by simp [frs]
  | k :: ks, acc, x => by
    simp only [frs]
    split
    · rename_i h
      rw [frs_mem old ks acc x]
      constructor
      · rintro (g | ⟨g1, g2⟩)
        · exact Or.inl g
        · exact Or.inr ⟨List.mem_cons_of_mem _ g1, g2⟩
      · rintro (g | ⟨g1, g2⟩)
        · exact Or.inl g
        · rcases List.mem_cons.mp g1 with rfl | g1
          · rcases h with h | h
            · exact absurd h g2
            · exact Or.inl h
          · exact Or.inr ⟨g1, g2⟩
    · rename_i h
      rw [frs_mem old ks (acc ++ [k]) x]
      constructor
      · rintro (g | ⟨g1, g2⟩)
        · rcases List.mem_append.mp g with g | g
          · exact Or.inl g
          · have : x = k := by simpa using g
            subst this
            exact Or.inr ⟨List.mem_cons_self, fun q => h (Or.inl q)⟩
        · exact Or.inr ⟨List.mem_cons_of_mem _ g1, g2⟩
      · rintro (g | ⟨g1, g2⟩)
        · exact Or.inl (List.mem_append_left _ g)
        · rcases List.mem_cons.mp g1 with rfl | g1
          · exact Or.inl (List.mem_append_right _ (by simp))
          · exact Or.inr ⟨g1, g2⟩
theorem frs_nd (old : List Nat) : ∀ (ks acc : List Nat), acc.Nodup → (frs old ks acc).Nodup
  | [], acc, h => h
  | k :: ks, acc, h => by
    simp only [frs]
    split
    · exact frs_nd old ks acc h
    · rename_i hk
      refine frs_nd old ks (acc ++ [k]) (List.nodup_append.mpr ⟨h, by simp, fun a ha b hb => ?_⟩)
      have : b = k := by simpa using hb
      subst this
      exact fun q => hk (Or.inr (q ▸ ha))
/-- the reference's new rows -/
def mo_F (μ : mo_U) (acc : List Nat) : Prop := μ.1 845 = nI acc.length ∧ acc.length ≤ 40 ∧ ∀ i, i < acc.length → acc.getD i 0 < 1000000000 ∧ μ.2 53 (3 * i) = nI (acc.getD i 0 / 1000000) ∧ μ.2 53 (3 * i + 1) = nI (acc.getD i 0 / 1000 % 1000) ∧ μ.2 53 (3 * i + 2) = nI (acc.getD i 0 % 1000)
theorem mo_F_fr {μ μ' : mo_U} {acc : List Nat} {ts fs : List Nat} (h : mo_F μ acc) (hf : mo_fr ts fs μ μ') (h1 : 53 ∉ ts) (h2 : 845 ∉ fs) : mo_F μ' acc := by
  unfold mo_F
  rw [hf.1 53 h1, hf.2 845 h2]
  exact h
theorem mo_W_fr {μ μ' : mo_U} {R : mr_R} {N : Nat → Nat} {T : Nat → al_T} {ts fs : List Nat} (h : mo_W μ R N T) (hf : mo_fr ts fs μ μ') (h1 : 40 ∉ ts) (h2 : 41 ∉ ts) (h3 : 42 ∉ ts) : mo_W μ' R N T := ⟨mo_M_fr h.1 hf h1 h2 h3, h.2⟩
/-- a rule's head -/
def mo_head (μ : mo_U) (r h : Nat) (hts : tm_T) : Prop := μ.2 26 r = nI h ∧ h < 8 ∧ μ.2 27 (3 * r) = nI hts.1 ∧ μ.2 27 (3 * r + 1) = nI hts.2.1 ∧ μ.2 27 (3 * r + 2) = nI hts.2.2 ∧ tm3_ok hts
theorem mo_head_fr {μ μ' : mo_U} {r h : Nat} {hts : tm_T} {ts fs : List Nat} (hh : mo_head μ r h hts) (hf : mo_fr ts fs μ μ') (h1 : 26 ∉ ts) (h2 : 27 ∉ ts) : mo_head μ' r h hts := by
  unfold mo_head
  rw [hf.1 26 h1, hf.1 27 h2]
  exact hh
theorem fold_add {l : al_T} : ∀ {ks : List Nat}, al_s l → (∀ k ∈ ks, ¬ al_in l k) → ks.Nodup → al_s (ks.foldl (fun l k => al_add l k 1) l) ∧ (ks.foldl (fun l k => al_add l k 1) l).length = l.length + ks.length := by
  intro ks
  induction ks generalizing l with
  | nil => intro hs _ _; exact ⟨hs, by simp⟩
  | cons k ks ih =>
    intro hs hno hnd
    obtain ⟨hk, hnd⟩ := List.nodup_cons.mp hnd
    have hk0 := hno k List.mem_cons_self
    have := ih (l := al_add l k 1) (al_add_s hs) (fun k' hk' => ?_) hnd
    · refine ⟨this.1, ?_⟩
      simp only [List.foldl_cons, this.2, al_add_len l k 1 hs hk0, List.length_cons]
      omega
    · rintro ⟨p, hp, he⟩
      rcases al_add_mem hp with g | g
      · exact hno k' (List.mem_cons_of_mem _ hk') ⟨p, g, he⟩
      · rw [g] at he
        exact hk (he ▸ hk')
