def rgl (m : Nat → Bool) (nm : List Nat) (i : Nat) : List Nat := ((List.range i).filter m).map (fun v => nm.getD v 0)
theorem rgl_s (m : Nat → Bool) (nm : List Nat) (i : Nat) : rgl m nm (i + 1) = if m i = true then rgl m nm i ++ [nm.getD i 0] else rgl m nm i := by
  unfold rgl
  rw [List.range_succ, List.filter_append, List.map_append]
  by_cases z : m i = true
  · rw [if_pos z, List.filter_cons_of_pos z]; rfl
  · rw [if_neg z, List.filter_cons_of_neg z]
    exact List.append_nil _
theorem rgl_len (m : Nat → Bool) (nm : List Nat) (i : Nat) : (rgl m nm i).length ≤ i := by
  unfold rgl
  rw [List.length_map]
  exact Nat.le_trans (List.length_filter_le _ _) (by rw [List.length_range]; exact Nat.le_refl _)
theorem ref_ringMany {μ0 : mo_U} {m : Nat → Bool} {nm : List Nat} (h39 : ∀ v, v < 8 → μ0.2 39 v = if m v then 1 else 0) (h34 : ∀ v, v < 8 → m v = true → μ0.2 34 v = nI (nm.getD v 0)) (Q : mo_U → Prop) (hQ : ∀ μ, mo_fr [56] [849] μ0 μ → μ.1 849 = nI (rgl m nm 8).length → (∀ i, i < (rgl m nm 8).length → μ.2 56 i = nI ((rgl m nm 8).getD i 0)) → Q μ) : mp_ringMany μ0 Q := by
  intro X7 h7 μ1 e1
  have main : ∀ (k i : Nat) (μ : mo_U), i + k = 8 → mo_fr [56] [849] μ0 μ → μ.1 849 = nI (rgl m nm i).length → (∀ j, j < (rgl m nm i).length → μ.2 56 j = nI ((rgl m nm i).getD j 0)) → X7 (nI i) μ := by
    intro k
    induction k with
    | zero =>
      intro i μ hi hf hl hc
      rw [show i = 8 by omega] at hl hc ⊢
      exact h7 _ _ ⟨fun _ => hQ μ hf hl hc, fun z => absurd (nI_le (a := 8) (by omega) (by omega)) z⟩
    | succ k ih =>
      intro i μ hi hf hl hc
      have i8 : i < 8 := by omega
      have hlen := rgl_len m nm i
      refine h7 _ _ ⟨fun z => absurd z (nI_ge (b := 8) (by omega) (by decide)), fun _ => ⟨vp_in_nI i8 (by decide), ?_⟩⟩
      rw [cl_nI (by omega), hf.1 39 (by decide), h39 i i8, nI_1]
      cases hm : m i with
      | false =>
        refine ⟨fun _ => ih (i + 1) μ (by omega) hf ?_ ?_, fun z => absurd rfl z⟩
        · rw [rgl_s, if_neg (by rw [hm]; decide)]; exact hl
        · rw [rgl_s, if_neg (by rw [hm]; decide)]; exact hc
      | true =>
        refine ⟨fun z => absurd z (by decide), fun _ => ⟨vp_in_nI (by omega) (by decide), ?_⟩⟩
        rw [hl, cl_nI (by omega), hf.1 34 (by decide), h34 i i8 hm]
        refine ⟨vp_in_nI (by omega) (by decide), fun μ2 e2 μ3 e3 => ?_⟩
        have a2 : μ2.1 849 = nI (rgl m nm i).length := by rw [e2]; exact hl
        rw [a2, nI_1] at e3
        have x56 : ∀ j, μ3.2 56 j = if j = (rgl m nm i).length then nI (nm.getD i 0) else μ.2 56 j := fun j => by rw [e3, e2]; rfl
        have er : rgl m nm (i + 1) = rgl m nm i ++ [nm.getD i 0] := by rw [rgl_s, if_pos hm]
        have hl1 : (rgl m nm i ++ [nm.getD i 0]).length = (rgl m nm i).length + 1 := by rw [List.length_append]; rfl
        refine ih (i + 1) μ3 (by omega) (mo_fr_tr hf (by rw [e3, e2]; exact mo_fr_tr (fr_sA (by decide) _) (fr_sI (by decide) _))) ?_ (fun j hj => ?_)
        · rw [e3, mu_I_sI, if_pos rfl, er, hl1]
        · rw [er] at hj ⊢
          rw [x56, gd_sn]
          by_cases z : j = (rgl m nm i).length
          · rw [if_pos z, if_pos z]
          · rw [if_neg z, if_neg z]; exact hc j (by omega)
  exact main 8 0 μ1 rfl (by rw [e1]; exact fr_sI (by decide) _) (by rw [e1]; rfl) (fun j hj => absurd hj (Nat.not_lt_zero j))
