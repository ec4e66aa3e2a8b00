/-! SignedRows: relations (site 15), keys (16), signs (17), size (603) -/
def si_T (σ : z_S) (a r k s room : Nat) : Prop := z_ty σ a = some (.inl 6) ∧ z_R σ 600 a = some r ∧ z_R σ 601 a = some k ∧ z_R σ 602 a = some s ∧ z_ty σ r = some (.inr (0, room, 15)) ∧ z_ty σ k = some (.inr (0, room, 16)) ∧ z_ty σ s = some (.inr (0, room, 17))
abbrev sl_T : Type := List (Nat × Nat × Int)
def si_L (σ : z_S) (a r k s room : Nat) (l : sl_T) : Prop := si_T σ a r k s room ∧ z_I σ 603 a = nI l.length ∧ l.length ≤ room ∧ ∀ i, i < l.length → z_A σ 15 r i = nI (l.getD i (0, 0, 0)).1 ∧ z_A σ 16 k i = nI (l.getD i (0, 0, 0)).2.1 ∧ z_A σ 17 s i = Int32.ofInt (l.getD i (0, 0, 0)).2.2
/-- only this object's arrays and size are written -/
def si_fr (σ σ' : z_S) (a r k s : Nat) : Prop := ∃ (F G K : Nat → Int32) (y : Int32), σ' = z_sI (z_sA (z_sA (z_sA σ 15 r F) 16 k G) 17 s K) 603 a y
theorem si_append {σ : z_S} {a r k s room : Nat} {l : sl_T} (h : si_L σ a r k s room l) (hroom : room < 1000) (hlt : l.length < room) (x y : Nat) (z : Int) (P : z_S → Prop)
    (hP : ∀ σ', si_L σ' a r k s room (l ++ [(x, y, z)]) → si_fr σ σ' a r k s → P σ') : kp_Si_append a (nI x) (nI y) (Int32.ofInt z) σ P := by
  obtain ⟨hT, hz, hn, hA⟩ := h
  have hT0 := hT
  obtain ⟨t1, t2, t3, t4, t5, t6, t7⟩ := hT
  refine ⟨t1, t1, k, t3, room, 16, t6, fun _ => ⟨t1, r, t2, t1, room, 15, t5, ?_, fun s1 e1 => ⟨?_, k, ?_, ?_, room, 16, ?_, ?_, fun s2 e2 => ⟨?_, s, ?_, ?_, room, 17, ?_, ?_, fun s3 e3 => ⟨?_, ?_, fun s4 e4 => ?_⟩⟩⟩⟩, fun q => absurd ?_ q⟩
  · rw [hz]
    exact vp_in_nI hlt (by omega)
  all_goals first | (rw [e1]; exact t1) | (rw [e1]; exact t3) | (rw [e1]; exact t6) | (rw [e2, e1]; exact t1) | (rw [e2, e1]; exact t4) | (rw [e2, e1]; exact t7) | (rw [e3, e2, e1]; exact t1) | skip
  · rw [e1, z_I_sA, hz]
    exact vp_in_nI hlt (by omega)
  · rw [e2, z_I_sA, e1, z_I_sA, hz]
    exact vp_in_nI hlt (by omega)
  · have i1 : z_I s1 603 a = nI l.length := by rw [e1, z_I_sA, hz]
    have i2 : z_I s2 603 a = nI l.length := by rw [e2, z_I_sA, i1]
    have i3 : z_I s3 603 a = nI l.length := by rw [e3, z_I_sA, i2]
    rw [hz, cl_nI (by omega)] at e1
    rw [i1, cl_nI (by omega)] at e2
    rw [i2, cl_nI (by omega)] at e3
    rw [i3, nI_1] at e4
    have a16 : z_A s1 16 k = z_A σ 16 k := by rw [e1, z_A_sA, if_neg (by omega)]
    have a17 : z_A s2 17 s = z_A σ 17 s := by rw [e2, z_A_sA, if_neg (by omega), e1, z_A_sA, if_neg (by omega)]
    rw [a16] at e2
    rw [a17] at e3
    have e9 : s4 = z_sI (z_sA (z_sA (z_sA σ 15 r (upd (z_A σ 15 r) l.length (nI x))) 16 k (upd (z_A σ 16 k) l.length (nI y))) 17 s (upd (z_A σ 17 s) l.length (Int32.ofInt z))) 603 a (nI (l.length + 1)) := by rw [e4, e3, e2, e1]
    refine hP s4 ⟨?_, ?_, ?_, fun i hi => ?_⟩ ⟨_, _, _, _, e9⟩
    · rw [e9]
      exact hT0
    · rw [e9, z_I_sI, if_pos ⟨rfl, rfl⟩, List.length_append, List.length_singleton]
    · rw [List.length_append, List.length_singleton]
      omega
    · rw [List.length_append, List.length_singleton] at hi
      have b15 : z_A s4 15 r = upd (z_A σ 15 r) l.length (nI x) := by rw [e9, z_A_sI, z_A_sA, if_neg (by omega), z_A_sA, if_neg (by omega), z_A_sA, if_pos ⟨rfl, rfl⟩]
      have b16 : z_A s4 16 k = upd (z_A σ 16 k) l.length (nI y) := by rw [e9, z_A_sI, z_A_sA, if_neg (by omega), z_A_sA, if_pos ⟨rfl, rfl⟩]
      have b17 : z_A s4 17 s = upd (z_A σ 17 s) l.length (Int32.ofInt z) := by rw [e9, z_A_sI, z_A_sA, if_pos ⟨rfl, rfl⟩]
      rw [b15, b16, b17, gd_snoc]
      by_cases g : i < l.length
      · simp only [upd, if_pos g, if_neg (show ¬ i = l.length by omega)]
        exact hA i g
      · have gi : i = l.length := by omega
        subst gi
        simp [upd]
  · rw [hz]
    exact (nI_ltI (by omega) (by omega)).mpr hlt
