/-- names that a program holds -/
def pN (σ : z_S) (P na : Nat) (nm : List Nat) : Prop := (z_ty σ P = some (.inl 2)) ∧ (z_I σ 206 P = nI nm.length) ∧ (z_R σ 202 P = some na) ∧ (z_ty σ na = some (.inr (0, 8, 8))) ∧ (∀ i, i < nm.length → z_A σ 8 na i = nI (nm.getD i 0))
theorem pN.ty {σ : z_S} {P na : Nat} {nm : List Nat} (h' : pN σ P na nm) : z_ty σ P = some (.inl 2) := h'.1
theorem pN.nn {σ : z_S} {P na : Nat} {nm : List Nat} (h' : pN σ P na nm) : z_I σ 206 P = nI nm.length := h'.2.1
theorem pN.rn {σ : z_S} {P na : Nat} {nm : List Nat} (h' : pN σ P na nm) : z_R σ 202 P = some na := h'.2.2.1
theorem pN.tn {σ : z_S} {P na : Nat} {nm : List Nat} (h' : pN σ P na nm) : z_ty σ na = some (.inr (0, 8, 8)) := h'.2.2.2.1
theorem pN.vn {σ : z_S} {P na : Nat} {nm : List Nat} (h' : pN σ P na nm) : ∀ i, i < nm.length → z_A σ 8 na i = nI (nm.getD i 0) := h'.2.2.2.2
theorem pN_f {fs ts : List (Nat × Nat)} {σ σ' : z_S} {P na : Nat} {nm : List Nat} (h : pN σ P na nm) (f : nf fs ts σ σ') (h1 : (206, P) ∉ fs) (h2 : (8, na) ∉ ts) : pN σ' P na nm := ⟨by rw [f.ty]; exact h.ty, by rw [f.I _ _ h1]; exact h.nn, by rw [f.R]; exact h.rn, by rw [f.ty]; exact h.tn, fun i hi => by rw [f.A _ _ h2]; exact h.vn i hi⟩
theorem cl_named0 {σ : z_S} {P na s : Nat} {nm : List Nat} (h : pN σ P na nm) (n8 : nm.length ≤ 8) (hb : ∀ x ∈ nm, x < 256) (hs : s < 256) (Po : Int32 → z_S → Prop) (h1 : nm.idxOf s < nm.length → Po (nI (nm.idxOf s)) σ) (h0 : ¬ nm.idxOf s < nm.length → Po (-1) σ) : kp_Pr_relationNamed P (nI s) σ Po := by
  intro X2 h2
  have main : ∀ k i, i + k = nm.length → i ≤ nm.idxOf s → X2 (nI i) σ := by
    intro k
    induction k with
    | zero =>
      intro i hi hx
      refine h2 _ _ ⟨h.ty, ?_⟩
      rw [h.nn]
      exact ⟨fun _ => h0 (by omega), fun z => absurd (nI_le (by omega) (by omega)) z⟩
    | succ k ih =>
      intro i hi hx
      have hil : i < nm.length := by omega
      have hx256 : nm.getD i 0 < 256 := hb _ (by rw [gd_eq _ _ hil]; exact List.getElem_mem hil)
      refine h2 _ _ ⟨h.ty, ?_⟩
      rw [h.nn]
      refine ⟨fun z => absurd z (nI_ge (by omega) (by omega)), fun _ => ⟨h.ty, na, h.rn, 8, 8, h.tn, vp_in_nI (by omega) (by decide), ?_⟩⟩
      rw [cl_nI (by omega), h.vn i hil, nI_eq (by omega) (by omega)]
      refine ⟨fun z => ?_, fun z => ?_⟩
      · rw [nI_1]
        refine ih (i + 1) (by omega) ?_
        rcases Nat.lt_or_ge i (nm.idxOf s) with y | y
        · omega
        · have e : nm.idxOf s = i := by omega
          refine absurd ?_ z
          have hlt : nm.idxOf s < nm.length := by omega
          rw [← e, gd_eq _ _ hlt]
          exact List.getElem_idxOf hlt
      · have : nm.idxOf s = i := by
          have hle : nm.idxOf s ≤ i := by
            rw [gd_eq _ _ hil] at z
            rcases Nat.lt_or_ge i (nm.idxOf s) with y | y
            · exact absurd z (by
                have := List.not_of_lt_findIdx (p := fun x => x == s) (xs := nm) (i := i) y
                simpa using this)
            · exact y
          omega
        rw [← this]
        exact h1 (by omega)
  exact main nm.length 0 (by omega) (by omega)
theorem cl_made {σ : z_S} {P na s : Nat} {nm : List Nat} (h : pN σ P na nm) (n8 : nm.length ≤ 8) (hb : ∀ x ∈ nm, x < 256) (hs : s < 256) (Po : Int32 → z_S → Prop) (h1 : nm.idxOf s < nm.length → Po (nI (nm.idxOf s)) σ) (h2 : ∀ σ', ¬ nm.idxOf s < nm.length → nm.length ≠ 8 → pN σ' P na (nm ++ [s]) → nf [(206, P)] [(8, na)] σ σ' → Po (nI nm.length) σ') (h3 : ¬ nm.idxOf s < nm.length → nm.length = 8 → Po (-1) σ) : kp_Pr_relationMade P (nI s) σ Po := by
  refine ⟨h.ty, cl_named0 h n8 hb hs _ (fun hi => ⟨fun _ => h1 hi, fun z => absurd z (ov_m1 (by omega))⟩) (fun hi => ⟨fun z => absurd rfl z, fun _ => ⟨h.ty, ?_⟩⟩)⟩
  rw [h.nn, show (8 : Int32) = nI 8 from rfl, nI_ltI (by omega) (by decide), cl_nI (by omega)]
  refine ⟨fun z => ⟨h.ty, na, h.rn, h.ty, 8, 8, h.tn, vp_in_nI z (by decide), fun σ1 e1 => ⟨by rw [e1]; exact h.ty, by rw [e1]; exact h.ty, fun σ2 e2 => ⟨by rw [e2, e1]; exact h.ty, ?_⟩⟩⟩, fun z => h3 hi (by omega)⟩
  have hn : z_I σ2 206 P = nI (nm.length + 1) := by rw [e2, z_I_sI, if_pos ⟨rfl, rfl⟩, e1, z_I_sA, h.nn, nI_1]
  have hA : z_A σ2 8 na = upd (z_A σ 8 na) nm.length (nI s) := by rw [e2, z_A_sI, e1, z_A_sA, if_pos ⟨rfl, rfl⟩]
  rw [hn, show nI (nm.length + 1) - (1 : Int32) = nI nm.length from nI_pred _]
  refine h2 σ2 hi (by omega) ⟨by rw [e2, e1]; exact h.ty, by rw [hn, List.length_append]; rfl, by rw [e2, e1]; exact h.rn, by rw [e2, e1]; exact h.tn, fun i hi => ?_⟩ (by
    rw [e2, e1]
    exact nf_tr (nf_sA (by simp)) (nf_sI (by simp)))
  rw [List.length_append] at hi
  have hi : i < nm.length + 1 := hi
  rw [hA, gd_sn]
  unfold upd
  by_cases y : i = nm.length
  · rw [if_pos y, if_pos y]
  · rw [if_neg y, if_neg y]; exact h.vn i (by omega)
/-- a program that is being read: names, and how many terms they have -/
def pS (σ : z_S) (P na ta : Nat) (nm A : List Nat) : Prop := (pN σ P na nm) ∧ (z_R σ 203 P = some ta) ∧ (z_ty σ ta = some (.inr (0, 8, 9))) ∧ (∀ i, i < nm.length → z_A σ 9 ta i = nI (A.getD i 0))
theorem pS.n {σ : z_S} {P na ta : Nat} {nm A : List Nat} (h' : pS σ P na ta nm A) : pN σ P na nm := h'.1
theorem pS.rt {σ : z_S} {P na ta : Nat} {nm A : List Nat} (h' : pS σ P na ta nm A) : z_R σ 203 P = some ta := h'.2.1
theorem pS.tt {σ : z_S} {P na ta : Nat} {nm A : List Nat} (h' : pS σ P na ta nm A) : z_ty σ ta = some (.inr (0, 8, 9)) := h'.2.2.1
theorem pS.vt {σ : z_S} {P na ta : Nat} {nm A : List Nat} (h' : pS σ P na ta nm A) : ∀ i, i < nm.length → z_A σ 9 ta i = nI (A.getD i 0) := h'.2.2.2
theorem pS_f {fs ts : List (Nat × Nat)} {σ σ' : z_S} {P na ta : Nat} {nm A : List Nat} (h : pS σ P na ta nm A) (f : nf fs ts σ σ') (h1 : (206, P) ∉ fs) (h2 : (8, na) ∉ ts) (h3 : (9, ta) ∉ ts) : pS σ' P na ta nm A := ⟨pN_f h.n f h1 h2, by rw [f.R]; exact h.rt, by rw [f.ty]; exact h.tt, fun i hi => by rw [f.A _ _ h3]; exact h.vt i hi⟩
