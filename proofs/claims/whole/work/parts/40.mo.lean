/-! THE REFERENCE'S CELLS as one record: ints by field, arrays by site; all else is σ0's -/
abbrev mo_U : Type := (Nat → Int32) × (Nat → Nat → Int32)
def mo_put (σ0 : z_S) (m : Nat) (ma : Nat → Nat) (μ : mo_U) : z_S := (σ0.1, fun f a => if a = m then μ.1 f else σ0.2.1 f a, σ0.2.2.1, fun t a => if a = ma t then μ.2 t else σ0.2.2.2.1 t a, σ0.2.2.2.2)
def mu_sI (μ : mo_U) (f : Nat) (x : Int32) : mo_U := (fun g => if g = f then x else μ.1 g, μ.2)
def mu_sA (μ : mo_U) (t : Nat) (F : Nat → Int32) : mo_U := (μ.1, fun g => if g = t then F else μ.2 g)
theorem mu_I_sI (μ : mo_U) (f : Nat) (x : Int32) (g : Nat) : (mu_sI μ f x).1 g = if g = f then x else μ.1 g := rfl
theorem mu_A_sI (μ : mo_U) (f : Nat) (x : Int32) : (mu_sI μ f x).2 = μ.2 := rfl
theorem mu_I_sA (μ : mo_U) (t : Nat) (F : Nat → Int32) : (mu_sA μ t F).1 = μ.1 := rfl
theorem mu_A_sA (μ : mo_U) (t : Nat) (F : Nat → Int32) (g : Nat) : (mu_sA μ t F).2 g = if g = t then F else μ.2 g := rfl
theorem mo_I (σ0 : z_S) (m : Nat) (ma : Nat → Nat) (μ : mo_U) (f : Nat) : z_I (mo_put σ0 m ma μ) f m = μ.1 f := by simp [z_I, mo_put]
theorem mo_A (σ0 : z_S) (m : Nat) (ma : Nat → Nat) (μ : mo_U) (t : Nat) : z_A (mo_put σ0 m ma μ) t (ma t) = μ.2 t := by simp [z_A, mo_put]
theorem mo_R (σ0 : z_S) (m : Nat) (ma : Nat → Nat) (μ : mo_U) (f a : Nat) : z_R (mo_put σ0 m ma μ) f a = z_R σ0 f a := rfl
theorem mo_ty (σ0 : z_S) (m : Nat) (ma : Nat → Nat) (μ : mo_U) (a : Nat) : z_ty (mo_put σ0 m ma μ) a = z_ty σ0 a := rfl
theorem mo_sI (σ0 : z_S) (m : Nat) (ma : Nat → Nat) (μ : mo_U) (f : Nat) (x : Int32) : z_sI (mo_put σ0 m ma μ) f m x = mo_put σ0 m ma (mu_sI μ f x) := by
  unfold z_sI mo_put mu_sI
  refine Prod.ext rfl (Prod.ext ?_ rfl)
  funext g a
  dsimp only
  by_cases h1 : a = m
  · by_cases h2 : g = f <;> simp [h1, h2]
  · simp [h1]
theorem mo_sA (σ0 : z_S) (m : Nat) (ma : Nat → Nat) (μ : mo_U) (t : Nat) (F : Nat → Int32) : z_sA (mo_put σ0 m ma μ) t (ma t) F = mo_put σ0 m ma (mu_sA μ t F) := by
  unfold z_sA mo_put mu_sA
  refine Prod.ext rfl (Prod.ext rfl (Prod.ext rfl (Prod.ext ?_ rfl)))
  funext g a
  dsimp only
  by_cases h1 : g = t
  · subst h1
    by_cases h2 : a = ma g <;> simp [h2]
  · simp [h1]
def mo_T (σ0 : z_S) (m : Nat) (ma : Nat → Nat) : Prop := z_ty σ0 m = some (.inl 8) ∧ (z_R σ0 800 m = some (ma 23) ∧ z_ty σ0 (ma 23) = some (.inr (1, 600, 23))) ∧ (z_R σ0 802 m = some (ma 24) ∧ z_ty σ0 (ma 24) = some (.inr (0, 602, 24))) ∧ (z_R σ0 803 m = some (ma 25) ∧ z_ty σ0 (ma 25) = some (.inr (0, 602, 25))) ∧ (z_R σ0 809 m = some (ma 26) ∧ z_ty σ0 (ma 26) = some (.inr (0, 17, 26))) ∧ (z_R σ0 810 m = some (ma 27) ∧ z_ty σ0 (ma 27) = some (.inr (0, 51, 27))) ∧ (z_R σ0 811 m = some (ma 28) ∧ z_ty σ0 (ma 28) = some (.inr (0, 17, 28))) ∧ (z_R σ0 812 m = some (ma 29) ∧ z_ty σ0 (ma 29) = some (.inr (0, 85, 29))) ∧ (z_R σ0 813 m = some (ma 30) ∧ z_ty σ0 (ma 30) = some (.inr (0, 85, 30))) ∧ (z_R σ0 814 m = some (ma 31) ∧ z_ty σ0 (ma 31) = some (.inr (0, 255, 31))) ∧ (z_R σ0 815 m = some (ma 32) ∧ z_ty σ0 (ma 32) = some (.inr (2, 17, 32))) ∧ (z_R σ0 816 m = some (ma 33) ∧ z_ty σ0 (ma 33) = some (.inr (0, 17, 33))) ∧ (z_R σ0 818 m = some (ma 34) ∧ z_ty σ0 (ma 34) = some (.inr (0, 9, 34))) ∧ (z_R σ0 819 m = some (ma 35) ∧ z_ty σ0 (ma 35) = some (.inr (0, 9, 35))) ∧ (z_R σ0 820 m = some (ma 36) ∧ z_ty σ0 (ma 36) = some (.inr (2, 9, 36))) ∧ (z_R σ0 821 m = some (ma 37) ∧ z_ty σ0 (ma 37) = some (.inr (0, 9, 37))) ∧ (z_R σ0 822 m = some (ma 38) ∧ z_ty σ0 (ma 38) = some (.inr (2, 64, 38))) ∧ (z_R σ0 823 m = some (ma 39) ∧ z_ty σ0 (ma 39) = some (.inr (2, 8, 39))) ∧ (z_R σ0 824 m = some (ma 40) ∧ z_ty σ0 (ma 40) = some (.inr (0, 960, 40))) ∧ (z_R σ0 825 m = some (ma 41) ∧ z_ty σ0 (ma 41) = some (.inr (0, 320, 41))) ∧ (z_R σ0 826 m = some (ma 42) ∧ z_ty σ0 (ma 42) = some (.inr (0, 8, 42))) ∧ (z_R σ0 827 m = some (ma 43) ∧ z_ty σ0 (ma 43) = some (.inr (0, 960, 43))) ∧ (z_R σ0 828 m = some (ma 44) ∧ z_ty σ0 (ma 44) = some (.inr (0, 320, 44))) ∧ (z_R σ0 829 m = some (ma 45) ∧ z_ty σ0 (ma 45) = some (.inr (0, 8, 45))) ∧ (z_R σ0 830 m = some (ma 46) ∧ z_ty σ0 (ma 46) = some (.inr (0, 300, 46))) ∧ (z_R σ0 832 m = some (ma 47) ∧ z_ty σ0 (ma 47) = some (.inr (0, 1800, 47))) ∧ (z_R σ0 833 m = some (ma 48) ∧ z_ty σ0 (ma 48) = some (.inr (0, 6, 48))) ∧ (z_R σ0 835 m = some (ma 49) ∧ z_ty σ0 (ma 49) = some (.inr (0, 3300, 49))) ∧ (z_R σ0 837 m = some (ma 50) ∧ z_ty σ0 (ma 50) = some (.inr (0, 104, 50))) ∧ (z_R σ0 838 m = some (ma 51) ∧ z_ty σ0 (ma 51) = some (.inr (0, 4, 51))) ∧ (z_R σ0 839 m = some (ma 52) ∧ z_ty σ0 (ma 52) = some (.inr (0, 3, 52))) ∧ (z_R σ0 843 m = some (ma 53) ∧ z_ty σ0 (ma 53) = some (.inr (0, 120, 53))) ∧ (z_R σ0 844 m = some (ma 54) ∧ z_ty σ0 (ma 54) = some (.inr (0, 40, 54))) ∧ (z_R σ0 846 m = some (ma 55) ∧ z_ty σ0 (ma 55) = some (.inr (0, 300, 55))) ∧ (z_R σ0 848 m = some (ma 56) ∧ z_ty σ0 (ma 56) = some (.inr (0, 8, 56))) ∧ (z_R σ0 850 m = some (ma 57) ∧ z_ty σ0 (ma 57) = some (.inr (0, 26, 57)))
theorem mo_ty0 {σ0 : z_S} {m : Nat} {ma : Nat → Nat} (h : mo_T σ0 m ma) : z_ty σ0 m = some (.inl 8) := h.1
theorem mo_R800 {σ0 : z_S} {m : Nat} {ma : Nat → Nat} (h : mo_T σ0 m ma) : z_R σ0 800 m = some (ma 23) := h.2.1.1
theorem mo_T23 {σ0 : z_S} {m : Nat} {ma : Nat → Nat} (h : mo_T σ0 m ma) : z_ty σ0 (ma 23) = some (.inr (1, 600, 23)) := h.2.1.2
theorem mo_R802 {σ0 : z_S} {m : Nat} {ma : Nat → Nat} (h : mo_T σ0 m ma) : z_R σ0 802 m = some (ma 24) := h.2.2.1.1
theorem mo_T24 {σ0 : z_S} {m : Nat} {ma : Nat → Nat} (h : mo_T σ0 m ma) : z_ty σ0 (ma 24) = some (.inr (0, 602, 24)) := h.2.2.1.2
theorem mo_R803 {σ0 : z_S} {m : Nat} {ma : Nat → Nat} (h : mo_T σ0 m ma) : z_R σ0 803 m = some (ma 25) := h.2.2.2.1.1
theorem mo_T25 {σ0 : z_S} {m : Nat} {ma : Nat → Nat} (h : mo_T σ0 m ma) : z_ty σ0 (ma 25) = some (.inr (0, 602, 25)) := h.2.2.2.1.2
theorem mo_R809 {σ0 : z_S} {m : Nat} {ma : Nat → Nat} (h : mo_T σ0 m ma) : z_R σ0 809 m = some (ma 26) := h.2.2.2.2.1.1
theorem mo_T26 {σ0 : z_S} {m : Nat} {ma : Nat → Nat} (h : mo_T σ0 m ma) : z_ty σ0 (ma 26) = some (.inr (0, 17, 26)) := h.2.2.2.2.1.2
theorem mo_R810 {σ0 : z_S} {m : Nat} {ma : Nat → Nat} (h : mo_T σ0 m ma) : z_R σ0 810 m = some (ma 27) := h.2.2.2.2.2.1.1
theorem mo_T27 {σ0 : z_S} {m : Nat} {ma : Nat → Nat} (h : mo_T σ0 m ma) : z_ty σ0 (ma 27) = some (.inr (0, 51, 27)) := h.2.2.2.2.2.1.2
theorem mo_R811 {σ0 : z_S} {m : Nat} {ma : Nat → Nat} (h : mo_T σ0 m ma) : z_R σ0 811 m = some (ma 28) := h.2.2.2.2.2.2.1.1
theorem mo_T28 {σ0 : z_S} {m : Nat} {ma : Nat → Nat} (h : mo_T σ0 m ma) : z_ty σ0 (ma 28) = some (.inr (0, 17, 28)) := h.2.2.2.2.2.2.1.2
theorem mo_R812 {σ0 : z_S} {m : Nat} {ma : Nat → Nat} (h : mo_T σ0 m ma) : z_R σ0 812 m = some (ma 29) := h.2.2.2.2.2.2.2.1.1
theorem mo_T29 {σ0 : z_S} {m : Nat} {ma : Nat → Nat} (h : mo_T σ0 m ma) : z_ty σ0 (ma 29) = some (.inr (0, 85, 29)) := h.2.2.2.2.2.2.2.1.2
theorem mo_R813 {σ0 : z_S} {m : Nat} {ma : Nat → Nat} (h : mo_T σ0 m ma) : z_R σ0 813 m = some (ma 30) := h.2.2.2.2.2.2.2.2.1.1
theorem mo_T30 {σ0 : z_S} {m : Nat} {ma : Nat → Nat} (h : mo_T σ0 m ma) : z_ty σ0 (ma 30) = some (.inr (0, 85, 30)) := h.2.2.2.2.2.2.2.2.1.2
theorem mo_R814 {σ0 : z_S} {m : Nat} {ma : Nat → Nat} (h : mo_T σ0 m ma) : z_R σ0 814 m = some (ma 31) := h.2.2.2.2.2.2.2.2.2.1.1
theorem mo_T31 {σ0 : z_S} {m : Nat} {ma : Nat → Nat} (h : mo_T σ0 m ma) : z_ty σ0 (ma 31) = some (.inr (0, 255, 31)) := h.2.2.2.2.2.2.2.2.2.1.2
theorem mo_R815 {σ0 : z_S} {m : Nat} {ma : Nat → Nat} (h : mo_T σ0 m ma) : z_R σ0 815 m = some (ma 32) := h.2.2.2.2.2.2.2.2.2.2.1.1
theorem mo_T32 {σ0 : z_S} {m : Nat} {ma : Nat → Nat} (h : mo_T σ0 m ma) : z_ty σ0 (ma 32) = some (.inr (2, 17, 32)) := h.2.2.2.2.2.2.2.2.2.2.1.2
theorem mo_R816 {σ0 : z_S} {m : Nat} {ma : Nat → Nat} (h : mo_T σ0 m ma) : z_R σ0 816 m = some (ma 33) := h.2.2.2.2.2.2.2.2.2.2.2.1.1
theorem mo_T33 {σ0 : z_S} {m : Nat} {ma : Nat → Nat} (h : mo_T σ0 m ma) : z_ty σ0 (ma 33) = some (.inr (0, 17, 33)) := h.2.2.2.2.2.2.2.2.2.2.2.1.2
theorem mo_R818 {σ0 : z_S} {m : Nat} {ma : Nat → Nat} (h : mo_T σ0 m ma) : z_R σ0 818 m = some (ma 34) := h.2.2.2.2.2.2.2.2.2.2.2.2.1.1
theorem mo_T34 {σ0 : z_S} {m : Nat} {ma : Nat → Nat} (h : mo_T σ0 m ma) : z_ty σ0 (ma 34) = some (.inr (0, 9, 34)) := h.2.2.2.2.2.2.2.2.2.2.2.2.1.2
theorem mo_R819 {σ0 : z_S} {m : Nat} {ma : Nat → Nat} (h : mo_T σ0 m ma) : z_R σ0 819 m = some (ma 35) := h.2.2.2.2.2.2.2.2.2.2.2.2.2.1.1
theorem mo_T35 {σ0 : z_S} {m : Nat} {ma : Nat → Nat} (h : mo_T σ0 m ma) : z_ty σ0 (ma 35) = some (.inr (0, 9, 35)) := h.2.2.2.2.2.2.2.2.2.2.2.2.2.1.2
theorem mo_R820 {σ0 : z_S} {m : Nat} {ma : Nat → Nat} (h : mo_T σ0 m ma) : z_R σ0 820 m = some (ma 36) := h.2.2.2.2.2.2.2.2.2.2.2.2.2.2.1.1
theorem mo_T36 {σ0 : z_S} {m : Nat} {ma : Nat → Nat} (h : mo_T σ0 m ma) : z_ty σ0 (ma 36) = some (.inr (2, 9, 36)) := h.2.2.2.2.2.2.2.2.2.2.2.2.2.2.1.2
theorem mo_R821 {σ0 : z_S} {m : Nat} {ma : Nat → Nat} (h : mo_T σ0 m ma) : z_R σ0 821 m = some (ma 37) := h.2.2.2.2.2.2.2.2.2.2.2.2.2.2.2.1.1
theorem mo_T37 {σ0 : z_S} {m : Nat} {ma : Nat → Nat} (h : mo_T σ0 m ma) : z_ty σ0 (ma 37) = some (.inr (0, 9, 37)) := h.2.2.2.2.2.2.2.2.2.2.2.2.2.2.2.1.2
theorem mo_R822 {σ0 : z_S} {m : Nat} {ma : Nat → Nat} (h : mo_T σ0 m ma) : z_R σ0 822 m = some (ma 38) := h.2.2.2.2.2.2.2.2.2.2.2.2.2.2.2.2.1.1
theorem mo_T38 {σ0 : z_S} {m : Nat} {ma : Nat → Nat} (h : mo_T σ0 m ma) : z_ty σ0 (ma 38) = some (.inr (2, 64, 38)) := h.2.2.2.2.2.2.2.2.2.2.2.2.2.2.2.2.1.2
theorem mo_R823 {σ0 : z_S} {m : Nat} {ma : Nat → Nat} (h : mo_T σ0 m ma) : z_R σ0 823 m = some (ma 39) := h.2.2.2.2.2.2.2.2.2.2.2.2.2.2.2.2.2.1.1
theorem mo_T39 {σ0 : z_S} {m : Nat} {ma : Nat → Nat} (h : mo_T σ0 m ma) : z_ty σ0 (ma 39) = some (.inr (2, 8, 39)) := h.2.2.2.2.2.2.2.2.2.2.2.2.2.2.2.2.2.1.2
theorem mo_R824 {σ0 : z_S} {m : Nat} {ma : Nat → Nat} (h : mo_T σ0 m ma) : z_R σ0 824 m = some (ma 40) := h.2.2.2.2.2.2.2.2.2.2.2.2.2.2.2.2.2.2.1.1
theorem mo_T40 {σ0 : z_S} {m : Nat} {ma : Nat → Nat} (h : mo_T σ0 m ma) : z_ty σ0 (ma 40) = some (.inr (0, 960, 40)) := h.2.2.2.2.2.2.2.2.2.2.2.2.2.2.2.2.2.2.1.2
theorem mo_R825 {σ0 : z_S} {m : Nat} {ma : Nat → Nat} (h : mo_T σ0 m ma) : z_R σ0 825 m = some (ma 41) := h.2.2.2.2.2.2.2.2.2.2.2.2.2.2.2.2.2.2.2.1.1
theorem mo_T41 {σ0 : z_S} {m : Nat} {ma : Nat → Nat} (h : mo_T σ0 m ma) : z_ty σ0 (ma 41) = some (.inr (0, 320, 41)) := h.2.2.2.2.2.2.2.2.2.2.2.2.2.2.2.2.2.2.2.1.2
theorem mo_R826 {σ0 : z_S} {m : Nat} {ma : Nat → Nat} (h : mo_T σ0 m ma) : z_R σ0 826 m = some (ma 42) := h.2.2.2.2.2.2.2.2.2.2.2.2.2.2.2.2.2.2.2.2.1.1
theorem mo_T42 {σ0 : z_S} {m : Nat} {ma : Nat → Nat} (h : mo_T σ0 m ma) : z_ty σ0 (ma 42) = some (.inr (0, 8, 42)) := h.2.2.2.2.2.2.2.2.2.2.2.2.2.2.2.2.2.2.2.2.1.2
theorem mo_R827 {σ0 : z_S} {m : Nat} {ma : Nat → Nat} (h : mo_T σ0 m ma) : z_R σ0 827 m = some (ma 43) := h.2.2.2.2.2.2.2.2.2.2.2.2.2.2.2.2.2.2.2.2.2.1.1
theorem mo_T43 {σ0 : z_S} {m : Nat} {ma : Nat → Nat} (h : mo_T σ0 m ma) : z_ty σ0 (ma 43) = some (.inr (0, 960, 43)) := h.2.2.2.2.2.2.2.2.2.2.2.2.2.2.2.2.2.2.2.2.2.1.2
theorem mo_R828 {σ0 : z_S} {m : Nat} {ma : Nat → Nat} (h : mo_T σ0 m ma) : z_R σ0 828 m = some (ma 44) := h.2.2.2.2.2.2.2.2.2.2.2.2.2.2.2.2.2.2.2.2.2.2.1.1
theorem mo_T44 {σ0 : z_S} {m : Nat} {ma : Nat → Nat} (h : mo_T σ0 m ma) : z_ty σ0 (ma 44) = some (.inr (0, 320, 44)) := h.2.2.2.2.2.2.2.2.2.2.2.2.2.2.2.2.2.2.2.2.2.2.1.2
theorem mo_R829 {σ0 : z_S} {m : Nat} {ma : Nat → Nat} (h : mo_T σ0 m ma) : z_R σ0 829 m = some (ma 45) := h.2.2.2.2.2.2.2.2.2.2.2.2.2.2.2.2.2.2.2.2.2.2.2.1.1
theorem mo_T45 {σ0 : z_S} {m : Nat} {ma : Nat → Nat} (h : mo_T σ0 m ma) : z_ty σ0 (ma 45) = some (.inr (0, 8, 45)) := h.2.2.2.2.2.2.2.2.2.2.2.2.2.2.2.2.2.2.2.2.2.2.2.1.2
theorem mo_R830 {σ0 : z_S} {m : Nat} {ma : Nat → Nat} (h : mo_T σ0 m ma) : z_R σ0 830 m = some (ma 46) := h.2.2.2.2.2.2.2.2.2.2.2.2.2.2.2.2.2.2.2.2.2.2.2.2.1.1
theorem mo_T46 {σ0 : z_S} {m : Nat} {ma : Nat → Nat} (h : mo_T σ0 m ma) : z_ty σ0 (ma 46) = some (.inr (0, 300, 46)) := h.2.2.2.2.2.2.2.2.2.2.2.2.2.2.2.2.2.2.2.2.2.2.2.2.1.2
theorem mo_R832 {σ0 : z_S} {m : Nat} {ma : Nat → Nat} (h : mo_T σ0 m ma) : z_R σ0 832 m = some (ma 47) := h.2.2.2.2.2.2.2.2.2.2.2.2.2.2.2.2.2.2.2.2.2.2.2.2.2.1.1
theorem mo_T47 {σ0 : z_S} {m : Nat} {ma : Nat → Nat} (h : mo_T σ0 m ma) : z_ty σ0 (ma 47) = some (.inr (0, 1800, 47)) := h.2.2.2.2.2.2.2.2.2.2.2.2.2.2.2.2.2.2.2.2.2.2.2.2.2.1.2
theorem mo_R833 {σ0 : z_S} {m : Nat} {ma : Nat → Nat} (h : mo_T σ0 m ma) : z_R σ0 833 m = some (ma 48) := h.2.2.2.2.2.2.2.2.2.2.2.2.2.2.2.2.2.2.2.2.2.2.2.2.2.2.1.1
theorem mo_T48 {σ0 : z_S} {m : Nat} {ma : Nat → Nat} (h : mo_T σ0 m ma) : z_ty σ0 (ma 48) = some (.inr (0, 6, 48)) := h.2.2.2.2.2.2.2.2.2.2.2.2.2.2.2.2.2.2.2.2.2.2.2.2.2.2.1.2
theorem mo_R835 {σ0 : z_S} {m : Nat} {ma : Nat → Nat} (h : mo_T σ0 m ma) : z_R σ0 835 m = some (ma 49) := h.2.2.2.2.2.2.2.2.2.2.2.2.2.2.2.2.2.2.2.2.2.2.2.2.2.2.2.1.1
theorem mo_T49 {σ0 : z_S} {m : Nat} {ma : Nat → Nat} (h : mo_T σ0 m ma) : z_ty σ0 (ma 49) = some (.inr (0, 3300, 49)) := h.2.2.2.2.2.2.2.2.2.2.2.2.2.2.2.2.2.2.2.2.2.2.2.2.2.2.2.1.2
theorem mo_R837 {σ0 : z_S} {m : Nat} {ma : Nat → Nat} (h : mo_T σ0 m ma) : z_R σ0 837 m = some (ma 50) := h.2.2.2.2.2.2.2.2.2.2.2.2.2.2.2.2.2.2.2.2.2.2.2.2.2.2.2.2.1.1
theorem mo_T50 {σ0 : z_S} {m : Nat} {ma : Nat → Nat} (h : mo_T σ0 m ma) : z_ty σ0 (ma 50) = some (.inr (0, 104, 50)) := h.2.2.2.2.2.2.2.2.2.2.2.2.2.2.2.2.2.2.2.2.2.2.2.2.2.2.2.2.1.2
theorem mo_R838 {σ0 : z_S} {m : Nat} {ma : Nat → Nat} (h : mo_T σ0 m ma) : z_R σ0 838 m = some (ma 51) := h.2.2.2.2.2.2.2.2.2.2.2.2.2.2.2.2.2.2.2.2.2.2.2.2.2.2.2.2.2.1.1
theorem mo_T51 {σ0 : z_S} {m : Nat} {ma : Nat → Nat} (h : mo_T σ0 m ma) : z_ty σ0 (ma 51) = some (.inr (0, 4, 51)) := h.2.2.2.2.2.2.2.2.2.2.2.2.2.2.2.2.2.2.2.2.2.2.2.2.2.2.2.2.2.1.2
theorem mo_R839 {σ0 : z_S} {m : Nat} {ma : Nat → Nat} (h : mo_T σ0 m ma) : z_R σ0 839 m = some (ma 52) := h.2.2.2.2.2.2.2.2.2.2.2.2.2.2.2.2.2.2.2.2.2.2.2.2.2.2.2.2.2.2.1.1
theorem mo_T52 {σ0 : z_S} {m : Nat} {ma : Nat → Nat} (h : mo_T σ0 m ma) : z_ty σ0 (ma 52) = some (.inr (0, 3, 52)) := h.2.2.2.2.2.2.2.2.2.2.2.2.2.2.2.2.2.2.2.2.2.2.2.2.2.2.2.2.2.2.1.2
theorem mo_R843 {σ0 : z_S} {m : Nat} {ma : Nat → Nat} (h : mo_T σ0 m ma) : z_R σ0 843 m = some (ma 53) := h.2.2.2.2.2.2.2.2.2.2.2.2.2.2.2.2.2.2.2.2.2.2.2.2.2.2.2.2.2.2.2.1.1
theorem mo_T53 {σ0 : z_S} {m : Nat} {ma : Nat → Nat} (h : mo_T σ0 m ma) : z_ty σ0 (ma 53) = some (.inr (0, 120, 53)) := h.2.2.2.2.2.2.2.2.2.2.2.2.2.2.2.2.2.2.2.2.2.2.2.2.2.2.2.2.2.2.2.1.2
theorem mo_R844 {σ0 : z_S} {m : Nat} {ma : Nat → Nat} (h : mo_T σ0 m ma) : z_R σ0 844 m = some (ma 54) := h.2.2.2.2.2.2.2.2.2.2.2.2.2.2.2.2.2.2.2.2.2.2.2.2.2.2.2.2.2.2.2.2.1.1
theorem mo_T54 {σ0 : z_S} {m : Nat} {ma : Nat → Nat} (h : mo_T σ0 m ma) : z_ty σ0 (ma 54) = some (.inr (0, 40, 54)) := h.2.2.2.2.2.2.2.2.2.2.2.2.2.2.2.2.2.2.2.2.2.2.2.2.2.2.2.2.2.2.2.2.1.2
theorem mo_R846 {σ0 : z_S} {m : Nat} {ma : Nat → Nat} (h : mo_T σ0 m ma) : z_R σ0 846 m = some (ma 55) := h.2.2.2.2.2.2.2.2.2.2.2.2.2.2.2.2.2.2.2.2.2.2.2.2.2.2.2.2.2.2.2.2.2.1.1
theorem mo_T55 {σ0 : z_S} {m : Nat} {ma : Nat → Nat} (h : mo_T σ0 m ma) : z_ty σ0 (ma 55) = some (.inr (0, 300, 55)) := h.2.2.2.2.2.2.2.2.2.2.2.2.2.2.2.2.2.2.2.2.2.2.2.2.2.2.2.2.2.2.2.2.2.1.2
theorem mo_R848 {σ0 : z_S} {m : Nat} {ma : Nat → Nat} (h : mo_T σ0 m ma) : z_R σ0 848 m = some (ma 56) := h.2.2.2.2.2.2.2.2.2.2.2.2.2.2.2.2.2.2.2.2.2.2.2.2.2.2.2.2.2.2.2.2.2.2.1.1
theorem mo_T56 {σ0 : z_S} {m : Nat} {ma : Nat → Nat} (h : mo_T σ0 m ma) : z_ty σ0 (ma 56) = some (.inr (0, 8, 56)) := h.2.2.2.2.2.2.2.2.2.2.2.2.2.2.2.2.2.2.2.2.2.2.2.2.2.2.2.2.2.2.2.2.2.2.1.2
theorem mo_R850 {σ0 : z_S} {m : Nat} {ma : Nat → Nat} (h : mo_T σ0 m ma) : z_R σ0 850 m = some (ma 57) := h.2.2.2.2.2.2.2.2.2.2.2.2.2.2.2.2.2.2.2.2.2.2.2.2.2.2.2.2.2.2.2.2.2.2.2.1
theorem mo_T57 {σ0 : z_S} {m : Nat} {ma : Nat → Nat} (h : mo_T σ0 m ma) : z_ty σ0 (ma 57) = some (.inr (0, 26, 57)) := h.2.2.2.2.2.2.2.2.2.2.2.2.2.2.2.2.2.2.2.2.2.2.2.2.2.2.2.2.2.2.2.2.2.2.2.2
