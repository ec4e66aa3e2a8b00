/-- the reference's arrays, one after the other -/
def mL (σ0 σ : z_S) (m : Nat) (L : List (Nat × Nat × Nat × Nat × Nat)) (b : Nat) (v : Int32) : Prop := (z_ty σ m = some (.inl 8)) ∧ (∀ g, z_I σ g m = if g = 807 then v else 0) ∧ (∀ e ∈ L, z_R σ e.1 m = some e.2.1 ∧ z_ty σ e.2.1 = some (.inr (e.2.2.1, e.2.2.2.1, e.2.2.2.2)) ∧ ∀ s, z_A σ s e.2.1 = fun _ => 0) ∧ (∀ e ∈ L, e.1 < b) ∧ (wf (fun _ => False) σ0 σ)
theorem mL.ty {σ0 σ : z_S} {m : Nat} {L : List (Nat × Nat × Nat × Nat × Nat)} {b : Nat} {v : Int32} (h' : mL σ0 σ m L b v) : z_ty σ m = some (.inl 8) := h'.1
theorem mL.i {σ0 σ : z_S} {m : Nat} {L : List (Nat × Nat × Nat × Nat × Nat)} {b : Nat} {v : Int32} (h' : mL σ0 σ m L b v) : ∀ g, z_I σ g m = if g = 807 then v else 0 := h'.2.1
theorem mL.a {σ0 σ : z_S} {m : Nat} {L : List (Nat × Nat × Nat × Nat × Nat)} {b : Nat} {v : Int32} (h' : mL σ0 σ m L b v) : ∀ e ∈ L, z_R σ e.1 m = some e.2.1 ∧ z_ty σ e.2.1 = some (.inr (e.2.2.1, e.2.2.2.1, e.2.2.2.2)) ∧ ∀ s, z_A σ s e.2.1 = fun _ => 0 := h'.2.2.1
theorem mL.b {σ0 σ : z_S} {m : Nat} {L : List (Nat × Nat × Nat × Nat × Nat)} {b : Nat} {v : Int32} (h' : mL σ0 σ m L b v) : ∀ e ∈ L, e.1 < b := h'.2.2.2.1
theorem mL.w {σ0 σ : z_S} {m : Nat} {L : List (Nat × Nat × Nat × Nat × Nat)} {b : Nat} {v : Int32} (h' : mL σ0 σ m L b v) : wf (fun _ => False) σ0 σ := h'.2.2.2.2
theorem mL_st {σ0 σ σ1 σ2 : z_S} {m b q k n t f : Nat} {v : Int32} {L : List (Nat × Nat × Nat × Nat × Nat)} (h : mL σ0 σ m L b v) (h0 : z_ty σ0 m = none) (hq : z_ty σ q = none) (e1 : σ1 = z_arr σ q k n t) (e2 : σ2 = z_sR σ1 f m (some q)) (hf : b ≤ f) : mL σ0 σ2 m ((f, q, k, n, t) :: L) (f + 1) v := by
  have ha := as_mk hq e1 e2
  refine ⟨as_ty ha h.ty, fun g => by rw [ha.I]; exact h.i g, fun e he => ?_, fun e he => ?_, as_w0 ha h0 h.w⟩
  · rcases List.mem_cons.mp he with z | z
    · rw [z]; exact ⟨ha.rf, ha.tq, ha.A0⟩
    · obtain ⟨a1, a2, a3⟩ := h.a e z
      have := h.b e z
      exact ⟨by rw [ha.R _ _ (fun y => by omega)]; exact a1, as_ty ha a2, fun s => by rw [ha.A _ _ (as_ne ha (nn_s a2))]; exact a3 s⟩
  · rcases List.mem_cons.mp he with z | z
    · rw [z]; exact Nat.lt_succ_self f
    · have := h.b e z
      omega
theorem mL_ty {σ0 σ σ1 : z_S} {m b q k n t : Nat} {v : Int32} {L : List (Nat × Nat × Nat × Nat × Nat)} (h : mL σ0 σ m L b v) (hq : z_ty σ q = none) (e1 : σ1 = z_arr σ q k n t) : z_ty σ1 m = some (.inl 8) := by
  rw [e1, z_ty_arr, if_neg (fun z => by rw [← z, h.ty] at hq; cases hq)]; exact h.ty

def maT (q8 q17 q26 q39 q47 q55 q63 q71 q80 q88 q96 q104 q112 q120 q128 q136 q144 q153 q162 q170 q179 q188 q196 q205 q214 q222 q231 q239 q246 q253 q261 q269 q278 q286 q294 m : Nat) : Nat → Nat := fun t => if t = 23 then q8 else if t = 24 then q17 else if t = 25 then q26 else if t = 26 then q39 else if t = 27 then q47 else if t = 28 then q55 else if t = 29 then q63 else if t = 30 then q71 else if t = 31 then q80 else if t = 32 then q88 else if t = 33 then q96 else if t = 34 then q104 else if t = 35 then q112 else if t = 36 then q120 else if t = 37 then q128 else if t = 38 then q136 else if t = 39 then q144 else if t = 40 then q153 else if t = 41 then q162 else if t = 42 then q170 else if t = 43 then q179 else if t = 44 then q188 else if t = 45 then q196 else if t = 46 then q205 else if t = 47 then q214 else if t = 48 then q222 else if t = 49 then q231 else if t = 50 then q239 else if t = 51 then q246 else if t = 52 then q253 else if t = 53 then q261 else if t = 54 then q269 else if t = 55 then q278 else if t = 56 then q286 else if t = 57 then q294 else m
theorem mo_start {σ4 : z_S} {m : Nat} (hm : z_ty σ4 m = none) (P : z_S → Prop) (hP : ∀ ma σ, mo_T σ m ma → (∀ t, t < 23 → ma t = m) → (∀ f, z_I σ f m = if f = 807 then -1 else 0) → (∀ t, 23 ≤ t → t ≤ 57 → ∀ i, z_A σ t (ma t) i = 0) → wf (fun _ => False) σ4 σ → P σ) : kp_Mo_init m (z_new σ4 m 8) P := by
  have l0 : mL σ4 (z_new σ4 m 8) m [] 0 0 := ⟨by rw [z_ty_new, if_pos rfl], fun g => by rw [z_I_new, if_pos rfl]; split <;> rfl, fun e he => absurd he List.not_mem_nil, fun e he => absurd he List.not_mem_nil, wf_new hm⟩
  intro q8 h23 u23 e23
  refine ⟨mL_ty l0 h23 e23, fun w23 y23 => ?_⟩
  have l1 := mL_st l0 hm h23 e23 y23 (by decide)
  intro q17 h24 u24 e24
  refine ⟨mL_ty l1 h24 e24, fun w24 y24 => ?_⟩
  have l2 := mL_st l1 hm h24 e24 y24 (by decide)
  intro q26 h25 u25 e25
  refine ⟨mL_ty l2 h25 e25, fun w25 y25 => ?_⟩
  have l3 := mL_st l2 hm h25 e25 y25 (by decide)
  refine ⟨l3.ty, fun w807 y807 => ?_⟩
  have i807 : ∀ g, z_I w807 g m = if g = 807 then -1 else 0 := fun g => by
    rw [y807, z_I_sI]
    by_cases z : g = 807
    · rw [if_pos ⟨z, rfl⟩, if_pos z]
    · rw [if_neg (fun y => z y.1), if_neg z, l3.i, if_neg z]
  have l807 : mL σ4 w807 m _ _ (-1) := ⟨by rw [y807]; exact l3.ty, fun g => i807 g, fun e he => by rw [y807]; exact l3.a e he, l3.b, wf_tr l3.w (show wf (fun a => a = m) _ w807 by rw [y807]; exact wf_sI rfl) (fun a z hn => hn (by rw [z]; exact hm))⟩
  intro q39 h26 u26 e26
  refine ⟨mL_ty l807 h26 e26, fun w26 y26 => ?_⟩
  have l4 := mL_st l807 hm h26 e26 y26 (by decide)
  intro q47 h27 u27 e27
  refine ⟨mL_ty l4 h27 e27, fun w27 y27 => ?_⟩
  have l5 := mL_st l4 hm h27 e27 y27 (by decide)
  intro q55 h28 u28 e28
  refine ⟨mL_ty l5 h28 e28, fun w28 y28 => ?_⟩
  have l6 := mL_st l5 hm h28 e28 y28 (by decide)
  intro q63 h29 u29 e29
  refine ⟨mL_ty l6 h29 e29, fun w29 y29 => ?_⟩
  have l7 := mL_st l6 hm h29 e29 y29 (by decide)
  intro q71 h30 u30 e30
  refine ⟨mL_ty l7 h30 e30, fun w30 y30 => ?_⟩
  have l8 := mL_st l7 hm h30 e30 y30 (by decide)
  intro q80 h31 u31 e31
  refine ⟨mL_ty l8 h31 e31, fun w31 y31 => ?_⟩
  have l9 := mL_st l8 hm h31 e31 y31 (by decide)
  intro q88 h32 u32 e32
  refine ⟨mL_ty l9 h32 e32, fun w32 y32 => ?_⟩
  have l10 := mL_st l9 hm h32 e32 y32 (by decide)
  intro q96 h33 u33 e33
  refine ⟨mL_ty l10 h33 e33, fun w33 y33 => ?_⟩
  have l11 := mL_st l10 hm h33 e33 y33 (by decide)
  intro q104 h34 u34 e34
  refine ⟨mL_ty l11 h34 e34, fun w34 y34 => ?_⟩
  have l12 := mL_st l11 hm h34 e34 y34 (by decide)
  intro q112 h35 u35 e35
  refine ⟨mL_ty l12 h35 e35, fun w35 y35 => ?_⟩
  have l13 := mL_st l12 hm h35 e35 y35 (by decide)
  intro q120 h36 u36 e36
  refine ⟨mL_ty l13 h36 e36, fun w36 y36 => ?_⟩
  have l14 := mL_st l13 hm h36 e36 y36 (by decide)
  intro q128 h37 u37 e37
  refine ⟨mL_ty l14 h37 e37, fun w37 y37 => ?_⟩
  have l15 := mL_st l14 hm h37 e37 y37 (by decide)
  intro q136 h38 u38 e38
  refine ⟨mL_ty l15 h38 e38, fun w38 y38 => ?_⟩
  have l16 := mL_st l15 hm h38 e38 y38 (by decide)
  intro q144 h39 u39 e39
  refine ⟨mL_ty l16 h39 e39, fun w39 y39 => ?_⟩
  have l17 := mL_st l16 hm h39 e39 y39 (by decide)
  intro q153 h40 u40 e40
  refine ⟨mL_ty l17 h40 e40, fun w40 y40 => ?_⟩
  have l18 := mL_st l17 hm h40 e40 y40 (by decide)
  intro q162 h41 u41 e41
  refine ⟨mL_ty l18 h41 e41, fun w41 y41 => ?_⟩
  have l19 := mL_st l18 hm h41 e41 y41 (by decide)
  intro q170 h42 u42 e42
  refine ⟨mL_ty l19 h42 e42, fun w42 y42 => ?_⟩
  have l20 := mL_st l19 hm h42 e42 y42 (by decide)
  intro q179 h43 u43 e43
  refine ⟨mL_ty l20 h43 e43, fun w43 y43 => ?_⟩
  have l21 := mL_st l20 hm h43 e43 y43 (by decide)
  intro q188 h44 u44 e44
  refine ⟨mL_ty l21 h44 e44, fun w44 y44 => ?_⟩
  have l22 := mL_st l21 hm h44 e44 y44 (by decide)
  intro q196 h45 u45 e45
  refine ⟨mL_ty l22 h45 e45, fun w45 y45 => ?_⟩
  have l23 := mL_st l22 hm h45 e45 y45 (by decide)
  intro q205 h46 u46 e46
  refine ⟨mL_ty l23 h46 e46, fun w46 y46 => ?_⟩
  have l24 := mL_st l23 hm h46 e46 y46 (by decide)
  intro q214 h47 u47 e47
  refine ⟨mL_ty l24 h47 e47, fun w47 y47 => ?_⟩
  have l25 := mL_st l24 hm h47 e47 y47 (by decide)
  intro q222 h48 u48 e48
  refine ⟨mL_ty l25 h48 e48, fun w48 y48 => ?_⟩
  have l26 := mL_st l25 hm h48 e48 y48 (by decide)
  intro q231 h49 u49 e49
  refine ⟨mL_ty l26 h49 e49, fun w49 y49 => ?_⟩
  have l27 := mL_st l26 hm h49 e49 y49 (by decide)
  intro q239 h50 u50 e50
  refine ⟨mL_ty l27 h50 e50, fun w50 y50 => ?_⟩
  have l28 := mL_st l27 hm h50 e50 y50 (by decide)
  intro q246 h51 u51 e51
  refine ⟨mL_ty l28 h51 e51, fun w51 y51 => ?_⟩
  have l29 := mL_st l28 hm h51 e51 y51 (by decide)
  intro q253 h52 u52 e52
  refine ⟨mL_ty l29 h52 e52, fun w52 y52 => ?_⟩
  have l30 := mL_st l29 hm h52 e52 y52 (by decide)
  intro q261 h53 u53 e53
  refine ⟨mL_ty l30 h53 e53, fun w53 y53 => ?_⟩
  have l31 := mL_st l30 hm h53 e53 y53 (by decide)
  intro q269 h54 u54 e54
  refine ⟨mL_ty l31 h54 e54, fun w54 y54 => ?_⟩
  have l32 := mL_st l31 hm h54 e54 y54 (by decide)
  intro q278 h55 u55 e55
  refine ⟨mL_ty l32 h55 e55, fun w55 y55 => ?_⟩
  have l33 := mL_st l32 hm h55 e55 y55 (by decide)
  intro q286 h56 u56 e56
  refine ⟨mL_ty l33 h56 e56, fun w56 y56 => ?_⟩
  have l34 := mL_st l33 hm h56 e56 y56 (by decide)
  intro q294 h57 u57 e57
  refine ⟨mL_ty l34 h57 e57, fun w57 y57 => ?_⟩
  have l35 := mL_st l34 hm h57 e57 y57 (by decide)
  have g23 := l35.a (800, q8, 1, 600, 23) (List.mem_cons_of_mem _ (List.mem_cons_of_mem _ (List.mem_cons_of_mem _ (List.mem_cons_of_mem _ (List.mem_cons_of_mem _ (List.mem_cons_of_mem _ (List.mem_cons_of_mem _ (List.mem_cons_of_mem _ (List.mem_cons_of_mem _ (List.mem_cons_of_mem _ (List.mem_cons_of_mem _ (List.mem_cons_of_mem _ (List.mem_cons_of_mem _ (List.mem_cons_of_mem _ (List.mem_cons_of_mem _ (List.mem_cons_of_mem _ (List.mem_cons_of_mem _ (List.mem_cons_of_mem _ (List.mem_cons_of_mem _ (List.mem_cons_of_mem _ (List.mem_cons_of_mem _ (List.mem_cons_of_mem _ (List.mem_cons_of_mem _ (List.mem_cons_of_mem _ (List.mem_cons_of_mem _ (List.mem_cons_of_mem _ (List.mem_cons_of_mem _ (List.mem_cons_of_mem _ (List.mem_cons_of_mem _ (List.mem_cons_of_mem _ (List.mem_cons_of_mem _ (List.mem_cons_of_mem _ (List.mem_cons_of_mem _ (List.mem_cons_of_mem _ (List.mem_cons_self)))))))))))))))))))))))))))))))))))
  have g24 := l35.a (802, q17, 0, 602, 24) (List.mem_cons_of_mem _ (List.mem_cons_of_mem _ (List.mem_cons_of_mem _ (List.mem_cons_of_mem _ (List.mem_cons_of_mem _ (List.mem_cons_of_mem _ (List.mem_cons_of_mem _ (List.mem_cons_of_mem _ (List.mem_cons_of_mem _ (List.mem_cons_of_mem _ (List.mem_cons_of_mem _ (List.mem_cons_of_mem _ (List.mem_cons_of_mem _ (List.mem_cons_of_mem _ (List.mem_cons_of_mem _ (List.mem_cons_of_mem _ (List.mem_cons_of_mem _ (List.mem_cons_of_mem _ (List.mem_cons_of_mem _ (List.mem_cons_of_mem _ (List.mem_cons_of_mem _ (List.mem_cons_of_mem _ (List.mem_cons_of_mem _ (List.mem_cons_of_mem _ (List.mem_cons_of_mem _ (List.mem_cons_of_mem _ (List.mem_cons_of_mem _ (List.mem_cons_of_mem _ (List.mem_cons_of_mem _ (List.mem_cons_of_mem _ (List.mem_cons_of_mem _ (List.mem_cons_of_mem _ (List.mem_cons_of_mem _ (List.mem_cons_self))))))))))))))))))))))))))))))))))
  have g25 := l35.a (803, q26, 0, 602, 25) (List.mem_cons_of_mem _ (List.mem_cons_of_mem _ (List.mem_cons_of_mem _ (List.mem_cons_of_mem _ (List.mem_cons_of_mem _ (List.mem_cons_of_mem _ (List.mem_cons_of_mem _ (List.mem_cons_of_mem _ (List.mem_cons_of_mem _ (List.mem_cons_of_mem _ (List.mem_cons_of_mem _ (List.mem_cons_of_mem _ (List.mem_cons_of_mem _ (List.mem_cons_of_mem _ (List.mem_cons_of_mem _ (List.mem_cons_of_mem _ (List.mem_cons_of_mem _ (List.mem_cons_of_mem _ (List.mem_cons_of_mem _ (List.mem_cons_of_mem _ (List.mem_cons_of_mem _ (List.mem_cons_of_mem _ (List.mem_cons_of_mem _ (List.mem_cons_of_mem _ (List.mem_cons_of_mem _ (List.mem_cons_of_mem _ (List.mem_cons_of_mem _ (List.mem_cons_of_mem _ (List.mem_cons_of_mem _ (List.mem_cons_of_mem _ (List.mem_cons_of_mem _ (List.mem_cons_of_mem _ (List.mem_cons_self)))))))))))))))))))))))))))))))))
  have g26 := l35.a (809, q39, 0, 17, 26) (List.mem_cons_of_mem _ (List.mem_cons_of_mem _ (List.mem_cons_of_mem _ (List.mem_cons_of_mem _ (List.mem_cons_of_mem _ (List.mem_cons_of_mem _ (List.mem_cons_of_mem _ (List.mem_cons_of_mem _ (List.mem_cons_of_mem _ (List.mem_cons_of_mem _ (List.mem_cons_of_mem _ (List.mem_cons_of_mem _ (List.mem_cons_of_mem _ (List.mem_cons_of_mem _ (List.mem_cons_of_mem _ (List.mem_cons_of_mem _ (List.mem_cons_of_mem _ (List.mem_cons_of_mem _ (List.mem_cons_of_mem _ (List.mem_cons_of_mem _ (List.mem_cons_of_mem _ (List.mem_cons_of_mem _ (List.mem_cons_of_mem _ (List.mem_cons_of_mem _ (List.mem_cons_of_mem _ (List.mem_cons_of_mem _ (List.mem_cons_of_mem _ (List.mem_cons_of_mem _ (List.mem_cons_of_mem _ (List.mem_cons_of_mem _ (List.mem_cons_of_mem _ (List.mem_cons_self))))))))))))))))))))))))))))))))
  have g27 := l35.a (810, q47, 0, 51, 27) (List.mem_cons_of_mem _ (List.mem_cons_of_mem _ (List.mem_cons_of_mem _ (List.mem_cons_of_mem _ (List.mem_cons_of_mem _ (List.mem_cons_of_mem _ (List.mem_cons_of_mem _ (List.mem_cons_of_mem _ (List.mem_cons_of_mem _ (List.mem_cons_of_mem _ (List.mem_cons_of_mem _ (List.mem_cons_of_mem _ (List.mem_cons_of_mem _ (List.mem_cons_of_mem _ (List.mem_cons_of_mem _ (List.mem_cons_of_mem _ (List.mem_cons_of_mem _ (List.mem_cons_of_mem _ (List.mem_cons_of_mem _ (List.mem_cons_of_mem _ (List.mem_cons_of_mem _ (List.mem_cons_of_mem _ (List.mem_cons_of_mem _ (List.mem_cons_of_mem _ (List.mem_cons_of_mem _ (List.mem_cons_of_mem _ (List.mem_cons_of_mem _ (List.mem_cons_of_mem _ (List.mem_cons_of_mem _ (List.mem_cons_of_mem _ (List.mem_cons_self)))))))))))))))))))))))))))))))
  have g28 := l35.a (811, q55, 0, 17, 28) (List.mem_cons_of_mem _ (List.mem_cons_of_mem _ (List.mem_cons_of_mem _ (List.mem_cons_of_mem _ (List.mem_cons_of_mem _ (List.mem_cons_of_mem _ (List.mem_cons_of_mem _ (List.mem_cons_of_mem _ (List.mem_cons_of_mem _ (List.mem_cons_of_mem _ (List.mem_cons_of_mem _ (List.mem_cons_of_mem _ (List.mem_cons_of_mem _ (List.mem_cons_of_mem _ (List.mem_cons_of_mem _ (List.mem_cons_of_mem _ (List.mem_cons_of_mem _ (List.mem_cons_of_mem _ (List.mem_cons_of_mem _ (List.mem_cons_of_mem _ (List.mem_cons_of_mem _ (List.mem_cons_of_mem _ (List.mem_cons_of_mem _ (List.mem_cons_of_mem _ (List.mem_cons_of_mem _ (List.mem_cons_of_mem _ (List.mem_cons_of_mem _ (List.mem_cons_of_mem _ (List.mem_cons_of_mem _ (List.mem_cons_self))))))))))))))))))))))))))))))
  have g29 := l35.a (812, q63, 0, 85, 29) (List.mem_cons_of_mem _ (List.mem_cons_of_mem _ (List.mem_cons_of_mem _ (List.mem_cons_of_mem _ (List.mem_cons_of_mem _ (List.mem_cons_of_mem _ (List.mem_cons_of_mem _ (List.mem_cons_of_mem _ (List.mem_cons_of_mem _ (List.mem_cons_of_mem _ (List.mem_cons_of_mem _ (List.mem_cons_of_mem _ (List.mem_cons_of_mem _ (List.mem_cons_of_mem _ (List.mem_cons_of_mem _ (List.mem_cons_of_mem _ (List.mem_cons_of_mem _ (List.mem_cons_of_mem _ (List.mem_cons_of_mem _ (List.mem_cons_of_mem _ (List.mem_cons_of_mem _ (List.mem_cons_of_mem _ (List.mem_cons_of_mem _ (List.mem_cons_of_mem _ (List.mem_cons_of_mem _ (List.mem_cons_of_mem _ (List.mem_cons_of_mem _ (List.mem_cons_of_mem _ (List.mem_cons_self)))))))))))))))))))))))))))))
  have g30 := l35.a (813, q71, 0, 85, 30) (List.mem_cons_of_mem _ (List.mem_cons_of_mem _ (List.mem_cons_of_mem _ (List.mem_cons_of_mem _ (List.mem_cons_of_mem _ (List.mem_cons_of_mem _ (List.mem_cons_of_mem _ (List.mem_cons_of_mem _ (List.mem_cons_of_mem _ (List.mem_cons_of_mem _ (List.mem_cons_of_mem _ (List.mem_cons_of_mem _ (List.mem_cons_of_mem _ (List.mem_cons_of_mem _ (List.mem_cons_of_mem _ (List.mem_cons_of_mem _ (List.mem_cons_of_mem _ (List.mem_cons_of_mem _ (List.mem_cons_of_mem _ (List.mem_cons_of_mem _ (List.mem_cons_of_mem _ (List.mem_cons_of_mem _ (List.mem_cons_of_mem _ (List.mem_cons_of_mem _ (List.mem_cons_of_mem _ (List.mem_cons_of_mem _ (List.mem_cons_of_mem _ (List.mem_cons_self))))))))))))))))))))))))))))
  have g31 := l35.a (814, q80, 0, 255, 31) (List.mem_cons_of_mem _ (List.mem_cons_of_mem _ (List.mem_cons_of_mem _ (List.mem_cons_of_mem _ (List.mem_cons_of_mem _ (List.mem_cons_of_mem _ (List.mem_cons_of_mem _ (List.mem_cons_of_mem _ (List.mem_cons_of_mem _ (List.mem_cons_of_mem _ (List.mem_cons_of_mem _ (List.mem_cons_of_mem _ (List.mem_cons_of_mem _ (List.mem_cons_of_mem _ (List.mem_cons_of_mem _ (List.mem_cons_of_mem _ (List.mem_cons_of_mem _ (List.mem_cons_of_mem _ (List.mem_cons_of_mem _ (List.mem_cons_of_mem _ (List.mem_cons_of_mem _ (List.mem_cons_of_mem _ (List.mem_cons_of_mem _ (List.mem_cons_of_mem _ (List.mem_cons_of_mem _ (List.mem_cons_of_mem _ (List.mem_cons_self)))))))))))))))))))))))))))
  have g32 := l35.a (815, q88, 2, 17, 32) (List.mem_cons_of_mem _ (List.mem_cons_of_mem _ (List.mem_cons_of_mem _ (List.mem_cons_of_mem _ (List.mem_cons_of_mem _ (List.mem_cons_of_mem _ (List.mem_cons_of_mem _ (List.mem_cons_of_mem _ (List.mem_cons_of_mem _ (List.mem_cons_of_mem _ (List.mem_cons_of_mem _ (List.mem_cons_of_mem _ (List.mem_cons_of_mem _ (List.mem_cons_of_mem _ (List.mem_cons_of_mem _ (List.mem_cons_of_mem _ (List.mem_cons_of_mem _ (List.mem_cons_of_mem _ (List.mem_cons_of_mem _ (List.mem_cons_of_mem _ (List.mem_cons_of_mem _ (List.mem_cons_of_mem _ (List.mem_cons_of_mem _ (List.mem_cons_of_mem _ (List.mem_cons_of_mem _ (List.mem_cons_self))))))))))))))))))))))))))
  have g33 := l35.a (816, q96, 0, 17, 33) (List.mem_cons_of_mem _ (List.mem_cons_of_mem _ (List.mem_cons_of_mem _ (List.mem_cons_of_mem _ (List.mem_cons_of_mem _ (List.mem_cons_of_mem _ (List.mem_cons_of_mem _ (List.mem_cons_of_mem _ (List.mem_cons_of_mem _ (List.mem_cons_of_mem _ (List.mem_cons_of_mem _ (List.mem_cons_of_mem _ (List.mem_cons_of_mem _ (List.mem_cons_of_mem _ (List.mem_cons_of_mem _ (List.mem_cons_of_mem _ (List.mem_cons_of_mem _ (List.mem_cons_of_mem _ (List.mem_cons_of_mem _ (List.mem_cons_of_mem _ (List.mem_cons_of_mem _ (List.mem_cons_of_mem _ (List.mem_cons_of_mem _ (List.mem_cons_of_mem _ (List.mem_cons_self)))))))))))))))))))))))))
  have g34 := l35.a (818, q104, 0, 9, 34) (List.mem_cons_of_mem _ (List.mem_cons_of_mem _ (List.mem_cons_of_mem _ (List.mem_cons_of_mem _ (List.mem_cons_of_mem _ (List.mem_cons_of_mem _ (List.mem_cons_of_mem _ (List.mem_cons_of_mem _ (List.mem_cons_of_mem _ (List.mem_cons_of_mem _ (List.mem_cons_of_mem _ (List.mem_cons_of_mem _ (List.mem_cons_of_mem _ (List.mem_cons_of_mem _ (List.mem_cons_of_mem _ (List.mem_cons_of_mem _ (List.mem_cons_of_mem _ (List.mem_cons_of_mem _ (List.mem_cons_of_mem _ (List.mem_cons_of_mem _ (List.mem_cons_of_mem _ (List.mem_cons_of_mem _ (List.mem_cons_of_mem _ (List.mem_cons_self))))))))))))))))))))))))
  have g35 := l35.a (819, q112, 0, 9, 35) (List.mem_cons_of_mem _ (List.mem_cons_of_mem _ (List.mem_cons_of_mem _ (List.mem_cons_of_mem _ (List.mem_cons_of_mem _ (List.mem_cons_of_mem _ (List.mem_cons_of_mem _ (List.mem_cons_of_mem _ (List.mem_cons_of_mem _ (List.mem_cons_of_mem _ (List.mem_cons_of_mem _ (List.mem_cons_of_mem _ (List.mem_cons_of_mem _ (List.mem_cons_of_mem _ (List.mem_cons_of_mem _ (List.mem_cons_of_mem _ (List.mem_cons_of_mem _ (List.mem_cons_of_mem _ (List.mem_cons_of_mem _ (List.mem_cons_of_mem _ (List.mem_cons_of_mem _ (List.mem_cons_of_mem _ (List.mem_cons_self)))))))))))))))))))))))
  have g36 := l35.a (820, q120, 2, 9, 36) (List.mem_cons_of_mem _ (List.mem_cons_of_mem _ (List.mem_cons_of_mem _ (List.mem_cons_of_mem _ (List.mem_cons_of_mem _ (List.mem_cons_of_mem _ (List.mem_cons_of_mem _ (List.mem_cons_of_mem _ (List.mem_cons_of_mem _ (List.mem_cons_of_mem _ (List.mem_cons_of_mem _ (List.mem_cons_of_mem _ (List.mem_cons_of_mem _ (List.mem_cons_of_mem _ (List.mem_cons_of_mem _ (List.mem_cons_of_mem _ (List.mem_cons_of_mem _ (List.mem_cons_of_mem _ (List.mem_cons_of_mem _ (List.mem_cons_of_mem _ (List.mem_cons_of_mem _ (List.mem_cons_self))))))))))))))))))))))
  have g37 := l35.a (821, q128, 0, 9, 37) (List.mem_cons_of_mem _ (List.mem_cons_of_mem _ (List.mem_cons_of_mem _ (List.mem_cons_of_mem _ (List.mem_cons_of_mem _ (List.mem_cons_of_mem _ (List.mem_cons_of_mem _ (List.mem_cons_of_mem _ (List.mem_cons_of_mem _ (List.mem_cons_of_mem _ (List.mem_cons_of_mem _ (List.mem_cons_of_mem _ (List.mem_cons_of_mem _ (List.mem_cons_of_mem _ (List.mem_cons_of_mem _ (List.mem_cons_of_mem _ (List.mem_cons_of_mem _ (List.mem_cons_of_mem _ (List.mem_cons_of_mem _ (List.mem_cons_of_mem _ (List.mem_cons_self)))))))))))))))))))))
  have g38 := l35.a (822, q136, 2, 64, 38) (List.mem_cons_of_mem _ (List.mem_cons_of_mem _ (List.mem_cons_of_mem _ (List.mem_cons_of_mem _ (List.mem_cons_of_mem _ (List.mem_cons_of_mem _ (List.mem_cons_of_mem _ (List.mem_cons_of_mem _ (List.mem_cons_of_mem _ (List.mem_cons_of_mem _ (List.mem_cons_of_mem _ (List.mem_cons_of_mem _ (List.mem_cons_of_mem _ (List.mem_cons_of_mem _ (List.mem_cons_of_mem _ (List.mem_cons_of_mem _ (List.mem_cons_of_mem _ (List.mem_cons_of_mem _ (List.mem_cons_of_mem _ (List.mem_cons_self))))))))))))))))))))
  have g39 := l35.a (823, q144, 2, 8, 39) (List.mem_cons_of_mem _ (List.mem_cons_of_mem _ (List.mem_cons_of_mem _ (List.mem_cons_of_mem _ (List.mem_cons_of_mem _ (List.mem_cons_of_mem _ (List.mem_cons_of_mem _ (List.mem_cons_of_mem _ (List.mem_cons_of_mem _ (List.mem_cons_of_mem _ (List.mem_cons_of_mem _ (List.mem_cons_of_mem _ (List.mem_cons_of_mem _ (List.mem_cons_of_mem _ (List.mem_cons_of_mem _ (List.mem_cons_of_mem _ (List.mem_cons_of_mem _ (List.mem_cons_of_mem _ (List.mem_cons_self)))))))))))))))))))
  have g40 := l35.a (824, q153, 0, 960, 40) (List.mem_cons_of_mem _ (List.mem_cons_of_mem _ (List.mem_cons_of_mem _ (List.mem_cons_of_mem _ (List.mem_cons_of_mem _ (List.mem_cons_of_mem _ (List.mem_cons_of_mem _ (List.mem_cons_of_mem _ (List.mem_cons_of_mem _ (List.mem_cons_of_mem _ (List.mem_cons_of_mem _ (List.mem_cons_of_mem _ (List.mem_cons_of_mem _ (List.mem_cons_of_mem _ (List.mem_cons_of_mem _ (List.mem_cons_of_mem _ (List.mem_cons_of_mem _ (List.mem_cons_self))))))))))))))))))
  have g41 := l35.a (825, q162, 0, 320, 41) (List.mem_cons_of_mem _ (List.mem_cons_of_mem _ (List.mem_cons_of_mem _ (List.mem_cons_of_mem _ (List.mem_cons_of_mem _ (List.mem_cons_of_mem _ (List.mem_cons_of_mem _ (List.mem_cons_of_mem _ (List.mem_cons_of_mem _ (List.mem_cons_of_mem _ (List.mem_cons_of_mem _ (List.mem_cons_of_mem _ (List.mem_cons_of_mem _ (List.mem_cons_of_mem _ (List.mem_cons_of_mem _ (List.mem_cons_of_mem _ (List.mem_cons_self)))))))))))))))))
  have g42 := l35.a (826, q170, 0, 8, 42) (List.mem_cons_of_mem _ (List.mem_cons_of_mem _ (List.mem_cons_of_mem _ (List.mem_cons_of_mem _ (List.mem_cons_of_mem _ (List.mem_cons_of_mem _ (List.mem_cons_of_mem _ (List.mem_cons_of_mem _ (List.mem_cons_of_mem _ (List.mem_cons_of_mem _ (List.mem_cons_of_mem _ (List.mem_cons_of_mem _ (List.mem_cons_of_mem _ (List.mem_cons_of_mem _ (List.mem_cons_of_mem _ (List.mem_cons_self))))))))))))))))
  have g43 := l35.a (827, q179, 0, 960, 43) (List.mem_cons_of_mem _ (List.mem_cons_of_mem _ (List.mem_cons_of_mem _ (List.mem_cons_of_mem _ (List.mem_cons_of_mem _ (List.mem_cons_of_mem _ (List.mem_cons_of_mem _ (List.mem_cons_of_mem _ (List.mem_cons_of_mem _ (List.mem_cons_of_mem _ (List.mem_cons_of_mem _ (List.mem_cons_of_mem _ (List.mem_cons_of_mem _ (List.mem_cons_of_mem _ (List.mem_cons_self)))))))))))))))
  have g44 := l35.a (828, q188, 0, 320, 44) (List.mem_cons_of_mem _ (List.mem_cons_of_mem _ (List.mem_cons_of_mem _ (List.mem_cons_of_mem _ (List.mem_cons_of_mem _ (List.mem_cons_of_mem _ (List.mem_cons_of_mem _ (List.mem_cons_of_mem _ (List.mem_cons_of_mem _ (List.mem_cons_of_mem _ (List.mem_cons_of_mem _ (List.mem_cons_of_mem _ (List.mem_cons_of_mem _ (List.mem_cons_self))))))))))))))
  have g45 := l35.a (829, q196, 0, 8, 45) (List.mem_cons_of_mem _ (List.mem_cons_of_mem _ (List.mem_cons_of_mem _ (List.mem_cons_of_mem _ (List.mem_cons_of_mem _ (List.mem_cons_of_mem _ (List.mem_cons_of_mem _ (List.mem_cons_of_mem _ (List.mem_cons_of_mem _ (List.mem_cons_of_mem _ (List.mem_cons_of_mem _ (List.mem_cons_of_mem _ (List.mem_cons_self)))))))))))))
  have g46 := l35.a (830, q205, 0, 300, 46) (List.mem_cons_of_mem _ (List.mem_cons_of_mem _ (List.mem_cons_of_mem _ (List.mem_cons_of_mem _ (List.mem_cons_of_mem _ (List.mem_cons_of_mem _ (List.mem_cons_of_mem _ (List.mem_cons_of_mem _ (List.mem_cons_of_mem _ (List.mem_cons_of_mem _ (List.mem_cons_of_mem _ (List.mem_cons_self))))))))))))
  have g47 := l35.a (832, q214, 0, 1800, 47) (List.mem_cons_of_mem _ (List.mem_cons_of_mem _ (List.mem_cons_of_mem _ (List.mem_cons_of_mem _ (List.mem_cons_of_mem _ (List.mem_cons_of_mem _ (List.mem_cons_of_mem _ (List.mem_cons_of_mem _ (List.mem_cons_of_mem _ (List.mem_cons_of_mem _ (List.mem_cons_self)))))))))))
  have g48 := l35.a (833, q222, 0, 6, 48) (List.mem_cons_of_mem _ (List.mem_cons_of_mem _ (List.mem_cons_of_mem _ (List.mem_cons_of_mem _ (List.mem_cons_of_mem _ (List.mem_cons_of_mem _ (List.mem_cons_of_mem _ (List.mem_cons_of_mem _ (List.mem_cons_of_mem _ (List.mem_cons_self))))))))))
  have g49 := l35.a (835, q231, 0, 3300, 49) (List.mem_cons_of_mem _ (List.mem_cons_of_mem _ (List.mem_cons_of_mem _ (List.mem_cons_of_mem _ (List.mem_cons_of_mem _ (List.mem_cons_of_mem _ (List.mem_cons_of_mem _ (List.mem_cons_of_mem _ (List.mem_cons_self)))))))))
  have g50 := l35.a (837, q239, 0, 104, 50) (List.mem_cons_of_mem _ (List.mem_cons_of_mem _ (List.mem_cons_of_mem _ (List.mem_cons_of_mem _ (List.mem_cons_of_mem _ (List.mem_cons_of_mem _ (List.mem_cons_of_mem _ (List.mem_cons_self))))))))
  have g51 := l35.a (838, q246, 0, 4, 51) (List.mem_cons_of_mem _ (List.mem_cons_of_mem _ (List.mem_cons_of_mem _ (List.mem_cons_of_mem _ (List.mem_cons_of_mem _ (List.mem_cons_of_mem _ (List.mem_cons_self)))))))
  have g52 := l35.a (839, q253, 0, 3, 52) (List.mem_cons_of_mem _ (List.mem_cons_of_mem _ (List.mem_cons_of_mem _ (List.mem_cons_of_mem _ (List.mem_cons_of_mem _ (List.mem_cons_self))))))
  have g53 := l35.a (843, q261, 0, 120, 53) (List.mem_cons_of_mem _ (List.mem_cons_of_mem _ (List.mem_cons_of_mem _ (List.mem_cons_of_mem _ (List.mem_cons_self)))))
  have g54 := l35.a (844, q269, 0, 40, 54) (List.mem_cons_of_mem _ (List.mem_cons_of_mem _ (List.mem_cons_of_mem _ (List.mem_cons_self))))
  have g55 := l35.a (846, q278, 0, 300, 55) (List.mem_cons_of_mem _ (List.mem_cons_of_mem _ (List.mem_cons_self)))
  have g56 := l35.a (848, q286, 0, 8, 56) (List.mem_cons_of_mem _ (List.mem_cons_self))
  have g57 := l35.a (850, q294, 0, 26, 57) (List.mem_cons_self)
  refine hP (maT q8 q17 q26 q39 q47 q55 q63 q71 q80 q88 q96 q104 q112 q120 q128 q136 q144 q153 q162 q170 q179 q188 q196 q205 q214 q222 q231 q239 q246 q253 q261 q269 q278 q286 q294 m) w57 ⟨l35.ty, ⟨g23.1, g23.2.1⟩, ⟨g24.1, g24.2.1⟩, ⟨g25.1, g25.2.1⟩, ⟨g26.1, g26.2.1⟩, ⟨g27.1, g27.2.1⟩, ⟨g28.1, g28.2.1⟩, ⟨g29.1, g29.2.1⟩, ⟨g30.1, g30.2.1⟩, ⟨g31.1, g31.2.1⟩, ⟨g32.1, g32.2.1⟩, ⟨g33.1, g33.2.1⟩, ⟨g34.1, g34.2.1⟩, ⟨g35.1, g35.2.1⟩, ⟨g36.1, g36.2.1⟩, ⟨g37.1, g37.2.1⟩, ⟨g38.1, g38.2.1⟩, ⟨g39.1, g39.2.1⟩, ⟨g40.1, g40.2.1⟩, ⟨g41.1, g41.2.1⟩, ⟨g42.1, g42.2.1⟩, ⟨g43.1, g43.2.1⟩, ⟨g44.1, g44.2.1⟩, ⟨g45.1, g45.2.1⟩, ⟨g46.1, g46.2.1⟩, ⟨g47.1, g47.2.1⟩, ⟨g48.1, g48.2.1⟩, ⟨g49.1, g49.2.1⟩, ⟨g50.1, g50.2.1⟩, ⟨g51.1, g51.2.1⟩, ⟨g52.1, g52.2.1⟩, ⟨g53.1, g53.2.1⟩, ⟨g54.1, g54.2.1⟩, ⟨g55.1, g55.2.1⟩, ⟨g56.1, g56.2.1⟩, ⟨g57.1, g57.2.1⟩⟩ (fun t ht => ?_) l35.i (fun t h1 h2 i => ?_) l35.w
  · unfold maT
    rw [if_neg (show ¬ t = 23 by omega), if_neg (show ¬ t = 24 by omega), if_neg (show ¬ t = 25 by omega), if_neg (show ¬ t = 26 by omega), if_neg (show ¬ t = 27 by omega), if_neg (show ¬ t = 28 by omega), if_neg (show ¬ t = 29 by omega), if_neg (show ¬ t = 30 by omega), if_neg (show ¬ t = 31 by omega), if_neg (show ¬ t = 32 by omega), if_neg (show ¬ t = 33 by omega), if_neg (show ¬ t = 34 by omega), if_neg (show ¬ t = 35 by omega), if_neg (show ¬ t = 36 by omega), if_neg (show ¬ t = 37 by omega), if_neg (show ¬ t = 38 by omega), if_neg (show ¬ t = 39 by omega), if_neg (show ¬ t = 40 by omega), if_neg (show ¬ t = 41 by omega), if_neg (show ¬ t = 42 by omega), if_neg (show ¬ t = 43 by omega), if_neg (show ¬ t = 44 by omega), if_neg (show ¬ t = 45 by omega), if_neg (show ¬ t = 46 by omega), if_neg (show ¬ t = 47 by omega), if_neg (show ¬ t = 48 by omega), if_neg (show ¬ t = 49 by omega), if_neg (show ¬ t = 50 by omega), if_neg (show ¬ t = 51 by omega), if_neg (show ¬ t = 52 by omega), if_neg (show ¬ t = 53 by omega), if_neg (show ¬ t = 54 by omega), if_neg (show ¬ t = 55 by omega), if_neg (show ¬ t = 56 by omega), if_neg (show ¬ t = 57 by omega)]
  · rcases (show t = 23 ∨ t = 24 ∨ t = 25 ∨ t = 26 ∨ t = 27 ∨ t = 28 ∨ t = 29 ∨ t = 30 ∨ t = 31 ∨ t = 32 ∨ t = 33 ∨ t = 34 ∨ t = 35 ∨ t = 36 ∨ t = 37 ∨ t = 38 ∨ t = 39 ∨ t = 40 ∨ t = 41 ∨ t = 42 ∨ t = 43 ∨ t = 44 ∨ t = 45 ∨ t = 46 ∨ t = 47 ∨ t = 48 ∨ t = 49 ∨ t = 50 ∨ t = 51 ∨ t = 52 ∨ t = 53 ∨ t = 54 ∨ t = 55 ∨ t = 56 ∨ t = 57 by omega) with rfl | rfl | rfl | rfl | rfl | rfl | rfl | rfl | rfl | rfl | rfl | rfl | rfl | rfl | rfl | rfl | rfl | rfl | rfl | rfl | rfl | rfl | rfl | rfl | rfl | rfl | rfl | rfl | rfl | rfl | rfl | rfl | rfl | rfl | rfl
    · exact congrFun (g23.2.2 23) i
    · exact congrFun (g24.2.2 24) i
    · exact congrFun (g25.2.2 25) i
    · exact congrFun (g26.2.2 26) i
    · exact congrFun (g27.2.2 27) i
    · exact congrFun (g28.2.2 28) i
    · exact congrFun (g29.2.2 29) i
    · exact congrFun (g30.2.2 30) i
    · exact congrFun (g31.2.2 31) i
    · exact congrFun (g32.2.2 32) i
    · exact congrFun (g33.2.2 33) i
    · exact congrFun (g34.2.2 34) i
    · exact congrFun (g35.2.2 35) i
    · exact congrFun (g36.2.2 36) i
    · exact congrFun (g37.2.2 37) i
    · exact congrFun (g38.2.2 38) i
    · exact congrFun (g39.2.2 39) i
    · exact congrFun (g40.2.2 40) i
    · exact congrFun (g41.2.2 41) i
    · exact congrFun (g42.2.2 42) i
    · exact congrFun (g43.2.2 43) i
    · exact congrFun (g44.2.2 44) i
    · exact congrFun (g45.2.2 45) i
    · exact congrFun (g46.2.2 46) i
    · exact congrFun (g47.2.2 47) i
    · exact congrFun (g48.2.2 48) i
    · exact congrFun (g49.2.2 49) i
    · exact congrFun (g50.2.2 50) i
    · exact congrFun (g51.2.2 51) i
    · exact congrFun (g52.2.2 52) i
    · exact congrFun (g53.2.2 53) i
    · exact congrFun (g54.2.2 54) i
    · exact congrFun (g55.2.2 55) i
    · exact congrFun (g56.2.2 56) i
    · exact congrFun (g57.2.2 57) i
