/-- numbers alone are written: fields fs, arrays ts -/
def nf (fs ts : List (Nat × Nat)) (σ σ' : z_S) : Prop := (∀ a, z_ty σ' a = z_ty σ a) ∧ (∀ f a, z_R σ' f a = z_R σ f a) ∧ (∀ t a, z_Q σ' t a = z_Q σ t a) ∧ (∀ t a, (t, a) ∉ ts → z_A σ' t a = z_A σ t a) ∧ (∀ f a, (f, a) ∉ fs → z_I σ' f a = z_I σ f a)
theorem nf.ty {fs ts : List (Nat × Nat)} {σ σ' : z_S} (h' : nf fs ts σ σ') : ∀ a, z_ty σ' a = z_ty σ a := h'.1
theorem nf.R {fs ts : List (Nat × Nat)} {σ σ' : z_S} (h' : nf fs ts σ σ') : ∀ f a, z_R σ' f a = z_R σ f a := h'.2.1
theorem nf.Q {fs ts : List (Nat × Nat)} {σ σ' : z_S} (h' : nf fs ts σ σ') : ∀ t a, z_Q σ' t a = z_Q σ t a := h'.2.2.1
theorem nf.A {fs ts : List (Nat × Nat)} {σ σ' : z_S} (h' : nf fs ts σ σ') : ∀ t a, (t, a) ∉ ts → z_A σ' t a = z_A σ t a := h'.2.2.2.1
theorem nf.I {fs ts : List (Nat × Nat)} {σ σ' : z_S} (h' : nf fs ts σ σ') : ∀ f a, (f, a) ∉ fs → z_I σ' f a = z_I σ f a := h'.2.2.2.2
theorem nf_rf (fs ts : List (Nat × Nat)) (σ : z_S) : nf fs ts σ σ := ⟨fun _ => rfl, fun _ _ => rfl, fun _ _ => rfl, fun _ _ _ => rfl, fun _ _ _ => rfl⟩
theorem nf_tr {fs ts : List (Nat × Nat)} {σ σ' σ'' : z_S} (h : nf fs ts σ σ') (g : nf fs ts σ' σ'') : nf fs ts σ σ'' := ⟨fun a => (g.ty a).trans (h.ty a), fun f a => (g.R f a).trans (h.R f a), fun t a => (g.Q t a).trans (h.Q t a), fun t a q => (g.A t a q).trans (h.A t a q), fun f a q => (g.I f a q).trans (h.I f a q)⟩
theorem nf_mo {fs ts fs' ts' : List (Nat × Nat)} {σ σ' : z_S} (h : nf fs ts σ σ') (h1 : ∀ x ∈ fs, x ∈ fs') (h2 : ∀ x ∈ ts, x ∈ ts') : nf fs' ts' σ σ' := ⟨h.ty, h.R, h.Q, fun t a q => h.A t a (fun z => q (h2 _ z)), fun f a q => h.I f a (fun z => q (h1 _ z))⟩
theorem nf_sI {fs ts : List (Nat × Nat)} {σ : z_S} {f a : Nat} {x : Int32} (h : (f, a) ∈ fs) : nf fs ts σ (z_sI σ f a x) := ⟨fun _ => rfl, fun _ _ => rfl, fun _ _ => rfl, fun _ _ _ => rfl, fun g b q => by rw [z_I_sI, if_neg (fun z => q (by rw [z.1, z.2]; exact h))]⟩
theorem nf_sA {fs ts : List (Nat × Nat)} {σ : z_S} {t a : Nat} {F : Nat → Int32} (h : (t, a) ∈ ts) : nf fs ts σ (z_sA σ t a F) := ⟨fun _ => rfl, fun _ _ => rfl, fun _ _ => rfl, fun g b q => by rw [z_A_sA, if_neg (fun z => q (by rw [z.1, z.2]; exact h))], fun _ _ _ => rfl⟩
theorem nf_5 {R : Nat} {σ σ' : z_S} (h : e5 R σ σ') {fs ts : List (Nat × Nat)} (hm : (305, R) ∈ fs) : nf fs ts σ σ' := ⟨h.ty, h.R, h.Q, fun t a _ => h.A t a, fun f a q => h.I f a (fun z => q (by rw [z.1, z.2]; exact hm))⟩
theorem nf_R {R : Nat} {σ σ' : z_S} (h : eR R σ σ') {fs ts : List (Nat × Nat)} (h1 : (301, R) ∈ fs) (h2 : (302, R) ∈ fs) (h3 : (305, R) ∈ fs) : nf fs ts σ σ' := ⟨h.ty, h.R, h.Q, fun t a _ => h.A t a, fun f a q => h.I f a (fun z => by
  obtain ⟨z1, z2⟩ := z
  rcases z1 with z1 | z1 | z1
  · exact q (by rw [z1, z2]; exact h1)
  · exact q (by rw [z1, z2]; exact h2)
  · exact q (by rw [z1, z2]; exact h3))⟩
/-- numbers that stay -/
theorem lt_L_f {fs ts : List (Nat × Nat)} {σ σ' : z_S} {ro : Nat} {lt : Nat → Bool} (h : lt_L σ ro lt) (f : nf fs ts σ σ') (h1 : (505, ro) ∉ fs) (h2 : (506, ro) ∉ fs) : lt_L σ' ro lt := ⟨by rw [f.ty]; exact h.ty, fun k hk => by rw [f.I _ _ h1]; exact h.b k hk, by rw [f.I _ _ h2]; exact h.n, h.n6⟩
theorem cR_f {fs ts : List (Nat × Nat)} {t : tx_T} {R tx p : Nat} {σ σ' : z_S} (h : cR t R tx p σ) (f : nf fs ts σ σ') (h1 : (304, R) ∉ fs) (h2 : (305, R) ∉ fs) (h3 : (18, tx) ∉ ts) : cR t R tx p σ' := ⟨by rw [f.ty]; exact h.ty, by rw [f.R]; exact h.r3, by rw [f.ty]; exact h.tt, by rw [f.I _ _ h1]; exact h.n, by rw [f.I _ _ h2]; exact h.a, fun i hi => by rw [f.A _ _ h3]; exact h.c i hi⟩
theorem rk_out (lt : Nat → Bool) (j : Nat) : ∀ n, n ≤ j → rk (addl lt j) n = rk lt n
  | 0, _ => rfl
  | n + 1, h => by
    show rk (addl lt j) n + (if addl lt j n then 1 else 0) = rk lt n + (if lt n then 1 else 0)
    rw [rk_out lt j n (by omega)]
    have : addl lt j n = lt n := by
      unfold addl
      rw [decide_eq_false (by omega), Bool.false_or]
    rw [this]
theorem rk_add {lt : Nat → Bool} {j : Nat} (h0 : lt j = false) : ∀ n, j < n → rk (addl lt j) n = rk lt n + 1
  | 0, h => by omega
  | n + 1, h => by
    show rk (addl lt j) n + (if addl lt j n then 1 else 0) = rk lt n + (if lt n then 1 else 0) + 1
    by_cases z : j = n
    · subst z
      rw [rk_out lt j j (Nat.le_refl _), h0]
      have : addl lt j j = true := by
        unfold addl
        rw [decide_eq_true rfl, Bool.true_or]
      rw [this]
      rfl
    · rw [rk_add h0 n (by omega)]
      have : addl lt j n = lt n := by
        unfold addl
        rw [decide_eq_false (fun y => z y.symm), Bool.false_or]
      rw [this]
      omega
theorem rk_old {lt : Nat → Bool} {j : Nat} (h0 : lt j = true) : addl lt j = lt := by
  funext k
  unfold addl
  by_cases z : k = j
  · rw [z, h0, Bool.or_true]
  · rw [decide_eq_false z, Bool.false_or]
theorem cl_takesVar {σ : z_S} {ro k : Nat} {lt : Nat → Bool} (h : lt_L σ ro lt) (hk : k < 26) (P : Int32 → z_S → Prop) (h1 : ∀ σ', (lt k = true ∨ rk lt 26 ≠ 6) → lt_L σ' ro (addl lt k) → nf [(505, ro), (506, ro)] [] σ σ' → P 1 σ') (h2 : ¬ (lt k = true ∨ rk lt 26 ≠ 6) → P 0 σ) : kp_Ru_takesVariable ro (nI k) σ P := by
  refine ⟨h.ty, vr_isIn _ k σ _ ?_⟩
  rw [h.b k hk]
  cases hb : lt k with
  | true =>
    refine ⟨fun z => absurd z (by decide), fun _ => h1 σ (Or.inl hb) ?_ (nf_rf _ _ σ)⟩
    rw [rk_old hb]; exact h
  | false =>
    refine ⟨fun _ => ⟨h.ty, ?_⟩, fun z => absurd rfl z⟩
    have n6 := h.n6
    rw [h.n, show (6 : Int32) = nI 6 from rfl, nI_ltI (by omega) (by decide)]
    refine ⟨fun z => ⟨h.ty, h.ty, fun σ1 e1 => ⟨by rw [e1]; exact h.ty, by rw [e1]; exact h.ty, fun σ2 e2 => ?_⟩⟩, fun z => h2 (fun y => y.elim (fun y => by rw [hb] at y; cases y) (fun y => y (by omega)))⟩
    have hI5 : z_I σ2 505 ro = z_I σ 505 ro ||| ((1 : Int32) <<< (nI k &&& 31)) := by rw [e2, z_I_sI, if_neg (fun y => absurd y.1 (by decide)), e1, z_I_sI, if_pos ⟨rfl, rfl⟩]
    have hI6 : z_I σ2 506 ro = nI (rk lt 26 + 1) := by rw [e2, z_I_sI, if_pos ⟨rfl, rfl⟩, e1, z_I_sI, if_neg (fun y => absurd y.1 (by decide)), h.n, nI_1]
    refine h1 σ2 (Or.inr (by omega)) ⟨by rw [e2, e1]; exact h.ty, fun j hj => ?_, by rw [hI6, rk_add hb 26 hk], by rw [rk_add hb 26 hk]; omega⟩ ?_
    · rw [hI5, bi_or _ (by omega) (by omega), h.b j hj, Bool.or_comm]
      rfl
    · rw [e2, e1]
      exact nf_tr (nf_sI (by simp)) (nf_sI (by simp))
/-- an atom under way -/
def aW (σ : z_S) (b tb : Nat) (l : List Nat) : Prop := (z_ty σ b = some (.inl 0)) ∧ (z_I σ 1 b = nI l.length) ∧ (l.length ≤ 3) ∧ (z_R σ 0 b = some tb) ∧ (z_ty σ tb = some (.inr (0, 3, 1))) ∧ (∀ i, i < l.length → z_A σ 1 tb i = ct (l.getD i 100)) ∧ (∀ k, k < 32 → (bi (z_I σ 5 b) k = true ↔ k < 26 ∧ k ∈ l))
theorem aW.ty {σ : z_S} {b tb : Nat} {l : List Nat} (h' : aW σ b tb l) : z_ty σ b = some (.inl 0) := h'.1
theorem aW.sz {σ : z_S} {b tb : Nat} {l : List Nat} (h' : aW σ b tb l) : z_I σ 1 b = nI l.length := h'.2.1
theorem aW.l3 {σ : z_S} {b tb : Nat} {l : List Nat} (h' : aW σ b tb l) : l.length ≤ 3 := h'.2.2.1
theorem aW.rt {σ : z_S} {b tb : Nat} {l : List Nat} (h' : aW σ b tb l) : z_R σ 0 b = some tb := h'.2.2.2.1
theorem aW.tt {σ : z_S} {b tb : Nat} {l : List Nat} (h' : aW σ b tb l) : z_ty σ tb = some (.inr (0, 3, 1)) := h'.2.2.2.2.1
theorem aW.tm {σ : z_S} {b tb : Nat} {l : List Nat} (h' : aW σ b tb l) : ∀ i, i < l.length → z_A σ 1 tb i = ct (l.getD i 100) := h'.2.2.2.2.2.1
theorem aW.lt {σ : z_S} {b tb : Nat} {l : List Nat} (h' : aW σ b tb l) : ∀ k, k < 32 → (bi (z_I σ 5 b) k = true ↔ k < 26 ∧ k ∈ l) := h'.2.2.2.2.2.2
theorem aW_f {fs ts : List (Nat × Nat)} {σ σ' : z_S} {b tb : Nat} {l : List Nat} (h : aW σ b tb l) (f : nf fs ts σ σ') (h1 : (1, b) ∉ fs) (h2 : (5, b) ∉ fs) (h3 : (1, tb) ∉ ts) : aW σ' b tb l := ⟨by rw [f.ty]; exact h.ty, by rw [f.I _ _ h1]; exact h.sz, h.l3, by rw [f.R]; exact h.rt, by rw [f.ty]; exact h.tt, fun i hi => by rw [f.A _ _ h3]; exact h.tm i hi, fun k hk => by rw [f.I _ _ h2]; exact h.lt k hk⟩
theorem at_append {σ : z_S} {b tb : Nat} {l : List Nat} {y : Nat} (h : aW σ b tb l) (hl : l.length < 3) (hy : y < 1100) (P : z_S → Prop) (hP : ∀ σ', aW σ' b tb (l ++ [y]) → nf [(1, b), (5, b)] [(1, tb)] σ σ' → P σ') : kp_At_append b (ct y) σ P := by
  refine ⟨h.ty, ?_⟩
  rw [h.sz, show (3 : Int32) = nI 3 from rfl, nI_ltI (by omega) (by decide), cl_nI (by omega)]
  refine ⟨fun _ => ⟨h.ty, tb, h.rt, h.ty, 3, 1, h.tt, vp_in_nI hl (by decide), fun σ1 e1 => ⟨by rw [e1]; exact h.ty, by rw [e1]; exact h.ty, fun σ2 e2 => ?_⟩⟩, fun z => absurd hl z⟩
  have hlen : (l ++ [y]).length = l.length + 1 := by rw [List.length_append]; rfl
  have hc : nf [(1, b), (5, b)] [(1, tb)] σ σ2 := by
    rw [e2, e1]
    exact nf_tr (nf_sA (by simp)) (nf_sI (by simp))
  have hA : z_A σ2 1 tb = upd (z_A σ 1 tb) l.length (ct y) := by rw [e2, z_A_sI, e1, z_A_sA, if_pos ⟨rfl, rfl⟩]
  have hsz : z_I σ2 1 b = nI (l ++ [y]).length := by rw [e2, z_I_sI, if_pos ⟨rfl, rfl⟩, e1, z_I_sA, h.sz, nI_1, hlen]
  have h5 : z_I σ2 5 b = z_I σ 5 b := by rw [e2, z_I_sI, if_neg (fun z => absurd z.1 (by decide)), e1, z_I_sA]
  have htm : ∀ i, i < (l ++ [y]).length → z_A σ2 1 tb i = ct ((l ++ [y]).getD i 100) := fun i hi => by
    rw [hA, gd_sn]
    unfold upd
    by_cases z : i = l.length
    · rw [if_pos z, if_pos z]
    · rw [if_neg z, if_neg z]; exact h.tm i (by omega)
  by_cases hy26 : y < 26
  · obtain ⟨c1, c2⟩ := ct_neg hy26
    refine ⟨fun z => absurd z (Int32.not_le.mpr c1), fun _ => ⟨by rw [e2, e1]; exact h.ty, by rw [e2, e1]; exact h.ty, fun σ3 e3 => ?_⟩⟩
    refine hP σ3 ⟨by rw [e3, e2, e1]; exact h.ty, by rw [e3, z_I_sI, if_neg (fun z => absurd z.1 (by decide))]; exact hsz, by omega, by rw [e3, e2, e1]; exact h.rt, by rw [e3, e2, e1]; exact h.tt, fun i hi => by rw [e3, z_A_sI]; exact htm i hi, fun k hk => ?_⟩ (nf_tr hc (by rw [e3]; exact nf_sI (by simp)))
    rw [e3, z_I_sI, if_pos ⟨rfl, rfl⟩, c2, bi_or _ (by omega) hk, h5, Bool.or_eq_true, h.lt k hk, decide_eq_true_iff, List.mem_append, List.mem_singleton]
    constructor
    · rintro (⟨q1, q2⟩ | q)
      · exact ⟨q1, Or.inl q2⟩
      · exact ⟨by omega, Or.inr q⟩
    · rintro ⟨q1, q2 | q2⟩
      · exact Or.inl ⟨q1, q2⟩
      · exact Or.inr q2
  · obtain ⟨c1, c2, c3⟩ := ct_pos hy26 hy
    refine ⟨fun _ => hP σ2 ⟨by rw [e2, e1]; exact h.ty, hsz, by omega, by rw [e2, e1]; exact h.rt, by rw [e2, e1]; exact h.tt, htm, fun k hk => ?_⟩ hc, fun z => absurd c3 z⟩
    rw [h5, h.lt k hk, List.mem_append, List.mem_singleton]
    exact ⟨fun q => ⟨q.1, Or.inl q.2⟩, fun q => ⟨q.1, q.2.elim id (fun z => by omega)⟩⟩
