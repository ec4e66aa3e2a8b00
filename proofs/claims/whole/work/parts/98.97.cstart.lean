def xs (x : Nat) (fs : List Nat) (σ σ' : z_S) : Prop := (wf (fun a => a = x) σ σ') ∧ (∀ g, g ∉ fs → z_R σ' g x = z_R σ g x) ∧ (∀ g, z_I σ' g x = z_I σ g x)
theorem xs.w {x : Nat} {fs : List Nat} {σ σ' : z_S} (h' : xs x fs σ σ') : wf (fun a => a = x) σ σ' := h'.1
theorem xs.R {x : Nat} {fs : List Nat} {σ σ' : z_S} (h' : xs x fs σ σ') : ∀ g, g ∉ fs → z_R σ' g x = z_R σ g x := h'.2.1
theorem xs.I {x : Nat} {fs : List Nat} {σ σ' : z_S} (h' : xs x fs σ σ') : ∀ g, z_I σ' g x = z_I σ g x := h'.2.2
theorem xs_tr {x : Nat} {fs gs hs : List Nat} {σ σ' σ'' : z_S} (h : xs x fs σ σ') (g : xs x gs σ' σ'') (h1 : ∀ f ∈ fs, f ∈ hs) (h2 : ∀ f ∈ gs, f ∈ hs) : xs x hs σ σ'' := ⟨wf_tr h.w g.w (fun a z _ => z), fun f hf => (g.R f (fun z => hf (h2 f z))).trans (h.R f (fun z => hf (h1 f z))), fun f => (g.I f).trans (h.I f)⟩
theorem xs_as {x q k n t f : Nat} {σ σ' : z_S} (h : asT σ σ' q k n t f x) : xs x [f] σ σ' := ⟨h.w, fun g hg => h.R g x (fun z => hg (by rw [z.1]; exact List.mem_singleton.mpr rfl)), fun g => h.I g x⟩
theorem xs_w {x : Nat} {σ σ' : z_S} (h : wf (fun _ => False) σ σ') (hx : z_ty σ x ≠ none) : xs x [] σ σ' := ⟨wf_mo h (fun _ _ z => z.elim), fun g _ => h.R g x hx (fun z => z), fun g => h.I g x hx (fun z => z)⟩
theorem xs_sR {x f : Nat} {y : Option Nat} {σ : z_S} : xs x [f] σ (z_sR σ f x y) := ⟨wf_sR rfl, fun g hg => by rw [z_R_sR, if_neg (fun z => hg (by rw [z.1]; exact List.mem_singleton.mpr rfl))], fun _ => rfl⟩
theorem xs_ob {x f : Nat} {y : Option Nat} {σ σ' σ'' : z_S} (h : wf (fun _ => False) σ σ') (hx : z_ty σ x ≠ none) (e : σ'' = z_sR σ' f x y) : xs x [f] σ σ'' := xs_tr (xs_w h hx) (by rw [e]; exact xs_sR) (fun _ z => absurd z List.not_mem_nil) (fun _ z => z)
/-- the program before its rows are made -/
def vB (σ : z_S) (x tx rg p0 nw mw o0 dn o1 : Nat) (E : ex_T) : Prop := (z_ty σ x = some (.inl 7)) ∧ (∀ f, z_I σ f x = if f = 702 then -1 else 0) ∧ (z_R σ 700 x = some tx) ∧ (z_ty σ tx = some (.inr (1, 600, 18))) ∧ (z_R σ 703 x = some rg) ∧ (z_ty σ rg = some (.inr (0, 8, 19))) ∧ (z_R σ 705 x = some p0) ∧ (z_ty σ p0 = some (.inl 2)) ∧ (∀ f, z_I σ f p0 = 0) ∧ (z_R σ 706 x = some nw) ∧ (z_ty σ nw = some (.inr (9, 8, 20))) ∧ (z_R σ 707 x = some mw) ∧ (z_ty σ mw = some (.inr (9, 8, 21))) ∧ (z_R σ 708 x = some o0) ∧ (z_R σ 709 x = some dn) ∧ (z_ty σ dn = some (.inr (10, 6, 22))) ∧ (z_R σ 711 x = some o1) ∧ (z_R σ 712 x = some E.a) ∧ (en_T E σ)
theorem vB.ty {σ : z_S} {x tx rg p0 nw mw o0 dn o1 : Nat} {E : ex_T} (h' : vB σ x tx rg p0 nw mw o0 dn o1 E) : z_ty σ x = some (.inl 7) := h'.1
theorem vB.i {σ : z_S} {x tx rg p0 nw mw o0 dn o1 : Nat} {E : ex_T} (h' : vB σ x tx rg p0 nw mw o0 dn o1 E) : ∀ f, z_I σ f x = if f = 702 then -1 else 0 := h'.2.1
theorem vB.r0 {σ : z_S} {x tx rg p0 nw mw o0 dn o1 : Nat} {E : ex_T} (h' : vB σ x tx rg p0 nw mw o0 dn o1 E) : z_R σ 700 x = some tx := h'.2.2.1
theorem vB.t0 {σ : z_S} {x tx rg p0 nw mw o0 dn o1 : Nat} {E : ex_T} (h' : vB σ x tx rg p0 nw mw o0 dn o1 E) : z_ty σ tx = some (.inr (1, 600, 18)) := h'.2.2.2.1
theorem vB.r3 {σ : z_S} {x tx rg p0 nw mw o0 dn o1 : Nat} {E : ex_T} (h' : vB σ x tx rg p0 nw mw o0 dn o1 E) : z_R σ 703 x = some rg := h'.2.2.2.2.1
theorem vB.t3 {σ : z_S} {x tx rg p0 nw mw o0 dn o1 : Nat} {E : ex_T} (h' : vB σ x tx rg p0 nw mw o0 dn o1 E) : z_ty σ rg = some (.inr (0, 8, 19)) := h'.2.2.2.2.2.1
theorem vB.r5 {σ : z_S} {x tx rg p0 nw mw o0 dn o1 : Nat} {E : ex_T} (h' : vB σ x tx rg p0 nw mw o0 dn o1 E) : z_R σ 705 x = some p0 := h'.2.2.2.2.2.2.1
theorem vB.t5 {σ : z_S} {x tx rg p0 nw mw o0 dn o1 : Nat} {E : ex_T} (h' : vB σ x tx rg p0 nw mw o0 dn o1 E) : z_ty σ p0 = some (.inl 2) := h'.2.2.2.2.2.2.2.1
theorem vB.i5 {σ : z_S} {x tx rg p0 nw mw o0 dn o1 : Nat} {E : ex_T} (h' : vB σ x tx rg p0 nw mw o0 dn o1 E) : ∀ f, z_I σ f p0 = 0 := h'.2.2.2.2.2.2.2.2.1
theorem vB.r6 {σ : z_S} {x tx rg p0 nw mw o0 dn o1 : Nat} {E : ex_T} (h' : vB σ x tx rg p0 nw mw o0 dn o1 E) : z_R σ 706 x = some nw := h'.2.2.2.2.2.2.2.2.2.1
theorem vB.t6 {σ : z_S} {x tx rg p0 nw mw o0 dn o1 : Nat} {E : ex_T} (h' : vB σ x tx rg p0 nw mw o0 dn o1 E) : z_ty σ nw = some (.inr (9, 8, 20)) := h'.2.2.2.2.2.2.2.2.2.2.1
theorem vB.r7 {σ : z_S} {x tx rg p0 nw mw o0 dn o1 : Nat} {E : ex_T} (h' : vB σ x tx rg p0 nw mw o0 dn o1 E) : z_R σ 707 x = some mw := h'.2.2.2.2.2.2.2.2.2.2.2.1
theorem vB.t7 {σ : z_S} {x tx rg p0 nw mw o0 dn o1 : Nat} {E : ex_T} (h' : vB σ x tx rg p0 nw mw o0 dn o1 E) : z_ty σ mw = some (.inr (9, 8, 21)) := h'.2.2.2.2.2.2.2.2.2.2.2.2.1
theorem vB.r8 {σ : z_S} {x tx rg p0 nw mw o0 dn o1 : Nat} {E : ex_T} (h' : vB σ x tx rg p0 nw mw o0 dn o1 E) : z_R σ 708 x = some o0 := h'.2.2.2.2.2.2.2.2.2.2.2.2.2.1
theorem vB.r9 {σ : z_S} {x tx rg p0 nw mw o0 dn o1 : Nat} {E : ex_T} (h' : vB σ x tx rg p0 nw mw o0 dn o1 E) : z_R σ 709 x = some dn := h'.2.2.2.2.2.2.2.2.2.2.2.2.2.2.1
theorem vB.t9 {σ : z_S} {x tx rg p0 nw mw o0 dn o1 : Nat} {E : ex_T} (h' : vB σ x tx rg p0 nw mw o0 dn o1 E) : z_ty σ dn = some (.inr (10, 6, 22)) := h'.2.2.2.2.2.2.2.2.2.2.2.2.2.2.2.1
theorem vB.r11 {σ : z_S} {x tx rg p0 nw mw o0 dn o1 : Nat} {E : ex_T} (h' : vB σ x tx rg p0 nw mw o0 dn o1 E) : z_R σ 711 x = some o1 := h'.2.2.2.2.2.2.2.2.2.2.2.2.2.2.2.2.1
theorem vB.r12 {σ : z_S} {x tx rg p0 nw mw o0 dn o1 : Nat} {E : ex_T} (h' : vB σ x tx rg p0 nw mw o0 dn o1 E) : z_R σ 712 x = some E.a := h'.2.2.2.2.2.2.2.2.2.2.2.2.2.2.2.2.2.1
theorem vB.e {σ : z_S} {x tx rg p0 nw mw o0 dn o1 : Nat} {E : ex_T} (h' : vB σ x tx rg p0 nw mw o0 dn o1 E) : en_T E σ := h'.2.2.2.2.2.2.2.2.2.2.2.2.2.2.2.2.2.2
def zW (nw mw dn a : Nat) : Prop := a = nw ∨ a = mw ∨ a = dn
theorem vB_w {σ σ' : z_S} {x tx rg p0 nw mw o0 dn o1 : Nat} {E : ex_T} (h : vB σ x tx rg p0 nw mw o0 dn o1 E) (f : wf (zW nw mw dn) σ σ') : vB σ' x tx rg p0 nw mw o0 dn o1 E := by
  have no : ∀ {a y}, z_ty σ a = some y → y ≠ .inr (9, 8, 20) → y ≠ .inr (9, 8, 21) → y ≠ .inr (10, 6, 22) → ¬ zW nw mw dn a := fun ha h1 h2 h3 z => by
    rcases z with z | z | z
    · rw [z, h.t6] at ha; exact h1 (Option.some.inj ha).symm
    · rw [z, h.t7] at ha; exact h2 (Option.some.inj ha).symm
    · rw [z, h.t9] at ha; exact h3 (Option.some.inj ha).symm
  have nx := no h.ty (by decide) (by decide) (by decide)
  have ne := no h.e.ty (by decide) (by decide) (by decide)
  have np := no h.t5 (by decide) (by decide) (by decide)
  have T : ∀ {a y}, z_ty σ a = some y → z_ty σ' a = some y := fun ha => by rw [f.ty _ (nn_s ha)]; exact ha
  have R : ∀ g, z_R σ' g x = z_R σ g x := fun g => f.R g x (nn_s h.ty) nx
  have RE : ∀ g, z_R σ' g E.a = z_R σ g E.a := fun g => f.R g _ (nn_s h.e.ty) ne
  exact ⟨T h.ty, fun g => by rw [f.I _ _ (nn_s h.ty) nx]; exact h.i g, by rw [R]; exact h.r0, T h.t0, by rw [R]; exact h.r3, T h.t3, by rw [R]; exact h.r5, T h.t5, fun g => by rw [f.I _ _ (nn_s h.t5) np]; exact h.i5 g, by rw [R]; exact h.r6, T h.t6, by rw [R]; exact h.r7, T h.t7, by rw [R]; exact h.r8, by rw [R]; exact h.r9, T h.t9, by rw [R]; exact h.r11, by rw [R]; exact h.r12, ⟨T h.e.ty, by rw [RE]; exact h.e.rl, T h.e.tl, by rw [RE]; exact h.e.rv, T h.e.tv, by rw [RE]; exact h.e.rq, T h.e.tq, by rw [RE]; exact h.e.rk, T h.e.tk⟩⟩
def mkE (a l v q k : Nat) : ex_T := ⟨a, l, v, q, k, 0, 0, fun _ => 0, fun _ => 0, fun _ => 0⟩
def pmt (i : Nat) : Nat := if i = 6 then 0 else if i = 7 then 1 else i + 2
theorem pmt_i {i j : Nat} (hi : i < 8) (hj : j < 8) (e : pmt i = pmt j) : i = j := by
  unfold pmt at e
  split at e <;> split at e <;> try split at e
  all_goals first | omega | (split at e <;> omega)
theorem pmt_8 {i : Nat} (hi : i < 8) : pmt i < 8 := by
  unfold pmt
  split
  · omega
  · split <;> omega
def mkV (x tx rg dn p0 nw mw : Nat) (O R K S A B C : Nat → Nat) (E : ex_T) : vc_T := ⟨x, tx, rg, dn, p0, fun i => O (pmt i), fun i => R (pmt i), fun i => K (pmt i), fun i => S (pmt i), 6, fun i => i, ⟨E.a, E.l, E.v, E.q, E.k, nw, 20, fun j => A (2 * j), fun j => B (2 * j), fun j => C (2 * j)⟩, ⟨E.a, E.l, E.v, E.q, E.k, mw, 21, fun j => A (2 * j + 1), fun j => B (2 * j + 1), fun j => C (2 * j + 1)⟩, ⟨0, 0, 0, fun _ => 0, fun _ => 0, fun _ => 0, fun _ _ => 0⟩, 0, 0, 0⟩
def a_0 : ab_T := ⟨0, fun _ => 0, -1, [], false, ⟨[], fun _ => [], fun _ => 3, fun _ => 0, 0, 0, fun _ => false⟩, [], fun _ _ => false, fun _ => [], [], [], []⟩
/-- the program stands -/
theorem CI_0 {σ : z_S} {x tx rg p0 nw mw o0 dn o1 : Nat} {E : ex_T} (h : vB σ x tx rg p0 nw mw o0 dn o1 E) {A B C O R K S m : Nat → Nat} (hr : rS σ 16 A B C) (hs : sS σ 8 O R K S m) (hn : ∀ j, j < 8 → z_Q σ 20 nw j = some (A (2 * j))) (hm : ∀ j, j < 8 → z_Q σ 21 mw j = some (A (2 * j + 1))) (hd : ∀ j, j < 6 → z_Q σ 22 dn j = some (O (j + 2))) (e0 : O 0 = o0) (e1 : O 1 = o1) (m0 : m 0 = 60) (m1 : m 1 = 640) (m2 : ∀ j, j < 6 → m (j + 2) = 60) : ∃ V, V.x = x ∧ CI V a_0 σ := by
  have p6 : pmt 6 = 0 := rfl
  have p7 : pmt 7 = 1 := rfl
  have pl : ∀ i, i < 6 → pmt i = i + 2 := fun i hi => by unfold pmt; rw [if_neg (by omega), if_neg (by omega)]
  have si : ∀ i, i < 7 → si_T σ (O (pmt i)) (R (pmt i)) (K (pmt i)) (S (pmt i)) 60 ∧ z_I σ 603 (O (pmt i)) = 0 := fun i hi => by
    have := hs.t (pmt i) (pmt_8 (by omega))
    have em : m (pmt i) = 60 := by
      by_cases z : i = 6
      · rw [z, p6]; exact m0
      · rw [pl i (by omega)]; exact m2 i (by omega)
    rw [em] at this
    exact this
  have s7 := hs.t (pmt 7) (pmt_8 (by omega))
  have em7 : m (pmt 7) = 640 := m1
  rw [em7] at s7
  refine ⟨mkV x tx rg dn p0 nw mw O R K S A B C E, rfl, ?_⟩
  have he : ∀ w s f g k, en_T ⟨E.a, E.l, E.v, E.q, E.k, w, s, f, g, k⟩ σ := fun w s f g k => ⟨h.e.ty, h.e.rl, h.e.tl, h.e.rv, h.e.tv, h.e.rq, h.e.tq, h.e.rk, h.e.tk⟩
  have hN : rw_T ⟨E.a, E.l, E.v, E.q, E.k, nw, 20, fun j => A (2 * j), fun j => B (2 * j), fun j => C (2 * j)⟩ σ := ⟨h.t6, hn, fun i hi => (hr.t (2 * i) (by omega)).1, fun i j hi hj z => by have := hr.ia _ _ (by omega) (by omega) z; omega, fun i j hi hj z => by have := hr.ib _ _ (by omega) (by omega) z; omega, fun i j hi hj z => by have := hr.ic _ _ (by omega) (by omega) z; omega⟩
  have hM : rw_T ⟨E.a, E.l, E.v, E.q, E.k, mw, 21, fun j => A (2 * j + 1), fun j => B (2 * j + 1), fun j => C (2 * j + 1)⟩ σ := ⟨h.t7, hm, fun i hi => (hr.t (2 * i + 1) (by omega)).1, fun i j hi hj z => by have := hr.ia _ _ (by omega) (by omega) z; omega, fun i j hi hj z => by have := hr.ib _ _ (by omega) (by omega) z; omega, fun i j hi hj z => by have := hr.ic _ _ (by omega) (by omega) z; omega⟩
  have i0 : ∀ f, f ≠ 702 → z_I σ f x = 0 := fun f hf => by rw [h.i, if_neg hf]
  refine ⟨h.ty, h.r0, h.t0, i0 701 (by decide), ⟨Nat.zero_le _, fun i hi => absurd hi (Nat.not_lt_zero i)⟩, fun i hi => absurd hi (Nat.not_lt_zero i), by show z_I σ 702 x = -1; rw [h.i, if_pos rfl], h.r3, h.t3, i0 704 (by decide), Nat.zero_le _, fun i hi => absurd hi (Nat.not_lt_zero i), h.r6, h.r7, h.r8.trans (congrArg some e0.symm), h.r9, h.t9, fun i hi => ?_, i0 710 (by decide), Nat.zero_le _, h.r11.trans (congrArg some e1.symm), h.r12, he _ _ _ _ _, he _ _ _ _ _, rfl, hM, fun i j hi hj z => by have := hr.ia _ _ (by omega) (by omega) z; omega, fun i j hi hj z => by have := hr.ib _ _ (by omega) (by omega) z; omega, fun i j hi hj z => by have := hr.ic _ _ (by omega) (by omega) z; omega, fun i hi => (si i hi).1, si_nil s7.1 s7.2, fun i j hi hj z => pmt_i hi hj (hs.io _ _ (pmt_8 hi) (pmt_8 hj) z), fun i j hi hj z => pmt_i hi hj (hs.ir _ _ (pmt_8 hi) (pmt_8 hj) z), fun i j hi hj z => pmt_i hi hj (hs.ik _ _ (pmt_8 hi) (pmt_8 hj) z), fun i j hi hj z => pmt_i hi hj (hs.is _ _ (pmt_8 hi) (pmt_8 hj) z), ⟨(show 6 < 7 by decide), fun i hi => ⟨by show i < 7; omega, by show i ≠ 6; omega⟩⟩, fun i j _ _ z => z, si_nil (si 6 (by omega)).1 (si 6 (by omega)).2, fun i hi => absurd hi (Nat.not_lt_zero i), ?_⟩
  · show z_Q σ 22 dn i = some (O (pmt i))
    rw [hd i hi, pl i hi]
  · exact (⟨h.r5, h.t5, h.i5 _, h.i5 _, h.i5 _, ⟨fun _ => [], ⟨hN, fun i hi => ⟨(hr.t (2 * i) (by omega)).1, (hr.t (2 * i) (by omega)).2, Nat.zero_le _, List.Pairwise.nil, fun q hq => absurd hq List.not_mem_nil, fun q hq => absurd hq (Nat.not_lt_zero q)⟩⟩, fun v _ => ⟨Nat.zero_le _, fun q hq => absurd hq List.not_mem_nil⟩⟩, rfl, rfl, rfl⟩ : non (mkV x tx rg dn p0 nw mw O R K S A B C E) a_0 σ)
