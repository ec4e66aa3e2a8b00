/-! WHO REACHES WHOM -/
/-- a rule's literals that name a relation -/
def edg (rs : List ru_T) (v u : Nat) : Prop := ∃ r ∈ rs, r.h = v ∧ ∃ l ∈ r.ls, l.1 ≠ 2 ∧ l.2.1 = u
def edgS (rs : List ru_T) (v u : Nat) : Prop := ∃ r ∈ rs, r.h = v ∧ ∃ l ∈ r.ls, (l.1 = 1 ∨ (l.1 = 0 ∧ r.c = true)) ∧ l.2.1 = u
/-- ways whose inner stations lie below k -/
def way (E : Nat → Nat → Prop) : Nat → Nat → Nat → Prop
  | 0, v, u => E v u
  | k + 1, v, u => way E k v u ∨ (way E k v k ∧ way E k k u)
theorem way_tr {E : Nat → Nat → Prop} : ∀ {k v w u : Nat}, w < k → way E k v w → way E k w u → way E k v u
  | 0, _, _, _, h, _, _ => absurd h (Nat.not_lt_zero _)
  | k + 1, v, w, u, h, h1, h2 => by
    by_cases z : w = k
    · rw [z] at h1 h2
      exact Or.inr ⟨h1.elim id (fun y => y.1), h2.elim id (fun y => y.2)⟩
    · have hlt : w < k := by omega
      rcases h1 with a | ⟨a, b⟩
      · rcases h2 with c | ⟨c, d⟩
        · exact Or.inl (way_tr hlt a c)
        · exact Or.inr ⟨way_tr hlt a c, d⟩
      · rcases h2 with c | ⟨c, d⟩
        · exact Or.inr ⟨a, way_tr hlt b c⟩
        · exact Or.inr ⟨a, d⟩
theorem way_e {E : Nat → Nat → Prop} {v u : Nat} (h : E v u) : ∀ k, way E k v u
  | 0 => h
  | k + 1 => Or.inl (way_e h k)
/-- what holds of steps and goes on holds of ways -/
theorem way_ind {E : Nat → Nat → Prop} {P : Nat → Nat → Prop} (h1 : ∀ v u, E v u → P v u) (h2 : ∀ v w u, P v w → P w u → P v u) : ∀ {k v u : Nat}, way E k v u → P v u
  | 0, _, _, h => h1 _ _ h
  | k + 1, _, _, h => h.elim (fun a => way_ind h1 h2 a) (fun a => h2 _ _ _ (way_ind h1 h2 a.1) (way_ind h1 h2 a.2))
/-- ways through any station -/
def rea (rs : List ru_T) (v u : Nat) : Prop := way (edg rs) 8 v u
theorem rea_tr {rs : List ru_T} {v w u : Nat} (hw : w < 8) (h1 : rea rs v w) (h2 : rea rs w u) : rea rs v u := way_tr hw h1 h2
theorem rea_e {rs : List ru_T} {v u : Nat} (h : edg rs v u) : rea rs v u := way_e h 8
theorem edgS_e {rs : List ru_T} {v u : Nat} (h : edgS rs v u) : edg rs v u := by
  obtain ⟨r, hr, e, l, hl, h1, h2⟩ := h
  exact ⟨r, hr, e, l, hl, by rcases h1 with z | z <;> omega, h2⟩
/-! THE REFERENCE'S REACH -/
/-- cells 38 say E -/
def c38 (μ : mo_U) (E : Nat → Nat → Prop) : Prop := ∀ v u, v < 8 → u < 8 → (μ.2 38 (8 * v + u) = 0 ∨ μ.2 38 (8 * v + u) = 1) ∧ (μ.2 38 (8 * v + u) = 1 ↔ E v u)
theorem c38_set {μ μ' : mo_U} {E : Nat → Nat → Prop} (h : c38 μ E) {v u : Nat} (hv : v < 8) (hu : u < 8) {x : Int32} (hx : x = 0 ∨ x = 1) (e : ∀ j, μ'.2 38 j = if j = 8 * v + u then x else μ.2 38 j) : c38 μ' (fun v' u' => if v' = v ∧ u' = u then x = 1 else E v' u') := fun v' u' h1 h2 => by
  rw [e]
  dsimp only
  by_cases z : v' = v ∧ u' = u
  · rw [if_pos (by rw [z.1, z.2]), if_pos z]
    exact ⟨hx, Iff.rfl⟩
  · rw [if_neg (by omega), if_neg z]
    exact h v' u' h1 h2
theorem c38_c {μ : mo_U} {E E' : Nat → Nat → Prop} (h : c38 μ E) (he : ∀ v u, v < 8 → u < 8 → (E v u ↔ E' v u)) : c38 μ E' := fun v u h1 h2 => ⟨(h v u h1 h2).1, (h v u h1 h2).2.trans (he v u h1 h2)⟩
