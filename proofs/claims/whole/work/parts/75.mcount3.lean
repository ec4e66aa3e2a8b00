def ck (mk : Nat) (p : Nat × Nat) : Nat := p.1 + p.2 * wt mk
/-- the number's place in the row is 0 -/
def gz (mk g : Nat) : Prop := g < 1000000000 ∧ g % 1000 = 0 ∧ dg g mk = 0
theorem ck_pk {mk g n : Nat} (hmk : mk < 3) (hg : gz mk g) : pk3 (if mk = 0 then n else g / 1000000) (if mk = 1 then n else g / 1000 % 1000) (if mk = 2 then n else 0) = ck mk (g, n) := by
  obtain ⟨h1, h2, h3⟩ := hg
  unfold pk3 ck wt
  unfold dg at h3
  rcases (show mk = 0 ∨ mk = 1 ∨ mk = 2 by omega) with rfl | rfl | rfl
  · simp at h3 ⊢
    omega
  · simp at h3 ⊢
    omega
  · simp at h3 ⊢
    omega
theorem ck_inj {mk : Nat} {p q : Nat × Nat} (hmk : mk < 3) (hp : gz mk p.1) (hq : gz mk q.1) (h1 : p.2 ≤ 999) (h2 : q.2 ≤ 999) (h : ck mk p = ck mk q) : p.1 = q.1 := by
  obtain ⟨a1, a2, a3⟩ := hp
  obtain ⟨b1, b2, b3⟩ := hq
  unfold ck wt at h
  unfold dg at a3 b3
  rcases (show mk = 0 ∨ mk = 1 ∨ mk = 2 by omega) with rfl | rfl | rfl
  · simp at a3 b3 h
    omega
  · simp at a3 b3 h
    omega
  · simp at a3 b3 h
    omega
theorem ck_nd {mk : Nat} (hmk : mk < 3) : ∀ {l : List (Nat × Nat)}, (l.map Prod.fst).Nodup → (∀ p ∈ l, gz mk p.1 ∧ p.2 ≤ 999) → (l.map (ck mk)).Nodup
  | [], _, _ => List.nodup_nil
  | p :: l, hn, hg => by
    rw [List.map_cons, List.nodup_cons] at hn ⊢
    refine ⟨fun q => ?_, ck_nd hmk hn.2 (fun q hq => hg q (List.mem_cons_of_mem _ hq))⟩
    obtain ⟨q, hq, he⟩ := List.mem_map.mp q
    obtain ⟨a1, a2⟩ := hg p List.mem_cons_self
    obtain ⟨b1, b2⟩ := hg q (List.mem_cons_of_mem _ hq)
    exact hn.1 (List.mem_map.mpr ⟨q, hq, ck_inj hmk b1 a1 b2 a2 he⟩)
theorem fold_no {x : Nat} : ∀ (ks : List Nat) (l : al_T), al_in (ks.foldl (fun l k => al_add l k 1) l) x → al_in l x ∨ x ∈ ks
  | [], l, q => Or.inl q
  | k :: ks, l, q => by
    rcases fold_no ks _ q with ⟨p, hp, he⟩ | q
    · rcases al_add_mem hp with g | g
      · exact Or.inl ⟨p, g, he⟩
      · rw [g] at he
        exact Or.inr (by rw [he]; exact List.mem_cons_self)
    · exact Or.inr (List.mem_cons_of_mem _ q)
theorem grp_nd : ∀ (ks : List Nat) (l : List (Nat × Nat)), (l.map Prod.fst).Nodup → ((ks.foldl gad l).map Prod.fst).Nodup
  | [], l, h => h
  | k :: ks, l, h => grp_nd ks (gad l k) (gad_nd h)
theorem gad_mem {l : List (Nat × Nat)} {g : Nat} {q : Nat × Nat} (h : q ∈ gad l g) : q.1 = g ∨ ∃ p ∈ l, p.1 = q.1 := by
  have : q.1 ∈ (gad l g).map Prod.fst := List.mem_map.mpr ⟨q, h, rfl⟩
  rw [gad_fst] at this
  split at this
  · obtain ⟨p, hp, he⟩ := List.mem_map.mp this
    exact Or.inr ⟨p, hp, he⟩
  · rcases List.mem_append.mp this with this | this
    · obtain ⟨p, hp, he⟩ := List.mem_map.mp this
      exact Or.inr ⟨p, hp, he⟩
    · exact Or.inl (by simpa using this)
theorem grp_mem : ∀ (ks : List Nat) (l : List (Nat × Nat)) {q : Nat × Nat}, q ∈ ks.foldl gad l → q.1 ∈ ks ∨ ∃ p ∈ l, p.1 = q.1
  | [], l, q, h => Or.inr ⟨q, h, rfl⟩
  | k :: ks, l, q, h => by
    rcases grp_mem ks (gad l k) h with g | ⟨p, hp, he⟩
    · exact Or.inl (List.mem_cons_of_mem _ g)
    · rcases gad_mem hp with g | ⟨p', hp', he'⟩
      · exact Or.inl (by rw [← he, g]; exact List.mem_cons_self)
      · exact Or.inr ⟨p', hp', he'.trans he⟩
