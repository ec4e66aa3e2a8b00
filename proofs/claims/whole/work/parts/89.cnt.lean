/-! GROUPS as a sorted list and in their order -/
theorem al_uniq : ∀ {l l' : al_T}, al_s l → al_s l' → (∀ p, p ∈ l ↔ p ∈ l') → l = l'
  | [], [], _, _, _ => rfl
  | [], p :: r, _, _, h => absurd ((h p).mpr List.mem_cons_self) List.not_mem_nil
  | p :: r, [], _, _, h => absurd ((h p).mp List.mem_cons_self) List.not_mem_nil
  | p :: r, q :: s, hs, hs', h => by
    obtain ⟨a1, a2⟩ := List.pairwise_cons.mp hs
    obtain ⟨b1, b2⟩ := List.pairwise_cons.mp hs'
    have hpq : p = q := by
      rcases List.mem_cons.mp ((h p).mp List.mem_cons_self) with e | e
      · exact e
      · rcases List.mem_cons.mp ((h q).mpr List.mem_cons_self) with e' | e'
        · exact e'.symm
        · have := b1 p e
          have := a1 q e'
          omega
    subst hpq
    congr 1
    refine al_uniq a2 b2 (fun y => ⟨fun hy => ?_, fun hy => ?_⟩)
    · rcases List.mem_cons.mp ((h y).mp (List.mem_cons_of_mem _ hy)) with e | e
      · have := a1 y hy; rw [e] at this; omega
      · exact e
    · rcases List.mem_cons.mp ((h y).mpr (List.mem_cons_of_mem _ hy)) with e | e
      · have := b1 y hy; rw [e] at this; omega
      · exact e
theorem al_get_mem {l : al_T} (hs : al_s l) {p : Nat × Int} (hp : p ∈ l) : al_get l p.1 = p.2 := by
  induction l with
  | nil => exact absurd hp List.not_mem_nil
  | cons q r ih =>
    obtain ⟨a1, a2⟩ := List.pairwise_cons.mp hs
    unfold al_get
    rcases List.mem_cons.mp hp with rfl | hp
    · rw [if_pos rfl]
    · have := a1 p hp
      rw [if_neg (by omega)]
      exact ih a2 hp
theorem gcount_mem : ∀ {l : List (Nat × Nat)}, (l.map Prod.fst).Nodup → ∀ {p : Nat × Nat}, p ∈ l → gcount l p.1 = p.2
  | q :: r, hn, p, hp => by
    rw [List.map_cons, List.nodup_cons] at hn
    unfold gcount
    rcases List.mem_cons.mp hp with rfl | hp
    · rw [if_pos rfl]
    · rw [if_neg (fun z => hn.1 (by rw [z]; exact List.mem_map.mpr ⟨p, hp, rfl⟩))]
      exact gcount_mem hn.2 hp
/-- sorted groups and groups in order say the same -/
def gr_R (l : al_T) (G : List (Nat × Nat)) : Prop := (al_s l) ∧ ((G.map Prod.fst).Nodup) ∧ (l.length = G.length) ∧ (∀ k, al_in l k ↔ k ∈ G.map Prod.fst) ∧ (∀ k, al_get l k = gcount G k)
theorem gr_R.s {l : al_T} {G : List (Nat × Nat)} (h' : gr_R l G) : al_s l := h'.1
theorem gr_R.n {l : al_T} {G : List (Nat × Nat)} (h' : gr_R l G) : (G.map Prod.fst).Nodup := h'.2.1
theorem gr_R.len {l : al_T} {G : List (Nat × Nat)} (h' : gr_R l G) : l.length = G.length := h'.2.2.1
theorem gr_R.i {l : al_T} {G : List (Nat × Nat)} (h' : gr_R l G) : ∀ k, al_in l k ↔ k ∈ G.map Prod.fst := h'.2.2.2.1
theorem gr_R.c {l : al_T} {G : List (Nat × Nat)} (h' : gr_R l G) : ∀ k, al_get l k = gcount G k := h'.2.2.2.2
theorem gr_R0 : gr_R [] [] := ⟨List.Pairwise.nil, List.nodup_nil, rfl, fun k => ⟨fun ⟨p, hp, _⟩ => absurd hp List.not_mem_nil, fun h => absurd h List.not_mem_nil⟩, fun k => rfl⟩
theorem gr_R1 {l : al_T} {G : List (Nat × Nat)} (h : gr_R l G) (k : Nat) : gr_R (al_add l k 1) (gad G k) := by
  refine ⟨al_add_s h.s, gad_nd h.n, ?_, fun k' => ?_, fun k' => ?_⟩
  · have e : (gad G k).length = ((gad G k).map Prod.fst).length := by rw [List.length_map]
    rw [e, gad_fst]
    by_cases hk : k ∈ G.map Prod.fst
    · rw [if_pos hk, List.length_map, ← h.len, al_add_old l k 1 h.s ((h.i k).mpr hk), List.length_set]
    · rw [if_neg hk, List.length_append, List.length_map, ← h.len, al_add_len l k 1 h.s (fun z => hk ((h.i k).mp z))]
      rfl
  · rw [al_add_in, h.i, gad_fst]
    split
    · rename_i hk
      exact ⟨fun z => z.elim id (fun y => y ▸ hk), Or.inl⟩
    · rw [List.mem_append, List.mem_singleton]
  · rw [al_get_add h.s, gcount_gad]
    by_cases hk : k' = k
    · rw [if_pos hk, if_pos hk.symm, h.c, hk]; rfl
    · rw [if_neg hk, if_neg (fun z => hk z.symm), h.c]; rfl
theorem gr_Rf : ∀ (K : List Nat) {l : al_T} {G : List (Nat × Nat)}, gr_R l G → gr_R (K.foldl (fun l k => al_add l k 1) l) (K.foldl gad G)
  | [], l, G, h => h
  | k :: K, l, G, h => gr_Rf K (gr_R1 h k)
theorem gr_R_mem {l : al_T} {G : List (Nat × Nat)} (h : gr_R l G) (a : Nat) (b : Int) : (a, b) ∈ l ↔ ∃ n, (a, n) ∈ G ∧ b = (n : Int) := by
  constructor
  · intro hm
    have hi := (h.i a).mp ⟨(a, b), hm, rfl⟩
    obtain ⟨⟨a', n⟩, h1, h2⟩ := List.mem_map.mp hi
    have h2 : a' = a := h2
    subst h2
    have c1 := al_get_mem h.s hm
    have c2 := gcount_mem h.n h1
    have c3 := h.c a'
    exact ⟨n, h1, by rw [← show gcount G a' = n from c2]; rw [← c3]; exact c1.symm⟩
  · rintro ⟨n, hm, rfl⟩
    have hi := (h.i a).mpr (List.mem_map.mpr ⟨(a, n), hm, rfl⟩)
    obtain ⟨⟨a', b⟩, h1, h2⟩ := hi
    have h2 : a' = a := h2
    subst h2
    have c1 : al_get l a' = b := al_get_mem h.s h1
    have c2 : gcount G a' = n := gcount_mem h.n hm
    have c3 := h.c a'
    rw [c1, c2] at c3
    rw [← c3]; exact h1
/-- the groups of the solutions visited -/
def cgl (ts : tm_T) (vs : List ev_T) : al_T := (vs.map (fun x => hk3 x ts)).foldl (fun l k => al_add l k 1) []
theorem cgl_R (ts : tm_T) (vs : List ev_T) : gr_R (cgl ts vs) (grp (vs.map (fun x => hk3 x ts))) := gr_Rf _ gr_R0
theorem cgl_snoc (ts : tm_T) (vs : List ev_T) (x : ev_T) : cgl ts (vs ++ [x]) = al_add (cgl ts vs) (hk3 x ts) 1 := by
  unfold cgl
  rw [List.map_append, List.foldl_append]
  rfl
/-- too many groups, or one too large -/
def ovf (G : List (Nat × Nat)) : Prop := 40 < G.length ∨ ∃ p ∈ G, 999 < p.2
theorem ovf_pre {K K' : List Nat} (h : K <+: K') (ho : ovf (grp K)) : ovf (grp K') := by
  obtain ⟨z, rfl⟩ := h
  have hR := gr_Rf K gr_R0
  have hR' := gr_Rf (K ++ z) gr_R0
  have e : grp (K ++ z) = z.foldl gad (grp K) := by unfold grp; rw [List.foldl_append]
  rcases ho with ho | ⟨p, hp, h9⟩
  · left
    rw [e]
    exact Nat.lt_of_lt_of_le ho (grp_len z (grp K))
  · right
    have hc : gcount (grp (K ++ z)) p.1 = gcount (grp K) p.1 + z.count p.1 := by rw [e]; exact gcount_grp z (grp K) p.1
    have hp2 := gcount_mem hR.n hp
    have hin : p.1 ∈ (grp (K ++ z)).map Prod.fst := by
      by_cases hh : p.1 ∈ (grp (K ++ z)).map Prod.fst
      · exact hh
      · have hz : al_get ((K ++ z).foldl (fun l k => al_add l k 1) []) p.1 = 0 := al_0 (fun y => hh ((hR'.i _).mp y))
        have := hR'.c p.1
        have e2 : gcount ((K ++ z).foldl gad []) p.1 = gcount (grp K) p.1 + z.count p.1 := hc
        rw [hz, e2] at this
        have : gcount (grp K) p.1 = p.2 := hp2
        omega
    obtain ⟨q, hq, e3⟩ := List.mem_map.mp hin
    have hq2 := gcount_mem hR'.n hq
    refine ⟨q, hq, ?_⟩
    have e4 : gcount (grp (K ++ z)) q.1 = q.2 := hq2
    rw [e3, hc] at e4
    have : gcount (grp K) p.1 = p.2 := hp2
    omega
theorem ovf_al {ts : tm_T} {vs : List ev_T} : (40 < (cgl ts vs).length ∨ ∃ p ∈ cgl ts vs, 999 < p.2) ↔ ovf (grp (vs.map (fun x => hk3 x ts))) := by
  have hR := cgl_R ts vs
  unfold ovf
  rw [hR.len]
  refine or_congr Iff.rfl ⟨?_, ?_⟩
  · rintro ⟨⟨a, b⟩, h1, h2⟩
    obtain ⟨n, h3, h4⟩ := (gr_R_mem hR a b).mp h1
    exact ⟨(a, n), h3, by have h2 : 999 < b := h2; show 999 < n; omega⟩
  · rintro ⟨⟨a, n⟩, h1, h2⟩
    exact ⟨(a, (n : Int)), (gr_R_mem hR a n).mpr ⟨n, h1, rfl⟩, by have h2 : 999 < n := h2; show (999 : Int) < n; omega⟩
theorem cgl_pos (ts : tm_T) : ∀ (vs : List ev_T), ∀ p ∈ cgl ts vs, 0 < p.2 := by
  intro vs p hp
  have hR := cgl_R ts vs
  have hk := (hR.i p.1).mp ⟨p, hp, rfl⟩
  have h1 := al_get_mem hR.s hp
  have hin : p.1 ∈ vs.map (fun x => hk3 x ts) := by
    obtain ⟨q, hq, e⟩ := List.mem_map.mp hk
    rcases grp_mem _ [] hq with h | ⟨y, hy, _⟩
    · rw [← e]; exact h
    · exact absurd hy List.not_mem_nil
  have h2 : gcount (grp (vs.map (fun x => hk3 x ts))) p.1 = (vs.map (fun x => hk3 x ts)).count p.1 := by
    have := gcount_grp (vs.map (fun x => hk3 x ts)) [] p.1
    unfold grp
    rw [this]
    simp [gcount]
  have h3 := hR.c p.1
  have h4 : 0 < (vs.map (fun x => hk3 x ts)).count p.1 := List.count_pos_iff.mpr hin
  rw [h1, h2] at h3
  omega
