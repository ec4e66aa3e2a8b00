/-! A BATCH: sums of changes -/
def csum (cs : sl_T) (d : Int) (v k : Nat) : Int := match cs with
  | [] => 0
  | c :: r => (if c.1 = v ∧ c.2.1 = k then d * c.2.2 else 0) + csum r d v k
def cadd (d : Int) (T : Nat → al_T) (c : Nat × Nat × Int) : Nat → al_T := tset T c.1 (al_add (T c.1) c.2.1 (d * c.2.2))
def cT (T : Nat → al_T) (cs : sl_T) (d : Int) : Nat → al_T := cs.foldl (cadd d) T
theorem cadd_get {d : Int} {T : Nat → al_T} (hs : ∀ v, al_s (T v)) (c : Nat × Nat × Int) (v k : Nat) : al_get (cadd d T c v) k = al_get (T v) k + if c.1 = v ∧ c.2.1 = k then d * c.2.2 else 0 := by
  unfold cadd tset
  by_cases hv : v = c.1
  · rw [if_pos hv, al_get_add (hs _), hv]
    by_cases hk : k = c.2.1
    · rw [if_pos hk, if_pos ⟨rfl, hk.symm⟩, hk]
    · rw [if_neg hk, if_neg (fun z => hk z.2.symm), Int.add_zero]
  · rw [if_neg hv, if_neg (fun z => hv z.1.symm), Int.add_zero]
theorem cadd_s {d : Int} {T : Nat → al_T} (hs : ∀ v, al_s (T v)) (c : Nat × Nat × Int) : ∀ v, al_s (cadd d T c v) := fun v => by
  unfold cadd tset
  split
  · exact al_add_s (hs _)
  · exact hs v
theorem cadd_in {d : Int} {T : Nat → al_T} (c : Nat × Nat × Int) (v k : Nat) : al_in (cadd d T c v) k ↔ al_in (T v) k ∨ (c.1 = v ∧ c.2.1 = k) := by
  unfold cadd tset
  by_cases hv : v = c.1
  · rw [if_pos hv, al_add_in, hv]
    exact or_congr Iff.rfl ⟨fun z => ⟨rfl, z.symm⟩, fun z => z.2.symm⟩
  · rw [if_neg hv]
    exact ⟨Or.inl, fun z => z.elim id (fun y => absurd y.1.symm hv)⟩
theorem al_add_le (l : al_T) (key : Nat) (d : Int) : (al_add l key d).length ≤ l.length + 1 := by
  induction l with
  | nil => exact Nat.le_refl _
  | cons p r ih =>
    unfold al_add
    split
    · simp only [List.length_cons]; omega
    · split
      · simp
      · simp
theorem al_add_k {l : al_T} {key : Nat} {d : Int} (h : al_k l) (hk : key < 1000000000) : al_k (al_add l key d) := fun p hp => by
  rcases al_add_mem hp with z | z
  · exact h p z
  · rw [z]; exact hk
def cT_ok (T T' : Nat → al_T) (cs : sl_T) (d : Int) : Prop := (∀ v, al_s (T' v)) ∧ (∀ v, al_k (T' v)) ∧ (∀ v k, al_get (T' v) k = al_get (T v) k + csum cs d v k) ∧ (∀ v k, al_in (T' v) k ↔ al_in (T v) k ∨ ∃ c ∈ cs, c.1 = v ∧ c.2.1 = k) ∧ (∀ v, (T' v).length ≤ (T v).length + cs.length) ∧ (∀ v, (∀ c ∈ cs, c.1 ≠ v) → T' v = T v)
theorem cT_ok.s {T T' : Nat → al_T} {cs : sl_T} {d : Int} (h' : cT_ok T T' cs d) : ∀ v, al_s (T' v) := h'.1
theorem cT_ok.k {T T' : Nat → al_T} {cs : sl_T} {d : Int} (h' : cT_ok T T' cs d) : ∀ v, al_k (T' v) := h'.2.1
theorem cT_ok.g {T T' : Nat → al_T} {cs : sl_T} {d : Int} (h' : cT_ok T T' cs d) : ∀ v k, al_get (T' v) k = al_get (T v) k + csum cs d v k := h'.2.2.1
theorem cT_ok.i {T T' : Nat → al_T} {cs : sl_T} {d : Int} (h' : cT_ok T T' cs d) : ∀ v k, al_in (T' v) k ↔ al_in (T v) k ∨ ∃ c ∈ cs, c.1 = v ∧ c.2.1 = k := h'.2.2.2.1
theorem cT_ok.l {T T' : Nat → al_T} {cs : sl_T} {d : Int} (h' : cT_ok T T' cs d) : ∀ v, (T' v).length ≤ (T v).length + cs.length := h'.2.2.2.2.1
theorem cT_ok.o {T T' : Nat → al_T} {cs : sl_T} {d : Int} (h' : cT_ok T T' cs d) : ∀ v, (∀ c ∈ cs, c.1 ≠ v) → T' v = T v := h'.2.2.2.2.2
theorem cT_all {d : Int} : ∀ {cs : sl_T} {T : Nat → al_T}, (∀ v, al_s (T v)) → (∀ v, al_k (T v)) → (∀ c ∈ cs, c.2.1 < 1000000000) → cT_ok T (cT T cs d) cs d
  | [], T, hs, hk, _ => ⟨hs, hk, fun v k => (Int.add_zero _).symm, fun v k => ⟨Or.inl, fun z => z.elim id (fun ⟨c, hc, _⟩ => absurd hc List.not_mem_nil)⟩, fun v => Nat.le_refl _, fun v _ => rfl⟩
  | c :: cs, T, hs, hk, hc => by
    have hk' : ∀ v, al_k (cadd d T c v) := fun v => by
      unfold cadd tset
      split
      · exact al_add_k (hk _) (hc c List.mem_cons_self)
      · exact hk v
    have ih := cT_all (d := d) (cs := cs) (T := cadd d T c) (cadd_s hs c) hk' (fun c' h' => hc c' (List.mem_cons_of_mem _ h'))
    refine ⟨ih.s, ih.k, fun v k => ?_, fun v k => ?_, fun v => ?_, fun v hv => ?_⟩
    · have := ih.g v k
      rw [cadd_get hs] at this
      show al_get (cT (cadd d T c) cs d v) k = al_get (T v) k + ((if c.1 = v ∧ c.2.1 = k then d * c.2.2 else 0) + csum cs d v k)
      rw [this, Int.add_assoc]
    · have := ih.i v k
      rw [cadd_in] at this
      show al_in (cT (cadd d T c) cs d v) k ↔ _
      rw [this]
      constructor
      · rintro ((z | z) | ⟨c', h1, h2⟩)
        · exact Or.inl z
        · exact Or.inr ⟨c, List.mem_cons_self, z⟩
        · exact Or.inr ⟨c', List.mem_cons_of_mem _ h1, h2⟩
      · rintro (z | ⟨c', h1, h2⟩)
        · exact Or.inl (Or.inl z)
        · rcases List.mem_cons.mp h1 with e | h1
          · rw [e] at h2; exact Or.inl (Or.inr h2)
          · exact Or.inr ⟨c', h1, h2⟩
    · have h1 := ih.l v
      have h2 : (cadd d T c v).length ≤ (T v).length + 1 := by
        unfold cadd tset
        split
        · rename_i e; rw [e]; exact al_add_le _ _ _
        · omega
      show (cT (cadd d T c) cs d v).length ≤ _
      rw [List.length_cons]
      omega
    · show cT (cadd d T c) cs d v = T v
      rw [ih.o v (fun c' h' => hv c' (List.mem_cons_of_mem _ h'))]
      unfold cadd tset
      rw [if_neg (fun z => hv c List.mem_cons_self z.symm)]
theorem csum_bd {d : Int} (hd : d = 1 ∨ d = -1) : ∀ {cs : sl_T}, (∀ c ∈ cs, c.2.2 = 1 ∨ c.2.2 = -1) → ∀ v k, -(cs.length : Int) ≤ csum cs d v k ∧ csum cs d v k ≤ cs.length
  | [], _, v, k => ⟨Int.le_refl _, Int.le_refl _⟩
  | c :: cs, h, v, k => by
    have ih := csum_bd hd (cs := cs) (fun c' h' => h c' (List.mem_cons_of_mem _ h')) v k
    have hc := h c List.mem_cons_self
    have e : csum (c :: cs) d v k = (if c.1 = v ∧ c.2.1 = k then d * c.2.2 else 0) + csum cs d v k := rfl
    have hb : -1 ≤ (if c.1 = v ∧ c.2.1 = k then d * c.2.2 else 0) ∧ (if c.1 = v ∧ c.2.1 = k then d * c.2.2 else 0) ≤ 1 := by
      split
      · rcases hd with rfl | rfl <;> rcases hc with z | z <;> rw [z] <;> decide
      · decide
    rw [e, List.length_cons]
    omega
/-- a list by its counts -/
theorem al_gext {l l' : al_T} (hs : al_s l) (hs' : al_s l') (hp : ∀ p ∈ l, 0 < p.2) (hp' : ∀ p ∈ l', 0 < p.2) (h : ∀ k, al_get l k = al_get l' k) : l = l' := by
  refine al_uniq hs hs' (fun p => ?_)
  have key : ∀ {a b : al_T}, al_s a → al_s b → (∀ p ∈ a, 0 < p.2) → (∀ p ∈ b, 0 < p.2) → (∀ k, al_get a k = al_get b k) → p ∈ a → p ∈ b := by
    intro a b ha hb hpa hpb hg hm
    have h1 := al_get_mem ha hm
    have h2 := hpa p hm
    have h3 := (al_get_pos (l := b) (key := p.1) hpb).1.mp (by rw [← hg, h1]; exact h2)
    obtain ⟨q, hq, e⟩ := h3
    have h4 := al_get_mem hb hq
    rw [e, ← hg, h1] at h4
    have : p = q := Prod.ext e.symm h4
    rw [this]; exact hq
  exact ⟨key hs hs' hp hp' h, key hs' hs hp' hp (fun k => (h k).symm)⟩
theorem al_ps_get {l : al_T} (hs : al_s l) (h0 : ∀ p ∈ l, 0 ≤ p.2) (k : Nat) : al_get (al_ps l) k = al_get l k := by
  induction l with
  | nil => rfl
  | cons p r ih =>
    obtain ⟨a1, a2⟩ := List.pairwise_cons.mp hs
    have ih := ih a2 (fun q hq => h0 q (List.mem_cons_of_mem _ hq))
    have hp := h0 p List.mem_cons_self
    unfold al_ps
    by_cases hz : 0 < p.2
    · rw [List.filter_cons_of_pos (by simpa using hz)]
      unfold al_get
      split
      · rfl
      · exact ih
    · rw [List.filter_cons_of_neg (by simpa using hz)]
      show al_get (al_ps r) k = al_get (p :: r) k
      rw [ih]
      conv => rhs; unfold al_get
      split
      · rename_i e
        have hz0 : p.2 = 0 := by omega
        rw [hz0]
        refine al_0 (fun ⟨q, hq, e2⟩ => ?_)
        have := a1 q hq
        omega
      · rfl
theorem al_ps_pos (l : al_T) : ∀ p ∈ al_ps l, 0 < p.2 := fun p hp => by simpa using (List.mem_filter.mp hp).2
/-- the batch keeps counts within 0 .. 9 -/
def bOk (T : Nat → al_T) (cs : sl_T) (d : Int) : Prop := ∀ c ∈ cs, 0 ≤ al_get (T c.1) c.2.1 + csum cs d c.1 c.2.1 ∧ al_get (T c.1) c.2.1 + csum cs d c.1 c.2.1 ≤ 9
theorem csum_0 {d : Int} : ∀ {cs : sl_T} {v k : Nat}, (∀ c ∈ cs, ¬ (c.1 = v ∧ c.2.1 = k)) → csum cs d v k = 0
  | [], _, _, _ => rfl
  | c :: cs, v, k, h => by
    show (if c.1 = v ∧ c.2.1 = k then _ else 0) + csum cs d v k = 0
    rw [if_neg (h c List.mem_cons_self), csum_0 (fun c' h' => h c' (List.mem_cons_of_mem _ h'))]
    rfl
/-- tables: counts 1 to 9 -/
def tb9 (G : pg_T) (T : Nat → al_T) : Prop := ∀ v, G.vw v = false → ∀ p ∈ T v, 1 ≤ p.2 ∧ p.2 ≤ 9
theorem bOk_iff {T T' : Nat → al_T} {cs : sl_T} {d : Int} (h : cT_ok T T' cs d) {v : Nat} (h9 : ∀ p ∈ T v, 1 ≤ p.2 ∧ p.2 ≤ 9) : (∀ p ∈ T' v, 0 ≤ p.2 ∧ p.2 ≤ 9) ↔ ∀ c ∈ cs, c.1 = v → 0 ≤ al_get (T v) c.2.1 + csum cs d v c.2.1 ∧ al_get (T v) c.2.1 + csum cs d v c.2.1 ≤ 9 := by
  constructor
  · intro hp c hc hv
    obtain ⟨p, hp1, hp2⟩ := (h.i v c.2.1).mpr (Or.inr ⟨c, hc, hv, rfl⟩)
    have h1 := al_get_mem (h.s v) hp1
    have h2 := hp p hp1
    rw [hp2, h.g] at h1
    rw [h1]; exact h2
  · intro hc p hp
    have h1 := al_get_mem (h.s v) hp
    rw [h.g] at h1
    by_cases z : ∃ c ∈ cs, c.1 = v ∧ c.2.1 = p.1
    · obtain ⟨c, hc1, hc2, hc3⟩ := z
      have := hc c hc1 hc2
      rw [hc3, h1] at this
      exact this
    · rw [csum_0 (fun c hc1 hc2 => z ⟨c, hc1, hc2⟩), Int.add_zero] at h1
      have hin := ((h.i v p.1).mp ⟨p, hp, rfl⟩).resolve_right z
      obtain ⟨q, hq1, hq2⟩ := hin
      have : 1 ≤ p.2 ∧ p.2 ≤ 9 := by
        rw [← h1]
        have hb := al_get_bd (l := T v) (key := p.1) (M := 9) (by decide) (fun p hp => ⟨by have := h9 p hp; omega, (h9 p hp).2⟩)
        have hpos := (al_get_pos (l := T v) (key := p.1) (fun p hp => by have := h9 p hp; omega)).1.mpr ⟨q, hq1, hq2⟩
        omega
      omega
/-- the tables behind the batch -/
def bT (G : pg_T) (T : Nat → al_T) (cs : sl_T) (d : Int) : Nat → al_T := fun v => if G.vw v then T v else al_ps (cT T cs d v)
def bFull (G : pg_T) (T : Nat → al_T) (cs : sl_T) (d : Int) : Prop := ∃ v, v < G.n ∧ G.vw v = false ∧ 40 < (bT G T cs d v).length
/-- differences of one view -/
def dmg : Nat → List Nat → List Nat → List (Nat × Int)
  | 0, _, _ => []
  | _ + 1, [], [] => []
  | f + 1, a :: l, [] => (a, -1) :: dmg f l []
  | f + 1, [], b :: l' => (b, 1) :: dmg f [] l'
  | f + 1, a :: l, b :: l' => if a < b then (a, -1) :: dmg f l (b :: l') else if b < a then (b, 1) :: dmg f (a :: l) l' else dmg f l l'
theorem dmg_len : ∀ (f : Nat) (l l' : List Nat), (dmg f l l').length ≤ l.length + l'.length
  | 0, _, _ => Nat.zero_le _
  | _ + 1, [], [] => Nat.zero_le _
  | f + 1, a :: l, [] => by
    have := dmg_len f l []
    simp only [dmg, List.length_cons] at this ⊢
    omega
  | f + 1, [], b :: l' => by
    have := dmg_len f [] l'
    simp only [dmg, List.length_cons] at this ⊢
    omega
  | f + 1, a :: l, b :: l' => by
    have h1 := dmg_len f l (b :: l')
    have h2 := dmg_len f (a :: l) l'
    have h3 := dmg_len f l l'
    simp only [dmg]
    split
    · simp only [List.length_cons] at h1 h2 h3 ⊢; omega
    · split
      · simp only [List.length_cons] at h1 h2 h3 ⊢; omega
      · simp only [List.length_cons] at h1 h2 h3 ⊢; omega
/-- more turns than rows change nothing -/
theorem dmg_ge : ∀ (f f' : Nat) (l l' : List Nat), l.length + l'.length ≤ f → l.length + l'.length ≤ f' → dmg f l l' = dmg f' l l'
  | 0, 0, _, _, _, _ => rfl
  | 0, f' + 1, [], [], _, _ => rfl
  | f + 1, 0, [], [], _, _ => rfl
  | 0, f' + 1, a :: l, l', h, _ => by simp only [List.length_cons] at h; omega
  | f + 1, 0, a :: l, l', _, h => by simp only [List.length_cons] at h; omega
  | 0, f' + 1, [], b :: l', h, _ => by simp only [List.length_cons] at h; omega
  | f + 1, 0, [], b :: l', _, h => by simp only [List.length_cons] at h; omega
  | f + 1, f' + 1, [], [], _, _ => rfl
  | f + 1, f' + 1, a :: l, [], h, h' => by
    simp only [dmg]
    rw [dmg_ge f f' l [] (by simp only [List.length_cons, List.length_nil] at h ⊢; omega) (by simp only [List.length_cons, List.length_nil] at h' ⊢; omega)]
  | f + 1, f' + 1, [], b :: l', h, h' => by
    simp only [dmg]
    rw [dmg_ge f f' [] l' (by simp only [List.length_cons, List.length_nil] at h ⊢; omega) (by simp only [List.length_cons, List.length_nil] at h' ⊢; omega)]
  | f + 1, f' + 1, a :: l, b :: l', h, h' => by
    simp only [dmg]
    rw [dmg_ge f f' l (b :: l') (by simp only [List.length_cons] at h ⊢; omega) (by simp only [List.length_cons] at h' ⊢; omega), dmg_ge f f' (a :: l) l' (by simp only [List.length_cons] at h ⊢; omega) (by simp only [List.length_cons] at h' ⊢; omega), dmg_ge f f' l l' (by simp only [List.length_cons] at h ⊢; omega) (by simp only [List.length_cons] at h' ⊢; omega)]
def df1 (T T' : Nat → al_T) (v : Nat) : sl_T := (dmg 80 (ks T v) (ks T' v)).map (fun p => (v, p.1, p.2))
def dff (G : pg_T) (T T' : Nat → al_T) : Nat → sl_T
  | 0 => []
  | v + 1 => dff G T T' v ++ if G.vw v then df1 T T' v else []
theorem dff_len {G : pg_T} {T T' : Nat → al_T} (h : ∀ v, (T v).length ≤ 40) (h' : ∀ v, (T' v).length ≤ 40) : ∀ n, (dff G T T' n).length ≤ 80 * n
  | 0 => Nat.zero_le _
  | v + 1 => by
    have ih := dff_len (G := G) h h' v
    have e : (dff G T T' (v + 1)).length = (dff G T T' v).length + (if G.vw v then df1 T T' v else []).length := by
      show (dff G T T' v ++ _).length = _
      rw [List.length_append]
    have : (if G.vw v then df1 T T' v else []).length ≤ 80 := by
      split
      · unfold df1
        rw [List.length_map]
        have := dmg_len 80 (ks T v) (ks T' v)
        rw [ks_len, ks_len] at this
        have := h v
        have := h' v
        omega
      · exact Nat.zero_le _
    omega
