/-! WHAT RULES OF A TEXT ARE LIKE -/
def nmA (nm A : List Nat) : Prop := (nm.length ≤ 8) ∧ (A.length = nm.length) ∧ (∀ x ∈ nm, 97 ≤ x ∧ x ≤ 122) ∧ (nm.Nodup) ∧ (∀ k, k < nm.length → 1 ≤ A.getD k 0 ∧ A.getD k 0 ≤ 3)
theorem nmA.n8 {nm A : List Nat} (h' : nmA nm A) : nm.length ≤ 8 := h'.1
theorem nmA.al {nm A : List Nat} (h' : nmA nm A) : A.length = nm.length := h'.2.1
theorem nmA.r {nm A : List Nat} (h' : nmA nm A) : ∀ x ∈ nm, 97 ≤ x ∧ x ≤ 122 := h'.2.2.1
theorem nmA.d {nm A : List Nat} (h' : nmA nm A) : nm.Nodup := h'.2.2.2.1
theorem nmA.nz {nm A : List Nat} (h' : nmA nm A) : ∀ k, k < nm.length → 1 ≤ A.getD k 0 ∧ A.getD k 0 ≤ 3 := h'.2.2.2.2
def exA (nm A nm' A' : List Nat) : Prop := (nm.length ≤ nm'.length) ∧ (∀ k, k < nm.length → nm'.getD k 0 = nm.getD k 0) ∧ (∀ k, k < nm.length → A'.getD k 0 = A.getD k 0)
theorem exA.l {nm A nm' A' : List Nat} (h' : exA nm A nm' A') : nm.length ≤ nm'.length := h'.1
theorem exA.n {nm A nm' A' : List Nat} (h' : exA nm A nm' A') : ∀ k, k < nm.length → nm'.getD k 0 = nm.getD k 0 := h'.2.1
theorem exA.a {nm A nm' A' : List Nat} (h' : exA nm A nm' A') : ∀ k, k < nm.length → A'.getD k 0 = A.getD k 0 := h'.2.2
theorem exA_rf (nm A : List Nat) : exA nm A nm A := ⟨Nat.le_refl _, fun _ _ => rfl, fun _ _ => rfl⟩
theorem exA_tr {nm A nm' A' nm'' A'' : List Nat} (h : exA nm A nm' A') (g : exA nm' A' nm'' A'') : exA nm A nm'' A'' := ⟨Nat.le_trans h.l g.l, fun k hk => (g.n k (Nat.lt_of_lt_of_le hk h.l)).trans (h.n k hk), fun k hk => (g.a k (Nat.lt_of_lt_of_le hk h.l)).trans (h.a k hk)⟩
theorem set_gd {A : List Nat} {i x k : Nat} (hi : i < A.length) : (A.set i x).getD k 0 = if k = i then x else A.getD k 0 := by
  rw [List.getD_eq_getElem?_getD, List.getD_eq_getElem?_getD, List.getElem?_set]
  by_cases z : k = i
  · rw [if_pos z.symm, if_pos z, if_pos hi]; rfl
  · rw [if_neg (fun y => z y.symm), if_neg z]
def atm_R (t : tx_T) (hd : Bool) (L0 : Nat → Prop) (nm A : List Nat) (q : Nat) (g : an_T) : Prop := (g.l.length ≤ 3) ∧ (1 ≤ g.l.length) ∧ (plc t g.q) ∧ (g.c = true → hd = true ∧ ∃ l', g.l = l' ++ [99] ∧ ∀ x ∈ l', tOK x) ∧ (g.c = false → ∀ x ∈ g.l, tOK x) ∧ (∀ k, k < 26 → (g.lt k = true ↔ L0 k ∨ k ∈ g.l)) ∧ (rk g.lt 26 ≤ 6) ∧ (nmA g.nm g.A) ∧ (exA nm A g.nm g.A) ∧ (g.i < g.nm.length ∧ g.i < 8) ∧ (g.A.getD g.i 0 = g.l.length)
theorem atm_R.n3 {t : tx_T} {hd : Bool} {L0 : Nat → Prop} {nm A : List Nat} {q : Nat} {g : an_T} (h' : atm_R t hd L0 nm A q g) : g.l.length ≤ 3 := h'.1
theorem atm_R.n1 {t : tx_T} {hd : Bool} {L0 : Nat → Prop} {nm A : List Nat} {q : Nat} {g : an_T} (h' : atm_R t hd L0 nm A q g) : 1 ≤ g.l.length := h'.2.1
theorem atm_R.q {t : tx_T} {hd : Bool} {L0 : Nat → Prop} {nm A : List Nat} {q : Nat} {g : an_T} (h' : atm_R t hd L0 nm A q g) : plc t g.q := h'.2.2.1
theorem atm_R.m {t : tx_T} {hd : Bool} {L0 : Nat → Prop} {nm A : List Nat} {q : Nat} {g : an_T} (h' : atm_R t hd L0 nm A q g) : g.c = true → hd = true ∧ ∃ l', g.l = l' ++ [99] ∧ ∀ x ∈ l', tOK x := h'.2.2.2.1
theorem atm_R.p {t : tx_T} {hd : Bool} {L0 : Nat → Prop} {nm A : List Nat} {q : Nat} {g : an_T} (h' : atm_R t hd L0 nm A q g) : g.c = false → ∀ x ∈ g.l, tOK x := h'.2.2.2.2.1
theorem atm_R.lt {t : tx_T} {hd : Bool} {L0 : Nat → Prop} {nm A : List Nat} {q : Nat} {g : an_T} (h' : atm_R t hd L0 nm A q g) : ∀ k, k < 26 → (g.lt k = true ↔ L0 k ∨ k ∈ g.l) := h'.2.2.2.2.2.1
theorem atm_R.r {t : tx_T} {hd : Bool} {L0 : Nat → Prop} {nm A : List Nat} {q : Nat} {g : an_T} (h' : atm_R t hd L0 nm A q g) : rk g.lt 26 ≤ 6 := h'.2.2.2.2.2.2.1
theorem atm_R.ok {t : tx_T} {hd : Bool} {L0 : Nat → Prop} {nm A : List Nat} {q : Nat} {g : an_T} (h' : atm_R t hd L0 nm A q g) : nmA g.nm g.A := h'.2.2.2.2.2.2.2.1
theorem atm_R.ex {t : tx_T} {hd : Bool} {L0 : Nat → Prop} {nm A : List Nat} {q : Nat} {g : an_T} (h' : atm_R t hd L0 nm A q g) : exA nm A g.nm g.A := h'.2.2.2.2.2.2.2.2.1
theorem atm_R.i {t : tx_T} {hd : Bool} {L0 : Nat → Prop} {nm A : List Nat} {q : Nat} {g : an_T} (h' : atm_R t hd L0 nm A q g) : g.i < g.nm.length ∧ g.i < 8 := h'.2.2.2.2.2.2.2.2.2.1
theorem atm_R.a {t : tx_T} {hd : Bool} {L0 : Nat → Prop} {nm A : List Nat} {q : Nat} {g : an_T} (h' : atm_R t hd L0 nm A q g) : g.A.getD g.i 0 = g.l.length := h'.2.2.2.2.2.2.2.2.2.2
theorem atm_ok {t : tx_T} {hd : Bool} {L0 : Nat → Prop} {nm A : List Nat} {lt : Nat → Bool} {q : Nat} {g : an_T} (hn : nmA nm A) (hl : ∀ k, k < 26 → (lt k = true ↔ L0 k)) (h6 : rk lt 26 ≤ 6) (h : atm t hd nm A lt q = .ok g) : atm_R t hd L0 nm A q g := by
  unfold atm at h
  split at h
  · cases h
  · rename_i g0 hg0
    have hA := arg_ok hl h6 h
    obtain ⟨gi, gi8, _, _⟩ := rel_ok hn.n8 hg0
    -- the names
    have hrel : (g0.nm = nm ∧ g0.A = A) ∨ (g0.i = nm.length ∧ g0.nm = nm ++ [sg t q] ∧ g0.A = A ++ [0] ∧ nm.length ≠ 8 ∧ (97 ≤ sg t q ∧ sg t q ≤ 122) ∧ sg t q ∉ nm) := by
      unfold rel at hg0
      split at hg0
      · rename_i hN
        split at hg0
        · rw [← Except.ok.inj hg0]; exact Or.inl ⟨rfl, rfl⟩
        · rename_i hni
          split at hg0
          · cases hg0
          · rename_i h8
            rw [← Except.ok.inj hg0]
            exact Or.inr ⟨rfl, rfl, rfl, h8, hN, fun z => hni (List.idxOf_lt_length_of_mem z)⟩
      · cases hg0
    have hlen : g0.A.length = g0.nm.length := by
      rcases hrel with ⟨e1, e2⟩ | ⟨_, e1, e2, _⟩
      · rw [e1, e2]; exact hn.al
      · rw [e1, e2, List.length_append, List.length_append, hn.al]; rfl
    have hset : ∀ k, g.A.getD k 0 = if k = g0.i then g.l.length else g0.A.getD k 0 := fun k => by
      rw [hA.A, set_gd (by omega)]
    have hgl : g.A.length = g.nm.length := by rw [hA.A, List.length_set, hA.nm]; exact hlen
    refine ⟨hA.n3, hA.n1, hA.q, hA.m, hA.p, hA.lt, hA.r, ?_, ?_, ⟨by rw [hA.i, hA.nm]; exact gi, by rw [hA.i]; exact gi8⟩, by rw [hset, hA.i, if_pos rfl]⟩
    · have h3 := hA.n3
      have h1 := hA.n1
      rcases hrel with ⟨e1, e2⟩ | ⟨e0, e1, e2, e3, e4, e5⟩
      · refine ⟨by rw [hA.nm, e1]; exact hn.n8, hgl, by rw [hA.nm, e1]; exact hn.r, by rw [hA.nm, e1]; exact hn.d, fun k hk => ?_⟩
        rw [hset]
        split
        · omega
        · rw [hA.nm, e1] at hk; rw [e2]; exact hn.nz k hk
      · have hl1 : (nm ++ [sg t q]).length = nm.length + 1 := by rw [List.length_append]; rfl
        have n8 := hn.n8
        refine ⟨by rw [hA.nm, e1]; omega, hgl, by
          rw [hA.nm, e1]
          intro x hx
          rcases List.mem_append.mp hx with y | y
          · exact hn.r x y
          · rw [List.mem_singleton.mp y]; exact e4, by
          rw [hA.nm, e1]
          exact List.nodup_append.mpr ⟨hn.d, by simp, fun a ha b hb e => e5 (by rw [← List.mem_singleton.mp hb, ← e]; exact ha)⟩, fun k hk => ?_⟩
        rw [hset]
        split
        · omega
        · rename_i hne
          rw [hA.nm, e1] at hk
          rw [e2, gd_sn, hn.al, if_neg (by omega)]
          exact hn.nz k (by omega)
    · rcases hrel with ⟨e1, e2⟩ | ⟨e0, e1, e2, e3, e4, e5⟩
      · refine ⟨by rw [hA.nm, e1]; exact Nat.le_refl _, fun k _ => by rw [hA.nm, e1], fun k hk => ?_⟩
        rw [hset]
        split
        · rename_i he
          rcases hA.a with z | z
          · have := (hn.nz k hk).1
            rw [e2, ← he] at z; omega
          · rw [← z, e2, he]
        · rw [e2]
      · refine ⟨by rw [hA.nm, e1, List.length_append]; omega, fun k hk => by rw [hA.nm, e1, gd_sn, if_neg (by omega)], fun k hk => ?_⟩
        rw [hset, if_neg (by omega), e2, gd_sn, hn.al, if_neg (by omega)]
/-- a literal, and the names -/
def LK (n : Nat) (A : List Nat) (l : lit_T) : Prop := (l.1 ≤ 2 ∧ l.2.1 < 256 ∧ (l.1 ≤ 1 → l.2.1 < 8) ∧ tm3_ok l.2.2 ∧ no_mark l.2.2) ∧ (l.1 ≤ 1 → l.2.1 < n ∧ ∀ i, A.getD l.2.1 0 ≤ i → i < 3 → tmi l.2.2 i = 100) ∧ (l.1 = 2 → tmi l.2.2 2 = 100)
theorem LK.lit {n : Nat} {A : List Nat} {l : lit_T} (h' : LK n A l) : l.1 ≤ 2 ∧ l.2.1 < 256 ∧ (l.1 ≤ 1 → l.2.1 < 8) ∧ tm3_ok l.2.2 ∧ no_mark l.2.2 := h'.1
theorem LK.nm {n : Nat} {A : List Nat} {l : lit_T} (h' : LK n A l) : l.1 ≤ 1 → l.2.1 < n ∧ ∀ i, A.getD l.2.1 0 ≤ i → i < 3 → tmi l.2.2 i = 100 := h'.2.1
theorem LK.cd {n : Nat} {A : List Nat} {l : lit_T} (h' : LK n A l) : l.1 = 2 → tmi l.2.2 2 = 100 := h'.2.2
theorem LK_ex {nm A nm' A' : List Nat} (h : exA nm A nm' A') {l : lit_T} (hl : LK nm.length A l) : LK nm'.length A' l := ⟨hl.lit, fun h1 => ⟨Nat.lt_of_lt_of_le (hl.nm h1).1 h.l, fun i hi h3 => (hl.nm h1).2 i (by rw [← h.a _ (hl.nm h1).1]; exact hi) h3⟩, hl.cd⟩
theorem tm3_rest {l : List Nat} {i : Nat} (h : l.length ≤ i) (h3 : i < 3) : tmi (tm3 l) i = 100 := by
  have hg : tmi (tm3 l) i = l.getD i 100 := by
    rcases (show i = 0 ∨ i = 1 ∨ i = 2 by omega) with rfl | rfl | rfl <;> rfl
  rw [hg, List.getD_eq_getElem?_getD, List.getElem?_eq_none h]
  rfl
def ltl_R (t : tx_T) (nm A : List Nat) (lt : Nat → Bool) (r : lr_T) : Prop := (nmA r.nm r.A) ∧ (exA nm A r.nm r.A) ∧ (LK r.nm.length r.A r.l) ∧ (plc t r.q) ∧ (rk r.lt 26 ≤ 6)
theorem ltl_R.ok {t : tx_T} {nm A : List Nat} {lt : Nat → Bool} {r : lr_T} (h' : ltl_R t nm A lt r) : nmA r.nm r.A := h'.1
theorem ltl_R.ex {t : tx_T} {nm A : List Nat} {lt : Nat → Bool} {r : lr_T} (h' : ltl_R t nm A lt r) : exA nm A r.nm r.A := h'.2.1
theorem ltl_R.k {t : tx_T} {nm A : List Nat} {lt : Nat → Bool} {r : lr_T} (h' : ltl_R t nm A lt r) : LK r.nm.length r.A r.l := h'.2.2.1
theorem ltl_R.q {t : tx_T} {nm A : List Nat} {lt : Nat → Bool} {r : lr_T} (h' : ltl_R t nm A lt r) : plc t r.q := h'.2.2.2.1
theorem ltl_R.r6 {t : tx_T} {nm A : List Nat} {lt : Nat → Bool} {r : lr_T} (h' : ltl_R t nm A lt r) : rk r.lt 26 ≤ 6 := h'.2.2.2.2
theorem nmd_ok {t : tx_T} {k0 : Nat} (hk : k0 ≤ 1) {nm A : List Nat} {lt : Nat → Bool} {q : Nat} {r : lr_T} (hn : nmA nm A) (h6 : rk lt 26 ≤ 6) (h : nmd t k0 nm A lt q = .ok r) : ltl_R t nm A lt r := by
  unfold nmd at h
  split at h
  · cases h
  · rename_i g hg
    have hR := atm_ok (L0 := fun k => lt k = true) hn (fun k _ => Iff.rfl) h6 hg
    have hc : g.c = false := by
      cases hcc : g.c with
      | false => rfl
      | true => exact absurd (hR.m hcc).1 (by decide)
    obtain ⟨o1, o2⟩ := tOK_3 (hR.p hc)
    rw [← Except.ok.inj h]
    refine ⟨hR.ok, hR.ex, ⟨⟨by show k0 ≤ 2; omega, by show g.i < 256; have := hR.i.2; omega, fun _ => hR.i.2, o1, o2⟩, fun _ => ⟨hR.i.1, fun i hi h3 => ?_⟩, fun z => absurd (show k0 = 2 from z) (by omega)⟩, hR.q, hR.r⟩
    have hi : g.A.getD g.i 0 ≤ i := hi
    rw [hR.a] at hi
    exact tm3_rest hi h3
theorem ltl_ok {t : tx_T} {ls : List lit_T} {nm A : List Nat} {lt : Nat → Bool} {q : Nat} {r : lr_T} (hq : plc t q) (hn : nmA nm A) (h6 : rk lt 26 ≤ 6) (h : ltl t ls nm A lt q = .ok r) : ltl_R t nm A lt r ∧ (r.l.1 = 0 → (ps_of ls).length ≠ 3) := by
  unfold ltl at h
  split at h
  · split at h
    · cases h
    · rename_i hr
      split at h
      · rename_i hN
        exact ⟨nmd_ok (by decide) hn h6 h, fun _ z => hr (Or.inr ⟨hN, z⟩)⟩
      · split at h
        · refine ⟨nmd_ok (by decide) hn h6 h, fun z => ?_⟩
          unfold nmd at h
          split at h
          · cases h
          · rw [← Except.ok.inj h] at z
            exact absurd (show 1 = 0 from z) (by decide)
        · unfold cnd at h
          split at h
          · cases h
          · rename_i r1 h1
            obtain ⟨t1, t2, t3, t4⟩ := trm_ok hq h1
            split at h
            · rename_i hop
              have hop' : sg t r1.q < 256 := by omega
              split at h
              · cases h
              · rename_i r2 h2
                obtain ⟨u1, u2, u3, u4⟩ := trm_ok (plc_st (sg_lt (rfl : sg t r1.q = sg t r1.q) hop')) h2
                obtain ⟨o1, o2⟩ := tOK_3 (l := [r1.x, r2.x]) (fun x hx => by
                  rcases List.mem_cons.mp hx with z | z
                  · rw [z]; exact t1
                  · rw [List.mem_singleton.mp z]; exact u1)
                rw [← Except.ok.inj h]
                exact ⟨⟨hn, exA_rf nm A, ⟨⟨Nat.le_refl _, hop', fun z => absurd (show 2 ≤ 1 from z) (by decide), o1, o2⟩, fun z => absurd (show 2 ≤ 1 from z) (by decide), fun _ => rfl⟩, u2, u4 (t4 h6)⟩, fun z => absurd (show 2 = 0 from z) (by decide)⟩
            · cases h
  · cases h
