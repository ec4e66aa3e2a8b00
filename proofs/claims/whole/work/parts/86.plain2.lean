/-! the search for rows of a plain rule -/
abbrev lyr : Type := (List ru_T) × (Nat → Nat) × (Nat) × (Nat → Nat) × (Nat → al_T)
abbrev lyr.rs (x : lyr) : List ru_T := x.1
abbrev lyr.lay (x : lyr) : Nat → Nat := x.2.1
abbrev lyr.L (x : lyr) : Nat := x.2.2.1
abbrev lyr.A (x : lyr) : Nat → Nat := x.2.2.2.1
abbrev lyr.T0 (x : lyr) : Nat → al_T := x.2.2.2.2
abbrev IV (Y : lyr) (g : gs_T) : Prop := Iv Y.rs Y.lay Y.L Y.A Y.T0 g
abbrev CL (Y : lyr) (S : Nat → List Nat) : Prop := Cl Y.rs Y.lay Y.L (ks Y.T0) S
def pOk (Y : lyr) (r : ru_T) (as : List lit_T) (step : Nat) (e : ev_T) (g : gs_T) : Prop := (tests_ok (as.drop step) (fun k => e k ≠ none)) ∧ (∀ k, vin3 r.ts k → e k ≠ none ∨ ∃ l ∈ as.drop step, l.1 = 0 ∧ vin3 l.2.2 k) ∧ (∀ S, CL Y S → ∀ x ∈ sols S (as.drop step) e, hk3 x r.ts ∈ S r.h) ∧ (IV Y g)
theorem pOk.t {Y : lyr} {r : ru_T} {as : List lit_T} {step : Nat} {e : ev_T} {g : gs_T} (h' : pOk Y r as step e g) : tests_ok (as.drop step) (fun k => e k ≠ none) := h'.1
theorem pOk.b {Y : lyr} {r : ru_T} {as : List lit_T} {step : Nat} {e : ev_T} {g : gs_T} (h' : pOk Y r as step e g) : ∀ k, vin3 r.ts k → e k ≠ none ∨ ∃ l ∈ as.drop step, l.1 = 0 ∧ vin3 l.2.2 k := h'.2.1
theorem pOk.c {Y : lyr} {r : ru_T} {as : List lit_T} {step : Nat} {e : ev_T} {g : gs_T} (h' : pOk Y r as step e g) : ∀ S, CL Y S → ∀ x ∈ sols S (as.drop step) e, hk3 x r.ts ∈ S r.h := h'.2.2.1
theorem pOk.i {Y : lyr} {r : ru_T} {as : List lit_T} {step : Nat} {e : ev_T} {g : gs_T} (h' : pOk Y r as step e g) : IV Y g := h'.2.2.2
def pPo (Y : lyr) (r : ru_T) (as : List lit_T) (step : Nat) (e : ev_T) (g g' : gs_T) : Prop := le_g r.h g g' ∧ IV Y g' ∧ (g'.fl = true ∨ ∀ x ∈ sols (ks g.T) (as.drop step) e, hk3 x r.ts ∈ ks g'.T r.h)
def pLP (Y : lyr) (r : ru_T) (as : List lit_T) (step : Nat) (e : ev_T) (g0 g : gs_T) (at' : Nat) : Prop := le_g r.h g0 g ∧ IV Y g ∧ (g.fl = true ∨ ∀ key ∈ ks g0.T (as.getD step d_lit).2.1, ((g.T (as.getD step d_lit).2.1).length ≤ at' ∨ key < ((g.T (as.getD step d_lit).2.1).getD at' (0, 0)).1) → ∀ e', un3 e (as.getD step d_lit).2.2 key = some e' → ∀ x ∈ sols (ks g0.T) (as.drop (step + 1)) e', hk3 x r.ts ∈ ks g.T r.h)
def pNw (r : ru_T) (e : ev_T) (g : gs_T) : Prop := ¬ ((∀ k, vin3 r.ts k → e k ≠ none) ∧ hk3 e r.ts ∈ ks g.T r.h)
def pJ (X : ex_T) (Y : lyr) (σ0 : z_S) (ro : Nat) (g : gs_T) (σ : z_S) : Prop := es X 0 g σ ∧ ef X σ0 σ ∧ (∀ f, z_R σ f X.a = z_R σ0 f X.a) ∧ z_R σ0 110 X.a = some ro ∧ IV Y g
theorem al_pos {l : al_T} (hs : al_s l) {key : Nat} (h : al_in l key) : al_b l key < l.length ∧ (l.getD (al_b l key) (0, 0)).1 = key := (al_in_b hs).mp h
theorem al_pos_lt {l : al_T} (hs : al_s l) {i j : Nat} (hj : j < l.length) (h : i < j) : (l.getD i (0, 0)).1 < (l.getD j (0, 0)).1 := by
  have := List.pairwise_iff_getElem.mp hs i j (by omega) hj h
  rw [gd_eq _ _ (by omega), gd_eq _ _ hj]
  exact this
/-- a key below the next place, or where no place is left, stands at or before this one -/
theorem al_upto {l : al_T} (hs : al_s l) {key at' : Nat} (h : al_in l key) (hn : l.length ≤ at' + 1 ∨ key < (l.getD (at' + 1) (0, 0)).1) : al_b l key ≤ at' := by
  obtain ⟨h1, h2⟩ := al_pos hs h
  by_cases g : al_b l key ≤ at'
  · exact g
  · rcases hn with hn | hn
    · omega
    · have := al_gd_le hs (i := at' + 1) (j := al_b l key) (by omega) h1
      omega
theorem p_step {Y : lyr} {r : ru_T} {as : List lit_T} {step : Nat} {e : ev_T} {g0 g g' : gs_T} {at' : Nat} (hlt : step < as.length) (hLP : pLP Y r as step e g0 g at') (hle : le_g r.h g g') (hI' : IV Y g') (hat : at' < (g.T (as.getD step d_lit).2.1).length) (hcur : g'.fl = true ∨ ∀ e', un3 e (as.getD step d_lit).2.2 ((g.T (as.getD step d_lit).2.1).getD at' (0, 0)).1 = some e' → ∀ x ∈ sols (ks g0.T) (as.drop (step + 1)) e', hk3 x r.ts ∈ ks g'.T r.h) (hfl : g.fl = true → g'.fl = true) : pLP Y r as step e g0 g' (at' + 1) := by
  obtain ⟨h1, h2, h3⟩ := hLP
  refine ⟨le_g_tr h1 hle, hI', ?_⟩
  rcases hcur with hcur | hcur
  · exact Or.inl hcur
  · rcases h3 with h3 | h3
    · exact Or.inl (hfl h3)
    · refine Or.inr (fun key hkey hpos e' hu x hx => ?_)
      have hin' := ks_in.mp (hle.s _ _ (h1.s _ _ hkey))
      have hb' := al_upto (hI'.srt _).1 hin' hpos
      have hb := hle.b (as.getD step d_lit).2.1 key
      have hin := ks_in.mp (h1.s _ _ hkey)
      obtain ⟨p1, p2⟩ := al_pos (h2.srt _).1 hin
      by_cases hq : al_b (g.T (as.getD step d_lit).2.1) key = at'
      · rw [hq] at p2
        exact hcur e' (by rw [p2]; exact hu) x hx
      · have := al_pos_lt (h2.srt _).1 hat (show al_b (g.T (as.getD step d_lit).2.1) key < at' by omega)
        exact hle.s _ _ (h3 key hkey (Or.inr (by omega)) e' hu x hx)
theorem drop_mem {as : List lit_T} {n : Nat} {l : lit_T} (h : l ∈ as.drop n) : l ∈ as := List.mem_of_mem_drop h
theorem gd_mem {as : List lit_T} {i : Nat} (h : i < as.length) : as.getD i d_lit ∈ as := by
  rw [gd_eq _ _ h]; exact List.getElem_mem h
/-- found: one row more -/
theorem Iv_add {Y : lyr} {r : ru_T} (hr : ru_ok r) (hL : Y.lay r.h = Y.L) {n : Nat} (hn : n = Y.A r.h) (hrs : ∀ i, n ≤ i → i < 3 → tmi r.ts i = 100) {g : gs_T} (hI : IV Y g) (hfl : g.fl = false) {e : ev_T} (he : ev_ok e) (hno : ¬ hk3 e r.ts ∈ ks g.T r.h) (hsnd : ∀ S, CL Y S → hk3 e r.ts ∈ S r.h) : IV Y ⟨tset g.T r.h (al_add (g.T r.h) (hk3 e r.ts) 1), g.q ++ [(r.h, hk3 e r.ts)], decide (40 < (al_add (g.T r.h) (hk3 e r.ts) 1).length)⟩ ∧ le_g r.h g ⟨tset g.T r.h (al_add (g.T r.h) (hk3 e r.ts) 1), g.q ++ [(r.h, hk3 e r.ts)], decide (40 < (al_add (g.T r.h) (hk3 e r.ts) 1).length)⟩ := by
  have hh := hr.hh
  have hno' : ¬ al_in (g.T r.h) (hk3 e r.ts) := fun z => hno (ks_in.mpr z)
  have hlen := al_add_len (g.T r.h) (hk3 e r.ts) 1 (hI.srt r.h).1 hno'
  have hkar := kar_hk he hr.hts hrs
  have htv : ∀ v, tset g.T r.h (al_add (g.T r.h) (hk3 e r.ts) 1) v = if v = r.h then al_add (g.T r.h) (hk3 e r.ts) 1 else g.T v := fun v => rfl
  have hks : ∀ v k, k ∈ ks (tset g.T r.h (al_add (g.T r.h) (hk3 e r.ts) 1)) v ↔ k ∈ ks g.T v ∨ (v = r.h ∧ k = hk3 e r.ts) := fun v k => by
    rw [ks_in, ks_in, htv]
    by_cases hv : v = r.h
    · rw [if_pos hv, al_add_in, hv]
      exact ⟨fun z => z.imp id (fun y => ⟨rfl, y⟩), fun z => z.imp id (fun y => y.2)⟩
    · rw [if_neg hv]
      exact ⟨Or.inl, fun z => z.elim id (fun y => absurd y.1 hv)⟩
  constructor
  · refine ⟨fun v hv => ?_, fun v => ?_, fun v hv => ?_, fun v hv p hp => ?_, fun hf v hv => ?_, fun v hv => ?_, fun v hv hl p hp => ?_, fun S hS v k hk => ?_, fun hf => ⟨fun v k hv => ?_, ?_⟩, fun p hp => ?_, fun hf => ⟨r.h, hh, hL, ?_⟩⟩
    · show tset _ _ _ v = []
      rw [htv, if_neg (by omega)]; exact hI.t8 v hv
    · show al_s (tset _ _ _ v) ∧ al_k (tset _ _ _ v)
      rw [htv]
      split
      · refine ⟨al_add_s (hI.srt r.h).1, fun p hp => ?_⟩
        rcases al_add_mem hp with h | h
        · exact (hI.srt r.h).2 p h
        · rw [h]; exact hkar.1
      · exact hI.srt v
    · show tset _ _ _ v = _
      rw [htv, if_neg (fun z => hv (by rw [z]; exact hL))]; exact hI.lo v hv
    · change p ∈ tset _ _ _ v at hp
      rw [htv] at hp
      split at hp
      · rename_i hv2
        rcases al_add_mem hp with h | h
        · rw [hv2]; exact hI.kr r.h hh p h
        · rw [h, hv2, ← hn]; exact hkar
      · exact hI.kr v hv p hp
    · show (tset _ _ _ v).length ≤ 40
      rw [htv]
      split
      · have := of_decide_eq_false hf; omega
      · exact hI.c40 hfl v hv
    · show (tset _ _ _ v).length ≤ 41
      rw [htv]
      split
      · have := hI.c40 hfl r.h hh; omega
      · exact hI.m41 v hv
    · change p ∈ tset _ _ _ v at hp
      rw [htv] at hp
      split at hp
      · rcases al_add_one hno' p hp with h | h
        · exact hI.one r.h hh hL p h
        · rw [h]
      · exact hI.one v hv hl p hp
    · rcases (hks v k).mp hk with h | ⟨h1, h2⟩
      · exact hI.snd S hS v k h
      · rw [h1, h2]; exact hsnd S hS
    · rw [hks, (hI.qq hfl).1 v k hv]
      show _ ↔ (v, k) ∈ g.q ++ [(r.h, hk3 e r.ts)]
      rw [List.mem_append, List.mem_singleton, Prod.mk.injEq]
    · show (g.q ++ [(r.h, hk3 e r.ts)]).length ≤ tot (tset _ _ _)
      rw [List.length_append, tot_set hh hlen]
      have := (hI.qq hfl).2
      simpa using this
    · rcases List.mem_append.mp hp with h | h
      · exact hI.qv p h
      · rw [List.mem_singleton.mp h]; exact ⟨hh, hL⟩
    · show 40 < (tset _ _ _ r.h).length
      rw [htv, if_pos rfl]
      exact of_decide_eq_true hf
  · refine ⟨fun v k => ?_, fun v k hk => (hks v k).mpr (Or.inl hk), ⟨_, rfl⟩, fun v hv => ?_⟩
    · show _ ≤ al_b (tset _ _ _ v) k
      rw [htv]
      split
      · rename_i hv; rw [hv]; exact al_b_add _ _ _ _ (hI.srt r.h).1
      · exact Nat.le_refl _
    · show tset _ _ _ v = _
      rw [htv, if_neg hv]
