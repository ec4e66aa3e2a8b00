/-! WHAT RULES SAY: values of variables, literals, solutions in their order -/
abbrev ev_T : Type := Nat → Option Nat
abbrev tm_T : Type := Nat × Nat × Nat
abbrev lit_T : Type := Nat × Nat × tm_T
def ev0 : ev_T := fun _ => none
def ev_set (e : ev_T) (t v : Nat) : ev_T := fun k => if k = t then some v else e k
/-- a term (below 26 a variable, 100 and more a number, 99 the mark) against a value -/
def un1 (e : ev_T) (t v : Nat) : Option ev_T := if 26 ≤ t then (if t = 100 + v then some e else none) else match e t with
  | none => some (ev_set e t v)
  | some w => if w = v then some e else none
def un3 (e : ev_T) (ts : tm_T) (key : Nat) : Option ev_T := (un1 e ts.1 (key / 1000000)).bind fun e1 => (un1 e1 ts.2.1 (key / 1000 % 1000)).bind fun e2 => un1 e2 ts.2.2 (key % 1000)
def tv (e : ev_T) (t : Nat) : Nat := if 26 ≤ t then t - 100 else (e t).getD 0
def hk3 (e : ev_T) (ts : tm_T) : Nat := pk3 (tv e ts.1) (tv e ts.2.1) (tv e ts.2.2)
/-- a NEGATIVE literal or a CONDITION (60 <, 61 =, else !) -/
def tst (S : Nat → List Nat) (e : ev_T) (l : lit_T) : Bool := if l.1 = 1 then decide (hk3 e l.2.2 ∉ S l.2.1) else if l.2.1 = 60 then decide (tv e l.2.2.1 < tv e l.2.2.2.1) else if l.2.1 = 61 then decide (tv e l.2.2.1 = tv e l.2.2.2.1) else decide (tv e l.2.2.1 ≠ tv e l.2.2.2.1)
/-- solutions, literals in their order -/
def sols (S : Nat → List Nat) : List lit_T → ev_T → List ev_T
  | [], e => [e]
  | l :: ls, e => if l.1 = 0 then (S l.2.1).flatMap (fun key => match un3 e l.2.2 key with
      | some e' => sols S ls e'
      | none => []) else if tst S e l then sols S ls e else []
def ps_of (ls : List lit_T) : List lit_T := ls.filter (fun l => l.1 = 0)
def ts_of (ls : List lit_T) : List lit_T := ls.filter (fun l => ¬ l.1 = 0)
def vin (t k : Nat) : Prop := t = k ∧ k < 26
def vin3 (ts : tm_T) (k : Nat) : Prop := k < 26 ∧ (ts.1 = k ∨ ts.2.1 = k ∨ ts.2.2 = k)
def ext (e e' : ev_T) : Prop := ∀ k v, e k = some v → e' k = some v
theorem ext_rf (e : ev_T) : ext e e := fun _ _ h => h
theorem ext_tr {a b c : ev_T} (h1 : ext a b) (h2 : ext b c) : ext a c := fun k v h => h2 k v (h1 k v h)
theorem un1_ext {e e' : ev_T} {t v : Nat} (h : un1 e t v = some e') : ext e e' ∧ (t < 26 → e' t = some v) ∧ (26 ≤ t → t = 100 + v) ∧ (∀ k, e' k ≠ none → e k ≠ none ∨ (k = t ∧ t < 26)) := by
  unfold un1 at h
  split at h
  · rename_i h26
    split at h
    · rename_i hv
      cases h
      exact ⟨ext_rf e, fun q => by omega, fun _ => hv, fun k hk => Or.inl hk⟩
    · cases h
  · rename_i h26
    cases he : e t with
    | none =>
      rw [he] at h
      cases h
      refine ⟨fun k w hk => ?_, fun _ => by simp [ev_set], fun q => by omega, fun k hk => ?_⟩
      · simp only [ev_set]
        split
        · rename_i hkt
          rw [hkt, he] at hk
          cases hk
        · exact hk
      · by_cases g : k = t
        · exact Or.inr ⟨g, by omega⟩
        · simp only [ev_set, if_neg g] at hk
          exact Or.inl hk
    | some w =>
      rw [he] at h
      dsimp only at h
      split at h
      · rename_i hw
        cases h
        exact ⟨ext_rf e, fun _ => by rw [he, hw], fun q => by omega, fun k hk => Or.inl hk⟩
      · cases h
theorem un3_some {e e' : ev_T} {ts : tm_T} {key : Nat} (h : un3 e ts key = some e') : ∃ e1 e2, un1 e ts.1 (key / 1000000) = some e1 ∧ un1 e1 ts.2.1 (key / 1000 % 1000) = some e2 ∧ un1 e2 ts.2.2 (key % 1000) = some e' := by
  unfold un3 at h
  obtain ⟨e1, h1, h⟩ := Option.bind_eq_some_iff.mp h
  obtain ⟨e2, h2, h⟩ := Option.bind_eq_some_iff.mp h
  exact ⟨e1, e2, h1, h2, h⟩
theorem un3_ext {e e' : ev_T} {ts : tm_T} {key : Nat} (h : un3 e ts key = some e') : ext e e' := by
  obtain ⟨e1, e2, h1, h2, h3⟩ := un3_some h
  exact ext_tr (un1_ext h1).1 (ext_tr (un1_ext h2).1 (un1_ext h3).1)
theorem un3_bound {e e' : ev_T} {ts : tm_T} {key k : Nat} (h : un3 e ts key = some e') (hk : vin3 ts k) : e' k ≠ none := by
  obtain ⟨e1, e2, h1, h2, h3⟩ := un3_some h
  obtain ⟨a1, b1, _, _⟩ := un1_ext h1
  obtain ⟨a2, b2, _, _⟩ := un1_ext h2
  obtain ⟨a3, b3, _, _⟩ := un1_ext h3
  obtain ⟨hk26, rfl | rfl | rfl⟩ := hk
  · rw [a3 _ _ (a2 _ _ (b1 hk26))]
    simp
  · rw [a3 _ _ (b2 hk26)]
    simp
  · rw [b3 hk26]
    simp
theorem un3_only {e e' : ev_T} {ts : tm_T} {key k : Nat} (h : un3 e ts key = some e') (hk : e' k ≠ none) : e k ≠ none ∨ vin3 ts k := by
  obtain ⟨e1, e2, h1, h2, h3⟩ := un3_some h
  rcases (un1_ext h3).2.2.2 k hk with g | ⟨g, g2⟩
  · rcases (un1_ext h2).2.2.2 k g with g | ⟨g, g2⟩
    · rcases (un1_ext h1).2.2.2 k g with g | ⟨g, g2⟩
      · exact Or.inl g
      · exact Or.inr ⟨by omega, Or.inl g.symm⟩
    · exact Or.inr ⟨by omega, Or.inr (Or.inl g.symm)⟩
  · exact Or.inr ⟨by omega, Or.inr (Or.inr g.symm)⟩
theorem tv_ext {e e' : ev_T} (h : ext e e') {t : Nat} (ht : t < 26 → e t ≠ none) : tv e' t = tv e t := by
  unfold tv
  split
  · rfl
  · rename_i h26
    cases he : e t with
    | none => exact absurd he (ht (by omega))
    | some v => rw [h t v he]
theorem un3_key {e e' : ev_T} {ts : tm_T} {key : Nat} (h : un3 e ts key = some e') : hk3 e' ts = key := by
  obtain ⟨e1, e2, h1, h2, h3⟩ := un3_some h
  obtain ⟨a1, b1, c1, _⟩ := un1_ext h1
  obtain ⟨a2, b2, c2, _⟩ := un1_ext h2
  obtain ⟨a3, b3, c3, _⟩ := un1_ext h3
  have v1 : tv e' ts.1 = key / 1000000 := by
    unfold tv
    split
    · rename_i g
      have := c1 g
      omega
    · rename_i g
      rw [a3 _ _ (a2 _ _ (b1 (by omega)))]
      rfl
  have v2 : tv e' ts.2.1 = key / 1000 % 1000 := by
    unfold tv
    split
    · rename_i g
      have := c2 g
      omega
    · rename_i g
      rw [a3 _ _ (b2 (by omega))]
      rfl
  have v3 : tv e' ts.2.2 = key % 1000 := by
    unfold tv
    split
    · rename_i g
      have := c3 g
      omega
    · rename_i g
      rw [b3 (by omega)]
      rfl
  unfold hk3 pk3
  rw [v1, v2, v3]
  omega
theorem sols_ext {S : Nat → List Nat} : ∀ {ls : List lit_T} {e x : ev_T}, x ∈ sols S ls e → ext e x
  | [], e, x, h => by
    simp only [sols, List.mem_singleton] at h
    rw [h]
    exact ext_rf e
  | l :: ls, e, x, h => by
    simp only [sols] at h
    split at h
    · obtain ⟨key, -, hx⟩ := List.mem_flatMap.mp h
      cases hu : un3 e l.2.2 key with
      | none =>
        rw [hu] at hx
        cases hx
      | some e' =>
        rw [hu] at hx
        exact ext_tr (un3_ext hu) (sols_ext hx)
    · split at h
      · exact sols_ext h
      · cases h
theorem tst_ext {S : Nat → List Nat} {e e' : ev_T} (h : ext e e') {l : lit_T} (hl : ∀ k, vin3 l.2.2 k → e k ≠ none) : tst S e' l = tst S e l := by
  have h1 : tv e' l.2.2.1 = tv e l.2.2.1 := tv_ext h (fun q => hl _ ⟨q, Or.inl rfl⟩)
  have h2 : tv e' l.2.2.2.1 = tv e l.2.2.2.1 := tv_ext h (fun q => hl _ ⟨q, Or.inr (Or.inl rfl)⟩)
  have h3 : tv e' l.2.2.2.2 = tv e l.2.2.2.2 := tv_ext h (fun q => hl _ ⟨q, Or.inr (Or.inr rfl)⟩)
  have hh : hk3 e' l.2.2 = hk3 e l.2.2 := by
    unfold hk3
    rw [h1, h2, h3]
  unfold tst
  rw [hh, h1, h2]
/-- each test stands behind the literals that bind its variables -/
def tests_ok : List lit_T → (Nat → Prop) → Prop
  | [], _ => True
  | l :: ls, B => if l.1 = 0 then tests_ok ls (fun k => B k ∨ vin3 l.2.2 k) else (∀ k, vin3 l.2.2 k → B k) ∧ tests_ok ls B
def alltests (S : Nat → List Nat) (ls : List lit_T) (x : ev_T) : Bool := (ts_of ls).all (fun l => tst S x l)
/-- tests may stand at the end as well -/
theorem sols_split {S : Nat → List Nat} : ∀ (ls : List lit_T) (e : ev_T) (B : Nat → Prop), (∀ k, B k → e k ≠ none) → tests_ok ls B → sols S ls e = (sols S (ps_of ls) e).filter (alltests S ls)
  | [], e, B, _, _ => by simp [sols, ps_of, alltests, ts_of]
  | l :: ls, e, B, hB, hok => by
    simp only [tests_ok] at hok
    by_cases h0 : l.1 = 0
    · rw [if_pos h0] at hok
      have e1 : ps_of (l :: ls) = l :: ps_of ls := by simp [ps_of, h0]
      have e2 : alltests S (l :: ls) = alltests S ls := by
        funext x
        simp [alltests, ts_of, h0]
      rw [e1, e2]
      simp only [sols, if_pos h0, List.filter_flatMap]
      refine congrArg (fun f => List.flatMap f (S l.2.1)) ?_
      funext key
      cases hu : un3 e l.2.2 key with
      | none => simp
      | some e' =>
        refine sols_split ls e' (fun k => B k ∨ vin3 l.2.2 k) (fun k hk => ?_) hok
        rcases hk with hk | hk
        · have := hB k hk
          cases he : e k with
          | none => exact absurd he this
          | some v =>
            rw [un3_ext hu k v he]
            simp
        · exact un3_bound hu hk
    · rw [if_neg h0] at hok
      have e1 : ps_of (l :: ls) = ps_of ls := by simp [ps_of, h0]
      have ih := sols_split (S := S) ls e B hB hok.2
      rw [e1]
      simp only [sols, if_neg h0]
      have hsame : ∀ x ∈ sols S (ps_of ls) e, tst S x l = tst S e l := fun x hx => tst_ext (sols_ext hx) (fun k hk => hB k (hok.1 k hk))
      by_cases ht : tst S e l = true
      · rw [if_pos ht, ih]
        refine List.filter_congr (fun x hx => ?_)
        simp [alltests, ts_of, h0, hsame x hx, ht]
      · rw [if_neg ht]
        symm
        rw [List.filter_eq_nil_iff]
        intro x hx
        simp [alltests, ts_of, h0, hsame x hx, ht]

/-! variables that are bound before -/
def mg (e h : ev_T) : ev_T := fun k => match e k with
  | some v => some v
  | none => h k
def cpt (e h : ev_T) : Prop := ∀ k v w, e k = some v → h k = some w → v = w
theorem mg_some {e h : ev_T} {k v : Nat} (he : e k = some v) : mg e h k = some v := by simp [mg, he]
theorem mg_none {e h : ev_T} {k : Nat} (he : e k = none) : mg e h k = h k := by simp [mg, he]
theorem mg_ev0 (h : ev_T) : mg ev0 h = h := by
  funext k
  exact mg_none rfl
theorem cpt_ev0 (h : ev_T) : cpt ev0 h := fun k v w q => by cases q
theorem cpt_ext {e e' h : ev_T} (he : ext e e') (hc : cpt e' h) : cpt e h := fun k v w h1 h2 => hc k v w (he k v h1) h2
theorem mg_full {e h : ev_T} (hd : ∀ k, h k ≠ none → e k ≠ none) : mg e h = e := by
  funext k
  cases he : e k with
  | some v => exact mg_some he
  | none =>
    rw [mg_none he]
    cases hh : h k with
    | none => rfl
    | some w => exact absurd he (hd k (by rw [hh]; simp))
/-- one term: with h before, or h held against it behind -/
theorem un1_mg {e h : ev_T} (hc : cpt e h) (t v : Nat) : (∀ e', un1 e t v = some e' → cpt e' h → un1 (mg e h) t v = some (mg e' h)) ∧ (∀ e', un1 e t v = some e' → ¬ cpt e' h → un1 (mg e h) t v = none) ∧ (un1 e t v = none → un1 (mg e h) t v = none) := by
  unfold un1
  by_cases h26 : 26 ≤ t
  · simp only [if_pos h26]
    by_cases hv : t = 100 + v
    · simp only [if_pos hv]
      refine ⟨fun e' q _ => by cases q; rfl, fun e' q q2 => by cases q; exact absurd hc q2, fun q => by cases q⟩
    · simp only [if_neg hv]
      exact ⟨fun e' q => by (cases q), fun e' q => by (cases q), fun _ => trivial⟩
  · simp only [if_neg h26]
    cases he : e t with
    | some w =>
      rw [mg_some he]
      dsimp only
      by_cases hw : w = v
      · simp only [if_pos hw]
        exact ⟨fun e' q _ => by cases q; rfl, fun e' q q2 => by cases q; exact absurd hc q2, fun q => by cases q⟩
      · simp only [if_neg hw]
        exact ⟨fun e' q => by (cases q), fun e' q => by (cases q), fun _ => trivial⟩
    | none =>
      rw [mg_none he]
      cases hh : h t with
      | none =>
        dsimp only
        have hcs : cpt (ev_set e t v) h := by
          intro k a b h1 h2
          by_cases g : k = t
          · rw [g, hh] at h2
            cases h2
          · simp only [ev_set, if_neg g] at h1
            exact hc k a b h1 h2
        refine ⟨fun e' q _ => ?_, fun e' q q2 => ?_, fun q => by cases q⟩
        · cases q
          congr 1
          funext k
          by_cases g : k = t
          · rw [mg_some (v := v) (by simp [ev_set, g])]
            simp [ev_set, g]
          · simp only [ev_set, mg, if_neg g]
        · cases q
          exact absurd hcs q2
      | some w =>
        dsimp only
        by_cases hw : w = v
        · subst hw
          simp only [if_pos]
          have hcs : cpt (ev_set e t w) h := by
            intro k a b h1 h2
            by_cases g : k = t
            · rw [g, hh] at h2
              simp only [ev_set, if_pos g] at h1
              cases h1
              cases h2
              rfl
            · simp only [ev_set, if_neg g] at h1
              exact hc k a b h1 h2
          refine ⟨fun e' q _ => ?_, fun e' q q2 => ?_, fun q => by cases q⟩
          · cases q
            congr 1
            funext k
            by_cases g : k = t
            · subst g
              rw [mg_none he, hh]
              simp [mg, ev_set]
            · simp only [ev_set, mg, if_neg g]
          · cases q
            exact absurd hcs q2
        · simp only [if_neg hw]
          refine ⟨fun e' q q2 => ?_, fun e' q _ => trivial, fun q => by cases q⟩
          cases q
          exact absurd (q2 t v w (by simp [ev_set]) hh).symm hw
theorem un3_mg {e h : ev_T} (hc : cpt e h) (ts : tm_T) (key : Nat) : (∀ e', un3 e ts key = some e' → cpt e' h → un3 (mg e h) ts key = some (mg e' h)) ∧ (∀ e', un3 e ts key = some e' → ¬ cpt e' h → un3 (mg e h) ts key = none) ∧ (un3 e ts key = none → un3 (mg e h) ts key = none) := by
  have a1 := un1_mg hc ts.1 (key / 1000000)
  unfold un3
  cases q1 : un1 e ts.1 (key / 1000000) with
  | none =>
    rw [a1.2.2 q1]
    exact ⟨fun e' q => by (cases q), fun e' q => by (cases q), fun _ => rfl⟩
  | some e1 =>
    by_cases c1 : cpt e1 h
    · rw [a1.1 e1 q1 c1]
      dsimp only [Option.bind_some]
      have a2 := un1_mg c1 ts.2.1 (key / 1000 % 1000)
      cases q2 : un1 e1 ts.2.1 (key / 1000 % 1000) with
      | none =>
        rw [a2.2.2 q2]
        exact ⟨fun e' q => by (cases q), fun e' q => by (cases q), fun _ => rfl⟩
      | some e2 =>
        by_cases c2 : cpt e2 h
        · rw [a2.1 e2 q2 c2]
          dsimp only [Option.bind_some]
          exact un1_mg c2 ts.2.2 (key % 1000)
        · rw [a2.2.1 e2 q2 c2]
          dsimp only [Option.bind_some, Option.bind_none]
          refine ⟨fun e' q c3 => ?_, fun e' _ _ => rfl, fun _ => rfl⟩
          exact absurd (cpt_ext (un1_ext q).1 c3) c2
    · rw [a1.2.1 e1 q1 c1]
      dsimp only [Option.bind_some, Option.bind_none]
      refine ⟨fun e' q c3 => ?_, fun e' _ _ => rfl, fun _ => rfl⟩
      obtain ⟨e2, q2, q3⟩ := Option.bind_eq_some_iff.mp q
      exact absurd (cpt_ext (ext_tr (un1_ext q2).1 (un1_ext q3).1) c3) c1
