/-! THE SEARCH IN ORDER: each solution is visited, in the order of the list, until the end is called -/
abbrev gv_T : Type := (List ev_T) × (Bool)
abbrev gv_T.vs (x : gv_T) : List ev_T := x.1
abbrev gv_T.fl (x : gv_T) : Bool := x.2
def fPo (S : Nat → List Nat) (as : List lit_T) (step : Nat) (e : ev_T) (g g' : gv_T) : Prop := ∃ us, g'.vs = g.vs ++ us ∧ us <+: sols S (as.drop step) e ∧ (g'.fl = false → us = sols S (as.drop step) e) ∧ (g.fl = true → us = [] ∧ g'.fl = true)
def fstp (S : Nat → List Nat) (as : List lit_T) (step : Nat) (e : ev_T) (key : Nat) : List ev_T := match un3 e (as.getD step d_lit).2.2 key with
  | some e' => sols S (as.drop (step + 1)) e'
  | none => []
def fLP (S : Nat → List Nat) (as : List lit_T) (step : Nat) (e : ev_T) (g0 g : gv_T) (at' : Nat) : Prop := ∃ us, g.vs = g0.vs ++ us ∧ us <+: sols S (as.drop step) e ∧ (g.fl = false → us = ((S (as.getD step d_lit).2.1).take at').flatMap (fstp S as step e)) ∧ (g0.fl = true → us = [] ∧ g.fl = true)
def fOk (r : ru_T) (as : List lit_T) (step : Nat) (e : ev_T) : Prop := (tests_ok (as.drop step) (fun k => e k ≠ none)) ∧ (∀ k, vin3 r.ts k → e k ≠ none ∨ ∃ l ∈ as.drop step, l.1 = 0 ∧ vin3 l.2.2 k)
theorem fOk.t {r : ru_T} {as : List lit_T} {step : Nat} {e : ev_T} (h' : fOk r as step e) : tests_ok (as.drop step) (fun k => e k ≠ none) := h'.1
theorem fOk.b {r : ru_T} {as : List lit_T} {step : Nat} {e : ev_T} (h' : fOk r as step e) : ∀ k, vin3 r.ts k → e k ≠ none ∨ ∃ l ∈ as.drop step, l.1 = 0 ∧ vin3 l.2.2 k := h'.2
theorem f_sols {S : Nat → List Nat} {as : List lit_T} {step : Nat} {e : ev_T} (hlt : step < as.length) (h0 : (as.getD step d_lit).1 = 0) : sols S (as.drop step) e = (S (as.getD step d_lit).2.1).flatMap (fstp S as step e) := by
  rw [drop_cons as hlt]
  conv => lhs; unfold sols
  rw [if_pos h0]
  rfl
theorem f_none {S : Nat → List Nat} {as : List lit_T} {step : Nat} {e : ev_T} : ∀ (K : List Nat), (∀ k ∈ K, un3 e (as.getD step d_lit).2.2 k = none) → K.flatMap (fstp S as step e) = []
  | [], _ => rfl
  | k :: K, h => by
    rw [List.flatMap_cons, f_none K (fun k' hk' => h k' (List.mem_cons_of_mem _ hk'))]
    unfold fstp
    rw [h k List.mem_cons_self]
    rfl
theorem ks_gd {T : Nat → al_T} {v i : Nat} (h : i < (T v).length) : (ks T v)[i]'(by unfold ks; rw [List.length_map]; exact h) = ((T v).getD i (0, 0)).1 := by
  rw [gd_eq _ _ h]
  unfold ks
  rw [List.getElem_map]
theorem ks_len (T : Nat → al_T) (v : Nat) : (ks T v).length = (T v).length := by unfold ks; rw [List.length_map]
theorem ks_take {T : Nat → al_T} {v at' : Nat} (h : at' < (T v).length) : (ks T v).take (at' + 1) = (ks T v).take at' ++ [((T v).getD at' (0, 0)).1] := by
  rw [List.take_succ_eq_append_getElem (by rw [ks_len]; exact h), ks_gd h]
theorem pre_tr {α : Type} {a b c : List α} (h : a <+: b) (g : b <+: c) : a <+: c := List.IsPrefix.trans h g
theorem f_pre {S : Nat → List Nat} {as : List lit_T} {step : Nat} {e : ev_T} (hlt : step < as.length) (h0 : (as.getD step d_lit).1 = 0) (n : Nat) : ((S (as.getD step d_lit).2.1).take n).flatMap (fstp S as step e) <+: sols S (as.drop step) e := by
  rw [f_sols hlt h0]
  refine ⟨((S (as.getD step d_lit).2.1).drop n).flatMap (fstp S as step e), ?_⟩
  rw [← List.flatMap_append, List.take_append_drop]
theorem f_sv {X : ex_T} {σ0 : z_S} {ro bb : Nat} {A bo : Nat → Nat} {r : ru_T} {as : List lit_T} {T0 : Nat → al_T} {J : gv_T → z_S → Prop} {T : gv_T → Nat → al_T} {ALL : List ev_T} (hB : bd_L σ0 ro as A bb bo)
    (hen : ∀ g σ, J g σ → en_T X σ ∧ rw_L X σ (T g) ∧ ef X σ0 σ ∧ z_R σ 110 X.a = some ro ∧ z_R σ 111 X.a = some X.w ∧ z_I σ 108 X.a = (if g.fl then 1 else 0))
    (hcp : ∀ g σ, J g σ → cpos (T g) ∧ ∀ v, v < 8 → ∀ p ∈ T g v, kar (A v) p.1)
    (hvf : ∀ g σ σ', J g σ → vf X σ σ' → J g σ')
    (hT : ∀ g, ∀ l ∈ as, l.1 ≤ 1 → T g l.2.1 = T0 l.2.1)
    (hnn : ∀ g σ e P, J g σ → eV X σ e → P 0 σ → kp_En_isNothingNew X.a σ P)
    (hfo : ∀ g σ e P, J g σ → g.fl = false → (∃ suf, g.vs ++ (e :: suf) = ALL) → (∀ k, vin3 r.ts k → e k ≠ none) → eV X σ e → (∀ fl' σ', J ⟨g.vs ++ [e], fl'⟩ σ' → eV X σ' e → P σ') → kp_En_found X.a σ P) :
    sv_H X ro bb as A bo J T (fun g => g.fl) (fun step e g => fOk r as step e ∧ (g.fl = false → ∃ suf, g.vs ++ (sols (ks T0) (as.drop step) e ++ suf) = ALL)) (fPo (ks T0) as) (fLP (ks T0) as) (fun _ _ _ => True) := by
  have htst : ∀ {g : gv_T} {e : ev_T} {l : lit_T}, l ∈ as → tst (ks (T g)) e l = tst (ks T0) e l := fun {g e l} hl => by
    unfold tst
    by_cases h1 : l.1 = 1
    · rw [if_pos h1, if_pos h1]
      unfold ks
      rw [hT g l hl (by omega)]
    · rw [if_neg h1, if_neg h1]
  refine ⟨?_, ?_, ?_, ?_, ?_, ?_, ?_, ?_, ?_, ?_, ?_, ?_, ?_⟩
  · intro g σ hJ
    obtain ⟨h1, h2, h3, h4, h5, h6⟩ := hen g σ hJ
    exact ⟨h1, h2, bd_L_ef hB h3, h4, h5, h6⟩
  · exact hcp
  · exact hvf
  · intro g σ step e P hJ hfl hOk hs he h0 h1
    exact hnn g σ e P hJ he (h0 trivial)
  · intro g σ e P hJ hfl hOk _ he hP
    have hfl : g.fl = false := hfl
    refine hfo g σ e P hJ hfl ?_ (fun k hk => ?_) he (fun fl' σ' hJ' he' => hP _ σ' hJ' he' ⟨[e], rfl, ?_, fun _ => ?_, fun z => ?_⟩)
    · obtain ⟨suf, hs⟩ := hOk.2 hfl
      rw [List.drop_length] at hs
      exact ⟨suf, hs⟩
    · rcases hOk.1.b k hk with h | ⟨l, hl, _⟩
      · exact h
      · rw [List.drop_length] at hl; exact absurd hl List.not_mem_nil
    · rw [List.drop_length]; simp [sols]
    · rw [List.drop_length]; simp [sols]
    · rw [hfl] at z; cases z
  · intro step e g hfl hOk
    have hfl : g.fl = true := hfl
    exact ⟨[], (List.append_nil _).symm, ⟨_, rfl⟩, fun z => (by rw [hfl] at z; cases z), fun _ => ⟨rfl, hfl⟩⟩
  · intro step e g hOk hlt h0 k hk
    have ht := hOk.1.t
    rw [drop_cons as hlt] at ht
    unfold tests_ok at ht
    rw [if_neg h0] at ht
    exact ht.1 k hk
  · intro step e g hOk hlt h0 htt
    have hd := drop_cons as hlt
    rw [htst (gd_mem hlt)] at htt
    have hs : sols (ks T0) (as.drop step) e = sols (ks T0) (as.drop (step + 1)) e := by
      rw [hd]
      conv => lhs; unfold sols
      rw [if_neg h0, htt, if_pos rfl]
    refine ⟨⟨⟨?_, fun k hk => ?_⟩, fun hfl => ?_⟩, fun g' hPo => ?_⟩
    · have ht := hOk.1.t
      rw [hd] at ht
      unfold tests_ok at ht
      rw [if_neg h0] at ht
      exact ht.2
    · rcases hOk.1.b k hk with h | ⟨l, hl, h1, h2⟩
      · exact Or.inl h
      · rw [hd] at hl
        rcases List.mem_cons.mp hl with rfl | hl
        · exact absurd h1 h0
        · exact Or.inr ⟨l, hl, h1, h2⟩
    · rw [← hs]; exact hOk.2 hfl
    · unfold fPo
      rw [hs]
      exact hPo
  · intro step e g hOk hlt h0 htt
    rw [htst (gd_mem hlt)] at htt
    have hs : sols (ks T0) (as.drop step) e = [] := by
      rw [drop_cons as hlt]
      unfold sols
      rw [if_neg h0, htt]
      rfl
    refine ⟨[], (List.append_nil _).symm, ?_, fun _ => hs.symm, fun z => ⟨rfl, z⟩⟩
    rw [hs]
    exact ⟨[], rfl⟩
  · intro step e g at' hOk hlt h0 hat hu
    have hTl : T g (as.getD step d_lit).2.1 = T0 (as.getD step d_lit).2.1 := hT g _ (gd_mem hlt) (by omega)
    rw [hTl] at hat hu
    refine ⟨[], (List.append_nil _).symm, ⟨_, rfl⟩, fun _ => ?_, fun z => ⟨rfl, z⟩⟩
    refine (f_none _ (fun k hk => ?_)).symm
    obtain ⟨i, hi, e⟩ := List.getElem_of_mem hk
    rw [List.length_take, ks_len] at hi
    rw [List.getElem_take, ks_gd (by omega)] at e
    rw [← e]
    exact hu i (by omega)
  · intro step e g0 g at' hLP hOk hlt h0 hat hu
    have hTl : T g (as.getD step d_lit).2.1 = T0 (as.getD step d_lit).2.1 := hT g _ (gd_mem hlt) (by omega)
    rw [hTl] at hat hu
    obtain ⟨us, h1, h2, h3, h4⟩ := hLP
    refine ⟨us, h1, h2, fun z => ?_, h4⟩
    rw [ks_take hat, List.flatMap_append, ← h3 z]
    have : [((T0 (as.getD step d_lit).2.1).getD at' (0, 0)).1].flatMap (fstp (ks T0) as step e) = [] := f_none _ (fun k hk => by rw [List.mem_singleton.mp hk]; exact hu)
    rw [this, List.append_nil]
  · intro step e g0 g at' e' hLP hOk hlt h0 hat hu
    have hTl : T g (as.getD step d_lit).2.1 = T0 (as.getD step d_lit).2.1 := hT g _ (gd_mem hlt) (by omega)
    rw [hTl] at hat hu
    have hd := drop_cons as hlt
    obtain ⟨us, h1, h2, h3, h4⟩ := hLP
    refine ⟨⟨⟨?_, fun k hk => ?_⟩, fun hgf => ?_⟩, fun g' hPo => ?_⟩
    · have ht := hOk.1.t
      rw [hd] at ht
      unfold tests_ok at ht
      rw [if_pos h0] at ht
      refine tests_ok_mono (fun k hk => ?_) ht
      rcases hk with hk | hk
      · cases he : e k with
        | none => exact absurd he hk
        | some v => rw [un3_ext hu k v he]; exact fun z => by cases z
      · exact un3_bound hu hk
    · rcases hOk.1.b k hk with h | ⟨l, hl, h1, h2⟩
      · cases he : e k with
        | none => exact absurd he h
        | some v => exact Or.inl (by rw [un3_ext hu k v he]; exact fun z => by cases z)
      · rw [hd] at hl
        rcases List.mem_cons.mp hl with rfl | hl
        · exact Or.inl (un3_bound hu h2)
        · exact Or.inr ⟨l, hl, h1, h2⟩
    · have hg0 : g0.fl = false := by
        cases hb : g0.fl with
        | false => rfl
        | true => have := (h4 hb).2; rw [hgf] at this; cases this
      obtain ⟨suf, hs⟩ := hOk.2 hg0
      refine ⟨((ks T0 (as.getD step d_lit).2.1).drop (at' + 1)).flatMap (fstp (ks T0) as step e) ++ suf, ?_⟩
      rw [f_sols hlt h0] at hs
      have hstep : [((T0 (as.getD step d_lit).2.1).getD at' (0, 0)).1].flatMap (fstp (ks T0) as step e) = sols (ks T0) (as.drop (step + 1)) e' := by
        rw [List.flatMap_cons, List.flatMap_nil, List.append_nil]
        unfold fstp
        rw [hu]
      have hK : (ks T0 (as.getD step d_lit).2.1).flatMap (fstp (ks T0) as step e) = us ++ (sols (ks T0) (as.drop (step + 1)) e' ++ ((ks T0 (as.getD step d_lit).2.1).drop (at' + 1)).flatMap (fstp (ks T0) as step e)) := by
        conv => lhs; rw [← List.take_append_drop (at' + 1) (ks T0 (as.getD step d_lit).2.1), List.flatMap_append, ks_take hat, List.flatMap_append, hstep, ← h3 hgf]
        rw [List.append_assoc]
      rw [← hs, hK, h1]
      simp only [List.append_assoc]
    · obtain ⟨us', k1, k2, k3, k4⟩ := hPo
      have hstep : [((T0 (as.getD step d_lit).2.1).getD at' (0, 0)).1].flatMap (fstp (ks T0) as step e) = sols (ks T0) (as.drop (step + 1)) e' := by
        rw [List.flatMap_cons, List.flatMap_nil, List.append_nil]
        unfold fstp
        rw [hu]
      cases hgf : g.fl with
      | true =>
        obtain ⟨e1, e2⟩ := k4 hgf
        refine ⟨us, by rw [k1, e1, List.append_nil]; exact h1, h2, fun z => (by rw [e2] at z; cases z), fun z => ⟨(h4 z).1, e2⟩⟩
      | false =>
        have hus := h3 hgf
        refine ⟨us ++ us', by rw [k1, h1, List.append_assoc], pre_tr ?_ (f_pre hlt h0 (at' + 1)), fun z => ?_, fun z => ?_⟩
        · rw [ks_take hat, List.flatMap_append, hstep, ← hus]
          exact (List.prefix_append_right_inj us).mpr k2
        · rw [ks_take hat, List.flatMap_append, hstep, ← hus, k3 z]
        · have := (h4 z).2
          rw [hgf] at this; cases this
  · intro step e g0 g at' hLP hOk hlt h0 hu
    have hTl : T g (as.getD step d_lit).2.1 = T0 (as.getD step d_lit).2.1 := hT g _ (gd_mem hlt) (by omega)
    rw [hTl] at hu
    obtain ⟨us, h1, h2, h3, h4⟩ := hLP
    refine ⟨us, h1, h2, fun z => ?_, h4⟩
    rw [h3 z, f_sols hlt h0]
    conv => rhs; rw [← List.take_append_drop at' (ks T0 (as.getD step d_lit).2.1), List.flatMap_append]
    have : ((ks T0 (as.getD step d_lit).2.1).drop at').flatMap (fstp (ks T0) as step e) = [] := f_none _ (fun k hk => by
      obtain ⟨i, hi, e⟩ := List.getElem_of_mem hk
      rw [List.length_drop, ks_len] at hi
      rw [List.getElem_drop, ks_gd (by omega)] at e
      rw [← e]
      exact hu _ (by omega) (by omega))
    rw [this, List.append_nil]
