/-! THE SEARCH, whatever it is for: a ghost g that grows, its rows T g, its end fl g -/
theorem unI_pre {e e' : ev_T} {ts : tm_T} {key : Nat} : ∀ {j : Nat}, unI e ts key j = some e' → ext e e' ∧ ∀ i, i < j → (tmi ts i < 26 → e' (tmi ts i) = some (dg key i)) ∧ (26 ≤ tmi ts i → tmi ts i = 100 + dg key i)
  | 0, h => by
    cases h
    exact ⟨ext_rf e, fun i hi => absurd hi (by omega)⟩
  | j + 1, h => by
    have h' : (unI e ts key j).bind (fun e' => un1 e' (tmi ts j) (dg key j)) = some e' := h
    cases hj : unI e ts key j with
    | none => rw [hj] at h'; cases h'
    | some e1 =>
      rw [hj] at h'
      have h' : un1 e1 (tmi ts j) (dg key j) = some e' := h'
      obtain ⟨a1, a2⟩ := unI_pre hj
      obtain ⟨b1, b2, b3, _⟩ := un1_ext h'
      refine ⟨ext_tr a1 b1, fun i hi => ?_⟩
      by_cases g : i = j
      · subst g
        exact ⟨b2, b3⟩
      · exact ⟨fun q => b1 _ _ ((a2 i (by omega)).1 q), (a2 i (by omega)).2⟩
/-- where the first j terms are known, a row that fits begins with their values -/
theorem un3_pre {e e' : ev_T} {ts : tm_T} {key : Nat} (h : un3 e ts key = some e') {i : Nat} (hi : i < 3) (hb : tmi ts i < 26 → e (tmi ts i) ≠ none) : dg key i = tv e (tmi ts i) := by
  rw [← unI_3] at h
  obtain ⟨h1, h2⟩ := unI_pre h
  unfold tv
  by_cases g : tmi ts i < 26
  · rw [if_neg (by omega)]
    cases he : e (tmi ts i) with
    | none => exact absurd he (hb g)
    | some v =>
      have a := (h2 i hi).1 g
      rw [h1 _ _ he] at a
      cases a
      rfl
  · rw [if_pos (by omega)]
    have := (h2 i hi).2 (by omega)
    omega
/-- low and span behind j known terms -/
def spn (j : Nat) : Nat := if j = 0 then 1000000000 else wt (j - 1)
theorem lo_sp {e e' : ev_T} {ts : tm_T} {key j : Nat} (hj : j ≤ 3) (hk : key < 1000000000) (h : un3 e ts key = some e') (hb : ∀ i, i < j → tmi ts i < 26 → e (tmi ts i) ≠ none) : hkI e ts j ≤ key ∧ key < hkI e ts j + spn j := by
  have hd : ∀ i, i < j → tv e (tmi ts i) = dg key i := fun i hi => (un3_pre h (by omega) (hb i hi)).symm
  rcases (show j = 0 ∨ j = 1 ∨ j = 2 ∨ j = 3 by omega) with rfl | rfl | rfl | rfl
  · simp [hkI, spn]; omega
  · simp only [hkI, spn, hd 0 (by omega)]
    simp [dg, wt]; omega
  · simp only [hkI, spn, hd 0 (by omega), hd 1 (by omega)]
    simp [dg, wt]; omega
  · simp only [hkI, spn, hd 0 (by omega), hd 1 (by omega), hd 2 (by omega)]
    simp [dg, wt]; omega
theorem hkI_lt {e : ev_T} (he : ev_ok e) {ts : tm_T} (ht : tm3_ok ts) {j : Nat} (hj : j ≤ 3) : hkI e ts j < 1000000000 := by
  have h : ∀ i, tv e (tmi ts i) < 1000 := fun i => tv_lt he (tmi_ok ht i)
  have h0 := h 0
  have h1 := h 1
  have h2 := h 2
  rcases (show j = 0 ∨ j = 1 ∨ j = 2 ∨ j = 3 by omega) with rfl | rfl | rfl | rfl <;> simp [hkI, wt] <;> omega
/-- the rule's body in the store: m literals, arities A -/
def bd_L (σ : z_S) (ro : Nat) (ls : List lit_T) (A : Nat → Nat) (bb : Nat) (bo : Nat → Nat) : Prop := (z_ty σ ro = some (.inl 5)) ∧ (z_R σ 501 ro = some bb) ∧ (z_ty σ bb = some (.inr (11, 5, 14))) ∧ (ls.length ≤ 5) ∧ (z_I σ 502 ro = nI ls.length) ∧ (∀ i, i < ls.length → z_Q σ 14 bb i = some (bo i) ∧ ∃ n, at_L σ (bo i) (ls.getD i d_lit) n ∧ no_mark (ls.getD i d_lit).2.2 ∧ ((ls.getD i d_lit).1 = 0 → n = A (ls.getD i d_lit).2.1))
theorem bd_L.ty {σ : z_S} {ro : Nat} {ls : List lit_T} {A : Nat → Nat} {bb : Nat} {bo : Nat → Nat} (h' : bd_L σ ro ls A bb bo) : z_ty σ ro = some (.inl 5) := h'.1
theorem bd_L.rb {σ : z_S} {ro : Nat} {ls : List lit_T} {A : Nat → Nat} {bb : Nat} {bo : Nat → Nat} (h' : bd_L σ ro ls A bb bo) : z_R σ 501 ro = some bb := h'.2.1
theorem bd_L.tb {σ : z_S} {ro : Nat} {ls : List lit_T} {A : Nat → Nat} {bb : Nat} {bo : Nat → Nat} (h' : bd_L σ ro ls A bb bo) : z_ty σ bb = some (.inr (11, 5, 14)) := h'.2.2.1
theorem bd_L.l5 {σ : z_S} {ro : Nat} {ls : List lit_T} {A : Nat → Nat} {bb : Nat} {bo : Nat → Nat} (h' : bd_L σ ro ls A bb bo) : ls.length ≤ 5 := h'.2.2.2.1
theorem bd_L.sz {σ : z_S} {ro : Nat} {ls : List lit_T} {A : Nat → Nat} {bb : Nat} {bo : Nat → Nat} (h' : bd_L σ ro ls A bb bo) : z_I σ 502 ro = nI ls.length := h'.2.2.2.2.1
theorem bd_L.bo {σ : z_S} {ro : Nat} {ls : List lit_T} {A : Nat → Nat} {bb : Nat} {bo : Nat → Nat} (h' : bd_L σ ro ls A bb bo) : ∀ i, i < ls.length → z_Q σ 14 bb i = some (bo i) ∧ ∃ n, at_L σ (bo i) (ls.getD i d_lit) n ∧ no_mark (ls.getD i d_lit).2.2 ∧ ((ls.getD i d_lit).1 = 0 → n = A (ls.getD i d_lit).2.1) := h'.2.2.2.2.2
theorem bd_L_ef {X : ex_T} {σ σ' : z_S} {ro bb : Nat} {ls : List lit_T} {A bo : Nat → Nat} (h : bd_L σ ro ls A bb bo) (f : ef X σ σ') : bd_L σ' ro ls A bb bo :=
  ⟨by rw [f.1]; exact h.ty, by rw [f.2.1 501 _ (by omega)]; exact h.rb, by rw [f.1]; exact h.tb, h.l5, by rw [f.2.2.2.1 502 ro (by omega) (fun q => by omega)]; exact h.sz, fun i hi => by
    obtain ⟨h1, n, h2, h3⟩ := h.bo i hi
    exact ⟨by rw [f.2.2.1]; exact h1, n, at_L_ef h2 f, h3⟩⟩
def sv_H {G : Type} (X : ex_T) (ro bb : Nat) (ls : List lit_T) (A bo : Nat → Nat) (J : G → z_S → Prop) (T : G → Nat → al_T) (fl : G → Bool) (Ok : Nat → ev_T → G → Prop) (Po : Nat → ev_T → G → G → Prop) (LP : Nat → ev_T → G → G → Nat → Prop) (Nw : Nat → ev_T → G → Prop) : Prop := (∀ g σ, J g σ → en_T X σ ∧ rw_L X σ (T g) ∧ bd_L σ ro ls A bb bo ∧ z_R σ 110 X.a = some ro ∧ z_R σ 111 X.a = some X.w ∧ z_I σ 108 X.a = (if fl g then 1 else 0)) ∧ (∀ g σ, J g σ → cpos (T g) ∧ ∀ v, v < 8 → ∀ p ∈ T g v, kar (A v) p.1) ∧ (∀ g σ σ', J g σ → vf X σ σ' → J g σ') ∧ (∀ g σ step e P, J g σ → fl g = false → Ok step e g → step ≤ ls.length → eV X σ e → (Nw step e g → P 0 σ) → (Po step e g g → P 1 σ) → kp_En_isNothingNew X.a σ P) ∧ (∀ g σ e P, J g σ → fl g = false → Ok ls.length e g → Nw ls.length e g → eV X σ e → (∀ g' σ', J g' σ' → eV X σ' e → Po ls.length e g g' → P σ') → kp_En_found X.a σ P) ∧ (∀ step e g, fl g = true → Ok step e g → Po step e g g) ∧ (∀ step e g, Ok step e g → step < ls.length → (ls.getD step d_lit).1 ≠ 0 → ∀ k, vin3 (ls.getD step d_lit).2.2 k → e k ≠ none) ∧ (∀ step e g, Ok step e g → step < ls.length → (ls.getD step d_lit).1 ≠ 0 → tst (ks (T g)) e (ls.getD step d_lit) = true → Ok (step + 1) e g ∧ ∀ g', Po (step + 1) e g g' → Po step e g g') ∧ (∀ step e g, Ok step e g → step < ls.length → (ls.getD step d_lit).1 ≠ 0 → tst (ks (T g)) e (ls.getD step d_lit) = false → Po step e g g) ∧ (∀ step e g at', Ok step e g → step < ls.length → (ls.getD step d_lit).1 = 0 → at' ≤ (T g (ls.getD step d_lit).2.1).length → (∀ i, i < at' → un3 e (ls.getD step d_lit).2.2 ((T g (ls.getD step d_lit).2.1).getD i (0, 0)).1 = none) → LP step e g g at') ∧ (∀ step e g0 g at', LP step e g0 g at' → Ok step e g0 → step < ls.length → (ls.getD step d_lit).1 = 0 → at' < (T g (ls.getD step d_lit).2.1).length → un3 e (ls.getD step d_lit).2.2 ((T g (ls.getD step d_lit).2.1).getD at' (0, 0)).1 = none → LP step e g0 g (at' + 1)) ∧ (∀ step e g0 g at' e', LP step e g0 g at' → Ok step e g0 → step < ls.length → (ls.getD step d_lit).1 = 0 → at' < (T g (ls.getD step d_lit).2.1).length → un3 e (ls.getD step d_lit).2.2 ((T g (ls.getD step d_lit).2.1).getD at' (0, 0)).1 = some e' → Ok (step + 1) e' g ∧ ∀ g', Po (step + 1) e' g g' → LP step e g0 g' (at' + 1)) ∧ (∀ step e g0 g at', LP step e g0 g at' → Ok step e g0 → step < ls.length → (ls.getD step d_lit).1 = 0 → (∀ i, at' ≤ i → i < (T g (ls.getD step d_lit).2.1).length → un3 e (ls.getD step d_lit).2.2 ((T g (ls.getD step d_lit).2.1).getD i (0, 0)).1 = none) → Po step e g0 g)
theorem sv_H.en {G : Type} {X : ex_T} {ro bb : Nat} {ls : List lit_T} {A bo : Nat → Nat} {J : G → z_S → Prop} {T : G → Nat → al_T} {fl : G → Bool} {Ok : Nat → ev_T → G → Prop} {Po : Nat → ev_T → G → G → Prop} {LP : Nat → ev_T → G → G → Nat → Prop} {Nw : Nat → ev_T → G → Prop} (h' : sv_H X ro bb ls A bo J T fl Ok Po LP Nw) : ∀ g σ, J g σ → en_T X σ ∧ rw_L X σ (T g) ∧ bd_L σ ro ls A bb bo ∧ z_R σ 110 X.a = some ro ∧ z_R σ 111 X.a = some X.w ∧ z_I σ 108 X.a = (if fl g then 1 else 0) := h'.1
theorem sv_H.cp {G : Type} {X : ex_T} {ro bb : Nat} {ls : List lit_T} {A bo : Nat → Nat} {J : G → z_S → Prop} {T : G → Nat → al_T} {fl : G → Bool} {Ok : Nat → ev_T → G → Prop} {Po : Nat → ev_T → G → G → Prop} {LP : Nat → ev_T → G → G → Nat → Prop} {Nw : Nat → ev_T → G → Prop} (h' : sv_H X ro bb ls A bo J T fl Ok Po LP Nw) : ∀ g σ, J g σ → cpos (T g) ∧ ∀ v, v < 8 → ∀ p ∈ T g v, kar (A v) p.1 := h'.2.1
theorem sv_H.vf {G : Type} {X : ex_T} {ro bb : Nat} {ls : List lit_T} {A bo : Nat → Nat} {J : G → z_S → Prop} {T : G → Nat → al_T} {fl : G → Bool} {Ok : Nat → ev_T → G → Prop} {Po : Nat → ev_T → G → G → Prop} {LP : Nat → ev_T → G → G → Nat → Prop} {Nw : Nat → ev_T → G → Prop} (h' : sv_H X ro bb ls A bo J T fl Ok Po LP Nw) : ∀ g σ σ', J g σ → vf X σ σ' → J g σ' := h'.2.2.1
theorem sv_H.nn {G : Type} {X : ex_T} {ro bb : Nat} {ls : List lit_T} {A bo : Nat → Nat} {J : G → z_S → Prop} {T : G → Nat → al_T} {fl : G → Bool} {Ok : Nat → ev_T → G → Prop} {Po : Nat → ev_T → G → G → Prop} {LP : Nat → ev_T → G → G → Nat → Prop} {Nw : Nat → ev_T → G → Prop} (h' : sv_H X ro bb ls A bo J T fl Ok Po LP Nw) : ∀ g σ step e P, J g σ → fl g = false → Ok step e g → step ≤ ls.length → eV X σ e → (Nw step e g → P 0 σ) → (Po step e g g → P 1 σ) → kp_En_isNothingNew X.a σ P := h'.2.2.2.1
theorem sv_H.fo {G : Type} {X : ex_T} {ro bb : Nat} {ls : List lit_T} {A bo : Nat → Nat} {J : G → z_S → Prop} {T : G → Nat → al_T} {fl : G → Bool} {Ok : Nat → ev_T → G → Prop} {Po : Nat → ev_T → G → G → Prop} {LP : Nat → ev_T → G → G → Nat → Prop} {Nw : Nat → ev_T → G → Prop} (h' : sv_H X ro bb ls A bo J T fl Ok Po LP Nw) : ∀ g σ e P, J g σ → fl g = false → Ok ls.length e g → Nw ls.length e g → eV X σ e → (∀ g' σ', J g' σ' → eV X σ' e → Po ls.length e g g' → P σ') → kp_En_found X.a σ P := h'.2.2.2.2.1
theorem sv_H.full {G : Type} {X : ex_T} {ro bb : Nat} {ls : List lit_T} {A bo : Nat → Nat} {J : G → z_S → Prop} {T : G → Nat → al_T} {fl : G → Bool} {Ok : Nat → ev_T → G → Prop} {Po : Nat → ev_T → G → G → Prop} {LP : Nat → ev_T → G → G → Nat → Prop} {Nw : Nat → ev_T → G → Prop} (h' : sv_H X ro bb ls A bo J T fl Ok Po LP Nw) : ∀ step e g, fl g = true → Ok step e g → Po step e g g := h'.2.2.2.2.2.1
theorem sv_H.bd {G : Type} {X : ex_T} {ro bb : Nat} {ls : List lit_T} {A bo : Nat → Nat} {J : G → z_S → Prop} {T : G → Nat → al_T} {fl : G → Bool} {Ok : Nat → ev_T → G → Prop} {Po : Nat → ev_T → G → G → Prop} {LP : Nat → ev_T → G → G → Nat → Prop} {Nw : Nat → ev_T → G → Prop} (h' : sv_H X ro bb ls A bo J T fl Ok Po LP Nw) : ∀ step e g, Ok step e g → step < ls.length → (ls.getD step d_lit).1 ≠ 0 → ∀ k, vin3 (ls.getD step d_lit).2.2 k → e k ≠ none := h'.2.2.2.2.2.2.1
theorem sv_H.t1 {G : Type} {X : ex_T} {ro bb : Nat} {ls : List lit_T} {A bo : Nat → Nat} {J : G → z_S → Prop} {T : G → Nat → al_T} {fl : G → Bool} {Ok : Nat → ev_T → G → Prop} {Po : Nat → ev_T → G → G → Prop} {LP : Nat → ev_T → G → G → Nat → Prop} {Nw : Nat → ev_T → G → Prop} (h' : sv_H X ro bb ls A bo J T fl Ok Po LP Nw) : ∀ step e g, Ok step e g → step < ls.length → (ls.getD step d_lit).1 ≠ 0 → tst (ks (T g)) e (ls.getD step d_lit) = true → Ok (step + 1) e g ∧ ∀ g', Po (step + 1) e g g' → Po step e g g' := h'.2.2.2.2.2.2.2.1
theorem sv_H.t0 {G : Type} {X : ex_T} {ro bb : Nat} {ls : List lit_T} {A bo : Nat → Nat} {J : G → z_S → Prop} {T : G → Nat → al_T} {fl : G → Bool} {Ok : Nat → ev_T → G → Prop} {Po : Nat → ev_T → G → G → Prop} {LP : Nat → ev_T → G → G → Nat → Prop} {Nw : Nat → ev_T → G → Prop} (h' : sv_H X ro bb ls A bo J T fl Ok Po LP Nw) : ∀ step e g, Ok step e g → step < ls.length → (ls.getD step d_lit).1 ≠ 0 → tst (ks (T g)) e (ls.getD step d_lit) = false → Po step e g g := h'.2.2.2.2.2.2.2.2.1
theorem sv_H.l0 {G : Type} {X : ex_T} {ro bb : Nat} {ls : List lit_T} {A bo : Nat → Nat} {J : G → z_S → Prop} {T : G → Nat → al_T} {fl : G → Bool} {Ok : Nat → ev_T → G → Prop} {Po : Nat → ev_T → G → G → Prop} {LP : Nat → ev_T → G → G → Nat → Prop} {Nw : Nat → ev_T → G → Prop} (h' : sv_H X ro bb ls A bo J T fl Ok Po LP Nw) : ∀ step e g at', Ok step e g → step < ls.length → (ls.getD step d_lit).1 = 0 → at' ≤ (T g (ls.getD step d_lit).2.1).length → (∀ i, i < at' → un3 e (ls.getD step d_lit).2.2 ((T g (ls.getD step d_lit).2.1).getD i (0, 0)).1 = none) → LP step e g g at' := h'.2.2.2.2.2.2.2.2.2.1
theorem sv_H.l1 {G : Type} {X : ex_T} {ro bb : Nat} {ls : List lit_T} {A bo : Nat → Nat} {J : G → z_S → Prop} {T : G → Nat → al_T} {fl : G → Bool} {Ok : Nat → ev_T → G → Prop} {Po : Nat → ev_T → G → G → Prop} {LP : Nat → ev_T → G → G → Nat → Prop} {Nw : Nat → ev_T → G → Prop} (h' : sv_H X ro bb ls A bo J T fl Ok Po LP Nw) : ∀ step e g0 g at', LP step e g0 g at' → Ok step e g0 → step < ls.length → (ls.getD step d_lit).1 = 0 → at' < (T g (ls.getD step d_lit).2.1).length → un3 e (ls.getD step d_lit).2.2 ((T g (ls.getD step d_lit).2.1).getD at' (0, 0)).1 = none → LP step e g0 g (at' + 1) := h'.2.2.2.2.2.2.2.2.2.2.1
theorem sv_H.l2 {G : Type} {X : ex_T} {ro bb : Nat} {ls : List lit_T} {A bo : Nat → Nat} {J : G → z_S → Prop} {T : G → Nat → al_T} {fl : G → Bool} {Ok : Nat → ev_T → G → Prop} {Po : Nat → ev_T → G → G → Prop} {LP : Nat → ev_T → G → G → Nat → Prop} {Nw : Nat → ev_T → G → Prop} (h' : sv_H X ro bb ls A bo J T fl Ok Po LP Nw) : ∀ step e g0 g at' e', LP step e g0 g at' → Ok step e g0 → step < ls.length → (ls.getD step d_lit).1 = 0 → at' < (T g (ls.getD step d_lit).2.1).length → un3 e (ls.getD step d_lit).2.2 ((T g (ls.getD step d_lit).2.1).getD at' (0, 0)).1 = some e' → Ok (step + 1) e' g ∧ ∀ g', Po (step + 1) e' g g' → LP step e g0 g' (at' + 1) := h'.2.2.2.2.2.2.2.2.2.2.2.1
theorem sv_H.l9 {G : Type} {X : ex_T} {ro bb : Nat} {ls : List lit_T} {A bo : Nat → Nat} {J : G → z_S → Prop} {T : G → Nat → al_T} {fl : G → Bool} {Ok : Nat → ev_T → G → Prop} {Po : Nat → ev_T → G → G → Prop} {LP : Nat → ev_T → G → G → Nat → Prop} {Nw : Nat → ev_T → G → Prop} (h' : sv_H X ro bb ls A bo J T fl Ok Po LP Nw) : ∀ step e g0 g at', LP step e g0 g at' → Ok step e g0 → step < ls.length → (ls.getD step d_lit).1 = 0 → (∀ i, at' ≤ i → i < (T g (ls.getD step d_lit).2.1).length → un3 e (ls.getD step d_lit).2.2 ((T g (ls.getD step d_lit).2.1).getD i (0, 0)).1 = none) → Po step e g0 g := h'.2.2.2.2.2.2.2.2.2.2.2.2
theorem al_gd_le {l : al_T} (hs : al_s l) {i j : Nat} (hij : i ≤ j) (hj : j < l.length) : (l.getD i (0, 0)).1 ≤ (l.getD j (0, 0)).1 := by
  by_cases g : i = j
  · rw [g]; exact Nat.le_refl _
  · have := List.pairwise_iff_getElem.mp hs i j (by omega) hj (by omega)
    rw [gd_eq _ _ (by omega), gd_eq _ _ hj]
    omega
theorem eV_back {X : ex_T} {σ σ' : z_S} {e : ev_T} (he : eV X σ e) {m : Int32} (hm : m = z_I σ 105 X.a) (hv : ∀ k v, e k = some v → z_A σ' 3 X.v k = nI v) : eV X (z_sI σ' 105 X.a m) e :=
  ⟨he.ok, he.hi, fun k hk => by rw [z_I_sI, if_pos ⟨rfl, rfl⟩, hm]; exact he.kn k hk, fun k v hkv => by rw [z_A_sI]; exact hv k v hkv⟩
theorem en_solve {G : Type} {X : ex_T} {ro bb : Nat} {ls : List lit_T} {A bo : Nat → Nat} {J : G → z_S → Prop} {T : G → Nat → al_T} {fl : G → Bool} {Ok : Nat → ev_T → G → Prop} {Po : Nat → ev_T → G → G → Prop} {LP : Nat → ev_T → G → G → Nat → Prop} {Nw : Nat → ev_T → G → Prop} (H : sv_H X ro bb ls A bo J T fl Ok Po LP Nw) : ∀ (d step : Nat) (g : G) (σ : z_S) (e : ev_T) (P : z_S → Prop), ls.length + 1 ≤ d + step → step ≤ ls.length → J g σ → Ok step e g → eV X σ e → (∀ g' σ', J g' σ' → eV X σ' e → Po step e g g' → P σ') → kp_En_solve d X.a (nI step) σ P
  | 0, step, g, σ, e, P, hd, hs, _, _, _, _ => by omega
  | d + 1, step, g, σ, e, P, hd, hs, hJ, hOk, he, hP => by
    unfold kp_En_solve
    intro X31 X95 X150 X158 X211 h31 h95 h150 h158 h211
    obtain ⟨hE, hW, hB, hr, hw, hf⟩ := H.en g σ hJ
    have hl5 := hB.l5
    refine ⟨hE.ty, fun q => ?_, fun q => ⟨hE.ty, ?_⟩⟩
    · refine hP g σ hJ he (H.full step e g ?_ hOk)
      cases hb : fl g with
      | true => rfl
      | false => rw [hf, hb] at q; exact absurd rfl q
    · have hfl : fl g = false := by
        cases hb : fl g with
        | false => rfl
        | true => rw [hf, hb] at q; exact absurd q (by decide)
      refine H.nn g σ step e _ hJ hfl hOk hs he ?_ ?_
      · intro hNw
        refine ⟨fun _ => ⟨hE.ty, ro, hr, hB.ty, ?_⟩, fun q => absurd rfl q⟩
        have h31' : step = ls.length → X31 σ := fun hq => h31 σ ⟨hE.ty, H.fo g σ e _ hJ hfl (hq ▸ hOk) (hq ▸ hNw) he (fun g' σ' h1 h2 h3 => hP g' σ' h1 h2 (hq ▸ h3))⟩
        rw [hB.sz]
        by_cases hq : step = ls.length
        · exact ⟨fun _ => h31' hq, fun q => absurd (nI_le (by omega) (by omega)) q⟩
        · have hlt : step < ls.length := by omega
          refine ⟨fun q => absurd q (nI_ge (by omega) (by omega)), fun _ => ⟨fun _ => ?_, fun q => absurd (nI_lt (a := step) (b := 5) (by omega) (by decide)) q⟩⟩
          obtain ⟨hbo, n, hA, hnm, hn⟩ := hB.bo step hlt
          refine ⟨hE.ty, ro, hr, hB.ty, bb, hB.rb, 5, 14, hB.tb, vp_in_nI (by omega) (by decide), bo step, by rw [cl_nI (by omega)]; exact hbo, hA.ty, fun q => ?_, fun q => ?_⟩
          · have hl0 : (ls.getD step d_lit).1 = 0 := by
              rw [hA.kd] at q
              exact (nI_eq (b := 0) (by have := hA.k2; omega) (by decide)).mp q
            obtain ⟨r1, r2⟩ := hA.rl (by omega)
            have hn := hn hl0
            obtain ⟨t, ht1, ht2, ht3⟩ := hA.tm
            have hn3 := hA.n3
            refine ⟨hE.ty, X.w, hw, hA.ty, 8, X.s, hW.1.tw, by rw [r1]; exact vp_in_nI r2 (by decide), X.ra (ls.getD step d_lit).2.1, by rw [r1, cl_nI (by omega)]; exact hW.1.qw _ r2, hE.ty, ?_⟩
            -- the walk over the rows
            have walk : ∀ (mm : Nat) (j : Nat) (at' : Nat) (g2 : G) (σ2 : z_S), j ≤ 3 → j ≤ n → (∀ i, i < j → tmi (ls.getD step d_lit).2.2 i < 26 → e (tmi (ls.getD step d_lit).2.2 i) ≠ none) → at' + mm = 100 → J g2 σ2 → eV X σ2 e → z_I σ2 105 X.a = z_I σ 105 X.a → LP step e g g2 at' → X158 (bo step) (X.ra (ls.getD step d_lit).2.1) (z_I σ 105 X.a) (nI (hkI e (ls.getD step d_lit).2.2 j)) (nI (spn j)) (nI at') σ2 := by
              intro mm
              induction mm with
              | zero =>
                intro j at' g2 σ2 hj hjn hjb hm hJ2 he2 h105 hLP
                obtain ⟨hE2, hW2, hB2, hr2, hw2, hf2⟩ := H.en g2 σ2 hJ2
                have hL := hW2.2 _ r2
                have hlen := hL.2.2.1
                refine h158 _ _ _ _ _ _ _ ⟨hL.1.1, ?_⟩
                rw [hL.2.1]
                refine ⟨fun _ => hP g2 σ2 hJ2 he2 (H.l9 step e g g2 at' hLP hOk hlt hl0 (fun i h1 h2 => by omega)), fun q => absurd (nI_le (by omega) (by omega)) q⟩
              | succ mm ih =>
                intro j at' g2 σ2 hj hjn hjb hm hJ2 he2 h105 hLP
                obtain ⟨hE2, hW2, hB2, hr2, hw2, hf2⟩ := H.en g2 σ2 hJ2
                have hL := hW2.2 _ r2
                have hlen := hL.2.2.1
                refine h158 _ _ _ _ _ _ _ ⟨hL.1.1, ?_⟩
                rw [hL.2.1]
                refine ⟨fun q2 => ?_, fun q2 => ⟨fun q3 => ?_, fun q3 => ?_⟩⟩
                · refine hP g2 σ2 hJ2 he2 (H.l9 step e g g2 at' hLP hOk hlt hl0 (fun i h1 h2 => ?_))
                  rw [nI_leI (by omega) (by omega)] at q2
                  omega
                · exfalso
                  by_cases z : at' < (T g2 (ls.getD step d_lit).2.1).length
                  · rw [show (100 : Int32) = nI 100 from rfl, nI_leI (by decide) (by omega)] at q3
                    omega
                  · exact q2 (nI_le (by omega) (by omega))
                · have hat : at' < (T g2 (ls.getD step d_lit).2.1).length := by
                    by_cases z : at' < (T g2 (ls.getD step d_lit).2.1).length
                    · exact z
                    · exact absurd (nI_le (by omega) (by omega)) q2
                  have hkk := hL.2.2.2.2.1
                  have hks := hL.2.2.2.1
                  have hkey : ((T g2 (ls.getD step d_lit).2.1).getD at' (0, 0)).1 < 1000000000 := al_k_gd hkk hat
                  have hlw := hkI_lt he.ok hA.to hj
                  have hsp : spn j ≤ 1000000000 := by
                    unfold spn wt
                    repeat' split
                    all_goals omega
                  have hmem : (T g2 (ls.getD step d_lit).2.1).getD at' (0, 0) ∈ T g2 (ls.getD step d_lit).2.1 := by
                    rw [gd_eq _ _ hat]; exact List.getElem_mem hat
                  refine ⟨hL.1.1, X.ka (ls.getD step d_lit).2.1, hL.1.2.1, 100, 12, hL.1.2.2.2.1, vp_in_nI (by omega) (by decide), ?_⟩
                  rw [cl_nI (by omega), (hL.2.2.2.2.2 at' hat).1]
                  refine ⟨fun q4 => ?_, fun q4 => ⟨hL.1.1, X.ka (ls.getD step d_lit).2.1, hL.1.2.1, 100, 12, hL.1.2.2.2.1, vp_in_nI (by omega) (by decide), hE2.ty, ?_⟩⟩
                  · rw [i32_le, pk_sub_toInt (by omega) (by omega), nI_toInt (by omega)] at q4
                    refine hP g2 σ2 hJ2 he2 (H.l9 step e g g2 at' hLP hOk hlt hl0 (fun i h1 h2 => ?_))
                    cases hu : un3 e (ls.getD step d_lit).2.2 ((T g2 (ls.getD step d_lit).2.1).getD i (0, 0)).1 with
                    | none => rfl
                    | some e' =>
                      have := lo_sp hj (al_k_gd hkk h2) hu hjb
                      have := al_gd_le hks h1 h2
                      omega
                  · have hA2 : at_L σ2 (bo step) (ls.getD step d_lit) n := by
                      obtain ⟨_, n', hA', _, hn'⟩ := hB2.bo step hlt
                      rw [hn, ← hn' hl0]
                      exact hA'
                    rw [(hL.2.2.2.2.2 at' hat).1]
                    refine en_matches hE2 he2 hA2 hnm (by rw [hn]; exact (H.cp g2 σ2 hJ2).2 _ r2 _ hmem) _ ?_ ?_
                    · intro e' σ3 hu hv3 he3
                      refine ⟨fun q => absurd q (by decide), fun _ => ?_⟩
                      have hJ3 := H.vf _ _ _ hJ2 hv3
                      obtain ⟨hOk', hLP'⟩ := H.l2 step e g g2 at' e' hLP hOk hlt hl0 hat hu
                      refine ⟨(H.en _ _ hJ3).1.ty, ?_⟩
                      rw [nI_1]
                      refine en_solve H d (step + 1) g2 σ3 e' _ (by omega) (by omega) hJ3 hOk' he3 (fun g4 σ4 hJ4 he4 hPo4 => ?_)
                      refine h211 _ _ _ _ _ _ _ ⟨(H.en _ _ hJ4).1.ty, fun σ5 e5 => ?_⟩
                      rw [nI_1]
                      have hv5 : vf X σ4 σ5 := by rw [e5]; exact vf_sI (vf_rf X σ4) _
                      have hJ5 := H.vf _ _ _ hJ4 hv5
                      have he5 : eV X σ5 e := by
                        rw [e5]
                        exact eV_back he rfl (fun k v hkv => he4.vs k v (un3_ext hu k v hkv))
                      have hLP5 := hLP' g4 hPo4
                      refine ih j (at' + 1) g4 σ5 hj hjn hjb (by omega) hJ5 he5 (by rw [e5, z_I_sI, if_pos ⟨rfl, rfl⟩]) hLP5
                    · intro σ3 hu hv3 hk3
                      refine ⟨fun _ => ?_, fun q => absurd rfl q⟩
                      have hJ3 := H.vf _ _ _ hJ2 hv3
                      refine h211 _ _ _ _ _ _ _ ⟨(H.en _ _ hJ3).1.ty, fun σ5 e5 => ?_⟩
                      rw [nI_1]
                      have hv5 : vf X σ3 σ5 := by rw [e5]; exact vf_sI (vf_rf X σ3) _
                      have hJ5 := H.vf _ _ _ hJ3 hv5
                      have he5 : eV X σ5 e := by
                        rw [e5]
                        exact eV_back he rfl hk3
                      refine ih j (at' + 1) g2 σ5 hj hjn hjb (by omega) hJ5 he5 (by rw [e5, z_I_sI, if_pos ⟨rfl, rfl⟩]) (H.l1 step e g g2 at' hLP hOk hlt hl0 hat hu)
            -- the known terms
            have low : ∀ (mm j : Nat), j + mm = n → (∀ i, i < j → tmi (ls.getD step d_lit).2.2 i < 26 → e (tmi (ls.getD step d_lit).2.2 i) ≠ none) → X95 (bo step) (X.ra (ls.getD step d_lit).2.1) (z_I σ 105 X.a) (nI (hkI e (ls.getD step d_lit).2.2 j)) (nI (spn j)) (nI j) σ := by
              have seek : ∀ j, j ≤ n → (∀ i, i < j → tmi (ls.getD step d_lit).2.2 i < 26 → e (tmi (ls.getD step d_lit).2.2 i) ≠ none) → X150 (bo step) (X.ra (ls.getD step d_lit).2.1) (z_I σ 105 X.a) (nI (hkI e (ls.getD step d_lit).2.2 j)) (nI (spn j)) σ := by
                intro j hj hjb
                have hL := hW.2 _ r2
                have hks := hL.2.2.2.1
                have hbl := al_b_le (T g (ls.getD step d_lit).2.1) (hkI e (ls.getD step d_lit).2.2 j)
                refine h150 _ _ _ _ _ _ ⟨hL.1.1, ro_seekL hL (hkI_lt he.ok hA.to (by omega)) _ ?_⟩
                refine walk (100 - al_b (T g (ls.getD step d_lit).2.1) (hkI e (ls.getD step d_lit).2.2 j)) j _ g σ (by omega) hj hjb (by have := hL.2.2.1; omega) hJ he rfl (H.l0 step e g _ hOk hlt hl0 hbl (fun i hi => ?_))
                cases hu : un3 e (ls.getD step d_lit).2.2 ((T g (ls.getD step d_lit).2.1).getD i (0, 0)).1 with
                | none => rfl
                | some e' =>
                  have := lo_sp (j := j) (by omega) (al_k_gd hL.2.2.2.2.1 (by omega)) hu hjb
                  have := al_b_lo _ _ i hi
                  omega
              intro mm
              induction mm with
              | zero =>
                intro j hj hjb
                refine h95 _ _ _ _ _ _ _ ⟨hA.ty, ?_⟩
                rw [hA.sz]
                exact ⟨fun _ => seek j (by omega) hjb, fun q => absurd (nI_le (by omega) (by omega)) q⟩
              | succ mm ih =>
                intro j hj hjb
                refine h95 _ _ _ _ _ _ _ ⟨hA.ty, ?_⟩
                rw [hA.sz]
                refine ⟨fun q => absurd q (nI_ge (by omega) (by omega)), fun _ => ⟨hA.ty, t, ht1, 3, 1, ht2, vp_in_nI (by omega) (by decide), hE.ty, ?_⟩⟩
                rw [cl_nI (by omega), ht3 j (by omega)]
                have htm := tmi_ok hA.to j
                refine en_isKnown hE he htm _ ?_
                by_cases hun : tmi (ls.getD step d_lit).2.2 j < 26 ∧ e (tmi (ls.getD step d_lit).2.2 j) = none
                · rw [if_pos hun]
                  exact ⟨fun _ => seek j (by omega) hjb, fun q => absurd rfl q⟩
                · rw [if_neg hun]
                  have hbn : tmi (ls.getD step d_lit).2.2 j < 26 → e (tmi (ls.getD step d_lit).2.2 j) ≠ none := fun q1 q2 => hun ⟨q1, q2⟩
                  refine ⟨fun q => absurd q (by decide), fun _ => vr_weight (by omega) _ _ ⟨hA.ty, t, ht1, 3, 1, ht2, vp_in_nI (by omega) (by decide), hE.ty, ?_⟩⟩
                  rw [ht3 j (by omega)]
                  refine en_valueOf hE he htm hbn _ ?_
                  rw [pk_mul, nI_add, nI_1]
                  have := ih (j + 1) (by omega) (fun i hi => by
                    by_cases z : i = j
                    · rw [z]; exact hbn
                    · exact hjb i (by omega))
                  have hs1 : spn (j + 1) = wt j := by unfold spn; rw [if_neg (by omega)]; rfl
                  rw [hs1] at this
                  exact this
            exact low n 0 (by omega) (fun i hi => absurd hi (by omega))
          · have hl0 : (ls.getD step d_lit).1 ≠ 0 := fun z => q (by rw [hA.kd, z]; rfl)
            refine ⟨hE.ty, en_holds hE hW hw (H.cp g σ hJ).1 he hA hl0 (H.bd step e g hOk hlt hl0) _ ?_⟩
            cases htst : tst (ks (T g)) e (ls.getD step d_lit) with
            | false =>
              exact ⟨fun _ => hP g σ hJ he (H.t0 step e g hOk hlt hl0 htst), fun q => absurd rfl q⟩
            | true =>
              obtain ⟨hOk', hPo'⟩ := H.t1 step e g hOk hlt hl0 htst
              refine ⟨fun q => absurd q (by decide), fun _ => ⟨hE.ty, ?_⟩⟩
              rw [nI_1]
              exact en_solve H d (step + 1) g σ e _ (by omega) (by omega) hJ hOk' he (fun g' σ' h1 h2 h3 => hP g' σ' h1 h2 (hPo' g' h3))
      · intro hPo
        exact ⟨fun q => absurd q (by decide), fun _ => hP g σ hJ he hPo⟩
