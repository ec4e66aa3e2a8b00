/-! THE CLASS'S RULES in the store -/
def d_ru : ru_T := ⟨0, (0, 0, 0), [], false⟩
abbrev pg_T : Type := (List ru_T) × (Nat → List lit_T) × (Nat → Nat) × (Nat → Nat) × (Nat) × (Nat) × (Nat → Bool)
abbrev pg_T.rs (x : pg_T) : List ru_T := x.1
abbrev pg_T.as (x : pg_T) : Nat → List lit_T := x.2.1
abbrev pg_T.A (x : pg_T) : Nat → Nat := x.2.2.1
abbrev pg_T.lay (x : pg_T) : Nat → Nat := x.2.2.2.1
abbrev pg_T.n (x : pg_T) : Nat := x.2.2.2.2.1
abbrev pg_T.top (x : pg_T) : Nat := x.2.2.2.2.2.1
abbrev pg_T.vw (x : pg_T) : Nat → Bool := x.2.2.2.2.2.2
abbrev pa_T : Type := (Nat) × (Nat) × (Nat) × (Nat → Nat) × (Nat → Nat) × (Nat → Nat) × (Nat → Nat → Nat)
abbrev pa_T.p (x : pa_T) : Nat := x.1
abbrev pa_T.pa (x : pa_T) : Nat := x.2.1
abbrev pa_T.la (x : pa_T) : Nat := x.2.2.1
abbrev pa_T.ro (x : pa_T) : Nat → Nat := x.2.2.2.1
abbrev pa_T.hb (x : pa_T) : Nat → Nat := x.2.2.2.2.1
abbrev pa_T.bb (x : pa_T) : Nat → Nat := x.2.2.2.2.2.1
abbrev pa_T.bo (x : pa_T) : Nat → Nat → Nat := x.2.2.2.2.2.2
def pr_L (σ : z_S) (D : pa_T) (G : pg_T) : Prop := (z_ty σ D.p = some (.inl 2)) ∧ (z_R σ 200 D.p = some D.pa) ∧ (z_ty σ D.pa = some (.inr (8, 16, 7))) ∧ (z_I σ 201 D.p = nI G.rs.length) ∧ (G.rs.length ≤ 16) ∧ (∀ i, i < G.rs.length → z_Q σ 7 D.pa i = some (D.ro i) ∧ bd_L σ (D.ro i) (G.as i) G.A (D.bb i) (D.bo i) ∧ hd_L σ (D.ro i) (G.rs.getD i d_ru).h (G.rs.getD i d_ru).ts (G.rs.getD i d_ru).c (G.A (G.rs.getD i d_ru).h) (D.hb i) ∧ arr (G.rs.getD i d_ru) (G.as i)) ∧ (z_R σ 204 D.p = some D.la) ∧ (z_ty σ D.la = some (.inr (0, 8, 10))) ∧ (∀ v, v < 8 → z_A σ 10 D.la v = nI (G.lay v)) ∧ (z_I σ 206 D.p = nI G.n) ∧ (z_I σ 207 D.p = nI G.top) ∧ (∀ v, v < 8 → bi (z_I σ 209 D.p) v = G.vw v)
theorem pr_L.ty {σ : z_S} {D : pa_T} {G : pg_T} (h' : pr_L σ D G) : z_ty σ D.p = some (.inl 2) := h'.1
theorem pr_L.rr {σ : z_S} {D : pa_T} {G : pg_T} (h' : pr_L σ D G) : z_R σ 200 D.p = some D.pa := h'.2.1
theorem pr_L.tr {σ : z_S} {D : pa_T} {G : pg_T} (h' : pr_L σ D G) : z_ty σ D.pa = some (.inr (8, 16, 7)) := h'.2.2.1
theorem pr_L.nn {σ : z_S} {D : pa_T} {G : pg_T} (h' : pr_L σ D G) : z_I σ 201 D.p = nI G.rs.length := h'.2.2.2.1
theorem pr_L.n16 {σ : z_S} {D : pa_T} {G : pg_T} (h' : pr_L σ D G) : G.rs.length ≤ 16 := h'.2.2.2.2.1
theorem pr_L.ru {σ : z_S} {D : pa_T} {G : pg_T} (h' : pr_L σ D G) : ∀ i, i < G.rs.length → z_Q σ 7 D.pa i = some (D.ro i) ∧ bd_L σ (D.ro i) (G.as i) G.A (D.bb i) (D.bo i) ∧ hd_L σ (D.ro i) (G.rs.getD i d_ru).h (G.rs.getD i d_ru).ts (G.rs.getD i d_ru).c (G.A (G.rs.getD i d_ru).h) (D.hb i) ∧ arr (G.rs.getD i d_ru) (G.as i) := h'.2.2.2.2.2.1
theorem pr_L.lr {σ : z_S} {D : pa_T} {G : pg_T} (h' : pr_L σ D G) : z_R σ 204 D.p = some D.la := h'.2.2.2.2.2.2.1
theorem pr_L.lt {σ : z_S} {D : pa_T} {G : pg_T} (h' : pr_L σ D G) : z_ty σ D.la = some (.inr (0, 8, 10)) := h'.2.2.2.2.2.2.2.1
theorem pr_L.ly {σ : z_S} {D : pa_T} {G : pg_T} (h' : pr_L σ D G) : ∀ v, v < 8 → z_A σ 10 D.la v = nI (G.lay v) := h'.2.2.2.2.2.2.2.2.1
theorem pr_L.nr {σ : z_S} {D : pa_T} {G : pg_T} (h' : pr_L σ D G) : z_I σ 206 D.p = nI G.n := h'.2.2.2.2.2.2.2.2.2.1
theorem pr_L.tp {σ : z_S} {D : pa_T} {G : pg_T} (h' : pr_L σ D G) : z_I σ 207 D.p = nI G.top := h'.2.2.2.2.2.2.2.2.2.2.1
theorem pr_L.vw {σ : z_S} {D : pa_T} {G : pg_T} (h' : pr_L σ D G) : ∀ v, v < 8 → bi (z_I σ 209 D.p) v = G.vw v := h'.2.2.2.2.2.2.2.2.2.2.2
def pg_ok (G : pg_T) : Prop := (∀ r ∈ G.rs, ru_ok r ∧ ly_ok G.lay r ∧ r.h < G.n ∧ (r.c = true → mkp r.ts + 1 = G.A r.h) ∧ ∀ l ∈ r.ls, l.1 ≤ 1 → l.2.1 < G.n) ∧ (∀ i j, i < G.rs.length → j < G.rs.length → i ≠ j → (G.rs.getD i d_ru).c = true → (G.rs.getD i d_ru).h ≠ (G.rs.getD j d_ru).h) ∧ (G.n ≤ 8) ∧ (∀ v, G.lay v ≤ 8) ∧ (G.top ≤ 8) ∧ (∀ v, G.lay v ≤ G.top) ∧ (∀ v, G.vw v = true ↔ ∃ r ∈ G.rs, r.h = v) ∧ (∀ v, G.vw v = true ↔ 1 ≤ G.lay v) ∧ (∀ v, ¬ v < G.n → G.A v = 3)
theorem pg_ok.ru {G : pg_T} (h' : pg_ok G) : ∀ r ∈ G.rs, ru_ok r ∧ ly_ok G.lay r ∧ r.h < G.n ∧ (r.c = true → mkp r.ts + 1 = G.A r.h) ∧ ∀ l ∈ r.ls, l.1 ≤ 1 → l.2.1 < G.n := h'.1
theorem pg_ok.un {G : pg_T} (h' : pg_ok G) : ∀ i j, i < G.rs.length → j < G.rs.length → i ≠ j → (G.rs.getD i d_ru).c = true → (G.rs.getD i d_ru).h ≠ (G.rs.getD j d_ru).h := h'.2.1
theorem pg_ok.n8 {G : pg_T} (h' : pg_ok G) : G.n ≤ 8 := h'.2.2.1
theorem pg_ok.l8 {G : pg_T} (h' : pg_ok G) : ∀ v, G.lay v ≤ 8 := h'.2.2.2.1
theorem pg_ok.tp8 {G : pg_T} (h' : pg_ok G) : G.top ≤ 8 := h'.2.2.2.2.1
theorem pg_ok.tp {G : pg_T} (h' : pg_ok G) : ∀ v, G.lay v ≤ G.top := h'.2.2.2.2.2.1
theorem pg_ok.vw {G : pg_T} (h' : pg_ok G) : ∀ v, G.vw v = true ↔ ∃ r ∈ G.rs, r.h = v := h'.2.2.2.2.2.2.1
theorem pg_ok.lv {G : pg_T} (h' : pg_ok G) : ∀ v, G.vw v = true ↔ 1 ≤ G.lay v := h'.2.2.2.2.2.2.2.1
theorem pg_ok.a3 {G : pg_T} (h' : pg_ok G) : ∀ v, ¬ v < G.n → G.A v = 3 := h'.2.2.2.2.2.2.2.2
theorem pr_L_ef {X : ex_T} {σ σ' : z_S} {D : pa_T} {G : pg_T} (h : pr_L σ D G) (f : ef X σ σ') : pr_L σ' D G := by
  have hI : ∀ g, 109 ≤ g → g < 400 → z_I σ' g D.p = z_I σ g D.p := fun g h1 h2 => f.2.2.2.1 g _ (by omega) (fun q => by omega)
  refine ⟨by rw [f.1]; exact h.ty, by rw [f.2.1 200 _ (by omega)]; exact h.rr, by rw [f.1]; exact h.tr, by rw [hI 201 (by omega) (by omega)]; exact h.nn, h.n16, fun i hi => ?_, by rw [f.2.1 204 _ (by omega)]; exact h.lr, by rw [f.1]; exact h.lt, fun v hv => ?_, by rw [hI 206 (by omega) (by omega)]; exact h.nr, by rw [hI 207 (by omega) (by omega)]; exact h.tp, fun v hv => by rw [hI 209 (by omega) (by omega)]; exact h.vw v hv⟩
  · obtain ⟨h1, h2, h3, h4⟩ := h.ru i hi
    exact ⟨by rw [f.2.2.1]; exact h1, bd_L_ef h2 f, hd_L_ef h3 f, h4⟩
  · rw [f.2.2.2.2 10 _ (by omega) (fun q => by omega) (fun q => by omega)]
    exact h.ly v hv
theorem rs_mem {G : pg_T} {i : Nat} (h : i < G.rs.length) : G.rs.getD i d_ru ∈ G.rs := by
  rw [gd_eq _ _ h]; exact List.getElem_mem h
/-- a rule of a layer that needs rows of this layer -/
def usesL (G : pg_T) (i L : Nat) : Prop := ∃ l ∈ G.as i, l.1 = 0 ∧ G.lay l.2.1 = L
theorem en_usesLayer {X : ex_T} {σ : z_S} (hE : en_T X σ) {D : pa_T} {G : pg_T} (hp : pr_L σ D G) (hok : pg_ok G) {i L : Nat} (hi : i < G.rs.length) (h109 : z_R σ 109 X.a = some D.p) (h110 : z_R σ 110 X.a = some (D.ro i)) (hL : L ≤ 8) (P : Int32 → z_S → Prop) (h1 : usesL G i L → P 1 σ) (h0 : ¬ usesL G i L → P 0 σ) : kp_En_usesLayer X.a (nI L) σ P := by
  intro X2 hX
  obtain ⟨q1, hB, hH, ha⟩ := hp.ru i hi
  have hl5 := hB.l5
  have main : ∀ m j, j + m = (G.as i).length → (∀ k, k < j → ¬ (((G.as i).getD k d_lit).1 = 0 ∧ G.lay ((G.as i).getD k d_lit).2.1 = L)) → X2 (nI j) σ := by
    intro m
    induction m with
    | zero =>
      intro j hj hn
      refine hX _ _ ⟨hE.ty, D.ro i, h110, hB.ty, ?_⟩
      rw [hB.sz]
      refine ⟨fun _ => h0 (fun ⟨l, hl, hl0, hll⟩ => ?_), fun q => absurd (nI_le (by omega) (by omega)) q⟩
      obtain ⟨k, hk, e⟩ := List.getElem_of_mem hl
      exact hn k (by omega) (by rw [gd_eq _ _ hk, e]; exact ⟨hl0, hll⟩)
    | succ m ih =>
      intro j hj hn
      have hjl : j < (G.as i).length := by omega
      obtain ⟨b1, n, hA, hnm, hn'⟩ := hB.bo j hjl
      have next : ¬ (((G.as i).getD j d_lit).1 = 0 ∧ G.lay ((G.as i).getD j d_lit).2.1 = L) → X2 (nI j + 1) σ := fun hq => by
        rw [nI_1]
        exact ih (j + 1) (by omega) (fun k hk => by
          by_cases z : k = j
          · rw [z]; exact hq
          · exact hn k (by omega))
      refine hX _ _ ⟨hE.ty, D.ro i, h110, hB.ty, ?_⟩
      rw [hB.sz]
      refine ⟨fun q => absurd q (nI_ge (by omega) (by omega)), fun _ => ⟨hE.ty, D.ro i, h110, hB.ty, D.bb i, hB.rb, 5, 14, hB.tb, vp_in_nI (by omega) (by decide), D.bo i j, by rw [cl_nI (by omega)]; exact b1, hA.ty, fun q => ?_, fun q => ?_⟩⟩
      · exact next (fun z => q (by rw [hA.kd, z.1]; rfl))
      · have hl0 : ((G.as i).getD j d_lit).1 = 0 := by
          rw [hA.kd] at q
          exact (nI_eq (b := 0) (by have := hA.k2; omega) (by decide)).mp q
        obtain ⟨r1, r2⟩ := hA.rl (by omega)
        refine ⟨hE.ty, D.p, h109, hp.ty, D.la, hp.lr, hE.ty, D.ro i, h110, hB.ty, D.bb i, hB.rb, 5, 14, hB.tb, vp_in_nI (by omega) (by decide), D.bo i j, by rw [cl_nI (by omega)]; exact b1, hA.ty, 8, 10, hp.lt, by rw [r1]; exact vp_in_nI r2 (by decide), ?_⟩
        have hly8 := hok.l8 ((G.as i).getD j d_lit).2.1
        rw [r1, cl_nI (n := ((G.as i).getD j d_lit).2.1) (by omega), hp.ly _ r2, nI_eq (by omega) (by omega)]
        exact ⟨fun z => next (fun y => z y.2), fun z => h1 ⟨_, gd_mem hjl, hl0, z⟩⟩
  exact main (G.as i).length 0 (by omega) (fun k hk => by omega)
/-- what rows below say of a rule does not change -/
theorem sols_congr {S S' : Nat → List Nat} : ∀ {ls : List lit_T} {e : ev_T}, (∀ l ∈ ls, l.1 ≤ 1 → S l.2.1 = S' l.2.1) → sols S ls e = sols S' ls e
  | [], e, _ => rfl
  | l :: ls, e, h => by
    have ih : ∀ {e}, sols S ls e = sols S' ls e := fun {e} => sols_congr (fun l' hl' => h l' (List.mem_cons_of_mem _ hl'))
    unfold sols
    by_cases h0 : l.1 = 0
    · rw [if_pos h0, if_pos h0, h l List.mem_cons_self (by omega)]
      congr 1
      funext key
      cases un3 e l.2.2 key with
      | none => rfl
      | some e' => exact ih
    · rw [if_neg h0, if_neg h0]
      have ht : tst S e l = tst S' e l := by
        unfold tst
        by_cases h1 : l.1 = 1
        · rw [if_pos h1, if_pos h1, h l List.mem_cons_self (by omega)]
        · rw [if_neg h1, if_neg h1]
      rw [ht, ih]
theorem hsol_congr {S S' : Nat → List Nat} {r : ru_T} (h : ∀ l ∈ r.ls, l.1 ≤ 1 → S l.2.1 = S' l.2.1) : hsol S r = hsol S' r := by
  unfold hsol
  rw [sols_congr (ls := ps_of r.ls) (fun l hl => h l (List.mem_filter.mp hl).1)]
  congr 1
  funext x
  exact alltests_congr (fun l hl h1 k => by rw [h l hl (by omega)])
theorem hd_congr {S S' : Nat → List Nat} {r : ru_T} (h : ∀ l ∈ r.ls, l.1 ≤ 1 → S l.2.1 = S' l.2.1) : hd S r = hd S' r := by
  unfold hd
  rw [hsol_congr h]
theorem tot_set2 {T : Nat → al_T} {h : Nat} {l : al_T} (hh : h < 8) (h0 : T h = []) : tot (tset T h l) = tot T + l.length := by
  rcases (show h = 0 ∨ h = 1 ∨ h = 2 ∨ h = 3 ∨ h = 4 ∨ h = 5 ∨ h = 6 ∨ h = 7 by omega) with rfl | rfl | rfl | rfl | rfl | rfl | rfl | rfl <;> simp [tot, tset, h0] <;> omega
theorem tot_le2 {T : Nat → al_T} (h : ∀ v, v < 8 → (T v).length ≤ 40) {a : Nat} (ha : a < 8) (hl : T a = []) : tot T ≤ 280 := by
  have h0 := h 0 (by omega)
  have h1 := h 1 (by omega)
  have h2 := h 2 (by omega)
  have h3 := h 3 (by omega)
  have h4 := h 4 (by omega)
  have h5 := h 5 (by omega)
  have h6 := h 6 (by omega)
  have h7 := h 7 (by omega)
  have hl' : (T a).length = 0 := by rw [hl]; rfl
  rcases (show a = 0 ∨ a = 1 ∨ a = 2 ∨ a = 3 ∨ a = 4 ∨ a = 5 ∨ a = 6 ∨ a = 7 by omega) with rfl | rfl | rfl | rfl | rfl | rfl | rfl | rfl <;> unfold tot <;> omega
