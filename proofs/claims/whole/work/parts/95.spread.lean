/-! SPREAD: each row that came is set into each literal once -/
/-- a solution whose rows of this layer stand among the first i + 1 in the queue -/
def early (G : pg_T) (L : Nat) (T0 : Nat → al_T) (q : List (Nat × Nat)) (i : Nat) (r : ru_T) (x : ev_T) : Prop := (ev_ok x) ∧ (∀ k, x k ≠ none → ∃ l ∈ ps_of r.ls, vin3 l.2.2 k) ∧ (∀ l ∈ ps_of r.ls, ∀ k, vin3 l.2.2 k → x k ≠ none) ∧ (alltests (ks T0) r.ls x = true) ∧ (∀ l ∈ ps_of r.ls, G.lay l.2.1 ≠ L → hk3 x l.2.2 ∈ ks T0 l.2.1) ∧ (∀ l ∈ ps_of r.ls, G.lay l.2.1 = L → (l.2.1, hk3 x l.2.2) ∈ q.take (i + 1))
theorem early.ok {G : pg_T} {L : Nat} {T0 : Nat → al_T} {q : List (Nat × Nat)} {i : Nat} {r : ru_T} {x : ev_T} (h' : early G L T0 q i r x) : ev_ok x := h'.1
theorem early.d {G : pg_T} {L : Nat} {T0 : Nat → al_T} {q : List (Nat × Nat)} {i : Nat} {r : ru_T} {x : ev_T} (h' : early G L T0 q i r x) : ∀ k, x k ≠ none → ∃ l ∈ ps_of r.ls, vin3 l.2.2 k := h'.2.1
theorem early.b {G : pg_T} {L : Nat} {T0 : Nat → al_T} {q : List (Nat × Nat)} {i : Nat} {r : ru_T} {x : ev_T} (h' : early G L T0 q i r x) : ∀ l ∈ ps_of r.ls, ∀ k, vin3 l.2.2 k → x k ≠ none := h'.2.2.1
theorem early.t {G : pg_T} {L : Nat} {T0 : Nat → al_T} {q : List (Nat × Nat)} {i : Nat} {r : ru_T} {x : ev_T} (h' : early G L T0 q i r x) : alltests (ks T0) r.ls x = true := h'.2.2.2.1
theorem early.o {G : pg_T} {L : Nat} {T0 : Nat → al_T} {q : List (Nat × Nat)} {i : Nat} {r : ru_T} {x : ev_T} (h' : early G L T0 q i r x) : ∀ l ∈ ps_of r.ls, G.lay l.2.1 ≠ L → hk3 x l.2.2 ∈ ks T0 l.2.1 := h'.2.2.2.2.1
theorem early.n {G : pg_T} {L : Nat} {T0 : Nat → al_T} {q : List (Nat × Nat)} {i : Nat} {r : ru_T} {x : ev_T} (h' : early G L T0 q i r x) : ∀ l ∈ ps_of r.ls, G.lay l.2.1 = L → (l.2.1, hk3 x l.2.2) ∈ q.take (i + 1) := h'.2.2.2.2.2
def prc (G : pg_T) (L : Nat) (T0 : Nat → al_T) (g : gs_T) (i j k : Nat) : Prop := i < g.q.length → k < (G.as j).length → ((G.as j).getD k d_lit).1 = 0 → ∀ x, early G L T0 g.q i (G.rs.getD j d_ru) x → (((G.as j).getD k d_lit).2.1, hk3 x ((G.as j).getD k d_lit).2.2) = g.q.getD i (0, 0) → hk3 x (G.rs.getD j d_ru).ts ∈ ks g.T (G.rs.getD j d_ru).h
def bef (i j k i' j' k' : Nat) : Prop := i' < i ∨ (i' = i ∧ (j' < j ∨ (j' = j ∧ k' < k)))
def prd (G : pg_T) (L : Nat) (T0 : Nat → al_T) (g : gs_T) (i j k : Nat) : Prop := ∀ i' j' k', j' < G.rs.length → G.lay (G.rs.getD j' d_ru).h = L → bef i j k i' j' k' → prc G L T0 g i' j' k'
def fS (X : ex_T) (D : pa_T) (G : pg_T) (L : Nat) (T0 : Nat → al_T) (σ0 : z_S) (σ : z_S) : Prop := (∃ g, es X 0 g σ ∧ g.fl = true ∧ (IV (lyo G L T0) g ∨ cOv G L T0) ∧ ∀ v, G.lay v ≠ L → g.T v = T0 v) ∧ (ef X σ0 σ) ∧ (z_R σ 109 X.a = some D.p)
theorem fS.s {X : ex_T} {D : pa_T} {G : pg_T} {L : Nat} {T0 : Nat → al_T} {σ0 : z_S} {σ : z_S} (h' : fS X D G L T0 σ0 σ) : ∃ g, es X 0 g σ ∧ g.fl = true ∧ (IV (lyo G L T0) g ∨ cOv G L T0) ∧ ∀ v, G.lay v ≠ L → g.T v = T0 v := h'.1
theorem fS.f {X : ex_T} {D : pa_T} {G : pg_T} {L : Nat} {T0 : Nat → al_T} {σ0 : z_S} {σ : z_S} (h' : fS X D G L T0 σ0 σ) : ef X σ0 σ := h'.2.1
theorem fS.p {X : ex_T} {D : pa_T} {G : pg_T} {L : Nat} {T0 : Nat → al_T} {σ0 : z_S} {σ : z_S} (h' : fS X D G L T0 σ0 σ) : z_R σ 109 X.a = some D.p := h'.2.2
theorem fS_sR {X : ex_T} {D : pa_T} {G : pg_T} {L : Nat} {T0 : Nat → al_T} {σ0 σ : z_S} (h : fS X D G L T0 σ0 σ) (x : Option Nat) : fS X D G L T0 σ0 (z_sR σ 110 X.a x) := by
  obtain ⟨g, h1, h2, h3⟩ := h.s
  exact ⟨⟨g, es_sR h1 x, h2, h3⟩, ef_tr h.f (ef_sR (by omega) (by omega)), by rw [z_R_sR, if_neg (fun q => absurd q.1 (by decide))]; exact h.p⟩
theorem prc_mono {G : pg_T} {L : Nat} {T0 : Nat → al_T} {g g' : gs_T} {h i j k : Nat} (hle : le_g h g g') (hi : i < g.q.length) (hp : prc G L T0 g i j k) : prc G L T0 g' i j k := by
  intro h1 h2 h3 x hx he
  obtain ⟨z, hz⟩ := hle.q
  have ht : g'.q.take (i + 1) = g.q.take (i + 1) := by
    rw [hz, List.take_append_of_le_length (by omega)]
  have hg : g'.q.getD i (0, 0) = g.q.getD i (0, 0) := by
    rw [gd_eq _ _ h1, gd_eq _ _ hi]
    simp only [hz]
    rw [List.getElem_append_left hi]
  refine hle.s _ _ (hp hi h2 h3 x ⟨hx.ok, hx.d, hx.b, hx.t, hx.o, fun l hl hl2 => ?_⟩ (by rw [he, hg]))
  rw [← ht]; exact hx.n l hl hl2
/-- tests look below -/
theorem tests_low {G : pg_T} (hok : pg_ok G) {L : Nat} {T0 : Nat → al_T} {g : gs_T} (hI : IV (lyo G L T0) g) {r : ru_T} (hmem : r ∈ G.rs) (hL : G.lay r.h = L) (x : ev_T) : alltests (ks g.T) r.ls x = alltests (ks T0) r.ls x := by
  refine alltests_congr (fun l hl h1 k => ?_)
  obtain ⟨_, hly, _⟩ := hok.ru r hmem
  have := (hly l hl).2 h1
  unfold ks
  rw [hI.lo _ (show G.lay l.2.1 ≠ L by omega)]
  exact Iff.rfl
theorem en_spread {X : ex_T} {D : pa_T} {G : pg_T} (hok : pg_ok G) {L : Nat} (hL8 : L ≤ 8) {T0 : Nat → al_T} {σ0 : z_S} (hp0 : pr_L σ0 D G) {σ1 : z_S} (hin : (∃ g, lS X D G L T0 σ0 g σ1 ∧ g.fl = false ∧ sdd G L T0 g G.rs.length) ∨ fS X D G L T0 σ0 σ1) (P : z_S → Prop)
    (h1 : ∀ g σ, lS X D G L T0 σ0 g σ → g.fl = false → sdd G L T0 g G.rs.length → prd G L T0 g g.q.length 0 0 → P σ) (h2 : ∀ σ, fS X D G L T0 σ0 σ → P σ) : kp_En_spread X.a (nI L) σ1 P := by
  intro X2 X19 X46 hX2 hX19 hX46
  have hn16 := hp0.n16
  -- at the end nothing is done any more
  have full : ∀ m i σ, i + m = 320 → fS X D G L T0 σ0 σ → X2 (nI i) σ := by
    intro m
    induction m with
    | zero =>
      intro i σ hi hF
      obtain ⟨g, hg, _⟩ := hF.s
      exact hX2 _ _ ⟨hg.en.ty, fun _ => h2 σ hF, fun _ => ⟨fun _ => h2 σ hF, fun q => absurd (nI_le (a := 320) (by omega) (by omega)) q⟩⟩
    | succ m ih =>
      intro i σ hi hF
      have f19 : ∀ m' j σ, j + m' = G.rs.length → fS X D G L T0 σ0 σ → X19 (nI i) (nI j) σ := by
        intro m'
        induction m' with
        | zero =>
          intro j σ hj hF
          obtain ⟨g, hg, _⟩ := hF.s
          have hp := pr_L_ef hp0 hF.f
          refine hX19 _ _ _ ⟨hg.en.ty, D.p, hF.p, hp.ty, ?_⟩
          rw [hp.nn, nI_1]
          exact ⟨fun _ => ih (i + 1) σ (by omega) hF, fun q => absurd (nI_le (by omega) (by omega)) q⟩
        | succ m' ih' =>
          intro j σ hj hF
          obtain ⟨g, hg, _⟩ := hF.s
          have hp := pr_L_ef hp0 hF.f
          obtain ⟨q1, _⟩ := hp.ru j (by omega)
          refine hX19 _ _ _ ⟨hg.en.ty, D.p, hF.p, hp.ty, ?_⟩
          rw [hp.nn]
          refine ⟨fun q => absurd q (nI_ge (by omega) (by omega)), fun _ => ⟨hg.en.ty, D.p, hF.p, hp.ty, D.pa, hp.rr, 16, 7, hp.tr, vp_in_nI (by omega) (by decide), D.ro j, by rw [cl_nI (by omega)]; exact q1, hg.en.ty, fun σ40 e40 => ?_⟩⟩
          have hF40 : fS X D G L T0 σ0 σ40 := by rw [e40]; exact fS_sR hF _
          have h110 : z_R σ40 110 X.a = some (D.ro j) := by rw [e40, z_R_sR, if_pos ⟨rfl, rfl⟩]
          obtain ⟨g', hg', hf', _⟩ := hF40.s
          have hp40 := pr_L_ef hp0 hF40.f
          obtain ⟨_, hB, hH, _⟩ := hp40.ru j (by omega)
          have hh : (G.rs.getD j d_ru).h < 8 := (hok.ru _ (rs_mem (show j < G.rs.length by omega))).1.hh
          have r1 : z_I σ40 3 (D.hb j) = nI (G.rs.getD j d_ru).h := (hH.at'.rl (Nat.zero_le 1)).1
          have nx : X19 (nI i) (nI j + 1) σ40 := by rw [nI_1]; exact ih' (j + 1) σ40 (by omega) hF40
          refine hX46 _ _ _ _ ⟨hg'.en.ty, D.ro j, h110, hB.ty, fun _ => nx, fun _ => ⟨hg'.en.ty, D.p, hF40.p, hp40.ty, D.la, hp40.lr, hg'.en.ty, D.ro j, h110, hB.ty, D.hb j, hH.rh, hH.at'.ty, 8, 10, hp40.lt, by rw [r1]; exact vp_in_nI hh (by decide), fun _ => nx, fun _ => ⟨hg'.en.ty, fun _ => nx, fun q => ?_⟩⟩⟩
          rw [hg'.f, hf'] at q
          exact absurd q (by decide)
      obtain ⟨g, hg, _⟩ := hF.s
      exact hX2 _ _ ⟨hg.en.ty, fun _ => h2 σ hF, fun _ => ⟨fun _ => h2 σ hF, fun _ => f19 G.rs.length 0 σ (by omega) hF⟩⟩
  -- one literal after the other
  have main : ∀ m i σ g, i + m = 320 → lS X D G L T0 σ0 g σ → g.fl = false → sdd G L T0 g G.rs.length → prd G L T0 g i 0 0 → i ≤ g.q.length → X2 (nI i) σ := by
    intro m
    induction m with
    | zero =>
      intro i σ g hi hS hfl hsd hpr hiq
      have hq := hS.s.qu rfl hfl
      refine hX2 _ _ ⟨hS.s.en.ty, ?_⟩
      rw [hq.1]
      have := hq.2.1
      refine ⟨fun _ => h1 g σ hS hfl hsd (by rw [show g.q.length = i by omega]; exact hpr), fun q => absurd (nI_le (by omega) (by omega)) q⟩
    | succ m ih =>
      intro i σ g hi hS hfl hsd hpr hiq
      have fin19 : ∀ σ, fS X D G L T0 σ0 σ → ∀ j, j ≤ G.rs.length → X19 (nI i) (nI j) σ := by
        -- as above, from the middle
        intro σ hF j hj
        have f19 : ∀ m' j σ, j + m' = G.rs.length → fS X D G L T0 σ0 σ → X19 (nI i) (nI j) σ := by
          intro m'
          induction m' with
          | zero =>
            intro j σ hj hF
            obtain ⟨g, hg, _⟩ := hF.s
            have hp := pr_L_ef hp0 hF.f
            refine hX19 _ _ _ ⟨hg.en.ty, D.p, hF.p, hp.ty, ?_⟩
            rw [hp.nn, nI_1]
            exact ⟨fun _ => full m (i + 1) σ (by omega) hF, fun q => absurd (nI_le (by omega) (by omega)) q⟩
          | succ m' ih' =>
            intro j σ hj hF
            obtain ⟨g, hg, _⟩ := hF.s
            have hp := pr_L_ef hp0 hF.f
            obtain ⟨q1, _⟩ := hp.ru j (by omega)
            refine hX19 _ _ _ ⟨hg.en.ty, D.p, hF.p, hp.ty, ?_⟩
            rw [hp.nn]
            refine ⟨fun q => absurd q (nI_ge (by omega) (by omega)), fun _ => ⟨hg.en.ty, D.p, hF.p, hp.ty, D.pa, hp.rr, 16, 7, hp.tr, vp_in_nI (by omega) (by decide), D.ro j, by rw [cl_nI (by omega)]; exact q1, hg.en.ty, fun σ40 e40 => ?_⟩⟩
            have hF40 : fS X D G L T0 σ0 σ40 := by rw [e40]; exact fS_sR hF _
            have h110 : z_R σ40 110 X.a = some (D.ro j) := by rw [e40, z_R_sR, if_pos ⟨rfl, rfl⟩]
            obtain ⟨g', hg', hf', _⟩ := hF40.s
            have hp40 := pr_L_ef hp0 hF40.f
            obtain ⟨_, hB, hH, _⟩ := hp40.ru j (by omega)
            have hh : (G.rs.getD j d_ru).h < 8 := (hok.ru _ (rs_mem (show j < G.rs.length by omega))).1.hh
            have r1 : z_I σ40 3 (D.hb j) = nI (G.rs.getD j d_ru).h := (hH.at'.rl (Nat.zero_le 1)).1
            have nx : X19 (nI i) (nI j + 1) σ40 := by rw [nI_1]; exact ih' (j + 1) σ40 (by omega) hF40
            refine hX46 _ _ _ _ ⟨hg'.en.ty, D.ro j, h110, hB.ty, fun _ => nx, fun _ => ⟨hg'.en.ty, D.p, hF40.p, hp40.ty, D.la, hp40.lr, hg'.en.ty, D.ro j, h110, hB.ty, D.hb j, hH.rh, hH.at'.ty, 8, 10, hp40.lt, by rw [r1]; exact vp_in_nI hh (by decide), fun _ => nx, fun _ => ⟨hg'.en.ty, fun _ => nx, fun q => ?_⟩⟩⟩
            rw [hg'.f, hf'] at q
            exact absurd q (by decide)
        exact f19 (G.rs.length - j) j σ (by omega) hF
      have fin46 : ∀ σ, fS X D G L T0 σ0 σ → ∀ j, j < G.rs.length → z_R σ 110 X.a = some (D.ro j) → ∀ k, X46 (nI i) (nI j) k σ := by
        intro σ hF j hj h110 k
        obtain ⟨g', hg', hf', _⟩ := hF.s
        have hp40 := pr_L_ef hp0 hF.f
        obtain ⟨_, hB, hH, _⟩ := hp40.ru j hj
        have hh : (G.rs.getD j d_ru).h < 8 := (hok.ru _ (rs_mem hj)).1.hh
        have r1 : z_I σ 3 (D.hb j) = nI (G.rs.getD j d_ru).h := (hH.at'.rl (Nat.zero_le 1)).1
        have nx : X19 (nI i) (nI j + 1) σ := by rw [nI_1]; exact fin19 σ hF (j + 1) (by omega)
        refine hX46 _ _ _ _ ⟨hg'.en.ty, D.ro j, h110, hB.ty, fun _ => nx, fun _ => ⟨hg'.en.ty, D.p, hF.p, hp40.ty, D.la, hp40.lr, hg'.en.ty, D.ro j, h110, hB.ty, D.hb j, hH.rh, hH.at'.ty, 8, 10, hp40.lt, by rw [r1]; exact vp_in_nI hh (by decide), fun _ => nx, fun _ => ⟨hg'.en.ty, fun _ => nx, fun q => ?_⟩⟩⟩
        rw [hg'.f, hf'] at q
        exact absurd q (by decide)
      have l19 : ∀ m' j σ g, j + m' = G.rs.length → lS X D G L T0 σ0 g σ → g.fl = false → sdd G L T0 g G.rs.length → prd G L T0 g i j 0 → i < g.q.length → X19 (nI i) (nI j) σ := by
        intro m'
        induction m' with
        | zero =>
          intro j σ g hj hS hfl hsd hpr hiq
          have hp := pr_L_ef hp0 hS.f
          refine hX19 _ _ _ ⟨hS.s.en.ty, D.p, hS.p, hp.ty, ?_⟩
          rw [hp.nn, nI_1]
          refine ⟨fun _ => ih (i + 1) σ g (by omega) hS hfl hsd (fun i' j' k' h1 h2 h3 => hpr i' j' k' h1 h2 ?_) (by omega), fun q => absurd (nI_le (by omega) (by omega)) q⟩
          unfold bef at h3 ⊢
          omega
        | succ m' ih' =>
          intro j σ g hj hS hfl hsd hpr hiq
          have hjl : j < G.rs.length := by omega
          have hp := pr_L_ef hp0 hS.f
          obtain ⟨q1, _⟩ := hp.ru j hjl
          refine hX19 _ _ _ ⟨hS.s.en.ty, D.p, hS.p, hp.ty, ?_⟩
          rw [hp.nn]
          refine ⟨fun q => absurd q (nI_ge (by omega) (by omega)), fun _ => ⟨hS.s.en.ty, D.p, hS.p, hp.ty, D.pa, hp.rr, 16, 7, hp.tr, vp_in_nI (by omega) (by decide), D.ro j, by rw [cl_nI (by omega)]; exact q1, hS.s.en.ty, fun σ40 e40 => ?_⟩⟩
          have hS40 : lS X D G L T0 σ0 g σ40 := by
            rw [e40]
            exact ⟨es_sR hS.s _, ef_tr hS.f (ef_sR (by omega) (by omega)), by rw [z_R_sR, if_neg (fun q => absurd q.1 (by decide))]; exact hS.p, hS.i⟩
          have h110 : z_R σ40 110 X.a = some (D.ro j) := by rw [e40, z_R_sR, if_pos ⟨rfl, rfl⟩]
          obtain ⟨hr, hly, hhn, hmkA, hlit⟩ := hok.ru _ (rs_mem hjl)
          have hh := hr.hh
          have l46 : ∀ m'' k σ g, k + m'' = (G.as j).length → lS X D G L T0 σ0 g σ → z_R σ 110 X.a = some (D.ro j) → g.fl = false → sdd G L T0 g G.rs.length → prd G L T0 g i j k → i < g.q.length → X46 (nI i) (nI j) (nI k) σ := by
            intro m''
            induction m'' with
            | zero =>
              intro k σ g hk hS h110 hfl hsd hpr hiq
              have hp := pr_L_ef hp0 hS.f
              obtain ⟨_, hB, hH, _⟩ := hp.ru j hjl
              have := hB.l5
              refine hX46 _ _ _ _ ⟨hS.s.en.ty, D.ro j, h110, hB.ty, ?_⟩
              rw [hB.sz]
              refine ⟨fun _ => ?_, fun q => absurd (nI_le (by omega) (by omega)) q⟩
              rw [nI_1]
              refine ih' (j + 1) σ g (by omega) hS hfl hsd (fun i' j' k' h1 h2 h3 => ?_) hiq
              by_cases z : bef i j k i' j' k'
              · exact hpr i' j' k' h1 h2 z
              · intro h4 h5
                unfold bef at h3 z
                have : j' = j := by omega
                rw [this] at h5
                omega
            | succ m'' ih'' =>
              intro k σ g hk hS h110 hfl hsd hpr hiq
              have hp := pr_L_ef hp0 hS.f
              obtain ⟨_, hB, hH, ha⟩ := hp.ru j hjl
              have hl5 := hB.l5
              have hkl : k < (G.as j).length := by omega
              obtain ⟨b1, n, hA, hnm, hn'⟩ := hB.bo k hkl
              have r1 : z_I σ 3 (D.hb j) = nI (G.rs.getD j d_ru).h := (hH.at'.rl (Nat.zero_le 1)).1
              have hl8 := hok.l8 (G.rs.getD j d_ru).h
              refine hX46 _ _ _ _ ⟨hS.s.en.ty, D.ro j, h110, hB.ty, ?_⟩
              rw [hB.sz]
              refine ⟨fun q => absurd q (nI_ge (by omega) (by omega)), fun _ => ⟨hS.s.en.ty, D.p, hS.p, hp.ty, D.la, hp.lr, hS.s.en.ty, D.ro j, h110, hB.ty, D.hb j, hH.rh, hH.at'.ty, 8, 10, hp.lt, by rw [r1]; exact vp_in_nI hh (by decide), ?_⟩⟩
              rw [r1, cl_nI (n := (G.rs.getD j d_ru).h) (by omega), hp.ly _ hh, nI_eq (by omega) (by omega)]
              refine ⟨fun hne => ?_, fun hLe => ⟨hS.s.en.ty, fun q => absurd (by rw [hS.s.f, hfl]; rfl) q, fun _ => ⟨hS.s.en.ty, D.ro j, h110, hB.ty, D.bb j, hB.rb, 5, 14, hB.tb, vp_in_nI (by omega) (by decide), D.bo j k, by rw [cl_nI (by omega)]; exact b1, hS.s.en.ty, fun σ101 e101 => ?_⟩⟩⟩
              · rw [nI_1]
                refine ih' (j + 1) σ g (by omega) hS hfl hsd (fun i' j' k' h1 h2 h3 => ?_) hiq
                by_cases z : bef i j k i' j' k'
                · exact hpr i' j' k' h1 h2 z
                · unfold bef at h3 z
                  have : j' = j := by omega
                  rw [this] at h2
                  exact absurd h2 hne
              · have hS101 : lS X D G L T0 σ0 g σ101 := by
                  rw [e101]
                  exact ⟨es_105 hS.s _, ef_tr hS.f (ef_sI (by omega) (by omega)), hS.p, hS.i⟩
                have h110' : z_R σ101 110 X.a = some (D.ro j) := by rw [e101]; exact h110
                have h105 : z_I σ101 105 X.a = 0 := by rw [e101, z_I_sI, if_pos ⟨rfl, rfl⟩]
                have hp101 := pr_L_ef hp0 hS101.f
                have hef101 : ef X σ σ101 := by rw [e101]; exact ef_sI (by omega) (by omega)
                have hA101 := at_L_ef hA hef101
                have hE101 := hS101.s.en
                obtain ⟨qq1, qq2, qq3⟩ := hS101.s.qu rfl hfl
                -- what is left when this literal is done
                have nxt : ∀ σ' g', lS X D G L T0 σ0 g' σ' → z_R σ' 110 X.a = some (D.ro j) → g'.fl = false → sdd G L T0 g' G.rs.length → prd G L T0 g' i j k → prc G L T0 g' i j k → i < g'.q.length → X46 (nI i) (nI j) (nI k + 1) σ' := by
                  intro σ' g' hS' h110' hfl' hsd' hpr' hpc' hiq'
                  rw [nI_1]
                  refine ih'' (k + 1) σ' g' (by omega) hS' h110' hfl' hsd' (fun i' j' k' h1 h2 h3 => ?_) hiq'
                  by_cases z : bef i j k i' j' k'
                  · exact hpr' i' j' k' h1 h2 z
                  · unfold bef at h3 z
                    have e1 : i' = i := by omega
                    have e2 : j' = j := by omega
                    have e3 : k' = k := by omega
                    rw [e1, e2, e3]
                    exact hpc'
                refine ⟨hA101.ty, fun q => ?_, fun q => ?_⟩
                · refine nxt σ101 g hS101 h110' hfl hsd hpr (fun _ _ h0 => ?_) hiq
                  exact absurd (by rw [hA101.kd, h0]; rfl) q
                · have hl0 : ((G.as j).getD k d_lit).1 = 0 := by
                    rw [hA101.kd] at q
                    exact (nI_eq (b := 0) (by have := hA.k2; omega) (by decide)).mp q
                  obtain ⟨s1, s2⟩ := hA101.rl (by omega)
                  obtain ⟨u1, u2⟩ := qq3 i hiq
                  have hqmem : g.q.getD i (0, 0) ∈ g.q := by rw [gd_eq _ _ hiq]; exact List.getElem_mem hiq
                  refine ⟨hA101.ty, hE101.ty, X.q, hE101.rq, 320, 4, hE101.tq, vp_in_nI (by omega) (by decide), ?_⟩
                  rw [cl_nI (by omega), u1, s1]
                  refine ⟨fun hne => ?_, fun heq => ?_⟩
                  · refine nxt σ101 g hS101 h110' hfl hsd hpr (fun _ _ _ x _ he => ?_) hiq
                    exact absurd (by rw [← he]) hne
                  · -- the row stands in this layer
                    obtain ⟨qv1, qv2⟩ := hS.i.qv _ hqmem
                    have qv2 : G.lay (g.q.getD i (0, 0)).1 = L := qv2
                    have heq := (nI_eq (by omega) (by omega)).mp heq
                    have hrow : (g.q.getD i (0, 0)).2 ∈ ks g.T ((G.as j).getD k d_lit).2.1 := by
                      rw [heq]
                      exact ((hS.i.qq hfl).1 _ _ qv2).mpr hqmem
                    obtain ⟨pr, hpr1, hpr2⟩ := List.mem_map.mp hrow
                    have hn := hn' hl0
                    have hkar : kar n (g.q.getD i (0, 0)).2 := by
                      rw [hn, ← hpr2]
                      exact hS.i.kr _ s2 pr hpr1
                    have hlmem := gd_mem hkl
                    have hc : (G.rs.getD j d_ru).c = false := by
                      cases hc : (G.rs.getD j d_ru).c with
                      | false => rfl
                      | true => exact absurd ⟨_, hlmem, hl0, by rw [heq]; exact qv2⟩ (cnt_low hok hjl ha hLe hc)
                    have hps : (G.as j).getD k d_lit ∈ ps_of (G.rs.getD j d_ru).ls := by
                      rw [← ha.ps]
                      exact List.mem_filter.mpr ⟨hlmem, by simpa using hl0⟩
                    refine ⟨hE101.ty, X.k, hE101.rk, 320, 5, hE101.tk, vp_in_nI (by omega) (by decide), hE101.ty, ?_⟩
                    rw [u2]
                    refine en_matches hE101 (eV0 h105) hA101 hnm hkar _ (fun e' σ135 hu hv135 he135 => ?_) (fun σ135 hu hv135 _ => ?_)
                    · refine ⟨fun q => absurd q (by decide), fun _ => ?_⟩
                      have hS135 : lS X D G L T0 σ0 g σ135 := ⟨es_vf hS101.s hv135, ef_tr hS101.f (vf_ef hv135), by rw [vf_R hv135]; exact hS101.p, hS101.i⟩
                      have h110'' : z_R σ135 110 X.a = some (D.ro j) := by rw [vf_R hv135]; exact h110'
                      refine ⟨hS135.s.en.ty, ?_⟩
                      have hdom : ∀ y, e' y ≠ none → ∃ l ∈ ps_of (G.rs.getD j d_ru).ls, vin3 l.2.2 y := fun y hy => by
                        rcases un3_only hu hy with h | h
                        · exact absurd rfl h
                        · exact ⟨_, hps, h⟩
                      refine p_go hok hjl (pr_L_ef hp0 hS135.f) hS135 h110'' hLe hc he135 (pOk0 hr ha (rs_mem hjl) hc hLe hS.i he135.ok hdom) _ (fun g' σ' hS' hr' hPo => ?_)
                      cases hfl' : g'.fl with
                      | true =>
                        rw [nI_1]
                        exact fin46 σ' ⟨⟨g', hS'.s, hfl', Or.inl hS'.i, hS'.i.lo⟩, hS'.f, hS'.p⟩ j hjl hr' _
                      | false =>
                        obtain ⟨z, hz⟩ := hPo.1.q
                        have hlen : g.q.length ≤ g'.q.length := by rw [hz, List.length_append]; omega
                        refine nxt σ' g' hS' hr' hfl' ⟨fun j' h1 h2 h3 h4 h5 y hy => hPo.1.s _ _ (hsd.p j' h1 h2 h3 h4 h5 y hy), fun j' h1 h2 h3 h4 y => ?_, hsd.v, fun j' h1 h2 => by omega⟩ (fun i' j' k' h1 h2 h3 => ?_) ?_ (by omega)
                        · have hne : j' ≠ j := fun z => by rw [z, hc] at h4; cases h4
                          have := hPo.1.o _ (hok.un j' j h2 hjl hne h4)
                          unfold ks
                          rw [this]
                          exact hsd.c j' h1 h2 h3 h4 y
                        · refine prc_mono hPo.1 ?_ (hpr i' j' k' h1 h2 h3)
                          unfold bef at h3
                          omega
                        · intro _ _ _ x hx he
                          have hgq : g'.q.getD i (0, 0) = g.q.getD i (0, 0) := by
                            rw [gd_eq _ _ (by omega), gd_eq _ _ hiq]
                            simp only [hz]
                            rw [List.getElem_append_left hiq]
                          have htk : g'.q.take (i + 1) = g.q.take (i + 1) := by rw [hz, List.take_append_of_le_length (by omega)]
                          rw [hgq] at he
                          have hkey : hk3 x ((G.as j).getD k d_lit).2.2 = (g.q.getD i (0, 0)).2 := by rw [← he]
                          obtain ⟨e2, hu2, hext⟩ := un3_of (e := ev0) (fun y v q => by cases q) hx.ok hA.to hnm (hx.b _ hps) hkey
                          rw [hu] at hu2
                          cases hu2
                          rcases hPo.2.2 with hf | hf
                          · rw [hfl'] at hf; cases hf
                          · rw [List.drop_zero] at hf
                            refine hf x ((arr_from hr ha hx.ok hdom).mpr ⟨hext, hx.d, hx.b, fun l hl => ?_, ?_⟩)
                            · by_cases hll : G.lay l.2.1 = L
                              · have := hx.n l hl hll
                                rw [htk] at this
                                exact ((hS.i.qq hfl).1 _ _ hll).mpr (List.mem_of_mem_take this)
                              · have := hx.o l hl hll
                                unfold ks
                                rw [hS.i.lo _ hll]
                                exact this
                            · rw [tests_low hok hS.i (rs_mem hjl) hLe]; exact hx.t
                    · refine ⟨fun _ => ?_, fun q => absurd rfl q⟩
                      refine nxt σ135 g ⟨es_vf hS101.s hv135, ef_tr hS101.f (vf_ef hv135), by rw [vf_R hv135]; exact hS101.p, hS101.i⟩ (by rw [vf_R hv135]; exact h110') hfl hsd hpr (fun _ _ _ x hx he => ?_) hiq
                      exfalso
                      have hkey : hk3 x ((G.as j).getD k d_lit).2.2 = (g.q.getD i (0, 0)).2 := by rw [← he]
                      obtain ⟨e2, hu2, hext⟩ := un3_of (e := ev0) (fun y v q => by cases q) hx.ok hA.to hnm (hx.b _ hps) hkey
                      rw [hu] at hu2
                      cases hu2
          exact l46 (G.as j).length 0 σ40 g (by omega) hS40 h110 hfl hsd hpr hiq
      have hq := hS.s.qu rfl hfl
      refine hX2 _ _ ⟨hS.s.en.ty, ?_⟩
      rw [hq.1]
      have := hq.2.1
      refine ⟨fun q => ?_, fun q => ⟨fun q2 => absurd q2 (nI_ge (b := 320) (by omega) (by omega)), fun _ => ?_⟩⟩
      · rw [nI_leI (by omega) (by omega)] at q
        exact h1 g σ hS hfl hsd (by rw [show g.q.length = i by omega]; exact hpr)
      · have : i < g.q.length := by
          by_cases z : i < g.q.length
          · exact z
          · exact absurd (nI_le (by omega) (by omega)) q
        exact l19 G.rs.length 0 σ g (by omega) hS hfl hsd hpr this
  rcases hin with ⟨g, hS, hfl, hsd⟩ | hF
  · exact main 320 0 σ1 g (by omega) hS hfl hsd (fun i' j' k' _ _ h3 => by unfold bef at h3; omega) (Nat.zero_le _)
  · exact full 320 0 σ1 (by omega) hF
