/-! CALLS THAT LOOK ALONE -/
theorem fin_op {V : vc_T} {a1 : ab_T} {σ1 : z_S} {m : Nat} {ma : Nat → Nat} (hC : CI V a1 σ1) (hT : mo_T σ1 m ma) (hm : ∀ t, t < 23 → ma t = m) {r : Int32} {P2 : Int32 → z_S → Prop} (h2 : ∀ σ2, IN V.x m σ2 → P2 r σ2) : ∀ (r' : Int32) (μ' : mo_U), (r' = r ∧ RR a1 μ' ∧ lowf (mu_of σ1 m ma) μ') → P2 r' (mo_put σ1 m ma μ') := by
  rintro r' μ' ⟨rfl, hR, hl⟩
  exact h2 _ ⟨V, a1, ma, rfl, CI_c hC (ceq_put hm hl), hT, hm, by rw [mu_of_put]; exact hR⟩
theorem lowf_rf (μ : mo_U) : lowf μ μ := ⟨fun _ _ => rfl, fun _ _ => rfl⟩
theorem vr_noRules {V : vc_T} {a : ab_T} {σ : z_S} (h : CI V a σ) (P : Int32 → z_S → Prop) (h1 : a.on = true → P 0 σ) (h0 : a.on = false → P 1 σ) : kp_Vr_hasNoRules V.x σ P := by
  have hp := h.pg
  cases hb : a.on with
  | true =>
    rw [hb] at hp
    have hp : prg V a σ := hp
    refine ⟨h.ty, V.D.p, hp.rp, hp.pr.ty, fun _ => h1 hb, fun q => ?_⟩
    rw [hp.pr.nn] at q
    have := hp.pr.n16
    have := hp.r1
    exact absurd q (nI_ne0 (by omega) (by omega))
  | false =>
    rw [hb] at hp
    have hp : non V a σ := hp
    exact ⟨h.ty, V.p0, hp.rp, hp.ty, fun q => absurd hp.i1 q, fun _ => h0 hb⟩
theorem CI_prg {V : vc_T} {a : ab_T} {σ : z_S} (h : CI V a σ) (hb : a.on = true) : prg V a σ := by
  have := h.pg
  rw [hb] at this
  exact this
theorem CI_non {V : vc_T} {a : ab_T} {σ : z_S} (h : CI V a σ) (hb : a.on = false) : non V a σ := by
  have := h.pg
  rw [hb] at this
  exact this
def RO (a : ab_T) (μ : mo_U) (T' : Nat → al_T) : Prop := (rT μ a.G T') ∧ (∀ v, v < a.G.n → T' v = a.T v) ∧ (∀ v, ¬ v < a.G.n → T' v = []) ∧ (∀ k, k < a.G.n → μ.2 34 k = nI (a.nm.getD k 0) ∧ μ.2 35 k = nI (a.G.A k)) ∧ (∀ i, i < a.G.rs.length → ∀ k, k < 26 → bi (μ.2 33 i) k = vlt (a.G.rs.getD i d_ru).ls k) ∧ (∀ i j, i < 8 → j < 8 → μ.2 38 (8 * i + j) = if a.rc i j then 1 else 0) ∧ (μ.1 831 = nI a.cs.length ∧ fives (μ.2 46) 0 a.cs) ∧ (μ.1 834 = nI a.hs.length ∧ ∀ i, i < a.hs.length → μ.2 48 i = nI (a.hs.getD i []).length ∧ fives (μ.2 47) (300 * i) (a.hs.getD i [])) ∧ (mo_DL μ a.dl)
theorem RO.t {a : ab_T} {μ : mo_U} {T' : Nat → al_T} (h' : RO a μ T') : rT μ a.G T' := h'.1
theorem RO.e {a : ab_T} {μ : mo_U} {T' : Nat → al_T} (h' : RO a μ T') : ∀ v, v < a.G.n → T' v = a.T v := h'.2.1
theorem RO.p {a : ab_T} {μ : mo_U} {T' : Nat → al_T} (h' : RO a μ T') : ∀ v, ¬ v < a.G.n → T' v = [] := h'.2.2.1
theorem RO.n {a : ab_T} {μ : mo_U} {T' : Nat → al_T} (h' : RO a μ T') : ∀ k, k < a.G.n → μ.2 34 k = nI (a.nm.getD k 0) ∧ μ.2 35 k = nI (a.G.A k) := h'.2.2.2.1
theorem RO.l {a : ab_T} {μ : mo_U} {T' : Nat → al_T} (h' : RO a μ T') : ∀ i, i < a.G.rs.length → ∀ k, k < 26 → bi (μ.2 33 i) k = vlt (a.G.rs.getD i d_ru).ls k := h'.2.2.2.2.1
theorem RO.r {a : ab_T} {μ : mo_U} {T' : Nat → al_T} (h' : RO a μ T') : ∀ i j, i < 8 → j < 8 → μ.2 38 (8 * i + j) = if a.rc i j then 1 else 0 := h'.2.2.2.2.2.1
theorem RO.b {a : ab_T} {μ : mo_U} {T' : Nat → al_T} (h' : RO a μ T') : μ.1 831 = nI a.cs.length ∧ fives (μ.2 46) 0 a.cs := h'.2.2.2.2.2.2.1
theorem RO.h {a : ab_T} {μ : mo_U} {T' : Nat → al_T} (h' : RO a μ T') : μ.1 834 = nI a.hs.length ∧ ∀ i, i < a.hs.length → μ.2 48 i = nI (a.hs.getD i []).length ∧ fives (μ.2 47) (300 * i) (a.hs.getD i []) := h'.2.2.2.2.2.2.2.1
theorem RO.d {a : ab_T} {μ : mo_U} {T' : Nat → al_T} (h' : RO a μ T') : mo_DL μ a.dl := h'.2.2.2.2.2.2.2.2
theorem RR_on {a : ab_T} {μ : mo_U} (h : RR a μ) (hb : a.on = true) : ∃ T', RO a μ T' := by
  have := h.pg
  rw [if_pos hb] at this
  obtain ⟨⟨T', h1, h2, h3⟩, h4, h5, h6, h7, h8, h9⟩ := this
  exact ⟨T', h1, h2, h3, h4, h5, h6, h7, h8, h9⟩
theorem RR_off {a : ab_T} {μ : mo_U} (h : RR a μ) (hb : a.on = false) : μ.1 808 = 0 ∧ μ.1 831 = 0 := by
  have := h.pg
  rw [if_neg (by rw [hb]; decide)] at this
  exact this
theorem RO_808 {V : vc_T} {a : ab_T} {σ : z_S} (hp : prg V a σ) {μ : mo_U} {T' : Nat → al_T} (h : RO a μ T') : ¬ μ.1 808 = 0 := by
  rw [h.t.g.nn]
  have := hp.pr.n16
  have := hp.r1
  exact nI_ne0 (by omega) (by omega)
theorem op_place : st_place IN := by
  rintro x m σ P ⟨V, a, ma, rfl, hC, hT, hm, hR⟩ hP
  refine ⟨hC.ty, hC.ty, hP _ σ (mo_ty0 hT) (fun P2 h2 => ?_)⟩
  rw [← mu_put σ m ma]
  refine mq_place hT _ _ P2 (fin_op hC hT hm h2) ?_
  exact ⟨by rw [hR.pl, ← hC.pl], hR, lowf_rf _⟩
theorem nI_m1 {n : Nat} (h : n < 2147483648) (x : Int32) : (nI n - 1 < x) ↔ ¬ (x.toInt < n) := by
  rw [i32_lt]
  have e : (nI n - 1).toInt = (n : Int) - 1 := by
    have := nI_dec n h
    rw [this, ofI_toInt (by omega) (by omega)]
  rw [e]
  omega
theorem op_ring : st_ring IN := by
  rintro x m σ x1 P ⟨V, a, ma, rfl, hC, hT, hm, hR⟩ hP
  refine ⟨hC.ty, ?_⟩
  have g8 := hC.g8
  have fin : ∀ r : Int32, (∀ Q : Int32 → mo_U → Prop, Q r (mu_of σ m ma) → mp_ring x1 (mu_of σ m ma) Q) → P r σ := fun r hr => by
    refine hP r σ (mo_ty0 hT) (fun P2 h2 => ?_)
    rw [← mu_put σ m ma]
    exact mq_ring hT x1 _ _ P2 (fin_op hC hT hm h2) (hr _ ⟨rfl, hR, lowf_rf _⟩)
  have none : (∀ j, j < a.rg.length → x1 ≠ nI j) → P (-1) σ := fun hno => by
    refine fin (-1) (fun Q hQ => ⟨fun _ => hQ, fun h6 => ?_⟩)
    have hr := hR.rg
    rw [if_pos h6] at hr
    refine ⟨fun _ => ⟨fun _ => hQ, fun q => absurd rfl q⟩, fun q => ⟨fun _ => ⟨fun _ => hQ, fun q => absurd rfl q⟩, fun q2 => ?_⟩⟩
    exfalso
    rw [hr.1, nI_m1 (by omega), Classical.not_not] at q2
    obtain ⟨j, hj, e⟩ := nI_of q
    rw [e, nI_toInt (by omega)] at q2
    exact hno j (by omega) e
  refine ⟨fun q => none (fun j hj e => ?_), fun q => ⟨hC.ty, fun q2 => ⟨hC.ty, V.rg, hC.r3, 8, 19, hC.t3, ?_⟩, fun q2 => none (fun j hj e => ?_)⟩⟩
  · rw [e] at q; exact absurd q (nI_pos (by omega))
  · obtain ⟨j, hj, e⟩ := nI_of q
    rw [hC.n4, e, nI_ltI (by omega) (by omega)] at q2
    subst e
    rw [cl_nI (by omega), hC.gg j q2]
    refine ⟨vp_in_nI (by omega) (by decide), ?_⟩
    have hr := hR.rg
    by_cases h6 : (mu_of σ m ma).1 806 = 6
    · rw [if_pos h6] at hr
      refine fin _ (fun Q hQ => ⟨fun z => absurd h6 z, fun _ => ⟨fun z => absurd z (nI_pos (by omega)), fun _ => ⟨fun z => ?_, fun _ => ⟨fun z => absurd z (by decide), fun _ => ⟨vp_in_nI (by omega) (by decide), ?_⟩⟩⟩⟩⟩)
      · rw [hr.1, nI_m1 (by omega), nI_toInt (by omega)] at z
        exact absurd (by omega) z
      · rw [cl_nI (by omega), hr.2 j q2]; exact hQ
    · rw [if_neg h6] at hr
      rw [hr] at q2
      exact absurd q2 (Nat.not_lt_zero j)
  · rw [hC.n4, e, nI_ltI (by omega) (by omega)] at q2
    exact absurd hj q2
theorem op_relation : st_relation IN := by
  rintro x m σ x1 P ⟨V, a, ma, rfl, hC, hT, hm, hR⟩ hP
  refine ⟨hC.ty, hC.ty, ?_⟩
  have fin : ∀ r : Int32, (∀ Q : Int32 → mo_U → Prop, Q r (mu_of σ m ma) → mp_relation x1 (mu_of σ m ma) Q) → P r σ := fun r hr => by
    refine hP r σ (mo_ty0 hT) (fun P2 h2 => ?_)
    rw [← mu_put σ m ma]
    exact mq_relation hT x1 _ _ P2 (fin_op hC hT hm h2) (hr _ ⟨rfl, hR, lowf_rf _⟩)
  refine vr_noRules hC _ (fun hb => ⟨fun _ => ?_, fun q => absurd rfl q⟩) (fun hb => ⟨fun q => absurd q (by decide), fun _ => ?_⟩)
  · have hp := CI_prg hC hb
    obtain ⟨T', hO⟩ := RR_on hR hb
    have hn8 := hp.ok.n8
    refine ⟨hC.ty, V.D.p, hp.rp, hp.pr.ty, ?_⟩
    intro X2 hX
    have main : ∀ k i, i + k = a.G.n → (∀ j, j < i → ¬ nI (a.nm.getD j 0) = x1) → X2 (nI i) σ := by
      intro k
      induction k with
      | zero =>
        intro i hi hno
        refine hX _ _ ⟨hp.pr.ty, ?_⟩
        rw [hp.pr.nr]
        refine ⟨fun _ => fin (-1) (fun Q hQ X12 h12 => ⟨fun _ => ?_, fun q => absurd q (RO_808 hp hO)⟩), fun q => absurd (nI_le (by omega) (by omega)) q⟩
        have loop : ∀ k i, i + k = a.G.n → X12 (nI i) (mu_of σ m ma) := by
          intro k
          induction k with
          | zero =>
            intro i hi
            refine h12 _ _ ?_
            rw [hO.t.g.kn]
            exact ⟨fun _ => hQ, fun q => absurd (nI_le (by omega) (by omega)) q⟩
          | succ k ih =>
            intro i hi
            refine h12 _ _ ?_
            rw [hO.t.g.kn]
            refine ⟨fun q => absurd q (nI_ge (by omega) (by omega)), fun _ => ⟨vp_in_nI (by omega) (by decide), ?_⟩⟩
            rw [cl_nI (by omega), (hO.n i (by omega)).1, nI_1]
            exact ⟨fun _ => ih (i + 1) (by omega), fun q => absurd q (hno i (by omega))⟩
        exact loop a.G.n 0 (by omega)
      | succ k ih =>
        intro i hi hno
        refine hX _ _ ⟨hp.pr.ty, ?_⟩
        rw [hp.pr.nr]
        refine ⟨fun q => absurd q (nI_ge (by omega) (by omega)), fun _ => ⟨hp.pr.ty, V.na, hp.px.nr, 8, 8, hp.px.nt, vp_in_nI (by omega) (by decide), ?_⟩⟩
        rw [cl_nI (by omega), hp.px.nv i (by omega), nI_1]
        refine ⟨fun q => ih (i + 1) (by omega) (fun j hj => ?_), fun q => fin (nI i) (fun Q hQ X12 h12 => ⟨fun _ => ?_, fun q => absurd q (RO_808 hp hO)⟩)⟩
        · by_cases z : j = i
          · rw [z]; exact q
          · exact hno j (by omega)
        · have loop : ∀ k j, j + k = i → X12 (nI j) (mu_of σ m ma) := by
            intro k
            induction k with
            | zero =>
              intro j hj
              refine h12 _ _ ?_
              rw [hO.t.g.kn]
              refine ⟨fun q => absurd q (nI_ge (by omega) (by omega)), fun _ => ⟨vp_in_nI (by omega) (by decide), ?_⟩⟩
              rw [cl_nI (by omega), (hO.n j (by omega)).1, show j = i by omega]
              exact ⟨fun z => absurd q z, fun _ => hQ⟩
            | succ k ihk =>
              intro j hj
              refine h12 _ _ ?_
              rw [hO.t.g.kn]
              refine ⟨fun q => absurd q (nI_ge (by omega) (by omega)), fun _ => ⟨vp_in_nI (by omega) (by decide), ?_⟩⟩
              rw [cl_nI (by omega), (hO.n j (by omega)).1, nI_1]
              exact ⟨fun _ => ihk (j + 1) (by omega), fun z => absurd z (hno j (by omega))⟩
          exact loop i 0 (by omega)
    exact main a.G.n 0 (by omega) (fun j hj => absurd hj (Nat.not_lt_zero j))
  · exact fin (-4) (fun Q hQ X12 h12 => ⟨fun q => absurd (RR_off hR hb).1 q, fun _ => hQ⟩)
