/-! SETTLE: a batch is tried on the second rows -/
def VS (x : Nat) (N M : ex_T) (D : pa_T) (G : pg_T) (lt lr lk ls : Nat) (T : Nat → al_T) (σ : z_S) : Prop := (z_ty σ x = some (.inl 7)) ∧ (z_R σ 705 x = some D.p) ∧ (z_R σ 706 x = some N.w) ∧ (z_R σ 707 x = some M.w) ∧ (z_R σ 711 x = some lt) ∧ (z_R σ 712 x = some M.a) ∧ (en_T M σ) ∧ (rw_L N σ T) ∧ (rw_T M σ) ∧ (∀ i j, i < 8 → j < 8 → N.ra i ≠ M.ra j) ∧ (∀ i j, i < 8 → j < 8 → N.ka i ≠ M.ka j) ∧ (∀ i j, i < 8 → j < 8 → N.ca i ≠ M.ca j) ∧ (pr_L σ D G) ∧ (si_T σ lt lr lk ls 640)
theorem VS.ty {x : Nat} {N M : ex_T} {D : pa_T} {G : pg_T} {lt lr lk ls : Nat} {T : Nat → al_T} {σ : z_S} (h' : VS x N M D G lt lr lk ls T σ) : z_ty σ x = some (.inl 7) := h'.1
theorem VS.rp {x : Nat} {N M : ex_T} {D : pa_T} {G : pg_T} {lt lr lk ls : Nat} {T : Nat → al_T} {σ : z_S} (h' : VS x N M D G lt lr lk ls T σ) : z_R σ 705 x = some D.p := h'.2.1
theorem VS.rn {x : Nat} {N M : ex_T} {D : pa_T} {G : pg_T} {lt lr lk ls : Nat} {T : Nat → al_T} {σ : z_S} (h' : VS x N M D G lt lr lk ls T σ) : z_R σ 706 x = some N.w := h'.2.2.1
theorem VS.rm {x : Nat} {N M : ex_T} {D : pa_T} {G : pg_T} {lt lr lk ls : Nat} {T : Nat → al_T} {σ : z_S} (h' : VS x N M D G lt lr lk ls T σ) : z_R σ 707 x = some M.w := h'.2.2.2.1
theorem VS.rl {x : Nat} {N M : ex_T} {D : pa_T} {G : pg_T} {lt lr lk ls : Nat} {T : Nat → al_T} {σ : z_S} (h' : VS x N M D G lt lr lk ls T σ) : z_R σ 711 x = some lt := h'.2.2.2.2.1
theorem VS.re {x : Nat} {N M : ex_T} {D : pa_T} {G : pg_T} {lt lr lk ls : Nat} {T : Nat → al_T} {σ : z_S} (h' : VS x N M D G lt lr lk ls T σ) : z_R σ 712 x = some M.a := h'.2.2.2.2.2.1
theorem VS.en {x : Nat} {N M : ex_T} {D : pa_T} {G : pg_T} {lt lr lk ls : Nat} {T : Nat → al_T} {σ : z_S} (h' : VS x N M D G lt lr lk ls T σ) : en_T M σ := h'.2.2.2.2.2.2.1
theorem VS.N {x : Nat} {N M : ex_T} {D : pa_T} {G : pg_T} {lt lr lk ls : Nat} {T : Nat → al_T} {σ : z_S} (h' : VS x N M D G lt lr lk ls T σ) : rw_L N σ T := h'.2.2.2.2.2.2.2.1
theorem VS.Mt {x : Nat} {N M : ex_T} {D : pa_T} {G : pg_T} {lt lr lk ls : Nat} {T : Nat → al_T} {σ : z_S} (h' : VS x N M D G lt lr lk ls T σ) : rw_T M σ := h'.2.2.2.2.2.2.2.2.1
theorem VS.da {x : Nat} {N M : ex_T} {D : pa_T} {G : pg_T} {lt lr lk ls : Nat} {T : Nat → al_T} {σ : z_S} (h' : VS x N M D G lt lr lk ls T σ) : ∀ i j, i < 8 → j < 8 → N.ra i ≠ M.ra j := h'.2.2.2.2.2.2.2.2.2.1
theorem VS.dk {x : Nat} {N M : ex_T} {D : pa_T} {G : pg_T} {lt lr lk ls : Nat} {T : Nat → al_T} {σ : z_S} (h' : VS x N M D G lt lr lk ls T σ) : ∀ i j, i < 8 → j < 8 → N.ka i ≠ M.ka j := h'.2.2.2.2.2.2.2.2.2.2.1
theorem VS.dc {x : Nat} {N M : ex_T} {D : pa_T} {G : pg_T} {lt lr lk ls : Nat} {T : Nat → al_T} {σ : z_S} (h' : VS x N M D G lt lr lk ls T σ) : ∀ i j, i < 8 → j < 8 → N.ca i ≠ M.ca j := h'.2.2.2.2.2.2.2.2.2.2.2.1
theorem VS.pr {x : Nat} {N M : ex_T} {D : pa_T} {G : pg_T} {lt lr lk ls : Nat} {T : Nat → al_T} {σ : z_S} (h' : VS x N M D G lt lr lk ls T σ) : pr_L σ D G := h'.2.2.2.2.2.2.2.2.2.2.2.2.1
theorem VS.la {x : Nat} {N M : ex_T} {D : pa_T} {G : pg_T} {lt lr lk ls : Nat} {T : Nat → al_T} {σ : z_S} (h' : VS x N M D G lt lr lk ls T σ) : si_T σ lt lr lk ls 640 := h'.2.2.2.2.2.2.2.2.2.2.2.2.2
theorem si_T_ef {X : ex_T} {σ σ' : z_S} (f : ef X σ σ') {a r k s n : Nat} (h : si_T σ a r k s n) : si_T σ' a r k s n := by
  obtain ⟨h1, h2, h3, h4, h5, h6, h7⟩ := h
  exact ⟨by rw [f.1]; exact h1, by rw [f.2.1 600 _ (by omega)]; exact h2, by rw [f.2.1 601 _ (by omega)]; exact h3, by rw [f.2.1 602 _ (by omega)]; exact h4, by rw [f.1]; exact h5, by rw [f.1]; exact h6, by rw [f.1]; exact h7⟩
theorem si_L_ef {X : ex_T} {σ σ' : z_S} (f : ef X σ σ') {a r k s n : Nat} {l : sl_T} (h : si_L σ a r k s n l) : si_L σ' a r k s n l := by
  obtain ⟨h1, h2, h3, h4⟩ := h
  exact ⟨si_T_ef f h1, by rw [f.2.2.2.1 603 _ (by omega) (fun q => by omega)]; exact h2, h3, fun i hi => by rw [f.2.2.2.2 15 _ (by omega) (fun q => by omega) (fun q => by omega), f.2.2.2.2 16 _ (by omega) (fun q => by omega) (fun q => by omega), f.2.2.2.2 17 _ (by omega) (fun q => by omega) (fun q => by omega)]; exact h4 i hi⟩
theorem VS_ef {x : Nat} {N M : ex_T} {D : pa_T} {G : pg_T} {lt lr lk ls : Nat} {T : Nat → al_T} {σ σ' : z_S} (h : VS x N M D G lt lr lk ls T σ) (f : ef M σ σ') : VS x N M D G lt lr lk ls T σ' := by
  have hN : rw_T N σ' := ⟨by rw [f.1]; exact h.N.1.tw, fun i hi => by rw [f.2.2.1]; exact h.N.1.qw i hi, fun i hi => ro_T_ef (h.N.1.ro i hi) f, h.N.1.ia, h.N.1.ik, h.N.1.ic⟩
  refine ⟨by rw [f.1]; exact h.ty, by rw [f.2.1 705 _ (by omega)]; exact h.rp, by rw [f.2.1 706 _ (by omega)]; exact h.rn, by rw [f.2.1 707 _ (by omega)]; exact h.rm, by rw [f.2.1 711 _ (by omega)]; exact h.rl, by rw [f.2.1 712 _ (by omega)]; exact h.re, en_T_ef h.en f, ⟨hN, fun i hi => ?_⟩, rw_T_ef h.Mt f, h.da, h.dk, h.dc, pr_L_ef h.pr f, si_T_ef f h.la⟩
  obtain ⟨b1, b2, b3, b4, b5, b6⟩ := h.N.2 i hi
  exact ⟨ro_T_ef b1 f, by rw [f.2.2.2.1 402 _ (by omega) (fun _ j hj => h.da i j hi hj)]; exact b2, b3, b4, b5, fun j hj => by rw [f.2.2.2.2 12 _ (by omega) (fun _ j' hj' => h.dk i j' hi hj') (fun q => by omega), f.2.2.2.2 13 _ (by omega) (fun q => by omega) (fun _ j' hj' => h.dc i j' hi hj')]; exact b6 j hj⟩
/-- rows of the second set that are known -/
def mrw (M : ex_T) (σ : z_S) (S : Nat → Option al_T) : Prop := ∀ v, v < 8 → ∀ l, S v = some l → ro_L σ (M.ra v) (M.ka v) (M.ca v) l
def oset (S : Nat → Option al_T) (i : Nat) (l : al_T) : Nat → Option al_T := fun v => if v = i then some l else S v
theorem ro_L_oth {X : ex_T} {σ σ' : z_S} (hR : rw_T X σ) {i j : Nat} (hi : i < 8) (hj : j < 8) (hne : j ≠ i) (hf : ro_fr σ σ' (X.ra i) (X.ka i) (X.ca i)) {l : al_T} (h : ro_L σ (X.ra j) (X.ka j) (X.ca j) l) : ro_L σ' (X.ra j) (X.ka j) (X.ca j) l := by
  obtain ⟨h1, h2, h3, h4, h5, h6⟩ := h
  obtain ⟨F, G, y, e⟩ := hf
  have a1 : z_I σ' 402 (X.ra j) = z_I σ 402 (X.ra j) := by
    rw [e, z_I_sI, if_neg (fun z => hne (hR.ia j i hj hi z.2))]; rfl
  have a2 : z_A σ' 12 (X.ka j) = z_A σ 12 (X.ka j) := by
    rw [e, z_A_sI]
    unfold ro_w
    rw [z_A_sA, if_neg (fun z => absurd z.1 (by decide)), z_A_sA, if_neg (fun z => hne (hR.ik j i hj hi z.2))]
  have a3 : z_A σ' 13 (X.ca j) = z_A σ 13 (X.ca j) := by
    rw [e, z_A_sI]
    unfold ro_w
    rw [z_A_sA, if_neg (fun z => hne (hR.ic j i hj hi z.2)), z_A_sA, if_neg (fun z => absurd z.1 (by decide))]
  refine ⟨?_, by rw [a1]; exact h2, h3, h4, h5, fun k hk => by rw [a2, a3]; exact h6 k hk⟩
  rw [e]; exact h1
theorem mrw_set {M : ex_T} {σ σ' : z_S} (hR : rw_T M σ) {S : Nat → Option al_T} (h : mrw M σ S) {i : Nat} (hi : i < 8) {l : al_T} (hf : ro_fr σ σ' (M.ra i) (M.ka i) (M.ca i)) (hl : ro_L σ' (M.ra i) (M.ka i) (M.ca i) l) : mrw M σ' (oset S i l) := by
  intro v hv l' hl'
  unfold oset at hl'
  split at hl'
  · rename_i e
    cases hl'
    rw [e]; exact hl
  · rename_i e
    exact ro_L_oth hR hi hv e hf (h v hv l' hl')
theorem vr_copyTables {x : Nat} {N M : ex_T} {D : pa_T} {G : pg_T} (hok : pg_ok G) {lt lr lk ls : Nat} {T : Nat → al_T} {σ0 : z_S} (hV : VS x N M D G lt lr lk ls T σ0) {S0 : Nat → Option al_T} (hS : mrw M σ0 S0) (P : z_S → Prop) (hP : ∀ σ, ef M σ0 σ → mrw M σ (fun v => if v < G.n ∧ G.vw v = false then some (T v) else S0 v) → P σ) : kp_Vr_copyTables x σ0 P := by
  intro X2 hX
  have hn8 := hok.n8
  have main : ∀ m i σ, i + m = G.n → ef M σ0 σ → mrw M σ (fun v => if v < i ∧ G.vw v = false then some (T v) else S0 v) → X2 (nI i) σ := by
    intro m
    induction m with
    | zero =>
      intro i σ hi hf hm
      have hV' := VS_ef hV hf
      refine hX _ _ ⟨hV'.ty, D.p, hV'.rp, hV'.pr.ty, ?_⟩
      rw [hV'.pr.nr]
      exact ⟨fun _ => hP σ hf (by rw [← show i = G.n by omega]; exact hm), fun q => absurd (nI_le (by omega) (by omega)) q⟩
    | succ m ih =>
      intro i σ hi hf hm
      have hV' := VS_ef hV hf
      refine hX _ _ ⟨hV'.ty, D.p, hV'.rp, hV'.pr.ty, ?_⟩
      rw [hV'.pr.nr]
      refine ⟨fun q => absurd q (nI_ge (by omega) (by omega)), fun _ => ⟨hV'.ty, D.p, hV'.rp, hV'.pr.ty, pr_isView hV'.pr hn8 (by omega) _ ?_⟩⟩
      have step : ∀ v, G.vw i = true → ((if v < i + 1 ∧ G.vw v = false then some (T v) else S0 v) = (if v < i ∧ G.vw v = false then some (T v) else S0 v)) := fun v hb => by
        by_cases z : v = i
        · rw [if_neg (fun y => by rw [z, hb] at y; cases y.2), if_neg (fun y => by omega)]
        · by_cases w : v < i ∧ G.vw v = false
          · rw [if_pos ⟨by omega, w.2⟩, if_pos w]
          · rw [if_neg (fun y => w ⟨by omega, y.2⟩), if_neg w]
      cases hb : G.vw i with
      | true =>
        refine ⟨fun _ => ?_, fun q => absurd q (by decide)⟩
        rw [nI_1]
        exact ih (i + 1) σ (by omega) hf (fun v hv l hl => hm v hv l (by rw [← hl]; exact (step v hb).symm))
      | false =>
        have i8 : i < 8 := by omega
        refine ⟨fun q => absurd rfl q, fun _ => ⟨hV'.ty, M.w, hV'.rm, 8, M.s, hV'.Mt.tw, vp_in_nI i8 (by decide), M.ra i, by rw [cl_nI (by omega)]; exact hV'.Mt.qw i i8, hV'.ty, N.w, hV'.rn, 8, N.s, hV'.N.1.tw, vp_in_nI i8 (by decide), N.ra i, by rw [cl_nI (by omega)]; exact hV'.N.1.qw i i8, (hV'.Mt.ro i i8).1, ?_⟩⟩
        refine ro_copy (hV'.Mt.ro i i8) (hV'.N.2 i i8) (fun z => hV.da i i i8 i8 z.symm) (fun z => hV.dk i i i8 i8 z.symm) (fun z => hV.dc i i i8 i8 z.symm) _ (fun σ' hl hfr => ?_)
        rw [nI_1]
        refine ih (i + 1) σ' (by omega) (ef_tr hf (ef_ro i8 hfr)) (fun v hv l hl' => ?_)
        refine mrw_set hV'.Mt hm i8 hfr hl v hv l ?_
        have hl' : (if v < i + 1 ∧ G.vw v = false then some (T v) else S0 v) = some l := hl'
        show (if v = i then some (T i) else if v < i ∧ G.vw v = false then some (T v) else S0 v) = some l
        by_cases z : v = i
        · rw [if_pos z]
          rw [if_pos ⟨by omega, by rw [z]; exact hb⟩] at hl'
          rw [← hl', z]
        · rw [if_neg z]
          rw [← hl']
          by_cases w : v < i ∧ G.vw v = false
          · rw [if_pos w, if_pos ⟨by omega, w.2⟩]
          · rw [if_neg w, if_neg (fun y => w ⟨by omega, y.2⟩)]
  exact main G.n 0 σ0 (by omega) (ef_rf M σ0) (fun v hv l hl => hS v hv l (by
    have hl : (if v < 0 ∧ G.vw v = false then some (T v) else S0 v) = some l := hl
    rw [if_neg (fun y => absurd y.1 (Nat.not_lt_zero v))] at hl
    exact hl))
