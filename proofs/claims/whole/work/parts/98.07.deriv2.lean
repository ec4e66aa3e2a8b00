def dsum (G : pg_T) (S : Nat → List Nat) (v key : Nat) : Nat → Nat
  | 0 => 0
  | i + 1 => dsum G S v key i + if (G.rs.getD i d_ru).h = v then (dsol S (G.rs.getD i d_ru) key).length else 0
def dhas (G : pg_T) (S : Nat → List Nat) (v key i : Nat) : Prop := (G.rs.getD i d_ru).h = v ∧ dsol S (G.rs.getD i d_ru) key ≠ []
theorem en_begin {X : ex_T} {D : pa_T} {go : Nat} (hgo : go ≠ 0) {T : Nat → al_T} {σ : z_S} (hE : en_T X σ) (hW : rw_L X σ T) (hc : cpos T) (P : z_S → Prop) (hP : ∀ σ', es X go ⟨T, [], false⟩ σ' → ef X σ σ' → z_R σ' 109 X.a = some D.p → z_I σ' 107 X.a = 0 → P σ') : kp_En_begin X.a D.p X.w (nI go) σ P := by
  refine ⟨hE.ty, fun σ2 e2 => ⟨by rw [e2]; exact hE.ty, fun σ7 e7 => ⟨by rw [e7, e2]; exact hE.ty, fun σ12 e12 => ⟨by rw [e12, e7, e2]; exact hE.ty, fun σ17 e17 => ⟨by rw [e17, e12, e7, e2]; exact hE.ty, Or.inl rfl, fun σ22 e22 => ?_⟩⟩⟩⟩⟩
  have hef22 : ef X σ σ22 := by
    rw [e22, e17, e12, e7, e2]
    exact ef_tr (ef_sR (by omega) (by omega)) (ef_tr (ef_sR (by omega) (by omega)) (ef_tr (ef_sI (by omega) (by omega)) (ef_tr (ef_sI (by omega) (by omega)) (ef_sI (by omega) (by omega)))))
  refine hP σ22 ⟨en_T_ef hE hef22, rw_L_I hW hef22 (fun a => ?_) (fun a => by rw [e22, e17, e12, e7, e2]; rfl) (fun a => by rw [e22, e17, e12, e7, e2]; rfl), ?_, ?_, ?_, hc, fun z => absurd z hgo⟩ hef22 ?_ ?_
  · rw [e22, z_I_sI, if_neg (fun z => absurd z.1 (by decide)), e17, z_I_sI, if_neg (fun z => absurd z.1 (by decide)), e12, z_I_sI, if_neg (fun z => absurd z.1 (by decide)), e7, e2]
    rfl
  · rw [e22, e17, e12, e7]
    simp only [z_R_sI]
    rw [z_R_sR, if_pos ⟨rfl, rfl⟩]
  · rw [e22, e17, e12, z_I_sI, if_neg (fun z => absurd z.1 (by decide)), z_I_sI, if_neg (fun z => absurd z.1 (by decide)), z_I_sI, if_pos ⟨rfl, rfl⟩]
  · rw [e22, z_I_sI, if_pos ⟨rfl, rfl⟩]; rfl
  · rw [e22, e17, e12, e7, e2]
    simp only [z_R_sI]
    rw [z_R_sR, if_neg (fun z => absurd z.1 (by decide)), z_R_sR, if_pos ⟨rfl, rfl⟩]
  · rw [e22, e17, z_I_sI, if_neg (fun z => absurd z.1 (by decide)), z_I_sI, if_pos ⟨rfl, rfl⟩]
theorem en_countDer {X : ex_T} {D : pa_T} {G : pg_T} (hok : pg_ok G) {T : Nat → al_T} (hT : vT G T) {σ : z_S} (hE : en_T X σ) (hW : rw_L X σ T) (hp : pr_L σ D G) (hlt : ∀ i, i < G.rs.length → lt_L σ (D.ro i) (vlt (G.rs.getD i d_ru).ls)) {v key : Nat} (hv : v < 8) (hkar : kar (G.A v) key) (hpl : ∀ i, i < G.rs.length → (G.rs.getD i d_ru).h = v → (G.rs.getD i d_ru).c = false) (P : Int32 → z_S → Prop) (hP : ∀ σ', rw_L X σ' T → ef X σ σ' → P (nI (dsum G (ks T) v key G.rs.length)) σ') : kp_En_countDerivations X.a D.p X.w (nI v) (nI key) σ P := by
  intro X10 hX
  have hn16 := hp.n16
  refine ⟨hE.ty, en_begin (go := 1) (by decide) hE hW hT.cp _ (fun σ1 hs1 hf1 h109 h107 => ?_)⟩
  have main : ∀ m i σ', i + m = G.rs.length → es X 1 ⟨T, [], false⟩ σ' → ef X σ σ' → z_R σ' 109 X.a = some D.p → z_I σ' 107 X.a = nI (dsum G (ks T) v key i) → X10 (nI i) σ' := by
    intro m
    induction m with
    | zero =>
      intro i σ' hi hs hf h109 h107
      have hp' := pr_L_ef hp hf
      refine hX _ _ ⟨hs.en.ty, D.p, h109, hp'.ty, ?_⟩
      rw [hp'.nn]
      refine ⟨fun _ => ⟨hs.en.ty, ?_⟩, fun q => absurd (nI_le (by omega) (by omega)) q⟩
      rw [h107, show i = G.rs.length by omega]
      exact hP σ' hs.rw hf
    | succ m ih =>
      intro i σ' hi hs hf h109 h107
      have hp' := pr_L_ef hp hf
      refine hX _ _ ⟨hs.en.ty, D.p, h109, hp'.ty, ?_⟩
      rw [hp'.nn]
      refine ⟨fun q => absurd q (nI_ge (by omega) (by omega)), fun _ => ⟨hs.en.ty, en_solveFor hok (Or.inl rfl) hT hp' (by omega) (lt_L_ef (hlt i (by omega)) hf) hs h109 (fun z => by omega) h107 hv hkar (hpl i (by omega)) _ (fun σ2 hs2 hf2 h109' h107' _ => ?_)⟩⟩
      rw [nI_1]
      exact ih (i + 1) σ2 (by omega) hs2 (ef_tr hf hf2) h109' h107'
  exact main G.rs.length 0 σ1 (by omega) hs1 hf1 h109 h107
theorem en_findLeast {X : ex_T} {D : pa_T} {G : pg_T} (hok : pg_ok G) {T : Nat → al_T} (hT : vT G T) {σ : z_S} (hE : en_T X σ) (hW : rw_L X σ T) (hp : pr_L σ D G) (hlt : ∀ i, i < G.rs.length → lt_L σ (D.ro i) (vlt (G.rs.getD i d_ru).ls)) {v key : Nat} (hv : v < 8) (hkar : kar (G.A v) key) (hpl : ∀ i, i < G.rs.length → (G.rs.getD i d_ru).h = v → (G.rs.getD i d_ru).c = false) (P : Int32 → z_S → Prop) (h0 : (∀ i, i < G.rs.length → ¬ dhas G (ks T) v key i) → ∀ σ', rw_L X σ' T → ef X σ σ' → P (-1) σ') (h1 : ∀ i b, i < G.rs.length → (∀ j, j < i → ¬ dhas G (ks T) v key j) → dhas G (ks T) v key i → bestL (dsol (ks T) (G.rs.getD i d_ru) key) = some b → ∀ σ', rw_L X σ' T → ef X σ σ' → en_T X σ' → ls_R X σ' (vlt (G.rs.getD i d_ru).ls) b → P (nI i) σ') : kp_En_findLeast X.a D.p X.w (nI v) (nI key) σ P := by
  intro X10 hX
  have hn16 := hp.n16
  refine ⟨hE.ty, en_begin (go := 2) (by decide) hE hW hT.cp _ (fun σ1 hs1 hf1 h109 h107 => ?_)⟩
  have main : ∀ m i σ', i + m = G.rs.length → es X 2 ⟨T, [], false⟩ σ' → ef X σ σ' → z_R σ' 109 X.a = some D.p → z_I σ' 107 X.a = nI 0 → (∀ j, j < i → ¬ dhas G (ks T) v key j) → X10 (nI i) σ' := by
    intro m
    induction m with
    | zero =>
      intro i σ' hi hs hf h109 h107 hno
      have hp' := pr_L_ef hp hf
      refine hX _ _ ⟨hs.en.ty, D.p, h109, hp'.ty, ?_⟩
      rw [hp'.nn]
      exact ⟨fun _ => h0 (fun j hj => hno j (by omega)) σ' hs.rw hf, fun q => absurd (nI_le (by omega) (by omega)) q⟩
    | succ m ih =>
      intro i σ' hi hs hf h109 h107 hno
      have hp' := pr_L_ef hp hf
      refine hX _ _ ⟨hs.en.ty, D.p, h109, hp'.ty, ?_⟩
      rw [hp'.nn]
      refine ⟨fun q => absurd q (nI_ge (by omega) (by omega)), fun _ => ⟨hs.en.ty, en_solveFor hok (Or.inr rfl) hT hp' (by omega) (lt_L_ef (hlt i (by omega)) hf) hs h109 (fun _ => rfl) h107 hv hkar (hpl i (by omega)) _ (fun σ2 hs2 hf2 h109' h107' hls => ⟨hs2.en.ty, ?_⟩)⟩⟩
      rw [Nat.zero_add] at h107'
      have hil : i < G.rs.length := by omega
      obtain ⟨hr, _⟩ := hok.ru _ (rs_mem hil)
      have hlen : (dsol (ks T) (G.rs.getD i d_ru) key).length ≤ 64000 := by
        refine Nat.le_trans (List.length_filter_le _ _) (Nat.le_trans (List.length_filter_le _ _) (sols_64 hr (fun l hl h1 => ?_)))
        have := (hr.lit l hl).2.2.1 h1
        rw [ks_len]; exact hT.c40 _ this
      have hn : z_I σ2 107 X.a ≤ 0 ↔ ¬ dhas G (ks T) v key i := by
        rw [h107', show (0 : Int32) = nI 0 from rfl]
        unfold dhas
        by_cases hh : (G.rs.getD i d_ru).h = v
        · rw [if_pos hh, nI_leI (by omega) (by decide)]
          constructor
          · rintro z ⟨_, hne⟩
            exact hne (List.length_eq_zero_iff.mp (by omega))
          · intro z
            cases hd : dsol (ks T) (G.rs.getD i d_ru) key with
            | nil => exact Nat.le_refl 0
            | cons a l => exact absurd ⟨hh, by rw [hd]; exact fun y => by cases y⟩ z
        · rw [if_neg hh]
          exact ⟨fun _ y => hh y.1, fun _ => nI_le (Nat.le_refl 0) (by decide)⟩
      refine ⟨fun q => ?_, fun q => ?_⟩
      · rw [nI_1]
        have hnd := hn.mp q
        refine ih (i + 1) σ2 (by omega) hs2 (ef_tr hf hf2) h109' ?_ (fun j hj => ?_)
        · rw [h107']
          by_cases hh : (G.rs.getD i d_ru).h = v
          · rw [if_pos hh]
            cases hd : dsol (ks T) (G.rs.getD i d_ru) key with
            | nil => rfl
            | cons a l => exact absurd ⟨hh, by rw [hd]; exact fun y => by cases y⟩ hnd
          · rw [if_neg hh]
        · by_cases z : j = i
          · rw [z]; exact hnd
          · exact hno j (by omega)
      · have hd : dhas G (ks T) v key i := Classical.not_not.mp (fun z => q (hn.mpr z))
        cases hb : bestL (dsol (ks T) (G.rs.getD i d_ru) key) with
        | none => exact absurd (bestL_none hb) hd.2
        | some b => exact h1 i b hil hno hd hb σ2 hs2.rw (ef_tr hf hf2) hs2.en (hls rfl hd.1 b hb)
  exact main G.rs.length 0 σ1 (by omega) hs1 hf1 h109 h107 (fun j hj => absurd hj (Nat.not_lt_zero j))
