theorem bool_iff {a b : Bool} (h : a = true ↔ b = true) : a = b := by cases a <;> cases b <;> simp_all
/-- the rules that were read, as the calls look at them -/
theorem prL_of {t : tx_T} {K : rd_T} {p : pp_T} {σr σ : z_S} (hi : pinv p.rs p.nm p.A) {D : pa_T} (hD : D.p = K.P) {ra : Nat} {as : Nat → List lit_T} (hW : rW t K t.n p.nm p.A σr) (hp : rP σr D ra p.rs as p.A) {L : Nat → Nat} {top : Nat} (hly : lyS σ D.la L) (h7 : z_I σ 207 D.p = nI top) (f : nf [(207, D.p), (208, D.p)] [(10, D.la), (11, ra)] σr σ) : pr_L σ D (G_of p as L top) := by
  refine ⟨by rw [f.ty]; exact hp.ty, by rw [f.R]; exact hp.rr, by rw [f.ty]; exact hp.tr, by rw [f.I _ _ (by simp)]; exact hp.nn, hp.n16, fun i h => ?_, by rw [f.R]; exact hp.lr, by rw [f.ty]; exact hp.tl, hly, by rw [f.I _ _ (by simp), hD]; exact hW.s.n.nn, h7, fun v hv => ?_⟩
  · obtain ⟨h1, h2, h3, h4⟩ := hp.ru i h
    exact ⟨by rw [f.Q]; exact h1, bd_nf h2 f (by simp) (by simp) (by simp), hd_nf h3 f (by simp) (by simp) (by simp), h4⟩
  · rw [f.I _ _ (by simp)]
    exact bool_iff ((hp.vw v hv).trans any_h.symm)
noncomputable def a_on (a : ab_T) (p : pp_T) (G : pg_T) (T : Nat → al_T) : ab_T := ⟨0, a.tt, -1, [], true, G, p.nm, fun i j => cb (rea p.rs i j), T, [], [], []⟩
theorem pxL_of {t : tx_T} {K : rd_T} {p : pp_T} {a : ab_T} {σr σ : z_S} (hi : pinv p.rs p.nm p.A) {V : vc_T} (hD : V.D.p = K.P) (hna : V.na = K.na) (hta : V.ta = K.ta) {as : Nat → List lit_T} (hW : rW t K t.n p.nm p.A σr) (hp : rP σr V.D V.ra p.rs as p.A) {L : Nat → Nat} {top : Nat} {T : Nat → al_T} (hr : rb σ V.ra (rea p.rs)) (f : nf [(207, V.D.p), (208, V.D.p)] [(10, V.D.la), (11, V.ra)] σr σ) : px_L σ V (a_on a p (G_of p as L top) T) := by
  have hal := hi.ok.al
  have n8 := hi.ok.n8
  refine ⟨by rw [f.R, hD, hna]; exact hW.s.n.rn, by rw [f.ty, hna]; exact hW.s.n.tn, fun k hk => ?_, by rw [f.R, hD, hta]; exact hW.s.rt, by rw [f.ty, hta]; exact hW.s.tt, fun k hk => ?_, by rw [f.R]; exact hp.er, by rw [f.ty]; exact hp.te, fun k hk j hj => ?_, fun v hv => ?_, fun i h => ?_⟩
  · have hk : k < p.nm.length := hk
    rw [f.A _ _ (by simp), hna]; exact hW.s.n.vn k hk
  · have hk : k < p.nm.length := hk
    rw [f.A _ _ (by simp), hta]
    show _ = nI (p.A.getD k 3)
    rw [gd03 (by omega)]
    exact hW.s.vt k hk
  · have hk : k < p.nm.length := hk
    exact bool_iff ((hr k j (by omega) hj).trans cb_t.symm)
  · rw [f.I _ _ (by simp)]
    exact hp.cv v hv
  · have hl := hp.lt i h
    exact ⟨by rw [f.ty]; exact hl.ty, fun k hk => by rw [f.I _ _ (by simp)]; exact hl.b k hk, by rw [f.I _ _ (by simp)]; exact hl.n, hl.n6⟩
theorem xf_req {x o1 o2 m : Nat} {σ σ' : z_S} (h : xf x o1 o2 σ σ') (hm : z_ty σ m ≠ none) : req m σ σ' := ⟨h.ty, fun f hf => h.R f m hm (fun z => by omega), fun f hf => h.I f m hm (fun z => by omega) (fun z => by omega), fun t a ht ha => h.A t a ha (by omega)⟩
theorem req_tr {m : Nat} {σ σ' σ'' : z_S} (h : req m σ σ') (g : req m σ' σ'') : req m σ σ'' := by
  have e : ∀ {a}, z_ty σ a ≠ none → z_ty σ' a ≠ none := fun {a} ha => by rw [h.ty a ha]; exact ha
  exact ⟨fun a ha => (g.ty a (e ha)).trans (h.ty a ha), fun f hf => (g.R f hf).trans (h.R f hf), fun f hf => (g.I f hf).trans (h.I f hf), fun t a ht ha => (g.A t a ht (e ha)).trans (h.A t a ht ha)⟩
theorem ef_req {X : ex_T} {m : Nat} {σ σ' : z_S} (f : ef X σ σ') : req m σ σ' := ⟨fun a _ => f.1 a, fun g hg => f.2.1 g m (by omega), fun g hg => f.2.2.2.1 g m (by omega) (fun z => by omega), fun t a ht _ => f.2.2.2.2 t a (by omega) (fun z => by omega) (fun z => by omega)⟩
theorem nf_req {x rg m : Nat} {σ σ' : z_S} (f : nf [(702, x), (704, x)] [(19, rg)] σ σ') : req m σ σ' := ⟨fun a _ => f.ty a, fun g _ => f.R g m, fun g hg => f.I g m (fun z => by
  simp at z
  omega), fun t a ht _ => f.A t a (fun z => by
  simp at z
  omega)⟩
theorem sR_req {f x m : Nat} {y : Option Nat} {σ : z_S} (hf : f < 800) : req m σ (z_sR σ f x y) := ⟨fun _ _ => rfl, fun g hg => by rw [z_R_sR, if_neg (fun z => by omega)], fun _ _ => rfl, fun _ _ _ _ => rfl⟩
/-- the second rows are emptied -/
theorem cl_clear {V : vc_T} {a : ab_T} {σ0 : z_S} (hC : CI V a σ0) (X51 : Int32 → z_S → Prop) (Y : z_S → Prop)
    (h51 : ∀ (v2 : Int32) (σ : z_S), ((((8 : Int32)) ≤ v2 → Y σ) ∧ (¬ ((8 : Int32)) ≤ v2 → z_ty σ V.x = some (.inl 7) ∧ ∃ r58, z_R σ 707 V.x = some r58 ∧ (∃ n62 s62, z_ty σ r58 = some (.inr (9, n62, s62)) ∧ vp_in v2 n62 ∧ ∃ r62, z_Q σ s62 r58 v2.toNatClampNeg = some r62 ∧ (z_ty σ r62 = some (.inl 4) ∧ ∀ σ64, σ64 = z_sI σ 402 r62 ((0 : Int32)) → X51 (v2 + (1 : Int32)) σ64)))) → X51 v2 σ) (hY : ∀ σ, ef V.M σ0 σ → (∀ i, i < 8 → ro_L σ (V.M.ra i) (V.M.ka i) (V.M.ca i) []) → Y σ) : X51 0 σ0 := by
  have main : ∀ k i (σ : z_S), i + k = 8 → ef V.M σ0 σ → (∀ j, j < i → z_I σ 402 (V.M.ra j) = 0) → X51 (nI i) σ := by
    intro k
    induction k with
    | zero =>
      intro i σ hi hf hz
      rw [show i = 8 by omega]
      refine h51 _ _ ⟨fun _ => hY σ hf (fun j hj => ?_), fun z => absurd (nI_le (a := 8) (by omega) (by omega)) z⟩
      exact ⟨(rw_T_w9 hf hC.Mt).ro j hj, by rw [hz j (by omega)]; rfl, by decide, List.Pairwise.nil, fun q hq => absurd hq List.not_mem_nil, fun q hq => absurd hq (Nat.not_lt_zero q)⟩
    | succ k ih =>
      intro i σ hi hf hz
      have i8 : i < 8 := by omega
      have hM := rw_T_w9 hf hC.Mt
      refine h51 _ _ ⟨fun z => absurd z (nI_ge (b := 8) (by omega) (by decide)), fun _ => ⟨by rw [hf.1]; exact hC.ty, V.M.w, by rw [hf.2.1 707 _ (by omega)]; exact hC.rm, 8, V.M.s, hM.tw, vp_in_nI i8 (by decide), V.M.ra i, by rw [cl_nI (by omega)]; exact hM.qw i i8, (hM.ro i i8).1, fun σ1 e1 => ?_⟩⟩
      rw [nI_1]
      have f1 : ef V.M σ σ1 := by
        rw [e1]
        exact ⟨fun _ => rfl, fun _ _ _ => rfl, fun _ _ => rfl, fun g b _ h4 => by
          rw [z_I_sI, if_neg (fun z => h4 z.1 i i8 z.2)], fun _ _ _ _ _ => rfl⟩
      refine ih (i + 1) σ1 (by omega) (ef_tr hf f1) (fun j hj => ?_)
      rw [e1, z_I_sI]
      by_cases z : j = i
      · rw [if_pos ⟨rfl, by rw [z]⟩]
      · rw [if_neg (fun y => z (hM.ia j i (by omega) i8 y.2))]; exact hz j (by omega)
  exact main 8 0 σ0 rfl (ef_rf _ _) (fun j hj => absurd hj (Nat.not_lt_zero j))
/-- rows with each key once -/
theorem ones_eq {l l' : al_T} (h : l.map Prod.fst = l'.map Prod.fst) (h1 : ∀ q ∈ l, q.2 = 1) (h2 : ∀ q ∈ l', q.2 = 1) : l = l' := by
  have e : ∀ (l : al_T), (∀ q ∈ l, q.2 = 1) → l = (l.map Prod.fst).map (fun k => (k, (1 : Int))) := fun l hl => by
    rw [List.map_map]
    conv => lhs; rw [← List.map_id l]
    exact List.map_congr_left (fun q hq => Prod.ext rfl (hl q hq))
  rw [e l h1, e l' h2, h]
