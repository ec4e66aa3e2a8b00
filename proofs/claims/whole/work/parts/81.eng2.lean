/-! what the engine writes -/
def ef (X : ex_T) (σ σ' : z_S) : Prop := (∀ a, z_ty σ' a = z_ty σ a) ∧ (∀ f a, (f < 109 ∨ 111 < f) → z_R σ' f a = z_R σ f a) ∧ (∀ t a, z_Q σ' t a = z_Q σ t a) ∧ (∀ f a, (f < 104 ∨ 108 < f) → (f = 402 → ∀ i, i < 8 → a ≠ X.ra i) → z_I σ' f a = z_I σ f a) ∧ ∀ t a, (t < 2 ∨ 5 < t) → (t = 12 → ∀ i, i < 8 → a ≠ X.ka i) → (t = 13 → ∀ i, i < 8 → a ≠ X.ca i) → z_A σ' t a = z_A σ t a
theorem ef_rf (X : ex_T) (σ : z_S) : ef X σ σ := ⟨fun _ => rfl, fun _ _ _ => rfl, fun _ _ => rfl, fun _ _ _ _ => rfl, fun _ _ _ _ _ => rfl⟩
theorem ef_tr {X : ex_T} {σ σ' σ'' : z_S} (h : ef X σ σ') (g : ef X σ' σ'') : ef X σ σ'' := ⟨fun a => (g.1 a).trans (h.1 a), fun f a h1 => (g.2.1 f a h1).trans (h.2.1 f a h1), fun t a => (g.2.2.1 t a).trans (h.2.2.1 t a), fun f a h1 h2 => (g.2.2.2.1 f a h1 h2).trans (h.2.2.2.1 f a h1 h2), fun t a h1 h2 h3 => (g.2.2.2.2 t a h1 h2 h3).trans (h.2.2.2.2 t a h1 h2 h3)⟩
theorem ef_sI {X : ex_T} {σ : z_S} {f a : Nat} {x : Int32} (h1 : 104 ≤ f) (h2 : f ≤ 108) : ef X σ (z_sI σ f a x) := ⟨fun _ => rfl, fun _ _ _ => rfl, fun _ _ => rfl, fun g b h3 _ => by rw [z_I_sI, if_neg (fun q => by omega)], fun _ _ _ _ _ => rfl⟩
theorem ef_sA {X : ex_T} {σ : z_S} {t a : Nat} {F : Nat → Int32} (h1 : 2 ≤ t) (h2 : t ≤ 5) : ef X σ (z_sA σ t a F) := ⟨fun _ => rfl, fun _ _ _ => rfl, fun _ _ => rfl, fun _ _ _ _ => rfl, fun g b h3 _ _ => by rw [z_A_sA, if_neg (fun q => by omega)]⟩
theorem ef_sR {X : ex_T} {σ : z_S} {f a : Nat} {x : Option Nat} (h1 : 109 ≤ f) (h2 : f ≤ 111) : ef X σ (z_sR σ f a x) := ⟨fun _ => rfl, fun g b h3 => by rw [z_R_sR, if_neg (fun q => by omega)], fun _ _ => rfl, fun _ _ _ _ => rfl, fun _ _ _ _ _ => rfl⟩
theorem ef_ro {X : ex_T} {σ σ' : z_S} {i : Nat} (hi : i < 8) (h : ro_fr σ σ' (X.ra i) (X.ka i) (X.ca i)) : ef X σ σ' := by
  obtain ⟨F, G, y, rfl⟩ := h
  refine ⟨fun _ => rfl, fun _ _ _ => rfl, fun _ _ => rfl, fun g b h3 h4 => ?_, fun g b h3 h4 h5 => ?_⟩
  · rw [z_I_sI, if_neg (fun q => h4 q.1 i hi q.2)]
    rfl
  · rw [z_A_sI]
    unfold ro_w
    rw [z_A_sA, if_neg (fun q => h5 q.1 i hi q.2), z_A_sA, if_neg (fun q => h4 q.1 i hi q.2)]
theorem en_T_ef {X : ex_T} {σ σ' : z_S} (h : en_T X σ) (f : ef X σ σ') : en_T X σ' := ⟨by rw [f.1]; exact h.ty, by rw [f.2.1 100 _ (by omega)]; exact h.rl, by rw [f.1]; exact h.tl, by rw [f.2.1 101 _ (by omega)]; exact h.rv, by rw [f.1]; exact h.tv, by rw [f.2.1 102 _ (by omega)]; exact h.rq, by rw [f.1]; exact h.tq, by rw [f.2.1 103 _ (by omega)]; exact h.rk, by rw [f.1]; exact h.tk⟩
theorem ro_T_ef {X : ex_T} {σ σ' : z_S} {a k c : Nat} (h : ro_T σ a k c) (f : ef X σ σ') : ro_T σ' a k c := ⟨by rw [f.1]; exact h.1, by rw [f.2.1 400 _ (by omega)]; exact h.2.1, by rw [f.2.1 401 _ (by omega)]; exact h.2.2.1, by rw [f.1]; exact h.2.2.2.1, by rw [f.1]; exact h.2.2.2.2⟩
theorem rw_T_ef {X : ex_T} {σ σ' : z_S} (h : rw_T X σ) (f : ef X σ σ') : rw_T X σ' := ⟨by rw [f.1]; exact h.tw, fun i hi => by rw [f.2.2.1]; exact h.qw i hi, fun i hi => ro_T_ef (h.ro i hi) f, h.ia, h.ik, h.ic⟩
theorem at_L_ef {X : ex_T} {σ σ' : z_S} {b n : Nat} {l : lit_T} (h : at_L σ b l n) (f : ef X σ σ') : at_L σ' b l n := by
  obtain ⟨t, h1, h2, h3⟩ := h.tm
  have hI : ∀ g, g < 104 → z_I σ' g b = z_I σ g b := fun g hg => f.2.2.2.1 g b (Or.inl hg) (fun q => by omega)
  refine ⟨by rw [f.1]; exact h.ty, h.n1, h.n3, by rw [hI 1 (by omega)]; exact h.sz, ⟨t, by rw [f.2.1 0 _ (by omega)]; exact h1, by rw [f.1]; exact h2, fun i hi => ?_⟩, h.rs, by rw [hI 2 (by omega)]; exact h.kd, h.k2, fun q => ?_, fun q => ?_, fun k hk => ?_, h.to⟩
  · rw [f.2.2.2.2 1 t (Or.inl (by omega)) (fun q => by omega) (fun q => by omega)]
    exact h3 i hi
  · rw [hI 3 (by omega)]; exact h.rl q
  · rw [hI 4 (by omega)]; exact h.op q
  · rw [hI 5 (by omega)]; exact h.lt k hk
/-- values and known variables alone -/
def vf (X : ex_T) (σ σ' : z_S) : Prop := ∃ F y, σ' = z_sI (z_sA σ 3 X.v F) 105 X.a y
theorem vf_rf (X : ex_T) (σ : z_S) : vf X σ σ := ⟨z_A σ 3 X.v, z_I σ 105 X.a, by rw [z_sA_id, z_sI_id]⟩
theorem z_sI_sI (σ : z_S) (f a : Nat) (x y : Int32) : z_sI (z_sI σ f a x) f a y = z_sI σ f a y := by
  unfold z_sI
  refine Prod.ext rfl (Prod.ext ?_ rfl)
  funext g b
  dsimp only
  split <;> rfl
theorem vf_sA {X : ex_T} {σ σ' : z_S} (h : vf X σ σ') (F : Nat → Int32) : vf X σ (z_sA σ' 3 X.v F) := by
  obtain ⟨G, y, rfl⟩ := h
  refine ⟨F, y, ?_⟩
  show z_sI (z_sA (z_sA σ 3 X.v G) 3 X.v F) 105 X.a y = _
  rw [z_sA_sA]
theorem vf_sI {X : ex_T} {σ σ' : z_S} (h : vf X σ σ') (y : Int32) : vf X σ (z_sI σ' 105 X.a y) := by
  obtain ⟨G, x, rfl⟩ := h
  exact ⟨G, y, by rw [z_sI_sI]⟩
theorem vf_tr {X : ex_T} {σ σ' σ'' : z_S} (h : vf X σ σ') (g : vf X σ' σ'') : vf X σ σ'' := by
  obtain ⟨F, y, rfl⟩ := g
  exact vf_sI (vf_sA h F) y
theorem vf_ef {X : ex_T} {σ σ' : z_S} (h : vf X σ σ') : ef X σ σ' := by
  obtain ⟨F, y, rfl⟩ := h
  exact ef_tr (ef_sA (by omega) (by omega)) (ef_sI (by omega) (by omega))
theorem vf_I {X : ex_T} {σ σ' : z_S} (h : vf X σ σ') {f : Nat} (hf : f ≠ 105) (a : Nat) : z_I σ' f a = z_I σ f a := by
  obtain ⟨F, y, rfl⟩ := h
  rw [z_I_sI, if_neg (fun q => hf q.1), z_I_sA]
theorem vf_A {X : ex_T} {σ σ' : z_S} (h : vf X σ σ') {t : Nat} (ht : t ≠ 3) (a : Nat) : z_A σ' t a = z_A σ t a := by
  obtain ⟨F, y, rfl⟩ := h
  rw [z_A_sI, z_A_sA, if_neg (fun q => ht q.1)]
theorem ro_L_vf {X : ex_T} {σ σ' : z_S} {a k c : Nat} {l : al_T} (h : ro_L σ a k c l) (f : vf X σ σ') : ro_L σ' a k c l := ⟨ro_T_ef h.1 (vf_ef f), by rw [vf_I f (by decide)]; exact h.2.1, h.2.2.1, h.2.2.2.1, h.2.2.2.2.1, fun i hi => by rw [vf_A f (by decide), vf_A f (by decide)]; exact h.2.2.2.2.2 i hi⟩
theorem rw_L_vf {X : ex_T} {σ σ' : z_S} {T : Nat → al_T} (h : rw_L X σ T) (f : vf X σ σ') : rw_L X σ' T := ⟨rw_T_ef h.1 (vf_ef f), fun i hi => ro_L_vf (h.2 i hi) f⟩
/-- a row against the first i terms -/
def unI (e : ev_T) (ts : tm_T) (key : Nat) : Nat → Option ev_T
  | 0 => some e
  | i + 1 => (unI e ts key i).bind (fun e' => un1 e' (tmi ts i) (dg key i))
theorem unI_3 (e : ev_T) (ts : tm_T) (key : Nat) : unI e ts key 3 = un3 e ts key := by
  have h : ∀ o : Option ev_T, o.bind some = o := fun o => by cases o <;> rfl
  simp only [unI, un3, tmi, dg, Option.bind_some, if_true, if_pos rfl, if_neg (show ¬ (1 : Nat) = 0 by decide), if_neg (show ¬ (2 : Nat) = 0 by decide), if_neg (show ¬ (2 : Nat) = 1 by decide)]
  rw [Option.bind_assoc]
theorem unI_none {e : ev_T} {ts : tm_T} {key : Nat} : ∀ {i j : Nat}, i ≤ j → unI e ts key i = none → unI e ts key j = none
  | i, 0, h, hn => by rw [show i = 0 by omega] at hn; exact hn
  | i, j + 1, h, hn => by
    by_cases g : i = j + 1
    · rw [← g]; exact hn
    · unfold unI
      rw [unI_none (i := i) (j := j) (by omega) hn]
      rfl
theorem unI_n {e : ev_T} {ts : tm_T} {key n : Nat} (hn : n ≤ 3) (hr : ∀ i, n ≤ i → i < 3 → tmi ts i = 100) (hk : ∀ i, n ≤ i → i < 3 → dg key i = 0) : unI e ts key n = un3 e ts key := by
  rw [← unI_3]
  have h : ∀ i, n ≤ i → i < 3 → unI e ts key (i + 1) = unI e ts key i := fun i h1 h2 => by
    show (unI e ts key i).bind _ = _
    rw [hr i h1 h2, hk i h1 h2]
    cases unI e ts key i <;> rfl
  rcases (show n = 0 ∨ n = 1 ∨ n = 2 ∨ n = 3 by omega) with rfl | rfl | rfl | rfl
  · rw [h 2 (by omega) (by omega), h 1 (by omega) (by omega), h 0 (by omega) (by omega)]
  · rw [h 2 (by omega) (by omega), h 1 (by omega) (by omega)]
  · rw [h 2 (by omega) (by omega)]
  · rfl
theorem dg_lt {key : Nat} (h : key < 1000000000) (i : Nat) : dg key i < 1000 := by
  unfold dg
  split
  · omega
  · split <;> omega
theorem tmi_nm {ts : tm_T} (h : no_mark ts) (i : Nat) : tmi ts i < 26 ∨ 100 ≤ tmi ts i := by
  unfold tmi
  split
  · exact h.1
  · split
    · exact h.2.1
    · exact h.2.2
theorem en_matches {X : ex_T} {σ : z_S} (hE : en_T X σ) {e : ev_T} (he : eV X σ e) {b n : Nat} {l : lit_T} (hA : at_L σ b l n) (hm : no_mark l.2.2) {key : Nat} (hk : kar n key) (P : Int32 → z_S → Prop) (h1 : ∀ e' σ', un3 e l.2.2 key = some e' → vf X σ σ' → eV X σ' e' → P 1 σ') (h0 : ∀ σ', un3 e l.2.2 key = none → vf X σ σ' → (∀ k v, e k = some v → z_A σ' 3 X.v k = nI v) → P 0 σ') : kp_En_matches X.a b (nI key) σ P := by
  intro X2 hX
  obtain ⟨t, ht1, ht2, ht3⟩ := hA.tm
  have hn3 := hA.n3
  have main : ∀ m i σ' e', i + m = n → vf X σ σ' → eV X σ' e' → ext e e' → unI e l.2.2 key i = some e' → X2 (nI i) σ' := by
    intro m
    induction m with
    | zero =>
      intro i σ' e' hi hv he' hx hu
      have hA' := at_L_ef hA (vf_ef hv)
      refine hX _ _ ⟨hA'.ty, ?_⟩
      rw [hA'.sz]
      refine ⟨fun _ => ?_, fun q => absurd (nI_le (by omega) (by omega)) q⟩
      rw [show i = n by omega, unI_n hn3 hA.rs hk.2] at hu
      exact h1 e' σ' hu hv he'
    | succ m ih =>
      intro i σ' e' hi hv he' hx hu
      have hA' := at_L_ef hA (vf_ef hv)
      have hE' := en_T_ef hE (vf_ef hv)
      have htm := tmi_ok hA.to i
      have hd := dg_lt hk.1 i
      refine hX _ _ ⟨hA'.ty, ?_⟩
      rw [hA'.sz]
      refine ⟨fun q => absurd q (nI_ge (by omega) (by omega)), fun _ => ?_⟩
      refine ⟨hA'.ty, t, by rw [(vf_ef hv).2.1 0 _ (by omega)]; exact ht1, 3, 1, by rw [(vf_ef hv).1]; exact ht2, vp_in_nI (by omega) (by decide), ?_⟩
      refine vr_valueAt hk.1 (by omega) _ _ ?_
      rw [cl_nI (by omega), vf_A hv (by decide), ht3 i (by omega)]
      refine ⟨hE'.ty, en_isKnown hE' he' htm _ ?_⟩
      have hs : unI e l.2.2 key (i + 1) = un1 e' (tmi l.2.2 i) (dg key i) := by
        show (unI e l.2.2 key i).bind _ = _
        rw [hu]; rfl
      by_cases hun : tmi l.2.2 i < 26 ∧ e' (tmi l.2.2 i) = none
      · rw [if_pos hun]
        obtain ⟨c1, c2⟩ := ct_neg hun.1
        refine ⟨fun q => absurd rfl q, fun _ => ⟨hE'.ty, X.v, hE'.rv, 26, 3, hE'.tv, ?_, fun σ44 e44 => ⟨?_, ?_, fun σ57 e57 => ?_⟩⟩⟩
        · rw [c2]; exact vp_in_nI hun.1 (by decide)
        · rw [e44]; exact hE'.ty
        · rw [e44]; exact hE'.ty
        · rw [nI_1]
          rw [c2] at e57 e44
          rw [cl_nI (by omega)] at e44
          have hu1 : un1 e' (tmi l.2.2 i) (dg key i) = some (ev_set e' (tmi l.2.2 i) (dg key i)) := by
            unfold un1
            rw [if_neg (by omega), hun.2]
          refine ih (i + 1) σ57 _ (by omega) ?_ ?_ (ext_tr hx ?_) (hs.trans hu1)
          · rw [e57, e44]; exact vf_sI (vf_sA hv _) _
          · refine ⟨un1_ok he'.ok hd hu1, fun k hk' => ?_, fun k hk' => ?_, fun k v hkv => ?_⟩
            · unfold ev_set
              rw [if_neg (by omega)]
              exact he'.hi k hk'
            · have h105 : z_I σ57 105 X.a = (z_I σ' 105 X.a ||| ((1 : Int32) <<< (nI (tmi l.2.2 i) &&& 31))) := by
                rw [e57, e44, z_I_sI, if_pos ⟨rfl, rfl⟩]
                rfl
              rw [h105, bi_or _ (by omega) (by omega), he'.kn k hk']
              unfold ev_set
              by_cases g : k = tmi l.2.2 i
              · rw [if_pos g]; simp [g]
              · rw [if_neg g]; simp [g]
            · have hA3 : z_A σ57 3 X.v = upd (z_A σ' 3 X.v) (tmi l.2.2 i) (nI (dg key i)) := by
                rw [e57, e44, z_A_sI, z_A_sA, if_pos ⟨rfl, rfl⟩]
              rw [hA3]
              unfold upd
              unfold ev_set at hkv
              by_cases g : k = tmi l.2.2 i
              · rw [if_pos g] at hkv ⊢
                cases hkv
                rfl
              · rw [if_neg g] at hkv ⊢
                exact he'.vs k v hkv
          · exact (un1_ext hu1).1
      · rw [if_neg hun]
        have hbn : tmi l.2.2 i < 26 → e' (tmi l.2.2 i) ≠ none := fun q1 q2 => hun ⟨q1, q2⟩
        refine ⟨fun _ => ⟨hE'.ty, en_valueOf hE' he' htm hbn _ ⟨fun q => ?_, fun q => ?_⟩⟩, fun q => absurd q (by decide)⟩
        · have htv : tv e' (tmi l.2.2 i) < 1000 := tv_lt he'.ok htm
          rw [nI_eq (by omega) (by omega)] at q
          have hu1 : un1 e' (tmi l.2.2 i) (dg key i) = some e' := by
            unfold un1
            unfold tv at q
            by_cases g : 26 ≤ tmi l.2.2 i
            · rw [if_pos g] at q ⊢
              have := tmi_nm hm i
              rw [if_pos (by omega)]
            · rw [if_neg g] at q ⊢
              cases hk' : e' (tmi l.2.2 i) with
              | none => exact absurd hk' (hbn (by omega))
              | some w =>
                rw [hk'] at q
                have q : w = dg key i := q
                show (if w = dg key i then some e' else none) = some e'
                rw [if_pos q]
          rw [nI_1]
          exact ih (i + 1) σ' e' (by omega) hv he' hx (hs.trans hu1)
        · have htv : tv e' (tmi l.2.2 i) < 1000 := tv_lt he'.ok htm
          rw [nI_eq (by omega) (by omega)] at q
          have hu1 : un1 e' (tmi l.2.2 i) (dg key i) = none := by
            unfold un1
            unfold tv at q
            by_cases g : 26 ≤ tmi l.2.2 i
            · rw [if_pos g] at q ⊢
              have := tmi_nm hm i
              rw [if_neg (by omega)]
            · rw [if_neg g] at q ⊢
              cases hk' : e' (tmi l.2.2 i) with
              | none => exact absurd hk' (hbn (by omega))
              | some w =>
                rw [hk'] at q
                have q : ¬ w = dg key i := q
                show (if w = dg key i then some e' else none) = none
                rw [if_neg q]
          refine h0 σ' ?_ hv (fun k v hkv => he'.vs k v (hx k v hkv))
          rw [← unI_3]
          exact unI_none (i := i + 1) (by omega) (hs.trans hu1)
  exact main n 0 σ e (by omega) (vf_rf X σ) he (ext_rf e) rfl
