theorem cl_rule {t : tx_T} (hok : tx_ok t) {K : rd_T} {p q : Nat} {nm A : List Nat} {σ : z_S} (hW : rW t K p nm A σ) (hq : nxt t p = q) (hn : nmA nm A) {D : pa_T} (hD : D.p = K.P) {ra : Nat} {rs : List ru_T} {as : Nat → List lit_T} (hp : rP σ D ra rs as A) (hK : ∀ r ∈ rs, RK nm.length A r) (Po : Int32 → z_S → Prop)
    (h1 : ∀ r p' D' as' σ', rul t rs nm A q = .ok r → nxt t p' = r.q → D'.p = K.P → D'.pa = D.pa → D'.la = D.la → rW t K p' r.nm r.A σ' → rP σ' D' ra (rs ++ [r.r]) as' r.A → wf (sC K D.pa) σ σ' → Po 1 σ')
    (h2 : ∀ e σ', rul t rs nm A q = .error e → cF K.R e σ' → lf (sC K D.pa) K.P σ σ' → Po 0 σ') : kp_Re_readRule K.R σ Po := by
  intro X39 X92 h39 h92
  have hPt := nn_s hW.s.n.ty
  have hRt := nn_s hW.c.ty
  have n16 := hp.n16
  refine ⟨⟨by decide, by decide⟩, fun ro hro σ1 e1 => ⟨⟨by decide, by decide⟩, ?_⟩⟩
  refine cl_newrule hro e1 _ (fun hb tb bb σ2 hN => ?_)
  have tyR2 : z_ty σ2 K.R = some (.inl 3) := by rw [hN.w.ty _ hRt]; exact hW.c.ty
  refine ⟨tyR2, fun σ3 e3 => ⟨⟨by decide, by decide⟩, by rw [e3]; exact tyR2, ?_⟩⟩
  -- the new rule stands
  have w3 : wf (fun a => a = K.R) σ2 σ3 := by rw [e3]; exact wf_sR rfl
  have l3 : lf (s0 K) K.P σ σ3 := by
    refine lf_tr (lf_w0 (S := s0 K) hN.w hPt) (⟨w3, fun f a _ hn' => by rw [e3, z_R_sR, if_neg (fun z => hn' z)], by rw [e3]; exact pk_rf _ _⟩ : lf (fun a => a = K.R) K.P σ2 σ3) (fun a z _ => Or.inl z)
  have ty3 : ∀ a, z_ty σ3 a = z_ty σ2 a := fun a => by rw [e3]; rfl
  have R3 : ∀ f a, f ≠ 306 → z_R σ3 f a = z_R σ2 f a := fun f a hf => by rw [e3, z_R_sR, if_neg (fun z => hf z.1)]
  have I3 : ∀ f a, z_I σ3 f a = z_I σ2 f a := fun f a => by rw [e3]; rfl
  have hc2 := cR_w hW.c hN.w (fun z => z) (fun z => z)
  have hc3 : cR t K.R K.tx p σ3 := ⟨by rw [ty3]; exact hc2.ty, by rw [R3 _ _ (by decide)]; exact hc2.r3, by rw [ty3]; exact hc2.tt, by rw [I3]; exact hc2.n, by rw [I3]; exact hc2.a, fun i hi => by rw [e3]; exact hc2.c i hi⟩
  refine cl_sign hok hc3 hW.p _ (fun σ4 hc4 e4 => ⟨⟨by decide, by decide⟩, ?_⟩)
  rw [hq] at hc4 ⊢
  have hs := sg_ok hok q
  have hpq : plc t q := by rw [← hq]; exact nxt_plc t hW.p
  have f4 : nf [(305, K.R)] [] σ3 σ4 := nf_5 e4 (by simp)
  have l4 : lf (s0 K) K.P σ σ4 := lf_tr l3 (lf_nf (S := fun a => a = K.R) f4 (by simp) (by simp) (by simp)) (fun a z _ => Or.inl z)
  have R4 : ∀ f a, f ≠ 306 → z_R σ4 f a = z_R σ2 f a := fun f a hf => by rw [f4.R, R3 f a hf]
  have ty4 : ∀ a, z_ty σ4 a = z_ty σ2 a := fun a => by rw [f4.ty, ty3]
  have r64 : z_R σ4 306 K.R = some ro := by rw [f4.R, e3, z_R_sR, if_pos ⟨rfl, rfl⟩]
  have r04 : z_R σ4 300 K.R = some K.P := by rw [R4 _ _ (by decide), hN.w.R _ _ hRt (fun z => z)]; exact hW.r0
  have hS2 := pS_w hW.s hN.w (fun z => z) (fun z => z) (fun z => z)
  have hS4 : pS σ4 K.P K.na K.ta nm A := ⟨⟨by rw [ty4]; exact hS2.n.ty, by rw [f4.I _ _ (by simp), I3]; exact hS2.n.nn, by rw [R4 _ _ (by decide)]; exact hS2.n.rn, by rw [ty4]; exact hS2.n.tn, fun i hi => by rw [f4.A _ _ (by simp), e3]; exact hS2.n.vn i hi⟩, by rw [R4 _ _ (by decide)]; exact hS2.rt, by rw [ty4]; exact hS2.tt, fun i hi => by rw [f4.A _ _ (by simp), e3]; exact hS2.vt i hi⟩
  have i14 : z_I σ4 301 K.R = 0 := by rw [f4.I _ _ (by simp), I3, hN.w.I _ _ hRt (fun z => z)]; exact hW.f
  have iro : ∀ f, f ≠ 305 → z_I σ4 f ro = 0 := fun f hf => by rw [f4.I _ _ (by simp [hf]), I3]; exact hN.i f
  have ihb : ∀ f, f ≠ 305 → z_I σ4 f hb = 0 := fun f hf => by rw [f4.I _ _ (by simp [hf]), I3]; exact hN.ah f
  have tro4 : z_ty σ4 ro = some (.inl 5) := by rw [ty4]; exact hN.ty
  have hl4 : lt_L σ4 ro (fun _ => false) := ⟨tro4, fun k _ => by rw [iro _ (by decide), bi_0], by rw [iro _ (by decide), rk_0]; rfl, by rw [rk_0]; decide⟩
  have ha4 : aW σ4 hb tb [] := ⟨by rw [ty4]; exact hN.a.ty, by rw [ihb _ (by decide)]; rfl, Nat.zero_le _, by rw [R4 _ _ (by decide)]; exact hN.a.rt, by rw [ty4]; exact hN.a.tt, fun i hi => absurd hi (Nat.not_lt_zero i), fun k hk => by
    rw [ihb _ (by decide), bi_0]
    exact ⟨(fun z => by cases z), fun z => absurd z.2 List.not_mem_nil⟩⟩
  have i201 : z_I σ4 201 K.P = nI rs.length := by rw [l4.k.i1, ← hD]; exact hp.nn
  -- a fault at once
  have wC : ∀ {σ'}, lf (s0 K) K.P σ σ' → lf (sC K D.pa) K.P σ σ' := fun h => lf_mo h (fun a _ z => by
    rcases z with z | z | z | z
    · exact Or.inl z
    · exact Or.inr (Or.inl z)
    · exact Or.inr (Or.inr (Or.inl z))
    · exact Or.inr (Or.inr (Or.inr (Or.inl z))))
  have x39 : ¬ ((97 ≤ sg t q ∧ sg t q ≤ 122) ∧ rs.length = 16) → X39 4 21 σ4 := by
    intro hno
    refine h39 _ _ _ ⟨hc4.ty, ro, r64, tro4, hb, by rw [R4 _ _ (by decide)]; exact hN.rh, ⟨by decide, by decide⟩, hc4.ty, ?_⟩
    refine cl_named hok (hd := true) hc4 hpq.1 (nxt_fix t hpq) r04 r64 hS4 hn hl4 ha4 (fun _ => iro _ (by decide)) _ (fun g p5 σ5 hg hp5 hq5 hc5 hS5 hl5 ha5 hb5 h45 h15 _ f5 => ⟨fun _ => ⟨⟨by decide, by decide⟩, hc5.ty, ?_⟩, fun z => absurd z (by decide)⟩) (fun e σ5 hg hF f5 => ⟨fun z => absurd rfl z, fun _ => h2 e σ5 (rul_n hno hg) hF (wC (lf_tr l4 (lf_nf (S := fun a => a = K.R ∨ a = hb ∨ a = ro ∨ a = K.P ∨ a = tb ∨ a = K.na ∨ a = K.ta) f5 (by simp [nF]) (by simp [nT]) (by simp [nF])) (fun a z hx => ?_)))⟩)
    rotate_left
    · unfold s0
      rcases z with z | z | z | z | z | z | z
      · exact Or.inl z
      · exact absurd hN.f2 (by rw [← z]; exact hx)
      · exact absurd hN.f1 (by rw [← z]; exact hx)
      · exact Or.inr (Or.inl z)
      · exact absurd hN.f3 (by rw [← z]; exact hx)
      · exact Or.inr (Or.inr (Or.inl z))
      · exact Or.inr (Or.inr (Or.inr z))
    have hG := atm_ok (L0 := fun _ => False) (lt := fun _ => false) hn (fun k _ => ⟨fun z => absurd z (by decide), fun z => z.elim⟩) (by decide) hg
    have l5 : lf (s0 K) K.P σ σ5 := by
      refine lf_tr l4 (lf_nf (S := fun a => a = K.R ∨ a = hb ∨ a = ro ∨ a = K.P ∨ a = tb ∨ a = K.na ∨ a = K.ta) f5 (by simp [nF]) (by simp [nT]) (by simp [nF])) (fun a z hx => ?_)
      unfold s0
      rcases z with z | z | z | z | z | z | z
      · exact Or.inl z
      · exact absurd hN.f2 (by rw [← z]; exact hx)
      · exact absurd hN.f1 (by rw [← z]; exact hx)
      · exact Or.inr (Or.inl z)
      · exact absurd hN.f3 (by rw [← z]; exact hx)
      · exact Or.inr (Or.inr (Or.inl z))
      · exact Or.inr (Or.inr (Or.inr z))
    -- the head is read
    have hat5 : at_L σ5 hb (0, g.i, tm3 g.l) g.l.length := at_of ha5 hG.n1 (by rw [f5.I _ _ (by simp [nF]), ihb _ (by decide)]; rfl) (by decide) (fun _ => ⟨hb5, hG.i.2⟩) (fun z => absurd z (by decide)) (mark_3 hG.n3 (fun z => (hG.m z).2) hG.p)
    have hH5 : hd_L σ5 ro g.i (tm3 g.l) g.c g.l.length hb := ⟨by rw [f5.ty]; exact tro4, by rw [f5.R, R4 _ _ (by decide)]; exact hN.rh, hat5, h45⟩
    have hU5 : uW σ5 K ⟨ro, hb, bb, g.i, tm3 g.l, g.c, g.l.length⟩ [] g.A (fun _ => 0) g.lt := ⟨by rw [f5.R]; exact r64, hl5, hH5, ⟨by rw [f5.ty]; exact tro4, by rw [f5.R, R4 _ _ (by decide)]; exact hN.rb, by rw [f5.ty, ty4]; exact hN.tb, by decide, by rw [f5.I _ _ (by simp [nF]), iro _ (by decide)]; rfl, fun i hi => absurd hi (Nat.not_lt_zero i)⟩, by rw [f5.I _ _ (by simp [nF]), iro _ (by decide)]; rfl⟩
    have hW5 : rW t K p5 g.nm g.A σ5 := ⟨hc5, hp5, by rw [h15]; exact i14, by rw [f5.R]; exact r04, hS5⟩
    have hlt5 : ∀ k, k < 26 → (g.lt k = true ↔ vin3 (tm3 g.l) k ∨ ∃ l ∈ ([] : List lit_T), vin3 l.2.2 k) := fun k hk => by
      rw [hG.lt k hk, vin_tm3 hG.n3 hk]
      constructor
      · rintro (z | z)
        · exact z.elim
        · exact Or.inl z
      · rintro (z | ⟨l, z, _⟩)
        · exact Or.inr z
        · exact absurd z List.not_mem_nil
    have n16' : rs.length < 16 := by
      rcases Nat.lt_or_ge rs.length 16 with z | z
      · exact z
      · refine absurd ?_ hno
        refine ⟨?_, by omega⟩
        unfold atm rel at hg
        by_cases y : 97 ≤ sg t q ∧ sg t q ≤ 122
        · exact y
        · rw [if_neg y] at hg; cases hg
    -- the end of a rule
    have close : ∀ (b : ll_T) (bo : Nat → Nat) (σ6 : z_S), rul t rs nm A q = cls t rs g b → sg t b.q = 46 → nmA b.nm b.A → exA g.nm g.A b.nm b.A → cR t K.R K.tx b.q σ6 → rW t K b.q b.nm b.A σ6 → uW σ6 K ⟨ro, hb, bb, g.i, tm3 g.l, g.c, g.l.length⟩ b.ls b.A bo b.lt → (∀ k, k < 26 → (b.lt k = true ↔ vin3 (tm3 g.l) k ∨ ∃ l ∈ b.ls, vin3 l.2.2 k)) → lf (s0 K) K.P σ σ6 → kp_Re_closeRule K.R σ6 (fun r σ' => (r = 0 ∨ r = 1) ∧ Po r σ') := fun b bo σ6 hrul h46 hnb hex hc6 hW6 hU6 hlt6 l6 => by
      have hex0 := exA_tr hG.ex hex
      have hp6 : rP σ6 D ra rs as b.A := rP_ex hn hnb hex0 (rP_lf hW hD hp l6) hK
      have hcls : ∀ x, (if loose (tm3 g.l) b.ls then (.error (4, b.q) : Except ft_T rr_T) else if lonely rs g.i g.c b.ls then .error (5, b.q) else .ok ⟨⟨g.i, tm3 g.l, b.ls, g.c⟩, b.nm, b.A, nxt t (b.q + 1)⟩) = x → rul t rs nm A q = x := fun x hx => by
        rw [hrul]
        unfold cls
        rw [if_pos h46]
        exact hx
      have sBC : ∀ a, sB K D.pa bb a → z_ty σ a ≠ none → sC K D.pa a := fun a z hx => by
        rcases z with z | z | z | z | z | z
        · exact Or.inl z
        · exact Or.inr (Or.inl z)
        · exact Or.inr (Or.inr (Or.inl z))
        · exact Or.inr (Or.inr (Or.inr (Or.inl z)))
        · exact Or.inr (Or.inr (Or.inr (Or.inr z)))
        · exact absurd hN.f4 (by rw [← z]; exact hx)
      have wB : ∀ {σ'}, wf (sB K D.pa bb) σ6 σ' → wf (sC K D.pa) σ σ' := fun h => wf_tr (wC l6).w h sBC
      have wL : ∀ {σ'}, lf (sB K D.pa bb) K.P σ6 σ' → lf (sC K D.pa) K.P σ σ' := fun h => lf_tr (wC l6) h sBC
      have hle := hex.l
      have hgi := hG.i.1
      refine cl_close (U := ⟨ro, hb, bb, g.i, tm3 g.l, g.c, g.l.length⟩) hW6 (sg_lt h46 (by decide)) hnb.n8 hU6 (show g.i < b.nm.length by omega) ?_ hlt6 hD hp6 (fun i hi z => ?_) n16' _ (fun σ7 hlo hF w7 => ⟨Or.inl rfl, h2 (4, b.q) σ7 (hcls _ (if_pos hlo)) hF (wL w7)⟩) (fun σ7 hlo hln hF w7 => ⟨Or.inl rfl, h2 (5, b.q) σ7 (hcls _ (by
        have hlo' : loose (tm3 g.l) b.ls = false := hlo
        have hln' : lonely rs g.i g.c b.ls = true := hln
        rw [hlo', hln']; rfl)) hF (wL w7)⟩) (fun D' as' σ7 hlo hln e1' e2' e3' hW7 hp7 w7 => ⟨Or.inr rfl, h1 ⟨⟨g.i, tm3 g.l, b.ls, g.c⟩, b.nm, b.A, nxt t (b.q + 1)⟩ (b.q + 1) D' as' σ7 (hcls _ (by
        have hlo' : loose (tm3 g.l) b.ls = false := hlo
        have hln' : lonely rs g.i g.c b.ls = false := hln
        rw [hlo', hln']; rfl)) rfl e1' e2' e3' hW7 hp7 (wB w7)⟩)
      · show g.l.length = b.A.getD g.i 3
        rw [gd03 (by rw [hnb.al]; omega), hex.a _ hgi]
        exact hG.a.symm
      · have := (hp.ru i hi).2.1.tb
        have z : D.bb i = bb := z
        rw [z, hN.f4] at this
        cases this
    refine cl_sign hok hc5 hp5 _ (fun σ6 hc6 e6 => ?_)
    rw [hq5] at hc6 ⊢
    have hpg : plc t g.q := hG.q
    have f6 : nf [(305, K.R)] [] σ5 σ6 := nf_5 e6 (by simp)
    have l6 : lf (s0 K) K.P σ σ6 := lf_tr l5 (lf_nf (S := fun a => a = K.R) f6 (by simp) (by simp) (by simp)) (fun a z _ => Or.inl z)
    have uf : ∀ {σ' σ'' : z_S} {ls : List lit_T} {B : List Nat} {bo : Nat → Nat} {lt : Nat → Bool}, uW σ' K ⟨ro, hb, bb, g.i, tm3 g.l, g.c, g.l.length⟩ ls B bo lt → z_ty σ' K.R = some (.inl 3) → e5 K.R σ' σ'' → uW σ'' K ⟨ro, hb, bb, g.i, tm3 g.l, g.c, g.l.length⟩ ls B bo lt := fun {σ' σ'' ls B bo lt} hu hR he => by
      have g1 : nf [(305, K.R)] [] σ' σ'' := nf_5 he (by simp)
      have w1 : wf (fun a => a = K.R) σ' σ'' := wf_nf g1 (by simp) (by simp)
      have nA1 : noA (fun a => a = K.R) σ' := fun a z => by rw [z, hR]; exact ⟨by decide, by decide⟩
      have a1 : ¬ ro = K.R := fun z => by
        have := hu.l.ty
        rw [show (ur_T.ro ⟨ro, hb, bb, g.i, tm3 g.l, g.c, g.l.length⟩) = ro from rfl, z, hR] at this; cases this
      have a2 : ¬ bb = K.R := fun z => by
        have := hu.bd.tb
        rw [show (ur_T.bb ⟨ro, hb, bb, g.i, tm3 g.l, g.c, g.l.length⟩) = bb from rfl, z, hR] at this; cases this
      exact ⟨by rw [g1.R]; exact hu.rr, lt_L_f hu.l g1 (by simp) (by simp), hd_L_w hu.hd w1 nA1 a1, bd_L_w hu.bd w1 nA1 a1 a2, by rw [g1.I _ _ (by simp)]; exact hu.ps⟩
    have wfR : ∀ {σ' σ'' : z_S} {p' p'' : Nat} {nm' B : List Nat}, rW t K p' nm' B σ' → e5 K.R σ' σ'' → p'' ≤ t.n → cR t K.R K.tx p'' σ'' → rW t K p'' nm' B σ'' := fun {σ' σ'' p' p'' nm' B} hw he hle hc' => by
      have g1 : nf [(305, K.R)] [] σ' σ'' := nf_5 he (by simp)
      exact ⟨hc', hle, by rw [g1.I _ _ (by simp)]; exact hw.f, by rw [g1.R]; exact hw.r0, pS_f hw.s g1 (by simp) (by simp) (by simp)⟩
    have hU6 := uf hU5 hc5.ty e6
    have hW6 := wfR hW5 e6 hpg.1 hc6
    have wF : ∀ {σ' σ'' : z_S}, lf (s0 K) K.P σ σ' → eR K.R σ' σ'' → lf (sC K D.pa) K.P σ σ'' := fun hl he => wC (lf_tr hl (lf_nf (S := fun a => a = K.R) (nf_R (fs := [(301, K.R), (302, K.R), (305, K.R)]) (ts := []) he (by simp) (by simp) (by simp)) (by simp) (by simp) (by simp)) (fun a z _ => Or.inl z))
    have hsq := sg_ok hok g.q
    rw [show (46 : Int32) = nI 46 from rfl, sI_eq hsq (by decide)]
    refine ⟨fun z => ⟨⟨by decide, by decide⟩, hc6.ty, ?_⟩, fun z => ⟨⟨by decide, by decide⟩, hc6.ty, close ⟨[], g.nm, g.A, g.lt, g.q⟩ (fun _ => 0) σ6 (rul_a hno hg (by omega)) z hG.ok (exA_rf _ _) hc6 hW6 hU6 hlt5 l6⟩⟩
    refine cl_takes hok hc6 hpg.1 (nxt_fix t hpg) (s := 58) (by decide) _ (fun q7 p7 σ7 ht7 hp7 hq7 hc7 e7 => ⟨fun z => absurd z (by decide), fun _ => ⟨⟨by decide, by decide⟩, hc7.ty, ?_⟩⟩) (fun e σ7 ht7 hF7 e7 => ⟨fun _ => h2 e σ7 ?_ hF7 (wF l6 e7), fun z => absurd rfl z⟩)
    rotate_left
    · unfold tak at ht7
      split at ht7
      · cases ht7
      · rename_i h58
        rw [rul_a hno hg h58]
        unfold cls
        rw [if_neg (show ¬ sg t g.q = 46 from z), ← Except.error.inj ht7]
    have h58 : sg t g.q = 58 ∧ q7 = nxt t (g.q + 1) := by
      unfold tak at ht7
      split at ht7
      · rename_i h58
        exact ⟨h58, (Except.ok.inj ht7).symm⟩
      · cases ht7
    have l7 : lf (s0 K) K.P σ σ7 := lf_tr l6 (lf_nf (S := fun a => a = K.R) (nf_5 (fs := [(305, K.R)]) (ts := []) e7 (by simp)) (by simp) (by simp) (by simp)) (fun a z _ => Or.inl z)
    have hU7 := uf hU6 hc6.ty e7
    have hW7 := wfR hW6 e7 hp7 hc7
    refine cl_takes hok hc7 hp7 hq7 (s := 45) (by decide) _ (fun q8 p8 σ8 ht8 hp8 hq8 hc8 e8 => ⟨fun _ => ?_, fun z => absurd z (by decide)⟩) (fun e σ8 ht8 hF8 e8 => ⟨fun z => absurd rfl z, fun _ => h2 e σ8 (rul_b1 hno hg h58.1 (by rw [← h58.2]; exact ht8)) hF8 (wF l7 e8)⟩)
    rw [h58.2] at ht8
    have l8 : lf (s0 K) K.P σ σ8 := lf_tr l7 (lf_nf (S := fun a => a = K.R) (nf_5 (fs := [(305, K.R)]) (ts := []) e8 (by simp)) (by simp) (by simp) (by simp)) (fun a z _ => Or.inl z)
    have hU8 := uf hU7 hc7.ty e8
    have hW8 := wfR hW7 e8 hp8 hc8
    -- the literals
    have main : ∀ (k : Nat) (ls : List lit_T) (nm' B : List Nat) (lt : Nat → Bool) (p' : Nat) (bo : Nat → Nat) (σ' : z_S), ls.length + k = 6 → lls t 6 [] g.nm g.A g.lt q8 = lls t k ls nm' B lt (nxt t p') → nmA nm' B → exA g.nm g.A nm' B → (∀ l ∈ ls, LK nm'.length B l) → ls.length ≤ 5 → (ps_of ls).length ≤ 3 → rW t K p' nm' B σ' → uW σ' K ⟨ro, hb, bb, g.i, tm3 g.l, g.c, g.l.length⟩ ls B bo lt → (∀ j, j < 26 → (lt j = true ↔ vin3 (tm3 g.l) j ∨ ∃ l ∈ ls, vin3 l.2.2 j)) → lf (s0 K) K.P σ σ' → X92 (nI ls.length) (4 + 2 * ls.length) (21 + 9 * ls.length) σ' := by
      intro k
      induction k with
      | zero =>
        intro ls nm' B lt p' bo σ' hk _ _ _ _ h5
        omega
      | succ k ih =>
        intro ls nm' B lt p' bo σ' hk hll hnb hex hLK h5 h3 hWs hUs hlts ls'
        refine h92 _ _ _ _ ⟨fun z => absurd z (nI_nlt (a := 5) (b := ls.length) (by omega) (by decide)), fun _ => ⟨⟨by omega, by omega⟩, hWs.c.ty, ?_⟩⟩
        have hpp : plc t (nxt t p') := nxt_plc t hWs.p
        have hlls : ∀ x, (match ltl t ls nm' B lt (nxt t p') with | Except.error e => (Except.error e : Except ft_T ll_T) | Except.ok r => if sg t r.q = 44 then lls t k (ls ++ [r.l]) r.nm r.A r.lt (nxt t (r.q + 1)) else Except.ok ⟨ls ++ [r.l], r.nm, r.A, r.lt, r.q⟩) = x → lls t 6 [] g.nm g.A g.lt q8 = x := fun x hx => by rw [hll]; exact hx
        have sLs : ∀ a, sL K ⟨ro, hb, bb, g.i, tm3 g.l, g.c, g.l.length⟩ a → z_ty σ a ≠ none → s0 K a := fun a z hx => by
          rcases z with z | z | z | z | z | z
          · exact Or.inl z
          · exact Or.inr (Or.inl z)
          · exact Or.inr (Or.inr (Or.inl z))
          · exact Or.inr (Or.inr (Or.inr z))
          · exact absurd hN.f1 (by rw [← show a = ro from z]; exact hx)
          · exact absurd hN.f4 (by rw [← show a = bb from z]; exact hx)
        refine cl_literal hok hWs rfl hnb hUs hLK h5 h3 _ (fun r p9 bo9 σ9 hr hq9 hW9 hU9 l9 => ⟨fun _ => ⟨⟨by omega, by omega⟩, hW9.c.ty, ?_⟩, fun z => absurd z (by decide)⟩) (fun e σ9 hr hF9 w9 => ⟨fun z => absurd rfl z, fun _ => h2 e σ9 (rul_b2 hno hg h58.1 ht8 (hlls _ (by rw [hr]))) hF9 (lf_tr (wC ls') w9 (fun a z hx => by
          rcases sLs a z hx with y | y | y | y
          · exact Or.inl y
          · exact Or.inr (Or.inl y)
          · exact Or.inr (Or.inr (Or.inl y))
          · exact Or.inr (Or.inr (Or.inr (Or.inl y)))))⟩)
        obtain ⟨hR, hp0⟩ := ltl_ok hpp hnb hUs.l.n6 hr
        obtain ⟨hlen5, hltr⟩ := ltl_lt hpp hUs.l.n6 hr
        have lf9 : lf (s0 K) K.P σ σ9 := lf_tr ls' l9 sLs
        have hlen : (ls ++ [r.l]).length = ls.length + 1 := by rw [List.length_append]; rfl
        have hLK9 : ∀ l ∈ ls ++ [r.l], LK r.nm.length r.A l := fun l hm => by
          rcases List.mem_append.mp hm with z | z
          · exact LK_ex hR.ex (hLK l z)
          · rw [List.mem_singleton.mp z]; exact hR.k
        have h39 : (ps_of (ls ++ [r.l])).length ≤ 3 := by
          rw [ps_app]
          split
          · rename_i z
            have := hp0 z
            omega
          · omega
        have hlt9 : ∀ j, j < 26 → (r.lt j = true ↔ vin3 (tm3 g.l) j ∨ ∃ l ∈ ls ++ [r.l], vin3 l.2.2 j) := fun j hj => by
          rw [hltr j hj, hlts j hj]
          constructor
          · rintro ((y | ⟨l, y1, y2⟩) | y)
            · exact Or.inl y
            · exact Or.inr ⟨l, List.mem_append_left _ y1, y2⟩
            · exact Or.inr ⟨r.l, List.mem_append_right _ (List.mem_singleton.mpr rfl), y⟩
          · rintro (y | ⟨l, y1, y2⟩)
            · exact Or.inl (Or.inl y)
            · rcases List.mem_append.mp y1 with w | w
              · exact Or.inl (Or.inr ⟨l, w, y2⟩)
              · rw [List.mem_singleton.mp w] at y2
                exact Or.inr y2
        refine cl_sign hok hW9.c hW9.p _ (fun σa hca ea => ?_)
        rw [hq9] at hca ⊢
        have la : lf (s0 K) K.P σ σa := lf_tr lf9 (lf_nf (S := fun a => a = K.R) (nf_5 (fs := [(305, K.R)]) (ts := []) ea (by simp)) (by simp) (by simp) (by simp)) (fun a z _ => Or.inl z)
        have hUa := uf hU9 hW9.c.ty ea
        have hWa := wfR hW9 ea hR.q.1 hca
        rw [show (46 : Int32) = nI 46 from rfl, sI_eq (sg_ok hok r.q) (by decide)]
        refine ⟨fun z46 => ⟨⟨by omega, by omega⟩, hca.ty, ?_⟩, fun z46 => ⟨⟨by omega, by omega⟩, hca.ty, close ⟨ls ++ [r.l], r.nm, r.A, r.lt, r.q⟩ bo9 σa (rul_b3 hno hg h58.1 ht8 (hlls _ (by rw [hr]; exact if_neg (by omega)))) z46 hR.ok (exA_tr hex hR.ex) hca hWa hUa hlt9 la⟩⟩
        refine cl_takes hok hca hR.q.1 (nxt_fix t hR.q) (s := 44) (by decide) _ (fun qb pb σb htb hpb hqb hcb eb => ⟨fun _ => ?_, fun z => absurd z (by decide)⟩) (fun e σb htb hFb eb => ⟨fun z => absurd rfl z, fun _ => h2 e σb ?_ hFb (wF la eb)⟩)
        · have h44 : sg t r.q = 44 ∧ qb = nxt t (r.q + 1) := by
            unfold tak at htb
            split at htb
            · rename_i h44
              exact ⟨h44, (Except.ok.inj htb).symm⟩
            · cases htb
          have lb : lf (s0 K) K.P σ σb := lf_tr la (lf_nf (S := fun a => a = K.R) (nf_5 (fs := [(305, K.R)]) (ts := []) eb (by simp)) (by simp) (by simp) (by simp)) (fun a z _ => Or.inl z)
          have := ih (ls ++ [r.l]) r.nm r.A r.lt pb bo9 σb (by omega) (by rw [hqb, h44.2]; exact hlls _ (by rw [hr]; exact if_pos h44.1)) hR.ok (exA_tr hex hR.ex) hLK9 (by omega) h39 (wfR hWa eb hpb hcb) (uf hUa hca.ty eb) hlt9 lb
          rw [hlen] at this
          rw [nI_1]
          exact this
        · unfold tak at htb
          split at htb
          · cases htb
          · rename_i h44
            rw [rul_b3 hno hg h58.1 ht8 (hlls _ (by rw [hr]; exact if_neg h44))]
            unfold cls
            rw [if_neg (show ¬ sg t r.q = 46 from z46), ← Except.error.inj htb]
    exact main 6 [] g.nm g.A g.lt p8 (fun _ => 0) σ8 rfl (by rw [hq8]) hG.ok (exA_rf _ _) (fun l hl => absurd hl List.not_mem_nil) (by decide) (by decide) hW8 hU8 hlt5 l8
  refine cl_name hs _ (fun hN' => ⟨fun z => absurd z (by decide), fun _ => ⟨hc4.ty, K.P, r04, hS4.n.ty, ?_⟩⟩) (fun hN' => ⟨fun _ => x39 (fun z => hN' z.1), fun z => absurd rfl z⟩)
  rw [i201, show (16 : Int32) = nI 16 from rfl, nI_ltI (by omega) (by decide)]
  refine ⟨fun z => x39 (fun y => by omega), fun z => ⟨⟨by decide, by decide⟩, hc4.ty, cl_fail (k := 3) hc4 _ (fun σ5 hF eF => ⟨Or.inl rfl, h2 (3, q) σ5 ?_ hF (wC (lf_tr l4 (lf_nf (S := fun a => a = K.R) (nf_R (fs := [(301, K.R), (302, K.R), (305, K.R)]) (ts := []) eF (by simp) (by simp) (by simp)) (by simp) (by simp) (by simp)) (fun a y _ => Or.inl y)))⟩)⟩⟩
  unfold rul
  rw [if_pos ⟨hN', by omega⟩]
