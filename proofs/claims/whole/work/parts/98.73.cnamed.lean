def nF (R b ro P : Nat) : List (Nat × Nat) := [(301, R), (302, R), (305, R), (1, b), (5, b), (504, ro), (505, ro), (506, ro), (3, b), (4, b), (206, P)]
def nT (tb na ta : Nat) : List (Nat × Nat) := [(1, tb), (8, na), (9, ta)]
theorem arg_e {t : tx_T} {hd : Bool} {g : rg_T} {lt : Nat → Bool} {q1 : Nat} {e : ft_T} (ht : tak t 40 g.q = .ok q1) (hs : tms t hd 3 [] lt q1 = .error e) : arg t hd g lt = .error e := by
  unfold arg
  rw [ht]
  dsimp only
  rw [hs]
theorem arg_o {t : tx_T} {hd : Bool} {g : rg_T} {lt : Nat → Bool} {q1 : Nat} {s : ts_T} (ht : tak t 40 g.q = .ok q1) (hs : tms t hd 3 [] lt q1 = .ok s) : arg t hd g lt = if sg t s.q = 41 then (if g.A.getD g.i 0 ≠ 0 ∧ g.A.getD g.i 0 ≠ s.l.length then .error (2, s.q) else .ok ⟨g.i, s.l, s.c, g.nm, g.A.set g.i s.l.length, s.lt, nxt t (s.q + 1)⟩) else .error (1, s.q) := by
  unfold arg
  rw [ht]
  dsimp only
  rw [hs]
theorem cl_named {t : tx_T} (hok : tx_ok t) {R tx p q b tb ro P na ta : Nat} {lt : Nat → Bool} {hd : Bool} {nm A : List Nat} {σ : z_S} (h : cR t R tx p σ) (hp : p ≤ t.n) (hq : nxt t p = q) (hR : z_R σ 300 R = some P) (hr : z_R σ 306 R = some ro) (hS : pS σ P na ta nm A) (hn : nmA nm A) (hl : lt_L σ ro lt) (ha : aW σ b tb []) (h50 : hd = true → z_I σ 504 ro = 0) (Po : Int32 → z_S → Prop)
    (h1 : ∀ g p' σ', atm t hd nm A lt q = .ok g → p' ≤ t.n → nxt t p' = g.q → cR t R tx p' σ' → pS σ' P na ta g.nm g.A → lt_L σ' ro g.lt → aW σ' b tb g.l → z_I σ' 3 b = nI g.i → z_I σ' 504 ro = (if hd then (if g.c then 1 else 0) else z_I σ 504 ro) → z_I σ' 301 R = z_I σ 301 R → z_I σ' 4 b = z_I σ 4 b → nf (nF R b ro P) (nT tb na ta) σ σ' → Po 1 σ')
    (h2 : ∀ e σ', atm t hd nm A lt q = .error e → cF R e σ' → nf (nF R b ro P) (nT tb na ta) σ σ' → Po 0 σ') : kp_Re_readNamed R b (if hd then 1 else 0) σ Po := by
  intro X35 X89 X136 X157 X174 X184 X220 h35 h89 h136 h157 h174 h184 h220
  have n8 := hn.n8
  have hb : ∀ x ∈ nm, x < 256 := fun x hx => by have := (hn.r x hx).2; omega
  refine ⟨h.ty, cl_sign hok h hp _ (fun σ1 hc e1 => ?_)⟩
  rw [hq] at hc ⊢
  have hs := sg_ok hok q
  have f1 : nf (nF R b ro P) (nT tb na ta) σ σ1 := nf_5 e1 (by simp [nF])
  have g1 : nf [(305, R)] [] σ σ1 := nf_5 e1 (by simp)
  have i1 : z_I σ1 301 R = z_I σ 301 R := e1.I _ _ (by omega)
  have i4 : z_I σ1 504 ro = z_I σ 504 ro := e1.I _ _ (by omega)
  have hS1 := pS_f hS g1 (by simp) (by simp) (by simp)
  have hl1 := lt_L_f hl g1 (by simp) (by simp)
  have ha1 := aW_f ha g1 (by simp) (by simp) (by simp)
  have hR1 : z_R σ1 300 R = some P := by rw [e1.R]; exact hR
  refine cl_name hs _ (fun hN => ⟨fun _ => ⟨hc.ty, P, hR1, hS1.n.ty, ?_⟩, fun z => absurd z (by decide)⟩) (fun hN => ⟨fun z => absurd rfl z, fun _ => ⟨hc.ty, cl_fail (k := 1) hc _ (fun σ2 hF eF => ⟨Or.inl rfl, h2 (1, q) σ2 (by unfold atm rel; rw [if_neg hN]) hF (nf_tr f1 (nf_R eF (by simp [nF]) (by simp [nF]) (by simp [nF])))⟩)⟩⟩)
  have hqn : q < t.n := sg_lt (k := sg t q) rfl (by omega)
  rw [sI_k (by omega)]
  have s256 : sg t q < 256 := by omega
  -- the terms and what stands behind them
  have go : ∀ (g : rg_T) (v4 : Int32) (σ2 : z_S), rel t nm A q = .ok g → ((v4 = 0 ∧ g.A = A ∧ g.nm = nm) ∨ (v4 = 1 ∧ g.A = A ++ [0] ∧ g.i = nm.length ∧ g.nm = nm ++ [sg t q])) → pN σ2 P na g.nm → nf [(206, P)] [(8, na)] σ1 σ2 → ∀ σ3, σ3 = z_sI σ2 3 b (nI g.i) → z_ty σ3 R = some (.inl 3) ∧ (z_ty σ3 R = some (.inl 3) ∧ ∀ σ69, σ69 = z_sI σ3 305 R ((z_I σ3 305 R) + ((1 : Int32))) → z_ty σ69 R = some (.inl 3) ∧ kp_Re_takes R ((40 : Int32)) σ69 (fun (r75 : Int32) (σ75 : z_S) => (¬ r75 = 0 → X89 v4 ((1 : Int32)) ((0 : Int32)) σ75) ∧ (r75 = 0 → Po ((0 : Int32)) σ75))) := by
    intro g v4 σ2 hrel hv hN2 f2 σ3 e3
    obtain ⟨gi, gi8, _, gq⟩ := rel_ok n8 hrel
    have f3 : nf [(3, b)] [] σ2 σ3 := by rw [e3]; exact nf_sI (by simp)
    have f13 : nf [(206, P), (3, b)] [(8, na)] σ1 σ3 := nf_tr (nf_mo f2 (by simp) (by simp)) (nf_mo f3 (by simp) (by simp))
    have hc3 := cR_f hc f13 (by simp) (by simp) (by simp)
    refine ⟨hc3.ty, hc3.ty, fun σ4 e4 => ?_⟩
    rw [hc3.a, nI_1] at e4
    have e54 : e5 R σ3 σ4 := by rw [e4]; exact e5_s R σ3 _
    have hc4 := cR_5 hc3 e54 (p' := q + 1) (by rw [e4, z_I_sI, if_pos ⟨rfl, rfl⟩])
    have f14 : nf [(206, P), (3, b), (305, R)] [(8, na)] σ1 σ4 := nf_tr (nf_mo f13 (by simp) (by simp)) (nf_5 e54 (by simp))
    have b34 : z_I σ4 3 b = nI g.i := by rw [e54.I _ _ (by omega), e3, z_I_sI, if_pos ⟨rfl, rfl⟩]
    have hN4 := pN_f hN2 (nf_tr (nf_mo f3 (fs' := [(3, b), (305, R)]) (ts' := []) (by simp) (by simp)) (nf_5 e54 (by simp))) (by simp) (by simp)
    refine ⟨hc4.ty, ?_⟩
    refine cl_takes hok hc4 (by omega) gq.symm (s := 40) (by decide) _ (fun q1 p1 σ5 ht hp1 hq1 hc5 e5' => ⟨fun _ => ?_, fun z => absurd z (by decide)⟩) (fun e σ5 ht hF eF => ⟨fun z => absurd rfl z, fun _ => h2 e σ5 (by unfold atm; rw [hrel]; show arg t hd g lt = _; unfold arg; rw [ht]) hF (nf_tr f1 (nf_tr (nf_mo f14 (by simp [nF]) (by simp [nT])) (nf_R eF (by simp [nF]) (by simp [nF]) (by simp [nF]))))⟩)
    have f15 : nf [(206, P), (3, b), (305, R)] [(8, na)] σ1 σ5 := nf_tr f14 (nf_5 e5' (by simp))
    have f5 : nf (nF R b ro P) (nT tb na ta) σ σ5 := nf_tr f1 (nf_mo f15 (by simp [nF]) (by simp [nT]))
    have b35 : z_I σ5 3 b = nI g.i := by rw [e5'.I _ _ (by omega)]; exact b34
    have hN5 := pN_f hN4 (nf_5 (fs := [(305, R)]) (ts := []) e5' (by simp)) (by simp) (by simp)
    have hl5 := lt_L_f hl1 f15 (by simp) (by simp)
    have ha5 := aW_f ha1 f15 (by simp) (by simp) (by simp)
    have i15 : z_I σ5 301 R = z_I σ 301 R := by rw [f15.I _ _ (by simp)]; exact i1
    have i45 : z_I σ5 504 ro = z_I σ 504 ro := by rw [f15.I _ _ (by simp)]; exact i4
    have i4b : z_I σ5 4 b = z_I σ 4 b := by rw [f15.I _ _ (by simp), g1.I _ _ (by simp)]
    have hatm : ∀ x, arg t hd g lt = x → atm t hd nm A lt q = x := fun x hx => by
      unfold atm; rw [hrel]; exact hx
    -- at the end of it
    have x220 : ∀ (s : ts_T) (σ' : z_S), tms t hd 3 [] lt q1 = .ok s → sg t s.q = 41 → nxt t s.q = s.q → cR t R tx s.q σ' → lt_L σ' ro s.lt → aW σ' b tb s.l → pN σ' P na g.nm → z_I σ' 3 b = nI g.i → z_I σ' 301 R = z_I σ 301 R → z_I σ' 504 ro = (if hd then (if s.c then 1 else 0) else z_I σ 504 ro) → z_I σ' 4 b = z_I σ 4 b → nf (nF R b ro P) (nT tb na ta) σ σ' → ((v4 = 0 ∧ z_A σ' 9 ta = z_A σ 9 ta) ∨ (v4 = 1 ∧ z_A σ' 9 ta = upd (z_A σ 9 ta) g.i (nI s.l.length))) → X220 σ' := by
      intro s σ' hs' h41 hfx hc' hl' ha' hN' hb3 hi1 hi4 hib hf' hta
      have l3 := ha'.l3
      have hargR : ∀ x, (if g.A.getD g.i 0 ≠ 0 ∧ g.A.getD g.i 0 ≠ s.l.length then (.error (2, s.q) : Except ft_T an_T) else .ok ⟨g.i, s.l, s.c, g.nm, g.A.set g.i s.l.length, s.lt, nxt t (s.q + 1)⟩) = x → arg t hd g lt = x := fun x hx => by
        rw [arg_o ht hs']
        rw [if_pos h41]
        exact hx
      refine h220 _ ⟨hc'.ty, P, by rw [hf'.R]; exact hR, hN'.ty, ta, by rw [hf'.R]; exact hS.rt, ha'.ty, 8, 9, by rw [hf'.ty]; exact hS.tt, by rw [hb3]; exact vp_in_nI gi8 (by decide), ha'.ty, ?_⟩
      rw [hb3, ha'.sz, cl_nI (by omega)]
      -- what stands there
      have fin : (g.A.getD g.i 0 = 0 ∨ g.A.getD g.i 0 = s.l.length) → z_A σ' 9 ta g.i = nI s.l.length → (∀ i, i < g.nm.length → z_A σ' 9 ta i = nI ((g.A.set g.i s.l.length).getD i 0)) → (¬ (z_A σ' 9 ta g.i) = nI s.l.length → z_ty σ' R = some (.inl 3) ∧ kp_Re_fail R ((2 : Int32)) σ' (fun (r250 : Int32) (σ250 : z_S) => (r250 = 0 ∨ r250 = 1) ∧ Po r250 σ250)) ∧ ((z_A σ' 9 ta g.i) = nI s.l.length → z_ty σ' R = some (.inl 3) ∧ kp_Re_takes R ((41 : Int32)) σ' (fun (r242 : Int32) (σ242 : z_S) => (r242 = 0 ∨ r242 = 1) ∧ Po r242 σ242)) := fun hz1 hz2 hz3 => by
        have hsn := sg_lt h41 (by decide)
        refine ⟨fun z => absurd hz2 z, fun _ => ⟨hc'.ty, cl_takes hok hc' (by omega) hfx (s := 41) (by decide) _ (fun q2 p2 σ6 ht6 hp6 hq6 hc6 e6 => ⟨Or.inr rfl, ?_⟩) (fun e σ6 ht6 _ _ => ?_)⟩⟩
        · have eq2 : q2 = nxt t (s.q + 1) := by
            unfold tak at ht6
            rw [if_pos h41] at ht6
            exact (Except.ok.inj ht6).symm
          have f6 : nf [(305, R)] [] σ' σ6 := nf_5 e6 (by simp)
          refine h1 ⟨g.i, s.l, s.c, g.nm, g.A.set g.i s.l.length, s.lt, nxt t (s.q + 1)⟩ p2 σ6 (hatm _ (hargR _ (if_neg (fun w => hz1.elim (fun y => w.1 y) (fun y => w.2 y))))) hp6 (hq6.trans eq2) hc6 ⟨pN_f hN' f6 (by simp) (by simp), by rw [f6.R, hf'.R]; exact hS.rt, by rw [f6.ty, hf'.ty]; exact hS.tt, fun i hi => by rw [f6.A _ _ (by simp)]; exact hz3 i hi⟩ (lt_L_f hl' f6 (by simp) (by simp)) (aW_f ha' f6 (by simp) (by simp) (by simp)) (by rw [f6.I _ _ (by simp)]; exact hb3) (by rw [f6.I _ _ (by simp)]; exact hi4) (by rw [f6.I _ _ (by simp)]; exact hi1) (by rw [f6.I _ _ (by simp)]; exact hib) (nf_tr hf' (nf_mo f6 (by simp [nF]) (by simp)))
        · unfold tak at ht6
          rw [if_pos h41] at ht6
          cases ht6
      rcases hta with ⟨v0, hta⟩ | ⟨v1, hta⟩
      · obtain ⟨_, eA, enm⟩ : v4 = 0 ∧ g.A = A ∧ g.nm = nm := hv.elim id (fun w => by rw [v0] at w; exact absurd w.1 (by decide))
        have gi' : g.i < nm.length := by rw [← enm]; exact gi
        have hnz := hn.nz g.i gi'
        have hvt := hS.vt g.i gi'
        by_cases z : A.getD g.i 0 = s.l.length
        · refine fin (Or.inr (by rw [eA]; exact z)) (by rw [hta, hvt, z]) (fun i hi => ?_)
          rw [enm] at hi
          rw [hta, hS.vt i hi, eA, set_gd (by rw [hn.al]; exact gi')]
          by_cases y : i = g.i
          · rw [if_pos y, y, z]
          · rw [if_neg y]
        · rw [hta, hvt, nI_eq (by omega) (by omega)]
          exact ⟨fun _ => ⟨hc'.ty, cl_fail (k := 2) hc' _ (fun σ6 hF eF => ⟨Or.inl rfl, h2 (2, s.q) σ6 (hatm _ (hargR _ (if_pos ⟨by rw [eA]; omega, by rw [eA]; exact z⟩))) hF (nf_tr hf' (nf_R eF (by simp [nF]) (by simp [nF]) (by simp [nF])))⟩)⟩, fun y => absurd y z⟩
      · obtain ⟨_, eA, ei, enm⟩ : v4 = 1 ∧ g.A = A ++ [0] ∧ g.i = nm.length ∧ g.nm = nm ++ [sg t q] := hv.elim (fun w => by rw [v1] at w; exact absurd w.1 (by decide)) id
        refine fin (Or.inl (by rw [eA, gd_sn, if_pos (by rw [ei, hn.al])])) (by rw [hta]; unfold upd; rw [if_pos rfl]) (fun i hi => ?_)
        rw [enm, List.length_append] at hi
        have hi : i < nm.length + 1 := hi
        rw [hta, eA, set_gd (by rw [List.length_append, hn.al, ei]; exact Nat.lt_succ_self _)]
        unfold upd
        by_cases y : i = g.i
        · rw [if_pos y, if_pos y]
        · rw [if_neg y, if_neg y, gd_sn, if_neg (by rw [hn.al, ← ei]; exact y)]
          exact hS.vt i (by omega)
    have x184 : ∀ (s : ts_T) (p' : Nat) (σ' : z_S), tms t hd 3 [] lt q1 = .ok s → p' ≤ t.n → nxt t p' = s.q → cR t R tx p' σ' → lt_L σ' ro s.lt → aW σ' b tb s.l → nf (tF R b ro) [(1, tb)] σ5 σ' → z_I σ' 301 R = z_I σ5 301 R → z_I σ' 504 ro = (if hd then (if s.c then 1 else 0) else z_I σ 504 ro) → X184 v4 σ' := by
      intro s p' σ' hs' hp' hq' hc' hl' ha' hf' hi1 hi4
      refine h184 _ _ ⟨hc'.ty, cl_sign hok hc' hp' _ (fun σ6 hc6 e6 => ?_)⟩
      rw [hq'] at hc6 ⊢
      rw [show (41 : Int32) = nI 41 from rfl, sI_eq (sg_ok hok s.q) (by decide)]
      have f6 : nf [(305, R)] [] σ' σ6 := nf_5 e6 (by simp)
      have hf6 : nf (tF R b ro) [(1, tb)] σ5 σ6 := nf_tr hf' (nf_mo f6 (by simp [tF]) (by simp))
      have hF6 : nf (nF R b ro P) (nT tb na ta) σ σ6 := nf_tr f5 (nf_mo hf6 (by simp [nF, tF]) (by simp [nT]))
      have hpl : nxt t s.q = s.q := by rw [← hq']; exact nxt_fix t (nxt_plc t hp')
      refine ⟨fun h41 => ?_, fun z => ⟨hc6.ty, cl_fail (k := 1) hc6 _ (fun σ7 hF eF => ⟨Or.inl rfl, h2 (1, s.q) σ7 (hatm _ ?_) hF (nf_tr hF6 (nf_R eF (by simp [nF]) (by simp [nF]) (by simp [nF])))⟩)⟩⟩
      · have hl6 := lt_L_f hl' f6 (by simp) (by simp)
        have ha6 := aW_f ha' f6 (by simp) (by simp) (by simp)
        have hN6 := pN_f hN5 hf6 (by simp [tF]) (by simp)
        have b6 : z_I σ6 3 b = nI g.i := by rw [hf6.I _ _ (by simp [tF])]; exact b35
        have j1 : z_I σ6 301 R = z_I σ 301 R := by rw [f6.I _ _ (by simp), hi1]; exact i15
        have j4 : z_I σ6 504 ro = (if hd then (if s.c then 1 else 0) else z_I σ 504 ro) := by rw [f6.I _ _ (by simp)]; exact hi4
        have jb : z_I σ6 4 b = z_I σ 4 b := by rw [hf6.I _ _ (by simp [tF])]; exact i4b
        have t6 : z_A σ6 9 ta = z_A σ 9 ta := by rw [hf6.A _ _ (by simp), f15.A _ _ (by simp), e1.A]
        refine ⟨fun z => x220 s σ6 hs' h41 hpl hc6 hl6 ha6 hN6 b6 j1 j4 jb hF6 (Or.inl ⟨z, t6⟩), fun z => ?_⟩
        have v1 : v4 = 1 := hv.elim (fun w => absurd w.1 z) (fun w => w.1)
        refine ⟨hc6.ty, P, by rw [hF6.R]; exact hR, hN6.ty, ta, by rw [hF6.R]; exact hS.rt, ha6.ty, ha6.ty, 8, 9, by rw [hF6.ty]; exact hS.tt, by rw [b6]; exact vp_in_nI gi8 (by decide), fun σ7 e7 => ?_⟩
        rw [b6, ha6.sz, cl_nI (by omega)] at e7
        have f7 : nf [] [(9, ta)] σ6 σ7 := by rw [e7]; exact nf_sA (by simp)
        refine x220 s σ7 hs' h41 hpl (cR_f hc6 f7 (by simp) (by simp) (by simp)) (lt_L_f hl6 f7 (by simp) (by simp)) (aW_f ha6 f7 (by simp) (by simp) (by simp)) (pN_f hN6 f7 (by simp) (by simp)) (by rw [f7.I _ _ (by simp)]; exact b6) (by rw [f7.I _ _ (by simp)]; exact j1) (by rw [f7.I _ _ (by simp)]; exact j4) (by rw [f7.I _ _ (by simp)]; exact jb) (nf_tr hF6 (nf_mo f7 (by simp) (by simp [nT]))) (Or.inr ⟨v1, ?_⟩)
        rw [e7, z_A_sA, if_pos ⟨rfl, rfl⟩, t6]
      · rw [arg_o ht hs']
        rw [if_neg z]
    have stop : ∀ (s : ts_T) (p' : Nat) (v6 : Int32) (σ' : z_S), tms t hd 3 [] lt q1 = .ok s → p' ≤ t.n → nxt t p' = s.q → cR t R tx p' σ' → lt_L σ' ro s.lt → aW σ' b tb s.l → nf (tF R b ro) [(1, tb)] σ5 σ' → z_I σ' 301 R = z_I σ5 301 R → z_I σ' 504 ro = (if hd then (if s.c then 1 else 0) else z_I σ 504 ro) → X157 v4 v6 0 σ' := by
      intro s p' v6 σ' hs' hp' hq' hc' hl' ha' hf' hi1 hi4
      refine h157 _ _ _ _ ⟨hc'.ty, fun _ => h174 _ _ _ _ _ _ _ ⟨hc'.ty, fun σ6 e6 => ?_⟩, fun z => absurd rfl z⟩
      rw [hc'.a, Int32.add_zero] at e6
      have e56 : e5 R σ' σ6 := by rw [e6]; exact e5_s R σ' _
      have f6 : nf [(305, R)] [] σ' σ6 := nf_5 e56 (by simp)
      have := x184 s p' σ6 hs' hp' hq' (cR_5 hc' e56 (by rw [e6, z_I_sI, if_pos ⟨rfl, rfl⟩])) (lt_L_f hl' f6 (by simp) (by simp)) (aW_f ha' f6 (by simp) (by simp) (by simp)) (nf_tr hf' (nf_mo f6 (by simp [tF]) (by simp))) (by rw [f6.I _ _ (by simp)]; exact hi1) (by rw [f6.I _ _ (by simp)]; exact hi4)
      exact h89 _ _ _ _ ⟨fun _ => this, fun _ => ⟨fun _ => this, fun z => absurd rfl z⟩⟩
    have main : ∀ (k : Nat) (acc : List Nat) (lt' : Nat → Bool) (p' : Nat) (σ' : z_S), acc.length + (k + 1) = 3 → p' ≤ t.n → tms t hd 3 [] lt q1 = tms t hd (k + 1) acc lt' (nxt t p') → cR t R tx p' σ' → lt_L σ' ro lt' → aW σ' b tb acc → nf (tF R b ro) [(1, tb)] σ5 σ' → z_I σ' 301 R = z_I σ5 301 R → z_I σ' 504 ro = z_I σ5 504 ro → X89 v4 1 (nI acc.length) σ' := by
      intro k
      induction k with
      | zero =>
        intro acc lt' p' σ' hk hp' htm hc' hl' ha' hf' hi1 hi4
        refine h89 _ _ _ _ ⟨fun z => absurd z (nI_ge (b := 3) (by omega) (by decide)), fun _ => ⟨fun z => absurd z (by decide), fun _ => ⟨hc'.ty, ?_⟩⟩⟩
        have e2 : nI acc.length = 2 := by rw [show acc.length = 2 by omega]; rfl
        refine cl_term hok (hd := hd) hc' hp' rfl (by rw [hf'.R, f5.R]; exact hr) hl' ha' (by omega) _ (fun r p2 σ6 hno hT hp2 hq2 hc6 hl6 ha6 hf6 j1 j4 => ⟨fun _ => ⟨fun _ => ?_, fun z => absurd e2 z⟩, fun z => absurd z (by decide)⟩) (fun p2 σ6 hyes hp2 hq2 hc6 hl6 ha6 hf6 j1 j4 => ⟨fun _ => ⟨fun _ => ?_, fun z => absurd e2 z⟩, fun z => absurd z (by decide)⟩) (fun e σ6 hno hT hF hf6 => ⟨fun z => absurd rfl z, fun _ => h2 e σ6 (hatm _ ?_) hF (nf_tr f5 (nf_mo (nf_tr hf' hf6) (by simp [nF, tF]) (by simp [nT])))⟩)
        · refine h136 _ _ _ _ ⟨fun _ => ?_, fun z => absurd z (by decide)⟩
          refine stop ⟨acc ++ [r.x], false, r.lt, r.q⟩ p2 _ σ6 ?_ hp2 hq2 hc6 hl6 ha6 (nf_tr hf' hf6) (j1.trans hi1) ?_
          · rw [htm]
            unfold tms
            rw [if_neg hno, hT]
            exact if_neg (fun w => w.1 rfl)
          · rw [j4, hi4, i45]
            cases hd with
            | false => rfl
            | true => exact h50 rfl
        · refine h136 _ _ _ _ ⟨fun _ => ?_, fun z => absurd z (by decide)⟩
          refine stop ⟨acc ++ [99], true, lt', nxt t (nxt t p' + 1)⟩ p2 _ σ6 ?_ hp2 hq2 hc6 hl6 ha6 (nf_tr hf' hf6) (j1.trans hi1) ?_
          · rw [htm]
            unfold tms
            rw [if_pos hyes]
          · rw [j4, hyes.1]; rfl
        · refine arg_e ht ?_
          rw [htm]
          unfold tms
          rw [if_neg hno, hT]
      | succ k ih =>
        intro acc lt' p' σ' hk hp' htm hc' hl' ha' hf' hi1 hi4
        refine h89 _ _ _ _ ⟨fun z => absurd z (nI_ge (b := 3) (by omega) (by decide)), fun _ => ⟨fun z => absurd z (by decide), fun _ => ⟨hc'.ty, ?_⟩⟩⟩
        have e2 : ¬ nI acc.length = 2 := fun z => by
          have := (nI_eq (b := 2) (by omega) (by decide)).mp z
          omega
        refine cl_term hok (hd := hd) hc' hp' rfl (by rw [hf'.R, f5.R]; exact hr) hl' ha' (by omega) _ (fun r p2 σ6 hno hT hp2 hq2 hc6 hl6 ha6 hf6 j1 j4 => ⟨fun _ => ⟨fun z => absurd z e2, fun _ => ?_⟩, fun z => absurd z (by decide)⟩) (fun p2 σ6 hyes hp2 hq2 hc6 hl6 ha6 hf6 j1 j4 => ⟨fun _ => ⟨fun z => absurd z e2, fun _ => ?_⟩, fun z => absurd z (by decide)⟩) (fun e σ6 hno hT hF hf6 => ⟨fun z => absurd rfl z, fun _ => h2 e σ6 (hatm _ ?_) hF (nf_tr f5 (nf_mo (nf_tr hf' hf6) (by simp [nF, tF]) (by simp [nT])))⟩)
        · have hlen : (acc ++ [r.x]).length = acc.length + 1 := by rw [List.length_append]; rfl
          have next : X136 v4 (nI acc.length) 0 σ6 := by
            refine h136 _ _ _ _ ⟨fun z => absurd rfl z, fun _ => ⟨hc6.ty, cl_sign hok hc6 hp2 _ (fun σ7 hc7 e7 => ?_)⟩⟩
            rw [hq2] at hc7 ⊢
            have f7 : nf [(305, R)] [] σ6 σ7 := nf_5 e7 (by simp)
            have hl7 := lt_L_f hl6 f7 (by simp) (by simp)
            have ha7 := aW_f ha6 f7 (by simp) (by simp) (by simp)
            have hf7 : nf (tF R b ro) [(1, tb)] σ5 σ7 := nf_tr (nf_tr hf' hf6) (nf_mo f7 (by simp [tF]) (by simp))
            have k1 : z_I σ7 301 R = z_I σ5 301 R := by rw [f7.I _ _ (by simp), j1]; exact hi1
            have k4 : z_I σ7 504 ro = z_I σ5 504 ro := by rw [f7.I _ _ (by simp), j4]; exact hi4
            have hrp : plc t r.q := by rw [← hq2]; exact nxt_plc t hp2
            rw [show (44 : Int32) = nI 44 from rfl, sI_eq (sg_ok hok r.q) (by decide)]
            have htm2 : tms t hd 3 [] lt q1 = if k + 1 ≠ 0 ∧ sg t r.q = 44 then tms t hd (k + 1) (acc ++ [r.x]) r.lt (nxt t (r.q + 1)) else .ok ⟨acc ++ [r.x], false, r.lt, r.q⟩ := by
              rw [htm]
              rw [show tms t hd (k + 1 + 1) acc lt' (nxt t p') = (if hd = true ∧ sg t (nxt t p') = 35 then .ok ⟨acc ++ [99], true, lt', nxt t (nxt t p' + 1)⟩ else match trm t lt' (nxt t p') with | .error e => .error e | .ok r => if k + 1 ≠ 0 ∧ sg t r.q = 44 then tms t hd (k + 1) (acc ++ [r.x]) r.lt (nxt t (r.q + 1)) else .ok ⟨acc ++ [r.x], false, r.lt, r.q⟩) from rfl, if_neg hno, hT]
            refine ⟨fun z => stop ⟨acc ++ [r.x], false, r.lt, r.q⟩ r.q _ σ7 (by rw [htm2, if_neg (fun w => z w.2)]) hrp.1 (nxt_fix t hrp) hc7 hl7 ha7 hf7 k1 ?_, fun z => ?_⟩
            · rw [k4, i45]
              cases hd with
              | false => rfl
              | true => exact h50 rfl
            · have hrn := sg_lt z (by decide)
              refine h157 _ _ _ _ ⟨hc7.ty, fun w => absurd w (by decide), fun _ => h174 _ _ _ _ _ _ _ ⟨hc7.ty, fun σ8 e8 => ?_⟩⟩
              rw [hc7.a, nI_1] at e8
              have e58 : e5 R σ7 σ8 := by rw [e8]; exact e5_s R σ7 _
              have f8 : nf [(305, R)] [] σ7 σ8 := nf_5 e58 (by simp)
              rw [nI_1, ← hlen]
              refine ih (acc ++ [r.x]) r.lt (r.q + 1) σ8 (by omega) (by omega) (by rw [htm2, if_pos ⟨Nat.succ_ne_zero k, z⟩]) (cR_5 hc7 e58 (by rw [e8, z_I_sI, if_pos ⟨rfl, rfl⟩])) (lt_L_f hl7 f8 (by simp) (by simp)) (aW_f ha7 f8 (by simp) (by simp) (by simp)) (nf_tr hf7 (nf_mo f8 (by simp [tF]) (by simp))) (by rw [f8.I _ _ (by simp)]; exact k1) (by rw [f8.I _ _ (by simp)]; exact k4)
          cases hdd : hd with
          | false => exact ⟨fun _ => next, fun z => absurd rfl z⟩
          | true =>
            refine ⟨fun z => absurd z (by decide), fun _ => ⟨hc6.ty, ro, by rw [hf6.R, hf'.R, f5.R]; exact hr, hl6.ty, fun _ => next, fun z => absurd ?_ z⟩⟩
            rw [j4, hi4, i45]
            exact h50 hdd
        · have x1 : X136 v4 (nI acc.length) 1 σ6 := by
            refine h136 _ _ _ _ ⟨fun _ => ?_, fun z => absurd z (by decide)⟩
            refine stop ⟨acc ++ [99], true, lt', nxt t (nxt t p' + 1)⟩ p2 _ σ6 ?_ hp2 hq2 hc6 hl6 ha6 (nf_tr hf' hf6) (j1.trans hi1) ?_
            · rw [htm]
              unfold tms
              rw [if_pos hyes]
            · rw [j4, hyes.1]; rfl
          rw [hyes.1]
          refine ⟨fun z => absurd z (by decide), fun _ => ⟨hc6.ty, ro, by rw [hf6.R, hf'.R, f5.R]; exact hr, hl6.ty, fun z => absurd z (by rw [j4]; decide), fun _ => x1⟩⟩
        · refine arg_e ht ?_
          rw [htm]
          rw [show tms t hd (k + 1 + 1) acc lt' (nxt t p') = (if hd = true ∧ sg t (nxt t p') = 35 then .ok ⟨acc ++ [99], true, lt', nxt t (nxt t p' + 1)⟩ else match trm t lt' (nxt t p') with | .error e => .error e | .ok r => if k + 1 ≠ 0 ∧ sg t r.q = 44 then tms t hd (k + 1) (acc ++ [r.x]) r.lt (nxt t (r.q + 1)) else .ok ⟨acc ++ [r.x], false, r.lt, r.q⟩) from rfl, if_neg hno, hT]
    exact main 2 [] lt p1 σ5 rfl hp1 (by rw [hq1]) hc5 hl5 ha5 (nf_rf _ _ σ5) rfl rfl
  -- the name
  have made : ∀ v4 : Int32, ((v4 = 0 ∧ nm.idxOf (sg t q) < nm.length) ∨ (v4 = 1 ∧ ¬ nm.idxOf (sg t q) < nm.length)) → X35 (nI (sg t q)) v4 σ1 := by
    intro v4 hv
    refine h35 _ _ _ ⟨hc.ty, P, hR1, hS1.n.ty, ?_⟩
    refine cl_made hS1.n n8 hb s256 _ (fun hi => ?_) (fun σ2 hi hl8 hN2 f2 => ?_) (fun hi hl8 => ?_)
    · have hrel : rel t nm A q = .ok ⟨nm.idxOf (sg t q), nm, A, nxt t (q + 1)⟩ := by
        unfold rel; rw [if_pos hN, if_pos hi]
      refine ⟨ha1.ty, fun σ3 e3 => ⟨by rw [e3]; exact ha1.ty, ?_⟩⟩
      have := go _ v4 σ1 hrel (Or.inl ⟨hv.elim (fun w => w.1) (fun w => absurd hi w.2), rfl, rfl⟩) hS1.n (nf_rf _ _ _) σ3 e3
      rw [show z_I σ3 3 b = nI (nm.idxOf (sg t q)) by rw [e3, z_I_sI, if_pos ⟨rfl, rfl⟩]]
      exact ⟨fun _ => this, fun z => absurd (nI_pos' (by omega)) z⟩
    · have hrel : rel t nm A q = .ok ⟨nm.length, nm ++ [sg t q], A ++ [0], nxt t (q + 1)⟩ := by
        unfold rel; rw [if_pos hN, if_neg hi, if_neg hl8]
      refine ⟨by rw [f2.ty]; exact ha1.ty, fun σ3 e3 => ⟨by rw [e3, z_ty_sI, f2.ty]; exact ha1.ty, ?_⟩⟩
      have := go _ v4 σ2 hrel (Or.inr ⟨hv.elim (fun w => absurd w.2 hi) (fun w => w.1), rfl, rfl, rfl⟩) hN2 f2 σ3 e3
      rw [show z_I σ3 3 b = nI nm.length by rw [e3, z_I_sI, if_pos ⟨rfl, rfl⟩]]
      exact ⟨fun _ => this, fun z => absurd (nI_pos' (by omega)) z⟩
    · refine ⟨ha1.ty, fun σ3 e3 => ⟨by rw [e3]; exact ha1.ty, ?_⟩⟩
      rw [show z_I σ3 3 b = -1 by rw [e3, z_I_sI, if_pos ⟨rfl, rfl⟩]]
      have f3 : nf [(3, b)] [] σ1 σ3 := by rw [e3]; exact nf_sI (by simp)
      have hc3 := cR_f hc f3 (by simp) (by simp) (by simp)
      refine ⟨fun z => absurd z (by decide), fun _ => ⟨hc3.ty, cl_fail (k := 3) hc3 _ (fun σ4 hF eF => ⟨Or.inl rfl, h2 (3, q) σ4 ?_ hF (nf_tr f1 (nf_tr (nf_mo f3 (by simp [nF]) (by simp)) (nf_R eF (by simp [nF]) (by simp [nF]) (by simp [nF]))))⟩)⟩⟩
      unfold atm rel
      rw [if_pos hN, if_neg hi, if_pos hl8]
  exact cl_named0 hS1.n n8 hb s256 _ (fun hi => ⟨fun _ => made 0 (Or.inl ⟨rfl, hi⟩), fun z => absurd z (ov_m1 (by omega))⟩) (fun hi => ⟨fun z => absurd rfl z, fun _ => made 1 (Or.inr ⟨rfl, hi⟩)⟩)
