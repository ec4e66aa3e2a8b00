theorem prs_s {t : tx_T} {k : Nat} {rs : List ru_T} {nm A : List Nat} {q : Nat} {r : rr_T} (hq : q < t.n) (h : rul t rs nm A q = .ok r) : prs t (k + 1) rs nm A q = prs t k (rs ++ [r.r]) r.nm r.A r.q := by
  rw [prs, if_pos hq, h]
def sD (K : rd_T) (pa la ra : Nat) (a : Nat) : Prop := a = K.R ∨ a = K.P ∨ a = K.na ∨ a = K.ta ∨ a = pa ∨ a = la ∨ a = ra
theorem rv_of {σ : z_S} {K : rd_T} {t : tx_T} {p : Nat} {nm A : List Nat} (hW : rW t K p nm A σ) {D : pa_T} (hD : D.p = K.P) {ra : Nat} {rs : List ru_T} {as : Nat → List lit_T} (hp : rP σ D ra rs as A) (hi : pinv rs nm A) : rv σ D ra nm.length rs as (aA A) := ⟨hp.ty, hp.rr, hp.tr, hp.nn, by rw [hD]; exact hW.s.n.nn, hp.n16, hi.ok.n8, fun i h => ⟨(hp.ru i h).1, (hp.ru i h).2.1, (hp.ru i h).2.2.1⟩, fun i h => (hp.ru i h).2.2.2.ts, fun r hr => ⟨(hi.r r hr).h, fun l hl => ⟨((hi.r r hr).ls l hl).lit.1, fun h1 => (((hi.r r hr).ls l hl).nm h1).1⟩⟩, hp.lr, hp.tl, hp.er, hp.te⟩
theorem cl_rules {t : tx_T} (hok : tx_ok t) {K : rd_T} {σ0 : z_S} (hW0 : rW t K 0 [] [] σ0) {D0 : pa_T} (hD0 : D0.p = K.P) {ra : Nat} {as0 : Nat → List lit_T} (hp0 : rP σ0 D0 ra [] as0 []) (Po : z_S → Prop)
    (hE : ∀ e σ, parse t = .error e → cF K.R e σ → z_R σ 300 K.R = some K.P → z_ty σ K.P = some (.inl 2) → z_I σ 208 K.P = 0 → wf (sD K D0.pa D0.la ra) σ0 σ → Po σ)
    (hO : ∀ p D as L top σr σ, parse t = .ok p → pinv p.rs p.nm p.A → D.p = K.P → rW t K t.n p.nm p.A σr → rP σr D ra p.rs as p.A → ¬ rng p.rs → least p.rs L → (∀ v, L v ≤ 8) → (∀ v, L v ≤ top) → (top = 0 ∨ ∃ v, v < p.nm.length ∧ L v = top) → lyS σ D.la L → z_I σ 207 D.p = nI top → rb σ ra (rea p.rs) → nf [(207, D.p), (208, D.p)] [(10, D.la), (11, ra)] σr σ → wf (sD K D0.pa D0.la ra) σ0 σ → Po σ)
    (hR : ∀ p x σr σ, parse t = .ok p → pinv p.rs p.nm p.A → x < p.nm.length → bad p.rs x → (∀ y, y < x → ¬ bad p.rs y) → cF K.R (6, t.n) σ → z_R σ 300 K.R = some K.P → pS σ K.P K.na K.ta p.nm p.A → (∀ k, k < 32 → (bi (z_I σ 208 K.P) k = true ↔ k < p.nm.length ∧ rea p.rs x k ∧ rea p.rs k x)) → wf (sD K D0.pa D0.la ra) σ0 σr → wf (sD K D0.pa D0.la ra) σ0 σ → Po σ) : kp_Re_readRules K.R σ0 Po := by
  intro X4 X33 h4 h33
  have sCD : ∀ a, sC K D0.pa a → sD K D0.pa D0.la ra a := fun a z => by
    rcases z with z | z | z | z | z
    · exact Or.inl z
    · exact Or.inr (Or.inl z)
    · exact Or.inr (Or.inr (Or.inl z))
    · exact Or.inr (Or.inr (Or.inr (Or.inl z)))
    · exact Or.inr (Or.inr (Or.inr (Or.inr (Or.inl z))))
  have main : ∀ (k : Nat) (rs : List ru_T) (nm A : List Nat) (p : Nat) (D : pa_T) (as : Nat → List lit_T) (σ : z_S), rs.length + k = 17 → parse t = prs t k rs nm A (nxt t p) → pinv rs nm A → D.p = K.P → D.pa = D0.pa → D.la = D0.la → rW t K p nm A σ → rP σ D ra rs as A → wf (sD K D0.pa D0.la ra) σ0 σ → X4 1 (nI rs.length) (16 * rs.length) (75 * rs.length) σ := by
    intro k
    induction k with
    | zero =>
      intro rs nm A p D as σ hk _ _ _ _ _ _ hp
      have := hp.n16
      omega
    | succ k ih =>
      intro rs nm A p D as σ hk hprs hi hD hpa hla hW hp hw
      have n16 := hp.n16
      refine h4 _ _ _ _ _ ⟨fun z => absurd z (nI_nlt (a := 16) (b := rs.length) (by omega) (by decide)), fun _ => ⟨fun z => absurd z (by decide), fun _ => ⟨⟨by omega, by omega⟩, hW.c.ty, ?_⟩⟩⟩
      refine cl_sign hok hW.c hW.p _ (fun σ1 hc e1 => ?_)
      have hpq : plc t (nxt t p) := nxt_plc t hW.p
      have f1 : nf [(305, K.R)] [] σ σ1 := nf_5 e1 (by simp)
      have hW1 : rW t K (nxt t p) nm A σ1 := ⟨hc, hpq.1, by rw [f1.I _ _ (by simp)]; exact hW.f, by rw [f1.R]; exact hW.r0, pS_f hW.s f1 (by simp) (by simp) (by simp)⟩
      have lf1 : lf (s0 K) K.P σ σ1 := lf_nf f1 (by simp [s0]) (by simp) (by simp)
      have hp1 : rP σ1 D ra rs as A := rP_lf hW hD hp lf1
      have w1 : wf (sD K D0.pa D0.la ra) σ0 σ1 := wf_tr hw lf1.w (fun a z _ => by
        rcases z with z | z | z | z
        · exact Or.inl z
        · exact Or.inr (Or.inl z)
        · exact Or.inr (Or.inr (Or.inl z))
        · exact Or.inr (Or.inr (Or.inr (Or.inl z))))
      rw [sI_m1 (sg_ok hok _)]
      refine ⟨fun z => ?_, fun z => ⟨⟨by omega, by omega⟩, hc.ty, ?_⟩⟩
      · -- the end
        have hqn : nxt t p = t.n := by
          unfold sg at z
          split at z
          · have := hok.b (nxt t p)
            omega
          · have := hpq.1
            omega
        have hpe : parse t = .ok ⟨rs, nm, A⟩ := by
          rw [hprs]
          unfold prs
          rw [if_neg (by omega)]
        refine h33 _ _ _ _ ⟨fun y => absurd y (by decide), fun _ => ⟨hc.ty, K.P, hW1.r0, ⟨by omega, by omega⟩, hW1.s.n.ty, ?_⟩⟩
        rw [← hD]
        have hv1 := rv_of hW1 hD hp1 hi
        rw [hqn] at hW1
        have wl : ∀ {σ2}, nf [(207, D.p), (208, D.p)] [(10, D.la), (11, ra)] σ1 σ2 → wf (sD K D0.pa D0.la ra) σ0 σ2 := fun {σ2} f2 => wf_tr w1 (wf_nf (S := fun a => a = D.p ∨ a = D.la ∨ a = ra) f2 (by simp) (by simp)) (fun a y _ => by
          rcases y with y | y | y
          · exact Or.inr (Or.inl (y.trans hD))
          · exact Or.inr (Or.inr (Or.inr (Or.inr (Or.inr (Or.inl (y.trans hla))))))
          · exact Or.inr (Or.inr (Or.inr (Or.inr (Or.inr (Or.inr y))))))
        refine cl_layers hv1 hp1.ve hp1.vl hp1.i7 hp1.i8 hp1.vw _ (fun L top σ2 hnr hL hL8 hLt htp hly h7 h8 hrb f2 => ⟨fun _ => hO ⟨rs, nm, A⟩ D as L top σ1 σ2 hpe hi hD hW1 hp1 hnr hL hL8 hLt htp hly h7 hrb f2 (wl f2), fun y => absurd y (by decide)⟩) (fun x σ2 hx hb hmin hbits hrb f2 => ⟨fun y => absurd rfl y, fun _ => ⟨⟨by omega, by omega⟩, by rw [f2.ty]; exact hc.ty, ?_⟩⟩)
        have hc2 : cR t K.R K.tx t.n σ2 := by
          have := cR_f hc f2 (by simp) (by simp) (by simp)
          rw [hqn] at this
          exact this
        refine cl_fail (k := 6) hc2 _ (fun σ3 hF eF => ?_)
        have f3 : nf [(301, K.R), (302, K.R), (305, K.R)] [] σ2 σ3 := nf_R eF (by simp) (by simp) (by simp)
        rw [hD] at f2 hbits
        refine hR ⟨rs, nm, A⟩ x σ1 σ3 hpe hi hx hb hmin hF (by rw [f3.R, f2.R]; exact hW1.r0) (pS_f (pS_f hW1.s f2 (by simp) (by simp) (by simp)) f3 (by simp) (by simp) (by simp)) (fun k' hk' => by rw [f3.I _ _ (by simp)]; exact hbits k' hk') w1 ?_
        rw [← hD] at f2
        exact wf_tr (wl f2) (wf_nf (S := fun a => a = K.R) f3 (by simp) (by simp)) (fun a y _ => Or.inl y)
      · -- one more rule
        have hqn : nxt t p < t.n := by
          refine Classical.byContradiction (fun y => z ?_)
          unfold sg
          rw [if_neg y]
        have wc : ∀ {σ2}, wf (sC K D.pa) σ1 σ2 → wf (sD K D0.pa D0.la ra) σ0 σ2 := fun h => wf_tr w1 h (fun a y _ => sCD a (by rw [← hpa]; exact y))
        refine cl_rule hok hW1 (nxt_fix t hpq) hi.ok hD hp1 hi.r _ (fun r p' D' as' σ2 hr hq2 e1' e2' e3' hW2 hp2 w2 => ?_) (fun e σ2 hr hF w2 => ?_)
        · obtain ⟨a1, a2, a3, a4, a5⟩ := rul_ok hi.ok hr
          have hlen : (rs ++ [r.r]).length = rs.length + 1 := by rw [List.length_append]; rfl
          have := ih (rs ++ [r.r]) r.nm r.A p' D' as' σ2 (by omega) (by
            rw [hprs, prs_s hqn hr, hq2]) (pinv_add hi a1 a2 a3 a5 (by omega)) e1' (e2'.trans hpa) (e3'.trans hla) hW2 hp2 (wc w2)
          rw [hlen] at this
          rw [nI_1]
          exact this
        · have := hE e σ2 (by
            rw [hprs]
            unfold prs
            rw [if_pos hqn, hr]) hF (by rw [w2.R _ _ (nn_s hc.ty) (fun y => absurd y.1 (by decide))]; exact hW1.r0) (by rw [w2.w.ty _ (nn_s hW1.s.n.ty)]; exact hW1.s.n.ty) (by rw [w2.k.i8, ← hD]; exact hp1.i8) (wc w2.w)
          refine h4 _ _ _ _ _ ⟨fun _ => h33 _ _ _ _ ⟨fun _ => this, fun y => absurd rfl y⟩, fun _ => ⟨fun _ => h33 _ _ _ _ ⟨fun _ => this, fun y => absurd rfl y⟩, fun y => absurd rfl y⟩⟩
  exact main 17 [] [] [] 0 D0 as0 σ0 rfl rfl ⟨⟨by decide, rfl, fun x hx => absurd hx List.not_mem_nil, List.nodup_nil, fun k hk => absurd hk (Nat.not_lt_zero k)⟩, fun r hr => absurd hr List.not_mem_nil, fun i j hi => absurd hi (Nat.not_lt_zero i), by decide⟩ hD0 rfl rfl hW0 hp0 (wf_rf _ _)
