theorem mp_in {x lo : Int32} {n : Nat} (hn : n < 2147483648) {μ : mo_U} {Q : Int32 → mo_U → Prop} (hlo : lo = 0) (h1 : ∀ j, j < n → x = nI j → Q 1 μ) (h0 : (∀ j, j < n → x ≠ nI j) → Q 0 μ) : mp_isIn x lo (nI n - 1) μ Q := by
  subst hlo
  refine ⟨fun q => h0 (fun j hj e => ?_), fun q => ⟨fun q2 => h0 (fun j hj e => ?_), fun q2 => ?_⟩⟩
  · rw [e] at q; exact absurd q (nI_pos (by omega))
  · rw [nI_m1 hn, e, nI_toInt (by omega)] at q2
    exact q2 (by omega)
  · obtain ⟨j, hj, e⟩ := nI_of q
    rw [nI_m1 hn, Classical.not_not, e, nI_toInt (by omega)] at q2
    exact h1 j (by omega) e
theorem mp_inC {x : Int32} {n : Nat} (hn : n < 1000000) {μ : mo_U} {Q : Int32 → mo_U → Prop} (h1 : ∀ j, j ≤ n → x = nI j → Q 1 μ) (h0 : (∀ j, j ≤ n → x ≠ nI j) → Q 0 μ) : mp_isIn x 0 (nI n) μ Q := by
  refine ⟨fun q => h0 (fun j hj e => ?_), fun q => ⟨fun q2 => h0 (fun j hj e => ?_), fun q2 => ?_⟩⟩
  · rw [e] at q; exact absurd q (nI_pos (by omega))
  · rw [e, nI_ltI (by omega) (by omega)] at q2; omega
  · obtain ⟨j, hj, e⟩ := nI_of q
    rw [e, nI_ltI (by omega) (by omega)] at q2
    exact h1 j (by omega) e
theorem ref_isRel {a : ab_T} {μ : mo_U} {T' : Nat → al_T} (hO : RO a μ T') (hn : a.G.n ≤ 8) {x : Int32} {Q : Int32 → mo_U → Prop} (h1 : ∀ v, v < a.G.n → x = nI v → Q 1 μ) (h0 : (∀ v, v < a.G.n → x ≠ nI v) → Q 0 μ) : mp_isRelation x μ Q := by
  unfold mp_isRelation
  rw [hO.t.g.kn]
  exact mp_in (by omega) rfl (fun j hj e => ⟨Or.inr rfl, h1 j hj e⟩) (fun h => ⟨Or.inl rfl, h0 h⟩)
theorem vr_isRel {V : vc_T} {a : ab_T} {σ : z_S} (hp : prg V a σ) {x : Int32} {P : Int32 → z_S → Prop} (h1 : ∀ v, v < a.G.n → x = nI v → P 1 σ) (h0 : (∀ v, v < a.G.n → x ≠ nI v) → P 0 σ) : kp_Pr_isRelation V.D.p x σ P := pr_isRel hp.pr hp.ok.n8 x P h1 h0
/-- what is not a relation -/
theorem case_n (n : Nat) (x : Int32) : (∃ v, v < n ∧ x = nI v) ∨ ∀ v, v < n → x ≠ nI v := by
  by_cases h : ∃ v, v < n ∧ x = nI v
  · exact Or.inl h
  · exact Or.inr (fun v hv e => h ⟨v, hv, e⟩)
theorem op_of : st_of IN := by
  rintro x m σ x1 x2 P ⟨V, a, ma, rfl, hC, hT, hm, hR⟩ hP
  refine ⟨hC.ty, hC.ty, ?_⟩
  have fin : ∀ r : Int32, (∀ Q : Int32 → mo_U → Prop, Q r (mu_of σ m ma) → mp_of x1 x2 (mu_of σ m ma) Q) → P r σ := fun r hr => by
    refine hP r σ (mo_ty0 hT) (fun P2 h2 => ?_)
    rw [← mu_put σ m ma]
    exact mq_of hT x1 x2 _ _ P2 (fin_op hC hT hm h2) (hr _ ⟨rfl, hR, lowf_rf _⟩)
  refine vr_noRules hC _ (fun hb => ⟨fun _ => ?_, fun q => absurd rfl q⟩) (fun hb => ⟨fun q => absurd q (by decide), fun _ => ?_⟩)
  · have hp := CI_prg hC hb
    obtain ⟨T', hO⟩ := RR_on hR hb
    have hn8 := hp.ok.n8
    have h808 := RO_808 hp hO
    refine ⟨hC.ty, V.D.p, hp.rp, hp.pr.ty, vr_isRel hp (fun v hv e => ⟨fun _ => ?_, fun q => absurd q (by decide)⟩) (fun hno => ⟨fun q => absurd rfl q, fun _ => ?_⟩)⟩
    · subst e
      have v8 : v < 8 := by omega
      have inn : ∀ (w : Nat), w ≤ 4 → x2 = nI w → ∀ r : Int32, (∀ Q : Int32 → mo_U → Prop, Q r (mu_of σ m ma) → (x2 = (0 : Int32) → vp_in (nI v) 9 ∧ ((((mu_of σ m ma).2 36 v) = 0 → Q ((0 : Int32)) (mu_of σ m ma)) ∧ (¬ ((mu_of σ m ma).2 36 v) = 0 → Q ((1 : Int32)) (mu_of σ m ma)))) ∧ (¬ x2 = (0 : Int32) → (x2 = (1 : Int32) → vp_in (nI v) 9 ∧ (Q ((mu_of σ m ma).2 35 v) (mu_of σ m ma))) ∧ (¬ x2 = (1 : Int32) → (x2 = (2 : Int32) → vp_in (nI v) 9 ∧ (Q ((mu_of σ m ma).2 37 v) (mu_of σ m ma))) ∧ (¬ x2 = (2 : Int32) → (x2 = (3 : Int32) → vp_in (nI v) 8 ∧ (Q ((mu_of σ m ma).2 42 v) (mu_of σ m ma))) ∧ (¬ x2 = (3 : Int32) → vp_in (((9 : Int32)) * nI v) 64 ∧ ((((mu_of σ m ma).2 38 (9 * v)) = 0 → Q ((0 : Int32)) (mu_of σ m ma)) ∧ (¬ ((mu_of σ m ma).2 38 (9 * v)) = 0 → Q ((1 : Int32)) (mu_of σ m ma)))))))) → P r σ := by
        intro w hw e r hr
        refine fin r (fun Q hQ => ⟨fun _ => ref_isRel hO hn8 (fun v' _ e' => ⟨fun q => absurd q (by decide), fun _ => mp_inC (n := 4) (by decide) (fun j hj ej => ⟨fun _ => ?_, fun q => absurd q (by decide)⟩) (fun h => absurd e (h w hw))⟩) (fun h => absurd rfl (h v hv)), fun q => absurd q h808⟩)
        have := hr Q hQ
        rw [show (9 : Int32) * nI v = nI (9 * v) by rw [show (9 : Int32) = nI 9 from rfl, pk_mul]] at this ⊢
        rw [cl_nI (n := v) (by omega), cl_nI (n := 9 * v) (by omega)]
        exact this
      have d0 : ∀ k : Nat, k ≤ 4 → nI k = (0 : Int32) → k = 0 := by decide
      refine ⟨fun e => ?_, fun n0 => ⟨fun e => ?_, fun n1 => ⟨fun e => ?_, fun n2 => ⟨fun e => ?_, fun n3 => ⟨fun e => ?_, fun n4 => ?_⟩⟩⟩⟩⟩
      · refine ⟨hC.ty, V.D.p, hp.rp, hp.pr.ty, pr_isView hp.pr hn8 hv _ ?_⟩
        have hvw := hO.t.g.vw v hv
        cases hbv : a.G.vw v with
        | false =>
          rw [hbv] at hvw
          refine ⟨fun _ => inn 0 (by omega) e 0 (fun Q hQ => ⟨fun _ => ⟨vp_in_nI (by omega) (by decide), fun _ => hQ, fun q => absurd hvw q⟩, fun q => absurd e q⟩), fun q => absurd rfl q⟩
        | true =>
          rw [hbv] at hvw
          refine ⟨fun q => absurd q (by decide), fun _ => inn 0 (by omega) e 1 (fun Q hQ => ⟨fun _ => ⟨vp_in_nI (by omega) (by decide), fun q => absurd (hvw.symm.trans q) (by decide), fun _ => hQ⟩, fun q => absurd e q⟩)⟩
      · refine ⟨hC.ty, V.D.p, hp.rp, hp.pr.ty, V.ta, hp.px.tr, 8, 9, hp.px.tt, vp_in_nI v8 (by decide), ?_⟩
        rw [cl_nI (by omega), hp.px.tv v hv]
        exact inn 1 (by omega) e _ (fun Q hQ => ⟨fun q => absurd q n0, fun _ => ⟨fun _ => ⟨vp_in_nI (by omega) (by decide), by rw [(hO.n v hv).2]; exact hQ⟩, fun q => absurd e q⟩⟩)
      · refine ⟨hC.ty, V.D.p, hp.rp, hp.pr.ty, V.D.la, hp.pr.lr, 8, 10, hp.pr.lt, vp_in_nI v8 (by decide), ?_⟩
        rw [cl_nI (by omega), hp.pr.ly v v8]
        exact inn 2 (by omega) e _ (fun Q hQ => ⟨fun q => absurd q n0, fun _ => ⟨fun q => absurd q n1, fun _ => ⟨fun _ => ⟨vp_in_nI (by omega) (by decide), by rw [hO.t.g.ly v hv]; exact hQ⟩, fun q => absurd e q⟩⟩⟩)
      · refine ⟨hC.ty, V.N.w, hC.rn, 8, V.N.s, hp.N.1.tw, vp_in_nI v8 (by decide), V.N.ra v, by rw [cl_nI (by omega)]; exact hp.N.1.qw v v8, (hp.N.1.ro v v8).1, ?_⟩
        rw [(hp.N.2 v v8).2.1]
        obtain ⟨R, N, hW⟩ := hO.t.w
        have e42 : (mu_of σ m ma).2 42 v = nI (a.T v).length := by
          rw [(hW.1.2 v v8).1, ← hO.e v hv, (hW.2 v v8).1, mr_l_len]
        exact inn 3 (by omega) e _ (fun Q hQ => ⟨fun q => absurd q n0, fun _ => ⟨fun q => absurd q n1, fun _ => ⟨fun q => absurd q n2, fun _ => ⟨fun _ => ⟨vp_in_nI (by omega) (by decide), by rw [e42]; exact hQ⟩, fun q => absurd e q⟩⟩⟩⟩)
      · refine ⟨hC.ty, V.D.p, hp.rp, hp.pr.ty, V.ra, hp.px.rr, 8, 11, hp.px.rt, vp_in_nI v8 (by decide), vr_isIn _ _ _ _ ?_⟩
        rw [cl_nI (by omega), hp.px.rv v hv v v8]
        have e38 : (mu_of σ m ma).2 38 (9 * v) = if a.rc v v then 1 else 0 := by
          rw [show 9 * v = 8 * v + v by omega]
          exact hO.r v v v8 v8
        have i9 : vp_in ((9 : Int32) * nI v) 64 := by
          rw [show (9 : Int32) = nI 9 from rfl, pk_mul]
          exact vp_in_nI (by omega) (by decide)
        cases hbr : a.rc v v with
        | false =>
          rw [hbr] at e38
          exact ⟨fun _ => inn 4 (by omega) e 0 (fun Q hQ => ⟨fun q => absurd q n0, fun _ => ⟨fun q => absurd q n1, fun _ => ⟨fun q => absurd q n2, fun _ => ⟨fun q => absurd q n3, fun _ => ⟨i9, fun _ => hQ, fun q => absurd e38 q⟩⟩⟩⟩⟩), fun q => absurd rfl q⟩
        | true =>
          rw [hbr] at e38
          exact ⟨fun q => absurd q (by decide), fun _ => inn 4 (by omega) e 1 (fun Q hQ => ⟨fun q => absurd q n0, fun _ => ⟨fun q => absurd q n1, fun _ => ⟨fun q => absurd q n2, fun _ => ⟨fun q => absurd q n3, fun _ => ⟨i9, fun q => absurd (e38.symm.trans q) (by decide), fun _ => hQ⟩⟩⟩⟩⟩)⟩
      · refine fin (-2) (fun Q hQ => ⟨fun _ => ref_isRel hO hn8 (fun v' _ e' => ⟨fun q => absurd q (by decide), fun _ => mp_inC (n := 4) (by decide) (fun j hj ej => ?_) (fun h => ⟨fun q => absurd rfl q, fun _ => hQ⟩)⟩) (fun h => absurd rfl (h v hv)), fun q => absurd q h808⟩)
        exfalso
        rcases (show j = 0 ∨ j = 1 ∨ j = 2 ∨ j = 3 ∨ j = 4 by omega) with rfl | rfl | rfl | rfl | rfl
        · exact n0 ej
        · exact n1 ej
        · exact n2 ej
        · exact n3 ej
        · exact n4 ej
    · exact fin (-2) (fun Q hQ => ⟨fun _ => ref_isRel hO hn8 (fun v hv e => absurd e (hno v hv)) (fun _ => ⟨fun _ => hQ, fun q => absurd rfl q⟩), fun q => absurd q h808⟩)
  · exact fin (-4) (fun Q hQ => ⟨fun q => absurd (RR_off hR hb).1 q, fun _ => hQ⟩)
theorem ref_giv {a : ab_T} {μ : mo_U} {T' : Nat → al_T} (hO : RO a μ T') (hn : a.G.n ≤ 8) {v i : Nat} (hv : v < a.G.n) (hA : a.G.A v ≤ 3) (hi : i < 3) {w : Int32} {Q : Int32 → mo_U → Prop} (h : Q (gv (a.G.A v) i w) μ) : mp_given (nI v) (nI i) w μ Q := by
  unfold mp_given
  rw [cl_nI (n := v) (by omega), (hO.n v hv).2, nI_leI (by omega) (by omega)]
  unfold gv at h
  exact ⟨vp_in_nI (by omega) (by decide), fun q => by rw [if_neg (by omega)] at h; exact h, fun q => by rw [if_pos (by omega)] at h; exact h⟩
/-- values given -/
theorem ref_vals {a : ab_T} {μ : mo_U} {T' : Nat → al_T} (hO : RO a μ T') (hn : a.G.n ≤ 8) {v : Nat} (hv : v < a.G.n) (hA : 1 ≤ a.G.A v ∧ a.G.A v ≤ 3) {x y z : Int32} {Q : Int32 → mo_U → Prop} (h1 : isv x → isv (gv (a.G.A v) 1 y) → isv (gv (a.G.A v) 2 z) → Q 1 μ) (h0 : ¬ (isv x ∧ isv (gv (a.G.A v) 1 y) ∧ isv (gv (a.G.A v) 2 z)) → Q 0 μ) : mp_areValues (nI v) x y z μ Q := by
  have hin : ∀ {w : Int32} {Q' : Int32 → mo_U → Prop}, (isv w → Q' 1 μ) → (¬ isv w → Q' 0 μ) → mp_isIn w (0 : Int32) (999 : Int32) μ Q' := by
    intro w Q' q1 q0
    exact ⟨fun q => q0 (fun z => z.1 q), fun q => ⟨fun q2 => q0 (fun z => z.2 q2), fun q2 => q1 ⟨q, q2⟩⟩⟩
  have g0 : gv (a.G.A v) 0 x = x := by unfold gv; rw [if_pos (by omega)]
  refine ref_giv (i := 0) hO hn hv hA.2 (by omega) ?_
  rw [g0]
  refine hin (fun i0 => ⟨fun q => absurd q (by decide), fun _ => ref_giv (i := 1) hO hn hv hA.2 (by omega) ?_⟩) (fun i0 => ⟨fun _ => h0 (fun z => i0 z.1), fun q => absurd rfl q⟩)
  refine hin (fun i1 => ⟨fun q => absurd q (by decide), fun _ => ref_giv (i := 2) hO hn hv hA.2 (by omega) ?_⟩) (fun i1 => ⟨fun _ => h0 (fun z => i1 z.2.1), fun q => absurd rfl q⟩)
  exact hin (fun i2 => ⟨fun q => absurd q (by decide), fun _ => h1 i0 i1 i2⟩) (fun i2 => ⟨fun _ => h0 (fun z => i2 z.2.2), fun q => absurd rfl q⟩)
