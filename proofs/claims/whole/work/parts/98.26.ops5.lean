theorem op_told : st_told IN := by
  rintro x m σ x1 P ⟨V, a, ma, rfl, hC, hT, hm, hR⟩ hP
  refine ⟨hC.ty, ?_⟩
  have fin : ∀ r : Int32, (∀ Q : Int32 → mo_U → Prop, Q r (mu_of σ m ma) → mp_told x1 (mu_of σ m ma) Q) → P r σ := fun r hr => by
    refine hP r σ (mo_ty0 hT) (fun P2 h2 => ?_)
    rw [← mu_put σ m ma]
    exact mq_told hT x1 _ _ P2 (fin_op hC hT hm h2) (hr _ ⟨rfl, hR, lowf_rf _⟩)
  have bad : (∀ j, j ≤ 5 → x1 ≠ nI j) → P (-2) σ := fun hno => fin (-2) (fun Q hQ X24 X42 h24 h42 => mp_inC (n := 5) (by decide) (fun j hj e => absurd e (hno j hj)) (fun _ => ⟨fun q => absurd rfl q, fun _ => hQ⟩))
  -- without rules all is 0
  have off : a.on = false → ∀ w, w ≤ 5 → x1 = nI w → P 0 σ := fun hb w hw e => by
    obtain ⟨o1, o2⟩ := RR_off hR hb
    refine fin 0 (fun Q hQ X24 X42 h24 h42 => mp_inC (n := 5) (by decide) (fun _ _ _ => ⟨fun _ => ?_, fun q => absurd q (by decide)⟩) (fun h => absurd e (h w hw)))
    have hx : X24 (mu_of σ m ma) := h24 _ ⟨fun _ => hQ, fun _ => by rw [o2]; exact hQ⟩
    exact ⟨fun _ => hx, fun _ => ⟨fun q => absurd o1 q, fun _ => hx⟩⟩
  -- with rules
  have on : a.on = true → ∀ w, w ≤ 5 → x1 = nI w → ∀ r : Int32, (w = 0 → r = nI a.G.rs.length) → (w = 1 → r = nI a.G.n) → (w = 2 → r = nI a.cs.length) → (w = 3 → r = nI a.dl.length) → (w = 4 → r = nI a.hs.length) → (w = 5 → r = nI a.G.top) → P r σ := fun hb w hw e r r0 r1 r2 r3 r4 r5 => by
    have hp := CI_prg hC hb
    obtain ⟨T', hO⟩ := RR_on hR hb
    have hn8 := hp.ok.n8
    have h808 := RO_808 hp hO
    refine fin r (fun Q hQ X24 X42 h24 h42 => mp_inC (n := 5) (by decide) (fun _ _ _ => ⟨fun _ => ?_, fun q => absurd q (by decide)⟩) (fun h => absurd e (h w hw)))
    have e2 : x1 = (2 : Int32) ↔ w = 2 := by rw [e, show (2 : Int32) = nI 2 from rfl, nI_eq (by omega) (by decide)]
    have e0 : x1 = (0 : Int32) ↔ w = 0 := by rw [e, show (0 : Int32) = nI 0 from rfl, nI_eq (by omega) (by decide)]
    have e1 : x1 = (1 : Int32) ↔ w = 1 := by rw [e, show (1 : Int32) = nI 1 from rfl, nI_eq (by omega) (by decide)]
    have e3 : x1 = (3 : Int32) ↔ w = 3 := by rw [e, show (3 : Int32) = nI 3 from rfl, nI_eq (by omega) (by decide)]
    have e4 : x1 = (4 : Int32) ↔ w = 4 := by rw [e, show (4 : Int32) = nI 4 from rfl, nI_eq (by omega) (by decide)]
    refine ⟨fun q => h24 _ ⟨fun z => absurd q z, fun _ => ?_⟩, fun q => ⟨fun _ => ?_, fun z => absurd z h808⟩⟩
    · rw [hO.b.1, ← r2 (e2.mp q)]; exact hQ
    · have hw2 : w ≠ 2 := fun z => q (e2.mpr z)
      have loop : ∀ k i mx, i + k = a.G.n → (∀ v, v < i → a.G.lay v ≤ mx) → ((mx = 0 ∧ True) ∨ ∃ v, v < i ∧ a.G.lay v = mx) → mx ≤ 8 → X42 (nI mx) (nI i) (mu_of σ m ma) := by
        intro k
        induction k with
        | zero =>
          intro i mx hi hmax hat h8
          have htop : mx = a.G.top := by
            have h1 : mx ≤ a.G.top := by
              rcases hat with ⟨z, _⟩ | ⟨v, hv, z⟩
              · omega
              · rw [← z]; exact hp.ok.tp v
            have h2 : a.G.top ≤ mx := by
              rcases hp.tm with z | ⟨v, hv, z⟩
              · omega
              · rw [← z]; exact hmax v (by omega)
            omega
          refine h42 _ _ _ ?_
          rw [hO.t.g.kn]
          refine ⟨fun _ => ?_, fun q => absurd (nI_le (by omega) (by omega)) q⟩
          rw [e0, e1, e3, e4]
          refine ⟨fun n0 => ⟨fun n1 => ⟨fun n3 => ⟨fun n4 => ?_, fun z => ?_⟩, fun z => ?_⟩, fun z => ?_⟩, fun z => ?_⟩
          · rw [htop, ← r5 (by omega)]; exact hQ
          · rw [hO.h.1, ← r4 z]; exact hQ
          · rw [hO.d.1, ← r3 z]; exact hQ
          · rw [← r1 z]; exact hQ
          · rw [hO.t.g.nn, ← r0 z]; exact hQ
        | succ k ih =>
          intro i mx hi hmax hat h8
          have hl8 := hp.ok.l8 i
          refine h42 _ _ _ ?_
          rw [hO.t.g.kn]
          refine ⟨fun q => absurd q (nI_ge (by omega) (by omega)), fun _ => ⟨vp_in_nI (by omega) (by decide), ?_⟩⟩
          rw [cl_nI (by omega), hO.t.g.ly i (by omega), nI_leI (by omega) (by omega), nI_1]
          refine ⟨fun z => ih (i + 1) mx (by omega) (fun v hv => ?_) (hat.imp id (fun ⟨v, hv, y⟩ => ⟨v, by omega, y⟩)) h8, fun z => ⟨vp_in_nI (by omega) (by decide), ih (i + 1) (a.G.lay i) (by omega) (fun v hv => ?_) (Or.inr ⟨i, by omega, rfl⟩) hl8⟩⟩
          · by_cases y : v = i
            · rw [y]; exact z
            · exact hmax v (by omega)
          · by_cases y : v = i
            · rw [y]; exact Nat.le_refl _
            · have := hmax v (by omega); omega
      exact loop a.G.n 0 0 (by omega) (fun v hv => absurd hv (Nat.not_lt_zero v)) (Or.inl ⟨rfl, trivial⟩) (by omega)
  have get : ∀ w, w ≤ 5 → x1 = nI w → ∀ r : Int32, (a.on = false → r = 0) → (a.on = true → (w = 0 → r = nI a.G.rs.length) ∧ (w = 1 → r = nI a.G.n) ∧ (w = 2 → r = nI a.cs.length) ∧ (w = 3 → r = nI a.dl.length) ∧ (w = 4 → r = nI a.hs.length) ∧ (w = 5 → r = nI a.G.top)) → P r σ := fun w hw e r h0 h1 => by
    cases hb : a.on with
    | false => rw [h0 hb]; exact off hb w hw e
    | true =>
      obtain ⟨a0, a1, a2, a3, a4, a5⟩ := h1 hb
      exact on hb w hw e r a0 a1 a2 a3 a4 a5
  have hpp : ∃ p, z_R σ 705 V.x = some p ∧ z_ty σ p = some (.inl 2) ∧ (a.on = false → z_I σ 201 p = 0 ∧ z_I σ 206 p = 0 ∧ z_I σ 207 p = 0) ∧ (a.on = true → z_I σ 201 p = nI a.G.rs.length ∧ z_I σ 206 p = nI a.G.n ∧ z_I σ 207 p = nI a.G.top) := by
    cases hb : a.on with
    | false =>
      have hn := CI_non hC hb
      exact ⟨V.p0, hn.rp, hn.ty, fun _ => ⟨hn.i1, hn.i6, hn.i7⟩, fun z => (by cases z)⟩
    | true =>
      have hp := CI_prg hC hb
      exact ⟨V.D.p, hp.rp, hp.pr.ty, fun z => (by cases z), fun _ => ⟨hp.pr.nn, hp.pr.nr, hp.pr.tp⟩⟩
  obtain ⟨p, p1, p2, p3, p4⟩ := hpp
  refine ⟨fun e => ⟨hC.ty, p, p1, p2, get 0 (by omega) e _ (fun hb => (p3 hb).1) (fun hb => ⟨fun _ => (p4 hb).1, fun z => by omega, fun z => by omega, fun z => by omega, fun z => by omega, fun z => by omega⟩)⟩, fun n0 => ⟨fun e => ⟨hC.ty, p, p1, p2, get 1 (by omega) e _ (fun hb => (p3 hb).2.1) (fun hb => ⟨fun z => by omega, fun _ => (p4 hb).2.1, fun z => by omega, fun z => by omega, fun z => by omega, fun z => by omega⟩)⟩, fun n1 => ⟨fun e => ⟨hC.ty, V.O V.uw, hC.ru, hC.su.1.1, get 2 (by omega) e _ (fun hb => by rw [hC.su.2.1, (CI_non hC hb).cs]; rfl) (fun hb => ⟨fun z => by omega, fun z => by omega, fun _ => hC.su.2.1, fun z => by omega, fun z => by omega, fun z => by omega⟩)⟩, fun n2 => ⟨fun e => ⟨hC.ty, V.O 7, hC.rl, hC.sl.1.1, get 3 (by omega) e _ (fun hb => by rw [hC.sl.2.1, (CI_non hC hb).dl]; rfl) (fun hb => ⟨fun z => by omega, fun z => by omega, fun z => by omega, fun _ => hC.sl.2.1, fun z => by omega, fun z => by omega⟩)⟩, fun n3 => ⟨fun e => ⟨hC.ty, get 4 (by omega) e _ (fun hb => by rw [hC.ds, (CI_non hC hb).hs]; rfl) (fun hb => ⟨fun z => by omega, fun z => by omega, fun z => by omega, fun z => by omega, fun _ => hC.ds, fun z => by omega⟩)⟩, fun n4 => ⟨fun e => ⟨hC.ty, p, p1, p2, get 5 (by omega) e _ (fun hb => (p3 hb).2.2) (fun hb => ⟨fun z => by omega, fun z => by omega, fun z => by omega, fun z => by omega, fun z => by omega, fun _ => (p4 hb).2.2⟩)⟩, fun n5 => bad (fun j hj e => ?_)⟩⟩⟩⟩⟩⟩
  rcases (show j = 0 ∨ j = 1 ∨ j = 2 ∨ j = 3 ∨ j = 4 ∨ j = 5 by omega) with rfl | rfl | rfl | rfl | rfl | rfl
  · exact n0 e
  · exact n1 e
  · exact n2 e
  · exact n3 e
  · exact n4 e
  · exact n5 e
