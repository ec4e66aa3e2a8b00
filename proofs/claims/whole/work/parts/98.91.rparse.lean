def tx_of (a : ab_T) : tx_T := ⟨a.tn, fun i => if i < a.tn then byt (a.tt i) else 0⟩
theorem tx_of_ok {a : ab_T} (h : txo a.tn a.tt) : tx_ok (tx_of a) := ⟨h.1, fun i => by
  show (if i < a.tn then byt (a.tt i) else 0) < 256
  split
  · rename_i hi
    obtain ⟨y, hy⟩ := h.2 i hi
    rw [hy]
    exact (byt_all y).2.1
  · decide⟩
theorem tx_of_23 {a : ab_T} (h : txo a.tn a.tt) {μ : mo_U} (hR : RR a μ) : ∀ i, i < (tx_of a).n → (μ.2 23 i &&& 255) = nI ((tx_of a).c i) := fun i hi => by
  have hi : i < a.tn := hi
  obtain ⟨y, hy⟩ := h.2 i hi
  show _ = nI (if i < a.tn then byt (a.tt i) else 0)
  rw [if_pos hi, hR.tt i hi, hy]
  exact (byt_all y).1
theorem mm_0 {μ μ' : mo_U} (h : ∃ R N, mo_M μ R N) {ts fs : List Nat} (f : mo_fr ts fs μ μ') (h1 : 40 ∉ ts) (h2 : 41 ∉ ts) (h0 : ∀ j, j < 8 → μ'.2 42 j = 0) : ∃ R N, mo_M μ' R N ∧ ∀ j, N j = 0 := by
  obtain ⟨R, N, hM⟩ := h
  refine ⟨R, fun _ => 0, ⟨fun r j hr hj => ⟨(hM.1 r j hr hj).1, ?_⟩, fun r hr => ⟨by rw [h0 r hr]; rfl, Nat.zero_le _⟩⟩, fun _ => rfl⟩
  have := (hM.1 r j hr hj).2
  unfold mo_at at this ⊢
  rw [f.1 40 h1, f.1 41 h2]
  exact this
theorem ref_parseE {a : ab_T} {μ0 : mo_U} (hR : RR a μ0) (hx : txo a.tn a.tt) {e : ft_T} (he : parse (tx_of a) = .error e) (Q : Int32 → mo_U → Prop) (h : ∀ μ', RR (a_off a (nI e.2) []) μ' → lowf μ0 μ' → Q ((-10 : Int32) - nI e.1) μ') : mp_parse μ0 Q := by
  intro X7 X121 X146 X182 h7 h121 h146 h182
  refine ref_rules (tx_of_ok hx) hR.n0 (tx_of_23 hx hR) X7 X121 X146 h7 h121 (fun p μ1 hp => by rw [he] at hp; cases hp) (fun e' μ1 he' hF f1 h831 h42 => ?_)
  have ee : e' = e := by rw [he] at he'; exact (Except.error.inj he').symm
  subst ee
  have hk := hF.e
  have h6 : ¬ μ1.1 806 = 0 := by rw [hF.f]; exact nI_ne0 (by omega) (by omega)
  refine h146 _ ⟨fun _ => h182 _ (fun μ2 e2 => ?_), fun z => absurd z h6⟩
  have f2 : mo_fr [] [801] μ1 μ2 := by rw [e2]; exact fr_sI (by decide) _
  refine ⟨fun z => absurd (by rw [← f2.2 806 (by decide)]; exact z) h6, fun _ => ?_⟩
  refine ref_ringMany (m := fun _ => false) (nm := []) (fun v hv => by rw [f2.1 39 (by decide), (h42 v hv).2]; rfl) (fun v _ z => by cases z) _ (fun μ3 f3 g1 g2 μ4 e4 => ?_)
  have f4 : mo_fr [] [808] μ3 μ4 := by rw [e4]; exact fr_sI (by decide) _
  have F : mo_fr [24, 25, 26, 27, 28, 29, 30, 31, 32, 33, 34, 35, 36, 39, 42, 56] [801, 804, 805, 806, 807, 808, 817, 831, 834, 836, 849] μ0 μ4 := mo_fr_tr (fr_mono f1 (by decide) (by decide)) (mo_fr_tr (fr_mono f2 (by decide) (by decide)) (mo_fr_tr (fr_mono f3 (by decide) (by decide)) (fr_mono f4 (by decide) (by decide))))
  have g6 : μ4.1 806 = nI e'.1 := by rw [f4.2 806 (by decide), f3.2 806 (by decide), f2.2 806 (by decide)]; exact hF.f
  rw [g6]
  have e0 : rgl (fun _ => false) [] 8 = [] := by decide
  refine h μ4 ⟨?_, fun i hi => absurd hi (Nat.not_lt_zero i), ?_, ?_, ?_, ?_⟩ (lowf_fr F (by decide) (by decide))
  · rw [f4.2 801 (by decide), f3.2 801 (by decide), e2]; rfl
  · rw [f4.2 807 (by decide), f3.2 807 (by decide), f2.2 807 (by decide)]; exact hF.p
  · show if μ4.1 806 = 6 then μ4.1 849 = nI ([] : List Nat).length ∧ ∀ i, i < ([] : List Nat).length → μ4.2 56 i = nI (([] : List Nat).getD i 0) else ([] : List Nat) = []
    split
    · refine ⟨?_, fun i hi => absurd hi (Nat.not_lt_zero i)⟩
      rw [f4.2 849 (by decide), g1, e0]
    · rfl
  · obtain ⟨R, N, hM, _⟩ := mm_0 hR.mm F (by decide) (by decide) (fun j hj => by rw [f4.1 42 (by decide), f3.1 42 (by decide), f2.1 42 (by decide)]; exact (h42 j hj).1)
    exact ⟨R, N, hM⟩
  · show if false = true then _ else μ4.1 808 = 0 ∧ μ4.1 831 = 0
    rw [if_neg (by decide)]
    exact ⟨by rw [e4]; rfl, by rw [f4.2 831 (by decide), f3.2 831 (by decide), f2.2 831 (by decide)]; exact h831⟩
theorem rul_C_of {t : tx_T} {rs : List ru_T} {nm A : List Nat} {q : Nat} {μ : mo_U} (h : rsS t rs nm A q μ) : rul_C rs μ := ⟨h.o.n, h.m, h.o.h, h.o.c, h.ls⟩
theorem rgl_n {m : Nat → Bool} {nm : List Nat} {n : Nat} (h : ∀ v, n ≤ v → m v = false) : ∀ k, n ≤ k → rgl m nm k = rgl m nm n
  | 0, hk => by rw [show n = 0 by omega]
  | k + 1, hk => by
    by_cases z : n = k + 1
    · rw [z]
    · rw [rgl_s, if_neg (by rw [h k (by omega)]; decide)]
      exact rgl_n h k (by omega)
theorem bad_self {rs : List ru_T} {n x : Nat} (hn : n ≤ 8) (eN : ∀ v u, edg rs v u → v < n ∧ u < n) (hb : bad rs x) : rea rs x x := by
  have eR : ∀ v u, rea rs v u → v < n ∧ u < n := fun v u h => way_ind (P := fun v u => v < n ∧ u < n) eN (fun v w u h1 h2 => ⟨h1.1, h2.2⟩) h
  obtain ⟨v, u, b1, b2⟩ := hb
  have hE := edgS_e b1.1
  have hu := (eN _ _ hE).2
  have hv := (eN _ _ hE).1
  have hvv : rea rs v v := rea_tr (by omega) (rea_e hE) b1.2
  rcases b2 with y | y
  · rw [← y]; exact hvv
  · exact rea_tr (by omega) y.1 y.2
theorem edg_n {rs : List ru_T} {nm A : List Nat} (hi : pinv rs nm A) : ∀ v u, edg rs v u → v < nm.length ∧ u < nm.length := fun v u ⟨r, hr, e, l, hl, h1, h2⟩ => by
  have a := hi.r r hr
  have b := a.ls l hl
  exact ⟨by rw [← e]; exact a.h, by rw [← h2]; exact (b.nm (by have := b.lit.1; omega)).1⟩
theorem ref_parseR {a : ab_T} {μ0 : mo_U} (hR : RR a μ0) (hx : txo a.tn a.tt) {p : pp_T} (he : parse (tx_of a) = .ok p) {x : Nat} (hxn : x < p.nm.length) (hb : bad p.rs x) (hmin : ∀ y, y < x → ¬ bad p.rs y) (Q : Int32 → mo_U → Prop) (h : ∀ μ', RR (a_off a (nI a.tn) (rgl (fun v => cb (rea p.rs x v ∧ rea p.rs v x)) p.nm p.nm.length)) μ' → lowf μ0 μ' → Q ((-10 : Int32) - nI 6) μ') : mp_parse μ0 Q := by
  have hi := parse_ok he
  have n8 := hi.ok.n8
  have hrn : ∀ r ∈ p.rs, r.h < p.nm.length ∧ ∀ l ∈ r.ls, l.1 ≤ 2 ∧ (l.1 ≤ 1 → l.2.1 < p.nm.length) := fun r hr => ⟨(hi.r r hr).h, fun l hl => ⟨((hi.r r hr).ls l hl).lit.1, fun h1 => (((hi.r r hr).ls l hl).nm h1).1⟩⟩
  have hl2 : ∀ r ∈ p.rs, ∀ l ∈ r.ls, l.1 ≤ 2 := fun r hr l hl => ((hrn r hr).2 l hl).1
  intro X7 X121 X146 X182 h7 h121 h146 h182
  refine ref_rules (tx_of_ok hx) hR.n0 (tx_of_23 hx hR) X7 X121 X146 h7 h121 (fun p' μ1 hp ⟨q, hS⟩ f1 h831 h834 h836 h807 h42 => ?_) (fun e' μ1 he' => by rw [he] at he'; cases he')
  have ee : p' = p := by rw [he] at hp; exact (Except.ok.inj hp).symm
  subst ee
  have hC1 := rul_C_of hS
  refine h146 _ ⟨fun z => absurd hS.s.f z, fun _ => ref_reaches hC1 _ (fun μ2 f2 h38 => ?_)⟩
  have hC2 := rul_C_fr hC1 f2 (by decide) (by decide)
  refine ref_layers hC2 n8 (by rw [f2.2 817 (by decide)]; exact hS.n.n) hrn (fun v hv => by rw [f2.1 36 (by decide)]; exact hS.v v hv) _ (fun L μ3 hL _ _ _ => ?_) (fun _ μ3 f3 => ⟨fun z => absurd rfl z, fun _ μ4 e4 => ?_⟩)
  · exfalso
    obtain ⟨v, u, b1, _⟩ := hb
    exact sol_ring hL.1 hl2 ⟨v, u, b1.1, b1.2⟩
  have f4 : mo_fr [] [805] μ3 μ4 := by rw [e4]; exact fr_sI (by decide) _
  have F4 : mo_fr [37, 38] [805] μ1 μ4 := mo_fr_tr (fr_mono f2 (by decide) (by decide)) (mo_fr_tr (fr_mono f3 (by decide) (by decide)) (fr_mono f4 (by decide) (by decide)))
  have k4 := tkn_fr hS.s.k F4 (by decide) (by decide) (by decide)
  have hpl : plc (tx_of a) (tx_of a).n := ⟨Nat.le_refl _, fun z => absurd z (Nat.lt_irrefl _)⟩
  have s4 : rs0 (tx_of a) μ4 (tx_of a).n := ⟨k4, hpl, by rw [e4, mu_I_sI, if_pos rfl, f3.2 804 (by decide), f2.2 804 (by decide)]; exact hS.s.k.k, by rw [F4.2 806 (by decide)]; exact hS.s.f⟩
  refine ref_wrong (k := 6) s4 (by decide) _ (fun μ5 hF f5 => ?_)
  have F5 : mo_fr [37, 38] [805, 806, 807] μ1 μ5 := mo_fr_tr (fr_mono F4 (by decide) (by decide)) (fr_mono f5 (by decide) (by decide))
  have h385 : c38 μ5 (rea p'.rs) := fun v u a1 a2 => by rw [f5.1 38 (by decide), f4.1 38 (by decide), f3.1 38 (by decide)]; exact h38 v u a1 a2
  refine ref_findRing (rul_C_fr hC1 F5 (by decide) (by decide)) n8 (by rw [F5.2 817 (by decide)]; exact hS.n.n) hl2 h385 hxn hb hmin _ (fun μ6 f6 h39 => h182 _ (fun μ7 e7 => ?_))
  have f7 : mo_fr [] [801] μ6 μ7 := by rw [e7]; exact fr_sI (by decide) _
  have F7 : mo_fr [37, 38, 39] [801, 805, 806, 807] μ1 μ7 := mo_fr_tr (fr_mono F5 (by decide) (by decide)) (mo_fr_tr (fr_mono f6 (by decide) (by decide)) (fr_mono f7 (by decide) (by decide)))
  have i6 : μ7.1 806 = nI 6 := by rw [f7.2 806 (by decide), f6.2 806 (by decide)]; exact hF.f
  refine ⟨fun z => absurd (by rw [← i6]; exact z) (show ¬ nI 6 = 0 from nI_ne0 (by decide) (by decide)), fun _ => ?_⟩
  have eN := edg_n hi
  have eR : ∀ v u, rea p'.rs v u → v < p'.nm.length ∧ u < p'.nm.length := fun v u h => way_ind (P := fun v u => v < p'.nm.length ∧ u < p'.nm.length) eN (fun v w u h1 h2 => ⟨h1.1, h2.2⟩) h
  have hxx := bad_self n8 eN hb
  have hm39 : ∀ v, v < 8 → μ7.2 39 v = if cb (rea p'.rs x v ∧ rea p'.rs v x) then 1 else 0 := fun v hv => by
    rw [f7.1 39 (by decide)]
    obtain ⟨c1, c2⟩ := h39 v hv
    by_cases z : rea p'.rs x v ∧ rea p'.rs v x
    · rw [cb_t.mpr z, if_pos rfl]; exact c2.mpr (Or.inr z)
    · rw [cb_f z, if_neg (by decide)]
      refine c1.resolve_right (fun y => ?_)
      rcases c2.mp y with w | w
      · rw [w] at z; exact z ⟨hxx, hxx⟩
      · exact z w
  refine ref_ringMany (m := fun v => cb (rea p'.rs x v ∧ rea p'.rs v x)) (nm := p'.nm) hm39 (fun v hv hm => by
    rw [F7.1 34 (by decide)]
    exact hS.n.s v (eR _ _ (cb_t.mp hm).1).2) _ (fun μ8 f8 g1 g2 μ9 e9 => ?_)
  have er : rgl (fun v => cb (rea p'.rs x v ∧ rea p'.rs v x)) p'.nm 8 = rgl (fun v => cb (rea p'.rs x v ∧ rea p'.rs v x)) p'.nm p'.nm.length := rgl_n (fun v hv => cb_f (fun z => by have := (eR _ _ z.1).2; omega)) 8 n8
  rw [er] at g1 g2
  have f9 : mo_fr [] [808] μ8 μ9 := by rw [e9]; exact fr_sI (by decide) _
  have F : mo_fr [24, 25, 26, 27, 28, 29, 30, 31, 32, 33, 34, 35, 36, 37, 38, 39, 42, 56] [801, 804, 805, 806, 807, 808, 817, 831, 834, 836, 849] μ0 μ9 := mo_fr_tr (fr_mono f1 (by decide) (by decide)) (mo_fr_tr (fr_mono F7 (by decide) (by decide)) (mo_fr_tr (fr_mono f8 (by decide) (by decide)) (fr_mono f9 (by decide) (by decide))))
  have g6 : μ9.1 806 = nI 6 := by rw [f9.2 806 (by decide), f8.2 806 (by decide)]; exact i6
  rw [g6]
  refine h μ9 ⟨?_, fun i hi => absurd hi (Nat.not_lt_zero i), ?_, ?_, ?_, ?_⟩ (lowf_fr F (by decide) (by decide))
  · rw [f9.2 801 (by decide), f8.2 801 (by decide), e7]; rfl
  · rw [f9.2 807 (by decide), f8.2 807 (by decide), f7.2 807 (by decide), f6.2 807 (by decide)]; exact hF.p
  · rw [if_pos (show μ9.1 806 = 6 from g6)]
    exact ⟨by rw [f9.2 849 (by decide)]; exact g1, fun i hi => by rw [f9.1 56 (by decide)]; exact g2 i hi⟩
  · obtain ⟨R, N, hM, _⟩ := mm_0 hR.mm F (by decide) (by decide) (fun j hj => by rw [f9.1 42 (by decide), f8.1 42 (by decide), F7.1 42 (by decide)]; exact (h42 j hj).1)
    exact ⟨R, N, hM⟩
  · show if false = true then _ else μ9.1 808 = 0 ∧ μ9.1 831 = 0
    rw [if_neg (by decide)]
    exact ⟨by rw [e9]; rfl, by rw [f9.2 831 (by decide), f8.2 831 (by decide), F7.2 831 (by decide)]; exact h831⟩
