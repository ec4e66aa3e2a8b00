def G_of (p : pp_T) (as : Nat → List lit_T) (L : Nat → Nat) (top : Nat) : pg_T := ⟨p.rs, as, aA p.A, L, p.nm.length, top, fun v => p.rs.any (fun r => decide (r.h = v))⟩
theorem least_h {rs : List ru_T} {L : Nat → Nat} (h : least rs L) {v : Nat} (hv : ¬ ∃ r ∈ rs, r.h = v) : L v = 0 := by
  have hS : Sol rs (fun u => if u = v then 0 else L u) := by
    refine ⟨fun u => ?_, fun r hr l hl hne => ?_⟩
    · dsimp only
      by_cases z : u = v
      · rw [if_pos z]
        unfold bs
        rw [if_neg]
        · exact Nat.zero_le _
        · intro y
          obtain ⟨r, hr, e⟩ := List.any_eq_true.mp y
          exact hv ⟨r, hr, by rw [of_decide_eq_true e]; exact z⟩
      · rw [if_neg z]; exact h.1.1 u
    · dsimp only
      rw [if_neg (fun z => hv ⟨r, hr, z⟩)]
      have := h.1.2 r hr l hl hne
      split <;> omega
  have := h.2 _ hS v
  rw [if_pos rfl] at this
  omega
theorem any_h {rs : List ru_T} {v : Nat} : rs.any (fun r => decide (r.h = v)) = true ↔ ∃ r ∈ rs, r.h = v := by simp
theorem pgok_of {p : pp_T} (hi : pinv p.rs p.nm p.A) {as : Nat → List lit_T} {L : Nat → Nat} {top : Nat} (hL : least p.rs L) (hL8 : ∀ v, L v ≤ 8) (ht : ∀ v, L v ≤ top) (hex : top = 0 ∨ ∃ v, v < p.nm.length ∧ L v = top) : pg_ok (G_of p as L top) := by
  have t8 : top ≤ 8 := by
    rcases hex with z | ⟨v, _, z⟩
    · omega
    · rw [← z]; exact hL8 v
  refine ⟨fun r hr => ⟨(hi.r r hr).ok, fun l hl => ?_, (hi.r r hr).h, fun hc => ?_, fun l hl h1 => (((hi.r r hr).ls l hl).nm h1).1⟩, hi.un, hi.ok.n8, hL8, t8, ht, fun v => any_h, fun v => ?_, fun v hv => ?_⟩
  · have k2 := ((hi.r r hr).ls l hl).lit.1
    have s := hL.1.2 r hr l hl
    refine ⟨fun h0 => ⟨?_, fun hc => ?_⟩, fun h1 => ?_⟩
    · have := s (by omega)
      show L l.2.1 ≤ L r.h
      omega
    · have := s (by omega)
      have e : stp r l = 1 := by unfold stp; rw [if_pos (Or.inr hc)]
      show L l.2.1 < L r.h
      omega
    · have := s (by omega)
      have e : stp r l = 1 := by unfold stp; rw [if_pos (Or.inl h1)]
      show L l.2.1 < L r.h
      omega
  · show mkp r.ts + 1 = p.A.getD r.h 3
    rw [gd03 (by rw [hi.ok.al]; exact (hi.r r hr).h)]
    exact (hi.r r hr).mk hc
  · show p.rs.any (fun r => decide (r.h = v)) = true ↔ 1 ≤ L v
    rw [any_h]
    constructor
    · intro h
      have hb : bs p.rs v = 1 := by unfold bs; rw [if_pos (any_h.mpr h)]
      have := hL.1.1 v
      omega
    · intro h
      refine Classical.byContradiction (fun hno => ?_)
      have := least_h hL hno
      omega
  · show p.A.getD v 3 = 3
    have hv : ¬ v < p.nm.length := hv
    have := hi.ok.al
    rw [List.getD_eq_getElem?_getD, List.getElem?_eq_none (by omega)]
    rfl
/-- what the reference holds when rules were read -/
def pO (p : pp_T) (G : pg_T) (T : Nat → al_T) (μ : mo_U) : Prop := (rT μ G T) ∧ (WK G 8 (fun _ => []) (ks T)) ∧ (∀ v, G.lay v = 0 → T v = []) ∧ (∀ v, 1 ≤ G.lay v → ∀ q ∈ T v, q.2 = 1) ∧ (μ.1 801 = 0) ∧ (μ.1 807 = -1) ∧ (μ.1 806 = 0) ∧ (∀ k, k < p.nm.length → μ.2 34 k = nI (p.nm.getD k 0) ∧ μ.2 35 k = nI (p.A.getD k 0)) ∧ (∀ i, i < p.rs.length → ∀ k, k < 26 → bi (μ.2 33 i) k = vlt (p.rs.getD i d_ru).ls k) ∧ (c38 μ (rea p.rs)) ∧ (μ.1 831 = 0) ∧ (μ.1 834 = 0) ∧ (μ.1 836 = 0)
theorem pO.t {p : pp_T} {G : pg_T} {T : Nat → al_T} {μ : mo_U} (h' : pO p G T μ) : rT μ G T := h'.1
theorem pO.k {p : pp_T} {G : pg_T} {T : Nat → al_T} {μ : mo_U} (h' : pO p G T μ) : WK G 8 (fun _ => []) (ks T) := h'.2.1
theorem pO.z {p : pp_T} {G : pg_T} {T : Nat → al_T} {μ : mo_U} (h' : pO p G T μ) : ∀ v, G.lay v = 0 → T v = [] := h'.2.2.1
theorem pO.o {p : pp_T} {G : pg_T} {T : Nat → al_T} {μ : mo_U} (h' : pO p G T μ) : ∀ v, 1 ≤ G.lay v → ∀ q ∈ T v, q.2 = 1 := h'.2.2.2.1
theorem pO.n1 {p : pp_T} {G : pg_T} {T : Nat → al_T} {μ : mo_U} (h' : pO p G T μ) : μ.1 801 = 0 := h'.2.2.2.2.1
theorem pO.n7 {p : pp_T} {G : pg_T} {T : Nat → al_T} {μ : mo_U} (h' : pO p G T μ) : μ.1 807 = -1 := h'.2.2.2.2.2.1
theorem pO.n6 {p : pp_T} {G : pg_T} {T : Nat → al_T} {μ : mo_U} (h' : pO p G T μ) : μ.1 806 = 0 := h'.2.2.2.2.2.2.1
theorem pO.nm {p : pp_T} {G : pg_T} {T : Nat → al_T} {μ : mo_U} (h' : pO p G T μ) : ∀ k, k < p.nm.length → μ.2 34 k = nI (p.nm.getD k 0) ∧ μ.2 35 k = nI (p.A.getD k 0) := h'.2.2.2.2.2.2.2.1
theorem pO.l {p : pp_T} {G : pg_T} {T : Nat → al_T} {μ : mo_U} (h' : pO p G T μ) : ∀ i, i < p.rs.length → ∀ k, k < 26 → bi (μ.2 33 i) k = vlt (p.rs.getD i d_ru).ls k := h'.2.2.2.2.2.2.2.2.1
theorem pO.r {p : pp_T} {G : pg_T} {T : Nat → al_T} {μ : mo_U} (h' : pO p G T μ) : c38 μ (rea p.rs) := h'.2.2.2.2.2.2.2.2.2.1
theorem pO.m1 {p : pp_T} {G : pg_T} {T : Nat → al_T} {μ : mo_U} (h' : pO p G T μ) : μ.1 831 = 0 := h'.2.2.2.2.2.2.2.2.2.2.1
theorem pO.m4 {p : pp_T} {G : pg_T} {T : Nat → al_T} {μ : mo_U} (h' : pO p G T μ) : μ.1 834 = 0 := h'.2.2.2.2.2.2.2.2.2.2.2.1
theorem pO.m6 {p : pp_T} {G : pg_T} {T : Nat → al_T} {μ : mo_U} (h' : pO p G T μ) : μ.1 836 = 0 := h'.2.2.2.2.2.2.2.2.2.2.2.2
theorem ref_parseO {a : ab_T} {μ0 : mo_U} (hR : RR a μ0) (hx : txo a.tn a.tt) {p : pp_T} (he : parse (tx_of a) = .ok p) {as : Nat → List lit_T} {L : Nat → Nat} {top : Nat} (hL : least p.rs L) (hL8 : ∀ v, L v ≤ 8) (ht : ∀ v, L v ≤ top) (hex : top = 0 ∨ ∃ v, v < p.nm.length ∧ L v = top) (Q : Int32 → mo_U → Prop) (h1 : ∀ T μ', pO p (G_of p as L top) T μ' → lowf μ0 μ' → Q (nI p.rs.length) μ') (h0 : ∀ μ', WOv (G_of p as L top) 8 (fun _ => []) → RR (a_off a (-1) []) μ' → lowf μ0 μ' → Q (-3) μ') : mp_parse μ0 Q := by
  have hi := parse_ok he
  have n8 := hi.ok.n8
  have hok := pgok_of (as := as) hi hL hL8 ht hex
  have hrn : ∀ r ∈ p.rs, r.h < p.nm.length ∧ ∀ l ∈ r.ls, l.1 ≤ 2 ∧ (l.1 ≤ 1 → l.2.1 < p.nm.length) := fun r hr => ⟨(hi.r r hr).h, fun l hl => ⟨((hi.r r hr).ls l hl).lit.1, fun h1 => (((hi.r r hr).ls l hl).nm h1).1⟩⟩
  intro X7 X121 X146 X182 h7 h121 h146 h182
  refine ref_rules (tx_of_ok hx) hR.n0 (tx_of_23 hx hR) X7 X121 X146 h7 h121 (fun p' μ1 hp ⟨q, hS⟩ f1 h831 h834 h836 h807 h42 => ?_) (fun e' μ1 he' => by rw [he] at he'; cases he')
  have ee : p' = p := by rw [he] at hp; exact (Except.ok.inj hp).symm
  subst ee
  have hC1 := rul_C_of hS
  refine h146 _ ⟨fun z => absurd hS.s.f z, fun _ => ref_reaches hC1 _ (fun μ2 f2 h38 => ?_)⟩
  have hC2 := rul_C_fr hC1 f2 (by decide) (by decide)
  refine ref_layers hC2 n8 (by rw [f2.2 817 (by decide)]; exact hS.n.n) hrn (fun v hv => by rw [f2.1 36 (by decide)]; exact hS.v v hv) _ (fun L' μ3 hL' _ h37 f3 => ⟨fun _ => ?_, fun z => absurd z (by decide)⟩) (fun hno μ3 _ => ?_)
  rotate_left
  · exfalso
    obtain ⟨v, hv⟩ := hno L hL.1
    have := hL8 v
    omega
  have eL : L' = L := least_un hL' hL
  subst eL
  refine h182 _ (fun μ4 e4 => ?_)
  have f4 : mo_fr [] [801] μ3 μ4 := by rw [e4]; exact fr_sI (by decide) _
  have F4 : mo_fr [37, 38] [801] μ1 μ4 := mo_fr_tr (fr_mono f2 (by decide) (by decide)) (mo_fr_tr (fr_mono f3 (by decide) (by decide)) (fr_mono f4 (by decide) (by decide)))
  have i6 : μ4.1 806 = 0 := by rw [F4.2 806 (by decide)]; exact hS.s.f
  refine ⟨fun _ => ?_, fun z => absurd i6 z⟩
  have F04 : mo_fr [24, 25, 26, 27, 28, 29, 30, 31, 32, 33, 34, 35, 36, 37, 38, 39, 42] [801, 804, 805, 806, 807, 808, 817, 831, 834, 836] μ0 μ4 := mo_fr_tr (fr_mono f1 (by decide) (by decide)) (fr_mono F4 (by decide) (by decide))
  obtain ⟨R, N, hM, hN⟩ := mm_0 hR.mm F04 (by decide) (by decide) (fun j hj => by rw [F4.1 42 (by decide)]; exact (h42 j hj).1)
  have hr0 : ∀ r, mr_l R N r = [] := fun r => by unfold mr_l; rw [hN r]; rfl
  have hrf : rf_L μ4 (G_of p' as L' top) := ⟨by rw [F4.2 808 (by decide)]; exact hS.m, hS.o.n, by rw [F4.2 817 (by decide)]; exact hS.n.n, fun i hi' => mo_head_fr (hS.hd i hi') F4 (by decide) (by decide), fun i hi' => mo_lits_fr (hS.ls i hi') F4 (by decide) (by decide) (by decide) (by decide), fun i hi' => by rw [F4.1 32 (by decide)]; exact hS.o.c i hi', fun v hv => by rw [F4.1 36 (by decide)]; exact hS.v v hv, fun v hv => by rw [f4.1 37 (by decide)]; exact h37 v hv⟩
  have hT0 : rT μ4 (G_of p' as L' top) (fun _ => []) := ⟨⟨R, N, hM, fun r _ => ⟨(hr0 r).symm, List.Pairwise.nil⟩⟩, fun _ _ => rfl, hrf⟩
  have ez : ks (Tz (G_of p' as L' top) (fun _ => [])) = fun _ => [] := by
    funext v
    unfold ks Tz
    dsimp only
    split <;> rfl
  refine ref_work hok hT0 _ (fun μ5 T hT f5 hW hz ho => ⟨fun _ => ?_, fun z => absurd z (by decide)⟩) (fun μ5 R' N' hM' f5 hW => ⟨fun z => absurd rfl z, fun _ μ6 e6 => ?_⟩)
  · rw [ez] at hW
    have F5 : mo_fr [37, 38, 40, 41, 42, 50, 51, 52, 53, 54] [801, 840, 841, 842, 845] μ1 μ5 := mo_fr_tr (fr_mono F4 (by decide) (by decide)) (fr_mono f5 (by decide) (by decide))
    rw [show μ5.1 808 = nI p'.rs.length by rw [F5.2 808 (by decide)]; exact hS.m]
    refine h1 T μ5 ⟨hT, hW, hz, ho, by rw [f5.2 801 (by decide), e4]; rfl, by rw [F5.2 807 (by decide)]; exact h807, by rw [F5.2 806 (by decide)]; exact hS.s.f, fun k hk => ⟨by rw [F5.1 34 (by decide)]; exact hS.n.s k hk, by rw [F5.1 35 (by decide)]; exact hS.n.a k hk⟩, fun i hi' k hk => by rw [F5.1 33 (by decide)]; exact hS.l i hi' k hk, fun v u a1 a2 => by rw [f5.1 38 (by decide), f4.1 38 (by decide), f3.1 38 (by decide)]; exact h38 v u a1 a2, by rw [F5.2 831 (by decide)]; exact h831, by rw [F5.2 834 (by decide)]; exact h834, by rw [F5.2 836 (by decide)]; exact h836⟩ ?_
    exact lowf_fr (mo_fr_tr (fr_mono f1 (ts' := [24, 25, 26, 27, 28, 29, 30, 31, 32, 33, 34, 35, 36, 37, 38, 39, 40, 41, 42, 50, 51, 52, 53, 54]) (fs' := [801, 804, 805, 806, 807, 808, 817, 831, 834, 836, 840, 841, 842, 845]) (by decide) (by decide)) (fr_mono F5 (by decide) (by decide))) (by decide) (by decide)
  · rw [ez] at hW
    have f6 : mo_fr [] [808] μ5 μ6 := by rw [e6]; exact fr_sI (by decide) _
    have F6 : mo_fr [37, 38, 40, 41, 42, 50, 51, 52, 53, 54] [801, 808, 840, 841, 842, 845] μ1 μ6 := mo_fr_tr (fr_mono F4 (by decide) (by decide)) (mo_fr_tr (fr_mono f5 (by decide) (by decide)) (fr_mono f6 (by decide) (by decide)))
    refine h0 μ6 hW ⟨by rw [f6.2 801 (by decide), f5.2 801 (by decide), e4]; rfl, fun i hi' => absurd hi' (Nat.not_lt_zero i), by rw [F6.2 807 (by decide)]; exact h807, ?_, ⟨R', N', ?_⟩, ?_⟩ ?_
    · have : μ6.1 806 = 0 := by rw [F6.2 806 (by decide)]; exact hS.s.f
      rw [if_neg (fun z => by rw [this] at z; exact absurd z (by decide))]
      rfl
    · rw [e6]; exact hM'
    · show if false = true then _ else μ6.1 808 = 0 ∧ μ6.1 831 = 0
      rw [if_neg (by decide)]
      exact ⟨by rw [e6]; rfl, by rw [F6.2 831 (by decide)]; exact h831⟩
    · exact lowf_fr (mo_fr_tr (fr_mono f1 (ts' := [24, 25, 26, 27, 28, 29, 30, 31, 32, 33, 34, 35, 36, 37, 38, 39, 40, 41, 42, 50, 51, 52, 53, 54]) (fs' := [801, 804, 805, 806, 807, 808, 817, 831, 834, 836, 840, 841, 842, 845]) (by decide) (by decide)) (fr_mono F6 (by decide) (by decide))) (by decide) (by decide)
