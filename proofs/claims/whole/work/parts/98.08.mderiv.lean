/-! THE REFERENCE: derivations counted, and the least one -/
def IT (R : mr_R) (N : Nat → Nat) (i : Nat) (ls : List lit_T) (rest : List ev_T) (μ : mo_U) : Prop := ∃ pix k C E, it_S μ R N i ls (ps_of ls) pix ∧ it_D μ N (ps_of ls) k C E ∧ (remK (mr_S R N) (ps_of ls) E C k).filter (alltests (mr_S R N) ls) = rest
theorem IT_0 {R : mr_R} {N : Nat → Nat} {i : Nat} {ls : List lit_T} {μ : mo_U} (h : IT R N i ls [] μ) (Q : Int32 → mo_U → Prop) (hQ : ∀ μ', mo_fr [50, 51] [840] μ μ' → Q 0 μ') : mp_next μ Q := by
  obtain ⟨pix, k, C, E, hS, hD, hrem⟩ := h
  refine mo_next _ hS hD (fun _ μ' hf => hQ μ' hf) (fun x rest hx => ?_)
  rw [hrem] at hx
  cases hx
theorem IT_1 {R : mr_R} {N : Nat → Nat} {i : Nat} {ls : List lit_T} {x : ev_T} {rest : List ev_T} {μ : mo_U} (h : IT R N i ls (x :: rest) μ) (Q : Int32 → mo_U → Prop) (hQ : ∀ μ', mo_fr [50, 51] [840] μ μ' → IT R N i ls rest μ' → eB (μ'.2 50) (ps_of ls).length x → Q 1 μ') : mp_next μ Q := by
  obtain ⟨pix, k, C, E, hS, hD, hrem⟩ := h
  refine mo_next _ hS hD (fun hx => ?_) (fun x' rest' hx μ' C' E' hf hD' hx' hrem' => ?_)
  · rw [hrem] at hx; cases hx
  · rw [hrem] at hx
    cases hx
    exact hQ μ' hf ⟨pix, _, C', E', it_S_fr hS hf, hD', hrem'⟩ hx'
theorem IT_fr {R : mr_R} {N : Nat → Nat} {i : Nat} {ls : List lit_T} {rest : List ev_T} {μ μ' : mo_U} {ts fs : List Nat} (h : IT R N i ls rest μ) (hf : mo_fr ts fs μ μ') (hts : ∀ t ∈ [28, 29, 30, 31, 40, 41, 42, 50, 51, 52], t ∉ ts) (hfs : ∀ f ∈ [840, 841, 842], f ∉ fs) : IT R N i ls rest μ' := by
  obtain ⟨pix, k, C, E, hS, hD, hrem⟩ := h
  exact ⟨pix, k, C, E, it_S_fr2 hS hf (fun t ht => hts t (by simp at ht ⊢; omega)) (fun f hf' => hfs f (by simp at hf' ⊢; omega)), it_D_fr2 hD hf (hts 50 (by decide)) (hts 51 (by decide)) (hfs 840 (by decide)), hrem⟩
theorem IT_b {μ : mo_U} {R : mr_R} {N : Nat → Nat} (hM : mo_M μ R N) {r : Nat} {ls : List lit_T} (hls : mo_lits μ r ls) (h3 : (ps_of ls).length ≤ 3) (hsafe : lits_safe ls) (Q : mo_U → Prop) (hQ : ∀ μ', IT R N r ls ((sols (mr_S R N) (ps_of ls) ev0).filter (alltests (mr_S R N) ls)) μ' → mo_fr [50, 51, 52] [840, 841, 842] μ μ' → Q μ') : mp_begin (nI r) μ Q := by
  refine mo_begin hM hls h3 hsafe Q (fun μ' pix hS hD hf => hQ μ' ⟨pix, 1, _, _, hS, hD, ?_⟩ hf)
  rw [rem_begin]
theorem ref_leads {R : mr_R} {N : Nat → Nat} {i : Nat} {r : ru_T} (hr : ru_ok r) (hc : r.c = false) {rest : List ev_T} {μ : mo_U} (hi : i < 17) (hIT : IT R N i r.ls rest μ) (hh : mo_head μ i r.h r.ts) {x : ev_T} (hx : eB (μ.2 50) (ps_of r.ls).length x) (hxb : ∀ k, vin3 r.ts k → x k ≠ none) {a b c : Nat} (ha : a < 1000) (hb : b < 1000) (hc' : c < 1000) (Q : Int32 → mo_U → Prop) (hQ : Q (if hk3 x r.ts = pk3 a b c then 1 else 0) μ) : mp_leads (nI a) (nI b) (nI c) μ Q := by
  obtain ⟨pix, k, C, E, hS, _⟩ := hIT
  obtain ⟨h1, h2, h3, h4, h5, h6⟩ := hh
  have h6' := h6
  unfold tm3_ok tm_ok at h6
  have hm := hr.plain hc
  have g3 := hr.p3
  have t1 := tv_lt hx.1 h6'.1
  have t2 := tv_lt hx.1 h6'.2.1
  have t3 := tv_lt hx.1 h6'.2.2
  have hk : hk3 x r.ts = pk3 (tv x r.ts.1) (tv x r.ts.2.1) (tv x r.ts.2.2) := rfl
  have hiff : hk3 x r.ts = pk3 a b c ↔ tv x r.ts.1 = a ∧ tv x r.ts.2.1 = b ∧ tv x r.ts.2.2 = c := by
    rw [hk]
    unfold pk3
    omega
  refine mo_headValue (i := 0) hS.2.1 hS.2.2.1 hi (by omega) g3 hx h3 h6.1 (by have := hm.1; omega) (fun q => hxb _ ⟨q, Or.inl rfl⟩) _ ⟨fun q => ?_, fun q => ?_⟩
  · rw [nI_eq (by omega) (by omega)] at q
    rw [if_neg (fun z => q (hiff.mp z).1)] at hQ
    exact hQ
  · rw [nI_eq (by omega) (by omega)] at q
    refine mo_headValue (i := 1) hS.2.1 hS.2.2.1 hi (by omega) g3 hx h4 h6.2.1 (by have := hm.2.1; omega) (fun q => hxb _ ⟨q, Or.inr (Or.inl rfl)⟩) _ ⟨fun q2 => ?_, fun q2 => ?_⟩
    · rw [nI_eq (by omega) (by omega)] at q2
      rw [if_neg (fun z => q2 (hiff.mp z).2.1)] at hQ
      exact hQ
    · rw [nI_eq (by omega) (by omega)] at q2
      refine mo_headValue (i := 2) hS.2.1 hS.2.2.1 hi (by omega) g3 hx h5 h6.2.2 (by have := hm.2.2; omega) (fun q => hxb _ ⟨q, Or.inr (Or.inr rfl)⟩) _ ⟨fun q3 => ?_, fun q3 => ?_⟩
      · rw [nI_eq (by omega) (by omega)] at q3
        rw [if_neg (fun z => q3 (hiff.mp z).2.2)] at hQ
        exact hQ
      · rw [nI_eq (by omega) (by omega)] at q3
        rw [if_pos (hiff.mpr ⟨q, q2, q3⟩)] at hQ
        exact hQ
abbrev dts : List Nat := [50, 51, 52, 57]
abbrev dfs : List Nat := [840, 841, 842]
theorem hsol_bd {S : Nat → List Nat} {r : ru_T} (hr : ru_ok r) {x : ev_T} (h : x ∈ hsol S r) : ∀ k, vin3 r.ts k → x k ≠ none := fun k hk => by
  obtain ⟨p, hp, hv⟩ := hr.hsafe k hk
  exact sols_bound (List.mem_filter.mp h).1 (Or.inr ⟨p, hp, ps_pos hp, hv⟩)
/-- the loops of derivations -/
theorem ref_dloop {μ0 : mo_U} {G : pg_T} (hok : pg_ok G) {T : Nat → al_T} (hT : rT μ0 G T) {v a b c : Nat} (hv : v < 8) (ha : a < 1000) (hb : b < 1000) (hc : c < 1000) (hpl : ∀ i, i < G.rs.length → (G.rs.getD i d_ru).h = v → (G.rs.getD i d_ru).c = false) (Q : Int32 → mo_U → Prop) (hQ : ∀ μ', mo_fr dts dfs μ0 μ' → Q (nI (dsum G (ks T) v (pk3 a b c) G.rs.length)) μ')
    (X129 X155 : Int32 → Int32 → Int32 → Int32 → mo_U → Prop)
    (h129 : ∀ (v5 v6 v7 v8 : Int32) (μ : mo_U), (((μ.1 808) ≤ v8 → Q v7 μ) ∧ (¬ (μ.1 808) ≤ v8 → vp_in v8 17 ∧ ((¬ (μ.2 26 v8.toNatClampNeg) = nI v → X129 v5 v6 v7 (v8 + (1 : Int32)) μ) ∧ ((μ.2 26 v8.toNatClampNeg) = nI v → mp_begin v8 μ (fun (μ152 : mo_U) => X155 v5 v6 v7 v8 μ152))))) → X129 v5 v6 v7 v8 μ)
    (h155 : ∀ (v5 v6 v7 v8 : Int32) (μ : mo_U), (mp_next μ (fun (r156 : Int32) (μ156 : mo_U) => (r156 = 0 → X129 v5 v6 v7 (v8 + (1 : Int32)) μ156) ∧ (¬ r156 = 0 → mp_leads (nI a) v5 v6 μ156 (fun (r170 : Int32) (μ170 : mo_U) => (r170 = 0 → X155 v5 v6 (v7 + ((0 : Int32))) v8 μ170) ∧ (¬ r170 = 0 → X155 v5 v6 (v7 + ((1 : Int32))) v8 μ170))))) → X155 v5 v6 v7 v8 μ) : X129 (nI b) (nI c) 0 0 μ0 := by
  obtain ⟨R, N, hW⟩ := hT.w
  have hn16 := hT.g.n16
  have main : ∀ m i μ, i + m = G.rs.length → mo_fr dts dfs μ0 μ → X129 (nI b) (nI c) (nI (dsum G (ks T) v (pk3 a b c) i)) (nI i) μ := by
    intro m
    induction m with
    | zero =>
      intro i μ hi hf
      have hg := rf_L_fr hT.g hf (by decide) (by decide)
      refine h129 _ _ _ _ _ ?_
      rw [hg.nn]
      refine ⟨fun _ => ?_, fun q => absurd (nI_le (by omega) (by omega)) q⟩
      rw [show i = G.rs.length by omega]
      exact hQ μ hf
    | succ m ih =>
      intro i μ hi hf
      have hil : i < G.rs.length := by omega
      have hg := rf_L_fr hT.g hf (by decide) (by decide)
      obtain ⟨hr, _, hhn, _, _⟩ := hok.ru _ (rs_mem hil)
      have hh := hr.hh
      have hhd := hg.hd i hil
      refine h129 _ _ _ _ _ ?_
      rw [hg.nn]
      refine ⟨fun q => absurd q (nI_ge (by omega) (by omega)), fun _ => ⟨vp_in_nI (by omega) (by decide), ?_⟩⟩
      rw [cl_nI (by omega), hhd.1, nI_eq (by omega) (by omega), nI_1]
      have hds : dsum G (ks T) v (pk3 a b c) (i + 1) = dsum G (ks T) v (pk3 a b c) i + if (G.rs.getD i d_ru).h = v then (dsol (ks T) (G.rs.getD i d_ru) (pk3 a b c)).length else 0 := rfl
      refine ⟨fun hne => ?_, fun heq => ?_⟩
      · have := ih (i + 1) μ (by omega) hf
        rw [hds, if_neg hne, Nat.add_zero] at this
        exact this
      · have hcc := hpl i hil heq
        have hW' := mo_W_fr hW hf (by decide) (by decide) (by decide)
        have hcg : ∀ l ∈ (G.rs.getD i d_ru).ls, l.1 ≤ 1 → mr_S R N l.2.1 = ks T l.2.1 := fun l hl h1 => mr_ks hW (by have := (hr.lit l hl).2.2.1 h1; exact this)
        refine IT_b hW'.1 (hg.ls i hil) hr.p3 hr.safe _ (fun μ2 hIT hf2 => ?_)
        have hIT : IT R N i (G.rs.getD i d_ru).ls (hsol (mr_S R N) (G.rs.getD i d_ru)) μ2 := hIT
        rw [hsol_congr hcg] at hIT
        have loop : ∀ (rest : List ev_T) (n : Nat) (μ3 : mo_U), (∀ x ∈ rest, x ∈ hsol (ks T) (G.rs.getD i d_ru)) → IT R N i (G.rs.getD i d_ru).ls rest μ3 → mo_fr dts dfs μ0 μ3 → n + (rest.filter (fun x => decide (hk3 x (G.rs.getD i d_ru).ts = pk3 a b c))).length = dsum G (ks T) v (pk3 a b c) (i + 1) → X155 (nI b) (nI c) (nI n) (nI i) μ3 := by
          intro rest
          induction rest with
          | nil =>
            intro n μ3 _ hI hf3 hn
            refine h155 _ _ _ _ _ (IT_0 hI _ (fun μ4 hf4 => ⟨fun _ => ?_, fun q => absurd rfl q⟩))
            rw [nI_1]
            have hn : n = dsum G (ks T) v (pk3 a b c) (i + 1) := hn
            rw [hn]
            exact ih (i + 1) μ4 (by omega) (mo_fr_tr hf3 (mo_fr_mono hf4 (by decide) (by decide)))
          | cons x rest ihr =>
            intro n μ3 hall hI hf3 hn
            refine h155 _ _ _ _ _ (IT_1 hI _ (fun μ4 hf4 hI4 hx4 => ⟨fun q => absurd q (by decide), fun _ => ?_⟩))
            have hf04 : mo_fr dts dfs μ0 μ4 := mo_fr_tr hf3 (mo_fr_mono hf4 (by decide) (by decide))
            have hg4 := rf_L_fr hT.g hf04 (by decide) (by decide)
            refine ref_leads hr hcc (by omega) hI4 (hg4.hd i hil) hx4 (hsol_bd hr (hall x List.mem_cons_self)) ha hb hc _ ?_
            have hall' : ∀ y ∈ rest, y ∈ hsol (ks T) (G.rs.getD i d_ru) := fun y hy => hall y (List.mem_cons_of_mem _ hy)
            by_cases hz : hk3 x (G.rs.getD i d_ru).ts = pk3 a b c
            · rw [if_pos hz]
              refine ⟨fun q => absurd q (by decide), fun _ => ?_⟩
              rw [nI_1]
              refine ihr (n + 1) μ4 hall' hI4 hf04 ?_
              rw [List.filter_cons_of_pos (by simpa using hz), List.length_cons] at hn
              omega
            · rw [if_neg hz]
              refine ⟨fun _ => ?_, fun q => absurd rfl q⟩
              rw [show (0 : Int32) = nI 0 from rfl, nI_add]
              refine ihr (n + 0) μ4 hall' hI4 hf04 ?_
              rw [List.filter_cons_of_neg (by simpa using hz)] at hn
              omega
        refine loop _ _ μ2 (fun x hx => hx) hIT (mo_fr_tr hf (mo_fr_mono hf2 (by decide) (by decide))) ?_
        rw [hds, if_pos heq]
        rfl
  exact main G.rs.length 0 μ0 (by omega) mo_fr_rf
