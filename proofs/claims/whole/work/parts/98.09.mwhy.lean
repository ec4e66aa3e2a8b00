/-- best values kept by the reference -/
def bs_R (μ : mo_U) (b : ev_T) : Prop := ∀ k, k < 26 → μ.2 57 k = ov (b k)
theorem ov_eq {x y : Option Nat} (hx : ∀ v, x = some v → v < 1000) (hy : ∀ v, y = some v → v < 1000) : ov x = ov y ↔ x = y := by
  constructor
  · intro h
    cases x with
    | none =>
      cases y with
      | none => rfl
      | some w => exact absurd h.symm (ov_m1 (hy w rfl))
    | some v =>
      cases y with
      | none => exact absurd h (ov_m1 (hx v rfl))
      | some w =>
        have h : nI v = nI w := h
        have h1 := hx v rfl
        have h2 := hy w rfl
        rw [nI_eq (by omega) (by omega)] at h
        rw [h]
  · intro h; rw [h]
theorem ref_isLess {R : mr_R} {N : Nat → Nat} {i : Nat} {ls : List lit_T} {rest : List ev_T} {μ : mo_U} (h3 : (ps_of ls).length ≤ 3) (hIT : IT R N i ls rest μ) {lt : Nat → Bool} {x b : ev_T} (hx : eB (μ.2 50) (ps_of ls).length x) (hxd : dmE lt x) (hb : bs_R μ b) (hbok : ev_ok b) (hbd : dmE lt b) (Q : Int32 → mo_U → Prop) (hQ : Q (if lx x b 0 26 then 1 else 0) μ) : mp_isLess μ Q := by
  intro X2 hX
  obtain ⟨pix, k0, C, E, hS, _⟩ := hIT
  have main : ∀ m k, k + m = 26 → lx x b k m = lx x b 0 26 → X2 (nI k) μ := by
    intro m
    induction m with
    | zero =>
      intro k hk he
      refine hX _ _ ⟨fun _ => ?_, fun q => absurd (nI_le (a := 26) (by omega) (by omega)) q⟩
      rw [← he] at hQ
      exact hQ
    | succ m ih =>
      intro k hk he
      refine hX _ _ ⟨fun q => absurd q (nI_ge (b := 26) (by omega) (by omega)), fun _ => ?_⟩
      rw [hS.2.2.1, mo_bx, cl_nI (n := k) (by omega), cl_nI (n := 26 * (ps_of ls).length + k) (by omega), hx.2.2 k (by omega), hb k (by omega), nI_1, ov_eq (fun v hv => hx.1 k v hv) (fun v hv => hbok k v hv)]
      refine ⟨vp_in_nI (by omega) (by decide), vp_in_nI (by omega) (by decide), fun heq => ?_, fun hne => ⟨vp_in_nI (by omega) (by decide), ?_⟩⟩
      · refine ih (k + 1) (by omega) ?_
        rw [← he]
        show _ = (if x k = b k then lx x b (k + 1) m else _)
        rw [if_pos heq]
      · have hl : lx x b 0 26 = decide ((x k).getD 0 < (b k).getD 0) := by
          rw [← he]
          show (if x k = b k then lx x b (k + 1) m else decide ((x k).getD 0 < (b k).getD 0)) = _
          rw [if_neg hne]
        rw [hl] at hQ
        cases hxk : x k with
        | none =>
          cases hbk : b k with
          | none => exact absurd (by rw [hxk, hbk]) hne
          | some w =>
            have := (hbd k (by omega)).mpr (by rw [hbk]; exact fun z => by cases z)
            exact absurd hxk ((hxd k (by omega)).mp this)
        | some v =>
          cases hbk : b k with
          | none =>
            have := (hxd k (by omega)).mpr (by rw [hxk]; exact fun z => by cases z)
            exact absurd hbk ((hbd k (by omega)).mp this)
          | some w =>
            have h1 := hx.1 k v hxk
            have h2 := hbok k w hbk
            rw [hxk, hbk] at hQ
            show (nI w ≤ nI v → _) ∧ _
            rw [nI_leI (by omega) (by omega)]
            have hQ : Q (if decide (v < w) then 1 else 0) μ := hQ
            refine ⟨fun z => ?_, fun z => ?_⟩
            · rw [decide_eq_false (by omega)] at hQ; exact hQ
            · have z : ¬ nI w ≤ nI v := z
              rw [nI_leI (by omega) (by omega)] at z
              rw [decide_eq_true (by omega)] at hQ; exact hQ
  exact main 26 0 rfl rfl
/-- the bit of a letter -/
theorem bi_shr (x : Int32) {k : Nat} (hk : k < 32) : ((x >>> (nI k &&& 31)) &&& (1 : Int32)) = 1 ↔ bi x k = true := by
  have h1 : (1 : Int32) = (1 : Int32) <<< (nI 0 &&& 31) := by decide
  have hb : bi (x >>> (nI k &&& 31)) 0 = bi x k := by
    rw [bi_lsb _ (by omega), bi_lsb _ hk]
    have e : (x >>> (nI k &&& 31)).toBitVec = x.toBitVec.sshiftRight k := by
      apply BitVec.eq_of_toInt_eq
      rw [BitVec.toInt_sshiftRight]
      have := pk_shr x (nI k &&& 31) k (bi_sh k hk)
      exact this
    rw [e, BitVec.getLsbD_sshiftRight]
    simp [hk]
  constructor
  · intro h
    rw [← hb]
    unfold bi
    rw [← h1, h]
    decide
  · intro h
    rw [← hb] at h
    unfold bi at h
    have h := of_decide_eq_true h
    rw [← h1] at h
    apply bi_ext
    intro i hi
    rw [bi_and _ _ hi]
    by_cases z : i = 0
    · rw [z, hb, show bi (1 : Int32) 0 = true by decide]
      cases hb2 : bi x k with
      | true => rfl
      | false =>
        exfalso
        apply h
        apply bi_ext
        intro j hj
        rw [bi_and _ _ hj, bi_0]
        by_cases y : j = 0
        · rw [y, hb, hb2]; rfl
        · have : ∀ j, j < 32 → j ≠ 0 → bi (1 : Int32) j = false := by decide +kernel
          rw [this j hj y, Bool.and_false]
    · have : ∀ j, j < 32 → j ≠ 0 → bi (1 : Int32) j = false := by decide +kernel
      rw [this i hi z, Bool.and_false]
/-- the value of the letter of a rank, or none -/
def tlv (lt : Nat → Bool) (b : ev_T) (w : Nat) : Nat → Option Nat
  | 0 => none
  | k + 1 => if lt k = true ∧ rk lt k + 2 = w then b k else tlv lt b w k
def tlr (lt : Nat → Bool) (b : ev_T) (i w : Nat) : Int32 := if w = 0 then nI i else if w = 1 then nI (rk lt 26) else ov (tlv lt b w 26)
theorem ref_tell {μ : mo_U} {i w : Nat} (hi : i < 17) (hw : w ≤ 7) {lt : Nat → Bool} (hlt : ∀ k, k < 26 → bi (μ.2 33 i) k = lt k) {b : ev_T} (hb : bs_R μ b) (hbd : dmE lt b) (Q : Int32 → mo_U → Prop) (hQ : Q (tlr lt b i w) μ) : mp_tell (nI i) (nI w) μ Q := by
  intro X8 hX
  have hrk : ∀ k, rk lt k ≤ k := by
    intro k
    induction k with
    | zero => exact Nat.le_refl 0
    | succ k ih =>
      show rk lt k + (if lt k then 1 else 0) ≤ k + 1
      split <;> omega
  have main : ∀ m k, k + m = 26 → X8 (nI (rk lt k)) (ov (tlv lt b w k)) (nI k) μ := by
    intro m
    induction m with
    | zero =>
      intro k hk
      have hk26 : k = 26 := by omega
      refine hX _ _ _ _ ⟨fun _ => ?_, fun q => absurd (nI_le (a := 26) (by omega) (by omega)) q⟩
      unfold tlr at hQ
      refine ⟨fun q => ⟨fun q2 => ?_, fun q2 => ?_⟩, fun q => ?_⟩
      · rw [if_neg (fun z => q (by rw [z]; rfl)), if_neg (fun z => q2 (by rw [z]; rfl))] at hQ
        rw [hk26]; exact hQ
      · have : w = 1 := (nI_eq (by omega) (by decide)).mp q2
        rw [if_neg (by omega), if_pos this] at hQ
        rw [hk26]; exact hQ
      · have : w = 0 := (nI_eq (b := 0) (by omega) (by decide)).mp q
        rw [if_pos this] at hQ
        exact hQ
    | succ m ih =>
      intro k hk
      have hr := hrk k
      refine hX _ _ _ _ ⟨fun q => absurd q (nI_ge (b := 26) (by omega) (by omega)), fun _ => ⟨vp_in_nI hi (by decide), ?_⟩⟩
      rw [cl_nI (n := i) (by omega), bi_shr _ (by omega), hlt k (by omega), nI_1, nI_1]
      refine ⟨fun q => ?_, fun q => ?_⟩
      · have hf : lt k = false := by
          cases hb : lt k with
          | false => rfl
          | true => exact absurd hb q
        have := ih (k + 1) (by omega)
        have e : rk lt (k + 1) = rk lt k := by show rk lt k + (if lt k then 1 else 0) = _; rw [hf]; rfl
        have e2 : tlv lt b w (k + 1) = tlv lt b w k := by
          show (if lt k = true ∧ _ then b k else tlv lt b w k) = _
          rw [if_neg (fun z => by rw [hf] at z; cases z.1)]
        rw [e, e2] at this
        exact this
      · have e : rk lt (k + 1) = rk lt k + 1 := by show rk lt k + (if lt k then 1 else 0) = _; rw [q]; rfl
        have this := ih (k + 1) (by omega)
        rw [e] at this
        have heq : nI (rk lt k) = nI w - (2 : Int32) ↔ rk lt k + 2 = w := by
          rw [show (2 : Int32) = nI 2 from rfl]
          constructor
          · intro z
            have z2 : nI (rk lt k) + nI 2 = nI w := by rw [z]; rw [Int32.sub_add_cancel]
            rw [nI_add, nI_eq (by omega) (by omega)] at z2
            exact z2
          · intro z
            rw [← z, ← nI_add, Int32.add_sub_cancel]
        rw [heq]
        refine ⟨fun hne => ?_, fun hq => ⟨vp_in_nI (by omega) (by decide), ?_⟩⟩
        · have e2 : tlv lt b w (k + 1) = tlv lt b w k := by
            show (if lt k = true ∧ _ then b k else tlv lt b w k) = _
            rw [if_neg (fun z => hne z.2)]
          rw [e2] at this
          exact this
        · have e2 : tlv lt b w (k + 1) = b k := by
            show (if lt k = true ∧ _ then b k else tlv lt b w k) = _
            rw [if_pos ⟨q, hq⟩]
          rw [e2] at this
          rw [cl_nI (by omega), hb k (by omega)]
          exact this
  exact main 26 0 rfl
/-- the loops of why -/
theorem ref_wloop {μ0 : mo_U} {G : pg_T} (hok : pg_ok G) {T : Nat → al_T} (hT : rT μ0 G T) (hlt : ∀ i, i < G.rs.length → ∀ k, k < 26 → bi (μ0.2 33 i) k = vlt (G.rs.getD i d_ru).ls k) {v a b c w : Nat} (hv : v < 8) (ha : a < 1000) (hb : b < 1000) (hc : c < 1000) (hw : w ≤ 7) (hpl : ∀ i, i < G.rs.length → (G.rs.getD i d_ru).h = v → (G.rs.getD i d_ru).c = false) (Q : Int32 → mo_U → Prop)
    (h0 : (∀ i, i < G.rs.length → ¬ dhas G (ks T) v (pk3 a b c) i) → ∀ μ', mo_fr dts dfs μ0 μ' → Q (-1) μ')
    (h1 : ∀ i bb, i < G.rs.length → (∀ j, j < i → ¬ dhas G (ks T) v (pk3 a b c) j) → dhas G (ks T) v (pk3 a b c) i → bestL (dsol (ks T) (G.rs.getD i d_ru) (pk3 a b c)) = some bb → ∀ μ', mo_fr dts dfs μ0 μ' → Q (tlr (vlt (G.rs.getD i d_ru).ls) bb i w) μ')
    (X83 : Int32 → Int32 → Int32 → mo_U → Prop) (X112 : Int32 → Int32 → Int32 → Int32 → mo_U → Prop) (X149 : Int32 → Int32 → Int32 → Int32 → Int32 → mo_U → Prop) (X187 : Int32 → Int32 → Int32 → Int32 → mo_U → Prop)
    (h83 : ∀ (v6 : Int32) (v7 : Int32) (v8 : Int32) (μ : mo_U), (((μ.1 808) ≤ v8 → Q ((-1 : Int32)) μ) ∧ (¬ (μ.1 808) ≤ v8 → vp_in v8 17 ∧ ((¬ (μ.2 26 v8.toNatClampNeg) = nI v → X187 v6 v7 v8 ((0 : Int32)) μ) ∧ ((μ.2 26 v8.toNatClampNeg) = nI v → mp_begin v8 μ (fun (μ109 : mo_U) => X112 v6 v7 v8 ((0 : Int32)) μ109))))) → X83 v6 v7 v8 μ)
    (h112 : ∀ (v6 : Int32) (v7 : Int32) (v8 : Int32) (v9 : Int32) (μ : mo_U), (mp_next μ (fun (r113 : Int32) (μ113 : mo_U) => (r113 = 0 → X187 v6 v7 v8 v9 μ113) ∧ (¬ r113 = 0 → mp_leads (nI a) v6 v7 μ113 (fun (r125 : Int32) (μ125 : mo_U) => (r125 = 0 → X112 v6 v7 v8 v9 μ125) ∧ (¬ r125 = 0 → (v9 = 0 → X149 v6 v7 v8 ((1 : Int32)) ((0 : Int32)) μ125) ∧ (¬ v9 = 0 → mp_isLess μ125 (fun (r137 : Int32) (μ137 : mo_U) => (r137 = 0 → X112 v6 v7 v8 v9 μ137) ∧ (¬ r137 = 0 → X149 v6 v7 v8 ((1 : Int32)) ((0 : Int32)) μ137)))))))) → X112 v6 v7 v8 v9 μ)
    (h149 : ∀ (v6 : Int32) (v7 : Int32) (v8 : Int32) (v9 : Int32) (v10 : Int32) (μ : mo_U), ((((26 : Int32)) ≤ v10 → X112 v6 v7 v8 v9 μ) ∧ (¬ ((26 : Int32)) ≤ v10 → vp_in ((((26 : Int32)) * (μ.1 841)) + v10) 104 ∧ (vp_in v10 26 ∧ ∀ μ177, μ177 = mu_sA μ 57 (upd (μ.2 57) v10.toNatClampNeg (μ.2 50 ((((26 : Int32)) * (μ.1 841)) + v10).toNatClampNeg)) → X149 v6 v7 v8 v9 (v10 + (1 : Int32)) μ177))) → X149 v6 v7 v8 v9 v10 μ)
    (h187 : ∀ (v6 : Int32) (v7 : Int32) (v8 : Int32) (v9 : Int32) (μ : mo_U), ((v9 = 0 → X83 v6 v7 (v8 + (1 : Int32)) μ) ∧ (¬ v9 = 0 → mp_tell v8 (nI w) μ (fun (r197 : Int32) (μ197 : mo_U) => Q r197 μ197))) → X187 v6 v7 v8 v9 μ) : X83 (nI b) (nI c) 0 μ0 := by
  obtain ⟨R, N, hW⟩ := hT.w
  have hn16 := hT.g.n16
  have hSok : S_ok (ks T) := S_ok_T (fun v => (rT_srt hT v).2.1)
  have main : ∀ m i μ, i + m = G.rs.length → mo_fr dts dfs μ0 μ → (∀ j, j < i → ¬ dhas G (ks T) v (pk3 a b c) j) → X83 (nI b) (nI c) (nI i) μ := by
    intro m
    induction m with
    | zero =>
      intro i μ hi hf hno
      have hg := rf_L_fr hT.g hf (by decide) (by decide)
      refine h83 _ _ _ _ ?_
      rw [hg.nn]
      exact ⟨fun _ => h0 (fun j hj => hno j (by omega)) μ hf, fun q => absurd (nI_le (by omega) (by omega)) q⟩
    | succ m ih =>
      intro i μ hi hf hno
      have hil : i < G.rs.length := by omega
      have hg := rf_L_fr hT.g hf (by decide) (by decide)
      obtain ⟨hr, _, hhn, _, _⟩ := hok.ru _ (rs_mem hil)
      have hh := hr.hh
      have g3 := hr.p3
      have hhd := hg.hd i hil
      have skip : ∀ μ', mo_fr dts dfs μ0 μ' → ¬ dhas G (ks T) v (pk3 a b c) i → X187 (nI b) (nI c) (nI i) 0 μ' := fun μ' hf' hnd => by
        refine h187 _ _ _ _ _ ⟨fun _ => ?_, fun q => absurd rfl q⟩
        rw [nI_1]
        exact ih (i + 1) μ' (by omega) hf' (fun j hj => by
          by_cases z : j = i
          · rw [z]; exact hnd
          · exact hno j (by omega))
      refine h83 _ _ _ _ ?_
      rw [hg.nn]
      refine ⟨fun q => absurd q (nI_ge (by omega) (by omega)), fun _ => ⟨vp_in_nI (by omega) (by decide), ?_⟩⟩
      rw [cl_nI (by omega), hhd.1, nI_eq (by omega) (by omega)]
      refine ⟨fun hne => skip μ hf (fun z => hne z.1), fun heq => ?_⟩
      have hcc := hpl i hil heq
      have hW' := mo_W_fr hW hf (by decide) (by decide) (by decide)
      have hcg : ∀ l ∈ (G.rs.getD i d_ru).ls, l.1 ≤ 1 → mr_S R N l.2.1 = ks T l.2.1 := fun l hl h1 => mr_ks hW (by have := (hr.lit l hl).2.2.1 h1; exact this)
      refine IT_b hW'.1 (hg.ls i hil) hr.p3 hr.safe _ (fun μ2 hIT hf2 => ?_)
      have hIT : IT R N i (G.rs.getD i d_ru).ls (hsol (mr_S R N) (G.rs.getD i d_ru)) μ2 := hIT
      rw [hsol_congr hcg] at hIT
      have loop : ∀ (rest vs : List ev_T) (μ3 : mo_U), (∀ x ∈ rest, x ∈ hsol (ks T) (G.rs.getD i d_ru)) → (∀ x ∈ vs, x ∈ hsol (ks T) (G.rs.getD i d_ru)) → IT R N i (G.rs.getD i d_ru).ls rest μ3 → mo_fr dts dfs μ0 μ3 → vs ++ rest.filter (fun x => decide (hk3 x (G.rs.getD i d_ru).ts = pk3 a b c)) = dsol (ks T) (G.rs.getD i d_ru) (pk3 a b c) → (∀ bb, bestL vs = some bb → bs_R μ3 bb) → X112 (nI b) (nI c) (nI i) (if vs = [] then 0 else 1) μ3 := by
        intro rest
        induction rest with
        | nil =>
          intro vs μ3 _ hvs hI hf3 hn hbs
          refine h112 _ _ _ _ _ (IT_0 hI _ (fun μ4 hf4 => ⟨fun _ => ?_, fun q => absurd rfl q⟩))
          have hf04 : mo_fr dts dfs μ0 μ4 := mo_fr_tr hf3 (mo_fr_mono hf4 (by decide) (by decide))
          rw [List.filter_nil, List.append_nil] at hn
          by_cases hz : vs = []
          · rw [if_pos hz]
            exact skip μ4 hf04 (fun z => z.2 (by rw [← hn, hz]))
          · rw [if_neg hz]
            refine h187 _ _ _ _ _ ⟨fun q => absurd q (by decide), fun _ => ?_⟩
            cases hbb : bestL vs with
            | none => exact absurd (bestL_none hbb) hz
            | some bb =>
              have hm := hvs bb (bestL_mem hbb)
              have hdm := hsol_dm hSok hr hm
              have hb4 : bs_R μ4 bb := fun k hk => by rw [hf4.1 57 (by decide)]; exact hbs bb hbb k hk
              refine ref_tell (by omega) hw (fun k hk => by rw [hf04.1 33 (by decide)]; exact hlt i hil k hk) hb4 hdm.2 _ ?_
              exact h1 i bb hil hno ⟨heq, by rw [← hn]; exact hz⟩ (by rw [← hn]; exact hbb) μ4 hf04
        | cons x rest ihr =>
          intro vs μ3 hall hvs hI hf3 hn hbs
          refine h112 _ _ _ _ _ (IT_1 hI _ (fun μ4 hf4 hI4 hx4 => ⟨fun q => absurd q (by decide), fun _ => ?_⟩))
          have hf04 : mo_fr dts dfs μ0 μ4 := mo_fr_tr hf3 (mo_fr_mono hf4 (by decide) (by decide))
          have hg4 := rf_L_fr hT.g hf04 (by decide) (by decide)
          have hxm := hall x List.mem_cons_self
          have hxd := hsol_dm hSok hr hxm
          have hbs4 : ∀ bb, bestL vs = some bb → bs_R μ4 bb := fun bb hbb k hk => by rw [hf4.1 57 (by decide)]; exact hbs bb hbb k hk
          refine ref_leads hr hcc (by omega) hI4 (hg4.hd i hil) hx4 (hsol_bd hr hxm) ha hb hc _ ?_
          have hall' : ∀ y ∈ rest, y ∈ hsol (ks T) (G.rs.getD i d_ru) := fun y hy => hall y (List.mem_cons_of_mem _ hy)
          by_cases hz : hk3 x (G.rs.getD i d_ru).ts = pk3 a b c
          · rw [if_pos hz]
            rw [List.filter_cons_of_pos (by simpa using hz)] at hn
            have hn' : (vs ++ [x]) ++ rest.filter (fun x => decide (hk3 x (G.rs.getD i d_ru).ts = pk3 a b c)) = dsol (ks T) (G.rs.getD i d_ru) (pk3 a b c) := by
              rw [List.append_assoc]; exact hn
            have hvs' : ∀ y ∈ vs ++ [x], y ∈ hsol (ks T) (G.rs.getD i d_ru) := fun y hy => by
              rcases List.mem_append.mp hy with h | h
              · exact hvs y h
              · rw [List.mem_singleton.mp h]; exact hxm
            have hne : ¬ vs ++ [x] = [] := by simp
            -- the values are kept
            have keep : bst (bestL vs) x = some x → X149 (nI b) (nI c) (nI i) 1 0 μ4 := fun hbx => by
              have cp : ∀ m k μ5, k + m = 26 → mo_fr [57] [] μ4 μ5 → (∀ j, j < k → μ5.2 57 j = ov (x j)) → X149 (nI b) (nI c) (nI i) 1 (nI k) μ5 := by
                intro m
                induction m with
                | zero =>
                  intro k μ5 hk hf5 hcp
                  refine h149 _ _ _ _ _ _ ⟨fun _ => ?_, fun q => absurd (nI_le (a := 26) (by omega) (by omega)) q⟩
                  have := ihr (vs ++ [x]) μ5 hall' hvs' (IT_fr hI4 hf5 (by decide) (by decide)) (mo_fr_tr hf04 (mo_fr_mono hf5 (by decide) (by decide))) hn' (fun bb hbb j hj => by
                    rw [bestL_snoc, hbx] at hbb
                    cases hbb
                    exact hcp j (by omega))
                  rw [if_neg hne] at this
                  exact this
                | succ m ihc =>
                  intro k μ5 hk hf5 hcp
                  obtain ⟨pix, k0, C, E, hS5, _⟩ := IT_fr hI4 hf5 (by decide) (by decide)
                  refine h149 _ _ _ _ _ _ ⟨fun q => absurd q (nI_ge (b := 26) (by omega) (by omega)), fun _ => ?_⟩
                  rw [hS5.2.2.1, mo_bx]
                  refine ⟨vp_in_nI (by omega) (by decide), vp_in_nI (by omega) (by decide), fun μ6 e6 => ?_⟩
                  rw [cl_nI (n := k) (by omega), cl_nI (n := 26 * (ps_of (G.rs.getD i d_ru).ls).length + k) (by omega), hf5.1 50 (by decide), hx4.2.2 k (by omega)] at e6
                  rw [nI_1]
                  refine ihc (k + 1) μ6 (by omega) (by rw [e6]; exact mo_fr_tr hf5 (mo_fr_A (by decide))) (fun j hj => ?_)
                  rw [e6, mu_A_sA, if_pos rfl]
                  unfold upd
                  by_cases y : j = k
                  · rw [if_pos y, y]
                  · rw [if_neg y]; exact hcp j (by omega)
              exact cp 26 0 μ4 rfl mo_fr_rf (fun j hj => absurd hj (Nat.not_lt_zero j))
            refine ⟨fun q => absurd q (by decide), fun _ => ?_⟩
            by_cases hvz : vs = []
            · rw [if_pos hvz]
              refine ⟨fun _ => keep (by rw [hvz]; rfl), fun q => absurd rfl q⟩
            · rw [if_neg hvz]
              refine ⟨fun q => absurd q (by decide), fun _ => ?_⟩
              cases hbb : bestL vs with
              | none => exact absurd (bestL_none hbb) hvz
              | some bb =>
                have hdm := hsol_dm hSok hr (hvs bb (bestL_mem hbb))
                refine ref_isLess g3 hI4 hx4 hxd.2 (hbs4 bb hbb) hdm.1 hdm.2 _ ?_
                have hbs' : bst (some bb) x = if lx x bb 0 26 then some x else some bb := rfl
                cases hlx : lx x bb 0 26 with
                | true =>
                  refine ⟨fun q => absurd q (by decide), fun _ => keep ?_⟩
                  rw [hbb, hbs', hlx]; rfl
                | false =>
                  refine ⟨fun _ => ?_, fun q => absurd rfl q⟩
                  have := ihr (vs ++ [x]) μ4 hall' hvs' hI4 hf04 hn' (fun b2 hb2 => by
                    rw [bestL_snoc, hbb, hbs', hlx] at hb2
                    cases hb2
                    exact hbs4 bb hbb)
                  rw [if_neg hne] at this
                  exact this
          · rw [if_neg hz]
            refine ⟨fun _ => ?_, fun q => absurd rfl q⟩
            rw [List.filter_cons_of_neg (by simpa using hz)] at hn
            exact ihr vs μ4 hall' hvs hI4 hf04 hn hbs4
      have := loop _ [] μ2 (fun x hx => hx) (fun x hx => absurd hx List.not_mem_nil) hIT (mo_fr_tr hf (mo_fr_mono hf2 (by decide) (by decide))) rfl (fun bb hbb => by cases hbb)
      rw [if_pos rfl] at this
      exact this
  exact main G.rs.length 0 μ0 (by omega) mo_fr_rf (fun j hj => absurd hj (Nat.not_lt_zero j))
