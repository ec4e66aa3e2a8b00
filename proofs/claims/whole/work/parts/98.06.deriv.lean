/-- the solutions that lead to a row -/
def dsol (S : Nat → List Nat) (r : ru_T) (key : Nat) : List ev_T := (hsol S r).filter (fun x => decide (hk3 x r.ts = key))
theorem d_sols {S : Nat → List Nat} (hS : S_ok S) {r : ru_T} (hr : ru_ok r) (hc : r.c = false) {as : List lit_T} (ha : arr r as) (key : Nat) : (∀ e', un3 ev0 r.ts key = some e' → sols S as e' = dsol S r key) ∧ (un3 ev0 r.ts key = none → dsol S r key = []) := by
  obtain ⟨h1, h2⟩ := sols_head hS (ps_of r.ls) (fun l hl => ps_pos hl) r.ts hr.hts (hr.plain hc) hr.hsafe key
  have hcm : dsol S r key = ((sols S (ps_of r.ls) ev0).filter (fun x => decide (hk3 x r.ts = key))).filter (alltests S r.ls) := by
    unfold dsol hsol
    rw [List.filter_filter, List.filter_filter]
    congr 1
    funext x
    exact Bool.and_comm _ _
  refine ⟨fun e' he => ?_, fun he => ?_⟩
  · rw [sols_split as e' (fun _ => False) (fun _ q => q.elim) ha.ok, ha.ps, h1 e' he, hcm]
    congr 1
    funext x
    exact arr_tests ha S x
  · rw [hcm, h2 he]
    rfl
/-- a rule's letters: those of its positive literals -/
def vlt (ls : List lit_T) (k : Nat) : Bool := (ps_of ls).any (fun l => decide (k < 26) && (decide (l.2.2.1 = k) || (decide (l.2.2.2.1 = k) || decide (l.2.2.2.2 = k))))
theorem vlt_iff {ls : List lit_T} {k : Nat} : vlt ls k = true ↔ ∃ l ∈ ps_of ls, vin3 l.2.2 k := by
  unfold vlt vin3
  rw [List.any_eq_true]
  refine exists_congr (fun l => and_congr Iff.rfl ?_)
  rw [Bool.and_eq_true, Bool.or_eq_true, Bool.or_eq_true, decide_eq_true_iff, decide_eq_true_iff, decide_eq_true_iff, decide_eq_true_iff]
theorem hsol_dm {S : Nat → List Nat} (hS : S_ok S) {r : ru_T} (hr : ru_ok r) {x : ev_T} (h : x ∈ hsol S r) : ev_ok x ∧ dmE (vlt r.ls) x := by
  have ho := hsol_ok hS h
  obtain ⟨h1, h2, _, _⟩ := (hsol_mem hr ho).mp h
  refine ⟨ho, fun k _ => ?_⟩
  rw [vlt_iff]
  exact ⟨fun ⟨l, hl, hv⟩ => h2 l hl k hv, h1 k⟩
def nJ (X : ex_T) (go : Nat) (T : Nat → al_T) (σ0 : z_S) (ro : Nat) (lt : Nat → Bool) (n0 : Nat) (g : gv_T) (σ : z_S) : Prop := (es X go ⟨T, [], false⟩ σ) ∧ (ef X σ0 σ) ∧ (∀ f, z_R σ f X.a = z_R σ0 f X.a) ∧ (z_R σ0 110 X.a = some ro) ∧ (z_I σ 107 X.a = nI (n0 + g.vs.length)) ∧ (g.fl = false) ∧ (∀ x ∈ g.vs, ev_ok x ∧ dmE lt x) ∧ (go = 2 → ∀ b, bestL g.vs = some b → ls_R X σ lt b)
theorem nJ.s {X : ex_T} {go : Nat} {T : Nat → al_T} {σ0 : z_S} {ro : Nat} {lt : Nat → Bool} {n0 : Nat} {g : gv_T} {σ : z_S} (h' : nJ X go T σ0 ro lt n0 g σ) : es X go ⟨T, [], false⟩ σ := h'.1
theorem nJ.f {X : ex_T} {go : Nat} {T : Nat → al_T} {σ0 : z_S} {ro : Nat} {lt : Nat → Bool} {n0 : Nat} {g : gv_T} {σ : z_S} (h' : nJ X go T σ0 ro lt n0 g σ) : ef X σ0 σ := h'.2.1
theorem nJ.rr {X : ex_T} {go : Nat} {T : Nat → al_T} {σ0 : z_S} {ro : Nat} {lt : Nat → Bool} {n0 : Nat} {g : gv_T} {σ : z_S} (h' : nJ X go T σ0 ro lt n0 g σ) : ∀ f, z_R σ f X.a = z_R σ0 f X.a := h'.2.2.1
theorem nJ.r0 {X : ex_T} {go : Nat} {T : Nat → al_T} {σ0 : z_S} {ro : Nat} {lt : Nat → Bool} {n0 : Nat} {g : gv_T} {σ : z_S} (h' : nJ X go T σ0 ro lt n0 g σ) : z_R σ0 110 X.a = some ro := h'.2.2.2.1
theorem nJ.n {X : ex_T} {go : Nat} {T : Nat → al_T} {σ0 : z_S} {ro : Nat} {lt : Nat → Bool} {n0 : Nat} {g : gv_T} {σ : z_S} (h' : nJ X go T σ0 ro lt n0 g σ) : z_I σ 107 X.a = nI (n0 + g.vs.length) := h'.2.2.2.2.1
theorem nJ.fl {X : ex_T} {go : Nat} {T : Nat → al_T} {σ0 : z_S} {ro : Nat} {lt : Nat → Bool} {n0 : Nat} {g : gv_T} {σ : z_S} (h' : nJ X go T σ0 ro lt n0 g σ) : g.fl = false := h'.2.2.2.2.2.1
theorem nJ.d {X : ex_T} {go : Nat} {T : Nat → al_T} {σ0 : z_S} {ro : Nat} {lt : Nat → Bool} {n0 : Nat} {g : gv_T} {σ : z_S} (h' : nJ X go T σ0 ro lt n0 g σ) : ∀ x ∈ g.vs, ev_ok x ∧ dmE lt x := h'.2.2.2.2.2.2.1
theorem nJ.l {X : ex_T} {go : Nat} {T : Nat → al_T} {σ0 : z_S} {ro : Nat} {lt : Nat → Bool} {n0 : Nat} {g : gv_T} {σ : z_S} (h' : nJ X go T σ0 ro lt n0 g σ) : go = 2 → ∀ b, bestL g.vs = some b → ls_R X σ lt b := h'.2.2.2.2.2.2.2
theorem es_107 {X : ex_T} {go : Nat} (hgo : go ≠ 0) {g : gs_T} {σ : z_S} (h : es X go g σ) (y : Int32) : es X go g (z_sI σ 107 X.a y) :=
  ⟨en_T_ef h.en (ef_sI (by omega) (by omega)), rw_L_I h.rw (ef_sI (by omega) (by omega)) (fun a => by rw [z_I_sI, if_neg (fun z => absurd z.1 (by decide))]) (fun _ => rfl) (fun _ => rfl), h.hw, by rw [z_I_sI, if_neg (fun z => absurd z.1 (by decide))]; exact h.gl, by rw [z_I_sI, if_neg (fun z => absurd z.1 (by decide))]; exact h.f, h.cp, fun z => absurd z hgo⟩
theorem es_2 {X : ex_T} {go : Nat} (hgo : go ≠ 0) {g : gs_T} {σ : z_S} (h : es X go g σ) (F : Nat → Int32) : es X go g (z_sA σ 2 X.l F) :=
  ⟨en_T_ef h.en (ef_sA (by omega) (by omega)), rw_L_I h.rw (ef_sA (by omega) (by omega)) (fun a => rfl) (fun a => by rw [z_A_sA, if_neg (fun z => absurd z.1 (by decide))]) (fun a => by rw [z_A_sA, if_neg (fun z => absurd z.1 (by decide))]), h.hw, h.gl, h.f, h.cp, fun z => absurd z hgo⟩
theorem n_found {X : ex_T} {go : Nat} (hgo : go = 1 ∨ go = 2) {T : Nat → al_T} {σ0 : z_S} {ro : Nat} {lt : Nat → Bool} (hlt : lt_L σ0 ro lt) {n0 : Nat} (hn0 : go = 2 → n0 = 0) {g : gv_T} {σ : z_S} (hJ : nJ X go T σ0 ro lt n0 g σ) (hlen : g.vs.length < 100000) {e : ev_T} (he : eV X σ e) (hed : dmE lt e) (P : z_S → Prop) (hP : ∀ σ', nJ X go T σ0 ro lt n0 ⟨g.vs ++ [e], false⟩ σ' → eV X σ' e → P σ') : kp_En_found X.a σ P := by
  intro X64 X126 h64 h126
  have hgo0 : go ≠ 0 := by omega
  have hE := hJ.s.en
  refine ⟨hE.ty, fun _ => ⟨hE.ty, hE.ty, fun σ100 e100 => ?_⟩, fun q => ?_⟩
  · rw [hJ.n, nI_1] at e100
    have hef : ef X σ σ100 := by rw [e100]; exact ef_sI (by omega) (by omega)
    have hs100 : es X go ⟨T, [], false⟩ σ100 := by rw [e100]; exact es_107 hgo0 hJ.s _
    have hn100 : z_I σ100 107 X.a = nI (n0 + (g.vs ++ [e]).length) := by rw [e100, z_I_sI, if_pos ⟨rfl, rfl⟩, List.length_append]; rfl
    have he100 : eV X σ100 e := by
      rw [e100]
      exact ⟨he.ok, he.hi, fun k hk => by rw [z_I_sI, if_neg (fun z => absurd z.1 (by decide))]; exact he.kn k hk, he.vs⟩
    have hR100 : ∀ f, z_R σ100 f X.a = z_R σ0 f X.a := fun f => by rw [e100]; exact hJ.rr f
    have hd' : ∀ x ∈ g.vs ++ [e], ev_ok x ∧ dmE lt x := fun x hx => by
      rcases List.mem_append.mp hx with h | h
      · exact hJ.d x h
      · rw [List.mem_singleton.mp h]; exact ⟨he.ok, hed⟩
    have hgl : z_I σ100 106 X.a = nI go := hs100.gl
    have h110 : z_R σ100 110 X.a = some ro := by rw [hR100]; exact hJ.r0
    have hlt100 := lt_L_ef hlt (ef_tr hJ.f hef)
    refine ⟨hs100.en.ty, fun q => ?_, fun q => ?_⟩
    · have hg1 : go = 1 := by
        rcases hgo with h | h
        · exact h
        · exact absurd (by rw [hgl, h]; rfl) q
      exact hP σ100 ⟨hs100, ef_tr hJ.f hef, hR100, hJ.r0, hn100, rfl, hd', fun z => by omega⟩ he100
    · have hg2 : go = 2 := by
        rcases hgo with h | h
        · rw [hgl, h] at q; exact absurd q (by decide)
        · exact h
      have hn00 := hn0 hg2
      have keep : bst (bestL g.vs) e = some e → X126 σ100 := fun hb => by
        refine h126 _ ⟨hs100.en.ty, en_keep hs100.en h110 hlt100 he100 hed _ (fun F hls => ?_)⟩
        refine hP _ ⟨es_2 hgo0 hs100 F, ef_tr hJ.f (ef_tr hef (ef_sA (by omega) (by omega))), hR100, hJ.r0, hn100, rfl, hd', fun _ b hb' => ?_⟩ ⟨he100.ok, he100.hi, he100.kn, fun k v hkv => by rw [z_A_sA, if_neg (fun z => absurd z.1 (by decide))]; exact he100.vs k v hkv⟩
        have hb2 : bestL (g.vs ++ [e]) = some b := hb'
        rw [bestL_snoc, hb] at hb2
        cases hb2
        exact hls
      have hn1 : z_I σ100 107 X.a = (1 : Int32) ↔ g.vs = [] := by
        rw [hn100, hn00, List.length_append, show (1 : Int32) = nI 1 from rfl, nI_eq (by simp; omega) (by decide)]
        simp
      refine ⟨hs100.en.ty, fun z => ?_, fun z => ⟨hs100.en.ty, ?_⟩⟩
      · refine keep ?_
        rw [hn1.mp z]
        rfl
      · cases hb : bestL g.vs with
        | none => exact absurd (hn1.mpr (bestL_none hb)) z
        | some b =>
          have hbm := hJ.d b (bestL_mem hb)
          have hls := hJ.l hg2 b hb
          have hls100 : ls_R X σ100 lt b := by rw [e100]; exact hls
          refine en_isLess hs100.en h110 hlt100 he100 hed hls100 hbm.1 hbm.2 _ ?_
          have hbs : bst (some b) e = if lx e b 0 26 then some e else some b := rfl
          cases hlx : lx e b 0 26 with
          | true =>
            refine ⟨fun q => absurd q (by decide), fun _ => keep ?_⟩
            rw [hb, hbs, hlx]; rfl
          | false =>
            refine ⟨fun _ => hP σ100 ⟨hs100, ef_tr hJ.f hef, hR100, hJ.r0, hn100, rfl, hd', fun _ b' hb' => ?_⟩ he100, fun q => absurd rfl q⟩
            have hb2 : bestL (g.vs ++ [e]) = some b' := hb'
            rw [bestL_snoc, hb, hbs, hlx] at hb2
            cases hb2
            exact hls100
  · rw [hJ.s.gl] at q
    rcases hgo with h | h
    · rw [h] at q; exact absurd q (by decide)
    · rw [h] at q; exact absurd q (by decide)
/-- one rule for a row -/
theorem en_solveFor {X : ex_T} {D : pa_T} {G : pg_T} (hok : pg_ok G) {go : Nat} (hgo : go = 1 ∨ go = 2) {T : Nat → al_T} (hT : vT G T) {σ : z_S} (hp : pr_L σ D G) {i : Nat} (hi : i < G.rs.length) (hlt : lt_L σ (D.ro i) (vlt (G.rs.getD i d_ru).ls)) (hs : es X go ⟨T, [], false⟩ σ) (h109 : z_R σ 109 X.a = some D.p) {n0 : Nat} (hn0 : go = 2 → n0 = 0) (h107 : z_I σ 107 X.a = nI n0) {v key : Nat} (hv : v < 8) (hkar : kar (G.A v) key) (hpl : (G.rs.getD i d_ru).h = v → (G.rs.getD i d_ru).c = false) (P : z_S → Prop)
    (hP : ∀ σ', es X go ⟨T, [], false⟩ σ' → ef X σ σ' → z_R σ' 109 X.a = some D.p → z_I σ' 107 X.a = nI (n0 + if (G.rs.getD i d_ru).h = v then (dsol (ks T) (G.rs.getD i d_ru) key).length else 0) → (go = 2 → (G.rs.getD i d_ru).h = v → ∀ b, bestL (dsol (ks T) (G.rs.getD i d_ru) key) = some b → ls_R X σ' (vlt (G.rs.getD i d_ru).ls) b) → P σ') : kp_En_solveFor X.a (nI i) (nI v) (nI key) σ P := by
  have hgo0 : go ≠ 0 := by omega
  obtain ⟨q1, _⟩ := hp.ru i hi
  have hn16 := hp.n16
  obtain ⟨hr, hly, hhn, _, _⟩ := hok.ru _ (rs_mem hi)
  have hh := hr.hh
  refine ⟨hs.en.ty, D.p, h109, hp.ty, D.pa, hp.rr, 16, 7, hp.tr, vp_in_nI (by omega) (by decide), D.ro i, by rw [cl_nI (by omega)]; exact q1, hs.en.ty, fun σ10 e10 => ⟨by rw [e10]; exact hs.en.ty, fun σ15 e15 => ?_⟩⟩
  have hef : ef X σ σ15 := by rw [e15, e10]; exact ef_tr (ef_sR (by omega) (by omega)) (ef_sI (by omega) (by omega))
  have hs15 : es X go ⟨T, [], false⟩ σ15 := by rw [e15, e10]; exact es_105 (es_sR hs _) _
  have h110 : z_R σ15 110 X.a = some (D.ro i) := by rw [e15, e10, z_R_sI, z_R_sR, if_pos ⟨rfl, rfl⟩]
  have h109' : z_R σ15 109 X.a = some D.p := by rw [e15, e10, z_R_sI, z_R_sR, if_neg (fun q => absurd q.1 (by decide))]; exact h109
  have h105 : z_I σ15 105 X.a = 0 := by rw [e15, z_I_sI, if_pos ⟨rfl, rfl⟩]
  have h107' : z_I σ15 107 X.a = nI n0 := by rw [e15, z_I_sI, if_neg (fun q => absurd q.1 (by decide)), e10]; exact h107
  have hp15 := pr_L_ef hp hef
  obtain ⟨_, hB, hH, ha⟩ := hp15.ru i hi
  have hlt15 := lt_L_ef hlt hef
  have r1 : z_I σ15 3 (D.hb i) = nI (G.rs.getD i d_ru).h := (hH.at'.rl (Nat.zero_le 1)).1
  refine ⟨hs15.en.ty, D.ro i, h110, hH.ty, D.hb i, hH.rh, hH.at'.ty, ?_⟩
  rw [r1, nI_eq (by omega) (by omega)]
  have hSok : S_ok (ks T) := S_ok_T (fun v => (hT.srt v).2)
  refine ⟨fun hne => ?_, fun heq => ⟨hs15.en.ty, D.ro i, h110, hH.ty, D.hb i, hH.rh, hs15.en.ty, ?_⟩⟩
  · exact hP σ15 hs15 hef h109' (by rw [if_neg hne]; exact h107') (fun _ z => absurd z hne)
  · have hc := hpl heq
    obtain ⟨d1, d2⟩ := d_sols hSok hr hc ha key
    have hkar' : kar (G.A (G.rs.getD i d_ru).h) key := by rw [heq]; exact hkar
    have hnone : (∀ σ', vf X σ15 σ' → un3 ev0 (G.rs.getD i d_ru).ts key = none → P σ') := fun σ' hv' hu => by
      refine hP σ' (es_vf hs15 hv') (ef_tr hef (vf_ef hv')) (by rw [vf_R hv']; exact h109') ?_ (fun _ _ b hb => ?_)
      · rw [if_pos heq, d2 hu, vf_I hv' (by decide)]; exact h107'
      · rw [d2 hu] at hb; cases hb
    refine en_matches hs15.en (eV0 h105) hH.at' (hr.plain hc) hkar' _ (fun e' σ41 hu hv41 he41 => ⟨fun q => absurd q (by decide), fun _ => ?_⟩) (fun σ41 hu hv41 _ => ⟨fun _ => hnone σ41 hv41 hu, fun q => absurd rfl q⟩)
    have hs41 := es_vf hs15 hv41
    have hef41 := ef_tr hef (vf_ef hv41)
    have hp41 := pr_L_ef hp hef41
    obtain ⟨_, hB41, hH41, _⟩ := hp41.ru i hi
    have hlt41 := lt_L_ef hlt hef41
    have h110' : z_R σ41 110 X.a = some (D.ro i) := by rw [vf_R hv41]; exact h110
    have hall : ∀ x ∈ dsol (ks T) (G.rs.getD i d_ru) key, ev_ok x ∧ dmE (vlt (G.rs.getD i d_ru).ls) x := fun x hx => hsol_dm hSok hr (List.mem_filter.mp hx).1
    have hlen : (dsol (ks T) (G.rs.getD i d_ru) key).length ≤ 64000 := by
      refine Nat.le_trans (List.length_filter_le _ _) (Nat.le_trans (List.length_filter_le _ _) (sols_64 hr (fun l hl h1 => ?_)))
      have := (hr.lit l hl).2.2.1 h1
      rw [ks_len]; exact hT.c40 _ this
    have hsv := f_sv (X := X) (r := G.rs.getD i d_ru) (T0 := T) (J := nJ X go T σ41 (D.ro i) (vlt (G.rs.getD i d_ru).ls) n0) (T := fun _ => T) (ALL := dsol (ks T) (G.rs.getD i d_ru) key) hB41 (fun g σ hJ => ⟨hJ.s.en, hJ.s.rw, hJ.f, by rw [hJ.rr]; exact hJ.r0, hJ.s.hw, by rw [hJ.s.f, hJ.fl]⟩) (fun g σ hJ => ⟨hJ.s.cp, hT.kr⟩) (fun g σ σ' hJ hv => ⟨es_vf hJ.s hv, ef_tr hJ.f (vf_ef hv), fun f => by rw [vf_R hv]; exact hJ.rr f, hJ.r0, by rw [vf_I hv (by decide)]; exact hJ.n, hJ.fl, hJ.d, fun z b hb k hk hl => by rw [vf_A hv (by decide)]; exact hJ.l z b hb k hk hl⟩) (fun g l hl h1 => rfl) (fun g σ e P hJ he h0 => en_isNN hJ.s (by rw [hJ.rr]; exact hJ.r0) (hd_L_ef hH41 hJ.f) he (by omega) P (fun _ => h0) (fun z => absurd z hgo0)) (fun g σ e P hJ hfl hsuf hbn he hP => ?_)
    · refine ⟨hs41.en.ty, en_solve hsv 8 0 ⟨[], false⟩ σ41 e' _ (by have := hB41.l5; omega) (Nat.zero_le _) ⟨hs41, ef_rf X σ41, fun _ => rfl, h110', by rw [vf_I hv41 (by decide)]; exact h107', rfl, fun x hx => absurd hx List.not_mem_nil, fun _ b hb => (by cases hb)⟩ ⟨fOk0 hr ha, fun _ => ⟨[], by rw [List.append_nil, List.drop_zero, d1 e' hu]; rfl⟩⟩ he41 (fun g' σ' hJ' _ hPo => ?_)⟩
      obtain ⟨us, h1, h2, h3, _⟩ := hPo
      rw [List.drop_zero, d1 e' hu] at h3
      have h1 : g'.vs = us := h1
      have hvs : g'.vs = dsol (ks T) (G.rs.getD i d_ru) key := by rw [h1]; exact h3 hJ'.fl
      refine hP σ' hJ'.s (ef_tr hef41 hJ'.f) (by rw [hJ'.rr, vf_R hv41]; exact h109') (by rw [if_pos heq, ← hvs]; exact hJ'.n) (fun z _ b hb => hJ'.l z b (by rw [hvs]; exact hb))
    · obtain ⟨suf, hs'⟩ := hsuf
      have hem : e ∈ dsol (ks T) (G.rs.getD i d_ru) key := by rw [← hs']; simp
      have hl := congrArg List.length hs'
      rw [List.length_append, List.length_cons] at hl
      exact n_found hgo hlt41 hn0 hJ (by omega) he (hall e hem).2 P (fun σ' hJ' he' => hP false σ' hJ' he')
