/-- the program behind a batch that is taken -/
def st3 (V : vc_T) (a : ab_T) (σ σ3 : z_S) (T3 : Nat → al_T) (dl : sl_T) : Prop := (ff V.dn σ σ3) ∧ (z_R σ3 706 V.x = some V.M.w) ∧ (z_R σ3 707 V.x = some V.N.w) ∧ (z_R σ3 708 V.x = some (V.O V.uw)) ∧ (∀ i, i < 6 → z_Q σ3 22 V.dn i = some (V.O (V.dd i))) ∧ (z_I σ3 710 V.x = nI a.hs.length) ∧ (rw_L V.M σ3 T3) ∧ (rw_L V.N σ3 a.T) ∧ (si_L σ3 (V.O 7) (V.R 7) (V.K 7) (V.S 7) 640 dl) ∧ (∀ i, i < 7 → ∀ n l, si_L σ (V.O i) (V.R i) (V.K i) (V.S i) n l → si_L σ3 (V.O i) (V.R i) (V.K i) (V.S i) n l)
theorem st3.f {V : vc_T} {a : ab_T} {σ σ3 : z_S} {T3 : Nat → al_T} {dl : sl_T} (h' : st3 V a σ σ3 T3 dl) : ff V.dn σ σ3 := h'.1
theorem st3.rn {V : vc_T} {a : ab_T} {σ σ3 : z_S} {T3 : Nat → al_T} {dl : sl_T} (h' : st3 V a σ σ3 T3 dl) : z_R σ3 706 V.x = some V.M.w := h'.2.1
theorem st3.rm {V : vc_T} {a : ab_T} {σ σ3 : z_S} {T3 : Nat → al_T} {dl : sl_T} (h' : st3 V a σ σ3 T3 dl) : z_R σ3 707 V.x = some V.N.w := h'.2.2.1
theorem st3.ru {V : vc_T} {a : ab_T} {σ σ3 : z_S} {T3 : Nat → al_T} {dl : sl_T} (h' : st3 V a σ σ3 T3 dl) : z_R σ3 708 V.x = some (V.O V.uw) := h'.2.2.2.1
theorem st3.qd {V : vc_T} {a : ab_T} {σ σ3 : z_S} {T3 : Nat → al_T} {dl : sl_T} (h' : st3 V a σ σ3 T3 dl) : ∀ i, i < 6 → z_Q σ3 22 V.dn i = some (V.O (V.dd i)) := h'.2.2.2.2.1
theorem st3.ds {V : vc_T} {a : ab_T} {σ σ3 : z_S} {T3 : Nat → al_T} {dl : sl_T} (h' : st3 V a σ σ3 T3 dl) : z_I σ3 710 V.x = nI a.hs.length := h'.2.2.2.2.2.1
theorem st3.N {V : vc_T} {a : ab_T} {σ σ3 : z_S} {T3 : Nat → al_T} {dl : sl_T} (h' : st3 V a σ σ3 T3 dl) : rw_L V.M σ3 T3 := h'.2.2.2.2.2.2.1
theorem st3.M {V : vc_T} {a : ab_T} {σ σ3 : z_S} {T3 : Nat → al_T} {dl : sl_T} (h' : st3 V a σ σ3 T3 dl) : rw_L V.N σ3 a.T := h'.2.2.2.2.2.2.2.1
theorem st3.sl {V : vc_T} {a : ab_T} {σ σ3 : z_S} {T3 : Nat → al_T} {dl : sl_T} (h' : st3 V a σ σ3 T3 dl) : si_L σ3 (V.O 7) (V.R 7) (V.K 7) (V.S 7) 640 dl := h'.2.2.2.2.2.2.2.2.1
theorem st3.si {V : vc_T} {a : ab_T} {σ σ3 : z_S} {T3 : Nat → al_T} {dl : sl_T} (h' : st3 V a σ σ3 T3 dl) : ∀ i, i < 7 → ∀ n l, si_L σ (V.O i) (V.R i) (V.K i) (V.S i) n l → si_L σ3 (V.O i) (V.R i) (V.K i) (V.S i) n l := h'.2.2.2.2.2.2.2.2.2
theorem si_L_R {σ : z_S} {f x : Nat} {v : Option Nat} (hf : f < 600 ∨ 602 < f) {a r k s n : Nat} {l : sl_T} (e : si_L σ a r k s n l) : si_L (z_sR σ f x v) a r k s n l := by
  obtain ⟨⟨h1, h2, h3, h4, h5, h6, h7⟩, g2, g3, g4⟩ := e
  have hR : ∀ g b, g ≠ f → z_R (z_sR σ f x v) g b = z_R σ g b := fun g b hg => by rw [z_R_sR, if_neg (fun z => hg z.1)]
  exact ⟨⟨h1, by rw [hR 600 _ (by omega)]; exact h2, by rw [hR 601 _ (by omega)]; exact h3, by rw [hR 602 _ (by omega)]; exact h4, h5, h6, h7⟩, g2, g3, g4⟩
theorem rw_L_R {σ : z_S} {f x : Nat} {v : Option Nat} (hf : f < 400 ∨ 401 < f) {X : ex_T} {T : Nat → al_T} (e : rw_L X σ T) : rw_L X (z_sR σ f x v) T := by
  have hR : ∀ g b, g ≠ f → z_R (z_sR σ f x v) g b = z_R σ g b := fun g b hg => by rw [z_R_sR, if_neg (fun z => hg z.1)]
  refine ⟨⟨e.1.tw, e.1.qw, fun i hi => ?_, e.1.ia, e.1.ik, e.1.ic⟩, fun i hi => ?_⟩
  · obtain ⟨a1, a2, a3, a4, a5⟩ := e.1.ro i hi
    exact ⟨a1, by rw [hR 400 _ (by omega)]; exact a2, by rw [hR 401 _ (by omega)]; exact a3, a4, a5⟩
  · obtain ⟨⟨a1, a2, a3, a4, a5⟩, h2, h3, h4, h5, h6⟩ := e.2 i hi
    exact ⟨⟨a1, by rw [hR 400 _ (by omega)]; exact a2, by rw [hR 401 _ (by omega)]; exact a3, a4, a5⟩, h2, h3, h4, h5, h6⟩
theorem rw_L_sf {a r k s : Nat} {σ σ' : z_S} (h : sf a r k s σ σ') {X : ex_T} {T : Nat → al_T} (e : rw_L X σ T) : rw_L X σ' T := rw_L_q (sf_q h) e
theorem st3_mk {V : vc_T} {a : ab_T} {σ σ1 σ2 σ3 : z_S} (hC : CI V a σ) (hb : a.on = true) {T3 : Nat → al_T} {dl : sl_T} (h1 : ef V.M σ σ1) (h2 : rw_L V.M σ1 T3) (h3 : sf (V.O 7) (V.R 7) (V.K 7) (V.S 7) σ1 σ2) (h4 : si_L σ2 (V.O 7) (V.R 7) (V.K 7) (V.S 7) 640 dl) (e : σ3 = z_sR (z_sR σ2 706 V.x (some V.M.w)) 707 V.x (some V.N.w)) : st3 V a σ σ3 T3 dl := by
  have hp := CI_prg hC hb
  refine ⟨?_, ?_, ?_, ?_, fun i hi => ?_, ?_, ?_, ?_, ?_, fun i hi n l hl => ?_⟩
  · rw [e]
    exact ff_tr (ff_ef _ h1) (ff_tr (ff_sf _ h3) (ff_sw _ _ _ _ _))
  · rw [e, z_R_sR, if_neg (fun z => absurd z.1 (by decide)), z_R_sR, if_pos ⟨rfl, rfl⟩]
  · rw [e, z_R_sR, if_pos ⟨rfl, rfl⟩]
  · rw [e, z_R_sR, if_neg (fun z => absurd z.1 (by decide)), z_R_sR, if_neg (fun z => absurd z.1 (by decide)), h3.R, h1.2.1 708 _ (by omega)]; exact hC.ru
  · rw [e, z_Q_sR, z_Q_sR, h3.Q, h1.2.2.1]; exact hC.qd i hi
  · rw [e, z_I_sR, z_I_sR, h3.I 710 _ (fun z => by omega), h1.2.2.2.1 710 _ (by omega) (fun z => by omega)]; exact hC.ds
  · rw [e]; exact rw_L_R (by omega) (rw_L_R (by omega) (rw_L_sf h3 h2))
  · rw [e]; exact rw_L_R (by omega) (rw_L_R (by omega) (rw_L_sf h3 (rw_far hC h1 hp.N)))
  · rw [e]; exact si_L_R (by omega) (si_L_R (by omega) h4)
  · rw [e]
    exact si_L_R (by omega) (si_L_R (by omega) (si_L_sf h3 (fun z => by have := hC.iO i 7 (by omega) (by decide) z; omega) (fun z => by have := hC.iR i 7 (by omega) (by decide) z; omega) (fun z => by have := hC.iK i 7 (by omega) (by decide) z; omega) (fun z => by have := hC.iS i 7 (by omega) (by decide) z; omega) (si_L_ef h1 hl)))
def suc (G : pg_T) (T : Nat → al_T) (cs : sl_T) (d : Int) (gl T3 : Nat → al_T) : Prop := (bOk T cs d) ∧ (¬ bFull G T cs d) ∧ (WK G 8 (ks (T2f G T cs d gl)) (ks T3)) ∧ (vT G T3) ∧ (∀ v, G.lay v = 0 → T3 v = T2f G T cs d gl v) ∧ (∀ v, v < 8 → 1 ≤ G.lay v → ∀ p ∈ T3 v, p.2 = 1)
theorem suc.ok {G : pg_T} {T : Nat → al_T} {cs : sl_T} {d : Int} {gl T3 : Nat → al_T} (h' : suc G T cs d gl T3) : bOk T cs d := h'.1
theorem suc.nf {G : pg_T} {T : Nat → al_T} {cs : sl_T} {d : Int} {gl T3 : Nat → al_T} (h' : suc G T cs d gl T3) : ¬ bFull G T cs d := h'.2.1
theorem suc.w {G : pg_T} {T : Nat → al_T} {cs : sl_T} {d : Int} {gl T3 : Nat → al_T} (h' : suc G T cs d gl T3) : WK G 8 (ks (T2f G T cs d gl)) (ks T3) := h'.2.2.1
theorem suc.v {G : pg_T} {T : Nat → al_T} {cs : sl_T} {d : Int} {gl T3 : Nat → al_T} (h' : suc G T cs d gl T3) : vT G T3 := h'.2.2.2.1
theorem suc.lo {G : pg_T} {T : Nat → al_T} {cs : sl_T} {d : Int} {gl T3 : Nat → al_T} (h' : suc G T cs d gl T3) : ∀ v, G.lay v = 0 → T3 v = T2f G T cs d gl v := h'.2.2.2.2.1
theorem suc.o1 {G : pg_T} {T : Nat → al_T} {cs : sl_T} {d : Int} {gl T3 : Nat → al_T} (h' : suc G T cs d gl T3) : ∀ v, v < 8 → 1 ≤ G.lay v → ∀ p ∈ T3 v, p.2 = 1 := h'.2.2.2.2.2
theorem al_k_ps {l : al_T} (h : al_k l) : al_k (al_ps l) := fun p hp => h p (List.mem_filter.mp hp).1
theorem T2f_S {G : pg_T} {T gl : Nat → al_T} {cs : sl_T} {d : Int} (hT : vT G T) (hcs : ch_ok G cs) (hg : ∀ v, v < 8 → ¬ v < G.n → al_k (gl v)) : S_ok (ks (T2f G T cs d gl)) := S_ok_T (fun v => by
  unfold T2f
  split
  · split
    · exact fun p hp => absurd hp List.not_mem_nil
    · exact al_k_ps ((cT_s hT hcs).k v)
  · rename_i h
    split
    · rename_i h8
      exact hg v h8 h
    · exact fun p hp => absurd hp List.not_mem_nil)
theorem bT_S {G : pg_T} {T : Nat → al_T} {cs : sl_T} {d : Int} (hT : ∀ v, al_s (T v) ∧ al_k (T v)) (hcs : ch_ok G cs) : S_ok (ks (Tz G (bT G T cs d))) := S_ok_T (fun v => by
  unfold Tz bT
  split
  · exact fun p hp => absurd hp List.not_mem_nil
  · exact al_k_ps ((cT_all (fun v => (hT v).1) (fun v => (hT v).2) (fun c hc => (hcs.k c hc).1)).k v))
theorem RO_9 {V : vc_T} {a : ab_T} {σ : z_S} (hp : prg V a σ) {μ : mo_U} {T' : Nat → al_T} (hO : RO a μ T') : tb9 a.G T' ∧ ∀ v, ∀ p ∈ T' v, 0 < p.2 := by
  have hn8 := hp.ok.n8
  have h1 : tb9 a.G T' := fun v hv p hp' => by
    by_cases z : v < a.G.n
    · rw [hO.e v z] at hp'
      exact hp.gd.t v hv p hp'
    · rw [hO.p v z] at hp'
      exact absurd hp' List.not_mem_nil
  refine ⟨h1, fun v p hp' => ?_⟩
  cases hv : a.G.vw v with
  | false => have := h1 v hv p hp'; omega
  | true =>
    have z := vw_lt hp.ok hv
    rw [hO.e v z] at hp'
    rw [hp.gd.o v (by omega) ((hp.ok.lv v).mp hv) p hp']
    decide
/-- the reference answers the same: taken -/
theorem ref_taken {V : vc_T} {a : ab_T} {σ : z_S} (hp : prg V a σ) {μ μ1 : mo_U} {T' : Nat → al_T} (hO : RO a μ T') (hT1 : rT μ1 a.G T') {cs : sl_T} (hcs : ch_ok a.G cs) {d : Int} (hd : d = 1 ∨ d = -1) (hSS : mo_SS μ1 (ssum cs d)) {gl T3 : Nat → al_T} (hg : ∀ v, v < 8 → ¬ v < a.G.n → al_k (gl v)) (hs : suc a.G a.T cs d gl T3) (Q : Int32 → mo_U → Prop) (hQ : ∀ T4 μ2, rT μ2 a.G T4 → mo_fr ats afs μ1 μ2 → (∀ v, v < a.G.n → T4 v = T3 v) → (∀ v, ¬ v < a.G.n → T4 v = []) → mo_DL μ2 (dff a.G a.T T3 a.G.n) → Q 0 μ2) : mp_apply μ1 Q := by
  obtain ⟨h9, hpos⟩ := RO_9 hp hO
  have hok := hp.ok
  have heq : ∀ v, v < a.G.n → a.T v = T' v := fun v hv => (hO.e v hv).symm
  have hS := T2f_S (d := d) hp.gd.v hcs hg
  have hS' := bT_S (G := a.G) (T := T') (cs := cs) (d := d) (fun v => ⟨(rT_srt hT1 v).1, (rT_srt hT1 v).2.1⟩) hcs
  have hb := bOk_c hcs heq hs.ok
  refine ref_apply hok hT1 h9 hpos hcs hd hSS Q (fun z => absurd hb z) (fun _ z => ?_) (fun _ T4 μ2 hT4 hf hW hlo h1 hDL => ?_)
  · exfalso
    rcases z with z | z
    · exact hs.nf (bFull_c (fun v hv => (heq v hv).symm) z)
    · have z2 := WOv_res hok hp.ln hS' z
      have z1 := WK_res hok hp.ln hS hs.w
      rw [T2f_res heq] at z1
      exact WK_WOv z1 z2
  · obtain ⟨a1, a2⟩ := agree hok hp.ln hcs heq hO.p hS hS' hs.w hs.lo hs.o1 hW hlo h1
    refine hQ T4 μ2 hT4 hf a1 a2 ?_
    rw [dff_c a.G.n (fun v hv => ⟨heq v hv, (a1 v hv).symm⟩)]
    exact hDL
abbrev bts : List Nat := [40, 41, 42, 43, 44, 45, 47, 48, 49, 50, 51, 52, 53, 54, 55]
abbrev bfs : List Nat := [831, 834, 836, 840, 841, 842, 845, 847]
theorem RR_sw {a : ab_T} {μ μ' : mo_U} (hR : RR a μ) (hb : a.on = true) {T' : Nat → al_T} (hO : RO a μ T') (hf : mo_fr bts bfs μ μ') {T3 T4 : Nat → al_T} (hT4 : rT μ' a.G T4) (he : ∀ v, v < a.G.n → T4 v = T3 v) (hz : ∀ v, ¬ v < a.G.n → T4 v = []) {cs : sl_T} {hs : List sl_T} {dl : sl_T} (b : μ'.1 831 = nI cs.length ∧ fives (μ'.2 46) 0 cs) (h : μ'.1 834 = nI hs.length ∧ ∀ i, i < hs.length → μ'.2 48 i = nI (hs.getD i []).length ∧ fives (μ'.2 47) (300 * i) (hs.getD i [])) (d : mo_DL μ' dl) : RR (aS a T3 cs hs dl) μ' := by
  refine ⟨by rw [hf.2 801 (by decide)]; exact hR.n0, fun i hi => by rw [hf.1 23 (by decide)]; exact hR.tt i hi, by rw [hf.2 807 (by decide)]; exact hR.pl, ?_, ?_, ?_⟩
  · rw [hf.2 806 (by decide), hf.2 849 (by decide), hf.1 56 (by decide)]; exact hR.rg
  · obtain ⟨R, N, hW⟩ := hT4.w
    exact ⟨R, N, hW.1⟩
  · rw [if_pos hb]
    exact ⟨⟨T4, hT4, he, hz⟩, fun k hk => by rw [hf.1 34 (by decide), hf.1 35 (by decide)]; exact hO.n k hk, fun i hi k hk => by rw [hf.1 33 (by decide)]; exact hO.l i hi k hk, fun i j h1 h2 => by rw [hf.1 38 (by decide)]; exact hO.r i j h1 h2, b, h, d⟩
theorem rT_fr {μ μ' : mo_U} {G : pg_T} {T : Nat → al_T} {ts fs : List Nat} (h : rT μ G T) (hf : mo_fr ts fs μ μ') (hts : ∀ t ∈ [26, 27, 28, 29, 30, 31, 32, 36, 37, 40, 41, 42], t ∉ ts) (hfs : ∀ f ∈ [808, 817], f ∉ fs) : rT μ' G T := by
  obtain ⟨R, N, hW⟩ := h.w
  exact ⟨⟨R, N, mo_W_fr hW hf (hts 40 (by decide)) (hts 41 (by decide)) (hts 42 (by decide))⟩, h.t8, rf_L_fr h.g hf (fun t ht => hts t (by revert t; decide)) hfs⟩
theorem fr_mono {ts fs ts' fs' : List Nat} {μ μ' : mo_U} (h : mo_fr ts fs μ μ') (h1 : ∀ t ∈ ts, t ∈ ts') (h2 : ∀ f ∈ fs, f ∈ fs') : mo_fr ts' fs' μ μ' := ⟨fun t ht => h.1 t (fun z => ht (h1 t z)), fun f hf => h.2 f (fun z => hf (h2 f z))⟩
theorem fr_sI {ts fs : List Nat} {μ : mo_U} {f : Nat} (hf : f ∈ fs) (x : Int32) : mo_fr ts fs μ (mu_sI μ f x) := ⟨fun _ _ => rfl, fun g hg => by
  show (if g = f then x else μ.1 g) = μ.1 g
  rw [if_neg (fun z => hg (by rw [z]; exact hf))]⟩
theorem fr_sA {ts fs : List Nat} {μ : mo_U} {t : Nat} (ht : t ∈ ts) (x : Nat → Int32) : mo_fr ts fs μ (mu_sA μ t x) := ⟨fun g hg => by
  show (if g = t then x else μ.2 g) = μ.2 g
  rw [if_neg (fun z => hg (by rw [z]; exact ht))], fun _ _ => rfl⟩
theorem si_L_I {σ : z_S} {f b : Nat} {v : Int32} (hf : f = 603 → False) {a r k s n : Nat} {l : sl_T} (e : si_L σ a r k s n l) : si_L (z_sI σ f b v) a r k s n l := by
  obtain ⟨h1, g2, g3, g4⟩ := e
  exact ⟨h1, by rw [z_I_sI, if_neg (fun z => hf z.1.symm)]; exact g2, g3, g4⟩
theorem rw_L_7 {σ : z_S} {b : Nat} {v : Int32} {X : ex_T} {T : Nat → al_T} (e : rw_L X σ T) : rw_L X (z_sI σ 710 b v) T := rw_L_q ⟨fun _ => rfl, fun _ _ => rfl, fun _ _ => rfl, fun f a h1 h2 => by rw [z_I_sI, if_neg (fun z => by omega)], fun _ _ _ => rfl⟩ e
