theorem ofI_mul (x y : Int) : Int32.ofInt x * Int32.ofInt y = Int32.ofInt (x * y) := (Int32.ofInt_mul x y).symm
def ch_ok (G : pg_T) (cs : sl_T) : Prop := (∀ c ∈ cs, c.1 < G.n ∧ G.vw c.1 = false) ∧ (∀ c ∈ cs, kar (G.A c.1) c.2.1) ∧ (∀ c ∈ cs, c.2.2 = 1 ∨ c.2.2 = -1) ∧ (cs.length ≤ 60)
theorem ch_ok.t {G : pg_T} {cs : sl_T} (h' : ch_ok G cs) : ∀ c ∈ cs, c.1 < G.n ∧ G.vw c.1 = false := h'.1
theorem ch_ok.k {G : pg_T} {cs : sl_T} (h' : ch_ok G cs) : ∀ c ∈ cs, kar (G.A c.1) c.2.1 := h'.2.1
theorem ch_ok.s {G : pg_T} {cs : sl_T} (h' : ch_ok G cs) : ∀ c ∈ cs, c.2.2 = 1 ∨ c.2.2 = -1 := h'.2.2.1
theorem ch_ok.n {G : pg_T} {cs : sl_T} (h' : ch_ok G cs) : cs.length ≤ 60 := h'.2.2.2
/-- rows of the second set for views and beyond -/
def T2f (G : pg_T) (T : Nat → al_T) (cs : sl_T) (d : Int) (gl : Nat → al_T) : Nat → al_T := fun v => if v < G.n then (if G.vw v then [] else al_ps (cT T cs d v)) else if v < 8 then gl v else []
theorem cT_snoc (T : Nat → al_T) (cs : sl_T) (d : Int) {j : Nat} (hj : j < cs.length) : cT T (cs.take (j + 1)) d = cadd d (cT T (cs.take j) d) (cs.getD j (0, 0, 0)) := by
  unfold cT
  rw [List.take_succ_eq_append_getElem hj, List.foldl_append, gd_eq _ _ hj]
  rfl
theorem vr_settle {x : Nat} {N M : ex_T} {D : pa_T} {G : pg_T} (hok : pg_ok G) (hln : ∀ v, ¬ v < G.n → G.lay v = 0) {lt lr lk ls : Nat} {T : Nat → al_T} {σ0 : z_S} (hV : VS x N M D G lt lr lk ls T σ0) (hT : vT G T) (h9 : tb9 G T) {gl : Nat → al_T} (hgl : ∀ v, v < 8 → ¬ v < G.n → ro_L σ0 (M.ra v) (M.ka v) (M.ca v) (gl v) ∧ (gl v).length ≤ 40 ∧ ∀ p ∈ gl v, 0 < p.2 ∧ p.2 ≤ 100000) {b r k s : Nat} {cs : sl_T} (hb : si_L σ0 b r k s 60 cs) (hcs : ch_ok G cs) {d : Int} (hd : d = 1 ∨ d = -1) (P : Int32 → z_S → Prop)
    (hB : ¬ bOk T cs d → ∀ σ, ef M σ0 σ → (∀ v, v < 8 → ¬ v < G.n → ro_L σ (M.ra v) (M.ka v) (M.ca v) (gl v)) → P (-2) σ)
    (hF : bOk T cs d → (bFull G T cs d ∨ WOv G 8 (ks (T2f G T cs d gl))) → ∀ σ, ef M σ0 σ → (∀ v, v < 8 → ¬ v < G.n → ro_L σ (M.ra v) (M.ka v) (M.ca v) (gl v)) → P (-3) σ)
    (hO : bOk T cs d → ¬ bFull G T cs d → ∀ T3 σ1 σ2 σ3, WK G 8 (ks (T2f G T cs d gl)) (ks T3) → vT G T3 → (∀ v, G.lay v = 0 → T3 v = T2f G T cs d gl v) → (∀ v, v < 8 → 1 ≤ G.lay v → ∀ p ∈ T3 v, p.2 = 1) → ef M σ0 σ1 → rw_L M σ1 T3 → sf lt lr lk ls σ1 σ2 → si_L σ2 lt lr lk ls 640 (dff G T T3 G.n) → σ3 = z_sR (z_sR σ2 706 x (some M.w)) 707 x (some N.w) → P (nI (dff G T T3 G.n).length) σ3) : kp_Vr_settle x b (Int32.ofInt d) σ0 P := by
  intro X6 X54 X161 h6 h54 h161
  have hn8 := hok.n8
  have hsT : ∀ v, al_s (T v) := fun v => (hT.srt v).1
  have hkT : ∀ v, al_k (T v) := fun v => (hT.srt v).2
  have hc60 := hcs.n
  have hS0 : mrw M σ0 (fun v => if v < G.n then none else some (gl v)) := fun v hv l hl => by
    dsimp only at hl
    split at hl
    · cases hl
    · rename_i hn
      cases hl
      exact (hgl v hv hn).1
  refine ⟨hV.ty, vr_copyTables hok hV hS0 _ (fun σ1 hf1 hm1 => ?_)⟩
  -- sums
  have adds : ∀ m j σ, j + m = cs.length → ef M σ0 σ → mrw M σ (fun v => if v < G.n ∧ G.vw v = false then some (cT T (cs.take j) d v) else if v < G.n then none else some (gl v)) → X6 (nI j) σ := by
    intro m
    induction m with
    | zero =>
      intro j σ hj hf hm
      have hb' := si_L_ef hf hb
      refine h6 _ _ ⟨hb'.1.1, ?_⟩
      rw [hb'.2.1]
      refine ⟨fun _ => ?_, fun q => absurd (nI_le (by omega) (by omega)) q⟩
      have hjl : j = cs.length := by omega
      rw [hjl, List.take_length] at hm
      have hall := cT_all (d := d) hsT hkT (fun c hc => (hcs.k c hc).1)
      -- zeros go
      have drops : ∀ m i σ (tm : Bool), i + m = G.n → ef M σ0 σ → mrw M σ (fun v => if v < G.n ∧ G.vw v = false then (if v < i then some (al_ps (cT T cs d v)) else some (cT T cs d v)) else if v < G.n then none else some (gl v)) → (∀ v, v < i → v < G.n → G.vw v = false → ∀ p ∈ cT T cs d v, 0 ≤ p.2 ∧ p.2 ≤ 9) → (tm = true ↔ ∃ v, v < i ∧ v < G.n ∧ G.vw v = false ∧ 40 < (al_ps (cT T cs d v)).length) → X54 (if tm then 1 else 0) (nI i) σ := by
        intro m
        induction m with
        | zero =>
          intro i σ tm hi hf hm hok9 htm
          have hi' : i = G.n := by omega
          have hV' := VS_ef hV hf
          refine h54 _ _ _ ⟨hV'.ty, D.p, hV'.rp, hV'.pr.ty, ?_⟩
          rw [hV'.pr.nr]
          have hgood : bOk T cs d := fun c hc => by
            obtain ⟨c1, c2⟩ := hcs.t c hc
            exact (bOk_iff hall (h9 c.1 c2)).mp (hok9 c.1 (by omega) c1 c2) c hc rfl
          have hbT : ∀ v, G.vw v = false → bT G T cs d v = al_ps (cT T cs d v) := fun v hv => by unfold bT; rw [if_neg (by rw [hv]; decide)]
          have hgl' : ∀ v, v < 8 → ¬ v < G.n → ro_L σ (M.ra v) (M.ka v) (M.ca v) (gl v) := fun v hv hvn => hm v hv _ (by
            show (if v < G.n ∧ G.vw v = false then _ else if v < G.n then none else some (gl v)) = some (gl v)
            rw [if_neg (fun y => hvn y.1), if_neg hvn])
          refine ⟨fun _ => ⟨fun q => ?_, fun q => ?_⟩, fun q => absurd (nI_le (by omega) (by omega)) q⟩
          · cases htmb : tm with
            | false => rw [htmb] at q; exact absurd rfl q
            | true =>
              obtain ⟨v, _, h2, h3, h4⟩ := htm.mp htmb
              exact hF hgood (Or.inl ⟨v, h2, h3, by rw [hbT v h3]; exact h4⟩) σ hf hgl'
          · have htmb : tm = false := by
              cases hb : tm with
              | false => rfl
              | true => rw [hb] at q; exact absurd q (by decide)
            have hno : ¬ ∃ v, v < i ∧ v < G.n ∧ G.vw v = false ∧ 40 < (al_ps (cT T cs d v)).length := fun z => by rw [htm.mpr z] at htmb; cases htmb
            have hnf : ¬ bFull G T cs d := fun ⟨v, a1, a2, a3⟩ => hno ⟨v, by omega, a1, a2, by rw [← hbT v a2]; exact a3⟩
            have hvn : ∀ v, G.vw v = true → v < G.n := fun v hv => by
              obtain ⟨ru, hru, e⟩ := (hok.vw v).mp hv
              have := (hok.ru ru hru).2.2.1
              omega
            have hV2 : vT G (T2f G T cs d gl) := by
              have hcase : ∀ v (Q : al_T → Prop), Q [] → (v < G.n → G.vw v = false → Q (al_ps (cT T cs d v))) → (v < 8 → ¬ v < G.n → Q (gl v)) → Q (T2f G T cs d gl v) := fun v Q q1 q2 q3 => by
                unfold T2f
                split
                · rename_i h1
                  split
                  · exact q1
                  · rename_i h2
                    exact q2 h1 (by simpa using h2)
                · rename_i h1
                  split
                  · rename_i h2; exact q3 h2 h1
                  · exact q1
              refine ⟨fun v hv => ?_, fun v => ?_, fun v hv => ?_, fun v hv => ?_, fun v hv => ?_⟩
              · unfold T2f
                rw [if_neg (by omega), if_neg (by omega)]
              · refine hcase v (fun l => al_s l ∧ al_k l) ⟨List.Pairwise.nil, fun p hp => absurd hp List.not_mem_nil⟩ (fun _ _ => ⟨al_ps_s (hall.s v), al_ps_k (hall.k v)⟩) (fun a1 a2 => ?_)
                have := (hgl v a1 a2).1
                exact ⟨this.2.2.2.1, this.2.2.2.2.1⟩
              · refine hcase v (fun l => ∀ p ∈ l, kar (G.A v) p.1) (fun p hp => absurd hp List.not_mem_nil) (fun a1 a2 p hp => ?_) (fun a1 a2 p hp => ?_)
                · have hp' := (List.mem_filter.mp hp).1
                  rcases (hall.i v p.1).mp ⟨p, hp', rfl⟩ with ⟨q, hq, e⟩ | ⟨c, hc, e1, e2⟩
                  · rw [← e]; exact hT.kr v hv q hq
                  · rw [← e2, ← e1]; exact hcs.k c hc
                · rw [hok.a3 v a2]
                  exact ⟨(hgl v a1 a2).1.2.2.2.2.1 p hp, fun i h1 h2 => by omega⟩
              · refine hcase v (fun l => l.length ≤ 40) (Nat.zero_le _) (fun a1 a2 => ?_) (fun a1 a2 => (hgl v a1 a2).2.1)
                by_cases z : (al_ps (cT T cs d v)).length ≤ 40
                · exact z
                · exact absurd ⟨v, by omega, a1, a2, by omega⟩ hno
              · refine hcase v (fun l => ∀ p ∈ l, 0 < p.2 ∧ p.2 ≤ 100000) (fun p hp => absurd hp List.not_mem_nil) (fun a1 a2 p hp => ⟨al_ps_pos _ p hp, ?_⟩) (fun a1 a2 => (hgl v a1 a2).2.2)
                have := hok9 v (by omega) a1 a2 p (List.mem_filter.mp hp).1
                omega
            refine ⟨hV'.ty, M.a, hV'.re, hV'.ty, D.p, hV'.rp, hV'.ty, M.w, hV'.rm, hV'.en.ty, ?_⟩
            refine en_work hok hV'.en hV'.Mt hV'.pr hV2 (fun v hv => ?_) (fun v hv hvw => ?_) _ (fun T3 σ3 hb3 hv3 hW3 hl3 ho3 => ⟨fun _ => ?_, fun q => absurd q (by decide)⟩) (fun T' σ3 hrw3 hf3 hE3 hlo3 hov3 => ⟨fun q => absurd rfl q, fun _ => ?_⟩)
            · unfold T2f
              rw [if_pos (hvn v hv), if_pos hv]
            · refine hm v hv _ ?_
              show (if v < G.n ∧ G.vw v = false then (if v < i then some (al_ps (cT T cs d v)) else some (cT T cs d v)) else if v < G.n then none else some (gl v)) = some (T2f G T cs d gl v)
              unfold T2f
              by_cases z : v < G.n
              · rw [if_pos ⟨z, hvw⟩, if_pos (by omega), if_pos z, if_neg (by rw [hvw]; decide)]
              · rw [if_neg (fun y => z y.1), if_neg z, if_neg z, if_pos hv]
            · -- differences
              have hV3 := VS_ef hV' hb3.fr
              refine ⟨hV3.ty, lt, hV3.rl, hV3.la.1, fun σ155 e155 => ?_⟩
              have hsf0 : sf lt lr lk ls σ3 σ155 := by
                rw [e155]
                exact ⟨fun _ => rfl, fun _ _ => rfl, fun _ _ => rfl, fun f b h1 => by rw [z_I_sI, if_neg (fun z => h1 z.1 z.2)], fun _ _ _ _ _ => rfl⟩
              have hla0 : si_L σ155 lt lr lk ls 640 [] := by
                rw [e155]
                exact ⟨hV3.la, by rw [z_I_sI, if_pos ⟨rfl, rfl⟩]; rfl, Nat.zero_le _, fun i hi => absurd hi (Nat.not_lt_zero i)⟩
              have hT40 : ∀ v, (T v).length ≤ 40 := fun v => by
                by_cases z : v < 8
                · exact hT.c40 v z
                · rw [hT.t8 v (by omega)]; exact Nat.zero_le _
              have hT340 : ∀ v, (T3 v).length ≤ 40 := fun v => by
                by_cases z : v < 8
                · exact hv3.c40 v z
                · rw [hv3.t8 v (by omega)]; exact Nat.zero_le _
              have notes : ∀ m i σ', i + m = G.n → sf lt lr lk ls σ3 σ' → si_L σ' lt lr lk ls 640 (dff G T T3 i) → X161 (nI i) σ' := by
                intro m
                induction m with
                | zero =>
                  intro i σ' hi hs' hla'
                  have hi' : i = G.n := by omega
                  have hxt : z_ty σ' x = some (.inl 7) := by rw [hs'.ty]; exact hV3.ty
                  have hrp : z_R σ' 705 x = some D.p := by rw [hs'.R]; exact hV3.rp
                  have hpt : z_ty σ' D.p = some (.inl 2) := by rw [hs'.ty]; exact hV3.pr.ty
                  have hnr : z_I σ' 206 D.p = nI G.n := by rw [hs'.I 206 _ (fun z => by omega)]; exact hV3.pr.nr
                  refine h161 _ _ ⟨hxt, D.p, hrp, hpt, ?_⟩
                  rw [hnr]
                  refine ⟨fun _ => ⟨hxt, hxt, N.w, by rw [hs'.R]; exact hV3.rn, hxt, M.w, by rw [hs'.R]; exact hV3.rm, hxt, fun σ10 e10 => ⟨by rw [e10]; exact hxt, fun σ15 e15 => ⟨by rw [e15, e10]; exact hxt, lt, ?_, by rw [e15, e10]; exact hla'.1.1, ?_⟩⟩⟩, fun q => absurd (nI_le (by omega) (by omega)) q⟩
                  · rw [e15, z_R_sR, if_neg (fun z => absurd z.1 (by decide)), e10, z_R_sR, if_neg (fun z => absurd z.1 (by decide)), hs'.R]
                    exact hV3.rl
                  · have e603 : z_I σ15 603 lt = nI (dff G T T3 G.n).length := by
                      rw [e15, e10, ← hi']; exact hla'.2.1
                    rw [e603]
                    refine hO hgood hnf T3 σ3 σ' σ15 hW3 hv3 hl3 ho3 (ef_tr hf hb3.fr) hb3.rw hs' (by rw [← hi']; exact hla') ?_
                    rw [e15, e10]
                | succ m ih =>
                  intro i σ' hi hs' hla'
                  have hi8 : i < 8 := by omega
                  have hxt : z_ty σ' x = some (.inl 7) := by rw [hs'.ty]; exact hV3.ty
                  have hrp : z_R σ' 705 x = some D.p := by rw [hs'.R]; exact hV3.rp
                  have hpt : z_ty σ' D.p = some (.inl 2) := by rw [hs'.ty]; exact hV3.pr.ty
                  have hnr : z_I σ' 206 D.p = nI G.n := by rw [hs'.I 206 _ (fun z => by omega)]; exact hV3.pr.nr
                  have hvw9 : bi (z_I σ' 209 D.p) i = G.vw i := by rw [hs'.I 209 _ (fun z => by omega)]; exact hV3.pr.vw i hi8
                  refine h161 _ _ ⟨hxt, D.p, hrp, hpt, ?_⟩
                  rw [hnr]
                  refine ⟨fun q => absurd q (nI_ge (by omega) (by omega)), fun _ => ⟨hxt, D.p, hrp, hpt, hpt, ⟨fun q => absurd q (nI_pos (by omega)), fun _ => ⟨hpt, ?_⟩⟩⟩⟩
                  rw [hnr]
                  refine ⟨fun q => absurd q (nI_ge (by omega) (by omega)), fun _ => ⟨fun q => absurd q (by decide), fun _ => ⟨hpt, vr_isIn _ _ _ _ ?_⟩⟩⟩
                  rw [hvw9]
                  have hds : dff G T T3 (i + 1) = dff G T T3 i ++ if G.vw i then df1 T T3 i else [] := rfl
                  cases hbv : G.vw i with
                  | false =>
                    refine ⟨fun _ => ⟨fun _ => ?_, fun q => absurd rfl q⟩, fun q => absurd rfl q⟩
                    rw [nI_1]
                    refine ih (i + 1) σ' (by omega) hs' ?_
                    rw [hds, hbv]
                    simpa using hla'
                  | true =>
                    refine ⟨fun q => absurd q (by decide), fun _ => ⟨fun q => absurd q (by decide), fun _ => ⟨hxt, N.w, by rw [hs'.R]; exact hV3.rn, 8, N.s, by rw [hs'.ty]; exact hV3.N.1.tw, vp_in_nI hi8 (by decide), N.ra i, by rw [cl_nI (by omega), hs'.Q]; exact hV3.N.1.qw i hi8, hxt, M.w, by rw [hs'.R]; exact hV3.rm, 8, M.s, by rw [hs'.ty]; exact hV3.Mt.tw, vp_in_nI hi8 (by decide), M.ra i, by rw [cl_nI (by omega), hs'.Q]; exact hV3.Mt.qw i hi8, hxt, ?_⟩⟩⟩
                    have hl8 := dff_len (G := G) hT40 hT340 i
                    have hTi := hT40 i
                    have hT3i := hT340 i
                    refine vr_note hxt (by rw [hs'.R]; exact hV3.rl) (ro_L_sf hs' (hV3.N.2 i hi8)) (ro_L_sf hs' (hb3.rw.2 i hi8)) hTi hT3i hla' (by omega) hi8 _ (fun σ'' hs'' hla'' => ?_)
                    rw [nI_1]
                    refine ih (i + 1) σ'' (by omega) (sf_tr hs' hs'') ?_
                    rw [hds, hbv, if_pos rfl]
                    exact hla''
              exact notes G.n 0 σ155 (by omega) hsf0 hla0
            · refine hF hgood (Or.inr hov3) σ3 (ef_tr hf hf3) (fun v hv hvn' => ?_)
              have e := hlo3 v (hln v hvn')
              have := hrw3.2 v hv
              rw [e] at this
              unfold T2f at this
              rw [if_neg hvn', if_pos hv] at this
              exact this
        | succ m ih =>
          intro i σ tm hi hf hm hok9 htm
          have hi8 : i < 8 := by omega
          have hin : i < G.n := by omega
          have hV' := VS_ef hV hf
          refine h54 _ _ _ ⟨hV'.ty, D.p, hV'.rp, hV'.pr.ty, ?_⟩
          rw [hV'.pr.nr]
          refine ⟨fun q => absurd q (nI_ge (by omega) (by omega)), fun _ => ⟨hV'.ty, D.p, hV'.rp, hV'.pr.ty, pr_isView hV'.pr hn8 hin _ ?_⟩⟩
          cases hbv : G.vw i with
          | true =>
            refine ⟨fun _ => ?_, fun q => absurd q (by decide)⟩
            rw [nI_1]
            refine ih (i + 1) σ tm (by omega) hf (fun v hv l hl => hm v hv l ?_) (fun v a1 a2 a3 => hok9 v (by have : v ≠ i := fun z => (by rw [z, hbv] at a3; cases a3); omega) a2 a3) ?_
            · have hl : (if v < G.n ∧ G.vw v = false then (if v < i + 1 then some (al_ps (cT T cs d v)) else some (cT T cs d v)) else if v < G.n then none else some (gl v)) = some l := hl
              show (if v < G.n ∧ G.vw v = false then (if v < i then some (al_ps (cT T cs d v)) else some (cT T cs d v)) else if v < G.n then none else some (gl v)) = some l
              rw [← hl]
              by_cases z : v < G.n ∧ G.vw v = false
              · rw [if_pos z, if_pos z]
                have : v ≠ i := fun y => by rw [y, hbv] at z; cases z.2
                by_cases w : v < i
                · rw [if_pos w, if_pos (by omega)]
                · rw [if_neg w, if_neg (by omega)]
              · rw [if_neg z, if_neg z]
            · rw [htm]
              exact ⟨fun ⟨v, a1, a2⟩ => ⟨v, by omega, a2⟩, fun ⟨v, a1, a2, a3, a4⟩ => ⟨v, by have : v ≠ i := fun z => (by rw [z, hbv] at a3; cases a3); omega, a2, a3, a4⟩⟩
          | false =>
            have hro : ro_L σ (M.ra i) (M.ka i) (M.ca i) (cT T cs d i) := hm i hi8 _ (by
              show (if i < G.n ∧ G.vw i = false then (if i < i then some (al_ps (cT T cs d i)) else some (cT T cs d i)) else _) = some (cT T cs d i)
              rw [if_pos ⟨hin, hbv⟩, if_neg (Nat.lt_irrefl i)])
            refine ⟨fun q => absurd rfl q, fun _ => ⟨hV'.ty, M.w, hV'.rm, 8, M.s, hV'.Mt.tw, vp_in_nI hi8 (by decide), M.ra i, by rw [cl_nI (by omega)]; exact hV'.Mt.qw i hi8, hro.1.1, ?_⟩⟩
            have hbd : ∀ p ∈ cT T cs d i, -2147483648 ≤ p.2 ∧ p.2 < 2147483648 := fun p hp => by
              have h1 := al_get_mem (hall.s i) hp
              rw [hall.g] at h1
              have h2 := csum_bd hd hcs.s i p.1
              have h3 := al_get_bd (l := T i) (key := p.1) (M := 9) (by decide) (fun p hp => ⟨by have := h9 i hbv p hp; omega, (h9 i hbv p hp).2⟩)
              omega
            refine ro_dropZeros hro hbd _ (fun hbad σ85 hfr => ⟨fun q => absurd rfl q, fun _ => ?_⟩) (fun hgood σ85 hl85 hfr => ⟨fun _ => ?_, fun q => absurd q (by decide)⟩)
            · refine hB (fun hbo => ?_) σ85 (ef_tr hf (ef_ro hi8 hfr)) (fun v hv hvn => ro_L_oth hV'.Mt hi8 hv (fun z => hvn (by rw [z]; exact hin)) hfr (hm v hv _ (by
                show (if v < G.n ∧ G.vw v = false then _ else if v < G.n then none else some (gl v)) = some (gl v)
                rw [if_neg (fun y => hvn y.1), if_neg hvn])))
              obtain ⟨p, hp, hpb⟩ := hbad
              have := (bOk_iff hall (h9 i hbv)).mpr (fun c hc e => by have := hbo c hc; rw [e] at this; exact this) p hp
              omega
            · have hef85 := ef_tr hf (ef_ro hi8 hfr)
              have hV85 := VS_ef hV hef85
              have hm85 : mrw M σ85 (fun v => if v < G.n ∧ G.vw v = false then (if v < i + 1 then some (al_ps (cT T cs d v)) else some (cT T cs d v)) else if v < G.n then none else some (gl v)) := fun v hv l hl => by
                refine mrw_set hV'.Mt hm hi8 hfr hl85 v hv l ?_
                have hl : (if v < G.n ∧ G.vw v = false then (if v < i + 1 then some (al_ps (cT T cs d v)) else some (cT T cs d v)) else if v < G.n then none else some (gl v)) = some l := hl
                show (if v = i then some (al_ps (cT T cs d i)) else if v < G.n ∧ G.vw v = false then (if v < i then some (al_ps (cT T cs d v)) else some (cT T cs d v)) else if v < G.n then none else some (gl v)) = some l
                rw [← hl]
                by_cases z : v = i
                · rw [if_pos z, z, if_pos ⟨hin, hbv⟩, if_pos (by omega)]
                · rw [if_neg z]
                  by_cases w : v < G.n ∧ G.vw v = false
                  · rw [if_pos w, if_pos w]
                    by_cases y : v < i
                    · rw [if_pos y, if_pos (by omega)]
                    · rw [if_neg y, if_neg (by omega)]
                  · rw [if_neg w, if_neg w]
              have hok9' : ∀ v, v < i + 1 → v < G.n → G.vw v = false → ∀ p ∈ cT T cs d v, 0 ≤ p.2 ∧ p.2 ≤ 9 := fun v a1 a2 a3 => by
                by_cases z : v = i
                · rw [z]; exact hgood
                · exact hok9 v (by omega) a2 a3
              rw [nI_1]
              have hex : (∃ v, v < i + 1 ∧ v < G.n ∧ G.vw v = false ∧ 40 < (al_ps (cT T cs d v)).length) ↔ (tm = true ∨ 40 < (al_ps (cT T cs d i)).length) := by
                rw [htm]
                constructor
                · rintro ⟨v, a1, a2, a3, a4⟩
                  by_cases z : v = i
                  · rw [z] at a4; exact Or.inr a4
                  · exact Or.inl ⟨v, by omega, a2, a3, a4⟩
                · rintro (⟨v, a1, a2⟩ | z)
                  · exact ⟨v, by omega, a2⟩
                  · exact ⟨i, by omega, hin, hbv, z⟩
              cases htmb : tm with
              | true =>
                refine ⟨fun _ => ih (i + 1) σ85 true (by omega) hef85 hm85 hok9' ?_, fun q => absurd q (by decide)⟩
                rw [hex, htmb]
                exact ⟨fun _ => Or.inl rfl, fun _ => rfl⟩
              | false =>
                refine ⟨fun q => absurd rfl q, fun _ => ⟨hV85.ty, M.w, hV85.rm, 8, M.s, hV85.Mt.tw, vp_in_nI hi8 (by decide), M.ra i, by rw [cl_nI (by omega)]; exact hV85.Mt.qw i hi8, hl85.1.1, ?_⟩⟩
                have hlen := hl85.2.2.1
                rw [hl85.2.1, show (40 : Int32) = nI 40 from rfl, nI_leI (by omega) (by decide)]
                refine ⟨fun z => ih (i + 1) σ85 false (by omega) hef85 hm85 hok9' ?_, fun z => ih (i + 1) σ85 true (by omega) hef85 hm85 hok9' ?_⟩
                · rw [hex, htmb]
                  exact ⟨fun y => (by cases y), fun y => y.elim id (fun w => absurd w (by omega))⟩
                · rw [hex]
                  exact ⟨fun _ => Or.inr (by omega), fun _ => rfl⟩
      have := drops G.n 0 σ false (by omega) hf (fun v hv l hl => hm v hv l (by
        have hl : (if v < G.n ∧ G.vw v = false then (if v < 0 then some (al_ps (cT T cs d v)) else some (cT T cs d v)) else if v < G.n then none else some (gl v)) = some l := hl
        rw [if_neg (Nat.not_lt_zero v)] at hl
        exact hl)) (fun v hv => absurd hv (Nat.not_lt_zero v)) ⟨fun z => (by cases z), fun ⟨v, hv, _⟩ => absurd hv (Nat.not_lt_zero v)⟩
      exact this
    | succ m ih =>
      intro j σ hj hf hm
      have hjl : j < cs.length := by omega
      have hb' := si_L_ef hf hb
      have hV' := VS_ef hV hf
      obtain ⟨e1, e2, e3⟩ := hb'.2.2.2 j hjl
      have hmem : cs.getD j (0, 0, 0) ∈ cs := by rw [gd_eq _ _ hjl]; exact List.getElem_mem hjl
      obtain ⟨c1, c2⟩ := hcs.t _ hmem
      have ck := hcs.k _ hmem
      have c8 : (cs.getD j (0, 0, 0)).1 < 8 := by omega
      have hcj := cT_all (d := d) (cs := cs.take j) hsT hkT (fun c hc => (hcs.k c (List.mem_of_mem_take hc)).1)
      have hro : ro_L σ (M.ra (cs.getD j (0, 0, 0)).1) (M.ka (cs.getD j (0, 0, 0)).1) (M.ca (cs.getD j (0, 0, 0)).1) (cT T (cs.take j) d (cs.getD j (0, 0, 0)).1) := hm _ c8 _ (by
        show (if _ ∧ _ then some (cT T (cs.take j) d (cs.getD j (0, 0, 0)).1) else _) = _
        rw [if_pos ⟨c1, c2⟩])
      refine h6 _ _ ⟨hb'.1.1, ?_⟩
      rw [hb'.2.1]
      refine ⟨fun q => absurd q (nI_ge (by omega) (by omega)), fun _ => ⟨hV'.ty, M.w, hV'.rm, hb'.1.1, r, hb'.1.2.1, 60, 15, hb'.1.2.2.2.2.1, vp_in_nI (by omega) (by decide), 8, M.s, hV'.Mt.tw, ?_⟩⟩
      rw [cl_nI (n := j) (by omega), e1]
      refine ⟨vp_in_nI c8 (by decide), M.ra (cs.getD j (0, 0, 0)).1, by rw [cl_nI (by omega)]; exact hV'.Mt.qw _ c8, hb'.1.1, k, hb'.1.2.2.1, 60, 16, hb'.1.2.2.2.2.2.1, vp_in_nI (by omega) (by decide), hb'.1.1, s, hb'.1.2.2.2.1, 60, 17, hb'.1.2.2.2.2.2.2, vp_in_nI (by omega) (by decide), hro.1.1, ?_⟩
      rw [e2, e3, ofI_mul]
      have hlen : (cT T (cs.take j) d (cs.getD j (0, 0, 0)).1).length < 100 := by
        have := hcj.l (cs.getD j (0, 0, 0)).1
        rw [List.length_take] at this
        have := hT.c40 _ c8
        omega
      refine ro_add hro ck.1 _ (Or.inr hlen) _ (fun σ39 hl39 hfr => ?_)
      rw [nI_1]
      refine ih (j + 1) σ39 (by omega) (ef_tr hf (ef_ro c8 hfr)) (fun v hv l hl => mrw_set hV'.Mt hm c8 hfr hl39 v hv l ?_)
      have hl : (if v < G.n ∧ G.vw v = false then some (cT T (cs.take (j + 1)) d v) else if v < G.n then none else some (gl v)) = some l := hl
      show (if v = (cs.getD j (0, 0, 0)).1 then some (al_add (cT T (cs.take j) d (cs.getD j (0, 0, 0)).1) (cs.getD j (0, 0, 0)).2.1 (d * (cs.getD j (0, 0, 0)).2.2)) else if v < G.n ∧ G.vw v = false then some (cT T (cs.take j) d v) else if v < G.n then none else some (gl v)) = some l
      rw [← hl, cT_snoc T cs d hjl]
      unfold cadd tset
      by_cases z : v = (cs.getD j (0, 0, 0)).1
      · rw [if_pos z, if_pos ⟨by omega, by rw [z]; exact c2⟩, if_pos z]
      · rw [if_neg z, if_neg z]
  exact adds cs.length 0 σ1 (by omega) hf1 hm1
