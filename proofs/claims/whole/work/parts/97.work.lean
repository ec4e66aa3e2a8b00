/-! workViews: all views from nothing -/
def vT (G : pg_T) (T : Nat → al_T) : Prop := (∀ v, 8 ≤ v → T v = []) ∧ (∀ v, al_s (T v) ∧ al_k (T v)) ∧ (∀ v, v < 8 → ∀ p ∈ T v, kar (G.A v) p.1) ∧ (∀ v, v < 8 → (T v).length ≤ 40) ∧ (cpos T)
theorem vT.t8 {G : pg_T} {T : Nat → al_T} (h' : vT G T) : ∀ v, 8 ≤ v → T v = [] := h'.1
theorem vT.srt {G : pg_T} {T : Nat → al_T} (h' : vT G T) : ∀ v, al_s (T v) ∧ al_k (T v) := h'.2.1
theorem vT.kr {G : pg_T} {T : Nat → al_T} (h' : vT G T) : ∀ v, v < 8 → ∀ p ∈ T v, kar (G.A v) p.1 := h'.2.2.1
theorem vT.c40 {G : pg_T} {T : Nat → al_T} (h' : vT G T) : ∀ v, v < 8 → (T v).length ≤ 40 := h'.2.2.2.1
theorem vT.cp {G : pg_T} {T : Nat → al_T} (h' : vT G T) : cpos T := h'.2.2.2.2
theorem Iv0 {G : pg_T} {L : Nat} {T : Nat → al_T} (h : vT G T) (he : ∀ v, L ≤ G.lay v → T v = []) : IV (lyo G L T) ⟨T, [], false⟩ := by
  refine ⟨h.t8, h.srt, fun _ _ => rfl, h.kr, fun _ => h.c40, fun v hv => Nat.le_succ_of_le (h.c40 v hv), fun v hv hl p hp => ?_, fun S hS v k hk => ?_, fun _ => ⟨fun v k hv => ?_, Nat.zero_le _⟩, fun p hp => absurd hp List.not_mem_nil, fun z => by cases z⟩
  · change p ∈ T v at hp
    rw [he v (by have hl : G.lay v = L := hl; omega)] at hp
    exact absurd hp List.not_mem_nil
  · by_cases z : G.lay v < L
    · exact (hS.lo v z k).mpr hk
    · change k ∈ ks T v at hk
      unfold ks at hk
      rw [he v (by omega)] at hk
      exact absurd hk List.not_mem_nil
  · show k ∈ ks T v ↔ _
    unfold ks
    rw [he v (by have hv : G.lay v = L := hv; omega)]
    exact ⟨fun z => absurd z List.not_mem_nil, fun z => absurd z List.not_mem_nil⟩
theorem pr_isRel {σ : z_S} {D : pa_T} {G : pg_T} (hp : pr_L σ D G) (hn : G.n ≤ 8) (x : Int32) (P : Int32 → z_S → Prop) (h1 : ∀ v, v < G.n → x = nI v → P 1 σ) (h0 : (∀ v, v < G.n → x ≠ nI v) → P 0 σ) : kp_Pr_isRelation D.p x σ P := by
  refine ⟨fun q => h0 (fun v hv e => ?_), fun q => ⟨hp.ty, ?_⟩⟩
  · rw [e] at q; exact absurd q (nI_pos (by omega))
  · obtain ⟨j, hj, rfl⟩ := nI_of q
    rw [hp.nr]
    refine ⟨fun z => h0 (fun v hv e => ?_), fun z => ?_⟩
    · rw [nI_eq hj (by omega)] at e
      rw [nI_leI (by omega) hj] at z
      omega
    · refine h1 j ?_ rfl
      by_cases y : j < G.n
      · exact y
      · exact absurd (nI_le (by omega) hj) z
theorem pr_isView {σ : z_S} {D : pa_T} {G : pg_T} (hp : pr_L σ D G) (hn : G.n ≤ 8) {v : Nat} (hv : v < G.n) (P : Int32 → z_S → Prop) (h1 : P (if G.vw v then 1 else 0) σ) : kp_Pr_isView D.p (nI v) σ P := by
  refine ⟨hp.ty, pr_isRel hp hn _ _ (fun v' hv' e => ⟨fun q => absurd q (by decide), fun _ => ⟨hp.ty, vr_isIn _ _ _ _ ?_⟩⟩) (fun h => absurd rfl (h v hv))⟩
  rw [hp.vw v (by omega)]
  cases hb : G.vw v with
  | true => rw [hb] at h1; exact ⟨fun q => absurd q (by decide), fun _ => h1⟩
  | false => rw [hb] at h1; exact ⟨fun _ => h1, fun q => absurd rfl q⟩
/-- between layers -/
def eb (X : ex_T) (D : pa_T) (T : Nat → al_T) (σ0 σ : z_S) : Prop := (en_T X σ) ∧ (rw_L X σ T) ∧ (z_R σ 111 X.a = some X.w) ∧ (z_R σ 109 X.a = some D.p) ∧ (z_I σ 106 X.a = 0) ∧ (z_I σ 108 X.a = 0) ∧ (ef X σ0 σ)
theorem eb.en {X : ex_T} {D : pa_T} {T : Nat → al_T} {σ0 σ : z_S} (h' : eb X D T σ0 σ) : en_T X σ := h'.1
theorem eb.rw {X : ex_T} {D : pa_T} {T : Nat → al_T} {σ0 σ : z_S} (h' : eb X D T σ0 σ) : rw_L X σ T := h'.2.1
theorem eb.hw {X : ex_T} {D : pa_T} {T : Nat → al_T} {σ0 σ : z_S} (h' : eb X D T σ0 σ) : z_R σ 111 X.a = some X.w := h'.2.2.1
theorem eb.hp {X : ex_T} {D : pa_T} {T : Nat → al_T} {σ0 σ : z_S} (h' : eb X D T σ0 σ) : z_R σ 109 X.a = some D.p := h'.2.2.2.1
theorem eb.gl {X : ex_T} {D : pa_T} {T : Nat → al_T} {σ0 σ : z_S} (h' : eb X D T σ0 σ) : z_I σ 106 X.a = 0 := h'.2.2.2.2.1
theorem eb.f {X : ex_T} {D : pa_T} {T : Nat → al_T} {σ0 σ : z_S} (h' : eb X D T σ0 σ) : z_I σ 108 X.a = 0 := h'.2.2.2.2.2.1
theorem eb.fr {X : ex_T} {D : pa_T} {T : Nat → al_T} {σ0 σ : z_S} (h' : eb X D T σ0 σ) : ef X σ0 σ := h'.2.2.2.2.2.2
theorem en_work {X : ex_T} {D : pa_T} {G : pg_T} (hok : pg_ok G) {σ : z_S} (hE : en_T X σ) (hR : rw_T X σ) (hp : pr_L σ D G) {T : Nat → al_T} (hT : vT G T) (hvw : ∀ v, G.vw v = true → T v = []) (htab : ∀ v, v < 8 → G.vw v = false → ro_L σ (X.ra v) (X.ka v) (X.ca v) (T v)) (P : Int32 → z_S → Prop)
    (h1 : ∀ T' σ', eb X D T' σ σ' → vT G T' → WK G 8 (ks T) (ks T') → (∀ v, G.lay v = 0 → T' v = T v) → (∀ v, v < 8 → 1 ≤ G.lay v → ∀ p ∈ T' v, p.2 = 1) → P 1 σ')
    (h0 : ∀ T' σ', rw_L X σ' T' → ef X σ σ' → en_T X σ' → (∀ v, G.lay v = 0 → T' v = T v) → WOv G 8 (ks T) → P 0 σ') : kp_En_workViews X.a D.p X.w σ P := by
  intro X9 X49 X88 hX9 hX49 hX88
  have hn8 := hok.n8
  have hSok : S_ok (ks T) := S_ok_T (fun v => (hT.srt v).2)
  have harr : ∀ i, i < G.rs.length → arr (G.rs.getD i d_ru) (G.as i) := fun i hi => (hp.ru i hi).2.2.2
  -- the end is called
  have full : ∀ v σ', fS X D G v T σ σ' → True := fun _ _ _ => trivial
  have lfull : ∀ L σ' (g : gs_T), es X 0 g σ' → g.fl = true → ef X σ σ' → z_R σ' 109 X.a = some D.p → (∀ v, G.lay v = 0 → g.T v = T v) → WOv G 8 (ks T) → X49 L σ' := by
    intro L σ' g hg hf hef h109 hlo hov
    have hp' := pr_L_ef hp hef
    have h88 : X88 σ' := by
      refine hX88 _ ⟨hg.en.ty, fun _ => h0 g.T σ' hg.rw hef hg.en hlo hov, fun q => ?_⟩
      rw [hg.f, hf] at q
      exact absurd q (by decide)
    refine hX49 _ _ ⟨hg.en.ty, D.p, h109, hp'.ty, fun _ => h88, fun _ => ⟨hg.en.ty, fun _ => h88, fun q => ?_⟩⟩
    rw [hg.f, hf] at q
    exact absurd q (by decide)
  have layers : ∀ m L TL σ', L + m = G.top → eb X D TL σ σ' → vT G TL → (∀ v, L + 1 ≤ G.lay v → TL v = []) → WK G L (ks T) (ks TL) → (∀ v, G.lay v = 0 → TL v = T v) → (∀ v, v < 8 → 1 ≤ G.lay v → ∀ p ∈ TL v, p.2 = 1) → X49 (nI (L + 1)) σ' := by
    intro m
    induction m with
    | zero =>
      intro L TL σ' hL hS hV he hW h00 hone
      have hp' := pr_L_ef hp hS.fr
      have ht8 := hok.tp8
      refine hX49 _ _ ⟨hS.en.ty, D.p, hS.hp, hp'.ty, ?_⟩
      rw [hp'.tp]
      refine ⟨fun _ => hX88 _ ⟨hS.en.ty, fun q => absurd hS.f q, fun _ => h1 TL σ' hS hV ?_ h00 hone⟩, fun q => absurd (nI_lt (by omega) (by omega)) q⟩
      have hLt : L = G.top := by omega
      rw [hLt] at hW
      have := WK_top hok hSok hW (8 - G.top)
      rw [show G.top + (8 - G.top) = 8 by omega] at this
      exact this
    | succ m ih =>
      intro L TL σ' hL hS hV he hW h00 hone
      have hp' := pr_L_ef hp hS.fr
      have ht8 := hok.tp8
      refine hX49 _ _ ⟨hS.en.ty, D.p, hS.hp, hp'.ty, ?_⟩
      rw [hp'.tp]
      refine ⟨fun q => absurd q (nI_nlt (by omega) (by omega)), fun _ => ⟨hS.en.ty, fun q => absurd hS.f q, fun _ => ⟨hS.en.ty, fun σ69 e69 => ?_⟩⟩⟩
      have hef69 : ef X σ' σ69 := by rw [e69]; exact ef_sI (by omega) (by omega)
      have hrw69 : rw_L X σ69 TL := rw_L_I hS.rw hef69 (fun a => by rw [e69, z_I_sI, if_neg (fun z => absurd z.1 (by decide))]) (fun a => by rw [e69]; rfl) (fun a => by rw [e69]; rfl)
      have hE69 := en_T_ef hS.en hef69
      have hs69 : es X 0 ⟨TL, [], false⟩ σ69 := by
        refine ⟨hE69, hrw69, by rw [e69]; exact hS.hw, ?_, ?_, hV.cp, fun _ _ => ⟨?_, Nat.zero_le _, fun i hi => absurd hi (Nat.not_lt_zero i)⟩⟩
        · rw [e69, z_I_sI, if_neg (fun z => absurd z.1 (by decide))]; exact hS.gl
        · rw [e69, z_I_sI, if_neg (fun z => absurd z.1 (by decide))]; exact hS.f
        · rw [e69, z_I_sI, if_pos ⟨rfl, rfl⟩]; rfl
      have hI0 := Iv0 (L := L + 1) hV he
      have hl69 : lS X D G (L + 1) TL σ69 ⟨TL, [], false⟩ σ69 := ⟨hs69, ef_rf X σ69, by rw [e69]; exact hS.hp, hI0⟩
      have hp69 := pr_L_ef hp' hef69
      have hef0 : ef X σ σ69 := ef_tr hS.fr hef69
      have hsd0 : sdd G (L + 1) TL ⟨TL, [], false⟩ 0 := ⟨fun j h => absurd h (Nat.not_lt_zero j), fun j h => absurd h (Nat.not_lt_zero j), fun j h => absurd h (Nat.not_lt_zero j), fun j _ _ h3 _ => he _ (by omega)⟩
      have hfin : ∀ σ3, fS X D G (L + 1) TL σ69 σ3 → X49 (nI (L + 1) + 1) σ3 := fun σ3 hF => by
        obtain ⟨g, hg, hgf, hor, hlo⟩ := hF.s
        exact lfull _ σ3 g hg hgf (ef_tr hef0 hF.f) hF.p (fun v hv => (hlo v (by omega)).trans (h00 v hv)) ⟨L, ks TL, by omega, hW, lay_full hor hgf⟩
      have after : ∀ σ2, ((∃ g, lS X D G (L + 1) TL σ69 g σ2 ∧ g.fl = false ∧ sdd G (L + 1) TL g G.rs.length) ∨ fS X D G (L + 1) TL σ69 σ2) → kp_En_spread X.a (nI (L + 1)) σ2 (fun σ79 => X49 (nI (L + 1) + 1) σ79) := by
        intro σ2 hin
        refine en_spread hok (by omega) hp69 hin _ (fun g σ3 hl3 hfl hsd3 hpr3 => ?_) hfin
        have hLM := lay_done hok hl3.i hfl harr hsd3 hpr3
        have hI3 := hl3.i
        rw [nI_1]
        refine ih (L + 1) g.T σ3 (by omega) ⟨hl3.s.en, hl3.s.rw, hl3.s.hw, hl3.p, by rw [hl3.s.gl]; rfl, by rw [hl3.s.f, hfl]; rfl, ef_tr hef0 hl3.f⟩ ⟨hI3.t8, hI3.srt, hI3.kr, hI3.c40 hfl, hl3.s.cp⟩ (fun v hv => ?_) ⟨ks TL, hW, hLM⟩ (fun v hv => ?_) (fun v hv hl p hp' => ?_)
        · rw [hI3.lo v (show G.lay v ≠ L + 1 by omega)]; exact he v (by omega)
        · rw [hI3.lo v (show G.lay v ≠ L + 1 by omega)]; exact h00 v hv
        · by_cases z : G.lay v = L + 1
          · exact hI3.one v hv z p hp'
          · rw [hI3.lo v (show G.lay v ≠ L + 1 from z)] at hp'
            exact hone v hv hl p hp'
      refine ⟨hE69.ty, en_seed hok (by omega) (fun v => (hV.srt v).2) hp69 hl69 hsd0 _ (fun g σ2 hl2 hsd2 => ⟨hl2.s.en.ty, ?_⟩) (fun σ2 hF => ?_)⟩
      · cases hfl : g.fl with
        | false => exact after σ2 (Or.inl ⟨g, hl2, hfl, hsd2 hfl⟩)
        | true => exact after σ2 (Or.inr ⟨⟨g, hl2.s, hfl, Or.inl hl2.i, hl2.i.lo⟩, hl2.f, hl2.p⟩)
      · obtain ⟨g, hg, hgf, hlo⟩ := hF.s
        exact ⟨hg.en.ty, after σ2 (Or.inr ⟨⟨g, hg, hgf, Or.inr hF.o, hlo⟩, hF.f, hF.p⟩)⟩
  -- the views are emptied
  have empties : ∀ m i σ', i + m = G.n → ef X σ σ' → z_R σ' 111 X.a = some X.w → z_R σ' 109 X.a = some D.p → z_I σ' 106 X.a = 0 → z_I σ' 108 X.a = 0 → (∀ v, v < 8 → (v < i ∨ G.vw v = false) → ro_L σ' (X.ra v) (X.ka v) (X.ca v) (T v)) → X9 (nI i) σ' := by
    intro m
    induction m with
    | zero =>
      intro i σ' hi hef h111 h109 h106 h108 hro
      have hp' := pr_L_ef hp hef
      have hE' := en_T_ef hE hef
      refine hX9 _ _ ⟨hE'.ty, D.p, h109, hp'.ty, ?_⟩
      rw [hp'.nr]
      refine ⟨fun _ => ?_, fun q => absurd (nI_le (by omega) (by omega)) q⟩
      refine layers G.top 0 T σ' (by omega) ⟨hE', ⟨rw_T_ef hR hef, fun v hv => hro v hv ?_⟩, h111, h109, h106, h108, hef⟩ hT (fun v hv => hvw v ((hok.lv v).mpr hv)) rfl (fun _ _ => rfl) (fun v _ hl p hp => ?_)
      · cases hb : G.vw v with
        | false => exact Or.inr rfl
        | true =>
          obtain ⟨r, hr, e⟩ := (hok.vw v).mp hb
          have := (hok.ru r hr).2.2.1
          left; omega
      · rw [hvw v ((hok.lv v).mpr hl)] at hp
        exact absurd hp List.not_mem_nil
    | succ m ih =>
      intro i σ' hi hef h111 h109 h106 h108 hro
      have hp' := pr_L_ef hp hef
      have hE' := en_T_ef hE hef
      have hR' := rw_T_ef hR hef
      refine hX9 _ _ ⟨hE'.ty, D.p, h109, hp'.ty, ?_⟩
      rw [hp'.nr]
      refine ⟨fun q => absurd q (nI_ge (by omega) (by omega)), fun _ => ⟨hE'.ty, D.p, h109, hp'.ty, pr_isView hp' hn8 (by omega) _ ?_⟩⟩
      cases hb : G.vw i with
      | false =>
        refine ⟨fun _ => ?_, fun q => absurd rfl q⟩
        rw [nI_1]
        refine ih (i + 1) σ' (by omega) hef h111 h109 h106 h108 (fun v hv h => hro v hv ?_)
        by_cases z : v = i
        · rw [z]; exact Or.inr hb
        · exact h.imp (fun y => by omega) id
      | true =>
        refine ⟨fun q => absurd q (by decide), fun _ => ⟨hE'.ty, X.w, h111, 8, X.s, hR'.tw, vp_in_nI (by omega) (by decide), X.ra i, by rw [cl_nI (by omega)]; exact hR'.qw i (by omega), (hR'.ro i (by omega)).1, fun σ38 e38 => ?_⟩⟩
        have hro38 : ro_fr σ' σ38 (X.ra i) (X.ka i) (X.ca i) := ⟨z_A σ' 12 (X.ka i), z_A σ' 13 (X.ca i), 0, by rw [ro_w_id]; exact e38⟩
        have hef38 : ef X σ' σ38 := ef_ro (by omega) hro38
        rw [nI_1]
        refine ih (i + 1) σ38 (by omega) (ef_tr hef hef38) (by rw [e38]; exact h111) (by rw [e38]; exact h109) (by rw [e38, z_I_sI, if_neg (fun z => absurd z.1 (by decide))]; exact h106) (by rw [e38, z_I_sI, if_neg (fun z => absurd z.1 (by decide))]; exact h108) (fun v hv h => ?_)
        by_cases z : v = i
        · rw [z, hvw i hb]
          refine ⟨ro_T_ef (hR'.ro i (by omega)) hef38, ?_, by decide, List.Pairwise.nil, fun p hp => absurd hp List.not_mem_nil, fun j hj => absurd hj (by simp)⟩
          rw [e38, z_I_sI, if_pos ⟨rfl, rfl⟩]; rfl
        · obtain ⟨b1, b2, b3, b4, b5, b6⟩ := hro v hv (h.imp (fun y => by omega) id)
          rw [e38]
          exact ⟨b1, by rw [z_I_sI, if_neg (fun y => z (hR.ia v i hv (by omega) y.2))]; exact b2, b3, b4, b5, b6⟩
  -- begin
  refine ⟨hE.ty, hE.ty, fun σ2 e2 => ⟨by rw [e2]; exact hE.ty, fun σ7 e7 => ⟨by rw [e7, e2]; exact hE.ty, fun σ12 e12 => ⟨by rw [e12, e7, e2]; exact hE.ty, fun σ17 e17 => ⟨by rw [e17, e12, e7, e2]; exact hE.ty, Or.inl rfl, fun σ22 e22 => ?_⟩⟩⟩⟩⟩
  have hef22 : ef X σ σ22 := by
    rw [e22, e17, e12, e7, e2]
    exact ef_tr (ef_sR (by omega) (by omega)) (ef_tr (ef_sR (by omega) (by omega)) (ef_tr (ef_sI (by omega) (by omega)) (ef_tr (ef_sI (by omega) (by omega)) (ef_sI (by omega) (by omega)))))
  refine empties G.n 0 σ22 (by omega) hef22 ?_ ?_ ?_ ?_ (fun v hv h => ?_)
  · rw [e22, e17, e12, e7]
    simp only [z_R_sI]
    rw [z_R_sR, if_pos ⟨rfl, rfl⟩]
  · rw [e22, e17, e12, e7, e2]
    simp only [z_R_sI]
    rw [z_R_sR, if_neg (fun z => absurd z.1 (by decide)), z_R_sR, if_pos ⟨rfl, rfl⟩]
  · rw [e22, e17, e12, z_I_sI, if_neg (fun z => absurd z.1 (by decide)), z_I_sI, if_neg (fun z => absurd z.1 (by decide)), z_I_sI, if_pos ⟨rfl, rfl⟩]
  · rw [e22, z_I_sI, if_pos ⟨rfl, rfl⟩]
  · have hvb : G.vw v = false := h.resolve_left (Nat.not_lt_zero v)
    obtain ⟨b1, b2, b3, b4, b5, b6⟩ := htab v hv hvb
    refine ⟨ro_T_ef b1 hef22, ?_, b3, b4, b5, fun j hj => ?_⟩
    · rw [e22, z_I_sI, if_neg (fun z => absurd z.1 (by decide)), e17, z_I_sI, if_neg (fun z => absurd z.1 (by decide)), e12, z_I_sI, if_neg (fun z => absurd z.1 (by decide)), e7, e2]
      exact b2
    · rw [e22, e17, e12, e7, e2]
      exact b6 j hj
