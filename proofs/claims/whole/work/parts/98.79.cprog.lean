def aA (A : List Nat) : Nat → Nat := fun v => A.getD v 3
/-- rules that a program has taken -/
def rP (σ : z_S) (D : pa_T) (ra : Nat) (rs : List ru_T) (as : Nat → List lit_T) (A : List Nat) : Prop := (z_ty σ D.p = some (.inl 2)) ∧ (z_R σ 200 D.p = some D.pa) ∧ (z_ty σ D.pa = some (.inr (8, 16, 7))) ∧ (z_I σ 201 D.p = nI rs.length) ∧ (rs.length ≤ 16) ∧ (∀ i, i < rs.length → z_Q σ 7 D.pa i = some (D.ro i) ∧ bd_L σ (D.ro i) (as i) (aA A) (D.bb i) (D.bo i) ∧ hd_L σ (D.ro i) (rs.getD i d_ru).h (rs.getD i d_ru).ts (rs.getD i d_ru).c (aA A (rs.getD i d_ru).h) (D.hb i) ∧ arr (rs.getD i d_ru) (as i)) ∧ (∀ i, i < rs.length → lt_L σ (D.ro i) (vlt (rs.getD i d_ru).ls)) ∧ (∀ v, v < 8 → (bi (z_I σ 209 D.p) v = true ↔ ∃ r ∈ rs, r.h = v)) ∧ (∀ v, v < 8 → (bi (z_I σ 210 D.p) v = true ↔ ∃ r ∈ rs, r.h = v ∧ r.c = true)) ∧ (z_R σ 204 D.p = some D.la) ∧ (z_ty σ D.la = some (.inr (0, 8, 10))) ∧ (∀ v, z_A σ 10 D.la v = 0) ∧ (z_R σ 205 D.p = some ra) ∧ (z_ty σ ra = some (.inr (0, 8, 11))) ∧ (∀ v, z_A σ 11 ra v = 0) ∧ (z_I σ 207 D.p = 0) ∧ (z_I σ 208 D.p = 0)
theorem rP.ty {σ : z_S} {D : pa_T} {ra : Nat} {rs : List ru_T} {as : Nat → List lit_T} {A : List Nat} (h' : rP σ D ra rs as A) : z_ty σ D.p = some (.inl 2) := h'.1
theorem rP.rr {σ : z_S} {D : pa_T} {ra : Nat} {rs : List ru_T} {as : Nat → List lit_T} {A : List Nat} (h' : rP σ D ra rs as A) : z_R σ 200 D.p = some D.pa := h'.2.1
theorem rP.tr {σ : z_S} {D : pa_T} {ra : Nat} {rs : List ru_T} {as : Nat → List lit_T} {A : List Nat} (h' : rP σ D ra rs as A) : z_ty σ D.pa = some (.inr (8, 16, 7)) := h'.2.2.1
theorem rP.nn {σ : z_S} {D : pa_T} {ra : Nat} {rs : List ru_T} {as : Nat → List lit_T} {A : List Nat} (h' : rP σ D ra rs as A) : z_I σ 201 D.p = nI rs.length := h'.2.2.2.1
theorem rP.n16 {σ : z_S} {D : pa_T} {ra : Nat} {rs : List ru_T} {as : Nat → List lit_T} {A : List Nat} (h' : rP σ D ra rs as A) : rs.length ≤ 16 := h'.2.2.2.2.1
theorem rP.ru {σ : z_S} {D : pa_T} {ra : Nat} {rs : List ru_T} {as : Nat → List lit_T} {A : List Nat} (h' : rP σ D ra rs as A) : ∀ i, i < rs.length → z_Q σ 7 D.pa i = some (D.ro i) ∧ bd_L σ (D.ro i) (as i) (aA A) (D.bb i) (D.bo i) ∧ hd_L σ (D.ro i) (rs.getD i d_ru).h (rs.getD i d_ru).ts (rs.getD i d_ru).c (aA A (rs.getD i d_ru).h) (D.hb i) ∧ arr (rs.getD i d_ru) (as i) := h'.2.2.2.2.2.1
theorem rP.lt {σ : z_S} {D : pa_T} {ra : Nat} {rs : List ru_T} {as : Nat → List lit_T} {A : List Nat} (h' : rP σ D ra rs as A) : ∀ i, i < rs.length → lt_L σ (D.ro i) (vlt (rs.getD i d_ru).ls) := h'.2.2.2.2.2.2.1
theorem rP.vw {σ : z_S} {D : pa_T} {ra : Nat} {rs : List ru_T} {as : Nat → List lit_T} {A : List Nat} (h' : rP σ D ra rs as A) : ∀ v, v < 8 → (bi (z_I σ 209 D.p) v = true ↔ ∃ r ∈ rs, r.h = v) := h'.2.2.2.2.2.2.2.1
theorem rP.cv {σ : z_S} {D : pa_T} {ra : Nat} {rs : List ru_T} {as : Nat → List lit_T} {A : List Nat} (h' : rP σ D ra rs as A) : ∀ v, v < 8 → (bi (z_I σ 210 D.p) v = true ↔ ∃ r ∈ rs, r.h = v ∧ r.c = true) := h'.2.2.2.2.2.2.2.2.1
theorem rP.lr {σ : z_S} {D : pa_T} {ra : Nat} {rs : List ru_T} {as : Nat → List lit_T} {A : List Nat} (h' : rP σ D ra rs as A) : z_R σ 204 D.p = some D.la := h'.2.2.2.2.2.2.2.2.2.1
theorem rP.tl {σ : z_S} {D : pa_T} {ra : Nat} {rs : List ru_T} {as : Nat → List lit_T} {A : List Nat} (h' : rP σ D ra rs as A) : z_ty σ D.la = some (.inr (0, 8, 10)) := h'.2.2.2.2.2.2.2.2.2.2.1
theorem rP.vl {σ : z_S} {D : pa_T} {ra : Nat} {rs : List ru_T} {as : Nat → List lit_T} {A : List Nat} (h' : rP σ D ra rs as A) : ∀ v, z_A σ 10 D.la v = 0 := h'.2.2.2.2.2.2.2.2.2.2.2.1
theorem rP.er {σ : z_S} {D : pa_T} {ra : Nat} {rs : List ru_T} {as : Nat → List lit_T} {A : List Nat} (h' : rP σ D ra rs as A) : z_R σ 205 D.p = some ra := h'.2.2.2.2.2.2.2.2.2.2.2.2.1
theorem rP.te {σ : z_S} {D : pa_T} {ra : Nat} {rs : List ru_T} {as : Nat → List lit_T} {A : List Nat} (h' : rP σ D ra rs as A) : z_ty σ ra = some (.inr (0, 8, 11)) := h'.2.2.2.2.2.2.2.2.2.2.2.2.2.1
theorem rP.ve {σ : z_S} {D : pa_T} {ra : Nat} {rs : List ru_T} {as : Nat → List lit_T} {A : List Nat} (h' : rP σ D ra rs as A) : ∀ v, z_A σ 11 ra v = 0 := h'.2.2.2.2.2.2.2.2.2.2.2.2.2.2.1
theorem rP.i7 {σ : z_S} {D : pa_T} {ra : Nat} {rs : List ru_T} {as : Nat → List lit_T} {A : List Nat} (h' : rP σ D ra rs as A) : z_I σ 207 D.p = 0 := h'.2.2.2.2.2.2.2.2.2.2.2.2.2.2.2.1
theorem rP.i8 {σ : z_S} {D : pa_T} {ra : Nat} {rs : List ru_T} {as : Nat → List lit_T} {A : List Nat} (h' : rP σ D ra rs as A) : z_I σ 208 D.p = 0 := h'.2.2.2.2.2.2.2.2.2.2.2.2.2.2.2.2
def s0 (K : rd_T) (a : Nat) : Prop := a = K.R ∨ a = K.P ∨ a = K.na ∨ a = K.ta
theorem s0_no {t : tx_T} {K : rd_T} {p : Nat} {nm A : List Nat} {σ : z_S} (h : rW t K p nm A σ) {a : Nat} {k : Nat ⊕ (Nat × Nat × Nat)} (ha : z_ty σ a = some k) (h1 : k ≠ .inl 3) (h2 : k ≠ .inl 2) (h3 : k ≠ .inr (0, 8, 8)) (h4 : k ≠ .inr (0, 8, 9)) : ¬ s0 K a := by
  rintro (e | e | e | e)
  · rw [e, h.c.ty] at ha; exact h1 (Option.some.inj ha).symm
  · rw [e, h.s.n.ty] at ha; exact h2 (Option.some.inj ha).symm
  · rw [e, h.s.n.tn] at ha; exact h3 (Option.some.inj ha).symm
  · rw [e, h.s.tt] at ha; exact h4 (Option.some.inj ha).symm
theorem s0_A {t : tx_T} {K : rd_T} {p : Nat} {nm A : List Nat} {σ : z_S} (h : rW t K p nm A σ) : noA (s0 K) σ := by
  intro a ha
  rcases ha with e | e | e | e
  · rw [e, h.c.ty]; exact ⟨by decide, by decide⟩
  · rw [e, h.s.n.ty]; exact ⟨by decide, by decide⟩
  · rw [e, h.s.n.tn]; exact ⟨by decide, by decide⟩
  · rw [e, h.s.tt]; exact ⟨by decide, by decide⟩
theorem rP_lf {t : tx_T} {K : rd_T} {p : Nat} {nm A : List Nat} {σ σ' : z_S} (hW : rW t K p nm A σ) {D : pa_T} (hD : D.p = K.P) {ra : Nat} {rs : List ru_T} {as : Nat → List lit_T} {B : List Nat} (h : rP σ D ra rs as B) (f : lf (s0 K) K.P σ σ') : rP σ' D ra rs as B := by
  have nA := s0_A hW
  have hR : ∀ g a, z_ty σ a ≠ none → g ≠ 306 → z_R σ' g a = z_R σ g a := fun g a ha hg => f.R g a ha (fun z => hg z.1)
  have hp := nn_s h.ty
  have k := f.k
  rw [← hD] at k
  refine ⟨by rw [f.w.ty _ hp]; exact h.ty, by rw [hR _ _ hp (by decide)]; exact h.rr, by rw [f.w.ty _ (nn_s h.tr)]; exact h.tr, by rw [k.i1]; exact h.nn, h.n16, fun i hi => ?_, fun i hi => ?_, fun v hv => by rw [k.i9]; exact h.vw v hv, fun v hv => by rw [k.i10]; exact h.cv v hv, by rw [hR _ _ hp (by decide)]; exact h.lr, by rw [f.w.ty _ (nn_s h.tl)]; exact h.tl, fun v => by rw [f.w.A _ _ (nn_s h.tl) (s0_no hW h.tl (by decide) (by decide) (by decide) (by decide))]; exact h.vl v, by rw [hR _ _ hp (by decide)]; exact h.er, by rw [f.w.ty _ (nn_s h.te)]; exact h.te, fun v => by rw [f.w.A _ _ (nn_s h.te) (s0_no hW h.te (by decide) (by decide) (by decide) (by decide))]; exact h.ve v, by rw [k.i7]; exact h.i7, by rw [k.i8]; exact h.i8⟩
  · obtain ⟨h1, h2, h3, h4⟩ := h.ru i hi
    have nro := s0_no hW h2.ty (by decide) (by decide) (by decide) (by decide)
    have nbb := s0_no hW h2.tb (by decide) (by decide) (by decide) (by decide)
    exact ⟨by rw [f.w.Q _ _ (nn_s h.tr) (s0_no hW h.tr (by decide) (by decide) (by decide) (by decide))]; exact h1, bd_L_w h2 f.w nA nro nbb, hd_L_w h3 f.w nA nro, h4⟩
  · have nro := s0_no hW (h.lt i hi).ty (by decide) (by decide) (by decide) (by decide)
    exact lt_L_w (h.lt i hi) f.w nro
/-- more names -/
theorem bd_A {σ : z_S} {ro bb : Nat} {ls : List lit_T} {A B bo : Nat → Nat} (h : bd_L σ ro ls A bb bo) (e : ∀ l ∈ ls, l.1 = 0 → B l.2.1 = A l.2.1) : bd_L σ ro ls B bb bo := ⟨h.ty, h.rb, h.tb, h.l5, h.sz, fun i hi => by
  obtain ⟨h1, n, h2, h3, h4⟩ := h.bo i hi
  exact ⟨h1, n, h2, h3, fun z => by rw [h4 z]; exact (e _ (gd_mem hi) z).symm⟩⟩
theorem rP_ex {nm A nm' A' : List Nat} (hn : nmA nm A) (hn' : nmA nm' A') (he : exA nm A nm' A') {σ : z_S} {D : pa_T} {ra : Nat} {rs : List ru_T} {as : Nat → List lit_T} (h : rP σ D ra rs as A) (hK : ∀ r ∈ rs, RK nm.length A r) : rP σ D ra rs as A' := by
  refine ⟨h.ty, h.rr, h.tr, h.nn, h.n16, fun i hi => ?_, h.lt, h.vw, h.cv, h.lr, h.tl, h.vl, h.er, h.te, h.ve, h.i7, h.i8⟩
  obtain ⟨h1, h2, h3, h4⟩ := h.ru i hi
  have hr : rs.getD i d_ru ∈ rs := by rw [gd_eq _ _ hi]; exact List.getElem_mem hi
  have hk := hK _ hr
  have hh : aA A' (rs.getD i d_ru).h = aA A (rs.getD i d_ru).h := by
    have := he.l
    have := hk.h
    unfold aA
    rw [gd03 (by rw [hn'.al]; omega), gd03 (by rw [hn.al]; exact hk.h), he.a _ hk.h]
  refine ⟨h1, bd_A h2 (fun l hl h0 => ?_), by rw [hh]; exact h3, h4⟩
  exact exA_3 hn hn' he hk.ls l ((h4.ts l).mp hl) h0
/-- a count that may not stand -/
theorem cl_refuses {t : tx_T} {K : rd_T} {p : Nat} {nm A : List Nat} {σ : z_S} (hW : rW t K p nm A σ) (n8 : nm.length ≤ 8) {D : pa_T} (hD : D.p = K.P) {ra : Nat} {rs : List ru_T} {as : Nat → List lit_T} {B : List Nat} (hp : rP σ D ra rs as B) {ro h nh hb bb : Nat} {ts : tm_T} {c : Bool} {ls : List lit_T} {AA bo : Nat → Nat} (hH : hd_L σ ro h ts c nh hb) (hB : bd_L σ ro ls AA bb bo) (hh : h < nm.length) (P : Int32 → z_S → Prop) (h1 : lonely rs h c ls = true → P 1 σ) (h0 : lonely rs h c ls = false → P 0 σ) : kp_Pr_refusesCount K.P ro σ P := by
  intro X30 h30
  have hpt := hW.s.n.ty
  have h8 : h < 8 := by omega
  have l5 := hB.l5
  have hrel : z_I σ 3 hb = nI h := (hH.at'.rl (Nat.zero_le 1)).1
  have isR : ∀ Q : Int32 → z_S → Prop, Q 1 σ → kp_Pr_isRelation K.P (nI h) σ Q := fun Q hQ => ⟨fun z => absurd z (nI_pos (by omega)), fun _ => ⟨hpt, by
    rw [hW.s.n.nn]
    exact ⟨fun z => absurd z (nI_ge (by omega) (by omega)), fun _ => hQ⟩⟩⟩
  have vw := hp.vw h h8
  have cv := hp.cv h h8
  rw [hD] at vw cv
  have anyh : (rs.any (fun r => decide (r.h = h)) = true) ↔ ∃ r ∈ rs, r.h = h := by simp
  have anyc : (rs.any (fun r => decide (r.h = h) && r.c) = true) ↔ ∃ r ∈ rs, r.h = h ∧ r.c = true := by simp
  have x30 : (c && (decide (ls = []) || rs.any (fun r => decide (r.h = h)))) = false → X30 σ := fun hc => by
    refine h30 _ ⟨hH.ty, hb, hH.rh, hH.at'.ty, hpt, ?_⟩
    rw [hrel]
    refine ⟨hpt, isR _ ⟨fun z => absurd z (by decide), fun _ => ⟨hpt, vr_isIn _ h σ _ ?_⟩⟩⟩
    cases hb' : bi (z_I σ 210 K.P) h with
    | true =>
      refine ⟨fun z => absurd z (by decide), fun _ => ⟨Or.inr rfl, h1 ?_⟩⟩
      unfold lonely
      rw [anyc.mpr (cv.mp hb'), Bool.or_true]
    | false =>
      refine ⟨fun _ => ⟨Or.inl rfl, h0 ?_⟩, fun z => absurd rfl z⟩
      unfold lonely
      rw [hc, Bool.false_or]
      cases e : rs.any (fun r => decide (r.h = h) && r.c) with
      | false => rfl
      | true => rw [cv.mpr (anyc.mp e)] at hb'; cases hb'
  refine ⟨hH.ty, ?_⟩
  rw [hH.ct]
  cases c with
  | false => exact ⟨fun _ => x30 rfl, fun z => absurd rfl z⟩
  | true =>
    refine ⟨fun z => absurd z (by decide), fun _ => ⟨hH.ty, ?_⟩⟩
    rw [hB.sz]
    refine ⟨fun z => h1 ?_, fun z => ⟨hH.ty, hb, hH.rh, hH.at'.ty, hpt, ?_⟩⟩
    · have : ls.length = 0 := (nI_eq (b := 0) (by omega) (by decide)).mp z
      have : ls = [] := List.length_eq_zero_iff.mp this
      unfold lonely
      rw [this]
      rfl
    · have hne : ls ≠ [] := fun e => z (by rw [e]; rfl)
      rw [hrel]
      refine ⟨hpt, isR _ ⟨fun z => absurd z (by decide), fun _ => ⟨hpt, vr_isIn _ h σ _ ?_⟩⟩⟩
      cases hb' : bi (z_I σ 209 K.P) h with
      | true =>
        refine ⟨fun z => absurd z (by decide), fun _ => ⟨fun z => absurd z (by decide), fun _ => h1 ?_⟩⟩
        unfold lonely
        rw [anyh.mpr (vw.mp hb'), Bool.or_true, Bool.and_true, Bool.true_or]
      | false =>
        refine ⟨fun _ => ⟨fun _ => x30 ?_, fun z => absurd rfl z⟩, fun z => absurd rfl z⟩
        rw [decide_eq_false hne, Bool.false_or, Bool.true_and]
        cases e : rs.any (fun r => decide (r.h = h)) with
        | false => rfl
        | true => rw [vw.mpr (anyh.mp e)] at hb'; cases hb'
