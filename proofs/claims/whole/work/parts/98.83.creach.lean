theorem at_L_nf {fs ts : List (Nat × Nat)} {σ σ' : z_S} {b n : Nat} {l : lit_T} (h : at_L σ b l n) (f : nf fs ts σ σ') (hf : ∀ x ∈ fs, 10 ≤ x.1) (ht : ∀ x ∈ ts, 2 ≤ x.1) : at_L σ' b l n := by
  obtain ⟨t, h1, h2, h3⟩ := h.tm
  have e : ∀ g, g < 10 → (g, b) ∉ fs := fun g hg z => by have := hf _ z; dsimp only at this; omega
  have e1 : (1, t) ∉ ts := fun z => by have := ht _ z; dsimp only at this; omega
  exact ⟨by rw [f.ty]; exact h.ty, h.n1, h.n3, by rw [f.I 1 b (e 1 (by omega))]; exact h.sz, ⟨t, by rw [f.R]; exact h1, by rw [f.ty]; exact h2, fun i hi => by rw [f.A _ _ e1]; exact h3 i hi⟩, h.rs, by rw [f.I 2 b (e 2 (by omega))]; exact h.kd, h.k2, fun q => by rw [f.I 3 b (e 3 (by omega))]; exact h.rl q, fun q => by rw [f.I 4 b (e 4 (by omega))]; exact h.op q, fun k hk => by rw [f.I 5 b (e 5 (by omega))]; exact h.lt k hk, h.to⟩
theorem bd_nf {fs ts : List (Nat × Nat)} {σ σ' : z_S} {ro bb : Nat} {ls : List lit_T} {A bo : Nat → Nat} (h : bd_L σ ro ls A bb bo) (f : nf fs ts σ σ') (hf : ∀ x ∈ fs, 10 ≤ x.1) (ht : ∀ x ∈ ts, 2 ≤ x.1) (h1 : (502, ro) ∉ fs) : bd_L σ' ro ls A bb bo := ⟨by rw [f.ty]; exact h.ty, by rw [f.R]; exact h.rb, by rw [f.ty]; exact h.tb, h.l5, by rw [f.I _ _ h1]; exact h.sz, fun i hi => by
  obtain ⟨h3, n, h4, h5⟩ := h.bo i hi
  exact ⟨by rw [f.Q]; exact h3, n, at_L_nf h4 f hf ht, h5⟩⟩
theorem hd_nf {fs ts : List (Nat × Nat)} {σ σ' : z_S} {ro h n hb : Nat} {t : tm_T} {c : Bool} (hh : hd_L σ ro h t c n hb) (f : nf fs ts σ σ') (hf : ∀ x ∈ fs, 10 ≤ x.1) (ht : ∀ x ∈ ts, 2 ≤ x.1) (h1 : (504, ro) ∉ fs) : hd_L σ' ro h t c n hb := ⟨by rw [f.ty]; exact hh.ty, by rw [f.R]; exact hh.rh, at_L_nf hh.at' f hf ht, by rw [f.I _ _ h1]; exact hh.ct⟩
/-- rules as the layers look at them -/
def rv (σ : z_S) (D : pa_T) (ra n : Nat) (rs : List ru_T) (as : Nat → List lit_T) (A : Nat → Nat) : Prop := (z_ty σ D.p = some (.inl 2)) ∧ (z_R σ 200 D.p = some D.pa) ∧ (z_ty σ D.pa = some (.inr (8, 16, 7))) ∧ (z_I σ 201 D.p = nI rs.length) ∧ (z_I σ 206 D.p = nI n) ∧ (rs.length ≤ 16) ∧ (n ≤ 8) ∧ (∀ i, i < rs.length → z_Q σ 7 D.pa i = some (D.ro i) ∧ bd_L σ (D.ro i) (as i) A (D.bb i) (D.bo i) ∧ hd_L σ (D.ro i) (rs.getD i d_ru).h (rs.getD i d_ru).ts (rs.getD i d_ru).c (A (rs.getD i d_ru).h) (D.hb i)) ∧ (∀ i, i < rs.length → ∀ l, l ∈ as i ↔ l ∈ (rs.getD i d_ru).ls) ∧ (∀ r ∈ rs, r.h < n ∧ ∀ l ∈ r.ls, l.1 ≤ 2 ∧ (l.1 ≤ 1 → l.2.1 < n)) ∧ (z_R σ 204 D.p = some D.la) ∧ (z_ty σ D.la = some (.inr (0, 8, 10))) ∧ (z_R σ 205 D.p = some ra) ∧ (z_ty σ ra = some (.inr (0, 8, 11)))
theorem rv.ty {σ : z_S} {D : pa_T} {ra n : Nat} {rs : List ru_T} {as : Nat → List lit_T} {A : Nat → Nat} (h' : rv σ D ra n rs as A) : z_ty σ D.p = some (.inl 2) := h'.1
theorem rv.rr {σ : z_S} {D : pa_T} {ra n : Nat} {rs : List ru_T} {as : Nat → List lit_T} {A : Nat → Nat} (h' : rv σ D ra n rs as A) : z_R σ 200 D.p = some D.pa := h'.2.1
theorem rv.tr {σ : z_S} {D : pa_T} {ra n : Nat} {rs : List ru_T} {as : Nat → List lit_T} {A : Nat → Nat} (h' : rv σ D ra n rs as A) : z_ty σ D.pa = some (.inr (8, 16, 7)) := h'.2.2.1
theorem rv.nn {σ : z_S} {D : pa_T} {ra n : Nat} {rs : List ru_T} {as : Nat → List lit_T} {A : Nat → Nat} (h' : rv σ D ra n rs as A) : z_I σ 201 D.p = nI rs.length := h'.2.2.2.1
theorem rv.n6 {σ : z_S} {D : pa_T} {ra n : Nat} {rs : List ru_T} {as : Nat → List lit_T} {A : Nat → Nat} (h' : rv σ D ra n rs as A) : z_I σ 206 D.p = nI n := h'.2.2.2.2.1
theorem rv.n16 {σ : z_S} {D : pa_T} {ra n : Nat} {rs : List ru_T} {as : Nat → List lit_T} {A : Nat → Nat} (h' : rv σ D ra n rs as A) : rs.length ≤ 16 := h'.2.2.2.2.2.1
theorem rv.n8 {σ : z_S} {D : pa_T} {ra n : Nat} {rs : List ru_T} {as : Nat → List lit_T} {A : Nat → Nat} (h' : rv σ D ra n rs as A) : n ≤ 8 := h'.2.2.2.2.2.2.1
theorem rv.ru {σ : z_S} {D : pa_T} {ra n : Nat} {rs : List ru_T} {as : Nat → List lit_T} {A : Nat → Nat} (h' : rv σ D ra n rs as A) : ∀ i, i < rs.length → z_Q σ 7 D.pa i = some (D.ro i) ∧ bd_L σ (D.ro i) (as i) A (D.bb i) (D.bo i) ∧ hd_L σ (D.ro i) (rs.getD i d_ru).h (rs.getD i d_ru).ts (rs.getD i d_ru).c (A (rs.getD i d_ru).h) (D.hb i) := h'.2.2.2.2.2.2.2.1
theorem rv.ar {σ : z_S} {D : pa_T} {ra n : Nat} {rs : List ru_T} {as : Nat → List lit_T} {A : Nat → Nat} (h' : rv σ D ra n rs as A) : ∀ i, i < rs.length → ∀ l, l ∈ as i ↔ l ∈ (rs.getD i d_ru).ls := h'.2.2.2.2.2.2.2.2.1
theorem rv.rn {σ : z_S} {D : pa_T} {ra n : Nat} {rs : List ru_T} {as : Nat → List lit_T} {A : Nat → Nat} (h' : rv σ D ra n rs as A) : ∀ r ∈ rs, r.h < n ∧ ∀ l ∈ r.ls, l.1 ≤ 2 ∧ (l.1 ≤ 1 → l.2.1 < n) := h'.2.2.2.2.2.2.2.2.2.1
theorem rv.lr {σ : z_S} {D : pa_T} {ra n : Nat} {rs : List ru_T} {as : Nat → List lit_T} {A : Nat → Nat} (h' : rv σ D ra n rs as A) : z_R σ 204 D.p = some D.la := h'.2.2.2.2.2.2.2.2.2.2.1
theorem rv.tl {σ : z_S} {D : pa_T} {ra n : Nat} {rs : List ru_T} {as : Nat → List lit_T} {A : Nat → Nat} (h' : rv σ D ra n rs as A) : z_ty σ D.la = some (.inr (0, 8, 10)) := h'.2.2.2.2.2.2.2.2.2.2.2.1
theorem rv.er {σ : z_S} {D : pa_T} {ra n : Nat} {rs : List ru_T} {as : Nat → List lit_T} {A : Nat → Nat} (h' : rv σ D ra n rs as A) : z_R σ 205 D.p = some ra := h'.2.2.2.2.2.2.2.2.2.2.2.2.1
theorem rv.te {σ : z_S} {D : pa_T} {ra n : Nat} {rs : List ru_T} {as : Nat → List lit_T} {A : Nat → Nat} (h' : rv σ D ra n rs as A) : z_ty σ ra = some (.inr (0, 8, 11)) := h'.2.2.2.2.2.2.2.2.2.2.2.2.2
theorem rv_nf {σ σ' : z_S} {D : pa_T} {ra n : Nat} {rs : List ru_T} {as : Nat → List lit_T} {A : Nat → Nat} (h : rv σ D ra n rs as A) {fs ts : List (Nat × Nat)} (f : nf fs ts σ σ') (hf : ∀ x ∈ fs, x.1 = 207 ∨ x.1 = 208) (ht : ∀ x ∈ ts, 2 ≤ x.1) : rv σ' D ra n rs as A := by
  have e : ∀ g a, g ≠ 207 → g ≠ 208 → (g, a) ∉ fs := fun g a h1 h2 z => by have := hf _ z; dsimp only at this; omega
  have hf10 : ∀ x ∈ fs, 10 ≤ x.1 := fun x hx => by have := hf x hx; omega
  exact ⟨by rw [f.ty]; exact h.ty, by rw [f.R]; exact h.rr, by rw [f.ty]; exact h.tr, by rw [f.I _ _ (e 201 _ (by decide) (by decide))]; exact h.nn, by rw [f.I _ _ (e 206 _ (by decide) (by decide))]; exact h.n6, h.n16, h.n8, fun i hi => by
    obtain ⟨h1, h2, h3⟩ := h.ru i hi
    exact ⟨by rw [f.Q]; exact h1, bd_nf h2 f hf10 ht (e _ _ (by decide) (by decide)), hd_nf h3 f hf10 ht (e _ _ (by decide) (by decide))⟩, h.ar, h.rn, by rw [f.R]; exact h.lr, by rw [f.ty]; exact h.tl, by rw [f.R]; exact h.er, by rw [f.ty]; exact h.te⟩
theorem way_n {E : Nat → Nat → Prop} {n : Nat} (h : ∀ v u, E v u → u < n) : ∀ k, n ≤ k → ∀ v u, way E k v u ↔ way E n v u
  | 0, hk, v, u => by rw [show n = 0 by omega]
  | k + 1, hk, v, u => by
    by_cases z : n = k + 1
    · rw [z]
    · rw [← way_n h k (by omega) v u]
      constructor
      · rintro (y | ⟨y, _⟩)
        · exact y
        · have : k < n := way_ind (P := fun _ u => u < n) (fun v u e => h v u e) (fun v w u _ h2 => h2) y
          omega
      · exact fun y => Or.inl y
/-- rows of bits -/
def rb (σ : z_S) (ra : Nat) (E : Nat → Nat → Prop) : Prop := ∀ v u, v < 8 → u < 8 → (bi (z_A σ 11 ra v) u = true ↔ E v u)
def eI (rs : List ru_T) (as : Nat → List lit_T) (i j v u : Nat) : Prop := (∃ i', i' < i ∧ (rs.getD i' d_ru).h = v ∧ ∃ l ∈ as i', l.1 ≠ 2 ∧ l.2.1 = u) ∨ ((rs.getD i d_ru).h = v ∧ ∃ j', j' < j ∧ ((as i).getD j' d_lit).1 ≠ 2 ∧ ((as i).getD j' d_lit).2.1 = u)
theorem eI_n {rs : List ru_T} {as : Nat → List lit_T} {i v u : Nat} : eI rs as i (as i).length v u ↔ eI rs as (i + 1) 0 v u := by
  unfold eI
  constructor
  · rintro (⟨i', h1, h2⟩ | ⟨h1, j', h2, h3⟩)
    · exact Or.inl ⟨i', by omega, h2⟩
    · exact Or.inl ⟨i, by omega, h1, _, gd_mem h2, h3⟩
  · rintro (⟨i', h1, h2, l, h3, h4⟩ | ⟨_, j', h2, _⟩)
    · by_cases z : i' = i
      · rw [z] at h2 h3
        obtain ⟨j', hj, e⟩ := List.getElem_of_mem h3
        exact Or.inr ⟨h2, j', hj, by rw [gd_eq _ _ hj, e]; exact h4⟩
      · exact Or.inl ⟨i', by omega, h2, l, h3, h4⟩
    · exact absurd h2 (Nat.not_lt_zero _)
theorem eI_s {rs : List ru_T} {as : Nat → List lit_T} {i j v u : Nat} : eI rs as i (j + 1) v u ↔ eI rs as i j v u ∨ ((rs.getD i d_ru).h = v ∧ ((as i).getD j d_lit).1 ≠ 2 ∧ ((as i).getD j d_lit).2.1 = u) := by
  unfold eI
  constructor
  · rintro (h | ⟨h1, j', h2, h3⟩)
    · exact Or.inl (Or.inl h)
    · by_cases z : j' = j
      · rw [z] at h3; exact Or.inr ⟨h1, h3⟩
      · exact Or.inl (Or.inr ⟨h1, j', by omega, h3⟩)
  · rintro ((h | ⟨h1, j', h2, h3⟩) | ⟨h1, h3⟩)
    · exact Or.inl h
    · exact Or.inr ⟨h1, j', by omega, h3⟩
    · exact Or.inr ⟨h1, j, by omega, h3⟩
theorem eI_end {rs : List ru_T} {as : Nat → List lit_T} (ha : ∀ i, i < rs.length → ∀ l, l ∈ as i ↔ l ∈ (rs.getD i d_ru).ls) {v u : Nat} : eI rs as rs.length 0 v u ↔ edg rs v u := by
  unfold eI edg
  constructor
  · rintro (⟨i', h1, h2, l, h3, h4⟩ | ⟨_, j', h2, _⟩)
    · exact ⟨_, (by rw [gd_eq _ _ h1]; exact List.getElem_mem h1), h2, l, (ha i' h1 l).mp h3, h4⟩
    · exact absurd h2 (Nat.not_lt_zero _)
  · rintro ⟨r, hr, e, l, hl, h4⟩
    obtain ⟨i', hi, e'⟩ := List.getElem_of_mem hr
    refine Or.inl ⟨i', hi, ?_, l, (ha i' hi l).mpr ?_, h4⟩
    · rw [gd_eq _ _ hi, e']; exact e
    · rw [gd_eq _ _ hi, e']; exact hl
theorem cl_reach {σ0 : z_S} {D : pa_T} {ra n : Nat} {rs : List ru_T} {as : Nat → List lit_T} {A : Nat → Nat} (hv0 : rv σ0 D ra n rs as A) (h0 : ∀ v, z_A σ0 11 ra v = 0) (P : z_S → Prop) (hP : ∀ σ, nf [] [(11, ra)] σ0 σ → rb σ ra (rea rs) → P σ) : kp_Pr_findReach D.p σ0 P := by
  intro X2 X19 X80 X90 h2 h19 h80 h90
  have n16 := hv0.n16
  have n8 := hv0.n8
  have eN : ∀ v u, edg rs v u → v < n ∧ u < n := fun v u ⟨r, hr, e, l, hl, h1, h2⟩ => by
    obtain ⟨a1, a2⟩ := hv0.rn r hr
    obtain ⟨a3, a4⟩ := a2 l hl
    exact ⟨by omega, by rw [← h2]; exact a4 (by omega)⟩
  have stay : ∀ {σ}, nf [] [(11, ra)] σ0 σ → rv σ D ra n rs as A := fun f => rv_nf hv0 f (by simp) (by simp)
  -- through one station after the other
  have via : ∀ m k (σ : z_S), k + m = n → nf [] [(11, ra)] σ0 σ → rb σ ra (way (edg rs) k) → X80 (nI k) σ := by
    intro m
    induction m with
    | zero =>
      intro k σ hk hf hr
      have hv := stay hf
      refine h80 _ _ ⟨hv.ty, ?_⟩
      rw [hv.n6]
      refine ⟨fun _ => hP σ hf (fun v u a1 a2 => ?_), fun z => absurd (nI_le (by omega) (by omega)) z⟩
      rw [hr v u a1 a2, show k = n by omega]
      exact (way_n (fun v u e => (eN v u e).2) 8 n8 v u).symm
    | succ m ih =>
      intro k σ hk hf hr
      have hv := stay hf
      refine h80 _ _ ⟨hv.ty, ?_⟩
      rw [hv.n6]
      refine ⟨fun z => absurd z (nI_ge (by omega) (by omega)), fun _ => ?_⟩
      have rows : ∀ m' i (σ : z_S), i + m' = n → nf [] [(11, ra)] σ0 σ → (∀ v u, v < 8 → u < 8 → (bi (z_A σ 11 ra v) u = true ↔ if v < i then way (edg rs) (k + 1) v u else way (edg rs) k v u)) → X90 (nI k) (nI i) σ := by
        intro m'
        induction m' with
        | zero =>
          intro i σ hi hf hr
          have hv := stay hf
          refine h90 _ _ _ ⟨hv.ty, ?_⟩
          rw [hv.n6]
          refine ⟨fun _ => ?_, fun z => absurd (nI_le (by omega) (by omega)) z⟩
          rw [nI_1]
          refine ih (k + 1) σ (by omega) hf (fun v u a1 a2 => ?_)
          rw [hr v u a1 a2]
          by_cases z : v < i
          · rw [if_pos z]
          · rw [if_neg z]
            have no : ∀ {k' u'}, ¬ way (edg rs) k' v u' := fun {k' u'} y => by
              have : v < n := way_ind (P := fun v _ => v < n) (fun v u e => (eN v u e).1) (fun v w u h1 _ => h1) y
              omega
            exact ⟨fun y => absurd y no, fun y => absurd y no⟩
        | succ m' ihr =>
          intro i σ hi hf hr
          have hv := stay hf
          have i8 : i < 8 := by omega
          have k8 : k < 8 := by omega
          refine h90 _ _ _ ⟨hv.ty, ?_⟩
          rw [hv.n6]
          refine ⟨fun z => absurd z (nI_ge (by omega) (by omega)), fun _ => ⟨hv.ty, ra, hv.er, 8, 11, hv.te, vp_in_nI i8 (by decide), vr_isIn _ k σ _ ?_⟩⟩
          rw [cl_nI (by omega), nI_1]
          have hik := hr i k i8 k8
          rw [if_neg (by omega)] at hik
          -- row k, be it before or behind
          have hkk : ∀ u, u < 8 → (bi (z_A σ 11 ra k) u = true ↔ way (edg rs) k k u) := fun u hu => by
            rw [hr k u k8 hu]
            by_cases z : k < i
            · rw [if_pos z]
              constructor
              · rintro (y | y)
                · exact y
                · exact y.2
              · exact fun y => Or.inl y
            · rw [if_neg z]
          cases hb : bi (z_A σ 11 ra i) k with
          | false =>
            refine ⟨fun _ => ihr (i + 1) σ (by omega) hf (fun v u a1 a2 => ?_), fun z => absurd rfl z⟩
            rw [hr v u a1 a2]
            by_cases z : v = i
            · rw [if_neg (by omega), if_pos (by omega), z]
              constructor
              · exact fun y => Or.inl y
              · rintro (y | y)
                · exact y
                · rw [hik.mpr y.1] at hb; cases hb
            · by_cases y : v < i
              · rw [if_pos y, if_pos (by omega)]
              · rw [if_neg y, if_neg (by omega)]
          | true =>
            refine ⟨fun z => absurd z (by decide), fun _ => ⟨hv.ty, ra, hv.er, 8, 11, hv.te, vp_in_nI i8 (by decide), hv.ty, ra, hv.er, 8, 11, hv.te, vp_in_nI k8 (by decide), 8, 11, hv.te, vp_in_nI i8 (by decide), fun σ1 e1 => ?_⟩⟩
            rw [cl_nI (by omega)] at e1
            refine ihr (i + 1) σ1 (by omega) (nf_tr hf (by rw [e1]; exact nf_sA (by simp))) (fun v u a1 a2 => ?_)
            rw [e1, z_A_sA, if_pos ⟨rfl, rfl⟩]
            unfold upd
            by_cases z : v = i
            · rw [if_pos z, if_pos (by omega), bi_or2 _ _ (by omega), Bool.or_eq_true, hkk u a2, hr i u i8 a2, if_neg (by omega), z]
              constructor
              · rintro (y | y)
                · exact Or.inl y
                · exact Or.inr ⟨hik.mp hb, y⟩
              · rintro (y | y)
                · exact Or.inl y
                · exact Or.inr y.2
            · rw [if_neg z, hr v u a1 a2]
              by_cases y : v < i
              · rw [if_pos y, if_pos (by omega)]
              · rw [if_neg y, if_neg (by omega)]
      exact rows n 0 σ (by omega) hf (fun v u a1 a2 => by rw [if_neg (by omega)]; exact hr v u a1 a2)
  -- steps
  have rules : ∀ m i (σ : z_S), i + m = rs.length → nf [] [(11, ra)] σ0 σ → rb σ ra (eI rs as i 0) → X2 (nI i) σ := by
    intro m
    induction m with
    | zero =>
      intro i σ hi hf hr
      have hv := stay hf
      refine h2 _ _ ⟨hv.ty, ?_⟩
      rw [hv.nn]
      refine ⟨fun _ => ?_, fun z => absurd (nI_le (by omega) (by omega)) z⟩
      refine via n 0 σ (by omega) hf (fun v u a1 a2 => ?_)
      rw [hr v u a1 a2, show i = rs.length by omega]
      exact eI_end hv.ar
    | succ m ih =>
      intro i σ hi hf hr
      have hv := stay hf
      have hil : i < rs.length := by omega
      obtain ⟨q1, _, _⟩ := hv.ru i hil
      have hrm : rs.getD i d_ru ∈ rs := by rw [gd_eq _ _ hil]; exact List.getElem_mem hil
      refine h2 _ _ ⟨hv.ty, ?_⟩
      rw [hv.nn]
      refine ⟨fun z => absurd z (nI_ge (by omega) (by omega)), fun _ => ⟨hv.ty, D.pa, hv.rr, 16, 7, hv.tr, vp_in_nI (by omega) (by decide), D.ro i, by rw [cl_nI (by omega)]; exact q1, ?_⟩⟩
      have lits : ∀ mm j (σ : z_S), j + mm = (as i).length → nf [] [(11, ra)] σ0 σ → rb σ ra (eI rs as i j) → X19 (nI i) (D.ro i) (nI j) σ := by
        intro mm
        induction mm with
        | zero =>
          intro j σ hj hf hr
          have hv := stay hf
          obtain ⟨_, hB, _⟩ := hv.ru i hil
          have l5 := hB.l5
          refine h19 _ _ _ _ ⟨hB.ty, ?_⟩
          rw [hB.sz]
          refine ⟨fun _ => ?_, fun z => absurd (nI_le (by omega) (by omega)) z⟩
          rw [nI_1]
          refine ih (i + 1) σ (by omega) hf (fun v u a1 a2 => ?_)
          rw [hr v u a1 a2, show j = (as i).length by omega]
          exact eI_n
        | succ mm ihl =>
          intro j σ hj hf hr
          have hv := stay hf
          obtain ⟨_, hB, hH⟩ := hv.ru i hil
          have l5 := hB.l5
          have hjl : j < (as i).length := by omega
          obtain ⟨b1, nb, hA, _⟩ := hB.bo j hjl
          have b1' : z_Q σ 14 (D.bb i) (nI j).toNatClampNeg = some (D.bo i j) := by rw [cl_nI (by omega)]; exact b1
          have k2 := hA.k2
          refine h19 _ _ _ _ ⟨hB.ty, ?_⟩
          rw [hB.sz]
          refine ⟨fun z => absurd z (nI_ge (by omega) (by omega)), fun _ => ⟨hB.ty, D.bb i, hB.rb, 5, 14, hB.tb, vp_in_nI (by omega) (by decide), D.bo i j, b1', hA.ty, ?_⟩⟩
          rw [hA.kd, show (2 : Int32) = nI 2 from rfl, nI_eq (by omega) (by decide), nI_1]
          refine ⟨fun z => ihl (j + 1) σ (by omega) hf (fun v u a1 a2 => ?_), fun z => ?_⟩
          · rw [hr v u a1 a2, eI_s]
            exact ⟨fun y => Or.inl y, fun y => y.elim id (fun w => absurd z w.2.1)⟩
          · obtain ⟨r1, r2⟩ := hH.at'.rl (Nat.zero_le 1)
            obtain ⟨s1, s2⟩ := hA.rl (by omega)
            have r1' : z_I σ 3 (D.hb i) = nI (rs.getD i d_ru).h := r1
            have r2' : (rs.getD i d_ru).h < 8 := r2
            refine ⟨hv.ty, ra, hv.er, hB.ty, D.hb i, hH.rh, hH.at'.ty, 8, 11, hv.te, by rw [r1']; exact vp_in_nI r2' (by decide), hB.ty, D.bb i, hB.rb, 5, 14, hB.tb, vp_in_nI (by omega) (by decide), D.bo i j, b1', hA.ty, 8, 11, hv.te, by rw [r1']; exact vp_in_nI r2' (by decide), fun σ1 e1 => ?_⟩
            rw [r1', s1, cl_nI (by omega)] at e1
            refine ihl (j + 1) σ1 (by omega) (nf_tr hf (by rw [e1]; exact nf_sA (by simp))) (fun v u a1 a2 => ?_)
            rw [e1, z_A_sA, if_pos ⟨rfl, rfl⟩, eI_s]
            unfold upd
            by_cases y : v = (rs.getD i d_ru).h
            · rw [if_pos y, bi_or _ (by omega) (by omega), Bool.or_eq_true, hr _ u r2' a2, decide_eq_true_iff, y]
              refine or_congr Iff.rfl ⟨fun w => ⟨rfl, z, w.symm⟩, fun w => w.2.2.symm⟩
            · rw [if_neg y, hr v u a1 a2]
              exact ⟨fun w => Or.inl w, fun w => w.elim id (fun w => absurd w.1.symm y)⟩
      exact lits (as i).length 0 σ (by omega) hf hr
  refine rules rs.length 0 σ0 (by omega) (nf_rf _ _ _) (fun v u a1 a2 => ?_)
  rw [h0 v, bi_0]
  refine ⟨(fun z => by cases z), fun z => ?_⟩
  rcases z with ⟨i', y, _⟩ | ⟨_, j', y, _⟩
  · exact absurd y (Nat.not_lt_zero _)
  · exact absurd y (Nat.not_lt_zero _)
