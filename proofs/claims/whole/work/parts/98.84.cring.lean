theorem lst_ex {P : Nat → Prop} (h : ∃ d, P d) : ∃ d, P d ∧ ∀ y, y < d → ¬ P y := by
  refine Classical.byContradiction (fun hno => ?_)
  have all : ∀ d, ¬ P d := fun d => Nat.strongRecOn d (fun d ih hd => hno ⟨d, hd, fun y hy => ih y hy⟩)
  obtain ⟨d, hd⟩ := h
  exact all d hd
/-- the lowest bit -/
theorem low {x : Int32} {d : Nat} (hd : d < 32) (h1 : bi x d = true) (h2 : ∀ j, j < d → bi x j = false) : x &&& (-x) = (1 : Int32) <<< (nI d &&& 31) := by
  refine bi_ext (fun i hi => ?_)
  have e1 : bi ((1 : Int32) <<< (nI d &&& 31)) i = decide (i = d) := by
    have := bi_or 0 hd hi
    rw [Int32.zero_or, bi_0, Bool.false_or] at this
    exact this
  have e2 : bi (-x) i = (bi x i ^^ decide (∃ j, j < i ∧ x.toBitVec.getLsbD j = true)) := by
    rw [bi_lsb _ hi, bi_lsb _ hi, Int32.toBitVec_neg, BitVec.getLsbD_neg]
    have h32 : decide (i < 32) = true := decide_eq_true hi
    simp only [h32, Bool.true_and]
  rw [e1, bi_and _ _ hi, e2]
  by_cases z : i = d
  · rw [decide_eq_true z, z, h1]
    have hno : ¬ ∃ j, j < d ∧ x.toBitVec.getLsbD j = true := fun ⟨j, y1, y2⟩ => by
      rw [← bi_lsb x (by omega), h2 j y1] at y2; cases y2
    rw [decide_eq_false hno]
    rfl
  · rw [decide_eq_false z]
    rcases Nat.lt_or_ge i d with y | y
    · rw [h2 i y, Bool.false_and]
    · have hyes : ∃ j, j < i ∧ x.toBitVec.getLsbD j = true := ⟨d, by omega, by rw [← bi_lsb x hd]; exact h1⟩
      rw [decide_eq_true hyes]
      cases bi x i <;> rfl
theorem low_le : ∀ d, d < 8 → ∀ e, e < 8 → (((1 : Int32) <<< (nI d &&& 31)) ≤ ((1 : Int32) <<< (nI e &&& 31)) ↔ d ≤ e) := by decide +kernel
theorem cl_below {σ : z_S} {P ro b h nh hb n : Nat} {ts : tm_T} {c : Bool} {l : lit_T} (hH : hd_L σ ro h ts c nh hb) (hA : at_L σ b l n) (Po : Int32 → z_S → Prop) (h1 : (l.1 = 1 ∨ (l.1 = 0 ∧ c = true)) → Po 1 σ) (h0 : ¬ (l.1 = 1 ∨ (l.1 = 0 ∧ c = true)) → Po 0 σ) : kp_Pr_mustLieBelow P ro b σ Po := by
  have k2 := hA.k2
  refine ⟨hA.ty, ?_⟩
  have e1 : z_I σ 2 b = 1 ↔ l.1 = 1 := by rw [hA.kd]; exact nI_eq (b := 1) (by omega) (by decide)
  rw [e1]
  refine ⟨fun z => h1 (Or.inl z), fun z => ⟨hA.ty, ?_⟩⟩
  rw [kd0 hA]
  refine ⟨fun y => h0 (fun w => w.elim z (fun w => y w.1)), fun y => ⟨hH.ty, ?_⟩⟩
  rw [hH.ct]
  cases c with
  | true => exact ⟨fun w => absurd w (by decide), fun _ => h1 (Or.inr ⟨y, rfl⟩)⟩
  | false => exact ⟨fun _ => h0 (fun w => w.elim z (fun w => by cases w.2)), fun w => absurd rfl w⟩
theorem cl_through {σ : z_S} {D : pa_T} {ra n : Nat} {rs : List ru_T} {as : Nat → List lit_T} {A : Nat → Nat} (hv : rv σ D ra n rs as A) (hr : rb σ ra (rea rs)) {x : Nat} (hx : x < 8) (P : Int32 → z_S → Prop) (hP : ∀ m, (∀ k, k < 32 → (bi m k = true ↔ k < n ∧ rea rs x k ∧ rea rs k x)) → P m σ) : kp_Pr_ringThrough D.p (nI x) σ P := by
  intro X4 h4
  have n8 := hv.n8
  have main : ∀ m i (v : Int32), i + m = n → (∀ k, k < 32 → (bi v k = true ↔ k < i ∧ rea rs x k ∧ rea rs k x)) → X4 v (nI i) σ := by
    intro m
    induction m with
    | zero =>
      intro i v hi hb
      refine h4 _ _ _ ⟨hv.ty, ?_⟩
      rw [hv.n6]
      refine ⟨fun _ => hP v (by rw [← show i = n by omega]; exact hb), fun z => absurd (nI_le (by omega) (by omega)) z⟩
    | succ m ih =>
      intro i v hi hb
      have i8 : i < 8 := by omega
      refine h4 _ _ _ ⟨hv.ty, ?_⟩
      rw [hv.n6]
      refine ⟨fun z => absurd z (nI_ge (by omega) (by omega)), fun _ => ⟨hv.ty, ra, hv.er, 8, 11, hv.te, vp_in_nI hx (by decide), vr_isIn _ i σ _ ?_⟩⟩
      rw [cl_nI (by omega), nI_1]
      have a1 := hr x i hx i8
      have a2 := hr i x i8 hx
      have no : ¬ (rea rs x i ∧ rea rs i x) → X4 v (nI (i + 1)) σ := fun hn => ih (i + 1) v (by omega) (fun k hk => by
        rw [hb k hk]
        constructor
        · rintro ⟨y1, y2⟩
          exact ⟨by omega, y2⟩
        · rintro ⟨y1, y2⟩
          by_cases w : k = i
          · rw [w] at y2; exact absurd y2 hn
          · exact ⟨by omega, y2⟩)
      cases hb1 : bi (z_A σ 11 ra x) i with
      | false => exact ⟨fun _ => no (fun w => by rw [a1.mpr w.1] at hb1; cases hb1), fun z => absurd rfl z⟩
      | true =>
        refine ⟨fun z => absurd z (by decide), fun _ => ⟨hv.ty, ra, hv.er, 8, 11, hv.te, vp_in_nI i8 (by decide), vr_isIn _ x σ _ ?_⟩⟩
        rw [cl_nI (by omega)]
        cases hb2 : bi (z_A σ 11 ra i) x with
        | false => exact ⟨fun _ => no (fun w => by rw [a2.mpr w.2] at hb2; cases hb2), fun z => absurd rfl z⟩
        | true =>
          refine ⟨fun z => absurd z (by decide), fun _ => ih (i + 1) _ (by omega) (fun k hk => ?_)⟩
          rw [bi_or _ (by omega) hk, Bool.or_eq_true, hb k hk, decide_eq_true_iff]
          constructor
          · rintro (⟨y1, y2⟩ | y)
            · exact ⟨by omega, y2⟩
            · rw [y]; exact ⟨by omega, a1.mp hb1, a2.mp hb2⟩
          · rintro ⟨y1, y2⟩
            by_cases w : k = i
            · exact Or.inr w
            · exact Or.inl ⟨by omega, y2⟩
  exact main n 0 0 (by omega) (fun k hk => by
    rw [bi_0]
    exact ⟨(fun z => by cases z), fun z => absurd z.1 (Nat.not_lt_zero _)⟩)
def eqv (rs : List ru_T) (x v : Nat) : Prop := rea rs x v ∧ rea rs v x
/-- heads that are found to lie below themselves -/
def pB (rs : List ru_T) (as : Nat → List lit_T) (i j v : Nat) : Prop := (∃ i', i' < i ∧ (rs.getD i' d_ru).h = v ∧ ∃ l ∈ as i', (l.1 = 1 ∨ (l.1 = 0 ∧ (rs.getD i' d_ru).c = true)) ∧ rea rs l.2.1 v) ∨ ((rs.getD i d_ru).h = v ∧ ∃ j', j' < j ∧ (((as i).getD j' d_lit).1 = 1 ∨ (((as i).getD j' d_lit).1 = 0 ∧ (rs.getD i d_ru).c = true)) ∧ rea rs ((as i).getD j' d_lit).2.1 v)
theorem pB_n {rs : List ru_T} {as : Nat → List lit_T} {i v : Nat} : pB rs as i (as i).length v ↔ pB rs as (i + 1) 0 v := by
  unfold pB
  constructor
  · rintro (⟨i', h1, h2⟩ | ⟨h1, j', h2, h3⟩)
    · exact Or.inl ⟨i', by omega, h2⟩
    · exact Or.inl ⟨i, by omega, h1, _, gd_mem h2, h3⟩
  · rintro (⟨i', h1, h2, l, h3, h4⟩ | ⟨_, j', h2, _⟩)
    · by_cases z : i' = i
      · rw [z] at h2 h3 h4
        obtain ⟨j', hj, e⟩ := List.getElem_of_mem h3
        exact Or.inr ⟨h2, j', hj, by rw [gd_eq _ _ hj, e]; exact h4⟩
      · exact Or.inl ⟨i', by omega, h2, l, h3, h4⟩
    · exact absurd h2 (Nat.not_lt_zero _)
theorem pB_s {rs : List ru_T} {as : Nat → List lit_T} {i j v : Nat} : pB rs as i (j + 1) v ↔ pB rs as i j v ∨ ((rs.getD i d_ru).h = v ∧ (((as i).getD j d_lit).1 = 1 ∨ (((as i).getD j d_lit).1 = 0 ∧ (rs.getD i d_ru).c = true)) ∧ rea rs ((as i).getD j d_lit).2.1 v) := by
  unfold pB
  constructor
  · rintro (h | ⟨h1, j', h2, h3⟩)
    · exact Or.inl (Or.inl h)
    · by_cases z : j' = j
      · rw [z] at h3; exact Or.inr ⟨h1, h3⟩
      · exact Or.inl (Or.inr ⟨h1, j', by omega, h3⟩)
  · rintro ((h | ⟨h1, j', h2, h3⟩) | ⟨h1, h3⟩)
    · exact Or.inl h
    · exact Or.inr ⟨h1, j', by omega, h3⟩
    · exact Or.inr ⟨h1, j, by omega, h3⟩
theorem pB_end {rs : List ru_T} {as : Nat → List lit_T} (ha : ∀ i, i < rs.length → ∀ l, l ∈ as i ↔ l ∈ (rs.getD i d_ru).ls) {v : Nat} : pB rs as rs.length 0 v ↔ ∃ u, badE rs v u := by
  unfold pB badE edgS
  constructor
  · rintro (⟨i', h1, h2, l, h3, h4, h5⟩ | ⟨_, j', h2, _⟩)
    · exact ⟨l.2.1, ⟨_, (by rw [gd_eq _ _ h1]; exact List.getElem_mem h1), h2, l, (ha i' h1 l).mp h3, h4, rfl⟩, h5⟩
    · exact absurd h2 (Nat.not_lt_zero _)
  · rintro ⟨u, ⟨r, hr, e, l, hl, h4, h6⟩, h5⟩
    obtain ⟨i', hi, e'⟩ := List.getElem_of_mem hr
    refine Or.inl ⟨i', hi, ?_, l, (ha i' hi l).mpr ?_, ?_, by rw [h6]; exact h5⟩
    · rw [gd_eq _ _ hi, e']; exact e
    · rw [gd_eq _ _ hi, e']; exact hl
    · rw [gd_eq _ _ hi, e']; exact h4
def rgS (rs : List ru_T) (n : Nat) (B : Nat → Prop) (m : Int32) : Prop := (m = 0 ∧ ∀ v, ¬ B v) ∨ ∃ x, x < n ∧ (∃ v, B v ∧ eqv rs x v) ∧ (∀ y, y < n → (∃ v, B v ∧ eqv rs y v) → x ≤ y) ∧ ∀ k, k < 32 → (bi m k = true ↔ k < n ∧ rea rs x k ∧ rea rs k x)
theorem rgS_c {rs : List ru_T} {n : Nat} {B B' : Nat → Prop} {m : Int32} (h : rgS rs n B m) (e : ∀ v, B v ↔ B' v) : rgS rs n B' m := by
  have : B = B' := funext (fun v => propext (e v))
  rw [← this]; exact h
theorem cl_ring {σ0 : z_S} {D : pa_T} {ra n : Nat} {rs : List ru_T} {as : Nat → List lit_T} {A : Nat → Nat} (hv0 : rv σ0 D ra n rs as A) (hr0 : rb σ0 ra (rea rs)) (h8 : z_I σ0 208 D.p = 0) (P : z_S → Prop) (hP : ∀ σ, nf [(208, D.p)] [] σ0 σ → rgS rs n (fun v => ∃ u, badE rs v u) (z_I σ 208 D.p) → P σ) : kp_Pr_findRing D.p σ0 P := by
  intro X2 X28 h2 h28
  have n16 := hv0.n16
  have n8 := hv0.n8
  have stay : ∀ {σ}, nf [(208, D.p)] [] σ0 σ → rv σ D ra n rs as A ∧ rb σ ra (rea rs) := fun f => ⟨rv_nf hv0 f (by simp) (by simp), fun v u a1 a2 => by rw [f.A _ _ (by simp)]; exact hr0 v u a1 a2⟩
  have eN : ∀ v u, rea rs v u → v < n ∧ u < n := fun v u h => way_ind (P := fun v u => v < n ∧ u < n) (fun v u ⟨r, hr, e, l, hl, h1, h2⟩ => by
    obtain ⟨a1, a2⟩ := hv0.rn r hr
    obtain ⟨a3, a4⟩ := a2 l hl
    exact ⟨by omega, by rw [← h2]; exact a4 (by omega)⟩) (fun v w u h1 h2 => ⟨h1.1, h2.2⟩) h
  have rules : ∀ m i (σ : z_S), i + m = rs.length → nf [(208, D.p)] [] σ0 σ → rgS rs n (pB rs as i 0) (z_I σ 208 D.p) → X2 (nI i) σ := by
    intro m
    induction m with
    | zero =>
      intro i σ hi hf hg
      obtain ⟨hv, hr⟩ := stay hf
      refine h2 _ _ ⟨hv.ty, ?_⟩
      rw [hv.nn]
      refine ⟨fun _ => hP σ hf (rgS_c hg (fun v => ?_)), fun z => absurd (nI_le (by omega) (by omega)) z⟩
      rw [show i = rs.length by omega]
      exact pB_end hv.ar
    | succ m ih =>
      intro i σ hi hf hg
      obtain ⟨hv, hr⟩ := stay hf
      have hil : i < rs.length := by omega
      obtain ⟨q1, _, hH0⟩ := hv.ru i hil
      have hrm : rs.getD i d_ru ∈ rs := by rw [gd_eq _ _ hil]; exact List.getElem_mem hil
      obtain ⟨r1, r2⟩ := hH0.at'.rl (Nat.zero_le 1)
      have r1' : z_I σ 3 (D.hb i) = nI (rs.getD i d_ru).h := r1
      have r2' : (rs.getD i d_ru).h < 8 := r2
      refine h2 _ _ ⟨hv.ty, ?_⟩
      rw [hv.nn]
      refine ⟨fun z => absurd z (nI_ge (by omega) (by omega)), fun _ => ⟨hv.ty, D.pa, hv.rr, 16, 7, hv.tr, vp_in_nI (by omega) (by decide), D.ro i, by rw [cl_nI (by omega)]; exact q1, hH0.ty, D.hb i, hH0.rh, hH0.at'.ty, ?_⟩⟩
      rw [r1']
      have lits : ∀ mm j (σ : z_S), j + mm = (as i).length → nf [(208, D.p)] [] σ0 σ → rgS rs n (pB rs as i j) (z_I σ 208 D.p) → X28 (nI i) (D.ro i) (nI (rs.getD i d_ru).h) (nI j) σ := by
        intro mm
        induction mm with
        | zero =>
          intro j σ hj hf hg
          obtain ⟨hv, hr⟩ := stay hf
          obtain ⟨_, hB, _⟩ := hv.ru i hil
          have l5 := hB.l5
          refine h28 _ _ _ _ _ ⟨hB.ty, ?_⟩
          rw [hB.sz]
          refine ⟨fun _ => ?_, fun z => absurd (nI_le (by omega) (by omega)) z⟩
          rw [nI_1]
          refine ih (i + 1) σ (by omega) hf (rgS_c hg (fun v => ?_))
          rw [show j = (as i).length by omega]
          exact pB_n
        | succ mm ihl =>
          intro j σ hj hf hg
          obtain ⟨hv, hr⟩ := stay hf
          obtain ⟨_, hB, hH⟩ := hv.ru i hil
          have l5 := hB.l5
          have hjl : j < (as i).length := by omega
          obtain ⟨b1, nb, hA, _⟩ := hB.bo j hjl
          have hm := (hv.ar i hil _).mp (gd_mem hjl)
          obtain ⟨_, hrn⟩ := hv.rn _ hrm
          obtain ⟨g1, g2⟩ := hrn _ hm
          refine h28 _ _ _ _ _ ⟨hB.ty, ?_⟩
          rw [hB.sz]
          refine ⟨fun z => absurd z (nI_ge (by omega) (by omega)), fun _ => ⟨hB.ty, D.bb i, hB.rb, 5, 14, hB.tb, vp_in_nI (by omega) (by decide), D.bo i j, by rw [cl_nI (by omega)]; exact b1, hv.ty, ?_⟩⟩
          rw [nI_1]
          have no : ¬ ((((as i).getD j d_lit).1 = 1 ∨ (((as i).getD j d_lit).1 = 0 ∧ (rs.getD i d_ru).c = true)) ∧ rea rs ((as i).getD j d_lit).2.1 (rs.getD i d_ru).h) → X28 (nI i) (D.ro i) (nI (rs.getD i d_ru).h) (nI (j + 1)) σ := fun hn => ihl (j + 1) σ (by omega) hf (rgS_c hg (fun v => by
            rw [pB_s]
            exact ⟨fun y => Or.inl y, fun y => y.elim id (fun w => absurd (by rw [w.1]; exact w.2) hn)⟩))
          refine cl_below hH hA _ (fun hst => ⟨fun z => absurd z (by decide), fun _ => ?_⟩) (fun hst => ⟨fun _ => no (fun w => hst w.1), fun z => absurd rfl z⟩)
          have u8n : ((as i).getD j d_lit).2.1 < n := g2 (by rcases hst with y | y <;> omega)
          obtain ⟨s1, s2⟩ := hA.rl (by rcases hst with y | y <;> omega)
          refine ⟨hv.ty, ra, hv.er, hA.ty, 8, 11, hv.te, by rw [s1]; exact vp_in_nI s2 (by decide), ?_⟩
          rw [s1, cl_nI (by omega)]
          refine vr_isIn _ (rs.getD i d_ru).h σ _ ?_
          have hre := hr _ _ s2 r2'
          cases hb : bi (z_A σ 11 ra ((as i).getD j d_lit).2.1) (rs.getD i d_ru).h with
          | false => exact ⟨fun _ => no (fun w => by rw [hre.mpr w.2] at hb; cases hb), fun z => absurd rfl z⟩
          | true =>
            have hre := hre.mp hb
            have hE : edg rs (rs.getD i d_ru).h ((as i).getD j d_lit).2.1 := ⟨_, hrm, rfl, _, hm, (by rcases hst with y | y <;> omega), rfl⟩
            have hself : rea rs (rs.getD i d_ru).h (rs.getD i d_ru).h := rea_tr s2 (rea_e hE) hre
            have hhn := (eN _ _ hself).1
            refine ⟨fun z => absurd z (by decide), fun _ => ⟨hv.ty, cl_through hv hr r2' _ (fun mk hmk => ⟨hv.ty, ?_⟩)⟩⟩
            -- the lowest of the new ring
            obtain ⟨d, hd1, hd2, hd3⟩ : ∃ d, d < n ∧ eqv rs d (rs.getD i d_ru).h ∧ ∀ y, y < d → ¬ eqv rs y (rs.getD i d_ru).h := by
              have ex : ∃ d, d < n ∧ eqv rs d (rs.getD i d_ru).h := ⟨_, hhn, hself, hself⟩
              obtain ⟨d, hd, hmin⟩ := lst_ex (P := fun d => d < n ∧ eqv rs d (rs.getD i d_ru).h) ex
              exact ⟨d, hd.1, hd.2, fun y hy hq => hmin y hy ⟨by omega, hq⟩⟩
            have hd8 : d < 8 := by omega
            have lowm : mk &&& (-mk) = (1 : Int32) <<< (nI d &&& 31) := low (by omega) ((hmk d (by omega)).mpr ⟨hd1, hd2.2, hd2.1⟩) (fun y hy => by
              cases hq : bi mk y with
              | false => rfl
              | true =>
                have := (hmk y (by omega)).mp hq
                exact absurd ⟨this.2.2, this.2.1⟩ (hd3 y hy))
            -- the ring through the head is the ring through its lowest
            have same : ∀ k, (rea rs d k ∧ rea rs k d) ↔ (rea rs (rs.getD i d_ru).h k ∧ rea rs k (rs.getD i d_ru).h) := fun k => ⟨fun y => ⟨rea_tr hd8 hd2.2 y.1, rea_tr hd8 y.2 hd2.1⟩, fun y => ⟨rea_tr r2' hd2.1 y.1, rea_tr r2' y.2 hd2.2⟩⟩
            have fin : ∀ σ1, nf [(208, D.p)] [] σ0 σ1 → rgS rs n (pB rs as i (j + 1)) (z_I σ1 208 D.p) → X28 (nI i) (D.ro i) (nI (rs.getD i d_ru).h) (nI (j + 1)) σ1 := fun σ1 f1 g1' => ihl (j + 1) σ1 (by omega) f1 g1'
            have hnew : pB rs as i (j + 1) (rs.getD i d_ru).h := pB_s.mpr (Or.inr ⟨rfl, hst, hre⟩)
            intro X24 h24
            have take : (∀ y, y < n → (∃ v, pB rs as i (j + 1) v ∧ eqv rs y v) → d ≤ y) → X24 σ := fun hmin => h24 _ ⟨hv.ty, fun σ1 e1 => by
              refine fin σ1 (nf_tr hf (by rw [e1]; exact nf_sI (by simp))) (Or.inr ⟨d, hd1, ⟨_, hnew, hd2⟩, hmin, fun k hk => ?_⟩)
              rw [e1, z_I_sI, if_pos ⟨rfl, rfl⟩, hmk k hk]
              exact and_congr Iff.rfl (same k).symm⟩
            refine ⟨hv.ty, fun z => ?_, fun z => ⟨hv.ty, hv.ty, ?_⟩⟩
            · rcases hg with ⟨_, hg⟩ | ⟨x, x1, x2, x3, x4⟩
              · refine take (fun y hy ⟨v, y1, y2⟩ => ?_)
                rcases pB_s.mp y1 with w | w
                · exact absurd w (hg v)
                · rw [← w.1] at y2
                  rcases Nat.lt_or_ge y d with q | q
                  · exact absurd y2 (hd3 y q)
                  · exact q
              · exfalso
                obtain ⟨v, y1, y2⟩ := x2
                have v8 : v < 8 := by have := (eN _ _ y2.1).2; omega
                have := (x4 x (by omega)).mpr ⟨x1, rea_tr v8 y2.1 y2.2, rea_tr v8 y2.1 y2.2⟩
                rw [z, bi_0] at this
                cases this
            · rcases hg with ⟨hg, _⟩ | ⟨x, x1, x2, x3, x4⟩
              · exact absurd hg z
              · obtain ⟨v, y1, y2⟩ := x2
                have v8 : v < 8 := by have := (eN _ _ y2.1).2; omega
                have lowx : z_I σ 208 D.p &&& (-(z_I σ 208 D.p)) = (1 : Int32) <<< (nI x &&& 31) := low (by omega) ((x4 x (by omega)).mpr ⟨x1, rea_tr v8 y2.1 y2.2, rea_tr v8 y2.1 y2.2⟩) (fun y hy => by
                  cases hq : bi (z_I σ 208 D.p) y with
                  | false => rfl
                  | true =>
                    have hb' := (x4 y (by omega)).mp hq
                    have : x ≤ y := x3 y hb'.1 ⟨v, y1, rea_tr (by omega) hb'.2.2 y2.1, rea_tr (by omega) y2.2 hb'.2.1⟩
                    omega)
                rw [lowx, lowm, low_le x (by omega) d hd8]
                refine ⟨fun w => fin σ hf (Or.inr ⟨x, x1, ⟨v, pB_s.mpr (Or.inl y1), y2⟩, fun y hy ⟨v', z1, z2⟩ => ?_, x4⟩), fun w => take (fun y hy ⟨v', z1, z2⟩ => ?_)⟩
                · rcases pB_s.mp z1 with q | q
                  · exact x3 y hy ⟨v', q, z2⟩
                  · rw [← q.1] at z2
                    rcases Nat.lt_or_ge y d with q' | q'
                    · exact absurd z2 (hd3 y q')
                    · omega
                · rcases pB_s.mp z1 with q | q
                  · have := x3 y hy ⟨v', q, z2⟩
                    omega
                  · rw [← q.1] at z2
                    rcases Nat.lt_or_ge y d with q' | q'
                    · exact absurd z2 (hd3 y q')
                    · exact q'
      exact lits (as i).length 0 σ (by omega) hf hg
  refine rules rs.length 0 σ0 (by omega) (nf_rf _ _ _) (Or.inl ⟨h8, fun v z => ?_⟩)
  rcases z with ⟨i', y, _⟩ | ⟨_, j', y, _⟩
  · exact absurd y (Nat.not_lt_zero _)
  · exact absurd y (Nat.not_lt_zero _)
