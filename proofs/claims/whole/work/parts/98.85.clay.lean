theorem stp_b {r : ru_T} {l : lit_T} (h2 : l.1 ≤ 2) (h : l.1 ≠ 2) : stp r l = if (l.1 = 1 ∨ (l.1 = 0 ∧ r.c = true)) then 1 else 0 := by
  unfold stp
  by_cases z : l.1 = 1 ∨ r.c = true
  · rw [if_pos z, if_pos]
    by_cases y : l.1 = 1
    · exact Or.inl y
    · exact Or.inr ⟨by omega, z.resolve_left y⟩
  · rw [if_neg z, if_neg (fun w => z (w.elim Or.inl (fun w => Or.inr w.2)))]
def lyS (σ : z_S) (la : Nat) (f : Nat → Nat) : Prop := ∀ v, v < 8 → z_A σ 10 la v = nI (f v)
theorem cl_raise {σ0 : z_S} {D : pa_T} {ra n : Nat} {rs : List ru_T} {as : Nat → List lit_T} {A : Nat → Nat} (hv0 : rv σ0 D ra n rs as A) {x L : Nat → Nat} (hL : Sol rs L) (hL8 : ∀ v, L v ≤ 8) (hxL : ∀ v, x v ≤ L v) (hx : lyS σ0 D.la x) (P : z_S → Prop) (hP : ∀ y σ, pass rs x y → lyS σ D.la y → nf [] [(10, D.la)] σ0 σ → P σ) : kp_Pr_raiseLayers D.p σ0 P := by
  intro X2 X28 X80 h2 h28 h80
  have n16 := hv0.n16
  have n8 := hv0.n8
  have stay : ∀ {σ}, nf [] [(10, D.la)] σ0 σ → rv σ D ra n rs as A := fun f => rv_nf hv0 f (by simp) (by simp)
  have rules : ∀ m i (f : Nat → Nat) (σ : z_S), i + m = rs.length → nf [] [(10, D.la)] σ0 σ → lyS σ D.la f → (∀ v, x v ≤ f v) → (∀ g, Sol rs g → (∀ v, x v ≤ g v) → ∀ v, f v ≤ g v) → (∀ i', i' < i → ∀ l ∈ as i', l.1 ≠ 2 → x l.2.1 + stp (rs.getD i' d_ru) l ≤ f (rs.getD i' d_ru).h) → X2 (nI i) σ := by
    intro m
    induction m with
    | zero =>
      intro i f σ hi hf hly up lo he
      have hv := stay hf
      refine h2 _ _ ⟨hv.ty, ?_⟩
      rw [hv.nn]
      refine ⟨fun _ => hP f σ ⟨up, lo, fun r hr l hl hne => ?_⟩ hly hf, fun z => absurd (nI_le (by omega) (by omega)) z⟩
      obtain ⟨i', hi', e'⟩ := List.getElem_of_mem hr
      have hg : rs.getD i' d_ru = r := by rw [gd_eq _ _ hi', e']
      have := he i' (by omega) l ((hv.ar i' hi' l).mpr (by rw [hg]; exact hl)) hne
      rw [hg] at this
      exact this
    | succ m ih =>
      intro i f σ hi hf hly up lo he
      have hv := stay hf
      have hil : i < rs.length := by omega
      obtain ⟨q1, _, hH0⟩ := hv.ru i hil
      have hrm : rs.getD i d_ru ∈ rs := by rw [gd_eq _ _ hil]; exact List.getElem_mem hil
      obtain ⟨r1, r2⟩ := hH0.at'.rl (Nat.zero_le 1)
      have r1' : z_I σ 3 (D.hb i) = nI (rs.getD i d_ru).h := r1
      have r2' : (rs.getD i d_ru).h < 8 := r2
      refine h2 _ _ ⟨hv.ty, ?_⟩
      rw [hv.nn]
      refine ⟨fun z => absurd z (nI_ge (by omega) (by omega)), fun _ => ⟨hv.ty, D.pa, hv.rr, 16, 7, hv.tr, vp_in_nI (by omega) (by decide), D.ro i, by rw [cl_nI (by omega)]; exact q1, hH0.ty, D.hb i, hH0.rh, hH0.at'.ty, ?_⟩⟩
      rw [r1']
      have lits : ∀ mm j (f : Nat → Nat) (σ : z_S), j + mm = (as i).length → nf [] [(10, D.la)] σ0 σ → lyS σ D.la f → (∀ v, x v ≤ f v) → (∀ g, Sol rs g → (∀ v, x v ≤ g v) → ∀ v, f v ≤ g v) → (∀ i', i' < i → ∀ l ∈ as i', l.1 ≠ 2 → x l.2.1 + stp (rs.getD i' d_ru) l ≤ f (rs.getD i' d_ru).h) → (∀ j', j' < j → ((as i).getD j' d_lit).1 ≠ 2 → x ((as i).getD j' d_lit).2.1 + stp (rs.getD i d_ru) ((as i).getD j' d_lit) ≤ f (rs.getD i d_ru).h) → X28 (nI i) (D.ro i) (nI (rs.getD i d_ru).h) (nI j) σ := by
        intro mm
        induction mm with
        | zero =>
          intro j f σ hj hf hly up lo he hj'
          have hv := stay hf
          obtain ⟨_, hB, _⟩ := hv.ru i hil
          have l5 := hB.l5
          refine h28 _ _ _ _ _ ⟨hB.ty, ?_⟩
          rw [hB.sz]
          refine ⟨fun _ => ?_, fun z => absurd (nI_le (by omega) (by omega)) z⟩
          rw [nI_1]
          refine ih (i + 1) f σ (by omega) hf hly up lo (fun i' hi' l hl hne => ?_)
          by_cases z : i' = i
          · rw [z] at hl ⊢
            obtain ⟨j', hj1, e⟩ := List.getElem_of_mem hl
            have := hj' j' (by omega)
            rw [gd_eq _ _ hj1, e] at this
            exact this hne
          · exact he i' (by omega) l hl hne
        | succ mm ihl =>
          intro j f σ hj hf hly up lo he hj'
          have hv := stay hf
          obtain ⟨_, hB, hH⟩ := hv.ru i hil
          have l5 := hB.l5
          have hjl : j < (as i).length := by omega
          obtain ⟨b1, nb, hA, _⟩ := hB.bo j hjl
          have hm := (hv.ar i hil _).mp (gd_mem hjl)
          obtain ⟨_, hrn⟩ := hv.rn _ hrm
          obtain ⟨g1, g2⟩ := hrn _ hm
          refine h28 _ _ _ _ _ ⟨hB.ty, ?_⟩
          rw [hB.sz]
          refine ⟨fun z => absurd z (nI_ge (by omega) (by omega)), fun _ => ⟨hB.ty, D.bb i, hB.rb, 5, 14, hB.tb, vp_in_nI (by omega) (by decide), D.bo i j, by rw [cl_nI (by omega)]; exact b1, hA.ty, ?_⟩⟩
          rw [hA.kd, show (2 : Int32) = nI 2 from rfl, nI_eq (by omega) (by decide), nI_1]
          refine ⟨fun z => ihl (j + 1) f σ (by omega) hf hly up lo he (fun j2 h1 h3 => ?_), fun z => ?_⟩
          · by_cases w : j2 = j
            · rw [w] at h3; exact absurd z h3
            · exact hj' j2 (by omega) h3
          · obtain ⟨s1, s2⟩ := hA.rl (by omega)
            refine ⟨hv.ty, D.la, hv.lr, hA.ty, 8, 10, hv.tl, by rw [s1]; exact vp_in_nI s2 (by decide), hv.ty, ?_⟩
            rw [s1, cl_nI (by omega), hly _ s2]
            have fL : ∀ v, f v ≤ 8 := fun v => Nat.le_trans (lo L hL hxL v) (hL8 v)
            have step : ∀ s : Nat, s = stp (rs.getD i d_ru) ((as i).getD j d_lit) → s ≤ 1 → X80 (nI i) (D.ro i) (nI (rs.getD i d_ru).h) (nI j) (nI (f ((as i).getD j d_lit).2.1)) (nI s) σ := fun s hs hs1 => by
              refine h80 _ _ _ _ _ _ _ ⟨hv.ty, D.la, hv.lr, hv.ty, D.la, hv.lr, 8, 10, hv.tl, vp_in_nI r2' (by decide), 8, 10, hv.tl, vp_in_nI r2' (by decide), fun σ1 e1 => ?_⟩
              have f1 := fL ((as i).getD j d_lit).2.1
              have f2 := fL (rs.getD i d_ru).h
              rw [cl_nI (by omega), hly _ r2', nI_k] at e1
              rw [nI_1]
              have hcmp : (nI (f (rs.getD i d_ru).h) < nI (f ((as i).getD j d_lit).2.1 + s)) ↔ f (rs.getD i d_ru).h < f ((as i).getD j d_lit).2.1 + s := nI_ltI (by omega) (by omega)
              have hmax : (if nI (f (rs.getD i d_ru).h) < nI (f ((as i).getD j d_lit).2.1 + s) then nI (f ((as i).getD j d_lit).2.1 + s) else nI (f (rs.getD i d_ru).h)) = nI (max (f (rs.getD i d_ru).h) (f ((as i).getD j d_lit).2.1 + s)) := by
                by_cases w : f (rs.getD i d_ru).h < f ((as i).getD j d_lit).2.1 + s
                · rw [if_pos (hcmp.mpr w), Nat.max_eq_right (by omega)]
                · rw [if_neg (fun y => w (hcmp.mp y)), Nat.max_eq_left (by omega)]
              rw [hmax] at e1
              have mono : ∀ v, f v ≤ (if v = (rs.getD i d_ru).h then max (f (rs.getD i d_ru).h) (f ((as i).getD j d_lit).2.1 + s) else f v) := fun v => by
                by_cases w : v = (rs.getD i d_ru).h
                · rw [if_pos w, w]; exact Nat.le_max_left _ _
                · rw [if_neg w]; exact Nat.le_refl _
              refine ihl (j + 1) (fun v => if v = (rs.getD i d_ru).h then max (f (rs.getD i d_ru).h) (f ((as i).getD j d_lit).2.1 + s) else f v) σ1 (by omega) (nf_tr hf (by rw [e1]; exact nf_sA (by simp))) (fun v hv8 => ?_) (fun v => Nat.le_trans (up v) (mono v)) (fun g hg hxg v => ?_) (fun i' hi' l hl hne => Nat.le_trans (he i' hi' l hl hne) (mono _)) (fun j2 h1 h3 => ?_)
              · rw [e1, z_A_sA, if_pos ⟨rfl, rfl⟩]
                unfold upd
                dsimp only
                by_cases w : v = (rs.getD i d_ru).h
                · rw [if_pos w, if_pos w]
                · rw [if_neg w, if_neg w]; exact hly v hv8
              · by_cases w : v = (rs.getD i d_ru).h
                · rw [if_pos w, w]
                  have a1 := lo g hg hxg (rs.getD i d_ru).h
                  have a2 := lo g hg hxg ((as i).getD j d_lit).2.1
                  have a3 := hg.2 _ hrm _ hm z
                  rw [← hs] at a3
                  exact Nat.max_le.mpr ⟨a1, by omega⟩
                · rw [if_neg w]; exact lo g hg hxg v
              · by_cases w : j2 = j
                · rw [if_pos rfl, w, ← hs]
                  have := up ((as i).getD j d_lit).2.1
                  exact Nat.le_trans (by omega) (Nat.le_max_right _ _)
                · exact Nat.le_trans (hj' j2 (by omega) h3) (mono _)
            have est := stp_b (r := rs.getD i d_ru) g1 z
            refine cl_below hH hA _ (fun hst => ⟨fun w => absurd w (by decide), fun _ => ?_⟩) (fun hst => ⟨fun _ => ?_, fun w => absurd rfl w⟩)
            · exact step 1 (by rw [est, if_pos hst]) (Nat.le_refl _)
            · exact step 0 (by rw [est, if_neg hst]) (Nat.zero_le _)
      exact lits (as i).length 0 f σ (by omega) hf hly up lo he (fun j' h => absurd h (Nat.not_lt_zero _))
  exact rules rs.length 0 x σ0 (by omega) (nf_rf _ _ _) hx (fun v => Nat.le_refl _) (fun g _ h => h) (fun i' h => absurd h (Nat.not_lt_zero _))
/-- if there is a solution there is a least one -/
theorem least_ex {rs : List ru_T} {f : Nat → Nat} (h : Sol rs f) : ∃ L, least rs L := by
  have pick : ∀ v, ∃ d, (∃ g, Sol rs g ∧ g v = d) ∧ ∀ y, y < d → ¬ ∃ g, Sol rs g ∧ g v = y := fun v => lst_ex (P := fun d => ∃ g, Sol rs g ∧ g v = d) ⟨f v, f, h, rfl⟩
  refine ⟨fun v => Classical.choose (pick v), ⟨fun v => ?_, fun r hr l hl hne => ?_⟩, fun g hg v => ?_⟩
  · obtain ⟨⟨g, g1, g2⟩, _⟩ := Classical.choose_spec (pick v)
    show bs rs v ≤ Classical.choose (pick v)
    rw [← g2]; exact g1.1 v
  · obtain ⟨⟨g, g1, g2⟩, _⟩ := Classical.choose_spec (pick r.h)
    obtain ⟨_, hmin⟩ := Classical.choose_spec (pick l.2.1)
    show Classical.choose (pick l.2.1) + stp r l ≤ Classical.choose (pick r.h)
    rw [← g2]
    have := g1.2 r hr l hl hne
    have : Classical.choose (pick l.2.1) ≤ g l.2.1 := Nat.le_of_not_lt (fun z => hmin _ z ⟨g, g1, rfl⟩)
    omega
  · obtain ⟨_, hmin⟩ := Classical.choose_spec (pick v)
    exact Nat.le_of_not_lt (fun z => hmin _ z ⟨g, hg, rfl⟩)
theorem least_un {rs : List ru_T} {L L' : Nat → Nat} (h : least rs L) (h' : least rs L') : L = L' := funext (fun v => Nat.le_antisymm (h.2 L' h'.1 v) (h'.2 L h.1 v))
theorem least_0 {rs : List ru_T} {L : Nat → Nat} {n : Nat} (hn : ∀ r ∈ rs, r.h < n) (h : least rs L) {v : Nat} (hv : ¬ v < n) : L v = 0 := by
  have hS : Sol rs (fun u => if u < n then L u else 0) := by
    refine ⟨fun u => ?_, fun r hr l hl hne => ?_⟩
    · dsimp only
      split
      · exact h.1.1 u
      · rename_i z
        unfold bs
        rw [if_neg]
        · exact Nat.zero_le _
        · intro y
          obtain ⟨r, hr, e⟩ := List.any_eq_true.mp y
          have := hn r hr
          have := of_decide_eq_true e
          omega
    · dsimp only
      rw [if_pos (hn r hr)]
      have := h.1.2 r hr l hl hne
      split <;> omega
  have := h.2 _ hS v
  rw [if_neg hv] at this
  omega
/-- how many are at their layer -/
noncomputable def atL (x L : Nat → Nat) : Nat := ((List.range 8).filter (fun v => cb (x v = L v))).length
theorem cl_layers {σ0 : z_S} {D : pa_T} {ra n : Nat} {rs : List ru_T} {as : Nat → List lit_T} {A : Nat → Nat} (hv0 : rv σ0 D ra n rs as A) (h11 : ∀ v, z_A σ0 11 ra v = 0) (h10 : ∀ v, z_A σ0 10 D.la v = 0) (h7 : z_I σ0 207 D.p = 0) (h8 : z_I σ0 208 D.p = 0) (h9 : ∀ v, v < 8 → (bi (z_I σ0 209 D.p) v = true ↔ ∃ r ∈ rs, r.h = v)) (P : Int32 → z_S → Prop)
    (h1 : ∀ L top σ, ¬ rng rs → least rs L → (∀ v, L v ≤ 8) → (∀ v, L v ≤ top) → (top = 0 ∨ ∃ v, v < n ∧ L v = top) → lyS σ D.la L → z_I σ 207 D.p = nI top → z_I σ 208 D.p = 0 → rb σ ra (rea rs) → nf [(207, D.p), (208, D.p)] [(10, D.la), (11, ra)] σ0 σ → P 1 σ)
    (h0 : ∀ x σ, x < n → bad rs x → (∀ y, y < x → ¬ bad rs y) → (∀ k, k < 32 → (bi (z_I σ 208 D.p) k = true ↔ k < n ∧ rea rs x k ∧ rea rs k x)) → rb σ ra (rea rs) → nf [(207, D.p), (208, D.p)] [(10, D.la), (11, ra)] σ0 σ → P 0 σ) : kp_Pr_findLayers D.p σ0 P := by
  intro X19 X45 X54 X72 h19 h45 h54 h72
  have n8 := hv0.n8
  refine ⟨hv0.ty, cl_reach hv0 h11 _ (fun σ1 f1 hr1 => ?_)⟩
  have hv1 := rv_nf hv0 f1 (by simp) (by simp)
  refine ⟨hv1.ty, cl_ring hv1 hr1 (by rw [f1.I _ _ (by simp)]; exact h8) _ (fun σ2 f2 hg => ?_)⟩
  have hv2 := rv_nf hv1 f2 (by simp) (by simp)
  have hr2 : rb σ2 ra (rea rs) := fun v u a1 a2 => by rw [f2.A _ _ (by simp)]; exact hr1 v u a1 a2
  have F2 : nf [(207, D.p), (208, D.p)] [(10, D.la), (11, ra)] σ0 σ2 := nf_tr (nf_mo f1 (by simp) (by simp)) (nf_mo f2 (by simp) (by simp))
  have eN : ∀ v u, rea rs v u → v < n ∧ u < n := fun v u h => way_ind (P := fun v u => v < n ∧ u < n) (fun v u ⟨r, hr, e, l, hl, h1, h2⟩ => by
    obtain ⟨a1, a2⟩ := hv0.rn r hr
    obtain ⟨a3, a4⟩ := a2 l hl
    exact ⟨by omega, by rw [← h2]; exact a4 (by omega)⟩) (fun v w u h1 h2 => ⟨h1.1, h2.2⟩) h
  have badQ : ∀ x, bad rs x ↔ ∃ v, (∃ u, badE rs v u) ∧ eqv rs x v := fun x => by
    constructor
    · rintro ⟨v, u, b1, b2⟩
      refine ⟨v, ⟨u, b1⟩, ?_⟩
      rcases b2 with y | y
      · have hE := edgS_e b1.1
        have hu := (eN _ _ (rea_e hE)).2
        have := rea_tr (by omega) (rea_e hE) b1.2
        rw [← y]; exact ⟨this, this⟩
      · exact y
    · rintro ⟨v, ⟨u, b1⟩, b2⟩
      exact ⟨v, u, b1, Or.inr b2⟩
  refine ⟨hv2.ty, fun z => ?_, fun z => ?_⟩
  rotate_left
  · rcases hg with ⟨y, _⟩ | ⟨x, x1, x2, x3, x4⟩
    · exact absurd y z
    · refine h0 x σ2 x1 ((badQ x).mpr x2) (fun y hy hb => ?_) x4 hr2 F2
      have := x3 y (by omega) ((badQ y).mp hb)
      omega
  -- no ring
  have hnr : ¬ rng rs := by
    rcases hg with ⟨_, y⟩ | ⟨x, x1, x2, x3, x4⟩
    · rintro ⟨v, u, e1, e2⟩
      exact y v ⟨u, e1, e2⟩
    · exfalso
      obtain ⟨v, y1, y2⟩ := x2
      have v8 : v < 8 := by have := (eN _ _ y2.1).2; omega
      have := (x4 x (by omega)).mpr ⟨x1, rea_tr v8 y2.1 y2.2, rea_tr v8 y2.1 y2.2⟩
      rw [z, bi_0] at this
      cases this
  have hphi := phi_sol (rs := rs) (fun r hr => by
    obtain ⟨a1, a2⟩ := hv0.rn r hr
    exact ⟨by omega, fun l hl => ⟨(a2 l hl).1, fun h => by have := (a2 l hl).2 h; omega⟩⟩) hnr
  obtain ⟨L, hL⟩ := least_ex hphi
  have hL8 : ∀ v, L v ≤ 8 := fun v => Nat.le_trans (hL.2 _ hphi v) (phi_le rs v)
  have hb1 : ∀ v, bs rs v = 1 ↔ ∃ r ∈ rs, r.h = v := fun v => by
    unfold bs
    by_cases y : rs.any (fun r => decide (r.h = v)) = true
    · rw [if_pos y]
      obtain ⟨r, hr, e⟩ := List.any_eq_true.mp y
      exact ⟨fun _ => ⟨r, hr, of_decide_eq_true e⟩, fun _ => rfl⟩
    · rw [if_neg y]
      exact ⟨fun w => absurd w (by decide), fun ⟨r, hr, e⟩ => absurd (List.any_eq_true.mpr ⟨r, hr, decide_eq_true e⟩) y⟩
  have hbs0 : ∀ v, ¬ v < n → bs rs v = 0 := fun v hv => by
    have := bs_le rs v
    by_cases y : bs rs v = 1
    · obtain ⟨r, hr, e⟩ := (hb1 v).mp y
      have := (hv0.rn r hr).1
      omega
    · omega
  have stay : ∀ {σ}, nf [(207, D.p)] [(10, D.la)] σ2 σ → rv σ D ra n rs as A := fun f => rv_nf hv2 f (by simp) (by simp)
  -- the highest layer
  have x72 : ∀ m i top (σ : z_S), i + m = n → nf [(207, D.p)] [(10, D.la)] σ2 σ → lyS σ D.la L → z_I σ 207 D.p = nI top → top ≤ 8 → (∀ v, v < i → L v ≤ top) → (top = 0 ∨ ∃ v, v < n ∧ L v = top) → X72 (nI i) σ := by
    intro m
    induction m with
    | zero =>
      intro i top σ hi hf hly ht t8 hle hex
      have hv := stay hf
      refine h72 _ _ ⟨hv.ty, ?_⟩
      rw [hv.n6]
      refine ⟨fun _ => h1 L top σ hnr hL hL8 (fun v => ?_) hex hly ht (by rw [hf.I _ _ (by simp)]; exact z) (fun v u a1 a2 => by rw [hf.A _ _ (by simp)]; exact hr2 v u a1 a2) (nf_tr F2 (nf_mo hf (by simp) (by simp))), fun y => absurd (nI_le (by omega) (by omega)) y⟩
      by_cases y : v < n
      · exact hle v (by omega)
      · rw [least_0 (fun r hr => (hv0.rn r hr).1) hL y]; exact Nat.zero_le _
    | succ m ih =>
      intro i top σ hi hf hly ht t8 hle hex
      have hv := stay hf
      have i8 : i < 8 := by omega
      have hLi := hL8 i
      refine h72 _ _ ⟨hv.ty, ?_⟩
      rw [hv.n6]
      refine ⟨fun y => absurd y (nI_ge (by omega) (by omega)), fun _ => ⟨hv.ty, hv.ty, D.la, hv.lr, 8, 10, hv.tl, vp_in_nI i8 (by decide), hv.ty, fun σ3 e3 => ?_⟩⟩
      rw [cl_nI (by omega), hly i i8, ht] at e3
      have hcmp : nI top < nI (L i) ↔ top < L i := nI_ltI (by omega) (by omega)
      rw [nI_1]
      have f3 : nf [(207, D.p)] [(10, D.la)] σ2 σ3 := nf_tr hf (by rw [e3]; exact nf_sI (by simp))
      have hly3 : lyS σ3 D.la L := fun v hv8 => by rw [e3, z_A_sI]; exact hly v hv8
      by_cases y : top < L i
      · refine ih (i + 1) (L i) σ3 (by omega) f3 hly3 (by rw [e3, z_I_sI, if_pos ⟨rfl, rfl⟩, if_pos (hcmp.mpr y)]) hLi (fun v hv1 => ?_) (Or.inr ⟨i, by omega, rfl⟩)
        by_cases w : v = i
        · rw [w]; exact Nat.le_refl _
        · exact Nat.le_trans (hle v (by omega)) (by omega)
      · refine ih (i + 1) top σ3 (by omega) f3 hly3 (by rw [e3, z_I_sI, if_pos ⟨rfl, rfl⟩, if_neg (fun w => y (hcmp.mp w))]) t8 (fun v hv1 => ?_) hex
        by_cases w : v = i
        · rw [w]; omega
        · exact hle v (by omega)
  -- eight turns
  have x54 : ∀ m k (x : Nat → Nat) (σ : z_S), k + m = 8 → nf [(207, D.p)] [(10, D.la)] σ2 σ → z_I σ 207 D.p = 0 → lyS σ D.la x → (∀ v, bs rs v ≤ x v) → (∀ v, x v ≤ L v) → ((∀ v, v < 8 → x v = L v) ∨ k ≤ atL x L) → X54 (nI k) σ := by
    intro m
    induction m with
    | zero =>
      intro k x σ hk hf h7' hly hb hxL hc
      rw [show k = 8 by omega]
      refine h54 _ _ ⟨fun _ => ?_, fun y => absurd (nI_le (a := 8) (by omega) (by omega)) y⟩
      have hall : ∀ v, v < 8 → x v = L v := by
        rcases hc with hc | hc
        · exact hc
        · intro v hv
          refine Classical.byContradiction (fun hne => ?_)
          have : atL x L < ((List.range 8).filter (fun _ => true)).length := flt_lt (y := v) (fun _ _ _ => rfl) (List.mem_range.mpr hv) (cb_f hne) rfl
          have e8 : ((List.range 8).filter (fun _ => true)).length = 8 := by decide
          rw [e8] at this
          omega
      exact x72 n 0 0 σ (by omega) hf (fun v hv => by rw [hly v hv, hall v hv]) (by rw [h7']; rfl) (by omega) (fun v hv => absurd hv (Nat.not_lt_zero _)) (Or.inl rfl)
    | succ m ih =>
      intro k x σ hk hf h7' hly hb hxL hc
      have hv := stay hf
      refine h54 _ _ ⟨fun y => absurd y (nI_ge (b := 8) (by omega) (by decide)), fun _ => ⟨hv.ty, cl_raise hv hL.1 hL8 hxL hly _ (fun y σ3 hp hly3 f3 => ?_)⟩⟩
      rw [nI_1]
      have hyL : ∀ v, y v ≤ L v := hp.lo L hL.1 hxL
      refine ih (k + 1) y σ3 (by omega) (nf_tr hf (nf_mo f3 (by simp) (by simp))) (by rw [f3.I _ _ (by simp)]; exact h7') hly3 (fun v => Nat.le_trans (hb v) (hp.up v)) hyL ?_
      have keep : ∀ v, x v = L v → y v = L v := fun v h => Nat.le_antisymm (hyL v) (by rw [← h]; exact hp.up v)
      by_cases w : ∀ v, v < 8 → x v = L v
      · exact Or.inl (fun v hv => keep v (w v hv))
      · have hk2 : k ≤ atL x L := hc.resolve_left w
        have hne : ∃ v, x v ≠ L v := Classical.byContradiction (fun hno => w (fun v _ => Classical.byContradiction (fun q => hno ⟨v, q⟩)))
        obtain ⟨v, v1, v2⟩ := pass_grow hp hL hb hxL hne
        have hv8 : v < 8 := by
          refine Classical.byContradiction (fun q => v1 ?_)
          have h0 := least_0 (fun r hr => (hv0.rn r hr).1) hL (v := v) (by omega)
          have := hxL v
          omega
        have : atL x L < atL y L := flt_lt (y := v) (fun u _ h => cb_t.mpr (keep u (cb_t.mp h))) (List.mem_range.mpr hv8) (cb_f v1) (cb_t.mpr v2)
        exact Or.inr (by omega)
  -- where it begins
  have x19 : ∀ m i (σ : z_S), i + m = n → nf [] [(10, D.la)] σ2 σ → (∀ v, v < 8 → z_A σ 10 D.la v = if v < i then nI (bs rs v) else 0) → X19 (nI i) σ := by
    intro m
    induction m with
    | zero =>
      intro i σ hi hf hly
      have hf' : nf [(207, D.p)] [(10, D.la)] σ2 σ := nf_mo hf (by simp) (by simp)
      have hv := stay hf'
      refine h19 _ _ ⟨hv.ty, ?_⟩
      rw [hv.n6]
      refine ⟨fun _ => x54 8 0 (bs rs) σ (by omega) hf' (by rw [hf.I _ _ (by simp), f2.I _ _ (by simp), f1.I _ _ (by simp)]; exact h7) (fun v hv8 => ?_) (fun v => Nat.le_refl _) hL.1.1 (Or.inr (Nat.zero_le _)), fun y => absurd (nI_le (by omega) (by omega)) y⟩
      rw [hly v hv8]
      by_cases y : v < i
      · rw [if_pos y]
      · rw [if_neg y, hbs0 v (by omega)]; rfl
    | succ m ih =>
      intro i σ hi hf hly
      have hf' : nf [(207, D.p)] [(10, D.la)] σ2 σ := nf_mo hf (by simp) (by simp)
      have hv := stay hf'
      have i8 : i < 8 := by omega
      refine h19 _ _ ⟨hv.ty, ?_⟩
      rw [hv.n6]
      refine ⟨fun y => absurd y (nI_ge (by omega) (by omega)), fun _ => ⟨hv.ty, D.la, hv.lr, hv.ty, hv.ty, ⟨fun y => absurd y (nI_pos (by omega)), fun _ => ⟨hv.ty, ?_⟩⟩⟩⟩
      rw [hv.n6]
      refine ⟨fun y => absurd y (nI_ge (by omega) (by omega)), fun _ => ⟨fun y => absurd y (by decide), fun _ => ⟨hv.ty, vr_isIn _ i σ _ ?_⟩⟩⟩
      have h9i := h9 i i8
      have e9 : z_I σ 209 D.p = z_I σ0 209 D.p := by rw [hf.I _ _ (by simp), f2.I _ _ (by simp), f1.I _ _ (by simp)]
      rw [e9]
      have put : ∀ b : Nat, b = bs rs i → X45 (nI i) D.la (nI i) (nI b) σ := fun b hb => h45 _ _ _ _ _ ⟨8, 10, hv.tl, vp_in_nI i8 (by decide), fun σ3 e3 => by
        rw [cl_nI (by omega)] at e3
        rw [nI_1]
        refine ih (i + 1) σ3 (by omega) (nf_tr hf (by rw [e3]; exact nf_sA (by simp))) (fun v hv8 => ?_)
        rw [e3, z_A_sA, if_pos ⟨rfl, rfl⟩]
        unfold upd
        by_cases w : v = i
        · rw [if_pos w, if_pos (by omega), w, hb]
        · rw [if_neg w, hly v hv8]
          by_cases q : v < i
          · rw [if_pos q, if_pos (by omega)]
          · rw [if_neg q, if_neg (by omega)]⟩
      cases hbb : bi (z_I σ0 209 D.p) i with
      | true => exact ⟨fun y => absurd y (by decide), fun _ => ⟨fun y => absurd y (by decide), fun _ => put 1 ((hb1 i).mpr (h9i.mp hbb)).symm⟩⟩
      | false =>
        refine ⟨fun _ => ⟨fun _ => put 0 ?_, fun y => absurd rfl y⟩, fun y => absurd rfl y⟩
        have := bs_le rs i
        by_cases q : bs rs i = 1
        · rw [h9i.mpr ((hb1 i).mp q)] at hbb; cases hbb
        · omega
  exact x19 n 0 σ2 (by omega) (nf_rf _ _ _) (fun v hv8 => by rw [if_neg (by omega), f2.A _ _ (by simp), f1.A _ _ (by simp)]; exact h10 v)
