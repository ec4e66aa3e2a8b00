/-! the state of the engine: rows, queue, end; a row found -/
abbrev gs_T : Type := (Nat → al_T) × (List (Nat × Nat)) × (Bool)
abbrev gs_T.T (x : gs_T) : Nat → al_T := x.1
abbrev gs_T.q (x : gs_T) : List (Nat × Nat) := x.2.1
abbrev gs_T.fl (x : gs_T) : Bool := x.2.2
def qu_L (X : ex_T) (σ : z_S) (q : List (Nat × Nat)) : Prop := z_I σ 104 X.a = nI q.length ∧ q.length ≤ 320 ∧ ∀ i, i < q.length → z_A σ 4 X.q i = nI (q.getD i (0, 0)).1 ∧ z_A σ 5 X.k i = nI (q.getD i (0, 0)).2
def es (X : ex_T) (go : Nat) (g : gs_T) (σ : z_S) : Prop := (en_T X σ) ∧ (rw_L X σ g.T) ∧ (z_R σ 111 X.a = some X.w) ∧ (z_I σ 106 X.a = nI go) ∧ (z_I σ 108 X.a = if g.fl then 1 else 0) ∧ (cpos g.T) ∧ (go = 0 → g.fl = false → qu_L X σ g.q)
theorem es.en {X : ex_T} {go : Nat} {g : gs_T} {σ : z_S} (h' : es X go g σ) : en_T X σ := h'.1
theorem es.rw {X : ex_T} {go : Nat} {g : gs_T} {σ : z_S} (h' : es X go g σ) : rw_L X σ g.T := h'.2.1
theorem es.hw {X : ex_T} {go : Nat} {g : gs_T} {σ : z_S} (h' : es X go g σ) : z_R σ 111 X.a = some X.w := h'.2.2.1
theorem es.gl {X : ex_T} {go : Nat} {g : gs_T} {σ : z_S} (h' : es X go g σ) : z_I σ 106 X.a = nI go := h'.2.2.2.1
theorem es.f {X : ex_T} {go : Nat} {g : gs_T} {σ : z_S} (h' : es X go g σ) : z_I σ 108 X.a = if g.fl then 1 else 0 := h'.2.2.2.2.1
theorem es.cp {X : ex_T} {go : Nat} {g : gs_T} {σ : z_S} (h' : es X go g σ) : cpos g.T := h'.2.2.2.2.2.1
theorem es.qu {X : ex_T} {go : Nat} {g : gs_T} {σ : z_S} (h' : es X go g σ) : go = 0 → g.fl = false → qu_L X σ g.q := h'.2.2.2.2.2.2
theorem qu_vf {X : ex_T} {σ σ' : z_S} {q : List (Nat × Nat)} (h : qu_L X σ q) (f : vf X σ σ') : qu_L X σ' q := ⟨by rw [vf_I f (by decide)]; exact h.1, h.2.1, fun i hi => by rw [vf_A f (by decide), vf_A f (by decide)]; exact h.2.2 i hi⟩
theorem vf_R {X : ex_T} {σ σ' : z_S} (h : vf X σ σ') (f a : Nat) : z_R σ' f a = z_R σ f a := by
  obtain ⟨F, y, rfl⟩ := h
  rfl
theorem es_vf {X : ex_T} {go : Nat} {g : gs_T} {σ σ' : z_S} (h : es X go g σ) (f : vf X σ σ') : es X go g σ' := ⟨en_T_ef h.en (vf_ef f), rw_L_vf h.rw f, by rw [vf_R f]; exact h.hw, by rw [vf_I f (by decide)]; exact h.gl, by rw [vf_I f (by decide)]; exact h.f, h.cp, fun z q => qu_vf (h.qu z q) f⟩
/-- the head of a rule in the store -/
def hd_L (σ : z_S) (ro h : Nat) (ts : tm_T) (c : Bool) (n hb : Nat) : Prop := (z_ty σ ro = some (.inl 5)) ∧ (z_R σ 500 ro = some hb) ∧ (at_L σ hb (0, h, ts) n) ∧ (z_I σ 504 ro = if c then 1 else 0)
theorem hd_L.ty {σ : z_S} {ro h : Nat} {ts : tm_T} {c : Bool} {n hb : Nat} (h' : hd_L σ ro h ts c n hb) : z_ty σ ro = some (.inl 5) := h'.1
theorem hd_L.rh {σ : z_S} {ro h : Nat} {ts : tm_T} {c : Bool} {n hb : Nat} (h' : hd_L σ ro h ts c n hb) : z_R σ 500 ro = some hb := h'.2.1
theorem hd_L.at' {σ : z_S} {ro h : Nat} {ts : tm_T} {c : Bool} {n hb : Nat} (h' : hd_L σ ro h ts c n hb) : at_L σ hb (0, h, ts) n := h'.2.2.1
theorem hd_L.ct {σ : z_S} {ro h : Nat} {ts : tm_T} {c : Bool} {n hb : Nat} (h' : hd_L σ ro h ts c n hb) : z_I σ 504 ro = if c then 1 else 0 := h'.2.2.2
theorem hd_L_ef {X : ex_T} {σ σ' : z_S} {ro h n hb : Nat} {ts : tm_T} {c : Bool} (hh : hd_L σ ro h ts c n hb) (f : ef X σ σ') : hd_L σ' ro h ts c n hb := ⟨by rw [f.1]; exact hh.ty, by rw [f.2.1 500 _ (by omega)]; exact hh.rh, at_L_ef hh.at' f, by rw [f.2.2.2.1 504 _ (by omega) (fun q => by omega)]; exact hh.ct⟩
theorem en_isNN {X : ex_T} {go : Nat} {g : gs_T} {σ : z_S} (hS : es X go g σ) {ro h n hb : Nat} {ts : tm_T} {c : Bool} (hr : z_R σ 110 X.a = some ro) (hh : hd_L σ ro h ts c n hb) {e : ev_T} (he : eV X σ e) (hgo : go < 3) (P : Int32 → z_S → Prop) (h0 : ¬ (go = 0 ∧ c = false ∧ (∀ k, vin3 ts k → e k ≠ none) ∧ hk3 e ts ∈ ks g.T h) → P 0 σ) (h1 : go = 0 → c = false → (∀ k, vin3 ts k → e k ≠ none) → hk3 e ts ∈ ks g.T h → P 1 σ) : kp_En_isNothingNew X.a σ P := by
  have hE := hS.en
  have hA := hh.at'
  obtain ⟨r1, r2⟩ : z_I σ 3 hb = nI h ∧ h < 8 := hA.rl (Nat.zero_le 1)
  refine ⟨hE.ty, ro, hr, hh.ty, hb, hh.rh, hE.ty, fun q => ?_, fun q => ⟨hE.ty, ro, hr, hh.ty, fun q2 => ?_, fun q2 => ⟨hA.ty, hE.ty, fun q3 => ?_, fun q3 => ?_⟩⟩⟩
  · exact h0 (fun z => q (by rw [hS.gl, z.1]; rfl))
  · exact h0 (fun z => q2 (by rw [hh.ct, z.2.1]; rfl))
  · have hgo0 : go = 0 := by
      rw [hS.gl] at q
      exact (nI_eq (b := 0) (by omega) (by decide)).mp q
    have hc : c = false := by
      cases hc : c with
      | false => rfl
      | true => rw [hh.ct, hc] at q2; exact absurd q2 (by decide)
    have hbn : ∀ k, vin3 ts k → e k ≠ none := fun k hk => by
      have := bi_sub.mp q3 k (by have := hk.1; omega) ((hA.lt k (by have := hk.1; omega)).mpr hk)
      rw [he.kn k hk.1] at this
      intro z
      rw [z] at this
      cases this
    refine ⟨hE.ty, X.w, hS.hw, hA.ty, 8, X.s, hS.rw.1.tw, by rw [r1]; exact vp_in_nI r2 (by decide), X.ra h, by rw [r1, cl_nI (by have : h < 8 := r2; omega)]; exact hS.rw.1.qw _ r2, hE.ty, en_keyOf hE he hA hbn _ ⟨(hS.rw.1.ro _ r2).1, ?_⟩⟩
    have hlt : hk3 e ts < 1000000000 := hk3_lt he.ok hA.to
    refine ro_countOf (hS.rw.2 _ r2) hlt _ ?_
    have hp := al_get_pos (l := g.T h) (key := hk3 e ts) (fun p hp => (hS.cp _ r2 p hp).1)
    have hbd := al_get_bd (key := hk3 e ts) (by decide : (0 : Int) ≤ 100000) (hS.cp _ r2)
    have hle : Int32.ofInt (al_get (g.T h) (hk3 e ts)) ≤ 0 ↔ ¬ hk3 e ts ∈ ks g.T h := by
      rw [ks_in, ← hp.1, show (0 : Int32) = nI 0 from rfl, ofI_le (by omega) (by omega) 0 (by decide)]
      omega
    exact ⟨fun z => h0 (fun y => hle.mp z y.2.2.2), fun z => h1 hgo0 hc hbn (Classical.not_not.mp (fun y => z (hle.mpr y)))⟩
  · refine h0 (fun z => q3 (bi_sub.mpr (fun i hi hb => ?_)))
    have hv := (hA.lt i hi).mp hb
    rw [he.kn i hv.1]
    cases hk : e i with
    | none => exact absurd hk (z.2.2.1 i hv)
    | some v => rfl
theorem en_enq {X : ex_T} {σ : z_S} (hE : en_T X σ) {q : List (Nat × Nat)} (hq : qu_L X σ q) (v key : Nat) (P : z_S → Prop) (h1 : 320 ≤ q.length → P σ) (h0 : q.length < 320 → ∀ F G, qu_L X (z_sI (z_sA (z_sA σ 4 X.q F) 5 X.k G) 104 X.a (nI (q.length + 1))) (q ++ [(v, key)]) → P (z_sI (z_sA (z_sA σ 4 X.q F) 5 X.k G) 104 X.a (nI (q.length + 1)))) : kp_En_enqueue X.a (nI v) (nI key) σ P := by
  obtain ⟨q1, q2, q3⟩ := hq
  refine ⟨hE.ty, ?_⟩
  rw [q1]
  refine ⟨fun z => h1 ((nI_leI (a := 320) (by decide) (by omega)).mp z), fun z => ?_⟩
  have hlt : q.length < 320 := by
    by_cases y : q.length < 320
    · exact y
    · exact absurd (nI_le (a := 320) (by omega) (by omega)) z
  refine ⟨hE.ty, X.q, hE.rq, hE.ty, 320, 4, hE.tq, vp_in_nI hlt (by decide), fun σ19 e19 => ?_⟩
  rw [cl_nI (by omega)] at e19
  have h104 : z_I σ19 104 X.a = nI q.length := by rw [e19]; exact q1
  refine ⟨by rw [e19]; exact hE.ty, X.k, by rw [e19]; exact hE.rk, by rw [e19]; exact hE.ty, 320, 5, by rw [e19]; exact hE.tk, by rw [h104]; exact vp_in_nI hlt (by decide), fun σ29 e29 => ?_⟩
  rw [h104, cl_nI (by omega)] at e29
  have h104' : z_I σ29 104 X.a = nI q.length := by rw [e29]; exact h104
  refine ⟨by rw [e29, e19]; exact hE.ty, by rw [e29, e19]; exact hE.ty, fun σ37 e37 => ?_⟩
  rw [h104', nI_1] at e37
  rw [e37, e29, e19]
  refine h0 hlt _ _ ⟨?_, ?_, fun i hi => ?_⟩
  · rw [z_I_sI, if_pos ⟨rfl, rfl⟩, List.length_append]; rfl
  · rw [List.length_append]; exact hlt
  · rw [List.length_append, List.length_singleton] at hi
    have ha : z_A (z_sA σ 4 X.q (upd (z_A σ 4 X.q) q.length (nI v))) 5 X.k = z_A σ 5 X.k := by
      rw [z_A_sA, if_neg (fun z => absurd z.1 (by decide))]
    rw [z_A_sI, z_A_sI, ha]
    have hb : z_A (z_sA (z_sA σ 4 X.q (upd (z_A σ 4 X.q) q.length (nI v))) 5 X.k (upd (z_A σ 5 X.k) q.length (nI key))) 4 X.q = upd (z_A σ 4 X.q) q.length (nI v) := by
      rw [z_A_sA, if_neg (fun z => absurd z.1 (by decide)), z_A_sA, if_pos ⟨rfl, rfl⟩]
    have hc : z_A (z_sA (z_sA σ 4 X.q (upd (z_A σ 4 X.q) q.length (nI v))) 5 X.k (upd (z_A σ 5 X.k) q.length (nI key))) 5 X.k = upd (z_A σ 5 X.k) q.length (nI key) := by
      rw [z_A_sA, if_pos ⟨rfl, rfl⟩]
    rw [hb, hc, gd_snoc]
    unfold upd
    by_cases y : i = q.length
    · simp only [if_pos y, if_neg (show ¬ i < q.length by omega)]
      exact ⟨trivial, trivial⟩
    · simp only [if_neg y, if_pos (show i < q.length by omega)]
      exact q3 i (by omega)
theorem ef_enq {X : ex_T} {σ : z_S} (F G : Nat → Int32) (y : Int32) : ef X σ (z_sI (z_sA (z_sA σ 4 X.q F) 5 X.k G) 104 X.a y) := ef_tr (ef_sA (by omega) (by omega)) (ef_tr (ef_sA (by omega) (by omega)) (ef_sI (by omega) (by omega)))
/-- one list in place of another -/
def tset (T : Nat → al_T) (h : Nat) (l : al_T) : Nat → al_T := fun v => if v = h then l else T v
theorem ro_L_fr {X : ex_T} {σ σ' : z_S} {T : Nat → al_T} (hW : rw_L X σ T) {h : Nat} (hh : h < 8) {l : al_T} (hf : ro_fr σ σ' (X.ra h) (X.ka h) (X.ca h)) (hl : ro_L σ' (X.ra h) (X.ka h) (X.ca h) l) : rw_L X σ' (tset T h l) := by
  refine ⟨rw_T_ef hW.1 (ef_ro hh hf), fun i hi => ?_⟩
  unfold tset
  by_cases g : i = h
  · rw [if_pos g, g]; exact hl
  · rw [if_neg g]
    obtain ⟨h1, h2, h3, h4, h5, h6⟩ := hW.2 i hi
    obtain ⟨F, G, y, e⟩ := hf
    have a1 : z_I σ' 402 (X.ra i) = z_I σ 402 (X.ra i) := by
      rw [e, z_I_sI, if_neg (fun z => g (hW.1.ia i h hi hh z.2))]; rfl
    have a2 : z_A σ' 12 (X.ka i) = z_A σ 12 (X.ka i) := by
      rw [e, z_A_sI]
      unfold ro_w
      rw [z_A_sA, if_neg (fun z => absurd z.1 (by decide)), z_A_sA, if_neg (fun z => g (hW.1.ik i h hi hh z.2))]
    have a3 : z_A σ' 13 (X.ca i) = z_A σ 13 (X.ca i) := by
      rw [e, z_A_sI]
      unfold ro_w
      rw [z_A_sA, if_neg (fun z => g (hW.1.ic i h hi hh z.2)), z_A_sA, if_neg (fun z => absurd z.1 (by decide))]
    refine ⟨?_, by rw [a1]; exact h2, h3, h4, h5, fun j hj => by rw [a2, a3]; exact h6 j hj⟩
    rw [e]; exact h1
/-- a row is found, where rows are wanted -/
theorem en_found0 {X : ex_T} {g : gs_T} {σ : z_S} (hS : es X 0 g σ) {ro h n hb : Nat} {ts : tm_T} {c : Bool} (hr : z_R σ 110 X.a = some ro) (hh : hd_L σ ro h ts c n hb) {e : ev_T} (he : eV X σ e) (hbn : ∀ k, vin3 ts k → e k ≠ none) (hroom : (g.T h).length < 100) (P : z_S → Prop)
    (hP : ∀ σ', rw_L X σ' (tset g.T h (al_add (g.T h) (hk3 e ts) 1)) → ef X σ σ' → (∀ f, f ≠ 402 → f ≠ 108 → z_I σ' f X.a = z_I σ f X.a) → (∀ f, z_R σ' f X.a = z_R σ f X.a) → (∀ t a, t < 12 → z_A σ' t a = z_A σ t a) → z_I σ' 108 X.a = (if decide (40 < (al_add (g.T h) (hk3 e ts) 1).length ∨ 999 < al_get (g.T h) (hk3 e ts) + 1) then 1 else 0) → if c then P σ' else kp_En_enqueue X.a (nI h) (nI (hk3 e ts)) σ' P) : kp_En_found X.a σ P := by
  intro X64 X126 h64 h126
  have hE := hS.en
  have hA := hh.at'
  obtain ⟨r1, r2⟩ : z_I σ 3 hb = nI h ∧ h < 8 := hA.rl (Nat.zero_le 1)
  have hlt : hk3 e ts < 1000000000 := hk3_lt he.ok hA.to
  have hbd := al_get_bd (key := hk3 e ts) (by decide : (0 : Int) ≤ 100000) (hS.cp _ r2)
  refine ⟨hE.ty, fun q => absurd (by rw [hS.gl]; rfl) q, fun _ => ⟨hE.ty, X.w, hS.hw, hE.ty, ro, hr, hh.ty, hb, hh.rh, hA.ty, 8, X.s, hS.rw.1.tw, by rw [r1]; exact vp_in_nI r2 (by decide), X.ra h, by rw [r1, cl_nI (by have : h < 8 := r2; omega)]; exact hS.rw.1.qw _ r2, hE.ty, ro, hr, hh.ty, hb, hh.rh, hE.ty, en_keyOf hE he hA hbn _ ⟨(hS.rw.1.ro _ r2).1, ?_⟩⟩⟩
  refine ro_add (hS.rw.2 _ r2) hlt 1 (Or.inr hroom) _ (fun σ38 hL hf => ?_)
  have hrw := ro_L_fr hS.rw r2 hf hL
  have hef : ef X σ σ38 := ef_ro r2 hf
  have hE38 := en_T_ef hE hef
  have hh38 := hd_L_ef hh hef
  have hlen := hL.2.2.1
  have hI : ∀ f a, f ≠ 402 → z_I σ38 f a = z_I σ f a := fun f a hf' => by
    obtain ⟨F, G, y, e⟩ := hf
    rw [e, z_I_sI, if_neg (fun z => hf' z.1)]; rfl
  have hR : ∀ f a, z_R σ38 f a = z_R σ f a := fun f a => by
    obtain ⟨F, G, y, e⟩ := hf
    rw [e]; rfl
  have hAA : ∀ t a, t < 12 → z_A σ38 t a = z_A σ t a := fun t a ht => by
    obtain ⟨F, G, y, e⟩ := hf
    rw [e, z_A_sI]
    unfold ro_w
    rw [z_A_sA, if_neg (fun z => by omega), z_A_sA, if_neg (fun z => by omega)]
  have fin : ∀ y : Int32, y = (if decide (40 < (al_add (g.T h) (hk3 e ts) 1).length ∨ 999 < al_get (g.T h) (hk3 e ts) + 1) then 1 else 0) → X64 (nI (hk3 e ts)) X.a y σ38 := by
    intro y hy
    refine h64 _ _ _ _ ⟨hE38.ty, ?_, fun σ64 e64 => ?_⟩
    · rw [hy]; split
      · exact Or.inr rfl
      · exact Or.inl rfl
    · have hef64 : ef X σ σ64 := by rw [e64]; exact ef_tr hef (ef_sI (by omega) (by omega))
      have hE64 := en_T_ef hE hef64
      have hh64 := hd_L_ef hh hef64
      have hr64 : z_R σ64 110 X.a = some ro := by rw [e64, z_R_sI, hR]; exact hr
      have hrw64 : rw_L X σ64 (tset g.T h (al_add (g.T h) (hk3 e ts) 1)) := by
        refine ⟨rw_T_ef hrw.1 (by rw [e64]; exact ef_sI (by omega) (by omega)), fun i hi => ?_⟩
        obtain ⟨b1, b2, b3, b4, b5, b6⟩ := hrw.2 i hi
        rw [e64]
        exact ⟨b1, by rw [z_I_sI, if_neg (fun z => absurd z.1 (by decide))]; exact b2, b3, b4, b5, b6⟩
      have hfin := hP σ64 hrw64 hef64 (fun f h1 h2 => by rw [e64, z_I_sI, if_neg (fun z => h2 z.1)]; exact hI f _ h1) (fun f => by rw [e64, z_R_sI]; exact hR f _) (fun t a ht => by rw [e64, z_A_sI]; exact hAA t a ht) (by rw [e64, z_I_sI, if_pos ⟨rfl, rfl⟩]; exact hy)
      refine ⟨hE64.ty, ro, hr64, hh64.ty, fun q => ?_, fun q => ⟨hE64.ty, ro, hr64, hh64.ty, hb, hh64.rh, hh64.at'.ty, hE64.ty, ?_⟩⟩
      · cases hc : c with
        | true => rw [hc, if_pos rfl] at hfin; exact hfin
        | false => rw [hh64.ct, hc] at q; exact absurd rfl q
      · rw [show z_I σ64 3 hb = nI h from (hh64.at'.rl (Nat.zero_le 1)).1]
        cases hc : c with
        | false => rw [hc, if_neg (by decide)] at hfin; exact hfin
        | true => rw [hh64.ct, hc] at q; exact absurd q (by decide)
  refine ⟨hL.1.1, ?_⟩
  rw [hL.2.1]
  have c40 : (40 : Int32) < nI (al_add (g.T h) (hk3 e ts) 1).length ↔ 40 < (al_add (g.T h) (hk3 e ts) 1).length := nI_ltI (a := 40) (by decide) (by omega)
  have c999 : Int32.ofInt (al_get (g.T h) (hk3 e ts) + 1) ≤ (999 : Int32) ↔ al_get (g.T h) (hk3 e ts) + 1 ≤ 999 := ofI_le (by omega) (by omega) 999 (by decide)
  refine ⟨fun q => fin 1 ?_, fun q => ⟨fun q2 => fin 0 ?_, fun q2 => fin 1 ?_⟩⟩
  · rw [if_pos (decide_eq_true (Or.inl (c40.mp q)))]
  · rw [if_neg (fun z => ?_)]
    rcases of_decide_eq_true z with z | z
    · exact q (c40.mpr z)
    · have := c999.mp q2; omega
  · rw [if_pos (decide_eq_true (Or.inr ?_))]
    have := Int.not_le.mp (fun z => q2 (c999.mpr z))
    omega
