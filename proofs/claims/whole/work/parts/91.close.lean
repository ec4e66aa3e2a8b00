/-! closeCounts: numbers go into their rows -/
def cf (mk : Nat) (p : Nat × Int) : Nat := ck mk (p.1, p.2.toNat)
def gzz (mk g : Nat) : Prop := g < 1000000000 ∧ ∀ i, mk ≤ i → i < 3 → dg g i = 0
theorem cf_lt {mk : Nat} (hmk : mk < 3) {p : Nat × Int} (h : gzz mk p.1) (h1 : 0 < p.2) (h2 : p.2 ≤ 999) : cf mk p < 1000000000 ∧ ∀ i, mk + 1 ≤ i → i < 3 → dg (cf mk p) i = 0 := by
  unfold cf ck
  have h3 : p.2.toNat ≤ 999 := by omega
  dsimp only
  generalize p.2.toNat = m at h3
  obtain ⟨g1, g2⟩ := h
  rcases (show mk = 0 ∨ mk = 1 ∨ mk = 2 by omega) with rfl | rfl | rfl
  · have a := g2 0 (by omega) (by omega)
    have b := g2 1 (by omega) (by omega)
    have c := g2 2 (by omega) (by omega)
    simp only [dg] at a b c
    simp at a b c
    refine ⟨by simp only [wt]; simp; omega, fun i hi hi3 => ?_⟩
    rcases (show i = 1 ∨ i = 2 by omega) with rfl | rfl <;> simp [dg, wt] <;> omega
  · have b := g2 1 (by omega) (by omega)
    have c := g2 2 (by omega) (by omega)
    simp only [dg] at b c
    simp at b c
    refine ⟨by simp only [wt]; simp; omega, fun i hi hi3 => ?_⟩
    rcases (show i = 2 by omega) with rfl
    simp [dg, wt]; omega
  · have c := g2 2 (by omega) (by omega)
    simp only [dg] at c
    simp at c
    exact ⟨by simp only [wt]; simp; omega, fun i hi hi3 => by omega⟩
theorem cf_mono {mk : Nat} (hmk : mk < 3) {p q : Nat × Int} (hp : gzz mk p.1) (hq : gzz mk q.1) (h1 : p.2 ≤ 999) (h : p.1 < q.1) : cf mk p < cf mk q := by
  unfold cf ck
  have h3 : p.2.toNat ≤ 999 := by omega
  dsimp only
  generalize p.2.toNat = m at h3
  generalize q.2.toNat = m'
  obtain ⟨g1, g2⟩ := hp
  obtain ⟨k1, k2⟩ := hq
  rcases (show mk = 0 ∨ mk = 1 ∨ mk = 2 by omega) with rfl | rfl | rfl
  · have a := g2 0 (by omega) (by omega)
    have b := g2 1 (by omega) (by omega)
    have c := g2 2 (by omega) (by omega)
    have a' := k2 0 (by omega) (by omega)
    have b' := k2 1 (by omega) (by omega)
    have c' := k2 2 (by omega) (by omega)
    simp [dg] at a b c a' b' c'
    omega
  · have b := g2 1 (by omega) (by omega)
    have c := g2 2 (by omega) (by omega)
    have b' := k2 1 (by omega) (by omega)
    have c' := k2 2 (by omega) (by omega)
    simp [dg] at b c b' c'
    simp only [wt]; simp; omega
  · have c := g2 2 (by omega) (by omega)
    have c' := k2 2 (by omega) (by omega)
    simp [dg] at c c'
    simp only [wt]; simp; omega
def cs_S (X : ex_T) (h mk : Nat) (l : al_T) (q0 : List (Nat × Nat)) (σ : z_S) (i : Nat) (σ' : z_S) : Prop := (ef X σ σ') ∧ (∀ f, z_R σ' f X.a = z_R σ f X.a) ∧ (∀ f, f ≠ 104 → z_I σ' f X.a = z_I σ f X.a) ∧ (∀ a, z_I σ' 402 a = z_I σ 402 a) ∧ (∀ a, a ≠ X.ka h → z_A σ' 12 a = z_A σ 12 a) ∧ (∀ a, a ≠ X.ca h → z_A σ' 13 a = z_A σ 13 a) ∧ (∀ j, j < l.length → z_A σ' 12 (X.ka h) j = nI (if j < i then cf mk (l.getD j (0, 0)) else (l.getD j (0, 0)).1)) ∧ (∀ j, j < l.length → z_A σ' 13 (X.ca h) j = if j < i then 1 else Int32.ofInt (l.getD j (0, 0)).2) ∧ (qu_L X σ' (q0 ++ (l.take i).map (fun p => (h, cf mk p))))
theorem cs_S.f {X : ex_T} {h mk : Nat} {l : al_T} {q0 : List (Nat × Nat)} {σ : z_S} {i : Nat} {σ' : z_S} (h' : cs_S X h mk l q0 σ i σ') : ef X σ σ' := h'.1
theorem cs_S.R {X : ex_T} {h mk : Nat} {l : al_T} {q0 : List (Nat × Nat)} {σ : z_S} {i : Nat} {σ' : z_S} (h' : cs_S X h mk l q0 σ i σ') : ∀ f, z_R σ' f X.a = z_R σ f X.a := h'.2.1
theorem cs_S.I {X : ex_T} {h mk : Nat} {l : al_T} {q0 : List (Nat × Nat)} {σ : z_S} {i : Nat} {σ' : z_S} (h' : cs_S X h mk l q0 σ i σ') : ∀ f, f ≠ 104 → z_I σ' f X.a = z_I σ f X.a := h'.2.2.1
theorem cs_S.s {X : ex_T} {h mk : Nat} {l : al_T} {q0 : List (Nat × Nat)} {σ : z_S} {i : Nat} {σ' : z_S} (h' : cs_S X h mk l q0 σ i σ') : ∀ a, z_I σ' 402 a = z_I σ 402 a := h'.2.2.2.1
theorem cs_S.k {X : ex_T} {h mk : Nat} {l : al_T} {q0 : List (Nat × Nat)} {σ : z_S} {i : Nat} {σ' : z_S} (h' : cs_S X h mk l q0 σ i σ') : ∀ a, a ≠ X.ka h → z_A σ' 12 a = z_A σ 12 a := h'.2.2.2.2.1
theorem cs_S.c {X : ex_T} {h mk : Nat} {l : al_T} {q0 : List (Nat × Nat)} {σ : z_S} {i : Nat} {σ' : z_S} (h' : cs_S X h mk l q0 σ i σ') : ∀ a, a ≠ X.ca h → z_A σ' 13 a = z_A σ 13 a := h'.2.2.2.2.2.1
theorem cs_S.K {X : ex_T} {h mk : Nat} {l : al_T} {q0 : List (Nat × Nat)} {σ : z_S} {i : Nat} {σ' : z_S} (h' : cs_S X h mk l q0 σ i σ') : ∀ j, j < l.length → z_A σ' 12 (X.ka h) j = nI (if j < i then cf mk (l.getD j (0, 0)) else (l.getD j (0, 0)).1) := h'.2.2.2.2.2.2.1
theorem cs_S.C {X : ex_T} {h mk : Nat} {l : al_T} {q0 : List (Nat × Nat)} {σ : z_S} {i : Nat} {σ' : z_S} (h' : cs_S X h mk l q0 σ i σ') : ∀ j, j < l.length → z_A σ' 13 (X.ca h) j = if j < i then 1 else Int32.ofInt (l.getD j (0, 0)).2 := h'.2.2.2.2.2.2.2.1
theorem cs_S.q {X : ex_T} {h mk : Nat} {l : al_T} {q0 : List (Nat × Nat)} {σ : z_S} {i : Nat} {σ' : z_S} (h' : cs_S X h mk l q0 σ i σ') : qu_L X σ' (q0 ++ (l.take i).map (fun p => (h, cf mk p))) := h'.2.2.2.2.2.2.2.2
theorem en_close {X : ex_T} {T1 : Nat → al_T} {q0 : List (Nat × Nat)} {σ : z_S} {ro h hb mk : Nat} {ts : tm_T} {l : al_T} (hS : es X 0 ⟨tset T1 h l, q0, false⟩ σ) (h110 : z_R σ 110 X.a = some ro) (hH : hd_L σ ro h ts true (mk + 1) hb) (hl40 : l.length ≤ 40) (hgz : ∀ p ∈ l, gzz mk p.1 ∧ 0 < p.2 ∧ p.2 ≤ 999) (hq : q0.length ≤ 280) (hc1 : cpos T1) (P : z_S → Prop)
    (hP : ∀ σ', es X 0 ⟨tset T1 h (l.map (fun p => (cf mk p, 1))), q0 ++ l.map (fun p => (h, cf mk p)), false⟩ σ' → ef X σ σ' → (∀ f, z_R σ' f X.a = z_R σ f X.a) → P σ') : kp_En_closeCounts X.a σ P := by
  intro X18 h18
  have hA := hH.at'
  have hn3 := hA.n3
  obtain ⟨r1, r2⟩ : z_I σ 3 hb = nI h ∧ h < 8 := hA.rl (Nat.zero_le 1)
  have hL0 : ro_L σ (X.ra h) (X.ka h) (X.ca h) l := by
    have := hS.rw.2 h r2
    have e : tset T1 h l h = l := by unfold tset; rw [if_pos rfl]
    rw [show (gs_T.T ⟨tset T1 h l, q0, false⟩) h = l from e] at this
    exact this
  have hT := hL0.1
  have main : ∀ m i σi, i + m = l.length → cs_S X h mk l q0 σ i σi → X18 (X.ra h) (nI i) σi := by
    intro m
    induction m with
    | zero =>
      intro i σi hi hs
      have hi : i = l.length := by omega
      refine h18 _ _ _ ⟨(ro_T_ef hT hs.f).1, ?_⟩
      rw [hs.s, hL0.2.1]
      refine ⟨fun _ => ?_, fun q => absurd (nI_le (by omega) (by omega)) q⟩
      have hTi := ro_T_ef hT hs.f
      have hmem : ∀ j, j < l.length → l.getD j (0, 0) ∈ l := fun j hj => by rw [gd_eq _ _ hj]; exact List.getElem_mem hj
      have hgd : ∀ j, j < l.length → (l.map (fun p => (cf mk p, (1 : Int)))).getD j (0, 0) = (cf mk (l.getD j (0, 0)), 1) := fun j hj => by
        rw [gd_eq _ _ (by rw [List.length_map]; exact hj), List.getElem_map, gd_eq _ _ hj]
      have hpos : ∀ p ∈ l.map (fun p => (cf mk p, (1 : Int))), 0 < p.2 ∧ p.2 ≤ 100000 := fun p hp => by
        obtain ⟨p', _, rfl⟩ := List.mem_map.mp hp
        exact ⟨Int.one_pos, show (1 : Int) ≤ 100000 by decide⟩
      have hro : ro_L σi (X.ra h) (X.ka h) (X.ca h) (l.map (fun p => (cf mk p, 1))) := by
        refine ⟨hTi, by rw [hs.s, List.length_map]; exact hL0.2.1, by rw [List.length_map]; omega, ?_, fun p hp => ?_, fun j hj => ?_⟩
        · unfold al_s
          rw [List.pairwise_map]
          have hs0 : l.Pairwise (fun p q => p.1 < q.1) := hL0.2.2.2.1
          have hs1 : l.Pairwise (fun p q => (gzz mk p.1 ∧ p.2 ≤ 999) ∧ gzz mk q.1) := by
            apply List.pairwise_of_forall_mem_list
            intro p hp q hq
            exact ⟨⟨(hgz p hp).1, (hgz p hp).2.2⟩, (hgz q hq).1⟩
          exact List.Pairwise.imp₂ (fun p q a b => cf_mono (by omega) b.1.1 b.2 b.1.2 a) hs0 hs1
        · obtain ⟨p', hp', rfl⟩ := List.mem_map.mp hp
          exact (cf_lt (by omega) (hgz p' hp').1 (hgz p' hp').2.1 (hgz p' hp').2.2).1
        · rw [List.length_map] at hj
          rw [hs.K j hj, hs.C j hj, hgd j hj, if_pos (by omega), if_pos (by omega)]
          exact ⟨rfl, rfl⟩
      refine hP σi ⟨en_T_ef hS.en hs.f, ⟨rw_T_ef hS.rw.1 hs.f, fun v hv => ?_⟩, by rw [hs.R]; exact hS.hw, by rw [hs.I 106 (by decide)]; exact hS.gl, by rw [hs.I 108 (by decide)]; exact hS.f, cpos_set hc1 hpos, fun _ _ => ?_⟩ hs.f hs.R
      · show ro_L σi _ _ _ (tset _ _ _ v)
        unfold tset
        split
        · rename_i hvh; rw [hvh]; exact hro
        · rename_i hvh
          have hv0 := hS.rw.2 v hv
          have e : tset T1 h l v = T1 v := by unfold tset; rw [if_neg hvh]
          rw [show (gs_T.T ⟨tset T1 h l, q0, false⟩) v = T1 v from e] at hv0
          obtain ⟨b1, b2, b3, b4, b5, b6⟩ := hv0
          exact ⟨ro_T_ef b1 hs.f, by rw [hs.s]; exact b2, b3, b4, b5, fun j hj => by rw [hs.k _ (fun z => hvh (hS.rw.1.ik v h hv r2 z)), hs.c _ (fun z => hvh (hS.rw.1.ic v h hv r2 z))]; exact b6 j hj⟩
      · have := hs.q
        rw [hi, List.take_length] at this
        exact this
    | succ m ih =>
      intro i σi hi hs
      have hil : i < l.length := by omega
      have hTi := ro_T_ef hT hs.f
      have hEi := en_T_ef hS.en hs.f
      have hHi := hd_L_ef hH hs.f
      have hri : z_R σi 110 X.a = some ro := by rw [hs.R]; exact h110
      have hmem : l.getD i (0, 0) ∈ l := by rw [gd_eq _ _ hil]; exact List.getElem_mem hil
      obtain ⟨g1, g2, g3⟩ := hgz _ hmem
      refine h18 _ _ _ ⟨hTi.1, ?_⟩
      rw [hs.s, hL0.2.1]
      refine ⟨fun q => absurd q (nI_ge (by omega) (by omega)), fun _ => ⟨hEi.ty, fun q => absurd (by rw [hs.I 108 (by decide)]; exact hS.f) q, fun _ => ⟨hTi.1, X.ka h, hTi.2.1, 100, 12, hTi.2.2.2.1, vp_in_nI (by omega) (by decide), hTi.1, X.ca h, hTi.2.2.1, 100, 13, hTi.2.2.2.2, vp_in_nI (by omega) (by decide), hEi.ty, ro, hri, hHi.ty, hb, hHi.rh, hHi.at'.ty, ?_⟩⟩⟩
      rw [hHi.at'.sz, nI_pred]
      refine vr_weight (by omega) _ _ ⟨100, 12, hTi.2.2.2.1, vp_in_nI (by omega) (by decide), fun σ63 e63 => ⟨by rw [e63]; exact hTi.1, X.ca h, by rw [e63]; exact hTi.2.2.1, 100, 13, by rw [e63]; exact hTi.2.2.2.2, vp_in_nI (by omega) (by decide), fun σ70 e70 => ?_⟩⟩
      rw [cl_nI (by omega), hs.K i hil, hs.C i hil, if_neg (Nat.lt_irrefl i), if_neg (Nat.lt_irrefl i), show (l.getD i (0, 0)).2 = (((l.getD i (0, 0)).2.toNat : Nat) : Int) by omega, ← nI_ofI (by omega), pk_mul, nI_add] at e63
      rw [cl_nI (by omega)] at e70
      have ecf : (l.getD i (0, 0)).1 + (l.getD i (0, 0)).2.toNat * wt mk = cf mk (l.getD i (0, 0)) := rfl
      rw [ecf] at e63
      have hA12 : ∀ a, z_A σ70 12 a = if a = X.ka h then upd (z_A σi 12 (X.ka h)) i (nI (cf mk (l.getD i (0, 0)))) else z_A σi 12 a := fun a => by
        rw [e70, z_A_sA, if_neg (fun z => absurd z.1 (by decide)), e63, z_A_sA]
        by_cases z : a = X.ka h
        · rw [if_pos ⟨rfl, z⟩, if_pos z]
        · rw [if_neg (fun y => z y.2), if_neg z]
      have hA13 : ∀ a, z_A σ70 13 a = if a = X.ca h then upd (z_A σi 13 (X.ca h)) i 1 else z_A σi 13 a := fun a => by
        have e0 : z_A σ63 13 (X.ca h) = z_A σi 13 (X.ca h) := by rw [e63, z_A_sA, if_neg (fun z => absurd z.1 (by decide))]
        rw [e70, z_A_sA]
        by_cases z : a = X.ca h
        · rw [if_pos ⟨rfl, z⟩, if_pos z, e0]
        · rw [if_neg (fun y => z y.2), if_neg z, e63, z_A_sA, if_neg (fun z => absurd z.1 (by decide))]
      have hI70 : ∀ f a, z_I σ70 f a = z_I σi f a := fun f a => by rw [e70, e63]; rfl
      have hR70 : ∀ f a, z_R σ70 f a = z_R σi f a := fun f a => by rw [e70, e63]; rfl
      have hty70 : ∀ a, z_ty σ70 a = z_ty σi a := fun a => by rw [e70, e63]; rfl
      have hA70 : ∀ t a, t ≠ 12 → t ≠ 13 → z_A σ70 t a = z_A σi t a := fun t a h1 h2 => by
        rw [e70, z_A_sA, if_neg (fun z => h2 z.1), e63, z_A_sA, if_neg (fun z => h1 z.1)]
      have hef70 : ef X σi σ70 := by
        refine ⟨hty70, fun f a _ => hR70 f a, fun t a => by rw [e70, e63]; rfl, fun f a _ _ => hI70 f a, fun t a h1 h2 h3 => ?_⟩
        by_cases t12 : t = 12
        · rw [t12, hA12, if_neg (h2 t12 h r2)]
        · by_cases t13 : t = 13
          · rw [t13, hA13, if_neg (h3 t13 h r2)]
          · exact hA70 t a t12 t13
      have hE70 := en_T_ef hEi hef70
      have hH70 := hd_L_ef hHi hef70
      have hT70 := ro_T_ef hTi hef70
      have hr70 : z_R σ70 110 X.a = some ro := by rw [hR70]; exact hri
      have hk70 : z_A σ70 12 (X.ka h) i = nI (cf mk (l.getD i (0, 0))) := by
        rw [hA12, if_pos rfl]; unfold upd; rw [if_pos rfl]
      refine ⟨hE70.ty, ro, hr70, hH70.ty, hb, hH70.rh, hH70.at'.ty, hT70.1, X.ka h, hT70.2.1, 100, 12, hT70.2.2.2.1, vp_in_nI (by omega) (by decide), hE70.ty, ?_⟩
      rw [cl_nI (by omega), hk70, show z_I σ70 3 hb = nI h from (hH70.at'.rl (Nat.zero_le 1)).1]
      have hqlen : (q0 ++ (l.take i).map (fun p => (h, cf mk p))).length = q0.length + i := by
        rw [List.length_append, List.length_map, List.length_take]; omega
      have hq70 : qu_L X σ70 (q0 ++ (l.take i).map (fun p => (h, cf mk p))) := by
        obtain ⟨b1, b2, b3⟩ := hs.q
        exact ⟨by rw [hI70]; exact b1, b2, fun j hj => by rw [hA70 4 _ (by decide) (by decide), hA70 5 _ (by decide) (by decide)]; exact b3 j hj⟩
      refine en_enq hE70 hq70 h (cf mk (l.getD i (0, 0))) _ (fun z => by omega) (fun _ F G hqu => ?_)
      rw [nI_1]
      refine ih (i + 1) _ (by omega) ⟨ef_tr hs.f (ef_tr hef70 (ef_enq F G _)), fun f => ?_, fun f hf => ?_, fun a => ?_, fun a ha => ?_, fun a ha => ?_, fun j hj => ?_, fun j hj => ?_, ?_⟩
      · show z_R σ70 f X.a = _
        rw [hR70]; exact hs.R f
      · rw [z_I_sI, if_neg (fun z => hf z.1)]
        show z_I σ70 f X.a = _
        rw [hI70]; exact hs.I f hf
      · rw [z_I_sI, if_neg (fun z => absurd z.1 (by decide))]
        show z_I σ70 402 a = _
        rw [hI70]; exact hs.s a
      · rw [z_A_sI, z_A_sA, if_neg (fun z => absurd z.1 (by decide)), z_A_sA, if_neg (fun z => absurd z.1 (by decide)), hA12, if_neg ha]
        exact hs.k a ha
      · rw [z_A_sI, z_A_sA, if_neg (fun z => absurd z.1 (by decide)), z_A_sA, if_neg (fun z => absurd z.1 (by decide)), hA13, if_neg ha]
        exact hs.c a ha
      · rw [z_A_sI, z_A_sA, if_neg (fun z => absurd z.1 (by decide)), z_A_sA, if_neg (fun z => absurd z.1 (by decide)), hA12, if_pos rfl]
        unfold upd
        by_cases z : j = i
        · rw [if_pos z, if_pos (by omega), z]
        · rw [if_neg z, hs.K j hj]
          by_cases y : j < i
          · rw [if_pos y, if_pos (by omega)]
          · rw [if_neg y, if_neg (by omega)]
      · rw [z_A_sI, z_A_sA, if_neg (fun z => absurd z.1 (by decide)), z_A_sA, if_neg (fun z => absurd z.1 (by decide)), hA13, if_pos rfl]
        unfold upd
        by_cases z : j = i
        · rw [if_pos z, if_pos (by omega)]
        · rw [if_neg z, hs.C j hj]
          by_cases y : j < i
          · rw [if_pos y, if_pos (by omega)]
          · rw [if_neg y, if_neg (by omega)]
      · rw [List.take_succ_eq_append_getElem hil, List.map_append, List.map_cons, List.map_nil, ← List.append_assoc, ← gd_eq _ (0, 0) hil]
        exact hqu
  refine ⟨hS.en.ty, X.w, hS.hw, hS.en.ty, ro, h110, hH.ty, hb, hH.rh, hA.ty, 8, X.s, hS.rw.1.tw, by rw [r1]; exact vp_in_nI r2 (by decide), X.ra h, by rw [r1, cl_nI (by omega)]; exact hS.rw.1.qw _ r2, ?_⟩
  refine main l.length 0 σ (by omega) ⟨ef_rf X σ, fun _ => rfl, fun _ _ => rfl, fun _ => rfl, fun _ _ => rfl, fun _ _ => rfl, fun j hj => ?_, fun j hj => ?_, ?_⟩
  · rw [if_neg (by omega)]; exact (hL0.2.2.2.2.2 j hj).1
  · rw [if_neg (by omega)]; exact (hL0.2.2.2.2.2 j hj).2
  · have := hS.qu rfl rfl
    rw [List.take_zero, List.map_nil, List.append_nil]
    exact this
