/-! noteDifferences -/
def sf (a r k s : Nat) (σ σ' : z_S) : Prop := (∀ b, z_ty σ' b = z_ty σ b) ∧ (∀ f b, z_R σ' f b = z_R σ f b) ∧ (∀ t b, z_Q σ' t b = z_Q σ t b) ∧ (∀ f b, (f = 603 → b ≠ a) → z_I σ' f b = z_I σ f b) ∧ (∀ t b, (t = 15 → b ≠ r) → (t = 16 → b ≠ k) → (t = 17 → b ≠ s) → z_A σ' t b = z_A σ t b)
theorem sf.ty {a r k s : Nat} {σ σ' : z_S} (h' : sf a r k s σ σ') : ∀ b, z_ty σ' b = z_ty σ b := h'.1
theorem sf.R {a r k s : Nat} {σ σ' : z_S} (h' : sf a r k s σ σ') : ∀ f b, z_R σ' f b = z_R σ f b := h'.2.1
theorem sf.Q {a r k s : Nat} {σ σ' : z_S} (h' : sf a r k s σ σ') : ∀ t b, z_Q σ' t b = z_Q σ t b := h'.2.2.1
theorem sf.I {a r k s : Nat} {σ σ' : z_S} (h' : sf a r k s σ σ') : ∀ f b, (f = 603 → b ≠ a) → z_I σ' f b = z_I σ f b := h'.2.2.2.1
theorem sf.A {a r k s : Nat} {σ σ' : z_S} (h' : sf a r k s σ σ') : ∀ t b, (t = 15 → b ≠ r) → (t = 16 → b ≠ k) → (t = 17 → b ≠ s) → z_A σ' t b = z_A σ t b := h'.2.2.2.2
theorem sf_rf (a r k s : Nat) (σ : z_S) : sf a r k s σ σ := ⟨fun _ => rfl, fun _ _ => rfl, fun _ _ => rfl, fun _ _ _ => rfl, fun _ _ _ _ _ => rfl⟩
theorem sf_tr {a r k s : Nat} {σ σ' σ'' : z_S} (h : sf a r k s σ σ') (g : sf a r k s σ' σ'') : sf a r k s σ σ'' := ⟨fun b => (g.ty b).trans (h.ty b), fun f b => (g.R f b).trans (h.R f b), fun t b => (g.Q t b).trans (h.Q t b), fun f b h1 => (g.I f b h1).trans (h.I f b h1), fun t b h1 h2 h3 => (g.A t b h1 h2 h3).trans (h.A t b h1 h2 h3)⟩
theorem sf_fr {a r k s : Nat} {σ σ' : z_S} (h : si_fr σ σ' a r k s) : sf a r k s σ σ' := by
  obtain ⟨F, G, K, y, rfl⟩ := h
  refine ⟨fun _ => rfl, fun _ _ => rfl, fun _ _ => rfl, fun f b h1 => ?_, fun t b h1 h2 h3 => ?_⟩
  · rw [z_I_sI, if_neg (fun z => h1 z.1 z.2)]; rfl
  · rw [z_A_sI, z_A_sA, if_neg (fun z => h3 z.1 z.2), z_A_sA, if_neg (fun z => h2 z.1 z.2), z_A_sA, if_neg (fun z => h1 z.1 z.2)]
theorem ro_T_sf {a r k s : Nat} {σ σ' : z_S} (h : sf a r k s σ σ') {b kk c : Nat} (hT : ro_T σ b kk c) : ro_T σ' b kk c := ⟨by rw [h.ty]; exact hT.1, by rw [h.R]; exact hT.2.1, by rw [h.R]; exact hT.2.2.1, by rw [h.ty]; exact hT.2.2.2.1, by rw [h.ty]; exact hT.2.2.2.2⟩
theorem ro_L_sf {a r k s : Nat} {σ σ' : z_S} (h : sf a r k s σ σ') {b kk c : Nat} {l : al_T} (hL : ro_L σ b kk c l) : ro_L σ' b kk c l := by
  obtain ⟨h1, h2, h3, h4, h5, h6⟩ := hL
  exact ⟨ro_T_sf h h1, by rw [h.I 402 _ (fun z => by omega)]; exact h2, h3, h4, h5, fun i hi => by rw [h.A 12 _ (fun z => by omega) (fun z => by omega) (fun z => by omega), h.A 13 _ (fun z => by omega) (fun z => by omega) (fun z => by omega)]; exact h6 i hi⟩
theorem dropk {T : al_T} {i : Nat} (h : i < T.length) : (T.map Prod.fst).drop i = (T.getD i (0, 0)).1 :: (T.map Prod.fst).drop (i + 1) := by
  rw [List.drop_eq_getElem_cons (by rw [List.length_map]; exact h), List.getElem_map, gd_eq _ _ h]
theorem vr_note {x : Nat} {σ0 : z_S} (hx : z_ty σ0 x = some (.inl 7)) {lt lr lk ls : Nat} (hlt : z_R σ0 711 x = some lt) {b k c b' k' c' : Nat} {l l' : al_T} (hb : ro_L σ0 b k c l) (hb' : ro_L σ0 b' k' c' l') (h40 : l.length ≤ 40) (h40' : l'.length ≤ 40) {dl : sl_T} (hd : si_L σ0 lt lr lk ls 640 dl) (hroom : dl.length + l.length + l'.length ≤ 640) {v : Nat} (hv : v < 8) (P : z_S → Prop) (hP : ∀ σ', sf lt lr lk ls σ0 σ' → si_L σ' lt lr lk ls 640 (dl ++ (dmg 80 (l.map Prod.fst) (l'.map Prod.fst)).map (fun p => (v, p.1, p.2))) → P σ') : kp_Vr_noteDifferences x (nI v) b b' σ0 P := by
  intro X9 X34 X74 X112 X159 X171 h9 h34 h74 h112 h159 h171
  have main : ∀ m o f i σ acc, o ≤ l.length → f ≤ l'.length → (l.length - o) + (l'.length - f) ≤ m → i + m ≤ 80 → sf lt lr lk ls σ0 σ → si_L σ lt lr lk ls 640 (dl ++ acc) → acc.length ≤ o + f → acc ++ (dmg 80 ((l.map Prod.fst).drop o) ((l'.map Prod.fst).drop f)).map (fun p => (v, p.1, p.2)) = (dmg 80 (l.map Prod.fst) (l'.map Prod.fst)).map (fun p => (v, p.1, p.2)) → X9 (nI o) (nI f) (nI i) σ := by
    intro m
    induction m with
    | zero =>
      intro o f i σ acc ho hf hm hi hs hsi hal he
      have eo : o = l.length := by omega
      have ef : f = l'.length := by omega
      have hdone : P σ := by
        refine hP σ hs ?_
        rw [← he, eo, ef, List.drop_eq_nil_of_le (by rw [List.length_map]; exact Nat.le_refl _), List.drop_eq_nil_of_le (by rw [List.length_map]; exact Nat.le_refl _)]
        rw [show dmg 80 [] [] = [] from rfl, List.map_nil, List.append_nil]
        exact hsi
      have hL := ro_L_sf hs hb
      have hL' := ro_L_sf hs hb'
      refine h9 _ _ _ _ ⟨fun _ => hdone, fun _ => ⟨hL.1.1, fun q => ?_, fun _ => ⟨hL'.1.1, fun _ => hdone, fun q => ?_⟩⟩⟩
      · rw [hL.2.1, nI_ltI (by omega) (by omega)] at q; omega
      · rw [hL'.2.1] at q
        exact absurd (nI_le (by omega) (by omega)) q
    | succ m ih =>
      intro o f i σ acc ho hf hm hi hs hsi hal he
      have hL := ro_L_sf hs hb
      have hL' := ro_L_sf hs hb'
      have hxt : z_ty σ x = some (.inl 7) := by rw [hs.ty]; exact hx
      have hlt' : z_R σ 711 x = some lt := by rw [hs.R]; exact hlt
      -- both are at their ends
      by_cases hend : o = l.length ∧ f = l'.length
      · have hdone : P σ := by
          refine hP σ hs ?_
          rw [← he, hend.1, hend.2, List.drop_eq_nil_of_le (by rw [List.length_map]; exact Nat.le_refl _), List.drop_eq_nil_of_le (by rw [List.length_map]; exact Nat.le_refl _)]
          rw [show dmg 80 [] [] = [] from rfl, List.map_nil, List.append_nil]
          exact hsi
        refine h9 _ _ _ _ ⟨fun _ => hdone, fun _ => ⟨hL.1.1, fun q => ?_, fun _ => ⟨hL'.1.1, fun _ => hdone, fun q => ?_⟩⟩⟩
        · rw [hL.2.1, nI_ltI (by omega) (by omega)] at q; omega
        · rw [hL'.2.1] at q
          exact absurd (nI_le (by omega) (by omega)) q
      · have hk := hL.2.2.2.2.1
        have hk' := hL'.2.2.2.2.1
        -- the tail behind a step
        have tail : ∀ o' f' acc' (σ' : z_S) (g c : Int32), o' ≤ l.length → f' ≤ l'.length → (l.length - o') + (l'.length - f') ≤ m → sf lt lr lk ls σ0 σ' → si_L σ' lt lr lk ls 640 (dl ++ acc') → acc'.length ≤ o' + f' → acc' ++ (dmg 80 ((l.map Prod.fst).drop o') ((l'.map Prod.fst).drop f')).map (fun p => (v, p.1, p.2)) = (dmg 80 (l.map Prod.fst) (l'.map Prod.fst)).map (fun p => (v, p.1, p.2)) → (if c = 0 then o' = o + 1 else o' = o) → (if g = 0 then f' = f + 1 else f' = f) → X159 (nI o) (nI f) (nI i) g c σ' := by
          intro o' f' acc' σ' g c h1 h2 h3 h4 h5 h6 h7 h8 h10
          have hz : nI f + (0 : Int32) = nI f := by rw [show (0 : Int32) = nI 0 from rfl, nI_add]; rfl
          have hzo : nI o + (0 : Int32) = nI o := by rw [show (0 : Int32) = nI 0 from rfl, nI_add]; rfl
          have fin : ∀ t1 : Int32, nI o + t1 = nI o' → X171 (nI f) (nI i) g (nI o) t1 σ' := fun t1 ht1 => by
            refine h171 _ _ _ _ _ _ ⟨fun q => ?_, fun q => ?_⟩
            · rw [if_pos q] at h10
              rw [ht1, nI_1, nI_1, ← h10]
              exact ih o' f' (i + 1) σ' acc' h1 h2 h3 (by omega) h4 h5 h6 h7
            · rw [if_neg q] at h10
              rw [ht1, hz, nI_1, ← h10]
              exact ih o' f' (i + 1) σ' acc' h1 h2 h3 (by omega) h4 h5 h6 h7
          refine h159 _ _ _ _ _ _ ⟨fun q => fin 1 ?_, fun q => fin 0 ?_⟩
          · rw [if_pos q] at h8; rw [nI_1, h8]
          · rw [if_neg q] at h8; rw [hzo, h8]
        -- a row goes
        have goes : o < l.length → (dmg 80 ((l.map Prod.fst).drop o) ((l'.map Prod.fst).drop f) = ((l.getD o (0, 0)).1, -1) :: dmg 80 ((l.map Prod.fst).drop (o + 1)) ((l'.map Prod.fst).drop f)) → X112 (nI o) (nI f) (nI i) 1 0 σ := by
          intro h1 h2
          refine h112 _ _ _ _ _ _ ⟨fun q => absurd q (by decide), fun _ => ⟨hxt, lt, hlt', hL.1.1, k, hL.1.2.1, 100, 12, hL.1.2.2.2.1, vp_in_nI (by omega) (by decide), hsi.1.1, ?_⟩⟩
          rw [cl_nI (by omega), (hL.2.2.2.2.2 o h1).1]
          have hlen : (dl ++ acc).length < 640 := by rw [List.length_append]; omega
          refine si_append hsi (by decide) hlen v (l.getD o (0, 0)).1 (-1) _ (fun σ' hs' hf' => ?_)
          refine tail (o + 1) f (acc ++ [(v, (l.getD o (0, 0)).1, -1)]) σ' 1 0 (by omega) hf (by omega) (sf_tr hs (sf_fr hf')) (by rw [← List.append_assoc]; exact hs') (by rw [List.length_append, List.length_singleton]; omega) ?_ (by rw [if_pos rfl]) (by rw [if_neg (by decide)])
          rw [← he, h2, List.map_cons, List.append_assoc]
          rfl
        have comes : f < l'.length → (dmg 80 ((l.map Prod.fst).drop o) ((l'.map Prod.fst).drop f) = ((l'.getD f (0, 0)).1, 1) :: dmg 80 ((l.map Prod.fst).drop o) ((l'.map Prod.fst).drop (f + 1))) → X112 (nI o) (nI f) (nI i) 0 1 σ := by
          intro h1 h2
          refine h112 _ _ _ _ _ _ ⟨fun _ => ⟨fun q => absurd q (by decide), fun _ => ⟨hxt, lt, hlt', hL'.1.1, k', hL'.1.2.1, 100, 12, hL'.1.2.2.2.1, vp_in_nI (by omega) (by decide), hsi.1.1, ?_⟩⟩, fun q => absurd rfl q⟩
          rw [cl_nI (by omega), (hL'.2.2.2.2.2 f h1).1]
          have hlen : (dl ++ acc).length < 640 := by rw [List.length_append]; omega
          refine si_append hsi (by decide) hlen v (l'.getD f (0, 0)).1 1 _ (fun σ' hs' hf' => ?_)
          refine tail o (f + 1) (acc ++ [(v, (l'.getD f (0, 0)).1, 1)]) σ' 0 1 ho (by omega) (by omega) (sf_tr hs (sf_fr hf')) (by rw [← List.append_assoc]; exact hs') (by rw [List.length_append, List.length_singleton]; omega) ?_ (by rw [if_neg (by decide)]) (by rw [if_pos rfl])
          rw [← he, h2, List.map_cons, List.append_assoc]
          rfl
        have both : o < l.length → f < l'.length → (dmg 80 ((l.map Prod.fst).drop o) ((l'.map Prod.fst).drop f) = dmg 80 ((l.map Prod.fst).drop (o + 1)) ((l'.map Prod.fst).drop (f + 1))) → X112 (nI o) (nI f) (nI i) 0 0 σ := by
          intro h1 h2 h3
          refine h112 _ _ _ _ _ _ ⟨fun _ => ⟨fun _ => ?_, fun q => absurd rfl q⟩, fun q => absurd rfl q⟩
          exact tail (o + 1) (f + 1) acc σ 0 0 (by omega) (by omega) (by omega) hs hsi (by omega) (by rw [← he, h3]) (by rw [if_pos rfl]) (by rw [if_pos rfl])
        have hdl : ((l.map Prod.fst).drop o).length = l.length - o := by rw [List.length_drop, List.length_map]
        have hdl' : ((l'.map Prod.fst).drop f).length = l'.length - f := by rw [List.length_drop, List.length_map]
        have h34' : X34 (nI o) (nI f) (nI i) σ := by
          refine h34 _ _ _ _ ⟨hL'.1.1, ?_⟩
          rw [hL'.2.1]
          by_cases hfe : f = l'.length
          · refine ⟨fun _ => ?_, fun q => absurd (nI_le (by omega) (by omega)) q⟩
            have ho' : o < l.length := by omega
            refine h74 _ _ _ _ _ ⟨fun _ => goes ho' ?_, fun q => absurd q (by decide)⟩
            have en : (l'.map Prod.fst).drop f = [] := List.drop_eq_nil_of_le (by rw [List.length_map]; omega)
            rw [dropk ho', en]
            show _ :: dmg 79 _ [] = _
            rw [dmg_ge 79 80 _ _ (by rw [List.length_drop, List.length_map, List.length_nil]; omega) (by rw [List.length_drop, List.length_map, List.length_nil]; omega)]
          · have hf' : f < l'.length := by omega
            refine ⟨fun q => absurd q (nI_ge (by omega) (by omega)), fun _ => ⟨hL.1.1, ?_⟩⟩
            rw [hL.2.1]
            by_cases hoe : o = l.length
            · refine ⟨fun _ => ?_, fun q => absurd (nI_le (by omega) (by omega)) q⟩
              refine h74 _ _ _ _ _ ⟨fun q => absurd rfl q, fun _ => ⟨hL.1.1, fun _ => comes hf' ?_, fun q => ?_⟩⟩
              · have en : (l.map Prod.fst).drop o = [] := List.drop_eq_nil_of_le (by rw [List.length_map]; omega)
                rw [dropk hf', en]
                show _ :: dmg 79 [] _ = _
                rw [dmg_ge 79 80 _ _ (by rw [List.length_drop, List.length_map, List.length_nil]; omega) (by rw [List.length_drop, List.length_map, List.length_nil]; omega)]
              · rw [hL.2.1] at q
                exact absurd (nI_le (by omega) (by omega)) q
            · have ho' : o < l.length := by omega
              have ka := al_k_gd hk ho'
              have kb := al_k_gd hk' hf'
              have hdm : ∀ X Y : List (Nat × Int), X = dmg 80 ((l.map Prod.fst).drop o) ((l'.map Prod.fst).drop f) → X = (if (l.getD o (0, 0)).1 < (l'.getD f (0, 0)).1 then ((l.getD o (0, 0)).1, -1) :: dmg 80 ((l.map Prod.fst).drop (o + 1)) ((l'.map Prod.fst).drop f) else if (l'.getD f (0, 0)).1 < (l.getD o (0, 0)).1 then ((l'.getD f (0, 0)).1, 1) :: dmg 80 ((l.map Prod.fst).drop o) ((l'.map Prod.fst).drop (f + 1)) else dmg 80 ((l.map Prod.fst).drop (o + 1)) ((l'.map Prod.fst).drop (f + 1))) := by
                intro X _ hX
                have e1 := dropk ho'
                have e2 := dropk hf'
                have d1 : dmg 79 ((l.map Prod.fst).drop (o + 1)) ((l'.map Prod.fst).drop f) = dmg 80 ((l.map Prod.fst).drop (o + 1)) ((l'.map Prod.fst).drop f) := dmg_ge 79 80 _ _ (by rw [hdl', List.length_drop, List.length_map]; omega) (by rw [hdl', List.length_drop, List.length_map]; omega)
                have d2 : dmg 79 ((l.map Prod.fst).drop o) ((l'.map Prod.fst).drop (f + 1)) = dmg 80 ((l.map Prod.fst).drop o) ((l'.map Prod.fst).drop (f + 1)) := dmg_ge 79 80 _ _ (by rw [hdl, List.length_drop, List.length_map]; omega) (by rw [hdl, List.length_drop, List.length_map]; omega)
                have d3 : dmg 79 ((l.map Prod.fst).drop (o + 1)) ((l'.map Prod.fst).drop (f + 1)) = dmg 80 ((l.map Prod.fst).drop (o + 1)) ((l'.map Prod.fst).drop (f + 1)) := dmg_ge 79 80 _ _ (by rw [List.length_drop, List.length_drop, List.length_map, List.length_map]; omega) (by rw [List.length_drop, List.length_drop, List.length_map, List.length_map]; omega)
                rw [hX, ← d1, ← d2, ← d3, e1, e2]
                rfl
              have hdm := hdm _ [] rfl
              refine ⟨fun q => absurd q (nI_ge (by omega) (by omega)), fun _ => ⟨hL.1.1, k, hL.1.2.1, 100, 12, hL.1.2.2.2.1, vp_in_nI (by omega) (by decide), hL'.1.1, k', hL'.1.2.1, 100, 12, hL'.1.2.2.2.1, vp_in_nI (by omega) (by decide), ?_⟩⟩
              rw [cl_nI (n := f) (by omega), cl_nI (n := o) (by omega), (hL.2.2.2.2.2 o ho').1, (hL'.2.2.2.2.2 f hf').1, nI_leI (by omega) (by omega)]
              refine ⟨fun hle => ?_, fun hgt => ?_⟩
              · refine h74 _ _ _ _ _ ⟨fun q => absurd rfl q, fun _ => ⟨hL.1.1, fun q => ?_, fun _ => ⟨hL'.1.1, k', hL'.1.2.1, 100, 12, hL'.1.2.2.2.1, vp_in_nI (by omega) (by decide), hL.1.1, k, hL.1.2.1, 100, 12, hL.1.2.2.2.1, vp_in_nI (by omega) (by decide), ?_⟩⟩⟩
                · rw [hL.2.1, nI_leI (by omega) (by omega)] at q; omega
                · rw [cl_nI (n := f) (by omega), cl_nI (n := o) (by omega), (hL.2.2.2.2.2 o ho').1, (hL'.2.2.2.2.2 f hf').1, nI_leI (by omega) (by omega)]
                  refine ⟨fun hle2 => both ho' hf' ?_, fun hgt2 => comes hf' ?_⟩
                  · rw [hdm, if_neg (by omega), if_neg (by omega)]
                  · rw [hdm, if_neg (by omega), if_pos (by omega)]
              · refine h74 _ _ _ _ _ ⟨fun _ => goes ho' ?_, fun q => absurd q (by decide)⟩
                rw [hdm, if_pos (by omega)]
        refine h9 _ _ _ _ ⟨fun q => ?_, fun _ => ⟨hL.1.1, fun _ => h34', fun q => ⟨hL'.1.1, fun q2 => ?_, fun _ => h34'⟩⟩⟩
        · rw [show (80 : Int32) = nI 80 from rfl, nI_leI (by decide) (by omega)] at q; omega
        · exfalso
          rw [hL.2.1, nI_ltI (by omega) (by omega)] at q
          rw [hL'.2.1, nI_leI (by omega) (by omega)] at q2
          exact hend ⟨by omega, by omega⟩
  exact main 80 0 0 0 σ0 [] (Nat.zero_le _) (Nat.zero_le _) (by omega) (by omega) (sf_rf lt lr lk ls σ0) (by rw [List.append_nil]; exact hd) (Nat.zero_le _) rfl
