theorem cadd_v {d : Int} {T T' : Nat → al_T} {v : Nat} (h : T v = T' v) (c : Nat × Nat × Int) : cadd d T c v = cadd d T' c v := by
  unfold cadd tset
  split
  · rename_i e
    rw [← e, h]
  · exact h
theorem cT_v {d : Int} : ∀ {cs : sl_T} {T T' : Nat → al_T} {v : Nat}, T v = T' v → cT T cs d v = cT T' cs d v
  | [], _, _, _, h => h
  | c :: cs, T, T', v, h => by
    show cT (cadd d T c) cs d v = cT (cadd d T' c) cs d v
    exact cT_v (cadd_v h c)
theorem cT_far {d : Int} : ∀ {cs : sl_T} {T : Nat → al_T} {v : Nat}, (∀ c ∈ cs, c.1 ≠ v) → cT T cs d v = T v
  | [], _, _, _ => rfl
  | c :: cs, T, v, h => by
    show cT (cadd d T c) cs d v = T v
    rw [cT_far (fun c' hc' => h c' (List.mem_cons_of_mem _ hc'))]
    unfold cadd tset
    rw [if_neg (fun z => h c (List.mem_cons_self ..) z.symm)]
theorem bOk_c {G : pg_T} {T T' : Nat → al_T} {cs : sl_T} {d : Int} (hcs : ch_ok G cs) (h : ∀ v, v < G.n → T v = T' v) (hb : bOk T cs d) : bOk T' cs d := fun c hc => by
  have := hb c hc
  rw [h c.1 (hcs.t c hc).1] at this
  exact this
theorem bT_c {G : pg_T} {T T' : Nat → al_T} {cs : sl_T} {d : Int} {v : Nat} (h : T v = T' v) : bT G T cs d v = bT G T' cs d v := by
  unfold bT
  split
  · exact h
  · rw [cT_v h]
theorem bFull_c {G : pg_T} {T T' : Nat → al_T} {cs : sl_T} {d : Int} (h : ∀ v, v < G.n → T v = T' v) (hb : bFull G T cs d) : bFull G T' cs d := by
  obtain ⟨v, h1, h2, h3⟩ := hb
  exact ⟨v, h1, h2, by rw [← bT_c (h v h1)]; exact h3⟩
theorem T2f_res {G : pg_T} {T T' gl : Nat → al_T} {cs : sl_T} {d : Int} (h : ∀ v, v < G.n → T v = T' v) : res G.n (ks (T2f G T cs d gl)) = res G.n (ks (Tz G (bT G T' cs d))) := by
  funext v
  by_cases hv : v < G.n
  · rw [res_lt hv, res_lt hv]
    unfold ks T2f Tz bT
    rw [if_pos hv]
    cases hb : G.vw v with
    | true => rfl
    | false =>
      rw [if_neg (by decide), if_neg (by decide), if_neg (by decide), cT_v (h v hv)]
  · rw [res_ge hv, res_ge hv]
theorem df1_c {T1 T2 T1' T2' : Nat → al_T} {v : Nat} (h1 : T1 v = T1' v) (h2 : T2 v = T2' v) : df1 T1 T2 v = df1 T1' T2' v := by
  unfold df1 ks
  rw [h1, h2]
theorem dff_c {G : pg_T} {T1 T2 T1' T2' : Nat → al_T} : ∀ n, (∀ v, v < n → T1 v = T1' v ∧ T2 v = T2' v) → dff G T1 T2 n = dff G T1' T2' n
  | 0, _ => rfl
  | n + 1, h => by
    have e := dff_c (G := G) n (fun v hv => h v (by omega))
    have f := df1_c (h n (by omega)).1 (h n (by omega)).2
    unfold dff
    rw [e, f]
theorem cT_s {T : Nat → al_T} {cs : sl_T} {d : Int} {G : pg_T} (hT : vT G T) (hcs : ch_ok G cs) : cT_ok T (cT T cs d) cs d := cT_all (fun v => (hT.srt v).1) (fun v => (hT.srt v).2) (fun c hc => (hcs.k c hc).1)
theorem bT_9 {G : pg_T} {T : Nat → al_T} {cs : sl_T} {d : Int} (hT : vT G T) (h9 : tb9 G T) (hcs : ch_ok G cs) (hb : bOk T cs d) {v : Nat} (hv : G.vw v = false) : ∀ p ∈ cT T cs d v, 0 ≤ p.2 ∧ p.2 ≤ 9 := by
  refine (bOk_iff (cT_s hT hcs) (h9 v hv)).mpr (fun c hc e => ?_)
  rw [← e]
  exact hb c hc
theorem bT_get {G : pg_T} {T : Nat → al_T} {cs : sl_T} {d : Int} (hT : vT G T) (h9 : tb9 G T) (hcs : ch_ok G cs) (hb : bOk T cs d) {v : Nat} (hv : G.vw v = false) (k : Nat) : al_get (bT G T cs d v) k = al_get (T v) k + csum cs d v k := by
  have h := cT_s (d := d) hT hcs
  unfold bT
  rw [if_neg (by rw [hv]; decide), al_ps_get (h.s v) (fun p hp => (bT_9 hT h9 hcs hb hv p hp).1), h.g]
theorem good_3 {G : pg_T} (hok : pg_ok G) (hln : ∀ v, ¬ v < G.n → G.lay v = 0) {T T3 gl : Nat → al_T} {cs : sl_T} {d : Int} (hg : good G T) (hgl : ∀ v, v < 8 → ¬ v < G.n → okl (gl v)) (hcs : ch_ok G cs) (hb : bOk T cs d) (hW : WK G 8 (ks (T2f G T cs d gl)) (ks T3)) (hS : S_ok (ks (T2f G T cs d gl))) (hT3 : vT G T3) (hlo : ∀ v, G.lay v = 0 → T3 v = T2f G T cs d gl v) (h1 : ∀ v, v < 8 → 1 ≤ G.lay v → ∀ p ∈ T3 v, p.2 = 1) : good G T3 := by
  have lay0 : ∀ v, G.vw v = false → G.lay v = 0 := fun v hv => by
    rcases Nat.eq_zero_or_pos (G.lay v) with z | z
    · exact z
    · have := (hok.lv v).mpr z
      rw [this] at hv; cases hv
  refine ⟨hT3, fun v hv p hp => ?_, h1, ?_⟩
  · rw [hlo v (lay0 v hv)] at hp
    unfold T2f at hp
    split at hp
    · rw [if_neg (by rw [hv]; decide)] at hp
      have h2 := List.mem_filter.mp hp
      have h3 := bT_9 hg.v hg.t hcs hb hv p h2.1
      have h4 : 0 < p.2 := by simpa using h2.2
      omega
    · rename_i hn
      split at hp
      · rename_i h8
        exact (hgl v h8 hn).2 p hp
      · exact absurd hp List.not_mem_nil
  · have := WK_res hok hln hS hW
    have e : res G.n (ks (T2f G T cs d gl)) = res G.n (ks (Tz G T3)) := by
      funext v
      by_cases hv : v < G.n
      · rw [res_lt hv, res_lt hv]
        unfold ks Tz
        cases hb : G.vw v with
        | true =>
          unfold T2f
          rw [if_pos hv, if_pos hb]
          rfl
        | false =>
          rw [if_neg (by decide), hlo v (lay0 v hb)]
      · rw [res_ge hv, res_ge hv]
    rw [e] at this
    exact this
/-- both sides' rows after a batch -/
theorem agree {G : pg_T} (hok : pg_ok G) (hln : ∀ v, ¬ v < G.n → G.lay v = 0) {T T' T3 T4 gl : Nat → al_T} {cs : sl_T} {d : Int} (hcs : ch_ok G cs) (he : ∀ v, v < G.n → T v = T' v) (hz : ∀ v, ¬ v < G.n → T' v = []) (hS : S_ok (ks (T2f G T cs d gl))) (hS' : S_ok (ks (Tz G (bT G T' cs d)))) (hW : WK G 8 (ks (T2f G T cs d gl)) (ks T3)) (hlo : ∀ v, G.lay v = 0 → T3 v = T2f G T cs d gl v) (h1 : ∀ v, v < 8 → 1 ≤ G.lay v → ∀ p ∈ T3 v, p.2 = 1) (hW' : WK G 8 (ks (Tz G (bT G T' cs d))) (ks T4)) (hlo' : ∀ v, G.lay v = 0 → T4 v = bT G T' cs d v) (h1' : ∀ v, 1 ≤ G.lay v → ∀ p ∈ T4 v, p.2 = 1) : (∀ v, v < G.n → T4 v = T3 v) ∧ ∀ v, ¬ v < G.n → T4 v = [] := by
  have hn8 := hok.n8
  refine ⟨fun v hv => ?_, fun v hv => ?_⟩
  · rcases Nat.eq_zero_or_pos (G.lay v) with z | z
    · have hvw : G.vw v = false := by
        cases hb : G.vw v with
        | false => rfl
        | true => have := (hok.lv v).mp hb; omega
      rw [hlo v z, hlo' v z]
      unfold T2f bT
      rw [if_pos hv, hvw, if_neg (by decide), if_neg (by decide), cT_v (he v hv)]
    · have a1 := WK_res hok hln hS hW
      have a2 := WK_res hok hln hS' hW'
      rw [T2f_res he] at a1
      have := congrFun (WK_uniq a2 a1) v
      rw [res_lt hv, res_lt hv] at this
      exact one_ext this (h1' v z) (h1 v (by omega) z)
  · rw [hlo' v (hln v hv)]
    unfold bT
    rw [vw_no hok hv, if_neg (by decide), cT_far (fun c hc e => hv (by rw [← e]; exact (hcs.t c hc).1)), hz v hv]
    rfl
theorem LC_app {G : pg_T} : ∀ {l l' : List sl_T} {T : Nat → al_T}, LC G T (l ++ l') → LC G T l
  | [], _, _, _ => trivial
  | h :: l, l', T, hl => by
    obtain ⟨T0, h1, h2, h3, h4, h5⟩ := hl
    exact ⟨T0, h1, h2, h3, h4, LC_app h5⟩
theorem LC_c {G : pg_T} : ∀ {l : List sl_T} {T T' : Nat → al_T}, (∀ v, v < G.n → G.vw v = false → T v = T' v) → LC G T l → LC G T' l
  | [], _, _, _, _ => trivial
  | h :: l, T, T', he, hl => by
    obtain ⟨T0, h1, h2, h3, h4, h5⟩ := hl
    exact ⟨T0, h1, h2, h3, fun v hv hw => by rw [← he v hv hw]; exact h4 v hv hw, h5⟩
theorem csum_neg : ∀ (cs : sl_T) (v k : Nat), csum cs (-1) v k = - csum cs 1 v k
  | [], _, _ => rfl
  | c :: cs, v, k => by
    have := csum_neg cs v k
    unfold csum
    rw [this]
    split <;> omega
/-- taking back finds the rows before -/
theorem undo_ok {G : pg_T} (hok : pg_ok G) {T T0 : Nat → al_T} {h : sl_T} (hg : good G T) (hg0 : good G T0) (hcs : ch_ok G h) (hb : bOk T0 h 1) (he : ∀ v, v < G.n → G.vw v = false → T v = bT G T0 h 1 v) : bOk T h (-1) ∧ ∀ v, v < G.n → G.vw v = false → bT G T h (-1) v = T0 v := by
  have hn8 := hok.n8
  have hget : ∀ v, v < G.n → G.vw v = false → ∀ k, al_get (T v) k + csum h (-1) v k = al_get (T0 v) k := fun v hv hw k => by
    rw [he v hv hw, bT_get hg0.v hg0.t hcs hb hw, csum_neg]
    omega
  have h1 : bOk T h (-1) := fun c hc => by
    obtain ⟨c1, c2⟩ := hcs.t c hc
    rw [hget c.1 c1 c2]
    have h9 := hg0.t c.1 c2
    exact al_get_bd (by decide) (fun p hp => by have := h9 p hp; omega)
  refine ⟨h1, fun v hv hw => ?_⟩
  have hs := cT_s (d := -1) hg.v hcs
  refine al_gext ?_ (hg0.v.srt v).1 ?_ (fun p hp => by have := hg0.t v hw p hp; omega) (fun k => ?_)
  · unfold bT
    rw [if_neg (by rw [hw]; decide)]
    exact List.Pairwise.sublist List.filter_sublist (hs.s v)
  · unfold bT
    rw [if_neg (by rw [hw]; decide)]
    exact al_ps_pos _
  · rw [bT_get hg.v hg.t hcs h1 hw, hget v hv hw]
