theorem ch_nil (G : pg_T) : ch_ok G [] := ⟨fun c hc => absurd hc List.not_mem_nil, fun c hc => absurd hc List.not_mem_nil, fun c hc => absurd hc List.not_mem_nil, Nat.zero_le _⟩
theorem hsn_len {hs : List sl_T} {cs : sl_T} (h : hs.length ≤ 6) : (hsn hs cs).length = if hs.length = 6 then 6 else hs.length + 1 := by
  unfold hsn
  split
  · rename_i e; rw [List.length_append, List.length_drop, e]; rfl
  · rw [List.length_append]; rfl
theorem hsn_mem {hs : List sl_T} {cs x : sl_T} (h : x ∈ hsn hs cs) : x ∈ hs ∨ x = cs := by
  unfold hsn at h
  rcases List.mem_append.mp h with h | h
  · left
    split at h
    · exact List.mem_of_mem_drop h
    · exact h
  · right
    exact List.mem_singleton.mp h
theorem hsn_rev (hs : List sl_T) (cs : sl_T) : ∃ l l', (hsn hs cs).reverse = cs :: l ∧ hs.reverse = l ++ l' := by
  unfold hsn
  rw [List.reverse_append]
  split
  · refine ⟨(hs.drop 1).reverse, (hs.take 1).reverse, rfl, ?_⟩
    rw [← List.reverse_append, List.take_append_drop]
  · exact ⟨hs.reverse, [], rfl, (List.append_nil _).symm⟩
theorem hsn_gd {hs : List sl_T} {cs : sl_T} {uw : Nat} {dd : Nat → Nat} (h : hs.length ≤ 6) {i : Nat} (hi : i < (hsn hs cs).length) : (ddn dd uw hs.length i = uw ∧ (hsn hs cs).getD i [] = cs) ∨ ∃ j, j < hs.length ∧ ddn dd uw hs.length i = dd j ∧ (hsn hs cs).getD i [] = hs.getD j [] := by
  rw [hsn_len h] at hi
  unfold ddn hsn
  by_cases e : hs.length = 6
  · rw [if_pos e] at hi
    rw [if_pos e, if_pos e]
    have hd : (hs.drop 1).length = 5 := by rw [List.length_drop, e]
    by_cases z : i = 5
    · left
      rw [if_pos z, List.getD_eq_getElem?_getD, List.getElem?_append_right (by omega), z, hd]
      exact ⟨rfl, rfl⟩
    · right
      refine ⟨i + 1, by omega, by rw [if_neg z], ?_⟩
      rw [List.getD_eq_getElem?_getD, List.getElem?_append_left (by omega), List.getElem?_drop, Nat.add_comm, List.getD_eq_getElem?_getD]
  · rw [if_neg e] at hi
    rw [if_neg e, if_neg e]
    by_cases z : i = hs.length
    · left
      rw [if_pos z, List.getD_eq_getElem?_getD, List.getElem?_append_right (by omega), z, Nat.sub_self]
      exact ⟨rfl, rfl⟩
    · right
      refine ⟨i, by omega, by rw [if_neg z], ?_⟩
      rw [List.getD_eq_getElem?_getD, List.getElem?_append_left (by omega), List.getD_eq_getElem?_getD]
theorem ddn_ok {dd : Nat → Nat} {uw n : Nat} (h : n ≤ 6) (hu : uw < 7 ∧ ∀ i, i < 6 → dd i < 7 ∧ dd i ≠ uw) (hid : ∀ i j, i < 6 → j < 6 → dd i = dd j → i = j) : (uwn dd n < 7 ∧ ∀ i, i < 6 → ddn dd uw n i < 7 ∧ ddn dd uw n i ≠ uwn dd n) ∧ ∀ i j, i < 6 → j < 6 → ddn dd uw n i = ddn dd uw n j → i = j := by
  unfold ddn uwn
  by_cases e : n = 6
  · rw [if_pos e]
    refine ⟨⟨(hu.2 0 (by decide)).1, fun i hi => ?_⟩, fun i j hi hj => ?_⟩
    · rw [if_pos e]
      by_cases z : i = 5
      · rw [if_pos z]; exact ⟨hu.1, fun y => (hu.2 0 (by decide)).2 y.symm⟩
      · rw [if_neg z]; exact ⟨(hu.2 _ (by omega)).1, fun y => by have := hid _ _ (by omega) (by decide) y; omega⟩
    · rw [if_pos e, if_pos e]
      by_cases z : i = 5
      · rw [if_pos z]
        by_cases y : j = 5
        · intro _; omega
        · rw [if_neg y]; exact fun w => absurd w.symm (hu.2 (j + 1) (by omega)).2
      · rw [if_neg z]
        by_cases y : j = 5
        · rw [if_pos y]; exact fun w => absurd w (hu.2 (i + 1) (by omega)).2
        · rw [if_neg y]; intro w; have := hid _ _ (by omega) (by omega) w; omega
  · rw [if_neg e]
    refine ⟨⟨(hu.2 n (by omega)).1, fun i hi => ?_⟩, fun i j hi hj => ?_⟩
    · rw [if_neg e]
      by_cases z : i = n
      · rw [if_pos z]; exact ⟨hu.1, fun y => (hu.2 n (by omega)).2 y.symm⟩
      · rw [if_neg z]; exact ⟨(hu.2 _ hi).1, fun y => z (hid _ _ hi (by omega) y)⟩
    · rw [if_neg e, if_neg e]
      by_cases z : i = n
      · rw [if_pos z]
        by_cases y : j = n
        · intro _; omega
        · rw [if_neg y]; exact fun w => absurd w.symm (hu.2 j hj).2
      · rw [if_neg z]
        by_cases y : j = n
        · rw [if_pos y]; exact fun w => absurd w (hu.2 i hi).2
        · rw [if_neg y]; exact fun w => hid _ _ hi hj w
theorem si_L_kf {x dn : Nat} {σ σ' : z_S} (h : kf x dn σ σ') {a r k s n : Nat} {l : sl_T} (e : si_L σ a r k s n l) : si_L σ' a r k s n l := by
  obtain ⟨⟨h1, h2, h3, h4, h5, h6, h7⟩, g2, g3, g4⟩ := e
  exact ⟨⟨by rw [h.ty]; exact h1, by rw [h.R 600 _ (by decide)]; exact h2, by rw [h.R 601 _ (by decide)]; exact h3, by rw [h.R 602 _ (by decide)]; exact h4, by rw [h.ty]; exact h5, by rw [h.ty]; exact h6, by rw [h.ty]; exact h7⟩, by rw [h.I 603 _ (by decide)]; exact g2, g3, fun i hi => by rw [h.A, h.A, h.A]; exact g4 i hi⟩
theorem rw_L_kf {x dn : Nat} {σ σ' : z_S} (h : kf x dn σ σ') {X : ex_T} {T : Nat → al_T} (hd : X.w ≠ dn) (e : rw_L X σ T) : rw_L X σ' T := by
  refine ⟨⟨by rw [h.ty]; exact e.1.tw, fun i hi => by rw [h.Q _ _ (Or.inr hd)]; exact e.1.qw i hi, fun i hi => ?_, e.1.ia, e.1.ik, e.1.ic⟩, fun i hi => ?_⟩
  · obtain ⟨a1, a2, a3, a4, a5⟩ := e.1.ro i hi
    exact ⟨by rw [h.ty]; exact a1, by rw [h.R 400 _ (by decide)]; exact a2, by rw [h.R 401 _ (by decide)]; exact a3, by rw [h.ty]; exact a4, by rw [h.ty]; exact a5⟩
  · obtain ⟨⟨a1, a2, a3, a4, a5⟩, h2, h3, h4, h5, h6⟩ := e.2 i hi
    exact ⟨⟨by rw [h.ty]; exact a1, by rw [h.R 400 _ (by decide)]; exact a2, by rw [h.R 401 _ (by decide)]; exact a3, by rw [h.ty]; exact a4, by rw [h.ty]; exact a5⟩, by rw [h.I 402 _ (by decide)]; exact h2, h3, h4, h5, fun j hj => by rw [h.A, h.A]; exact h6 j hj⟩
theorem si_L_0 {σ : z_S} {b a r k s n : Nat} {v : Int32} {l : sl_T} (hb : a ≠ b) (e : si_L σ a r k s n l) : si_L (z_sI σ 603 b v) a r k s n l := by
  obtain ⟨h1, g2, g3, g4⟩ := e
  exact ⟨h1, by rw [z_I_sI, if_neg (fun z => hb z.2)]; exact g2, g3, g4⟩
theorem si_L_nil {σ : z_S} {a r k s n : Nat} (e : si_T σ a r k s n) : si_L (z_sI σ 603 a 0) a r k s n [] := ⟨e, by rw [z_I_sI, if_pos ⟨rfl, rfl⟩]; rfl, Nat.zero_le _, fun i hi => absurd hi (Nat.not_lt_zero i)⟩
theorem rw_L_6 {σ : z_S} {b : Nat} {v : Int32} {X : ex_T} {T : Nat → al_T} (e : rw_L X σ T) : rw_L X (z_sI σ 603 b v) T := rw_L_q ⟨fun _ => rfl, fun _ _ => rfl, fun _ _ => rfl, fun f a h1 h2 => by rw [z_I_sI, if_neg (fun z => by omega)], fun _ _ _ => rfl⟩ e
/-- the first steps of the reference's batch -/
theorem ref_b0 {a : ab_T} {μ : mo_U} {T' : Nat → al_T} (hO : RO a μ T') (hc60 : a.cs.length ≤ 60) {K : mo_U → Prop} (hK : ∀ μ2, mo_fr [55] [831, 847] μ μ2 → μ2.1 831 = 0 → mo_SS μ2 (ssum a.cs 1) → rT μ2 a.G T' → K μ2) : ∀ μ17, μ17 = mu_sI μ 831 ((0 : Int32)) → mp_sum 46 ((0 : Int32)) (μ.1 831) ((1 : Int32)) μ17 K := fun μ1 e1 => by
  have h46 : fives (μ1.2 46) 0 a.cs := by rw [e1]; exact hO.b.2
  rw [hO.b.1]
  refine ref_sum (b1 := 46) (st := 0) (d := 1) ⟨by decide, by decide, by decide⟩ (by decide) h46 hc60 (by show _ ≤ 300; omega) (by decide) _ (fun μ2 fr2 hSS => ?_)
  have fr : mo_fr [55] [831, 847] μ μ2 := mo_fr_tr (by rw [e1]; exact fr_sI (by decide) _) (fr_mono fr2 (by decide) (by decide) : mo_fr [55] [831, 847] μ1 μ2)
  refine hK μ2 fr ?_ hSS (rT_fr hO.t fr (by decide) (by decide))
  rw [fr2.2 831 (by decide), e1, mu_I_sI, if_pos rfl]
