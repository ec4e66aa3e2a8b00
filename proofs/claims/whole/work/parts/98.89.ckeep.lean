theorem i206 (x : Int32) : ∃ n : Nat, n < 2 ^ 31 ∧ ∀ i : Nat, i < 2 ^ 31 → (x ≤ nI i ↔ n ≤ i) := by
  by_cases h : x < 0
  · refine ⟨0, by decide, fun i hi => ⟨fun _ => Nat.zero_le _, fun _ => ?_⟩⟩
    have h1 := nI_pos' hi
    exact Int32.le_of_lt (Int32.lt_of_lt_of_le h h1)
  · obtain ⟨j, hj, e⟩ := nI_of h
    exact ⟨j, hj, fun i hi => by rw [e]; exact nI_leI hj hi⟩
/-- the program keeps what was wrong -/
theorem cl_keep {x R P na rg n : Nat} {pl : Int32} {m : Nat → Bool} {nm : List Nat} {σ0 : z_S} (tx : z_ty σ0 x = some (.inl 7)) (rr : z_R σ0 703 x = some rg) (tr : z_ty σ0 rg = some (.inr (0, 8, 19))) (x4 : z_I σ0 704 x = 0) (tR : z_ty σ0 R = some (.inl 3)) (rP : z_R σ0 300 R = some P) (tP : z_ty σ0 P = some (.inl 2)) (h2 : z_I σ0 302 R = pl) (n31 : n < 2 ^ 31) (h6 : ∀ i : Nat, i < 2 ^ 31 → (z_I σ0 206 P ≤ nI i ↔ n ≤ i)) (h8 : ∀ i, i < n → bi (z_I σ0 208 P) i = m i) (hm : ∀ i, i < n → m i = true → n ≤ 8 ∧ z_R σ0 202 P = some na ∧ z_ty σ0 na = some (.inr (0, 8, 8)) ∧ z_A σ0 8 na i = nI (nm.getD i 0)) (Po : z_S → Prop) (h : ∀ σ, nf [(702, x), (704, x)] [(19, rg)] σ0 σ → z_I σ 702 x = pl → z_I σ 704 x = nI (rgl m nm n).length → (∀ i, i < (rgl m nm n).length → z_A σ 19 rg i = nI ((rgl m nm n).getD i 0)) → Po σ) : kp_Vr_keepFault x R σ0 Po := by
  intro X10 h10
  refine ⟨tR, tx, fun σ1 e1 => ?_⟩
  have main : ∀ k i (σ : z_S), i + k = n → nf [(702, x), (704, x)] [(19, rg)] σ0 σ → z_I σ 702 x = pl → z_I σ 704 x = nI (rgl m nm i).length → (∀ j, j < (rgl m nm i).length → z_A σ 19 rg j = nI ((rgl m nm i).getD j 0)) → X10 (nI i) σ := by
    intro k
    induction k with
    | zero =>
      intro i σ hi hf a2 a4 aA
      refine h10 _ _ ⟨by rw [hf.ty]; exact tR, P, by rw [hf.R]; exact rP, by rw [hf.ty]; exact tP, ?_⟩
      rw [hf.I _ _ (by simp), h6 i (by omega)]
      have e : i = n := by omega
      rw [e] at a4 aA
      exact ⟨fun _ => h σ hf a2 a4 aA, fun z => absurd (by omega) z⟩
    | succ k ih =>
      intro i σ hi hf a2 a4 aA
      have hlen := rgl_len m nm i
      refine h10 _ _ ⟨by rw [hf.ty]; exact tR, P, by rw [hf.R]; exact rP, by rw [hf.ty]; exact tP, ?_⟩
      rw [hf.I _ _ (by simp), h6 i (by omega)]
      refine ⟨fun z => absurd z (by omega), fun _ => ⟨by rw [hf.ty]; exact tR, P, by rw [hf.R]; exact rP, by rw [hf.ty]; exact tP, vr_isIn _ i σ _ ?_⟩⟩
      rw [hf.I _ _ (by simp), h8 i (by omega), nI_1]
      cases hmi : m i with
      | false =>
        refine ⟨fun _ => ih (i + 1) σ (by omega) hf a2 ?_ ?_, fun z => absurd rfl z⟩
        · rw [rgl_s, if_neg (by rw [hmi]; decide)]; exact a4
        · rw [rgl_s, if_neg (by rw [hmi]; decide)]; exact aA
      | true =>
        obtain ⟨n8, g1, g2, g3⟩ := hm i (by omega) hmi
        refine ⟨fun z => absurd z (by decide), fun _ => ⟨by rw [hf.ty]; exact tx, rg, by rw [hf.R]; exact rr, by rw [hf.ty]; exact tx, by rw [hf.ty]; exact tR, P, by rw [hf.R]; exact rP, by rw [hf.ty]; exact tP, na, by rw [hf.R]; exact g1, 8, 8, by rw [hf.ty]; exact g2, vp_in_nI (by omega) (by decide), 8, 19, by rw [hf.ty]; exact tr, by rw [a4]; exact vp_in_nI (by omega) (by decide), fun σ2 e2 => ⟨by rw [e2, z_ty_sA, hf.ty]; exact tx, by rw [e2, z_ty_sA, hf.ty]; exact tx, fun σ3 e3 => ?_⟩⟩⟩
        rw [a4, cl_nI (by omega), cl_nI (by omega), hf.A 8 na (by simp), g3] at e2
        have er : rgl m nm (i + 1) = rgl m nm i ++ [nm.getD i 0] := by rw [rgl_s, if_pos hmi]
        have hl1 : (rgl m nm i ++ [nm.getD i 0]).length = (rgl m nm i).length + 1 := by rw [List.length_append]; rfl
        refine ih (i + 1) σ3 (by omega) (nf_tr hf (by
          rw [e3, e2]
          exact nf_tr (nf_sA (by simp)) (nf_sI (by simp)))) ?_ ?_ (fun j hj => ?_)
        · rw [e3, z_I_sI, if_neg (fun z => absurd z.1 (by decide)), e2, z_I_sA]; exact a2
        · rw [e3, z_I_sI, if_pos ⟨rfl, rfl⟩, e2, z_I_sA, a4, nI_1, er, hl1]
        · rw [er] at hj ⊢
          rw [e3, z_A_sI, e2, z_A_sA, if_pos ⟨rfl, rfl⟩, gd_sn]
          unfold upd
          by_cases z : j = (rgl m nm i).length
          · rw [if_pos z, if_pos z]
          · rw [if_neg z, if_neg z]; exact aA j (by omega)
  exact main n 0 σ1 (by omega) (by rw [e1]; exact nf_sI (by simp)) (by rw [e1, z_I_sI, if_pos ⟨rfl, rfl⟩]; exact h2) (by rw [e1, z_I_sI, if_neg (fun z => absurd z.1 (by decide)), x4]; rfl) (fun j hj => absurd hj (Nat.not_lt_zero j))
theorem CI_flt {V : vc_T} {a : ab_T} {p : Nat} {σ σ' : z_S} (hC : CI (v_off V p) (a_off a (-1) []) σ) (f : nf [(702, V.x), (704, V.x)] [(19, V.rg)] σ σ') {pl : Int32} {rg : List Nat} (x2 : z_I σ' 702 V.x = pl) (x4 : z_I σ' 704 V.x = nI rg.length) (g8 : rg.length ≤ 8) (gg : ∀ i, i < rg.length → z_A σ' 19 V.rg i = nI (rg.getD i 0)) : CI (v_off V p) (a_off a pl rg) σ' := by
  have hn : non (v_off V p) (a_off a (-1) []) σ := CI_non hC rfl
  have hx : xf V.x (V.O V.uw) (V.O 7) σ σ' := ⟨fun c _ => f.ty c, fun g c _ _ => f.R g c, fun t c _ => f.Q t c, fun t c _ ht => f.A t c (fun z => ht (by simp at z; exact z.1)), fun g c _ h1 _ => f.I g c (fun z => by
    simp at z
    rcases z with ⟨z1, z2⟩ | ⟨z1, z2⟩
    · exact h1 ⟨z2, Or.inr (Or.inl z1)⟩
    · exact h1 ⟨z2, Or.inr (Or.inr (Or.inl z1))⟩)⟩
  exact CI_off (V := v_off V p) (a := a_off a (-1) []) hC hx (p := p) ((f.R _ _).trans hn.rp) ((f.ty _).trans hn.ty) ((f.I _ _ (by simp)).trans hn.i1) ((f.I _ _ (by simp)).trans hn.i6) ((f.I _ _ (by simp)).trans hn.i7) ((f.I _ _ (by simp)).trans hC.n0) x2 x4 g8 gg ((f.I _ _ (by simp)).trans hC.ds) ((f.I _ _ (by simp)).trans hC.su.2.1) ((f.I _ _ (by simp)).trans hC.sl.2.1)
