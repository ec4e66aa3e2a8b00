/-- positives among the first -/
def pcn (ls : List lit_T) (i : Nat) : Nat := (ps_of (ls.take i)).length
theorem pcn_s {ls : List lit_T} {i : Nat} (h : i < ls.length) : pcn ls (i + 1) = pcn ls i + if (ls.getD i d_lit).1 = 0 then 1 else 0 := by
  unfold pcn ps_of
  rw [List.take_succ_eq_append_getElem h, List.filter_append, List.length_append, gd_eq _ _ h]
  congr 1
  by_cases z : ls[i].1 = 0
  · rw [List.filter_cons_of_pos (by simpa using z), if_pos z]; rfl
  · rw [List.filter_cons_of_neg (by simpa using z), if_neg z]; rfl
theorem pcn_le (ls : List lit_T) (i : Nat) : pcn ls i ≤ ls.length := by
  unfold pcn ps_of
  exact Nat.le_trans (List.length_filter_le _ _) (by rw [List.length_take]; omega)
theorem ref_literal {t : tx_T} {μ : mo_U} {ri : Nat} {ls : List lit_T} {nm A : List Nat} {lt : Nat → Bool} {q : Nat} (h0 : rlS t ri ls nm A lt q μ) (h32 : μ.2 32 ri = 0 ∨ μ.2 32 ri = 1) (Q : mo_U → Prop) (h1 : ∀ r μ', ltl t ls nm A lt q = .ok r → rlS t ri (ls ++ [r.l]) r.nm r.A r.lt r.q μ' → LF ri nm.length r.nm.length μ μ' → Q μ') (h2 : ∀ e μ', ltl t ls nm A lt q = .error e → rsF t e μ' → mo_fr pts pfs μ μ' → Q μ') : mp_literal (nI ri) μ Q := by
  intro X55 X74 X129 X135 X150 X167 X185 X287 X314 X340 X352 h55 h74 h129 h135 h150 h167 h185 h287 h314 h340 h352
  obtain ⟨hr17, hl5, h28, hlits⟩ := h0.b
  have hok := h0.s.k.ok
  have hs := sg_ok hok q
  rw [cl_nI (by omega), h28, show (5 : Int32) * nI ri + nI ls.length = nI (5 * ri + ls.length) from by rw [nI_5, nI_k]]
  -- the end
  have endF : ∀ e μ1, ltl t ls nm A lt q = .error e → rsF t e μ1 → mo_fr pts pfs μ μ1 → X352 μ1 := fun e μ1 he hF fr => h352 _ ⟨vp_in_nI (by omega) (by decide), vp_in_nI (by omega) (by decide), fun μ2 e2 => by
    have fr2 : mo_fr pts [] μ1 μ2 := by rw [e2]; exact fr_sA (by decide) _
    exact h2 e μ2 he (rsF_fr hF fr2 (by decide) (by decide) (by decide) (by decide) (by decide) (by decide)) (mo_fr_tr fr (fr_mono fr2 (by decide) (by decide)))⟩
  have endO : ∀ r μ1, ls.length < 5 → ltl t ls nm A lt q = .ok r → rs0 t μ1 r.q → nms r.nm r.A μ1 → (∀ k, k < 26 → bi (μ1.2 33 ri) k = r.lt k) → rk r.lt 26 ≤ 6 → mo_lit μ1 (5 * ri + ls.length) r.l → F1 (5 * ri + ls.length) ri nm.length r.nm.length μ μ1 → X352 μ1 := fun r μ1 hl he hs1 hn1 hb1 h61 hm1 hF1 => h352 _ ⟨vp_in_nI (by omega) (by decide), vp_in_nI (by omega) (by decide), fun μ2 e2 => by
    have e28 : μ1.2 28 ri = nI ls.length := by rw [hF1.f.1 28 (by decide)]; exact h28
    rw [cl_nI (by omega), e28, nI_1] at e2
    obtain ⟨a1, a2⟩ := ref_litfin h0 hl hs1 hn1 hb1 h61 hm1 hF1 e2
    exact h1 r μ2 he a1 a2⟩
  have many : (((97 ≤ sg t q ∧ sg t q ≤ 122) ∨ sg t q = 126 ∨ (65 ≤ sg t q ∧ sg t q ≤ 90) ∨ (48 ≤ sg t q ∧ sg t q ≤ 57))) → (ls.length = 5 ∨ ((97 ≤ sg t q ∧ sg t q ≤ 122) ∧ (ps_of ls).length = 3)) → X129 μ := fun hval hm => h129 _ (ref_wrong (k := 3) h0.s (by decide) _ (fun μ1 hF fr => h2 (3, q) μ1 (by unfold ltl; rw [if_pos hval, if_pos hm]) hF (fr_mono fr (by decide) (by decide))))
  -- room is left
  have go : (((97 ≤ sg t q ∧ sg t q ≤ 122) ∨ sg t q = 126 ∨ (65 ≤ sg t q ∧ sg t q ≤ 90) ∨ (48 ≤ sg t q ∧ sg t q ≤ 57))) → ¬ (ls.length = 5 ∨ ((97 ≤ sg t q ∧ sg t q ≤ 122) ∧ (ps_of ls).length = 3)) → X135 (nI (5 * ri + ls.length)) (sI (sg t q)) μ := fun hval hroom => by
    have hlt5 : ls.length < 5 := by
      have : ls.length ≠ 5 := fun z => hroom (Or.inl z)
      omega
    have eL : ltl t ls nm A lt q = if 97 ≤ sg t q ∧ sg t q ≤ 122 then nmd t 0 nm A lt q else if sg t q = 126 then nmd t 1 nm A lt (nxt t (q + 1)) else cnd t nm A lt q := by
      unfold ltl
      rw [if_pos hval, if_neg hroom]
    have e126 : sI (sg t q) = 126 ↔ sg t q = 126 := sI_eq (k := 126) hs (by decide)
    have named : (97 ≤ sg t q ∧ sg t q ≤ 122) ∨ sg t q = 126 → X150 (nI (5 * ri + ls.length)) (sI (sg t q)) μ := fun hnm => by
      have goN : ∀ (k q0 : Nat) (μa : mo_U), k ≤ 1 → ltl t ls nm A lt q = nmd t k nm A lt q0 → rs0 t μa q0 → mo_fr [29] [805] μ μa → μa.2 29 (5 * ri + ls.length) = nI k → (∀ j, j ≠ 5 * ri + ls.length → μa.2 29 j = μ.2 29 j) → mp_relationAt μa (fun (r195 : Int32) (μ195 : mo_U) => vp_in (nI (5 * ri + ls.length)) 85 ∧ ∀ μ198, μ198 = mu_sA μ195 30 (upd (μ195.2 30) (nI (5 * ri + ls.length)).toNatClampNeg r195) → (¬ ((μ198.1 806)) = 0 → X352 μ198) ∧ (((μ198.1 806)) = 0 → vp_in (nI (5 * ri + ls.length)) 85 ∧ (mp_terms (nI ri) (μ198.2 30 (nI (5 * ri + ls.length)).toNatClampNeg) 31 (((3 : Int32)) * nI (5 * ri + ls.length)) ((0 : Int32)) μ198 (fun (μ222 : mo_U) => X352 μ222)))) := fun k q0 μa hk he hsa fra h29 ho29 => ref_named h0 hlt5 hk h32 hsa fra h29 ho29 X352 (fun r μ' hr a1 a2 a3 a4 a5 a6 => endO r μ' hlt5 (he.trans hr) a1 a2 a3 a4 a5 a6) (fun e μ' hr hF fr => endF e μ' (he.trans hr) hF fr)
      refine h150 _ _ _ ⟨fun hne => ?_, fun he => ?_⟩
      · have hne' : ¬ sg t q = 126 := fun z => hne (e126.mpr z)
        have hN := hnm.resolve_right hne'
        refine h167 _ _ _ _ _ ⟨vp_in_nI (by omega) (by decide), fun μ1 e1 => ⟨fun _ => ?_, fun z => absurd z hne⟩⟩
        rw [cl_nI (by omega)] at e1
        refine h185 _ _ _ _ (fun μ2 e2 => ?_)
        have fr1 : mo_fr [29] [] μ μ1 := by rw [e1]; exact fr_sA (by decide) _
        have fr2 : mo_fr [] [805] μ1 μ2 := by rw [e2]; exact fr_sI (by decide) _
        have hs1 := rs0_fr h0.s fr1 (by decide) (by decide) (by decide) (by decide) (by decide)
        have hs2 : rs0 t μ2 q := ⟨tkn_fr hs1.k fr2 (by decide) (by decide) (by decide), h0.s.q, by rw [e2, mu_I_sI, if_pos rfl, hs1.a]; exact Int32.add_zero _, by rw [fr2.2 806 (by decide)]; exact hs1.f⟩
        have x29 : ∀ j, μ2.2 29 j = if j = 5 * ri + ls.length then 0 else μ.2 29 j := fun j => by rw [e2, e1]; rfl
        exact goN 0 q μ2 (by decide) (by rw [eL, if_pos hN]) hs2 (mo_fr_tr (fr_mono fr1 (by decide) (by decide)) (fr_mono fr2 (by decide) (by decide))) (by rw [x29, if_pos rfl]; rfl) (fun j hj => by rw [x29, if_neg hj])
      · have he' := e126.mp he
        refine h167 _ _ _ _ _ ⟨vp_in_nI (by omega) (by decide), fun μ1 e1 => ⟨fun z => absurd he z, fun _ => ?_⟩⟩
        rw [cl_nI (by omega)] at e1
        refine h185 _ _ _ _ (fun μ2 e2 => ?_)
        have fr1 : mo_fr [29] [] μ μ1 := by rw [e1]; exact fr_sA (by decide) _
        have fr2 : mo_fr [] [805] μ1 μ2 := by rw [e2]; exact fr_sI (by decide) _
        have hs1 := rs0_fr h0.s fr1 (by decide) (by decide) (by decide) (by decide) (by decide)
        rw [hs1.a, nI_1] at e2
        have hs2 := rs0_st hs1 (sg_lt he' (by decide)) e2
        have x29 : ∀ j, μ2.2 29 j = if j = 5 * ri + ls.length then 1 else μ.2 29 j := fun j => by rw [e2, e1]; rfl
        exact goN 1 (nxt t (q + 1)) μ2 (by decide) (by rw [eL, if_neg (by omega), if_pos he']) hs2 (mo_fr_tr (fr_mono fr1 (by decide) (by decide)) (fr_mono fr2 (by decide) (by decide))) (by rw [x29, if_pos rfl]; rfl) (fun j hj => by rw [x29, if_neg hj])
    refine h135 _ _ _ (ref_isName hs _ (fun hN => ⟨fun _ => named (Or.inl hN), fun z => absurd z (by decide)⟩) (fun hN => ⟨fun z => absurd rfl z, fun _ => ⟨fun hne => ⟨vp_in_nI (by omega) (by decide), fun μ1 e1 => ?_⟩, fun he => named (Or.inr (e126.mp he))⟩⟩))
    -- a condition
    have hne' : ¬ sg t q = 126 := fun z => hne (e126.mpr z)
    rw [if_neg hN, if_neg hne'] at eL
    rw [cl_nI (by omega)] at e1
    have fr1 : mo_fr [29] [] μ μ1 := by rw [e1]; exact fr_sA (by decide) _
    have hs1 := rs0_fr h0.s fr1 (by decide) (by decide) (by decide) (by decide) (by decide)
    have x29 : ∀ j, μ1.2 29 j = if j = 5 * ri + ls.length then 2 else μ.2 29 j := fun j => by rw [e1]; rfl
    have m3 : (3 : Int32) * nI (5 * ri + ls.length) = nI (3 * (5 * ri + ls.length)) := by rw [show (3 : Int32) = nI 3 from rfl, pk_mul]
    have m31 : (3 : Int32) * nI (5 * ri + ls.length) + 1 = nI (3 * (5 * ri + ls.length) + 1) := by rw [m3, nI_1]
    have m32 : (3 : Int32) * nI (5 * ri + ls.length) + 2 = nI (3 * (5 * ri + ls.length) + 2) := by rw [m3, show (2 : Int32) = nI 2 from rfl, nI_k]
    have f340 : ∀ e μ2, ltl t ls nm A lt q = .error e → rsF t e μ2 → mo_fr pts pfs μ μ2 → X340 (nI (5 * ri + ls.length)) μ2 := fun e μ2 he hF fr => h340 _ _ ⟨by rw [m32]; exact vp_in_nI (by omega) (by decide), fun μ3 e3 => by
      have fr3 : mo_fr pts [] μ2 μ3 := by rw [e3]; exact fr_sA (by decide) _
      exact endF e μ3 he (rsF_fr hF fr3 (by decide) (by decide) (by decide) (by decide) (by decide) (by decide)) (mo_fr_tr fr (fr_mono fr3 (by decide) (by decide)))⟩
    have f287 : ∀ e μ2, ltl t ls nm A lt q = .error e → rsF t e μ2 → mo_fr pts pfs μ μ2 → X287 (nI (5 * ri + ls.length)) μ2 := fun e μ2 he hF fr => by
      obtain ⟨qq, g1, g2⟩ := hF.a
      refine h287 _ _ (ref_sign hF.k g1 g2 _ ⟨vp_in_nI (by omega) (by decide), fun μ3 e3 => ?_⟩)
      have fr3 : mo_fr pts [] μ2 μ3 := by rw [e3]; exact fr_sA (by decide) _
      have hF3 := rsF_fr hF fr3 (by decide) (by decide) (by decide) (by decide) (by decide) (by decide)
      refine ⟨fun _ => h314 _ _ _ _ (fun μ4 e4 => ?_), fun z => absurd z (rsF_n0 hF3)⟩
      obtain ⟨hF4, fr4⟩ := rsF_0 hF3 e4
      exact ⟨fun _ => f340 e μ4 he hF4 (mo_fr_tr fr (mo_fr_tr (fr_mono fr3 (by decide) (by decide)) (fr_mono fr4 (by decide) (by decide)))), fun z => absurd z (rsF_n0 hF4)⟩
    refine ref_term (lt := lt) hs1 hr17 (fun k hk => by rw [fr1.1 33 (by decide)]; exact h0.l k hk) _ (fun r μ2 er hs2 fr2 hb2 ho2 => ⟨by rw [m3]; exact vp_in_nI (by omega) (by decide), fun μ3 e3 => ?_⟩) (fun e μ2 er hF fr2 => ⟨by rw [m3]; exact vp_in_nI (by omega) (by decide), fun μ3 e3 => ?_⟩)
    · rw [m3, cl_nI (by omega)] at e3
      obtain ⟨tx, tq, tl, t6⟩ := trm_ok h0.s.q er
      have fr3 : mo_fr [31] [] μ2 μ3 := by rw [e3]; exact fr_sA (by decide) _
      have hs3 := rs0_fr hs2 fr3 (by decide) (by decide) (by decide) (by decide) (by decide)
      have eC0 : ¬ (sg t r.q = 60 ∨ sg t r.q = 61 ∨ sg t r.q = 33) → cnd t nm A lt q = .error (1, r.q) := fun hno => by
        unfold cnd
        rw [er]
        dsimp only
        rw [if_neg hno]
      have eC1 : (sg t r.q = 60 ∨ sg t r.q = 61 ∨ sg t r.q = 33) → ∀ e, trm t r.lt (nxt t (r.q + 1)) = .error e → cnd t nm A lt q = .error e := fun hop e he => by
        unfold cnd
        rw [er]
        dsimp only
        rw [if_pos hop, he]
      have eC2 : (sg t r.q = 60 ∨ sg t r.q = 61 ∨ sg t r.q = 33) → ∀ r2, trm t r.lt (nxt t (r.q + 1)) = .ok r2 → cnd t nm A lt q = .ok ⟨(2, sg t r.q, tm3 [r.x, r2.x]), nm, A, r2.lt, r2.q⟩ := fun hop e he => by
        unfold cnd
        rw [er]
        dsimp only
        rw [if_pos hop, he]
      have fr03 : mo_fr [29, 31, 33] [805] μ μ3 := mo_fr_tr (fr_mono fr1 (by decide) (by decide)) (mo_fr_tr (fr_mono fr2 (by decide) (by decide)) (fr_mono fr3 (by decide) (by decide)))
      have opr : (sg t r.q = 60 ∨ sg t r.q = 61 ∨ sg t r.q = 33) → X287 (nI (5 * ri + ls.length)) μ3 := fun hop => by
        have hs256 : sg t r.q < 256 := by omega
        have hqn : r.q < t.n := sg_lt rfl hs256
        have es : sI (sg t r.q) = nI (sg t r.q) := by unfold sI; rw [if_neg (by omega)]
        refine h287 _ _ (ref_sign hs3.k hs3.q hs3.a _ ⟨vp_in_nI (by omega) (by decide), fun μ4 e4 => ?_⟩)
        rw [cl_nI (by omega), es] at e4
        have fr4 : mo_fr [30] [] μ3 μ4 := by rw [e4]; exact fr_sA (by decide) _
        have hs4 := rs0_fr hs3 fr4 (by decide) (by decide) (by decide) (by decide) (by decide)
        refine ⟨fun z => absurd hs4.f z, fun _ => h314 _ _ _ _ (fun μ5 e5 => ?_)⟩
        rw [hs4.a, nI_1] at e5
        have hs5 := rs0_st hs4 hqn e5
        have fr5 : mo_fr [] [805] μ4 μ5 := by rw [e5]; exact fr_sI (by decide) _
        have fr05 : mo_fr [29, 30, 31, 33] [805] μ μ5 := mo_fr_tr (fr_mono fr03 (by decide) (by decide)) (mo_fr_tr (fr_mono fr4 (by decide) (by decide)) (fr_mono fr5 (by decide) (by decide)))
        refine ⟨fun z => absurd hs5.f z, fun _ => ref_term hs5 hr17 (lt := r.lt) (fun k hk => by rw [fr5.1 33 (by decide), fr4.1 33 (by decide), fr3.1 33 (by decide)]; exact hb2 k hk) _ (fun r2 μ6 er2 hs6 fr6 hb6 ho6 => ⟨by rw [m31]; exact vp_in_nI (by omega) (by decide), fun μ7 e7 => ?_⟩) (fun e μ6 er2 hF fr6 => ⟨by rw [m31]; exact vp_in_nI (by omega) (by decide), fun μ7 e7 => ?_⟩)⟩
        · rw [m31, cl_nI (by omega)] at e7
          obtain ⟨ux, uq, ul, u6⟩ := trm_ok hs5.q er2
          have fr7 : mo_fr [31] [] μ6 μ7 := by rw [e7]; exact fr_sA (by decide) _
          have hs7 := rs0_fr hs6 fr7 (by decide) (by decide) (by decide) (by decide) (by decide)
          refine h340 _ _ ⟨by rw [m32]; exact vp_in_nI (by omega) (by decide), fun μ8 e8 => ?_⟩
          rw [m32, cl_nI (by omega)] at e8
          have fr8 : mo_fr [31] [] μ7 μ8 := by rw [e8]; exact fr_sA (by decide) _
          have hs8 := rs0_fr hs7 fr8 (by decide) (by decide) (by decide) (by decide) (by decide)
          have fr08 : mo_fr [29, 30, 31, 33] [805] μ μ8 := mo_fr_tr fr05 (mo_fr_tr (fr_mono fr6 (by decide) (by decide)) (mo_fr_tr (fr_mono fr7 (by decide) (by decide)) (fr_mono fr8 (by decide) (by decide))))
          have eC := eC2 hop r2 er2
          have y31 : ∀ j, μ8.2 31 j = if j = 3 * (5 * ri + ls.length) + 2 then 100 else if j = 3 * (5 * ri + ls.length) + 1 then nI r2.x else if j = 3 * (5 * ri + ls.length) then nI r.x else μ.2 31 j := fun j => by
            rw [e8, mu_A_sA', if_pos rfl]
            show (if j = _ then 100 else μ7.2 31 j) = _
            rw [e7, mu_A_sA', if_pos rfl]
            show (if j = _ then 100 else if j = _ then nI r2.x else μ6.2 31 j) = _
            rw [fr6.1 31 (by decide), fr5.1 31 (by decide), fr4.1 31 (by decide), e3, mu_A_sA', if_pos rfl]
            show (if j = _ then 100 else if j = _ then nI r2.x else if j = _ then nI r.x else μ2.2 31 j) = _
            rw [fr2.1 31 (by decide), fr1.1 31 (by decide)]
          have y30 : ∀ j, μ8.2 30 j = if j = 5 * ri + ls.length then nI (sg t r.q) else μ.2 30 j := fun j => by
            rw [fr8.1 30 (by decide), fr7.1 30 (by decide), fr6.1 30 (by decide), fr5.1 30 (by decide), e4, mu_A_sA', if_pos rfl]
            show (if j = _ then nI (sg t r.q) else μ3.2 30 j) = _
            rw [fr03.1 30 (by decide)]
          have y29 : ∀ j, μ8.2 29 j = if j = 5 * ri + ls.length then 2 else μ.2 29 j := fun j => by
            rw [fr8.1 29 (by decide), fr7.1 29 (by decide), fr6.1 29 (by decide), fr5.1 29 (by decide), fr4.1 29 (by decide), fr3.1 29 (by decide), fr2.1 29 (by decide), x29]
          have y33 : ∀ j, μ8.2 33 j = μ6.2 33 j := fun j => by rw [fr8.1 33 (by decide), fr7.1 33 (by decide)]
          obtain ⟨o1, o2⟩ := tOK_3 (l := [r.x, r2.x]) (fun x hx => by
            rcases List.mem_cons.mp hx with z | z
            · rw [z]; exact tx
            · rw [List.mem_singleton.mp z]; exact ux)
          refine endO ⟨(2, sg t r.q, tm3 [r.x, r2.x]), nm, A, r2.lt, r2.q⟩ μ8 hlt5 (eL.trans eC) hs8 (nms_fr h0.n fr08 (by decide) (by decide) (by decide)) (fun k hk => by rw [y33]; exact hb6 k hk) (u6 (t6 h0.r)) ⟨?_, ?_, ?_, ?_, ?_, Nat.le_refl _, hs256, fun z => absurd (show 2 ≤ 1 from z) (by decide), o1, o2⟩ ⟨fr_mono fr08 (by decide) (by decide), fun j hj => by rw [y29, if_neg hj], fun j hj => by rw [y30, if_neg hj], fun j hj => by rw [y31, if_neg (by omega), if_neg (by omega), if_neg (by omega)], fun j hj => ?_, fr08.1 32 (by decide), fun k hk => by rw [fr08.1 36 (by decide)], fun k k1 k2 => absurd k2 (by show ¬ k < nm.length; omega), Nat.le_refl _⟩
          · rw [y29, if_pos rfl]; rfl
          · rw [y30, if_pos rfl]
          · rw [y31, if_neg (by omega), if_neg (by omega), if_pos rfl]; rfl
          · rw [y31, if_neg (by omega), if_pos rfl]; rfl
          · rw [y31, if_pos rfl]; rfl
          · rw [y33, ho6 j hj, fr5.1 33 (by decide), fr4.1 33 (by decide), fr3.1 33 (by decide), ho2 j hj, fr1.1 33 (by decide)]
        · have eC := eC1 hop e er2
          have fr7 : mo_fr pts [] μ6 μ7 := by rw [e7]; exact fr_sA (by decide) _
          exact f340 e μ7 (eL.trans eC) (rsF_fr hF fr7 (by decide) (by decide) (by decide) (by decide) (by decide) (by decide)) (mo_fr_tr (fr_mono fr05 (by decide) (by decide)) (mo_fr_tr (fr_mono fr6 (by decide) (by decide)) (fr_mono fr7 (by decide) (by decide))))
      refine ⟨fun z => absurd hs3.f z, fun _ => ref_sign hs3.k hs3.q hs3.a _ ?_⟩
      rw [show (60 : Int32) = nI 60 from rfl, show (61 : Int32) = nI 61 from rfl, show (33 : Int32) = nI 33 from rfl, sI_eq (sg_ok hok _) (by decide)]
      refine ⟨fun z => opr (Or.inl z), fun z => ref_sign hs3.k hs3.q hs3.a _ ?_⟩
      rw [sI_eq (sg_ok hok _) (by decide)]
      refine ⟨fun y => opr (Or.inr (Or.inl y)), fun y => ref_sign hs3.k hs3.q hs3.a _ ?_⟩
      rw [sI_eq (sg_ok hok _) (by decide)]
      refine ⟨fun w => opr (Or.inr (Or.inr w)), fun w => ref_wrong (k := 1) hs3 (by decide) _ (fun μ4 hF fr4 => ?_)⟩
      have eC := eC0 (fun v => v.elim z (fun u => u.elim y w))
      exact f287 (1, r.q) μ4 (eL.trans eC) hF (mo_fr_tr (fr_mono fr03 (by decide) (by decide)) (fr_mono fr4 (by decide) (by decide)))
    · have eC : cnd t nm A lt q = .error e := by
        unfold cnd
        rw [er]
      have fr3 : mo_fr pts [] μ2 μ3 := by rw [e3]; exact fr_sA (by decide) _
      have hF3 := rsF_fr hF fr3 (by decide) (by decide) (by decide) (by decide) (by decide) (by decide)
      exact ⟨fun _ => f287 e μ3 (eL.trans eC) hF3 (mo_fr_tr (fr_mono fr1 (by decide) (by decide)) (mo_fr_tr (fr_mono fr2 (by decide) (by decide)) (fr_mono fr3 (by decide) (by decide)))), fun z => absurd z (rsF_n0 hF3)⟩
  -- what is read so far is counted
  have count : (((97 ≤ sg t q ∧ sg t q ≤ 122) ∨ sg t q = 126 ∨ (65 ≤ sg t q ∧ sg t q ≤ 90) ∨ (48 ≤ sg t q ∧ sg t q ≤ 57))) → X55 (nI ls.length) (nI (5 * ri + ls.length)) (sI (sg t q)) 1 μ := fun hval => by
    refine h55 _ _ _ _ _ ⟨fun _ => ?_, fun z => absurd z (by decide)⟩
    have main : ∀ k i, i + k = ls.length → X74 (nI ls.length) (nI (5 * ri + ls.length)) (sI (sg t q)) (nI (pcn ls i)) (nI i) μ := by
      intro k
      induction k with
      | zero =>
        intro i hi
        have hpc : pcn ls i = (ps_of ls).length := by
          unfold pcn
          rw [show i = ls.length by omega, List.take_length]
        have hple := pcn_le ls i
        refine h74 _ _ _ _ _ _ ⟨fun _ => ?_, fun z => absurd (nI_le (by omega) (by omega)) z⟩
        rw [show (5 : Int32) = nI 5 from rfl, nI_eq (by omega) (by decide), show (3 : Int32) = nI 3 from rfl, nI_eq (by omega) (by decide), hpc]
        refine ⟨fun z => many hval (Or.inl z), fun z => ref_isName hs _ (fun hN => ⟨fun y => absurd y (by decide), fun _ => ⟨fun y => go hval (fun w => w.elim z (fun v => y v.2)), fun y => many hval (Or.inr ⟨hN, y⟩)⟩⟩) (fun hN => ⟨fun _ => go hval (fun w => w.elim z (fun v => hN v.1)), fun y => absurd rfl y⟩)⟩
      | succ k ih =>
        intro i hi
        have hil : i < ls.length := by omega
        obtain ⟨g1, _, _, _, _, g6, _⟩ := hlits i hil
        refine h74 _ _ _ _ _ _ ⟨fun z => absurd z (nI_ge (by omega) (by omega)), fun _ => ?_⟩
        rw [nI_5, nI_k, cl_nI (by omega), g1, nI_1]
        refine ⟨vp_in_nI (by omega) (by decide), fun z => ?_, fun z => ?_⟩
        · have hne : ¬ (ls.getD i d_lit).1 = 0 := fun y => z (by rw [y]; rfl)
          have := ih (i + 1) (by omega)
          rw [pcn_s hil, if_neg hne] at this
          rw [show nI (pcn ls i) + (0 : Int32) = nI (pcn ls i + 0) from Int32.add_zero _]
          exact this
        · have he : (ls.getD i d_lit).1 = 0 := (nI_eq (b := 0) (by omega) (by decide)).mp z
          have := ih (i + 1) (by omega)
          rw [pcn_s hil, if_pos he] at this
          rw [nI_1]
          exact this
    exact main ls.length 0 (by omega)
  refine ⟨vp_in_nI (by omega) (by decide), ref_sign h0.s.k h0.s.q h0.s.a _ (ref_isName hs _ (fun hN => ⟨fun _ => count (Or.inl hN), fun z => absurd z (by decide)⟩) (fun hN => ⟨fun z => absurd rfl z, fun _ => ?_⟩))⟩
  rw [show (126 : Int32) = nI 126 from rfl, sI_eq hs (by decide)]
  refine ⟨fun z => count (Or.inr (Or.inl z)), fun z => ref_isVariable hs _ (fun hV => ⟨fun _ => count (Or.inr (Or.inr (Or.inl hV))), fun y => absurd y (by decide)⟩) (fun hV => ⟨fun y => absurd rfl y, fun _ => ref_isDigit hs _ (fun hD => ⟨fun y => absurd y (by decide), fun _ => count (Or.inr (Or.inr (Or.inr hD)))⟩) (fun hD => ⟨fun _ => ?_, fun y => absurd rfl y⟩)⟩)⟩
  refine h55 _ _ _ _ _ ⟨fun y => absurd rfl y, fun _ => ref_wrong (k := 1) h0.s (by decide) _ (fun μ1 hF fr => h2 (1, q) μ1 ?_ hF (fr_mono fr (by decide) (by decide)))⟩
  unfold ltl
  rw [if_neg (fun w => w.elim hN (fun v => v.elim z (fun u => u.elim hV hD)))]
