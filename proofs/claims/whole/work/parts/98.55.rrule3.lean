theorem ref_rule {t : tx_T} {rs : List ru_T} {nm A : List Nat} {q : Nat} {μ : mo_U} (h0 : rsS t rs nm A q μ) (Q : mo_U → Prop) (h1 : ∀ r μ', rul t rs nm A q = .ok r → rs.length < 16 → rsS t (rs ++ [r.r]) r.nm r.A r.q μ' → mo_fr pts [805, 808, 817] μ μ' → Q μ') (h2 : ∀ e μ', rul t rs nm A q = .error e → rsF t e μ' → mo_fr pts pfs μ μ' → Q μ') : mp_rule μ Q := by
  intro X48 X129 X163 X184 X196 h48 h129 h163 h184 h196
  have n16 := h0.o.n
  have hok := h0.s.k.ok
  have hs := sg_ok hok q
  rw [h0.m, cl_nI (by omega)]
  refine ⟨vp_in_nI (by omega) (by decide), fun μ1 e1 => ⟨vp_in_nI (by omega) (by decide), fun μ2 e2 => ⟨vp_in_nI (by omega) (by decide), fun μ3 e3 => ?_⟩⟩⟩
  have fr3 : mo_fr [28, 32, 33] [] μ μ3 := by
    rw [e3, e2, e1]
    exact mo_fr_tr (fr_sA (by decide) _) (mo_fr_tr (fr_sA (by decide) _) (fr_sA (by decide) _))
  have x28 : ∀ j, μ3.2 28 j = if j = rs.length then 0 else μ.2 28 j := fun j => by rw [e3, e2, e1]; rfl
  have x33 : ∀ j, μ3.2 33 j = if j = rs.length then 0 else μ.2 33 j := fun j => by rw [e3, e2, e1]; rfl
  have x32 : ∀ j, μ3.2 32 j = if j = rs.length then 0 else μ.2 32 j := fun j => by rw [e3, e2, e1]; rfl
  have hs3 := rs0_fr h0.s fr3 (by decide) (by decide) (by decide) (by decide) (by decide)
  have hn3 := nms_fr h0.n fr3 (by decide) (by decide) (by decide)
  -- a fault goes to the end
  have f196 : ∀ e μ', rul t rs nm A q = .error e → rsF t e μ' → mo_fr pts pfs μ μ' → X196 (nI rs.length) μ' := fun e μ' he hF fr => h196 _ _ ⟨fun _ => h2 e μ' he hF fr, fun z => absurd z (rsF_n0 hF)⟩
  have f184 : ∀ e μ', rul t rs nm A q = .error e → rsF t e μ' → mo_fr pts pfs μ μ' → X184 (nI rs.length) μ' := fun e μ' he hF fr => h184 _ _ ⟨fun _ => f196 e μ' he hF fr, fun z => absurd z (rsF_n0 hF)⟩
  have f163 : ∀ e μ', rul t rs nm A q = .error e → rsF t e μ' → mo_fr pts pfs μ μ' → X163 (nI rs.length) μ' := fun e μ' he hF fr => h163 _ _ ⟨fun _ => f184 e μ' he hF fr, fun z => absurd z (rsF_n0 hF)⟩
  have f129 : ∀ e μ', rul t rs nm A q = .error e → rsF t e μ' → mo_fr pts pfs μ μ' → X129 (nI rs.length) μ' := fun e μ' he hF fr => h129 _ _ ⟨fun _ => f163 e μ' he hF fr, fun z => absurd z (rsF_n0 hF)⟩
  have go : ¬ ((97 ≤ sg t q ∧ sg t q ≤ 122) ∧ rs.length = 16) → X48 (nI rs.length) μ3 := fun hroom => by
    have eA : ∀ e, atm t true nm A (fun _ => false) q = .error e → rul t rs nm A q = .error e := fun e he => by
      unfold rul
      rw [if_neg hroom, he]
    refine h48 _ _ (ref_rel hs3 hn3 _ (fun g μa eg hsa hna fra h36a => ⟨vp_in_nI (by omega) (by decide), fun μb eb => ⟨fun _ => ⟨vp_in_nI (by omega) (by decide), ?_⟩, fun z => ?_⟩⟩) (fun e μa eg hF fra => ⟨vp_in_nI (by omega) (by decide), fun μb eb => ⟨fun z => ?_, fun _ => ?_⟩⟩))
    · obtain ⟨gi, gi8, gq, gqe⟩ := rel_ok h0.n.n8 eg
      have hr16 : rs.length < 16 := by
        have hnm : 97 ≤ sg t q ∧ sg t q ≤ 122 := by
          unfold rel at eg
          split at eg
          · assumption
          · cases eg
        have : ¬ rs.length = 16 := fun z => hroom ⟨hnm, z⟩
        omega
      rw [cl_nI (by omega)] at eb
      have frb : mo_fr [26] [] μa μb := by rw [eb]; exact fr_sA (by decide) _
      have x26 : ∀ j, μb.2 26 j = if j = rs.length then nI g.i else μa.2 26 j := fun j => by rw [eb]; rfl
      have hsb := rs0_fr hsa frb (by decide) (by decide) (by decide) (by decide) (by decide)
      have hnb := nms_fr hna frb (by decide) (by decide) (by decide)
      have fr0b : mo_fr pts [805, 817] μ μb := mo_fr_tr (fr_mono fr3 (by decide) (by decide)) (mo_fr_tr (fr_mono fra (by decide) (by decide)) (fr_mono frb (by decide) (by decide)))
      have k33 : ∀ j, μb.2 33 j = μ3.2 33 j := fun j => by rw [frb.1 33 (by decide), fra.1 33 (by decide)]
      have k32 : ∀ j, μb.2 32 j = μ3.2 32 j := fun j => by rw [frb.1 32 (by decide), fra.1 32 (by decide)]
      have k28 : ∀ j, μb.2 28 j = μ3.2 28 j := fun j => by rw [frb.1 28 (by decide), fra.1 28 (by decide)]
      rw [cl_nI (by omega), x26, if_pos rfl, show (3 : Int32) * nI rs.length = nI (3 * rs.length) from by rw [show (3 : Int32) = nI 3 from rfl, pk_mul]]
      have eAt : ∀ res, arg t true g (fun _ => false) = res → atm t true nm A (fun _ => false) q = res := fun res h => by
        unfold atm
        rw [eg]
        exact h
      have nmle : nm.length ≤ g.nm.length := by
        unfold rel at eg
        split at eg
        · split at eg
          · rw [← Except.ok.inj eg]; exact Nat.le_refl _
          · split at eg
            · cases eg
            · rw [← Except.ok.inj eg]
              show nm.length ≤ (nm ++ [sg t q]).length
              rw [List.length_append]; omega
        · cases eg
      refine ref_terms (ri := rs.length) (b3 := 27) (base := 3 * rs.length) (g := g) (lt := fun _ => false) (hd := true) hsb (by omega) (by omega) (Or.inl rfl) (by show _ ≤ 51; omega) (fun k hk => by rw [k33, x33, if_pos rfl]; exact bi_0 k) (hnb.a g.i gi) (hnb.a3 g.i) _ (fun an μc ea hc => ?_) (fun e μc ea hF frc => ⟨fun _ => f163 e μc (eA e (eAt _ ea)) hF (mo_fr_tr (fr_mono fr0b (by decide) (by decide)) (fr_mono frc (by decide) (by decide))), fun z => absurd z (rsF_n0 hF)⟩)
      have hA := arg_ok (L0 := fun _ => False) (fun k _ => ⟨fun z => absurd z (by decide), fun z => z.elim⟩) (by decide) ea
      have hat := eAt _ ea
      have h3m : tm3_ok (tm3 an.l) := mark_3 hA.n3 (fun z => (hA.m z).2) hA.p
      -- the state behind the head
      have hB : HB t rs nm an ⟨[], an.nm, an.A, an.lt, an.q⟩ μ μc := by
        have fd : mo_fr [27, 31, 32, 33, 35] [805] μb μc := fr_mono hc.f (by decide) (by decide)
        refine ⟨⟨hc.s, ?_, ⟨by omega, Nat.zero_le _, ?_, fun i hi => absurd hi (Nat.not_lt_zero i)⟩, hc.l, hA.r⟩, mo_fr_tr fr0b (fr_mono hc.f (by decide) (by decide)), ?_, fun j hj => ?_, hc.c, fun j hj => ?_, ?_, fun j hj => ?_, fun j hj => ?_, fun j hj => ?_, fun j hj => ?_, fun j hj => ?_, fun j hj => ?_, fun k hk => ?_, ?_, ⟨?_, ?_⟩, fun k hk => ?_⟩
        · show nms an.nm an.A μc
          rw [hA.nm, hA.A]
          exact nms_set hnb gi hA.n3 fd hc.a hc.ao
        · rw [fd.1 28 (by decide), k28, x28, if_pos rfl]; rfl
        · rw [fd.1 26 (by decide), x26, if_pos rfl, hA.i]
        · rw [fd.1 26 (by decide), x26, if_neg hj, fra.1 26 (by decide), fr3.1 26 (by decide)]
        · rw [hc.co j (Or.inl hj), frb.1 27 (by decide), fra.1 27 (by decide), fr3.1 27 (by decide)]
        · rw [hc.k, k32, x32, if_pos rfl]
          cases hcc : an.c with
          | true => rw [if_pos (Or.inr rfl), if_pos rfl]
          | false => rw [if_neg (fun w => w.elim (fun v => v rfl) (fun v => by cases v)), if_neg (by decide)]
        · rw [hc.ko j hj, k32, x32, if_neg hj]
        · rw [fd.1 28 (by decide), k28, x28, if_neg hj]
        · rw [fd.1 29 (by decide), frb.1 29 (by decide), fra.1 29 (by decide), fr3.1 29 (by decide)]
        · rw [fd.1 30 (by decide), frb.1 30 (by decide), fra.1 30 (by decide), fr3.1 30 (by decide)]
        · rw [hc.f.1 31 (by decide), frb.1 31 (by decide), fra.1 31 (by decide), fr3.1 31 (by decide)]
        · rw [hc.lo j hj, k33, x33, if_neg hj]
        · have hk : k < an.nm.length := hk
          rw [hA.nm] at hk
          rw [fd.1 36 (by decide), frb.1 36 (by decide), h36a k hk, fr3.1 36 (by decide)]
        · show nm.length ≤ an.nm.length
          rw [hA.nm]; exact nmle
        · show an.i < an.nm.length
          rw [hA.i, hA.nm]; exact gi
        · rw [hA.i]; exact gi8
        · show an.lt k = true ↔ k ∈ an.l ∨ ∃ l ∈ ([] : List lit_T), vin3 l.2.2 k
          rw [hA.lt k hk]
          exact ⟨fun z => z.elim (fun y => y.elim) Or.inl, fun z => z.elim Or.inr (fun ⟨l, hl, _⟩ => absurd hl List.not_mem_nil)⟩
      -- the closing
      have close : ∀ (b : ll_T) (μ4 : mo_U), rul t rs nm A q = cls t rs an b → HB t rs nm an b μ μ4 → X163 (nI rs.length) μ4 := fun b μ4 hr hB4 => by
        have hb0 := hB4.rl.s
        refine h163 _ _ ⟨fun z => absurd hb0.f z, fun _ => ref_sign hb0.k hb0.q hb0.a _ ?_⟩
        rw [show (46 : Int32) = nI 46 from rfl, sI_eq (sg_ok hok _) (by decide)]
        refine ⟨fun h46 => h184 _ _ ⟨fun z => absurd hb0.f z, fun _ => ?_⟩, fun hne => ref_wrong (k := 1) hb0 (by decide) _ (fun μ5 hF fr => f184 (1, b.q) μ5 (by rw [hr]; unfold cls; rw [if_neg hne]) hF (mo_fr_tr (fr_mono hB4.f (by decide) (by decide)) (fr_mono fr (by decide) (by decide))))⟩
        have hold : oldR rs μ4 := ⟨n16, fun j hj => by rw [hB4.o26 j (by omega)]; exact h0.o.h j hj, fun j hj => by rw [hB4.o32 j (by omega)]; exact h0.o.c j hj⟩
        refine ref_judge hb0 hB4.rl.b hB4.h26 hB4.ai.2 hB4.h27 h3m hB4.h32 hold _ (fun hlo hln => ?_) (fun hlo μ5 hF fr => ?_) (fun hlo hln μ5 hF fr => ?_)
        · refine h196 _ _ ⟨fun z => absurd hb0.f z, fun _ μ5 e5 => ⟨vp_in_nI (by omega) (by decide), ?_⟩⟩
          rw [hb0.a, nI_1] at e5
          have y26 : μ5.2 26 rs.length = nI an.i := by rw [e5]; exact hB4.h26
          have ai8 := hB4.ai.2
          rw [cl_nI (by omega), y26, cl_nI (by omega)]
          refine ⟨vp_in_nI (by omega) (by decide), fun μ6 e6 μ7 e7 => ?_⟩
          have y808 : μ6.1 808 = nI rs.length := by
            rw [e6, e5]
            show μ4.1 808 = _
            rw [hB4.f.2 808 (by decide)]; exact h0.m
          rw [y808, nI_1] at e7
          obtain ⟨k1, k2⟩ := rs_keep h0 hr16 hB4 (sg_lt h46 (by decide)) h3m hA.n3 hlo ⟨μ5, μ6, e5, e6, e7⟩
          exact h1 ⟨⟨an.i, tm3 an.l, b.ls, an.c⟩, b.nm, b.A, nxt t (b.q + 1)⟩ μ7 (by rw [hr]; unfold cls; rw [if_pos h46, if_neg (by rw [hlo]; decide), if_neg (by rw [hln]; decide)]) hr16 k1 k2
        · exact f196 (4, b.q) μ5 (by rw [hr]; unfold cls; rw [if_pos h46, if_pos hlo]) hF (mo_fr_tr (fr_mono hB4.f (by decide) (by decide)) (fr_mono fr (by decide) (by decide)))
        · exact f196 (5, b.q) μ5 (by rw [hr]; unfold cls; rw [if_pos h46, if_neg (by rw [hlo]; decide), if_pos hln]) hF (mo_fr_tr (fr_mono hB4.f (by decide) (by decide)) (fr_mono fr (by decide) (by decide)))
      refine ⟨fun z => absurd hc.s.f z, fun _ => ref_sign hc.s.k hc.s.q hc.s.a _ ?_⟩
      rw [show (58 : Int32) = nI 58 from rfl, sI_eq (sg_ok hok _) (by decide)]
      refine ⟨fun hne => close ⟨[], an.nm, an.A, an.lt, an.q⟩ μc ?_ hB, fun h58 μ4 e4 => ?_⟩
      · unfold rul
        rw [if_neg hroom, hat]
        dsimp only
        rw [if_neg hne]
      · rw [hc.s.a, nI_1] at e4
        have hs4 := rs0_st hc.s (sg_lt h58 (by decide)) e4
        have fr4 : mo_fr [] [805] μc μ4 := by rw [e4]; exact fr_sI (by decide) _
        refine ref_take (s := 45) hs4 (by decide) _ (fun q5 μ5 et hs5 fr5 => ⟨fun z => absurd hs5.f z, fun _ => ?_⟩) (fun e μ5 et hF fr5 => ⟨fun _ => f129 e μ5 ?_ hF (mo_fr_tr (fr_mono hB.f (by decide) (by decide)) (mo_fr_tr (fr_mono fr4 (by decide) (by decide)) (fr_mono fr5 (by decide) (by decide)))), fun z => absurd z (rsF_n0 hF)⟩)
        · have eL : ∀ e, lls t 6 [] an.nm an.A an.lt q5 = .error e → rul t rs nm A q = .error e := fun e he => by
            unfold rul
            rw [if_neg hroom, hat]
            dsimp only
            rw [if_pos h58, et]
            dsimp only
            rw [he]
          have eO : ∀ b, lls t 6 [] an.nm an.A an.lt q5 = .ok b → rul t rs nm A q = cls t rs an b := fun b he => by
            unfold rul
            rw [if_neg hroom, hat]
            dsimp only
            rw [if_pos h58, et]
            dsimp only
            rw [he]
          have adv : ∀ (b : ll_T) (q' : Nat) (μ6 μ7 : mo_U), HB t rs nm an b μ μ6 → mo_fr [] [805] μ6 μ7 → rs0 t μ7 q' → HB t rs nm an ⟨b.ls, b.nm, b.A, b.lt, q'⟩ μ μ7 := fun b q' μ6 μ7 h fr hs7 => ⟨⟨hs7, nms_fr h.rl.n fr (by decide) (by decide) (by decide), mo_lits_fr h.rl.b fr (by decide) (by decide) (by decide) (by decide), fun k hk => by rw [fr.1 33 (by decide)]; exact h.rl.l k hk, h.rl.r⟩, mo_fr_tr h.f (fr_mono fr (by decide) (by decide)), by rw [fr.1 26 (by decide)]; exact h.h26, fun j hj => by rw [fr.1 26 (by decide)]; exact h.o26 j hj, fun j hj => by rw [fr.1 27 (by decide)]; exact h.h27 j hj, fun j hj => by rw [fr.1 27 (by decide)]; exact h.o27 j hj, by rw [fr.1 32 (by decide)]; exact h.h32, fun j hj => by rw [fr.1 32 (by decide)]; exact h.o32 j hj, fun j hj => by rw [fr.1 28 (by decide)]; exact h.c28 j hj, fun j hj => by rw [fr.1 29 (by decide)]; exact h.c29 j hj, fun j hj => by rw [fr.1 30 (by decide)]; exact h.c30 j hj, fun j hj => by rw [fr.1 31 (by decide)]; exact h.c31 j hj, fun j hj => by rw [fr.1 33 (by decide)]; exact h.c33 j hj, fun k hk => by rw [fr.1 36 (by decide)]; exact h.v k hk, h.nn, h.ai, h.lt⟩
          have main : ∀ k (b : ll_T) (μ6 : mo_U), b.ls.length + (k + 1) = 6 → lls t 6 [] an.nm an.A an.lt q5 = lls t (k + 1) b.ls b.nm b.A b.lt b.q → HB t rs nm an b μ μ6 → mp_literal (nI rs.length) μ6 (fun μ7 => X129 (nI rs.length) μ7) := by
            intro k
            induction k with
            | zero =>
              intro b μ6 hk hl hB6
              have h32 : μ6.2 32 rs.length = 0 ∨ μ6.2 32 rs.length = 1 := by
                rw [hB6.h32]
                cases an.c
                · exact Or.inl rfl
                · exact Or.inr rfl
              refine ref_literal hB6.rl h32 _ (fun r μ7 hr _ _ => absurd (show b.ls.length = 5 by omega) (ltl_lt hB6.rl.s.q hB6.rl.r hr).1) (fun e μ7 hr hF fr => f129 e μ7 (eL e ?_) hF (mo_fr_tr (fr_mono hB6.f (by decide) (by decide)) fr))
              rw [hl]
              unfold lls
              rw [hr]
            | succ k ih =>
              intro b μ6 hk hl hB6
              have h32 : μ6.2 32 rs.length = 0 ∨ μ6.2 32 rs.length = 1 := by
                rw [hB6.h32]
                cases an.c
                · exact Or.inl rfl
                · exact Or.inr rfl
              refine ref_literal hB6.rl h32 _ (fun r μ7 hr hrl hF => ?_) (fun e μ7 hr hF fr => f129 e μ7 (eL e ?_) hF (mo_fr_tr (fr_mono hB6.f (by decide) (by decide)) fr))
              · have hB7 := HB_lit hB6 hr hrl hF
                have hlen : (b.ls ++ [r.l]).length = b.ls.length + 1 := by rw [List.length_append]; rfl
                refine h129 _ _ ⟨fun z => absurd hrl.s.f z, fun _ => ref_sign hrl.s.k hrl.s.q hrl.s.a _ ?_⟩
                rw [show (44 : Int32) = nI 44 from rfl, sI_eq (sg_ok hok _) (by decide)]
                refine ⟨fun hne => close _ μ7 (eO _ ?_) hB7, fun h44 μ8 e8 => ?_⟩
                · rw [hl]
                  unfold lls
                  rw [hr]
                  dsimp only
                  rw [if_neg hne]
                · rw [hrl.s.a, nI_1] at e8
                  have hs8 := rs0_st hrl.s (sg_lt h44 (by decide)) e8
                  refine ih ⟨b.ls ++ [r.l], r.nm, r.A, r.lt, nxt t (r.q + 1)⟩ μ8 (by show (b.ls ++ [r.l]).length + (k + 1) = 6; omega) ?_ (adv _ _ μ7 μ8 hB7 (by rw [e8]; exact fr_sI (by decide) _) hs8)
                  rw [hl]
                  show (match ltl t b.ls b.nm b.A b.lt b.q with
                    | .error e => _
                    | .ok r => _) = _
                  rw [hr]
                  dsimp only
                  rw [if_pos h44]
              · rw [hl]
                unfold lls
                rw [hr]
          exact main 5 ⟨[], an.nm, an.A, an.lt, q5⟩ μ5 rfl rfl (adv _ _ μ4 μ5 (adv _ _ μc μ4 hB fr4 hs4) fr5 hs5)
        · unfold rul
          rw [if_neg hroom, hat]
          dsimp only
          rw [if_pos h58, et]
    · have : μb.1 806 = 0 := by rw [eb]; exact hsa.f
      exact absurd this z
    · have : ¬ μb.1 806 = 0 := by rw [eb]; exact rsF_n0 hF
      exact absurd z this
    · have frb : mo_fr [26] [] μa μb := by rw [eb]; exact fr_sA (by decide) _
      refine h2 e μb (eA e ?_) (rsF_fr hF frb (by decide) (by decide) (by decide) (by decide) (by decide) (by decide)) (mo_fr_tr (fr_mono fr3 (by decide) (by decide)) (mo_fr_tr (fr_mono fra (by decide) (by decide)) (fr_mono frb (by decide) (by decide))))
      unfold atm
      rw [eg]
  refine ref_sign hs3.k hs3.q hs3.a _ (ref_isName hs _ (fun hN => ⟨fun z => absurd z (by decide), fun _ => ?_⟩) (fun hN => ⟨fun _ => go (fun z => hN z.1), fun z => absurd rfl z⟩))
  rw [show (16 : Int32) = nI 16 from rfl, nI_eq (by omega) (by decide)]
  refine ⟨fun hne => go (fun z => hne z.2), fun he => ref_wrong (k := 3) hs3 (by decide) _ (fun μ4 hF fr => h2 (3, q) μ4 ?_ hF (mo_fr_tr (fr_mono fr3 (by decide) (by decide)) (fr_mono fr (by decide) (by decide))))⟩
  unfold rul
  rw [if_pos ⟨hN, he⟩]
