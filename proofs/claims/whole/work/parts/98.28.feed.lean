theorem byte_eq (x : Int64) (k : Nat) (hk : k ≤ 56) (su : UInt64) (hsu : (su.toBitVec % 64).toNat = k) (ss : Int64) (hss : (ss.toBitVec.smod 64).toNat = k) : ((x.toUInt64 >>> su).toInt64).toInt32.toInt8 = (x >>> ss).toInt32.toInt8 := by
  rw [← Int8.toBitVec_inj]
  apply BitVec.eq_of_getLsbD_eq
  intro j hj
  simp only [Int32.toBitVec_toInt8, Int64.toBitVec_toInt32, BitVec.getLsbD_signExtend, Int64.toBitVec_shiftRight, UInt64.toBitVec_toInt64, UInt64.toBitVec_shiftRight, Int64.toBitVec_toUInt64]
  have h1 : j < 32 := by omega
  have h2 : j < 64 := by omega
  simp only [hj, h1, h2, decide_true, Bool.true_and, if_true]
  rw [BitVec.sshiftRight_eq', BitVec.getLsbD_sshiftRight, hss]
  rw [BitVec.ushiftRight_eq', BitVec.getLsbD_ushiftRight, hsu]
  have h3 : k + j < 64 := by omega
  simp [h3, h2]
theorem feed_byte (x : Int64) {i : Nat} (hi : i < 8) : (((x.toUInt64 >>> ((((8 : Int32)) * nI i).toInt64.toUInt64 &&& Int64.toUInt64 63)).toInt64).toInt32).toInt8.toInt32 = ((x >>> ((((8 : Int32)) * nI i).toInt64 &&& 63)).toInt32).toInt8.toInt32 := by
  have a1 : ∀ i, i < 8 → ((((((8 : Int32)) * nI i).toInt64.toUInt64 &&& Int64.toUInt64 63) : UInt64).toBitVec % 64).toNat = 8 * i := by decide +kernel
  have a2 : ∀ i, i < 8 → (((((8 : Int32)) * nI i).toInt64 &&& 63 : Int64).toBitVec.smod 64).toNat = 8 * i := by decide +kernel
  rw [byte_eq x (8 * i) (by omega) _ (a1 i hi) _ (a2 i hi)]
abbrev atx (a : ab_T) (n : Nat) (t : Nat → Int32) : ab_T := ⟨n, t, a.pl, a.rg, a.on, a.G, a.nm, a.rc, a.T, a.cs, a.hs, a.dl⟩
theorem op_feed : st_feed IN := by
  rintro x m σ x1 x2 P ⟨V, a, ma, rfl, hC, hT, hm, hR⟩ hP
  refine ⟨hC.ty, ?_⟩
  have n6 := hC.n6.1
  have fin : ∀ r : Int32, (∀ Q : Int32 → mo_U → Prop, Q r (mu_of σ m ma) → mp_feed x1 x2 (mu_of σ m ma) Q) → P r σ := fun r hr => by
    refine hP r σ (mo_ty0 hT) (fun P2 h2 => ?_)
    rw [← mu_put σ m ma]
    exact mq_feed hT x1 x2 _ _ P2 (fin_op hC hT hm h2) (hr _ ⟨rfl, hR, lowf_rf _⟩)
  intro X32 h32
  refine ⟨fun q => fin (-2) (fun Q hQ X31 h31 => ⟨fun _ => ⟨fun z => absurd rfl z, fun _ => hQ⟩, fun z => absurd q z⟩), fun q => ⟨fun q8 => ⟨hC.ty, ?_⟩, fun q8 => fin (-2) (fun Q hQ X31 h31 => ⟨fun z => absurd z q, fun _ => ⟨fun _ => ⟨fun z => absurd rfl z, fun _ => hQ⟩, fun z => ?_⟩⟩)⟩⟩
  · have q0 : ¬ x2 < 0 := fun z => q (by rw [i32_lt] at z ⊢; have e : (1 : Int32).toInt = 1 := rfl; have e0 : (0 : Int32).toInt = 0 := rfl; omega)
    obtain ⟨n, hn, rfl⟩ := nI_of q0
    have hn8 : n ≤ 8 := (nI_leI hn (by decide)).mp q8
    have hn1 : 1 ≤ n := by
      have : ¬ n < 1 := fun z => q (nI_lt z (by decide))
      omega
    have inn : ∀ (Q : Int32 → mo_U → Prop) (μ : mo_U), Q 1 μ → mp_isIn (nI n) 1 8 μ Q := fun Q μ h => ⟨fun z => absurd z q, fun _ => ⟨fun z => absurd z (nI_nlt (a := 8) (by omega) (by decide)), fun _ => h⟩⟩
    rw [hC.n0, nI_k, show (600 : Int32) = nI 600 from rfl, nI_leI (by omega) (by decide)]
    refine ⟨fun hle => ?_, fun hgt => fin (-3) (fun Q hQ X31 h31 => inn _ _ ⟨fun _ => ⟨fun z => ?_, fun _ => hQ⟩, fun z => absurd z (by decide)⟩)⟩
    · -- the bytes
      have loop : ∀ k i F, i + k = n → (∀ j, j < a.tn → F j = a.tt j) → (∀ j, j < i → F (a.tn + j) = vp_nar .byte (((x1 >>> ((((8 : Int32)) * nI j).toInt64 &&& 63)).toInt32).toInt8.toInt32)) → X32 (nI i) (z_sA σ 18 V.tx F) := by
        intro k
        induction k with
        | zero =>
          intro i F hi hF1 hF2
          have hin : i = n := by omega
          refine h32 _ _ ⟨fun _ => ⟨hC.ty, hC.ty, fun σ1 e1 => ?_⟩, fun z => absurd (nI_le (by omega) (by omega)) z⟩
          have e701 : z_I (z_sA σ 18 V.tx F) 701 V.x = nI a.tn := hC.n0
          rw [e701, nI_k] at e1
          have q1 : qf σ σ1 := by
            rw [e1]
            exact ⟨fun _ => rfl, fun _ _ => rfl, fun _ _ => rfl, fun f b h1 h2 => by rw [z_I_sI, if_neg (fun z => by omega)]; rfl, fun t b ht => by rw [z_A_sI, z_A_sA, if_neg (fun z => by omega)]⟩
          have hI : ∀ f b, f ≠ 701 → z_I σ1 f b = z_I σ f b := fun f b hf => by rw [e1, z_I_sI, if_neg (fun z => hf z.1)]; rfl
          have hA : ∀ t b, t ≠ 18 → z_A σ1 t b = z_A σ t b := fun t b ht => by rw [e1, z_A_sI, z_A_sA, if_neg (fun z => ht z.1)]
          have sil : ∀ {o r k s nn : Nat} {l : sl_T}, si_L σ o r k s nn l → si_L σ1 o r k s nn l := fun {o r k s nn l} e => by
            obtain ⟨b1, b2, b3, b4⟩ := e
            exact ⟨si_T_q q1 b1, by rw [hI 603 _ (by decide)]; exact b2, b3, fun i hi => by rw [hA 15 _ (by decide), hA 16 _ (by decide), hA 17 _ (by decide)]; exact b4 i hi⟩
          have eI : z_I σ1 701 V.x = nI (a.tn + n) := by rw [e1, z_I_sI, if_pos ⟨rfl, rfl⟩]
          have hC1 : CI V (atx a (a.tn + n) F) σ1 := by
            refine CI_mk hC q1 eI ⟨hle, fun j hj => ?_⟩ (fun j hj => ?_) ?_ ?_ hC.g8 (fun j hj => ?_) ?_ hC.h6 (sil hC.sl) (sil hC.su) (fun j hj => sil (hC.sd j hj)) ?_
            · by_cases z : j < a.tn
              · obtain ⟨y, hy⟩ := hC.n6.2 j z
                exact ⟨y, (hF1 j z).trans hy⟩
              · obtain ⟨u, rfl⟩ : ∃ u, j = a.tn + u := ⟨j - a.tn, by omega⟩
                have hj : a.tn + u < a.tn + n := hj
                exact ⟨_, hF2 u (by omega)⟩
            · rw [e1, z_A_sI, z_A_sA, if_pos ⟨rfl, rfl⟩]
            · rw [hI 702 _ (by decide)]; exact hC.pl
            · rw [hI 704 _ (by decide)]; exact hC.n4
            · rw [hA 19 _ (by decide)]; exact hC.gg j hj
            · rw [hI 710 _ (by decide)]; exact hC.ds
            · have hpg := hC.pg
              show if a.on then _ else _
              cases hb : a.on with
              | true =>
                rw [hb] at hpg
                have hp : prg V a σ := hpg
                exact prg_q hp q1 rfl rfl rfl rfl hp.cs hp.hc hp.lc
              | false =>
                rw [hb] at hpg
                have hp : non V a σ := hpg
                exact non_q hp q1 hp.cs hp.hs hp.dl
          have hrq : req m σ σ1 := qf_req q1
          have hT1 := mo_T_req hT hrq
          have hR1 := RR_req hT hrq hR
          refine ⟨hC1.ty, ?_⟩
          rw [eI]
          refine hP _ σ1 (mo_ty0 hT1) (fun P2 h2 => ?_)
          rw [← mu_put σ1 m ma]
          refine mq_feed hT1 x1 (nI n) _ _ P2 (fin_op hC1 hT1 hm h2) (fun X31 h31 => inn _ _ ⟨fun _ => ⟨fun _ => ?_, fun z => ?_⟩, fun z => absurd z (by decide)⟩)
          · have rl : ∀ k i μ, i + k = n → mo_fr [23] [801] (mu_of σ1 m ma) μ → μ.1 801 = nI (a.tn + i) → (∀ j, j < a.tn + i → μ.2 23 j = F j) → X31 (nI i) μ := by
              intro k
              induction k with
              | zero =>
                intro i μ hi hf h801 h23
                refine h31 _ _ ⟨fun _ => ⟨by rw [h801, show i = n by omega], ?_, lowf_fr hf (by decide) (by decide)⟩, fun z => absurd (nI_le (by omega) (by omega)) z⟩
                have hin : i = n := by omega
                refine ⟨by rw [h801, hin], fun j hj => h23 j (by rw [hin]; exact hj), by rw [hf.2 807 (by decide)]; exact hR1.pl, ?_, ?_, ?_⟩
                · rw [hf.2 806 (by decide), hf.2 849 (by decide), hf.1 56 (by decide)]; exact hR1.rg
                · obtain ⟨R, N, hM⟩ := hR1.mm
                  exact ⟨R, N, mo_M_fr hM hf (by decide) (by decide) (by decide)⟩
                · have hpg := hR1.pg
                  show if a.on then _ else _
                  cases hb : a.on with
                  | false =>
                    rw [if_neg (by rw [hb]; decide)] at hpg
                    rw [if_neg (by decide), hf.2 808 (by decide), hf.2 831 (by decide)]
                    exact hpg
                  | true =>
                    rw [if_pos rfl]
                    obtain ⟨T1, hO1⟩ := RR_on hR1 hb
                    refine ⟨⟨T1, ⟨?_, hO1.t.t8, rf_L_fr hO1.t.g hf (by decide) (by decide)⟩, hO1.e, hO1.p⟩, fun k hk => by rw [hf.1 34 (by decide), hf.1 35 (by decide)]; exact hO1.n k hk, fun i hi k hk => by rw [hf.1 33 (by decide)]; exact hO1.l i hi k hk, fun i j h1 h2 => by rw [hf.1 38 (by decide)]; exact hO1.r i j h1 h2, ⟨by rw [hf.2 831 (by decide)]; exact hO1.b.1, by rw [hf.1 46 (by decide)]; exact hO1.b.2⟩, ⟨by rw [hf.2 834 (by decide)]; exact hO1.h.1, fun i hi => by rw [hf.1 48 (by decide), hf.1 47 (by decide)]; exact hO1.h.2 i hi⟩, by rw [hf.2 836 (by decide)]; exact hO1.d.1, hO1.d.2.1, by rw [hf.1 49 (by decide)]; exact hO1.d.2.2⟩
                    obtain ⟨R, N, hW⟩ := hO1.t.w
                    exact ⟨R, N, mo_W_fr hW hf (by decide) (by decide) (by decide)⟩
              | succ k ih =>
                intro i μ hi hf h801 h23
                refine h31 _ _ ⟨fun z => absurd z (nI_ge (by omega) (by omega)), fun _ => ?_⟩
                rw [h801]
                refine ⟨vp_in_nI (by omega) (by decide), fun μ1 f1 μ2 f2 => ?_⟩
                rw [cl_nI (by omega)] at f1
                have e801 : μ1.1 801 = nI (a.tn + i) := by rw [f1]; exact h801
                rw [e801, nI_1] at f2
                rw [nI_1]
                refine ih (i + 1) μ2 (by omega) (by rw [f2, f1]; exact mo_fr_tr hf (mo_fr_tr (mo_fr_A (by decide)) (mo_fr_I (by decide)))) (by rw [f2, mu_I_sI, if_pos rfl]; rfl) (fun j hj => ?_)
                rw [f2, mu_A_sI, f1, mu_A_sA, if_pos rfl]
                unfold upd
                by_cases z : j = a.tn + i
                · rw [if_pos z, z, hF2 i (by omega)]
                · rw [if_neg z]; exact h23 j (by omega)
            exact rl n 0 _ (by omega) mo_fr_rf hR1.n0 (fun j hj => by rw [hR1.tt j (by omega), hF1 j (by omega)])
          · exfalso
            apply z
            rw [hR1.n0, nI_k, show (600 : Int32) = nI 600 from rfl]
            exact nI_le (by omega) (by decide)
        | succ k ih =>
          intro i F hi hF1 hF2
          have e701 : z_I (z_sA σ 18 V.tx F) 701 V.x = nI a.tn := hC.n0
          refine h32 _ _ ⟨fun z => absurd z (nI_ge (by omega) (by omega)), fun _ => ⟨hC.ty, V.tx, hC.r0, hC.ty, 600, 18, hC.t0, ?_⟩⟩
          rw [e701, nI_k]
          refine ⟨vp_in_nI (by omega) (by decide), fun σ1 e1 => ?_⟩
          rw [cl_nI (by omega), feed_byte x1 (by omega), z_A_sA, if_pos ⟨rfl, rfl⟩, z_sA_sA] at e1
          rw [nI_1, e1]
          refine ih (i + 1) _ (by omega) (fun j hj => ?_) (fun j hj => ?_)
          · unfold upd
            rw [if_neg (by omega)]
            exact hF1 j hj
          · unfold upd
            by_cases z : j = i
            · rw [if_pos (by omega), z]
            · rw [if_neg (by omega)]; exact hF2 j (by omega)
      have := loop n 0 (z_A σ 18 V.tx) (by omega) (fun j hj => hC.tt j hj) (fun j hj => absurd hj (Nat.not_lt_zero j))
      rw [z_sA_id] at this
      exact this
    · rw [hR.n0, nI_k, show (600 : Int32) = nI 600 from rfl, nI_leI (by omega) (by decide)] at z
      exact absurd z hgt
  · exfalso
    rw [i32_le] at q8
    rw [i32_lt] at z
    omega
