theorem cl_digit {s : Nat} (hs : s < 256 ∨ s = 999) {σ : z_S} (P : Int32 → z_S → Prop) (h1 : 48 ≤ s ∧ s ≤ 57 → P 1 σ) (h0 : ¬ (48 ≤ s ∧ s ≤ 57) → P 0 σ) : kp_Re_isDigit (sI s) σ P := by
  have hi := sI_in (a := 48) (b := 57) hs (by decide) (by decide) (by decide)
  exact ⟨fun z => h0 (fun w => (hi.mpr w).1 z), fun z => ⟨fun y => h0 (fun w => (hi.mpr w).2 y), fun y => h1 (hi.mp ⟨z, y⟩)⟩⟩
theorem cl_variable {s : Nat} (hs : s < 256 ∨ s = 999) {σ : z_S} (P : Int32 → z_S → Prop) (h1 : 65 ≤ s ∧ s ≤ 90 → P 1 σ) (h0 : ¬ (65 ≤ s ∧ s ≤ 90) → P 0 σ) : kp_Re_isVariable (sI s) σ P := by
  have hi := sI_in (a := 65) (b := 90) hs (by decide) (by decide) (by decide)
  exact ⟨fun z => h0 (fun w => (hi.mpr w).1 z), fun z => ⟨fun y => h0 (fun w => (hi.mpr w).2 y), fun y => h1 (hi.mp ⟨z, y⟩)⟩⟩
theorem cl_name {s : Nat} (hs : s < 256 ∨ s = 999) {σ : z_S} (P : Int32 → z_S → Prop) (h1 : 97 ≤ s ∧ s ≤ 122 → P 1 σ) (h0 : ¬ (97 ≤ s ∧ s ≤ 122) → P 0 σ) : kp_Re_isName (sI s) σ P := by
  have hi := sI_in (a := 97) (b := 122) hs (by decide) (by decide) (by decide)
  exact ⟨fun z => h0 (fun w => (hi.mpr w).1 z), fun z => ⟨fun y => h0 (fun w => (hi.mpr w).2 y), fun y => h1 (hi.mp ⟨z, y⟩)⟩⟩
theorem sI_k {s : Nat} (h : s < 256) : sI s = nI s := by
  unfold sI
  rw [if_neg (by omega)]
theorem num_le {t : tx_T} : ∀ (k v p : Nat), p ≤ t.n → (num t k v p).2 ≤ t.n
  | 0, v, p, h => h
  | k + 1, v, p, h => by
    unfold num
    split
    · exact num_le k _ _ (by omega)
    · exact h
theorem num_lt {t : tx_T} : ∀ (k v p : Nat), (num t k v p).1 < (v + 1) * 10 ^ k
  | 0, v, p => by show v < (v + 1) * 1; omega
  | k + 1, v, p => by
    unfold num
    split
    · refine Nat.lt_of_lt_of_le (num_lt k _ _) ?_
      rw [Nat.pow_succ, Nat.mul_comm (10 ^ k) 10, ← Nat.mul_assoc]
      exact Nat.mul_le_mul_right _ (by omega)
    · show v < (v + 1) * 10 ^ (k + 1)
      exact Nat.lt_of_lt_of_le (Nat.lt_succ_self v) (Nat.le_mul_of_pos_right _ (Nat.pos_of_ne_zero (by simp)))
def tF (R b ro : Nat) : List (Nat × Nat) := [(301, R), (302, R), (305, R), (1, b), (5, b), (504, ro), (505, ro), (506, ro)]
theorem cl_term {t : tx_T} (hok : tx_ok t) {R tx p q b tb ro : Nat} {l : List Nat} {lt : Nat → Bool} {hd : Bool} {σ : z_S} (h : cR t R tx p σ) (hp : p ≤ t.n) (hq : nxt t p = q) (hr : z_R σ 306 R = some ro) (hl : lt_L σ ro lt) (ha : aW σ b tb l) (h3 : l.length < 3) (P : Int32 → z_S → Prop)
    (h1 : ∀ r p' σ', ¬ (hd = true ∧ sg t q = 35) → trm t lt q = .ok r → p' ≤ t.n → nxt t p' = r.q → cR t R tx p' σ' → lt_L σ' ro r.lt → aW σ' b tb (l ++ [r.x]) → nf (tF R b ro) [(1, tb)] σ σ' → z_I σ' 301 R = z_I σ 301 R → z_I σ' 504 ro = z_I σ 504 ro → P 1 σ')
    (hm : ∀ p' σ', (hd = true ∧ sg t q = 35) → p' ≤ t.n → nxt t p' = nxt t (q + 1) → cR t R tx p' σ' → lt_L σ' ro lt → aW σ' b tb (l ++ [99]) → nf (tF R b ro) [(1, tb)] σ σ' → z_I σ' 301 R = z_I σ 301 R → z_I σ' 504 ro = 1 → P 1 σ')
    (h2 : ∀ e σ', ¬ (hd = true ∧ sg t q = 35) → trm t lt q = .error e → cF R e σ' → nf (tF R b ro) [(1, tb)] σ σ' → P 0 σ') : kp_Re_readTerm R b (if hd then 1 else 0) σ P := by
  intro X88 X94 h88 h94
  refine ⟨h.ty, cl_sign hok h hp _ (fun σ1 hc e1 => ?_)⟩
  rw [hq] at hc ⊢
  have hs := sg_ok hok q
  have f1 : nf (tF R b ro) [(1, tb)] σ σ1 := nf_5 e1 (by simp [tF])
  have hl1 := lt_L_f hl (nf_5 (fs := [(305, R)]) (ts := []) e1 (by simp)) (by simp) (by simp)
  have ha1 := aW_f ha (nf_5 (fs := [(305, R)]) (ts := []) e1 (by simp)) (by simp) (by simp) (by simp)
  have i1 : z_I σ1 301 R = z_I σ 301 R := e1.I _ _ (by omega)
  have i4 : z_I σ1 504 ro = z_I σ 504 ro := e1.I _ _ (by omega)
  refine cl_digit hs _ (fun hd1 => ⟨fun z => absurd z (by decide), fun _ => ⟨hc.ty, ?_⟩⟩) (fun hd0 => ⟨fun _ => ?_, fun z => absurd rfl z⟩)
  · -- a number
    have hqn : q < t.n := sg_lt (k := sg t q) rfl (by omega)
    refine cl_number hok hc (by omega) _ (fun σ2 hc2 e2 => ?_)
    have hn := num_lt (t := t) 3 0 q
    have ha2 := aW_f ha1 (nf_5 (fs := [(305, R)]) (ts := []) e2 (by simp)) (by simp) (by simp) (by simp)
    have hl2 := lt_L_f hl1 (nf_5 (fs := [(305, R)]) (ts := []) e2 (by simp)) (by simp) (by simp)
    refine ⟨ha2.ty, ?_⟩
    have ec : nI (num t 3 0 q).1 = ct (100 + (num t 3 0 q).1) := by
      unfold ct
      rw [if_neg (by omega), show 100 + (num t 3 0 q).1 - 100 = (num t 3 0 q).1 by omega]
    rw [ec]
    refine at_append ha2 h3 (by omega) _ (fun σ3 ha3 f3 => ?_)
    refine h1 ⟨100 + (num t 3 0 q).1, lt, nxt t (num t 3 0 q).2⟩ (num t 3 0 q).2 σ3 (fun z => by omega) ?_ (num_le 3 0 q (by omega)) rfl (cR_f hc2 f3 (by simp) (by simp) (by simp)) (lt_L_f hl2 f3 (by simp) (by simp)) ha3 (nf_tr f1 (nf_tr (nf_5 e2 (by simp [tF])) (nf_mo f3 (by simp [tF]) (by simp)))) (by rw [f3.I _ _ (by simp), e2.I _ _ (by omega), i1]) (by rw [f3.I _ _ (by simp), e2.I _ _ (by omega), i4])
    unfold trm
    rw [if_neg (by omega), if_pos hd1]
  · refine cl_variable hs _ (fun hv => ⟨fun z => absurd z (by decide), fun _ => ⟨hc.ty, ro, by rw [e1.R]; exact hr, hl1.ty, ?_⟩⟩) (fun hv => ⟨fun _ => ?_, fun z => absurd rfl z⟩)
    · -- a variable
      rw [sI_k (by omega), show (65 : Int32) = nI 65 from rfl, nI_sub hv.1]
      have hqn : q < t.n := sg_lt (k := sg t q) rfl (by omega)
      refine cl_takesVar hl1 (by omega) _ (fun σ2 ht hl2 f2 => ⟨fun _ => ⟨by rw [f2.ty]; exact ha1.ty, ?_⟩, fun z => absurd z (by decide)⟩) (fun ht => ⟨fun z => absurd rfl z, fun _ => ⟨hc.ty, cl_fail (k := 3) hc _ (fun σ3 hF eF => ⟨Or.inl rfl, h2 (3, q) σ3 (fun z => by omega) ?_ hF (nf_tr f1 (nf_R eF (by simp [tF]) (by simp [tF]) (by simp [tF])))⟩)⟩⟩)
      · have ec : (-1 : Int32) - nI (sg t q - 65) = ct (sg t q - 65) := by
          unfold ct
          rw [if_pos (by omega)]
        rw [ec]
        have ha2 := aW_f ha1 f2 (by simp) (by simp) (by simp)
        have hc2 := cR_f hc f2 (by simp) (by simp) (by simp)
        refine at_append ha2 h3 (by omega) _ (fun σ3 ha3 f3 => ?_)
        have hc3 := cR_f hc2 f3 (by simp) (by simp) (by simp)
        refine h94 _ ⟨hc3.ty, hc3.ty, fun σ4 e4 => ?_⟩
        rw [hc3.a, nI_1] at e4
        have e5' : e5 R σ3 σ4 := by rw [e4]; exact e5_s R σ3 _
        have f4 : nf [(305, R)] [] σ3 σ4 := nf_5 e5' (by simp)
        refine h1 ⟨sg t q - 65, addl lt (sg t q - 65), nxt t (q + 1)⟩ (q + 1) σ4 (fun z => by omega) ?_ (by omega) rfl (cR_5 hc3 e5' (by rw [e4, z_I_sI, if_pos ⟨rfl, rfl⟩])) (lt_L_f (lt_L_f hl2 f3 (by simp) (by simp)) f4 (by simp) (by simp)) (aW_f ha3 f4 (by simp) (by simp) (by simp)) (nf_tr f1 (nf_tr (nf_mo f2 (by simp [tF]) (by simp)) (nf_tr (nf_mo f3 (by simp [tF]) (by simp)) (nf_mo f4 (by simp [tF]) (by simp))))) (by rw [f4.I _ _ (by simp), f3.I _ _ (by simp), f2.I _ _ (by simp), i1]) (by rw [f4.I _ _ (by simp), f3.I _ _ (by simp), f2.I _ _ (by simp), i4])
        unfold trm
        rw [if_pos hv, if_pos ht]
      · unfold trm
        rw [if_pos hv, if_neg ht]
    · have hbad : ¬ (hd = true ∧ sg t q = 35) → X88 σ1 := fun hno => h88 _ ⟨hc.ty, cl_fail (k := 1) hc _ (fun σ3 hF eF => ⟨Or.inl rfl, h2 (1, q) σ3 hno (by unfold trm; rw [if_neg hv, if_neg hd0]) hF (nf_tr f1 (nf_R eF (by simp [tF]) (by simp [tF]) (by simp [tF])))⟩)⟩
      rw [show (35 : Int32) = nI 35 from rfl, sI_eq hs (by decide)]
      refine ⟨fun z => hbad (fun w => z w.2), fun z => ?_⟩
      cases hd with
      | false => exact ⟨fun _ => hbad (fun w => absurd w.1 (by decide)), fun y => absurd rfl y⟩
      | true =>
        refine ⟨fun y => absurd y (by decide), fun _ => ⟨hc.ty, ro, by rw [e1.R]; exact hr, hl1.ty, Or.inr rfl, fun σ2 e2 => ?_⟩⟩
        have f2 : nf [(504, ro)] [] σ1 σ2 := by rw [e2]; exact nf_sI (by simp)
        have ha2 := aW_f ha1 f2 (by simp) (by simp) (by simp)
        have hc2 := cR_f hc f2 (by simp) (by simp) (by simp)
        refine ⟨ha2.ty, ?_⟩
        rw [show (0 : Int32) = ct 99 from by decide]
        refine at_append ha2 h3 (by omega) _ (fun σ3 ha3 f3 => ?_)
        have hc3 := cR_f hc2 f3 (by simp) (by simp) (by simp)
        refine h94 _ ⟨hc3.ty, hc3.ty, fun σ4 e4 => ?_⟩
        rw [hc3.a, nI_1] at e4
        have e5' : e5 R σ3 σ4 := by rw [e4]; exact e5_s R σ3 _
        have f4 : nf [(305, R)] [] σ3 σ4 := nf_5 e5' (by simp)
        have hqn := sg_lt z (by decide)
        refine hm (q + 1) σ4 ⟨rfl, z⟩ (by omega) rfl (cR_5 hc3 e5' (by rw [e4, z_I_sI, if_pos ⟨rfl, rfl⟩])) (lt_L_f (lt_L_f (lt_L_f hl1 f2 (by simp) (by simp)) f3 (by simp) (by simp)) f4 (by simp) (by simp)) (aW_f ha3 f4 (by simp) (by simp) (by simp)) (nf_tr f1 (nf_tr (nf_mo f2 (by simp [tF]) (by simp)) (nf_tr (nf_mo f3 (by simp [tF]) (by simp)) (nf_mo f4 (by simp [tF]) (by simp))))) (by rw [f4.I _ _ (by simp), f3.I _ _ (by simp), f2.I _ _ (by simp), i1]) (by rw [f4.I _ _ (by simp), f3.I _ _ (by simp), e2, z_I_sI, if_pos ⟨rfl, rfl⟩])
