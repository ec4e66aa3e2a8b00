theorem bd_oq {fs qs : List (Nat × Nat)} {σ σ' : z_S} {ro bb : Nat} {ls : List lit_T} {A bo : Nat → Nat} (h : bd_L σ ro ls A bb bo) (f : oq fs qs σ σ') (hf : ∀ x ∈ fs, 10 ≤ x.1) (h1 : (502, ro) ∉ fs) (h2 : (14, bb) ∉ qs) : bd_L σ' ro ls A bb bo := ⟨by rw [f.ty]; exact h.ty, by rw [f.R]; exact h.rb, by rw [f.ty]; exact h.tb, h.l5, by rw [f.I _ _ h1]; exact h.sz, fun i hi => by
  obtain ⟨h3, n, h4, h5⟩ := h.bo i hi
  exact ⟨by rw [f.Q _ _ h2]; exact h3, n, at_L_oq h4 f hf, h5⟩⟩
theorem hd_oq {fs qs : List (Nat × Nat)} {σ σ' : z_S} {ro h n hb : Nat} {ts : tm_T} {c : Bool} (hh : hd_L σ ro h ts c n hb) (f : oq fs qs σ σ') (hf : ∀ x ∈ fs, 10 ≤ x.1) (h1 : (504, ro) ∉ fs) : hd_L σ' ro h ts c n hb := ⟨by rw [f.ty]; exact hh.ty, by rw [f.R]; exact hh.rh, at_L_oq hh.at' f hf, by rw [f.I _ _ h1]; exact hh.ct⟩
theorem lt_oq {fs qs : List (Nat × Nat)} {σ σ' : z_S} {ro : Nat} {lt : Nat → Bool} (h : lt_L σ ro lt) (f : oq fs qs σ σ') (h1 : (505, ro) ∉ fs) (h2 : (506, ro) ∉ fs) : lt_L σ' ro lt := ⟨by rw [f.ty]; exact h.ty, fun k hk => by rw [f.I _ _ h1]; exact h.b k hk, by rw [f.I _ _ h2]; exact h.n, h.n6⟩
theorem rP_oq {fs qs : List (Nat × Nat)} {σ σ' : z_S} {D : pa_T} {ra : Nat} {rs : List ru_T} {as : Nat → List lit_T} {A : List Nat} (h : rP σ D ra rs as A) (f : oq fs qs σ σ') (hf : ∀ x ∈ fs, 300 ≤ x.1 ∧ x.1 < 500) (hq : (7, D.pa) ∉ qs) (hb : ∀ i, i < rs.length → (14, D.bb i) ∉ qs) : rP σ' D ra rs as A := by
  have e : ∀ g a, g < 300 → (g, a) ∉ fs := fun g a hg z => by have := hf _ z; dsimp only at this; omega
  have e5 : ∀ g a, 500 ≤ g → (g, a) ∉ fs := fun g a hg z => by have := hf _ z; dsimp only at this; omega
  have hf10 : ∀ x ∈ fs, 10 ≤ x.1 := fun x hx => by have := hf x hx; omega
  refine ⟨by rw [f.ty]; exact h.ty, by rw [f.R]; exact h.rr, by rw [f.ty]; exact h.tr, by rw [f.I _ _ (e 201 _ (by omega))]; exact h.nn, h.n16, fun i hi => ?_, fun i hi => lt_oq (h.lt i hi) f (e5 _ _ (by omega)) (e5 _ _ (by omega)), fun v hv => by rw [f.I _ _ (e 209 _ (by omega))]; exact h.vw v hv, fun v hv => by rw [f.I _ _ (e 210 _ (by omega))]; exact h.cv v hv, by rw [f.R]; exact h.lr, by rw [f.ty]; exact h.tl, fun v => by rw [f.A]; exact h.vl v, by rw [f.R]; exact h.er, by rw [f.ty]; exact h.te, fun v => by rw [f.A]; exact h.ve v, by rw [f.I _ _ (e 207 _ (by omega))]; exact h.i7, by rw [f.I _ _ (e 208 _ (by omega))]; exact h.i8⟩
  obtain ⟨h1, h2, h3, h4⟩ := h.ru i hi
  exact ⟨by rw [f.Q _ _ hq]; exact h1, bd_oq h2 f hf10 (e5 _ _ (by omega)) (hb i hi), hd_oq h3 f hf10 (e5 _ _ (by omega)), h4⟩
theorem cl_pappend {σ : z_S} {D : pa_T} {ra : Nat} {rs : List ru_T} {as : Nat → List lit_T} {A : List Nat} (h : rP σ D ra rs as A) (h16 : rs.length < 16) {r : ru_T} {al : List lit_T} {ro bb hb : Nat} {bo : Nat → Nat} (hB : bd_L σ ro al (aA A) bb bo) (hH : hd_L σ ro r.h r.ts r.c (aA A r.h) hb) (ha : arr r al) (hl : lt_L σ ro (vlt r.ls)) (P : z_S → Prop) (hP : ∀ D' as' σ', D'.p = D.p → D'.pa = D.pa → D'.la = D.la → rP σ' D' ra (rs ++ [r]) as' A → oq [(201, D.p), (209, D.p), (210, D.p)] [(7, D.pa)] σ σ' → P σ') : kp_Pr_append D.p ro σ P := by
  have hr8 : z_I σ 3 hb = nI r.h ∧ r.h < 8 := hH.at'.rl (Nat.zero_le 1)
  refine ⟨h.ty, ?_⟩
  rw [h.nn, show (16 : Int32) = nI 16 from rfl, nI_ltI (by omega) (by decide), cl_nI (by omega)]
  refine ⟨fun _ => ⟨h.ty, D.pa, h.rr, h.ty, 16, 7, h.tr, vp_in_nI h16 (by decide), hB.ty, fun σ1 e1 => ⟨by rw [e1]; exact h.ty, by rw [e1]; exact h.ty, fun σ2 e2 => ?_⟩⟩, fun z => absurd h16 z⟩
  have q2 : oq [(201, D.p), (209, D.p), (210, D.p)] [(7, D.pa)] σ σ2 := by
    rw [e2, e1]
    exact oq_tr (oq_sQ (by simp)) (oq_sI (by simp))
  have n2 : z_I σ2 201 D.p = nI (rs.length + 1) := by rw [e2, z_I_sI, if_pos ⟨rfl, rfl⟩, e1, z_I_sQ, h.nn, nI_1]
  have Q2 : z_Q σ2 7 D.pa = va_up (z_Q σ 7 D.pa) rs.length (some ro) := by rw [e2, z_Q_sI, e1, z_Q_sQ, if_pos ⟨rfl, rfl⟩]
  have i9 : z_I σ2 209 D.p = z_I σ 209 D.p := by rw [e2, z_I_sI, if_neg (fun z => absurd z.1 (by decide)), e1, z_I_sQ]
  have i10 : z_I σ2 210 D.p = z_I σ 210 D.p := by rw [e2, z_I_sI, if_neg (fun z => absurd z.1 (by decide)), e1, z_I_sQ]
  have r2 : z_I σ2 3 hb = nI r.h := by rw [q2.I _ _ (by simp)]; exact hr8.1
  refine ⟨by rw [q2.ty]; exact h.ty, by rw [q2.ty]; exact hB.ty, hb, by rw [q2.R]; exact hH.rh, by rw [q2.ty]; exact hH.at'.ty, by rw [q2.ty]; exact h.ty, fun σ3 e3 => ?_⟩
  rw [i9, r2] at e3
  have q3 : oq [(201, D.p), (209, D.p), (210, D.p)] [(7, D.pa)] σ σ3 := oq_tr q2 (by rw [e3]; exact oq_sI (by simp))
  have c3 : z_I σ3 504 ro = if r.c then 1 else 0 := by rw [q3.I _ _ (by simp)]; exact hH.ct
  have hlen : (rs ++ [r]).length = rs.length + 1 := by rw [List.length_append]; rfl
  have hgd : ∀ i, i < rs.length + 1 → (rs ++ [r]).getD i d_ru = if i = rs.length then r else rs.getD i d_ru := fun i hi => rs_sn hi
  have fin : ∀ σ', oq [(201, D.p), (209, D.p), (210, D.p)] [(7, D.pa)] σ σ' → z_I σ' 201 D.p = nI (rs.length + 1) → z_Q σ' 7 D.pa = va_up (z_Q σ 7 D.pa) rs.length (some ro) → z_I σ' 209 D.p = z_I σ 209 D.p ||| ((1 : Int32) <<< (nI r.h &&& 31)) → z_I σ' 210 D.p = (if r.c then z_I σ 210 D.p ||| ((1 : Int32) <<< (nI r.h &&& 31)) else z_I σ 210 D.p) → P σ' := fun σ' q hn hQ h9 h10 => by
    have hf10 : ∀ x ∈ [(201, D.p), (209, D.p), (210, D.p)], 10 ≤ x.1 := by simp
    refine hP ⟨D.p, D.pa, D.la, (fun i => if i = rs.length then ro else D.ro i), (fun i => if i = rs.length then hb else D.hb i), (fun i => if i = rs.length then bb else D.bb i), (fun i => if i = rs.length then bo else D.bo i)⟩ (fun i => if i = rs.length then al else as i) σ' rfl rfl rfl ⟨by rw [q.ty]; exact h.ty, by rw [q.R]; exact h.rr, by rw [q.ty]; exact h.tr, by rw [hlen]; exact hn, by rw [hlen]; exact h16, fun i hi => ?_, fun i hi => ?_, fun v hv => ?_, fun v hv => ?_, by rw [q.R]; exact h.lr, by rw [q.ty]; exact h.tl, fun v => by rw [q.A]; exact h.vl v, by rw [q.R]; exact h.er, by rw [q.ty]; exact h.te, fun v => by rw [q.A]; exact h.ve v, by rw [q.I _ _ (by simp)]; exact h.i7, by rw [q.I _ _ (by simp)]; exact h.i8⟩ q
    · rw [hlen] at hi
      rw [hgd i hi]
      show z_Q σ' 7 D.pa i = some (if i = rs.length then ro else D.ro i) ∧ bd_L σ' (if i = rs.length then ro else D.ro i) (if i = rs.length then al else as i) (aA A) (if i = rs.length then bb else D.bb i) (if i = rs.length then bo else D.bo i) ∧ hd_L σ' (if i = rs.length then ro else D.ro i) (if i = rs.length then r else rs.getD i d_ru).h (if i = rs.length then r else rs.getD i d_ru).ts (if i = rs.length then r else rs.getD i d_ru).c (aA A (if i = rs.length then r else rs.getD i d_ru).h) (if i = rs.length then hb else D.hb i) ∧ arr (if i = rs.length then r else rs.getD i d_ru) (if i = rs.length then al else as i)
      rw [hQ]
      unfold va_up
      by_cases z : i = rs.length
      · simp only [if_pos z]
        exact ⟨trivial, bd_oq hB q hf10 (by simp) (by simp), hd_oq hH q hf10 (by simp), ha⟩
      · simp only [if_neg z]
        obtain ⟨h1, h2, h3, h4⟩ := h.ru i (by omega)
        exact ⟨h1, bd_oq h2 q hf10 (by simp) (by simp), hd_oq h3 q hf10 (by simp), h4⟩
    · rw [hlen] at hi
      rw [hgd i hi]
      show lt_L σ' (if i = rs.length then ro else D.ro i) _
      by_cases z : i = rs.length
      · simp only [if_pos z]
        exact lt_oq hl q (by simp) (by simp)
      · simp only [if_neg z]
        exact lt_oq (h.lt i (by omega)) q (by simp) (by simp)
    · show bi (z_I σ' 209 D.p) v = true ↔ _
      rw [h9, bi_or _ (by omega) (by omega), Bool.or_eq_true, h.vw v hv, decide_eq_true_iff]
      constructor
      · rintro (⟨x, y1, y2⟩ | y)
        · exact ⟨x, List.mem_append_left _ y1, y2⟩
        · exact ⟨r, List.mem_append_right _ (List.mem_singleton.mpr rfl), y.symm⟩
      · rintro ⟨x, y1, y2⟩
        rcases List.mem_append.mp y1 with y | y
        · exact Or.inl ⟨x, y, y2⟩
        · rw [List.mem_singleton.mp y] at y2
          exact Or.inr y2.symm
    · show bi (z_I σ' 210 D.p) v = true ↔ _
      rw [h10]
      cases hc : r.c with
      | true =>
        rw [if_pos rfl, bi_or _ (by omega) (by omega), Bool.or_eq_true, h.cv v hv, decide_eq_true_iff]
        constructor
        · rintro (⟨x, y1, y2⟩ | y)
          · exact ⟨x, List.mem_append_left _ y1, y2⟩
          · exact ⟨r, List.mem_append_right _ (List.mem_singleton.mpr rfl), y.symm, hc⟩
        · rintro ⟨x, y1, y2, y3⟩
          rcases List.mem_append.mp y1 with y | y
          · exact Or.inl ⟨x, y, y2, y3⟩
          · rw [List.mem_singleton.mp y] at y2
            exact Or.inr y2.symm
      | false =>
        rw [if_neg (by decide), h.cv v hv]
        constructor
        · rintro ⟨x, y1, y2⟩
          exact ⟨x, List.mem_append_left _ y1, y2⟩
        · rintro ⟨x, y1, y2, y3⟩
          rcases List.mem_append.mp y1 with y | y
          · exact ⟨x, y, y2, y3⟩
          · rw [List.mem_singleton.mp y, hc] at y3
            cases y3
  have m1 : z_I σ3 201 D.p = nI (rs.length + 1) := by rw [e3, z_I_sI, if_neg (fun z => absurd z.1 (by decide))]; exact n2
  have mQ : z_Q σ3 7 D.pa = va_up (z_Q σ 7 D.pa) rs.length (some ro) := by rw [e3, z_Q_sI]; exact Q2
  have m9 : z_I σ3 209 D.p = z_I σ 209 D.p ||| ((1 : Int32) <<< (nI r.h &&& 31)) := by rw [e3, z_I_sI, if_pos ⟨rfl, rfl⟩]
  have m10 : z_I σ3 210 D.p = z_I σ 210 D.p := by rw [e3, z_I_sI, if_neg (fun z => absurd z.1 (by decide))]; exact i10
  refine ⟨by rw [q3.ty]; exact hB.ty, ?_⟩
  rw [c3]
  cases hc : r.c with
  | false => exact ⟨fun _ => fin σ3 q3 m1 mQ m9 (by rw [hc, m10, if_neg (by decide)]), fun z => absurd rfl z⟩
  | true =>
    refine ⟨fun z => absurd z (by decide), fun _ => ⟨by rw [q3.ty]; exact h.ty, by rw [q3.ty]; exact hB.ty, hb, by rw [q3.R]; exact hH.rh, by rw [q3.ty]; exact hH.at'.ty, by rw [q3.ty]; exact h.ty, fun σ4 e4 => ?_⟩⟩
    rw [m10, show z_I σ3 3 hb = nI r.h by rw [q3.I _ _ (by simp)]; exact hr8.1] at e4
    refine fin σ4 (oq_tr q3 (by rw [e4]; exact oq_sI (by simp))) (by rw [e4, z_I_sI, if_neg (fun z => absurd z.1 (by decide))]; exact m1) (by rw [e4, z_Q_sI]; exact mQ) (by rw [e4, z_I_sI, if_neg (fun z => absurd z.1 (by decide))]; exact m9) (by rw [hc, if_pos rfl, e4, z_I_sI, if_pos ⟨rfl, rfl⟩])
theorem rk_cg {a b : Nat → Bool} : ∀ n, (∀ k, k < n → a k = b k) → rk a n = rk b n
  | 0, _ => rfl
  | n + 1, h => by
    show rk a n + (if a n then 1 else 0) = rk b n + (if b n then 1 else 0)
    rw [rk_cg n (fun k hk => h k (by omega)), h n (by omega)]
theorem lt_cg {σ : z_S} {ro : Nat} {a b : Nat → Bool} (h : lt_L σ ro a) (e : ∀ k, k < 26 → a k = b k) : lt_L σ ro b := ⟨h.ty, fun k hk => by rw [h.b k hk, e k hk], by rw [h.n, rk_cg 26 e], by rw [← rk_cg 26 e]; exact h.n6⟩
def sB (K : rd_T) (pa : Nat) (bb : Nat) (a : Nat) : Prop := a = K.R ∨ a = K.P ∨ a = K.na ∨ a = K.ta ∨ a = pa ∨ a = bb
theorem cl_close {t : tx_T} {K : rd_T} {q : Nat} {nm A : List Nat} {σ : z_S} {U : ur_T} {ls : List lit_T} {bo : Nat → Nat} {lt : Nat → Bool} (hW : rW t K q nm A σ) (hqn : q < t.n) (n8 : nm.length ≤ 8) (hU : uW σ K U ls A bo lt) (hh : U.h < nm.length) (hnh : U.nh = aA A U.h) (hlt : ∀ k, k < 26 → (lt k = true ↔ vin3 U.ts k ∨ ∃ l ∈ ls, vin3 l.2.2 k)) {D : pa_T} (hD : D.p = K.P) {ra : Nat} {rs : List ru_T} {as : Nat → List lit_T} (hp : rP σ D ra rs as A) (hbb : ∀ i, i < rs.length → D.bb i ≠ U.bb) (h16 : rs.length < 16) (Po : Int32 → z_S → Prop)
    (h4 : ∀ σ', loose U.ts ls = true → cF K.R (4, q) σ' → lf (sB K D.pa U.bb) K.P σ σ' → Po 0 σ')
    (h5 : ∀ σ', loose U.ts ls = false → lonely rs U.h U.c ls = true → cF K.R (5, q) σ' → lf (sB K D.pa U.bb) K.P σ σ' → Po 0 σ')
    (h1 : ∀ D' as' σ', loose U.ts ls = false → lonely rs U.h U.c ls = false → D'.p = K.P → D'.pa = D.pa → D'.la = D.la → rW t K (q + 1) nm A σ' → rP σ' D' ra (rs ++ [⟨U.h, U.ts, ls, U.c⟩]) as' A → wf (sB K D.pa U.bb) σ σ' → Po 1 σ') : kp_Re_closeRule K.R σ Po := by
  have bad : ∀ (k : Nat) (C : Prop), C → (∀ σ', C → cF K.R (k, q) σ' → lf (sB K D.pa U.bb) K.P σ σ' → Po 0 σ') → kp_Re_fail K.R (nI k) σ (fun r σ' => (r = 0 ∨ r = 1) ∧ Po r σ') := fun k C hC hk => cl_fail hW.c _ (fun σ2 hF eF => ⟨Or.inl rfl, hk σ2 hC hF (lf_nf (nf_R (fs := [(301, K.R), (302, K.R), (305, K.R)]) (ts := []) eF (by simp) (by simp) (by simp)) (by simp [sB]) (by simp) (by simp))⟩)
  refine ⟨hW.c.ty, U.ro, hU.rr, hU.l.ty, cl_loose hU.hd hU.bd _ (fun hlo => ⟨fun z => absurd z (by decide), fun _ => ⟨hW.c.ty, bad 4 _ hlo h4⟩⟩) (fun hlo => ⟨fun _ => ⟨hW.c.ty, K.P, hW.r0, hW.c.ty, U.ro, hU.rr, hW.s.n.ty, ?_⟩, fun z => absurd rfl z⟩)⟩
  refine cl_refuses hW n8 hD hp hU.hd hU.bd hh _ (fun hln => ⟨fun z => absurd z (by decide), fun _ => ⟨hW.c.ty, bad 5 _ hln (fun σ' => h5 σ' hlo)⟩⟩) (fun hln => ⟨fun _ => ⟨hW.c.ty, hW.c.ty, fun σ1 e1 => ?_⟩, fun z => absurd rfl z⟩)
  rw [hW.c.a, nI_1] at e1
  have q1 : oq [(305, K.R)] [] σ σ1 := by rw [e1]; exact oq_sI (by simp)
  have hsf : ∀ k, (vin3 U.ts k ∨ ∃ l ∈ ts_of ls, vin3 l.2.2 k) → ∃ l ∈ ps_of ls, vin3 l.2.2 k := fun k hk => Classical.byContradiction (fun hno => by
    rw [loose_iff.mpr ⟨k, hk, hno⟩] at hlo; cases hlo)
  have hvl : ∀ k, k < 26 → lt k = vlt ls k := fun k hk => by
    rw [Bool.eq_iff_iff, hlt k hk, vlt_iff]
    constructor
    · rintro (y | ⟨l, y1, y2⟩)
      · exact hsf k (Or.inl y)
      · by_cases z : l.1 = 0
        · exact ⟨l, List.mem_filter.mpr ⟨y1, by simpa using z⟩, y2⟩
        · exact hsf k (Or.inr ⟨l, List.mem_filter.mpr ⟨y1, by simpa using z⟩, y2⟩)
    · rintro ⟨l, y1, y2⟩
      exact Or.inr ⟨l, (List.mem_filter.mp y1).1, y2⟩
  have hB1 := bd_oq hU.bd q1 (by simp) (by simp) (by simp)
  have hr1 : z_R σ1 306 K.R = some U.ro := by rw [q1.R]; exact hU.rr
  refine ⟨by rw [q1.ty]; exact hW.c.ty, U.ro, hr1, by rw [q1.ty]; exact hU.l.ty, ?_⟩
  refine cl_arrange hB1 (fun l hl hne k hk => hsf k (Or.inr ⟨l, List.mem_filter.mpr ⟨hl, by simpa using hne⟩, hk⟩)) _ (fun al bo' σ2 hB2 hA2 hT2 q2 => ?_)
  have hH2 := hd_oq (hd_oq hU.hd q1 (by simp) (by simp)) q2 (by simp) (by simp)
  have hl2 := lt_cg (lt_oq (lt_oq hU.l q1 (by simp) (by simp)) q2 (by simp) (by simp)) hvl
  have hp2 : rP σ2 D ra rs as A := rP_oq (rP_oq hp q1 (by simp) (by simp) (by simp)) q2 (by simp) (by simp) (fun i hi => by simp; exact hbb i hi)
  have hW1 : rW t K (q + 1) nm A σ1 := ⟨⟨by rw [q1.ty]; exact hW.c.ty, by rw [q1.R]; exact hW.c.r3, by rw [q1.ty]; exact hW.c.tt, by rw [q1.I _ _ (by simp)]; exact hW.c.n, by rw [e1, z_I_sI, if_pos ⟨rfl, rfl⟩], fun i hi => by rw [q1.A]; exact hW.c.c i hi⟩, by omega, by rw [q1.I _ _ (by simp)]; exact hW.f, by rw [q1.R]; exact hW.r0, ⟨⟨by rw [q1.ty]; exact hW.s.n.ty, by rw [q1.I _ _ (by simp)]; exact hW.s.n.nn, by rw [q1.R]; exact hW.s.n.rn, by rw [q1.ty]; exact hW.s.n.tn, fun i hi => by rw [q1.A]; exact hW.s.n.vn i hi⟩, by rw [q1.R]; exact hW.s.rt, by rw [q1.ty]; exact hW.s.tt, fun i hi => by rw [q1.A]; exact hW.s.vt i hi⟩⟩
  have hW2 := rW_oq hW1 q2 (by simp) (by simp) (by simp) (by simp)
  refine ⟨hW2.c.ty, K.P, hW2.r0, hW2.c.ty, U.ro, by rw [q2.R]; exact hr1, hW2.s.n.ty, ?_⟩
  rw [← hD]
  rw [hnh] at hH2
  refine cl_pappend (r := ⟨U.h, U.ts, ls, U.c⟩) hp2 h16 hB2 hH2 ⟨hA2.ps, hA2.m, hT2, hA2.n⟩ hl2 _ (fun D' as' σ3 e1' e2' e3' hp3 q3 => ?_)
  refine h1 D' as' σ3 hlo hln (e1'.trans hD) e2' e3' (rW_oq hW2 q3 (by simp) (by simp) (by simp) (by simp)) hp3 ?_
  have w1 : wf (sB K D.pa U.bb) σ σ1 := wf_oq q1 (by simp [sB]) (by simp)
  have w2 : wf (sB K D.pa U.bb) σ1 σ2 := wf_oq q2 (by simp) (by simp [sB])
  have w3 : wf (sB K D.pa U.bb) σ2 σ3 := wf_oq q3 (by rw [hD]; simp [sB]) (by simp [sB])
  exact wf_tr (wf_tr w1 w2 (fun a z _ => z)) w3 (fun a z _ => z)
