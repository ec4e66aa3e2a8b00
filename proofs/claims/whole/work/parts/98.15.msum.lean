/-! THE REFERENCE'S SUMS -/
def sad (ss : sl_T) (v k : Nat) (s : Int) : sl_T := match ss with
  | [] => [(v, k, s)]
  | c :: r => if c.1 = v ∧ c.2.1 = k then (v, k, c.2.2 + s) :: r else c :: sad r v k s
def ssum (cs : sl_T) (d : Int) : sl_T := cs.foldl (fun ss c => sad ss c.1 c.2.1 (d * c.2.2)) []
theorem sad_old : ∀ (l : sl_T) (v k j : Nat) (s : Int), j < l.length → ((l.getD j (0, 0, 0)).1 = v ∧ (l.getD j (0, 0, 0)).2.1 = k) → (∀ i, i < j → ¬ ((l.getD i (0, 0, 0)).1 = v ∧ (l.getD i (0, 0, 0)).2.1 = k)) → sad l v k s = l.set j (v, k, (l.getD j (0, 0, 0)).2.2 + s)
  | [], v, k, j, s, h, _, _ => absurd h (Nat.not_lt_zero j)
  | c :: r, v, k, 0, s, _, h1, _ => by
    have h1 : c.1 = v ∧ c.2.1 = k := h1
    unfold sad
    rw [if_pos h1]
    rfl
  | c :: r, v, k, j + 1, s, h, h1, h2 => by
    have h0 : ¬ (c.1 = v ∧ c.2.1 = k) := h2 0 (by omega)
    unfold sad
    rw [if_neg h0, sad_old r v k j s (by simpa using h) h1 (fun i hi => h2 (i + 1) (by omega))]
    rfl
theorem sad_new : ∀ (l : sl_T) (v k : Nat) (s : Int), (∀ i, i < l.length → ¬ ((l.getD i (0, 0, 0)).1 = v ∧ (l.getD i (0, 0, 0)).2.1 = k)) → sad l v k s = l ++ [(v, k, s)]
  | [], v, k, s, _ => rfl
  | c :: r, v, k, s, h => by
    have h0 : ¬ (c.1 = v ∧ c.2.1 = k) := h 0 (by simp)
    unfold sad
    rw [if_neg h0, sad_new r v k s (fun i hi => h (i + 1) (by simpa using hi))]
    rfl
theorem sad_len : ∀ (l : sl_T) (v k : Nat) (s : Int), (sad l v k s).length ≤ l.length + 1
  | [], v, k, s => Nat.le_refl _
  | c :: r, v, k, s => by
    unfold sad
    split
    · simp
    · have := sad_len r v k s
      simp only [List.length_cons]; omega
theorem sad_sum : ∀ (l : sl_T) (v k v' k' : Nat) (s : Int), csum (sad l v k s) 1 v' k' = csum l 1 v' k' + if v = v' ∧ k = k' then s else 0
  | [], v, k, v', k', s => by
    show (if v = v' ∧ k = k' then 1 * s else 0) + 0 = 0 + _
    split <;> omega
  | c :: r, v, k, v', k', s => by
    unfold sad
    split
    · rename_i h
      show (if v = v' ∧ k = k' then 1 * (c.2.2 + s) else 0) + csum r 1 v' k' = ((if c.1 = v' ∧ c.2.1 = k' then 1 * c.2.2 else 0) + csum r 1 v' k') + _
      rw [h.1, h.2]
      split <;> omega
    · show (if c.1 = v' ∧ c.2.1 = k' then 1 * c.2.2 else 0) + csum (sad r v k s) 1 v' k' = ((if c.1 = v' ∧ c.2.1 = k' then 1 * c.2.2 else 0) + csum r 1 v' k') + _
      rw [sad_sum r v k v' k' s]
      omega
def skey (l : sl_T) : List (Nat × Nat) := l.map (fun c => (c.1, c.2.1))
theorem sad_key : ∀ (l : sl_T) (v k : Nat) (s : Int), skey (sad l v k s) = if (v, k) ∈ skey l then skey l else skey l ++ [(v, k)]
  | [], v, k, s => by simp [sad, skey]
  | c :: r, v, k, s => by
    have ih := sad_key r v k s
    unfold sad
    by_cases h : c.1 = v ∧ c.2.1 = k
    · rw [if_pos h]
      have : (v, k) ∈ skey (c :: r) := by
        unfold skey
        rw [List.map_cons, h.1, h.2]
        exact List.mem_cons_self
      rw [if_pos this]
      unfold skey
      rw [List.map_cons, List.map_cons, h.1, h.2]
    · rw [if_neg h]
      have hne : (v, k) ≠ (c.1, c.2.1) := fun e => h (by cases e; exact ⟨rfl, rfl⟩)
      have e1 : skey (c :: sad r v k s) = (c.1, c.2.1) :: skey (sad r v k s) := rfl
      have e2 : skey (c :: r) = (c.1, c.2.1) :: skey r := rfl
      rw [e1, e2, ih]
      by_cases z : (v, k) ∈ skey r
      · rw [if_pos z, if_pos (List.mem_cons_of_mem _ z)]
      · rw [if_neg z, if_neg (fun y => (List.mem_cons.mp y).elim hne z)]
        rfl
def ss_ok (cs : sl_T) (d : Int) (ss : sl_T) : Prop := ((skey ss).Nodup) ∧ (∀ v k, csum ss 1 v k = csum cs d v k) ∧ (∀ p, p ∈ skey ss ↔ p ∈ skey cs) ∧ (ss.length ≤ cs.length)
theorem ss_ok.nd {cs : sl_T} {d : Int} {ss : sl_T} (h' : ss_ok cs d ss) : (skey ss).Nodup := h'.1
theorem ss_ok.s {cs : sl_T} {d : Int} {ss : sl_T} (h' : ss_ok cs d ss) : ∀ v k, csum ss 1 v k = csum cs d v k := h'.2.1
theorem ss_ok.k {cs : sl_T} {d : Int} {ss : sl_T} (h' : ss_ok cs d ss) : ∀ p, p ∈ skey ss ↔ p ∈ skey cs := h'.2.2.1
theorem ss_ok.l {cs : sl_T} {d : Int} {ss : sl_T} (h' : ss_ok cs d ss) : ss.length ≤ cs.length := h'.2.2.2
theorem csum_app {d : Int} : ∀ (a b : sl_T) (v k : Nat), csum (a ++ b) d v k = csum a d v k + csum b d v k
  | [], b, v, k => by show csum b d v k = 0 + _; omega
  | c :: a, b, v, k => by
    show _ + csum (a ++ b) d v k = (_ + csum a d v k) + _
    rw [csum_app a b]
    omega
theorem ss_snoc {cs : sl_T} {d : Int} {ss : sl_T} (h : ss_ok cs d ss) (c : Nat × Nat × Int) : ss_ok (cs ++ [c]) d (sad ss c.1 c.2.1 (d * c.2.2)) := by
  refine ⟨?_, fun v k => ?_, fun p => ?_, ?_⟩
  · rw [sad_key]
    split
    · exact h.nd
    · rename_i hn
      rw [List.nodup_append]
      exact ⟨h.nd, by simp, fun a ha b hb => by rw [List.mem_singleton.mp hb]; exact fun e => hn (by rw [← e]; exact ha)⟩
  · rw [sad_sum, h.s, csum_app]
    show _ = _ + ((if c.1 = v ∧ c.2.1 = k then d * c.2.2 else 0) + 0)
    omega
  · rw [sad_key]
    have e : skey (cs ++ [c]) = skey cs ++ [(c.1, c.2.1)] := by unfold skey; rw [List.map_append]; rfl
    rw [e, List.mem_append, List.mem_singleton]
    split
    · rename_i hin
      rw [h.k]
      exact ⟨Or.inl, fun z => z.elim id (fun y => by rw [y, ← h.k]; exact hin)⟩
    · rw [List.mem_append, List.mem_singleton, h.k]
  · rw [List.length_append]
    have := sad_len ss c.1 c.2.1 (d * c.2.2)
    have := h.l
    simp only [List.length_singleton]
    omega
theorem ss_all (cs : sl_T) (d : Int) : ∀ j, j ≤ cs.length → ss_ok (cs.take j) d (ssum (cs.take j) d)
  | 0, _ => ⟨List.nodup_nil, fun _ _ => rfl, fun _ => Iff.rfl, Nat.le_refl _⟩
  | j + 1, h => by
    have ih := ss_snoc (ss_all cs d j (by omega)) (cs[j]'(by omega))
    have e : ssum (cs.take (j + 1)) d = sad (ssum (cs.take j) d) (cs[j]'(by omega)).1 (cs[j]'(by omega)).2.1 (d * (cs[j]'(by omega)).2.2) := by
      unfold ssum
      rw [List.take_succ_eq_append_getElem (by omega), List.foldl_append]
      rfl
    rw [e, List.take_succ_eq_append_getElem (by omega)]
    exact ih
theorem csum_in : ∀ {l : sl_T} {i : Nat}, (skey l).Nodup → i < l.length → csum l 1 (l.getD i (0, 0, 0)).1 (l.getD i (0, 0, 0)).2.1 = (l.getD i (0, 0, 0)).2.2
  | c :: r, 0, hn, _ => by
    have hn : ((c.1, c.2.1) :: skey r).Nodup := hn
    show (if c.1 = c.1 ∧ c.2.1 = c.2.1 then 1 * c.2.2 else 0) + csum r 1 c.1 c.2.1 = c.2.2
    rw [if_pos ⟨rfl, rfl⟩, csum_0 (fun c' hc' e => (List.nodup_cons.mp hn).1 (List.mem_map.mpr ⟨c', hc', by rw [e.1, e.2]⟩))]
    omega
  | c :: r, i + 1, hn, h => by
    have hn : ((c.1, c.2.1) :: skey r).Nodup := hn
    have hir : i < r.length := by simpa using h
    have ih := csum_in (List.nodup_cons.mp hn).2 hir
    show (if c.1 = (r.getD i (0, 0, 0)).1 ∧ c.2.1 = (r.getD i (0, 0, 0)).2.1 then 1 * c.2.2 else 0) + csum r 1 (r.getD i (0, 0, 0)).1 (r.getD i (0, 0, 0)).2.1 = (r.getD i (0, 0, 0)).2.2
    rw [if_neg (fun e => (List.nodup_cons.mp hn).1 (List.mem_map.mpr ⟨r.getD i (0, 0, 0), by rw [gd_eq _ _ hir]; exact List.getElem_mem hir, by rw [e.1, e.2]⟩)), ih]
    omega
/-- five ints for a change -/
def five (A : Nat → Int32) (p : Nat) (c : Nat × Nat × Int) : Prop := A p = nI c.1 ∧ A (p + 1) = nI (c.2.1 / 1000000) ∧ A (p + 2) = nI (c.2.1 / 1000 % 1000) ∧ A (p + 3) = nI (c.2.1 % 1000) ∧ A (p + 4) = Int32.ofInt c.2.2
def fives (A : Nat → Int32) (st : Nat) (cs : sl_T) : Prop := ∀ i, i < cs.length → five A (st + 5 * i) (cs.getD i (0, 0, 0)) ∧ (cs.getD i (0, 0, 0)).1 < 8 ∧ (cs.getD i (0, 0, 0)).2.1 < 1000000000
def mo_SS (μ : mo_U) (ss : sl_T) : Prop := μ.1 847 = nI ss.length ∧ ss.length ≤ 60 ∧ fives (μ.2 55) 0 ss
theorem nI_5 (i : Nat) : (5 : Int32) * nI i = nI (5 * i) := by rw [show (5 : Int32) = nI 5 from rfl, pk_mul]
theorem nI_k (a : Nat) (k : Nat) : nI a + nI k = nI (a + k) := nI_add a k
theorem ref_sum {μ0 : mo_U} {b1 st : Nat} (hb : mo_ok b1 0) (hb55 : b1 ≠ 55) {cs : sl_T} (hcs : fives (μ0.2 b1) st cs) (hc60 : cs.length ≤ 60) (hlen : st + 5 * cs.length ≤ mo_len b1) (hml : mo_len b1 < 10000) {d : Int} (Q : mo_U → Prop) (hQ : ∀ μ, mo_fr [55] [847] μ0 μ → mo_SS μ (ssum cs d) → Q μ) : mp_sum b1 (nI st) (nI cs.length) (Int32.ofInt d) μ0 Q := by
  intro X8 X28 X143 X196 h8 h28 h143 h196
  have main : ∀ m j μ, j + m = cs.length → mo_fr [55] [847] μ0 μ → mo_SS μ (ssum (cs.take j) d) → X8 (nI j) μ := by
    intro m
    induction m with
    | zero =>
      intro j μ hj hf hS
      refine h8 _ _ ⟨fun _ => hQ μ hf ?_, fun q => absurd (nI_le (by omega) (by omega)) q⟩
      rw [show j = cs.length by omega, List.take_length] at hS
      exact hS
    | succ m ih =>
      intro j μ hj hf hS
      have hjl : j < cs.length := by omega
      obtain ⟨⟨f0, f1, f2, f3, f4⟩, c8, ck⟩ := hcs j hjl
      have hso := ss_all cs d j (by omega)
      have hsl : (ssum (cs.take j) d).length ≤ j := by have := hso.l; rw [List.length_take] at this; omega
      have hnext : ssum (cs.take (j + 1)) d = sad (ssum (cs.take j) d) (cs.getD j (0, 0, 0)).1 (cs.getD j (0, 0, 0)).2.1 (d * (cs.getD j (0, 0, 0)).2.2) := by
        unfold ssum
        rw [List.take_succ_eq_append_getElem hjl, List.foldl_append, gd_eq _ _ hjl]
        rfl
      have hsrc : ∀ {μ' : mo_U}, mo_fr [55] [847] μ0 μ' → μ'.2 b1 = μ0.2 b1 := fun hf' => hf'.1 b1 (by simpa using hb55)
      -- the change is added at place f
      have fin : ∀ (f : Nat) (μ' : mo_U) (l : sl_T), f < l.length → mo_fr [55] [847] μ0 μ' → mo_SS μ' l → l.set f ((cs.getD j (0, 0, 0)).1, (cs.getD j (0, 0, 0)).2.1, (l.getD f (0, 0, 0)).2.2 + d * (cs.getD j (0, 0, 0)).2.2) = ssum (cs.take (j + 1)) d → (l.getD f (0, 0, 0)).1 = (cs.getD j (0, 0, 0)).1 → (l.getD f (0, 0, 0)).2.1 = (cs.getD j (0, 0, 0)).2.1 → X196 (nI j) (nI (st + 5 * j)) (nI f) μ' := by
        intro f μ' l hfl hf' hS' he e1 e2
        obtain ⟨s1, s2, s3⟩ := hS'
        refine h196 _ _ _ _ ?_
        rw [nI_5, show (4 : Int32) = nI 4 from rfl, nI_k, nI_k]
        refine ⟨vp_in_nI (by omega) (by decide), hb, vp_in_nI (by omega) (by omega), vp_in_nI (by omega) (by decide), fun μ2 e => ?_⟩
        obtain ⟨⟨g0, g1, g2, g3, g4⟩, g8, gk⟩ := s3 f hfl
        rw [Nat.zero_add] at g0 g1 g2 g3 g4
        rw [cl_nI (n := 5 * f + 4) (by omega), cl_nI (n := st + 5 * j + 4) (by omega), hsrc hf', f4, g4, ofI_mul, ofI_add] at e
        rw [nI_1]
        refine ih (j + 1) μ2 (by omega) (by rw [e]; exact mo_fr_tr hf' (mo_fr_A (by decide))) ?_
        rw [← he, e]
        refine ⟨by rw [mu_I_sA, List.length_set]; exact s1, by rw [List.length_set]; exact s2, fun i hi => ?_⟩
        rw [List.length_set] at hi
        rw [gd_set _ _ _ hi, mu_A_sA, if_pos rfl]
        obtain ⟨⟨k0, k1, k2, k3, k4⟩, k8, kk⟩ := s3 i hi
        by_cases z : i = f
        · rw [if_pos z]
          unfold five upd
          rw [z, Nat.zero_add]
          simp only [if_neg (show ¬ 5 * f = 5 * f + 4 by omega), if_neg (show ¬ 5 * f + 1 = 5 * f + 4 by omega), if_neg (show ¬ 5 * f + 2 = 5 * f + 4 by omega), if_neg (show ¬ 5 * f + 3 = 5 * f + 4 by omega), if_true]
          exact ⟨⟨by rw [g0, e1], by rw [g1, e2], by rw [g2, e2], by rw [g3, e2], trivial⟩, c8, ck⟩
        · rw [if_neg z]
          unfold five upd
          rw [Nat.zero_add] at k0 k1 k2 k3 k4 ⊢
          rw [if_neg (by omega), if_neg (by omega), if_neg (by omega), if_neg (by omega), if_neg (by omega)]
          exact ⟨⟨k0, k1, k2, k3, k4⟩, k8, kk⟩
      -- a new place
      have newp : (∀ i, i < (ssum (cs.take j) d).length → ¬ (((ssum (cs.take j) d).getD i (0, 0, 0)).1 = (cs.getD j (0, 0, 0)).1 ∧ ((ssum (cs.take j) d).getD i (0, 0, 0)).2.1 = (cs.getD j (0, 0, 0)).2.1)) → X143 (nI j) (nI (st + 5 * j)) (nI (ssum (cs.take j) d).length) 0 μ := by
        intro hno
        have cp : ∀ m i μ', i + m = 4 → mo_fr [55] [] μ μ' → (∀ q, q < 5 * (ssum (cs.take j) d).length → μ'.2 55 q = μ.2 55 q) → (∀ q, q < i → μ'.2 55 (5 * (ssum (cs.take j) d).length + q) = μ0.2 b1 (st + 5 * j + q)) → X143 (nI j) (nI (st + 5 * j)) (nI (ssum (cs.take j) d).length) (nI i) μ' := by
          intro m
          induction m with
          | zero =>
            intro i μ' hi hf' ho hn
            refine h143 _ _ _ _ _ ⟨fun _ => ?_, fun q => absurd (nI_le (a := 4) (by omega) (by omega)) q⟩
            rw [nI_5, show (4 : Int32) = nI 4 from rfl, nI_k]
            refine ⟨vp_in_nI (by omega) (by decide), fun μ2 e2 μ3 e3 => ?_⟩
            rw [cl_nI (by omega)] at e2
            have h847 : μ2.1 847 = nI (ssum (cs.take j) d).length := by rw [e2, mu_I_sA, hf'.2 847 (by decide)]; exact hS.1
            rw [h847, nI_1] at e3
            have hfr3 : mo_fr [55] [847] μ0 μ3 := by
              rw [e3, e2]
              exact mo_fr_tr (mo_fr_tr hf (mo_fr_mono hf' (by decide) (by decide))) (mo_fr_tr (mo_fr_A (by decide)) (mo_fr_I (by decide)))
            refine fin (ssum (cs.take j) d).length μ3 (ssum (cs.take j) d ++ [((cs.getD j (0, 0, 0)).1, (cs.getD j (0, 0, 0)).2.1, 0)]) (by rw [List.length_append]; simp) hfr3 ⟨?_, ?_, fun i' hi' => ?_⟩ ?_ ?_ ?_
            · rw [e3, mu_I_sI, if_pos rfl, List.length_append]; rfl
            · rw [List.length_append, List.length_singleton]; omega
            · rw [List.length_append, List.length_singleton] at hi'
              have hA : μ3.2 55 = upd (μ'.2 55) (5 * (ssum (cs.take j) d).length + 4) 0 := by rw [e3, mu_A_sI, e2, mu_A_sA, if_pos rfl]
              rw [gd_snoc, hA]
              by_cases z : i' < (ssum (cs.take j) d).length
              · rw [if_pos z]
                obtain ⟨⟨k0, k1, k2, k3, k4⟩, k8, kk⟩ := hS.2.2 i' z
                unfold five upd
                rw [Nat.zero_add] at k0 k1 k2 k3 k4 ⊢
                rw [if_neg (by omega), if_neg (by omega), if_neg (by omega), if_neg (by omega), if_neg (by omega), ho _ (by omega), ho _ (by omega), ho _ (by omega), ho _ (by omega), ho _ (by omega)]
                exact ⟨⟨k0, k1, k2, k3, k4⟩, k8, kk⟩
              · have z2 : i' = (ssum (cs.take j) d).length := by omega
                rw [if_neg z, if_pos z2]
                unfold five upd
                rw [Nat.zero_add, z2]
                have n0 := hn 0 (by omega)
                have n1 := hn 1 (by omega)
                have n2 := hn 2 (by omega)
                have n3 := hn 3 (by omega)
                rw [Nat.add_zero] at n0
                rw [if_neg (by omega), if_neg (by omega), if_neg (by omega), if_neg (by omega), if_pos rfl, n0, n1, n2, n3]
                exact ⟨⟨f0, f1, f2, f3, rfl⟩, c8, ck⟩
            · rw [gd_snoc, if_neg (Nat.lt_irrefl _), if_pos rfl, hnext, sad_new _ _ _ _ hno]
              rw [List.set_append_right _ _ (Nat.le_refl _), Nat.sub_self]
              simp
            · rw [gd_snoc, if_neg (Nat.lt_irrefl _), if_pos rfl]
            · rw [gd_snoc, if_neg (Nat.lt_irrefl _), if_pos rfl]
          | succ m ihc =>
            intro i μ' hi hf' ho hn
            refine h143 _ _ _ _ _ ⟨fun q => absurd q (nI_ge (b := 4) (by omega) (by omega)), fun _ => ?_⟩
            rw [nI_5, nI_k, nI_k]
            refine ⟨hb, vp_in_nI (by omega) (by omega), vp_in_nI (by omega) (by decide), fun μ2 e => ?_⟩
            rw [cl_nI (n := 5 * (ssum (cs.take j) d).length + i) (by omega), cl_nI (n := st + 5 * j + i) (by omega), hsrc (mo_fr_tr hf (mo_fr_mono hf' (by decide) (by decide)))] at e
            rw [nI_1, e]
            refine ihc (i + 1) _ (by omega) (mo_fr_tr hf' (mo_fr_A (by decide))) (fun q hq => ?_) (fun q hq => ?_)
            · rw [mu_A_sA, if_pos rfl]
              unfold upd
              rw [if_neg (by omega)]
              exact ho q hq
            · rw [mu_A_sA, if_pos rfl]
              unfold upd
              by_cases z : q = i
              · rw [if_pos (by omega), z]
              · rw [if_neg (by omega)]; exact hn q (by omega)
        exact cp 4 0 μ rfl mo_fr_rf (fun _ _ => rfl) (fun q hq => absurd hq (Nat.not_lt_zero q))
      -- the place is looked for
      have scan : ∀ m i (fo : Option Nat), i + m = (ssum (cs.take j) d).length → (∀ f, fo = some f → f < i ∧ ((ssum (cs.take j) d).getD f (0, 0, 0)).1 = (cs.getD j (0, 0, 0)).1 ∧ ((ssum (cs.take j) d).getD f (0, 0, 0)).2.1 = (cs.getD j (0, 0, 0)).2.1) → (fo = none → ∀ i', i' < i → ¬ (((ssum (cs.take j) d).getD i' (0, 0, 0)).1 = (cs.getD j (0, 0, 0)).1 ∧ ((ssum (cs.take j) d).getD i' (0, 0, 0)).2.1 = (cs.getD j (0, 0, 0)).2.1)) → X28 (nI j) (nI (st + 5 * j)) (ov fo) (nI i) μ := by
        have huniq : ∀ f i', f < (ssum (cs.take j) d).length → i' < (ssum (cs.take j) d).length → ((ssum (cs.take j) d).getD f (0, 0, 0)).1 = ((ssum (cs.take j) d).getD i' (0, 0, 0)).1 → ((ssum (cs.take j) d).getD f (0, 0, 0)).2.1 = ((ssum (cs.take j) d).getD i' (0, 0, 0)).2.1 → f = i' := by
          intro f i' h1 h2 e1 e2
          have hl : (skey (ssum (cs.take j) d)).length = (ssum (cs.take j) d).length := by unfold skey; rw [List.length_map]
          refine (List.getElem?_inj (by rw [hl]; exact h1) hso.nd).mp ?_
          unfold skey
          rw [List.getElem?_map, List.getElem?_map, List.getElem?_eq_getElem h1, List.getElem?_eq_getElem h2]
          rw [gd_eq _ _ h1, gd_eq _ _ h2] at e1 e2
          simp only [Option.map_some]
          rw [e1, e2]
        intro m
        induction m with
        | zero =>
          intro i fo hi hs hn
          refine h28 _ _ _ _ _ ?_
          rw [hS.1]
          refine ⟨fun _ => ⟨fun q => ?_, fun q => ?_⟩, fun q => absurd (nI_le (by omega) (by omega)) q⟩
          · cases fo with
            | none => exact absurd rfl q
            | some f =>
              obtain ⟨a1, a2, a3⟩ := hs f rfl
              refine fin f μ _ (by omega) hf hS ?_ a2 a3
              rw [hnext, sad_old _ _ _ f _ (by omega) ⟨a2, a3⟩ (fun i' hi' e => ?_)]
              have := huniq i' f (by omega) (by omega) (by rw [e.1, a2]) (by rw [e.2, a3])
              omega
          · cases fo with
            | none => exact newp (fun i' hi' => hn rfl i' (by omega))
            | some f =>
              have := hs f rfl
              exact absurd q (ov_m1 (v := f) (by omega))
        | succ m ihs =>
          intro i fo hi hs hn
          have hil : i < (ssum (cs.take j) d).length := by omega
          obtain ⟨⟨k0, k1, k2, k3, k4⟩, k8, kk⟩ := hS.2.2 i hil
          rw [Nat.zero_add] at k0 k1 k2 k3 k4
          have no : ¬ (((ssum (cs.take j) d).getD i (0, 0, 0)).1 = (cs.getD j (0, 0, 0)).1 ∧ ((ssum (cs.take j) d).getD i (0, 0, 0)).2.1 = (cs.getD j (0, 0, 0)).2.1) → X28 (nI j) (nI (st + 5 * j)) (ov fo) (nI (i + 1)) μ := fun hne => ihs (i + 1) fo (by omega) (fun f hfo => by have := hs f hfo; exact ⟨by omega, this.2⟩) (fun hfo i' hi' => by
            by_cases z : i' = i
            · rw [z]; exact hne
            · exact hn hfo i' (by omega))
          refine h28 _ _ _ _ _ ?_
          rw [hS.1]
          refine ⟨fun q => absurd q (nI_ge (by omega) (by omega)), fun _ => ?_⟩
          rw [nI_5, show (1 : Int32) = nI 1 from rfl, show (2 : Int32) = nI 2 from rfl, show (3 : Int32) = nI 3 from rfl]
          simp only [nI_k]
          rw [cl_nI (n := 5 * i) (by omega), cl_nI (n := 5 * i + 1) (by omega), cl_nI (n := 5 * i + 2) (by omega), cl_nI (n := 5 * i + 3) (by omega), cl_nI (n := st + 5 * j) (by omega), cl_nI (n := st + 5 * j + 1) (by omega), cl_nI (n := st + 5 * j + 2) (by omega), cl_nI (n := st + 5 * j + 3) (by omega), hsrc hf, k0, k1, k2, k3, f0, f1, f2, f3, nI_eq (by omega) (by omega), nI_eq (by omega) (by omega), nI_eq (by omega) (by omega), nI_eq (by omega) (by omega)]
          refine ⟨vp_in_nI (by omega) (by decide), hb, vp_in_nI (by omega) (by omega), fun q => no (fun z => q z.1), fun q0 => ⟨vp_in_nI (by omega) (by decide), hb, vp_in_nI (by omega) (by omega), fun q => no (fun z => q (by rw [z.2])), fun q1 => ⟨vp_in_nI (by omega) (by decide), hb, vp_in_nI (by omega) (by omega), fun q => no (fun z => q (by rw [z.2])), fun q2 => ⟨vp_in_nI (by omega) (by decide), hb, vp_in_nI (by omega) (by omega), fun q => no (fun z => q (by rw [z.2])), fun q3 => ?_⟩⟩⟩⟩
          have hk : ((ssum (cs.take j) d).getD i (0, 0, 0)).2.1 = (cs.getD j (0, 0, 0)).2.1 := by omega
          exact ihs (i + 1) (some i) (by omega) (fun f hfo => by cases hfo; exact ⟨by omega, q0, hk⟩) (fun hfo => by cases hfo)
      refine h8 _ _ ⟨fun q => absurd q (nI_ge (by omega) (by omega)), fun _ => ?_⟩
      rw [nI_5, nI_k]
      exact scan (ssum (cs.take j) d).length 0 none (by omega) (fun f hf => by cases hf) (fun _ i' hi' => absurd hi' (Nat.not_lt_zero i'))
  intro μ2 e2
  refine main cs.length 0 μ2 (by omega) (by rw [e2]; exact mo_fr_I (by decide)) ?_
  rw [e2]
  exact ⟨by rw [mu_I_sI, if_pos rfl]; rfl, Nat.zero_le _, fun i hi => absurd hi (Nat.not_lt_zero i)⟩
