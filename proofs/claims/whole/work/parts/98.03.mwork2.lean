abbrev wts : List Nat := [40, 41, 42, 50, 51, 52, 53, 54]
abbrev wfs : List Nat := [840, 841, 842, 845]
theorem mkp_u {r : ru_T} (hr : ru_ok r) (hc : r.c = true) : mkp r.ts < 3 ∧ (∀ i, i < 3 → (tmi r.ts i = 99 ↔ i = mkp r.ts)) ∧ (∀ i, i < 3 → tmi r.ts i < 26 ∨ 100 ≤ tmi r.ts i ∨ tmi r.ts i = 99) ∧ (r.ts.2.2 = 99 ∨ r.ts.2.2 = 100) := by
  obtain ⟨mk, h1, h2, h3, h4⟩ := hr.cnt hc
  have hm := mkp_eq hr hc
  have e : mkp r.ts = mk := by
    rcases hm.2 (mkp r.ts) (Nat.le_refl _) hm.1 with h | h
    · exact (h2 _ hm.1).mp h
    · have a := h2 _ h1
      unfold mkp at hm h ⊢
      have a0 := h2 0 (by omega)
      have a1 := h2 1 (by omega)
      simp only [tmi] at a0 a1
      simp at a0 a1
      split
      · rename_i z; exact a0.mp z
      · split
        · rename_i z; exact a1.mp z
        · rename_i z z'
          have : mk ≠ 0 := fun y => z (a0.mpr y.symm)
          have : mk ≠ 1 := fun y => z' (a1.mpr y.symm)
          omega
  refine ⟨hm.1, by rw [e]; exact h2, h3, ?_⟩
  have := hm.2 2 (by omega) (by omega)
  exact this
theorem tot_320 {T : Nat → al_T} (h : ∀ v, (T v).length ≤ 40) : tot T ≤ 320 := by
  have h0 := h 0
  have h1 := h 1
  have h2 := h 2
  have h3 := h 3
  have h4 := h 4
  have h5 := h 5
  have h6 := h 6
  have h7 := h 7
  unfold tot
  omega
theorem tot_up {T : Nat → al_T} {h : Nat} {l : al_T} (hh : h < 8) : tot (fun v => if v = h then l else T v) + (T h).length = tot T + l.length := by
  rcases (show h = 0 ∨ h = 1 ∨ h = 2 ∨ h = 3 ∨ h = 4 ∨ h = 5 ∨ h = 6 ∨ h = 7 by omega) with rfl | rfl | rfl | rfl | rfl | rfl | rfl | rfl <;> simp [tot] <;> omega
/-- counting rules that are done -/
def rC (G : pg_T) (L : Nat) (TL T : Nat → al_T) (i : Nat) : Prop := (∀ j, j < i → j < G.rs.length → G.lay (G.rs.getD j d_ru).h = L → (G.rs.getD j d_ru).c = true → (∀ k, k ∈ ks T (G.rs.getD j d_ru).h ↔ k ∈ crow (ks TL) (G.rs.getD j d_ru)) ∧ ¬ ovf (grp (hd (ks TL) (G.rs.getD j d_ru)))) ∧ (∀ j, i ≤ j → j < G.rs.length → G.lay (G.rs.getD j d_ru).h = L → (G.rs.getD j d_ru).c = true → T (G.rs.getD j d_ru).h = [])
theorem rC.c {G : pg_T} {L : Nat} {TL T : Nat → al_T} {i : Nat} (h' : rC G L TL T i) : ∀ j, j < i → j < G.rs.length → G.lay (G.rs.getD j d_ru).h = L → (G.rs.getD j d_ru).c = true → (∀ k, k ∈ ks T (G.rs.getD j d_ru).h ↔ k ∈ crow (ks TL) (G.rs.getD j d_ru)) ∧ ¬ ovf (grp (hd (ks TL) (G.rs.getD j d_ru))) := h'.1
theorem rC.z {G : pg_T} {L : Nat} {TL T : Nat → al_T} {i : Nat} (h' : rC G L TL T i) : ∀ j, i ≤ j → j < G.rs.length → G.lay (G.rs.getD j d_ru).h = L → (G.rs.getD j d_ru).c = true → T (G.rs.getD j d_ru).h = [] := h'.2
theorem lay_ref {G : pg_T} (hok : pg_ok G) {L : Nat} {TL T : Nat → al_T} (hI : rI G L TL T) (hs : ∀ v, al_s (T v) ∧ al_k (T v) ∧ (T v).length ≤ 40) (hC : rC G L TL T G.rs.length) (hcl : ∀ j, j < G.rs.length → G.lay (G.rs.getD j d_ru).h = L → (G.rs.getD j d_ru).c = false → ∀ k ∈ hd (ks T) (G.rs.getD j d_ru), k ∈ ks T (G.rs.getD j d_ru).h) : LMod G L (ks TL) (ks T) := by
  have hidx : ∀ r ∈ G.rs, ∃ j, j < G.rs.length ∧ G.rs.getD j d_ru = r := fun r hr => by
    obtain ⟨j, hj, e⟩ := List.getElem_of_mem hr
    exact ⟨j, hj, by rw [gd_eq _ _ hj, e]⟩
  refine ⟨⟨S_ok_T (fun v => (hs v).2.1), fun v hv k => ?_, fun r hr hc hL k hk => ?_, fun r hr hc hL k hk => ?_⟩, hI.snd, fun v hv => ?_, fun r hr hc hL => ?_, fun v _ _ => ?_, fun v _ => ?_⟩
  · unfold ks
    rw [hI.lo v (by omega)]
  · obtain ⟨j, hj, rfl⟩ := hidx r hr
    exact hcl j hj hL hc k hk
  · obtain ⟨j, hj, rfl⟩ := hidx r hr
    exact ((hC.c j hj hj hL hc).1 k).mpr hk
  · unfold ks
    rw [hI.lo v hv]
  · obtain ⟨j, hj, rfl⟩ := hidx r hr
    exact (hC.c j hj hj hL hc).2
  · rw [ks_len]; exact (hs v).2.2
  · unfold ks
    rw [List.pairwise_map]
    exact (hs v).1
/-- a rule's solutions are at most 64000 -/
theorem sols_64 {S : Nat → List Nat} {r : ru_T} (hr : ru_ok r) (h : ∀ l ∈ r.ls, l.1 ≤ 1 → (S l.2.1).length ≤ 40) : (sols S (ps_of r.ls) ev0).length ≤ 64000 := by
  have h1 := sols_len (S := S) (ps_of r.ls) ev0 (fun l hl => ⟨ps_pos hl, h l (List.mem_filter.mp hl).1 (by rw [ps_pos hl]; omega)⟩)
  have h3 := hr.p3
  have : 40 ^ (ps_of r.ls).length ≤ 40 ^ 3 := Nat.pow_le_pow_right (by omega) h3
  have e : (40 : Nat) ^ 3 = 64000 := by decide
  omega
theorem ref_cnt {μ : mo_U} {G : pg_T} (hok : pg_ok G) {L : Nat} {TL T : Nat → al_T} (hT : rT μ G T) (hI : rI G L TL T) {i : Nat} (hi : i < G.rs.length) (hL : G.lay (G.rs.getD i d_ru).h = L) (hc : (G.rs.getD i d_ru).c = true) (hC : rC G L TL T i) (Q : Int32 → mo_U → Prop)
    (h0 : ∀ μ' R' N', mo_M μ' R' N' → mo_fr wts wfs μ μ' → LOv G L (ks TL) → Q 0 μ') (h1 : ∀ μ' T', rT μ' G T' → mo_fr wts wfs μ μ' → rI G L TL T' → rC G L TL T' (i + 1) → Q 1 μ') : mp_countRule (nI i) μ Q := by
  obtain ⟨R, N, hW⟩ := hT.w
  obtain ⟨hr, hly, hhn, hmk, hlit⟩ := hok.ru _ (rs_mem hi)
  obtain ⟨m1, m2, m3, m4⟩ := mkp_u hr hc
  have hh := hr.hh
  have hcg : ∀ l ∈ (G.rs.getD i d_ru).ls, l.1 ≤ 1 → mr_S R N l.2.1 = ks T l.2.1 := fun l hl h1 => mr_ks hW (by have := (hr.lit l hl).2.2.1 h1; exact this)
  have hhd : hd (mr_S R N) (G.rs.getD i d_ru) = hd (ks T) (G.rs.getD i d_ru) := hd_congr hcg
  have hTz := hC.z i (Nat.le_refl _) hi hL hc
  have hsT := rT_srt hT
  have hlow : hd (ks T) (G.rs.getD i d_ru) = hd (ks TL) (G.rs.getD i d_ru) := hd_congr (rI_low hok hI (rs_mem hi) hc hL)
  refine mo_count hW (hT.g.ls i hi) hr.p3 hr.safe (hT.g.hd i hi) m1 m2 m3 m4 hr.hsafe hTz (sols_64 hr (fun l hl h1 => by rw [hcg l hl h1, ks_len]; exact (hsT _).2.2)) (G := grp (hd (ks T) (G.rs.getD i d_ru))) (by rw [← hhd]; rfl) Q (fun ho μ' R' N' hM hfr => h0 μ' R' N' hM hfr (Or.inl ⟨_, rs_mem hi, hc, hL, by rw [← hlow]; exact ho⟩)) (fun hg1 hg2 μ' R' N' hW' hfr => ?_)
  have hno : ¬ ovf (grp (hd (ks TL) (G.rs.getD i d_ru))) := by
    rw [← hlow]
    rintro (z | ⟨p, hp, z⟩)
    · omega
    · have := hg2 p hp; omega
  have hSok : S_ok (ks T) := S_ok_T (fun v => (hsT v).2.1)
  have hnd : ((grp (hd (ks T) (G.rs.getD i d_ru))).map (ck (mkp (G.rs.getD i d_ru).ts))).Nodup := by
    refine ck_nd m1 (grp_nd _ [] List.nodup_nil) (fun p hp => ⟨?_, hg2 p hp⟩)
    rcases grp_mem _ [] hp with h | ⟨y, hy, _⟩
    · obtain ⟨x, hx, e⟩ := List.mem_map.mp h
      have hg := gzz_hk hr hc (hsol_ok hSok hx)
      rw [e] at hg
      refine ⟨hg.1, ?_, hg.2 _ (Nat.le_refl _) m1⟩
      have h2 : dg p.1 2 = 0 := by
        rw [← e, dg_hk (hsol_ok hSok hx) hr.hts 2 (by omega)]
        rcases m4 with z | z
        · rw [show tmi (G.rs.getD i d_ru).ts 2 = 99 from z]; rfl
        · rw [show tmi (G.rs.getD i d_ru).ts 2 = 100 from z]; rfl
      simpa [dg] using h2
    · exact absurd hy List.not_mem_nil
  obtain ⟨hI', hin⟩ := rI_cnt hok hI (rs_mem hi) hc hL hnd
  refine h1 μ' _ ⟨⟨R', N', hW'⟩, fun v hv => ?_, rf_L_fr hT.g hfr (by decide) (by decide)⟩ hfr hI' ⟨fun j a b c d => ?_, fun j a b c d => ?_⟩
  · show (if v = (G.rs.getD i d_ru).h then _ else T v) = []
    rw [if_neg (by omega)]; exact hT.t8 v hv
  · by_cases z : j = i
    · rw [z]
      refine ⟨fun k => ?_, hno⟩
      rw [ks_in]
      show al_in (if (G.rs.getD i d_ru).h = (G.rs.getD i d_ru).h then _ else _) k ↔ _
      rw [if_pos rfl]
      exact hin k
    · have hne := hok.un j i b hi z d
      refine ⟨fun k => ?_, (hC.c j (by omega) b c d).2⟩
      rw [ks_in]
      show al_in (if (G.rs.getD j d_ru).h = (G.rs.getD i d_ru).h then _ else T (G.rs.getD j d_ru).h) k ↔ _
      rw [if_neg hne, ← ks_in]
      exact (hC.c j (by omega) b c d).1 k
  · have hne := hok.un j i b hi (by omega) d
    show (if (G.rs.getD j d_ru).h = (G.rs.getD i d_ru).h then _ else T (G.rs.getD j d_ru).h) = []
    rw [if_neg hne]
    exact hC.z j (by omega) b c d
theorem ref_plain {μ : mo_U} {G : pg_T} (hok : pg_ok G) {L : Nat} {TL T : Nat → al_T} (hT : rT μ G T) (hI : rI G L TL T) {i : Nat} (hi : i < G.rs.length) (hL : G.lay (G.rs.getD i d_ru).h = L) (hc : (G.rs.getD i d_ru).c = false) (hC : rC G L TL T G.rs.length) (Q : Int32 → mo_U → Prop)
    (h0 : ∀ μ' R' N', mo_M μ' R' N' → mo_fr wts wfs μ μ' → LOv G L (ks TL) → Q (-3) μ') (h1 : ∀ μ', rT μ' G T → mo_fr wts wfs μ μ' → (∀ k ∈ hd (ks T) (G.rs.getD i d_ru), k ∈ ks T (G.rs.getD i d_ru).h) → Q 0 μ') (h2 : ∀ μ' T', rT μ' G T' → mo_fr wts wfs μ μ' → rI G L TL T' → rC G L TL T' G.rs.length → tot T < tot T' → Q 1 μ') : mp_plainRule (nI i) μ Q := by
  obtain ⟨R, N, hW⟩ := hT.w
  obtain ⟨hr, hly, hhn, hmk, hlit⟩ := hok.ru _ (rs_mem hi)
  have hh := hr.hh
  have hcg : ∀ l ∈ (G.rs.getD i d_ru).ls, l.1 ≤ 1 → mr_S R N l.2.1 = ks T l.2.1 := fun l hl h1 => mr_ks hW (by have := (hr.lit l hl).2.2.1 h1; exact this)
  have hhd : hd (mr_S R N) (G.rs.getD i d_ru) = hd (ks T) (G.rs.getD i d_ru) := hd_congr hcg
  have hsT := rT_srt hT
  have hmono : ∀ {μ' : mo_U}, mo_fr [40, 41, 42, 50, 51, 52, 53] [840, 841, 842, 845] μ μ' → mo_fr wts wfs μ μ' := fun h => mo_fr_mono h (by decide) (by decide)
  have hmem : ∀ k, k ∈ frs (ks T (G.rs.getD i d_ru).h) (hd (ks T) (G.rs.getD i d_ru)) [] ↔ k ∈ hd (ks T) (G.rs.getD i d_ru) ∧ k ∉ ks T (G.rs.getD i d_ru).h := fun k => by
    rw [frs_mem]
    exact ⟨fun z => z.elim (fun y => absurd y List.not_mem_nil) id, Or.inr⟩
  have hnd : (frs (ks T (G.rs.getD i d_ru).h) (hd (ks T) (G.rs.getD i d_ru)) []).Nodup := frs_nd _ _ [] List.nodup_nil
  have hni : ∀ k ∈ frs (ks T (G.rs.getD i d_ru).h) (hd (ks T) (G.rs.getD i d_ru)) [], ¬ al_in (T (G.rs.getD i d_ru).h) k := fun k hk z => ((hmem k).mp hk).2 (ks_in.mpr z)
  have hfa := fold_add (hsT (G.rs.getD i d_ru).h).1 hni hnd
  have hI' := rI_plain hok hI (fun v => (hsT v).1) (fun v => (hsT v).2.1) (rs_mem hi) hc hL rfl
  refine mo_plain hW (hT.g.ls i hi) hr.p3 hr.safe (hT.g.hd i hi) (hr.plain hc) hr.hsafe (F := frs (ks T (G.rs.getD i d_ru).h) (hd (ks T) (G.rs.getD i d_ru)) []) (by rw [← hhd]; rfl) Q (fun ho μ' R' N' hM hfr => h0 μ' R' N' hM (hmono hfr) (Or.inr ⟨(G.rs.getD i d_ru).h, hh, hL, ((frs (ks T (G.rs.getD i d_ru).h) (hd (ks T) (G.rs.getD i d_ru)) []).foldl (fun l k => al_add l k 1) (T (G.rs.getD i d_ru).h)).map Prod.fst, ?_, by rw [List.length_map, hfa.2]; exact ho, fun S hS k hk => ?_⟩)) (fun hle μ' R' N' hW' hfr => ?_)
  · rw [List.pairwise_map]
    exact hfa.1
  · refine hI'.snd S hS _ k ?_
    unfold ks
    show k ∈ (if (G.rs.getD i d_ru).h = (G.rs.getD i d_ru).h then _ else _ : al_T).map Prod.fst
    rw [if_pos rfl]
    exact hk
  · by_cases hF : frs (ks T (G.rs.getD i d_ru).h) (hd (ks T) (G.rs.getD i d_ru)) [] = []
    · rw [if_pos hF]
      rw [hF] at hW'
      have e : (fun r' => if r' = (G.rs.getD i d_ru).h then List.foldl (fun l k => al_add l k 1) (T (G.rs.getD i d_ru).h) [] else T r') = T := by
        funext v
        by_cases z : v = (G.rs.getD i d_ru).h
        · rw [if_pos z, z]; rfl
        · rw [if_neg z]
      rw [e] at hW'
      exact h1 μ' ⟨⟨R', N', hW'⟩, hT.t8, rf_L_fr hT.g hfr (by decide) (by decide)⟩ (hmono hfr) (frs_nil hF)
    · rw [if_neg hF]
      refine h2 μ' _ ⟨⟨R', N', hW'⟩, fun v hv => ?_, rf_L_fr hT.g hfr (by decide) (by decide)⟩ (hmono hfr) hI' ⟨fun j a b c d => ?_, fun j a b => by omega⟩ ?_
      · show (if v = (G.rs.getD i d_ru).h then _ else T v) = []
        rw [if_neg (by omega)]; exact hT.t8 v hv
      · have hne : (G.rs.getD j d_ru).h ≠ (G.rs.getD i d_ru).h := hok.un j i b hi (fun z => (by rw [z, hc] at d; cases d)) d
        refine ⟨fun k => ?_, (hC.c j a b c d).2⟩
        rw [ks_in]
        show al_in (if (G.rs.getD j d_ru).h = (G.rs.getD i d_ru).h then _ else T (G.rs.getD j d_ru).h) k ↔ _
        rw [if_neg hne, ← ks_in]
        exact (hC.c j a b c d).1 k
      · have := tot_up (T := T) (h := (G.rs.getD i d_ru).h) (l := (frs (ks T (G.rs.getD i d_ru).h) (hd (ks T) (G.rs.getD i d_ru)) []).foldl (fun l k => al_add l k 1) (T (G.rs.getD i d_ru).h)) hh
        rw [hfa.2] at this
        have : 0 < (frs (ks T (G.rs.getD i d_ru).h) (hd (ks T) (G.rs.getD i d_ru)) []).length := List.length_pos_iff.mpr hF
        omega
