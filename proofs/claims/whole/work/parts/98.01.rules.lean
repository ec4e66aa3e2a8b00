/-! THE REFERENCE'S RULES; rows beyond the relations do not count -/
def rf_L (μ : mo_U) (G : pg_T) : Prop := (μ.1 808 = nI G.rs.length) ∧ (G.rs.length ≤ 16) ∧ (μ.1 817 = nI G.n) ∧ (∀ i, i < G.rs.length → mo_head μ i (G.rs.getD i d_ru).h (G.rs.getD i d_ru).ts) ∧ (∀ i, i < G.rs.length → mo_lits μ i (G.rs.getD i d_ru).ls) ∧ (∀ i, i < G.rs.length → μ.2 32 i = if (G.rs.getD i d_ru).c then 1 else 0) ∧ (∀ v, v < G.n → μ.2 36 v = if G.vw v then 1 else 0) ∧ (∀ v, v < G.n → μ.2 37 v = nI (G.lay v))
theorem rf_L.nn {μ : mo_U} {G : pg_T} (h' : rf_L μ G) : μ.1 808 = nI G.rs.length := h'.1
theorem rf_L.n16 {μ : mo_U} {G : pg_T} (h' : rf_L μ G) : G.rs.length ≤ 16 := h'.2.1
theorem rf_L.kn {μ : mo_U} {G : pg_T} (h' : rf_L μ G) : μ.1 817 = nI G.n := h'.2.2.1
theorem rf_L.hd {μ : mo_U} {G : pg_T} (h' : rf_L μ G) : ∀ i, i < G.rs.length → mo_head μ i (G.rs.getD i d_ru).h (G.rs.getD i d_ru).ts := h'.2.2.2.1
theorem rf_L.ls {μ : mo_U} {G : pg_T} (h' : rf_L μ G) : ∀ i, i < G.rs.length → mo_lits μ i (G.rs.getD i d_ru).ls := h'.2.2.2.2.1
theorem rf_L.ct {μ : mo_U} {G : pg_T} (h' : rf_L μ G) : ∀ i, i < G.rs.length → μ.2 32 i = if (G.rs.getD i d_ru).c then 1 else 0 := h'.2.2.2.2.2.1
theorem rf_L.vw {μ : mo_U} {G : pg_T} (h' : rf_L μ G) : ∀ v, v < G.n → μ.2 36 v = if G.vw v then 1 else 0 := h'.2.2.2.2.2.2.1
theorem rf_L.ly {μ : mo_U} {G : pg_T} (h' : rf_L μ G) : ∀ v, v < G.n → μ.2 37 v = nI (G.lay v) := h'.2.2.2.2.2.2.2
theorem rf_L_fr {μ μ' : mo_U} {G : pg_T} {ts fs : List Nat} (h : rf_L μ G) (hf : mo_fr ts fs μ μ') (hts : ∀ t ∈ [26, 27, 28, 29, 30, 31, 32, 36, 37], t ∉ ts) (hfs : ∀ f ∈ [808, 817], f ∉ fs) : rf_L μ' G :=
  ⟨by rw [hf.2 808 (hfs 808 (by decide))]; exact h.nn, h.n16, by rw [hf.2 817 (hfs 817 (by decide))]; exact h.kn, fun i hi => mo_head_fr (h.hd i hi) hf (hts 26 (by decide)) (hts 27 (by decide)), fun i hi => mo_lits_fr (h.ls i hi) hf (hts 28 (by decide)) (hts 29 (by decide)) (hts 30 (by decide)) (hts 31 (by decide)), fun i hi => by rw [hf.1 32 (hts 32 (by decide))]; exact h.ct i hi, fun v hv => by rw [hf.1 36 (hts 36 (by decide))]; exact h.vw v hv, fun v hv => by rw [hf.1 37 (hts 37 (by decide))]; exact h.ly v hv⟩
theorem mr_ks {μ : mo_U} {R : mr_R} {N : Nat → Nat} {T : Nat → al_T} (hW : mo_W μ R N T) {v : Nat} (hv : v < 8) : mr_S R N v = ks T v := by
  rw [mr_S_l]
  unfold ks
  rw [(hW.2 v hv).1]
/-- rows of relations alone -/
def res (n : Nat) (S : Nat → List Nat) : Nat → List Nat := fun v => if v < n then S v else []
theorem res_lt {n : Nat} {S : Nat → List Nat} {v : Nat} (h : v < n) : res n S v = S v := by unfold res; rw [if_pos h]
theorem res_ge {n : Nat} {S : Nat → List Nat} {v : Nat} (h : ¬ v < n) : res n S v = [] := by unfold res; rw [if_neg h]
theorem res_hd {G : pg_T} (hok : pg_ok G) {S : Nat → List Nat} {r : ru_T} (hr : r ∈ G.rs) : hd (res G.n S) r = hd S r := hd_congr (fun l hl h1 => res_lt ((hok.ru r hr).2.2.2.2 l hl h1))
theorem Cl_ext {G : pg_T} (hok : pg_ok G) {L : Nat} {S0 S0' S S' : Nat → List Nat} (h : Cl G.rs G.lay L S0 S) (h0 : ∀ v, v < G.n → S0 v = S0' v) (h1 : ∀ v, v < G.n → S v = S' v) (hS : S_ok S') (hlo : ∀ v, ¬ v < G.n → ∀ k, k ∈ S' v ↔ k ∈ S0' v) : Cl G.rs G.lay L S0' S' := by
  refine ⟨hS, fun v hv k => ?_, fun r hr hc hL k hk => ?_, fun r hr hc hL k hk => ?_⟩
  · by_cases z : v < G.n
    · rw [← h1 v z, ← h0 v z]; exact h.lo v hv k
    · exact hlo v z k
  · rw [← h1 _ (hok.ru r hr).2.2.1]
    refine h.cl r hr hc hL k ?_
    rw [hd_congr (S := S) (S' := S') (fun l hl h2 => h1 _ ((hok.ru r hr).2.2.2.2 l hl h2))]
    exact hk
  · rw [← h1 _ (hok.ru r hr).2.2.1]
    refine h.cr r hr hc hL k ?_
    unfold crow
    rw [hd_congr (S := S0) (S' := S0') (fun l hl h2 => h0 _ ((hok.ru r hr).2.2.2.2 l hl h2))]
    exact hk
theorem S_ok_res {n : Nat} {S : Nat → List Nat} (h : S_ok S) : S_ok (res n S) := fun v k hk => by
  by_cases z : v < n
  · rw [res_lt z] at hk; exact h v k hk
  · rw [res_ge z] at hk; exact absurd hk List.not_mem_nil
/-- lifting a model over the restricted rows to one over all -/
theorem Cl_lift {G : pg_T} (hok : pg_ok G) {L : Nat} {S0 S'' : Nat → List Nat} (hS0 : S_ok S0) (h : Cl G.rs G.lay L (res G.n S0) S'') : Cl G.rs G.lay L S0 (fun v => if v < G.n then S'' v else S0 v) := by
  refine Cl_ext hok h (fun v hv => res_lt hv) (fun v hv => (if_pos hv).symm) (fun v k hk => ?_) (fun v hv k => ?_)
  · try dsimp only at hk
    split at hk
    · exact h.ok v k hk
    · exact hS0 v k hk
  · try dsimp only
    rw [if_neg hv]
theorem LMod_res {G : pg_T} (hok : pg_ok G) {L : Nat} {S0 S : Nat → List Nat} (hS0 : S_ok S0) (hln : ∀ v, ¬ v < G.n → G.lay v ≠ L) (h : LMod G L S0 S) : LMod G L (res G.n S0) (res G.n S) := by
  refine ⟨Cl_ext hok h.cl (fun v hv => (res_lt hv).symm) (fun v hv => (res_lt hv).symm) (S_ok_res h.cl.ok) (fun v hv k => by rw [res_ge hv, res_ge hv]), fun S'' hS'' v k hk => ?_, fun v hv => ?_, fun r hr hc hL => ?_, fun v hv hL => ?_, fun v hL => ?_⟩
  · by_cases z : v < G.n
    · rw [res_lt z] at hk
      have := h.mn _ (Cl_lift hok hS0 hS'') v k hk
      try dsimp only at this
      rw [if_pos z] at this
      exact this
    · rw [res_ge z] at hk; exact absurd hk List.not_mem_nil
  · by_cases z : v < G.n
    · rw [res_lt z, res_lt z]; exact h.eq v hv
    · rw [res_ge z, res_ge z]
  · rw [res_hd hok hr]; exact h.nv r hr hc hL
  · have z : v < G.n := Classical.not_not.mp (fun y => hln v y hL)
    rw [res_lt z]; exact h.c40 v hv hL
  · have z : v < G.n := Classical.not_not.mp (fun y => hln v y hL)
    rw [res_lt z]; exact h.srt v hL
theorem LOv_res {G : pg_T} (hok : pg_ok G) {L : Nat} {S0 : Nat → List Nat} (hS0 : S_ok S0) (hln : ∀ v, ¬ v < G.n → G.lay v ≠ L) (h : LOv G L S0) : LOv G L (res G.n S0) := by
  rcases h with ⟨r, h1, h2, h3, h4⟩ | ⟨v, h1, h2, l, h3, h4, h5⟩
  · exact Or.inl ⟨r, h1, h2, h3, by rw [res_hd hok h1]; exact h4⟩
  · refine Or.inr ⟨v, h1, h2, l, h3, h4, fun S'' hS'' k hk => ?_⟩
    have := h5 _ (Cl_lift hok hS0 hS'') k hk
    try dsimp only at this
    have z : v < G.n := Classical.not_not.mp (fun y => hln v y h2)
    rw [if_pos z] at this
    exact this
theorem WK_res {G : pg_T} (hok : pg_ok G) (hln : ∀ v, ¬ v < G.n → G.lay v = 0) : ∀ {n : Nat} {S0 S : Nat → List Nat}, S_ok S0 → WK G n S0 S → WK G n (res G.n S0) (res G.n S)
  | 0, S0, S, _, h => by rw [show S = S0 from h]; rfl
  | n + 1, S0, S, h0, ⟨S1, h1, h2⟩ => ⟨res G.n S1, WK_res hok hln h0 h1, LMod_res hok (WK_ok h0 h1) (fun v hv => by rw [hln v hv]; omega) h2⟩
theorem WOv_res {G : pg_T} (hok : pg_ok G) (hln : ∀ v, ¬ v < G.n → G.lay v = 0) {n : Nat} {S0 : Nat → List Nat} (h0 : S_ok S0) (h : WOv G n S0) : WOv G n (res G.n S0) := by
  obtain ⟨L, S1, h1, h2, h3⟩ := h
  exact ⟨L, res G.n S1, h1, WK_res hok hln h0 h2, LOv_res hok (WK_ok h0 h2) (fun v hv => by rw [hln v hv]; omega) h3⟩
