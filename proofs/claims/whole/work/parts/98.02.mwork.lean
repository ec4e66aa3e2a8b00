/-! THE REFERENCE'S WORK -/
def rT (μ : mo_U) (G : pg_T) (T : Nat → al_T) : Prop := (∃ R N, mo_W μ R N T) ∧ (∀ v, 8 ≤ v → T v = []) ∧ (rf_L μ G)
theorem rT.w {μ : mo_U} {G : pg_T} {T : Nat → al_T} (h' : rT μ G T) : ∃ R N, mo_W μ R N T := h'.1
theorem rT.t8 {μ : mo_U} {G : pg_T} {T : Nat → al_T} (h' : rT μ G T) : ∀ v, 8 ≤ v → T v = [] := h'.2.1
theorem rT.g {μ : mo_U} {G : pg_T} {T : Nat → al_T} (h' : rT μ G T) : rf_L μ G := h'.2.2
theorem rT_srt {μ : mo_U} {G : pg_T} {T : Nat → al_T} (h : rT μ G T) : ∀ v, al_s (T v) ∧ al_k (T v) ∧ (T v).length ≤ 40 := fun v => by
  by_cases hv : v < 8
  · obtain ⟨R, N, hW⟩ := h.w
    refine ⟨(hW.2 v hv).2, mo_W_k hW hv, ?_⟩
    rw [(hW.2 v hv).1, mr_l_len]
    exact (hW.1.2 v hv).2
  · rw [h.t8 v (by omega)]
    exact ⟨List.Pairwise.nil, fun p hp => absurd hp List.not_mem_nil, by decide⟩
/-- what the layer's rows are on the way -/
def rI (G : pg_T) (L : Nat) (T0 T : Nat → al_T) : Prop := (∀ v, G.lay v ≠ L → T v = T0 v) ∧ (∀ S, Cl G.rs G.lay L (ks T0) S → ∀ v, ∀ k ∈ ks T v, k ∈ S v) ∧ (∀ v, G.lay v = L → ∀ p ∈ T v, p.2 = 1)
theorem rI.lo {G : pg_T} {L : Nat} {T0 T : Nat → al_T} (h' : rI G L T0 T) : ∀ v, G.lay v ≠ L → T v = T0 v := h'.1
theorem rI.snd {G : pg_T} {L : Nat} {T0 T : Nat → al_T} (h' : rI G L T0 T) : ∀ S, Cl G.rs G.lay L (ks T0) S → ∀ v, ∀ k ∈ ks T v, k ∈ S v := h'.2.1
theorem rI.one {G : pg_T} {L : Nat} {T0 T : Nat → al_T} (h' : rI G L T0 T) : ∀ v, G.lay v = L → ∀ p ∈ T v, p.2 = 1 := h'.2.2
theorem rI_low {G : pg_T} (hok : pg_ok G) {L : Nat} {T0 T : Nat → al_T} (hI : rI G L T0 T) {r : ru_T} (hr : r ∈ G.rs) (hc : r.c = true) (hL : G.lay r.h = L) : ∀ l ∈ r.ls, l.1 ≤ 1 → ks T l.2.1 = ks T0 l.2.1 := fun l hl h1 => by
  obtain ⟨_, hly, _⟩ := hok.ru r hr
  unfold ks
  rw [hI.lo _ (fun e => ?_)]
  by_cases z : l.1 = 0
  · have := ((hly l hl).1 z).2 hc; omega
  · have := (hly l hl).2 (by omega); omega
theorem fold_in {K : List Nat} : ∀ {l : al_T} {k : Nat}, al_in (K.foldl (fun l k => al_add l k 1) l) k ↔ al_in l k ∨ k ∈ K := by
  induction K with
  | nil => intro l k; exact ⟨Or.inl, fun h => h.elim id (fun z => absurd z List.not_mem_nil)⟩
  | cons a K ih =>
    intro l k
    rw [List.foldl_cons, ih, al_add_in, List.mem_cons, or_assoc]
theorem fold_one {K : List Nat} : ∀ {l : al_T}, al_s l → K.Nodup → (∀ k ∈ K, ¬ al_in l k) → (∀ p ∈ l, p.2 = 1) → ∀ p ∈ K.foldl (fun l k => al_add l k 1) l, p.2 = 1 := by
  induction K with
  | nil => intro l _ _ _ h; exact h
  | cons a K ih =>
    intro l hs hn hni h
    obtain ⟨n1, n2⟩ := List.nodup_cons.mp hn
    refine ih (al_add_s hs) n2 (fun k hk z => ?_) (fun p hp => ?_)
    · rcases al_add_in.mp z with z | z
      · exact hni k (List.mem_cons_of_mem _ hk) z
      · rw [z] at hk; exact n1 hk
    · rcases al_add_one (hni a List.mem_cons_self) p hp with z | z
      · exact h p z
      · rw [z]
theorem fold_s {K : List Nat} : ∀ {l : al_T}, al_s l → al_s (K.foldl (fun l k => al_add l k 1) l) := by
  induction K with
  | nil => intro l h; exact h
  | cons a K ih => intro l h; exact ih (al_add_s h)
/-- one plain rule of the layer: the heads that are new come in -/
theorem rI_plain {G : pg_T} (hok : pg_ok G) {L : Nat} {T0 T : Nat → al_T} (hI : rI G L T0 T) (hs : ∀ v, al_s (T v)) (hT8 : ∀ v, al_k (T v)) {r : ru_T} (hr : r ∈ G.rs) (hc : r.c = false) (hL : G.lay r.h = L) {F : List Nat} (hF : frs (ks T r.h) (hd (ks T) r) [] = F) : rI G L T0 (fun v => if v = r.h then F.foldl (fun l k => al_add l k 1) (T r.h) else T v) := by
  have hmem : ∀ k, k ∈ F ↔ k ∈ hd (ks T) r ∧ k ∉ ks T r.h := fun k => by
    rw [← hF, frs_mem]
    exact ⟨fun z => z.elim (fun y => absurd y List.not_mem_nil) id, Or.inr⟩
  have hnd : F.Nodup := by rw [← hF]; exact frs_nd _ _ [] List.nodup_nil
  refine ⟨fun v hv => ?_, fun S hS v k hk => ?_, fun v hv p hp => ?_⟩
  · show (if v = r.h then _ else T v) = _
    rw [if_neg (fun z => hv (by rw [z]; exact hL))]
    exact hI.lo v hv
  · rw [ks_in] at hk
    change al_in (if v = r.h then _ else T v) k at hk
    split at hk
    · rename_i hv
      rw [hv]
      rcases fold_in.mp hk with z | z
      · exact hI.snd S hS _ _ (ks_in.mpr z)
      · refine hS.cl r hr hc hL k ?_
        obtain ⟨h1, _⟩ := (hmem k).mp z
        refine hd_mono (S_ok_T hT8) (hok.ru r hr).1 (fun l hl _ k hk => hI.snd S hS _ _ hk) (fun l hl h1 k => ?_) h1
        obtain ⟨_, hly, _⟩ := hok.ru r hr
        have := (hly l hl).2 h1
        unfold ks
        rw [hI.lo _ (by omega)]
        exact (hS.lo _ (by omega) k).symm
    · exact hI.snd S hS _ _ (ks_in.mpr hk)
  · change p ∈ (if v = r.h then _ else T v) at hp
    split at hp
    · rename_i hv
      refine fold_one (hs r.h) hnd (fun k hk z => ((hmem k).mp hk).2 (ks_in.mpr z)) (fun p hp => hI.one r.h hL p hp) p hp
    · exact hI.one v hv p hp
theorem rI_cnt {G : pg_T} (hok : pg_ok G) {L : Nat} {T0 T : Nat → al_T} (hI : rI G L T0 T) {r : ru_T} (hr : r ∈ G.rs) (hc : r.c = true) (hL : G.lay r.h = L) (hnd : ((grp (hd (ks T) r)).map (ck (mkp r.ts))).Nodup) : rI G L T0 (fun v => if v = r.h then ((grp (hd (ks T) r)).map (ck (mkp r.ts))).foldl (fun l k => al_add l k 1) [] else T v) ∧ ∀ k, al_in (((grp (hd (ks T) r)).map (ck (mkp r.ts))).foldl (fun l k => al_add l k 1) []) k ↔ k ∈ crow (ks T0) r := by
  have hin : ∀ k, al_in (((grp (hd (ks T) r)).map (ck (mkp r.ts))).foldl (fun l k => al_add l k 1) []) k ↔ k ∈ crow (ks T0) r := fun k => by
    rw [fold_in]
    unfold crow
    rw [hd_congr (rI_low hok hI hr hc hL)]
    exact ⟨fun z => z.elim (fun ⟨p, hp, _⟩ => absurd hp List.not_mem_nil) id, Or.inr⟩
  refine ⟨⟨fun v hv => ?_, fun S hS v k hk => ?_, fun v hv p hp => ?_⟩, hin⟩
  · show (if v = r.h then _ else T v) = _
    rw [if_neg (fun z => hv (by rw [z]; exact hL))]
    exact hI.lo v hv
  · rw [ks_in] at hk
    change al_in (if v = r.h then _ else T v) k at hk
    split at hk
    · rename_i hv
      rw [hv]
      exact hS.cr r hr hc hL k ((hin k).mp hk)
    · exact hI.snd S hS _ _ (ks_in.mpr hk)
  · change p ∈ (if v = r.h then _ else T v) at hp
    split at hp
    · exact fold_one (l := []) List.Pairwise.nil hnd (fun k _ ⟨q, hq, _⟩ => absurd hq List.not_mem_nil) (fun p hp => absurd hp List.not_mem_nil) p hp
    · exact hI.one v hv p hp
theorem frs_nil {old K : List Nat} (h : frs old K [] = []) : ∀ k ∈ K, k ∈ old := fun k hk => by
  by_cases z : k ∈ old
  · exact z
  · have := (frs_mem old K [] k).mpr (Or.inr ⟨hk, z⟩)
    rw [h] at this
    exact absurd this List.not_mem_nil
