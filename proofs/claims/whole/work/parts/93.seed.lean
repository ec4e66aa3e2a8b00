/-! SEED: rules that need only what lies below -/
def lyo (G : pg_T) (L : Nat) (T0 : Nat → al_T) : lyr := ⟨G.rs, G.lay, L, G.A, T0⟩
def lS (X : ex_T) (D : pa_T) (G : pg_T) (L : Nat) (T0 : Nat → al_T) (σ0 : z_S) (g : gs_T) (σ : z_S) : Prop := (es X 0 g σ) ∧ (ef X σ0 σ) ∧ (z_R σ 109 X.a = some D.p) ∧ (IV (lyo G L T0) g)
theorem lS.s {X : ex_T} {D : pa_T} {G : pg_T} {L : Nat} {T0 : Nat → al_T} {σ0 : z_S} {g : gs_T} {σ : z_S} (h' : lS X D G L T0 σ0 g σ) : es X 0 g σ := h'.1
theorem lS.f {X : ex_T} {D : pa_T} {G : pg_T} {L : Nat} {T0 : Nat → al_T} {σ0 : z_S} {g : gs_T} {σ : z_S} (h' : lS X D G L T0 σ0 g σ) : ef X σ0 σ := h'.2.1
theorem lS.p {X : ex_T} {D : pa_T} {G : pg_T} {L : Nat} {T0 : Nat → al_T} {σ0 : z_S} {g : gs_T} {σ : z_S} (h' : lS X D G L T0 σ0 g σ) : z_R σ 109 X.a = some D.p := h'.2.2.1
theorem lS.i {X : ex_T} {D : pa_T} {G : pg_T} {L : Nat} {T0 : Nat → al_T} {σ0 : z_S} {g : gs_T} {σ : z_S} (h' : lS X D G L T0 σ0 g σ) : IV (lyo G L T0) g := h'.2.2.2
def cOv (G : pg_T) (L : Nat) (T0 : Nat → al_T) : Prop := ∃ r ∈ G.rs, r.c = true ∧ G.lay r.h = L ∧ ovf (grp (hd (ks T0) r))
def lF (X : ex_T) (D : pa_T) (G : pg_T) (L : Nat) (T0 : Nat → al_T) (σ0 : z_S) (σ : z_S) : Prop := (∃ g, es X 0 g σ ∧ g.fl = true ∧ ∀ v, G.lay v ≠ L → g.T v = T0 v) ∧ (ef X σ0 σ) ∧ (z_R σ 109 X.a = some D.p) ∧ (cOv G L T0)
theorem lF.s {X : ex_T} {D : pa_T} {G : pg_T} {L : Nat} {T0 : Nat → al_T} {σ0 : z_S} {σ : z_S} (h' : lF X D G L T0 σ0 σ) : ∃ g, es X 0 g σ ∧ g.fl = true ∧ ∀ v, G.lay v ≠ L → g.T v = T0 v := h'.1
theorem lF.f {X : ex_T} {D : pa_T} {G : pg_T} {L : Nat} {T0 : Nat → al_T} {σ0 : z_S} {σ : z_S} (h' : lF X D G L T0 σ0 σ) : ef X σ0 σ := h'.2.1
theorem lF.p {X : ex_T} {D : pa_T} {G : pg_T} {L : Nat} {T0 : Nat → al_T} {σ0 : z_S} {σ : z_S} (h' : lF X D G L T0 σ0 σ) : z_R σ 109 X.a = some D.p := h'.2.2.1
theorem lF.o {X : ex_T} {D : pa_T} {G : pg_T} {L : Nat} {T0 : Nat → al_T} {σ0 : z_S} {σ : z_S} (h' : lF X D G L T0 σ0 σ) : cOv G L T0 := h'.2.2.2
def sdd (G : pg_T) (L : Nat) (T0 : Nat → al_T) (g : gs_T) (i : Nat) : Prop := (∀ j, j < i → j < G.rs.length → G.lay (G.rs.getD j d_ru).h = L → ¬ usesL G j L → (G.rs.getD j d_ru).c = false → ∀ k ∈ hd (ks T0) (G.rs.getD j d_ru), k ∈ ks g.T (G.rs.getD j d_ru).h) ∧ (∀ j, j < i → j < G.rs.length → G.lay (G.rs.getD j d_ru).h = L → (G.rs.getD j d_ru).c = true → ∀ k, k ∈ ks g.T (G.rs.getD j d_ru).h ↔ k ∈ crow (ks T0) (G.rs.getD j d_ru)) ∧ (∀ j, j < i → j < G.rs.length → G.lay (G.rs.getD j d_ru).h = L → (G.rs.getD j d_ru).c = true → ¬ ovf (grp (hd (ks T0) (G.rs.getD j d_ru)))) ∧ (∀ j, i ≤ j → j < G.rs.length → G.lay (G.rs.getD j d_ru).h = L → (G.rs.getD j d_ru).c = true → g.T (G.rs.getD j d_ru).h = [])
theorem sdd.p {G : pg_T} {L : Nat} {T0 : Nat → al_T} {g : gs_T} {i : Nat} (h' : sdd G L T0 g i) : ∀ j, j < i → j < G.rs.length → G.lay (G.rs.getD j d_ru).h = L → ¬ usesL G j L → (G.rs.getD j d_ru).c = false → ∀ k ∈ hd (ks T0) (G.rs.getD j d_ru), k ∈ ks g.T (G.rs.getD j d_ru).h := h'.1
theorem sdd.c {G : pg_T} {L : Nat} {T0 : Nat → al_T} {g : gs_T} {i : Nat} (h' : sdd G L T0 g i) : ∀ j, j < i → j < G.rs.length → G.lay (G.rs.getD j d_ru).h = L → (G.rs.getD j d_ru).c = true → ∀ k, k ∈ ks g.T (G.rs.getD j d_ru).h ↔ k ∈ crow (ks T0) (G.rs.getD j d_ru) := h'.2.1
theorem sdd.v {G : pg_T} {L : Nat} {T0 : Nat → al_T} {g : gs_T} {i : Nat} (h' : sdd G L T0 g i) : ∀ j, j < i → j < G.rs.length → G.lay (G.rs.getD j d_ru).h = L → (G.rs.getD j d_ru).c = true → ¬ ovf (grp (hd (ks T0) (G.rs.getD j d_ru))) := h'.2.2.1
theorem sdd.z {G : pg_T} {L : Nat} {T0 : Nat → al_T} {g : gs_T} {i : Nat} (h' : sdd G L T0 g i) : ∀ j, i ≤ j → j < G.rs.length → G.lay (G.rs.getD j d_ru).h = L → (G.rs.getD j d_ru).c = true → g.T (G.rs.getD j d_ru).h = [] := h'.2.2.2
theorem es_sR {X : ex_T} {go : Nat} {g : gs_T} {σ : z_S} (h : es X go g σ) (x : Option Nat) : es X go g (z_sR σ 110 X.a x) :=
  ⟨en_T_ef h.en (ef_sR (by omega) (by omega)), ⟨rw_T_ef h.rw.1 (ef_sR (by omega) (by omega)), fun i hi => by
    obtain ⟨b1, b2, b3, b4, b5, b6⟩ := h.rw.2 i hi
    exact ⟨ro_T_ef (X := X) b1 (ef_sR (by omega) (by omega)), b2, b3, b4, b5, b6⟩⟩, by rw [z_R_sR, if_neg (fun q => absurd q.1 (by decide))]; exact h.hw, h.gl, h.f, h.cp, h.qu⟩
theorem es_105 {X : ex_T} {go : Nat} {g : gs_T} {σ : z_S} (h : es X go g σ) (x : Int32) : es X go g (z_sI σ 105 X.a x) := es_vf h (vf_sI (vf_rf X σ) x)
/-- rules of this layer that look below: the rows below are those of the start -/
theorem low_T {G : pg_T} (hok : pg_ok G) {L : Nat} {T0 : Nat → al_T} {g : gs_T} (hI : IV (lyo G L T0) g) {i : Nat} (hi : i < G.rs.length) (ha : arr (G.rs.getD i d_ru) (G.as i)) (hL : G.lay (G.rs.getD i d_ru).h = L) (hu : ¬ usesL G i L) : ∀ l ∈ (G.rs.getD i d_ru).ls, l.1 ≤ 1 → g.T l.2.1 = T0 l.2.1 := by
  intro l hl h1
  obtain ⟨_, hly, _⟩ := hok.ru _ (rs_mem hi)
  refine hI.lo _ (fun e => ?_)
  have e : G.lay l.2.1 = L := e
  by_cases z : l.1 = 0
  · exact hu ⟨l, (ha.ts l).mpr hl, z, e⟩
  · have := (hly l hl).2 (by omega)
    omega
theorem cnt_low {G : pg_T} (hok : pg_ok G) {i L : Nat} (hi : i < G.rs.length) (ha : arr (G.rs.getD i d_ru) (G.as i)) (hL : G.lay (G.rs.getD i d_ru).h = L) (hc : (G.rs.getD i d_ru).c = true) : ¬ usesL G i L := by
  rintro ⟨l, hl, h0, e⟩
  obtain ⟨_, hly, _⟩ := hok.ru _ (rs_mem hi)
  have := ((hly l ((ha.ts l).mp hl)).1 h0).2 hc
  omega
theorem mkp_eq {r : ru_T} (hr : ru_ok r) (hc : r.c = true) : mkp r.ts < 3 ∧ (∀ i, mkp r.ts ≤ i → i < 3 → tmi r.ts i = 99 ∨ tmi r.ts i = 100) := by
  obtain ⟨mk, h1, h2, h3, h4⟩ := hr.cnt hc
  have hm : mkp r.ts = mk := by
    unfold mkp
    have a0 := h2 0 (by omega)
    have a1 := h2 1 (by omega)
    have a2 := h2 2 (by omega)
    simp only [tmi] at a0 a1 a2
    simp at a0 a1 a2
    split
    · rename_i h; exact (a0.mp h)
    · split
      · rename_i h; exact (a1.mp h)
      · rename_i h h'
        have : mk ≠ 0 := fun z => h (a0.mpr z.symm)
        have : mk ≠ 1 := fun z => h' (a1.mpr z.symm)
        omega
  rw [hm]
  refine ⟨h1, fun i hi hi3 => ?_⟩
  by_cases z : i = mk
  · exact Or.inl ((h2 i hi3).mpr z)
  · exact Or.inr (h4 i (by omega) hi3)
theorem gzz_hk {r : ru_T} (hr : ru_ok r) (hc : r.c = true) {x : ev_T} (hx : ev_ok x) : gzz (mkp r.ts) (hk3 x r.ts) := by
  refine ⟨hk3_lt hx hr.hts, fun i h1 h2 => ?_⟩
  rw [dg_hk hx hr.hts i h2]
  rcases (mkp_eq hr hc).2 i h1 h2 with h | h
  · rw [h]; rfl
  · rw [h]; rfl
theorem cgl_gz {r : ru_T} (hr : ru_ok r) (hc : r.c = true) {vs : List ev_T} (hv : ∀ x ∈ vs, ev_ok x) : ∀ p ∈ cgl r.ts vs, gzz (mkp r.ts) p.1 := fun p hp => by
  have hk := ((cgl_R r.ts vs).i p.1).mp ⟨p, hp, rfl⟩
  obtain ⟨q, hq, e⟩ := List.mem_map.mp hk
  rcases grp_mem _ [] hq with h | ⟨y, hy, _⟩
  · obtain ⟨x, hx, e2⟩ := List.mem_map.mp h
    rw [← e, ← e2]
    exact gzz_hk hr hc (hv x hx)
  · exact absurd hy List.not_mem_nil
theorem cgl_crow {S : Nat → List Nat} {r : ru_T} (k : Nat) : (∃ p ∈ cgl r.ts (hsol S r), cf (mkp r.ts) p = k) ↔ k ∈ crow S r := by
  have hR := cgl_R r.ts (hsol S r)
  unfold crow
  rw [List.mem_map]
  constructor
  · rintro ⟨⟨a, b⟩, h1, h2⟩
    obtain ⟨n, h3, h4⟩ := (gr_R_mem hR a b).mp h1
    exact ⟨(a, n), h3, by rw [← h2, h4]; rfl⟩
  · rintro ⟨⟨a, n⟩, h1, h2⟩
    exact ⟨(a, (n : Int)), (gr_R_mem hR a n).mpr ⟨n, h1, rfl⟩, h2⟩
theorem ks_map {T : Nat → al_T} {h mk : Nat} {l : al_T} (v k : Nat) : k ∈ ks (tset T h (l.map (fun p => (cf mk p, 1)))) v ↔ (v ≠ h ∧ k ∈ ks T v) ∨ (v = h ∧ ∃ p ∈ l, cf mk p = k) := by
  unfold ks tset
  by_cases hv : v = h
  · rw [if_pos hv, List.map_map, List.mem_map]
    exact ⟨fun z => Or.inr ⟨hv, z⟩, fun z => z.elim (fun y => absurd hv y.1) (fun y => y.2)⟩
  · rw [if_neg hv]
    exact ⟨fun z => Or.inl ⟨hv, z⟩, fun z => z.elim (fun y => y.2) (fun y => absurd y.1 hv)⟩
/-- the rows of a counting rule come in -/
theorem Iv_cnt {G : pg_T} (hok : pg_ok G) {L : Nat} {T0 : Nat → al_T} {g : gs_T} (hI : IV (lyo G L T0) g) (hfl : g.fl = false) {r : ru_T} (hmem : r ∈ G.rs) (hc : r.c = true) (hL : G.lay r.h = L) (hT : g.T r.h = []) (hlow : hsol (ks g.T) r = hsol (ks T0) r) (hv : ∀ x ∈ hsol (ks g.T) r, ev_ok x) (h40 : (cgl r.ts (hsol (ks g.T) r)).length ≤ 40) (h999 : ∀ p ∈ cgl r.ts (hsol (ks g.T) r), p.2 ≤ 999) (hs : al_s ((cgl r.ts (hsol (ks g.T) r)).map (fun p => (cf (mkp r.ts) p, (1 : Int))))) : IV (lyo G L T0) ⟨tset g.T r.h ((cgl r.ts (hsol (ks g.T) r)).map (fun p => (cf (mkp r.ts) p, 1))), g.q ++ (cgl r.ts (hsol (ks g.T) r)).map (fun p => (r.h, cf (mkp r.ts) p)), false⟩ := by
  obtain ⟨hr, hly, hn, hA, _⟩ := hok.ru r hmem
  have hA := hA hc
  have hh := hr.hh
  have hmk := (mkp_eq hr hc).1
  have hgz := cgl_gz hr hc hv
  have hpos := cgl_pos r.ts (hsol (ks g.T) r)
  have htv : ∀ v, tset g.T r.h ((cgl r.ts (hsol (ks g.T) r)).map (fun p => (cf (mkp r.ts) p, (1 : Int)))) v = if v = r.h then (cgl r.ts (hsol (ks g.T) r)).map (fun p => (cf (mkp r.ts) p, (1 : Int))) else g.T v := fun v => rfl
  refine ⟨fun v hv => ?_, fun v => ?_, fun v hv => ?_, fun v hv p hp => ?_, fun _ v hv => ?_, fun v hv => ?_, fun v hv hl p hp => ?_, fun S hS v k hk => ?_, fun _ => ⟨fun v k hv => ?_, ?_⟩, fun p hp => ?_, fun z => by cases z⟩
  · show tset _ _ _ v = []
    rw [htv, if_neg (by omega)]; exact hI.t8 v hv
  · show al_s (tset _ _ _ v) ∧ al_k (tset _ _ _ v)
    rw [htv]
    split
    · refine ⟨hs, fun p hp => ?_⟩
      obtain ⟨p', hp', rfl⟩ := List.mem_map.mp hp
      exact (cf_lt hmk (hgz p' hp') (hpos p' hp') (h999 p' hp')).1
    · exact hI.srt v
  · show tset _ _ _ v = _
    rw [htv, if_neg (fun z => hv (by rw [z]; exact hL))]; exact hI.lo v hv
  · change p ∈ tset _ _ _ v at hp
    rw [htv] at hp
    split at hp
    · rename_i hv2
      obtain ⟨p', hp', rfl⟩ := List.mem_map.mp hp
      have := cf_lt hmk (hgz p' hp') (hpos p' hp') (h999 p' hp')
      rw [hA, ← hv2] at this
      exact this
    · exact hI.kr v hv p hp
  · show (tset _ _ _ v).length ≤ 40
    rw [htv]
    split
    · rw [List.length_map]; exact h40
    · exact hI.c40 hfl v hv
  · show (tset _ _ _ v).length ≤ 41
    rw [htv]
    split
    · rw [List.length_map]; omega
    · exact hI.m41 v hv
  · change p ∈ tset _ _ _ v at hp
    rw [htv] at hp
    split at hp
    · obtain ⟨p', hp', rfl⟩ := List.mem_map.mp hp
      rfl
    · exact hI.one v hv hl p hp
  · rcases (ks_map v k).mp hk with ⟨_, h⟩ | ⟨h1, h⟩
    · exact hI.snd S hS v k h
    · rw [h1]
      have hk := (cgl_crow k).mp h
      refine hS.cr r hmem hc hL k ?_
      unfold crow hd at hk ⊢
      rw [hlow] at hk
      exact hk
  · rw [ks_map, (hI.qq hfl).1 v k hv]
    show _ ↔ (v, k) ∈ g.q ++ _
    rw [List.mem_append, List.mem_map]
    constructor
    · rintro (⟨_, h⟩ | ⟨h1, p, hp, e⟩)
      · exact Or.inl h
      · exact Or.inr ⟨p, hp, by rw [h1, e]⟩
    · rintro (h | ⟨p, hp, e⟩)
      · refine Or.inl ⟨fun z => ?_, h⟩
        have := ((hI.qq hfl).1 v k hv).mpr h
        rw [z] at this
        unfold ks at this
        rw [hT] at this
        exact absurd this List.not_mem_nil
      · cases e
        exact Or.inr ⟨rfl, p, hp, rfl⟩
  · show (g.q ++ _).length ≤ tot (tset _ _ _)
    rw [List.length_append, tot_set2 hh hT, List.length_map, List.length_map]
    have := (hI.qq hfl).2
    omega
  · rcases List.mem_append.mp hp with h | h
    · exact hI.qv p h
    · obtain ⟨p', _, rfl⟩ := List.mem_map.mp h
      exact ⟨hh, hL⟩
