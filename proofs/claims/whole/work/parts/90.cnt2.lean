/-! THE SEARCH OF A COUNTING RULE -/
def cJ (X : ex_T) (T1 : Nat → al_T) (q0 : List (Nat × Nat)) (σ0 : z_S) (ro : Nat) (r : ru_T) (g : gv_T) (σ : z_S) : Prop := (es X 0 ⟨tset T1 r.h (cgl r.ts g.vs), q0, g.fl⟩ σ) ∧ (ef X σ0 σ) ∧ (∀ f, z_R σ f X.a = z_R σ0 f X.a) ∧ (z_R σ0 110 X.a = some ro) ∧ (∀ x ∈ g.vs, ev_ok x) ∧ (g.fl = false → (cgl r.ts g.vs).length ≤ 40 ∧ ∀ p ∈ cgl r.ts g.vs, p.2 ≤ 999) ∧ (g.fl = true → 40 < (cgl r.ts g.vs).length ∨ ∃ p ∈ cgl r.ts g.vs, 999 < p.2)
theorem cJ.s {X : ex_T} {T1 : Nat → al_T} {q0 : List (Nat × Nat)} {σ0 : z_S} {ro : Nat} {r : ru_T} {g : gv_T} {σ : z_S} (h' : cJ X T1 q0 σ0 ro r g σ) : es X 0 ⟨tset T1 r.h (cgl r.ts g.vs), q0, g.fl⟩ σ := h'.1
theorem cJ.f {X : ex_T} {T1 : Nat → al_T} {q0 : List (Nat × Nat)} {σ0 : z_S} {ro : Nat} {r : ru_T} {g : gv_T} {σ : z_S} (h' : cJ X T1 q0 σ0 ro r g σ) : ef X σ0 σ := h'.2.1
theorem cJ.rr {X : ex_T} {T1 : Nat → al_T} {q0 : List (Nat × Nat)} {σ0 : z_S} {ro : Nat} {r : ru_T} {g : gv_T} {σ : z_S} (h' : cJ X T1 q0 σ0 ro r g σ) : ∀ f, z_R σ f X.a = z_R σ0 f X.a := h'.2.2.1
theorem cJ.r0 {X : ex_T} {T1 : Nat → al_T} {q0 : List (Nat × Nat)} {σ0 : z_S} {ro : Nat} {r : ru_T} {g : gv_T} {σ : z_S} (h' : cJ X T1 q0 σ0 ro r g σ) : z_R σ0 110 X.a = some ro := h'.2.2.2.1
theorem cJ.ok {X : ex_T} {T1 : Nat → al_T} {q0 : List (Nat × Nat)} {σ0 : z_S} {ro : Nat} {r : ru_T} {g : gv_T} {σ : z_S} (h' : cJ X T1 q0 σ0 ro r g σ) : ∀ x ∈ g.vs, ev_ok x := h'.2.2.2.2.1
theorem cJ.n {X : ex_T} {T1 : Nat → al_T} {q0 : List (Nat × Nat)} {σ0 : z_S} {ro : Nat} {r : ru_T} {g : gv_T} {σ : z_S} (h' : cJ X T1 q0 σ0 ro r g σ) : g.fl = false → (cgl r.ts g.vs).length ≤ 40 ∧ ∀ p ∈ cgl r.ts g.vs, p.2 ≤ 999 := h'.2.2.2.2.2.1
theorem cJ.o {X : ex_T} {T1 : Nat → al_T} {q0 : List (Nat × Nat)} {σ0 : z_S} {ro : Nat} {r : ru_T} {g : gv_T} {σ : z_S} (h' : cJ X T1 q0 σ0 ro r g σ) : g.fl = true → 40 < (cgl r.ts g.vs).length ∨ ∃ p ∈ cgl r.ts g.vs, 999 < p.2 := h'.2.2.2.2.2.2
theorem eV0 {X : ex_T} {σ : z_S} (h : z_I σ 105 X.a = 0) : eV X σ ev0 := ⟨ev0_ok, fun _ _ => rfl, fun k _ => by rw [h, bi_0]; rfl, fun k v q => by cases q⟩
theorem fOk0 {r : ru_T} (hr : ru_ok r) {as : List lit_T} (ha : arr r as) {e : ev_T} : fOk r as 0 e := by
  refine ⟨?_, fun k hk => ?_⟩
  · rw [List.drop_zero]
    exact tests_ok_mono (fun _ q => q.elim) ha.ok
  · obtain ⟨p, h1, h2⟩ := hr.hsafe k hk
    rw [← ha.ps] at h1
    exact Or.inr ⟨p, by rw [List.drop_zero]; exact (List.mem_filter.mp h1).1, ps_pos h1, h2⟩
theorem c_solve {X : ex_T} {T1 : Nat → al_T} {q0 : List (Nat × Nat)} {σ0 : z_S} {ro bb hb n : Nat} {A bo : Nat → Nat} {r : ru_T} {as : List lit_T} (hr : ru_ok r) (hc : r.c = true) {lay : Nat → Nat} (hly : ly_ok lay r) (ha : arr r as) (hB : bd_L σ0 ro as A bb bo) (hH : hd_L σ0 ro r.h r.ts true n hb) (hn : n = A r.h) (hT8 : ∀ v, 8 ≤ v → T1 v = []) (hTs : ∀ v, al_k (T1 v)) (hT0 : T1 r.h = []) (hkr : ∀ v, v < 8 → ∀ p ∈ T1 v, kar (A v) p.1) (hS : es X 0 ⟨T1, q0, false⟩ σ0) (h110 : z_R σ0 110 X.a = some ro) (h105 : z_I σ0 105 X.a = 0) (P : z_S → Prop)
    (hP : ∀ g σ, cJ X T1 q0 σ0 ro r g σ → (g.fl = false → g.vs = hsol (ks T1) r) → (g.fl = true → ovf (grp (hd (ks T1) r))) → P σ) : kp_En_solve 8 X.a 0 σ0 P := by
  have hne : ∀ l ∈ as, l.1 ≤ 1 → l.2.1 ≠ r.h := fun l hl h1 e => by
    have := hly l ((ha.ts l).mp hl)
    by_cases z : l.1 = 0
    · have := (this.1 z).2 hc
      rw [e] at this; omega
    · have := this.2 (by omega)
      rw [e] at this; omega
  have hT' : tset T1 r.h [] = T1 := by
    funext v
    unfold tset
    split
    · rename_i h; rw [h, hT0]
    · rfl
  have hsv := f_sv (X := X) (r := r) (T0 := T1) (J := cJ X T1 q0 σ0 ro r) (T := fun g => tset T1 r.h (cgl r.ts g.vs)) (ALL := sols (ks T1) as ev0) hB (fun g σ hJ => ⟨hJ.s.en, hJ.s.rw, hJ.f, by rw [hJ.rr]; exact hJ.r0, hJ.s.hw, hJ.s.f⟩) (fun g σ hJ => ⟨hJ.s.cp, fun v hv p hp => ?_⟩) (fun g σ σ' hJ hv => ⟨es_vf hJ.s hv, ef_tr hJ.f (vf_ef hv), fun f => by rw [vf_R hv]; exact hJ.rr f, hJ.r0, hJ.ok, hJ.n, hJ.o⟩) (fun g l hl h1 => ?_) (fun g σ e P hJ he h0 => ?_) (fun g σ e P hJ hfl _ hbn he hP => ?_)
  · have hS0 : cJ X T1 q0 σ0 ro r ⟨[], false⟩ σ0 := by
      refine ⟨?_, ef_rf X σ0, fun _ => rfl, h110, fun x hx => absurd hx List.not_mem_nil, fun _ => ⟨Nat.zero_le 40, fun p hp => absurd (show p ∈ ([] : al_T) from hp) List.not_mem_nil⟩, fun z => by cases z⟩
      show es X 0 ⟨tset T1 r.h [], q0, false⟩ σ0
      rw [hT']; exact hS
    refine en_solve hsv 8 0 ⟨[], false⟩ σ0 ev0 P (by have := hB.l5; omega) (Nat.zero_le _) hS0 ⟨fOk0 hr ha, fun _ => ⟨[], by rw [List.append_nil, List.drop_zero]; rfl⟩⟩ (eV0 h105) (fun g' σ' hJ' _ hPo => ?_)
    obtain ⟨us, h1, h2, h3, _⟩ := hPo
    rw [List.drop_zero, arr_sols ha] at h2 h3
    have h1 : g'.vs = us := h1
    refine hP g' σ' hJ' (fun z => by rw [h1]; exact h3 z) (fun z => ?_)
    have := ovf_al.mp (hJ'.o z)
    rw [h1] at this
    exact ovf_pre (h2.map _) this
  · change p ∈ tset _ _ _ v at hp
    unfold tset at hp
    split at hp
    · rename_i hv2
      have hk := ((cgl_R r.ts g.vs).i p.1).mp ⟨p, hp, rfl⟩
      obtain ⟨q, hq, e⟩ := List.mem_map.mp hk
      rcases grp_mem _ [] hq with h | ⟨y, hy, _⟩
      · obtain ⟨x, hx, e2⟩ := List.mem_map.mp h
        rw [hv2, ← hn, ← e, ← e2]
        exact kar_hk (hJ.ok x hx) hr.hts hH.at'.rs
      · exact absurd hy List.not_mem_nil
    · exact hkr v hv p hp
  · show tset _ _ _ l.2.1 = _
    unfold tset
    rw [if_neg (hne l hl h1)]
  · exact en_isNN hJ.s (by rw [hJ.rr]; exact hJ.r0) (hd_L_ef hH hJ.f) he (by decide) P (fun _ => h0) (fun _ z => by cases z)
  · have hh := hr.hh
    have h40 := (hJ.n hfl).1
    have hR := cgl_R r.ts g.vs
    have hTh : tset T1 r.h (cgl r.ts g.vs) r.h = cgl r.ts g.vs := by unfold tset; rw [if_pos rfl]
    have hTT : ∀ l, tset (tset T1 r.h (cgl r.ts g.vs)) r.h l = tset T1 r.h l := fun l => by
      funext v
      unfold tset
      split <;> rfl
    refine en_found0 hJ.s (by rw [hJ.rr]; exact hJ.r0) (hd_L_ef hH hJ.f) he hbn (by show (tset _ _ _ r.h).length < 100; rw [hTh]; omega) P (fun σ' hrw' hef' hI108 hR' hA' h108 => ?_)
    rw [if_pos rfl]
    have e1 : (gs_T.T ⟨tset T1 r.h (cgl r.ts g.vs), q0, g.fl⟩) r.h = cgl r.ts g.vs := hTh
    rw [e1] at h108 hrw'
    have hrw' : rw_L X σ' (tset (tset T1 r.h (cgl r.ts g.vs)) r.h (al_add (cgl r.ts g.vs) (hk3 e r.ts) 1)) := hrw'
    rw [hTT, ← cgl_snoc] at hrw'
    have hmem : ∀ p ∈ al_add (cgl r.ts g.vs) (hk3 e r.ts) 1, p.1 ≠ hk3 e r.ts → p ∈ cgl r.ts g.vs := fun p hp hne => (al_add_mem hp).resolve_right hne
    have hval : ∀ p ∈ al_add (cgl r.ts g.vs) (hk3 e r.ts) 1, p.1 = hk3 e r.ts → p.2 = al_get (cgl r.ts g.vs) (hk3 e r.ts) + 1 := fun p hp heq => by
      have h1 := al_get_mem (al_add_s hR.s) hp
      rw [al_get_add hR.s, if_pos heq] at h1
      exact h1.symm
    have hb0 : 0 ≤ al_get (cgl r.ts g.vs) (hk3 e r.ts) ∧ al_get (cgl r.ts g.vs) (hk3 e r.ts) ≤ 999 := al_get_bd (by decide) (fun p hp => ⟨cgl_pos _ _ p hp, (hJ.n hfl).2 p hp⟩)
    refine hP (decide (40 < (al_add (cgl r.ts g.vs) (hk3 e r.ts) 1).length ∨ 999 < al_get (cgl r.ts g.vs) (hk3 e r.ts) + 1)) σ' ⟨⟨en_T_ef hJ.s.en hef', hrw', by rw [hR']; exact hJ.s.hw, by rw [hI108 106 (by decide) (by decide)]; exact hJ.s.gl, h108, ?_, fun _ z => ?_⟩, ef_tr hJ.f hef', fun f => by rw [hR']; exact hJ.rr f, hJ.r0, fun x hx => ?_, fun z => ?_, fun z => ?_⟩ ⟨he.ok, he.hi, fun k hk => by rw [hI108 105 (by decide) (by decide)]; exact he.kn k hk, fun k v hkv => by rw [hA' 3 _ (by omega)]; exact he.vs k v hkv⟩
    · have hc0 : cpos T1 := hS.cp
      refine cpos_set hc0 (fun p hp => ⟨cgl_pos _ _ p hp, ?_⟩)
      rw [cgl_snoc] at hp
      by_cases hq : p.1 = hk3 e r.ts
      · have := hval p hp hq; omega
      · have := (hJ.n hfl).2 p (hmem p hp hq); omega
    · exact qu_same (hJ.s.qu rfl hfl) (hI108 104 (by decide) (by decide)) hA'
    · rcases List.mem_append.mp hx with h | h
      · exact hJ.ok x h
      · rw [List.mem_singleton.mp h]; exact he.ok
    · have z := of_decide_eq_false z
      show (cgl r.ts (g.vs ++ [e])).length ≤ 40 ∧ ∀ p ∈ cgl r.ts (g.vs ++ [e]), p.2 ≤ 999
      rw [cgl_snoc]
      refine ⟨by omega, fun p hp => ?_⟩
      by_cases hq : p.1 = hk3 e r.ts
      · have := hval p hp hq; omega
      · exact (hJ.n hfl).2 p (hmem p hp hq)
    · have z := of_decide_eq_true z
      show 40 < (cgl r.ts (g.vs ++ [e])).length ∨ ∃ p ∈ cgl r.ts (g.vs ++ [e]), 999 < p.2
      rw [cgl_snoc]
      refine z.imp id (fun z => ?_)
      obtain ⟨p, hp, hq⟩ := (al_add_in (l := cgl r.ts g.vs) (key := hk3 e r.ts) (d := 1)).mpr (Or.inr rfl)
      exact ⟨p, hp, by rw [hval p hp hq]; exact z⟩
