theorem S_ok_T {T : Nat → al_T} (h : ∀ v, al_k (T v)) : S_ok (ks T) := fun v key hk => by
  obtain ⟨p, hp, rfl⟩ := List.mem_map.mp hk
  exact h v p hp
theorem close_full {X : ex_T} {σ : z_S} {g : gs_T} (hS : es X 0 g σ) (hf : g.fl = true) {ro h n hb : Nat} {ts : tm_T} {c : Bool} (h110 : z_R σ 110 X.a = some ro) (hH : hd_L σ ro h ts c n hb) (P : z_S → Prop) (hP : P σ) : kp_En_closeCounts X.a σ P := by
  intro X18 h18
  have hA := hH.at'
  obtain ⟨r1, r2⟩ : z_I σ 3 hb = nI h ∧ h < 8 := hA.rl (Nat.zero_le 1)
  refine ⟨hS.en.ty, X.w, hS.hw, hS.en.ty, ro, h110, hH.ty, hb, hH.rh, hA.ty, 8, X.s, hS.rw.1.tw, by rw [r1]; exact vp_in_nI r2 (by decide), X.ra h, by rw [r1, cl_nI (by omega)]; exact hS.rw.1.qw _ r2, ?_⟩
  refine h18 _ _ _ ⟨(hS.rw.1.ro h r2).1, fun _ => hP, fun _ => ⟨hS.en.ty, fun _ => hP, fun q => ?_⟩⟩
  rw [hS.f, hf] at q
  exact absurd q (by decide)
theorem pOk0 {G : pg_T} {L : Nat} {T0 : Nat → al_T} {r : ru_T} {as : List lit_T} (hr : ru_ok r) (ha : arr r as) (hmem : r ∈ G.rs) (hc : r.c = false) (hL : G.lay r.h = L) {g : gs_T} (hI : IV (lyo G L T0) g) {e : ev_T} (he : ev_ok e) (hd' : ∀ k, e k ≠ none → ∃ l ∈ ps_of r.ls, vin3 l.2.2 k) : pOk (lyo G L T0) r as 0 e g := by
  have h0 := fOk0 hr ha (e := e)
  refine ⟨h0.t, h0.b, fun S hS x hx => ?_, hI⟩
  rw [List.drop_zero] at hx
  have hxo : ev_ok x := sols_ok hS.ok he hx
  have := ((arr_from hr ha hxo hd').mp hx).2
  exact hS.cl r hmem hc hL _ (List.mem_map.mpr ⟨x, (hsol_mem hr hxo).mpr this, rfl⟩)
theorem p_go {X : ex_T} {D : pa_T} {G : pg_T} (hok : pg_ok G) {L : Nat} {T0 : Nat → al_T} {σ0 σ : z_S} {g : gs_T} {i : Nat} (hi : i < G.rs.length) (hp : pr_L σ D G) (hS : lS X D G L T0 σ0 g σ) (h110 : z_R σ 110 X.a = some (D.ro i)) (hL : G.lay (G.rs.getD i d_ru).h = L) (hc : (G.rs.getD i d_ru).c = false) {e : ev_T} (he : eV X σ e) (hOk : pOk (lyo G L T0) (G.rs.getD i d_ru) (G.as i) 0 e g) (P : z_S → Prop)
    (hP : ∀ g' σ', lS X D G L T0 σ0 g' σ' → z_R σ' 110 X.a = some (D.ro i) → pPo (lyo G L T0) (G.rs.getD i d_ru) (G.as i) 0 e g g' → P σ') : kp_En_solve 8 X.a 0 σ P := by
  obtain ⟨q1, hB, hH, ha⟩ := hp.ru i hi
  obtain ⟨hr, hly, _, _, _⟩ := hok.ru _ (rs_mem hi)
  rw [hc] at hH
  have hsv := p_sv (X := X) (Y := lyo G L T0) (σ0 := σ) hr hc hL hly ha hB hH rfl
  refine en_solve hsv 8 0 g σ e P (by have := hB.l5; omega) (Nat.zero_le _) ⟨hS.s, ef_rf X σ, fun _ => rfl, h110, hS.i⟩ hOk he (fun g' σ' hJ' _ hPo => ?_)
  refine hP g' σ' ⟨hJ'.1, ef_tr hS.f hJ'.2.1, by rw [hJ'.2.2.1]; exact hS.p, hJ'.2.2.2.2⟩ (by rw [hJ'.2.2.1]; exact h110) hPo
theorem en_seed {X : ex_T} {D : pa_T} {G : pg_T} (hok : pg_ok G) {L : Nat} (hL8 : L ≤ 8) {T0 : Nat → al_T} (hT0 : ∀ v, al_k (T0 v)) {σ0 : z_S} (hp0 : pr_L σ0 D G) {g0 : gs_T} {σ1 : z_S} (hS1 : lS X D G L T0 σ0 g0 σ1) (hsd : sdd G L T0 g0 0) (P : z_S → Prop)
    (h1 : ∀ g σ, lS X D G L T0 σ0 g σ → (g.fl = false → sdd G L T0 g G.rs.length) → P σ) (h2 : ∀ σ, lF X D G L T0 σ0 σ → P σ) : kp_En_seed X.a (nI L) σ1 P := by
  intro X2 hX
  have hn16 := hp0.n16
  have full : ∀ v σ, lF X D G L T0 σ0 σ → X2 v σ := by
    intro v σ hF
    obtain ⟨g, hg, hgf, _⟩ := hF.s
    have hp := pr_L_ef hp0 hF.f
    refine hX _ _ ⟨hg.en.ty, D.p, hF.p, hp.ty, fun _ => h2 σ hF, fun _ => ⟨hg.en.ty, fun _ => h2 σ hF, fun q => ?_⟩⟩
    rw [hg.f, hgf] at q
    exact absurd q (by decide)
  have main : ∀ m i g σ, i + m = G.rs.length → lS X D G L T0 σ0 g σ → (g.fl = false → sdd G L T0 g i) → X2 (nI i) σ := by
    intro m
    induction m with
    | zero =>
      intro i g σ hi hS hsd
      have hp := pr_L_ef hp0 hS.f
      refine hX _ _ ⟨hS.s.en.ty, D.p, hS.p, hp.ty, ?_⟩
      rw [hp.nn]
      exact ⟨fun _ => h1 g σ hS (by rw [← show i = G.rs.length by omega]; exact hsd), fun q => absurd (nI_le (by omega) (by omega)) q⟩
    | succ m ih =>
      intro i g σ hi hS hsd
      have hil : i < G.rs.length := by omega
      have hp := pr_L_ef hp0 hS.f
      obtain ⟨q1, hB, hH, ha⟩ := hp.ru i hil
      obtain ⟨hr, hly, hhn, hmkA, hlit⟩ := hok.ru _ (rs_mem hil)
      have hh := hr.hh
      refine hX _ _ ⟨hS.s.en.ty, D.p, hS.p, hp.ty, ?_⟩
      rw [hp.nn]
      refine ⟨fun q => absurd q (nI_ge (by omega) (by omega)), fun _ => ⟨hS.s.en.ty, fun q => ?_, fun q => ?_⟩⟩
      · refine h1 g σ hS (fun z => ?_)
        rw [hS.s.f, z] at q
        exact absurd rfl q
      · have hfl : g.fl = false := by
          cases hb : g.fl with
          | false => rfl
          | true => rw [hS.s.f, hb] at q; exact absurd q (by decide)
        have hsd := hsd hfl
        refine ⟨hS.s.en.ty, D.p, hS.p, hp.ty, D.pa, hp.rr, 16, 7, hp.tr, vp_in_nI (by omega) (by decide), D.ro i, by rw [cl_nI (by omega)]; exact q1, hS.s.en.ty, fun σ30 e30 => ?_⟩
        have hS30 : lS X D G L T0 σ0 g σ30 := by
          rw [e30]
          exact ⟨es_sR hS.s _, ef_tr hS.f (ef_sR (by omega) (by omega)), by rw [z_R_sR, if_neg (fun q => absurd q.1 (by decide))]; exact hS.p, hS.i⟩
        have h110 : z_R σ30 110 X.a = some (D.ro i) := by rw [e30, z_R_sR, if_pos ⟨rfl, rfl⟩]
        have hp30 := pr_L_ef hp0 hS30.f
        obtain ⟨_, hB30, hH30, _⟩ := hp30.ru i hil
        have r1 : z_I σ30 3 (D.hb i) = nI (G.rs.getD i d_ru).h := (hH30.at'.rl (Nat.zero_le 1)).1
        refine ⟨hS30.s.en.ty, D.p, hS30.p, hp30.ty, D.la, hp30.lr, hS30.s.en.ty, D.ro i, h110, hH30.ty, D.hb i, hH30.rh, hH30.at'.ty, 8, 10, hp30.lt, by rw [r1]; exact vp_in_nI hh (by decide), ?_⟩
        have hl8 := hok.l8 (G.rs.getD i d_ru).h
        rw [r1, cl_nI (n := (G.rs.getD i d_ru).h) (by omega), hp30.ly _ hh, nI_eq (by omega) (by omega)]
        refine ⟨fun hne => ?_, fun hLe => ⟨hS30.s.en.ty, en_usesLayer hS30.s.en hp30 hok hil hS30.p h110 hL8 _ (fun hu => ?_) (fun hu => ?_)⟩⟩
        · rw [nI_1]
          refine ih (i + 1) g σ30 (by omega) hS30 (fun _ => ⟨fun j h1 h2 h3 => ?_, fun j h1 h2 h3 => ?_, fun j h1 h2 h3 => ?_, fun j h1 h2 h3 => hsd.z j (by omega) h2 h3⟩)
          · by_cases z : j = i
            · rw [z] at h3; exact absurd h3 hne
            · exact hsd.p j (by omega) h2 h3
          · by_cases z : j = i
            · rw [z] at h3; exact absurd h3 hne
            · exact hsd.c j (by omega) h2 h3
          · by_cases z : j = i
            · rw [z] at h3; exact absurd h3 hne
            · exact hsd.v j (by omega) h2 h3
        · refine ⟨fun _ => ?_, fun q => absurd q (by decide)⟩
          rw [nI_1]
          refine ih (i + 1) g σ30 (by omega) hS30 (fun _ => ⟨fun j h1 h2 h3 h4 => ?_, fun j h1 h2 h3 h4 => ?_, fun j h1 h2 h3 h4 => ?_, fun j h1 h2 h3 => hsd.z j (by omega) h2 h3⟩)
          · by_cases z : j = i
            · rw [z] at h4; exact absurd hu h4
            · exact hsd.p j (by omega) h2 h3 h4
          · by_cases z : j = i
            · rw [z] at h3 h4; exact absurd hu (cnt_low hok hil ha h3 h4)
            · exact hsd.c j (by omega) h2 h3 h4
          · by_cases z : j = i
            · rw [z] at h3 h4; exact absurd hu (cnt_low hok hil ha h3 h4)
            · exact hsd.v j (by omega) h2 h3 h4
        · refine ⟨fun q => absurd rfl q, fun _ => ⟨hS30.s.en.ty, fun σ65 e65 => ?_⟩⟩
          have hS65 : lS X D G L T0 σ0 g σ65 := by
            rw [e65]
            exact ⟨es_105 hS30.s _, ef_tr hS30.f (ef_sI (by omega) (by omega)), hS30.p, hS30.i⟩
          have h110' : z_R σ65 110 X.a = some (D.ro i) := by rw [e65]; exact h110
          have h105 : z_I σ65 105 X.a = 0 := by rw [e65, z_I_sI, if_pos ⟨rfl, rfl⟩]
          have hp65 := pr_L_ef hp0 hS65.f
          obtain ⟨_, hB65, hH65, _⟩ := hp65.ru i hil
          have hlow := low_T hok hS.i hil ha hLe hu
          have hlow' : ∀ l ∈ (G.rs.getD i d_ru).ls, l.1 ≤ 1 → ks g.T l.2.1 = ks T0 l.2.1 := fun l hl h1 => by unfold ks; rw [hlow l hl h1]
          refine ⟨hS65.s.en.ty, ?_⟩
          cases hc : (G.rs.getD i d_ru).c with
          | false =>
            refine p_go hok hil hp65 hS65 h110' hLe hc (eV0 h105) (pOk0 hr ha (rs_mem hil) hc hLe hS.i ev0_ok (fun k hk => absurd rfl hk)) _ (fun g' σ' hS' hr' hPo => ?_)
            have hp' := pr_L_ef hp0 hS'.f
            obtain ⟨_, _, hH', _⟩ := hp'.ru i hil
            refine ⟨hS'.s.en.ty, D.ro i, hr', hH'.ty, fun _ => ?_, fun q => absurd (by rw [hH'.ct, hc]; rfl) q⟩
            rw [nI_1]
            refine ih (i + 1) g' σ' (by omega) hS' (fun hfl' => ⟨fun j h1 h2 h3 h4 h5 k hk => ?_, fun j h1 h2 h3 h4 => ?_, fun j h1 h2 h3 h4 => hsd.v j (Nat.lt_of_le_of_ne (by omega) (fun z => (by rw [z, hc] at h4; cases h4))) h2 h3 h4, fun j h1 h2 h3 h4 => ?_⟩)
            · by_cases z : j = i
              · rw [z] at hk ⊢
                obtain ⟨x, hx, rfl⟩ := List.mem_map.mp hk
                rcases hPo.2.2 with hf | hf
                · rw [hfl'] at hf; cases hf
                · rw [← hsol_congr hlow', ← arr_sols ha] at hx
                  rw [List.drop_zero] at hf
                  exact hf x hx
              · exact hPo.1.s _ _ (hsd.p j (by omega) h2 h3 h4 h5 k hk)
            · have hne : j ≠ i := fun z => by rw [z, hc] at h4; cases h4
              have := hPo.1.o _ (hok.un j i h2 hil hne h4)
              intro k
              unfold ks
              rw [this]
              exact hsd.c j (by omega) h2 h3 h4 k
            · have hne : j ≠ i := by omega
              rw [hPo.1.o _ (hok.un j i h2 hil hne h4)]
              exact hsd.z j (by omega) h2 h3 h4
          | true =>
            have hTz := hsd.z i (Nat.le_refl _) hil hLe hc
            rw [hc] at hH65
            have hmk := hmkA hc
            have h40 := hS.i.c40 hfl
            have hSes : es X 0 ⟨g.T, g.q, false⟩ σ65 := by rw [← hfl]; exact hS65.s
            refine c_solve (A := G.A) hr hc hly ha hB65 hH65 rfl hS.i.t8 (fun v => (hS.i.srt v).2) hTz hS.i.kr hSes h110' h105 _ (fun gv σ70 hJ hvs hov => ?_)
            have hef70 : ef X σ0 σ70 := ef_tr hS65.f hJ.f
            have hp70 := pr_L_ef hp0 hef70
            obtain ⟨_, _, hH70, _⟩ := hp70.ru i hil
            rw [hc] at hH70
            have h110'' : z_R σ70 110 X.a = some (D.ro i) := by rw [hJ.rr]; exact h110'
            have h109'' : z_R σ70 109 X.a = some D.p := by rw [hJ.rr]; exact hS65.p
            refine ⟨hJ.s.en.ty, D.ro i, h110'', hH70.ty, fun q => ?_, fun _ => ⟨hJ.s.en.ty, ?_⟩⟩
            · rw [hH70.ct] at q
              exact absurd q (by decide)
            · cases hgf : gv.fl with
              | true =>
                refine close_full hJ.s hgf h110'' hH70 _ (full _ _ ⟨⟨_, hJ.s, hgf, fun v hv => (by show tset _ _ _ v = _; unfold tset; rw [if_neg (fun z => hv (by rw [z]; exact hLe))]; exact hS.i.lo v hv)⟩, hef70, h109'', G.rs.getD i d_ru, rs_mem hil, hc, hLe, ?_⟩)
                have := hov hgf
                rw [hd_congr hlow'] at this
                exact this
              | false =>
                have hvs := hvs hgf
                obtain ⟨n1, n2⟩ := hJ.n hgf
                have hok' := hJ.ok
                rw [hvs] at n1 n2 hok'
                have hJs := hJ.s
                rw [hgf, hvs] at hJs
                have hgz := cgl_gz hr hc hok'
                have hpos := cgl_pos (G.rs.getD i d_ru).ts (hsol (ks g.T) (G.rs.getD i d_ru))
                rw [← hmk] at hH70
                refine en_close hJs h110'' hH70 n1 (fun p hp => ⟨hgz p hp, hpos p hp, n2 p hp⟩) (Nat.le_trans (hS.i.qq hfl).2 (tot_le2 h40 hh hTz)) hS.s.cp _ (fun σ84 hs84 hf84 hR84 => ?_)
                rw [nI_1]
                have hsrt : al_s ((cgl (G.rs.getD i d_ru).ts (hsol (ks g.T) (G.rs.getD i d_ru))).map (fun p => (cf (mkp (G.rs.getD i d_ru).ts) p, (1 : Int)))) := by
                  have := (hs84.rw.2 _ hh).2.2.2.1
                  have e : ∀ l, tset g.T (G.rs.getD i d_ru).h l (G.rs.getD i d_ru).h = l := fun l => by unfold tset; rw [if_pos rfl]
                  have e2 := e ((cgl (G.rs.getD i d_ru).ts (hsol (ks g.T) (G.rs.getD i d_ru))).map (fun p => (cf (mkp (G.rs.getD i d_ru).ts) p, (1 : Int))))
                  rw [← e2]
                  exact this
                have hIv := Iv_cnt hok hS.i hfl (rs_mem hil) hc hLe hTz (hsol_congr hlow') hok' n1 n2 hsrt
                refine ih (i + 1) _ σ84 (by omega) ⟨hs84, ef_tr hef70 hf84, by rw [hR84]; exact h109'', hIv⟩ (fun _ => ⟨fun j h1 h2 h3 h4 h5 k hk => ?_, fun j h1 h2 h3 h4 k => ?_, fun j h1 h2 h3 h4 => ?_, fun j h1 h2 h3 h4 => ?_⟩)
                · have hne : j ≠ i := fun z => by rw [z, hc] at h5; cases h5
                  exact (ks_map _ _).mpr (Or.inl ⟨fun z => hok.un i j hil h2 (fun y => hne y.symm) hc z.symm, hsd.p j (by omega) h2 h3 h4 h5 k hk⟩)
                · by_cases z : j = i
                  · rw [z]
                    have e1 : (∃ p ∈ cgl (G.rs.getD i d_ru).ts (hsol (ks g.T) (G.rs.getD i d_ru)), cf (mkp (G.rs.getD i d_ru).ts) p = k) ↔ k ∈ crow (ks T0) (G.rs.getD i d_ru) := by
                      rw [cgl_crow]
                      unfold crow
                      rw [hd_congr hlow']
                    refine Iff.trans (ks_map _ _) ⟨fun y => y.elim (fun w => absurd rfl w.1) (fun w => e1.mp w.2), fun y => Or.inr ⟨rfl, e1.mpr y⟩⟩
                  · have hne := hok.un j i h2 hil z h4
                    refine Iff.trans (ks_map _ _) (Iff.trans ⟨fun y => y.elim (fun w => w.2) (fun w => absurd w.1 hne), fun y => Or.inl ⟨hne, y⟩⟩ (hsd.c j (by omega) h2 h3 h4 k))
                · by_cases z : j = i
                  · rw [z, ← hd_congr hlow']
                    intro ho
                    rcases ovf_al.mpr ho with h | ⟨p, hp, h⟩
                    · omega
                    · have := n2 p hp
                      omega
                  · exact hsd.v j (by omega) h2 h3 h4
                · have hne := hok.un j i h2 hil (by omega) h4
                  show tset _ _ _ _ = []
                  unfold tset
                  rw [if_neg hne]
                  exact hsd.z j (by omega) h2 h3 h4
  exact main G.rs.length 0 g0 σ1 (by omega) hS1 (fun _ => hsd)
