theorem lf_w0 {S : Nat → Prop} {P : Nat} {σ σ' : z_S} (h : wf (fun _ => False) σ σ') (hp : z_ty σ P ≠ none) : lf S P σ σ' := ⟨wf_mo h (fun _ _ z => z.elim), fun f a ha _ => h.R f a ha (fun z => z), pk_w h hp (fun z => z)⟩
/-- a new rule -/
def nR (σ0 σ : z_S) (ro hb tb bb : Nat) : Prop := (z_ty σ0 ro = none) ∧ (z_ty σ0 hb = none) ∧ (z_ty σ0 tb = none) ∧ (z_ty σ0 bb = none) ∧ (aW σ hb tb []) ∧ (∀ f, z_I σ f hb = 0) ∧ (z_ty σ ro = some (.inl 5)) ∧ (∀ f, z_I σ f ro = 0) ∧ (z_R σ 500 ro = some hb) ∧ (z_R σ 501 ro = some bb) ∧ (z_ty σ bb = some (.inr (11, 5, 14))) ∧ (wf (fun _ => False) σ0 σ)
theorem nR.f1 {σ0 σ : z_S} {ro hb tb bb : Nat} (h' : nR σ0 σ ro hb tb bb) : z_ty σ0 ro = none := h'.1
theorem nR.f2 {σ0 σ : z_S} {ro hb tb bb : Nat} (h' : nR σ0 σ ro hb tb bb) : z_ty σ0 hb = none := h'.2.1
theorem nR.f3 {σ0 σ : z_S} {ro hb tb bb : Nat} (h' : nR σ0 σ ro hb tb bb) : z_ty σ0 tb = none := h'.2.2.1
theorem nR.f4 {σ0 σ : z_S} {ro hb tb bb : Nat} (h' : nR σ0 σ ro hb tb bb) : z_ty σ0 bb = none := h'.2.2.2.1
theorem nR.a {σ0 σ : z_S} {ro hb tb bb : Nat} (h' : nR σ0 σ ro hb tb bb) : aW σ hb tb [] := h'.2.2.2.2.1
theorem nR.ah {σ0 σ : z_S} {ro hb tb bb : Nat} (h' : nR σ0 σ ro hb tb bb) : ∀ f, z_I σ f hb = 0 := h'.2.2.2.2.2.1
theorem nR.ty {σ0 σ : z_S} {ro hb tb bb : Nat} (h' : nR σ0 σ ro hb tb bb) : z_ty σ ro = some (.inl 5) := h'.2.2.2.2.2.2.1
theorem nR.i {σ0 σ : z_S} {ro hb tb bb : Nat} (h' : nR σ0 σ ro hb tb bb) : ∀ f, z_I σ f ro = 0 := h'.2.2.2.2.2.2.2.1
theorem nR.rh {σ0 σ : z_S} {ro hb tb bb : Nat} (h' : nR σ0 σ ro hb tb bb) : z_R σ 500 ro = some hb := h'.2.2.2.2.2.2.2.2.1
theorem nR.rb {σ0 σ : z_S} {ro hb tb bb : Nat} (h' : nR σ0 σ ro hb tb bb) : z_R σ 501 ro = some bb := h'.2.2.2.2.2.2.2.2.2.1
theorem nR.tb {σ0 σ : z_S} {ro hb tb bb : Nat} (h' : nR σ0 σ ro hb tb bb) : z_ty σ bb = some (.inr (11, 5, 14)) := h'.2.2.2.2.2.2.2.2.2.2.1
theorem nR.w {σ0 σ : z_S} {ro hb tb bb : Nat} (h' : nR σ0 σ ro hb tb bb) : wf (fun _ => False) σ0 σ := h'.2.2.2.2.2.2.2.2.2.2.2
theorem cl_newrule {σ0 σ : z_S} {ro : Nat} (hr : z_ty σ0 ro = none) (e : σ = z_new σ0 ro 5) (P : z_S → Prop) (hP : ∀ hb tb bb σ', nR σ0 σ' ro hb tb bb → P σ') : kp_Ru_init ro σ P := by
  intro hb hhb σ1 e1
  have w0 : wf (fun _ => False) σ0 σ := by rw [e]; exact wf_new hr
  have ex : ∀ {a}, z_ty σ0 a ≠ none → z_ty σ a ≠ none := fun {a} ha => by rw [w0.ty a ha]; exact ha
  have fr : ∀ {a}, z_ty σ a = none → z_ty σ0 a = none := fun {a} ha => Classical.byContradiction (fun hn => ex hn ha)
  have tro : z_ty σ ro = some (.inl 5) := by rw [e, z_ty_new, if_pos rfl]
  refine cl_atom hhb e1 _ (fun tb σ2 htb hne ha hI w2 => ?_)
  have tro2 : z_ty σ2 ro = some (.inl 5) := by rw [w2.ty _ (nn_s tro)]; exact tro
  have hbro : ro ≠ hb := fun z => by rw [← z, tro] at hhb; cases hhb
  refine ⟨tro2, fun σ3 e3 bb hbb σ4 e4 => ?_⟩
  have ty3 : ∀ a, z_ty σ3 a = z_ty σ2 a := fun a => by rw [e3]; rfl
  have hbb2 : z_ty σ2 bb = none := by rw [← ty3]; exact hbb
  have nbb : ∀ a, z_ty σ2 a ≠ none → a ≠ bb := fun a ha z => ha (by rw [z]; exact hbb2)
  have bro : ro ≠ bb := nbb _ (nn_s tro2)
  have bhb : hb ≠ bb := nbb _ (nn_s ha.ty)
  have btb : tb ≠ bb := nbb _ (nn_s ha.tt)
  refine ⟨by rw [e4, z_ty_arr, if_neg bro, ty3]; exact tro2, fun σ5 e5 => hP hb tb bb σ5 ?_⟩
  have ty5 : ∀ a, a ≠ bb → z_ty σ5 a = z_ty σ2 a := fun a ha => by rw [e5, z_ty_sR, e4, z_ty_arr, if_neg ha, ty3]
  have I5 : ∀ f a, z_I σ5 f a = z_I σ2 f a := fun f a => by rw [e5, z_I_sR, e4, z_I_arr, e3, z_I_sR]
  have A5 : ∀ s a, a ≠ bb → z_A σ5 s a = z_A σ2 s a := fun s a ha => by rw [e5, z_A_sR, e4, z_A_arr, if_neg ha, e3, z_A_sR]
  have w23 : wf (fun a => a = ro) σ2 σ3 := by rw [e3]; exact wf_sR rfl
  have w34 : wf (fun _ => False) σ3 σ4 := by rw [e4]; exact wf_arr hbb
  have w45 : wf (fun a => a = ro) σ4 σ5 := by rw [e5]; exact wf_sR rfl
  have wa : wf (fun a => a = ro) σ σ5 := wf_tr (wf_tr (wf_tr (wf_mo w2 (fun a _ z => z.elim)) w23 (fun a z _ => z)) w34 (fun a z _ => z.elim)) w45 (fun a z _ => z)
  have hbb0 : z_ty σ bb = none := Classical.byContradiction (fun hn => by rw [w2.ty _ hn] at hbb2; exact hn hbb2)
  refine ⟨hr, fr hhb, fr htb, fr hbb0, ⟨by rw [ty5 _ bhb]; exact ha.ty, by rw [I5]; exact ha.sz, ha.l3, by rw [e5, z_R_sR, if_neg (fun z => absurd z.1 (by decide)), e4, z_R_arr, e3, z_R_sR, if_neg (fun z => absurd z.1 (by decide))]; exact ha.rt, by rw [ty5 _ btb]; exact ha.tt, fun i hi => absurd hi (Nat.not_lt_zero i), fun k hk => by rw [I5]; exact ha.lt k hk⟩, fun f => by rw [I5]; exact hI f, by rw [ty5 _ bro]; exact tro2, fun f => ?_, ?_, by rw [e5, z_R_sR, if_pos ⟨rfl, rfl⟩], by rw [e5, z_ty_sR, e4, z_ty_arr, if_pos rfl], wf_tr w0 wa (fun a z hn => hn (by rw [z]; exact hr))⟩
  · rw [I5, w2.I _ _ (nn_s tro) (fun z => z), e, z_I_new, if_pos rfl]
  · rw [e5, z_R_sR, if_neg (fun z => absurd z.1 (by decide)), e4, z_R_arr, e3, z_R_sR, if_pos ⟨rfl, rfl⟩]
theorem rul_n {t : tx_T} {rs : List ru_T} {nm A : List Nat} {q : Nat} {e : ft_T} (h : ¬ ((97 ≤ sg t q ∧ sg t q ≤ 122) ∧ rs.length = 16)) (hg : atm t true nm A (fun _ => false) q = .error e) : rul t rs nm A q = .error e := by
  unfold rul
  rw [if_neg h, hg]
theorem rul_a {t : tx_T} {rs : List ru_T} {nm A : List Nat} {q : Nat} {g : an_T} (h : ¬ ((97 ≤ sg t q ∧ sg t q ≤ 122) ∧ rs.length = 16)) (hg : atm t true nm A (fun _ => false) q = .ok g) (h58 : sg t g.q ≠ 58) : rul t rs nm A q = cls t rs g ⟨[], g.nm, g.A, g.lt, g.q⟩ := by
  unfold rul
  rw [if_neg h, hg]
  exact if_neg h58
theorem rul_b1 {t : tx_T} {rs : List ru_T} {nm A : List Nat} {q : Nat} {g : an_T} {e : ft_T} (h : ¬ ((97 ≤ sg t q ∧ sg t q ≤ 122) ∧ rs.length = 16)) (hg : atm t true nm A (fun _ => false) q = .ok g) (h58 : sg t g.q = 58) (ht : tak t 45 (nxt t (g.q + 1)) = .error e) : rul t rs nm A q = .error e := by
  unfold rul
  rw [if_neg h, hg]
  dsimp only
  rw [if_pos h58, ht]
theorem rul_b2 {t : tx_T} {rs : List ru_T} {nm A : List Nat} {q q1 : Nat} {g : an_T} {e : ft_T} (h : ¬ ((97 ≤ sg t q ∧ sg t q ≤ 122) ∧ rs.length = 16)) (hg : atm t true nm A (fun _ => false) q = .ok g) (h58 : sg t g.q = 58) (ht : tak t 45 (nxt t (g.q + 1)) = .ok q1) (hl : lls t 6 [] g.nm g.A g.lt q1 = .error e) : rul t rs nm A q = .error e := by
  unfold rul
  rw [if_neg h, hg]
  dsimp only
  rw [if_pos h58, ht]
  dsimp only
  rw [hl]
theorem rul_b3 {t : tx_T} {rs : List ru_T} {nm A : List Nat} {q q1 : Nat} {g : an_T} {b : ll_T} (h : ¬ ((97 ≤ sg t q ∧ sg t q ≤ 122) ∧ rs.length = 16)) (hg : atm t true nm A (fun _ => false) q = .ok g) (h58 : sg t g.q = 58) (ht : tak t 45 (nxt t (g.q + 1)) = .ok q1) (hl : lls t 6 [] g.nm g.A g.lt q1 = .ok b) : rul t rs nm A q = cls t rs g b := by
  unfold rul
  rw [if_neg h, hg]
  dsimp only
  rw [if_pos h58, ht]
  dsimp only
  rw [hl]
theorem rk_0 : ∀ n, rk (fun _ => false) n = 0
  | 0 => rfl
  | n + 1 => by
    show rk (fun _ => false) n + (if false then 1 else 0) = 0
    rw [rk_0 n]
    rfl
def sC (K : rd_T) (pa : Nat) (a : Nat) : Prop := a = K.R ∨ a = K.P ∨ a = K.na ∨ a = K.ta ∨ a = pa
