abbrev rd_T : Type := (Nat) × (Nat) × (Nat) × (Nat) × (Nat)
abbrev rd_T.R (x : rd_T) : Nat := x.1
abbrev rd_T.tx (x : rd_T) : Nat := x.2.1
abbrev rd_T.P (x : rd_T) : Nat := x.2.2.1
abbrev rd_T.na (x : rd_T) : Nat := x.2.2.2.1
abbrev rd_T.ta (x : rd_T) : Nat := x.2.2.2.2
/-- the reader between two pieces -/
def rW (t : tx_T) (K : rd_T) (p : Nat) (nm A : List Nat) (σ : z_S) : Prop := (cR t K.R K.tx p σ) ∧ (p ≤ t.n) ∧ (z_I σ 301 K.R = 0) ∧ (z_R σ 300 K.R = some K.P) ∧ (pS σ K.P K.na K.ta nm A)
theorem rW.c {t : tx_T} {K : rd_T} {p : Nat} {nm A : List Nat} {σ : z_S} (h' : rW t K p nm A σ) : cR t K.R K.tx p σ := h'.1
theorem rW.p {t : tx_T} {K : rd_T} {p : Nat} {nm A : List Nat} {σ : z_S} (h' : rW t K p nm A σ) : p ≤ t.n := h'.2.1
theorem rW.f {t : tx_T} {K : rd_T} {p : Nat} {nm A : List Nat} {σ : z_S} (h' : rW t K p nm A σ) : z_I σ 301 K.R = 0 := h'.2.2.1
theorem rW.r0 {t : tx_T} {K : rd_T} {p : Nat} {nm A : List Nat} {σ : z_S} (h' : rW t K p nm A σ) : z_R σ 300 K.R = some K.P := h'.2.2.2.1
theorem rW.s {t : tx_T} {K : rd_T} {p : Nat} {nm A : List Nat} {σ : z_S} (h' : rW t K p nm A σ) : pS σ K.P K.na K.ta nm A := h'.2.2.2.2
abbrev ur_T : Type := (Nat) × (Nat) × (Nat) × (Nat) × (tm_T) × (Bool) × (Nat)
abbrev ur_T.ro (x : ur_T) : Nat := x.1
abbrev ur_T.hb (x : ur_T) : Nat := x.2.1
abbrev ur_T.bb (x : ur_T) : Nat := x.2.2.1
abbrev ur_T.h (x : ur_T) : Nat := x.2.2.2.1
abbrev ur_T.ts (x : ur_T) : tm_T := x.2.2.2.2.1
abbrev ur_T.c (x : ur_T) : Bool := x.2.2.2.2.2.1
abbrev ur_T.nh (x : ur_T) : Nat := x.2.2.2.2.2.2
/-- the rule under way -/
def uW (σ : z_S) (K : rd_T) (U : ur_T) (ls : List lit_T) (A : List Nat) (bo : Nat → Nat) (lt : Nat → Bool) : Prop := (z_R σ 306 K.R = some U.ro) ∧ (lt_L σ U.ro lt) ∧ (hd_L σ U.ro U.h U.ts U.c U.nh U.hb) ∧ (bd_L σ U.ro ls (fun v => A.getD v 3) U.bb bo) ∧ (z_I σ 503 U.ro = nI (ps_of ls).length)
theorem uW.rr {σ : z_S} {K : rd_T} {U : ur_T} {ls : List lit_T} {A : List Nat} {bo : Nat → Nat} {lt : Nat → Bool} (h' : uW σ K U ls A bo lt) : z_R σ 306 K.R = some U.ro := h'.1
theorem uW.l {σ : z_S} {K : rd_T} {U : ur_T} {ls : List lit_T} {A : List Nat} {bo : Nat → Nat} {lt : Nat → Bool} (h' : uW σ K U ls A bo lt) : lt_L σ U.ro lt := h'.2.1
theorem uW.hd {σ : z_S} {K : rd_T} {U : ur_T} {ls : List lit_T} {A : List Nat} {bo : Nat → Nat} {lt : Nat → Bool} (h' : uW σ K U ls A bo lt) : hd_L σ U.ro U.h U.ts U.c U.nh U.hb := h'.2.2.1
theorem uW.bd {σ : z_S} {K : rd_T} {U : ur_T} {ls : List lit_T} {A : List Nat} {bo : Nat → Nat} {lt : Nat → Bool} (h' : uW σ K U ls A bo lt) : bd_L σ U.ro ls (fun v => A.getD v 3) U.bb bo := h'.2.2.2.1
theorem uW.ps {σ : z_S} {K : rd_T} {U : ur_T} {ls : List lit_T} {A : List Nat} {bo : Nat → Nat} {lt : Nat → Bool} (h' : uW σ K U ls A bo lt) : z_I σ 503 U.ro = nI (ps_of ls).length := h'.2.2.2.2
def sL (K : rd_T) (U : ur_T) (a : Nat) : Prop := a = K.R ∨ a = K.P ∨ a = K.na ∨ a = K.ta ∨ a = U.ro ∨ a = U.bb
/-- a program's own numbers -/
def pk (P : Nat) (σ σ' : z_S) : Prop := (z_I σ' 201 P = z_I σ 201 P) ∧ (z_I σ' 207 P = z_I σ 207 P) ∧ (z_I σ' 208 P = z_I σ 208 P) ∧ (z_I σ' 209 P = z_I σ 209 P) ∧ (z_I σ' 210 P = z_I σ 210 P)
theorem pk.i1 {P : Nat} {σ σ' : z_S} (h' : pk P σ σ') : z_I σ' 201 P = z_I σ 201 P := h'.1
theorem pk.i7 {P : Nat} {σ σ' : z_S} (h' : pk P σ σ') : z_I σ' 207 P = z_I σ 207 P := h'.2.1
theorem pk.i8 {P : Nat} {σ σ' : z_S} (h' : pk P σ σ') : z_I σ' 208 P = z_I σ 208 P := h'.2.2.1
theorem pk.i9 {P : Nat} {σ σ' : z_S} (h' : pk P σ σ') : z_I σ' 209 P = z_I σ 209 P := h'.2.2.2.1
theorem pk.i10 {P : Nat} {σ σ' : z_S} (h' : pk P σ σ') : z_I σ' 210 P = z_I σ 210 P := h'.2.2.2.2
theorem pk_rf (P : Nat) (σ : z_S) : pk P σ σ := ⟨rfl, rfl, rfl, rfl, rfl⟩
theorem pk_tr {P : Nat} {σ σ' σ'' : z_S} (h : pk P σ σ') (g : pk P σ' σ'') : pk P σ σ'' := ⟨g.i1.trans h.i1, g.i7.trans h.i7, g.i8.trans h.i8, g.i9.trans h.i9, g.i10.trans h.i10⟩
theorem pk_w {S : Nat → Prop} {P : Nat} {σ σ' : z_S} (f : wf S σ σ') (h1 : z_ty σ P ≠ none) (h2 : ¬ S P) : pk P σ σ' := ⟨f.I _ _ h1 h2, f.I _ _ h1 h2, f.I _ _ h1 h2, f.I _ _ h1 h2, f.I _ _ h1 h2⟩
def lf (S : Nat → Prop) (P : Nat) (σ σ' : z_S) : Prop := (wf S σ σ') ∧ (∀ f a, z_ty σ a ≠ none → ¬ (f = 306 ∧ S a) → z_R σ' f a = z_R σ f a) ∧ (pk P σ σ')
theorem lf.w {S : Nat → Prop} {P : Nat} {σ σ' : z_S} (h' : lf S P σ σ') : wf S σ σ' := h'.1
theorem lf.R {S : Nat → Prop} {P : Nat} {σ σ' : z_S} (h' : lf S P σ σ') : ∀ f a, z_ty σ a ≠ none → ¬ (f = 306 ∧ S a) → z_R σ' f a = z_R σ f a := h'.2.1
theorem lf.k {S : Nat → Prop} {P : Nat} {σ σ' : z_S} (h' : lf S P σ σ') : pk P σ σ' := h'.2.2
theorem lf_tr {S S' : Nat → Prop} {P : Nat} {σ σ' σ'' : z_S} (h : lf S P σ σ') (g : lf S' P σ' σ'') (hs : ∀ a, S' a → z_ty σ a ≠ none → S a) : lf S P σ σ'' := ⟨wf_tr h.w g.w hs, fun f a ha hn => (g.R f a (by rw [h.w.ty a ha]; exact ha) (fun z => hn ⟨z.1, hs a z.2 ha⟩)).trans (h.R f a ha hn), pk_tr h.k g.k⟩
theorem lf_mo {S S' : Nat → Prop} {P : Nat} {σ σ' : z_S} (h : lf S P σ σ') (hs : ∀ a, z_ty σ a ≠ none → S a → S' a) : lf S' P σ σ' := ⟨wf_mo h.w hs, fun f a ha hn => h.R f a ha (fun z => hn ⟨z.1, hs a ha z.2⟩), h.k⟩
theorem lf_nf {fs ts : List (Nat × Nat)} {S : Nat → Prop} {P : Nat} {σ σ' : z_S} (h : nf fs ts σ σ') (h1 : ∀ x ∈ fs, S x.2) (h2 : ∀ x ∈ ts, S x.2) (hf : ∀ x ∈ fs, x.1 = 206 ∨ x.1 < 200 ∨ 300 ≤ x.1) : lf S P σ σ' := by
  have e : ∀ f, 200 ≤ f → f < 300 → f ≠ 206 → (f, P) ∉ fs := fun f a1 a2 a3 z => by have := hf _ z; dsimp only at this; omega
  exact ⟨wf_nf h h1 h2, fun f a _ _ => h.R f a, ⟨h.I _ _ (e 201 (by omega) (by omega) (by omega)), h.I _ _ (e 207 (by omega) (by omega) (by omega)), h.I _ _ (e 208 (by omega) (by omega) (by omega)), h.I _ _ (e 209 (by omega) (by omega) (by omega)), h.I _ _ (e 210 (by omega) (by omega) (by omega))⟩⟩
theorem noA_L {t : tx_T} {K : rd_T} {p : Nat} {nm A : List Nat} {σ : z_S} (h : rW t K p nm A σ) {U : ur_T} (h1 : z_ty σ U.ro = some (.inl 5)) (h2 : z_ty σ U.bb = some (.inr (11, 5, 14))) : noA (sL K U) σ := by
  intro a ha
  rcases ha with e | e | e | e | e | e
  · rw [e, h.c.ty]; exact ⟨by decide, by decide⟩
  · rw [e, h.s.n.ty]; exact ⟨by decide, by decide⟩
  · rw [e, h.s.n.tn]; exact ⟨by decide, by decide⟩
  · rw [e, h.s.tt]; exact ⟨by decide, by decide⟩
  · rw [e, h1]; exact ⟨by decide, by decide⟩
  · rw [e, h2]; exact ⟨by decide, by decide⟩
def lFs (R b ro P : Nat) : List (Nat × Nat) := (2, b) :: nF R b ro P
theorem rW_oq {fs qs : List (Nat × Nat)} {t : tx_T} {K : rd_T} {p : Nat} {nm A : List Nat} {σ σ' : z_S} (h : rW t K p nm A σ) (f : oq fs qs σ σ') (h1 : (301, K.R) ∉ fs) (h2 : (304, K.R) ∉ fs) (h3 : (305, K.R) ∉ fs) (h4 : (206, K.P) ∉ fs) : rW t K p nm A σ' :=
  ⟨⟨by rw [f.ty]; exact h.c.ty, by rw [f.R]; exact h.c.r3, by rw [f.ty]; exact h.c.tt, by rw [f.I _ _ h2]; exact h.c.n, by rw [f.I _ _ h3]; exact h.c.a, fun i hi => by rw [f.A]; exact h.c.c i hi⟩, h.p, by rw [f.I _ _ h1]; exact h.f, by rw [f.R]; exact h.r0, ⟨⟨by rw [f.ty]; exact h.s.n.ty, by rw [f.I _ _ h4]; exact h.s.n.nn, by rw [f.R]; exact h.s.n.rn, by rw [f.ty]; exact h.s.n.tn, fun i hi => by rw [f.A]; exact h.s.n.vn i hi⟩, by rw [f.R]; exact h.s.rt, by rw [f.ty]; exact h.s.tt, fun i hi => by rw [f.A]; exact h.s.vt i hi⟩⟩
theorem at_L_oq {fs qs : List (Nat × Nat)} {σ σ' : z_S} {b n : Nat} {l : lit_T} (h : at_L σ b l n) (f : oq fs qs σ σ') (hf : ∀ x ∈ fs, 10 ≤ x.1) : at_L σ' b l n := by
  obtain ⟨t, h1, h2, h3⟩ := h.tm
  have e : ∀ g, g < 10 → (g, b) ∉ fs := fun g hg z => by have := hf _ z; dsimp only at this; omega
  exact ⟨by rw [f.ty]; exact h.ty, h.n1, h.n3, by rw [f.I 1 b (e 1 (by omega))]; exact h.sz, ⟨t, by rw [f.R]; exact h1, by rw [f.ty]; exact h2, fun i hi => by rw [f.A]; exact h3 i hi⟩, h.rs, by rw [f.I 2 b (e 2 (by omega))]; exact h.kd, h.k2, fun q => by rw [f.I 3 b (e 3 (by omega))]; exact h.rl q, fun q => by rw [f.I 4 b (e 4 (by omega))]; exact h.op q, fun k hk => by rw [f.I 5 b (e 5 (by omega))]; exact h.lt k hk, h.to⟩
/-- the frame of a literal under way -/
theorem lit_fr {t : tx_T} {K : rd_T} {p : Nat} {nm A : List Nat} {σ σ2 σ3 σ4 : z_S} {U : ur_T} {b tb : Nat} (hW : rW t K p nm A σ) (hb : z_ty σ b = none) (htb : z_ty σ tb = none) (w2 : wf (fun _ => False) σ σ2) (f3 : nf (lFs K.R b U.ro K.P) (nT tb K.na K.ta) σ2 σ3) (q4 : oq [(502, U.ro), (503, U.ro)] [(14, U.bb)] σ3 σ4) : lf (sL K U) K.P σ σ4 := by
  have hP := nn_s hW.s.n.ty
  have w3 : wf (fun a => a = K.R ∨ a = b ∨ a = U.ro ∨ a = K.P ∨ a = tb ∨ a = K.na ∨ a = K.ta) σ2 σ3 := wf_nf f3 (by simp [lFs, nF]) (by simp [nT])
  have w4 : wf (fun a => a = U.ro ∨ a = U.bb) σ3 σ4 := wf_oq q4 (by simp) (by simp)
  have w23 : wf (sL K U) σ σ3 := by
    refine wf_tr (wf_mo w2 (fun a _ z => z.elim)) w3 (fun a z hn => ?_)
    unfold sL
    rcases z with z | z | z | z | z | z | z
    · exact Or.inl z
    · exact absurd hb (by rw [← z]; exact hn)
    · exact Or.inr (Or.inr (Or.inr (Or.inr (Or.inl z))))
    · exact Or.inr (Or.inl z)
    · exact absurd htb (by rw [← z]; exact hn)
    · exact Or.inr (Or.inr (Or.inl z))
    · exact Or.inr (Or.inr (Or.inr (Or.inl z)))
  refine ⟨wf_tr w23 w4 (fun a z _ => ?_), fun f a ha _ => by rw [q4.R, f3.R, w2.R f a ha (fun z => z)], pk_tr (pk_w w2 hP (fun z => z)) (pk_tr ⟨f3.I _ _ (by simp [lFs, nF]), f3.I _ _ (by simp [lFs, nF]), f3.I _ _ (by simp [lFs, nF]), f3.I _ _ (by simp [lFs, nF]), f3.I _ _ (by simp [lFs, nF])⟩ ⟨q4.I _ _ (by simp), q4.I _ _ (by simp), q4.I _ _ (by simp), q4.I _ _ (by simp), q4.I _ _ (by simp)⟩)⟩
  unfold sL
  exact z.elim (fun z => Or.inr (Or.inr (Or.inr (Or.inr (Or.inl z))))) (fun z => Or.inr (Or.inr (Or.inr (Or.inr (Or.inr z)))))
theorem lit_done {t : tx_T} {K : rd_T} {p p' : Nat} {nm A nm' A' : List Nat} {σ σ2 σ3 : z_S} {U : ur_T} {ls : List lit_T} {bo : Nat → Nat} {lt lt' : Nat → Bool} {b tb n : Nat} {l : lit_T} (hW : rW t K p nm A σ) (hU : uW σ K U ls A bo lt) (h5 : ls.length < 5) (hb : z_ty σ b = none) (htb : z_ty σ tb = none) (w2 : wf (fun _ => False) σ σ2) (f3 : nf (lFs K.R b U.ro K.P) (nT tb K.na K.ta) σ2 σ3) (h4 : z_I σ3 504 U.ro = z_I σ 504 U.ro) (hat : at_L σ3 b l n) (hnm : no_mark l.2.2) (hn : l.1 = 0 → n = A'.getD l.2.1 3) (hl3 : lt_L σ3 U.ro lt') (hW3 : rW t K p' nm' A' σ3) (hA : ∀ x ∈ ls, x.1 = 0 → A'.getD x.2.1 3 = A.getD x.2.1 3) (P : z_S → Prop) (hP : ∀ bo' σ4, rW t K p' nm' A' σ4 → uW σ4 K U (ls ++ [l]) A' bo' lt' → lf (sL K U) K.P σ σ4 → P σ4) : kp_Ru_append U.ro b σ3 P := by
  have hro := nn_s hU.l.ty
  have r5 : z_R σ3 501 U.ro = some U.bb := by rw [f3.R, w2.R _ _ hro (fun z => z)]; exact hU.bd.rb
  have tbb : z_ty σ3 U.bb = some (.inr (11, 5, 14)) := by rw [f3.ty, w2.ty _ (nn_s hU.bd.tb)]; exact hU.bd.tb
  have s5 : z_I σ3 502 U.ro = nI ls.length := by rw [f3.I _ _ (by simp [lFs, nF]), w2.I _ _ hro (fun z => z)]; exact hU.bd.sz
  have s53 : z_I σ3 503 U.ro = nI (ps_of ls).length := by rw [f3.I _ _ (by simp [lFs, nF]), w2.I _ _ hro (fun z => z)]; exact hU.ps
  refine ru_append0 hl3.ty r5 tbb s5 h5 hat.ty P (fun σ4 g2 g3 gQ q4 => ?_)
  have hlf := lit_fr hW hb htb w2 f3 q4
  have hns := noA_L hW hU.l.ty hU.bd.tb
  have hlen : (ls ++ [l]).length = ls.length + 1 := by rw [List.length_append]; rfl
  have oat : ∀ {c m : Nat} {x : lit_T}, at_L σ c x m → at_L σ4 c x m := fun hx => at_L_w hx hlf.w hns
  refine hP (fun i => if i = ls.length then b else bo i) σ4 (rW_oq hW3 q4 (by simp) (by simp) (by simp) (by simp)) ⟨?_, ⟨by rw [q4.ty]; exact hl3.ty, fun k hk => by rw [q4.I _ _ (by simp)]; exact hl3.b k hk, by rw [q4.I _ _ (by simp)]; exact hl3.n, hl3.n6⟩, ⟨by rw [q4.ty]; exact hl3.ty, by rw [q4.R, f3.R, w2.R _ _ hro (fun z => z)]; exact hU.hd.rh, oat hU.hd.at', by rw [q4.I _ _ (by simp), h4]; exact hU.hd.ct⟩, ⟨by rw [q4.ty]; exact hl3.ty, by rw [q4.R]; exact r5, by rw [q4.ty]; exact tbb, by omega, by rw [g2, hlen], fun i hi => ?_⟩, ?_⟩ hlf
  · rw [q4.R, f3.R, w2.R _ _ (nn_s hW.c.ty) (fun z => z)]
    exact hU.rr
  · rw [hlen] at hi
    rw [gQ]
    unfold va_up
    have hgd : ∀ d : lit_T, (ls ++ [l]).getD i d = if i < ls.length then ls.getD i d else if i = ls.length then l else d := fun d => gd_snoc ls l d i
    rw [hgd]
    by_cases z : i = ls.length
    · rw [if_pos z, if_neg (by omega), if_pos z]
      have eb : (fun j => if j = ls.length then b else bo j) i = b := if_pos z
      rw [eb]
      exact ⟨rfl, n, at_L_oq hat q4 (by simp), hnm, hn⟩
    · rw [if_neg z, if_pos (by omega)]
      have eb : (fun j => if j = ls.length then b else bo j) i = bo i := if_neg z
      rw [eb]
      obtain ⟨h3, m, h6, h7, h8⟩ := hU.bd.bo i (by omega)
      refine ⟨by rw [f3.Q, w2.Q _ _ (nn_s hU.bd.tb) (fun z => z)]; exact h3, m, oat h6, h7, fun h0 => ?_⟩
      rw [h8 h0]
      exact (hA _ (gd_mem (by omega)) h0).symm
  · rw [g3, s53, hat.kd, ps_app]
    have hk2 := hat.k2
    by_cases z : l.1 = 0
    · rw [if_pos z, z, if_pos (show nI 0 = (0 : Int32) from nI_0), nI_1]
    · rw [if_neg z, if_neg (fun y : nI l.1 = 0 => z ((nI_eq (b := 0) (by omega) (by decide)).mp y)), Int32.add_zero]
      rfl
theorem lit_fail {t : tx_T} {K : rd_T} {p : Nat} {nm A : List Nat} {σ σ2 σ3 : z_S} {U : ur_T} {ls : List lit_T} {bo : Nat → Nat} {lt : Nat → Bool} {b tb : Nat} {e : ft_T} (hW : rW t K p nm A σ) (hU : uW σ K U ls A bo lt) (h5 : ls.length < 5) (hb : z_ty σ b = none) (htb : z_ty σ tb = none) (w2 : wf (fun _ => False) σ σ2) (hb2 : z_ty σ2 b = some (.inl 0)) (f3 : nf (lFs K.R b U.ro K.P) (nT tb K.na K.ta) σ2 σ3) (hF : cF K.R e σ3) (P : z_S → Prop) (hP : ∀ σ4, cF K.R e σ4 → lf (sL K U) K.P σ σ4 → P σ4) : kp_Ru_append U.ro b σ3 P := by
  have hro := nn_s hU.l.ty
  have r5 : z_R σ3 501 U.ro = some U.bb := by rw [f3.R, w2.R _ _ hro (fun z => z)]; exact hU.bd.rb
  have tbb : z_ty σ3 U.bb = some (.inr (11, 5, 14)) := by rw [f3.ty, w2.ty _ (nn_s hU.bd.tb)]; exact hU.bd.tb
  have s5 : z_I σ3 502 U.ro = nI ls.length := by rw [f3.I _ _ (by simp [lFs, nF]), w2.I _ _ hro (fun z => z)]; exact hU.bd.sz
  have tro : z_ty σ3 U.ro = some (.inl 5) := by rw [f3.ty, w2.ty _ hro]; exact hU.l.ty
  refine ru_append0 tro r5 tbb s5 h5 (by rw [f3.ty]; exact hb2) P (fun σ4 g2 g3 gQ q4 => hP σ4 ⟨by rw [q4.ty]; exact hF.1, by rw [q4.I _ _ (by simp)]; exact hF.2.1, by rw [q4.I _ _ (by simp)]; exact hF.2.2⟩ (lit_fr hW hb htb w2 f3 q4))
