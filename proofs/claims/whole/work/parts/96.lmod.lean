/-! WHAT A LAYER IS: the least rows that hold its rules -/
def LMod (G : pg_T) (L : Nat) (S0 S' : Nat → List Nat) : Prop := (Cl G.rs G.lay L S0 S') ∧ (∀ S, Cl G.rs G.lay L S0 S → ∀ v, ∀ k ∈ S' v, k ∈ S v) ∧ (∀ v, G.lay v ≠ L → S' v = S0 v) ∧ (∀ r ∈ G.rs, r.c = true → G.lay r.h = L → ¬ ovf (grp (hd S0 r))) ∧ (∀ v, v < 8 → G.lay v = L → (S' v).length ≤ 40) ∧ (∀ v, G.lay v = L → (S' v).Pairwise (fun a b => a < b))
theorem LMod.cl {G : pg_T} {L : Nat} {S0 S' : Nat → List Nat} (h' : LMod G L S0 S') : Cl G.rs G.lay L S0 S' := h'.1
theorem LMod.mn {G : pg_T} {L : Nat} {S0 S' : Nat → List Nat} (h' : LMod G L S0 S') : ∀ S, Cl G.rs G.lay L S0 S → ∀ v, ∀ k ∈ S' v, k ∈ S v := h'.2.1
theorem LMod.eq {G : pg_T} {L : Nat} {S0 S' : Nat → List Nat} (h' : LMod G L S0 S') : ∀ v, G.lay v ≠ L → S' v = S0 v := h'.2.2.1
theorem LMod.nv {G : pg_T} {L : Nat} {S0 S' : Nat → List Nat} (h' : LMod G L S0 S') : ∀ r ∈ G.rs, r.c = true → G.lay r.h = L → ¬ ovf (grp (hd S0 r)) := h'.2.2.2.1
theorem LMod.c40 {G : pg_T} {L : Nat} {S0 S' : Nat → List Nat} (h' : LMod G L S0 S') : ∀ v, v < 8 → G.lay v = L → (S' v).length ≤ 40 := h'.2.2.2.2.1
theorem LMod.srt {G : pg_T} {L : Nat} {S0 S' : Nat → List Nat} (h' : LMod G L S0 S') : ∀ v, G.lay v = L → (S' v).Pairwise (fun a b => a < b) := h'.2.2.2.2.2
def LOv (G : pg_T) (L : Nat) (S0 : Nat → List Nat) : Prop := (∃ r ∈ G.rs, r.c = true ∧ G.lay r.h = L ∧ ovf (grp (hd S0 r))) ∨ ∃ v, v < 8 ∧ G.lay v = L ∧ ∃ l : List Nat, l.Pairwise (fun a b => a < b) ∧ 40 < l.length ∧ ∀ S, Cl G.rs G.lay L S0 S → ∀ k ∈ l, k ∈ S v
theorem srt_len : ∀ {l l' : List Nat}, l.Pairwise (fun a b => a < b) → l'.Pairwise (fun a b => a < b) → (∀ k ∈ l, k ∈ l') → l.length ≤ l'.length
  | [], _, _, _, _ => Nat.zero_le _
  | a :: l, [], _, _, h => absurd (h a List.mem_cons_self) List.not_mem_nil
  | a :: l, b :: l', hs, hs', h => by
    obtain ⟨a1, a2⟩ := List.pairwise_cons.mp hs
    obtain ⟨b1, b2⟩ := List.pairwise_cons.mp hs'
    have hab : b ≤ a := by
      rcases List.mem_cons.mp (h a List.mem_cons_self) with e | e
      · omega
      · have := b1 a e; omega
    have := srt_len a2 b2 (fun k hk => by
      rcases List.mem_cons.mp (h k (List.mem_cons_of_mem _ hk)) with e | e
      · have := a1 k hk; omega
      · exact e)
    simp only [List.length_cons]
    omega
theorem srt_uniq : ∀ {l l' : List Nat}, l.Pairwise (fun a b => a < b) → l'.Pairwise (fun a b => a < b) → (∀ k, k ∈ l ↔ k ∈ l') → l = l'
  | [], [], _, _, _ => rfl
  | [], p :: r, _, _, h => absurd ((h p).mpr List.mem_cons_self) List.not_mem_nil
  | p :: r, [], _, _, h => absurd ((h p).mp List.mem_cons_self) List.not_mem_nil
  | p :: r, q :: s, hs, hs', h => by
    obtain ⟨a1, a2⟩ := List.pairwise_cons.mp hs
    obtain ⟨b1, b2⟩ := List.pairwise_cons.mp hs'
    have hpq : p = q := by
      rcases List.mem_cons.mp ((h p).mp List.mem_cons_self) with e | e
      · exact e
      · rcases List.mem_cons.mp ((h q).mpr List.mem_cons_self) with e' | e'
        · exact e'.symm
        · have := b1 p e
          have := a1 q e'
          omega
    subst hpq
    congr 1
    refine srt_uniq a2 b2 (fun y => ⟨fun hy => ?_, fun hy => ?_⟩)
    · rcases List.mem_cons.mp ((h y).mp (List.mem_cons_of_mem _ hy)) with e | e
      · have := a1 y hy; omega
      · exact e
    · rcases List.mem_cons.mp ((h y).mpr (List.mem_cons_of_mem _ hy)) with e | e
      · have := b1 y hy; omega
      · exact e
theorem LMod_uniq {G : pg_T} {L : Nat} {S0 S S' : Nat → List Nat} (h : LMod G L S0 S) (h' : LMod G L S0 S') : S = S' := by
  funext v
  by_cases hv : G.lay v = L
  · exact srt_uniq (h.srt v hv) (h'.srt v hv) (fun k => ⟨fun hk => h.mn S' h'.cl v k hk, fun hk => h'.mn S h.cl v k hk⟩)
  · rw [h.eq v hv, h'.eq v hv]
theorem LMod_LOv {G : pg_T} {L : Nat} {S0 S : Nat → List Nat} (h : LMod G L S0 S) (ho : LOv G L S0) : False := by
  rcases ho with ⟨r, h1, h2, h3, h4⟩ | ⟨v, h1, h2, l, h3, h4, h5⟩
  · exact h.nv r h1 h2 h3 h4
  · have := srt_len h3 (h.srt v h2) (h5 S h.cl)
    have := h.c40 v h1 h2
    omega
/-- layer by layer from 1 on -/
def WK (G : pg_T) : Nat → (Nat → List Nat) → (Nat → List Nat) → Prop
  | 0, S0, S => S = S0
  | L + 1, S0, S => ∃ S1, WK G L S0 S1 ∧ LMod G (L + 1) S1 S
def WOv (G : pg_T) (n : Nat) (S0 : Nat → List Nat) : Prop := ∃ L S1, L < n ∧ WK G L S0 S1 ∧ LOv G (L + 1) S1
theorem WK_uniq {G : pg_T} : ∀ {n : Nat} {S0 S S' : Nat → List Nat}, WK G n S0 S → WK G n S0 S' → S = S'
  | 0, S0, S, S', h, h' => by rw [h, h']
  | n + 1, S0, S, S', ⟨S1, h1, h2⟩, ⟨S1', h1', h2'⟩ => by
    have := WK_uniq h1 h1'
    subst this
    exact LMod_uniq h2 h2'
theorem WK_le {G : pg_T} : ∀ {n L : Nat} {S0 S : Nat → List Nat}, WK G n S0 S → L ≤ n → ∃ S1, WK G L S0 S1
  | 0, L, S0, S, h, hL => ⟨S, by rw [show L = 0 by omega]; exact h⟩
  | n + 1, L, S0, S, h, hL => by
    by_cases z : L = n + 1
    · exact ⟨S, by rw [z]; exact h⟩
    · obtain ⟨S1, h1, _⟩ := h
      exact WK_le h1 (by omega)
theorem WK_step {G : pg_T} : ∀ {n L : Nat} {S0 S : Nat → List Nat}, WK G n S0 S → L < n → ∃ S1 S2, WK G L S0 S1 ∧ LMod G (L + 1) S1 S2
  | n + 1, L, S0, S, h, hL => by
    obtain ⟨S1, h1, h2⟩ := h
    by_cases z : L = n
    · exact ⟨S1, S, by rw [z]; exact h1, by rw [z]; exact h2⟩
    · exact WK_step h1 (by omega)
theorem WK_WOv {G : pg_T} {n : Nat} {S0 S : Nat → List Nat} (h : WK G n S0 S) (ho : WOv G n S0) : False := by
  obtain ⟨L, S1, h1, h2, h3⟩ := ho
  obtain ⟨S1', S2, h4, h5⟩ := WK_step h h1
  have := WK_uniq h2 h4
  subst this
  exact LMod_LOv h5 h3
/-- where nothing lies, nothing changes -/
theorem LMod_none {G : pg_T} {L : Nat} {S0 : Nat → List Nat} (hS : S_ok S0) (h : ∀ v, G.lay v < L) : LMod G L S0 S0 := by
  have hn : ∀ v, G.lay v ≠ L := fun v => by have := h v; omega
  exact ⟨⟨hS, fun _ _ _ => Iff.rfl, fun r _ _ e => absurd e (hn _), fun r _ _ e => absurd e (hn _)⟩, fun S hS v k hk => (hS.lo v (h v) k).mpr hk, fun _ _ => rfl, fun r _ _ e => absurd e (hn _), fun v _ e => absurd e (hn _), fun v e => absurd e (hn _)⟩
theorem WK_ok {G : pg_T} : ∀ {n : Nat} {S0 S : Nat → List Nat}, S_ok S0 → WK G n S0 S → S_ok S
  | 0, S0, S, h0, h => by rw [show S = S0 from h]; exact h0
  | n + 1, S0, S, h0, ⟨S1, h1, h2⟩ => h2.cl.ok
theorem WK_top {G : pg_T} (hok : pg_ok G) {S0 S : Nat → List Nat} (h0 : S_ok S0) (h : WK G G.top S0 S) : ∀ m, WK G (G.top + m) S0 S
  | 0 => h
  | m + 1 => ⟨S, WK_top hok h0 h m, LMod_none (WK_ok h0 h) (fun v => by have := hok.tp v; show G.lay v < G.top + m + 1; omega)⟩
theorem WOv_top {G : pg_T} {n m : Nat} (h : n ≤ m) {S0 : Nat → List Nat} (ho : WOv G n S0) : WOv G m S0 := by
  obtain ⟨L, S1, h1, h2⟩ := ho
  exact ⟨L, S1, by omega, h2⟩
/-- after spread the layer is done -/
theorem take_find {q : List (Nat × Nat)} (Q : Nat × Nat → Prop) (h : ∀ p, Q p → p ∈ q) (hne : ∃ p, Q p) : ∃ i, i < q.length ∧ (∀ p, Q p → p ∈ q.take (i + 1)) ∧ Q (q.getD i (0, 0)) := by
  have key : ∀ n, n ≤ q.length → (∀ p, Q p → p ∈ q.take n) → ∃ i, i < q.length ∧ (∀ p, Q p → p ∈ q.take (i + 1)) ∧ Q (q.getD i (0, 0)) := by
    intro n
    induction n with
    | zero =>
      intro _ hp
      obtain ⟨p, hQ⟩ := hne
      have := hp p hQ
      rw [List.take_zero] at this
      exact absurd this List.not_mem_nil
    | succ n ih =>
      intro hn hp
      by_cases z : ∀ p, Q p → p ∈ q.take n
      · exact ih (by omega) z
      · obtain ⟨p, hz⟩ := Classical.not_forall.mp z
        obtain ⟨hQ, hni⟩ := Classical.not_imp.mp hz
        refine ⟨n, by omega, hp, ?_⟩
        have := hp p hQ
        rw [List.take_succ_eq_append_getElem (by omega), List.mem_append, List.mem_singleton] at this
        rw [gd_eq _ _ (by omega), ← this.resolve_left hni]
        exact hQ
  exact key q.length (Nat.le_refl _) (fun p hp => by rw [List.take_length]; exact h p hp)
theorem lay_done {G : pg_T} (hok : pg_ok G) {L : Nat} {T0 : Nat → al_T} {g : gs_T} (hI : IV (lyo G L T0) g) (hfl : g.fl = false) (harr : ∀ i, i < G.rs.length → arr (G.rs.getD i d_ru) (G.as i)) (hsd : sdd G L T0 g G.rs.length) (hpr : prd G L T0 g g.q.length 0 0) : LMod G L (ks T0) (ks g.T) := by
  have hSok : S_ok (ks g.T) := S_ok_T (fun v => (hI.srt v).2)
  have hidx : ∀ r ∈ G.rs, ∃ j, j < G.rs.length ∧ G.rs.getD j d_ru = r := fun r hr => by
    obtain ⟨j, hj, e⟩ := List.getElem_of_mem hr
    exact ⟨j, hj, by rw [gd_eq _ _ hj, e]⟩
  refine ⟨⟨hSok, fun v hv k => ?_, fun r hr hc hL k hk => ?_, fun r hr hc hL k hk => ?_⟩, hI.snd, fun v hv => ?_, fun r hr hc hL => ?_, fun v hv _ => ?_, fun v _ => ?_⟩
  · unfold ks
    rw [hI.lo v (show G.lay v ≠ L by omega)]
    exact Iff.rfl
  · obtain ⟨j, hj, rfl⟩ := hidx r hr
    have ha := harr j hj
    by_cases hu : usesL G j L
    · obtain ⟨x, hx, rfl⟩ := List.mem_map.mp hk
      obtain ⟨hr', hly, _⟩ := hok.ru _ hr
      have hxo := hsol_ok hSok hx
      obtain ⟨s1, s2, s3, s4⟩ := (hsol_mem hr' hxo).mp hx
      obtain ⟨l0, hl0, h00, hl0L⟩ := hu
      have hps : ∀ l, l ∈ G.as j → l.1 = 0 → l ∈ ps_of (G.rs.getD j d_ru).ls := fun l hl h0 => by
        rw [← ha.ps]
        exact List.mem_filter.mpr ⟨hl, by simpa using h0⟩
      obtain ⟨i, hi, hall, ⟨l, hl, hl0', hlL, he⟩⟩ := take_find (q := g.q) (fun p => ∃ l ∈ G.as j, l.1 = 0 ∧ G.lay l.2.1 = L ∧ p = (l.2.1, hk3 x l.2.2)) (fun p ⟨l, hl, h0, hL', e⟩ => by
        rw [e]
        exact ((hI.qq hfl).1 _ _ hL').mp (s3 l (hps l hl h0))) ⟨_, l0, hl0, h00, hl0L, rfl⟩
      obtain ⟨k, hk', e⟩ := List.getElem_of_mem hl
      have hgk : (G.as j).getD k d_lit = l := by rw [gd_eq _ _ hk', e]
      refine hpr i j k hj hL (Or.inl hi) hi hk' (by rw [hgk]; exact hl0') x ⟨hxo, s1, s2, by rw [← tests_low hok hI hr hL]; exact s4, fun l' hl' hne => ?_, fun l' hl' hL' => ?_⟩ (by rw [hgk]; exact he.symm)
      · have := s3 l' hl'
        unfold ks at this
        rw [hI.lo _ hne] at this
        exact this
      · rw [← ha.ps] at hl'
        exact hall _ ⟨l', (List.mem_filter.mp hl').1, ps_pos hl', hL', rfl⟩
    · refine hsd.p j hj hj hL hu hc k ?_
      rw [← hd_congr (S := ks g.T) (fun l hl h1 => by unfold ks; rw [low_T hok hI hj ha hL hu l hl h1])]
      exact hk
  · obtain ⟨j, hj, rfl⟩ := hidx r hr
    exact (hsd.c j hj hj hL hc k).mpr hk
  · unfold ks
    rw [hI.lo v hv]
    rfl
  · obtain ⟨j, hj, rfl⟩ := hidx r hr
    exact hsd.v j hj hj hL hc
  · rw [ks_len]; exact hI.c40 hfl v hv
  · unfold ks
    rw [List.pairwise_map]
    exact (hI.srt v).1
theorem lay_full {G : pg_T} {L : Nat} {T0 : Nat → al_T} {g : gs_T} (h : IV (lyo G L T0) g ∨ cOv G L T0) (hfl : g.fl = true) : LOv G L (ks T0) := by
  rcases h with hI | ho
  · obtain ⟨v, h1, h2, h3⟩ := hI.fu hfl
    refine Or.inr ⟨v, h1, h2, ks g.T v, ?_, by rw [ks_len]; exact h3, fun S hS => hI.snd S hS v⟩
    unfold ks
    rw [List.pairwise_map]
    exact (hI.srt v).1
  · exact Or.inl ho
