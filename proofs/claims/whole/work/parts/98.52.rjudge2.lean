/-- rules read before -/
def oldR (rs : List ru_T) (μ : mo_U) : Prop := (rs.length ≤ 16) ∧ (∀ j, j < rs.length → μ.2 26 j = nI (rs.getD j d_ru).h ∧ (rs.getD j d_ru).h < 8) ∧ (∀ j, j < rs.length → μ.2 32 j = if (rs.getD j d_ru).c then 1 else 0)
theorem oldR.n {rs : List ru_T} {μ : mo_U} (h' : oldR rs μ) : rs.length ≤ 16 := h'.1
theorem oldR.h {rs : List ru_T} {μ : mo_U} (h' : oldR rs μ) : ∀ j, j < rs.length → μ.2 26 j = nI (rs.getD j d_ru).h ∧ (rs.getD j d_ru).h < 8 := h'.2.1
theorem oldR.c {rs : List ru_T} {μ : mo_U} (h' : oldR rs μ) : ∀ j, j < rs.length → μ.2 32 j = if (rs.getD j d_ru).c then 1 else 0 := h'.2.2
theorem any_take {rs : List ru_T} (P : ru_T → Bool) {i : Nat} (h : i < rs.length) : (rs.take (i + 1)).any P = ((rs.take i).any P || P (rs.getD i d_ru)) := by
  rw [List.take_succ_eq_append_getElem h, List.any_append, gd_eq _ _ h]
  simp
theorem ref_judge {t : tx_T} {μ : mo_U} {q : Nat} {rs : List ru_T} {ls : List lit_T} {h : Nat} {ts : tm_T} {c : Bool} (h0 : rs0 t μ q) (hb : mo_lits μ rs.length ls) (h26 : μ.2 26 rs.length = nI h) (h8 : h < 8) (h27 : ∀ j, j < 3 → μ.2 27 (3 * rs.length + j) = nI (tmi ts j)) (ht : tm3_ok ts) (h32 : μ.2 32 rs.length = if c then 1 else 0) (ho : oldR rs μ) (Q : mo_U → Prop) (hO : loose ts ls = false → lonely rs h c ls = false → Q μ) (h4 : loose ts ls = true → ∀ μ', rsF t (4, q) μ' → mo_fr [] [806, 807] μ μ' → Q μ') (h5 : loose ts ls = false → lonely rs h c ls = true → ∀ μ', rsF t (5, q) μ' → mo_fr [] [806, 807] μ μ' → Q μ') : mp_judge (nI rs.length) μ Q := by
  intro X16 X105 X176 X186 h16 h105 h176 h186
  obtain ⟨hr17, hl5, h28, hlits⟩ := hb
  have hn16 := ho.n
  have m3 : (3 : Int32) * nI rs.length = nI (3 * rs.length) := by rw [show (3 : Int32) = nI 3 from rfl, pk_mul]
  -- the counts
  have alone : loose ts ls = false → X105 1 (μ.2 32 rs.length) 0 μ := fun hlo => by
    have bad : lonely rs h c ls = true → X186 μ := fun hl => h186 _ (ref_wrong (k := 5) h0 (by decide) _ (fun μ1 hF fr => h5 hlo hl μ1 hF fr))
    have main : ∀ k i, i + k = rs.length → X105 (if (rs.take i).any (fun r => decide (r.h = h)) then 0 else 1) (if c || (rs.take i).any (fun r => decide (r.h = h) && r.c) then 1 else 0) (nI i) μ := by
      intro k
      induction k with
      | zero =>
        intro i hi
        have ei : rs.take i = rs := by rw [show i = rs.length by omega, List.take_length]
        refine h105 _ _ _ _ ⟨fun _ => ?_, fun z => absurd (nI_le (by omega) (by omega)) z⟩
        rw [ei, cl_nI (by omega), h32, h28]
        have last : ¬ (c = true ∧ ls = []) → X176 (if rs.any (fun r => decide (r.h = h)) then 0 else 1) (if c || rs.any (fun r => decide (r.h = h) && r.c) then 1 else 0) μ := fun hne => by
          have hsub : rs.any (fun r => decide (r.h = h) && r.c) = true → rs.any (fun r => decide (r.h = h)) = true := fun z => by
            obtain ⟨r, hr, e⟩ := List.any_eq_true.mp z
            exact List.any_eq_true.mpr ⟨r, hr, (Bool.and_eq_true _ _ ▸ e).1⟩
          have hlon : lonely rs h c ls = ((c && rs.any (fun r => decide (r.h = h))) || rs.any (fun r => decide (r.h = h) && r.c)) := by
            unfold lonely
            cases hc : c with
            | false => simp
            | true =>
              have : ls ≠ [] := fun z => hne ⟨hc, z⟩
              simp [this]
          refine h176 _ _ _ ?_
          cases hS : rs.any (fun r => decide (r.h = h)) with
          | false =>
            have hC : rs.any (fun r => decide (r.h = h) && r.c) = false := by
              cases z : rs.any (fun r => decide (r.h = h) && r.c) with
              | false => rfl
              | true => rw [hsub z] at hS; cases hS
            have hlf : lonely rs h c ls = false := by rw [hlon, hS, hC]; simp
            exact ⟨fun _ => hO hlo hlf, fun _ => ⟨fun _ => hO hlo hlf, fun z => absurd z (by decide)⟩⟩
          | true =>
            cases hv : (c || rs.any (fun r => decide (r.h = h) && r.c)) with
            | false =>
              have hlf : lonely rs h c ls = false := by
                rw [hlon, hS, Bool.and_true]; exact hv
              exact ⟨fun _ => hO hlo hlf, fun z => absurd rfl z⟩
            | true =>
              have hlt : lonely rs h c ls = true := by
                rw [hlon, hS, Bool.and_true]; exact hv
              exact ⟨fun z => absurd z (by decide), fun _ => ⟨fun z => absurd rfl z, fun _ => bad hlt⟩⟩
        refine ⟨vp_in_nI (by omega) (by decide), ?_⟩
        cases hc : c with
        | false =>
          rw [hc] at last
          exact ⟨fun _ => last (fun z => by cases z.1), fun z => absurd rfl z⟩
        | true =>
          rw [hc] at last
          refine ⟨fun z => absurd z (by decide), fun _ => ⟨vp_in_nI (by omega) (by decide), fun z => bad ?_, fun z => last (fun y => z (by rw [y.2]; rfl))⟩⟩
          have : ls = [] := List.eq_nil_of_length_eq_zero ((nI_eq (b := 0) (by omega) (by decide)).mp z)
          unfold lonely
          rw [hc, this]
          simp
      | succ k ih =>
        intro i hi
        have hil : i < rs.length := by omega
        obtain ⟨g1, g2⟩ := ho.h i hil
        refine h105 _ _ _ _ ⟨fun z => absurd z (nI_ge (by omega) (by omega)), fun _ => ⟨vp_in_nI (by omega) (by decide), vp_in_nI (by omega) (by decide), ?_⟩⟩
        have nx := ih (i + 1) (by omega)
        rw [any_take _ hil, any_take _ hil] at nx
        rw [cl_nI (by omega), cl_nI (by omega), g1, h26, nI_eq (by omega) (by omega), nI_1]
        refine ⟨fun hne => ?_, fun he => ?_⟩
        · rw [decide_eq_false hne, Bool.or_false, Bool.false_and, Bool.or_false] at nx
          exact nx
        · rw [decide_eq_true he, Bool.or_true, Bool.true_and] at nx
          rw [if_pos rfl] at nx
          cases hv : (c || (rs.take i).any (fun r => decide (r.h = h) && r.c)) with
          | true =>
            rw [← Bool.or_assoc, hv, Bool.true_or] at nx
            exact ⟨fun _ => nx, fun z => absurd z (by decide)⟩
          | false =>
            rw [← Bool.or_assoc, hv, Bool.false_or] at nx
            refine ⟨fun z => absurd rfl z, fun _ => ⟨vp_in_nI (by omega) (by decide), ?_⟩⟩
            rw [ho.c i hil]
            cases hcc : (rs.getD i d_ru).c with
            | true => rw [hcc] at nx; exact ⟨fun z => absurd z (by decide), fun _ => nx⟩
            | false => rw [hcc] at nx; exact ⟨fun _ => nx, fun z => absurd rfl z⟩
    have := main rs.length 0 (by omega)
    rw [List.take_zero] at this
    simp only [List.any_nil, Bool.or_false, if_false] at this
    rw [h32]
    exact this
  rw [m3]
  refine ref_letters (Or.inl rfl) (by show _ ≤ 51; omega) h27 ht _ (fun m0 hm0 => ?_)
  have main : ∀ k i v2 v3, i + k = ls.length → (∀ x, x < 32 → (bi v2 x = true ↔ ∃ l ∈ ps_of (ls.take i), vin3 l.2.2 x)) → (∀ x, x < 32 → (bi v3 x = true ↔ vin3 ts x ∨ ∃ l ∈ ts_of (ls.take i), vin3 l.2.2 x)) → X16 v2 v3 (nI i) μ := by
    intro k
    induction k with
    | zero =>
      intro i v2 v3 hi hv2 hv3
      rw [show ls.take i = ls from by rw [show i = ls.length by omega, List.take_length]] at hv2 hv3
      refine h16 _ _ _ _ ⟨vp_in_nI (by omega) (by decide), ?_⟩
      rw [cl_nI (by omega), h28]
      refine ⟨fun _ => ?_, fun z => absurd (nI_le (by omega) (by omega)) z⟩
      have hsub : ((v3 &&& (v2 ^^^ (-1 : Int32))) = 0) ↔ loose ts ls = false := by
        rw [bi_sub]
        constructor
        · intro hall
          cases hl : loose ts ls with
          | false => rfl
          | true =>
            obtain ⟨x, x1, x2⟩ := loose_iff.mp hl
            have hx : x < 32 := by
              rcases x1 with z | ⟨l, _, z⟩
              · have := z.1; omega
              · have := z.1; omega
            exact absurd ((hv2 x hx).mp (hall x hx ((hv3 x hx).mpr x1))) x2
        · intro hl x hx hb
          cases hc2 : bi v2 x with
          | true => rfl
          | false =>
            have : loose ts ls = true := loose_iff.mpr ⟨x, (hv3 x hx).mp hb, fun z => by rw [(hv2 x hx).mpr z] at hc2; cases hc2⟩
            rw [this] at hl; cases hl
      refine ⟨fun z => ⟨vp_in_nI (by omega) (by decide), alone (hsub.mp z)⟩, fun z => ref_wrong (k := 4) h0 (by decide) _ (fun μ1 hF fr => h4 ?_ μ1 hF fr)⟩
      cases hl : loose ts ls with
      | true => rfl
      | false => exact absurd (hsub.mpr hl) z
    | succ k ih =>
      intro i v2 v3 hi hv2 hv3
      have hil : i < ls.length := by omega
      obtain ⟨g1, _, g3, g4, g5, g6, _, _, g9, _⟩ := hlits i hil
      obtain ⟨s1, s2⟩ := ts_snoc hil
      refine h16 _ _ _ _ ⟨vp_in_nI (by omega) (by decide), ?_⟩
      rw [cl_nI (by omega), h28]
      refine ⟨fun z => absurd z (nI_ge (by omega) (by omega)), fun _ => ?_⟩
      rw [nI_5, nI_k, show (3 : Int32) = nI 3 from rfl, pk_mul, nI_1]
      refine ref_letters (ts := (ls.getD i d_lit).2.2) (Or.inr rfl) (by show _ ≤ 255; omega) (fun j hj => ?_) g9 _ (fun m hm => ⟨vp_in_nI (by omega) (by decide), ?_⟩)
      · rcases (show j = 0 ∨ j = 1 ∨ j = 2 by omega) with rfl | rfl | rfl
        · exact g3
        · exact g4
        · exact g5
      · rw [cl_nI (by omega), g1]
        refine ⟨fun z => ih (i + 1) _ _ (by omega) (fun x hx => ?_) (fun x hx => ?_), fun z => ih (i + 1) _ _ (by omega) (fun x hx => ?_) (fun x hx => ?_)⟩
        · have hne : ¬ (ls.getD i d_lit).1 = 0 := fun y => z (by rw [y]; rfl)
          rw [hv2 x hx]
          exact ⟨fun ⟨l, l1, l2⟩ => ⟨l, (s1 l).mpr (Or.inl l1), l2⟩, fun ⟨l, l1, l2⟩ => ⟨l, ((s1 l).mp l1).elim id (fun y => absurd (by rw [← y.1]; exact y.2) hne), l2⟩⟩
        · have hne : ¬ (ls.getD i d_lit).1 = 0 := fun y => z (by rw [y]; rfl)
          rw [bi_or2 _ _ hx, Bool.or_eq_true, hv3 x hx, hm x hx]
          constructor
          · rintro ((w | ⟨l, l1, l2⟩) | w)
            · exact Or.inl w
            · exact Or.inr ⟨l, (s2 l).mpr (Or.inl l1), l2⟩
            · exact Or.inr ⟨_, (s2 _).mpr (Or.inr ⟨rfl, hne⟩), w⟩
          · rintro (w | ⟨l, l1, l2⟩)
            · exact Or.inl (Or.inl w)
            · rcases (s2 l).mp l1 with y | y
              · exact Or.inl (Or.inr ⟨l, y, l2⟩)
              · rw [y.1] at l2; exact Or.inr l2
        · have he : (ls.getD i d_lit).1 = 0 := (nI_eq (b := 0) (by omega) (by decide)).mp z
          rw [bi_or2 _ _ hx, Bool.or_eq_true, hv2 x hx, hm x hx]
          constructor
          · rintro (⟨l, l1, l2⟩ | w)
            · exact ⟨l, (s1 l).mpr (Or.inl l1), l2⟩
            · exact ⟨_, (s1 _).mpr (Or.inr ⟨rfl, he⟩), w⟩
          · rintro ⟨l, l1, l2⟩
            rcases (s1 l).mp l1 with y | y
            · exact Or.inl ⟨l, y, l2⟩
            · rw [y.1] at l2; exact Or.inr l2
        · have he : (ls.getD i d_lit).1 = 0 := (nI_eq (b := 0) (by omega) (by decide)).mp z
          rw [hv3 x hx]
          refine or_congr Iff.rfl ⟨fun ⟨l, l1, l2⟩ => ⟨l, (s2 l).mpr (Or.inl l1), l2⟩, fun ⟨l, l1, l2⟩ => ⟨l, ((s2 l).mp l1).elim id (fun y => absurd (by rw [y.1]; exact he) y.2), l2⟩⟩
  refine main ls.length 0 0 m0 (by omega) (fun x hx => ?_) (fun x hx => ?_)
  · rw [bi_0]
    exact ⟨fun z => absurd z (by decide), fun ⟨l, hl, _⟩ => absurd hl List.not_mem_nil⟩
  · rw [hm0 x hx]
    exact ⟨fun z => Or.inl z, fun z => z.elim id (fun ⟨l, hl, _⟩ => absurd hl List.not_mem_nil)⟩
