/-! THE STORE: all cells of class and reference as maps: kinds, int fields, reference fields, int arrays, reference arrays. A field has one number over all classes (100 * class + place); an array has a site (where it was made). -/
abbrev z_S : Type := (Nat → Option (Nat ⊕ (Nat × Nat × Nat))) × (Nat → Nat → Int32) × (Nat → Nat → Option Nat) × (Nat → Nat → Nat → Int32) × (Nat → Nat → Nat → Option Nat)
def z_ty (σ : z_S) (a : Nat) : Option (Nat ⊕ (Nat × Nat × Nat)) := σ.1 a
def z_I (σ : z_S) (f a : Nat) : Int32 := σ.2.1 f a
def z_R (σ : z_S) (f a : Nat) : Option Nat := σ.2.2.1 f a
def z_A (σ : z_S) (t a : Nat) : Nat → Int32 := σ.2.2.2.1 t a
def z_Q (σ : z_S) (t a : Nat) : Nat → Option Nat := σ.2.2.2.2 t a
def z_sI (σ : z_S) (f a : Nat) (x : Int32) : z_S := (σ.1, fun g b => if g = f ∧ b = a then x else σ.2.1 g b, σ.2.2)
def z_sR (σ : z_S) (f a : Nat) (x : Option Nat) : z_S := (σ.1, σ.2.1, fun g b => if g = f ∧ b = a then x else σ.2.2.1 g b, σ.2.2.2)
def z_sA (σ : z_S) (t a : Nat) (F : Nat → Int32) : z_S := (σ.1, σ.2.1, σ.2.2.1, fun g b => if g = t ∧ b = a then F else σ.2.2.2.1 g b, σ.2.2.2.2)
def z_sQ (σ : z_S) (t a : Nat) (F : Nat → Option Nat) : z_S := (σ.1, σ.2.1, σ.2.2.1, σ.2.2.2.1, fun g b => if g = t ∧ b = a then F else σ.2.2.2.2 g b)
def z_new (σ : z_S) (q ci : Nat) : z_S := (fun b => if b = q then some (.inl ci) else σ.1 b, fun g b => if b = q then 0 else σ.2.1 g b, fun g b => if b = q then none else σ.2.2.1 g b, σ.2.2.2)
def z_arr (σ : z_S) (q k n t : Nat) : z_S := (fun b => if b = q then some (.inr (k, n, t)) else σ.1 b, σ.2.1, σ.2.2.1, fun g b => if b = q then (fun _ => 0) else σ.2.2.2.1 g b, fun g b => if b = q then (fun _ => none) else σ.2.2.2.2 g b)
-- reading behind writing
theorem z_ty_sI (σ : z_S) (f a : Nat) (x : Int32) (b : Nat) : z_ty (z_sI σ f a x) b = z_ty σ b := rfl
theorem z_ty_sR (σ : z_S) (f a : Nat) (x : Option Nat) (b : Nat) : z_ty (z_sR σ f a x) b = z_ty σ b := rfl
theorem z_ty_sA (σ : z_S) (f a : Nat) (x : Nat → Int32) (b : Nat) : z_ty (z_sA σ f a x) b = z_ty σ b := rfl
theorem z_ty_sQ (σ : z_S) (f a : Nat) (x : Nat → Option Nat) (b : Nat) : z_ty (z_sQ σ f a x) b = z_ty σ b := rfl
theorem z_ty_new (σ : z_S) (q ci b : Nat) : z_ty (z_new σ q ci) b = if b = q then some (.inl ci) else z_ty σ b := rfl
theorem z_ty_arr (σ : z_S) (q k n t b : Nat) : z_ty (z_arr σ q k n t) b = if b = q then some (.inr (k, n, t)) else z_ty σ b := rfl
theorem z_I_sI (σ : z_S) (f a : Nat) (x : Int32) (g b : Nat) : z_I (z_sI σ f a x) g b = if g = f ∧ b = a then x else z_I σ g b := rfl
theorem z_I_sR (σ : z_S) (f a : Nat) (x : Option Nat) (g b : Nat) : z_I (z_sR σ f a x) g b = z_I σ g b := rfl
theorem z_I_sA (σ : z_S) (f a : Nat) (x : Nat → Int32) (g b : Nat) : z_I (z_sA σ f a x) g b = z_I σ g b := rfl
theorem z_I_sQ (σ : z_S) (f a : Nat) (x : Nat → Option Nat) (g b : Nat) : z_I (z_sQ σ f a x) g b = z_I σ g b := rfl
theorem z_I_new (σ : z_S) (q ci g b : Nat) : z_I (z_new σ q ci) g b = if b = q then 0 else z_I σ g b := rfl
theorem z_I_arr (σ : z_S) (q k n t g b : Nat) : z_I (z_arr σ q k n t) g b = z_I σ g b := rfl
theorem z_R_sI (σ : z_S) (f a : Nat) (x : Int32) (g b : Nat) : z_R (z_sI σ f a x) g b = z_R σ g b := rfl
theorem z_R_sR (σ : z_S) (f a : Nat) (x : Option Nat) (g b : Nat) : z_R (z_sR σ f a x) g b = if g = f ∧ b = a then x else z_R σ g b := rfl
theorem z_R_sA (σ : z_S) (f a : Nat) (x : Nat → Int32) (g b : Nat) : z_R (z_sA σ f a x) g b = z_R σ g b := rfl
theorem z_R_sQ (σ : z_S) (f a : Nat) (x : Nat → Option Nat) (g b : Nat) : z_R (z_sQ σ f a x) g b = z_R σ g b := rfl
theorem z_R_new (σ : z_S) (q ci g b : Nat) : z_R (z_new σ q ci) g b = if b = q then none else z_R σ g b := rfl
theorem z_R_arr (σ : z_S) (q k n t g b : Nat) : z_R (z_arr σ q k n t) g b = z_R σ g b := rfl
theorem z_A_sI (σ : z_S) (f a : Nat) (x : Int32) (g b : Nat) : z_A (z_sI σ f a x) g b = z_A σ g b := rfl
theorem z_A_sR (σ : z_S) (f a : Nat) (x : Option Nat) (g b : Nat) : z_A (z_sR σ f a x) g b = z_A σ g b := rfl
theorem z_A_sA (σ : z_S) (f a : Nat) (x : Nat → Int32) (g b : Nat) : z_A (z_sA σ f a x) g b = if g = f ∧ b = a then x else z_A σ g b := rfl
theorem z_A_sQ (σ : z_S) (f a : Nat) (x : Nat → Option Nat) (g b : Nat) : z_A (z_sQ σ f a x) g b = z_A σ g b := rfl
theorem z_A_new (σ : z_S) (q ci g b : Nat) : z_A (z_new σ q ci) g b = z_A σ g b := rfl
theorem z_A_arr (σ : z_S) (q k n t g b : Nat) : z_A (z_arr σ q k n t) g b = if b = q then (fun _ => 0) else z_A σ g b := rfl
theorem z_Q_sI (σ : z_S) (f a : Nat) (x : Int32) (g b : Nat) : z_Q (z_sI σ f a x) g b = z_Q σ g b := rfl
theorem z_Q_sR (σ : z_S) (f a : Nat) (x : Option Nat) (g b : Nat) : z_Q (z_sR σ f a x) g b = z_Q σ g b := rfl
theorem z_Q_sA (σ : z_S) (f a : Nat) (x : Nat → Int32) (g b : Nat) : z_Q (z_sA σ f a x) g b = z_Q σ g b := rfl
theorem z_Q_sQ (σ : z_S) (f a : Nat) (x : Nat → Option Nat) (g b : Nat) : z_Q (z_sQ σ f a x) g b = if g = f ∧ b = a then x else z_Q σ g b := rfl
theorem z_Q_new (σ : z_S) (q ci g b : Nat) : z_Q (z_new σ q ci) g b = z_Q σ g b := rfl
theorem z_Q_arr (σ : z_S) (q k n t g b : Nat) : z_Q (z_arr σ q k n t) g b = if b = q then (fun _ => none) else z_Q σ g b := rfl
-- the fields of an object, by a list of kinds (0 an int, else a reference)
def z_fl (σ : z_S) (a : Nat) : List Nat → Nat → List Value
  | [], _ => []
  | t :: T, f => (if t = 0 then Value.int (z_I σ f a) else va_rf (z_R σ f a)) :: z_fl σ a T (f + 1)
theorem z_fl_get (σ : z_S) (a : Nat) : ∀ (T : List Nat) (f k : Nat), (z_fl σ a T f)[k]? = (T[k]?).map (fun t => if t = 0 then Value.int (z_I σ (f + k) a) else va_rf (z_R σ (f + k) a))
  | [], f, k => by simp [z_fl]
  | t :: T, f, 0 => by simp [z_fl]
  | t :: T, f, k + 1 => by
    have h := z_fl_get σ a T (f + 1) k
    simp only [z_fl, List.getElem?_cons_succ, h]
    rw [show f + 1 + k = f + (k + 1) by omega]
theorem z_fl_len (σ : z_S) (a : Nat) : ∀ (T : List Nat) (f : Nat), (z_fl σ a T f).length = T.length
  | [], f => rfl
  | t :: T, f => by simp [z_fl, z_fl_len σ a T (f + 1)]
theorem z_fl_I {σ : z_S} {a : Nat} {T : List Nat} {f k : Nat} (h : T[k]? = some 0) : (z_fl σ a T f)[k]? = some (.int (z_I σ (f + k) a)) := by
  rw [z_fl_get, h]; rfl
theorem z_fl_R {σ : z_S} {a : Nat} {T : List Nat} {f k b : Nat} (h : T[k]? = some 1) (hb : z_R σ (f + k) a = some b) : (z_fl σ a T f)[k]? = some (.ref b) := by
  rw [z_fl_get, h, hb]; rfl
theorem z_fl_same {σ σ' : z_S} {a : Nat} (h1 : ∀ g, z_I σ' g a = z_I σ g a) (h2 : ∀ g, z_R σ' g a = z_R σ g a) (T : List Nat) (f : Nat) : z_fl σ' a T f = z_fl σ a T f := by
  refine List.ext_getElem? fun k => ?_
  rw [z_fl_get, z_fl_get, h1, h2]
theorem z_fl_setI {σ : z_S} {a : Nat} {T : List Nat} {f k : Nat} {x : Int32} (h : T[k]? = some 0) : (z_fl σ a T f).set k (.int x) = z_fl (z_sI σ (f + k) a x) a T f := by
  refine List.ext_getElem? fun j => ?_
  have hk : k < T.length := (List.getElem?_eq_some_iff.mp h).1
  by_cases e : k = j
  · subst e
    rw [List.getElem?_set_self (by rw [z_fl_len]; exact hk), z_fl_get, h, z_I_sI]
    simp
  · rw [List.getElem?_set_ne e, z_fl_get, z_fl_get, z_I_sI, z_R_sI, if_neg (fun q => e (by omega))]
theorem z_fl_setR {σ : z_S} {a : Nat} {T : List Nat} {f k b : Nat} (h : T[k]? = some 1) : (z_fl σ a T f).set k (.ref b) = z_fl (z_sR σ (f + k) a (some b)) a T f := by
  refine List.ext_getElem? fun j => ?_
  have hk : k < T.length := (List.getElem?_eq_some_iff.mp h).1
  by_cases e : k = j
  · subst e
    rw [List.getElem?_set_self (by rw [z_fl_len]; exact hk), z_fl_get, h, z_R_sR]
    simp [va_rf]
  · rw [List.getElem?_set_ne e, z_fl_get, z_fl_get, z_R_sR, z_I_sR, if_neg (fun q => e (by omega))]
def z_df (T : List Nat) : List Value := T.map (fun t => if t = 0 then Value.int 0 else Value.null)
theorem z_fl_new (σ : z_S) (q ci : Nat) (T : List Nat) (f : Nat) : z_fl (z_new σ q ci) q T f = z_df T := by
  refine List.ext_getElem? fun k => ?_
  rw [z_fl_get, z_I_new, z_R_new, if_pos rfl, if_pos rfl, z_df, List.getElem?_map]
  rfl
-- the cells
def z_cell (KT : Nat → List Nat) (dA : Nat → ClassId) (σ : z_S) (a : Nat) : Nat ⊕ (Nat × Nat × Nat) → va_E
  | .inl ci => .inr (ci, z_fl σ a (KT ci) (100 * ci))
  | .inr (k, n, t) => .inl (dA k, n, if k < 8 then .inl (z_A σ t a) else .inr (.inr (.inr (.inr (z_Q σ t a)))))
def z_G (D : va_G) (cl : List vw_C) (KT : Nat → List Nat) (dA : Nat → ClassId) (Z : Nat) (σ : z_S) (H : Heap) : Prop := ∀ (a : Nat) (t : Nat ⊕ (Nat × Nat × Nat)), z_ty σ a = some t → Z ≤ a ∧ va_at D cl (a, z_cell KT dA σ a t) H
def z_ws (KT : Nat → List Nat) (dA : Nat → ClassId) (σ : z_S) (n : Nat) : va_W := (List.range n).filterMap (fun a => (z_ty σ a).map (fun t => (a, z_cell KT dA σ a t)))
theorem z_ws_mem {KT : Nat → List Nat} {dA : Nat → ClassId} {σ : z_S} {n : Nat} {q : Nat × va_E} (h : q ∈ z_ws KT dA σ n) : ∃ t, z_ty σ q.1 = some t ∧ q.2 = z_cell KT dA σ q.1 t ∧ q.1 < n := by
  obtain ⟨a, ha, hq⟩ := List.mem_filterMap.mp h
  obtain ⟨t, ht, rfl⟩ := Option.map_eq_some_iff.mp hq
  exact ⟨t, ht, rfl, List.mem_range.mp ha⟩
theorem z_ws_in {KT : Nat → List Nat} {dA : Nat → ClassId} {σ : z_S} {n a : Nat} {t : Nat ⊕ (Nat × Nat × Nat)} (h : z_ty σ a = some t) (hn : a < n) : (a, z_cell KT dA σ a t) ∈ z_ws KT dA σ n :=
  List.mem_filterMap.mpr ⟨a, List.mem_range.mpr hn, by rw [h]; rfl⟩
theorem z_ws_fst (KT : Nat → List Nat) (dA : Nat → ClassId) (σ : z_S) : ∀ l : List Nat, ((l.filterMap (fun a => (z_ty σ a).map (fun t => (a, z_cell KT dA σ a t)))).map Prod.fst).Sublist l
  | [] => by simp
  | a :: l => by
    have h := z_ws_fst KT dA σ l
    cases e : z_ty σ a with
    | none => simp only [List.filterMap_cons, e, Option.map_none]; exact h.trans (List.sublist_cons_self a l)
    | some t => simp only [List.filterMap_cons, e, Option.map_some, List.map_cons]; exact h.cons₂ a
theorem z_ws_inj {KT : Nat → List Nat} {dA : Nat → ClassId} {σ : z_S} {n i j : Nat} {p q : Nat × va_E} (hi : (z_ws KT dA σ n)[i]? = some p) (hj : (z_ws KT dA σ n)[j]? = some q) (h : p.1 = q.1) : i = j := by
  have hn : ((z_ws KT dA σ n).map Prod.fst).Nodup := List.Nodup.sublist (z_ws_fst KT dA σ (List.range n)) List.nodup_range
  have hl : i < ((z_ws KT dA σ n).map Prod.fst).length := by rw [List.length_map]; exact (List.getElem?_eq_some_iff.mp hi).1
  exact (List.getElem?_inj hl hn).mp (by rw [List.getElem?_map, List.getElem?_map, hi, hj]; simp [h])
theorem z_wsP {D : va_G} {cl : List vw_C} {KT : Nat → List Nat} {dA : Nat → ClassId} {Z : Nat} {σ : z_S} {H : Heap} (hG : z_G D cl KT dA Z σ H) : va_P D cl (z_ws KT dA σ H.size) H := by
  intro k q hk
  obtain ⟨t, h1, h2, -⟩ := z_ws_mem (List.mem_of_getElem? hk)
  obtain ⟨a, e⟩ := q
  dsimp only at h1 h2
  rw [h2]
  exact (hG a t h1).2
theorem z_wsD {D : va_G} {cl : List vw_C} {KT : Nat → List Nat} {dA : Nat → ClassId} {Z : Nat} {σ : z_S} {H : Heap} (hG : z_G D cl KT dA Z σ H) : va_D (fun q => Z ≤ q) (z_ws KT dA σ H.size) := by
  refine ⟨fun i j p q hi hj h => z_ws_inj hi hj h, fun k q hk => ?_⟩
  obtain ⟨t, h1, -, -⟩ := z_ws_mem (List.mem_of_getElem? hk)
  exact (hG _ t h1).1
theorem z_P1 {D : va_G} {cl : List vw_C} {q : Nat × va_E} {H : Heap} (h : va_at D cl q H) : va_P D cl [q] H := by
  intro k x hx
  match k, hx with
  | 0, hx => cases hx; exact h
/-- a cell is written: its place in the list, and the way back -/
theorem z_back {D : va_G} {cl : List vw_C} {KT : Nat → List Nat} {dA : Nat → ClassId} {Z : Nat} {σ : z_S} {H : Heap} (hG : z_G D cl KT dA Z σ H) {a : Nat} {t : Nat ⊕ (Nat × Nat × Nat)} (ht : z_ty σ a = some t) :
    ∃ q0 : Nat, (z_ws KT dA σ H.size)[q0]? = some (a, z_cell KT dA σ a t) ∧ ∀ (σ' : z_S) (e : va_E) (H1 : Heap), (∀ b, z_ty σ' b = z_ty σ b) → (∀ b, b ≠ a → ∀ u, z_cell KT dA σ' b u = z_cell KT dA σ b u) → e = z_cell KT dA σ' a t → va_P D cl ((z_ws KT dA σ H.size).set q0 (a, e)) H1 → z_G D cl KT dA Z σ' H1 := by
  obtain ⟨q0, h0⟩ := List.getElem?_of_mem (z_ws_in (KT := KT) (dA := dA) ht (hG a t ht).2.lt)
  refine ⟨q0, h0, fun σ' e H1 hty hc he hP b u hb => ?_⟩
  have hl : q0 < (z_ws KT dA σ H.size).length := (List.getElem?_eq_some_iff.mp h0).1
  rw [hty] at hb
  refine ⟨(hG b u hb).1, ?_⟩
  by_cases e1 : b = a
  · subst e1
    rw [ht] at hb
    cases hb
    have h1 := hP q0 (b, e) (by rw [List.getElem?_set_self hl])
    rw [he] at h1
    exact h1
  · rw [hc b e1 u]
    obtain ⟨j, hj⟩ := List.getElem?_of_mem (z_ws_in (KT := KT) (dA := dA) hb (hG b u hb).2.lt)
    have hne : q0 ≠ j := fun q => by
      subst q
      rw [h0] at hj
      exact e1 (congrArg Prod.fst (Option.some.inj hj)).symm
    exact hP j _ (by rw [List.getElem?_set_ne hne]; exact hj)
/-- a cell is made -/
theorem z_push {D : va_G} {cl : List vw_C} {KT : Nat → List Nat} {dA : Nat → ClassId} {Z : Nat} {σ : z_S} {H : Heap} (hG : z_G D cl KT dA Z σ H) {q : Nat} {e : va_E} {H1 : Heap} (hP : va_P D cl (z_ws KT dA σ H.size ++ [(q, e)]) H1) (hD : va_D (fun q => Z ≤ q) (z_ws KT dA σ H.size ++ [(q, e)])) :
    z_ty σ q = none ∧ ∀ (σ' : z_S) (t : Nat ⊕ (Nat × Nat × Nat)), z_ty σ' q = some t → (∀ b, b ≠ q → z_ty σ' b = z_ty σ b) → (∀ b, b ≠ q → ∀ u, z_cell KT dA σ' b u = z_cell KT dA σ b u) → e = z_cell KT dA σ' q t → z_G D cl KT dA Z σ' H1 := by
  have hq : (z_ws KT dA σ H.size ++ [(q, e)])[(z_ws KT dA σ H.size).length]? = some (q, e) := by simp
  have hn : z_ty σ q = none := by
    cases h : z_ty σ q with
    | none => rfl
    | some t =>
      obtain ⟨j, hj⟩ := List.getElem?_of_mem (z_ws_in (KT := KT) (dA := dA) h (hG q t h).2.lt)
      have hl : j < (z_ws KT dA σ H.size).length := (List.getElem?_eq_some_iff.mp hj).1
      have := hD.1 j _ (q, z_cell KT dA σ q t) (q, e) (by rw [List.getElem?_append_left hl]; exact hj) hq rfl
      omega
  refine ⟨hn, fun σ' t h1 h2 h3 h4 b u hb => ?_⟩
  by_cases e1 : b = q
  · subst e1
    rw [h1] at hb
    cases hb
    have := hP _ _ hq
    rw [h4] at this
    exact ⟨hD.2 _ _ hq, this⟩
  · rw [h2 b e1] at hb
    rw [h3 b e1 u]
    obtain ⟨j, hj⟩ := List.getElem?_of_mem (z_ws_in (KT := KT) (dA := dA) hb (hG b u hb).2.lt)
    have hl : j < (z_ws KT dA σ H.size).length := (List.getElem?_eq_some_iff.mp hj).1
    exact ⟨(hG b u hb).1, hP j _ (by rw [List.getElem?_append_left hl]; exact hj)⟩
theorem z_cell_sI {KT : Nat → List Nat} {dA : Nat → ClassId} {σ : z_S} {f a : Nat} {x : Int32} (b : Nat) (h : b ≠ a) (u : Nat ⊕ (Nat × Nat × Nat)) : z_cell KT dA (z_sI σ f a x) b u = z_cell KT dA σ b u := by
  rcases u with ci | ⟨k, n, t⟩
  · exact congrArg (fun z => Sum.inr (ci, z)) (z_fl_same (σ := σ) (σ' := z_sI σ f a x) (fun g => by rw [z_I_sI, if_neg (fun q => h q.2)]) (fun _ => rfl) _ _)
  · rfl
theorem z_cell_sR {KT : Nat → List Nat} {dA : Nat → ClassId} {σ : z_S} {f a : Nat} {x : Option Nat} (b : Nat) (h : b ≠ a) (u : Nat ⊕ (Nat × Nat × Nat)) : z_cell KT dA (z_sR σ f a x) b u = z_cell KT dA σ b u := by
  rcases u with ci | ⟨k, n, t⟩
  · exact congrArg (fun z => Sum.inr (ci, z)) (z_fl_same (σ := σ) (σ' := z_sR σ f a x) (fun _ => rfl) (fun g => by rw [z_R_sR, if_neg (fun q => h q.2)]) _ _)
  · rfl
theorem z_cell_sA {KT : Nat → List Nat} {dA : Nat → ClassId} {σ : z_S} {f a : Nat} {x : Nat → Int32} (b : Nat) (h : b ≠ a) (u : Nat ⊕ (Nat × Nat × Nat)) : z_cell KT dA (z_sA σ f a x) b u = z_cell KT dA σ b u := by
  rcases u with ci | ⟨k, n, t⟩
  · exact congrArg (fun z => Sum.inr (ci, z)) (z_fl_same (σ := σ) (σ' := z_sA σ f a x) (fun _ => rfl) (fun _ => rfl) _ _)
  · simp only [z_cell, z_A_sA, z_Q_sA, if_neg (fun q : t = f ∧ b = a => h q.2)]
theorem z_cell_sQ {KT : Nat → List Nat} {dA : Nat → ClassId} {σ : z_S} {f a : Nat} {x : Nat → Option Nat} (b : Nat) (h : b ≠ a) (u : Nat ⊕ (Nat × Nat × Nat)) : z_cell KT dA (z_sQ σ f a x) b u = z_cell KT dA σ b u := by
  rcases u with ci | ⟨k, n, t⟩
  · exact congrArg (fun z => Sum.inr (ci, z)) (z_fl_same (σ := σ) (σ' := z_sQ σ f a x) (fun _ => rfl) (fun _ => rfl) _ _)
  · simp only [z_cell, z_A_sQ, z_Q_sQ, if_neg (fun q : t = f ∧ b = a => h q.2)]
theorem z_cell_new {KT : Nat → List Nat} {dA : Nat → ClassId} {σ : z_S} {q ci : Nat} (b : Nat) (h : b ≠ q) (u : Nat ⊕ (Nat × Nat × Nat)) : z_cell KT dA (z_new σ q ci) b u = z_cell KT dA σ b u := by
  rcases u with c2 | ⟨k, n, t⟩
  · exact congrArg (fun z => Sum.inr (c2, z)) (z_fl_same (σ := σ) (σ' := z_new σ q ci) (fun g => by rw [z_I_new, if_neg h]) (fun g => by rw [z_R_new, if_neg h]) _ _)
  · rfl
theorem z_cell_arr {KT : Nat → List Nat} {dA : Nat → ClassId} {σ : z_S} {q k0 n0 t0 : Nat} (b : Nat) (h : b ≠ q) (u : Nat ⊕ (Nat × Nat × Nat)) : z_cell KT dA (z_arr σ q k0 n0 t0) b u = z_cell KT dA σ b u := by
  rcases u with c2 | ⟨k, n, t⟩
  · exact congrArg (fun z => Sum.inr (c2, z)) (z_fl_same (σ := σ) (σ' := z_arr σ q k0 n0 t0) (fun _ => rfl) (fun _ => rfl) _ _)
  · simp only [z_cell, z_A_arr, z_Q_arr, if_neg h]
section ZRows
variable {p : Program} {l : Launch} {e : Env} {R : Room} {s : State} {m : MethodId} {args : Array Value} {below : List Frame} {meth : Method} {c : Code} {H : Heap} {locs : List Loc} {cells slots : Nat} {Q : State → Prop}
variable {cc : ByteArray} {pc : Nat} {ls : Array Slot} {rest : List Value} {D : va_G} {cl : List vw_C} {a : Nat} {tys : List (ClassId × FieldType)} {H0 : Heap} {KT : Nat → List Nat} {dA : Nat → ClassId} {Z : Nat} {σ : z_S}
theorem zr_getI (hexec : p.tables.exec = Jvm.exec) (hb : c.code = cc) {own ref C : String} {T : u_T} {N ci index : Nat} {Ts : List Cond} (hts : ∀ w ∈ Ts, w.before args s = true) (hin : ∀ w ∈ u_ws C T N, w ∈ Ts) (hown : s.vm.findClass own = some m.cls) (hK : va_K D cl tys s) (hG : z_G D cl KT dA Z σ H) (hty : z_ty σ a = some (.inl ci)) (hc : cl[ci]? = some (C, T, N)) (k : Nat) (hk : k < N) (hlink : (Cond.fieldLink own index ref (T k).2.1 (T k).2.2.1).before args s = true) (hsame : ∀ x, s.fieldFound? (T k).1 (T k).2.1 (T k).2.2.1 = some x → s.fieldFound? ref (T k).2.1 (T k).2.2.1 = some x) (hf : (KT ci)[k]? = some 0) {f : Nat} (ef : 100 * ci + k = f) (hdg : decode cc pc = .ok (.getfield index, 3))
    (kk : W p l e R s m args below meth c H locs cells slots Q (F0 m (pc + 3) ls (.int (z_I σ f a) :: rest))) : W p l e R s m args below meth c H locs cells slots Q (F0 m pc ls (.ref a :: rest)) := by
  subst ef
  exact va_get (ws := [(a, .inr (ci, z_fl σ a (KT ci) (100 * ci)))]) hexec hb hts hin hown hK (z_P1 (hG a _ hty).2) 0 rfl hc k hk hlink hsame (z_fl_I hf) hdg kk
theorem zr_getR (hexec : p.tables.exec = Jvm.exec) (hb : c.code = cc) {own ref C : String} {T : u_T} {N ci index : Nat} {Ts : List Cond} (hts : ∀ w ∈ Ts, w.before args s = true) (hin : ∀ w ∈ u_ws C T N, w ∈ Ts) (hown : s.vm.findClass own = some m.cls) (hK : va_K D cl tys s) (hG : z_G D cl KT dA Z σ H) (hty : z_ty σ a = some (.inl ci)) (hc : cl[ci]? = some (C, T, N)) (k : Nat) (hk : k < N) (hlink : (Cond.fieldLink own index ref (T k).2.1 (T k).2.2.1).before args s = true) (hsame : ∀ x, s.fieldFound? (T k).1 (T k).2.1 (T k).2.2.1 = some x → s.fieldFound? ref (T k).2.1 (T k).2.2.1 = some x) (hf : (KT ci)[k]? = some 1) {f b : Nat} (ef : 100 * ci + k = f) (hr : z_R σ f a = some b) (hdg : decode cc pc = .ok (.getfield index, 3))
    (kk : W p l e R s m args below meth c H locs cells slots Q (F0 m (pc + 3) ls (.ref b :: rest))) : W p l e R s m args below meth c H locs cells slots Q (F0 m pc ls (.ref a :: rest)) := by
  subst ef
  exact va_get (ws := [(a, .inr (ci, z_fl σ a (KT ci) (100 * ci)))]) hexec hb hts hin hown hK (z_P1 (hG a _ hty).2) 0 rfl hc k hk hlink hsame (z_fl_R hf hr) hdg kk
theorem zr_getIN (hexec : p.tables.exec = Jvm.exec) (hb : c.code = cc) {own ref C host : String} {T : u_T} {N ci index : Nat} {Ts : List Cond} (hts : ∀ w ∈ Ts, w.before args s = true) (hin : ∀ w ∈ u_ws C T N, w ∈ Ts) (hown : s.vm.findClass own = some m.cls) (hK : va_K D cl tys s) (hG : z_G D cl KT dA Z σ H) (hty : z_ty σ a = some (.inl ci)) (hc : cl[ci]? = some (C, T, N)) (k : Nat) (hk : k < N) (hlink : (Cond.fieldLinkNest own index ref (T k).2.1 (T k).2.2.1 host).before args s = true) (hsame : ∀ x, s.fieldFound? (T k).1 (T k).2.1 (T k).2.2.1 = some x → s.fieldFound? ref (T k).2.1 (T k).2.2.1 = some x) (hf : (KT ci)[k]? = some 0) {f : Nat} (ef : 100 * ci + k = f) (hdg : decode cc pc = .ok (.getfield index, 3))
    (kk : W p l e R s m args below meth c H locs cells slots Q (F0 m (pc + 3) ls (.int (z_I σ f a) :: rest))) : W p l e R s m args below meth c H locs cells slots Q (F0 m pc ls (.ref a :: rest)) := by
  subst ef
  exact va_getN (ws := [(a, .inr (ci, z_fl σ a (KT ci) (100 * ci)))]) hexec hb hts hin hown hK (z_P1 (hG a _ hty).2) 0 rfl hc k hk hlink hsame (z_fl_I hf) hdg kk
theorem zr_getRN (hexec : p.tables.exec = Jvm.exec) (hb : c.code = cc) {own ref C host : String} {T : u_T} {N ci index : Nat} {Ts : List Cond} (hts : ∀ w ∈ Ts, w.before args s = true) (hin : ∀ w ∈ u_ws C T N, w ∈ Ts) (hown : s.vm.findClass own = some m.cls) (hK : va_K D cl tys s) (hG : z_G D cl KT dA Z σ H) (hty : z_ty σ a = some (.inl ci)) (hc : cl[ci]? = some (C, T, N)) (k : Nat) (hk : k < N) (hlink : (Cond.fieldLinkNest own index ref (T k).2.1 (T k).2.2.1 host).before args s = true) (hsame : ∀ x, s.fieldFound? (T k).1 (T k).2.1 (T k).2.2.1 = some x → s.fieldFound? ref (T k).2.1 (T k).2.2.1 = some x) (hf : (KT ci)[k]? = some 1) {f b : Nat} (ef : 100 * ci + k = f) (hr : z_R σ f a = some b) (hdg : decode cc pc = .ok (.getfield index, 3))
    (kk : W p l e R s m args below meth c H locs cells slots Q (F0 m (pc + 3) ls (.ref b :: rest))) : W p l e R s m args below meth c H locs cells slots Q (F0 m pc ls (.ref a :: rest)) := by
  subst ef
  exact va_getN (ws := [(a, .inr (ci, z_fl σ a (KT ci) (100 * ci)))]) hexec hb hts hin hown hK (z_P1 (hG a _ hty).2) 0 rfl hc k hk hlink hsame (z_fl_R hf hr) hdg kk
theorem zr_putI (hexec : p.tables.exec = Jvm.exec) (hb : c.code = cc) {own ref C : String} {T : u_T} {N ci index : Nat} {Ts : List Cond} (hts : ∀ w ∈ Ts, w.before args s = true) (hin : ∀ w ∈ u_ws C T N, w ∈ Ts) (ty0 : Nat → FieldType) (hty0 : ∀ k, k < N → parseFieldDescriptor (T k).2.2.1 = some (ty0 k)) (hnm : ∀ a, a < N → ∀ b, b < N → a ≠ b → (T a).2.1 ≠ (T b).2.1) (hown : s.vm.findClass own = some m.cls) (hK : va_K D cl tys s) (hG : z_G D cl KT dA Z σ H) (hS : va_S (fun q => Z ≤ q) H0 H locs) (hty : z_ty σ a = some (.inl ci)) (hc : cl[ci]? = some (C, T, N)) (k : Nat) (hk : k < N) (hlink : (Cond.fieldLink own index ref (T k).2.1 (T k).2.2.1).before args s = true) (hsame : ∀ x, s.fieldFound? (T k).1 (T k).2.1 (T k).2.2.1 = some x → s.fieldFound? ref (T k).2.1 (T k).2.2.1 = some x) (hfin : (T k).2.2.2 = false) {x : Int32} (hn : narrow (ty0 k) (.int x) = .int x) (hfit : fits (ty0 k) (.int x) = true) (hf : (KT ci)[k]? = some 0) {f : Nat} (ef : 100 * ci + k = f)
    (hdg : decode cc pc = .ok (.putfield index, 3)) (kk : ∀ (H1 : Heap) (locs1 : List Loc), z_G D cl KT dA Z (z_sI σ f a x) H1 → va_S (fun q => Z ≤ q) H0 H1 locs1 → W p l e R s m args below meth c H1 locs1 cells slots Q (F0 m (pc + 3) ls rest)) : W p l e R s m args below meth c H locs cells slots Q (F0 m pc ls (.int x :: .ref a :: rest)) := by
  subst ef
  obtain ⟨q0, h0, hback⟩ := z_back hG hty
  refine va_put (ws := z_ws KT dA σ H.size) hexec hb hts hin ty0 hty0 hnm hown hK (z_wsP hG) (z_wsD hG) hS q0 h0 hc k hk hlink hsame hfin (hty0 k hk) hn hfit (by rw [z_fl_len]; exact (List.getElem?_eq_some_iff.mp hf).1) hdg (fun H1 locs1 hP _ hS1 => kk H1 locs1 (hback _ _ H1 (fun b => rfl) z_cell_sI ?_ hP) hS1)
  exact congrArg (fun z => Sum.inr (ci, z)) (z_fl_setI hf)
theorem zr_putR (hexec : p.tables.exec = Jvm.exec) (hb : c.code = cc) {own ref C : String} {T : u_T} {N ci index : Nat} {Ts : List Cond} (hts : ∀ w ∈ Ts, w.before args s = true) (hin : ∀ w ∈ u_ws C T N, w ∈ Ts) (ty0 : Nat → FieldType) (hty0 : ∀ k, k < N → parseFieldDescriptor (T k).2.2.1 = some (ty0 k)) (hnm : ∀ a, a < N → ∀ b, b < N → a ≠ b → (T a).2.1 ≠ (T b).2.1) (hown : s.vm.findClass own = some m.cls) (hK : va_K D cl tys s) (hG : z_G D cl KT dA Z σ H) (hS : va_S (fun q => Z ≤ q) H0 H locs) (hty : z_ty σ a = some (.inl ci)) (hc : cl[ci]? = some (C, T, N)) (k : Nat) (hk : k < N) (hlink : (Cond.fieldLink own index ref (T k).2.1 (T k).2.2.1).before args s = true) (hsame : ∀ x, s.fieldFound? (T k).1 (T k).2.1 (T k).2.2.1 = some x → s.fieldFound? ref (T k).2.1 (T k).2.2.1 = some x) (hfin : (T k).2.2.2 = false) {x : Nat} (hn : narrow (ty0 k) (.ref x) = .ref x) (hfit : fits (ty0 k) (.ref x) = true) (hf : (KT ci)[k]? = some 1) {f : Nat} (ef : 100 * ci + k = f)
    (hdg : decode cc pc = .ok (.putfield index, 3)) (kk : ∀ (H1 : Heap) (locs1 : List Loc), z_G D cl KT dA Z (z_sR σ f a (some x)) H1 → va_S (fun q => Z ≤ q) H0 H1 locs1 → W p l e R s m args below meth c H1 locs1 cells slots Q (F0 m (pc + 3) ls rest)) : W p l e R s m args below meth c H locs cells slots Q (F0 m pc ls (.ref x :: .ref a :: rest)) := by
  subst ef
  obtain ⟨q0, h0, hback⟩ := z_back hG hty
  refine va_put (ws := z_ws KT dA σ H.size) hexec hb hts hin ty0 hty0 hnm hown hK (z_wsP hG) (z_wsD hG) hS q0 h0 hc k hk hlink hsame hfin (hty0 k hk) hn hfit (by rw [z_fl_len]; exact (List.getElem?_eq_some_iff.mp hf).1) hdg (fun H1 locs1 hP _ hS1 => kk H1 locs1 (hback _ _ H1 (fun b => rfl) z_cell_sR ?_ hP) hS1)
  exact congrArg (fun z => Sum.inr (ci, z)) (z_fl_setR hf)
theorem zr_putIF (hexec : p.tables.exec = Jvm.exec) (hb : c.code = cc) {own ref C : String} {T : u_T} {N ci index : Nat} {Ts : List Cond} (hts : ∀ w ∈ Ts, w.before args s = true) (hin : ∀ w ∈ u_ws C T N, w ∈ Ts) (ty0 : Nat → FieldType) (hty0 : ∀ k, k < N → parseFieldDescriptor (T k).2.2.1 = some (ty0 k)) (hnm : ∀ a, a < N → ∀ b, b < N → a ≠ b → (T a).2.1 ≠ (T b).2.1) (hown : s.vm.findClass own = some m.cls) (hK : va_K D cl tys s) (hG : z_G D cl KT dA Z σ H) (hS : va_S (fun q => Z ≤ q) H0 H locs) (hty : z_ty σ a = some (.inl ci)) (hc : cl[ci]? = some (C, T, N)) (k : Nat) (hk : k < N) (hlink : (Cond.fieldLink own index ref (T k).2.1 (T k).2.2.1).before args s = true) (hsame : ∀ x, s.fieldFound? (T k).1 (T k).2.1 (T k).2.2.1 = some x → s.fieldFound? ref (T k).2.1 (T k).2.2.1 = some x) (hfin : (T k).2.2.2 = true) (hin2 : meth.name = "<init>") (hdecl : (T k).1 = own) {x : Int32} (hn : narrow (ty0 k) (.int x) = .int x) (hfit : fits (ty0 k) (.int x) = true) (hf : (KT ci)[k]? = some 0) {f : Nat} (ef : 100 * ci + k = f)
    (hdg : decode cc pc = .ok (.putfield index, 3)) (kk : ∀ (H1 : Heap) (locs1 : List Loc), z_G D cl KT dA Z (z_sI σ f a x) H1 → va_S (fun q => Z ≤ q) H0 H1 locs1 → W p l e R s m args below meth c H1 locs1 cells slots Q (F0 m (pc + 3) ls rest)) : W p l e R s m args below meth c H locs cells slots Q (F0 m pc ls (.int x :: .ref a :: rest)) := by
  subst ef
  obtain ⟨q0, h0, hback⟩ := z_back hG hty
  refine va_putF (ws := z_ws KT dA σ H.size) hexec hb hts hin ty0 hty0 hnm hown hK (z_wsP hG) (z_wsD hG) hS q0 h0 hc k hk hlink hsame hfin hin2 hdecl (hty0 k hk) hn hfit (by rw [z_fl_len]; exact (List.getElem?_eq_some_iff.mp hf).1) hdg (fun H1 locs1 hP _ hS1 => kk H1 locs1 (hback _ _ H1 (fun b => rfl) z_cell_sI ?_ hP) hS1)
  exact congrArg (fun z => Sum.inr (ci, z)) (z_fl_setI hf)
theorem zr_putRF (hexec : p.tables.exec = Jvm.exec) (hb : c.code = cc) {own ref C : String} {T : u_T} {N ci index : Nat} {Ts : List Cond} (hts : ∀ w ∈ Ts, w.before args s = true) (hin : ∀ w ∈ u_ws C T N, w ∈ Ts) (ty0 : Nat → FieldType) (hty0 : ∀ k, k < N → parseFieldDescriptor (T k).2.2.1 = some (ty0 k)) (hnm : ∀ a, a < N → ∀ b, b < N → a ≠ b → (T a).2.1 ≠ (T b).2.1) (hown : s.vm.findClass own = some m.cls) (hK : va_K D cl tys s) (hG : z_G D cl KT dA Z σ H) (hS : va_S (fun q => Z ≤ q) H0 H locs) (hty : z_ty σ a = some (.inl ci)) (hc : cl[ci]? = some (C, T, N)) (k : Nat) (hk : k < N) (hlink : (Cond.fieldLink own index ref (T k).2.1 (T k).2.2.1).before args s = true) (hsame : ∀ x, s.fieldFound? (T k).1 (T k).2.1 (T k).2.2.1 = some x → s.fieldFound? ref (T k).2.1 (T k).2.2.1 = some x) (hfin : (T k).2.2.2 = true) (hin2 : meth.name = "<init>") (hdecl : (T k).1 = own) {x : Nat} (hn : narrow (ty0 k) (.ref x) = .ref x) (hfit : fits (ty0 k) (.ref x) = true) (hf : (KT ci)[k]? = some 1) {f : Nat} (ef : 100 * ci + k = f)
    (hdg : decode cc pc = .ok (.putfield index, 3)) (kk : ∀ (H1 : Heap) (locs1 : List Loc), z_G D cl KT dA Z (z_sR σ f a (some x)) H1 → va_S (fun q => Z ≤ q) H0 H1 locs1 → W p l e R s m args below meth c H1 locs1 cells slots Q (F0 m (pc + 3) ls rest)) : W p l e R s m args below meth c H locs cells slots Q (F0 m pc ls (.ref x :: .ref a :: rest)) := by
  subst ef
  obtain ⟨q0, h0, hback⟩ := z_back hG hty
  refine va_putF (ws := z_ws KT dA σ H.size) hexec hb hts hin ty0 hty0 hnm hown hK (z_wsP hG) (z_wsD hG) hS q0 h0 hc k hk hlink hsame hfin hin2 hdecl (hty0 k hk) hn hfit (by rw [z_fl_len]; exact (List.getElem?_eq_some_iff.mp hf).1) hdg (fun H1 locs1 hP _ hS1 => kk H1 locs1 (hback _ _ H1 (fun b => rfl) z_cell_sR ?_ hP) hS1)
  exact congrArg (fun z => Sum.inr (ci, z)) (z_fl_setR hf)
-- arrays
theorem zr_iald (hexec : p.tables.exec = Jvm.exec) (hb : c.code = cc) (hK : va_K D cl tys s) (hG : z_G D cl KT dA Z σ H) (t0 : Nat) {n t : Nat} (hty : z_ty σ a = some (.inr (0, n, t))) (ht : tys[t0]? = some (dA 0, .int)) {i : Int32} (hin : vp_in i n) (hdg : decode cc pc = .ok (.iaload, 1))
    (kk : W p l e R s m args below meth c H locs cells slots Q (F0 m (pc + 1) ls (.int (z_A σ t a i.toNatClampNeg) :: rest))) : W p l e R s m args below meth c H locs cells slots Q (F0 m pc ls (.int i :: .ref a :: rest)) :=
  va_iald (ws := [(a, z_cell KT dA σ a (.inr (0, n, t)))]) hexec hb hK (z_P1 (hG a _ hty).2) 0 t0 (cA := dA 0) (n := n) (f := z_A σ t a) rfl ht hin hdg kk
theorem zr_bald (hexec : p.tables.exec = Jvm.exec) (hb : c.code = cc) (hK : va_K D cl tys s) (hG : z_G D cl KT dA Z σ H) (t0 : Nat) {n t : Nat} (hty : z_ty σ a = some (.inr (1, n, t))) (ht : tys[t0]? = some (dA 1, .byte)) {i : Int32} (hin : vp_in i n) (hdg : decode cc pc = .ok (.baload, 1))
    (kk : W p l e R s m args below meth c H locs cells slots Q (F0 m (pc + 1) ls (.int (z_A σ t a i.toNatClampNeg) :: rest))) : W p l e R s m args below meth c H locs cells slots Q (F0 m pc ls (.int i :: .ref a :: rest)) :=
  va_bald (ws := [(a, z_cell KT dA σ a (.inr (1, n, t)))]) hexec hb hK (z_P1 (hG a _ hty).2) 0 t0 (cA := dA 1) (n := n) (f := z_A σ t a) rfl ht hin hdg kk
theorem zr_zald (hexec : p.tables.exec = Jvm.exec) (hb : c.code = cc) (hK : va_K D cl tys s) (hG : z_G D cl KT dA Z σ H) (t0 : Nat) {n t : Nat} (hty : z_ty σ a = some (.inr (2, n, t))) (ht : tys[t0]? = some (dA 2, .boolean)) {i : Int32} (hin : vp_in i n) (hdg : decode cc pc = .ok (.baload, 1))
    (kk : W p l e R s m args below meth c H locs cells slots Q (F0 m (pc + 1) ls (.int (z_A σ t a i.toNatClampNeg) :: rest))) : W p l e R s m args below meth c H locs cells slots Q (F0 m pc ls (.int i :: .ref a :: rest)) :=
  va_zald (ws := [(a, z_cell KT dA σ a (.inr (2, n, t)))]) hexec hb hK (z_P1 (hG a _ hty).2) 0 t0 (cA := dA 2) (n := n) (f := z_A σ t a) rfl ht hin hdg kk
theorem zr_iast (hexec : p.tables.exec = Jvm.exec) (hb : c.code = cc) (hK : va_K D cl tys s) (hG : z_G D cl KT dA Z σ H) (hS : va_S (fun q => Z ≤ q) H0 H locs) (t0 : Nat) {n t : Nat} (hty : z_ty σ a = some (.inr (0, n, t))) (ht : tys[t0]? = some (dA 0, .int)) {i x : Int32} (hin : vp_in i n) (hdg : decode cc pc = .ok (.iastore, 1))
    (kk : ∀ (H1 : Heap) (locs1 : List Loc), z_G D cl KT dA Z (z_sA σ t a (upd (z_A σ t a) i.toNatClampNeg x)) H1 → va_S (fun q => Z ≤ q) H0 H1 locs1 → W p l e R s m args below meth c H1 locs1 cells slots Q (F0 m (pc + 1) ls rest)) : W p l e R s m args below meth c H locs cells slots Q (F0 m pc ls (.int x :: .int i :: .ref a :: rest)) := by
  obtain ⟨q0, h0, hback⟩ := z_back hG hty
  refine va_iast (ws := z_ws KT dA σ H.size) hexec hb hK (z_wsP hG) (z_wsD hG) hS q0 t0 (cA := dA 0) (n := n) (f := z_A σ t a) h0 ht hin hdg (fun H1 locs1 hP _ hS1 => kk H1 locs1 (hback _ _ H1 (fun b => rfl) z_cell_sA ?_ hP) hS1)
  simp [z_cell, z_A_sA]
theorem zr_bast (hexec : p.tables.exec = Jvm.exec) (hb : c.code = cc) (hK : va_K D cl tys s) (hG : z_G D cl KT dA Z σ H) (hS : va_S (fun q => Z ≤ q) H0 H locs) (t0 : Nat) {n t : Nat} (hty : z_ty σ a = some (.inr (1, n, t))) (ht : tys[t0]? = some (dA 1, .byte)) {i x : Int32} (hin : vp_in i n) (hdg : decode cc pc = .ok (.bastore, 1))
    (kk : ∀ (H1 : Heap) (locs1 : List Loc), z_G D cl KT dA Z (z_sA σ t a (upd (z_A σ t a) i.toNatClampNeg (vp_nar .byte x))) H1 → va_S (fun q => Z ≤ q) H0 H1 locs1 → W p l e R s m args below meth c H1 locs1 cells slots Q (F0 m (pc + 1) ls rest)) : W p l e R s m args below meth c H locs cells slots Q (F0 m pc ls (.int x :: .int i :: .ref a :: rest)) := by
  obtain ⟨q0, h0, hback⟩ := z_back hG hty
  refine va_bast (ws := z_ws KT dA σ H.size) hexec hb hK (z_wsP hG) (z_wsD hG) hS q0 t0 (cA := dA 1) (n := n) (f := z_A σ t a) h0 ht hin hdg (fun H1 locs1 hP _ hS1 => kk H1 locs1 (hback _ _ H1 (fun b => rfl) z_cell_sA ?_ hP) hS1)
  simp [z_cell, z_A_sA]
theorem zr_zast (hexec : p.tables.exec = Jvm.exec) (hb : c.code = cc) (hK : va_K D cl tys s) (hG : z_G D cl KT dA Z σ H) (hS : va_S (fun q => Z ≤ q) H0 H locs) (t0 : Nat) {n t : Nat} (hty : z_ty σ a = some (.inr (2, n, t))) (ht : tys[t0]? = some (dA 2, .boolean)) {i x : Int32} (hin : vp_in i n) (hdg : decode cc pc = .ok (.bastore, 1))
    (kk : ∀ (H1 : Heap) (locs1 : List Loc), z_G D cl KT dA Z (z_sA σ t a (upd (z_A σ t a) i.toNatClampNeg (vp_nar .boolean x))) H1 → va_S (fun q => Z ≤ q) H0 H1 locs1 → W p l e R s m args below meth c H1 locs1 cells slots Q (F0 m (pc + 1) ls rest)) : W p l e R s m args below meth c H locs cells slots Q (F0 m pc ls (.int x :: .int i :: .ref a :: rest)) := by
  obtain ⟨q0, h0, hback⟩ := z_back hG hty
  refine va_zast (ws := z_ws KT dA σ H.size) hexec hb hK (z_wsP hG) (z_wsD hG) hS q0 t0 (cA := dA 2) (n := n) (f := z_A σ t a) h0 ht hin hdg (fun H1 locs1 hP _ hS1 => kk H1 locs1 (hback _ _ H1 (fun b => rfl) z_cell_sA ?_ hP) hS1)
  simp [z_cell, z_A_sA]
theorem zr_aald (hexec : p.tables.exec = Jvm.exec) (hb : c.code = cc) (hK : va_K D cl tys s) (hG : z_G D cl KT dA Z σ H) (t0 : Nat) {k n t b : Nat} {C : String} (hk : ¬ k < 8) (hty : z_ty σ a = some (.inr (k, n, t))) (ht : tys[t0]? = some (dA k, .object C)) {i : Int32} (hin : vp_in i n) (hr : z_Q σ t a i.toNatClampNeg = some b) (hdg : decode cc pc = .ok (.aaload, 1))
    (kk : W p l e R s m args below meth c H locs cells slots Q (F0 m (pc + 1) ls (.ref b :: rest))) : W p l e R s m args below meth c H locs cells slots Q (F0 m pc ls (.int i :: .ref a :: rest)) := by
  refine va_aldq (ws := [(a, z_cell KT dA σ a (.inr (k, n, t)))]) hexec hb hK (z_P1 (hG a _ hty).2) 0 t0 (cA := dA k) (n := n) (f := z_Q σ t a) (by simp [z_cell, hk]) ht hin hdg ?_
  rw [hr]
  exact kk
theorem zr_aast (hexec : p.tables.exec = Jvm.exec) (hb : c.code = cc) (hK : va_K D cl tys s) (hG : z_G D cl KT dA Z σ H) (hS : va_S (fun q => Z ≤ q) H0 H locs) (t0 ci : Nat) {k n t v : Nat} {r : vw_C} (hk : ¬ k < 8) (hty : z_ty σ a = some (.inr (k, n, t))) (ht : tys[t0]? = some (dA k, .object r.1)) (hv : z_ty σ v = some (.inl ci)) (hc : cl[ci]? = some r) {i : Int32} (hin : vp_in i n) (hdg : decode cc pc = .ok (.aastore, 1))
    (kk : ∀ (H1 : Heap) (locs1 : List Loc), z_G D cl KT dA Z (z_sQ σ t a (va_up (z_Q σ t a) i.toNatClampNeg (some v))) H1 → va_S (fun q => Z ≤ q) H0 H1 locs1 → W p l e R s m args below meth c H1 locs1 cells slots Q (F0 m (pc + 1) ls rest)) : W p l e R s m args below meth c H locs cells slots Q (F0 m pc ls (.ref v :: .int i :: .ref a :: rest)) := by
  obtain ⟨q0, h0, hback⟩ := z_back hG hty
  obtain ⟨q1, h1, -⟩ := z_back hG hv
  refine va_astq (ws := z_ws KT dA σ H.size) hexec hb hK (z_wsP hG) (z_wsD hG) hS q0 t0 q1 ci (cA := dA k) (n := n) (f := z_Q σ t a) (by rw [h0]; simp [z_cell, hk]) ht h1 hc hin hdg (fun H1 locs1 hP _ hS1 => kk H1 locs1 (hback _ _ H1 (fun b => rfl) z_cell_sQ ?_ hP) hS1)
  simp [z_cell, z_Q_sQ, hk]
theorem zr_alen (hexec : p.tables.exec = Jvm.exec) (hb : c.code = cc) (hK : va_K D cl tys s) (hG : z_G D cl KT dA Z σ H) (t0 : Nat) {k n t : Nat} (hty : z_ty σ a = some (.inr (k, n, t))) {ty : FieldType} (ht : tys[t0]? = some (dA k, ty)) (hdg : decode cc pc = .ok (.arraylength, 1))
    (kk : W p l e R s m args below meth c H locs cells slots Q (F0 m (pc + 1) ls (.int (nI n) :: rest))) : W p l e R s m args below meth c H locs cells slots Q (F0 m pc ls (.ref a :: rest)) :=
  va_alen (ws := [(a, z_cell KT dA σ a (.inr (k, n, t)))]) hexec hb hK (z_P1 (hG a _ hty).2) 0 t0 rfl ht rfl hdg kk
-- making
theorem zr_new {c0 : Code} (hexec : p.tables.exec = Jvm.exec) (hb : c0.code = cc) {own C : String} {T : u_T} {N ci index : Nat} {Ts : List Cond} (hts : ∀ w ∈ Ts, w.before args s = true) (hin : ∀ w ∈ u_ws C T N, w ∈ Ts) (ty : Nat → FieldType) (hty : ∀ k, k < N → parseFieldDescriptor (T k).2.2.1 = some (ty k)) (hown : s.vm.findClass own = some m.cls) (hcl : (Cond.classLink own index C).before args s = true) (hinst : (Cond.instantiable C N).before args s = true) (hini : (Cond.initialized C).before args s = true)
    (hK : va_K D cl tys s) (hG : z_G D cl KT dA Z σ H) (hS : va_S (fun q => Z ≤ q) H0 H locs) (hZ : Z ≤ H0.size) (hc : cl[ci]? = some (C, T, N)) (hfs : ∀ j, j < N → defaultValue (ty j) = vp_V (z_df (KT ci)) j) (hcells : cells + 1 ≤ R.cells) (hslots : slots + N ≤ R.slots) (hdg : decode cc pc = .ok (.new index, 3))
    (kk : ∀ (q : Nat) (H1 : Heap), z_ty σ q = none → z_G D cl KT dA Z (z_new σ q ci) H1 → va_S (fun q => Z ≤ q) H0 H1 locs → W p l e R s m args below meth c0 H1 locs (cells + 1) (slots + N) Q (F0 m (pc + 3) ls (.ref q :: rest))) : W p l e R s m args below meth c0 H locs cells slots Q (F0 m pc ls rest) := by
  refine va_new (ws := z_ws KT dA σ H.size) hexec hb hts hin ty hty hown hcl hinst hini hK (z_wsP hG) (z_wsD hG) hS (fun q h => Nat.le_trans hZ h) hc hfs hcells hslots hdg (fun q H1 hP hD hS1 => ?_)
  obtain ⟨h1, h2⟩ := z_push hG hP hD
  refine kk q H1 h1 (h2 (z_new σ q ci) (.inl ci) (by rw [z_ty_new, if_pos rfl]) (fun b h => by rw [z_ty_new, if_neg h]) z_cell_new ?_) hS1
  exact congrArg (fun z => Sum.inr (ci, z)) (z_fl_new σ q ci _ _).symm
theorem zr_newa (hexec : p.tables.exec = Jvm.exec) (hb : c.code = cc) {atype : ArrayType} (harr : (Cond.arrayClass (newarray.typeOf atype)).before args s = true) {ty : FieldType} (hty : newarray.typeOf atype = ty) (hK : va_K D cl tys s) (hG : z_G D cl KT dA Z σ H) (hS : va_S (fun q => Z ≤ q) H0 H locs) (hZ : Z ≤ H0.size)
    (k t0 site : Nat) (hk : k < 8) (ht : tys[t0]? = some (dA k, ty)) (hra : ∀ (U : State) (cA : ClassId), va_RA U cA ty → va_RA U (dA k) ty → cA = dA k) (hd : defaultValue ty = .int 0) {n : Int32} {N' : Nat} (hn : ¬ n < 0) (hN : n.toNatClampNeg = N') (hbytes : N' * componentBytes ty ≤ 536870912) (hcells : cells + 1 ≤ R.cells) (hslots : slots + N' ≤ R.slots) (hdg : decode cc pc = .ok (.newarray atype, 2))
    (kk : ∀ (q : Nat) (H1 : Heap), z_ty σ q = none → z_G D cl KT dA Z (z_arr σ q k N' site) H1 → va_S (fun q => Z ≤ q) H0 H1 locs → W p l e R s m args below meth c H1 locs (cells + 1) (slots + N') Q (F0 m (pc + 2) ls (.ref q :: rest))) : W p l e R s m args below meth c H locs cells slots Q (F0 m pc ls (.int n :: rest)) := by
  refine va_newa (ws := z_ws KT dA σ H.size) (a0 := (N', .inl (fun _ => 0))) hexec hb harr hty hK (z_wsP hG) (z_wsD hG) hS (fun q h => Nat.le_trans hZ h) (fun cA => by rw [hd]; rfl) hn hN hbytes hcells hslots hdg (fun q cA H1 hK1 hP hD hS1 => ?_)
  have e1 : cA = dA k := hra s cA (hK1.2 tys.length (cA, ty) (by simp)).2 (hK.2 t0 _ ht).2
  subst e1
  obtain ⟨h1, h2⟩ := z_push hG hP hD
  refine kk q H1 h1 (h2 (z_arr σ q k N' site) (.inr (k, N', site)) (by rw [z_ty_arr, if_pos rfl]) (fun b h => by rw [z_ty_arr, if_neg h]) z_cell_arr ?_) hS1
  simp [z_cell, z_A_arr, hk]
theorem zr_newq (hexec : p.tables.exec = Jvm.exec) (hb : c.code = cc) {own C : String} {index : Nat} (hown : s.vm.findClass own = some m.cls) (hclink : (Cond.classLink own index C).before args s = true) (hover : va_AO C s) (hK : va_K D cl tys s) (hG : z_G D cl KT dA Z σ H) (hS : va_S (fun q => Z ≤ q) H0 H locs) (hZ : Z ≤ H0.size)
    (k t0 site : Nat) (hk : ¬ k < 8) (ht : tys[t0]? = some (dA k, .object C)) {n : Int32} {N' : Nat} (hn : ¬ n < 0) (hN : n.toNatClampNeg = N') (hbytes : N' * 4 ≤ 536870912) (hcells : cells + 1 ≤ R.cells) (hslots : slots + N' ≤ R.slots) (hdg : decode cc pc = .ok (.anewarray index, 3))
    (kk : ∀ (q : Nat) (H1 : Heap), z_ty σ q = none → z_G D cl KT dA Z (z_arr σ q k N' site) H1 → va_S (fun q => Z ≤ q) H0 H1 locs → W p l e R s m args below meth c H1 locs (cells + 1) (slots + N') Q (F0 m (pc + 3) ls (.ref q :: rest))) : W p l e R s m args below meth c H locs cells slots Q (F0 m pc ls (.int n :: rest)) := by
  refine va_newq (ws := z_ws KT dA σ H.size) hexec hb hown hclink hover hK (z_wsP hG) (z_wsD hG) hS (fun q h => Nat.le_trans hZ h) hn hN hbytes hcells hslots hdg (fun q cA H1 hK1 hP hD hS1 => ?_)
  obtain ⟨-, -, -, -, -, f1⟩ := (hK1.2 tys.length (cA, .object C) (by simp)).2
  obtain ⟨-, -, -, -, -, f2⟩ := (hK.2 t0 _ ht).2
  have e1 : cA = dA k := Option.some.inj (f1.symm.trans f2)
  subst e1
  obtain ⟨h1, h2⟩ := z_push hG hP hD
  refine kk q H1 h1 (h2 (z_arr σ q k N' site) (.inr (k, N', site)) (by rw [z_ty_arr, if_pos rfl]) (fun b h => by rw [z_ty_arr, if_neg h]) z_cell_arr ?_) hS1
  simp [z_cell, z_Q_arr, hk]
end ZRows
def z_isN : Cond → Bool
  | .fieldLinkNest _ _ _ _ _ _ => true
  | .methodLinkNest _ _ _ _ => true
  | .arrayOver (.object _) => true
  | _ => false
theorem z_Nw_warm {nw : List Cond} (hn : ∀ w ∈ nw, z_isN w = true) {s U : State} (hW : s.WarmedH U.vm) (h : ∀ w ∈ nw, va_Nw w s) : ∀ w ∈ nw, va_Nw w U := by
  intro w hw
  have h1 := hn w hw
  have h2 := h w hw
  unfold z_isN at h1
  split at h1
  · exact va_Nw.warmF hW h2
  · exact va_Nw.warmM hW h2
  · exact va_AO.moved hW.alike h2
  · cases h1
theorem z_Nw_same {nw : List Cond} (hn : ∀ w ∈ nw, z_isN w = true) {s U : State} (hvm : s.vm = U.vm) (h : ∀ w ∈ nw, va_Nw w s) : ∀ w ∈ nw, va_Nw w U := by
  intro w hw
  have h1 := hn w hw
  have h2 := h w hw
  unfold z_isN at h1
  split at h1
  · exact va_Nw.same rfl hvm h2
  · exact va_Nw.same rfl hvm h2
  · exact va_AO.moved (by rw [← hvm]; exact Vm.Alike.refl _) h2
  · cases h1
/-- the world of a state: the store, the tables, the words on nest mates -/
def z_U (D : va_G) (cl : List vw_C) (KT : Nat → List Nat) (dA : Nat → ClassId) (Z : Nat) (tys : List (ClassId × FieldType)) (nw : List Cond) (σ : z_S) (U : State) : Prop := Z ≤ U.heap.size ∧ z_G D cl KT dA Z σ U.heap ∧ va_K D cl tys U ∧ ∀ w ∈ nw, va_Nw w U
section ZC
variable {D : va_G} {cl : List vw_C} {KT : Nat → List Nat} {dA : Nat → ClassId} {Z : Nat} {tys : List (ClassId × FieldType)} {nw : List Cond} {σ : z_S}
theorem z_blind (hn : ∀ w ∈ nw, z_isN w = true) {av : List Value} {P : Prop} : FrameBlind (va_Pc av (fun U => z_U D cl KT dA Z tys nw σ U ∧ P)) := by
  intro a U g mk q
  obtain ⟨q0, ⟨q1, q2, q3, q4⟩, q5⟩ := q
  exact ⟨q0, ⟨q1, q2, va_K.moved (u := U) (U := U.calling g mk a) (Vm.Alike.refl U.vm) q3, z_Nw_same hn (s := U) (U := U.calling g mk a) rfl q4⟩, q5⟩
theorem z_preS (hn : ∀ w ∈ nw, z_isN w = true) {s : State} {H : Heap} {As : List Value} {P : Prop} (hZ : Z ≤ H.size) (hG : z_G D cl KT dA Z σ H) (hK : va_K D cl tys s) (hN : ∀ w ∈ nw, va_Nw w s) (hw : P) : PreS s H (va_Pc As (fun U => z_U D cl KT dA Z tys nw σ U ∧ P)) As :=
  ⟨z_blind hn, fun U hU hW => ⟨rfl, ⟨by rw [hU]; exact hZ, by rw [hU]; exact hG, va_K.moved hW.alike hK, z_Nw_warm hn hW hN⟩, hw⟩⟩
theorem z_preV (hn : ∀ w ∈ nw, z_isN w = true) {s : State} {H : Heap} {b : Nat} {As : List Value} {P : Prop} {ci : Nat} {r : vw_C} (hZ : Z ≤ H.size) (hG : z_G D cl KT dA Z σ H) (hK : va_K D cl tys s) (hN : ∀ w ∈ nw, va_Nw w s) (hty : z_ty σ b = some (.inl ci)) (hc : cl[ci]? = some r) (hw : P) : PreV s H r.1 b (va_Pc (.ref b :: As) (fun U => z_U D cl KT dA Z tys nw σ U ∧ P)) As :=
  ⟨z_blind hn, va_recv (ws := [(b, z_cell KT dA σ b (.inl ci))]) (q0 := 0) (fs := z_fl σ b (KT ci) (100 * ci)) hK (z_P1 (hG b _ hty).2) hc rfl, fun U hU hW => ⟨rfl, ⟨by rw [hU]; exact hZ, by rw [hU]; exact hG, va_K.moved hW.alike hK, z_Nw_warm hn hW hN⟩, hw⟩⟩
end ZC
/-- what comes back: an int, nothing, a reference -/
abbrev z_Qi (D : va_G) (cl : List vw_C) (KT : Nat → List Nat) (dA : Nat → ClassId) (Z : Nat) (tys : List (ClassId × FieldType)) (nw : List Cond) (Post : Int32 → z_S → Prop) : Array Value → State → Outcome → State → Prop := va_Qi Post (z_U D cl KT dA Z tys nw) (fun q => Z ≤ q)
abbrev z_Qv (D : va_G) (cl : List vw_C) (KT : Nat → List Nat) (dA : Nat → ClassId) (Z : Nat) (tys : List (ClassId × FieldType)) (nw : List Cond) (Post : z_S → Prop) : Array Value → State → Outcome → State → Prop := va_Qv Post (z_U D cl KT dA Z tys nw) (fun q => Z ≤ q)
abbrev z_Qr (D : va_G) (cl : List vw_C) (KT : Nat → List Nat) (dA : Nat → ClassId) (Z : Nat) (tys : List (ClassId × FieldType)) (nw : List Cond) (Post : Nat → z_S → Prop) : Array Value → State → Outcome → State → Prop := va_Qr (fun u : Nat × z_S => Post u.1 u.2) (fun u a t => u.1 = a ∧ z_U D cl KT dA Z tys nw u.2 t) (fun q => Z ≤ q)
section ZR
variable {p : Program} {l : Launch} {e : Env} {R : Room} {s : State} {m : MethodId} {args : Array Value} {below : List Frame} {meth : Method} {c : Code} {H : Heap} {locs : List Loc} {cells slots : Nat} {Q : State → Prop}
variable {cc : ByteArray} {pc : Nat} {ls : Array Slot} {rest st0 : List Value} {D : va_G} {cl : List vw_C} {tys : List (ClassId × FieldType)} {H0 : Heap} {KT : Nat → List Nat} {dA : Nat → ClassId} {Z : Nat} {σ : z_S} {nw : List Cond} {mc ms : Nat} {a : Array Value}
theorem zr_ci {Post : Int32 → z_S → Prop} (hr : va_Run p l e R s m args below meth c H locs cells slots mc ms (F0 m pc ls st0) rest (z_Qi D cl KT dA Z tys nw Post a) (fun q => Z ≤ q)) (hS : va_S (fun q => Z ≤ q) H0 H locs)
    (kk : ∀ (r : Int32) (σ' : z_S) (H1 : Heap) (locs1 : List Loc), Post r σ' → z_G D cl KT dA Z σ' H1 → va_S (fun q => Z ≤ q) H0 H1 locs1 → W p l e R s m args below meth c H1 locs1 (cells + mc) (slots + ms) Q (F0 m (pc + 3) ls (.int r :: rest))) : W p l e R s m args below meth c H locs cells slots Q (F0 m pc ls st0) :=
  va_calli hr hS (fun _ _ h => h) (fun _ h => h) (fun r u t H1 locs1 ht _ hw hB _ _ hS1 => kk r u H1 locs1 hw (by rw [← ht]; exact hB.2.1) hS1)
theorem zr_cv {Post : z_S → Prop} (hr : va_Run p l e R s m args below meth c H locs cells slots mc ms (F0 m pc ls st0) rest (z_Qv D cl KT dA Z tys nw Post a) (fun q => Z ≤ q)) (hS : va_S (fun q => Z ≤ q) H0 H locs)
    (kk : ∀ (σ' : z_S) (H1 : Heap) (locs1 : List Loc), Post σ' → z_G D cl KT dA Z σ' H1 → va_S (fun q => Z ≤ q) H0 H1 locs1 → W p l e R s m args below meth c H1 locs1 (cells + mc) (slots + ms) Q (F0 m (pc + 3) ls rest)) : W p l e R s m args below meth c H locs cells slots Q (F0 m pc ls st0) :=
  va_callv hr hS (fun _ _ h => h) (fun _ h => h) (fun u t H1 locs1 ht _ hw hB _ _ hS1 => kk u H1 locs1 hw (by rw [← ht]; exact hB.2.1) hS1)
theorem zr_cr {Post : Nat → z_S → Prop} (hr : va_Run p l e R s m args below meth c H locs cells slots mc ms (F0 m pc ls st0) rest (z_Qr D cl KT dA Z tys nw Post a) (fun q => Z ≤ q)) (hS : va_S (fun q => Z ≤ q) H0 H locs)
    (kk : ∀ (r : Nat) (σ' : z_S) (H1 : Heap) (locs1 : List Loc), Post r σ' → z_G D cl KT dA Z σ' H1 → va_S (fun q => Z ≤ q) H0 H1 locs1 → W p l e R s m args below meth c H1 locs1 (cells + mc) (slots + ms) Q (F0 m (pc + 3) ls (.ref r :: rest))) : W p l e R s m args below meth c H locs cells slots Q (F0 m pc ls st0) :=
  va_callr hr hS (fun _ _ h => h) (fun _ h => h) (fun u ra t H1 locs1 ht _ hw hB _ _ hS1 => kk ra u.2 H1 locs1 (by rw [← hB.1]; exact hw) (by rw [← ht]; exact hB.2.2.1) hS1)
-- ends
theorem zr_iret {free : Addr → Prop} {Post : Int32 → z_S → Prop} {v : Int32} {ty : FieldType} (hn : ∀ w ∈ nw, z_isN w = true) (hexec : p.tables.exec = Jvm.exec) (hb : c.code = cc) (hr : meth.sig.returnType = some ty) (hnr : narrow ty (.int v) = .int v) (hZ : Z ≤ s.heap.size) (hK : va_K D cl tys s) (hN : ∀ w ∈ nw, va_Nw w s) (hG : z_G D cl KT dA Z σ H) (hS : va_S (fun q => Z ≤ q) s.heap H locs) (hp : Post v σ) (hdg : decode cc pc = .ok (.ireturn, 1)) (hlocks : meth.locks = false) : W p l e R s m args below meth c H locs cells slots (MQ below (z_Qi D cl KT dA Z tys nw Post) args s cells slots (fun q => Z ≤ q)) (F0 m pc ls [.int v]) :=
  W.zret hexec hb hr hnr (fun t ht hW => ⟨⟨v, σ, rfl, hp, by rw [ht]; exact Nat.le_trans hZ hS.1, by rw [ht]; exact hG, va_K.moved hW.alike hK, z_Nw_warm hn hW hN⟩, hS.F ht⟩) hS.2.2 hdg hlocks
theorem zr_vret {Post : z_S → Prop} (hn : ∀ w ∈ nw, z_isN w = true) (hexec : p.tables.exec = Jvm.exec) (hb : c.code = cc) (hr : meth.sig.returnType = none) (hZ : Z ≤ s.heap.size) (hK : va_K D cl tys s) (hN : ∀ w ∈ nw, va_Nw w s) (hG : z_G D cl KT dA Z σ H) (hS : va_S (fun q => Z ≤ q) s.heap H locs) (hp : Post σ) (hdg : decode cc pc = .ok (.return_, 1)) (hlocks : meth.locks = false) : W p l e R s m args below meth c H locs cells slots (MQ below (z_Qv D cl KT dA Z tys nw Post) args s cells slots (fun q => Z ≤ q)) (F0 m pc ls []) :=
  W.vret hexec hb hr (fun t ht hW => ⟨⟨σ, rfl, hp, by rw [ht]; exact Nat.le_trans hZ hS.1, by rw [ht]; exact hG, va_K.moved hW.alike hK, z_Nw_warm hn hW hN⟩, hS.F ht⟩) hS.2.2 hdg hlocks
theorem zr_aret {Post : Nat → z_S → Prop} {v : Nat} {rt : FieldType} (hn : ∀ w ∈ nw, z_isN w = true) (hexec : p.tables.exec = Jvm.exec) (hb : c.code = cc) (hr : meth.sig.returnType = some rt) (hrt : (∃ n, rt = .object n) ∨ ∃ t, rt = .array t) (hZ : Z ≤ s.heap.size) (hK : va_K D cl tys s) (hN : ∀ w ∈ nw, va_Nw w s) (hG : z_G D cl KT dA Z σ H) (hS : va_S (fun q => Z ≤ q) s.heap H locs) (hp : Post v σ) (hdg : decode cc pc = .ok (.areturn, 1)) (hlocks : meth.locks = false) : W p l e R s m args below meth c H locs cells slots (MQ below (z_Qr D cl KT dA Z tys nw Post) args s cells slots (fun q => Z ≤ q)) (F0 m pc ls [.ref v]) :=
  W.aret hexec hb hr hrt (Or.inr ⟨v, rfl⟩) (fun t ht hW => ⟨⟨(v, σ), v, rfl, hp, rfl, by rw [ht]; exact Nat.le_trans hZ hS.1, by rw [ht]; exact hG, va_K.moved hW.alike hK, z_Nw_warm hn hW hN⟩, hS.F ht⟩) hS.2.2 hdg hlocks
end ZR
theorem z_bool {x : Int32} (h : x = 0 ∨ x = 1) : narrow .boolean (.int x) = .int x := by rcases h with rfl | rfl <;> rfl
theorem z_boolF {x : Int32} (h : x = 0 ∨ x = 1) : fits .boolean (.int x) = true := by rcases h with rfl | rfl <;> rfl
theorem z_RA_int {U : State} {cA cB : ClassId} (h1 : va_RA U cA .int) (h2 : va_RA U cB .int) : cA = cB := by
  have e1 : U.vm.findClass ("[" ++ FieldType.int.toString) = some cA := h1
  have e2 : U.vm.findClass ("[" ++ FieldType.int.toString) = some cB := h2
  exact Option.some.inj (e1.symm.trans e2)
theorem z_RA_byte {U : State} {cA cB : ClassId} (h1 : va_RA U cA .byte) (h2 : va_RA U cB .byte) : cA = cB := by
  have e1 : U.vm.findClass ("[" ++ FieldType.byte.toString) = some cA := h1
  have e2 : U.vm.findClass ("[" ++ FieldType.byte.toString) = some cB := h2
  exact Option.some.inj (e1.symm.trans e2)
theorem z_RA_bool {U : State} {cA cB : ClassId} (h1 : va_RA U cA .boolean) (h2 : va_RA U cB .boolean) : cA = cB := by
  have e1 : U.vm.findClass ("[" ++ FieldType.boolean.toString) = some cA := h1
  have e2 : U.vm.findClass ("[" ++ FieldType.boolean.toString) = some cB := h2
  exact Option.some.inj (e1.symm.trans e2)
