/-! THE RULES OF A TEXT: one definition for both sides; a fault is its kind and its place -/
abbrev ft_T : Type := Nat × Nat
def tak (t : tx_T) (s q : Nat) : Except ft_T Nat := if sg t q = s then .ok (nxt t (q + 1)) else .error (1, q)
def addl (lt : Nat → Bool) (k : Nat) : Nat → Bool := fun j => decide (j = k) || lt j
def isN (s : Nat) : Prop := 97 ≤ s ∧ s ≤ 122
def isV (s : Nat) : Prop := 65 ≤ s ∧ s ≤ 90
def isD (s : Nat) : Prop := 48 ≤ s ∧ s ≤ 57
def num (t : tx_T) : Nat → Nat → Nat → Nat × Nat
  | 0, v, p => (v, p)
  | k + 1, v, p => if p < t.n ∧ 48 ≤ t.c p ∧ t.c p ≤ 57 then num t k (10 * v + (t.c p - 48)) (p + 1) else (v, p)
abbrev tr_T : Type := (Nat) × (Nat → Bool) × (Nat)
abbrev tr_T.x (x : tr_T) : Nat := x.1
abbrev tr_T.lt (x : tr_T) : Nat → Bool := x.2.1
abbrev tr_T.q (x : tr_T) : Nat := x.2.2
def trm (t : tx_T) (lt : Nat → Bool) (q : Nat) : Except ft_T tr_T :=
  if 65 ≤ sg t q ∧ sg t q ≤ 90 then (if lt (sg t q - 65) = true ∨ rk lt 26 ≠ 6 then .ok ⟨sg t q - 65, addl lt (sg t q - 65), nxt t (q + 1)⟩ else .error (3, q))
  else if 48 ≤ sg t q ∧ sg t q ≤ 57 then .ok ⟨100 + (num t 3 0 q).1, lt, nxt t (num t 3 0 q).2⟩
  else .error (1, q)
abbrev ts_T : Type := (List Nat) × (Bool) × (Nat → Bool) × (Nat)
abbrev ts_T.l (x : ts_T) : List Nat := x.1
abbrev ts_T.c (x : ts_T) : Bool := x.2.1
abbrev ts_T.lt (x : ts_T) : Nat → Bool := x.2.2.1
abbrev ts_T.q (x : ts_T) : Nat := x.2.2.2
def tms (t : tx_T) (hd : Bool) : Nat → List Nat → (Nat → Bool) → Nat → Except ft_T ts_T
  | 0, acc, lt, q => .ok ⟨acc, false, lt, q⟩
  | k + 1, acc, lt, q => if hd = true ∧ sg t q = 35 then .ok ⟨acc ++ [99], true, lt, nxt t (q + 1)⟩ else
    match trm t lt q with
    | .error e => .error e
    | .ok r => if k ≠ 0 ∧ sg t r.q = 44 then tms t hd k (acc ++ [r.x]) r.lt (nxt t (r.q + 1)) else .ok ⟨acc ++ [r.x], false, r.lt, r.q⟩
abbrev rg_T : Type := (Nat) × (List Nat) × (List Nat) × (Nat)
abbrev rg_T.i (x : rg_T) : Nat := x.1
abbrev rg_T.nm (x : rg_T) : List Nat := x.2.1
abbrev rg_T.A (x : rg_T) : List Nat := x.2.2.1
abbrev rg_T.q (x : rg_T) : Nat := x.2.2.2
def rel (t : tx_T) (nm A : List Nat) (q : Nat) : Except ft_T rg_T :=
  if 97 ≤ sg t q ∧ sg t q ≤ 122 then
    (if nm.idxOf (sg t q) < nm.length then .ok ⟨nm.idxOf (sg t q), nm, A, nxt t (q + 1)⟩ else if nm.length = 8 then .error (3, q) else .ok ⟨nm.length, nm ++ [sg t q], A ++ [0], nxt t (q + 1)⟩)
  else .error (1, q)
abbrev an_T : Type := (Nat) × (List Nat) × (Bool) × (List Nat) × (List Nat) × (Nat → Bool) × (Nat)
abbrev an_T.i (x : an_T) : Nat := x.1
abbrev an_T.l (x : an_T) : List Nat := x.2.1
abbrev an_T.c (x : an_T) : Bool := x.2.2.1
abbrev an_T.nm (x : an_T) : List Nat := x.2.2.2.1
abbrev an_T.A (x : an_T) : List Nat := x.2.2.2.2.1
abbrev an_T.lt (x : an_T) : Nat → Bool := x.2.2.2.2.2.1
abbrev an_T.q (x : an_T) : Nat := x.2.2.2.2.2.2
/-- the terms behind a name -/
def arg (t : tx_T) (hd : Bool) (g : rg_T) (lt : Nat → Bool) : Except ft_T an_T :=
  match tak t 40 g.q with
  | .error e => .error e
  | .ok q1 => match tms t hd 3 [] lt q1 with
    | .error e => .error e
    | .ok s => if sg t s.q = 41 then (if g.A.getD g.i 0 ≠ 0 ∧ g.A.getD g.i 0 ≠ s.l.length then .error (2, s.q) else .ok ⟨g.i, s.l, s.c, g.nm, g.A.set g.i s.l.length, s.lt, nxt t (s.q + 1)⟩) else .error (1, s.q)
def atm (t : tx_T) (hd : Bool) (nm A : List Nat) (lt : Nat → Bool) (q : Nat) : Except ft_T an_T :=
  match rel t nm A q with
  | .error e => .error e
  | .ok g => arg t hd g lt
def tm3 (l : List Nat) : tm_T := (l.getD 0 100, l.getD 1 100, l.getD 2 100)
abbrev lr_T : Type := (lit_T) × (List Nat) × (List Nat) × (Nat → Bool) × (Nat)
abbrev lr_T.l (x : lr_T) : lit_T := x.1
abbrev lr_T.nm (x : lr_T) : List Nat := x.2.1
abbrev lr_T.A (x : lr_T) : List Nat := x.2.2.1
abbrev lr_T.lt (x : lr_T) : Nat → Bool := x.2.2.2.1
abbrev lr_T.q (x : lr_T) : Nat := x.2.2.2.2
def cnd (t : tx_T) (nm A : List Nat) (lt : Nat → Bool) (q : Nat) : Except ft_T lr_T :=
  match trm t lt q with
  | .error e => .error e
  | .ok r => if sg t r.q = 60 ∨ sg t r.q = 61 ∨ sg t r.q = 33 then
      (match trm t r.lt (nxt t (r.q + 1)) with
      | .error e => .error e
      | .ok r2 => .ok ⟨(2, sg t r.q, tm3 [r.x, r2.x]), nm, A, r2.lt, r2.q⟩) else .error (1, r.q)
def nmd (t : tx_T) (k : Nat) (nm A : List Nat) (lt : Nat → Bool) (q : Nat) : Except ft_T lr_T :=
  match atm t false nm A lt q with
  | .error e => .error e
  | .ok g => .ok ⟨(k, g.i, tm3 g.l), g.nm, g.A, g.lt, g.q⟩
/-- a literal behind ls -/
def ltl (t : tx_T) (ls : List lit_T) (nm A : List Nat) (lt : Nat → Bool) (q : Nat) : Except ft_T lr_T :=
  if (97 ≤ sg t q ∧ sg t q ≤ 122) ∨ sg t q = 126 ∨ (65 ≤ sg t q ∧ sg t q ≤ 90) ∨ (48 ≤ sg t q ∧ sg t q ≤ 57) then
    (if ls.length = 5 ∨ ((97 ≤ sg t q ∧ sg t q ≤ 122) ∧ (ps_of ls).length = 3) then .error (3, q)
    else if 97 ≤ sg t q ∧ sg t q ≤ 122 then nmd t 0 nm A lt q
    else if sg t q = 126 then nmd t 1 nm A lt (nxt t (q + 1))
    else cnd t nm A lt q)
  else .error (1, q)
abbrev ll_T : Type := (List lit_T) × (List Nat) × (List Nat) × (Nat → Bool) × (Nat)
abbrev ll_T.ls (x : ll_T) : List lit_T := x.1
abbrev ll_T.nm (x : ll_T) : List Nat := x.2.1
abbrev ll_T.A (x : ll_T) : List Nat := x.2.2.1
abbrev ll_T.lt (x : ll_T) : Nat → Bool := x.2.2.2.1
abbrev ll_T.q (x : ll_T) : Nat := x.2.2.2.2
/-- literals, with commas between -/
def lls (t : tx_T) : Nat → List lit_T → List Nat → List Nat → (Nat → Bool) → Nat → Except ft_T ll_T
  | 0, _, _, _, _, q => .error (3, q)
  | k + 1, ls, nm, A, lt, q => match ltl t ls nm A lt q with
    | .error e => .error e
    | .ok r => if sg t r.q = 44 then lls t k (ls ++ [r.l]) r.nm r.A r.lt (nxt t (r.q + 1)) else .ok ⟨ls ++ [r.l], r.nm, r.A, r.lt, r.q⟩
/-- a variable that no POSITIVE literal holds -/
def loose (ts : tm_T) (ls : List lit_T) : Bool := (List.range 26).any (fun k => (decide (ts.1 = k) || decide (ts.2.1 = k) || decide (ts.2.2 = k) || (ts_of ls).any (fun l => decide (l.2.2.1 = k) || decide (l.2.2.2.1 = k) || decide (l.2.2.2.2 = k))) && !vlt ls k)
/-- a count that stands not alone, or over nothing -/
def lonely (rs : List ru_T) (h : Nat) (c : Bool) (ls : List lit_T) : Bool := (c && (decide (ls = []) || rs.any (fun r => decide (r.h = h)))) || rs.any (fun r => decide (r.h = h) && r.c)
abbrev rr_T : Type := (ru_T) × (List Nat) × (List Nat) × (Nat)
abbrev rr_T.r (x : rr_T) : ru_T := x.1
abbrev rr_T.nm (x : rr_T) : List Nat := x.2.1
abbrev rr_T.A (x : rr_T) : List Nat := x.2.2.1
abbrev rr_T.q (x : rr_T) : Nat := x.2.2.2
def cls (t : tx_T) (rs : List ru_T) (g : an_T) (b : ll_T) : Except ft_T rr_T :=
  if sg t b.q = 46 then (if loose (tm3 g.l) b.ls then .error (4, b.q) else if lonely rs g.i g.c b.ls then .error (5, b.q) else .ok ⟨⟨g.i, tm3 g.l, b.ls, g.c⟩, b.nm, b.A, nxt t (b.q + 1)⟩) else .error (1, b.q)
def rul (t : tx_T) (rs : List ru_T) (nm A : List Nat) (q : Nat) : Except ft_T rr_T :=
  if (97 ≤ sg t q ∧ sg t q ≤ 122) ∧ rs.length = 16 then .error (3, q) else
  match atm t true nm A (fun _ => false) q with
  | .error e => .error e
  | .ok g => if sg t g.q = 58 then
      (match tak t 45 (nxt t (g.q + 1)) with
      | .error e => .error e
      | .ok q1 => match lls t 6 [] g.nm g.A g.lt q1 with
        | .error e => .error e
        | .ok b => cls t rs g b) else cls t rs g ⟨[], g.nm, g.A, g.lt, g.q⟩
abbrev pp_T : Type := (List ru_T) × (List Nat) × (List Nat)
abbrev pp_T.rs (x : pp_T) : List ru_T := x.1
abbrev pp_T.nm (x : pp_T) : List Nat := x.2.1
abbrev pp_T.A (x : pp_T) : List Nat := x.2.2
def prs (t : tx_T) : Nat → List ru_T → List Nat → List Nat → Nat → Except ft_T pp_T
  | 0, rs, nm, A, _ => .ok ⟨rs, nm, A⟩
  | k + 1, rs, nm, A, q => if q < t.n then
      (match rul t rs nm A q with
      | .error e => .error e
      | .ok r => prs t k (rs ++ [r.r]) r.nm r.A r.q) else .ok ⟨rs, nm, A⟩
def parse (t : tx_T) : Except ft_T pp_T := prs t 17 [] [] [] (nxt t 0)
