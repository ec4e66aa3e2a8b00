/-! THE INVARIANT -/
abbrev vc_T : Type := (Nat) × (Nat) × (Nat) × (Nat) × (Nat) × (Nat → Nat) × (Nat → Nat) × (Nat → Nat) × (Nat → Nat) × (Nat) × (Nat → Nat) × (ex_T) × (ex_T) × (pa_T) × (Nat) × (Nat) × (Nat)
abbrev vc_T.x (x : vc_T) : Nat := x.1
abbrev vc_T.tx (x : vc_T) : Nat := x.2.1
abbrev vc_T.rg (x : vc_T) : Nat := x.2.2.1
abbrev vc_T.dn (x : vc_T) : Nat := x.2.2.2.1
abbrev vc_T.p0 (x : vc_T) : Nat := x.2.2.2.2.1
abbrev vc_T.O (x : vc_T) : Nat → Nat := x.2.2.2.2.2.1
abbrev vc_T.R (x : vc_T) : Nat → Nat := x.2.2.2.2.2.2.1
abbrev vc_T.K (x : vc_T) : Nat → Nat := x.2.2.2.2.2.2.2.1
abbrev vc_T.S (x : vc_T) : Nat → Nat := x.2.2.2.2.2.2.2.2.1
abbrev vc_T.uw (x : vc_T) : Nat := x.2.2.2.2.2.2.2.2.2.1
abbrev vc_T.dd (x : vc_T) : Nat → Nat := x.2.2.2.2.2.2.2.2.2.2.1
abbrev vc_T.N (x : vc_T) : ex_T := x.2.2.2.2.2.2.2.2.2.2.2.1
abbrev vc_T.M (x : vc_T) : ex_T := x.2.2.2.2.2.2.2.2.2.2.2.2.1
abbrev vc_T.D (x : vc_T) : pa_T := x.2.2.2.2.2.2.2.2.2.2.2.2.2.1
abbrev vc_T.na (x : vc_T) : Nat := x.2.2.2.2.2.2.2.2.2.2.2.2.2.2.1
abbrev vc_T.ta (x : vc_T) : Nat := x.2.2.2.2.2.2.2.2.2.2.2.2.2.2.2.1
abbrev vc_T.ra (x : vc_T) : Nat := x.2.2.2.2.2.2.2.2.2.2.2.2.2.2.2.2
abbrev ab_T : Type := (Nat) × (Nat → Int32) × (Int32) × (List Nat) × (Bool) × (pg_T) × (List Nat) × (Nat → Nat → Bool) × (Nat → al_T) × (sl_T) × (List sl_T) × (sl_T)
abbrev ab_T.tn (x : ab_T) : Nat := x.1
abbrev ab_T.tt (x : ab_T) : Nat → Int32 := x.2.1
abbrev ab_T.pl (x : ab_T) : Int32 := x.2.2.1
abbrev ab_T.rg (x : ab_T) : List Nat := x.2.2.2.1
abbrev ab_T.on (x : ab_T) : Bool := x.2.2.2.2.1
abbrev ab_T.G (x : ab_T) : pg_T := x.2.2.2.2.2.1
abbrev ab_T.nm (x : ab_T) : List Nat := x.2.2.2.2.2.2.1
abbrev ab_T.rc (x : ab_T) : Nat → Nat → Bool := x.2.2.2.2.2.2.2.1
abbrev ab_T.T (x : ab_T) : Nat → al_T := x.2.2.2.2.2.2.2.2.1
abbrev ab_T.cs (x : ab_T) : sl_T := x.2.2.2.2.2.2.2.2.2.1
abbrev ab_T.hs (x : ab_T) : List sl_T := x.2.2.2.2.2.2.2.2.2.2.1
abbrev ab_T.dl (x : ab_T) : sl_T := x.2.2.2.2.2.2.2.2.2.2.2
/-- what the calls look up of the rules beside -/
def px_L (σ : z_S) (V : vc_T) (a : ab_T) : Prop := (z_R σ 202 V.D.p = some V.na) ∧ (z_ty σ V.na = some (.inr (0, 8, 8))) ∧ (∀ k, k < a.G.n → z_A σ 8 V.na k = nI (a.nm.getD k 0)) ∧ (z_R σ 203 V.D.p = some V.ta) ∧ (z_ty σ V.ta = some (.inr (0, 8, 9))) ∧ (∀ k, k < a.G.n → z_A σ 9 V.ta k = nI (a.G.A k)) ∧ (z_R σ 205 V.D.p = some V.ra) ∧ (z_ty σ V.ra = some (.inr (0, 8, 11))) ∧ (∀ k, k < a.G.n → ∀ j, j < 8 → bi (z_A σ 11 V.ra k) j = a.rc k j) ∧ (∀ v, v < 8 → (bi (z_I σ 210 V.D.p) v = true ↔ ∃ r ∈ a.G.rs, r.h = v ∧ r.c = true)) ∧ (∀ i, i < a.G.rs.length → lt_L σ (V.D.ro i) (vlt (a.G.rs.getD i d_ru).ls))
theorem px_L.nr {σ : z_S} {V : vc_T} {a : ab_T} (h' : px_L σ V a) : z_R σ 202 V.D.p = some V.na := h'.1
theorem px_L.nt {σ : z_S} {V : vc_T} {a : ab_T} (h' : px_L σ V a) : z_ty σ V.na = some (.inr (0, 8, 8)) := h'.2.1
theorem px_L.nv {σ : z_S} {V : vc_T} {a : ab_T} (h' : px_L σ V a) : ∀ k, k < a.G.n → z_A σ 8 V.na k = nI (a.nm.getD k 0) := h'.2.2.1
theorem px_L.tr {σ : z_S} {V : vc_T} {a : ab_T} (h' : px_L σ V a) : z_R σ 203 V.D.p = some V.ta := h'.2.2.2.1
theorem px_L.tt {σ : z_S} {V : vc_T} {a : ab_T} (h' : px_L σ V a) : z_ty σ V.ta = some (.inr (0, 8, 9)) := h'.2.2.2.2.1
theorem px_L.tv {σ : z_S} {V : vc_T} {a : ab_T} (h' : px_L σ V a) : ∀ k, k < a.G.n → z_A σ 9 V.ta k = nI (a.G.A k) := h'.2.2.2.2.2.1
theorem px_L.rr {σ : z_S} {V : vc_T} {a : ab_T} (h' : px_L σ V a) : z_R σ 205 V.D.p = some V.ra := h'.2.2.2.2.2.2.1
theorem px_L.rt {σ : z_S} {V : vc_T} {a : ab_T} (h' : px_L σ V a) : z_ty σ V.ra = some (.inr (0, 8, 11)) := h'.2.2.2.2.2.2.2.1
theorem px_L.rv {σ : z_S} {V : vc_T} {a : ab_T} (h' : px_L σ V a) : ∀ k, k < a.G.n → ∀ j, j < 8 → bi (z_A σ 11 V.ra k) j = a.rc k j := h'.2.2.2.2.2.2.2.2.1
theorem px_L.cv {σ : z_S} {V : vc_T} {a : ab_T} (h' : px_L σ V a) : ∀ v, v < 8 → (bi (z_I σ 210 V.D.p) v = true ↔ ∃ r ∈ a.G.rs, r.h = v ∧ r.c = true) := h'.2.2.2.2.2.2.2.2.2.1
theorem px_L.lt {σ : z_S} {V : vc_T} {a : ab_T} (h' : px_L σ V a) : ∀ i, i < a.G.rs.length → lt_L σ (V.D.ro i) (vlt (a.G.rs.getD i d_ru).ls) := h'.2.2.2.2.2.2.2.2.2.2
/-- rows that may stand anywhere -/
def okl (l : al_T) : Prop := l.length ≤ 40 ∧ ∀ p ∈ l, 1 ≤ p.2 ∧ p.2 ≤ 9
def good (G : pg_T) (T : Nat → al_T) : Prop := (vT G T) ∧ (tb9 G T) ∧ (∀ v, v < 8 → 1 ≤ G.lay v → ∀ p ∈ T v, p.2 = 1) ∧ (WK G 8 (res G.n (ks (Tz G T))) (res G.n (ks T)))
theorem good.v {G : pg_T} {T : Nat → al_T} (h' : good G T) : vT G T := h'.1
theorem good.t {G : pg_T} {T : Nat → al_T} (h' : good G T) : tb9 G T := h'.2.1
theorem good.o {G : pg_T} {T : Nat → al_T} (h' : good G T) : ∀ v, v < 8 → 1 ≤ G.lay v → ∀ p ∈ T v, p.2 = 1 := h'.2.2.1
theorem good.w {G : pg_T} {T : Nat → al_T} (h' : good G T) : WK G 8 (res G.n (ks (Tz G T))) (res G.n (ks T)) := h'.2.2.2
def LC (G : pg_T) (T : Nat → al_T) : List sl_T → Prop
  | [] => True
  | h :: r => ∃ T0, good G T0 ∧ ch_ok G h ∧ bOk T0 h 1 ∧ (∀ v, v < G.n → G.vw v = false → T v = bT G T0 h 1 v) ∧ LC G T0 r
def prg (V : vc_T) (a : ab_T) (σ : z_S) : Prop := (z_R σ 705 V.x = some V.D.p) ∧ (pr_L σ V.D a.G) ∧ (px_L σ V a) ∧ (pg_ok a.G) ∧ (∀ v, ¬ v < a.G.n → a.G.lay v = 0) ∧ (a.G.top = 0 ∨ ∃ v, v < a.G.n ∧ a.G.lay v = a.G.top) ∧ (1 ≤ a.G.rs.length) ∧ (∀ v, v < a.G.n → 1 ≤ a.G.A v ∧ a.G.A v ≤ 3) ∧ (a.nm.length = a.G.n) ∧ (∀ k ∈ a.nm, k < 256) ∧ (∀ i j, i < a.nm.length → j < a.nm.length → a.nm.getD i 0 = a.nm.getD j 0 → i = j) ∧ (good a.G a.T) ∧ (rw_L V.N σ a.T) ∧ (∀ v, v < 8 → ¬ v < a.G.n → ∃ l, ro_L σ (V.M.ra v) (V.M.ka v) (V.M.ca v) l ∧ okl l) ∧ (ch_ok a.G a.cs) ∧ (∀ h ∈ a.hs, ch_ok a.G h) ∧ (LC a.G a.T a.hs.reverse)
theorem prg.rp {V : vc_T} {a : ab_T} {σ : z_S} (h' : prg V a σ) : z_R σ 705 V.x = some V.D.p := h'.1
theorem prg.pr {V : vc_T} {a : ab_T} {σ : z_S} (h' : prg V a σ) : pr_L σ V.D a.G := h'.2.1
theorem prg.px {V : vc_T} {a : ab_T} {σ : z_S} (h' : prg V a σ) : px_L σ V a := h'.2.2.1
theorem prg.ok {V : vc_T} {a : ab_T} {σ : z_S} (h' : prg V a σ) : pg_ok a.G := h'.2.2.2.1
theorem prg.ln {V : vc_T} {a : ab_T} {σ : z_S} (h' : prg V a σ) : ∀ v, ¬ v < a.G.n → a.G.lay v = 0 := h'.2.2.2.2.1
theorem prg.tm {V : vc_T} {a : ab_T} {σ : z_S} (h' : prg V a σ) : a.G.top = 0 ∨ ∃ v, v < a.G.n ∧ a.G.lay v = a.G.top := h'.2.2.2.2.2.1
theorem prg.r1 {V : vc_T} {a : ab_T} {σ : z_S} (h' : prg V a σ) : 1 ≤ a.G.rs.length := h'.2.2.2.2.2.2.1
theorem prg.a1 {V : vc_T} {a : ab_T} {σ : z_S} (h' : prg V a σ) : ∀ v, v < a.G.n → 1 ≤ a.G.A v ∧ a.G.A v ≤ 3 := h'.2.2.2.2.2.2.2.1
theorem prg.nl {V : vc_T} {a : ab_T} {σ : z_S} (h' : prg V a σ) : a.nm.length = a.G.n := h'.2.2.2.2.2.2.2.2.1
theorem prg.nb {V : vc_T} {a : ab_T} {σ : z_S} (h' : prg V a σ) : ∀ k ∈ a.nm, k < 256 := h'.2.2.2.2.2.2.2.2.2.1
theorem prg.un {V : vc_T} {a : ab_T} {σ : z_S} (h' : prg V a σ) : ∀ i j, i < a.nm.length → j < a.nm.length → a.nm.getD i 0 = a.nm.getD j 0 → i = j := h'.2.2.2.2.2.2.2.2.2.2.1
theorem prg.gd {V : vc_T} {a : ab_T} {σ : z_S} (h' : prg V a σ) : good a.G a.T := h'.2.2.2.2.2.2.2.2.2.2.2.1
theorem prg.N {V : vc_T} {a : ab_T} {σ : z_S} (h' : prg V a σ) : rw_L V.N σ a.T := h'.2.2.2.2.2.2.2.2.2.2.2.2.1
theorem prg.Mg {V : vc_T} {a : ab_T} {σ : z_S} (h' : prg V a σ) : ∀ v, v < 8 → ¬ v < a.G.n → ∃ l, ro_L σ (V.M.ra v) (V.M.ka v) (V.M.ca v) l ∧ okl l := h'.2.2.2.2.2.2.2.2.2.2.2.2.2.1
theorem prg.cs {V : vc_T} {a : ab_T} {σ : z_S} (h' : prg V a σ) : ch_ok a.G a.cs := h'.2.2.2.2.2.2.2.2.2.2.2.2.2.2.1
theorem prg.hc {V : vc_T} {a : ab_T} {σ : z_S} (h' : prg V a σ) : ∀ h ∈ a.hs, ch_ok a.G h := h'.2.2.2.2.2.2.2.2.2.2.2.2.2.2.2.1
theorem prg.lc {V : vc_T} {a : ab_T} {σ : z_S} (h' : prg V a σ) : LC a.G a.T a.hs.reverse := h'.2.2.2.2.2.2.2.2.2.2.2.2.2.2.2.2
def non (V : vc_T) (a : ab_T) (σ : z_S) : Prop := (z_R σ 705 V.x = some V.p0) ∧ (z_ty σ V.p0 = some (.inl 2)) ∧ (z_I σ 201 V.p0 = 0) ∧ (z_I σ 206 V.p0 = 0) ∧ (z_I σ 207 V.p0 = 0) ∧ (∃ T, rw_L V.N σ T ∧ ∀ v, v < 8 → okl (T v)) ∧ (a.cs = []) ∧ (a.hs = []) ∧ (a.dl = [])
theorem non.rp {V : vc_T} {a : ab_T} {σ : z_S} (h' : non V a σ) : z_R σ 705 V.x = some V.p0 := h'.1
theorem non.ty {V : vc_T} {a : ab_T} {σ : z_S} (h' : non V a σ) : z_ty σ V.p0 = some (.inl 2) := h'.2.1
theorem non.i1 {V : vc_T} {a : ab_T} {σ : z_S} (h' : non V a σ) : z_I σ 201 V.p0 = 0 := h'.2.2.1
theorem non.i6 {V : vc_T} {a : ab_T} {σ : z_S} (h' : non V a σ) : z_I σ 206 V.p0 = 0 := h'.2.2.2.1
theorem non.i7 {V : vc_T} {a : ab_T} {σ : z_S} (h' : non V a σ) : z_I σ 207 V.p0 = 0 := h'.2.2.2.2.1
theorem non.N {V : vc_T} {a : ab_T} {σ : z_S} (h' : non V a σ) : ∃ T, rw_L V.N σ T ∧ ∀ v, v < 8 → okl (T v) := h'.2.2.2.2.2.1
theorem non.cs {V : vc_T} {a : ab_T} {σ : z_S} (h' : non V a σ) : a.cs = [] := h'.2.2.2.2.2.2.1
theorem non.hs {V : vc_T} {a : ab_T} {σ : z_S} (h' : non V a σ) : a.hs = [] := h'.2.2.2.2.2.2.2.1
theorem non.dl {V : vc_T} {a : ab_T} {σ : z_S} (h' : non V a σ) : a.dl = [] := h'.2.2.2.2.2.2.2.2
/-- a text of bytes -/
def txo (n : Nat) (t : Nat → Int32) : Prop := n ≤ 600 ∧ ∀ i, i < n → ∃ y : Int8, t i = y.toInt32
def CI (V : vc_T) (a : ab_T) (σ : z_S) : Prop := (z_ty σ V.x = some (.inl 7)) ∧ (z_R σ 700 V.x = some V.tx) ∧ (z_ty σ V.tx = some (.inr (1, 600, 18))) ∧ (z_I σ 701 V.x = nI a.tn) ∧ (txo a.tn a.tt) ∧ (∀ i, i < a.tn → z_A σ 18 V.tx i = a.tt i) ∧ (z_I σ 702 V.x = a.pl) ∧ (z_R σ 703 V.x = some V.rg) ∧ (z_ty σ V.rg = some (.inr (0, 8, 19))) ∧ (z_I σ 704 V.x = nI a.rg.length) ∧ (a.rg.length ≤ 8) ∧ (∀ i, i < a.rg.length → z_A σ 19 V.rg i = nI (a.rg.getD i 0)) ∧ (z_R σ 706 V.x = some V.N.w) ∧ (z_R σ 707 V.x = some V.M.w) ∧ (z_R σ 708 V.x = some (V.O V.uw)) ∧ (z_R σ 709 V.x = some V.dn) ∧ (z_ty σ V.dn = some (.inr (10, 6, 22))) ∧ (∀ i, i < 6 → z_Q σ 22 V.dn i = some (V.O (V.dd i))) ∧ (z_I σ 710 V.x = nI a.hs.length) ∧ (a.hs.length ≤ 6) ∧ (z_R σ 711 V.x = some (V.O 7)) ∧ (z_R σ 712 V.x = some V.M.a) ∧ (en_T V.M σ) ∧ (en_T V.N σ) ∧ (V.N.a = V.M.a) ∧ (rw_T V.M σ) ∧ (∀ i j, i < 8 → j < 8 → V.N.ra i ≠ V.M.ra j) ∧ (∀ i j, i < 8 → j < 8 → V.N.ka i ≠ V.M.ka j) ∧ (∀ i j, i < 8 → j < 8 → V.N.ca i ≠ V.M.ca j) ∧ (∀ i, i < 7 → si_T σ (V.O i) (V.R i) (V.K i) (V.S i) 60) ∧ (si_L σ (V.O 7) (V.R 7) (V.K 7) (V.S 7) 640 a.dl) ∧ (∀ i j, i < 8 → j < 8 → V.O i = V.O j → i = j) ∧ (∀ i j, i < 8 → j < 8 → V.R i = V.R j → i = j) ∧ (∀ i j, i < 8 → j < 8 → V.K i = V.K j → i = j) ∧ (∀ i j, i < 8 → j < 8 → V.S i = V.S j → i = j) ∧ (V.uw < 7 ∧ ∀ i, i < 6 → V.dd i < 7 ∧ V.dd i ≠ V.uw) ∧ (∀ i j, i < 6 → j < 6 → V.dd i = V.dd j → i = j) ∧ (si_L σ (V.O V.uw) (V.R V.uw) (V.K V.uw) (V.S V.uw) 60 a.cs) ∧ (∀ i, i < a.hs.length → si_L σ (V.O (V.dd i)) (V.R (V.dd i)) (V.K (V.dd i)) (V.S (V.dd i)) 60 (a.hs.getD i [])) ∧ (if a.on then prg V a σ else non V a σ)
theorem CI.ty {V : vc_T} {a : ab_T} {σ : z_S} (h' : CI V a σ) : z_ty σ V.x = some (.inl 7) := h'.1
theorem CI.r0 {V : vc_T} {a : ab_T} {σ : z_S} (h' : CI V a σ) : z_R σ 700 V.x = some V.tx := h'.2.1
theorem CI.t0 {V : vc_T} {a : ab_T} {σ : z_S} (h' : CI V a σ) : z_ty σ V.tx = some (.inr (1, 600, 18)) := h'.2.2.1
theorem CI.n0 {V : vc_T} {a : ab_T} {σ : z_S} (h' : CI V a σ) : z_I σ 701 V.x = nI a.tn := h'.2.2.2.1
theorem CI.n6 {V : vc_T} {a : ab_T} {σ : z_S} (h' : CI V a σ) : txo a.tn a.tt := h'.2.2.2.2.1
theorem CI.tt {V : vc_T} {a : ab_T} {σ : z_S} (h' : CI V a σ) : ∀ i, i < a.tn → z_A σ 18 V.tx i = a.tt i := h'.2.2.2.2.2.1
theorem CI.pl {V : vc_T} {a : ab_T} {σ : z_S} (h' : CI V a σ) : z_I σ 702 V.x = a.pl := h'.2.2.2.2.2.2.1
theorem CI.r3 {V : vc_T} {a : ab_T} {σ : z_S} (h' : CI V a σ) : z_R σ 703 V.x = some V.rg := h'.2.2.2.2.2.2.2.1
theorem CI.t3 {V : vc_T} {a : ab_T} {σ : z_S} (h' : CI V a σ) : z_ty σ V.rg = some (.inr (0, 8, 19)) := h'.2.2.2.2.2.2.2.2.1
theorem CI.n4 {V : vc_T} {a : ab_T} {σ : z_S} (h' : CI V a σ) : z_I σ 704 V.x = nI a.rg.length := h'.2.2.2.2.2.2.2.2.2.1
theorem CI.g8 {V : vc_T} {a : ab_T} {σ : z_S} (h' : CI V a σ) : a.rg.length ≤ 8 := h'.2.2.2.2.2.2.2.2.2.2.1
theorem CI.gg {V : vc_T} {a : ab_T} {σ : z_S} (h' : CI V a σ) : ∀ i, i < a.rg.length → z_A σ 19 V.rg i = nI (a.rg.getD i 0) := h'.2.2.2.2.2.2.2.2.2.2.2.1
theorem CI.rn {V : vc_T} {a : ab_T} {σ : z_S} (h' : CI V a σ) : z_R σ 706 V.x = some V.N.w := h'.2.2.2.2.2.2.2.2.2.2.2.2.1
theorem CI.rm {V : vc_T} {a : ab_T} {σ : z_S} (h' : CI V a σ) : z_R σ 707 V.x = some V.M.w := h'.2.2.2.2.2.2.2.2.2.2.2.2.2.1
theorem CI.ru {V : vc_T} {a : ab_T} {σ : z_S} (h' : CI V a σ) : z_R σ 708 V.x = some (V.O V.uw) := h'.2.2.2.2.2.2.2.2.2.2.2.2.2.2.1
theorem CI.rd {V : vc_T} {a : ab_T} {σ : z_S} (h' : CI V a σ) : z_R σ 709 V.x = some V.dn := h'.2.2.2.2.2.2.2.2.2.2.2.2.2.2.2.1
theorem CI.td {V : vc_T} {a : ab_T} {σ : z_S} (h' : CI V a σ) : z_ty σ V.dn = some (.inr (10, 6, 22)) := h'.2.2.2.2.2.2.2.2.2.2.2.2.2.2.2.2.1
theorem CI.qd {V : vc_T} {a : ab_T} {σ : z_S} (h' : CI V a σ) : ∀ i, i < 6 → z_Q σ 22 V.dn i = some (V.O (V.dd i)) := h'.2.2.2.2.2.2.2.2.2.2.2.2.2.2.2.2.2.1
theorem CI.ds {V : vc_T} {a : ab_T} {σ : z_S} (h' : CI V a σ) : z_I σ 710 V.x = nI a.hs.length := h'.2.2.2.2.2.2.2.2.2.2.2.2.2.2.2.2.2.2.1
theorem CI.h6 {V : vc_T} {a : ab_T} {σ : z_S} (h' : CI V a σ) : a.hs.length ≤ 6 := h'.2.2.2.2.2.2.2.2.2.2.2.2.2.2.2.2.2.2.2.1
theorem CI.rl {V : vc_T} {a : ab_T} {σ : z_S} (h' : CI V a σ) : z_R σ 711 V.x = some (V.O 7) := h'.2.2.2.2.2.2.2.2.2.2.2.2.2.2.2.2.2.2.2.2.1
theorem CI.re {V : vc_T} {a : ab_T} {σ : z_S} (h' : CI V a σ) : z_R σ 712 V.x = some V.M.a := h'.2.2.2.2.2.2.2.2.2.2.2.2.2.2.2.2.2.2.2.2.2.1
theorem CI.en {V : vc_T} {a : ab_T} {σ : z_S} (h' : CI V a σ) : en_T V.M σ := h'.2.2.2.2.2.2.2.2.2.2.2.2.2.2.2.2.2.2.2.2.2.2.1
theorem CI.eN {V : vc_T} {a : ab_T} {σ : z_S} (h' : CI V a σ) : en_T V.N σ := h'.2.2.2.2.2.2.2.2.2.2.2.2.2.2.2.2.2.2.2.2.2.2.2.1
theorem CI.ea {V : vc_T} {a : ab_T} {σ : z_S} (h' : CI V a σ) : V.N.a = V.M.a := h'.2.2.2.2.2.2.2.2.2.2.2.2.2.2.2.2.2.2.2.2.2.2.2.2.1
theorem CI.Mt {V : vc_T} {a : ab_T} {σ : z_S} (h' : CI V a σ) : rw_T V.M σ := h'.2.2.2.2.2.2.2.2.2.2.2.2.2.2.2.2.2.2.2.2.2.2.2.2.2.1
theorem CI.da {V : vc_T} {a : ab_T} {σ : z_S} (h' : CI V a σ) : ∀ i j, i < 8 → j < 8 → V.N.ra i ≠ V.M.ra j := h'.2.2.2.2.2.2.2.2.2.2.2.2.2.2.2.2.2.2.2.2.2.2.2.2.2.2.1
theorem CI.dk {V : vc_T} {a : ab_T} {σ : z_S} (h' : CI V a σ) : ∀ i j, i < 8 → j < 8 → V.N.ka i ≠ V.M.ka j := h'.2.2.2.2.2.2.2.2.2.2.2.2.2.2.2.2.2.2.2.2.2.2.2.2.2.2.2.1
theorem CI.dc {V : vc_T} {a : ab_T} {σ : z_S} (h' : CI V a σ) : ∀ i j, i < 8 → j < 8 → V.N.ca i ≠ V.M.ca j := h'.2.2.2.2.2.2.2.2.2.2.2.2.2.2.2.2.2.2.2.2.2.2.2.2.2.2.2.2.1
theorem CI.st {V : vc_T} {a : ab_T} {σ : z_S} (h' : CI V a σ) : ∀ i, i < 7 → si_T σ (V.O i) (V.R i) (V.K i) (V.S i) 60 := h'.2.2.2.2.2.2.2.2.2.2.2.2.2.2.2.2.2.2.2.2.2.2.2.2.2.2.2.2.2.1
theorem CI.sl {V : vc_T} {a : ab_T} {σ : z_S} (h' : CI V a σ) : si_L σ (V.O 7) (V.R 7) (V.K 7) (V.S 7) 640 a.dl := h'.2.2.2.2.2.2.2.2.2.2.2.2.2.2.2.2.2.2.2.2.2.2.2.2.2.2.2.2.2.2.1
theorem CI.iO {V : vc_T} {a : ab_T} {σ : z_S} (h' : CI V a σ) : ∀ i j, i < 8 → j < 8 → V.O i = V.O j → i = j := h'.2.2.2.2.2.2.2.2.2.2.2.2.2.2.2.2.2.2.2.2.2.2.2.2.2.2.2.2.2.2.2.1
theorem CI.iR {V : vc_T} {a : ab_T} {σ : z_S} (h' : CI V a σ) : ∀ i j, i < 8 → j < 8 → V.R i = V.R j → i = j := h'.2.2.2.2.2.2.2.2.2.2.2.2.2.2.2.2.2.2.2.2.2.2.2.2.2.2.2.2.2.2.2.2.1
theorem CI.iK {V : vc_T} {a : ab_T} {σ : z_S} (h' : CI V a σ) : ∀ i j, i < 8 → j < 8 → V.K i = V.K j → i = j := h'.2.2.2.2.2.2.2.2.2.2.2.2.2.2.2.2.2.2.2.2.2.2.2.2.2.2.2.2.2.2.2.2.2.1
theorem CI.iS {V : vc_T} {a : ab_T} {σ : z_S} (h' : CI V a σ) : ∀ i j, i < 8 → j < 8 → V.S i = V.S j → i = j := h'.2.2.2.2.2.2.2.2.2.2.2.2.2.2.2.2.2.2.2.2.2.2.2.2.2.2.2.2.2.2.2.2.2.2.1
theorem CI.uw {V : vc_T} {a : ab_T} {σ : z_S} (h' : CI V a σ) : V.uw < 7 ∧ ∀ i, i < 6 → V.dd i < 7 ∧ V.dd i ≠ V.uw := h'.2.2.2.2.2.2.2.2.2.2.2.2.2.2.2.2.2.2.2.2.2.2.2.2.2.2.2.2.2.2.2.2.2.2.2.1
theorem CI.id {V : vc_T} {a : ab_T} {σ : z_S} (h' : CI V a σ) : ∀ i j, i < 6 → j < 6 → V.dd i = V.dd j → i = j := h'.2.2.2.2.2.2.2.2.2.2.2.2.2.2.2.2.2.2.2.2.2.2.2.2.2.2.2.2.2.2.2.2.2.2.2.2.1
theorem CI.su {V : vc_T} {a : ab_T} {σ : z_S} (h' : CI V a σ) : si_L σ (V.O V.uw) (V.R V.uw) (V.K V.uw) (V.S V.uw) 60 a.cs := h'.2.2.2.2.2.2.2.2.2.2.2.2.2.2.2.2.2.2.2.2.2.2.2.2.2.2.2.2.2.2.2.2.2.2.2.2.2.1
theorem CI.sd {V : vc_T} {a : ab_T} {σ : z_S} (h' : CI V a σ) : ∀ i, i < a.hs.length → si_L σ (V.O (V.dd i)) (V.R (V.dd i)) (V.K (V.dd i)) (V.S (V.dd i)) 60 (a.hs.getD i []) := h'.2.2.2.2.2.2.2.2.2.2.2.2.2.2.2.2.2.2.2.2.2.2.2.2.2.2.2.2.2.2.2.2.2.2.2.2.2.2.1
theorem CI.pg {V : vc_T} {a : ab_T} {σ : z_S} (h' : CI V a σ) : if a.on then prg V a σ else non V a σ := h'.2.2.2.2.2.2.2.2.2.2.2.2.2.2.2.2.2.2.2.2.2.2.2.2.2.2.2.2.2.2.2.2.2.2.2.2.2.2.2
def RR (a : ab_T) (μ : mo_U) : Prop := (μ.1 801 = nI a.tn) ∧ (∀ i, i < a.tn → μ.2 23 i = a.tt i) ∧ (μ.1 807 = a.pl) ∧ (if μ.1 806 = 6 then μ.1 849 = nI a.rg.length ∧ ∀ i, i < a.rg.length → μ.2 56 i = nI (a.rg.getD i 0) else a.rg = []) ∧ (∃ R N, mo_M μ R N) ∧ (if a.on then (∃ T', rT μ a.G T' ∧ (∀ v, v < a.G.n → T' v = a.T v) ∧ ∀ v, ¬ v < a.G.n → T' v = []) ∧ (∀ k, k < a.G.n → μ.2 34 k = nI (a.nm.getD k 0) ∧ μ.2 35 k = nI (a.G.A k)) ∧ (∀ i, i < a.G.rs.length → ∀ k, k < 26 → bi (μ.2 33 i) k = vlt (a.G.rs.getD i d_ru).ls k) ∧ (∀ i j, i < 8 → j < 8 → μ.2 38 (8 * i + j) = if a.rc i j then 1 else 0) ∧ (μ.1 831 = nI a.cs.length ∧ fives (μ.2 46) 0 a.cs) ∧ (μ.1 834 = nI a.hs.length ∧ ∀ i, i < a.hs.length → μ.2 48 i = nI (a.hs.getD i []).length ∧ fives (μ.2 47) (300 * i) (a.hs.getD i [])) ∧ mo_DL μ a.dl else μ.1 808 = 0 ∧ μ.1 831 = 0)
theorem RR.n0 {a : ab_T} {μ : mo_U} (h' : RR a μ) : μ.1 801 = nI a.tn := h'.1
theorem RR.tt {a : ab_T} {μ : mo_U} (h' : RR a μ) : ∀ i, i < a.tn → μ.2 23 i = a.tt i := h'.2.1
theorem RR.pl {a : ab_T} {μ : mo_U} (h' : RR a μ) : μ.1 807 = a.pl := h'.2.2.1
theorem RR.rg {a : ab_T} {μ : mo_U} (h' : RR a μ) : if μ.1 806 = 6 then μ.1 849 = nI a.rg.length ∧ ∀ i, i < a.rg.length → μ.2 56 i = nI (a.rg.getD i 0) else a.rg = [] := h'.2.2.2.1
theorem RR.mm {a : ab_T} {μ : mo_U} (h' : RR a μ) : ∃ R N, mo_M μ R N := h'.2.2.2.2.1
theorem RR.pg {a : ab_T} {μ : mo_U} (h' : RR a μ) : if a.on then (∃ T', rT μ a.G T' ∧ (∀ v, v < a.G.n → T' v = a.T v) ∧ ∀ v, ¬ v < a.G.n → T' v = []) ∧ (∀ k, k < a.G.n → μ.2 34 k = nI (a.nm.getD k 0) ∧ μ.2 35 k = nI (a.G.A k)) ∧ (∀ i, i < a.G.rs.length → ∀ k, k < 26 → bi (μ.2 33 i) k = vlt (a.G.rs.getD i d_ru).ls k) ∧ (∀ i j, i < 8 → j < 8 → μ.2 38 (8 * i + j) = if a.rc i j then 1 else 0) ∧ (μ.1 831 = nI a.cs.length ∧ fives (μ.2 46) 0 a.cs) ∧ (μ.1 834 = nI a.hs.length ∧ ∀ i, i < a.hs.length → μ.2 48 i = nI (a.hs.getD i []).length ∧ fives (μ.2 47) (300 * i) (a.hs.getD i [])) ∧ mo_DL μ a.dl else μ.1 808 = 0 ∧ μ.1 831 = 0 := h'.2.2.2.2.2
def mu_of (σ : z_S) (m : Nat) (ma : Nat → Nat) : mo_U := (fun f => z_I σ f m, fun t => z_A σ t (ma t))
theorem mu_put (σ : z_S) (m : Nat) (ma : Nat → Nat) : mo_put σ m ma (mu_of σ m ma) = σ := by
  unfold mo_put mu_of
  refine Prod.ext rfl (Prod.ext ?_ (Prod.ext rfl (Prod.ext ?_ rfl)))
  · funext f a
    dsimp only
    split
    · rename_i h; rw [h]; rfl
    · rfl
  · funext t a
    dsimp only
    split
    · rename_i h; rw [h]; rfl
    · rfl
theorem mu_of_put (σ : z_S) (m : Nat) (ma : Nat → Nat) (μ : mo_U) : mu_of (mo_put σ m ma μ) m ma = μ := by
  unfold mu_of
  refine Prod.ext ?_ ?_
  · funext f; exact mo_I σ m ma μ f
  · funext t; exact mo_A σ m ma μ t
def IN (x m : Nat) (σ : z_S) : Prop := ∃ V a ma, V.x = x ∧ CI V a σ ∧ mo_T σ m ma ∧ (∀ t, t < 23 → ma t = m) ∧ RR a (mu_of σ m ma)
/-- cells of the program alone -/
def ceq (σ σ' : z_S) : Prop := (∀ a, z_ty σ' a = z_ty σ a) ∧ (∀ f a, z_R σ' f a = z_R σ f a) ∧ (∀ t a, z_Q σ' t a = z_Q σ t a) ∧ (∀ f a, f < 800 → z_I σ' f a = z_I σ f a) ∧ (∀ t a, t < 23 → z_A σ' t a = z_A σ t a)
theorem ceq.ty {σ σ' : z_S} (h' : ceq σ σ') : ∀ a, z_ty σ' a = z_ty σ a := h'.1
theorem ceq.R {σ σ' : z_S} (h' : ceq σ σ') : ∀ f a, z_R σ' f a = z_R σ f a := h'.2.1
theorem ceq.Q {σ σ' : z_S} (h' : ceq σ σ') : ∀ t a, z_Q σ' t a = z_Q σ t a := h'.2.2.1
theorem ceq.I {σ σ' : z_S} (h' : ceq σ σ') : ∀ f a, f < 800 → z_I σ' f a = z_I σ f a := h'.2.2.2.1
theorem ceq.A {σ σ' : z_S} (h' : ceq σ σ') : ∀ t a, t < 23 → z_A σ' t a = z_A σ t a := h'.2.2.2.2
def lowf (μ μ' : mo_U) : Prop := (∀ f, f < 800 → μ'.1 f = μ.1 f) ∧ ∀ t, t < 23 → μ'.2 t = μ.2 t
theorem lowf_fr {ts fs : List Nat} {μ μ' : mo_U} (h : mo_fr ts fs μ μ') (h1 : ∀ t ∈ ts, 23 ≤ t) (h2 : ∀ f ∈ fs, 800 ≤ f) : lowf μ μ' := ⟨fun f hf => h.2 f (fun z => by have := h2 f z; omega), fun t ht => h.1 t (fun z => by have := h1 t z; omega)⟩
theorem ceq_put {σ : z_S} {m : Nat} {ma : Nat → Nat} (hm : ∀ t, t < 23 → ma t = m) {μ' : mo_U} (h : lowf (mu_of σ m ma) μ') : ceq σ (mo_put σ m ma μ') := by
  refine ⟨fun _ => rfl, fun _ _ => rfl, fun _ _ => rfl, fun f a hf => ?_, fun t a ht => ?_⟩
  · show (if a = m then μ'.1 f else z_I σ f a) = z_I σ f a
    split
    · rename_i e; rw [h.1 f hf, e]; rfl
    · rfl
  · show (if a = ma t then μ'.2 t else z_A σ t a) = z_A σ t a
    split
    · rename_i e; rw [h.2 t ht, e]; rfl
    · rfl
theorem ro_L_c {σ σ' : z_S} (h : ceq σ σ') {b k c : Nat} {l : al_T} (hL : ro_L σ b k c l) : ro_L σ' b k c l := by
  obtain ⟨⟨a1, a2, a3, a4, a5⟩, h2, h3, h4, h5, h6⟩ := hL
  exact ⟨⟨by rw [h.ty]; exact a1, by rw [h.R]; exact a2, by rw [h.R]; exact a3, by rw [h.ty]; exact a4, by rw [h.ty]; exact a5⟩, by rw [h.I 402 _ (by omega)]; exact h2, h3, h4, h5, fun i hi => by rw [h.A 12 _ (by omega), h.A 13 _ (by omega)]; exact h6 i hi⟩
theorem rw_T_c {σ σ' : z_S} (h : ceq σ σ') {X : ex_T} (hR : rw_T X σ) : rw_T X σ' := ⟨by rw [h.ty]; exact hR.tw, fun i hi => by rw [h.Q]; exact hR.qw i hi, fun i hi => by
  obtain ⟨a1, a2, a3, a4, a5⟩ := hR.ro i hi
  exact ⟨by rw [h.ty]; exact a1, by rw [h.R]; exact a2, by rw [h.R]; exact a3, by rw [h.ty]; exact a4, by rw [h.ty]; exact a5⟩, hR.ia, hR.ik, hR.ic⟩
theorem rw_L_c {σ σ' : z_S} (h : ceq σ σ') {X : ex_T} {T : Nat → al_T} (hR : rw_L X σ T) : rw_L X σ' T := ⟨rw_T_c h hR.1, fun i hi => ro_L_c h (hR.2 i hi)⟩
theorem en_T_c {σ σ' : z_S} (h : ceq σ σ') {X : ex_T} (e : en_T X σ) : en_T X σ' := ⟨by rw [h.ty]; exact e.ty, by rw [h.R]; exact e.rl, by rw [h.ty]; exact e.tl, by rw [h.R]; exact e.rv, by rw [h.ty]; exact e.tv, by rw [h.R]; exact e.rq, by rw [h.ty]; exact e.tq, by rw [h.R]; exact e.rk, by rw [h.ty]; exact e.tk⟩
theorem si_T_c {σ σ' : z_S} (h : ceq σ σ') {a r k s n : Nat} (e : si_T σ a r k s n) : si_T σ' a r k s n := by
  obtain ⟨h1, h2, h3, h4, h5, h6, h7⟩ := e
  exact ⟨by rw [h.ty]; exact h1, by rw [h.R]; exact h2, by rw [h.R]; exact h3, by rw [h.R]; exact h4, by rw [h.ty]; exact h5, by rw [h.ty]; exact h6, by rw [h.ty]; exact h7⟩
theorem si_L_c {σ σ' : z_S} (h : ceq σ σ') {a r k s n : Nat} {l : sl_T} (e : si_L σ a r k s n l) : si_L σ' a r k s n l := by
  obtain ⟨h1, h2, h3, h4⟩ := e
  exact ⟨si_T_c h h1, by rw [h.I 603 _ (by omega)]; exact h2, h3, fun i hi => by rw [h.A 15 _ (by omega), h.A 16 _ (by omega), h.A 17 _ (by omega)]; exact h4 i hi⟩
/-- cells of rules, atoms, programs alone -/
def peq (σ σ' : z_S) : Prop := (∀ a, z_ty σ a ≠ none → z_ty σ' a = z_ty σ a) ∧ (∀ f a, z_ty σ a ≠ none → (f < 100 ∨ (200 ≤ f ∧ f < 300) ∨ (500 ≤ f ∧ f < 600)) → z_R σ' f a = z_R σ f a) ∧ (∀ t a, z_ty σ a ≠ none → (t = 7 ∨ t = 14) → z_Q σ' t a = z_Q σ t a) ∧ (∀ f a, z_ty σ a ≠ none → (f < 100 ∨ (200 ≤ f ∧ f < 300) ∨ (500 ≤ f ∧ f < 600)) → z_I σ' f a = z_I σ f a) ∧ (∀ t a, z_ty σ a ≠ none → (t = 1 ∨ (8 ≤ t ∧ t ≤ 11)) → z_A σ' t a = z_A σ t a)
theorem peq.ty {σ σ' : z_S} (h' : peq σ σ') : ∀ a, z_ty σ a ≠ none → z_ty σ' a = z_ty σ a := h'.1
theorem peq.R {σ σ' : z_S} (h' : peq σ σ') : ∀ f a, z_ty σ a ≠ none → (f < 100 ∨ (200 ≤ f ∧ f < 300) ∨ (500 ≤ f ∧ f < 600)) → z_R σ' f a = z_R σ f a := h'.2.1
theorem peq.Q {σ σ' : z_S} (h' : peq σ σ') : ∀ t a, z_ty σ a ≠ none → (t = 7 ∨ t = 14) → z_Q σ' t a = z_Q σ t a := h'.2.2.1
theorem peq.I {σ σ' : z_S} (h' : peq σ σ') : ∀ f a, z_ty σ a ≠ none → (f < 100 ∨ (200 ≤ f ∧ f < 300) ∨ (500 ≤ f ∧ f < 600)) → z_I σ' f a = z_I σ f a := h'.2.2.2.1
theorem peq.A {σ σ' : z_S} (h' : peq σ σ') : ∀ t a, z_ty σ a ≠ none → (t = 1 ∨ (8 ≤ t ∧ t ≤ 11)) → z_A σ' t a = z_A σ t a := h'.2.2.2.2
theorem peq_c {σ σ' : z_S} (h : ceq σ σ') : peq σ σ' := ⟨fun a _ => h.ty a, fun f a _ _ => h.R f a, fun t a _ _ => h.Q t a, fun f a _ hf => h.I f a (by omega), fun t a _ ht => h.A t a (by omega)⟩
theorem nn_s {α : Type} {o : Option α} {v : α} (h : o = some v) : o ≠ none := by rw [h]; exact fun z => by cases z
theorem at_L_p {σ σ' : z_S} {b n : Nat} {l : lit_T} (h : at_L σ b l n) (f : peq σ σ') : at_L σ' b l n := by
  obtain ⟨t, h1, h2, h3⟩ := h.tm
  have hb := nn_s h.ty
  refine ⟨by rw [f.ty b hb]; exact h.ty, h.n1, h.n3, by rw [f.I 1 b hb (by omega)]; exact h.sz, ⟨t, by rw [f.R 0 b hb (by omega)]; exact h1, by rw [f.ty t (nn_s h2)]; exact h2, fun i hi => by rw [f.A 1 t (nn_s h2) (by omega)]; exact h3 i hi⟩, h.rs, by rw [f.I 2 b hb (by omega)]; exact h.kd, h.k2, fun q => by rw [f.I 3 b hb (by omega)]; exact h.rl q, fun q => by rw [f.I 4 b hb (by omega)]; exact h.op q, fun k hk => by rw [f.I 5 b hb (by omega)]; exact h.lt k hk, h.to⟩
theorem bd_L_p {σ σ' : z_S} {ro bb : Nat} {ls : List lit_T} {A bo : Nat → Nat} (h : bd_L σ ro ls A bb bo) (f : peq σ σ') : bd_L σ' ro ls A bb bo :=
  ⟨by rw [f.ty _ (nn_s h.ty)]; exact h.ty, by rw [f.R 501 _ (nn_s h.ty) (by omega)]; exact h.rb, by rw [f.ty _ (nn_s h.tb)]; exact h.tb, h.l5, by rw [f.I 502 _ (nn_s h.ty) (by omega)]; exact h.sz, fun i hi => by
    obtain ⟨h1, n, h2, h3⟩ := h.bo i hi
    exact ⟨by rw [f.Q 14 _ (nn_s h.tb) (by omega)]; exact h1, n, at_L_p h2 f, h3⟩⟩
theorem hd_L_p {σ σ' : z_S} {ro h n hb : Nat} {ts : tm_T} {c : Bool} (hh : hd_L σ ro h ts c n hb) (f : peq σ σ') : hd_L σ' ro h ts c n hb := ⟨by rw [f.ty _ (nn_s hh.ty)]; exact hh.ty, by rw [f.R 500 _ (nn_s hh.ty) (by omega)]; exact hh.rh, at_L_p hh.at' f, by rw [f.I 504 _ (nn_s hh.ty) (by omega)]; exact hh.ct⟩
theorem pr_L_p {σ σ' : z_S} {D : pa_T} {G : pg_T} (h : pr_L σ D G) (f : peq σ σ') : pr_L σ' D G := by
  have ht := nn_s h.ty
  refine ⟨by rw [f.ty _ ht]; exact h.ty, by rw [f.R 200 _ ht (by omega)]; exact h.rr, by rw [f.ty _ (nn_s h.tr)]; exact h.tr, by rw [f.I 201 _ ht (by omega)]; exact h.nn, h.n16, fun i hi => ?_, by rw [f.R 204 _ ht (by omega)]; exact h.lr, by rw [f.ty _ (nn_s h.lt)]; exact h.lt, fun v hv => by rw [f.A 10 _ (nn_s h.lt) (by omega)]; exact h.ly v hv, by rw [f.I 206 _ ht (by omega)]; exact h.nr, by rw [f.I 207 _ ht (by omega)]; exact h.tp, fun v hv => by rw [f.I 209 _ ht (by omega)]; exact h.vw v hv⟩
  obtain ⟨h1, h2, h3, h4⟩ := h.ru i hi
  exact ⟨by rw [f.Q 7 _ (nn_s h.tr) (by omega)]; exact h1, bd_L_p h2 f, hd_L_p h3 f, h4⟩
theorem lt_L_p {σ σ' : z_S} {ro : Nat} {lt : Nat → Bool} (h : lt_L σ ro lt) (f : peq σ σ') : lt_L σ' ro lt := ⟨by rw [f.ty _ (nn_s h.ty)]; exact h.ty, fun k hk => by rw [f.I 505 _ (nn_s h.ty) (by omega)]; exact h.b k hk, by rw [f.I 506 _ (nn_s h.ty) (by omega)]; exact h.n, h.n6⟩
theorem px_L_p {σ σ' : z_S} {V : vc_T} {a : ab_T} (hp : z_ty σ V.D.p ≠ none) (h : px_L σ V a) (f : peq σ σ') : px_L σ' V a :=
  ⟨by rw [f.R 202 _ hp (by omega)]; exact h.nr, by rw [f.ty _ (nn_s h.nt)]; exact h.nt, fun k hk => by rw [f.A 8 _ (nn_s h.nt) (by omega)]; exact h.nv k hk, by rw [f.R 203 _ hp (by omega)]; exact h.tr, by rw [f.ty _ (nn_s h.tt)]; exact h.tt, fun k hk => by rw [f.A 9 _ (nn_s h.tt) (by omega)]; exact h.tv k hk, by rw [f.R 205 _ hp (by omega)]; exact h.rr, by rw [f.ty _ (nn_s h.rt)]; exact h.rt, fun k hk j hj => by rw [f.A 11 _ (nn_s h.rt) (by omega)]; exact h.rv k hk j hj, fun v hv => by rw [f.I 210 _ hp (by omega)]; exact h.cv v hv, fun i hi => lt_L_p (h.lt i hi) f⟩
theorem prg_c {V : vc_T} {a : ab_T} {σ σ' : z_S} (h : prg V a σ) (c : ceq σ σ') : prg V a σ' := ⟨by rw [c.R]; exact h.rp, pr_L_p h.pr (peq_c c), px_L_p (nn_s h.pr.ty) h.px (peq_c c), h.ok, h.ln, h.tm, h.r1, h.a1, h.nl, h.nb, h.un, h.gd, rw_L_c c h.N, fun v h1 h2 => by
  obtain ⟨l, h3, h4⟩ := h.Mg v h1 h2
  exact ⟨l, ro_L_c c h3, h4⟩, h.cs, h.hc, h.lc⟩
theorem non_c {V : vc_T} {a : ab_T} {σ σ' : z_S} (h : non V a σ) (c : ceq σ σ') : non V a σ' := ⟨by rw [c.R]; exact h.rp, by rw [c.ty]; exact h.ty, by rw [c.I 201 _ (by omega)]; exact h.i1, by rw [c.I 206 _ (by omega)]; exact h.i6, by rw [c.I 207 _ (by omega)]; exact h.i7, by
  obtain ⟨T, h1, h2⟩ := h.N
  exact ⟨T, rw_L_c c h1, h2⟩, h.cs, h.hs, h.dl⟩
theorem CI_c {V : vc_T} {a : ab_T} {σ σ' : z_S} (h : CI V a σ) (c : ceq σ σ') : CI V a σ' := by
  refine ⟨by rw [c.ty]; exact h.ty, by rw [c.R]; exact h.r0, by rw [c.ty]; exact h.t0, by rw [c.I 701 _ (by omega)]; exact h.n0, h.n6, fun i hi => by rw [c.A 18 _ (by omega)]; exact h.tt i hi, by rw [c.I 702 _ (by omega)]; exact h.pl, by rw [c.R]; exact h.r3, by rw [c.ty]; exact h.t3, by rw [c.I 704 _ (by omega)]; exact h.n4, h.g8, fun i hi => by rw [c.A 19 _ (by omega)]; exact h.gg i hi, by rw [c.R]; exact h.rn, by rw [c.R]; exact h.rm, by rw [c.R]; exact h.ru, by rw [c.R]; exact h.rd, by rw [c.ty]; exact h.td, fun i hi => by rw [c.Q]; exact h.qd i hi, by rw [c.I 710 _ (by omega)]; exact h.ds, h.h6, by rw [c.R]; exact h.rl, by rw [c.R]; exact h.re, en_T_c c h.en, en_T_c c h.eN, h.ea, rw_T_c c h.Mt, h.da, h.dk, h.dc, fun i hi => si_T_c c (h.st i hi), si_L_c c h.sl, h.iO, h.iR, h.iK, h.iS, h.uw, h.id, si_L_c c h.su, fun i hi => si_L_c c (h.sd i hi), ?_⟩
  have := h.pg
  cases hb : a.on with
  | true => rw [hb] at this; exact prg_c this c
  | false => rw [hb] at this; exact non_c this c
