/-! THE PURE LAYER: what the calls do, said without the machine -/
/-- a way: its channels (10 * fibre + wavelength), its length, its conversions -/
abbrev Wy : Type := List Nat × Nat × Nat
/-- the planner: five numbers, tables of numbers, tables of truth values, the ways of the lights -/
abbrev Ab : Type := (Nat → Nat) × (Nat → Nat → Nat) × (Nat → Nat → Bool) × (Nat → List Wy)
def nD (a : Ab) : Nat := a.1 0
def nW (a : Ab) : Nat := a.1 1
def nF (a : Ab) : Nat := a.1 2
def nR (a : Ab) : Nat := a.1 3
def nL (a : Ab) : Nat := a.1 4
def e1 (a : Ab) (f : Nat) : Nat := a.2.1 0 f
def e2 (a : Ab) (f : Nat) : Nat := a.2.1 1 f
def el (a : Ab) (f : Nat) : Nat := a.2.1 2 f
def ca (a : Ab) (r : Nat) : Nat := a.2.1 3 r
def de (a : Ab) (r : Nat) : Nat := a.2.1 4 r
def sn (a : Ab) (l : Nat) : Nat := a.2.1 5 l
def en (a : Ab) (l : Nat) : Nat := a.2.1 6 l
def cv (a : Ab) (v : Nat) : Bool := a.2.2.1 0 v
def ct (a : Ab) (f : Nat) : Bool := a.2.2.1 1 f
def wy (a : Ab) (l : Nat) : List Wy := a.2.2.2 l
def put {A : Type} (g : Nat → A) (k : Nat) (v : A) : Nat → A := fun i => if i = k then v else g i
def put2 {A : Type} (g : Nat → Nat → A) (k j : Nat) (v : A) : Nat → Nat → A := fun i i2 => if i = k ∧ i2 = j then v else g i i2
def sN (a : Ab) (k v : Nat) : Ab := (put a.1 k v, a.2)
def sT (a : Ab) (k j v : Nat) : Ab := (a.1, put2 a.2.1 k j v, a.2.2)
def sB (a : Ab) (k j : Nat) (v : Bool) : Ab := (a.1, a.2.1, put2 a.2.2.1 k j v, a.2.2.2)
def sW (a : Ab) (l : Nat) (v : List Wy) : Ab := (a.1, a.2.1, a.2.2.1, put a.2.2.2 l v)
/-- the least of b and the values of g below n -/
def mnl : Nat → (Nat → Nat) → Nat → Nat
  | 0, _, b => b
  | n + 1, g, b => min (mnl n g b) (g n)
/-- the lowest number below n of a kind; n without one -/
def low : Nat → (Nat → Bool) → Nat
  | 0, _ => 0
  | n + 1, p => if p 0 = true then 0 else low n (fun i => p (i + 1)) + 1
/-- how many numbers below n are of a kind -/
def cnt : Nat → (Nat → Bool) → Nat
  | 0, _ => 0
  | n + 1, p => cnt n p + (if p n = true then 1 else 0)
def sm : Nat → (Nat → Nat) → Nat
  | 0, _ => 0
  | n + 1, g => sm n g + g n
def mx : Nat → (Nat → Nat) → Nat
  | 0, _ => 0
  | n + 1, g => max (mx n g) (g n)
/-- the other end of a fibre -/
def acr (a : Ab) (v f : Nat) : Option Nat := if e1 a f = v then some (e2 a f) else if e2 a f = v then some (e1 a f) else none
/-- on along one fibre -/
def exn (a : Ab) (bar : Nat → Bool) (t : Nat) (go : Nat → Nat → List (List (Nat × Nat))) (v met f : Nat) : List (List (Nat × Nat)) :=
  match acr a v f with
  | none => []
  | some u => if bar f = true then [] else if met.testBit u = true then [] else if u = t then [[(f, v)]] else (go u (met ||| 2 ^ u)).map (fun p => (f, v) :: p)
/-- all rows of fibres from a node to t, each with the node that it leaves -/
def trl (a : Ab) (bar : Nat → Bool) (t : Nat) : Nat → Nat → Nat → List (List (Nat × Nat))
  | 0 => fun _ _ => []
  | n + 1 => fun v met => (List.range (nF a)).flatMap (exn a bar t (trl a bar t n) v met)
/-- the conversions from a channel on, if it has this wavelength; 1000: never -/
def cst (wl : Nat) (u : Nat → Nat) (c : Nat → Bool) : List (Nat × Nat) → Nat → Nat
  | [], _ => 0
  | (f, _) :: r, w => if (u f).testBit w = true then
      (match r with
        | [] => 0
        | (_, v') :: _ => if c v' = true then mnl wl (fun x => cst wl u c r x + 1) (cst wl u c r w) else cst wl u c r w)
      else 1000
/-- the wavelength of the next channel -/
def nxt (wl : Nat) (u : Nat → Nat) (c : Nat → Bool) (r : List (Nat × Nat)) (cur w : Nat) : Nat :=
  match r with
  | [] => 0
  | (_, v') :: _ => low wl (fun x => cst wl u c r x + (if x = w then 0 else if c v' = true then 1 else 1000) == cur)
def chs (wl : Nat) (u : Nat → Nat) (c : Nat → Bool) : List (Nat × Nat) → Nat → List Nat
  | [], _ => []
  | (f, v) :: r, w => (10 * f + w) :: chs wl u c r (nxt wl u c r (cst wl u c ((f, v) :: r) w) w)
/-- the wavelength of the first channel -/
def w0 (wl : Nat) (u : Nat → Nat) (c : Nat → Bool) (p : List (Nat × Nat)) : Nat := low wl (fun x => cst wl u c p x == mnl wl (cst wl u c p) 1000)
def lenOf (a : Ab) (p : List (Nat × Nat)) : Nat := (p.map (fun q => el a q.1)).foldl (· + ·) 0
/-- the best way along a row of fibres -/
def lay (a : Ab) (u : Nat → Nat) (c : Nat → Bool) (p : List (Nat × Nat)) : Option Wy :=
  if mnl (nW a) (cst (nW a) u c p) 1000 < 1000 then some (chs (nW a) u c p (w0 (nW a) u c p), lenOf a p, mnl (nW a) (cst (nW a) u c p) 1000) else none
def lxl : List Nat → List Nat → Bool
  | x :: xs, y :: ys => if x = y then lxl xs ys else decide (x < y)
  | _, _ => false
/-- whether a way is ahead of another -/
def ahd (x y : Wy) : Bool :=
  if x.2.1 = y.2.1 then (if x.2.2 = y.2.2 then (if x.1.length = y.1.length then lxl x.1 y.1 else decide (x.1.length < y.1.length)) else decide (x.2.2 < y.2.2)) else decide (x.2.1 < y.2.1)
def pk1 (b : Option Wy) (w : Wy) : Option Wy := match b with
  | none => some w
  | some x => if ahd w x = true then some w else some x
def pick (l : List Wy) : Option Wy := l.foldl pk1 none
/-- the fibres of a way, as a set -/
def fbs (w : Wy) : Nat := mk 14 (fun f => w.1.any (fun c => c / 10 == f))
/-- whether a light's ways use a channel -/
def onc (ws : List Wy) (c : Nat) : Bool := ws.any (fun w => w.1.contains c)
/-- the light on a channel -/
def usr (a : Ab) (f w : Nat) : Option Nat := (List.range (nL a)).find? (fun l => onc (wy a l) (10 * f + w))
/-- the wavelengths that are usable on a fibre; those of a light count as free (60: of none) -/
def usb (a : Ab) (own f : Nat) : Nat := mk (nW a) (fun w => !ct a f && decide (f < nF a) && (match usr a f w with | none => true | some l => l == own))
def units (a : Ab) (l : Nat) : Nat := sm (nR a) (fun r => if ca a r = l then de a r else 0)
def wup (a : Ab) (w : Wy) : Bool := w.1.all (fun c => !ct a (c / 10))
def lup (a : Ab) (l : Nat) : Bool := (wy a l).any (wup a)
def ups (a : Ab) : Nat := cnt (nL a) (lup a)
def lvs (a : Ab) : Nat := cnt (nL a) (fun l => !(wy a l).isEmpty)
def ons (a : Ab) (f : Nat) : Nat := cnt (nW a) (fun w => (usr a f w).isSome)
def jns (a : Ab) (l x y : Nat) : Bool := (sn a l == x && en a l == y) || (sn a l == y && en a l == x)
/-- the ways kept of a walk -/
def kpt (a : Ab) (u : Nat → Nat) (c : Nat → Bool) (x y : Nat) : List Wy := (trl a (fun _ => false) y 8 x (2 ^ x)).filterMap (lay a u c)
def fnd0 (a : Ab) (own x y : Nat) : Option Wy := pick (kpt a (usb a own) (cv a) x y)
def fnd1 (a : Ab) (x y : Nat) : Nat → Nat → Option Wy
  | 0, _ => none
  | n + 1, w => match pick (kpt a (fun f => usb a 60 f &&& 2 ^ w) (fun _ => false) x y) with
    | none => fnd1 a x y n (w + 1)
    | some b => some b
def dsj (x y : Wy) : Bool := fbs x &&& fbs y == 0
def btr (p q : Wy × Wy) : Bool :=
  if p.1.2.1 + p.2.2.1 = q.1.2.1 + q.2.2.1 then ahd p.1 q.1 || (p.1 == q.1 && ahd p.2 q.2) else decide (p.1.2.1 + p.2.2.1 < q.1.2.1 + q.2.2.1)
def pp1 (b : Option (Wy × Wy)) (q : Wy × Wy) : Option (Wy × Wy) := match b with
  | none => some q
  | some p => if btr q p = true then some q else some p
def prs (K : List Wy) : List (Wy × Wy) := K.flatMap (fun x => (K.filter (fun y => dsj x y && ahd x y)).map (fun y => (x, y)))
def fnd2 (a : Ab) (x y : Nat) : Option (Wy × Wy) := (prs (kpt a (usb a 60) (fun _ => false) x y)).foldl pp1 none
/-- the ways that a rule gives -/
def fnd (a : Ab) (x y rule : Nat) : List Wy :=
  if rule = 0 then (fnd0 a 60 x y).toList else if rule = 1 then (fnd1 a x y (nW a) 0).toList else (match fnd2 a x y with | none => [] | some p => [p.1, p.2])
/-- the conversions of a row of channels -/
def chg : List Nat → Nat
  | x :: y :: r => (if x % 10 = y % 10 then 0 else 1) + chg (y :: r)
  | _ => 0
/-- a good way -/
def GW (a : Ab) (w : Wy) : Prop := 1 ≤ w.1.length ∧ w.1.length ≤ 7 ∧ (∀ c ∈ w.1, c / 10 < nF a ∧ c % 10 < nW a) ∧ (w.1.map (· / 10)).Nodup ∧ w.2.2 = chg w.1 ∧ w.2.1 ≤ 7000
def WF (a : Ab) : Prop :=
  (2 ≤ nD a ∧ nD a ≤ 8) ∧ (1 ≤ nW a ∧ nW a ≤ 8) ∧ nF a ≤ 14 ∧ nL a ≤ nR a ∧ nR a ≤ 60 ∧
  (∀ f, f < nF a → e1 a f < nD a ∧ e2 a f < nD a ∧ e1 a f ≠ e2 a f ∧ 1 ≤ el a f ∧ el a f ≤ 1000) ∧
  (∀ f, nF a ≤ f → ct a f = false) ∧ (∀ v, nD a ≤ v → cv a v = false) ∧
  (∀ r, r < nR a → ca a r < nL a ∧ de a r ≤ 10) ∧
  (∀ l, l < nL a → sn a l < nD a ∧ en a l < nD a ∧ sn a l ≠ en a l ∧ units a l ≤ 10 ∧ (units a l = 0 ↔ wy a l = []) ∧ (wy a l).length ≤ 2 ∧ ∀ w ∈ wy a l, GW a w) ∧
  (∀ (l i l' i' : Nat) (w w' : Wy) (c : Nat), l < nL a → l' < nL a → (wy a l)[i]? = some w → (wy a l')[i']? = some w' → c ∈ w.1 → c ∈ w'.1 → l = l' ∧ i = i') ∧
  lvs a ≤ 12
