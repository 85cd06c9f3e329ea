/-! THE PURE LAYER: arguments; what the calls answer -/
def tN (x : Int32) : Nat := x.toNatClampNeg
theorem tN_nI {j : Nat} (h : j < 2 ^ 31) : tN (nI j) = j := nI_clamp h
def isn (x : Int32) (n : Nat) : Bool := !decide (x < 0) && !decide (nI n ≤ x)
def rg (x lo hi : Int32) : Bool := !decide (x < lo) && !decide (hi < x)
theorem isn_t {x : Int32} {n : Nat} (hn : n < 2 ^ 31) (h : isn x n = true) : ∃ j, j < n ∧ x = nI j := by
  unfold isn at h
  rw [Bool.and_eq_true, Bool.not_eq_true', Bool.not_eq_true', decide_eq_false_iff_not, decide_eq_false_iff_not] at h
  obtain ⟨j, hj, rfl⟩ := nI_of h.1
  refine ⟨j, ?_, rfl⟩
  have := h.2
  rw [nI_leI hn hj] at this; omega
theorem isn_i {j n : Nat} (hj : j < n) (hn : n < 2 ^ 31) : isn (nI j) n = true := by
  unfold isn
  rw [Bool.and_eq_true, Bool.not_eq_true', Bool.not_eq_true', decide_eq_false_iff_not, decide_eq_false_iff_not]
  refine ⟨?_, ?_⟩
  · rw [n_0, nI_ltI (by omega) (by omega)]; omega
  · rw [nI_leI hn (by omega)]; omega
theorem isn_no {j n : Nat} (hj : n ≤ j) (hj2 : j < 2 ^ 31) : isn (nI j) n = false := by
  unfold isn
  rw [show decide (nI n ≤ nI j) = true by rw [decide_eq_true_iff, nI_leI (by omega) hj2]; exact hj]
  simp
theorem rg_t {x : Int32} {lo hi : Nat} (hl : lo < 2 ^ 31) (hh : hi < 2 ^ 31) (h : rg x (nI lo) (nI hi) = true) : ∃ j, lo ≤ j ∧ j ≤ hi ∧ x = nI j := by
  unfold rg at h
  rw [Bool.and_eq_true, Bool.not_eq_true', Bool.not_eq_true', decide_eq_false_iff_not, decide_eq_false_iff_not] at h
  rcases n_cases x with q | ⟨j, hj, rfl⟩
  · exact absurd (n_neg q lo hl) h.1
  · obtain ⟨h1, h2⟩ := h
    rw [nI_ltI hj hl] at h1
    rw [nI_ltI hh hj] at h2
    exact ⟨j, by omega, by omega, rfl⟩
def two (a : Ab) (x y : Int32) : Bool := isn x (nD a) && (isn y (nD a) && !decide (x = y))
theorem two_t {a : Ab} {x y : Int32} (hn : nD a ≤ 8) (h : two a x y = true) : ∃ i j, i < nD a ∧ j < nD a ∧ i ≠ j ∧ x = nI i ∧ y = nI j := by
  unfold two at h
  rw [Bool.and_eq_true, Bool.and_eq_true, Bool.not_eq_true', decide_eq_false_iff_not] at h
  obtain ⟨h1, h2, h3⟩ := h
  obtain ⟨i, hi, rfl⟩ := isn_t (by omega) h1
  obtain ⟨j, hj, rfl⟩ := isn_t (by omega) h2
  exact ⟨i, j, hi, hj, fun z => h3 (by rw [z]), rfl, rfl⟩
/-! the answers: an exception's place, or a value and the planner afterwards -/
def q_begin (x y : Int32) : Except Nat (Unit × Ab) := if (rg x 2 8 && rg y 1 8) = true then .ok ((), xB (tN x) (tN y)) else .error 1
def q_addFibre (a : Ab) (x y z : Int32) : Except Nat (Int32 × Ab) := if (two a x y && rg z 1 1000) = true then (if nF a = 14 then .error 2 else .ok (nI (nF a), xF a (tN x) (tN y) (tN z))) else .error 1
def q_toggle (a : Ab) (x : Int32) : Except Nat (Bool × Ab) := if isn x (nD a) = true then .ok (!cv a (tN x), xC a (tN x) (!cv a (tN x))) else .error 1
def q_cut (a : Ab) (x : Int32) : Except Nat (Int32 × Ab) := if isn x (nF a) = true then (if ct a (tN x) = true then .error 2 else .ok (nI (ups a) - nI (ups (xK a (tN x) true)), xK a (tN x) true)) else .error 1
def q_repair (a : Ab) (x : Int32) : Except Nat (Int32 × Ab) := if isn x (nF a) = true then (if ct a (tN x) = true then .ok (nI (ups (xK a (tN x) false)) - nI (ups a), xK a (tN x) false) else .error 2) else .error 1
def q_lightOn (a : Ab) (x y : Int32) : Except Nat (Int32 × Ab) := if isn x (nF a) = true then (if isn y (nW a) = true then .ok (uN (usr a (tN x) (tN y)), a) else .error 2) else .error 1
def q_usage (a : Ab) : Except Nat (UInt32 × Ab) := if nF a = 0 then .error 1 else .ok (FP.fdiv (FP.i2f (nI (sm (nF a) (ons a)))) (FP.i2f (nI (nF a * nW a))), a)
def q_request (a : Ab) (x y d r : Int32) : Except Nat (Int32 × Ab) :=
  if (two a x y && (rg d 1 10 && rg r 0 2)) = true then
    (if nR a = 60 then .error 2 else
      match rmf a (tN x) (tN y) (tN d) (tN r) with
      | some l => .ok (nI (nR a), xR a l (tN d))
      | none => if lvs a < 12 ∧ fnd a (tN x) (tN y) (tN r) ≠ [] then .ok (nI (nR a), xR (xL a (tN x) (tN y) (fnd a (tN x) (tN y) (tN r))) (nL a) (tN d)) else .error 2)
  else .error 1
def lens (ws : List Wy) : Nat := match ws with
  | [] => 0
  | [w] => w.2.1
  | w :: v :: _ => w.2.1 + v.2.1
def q_newLength (a : Ab) (x y r : Int32) : Except Nat (Int32 × Ab) :=
  if (two a x y && rg r 0 2) = true then (if fnd a (tN x) (tN y) (tN r) = [] then .error 2 else .ok (nI (lens (fnd a (tN x) (tN y) (tN r))), a)) else .error 1
def q_release (a : Ab) (x : Int32) : Except Nat (Int32 × Ab) := if isn x (nR a) = true then (if de a (tN x) = 0 then .error 2 else .ok (nI (units (xZ a (tN x)) (ca a (tN x))), rls a (tN x))) else .error 1
def q_lightOf (a : Ab) (x : Int32) : Except Nat (Int32 × Ab) := if isn x (nR a) = true then (if de a (tN x) = 0 then .error 2 else .ok (nI (ca a (tN x)), a)) else .error 1
def q_state (a : Ab) (x : Int32) : Except Nat (Int32 × Ab) := if isn x (nL a) = true then .ok (if wy a (tN x) = [] then 2 else if lup a (tN x) = true then 0 else 1, a) else .error 1
def q_units (a : Ab) (x : Int32) : Except Nat (Int32 × Ab) := if isn x (nL a) = true then .ok (nI (units a (tN x)), a) else .error 1
def wya (a : Ab) (x y : Int32) : Option Wy := if isn x (nL a) = true then (if isn y (wy a (tN x)).length = true then (wy a (tN x))[tN y]? else none) else none
def q_channels (a : Ab) (x y : Int32) : Except Nat (Int32 × Ab) := match wya a x y with
  | none => .error 1
  | some w => .ok (nI w.1.length, a)
def q_channel (a : Ab) (x y z : Int32) : Except Nat (Int32 × Ab) := match wya a x y with
  | none => .error 1
  | some w => if isn z w.1.length = true then .ok (nI (w.1.getD (tN z) 0), a) else .error 1
def rrt (a : Ab) (l : Nat) : Option Wy := match wy a l with
  | [_] => fnd0 a l (sn a l) (en a l)
  | _ => none
def q_reroute (a : Ab) (x : Int32) : Except Nat (Int32 × Ab) := if isn x (nL a) = true then (match rrt a (tN x) with
  | none => .error 2
  | some w => .ok (nI w.2.1, xW a (tN x) [w])) else .error 1
def mga (a : Ab) (l h : Nat) : Bool := lup a l && (lup a h && ((wy a l).length == 1 && ((wy a h).length == 1 && (jns a l (sn a h) (en a h) && decide (units a l + units a h ≤ 10)))))
/-- the first light behind one with which it can be merged -/
def m1 (a : Ab) (l : Nat) : Nat := low (nL a) (fun h => decide (l < h) && mga a l h)
def m0 (a : Ab) : Nat := low (nL a) (fun l => decide (m1 a l < nL a))
def q_merge (a : Ab) : Except Nat (Int32 × Ab) := if m0 a < nL a then .ok (nI (m1 a (m0 a)), xM a (m0 a) (m1 a (m0 a))) else .error 1
/-- the lowest wavelength that is free on all fibres of a way -/
def lwf (a : Ab) (w : Wy) : Nat := low 8 (fun x => w.1.all (fun c => (usr a (c / 10) x).isNone))
def mvb (a : Ab) (w : Wy) : Bool := w.2.2 == 0 && decide (lwf a w < w.1.headD 0 % 10)
def mv1 (a : Ab) (l : Nat) : Nat := low (wy a l).length (fun i => match (wy a l)[i]? with
  | none => false
  | some w => mvb a w)
def mv0 (a : Ab) : Nat := low (nL a) (fun l => decide (mv1 a l < (wy a l).length))
def mvw (a : Ab) (l i : Nat) : Ab := match (wy a l)[i]? with
  | none => a
  | some w => xW a l ((wy a l).set i (mvd (lwf a w) w))
def q_move (a : Ab) : Except Nat (Int32 × Ab) := if mv0 a < nL a then .ok (nI (mv0 a), mvw a (mv0 a) (mv1 a (mv0 a))) else .error 1
/-! what a call of the class keeps -/
def Tk (S : St) : Prop := ∀ c, c < 12 → gI S 183 c = 0
def KC (S S' : St) (a : Ab) : Prop := agr (fun k => 367 ≤ k) S S' ∧ InvC S' a ∧ Tk S'
def OutC {V : Type} (S : St) (a : Ab) (s t : String) (r : Except Nat (V × Ab)) (P : V → St → Prop) (E : String → St → Prop) : Prop :=
  (∀ v a' S', r = .ok (v, a') → KC S S' a' → P v S') ∧ (∀ c S', r = .error c → KC S S' a → E (if c = 1 then s else t) S')
def sIA : String := "java/lang/IllegalArgumentException"
def sIS : String := "java/lang/IllegalStateException"
def sIB : String := "java/lang/IndexOutOfBoundsException"
