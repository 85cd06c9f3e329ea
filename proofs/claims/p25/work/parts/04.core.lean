/-! THE STATE: what each cell of the system and of the reference holds, by the cell's place behind b0 and the slot's place in the cell: ints (booleans too), longs, references (by place; none: null), doubles -/
abbrev St : Type := (Nat → Nat → Int32) × (Nat → Nat → Int64) × (Nat → Nat → Option Nat) × (Nat → Nat → UInt64)
def gI (S : St) (k j : Nat) : Int32 := S.1 k j
def gJ (S : St) (k j : Nat) : Int64 := S.2.1 k j
def gR (S : St) (k j : Nat) : Option Nat := S.2.2.1 k j
def gD (S : St) (k j : Nat) : UInt64 := S.2.2.2 k j
def sI (S : St) (k j : Nat) (v : Int32) : St := (fun a b => if a = k ∧ b = j then v else S.1 a b, S.2)
def sJ (S : St) (k j : Nat) (v : Int64) : St := (S.1, fun a b => if a = k ∧ b = j then v else S.2.1 a b, S.2.2)
def sR (S : St) (k j : Nat) (v : Option Nat) : St := (S.1, S.2.1, fun a b => if a = k ∧ b = j then v else S.2.2.1 a b, S.2.2.2)
def sD (S : St) (k j : Nat) (v : UInt64) : St := (S.1, S.2.1, S.2.2.1, fun a b => if a = k ∧ b = j then v else S.2.2.2 a b)
theorem gI_sI (S : St) (k j : Nat) (v : Int32) (a b : Nat) : gI (sI S k j v) a b = if a = k ∧ b = j then v else gI S a b := rfl
theorem gJ_sI (S : St) (k j : Nat) (v : Int32) (a b : Nat) : gJ (sI S k j v) a b = gJ S a b := rfl
theorem gR_sI (S : St) (k j : Nat) (v : Int32) (a b : Nat) : gR (sI S k j v) a b = gR S a b := rfl
theorem gD_sI (S : St) (k j : Nat) (v : Int32) (a b : Nat) : gD (sI S k j v) a b = gD S a b := rfl
theorem gI_sJ (S : St) (k j : Nat) (v : Int64) (a b : Nat) : gI (sJ S k j v) a b = gI S a b := rfl
theorem gJ_sJ (S : St) (k j : Nat) (v : Int64) (a b : Nat) : gJ (sJ S k j v) a b = if a = k ∧ b = j then v else gJ S a b := rfl
theorem gR_sJ (S : St) (k j : Nat) (v : Int64) (a b : Nat) : gR (sJ S k j v) a b = gR S a b := rfl
theorem gD_sJ (S : St) (k j : Nat) (v : Int64) (a b : Nat) : gD (sJ S k j v) a b = gD S a b := rfl
theorem gI_sR (S : St) (k j : Nat) (v : Option Nat) (a b : Nat) : gI (sR S k j v) a b = gI S a b := rfl
theorem gJ_sR (S : St) (k j : Nat) (v : Option Nat) (a b : Nat) : gJ (sR S k j v) a b = gJ S a b := rfl
theorem gR_sR (S : St) (k j : Nat) (v : Option Nat) (a b : Nat) : gR (sR S k j v) a b = if a = k ∧ b = j then v else gR S a b := rfl
theorem gD_sR (S : St) (k j : Nat) (v : Option Nat) (a b : Nat) : gD (sR S k j v) a b = gD S a b := rfl
theorem gI_sD (S : St) (k j : Nat) (v : UInt64) (a b : Nat) : gI (sD S k j v) a b = gI S a b := rfl
theorem gJ_sD (S : St) (k j : Nat) (v : UInt64) (a b : Nat) : gJ (sD S k j v) a b = gJ S a b := rfl
theorem gR_sD (S : St) (k j : Nat) (v : UInt64) (a b : Nat) : gR (sD S k j v) a b = gR S a b := rfl
theorem gD_sD (S : St) (k j : Nat) (v : UInt64) (a b : Nat) : gD (sD S k j v) a b = if a = k ∧ b = j then v else gD S a b := rfl
/-- a truth value as the machine holds it -/
def b2i (b : Bool) : Int32 := if b = true then 1 else 0
theorem b2i_t : b2i true = 1 := rfl
theorem b2i_f : b2i false = 0 := rfl
theorem b2i_z {b : Bool} (h : b2i b = 0) : ¬ b = true := by cases b <;> simp_all [b2i]
theorem b2i_n {b : Bool} (h : ¬ b2i b = 0) : b = true := by cases b <;> simp_all [b2i]
theorem b2i_nar (b : Bool) : narrow .boolean (.int (b2i b)) = .int (b2i b) := by cases b <;> rfl
theorem b2i_vnar (b : Bool) : vp_nar .boolean (b2i b) = b2i b := by cases b <;> rfl
/-- the number of an object's cells -/
abbrev NALL : Nat := 367
/-- a cell's kind by its place: 0 to 5 an object of that class (places in vwCl), 7 int[], 8 boolean[], 9 Light[], 10 Way[], 11 int[][] -/
def kd (k : Nat) : Nat :=
  if k = 0 then 5 else if k = 1 then 2 else if k = 5 then 4 else if k = 9 then 8 else if k = 10 then 11 else if k = 18 then 10
  else if k < 18 then 7 else if k < 181 then 3 else if k = 181 then 0 else if k < 184 then 7 else if k = 184 then 9
  else if k < 365 then (if (k - 185) % 3 = 0 then 1 else 3) else if k = 365 then 9 else if k = 366 then 7
  else 99
/-- an array's length by its place -/
def ln (k : Nat) : Nat :=
  if k < 7 then 14 else if k < 18 then 7 else if k = 18 then 162 else if k < 184 then 12 else 60
/-- the references that never change behind the constructors -/
def fx (k j : Nat) : Option Nat :=
  if k = 0 then (if j = 0 then some 1 else if j = 1 then some 5 else if j = 2 then some 181 else if j = 3 then some 184 else if j = 5 then some 365 else if j = 6 then some 366 else none)
  else if k = 1 then (if j = 5 then some 2 else if j = 6 then some 3 else if j = 7 then some 4 else none)
  else if k = 5 then (if j = 2 then some 6 else if j = 3 then some 1 else if j = 7 then some 7 else if j = 8 then some 8 else if j = 9 then some 9 else if j = 10 then some 10 else if j = 11 then some 18 else none)
  else if k = 10 then (if j < 7 then some (11 + j) else none)
  else if k = 18 then (if j < 162 then some (19 + j) else none)
  else if k = 181 then (if j = 0 then some 182 else if j = 1 then some 183 else none)
  else if k = 184 then (if j < 60 then some (185 + 3 * j) else none)
  else if kd k = 1 then (if j = 1 then some (k + 1) else if j = 2 then some (k + 2) else none)
  else none
theorem kd_N {k n : Nat} (h : kd k = n) (hn : n < 50) : k < NALL := by
  rcases Nat.lt_or_ge k 367 with q | q
  · exact q
  · exfalso
    subst h
    unfold kd at hn
    repeat rw [if_neg (by omega)] at hn
    omega
theorem kd_La : ∀ k, k < 367 → kd k = 1 → 185 ≤ k ∧ k < 365 ∧ (k - 185) % 3 = 0 := by decide +kernel
theorem kd_L {k : Nat} (h : kd k = 1) : ∃ i, i < 60 ∧ k = 185 + 3 * i := by
  obtain ⟨h1, h2, h3⟩ := kd_La k (kd_N h (by omega)) h
  exact ⟨(k - 185) / 3, by omega, by omega⟩
theorem kd_Li' : ∀ i, i < 60 → kd (185 + 3 * i) = 1 := by decide +kernel
theorem kd_Li {i : Nat} (h : i < 60) : kd (185 + 3 * i) = 1 := kd_Li' i h
theorem kd_L1' : ∀ i, i < 60 → kd (185 + 3 * i + 1) = 3 := by decide +kernel
theorem kd_L2' : ∀ i, i < 60 → kd (185 + 3 * i + 2) = 3 := by decide +kernel
theorem kd_L1 {k : Nat} (h : kd k = 1) : kd (k + 1) = 3 := by
  obtain ⟨i, hi, rfl⟩ := kd_L h
  exact kd_L1' i hi
theorem kd_L2 {k : Nat} (h : kd k = 1) : kd (k + 2) = 3 := by
  obtain ⟨i, hi, rfl⟩ := kd_L h
  exact kd_L2' i hi
theorem kd_W' : ∀ j, j < 162 → kd (19 + j) = 3 := by decide +kernel
theorem kd_W {j : Nat} (h : j < 162) : kd (19 + j) = 3 := kd_W' j h
theorem kd_R' : ∀ j, j < 7 → kd (11 + j) = 7 := by decide +kernel
theorem kd_R {j : Nat} (h : j < 7) : kd (11 + j) = 7 := kd_R' j h
theorem ln_R' : ∀ j, j < 7 → ln (11 + j) = 7 := by decide +kernel
theorem ln_R {j : Nat} (h : j < 7) : ln (11 + j) = 7 := ln_R' j h
theorem fx_L1 {k : Nat} (h : kd k = 1) : fx k 1 = some (k + 1) := by
  obtain ⟨i, hi, rfl⟩ := kd_L h
  unfold fx
  repeat rw [if_neg (by omega)]
  rw [if_pos h, if_pos rfl]
theorem fx_L2 {k : Nat} (h : kd k = 1) : fx k 2 = some (k + 2) := by
  obtain ⟨i, hi, rfl⟩ := kd_L h
  unfold fx
  repeat rw [if_neg (by omega)]
  rw [if_pos h, if_neg (by omega), if_pos rfl]
theorem fx_184 {j : Nat} (h : j < 60) : fx 184 j = some (185 + 3 * j) := by
  unfold fx
  simp [h]
theorem fx_18 {j : Nat} (h : j < 162) : fx 18 j = some (19 + j) := by
  unfold fx
  simp [h]
theorem fx_10 {j : Nat} (h : j < 7) : fx 10 j = some (11 + j) := by
  unfold fx
  simp [h]
/-- what holds of the references at all times behind the constructors: the fixed ones are as fx has them, the others lead to cells of their kinds -/
def Fx (S : St) : Prop := (∀ k j q, fx k j = some q → gR S k j = some q) ∧ (∀ q, gR S 5 0 = some q → kd q = 3) ∧ (∀ q, gR S 5 1 = some q → kd q = 3) ∧ (∀ j q, gR S 365 j = some q → kd q = 1)
theorem Fx.sI {S : St} (h : Fx S) (k j : Nat) (v : Int32) : Fx (sI S k j v) := h
theorem Fx.sJ {S : St} (h : Fx S) (k j : Nat) (v : Int64) : Fx (sJ S k j v) := h
theorem Fx.sD {S : St} (h : Fx S) (k j : Nat) (v : UInt64) : Fx (sD S k j v) := h
theorem Fx.f0 {S : St} (h : Fx S) {v : Option Nat} (hv : ∀ q, v = some q → kd q = 3) : Fx (sR S 5 0 v) := by
  refine ⟨fun k j q hq => ?_, fun q hq => ?_, fun q hq => ?_, fun j q hq => ?_⟩
  · rw [gR_sR]
    by_cases e : k = 5 ∧ j = 0
    · rw [e.1, e.2] at hq; cases hq
    · rw [if_neg e]; exact h.1 k j q hq
  · rw [gR_sR, if_pos ⟨rfl, rfl⟩] at hq; exact hv q hq
  · rw [gR_sR, if_neg (by omega)] at hq; exact h.2.2.1 q hq
  · rw [gR_sR, if_neg (by omega)] at hq; exact h.2.2.2 j q hq
theorem Fx.f1 {S : St} (h : Fx S) {v : Option Nat} (hv : ∀ q, v = some q → kd q = 3) : Fx (sR S 5 1 v) := by
  refine ⟨fun k j q hq => ?_, fun q hq => ?_, fun q hq => ?_, fun j q hq => ?_⟩
  · rw [gR_sR]
    by_cases e : k = 5 ∧ j = 1
    · rw [e.1, e.2] at hq; cases hq
    · rw [if_neg e]; exact h.1 k j q hq
  · rw [gR_sR, if_neg (by omega)] at hq; exact h.2.1 q hq
  · rw [gR_sR, if_pos ⟨rfl, rfl⟩] at hq; exact hv q hq
  · rw [gR_sR, if_neg (by omega)] at hq; exact h.2.2.2 j q hq
theorem Fx.f365 {S : St} (h : Fx S) (i : Nat) {v : Option Nat} (hv : ∀ q, v = some q → kd q = 1) : Fx (sR S 365 i v) := by
  refine ⟨fun k j q hq => ?_, fun q hq => ?_, fun q hq => ?_, fun j q hq => ?_⟩
  · rw [gR_sR]
    by_cases e : k = 365 ∧ j = i
    · rw [e.1] at hq; cases hq
    · rw [if_neg e]; exact h.1 k j q hq
  · rw [gR_sR, if_neg (by omega)] at hq; exact h.2.1 q hq
  · rw [gR_sR, if_neg (by omega)] at hq; exact h.2.2.1 q hq
  · rw [gR_sR] at hq
    by_cases e : j = i
    · rw [if_pos ⟨rfl, e⟩] at hq; exact hv q hq
    · rw [if_neg (by omega)] at hq; exact h.2.2.2 j q hq
def rf (b0 : Nat) (r : Option Nat) : Value := va_rf (r.map (fun k => b0 + k))
theorem rf_some {b0 : Nat} {r : Option Nat} {q : Nat} (h : r = some q) : rf b0 r = .ref (b0 + q) := by rw [h]; rfl
theorem rf_none {b0 : Nat} {r : Option Nat} (h : r = none) : rf b0 r = .null := by rw [h]; rfl
theorem rf_or (b0 : Nat) (r : Option Nat) : rf b0 r = .null ∨ ∃ a, rf b0 r = .ref a := va_rf_or _

/-- a cell by its kind -/
def cellF (cy : Nat → ClassId) (b0 k : Nat) (fI : Nat → Int32) (fJ : Nat → Int64) (fR : Nat → Option Nat) (fD : Nat → UInt64) : va_E :=
  if kd k = 0 then .inr (0, [rf b0 (fR 0), rf b0 (fR 1), .int (fI 2)])
  else if kd k = 1 then .inr (1, [.int (fI 0), rf b0 (fR 1), rf b0 (fR 2), .int (fI 3), .int (fI 4), .int (fI 5), .int (fI 6)])
  else if kd k = 2 then .inr (2, [.int (fI 0), .int (fI 1), .int (fI 2), .int (fI 3), .int (fI 4), rf b0 (fR 5), rf b0 (fR 6), rf b0 (fR 7)])
  else if kd k = 3 then .inr (3, [.int (fI 0), .int (fI 1), .int (fI 2), .int (fI 3), .long (fJ 4)])
  else if kd k = 4 then .inr (4, [rf b0 (fR 0), rf b0 (fR 1), rf b0 (fR 2), rf b0 (fR 3), .int (fI 4), .int (fI 5), .int (fI 6), rf b0 (fR 7), rf b0 (fR 8), rf b0 (fR 9), rf b0 (fR 10), rf b0 (fR 11), .int (fI 12)])
  else if kd k = 5 then .inr (5, [rf b0 (fR 0), rf b0 (fR 1), rf b0 (fR 2), rf b0 (fR 3), .int (fI 4), rf b0 (fR 5), rf b0 (fR 6), .int (fI 7)])
  else if kd k = 7 then .inl (cy 0, ln k, .inl fI)
  else if kd k = 8 then .inl (cy 1, ln k, .inl fI)
  else if kd k = 9 then .inl (cy 2, ln k, .inr (.inr (.inr (.inr (fun j => (fR j).map (fun q => b0 + q))))))
  else if kd k = 10 then .inl (cy 3, ln k, .inr (.inr (.inr (.inr (fun j => (fR j).map (fun q => b0 + q))))))
  else .inl (cy 4, ln k, .inr (.inr (.inr (.inr (fun j => (fR j).map (fun q => b0 + q))))))
def cellC (cy : Nat → ClassId) (b0 : Nat) (S : St) (k : Nat) : va_E := cellF cy b0 k (gI S k) (gJ S k) (gR S k) (gD S k)
abbrev tysC (cy : Nat → ClassId) : List (ClassId × FieldType) := [(cy 0, .int), (cy 1, .boolean), (cy 2, .object RX1), (cy 3, .object RX3), (cy 4, .array .int)]
def HP (D : va_G) (cy : Nat → ClassId) (b0 N : Nat) (S : St) (H : Heap) : Prop := ∀ k, k < N → va_at D vwCl (b0 + k, cellC cy b0 S k) H
/-- the cells of the object at b0 -/
abbrev AA (b0 : Nat) : Nat → Prop := fun q => b0 ≤ q ∧ q < b0 + 367
theorem cell_cong {cy : Nat → ClassId} {b0 : Nat} {S S' : St} {k : Nat} (h1 : ∀ j, gI S' k j = gI S k j) (h2 : ∀ j, gJ S' k j = gJ S k j) (h3 : ∀ j, gR S' k j = gR S k j) (h4 : ∀ j, gD S' k j = gD S k j) : cellC cy b0 S' k = cellC cy b0 S k := by
  show cellF cy b0 k _ _ _ _ = cellF cy b0 k _ _ _ _
  rw [funext h1, funext h2, funext h3, funext h4]
theorem cell_sI {cy : Nat → ClassId} {b0 : Nat} {S : St} {k j : Nat} {v : Int32} : ∀ k', k' ≠ k → cellC cy b0 (sI S k j v) k' = cellC cy b0 S k' := fun k' h => cell_cong (fun i => by rw [gI_sI, if_neg (fun q => h q.1)]) (fun _ => rfl) (fun _ => rfl) (fun _ => rfl)
theorem cell_sJ {cy : Nat → ClassId} {b0 : Nat} {S : St} {k j : Nat} {v : Int64} : ∀ k', k' ≠ k → cellC cy b0 (sJ S k j v) k' = cellC cy b0 S k' := fun k' h => cell_cong (fun _ => rfl) (fun i => by rw [gJ_sJ, if_neg (fun q => h q.1)]) (fun _ => rfl) (fun _ => rfl)
theorem cell_sR {cy : Nat → ClassId} {b0 : Nat} {S : St} {k j : Nat} {v : Option Nat} : ∀ k', k' ≠ k → cellC cy b0 (sR S k j v) k' = cellC cy b0 S k' := fun k' h => cell_cong (fun _ => rfl) (fun _ => rfl) (fun i => by rw [gR_sR, if_neg (fun q => h q.1)]) (fun _ => rfl)
theorem cell_sD {cy : Nat → ClassId} {b0 : Nat} {S : St} {k j : Nat} {v : UInt64} : ∀ k', k' ≠ k → cellC cy b0 (sD S k j v) k' = cellC cy b0 S k' := fun k' h => cell_cong (fun _ => rfl) (fun _ => rfl) (fun _ => rfl) (fun i => by rw [gD_sD, if_neg (fun q => h q.1)])
theorem cell_0 {cy : Nat → ClassId} {b0 : Nat} {S : St} {k : Nat} (h : kd k = 0) : cellC cy b0 S k = .inr (0, [rf b0 (gR S k 0), rf b0 (gR S k 1), .int (gI S k 2)]) := by
  unfold cellC cellF
  rw [if_pos h]
theorem cell_1 {cy : Nat → ClassId} {b0 : Nat} {S : St} {k : Nat} (h : kd k = 1) : cellC cy b0 S k = .inr (1, [.int (gI S k 0), rf b0 (gR S k 1), rf b0 (gR S k 2), .int (gI S k 3), .int (gI S k 4), .int (gI S k 5), .int (gI S k 6)]) := by
  unfold cellC cellF
  rw [if_neg (by rw [h]; omega)]
  rw [if_pos h]
theorem cell_2 {cy : Nat → ClassId} {b0 : Nat} {S : St} {k : Nat} (h : kd k = 2) : cellC cy b0 S k = .inr (2, [.int (gI S k 0), .int (gI S k 1), .int (gI S k 2), .int (gI S k 3), .int (gI S k 4), rf b0 (gR S k 5), rf b0 (gR S k 6), rf b0 (gR S k 7)]) := by
  unfold cellC cellF
  rw [if_neg (by rw [h]; omega)]
  rw [if_neg (by rw [h]; omega)]
  rw [if_pos h]
theorem cell_3 {cy : Nat → ClassId} {b0 : Nat} {S : St} {k : Nat} (h : kd k = 3) : cellC cy b0 S k = .inr (3, [.int (gI S k 0), .int (gI S k 1), .int (gI S k 2), .int (gI S k 3), .long (gJ S k 4)]) := by
  unfold cellC cellF
  rw [if_neg (by rw [h]; omega)]
  rw [if_neg (by rw [h]; omega)]
  rw [if_neg (by rw [h]; omega)]
  rw [if_pos h]
theorem cell_4 {cy : Nat → ClassId} {b0 : Nat} {S : St} {k : Nat} (h : kd k = 4) : cellC cy b0 S k = .inr (4, [rf b0 (gR S k 0), rf b0 (gR S k 1), rf b0 (gR S k 2), rf b0 (gR S k 3), .int (gI S k 4), .int (gI S k 5), .int (gI S k 6), rf b0 (gR S k 7), rf b0 (gR S k 8), rf b0 (gR S k 9), rf b0 (gR S k 10), rf b0 (gR S k 11), .int (gI S k 12)]) := by
  unfold cellC cellF
  rw [if_neg (by rw [h]; omega)]
  rw [if_neg (by rw [h]; omega)]
  rw [if_neg (by rw [h]; omega)]
  rw [if_neg (by rw [h]; omega)]
  rw [if_pos h]
theorem cell_5 {cy : Nat → ClassId} {b0 : Nat} {S : St} {k : Nat} (h : kd k = 5) : cellC cy b0 S k = .inr (5, [rf b0 (gR S k 0), rf b0 (gR S k 1), rf b0 (gR S k 2), rf b0 (gR S k 3), .int (gI S k 4), rf b0 (gR S k 5), rf b0 (gR S k 6), .int (gI S k 7)]) := by
  unfold cellC cellF
  rw [if_neg (by rw [h]; omega)]
  rw [if_neg (by rw [h]; omega)]
  rw [if_neg (by rw [h]; omega)]
  rw [if_neg (by rw [h]; omega)]
  rw [if_neg (by rw [h]; omega)]
  rw [if_pos h]
theorem cell_7 {cy : Nat → ClassId} {b0 : Nat} {S : St} {k : Nat} (h : kd k = 7) : cellC cy b0 S k = .inl (cy 0, ln k, .inl (gI S k)) := by
  unfold cellC cellF
  rw [if_neg (by rw [h]; omega)]
  rw [if_neg (by rw [h]; omega)]
  rw [if_neg (by rw [h]; omega)]
  rw [if_neg (by rw [h]; omega)]
  rw [if_neg (by rw [h]; omega)]
  rw [if_neg (by rw [h]; omega)]
  rw [if_pos h]
theorem cell_8 {cy : Nat → ClassId} {b0 : Nat} {S : St} {k : Nat} (h : kd k = 8) : cellC cy b0 S k = .inl (cy 1, ln k, .inl (gI S k)) := by
  unfold cellC cellF
  rw [if_neg (by rw [h]; omega)]
  rw [if_neg (by rw [h]; omega)]
  rw [if_neg (by rw [h]; omega)]
  rw [if_neg (by rw [h]; omega)]
  rw [if_neg (by rw [h]; omega)]
  rw [if_neg (by rw [h]; omega)]
  rw [if_neg (by rw [h]; omega)]
  rw [if_pos h]
theorem cell_9 {cy : Nat → ClassId} {b0 : Nat} {S : St} {k : Nat} (h : kd k = 9) : cellC cy b0 S k = .inl (cy 2, ln k, .inr (.inr (.inr (.inr (fun j => (gR S k j).map (fun q => b0 + q)))))) := by
  unfold cellC cellF
  rw [if_neg (by rw [h]; omega)]
  rw [if_neg (by rw [h]; omega)]
  rw [if_neg (by rw [h]; omega)]
  rw [if_neg (by rw [h]; omega)]
  rw [if_neg (by rw [h]; omega)]
  rw [if_neg (by rw [h]; omega)]
  rw [if_neg (by rw [h]; omega)]
  rw [if_neg (by rw [h]; omega)]
  rw [if_pos h]
theorem cell_10 {cy : Nat → ClassId} {b0 : Nat} {S : St} {k : Nat} (h : kd k = 10) : cellC cy b0 S k = .inl (cy 3, ln k, .inr (.inr (.inr (.inr (fun j => (gR S k j).map (fun q => b0 + q)))))) := by
  unfold cellC cellF
  rw [if_neg (by rw [h]; omega)]
  rw [if_neg (by rw [h]; omega)]
  rw [if_neg (by rw [h]; omega)]
  rw [if_neg (by rw [h]; omega)]
  rw [if_neg (by rw [h]; omega)]
  rw [if_neg (by rw [h]; omega)]
  rw [if_neg (by rw [h]; omega)]
  rw [if_neg (by rw [h]; omega)]
  rw [if_neg (by rw [h]; omega)]
  rw [if_pos h]
theorem cell_11 {cy : Nat → ClassId} {b0 : Nat} {S : St} {k : Nat} (h : kd k = 11) : cellC cy b0 S k = .inl (cy 4, ln k, .inr (.inr (.inr (.inr (fun j => (gR S k j).map (fun q => b0 + q)))))) := by
  unfold cellC cellF
  rw [if_neg (by rw [h]; omega)]
  rw [if_neg (by rw [h]; omega)]
  rw [if_neg (by rw [h]; omega)]
  rw [if_neg (by rw [h]; omega)]
  rw [if_neg (by rw [h]; omega)]
  rw [if_neg (by rw [h]; omega)]
  rw [if_neg (by rw [h]; omega)]
  rw [if_neg (by rw [h]; omega)]
  rw [if_neg (by rw [h]; omega)]
  rw [if_neg (by rw [h]; omega)]
theorem HP.one {D : va_G} {cy : Nat → ClassId} {b0 N : Nat} {S : St} {H : Heap} (hP : HP D cy b0 N S H) {k : Nat} (hk : k < N) {e : va_E} (he : cellC cy b0 S k = e) : va_P D vwCl [(b0 + k, e)] H := by
  intro i q hi
  have h1 := hP k hk
  rw [he] at h1
  match i, hi with
  | 0, hi => cases hi; exact h1
  | i + 1, hi => simp at hi
theorem HP.upd {D : va_G} {cy : Nat → ClassId} {b0 N : Nat} {S S' : St} {H H1 : Heap} {k : Nat} (hP : HP D cy b0 N S H) (he : va_at D vwCl (b0 + k, cellC cy b0 S' k) H1) (ho : ∀ q, q ≠ b0 + k → H1[q]? = H[q]?) (hc : ∀ k', k' ≠ k → cellC cy b0 S' k' = cellC cy b0 S k') : HP D cy b0 N S' H1 := by
  intro k' hk'
  by_cases h : k' = k
  · rw [h]; exact he
  · rw [hc k' h]
    exact (hP k' hk').kept (ho _ (by show b0 + k' ≠ b0 + k; omega))
theorem HP.kept {D : va_G} {cy : Nat → ClassId} {b0 N : Nat} {S : St} {H H1 : Heap} (hP : HP D cy b0 N S H) (ho : ∀ q : Nat, q < H.size → H1[q]? = H[q]?) : HP D cy b0 N S H1 := fun k hk => (hP k hk).kept (ho _ (hP k hk).lt)
theorem HP.less {D : va_G} {cy : Nat → ClassId} {b0 N N' : Nat} {S : St} {H : Heap} (hP : HP D cy b0 N S H) (h : N' ≤ N) : HP D cy b0 N' S H := fun k hk => hP k (Nat.lt_of_lt_of_le hk h)
section QR
variable {p : Program} {l : Launch} {e : Env} {R : Room} {s : State} {m : MethodId} {args : Array Value} {below : List Frame} {meth : Method} {c : Code} {H : Heap} {locs : List Loc} {cells slots : Nat} {Q : State → Prop}
variable {cc : ByteArray} {pc : Nat} {ls : Array Slot} {rest : List Value} {D : va_G} {cy : Nat → ClassId} {b0 N : Nat} {S : St} {A : Nat → Prop} {H0 : Heap}
theorem q_get (hexec : p.tables.exec = Jvm.exec) (hb : c.code = cc) {own : String} {r : vw_C} {ci index : Nat} {Ts : List Cond} (hts : ∀ w ∈ Ts, w.before args s = true) (hin : ∀ w ∈ u_ws r.1 r.2.1 r.2.2, w ∈ Ts) (hown : s.vm.findClass own = some m.cls) (hK : va_K D vwCl (tysC cy) s) (hP : HP D cy b0 N S H) {k : Nat} (hkN : k < N) {fs : List Value} (he : cellC cy b0 S k = .inr (ci, fs)) (hc : vwCl[ci]? = some r) (j : Nat) (hj : j < r.2.2) (hlink : (Cond.fieldLink own index (r.2.1 j).1 (r.2.1 j).2.1 (r.2.1 j).2.2.1).before args s = true) {v : Value} (hv : fs[j]? = some v) (hdg : decode cc pc = .ok (.getfield index, 3))
    (kk : W p l e R s m args below meth c H locs cells slots Q (F0 m (pc + 3) ls (v :: rest))) : W p l e R s m args below meth c H locs cells slots Q (F0 m pc ls (.ref (b0 + k) :: rest)) :=
  va_get (C := r.1) (T := r.2.1) (N := r.2.2) hexec hb hts hin hown hK (hP.one hkN he) 0 rfl hc j hj hlink (fun _ h9 => h9) hv hdg kk
theorem q_put (hexec : p.tables.exec = Jvm.exec) (hb : c.code = cc) {own : String} {C : String} {T : u_T} {NF ci index : Nat} {Ts : List Cond} (hts : ∀ w ∈ Ts, w.before args s = true) (hin : ∀ w ∈ u_ws C T NF, w ∈ Ts) (ty0 : Nat → FieldType) (hty : ∀ k, k < NF → parseFieldDescriptor (T k).2.2.1 = some (ty0 k)) (hnm : ∀ a, a < NF → ∀ b, b < NF → a ≠ b → (T a).2.1 ≠ (T b).2.1) (hown : s.vm.findClass own = some m.cls) (hK : va_K D vwCl (tysC cy) s) (hP : HP D cy b0 N S H) (hS0 : va_S (AA b0) H0 H locs) {k : Nat} (hkN : k < N) {fs : List Value} (he : cellC cy b0 S k = .inr (ci, fs)) (hc : vwCl[ci]? = some (C, T, NF)) (j : Nat) (hj : j < NF) (hlink : (Cond.fieldLink own index (T j).1 (T j).2.1 (T j).2.2.1).before args s = true) (hfin : (T j).2.2.2 = false) {ty : FieldType} {v : Value} (hd : parseFieldDescriptor (T j).2.2.1 = some ty) (hn : narrow ty v = v) (hfit : fits ty v = true) (hl : j < fs.length) (hk9 : k < 367) (S' : St) (he' : cellC cy b0 S' k = .inr (ci, fs.set j v)) (ho : ∀ k', k' ≠ k → cellC cy b0 S' k' = cellC cy b0 S k')
    (hdg : decode cc pc = .ok (.putfield index, 3)) (kk : ∀ (H1 : Heap) (locs1 : List Loc), H1.size = H.size → HP D cy b0 N S' H1 → va_S (AA b0) H0 H1 locs1 → W p l e R s m args below meth c H1 locs1 cells slots Q (F0 m (pc + 3) ls rest)) : W p l e R s m args below meth c H locs cells slots Q (F0 m pc ls (v :: .ref (b0 + k) :: rest)) := by
  have hap := va_apart (own := own) hts hin ty0 hty hnm hK hc
  have hat := hP k hkN
  rw [he] at hat
  obtain ⟨r, h1, cell, q1, q2, q3, q4⟩ := hat
  have hr : r = (C, T, NF) := Option.some.inj (h1.symm.trans hc)
  subst hr
  obtain ⟨hS, hfc, kC, hkC, hkind⟩ := hK.1 ci _ hc
  obtain ⟨cf, kf, fi, f, hi, hsl⟩ := hS j hj
  have hlay := hts _ (hin _ (u_in_lay hj))
  unfold u_lay at hlay
  rw [if_neg (by rw [hfin]; decide)] at hlay
  have hst := (u_facts hfc hkC (u_lays hts hin hj) hi).1
  have h6 := u_store hfc hkC hkind hlay hi hd hn hfit
  refine W.putK hexec hb (f := f) ⟨hown, hlink, ⟨_, _, _, hi⟩, hst⟩ (by rw [q2]; exact h6) q1 q3 (by rw [hsl]; exact k2_hasslot (q4 j hj)) rfl rfl hdg fun H' e1 e2 e3 => ?_
  rw [hsl] at e1 ⊢
  exact kk H' _ e2 (hP.upd (by rw [he']; exact ⟨_, hc, t_OB.to (V := updV (vp_V fs) j v) ⟨_, e1, q2, q3, t_set q4 hap hj v⟩ (fun i _ => vp_updV_set hl v i)⟩) e3 ho) (hS0.put e2 e3 ⟨Nat.le_add_right _ _, Nat.add_lt_add_left hk9 _⟩)
theorem q_putF (hexec : p.tables.exec = Jvm.exec) (hb : c.code = cc) {own : String} {C : String} {T : u_T} {NF ci index : Nat} {Ts : List Cond} (hts : ∀ w ∈ Ts, w.before args s = true) (hin : ∀ w ∈ u_ws C T NF, w ∈ Ts) (ty0 : Nat → FieldType) (hty : ∀ k, k < NF → parseFieldDescriptor (T k).2.2.1 = some (ty0 k)) (hnm : ∀ a, a < NF → ∀ b, b < NF → a ≠ b → (T a).2.1 ≠ (T b).2.1) (hown : s.vm.findClass own = some m.cls) (hK : va_K D vwCl (tysC cy) s) (hP : HP D cy b0 N S H) (hS0 : va_S (AA b0) H0 H locs) {k : Nat} (hkN : k < N) {fs : List Value} (he : cellC cy b0 S k = .inr (ci, fs)) (hc : vwCl[ci]? = some (C, T, NF)) (j : Nat) (hj : j < NF) (hlink : (Cond.fieldLink own index (T j).1 (T j).2.1 (T j).2.2.1).before args s = true) (hfin : (T j).2.2.2 = true) (hin2 : meth.name = "<init>") (hdecl : (T j).1 = own) {ty : FieldType} {v : Value} (hd : parseFieldDescriptor (T j).2.2.1 = some ty) (hn : narrow ty v = v) (hfit : fits ty v = true) (hl : j < fs.length) (hk9 : k < 367) (S' : St) (he' : cellC cy b0 S' k = .inr (ci, fs.set j v)) (ho : ∀ k', k' ≠ k → cellC cy b0 S' k' = cellC cy b0 S k')
    (hdg : decode cc pc = .ok (.putfield index, 3)) (kk : ∀ (H1 : Heap) (locs1 : List Loc), H1.size = H.size → HP D cy b0 N S' H1 → va_S (AA b0) H0 H1 locs1 → W p l e R s m args below meth c H1 locs1 cells slots Q (F0 m (pc + 3) ls rest)) : W p l e R s m args below meth c H locs cells slots Q (F0 m pc ls (v :: .ref (b0 + k) :: rest)) := by
  have hap := va_apart (own := own) hts hin ty0 hty hnm hK hc
  have hat := hP k hkN
  rw [he] at hat
  obtain ⟨r, h1, cell, q1, q2, q3, q4⟩ := hat
  have hr : r = (C, T, NF) := Option.some.inj (h1.symm.trans hc)
  subst hr
  obtain ⟨hS, hfc, kC, hkC, hkind⟩ := hK.1 ci _ hc
  obtain ⟨cf, kf, fi, f, hi, hsl⟩ := hS j hj
  have hlay := hts _ (hin _ (u_in_lay hj))
  unfold u_lay at hlay
  rw [if_pos hfin] at hlay
  have hst := (u_facts hfc hkC (u_lays hts hin hj) hi).1
  have hcf : m.cls = cf := by
    obtain ⟨_, _, c', _, _, _, -, -, hf', -, -, -, hown2, -⟩ := Cond.laysFinal_spec hlay
    have e1 : c' = cf := by have := hi.symm.trans hf'; simp at this; exact this.1.symm
    rw [hdecl] at hown2
    rw [← e1]; exact Option.some.inj (hown.symm.trans hown2)
  have h6 := u_fits hfc hkC hkind (Or.inr hlay) hi hd hn hfit
  refine W.putFinK hexec hb hown hlink hi hst hcf hin2 (by rw [q2]; exact h6) q1 q3 (by rw [hsl]; exact k2_hasslot (q4 j hj)) rfl rfl hdg fun H' e1 e2 e3 => ?_
  rw [hsl] at e1 ⊢
  exact kk H' _ e2 (hP.upd (by rw [he']; exact ⟨_, hc, t_OB.to (V := updV (vp_V fs) j v) ⟨_, e1, q2, q3, t_set q4 hap hj v⟩ (fun i _ => vp_updV_set hl v i)⟩) e3 ho) (hS0.put e2 e3 ⟨Nat.le_add_right _ _, Nat.add_lt_add_left hk9 _⟩)
theorem q_iald (hexec : p.tables.exec = Jvm.exec) (hb : c.code = cc) (hK : va_K D vwCl (tysC cy) s) (hP : HP D cy b0 N S H) {k : Nat} (hkN : k < N) (hk : kd k = 7) {n : Nat} (hn : ln k = n) {i : Int32} (hin : vp_in i n) (hdg : decode cc pc = .ok (.iaload, 1))
    (kk : W p l e R s m args below meth c H locs cells slots Q (F0 m (pc + 1) ls (.int (gI S k i.toNatClampNeg) :: rest))) : W p l e R s m args below meth c H locs cells slots Q (F0 m pc ls (.int i :: .ref (b0 + k) :: rest)) := by
  subst hn
  exact va_iald hexec hb hK (hP.one hkN (cell_7 hk)) 0 0 rfl rfl hin hdg kk
theorem q_zald (hexec : p.tables.exec = Jvm.exec) (hb : c.code = cc) (hK : va_K D vwCl (tysC cy) s) (hP : HP D cy b0 N S H) {k : Nat} (hkN : k < N) (hk : kd k = 8) {n : Nat} (hn : ln k = n) {i : Int32} (hin : vp_in i n) (hdg : decode cc pc = .ok (.baload, 1))
    (kk : W p l e R s m args below meth c H locs cells slots Q (F0 m (pc + 1) ls (.int (gI S k i.toNatClampNeg) :: rest))) : W p l e R s m args below meth c H locs cells slots Q (F0 m pc ls (.int i :: .ref (b0 + k) :: rest)) := by
  subst hn
  exact va_zald hexec hb hK (hP.one hkN (cell_8 hk)) 0 1 rfl rfl hin hdg kk
theorem q_aald9 (hexec : p.tables.exec = Jvm.exec) (hb : c.code = cc) (hK : va_K D vwCl (tysC cy) s) (hP : HP D cy b0 N S H) {k : Nat} (hkN : k < N) (hk : kd k = 9) {n : Nat} (hn : ln k = n) {i : Int32} (hin : vp_in i n) (hdg : decode cc pc = .ok (.aaload, 1))
    (kk : W p l e R s m args below meth c H locs cells slots Q (F0 m (pc + 1) ls (rf b0 (gR S k i.toNatClampNeg) :: rest))) : W p l e R s m args below meth c H locs cells slots Q (F0 m pc ls (.int i :: .ref (b0 + k) :: rest)) := by
  subst hn
  exact va_aldq hexec hb hK (hP.one hkN (cell_9 hk)) 0 2 rfl rfl hin hdg kk
theorem q_aald10 (hexec : p.tables.exec = Jvm.exec) (hb : c.code = cc) (hK : va_K D vwCl (tysC cy) s) (hP : HP D cy b0 N S H) {k : Nat} (hkN : k < N) (hk : kd k = 10) {n : Nat} (hn : ln k = n) {i : Int32} (hin : vp_in i n) (hdg : decode cc pc = .ok (.aaload, 1))
    (kk : W p l e R s m args below meth c H locs cells slots Q (F0 m (pc + 1) ls (rf b0 (gR S k i.toNatClampNeg) :: rest))) : W p l e R s m args below meth c H locs cells slots Q (F0 m pc ls (.int i :: .ref (b0 + k) :: rest)) := by
  subst hn
  exact va_aldq hexec hb hK (hP.one hkN (cell_10 hk)) 0 3 rfl rfl hin hdg kk
theorem q_aald11 (hexec : p.tables.exec = Jvm.exec) (hb : c.code = cc) (hK : va_K D vwCl (tysC cy) s) (hP : HP D cy b0 N S H) {k : Nat} (hkN : k < N) (hk : kd k = 11) {n : Nat} (hn : ln k = n) {i : Int32} (hin : vp_in i n) (hdg : decode cc pc = .ok (.aaload, 1))
    (kk : W p l e R s m args below meth c H locs cells slots Q (F0 m (pc + 1) ls (rf b0 (gR S k i.toNatClampNeg) :: rest))) : W p l e R s m args below meth c H locs cells slots Q (F0 m pc ls (.int i :: .ref (b0 + k) :: rest)) := by
  subst hn
  have hlt : i.toNatClampNeg < ln k := Nat.not_le.mp fun q => hin (Or.inr q)
  have h1 := hP k hkN
  rw [cell_11 hk] at h1
  exact W.aald (v := rf b0 (gR S k i.toNatClampNeg)) (ty := .array .int) hexec hb h1 ((hK.2 4 _ rfl).1 (ln k) (fun j => rf b0 (gR S k j))) rfl (fun q => by cases q) (by show ¬ (i < 0 ∨ (arrV _ _ _).slots.size ≤ _); rw [arrV_size]; exact hin) (by show (arrV _ _ _).slots[_]? = _; rw [arrV_read _ _ hlt]; rfl) rfl rfl hdg kk
theorem q_iast (hexec : p.tables.exec = Jvm.exec) (hb : c.code = cc) (hK : va_K D vwCl (tysC cy) s) (hP : HP D cy b0 N S H) (hS : va_S (AA b0) H0 H locs) {k : Nat} (hkN : k < N) (hk : kd k = 7) {n : Nat} (hn : ln k = n) {i x : Int32} (hin : vp_in i n) (hdg : decode cc pc = .ok (.iastore, 1))
    (kk : ∀ (H1 : Heap) (locs1 : List Loc), H1.size = H.size → HP D cy b0 N (sI S k i.toNatClampNeg x) H1 → va_S (AA b0) H0 H1 locs1 → W p l e R s m args below meth c H1 locs1 cells slots Q (F0 m (pc + 1) ls rest)) : W p l e R s m args below meth c H locs cells slots Q (F0 m pc ls (.int x :: .int i :: .ref (b0 + k) :: rest)) := by
  subst hn
  have h1 := hP k hkN
  rw [cell_7 hk] at h1
  refine W.iast hexec hb h1 ((hK.2 0 _ rfl).1 (ln k) (fun j => .int (gI S k j))) (fun q => by cases q) (by show ¬ (i < 0 ∨ (arrV _ _ _).slots.size ≤ _); rw [arrV_size]; exact hin) rfl rfl hdg fun H1 e z oq => ?_
  refine kk H1 _ z (hP.upd ?_ oq cell_sI) (hS.put z oq ⟨Nat.le_add_right _ _, Nat.add_lt_add_left (kd_N hk (by omega)) _⟩)
  rw [cell_7 hk]
  show H1[b0 + k]? = some (vp_cell _ _)
  rw [e]
  rw [vp_cell_i, vp_cell_i, arrV_store]
  congr 2
  funext q
  by_cases hq : q = i.toNatClampNeg
  · subst hq
    simp [updV, gI, sI]
  · simp [updV, gI, sI, hq]
theorem q_zast (hexec : p.tables.exec = Jvm.exec) (hb : c.code = cc) (hK : va_K D vwCl (tysC cy) s) (hP : HP D cy b0 N S H) (hS : va_S (AA b0) H0 H locs) {k : Nat} (hkN : k < N) (hk : kd k = 8) {n : Nat} (hn : ln k = n) {i x : Int32} (hz : narrow .boolean (.int x) = .int x) (hin : vp_in i n) (hdg : decode cc pc = .ok (.bastore, 1))
    (kk : ∀ (H1 : Heap) (locs1 : List Loc), H1.size = H.size → HP D cy b0 N (sI S k i.toNatClampNeg x) H1 → va_S (AA b0) H0 H1 locs1 → W p l e R s m args below meth c H1 locs1 cells slots Q (F0 m (pc + 1) ls rest)) : W p l e R s m args below meth c H locs cells slots Q (F0 m pc ls (.int x :: .int i :: .ref (b0 + k) :: rest)) := by
  subst hn
  have h1 := hP k hkN
  rw [cell_8 hk] at h1
  refine W.zast hexec hb h1 ((hK.2 1 _ rfl).1 (ln k) (fun j => .int (gI S k j))) (fun q => by cases q) (by show ¬ (i < 0 ∨ (arrV _ _ _).slots.size ≤ _); rw [arrV_size]; exact hin) rfl rfl hdg fun H1 e z oq => ?_
  refine kk H1 _ z (hP.upd ?_ oq cell_sI) (hS.put z oq ⟨Nat.le_add_right _ _, Nat.add_lt_add_left (kd_N hk (by omega)) _⟩)
  rw [cell_8 hk]
  show H1[b0 + k]? = some (vp_cell _ _)
  rw [e]
  rw [vp_cell_i, vp_cell_i, arrV_store]
  congr 2
  funext q
  by_cases hq : q = i.toNatClampNeg
  · subst hq
    simp [updV, gI, sI, hz]
  · simp [updV, gI, sI, hq]
theorem q_aastN (hexec : p.tables.exec = Jvm.exec) (hb : c.code = cc) (hK : va_K D vwCl (tysC cy) s) (hP : HP D cy b0 N S H) (hS : va_S (AA b0) H0 H locs) {k : Nat} (hkN : k < N) (hk : kd k = 9) {n : Nat} (hn : ln k = n) {i : Int32} (hin : vp_in i n) (hdg : decode cc pc = .ok (.aastore, 1))
    (kk : ∀ (H1 : Heap) (locs1 : List Loc), H1.size = H.size → HP D cy b0 N (sR S k i.toNatClampNeg none) H1 → va_S (AA b0) H0 H1 locs1 → W p l e R s m args below meth c H1 locs1 cells slots Q (F0 m (pc + 1) ls rest)) : W p l e R s m args below meth c H locs cells slots Q (F0 m pc ls (.null :: .int i :: .ref (b0 + k) :: rest)) := by
  subst hn
  have h1 := hP k hkN
  rw [cell_9 hk] at h1
  refine va_WaastN (C := RX1) hexec hb h1 ((hK.2 2 _ rfl).1 (ln k) (fun j => rf b0 (gR S k j))) (fun h => by cases h) (by show ¬ (i < 0 ∨ (arrV _ _ _).slots.size ≤ _); rw [arrV_size]; exact hin) rfl rfl hdg fun H1 e z oq => ?_
  refine kk H1 _ z (hP.upd ?_ oq cell_sR) (hS.put z oq ⟨Nat.le_add_right _ _, Nat.add_lt_add_left (kd_N hk (by omega)) _⟩)
  rw [cell_9 hk]
  show H1[b0 + k]? = some (vp_cell _ _)
  rw [e]
  rw [vp_cell_q, vp_cell_q, arrV_store]
  congr 2
  funext q
  by_cases hq : q = i.toNatClampNeg
  · subst hq
    simp [updV, gR, sR, va_rf]
  · simp [updV, gR, sR, hq]
theorem q_aast (hexec : p.tables.exec = Jvm.exec) (hb : c.code = cc) (hK : va_K D vwCl (tysC cy) s) (hP : HP D cy b0 N S H) (hS : va_S (AA b0) H0 H locs) {k : Nat} (hkN : k < N) (hk9 : k < 367) {z : Nat} (t0 ci : Nat) {r : vw_C} {cA : ClassId} {n v : Nat} {vs : List Value} (hc : vwCl[ci]? = some r) (hkk : ∀ S : St, cellC cy b0 S k = .inl (cA, n, .inr (.inr (.inr (.inr (fun j => (gR S k j).map (fun q => b0 + q))))))) (ht : (tysC cy)[t0]? = some (cA, .object r.1)) (hvN : v < N) (hv : cellC cy b0 S v = .inr (ci, vs)) {i : Int32} (hin : vp_in i n) (hdg : decode cc pc = .ok (.aastore, 1))
    (kk : ∀ (H1 : Heap) (locs1 : List Loc), H1.size = H.size → HP D cy b0 N (sR S k i.toNatClampNeg (some v)) H1 → va_S (AA b0) H0 H1 locs1 → W p l e R s m args below meth c H1 locs1 cells slots Q (F0 m (pc + 1) ls rest)) : W p l e R s m args below meth c H locs cells slots Q (F0 m pc ls (.ref (b0 + v) :: .int i :: .ref (b0 + k) :: rest)) := by
  have hlt : i.toNatClampNeg < n := Nat.not_le.mp fun q => hin (Or.inr q)
  have h0 : ¬ i < 0 := fun q => hin (Or.inl q)
  have h1 := hP k hkN
  rw [hkk S] at h1
  have h2 := hP v hvN
  rw [hv] at h2
  obtain ⟨r', hr', cellV, g1, g2, g3, -⟩ := h2
  have hcls := (hK.1 ci r hc).2
  obtain ⟨kA, comp, k1, k2, k3, -⟩ := (hK.2 t0 _ ht).2
  have hcomp : comp = D.1 ci := Option.some.inj (k3.symm.trans hcls.1)
  subst hcomp
  obtain ⟨kC, hkC, -⟩ := hcls.2
  refine W.aast hexec hb h1 (fun q h => by cases h) (fun h => by cases h) k1 k2 rfl hkC ⟨h0, by show _ < (arrV _ _ _).slots.size; rw [arrV_size]; exact hlt⟩ g1 (fun q h => by rw [g3] at h; cases h) (by rw [g2]; exact hkC) (by rw [g2]; exact va_assign hcls) rfl rfl hdg fun H1 e z oq => ?_
  refine kk H1 _ z (hP.upd ?_ oq cell_sR) (hS.put z oq ⟨Nat.le_add_right _ _, Nat.add_lt_add_left hk9 _⟩)
  rw [hkk]
  show H1[b0 + k]? = some (vp_cell _ _)
  rw [e]
  rw [vp_cell_q, vp_cell_q, arrV_store]
  congr 2
  funext q
  by_cases hq : q = i.toNatClampNeg
  · subst hq
    simp [updV, gR, sR, va_rf]
  · simp [updV, gR, sR, hq]
end QR
section QF
variable {p : Program} {l : Launch} {e : Env} {R : Room} {s : State} {m : MethodId} {args : Array Value} {below : List Frame} {meth : Method} {c : Code} {H : Heap} {locs : List Loc} {cells slots : Nat} {Q : State → Prop}
variable {cc : ByteArray} {pc : Nat} {ls : Array Slot} {rest : List Value} {D : va_G} {cy : Nat → ClassId} {b0 N : Nat} {S : St} {A : Nat → Prop} {H0 : Heap} {own : String} {index : Nat} {Ts : List Cond}
theorem gf_0_0 (hexec : p.tables.exec = Jvm.exec) (hb : c.code = cc) (hts : ∀ w ∈ Ts, w.before args s = true) (hin : ∀ w ∈ wsX00, w ∈ Ts) (hown : s.vm.findClass own = some m.cls) (hK : va_K D vwCl (tysC cy) s) (hP : HP D cy b0 N S H) {k : Nat} (hkN : k < N) (hk : kd k = 0) {q : Nat} (hq : gR S k 0 = some q) (hlink : (Cond.fieldLink own index (TX0 0).1 (TX0 0).2.1 (TX0 0).2.2.1).before args s = true) (hdg : decode cc pc = .ok (.getfield index, 3)) (kk : W p l e R s m args below meth c H locs cells slots Q (F0 m (pc + 3) ls (.ref (b0 + q) :: rest))) : W p l e R s m args below meth c H locs cells slots Q (F0 m pc ls (.ref (b0 + k) :: rest)) := q_get (ci := 0) (r := (RX0, TX0, 3)) hexec hb hts hin hown hK hP hkN (cell_0 hk) rfl 0 (by decide) hlink (v := .ref (b0 + q)) (by rw [← rf_some hq]; rfl) hdg kk
theorem gn_0_0 (hexec : p.tables.exec = Jvm.exec) (hb : c.code = cc) (hts : ∀ w ∈ Ts, w.before args s = true) (hin : ∀ w ∈ wsX00, w ∈ Ts) (hown : s.vm.findClass own = some m.cls) (hK : va_K D vwCl (tysC cy) s) (hP : HP D cy b0 N S H) {k : Nat} (hkN : k < N) (hk : kd k = 0) (hq : gR S k 0 = none) (hlink : (Cond.fieldLink own index (TX0 0).1 (TX0 0).2.1 (TX0 0).2.2.1).before args s = true) (hdg : decode cc pc = .ok (.getfield index, 3)) (kk : W p l e R s m args below meth c H locs cells slots Q (F0 m (pc + 3) ls (.null :: rest))) : W p l e R s m args below meth c H locs cells slots Q (F0 m pc ls (.ref (b0 + k) :: rest)) := q_get (ci := 0) (r := (RX0, TX0, 3)) hexec hb hts hin hown hK hP hkN (cell_0 hk) rfl 0 (by decide) hlink (v := .null) (by rw [← rf_none (b0 := b0) hq]; rfl) hdg kk
theorem gf_0_1 (hexec : p.tables.exec = Jvm.exec) (hb : c.code = cc) (hts : ∀ w ∈ Ts, w.before args s = true) (hin : ∀ w ∈ wsX00, w ∈ Ts) (hown : s.vm.findClass own = some m.cls) (hK : va_K D vwCl (tysC cy) s) (hP : HP D cy b0 N S H) {k : Nat} (hkN : k < N) (hk : kd k = 0) {q : Nat} (hq : gR S k 1 = some q) (hlink : (Cond.fieldLink own index (TX0 1).1 (TX0 1).2.1 (TX0 1).2.2.1).before args s = true) (hdg : decode cc pc = .ok (.getfield index, 3)) (kk : W p l e R s m args below meth c H locs cells slots Q (F0 m (pc + 3) ls (.ref (b0 + q) :: rest))) : W p l e R s m args below meth c H locs cells slots Q (F0 m pc ls (.ref (b0 + k) :: rest)) := q_get (ci := 0) (r := (RX0, TX0, 3)) hexec hb hts hin hown hK hP hkN (cell_0 hk) rfl 1 (by decide) hlink (v := .ref (b0 + q)) (by rw [← rf_some hq]; rfl) hdg kk
theorem gn_0_1 (hexec : p.tables.exec = Jvm.exec) (hb : c.code = cc) (hts : ∀ w ∈ Ts, w.before args s = true) (hin : ∀ w ∈ wsX00, w ∈ Ts) (hown : s.vm.findClass own = some m.cls) (hK : va_K D vwCl (tysC cy) s) (hP : HP D cy b0 N S H) {k : Nat} (hkN : k < N) (hk : kd k = 0) (hq : gR S k 1 = none) (hlink : (Cond.fieldLink own index (TX0 1).1 (TX0 1).2.1 (TX0 1).2.2.1).before args s = true) (hdg : decode cc pc = .ok (.getfield index, 3)) (kk : W p l e R s m args below meth c H locs cells slots Q (F0 m (pc + 3) ls (.null :: rest))) : W p l e R s m args below meth c H locs cells slots Q (F0 m pc ls (.ref (b0 + k) :: rest)) := q_get (ci := 0) (r := (RX0, TX0, 3)) hexec hb hts hin hown hK hP hkN (cell_0 hk) rfl 1 (by decide) hlink (v := .null) (by rw [← rf_none (b0 := b0) hq]; rfl) hdg kk
theorem gf_0_2 (hexec : p.tables.exec = Jvm.exec) (hb : c.code = cc) (hts : ∀ w ∈ Ts, w.before args s = true) (hin : ∀ w ∈ wsX00, w ∈ Ts) (hown : s.vm.findClass own = some m.cls) (hK : va_K D vwCl (tysC cy) s) (hP : HP D cy b0 N S H) {k : Nat} (hkN : k < N) (hk : kd k = 0) (hlink : (Cond.fieldLink own index (TX0 2).1 (TX0 2).2.1 (TX0 2).2.2.1).before args s = true) (hdg : decode cc pc = .ok (.getfield index, 3)) (kk : W p l e R s m args below meth c H locs cells slots Q (F0 m (pc + 3) ls (.int (gI S k 2) :: rest))) : W p l e R s m args below meth c H locs cells slots Q (F0 m pc ls (.ref (b0 + k) :: rest)) := q_get (ci := 0) (r := (RX0, TX0, 3)) hexec hb hts hin hown hK hP hkN (cell_0 hk) rfl 2 (by decide) hlink rfl hdg kk
theorem gf_1_0 (hexec : p.tables.exec = Jvm.exec) (hb : c.code = cc) (hts : ∀ w ∈ Ts, w.before args s = true) (hin : ∀ w ∈ wsX10, w ∈ Ts) (hown : s.vm.findClass own = some m.cls) (hK : va_K D vwCl (tysC cy) s) (hP : HP D cy b0 N S H) {k : Nat} (hkN : k < N) (hk : kd k = 1) (hlink : (Cond.fieldLink own index (TX1 0).1 (TX1 0).2.1 (TX1 0).2.2.1).before args s = true) (hdg : decode cc pc = .ok (.getfield index, 3)) (kk : W p l e R s m args below meth c H locs cells slots Q (F0 m (pc + 3) ls (.int (gI S k 0) :: rest))) : W p l e R s m args below meth c H locs cells slots Q (F0 m pc ls (.ref (b0 + k) :: rest)) := q_get (ci := 1) (r := (RX1, TX1, 7)) hexec hb hts hin hown hK hP hkN (cell_1 hk) rfl 0 (by decide) hlink rfl hdg kk
theorem gf_1_1 (hexec : p.tables.exec = Jvm.exec) (hb : c.code = cc) (hts : ∀ w ∈ Ts, w.before args s = true) (hin : ∀ w ∈ wsX10, w ∈ Ts) (hown : s.vm.findClass own = some m.cls) (hK : va_K D vwCl (tysC cy) s) (hP : HP D cy b0 N S H) {k : Nat} (hkN : k < N) (hk : kd k = 1) {q : Nat} (hq : gR S k 1 = some q) (hlink : (Cond.fieldLink own index (TX1 1).1 (TX1 1).2.1 (TX1 1).2.2.1).before args s = true) (hdg : decode cc pc = .ok (.getfield index, 3)) (kk : W p l e R s m args below meth c H locs cells slots Q (F0 m (pc + 3) ls (.ref (b0 + q) :: rest))) : W p l e R s m args below meth c H locs cells slots Q (F0 m pc ls (.ref (b0 + k) :: rest)) := q_get (ci := 1) (r := (RX1, TX1, 7)) hexec hb hts hin hown hK hP hkN (cell_1 hk) rfl 1 (by decide) hlink (v := .ref (b0 + q)) (by rw [← rf_some hq]; rfl) hdg kk
theorem gn_1_1 (hexec : p.tables.exec = Jvm.exec) (hb : c.code = cc) (hts : ∀ w ∈ Ts, w.before args s = true) (hin : ∀ w ∈ wsX10, w ∈ Ts) (hown : s.vm.findClass own = some m.cls) (hK : va_K D vwCl (tysC cy) s) (hP : HP D cy b0 N S H) {k : Nat} (hkN : k < N) (hk : kd k = 1) (hq : gR S k 1 = none) (hlink : (Cond.fieldLink own index (TX1 1).1 (TX1 1).2.1 (TX1 1).2.2.1).before args s = true) (hdg : decode cc pc = .ok (.getfield index, 3)) (kk : W p l e R s m args below meth c H locs cells slots Q (F0 m (pc + 3) ls (.null :: rest))) : W p l e R s m args below meth c H locs cells slots Q (F0 m pc ls (.ref (b0 + k) :: rest)) := q_get (ci := 1) (r := (RX1, TX1, 7)) hexec hb hts hin hown hK hP hkN (cell_1 hk) rfl 1 (by decide) hlink (v := .null) (by rw [← rf_none (b0 := b0) hq]; rfl) hdg kk
theorem gf_1_2 (hexec : p.tables.exec = Jvm.exec) (hb : c.code = cc) (hts : ∀ w ∈ Ts, w.before args s = true) (hin : ∀ w ∈ wsX10, w ∈ Ts) (hown : s.vm.findClass own = some m.cls) (hK : va_K D vwCl (tysC cy) s) (hP : HP D cy b0 N S H) {k : Nat} (hkN : k < N) (hk : kd k = 1) {q : Nat} (hq : gR S k 2 = some q) (hlink : (Cond.fieldLink own index (TX1 2).1 (TX1 2).2.1 (TX1 2).2.2.1).before args s = true) (hdg : decode cc pc = .ok (.getfield index, 3)) (kk : W p l e R s m args below meth c H locs cells slots Q (F0 m (pc + 3) ls (.ref (b0 + q) :: rest))) : W p l e R s m args below meth c H locs cells slots Q (F0 m pc ls (.ref (b0 + k) :: rest)) := q_get (ci := 1) (r := (RX1, TX1, 7)) hexec hb hts hin hown hK hP hkN (cell_1 hk) rfl 2 (by decide) hlink (v := .ref (b0 + q)) (by rw [← rf_some hq]; rfl) hdg kk
theorem gn_1_2 (hexec : p.tables.exec = Jvm.exec) (hb : c.code = cc) (hts : ∀ w ∈ Ts, w.before args s = true) (hin : ∀ w ∈ wsX10, w ∈ Ts) (hown : s.vm.findClass own = some m.cls) (hK : va_K D vwCl (tysC cy) s) (hP : HP D cy b0 N S H) {k : Nat} (hkN : k < N) (hk : kd k = 1) (hq : gR S k 2 = none) (hlink : (Cond.fieldLink own index (TX1 2).1 (TX1 2).2.1 (TX1 2).2.2.1).before args s = true) (hdg : decode cc pc = .ok (.getfield index, 3)) (kk : W p l e R s m args below meth c H locs cells slots Q (F0 m (pc + 3) ls (.null :: rest))) : W p l e R s m args below meth c H locs cells slots Q (F0 m pc ls (.ref (b0 + k) :: rest)) := q_get (ci := 1) (r := (RX1, TX1, 7)) hexec hb hts hin hown hK hP hkN (cell_1 hk) rfl 2 (by decide) hlink (v := .null) (by rw [← rf_none (b0 := b0) hq]; rfl) hdg kk
theorem gf_1_3 (hexec : p.tables.exec = Jvm.exec) (hb : c.code = cc) (hts : ∀ w ∈ Ts, w.before args s = true) (hin : ∀ w ∈ wsX10, w ∈ Ts) (hown : s.vm.findClass own = some m.cls) (hK : va_K D vwCl (tysC cy) s) (hP : HP D cy b0 N S H) {k : Nat} (hkN : k < N) (hk : kd k = 1) (hlink : (Cond.fieldLink own index (TX1 3).1 (TX1 3).2.1 (TX1 3).2.2.1).before args s = true) (hdg : decode cc pc = .ok (.getfield index, 3)) (kk : W p l e R s m args below meth c H locs cells slots Q (F0 m (pc + 3) ls (.int (gI S k 3) :: rest))) : W p l e R s m args below meth c H locs cells slots Q (F0 m pc ls (.ref (b0 + k) :: rest)) := q_get (ci := 1) (r := (RX1, TX1, 7)) hexec hb hts hin hown hK hP hkN (cell_1 hk) rfl 3 (by decide) hlink rfl hdg kk
theorem gf_1_4 (hexec : p.tables.exec = Jvm.exec) (hb : c.code = cc) (hts : ∀ w ∈ Ts, w.before args s = true) (hin : ∀ w ∈ wsX10, w ∈ Ts) (hown : s.vm.findClass own = some m.cls) (hK : va_K D vwCl (tysC cy) s) (hP : HP D cy b0 N S H) {k : Nat} (hkN : k < N) (hk : kd k = 1) (hlink : (Cond.fieldLink own index (TX1 4).1 (TX1 4).2.1 (TX1 4).2.2.1).before args s = true) (hdg : decode cc pc = .ok (.getfield index, 3)) (kk : W p l e R s m args below meth c H locs cells slots Q (F0 m (pc + 3) ls (.int (gI S k 4) :: rest))) : W p l e R s m args below meth c H locs cells slots Q (F0 m pc ls (.ref (b0 + k) :: rest)) := q_get (ci := 1) (r := (RX1, TX1, 7)) hexec hb hts hin hown hK hP hkN (cell_1 hk) rfl 4 (by decide) hlink rfl hdg kk
theorem gf_1_5 (hexec : p.tables.exec = Jvm.exec) (hb : c.code = cc) (hts : ∀ w ∈ Ts, w.before args s = true) (hin : ∀ w ∈ wsX10, w ∈ Ts) (hown : s.vm.findClass own = some m.cls) (hK : va_K D vwCl (tysC cy) s) (hP : HP D cy b0 N S H) {k : Nat} (hkN : k < N) (hk : kd k = 1) (hlink : (Cond.fieldLink own index (TX1 5).1 (TX1 5).2.1 (TX1 5).2.2.1).before args s = true) (hdg : decode cc pc = .ok (.getfield index, 3)) (kk : W p l e R s m args below meth c H locs cells slots Q (F0 m (pc + 3) ls (.int (gI S k 5) :: rest))) : W p l e R s m args below meth c H locs cells slots Q (F0 m pc ls (.ref (b0 + k) :: rest)) := q_get (ci := 1) (r := (RX1, TX1, 7)) hexec hb hts hin hown hK hP hkN (cell_1 hk) rfl 5 (by decide) hlink rfl hdg kk
theorem gf_1_6 (hexec : p.tables.exec = Jvm.exec) (hb : c.code = cc) (hts : ∀ w ∈ Ts, w.before args s = true) (hin : ∀ w ∈ wsX10, w ∈ Ts) (hown : s.vm.findClass own = some m.cls) (hK : va_K D vwCl (tysC cy) s) (hP : HP D cy b0 N S H) {k : Nat} (hkN : k < N) (hk : kd k = 1) (hlink : (Cond.fieldLink own index (TX1 6).1 (TX1 6).2.1 (TX1 6).2.2.1).before args s = true) (hdg : decode cc pc = .ok (.getfield index, 3)) (kk : W p l e R s m args below meth c H locs cells slots Q (F0 m (pc + 3) ls (.int (gI S k 6) :: rest))) : W p l e R s m args below meth c H locs cells slots Q (F0 m pc ls (.ref (b0 + k) :: rest)) := q_get (ci := 1) (r := (RX1, TX1, 7)) hexec hb hts hin hown hK hP hkN (cell_1 hk) rfl 6 (by decide) hlink rfl hdg kk
theorem gf_2_0 (hexec : p.tables.exec = Jvm.exec) (hb : c.code = cc) (hts : ∀ w ∈ Ts, w.before args s = true) (hin : ∀ w ∈ wsX20, w ∈ Ts) (hown : s.vm.findClass own = some m.cls) (hK : va_K D vwCl (tysC cy) s) (hP : HP D cy b0 N S H) {k : Nat} (hkN : k < N) (hk : kd k = 2) (hlink : (Cond.fieldLink own index (TX2 0).1 (TX2 0).2.1 (TX2 0).2.2.1).before args s = true) (hdg : decode cc pc = .ok (.getfield index, 3)) (kk : W p l e R s m args below meth c H locs cells slots Q (F0 m (pc + 3) ls (.int (gI S k 0) :: rest))) : W p l e R s m args below meth c H locs cells slots Q (F0 m pc ls (.ref (b0 + k) :: rest)) := q_get (ci := 2) (r := (RX2, TX2, 8)) hexec hb hts hin hown hK hP hkN (cell_2 hk) rfl 0 (by decide) hlink rfl hdg kk
theorem gf_2_1 (hexec : p.tables.exec = Jvm.exec) (hb : c.code = cc) (hts : ∀ w ∈ Ts, w.before args s = true) (hin : ∀ w ∈ wsX20, w ∈ Ts) (hown : s.vm.findClass own = some m.cls) (hK : va_K D vwCl (tysC cy) s) (hP : HP D cy b0 N S H) {k : Nat} (hkN : k < N) (hk : kd k = 2) (hlink : (Cond.fieldLink own index (TX2 1).1 (TX2 1).2.1 (TX2 1).2.2.1).before args s = true) (hdg : decode cc pc = .ok (.getfield index, 3)) (kk : W p l e R s m args below meth c H locs cells slots Q (F0 m (pc + 3) ls (.int (gI S k 1) :: rest))) : W p l e R s m args below meth c H locs cells slots Q (F0 m pc ls (.ref (b0 + k) :: rest)) := q_get (ci := 2) (r := (RX2, TX2, 8)) hexec hb hts hin hown hK hP hkN (cell_2 hk) rfl 1 (by decide) hlink rfl hdg kk
theorem gf_2_2 (hexec : p.tables.exec = Jvm.exec) (hb : c.code = cc) (hts : ∀ w ∈ Ts, w.before args s = true) (hin : ∀ w ∈ wsX20, w ∈ Ts) (hown : s.vm.findClass own = some m.cls) (hK : va_K D vwCl (tysC cy) s) (hP : HP D cy b0 N S H) {k : Nat} (hkN : k < N) (hk : kd k = 2) (hlink : (Cond.fieldLink own index (TX2 2).1 (TX2 2).2.1 (TX2 2).2.2.1).before args s = true) (hdg : decode cc pc = .ok (.getfield index, 3)) (kk : W p l e R s m args below meth c H locs cells slots Q (F0 m (pc + 3) ls (.int (gI S k 2) :: rest))) : W p l e R s m args below meth c H locs cells slots Q (F0 m pc ls (.ref (b0 + k) :: rest)) := q_get (ci := 2) (r := (RX2, TX2, 8)) hexec hb hts hin hown hK hP hkN (cell_2 hk) rfl 2 (by decide) hlink rfl hdg kk
theorem gf_2_3 (hexec : p.tables.exec = Jvm.exec) (hb : c.code = cc) (hts : ∀ w ∈ Ts, w.before args s = true) (hin : ∀ w ∈ wsX20, w ∈ Ts) (hown : s.vm.findClass own = some m.cls) (hK : va_K D vwCl (tysC cy) s) (hP : HP D cy b0 N S H) {k : Nat} (hkN : k < N) (hk : kd k = 2) (hlink : (Cond.fieldLink own index (TX2 3).1 (TX2 3).2.1 (TX2 3).2.2.1).before args s = true) (hdg : decode cc pc = .ok (.getfield index, 3)) (kk : W p l e R s m args below meth c H locs cells slots Q (F0 m (pc + 3) ls (.int (gI S k 3) :: rest))) : W p l e R s m args below meth c H locs cells slots Q (F0 m pc ls (.ref (b0 + k) :: rest)) := q_get (ci := 2) (r := (RX2, TX2, 8)) hexec hb hts hin hown hK hP hkN (cell_2 hk) rfl 3 (by decide) hlink rfl hdg kk
theorem gf_2_4 (hexec : p.tables.exec = Jvm.exec) (hb : c.code = cc) (hts : ∀ w ∈ Ts, w.before args s = true) (hin : ∀ w ∈ wsX20, w ∈ Ts) (hown : s.vm.findClass own = some m.cls) (hK : va_K D vwCl (tysC cy) s) (hP : HP D cy b0 N S H) {k : Nat} (hkN : k < N) (hk : kd k = 2) (hlink : (Cond.fieldLink own index (TX2 4).1 (TX2 4).2.1 (TX2 4).2.2.1).before args s = true) (hdg : decode cc pc = .ok (.getfield index, 3)) (kk : W p l e R s m args below meth c H locs cells slots Q (F0 m (pc + 3) ls (.int (gI S k 4) :: rest))) : W p l e R s m args below meth c H locs cells slots Q (F0 m pc ls (.ref (b0 + k) :: rest)) := q_get (ci := 2) (r := (RX2, TX2, 8)) hexec hb hts hin hown hK hP hkN (cell_2 hk) rfl 4 (by decide) hlink rfl hdg kk
theorem gf_2_5 (hexec : p.tables.exec = Jvm.exec) (hb : c.code = cc) (hts : ∀ w ∈ Ts, w.before args s = true) (hin : ∀ w ∈ wsX20, w ∈ Ts) (hown : s.vm.findClass own = some m.cls) (hK : va_K D vwCl (tysC cy) s) (hP : HP D cy b0 N S H) {k : Nat} (hkN : k < N) (hk : kd k = 2) {q : Nat} (hq : gR S k 5 = some q) (hlink : (Cond.fieldLink own index (TX2 5).1 (TX2 5).2.1 (TX2 5).2.2.1).before args s = true) (hdg : decode cc pc = .ok (.getfield index, 3)) (kk : W p l e R s m args below meth c H locs cells slots Q (F0 m (pc + 3) ls (.ref (b0 + q) :: rest))) : W p l e R s m args below meth c H locs cells slots Q (F0 m pc ls (.ref (b0 + k) :: rest)) := q_get (ci := 2) (r := (RX2, TX2, 8)) hexec hb hts hin hown hK hP hkN (cell_2 hk) rfl 5 (by decide) hlink (v := .ref (b0 + q)) (by rw [← rf_some hq]; rfl) hdg kk
theorem gn_2_5 (hexec : p.tables.exec = Jvm.exec) (hb : c.code = cc) (hts : ∀ w ∈ Ts, w.before args s = true) (hin : ∀ w ∈ wsX20, w ∈ Ts) (hown : s.vm.findClass own = some m.cls) (hK : va_K D vwCl (tysC cy) s) (hP : HP D cy b0 N S H) {k : Nat} (hkN : k < N) (hk : kd k = 2) (hq : gR S k 5 = none) (hlink : (Cond.fieldLink own index (TX2 5).1 (TX2 5).2.1 (TX2 5).2.2.1).before args s = true) (hdg : decode cc pc = .ok (.getfield index, 3)) (kk : W p l e R s m args below meth c H locs cells slots Q (F0 m (pc + 3) ls (.null :: rest))) : W p l e R s m args below meth c H locs cells slots Q (F0 m pc ls (.ref (b0 + k) :: rest)) := q_get (ci := 2) (r := (RX2, TX2, 8)) hexec hb hts hin hown hK hP hkN (cell_2 hk) rfl 5 (by decide) hlink (v := .null) (by rw [← rf_none (b0 := b0) hq]; rfl) hdg kk
theorem gf_2_6 (hexec : p.tables.exec = Jvm.exec) (hb : c.code = cc) (hts : ∀ w ∈ Ts, w.before args s = true) (hin : ∀ w ∈ wsX20, w ∈ Ts) (hown : s.vm.findClass own = some m.cls) (hK : va_K D vwCl (tysC cy) s) (hP : HP D cy b0 N S H) {k : Nat} (hkN : k < N) (hk : kd k = 2) {q : Nat} (hq : gR S k 6 = some q) (hlink : (Cond.fieldLink own index (TX2 6).1 (TX2 6).2.1 (TX2 6).2.2.1).before args s = true) (hdg : decode cc pc = .ok (.getfield index, 3)) (kk : W p l e R s m args below meth c H locs cells slots Q (F0 m (pc + 3) ls (.ref (b0 + q) :: rest))) : W p l e R s m args below meth c H locs cells slots Q (F0 m pc ls (.ref (b0 + k) :: rest)) := q_get (ci := 2) (r := (RX2, TX2, 8)) hexec hb hts hin hown hK hP hkN (cell_2 hk) rfl 6 (by decide) hlink (v := .ref (b0 + q)) (by rw [← rf_some hq]; rfl) hdg kk
theorem gn_2_6 (hexec : p.tables.exec = Jvm.exec) (hb : c.code = cc) (hts : ∀ w ∈ Ts, w.before args s = true) (hin : ∀ w ∈ wsX20, w ∈ Ts) (hown : s.vm.findClass own = some m.cls) (hK : va_K D vwCl (tysC cy) s) (hP : HP D cy b0 N S H) {k : Nat} (hkN : k < N) (hk : kd k = 2) (hq : gR S k 6 = none) (hlink : (Cond.fieldLink own index (TX2 6).1 (TX2 6).2.1 (TX2 6).2.2.1).before args s = true) (hdg : decode cc pc = .ok (.getfield index, 3)) (kk : W p l e R s m args below meth c H locs cells slots Q (F0 m (pc + 3) ls (.null :: rest))) : W p l e R s m args below meth c H locs cells slots Q (F0 m pc ls (.ref (b0 + k) :: rest)) := q_get (ci := 2) (r := (RX2, TX2, 8)) hexec hb hts hin hown hK hP hkN (cell_2 hk) rfl 6 (by decide) hlink (v := .null) (by rw [← rf_none (b0 := b0) hq]; rfl) hdg kk
theorem gf_2_7 (hexec : p.tables.exec = Jvm.exec) (hb : c.code = cc) (hts : ∀ w ∈ Ts, w.before args s = true) (hin : ∀ w ∈ wsX20, w ∈ Ts) (hown : s.vm.findClass own = some m.cls) (hK : va_K D vwCl (tysC cy) s) (hP : HP D cy b0 N S H) {k : Nat} (hkN : k < N) (hk : kd k = 2) {q : Nat} (hq : gR S k 7 = some q) (hlink : (Cond.fieldLink own index (TX2 7).1 (TX2 7).2.1 (TX2 7).2.2.1).before args s = true) (hdg : decode cc pc = .ok (.getfield index, 3)) (kk : W p l e R s m args below meth c H locs cells slots Q (F0 m (pc + 3) ls (.ref (b0 + q) :: rest))) : W p l e R s m args below meth c H locs cells slots Q (F0 m pc ls (.ref (b0 + k) :: rest)) := q_get (ci := 2) (r := (RX2, TX2, 8)) hexec hb hts hin hown hK hP hkN (cell_2 hk) rfl 7 (by decide) hlink (v := .ref (b0 + q)) (by rw [← rf_some hq]; rfl) hdg kk
theorem gn_2_7 (hexec : p.tables.exec = Jvm.exec) (hb : c.code = cc) (hts : ∀ w ∈ Ts, w.before args s = true) (hin : ∀ w ∈ wsX20, w ∈ Ts) (hown : s.vm.findClass own = some m.cls) (hK : va_K D vwCl (tysC cy) s) (hP : HP D cy b0 N S H) {k : Nat} (hkN : k < N) (hk : kd k = 2) (hq : gR S k 7 = none) (hlink : (Cond.fieldLink own index (TX2 7).1 (TX2 7).2.1 (TX2 7).2.2.1).before args s = true) (hdg : decode cc pc = .ok (.getfield index, 3)) (kk : W p l e R s m args below meth c H locs cells slots Q (F0 m (pc + 3) ls (.null :: rest))) : W p l e R s m args below meth c H locs cells slots Q (F0 m pc ls (.ref (b0 + k) :: rest)) := q_get (ci := 2) (r := (RX2, TX2, 8)) hexec hb hts hin hown hK hP hkN (cell_2 hk) rfl 7 (by decide) hlink (v := .null) (by rw [← rf_none (b0 := b0) hq]; rfl) hdg kk
theorem gf_3_0 (hexec : p.tables.exec = Jvm.exec) (hb : c.code = cc) (hts : ∀ w ∈ Ts, w.before args s = true) (hin : ∀ w ∈ wsX30, w ∈ Ts) (hown : s.vm.findClass own = some m.cls) (hK : va_K D vwCl (tysC cy) s) (hP : HP D cy b0 N S H) {k : Nat} (hkN : k < N) (hk : kd k = 3) (hlink : (Cond.fieldLink own index (TX3 0).1 (TX3 0).2.1 (TX3 0).2.2.1).before args s = true) (hdg : decode cc pc = .ok (.getfield index, 3)) (kk : W p l e R s m args below meth c H locs cells slots Q (F0 m (pc + 3) ls (.int (gI S k 0) :: rest))) : W p l e R s m args below meth c H locs cells slots Q (F0 m pc ls (.ref (b0 + k) :: rest)) := q_get (ci := 3) (r := (RX3, TX3, 5)) hexec hb hts hin hown hK hP hkN (cell_3 hk) rfl 0 (by decide) hlink rfl hdg kk
theorem gf_3_1 (hexec : p.tables.exec = Jvm.exec) (hb : c.code = cc) (hts : ∀ w ∈ Ts, w.before args s = true) (hin : ∀ w ∈ wsX30, w ∈ Ts) (hown : s.vm.findClass own = some m.cls) (hK : va_K D vwCl (tysC cy) s) (hP : HP D cy b0 N S H) {k : Nat} (hkN : k < N) (hk : kd k = 3) (hlink : (Cond.fieldLink own index (TX3 1).1 (TX3 1).2.1 (TX3 1).2.2.1).before args s = true) (hdg : decode cc pc = .ok (.getfield index, 3)) (kk : W p l e R s m args below meth c H locs cells slots Q (F0 m (pc + 3) ls (.int (gI S k 1) :: rest))) : W p l e R s m args below meth c H locs cells slots Q (F0 m pc ls (.ref (b0 + k) :: rest)) := q_get (ci := 3) (r := (RX3, TX3, 5)) hexec hb hts hin hown hK hP hkN (cell_3 hk) rfl 1 (by decide) hlink rfl hdg kk
theorem gf_3_2 (hexec : p.tables.exec = Jvm.exec) (hb : c.code = cc) (hts : ∀ w ∈ Ts, w.before args s = true) (hin : ∀ w ∈ wsX30, w ∈ Ts) (hown : s.vm.findClass own = some m.cls) (hK : va_K D vwCl (tysC cy) s) (hP : HP D cy b0 N S H) {k : Nat} (hkN : k < N) (hk : kd k = 3) (hlink : (Cond.fieldLink own index (TX3 2).1 (TX3 2).2.1 (TX3 2).2.2.1).before args s = true) (hdg : decode cc pc = .ok (.getfield index, 3)) (kk : W p l e R s m args below meth c H locs cells slots Q (F0 m (pc + 3) ls (.int (gI S k 2) :: rest))) : W p l e R s m args below meth c H locs cells slots Q (F0 m pc ls (.ref (b0 + k) :: rest)) := q_get (ci := 3) (r := (RX3, TX3, 5)) hexec hb hts hin hown hK hP hkN (cell_3 hk) rfl 2 (by decide) hlink rfl hdg kk
theorem gf_3_3 (hexec : p.tables.exec = Jvm.exec) (hb : c.code = cc) (hts : ∀ w ∈ Ts, w.before args s = true) (hin : ∀ w ∈ wsX30, w ∈ Ts) (hown : s.vm.findClass own = some m.cls) (hK : va_K D vwCl (tysC cy) s) (hP : HP D cy b0 N S H) {k : Nat} (hkN : k < N) (hk : kd k = 3) (hlink : (Cond.fieldLink own index (TX3 3).1 (TX3 3).2.1 (TX3 3).2.2.1).before args s = true) (hdg : decode cc pc = .ok (.getfield index, 3)) (kk : W p l e R s m args below meth c H locs cells slots Q (F0 m (pc + 3) ls (.int (gI S k 3) :: rest))) : W p l e R s m args below meth c H locs cells slots Q (F0 m pc ls (.ref (b0 + k) :: rest)) := q_get (ci := 3) (r := (RX3, TX3, 5)) hexec hb hts hin hown hK hP hkN (cell_3 hk) rfl 3 (by decide) hlink rfl hdg kk
theorem gf_3_4 (hexec : p.tables.exec = Jvm.exec) (hb : c.code = cc) (hts : ∀ w ∈ Ts, w.before args s = true) (hin : ∀ w ∈ wsX30, w ∈ Ts) (hown : s.vm.findClass own = some m.cls) (hK : va_K D vwCl (tysC cy) s) (hP : HP D cy b0 N S H) {k : Nat} (hkN : k < N) (hk : kd k = 3) (hlink : (Cond.fieldLink own index (TX3 4).1 (TX3 4).2.1 (TX3 4).2.2.1).before args s = true) (hdg : decode cc pc = .ok (.getfield index, 3)) (kk : W p l e R s m args below meth c H locs cells slots Q (F0 m (pc + 3) ls (.long (gJ S k 4) :: rest))) : W p l e R s m args below meth c H locs cells slots Q (F0 m pc ls (.ref (b0 + k) :: rest)) := q_get (ci := 3) (r := (RX3, TX3, 5)) hexec hb hts hin hown hK hP hkN (cell_3 hk) rfl 4 (by decide) hlink rfl hdg kk
theorem gf_4_0 (hexec : p.tables.exec = Jvm.exec) (hb : c.code = cc) (hts : ∀ w ∈ Ts, w.before args s = true) (hin : ∀ w ∈ wsX40, w ∈ Ts) (hown : s.vm.findClass own = some m.cls) (hK : va_K D vwCl (tysC cy) s) (hP : HP D cy b0 N S H) {k : Nat} (hkN : k < N) (hk : kd k = 4) {q : Nat} (hq : gR S k 0 = some q) (hlink : (Cond.fieldLink own index (TX4 0).1 (TX4 0).2.1 (TX4 0).2.2.1).before args s = true) (hdg : decode cc pc = .ok (.getfield index, 3)) (kk : W p l e R s m args below meth c H locs cells slots Q (F0 m (pc + 3) ls (.ref (b0 + q) :: rest))) : W p l e R s m args below meth c H locs cells slots Q (F0 m pc ls (.ref (b0 + k) :: rest)) := q_get (ci := 4) (r := (RX4, TX4, 13)) hexec hb hts hin hown hK hP hkN (cell_4 hk) rfl 0 (by decide) hlink (v := .ref (b0 + q)) (by rw [← rf_some hq]; rfl) hdg kk
theorem gn_4_0 (hexec : p.tables.exec = Jvm.exec) (hb : c.code = cc) (hts : ∀ w ∈ Ts, w.before args s = true) (hin : ∀ w ∈ wsX40, w ∈ Ts) (hown : s.vm.findClass own = some m.cls) (hK : va_K D vwCl (tysC cy) s) (hP : HP D cy b0 N S H) {k : Nat} (hkN : k < N) (hk : kd k = 4) (hq : gR S k 0 = none) (hlink : (Cond.fieldLink own index (TX4 0).1 (TX4 0).2.1 (TX4 0).2.2.1).before args s = true) (hdg : decode cc pc = .ok (.getfield index, 3)) (kk : W p l e R s m args below meth c H locs cells slots Q (F0 m (pc + 3) ls (.null :: rest))) : W p l e R s m args below meth c H locs cells slots Q (F0 m pc ls (.ref (b0 + k) :: rest)) := q_get (ci := 4) (r := (RX4, TX4, 13)) hexec hb hts hin hown hK hP hkN (cell_4 hk) rfl 0 (by decide) hlink (v := .null) (by rw [← rf_none (b0 := b0) hq]; rfl) hdg kk
theorem gf_4_1 (hexec : p.tables.exec = Jvm.exec) (hb : c.code = cc) (hts : ∀ w ∈ Ts, w.before args s = true) (hin : ∀ w ∈ wsX40, w ∈ Ts) (hown : s.vm.findClass own = some m.cls) (hK : va_K D vwCl (tysC cy) s) (hP : HP D cy b0 N S H) {k : Nat} (hkN : k < N) (hk : kd k = 4) {q : Nat} (hq : gR S k 1 = some q) (hlink : (Cond.fieldLink own index (TX4 1).1 (TX4 1).2.1 (TX4 1).2.2.1).before args s = true) (hdg : decode cc pc = .ok (.getfield index, 3)) (kk : W p l e R s m args below meth c H locs cells slots Q (F0 m (pc + 3) ls (.ref (b0 + q) :: rest))) : W p l e R s m args below meth c H locs cells slots Q (F0 m pc ls (.ref (b0 + k) :: rest)) := q_get (ci := 4) (r := (RX4, TX4, 13)) hexec hb hts hin hown hK hP hkN (cell_4 hk) rfl 1 (by decide) hlink (v := .ref (b0 + q)) (by rw [← rf_some hq]; rfl) hdg kk
theorem gn_4_1 (hexec : p.tables.exec = Jvm.exec) (hb : c.code = cc) (hts : ∀ w ∈ Ts, w.before args s = true) (hin : ∀ w ∈ wsX40, w ∈ Ts) (hown : s.vm.findClass own = some m.cls) (hK : va_K D vwCl (tysC cy) s) (hP : HP D cy b0 N S H) {k : Nat} (hkN : k < N) (hk : kd k = 4) (hq : gR S k 1 = none) (hlink : (Cond.fieldLink own index (TX4 1).1 (TX4 1).2.1 (TX4 1).2.2.1).before args s = true) (hdg : decode cc pc = .ok (.getfield index, 3)) (kk : W p l e R s m args below meth c H locs cells slots Q (F0 m (pc + 3) ls (.null :: rest))) : W p l e R s m args below meth c H locs cells slots Q (F0 m pc ls (.ref (b0 + k) :: rest)) := q_get (ci := 4) (r := (RX4, TX4, 13)) hexec hb hts hin hown hK hP hkN (cell_4 hk) rfl 1 (by decide) hlink (v := .null) (by rw [← rf_none (b0 := b0) hq]; rfl) hdg kk
theorem gf_4_2 (hexec : p.tables.exec = Jvm.exec) (hb : c.code = cc) (hts : ∀ w ∈ Ts, w.before args s = true) (hin : ∀ w ∈ wsX40, w ∈ Ts) (hown : s.vm.findClass own = some m.cls) (hK : va_K D vwCl (tysC cy) s) (hP : HP D cy b0 N S H) {k : Nat} (hkN : k < N) (hk : kd k = 4) {q : Nat} (hq : gR S k 2 = some q) (hlink : (Cond.fieldLink own index (TX4 2).1 (TX4 2).2.1 (TX4 2).2.2.1).before args s = true) (hdg : decode cc pc = .ok (.getfield index, 3)) (kk : W p l e R s m args below meth c H locs cells slots Q (F0 m (pc + 3) ls (.ref (b0 + q) :: rest))) : W p l e R s m args below meth c H locs cells slots Q (F0 m pc ls (.ref (b0 + k) :: rest)) := q_get (ci := 4) (r := (RX4, TX4, 13)) hexec hb hts hin hown hK hP hkN (cell_4 hk) rfl 2 (by decide) hlink (v := .ref (b0 + q)) (by rw [← rf_some hq]; rfl) hdg kk
theorem gn_4_2 (hexec : p.tables.exec = Jvm.exec) (hb : c.code = cc) (hts : ∀ w ∈ Ts, w.before args s = true) (hin : ∀ w ∈ wsX40, w ∈ Ts) (hown : s.vm.findClass own = some m.cls) (hK : va_K D vwCl (tysC cy) s) (hP : HP D cy b0 N S H) {k : Nat} (hkN : k < N) (hk : kd k = 4) (hq : gR S k 2 = none) (hlink : (Cond.fieldLink own index (TX4 2).1 (TX4 2).2.1 (TX4 2).2.2.1).before args s = true) (hdg : decode cc pc = .ok (.getfield index, 3)) (kk : W p l e R s m args below meth c H locs cells slots Q (F0 m (pc + 3) ls (.null :: rest))) : W p l e R s m args below meth c H locs cells slots Q (F0 m pc ls (.ref (b0 + k) :: rest)) := q_get (ci := 4) (r := (RX4, TX4, 13)) hexec hb hts hin hown hK hP hkN (cell_4 hk) rfl 2 (by decide) hlink (v := .null) (by rw [← rf_none (b0 := b0) hq]; rfl) hdg kk
theorem gf_4_3 (hexec : p.tables.exec = Jvm.exec) (hb : c.code = cc) (hts : ∀ w ∈ Ts, w.before args s = true) (hin : ∀ w ∈ wsX40, w ∈ Ts) (hown : s.vm.findClass own = some m.cls) (hK : va_K D vwCl (tysC cy) s) (hP : HP D cy b0 N S H) {k : Nat} (hkN : k < N) (hk : kd k = 4) {q : Nat} (hq : gR S k 3 = some q) (hlink : (Cond.fieldLink own index (TX4 3).1 (TX4 3).2.1 (TX4 3).2.2.1).before args s = true) (hdg : decode cc pc = .ok (.getfield index, 3)) (kk : W p l e R s m args below meth c H locs cells slots Q (F0 m (pc + 3) ls (.ref (b0 + q) :: rest))) : W p l e R s m args below meth c H locs cells slots Q (F0 m pc ls (.ref (b0 + k) :: rest)) := q_get (ci := 4) (r := (RX4, TX4, 13)) hexec hb hts hin hown hK hP hkN (cell_4 hk) rfl 3 (by decide) hlink (v := .ref (b0 + q)) (by rw [← rf_some hq]; rfl) hdg kk
theorem gn_4_3 (hexec : p.tables.exec = Jvm.exec) (hb : c.code = cc) (hts : ∀ w ∈ Ts, w.before args s = true) (hin : ∀ w ∈ wsX40, w ∈ Ts) (hown : s.vm.findClass own = some m.cls) (hK : va_K D vwCl (tysC cy) s) (hP : HP D cy b0 N S H) {k : Nat} (hkN : k < N) (hk : kd k = 4) (hq : gR S k 3 = none) (hlink : (Cond.fieldLink own index (TX4 3).1 (TX4 3).2.1 (TX4 3).2.2.1).before args s = true) (hdg : decode cc pc = .ok (.getfield index, 3)) (kk : W p l e R s m args below meth c H locs cells slots Q (F0 m (pc + 3) ls (.null :: rest))) : W p l e R s m args below meth c H locs cells slots Q (F0 m pc ls (.ref (b0 + k) :: rest)) := q_get (ci := 4) (r := (RX4, TX4, 13)) hexec hb hts hin hown hK hP hkN (cell_4 hk) rfl 3 (by decide) hlink (v := .null) (by rw [← rf_none (b0 := b0) hq]; rfl) hdg kk
theorem gf_4_4 (hexec : p.tables.exec = Jvm.exec) (hb : c.code = cc) (hts : ∀ w ∈ Ts, w.before args s = true) (hin : ∀ w ∈ wsX40, w ∈ Ts) (hown : s.vm.findClass own = some m.cls) (hK : va_K D vwCl (tysC cy) s) (hP : HP D cy b0 N S H) {k : Nat} (hkN : k < N) (hk : kd k = 4) (hlink : (Cond.fieldLink own index (TX4 4).1 (TX4 4).2.1 (TX4 4).2.2.1).before args s = true) (hdg : decode cc pc = .ok (.getfield index, 3)) (kk : W p l e R s m args below meth c H locs cells slots Q (F0 m (pc + 3) ls (.int (gI S k 4) :: rest))) : W p l e R s m args below meth c H locs cells slots Q (F0 m pc ls (.ref (b0 + k) :: rest)) := q_get (ci := 4) (r := (RX4, TX4, 13)) hexec hb hts hin hown hK hP hkN (cell_4 hk) rfl 4 (by decide) hlink rfl hdg kk
theorem gf_4_5 (hexec : p.tables.exec = Jvm.exec) (hb : c.code = cc) (hts : ∀ w ∈ Ts, w.before args s = true) (hin : ∀ w ∈ wsX40, w ∈ Ts) (hown : s.vm.findClass own = some m.cls) (hK : va_K D vwCl (tysC cy) s) (hP : HP D cy b0 N S H) {k : Nat} (hkN : k < N) (hk : kd k = 4) (hlink : (Cond.fieldLink own index (TX4 5).1 (TX4 5).2.1 (TX4 5).2.2.1).before args s = true) (hdg : decode cc pc = .ok (.getfield index, 3)) (kk : W p l e R s m args below meth c H locs cells slots Q (F0 m (pc + 3) ls (.int (gI S k 5) :: rest))) : W p l e R s m args below meth c H locs cells slots Q (F0 m pc ls (.ref (b0 + k) :: rest)) := q_get (ci := 4) (r := (RX4, TX4, 13)) hexec hb hts hin hown hK hP hkN (cell_4 hk) rfl 5 (by decide) hlink rfl hdg kk
theorem gf_4_6 (hexec : p.tables.exec = Jvm.exec) (hb : c.code = cc) (hts : ∀ w ∈ Ts, w.before args s = true) (hin : ∀ w ∈ wsX40, w ∈ Ts) (hown : s.vm.findClass own = some m.cls) (hK : va_K D vwCl (tysC cy) s) (hP : HP D cy b0 N S H) {k : Nat} (hkN : k < N) (hk : kd k = 4) (hlink : (Cond.fieldLink own index (TX4 6).1 (TX4 6).2.1 (TX4 6).2.2.1).before args s = true) (hdg : decode cc pc = .ok (.getfield index, 3)) (kk : W p l e R s m args below meth c H locs cells slots Q (F0 m (pc + 3) ls (.int (gI S k 6) :: rest))) : W p l e R s m args below meth c H locs cells slots Q (F0 m pc ls (.ref (b0 + k) :: rest)) := q_get (ci := 4) (r := (RX4, TX4, 13)) hexec hb hts hin hown hK hP hkN (cell_4 hk) rfl 6 (by decide) hlink rfl hdg kk
theorem gf_4_7 (hexec : p.tables.exec = Jvm.exec) (hb : c.code = cc) (hts : ∀ w ∈ Ts, w.before args s = true) (hin : ∀ w ∈ wsX40, w ∈ Ts) (hown : s.vm.findClass own = some m.cls) (hK : va_K D vwCl (tysC cy) s) (hP : HP D cy b0 N S H) {k : Nat} (hkN : k < N) (hk : kd k = 4) {q : Nat} (hq : gR S k 7 = some q) (hlink : (Cond.fieldLink own index (TX4 7).1 (TX4 7).2.1 (TX4 7).2.2.1).before args s = true) (hdg : decode cc pc = .ok (.getfield index, 3)) (kk : W p l e R s m args below meth c H locs cells slots Q (F0 m (pc + 3) ls (.ref (b0 + q) :: rest))) : W p l e R s m args below meth c H locs cells slots Q (F0 m pc ls (.ref (b0 + k) :: rest)) := q_get (ci := 4) (r := (RX4, TX4, 13)) hexec hb hts hin hown hK hP hkN (cell_4 hk) rfl 7 (by decide) hlink (v := .ref (b0 + q)) (by rw [← rf_some hq]; rfl) hdg kk
theorem gn_4_7 (hexec : p.tables.exec = Jvm.exec) (hb : c.code = cc) (hts : ∀ w ∈ Ts, w.before args s = true) (hin : ∀ w ∈ wsX40, w ∈ Ts) (hown : s.vm.findClass own = some m.cls) (hK : va_K D vwCl (tysC cy) s) (hP : HP D cy b0 N S H) {k : Nat} (hkN : k < N) (hk : kd k = 4) (hq : gR S k 7 = none) (hlink : (Cond.fieldLink own index (TX4 7).1 (TX4 7).2.1 (TX4 7).2.2.1).before args s = true) (hdg : decode cc pc = .ok (.getfield index, 3)) (kk : W p l e R s m args below meth c H locs cells slots Q (F0 m (pc + 3) ls (.null :: rest))) : W p l e R s m args below meth c H locs cells slots Q (F0 m pc ls (.ref (b0 + k) :: rest)) := q_get (ci := 4) (r := (RX4, TX4, 13)) hexec hb hts hin hown hK hP hkN (cell_4 hk) rfl 7 (by decide) hlink (v := .null) (by rw [← rf_none (b0 := b0) hq]; rfl) hdg kk
theorem gf_4_8 (hexec : p.tables.exec = Jvm.exec) (hb : c.code = cc) (hts : ∀ w ∈ Ts, w.before args s = true) (hin : ∀ w ∈ wsX40, w ∈ Ts) (hown : s.vm.findClass own = some m.cls) (hK : va_K D vwCl (tysC cy) s) (hP : HP D cy b0 N S H) {k : Nat} (hkN : k < N) (hk : kd k = 4) {q : Nat} (hq : gR S k 8 = some q) (hlink : (Cond.fieldLink own index (TX4 8).1 (TX4 8).2.1 (TX4 8).2.2.1).before args s = true) (hdg : decode cc pc = .ok (.getfield index, 3)) (kk : W p l e R s m args below meth c H locs cells slots Q (F0 m (pc + 3) ls (.ref (b0 + q) :: rest))) : W p l e R s m args below meth c H locs cells slots Q (F0 m pc ls (.ref (b0 + k) :: rest)) := q_get (ci := 4) (r := (RX4, TX4, 13)) hexec hb hts hin hown hK hP hkN (cell_4 hk) rfl 8 (by decide) hlink (v := .ref (b0 + q)) (by rw [← rf_some hq]; rfl) hdg kk
theorem gn_4_8 (hexec : p.tables.exec = Jvm.exec) (hb : c.code = cc) (hts : ∀ w ∈ Ts, w.before args s = true) (hin : ∀ w ∈ wsX40, w ∈ Ts) (hown : s.vm.findClass own = some m.cls) (hK : va_K D vwCl (tysC cy) s) (hP : HP D cy b0 N S H) {k : Nat} (hkN : k < N) (hk : kd k = 4) (hq : gR S k 8 = none) (hlink : (Cond.fieldLink own index (TX4 8).1 (TX4 8).2.1 (TX4 8).2.2.1).before args s = true) (hdg : decode cc pc = .ok (.getfield index, 3)) (kk : W p l e R s m args below meth c H locs cells slots Q (F0 m (pc + 3) ls (.null :: rest))) : W p l e R s m args below meth c H locs cells slots Q (F0 m pc ls (.ref (b0 + k) :: rest)) := q_get (ci := 4) (r := (RX4, TX4, 13)) hexec hb hts hin hown hK hP hkN (cell_4 hk) rfl 8 (by decide) hlink (v := .null) (by rw [← rf_none (b0 := b0) hq]; rfl) hdg kk
theorem gf_4_9 (hexec : p.tables.exec = Jvm.exec) (hb : c.code = cc) (hts : ∀ w ∈ Ts, w.before args s = true) (hin : ∀ w ∈ wsX40, w ∈ Ts) (hown : s.vm.findClass own = some m.cls) (hK : va_K D vwCl (tysC cy) s) (hP : HP D cy b0 N S H) {k : Nat} (hkN : k < N) (hk : kd k = 4) {q : Nat} (hq : gR S k 9 = some q) (hlink : (Cond.fieldLink own index (TX4 9).1 (TX4 9).2.1 (TX4 9).2.2.1).before args s = true) (hdg : decode cc pc = .ok (.getfield index, 3)) (kk : W p l e R s m args below meth c H locs cells slots Q (F0 m (pc + 3) ls (.ref (b0 + q) :: rest))) : W p l e R s m args below meth c H locs cells slots Q (F0 m pc ls (.ref (b0 + k) :: rest)) := q_get (ci := 4) (r := (RX4, TX4, 13)) hexec hb hts hin hown hK hP hkN (cell_4 hk) rfl 9 (by decide) hlink (v := .ref (b0 + q)) (by rw [← rf_some hq]; rfl) hdg kk
theorem gn_4_9 (hexec : p.tables.exec = Jvm.exec) (hb : c.code = cc) (hts : ∀ w ∈ Ts, w.before args s = true) (hin : ∀ w ∈ wsX40, w ∈ Ts) (hown : s.vm.findClass own = some m.cls) (hK : va_K D vwCl (tysC cy) s) (hP : HP D cy b0 N S H) {k : Nat} (hkN : k < N) (hk : kd k = 4) (hq : gR S k 9 = none) (hlink : (Cond.fieldLink own index (TX4 9).1 (TX4 9).2.1 (TX4 9).2.2.1).before args s = true) (hdg : decode cc pc = .ok (.getfield index, 3)) (kk : W p l e R s m args below meth c H locs cells slots Q (F0 m (pc + 3) ls (.null :: rest))) : W p l e R s m args below meth c H locs cells slots Q (F0 m pc ls (.ref (b0 + k) :: rest)) := q_get (ci := 4) (r := (RX4, TX4, 13)) hexec hb hts hin hown hK hP hkN (cell_4 hk) rfl 9 (by decide) hlink (v := .null) (by rw [← rf_none (b0 := b0) hq]; rfl) hdg kk
theorem gf_4_10 (hexec : p.tables.exec = Jvm.exec) (hb : c.code = cc) (hts : ∀ w ∈ Ts, w.before args s = true) (hin : ∀ w ∈ wsX40, w ∈ Ts) (hown : s.vm.findClass own = some m.cls) (hK : va_K D vwCl (tysC cy) s) (hP : HP D cy b0 N S H) {k : Nat} (hkN : k < N) (hk : kd k = 4) {q : Nat} (hq : gR S k 10 = some q) (hlink : (Cond.fieldLink own index (TX4 10).1 (TX4 10).2.1 (TX4 10).2.2.1).before args s = true) (hdg : decode cc pc = .ok (.getfield index, 3)) (kk : W p l e R s m args below meth c H locs cells slots Q (F0 m (pc + 3) ls (.ref (b0 + q) :: rest))) : W p l e R s m args below meth c H locs cells slots Q (F0 m pc ls (.ref (b0 + k) :: rest)) := q_get (ci := 4) (r := (RX4, TX4, 13)) hexec hb hts hin hown hK hP hkN (cell_4 hk) rfl 10 (by decide) hlink (v := .ref (b0 + q)) (by rw [← rf_some hq]; rfl) hdg kk
theorem gn_4_10 (hexec : p.tables.exec = Jvm.exec) (hb : c.code = cc) (hts : ∀ w ∈ Ts, w.before args s = true) (hin : ∀ w ∈ wsX40, w ∈ Ts) (hown : s.vm.findClass own = some m.cls) (hK : va_K D vwCl (tysC cy) s) (hP : HP D cy b0 N S H) {k : Nat} (hkN : k < N) (hk : kd k = 4) (hq : gR S k 10 = none) (hlink : (Cond.fieldLink own index (TX4 10).1 (TX4 10).2.1 (TX4 10).2.2.1).before args s = true) (hdg : decode cc pc = .ok (.getfield index, 3)) (kk : W p l e R s m args below meth c H locs cells slots Q (F0 m (pc + 3) ls (.null :: rest))) : W p l e R s m args below meth c H locs cells slots Q (F0 m pc ls (.ref (b0 + k) :: rest)) := q_get (ci := 4) (r := (RX4, TX4, 13)) hexec hb hts hin hown hK hP hkN (cell_4 hk) rfl 10 (by decide) hlink (v := .null) (by rw [← rf_none (b0 := b0) hq]; rfl) hdg kk
theorem gf_4_11 (hexec : p.tables.exec = Jvm.exec) (hb : c.code = cc) (hts : ∀ w ∈ Ts, w.before args s = true) (hin : ∀ w ∈ wsX40, w ∈ Ts) (hown : s.vm.findClass own = some m.cls) (hK : va_K D vwCl (tysC cy) s) (hP : HP D cy b0 N S H) {k : Nat} (hkN : k < N) (hk : kd k = 4) {q : Nat} (hq : gR S k 11 = some q) (hlink : (Cond.fieldLink own index (TX4 11).1 (TX4 11).2.1 (TX4 11).2.2.1).before args s = true) (hdg : decode cc pc = .ok (.getfield index, 3)) (kk : W p l e R s m args below meth c H locs cells slots Q (F0 m (pc + 3) ls (.ref (b0 + q) :: rest))) : W p l e R s m args below meth c H locs cells slots Q (F0 m pc ls (.ref (b0 + k) :: rest)) := q_get (ci := 4) (r := (RX4, TX4, 13)) hexec hb hts hin hown hK hP hkN (cell_4 hk) rfl 11 (by decide) hlink (v := .ref (b0 + q)) (by rw [← rf_some hq]; rfl) hdg kk
theorem gn_4_11 (hexec : p.tables.exec = Jvm.exec) (hb : c.code = cc) (hts : ∀ w ∈ Ts, w.before args s = true) (hin : ∀ w ∈ wsX40, w ∈ Ts) (hown : s.vm.findClass own = some m.cls) (hK : va_K D vwCl (tysC cy) s) (hP : HP D cy b0 N S H) {k : Nat} (hkN : k < N) (hk : kd k = 4) (hq : gR S k 11 = none) (hlink : (Cond.fieldLink own index (TX4 11).1 (TX4 11).2.1 (TX4 11).2.2.1).before args s = true) (hdg : decode cc pc = .ok (.getfield index, 3)) (kk : W p l e R s m args below meth c H locs cells slots Q (F0 m (pc + 3) ls (.null :: rest))) : W p l e R s m args below meth c H locs cells slots Q (F0 m pc ls (.ref (b0 + k) :: rest)) := q_get (ci := 4) (r := (RX4, TX4, 13)) hexec hb hts hin hown hK hP hkN (cell_4 hk) rfl 11 (by decide) hlink (v := .null) (by rw [← rf_none (b0 := b0) hq]; rfl) hdg kk
theorem gf_4_12 (hexec : p.tables.exec = Jvm.exec) (hb : c.code = cc) (hts : ∀ w ∈ Ts, w.before args s = true) (hin : ∀ w ∈ wsX40, w ∈ Ts) (hown : s.vm.findClass own = some m.cls) (hK : va_K D vwCl (tysC cy) s) (hP : HP D cy b0 N S H) {k : Nat} (hkN : k < N) (hk : kd k = 4) (hlink : (Cond.fieldLink own index (TX4 12).1 (TX4 12).2.1 (TX4 12).2.2.1).before args s = true) (hdg : decode cc pc = .ok (.getfield index, 3)) (kk : W p l e R s m args below meth c H locs cells slots Q (F0 m (pc + 3) ls (.int (gI S k 12) :: rest))) : W p l e R s m args below meth c H locs cells slots Q (F0 m pc ls (.ref (b0 + k) :: rest)) := q_get (ci := 4) (r := (RX4, TX4, 13)) hexec hb hts hin hown hK hP hkN (cell_4 hk) rfl 12 (by decide) hlink rfl hdg kk
theorem gf_5_0 (hexec : p.tables.exec = Jvm.exec) (hb : c.code = cc) (hts : ∀ w ∈ Ts, w.before args s = true) (hin : ∀ w ∈ wsX50, w ∈ Ts) (hown : s.vm.findClass own = some m.cls) (hK : va_K D vwCl (tysC cy) s) (hP : HP D cy b0 N S H) {k : Nat} (hkN : k < N) (hk : kd k = 5) {q : Nat} (hq : gR S k 0 = some q) (hlink : (Cond.fieldLink own index (TX5 0).1 (TX5 0).2.1 (TX5 0).2.2.1).before args s = true) (hdg : decode cc pc = .ok (.getfield index, 3)) (kk : W p l e R s m args below meth c H locs cells slots Q (F0 m (pc + 3) ls (.ref (b0 + q) :: rest))) : W p l e R s m args below meth c H locs cells slots Q (F0 m pc ls (.ref (b0 + k) :: rest)) := q_get (ci := 5) (r := (RX5, TX5, 8)) hexec hb hts hin hown hK hP hkN (cell_5 hk) rfl 0 (by decide) hlink (v := .ref (b0 + q)) (by rw [← rf_some hq]; rfl) hdg kk
theorem gn_5_0 (hexec : p.tables.exec = Jvm.exec) (hb : c.code = cc) (hts : ∀ w ∈ Ts, w.before args s = true) (hin : ∀ w ∈ wsX50, w ∈ Ts) (hown : s.vm.findClass own = some m.cls) (hK : va_K D vwCl (tysC cy) s) (hP : HP D cy b0 N S H) {k : Nat} (hkN : k < N) (hk : kd k = 5) (hq : gR S k 0 = none) (hlink : (Cond.fieldLink own index (TX5 0).1 (TX5 0).2.1 (TX5 0).2.2.1).before args s = true) (hdg : decode cc pc = .ok (.getfield index, 3)) (kk : W p l e R s m args below meth c H locs cells slots Q (F0 m (pc + 3) ls (.null :: rest))) : W p l e R s m args below meth c H locs cells slots Q (F0 m pc ls (.ref (b0 + k) :: rest)) := q_get (ci := 5) (r := (RX5, TX5, 8)) hexec hb hts hin hown hK hP hkN (cell_5 hk) rfl 0 (by decide) hlink (v := .null) (by rw [← rf_none (b0 := b0) hq]; rfl) hdg kk
theorem gf_5_1 (hexec : p.tables.exec = Jvm.exec) (hb : c.code = cc) (hts : ∀ w ∈ Ts, w.before args s = true) (hin : ∀ w ∈ wsX50, w ∈ Ts) (hown : s.vm.findClass own = some m.cls) (hK : va_K D vwCl (tysC cy) s) (hP : HP D cy b0 N S H) {k : Nat} (hkN : k < N) (hk : kd k = 5) {q : Nat} (hq : gR S k 1 = some q) (hlink : (Cond.fieldLink own index (TX5 1).1 (TX5 1).2.1 (TX5 1).2.2.1).before args s = true) (hdg : decode cc pc = .ok (.getfield index, 3)) (kk : W p l e R s m args below meth c H locs cells slots Q (F0 m (pc + 3) ls (.ref (b0 + q) :: rest))) : W p l e R s m args below meth c H locs cells slots Q (F0 m pc ls (.ref (b0 + k) :: rest)) := q_get (ci := 5) (r := (RX5, TX5, 8)) hexec hb hts hin hown hK hP hkN (cell_5 hk) rfl 1 (by decide) hlink (v := .ref (b0 + q)) (by rw [← rf_some hq]; rfl) hdg kk
theorem gn_5_1 (hexec : p.tables.exec = Jvm.exec) (hb : c.code = cc) (hts : ∀ w ∈ Ts, w.before args s = true) (hin : ∀ w ∈ wsX50, w ∈ Ts) (hown : s.vm.findClass own = some m.cls) (hK : va_K D vwCl (tysC cy) s) (hP : HP D cy b0 N S H) {k : Nat} (hkN : k < N) (hk : kd k = 5) (hq : gR S k 1 = none) (hlink : (Cond.fieldLink own index (TX5 1).1 (TX5 1).2.1 (TX5 1).2.2.1).before args s = true) (hdg : decode cc pc = .ok (.getfield index, 3)) (kk : W p l e R s m args below meth c H locs cells slots Q (F0 m (pc + 3) ls (.null :: rest))) : W p l e R s m args below meth c H locs cells slots Q (F0 m pc ls (.ref (b0 + k) :: rest)) := q_get (ci := 5) (r := (RX5, TX5, 8)) hexec hb hts hin hown hK hP hkN (cell_5 hk) rfl 1 (by decide) hlink (v := .null) (by rw [← rf_none (b0 := b0) hq]; rfl) hdg kk
theorem gf_5_2 (hexec : p.tables.exec = Jvm.exec) (hb : c.code = cc) (hts : ∀ w ∈ Ts, w.before args s = true) (hin : ∀ w ∈ wsX50, w ∈ Ts) (hown : s.vm.findClass own = some m.cls) (hK : va_K D vwCl (tysC cy) s) (hP : HP D cy b0 N S H) {k : Nat} (hkN : k < N) (hk : kd k = 5) {q : Nat} (hq : gR S k 2 = some q) (hlink : (Cond.fieldLink own index (TX5 2).1 (TX5 2).2.1 (TX5 2).2.2.1).before args s = true) (hdg : decode cc pc = .ok (.getfield index, 3)) (kk : W p l e R s m args below meth c H locs cells slots Q (F0 m (pc + 3) ls (.ref (b0 + q) :: rest))) : W p l e R s m args below meth c H locs cells slots Q (F0 m pc ls (.ref (b0 + k) :: rest)) := q_get (ci := 5) (r := (RX5, TX5, 8)) hexec hb hts hin hown hK hP hkN (cell_5 hk) rfl 2 (by decide) hlink (v := .ref (b0 + q)) (by rw [← rf_some hq]; rfl) hdg kk
theorem gn_5_2 (hexec : p.tables.exec = Jvm.exec) (hb : c.code = cc) (hts : ∀ w ∈ Ts, w.before args s = true) (hin : ∀ w ∈ wsX50, w ∈ Ts) (hown : s.vm.findClass own = some m.cls) (hK : va_K D vwCl (tysC cy) s) (hP : HP D cy b0 N S H) {k : Nat} (hkN : k < N) (hk : kd k = 5) (hq : gR S k 2 = none) (hlink : (Cond.fieldLink own index (TX5 2).1 (TX5 2).2.1 (TX5 2).2.2.1).before args s = true) (hdg : decode cc pc = .ok (.getfield index, 3)) (kk : W p l e R s m args below meth c H locs cells slots Q (F0 m (pc + 3) ls (.null :: rest))) : W p l e R s m args below meth c H locs cells slots Q (F0 m pc ls (.ref (b0 + k) :: rest)) := q_get (ci := 5) (r := (RX5, TX5, 8)) hexec hb hts hin hown hK hP hkN (cell_5 hk) rfl 2 (by decide) hlink (v := .null) (by rw [← rf_none (b0 := b0) hq]; rfl) hdg kk
theorem gf_5_3 (hexec : p.tables.exec = Jvm.exec) (hb : c.code = cc) (hts : ∀ w ∈ Ts, w.before args s = true) (hin : ∀ w ∈ wsX50, w ∈ Ts) (hown : s.vm.findClass own = some m.cls) (hK : va_K D vwCl (tysC cy) s) (hP : HP D cy b0 N S H) {k : Nat} (hkN : k < N) (hk : kd k = 5) {q : Nat} (hq : gR S k 3 = some q) (hlink : (Cond.fieldLink own index (TX5 3).1 (TX5 3).2.1 (TX5 3).2.2.1).before args s = true) (hdg : decode cc pc = .ok (.getfield index, 3)) (kk : W p l e R s m args below meth c H locs cells slots Q (F0 m (pc + 3) ls (.ref (b0 + q) :: rest))) : W p l e R s m args below meth c H locs cells slots Q (F0 m pc ls (.ref (b0 + k) :: rest)) := q_get (ci := 5) (r := (RX5, TX5, 8)) hexec hb hts hin hown hK hP hkN (cell_5 hk) rfl 3 (by decide) hlink (v := .ref (b0 + q)) (by rw [← rf_some hq]; rfl) hdg kk
theorem gn_5_3 (hexec : p.tables.exec = Jvm.exec) (hb : c.code = cc) (hts : ∀ w ∈ Ts, w.before args s = true) (hin : ∀ w ∈ wsX50, w ∈ Ts) (hown : s.vm.findClass own = some m.cls) (hK : va_K D vwCl (tysC cy) s) (hP : HP D cy b0 N S H) {k : Nat} (hkN : k < N) (hk : kd k = 5) (hq : gR S k 3 = none) (hlink : (Cond.fieldLink own index (TX5 3).1 (TX5 3).2.1 (TX5 3).2.2.1).before args s = true) (hdg : decode cc pc = .ok (.getfield index, 3)) (kk : W p l e R s m args below meth c H locs cells slots Q (F0 m (pc + 3) ls (.null :: rest))) : W p l e R s m args below meth c H locs cells slots Q (F0 m pc ls (.ref (b0 + k) :: rest)) := q_get (ci := 5) (r := (RX5, TX5, 8)) hexec hb hts hin hown hK hP hkN (cell_5 hk) rfl 3 (by decide) hlink (v := .null) (by rw [← rf_none (b0 := b0) hq]; rfl) hdg kk
theorem gf_5_4 (hexec : p.tables.exec = Jvm.exec) (hb : c.code = cc) (hts : ∀ w ∈ Ts, w.before args s = true) (hin : ∀ w ∈ wsX50, w ∈ Ts) (hown : s.vm.findClass own = some m.cls) (hK : va_K D vwCl (tysC cy) s) (hP : HP D cy b0 N S H) {k : Nat} (hkN : k < N) (hk : kd k = 5) (hlink : (Cond.fieldLink own index (TX5 4).1 (TX5 4).2.1 (TX5 4).2.2.1).before args s = true) (hdg : decode cc pc = .ok (.getfield index, 3)) (kk : W p l e R s m args below meth c H locs cells slots Q (F0 m (pc + 3) ls (.int (gI S k 4) :: rest))) : W p l e R s m args below meth c H locs cells slots Q (F0 m pc ls (.ref (b0 + k) :: rest)) := q_get (ci := 5) (r := (RX5, TX5, 8)) hexec hb hts hin hown hK hP hkN (cell_5 hk) rfl 4 (by decide) hlink rfl hdg kk
theorem gf_5_5 (hexec : p.tables.exec = Jvm.exec) (hb : c.code = cc) (hts : ∀ w ∈ Ts, w.before args s = true) (hin : ∀ w ∈ wsX50, w ∈ Ts) (hown : s.vm.findClass own = some m.cls) (hK : va_K D vwCl (tysC cy) s) (hP : HP D cy b0 N S H) {k : Nat} (hkN : k < N) (hk : kd k = 5) {q : Nat} (hq : gR S k 5 = some q) (hlink : (Cond.fieldLink own index (TX5 5).1 (TX5 5).2.1 (TX5 5).2.2.1).before args s = true) (hdg : decode cc pc = .ok (.getfield index, 3)) (kk : W p l e R s m args below meth c H locs cells slots Q (F0 m (pc + 3) ls (.ref (b0 + q) :: rest))) : W p l e R s m args below meth c H locs cells slots Q (F0 m pc ls (.ref (b0 + k) :: rest)) := q_get (ci := 5) (r := (RX5, TX5, 8)) hexec hb hts hin hown hK hP hkN (cell_5 hk) rfl 5 (by decide) hlink (v := .ref (b0 + q)) (by rw [← rf_some hq]; rfl) hdg kk
theorem gn_5_5 (hexec : p.tables.exec = Jvm.exec) (hb : c.code = cc) (hts : ∀ w ∈ Ts, w.before args s = true) (hin : ∀ w ∈ wsX50, w ∈ Ts) (hown : s.vm.findClass own = some m.cls) (hK : va_K D vwCl (tysC cy) s) (hP : HP D cy b0 N S H) {k : Nat} (hkN : k < N) (hk : kd k = 5) (hq : gR S k 5 = none) (hlink : (Cond.fieldLink own index (TX5 5).1 (TX5 5).2.1 (TX5 5).2.2.1).before args s = true) (hdg : decode cc pc = .ok (.getfield index, 3)) (kk : W p l e R s m args below meth c H locs cells slots Q (F0 m (pc + 3) ls (.null :: rest))) : W p l e R s m args below meth c H locs cells slots Q (F0 m pc ls (.ref (b0 + k) :: rest)) := q_get (ci := 5) (r := (RX5, TX5, 8)) hexec hb hts hin hown hK hP hkN (cell_5 hk) rfl 5 (by decide) hlink (v := .null) (by rw [← rf_none (b0 := b0) hq]; rfl) hdg kk
theorem gf_5_6 (hexec : p.tables.exec = Jvm.exec) (hb : c.code = cc) (hts : ∀ w ∈ Ts, w.before args s = true) (hin : ∀ w ∈ wsX50, w ∈ Ts) (hown : s.vm.findClass own = some m.cls) (hK : va_K D vwCl (tysC cy) s) (hP : HP D cy b0 N S H) {k : Nat} (hkN : k < N) (hk : kd k = 5) {q : Nat} (hq : gR S k 6 = some q) (hlink : (Cond.fieldLink own index (TX5 6).1 (TX5 6).2.1 (TX5 6).2.2.1).before args s = true) (hdg : decode cc pc = .ok (.getfield index, 3)) (kk : W p l e R s m args below meth c H locs cells slots Q (F0 m (pc + 3) ls (.ref (b0 + q) :: rest))) : W p l e R s m args below meth c H locs cells slots Q (F0 m pc ls (.ref (b0 + k) :: rest)) := q_get (ci := 5) (r := (RX5, TX5, 8)) hexec hb hts hin hown hK hP hkN (cell_5 hk) rfl 6 (by decide) hlink (v := .ref (b0 + q)) (by rw [← rf_some hq]; rfl) hdg kk
theorem gn_5_6 (hexec : p.tables.exec = Jvm.exec) (hb : c.code = cc) (hts : ∀ w ∈ Ts, w.before args s = true) (hin : ∀ w ∈ wsX50, w ∈ Ts) (hown : s.vm.findClass own = some m.cls) (hK : va_K D vwCl (tysC cy) s) (hP : HP D cy b0 N S H) {k : Nat} (hkN : k < N) (hk : kd k = 5) (hq : gR S k 6 = none) (hlink : (Cond.fieldLink own index (TX5 6).1 (TX5 6).2.1 (TX5 6).2.2.1).before args s = true) (hdg : decode cc pc = .ok (.getfield index, 3)) (kk : W p l e R s m args below meth c H locs cells slots Q (F0 m (pc + 3) ls (.null :: rest))) : W p l e R s m args below meth c H locs cells slots Q (F0 m pc ls (.ref (b0 + k) :: rest)) := q_get (ci := 5) (r := (RX5, TX5, 8)) hexec hb hts hin hown hK hP hkN (cell_5 hk) rfl 6 (by decide) hlink (v := .null) (by rw [← rf_none (b0 := b0) hq]; rfl) hdg kk
theorem gf_5_7 (hexec : p.tables.exec = Jvm.exec) (hb : c.code = cc) (hts : ∀ w ∈ Ts, w.before args s = true) (hin : ∀ w ∈ wsX50, w ∈ Ts) (hown : s.vm.findClass own = some m.cls) (hK : va_K D vwCl (tysC cy) s) (hP : HP D cy b0 N S H) {k : Nat} (hkN : k < N) (hk : kd k = 5) (hlink : (Cond.fieldLink own index (TX5 7).1 (TX5 7).2.1 (TX5 7).2.2.1).before args s = true) (hdg : decode cc pc = .ok (.getfield index, 3)) (kk : W p l e R s m args below meth c H locs cells slots Q (F0 m (pc + 3) ls (.int (gI S k 7) :: rest))) : W p l e R s m args below meth c H locs cells slots Q (F0 m pc ls (.ref (b0 + k) :: rest)) := q_get (ci := 5) (r := (RX5, TX5, 8)) hexec hb hts hin hown hK hP hkN (cell_5 hk) rfl 7 (by decide) hlink rfl hdg kk
end QF
