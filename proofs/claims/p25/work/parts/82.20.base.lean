/-! THE PURE LAYER: numbers and sets of bits -/
theorem n_0 : (0 : Int32) = nI 0 := rfl
theorem n_1 : (1 : Int32) = nI 1 := rfl
theorem n_2 : (2 : Int32) = nI 2 := rfl
theorem n_3 : (3 : Int32) = nI 3 := rfl
theorem n_7 : (7 : Int32) = nI 7 := rfl
theorem n_8 : (8 : Int32) = nI 8 := rfl
theorem n_9 : (9 : Int32) = nI 9 := rfl
theorem n_10 : (10 : Int32) = nI 10 := rfl
theorem n_12 : (12 : Int32) = nI 12 := rfl
theorem n_14 : (14 : Int32) = nI 14 := rfl
theorem n_18 : (18 : Int32) = nI 18 := rfl
theorem n_20 : (20 : Int32) = nI 20 := rfl
theorem n_60 : (60 : Int32) = nI 60 := rfl
theorem n_112 : (112 : Int32) = nI 112 := rfl
theorem n_162 : (162 : Int32) = nI 162 := rfl
theorem n_255 : (255 : Int32) = nI 255 := rfl
theorem n_1000 : (1000 : Int32) = nI 1000 := rfl
/-- below 2^31 -/
theorem n_sub {a b : Nat} (h : b ≤ a) : nI a - nI b = nI (a - b) := by
  have e : nI a = nI (a - b) + nI b := by rw [nI_add, Nat.sub_add_cancel h]
  rw [e]
  generalize nI (a - b) = x
  generalize nI b = y
  exact Int32.add_sub_cancel x y
theorem n_mul (a b : Nat) : nI a * nI b = nI (a * b) := by
  apply Int32.toBitVec_inj.1
  show BitVec.ofNat 32 a * BitVec.ofNat 32 b = BitVec.ofNat 32 (a * b)
  apply BitVec.eq_of_toNat_eq
  simp [Nat.mul_mod]
theorem n_and (a b : Nat) : nI a &&& nI b = nI (a &&& b) := by
  apply Int32.toBitVec_inj.1
  show BitVec.ofNat 32 a &&& BitVec.ofNat 32 b = BitVec.ofNat 32 (a &&& b)
  apply BitVec.eq_of_getLsbD_eq
  intro i hi
  simp [hi]
theorem n_or (a b : Nat) : nI a ||| nI b = nI (a ||| b) := by
  apply Int32.toBitVec_inj.1
  show BitVec.ofNat 32 a ||| BitVec.ofNat 32 b = BitVec.ofNat 32 (a ||| b)
  apply BitVec.eq_of_getLsbD_eq
  intro i hi
  simp [hi]
theorem n_xor (a b : Nat) : nI a ^^^ nI b = nI (a ^^^ b) := by
  apply Int32.toBitVec_inj.1
  show BitVec.ofNat 32 a ^^^ BitVec.ofNat 32 b = BitVec.ofNat 32 (a ^^^ b)
  apply BitVec.eq_of_getLsbD_eq
  intro i hi
  simp [hi]
theorem n_sl : ∀ n, n < 32 → ((nI n &&& 31).toBitVec.smod 32).toNat = n := by decide +kernel
theorem n_shl {i : Nat} (hi : i < 32) (a : Nat) : nI a <<< (nI i &&& 31) = nI (a <<< i) := by
  apply Int32.toBitVec_inj.1
  rw [Int32.toBitVec_shiftLeft]
  show BitVec.ofNat 32 a <<< ((nI i &&& 31).toBitVec.smod 32).toNat = BitVec.ofNat 32 (a <<< i)
  rw [n_sl i hi]
  apply BitVec.eq_of_toNat_eq
  simp [Nat.shiftLeft_eq, Nat.mul_mod]
theorem n_one {i : Nat} (hi : i < 32) : (1 : Int32) <<< (nI i &&& 31) = nI (2 ^ i) := by
  rw [n_1, n_shl hi, Nat.one_shiftLeft]
theorem n_shr {m i : Nat} (hm : m < 2 ^ 31) (hi : i < 32) : nI m >>> (nI i &&& 31) = nI (m >>> i) := by
  apply Int32.toBitVec_inj.1
  rw [Int32.toBitVec_shiftRight]
  show (BitVec.ofNat 32 m).sshiftRight ((nI i &&& 31).toBitVec.smod 32).toNat = BitVec.ofNat 32 (m >>> i)
  rw [n_sl i hi]
  have hmsb : (BitVec.ofNat 32 m).msb = false := by
    rw [BitVec.msb_eq_decide]
    simp only [BitVec.toNat_ofNat, decide_eq_false_iff_not]
    omega
  rw [BitVec.sshiftRight_eq_of_msb_false hmsb]
  apply BitVec.eq_of_toNat_eq
  have h1 : m >>> i ≤ m := by rw [Nat.shiftRight_eq_div_pow]; exact Nat.div_le_self _ _
  simp
  rw [Nat.mod_eq_of_lt (by omega), Nat.mod_eq_of_lt (by omega)]
theorem n_bit {m i : Nat} (hm : m < 2 ^ 31) (hi : i < 32) : (nI m >>> (nI i &&& 31)) &&& 1 = nI (m.testBit i).toNat := by
  rw [n_shr hm hi, n_1, n_and, Nat.and_one_is_mod, Nat.shiftRight_eq_div_pow]
  congr 1
  rw [Nat.testBit_eq_decide_div_mod_eq]
  generalize m / 2 ^ i = z
  rcases Nat.mod_two_eq_zero_or_one z with h | h <;> simp [h]
theorem n_bit0 {m i : Nat} (hm : m < 2 ^ 31) (hi : i < 32) : ((nI m >>> (nI i &&& 31)) &&& 1 = 0) ↔ m.testBit i = false := by
  rw [n_bit hm hi]
  cases m.testBit i
  · exact ⟨fun _ => rfl, fun _ => rfl⟩
  · exact ⟨fun h => absurd h (by decide), fun h => by cases h⟩
theorem n_bit1 {m i : Nat} (hm : m < 2 ^ 31) (hi : i < 32) : ((nI m >>> (nI i &&& 31)) &&& 1 = 1) ↔ m.testBit i = true := by
  rw [n_bit hm hi]
  cases m.testBit i
  · exact ⟨fun h => absurd h (by decide), fun h => by cases h⟩
  · exact ⟨fun _ => rfl, fun _ => rfl⟩
theorem n_eq0 {m : Nat} (hm : m < 2 ^ 31) : nI m = 0 ↔ m = 0 := by rw [n_0, nI_eq hm (by omega)]
theorem n_div {a b : Nat} (ha : a < 2 ^ 31) (hb : b < 2 ^ 31) : nI a / nI b = nI (a / b) := by
  apply Int32.toInt_inj.1
  have hd : a / b ≤ a := Nat.div_le_self _ _
  rw [Int32.toInt_div, nI_toInt ha, nI_toInt hb, nI_toInt (by omega)]
  rw [← Int.ofNat_tdiv]
  generalize hq : a / b = q at *
  have : ((q : Nat) : Int).bmod (2 ^ 32) = ((q : Nat) : Int) := by
    apply Int.bmod_eq_of_le <;> omega
  exact this
theorem n_rem {a b : Nat} (ha : a < 2 ^ 31) (hb : b < 2 ^ 31) : nI a - nI a / nI b * nI b = nI (a % b) := by
  rw [n_div ha hb, n_mul, n_sub (Nat.div_mul_le_self a b)]
  congr 1
  have := Nat.div_add_mod a b
  rw [Nat.mul_comm] at this
  omega
theorem n_d10 {a : Nat} (ha : a < 2 ^ 31) : nI a / 10 = nI (a / 10) := by rw [n_10, n_div ha (by omega)]
theorem n_r10 {a : Nat} (ha : a < 2 ^ 31) : nI a - nI a / 10 * 10 = nI (a % 10) := by rw [n_10, n_rem ha (by omega)]
theorem n_m1 (n : Nat) (h : 0 < n) : nI n + (-1) = nI (n - 1) := by
  have : nI n = nI (n - 1) + 1 := by rw [nI_1, Nat.sub_add_cancel h]
  rw [this, Int32.add_assoc, show (1 : Int32) + (-1) = 0 by decide, Int32.add_zero]
theorem n_notand (a b : Nat) (ha : a < 2 ^ 31) : nI a &&& (nI b ^^^ (-1)) = nI (a &&& (b ^^^ (2 ^ 32 - 1))) := by
  rw [show (-1 : Int32) = nI (2 ^ 32 - 1) from rfl, n_xor, n_and]
theorem n_tN {i : Nat} (h : i < 2 ^ 31) : (nI i).toNatClampNeg = i := nI_clamp h
theorem n_neg {x : Int32} (h : x < 0) (n : Nat) (hn : n < 2 ^ 31) : x < nI n := by
  rw [Int32.lt_iff_toInt_lt] at *
  rw [nI_toInt hn]
  have : (0 : Int32).toInt = 0 := rfl
  omega
theorem n_cases (x : Int32) : x < 0 ∨ ∃ j : Nat, j < 2 ^ 31 ∧ x = nI j := by
  by_cases h : x < 0
  · exact .inl h
  · exact .inr (nI_of h)
/-- the set of the numbers below n of a kind -/
def mk : Nat → (Nat → Bool) → Nat
  | 0, _ => 0
  | n + 1, f => mk n f + (if f n = true then 2 ^ n else 0)
theorem mk_lt (n : Nat) (f : Nat → Bool) : mk n f < 2 ^ n := by
  induction n with
  | zero => exact Nat.zero_lt_one
  | succ n ih => rw [mk, Nat.pow_succ]; split <;> omega
theorem mk_bit (n : Nat) (f : Nat → Bool) (i : Nat) : (mk n f).testBit i = (decide (i < n) && f i) := by
  induction n with
  | zero => simp [mk]
  | succ n ih =>
    rw [mk]
    have hl := mk_lt n f
    by_cases hf : f n = true
    · rw [if_pos hf, Nat.add_comm]
      rcases Nat.lt_trichotomy i n with h | h | h
      · rw [Nat.testBit_two_pow_add_gt h, ih]; simp [h, Nat.lt_succ_of_lt h]
      · subst h; rw [Nat.testBit_two_pow_add_eq, ih]; simp [hf]
      · rw [Nat.testBit_lt_two_pow]
        · simp [show ¬ i < n + 1 by omega]
        · have := Nat.pow_le_pow_right (n := 2) (by omega) (show n + 1 ≤ i from h)
          rw [Nat.pow_succ] at this; omega
    · rw [if_neg hf, Nat.add_zero, ih]
      rcases Nat.lt_trichotomy i n with h | h | h
      · simp [h, Nat.lt_succ_of_lt h]
      · subst h; simp [hf]
      · simp [Nat.not_lt.mpr (Nat.le_of_lt h), show ¬ i < n + 1 by omega]
theorem mk_ext {n : Nat} {f g : Nat → Bool} (h : ∀ i, i < n → f i = g i) : mk n f = mk n g := by
  apply Nat.eq_of_testBit_eq
  intro i
  rw [mk_bit, mk_bit]
  by_cases hi : i < n
  · rw [h i hi]
  · simp [hi]
theorem mk_lt32 {n : Nat} (f : Nat → Bool) (h : n ≤ 31) : mk n f < 2 ^ 31 := Nat.lt_of_lt_of_le (mk_lt n f) (Nat.pow_le_pow_right (by omega) h)
theorem mk_eq {n m : Nat} (h : m < 2 ^ n) : m = mk n (fun i => m.testBit i) := by
  apply Nat.eq_of_testBit_eq
  intro i
  rw [mk_bit]
  by_cases hi : i < n
  · simp [hi]
  · rw [Nat.testBit_lt_two_pow (Nat.lt_of_lt_of_le h (Nat.pow_le_pow_right (by omega) (by omega)))]; simp [hi]
theorem bits_eq {n a b : Nat} (ha : a < 2 ^ n) (hb : b < 2 ^ n) (h : ∀ i, i < n → a.testBit i = b.testBit i) : a = b := by
  rw [mk_eq ha, mk_eq hb]; exact mk_ext h
theorem mk_and (n : Nat) (f g : Nat → Bool) : mk n f &&& mk n g = mk n (fun i => f i && g i) := by
  apply Nat.eq_of_testBit_eq; intro i; rw [Nat.testBit_and, mk_bit, mk_bit, mk_bit]; cases decide (i < n) <;> simp
theorem mk_or (n : Nat) (f g : Nat → Bool) : mk n f ||| mk n g = mk n (fun i => f i || g i) := by
  apply Nat.eq_of_testBit_eq; intro i; rw [Nat.testBit_or, mk_bit, mk_bit, mk_bit]; cases decide (i < n) <;> simp
theorem mk_zero (n : Nat) (f : Nat → Bool) : mk n f = 0 ↔ ∀ i, i < n → f i = false := by
  constructor
  · intro h i hi
    have := mk_bit n f i
    rw [h, Nat.zero_testBit] at this
    simpa [hi] using this.symm
  · intro h
    have := mk_ext (n := n) (f := f) (g := fun _ => false) h
    rw [this]
    apply Nat.eq_of_testBit_eq; intro i; rw [mk_bit]; simp
theorem mk_bit1 {n i : Nat} (hi : i < n) : 2 ^ i = mk n (fun j => j == i) := by
  apply Nat.eq_of_testBit_eq; intro j; rw [mk_bit, Nat.testBit_two_pow]
  by_cases h : i = j
  · subst h; simp [hi]
  · simp [h, show ¬ j = i from fun z => h z.symm]
theorem mk_all (n : Nat) : mk n (fun _ => true) = 2 ^ n - 1 := by
  apply Nat.eq_of_testBit_eq; intro i; rw [mk_bit, Nat.testBit_two_pow_sub_one]; simp
theorem lt_or {n a b : Nat} (ha : a < 2 ^ n) (hb : b < 2 ^ n) : a ||| b < 2 ^ n := Nat.or_lt_two_pow ha hb
theorem bit_notin {n i b : Nat} (hi : i < n) : (b ^^^ (2 ^ n - 1)).testBit i = !b.testBit i := by
  rw [Nat.testBit_xor, Nat.testBit_two_pow_sub_one]; simp [hi]
