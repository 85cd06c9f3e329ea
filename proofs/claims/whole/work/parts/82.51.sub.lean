/-! THE PURE LAYER: parts of a set; colours of a part -/
theorem and_div2 (a b : Nat) : (a &&& b) / 2 = a / 2 &&& b / 2 := by
  apply Nat.eq_of_testBit_eq
  intro i
  rw [Nat.testBit_and, ← Nat.testBit_succ, ← Nat.testBit_succ, ← Nat.testBit_succ, Nat.testBit_and]
theorem mod2 (a : Nat) : a % 2 = (a.testBit 0).toNat := by
  rw [Nat.testBit_zero]
  rcases Nat.mod_two_eq_zero_or_one a with h | h <;> simp [h]
theorem and_mod2 (a b : Nat) : (a &&& b) % 2 = (a % 2) * (b % 2) := by
  rw [mod2, mod2, mod2, Nat.testBit_and]
  cases a.testBit 0 <;> cases b.testBit 0 <;> rfl
/-- the parts of a set are gone through from above: none is left out -/
theorem sub_next : ∀ (p q s : Nat), p &&& s = p → q &&& s = q → q < p → q ≤ (p - 1) &&& s := by
  intro p
  induction p using Nat.strongRecOn with
  | ind p ih =>
    intro q s hp hq hlt
    have hp2 := and_div2 p s
    have hq2 := and_div2 q s
    have hr2 := and_div2 (p - 1) s
    have hpm := and_mod2 p s
    have hqm := and_mod2 q s
    have hrm := and_mod2 (p - 1) s
    rw [hp] at hp2 hpm
    rw [hq] at hq2 hqm
    generalize hr : (p - 1) &&& s = r at *
    rcases Nat.mod_two_eq_zero_or_one p with h0 | h1
    · -- even
      have e1 : (p - 1) / 2 = p / 2 - 1 := by omega
      have e2 : (p - 1) % 2 = 1 := by omega
      rw [e1] at hr2
      rw [e2, Nat.one_mul] at hrm
      have := ih (p / 2) (by omega) (q / 2) (s / 2) hp2.symm hq2.symm (by omega)
      rw [← hr2] at this
      have hq0 : q % 2 ≤ s % 2 := by
        rcases Nat.mod_two_eq_zero_or_one s with z | z
        · rw [z, Nat.mul_zero] at hqm; omega
        · have := Nat.mod_lt q (show 0 < 2 by omega); omega
      omega
    · -- odd
      have e1 : (p - 1) / 2 = p / 2 := by omega
      rw [e1, ← hp2] at hr2
      omega
/-- so many colours are enough for a part of the ways -/
def cols (n : Nat) (F : Nat → Nat) (s k : Nat) : Prop := ∃ f : Nat → Nat, (∀ i, i < n → s.testBit i = true → f i < k) ∧ (∀ i j, i < n → j < n → s.testBit i = true → s.testBit j = true → i ≠ j → F i &&& F j ≠ 0 → f i ≠ f j)
theorem cols_all (n k : Nat) (F : Nat → Nat) : cols n F (2 ^ n - 1) k ↔ col n F k := by
  have hb : ∀ i, i < n → (2 ^ n - 1).testBit i = true := fun i hi => by rw [Nat.testBit_two_pow_sub_one]; simp [hi]
  constructor
  · rintro ⟨f, h1, h2⟩
    exact ⟨f, fun i hi => h1 i hi (hb i hi), fun i j hi hj => h2 i j hi hj (hb i hi) (hb j hj)⟩
  · rintro ⟨f, h1, h2⟩
    exact ⟨f, fun i hi _ => h1 i hi, fun i j hi hj _ _ => h2 i j hi hj⟩
theorem cols_up {n s k k' : Nat} {F : Nat → Nat} (h : cols n F s k) (hk : k ≤ k') : cols n F s k' := by
  obtain ⟨f, h1, h2⟩ := h
  exact ⟨f, fun i hi hb => Nat.lt_of_lt_of_le (h1 i hi hb) hk, h2⟩
/-- a part of one colour, and the rest -/
theorem cols_join {n s p k : Nat} {F : Nat → Nat} (h1 : cols n F p 1) (h2 : cols n F (s ^^^ p) k) : cols n F s (k + 1) := by
  obtain ⟨f, a1, a2⟩ := h1
  obtain ⟨g, b1, b2⟩ := h2
  refine ⟨fun i => if p.testBit i = true then k else g i, ?_, ?_⟩
  · intro i hi hb
    dsimp only
    by_cases z : p.testBit i = true
    · rw [if_pos z]; omega
    · rw [if_neg z]
      have := b1 i hi (by rw [Nat.testBit_xor, hb]; simpa using z)
      omega
  · intro i j hi hj hbi hbj hij hF
    dsimp only
    by_cases z : p.testBit i = true
    · rw [if_pos z]
      by_cases z2 : p.testBit j = true
      · have e1 := a1 i hi z
        have e2 := a1 j hj z2
        exact absurd (show f i = f j by omega) (a2 i j hi hj z z2 hij hF)
      · rw [if_neg z2]
        have := b1 j hj (by rw [Nat.testBit_xor, hbj]; simpa using z2)
        omega
    · rw [if_neg z]
      have e1 := b1 i hi (by rw [Nat.testBit_xor, hbi]; simpa using z)
      by_cases z2 : p.testBit j = true
      · rw [if_pos z2]; omega
      · rw [if_neg z2]
        exact b2 i j hi hj (by rw [Nat.testBit_xor, hbi]; simpa using z) (by rw [Nat.testBit_xor, hbj]; simpa using z2) hij hF
/-- the ways of the last colour are such a part -/
theorem cols_split {n s k : Nat} {F : Nat → Nat} (hs : s < 2 ^ n) (h : cols n F s (k + 1)) : ∃ p, p &&& s = p ∧ cols n F p 1 ∧ cols n F (s ^^^ p) k := by
  obtain ⟨f, h1, h2⟩ := h
  refine ⟨mk n (fun i => s.testBit i && f i == k), ?_, ?_, ?_⟩
  · apply Nat.eq_of_testBit_eq
    intro i
    rw [Nat.testBit_and, mk_bit]
    cases s.testBit i <;> simp
  · refine ⟨fun _ => 0, fun i _ _ => Nat.zero_lt_one, ?_⟩
    intro i j hi hj hbi hbj hij hF
    rw [mk_bit] at hbi hbj
    simp at hbi hbj
    exact absurd (hbi.2.2.trans hbj.2.2.symm) (h2 i j hi hj hbi.2.1 hbj.2.1 hij hF)
  · have hb : ∀ i, i < n → (s ^^^ mk n (fun i => s.testBit i && f i == k)).testBit i = true → s.testBit i = true ∧ f i ≠ k := by
      intro i hi hbi
      rw [Nat.testBit_xor, mk_bit] at hbi
      rcases hq : s.testBit i with _ | _
      · rw [hq] at hbi; simp at hbi
      · rw [hq] at hbi
        refine ⟨rfl, fun z => ?_⟩
        rw [z] at hbi; simp [hi] at hbi
    refine ⟨f, ?_, ?_⟩
    · intro i hi hbi
      obtain ⟨b1, b2⟩ := hb i hi hbi
      have := h1 i hi b1
      omega
    · intro i j hi hj hbi hbj
      exact h2 i j hi hj (hb i hi hbi).1 (hb j hj hbj).1
theorem xor_add : ∀ (s p : Nat), p &&& s = p → (s ^^^ p) + p = s := by
  intro s
  induction s using Nat.strongRecOn with
  | ind s ih =>
    intro p hp
    by_cases h0 : s = 0
    · subst h0
      rw [Nat.and_zero] at hp
      rw [← hp]; rfl
    · have hp2 := and_div2 p s
      have hpm := and_mod2 p s
      rw [hp] at hp2 hpm
      have := ih (s / 2) (by omega) (p / 2) hp2.symm
      have hx2 : (s ^^^ p) / 2 = s / 2 ^^^ p / 2 := by
        apply Nat.eq_of_testBit_eq
        intro i
        rw [Nat.testBit_xor, ← Nat.testBit_succ, ← Nat.testBit_succ, ← Nat.testBit_succ, Nat.testBit_xor]
      have hxm : (s ^^^ p) % 2 = ((s.testBit 0) ^^ (p.testBit 0)).toNat := by rw [mod2, Nat.testBit_xor]
      have hsm := mod2 s
      have hpm2 := mod2 p
      rw [hsm, hpm2] at hpm
      rw [← hx2] at this
      have t1 : (true).toNat = 1 := rfl
      have t0 : (false).toNat = 0 := rfl
      generalize s.testBit 0 = b0 at *
      generalize p.testBit 0 = b1 at *
      cases b0 <;> cases b1
      · rw [show (false ^^ false) = false from rfl, t0] at hxm; rw [t0] at hsm hpm2; omega
      · rw [t0, t1] at hpm; omega
      · rw [show (true ^^ false) = true from rfl, t1] at hxm; rw [t1] at hsm; rw [t0] at hpm2; omega
      · rw [show (true ^^ true) = false from rfl, t0] at hxm; rw [t1] at hsm hpm2; omega
