/-! THE PURE LAYER: the reference's least number of colours -/
def chrs (n : Nat) (F : Nat → Nat) (s k : Nat) : Prop := cols n F s k ∧ ∀ k', k' < k → ¬ cols n F s k'
theorem chrs_un {n s k k' : Nat} {F : Nat → Nat} (h : chrs n F s k) (h' : chrs n F s k') : k = k' := by
  rcases Nat.lt_trichotomy k k' with q | q | q
  · exact absurd h.1 (h'.2 k q)
  · exact q
  · exact absurd h'.1 (h.2 k' q)
theorem cols_n (n s : Nat) (F : Nat → Nat) : cols n F s n := ⟨fun i => i, fun i hi _ => hi, fun i j _ _ _ _ hij _ => hij⟩
theorem cols_0 {n s : Nat} {F : Nat → Nat} (hs : s < 2 ^ n) (h0 : s ≠ 0) : ¬ cols n F s 0 := by
  rintro ⟨f, h1, _⟩
  obtain ⟨i, hi, hb⟩ := (nz_bit hs).mp h0
  exact absurd (h1 i hi hb) (Nat.not_lt_zero _)
theorem cols_min {n s k : Nat} {F : Nat → Nat} (h : cols n F s k) : ∃ m, m ≤ k ∧ chrs n F s m := by
  induction k using Nat.strongRecOn with
  | ind k ih =>
    by_cases q : ∃ k', k' < k ∧ cols n F s k'
    · obtain ⟨k', h1, h2⟩ := q
      obtain ⟨m, h3, h4⟩ := ih k' h1 h2
      exact ⟨m, by omega, h4⟩
    · exact ⟨k, Nat.le_refl _, h, fun k' h1 h2 => q ⟨k', h1, h2⟩⟩
/-- when all parts have been looked at -/
theorem chrs_of {n s v : Nat} {F : Nat → Nat} (hn : n ≤ 12) (hs : s < 2 ^ n) (h0 : s ≠ 0) (hv : v = 1000 ∨ cols n F s v) (h1 : cols n F s 1 → v ≤ 1) (hp : ∀ p, 0 < p → p < s → p &&& s = p → cols n F p 1 → ∀ k, chrs n F (s ^^^ p) k → v ≤ k + 1) : chrs n F s v := by
  have low : ∀ k', k' < v → ¬ cols n F s k' := by
    intro k' hk hc
    obtain ⟨m, hm, hc2⟩ := cols_min hc
    cases m with
    | zero => exact cols_0 hs h0 hc2.1
    | succ m =>
      obtain ⟨p, p1, p2, p3⟩ := cols_split hs hc2.1
      have hle : p ≤ s := by rw [← p1]; exact Nat.and_le_right
      by_cases q0 : p = 0
      · rw [q0, Nat.xor_zero] at p3
        exact hc2.2 m (Nat.lt_succ_self _) p3
      · by_cases q1 : p = s
        · rw [q1] at p2
          have := h1 p2
          omega
        · obtain ⟨k, k1, k2⟩ := cols_min p3
          have := hp p (by omega) (by omega) p1 p2 k k2
          omega
  refine ⟨?_, low⟩
  rcases hv with hv | hv
  · exact absurd (cols_n n s F) (low n (by omega))
  · exact hv
theorem m_apart {S : St} {n s : Nat} {F : Nat → Nat} (hn : n ≤ 12) (hs : s < 2 ^ n) (hc : ∀ k, k < n → gI S 388 k = nI (mk n (fun j => !(j == k) && !(F k &&& F j == 0)))) (P : Bool → St → Prop) (hP : ∀ b : Bool, (b = true ↔ cols n F s 1) → P b S) : wp_X6_isApart S (nI s) (nI n) P := by
  have hs12 : s < 2 ^ 12 := Nat.lt_of_lt_of_le hs (Nat.pow_le_pow_right (by omega) hn)
  have hcol : cols n F s 1 ↔ ∀ i j, i < n → j < n → s.testBit i = true → s.testBit j = true → i ≠ j → F i &&& F j = 0 := by
    constructor
    · rintro ⟨f, h1, h2⟩ i j hi hj hbi hbj hij
      apply Classical.byContradiction
      intro z
      have e1 := h1 i hi hbi
      have e2 := h1 j hj hbj
      exact h2 i j hi hj hbi hbj hij z (by omega)
    · intro h
      exact ⟨fun _ => 0, fun i _ _ => Nat.zero_lt_one, fun i j hi hj hbi hbj hij hF => absurd (h i j hi hj hbi hbj hij) hF⟩
  have key : ∀ (N k : Nat), k ≤ n → n < N + k → (∀ i j, i < k → j < n → s.testBit i = true → s.testBit j = true → i ≠ j → F i &&& F j = 0) → wp_X6_isApart_2 (nI s) (nI n) P N S (nI k) := by
    intro N
    induction N with
    | zero => intro k h1 h2; omega
    | succ N ih =>
      intro k h1 h2 hk
      rw [wp_X6_isApart_2]
      dsimp only
      by_cases q : k = n
      · rw [if_pos (by simp (disch := omega) only [n_0, n_1, n_2, n_3, n_7, n_8, n_9, n_10, n_12, n_14, n_18, n_20, n_60, n_112, n_162, n_255, n_1000, nI_add, n_mul, nI_ltI, nI_leI, nI_eq, nI_clamp]; omega)]
        rw [q] at hk
        exact hP true ⟨fun _ => hcol.mpr hk, fun _ => rfl⟩
      · have hkn : k < n := by omega
        rw [if_neg (by simp (disch := omega) only [n_0, n_1, n_2, n_3, n_7, n_8, n_9, n_10, n_12, n_14, n_18, n_20, n_60, n_112, n_162, n_255, n_1000, nI_add, n_mul, nI_ltI, nI_leI, nI_eq, nI_clamp]; omega)]
        unfold wp_X6_isApart_29
        simp only [n_bit1 (show s < 2 ^ 31 by omega) (show k < 32 by omega)]
        by_cases hb : s.testBit k = true
        · rw [if_pos hb]
          refine ⟨vp_in_nI (by omega) (by omega), ?_⟩
          rw [nI_clamp (by omega), hc k hkn, n_and]
          have hlt : mk n (fun j => !(j == k) && !(F k &&& F j == 0)) &&& s < 2 ^ 12 := Nat.lt_of_le_of_lt Nat.and_le_right hs12
          simp only [n_eq0 (show mk n (fun j => !(j == k) && !(F k &&& F j == 0)) &&& s < 2 ^ 31 by omega)]
          by_cases q2 : mk n (fun j => !(j == k) && !(F k &&& F j == 0)) &&& s = 0
          · rw [if_pos q2]
            rintro _ rfl
            rw [nI_1]
            refine ih (k + 1) (by omega) (by omega) ?_
            intro i j hi hj hbi hbj hij
            by_cases z : i = k
            · subst z
              have : (mk n (fun j => !(j == i) && !(F i &&& F j == 0)) &&& s).testBit j = false := by rw [q2]; exact Nat.zero_testBit j
              rw [Nat.testBit_and, mk_bit, hbj] at this
              simp [hj] at this
              exact this (fun y => hij y.symm)
            · exact hk i j (by omega) hj hbi hbj hij
          · rw [if_neg q2]
            refine hP false ⟨fun z => (by cases z), fun z => ?_⟩
            exfalso
            apply q2
            have hz := hcol.mp z
            apply Nat.eq_of_testBit_eq
            intro j
            rw [Nat.testBit_and, mk_bit, Nat.zero_testBit]
            by_cases hj : j < n
            · rcases hbj : s.testBit j with _ | _
              · simp
              · by_cases y : j = k
                · simp [y]
                · have := hz k j hkn hj hb hbj (fun w => y w.symm)
                  simp [this]
            · simp [hj]
        · rw [if_neg hb]
          rintro _ rfl
          rw [nI_1]
          refine ih (k + 1) (by omega) (by omega) ?_
          intro i j hi hj hbi
          by_cases z : i = k
          · subst z; exact absurd hbi hb
          · exact hk i j (by omega) hj hbi
  obtain ⟨N, hN⟩ : ∃ N, n < N := ⟨_, Nat.lt_succ_self _⟩
  exact ⟨N, key N 0 (by omega) (by omega) (fun i j hi => absurd hi (Nat.not_lt_zero _))⟩
