/-! THE PURE LAYER: colours, in the class -/
/-- the ways left can be painted on top of what is painted -/
def Ext (n : Nat) (F T : Nat → Nat) (left colours : Nat) : Prop := ∃ f : Nat → Nat, (∀ i, i < n → left.testBit i = true → f i < colours ∧ T (f i) &&& F i = 0) ∧ (∀ i j, i < n → j < n → left.testBit i = true → left.testBit j = true → i ≠ j → F i &&& F j ≠ 0 → f i ≠ f j)
/-- so many colours are enough -/
def col (n : Nat) (F : Nat → Nat) (k : Nat) : Prop := ∃ f : Nat → Nat, (∀ i, i < n → f i < k) ∧ (∀ i j, i < n → j < n → i ≠ j → F i &&& F j ≠ 0 → f i ≠ f j)
def chr (n : Nat) (F : Nat → Nat) (k : Nat) : Prop := col n F k ∧ ∀ k', k' < k → ¬ col n F k'
theorem chr_un {n k k' : Nat} {F : Nat → Nat} (h : chr n F k) (h' : chr n F k') : k = k' := by
  rcases Nat.lt_trichotomy k k' with q | q | q
  · exact absurd h.1 (h'.2 k q)
  · exact q
  · exact absurd h'.1 (h.2 k' q)
theorem Ext_all (n k : Nat) (F : Nat → Nat) : Ext n F (fun _ => 0) (2 ^ n - 1) k ↔ col n F k := by
  have hb : ∀ i, i < n → (2 ^ n - 1).testBit i = true := fun i hi => by rw [Nat.testBit_two_pow_sub_one]; simp [hi]
  constructor
  · rintro ⟨f, h1, h2⟩
    exact ⟨f, fun i hi => (h1 i hi (hb i hi)).1, fun i j hi hj => h2 i j hi hj (hb i hi) (hb j hj)⟩
  · rintro ⟨f, h1, h2⟩
    exact ⟨f, fun i hi _ => ⟨h1 i hi, Nat.zero_and _⟩, fun i j hi hj _ _ => h2 i j hi hj⟩
theorem and_or0 (a b c : Nat) : (a ||| b) &&& c = 0 ↔ a &&& c = 0 ∧ b &&& c = 0 := by
  rw [Nat.and_or_distrib_right]
  constructor
  · intro h
    have e : ∀ i, ((a &&& c) ||| (b &&& c)).testBit i = false := fun i => by rw [h]; exact Nat.zero_testBit i
    constructor
    · apply Nat.eq_of_testBit_eq; intro i
      have := e i
      rw [Nat.testBit_or, Bool.or_eq_false_iff] at this
      rw [this.1, Nat.zero_testBit]
    · apply Nat.eq_of_testBit_eq; intro i
      have := e i
      rw [Nat.testBit_or, Bool.or_eq_false_iff] at this
      rw [this.2, Nat.zero_testBit]
  · rintro ⟨h1, h2⟩; rw [h1, h2]; rfl
/-- one way is painted -/
theorem Ext_step {n left way used colours : Nat} {F T : Nat → Nat} (hw : way < n) (hb : left.testBit way = true) (hT : ∀ c, used ≤ c → T c = 0) (left' : Nat) (hl' : ∀ i, i < n → left'.testBit i = (left.testBit i && !(i == way))) :
    Ext n F T left colours ↔ ∃ c, c ≤ used ∧ c < colours ∧ T c &&& F way = 0 ∧ Ext n F (put T c (T c ||| F way)) left' colours := by
  constructor
  · rintro ⟨f, h1, h2⟩
    have main : ∀ g : Nat → Nat, (∀ i, i < n → left.testBit i = true → g i < colours ∧ T (g i) &&& F i = 0) → (∀ i j, i < n → j < n → left.testBit i = true → left.testBit j = true → i ≠ j → F i &&& F j ≠ 0 → g i ≠ g j) → g way ≤ used → ∃ c, c ≤ used ∧ c < colours ∧ T c &&& F way = 0 ∧ Ext n F (put T c (T c ||| F way)) left' colours := by
      intro g g1 g2 g3
      obtain ⟨a1, a2⟩ := g1 way hw hb
      refine ⟨g way, g3, a1, a2, g, ?_, ?_⟩
      · intro i hi hli
        rw [hl' i hi, Bool.and_eq_true] at hli
        obtain ⟨b1, b2⟩ := g1 i hi hli.1
        refine ⟨b1, ?_⟩
        unfold put
        by_cases q : g i = g way
        · rw [if_pos q, and_or0]
          refine ⟨by rw [← q]; exact b2, ?_⟩
          apply Classical.byContradiction
          intro z
          exact g2 way i hw hi hb hli.1 (by intro y; rw [y] at hli; simp at hli) z q.symm
        · rw [if_neg q]; exact b2
      · intro i j hi hj hli hlj
        rw [hl' i hi, Bool.and_eq_true] at hli
        rw [hl' j hj, Bool.and_eq_true] at hlj
        exact g2 i j hi hj hli.1 hlj.1
    by_cases q : f way ≤ used
    · exact main f h1 h2 q
    · -- the colour of the way and the first one not used change places
      have hc := (h1 way hw hb).1
      refine main (fun i => if f i = f way then used else if f i = used then f way else f i) ?_ ?_ (by simp)
      · intro i hi hli
        obtain ⟨b1, b2⟩ := h1 i hi hli
        by_cases z1 : f i = f way
        · rw [if_pos z1, hT used (Nat.le_refl _), Nat.zero_and]; exact ⟨by omega, rfl⟩
        · rw [if_neg z1]
          by_cases z2 : f i = used
          · rw [if_pos z2, hT (f way) (by omega), Nat.zero_and]; exact ⟨hc, rfl⟩
          · rw [if_neg z2]; exact ⟨b1, b2⟩
      · intro i j hi hj hli hlj hij hF
        have := h2 i j hi hj hli hlj hij hF
        by_cases z1 : f i = f way
        · rw [if_pos z1, if_neg (by omega)]
          by_cases z2 : f j = used
          · rw [if_pos z2]; omega
          · rw [if_neg z2]; omega
        · rw [if_neg z1]
          by_cases z3 : f j = f way
          · rw [if_pos z3]
            by_cases z2 : f i = used
            · rw [if_pos z2]; omega
            · rw [if_neg z2]; omega
          · rw [if_neg z3]
            by_cases z2 : f i = used
            · rw [if_pos z2, if_neg (by omega)]; omega
            · rw [if_neg z2]
              by_cases z4 : f j = used
              · rw [if_pos z4]; omega
              · rw [if_neg z4]; exact this
  · rintro ⟨c, _, h2, h3, f, h4, h5⟩
    refine ⟨fun i => if i = way then c else f i, ?_, ?_⟩
    · intro i hi hli
      dsimp only
      by_cases q : i = way
      · subst q; rw [if_pos rfl]; exact ⟨h2, h3⟩
      · rw [if_neg q]
        obtain ⟨b1, b2⟩ := h4 i hi (by rw [hl' i hi, hli]; simp [q])
        refine ⟨b1, ?_⟩
        unfold put at b2
        by_cases z : f i = c
        · rw [if_pos z, and_or0] at b2; rw [z]; exact b2.1
        · rw [if_neg z] at b2; exact b2
    · intro i j hi hj hli hlj hij hF
      have cross : ∀ k, k < n → left.testBit k = true → k ≠ way → F way &&& F k ≠ 0 → f k ≠ c := by
        intro k hk hlk hkw hFk z
        obtain ⟨_, b2⟩ := h4 k hk (by rw [hl' k hk, hlk]; simp [hkw])
        unfold put at b2
        rw [if_pos z, and_or0] at b2
        exact hFk b2.2
      by_cases q : i = way
      · subst q
        dsimp only
        rw [if_pos rfl, if_neg (Ne.symm hij)]
        exact fun z => cross j hj hlj (Ne.symm hij) hF z.symm
      · dsimp only
        rw [if_neg q]
        by_cases q2 : j = way
        · subst q2
          rw [if_pos rfl]
          exact cross i hi hli hij (by rw [Nat.and_comm]; exact hF)
        · rw [if_neg q2]
          exact h5 i j hi hj (by rw [hl' i hi, hli]; simp [q]) (by rw [hl' j hj, hlj]; simp [q2]) hij hF
/-- the colouring's cells -/
def CoS (S : St) (n : Nat) (F T : Nat → Nat) : Prop := gI S 181 2 = nI n ∧ (∀ i, i < n → gI S 182 i = nI (F i)) ∧ (∀ c, c < 12 → gI S 183 c = nI (T c))
theorem CoS.ag {S S' : St} {n : Nat} {F T : Nat → Nat} (h : CoS S n F T) (e : agr (fun q => 181 ≤ q ∧ q ≤ 183) S S') : CoS S' n F T := by
  refine ⟨by rw [(e 181 (by omega)).1]; exact h.1, fun i hi => by rw [(e 182 (by omega)).1]; exact h.2.1 i hi, fun c hc => by rw [(e 183 (by omega)).1]; exact h.2.2 c hc⟩
theorem k_mostBarred {S : St} {n left used : Nat} {F T : Nat → Nat} (h : CoS S n F T) (hn : n ≤ 12) (hF : ∀ i, F i < 2 ^ 14) (hT : ∀ c, T c < 2 ^ 14) (hu : used ≤ 12) (hl : left < 2 ^ 12) {i0 : Nat} (hi0 : i0 < n) (hb0 : left.testBit i0 = true) (P : Int32 → St → Prop)
    (hP : ∀ way, way < n → left.testBit way = true → P (nI way) S) : wp_X0_mostBarred S (nI left) (nI used) P := by
  have outer : ∀ (N i : Nat) (ch mo : Nat), i ≤ n → n < N + i → (mo = 0 → ∀ k, k < i → left.testBit k = false) → (mo ≠ 0 → ch < n ∧ left.testBit ch = true) → mo ≤ 13 → ch < 2 ^ 31 → wp_X0_mostBarred_8 (nI left) (nI used) P N S (nI ch) (nI mo - 1) (nI i) := by
    intro N
    induction N with
    | zero => intro i ch mo h1 h2; omega
    | succ N ih =>
      intro i ch mo h1 h2 hz hnz hmo hch
      rw [wp_X0_mostBarred_8]
      dsimp only
      rw [h.1]
      by_cases q : i = n
      · rw [if_pos (by simp (disch := omega) only [n_0, n_1, n_2, n_3, n_7, n_8, n_9, n_10, n_12, n_14, n_18, n_20, n_60, n_112, n_162, n_255, n_1000, nI_add, n_mul, nI_ltI, nI_leI, nI_eq, nI_clamp]; omega)]
        by_cases q2 : mo = 0
        · have := hz q2 i0 (by omega)
          rw [hb0] at this; cases this
        · exact hP ch (hnz q2).1 (hnz q2).2
      · have hi : i < n := by omega
        rw [if_neg (by simp (disch := omega) only [n_0, n_1, n_2, n_3, n_7, n_8, n_9, n_10, n_12, n_14, n_18, n_20, n_60, n_112, n_162, n_255, n_1000, nI_add, n_mul, nI_ltI, nI_leI, nI_eq, nI_clamp]; omega)]
        unfold wp_X0_mostBarred_86
        simp only [n_bit0 (show left < 2 ^ 31 by omega) (show i < 32 by omega)]
        by_cases hb : left.testBit i = true
        · rw [if_neg (by rw [hb]; simp)]
          have inner : ∀ (M c b : Nat), c ≤ used → used < M + c → b ≤ c → wp_X0_mostBarred_32 (nI left) (nI used) P (fun S a3 a4 a5 => wp_X0_mostBarred_8 (nI left) (nI used) P N S a3 a4 a5) M S (nI ch) (nI mo - 1) (nI i) (nI b) (nI c) := by
            intro M
            induction M with
            | zero => intro c b h1 h2; omega
            | succ M ih2 =>
              intro c b hc1 hc2 hbc
              rw [wp_X0_mostBarred_32]
              dsimp only
              by_cases q2 : c = used
              · rw [if_pos (by simp (disch := omega) only [n_0, n_1, n_2, n_3, n_7, n_8, n_9, n_10, n_12, n_14, n_18, n_20, n_60, n_112, n_162, n_255, n_1000, nI_add, n_mul, nI_ltI, nI_leI, nI_eq, nI_clamp]; omega)]
                unfold wp_X0_mostBarred_72 wp_X0_mostBarred_86
                have hle : (nI b ≤ nI mo - 1) ↔ b + 1 ≤ mo := by
                  have := (n_dif (a := mo) (b := b + 1) (by omega) (by omega)).2
                  rw [← this, ← nI_1]
                  rw [Int32.le_iff_toInt_le, Int32.le_iff_toInt_le]
                  have e1 : (nI mo - 1).toInt = (mo : Int) - 1 := by
                    rw [Int32.toInt_sub, nI_toInt (by omega)]
                    show ((mo : Int) - 1).bmod _ = _
                    apply Int.bmod_eq_of_le <;> omega
                  have e2 : (nI mo - (nI b + 1)).toInt = (mo : Int) - (b + 1 : Int) := by
                    rw [nI_1, Int32.toInt_sub, nI_toInt (by omega), nI_toInt (by omega)]
                    apply Int.bmod_eq_of_le <;> omega
                  rw [e1, e2, nI_toInt (by omega)]
                  show (b : Int) ≤ _ ↔ (0 : Int) ≤ _
                  omega
                by_cases q3 : b + 1 ≤ mo
                · rw [if_pos (hle.mpr q3)]
                  rintro _ rfl
                  rw [nI_1]
                  exact ih (i + 1) ch mo (by omega) (by omega) (fun z => by omega) hnz hmo hch
                · rw [if_neg (by rw [hle]; exact q3)]
                  rintro _ rfl
                  rw [nI_1]
                  have := ih (i + 1) i (b + 1) (by omega) (by omega) (fun z => by omega) (fun _ => ⟨hi, hb⟩) (by omega) (by omega)
                  rw [n_1, n_sub (by omega), Nat.add_sub_cancel] at this
                  exact this
              · rw [if_neg (by simp (disch := omega) only [n_0, n_1, n_2, n_3, n_7, n_8, n_9, n_10, n_12, n_14, n_18, n_20, n_60, n_112, n_162, n_255, n_1000, nI_add, n_mul, nI_ltI, nI_leI, nI_eq, nI_clamp]; omega)]
                refine ⟨vp_in_nI (by omega) (by omega), vp_in_nI (by omega) (by omega), ?_⟩
                unfold wp_X0_mostBarred_63
                split
                · rintro _ rfl _ rfl
                  rw [b2i_f, Int32.add_zero, nI_1]
                  exact ih2 (c + 1) b (by omega) (by omega) (by omega)
                · rintro _ rfl _ rfl
                  rw [b2i_t, nI_1, nI_1]
                  exact ih2 (c + 1) (b + 1) (by omega) (by omega) (by omega)
          obtain ⟨M, hM⟩ : ∃ M, used < M := ⟨_, Nat.lt_succ_self _⟩
          exact ⟨M, inner M 0 0 (by omega) (by omega) (by omega)⟩
        · rw [if_pos (by simpa using hb)]
          rintro _ rfl
          rw [nI_1]
          refine ih (i + 1) ch mo (by omega) (by omega) ?_ hnz hmo hch
          intro z k hk
          by_cases q2 : k = i
          · rw [q2]; simpa using hb
          · exact hz z k (by omega)
  unfold wp_X0_mostBarred
  obtain ⟨N, hN⟩ : ∃ N, n < N := ⟨_, Nat.lt_succ_self _⟩
  exact ⟨N, outer N 0 0 0 (by omega) (by omega) (fun _ k hk => absurd hk (Nat.not_lt_zero _)) (fun z => absurd rfl z) (by omega) (by omega)⟩
