/-! THE PURE LAYER: conversions along a row of fibres -/
theorem low_le (n : Nat) (p : Nat → Bool) : low n p ≤ n := by
  induction n generalizing p with
  | zero => exact Nat.le_refl _
  | succ n ih => rw [low]; split <;> have := ih (fun i => p (i + 1)) <;> omega
theorem low_not {n : Nat} {p : Nat → Bool} : ∀ {x : Nat}, x < low n p → p x = false := by
  induction n generalizing p with
  | zero => intro x h; exact absurd h (Nat.not_lt_zero _)
  | succ n ih =>
    intro x h
    rw [low] at h
    split at h
    · exact absurd h (Nat.not_lt_zero _)
    · rename_i q
      cases x with
      | zero => exact Bool.not_eq_true _ ▸ q
      | succ x => exact ih (p := fun i => p (i + 1)) (by omega)
theorem low_is {n : Nat} {p : Nat → Bool} (h : low n p < n) : p (low n p) = true := by
  induction n generalizing p with
  | zero => exact absurd h (Nat.not_lt_zero _)
  | succ n ih =>
    rw [low] at h ⊢
    split
    · assumption
    · rename_i q
      rw [if_neg q] at h
      exact ih (p := fun i => p (i + 1)) (by omega)
theorem low_ex {n : Nat} {p : Nat → Bool} {x : Nat} (hx : x < n) (h : p x = true) : low n p < n := by
  rcases Nat.lt_or_ge (low n p) n with q | q
  · exact q
  · have := low_not (n := n) (p := p) (x := x) (by omega)
    rw [h] at this; cases this
theorem low_uniq {n : Nat} {p : Nat → Bool} {x : Nat} (hx : x < n) (h : p x = true) (h2 : ∀ y, y < x → p y = false) : low n p = x := by
  have h1 := low_ex hx h
  have h3 := low_is h1
  rcases Nat.lt_trichotomy (low n p) x with q | q | q
  · rw [h2 _ q] at h3; cases h3
  · exact q
  · have := low_not q; rw [h] at this; cases this
theorem low_same {n m : Nat} {p q : Nat → Bool} (hnm : n ≤ m) {x : Nat} (hx : x < n) (h : p x = true) (he : ∀ y, y < m → q y = (decide (y < n) && p y)) : low m q = low n p := by
  have h1 := low_ex hx h
  refine low_uniq (by omega) ?_ ?_
  · rw [he _ (by omega), low_is h1, decide_eq_true h1]; rfl
  · intro y hy
    rw [he _ (by omega), low_not hy, Bool.and_false]
theorem k_lowestIn {S : St} (x : Int32) (p : Nat → Bool) (hx : ∀ i, i < 8 → ((x >>> (nI i &&& 31)) &&& 1 = 0 ↔ p i = false)) (P : Int32 → St → Prop) (hP : P (nI (low 8 p)) S) : wp_X5_lowestIn S x P := by
  have hle := low_le 8 p
  have key : ∀ n i : Nat, i ≤ low 8 p → low 8 p < n + i → wp_X5_lowestIn_2 x P n S (nI i) := by
    intro n
    induction n with
    | zero => intro i h1 h2; omega
    | succ n ih =>
      intro i h1 h2
      simp only [wp_X5_lowestIn_2]
      by_cases q : i = low 8 p
      · rw [← q] at hP
        by_cases q2 : i = 8
        · rw [if_pos (by simp (disch := omega) only [n_0, n_1, n_2, n_3, n_7, n_8, n_9, n_10, n_12, n_14, n_18, n_20, n_60, n_112, n_162, n_255, n_1000, nI_add, n_mul, nI_ltI, nI_leI, nI_eq, nI_clamp]; omega)]; exact hP
        · rw [if_neg (by simp (disch := omega) only [n_0, n_1, n_2, n_3, n_7, n_8, n_9, n_10, n_12, n_14, n_18, n_20, n_60, n_112, n_162, n_255, n_1000, nI_add, n_mul, nI_ltI, nI_leI, nI_eq, nI_clamp]; omega), if_neg]
          · exact hP
          · rw [hx i (by omega)]
            have := low_is (n := 8) (p := p) (by omega)
            rw [← q] at this; rw [this]; simp
      · rw [if_neg (by simp (disch := omega) only [n_0, n_1, n_2, n_3, n_7, n_8, n_9, n_10, n_12, n_14, n_18, n_20, n_60, n_112, n_162, n_255, n_1000, nI_add, n_mul, nI_ltI, nI_leI, nI_eq, nI_clamp]; omega), if_pos]
        · rintro _ rfl
          rw [nI_1]
          exact ih (i + 1) (by omega) (by omega)
        · rw [hx i (by omega)]
          exact low_not (n := 8) (p := p) (by omega)
  exact ⟨9, key _ 0 (by omega) (by omega)⟩
theorem mnl_le {n : Nat} {g : Nat → Nat} {b k : Nat} : mnl n g b ≤ k ↔ b ≤ k ∨ ∃ x, x < n ∧ g x ≤ k := by
  induction n with
  | zero => simp [mnl]
  | succ n ih =>
    have hm : ∀ x y : Nat, min x y ≤ k ↔ x ≤ k ∨ y ≤ k := by intro x y; omega
    rw [mnl, hm, ih]
    constructor
    · rintro ((h | ⟨x, h1, h2⟩) | h)
      · exact .inl h
      · exact .inr ⟨x, by omega, h2⟩
      · exact .inr ⟨n, by omega, h⟩
    · rintro (h | ⟨x, h1, h2⟩)
      · exact .inl (.inl h)
      · by_cases q : x = n
        · subst q; exact .inr h2
        · exact .inl (.inr ⟨x, by omega, h2⟩)
theorem mnl_b (n : Nat) (g : Nat → Nat) (b : Nat) : mnl n g b ≤ b := mnl_le.mpr (.inl (Nat.le_refl _))
theorem mnl_x {n x : Nat} (g : Nat → Nat) (b : Nat) (hx : x < n) : mnl n g b ≤ g x := mnl_le.mpr (.inr ⟨x, hx, Nat.le_refl _⟩)
theorem mnl_att (n : Nat) (g : Nat → Nat) (b : Nat) : mnl n g b = b ∨ ∃ x, x < n ∧ mnl n g b = g x := by
  rcases mnl_le.mp (Nat.le_refl (mnl n g b)) with h | ⟨x, h1, h2⟩
  · exact .inl (Nat.le_antisymm (mnl_b n g b) h)
  · exact .inr ⟨x, h1, Nat.le_antisymm (mnl_x g b h1) h2⟩
section LAY
variable {wl : Nat} {u : Nat → Nat} {c : Nat → Bool}
theorem cst_one (f v w : Nat) : cst wl u c [(f, v)] w = if (u f).testBit w = true then 0 else 1000 := rfl
theorem cst_two (f v f' v' : Nat) (r : List (Nat × Nat)) (w : Nat) : cst wl u c ((f, v) :: (f', v') :: r) w = if (u f).testBit w = true then (if c v' = true then mnl wl (fun x => cst wl u c ((f', v') :: r) x + 1) (cst wl u c ((f', v') :: r) w) else cst wl u c ((f', v') :: r) w) else 1000 := rfl
theorem cst_bit {f v w : Nat} {r : List (Nat × Nat)} (h : cst wl u c ((f, v) :: r) w < 1000) : (u f).testBit w = true := by
  by_cases q : (u f).testBit w = true
  · exact q
  · exfalso
    cases r with
    | nil => rw [cst_one, if_neg q] at h; omega
    | cons z r => obtain ⟨f', v'⟩ := z; rw [cst_two, if_neg q] at h; omega
theorem cst_lt {r : List (Nat × Nat)} (hr : r ≠ []) (hu : ∀ f, u f < 2 ^ wl) {w : Nat} (h : cst wl u c r w < 1000) : w < wl := by
  cases r with
  | nil => exact absurd rfl hr
  | cons q r =>
    have := cst_bit h
    rcases Nat.lt_or_ge w wl with z | z
    · exact z
    · rw [Nat.testBit_lt_two_pow (Nat.lt_of_lt_of_le (hu q.1) (Nat.pow_le_pow_right (by omega) z))] at this
      cases this
theorem cst_fin : ∀ {r : List (Nat × Nat)} {w : Nat}, cst wl u c r w < 1000 → cst wl u c r w ≤ r.length - 1 := by
  intro r
  induction r with
  | nil => intro w _; exact Nat.zero_le _
  | cons q r ih =>
    intro w h
    obtain ⟨f, v⟩ := q
    have hb := cst_bit h
    cases r with
    | nil => rw [cst_one, if_pos hb]; omega
    | cons q2 r =>
      obtain ⟨f', v'⟩ := q2
      rw [cst_two, if_pos hb] at h ⊢
      simp only [List.length_cons] at ih ⊢
      split at h
      · rename_i q3
        rw [if_pos q3]
        rcases mnl_att wl (fun x => cst wl u c ((f', v') :: r) x + 1) (cst wl u c ((f', v') :: r) w) with z | ⟨x, hx, z⟩
        · rw [z] at h ⊢; have := ih h; omega
        · rw [z] at h ⊢; have := ih (w := x) (by omega); omega
      · rename_i q3
        rw [if_neg q3]
        have := ih h; omega
theorem cst_top : ∀ (r : List (Nat × Nat)) (w : Nat), cst wl u c r w ≤ 1000 := by
  intro r
  induction r with
  | nil => intro w; exact Nat.zero_le _
  | cons q r ih =>
    intro w
    obtain ⟨f, v⟩ := q
    cases r with
    | nil => rw [cst_one]; split <;> omega
    | cons q2 r =>
      obtain ⟨f', v'⟩ := q2
      rw [cst_two]
      split
      · split
        · exact Nat.le_trans (mnl_b _ _ _) (ih w)
        · exact ih w
      · exact Nat.le_refl _
theorem cst_le {f v w k : Nat} {f' v' : Nat} {r : List (Nat × Nat)} (hk : k < 1000) : cst wl u c ((f, v) :: (f', v') :: r) w ≤ k ↔ (u f).testBit w = true ∧ (cst wl u c ((f', v') :: r) w ≤ k ∨ (c v' = true ∧ 0 < k ∧ ∃ x, x < wl ∧ cst wl u c ((f', v') :: r) x ≤ k - 1)) := by
  rw [cst_two]
  by_cases hb : (u f).testBit w = true
  · rw [if_pos hb]
    simp only [hb, true_and]
    by_cases hc : c v' = true
    · rw [if_pos hc, mnl_le]
      simp only [hc, true_and]
      constructor
      · rintro (h | ⟨x, h1, h2⟩)
        · exact .inl h
        · exact .inr ⟨by omega, x, h1, by omega⟩
      · rintro (h | ⟨h0, x, h1, h2⟩)
        · exact .inl h
        · exact .inr ⟨x, h1, by omega⟩
    · rw [if_neg hc]
      constructor
      · exact fun h => .inl h
      · rintro (h | ⟨h, _⟩)
        · exact h
        · exact absurd h hc
  · rw [if_neg hb]
    constructor
    · intro h; omega
    · rintro ⟨h, _⟩; exact absurd h hb
/-- the wavelengths from which the rest needs at most k conversions -/
def wit (wl : Nat) (u : Nat → Nat) (c : Nat → Bool) (r : List (Nat × Nat)) (k : Nat) : Nat := mk 8 (fun w => decide (cst wl u c r w ≤ k))
theorem wit_lt (r : List (Nat × Nat)) (k : Nat) : wit wl u c r k < 2 ^ 8 := mk_lt _ _
theorem wit_nil (k : Nat) : wit wl u c [] k = 255 := by
  unfold wit
  rw [show (255 : Nat) = 2 ^ 8 - 1 from rfl, ← mk_all]
  apply mk_ext; intro i _; exact decide_eq_true (Nat.zero_le _)
theorem wit_z {r : List (Nat × Nat)} (hr : r ≠ []) (hu : ∀ f, u f < 2 ^ wl) (hw : wl ≤ 8) {k : Nat} (hk : k < 1000) : wit wl u c r k = 0 ↔ ¬ ∃ x, x < wl ∧ cst wl u c r x ≤ k := by
  unfold wit
  rw [mk_zero]
  constructor
  · rintro h ⟨x, h1, h2⟩
    have := h x (by omega)
    rw [decide_eq_false_iff_not] at this; exact this h2
  · intro h x hx
    rw [decide_eq_false_iff_not]
    intro q
    exact h ⟨x, cst_lt (c := c) hr hu (Nat.lt_of_le_of_lt q hk), q⟩
theorem wit_cons {f v f' v' k : Nat} {r : List (Nat × Nat)} (hu : ∀ f, u f < 2 ^ wl) (hw : wl ≤ 8) (hk : k < 1000) : wit wl u c ((f, v) :: (f', v') :: r) k = u f &&& (if c v' = true ∧ 0 < k ∧ wit wl u c ((f', v') :: r) (k - 1) ≠ 0 then 255 else wit wl u c ((f', v') :: r) k) := by
  have h8 : ∀ g, u g < 2 ^ 8 := fun g => Nat.lt_of_lt_of_le (hu g) (Nat.pow_le_pow_right (by omega) hw)
  have hR : (if c v' = true ∧ 0 < k ∧ wit wl u c ((f', v') :: r) (k - 1) ≠ 0 then 255 else wit wl u c ((f', v') :: r) k) < 2 ^ 8 := by
    split
    · omega
    · exact wit_lt _ _
  apply bits_eq (n := 8) (wit_lt _ _) (Nat.and_lt_two_pow _ hR)
  intro w hw8
  rw [Nat.testBit_and]
  unfold wit
  rw [mk_bit]
  simp only [hw8, decide_true, Bool.true_and]
  rw [Bool.eq_iff_iff, decide_eq_true_iff, cst_le hk, Bool.and_eq_true]
  have hz := wit_z (wl := wl) (u := u) (c := c) (r := (f', v') :: r) (by simp) hu hw (k := k - 1) (by omega)
  constructor
  · rintro ⟨h1, h2⟩
    refine ⟨h1, ?_⟩
    split
    · rw [show (255 : Nat) = 2 ^ 8 - 1 from rfl, Nat.testBit_two_pow_sub_one]; simp [hw8]
    · rename_i q
      rw [mk_bit]
      simp only [hw8, decide_true, Bool.true_and, decide_eq_true_iff]
      rcases h2 with h2 | ⟨h2, h3, h4⟩
      · exact h2
      · exfalso; apply q
        refine ⟨h2, h3, ?_⟩
        intro z
        exact hz.mp z h4
  · rintro ⟨h1, h2⟩
    refine ⟨h1, ?_⟩
    split at h2
    · rename_i q
      obtain ⟨q1, q2, q3⟩ := q
      refine .inr ⟨q1, q2, ?_⟩
      apply Classical.byContradiction
      intro z
      exact q3 (hz.mpr z)
    · rw [mk_bit] at h2
      simp only [hw8, decide_true, Bool.true_and, decide_eq_true_iff] at h2
      exact .inl h2
theorem wit_one {f v k : Nat} (hu : ∀ f, u f < 2 ^ wl) (hw : wl ≤ 8) (hk : k < 1000) : wit wl u c [(f, v)] k = u f &&& 255 := by
  have h8 : ∀ g, u g < 2 ^ 8 := fun g => Nat.lt_of_lt_of_le (hu g) (Nat.pow_le_pow_right (by omega) hw)
  apply bits_eq (n := 8) (wit_lt _ _) (Nat.and_lt_two_pow _ (by omega))
  intro w hw8
  rw [Nat.testBit_and, show (255 : Nat) = 2 ^ 8 - 1 from rfl, Nat.testBit_two_pow_sub_one]
  unfold wit
  rw [mk_bit, cst_one]
  simp only [hw8, decide_true, Bool.true_and, Bool.and_true]
  by_cases q : (u f).testBit w = true
  · rw [q, if_pos rfl]; rfl
  · rw [if_neg q]; rw [Bool.not_eq_true] at q; rw [q]; exact decide_eq_false (by omega)
/-- the reached wavelengths behind one more channel -/
def rst (u : Nat → Nat) (c : Nat → Bool) (R : Nat) (q : Nat × Nat) : Nat := if c q.2 = true then u q.1 else u q.1 &&& R
def rok (u : Nat → Nat) (c : Nat → Bool) : Nat → List (Nat × Nat) → Prop
  | _, [] => True
  | R, q :: r => rst u c R q ≠ 0 ∧ rok u c (rst u c R q) r
theorem nz_bit {m n : Nat} (h : m < 2 ^ n) : m ≠ 0 ↔ ∃ i, i < n ∧ m.testBit i = true := by
  constructor
  · intro q
    apply Classical.byContradiction
    intro z
    apply q
    apply bits_eq h (Nat.two_pow_pos n)
    intro i hi
    rw [Nat.zero_testBit, ← Bool.not_eq_true]
    intro z2
    exact z ⟨i, hi, z2⟩
  · rintro ⟨i, _, h2⟩ rfl
    rw [Nat.zero_testBit] at h2; cases h2
theorem rok_iff (hu : ∀ f, u f < 2 ^ wl) : ∀ (r : List (Nat × Nat)) (R f v : Nat), r.length ≤ 100 → R ≠ 0 → R < 2 ^ 8 → wl ≤ 8 → (rok u c R ((f, v) :: r) ↔ (∃ w, R.testBit w = true ∧ cst wl u c ((f, v) :: r) w < 1000) ∨ (c v = true ∧ ∃ w, cst wl u c ((f, v) :: r) w < 1000)) := by
  intro r
  induction r with
  | nil =>
    intro R f v hl hR hR8 hw
    rw [rok, rok]
    unfold rst
    simp only [and_true]
    by_cases hc : c v = true
    · rw [if_pos hc, nz_bit (hu f)]
      constructor
      · rintro ⟨i, _, h2⟩
        exact .inr ⟨hc, i, by rw [cst_one, if_pos h2]; omega⟩
      · rintro (⟨w, _, h2⟩ | ⟨_, w, h2⟩)
        · exact ⟨w, cst_lt (by simp) hu h2, cst_bit h2⟩
        · exact ⟨w, cst_lt (by simp) hu h2, cst_bit h2⟩
    · rw [if_neg hc, nz_bit (Nat.and_lt_two_pow _ hR8)]
      constructor
      · rintro ⟨i, _, h2⟩
        rw [Nat.testBit_and, Bool.and_eq_true] at h2
        exact .inl ⟨i, h2.2, by rw [cst_one, if_pos h2.1]; omega⟩
      · rintro (⟨w, h1, h2⟩ | ⟨h1, _⟩)
        · exact ⟨w, by have := cst_lt (by simp) hu h2; omega, by rw [Nat.testBit_and, h1, cst_bit h2]; rfl⟩
        · exact absurd h1 hc
  | cons q r ih =>
    intro R f v hl hR hR8 hw
    obtain ⟨f', v'⟩ := q
    have hR' : rst u c R (f, v) < 2 ^ 8 := by
      have h8 : ∀ g, u g < 2 ^ 8 := fun g => Nat.lt_of_lt_of_le (hu g) (Nat.pow_le_pow_right (by omega) hw)
      unfold rst; split
      · exact h8 _
      · exact Nat.and_lt_two_pow _ hR8
    have hstep : ∀ w, cst wl u c ((f, v) :: (f', v') :: r) w < 1000 ↔ (u f).testBit w = true ∧ (cst wl u c ((f', v') :: r) w < 1000 ∨ (c v' = true ∧ ∃ x, cst wl u c ((f', v') :: r) x < 1000)) := by
      intro w
      have h := cst_le (wl := wl) (u := u) (c := c) (f := f) (v := v) (w := w) (k := 999) (f' := f') (v' := v') (r := r) (by omega)
      constructor
      · intro q
        obtain ⟨h1, h2⟩ := h.mp (by omega)
        refine ⟨h1, ?_⟩
        rcases h2 with h2 | ⟨h2, _, x, _, h3⟩
        · exact .inl (by omega)
        · exact .inr ⟨h2, x, by omega⟩
      · rintro ⟨h1, h2⟩
        rw [show cst wl u c ((f, v) :: (f', v') :: r) w < 1000 ↔ cst wl u c ((f, v) :: (f', v') :: r) w ≤ 999 by omega]
        refine h.mpr ⟨h1, ?_⟩
        rcases h2 with h2 | ⟨h2, x, h3⟩
        · exact .inl (by omega)
        · have := cst_fin h3
          simp only [List.length_cons] at this hl
          exact .inr ⟨h2, by omega, x, cst_lt (by simp) hu h3, by omega⟩
    rw [rok]
    simp only [List.length_cons] at hl
    constructor
    · rintro ⟨h1, h2⟩
      rw [ih _ f' v' (by omega) h1 hR' hw] at h2
      obtain ⟨w, hw1, hw2⟩ := (nz_bit hR').mp h1
      unfold rst at h2 hw2
      have hbit : ∀ w, (if c v = true then u f else u f &&& R).testBit w = true → (u f).testBit w = true ∧ (c v = true ∨ R.testBit w = true) := by
        intro w hw
        split at hw
        · rename_i q; exact ⟨hw, .inl q⟩
        · rw [Nat.testBit_and, Bool.and_eq_true] at hw; exact ⟨hw.1, .inr hw.2⟩
      have fin : ∀ w, (u f).testBit w = true ∧ (c v = true ∨ R.testBit w = true) → cst wl u c ((f, v) :: (f', v') :: r) w < 1000 → (∃ w, R.testBit w = true ∧ cst wl u c ((f, v) :: (f', v') :: r) w < 1000) ∨ (c v = true ∧ ∃ w, cst wl u c ((f, v) :: (f', v') :: r) w < 1000) := by
        rintro w ⟨_, z | z⟩ hc
        · exact .inr ⟨z, w, hc⟩
        · exact .inl ⟨w, z, hc⟩
      rcases h2 with ⟨x, z1, z2⟩ | ⟨z1, x, z2⟩
      · have := hbit x z1
        exact fin x this ((hstep x).mpr ⟨this.1, .inl z2⟩)
      · have := hbit w hw2
        exact fin w this ((hstep w).mpr ⟨this.1, .inr ⟨z1, x, z2⟩⟩)
    · intro h
      have : ∃ w, (rst u c R (f, v)).testBit w = true ∧ cst wl u c ((f, v) :: (f', v') :: r) w < 1000 := by
        rcases h with ⟨w, h1, h2⟩ | ⟨h1, w, h2⟩
        · refine ⟨w, ?_, h2⟩
          have hb := cst_bit h2
          unfold rst; split
          · exact hb
          · rw [Nat.testBit_and, hb, h1]; rfl
        · refine ⟨w, ?_, h2⟩
          unfold rst; rw [if_pos h1]; exact cst_bit h2
      obtain ⟨w, h1, h2⟩ := this
      have hz : rst u c R (f, v) ≠ 0 := fun z => by rw [z, Nat.zero_testBit] at h1; cases h1
      refine ⟨hz, ?_⟩
      rw [ih _ f' v' (by omega) hz hR' hw]
      rcases (hstep w).mp h2 with ⟨_, z | ⟨z1, x, z2⟩⟩
      · exact .inl ⟨w, h1, z⟩
      · exact .inr ⟨z1, x, z2⟩
theorem rok_lay {p : List (Nat × Nat)} (hp : p ≠ []) (hl : p.length ≤ 100) (hu : ∀ f, u f < 2 ^ wl) (hw : wl ≤ 8) : rok u c 255 p ↔ mnl wl (cst wl u c p) 1000 < 1000 := by
  cases p with
  | nil => exact absurd rfl hp
  | cons q r =>
    obtain ⟨f, v⟩ := q
    rw [rok_iff hu r 255 f v (by simp only [List.length_cons] at hl; omega) (by omega) (by omega) hw]
    rw [show mnl wl (cst wl u c ((f, v) :: r)) 1000 < 1000 ↔ mnl wl (cst wl u c ((f, v) :: r)) 1000 ≤ 999 by omega, mnl_le]
    constructor
    · rintro (⟨w, _, h⟩ | ⟨_, w, h⟩)
      · exact .inr ⟨w, cst_lt (by simp) hu h, by omega⟩
      · exact .inr ⟨w, cst_lt (by simp) hu h, by omega⟩
    · rintro (h | ⟨w, h1, h2⟩)
      · omega
      · refine .inl ⟨w, ?_, by omega⟩
        rw [show (255 : Nat) = 2 ^ 8 - 1 from rfl, Nat.testBit_two_pow_sub_one]; simp; omega
/-- the wavelength of the next channel: it is there, and the conversions left are its own -/
theorem nxt_spec {f v f' v' w : Nat} {r : List (Nat × Nat)} (hu : ∀ f, u f < 2 ^ wl) (h : cst wl u c ((f, v) :: (f', v') :: r) w < 1000) :
    ∃ x, x < wl ∧ cst wl u c ((f', v') :: r) x + (if x = w then 0 else if c v' = true then 1 else 1000) = cst wl u c ((f, v) :: (f', v') :: r) w := by
  have hb := cst_bit h
  rw [cst_two, if_pos hb] at h ⊢
  by_cases hc : c v' = true
  · rw [if_pos hc] at h ⊢
    rcases mnl_att wl (fun x => cst wl u c ((f', v') :: r) x + 1) (cst wl u c ((f', v') :: r) w) with z | ⟨x, hx, z⟩
    · rw [z] at h ⊢
      exact ⟨w, cst_lt (by simp) hu h, by rw [if_pos rfl, if_pos hc]; rfl⟩
    · by_cases q : x = w
      · exfalso
        have := mnl_b wl (fun x => cst wl u c ((f', v') :: r) x + 1) (cst wl u c ((f', v') :: r) w)
        rw [z, q] at this; omega
      · exact ⟨x, hx, by rw [if_neg q, if_pos hc, z]⟩
  · rw [if_neg hc] at h ⊢
    exact ⟨w, cst_lt (by simp) hu h, by rw [if_pos rfl, if_neg hc]; rfl⟩
theorem nxt_is {f v f' v' w : Nat} {r : List (Nat × Nat)} (hu : ∀ f, u f < 2 ^ wl) (h : cst wl u c ((f, v) :: (f', v') :: r) w < 1000) :
    nxt wl u c ((f', v') :: r) (cst wl u c ((f, v) :: (f', v') :: r) w) w < wl ∧ cst wl u c ((f', v') :: r) (nxt wl u c ((f', v') :: r) (cst wl u c ((f, v) :: (f', v') :: r) w) w) + (if nxt wl u c ((f', v') :: r) (cst wl u c ((f, v) :: (f', v') :: r) w) w = w then 0 else if c v' = true then 1 else 1000) = cst wl u c ((f, v) :: (f', v') :: r) w := by
  obtain ⟨x, h1, h2⟩ := nxt_spec hu h
  have h3 : nxt wl u c ((f', v') :: r) (cst wl u c ((f, v) :: (f', v') :: r) w) w < wl := low_ex (p := fun x => cst wl u c ((f', v') :: r) x + (if x = w then 0 else if c v' = true then 1 else 1000) == cst wl u c ((f, v) :: (f', v') :: r) w) h1 (by rw [beq_iff_eq]; exact h2)
  exact ⟨h3, beq_iff_eq.mp (low_is (p := fun x => cst wl u c ((f', v') :: r) x + (if x = w then 0 else if c v' = true then 1 else 1000) == cst wl u c ((f, v) :: (f', v') :: r) w) h3)⟩
theorem w0_is {p : List (Nat × Nat)} (h : mnl wl (cst wl u c p) 1000 < 1000) : w0 wl u c p < wl ∧ cst wl u c p (w0 wl u c p) = mnl wl (cst wl u c p) 1000 := by
  rcases mnl_att wl (cst wl u c p) 1000 with z | ⟨x, h1, h2⟩
  · omega
  · have h3 : w0 wl u c p < wl := low_ex (p := fun x => cst wl u c p x == mnl wl (cst wl u c p) 1000) h1 (by rw [beq_iff_eq]; exact h2.symm)
    exact ⟨h3, beq_iff_eq.mp (low_is (p := fun x => cst wl u c p x == mnl wl (cst wl u c p) 1000) h3)⟩
end LAY
