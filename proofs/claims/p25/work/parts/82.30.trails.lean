/-! THE PURE LAYER: rows of fibres -/
theorem cnt_le (n : Nat) (p : Nat → Bool) : cnt n p ≤ n := by
  induction n with
  | zero => exact Nat.le_refl _
  | succ n ih => rw [cnt]; split <;> omega
theorem cnt_congr {n : Nat} {p q : Nat → Bool} (h : ∀ i, i < n → p i = q i) : cnt n p = cnt n q := by
  induction n with
  | zero => rfl
  | succ n ih => rw [cnt, cnt, ih (fun i hi => h i (by omega)), h n (by omega)]
theorem cnt_full {n : Nat} {p : Nat → Bool} (h : cnt n p = n) : ∀ i, i < n → p i = true := by
  induction n with
  | zero => intro i hi; omega
  | succ n ih =>
    intro i hi
    rw [cnt] at h
    have := cnt_le n p
    by_cases q : p n = true
    · rw [if_pos q] at h
      by_cases q2 : i = n
      · rw [q2]; exact q
      · exact ih (by omega) i (by omega)
    · rw [if_neg q] at h; omega
theorem cnt_or {n m v : Nat} (hv : v < n) (hm : m.testBit v = false) : cnt n (m ||| 2 ^ v).testBit = cnt n m.testBit + 1 := by
  have key : ∀ n, cnt n (m ||| 2 ^ v).testBit = cnt n m.testBit + (if v < n then 1 else 0) := by
    intro n
    induction n with
    | zero => rfl
    | succ n ih =>
      rw [cnt, cnt, ih, Nat.testBit_or, Nat.testBit_two_pow]
      by_cases q : v = n
      · subst q
        rw [hm]; simp
      · by_cases q2 : v < n
        · rw [if_pos q2, if_pos (show v < n + 1 by omega)]; simp [q]; omega
        · rw [if_neg q2, if_neg (show ¬ v < n + 1 by omega)]; simp [q]
  rw [key, if_pos hv]
/-- the greatest product of numbers with a given sum -/
def mp (m : Nat) : Nat := [1, 1, 2, 3, 4, 6, 9, 12, 18, 27, 36, 54, 81, 108, 162].getD m 0
theorem mp_step1 : ∀ m, m < 15 → ∀ d, d < 15 → 1 ≤ d → d ≤ m → d * mp (m - d) ≤ mp m := by decide +kernel
theorem mp_step (m : Nat) (h : m < 15) (d : Nat) (h1 : 1 ≤ d) (h2 : d ≤ m) : d * mp (m - d) ≤ mp m := mp_step1 m h d (by omega) h1 h2
theorem mp_pos : ∀ m, m < 15 → 1 ≤ mp m := by decide +kernel
theorem mp_mono1 : ∀ m, m < 15 → ∀ k, k < 15 → k ≤ m → mp k ≤ mp m := by decide +kernel
theorem mp_mono (m : Nat) (h : m < 15) (k : Nat) (h2 : k ≤ m) : mp k ≤ mp m := mp_mono1 m h k (by omega) h2
/-- fibres whose ends are v or not met -/
def eds (a : Ab) (v met : Nat) : Nat → Bool := fun f => (e1 a f == v || !met.testBit (e1 a f)) && (e2 a f == v || !met.testBit (e2 a f))
/-- fibres that lead on from v -/
def ons1 (a : Ab) (v met : Nat) : Nat → Bool := fun f => match acr a v f with
  | none => false
  | some u => !met.testBit u
section EXN
variable {a : Ab} {bar : Nat → Bool} {t : Nat} {go : Nat → Nat → List (List (Nat × Nat))} {v met f u : Nat}
theorem exn_none (h : acr a v f = none) : exn a bar t go v met f = [] := by unfold exn; rw [h]
theorem exn_bar (h : bar f = true) : exn a bar t go v met f = [] := by
  unfold exn
  rcases acr a v f with _ | u
  · rfl
  · dsimp only; rw [if_pos h]
theorem exn_met (h : acr a v f = some u) (hm : met.testBit u = true) : exn a bar t go v met f = [] := by
  unfold exn
  rw [h]
  dsimp only
  by_cases q : bar f = true
  · rw [if_pos q]
  · rw [if_neg q, if_pos hm]
theorem exn_go (h : acr a v f = some u) (hb : bar f = false) (hm : met.testBit u = false) : exn a bar t go v met f = if u = t then [[(f, v)]] else (go u (met ||| 2 ^ u)).map (fun p => (f, v) :: p) := by
  unfold exn
  rw [h]
  dsimp only
  rw [if_neg (by rw [hb]; simp), if_neg (by rw [hm]; simp)]
theorem ons1_none (h : acr a v f = none) : ons1 a v met f = false := by unfold ons1; rw [h]
theorem ons1_some (h : acr a v f = some u) : ons1 a v met f = !met.testBit u := by unfold ons1; rw [h]
end EXN
theorem flat_len {A : Type} (g : Nat → List A) (p : Nat → Bool) (B : Nat) (h : ∀ f, (g f).length ≤ if p f = true then B else 0) : ∀ n, ((List.range n).flatMap g).length ≤ cnt n p * B := by
  intro n
  induction n with
  | zero => simp
  | succ n ih =>
    rw [List.range_succ, List.flatMap_append, List.length_append, cnt, Nat.add_mul]
    have := h n
    simp only [List.flatMap_cons, List.flatMap_nil, List.append_nil]
    split at this
    · rename_i q; rw [if_pos q]; omega
    · rename_i q; rw [if_neg q]; omega
theorem cnt_two {n : Nat} {p q r : Nat → Bool} (h : ∀ f, f < n → p f = true → r f = true) (h2 : ∀ f, f < n → q f = true → r f = true ∧ p f = false) : cnt n p + cnt n q ≤ cnt n r := by
  induction n with
  | zero => exact Nat.le_refl _
  | succ n ih =>
    have ih := ih (fun f hf => h f (by omega)) (fun f hf => h2 f (by omega))
    rw [cnt, cnt, cnt]
    by_cases q1 : p n = true
    · rw [if_pos q1, if_pos (h n (by omega) q1), if_neg]
      · omega
      · intro q2
        have := (h2 n (by omega) q2).2
        rw [q1] at this; cases this
    · rw [if_neg q1]
      by_cases q2 : q n = true
      · rw [if_pos q2, if_pos (h2 n (by omega) q2).1]; omega
      · rw [if_neg q2]; omega
theorem trl_len {a : Ab} (hf : nF a ≤ 14) (hne : ∀ f, f < nF a → e1 a f ≠ e2 a f) (bar : Nat → Bool) (t : Nat) : ∀ (n v met : Nat), met.testBit v = true → (trl a bar t n v met).length ≤ mp (cnt (nF a) (eds a v met)) := by
  intro n
  induction n with
  | zero => intro v met _; exact Nat.zero_le _
  | succ n ih =>
    intro v met hv
    rw [trl]
    dsimp only
    have hE : cnt (nF a) (eds a v met) ≤ 14 := Nat.le_trans (cnt_le _ _) hf
    -- the fibres that lead on, and those of the rest
    have hsub : ∀ u, met.testBit u = false → cnt (nF a) (ons1 a v met) + cnt (nF a) (eds a u (met ||| 2 ^ u)) ≤ cnt (nF a) (eds a v met) := by
      intro u hu
      have huv : u ≠ v := by rintro rfl; rw [hv] at hu; cases hu
      apply cnt_two
      · intro f hf hp
        unfold ons1 acr at hp
        unfold eds
        by_cases q1 : e1 a f = v
        · rw [if_pos q1] at hp
          simp at hp
          simp [q1, hp]
        · rw [if_neg q1] at hp
          by_cases q2 : e2 a f = v
          · rw [if_pos q2] at hp
            simp at hp
            simp [q2, hp]
          · rw [if_neg q2] at hp; cases hp
      · intro f hf hq
        unfold eds at hq ⊢
        unfold ons1 acr
        rw [Nat.testBit_or, Nat.testBit_or, Nat.testBit_two_pow, Nat.testBit_two_pow] at hq
        have h1 : e1 a f ≠ v := by
          intro q; rw [q] at hq; simp [hv, Ne.symm huv] at hq
        have h2 : e2 a f ≠ v := by
          intro q; rw [q] at hq; simp [hv, Ne.symm huv] at hq
        have g1 : met.testBit (e1 a f) = false := by
          by_cases q : e1 a f = u
          · rw [q]; exact hu
          · simp [q, Ne.symm q] at hq; exact hq.1
        have g2 : met.testBit (e2 a f) = false := by
          by_cases q : e2 a f = u
          · rw [q]; exact hu
          · simp [q, Ne.symm q] at hq; exact hq.2
        rw [if_neg h1, if_neg h2]
        simp [g1, g2]
    have hd := cnt_le (nF a) (ons1 a v met)
    by_cases hd0 : cnt (nF a) (ons1 a v met) = 0
    · skip
      have hall : ∀ f, f < nF a → exn a bar t (trl a bar t n) v met f = [] := by
        intro f hf2
        have hz : ons1 a v met f = false := by
          rw [← Bool.not_eq_true]
          intro q
          have : ∀ n, f < n → 1 ≤ cnt n (ons1 a v met) := by
            intro n
            induction n with
            | zero => intro h; omega
            | succ n ih =>
              intro h
              rw [cnt]
              by_cases z : f = n
              · subst z; rw [if_pos q]; omega
              · have := ih (by omega); omega
          have := this _ hf2
          omega
        rcases hq : acr a v f with _ | u
        · exact exn_none hq
        · rw [ons1_some hq] at hz
          exact exn_met hq (by simpa using hz)
      have : ((List.range (nF a)).flatMap (exn a bar t (trl a bar t n) v met)) = [] := by
        rw [List.flatMap_eq_nil_iff]
        intro f hf2
        exact hall f (List.mem_range.mp hf2)
      rw [this]
      exact Nat.zero_le _
    · -- some fibre leads on
      have hex : ∃ f, f < nF a ∧ ons1 a v met f = true := by
        apply Classical.byContradiction
        intro q
        apply hd0
        have : cnt (nF a) (ons1 a v met) = cnt (nF a) (fun _ => false) := cnt_congr (fun i hi => by
          rw [← Bool.not_eq_true]; intro z; exact q ⟨i, hi, z⟩)
        rw [this]
        have : ∀ n, cnt n (fun _ => false) = 0 := by intro n; induction n with
          | zero => rfl
          | succ n ih => rw [cnt, ih]; rfl
        exact this _
      have hdE : cnt (nF a) (ons1 a v met) ≤ cnt (nF a) (eds a v met) := by
        obtain ⟨f, hf1, hf2⟩ := hex
        unfold ons1 at hf2
        rcases hq : acr a v f with _ | u
        · rw [hq] at hf2; cases hf2
        · rw [hq] at hf2
          have := hsub u (by simpa using hf2)
          omega
      have hB := flat_len (exn a bar t (trl a bar t n) v met) (ons1 a v met) (mp (cnt (nF a) (eds a v met) - cnt (nF a) (ons1 a v met))) (by
        intro f
        rcases hq : acr a v f with _ | u
        · rw [exn_none hq]; exact Nat.zero_le _
        · by_cases q1 : met.testBit u = true
          · rw [exn_met hq q1]; exact Nat.zero_le _
          · rw [Bool.not_eq_true] at q1
            rw [ons1_some hq, q1, if_pos (by rfl)]
            by_cases qb : bar f = true
            · rw [exn_bar qb]; exact Nat.zero_le _
            · rw [exn_go hq (by simpa using qb) q1]
              split
              · exact mp_pos _ (by omega)
              · rw [List.length_map]
                refine Nat.le_trans (ih u (met ||| 2 ^ u) (by rw [Nat.testBit_or, Nat.testBit_two_pow]; simp)) ?_
                have := hsub u q1
                exact mp_mono _ (by omega) _ (by omega)) (nF a)
      exact Nat.le_trans hB (mp_step _ (by omega) _ (by omega) hdE)
theorem trl_162 {a : Ab} (h : WF a) (bar : Nat → Bool) (t x : Nat) : (trl a bar t 8 x (2 ^ x)).length ≤ 162 := by
  refine Nat.le_trans (trl_len h.2.2.1 (fun f hf => (h.2.2.2.2.2.1 f hf).2.2.1) bar t 8 x (2 ^ x) (by rw [Nat.testBit_two_pow]; simp)) ?_
  exact mp_mono 14 (by omega) _ (Nat.le_trans (cnt_le _ _) h.2.2.1)
