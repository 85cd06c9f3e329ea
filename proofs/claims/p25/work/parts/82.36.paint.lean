/-! THE PURE LAYER: the least number of colours, in the class -/
theorem cnt_out {n m v : Nat} {p : Nat → Bool} (hv : v < n) (hb : m.testBit v = true) (h : ∀ i, i < n → p i = (m.testBit i && !(i == v))) : cnt n p + 1 = cnt n m.testBit := by
  have key : ∀ k, k ≤ n → cnt k p + (if v < k then 1 else 0) = cnt k m.testBit := by
    intro k
    induction k with
    | zero => intro _; rfl
    | succ k ih =>
      intro hk
      have ih := ih (by omega)
      rw [cnt, cnt, ← ih, h k (by omega)]
      by_cases q : k = v
      · subst q
        rw [hb, if_pos (show k < k + 1 by omega), if_neg (show ¬ k < k by omega)]; simp
      · have e : (m.testBit k && !(k == v)) = m.testBit k := by simp [q]
        rw [e]
        by_cases q2 : v < k
        · rw [if_pos q2, if_pos (show v < k + 1 by omega)]; omega
        · rw [if_neg q2, if_neg (show ¬ v < k + 1 by omega)]; omega
  have := key n (Nat.le_refl _)
  rw [if_pos hv] at this; exact this
theorem cnt_zero {n : Nat} {p : Nat → Bool} (h : cnt n p = 0) : ∀ i, i < n → p i = false := by
  induction n with
  | zero => intro i hi; omega
  | succ n ih =>
    intro i hi
    rw [cnt] at h
    by_cases q : p n = true
    · rw [if_pos q] at h; omega
    · by_cases q2 : i = n
      · rw [q2]; simpa using q
      · exact ih (by omega) i (by omega)
theorem cnt_pos {n : Nat} {p : Nat → Bool} (h : cnt n p ≠ 0) : ∃ i, i < n ∧ p i = true := by
  induction n with
  | zero => exact absurd rfl h
  | succ n ih =>
    by_cases q : p n = true
    · exact ⟨n, by omega, q⟩
    · rw [cnt, if_neg q] at h
      obtain ⟨i, h1, h2⟩ := ih h
      exact ⟨i, by omega, h2⟩
theorem k_canPaint {n : Nat} {F : Nat → Nat} (hn : n ≤ 12) (hF : ∀ i, F i < 2 ^ 14) : ∀ (N : Nat) (S : St) (left painted used colours : Nat) (T : Nat → Nat) (P : Bool → St → Prop), n < N + painted → left < 2 ^ 12 → painted + cnt n left.testBit = n → used ≤ colours → colours ≤ 12 → (∀ c, used ≤ c → T c = 0) → (∀ c, T c < 2 ^ 14) → CoS S n F T →
    (∀ S', agr (fun _ => True) S S' → ∀ b : Bool, (b = true ↔ Ext n F T left colours) → P b S') → wp_X0_canPaint N S (nI left) (nI painted) (nI used) (nI colours) P := by
  intro N
  induction N with
  | zero => intro S left painted used colours T P h1 h2 h3; omega
  | succ N ih =>
    intro S left painted used colours T P h1 hl h3 huc hc12 hT0 hT hS hP
    rw [wp_X0_canPaint]
    dsimp only
    unfold wp_X0_canPaint_b
    rw [hS.1]
    by_cases q : painted < n
    · rw [if_pos (by simp (disch := omega) only [n_0, n_1, n_2, n_3, n_7, n_8, n_9, n_10, n_12, n_14, n_18, n_20, n_60, n_112, n_162, n_255, n_1000, nI_add, n_mul, nI_ltI, nI_leI, nI_eq, nI_clamp]; omega)]
      obtain ⟨i0, hi0, hb0⟩ := cnt_pos (n := n) (p := left.testBit) (by omega)
      refine k_mostBarred hS hn hF hT (by omega) hl hi0 hb0 _ ?_
      intro way hw hbw
      -- the ways left without this one
      have hlw : ∀ i, i < n → (left &&& (2 ^ way ^^^ (2 ^ 32 - 1))).testBit i = (left.testBit i && !(i == way)) := by
        intro i hi
        rw [Nat.testBit_and, bit_notin (by omega), Nat.testBit_two_pow]
        congr 2
        rw [Bool.eq_iff_iff, decide_eq_true_iff, beq_iff_eq]; omega
      have hstep := Ext_step (colours := colours) (F := F) hw hbw hT0 _ hlw
      have hcn := cnt_out hw hbw hlw
      have hex : ∀ b : Bool, b = true ∨ b = false := fun b => by cases b <;> simp
      have key : ∀ (M c : Nat) (S' : St), c ≤ used + 1 → c ≤ colours → used + 1 < M + c → agr (fun _ => True) S S' → (∀ c', c' < c → ¬ (T c' &&& F way = 0 ∧ Ext n F (put T c' (T c' ||| F way)) (left &&& (2 ^ way ^^^ (2 ^ 32 - 1))) colours)) → wp_X0_canPaint_21 (nI left) (nI painted) (nI used) (nI colours) P (wp_X0_canPaint N) M S' (nI way) (nI c) := by
        intro M
        induction M with
        | zero => intro c S' _ h1 h2; omega
        | succ M ih2 =>
          intro c S' hc1 hc2 hc3 hag hno
          rw [wp_X0_canPaint_21]
          dsimp only
          have hfalse : (used < c ∨ colours ≤ c) → P false S' := by
            intro hz
            refine hP S' hag false ?_
            rw [hstep]
            constructor
            · intro z; cases z
            · rintro ⟨c', g1, g2, g3, g4⟩
              exact absurd ⟨g3, g4⟩ (hno c' (by omega))
          by_cases q2 : used < c
          · rw [if_pos (by simp (disch := omega) only [n_0, n_1, n_2, n_3, n_7, n_8, n_9, n_10, n_12, n_14, n_18, n_20, n_60, n_112, n_162, n_255, n_1000, nI_add, n_mul, nI_ltI, nI_leI, nI_eq, nI_clamp]; omega)]; exact hfalse (.inl q2)
          · rw [if_neg (by simp (disch := omega) only [n_0, n_1, n_2, n_3, n_7, n_8, n_9, n_10, n_12, n_14, n_18, n_20, n_60, n_112, n_162, n_255, n_1000, nI_add, n_mul, nI_ltI, nI_leI, nI_eq, nI_clamp]; omega)]
            by_cases q3 : colours ≤ c
            · rw [if_pos (by simp (disch := omega) only [n_0, n_1, n_2, n_3, n_7, n_8, n_9, n_10, n_12, n_14, n_18, n_20, n_60, n_112, n_162, n_255, n_1000, nI_add, n_mul, nI_ltI, nI_leI, nI_eq, nI_clamp]; omega)]; exact hfalse (.inr q3)
            · rw [if_neg (by simp (disch := omega) only [n_0, n_1, n_2, n_3, n_7, n_8, n_9, n_10, n_12, n_14, n_18, n_20, n_60, n_112, n_162, n_255, n_1000, nI_add, n_mul, nI_ltI, nI_leI, nI_eq, nI_clamp]; omega)]
              have hvc : vp_in (nI c) 12 := vp_in_nI (by omega) (by omega)
              have hvw : vp_in (nI way) 12 := vp_in_nI (by omega) (by omega)
              have hS' : CoS S' n F T := hS.ag (hag.mo (fun _ _ => trivial))
              refine ⟨hvc, hvw, ?_⟩
              rw [nI_clamp (by omega), nI_clamp (by omega), hS'.2.1 way hw, hS'.2.2 c (by omega), n_and]
              have hlt : T c &&& F way < 2 ^ 14 := Nat.and_lt_two_pow _ (hF way)
              simp only [n_eq0 (show T c &&& F way < 2 ^ 31 by omega)]
              unfold wp_X0_canPaint_126
              by_cases q4 : T c &&& F way = 0
              · rw [if_pos q4]
                refine ⟨hvc, hvw, hvc, ?_⟩
                rintro S2 hS2 y hy
                rw [n_or] at hS2
                have hy2 : y = nI (max used (c + 1)) := by
                  rw [hy, nI_1]
                  by_cases z : used < c + 1
                  · rw [if_pos (by simp (disch := omega) only [n_0, n_1, n_2, n_3, n_7, n_8, n_9, n_10, n_12, n_14, n_18, n_20, n_60, n_112, n_162, n_255, n_1000, nI_add, n_mul, nI_ltI, nI_leI, nI_eq, nI_clamp]; omega), Nat.max_eq_right (by omega)]
                  · rw [if_neg (by simp (disch := omega) only [n_0, n_1, n_2, n_3, n_7, n_8, n_9, n_10, n_12, n_14, n_18, n_20, n_60, n_112, n_162, n_255, n_1000, nI_add, n_mul, nI_ltI, nI_leI, nI_eq, nI_clamp]; omega), Nat.max_eq_left (by omega)]
                subst hy2
                rw [nI_1, n_one (by omega), n_notand _ _ (by omega)]
                have hS2C : CoS S2 n F (put T c (T c ||| F way)) := by
                  subst hS2
                  refine ⟨by simp (disch := omega) only [gI_s, gJ_s, gR_s, gI_n, gJ_n, gR_n, gI_sJ, gI_sR, gI_sD, gJ_sI, gJ_sR, gJ_sD, gR_sI, gR_sJ, gR_sD]; exact hS'.1, fun i hi => by simp (disch := omega) only [gI_s, gJ_s, gR_s, gI_n, gJ_n, gR_n, gI_sJ, gI_sR, gI_sD, gJ_sI, gJ_sR, gJ_sD, gR_sI, gR_sJ, gR_sD]; exact hS'.2.1 i hi, ?_⟩
                  intro c' hc'
                  unfold put
                  by_cases z : c' = c
                  · subst z; rw [gI_s, if_pos rfl]
                  · rw [gI_n (by omega), if_neg z]; exact hS'.2.2 c' hc'
                refine ih S2 _ (painted + 1) (max used (c + 1)) colours (put T c (T c ||| F way)) _ (by omega) (Nat.lt_of_le_of_lt Nat.and_le_left hl) (by omega) (by omega) hc12 ?_ ?_ hS2C ?_
                · intro c' hc'
                  unfold put
                  rw [if_neg (by omega)]; exact hT0 c' (by omega)
                · intro c'
                  unfold put
                  split
                  · exact Nat.or_lt_two_pow (hT c) (hF way)
                  · exact hT c'
                · intro S3 hag3 b hb
                  refine ⟨hvc, hvw, hvc, ?_⟩
                  have hS3C : CoS S3 n F (put T c (T c ||| F way)) := hS2C.ag (hag3.mo (fun _ _ => trivial))
                  rintro S4 hS4
                  have hag4 : agr (fun _ => True) S S4 := by
                    intro k _
                    have a1 := hag k trivial
                    have a3 := hag3 k trivial
                    subst hS4; subst hS2
                    refine ⟨fun j => ?_, fun j => ?_, fun j => ?_, fun j => ?_⟩
                    · by_cases z : k = 183 ∧ j = c
                      · obtain ⟨rfl, rfl⟩ := z
                        rw [gI_s, hS3C.2.1 way hw, hS3C.2.2 j (by omega), hS.2.2 j (by omega)]
                        unfold put
                        rw [if_pos rfl]
                        have : nI (T j ||| F way) &&& (nI (F way) ^^^ (-1)) = nI (T j) := by
                          have hlt2 : T j ||| F way < 2 ^ 14 := Nat.or_lt_two_pow (hT j) (hF way)
                          rw [n_notand _ _ (by omega)]
                          congr 1
                          apply bits_eq (n := 14) (Nat.lt_of_le_of_lt Nat.and_le_left hlt2) (hT j)
                          intro i hi
                          rw [Nat.testBit_and, Nat.testBit_or, bit_notin (by omega)]
                          have hq : (T j &&& F way).testBit i = false := by rw [q4]; exact Nat.zero_testBit i
                          rw [Nat.testBit_and] at hq
                          revert hq
                          cases (T j).testBit i <;> cases (F way).testBit i <;> simp
                        exact this
                      · rw [gI_n z, a3.1, gI_n z, a1.1]
                    · rw [gJ_sI, a3.2.1, gJ_sI, a1.2.1]
                    · rw [gR_sI, a3.2.2.1, gR_sI, a1.2.2.1]
                    · rw [gD_sI, a3.2.2.2, gD_sI, a1.2.2.2]
                  cases b with
                  | true =>
                    rw [if_pos rfl]
                    refine hP S4 hag4 true ?_
                    rw [hstep]
                    exact ⟨fun _ => ⟨c, by omega, by omega, q4, hb.mp rfl⟩, fun _ => rfl⟩
                  | false =>
                    rw [if_neg (by simp)]
                    rintro _ rfl
                    rw [nI_1]
                    refine ih2 (c + 1) S4 (by omega) (by omega) (by omega) hag4 ?_
                    intro c' hc'
                    by_cases z : c' = c
                    · subst z
                      rintro ⟨_, z2⟩
                      have := hb.mpr z2
                      cases this
                    · exact hno c' (by omega)
              · rw [if_neg q4]
                rintro _ rfl
                rw [nI_1]
                refine ih2 (c + 1) S' (by omega) (by omega) (by omega) hag ?_
                intro c' hc'
                by_cases z : c' = c
                · subst z; exact fun z2 => q4 z2.1
                · exact hno c' (by omega)
      obtain ⟨M, hM⟩ : ∃ M, used + 1 < M := ⟨_, Nat.lt_succ_self _⟩
      exact ⟨M, key M 0 S (by omega) (by omega) (by omega) (agr.rf _ _) (fun c' hc' => absurd hc' (Nat.not_lt_zero _))⟩
    · rw [if_neg (by simp (disch := omega) only [n_0, n_1, n_2, n_3, n_7, n_8, n_9, n_10, n_12, n_14, n_18, n_20, n_60, n_112, n_162, n_255, n_1000, nI_add, n_mul, nI_ltI, nI_leI, nI_eq, nI_clamp]; omega)]
      refine hP S (agr.rf _ _) true ⟨fun _ => ?_, fun _ => rfl⟩
      have hz := cnt_zero (n := n) (p := left.testBit) (by omega)
      refine ⟨fun _ => 0, ?_, ?_⟩
      · intro i hi hb
        rw [hz i hi] at hb; cases hb
      · intro i j hi hj hb
        rw [hz i hi] at hb; cases hb
theorem nodup_le : ∀ (k : Nat) (l : List Nat), l.Nodup → (∀ c ∈ l, c < k) → l.length ≤ k := by
  intro k
  induction k with
  | zero =>
    intro l _ h
    cases l with
    | nil => exact Nat.le_refl _
    | cons c l => exact absurd (h c List.mem_cons_self) (Nat.not_lt_zero _)
  | succ k ih =>
    intro l hl h
    have h1 := ih (l.erase k) (hl.erase k) (fun c hc => by
      have h2 := (hl.mem_erase_iff).mp hc
      have := h c h2.2
      have := h2.1
      omega)
    by_cases q : k ∈ l
    · rw [List.length_erase_of_mem q] at h1; omega
    · rw [List.erase_of_not_mem q] at h1; omega
/-- ways on one fibre want as many colours -/
theorem col_busy {n k f : Nat} {F : Nat → Nat} (h : col n F k) : cnt n (fun i => (F i).testBit f) ≤ k := by
  obtain ⟨g, h1, h2⟩ := h
  have hinj : ∀ i j, i < n → j < n → i ≠ j → (F i).testBit f = true → (F j).testBit f = true → g i ≠ g j := by
    intro i j hi hj hij b1 b2
    refine h2 i j hi hj hij ?_
    intro z
    have : (F i &&& F j).testBit f = false := by rw [z]; exact Nat.zero_testBit f
    rw [Nat.testBit_and, b1, b2] at this
    cases this
  -- colours used by the ways on the fibre
  have : ∀ m, m ≤ n → ∃ l : List Nat, l.Nodup ∧ l.length = cnt m (fun i => (F i).testBit f) ∧ (∀ c ∈ l, c < k) ∧ (∀ c ∈ l, ∃ i, i < m ∧ (F i).testBit f = true ∧ g i = c) := by
    intro m
    induction m with
    | zero => intro _; exact ⟨[], List.nodup_nil, rfl, by simp, by simp⟩
    | succ m ih =>
      intro hm
      obtain ⟨l, l1, l2, l3, l4⟩ := ih (by omega)
      rw [cnt]
      by_cases q : (F m).testBit f = true
      · rw [if_pos q]
        refine ⟨g m :: l, ?_, by rw [List.length_cons, l2], ?_, ?_⟩
        · rw [List.nodup_cons]
          refine ⟨?_, l1⟩
          intro z
          obtain ⟨i, i1, i2, i3⟩ := l4 _ z
          exact hinj i m (by omega) (by omega) (by omega) i2 q i3
        · intro c hc
          rcases List.mem_cons.mp hc with rfl | hc
          · exact h1 m (by omega)
          · exact l3 c hc
        · intro c hc
          rcases List.mem_cons.mp hc with rfl | hc
          · exact ⟨m, by omega, q, rfl⟩
          · obtain ⟨i, i1, i2, i3⟩ := l4 c hc
            exact ⟨i, by omega, i2, i3⟩
      · rw [if_neg q, Nat.add_zero]
        exact ⟨l, l1, l2, l3, fun c hc => by obtain ⟨i, i1, i2, i3⟩ := l4 c hc; exact ⟨i, by omega, i2, i3⟩⟩
  obtain ⟨l, l1, l2, l3, _⟩ := this n (Nat.le_refl _)
  rw [← l2]
  exact nodup_le k l l1 l3
theorem col_n (n : Nat) (F : Nat → Nat) : col n F n := ⟨fun i => i, fun i hi => hi, fun i j _ _ hij _ => hij⟩
theorem k_busiest {S : St} {n : Nat} {F T : Nat → Nat} (hS : CoS S n F T) (hn : n ≤ 12) (hF : ∀ i, F i < 2 ^ 14) (P : Int32 → St → Prop) (hP : P (nI (mx 14 (fun f => cnt n (fun i => (F i).testBit f)))) S) : wp_X0_waysOnBusiestFibre S P := by
  have hmx : ∀ k, mx k (fun f => cnt n (fun i => (F i).testBit f)) ≤ 12 := by
    intro k
    induction k with
    | zero => exact Nat.zero_le _
    | succ k ih => rw [mx]; have := cnt_le n (fun i => (F i).testBit k); omega
  have outer : ∀ (N f : Nat), f ≤ 14 → 14 < N + f → wp_X0_waysOnBusiestFibre_4 P N S (nI (mx f (fun f => cnt n (fun i => (F i).testBit f)))) (nI f) := by
    intro N
    induction N with
    | zero => intro f h1 h2; omega
    | succ N ih =>
      intro f h1 h2
      rw [wp_X0_waysOnBusiestFibre_4]
      dsimp only
      have hm := hmx f
      by_cases q : f = 14
      · rw [if_pos (by simp (disch := omega) only [n_0, n_1, n_2, n_3, n_7, n_8, n_9, n_10, n_12, n_14, n_18, n_20, n_60, n_112, n_162, n_255, n_1000, nI_add, n_mul, nI_ltI, nI_leI, nI_eq, nI_clamp]; omega)]; rw [q]; exact hP
      · rw [if_neg (by simp (disch := omega) only [n_0, n_1, n_2, n_3, n_7, n_8, n_9, n_10, n_12, n_14, n_18, n_20, n_60, n_112, n_162, n_255, n_1000, nI_add, n_mul, nI_ltI, nI_leI, nI_eq, nI_clamp]; omega)]
        have ih := ih (f + 1) (by omega) (by omega)
        rw [mx] at ih
        have inner : ∀ (M i : Nat), i ≤ n → n < M + i → wp_X0_waysOnBusiestFibre_15 P (fun S a1 a2 => wp_X0_waysOnBusiestFibre_4 P N S a1 a2) M S (nI (mx f (fun f => cnt n (fun i => (F i).testBit f)))) (nI f) (nI (cnt i (fun i => (F i).testBit f))) (nI i) := by
          intro M
          induction M with
          | zero => intro i h1 h2; omega
          | succ M ih2 =>
            intro i hi1 hi2
            rw [wp_X0_waysOnBusiestFibre_15]
            dsimp only
            rw [hS.1]
            have hci := cnt_le i (fun i => (F i).testBit f)
            by_cases q2 : i = n
            · rw [if_pos (by simp (disch := omega) only [n_0, n_1, n_2, n_3, n_7, n_8, n_9, n_10, n_12, n_14, n_18, n_20, n_60, n_112, n_162, n_255, n_1000, nI_add, n_mul, nI_ltI, nI_leI, nI_eq, nI_clamp]; omega)]
              subst q2
              unfold wp_X0_waysOnBusiestFibre_44
              rintro y hy _ rfl
              rw [nI_1]
              generalize mx f (fun f => cnt i (fun i => (F i).testBit f)) = m at *
              generalize cnt i (fun i => (F i).testBit f) = k at *
              have : y = nI (max m k) := by
                rw [hy]
                by_cases z : m < k
                · rw [if_pos (by simp (disch := omega) only [n_0, n_1, n_2, n_3, n_7, n_8, n_9, n_10, n_12, n_14, n_18, n_20, n_60, n_112, n_162, n_255, n_1000, nI_add, n_mul, nI_ltI, nI_leI, nI_eq, nI_clamp]; omega), Nat.max_eq_right (by omega)]
                · rw [if_neg (by simp (disch := omega) only [n_0, n_1, n_2, n_3, n_7, n_8, n_9, n_10, n_12, n_14, n_18, n_20, n_60, n_112, n_162, n_255, n_1000, nI_add, n_mul, nI_ltI, nI_leI, nI_eq, nI_clamp]; omega), Nat.max_eq_left (by omega)]
              rw [this]; exact ih
            · rw [if_neg (by simp (disch := omega) only [n_0, n_1, n_2, n_3, n_7, n_8, n_9, n_10, n_12, n_14, n_18, n_20, n_60, n_112, n_162, n_255, n_1000, nI_add, n_mul, nI_ltI, nI_leI, nI_eq, nI_clamp]; omega)]
              refine ⟨vp_in_nI (by omega) (by omega), ?_⟩
              have hFi := hF i
              rw [nI_clamp (by omega), hS.2.1 i (by omega), n_bit (by omega) (by omega)]
              rintro _ rfl _ rfl
              rw [nI_add, nI_1]
              have := ih2 (i + 1) (by omega) (by omega)
              rw [cnt] at this
              have e : ((F i).testBit f).toNat = if (F i).testBit f = true then 1 else 0 := by cases (F i).testBit f <;> rfl
              rw [e]; exact this
        obtain ⟨M, hM⟩ : ∃ M, n < M := ⟨_, Nat.lt_succ_self _⟩
        exact ⟨M, inner M 0 (by omega) (by omega)⟩
  obtain ⟨N, hN⟩ : ∃ N, 14 < N := ⟨15, by omega⟩
  exact ⟨N, outer N 0 (by omega) (by omega)⟩
theorem k_least {S : St} {n : Nat} {F : Nat → Nat} (hS : CoS S n F (fun _ => 0)) (hn : n ≤ 12) (hF : ∀ i, F i < 2 ^ 14) (P : Int32 → St → Prop) (hP : ∀ S', agr (fun _ => True) S S' → ∀ k, chr n F k → P (nI k) S') : wp_X0_leastColours S P := by
  unfold wp_X0_leastColours
  refine k_busiest hS hn hF _ ?_
  have hlow : ∀ m, ∀ k', k' < mx m (fun f => cnt n (fun i => (F i).testBit f)) → ¬ col n F k' := by
    intro m
    induction m with
    | zero => intro k' hk; exact absurd hk (Nat.not_lt_zero _)
    | succ m ih =>
      intro k' hk hc
      rw [mx] at hk
      by_cases z : k' < mx m (fun f => cnt n (fun i => (F i).testBit f))
      · exact ih k' z hc
      · have := col_busy (f := m) hc
        omega
  have hle : ∀ m, mx m (fun f => cnt n (fun i => (F i).testBit f)) ≤ n := by
    intro m
    induction m with
    | zero => exact Nat.zero_le _
    | succ m ih => rw [mx]; have := cnt_le n (fun i => (F i).testBit m); omega
  have key : ∀ (N k : Nat) (S' : St), k ≤ n → n < N + k → agr (fun _ => True) S S' → (∀ k', k' < k → ¬ col n F k') → wp_X0_leastColours_5 P N S' (nI k) := by
    intro N
    induction N with
    | zero => intro k S' h1 h2; omega
    | succ N ih =>
      intro k S' h1 h2 hag hno
      have hS' : CoS S' n F (fun _ => 0) := hS.ag (hag.mo (fun _ _ => trivial))
      rw [wp_X0_leastColours_5]
      dsimp only
      rw [hS'.1]
      by_cases q : k = n
      · rw [if_pos (by simp (disch := omega) only [n_0, n_1, n_2, n_3, n_7, n_8, n_9, n_10, n_12, n_14, n_18, n_20, n_60, n_112, n_162, n_255, n_1000, nI_add, n_mul, nI_ltI, nI_leI, nI_eq, nI_clamp]; omega)]
        exact hP S' hag k ⟨by rw [q]; exact col_n n F, hno⟩
      · rw [if_neg (by simp (disch := omega) only [n_0, n_1, n_2, n_3, n_7, n_8, n_9, n_10, n_12, n_14, n_18, n_20, n_60, n_112, n_162, n_255, n_1000, nI_add, n_mul, nI_ltI, nI_leI, nI_eq, nI_clamp]; omega)]
        have e : (1 : Int32) <<< (nI n &&& 31) - 1 = nI (2 ^ n - 1) := by
          rw [n_one (by omega), n_1, n_sub (Nat.pos_of_ne_zero (by simp))]
        have h212 : 2 ^ n ≤ 2 ^ 12 := Nat.pow_le_pow_right (by omega) hn
        rw [e]
        have hfull : cnt n (2 ^ n - 1).testBit = n := by
          have : cnt n (2 ^ n - 1).testBit = cnt n (fun _ => true) := cnt_congr (fun i hi => by rw [Nat.testBit_two_pow_sub_one]; simp [hi])
          rw [this]
          have : ∀ m, cnt m (fun _ => true) = m := by intro m; induction m with
            | zero => rfl
            | succ m ih => rw [cnt, ih]; rfl
          exact this n
        refine k_canPaint hn hF 13 S' (2 ^ n - 1) 0 0 k (fun _ => 0) _ (by omega) (by omega) (by omega) (by omega) (by omega) (fun _ _ => rfl) (fun _ => by omega) hS' ?_
        intro S2 hag2 b hb
        rw [Ext_all] at hb
        cases b with
        | true =>
          rw [if_pos rfl]
          exact hP S2 (hag.tr hag2) k ⟨hb.mp rfl, hno⟩
        | false =>
          rw [if_neg (by simp)]
          rintro _ rfl
          rw [nI_1]
          refine ih (k + 1) S2 (by omega) (by omega) (hag.tr hag2) ?_
          intro k' hk' hc
          by_cases z : k' = k
          · subst z
            have := hb.mpr hc
            cases this
          · exact hno k' (by omega) hc
  obtain ⟨N, hN⟩ : ∃ N, n < N := ⟨_, Nat.lt_succ_self _⟩
  exact ⟨N, key N _ S (hle 14) (by omega) (agr.rf _ _) (hlow 14)⟩
