/-! THE PURE LAYER: the reference finds a way -/
theorem lxl_drop : ∀ (j : Nat) (x y : List Nat), (∀ i, i < j → x[i]? = y[i]?) → j ≤ x.length → x.length = y.length → lxl x y = lxl (x.drop j) (y.drop j) := by
  intro j
  induction j with
  | zero => intro x y _ _ _; rfl
  | succ j ih =>
    intro x y h hl he
    cases x with
    | nil => simp at hl
    | cons a x =>
      cases y with
      | nil => simp at he
      | cons b y =>
        have h0 := h 0 (by omega)
        simp at h0
        subst h0
        rw [lxl, if_pos rfl, List.drop_succ_cons, List.drop_succ_cons]
        refine ih x y (fun i hi => ?_) (by simp at hl; omega) (by simpa using he)
        have := h (i + 1) (by omega)
        simpa using this
theorem lxl_at {x y : List Nat} {j : Nat} (hj : j < x.length) (he : x.length = y.length) (h : ∀ i, i < j → x[i]? = y[i]?) (hd : j = x.length - 1 ∨ x[j]'hj ≠ y[j]'(by omega)) : lxl x y = decide (x[j]'hj < y[j]'(by omega)) := by
  rw [lxl_drop j x y h (by omega) he, List.drop_eq_getElem_cons hj, List.drop_eq_getElem_cons (show j < y.length by omega), lxl]
  by_cases q : x[j]'hj = y[j]'(by omega)
  · rw [if_pos q]
    rcases hd with z | z
    · rw [List.drop_eq_nil_of_le (show x.length ≤ j + 1 by omega), List.drop_eq_nil_of_le (show y.length ≤ j + 1 by omega)]
      rw [q]
      simp [lxl]
    · exact absurd q z
  · rw [if_neg q]
theorem m_isAhead {S : St} {k k2 : Nat} {w v : Wy} (h : RepM S k 0 w) (hw : SW w) (hwn : w.1 ≠ []) (h2 : RepM S k2 0 v) (hv : SW v) (P : Bool → St → Prop) (hP : P (ahd w v) S) : wp_X6_isAhead S k k2 P := by
  obtain ⟨a0, a7, a8, a9⟩ := h
  obtain ⟨b0, b7, b8, b9⟩ := h2
  simp only [Nat.zero_add] at a0 a7 a8 a9 b0 b7 b8 b9
  have w1 := hw.1
  have w2 := hw.2.2
  have v1 := hv.1
  have v2 := hv.2.2
  have hwl : 1 ≤ w.1.length := by
    cases hq : w.1 with
    | nil => exact absurd hq hwn
    | cons => simp
  have e7 : ((7 : Int32).toNatClampNeg) = 7 := rfl
  have v7 : vp_in (7 : Int32) 10 := vp_in_nI (n := 7) (by omega) (by omega)
  have v8 : vp_in (nI 8) 10 := vp_in_nI (by omega) (by omega)
  have v9 : vp_in (nI 9) 10 := vp_in_nI (by omega) (by omega)
  have c8 : (nI 8).toNatClampNeg = 8 := rfl
  have c9 : (nI 9).toNatClampNeg = 9 := rfl
  have hlt : ∀ x y : Nat, x < 2 ^ 31 → y < 2 ^ 31 → ∀ b : Bool, b = decide (x < y) → P b S → (if nI y ≤ nI x then P false S else P true S) := by
    intro x y hx hy b hb hPb
    by_cases q : x < y
    · rw [if_neg (by simp (disch := omega) only [n_0, n_1, n_2, n_3, n_7, n_8, n_9, n_10, n_12, n_14, n_18, n_20, n_60, n_112, n_162, n_255, n_1000, nI_add, n_mul, nI_ltI, nI_leI, nI_eq, nI_clamp]; omega)]; rw [hb, decide_eq_true q] at hPb; exact hPb
    · rw [if_pos (by simp (disch := omega) only [n_0, n_1, n_2, n_3, n_7, n_8, n_9, n_10, n_12, n_14, n_18, n_20, n_60, n_112, n_162, n_255, n_1000, nI_add, n_mul, nI_ltI, nI_leI, nI_eq, nI_clamp]; omega)]; rw [hb, decide_eq_false q] at hPb; exact hPb
  unfold ahd at hP
  obtain ⟨N, hN⟩ : ∃ N, 4 ≤ N := ⟨4, by omega⟩
  obtain ⟨M, rfl⟩ : ∃ M, N = M + 3 := ⟨N - 3, by omega⟩
  refine ⟨M + 3, ?_⟩
  show wp_X6_isAhead_3 k k2 P (M + 3) S (nI 8)
  rw [wp_X6_isAhead_3]
  dsimp only
  rw [n_9, if_neg (by simp (disch := omega) only [n_0, n_1, n_2, n_3, n_7, n_8, n_9, n_10, n_12, n_14, n_18, n_20, n_60, n_112, n_162, n_255, n_1000, nI_add, n_mul, nI_ltI, nI_leI, nI_eq, nI_clamp]; omega), c8, a8, b8]
  refine ⟨v8, v8, ?_⟩
  by_cases q1 : w.2.1 = v.2.1
  · rw [if_pos (by rw [q1])]
    rw [if_pos q1] at hP
    rintro _ rfl
    rw [nI_1]
    show wp_X6_isAhead_3 k k2 P (M + 2) S (nI 9)
    rw [wp_X6_isAhead_3]
    dsimp only
    rw [n_9, if_neg (by simp (disch := omega) only [n_0, n_1, n_2, n_3, n_7, n_8, n_9, n_10, n_12, n_14, n_18, n_20, n_60, n_112, n_162, n_255, n_1000, nI_add, n_mul, nI_ltI, nI_leI, nI_eq, nI_clamp]; omega), c9, a9, b9]
    refine ⟨v9, v9, ?_⟩
    by_cases q2 : w.2.2 = v.2.2
    · rw [if_pos (by rw [q2])]
      rw [if_pos q2] at hP
      rintro _ rfl
      rw [nI_1]
      show wp_X6_isAhead_3 k k2 P (M + 1) S (nI 10)
      rw [wp_X6_isAhead_3]
      dsimp only
      rw [n_9, if_pos (by simp (disch := omega) only [n_0, n_1, n_2, n_3, n_7, n_8, n_9, n_10, n_12, n_14, n_18, n_20, n_60, n_112, n_162, n_255, n_1000, nI_add, n_mul, nI_ltI, nI_leI, nI_eq, nI_clamp]; omega)]
      unfold wp_X6_isAhead_39
      rw [e7, a7, b7]
      refine ⟨v7, v7, ?_⟩
      by_cases q3 : w.1.length = v.1.length
      · rw [if_pos (by rw [q3])]
        rw [if_pos q3] at hP
        have key : ∀ (N j : Nat), j < w.1.length → w.1.length < N + j → (∀ i, i < j → w.1[i]? = v.1[i]?) → wp_X6_isAhead_69 k k2 P N S (nI j) := by
          intro N
          induction N with
          | zero => intro j h1 h2; omega
          | succ N ih =>
            intro j h1 h2 heq
            rw [wp_X6_isAhead_69]
            dsimp only
            rw [e7, a7, n_1, n_sub hwl]
            have hvj : vp_in (nI j) 10 := vp_in_nI (by omega) (by omega)
            have x1 := hw.b _ (List.getElem_mem h1)
            have x2 := hv.b _ (List.getElem_mem (show j < v.1.length by omega))
            have fin : (j = w.1.length - 1 ∨ w.1[j]'h1 ≠ v.1[j]'(by omega)) → wp_X6_isAhead_94 k k2 P S (nI j) := by
              intro hd
              unfold wp_X6_isAhead_94
              rw [nI_clamp (by omega), a0 j h1, b0 j (by omega)]
              refine ⟨hvj, hvj, ?_⟩
              exact hlt _ _ (by omega) (by omega) _ (lxl_at h1 q3 heq hd) hP
            refine ⟨v7, ?_⟩
            by_cases q4 : w.1.length - 1 ≤ j
            · rw [if_pos (by simp (disch := omega) only [n_0, n_1, n_2, n_3, n_7, n_8, n_9, n_10, n_12, n_14, n_18, n_20, n_60, n_112, n_162, n_255, n_1000, nI_add, n_mul, nI_ltI, nI_leI, nI_eq, nI_clamp]; omega)]
              exact fin (.inl (by omega))
            · rw [if_neg (by simp (disch := omega) only [n_0, n_1, n_2, n_3, n_7, n_8, n_9, n_10, n_12, n_14, n_18, n_20, n_60, n_112, n_162, n_255, n_1000, nI_add, n_mul, nI_ltI, nI_leI, nI_eq, nI_clamp]; omega), nI_clamp (by omega), a0 j h1, b0 j (by omega)]
              refine ⟨hvj, hvj, ?_⟩
              by_cases q5 : w.1[j]'h1 = v.1[j]'(by omega)
              · rw [if_pos (by rw [q5])]
                rintro _ rfl
                rw [← n_1, nI_1]
                refine ih (j + 1) (by omega) (by omega) ?_
                intro i hi
                by_cases z : i = j
                · subst z
                  rw [List.getElem?_eq_getElem h1, List.getElem?_eq_getElem (show i < v.1.length by omega), q5]
                · exact heq i (by omega)
              · rw [if_neg (by rw [nI_eq (by omega) (by omega)]; exact q5)]
                exact fin (.inr q5)
        obtain ⟨L, hL⟩ : ∃ L, w.1.length < L := ⟨_, Nat.lt_succ_self _⟩
        exact ⟨L, key L 0 (by omega) (by omega) (fun i hi => absurd hi (Nat.not_lt_zero _))⟩
      · rw [if_neg (by rw [nI_eq (by omega) (by omega)]; exact q3)]
        rw [if_neg q3] at hP
        exact ⟨v7, v7, hlt _ _ (by omega) (by omega) _ rfl hP⟩
    · rw [if_neg (by rw [nI_eq (by omega) (by omega)]; exact q2)]
      rw [if_neg q2] at hP
      unfold wp_X6_isAhead_18
      rw [c9, a9, b9]
      exact ⟨v9, v9, hlt _ _ (by omega) (by omega) _ rfl hP⟩
  · rw [if_neg (by rw [nI_eq (by omega) (by omega)]; exact q1)]
    rw [if_neg q1] at hP
    unfold wp_X6_isAhead_18
    rw [c8, a8, b8]
    exact ⟨v8, v8, hlt _ _ (by omega) (by omega) _ rfl hP⟩
theorem m_copies {S : St} {k k2 : Nat} {w : Wy} (hk : k ≠ k2) (h : RepM S k 0 w) (hw : w.1.length ≤ 7) (P : St → Prop) (hP : ∀ S', agr (fun q => q ≠ k2) S S' → RepM S' k2 0 w → P S') : wp_X6_copies S k k2 P := by
  have key : ∀ (N i : Nat) (S' : St), i ≤ 10 → 10 < N + i → agr (fun q => q ≠ k2) S S' → (∀ j, j < i → gI S' k2 j = gI S k j) → wp_X6_copies_2 k k2 P N S' (nI i) := by
    intro N
    induction N with
    | zero => intro i S' h1 h2; omega
    | succ N ih =>
      intro i S' h1 h2 hag hc
      rw [wp_X6_copies_2]
      dsimp only
      by_cases q : i = 10
      · rw [if_pos (by simp (disch := omega) only [n_0, n_1, n_2, n_3, n_7, n_8, n_9, n_10, n_12, n_14, n_18, n_20, n_60, n_112, n_162, n_255, n_1000, nI_add, n_mul, nI_ltI, nI_leI, nI_eq, nI_clamp]; omega)]
        subst q
        refine hP S' hag ⟨fun p hp => ?_, ?_, ?_, ?_⟩
        · rw [hc _ (by omega)]; exact h.1 p hp
        · rw [hc _ (by omega)]; exact h.2.1
        · rw [hc _ (by omega)]; exact h.2.2.1
        · rw [hc _ (by omega)]; exact h.2.2.2
      · rw [if_neg (by simp (disch := omega) only [n_0, n_1, n_2, n_3, n_7, n_8, n_9, n_10, n_12, n_14, n_18, n_20, n_60, n_112, n_162, n_255, n_1000, nI_add, n_mul, nI_ltI, nI_leI, nI_eq, nI_clamp]; omega)]
        have hv : vp_in (nI i) 10 := vp_in_nI (by omega) (by omega)
        refine ⟨hv, hv, ?_⟩
        rw [nI_clamp (by omega)]
        rintro S2 hS2 _ rfl
        rw [nI_1]
        refine ih (i + 1) S2 (by omega) (by omega) ?_ ?_
        · subst hS2; exact hag.tr (agr_sI (by simp) _ _ _)
        · intro j hj
          subst hS2
          by_cases z : j = i
          · subst z; rw [gI_s, (hag k hk).1]
          · rw [gI_n (by omega)]; exact hc j (by omega)
  obtain ⟨N, hN⟩ : ∃ N, 10 < N := ⟨11, by omega⟩
  exact ⟨N, key N 0 S (by omega) (by omega) (agr.rf _ _) (fun j hj => absurd hj (Nat.not_lt_zero _))⟩
/-- a row of fibres that can be laid -/
def GP (a : Ab) (p : List (Nat × Nat)) : Prop := p ≠ [] ∧ p.length ≤ 7 ∧ (∀ q ∈ p, q.1 < nF a) ∧ (∀ q ∈ p, q.2 < 8)
theorem trl_good {a : Ab} (h : WF a) (bar : Nat → Bool) (t : Nat) : ∀ (n v met : Nat) (p : List (Nat × Nat)), v < nD a → met.testBit v = true → cnt 8 met.testBit + n = 9 → p ∈ trl a bar t n v met → p.length + 1 ≤ n ∧ ∀ q ∈ p, q.2 < 8 := by
  have h8 := h.1.2
  intro n
  induction n with
  | zero => intro v met p _ _ _ hp; cases hp
  | succ n ih =>
    intro v met p hv hmv hc hp
    rw [trl_succ, List.mem_flatMap] at hp
    obtain ⟨f, hf, hp⟩ := hp
    have hf := List.mem_range.mp hf
    rcases hq : acr a v f with _ | u
    · rw [exn_none hq] at hp; cases hp
    · by_cases hb : bar f = true
      · rw [exn_bar hb] at hp; cases hp
      · by_cases hm : met.testBit u = true
        · rw [exn_met hq hm] at hp; cases hp
        · have hm : met.testBit u = false := by simpa using hm
          obtain ⟨hud, _⟩ := acr_lt h.2.2.2.2.2.1 hf hq
          have hcn := cnt_or (n := 8) (m := met) (v := u) (by omega) hm
          have hcl := cnt_le 8 (met ||| 2 ^ u).testBit
          rw [exn_go hq (by simpa using hb) hm] at hp
          by_cases ht : u = t
          · rw [if_pos ht, List.mem_singleton] at hp
            subst hp
            refine ⟨by simp; omega, fun q hq2 => ?_⟩
            rw [List.mem_singleton] at hq2; subst hq2; show v < 8; omega
          · rw [if_neg ht, List.mem_map] at hp
            obtain ⟨p', hp', rfl⟩ := hp
            obtain ⟨i1, i2⟩ := ih u (met ||| 2 ^ u) p' hud (by rw [Nat.testBit_or, Nat.testBit_two_pow]; simp) (by omega) hp'
            refine ⟨by simp only [List.length_cons]; omega, fun q hq2 => ?_⟩
            rcases List.mem_cons.mp hq2 with rfl | hq2
            · show v < 8; omega
            · exact i2 q hq2
theorem trl_GP {a : Ab} (h : WF a) (bar : Nat → Bool) {t x : Nat} (hx : x < nD a) {p : List (Nat × Nat)} (hp : p ∈ trl a bar t 8 x (2 ^ x)) : GP a p := by
  have h8 := h.1.2
  have hv : (2 ^ x).testBit x = true := by rw [Nat.testBit_two_pow]; simp
  have hc : cnt 8 (2 ^ x).testBit + 8 = 9 := by
    have := cnt_or (n := 8) (m := 0) (v := x) (by omega) (by simp)
    rw [Nat.zero_or] at this
    rw [this]; rfl
  obtain ⟨g1, g2⟩ := trl_good h bar t 8 x (2 ^ x) p hx hv hc hp
  obtain ⟨g3, g4, _⟩ := trl_mem h.2.2.2.2.2.1 bar t 8 x (2 ^ x) p hv hp
  exact ⟨g3, by omega, fun q hq => (g4 q hq).1, g2⟩
theorem lay_SW {a : Ab} (h : WF a) {u : Nat → Nat} {c : Nat → Bool} (hu : ∀ f, u f < 2 ^ nW a) {p : List (Nat × Nat)} (hp : GP a p) {W : Wy} (hW : lay a u c p = some W) : SW W ∧ W.1 ≠ [] := by
  have hw8 := h.2.1.2
  have h14 := h.2.2.1
  obtain ⟨g1, g2, g3, g4⟩ := hp
  obtain ⟨h1, rfl⟩ := lay_some hW
  obtain ⟨w1, w2⟩ := w0_is h1
  have hcl := chs_len (c := c) hu hw8 (p := p) (w := w0 (nW a) u c p) (by omega)
  have hfin := cst_fin (wl := nW a) (u := u) (c := c) (r := p) (w := w0 (nW a) u c p) (by omega)
  have hlen : ∀ (l : List (Nat × Nat)), (∀ q ∈ l, q.1 < nF a) → lenOf a l ≤ 1000 * l.length := by
    intro l
    unfold lenOf
    have : ∀ (l : List (Nat × Nat)) (b : Nat), (∀ q ∈ l, q.1 < nF a) → (l.map (fun q => el a q.1)).foldl (· + ·) b ≤ b + 1000 * l.length := by
      intro l
      induction l with
      | nil => intro b _; exact Nat.le_refl _
      | cons q l ih =>
        intro b hq
        rw [List.map_cons, List.foldl_cons, List.length_cons]
        have := ih (b + el a q.1) (fun z hz => hq z (List.mem_cons_of_mem _ hz))
        have := (h.2.2.2.2.2.1 q.1 (hq q List.mem_cons_self)).2.2.2.2
        omega
    intro hq
    have := this l 0 hq
    omega
  refine ⟨⟨by show (chs _ _ _ _ _).length ≤ 7; omega, chs_256 hu hw8 (fun q hq => by have := g3 q hq; omega) (by omega), ?_, ?_⟩, ?_⟩
  · have := hlen p g3
    show lenOf a p ≤ 7000
    omega
  · show mnl (nW a) (cst (nW a) u c p) 1000 ≤ 7
    omega
  · intro z
    have : (chs (nW a) u c p (w0 (nW a) u c p)).length = 0 := by rw [show chs (nW a) u c p (w0 (nW a) u c p) = [] from z]; rfl
    rw [hcl] at this
    exact g1 (List.length_eq_zero_iff.mp this)
def BstM (S : St) (r : Option Wy) : Prop := (r = none → gI S 384 7 = 0) ∧ (∀ w, r = some w → RepM S 384 0 w ∧ SW w ∧ w.1 ≠ [])
theorem m_sets {S : St} {a : Ab} (h : WF a) {k x : Nat} (hx : x < nD a) (P : St → Prop) (hP : ∀ S', agr (fun q => q ≠ k) S S' → Row S' k [(x, 2 ^ x, 0)] → Chn a [(x, 2 ^ x, 0)] → P S') : wp_X6_sets S k (nI x) P := by
  have h8 := h.1.2
  unfold wp_X6_sets
  have e0 : ((0 : Int32).toNatClampNeg) = 0 := rfl
  have e1 : ((1 : Int32).toNatClampNeg) = 1 := rfl
  have e10 : ((10 : Int32).toNatClampNeg) = 10 := rfl
  have e18 : ((18 : Int32).toNatClampNeg) = 18 := rfl
  rw [e0, e1, e10, e18, n_one (by omega)]
  refine ⟨vp_in_nI (n := 0) (by omega) (by omega), ?_⟩
  rintro S1 hS1
  refine ⟨vp_in_nI (n := 1) (by omega) (by omega), ?_⟩
  rintro S2 hS2
  refine ⟨vp_in_nI (n := 10) (by omega) (by omega), ?_⟩
  rintro S3 hS3
  refine ⟨vp_in_nI (n := 18) (by omega) (by omega), ?_⟩
  rintro S4 hS4
  refine hP S4 ?_ ?_ ?_
  · subst hS4; subst hS3; subst hS2; subst hS1
    exact (((agr_sI (by simp) _ _ _).tr (agr_sI (by simp) _ _ _)).tr (agr_sI (by simp) _ _ _)).tr (agr_sI (by simp) _ _ _)
  · rw [Row]
    subst hS4; subst hS3; subst hS2; subst hS1
    refine ⟨?_, ?_, ?_, ?_, trivial⟩
    · rw [gI_n (by omega), gI_n (by omega), gI_n (by omega), gI_s]; rfl
    · rw [gI_n (by omega), gI_n (by omega), gI_s]
    · rw [gI_n (by simp), show 10 + ([] : List (Nat × Nat × Nat)).length = 10 from rfl, gI_s]
    · rw [show 18 + ([] : List (Nat × Nat × Nat)).length = 18 from rfl, gI_s]; rfl
  · refine ⟨hx, Nat.zero_le _, Nat.pow_lt_pow_right (by omega) (by omega), by rw [Nat.testBit_two_pow]; simp, ?_, rfl, trivial⟩
    have := cnt_or (n := 8) (m := 0) (v := x) (by omega) (by simp)
    rw [Nat.zero_or] at this
    rw [this]; rfl
theorem Rm_start (a : Ab) (bar : Nat → Bool) (to x : Nat) : Rm a bar to [(x, 2 ^ x, 0)] = trl a bar to 8 x (2 ^ x) := by
  rw [Rm, Rm, pth, List.append_nil, trl_succ, List.range_eq_range', Nat.sub_zero]
  simp
theorem m_finds {S : St} {a : Ab} (h : WF a) (hI : InvM S a) {x t own st : Nat} {o : Int32} (hx : x < nD a) (ht : t < nD a) (ho : Own o own) (hst : st < 2 ^ 8) (P : Bool → St → Prop)
    (hP : ∀ S', agr (fun q => q ≠ 380 ∧ q ≠ 382 ∧ q ≠ 384 ∧ q ≠ 386) S S' → BstM S' (pick (kpt a (fun f => usb a own f &&& st) (cv a) x t)) → P (pick (kpt a (fun f => usb a own f &&& st) (cv a) x t)).isSome S') : wp_X6_finds S (nI x) (nI t) o (nI st) P := by
  have e7 : ((7 : Int32).toNatClampNeg) = 7 := rfl
  have v7 : vp_in (7 : Int32) 10 := vp_in_nI (n := 7) (by omega) (by omega)
  have hu : ∀ f, usb a own f &&& st < 2 ^ nW a := fun f => Nat.lt_of_le_of_lt Nat.and_le_left (usb_lt a own f)
  have hz : (fun f => (0 : Nat).testBit f) = (fun _ => false) := by funext f; exact Nat.zero_testBit f
  unfold wp_X6_finds
  rw [e7]
  refine ⟨v7, ?_⟩
  rintro S1 hS1
  have hag1 : agr (fun q => q ≠ 380 ∧ q ≠ 382 ∧ q ≠ 384 ∧ q ≠ 386) S S1 := by subst hS1; exact agr_sI (by simp) _ _ _
  refine m_sets h hx _ ?_
  intro S2 hag2 hR2 hC2
  have key : ∀ (N : Nat) (Ls : List (Nat × Nat × Nat)) (b : Option Wy) (S' : St), (Rm a (fun _ => false) t Ls).length < N → agr (fun q => q ≠ 380 ∧ q ≠ 382 ∧ q ≠ 384 ∧ q ≠ 386) S S' → Row S' 380 Ls → Chn a Ls → Ls.length ≤ 8 → (∀ p ∈ Rm a (fun _ => false) t Ls, GP a p) → BstM S' b →
      ((Rm a (fun _ => false) t Ls).filterMap (lay a (fun f => usb a own f &&& st) (cv a))).foldl pk1 b = pick (kpt a (fun f => usb a own f &&& st) (cv a) x t) → wp_X6_finds_16 (nI x) (nI t) o (nI st) P N S' := by
    intro N
    induction N with
    | zero => intro Ls b S' h1; omega
    | succ N ih =>
      intro Ls b S' h1 hag hR hC hl hG hB hf
      rw [wp_X6_finds_16]
      dsimp only
      unfold wp_X6_goesOn
      obtain ⟨M, hM⟩ : ∃ M, ms a Ls < M := ⟨_, Nat.lt_succ_self _⟩
      refine ⟨M, ?_⟩
      have hI' : InvM S' a := hI.ag (hag.mo (fun q hq => by unfold CM at hq; omega))
      refine k_goesOn (b := 0) h (.inl rfl) (by omega) ht _ M Ls S' hM hI' hR hC hl ?_ ?_
      · rw [hz]
        intro hnil S3 hag3
        rw [if_neg (by simp)]
        unfold wp_X6_finds_85
        rw [hnil] at hf
        have hf : b = pick (kpt a (fun f => usb a own f &&& st) (cv a) x t) := hf
        have hB3 : BstM S3 b := by
          have c := hag3 384 (by omega)
          exact ⟨fun z => by rw [c.1]; exact hB.1 z, fun w hw => ⟨(hB.2 w hw).1.ag c, (hB.2 w hw).2⟩⟩
        rw [← hf] at hP
        have hP := hP S3 (hag.tr (hag3.mo (fun q hq => hq.1))) hB3
        rw [e7]
        refine ⟨v7, ?_⟩
        rcases hb : b with _ | w
        · rw [hB3.1 hb, if_pos (by decide)]
          rw [hb] at hP; exact hP
        · obtain ⟨g1, g2, g3⟩ := hB3.2 w hb
          have := g1.2.1
          rw [Nat.zero_add] at this
          have hl1 : 1 ≤ w.1.length := by
            cases hq : w.1 with
            | nil => exact absurd hq g3
            | cons => simp
          have := g2.1
          rw [‹gI S3 384 7 = _›, if_neg (by simp (disch := omega) only [n_0, n_1, n_2, n_3, n_7, n_8, n_9, n_10, n_12, n_14, n_18, n_20, n_60, n_112, n_162, n_255, n_1000, nI_add, n_mul, nI_ltI, nI_leI, nI_eq, nI_clamp]; omega)]
          rw [hb] at hP; exact hP
      · rw [hz]
        intro Ls' c1 c2 c3 c4 S3 hag3 hR3 hL3
        rw [if_pos rfl]
        rw [c4] at hf hG h1
        have hp := hG (pth Ls') List.mem_cons_self
        obtain ⟨g1, g2, g3, g4⟩ := hp
        have hag03 : agr (fun q => q ≠ 380 ∧ q ≠ 382 ∧ q ≠ 384 ∧ q ≠ 386) S S3 := hag.tr (hag3.mo (fun q hq => hq.1))
        have hI3 : InvM S3 a := hI.ag (hag03.mo (fun q hq => by unfold CM at hq; omega))
        have hl1 : 1 ≤ (pth Ls').length := by
          cases hq : pth Ls' with
          | nil => exact absurd hq g1
          | cons => simp
        have hB3 : BstM S3 b := by
          have c := hag3 384 (by omega)
          exact ⟨fun z => by rw [c.1]; exact hB.1 z, fun w hw => ⟨(hB.2 w hw).1.ag c, (hB.2 w hw).2⟩⟩
        simp only [List.length_cons] at h1
        refine k_lays (u := fun f => usb a own f &&& st) h hI3 (.inl rfl) (.inl rfl) ho hst hl1 g2 (MTr.of c2 hR3 hL3) g3 g4 (fun _ => rfl) _ ?_ ?_
        · intro S4 W hag4 hW hRW
          rw [if_pos rfl]
          obtain ⟨sw, wn⟩ := lay_SW h hu ⟨g1, g2, g3, g4⟩ hW
          rw [List.filterMap_cons, hW] at hf
          rw [List.foldl_cons] at hf
          have c384 := hag4 384 (by omega)
          have hag04 : agr (fun q => q ≠ 380 ∧ q ≠ 382 ∧ q ≠ 384 ∧ q ≠ 386) S S4 := hag03.tr (hag4.mo (fun q hq => ⟨hq.2.1, hq.2.2.2⟩))
          have hR4 : Row S4 380 Ls' := Row_ag (hag4 380 (by omega)) hR3
          have take : pk1 b W = some W → wp_X6_finds_71 (nI x) (nI t) o (nI st) P (fun S => wp_X6_finds_16 (nI x) (nI t) o (nI st) P N S) S4 := by
            intro hpk
            rw [hpk] at hf
            unfold wp_X6_finds_71
            refine m_copies (by omega) hRW sw.1 _ ?_
            intro S5 hag5 hR5
            exact ih Ls' (some W) S5 (by omega) (hag04.tr (hag5.mo (fun q hq => hq.2.2.1))) (Row_ag (hag5 380 (by omega)) hR4) c1 c3 (fun p hp => hG p (List.mem_cons_of_mem _ hp)) ⟨fun z => (by cases z), fun w hw => (by cases hw; exact ⟨hR5, sw, wn⟩)⟩ hf
          rw [e7]
          refine ⟨v7, ?_⟩
          rcases hb : b with _ | w
          · rw [c384.1, hB3.1 hb, if_pos rfl]
            exact take (by rw [hb]; rfl)
          · obtain ⟨q1, q2, q3⟩ := hB3.2 w hb
            have hs := q1.2.1
            rw [Nat.zero_add] at hs
            have hwl : 1 ≤ w.1.length := by
              cases hq : w.1 with
              | nil => exact absurd hq q3
              | cons => simp
            have := q2.1
            rw [c384.1, hs, if_neg (by rw [n_eq0 (by omega)]; omega)]
            refine m_isAhead hRW sw wn (q1.ag c384) q2 _ ?_
            by_cases z : ahd W w = true
            · rw [if_pos z]
              exact take (by rw [hb]; unfold pk1; dsimp only; rw [if_pos z])
            · rw [if_neg z]
              have hpk : pk1 b W = b := by rw [hb]; unfold pk1; dsimp only; rw [if_neg z]
              rw [hpk] at hf
              exact ih Ls' b S4 (by omega) hag04 hR4 c1 c3 (fun p hp => hG p (List.mem_cons_of_mem _ hp)) ⟨fun z => (by rw [hb] at z; cases z), fun w2 hw2 => (by rw [hb] at hw2; cases hw2; exact ⟨q1.ag c384, q2, q3⟩)⟩ hf
        · intro S4 hag4 hnone
          rw [if_neg (by simp)]
          rw [List.filterMap_cons, hnone] at hf
          have c384 := hag4 384 (by omega)
          exact ih Ls' b S4 (by omega) (hag03.tr (hag4.mo (fun q hq => ⟨hq.2.1, hq.2.2.2⟩))) (Row_ag (hag4 380 (by omega)) hR3) c1 c3 (fun p hp => hG p (List.mem_cons_of_mem _ hp)) ⟨fun z => by rw [c384.1]; exact hB3.1 z, fun w hw => ⟨(hB3.2 w hw).1.ag c384, (hB3.2 w hw).2⟩⟩ hf
  obtain ⟨N, hN⟩ : ∃ N, (Rm a (fun _ => false) t [(x, 2 ^ x, 0)]).length < N := ⟨_, Nat.lt_succ_self _⟩
  refine ⟨N, key N _ none S2 hN (hag1.tr (hag2.mo (fun q hq => hq.1))) hR2 hC2 (by simp) ?_ ⟨fun _ => ?_, fun w hw => by cases hw⟩ ?_⟩
  · rw [Rm_start]; intro p hp; exact trl_GP h _ hx hp
  · rw [(hag2 384 (by omega)).1]; subst hS1; rw [gI_s]
  · rw [Rm_start]; rfl
