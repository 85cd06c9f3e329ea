/-! THE PURE LAYER: the reference finds a pair -/
/-- barred fibres: the rows that leave them out -/
theorem trl_bar (a : Ab) (bar : Nat → Bool) (t : Nat) : ∀ (n v met : Nat), trl a bar t n v met = (trl a (fun _ => false) t n v met).filter (fun p => p.all (fun q => !bar q.1)) := by
  intro n
  induction n with
  | zero => intro v met; rfl
  | succ n ih =>
    intro v met
    rw [trl_succ, trl_succ]
    have key : ∀ f, exn a bar t (trl a bar t n) v met f = (exn a (fun _ => false) t (trl a (fun _ => false) t n) v met f).filter (fun p => p.all (fun q => !bar q.1)) := by
      intro f
      rcases hq : acr a v f with _ | u
      · rw [exn_none hq, exn_none hq]; rfl
      · by_cases hm : met.testBit u = true
        · rw [exn_met hq hm, exn_met hq hm]; rfl
        · have hm : met.testBit u = false := by simpa using hm
          rw [exn_go (bar := fun _ => false) hq rfl hm]
          by_cases hb : bar f = true
          · rw [exn_bar hb]
            symm
            rw [List.filter_eq_nil_iff]
            intro p hp
            split at hp
            · rw [List.mem_singleton] at hp; subst hp; simp [hb]
            · rw [List.mem_map] at hp; obtain ⟨r, _, rfl⟩ := hp; simp [hb]
          · have hb : bar f = false := by simpa using hb
            rw [exn_go hq hb hm]
            by_cases ht : u = t
            · rw [if_pos ht, if_pos ht]; simp [hb]
            · rw [if_neg ht, if_neg ht, ih, List.filter_map]
              congr 1
              congr 1
              funext p
              simp [hb]
    generalize List.range (nF a) = l
    induction l with
    | nil => rfl
    | cons f l ihl => rw [List.flatMap_cons, List.flatMap_cons, List.filter_append, key f, ihl]
theorem and_neg1 : ∀ m, m < 256 → m ≠ 0 → nI m &&& (-(nI m)) = nI (2 ^ low 8 m.testBit) := by decide +kernel
/-- what the reference lays on one wavelength is what the class keeps -/
theorem m_laysOne {S : St} {a : Ab} (h : WF a) (hI : InvM S a) {k x4 : Nat} {p : List (Nat × Nat)} (hk : k = 380 ∨ k = 381) (hx4 : x4 = 382 ∨ x4 = 383) (hp : GP a p) (hT : MTr S k p) (P : Bool → St → Prop)
    (hP1 : ∀ S' W, agr (fun q => q ≠ x4 ∧ q ≠ 386) S S' → lay a (usb a 60) (fun _ => false) p = some W → RepM S' x4 0 W → P true S') (hP0 : ∀ S', agr (fun q => q ≠ x4 ∧ q ≠ 386) S S' → lay a (usb a 60) (fun _ => false) p = none → P false S') :
    wp_X6_laysOne S k x4 P := by
  have hw8 := h.2.1.2
  have h14 := h.2.2.1
  obtain ⟨g1, g2, g3, g4⟩ := hp
  have hl1 : 1 ≤ p.length := by
    cases hq : p with
    | nil => exact absurd hq g1
    | cons => simp
  have e0 : ((0 : Int32).toNatClampNeg) = 0 := rfl
  have hu8 : ∀ f, usb a 60 f < 2 ^ 8 := fun f => Nat.lt_of_lt_of_le (usb_lt a 60 f) (Nat.pow_le_pow_right (by omega) hw8)
  rw [lay_no (usb_lt a 60) g1] at hP0
  rw [show (∀ S' W, agr (fun q => q ≠ x4 ∧ q ≠ 386) S S' → lay a (usb a 60) (fun _ => false) p = some W → RepM S' x4 0 W → P true S') ↔ (∀ S' W, agr (fun q => q ≠ x4 ∧ q ≠ 386) S S' → (if low (nW a) (ona (usb a 60) p) < nW a then some (p.map (fun q => 10 * q.1 + low (nW a) (ona (usb a 60) p)), lenOf a p, 0) else none) = some W → RepM S' x4 0 W → P true S') by rw [lay_no (usb_lt a 60) g1]] at hP1
  have key : ∀ (N i m : Nat), i ≤ p.length → p.length < N + i → m < 2 ^ 8 → (∀ x, x < 8 → m.testBit x = ona (usb a 60) (p.take i) x) → wp_X6_laysOne_7 k x4 P N S (nI m) (nI i) := by
    intro N
    induction N with
    | zero => intro i m h1 h2; omega
    | succ N ih =>
      intro i m h1 h2 hm hb
      rw [wp_X6_laysOne_7]
      dsimp only
      rw [e0, hT.1]
      refine ⟨vp_in_nI (n := 0) (by omega) (by omega), ?_⟩
      by_cases q : i = p.length
      · rw [if_pos (by simp (disch := omega) only [n_0, n_1, n_2, n_3, n_7, n_8, n_9, n_10, n_12, n_14, n_18, n_20, n_60, n_112, n_162, n_255, n_1000, nI_add, n_mul, nI_ltI, nI_leI, nI_eq, nI_clamp]; omega)]
        subst q
        rw [List.take_length] at hb
        unfold wp_X6_laysOne_35
        have hlow : ∀ x, x < 8 → ona (usb a 60) p x = true → x < nW a := by
          intro x hx ho
          cases hq : p with
          | nil => exact absurd hq g1
          | cons z r =>
            rw [hq] at ho
            unfold ona at ho
            rw [List.all_cons, Bool.and_eq_true] at ho
            rcases Nat.lt_or_ge x (nW a) with y | y
            · exact y
            · rw [Nat.testBit_lt_two_pow (Nat.lt_of_lt_of_le (usb_lt a 60 z.1) (Nat.pow_le_pow_right (by omega) y))] at ho
              cases ho.1
        by_cases hz : m = 0
        · rw [if_pos (by rw [hz]; rfl)]
          refine hP0 S (agr.rf _ _) ?_
          rw [if_neg]
          intro hl
          have := low_is hl
          rw [← hb _ (by omega), hz, Nat.zero_testBit] at this; cases this
        · rw [if_neg (by rw [n_eq0 (by omega)]; exact hz), and_neg1 m (by omega) hz]
          obtain ⟨y, hy1, hy2⟩ := (nz_bit hm).mp hz
          have hb8 := low_ex (p := m.testBit) hy1 hy2
          have hbl := low_is hb8
          have hlw : low (nW a) (ona (usb a 60) p) = low 8 m.testBit := by
            have e := hb _ hb8
            rw [hbl] at e
            refine low_uniq (hlow _ hb8 e.symm) e.symm ?_
            intro z hz2
            rw [← hb z (by omega)]
            exact low_not hz2
          have hlt := hlow _ hb8 (by rw [← hb _ hb8]; exact hbl)
          rw [hlw, if_pos hlt] at hP0 hP1
          -- on the lowest of them alone
          have hlay : lay a (fun f => usb a 60 f &&& 2 ^ low 8 m.testBit) (cv a) p = some (p.map (fun q => 10 * q.1 + low 8 m.testBit), lenOf a p, 0) := by
            have hu : ∀ f, usb a 60 f &&& 2 ^ low 8 m.testBit < 2 ^ nW a := fun f => Nat.lt_of_le_of_lt Nat.and_le_left (usb_lt a 60 f)
            rw [lay_one1 (c' := fun _ => false) (w := low 8 m.testBit) (fun f i hi => by
              rw [Nat.testBit_and, Nat.testBit_two_pow, Bool.and_eq_true, decide_eq_true_iff] at hi; exact hi.2.symm) hu g1, lay_no hu g1]
            have hon : ∀ x, ona (fun f => usb a 60 f &&& 2 ^ low 8 m.testBit) p x = (ona (usb a 60) p x && decide (x = low 8 m.testBit)) := by
              intro x
              unfold ona
              rw [Bool.eq_iff_iff, List.all_eq_true, Bool.and_eq_true, List.all_eq_true, decide_eq_true_iff]
              constructor
              · intro z
                refine ⟨fun q hq => ?_, ?_⟩
                · have := z q hq
                  rw [Nat.testBit_and, Bool.and_eq_true] at this; exact this.1
                · cases hq : p with
                  | nil => exact absurd hq g1
                  | cons q r =>
                    have := z q (by rw [hq]; exact List.mem_cons_self)
                    rw [Nat.testBit_and, Nat.testBit_two_pow, Bool.and_eq_true, decide_eq_true_iff] at this
                    exact this.2.symm
              · rintro ⟨z1, z2⟩ q hq
                rw [Nat.testBit_and, Nat.testBit_two_pow, z1 q hq, z2]; simp
            have hl2 : low (nW a) (ona (fun f => usb a 60 f &&& 2 ^ low 8 m.testBit) p) = low 8 m.testBit := by
              refine low_uniq hlt ?_ ?_
              · rw [hon, ← hb _ hb8, hbl]; simp
              · intro z hz2
                rw [hon, decide_eq_false (by omega), Bool.and_false]
            rw [hl2, if_pos hlt]
          refine k_lays (u := fun f => usb a 60 f &&& 2 ^ low 8 m.testBit) h hI hk hx4 (.inl ⟨rfl, rfl⟩) (Nat.pow_lt_pow_right (by omega) hb8) hl1 g2 hT g3 g4 (fun _ => rfl) _ ?_ ?_
          · intro S' W hag hW hR
            rw [hlay] at hW
            rw [if_pos rfl]
            exact hP1 S' W hag hW hR
          · intro S' hag hn
            rw [hlay] at hn; cases hn
      · have hi : i < p.length := by omega
        rw [if_neg (by simp (disch := omega) only [n_0, n_1, n_2, n_3, n_7, n_8, n_9, n_10, n_12, n_14, n_18, n_20, n_60, n_112, n_162, n_255, n_1000, nI_add, n_mul, nI_ltI, nI_leI, nI_eq, nI_clamp]; omega), n_2, nI_add, nI_clamp (by omega), (hT.2 i hi).1]
        refine ⟨vp_in_nI (by omega) (by omega), ?_⟩
        refine k_free h hI (g3 _ (List.getElem_mem hi)) (.inl ⟨rfl, rfl⟩) _ ?_
        rw [n_and]
        rintro _ rfl _ rfl
        rw [nI_1]
        refine ih (i + 1) _ (by omega) (by omega) (Nat.lt_of_le_of_lt Nat.and_le_left hm) ?_
        intro x hx
        rw [Nat.testBit_and, hb x hx]
        unfold ona
        rw [List.take_add_one, List.getElem?_eq_getElem hi, List.all_append]
        simp
  obtain ⟨N, hN⟩ : ∃ N, p.length < N := ⟨_, Nat.lt_succ_self _⟩
  refine ⟨N, ?_⟩
  have := key N 0 255 (by omega) (by omega) (by omega) (by
    intro x hx
    rw [show (255 : Nat) = 2 ^ 8 - 1 from rfl, Nat.testBit_two_pow_sub_one]
    simp [hx, ona])
  exact this
/-- the pair held -/
def Bs2M (S : St) (r : Option (Wy × Wy)) : Prop := (r = none → gI S 384 7 = 0) ∧ (∀ p, r = some p → RepM S 384 0 p.1 ∧ SW p.1 ∧ p.1.1 ≠ [] ∧ RepM S 385 0 p.2 ∧ SW p.2 ∧ p.2.1 ≠ [])
theorem Bs2M.ag {S S' : St} {r : Option (Wy × Wy)} (h : Bs2M S r) (e : agr (fun q => q = 384 ∨ q = 385) S S') : Bs2M S' r := by
  refine ⟨fun z => by rw [(e 384 (by omega)).1]; exact h.1 z, fun p hp => ?_⟩
  obtain ⟨a1, a2, a3, a4, a5, a6⟩ := h.2 p hp
  exact ⟨a1.ag (e 384 (by omega)), a2, a3, a4.ag (e 385 (by omega)), a5, a6⟩
theorem m_better {S : St} {r : Option (Wy × Wy)} {w v : Wy} (h1 : RepM S 382 0 w) (hw : SW w) (hwn : w.1 ≠ []) (h2 : RepM S 383 0 v) (hv : SW v) (hvn : v.1 ≠ []) (hB : Bs2M S r) (P : Bool → St → Prop)
    (hP : ∀ b : Bool, (b = true ↔ pp1 r (w, v) = some (w, v) ∧ (∀ p, r = some p → btr (w, v) p = true)) → P b S) : wp_X6_isBetterPair S P := by
  have e7 : ((7 : Int32).toNatClampNeg) = 7 := rfl
  have ee8 : ((8 : Int32).toNatClampNeg) = 8 := rfl
  have v7 : vp_in (7 : Int32) 10 := vp_in_nI (n := 7) (by omega) (by omega)
  have v8 : vp_in (8 : Int32) 10 := vp_in_nI (n := 8) (by omega) (by omega)
  have a8 := h1.2.2.1
  have b8 := h2.2.2.1
  simp only [Nat.zero_add] at a8 b8
  unfold wp_X6_isBetterPair wp_X6_isBetterPair_47
  rw [e7, ee8, a8, b8, nI_add]
  refine ⟨v8, v8, ?_⟩
  rintro _ rfl
  refine ⟨v8, v8, ?_⟩
  rintro y hy
  refine ⟨v7, ?_⟩
  rcases hr : r with _ | p
  · rw [hB.1 hr, if_pos rfl]
    refine ⟨v7, ?_⟩
    rw [if_pos rfl]
    refine hP true ⟨fun _ => ⟨by rw [hr]; rfl, fun p hp => by rw [hr] at hp; cases hp⟩, fun _ => rfl⟩
  · obtain ⟨c1, c2, c3, c4, c5, c6⟩ := hB.2 p hr
    have c7 := c1.2.1
    have c8 := c1.2.2.1
    have d8 := c4.2.2.1
    simp only [Nat.zero_add] at c7 c8 d8
    have hpl : 1 ≤ p.1.1.length := by
      cases hq : p.1.1 with
      | nil => exact absurd hq c3
      | cons => simp
    have := c2.1
    have hw3 := hw.2.2.1
    have hv3 := hv.2.2.1
    have c23 := c2.2.2.1
    have c53 := c5.2.2.1
    rw [c8, d8, nI_add] at hy
    subst hy
    rw [c7, if_neg (by rw [n_eq0 (by omega)]; omega)]
    have hbt : ∀ b : Bool, b = btr (w, v) p → P b S := by
      intro b hb
      refine hP b ?_
      rw [hb]
      constructor
      · intro z
        refine ⟨by rw [hr]; unfold pp1; dsimp only; rw [if_pos z], fun p2 hp2 => ?_⟩
        rw [hr] at hp2
        cases hp2; exact z
      · rintro ⟨_, z⟩; exact z p hr
    by_cases q : w.2.1 + v.2.1 = p.1.2.1 + p.2.2.1
    · rw [if_pos (by rw [q])]
      refine m_isAhead h1 hw hwn c1 c2 _ ?_
      by_cases q2 : ahd w p.1 = true
      · rw [if_pos q2]
        exact hbt true (by symm; rw [btr_iff]; exact .inr ⟨q, .inl q2⟩)
      · rw [if_neg q2]
        refine m_isAhead c1 c2 c3 h1 hw _ ?_
        by_cases q3 : ahd p.1 w = true
        · rw [if_pos q3]
          refine hbt false ?_
          symm
          rw [← Bool.not_eq_true, btr_iff]
          rintro (z | ⟨_, z | ⟨z, _⟩⟩)
          · dsimp only at z; omega
          · exact q2 z
          · dsimp only at z; rw [z, ahd_irr] at q3; cases q3
        · rw [if_neg q3]
          have hwp : w = p.1 := by
            apply Classical.byContradiction
            intro z
            rcases ahd_tot z with y | y
            · exact q2 y
            · exact q3 y
          refine m_isAhead h2 hv hvn c4 c5 _ ?_
          by_cases q4 : ahd v p.2 = true
          · rw [if_pos q4]
            exact hbt true (by symm; rw [btr_iff]; exact .inr ⟨q, .inr ⟨hwp, q4⟩⟩)
          · rw [if_neg q4]
            refine hbt false ?_
            symm
            rw [← Bool.not_eq_true, btr_iff]
            rintro (z | ⟨_, z | ⟨_, z⟩⟩)
            · dsimp only at z; omega
            · exact q2 z
            · exact q4 z
    · rw [if_neg (by rw [nI_eq (by omega) (by omega)]; exact q)]
      refine ⟨v7, ?_⟩
      rw [if_neg (by rw [n_eq0 (by omega)]; omega)]
      by_cases q2 : w.2.1 + v.2.1 < p.1.2.1 + p.2.2.1
      · rw [if_neg (by simp (disch := omega) only [n_0, n_1, n_2, n_3, n_7, n_8, n_9, n_10, n_12, n_14, n_18, n_20, n_60, n_112, n_162, n_255, n_1000, nI_add, n_mul, nI_ltI, nI_leI, nI_eq, nI_clamp]; omega)]
        exact hbt true (by symm; rw [btr_iff]; exact .inl q2)
      · rw [if_pos (by simp (disch := omega) only [n_0, n_1, n_2, n_3, n_7, n_8, n_9, n_10, n_12, n_14, n_18, n_20, n_60, n_112, n_162, n_255, n_1000, nI_add, n_mul, nI_ltI, nI_leI, nI_eq, nI_clamp]; omega)]
        refine hbt false ?_
        symm
        rw [← Bool.not_eq_true, btr_iff]
        rintro (z | ⟨z, _⟩) <;> dsimp only at z <;> omega
theorem dsj_iff {x y : Wy} (hx : SW x) (hy : SW y) : dsj x y = true ↔ ∀ c ∈ y.1, (fbs x).testBit (c / 10) = false := by
  unfold dsj
  rw [beq_iff_eq]
  constructor
  · intro h c hc
    have h1 : (fbs x &&& fbs y).testBit (c / 10) = false := by rw [h]; exact Nat.zero_testBit _
    rw [Nat.testBit_and, fbs_bit hy] at h1
    have h2 : y.1.any (fun d => d / 10 == c / 10) = true := List.any_eq_true.mpr ⟨c, hc, beq_self_eq_true _⟩
    rw [h2, Bool.and_true] at h1; exact h1
  · intro h
    apply Nat.eq_of_testBit_eq
    intro i
    rw [Nat.testBit_and, Nat.zero_testBit, fbs_bit hy, Bool.and_eq_false_iff]
    rcases hq : y.1.any (fun d => d / 10 == i) with _ | _
    · exact .inr rfl
    · rw [List.any_eq_true] at hq
      obtain ⟨c, hc, hci⟩ := hq
      rw [beq_iff_eq] at hci
      left; rw [← hci]; exact h c hc
/-- the second ways that can go with a first one -/
theorem seconds {a : Ab} (h : WF a) {x t : Nat} (hx : x < nD a) {W : Wy} (hW : SW W) : (trl a (fun f => (fbs W).testBit f) t 8 x (2 ^ x)).filterMap (lay a (usb a 60) (fun _ => false)) = (kpt a (usb a 60) (fun _ => false) x t).filter (fun y => dsj W y) := by
  rw [trl_bar]
  unfold kpt
  have : ∀ l : List (List (Nat × Nat)), (∀ p ∈ l, GP a p) → (l.filter (fun p => p.all (fun q => !(fbs W).testBit q.1))).filterMap (lay a (usb a 60) (fun _ => false)) = (l.filterMap (lay a (usb a 60) (fun _ => false))).filter (fun y => dsj W y) := by
    intro l
    induction l with
    | nil => intro _; rfl
    | cons p l ih =>
      intro hl
      have ih := ih (fun q hq => hl q (List.mem_cons_of_mem _ hq))
      have hp := hl p List.mem_cons_self
      rw [List.filterMap_cons]
      rcases hq : lay a (usb a 60) (fun _ => false) p with _ | Y
      · rw [List.filter_cons]
        split
        · rw [List.filterMap_cons, hq]; exact ih
        · exact ih
      · have hY := (lay_SW h (usb_lt a 60) hp hq).1
        have hfst := lay_fst (usb_lt a 60) h.2.1.2 hp.1 hq
        have he : (p.all (fun q => !(fbs W).testBit q.1)) = dsj W Y := by
          rw [Bool.eq_iff_iff, List.all_eq_true, dsj_iff hW hY]
          constructor
          · intro z c hc
            have : c / 10 ∈ p.map (·.1) := by rw [← hfst]; exact List.mem_map_of_mem hc
            rw [List.mem_map] at this
            obtain ⟨q, hq1, hq2⟩ := this
            rw [← hq2]
            simpa using z q hq1
          · intro z q hq1
            have : q.1 ∈ Y.1.map (· / 10) := by rw [hfst]; exact List.mem_map_of_mem hq1
            rw [List.mem_map] at this
            obtain ⟨c, hc1, hc2⟩ := this
            rw [← hc2, z c hc1]; rfl
        dsimp only
        rw [List.filter_cons, List.filter_cons, he]
        split
        · rw [List.filterMap_cons, hq]
          dsimp only
          rw [ih]
        · exact ih
  exact this _ (fun p hp => trl_GP h _ hx hp)
theorem m_findsPair {S : St} {a : Ab} (h : WF a) (hI : InvM S a) {x t : Nat} (hx : x < nD a) (ht : t < nD a) (P : Bool → St → Prop)
    (hP : ∀ S', agr (fun q => ¬ (380 ≤ q ∧ q ≤ 386)) S S' → Bs2M S' (fnd2 a x t) → P (fnd2 a x t).isSome S') : wp_X6_findsPair S (nI x) (nI t) P := by
  have e7 : ((7 : Int32).toNatClampNeg) = 7 := rfl
  have v7 : vp_in (7 : Int32) 10 := vp_in_nI (n := 7) (by omega) (by omega)
  have hz : (fun f => (0 : Nat).testBit f) = (fun _ => false) := by funext f; exact Nat.zero_testBit f
  unfold wp_X6_findsPair
  rw [e7]
  refine ⟨v7, ?_⟩
  rintro S1 hS1
  have hag1 : agr (fun q => ¬ (380 ≤ q ∧ q ≤ 386)) S S1 := by subst hS1; exact agr_sI (by simp) _ _ _
  refine m_sets h hx _ ?_
  intro S2 hag2 hR2 hC2
  have hK : kpt a (usb a 60) (fun _ => false) x t = (trl a (fun _ => false) t 8 x (2 ^ x)).filterMap (lay a (usb a 60) (fun _ => false)) := rfl
  have hKSW : ∀ Y ∈ kpt a (usb a 60) (fun _ => false) x t, SW Y ∧ Y.1 ≠ [] := by
    intro Y hY
    rw [hK, List.mem_filterMap] at hY
    obtain ⟨p, hp1, hp2⟩ := hY
    exact lay_SW h (usb_lt a 60) (trl_GP h _ hx hp1) hp2
  have hsec := fun (W : Wy) (hW : SW W) => seconds (t := t) h hx hW
  have hfd : fnd2 a x t = (prs (kpt a (usb a 60) (fun _ => false) x t)).foldl pp1 none := rfl
  unfold prs at hfd
  generalize hKK : kpt a (usb a 60) (fun _ => false) x t = K at *
  -- the second ways of one first way
  have inner : ∀ (W : Wy), SW W → W.1 ≠ [] → ∀ (K16 : St → Prop) (c0 : Option (Wy × Wy)) (N : Nat) (Ls : List (Nat × Nat × Nat)) (b : Option (Wy × Wy)) (S' : St), (Rm a (fun f => (fbs W).testBit f) t Ls).length < N → agr (fun q => ¬ (380 ≤ q ∧ q ≤ 386)) S S' → Row S' 381 Ls → Chn a Ls → Ls.length ≤ 8 → (∀ p ∈ Rm a (fun f => (fbs W).testBit f) t Ls, GP a p) → RepM S' 382 0 W → Bs2M S' b →
      ((((Rm a (fun f => (fbs W).testBit f) t Ls).filterMap (lay a (usb a 60) (fun _ => false))).filter (fun y => ahd W y)).map (fun y => (W, y))).foldl pp1 b = c0 →
      (∀ R380 : List (Nat × Nat × Nat), Row S' 380 R380 → (∀ S'', agr (fun q => ¬ (380 ≤ q ∧ q ≤ 386)) S S'' → Row S'' 380 R380 → Bs2M S'' c0 → K16 S'') → wp_X6_findsPair_90 (nI x) (nI t) P K16 N S' (nI (fbs W))) := by
    intro W hW hWn K16 c0 N
    induction N with
    | zero => intro Ls b S' h1; omega
    | succ N ih =>
      intro Ls b S' h1 hag hR hC hl hG hRW hB hf R380 hR380 hK16
      rw [wp_X6_findsPair_90]
      dsimp only
      unfold wp_X6_goesOn
      obtain ⟨M, hM⟩ : ∃ M, ms a Ls < M := ⟨_, Nat.lt_succ_self _⟩
      refine ⟨M, ?_⟩
      have hI' : InvM S' a := hI.ag (hag.mo (fun q hq => by unfold CM at hq; omega))
      refine k_goesOn (b := fbs W) h (.inr rfl) (fbs_lt W) ht _ M Ls S' hM hI' hR hC hl ?_ ?_
      · intro hnil S3 hag3
        rw [if_neg (by simp)]
        unfold wp_X6_findsPair_164
        rw [hnil] at hf
        have hf : b = c0 := hf
        exact hK16 S3 (hag.tr (hag3.mo (fun q hq => by omega))) (Row_ag (hag3 380 (by omega)) hR380) (by rw [← hf]; exact hB.ag (hag3.mo (fun q hq => by omega)))
      · intro Ls' c1 c2 c3 c4 S3 hag3 hR3 hL3
        rw [if_pos rfl]
        rw [c4] at hf hG h1
        have hp := hG (pth Ls') List.mem_cons_self
        have hag03 : agr (fun q => ¬ (380 ≤ q ∧ q ≤ 386)) S S3 := hag.tr (hag3.mo (fun q hq => by omega))
        have hI3 : InvM S3 a := hI.ag (hag03.mo (fun q hq => by unfold CM at hq; omega))
        have hR380' := Row_ag (hag3 380 (by omega)) hR380
        have hB3 := hB.ag (hag3.mo (fun q hq => by omega))
        have hRW3 := hRW.ag (hag3 382 (by omega))
        simp only [List.length_cons] at h1
        have hG' := fun p hp => hG p (List.mem_cons_of_mem _ hp)
        refine m_laysOne h hI3 (.inr rfl) (.inr rfl) hp (MTr.of c2 hR3 hL3) _ ?_ ?_
        · intro S4 Y hag4 hY hRY
          rw [if_pos rfl]
          obtain ⟨sy, yn⟩ := lay_SW h (usb_lt a 60) hp hY
          rw [List.filterMap_cons, hY] at hf
          dsimp only at hf
          rw [List.filter_cons] at hf
          have hag04 : agr (fun q => ¬ (380 ≤ q ∧ q ≤ 386)) S S4 := hag03.tr (hag4.mo (fun q hq => by omega))
          have hR4 := Row_ag (hag4 381 (by omega)) hR3
          have hR3804 := Row_ag (hag4 380 (by omega)) hR380'
          have hB4 := hB3.ag (hag4.mo (fun q hq => by omega))
          have hRW4 := hRW3.ag (hag4 382 (by omega))
          refine m_isAhead hRW4 hW hWn hRY sy _ ?_
          by_cases z : ahd W Y = true
          · rw [if_pos z]
            rw [if_pos z, List.map_cons, List.foldl_cons] at hf
            refine m_better hRW4 hW hWn hRY sy yn hB4 _ ?_
            intro bb hbb
            cases bb with
            | true =>
              rw [if_pos rfl]
              obtain ⟨k1, _⟩ := hbb.mp rfl
              rw [k1] at hf
              refine m_copies (by omega) hRW4 hW.1 _ ?_
              intro S5 hag5 hR5
              refine m_copies (by omega) (hRY.ag (hag5 383 (by omega))) sy.1 _ ?_
              intro S6 hag6 hR6
              have hag56 : agr (fun q => q ≠ 384 ∧ q ≠ 385) S4 S6 := (hag5.mo (fun q hq => hq.1)).tr (hag6.mo (fun q hq => hq.2))
              exact ih Ls' (some (W, Y)) S6 (by omega) (hag04.tr (hag56.mo (fun q hq => by omega))) (Row_ag (hag56 381 (by omega)) hR4) c1 c3 hG' (hRW4.ag (hag56 382 (by omega))) ⟨fun z => (by cases z), fun p hp => (by cases hp; exact ⟨hR5.ag (hag6 384 (by omega)), hW, hWn, hR6, sy, yn⟩)⟩ hf R380 (Row_ag (hag56 380 (by omega)) hR3804) hK16
            | false =>
              rw [if_neg (by simp)]
              have hb2 : pp1 b (W, Y) = b := by
                rcases hb : b with _ | p
                · have : false = true := hbb.mpr ⟨by rw [hb]; rfl, fun p hp => by rw [hb] at hp; cases hp⟩
                  cases this
                · unfold pp1
                  dsimp only
                  rw [if_neg]
                  intro y
                  have : false = true := hbb.mpr ⟨by rw [hb]; unfold pp1; dsimp only; rw [if_pos y], fun p2 hp2 => by rw [hb] at hp2; cases hp2; exact y⟩
                  cases this
              rw [hb2] at hf
              exact ih Ls' b S4 (by omega) hag04 hR4 c1 c3 hG' hRW4 hB4 hf R380 hR3804 hK16
          · rw [if_neg z]
            rw [if_neg z] at hf
            exact ih Ls' b S4 (by omega) hag04 hR4 c1 c3 hG' hRW4 hB4 hf R380 hR3804 hK16
        · intro S4 hag4 hnone
          rw [if_neg (by simp)]
          rw [List.filterMap_cons, hnone] at hf
          exact ih Ls' b S4 (by omega) (hag03.tr (hag4.mo (fun q hq => by omega))) (Row_ag (hag4 381 (by omega)) hR3) c1 c3 hG' (hRW3.ag (hag4 382 (by omega))) (hB3.ag (hag4.mo (fun q hq => by omega))) hf R380 (Row_ag (hag4 380 (by omega)) hR380') hK16
  have outer : ∀ (N : Nat) (Ls : List (Nat × Nat × Nat)) (b : Option (Wy × Wy)) (S' : St), (Rm a (fun _ => false) t Ls).length < N → agr (fun q => ¬ (380 ≤ q ∧ q ≤ 386)) S S' → Row S' 380 Ls → Chn a Ls → Ls.length ≤ 8 → (∀ p ∈ Rm a (fun _ => false) t Ls, GP a p) → Bs2M S' b →
      (((Rm a (fun _ => false) t Ls).filterMap (lay a (usb a 60) (fun _ => false))).flatMap (fun x => (K.filter (fun y => dsj x y && ahd x y)).map (fun y => (x, y)))).foldl pp1 b = fnd2 a x t → wp_X6_findsPair_16 (nI x) (nI t) P N S' := by
    intro N
    induction N with
    | zero => intro Ls b S' h1; omega
    | succ N ih =>
      intro Ls b S' h1 hag hR hC hl hG hB hf
      rw [wp_X6_findsPair_16]
      dsimp only
      unfold wp_X6_goesOn
      obtain ⟨M, hM⟩ : ∃ M, ms a Ls < M := ⟨_, Nat.lt_succ_self _⟩
      refine ⟨M, ?_⟩
      have hI' : InvM S' a := hI.ag (hag.mo (fun q hq => by unfold CM at hq; omega))
      refine k_goesOn (b := 0) h (.inl rfl) (by omega) ht _ M Ls S' hM hI' hR hC hl ?_ ?_
      · rw [hz]
        intro hnil S3 hag3
        rw [if_neg (by simp)]
        unfold wp_X6_findsPair_167
        rw [hnil] at hf
        have hf : b = fnd2 a x t := hf
        have hB3 := hB.ag (hag3.mo (fun q hq => by omega))
        rw [← hf] at hP
        have hP := hP S3 (hag.tr (hag3.mo (fun q hq => by omega))) hB3
        rw [e7]
        refine ⟨v7, ?_⟩
        rcases hb : b with _ | w
        · rw [hB3.1 hb, if_pos (by decide)]
          rw [hb] at hP; exact hP
        · obtain ⟨k1, k2, k3, _⟩ := hB3.2 w hb
          have k4 := k1.2.1
          rw [Nat.zero_add] at k4
          have hl1 : 1 ≤ w.1.1.length := by
            cases hq : w.1.1 with
            | nil => exact absurd hq k3
            | cons => simp
          have := k2.1
          rw [k4, if_neg (by simp (disch := omega) only [n_0, n_1, n_2, n_3, n_7, n_8, n_9, n_10, n_12, n_14, n_18, n_20, n_60, n_112, n_162, n_255, n_1000, nI_add, n_mul, nI_ltI, nI_leI, nI_eq, nI_clamp]; omega)]
          rw [hb] at hP; exact hP
      · rw [hz]
        intro Ls' c1 c2 c3 c4 S3 hag3 hR3 hL3
        rw [if_pos rfl]
        rw [c4] at hf hG h1
        have hp := hG (pth Ls') List.mem_cons_self
        have hag03 : agr (fun q => ¬ (380 ≤ q ∧ q ≤ 386)) S S3 := hag.tr (hag3.mo (fun q hq => by omega))
        have hI3 : InvM S3 a := hI.ag (hag03.mo (fun q hq => by unfold CM at hq; omega))
        have hB3 := hB.ag (hag3.mo (fun q hq => by omega))
        simp only [List.length_cons] at h1
        have hG' := fun p hp => hG p (List.mem_cons_of_mem _ hp)
        refine m_laysOne h hI3 (.inl rfl) (.inl rfl) hp (MTr.of c2 hR3 hL3) _ ?_ ?_
        · intro S4 W hag4 hW hRW
          rw [if_pos rfl]
          obtain ⟨sw, wn⟩ := lay_SW h (usb_lt a 60) hp hW
          rw [List.filterMap_cons, hW] at hf
          dsimp only at hf
          rw [List.flatMap_cons, List.foldl_append] at hf
          have hag04 : agr (fun q => ¬ (380 ≤ q ∧ q ≤ 386)) S S4 := hag03.tr (hag4.mo (fun q hq => by omega))
          have hR4 := Row_ag (hag4 380 (by omega)) hR3
          have hB4 := hB3.ag (hag4.mo (fun q hq => by omega))
          have s7 := hRW.2.1
          rw [Nat.zero_add] at s7
          have s0 := hRW.1
          simp only [Nat.zero_add] at s0
          have sl := sw.1
          -- the fibres of the first way
          have bars : ∀ (L j m : Nat), j ≤ W.1.length → W.1.length < L + j → (∀ f, m.testBit f = (W.1.take j).any (fun c => c / 10 == f)) → m < 2 ^ 14 → wp_X6_findsPair_49 (nI x) (nI t) P (fun S => wp_X6_findsPair_16 (nI x) (nI t) P N S) L S4 (nI m) (nI j) := by
            intro L
            induction L with
            | zero => intro j m k1 k2; omega
            | succ L ihL =>
              intro j m k1 k2 hm hm14
              rw [wp_X6_findsPair_49]
              dsimp only
              rw [e7, s7]
              refine ⟨v7, ?_⟩
              by_cases q : j = W.1.length
              · rw [if_pos (by simp (disch := omega) only [n_0, n_1, n_2, n_3, n_7, n_8, n_9, n_10, n_12, n_14, n_18, n_20, n_60, n_112, n_162, n_255, n_1000, nI_add, n_mul, nI_ltI, nI_leI, nI_eq, nI_clamp]; omega)]
                subst q
                rw [List.take_length] at hm
                have hmf : m = fbs W := by
                  apply Nat.eq_of_testBit_eq
                  intro f
                  rw [hm, fbs_bit sw]
                subst hmf
                unfold wp_X6_findsPair_82
                refine m_sets h hx _ ?_
                intro S5 hag5 hR5 hC5
                obtain ⟨Q, hQ⟩ : ∃ Q, (Rm a (fun f => (fbs W).testBit f) t [(x, 2 ^ x, 0)]).length < Q := ⟨_, Nat.lt_succ_self _⟩
                refine ⟨Q, inner W sw wn _ _ Q _ b S5 hQ (hag04.tr (hag5.mo (fun q hq => by omega))) hR5 hC5 (by simp) ?_ (hRW.ag (hag5 382 (by omega))) (hB4.ag (hag5.mo (fun q hq => by omega))) rfl Ls' (Row_ag (hag5 380 (by omega)) hR4) ?_⟩
                · rw [Rm_start]; intro p hp; exact trl_GP h _ hx hp
                · intro S6 hag6 hR6 hB6
                  rw [Rm_start, hsec W sw, List.filter_filter] at hB6
                  have hcomm : (fun y => ahd W y && dsj W y) = (fun y => dsj W y && ahd W y) := by funext y; rw [Bool.and_comm]
                  rw [hcomm] at hB6
                  exact ih Ls' _ S6 (by omega) hag6 hR6 c1 c3 hG' hB6 hf
              · have hj : j < W.1.length := by omega
                rw [if_neg (by simp (disch := omega) only [n_0, n_1, n_2, n_3, n_7, n_8, n_9, n_10, n_12, n_14, n_18, n_20, n_60, n_112, n_162, n_255, n_1000, nI_add, n_mul, nI_ltI, nI_leI, nI_eq, nI_clamp]; omega)]
                have hcj := sw.2.1 _ (List.getElem_mem hj)
                rw [nI_clamp (by omega), s0 j hj, n_d10 (by omega), n_one (by omega), n_or]
                refine ⟨vp_in_nI (by omega) (by omega), ?_⟩
                rintro _ rfl _ rfl
                rw [nI_1]
                refine ihL (j + 1) _ (by omega) (by omega) ?_ (Nat.or_lt_two_pow hm14 (Nat.pow_lt_pow_right (by omega) hcj.1))
                intro f
                rw [Nat.testBit_or, hm, Nat.testBit_two_pow, List.take_add_one, List.getElem?_eq_getElem hj, List.any_append]
                simp
                rfl
          obtain ⟨L, hL⟩ : ∃ L, W.1.length < L := ⟨_, Nat.lt_succ_self _⟩
          exact ⟨L, bars L 0 0 (by omega) (by omega) (fun f => by simp) (by omega)⟩
        · intro S4 hag4 hnone
          rw [if_neg (by simp)]
          rw [List.filterMap_cons, hnone] at hf
          exact ih Ls' b S4 (by omega) (hag03.tr (hag4.mo (fun q hq => by omega))) (Row_ag (hag4 380 (by omega)) hR3) c1 c3 hG' (hB3.ag (hag4.mo (fun q hq => by omega))) hf
  obtain ⟨N, hN⟩ : ∃ N, (Rm a (fun _ => false) t [(x, 2 ^ x, 0)]).length < N := ⟨_, Nat.lt_succ_self _⟩
  refine ⟨N, outer N _ none S2 hN (hag1.tr (hag2.mo (fun q hq => by omega))) hR2 hC2 (by simp) ?_ ⟨fun _ => ?_, fun w hw => by cases hw⟩ ?_⟩
  · rw [Rm_start]; intro p hp; exact trl_GP h _ hx hp
  · rw [(hag2 384 (by omega)).1]; subst hS1; rw [gI_s]
  · rw [Rm_start, ← hK]; exact hfd.symm
