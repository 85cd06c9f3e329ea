/-! THE PURE LAYER: the reference's small methods -/
theorem m_way {S : St} {l i j : Nat} (hl : l < 60) (hi : i < 2) (hj : j < 10) (P : Int32 → St → Prop) (hP : P (gI S 379 (20 * l + 10 * i + j)) S) : wp_X6_way S (nI l) (nI i) (nI j) P := by
  unfold wp_X6_way
  rw [n_20, n_10, n_mul, n_mul, nI_add, nI_add, nI_clamp (by omega)]
  exact ⟨vp_in_nI (by omega) (by omega), hP⟩
theorem InvM.lt {S : St} {a : Ab} (hI : InvM S a) {l : Nat} (hl : l < nL a) {i : Nat} {w : Wy} (hw : (wy a l)[i]? = some w) : (∀ (p : Nat) (h : p < w.1.length), gI S 379 (20 * l + 10 * i + p) = nI (w.1[p]'h)) ∧ gI S 379 (20 * l + 10 * i + 7) = nI w.1.length ∧ gI S 379 (20 * l + 10 * i + 8) = nI w.2.1 ∧ gI S 379 (20 * l + 10 * i + 9) = nI w.2.2 := (hI.2.2.2.2.2 l hl).2.2.2 i w hw
theorem WF.ways {a : Ab} (h : WF a) {l : Nat} (hl : l < nL a) : (wy a l).length ≤ 2 ∧ ∀ (i : Nat) (w : Wy), (wy a l)[i]? = some w → i < 2 ∧ GW a w ∧ SW w := by
  obtain ⟨_, _, _, _, _, h6, h7⟩ := h.2.2.2.2.2.2.2.2.2.1 l hl
  refine ⟨h6, fun i w hw => ?_⟩
  obtain ⟨hi, _⟩ := List.getElem?_eq_some_iff.mp hw
  have hg := h7 w (List.mem_of_getElem? hw)
  exact ⟨by omega, hg, hg.sw h.2.2.1 h.2.1.2⟩
theorem m_isUp {S : St} {a : Ab} (h : WF a) (hI : InvM S a) {l : Nat} (hl : l < nL a) (P : Bool → St → Prop) (hP : P (lup a l) S) : wp_X6_isUp S (nI l) P := by
  have hn60 : nL a ≤ 60 := by have := h.2.2.2.1; have := h.2.2.2.2.1; omega
  obtain ⟨hw2, hwg⟩ := h.ways hl
  have hlen := (hI.2.2.2.2.2 l hl).2.2.1
  have outer : ∀ (N i : Nat), i ≤ (wy a l).length → (wy a l).length < N + i → lup a l = ((wy a l).drop i).any (wup a) → wp_X6_isUp_2 (nI l) P N S (nI i) := by
    intro N
    induction N with
    | zero => intro i h1 h2; omega
    | succ N ih =>
      intro i h1 h2 he
      rw [wp_X6_isUp_2]
      dsimp only
      rw [nI_clamp (by omega), hlen]
      refine ⟨vp_in_nI (by omega) (by omega), ?_⟩
      by_cases q : i = (wy a l).length
      · rw [if_pos (by simp (disch := omega) only [n_0, n_1, n_2, n_3, n_7, n_8, n_9, n_10, n_12, n_14, n_18, n_20, n_60, n_112, n_162, n_255, n_1000, nI_add, n_mul, nI_ltI, nI_leI, nI_eq, nI_clamp]; omega)]
        rw [q, List.drop_length] at he
        rw [he] at hP; exact hP
      · have hi : i < (wy a l).length := by omega
        rw [if_neg (by simp (disch := omega) only [n_0, n_1, n_2, n_3, n_7, n_8, n_9, n_10, n_12, n_14, n_18, n_20, n_60, n_112, n_162, n_255, n_1000, nI_add, n_mul, nI_ltI, nI_leI, nI_eq, nI_clamp]; omega)]
        have hwi : (wy a l)[i]? = some ((wy a l)[i]'hi) := List.getElem?_eq_getElem hi
        obtain ⟨hi2, hg, hs⟩ := hwg i _ hwi
        obtain ⟨r0, r7, _⟩ := hI.lt hl hwi
        rw [List.drop_eq_getElem_cons hi, List.any_cons] at he
        generalize (wy a l)[i]'hi = w at *
        have hs7 := hs.1
        have inner : ∀ (M j : Nat), j ≤ w.1.length → w.1.length < M + j → wp_X6_isUp_17 (nI l) P (fun S a2 => wp_X6_isUp_2 (nI l) P N S a2) M S (nI i) ((w.1.take j).all (fun c => !ct a (c / 10))) (nI j) := by
          intro M
          induction M with
          | zero => intro j h1 h2; omega
          | succ M ih2 =>
            intro j hj1 hj2
            rw [wp_X6_isUp_17]
            dsimp only
            refine m_way (l := l) (i := i) (j := 7) (by omega) hi2 (by omega) _ ?_
            rw [r7]
            unfold wp_X6_isUp_57 wp_X6_isUp_58 wp_X6_isUp_65
            by_cases q2 : j = w.1.length
            · rw [if_pos (by simp (disch := omega) only [n_0, n_1, n_2, n_3, n_7, n_8, n_9, n_10, n_12, n_14, n_18, n_20, n_60, n_112, n_162, n_255, n_1000, nI_add, n_mul, nI_ltI, nI_leI, nI_eq, nI_clamp]; omega)]
              rw [q2, List.take_length]
              have hu : wup a w = w.1.all (fun c => !ct a (c / 10)) := rfl
              rw [← hu]
              rcases hz : wup a w with _ | _
              · rw [if_neg (by simp)]
                rintro _ rfl
                rw [nI_1]
                refine ih (i + 1) (by omega) (by omega) ?_
                rw [he, hz]; rfl
              · rw [if_pos rfl]
                rw [hz, Bool.true_or] at he
                rw [he] at hP; exact hP
            · have hj : j < w.1.length := by omega
              rw [if_neg (by simp (disch := omega) only [n_0, n_1, n_2, n_3, n_7, n_8, n_9, n_10, n_12, n_14, n_18, n_20, n_60, n_112, n_162, n_255, n_1000, nI_add, n_mul, nI_ltI, nI_leI, nI_eq, nI_clamp]; omega)]
              have ih2 := ih2 (j + 1) (by omega) (by omega)
              have hc := hs.2.1 _ (List.getElem_mem hj)
              have hcf := (hg.2.2.1 _ (List.getElem_mem hj)).1
              rw [List.take_add_one, List.getElem?_eq_getElem hj, List.all_append] at ih2
              simp only [Option.toList, List.all_cons, List.all_nil, Bool.and_true] at ih2
              rcases hz : (w.1.take j).all (fun c => !ct a (c / 10)) with _ | _
              · rw [if_neg (by simp)]
                rintro _ rfl
                rw [hz, Bool.false_and] at ih2
                rw [nI_1]; exact ih2
              · rw [if_pos rfl]
                refine m_way (l := l) (i := i) (j := j) (by omega) hi2 (by omega) _ ?_
                rw [r0 j hj, n_d10 (by omega), nI_clamp (by omega), (hI.2.2.1 _ hcf).2.2.2]
                refine ⟨vp_in_nI (by omega) (by omega), ?_⟩
                rw [hz, Bool.true_and] at ih2
                rcases hct : ct a (w.1[j]'hj / 10) with _ | _
                · rw [if_pos (by rfl)]
                  rintro _ rfl
                  rw [hct] at ih2
                  rw [nI_1]; exact ih2
                · rw [if_neg (by decide)]
                  rintro _ rfl
                  rw [hct] at ih2
                  rw [nI_1]; exact ih2
        obtain ⟨M, hM⟩ : ∃ M, w.1.length < M := ⟨_, Nat.lt_succ_self _⟩
        exact ⟨M, inner M 0 (by omega) (by omega)⟩
  obtain ⟨N, hN⟩ : ∃ N, (wy a l).length < N := ⟨_, Nat.lt_succ_self _⟩
  exact ⟨N, outer N 0 (by omega) (by omega) rfl⟩
theorem m_ups {S : St} {a : Ab} (h : WF a) (hI : InvM S a) (P : Int32 → St → Prop) (hP : P (nI (ups a)) S) : wp_X6_numberOfUp S P := by
  have hn60 : nL a ≤ 60 := by have := h.2.2.2.1; have := h.2.2.2.2.1; omega
  have key : ∀ (N i : Nat), i ≤ nL a → nL a < N + i → wp_X6_numberOfUp_4 P N S (nI (cnt i (lup a))) (nI i) := by
    intro N
    induction N with
    | zero => intro i h1 h2; omega
    | succ N ih =>
      intro i h1 h2
      rw [wp_X6_numberOfUp_4]
      dsimp only
      rw [hI.1.2.2.2.2]
      by_cases q : i = nL a
      · rw [if_pos (by simp (disch := omega) only [n_0, n_1, n_2, n_3, n_7, n_8, n_9, n_10, n_12, n_14, n_18, n_20, n_60, n_112, n_162, n_255, n_1000, nI_add, n_mul, nI_ltI, nI_leI, nI_eq, nI_clamp]; omega), q]; exact hP
      · rw [if_neg (by simp (disch := omega) only [n_0, n_1, n_2, n_3, n_7, n_8, n_9, n_10, n_12, n_14, n_18, n_20, n_60, n_112, n_162, n_255, n_1000, nI_add, n_mul, nI_ltI, nI_leI, nI_eq, nI_clamp]; omega)]
        refine m_isUp h hI (by omega) _ ?_
        have ih := ih (i + 1) (by omega) (by omega)
        rw [cnt] at ih
        unfold wp_X6_numberOfUp_26
        split
        · rename_i z
          rw [if_pos z] at ih
          rintro _ rfl _ rfl
          rw [b2i_t, nI_1, nI_1]; exact ih
        · rename_i z
          rw [if_neg z] at ih
          rintro _ rfl _ rfl
          rw [b2i_f, Int32.add_zero, nI_1]; exact ih
  obtain ⟨N, hN⟩ : ∃ N, nL a < N := ⟨_, Nat.lt_succ_self _⟩
  exact ⟨N, key N 0 (by omega) (by omega)⟩
theorem m_ons {S : St} {a : Ab} (h : WF a) (hI : InvM S a) {f : Nat} (hf : f < nF a) (P : Int32 → St → Prop) (hP : P (nI (ons a f)) S) : wp_X6_usedOn S (nI f) P := by
  have hn60 : nL a ≤ 60 := by have := h.2.2.2.1; have := h.2.2.2.2.1; omega
  have hw8 := h.2.1.2
  have h14 := h.2.2.1
  have key : ∀ (N w : Nat), w ≤ nW a → nW a < N + w → wp_X6_usedOn_4 (nI f) P N S (nI (cnt w (fun w => (usr a f w).isSome))) (nI w) := by
    intro N
    induction N with
    | zero => intro w h1 h2; omega
    | succ N ih =>
      intro w h1 h2
      rw [wp_X6_usedOn_4]
      dsimp only
      rw [hI.1.2.1]
      by_cases q : w = nW a
      · rw [if_pos (by simp (disch := omega) only [n_0, n_1, n_2, n_3, n_7, n_8, n_9, n_10, n_12, n_14, n_18, n_20, n_60, n_112, n_162, n_255, n_1000, nI_add, n_mul, nI_ltI, nI_leI, nI_eq, nI_clamp]; omega), q]; exact hP
      · rw [if_neg (by simp (disch := omega) only [n_0, n_1, n_2, n_3, n_7, n_8, n_9, n_10, n_12, n_14, n_18, n_20, n_60, n_112, n_162, n_255, n_1000, nI_add, n_mul, nI_ltI, nI_leI, nI_eq, nI_clamp]; omega), n_8, n_mul, nI_add, nI_clamp (by omega), hI.2.2.2.1 f w (by omega) (by omega)]
        refine ⟨vp_in_nI (by omega) (by omega), ?_⟩
        have ih := ih (w + 1) (by omega) (by omega)
        rw [cnt] at ih
        unfold wp_X6_usedOn_32
        rcases hu : usr a f w with _ | l
        · rw [if_pos (show uN none < 0 by decide)]
          rw [hu, if_neg (by simp)] at ih
          rintro _ rfl _ rfl
          rw [b2i_f, Int32.add_zero, nI_1]; exact ih
        · have hl := List.mem_range.mp (List.mem_of_find?_eq_some hu)
          rw [if_neg (show ¬ uN (some l) < 0 from nI_pos (by omega))]
          rw [hu, if_pos (show (some l).isSome = true from rfl)] at ih
          rintro _ rfl _ rfl
          rw [b2i_t, nI_1, nI_1]; exact ih
  obtain ⟨N, hN⟩ : ∃ N, nW a < N := ⟨_, Nat.lt_succ_self _⟩
  exact ⟨N, key N 0 (by omega) (by omega)⟩
theorem m_carried {S : St} {a : Ab} (h60 : nR a ≤ 60) (hI : InvM S a) {l : Nat} (hl : l < 60) (hca : ∀ r, r < nR a → ca a r < 60) (P : Int32 → St → Prop) (hP : P (nI (units a l)) S) : wp_X6_carried S (nI l) P := by
  have key : ∀ (N r : Nat), r ≤ nR a → nR a < N + r → wp_X6_carried_4 (nI l) P N S (nI (sm r (fun r => if ca a r = l then de a r else 0))) (nI r) := by
    intro N
    induction N with
    | zero => intro r h1 h2; omega
    | succ N ih =>
      intro r h1 h2
      rw [wp_X6_carried_4]
      dsimp only
      rw [hI.1.2.2.2.1]
      by_cases q : r = nR a
      · rw [if_pos (by simp (disch := omega) only [n_0, n_1, n_2, n_3, n_7, n_8, n_9, n_10, n_12, n_14, n_18, n_20, n_60, n_112, n_162, n_255, n_1000, nI_add, n_mul, nI_ltI, nI_leI, nI_eq, nI_clamp]; omega), q]; exact hP
      · have hv : vp_in (nI r) 60 := vp_in_nI (by omega) (by omega)
        obtain ⟨g1, g2⟩ := hI.2.2.2.2.1 r (by omega)
        rw [if_neg (by simp (disch := omega) only [n_0, n_1, n_2, n_3, n_7, n_8, n_9, n_10, n_12, n_14, n_18, n_20, n_60, n_112, n_162, n_255, n_1000, nI_add, n_mul, nI_ltI, nI_leI, nI_eq, nI_clamp]; omega), nI_clamp (by omega), g1, g2]
        refine ⟨hv, ?_⟩
        have ih := ih (r + 1) (by omega) (by omega)
        rw [sm] at ih
        have hcr := hca r (by omega)
        unfold wp_X6_carried_33
        by_cases z : ca a r = l
        · rw [if_pos (by rw [z])]
          rw [if_pos z] at ih
          refine ⟨hv, ?_⟩
          rintro _ rfl _ rfl
          rw [nI_add, nI_1]; exact ih
        · rw [if_neg (by rw [nI_eq (by omega) (by omega)]; exact z)]
          rw [if_neg z] at ih
          rintro _ rfl _ rfl
          rw [Int32.add_zero, nI_1]; exact ih
  obtain ⟨N, hN⟩ : ∃ N, nR a < N := ⟨_, Nat.lt_succ_self _⟩
  exact ⟨N, key N 0 (by omega) (by omega)⟩
theorem m_lvs {S : St} {a : Ab} (h : WF a) (hI : InvM S a) (P : Int32 → St → Prop) (hP : P (nI (lvs a)) S) : wp_X6_numberOfLights S P := by
  have hn60 : nL a ≤ 60 := by have := h.2.2.2.1; have := h.2.2.2.2.1; omega
  have key : ∀ (N i : Nat), i ≤ nL a → nL a < N + i → wp_X6_numberOfLights_4 P N S (nI (cnt i (fun l => !(wy a l).isEmpty))) (nI i) := by
    intro N
    induction N with
    | zero => intro i h1 h2; omega
    | succ N ih =>
      intro i h1 h2
      rw [wp_X6_numberOfLights_4]
      dsimp only
      rw [hI.1.2.2.2.2]
      by_cases q : i = nL a
      · rw [if_pos (by simp (disch := omega) only [n_0, n_1, n_2, n_3, n_7, n_8, n_9, n_10, n_12, n_14, n_18, n_20, n_60, n_112, n_162, n_255, n_1000, nI_add, n_mul, nI_ltI, nI_leI, nI_eq, nI_clamp]; omega), q]; exact hP
      · have hi : i < nL a := by omega
        rw [if_neg (by simp (disch := omega) only [n_0, n_1, n_2, n_3, n_7, n_8, n_9, n_10, n_12, n_14, n_18, n_20, n_60, n_112, n_162, n_255, n_1000, nI_add, n_mul, nI_ltI, nI_leI, nI_eq, nI_clamp]; omega), nI_clamp (by omega), (hI.2.2.2.2.2 i hi).2.2.1]
        refine ⟨vp_in_nI (by omega) (by omega), ?_⟩
        have ih := ih (i + 1) (by omega) (by omega)
        rw [cnt] at ih
        have hw2 := (h.ways hi).1
        unfold wp_X6_numberOfLights_27
        rcases hq : wy a i with _ | ⟨w, r⟩
        · rw [if_pos (show nI ([] : List Wy).length ≤ 0 by decide)]
          rw [hq, if_neg (by simp)] at ih
          rintro _ rfl _ rfl
          rw [b2i_f, Int32.add_zero, nI_1]; exact ih
        · rw [hq] at hw2
          rw [if_neg (by simp only [List.length_cons] at *; simp (disch := omega) only [n_0, n_1, n_2, n_3, n_7, n_8, n_9, n_10, n_12, n_14, n_18, n_20, n_60, n_112, n_162, n_255, n_1000, nI_add, n_mul, nI_ltI, nI_leI, nI_eq, nI_clamp]; omega)]
          rw [hq, if_pos (by simp)] at ih
          rintro _ rfl _ rfl
          rw [b2i_t, nI_1, nI_1]; exact ih
  obtain ⟨N, hN⟩ : ∃ N, nL a < N := ⟨_, Nat.lt_succ_self _⟩
  exact ⟨N, key N 0 (by omega) (by omega)⟩
theorem m_same {S : St} {a : Ab} (h : WF a) (hI : InvM S a) {l x y : Nat} (hl : l < nL a) (hx : x < 8) (hy : y < 8) (P : Bool → St → Prop) (hP : P (jns a l x y) S) : wp_X6_haveSameEnds S (nI l) (nI x) (nI y) P := by
  have hn60 : nL a ≤ 60 := by have := h.2.2.2.1; have := h.2.2.2.2.1; omega
  obtain ⟨h1, h2, _⟩ := h.2.2.2.2.2.2.2.2.2.1 l hl
  have h8 := h.1.2
  obtain ⟨g1, g2, _⟩ := hI.2.2.2.2.2 l hl
  have hv : vp_in (nI l) 60 := vp_in_nI (by omega) (by omega)
  unfold wp_X6_haveSameEnds wp_X6_haveSameEnds_20
  rw [nI_clamp (by omega), g1, g2]
  unfold jns at hP
  simp only [nI_eq (show sn a l < 2 ^ 31 by omega) (show x < 2 ^ 31 by omega), nI_eq (show sn a l < 2 ^ 31 by omega) (show y < 2 ^ 31 by omega), nI_eq (show en a l < 2 ^ 31 by omega) (show x < 2 ^ 31 by omega), nI_eq (show en a l < 2 ^ 31 by omega) (show y < 2 ^ 31 by omega)]
  have B : ∀ u v : Nat, (u == v) = decide (u = v) := fun _ _ => rfl
  rw [B, B, B, B] at hP
  refine ⟨hv, ?_⟩
  by_cases q1 : sn a l = x
  · rw [if_pos q1]
    rw [decide_eq_true q1] at hP
    refine ⟨hv, ?_⟩
    by_cases q2 : en a l = y
    · rw [if_pos q2]; rw [decide_eq_true q2] at hP; exact hP
    · rw [if_neg q2]
      rw [decide_eq_false q2, Bool.and_false, Bool.false_or] at hP
      refine ⟨hv, ?_⟩
      by_cases q3 : sn a l = y
      · rw [if_pos q3]
        rw [decide_eq_true q3] at hP
        refine ⟨hv, ?_⟩
        by_cases q4 : en a l = x
        · rw [if_pos q4]; rw [decide_eq_true q4] at hP; exact hP
        · rw [if_neg q4]; rw [decide_eq_false q4] at hP; exact hP
      · rw [if_neg q3]; rw [decide_eq_false q3] at hP; exact hP
  · rw [if_neg q1]
    rw [decide_eq_false q1, Bool.false_and, Bool.false_or] at hP
    refine ⟨hv, ?_⟩
    by_cases q3 : sn a l = y
    · rw [if_pos q3]
      rw [decide_eq_true q3] at hP
      refine ⟨hv, ?_⟩
      by_cases q4 : en a l = x
      · rw [if_pos q4]; rw [decide_eq_true q4] at hP; exact hP
      · rw [if_neg q4]; rw [decide_eq_false q4] at hP; exact hP
    · rw [if_neg q3]; rw [decide_eq_false q3] at hP; exact hP
