/-! THE PURE LAYER: the reference's channels in use -/
theorem m_uses {S : St} {l i : Nat} {w : Wy} {user : Int32} (hl : l < 60) (hi : i < 2) (hs : SW w) (hR : RepM S 379 (20 * l + 10 * i) w) (P : St → Prop)
    (hP : ∀ S', agr (fun q => q ≠ 373) S S' → (∀ f x, f < 14 → x < 8 → gI S' 373 (8 * f + x) = if w.1.contains (10 * f + x) = true then user else gI S 373 (8 * f + x)) → P S') : wp_X6_uses S (nI l) (nI i) user P := by
  have hs7 := hs.1
  have key : ∀ (N j : Nat) (S' : St), j ≤ w.1.length → w.1.length < N + j → agr (fun q => q ≠ 373) S S' → (∀ f x, f < 14 → x < 8 → gI S' 373 (8 * f + x) = if (w.1.take j).contains (10 * f + x) = true then user else gI S 373 (8 * f + x)) → wp_X6_uses_3 (nI l) (nI i) user P N S' (nI j) := by
    intro N
    induction N with
    | zero => intro j S' h1 h2; omega
    | succ N ih =>
      intro j S' h1 h2 hag ht
      rw [wp_X6_uses_3]
      dsimp only
      have hR' := hR.ag (hag 379 (by omega))
      refine m_way (j := 7) hl hi (by omega) _ ?_
      rw [hR'.2.1]
      by_cases q : j = w.1.length
      · rw [if_pos (by simp (disch := omega) only [n_0, n_1, n_2, n_3, n_7, n_8, n_9, n_10, n_12, n_14, n_18, n_20, n_60, n_112, n_162, n_255, n_1000, nI_add, n_mul, nI_ltI, nI_leI, nI_eq, nI_clamp]; omega)]
        rw [q, List.take_length] at ht
        exact hP S' hag ht
      · have hj : j < w.1.length := by omega
        rw [if_neg (by simp (disch := omega) only [n_0, n_1, n_2, n_3, n_7, n_8, n_9, n_10, n_12, n_14, n_18, n_20, n_60, n_112, n_162, n_255, n_1000, nI_add, n_mul, nI_ltI, nI_leI, nI_eq, nI_clamp]; omega)]
        refine m_way (j := j) hl hi (by omega) _ ?_
        have hc := hs.2.1 _ (List.getElem_mem hj)
        rw [hR'.1 j hj]
        unfold wp_X6_placeOf
        rw [n_r10 (by omega), n_d10 (by omega), n_8, n_mul, nI_add]
        refine ⟨vp_in_nI (by omega) (by omega), ?_⟩
        rw [nI_clamp (by omega)]
        rintro S2 hS2 _ rfl
        rw [nI_1]
        refine ih (j + 1) S2 (by omega) (by omega) ?_ ?_
        · subst hS2; exact hag.tr (agr_sI (by simp) _ _ _)
        · intro f x hf hx
          have hcont : (w.1.take (j + 1)).contains (10 * f + x) = ((w.1.take j).contains (10 * f + x) || (10 * f + x == w.1[j]'hj)) := by
            rw [List.take_add_one, List.getElem?_eq_getElem hj, Bool.eq_iff_iff, List.contains_iff_mem, Bool.or_eq_true, List.contains_iff_mem, List.mem_append]
            simp
          rw [hcont]
          subst hS2
          by_cases z : 10 * f + x = w.1[j]'hj
          · have hfx : 8 * f + x = 8 * (w.1[j]'hj / 10) + w.1[j]'hj % 10 := by omega
            rw [hfx, gI_s, if_pos (by rw [z]; simp)]
          · rw [gI_n (by omega), ht f x hf hx]
            have : (10 * f + x == w.1[j]'hj) = false := by rw [beq_eq_false_iff_ne]; exact z
            rw [this, Bool.or_false]
  obtain ⟨N, hN⟩ : ∃ N, w.1.length < N := ⟨_, Nat.lt_succ_self _⟩
  exact ⟨N, key N 0 S (by omega) (by omega) (agr.rf _ _) (fun f x _ _ => by simp)⟩
theorem m_gets {S : St} {l i k : Nat} {w : Wy} (hl : l < 60) (hi : i < 2) (hs : SW w) (hk : k = 384 ∨ k = 385) (hR : RepM S k 0 w) (P : St → Prop)
    (hP : ∀ S', agr (fun q => q ≠ 373 ∧ q ≠ 379) S S' → RepM S' 379 (20 * l + 10 * i) w → (∀ j, ¬ (20 * l + 10 * i ≤ j ∧ j < 20 * l + 10 * i + 10) → gI S' 379 j = gI S 379 j) → (∀ f x, f < 14 → x < 8 → gI S' 373 (8 * f + x) = if w.1.contains (10 * f + x) = true then nI l else gI S 373 (8 * f + x)) → P S') : wp_X6_gets S (nI l) (nI i) k P := by
  have hs7 := hs.1
  have key : ∀ (N j : Nat) (S' : St), j ≤ 10 → 10 < N + j → agr (fun q => q ≠ 379) S S' → (∀ z, z < j → gI S' 379 (20 * l + 10 * i + z) = gI S k z) → (∀ z, ¬ (20 * l + 10 * i ≤ z ∧ z < 20 * l + 10 * i + 10) → gI S' 379 z = gI S 379 z) → wp_X6_gets_3 (nI l) (nI i) k P N S' (nI j) := by
    intro N
    induction N with
    | zero => intro j S' h1 h2; omega
    | succ N ih =>
      intro j S' h1 h2 hag hc ho
      rw [wp_X6_gets_3]
      dsimp only
      by_cases q : j = 10
      · rw [if_pos (by simp (disch := omega) only [n_0, n_1, n_2, n_3, n_7, n_8, n_9, n_10, n_12, n_14, n_18, n_20, n_60, n_112, n_162, n_255, n_1000, nI_add, n_mul, nI_ltI, nI_leI, nI_eq, nI_clamp]; omega)]
        subst q
        unfold wp_X6_gets_37
        have hR' : RepM S' 379 (20 * l + 10 * i) w := by
          obtain ⟨a0, a7, a8, a9⟩ := hR
          simp only [Nat.zero_add] at a0 a7 a8 a9
          exact ⟨fun p hp => by rw [hc p (by omega)]; exact a0 p hp, by rw [hc 7 (by omega)]; exact a7, by rw [hc 8 (by omega)]; exact a8, by rw [hc 9 (by omega)]; exact a9⟩
        refine m_uses hl hi hs hR' _ ?_
        intro S2 hag2 ht2
        refine hP S2 ((hag.mo (fun q hq => hq.2)).tr (hag2.mo (fun q hq => hq.1))) (hR'.ag (hag2 379 (by omega))) (fun z hz => by rw [(hag2 379 (by omega)).1]; exact ho z hz) ?_
        intro f x hf hx
        rw [ht2 f x hf hx, (hag 373 (by omega)).1]
      · rw [if_neg (by simp (disch := omega) only [n_0, n_1, n_2, n_3, n_7, n_8, n_9, n_10, n_12, n_14, n_18, n_20, n_60, n_112, n_162, n_255, n_1000, nI_add, n_mul, nI_ltI, nI_leI, nI_eq, nI_clamp]; omega), n_20, n_10, n_mul, n_mul, nI_add, nI_add, nI_clamp (by omega), nI_clamp (by omega)]
        refine ⟨vp_in_nI (by omega) (by omega), vp_in_nI (by omega) (by omega), ?_⟩
        rintro S2 hS2 _ rfl
        rw [nI_1]
        refine ih (j + 1) S2 (by omega) (by omega) ?_ ?_ ?_
        · subst hS2; exact hag.tr (agr_sI (by simp) _ _ _)
        · intro z hz
          subst hS2
          by_cases y : z = j
          · subst y; rw [gI_s, (hag k (by omega)).1]
          · rw [gI_n (by omega)]; exact hc z (by omega)
        · intro z hz
          subst hS2
          rw [gI_n (by omega)]; exact ho z hz
  obtain ⟨N, hN⟩ : ∃ N, 10 < N := ⟨11, by omega⟩
  exact ⟨N, key N 0 S (by omega) (by omega) (agr.rf _ _) (fun z hz => absurd hz (Nat.not_lt_zero _)) (fun z _ => rfl)⟩
theorem m_ends {S : St} {a : Ab} (h : WF a) {l : Nat} (hl : l < nL a) (hI : gI S 378 l = nI (wy a l).length ∧ ∀ (i : Nat) (w : Wy), (wy a l)[i]? = some w → RepM S 379 (20 * l + 10 * i) w) (P : St → Prop)
    (hP : ∀ S', agr (fun q => q ≠ 373 ∧ q ≠ 378) S S' → (∀ j, gI S' 378 j = if j = l then 0 else gI S 378 j) → (∀ f x, f < 14 → x < 8 → gI S' 373 (8 * f + x) = if onc (wy a l) (10 * f + x) = true then -1 else gI S 373 (8 * f + x)) → P S') : wp_X6_ends S (nI l) P := by
  have hn60 : nL a ≤ 60 := by have := h.2.2.2.1; have := h.2.2.2.2.1; omega
  obtain ⟨hw2, hwg⟩ := h.ways hl
  have hv : vp_in (nI l) 60 := vp_in_nI (by omega) (by omega)
  have key : ∀ (N i : Nat) (S' : St), i ≤ (wy a l).length → (wy a l).length < N + i → agr (fun q => q ≠ 373) S S' → (∀ f x, f < 14 → x < 8 → gI S' 373 (8 * f + x) = if onc ((wy a l).take i) (10 * f + x) = true then -1 else gI S 373 (8 * f + x)) → wp_X6_ends_2 (nI l) P N S' (nI i) := by
    intro N
    induction N with
    | zero => intro i S' h1 h2; omega
    | succ N ih =>
      intro i S' h1 h2 hag ht
      rw [wp_X6_ends_2]
      dsimp only
      rw [nI_clamp (by omega), (hag 378 (by omega)).1, hI.1]
      refine ⟨hv, ?_⟩
      by_cases q : i = (wy a l).length
      · rw [if_pos (by simp (disch := omega) only [n_0, n_1, n_2, n_3, n_7, n_8, n_9, n_10, n_12, n_14, n_18, n_20, n_60, n_112, n_162, n_255, n_1000, nI_add, n_mul, nI_ltI, nI_leI, nI_eq, nI_clamp]; omega)]
        rw [q, List.take_length] at ht
        unfold wp_X6_ends_25
        refine ⟨hv, ?_⟩
        rw [nI_clamp (by omega)]
        rintro S2 hS2
        refine hP S2 ?_ ?_ ?_
        · subst hS2; exact (hag.mo (fun q hq => hq.1)).tr (agr_sI (by simp) _ _ _)
        · intro j
          subst hS2
          by_cases z : j = l
          · subst z; rw [gI_s, if_pos rfl]
          · rw [gI_n (by omega), if_neg z, (hag 378 (by omega)).1]
        · intro f x hf hx
          subst hS2
          rw [gI_n (by omega)]; exact ht f x hf hx
      · have hi : i < (wy a l).length := by omega
        rw [if_neg (by simp (disch := omega) only [n_0, n_1, n_2, n_3, n_7, n_8, n_9, n_10, n_12, n_14, n_18, n_20, n_60, n_112, n_162, n_255, n_1000, nI_add, n_mul, nI_ltI, nI_leI, nI_eq, nI_clamp]; omega)]
        have hwi : (wy a l)[i]? = some ((wy a l)[i]'hi) := List.getElem?_eq_getElem hi
        obtain ⟨hi2, hg, hs⟩ := hwg i _ hwi
        refine m_uses (by omega) hi2 hs ((hI.2 i _ hwi).ag (hag 379 (by omega))) _ ?_
        intro S2 hag2 ht2
        rintro _ rfl
        rw [nI_1]
        refine ih (i + 1) S2 (by omega) (by omega) (hag.tr hag2) ?_
        intro f x hf hx
        rw [ht2 f x hf hx, ht f x hf hx]
        have : onc ((wy a l).take (i + 1)) (10 * f + x) = (onc ((wy a l).take i) (10 * f + x) || ((wy a l)[i]'hi).1.contains (10 * f + x)) := by
          unfold onc
          rw [List.take_add_one, hwi, List.any_append]
          simp
        rw [this]
        by_cases z : ((wy a l)[i]'hi).1.contains (10 * f + x) = true
        · rw [if_pos z, z, Bool.or_true, if_pos rfl]
        · rw [if_neg z]
          rw [Bool.not_eq_true] at z
          rw [z, Bool.or_false]
  obtain ⟨N, hN⟩ : ∃ N, (wy a l).length < N := ⟨_, Nat.lt_succ_self _⟩
  exact ⟨N, key N 0 S (by omega) (by omega) (agr.rf _ _) (fun f x _ _ => by simp [onc])⟩
