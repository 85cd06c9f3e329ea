/-! THE PURE LAYER: the fibres of a light's first way, at the reference -/
theorem m_fib {S : St} {a : Ab} (h : WF a) (hI : InvM S a) {l : Nat} (hl : l < nL a) {w : Wy} (hw : (wy a l)[0]? = some w) (P : Int32 → St → Prop) (hP : P (nI (fbs w)) S) : wp_X6_fibresOf S (nI l) P := by
  have hn60 : nL a ≤ 60 := by have := h.2.2.2.1; have := h.2.2.2.2.1; omega
  obtain ⟨_, _, hs⟩ := (h.ways hl).2 0 w hw
  obtain ⟨r0, r7, _⟩ := hI.lt hl hw
  have hs7 := hs.1
  have key : ∀ (N j m : Nat), j ≤ w.1.length → w.1.length < N + j → (∀ f, m.testBit f = (w.1.take j).any (fun c => c / 10 == f)) → wp_X6_fibresOf_4 (nI l) P N S (nI m) (nI j) := by
    intro N
    induction N with
    | zero => intro j m h1 h2; omega
    | succ N ih =>
      intro j m h1 h2 hm
      rw [wp_X6_fibresOf_4]
      dsimp only
      refine m_way (l := l) (i := 0) (j := 7) (by omega) (by omega) (by omega) _ ?_
      rw [r7]
      by_cases q : j = w.1.length
      · rw [if_pos (by simp (disch := omega) only [n_0, n_1, n_2, n_3, n_7, n_8, n_9, n_10, n_12, n_14, n_18, n_20, n_60, n_112, n_162, n_255, n_1000, nI_add, n_mul, nI_ltI, nI_leI, nI_eq, nI_clamp]; omega)]
        rw [q, List.take_length] at hm
        have : m = fbs w := by
          apply Nat.eq_of_testBit_eq
          intro f
          rw [hm, fbs_bit hs]
        rw [this]; exact hP
      · have hj : j < w.1.length := by omega
        rw [if_neg (by simp (disch := omega) only [n_0, n_1, n_2, n_3, n_7, n_8, n_9, n_10, n_12, n_14, n_18, n_20, n_60, n_112, n_162, n_255, n_1000, nI_add, n_mul, nI_ltI, nI_leI, nI_eq, nI_clamp]; omega)]
        refine m_way (l := l) (i := 0) (j := j) (by omega) (by omega) (by omega) _ ?_
        have hc := hs.2.1 _ (List.getElem_mem hj)
        rw [r0 j hj, n_d10 (by omega), n_one (by omega), n_or]
        rintro _ rfl _ rfl
        rw [nI_1]
        refine ih (j + 1) _ (by omega) (by omega) ?_
        intro f
        rw [Nat.testBit_or, hm, Nat.testBit_two_pow, List.take_add_one, List.getElem?_eq_getElem hj, List.any_append]
        simp
        rfl
  obtain ⟨N, hN⟩ : ∃ N, w.1.length < N := ⟨_, Nat.lt_succ_self _⟩
  exact ⟨N, key N 0 0 (by omega) (by omega) (fun f => by simp)⟩
