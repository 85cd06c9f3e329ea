/-! THE PURE LAYER: the reference merges, moves, counts wavelengths -/
theorem m_mergeable {S : St} {a : Ab} {l g : Nat} (h : WF a) (hI : InvM S a) (hl : l < nL a) (hg : g < nL a) (P : Bool → St → Prop) (hP : P (mga a l g) S) : wp_X6_areMergeable S (nI l) (nI g) P := by
  have hn := h.n60
  have hi8 := h.1.2
  have hvl : vp_in (nI l) 60 := vp_in_nI (by omega) (by omega)
  have hvg : vp_in (nI g) 60 := vp_in_nI (by omega) (by omega)
  obtain ⟨b1, b2, _, hul, _, wl, _⟩ := h.lig l hl
  obtain ⟨b3, b4, _, hug, _, wg, _⟩ := h.lig g hg
  obtain ⟨c1, c2, c3, _⟩ := hI.2.2.2.2.2 g hg
  have d3 := (hI.2.2.2.2.2 l hl).2.2.1
  have len1 : ∀ n, n ≤ 2 → (nI n = 1 ↔ (n == 1) = true) := fun n hn => by
    rw [n_1, nI_eq (by omega) (by omega)]; simp
  unfold wp_X6_areMergeable
  unfold mga at hP
  refine m_isUp h hI hl _ ?_
  rcases hu : lup a l with _ | _
  · rw [hu] at hP; rw [if_neg (by decide)]; exact hP
  · rw [hu, Bool.true_and] at hP
    rw [if_pos rfl]
    refine m_isUp h hI hg _ ?_
    rcases hu2 : lup a g with _ | _
    · rw [hu2] at hP; rw [if_neg (by decide)]; exact hP
    · rw [hu2, Bool.true_and] at hP
      rw [if_pos rfl, nI_clamp (by omega), nI_clamp (by omega), d3, c3]
      refine ⟨hvl, ?_⟩
      by_cases e1 : ((wy a l).length == 1) = true
      · rw [if_pos ((len1 _ wl).mpr e1)]
        rw [e1, Bool.true_and] at hP
        refine ⟨hvg, ?_⟩
        by_cases e2 : ((wy a g).length == 1) = true
        · rw [if_pos ((len1 _ wg).mpr e2)]
          rw [e2, Bool.true_and] at hP
          refine ⟨hvg, hvg, ?_⟩
          rw [c1, c2]
          refine m_same h hI hl (by omega) (by omega) _ ?_
          rcases hj : jns a l (sn a g) (en a g) with _ | _
          · rw [hj] at hP; rw [if_neg (by decide)]; exact hP
          · rw [hj, Bool.true_and] at hP
            rw [if_pos rfl]
            refine m_carried h.2.2.2.2.1 hI (by omega) h.ca60 _ ?_
            refine m_carried h.2.2.2.2.1 hI (by omega) h.ca60 _ ?_
            rw [nI_add]
            by_cases c3 : units a l + units a g ≤ 10
            · rw [decide_eq_true c3] at hP; rw [if_neg (by simp (disch := omega) only [n_0, n_1, n_2, n_3, n_7, n_8, n_9, n_10, n_12, n_14, n_18, n_20, n_60, n_112, n_162, n_255, n_1000, nI_add, n_mul, nI_ltI, nI_leI, nI_eq, nI_clamp]; omega)]; exact hP
            · rw [decide_eq_false c3] at hP; rw [if_pos (by simp (disch := omega) only [n_0, n_1, n_2, n_3, n_7, n_8, n_9, n_10, n_12, n_14, n_18, n_20, n_60, n_112, n_162, n_255, n_1000, nI_add, n_mul, nI_ltI, nI_leI, nI_eq, nI_clamp]; omega)]; exact hP
        · rw [if_neg (fun z => e2 ((len1 _ wg).mp z))]
          rw [Bool.not_eq_true] at e2
          rw [e2] at hP; exact hP
      · rw [if_neg (fun z => e1 ((len1 _ wl).mp z))]
        rw [Bool.not_eq_true] at e1
        rw [e1] at hP; exact hP
theorem m_takesOver {S : St} {a : Ab} {l g : Nat} (h : WF a) (hI : InvM S a) (hl : l < nL a) (hg : g < nL a) (hlg : l ≠ g) (hu : units a l + units a g ≤ 10) (hup : wy a l ≠ []) (P : St → Prop)
    (hP : ∀ S', KM S S' (xM a l g) → gI S' 367 0 = gI S 367 0 → P S') : wp_X6_takesOver S (nI l) (nI g) P := by
  have hn := h.n60
  have hn2 := h.2.2.2.2.1
  have hWb := h.kM hl hg hlg hu hup
  unfold wp_X6_takesOver
  have key : ∀ (N i : Nat) (S' : St), i ≤ nR a → nR a < N + i → agr (fun k => k ≠ 374) S S' → (∀ r, r < nR a → gI S' 374 r = nI (if r < i then ca (xM a l g) r else ca a r)) → wp_X6_takesOver_2 (nI l) (nI g) P N S' (nI i) := by
    intro N
    induction N with
    | zero => intro i S' h1 h2; omega
    | succ N ih =>
      intro i S' h1 h2 hag hr
      rw [wp_X6_takesOver_2]
      dsimp only
      rw [(hag 367 (by omega)).1, hI.1.2.2.2.1]
      by_cases q : i = nR a
      · rw [if_pos (by simp (disch := omega) only [n_0, n_1, n_2, n_3, n_7, n_8, n_9, n_10, n_12, n_14, n_18, n_20, n_60, n_112, n_162, n_255, n_1000, nI_add, n_mul, nI_ltI, nI_leI, nI_eq, nI_clamp]; omega)]
        unfold wp_X6_takesOver_51
        obtain ⟨⟨b1, b2, b3, b4, b5⟩, b6, b7, b8, b9, b10⟩ := id hI
        refine m_ends h hg ⟨by rw [(hag 378 (by omega)).1]; exact (b10 g hg).2.2.1, fun i w hw => ((b10 g hg).2.2.2 i w hw).ag (hag 379 (by omega))⟩ _ (fun S2 hag2 h78 h73 => ?_)
        have e67 : ∀ j, gI S2 367 j = gI S 367 j := fun j => by rw [(hag2 367 (by omega)).1, (hag 367 (by omega)).1]
        have hall : agr (fun k => k ≠ 373 ∧ k ≠ 374 ∧ k ≠ 378) S S2 := (hag.mo (fun k hk => hk.2.1)).tr (hag2.mo (fun k hk => ⟨hk.1, hk.2.2⟩))
        refine hP S2 ⟨hall.mo (fun k hk => by omega), ?_⟩ (e67 0)
        refine ⟨⟨by rw [e67]; exact b1, by rw [e67]; exact b2, by rw [e67]; exact b3, by rw [e67]; exact b4, by rw [e67]; exact b5⟩, ?_, ?_, ?_, ?_, ?_⟩
        · intro u hu; rw [(hall 368 (by omega)).1]; exact b6 u hu
        · intro f hf; rw [(hall 369 (by omega)).1, (hall 370 (by omega)).1, (hall 371 (by omega)).1, (hall 372 (by omega)).1]; exact b7 f hf
        · intro f w hf hw
          rw [h73 f w hf hw, (hag 373 (by omega)).1, usr_upd h hWb (l := g) (fun k hk hne => ⟨hk, by rw [xM_wy, put_n _ _ hne]⟩) (fun k hk => hk) hg f w]
          rw [xM_wy, put_s, if_neg (show ¬ onc [] (10 * f + w) = true by simp [onc])]
          by_cases q : onc (wy a g) (10 * f + w) = true
          · rw [if_pos q, if_pos ⟨hg, q⟩]
          · rw [if_neg q, if_neg (fun z => q z.2)]; exact b8 f w hf hw
        · intro r hr2
          rw [(hag2 374 (by omega)).1, hr r hr2, if_pos (by rw [q]; exact hr2), (hall 375 (by omega)).1]
          exact ⟨rfl, (b9 r hr2).2⟩
        · intro k hk
          obtain ⟨c1, c2, c3, c4⟩ := b10 k hk
          rw [(hall 376 (by omega)).1, (hall 377 (by omega)).1, h78 k, (hag 378 (by omega)).1, xM_wy]
          refine ⟨c1, c2, ?_, ?_⟩
          · by_cases z : k = g
            · rw [if_pos z, z, put_s]; rfl
            · rw [if_neg z, put_n _ _ z]; exact c3
          · intro i w hw
            by_cases z : k = g
            · rw [z, put_s] at hw; simp at hw
            · rw [put_n _ _ z] at hw
              exact (c4 i w hw).ag (hall 379 (by omega))
      · have hi : i < nR a := by omega
        have hv : vp_in (nI i) 60 := vp_in_nI (by omega) (by omega)
        have hc60 := h.ca60 i hi
        rw [if_neg (by simp (disch := omega) only [n_0, n_1, n_2, n_3, n_7, n_8, n_9, n_10, n_12, n_14, n_18, n_20, n_60, n_112, n_162, n_255, n_1000, nI_add, n_mul, nI_ltI, nI_leI, nI_eq, nI_clamp]; omega), nI_clamp (by omega), hr i hi, if_neg (Nat.lt_irrefl i), (hag 375 (by omega)).1, (hI.2.2.2.2.1 i hi).2]
        have nx : ∀ v : Int32, v = nI (ca (xM a l g) i) → wp_X6_takesOver_44 (nI l) (nI g) P (fun S a3 => wp_X6_takesOver_2 (nI l) (nI g) P N S a3) S' (nI i) (nI i) v := by
          rintro _ rfl
          unfold wp_X6_takesOver_44
          rw [nI_clamp (by omega)]
          refine ⟨hv, ?_⟩
          rintro _ rfl _ rfl
          rw [nI_1]
          refine ih (i + 1) _ (by omega) (by omega) (hag.tr (agr_sI (by omega) _ _ _)) (fun r hr2 => ?_)
          by_cases z : r = i
          · subst z
            rw [gI_s, if_pos (Nat.lt_succ_self r)]
          · rw [gI_n (by omega), hr r hr2]
            by_cases z2 : r < i
            · rw [if_pos z2, if_pos (by omega)]
            · rw [if_neg z2, if_neg (by omega)]
        have same : ¬ (ca a i = g ∧ de a i ≠ 0) → wp_X6_takesOver_38 (nI l) (nI g) P (fun S a3 => wp_X6_takesOver_2 (nI l) (nI g) P N S a3) S' (nI i) (nI i) := by
          intro hs
          unfold wp_X6_takesOver_38
          rw [nI_clamp (by omega)]
          refine ⟨hv, nx _ ?_⟩
          rw [hr i hi, if_neg (Nat.lt_irrefl i), xM_ca, if_neg hs]
        have hd10 := (h.req i hi).2
        refine ⟨hv, ?_⟩
        by_cases c : ca a i = g
        · rw [if_pos (by rw [c])]
          refine ⟨hv, ?_⟩
          by_cases c2 : de a i = 0
          · rw [if_pos (by rw [c2]; decide)]
            exact same (fun z => z.2 c2)
          · rw [if_neg (by simp (disch := omega) only [n_0, n_1, n_2, n_3, n_7, n_8, n_9, n_10, n_12, n_14, n_18, n_20, n_60, n_112, n_162, n_255, n_1000, nI_add, n_mul, nI_ltI, nI_leI, nI_eq, nI_clamp]; omega)]
            exact nx _ (by rw [xM_ca, if_pos ⟨c, c2⟩])
        · rw [if_neg (by rw [nI_eq (by omega) (by omega)]; exact c)]
          exact same (fun z => c z.1)
  obtain ⟨N, hN⟩ : ∃ N, nR a < N := ⟨_, Nat.lt_succ_self _⟩
  refine ⟨N, key N 0 S (by omega) (by omega) (agr.rf _ _) (fun r hr => ?_)⟩
  rw [if_neg (Nat.not_lt_zero r)]; exact (hI.2.2.2.2.1 r hr).1
theorem m_merge {S : St} {a : Ab} (h : WF a) (hI : InvM S a) (P : Int32 → St → Prop) (hO : OutM S a (q_merge a) P) : wp_X6_merge S P := by
  have hn := h.n60
  unfold wp_X6_merge
  have key : ∀ (N i : Nat), i ≤ nL a → nL a < N + i → (∀ l, l < i → m1 a l = nL a) → wp_X6_merge_2 P N S (nI i) := by
    intro N
    induction N with
    | zero => intro i h1 h2; omega
    | succ N ih =>
      intro i h1 h2 h3
      rw [wp_X6_merge_2]
      dsimp only
      rw [hI.1.2.2.2.2]
      by_cases q : i = nL a
      · rw [if_pos (by simp (disch := omega) only [n_0, n_1, n_2, n_3, n_7, n_8, n_9, n_10, n_12, n_14, n_18, n_20, n_60, n_112, n_162, n_255, n_1000, nI_add, n_mul, nI_ltI, nI_leI, nI_eq, nI_clamp]; omega)]
        unfold wp_X6_merge_56
        rintro _ rfl
        refine hO.2 1 0 _ ?_ (KM.th hI 1) (gI_s _ _ _ _)
        unfold q_merge
        have e : m0 a = nL a := low_none (fun l hl => by rw [h3 l (by omega)]; simp)
        rw [e, if_neg (Nat.lt_irrefl _)]
      · have hi : i < nL a := by omega
        rw [if_neg (by simp (disch := omega) only [n_0, n_1, n_2, n_3, n_7, n_8, n_9, n_10, n_12, n_14, n_18, n_20, n_60, n_112, n_162, n_255, n_1000, nI_add, n_mul, nI_ltI, nI_leI, nI_eq, nI_clamp]; omega)]
        rintro _ rfl
        rw [nI_1]
        have inner : ∀ (M j : Nat), i < j → j ≤ nL a → nL a < M + j → (∀ g, i < g → g < j → mga a i g = false) → wp_X6_merge_14 P (fun S a1 => wp_X6_merge_2 P N S a1) M S (nI i) (nI j) := by
          intro M
          induction M with
          | zero => intro j h1 h2; omega
          | succ M ih2 =>
            intro j j0 j1 j2 j3
            rw [wp_X6_merge_14]
            dsimp only
            rw [hI.1.2.2.2.2]
            by_cases q2 : j = nL a
            · rw [if_pos (by simp (disch := omega) only [n_0, n_1, n_2, n_3, n_7, n_8, n_9, n_10, n_12, n_14, n_18, n_20, n_60, n_112, n_162, n_255, n_1000, nI_add, n_mul, nI_ltI, nI_leI, nI_eq, nI_clamp]; omega)]
              unfold wp_X6_merge_50
              rintro _ rfl
              rw [nI_1]
              refine ih (i + 1) (by omega) (by omega) (fun l hl => ?_)
              by_cases z : l = i
              · rw [z]
                refine low_none (fun g hg => ?_)
                by_cases z2 : i < g
                · rw [j3 g z2 (by omega)]; simp
                · rw [decide_eq_false z2]; rfl
              · exact h3 l (by omega)
            · have hj : j < nL a := by omega
              rw [if_neg (by simp (disch := omega) only [n_0, n_1, n_2, n_3, n_7, n_8, n_9, n_10, n_12, n_14, n_18, n_20, n_60, n_112, n_162, n_255, n_1000, nI_add, n_mul, nI_ltI, nI_leI, nI_eq, nI_clamp]; omega)]
              refine m_mergeable h hI hi hj _ ?_
              rcases hm : mga a i j with _ | _
              · rw [if_neg (by decide)]
                rintro _ rfl
                rw [nI_1]
                refine ih2 (j + 1) (by omega) (by omega) (by omega) (fun g g1 g2 => ?_)
                by_cases z : g = j
                · rw [z]; exact hm
                · exact j3 g g1 (by omega)
              · rw [if_pos rfl]
                unfold wp_X6_merge_31
                rintro _ rfl
                obtain ⟨hne, hu⟩ := mga_t hm
                have hk0 := KM.th hI 0
                refine m_takesOver h hk0.2 hi hj (by omega) hu hne _ (fun S' hk ht => ?_)
                have e1 : m1 a i = j := low_uniq hj (by rw [decide_eq_true j0, hm]; rfl) (fun y hy => by
                  by_cases z : i < y
                  · rw [j3 y z hy]; simp
                  · rw [decide_eq_false z]; rfl)
                have e0 : m0 a = i := low_uniq hi (by rw [e1]; exact decide_eq_true hj) (fun y hy => by rw [h3 y hy]; simp)
                exact hO.1 _ _ S' (by unfold q_merge; rw [e0, e1, if_pos hi]) (hk0.tr hk) (by rw [ht, gI_s])
        obtain ⟨M, hM⟩ : ∃ M, nL a < M := ⟨_, Nat.lt_succ_self _⟩
        exact ⟨M, inner M (i + 1) (by omega) (by omega) (by omega) (fun g g1 g2 => by omega)⟩
  obtain ⟨N, hN⟩ : ∃ N, nL a < N := ⟨_, Nat.lt_succ_self _⟩
  exact ⟨N, key N 0 (by omega) (by omega) (fun l hl => absurd hl (Nat.not_lt_zero _))⟩
/-! moving -/
theorem all_take {l : List Nat} {p : Nat → Bool} {j : Nat} (hj : j < l.length) : (l.take (j + 1)).all p = ((l.take j).all p && p (l[j]'hj)) := by
  rw [List.take_add_one, List.getElem?_eq_getElem hj, List.all_append]
  simp
theorem m_lower {S : St} {a : Ab} {l i : Nat} {w : Wy} (h : WF a) (hI : InvM S a) (hl : l < nL a) (hw : (wy a l)[i]? = some w) (P : Int32 → St → Prop) (hP : P (if mvb a w = true then nI (lwf a w) else -1) S) : wp_X6_lower S (nI l) (nI i) P := by
  have hn := h.n60
  have hw8 := h.2.1.2
  obtain ⟨hi2, hg, hs⟩ := (h.ways hl).2 i w hw
  obtain ⟨r0, r7, r8, r9⟩ := hI.lt hl hw
  have h7 := hs.1
  have hlen : 0 < w.1.length := hg.1
  have hhd : w.1.headD 0 = w.1[0]'hlen := hd_at _ hlen
  have hb : ∀ (p : Nat) (hp : p < w.1.length), w.1[p]'hp / 10 < 14 ∧ w.1[p]'hp % 10 < 8 := fun p hp => hs.2.1 _ (List.getElem_mem hp)
  unfold wp_X6_lower
  refine m_way (l := l) (i := i) (j := 0) (by omega) hi2 (by omega) _ ?_
  rw [r0 0 hlen]
  have hc0 := hb 0 hlen
  rw [n_r10 (by omega)]
  rintro _ rfl
  generalize hy : w.1[0]'hlen % 10 = y at *
  -- all on one wavelength: no conversion
  have hone : w.1.all (fun c => c % 10 == y) = (w.2.2 == 0) := by
    rw [hg.2.2.2.2.1, Bool.eq_iff_iff, List.all_eq_true, beq_iff_eq]
    constructor
    · intro z
      exact chg_same (x := y) w.1 (fun c hc => by simpa using z c hc)
    · intro z c hc
      rcases hq : w.1 with _ | ⟨d, r⟩
      · rw [hq] at hc; cases hc
      · rw [hq] at z hc
        have e : d = w.1[0]'hlen := by simp [hq]
        have := chg_zero r d z c hc
        rw [this, e, hy]; simp
  have hmv : mvb a w = ((w.1.all (fun c => c % 10 == y)) && decide (lwf a w < y)) := by
    unfold mvb; rw [hhd, hy, hone]
  -- the wavelengths one by one
  have waves : ∀ (N x : Nat), x ≤ y → y < N + x → (∀ z, z < x → w.1.all (fun c => (usr a (c / 10) z).isNone) = false) → wp_X6_lower_66 (nI l) (nI i) P N S (nI y) (w.1.all (fun c => c % 10 == y)) (nI x) := by
    intro N
    induction N with
    | zero => intro x h1 h2; omega
    | succ N ih =>
      intro x h1 h2 h3
      rw [wp_X6_lower_66]
      dsimp only
      by_cases q : x = y
      · rw [if_pos (by simp (disch := omega) only [n_0, n_1, n_2, n_3, n_7, n_8, n_9, n_10, n_12, n_14, n_18, n_20, n_60, n_112, n_162, n_255, n_1000, nI_add, n_mul, nI_ltI, nI_leI, nI_eq, nI_clamp]; omega)]
        have e : mvb a w = false := by
          rw [hmv, Bool.and_eq_false_iff]
          right
          rw [decide_eq_false_iff_not]
          intro z
          have z2 : lwf a w < x := by omega
          have := low_is (n := 8) (p := fun x => w.1.all (fun c => (usr a (c / 10) x).isNone)) (show low 8 _ < 8 by unfold lwf at z; omega)
          rw [show low 8 (fun x => w.1.all (fun c => (usr a (c / 10) x).isNone)) = lwf a w from rfl] at this
          rw [h3 _ z2] at this; cases this
        rw [e] at hP; exact hP
      · rw [if_neg (by simp (disch := omega) only [n_0, n_1, n_2, n_3, n_7, n_8, n_9, n_10, n_12, n_14, n_18, n_20, n_60, n_112, n_162, n_255, n_1000, nI_add, n_mul, nI_ltI, nI_leI, nI_eq, nI_clamp]; omega)]
        rcases ho : w.1.all (fun c => c % 10 == y) with _ | _
        · rw [if_neg (by decide)]
          rw [hmv, ho, Bool.false_and] at hP; exact hP
        · rw [if_pos rfl]
          have places : ∀ (M j : Nat), j ≤ w.1.length → w.1.length < M + j → wp_X6_lower_83 (nI l) (nI i) P (fun S a3 a4 a5 => wp_X6_lower_66 (nI l) (nI i) P N S a3 a4 a5) M S (nI y) true (nI x) ((w.1.take j).all (fun c => (usr a (c / 10) x).isNone)) (nI j) := by
            intro M
            induction M with
            | zero => intro j h1 h2; omega
            | succ M ih2 =>
              intro j j1 j2
              rw [wp_X6_lower_83]
              dsimp only
              refine m_way (l := l) (i := i) (j := 7) (by omega) hi2 (by omega) _ ?_
              rw [r7]
              by_cases q2 : j = w.1.length
              · rw [if_pos (by simp (disch := omega) only [n_0, n_1, n_2, n_3, n_7, n_8, n_9, n_10, n_12, n_14, n_18, n_20, n_60, n_112, n_162, n_255, n_1000, nI_add, n_mul, nI_ltI, nI_leI, nI_eq, nI_clamp]; omega), q2, List.take_length]
                unfold wp_X6_lower_140
                rcases hf : w.1.all (fun c => (usr a (c / 10) x).isNone) with _ | _
                · rw [if_neg (by decide)]
                  rintro _ rfl
                  rw [nI_1]
                  have := ih (x + 1) (by omega) (by omega) (fun z hz => by
                    by_cases e : z = x
                    · rw [e]; exact hf
                    · exact h3 z (by omega))
                  rw [ho] at this; exact this
                · rw [if_pos rfl]
                  have e : lwf a w = x := low_uniq (by omega) hf (fun z hz => h3 z hz)
                  rw [hmv, ho, e, decide_eq_true (show x < y by omega)] at hP
                  exact hP
              · have hj : j < w.1.length := by omega
                have hbj := hb j hj
                have ih2 := ih2 (j + 1) (by omega) (by omega)
                rw [all_take hj] at ih2
                rw [if_neg (by simp (disch := omega) only [n_0, n_1, n_2, n_3, n_7, n_8, n_9, n_10, n_12, n_14, n_18, n_20, n_60, n_112, n_162, n_255, n_1000, nI_add, n_mul, nI_ltI, nI_leI, nI_eq, nI_clamp]; omega)]
                unfold wp_X6_lower_131 wp_X6_lower_132
                rcases hf : (w.1.take j).all (fun c => (usr a (c / 10) x).isNone) with _ | _
                · rw [if_neg (by decide)]
                  rintro _ rfl
                  rw [hf, Bool.false_and] at ih2
                  rw [nI_1]; exact ih2
                · rw [if_pos rfl]
                  rw [hf, Bool.true_and] at ih2
                  refine m_way (l := l) (i := i) (j := j) (by omega) hi2 (by omega) _ ?_
                  rw [r0 j hj, n_d10 (by omega), n_8, n_mul, nI_add, nI_clamp (by omega), hI.2.2.2.1 _ _ hbj.1 (show x < 8 by omega)]
                  refine ⟨vp_in_nI (by omega) (by omega), ?_⟩
                  by_cases c : usr a (w.1[j]'hj / 10) x = none
                  · rw [if_pos ((uN_none hn).mpr c)]
                    rintro _ rfl
                    rw [c] at ih2
                    rw [nI_1]; exact ih2
                  · rw [if_neg (fun z => c ((uN_none hn).mp z))]
                    rintro _ rfl
                    have : (usr a (w.1[j]'hj / 10) x).isNone = false := by
                      rcases hq : usr a (w.1[j]'hj / 10) x with _ | k
                      · exact absurd hq c
                      · rfl
                    rw [this] at ih2
                    rw [nI_1]; exact ih2
          obtain ⟨M, hM⟩ : ∃ M, w.1.length < M := ⟨_, Nat.lt_succ_self _⟩
          exact ⟨M, places M 0 (by omega) (by omega)⟩
  have firsts : ∀ (N j : Nat), 1 ≤ j → j ≤ w.1.length → w.1.length < N + j → wp_X6_lower_17 (nI l) (nI i) P N S (nI y) ((w.1.take j).all (fun c => c % 10 == y)) (nI j) := by
    intro N
    induction N with
    | zero => intro j _ h1 h2; omega
    | succ N ih =>
      intro j j0 j1 j2
      rw [wp_X6_lower_17]
      dsimp only
      refine m_way (l := l) (i := i) (j := 7) (by omega) hi2 (by omega) _ ?_
      rw [r7]
      by_cases q2 : j = w.1.length
      · rw [if_pos (by simp (disch := omega) only [n_0, n_1, n_2, n_3, n_7, n_8, n_9, n_10, n_12, n_14, n_18, n_20, n_60, n_112, n_162, n_255, n_1000, nI_add, n_mul, nI_ltI, nI_leI, nI_eq, nI_clamp]; omega), q2, List.take_length]
        unfold wp_X6_lower_63
        obtain ⟨M, hM⟩ : ∃ M, y < M := ⟨_, Nat.lt_succ_self _⟩
        exact ⟨M, waves M 0 (by omega) (by omega) (fun z hz => absurd hz (Nat.not_lt_zero _))⟩
      · have hj : j < w.1.length := by omega
        have hbj := hb j hj
        have ih := ih (j + 1) (by omega) (by omega) (by omega)
        rw [all_take hj] at ih
        rw [if_neg (by simp (disch := omega) only [n_0, n_1, n_2, n_3, n_7, n_8, n_9, n_10, n_12, n_14, n_18, n_20, n_60, n_112, n_162, n_255, n_1000, nI_add, n_mul, nI_ltI, nI_leI, nI_eq, nI_clamp]; omega)]
        unfold wp_X6_lower_54 wp_X6_lower_55
        rcases hf : (w.1.take j).all (fun c => c % 10 == y) with _ | _
        · rw [if_neg (by decide)]
          rintro _ rfl
          rw [hf, Bool.false_and] at ih
          rw [nI_1]; exact ih
        · rw [if_pos rfl]
          rw [hf, Bool.true_and] at ih
          refine m_way (l := l) (i := i) (j := j) (by omega) hi2 (by omega) _ ?_
          rw [r0 j hj, n_r10 (by omega)]
          by_cases c : w.1[j]'hj % 10 = y
          · rw [if_pos (by rw [c])]
            rintro _ rfl
            rw [show (w.1[j]'hj % 10 == y) = true by rw [c]; simp] at ih
            rw [nI_1]; exact ih
          · rw [if_neg (by rw [nI_eq (by omega) (by omega)]; exact c)]
            rintro _ rfl
            rw [show (w.1[j]'hj % 10 == y) = false by simp; exact c] at ih
            rw [nI_1]; exact ih
  obtain ⟨N, hN⟩ : ∃ N, w.1.length < N := ⟨_, Nat.lt_succ_self _⟩
  have := firsts N 1 (by omega) hlen (by omega)
  have e1 : (w.1.take 1).all (fun c => c % 10 == y) = true := by
    rw [all_take hlen, hy]; simp
  rw [e1] at this
  exact ⟨N, this⟩
theorem mvd_SW {w : Wy} {x : Nat} (hs : SW w) (hx : x < 8) : SW (mvd x w) := by
  obtain ⟨s1, s2, s3, s4⟩ := hs
  refine ⟨by show (List.map _ _).length ≤ 7; rw [List.length_map]; exact s1, fun c hc => ?_, s3, s4⟩
  obtain ⟨d, hd, rfl⟩ := List.mem_map.mp hc
  have := s2 d hd
  omega
theorem m_moves {S : St} {a : Ab} {l i x : Nat} {w : Wy} (h : WF a) (hI : InvM S a) (hl : l < nL a) (hw : (wy a l)[i]? = some w) (hx : x < 8) (hW : WF (xW a l ((wy a l).set i (mvd x w)))) (P : St → Prop)
    (hP : ∀ S', KM S S' (xW a l ((wy a l).set i (mvd x w))) → gI S' 367 0 = gI S 367 0 → P S') : wp_X6_moves S (nI l) (nI i) (nI x) P := by
  have hn := h.n60
  obtain ⟨hi2, hg, hs⟩ := (h.ways hl).2 i w hw
  have h7 := hs.1
  obtain ⟨hil, hwi⟩ := List.getElem?_eq_some_iff.mp hw
  have hR : RepM S 379 (20 * l + 10 * i) w := (hI.2.2.2.2.2 l hl).2.2.2 i w hw
  have hs2 := mvd_SW hs hx
  unfold wp_X6_moves
  refine m_uses (by omega) hi2 hs hR _ (fun S1 hag1 h731 => ?_)
  have hR1 : RepM S1 379 (20 * l + 10 * i) w := hR.ag (hag1 379 (by omega))
  obtain ⟨r0, r7, r8, r9⟩ := hR1
  have key : ∀ (N j : Nat) (S' : St), j ≤ w.1.length → w.1.length < N + j → agr (fun k => k ≠ 379) S1 S' → (∀ z, ¬ (20 * l + 10 * i ≤ z ∧ z < 20 * l + 10 * i + j) → gI S' 379 z = gI S1 379 z) → (∀ (z : Nat) (hz : z < w.1.length), z < j → gI S' 379 (20 * l + 10 * i + z) = nI (w.1[z]'hz / 10 * 10 + x)) → wp_X6_moves_10 (nI l) (nI i) (nI x) P N S' (nI j) := by
    intro N
    induction N with
    | zero => intro j S' h1 h2; omega
    | succ N ih =>
      intro j S' j1 j2 hag hout hin
      rw [wp_X6_moves_10]
      dsimp only
      refine m_way (l := l) (i := i) (j := 7) (by omega) hi2 (by omega) _ ?_
      rw [hout _ (by omega), r7]
      by_cases q : j = w.1.length
      · rw [if_pos (by simp (disch := omega) only [n_0, n_1, n_2, n_3, n_7, n_8, n_9, n_10, n_12, n_14, n_18, n_20, n_60, n_112, n_162, n_255, n_1000, nI_add, n_mul, nI_ltI, nI_leI, nI_eq, nI_clamp]; omega)]
        unfold wp_X6_moves_62
        have hR2 : RepM S' 379 (20 * l + 10 * i) (mvd x w) := by
          refine ⟨fun p hp => ?_, ?_, ?_, ?_⟩
          · have hp2 : p < w.1.length := by
              have : (mvd x w).1.length = w.1.length := List.length_map _
              omega
            rw [hin p hp2 (by omega)]
            congr 1
            simp [mvd]
          · rw [hout _ (by omega), r7]; show _ = nI (List.map _ w.1).length; rw [List.length_map]
          · rw [hout _ (by omega)]; exact r8
          · rw [hout _ (by omega)]; exact r9
        refine m_uses (by omega) hi2 hs2 hR2 _ (fun S3 hag3 h733 => ?_)
        have hall : agr (fun k => k ≠ 373 ∧ k ≠ 379) S S3 := ((hag1.mo (fun k hk => hk.1)).tr (hag.mo (fun k hk => hk.2))).tr (hag3.mo (fun k hk => hk.1))
        have e67 := (hall 367 (by omega)).1
        obtain ⟨⟨b1, b2, b3, b4, b5⟩, b6, b7, b8, b9, b10⟩ := id hI
        refine hP S3 ⟨hall.mo (fun k hk => by omega), ?_⟩ (e67 0)
        refine InvM.light hI (hall.mo (fun k hk => by omega)) (fun f => ⟨rfl, rfl, rfl, rfl⟩) (fun v => rfl) (fun r => ⟨rfl, rfl⟩) ⟨rfl, rfl⟩ ?_ ?_ ?_
        · rw [e67, e67, e67, e67, e67]; exact ⟨b1, b2, b3, b4, b5⟩
        · intro f z hf hz
          rw [h733 f z hf hz, (hag 373 (by omega)).1, h731 f z hf hz, usr_upd h hW (l := l) (fun k hk hne => ⟨hk, by rw [xW_wy, put_n _ _ hne]⟩) (fun k hk => hk) hl f z, b8 f z hf hz]
          rw [xW_wy, put_s]
          have ono : ∀ c, onc ((wy a l).set i (mvd x w)) c = true ↔ (mvd x w).1.contains c = true ∨ (onc (wy a l) c = true ∧ ¬ w.1.contains c = true) := by
            intro c
            constructor
            · intro y
              obtain ⟨k, v, hk, hc⟩ := onc_mem y
              rw [List.getElem?_set] at hk
              by_cases e : i = k
              · rw [if_pos e] at hk
                split at hk
                · cases hk; exact .inl (List.contains_iff_mem.mpr hc)
                · rename_i e2; exact absurd hil e2
              · rw [if_neg e] at hk
                refine .inr ⟨onc_of hk hc, fun y2 => ?_⟩
                exact e ((h.chn l i l k w v c hl hl hw hk (List.contains_iff_mem.mp y2) hc).2)
            · rintro (y | ⟨y, y2⟩)
              · exact onc_of (i := i) (by rw [List.getElem?_set, if_pos rfl, if_pos hil]) (List.contains_iff_mem.mp y)
              · obtain ⟨k, v, hk, hc⟩ := onc_mem y
                have e : ¬ i = k := fun e => by
                  subst e
                  rw [hw] at hk; cases hk
                  exact y2 (List.contains_iff_mem.mpr hc)
                exact onc_of (i := k) (by rw [List.getElem?_set, if_neg e]; exact hk) hc
          by_cases y1 : (mvd x w).1.contains (10 * f + z) = true
          · rw [if_pos y1, if_pos ((ono _).mpr (.inl y1))]
          · rw [if_neg y1]
            by_cases y2 : w.1.contains (10 * f + z) = true
            · rw [if_pos y2, if_neg (fun e => by
                rcases (ono _).mp e with e | e
                · exact y1 e
                · exact e.2 y2), if_pos ⟨hl, onc_of hw (List.contains_iff_mem.mp y2)⟩]
            · rw [if_neg y2]
              by_cases y3 : onc (wy a l) (10 * f + z) = true
              · rw [if_pos ((ono _).mpr (.inr ⟨y3, y2⟩)), (usr_some h).mpr ⟨hl, y3⟩]; rfl
              · rw [if_neg (fun e => by
                  rcases (ono _).mp e with e | e
                  · exact y1 e
                  · exact y3 e.1), if_neg (fun e => y3 e.2)]
        · intro k hk
          rw [xW_nL] at hk
          obtain ⟨c1, c2, c3, c4⟩ := b10 k hk
          rw [(hall 376 (by omega)).1, (hall 377 (by omega)).1, (hall 378 (by omega)).1, xW_wy]
          by_cases q3 : k = l
          · subst q3
            rw [put_s]
            refine ⟨c1, c2, by rw [List.length_set]; exact c3, fun j' v hv => ?_⟩
            rw [List.getElem?_set] at hv
            by_cases e : i = j'
            · rw [if_pos e] at hv
              split at hv
              · cases hv
                rw [← e]; exact hR2.ag (hag3 379 (by omega))
              · rename_i e2; exact absurd hil e2
            · rw [if_neg e] at hv
              obtain ⟨j2, _, sv⟩ := (h.ways hk).2 j' v hv
              refine (c4 j' v hv).off sv (fun z hz => ?_)
              rw [(hag3 379 (by omega)).1, hout _ (by omega), (hag1 379 (by omega)).1]
          · rw [put_n _ _ q3]
            refine ⟨c1, c2, c3, fun j' v hv => ?_⟩
            obtain ⟨j2, _, sv⟩ := (h.ways hk).2 j' v hv
            refine (c4 j' v hv).off sv (fun z hz => ?_)
            rw [(hag3 379 (by omega)).1, hout _ (by omega), (hag1 379 (by omega)).1]
      · have hj : j < w.1.length := by omega
        have hbj := hs.2.1 _ (List.getElem_mem hj)
        rw [if_neg (by simp (disch := omega) only [n_0, n_1, n_2, n_3, n_7, n_8, n_9, n_10, n_12, n_14, n_18, n_20, n_60, n_112, n_162, n_255, n_1000, nI_add, n_mul, nI_ltI, nI_leI, nI_eq, nI_clamp]; omega)]
        refine m_way (l := l) (i := i) (j := j) (by omega) hi2 (by omega) _ ?_
        rw [hout _ (by omega), r0 j hj, n_d10 (by omega), n_20, n_10, n_mul, n_mul, n_mul, nI_add, nI_add, nI_add, nI_clamp (by omega)]
        refine ⟨vp_in_nI (by omega) (by omega), ?_⟩
        rintro _ rfl _ rfl
        rw [nI_1]
        refine ih (j + 1) _ (by omega) (by omega) (hag.tr (agr_sI (by omega) _ _ _)) (fun z hz => ?_) (fun z hz hz2 => ?_)
        · rw [gI_n (by omega)]; exact hout z (by omega)
        · by_cases e : z = j
          · subst e; rw [gI_s]
          · rw [gI_n (by omega)]; exact hin z hz (by omega)
  obtain ⟨N, hN⟩ : ∃ N, w.1.length < N := ⟨_, Nat.lt_succ_self _⟩
  exact ⟨N, key N 0 S1 (by omega) (by omega) (agr.rf _ _) (fun z _ => rfl) (fun z _ hz => absurd hz (Nat.not_lt_zero _))⟩
/-- a way that can be moved: its new channels are free -/
theorem mvb_t {a : Ab} {w : Wy} (hw8 : nW a ≤ 8) (hg : GW a w) (hb : mvb a w = true) : w.2.2 = 0 ∧ lwf a w < nW a ∧ lwf a w < 8 ∧ ∀ c ∈ w.1, usr a (c / 10) (lwf a w) = none := by
  unfold mvb at hb
  rw [Bool.and_eq_true, beq_iff_eq, decide_eq_true_iff] at hb
  obtain ⟨h0, h1⟩ := hb
  have hm : w.1.headD 0 % 10 < nW a := by
    rcases hq : w.1 with _ | ⟨z, r⟩
    · have := hg.1; rw [hq] at this; simp at this
    · exact (hg.2.2.1 z (by rw [hq]; exact List.mem_cons_self)).2
  have h8 : lwf a w < 8 := by omega
  refine ⟨h0, by omega, h8, fun c hc => ?_⟩
  have := low_is (n := 8) (p := fun x => w.1.all (fun c => (usr a (c / 10) x).isNone)) h8
  rw [show low 8 (fun x => w.1.all (fun c => (usr a (c / 10) x).isNone)) = lwf a w from rfl, List.all_eq_true] at this
  exact Option.isNone_iff_eq_none.mp (this c hc)
theorem mv_WF {a : Ab} {l i : Nat} {w : Wy} (h : WF a) (hl : l < nL a) (hw : (wy a l)[i]? = some w) (hb : mvb a w = true) : WF (xW a l ((wy a l).set i (mvd (lwf a w) w))) := by
  have hg := ((h.ways hl).2 i w hw).2.1
  obtain ⟨h0, h1, h8, hf⟩ := mvb_t h.2.1.2 hg hb
  have hne : wy a l ≠ [] := fun z => by rw [z] at hw; simp at hw
  refine h.kW hl (mvd_NW h hl hw h1 h0 hf) hne (fun z => hne ?_)
  have := congrArg List.length z
  rw [List.length_set] at this
  simpa using this
theorem m_move {S : St} {a : Ab} (h : WF a) (hI : InvM S a) (P : Int32 → St → Prop) (hO : OutM S a (q_move a) P) : wp_X6_move S P := by
  have hn := h.n60
  unfold wp_X6_move
  have key : ∀ (N i : Nat), i ≤ nL a → nL a < N + i → (∀ l, l < i → ¬ mv1 a l < (wy a l).length) → wp_X6_move_2 P N S (nI i) := by
    intro N
    induction N with
    | zero => intro i h1 h2; omega
    | succ N ih =>
      intro i h1 h2 h3
      rw [wp_X6_move_2]
      dsimp only
      rw [hI.1.2.2.2.2]
      by_cases q : i = nL a
      · rw [if_pos (by simp (disch := omega) only [n_0, n_1, n_2, n_3, n_7, n_8, n_9, n_10, n_12, n_14, n_18, n_20, n_60, n_112, n_162, n_255, n_1000, nI_add, n_mul, nI_ltI, nI_leI, nI_eq, nI_clamp]; omega)]
        unfold wp_X6_move_59
        rintro _ rfl
        refine hO.2 1 0 _ ?_ (KM.th hI 1) (gI_s _ _ _ _)
        unfold q_move
        have e : mv0 a = nL a := low_none (fun l hl => decide_eq_false (h3 l (by omega)))
        rw [e, if_neg (Nat.lt_irrefl _)]
      · have hi : i < nL a := by omega
        have hv : vp_in (nI i) 60 := vp_in_nI (by omega) (by omega)
        rw [if_neg (by simp (disch := omega) only [n_0, n_1, n_2, n_3, n_7, n_8, n_9, n_10, n_12, n_14, n_18, n_20, n_60, n_112, n_162, n_255, n_1000, nI_add, n_mul, nI_ltI, nI_leI, nI_eq, nI_clamp]; omega)]
        obtain ⟨hw2, hwg⟩ := h.ways hi
        have hlen := (hI.2.2.2.2.2 i hi).2.2.1
        have inner : ∀ (M j : Nat), j ≤ (wy a i).length → (wy a i).length < M + j → (∀ (j' : Nat) (w' : Wy), j' < j → (wy a i)[j']? = some w' → mvb a w' = false) → wp_X6_move_12 P (fun S a1 => wp_X6_move_2 P N S a1) M S (nI i) (nI j) := by
          intro M
          induction M with
          | zero => intro j h1 h2; omega
          | succ M ih2 =>
            intro j j1 j2 j3
            rw [wp_X6_move_12]
            dsimp only
            rw [nI_clamp (by omega), hlen]
            refine ⟨hv, ?_⟩
            by_cases q2 : j = (wy a i).length
            · rw [if_pos (by simp (disch := omega) only [n_0, n_1, n_2, n_3, n_7, n_8, n_9, n_10, n_12, n_14, n_18, n_20, n_60, n_112, n_162, n_255, n_1000, nI_add, n_mul, nI_ltI, nI_leI, nI_eq, nI_clamp]; omega)]
              unfold wp_X6_move_53
              rintro _ rfl
              rw [nI_1]
              refine ih (i + 1) (by omega) (by omega) (fun l hl => ?_)
              by_cases e : l = i
              · rw [e]
                have : mv1 a i = (wy a i).length := low_none (fun j' hj' => by
                  rw [List.getElem?_eq_getElem hj']
                  exact j3 j' _ (by omega) (List.getElem?_eq_getElem hj'))
                omega
              · exact h3 l (by omega)
            · have hj : j < (wy a i).length := by omega
              have hw : (wy a i)[j]? = some ((wy a i)[j]'hj) := List.getElem?_eq_getElem hj
              generalize (wy a i)[j]'hj = w at hw
              rw [if_neg (by simp (disch := omega) only [n_0, n_1, n_2, n_3, n_7, n_8, n_9, n_10, n_12, n_14, n_18, n_20, n_60, n_112, n_162, n_255, n_1000, nI_add, n_mul, nI_ltI, nI_leI, nI_eq, nI_clamp]; omega)]
              refine m_lower h hI hi hw _ ?_
              rcases hb : mvb a w with _ | _
              · rw [if_neg (show ¬ false = true by decide), if_pos (by decide)]
                rintro _ rfl
                rw [nI_1]
                refine ih2 (j + 1) (by omega) (by omega) (fun j' w' hj' hw' => ?_)
                by_cases e : j' = j
                · rw [e, hw] at hw'; cases hw'; exact hb
                · exact j3 j' w' (by omega) hw'
              · obtain ⟨_, _, h8, _⟩ := mvb_t h.2.1.2 (hwg j w hw).2.1 hb
                rw [if_pos rfl, if_neg (by rw [n_0, nI_ltI (by omega) (by omega)]; omega)]
                unfold wp_X6_move_33
                rintro _ rfl
                have hk0 := KM.th hI 0
                refine m_moves h hk0.2 hi hw h8 (mv_WF h hi hw hb) _ (fun S' hk ht => ?_)
                have e1 : mv1 a i = j := low_uniq hj (by rw [hw]; exact hb) (fun y hy => by
                  rw [List.getElem?_eq_getElem (by omega)]
                  exact j3 y _ hy (List.getElem?_eq_getElem (by omega)))
                have e0 : mv0 a = i := low_uniq hi (by rw [e1]; exact decide_eq_true hj) (fun y hy => decide_eq_false (h3 y hy))
                have e2 : mvw a i j = xW a i ((wy a i).set j (mvd (lwf a w) w)) := by unfold mvw; rw [hw]
                refine hO.1 _ _ S' (by unfold q_move; rw [e0, e1, if_pos hi]) ?_ (by rw [ht, gI_s])
                rw [e2]
                exact hk0.tr hk
        obtain ⟨M, hM⟩ : ∃ M, (wy a i).length < M := ⟨_, Nat.lt_succ_self _⟩
        exact ⟨M, inner M 0 (by omega) (by omega) (fun _ _ hj => absurd hj (Nat.not_lt_zero _))⟩
  obtain ⟨N, hN⟩ : ∃ N, nL a < N := ⟨_, Nat.lt_succ_self _⟩
  exact ⟨N, key N 0 (by omega) (by omega) (fun l hl => absurd hl (Nat.not_lt_zero _))⟩
/-! the least number of wavelengths -/
theorem m_fibA {S : St} {a : Ab} (h : WF a) (hI : InvM S a) {l : Nat} (hl : l < nL a) (hw : wy a l ≠ []) (P : Int32 → St → Prop) (hP : P (nI (fwb a l)) S) : wp_X6_fibresOf S (nI l) P := by
  rcases hq : wy a l with _ | ⟨w, r⟩
  · exact absurd hq hw
  · refine m_fib h hI hl (w := w) (by rw [hq]; rfl) _ ?_
    unfold fwb at hP
    rw [hq] at hP; exact hP
theorem alv_mem {a : Ab} {n j l : Nat} (h : (alv a n)[j]? = some l) : l < n ∧ wy a l ≠ [] := by
  have := List.mem_of_getElem? h
  unfold alv at this
  rw [List.mem_filter, List.mem_range] at this
  refine ⟨this.1, fun z => ?_⟩
  have h2 := this.2
  rw [z] at h2; cases h2
/-- which lights of the living cross which -/
def crs (a : Ab) (k j : Nat) : Bool := !(j == k) && !(FL a k &&& FL a j == 0)
theorem m_crossed {S0 : St} {a : Ab} (h : WF a) (hI : InvM S0 a) (P : Int32 → St → Prop) (hP : ∀ S', agr (fun q => q ≠ 387 ∧ q ≠ 388) S0 S' → (∀ z, z < lvs a → gI S' 388 z = nI (mk (lvs a) (crs a z))) → P (nI (lvs a)) S') : wp_X6_laysCrossed S0 P := by
  have hn := h.n60
  have h12 := h.l12
  have hlv : (alv a (nL a)).length = lvs a := alv_len a (nL a)
  have alvk : ∀ j, j < lvs a → ∃ l, (alv a (nL a))[j]? = some l ∧ l < nL a ∧ wy a l ≠ [] ∧ fwb a l = FL a j := fun j hj => by
    have e := List.getElem?_eq_getElem (show j < (alv a (nL a)).length by omega)
    obtain ⟨l1, l2⟩ := alv_mem e
    exact ⟨_, e, l1, l2, by unfold FL; rw [e]⟩
  unfold wp_X6_laysCrossed
  have cross : ∀ (N k : Nat) (S' : St), k ≤ lvs a → lvs a < N + k → agr (fun q => q ≠ 387 ∧ q ≠ 388) S0 S' → (∀ j l, (alv a (nL a))[j]? = some l → gI S' 387 j = nI l) → (∀ z, z < k → gI S' 388 z = nI (mk (lvs a) (crs a z))) → wp_X6_laysCrossed_39 P N S' (nI (lvs a)) (nI k) := by
    intro N
    induction N with
    | zero => intro k S' h1 h2; omega
    | succ N ih =>
      intro k S' h1 h2 hag h87 h88
      rw [wp_X6_laysCrossed_39]
      dsimp only
      by_cases q : k = lvs a
      · rw [if_pos (by simp (disch := omega) only [n_0, n_1, n_2, n_3, n_7, n_8, n_9, n_10, n_12, n_14, n_18, n_20, n_60, n_112, n_162, n_255, n_1000, nI_add, n_mul, nI_ltI, nI_leI, nI_eq, nI_clamp]; omega)]
        exact hP S' hag (fun z hz => h88 z (by omega))
      · have hk : k < lvs a := by omega
        have hvk : vp_in (nI k) 12 := vp_in_nI (by omega) (by omega)
        rw [if_neg (by simp (disch := omega) only [n_0, n_1, n_2, n_3, n_7, n_8, n_9, n_10, n_12, n_14, n_18, n_20, n_60, n_112, n_162, n_255, n_1000, nI_add, n_mul, nI_ltI, nI_leI, nI_eq, nI_clamp]; omega), nI_clamp (by omega)]
        refine ⟨hvk, ?_⟩
        rintro _ rfl
        have inner : ∀ (M j : Nat) (S2 : St), j ≤ lvs a → lvs a < M + j → agr (fun q => q ≠ 388) S' S2 → (∀ z, z < k → gI S2 388 z = gI S' 388 z) → gI S2 388 k = nI (mk j (crs a k)) →
            wp_X6_laysCrossed_53 P (fun S a1 a2 => wp_X6_laysCrossed_39 P N S a1 a2) M S2 (nI (lvs a)) (nI k) (nI j) := by
          intro M
          induction M with
          | zero => intro j S2 h1 h2; omega
          | succ M ih2 =>
            intro j S2 j1 j2 hag2 hlow hk8
            rw [wp_X6_laysCrossed_53]
            dsimp only
            by_cases q2 : j = lvs a
            · rw [if_pos (by simp (disch := omega) only [n_0, n_1, n_2, n_3, n_7, n_8, n_9, n_10, n_12, n_14, n_18, n_20, n_60, n_112, n_162, n_255, n_1000, nI_add, n_mul, nI_ltI, nI_leI, nI_eq, nI_clamp]; omega)]
              unfold wp_X6_laysCrossed_109
              rintro _ rfl
              rw [nI_1]
              refine ih (k + 1) S2 (by omega) (by omega) (hag.tr (hag2.mo (fun z hz => hz.2))) (fun j l hjl => by rw [(hag2 387 (by omega)).1]; exact h87 j l hjl) (fun z hz => ?_)
              by_cases e : z = k
              · rw [e, hk8, q2]
              · rw [hlow z (by omega)]; exact h88 z (by omega)
            · have hj : j < lvs a := by omega
              have hvj : vp_in (nI j) 12 := vp_in_nI (by omega) (by omega)
              rw [if_neg (by simp (disch := omega) only [n_0, n_1, n_2, n_3, n_7, n_8, n_9, n_10, n_12, n_14, n_18, n_20, n_60, n_112, n_162, n_255, n_1000, nI_add, n_mul, nI_ltI, nI_leI, nI_eq, nI_clamp]; omega)]
              refine ⟨hvk, ?_⟩
              rw [nI_clamp (by omega), nI_clamp (by omega), hk8]
              have step : ∀ v : Int32, v = (if crs a k j = true then nI (2 ^ j) else 0) → wp_X6_laysCrossed_101 P (fun S a1 a2 => wp_X6_laysCrossed_39 P N S a1 a2) (fun S a1 a2 a3 => wp_X6_laysCrossed_53 P (fun S a1 a2 => wp_X6_laysCrossed_39 P N S a1 a2) M S a1 a2 a3) S2 (nI (lvs a)) (nI k) (nI j) (nI k) (nI (mk j (crs a k))) v := by
                intro v hv
                unfold wp_X6_laysCrossed_101
                rw [nI_clamp (by omega)]
                refine ⟨hvk, ?_⟩
                rintro _ rfl _ rfl
                rw [nI_1]
                refine ih2 (j + 1) _ (by omega) (by omega) (hag2.tr (agr_sI (by omega) _ _ _)) (fun z hz => by rw [gI_n (by omega)]; exact hlow z hz) ?_
                rw [gI_s, mk, hv]
                by_cases c : crs a k j = true
                · rw [if_pos c, if_pos c, n_or]
                  congr 1
                  have := Nat.two_pow_add_eq_or_of_lt (mk_lt j (crs a k)) 1
                  rw [Nat.mul_one] at this
                  rw [Nat.or_comm, ← this, Nat.add_comm]
                · rw [if_neg c, if_neg c, n_0, n_or, Nat.or_zero, Nat.add_zero]
              have hI2 : InvM S2 a := hI.ag ((hag.mo (fun z hz => by unfold CM at hz; omega)).tr (hag2.mo (fun z hz => by unfold CM at hz; omega)))
              obtain ⟨lk, lk1, lk2, lk3, lk4⟩ := alvk k hk
              obtain ⟨lj, lj1, lj2, lj3, lj4⟩ := alvk j hj
              unfold wp_X6_laysCrossed_100
              by_cases e : j = k
              · rw [if_pos (by rw [e])]
                refine step 0 ?_
                rw [if_neg (by unfold crs; rw [e]; simp)]
              · rw [if_neg (by rw [nI_eq (by omega) (by omega)]; exact e)]
                refine ⟨hvk, ?_⟩
                rw [(hag2 387 (by omega)).1, h87 k lk lk1]
                refine m_fibA h hI2 lk2 lk3 _ ?_
                refine ⟨hvj, ?_⟩
                rw [(hag2 387 (by omega)).1, h87 j lj lj1]
                refine m_fibA h hI2 lj2 lj3 _ ?_
                rw [lk4, lj4, n_and]
                have hlt : FL a k &&& FL a j < 2 ^ 31 := by have := FL_lt a k; have := Nat.and_le_left (n := FL a k) (m := FL a j); omega
                by_cases c : FL a k &&& FL a j = 0
                · rw [if_pos (by rw [c]; rfl)]
                  refine step 0 ?_
                  rw [if_neg (by unfold crs; rw [c]; simp)]
                · rw [if_neg (by rw [n_eq0 hlt]; exact c)]
                  refine step _ ?_
                  rw [if_pos (by unfold crs; simp; exact ⟨e, c⟩), n_one (by omega)]
        obtain ⟨M, hM⟩ : ∃ M, lvs a < M := ⟨_, Nat.lt_succ_self _⟩
        refine ⟨M, ?_⟩
        have hag3 : agr (fun q => q ≠ 387 ∧ q ≠ 388) S0 (sI S' 388 k 0) := hag.tr (agr_sI (by omega) _ _ _)
        have inner2 := inner
        refine inner2 M 0 _ (by omega) (by omega) (agr_sI (by omega) _ _ _) (fun z hz => gI_n (by omega)) ?_
        rw [gI_s]; rfl
  have first : ∀ (N i : Nat) (S' : St), i ≤ nL a → nL a < N + i → agr (fun q => q ≠ 387) S0 S' → (∀ j l, (alv a i)[j]? = some l → gI S' 387 j = nI l) → wp_X6_laysCrossed_4 P N S' (nI (alv a i).length) (nI i) := by
    intro N
    induction N with
    | zero => intro i S' h1 h2; omega
    | succ N ih =>
      intro i S' h1 h2 hag h87
      rw [wp_X6_laysCrossed_4]
      dsimp only
      rw [(hag 367 (by omega)).1, hI.1.2.2.2.2]
      by_cases q : i = nL a
      · rw [if_pos (by simp (disch := omega) only [n_0, n_1, n_2, n_3, n_7, n_8, n_9, n_10, n_12, n_14, n_18, n_20, n_60, n_112, n_162, n_255, n_1000, nI_add, n_mul, nI_ltI, nI_leI, nI_eq, nI_clamp]; omega)]
        unfold wp_X6_laysCrossed_37
        rw [q, hlv]
        rw [q] at h87
        obtain ⟨M, hM⟩ : ∃ M, lvs a < M := ⟨_, Nat.lt_succ_self _⟩
        exact ⟨M, cross M 0 S' (by omega) (by omega) (hag.mo (fun k hk => hk.1)) h87 (fun z hz => absurd hz (Nat.not_lt_zero _))⟩
      · have hi : i < nL a := by omega
        rw [if_neg (by simp (disch := omega) only [n_0, n_1, n_2, n_3, n_7, n_8, n_9, n_10, n_12, n_14, n_18, n_20, n_60, n_112, n_162, n_255, n_1000, nI_add, n_mul, nI_ltI, nI_leI, nI_eq, nI_clamp]; omega), nI_clamp (by omega), (hag 378 (by omega)).1, (hI.2.2.2.2.2 i hi).2.2.1]
        refine ⟨vp_in_nI (by omega) (by omega), ?_⟩
        have ih := fun S2 => ih (i + 1) S2 (by omega) (by omega)
        rw [alv_succ] at ih
        unfold wp_X6_laysCrossed_31
        have hw2 := (h.ways hi).1
        by_cases c : wy a i = []
        · rw [if_pos c] at ih
          rw [if_pos (by rw [c]; decide)]
          rintro _ rfl
          rw [nI_1]; exact ih S' hag h87
        · rw [if_neg c] at ih
          have hlp : 0 < (wy a i).length := List.length_pos_iff.mpr c
          have hlen2 : (alv a i).length < 12 := by
            obtain ⟨r, hr⟩ := alv_pre a (n := i + 1) (m := nL a) hi
            have := alv_len a (nL a)
            rw [hr, List.length_append, alv_succ, if_neg c, List.length_append] at this
            have e : lvs a = cnt (nL a) (fun l => !(wy a l).isEmpty) := rfl
            simp at this
            omega
          rw [if_neg (by simp (disch := omega) only [n_0, n_1, n_2, n_3, n_7, n_8, n_9, n_10, n_12, n_14, n_18, n_20, n_60, n_112, n_162, n_255, n_1000, nI_add, n_mul, nI_ltI, nI_leI, nI_eq, nI_clamp]; omega), nI_clamp (by omega)]
          refine ⟨vp_in_nI (by omega) (by omega), ?_⟩
          rintro _ rfl _ rfl _ rfl
          rw [nI_1, nI_1]
          have := ih (sI S' 387 (alv a i).length (nI i)) (hag.tr (agr_sI (by omega) _ _ _)) (fun j l hjl => by
            by_cases e : j = (alv a i).length
            · rw [e, gI_s]
              rw [e, List.getElem?_append_right (Nat.le_refl _)] at hjl
              simp at hjl; rw [hjl]
            · rw [gI_n (by omega)]
              refine h87 j l ?_
              obtain ⟨y, _⟩ := List.getElem?_eq_some_iff.mp hjl
              rw [List.length_append] at y
              simp at y
              rw [List.getElem?_append_left (by omega)] at hjl
              exact hjl)
          rw [List.length_append] at this
          exact this
  obtain ⟨N, hN⟩ : ∃ N, nL a < N := ⟨_, Nat.lt_succ_self _⟩
  exact ⟨N, first N 0 S0 (by omega) (by omega) (agr.rf _ _) (fun j l hjl => by simp [alv] at hjl)⟩
theorem m_need {S : St} {a : Ab} (h : WF a) (hI : InvM S a) (P : Int32 → St → Prop) (hP : ∀ S' k, KM S S' a → chr (lvs a) (FL a) k → P (nI k) S') : wp_X6_wavelengthsNeeded S P := by
  have h12 := h.l12
  unfold wp_X6_wavelengthsNeeded
  rintro _ rfl
  have hk0 := KM.th hI 0
  generalize sI S 367 0 0 = S0 at *
  refine m_crossed h hk0.2 _ (fun S' hag h88 => ?_)
  refine ⟨vp_04096, ?_⟩
  rintro _ rfl
  rw [show (0 : Int32).toNatClampNeg = 0 from rfl]
  refine m_dp (n := lvs a) (F := FL a) h12 (fun z hz => ?_) (gI_s _ _ _ _) P (fun S2 hag2 c hc => ?_)
  · rw [gI_n (by omega)]; exact h88 z hz
  · have hall : agr (fun q => q ≠ 387 ∧ q ≠ 388 ∧ q ≠ 389) S0 S2 := ((hag.mo (fun k hk => by omega)).tr (agr_sI (by omega) _ _ _)).tr (hag2.mo (fun k hk => by omega))
    exact hP S2 c (hk0.tr ⟨hall.mo (fun k hk => by omega), hk0.2.ag (hall.mo (fun k hk => by unfold CM at hk; omega))⟩) hc
