/-! THE PURE LAYER: the reference's calls, those on the network, numbers -/
theorem KM.rf {S : St} {a : Ab} (hI : InvM S a) : KM S S a := ⟨agr.rf _ _, hI⟩
theorem KM.tr {S T U : St} {a b : Ab} (h : KM S T a) (h2 : KM T U b) : KM S U b := ⟨h.1.tr h2.1, h2.2⟩
theorem InvM.th {S : St} {a : Ab} (h : InvM S a) (v : Int32) : InvM (sI S 367 0 v) a := by
  obtain ⟨⟨h1, h2, h3, h4, h5⟩, h6, h7, h8, h9, h10⟩ := h
  refine ⟨⟨by simp (disch := omega) only [gI_s, gJ_s, gR_s, gI_n, gJ_n, gR_n, gI_sJ, gI_sR, gI_sD, gJ_sI, gJ_sR, gJ_sD, gR_sI, gR_sJ, gR_sD]; exact h1, by simp (disch := omega) only [gI_s, gJ_s, gR_s, gI_n, gJ_n, gR_n, gI_sJ, gI_sR, gI_sD, gJ_sI, gJ_sR, gJ_sD, gR_sI, gR_sJ, gR_sD]; exact h2, by simp (disch := omega) only [gI_s, gJ_s, gR_s, gI_n, gJ_n, gR_n, gI_sJ, gI_sR, gI_sD, gJ_sI, gJ_sR, gJ_sD, gR_sI, gR_sJ, gR_sD]; exact h3, by simp (disch := omega) only [gI_s, gJ_s, gR_s, gI_n, gJ_n, gR_n, gI_sJ, gI_sR, gI_sD, gJ_sI, gJ_sR, gJ_sD, gR_sI, gR_sJ, gR_sD]; exact h4, by simp (disch := omega) only [gI_s, gJ_s, gR_s, gI_n, gJ_n, gR_n, gI_sJ, gI_sR, gI_sD, gJ_sI, gJ_sR, gJ_sD, gR_sI, gR_sJ, gR_sD]; exact h5⟩, ?_, ?_, ?_, ?_, ?_⟩
  · intro v hv; simp (disch := omega) only [gI_s, gJ_s, gR_s, gI_n, gJ_n, gR_n, gI_sJ, gI_sR, gI_sD, gJ_sI, gJ_sR, gJ_sD, gR_sI, gR_sJ, gR_sD]; exact h6 v hv
  · intro f hf; simp (disch := omega) only [gI_s, gJ_s, gR_s, gI_n, gJ_n, gR_n, gI_sJ, gI_sR, gI_sD, gJ_sI, gJ_sR, gJ_sD, gR_sI, gR_sJ, gR_sD]; exact h7 f hf
  · intro f w hf hw; simp (disch := omega) only [gI_s, gJ_s, gR_s, gI_n, gJ_n, gR_n, gI_sJ, gI_sR, gI_sD, gJ_sI, gJ_sR, gJ_sD, gR_sI, gR_sJ, gR_sD]; exact h8 f w hf hw
  · intro r hr; simp (disch := omega) only [gI_s, gJ_s, gR_s, gI_n, gJ_n, gR_n, gI_sJ, gI_sR, gI_sD, gJ_sI, gJ_sR, gJ_sD, gR_sI, gR_sJ, gR_sD]; exact h9 r hr
  · intro l hl
    obtain ⟨c1, c2, c3, c4⟩ := h10 l hl
    simp (disch := omega) only [gI_s, gJ_s, gR_s, gI_n, gJ_n, gR_n, gI_sJ, gI_sR, gI_sD, gJ_sI, gJ_sR, gJ_sD, gR_sI, gR_sJ, gR_sD]
    exact ⟨c1, c2, c3, fun i w hw => (c4 i w hw).ag ((agr_sI (p := fun k => k = 379) (by omega) _ _ _) _ rfl)⟩
theorem KM.th {S : St} {a : Ab} (h : InvM S a) (v : Int32) : KM S (sI S 367 0 v) a := ⟨agr_sI (by omega) _ _ _, h.th v⟩
theorem m_in {S : St} (x lo hi : Int32) (P : Bool → St → Prop) (hP : P (rg x lo hi) S) : wp_X6_in S x lo hi P := by
  unfold wp_X6_in
  unfold rg at hP
  by_cases c1 : x < lo
  · rw [if_pos c1]; simpa [c1] using hP
  · rw [if_neg c1]
    by_cases c2 : hi < x
    · rw [if_pos c2]; simpa [c1, c2] using hP
    · rw [if_neg c2]; simpa [c1, c2] using hP
theorem rg_isn {n : Nat} (hn : n < 2 ^ 31) (x : Int32) : rg x 0 (nI n - 1) = isn x n := by
  unfold rg isn
  by_cases c1 : x < 0
  · simp [c1]
  · rw [decide_eq_false c1, Bool.not_false, Bool.true_and, Bool.true_and]
    congr 1
    obtain ⟨j, hj, rfl⟩ := nI_of c1
    by_cases hz : n = 0
    · subst hz
      rw [decide_eq_decide, show nI 0 - 1 = -1 from rfl, nI_leI (by omega) hj]
      refine ⟨fun _ => Nat.zero_le _, fun _ => ?_⟩
      rw [Int32.lt_iff_toInt_lt, nI_toInt hj]
      have : (-1 : Int32).toInt = -1 := rfl
      omega
    · rw [decide_eq_decide, n_1, n_sub (by omega), nI_ltI (by omega) hj, nI_leI hn hj]
      omega
theorem m_in0 {S : St} {n : Nat} (hn : n < 2 ^ 31) (x : Int32) (P : Bool → St → Prop) (hP : P (isn x n) S) : wp_X6_in S x 0 (nI n - 1) P := by
  refine m_in x 0 (nI n - 1) P ?_
  rw [rg_isn hn]; exact hP
theorem m_fibX {S : St} {a : Ab} (h : WF a) (hI : InvM S a) (x : Int32) (P : Bool → St → Prop) (hP : P (isn x (nF a)) S) : wp_X6_isFibre S x P := by
  have := h.2.2.1
  unfold wp_X6_isFibre
  rw [hI.1.2.2.1]
  exact m_in0 (by omega) x _ hP
theorem m_light {S : St} {a : Ab} (h : WF a) (hI : InvM S a) (x : Int32) (P : Bool → St → Prop) (hP : P (isn x (nL a)) S) : wp_X6_isLight S x P := by
  have := h.n60
  unfold wp_X6_isLight
  rw [hI.1.2.2.2.2]
  exact m_in0 (by omega) x _ hP
theorem m_two {S : St} {a : Ab} (h : WF a) (hI : InvM S a) (x y : Int32) (P : Bool → St → Prop) (hP : P (two a x y) S) : wp_X6_areTwo S x y P := by
  have := h.1.2
  unfold wp_X6_areTwo
  rw [hI.1.1]
  refine m_in0 (by omega) x _ ?_
  unfold two at hP
  rcases h1 : isn x (nD a) with _ | _
  · rw [h1] at hP; rw [if_neg (by decide)]; exact hP
  · rw [if_pos rfl]
    rw [h1, Bool.true_and] at hP
    rw [hI.1.1]
    refine m_in0 (by omega) y _ ?_
    rcases h2 : isn y (nD a) with _ | _
    · rw [h2] at hP; rw [if_neg (by decide)]; exact hP
    · rw [h2] at hP
      rw [if_pos rfl]
      by_cases c : x = y
      · rw [if_pos c]; simpa [c] using hP
      · rw [if_neg c]; simpa [c] using hP
/-- the exception's place, and what comes of it -/
theorem m_holds {S : St} {a : Ab} (hI : InvM S a) (v : Int32) (P : Bool → St → Prop) (h1 : v = 0 → ∀ S', KM S S' a → gI S' 367 0 = 0 → (∀ k j, ¬ (k = 367 ∧ j = 0) → gI S' k j = gI S k j) → P true S') (h2 : v ≠ 0 → ∀ S', KM S S' a → gI S' 367 0 = v → P false S') : wp_X6_holds S v P := by
  unfold wp_X6_holds
  rintro _ rfl
  by_cases c : v = 0
  · rw [if_pos c]
    exact h1 c _ (KM.th hI v) (by rw [gI_s]; exact c) (fun k j hk => gI_n hk)
  · rw [if_neg c]
    exact h2 c _ (KM.th hI v) (gI_s _ _ _ _)
theorem m_begin {S : St} {a : Ab} (hI : InvM S a) (x y : Int32) (P : St → Prop) (hO : OutM S a (q_begin x y) (fun _ => P)) : wp_X6_begin S x y P := by
  have hE : rg x 2 8 = false ∨ rg y 1 8 = false → wp_X6_begin_26 x y P S true := by
    intro hr
    unfold wp_X6_begin_26
    refine m_holds hI _ _ (fun z => absurd z (by decide)) (fun _ S' hk ht => ?_)
    rw [if_neg (by decide)]
    exact hO.2 1 () S' (by unfold q_begin; rcases hr with hr | hr <;> rw [hr] <;> simp) hk ht
  unfold wp_X6_begin wp_X6_begin_25
  refine m_in x 2 8 _ ?_
  rcases hr1 : rg x 2 8 with _ | _
  · rw [if_neg (by decide)]; exact hE (.inl hr1)
  · rw [if_pos rfl]
    refine m_in y 1 8 _ ?_
    rcases hr2 : rg y 1 8 with _ | _
    · rw [if_neg (by decide)]; exact hE (.inr hr2)
    · rw [if_pos rfl]
      unfold wp_X6_begin_26 wp_X6_holds
      rintro _ rfl
      rw [if_pos (by rfl)]
      dsimp only
      rw [if_pos rfl]
      obtain ⟨i, i1, i2, rfl⟩ := rg_t (lo := 2) (hi := 8) (by omega) (by omega) hr1
      obtain ⟨j, j1, j2, rfl⟩ := rg_t (lo := 1) (hi := 8) (by omega) (by omega) hr2
      have hO := hO.1 () (xB i j)
      rintro _ rfl _ rfl
      unfold wp_X6_empties
      rintro _ rfl _ rfl _ rfl
      generalize hS1 : sI (sI (sI (sI (sI (sI S 367 0 (b2i false)) 367 1 (nI i)) 367 2 (nI j)) 367 3 0) 367 10 0) 367 13 0 = S1
      have f1 : gI S1 367 1 = nI i ∧ gI S1 367 2 = nI j ∧ gI S1 367 3 = 0 ∧ gI S1 367 10 = 0 ∧ gI S1 367 13 = 0 ∧ gI S1 367 0 = 0 := by
        rw [← hS1]; simp (disch := omega) only [gI_s, gJ_s, gR_s, gI_n, gJ_n, gR_n, gI_sJ, gI_sR, gI_sD, gJ_sI, gJ_sR, gJ_sD, gR_sI, gR_sJ, gR_sD]; exact ⟨trivial, trivial, trivial, trivial, trivial, rfl⟩
      have ag1 : agr (fun k => k ≠ 367) S S1 := by
        rw [← hS1]
        exact (((((agr_sI (by omega) _ _ _).tr (agr_sI (by omega) _ _ _)).tr (agr_sI (by omega) _ _ _)).tr (agr_sI (by omega) _ _ _)).tr (agr_sI (by omega) _ _ _)).tr (agr_sI (by omega) _ _ _)
      have second : ∀ (N c : Nat) (S2 : St), c ≤ 112 → 112 < N + c → agr (fun k => k ≠ 367 ∧ k ≠ 368 ∧ k ≠ 373) S S2 → ceq S1 S2 367 → (∀ v, v < 8 → gI S2 368 v = b2i false) → (∀ z, z < c → gI S2 373 z = -1) → wp_X6_empties_38 P N S2 (nI c) := by
        intro N
        induction N with
        | zero => intro c S2 h1 h2; omega
        | succ N ih =>
          intro c S2 h1 h2 hag h67 h68 h73
          rw [wp_X6_empties_38]
          dsimp only
          by_cases q : c = 112
          · rw [if_pos (by simp (disch := omega) only [n_0, n_1, n_2, n_3, n_7, n_8, n_9, n_10, n_12, n_14, n_18, n_20, n_60, n_112, n_162, n_255, n_1000, nI_add, n_mul, nI_ltI, nI_leI, nI_eq, nI_clamp]; omega)]
            refine hO S2 (by unfold q_begin; rw [hr1, hr2, tN_nI (by omega), tN_nI (by omega)]; rfl) ⟨hag.mo (fun k hk => by omega), ?_⟩ (by rw [h67.1]; exact f1.2.2.2.2.2)
            refine ⟨⟨?_, ?_, ?_, ?_, ?_⟩, ?_, ?_, ?_, ?_, ?_⟩
            · rw [h67.1]; exact f1.1
            · rw [h67.1]; exact f1.2.1
            · rw [h67.1]; exact f1.2.2.1
            · rw [h67.1]; exact f1.2.2.2.1
            · rw [h67.1]; exact f1.2.2.2.2.1
            · intro v hv; exact h68 v hv
            · intro f hf; rw [xB_nF] at hf; omega
            · intro f w hf hw
              rw [h73 _ (by omega), usr_none.mpr (fun l hl => by rw [xB_nL] at hl; omega)]; rfl
            · intro r hr; rw [xB_nR] at hr; omega
            · intro l hl; rw [xB_nL] at hl; omega
          · rw [if_neg (by simp (disch := omega) only [n_0, n_1, n_2, n_3, n_7, n_8, n_9, n_10, n_12, n_14, n_18, n_20, n_60, n_112, n_162, n_255, n_1000, nI_add, n_mul, nI_ltI, nI_leI, nI_eq, nI_clamp]; omega), nI_clamp (by omega)]
            refine ⟨vp_in_nI (by omega) (by omega), ?_⟩
            rintro _ rfl _ rfl
            rw [nI_1]
            refine ih (c + 1) _ (by omega) (by omega) (hag.tr (agr_sI (by omega) _ _ _)) (h67.tr ((agr_sI (p := fun k => k = 367) (by omega) _ _ _) _ rfl)) (fun v hv => ?_) (fun z hz => ?_)
            · simp (disch := omega) only [gI_s, gJ_s, gR_s, gI_n, gJ_n, gR_n, gI_sJ, gI_sR, gI_sD, gJ_sI, gJ_sR, gJ_sD, gR_sI, gR_sJ, gR_sD]; exact h68 v hv
            · by_cases e : z = c
              · rw [e, gI_s]
              · simp (disch := omega) only [gI_s, gJ_s, gR_s, gI_n, gJ_n, gR_n, gI_sJ, gI_sR, gI_sD, gJ_sI, gJ_sR, gJ_sD, gR_sI, gR_sJ, gR_sD]; exact h73 z (by omega)
      have first : ∀ (N c : Nat) (S2 : St), c ≤ 8 → 8 < N + c → agr (fun k => k ≠ 367 ∧ k ≠ 368) S S2 → ceq S1 S2 367 → (∀ v, v < c → gI S2 368 v = b2i false) → wp_X6_empties_17 P N S2 (nI c) := by
        intro N
        induction N with
        | zero => intro c S2 h1 h2; omega
        | succ N ih =>
          intro c S2 h1 h2 hag h67 h68
          rw [wp_X6_empties_17]
          dsimp only
          by_cases q : c = 8
          · rw [if_pos (by simp (disch := omega) only [n_0, n_1, n_2, n_3, n_7, n_8, n_9, n_10, n_12, n_14, n_18, n_20, n_60, n_112, n_162, n_255, n_1000, nI_add, n_mul, nI_ltI, nI_leI, nI_eq, nI_clamp]; omega)]
            unfold wp_X6_empties_36
            obtain ⟨M, hM⟩ : ∃ M, 112 < M := ⟨113, by omega⟩
            exact ⟨M, second M 0 S2 (by omega) (by omega) (hag.mo (fun k hk => by omega)) h67 (fun v hv => h68 v (by omega)) (fun z hz => absurd hz (Nat.not_lt_zero _))⟩
          · rw [if_neg (by simp (disch := omega) only [n_0, n_1, n_2, n_3, n_7, n_8, n_9, n_10, n_12, n_14, n_18, n_20, n_60, n_112, n_162, n_255, n_1000, nI_add, n_mul, nI_ltI, nI_leI, nI_eq, nI_clamp]; omega), nI_clamp (by omega)]
            refine ⟨vp_in_nI (by omega) (by omega), ?_⟩
            rintro _ rfl _ rfl
            rw [nI_1]
            refine ih (c + 1) _ (by omega) (by omega) (hag.tr (agr_sI (by omega) _ _ _)) (h67.tr ((agr_sI (p := fun k => k = 367) (by omega) _ _ _) _ rfl)) (fun v hv => ?_)
            by_cases e : v = c
            · rw [e, gI_s]
            · simp (disch := omega) only [gI_s, gJ_s, gR_s, gI_n, gJ_n, gR_n, gI_sJ, gI_sR, gI_sD, gJ_sI, gJ_sR, gJ_sD, gR_sI, gR_sJ, gR_sD]; exact h68 v (by omega)
      obtain ⟨M, hM⟩ : ∃ M, 8 < M := ⟨9, by omega⟩
      exact ⟨M, first M 0 S1 (by omega) (by omega) (ag1.mo (fun k hk => by omega)) (ceq.rf _ _) (fun z hz => absurd hz (Nat.not_lt_zero _))⟩
theorem m_addFibre {S : St} {a : Ab} (h : WF a) (hI : InvM S a) (x y z : Int32) (P : Int32 → St → Prop) (hO : OutM S a (q_addFibre a x y z) P) : wp_X6_addFibre S x y z P := by
  have h14 := h.2.2.1
  have hi8 := h.1.2
  have hE : two a x y = false ∨ rg z 1 1000 = false → wp_X6_addFibre_39 x y z P S 1 := by
    intro hr
    unfold wp_X6_addFibre_39
    refine m_holds hI _ _ (fun z => absurd z (by decide)) (fun _ S' hk ht => ?_)
    rw [if_neg (by decide)]
    exact hO.2 1 0 S' (by unfold q_addFibre; rcases hr with hr | hr <;> rw [hr] <;> simp) hk ht
  unfold wp_X6_addFibre wp_X6_addFibre_21
  refine m_two h hI x y _ ?_
  rcases ht : two a x y with _ | _
  · rw [if_neg (by decide)]; exact hE (.inl ht)
  · rw [if_pos rfl]
    refine m_in z 1 1000 _ ?_
    rcases hr : rg z 1 1000 with _ | _
    · rw [if_neg (by decide)]; exact hE (.inr hr)
    · rw [if_pos rfl]
      obtain ⟨k, k1, k2, rfl⟩ := rg_t (lo := 1) (hi := 1000) (by omega) (by omega) hr
      obtain ⟨i, j, hi, hj, hij, rfl, rfl⟩ := two_t hi8 ht
      rw [hI.1.2.2.1]
      unfold wp_X6_addFibre_39
      by_cases c : nF a = 14
      · rw [if_pos (by rw [c]; rfl)]
        refine m_holds hI _ _ (fun z => absurd z (by decide)) (fun _ S' hk ht2 => ?_)
        rw [if_neg (by decide)]
        exact hO.2 2 0 S' (by unfold q_addFibre; rw [ht, hr]; simp [c]) hk ht2
      · rw [if_neg (by rw [n_14, nI_eq (by omega) (by omega)]; exact c)]
        refine m_holds hI _ _ (fun _ S' hk ht2 hg => ?_) (fun z => absurd rfl z)
        rw [if_pos rfl]
        have hv : vp_in (nI (nF a)) 14 := vp_in_nI (by omega) (by omega)
        have hF := hk.2.1.2.2.1
        have eF : ∀ v, gI (sI S' 369 (nF a) v) 367 3 = nI (nF a) := fun v => by simp (disch := omega) only [gI_s, gJ_s, gR_s, gI_n, gJ_n, gR_n, gI_sJ, gI_sR, gI_sD, gJ_sI, gJ_sR, gJ_sD, gR_sI, gR_sJ, gR_sD]; exact hF
        rw [hF, nI_clamp (by omega)]
        refine ⟨hv, ?_⟩
        rintro _ rfl
        rw [gI_n (by omega), hF, nI_clamp (by omega)]
        refine ⟨hv, ?_⟩
        rintro _ rfl
        rw [gI_n (by omega), gI_n (by omega), hF, nI_clamp (by omega)]
        refine ⟨hv, ?_⟩
        rintro _ rfl
        rw [gI_n (by omega), gI_n (by omega), gI_n (by omega), hF, nI_clamp (by omega)]
        refine ⟨hv, ?_⟩
        rintro _ rfl _ rfl
        rw [gI_s, gI_n (by omega), gI_n (by omega), gI_n (by omega), gI_n (by omega), hF, nI_1, nI_m1]
        refine hO.1 _ (xF a i j k) _ (by unfold q_addFibre; rw [ht, hr, if_neg c, tN_nI (by omega), tN_nI (by omega), tN_nI (by omega)]; rfl) (hk.tr ⟨?_, ?_⟩) (by simp (disch := omega) only [gI_s, gJ_s, gR_s, gI_n, gJ_n, gR_n, gI_sJ, gI_sR, gI_sD, gJ_sI, gJ_sR, gJ_sD, gR_sI, gR_sJ, gR_sD]; exact ht2)
        · exact ((((agr_sI (by omega) _ _ _).tr (agr_sI (by omega) _ _ _)).tr (agr_sI (by omega) _ _ _)).tr (agr_sI (by omega) _ _ _)).tr (agr_sI (by omega) _ _ _)
        · obtain ⟨⟨h1, h2, h3, h4, h5⟩, h6, h7, h8, h9, h10⟩ := hk.2
          refine ⟨⟨by simp (disch := omega) only [gI_s, gJ_s, gR_s, gI_n, gJ_n, gR_n, gI_sJ, gI_sR, gI_sD, gJ_sI, gJ_sR, gJ_sD, gR_sI, gR_sJ, gR_sD]; exact h1, by simp (disch := omega) only [gI_s, gJ_s, gR_s, gI_n, gJ_n, gR_n, gI_sJ, gI_sR, gI_sD, gJ_sI, gJ_sR, gJ_sD, gR_sI, gR_sJ, gR_sD]; exact h2, by simp (disch := omega) only [gI_s, gJ_s, gR_s, gI_n, gJ_n, gR_n, gI_sJ, gI_sR, gI_sD, gJ_sI, gJ_sR, gJ_sD, gR_sI, gR_sJ, gR_sD]; rw [xF_nF], by simp (disch := omega) only [gI_s, gJ_s, gR_s, gI_n, gJ_n, gR_n, gI_sJ, gI_sR, gI_sD, gJ_sI, gJ_sR, gJ_sD, gR_sI, gR_sJ, gR_sD]; exact h4, by simp (disch := omega) only [gI_s, gJ_s, gR_s, gI_n, gJ_n, gR_n, gI_sJ, gI_sR, gI_sD, gJ_sI, gJ_sR, gJ_sD, gR_sI, gR_sJ, gR_sD]; exact h5⟩, ?_, ?_, ?_, ?_, ?_⟩
          · intro v hv; simp (disch := omega) only [gI_s, gJ_s, gR_s, gI_n, gJ_n, gR_n, gI_sJ, gI_sR, gI_sD, gJ_sI, gJ_sR, gJ_sD, gR_sI, gR_sJ, gR_sD]; exact h6 v hv
          · intro f hf
            simp only [xB_nD, xB_nW, xB_nF, xB_nR, xB_nL, xB_e1, xB_e2, xB_el, xB_ca, xB_de, xB_sn, xB_en, xB_cv, xB_ct, xB_wy, xF_nD, xF_nW, xF_nF, xF_nR, xF_nL, xF_e1, xF_e2, xF_el, xF_ca, xF_de, xF_sn, xF_en, xF_cv, xF_ct, xF_wy, xC_nD, xC_nW, xC_nF, xC_nR, xC_nL, xC_e1, xC_e2, xC_el, xC_ca, xC_de, xC_sn, xC_en, xC_cv, xC_ct, xC_wy, xK_nD, xK_nW, xK_nF, xK_nR, xK_nL, xK_e1, xK_e2, xK_el, xK_ca, xK_de, xK_sn, xK_en, xK_cv, xK_ct, xK_wy, xR_nD, xR_nW, xR_nF, xR_nR, xR_nL, xR_e1, xR_e2, xR_el, xR_ca, xR_de, xR_sn, xR_en, xR_cv, xR_ct, xR_wy, xL_nD, xL_nW, xL_nF, xL_nR, xL_nL, xL_e1, xL_e2, xL_el, xL_ca, xL_de, xL_sn, xL_en, xL_cv, xL_ct, xL_wy, xZ_nD, xZ_nW, xZ_nF, xZ_nR, xZ_nL, xZ_e1, xZ_e2, xZ_el, xZ_ca, xZ_de, xZ_sn, xZ_en, xZ_cv, xZ_ct, xZ_wy, xW_nD, xW_nW, xW_nF, xW_nR, xW_nL, xW_e1, xW_e2, xW_el, xW_ca, xW_de, xW_sn, xW_en, xW_cv, xW_ct, xW_wy, xM_nD, xM_nW, xM_nF, xM_nR, xM_nL, xM_e1, xM_e2, xM_el, xM_ca, xM_de, xM_sn, xM_en, xM_cv, xM_ct, xM_wy] at hf
            simp only [xB_nD, xB_nW, xB_nF, xB_nR, xB_nL, xB_e1, xB_e2, xB_el, xB_ca, xB_de, xB_sn, xB_en, xB_cv, xB_ct, xB_wy, xF_nD, xF_nW, xF_nF, xF_nR, xF_nL, xF_e1, xF_e2, xF_el, xF_ca, xF_de, xF_sn, xF_en, xF_cv, xF_ct, xF_wy, xC_nD, xC_nW, xC_nF, xC_nR, xC_nL, xC_e1, xC_e2, xC_el, xC_ca, xC_de, xC_sn, xC_en, xC_cv, xC_ct, xC_wy, xK_nD, xK_nW, xK_nF, xK_nR, xK_nL, xK_e1, xK_e2, xK_el, xK_ca, xK_de, xK_sn, xK_en, xK_cv, xK_ct, xK_wy, xR_nD, xR_nW, xR_nF, xR_nR, xR_nL, xR_e1, xR_e2, xR_el, xR_ca, xR_de, xR_sn, xR_en, xR_cv, xR_ct, xR_wy, xL_nD, xL_nW, xL_nF, xL_nR, xL_nL, xL_e1, xL_e2, xL_el, xL_ca, xL_de, xL_sn, xL_en, xL_cv, xL_ct, xL_wy, xZ_nD, xZ_nW, xZ_nF, xZ_nR, xZ_nL, xZ_e1, xZ_e2, xZ_el, xZ_ca, xZ_de, xZ_sn, xZ_en, xZ_cv, xZ_ct, xZ_wy, xW_nD, xW_nW, xW_nF, xW_nR, xW_nL, xW_e1, xW_e2, xW_el, xW_ca, xW_de, xW_sn, xW_en, xW_cv, xW_ct, xW_wy, xM_nD, xM_nW, xM_nF, xM_nR, xM_nL, xM_e1, xM_e2, xM_el, xM_ca, xM_de, xM_sn, xM_en, xM_cv, xM_ct, xM_wy]
            by_cases q : f = nF a
            · rw [q, put_s, put_s, put_s]; simp (disch := omega) only [gI_s, gJ_s, gR_s, gI_n, gJ_n, gR_n, gI_sJ, gI_sR, gI_sD, gJ_sI, gJ_sR, gJ_sD, gR_sI, gR_sJ, gR_sD]; exact ⟨trivial, trivial, trivial, by rw [h.ctf _ (Nat.le_refl _)]⟩
            · rw [put_n _ _ q, put_n _ _ q, put_n _ _ q]; simp (disch := omega) only [gI_s, gJ_s, gR_s, gI_n, gJ_n, gR_n, gI_sJ, gI_sR, gI_sD, gJ_sI, gJ_sR, gJ_sD, gR_sI, gR_sJ, gR_sD]; exact h7 f (by omega)
          · intro f w hf hw; simp (disch := omega) only [gI_s, gJ_s, gR_s, gI_n, gJ_n, gR_n, gI_sJ, gI_sR, gI_sD, gJ_sI, gJ_sR, gJ_sD, gR_sI, gR_sJ, gR_sD]; exact h8 f w hf hw
          · intro r hr; simp (disch := omega) only [gI_s, gJ_s, gR_s, gI_n, gJ_n, gR_n, gI_sJ, gI_sR, gI_sD, gJ_sI, gJ_sR, gJ_sD, gR_sI, gR_sJ, gR_sD]; exact h9 r hr
          · intro l hl
            obtain ⟨c1, c2, c3, c4⟩ := h10 l hl
            simp (disch := omega) only [gI_s, gJ_s, gR_s, gI_n, gJ_n, gR_n, gI_sJ, gI_sR, gI_sD, gJ_sI, gJ_sR, gJ_sD, gR_sI, gR_sJ, gR_sD]
            exact ⟨c1, c2, c3, fun i w hw => (c4 i w hw).ag (((((agr_sI (p := fun k => k = 379) (by omega) _ _ _).tr (agr_sI (by omega) _ _ _)).tr (agr_sI (by omega) _ _ _)).tr (agr_sI (by omega) _ _ _)).tr (agr_sI (by omega) _ _ _) _ rfl)⟩
theorem m_toggle {S : St} {a : Ab} (h : WF a) (hI : InvM S a) (x : Int32) (P : Bool → St → Prop) (hO : OutM S a (q_toggle a x) P) : wp_X6_toggleConverter S x P := by
  have hi8 := h.1.2
  unfold wp_X6_toggleConverter wp_X6_toggleConverter_20
  rw [hI.1.1]
  refine m_in0 (by omega) x _ ?_
  rcases ht : isn x (nD a) with _ | _
  · rw [if_neg (by decide)]
    refine m_holds hI _ _ (fun z => absurd z (by decide)) (fun _ S' hk ht2 => ?_)
    rw [if_neg (by decide)]
    exact hO.2 1 false S' (by unfold q_toggle; rw [ht]; rfl) hk ht2
  · rw [if_pos rfl]
    obtain ⟨v, hv, rfl⟩ := isn_t (by omega) ht
    refine m_holds hI _ _ (fun _ S' hk ht2 hg => ?_) (fun z => absurd rfl z)
    have hvi : vp_in (nI v) 8 := vp_in_nI (by omega) (by omega)
    rw [if_pos rfl, nI_clamp (by omega), hk.2.2.1 v (by omega)]
    refine ⟨hvi, ?_⟩
    have main : wp_X6_toggleConverter_47 (nI v) P S' (!cv a v) := by
      unfold wp_X6_toggleConverter_47
      rw [nI_clamp (by omega)]
      refine ⟨hvi, ?_⟩
      rintro _ rfl
      refine ⟨hvi, !cv a v, gI_s _ _ _ _, ?_⟩
      refine hO.1 _ (xC a v (!cv a v)) _ (by unfold q_toggle; rw [ht, tN_nI (by omega)]; rfl) (hk.tr ⟨agr_sI (by omega) _ _ _, ?_⟩) (by simp (disch := omega) only [gI_s, gJ_s, gR_s, gI_n, gJ_n, gR_n, gI_sJ, gI_sR, gI_sD, gJ_sI, gJ_sR, gJ_sD, gR_sI, gR_sJ, gR_sD]; exact ht2)
      obtain ⟨⟨h1, h2, h3, h4, h5⟩, h6, h7, h8, h9, h10⟩ := hk.2
      refine ⟨⟨by simp (disch := omega) only [gI_s, gJ_s, gR_s, gI_n, gJ_n, gR_n, gI_sJ, gI_sR, gI_sD, gJ_sI, gJ_sR, gJ_sD, gR_sI, gR_sJ, gR_sD]; exact h1, by simp (disch := omega) only [gI_s, gJ_s, gR_s, gI_n, gJ_n, gR_n, gI_sJ, gI_sR, gI_sD, gJ_sI, gJ_sR, gJ_sD, gR_sI, gR_sJ, gR_sD]; exact h2, by simp (disch := omega) only [gI_s, gJ_s, gR_s, gI_n, gJ_n, gR_n, gI_sJ, gI_sR, gI_sD, gJ_sI, gJ_sR, gJ_sD, gR_sI, gR_sJ, gR_sD]; exact h3, by simp (disch := omega) only [gI_s, gJ_s, gR_s, gI_n, gJ_n, gR_n, gI_sJ, gI_sR, gI_sD, gJ_sI, gJ_sR, gJ_sD, gR_sI, gR_sJ, gR_sD]; exact h4, by simp (disch := omega) only [gI_s, gJ_s, gR_s, gI_n, gJ_n, gR_n, gI_sJ, gI_sR, gI_sD, gJ_sI, gJ_sR, gJ_sD, gR_sI, gR_sJ, gR_sD]; exact h5⟩, ?_, ?_, ?_, ?_, ?_⟩
      · intro u hu
        rw [xC_cv]
        by_cases q : u = v
        · rw [q, put_s, gI_s]
        · rw [put_n _ _ q]; simp (disch := omega) only [gI_s, gJ_s, gR_s, gI_n, gJ_n, gR_n, gI_sJ, gI_sR, gI_sD, gJ_sI, gJ_sR, gJ_sD, gR_sI, gR_sJ, gR_sD]; exact h6 u hu
      · intro f hf; simp (disch := omega) only [gI_s, gJ_s, gR_s, gI_n, gJ_n, gR_n, gI_sJ, gI_sR, gI_sD, gJ_sI, gJ_sR, gJ_sD, gR_sI, gR_sJ, gR_sD]; exact h7 f hf
      · intro f w hf hw; simp (disch := omega) only [gI_s, gJ_s, gR_s, gI_n, gJ_n, gR_n, gI_sJ, gI_sR, gI_sD, gJ_sI, gJ_sR, gJ_sD, gR_sI, gR_sJ, gR_sD]; exact h8 f w hf hw
      · intro r hr; simp (disch := omega) only [gI_s, gJ_s, gR_s, gI_n, gJ_n, gR_n, gI_sJ, gI_sR, gI_sD, gJ_sI, gJ_sR, gJ_sD, gR_sI, gR_sJ, gR_sD]; exact h9 r hr
      · intro l hl
        obtain ⟨c1, c2, c3, c4⟩ := h10 l hl
        simp (disch := omega) only [gI_s, gJ_s, gR_s, gI_n, gJ_n, gR_n, gI_sJ, gI_sR, gI_sD, gJ_sI, gJ_sR, gJ_sD, gR_sI, gR_sJ, gR_sD]
        exact ⟨c1, c2, c3, fun i w hw => (c4 i w hw).ag ((agr_sI (p := fun k => k = 379) (by omega) _ _ _) _ rfl)⟩
    rcases hc : cv a v with _ | _
    · rw [hc] at main; rw [if_pos (by rfl)]; exact main
    · rw [hc] at main; rw [if_neg (by decide)]; exact main
theorem m_cutset {S : St} {a : Ab} (hI : InvM S a) (f : Nat) (b : Bool) : KM S (sI S 372 f (b2i b)) (xK a f b) := by
  obtain ⟨⟨h1, h2, h3, h4, h5⟩, h6, h7, h8, h9, h10⟩ := hI
  refine ⟨agr_sI (by omega) _ _ _, ⟨by simp (disch := omega) only [gI_s, gJ_s, gR_s, gI_n, gJ_n, gR_n, gI_sJ, gI_sR, gI_sD, gJ_sI, gJ_sR, gJ_sD, gR_sI, gR_sJ, gR_sD]; exact h1, by simp (disch := omega) only [gI_s, gJ_s, gR_s, gI_n, gJ_n, gR_n, gI_sJ, gI_sR, gI_sD, gJ_sI, gJ_sR, gJ_sD, gR_sI, gR_sJ, gR_sD]; exact h2, by simp (disch := omega) only [gI_s, gJ_s, gR_s, gI_n, gJ_n, gR_n, gI_sJ, gI_sR, gI_sD, gJ_sI, gJ_sR, gJ_sD, gR_sI, gR_sJ, gR_sD]; exact h3, by simp (disch := omega) only [gI_s, gJ_s, gR_s, gI_n, gJ_n, gR_n, gI_sJ, gI_sR, gI_sD, gJ_sI, gJ_sR, gJ_sD, gR_sI, gR_sJ, gR_sD]; exact h4, by simp (disch := omega) only [gI_s, gJ_s, gR_s, gI_n, gJ_n, gR_n, gI_sJ, gI_sR, gI_sD, gJ_sI, gJ_sR, gJ_sD, gR_sI, gR_sJ, gR_sD]; exact h5⟩, ?_, ?_, ?_, ?_, ?_⟩
  · intro u hu; simp (disch := omega) only [gI_s, gJ_s, gR_s, gI_n, gJ_n, gR_n, gI_sJ, gI_sR, gI_sD, gJ_sI, gJ_sR, gJ_sD, gR_sI, gR_sJ, gR_sD]; exact h6 u hu
  · intro g hg
    rw [xK_ct]
    obtain ⟨c1, c2, c3, c4⟩ := h7 g hg
    by_cases q : g = f
    · rw [q] at c1 c2 c3 ⊢; rw [put_s]; simp (disch := omega) only [gI_s, gJ_s, gR_s, gI_n, gJ_n, gR_n, gI_sJ, gI_sR, gI_sD, gJ_sI, gJ_sR, gJ_sD, gR_sI, gR_sJ, gR_sD]; exact ⟨c1, c2, c3, trivial⟩
    · rw [put_n _ _ q]; simp (disch := omega) only [gI_s, gJ_s, gR_s, gI_n, gJ_n, gR_n, gI_sJ, gI_sR, gI_sD, gJ_sI, gJ_sR, gJ_sD, gR_sI, gR_sJ, gR_sD]; exact ⟨c1, c2, c3, c4⟩
  · intro f w hf hw; simp (disch := omega) only [gI_s, gJ_s, gR_s, gI_n, gJ_n, gR_n, gI_sJ, gI_sR, gI_sD, gJ_sI, gJ_sR, gJ_sD, gR_sI, gR_sJ, gR_sD]; exact h8 f w hf hw
  · intro r hr; simp (disch := omega) only [gI_s, gJ_s, gR_s, gI_n, gJ_n, gR_n, gI_sJ, gI_sR, gI_sD, gJ_sI, gJ_sR, gJ_sD, gR_sI, gR_sJ, gR_sD]; exact h9 r hr
  · intro l hl
    obtain ⟨c1, c2, c3, c4⟩ := h10 l hl
    simp (disch := omega) only [gI_s, gJ_s, gR_s, gI_n, gJ_n, gR_n, gI_sJ, gI_sR, gI_sD, gJ_sI, gJ_sR, gJ_sD, gR_sI, gR_sJ, gR_sD]
    exact ⟨c1, c2, c3, fun i w hw => (c4 i w hw).ag ((agr_sI (p := fun k => k = 379) (by omega) _ _ _) _ rfl)⟩
theorem m_cut {S : St} {a : Ab} (h : WF a) (hI : InvM S a) (x : Int32) (P : Int32 → St → Prop) (hO : OutM S a (q_cut a x) P) : wp_X6_cut S x P := by
  have h14 := h.2.2.1
  unfold wp_X6_cut wp_X6_cut_27
  refine m_fibX h hI x _ ?_
  rcases ht : isn x (nF a) with _ | _
  · rw [if_neg (by decide)]
    refine m_holds hI _ _ (fun z => absurd z (by decide)) (fun _ S' hk ht2 => ?_)
    rw [if_neg (by decide)]
    exact hO.2 1 0 S' (by unfold q_cut; rw [ht]; rfl) hk ht2
  · rw [if_pos rfl]
    obtain ⟨f, hf, rfl⟩ := isn_t (by omega) ht
    have hvi : vp_in (nI f) 14 := vp_in_nI (by omega) (by omega)
    rw [nI_clamp (by omega), (hI.2.2.1 f hf).2.2.2]
    refine ⟨hvi, ?_⟩
    rcases hc : ct a f with _ | _
    · rw [if_pos (by rfl)]
      refine m_holds hI _ _ (fun _ S' hk ht2 hg => ?_) (fun z => absurd rfl z)
      rw [if_pos rfl]
      refine m_ups h hk.2 _ ⟨hvi, ?_⟩
      rintro _ rfl
      have hk2 := m_cutset hk.2 f true
      refine m_ups (h.kK true hf) hk2.2 _ ?_
      exact hO.1 _ (xK a f true) _ (by unfold q_cut; rw [ht, tN_nI (by omega), hc]; rfl) (hk.tr hk2) (by simp (disch := omega) only [gI_s, gJ_s, gR_s, gI_n, gJ_n, gR_n, gI_sJ, gI_sR, gI_sD, gJ_sI, gJ_sR, gJ_sD, gR_sI, gR_sJ, gR_sD]; exact ht2)
    · rw [if_neg (by decide)]
      refine m_holds hI _ _ (fun z => absurd z (by decide)) (fun _ S' hk ht2 => ?_)
      rw [if_neg (by decide)]
      exact hO.2 2 0 S' (by unfold q_cut; rw [ht, tN_nI (by omega), hc]; rfl) hk ht2
theorem m_repair {S : St} {a : Ab} (h : WF a) (hI : InvM S a) (x : Int32) (P : Int32 → St → Prop) (hO : OutM S a (q_repair a x) P) : wp_X6_repair S x P := by
  have h14 := h.2.2.1
  unfold wp_X6_repair wp_X6_repair_27
  refine m_fibX h hI x _ ?_
  rcases ht : isn x (nF a) with _ | _
  · rw [if_neg (by decide)]
    refine m_holds hI _ _ (fun z => absurd z (by decide)) (fun _ S' hk ht2 => ?_)
    rw [if_neg (by decide)]
    exact hO.2 1 0 S' (by unfold q_repair; rw [ht]; rfl) hk ht2
  · rw [if_pos rfl]
    obtain ⟨f, hf, rfl⟩ := isn_t (by omega) ht
    have hvi : vp_in (nI f) 14 := vp_in_nI (by omega) (by omega)
    rw [nI_clamp (by omega), (hI.2.2.1 f hf).2.2.2]
    refine ⟨hvi, ?_⟩
    rcases hc : ct a f with _ | _
    · rw [if_pos (by rfl)]
      refine m_holds hI _ _ (fun z => absurd z (by decide)) (fun _ S' hk ht2 => ?_)
      rw [if_neg (by decide)]
      exact hO.2 2 0 S' (by unfold q_repair; rw [ht, tN_nI (by omega), hc]; rfl) hk ht2
    · rw [if_neg (by decide)]
      refine m_holds hI _ _ (fun _ S' hk ht2 hg => ?_) (fun z => absurd rfl z)
      rw [if_pos rfl]
      refine m_ups h hk.2 _ ⟨hvi, ?_⟩
      rintro _ rfl
      have hk2 := m_cutset hk.2 f false
      refine m_ups (h.kK false hf) hk2.2 _ ?_
      exact hO.1 _ (xK a f false) _ (by unfold q_repair; rw [ht, tN_nI (by omega), hc]; rfl) (hk.tr hk2) (by simp (disch := omega) only [gI_s, gJ_s, gR_s, gI_n, gJ_n, gR_n, gI_sJ, gI_sR, gI_sD, gJ_sI, gJ_sR, gJ_sD, gR_sI, gR_sJ, gR_sD]; exact ht2)
theorem m_lightOn {S : St} {a : Ab} (h : WF a) (hI : InvM S a) (x y : Int32) (P : Int32 → St → Prop) (hO : OutM S a (q_lightOn a x y) P) : wp_X6_lightOn S x y P := by
  have h14 := h.2.2.1
  have hw8 := h.2.1.2
  unfold wp_X6_lightOn wp_X6_lightOn_32
  refine m_fibX h hI x _ ?_
  rcases ht : isn x (nF a) with _ | _
  · rw [if_neg (by decide)]
    refine m_holds hI _ _ (fun z => absurd z (by decide)) (fun _ S' hk ht2 => ?_)
    rw [if_neg (by decide)]
    exact hO.2 1 0 S' (by unfold q_lightOn; rw [ht]; rfl) hk ht2
  · rw [if_pos rfl]
    rw [hI.1.2.1]
    refine m_in0 (by omega) y _ ?_
    rcases ht1 : isn y (nW a) with _ | _
    · rw [if_neg (by decide)]
      refine m_holds hI _ _ (fun z => absurd z (by decide)) (fun _ S' hk ht2 => ?_)
      rw [if_neg (by decide)]
      exact hO.2 2 0 S' (by unfold q_lightOn; rw [ht, ht1]; rfl) hk ht2
    · rw [if_pos rfl]
      obtain ⟨f, hf, rfl⟩ := isn_t (by omega) ht
      obtain ⟨w, hw, rfl⟩ := isn_t (by omega) ht1
      refine m_holds hI _ _ (fun _ S' hk ht2 hg => ?_) (fun z => absurd rfl z)
      rw [if_pos rfl, n_8, n_mul, nI_add, nI_clamp (by omega), hk.2.2.2.2.1 f w (by omega) (by omega)]
      exact ⟨vp_in_nI (by omega) (by omega), hO.1 _ a S' (by unfold q_lightOn; rw [ht, ht1, tN_nI (by omega), tN_nI (by omega)]; rfl) hk ht2⟩
theorem m_load {S : St} {a : Ab} (h : WF a) (hI : InvM S a) (P : Int32 → St → Prop) (hP : ∀ S', KM S S' a → P (nI (mx (nF a) (ons a))) S') : wp_X6_load S P := by
  have h14 := h.2.2.1
  have hw8 := h.2.1.2
  have hm : ∀ n, mx n (ons a) ≤ 8 := fun n => mx_le (fun i => Nat.le_trans (ons_le i) hw8)
  unfold wp_X6_load
  rintro _ rfl
  have hk := KM.th hI 0
  have hP := hP _ hk
  generalize sI S 367 0 0 = S1 at *
  have hI1 := hk.2
  have key : ∀ N i : Nat, i ≤ nF a → nF a < N + i → wp_X6_load_9 P N S1 (nI (mx i (ons a))) (nI i) := by
    intro N
    induction N with
    | zero => intro i h1 h2; omega
    | succ N ih =>
      intro i h1 h2
      rw [wp_X6_load_9]
      dsimp only
      rw [hI1.1.2.2.1]
      by_cases q : i = nF a
      · rw [if_pos (by simp (disch := omega) only [n_0, n_1, n_2, n_3, n_7, n_8, n_9, n_10, n_12, n_14, n_18, n_20, n_60, n_112, n_162, n_255, n_1000, nI_add, n_mul, nI_ltI, nI_leI, nI_eq, nI_clamp]; omega), q]; exact hP
      · rw [if_neg (by simp (disch := omega) only [n_0, n_1, n_2, n_3, n_7, n_8, n_9, n_10, n_12, n_14, n_18, n_20, n_60, n_112, n_162, n_255, n_1000, nI_add, n_mul, nI_ltI, nI_leI, nI_eq, nI_clamp]; omega)]
        refine m_ons h hI1 (by omega) _ ?_
        have ih := ih (i + 1) (by omega) (by omega)
        rw [mx] at ih
        have hm1 := hm i
        have ho := ons_le (a := a) i
        unfold wp_X6_load_35
        by_cases z : ons a i ≤ mx i (ons a)
        · rw [if_pos (by simp (disch := omega) only [n_0, n_1, n_2, n_3, n_7, n_8, n_9, n_10, n_12, n_14, n_18, n_20, n_60, n_112, n_162, n_255, n_1000, nI_add, n_mul, nI_ltI, nI_leI, nI_eq, nI_clamp]; omega)]
          rintro _ rfl
          rw [Nat.max_eq_left z] at ih
          rw [nI_1]; exact ih
        · rw [if_neg (by simp (disch := omega) only [n_0, n_1, n_2, n_3, n_7, n_8, n_9, n_10, n_12, n_14, n_18, n_20, n_60, n_112, n_162, n_255, n_1000, nI_add, n_mul, nI_ltI, nI_leI, nI_eq, nI_clamp]; omega)]
          refine m_ons h hI1 (by omega) _ ?_
          rintro _ rfl
          rw [Nat.max_eq_right (by omega)] at ih
          rw [nI_1]; exact ih
  obtain ⟨N, hN⟩ : ∃ N, nF a < N := ⟨_, Nat.lt_succ_self _⟩
  exact ⟨N, key N 0 (by omega) (by omega)⟩
theorem m_usage {S : St} {a : Ab} (h : WF a) (hI : InvM S a) (P : UInt32 → St → Prop) (hO : OutM S a (q_usage a) P) : wp_X6_usage S P := by
  have h14 := h.2.2.1
  have hw1 := h.2.1.1
  obtain ⟨hc1, hc2⟩ := h.chans
  unfold wp_X6_usage wp_X6_usage_13
  rw [hI.1.2.2.1]
  by_cases c : nF a = 0
  · rw [if_pos (by rw [c]; rfl)]
    refine m_holds hI _ _ (fun z => absurd z (by decide)) (fun _ S' hk ht2 => ?_)
    rw [if_neg (by decide)]
    exact hO.2 1 0 S' (by unfold q_usage; rw [if_pos c]) hk ht2
  · rw [if_neg (by rw [n_eq0 (by omega)]; exact c)]
    refine m_holds hI _ _ (fun _ S1 hk ht2 hg => ?_) (fun z => absurd rfl z)
    rw [if_pos rfl]
    have hI1 := hk.2
    have hp : nF a * nW a ≠ 0 := Nat.mul_ne_zero c (by omega)
    have hP := hO.1 _ a S1 (by unfold q_usage; rw [if_neg c]) hk ht2
    have key : ∀ N i : Nat, i ≤ nF a → nF a < N + i → wp_X6_usage_25 P N S1 (nI (sm i (ons a))) (nI i) := by
      intro N
      induction N with
      | zero => intro i h1 h2; omega
      | succ N ih =>
        intro i h1 h2
        rw [wp_X6_usage_25]
        dsimp only
        rw [hI1.1.2.2.1]
        by_cases q : i = nF a
        · rw [if_pos (by simp (disch := omega) only [n_0, n_1, n_2, n_3, n_7, n_8, n_9, n_10, n_12, n_14, n_18, n_20, n_60, n_112, n_162, n_255, n_1000, nI_add, n_mul, nI_ltI, nI_leI, nI_eq, nI_clamp]; omega), q]
          unfold wp_X6_usage_47
          rw [hI1.1.2.2.1, hI1.1.2.1, n_mul]
          exact ⟨(flr_ok hc2 hp).1, hP⟩
        · rw [if_neg (by simp (disch := omega) only [n_0, n_1, n_2, n_3, n_7, n_8, n_9, n_10, n_12, n_14, n_18, n_20, n_60, n_112, n_162, n_255, n_1000, nI_add, n_mul, nI_ltI, nI_leI, nI_eq, nI_clamp]; omega)]
          refine m_ons h hI1 (by omega) _ ?_
          rintro _ rfl _ rfl
          have ih := ih (i + 1) (by omega) (by omega)
          rw [sm] at ih
          rw [nI_add, nI_1]; exact ih
    obtain ⟨N, hN⟩ : ∃ N, nF a < N := ⟨_, Nat.lt_succ_self _⟩
    exact ⟨N, key N 0 (by omega) (by omega)⟩
