/-! THE PURE LAYER: the reference's calls on requests and lights -/
theorem vp_810 : vp_in 8 10 := by unfold vp_in; decide
theorem vp_04096 : vp_in 0 4096 := by unfold vp_in; decide
theorem vp_01 : vp_in 0 1 := by unfold vp_in; decide
theorem RepM.agI {S S' : St} {k o : Nat} {w : Wy} (h : RepM S k o w) (e : ∀ j, gI S' k j = gI S k j) : RepM S' k o w := by
  unfold RepM at *
  rw [e, e, e]
  exact ⟨fun p hp => by rw [e]; exact h.1 p hp, h.2⟩
theorem m_state {S : St} {a : Ab} (h : WF a) (hI : InvM S a) (x : Int32) (P : Int32 → St → Prop) (hO : OutM S a (q_state a x) P) : wp_X6_state S x P := by
  have hn := h.n60
  unfold wp_X6_state wp_X6_state_14
  refine m_light h hI x _ ?_
  rcases ht : isn x (nL a) with _ | _
  · rw [if_neg (by decide)]
    refine m_holds hI _ _ (fun z => absurd z (by decide)) (fun _ S' hk ht2 => ?_)
    rw [if_neg (by decide)]
    exact hO.2 1 0 S' (by unfold q_state; rw [ht]; rfl) hk ht2
  · rw [if_pos rfl]
    obtain ⟨l, hl, rfl⟩ := isn_t (by omega) ht
    refine m_holds hI _ _ (fun _ S' hk ht2 hg => ?_) (fun z => absurd rfl z)
    have hP := hO.1 _ a S' (by unfold q_state; rw [ht, tN_nI (by omega)]; rfl) hk ht2
    obtain ⟨hw2, _⟩ := h.ways hl
    rw [if_pos rfl, nI_clamp (by omega), (hk.2.2.2.2.2.2 l hl).2.2.1]
    refine ⟨vp_in_nI (by omega) (by omega), ?_⟩
    rcases hw : wy a l with _ | ⟨w, r⟩
    · rw [if_pos (by rfl)]
      rw [hw] at hP; exact hP
    · rw [← hw, if_neg (by rw [n_eq0 (by omega), hw]; simp)]
      refine m_isUp h hk.2 hl _ ?_
      rw [hw, if_neg (by simp)] at hP
      rcases hu : lup a l with _ | _
      · rw [hu] at hP; exact hP
      · rw [hu] at hP; exact hP
theorem WF.ca60 {a : Ab} (h : WF a) : ∀ r, r < nR a → ca a r < 60 := fun r hr => by have := (h.req r hr).1; have := h.n60; omega
theorem m_units {S : St} {a : Ab} (h : WF a) (hI : InvM S a) (x : Int32) (P : Int32 → St → Prop) (hO : OutM S a (q_units a x) P) : wp_X6_units S x P := by
  have hn := h.n60
  unfold wp_X6_units wp_X6_units_14
  refine m_light h hI x _ ?_
  rcases ht : isn x (nL a) with _ | _
  · rw [if_neg (by decide)]
    refine m_holds hI _ _ (fun z => absurd z (by decide)) (fun _ S' hk ht2 => ?_)
    rw [if_neg (by decide)]
    exact hO.2 1 0 S' (by unfold q_units; rw [ht]; rfl) hk ht2
  · rw [if_pos rfl]
    obtain ⟨l, hl, rfl⟩ := isn_t (by omega) ht
    refine m_holds hI _ _ (fun _ S' hk ht2 hg => ?_) (fun z => absurd rfl z)
    rw [if_pos rfl]
    refine m_carried h.2.2.2.2.1 hk.2 (by omega) h.ca60 _ ?_
    exact hO.1 _ a S' (by unfold q_units; rw [ht, tN_nI (by omega)]; rfl) hk ht2
theorem m_isWay {S : St} {a : Ab} (h : WF a) (hI : InvM S a) (x y : Int32) (P : Bool → St → Prop) (h1 : ∀ l i w, l < nL a → i < 2 → x = nI l → y = nI i → (wy a l)[i]? = some w → SW w → wya a x y = some w → P true S) (h0 : wya a x y = none → P false S) : wp_X6_isWay S x y P := by
  have hn := h.n60
  unfold wp_X6_isWay
  refine m_light h hI x _ ?_
  rcases ht : isn x (nL a) with _ | _
  · rw [if_neg (by decide)]; exact h0 (by unfold wya; rw [ht]; rfl)
  · rw [if_pos rfl]
    obtain ⟨l, hl, rfl⟩ := isn_t (by omega) ht
    obtain ⟨hw2, hwg⟩ := h.ways hl
    have hw : wya a (nI l) y = if isn y (wy a l).length = true then (wy a l)[tN y]? else none := by unfold wya; rw [ht, tN_nI (by omega)]; rfl
    rw [nI_clamp (by omega), (hI.2.2.2.2.2 l hl).2.2.1]
    refine ⟨vp_in_nI (by omega) (by omega), ?_⟩
    refine m_in0 (by omega) y _ ?_
    rcases ht1 : isn y (wy a l).length with _ | _
    · rw [if_neg (by decide)]; exact h0 (by rw [hw, ht1]; rfl)
    · rw [if_pos rfl]
      obtain ⟨i, hi, rfl⟩ := isn_t (by omega) ht1
      have e : (wy a l)[i]? = some ((wy a l)[i]'hi) := List.getElem?_eq_getElem hi
      obtain ⟨i2, _, hs⟩ := hwg i _ e
      exact h1 l i _ hl i2 rfl rfl e hs (by rw [hw, ht1, if_pos rfl, tN_nI (by omega)]; exact e)
theorem m_channels {S : St} {a : Ab} (h : WF a) (hI : InvM S a) (x y : Int32) (P : Int32 → St → Prop) (hO : OutM S a (q_channels a x y) P) : wp_X6_channels S x y P := by
  have hn := h.n60
  unfold wp_X6_channels wp_X6_channels_15
  refine m_isWay h hI x y _ (fun l i w hl hi hx hy hw hs he => ?_) (fun he => ?_)
  · subst hx; subst hy
    rw [if_pos rfl]
    refine m_holds hI _ _ (fun _ S' hk ht2 hg => ?_) (fun z => absurd rfl z)
    rw [if_pos rfl]
    refine m_way (l := l) (i := i) (j := 7) (by omega) hi (by omega) _ ?_
    rw [(hk.2.lt hl hw).2.1]
    exact hO.1 _ a S' (by unfold q_channels; rw [he]) hk ht2
  · rw [if_neg (by decide)]
    refine m_holds hI _ _ (fun z => absurd z (by decide)) (fun _ S' hk ht2 => ?_)
    rw [if_neg (by decide)]
    exact hO.2 1 0 S' (by unfold q_channels; rw [he]) hk ht2
theorem m_channel {S : St} {a : Ab} (h : WF a) (hI : InvM S a) (x y z : Int32) (P : Int32 → St → Prop) (hO : OutM S a (q_channel a x y z) P) : wp_X6_channel S x y z P := by
  have hn := h.n60
  unfold wp_X6_channel wp_X6_channel_32 wp_X6_channel_33
  refine m_isWay h hI x y _ (fun l i w hl hi hx hy hw hs he => ?_) (fun he => ?_)
  · subst hx; subst hy
    have h7 := hs.1
    rw [if_pos rfl]
    refine m_way (l := l) (i := i) (j := 7) (by omega) hi (by omega) _ ?_
    rw [(hI.lt hl hw).2.1]
    refine m_in0 (by omega) z _ ?_
    rcases ht : isn z w.1.length with _ | _
    · rw [if_neg (by decide)]
      refine m_holds hI _ _ (fun z => absurd z (by decide)) (fun _ S' hk ht2 => ?_)
      rw [if_neg (by decide)]
      exact hO.2 1 0 S' (by unfold q_channel; rw [he]; dsimp only; rw [ht]; rfl) hk ht2
    · rw [if_pos rfl]
      refine m_holds hI _ _ (fun _ S' hk ht2 hg => ?_) (fun z => absurd rfl z)
      have hP := hO.1 (nI (w.1.getD (tN z) 0)) a S' (by unfold q_channel; rw [he]; dsimp only; rw [ht]; rfl) hk ht2
      obtain ⟨p, hp, rfl⟩ := isn_t (by omega) ht
      rw [if_pos rfl]
      refine m_way (l := l) (i := i) (j := p) (by omega) hi (by omega) _ ?_
      rw [(hk.2.lt hl hw).1 p hp]
      rw [tN_nI (by omega), List.getD_eq_getElem?_getD, List.getElem?_eq_getElem hp] at hP
      exact hP
  · rw [if_neg (by decide)]
    refine m_holds hI _ _ (fun z => absurd z (by decide)) (fun _ S' hk ht2 => ?_)
    rw [if_neg (by decide)]
    exact hO.2 1 0 S' (by unfold q_channel; rw [he]) hk ht2
theorem m_err {S : St} {a : Ab} (h : WF a) (hI : InvM S a) (x : Int32) (P : Int32 → St → Prop) (h0 : ∀ r, r < nR a → x = nI r → isn x (nR a) = true → de a r ≠ 0 → P 0 S) (h1 : isn x (nR a) = false → P 1 S) (h2 : ∀ r, r < nR a → x = nI r → isn x (nR a) = true → de a r = 0 → P 2 S) : wp_X6_errorOfRequest S x P := by
  have hn := h.2.2.2.2.1
  unfold wp_X6_errorOfRequest
  rw [hI.1.2.2.2.1]
  refine m_in0 (by omega) x _ ?_
  rcases ht : isn x (nR a) with _ | _
  · rw [if_neg (by decide)]; exact h1 ht
  · rw [if_pos rfl]
    obtain ⟨r, hr, rfl⟩ := isn_t (by omega) ht
    have hd := (h.req r hr).2
    rw [nI_clamp (by omega), (hI.2.2.2.2.1 r hr).2]
    refine ⟨vp_in_nI (by omega) (by omega), ?_⟩
    by_cases c : de a r = 0
    · rw [if_pos (by rw [c]; rfl)]; exact h2 r hr rfl ht c
    · rw [if_neg (by rw [n_eq0 (by omega)]; exact c)]; exact h0 r hr rfl ht c
theorem m_lightOf {S : St} {a : Ab} (h : WF a) (hI : InvM S a) (x : Int32) (P : Int32 → St → Prop) (hO : OutM S a (q_lightOf a x) P) : wp_X6_lightOf S x P := by
  have hn := h.2.2.2.2.1
  unfold wp_X6_lightOf
  refine m_err h hI x _ (fun r hr hx ht hd => ?_) (fun ht => ?_) (fun r hr hx ht hd => ?_)
  · subst hx
    refine m_holds hI _ _ (fun _ S' hk ht2 hg => ?_) (fun z => absurd rfl z)
    rw [if_pos rfl, nI_clamp (by omega), (hk.2.2.2.2.2.1 r hr).1]
    exact ⟨vp_in_nI (by omega) (by omega), hO.1 _ a S' (by unfold q_lightOf; rw [ht, tN_nI (by omega), if_pos rfl, if_neg hd]) hk ht2⟩
  · refine m_holds hI _ _ (fun z => absurd z (by decide)) (fun _ S' hk ht2 => ?_)
    rw [if_neg (by decide)]
    exact hO.2 1 0 S' (by unfold q_lightOf; rw [ht]; rfl) hk ht2
  · subst hx
    refine m_holds hI _ _ (fun z => absurd z (by decide)) (fun _ S' hk ht2 => ?_)
    rw [if_neg (by decide)]
    exact hO.2 2 0 S' (by unfold q_lightOf; rw [ht, tN_nI (by omega), if_pos rfl, if_pos hd]) hk ht2
/-- who uses a channel after one light's ways have changed -/
theorem usr_upd {a b : Ab} (ha : WF a) (hb : WF b) {l : Nat} (h1 : ∀ k, k < nL b → k ≠ l → k < nL a ∧ wy b k = wy a k) (h2 : ∀ k, k < nL a → k < nL b) (hl : l < nL b) (f w : Nat) :
    uN (usr b f w) = if onc (wy b l) (10 * f + w) = true then nI l else if l < nL a ∧ onc (wy a l) (10 * f + w) = true then -1 else uN (usr a f w) := by
  by_cases q : onc (wy b l) (10 * f + w) = true
  · rw [if_pos q, (usr_some hb).mpr ⟨hl, q⟩]; rfl
  · rw [if_neg q]
    by_cases q2 : l < nL a ∧ onc (wy a l) (10 * f + w) = true
    · rw [if_pos q2, usr_none.mpr (fun k hk => ?_)]
      · rfl
      · by_cases z : k = l
        · rw [z]; exact Bool.not_eq_true _ ▸ q
        · obtain ⟨k1, k2⟩ := h1 k hk z
          rw [k2, ← Bool.not_eq_true]
          intro y
          exact z (ha.onc_un k1 q2.1 y q2.2)
    · rw [if_neg q2]
      rcases hu : usr a f w with _ | k
      · rw [usr_none.mpr (fun k hk => ?_)]
        by_cases z : k = l
        · rw [z]; exact Bool.not_eq_true _ ▸ q
        · obtain ⟨k1, k2⟩ := h1 k hk z
          rw [k2]; exact usr_none.mp hu k k1
      · rw [usr_some ha] at hu
        have z : k ≠ l := fun z => q2 (by rw [← z]; exact hu)
        have kb := h2 k hu.1
        rw [(usr_some hb).mpr ⟨kb, by rw [(h1 k kb z).2]; exact hu.2⟩]
theorem m_release {S : St} {a : Ab} (h : WF a) (hI : InvM S a) (x : Int32) (P : Int32 → St → Prop) (hO : OutM S a (q_release a x) P) : wp_X6_release S x P := by
  have hn := h.2.2.2.2.1
  have hn2 := h.n60
  unfold wp_X6_release
  refine m_err h hI x _ (fun r hr hx ht hd => ?_) (fun ht => ?_) (fun r hr hx ht hd => ?_)
  · subst hx
    have hv : vp_in (nI r) 60 := vp_in_nI (by omega) (by omega)
    obtain ⟨hcl, hd10⟩ := h.req r hr
    refine m_holds hI _ _ (fun _ S' hk ht2 hg => ?_) (fun z => absurd rfl z)
    rw [if_pos rfl, nI_clamp (by omega), (hk.2.2.2.2.2.1 r hr).1]
    refine ⟨hv, ?_⟩
    rintro _ rfl
    refine ⟨hv, ?_⟩
    rintro _ rfl
    have hO := fun S' => hO.1 (nI (units (xZ a r) (ca a r))) (rls a r) S' (by unfold q_release; rw [ht, tN_nI (by omega), if_pos rfl, if_neg hd])
    have hk2 : KM S (sI S' 375 r 0) (xZ a r) := by
      obtain ⟨⟨h1, h2, h3, h4, h5⟩, h6, h7, h8, h9, h10⟩ := hk.2
      refine ⟨hk.1.tr (agr_sI (by omega) _ _ _), ⟨by simp (disch := omega) only [gI_s, gJ_s, gR_s, gI_n, gJ_n, gR_n, gI_sJ, gI_sR, gI_sD, gJ_sI, gJ_sR, gJ_sD, gR_sI, gR_sJ, gR_sD]; exact h1, by simp (disch := omega) only [gI_s, gJ_s, gR_s, gI_n, gJ_n, gR_n, gI_sJ, gI_sR, gI_sD, gJ_sI, gJ_sR, gJ_sD, gR_sI, gR_sJ, gR_sD]; exact h2, by simp (disch := omega) only [gI_s, gJ_s, gR_s, gI_n, gJ_n, gR_n, gI_sJ, gI_sR, gI_sD, gJ_sI, gJ_sR, gJ_sD, gR_sI, gR_sJ, gR_sD]; exact h3, by simp (disch := omega) only [gI_s, gJ_s, gR_s, gI_n, gJ_n, gR_n, gI_sJ, gI_sR, gI_sD, gJ_sI, gJ_sR, gJ_sD, gR_sI, gR_sJ, gR_sD]; exact h4, by simp (disch := omega) only [gI_s, gJ_s, gR_s, gI_n, gJ_n, gR_n, gI_sJ, gI_sR, gI_sD, gJ_sI, gJ_sR, gJ_sD, gR_sI, gR_sJ, gR_sD]; exact h5⟩, ?_, ?_, ?_, ?_, ?_⟩
      · intro u hu; simp (disch := omega) only [gI_s, gJ_s, gR_s, gI_n, gJ_n, gR_n, gI_sJ, gI_sR, gI_sD, gJ_sI, gJ_sR, gJ_sD, gR_sI, gR_sJ, gR_sD]; exact h6 u hu
      · intro g hg; simp (disch := omega) only [gI_s, gJ_s, gR_s, gI_n, gJ_n, gR_n, gI_sJ, gI_sR, gI_sD, gJ_sI, gJ_sR, gJ_sD, gR_sI, gR_sJ, gR_sD]; exact h7 g hg
      · intro f w hf hw; simp (disch := omega) only [gI_s, gJ_s, gR_s, gI_n, gJ_n, gR_n, gI_sJ, gI_sR, gI_sD, gJ_sI, gJ_sR, gJ_sD, gR_sI, gR_sJ, gR_sD]; exact h8 f w hf hw
      · intro k hk
        rw [xZ_ca, xZ_de]
        by_cases q : k = r
        · rw [q, put_s]; simp (disch := omega) only [gI_s, gJ_s, gR_s, gI_n, gJ_n, gR_n, gI_sJ, gI_sR, gI_sD, gJ_sI, gJ_sR, gJ_sD, gR_sI, gR_sJ, gR_sD]; exact ⟨(h9 r hr).1, rfl⟩
        · rw [put_n _ _ q]; simp (disch := omega) only [gI_s, gJ_s, gR_s, gI_n, gJ_n, gR_n, gI_sJ, gI_sR, gI_sD, gJ_sI, gJ_sR, gJ_sD, gR_sI, gR_sJ, gR_sD]; exact h9 k hk
      · intro l hl
        obtain ⟨c1, c2, c3, c4⟩ := h10 l hl
        simp (disch := omega) only [gI_s, gJ_s, gR_s, gI_n, gJ_n, gR_n, gI_sJ, gI_sR, gI_sD, gJ_sI, gJ_sR, gJ_sD, gR_sI, gR_sJ, gR_sD]
        exact ⟨c1, c2, c3, fun i w hw => (c4 i w hw).ag ((agr_sI (p := fun k => k = 379) (by omega) _ _ _) _ rfl)⟩
    have ht3 : gI (sI S' 375 r 0) 367 0 = 0 := by simp (disch := omega) only [gI_s, gJ_s, gR_s, gI_n, gJ_n, gR_n, gI_sJ, gI_sR, gI_sD, gJ_sI, gJ_sR, gJ_sD, gR_sI, gR_sJ, gR_sD]; exact ht2
    generalize sI S' 375 r 0 = S1 at *
    refine m_carried (a := xZ a r) hn hk2.2 (by omega) (fun i hi => h.ca60 i hi) _ ?_
    have hu := units_xZ (a := a) hr (ca a r)
    have hu10 := (h.lig _ hcl).2.2.2.1
    by_cases c : units (xZ a r) (ca a r) = 0
    · have er : rls a r = xW (xZ a r) (ca a r) [] := by unfold rls; rw [if_pos c]
      rw [if_pos (by rw [c]; rfl)]
      have hWb := h.kls hr hd
      rw [er] at hO hWb
      refine m_ends h hcl ⟨(hk2.2.2.2.2.2.2 _ hcl).2.2.1, (hk2.2.2.2.2.2.2 _ hcl).2.2.2⟩ _ (fun S2 hag h78 h73 => ?_)
      refine hO S2 ⟨hk2.1.tr (hag.mo (fun k hk => by omega)), ?_⟩ (by rw [(hag 367 (by omega)).1]; exact ht3)
      obtain ⟨⟨h1, h2, h3, h4, h5⟩, h6, h7, h8, h9, h10⟩ := hk2.2
      have e67 := (hag 367 (by omega)).1
      refine ⟨⟨by rw [e67]; exact h1, by rw [e67]; exact h2, by rw [e67]; exact h3, by rw [e67]; exact h4, by rw [e67]; exact h5⟩, ?_, ?_, ?_, ?_, ?_⟩
      · intro u hu; rw [(hag 368 (by omega)).1]; exact h6 u hu
      · intro g hg; rw [(hag 369 (by omega)).1, (hag 370 (by omega)).1, (hag 371 (by omega)).1, (hag 372 (by omega)).1]; exact h7 g hg
      · intro f w hf hw
        rw [h73 f w hf hw, usr_upd h hWb (l := ca a r) (fun k hk hne => ⟨hk, by rw [xW_wy, put_n _ _ hne]; rfl⟩) (fun k hk => hk) hcl f w]
        rw [xW_wy, put_s, if_neg (show ¬ onc [] (10 * f + w) = true by simp [onc])]
        by_cases q : onc (wy a (ca a r)) (10 * f + w) = true
        · rw [if_pos q, if_pos ⟨hcl, q⟩]
        · rw [if_neg q, if_neg (fun z => q z.2)]; exact h8 f w hf hw
      · intro k hk; rw [(hag 374 (by omega)).1, (hag 375 (by omega)).1]; exact h9 k hk
      · intro l hl
        obtain ⟨c1, c2, c3, c4⟩ := h10 l hl
        rw [(hag 376 (by omega)).1, (hag 377 (by omega)).1, h78 l, xW_wy]
        refine ⟨c1, c2, ?_, ?_⟩
        · by_cases q : l = ca a r
          · rw [if_pos q, q, put_s]; rfl
          · rw [if_neg q, put_n _ _ q]; exact c3
        · intro i w hw
          by_cases q : l = ca a r
          · rw [q, put_s] at hw; simp at hw
          · rw [put_n _ _ q] at hw
            exact (c4 i w hw).ag (hag 379 (by omega))
    · have er : rls a r = xZ a r := by unfold rls; rw [if_neg c]
      rw [er] at hO
      rw [if_neg (by rw [n_eq0 (by omega)]; exact c)]
      exact hO S1 hk2 ht3
  · refine m_holds hI _ _ (fun z => absurd z (by decide)) (fun _ S' hk ht2 => ?_)
    rw [if_neg (by decide)]
    exact hO.2 1 0 S' (by unfold q_release; rw [ht]; rfl) hk ht2
  · subst hx
    refine m_holds hI _ _ (fun z => absurd z (by decide)) (fun _ S' hk ht2 => ?_)
    rw [if_neg (by decide)]
    exact hO.2 2 0 S' (by unfold q_release; rw [ht, tN_nI (by omega), if_pos rfl, if_pos hd]) hk ht2
/-- what finding leaves alone -/
theorem KM.fa {S S' : St} {a : Ab} (hI : InvM S a) (e : agr (fun q => ¬ (380 ≤ q ∧ q ≤ 386)) S S') : KM S S' a :=
  ⟨e.mo (fun k hk => by omega), hI.ag (e.mo (fun k hk => by unfold CM at hk; omega))⟩
theorem m_newLength {S : St} {a : Ab} (h : WF a) (hI : InvM S a) (x y r : Int32) (P : Int32 → St → Prop) (hO : OutM S a (q_newLength a x y r) P) : wp_X6_newLength S x y r P := by
  have hi8 := h.1.2
  have hE : two a x y = false ∨ rg r 0 2 = false → wp_X6_newLength_67 x y r P S 1 := by
    intro hr
    unfold wp_X6_newLength_67
    refine m_holds hI _ _ (fun z => absurd z (by decide)) (fun _ S' hk ht => ?_)
    rw [if_neg (by decide)]
    exact hO.2 1 0 S' (by unfold q_newLength; rcases hr with hr | hr <;> rw [hr] <;> simp) hk ht
  unfold wp_X6_newLength wp_X6_newLength_22 wp_X6_newLength_23 wp_X6_newLength_44 wp_X6_newLength_45
  refine m_two h hI x y _ ?_
  rcases ht : two a x y with _ | _
  · rw [if_neg (by decide), if_neg (by decide), if_neg (by decide)]; exact hE (.inl ht)
  · rw [if_pos rfl]
    refine m_in r 0 2 _ ?_
    rcases hr : rg r 0 2 with _ | _
    · rw [if_neg (by decide), if_neg (by decide), if_neg (by decide)]; exact hE (.inr hr)
    · rw [if_pos rfl, if_pos rfl]
      obtain ⟨k, k1, k2, rfl⟩ := rg_t (lo := 0) (hi := 2) (by omega) (by omega) hr
      obtain ⟨i, j, hi, hj, hij, rfl, rfl⟩ := two_t hi8 ht
      have hq : q_newLength a (nI i) (nI j) (nI k) = (if fnd a i j k = [] then .error 2 else .ok (nI (lens (fnd a i j k)), a)) := by
        unfold q_newLength; rw [ht, hr, tN_nI (by omega), tN_nI (by omega), tN_nI (by omega)]; rfl
      refine m_findsBy h hI hi hj k2 _ (fun S1 hag hB => ?_)
      have hk0 := KM.fa hI hag
      unfold wp_X6_newLength_67
      have v8 := vp_810
      have e8 : (8 : Int32).toNatClampNeg = 8 := rfl
      obtain ⟨b1, b2⟩ := hB
      rcases (fnd_NW h hi (t := j) k2).2 with q | ⟨w, q, hk2⟩ | ⟨w, v, q, hk2⟩
      · rw [q, if_neg (by decide), if_pos rfl, if_neg (by decide)]
        refine m_holds hk0.2 _ _ (fun z => absurd z (by decide)) (fun _ S' hk ht2 => ?_)
        rw [if_neg (by decide)]
        exact hO.2 2 0 S' (by rw [hq, if_pos q]) (hk0.tr hk) ht2
      · obtain ⟨r1, s1⟩ := b1 w [] q
        rw [q, if_pos (show (!([w] : List Wy).isEmpty) = true from rfl), if_pos rfl, if_pos rfl]
        refine m_holds hk0.2 _ _ (fun _ S' hk ht2 hg => ?_) (fun z => absurd rfl z)
        rw [if_pos rfl]
        refine ⟨v8, ?_⟩
        rw [if_neg (by rw [show (2 : Int32) = nI 2 from rfl, nI_eq (by omega) (by omega)]; exact hk2), e8, hg 384 8 (by omega), r1.2.2.1, Int32.add_zero]
        exact hO.1 _ a S' (by rw [hq, if_neg (by rw [q]; simp), q]; rfl) (hk0.tr hk) ht2
      · obtain ⟨r1, s1⟩ := b1 w [v] q
        obtain ⟨r2, s2⟩ := b2 w v [] q
        rw [q, if_pos (show (!([w, v] : List Wy).isEmpty) = true from rfl), if_pos rfl, if_pos rfl]
        refine m_holds hk0.2 _ _ (fun _ S' hk ht2 hg => ?_) (fun z => absurd rfl z)
        rw [if_pos rfl]
        refine ⟨v8, ?_⟩
        rw [if_pos (by rw [hk2]; rfl), e8, hg 384 8 (by omega), hg 385 8 (by omega), r1.2.2.1, r2.2.2.1, nI_add]
        exact ⟨v8, hO.1 _ a S' (by rw [hq, if_neg (by rw [q]; simp), q]; rfl) (hk0.tr hk) ht2⟩
theorem kpt_255 {a : Ab} (h : WF a) (own x t : Nat) : kpt a (fun f => usb a own f &&& 255) (cv a) x t = kpt a (usb a own) (cv a) x t := by
  have hw8 := h.2.1.2
  congr 1
  funext f
  have h2 : usb a own f < 2 ^ 8 := Nat.lt_of_lt_of_le (usb_lt a own f) (Nat.pow_le_pow_right (by omega) hw8)
  rw [show (255 : Nat) = 2 ^ 8 - 1 from rfl, Nat.and_two_pow_sub_one_eq_mod, Nat.mod_eq_of_lt h2]
theorem m_reroute {S : St} {a : Ab} (h : WF a) (hI : InvM S a) (x : Int32) (P : Int32 → St → Prop) (hO : OutM S a (q_reroute a x) P) : wp_X6_reroute S x P := by
  have hn := h.n60
  unfold wp_X6_reroute wp_X6_reroute_45 wp_X6_reroute_46
  have hbad : ∀ S1, KM S S1 a → ∀ (c : Nat) (v : Int32), v = nI c → v ≠ 0 → q_reroute a x = .error c → wp_X6_reroute_69 x P S1 v := by
    intro S1 hk0 c v hv hv0 hq
    unfold wp_X6_reroute_69
    refine m_holds hk0.2 _ _ (fun z => absurd z hv0) (fun _ S' hk ht2 => ?_)
    rw [if_neg (by decide)]
    exact hO.2 c 0 S' hq (hk0.tr hk) (by rw [ht2, hv])
  refine m_light h hI x _ ?_
  rcases ht : isn x (nL a) with _ | _
  · rw [if_neg (by decide)]
    refine m_light h hI x _ ?_
    rw [ht, if_neg (by decide)]
    exact hbad S (KM.rf hI) 1 1 rfl (by decide) (by unfold q_reroute; rw [ht]; rfl)
  · rw [if_pos rfl]
    obtain ⟨l, hl, rfl⟩ := isn_t (by omega) ht
    have hv : vp_in (nI l) 60 := vp_in_nI (by omega) (by omega)
    have hq : q_reroute a (nI l) = match rrt a l with
        | none => .error 2
        | some w => .ok (nI w.2.1, xW a l [w]) := by unfold q_reroute; rw [ht, tN_nI (by omega)]; rfl
    obtain ⟨m1, m2, m3, m4⟩ := hI.2.2.2.2.2 l hl
    rw [nI_clamp (by omega), m3]
    refine ⟨hv, ?_⟩
    obtain ⟨hw2, hwg⟩ := h.ways hl
    by_cases c : (wy a l).length = 1
    · rw [if_pos (by rw [c]; rfl), m1, m2]
      refine ⟨hv, hv, ?_⟩
      obtain ⟨b1, b2, b3, _⟩ := h.lig l hl
      obtain ⟨w0, hw0⟩ : ∃ w0, wy a l = [w0] := by
        rcases hq2 : wy a l with _ | ⟨w, r⟩
        · rw [hq2] at c; simp at c
        · rw [hq2] at c
          have : r = [] := by simpa using c
          exact ⟨w, by rw [this]⟩
      have hr : rrt a l = fnd0 a l (sn a l) (en a l) := by unfold rrt; rw [hw0]
      refine m_finds (own := l) (st := 255) h hI b1 b2 (.inr ⟨rfl, by omega⟩) (by omega) _ (fun S1 hag hB => ?_)
      rw [kpt_255 h] at hB ⊢
      have hfd : pick (kpt a (usb a l) (cv a) (sn a l) (en a l)) = fnd0 a l (sn a l) (en a l) := rfl
      rw [hfd] at hB ⊢
      rw [hr] at hq
      have hk0 := KM.fa hI (hag.mo (fun q hq => by omega))
      rcases hf : fnd0 a l (sn a l) (en a l) with _ | w
      · rw [hf] at hq
        rw [if_neg (by decide)]
        refine m_light h hk0.2 (nI l) _ ?_
        rw [ht, if_pos rfl, if_neg (by decide)]
        exact hbad S1 hk0 2 2 rfl (by decide) hq
      · rw [hf] at hq hB
        rw [if_pos (show (some w).isSome = true from rfl)]
        refine m_light h hk0.2 (nI l) _ ?_
        rw [ht, if_pos rfl, if_pos rfl]
        obtain ⟨r1, s1, n1⟩ := hB.2 w rfl
        unfold wp_X6_reroute_69
        refine m_holds hk0.2 _ _ (fun _ S2 hk ht2 hg => ?_) (fun z => absurd rfl z)
        rw [if_pos rfl]
        have hk1 := hk0.tr hk
        have w0s : SW w0 := (hwg 0 w0 (by rw [hw0]; rfl)).2.2
        have r0 : RepM S2 379 (20 * l + 10 * 0) w0 := (hk1.2.2.2.2.2.2 l hl).2.2.2 0 w0 (by rw [hw0]; rfl)
        have r1 : RepM S2 384 0 w := r1.agI (fun j => hg 384 j (by omega))
        refine m_uses (l := l) (i := 0) (by omega) (by omega) w0s r0 _ (fun S3 hag3 h73 => ?_)
        have r1 : RepM S3 384 0 w := r1.ag (hag3 384 (by omega))
        refine m_gets (l := l) (i := 0) (by omega) (by omega) s1 (.inl rfl) r1 _ (fun S4 hag4 hR4 h794 h734 => ?_)
        refine ⟨vp_810, ?_⟩
        have r4 : RepM S4 384 0 w := r1.ag (hag4 384 (by omega))
        rw [show (8 : Int32).toNatClampNeg = 8 from rfl]
        have e8 := r4.2.2.1
        rw [Nat.zero_add] at e8
        rw [e8]
        have hFW := fnd0_FW h b1 hf
        have hWb : WF (xW a l [w]) := h.kW hl (hFW.NW1 h (.inl rfl)) (by rw [hw0]; simp) (by simp)
        have hag34 : agr (fun q => q ≠ 373 ∧ q ≠ 379) S2 S4 := (hag3.mo (fun k hk => hk.1)).tr hag4
        refine hO.1 _ _ S4 hq (hk1.tr ⟨hag34.mo (fun k hk => by omega), ?_⟩) (by rw [(hag34 367 (by omega)).1]; exact ht2)
        obtain ⟨⟨h1, h2, h3, h4, h5⟩, h6, h7, h8, h9, h10⟩ := hk1.2
        have e67 := (hag34 367 (by omega)).1
        refine ⟨⟨by rw [e67]; exact h1, by rw [e67]; exact h2, by rw [e67]; exact h3, by rw [e67]; exact h4, by rw [e67]; exact h5⟩, ?_, ?_, ?_, ?_, ?_⟩
        · intro u hu; rw [(hag34 368 (by omega)).1]; exact h6 u hu
        · intro g hg; rw [(hag34 369 (by omega)).1, (hag34 370 (by omega)).1, (hag34 371 (by omega)).1, (hag34 372 (by omega)).1]; exact h7 g hg
        · intro f y hf hy
          rw [h734 f y hf hy, h73 f y hf hy, usr_upd h hWb (l := l) (fun k hk hne => ⟨hk, by rw [xW_wy, put_n _ _ hne]⟩) (fun k hk => hk) hl f y]
          rw [xW_wy, put_s, hw0]
          have eo : ∀ (v : Wy), onc [v] (10 * f + y) = v.1.contains (10 * f + y) := fun v => by simp [onc]
          rw [eo, eo]
          by_cases q : w.1.contains (10 * f + y) = true
          · rw [if_pos q, if_pos q]
          · rw [if_neg q, if_neg q]
            by_cases q2 : w0.1.contains (10 * f + y) = true
            · rw [if_pos q2, if_pos ⟨hl, q2⟩]
            · rw [if_neg q2, if_neg (fun z => q2 z.2)]; exact h8 f y hf hy
        · intro k hk; rw [(hag34 374 (by omega)).1, (hag34 375 (by omega)).1]; exact h9 k hk
        · intro k hk
          obtain ⟨c1, c2, c3, c4⟩ := h10 k hk
          rw [(hag34 376 (by omega)).1, (hag34 377 (by omega)).1, (hag34 378 (by omega)).1, xW_wy]
          by_cases q : k = l
          · subst q
            rw [put_s]
            refine ⟨c1, c2, by rw [c3, hw0]; rfl, fun i v hv => ?_⟩
            have hi0 : i = 0 := by
              obtain ⟨y, _⟩ := List.getElem?_eq_some_iff.mp hv
              simp at y; omega
            subst hi0
            have : w = v := by simpa using hv
            rw [← this]; exact hR4
          · rw [put_n _ _ q]
            refine ⟨c1, c2, c3, fun i v hv => ?_⟩
            obtain ⟨i2, _, sv⟩ := (h.ways hk).2 i v hv
            have hs7 := sv.1
            have hx9 : ∀ j, j < 10 → gI S4 379 (20 * k + 10 * i + j) = gI S2 379 (20 * k + 10 * i + j) := fun j hj => by
              rw [h794 _ (by omega), (hag3 379 (by omega)).1]
            obtain ⟨d1, d2, d3, d4⟩ := c4 i v hv
            exact ⟨fun p hp => by rw [hx9 p (by omega)]; exact d1 p hp, by rw [hx9 7 (by omega)]; exact d2, by rw [hx9 8 (by omega)]; exact d3, by rw [hx9 9 (by omega)]; exact d4⟩
    · rw [if_neg (by rw [n_1, nI_eq (by omega) (by omega)]; exact c)]
      refine m_light h hI (nI l) _ ?_
      rw [ht, if_pos rfl, if_neg (by decide)]
      refine hbad S (KM.rf hI) 2 2 rfl (by decide) ?_
      have : rrt a l = none := by
        unfold rrt
        split
        · rename_i w e; rw [e] at c; simp at c
        · rfl
      rw [hq, this]
