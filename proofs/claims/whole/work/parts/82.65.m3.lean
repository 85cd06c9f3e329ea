/-! THE PURE LAYER: the reference's requests -/
/-- the numbers, nodes, fibres, requests of the reference, where lights alone change -/
theorem InvM.light {S S' : St} {a b : Ab} (hI : InvM S a) (hag : agr (fun q => q = 368 ∨ q = 369 ∨ q = 370 ∨ q = 371 ∨ q = 372 ∨ q = 374 ∨ q = 375) S S')
    (e1' : ∀ f, e1 b f = e1 a f ∧ e2 b f = e2 a f ∧ el b f = el a f ∧ ct b f = ct a f) (e2' : ∀ v, cv b v = cv a v) (e3 : ∀ r, ca b r = ca a r ∧ de b r = de a r) (e4 : nF b = nF a ∧ nR b = nR a)
    (h0 : gI S' 367 1 = nI (nD b) ∧ gI S' 367 2 = nI (nW b) ∧ gI S' 367 3 = nI (nF b) ∧ gI S' 367 10 = nI (nR b) ∧ gI S' 367 13 = nI (nL b))
    (hu : ∀ f w, f < 14 → w < 8 → gI S' 373 (8 * f + w) = uN (usr b f w))
    (hL : ∀ l, l < nL b → gI S' 376 l = nI (sn b l) ∧ gI S' 377 l = nI (en b l) ∧ gI S' 378 l = nI (wy b l).length ∧ ∀ (i : Nat) (w : Wy), (wy b l)[i]? = some w → RepM S' 379 (20 * l + 10 * i) w) : InvM S' b := by
  obtain ⟨_, h6, h7, _, h9, _⟩ := hI
  refine ⟨h0, ?_, ?_, hu, ?_, hL⟩
  · intro v hv; rw [(hag 368 (by omega)).1, e2']; exact h6 v hv
  · intro f hf
    rw [e4.1] at hf
    rw [(hag 369 (by omega)).1, (hag 370 (by omega)).1, (hag 371 (by omega)).1, (hag 372 (by omega)).1, (e1' f).1, (e1' f).2.1, (e1' f).2.2.1, (e1' f).2.2.2]; exact h7 f hf
  · intro r hr
    rw [e4.2] at hr
    rw [(hag 374 (by omega)).1, (hag 375 (by omega)).1, (e3 r).1, (e3 r).2]; exact h9 r hr
theorem RepM.off {S S' : St} {l i : Nat} {w : Wy} (h : RepM S 379 (20 * l + 10 * i) w) (hs : SW w) (e : ∀ j, j < 10 → gI S' 379 (20 * l + 10 * i + j) = gI S 379 (20 * l + 10 * i + j)) : RepM S' 379 (20 * l + 10 * i) w := by
  obtain ⟨d1, d2, d3, d4⟩ := h
  have h7 := hs.1
  exact ⟨fun p hp => by rw [e p (by omega)]; exact d1 p hp, by rw [e 7 (by omega)]; exact d2, by rw [e 8 (by omega)]; exact d3, by rw [e 9 (by omega)]; exact d4⟩
theorem m_makes {S : St} {a : Ab} {x y rule : Nat} {ws : List Wy} (h : WF a) (hI : InvM S a) (hW : WF (xR (xL a x y ws) (nL a) 1)) (hr : rule ≤ 2) (hN : nL a < 60) (hB : BwM S ws) (hc : (∃ w, ws = [w] ∧ rule ≠ 2) ∨ (∃ w v, ws = [w, v] ∧ rule = 2)) (P : Int32 → St → Prop)
    (hP : ∀ S', KM S S' (xL a x y ws) → gI S' 367 0 = gI S 367 0 → P (nI (nL a)) S') : wp_X6_makes S (nI x) (nI y) (nI rule) P := by
  have hv : vp_in (nI (nL a)) 60 := vp_in_nI (by omega) (by omega)
  have hn := hI.1.2.2.2.2
  unfold wp_X6_makes
  rw [hn, nI_clamp (by omega)]
  refine ⟨hv, ?_⟩
  rintro _ rfl
  rw [gI_n (by omega), hn, nI_clamp (by omega)]
  refine ⟨hv, ?_⟩
  rintro _ rfl
  rw [gI_n (by omega), gI_n (by omega), hn]
  have hwl : ws.length = if rule = 2 then 2 else 1 := by
    rcases hc with ⟨w, q, q2⟩ | ⟨w, v, q, q2⟩
    · rw [q, if_neg q2]; rfl
    · rw [q, if_pos q2]; rfl
  have main : wp_X6_makes_38 (nI x) (nI y) (nI rule) P (sI (sI S 376 (nL a) (nI x)) 377 (nL a) (nI y)) (nI (nL a)) (nI ws.length) := by
    unfold wp_X6_makes_38
    rw [nI_clamp (by omega)]
    refine ⟨hv, ?_⟩
    rintro _ rfl
    generalize hS3 : sI (sI (sI S 376 (nL a) (nI x)) 377 (nL a) (nI y)) 378 (nL a) (nI ws.length) = S3
    have ag3 : agr (fun q => q ≠ 376 ∧ q ≠ 377 ∧ q ≠ 378) S S3 := by
      rw [← hS3]
      exact ((agr_sI (by omega) _ _ _).tr (agr_sI (by omega) _ _ _)).tr (agr_sI (by omega) _ _ _)
    have g6 : ∀ j, gI S3 376 j = if j = nL a then nI x else gI S 376 j := fun j => by
      rw [← hS3]; by_cases q : j = nL a
      · rw [if_pos q, q]; simp (disch := omega) only [gI_s, gJ_s, gR_s, gI_n, gJ_n, gR_n, gI_sJ, gI_sR, gI_sD, gJ_sI, gJ_sR, gJ_sD, gR_sI, gR_sJ, gR_sD]
      · rw [if_neg q]; simp (disch := omega) only [gI_s, gJ_s, gR_s, gI_n, gJ_n, gR_n, gI_sJ, gI_sR, gI_sD, gJ_sI, gJ_sR, gJ_sD, gR_sI, gR_sJ, gR_sD]
    have g7 : ∀ j, gI S3 377 j = if j = nL a then nI y else gI S 377 j := fun j => by
      rw [← hS3]; by_cases q : j = nL a
      · rw [if_pos q, q]; simp (disch := omega) only [gI_s, gJ_s, gR_s, gI_n, gJ_n, gR_n, gI_sJ, gI_sR, gI_sD, gJ_sI, gJ_sR, gJ_sD, gR_sI, gR_sJ, gR_sD]
      · rw [if_neg q]; simp (disch := omega) only [gI_s, gJ_s, gR_s, gI_n, gJ_n, gR_n, gI_sJ, gI_sR, gI_sD, gJ_sI, gJ_sR, gJ_sD, gR_sI, gR_sJ, gR_sD]
    have g8 : ∀ j, gI S3 378 j = if j = nL a then nI ws.length else gI S 378 j := fun j => by
      rw [← hS3]; by_cases q : j = nL a
      · rw [if_pos q, q]; simp (disch := omega) only [gI_s, gJ_s, gR_s, gI_n, gJ_n, gR_n, gI_sJ, gI_sR, gI_sD, gJ_sI, gJ_sR, gJ_sD, gR_sI, gR_sJ, gR_sD]
      · rw [if_neg q]; simp (disch := omega) only [gI_s, gJ_s, gR_s, gI_n, gJ_n, gR_n, gI_sJ, gI_sR, gI_sD, gJ_sI, gJ_sR, gJ_sD, gR_sI, gR_sJ, gR_sD]
    have n3 : gI S3 367 13 = nI (nL a) := by rw [(ag3 367 (by omega)).1]; exact hn
    -- the end: one light more
    have fin : ∀ S', agr (fun q => q ≠ 373 ∧ q ≠ 379) S3 S' → (∀ (i : Nat) (w : Wy), ws[i]? = some w → RepM S' 379 (20 * nL a + 10 * i) w) → (∀ j, j < 20 * nL a → gI S' 379 j = gI S 379 j) →
        (∀ f z, f < 14 → z < 8 → gI S' 373 (8 * f + z) = if onc ws (10 * f + z) = true then nI (nL a) else gI S 373 (8 * f + z)) → wp_X6_makes_70 (nI x) (nI y) (nI rule) P S' := by
      intro S' hag hw h79 h73
      unfold wp_X6_makes_70
      rintro _ rfl
      have n4 : gI S' 367 13 = nI (nL a) := by rw [(hag 367 (by omega)).1]; exact n3
      rw [gI_s, n4, nI_1, nI_m1]
      have e67 : ∀ j, gI S' 367 j = gI S 367 j := fun j => by rw [(hag 367 (by omega)).1, (ag3 367 (by omega)).1]
      have hall : agr (fun q => q ≠ 367 ∧ q ≠ 373 ∧ q ≠ 376 ∧ q ≠ 377 ∧ q ≠ 378 ∧ q ≠ 379) S (sI S' 367 13 (nI (nL a + 1))) := ((ag3.mo (fun k hk => by omega)).tr (hag.mo (fun k hk => by omega))).tr (agr_sI (by omega) _ _ _)
      refine hP _ ⟨hall.mo (fun k hk => by omega), ?_⟩ (by simp (disch := omega) only [gI_s, gJ_s, gR_s, gI_n, gJ_n, gR_n, gI_sJ, gI_sR, gI_sD, gJ_sI, gJ_sR, gJ_sD, gR_sI, gR_sJ, gR_sD]; exact e67 0)
      obtain ⟨⟨b1, b2, b3, b4, b5⟩, _, _, b8, _, b10⟩ := id hI
      refine InvM.light hI (hall.mo (fun k hk => by omega)) (fun f => ⟨rfl, rfl, rfl, rfl⟩) (fun v => rfl) (fun r => ⟨rfl, rfl⟩) ⟨rfl, rfl⟩ ?_ ?_ ?_
      · rw [xL_nL]; simp (disch := omega) only [gI_s, gJ_s, gR_s, gI_n, gJ_n, gR_n, gI_sJ, gI_sR, gI_sD, gJ_sI, gJ_sR, gJ_sD, gR_sI, gR_sJ, gR_sD]; rw [e67, e67, e67, e67]; exact ⟨b1, b2, b3, b4, trivial⟩
      · intro f z hf hz
        rw [gI_n (by omega), h73 f z hf hz]
        have hu := usr_upd h hW (l := nL a) (fun k hk hne => by
          simp only [xB_nD, xB_nW, xB_nF, xB_nR, xB_nL, xB_e1, xB_e2, xB_el, xB_ca, xB_de, xB_sn, xB_en, xB_cv, xB_ct, xB_wy, xF_nD, xF_nW, xF_nF, xF_nR, xF_nL, xF_e1, xF_e2, xF_el, xF_ca, xF_de, xF_sn, xF_en, xF_cv, xF_ct, xF_wy, xC_nD, xC_nW, xC_nF, xC_nR, xC_nL, xC_e1, xC_e2, xC_el, xC_ca, xC_de, xC_sn, xC_en, xC_cv, xC_ct, xC_wy, xK_nD, xK_nW, xK_nF, xK_nR, xK_nL, xK_e1, xK_e2, xK_el, xK_ca, xK_de, xK_sn, xK_en, xK_cv, xK_ct, xK_wy, xR_nD, xR_nW, xR_nF, xR_nR, xR_nL, xR_e1, xR_e2, xR_el, xR_ca, xR_de, xR_sn, xR_en, xR_cv, xR_ct, xR_wy, xL_nD, xL_nW, xL_nF, xL_nR, xL_nL, xL_e1, xL_e2, xL_el, xL_ca, xL_de, xL_sn, xL_en, xL_cv, xL_ct, xL_wy, xZ_nD, xZ_nW, xZ_nF, xZ_nR, xZ_nL, xZ_e1, xZ_e2, xZ_el, xZ_ca, xZ_de, xZ_sn, xZ_en, xZ_cv, xZ_ct, xZ_wy, xW_nD, xW_nW, xW_nF, xW_nR, xW_nL, xW_e1, xW_e2, xW_el, xW_ca, xW_de, xW_sn, xW_en, xW_cv, xW_ct, xW_wy, xM_nD, xM_nW, xM_nF, xM_nR, xM_nL, xM_e1, xM_e2, xM_el, xM_ca, xM_de, xM_sn, xM_en, xM_cv, xM_ct, xM_wy] at hk
          simp only [xB_nD, xB_nW, xB_nF, xB_nR, xB_nL, xB_e1, xB_e2, xB_el, xB_ca, xB_de, xB_sn, xB_en, xB_cv, xB_ct, xB_wy, xF_nD, xF_nW, xF_nF, xF_nR, xF_nL, xF_e1, xF_e2, xF_el, xF_ca, xF_de, xF_sn, xF_en, xF_cv, xF_ct, xF_wy, xC_nD, xC_nW, xC_nF, xC_nR, xC_nL, xC_e1, xC_e2, xC_el, xC_ca, xC_de, xC_sn, xC_en, xC_cv, xC_ct, xC_wy, xK_nD, xK_nW, xK_nF, xK_nR, xK_nL, xK_e1, xK_e2, xK_el, xK_ca, xK_de, xK_sn, xK_en, xK_cv, xK_ct, xK_wy, xR_nD, xR_nW, xR_nF, xR_nR, xR_nL, xR_e1, xR_e2, xR_el, xR_ca, xR_de, xR_sn, xR_en, xR_cv, xR_ct, xR_wy, xL_nD, xL_nW, xL_nF, xL_nR, xL_nL, xL_e1, xL_e2, xL_el, xL_ca, xL_de, xL_sn, xL_en, xL_cv, xL_ct, xL_wy, xZ_nD, xZ_nW, xZ_nF, xZ_nR, xZ_nL, xZ_e1, xZ_e2, xZ_el, xZ_ca, xZ_de, xZ_sn, xZ_en, xZ_cv, xZ_ct, xZ_wy, xW_nD, xW_nW, xW_nF, xW_nR, xW_nL, xW_e1, xW_e2, xW_el, xW_ca, xW_de, xW_sn, xW_en, xW_cv, xW_ct, xW_wy, xM_nD, xM_nW, xM_nF, xM_nR, xM_nL, xM_e1, xM_e2, xM_el, xM_ca, xM_de, xM_sn, xM_en, xM_cv, xM_ct, xM_wy]
          exact ⟨by omega, by rw [put_n _ _ hne]⟩) (fun k hk => by simp only [xB_nD, xB_nW, xB_nF, xB_nR, xB_nL, xB_e1, xB_e2, xB_el, xB_ca, xB_de, xB_sn, xB_en, xB_cv, xB_ct, xB_wy, xF_nD, xF_nW, xF_nF, xF_nR, xF_nL, xF_e1, xF_e2, xF_el, xF_ca, xF_de, xF_sn, xF_en, xF_cv, xF_ct, xF_wy, xC_nD, xC_nW, xC_nF, xC_nR, xC_nL, xC_e1, xC_e2, xC_el, xC_ca, xC_de, xC_sn, xC_en, xC_cv, xC_ct, xC_wy, xK_nD, xK_nW, xK_nF, xK_nR, xK_nL, xK_e1, xK_e2, xK_el, xK_ca, xK_de, xK_sn, xK_en, xK_cv, xK_ct, xK_wy, xR_nD, xR_nW, xR_nF, xR_nR, xR_nL, xR_e1, xR_e2, xR_el, xR_ca, xR_de, xR_sn, xR_en, xR_cv, xR_ct, xR_wy, xL_nD, xL_nW, xL_nF, xL_nR, xL_nL, xL_e1, xL_e2, xL_el, xL_ca, xL_de, xL_sn, xL_en, xL_cv, xL_ct, xL_wy, xZ_nD, xZ_nW, xZ_nF, xZ_nR, xZ_nL, xZ_e1, xZ_e2, xZ_el, xZ_ca, xZ_de, xZ_sn, xZ_en, xZ_cv, xZ_ct, xZ_wy, xW_nD, xW_nW, xW_nF, xW_nR, xW_nL, xW_e1, xW_e2, xW_el, xW_ca, xW_de, xW_sn, xW_en, xW_cv, xW_ct, xW_wy, xM_nD, xM_nW, xM_nF, xM_nR, xM_nL, xM_e1, xM_e2, xM_el, xM_ca, xM_de, xM_sn, xM_en, xM_cv, xM_ct, xM_wy]; omega) (by simp only [xB_nD, xB_nW, xB_nF, xB_nR, xB_nL, xB_e1, xB_e2, xB_el, xB_ca, xB_de, xB_sn, xB_en, xB_cv, xB_ct, xB_wy, xF_nD, xF_nW, xF_nF, xF_nR, xF_nL, xF_e1, xF_e2, xF_el, xF_ca, xF_de, xF_sn, xF_en, xF_cv, xF_ct, xF_wy, xC_nD, xC_nW, xC_nF, xC_nR, xC_nL, xC_e1, xC_e2, xC_el, xC_ca, xC_de, xC_sn, xC_en, xC_cv, xC_ct, xC_wy, xK_nD, xK_nW, xK_nF, xK_nR, xK_nL, xK_e1, xK_e2, xK_el, xK_ca, xK_de, xK_sn, xK_en, xK_cv, xK_ct, xK_wy, xR_nD, xR_nW, xR_nF, xR_nR, xR_nL, xR_e1, xR_e2, xR_el, xR_ca, xR_de, xR_sn, xR_en, xR_cv, xR_ct, xR_wy, xL_nD, xL_nW, xL_nF, xL_nR, xL_nL, xL_e1, xL_e2, xL_el, xL_ca, xL_de, xL_sn, xL_en, xL_cv, xL_ct, xL_wy, xZ_nD, xZ_nW, xZ_nF, xZ_nR, xZ_nL, xZ_e1, xZ_e2, xZ_el, xZ_ca, xZ_de, xZ_sn, xZ_en, xZ_cv, xZ_ct, xZ_wy, xW_nD, xW_nW, xW_nF, xW_nR, xW_nL, xW_e1, xW_e2, xW_el, xW_ca, xW_de, xW_sn, xW_en, xW_cv, xW_ct, xW_wy, xM_nD, xM_nW, xM_nF, xM_nR, xM_nL, xM_e1, xM_e2, xM_el, xM_ca, xM_de, xM_sn, xM_en, xM_cv, xM_ct, xM_wy]; omega) f z
        have e : usr (xR (xL a x y ws) (nL a) 1) f z = usr (xL a x y ws) f z := rfl
        rw [e] at hu
        rw [hu, xR_wy, xL_wy, put_s]
        by_cases q : onc ws (10 * f + z) = true
        · rw [if_pos q, if_pos q]
        · rw [if_neg q, if_neg q, if_neg (fun z => absurd z.1 (Nat.lt_irrefl _))]; exact b8 f z hf hz
      · intro l hl
        rw [xL_nL] at hl
        rw [gI_n (by omega), gI_n (by omega), gI_n (by omega), (hag 376 (by omega)).1, (hag 377 (by omega)).1, (hag 378 (by omega)).1, g6, g7, g8, xL_sn, xL_en, xL_wy]
        by_cases q : l = nL a
        · rw [if_pos q, if_pos q, if_pos q, q, put_s, put_s, put_s]
          refine ⟨rfl, rfl, rfl, fun i w hw2 => ?_⟩
          exact (hw i w hw2).ag ((agr_sI (p := fun k => k = 379) (by omega) _ _ _) _ rfl)
        · rw [if_neg q, if_neg q, if_neg q, put_n _ _ q, put_n _ _ q, put_n _ _ q]
          obtain ⟨c1, c2, c3, c4⟩ := b10 l (by omega)
          refine ⟨c1, c2, c3, fun i w hw2 => ?_⟩
          obtain ⟨i2, _, sv⟩ := (h.ways (show l < nL a by omega)).2 i w hw2
          refine (c4 i w hw2).off sv (fun j hj => ?_)
          rw [gI_n (by omega)]; exact h79 _ (by omega)
    have eo1 : ∀ (v : Wy) (c : Nat), onc [v] c = v.1.contains c := fun v c => by simp [onc]
    have eo2 : ∀ (v u : Wy) (c : Nat), onc [v, u] c = (v.1.contains c || u.1.contains c) := fun v u c => by simp [onc]
    obtain ⟨hB1, hB2⟩ := hB
    rw [n3]
    rcases hc with ⟨w, q, q2⟩ | ⟨w, v, q, q2⟩
    · obtain ⟨r1, s1⟩ := hB1 w [] q
      refine m_gets (l := nL a) (i := 0) hN (by omega) s1 (.inl rfl) (r1.ag (ag3 384 (by omega))) _ (fun S4 hag4 hR4 h794 h734 => ?_)
      rw [if_neg (by rw [show (2 : Int32) = nI 2 from rfl, nI_eq (by omega) (by omega)]; exact q2)]
      refine fin S4 hag4 (fun i u hu => ?_) (fun j hj => ?_) (fun f z hf hz => ?_)
      · rw [q] at hu
        have hi0 : i = 0 := by
          obtain ⟨y, _⟩ := List.getElem?_eq_some_iff.mp hu
          simp at y; omega
        subst hi0
        have : w = u := by simpa using hu
        rw [← this]; exact hR4
      · rw [h794 j (by omega), (ag3 379 (by omega)).1]
      · rw [h734 f z hf hz, (ag3 373 (by omega)).1, q, eo1]
    · obtain ⟨r1, s1⟩ := hB1 w [v] q
      obtain ⟨r2, s2⟩ := hB2 w v [] q
      refine m_gets (l := nL a) (i := 0) hN (by omega) s1 (.inl rfl) (r1.ag (ag3 384 (by omega))) _ (fun S4 hag4 hR4 h794 h734 => ?_)
      rw [if_pos (by rw [q2]; rfl), (hag4 367 (by omega)).1, n3]
      refine m_gets (l := nL a) (i := 1) hN (by omega) s2 (.inr rfl) ((r2.ag (ag3 385 (by omega))).ag (hag4 385 (by omega))) _ (fun S5 hag5 hR5 h795 h735 => ?_)
      refine fin S5 (hag4.tr hag5) (fun i u hu => ?_) (fun j hj => ?_) (fun f z hf hz => ?_)
      · rw [q] at hu
        have hi01 : i = 0 ∨ i = 1 := by
          obtain ⟨y, _⟩ := List.getElem?_eq_some_iff.mp hu
          simp at y; omega
        rcases hi01 with rfl | rfl
        · have : w = u := by simpa using hu
          rw [← this]
          exact hR4.off s1 (fun j hj => h795 _ (by omega))
        · have : v = u := by simpa using hu
          rw [← this]; exact hR5
      · rw [h795 j (by omega), h794 j (by omega), (ag3 379 (by omega)).1]
      · rw [h735 f z hf hz, h734 f z hf hz, (ag3 373 (by omega)).1, q, eo2]
        cases w.1.contains (10 * f + z) <;> cases v.1.contains (10 * f + z) <;> rfl
  by_cases q : rule = 2
  · rw [if_pos (by rw [q]; rfl)]
    rw [hwl, if_pos q] at main; exact main
  · rw [if_neg (by rw [show (2 : Int32) = nI 2 from rfl, nI_eq (by omega) (by omega)]; exact q)]
    rw [hwl, if_neg q] at main; exact main
theorem m_170 {S : St} {b : Ab} (hI : InvM S b) {l d : Nat} (x1 x2 x4 : Int32) (hR : nR b < 60) (P : Int32 → St → Prop)
    (hP : ∀ S', KM S S' (xR b l d) → gI S' 367 0 = gI S 367 0 → P (nI (nR b)) S') : wp_X6_request_170 x1 x2 (nI d) x4 P S (nI (nR b)) (nI l) := by
  obtain ⟨⟨b1, b2, b3, b4, b5⟩, h6, h7, h8, h9, h10⟩ := hI
  have hv : vp_in (nI (nR b)) 60 := vp_in_nI (by omega) (by omega)
  unfold wp_X6_request_170
  rw [nI_clamp (by omega)]
  refine ⟨hv, ?_⟩
  rintro _ rfl
  rw [gI_n (by omega), b4, nI_clamp (by omega)]
  refine ⟨hv, ?_⟩
  rintro _ rfl _ rfl
  rw [gI_s, gI_n (by omega), gI_n (by omega), b4, nI_1, nI_m1]
  refine hP _ ⟨((agr_sI (by omega) _ _ _).tr (agr_sI (by omega) _ _ _)).tr (agr_sI (by omega) _ _ _), ?_⟩ (by simp (disch := omega) only [gI_s, gJ_s, gR_s, gI_n, gJ_n, gR_n, gI_sJ, gI_sR, gI_sD, gJ_sI, gJ_sR, gJ_sD, gR_sI, gR_sJ, gR_sD])
  refine ⟨⟨by simp (disch := omega) only [gI_s, gJ_s, gR_s, gI_n, gJ_n, gR_n, gI_sJ, gI_sR, gI_sD, gJ_sI, gJ_sR, gJ_sD, gR_sI, gR_sJ, gR_sD]; exact b1, by simp (disch := omega) only [gI_s, gJ_s, gR_s, gI_n, gJ_n, gR_n, gI_sJ, gI_sR, gI_sD, gJ_sI, gJ_sR, gJ_sD, gR_sI, gR_sJ, gR_sD]; exact b2, by simp (disch := omega) only [gI_s, gJ_s, gR_s, gI_n, gJ_n, gR_n, gI_sJ, gI_sR, gI_sD, gJ_sI, gJ_sR, gJ_sD, gR_sI, gR_sJ, gR_sD]; exact b3, by simp (disch := omega) only [gI_s, gJ_s, gR_s, gI_n, gJ_n, gR_n, gI_sJ, gI_sR, gI_sD, gJ_sI, gJ_sR, gJ_sD, gR_sI, gR_sJ, gR_sD]; rw [xR_nR], by simp (disch := omega) only [gI_s, gJ_s, gR_s, gI_n, gJ_n, gR_n, gI_sJ, gI_sR, gI_sD, gJ_sI, gJ_sR, gJ_sD, gR_sI, gR_sJ, gR_sD]; exact b5⟩, ?_, ?_, ?_, ?_, ?_⟩
  · intro u hu; simp (disch := omega) only [gI_s, gJ_s, gR_s, gI_n, gJ_n, gR_n, gI_sJ, gI_sR, gI_sD, gJ_sI, gJ_sR, gJ_sD, gR_sI, gR_sJ, gR_sD]; exact h6 u hu
  · intro g hg; simp (disch := omega) only [gI_s, gJ_s, gR_s, gI_n, gJ_n, gR_n, gI_sJ, gI_sR, gI_sD, gJ_sI, gJ_sR, gJ_sD, gR_sI, gR_sJ, gR_sD]; exact h7 g hg
  · intro f w hf hw; simp (disch := omega) only [gI_s, gJ_s, gR_s, gI_n, gJ_n, gR_n, gI_sJ, gI_sR, gI_sD, gJ_sI, gJ_sR, gJ_sD, gR_sI, gR_sJ, gR_sD]; exact h8 f w hf hw
  · intro k hk
    rw [xR_nR] at hk
    rw [xR_ca, xR_de]
    by_cases q : k = nR b
    · rw [q, put_s, put_s]; simp (disch := omega) only [gI_s, gJ_s, gR_s, gI_n, gJ_n, gR_n, gI_sJ, gI_sR, gI_sD, gJ_sI, gJ_sR, gJ_sD, gR_sI, gR_sJ, gR_sD]; exact ⟨trivial, trivial⟩
    · rw [put_n _ _ q, put_n _ _ q]; simp (disch := omega) only [gI_s, gJ_s, gR_s, gI_n, gJ_n, gR_n, gI_sJ, gI_sR, gI_sD, gJ_sI, gJ_sR, gJ_sD, gR_sI, gR_sJ, gR_sD]; exact h9 k (by omega)
  · intro l hl
    obtain ⟨c1, c2, c3, c4⟩ := h10 l hl
    simp (disch := omega) only [gI_s, gJ_s, gR_s, gI_n, gJ_n, gR_n, gI_sJ, gI_sR, gI_sD, gJ_sI, gJ_sR, gJ_sD, gR_sI, gR_sJ, gR_sD]
    exact ⟨c1, c2, c3, fun i w hw => (c4 i w hw).ag ((((agr_sI (p := fun k => k = 379) (by omega) _ _ _).tr (agr_sI (by omega) _ _ _)).tr (agr_sI (by omega) _ _ _)) _ rfl)⟩
theorem m_request {S : St} {a : Ab} (h : WF a) (hI : InvM S a) (x y d r : Int32) (P : Int32 → St → Prop) (hO : OutM S a (q_request a x y d r) P) : wp_X6_request S x y d r P := by
  have hi8 := h.1.2
  have hn := h.n60
  have hn2 := h.2.2.2.2.1
  have h12 := h.l12
  -- an exception
  have hbad : ∀ S1, KM S S1 a → ∀ (c : Nat) (v : Int32) (a6 : Int32) (a7 : Bool), v = nI c → v ≠ 0 → q_request a x y d r = .error c → wp_X6_request_136 x y d r P S1 a6 a7 v := by
    intro S1 hk0 c v a6 a7 hv hv0 hq
    unfold wp_X6_request_136
    refine m_holds hk0.2 _ _ (fun z => absurd z hv0) (fun _ S' hk ht2 => ?_)
    rw [if_neg (by decide)]
    exact hO.2 c 0 S' hq (hk0.tr hk) (by rw [ht2, hv])
  have hE : two a x y = false ∨ rg d 1 10 = false ∨ rg r 0 2 = false → wp_X6_request_33 x y d r P S := by
    intro hr
    unfold wp_X6_request_33 wp_X6_request_34 wp_X6_request_54 wp_X6_request_99 wp_X6_request_100
    rw [if_neg (by decide), if_neg (by decide), if_neg (by decide)]
    exact hbad S (KM.rf hI) 1 1 _ _ rfl (by decide) (by unfold q_request; rcases hr with hr | hr | hr <;> rw [hr] <;> simp)
  unfold wp_X6_request
  refine m_two h hI x y _ ?_
  rcases ht : two a x y with _ | _
  · rw [if_neg (by decide)]; exact hE (.inl ht)
  · rw [if_pos rfl]
    refine m_in d 1 10 _ ?_
    rcases hd : rg d 1 10 with _ | _
    · rw [if_neg (by decide)]; exact hE (.inr (.inl hd))
    · rw [if_pos rfl]
      refine m_in r 0 2 _ ?_
      rcases hr : rg r 0 2 with _ | _
      · rw [if_neg (by decide)]; exact hE (.inr (.inr hr))
      · rw [if_pos rfl]
        obtain ⟨e, e1, e2, rfl⟩ := rg_t (lo := 1) (hi := 10) (by omega) (by omega) hd
        obtain ⟨i, j, hi, hj, hij, rfl, rfl⟩ := two_t h.1.2 ht
        obtain ⟨k, k1, k2, rfl⟩ := rg_t (lo := 0) (hi := 2) (by omega) (by omega) hr
        have hq : q_request a (nI i) (nI j) (nI e) (nI k) = (if nR a = 60 then .error 2 else match rmf a i j e k with
            | some l => .ok (nI (nR a), xR a l e)
            | none => if lvs a < 12 ∧ fnd a i j k ≠ [] then .ok (nI (nR a), xR (xL a i j (fnd a i j k)) (nL a) e) else .error 2) := by
          unfold q_request; rw [ht, hr, hd, tN_nI (by omega), tN_nI (by omega), tN_nI (by omega), tN_nI (by omega)]; rfl
        unfold wp_X6_request_34
        rw [if_pos rfl]
        refine m_roomFor h hI hi hj e2 k2 _ ?_
        unfold wp_X6_request_54
        rw [if_pos rfl]
        rcases hm : rmf a i j e k with _ | l
        · rw [hm] at hq
          dsimp only at hq
          rw [show uN none = -1 from rfl, if_neg (by decide)]
          refine m_lvs h hI _ ?_
          -- no new light
          have no : ∀ S1, KM S S1 a → ¬ (lvs a < 12 ∧ nR a < 60 ∧ fnd a i j k ≠ []) → wp_X6_request_99 (nI i) (nI j) (nI e) (nI k) P S1 true (-1) := by
            intro S1 hk0 hc
            unfold wp_X6_request_99 wp_X6_request_100 wp_X6_request_131
            have hq2 : q_request a (nI i) (nI j) (nI e) (nI k) = .error 2 := by
              rw [hq]
              by_cases c : nR a = 60
              · rw [if_pos c]
              · rw [if_neg c, if_neg (fun z => hc ⟨z.1, by omega, z.2⟩)]
            rw [if_pos rfl, if_neg (show ¬ (0 : Int32) ≤ -1 by decide), if_neg (show ¬ false = true by decide)]
            split
            · exact hbad S1 hk0 2 2 _ _ rfl (by decide) hq2
            · exact hbad S1 hk0 2 2 _ _ rfl (by decide) hq2
          by_cases c12 : lvs a < 12
          · rw [if_neg (by simp (disch := omega) only [n_0, n_1, n_2, n_3, n_7, n_8, n_9, n_10, n_12, n_14, n_18, n_20, n_60, n_112, n_162, n_255, n_1000, nI_add, n_mul, nI_ltI, nI_leI, nI_eq, nI_clamp]; omega), hI.1.2.2.2.1]
            by_cases c60 : nR a < 60
            · rw [if_neg (by simp (disch := omega) only [n_0, n_1, n_2, n_3, n_7, n_8, n_9, n_10, n_12, n_14, n_18, n_20, n_60, n_112, n_162, n_255, n_1000, nI_add, n_mul, nI_ltI, nI_leI, nI_eq, nI_clamp]; omega)]
              rw [if_neg (by omega)] at hq
              refine m_findsBy h hI hi hj k2 _ (fun S1 hag hB => ?_)
              have hk0 := KM.fa hI hag
              obtain ⟨hNW, hcs⟩ := fnd_NW h hi (t := j) k2
              by_cases cf : fnd a i j k = []
              · rw [cf, if_neg (by decide)]
                exact no S1 hk0 (fun z => z.2.2 cf)
              · have hne : (!(fnd a i j k).isEmpty) = true := by
                  rcases hz : fnd a i j k with _ | ⟨w, t⟩
                  · exact absurd hz cf
                  · rfl
                rw [hne, if_pos rfl]
                rw [if_pos ⟨c12, cf⟩] at hq
                unfold wp_X6_request_100 wp_X6_request_135
                rw [if_pos rfl, hk0.2.1.2.2.2.1, if_neg (by rw [n_60, nI_eq (by omega) (by omega)]; omega), if_neg (show ¬ (0 : Int32) ≤ -1 by decide), if_pos rfl]
                unfold wp_X6_request_136
                refine m_holds hk0.2 _ _ (fun _ S2 hk ht2 hg => ?_) (fun z => absurd rfl z)
                rw [if_pos rfl, if_pos rfl]
                have hk1 := hk0.tr hk
                have hN : nL a < 60 := by have := h.2.2.2.1; omega
                have hW1 : WF (xR (xL a i j (fnd a i j k)) (nL a) 1) := h.kLR hi hj hij hNW cf ⟨by omega, by omega⟩ c60 c12
                have hB2 : BwM S2 (fnd a i j k) := by
                  obtain ⟨B1, B2⟩ := hB
                  refine ⟨fun w t hw => ⟨?_, (B1 w t hw).2⟩, fun w v t hw => ⟨?_, (B2 w v t hw).2⟩⟩
                  · exact RepM.agI (B1 w t hw).1 (fun j => hg 384 j (by omega))
                  · exact RepM.agI (B2 w v t hw).1 (fun j => hg 385 j (by omega))
                refine m_makes h hk1.2 hW1 k2 hN hB2 ?_ _ (fun S3 hk3 ht3 => ?_)
                · rcases hcs with q | ⟨w, q, q2⟩ | ⟨w, v, q, q2⟩
                  · exact absurd q cf
                  · exact .inl ⟨w, q, q2⟩
                  · exact .inr ⟨w, v, q, q2⟩
                · rw [hk1.2.1.2.2.2.1]
                  refine m_170 (b := xL a i j (fnd a i j k)) hk3.2 _ _ _ (by rw [xL_nR]; exact c60) _ (fun S4 hk4 ht4 => ?_)
                  exact hO.1 _ _ S4 hq ((hk1.tr hk3).tr hk4) (by rw [ht4, ht3, ht2])
            · rw [if_pos (by simp (disch := omega) only [n_0, n_1, n_2, n_3, n_7, n_8, n_9, n_10, n_12, n_14, n_18, n_20, n_60, n_112, n_162, n_255, n_1000, nI_add, n_mul, nI_ltI, nI_leI, nI_eq, nI_clamp]; omega)]
              exact no S (KM.rf hI) (fun z => c60 z.2.1)
          · rw [if_pos (by simp (disch := omega) only [n_0, n_1, n_2, n_3, n_7, n_8, n_9, n_10, n_12, n_14, n_18, n_20, n_60, n_112, n_162, n_255, n_1000, nI_add, n_mul, nI_ltI, nI_leI, nI_eq, nI_clamp]; omega)]
            exact no S (KM.rf hI) (fun z => c12 z.1)
        · rw [hm] at hq
          dsimp only at hq
          have hl : l < nL a := by
            unfold rmf at hm
            exact List.mem_range.mp (List.mem_of_find?_eq_some hm)
          have hge : (0 : Int32) ≤ nI l := by rw [n_0, nI_leI (by omega) (by omega)]; omega
          rw [show uN (some l) = nI l from rfl, if_pos hge]
          unfold wp_X6_request_99 wp_X6_request_100 wp_X6_request_131 wp_X6_request_135
          rw [if_pos rfl, hI.1.2.2.2.1]
          by_cases c60 : nR a = 60
          · rw [if_pos (by rw [c60]; rfl)]
            rw [if_pos c60] at hq
            exact hbad S (KM.rf hI) 2 2 _ _ rfl (by decide) hq
          · rw [if_neg (by rw [n_60, nI_eq (by omega) (by omega)]; exact c60), if_pos hge]
            rw [if_neg c60] at hq
            unfold wp_X6_request_136
            refine m_holds hI _ _ (fun _ S2 hk ht2 hg => ?_) (fun z => absurd rfl z)
            rw [if_pos rfl, if_neg (by decide), hk.2.1.2.2.2.1]
            refine m_170 hk.2 _ _ _ (by omega) _ (fun S4 hk4 ht4 => ?_)
            exact hO.1 _ _ S4 hq (hk.tr hk4) (by rw [ht4, ht2])
