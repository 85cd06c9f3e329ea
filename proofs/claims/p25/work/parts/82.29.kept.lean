/-! THE PURE LAYER: what the class keeps for a trail -/
section KEPT
variable {wl : Nat} {u : Nat → Nat} {c : Nat → Bool}
theorem chs_all (hu : ∀ f, u f < 2 ^ wl) (hw : wl ≤ 8) : ∀ (r : List (Nat × Nat)) (f v w : Nat), cst wl u c ((f, v) :: r) w < 1000 →
    (chs wl u c ((f, v) :: r) w).map (· / 10) = ((f, v) :: r).map (·.1) ∧ (∀ z ∈ chs wl u c ((f, v) :: r) w, z % 10 < wl ∧ (u (z / 10)).testBit (z % 10) = true) ∧ chg (chs wl u c ((f, v) :: r) w) = cst wl u c ((f, v) :: r) w := by
  intro r
  induction r with
  | nil =>
    intro f v w h
    have hwl := cst_lt (c := c) (by simp) hu h
    have hb := cst_bit h
    rw [chs_cons, show chs wl u c [] (nxt wl u c [] (cst wl u c [(f, v)] w) w) = [] from rfl]
    have e1 : (10 * f + w) / 10 = f := by omega
    have e2 : (10 * f + w) % 10 = w := by omega
    refine ⟨by simp [e1], ?_, ?_⟩
    · intro z hz
      rw [List.mem_singleton] at hz
      subst hz
      rw [e1, e2]; exact ⟨hwl, hb⟩
    · rw [cst_one, if_pos hb]; rfl
  | cons q r ih =>
    intro f v w h
    obtain ⟨f', v'⟩ := q
    have hwl := cst_lt (c := c) (by simp) hu h
    have hb := cst_bit h
    have hn := nxt_is hu h
    rw [chs_cons]
    generalize hx : nxt wl u c ((f', v') :: r) (cst wl u c ((f, v) :: (f', v') :: r) w) w = x at *
    have hfin : cst wl u c ((f', v') :: r) x < 1000 := by have := hn.2; omega
    obtain ⟨i1, i2, i3⟩ := ih f' v' x hfin
    have e1 : (10 * f + w) / 10 = f := by omega
    have e2 : (10 * f + w) % 10 = w := by omega
    have e3 : (10 * f' + x) % 10 = x := by have := hn.1; omega
    refine ⟨?_, ?_, ?_⟩
    · rw [List.map_cons, i1, e1]; rfl
    · intro z hz
      rcases List.mem_cons.mp hz with rfl | hz
      · rw [e1, e2]; exact ⟨hwl, hb⟩
      · exact i2 z hz
    · rw [chs_cons] at i3 ⊢
      rw [chg, e2, e3, i3]
      have := hn.2
      by_cases z : x = w
      · rw [if_pos z] at this
        rw [if_pos z.symm]; omega
      · rw [if_neg z] at this
        rw [if_neg (fun q => z q.symm)]
        by_cases z2 : c v' = true
        · rw [if_pos z2] at this; omega
        · rw [if_neg z2] at this; omega
theorem chs_256 (hu : ∀ f, u f < 2 ^ wl) (hw : wl ≤ 8) {p : List (Nat × Nat)} (hf : ∀ q ∈ p, q.1 < 14) {w : Nat} (h : cst wl u c p w < 1000) : ∀ z ∈ chs wl u c p w, z / 10 < 14 ∧ z % 10 < 8 := by
  intro z hz
  cases p with
  | nil => simp [chs] at hz
  | cons q r =>
    obtain ⟨f, v⟩ := q
    obtain ⟨h1, h2, _⟩ := chs_all hu hw r f v w h
    refine ⟨?_, by have := (h2 z hz).1; omega⟩
    have : z / 10 ∈ (chs wl u c ((f, v) :: r) w).map (· / 10) := List.mem_map_of_mem hz
    rw [h1, List.mem_map] at this
    obtain ⟨q, hq1, hq2⟩ := this
    rw [← hq2]; exact hf q hq1
theorem chs_len (hu : ∀ f, u f < 2 ^ wl) (hw : wl ≤ 8) {p : List (Nat × Nat)} {w : Nat} (h : cst wl u c p w < 1000) : (chs wl u c p w).length = p.length := by
  cases p with
  | nil => rfl
  | cons q r =>
    obtain ⟨f, v⟩ := q
    have := congrArg List.length (chs_all hu hw r f v w h).1
    simpa using this
theorem k_take {S : St} {p : List (Nat × Nat)} {k len : Nat} (hl1 : 1 ≤ p.length) (hl : p.length ≤ 7) (hk : 19 ≤ k) (hT : TrC S u c p) (hf : ∀ q ∈ p, q.1 < 14) (hu : ∀ f, u f < 2 ^ wl) (hw : wl ≤ 8) (hm : mnl wl (cst wl u c p) 1000 < 1000)
    (hW : ∀ i k, i < p.length → k < p.length → gI S (11 + i) k = nI (wit wl u c (p.drop i) k)) (hR : RepC S k ([], len, mnl wl (cst wl u c p) 1000)) (P : St → Prop)
    (hP : ∀ S', agr (fun q => q ≠ k) S S' → RepC S' k (chs wl u c p (w0 wl u c p), len, mnl wl (cst wl u c p) 1000) → P S') :
    wp_X4_takeLowestWavelengths S k (nI p.length) (nI (mnl wl (cst wl u c p) 1000)) P := by
  obtain ⟨hw0, hc0⟩ := w0_is hm
  have hfin := cst_fin (wl := wl) (u := u) (c := c) (r := p) (w := w0 wl u c p) (by omega)
  unfold wp_X4_takeLowestWavelengths
  have e0 : ((0 : Int32).toNatClampNeg) = 0 := rfl
  have hv : vp_in (0 : Int32) 7 := vp_in_nI (n := 0) (by omega) (by omega)
  refine ⟨hv, vp_in_nI (by omega) (by omega), ?_⟩
  have hwd := hW 0 (mnl wl (cst wl u c p) 1000) (by omega) (by omega)
  rw [List.drop_zero] at hwd
  rw [nI_clamp (by omega), e0, hwd]
  have hlt := wit_lt (wl := wl) (u := u) (c := c) p (mnl wl (cst wl u c p) 1000)
  refine k_lowestIn _ (fun j => (wit wl u c p (mnl wl (cst wl u c p) 1000)).testBit j) (fun j hj => n_bit0 (by omega) (by omega)) _ ?_
  have hlow : low 8 (fun j => (wit wl u c p (mnl wl (cst wl u c p) 1000)).testBit j) = w0 wl u c p := by
    unfold w0
    refine low_same hw (x := w0 wl u c p) hw0 (by rw [beq_iff_eq]; exact hc0) ?_
    intro y hy
    rw [wit_bit hy, Bool.eq_iff_iff, Bool.and_eq_true, decide_eq_true_iff, decide_eq_true_iff, beq_iff_eq]
    constructor
    · intro z
      have hy2 : y < wl := cst_lt (c := c) (r := p) (fun q => by rw [q] at hl1; simp at hl1) hu (by omega)
      exact ⟨hy2, Nat.le_antisymm z (mnl_x _ _ hy2)⟩
    · rintro ⟨_, z⟩; omega
  rw [hlow]
  refine ⟨hv, ?_⟩
  rw [(hT 0 (by omega)).1]
  refine k_append hR (by simp) (by simp) (hf _ (List.getElem_mem _)) (by omega) _ ?_
  intro S' hag hR'
  obtain ⟨N, hN⟩ : ∃ N, p.length < N := ⟨_, Nat.lt_succ_self _⟩
  refine ⟨N, ?_⟩
  have hd0 : p.drop 0 = (p[0]'(by omega)) :: p.drop 1 := List.drop_eq_getElem_cons (by omega)
  rw [List.drop_zero] at hd0
  have h0 : p.drop (1 - 1) = p := rfl
  have hWS' : ∀ i k, i < p.length → k < p.length → gI S' (11 + i) k = nI (wit wl u c (p.drop i) k) := by
    intro i k2 hi hk2
    rw [(hag (11 + i) (by omega)).1]
    exact hW i k2 hi hk2
  have hfull : ∀ z ∈ chs wl u c p (w0 wl u c p), z < 256 := fun z hz => by have := chs_256 hu hw hf (w := w0 wl u c p) (by omega) z hz; omega
  have := k_takeLoop (S := S') (p := p) (k := k) (len := len) (cvs := mnl wl (cst wl u c p) 1000) hl hk (hT.ag (hag 7 (by omega)) (hag 8 (by omega)) (hag 9 (by omega))) hf hu hw (nI (mnl wl (cst wl u c p) 1000)) hWS' P
    (chs wl u c p (w0 wl u c p)) hfull (fun S2 hag2 hR2 => hP S2 (hag.tr hag2) hR2)
    N 1 S' (w0 wl u c p) _ (Nat.le_refl _) hl1 (by omega) (agr.rf _ _) hR' rfl (by omega) (by rw [h0]; omega) (by
      rw [h0]
      show [] ++ [_] ++ _ = _
      have e : chs wl u c p (w0 wl u c p) = (10 * (p[0]'(by omega)).1 + w0 wl u c p) :: chs wl u c (p.drop 1) (nxt wl u c (p.drop 1) (cst wl u c p (w0 wl u c p)) (w0 wl u c p)) := by
        have : ∀ (p : List (Nat × Nat)) (h : 0 < p.length) (w : Nat), chs wl u c p w = (10 * (p[0]'h).1 + w) :: chs wl u c (p.drop 1) (nxt wl u c (p.drop 1) (cst wl u c p w) w) := by
          intro p h w
          cases p with
          | nil => simp at h
          | cons q r => obtain ⟨f, v⟩ := q; rfl
        exact this p _ _
      rw [e]; rfl)
  rw [h0, hc0] at this
  exact this
/-- what the finder has kept -/
def KpC (S : St) (K : List Wy) : Prop := gI S 5 12 = nI K.length ∧ ∀ (i : Nat) (h : i < K.length), RepC S (19 + i) (K[i]'h) ∧ SW (K[i]'h)
theorem k_keep {S : St} {a : Ab} {p : List (Nat × Nat)} {K : List Wy} {W : Wy} (hl1 : 1 ≤ p.length) (hl : p.length ≤ 7) (hT : TrC S u c p) (hf : ∀ q ∈ p, q.1 < 14) (hu : ∀ f, u f < 2 ^ nW a) (hw : nW a ≤ 8) (hlay : lay a u c p = some W) (hlen : lenOf a p ≤ 7000)
    (hK : KpC S K) (hKl : K.length < 162) (P : St → Prop)
    (hP : ∀ S', agr (fun q => q ≠ 5 ∧ ¬ (11 ≤ q ∧ q ≤ 17) ∧ ¬ (19 ≤ q ∧ q ≤ 180)) S S' → (∀ j, j ≠ 12 → gI S' 5 j = gI S 5 j) → (∀ j, gR S' 5 j = gR S 5 j) → KpC S' (K ++ [W]) → P S') :
    wp_X4_keep S (nI p.length) (nI (lenOf a p)) P := by
  unfold wp_X4_keep
  unfold lay at hlay
  by_cases hm : mnl (nW a) (cst (nW a) u c p) 1000 < 1000
  · rw [if_pos hm] at hlay
    have hW := Option.some.inj hlay
    obtain ⟨hw0, hc0⟩ := w0_is hm
    have hfin := cst_fin (wl := nW a) (u := u) (c := c) (r := p) (w := w0 (nW a) u c p) (by omega)
    rw [hK.1, if_neg (by simp (disch := omega) only [n_0, n_1, n_2, n_3, n_7, n_8, n_9, n_10, n_12, n_14, n_18, n_20, n_60, n_112, n_162, n_255, n_1000, nI_add, n_mul, nI_ltI, nI_leI, nI_eq, nI_clamp]; omega), if_neg (by simp (disch := omega) only [n_0, n_1, n_2, n_3, n_7, n_8, n_9, n_10, n_12, n_14, n_18, n_20, n_60, n_112, n_162, n_255, n_1000, nI_add, n_mul, nI_ltI, nI_leI, nI_eq, nI_clamp]; omega), if_pos (by simp (disch := omega) only [n_0, n_1, n_2, n_3, n_7, n_8, n_9, n_10, n_12, n_14, n_18, n_20, n_60, n_112, n_162, n_255, n_1000, nI_add, n_mul, nI_ltI, nI_leI, nI_eq, nI_clamp]; omega)]
    refine k_count (c := c) hl1 hl hT hu hw _ ?_
    intro S1 hag1 hW1
    have h5 := hag1 5 (by omega)
    generalize hmm : mnl (nW a) (cst (nW a) u c p) 1000 = m at *
    have hend : wp_X4_keep_53 (nI p.length) (nI (lenOf a p)) P S1 (nI m) := by
      unfold wp_X4_keep_53
      rw [h5.1, hK.1]
      refine ⟨vp_in_nI hKl (by omega), ?_⟩
      rintro _ rfl
      rw [nI_clamp (by omega), nI_1]
      refine k_wstart _ ?_
      intro S2 hag2 hR2
      have hag12 : agr (fun q => q ≠ 5 ∧ ¬ (11 ≤ q ∧ q ≤ 17) ∧ q ≠ 19 + K.length) S S2 := ((hag1.mo (fun q hq => hq.2.1)).tr (agr_sI (by omega) _ _ _)).tr (hag2.mo (fun q hq => hq.2.2))
      have hW2 : ∀ i k, i < p.length → k < p.length → gI S2 (11 + i) k = nI (wit (nW a) u c (p.drop i) k) := by
        intro i k hi hk
        rw [(hag2 (11 + i) (by omega)).1, gI_n (by omega)]
        exact hW1 i k hi hk
      have := k_take (S := S2) (c := c) (p := p) (k := 19 + K.length) (len := lenOf a p) hl1 hl (by omega) (hT.ag (hag12 7 (by omega)) (hag12 8 (by omega)) (hag12 9 (by omega))) hf hu hw (by omega) hW2 (by rw [hmm]; exact hR2) P
      rw [hmm] at this
      apply this
      intro S3 hag3 hR3
      have hag13 : agr (fun q => q ≠ 5 ∧ ¬ (11 ≤ q ∧ q ≤ 17) ∧ q ≠ 19 + K.length) S S3 := hag12.tr (hag3.mo (fun q hq => hq.2.2))
      have e5 : ∀ j, gI S3 5 j = if j = 12 then nI (K.length + 1) else gI S 5 j := by
        intro j
        rw [(hag3 5 (by omega)).1, (hag2 5 (by omega)).1]
        by_cases hj : j = 12
        · subst hj; rw [gI_s, if_pos rfl]
        · rw [gI_n (by omega), h5.1, if_neg hj]
      refine hP S3 (hag13.mo (fun q hq => ⟨hq.1, hq.2.1, by omega⟩)) (fun j hj => by rw [e5, if_neg hj]) (fun j => by rw [(hag3 5 (by omega)).2.2.1, (hag2 5 (by omega)).2.2.1, gR_sI, h5.2.2.1]) ⟨?_, ?_⟩
      · rw [e5, if_pos rfl, List.length_append]; rfl
      · intro i hi
        rw [List.length_append] at hi
        by_cases q : i < K.length
        · rw [List.getElem_append_left q]
          exact ⟨(hK.2 i q).1.ag (hag13 (19 + i) (by omega)), (hK.2 i q).2⟩
        · have hi2 : i = K.length := by simp at hi; omega
          subst hi2
          rw [List.getElem_append_right (Nat.le_refl _)]
          simp only [Nat.sub_self, List.getElem_cons_zero]
          rw [← hW]
          refine ⟨hR3, ?_, ?_, hlen, ?_⟩
          · show (chs _ _ _ _ _).length ≤ 7
            rw [chs_len hu hw (by omega)]; exact hl
          · exact chs_256 hu hw hf (by omega)
          · show m ≤ 7
            omega
    have key : ∀ n i : Nat, i ≤ m → m < n + i → wp_X4_keep_29 (nI p.length) (nI (lenOf a p)) P n S1 (nI i) := by
      intro n
      induction n with
      | zero => intro i h1 h2; omega
      | succ n ih =>
        intro i h1 h2
        rw [wp_X4_keep_29]
        dsimp only
        rw [n_1, n_sub hl1]
        by_cases q : p.length - 1 ≤ i
        · rw [if_pos (by simp (disch := omega) only [n_0, n_1, n_2, n_3, n_7, n_8, n_9, n_10, n_12, n_14, n_18, n_20, n_60, n_112, n_162, n_255, n_1000, nI_add, n_mul, nI_ltI, nI_leI, nI_eq, nI_clamp]; omega)]
          have : i = m := by omega
          rw [this]; exact hend
        · rw [if_neg (by simp (disch := omega) only [n_0, n_1, n_2, n_3, n_7, n_8, n_9, n_10, n_12, n_14, n_18, n_20, n_60, n_112, n_162, n_255, n_1000, nI_add, n_mul, nI_ltI, nI_leI, nI_eq, nI_clamp]; omega)]
          refine ⟨vp_in_nI (n := 0) (by omega) (by omega), vp_in_nI (by omega) (by omega), ?_⟩
          have e0 : ((0 : Int32).toNatClampNeg) = 0 := rfl
          have hwd := hW1 0 i (by omega) (by omega)
          rw [List.drop_zero] at hwd
          rw [nI_clamp (by omega), e0, hwd]
          have hlt := wit_lt (wl := nW a) (u := u) (c := c) p i
          have hz := wit_z (wl := nW a) (u := u) (c := c) (r := p) (fun q => by rw [q] at hl1; simp at hl1) hu hw (k := i) (by omega)
          by_cases q2 : i = m
          · rw [if_neg]
            · rw [q2]; exact hend
            · rw [n_eq0 (by omega), hz]
              intro z
              exact z ⟨_, hw0, by omega⟩
          · rw [if_pos]
            · rintro _ rfl
              rw [← n_1, nI_1]
              exact ih (i + 1) (by omega) (by omega)
            · rw [n_eq0 (by omega), hz]
              rintro ⟨x, hx, hx2⟩
              have := mnl_x (cst (nW a) u c p) 1000 hx
              omega
    obtain ⟨N, hN⟩ : ∃ N, m < N := ⟨_, Nat.lt_succ_self _⟩
    exact ⟨N, key N 0 (by omega) (by omega)⟩
  · rw [if_neg hm] at hlay; cases hlay
end KEPT
