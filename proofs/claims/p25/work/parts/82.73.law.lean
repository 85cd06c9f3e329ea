/-! THE PURE LAYER: the law itself -/
theorem l_cell {S : St} {xs : Nat → Int32} {L : Nat} (hL : L ≤ 260) {k : Nat} (hk : k < 100) (P : Int32 → St → Prop) (hP : ∀ v, P v S) : wp_L_cell S L xs (nI k) P := by
  unfold wp_L_cell
  by_cases c : L ≤ k
  · rw [if_pos (by rw [nI_leI (by omega) (by omega)]; exact c)]
    exact hP _
  · rw [if_neg (by rw [nI_leI (by omega) (by omega)]; exact c)]
    exact ⟨vp_in_nI (by omega) (by omega), hP _⟩
/-- what both objects keep -/
def LC (S T : St) (a : Ab) : Prop := JC S a ∧ JC T a ∧ WF a ∧ WD a ∧ 1 ≤ nF a
theorem f_374 (xs : Nat → Int32) (L : Nat) {S T : St} {a : Ab} (h : LC S T a) : wp_L_law_374 xs L S T true := by
  obtain ⟨hS, hT, hw, hd, hn⟩ := h
  unfold wp_L_law_374
  rw [if_pos rfl]
  refine l_alike hw (by omega) hS hT _ (fun S1 T1 hS1 hT1 => ?_)
  rw [if_pos rfl]
  refine l_lightsSo hw hd hS1 _ (fun S2 hS2 => ?_)
  rw [if_pos rfl]
  refine l_need hw hS2 _ (fun S3 hS3 => ?_)
  rw [if_pos rfl]
  trivial
theorem f_231 (xs : Nat → Int32) (L : Nat) (K : St → St → Int32 → Bool → Int32 → Prop) {S T : St} {a : Ab} (h : LC S T a) {n k : Nat} (hn : 3 ≤ n ∧ n ≤ 8) (v : Int32) (hK : ∀ S T b, LC S T b → K S T (nI n) true (nI (k + 1))) : wp_L_law_231 xs L K S T (nI n) (nI k) v := by
  have f368 : ∀ S T b, LC S T b → wp_L_law_368 xs L K S T (nI n) true (nI k) := by
    intro S T b h
    unfold wp_L_law_368
    rintro _ rfl
    rw [nI_1]
    exact hK S T b h
  have f313 : ∀ S T, LC S T a → wp_L_law_313 xs L K S T (nI n) (nI k) v := by
    intro S T h
    have hl := h.2.2.1.n60
    unfold wp_L_law_313 wp_L_law_318
    split
    · refine l_lights h.1 _ ?_
      by_cases c : nL a = 0
      · rw [if_pos (by rw [n_0, nI_leI (by omega) (by omega)]; omega)]
        exact f368 S T a h
      · rw [if_neg (by rw [n_0, nI_leI (by omega) (by omega)]; omega), if_pos rfl]
        refine l_lights h.1 _ ?_
        refine l_low _ _ rfl (by omega) (by omega) _ ?_
        refine l_reroute2 h.2.2.1 h.2.2.2.1 h.1 h.2.1 (lw_lt _ (by omega)) _ (fun S1 T1 b hS1 hT1 hw hd hf => ?_)
        rw [if_pos rfl]
        unfold wp_L_law_366
        exact f368 S1 T1 b ⟨hS1, hT1, hw, hd, Nat.le_trans h.2.2.2.2 hf⟩
    · exact f368 S T a h
  have f278 : ∀ S T, LC S T a → wp_L_law_278 xs L K S T (nI n) (nI k) v := by
    intro S T h
    unfold wp_L_law_278
    split
    · refine l_low _ _ rfl (by omega) (by omega) _ ?_
      refine l_low _ _ rfl (by omega) (by omega) _ ?_
      refine ⟨nI_ne0 (by omega) (by omega), ?_⟩
      refine l_told h.2.2.1 h.1 _ _ _ (fun S1 hS1 => ?_)
      rw [if_pos rfl]
      exact f313 S1 T ⟨hS1, h.2⟩
    · exact f313 S T h
  have f262 : ∀ S T, LC S T a → wp_L_law_262 xs L K S T (nI n) (nI k) v := by
    intro S T h
    unfold wp_L_law_262
    split
    · refine l_need h.2.2.1 h.1 _ (fun S1 hS1 => ?_)
      rw [if_pos rfl]
      exact f278 S1 T ⟨hS1, h.2⟩
    · exact f278 S T h
  have f247 : ∀ S T, LC S T a → wp_L_law_247 xs L K S T (nI n) (nI k) v := by
    intro S T h
    unfold wp_L_law_247
    split
    · refine l_lightsSo h.2.2.1 h.2.2.2.1 h.1 _ (fun S1 hS1 => ?_)
      rw [if_pos rfl]
      exact f262 S1 T ⟨hS1, h.2⟩
    · exact f262 S T h
  unfold wp_L_law_231
  split
  · have := h.2.2.2.2
    refine l_alike h.2.2.1 (by omega) h.1 h.2.1 _ (fun S1 T1 hS1 hT1 => ?_)
    rw [if_pos rfl]
    exact f247 S1 T1 ⟨hS1, hT1, h.2.2⟩
  · exact f247 S T h
theorem f_183 (xs : Nat → Int32) {L : Nat} (hL : L ≤ 260) {n : Nat} (hn : 3 ≤ n ∧ n ≤ 8) : ∀ (N k : Nat) (S T : St) (a : Ab), LC S T a → k ≤ 72 → 72 < N + k → wp_L_law_183 xs L N S T (nI n) true (nI k) := by
  intro N
  induction N with
  | zero => intro k S T a _ h1 h2; omega
  | succ N ih =>
    intro k S T a h h1 h2
    rw [wp_L_law_183]
    dsimp only
    by_cases c : k = 72
    · rw [if_pos (by rw [show (72 : Int32) = nI 72 from rfl, nI_leI (by omega) (by omega)]; omega)]
      exact f_374 xs L h
    · rw [if_neg (by rw [show (72 : Int32) = nI 72 from rfl, nI_leI (by omega) (by omega)]; omega), if_pos rfl]
      refine l_cell hL (by omega) _ (fun v => ?_)
      obtain ⟨hS, hT, hw, hd, hf⟩ := h
      obtain ⟨r, b, ⟨g1, g2, g3, g4⟩, hA⟩ := l_act hw hd hn v
      refine hA S hS _ (fun S1 hS1 => ?_)
      have next : ∀ S T b, LC S T b → wp_L_law_183 xs L N S T (nI n) true (nI (k + 1)) := fun S T b h => ih (k + 1) S T b h (by omega) (by omega)
      by_cases z : r = -99999
      · rw [if_pos z]
        have e := g1 z
        rw [e] at hS1
        exact f_231 xs L _ ⟨hS1, hT, hw, hd, hf⟩ hn v next
      · rw [if_neg z]
        refine hA T hT _ (fun T1 hT1 => ?_)
        rw [if_pos rfl]
        exact f_231 xs L _ ⟨hS1, hT1, g2, g3, Nat.le_trans hf g4⟩ hn v next
theorem rg_len : ∀ r, r < 9 → rg (nI (1 + r)) 1 1000 = true := by decide +kernel
theorem add_ok {a : Ab} {x y r : Nat} (hx : x < nD a) (hy : y < nD a) (hxy : x ≠ y) (hn : nD a ≤ 8) (hr : r < 9) (hf : nF a < 14) : q_addFibre a (nI x) (nI y) (nI (1 + r)) = .ok (nI (nF a), xF a x y (1 + r)) := by
  unfold q_addFibre two
  rw [if_pos (by rw [isn_i hx (by omega), isn_i hy (by omega), rg_len r hr, show decide (nI x = nI y) = false by rw [decide_eq_false_iff_not, nI_eq (by omega) (by omega)]; exact hxy]; rfl), if_neg (by omega), tN_nI (by omega), tN_nI (by omega), tN_nI (by omega)]
theorem f_65 (xs : Nat → Int32) {L : Nat} (hL : L ≤ 260) {n : Nat} (hn : 3 ≤ n ∧ n ≤ 8) : ∀ (N k : Nat) (S T : St) (a : Ab), JC S a → JC T a → WF a → WD a → nD a = n → nF a + 1 = k → k ≤ 7 → 7 < N + k → wp_L_law_65 xs L N S T (nI n) true (nI k) := by
  intro N
  induction N with
  | zero => intro k S T a _ _ _ _ _ _ h1 h2; omega
  | succ N ih =>
    intro k S T a hS hT hw hd hD hk h1 h2
    rw [wp_L_law_65]
    dsimp only
    by_cases c : k = 7
    · rw [if_pos (by rw [show (7 : Int32) = nI 7 from rfl, nI_leI (by omega) (by omega)]; omega)]
      unfold wp_L_law_179
      exact ⟨66, by omega, f_183 xs hL hn 66 7 S T a ⟨hS, hT, hw, hd, by omega⟩ (by omega) (by omega)⟩
    · rw [if_neg (by rw [show (7 : Int32) = nI 7 from rfl, nI_leI (by omega) (by omega)]; omega)]
      refine l_cell hL (by omega) _ (fun v => ?_)
      refine l_low _ _ rfl (by omega) (by omega) _ ?_
      have e1 : nI n - 1 = nI (n - 1) := n_sub (a := n) (b := 1) (by omega)
      refine l_low (m := n - 1) _ _ e1 (by omega) (by omega) _ ?_
      have ho : lw v n < n := lw_lt v (by omega)
      have hr : lw (v >>> (3 &&& 31)) (n - 1) < n - 1 := lw_lt _ (by omega)
      generalize lw v n = x at *
      generalize lw (v >>> (3 &&& 31)) (n - 1) = z at *
      refine ⟨nI_ne0 (by omega) (by omega), ?_⟩
      rintro _ rfl
      have hy : (x + 1 + z) % n < n := Nat.mod_lt _ (by omega)
      have hxy : x ≠ (x + 1 + z) % n := by
        rcases Nat.lt_or_ge (x + 1 + z) n with q | q
        · rw [Nat.mod_eq_of_lt q]; omega
        · rw [Nat.mod_eq_sub_mod q, Nat.mod_eq_of_lt (by omega)]; omega
      rw [show nI x + 1 + nI z = nI (x + 1 + z) by rw [nI_1, nI_add], n_rem (by omega) (by omega)]
      generalize (x + 1 + z) % n = y at *
      rw [if_pos rfl]
      refine l_low (m := 9) _ _ rfl (by omega) (by omega) _ ?_
      have hl : lw (v >>> (6 &&& 31)) 9 < 9 := lw_lt _ (by omega)
      generalize hg : lw (v >>> (6 &&& 31)) 9 = r at *
      rw [show 1 + nI r = nI (1 + r) from nI_add 1 r]
      have hq := add_ok (a := a) (x := x) (y := y) (r := r) (by omega) (by omega) hxy (by omega) hl (by omega)
      have e2 : nI k - 1 = nI (nF a) := by rw [← hk]; exact n_sub (a := nF a + 1) (b := 1) (by omega)
      have hG := gd_addFibre hw hd (nI x) (nI y) (nI (1 + r))
      refine la_add hw hS _ _ _ _ (fun S1 hS1 => ?_)
      rw [hq] at hS1 hG ⊢
      show (if nI (nF a) = nI k - 1 then _ else _)
      rw [if_pos e2.symm]
      refine l_low (m := 9) _ _ rfl (by omega) (by omega) _ ?_
      rw [hg, show 1 + nI r = nI (1 + r) from nI_add 1 r]
      refine la_add hw hT _ _ _ _ (fun T1 hT1 => ?_)
      rw [hq] at hT1 ⊢
      show (if nI (nF a) = nI k - 1 then _ else _)
      rw [if_pos e2.symm]
      unfold wp_L_law_171
      rintro _ rfl
      rw [nI_1]
      exact ih (k + 1) S1 T1 (xF a x y (1 + r)) hS1 hT1 hG.2.1 hG.2.2.1 hD (by rw [xF_nF]; omega) (by omega) (by omega)
theorem rg_n : ∀ n, n < 9 → 2 ≤ n → rg (nI n) 2 8 = true := by decide +kernel
theorem rg_w : ∀ n, n < 9 → 1 ≤ n → rg (nI n) 1 8 = true := by decide +kernel
theorem f_16 (xs : Nat → Int32) {L : Nat} (hL : L ≤ 260) {S T : St} {a : Ab} (hS : JC S a) (hT : JC T a) : wp_L_law_16 xs L S T := by
  unfold wp_L_law_16
  rw [show (0 : Int32) = nI 0 from rfl]
  refine l_cell hL (by omega) _ (fun v => ?_)
  refine l_low (m := 6) _ _ rfl (by omega) (by omega) _ ?_
  rintro _ rfl
  refine l_cell hL (by omega) _ (fun v2 => ?_)
  refine l_low (m := 8) _ _ rfl (by omega) (by omega) _ ?_
  rintro _ rfl
  have h1 : lw v 6 < 6 := lw_lt _ (by omega)
  have h2 : lw (v2 >>> (4 &&& 31)) 8 < 8 := lw_lt _ (by omega)
  generalize lw v 6 = x at *
  generalize lw (v2 >>> (4 &&& 31)) 8 = w at *
  rw [show 3 + nI x = nI (3 + x) from nI_add 3 x, show 1 + nI w = nI (1 + w) from nI_add 1 w]
  have hq : q_begin (nI (3 + x)) (nI (1 + w)) = .ok ((), xB (3 + x) (1 + w)) := by
    unfold q_begin
    rw [rg_n _ (by omega) (by omega), rg_w _ (by omega) (by omega), if_pos (show (true && true) = true from rfl), tN_nI (by omega), tN_nI (by omega)]
  refine k_begin hS.1 hS.2 _ _ _ _ (o_ok hq (fun S1 hS1 => ?_))
  refine k_begin hT.1 hT.2 _ _ _ _ (o_ok hq (fun T1 hT1 => ?_))
  exact ⟨7, by omega, f_65 xs hL (n := 3 + x) ⟨by omega, by omega⟩ 7 1 S1 T1 _ hS1 hT1 (WF.kB ⟨by omega, by omega⟩ ⟨by omega, by omega⟩) (fun l hl => absurd hl (by rw [xB_nL]; omega)) rfl rfl (by omega) (by omega)⟩
