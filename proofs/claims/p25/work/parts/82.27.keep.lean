/-! THE PURE LAYER: the class keeps a way -/
section KEEP
variable {wl : Nat} {u : Nat → Nat} {c : Nat → Bool}
/-- the trail as the finder holds it -/
def TrC (S : St) (u : Nat → Nat) (c : Nat → Bool) (p : List (Nat × Nat)) : Prop := ∀ (i : Nat) (h : i < p.length), gI S 7 i = nI (p[i]'h).1 ∧ gI S 8 i = nI (u (p[i]'h).1) ∧ gI S 9 i = b2i (c (p[i]'h).2)
theorem TrC.ag {S S' : St} {p : List (Nat × Nat)} (h : TrC S u c p) (h7 : ceq S S' 7) (h8 : ceq S S' 8) (h9 : ceq S S' 9) : TrC S' u c p := by
  intro i hi
  rw [h7.1, h8.1, h9.1]
  exact h i hi
theorem wit_drop {p : List (Nat × Nat)} {i k : Nat} (hi : i < p.length) (hu : ∀ f, u f < 2 ^ wl) (hw : wl ≤ 8) (hk : k < 1000) :
    wit wl u c (p.drop i) k = u (p[i]'hi).1 &&& (if h : i + 1 < p.length then (if c (p[i + 1]'h).2 = true ∧ 0 < k ∧ wit wl u c (p.drop (i + 1)) (k - 1) ≠ 0 then 255 else wit wl u c (p.drop (i + 1)) k) else 255) := by
  rw [List.drop_eq_getElem_cons hi]
  by_cases h : i + 1 < p.length
  · rw [dif_pos h, List.drop_eq_getElem_cons h]
    exact wit_cons hu hw hk
  · rw [dif_neg h, List.drop_eq_nil_of_le (show p.length ≤ i + 1 by omega)]
    exact wit_one hu hw hk
theorem k_leading {S : St} {p : List (Nat × Nat)} {j k : Nat} (hl : p.length ≤ 7) (hT : TrC S u c p) (hj : j ≤ p.length) (hk : k < p.length) (hW : ∀ k, k < p.length → j < p.length → gI S (11 + j) k = nI (wit wl u c (p.drop j) k)) (P : Int32 → St → Prop)
    (hP : P (nI (if h : j < p.length then (if c (p[j]'h).2 = true ∧ 0 < k ∧ wit wl u c (p.drop j) (k - 1) ≠ 0 then 255 else wit wl u c (p.drop j) k) else 255)) S) : wp_X4_leadingOn S (nI j) (nI p.length) (nI k) P := by
  unfold wp_X4_leadingOn wp_X4_leadingOn_45
  by_cases h : j < p.length
  · rw [dif_pos h] at hP
    have hv : vp_in (nI j) 7 := vp_in_nI (by omega) (by omega)
    have hv2 : vp_in (nI k) 7 := vp_in_nI (by omega) (by omega)
    rw [if_neg (by simp (disch := omega) only [n_0, n_1, n_2, n_3, n_7, n_8, n_9, n_10, n_12, n_14, n_18, n_20, n_60, n_112, n_162, n_255, n_1000, nI_add, n_mul, nI_ltI, nI_leI, nI_eq, nI_clamp]; omega), if_pos (by simp (disch := omega) only [n_0, n_1, n_2, n_3, n_7, n_8, n_9, n_10, n_12, n_14, n_18, n_20, n_60, n_112, n_162, n_255, n_1000, nI_add, n_mul, nI_ltI, nI_leI, nI_eq, nI_clamp]; omega), nI_clamp (by omega), nI_clamp (by omega), (hT j h).2.2, hW k hk h]
    by_cases hk0 : k = 0
    · subst hk0
      rw [if_pos (by decide)]
      rw [if_neg (by omega)] at hP
      exact ⟨hv, hv2, hP⟩
    · rw [if_neg (by simp (disch := omega) only [n_0, n_1, n_2, n_3, n_7, n_8, n_9, n_10, n_12, n_14, n_18, n_20, n_60, n_112, n_162, n_255, n_1000, nI_add, n_mul, nI_ltI, nI_leI, nI_eq, nI_clamp]; omega)]
      refine ⟨hv, ?_⟩
      rcases hc : c (p[j]'h).2 with _ | _
      · rw [if_pos (by rfl)]
        rw [if_neg (by rw [hc]; simp)] at hP
        exact ⟨hv, hv2, hP⟩
      · rw [if_neg (by decide)]
        refine ⟨hv, by rw [n_1, n_sub (by omega)]; exact vp_in_nI (by omega) (by omega), ?_⟩
        rw [n_1, n_sub (by omega), nI_clamp (by omega), hW (k - 1) (by omega) h]
        have hlt := wit_lt (wl := wl) (u := u) (c := c) (p.drop j) (k - 1)
        by_cases hz : wit wl u c (p.drop j) (k - 1) = 0
        · rw [if_pos (by rw [hz]; rfl)]
          rw [if_neg (by intro q; exact q.2.2 hz)] at hP
          exact ⟨hv, hv2, hP⟩
        · rw [if_neg (by rw [n_eq0 (by omega)]; exact hz)]
          rw [if_pos ⟨hc, by omega, hz⟩] at hP
          exact hP
  · rw [dif_neg h] at hP
    rw [if_pos (by simp (disch := omega) only [n_0, n_1, n_2, n_3, n_7, n_8, n_9, n_10, n_12, n_14, n_18, n_20, n_60, n_112, n_162, n_255, n_1000, nI_add, n_mul, nI_ltI, nI_leI, nI_eq, nI_clamp]; omega)]
    exact hP
set_option maxRecDepth 8000 in
theorem k_count {S : St} {p : List (Nat × Nat)} (hl1 : 1 ≤ p.length) (hl : p.length ≤ 7) (hT : TrC S u c p) (hu : ∀ f, u f < 2 ^ wl) (hw : wl ≤ 8) (P : St → Prop)
    (hP : ∀ S', agr (fun q => ¬ (11 ≤ q ∧ q ≤ 17)) S S' → (∀ i k, i < p.length → k < p.length → gI S' (11 + i) k = nI (wit wl u c (p.drop i) k)) → P S') : wp_X4_countConversionsBackwards S (nI p.length) P := by
  have outer : ∀ (N m : Nat) (S' : St), m < N → m ≤ p.length → agr (fun q => ¬ (11 ≤ q ∧ q ≤ 17)) S S' → (∀ i k, m ≤ i → i < p.length → k < p.length → gI S' (11 + i) k = nI (wit wl u c (p.drop i) k)) → wp_X4_countConversionsBackwards_4 (nI p.length) P N S' (nI m + (-1)) := by
    intro N
    induction N with
    | zero => intro m S' h; omega
    | succ N ih =>
     intro m
     cases m with
     | zero =>
      intro S' _ _ hag hW
      rw [wp_X4_countConversionsBackwards_4]
      dsimp only
      rw [if_pos (by decide)]
      exact hP S' hag (fun i k => hW i k (Nat.zero_le _))
     | succ m =>
      intro S' hmN hm hag hW
      rw [wp_X4_countConversionsBackwards_4]
      dsimp only
      rw [n_m1 _ (by omega), Nat.add_sub_cancel, if_neg (nI_pos (by omega))]
      have inner : ∀ (n : Nat) (S2 : St) (k : Nat), k ≤ p.length → p.length < n + k → agr (fun q => ¬ (11 ≤ q ∧ q ≤ 17)) S S2 → (∀ i k, m + 1 ≤ i → i < p.length → k < p.length → gI S2 (11 + i) k = nI (wit wl u c (p.drop i) k)) → (∀ k2, k2 < k → gI S2 (11 + m) k2 = nI (wit wl u c (p.drop m) k2)) → wp_X4_countConversionsBackwards_10 (nI p.length) P (fun S a2 => wp_X4_countConversionsBackwards_4 (nI p.length) P N S a2) n S2 (nI m) (nI k) := by
        intro n
        induction n with
        | zero => intro S2 k h1 h2; omega
        | succ n ih2 =>
          intro S2 k h1 h2 hag2 hW2 hW3
          rw [wp_X4_countConversionsBackwards_10]
          dsimp only
          by_cases q : k = p.length
          · subst q
            rw [if_pos (by simp (disch := omega) only [n_0, n_1, n_2, n_3, n_7, n_8, n_9, n_10, n_12, n_14, n_18, n_20, n_60, n_112, n_162, n_255, n_1000, nI_add, n_mul, nI_ltI, nI_leI, nI_eq, nI_clamp]; omega)]
            unfold wp_X4_countConversionsBackwards_45
            rintro _ rfl
            have hm2 : m ≤ p.length := Nat.le_of_succ_le hm
            refine ih m S2 (Nat.lt_of_succ_lt_succ hmN) hm2 hag2 ?_
            intro i k hi hi2 hk
            by_cases q2 : i = m
            · subst q2; exact hW3 k hk
            · exact hW2 i k (by omega) hi2 hk
          · rw [if_neg (by simp (disch := omega) only [n_0, n_1, n_2, n_3, n_7, n_8, n_9, n_10, n_12, n_14, n_18, n_20, n_60, n_112, n_162, n_255, n_1000, nI_add, n_mul, nI_ltI, nI_leI, nI_eq, nI_clamp]; omega)]
            have hv : vp_in (nI m) 7 := vp_in_nI (by omega) (by omega)
            refine ⟨hv, hv, ?_⟩
            have hT2 : TrC S2 u c p := hT.ag (hag2 7 (by omega)) (hag2 8 (by omega)) (hag2 9 (by omega))
            rw [nI_1]
            refine k_leading (j := m + 1) hl hT2 (by omega) (by omega) (fun k hk hj => hW2 (m + 1) k (Nat.le_refl _) hj hk) _ ?_
            refine ⟨vp_in_nI (by omega) (by omega), ?_⟩
            have hmp : m < p.length := by omega
            rw [nI_clamp (by omega), nI_clamp (by omega), (hT2 m hmp).2.1, n_and]
            rintro _ rfl _ rfl
            rw [nI_1]
            refine ih2 _ (k + 1) (by omega) (by omega) (hag2.tr (agr_sI (by omega) _ _ _)) ?_ ?_
            · intro i k2 hi hi2 hk2
              rw [gI_n (by omega)]
              exact hW2 i k2 hi hi2 hk2
            · intro k2 hk2
              by_cases q2 : k2 = k
              · subst q2
                rw [gI_s, wit_drop hmp hu hw (by omega)]
              · rw [gI_n (by omega)]
                exact hW3 k2 (by omega)
      exact ⟨p.length + 1, inner _ S' 0 (by omega) (by omega) hag hW (fun k2 hk2 => absurd hk2 (Nat.not_lt_zero _))⟩
  unfold wp_X4_countConversionsBackwards
  rintro _ rfl
  obtain ⟨N, hN⟩ : ∃ N, p.length < N := ⟨_, Nat.lt_succ_self _⟩
  refine ⟨N, ?_⟩
  rw [show (nI p.length : Int32) - 1 = nI p.length + (-1) by rw [n_m1 _ hl1, n_1, n_sub hl1]]
  exact outer N p.length S hN (Nat.le_refl _) (agr.rf _ _) (fun i k h1 h2 _ => absurd h2 (Nat.not_lt.mpr h1))
theorem chs_cons (f v w : Nat) (r : List (Nat × Nat)) : chs wl u c ((f, v) :: r) w = (10 * f + w) :: chs wl u c r (nxt wl u c r (cst wl u c ((f, v) :: r) w) w) := rfl
/-- the candidates' set gives the next wavelength -/
theorem cand {f v f' v' w : Nat} {r : List (Nat × Nat)} (hu : ∀ f, u f < 2 ^ wl) (hw : wl ≤ 8) (h : cst wl u c ((f, v) :: (f', v') :: r) w < 1000) (q : Nat → Bool)
    (hq : ∀ x, x < 8 → (q x = true ↔ (x = w ∧ cst wl u c ((f', v') :: r) x ≤ cst wl u c ((f, v) :: (f', v') :: r) w) ∨ (c v' = true ∧ 0 < cst wl u c ((f, v) :: (f', v') :: r) w ∧ cst wl u c ((f', v') :: r) x ≤ cst wl u c ((f, v) :: (f', v') :: r) w - 1))) :
    low 8 q = nxt wl u c ((f', v') :: r) (cst wl u c ((f, v) :: (f', v') :: r) w) w := by
  have h2 := (cst_le (wl := wl) (u := u) (c := c) (f := f) (v := v) (w := w) (k := cst wl u c ((f, v) :: (f', v') :: r) w) (f' := f') (v' := v') (r := r) h).mp (Nat.le_refl _)
  have hmin : cst wl u c ((f, v) :: (f', v') :: r) w ≤ cst wl u c ((f', v') :: r) w ∧ (c v' = true → ∀ x, x < wl → cst wl u c ((f, v) :: (f', v') :: r) w ≤ cst wl u c ((f', v') :: r) x + 1) := by
    rw [cst_two, if_pos h2.1]
    by_cases hc : c v' = true
    · rw [if_pos hc]
      exact ⟨mnl_b _ _ _, fun _ x hx => mnl_x (fun x => cst wl u c ((f', v') :: r) x + 1) _ hx⟩
    · rw [if_neg hc]
      exact ⟨Nat.le_refl _, fun z => absurd z hc⟩
  obtain ⟨x, hx1, hx2⟩ := nxt_spec hu h
  have hl : cst wl u c ((f, v) :: (f', v') :: r) w < 1000 := h
  generalize hcur : cst wl u c ((f, v) :: (f', v') :: r) w = cur at *
  unfold nxt
  refine low_same hw (x := x) hx1 (by rw [beq_iff_eq]; exact hx2) ?_
  intro y hy
  rw [Bool.eq_iff_iff, hq y hy, Bool.and_eq_true, decide_eq_true_iff, beq_iff_eq]
  constructor
  · rintro (⟨rfl, h3⟩ | ⟨h3, h4, h5⟩)
    · have := hmin.1
      refine ⟨cst_lt (c := c) (r := (f', v') :: r) (by simp) hu (by omega), ?_⟩
      rw [if_pos rfl]; omega
    · have hy2 : y < wl := cst_lt (c := c) (r := (f', v') :: r) (by simp) hu (by omega)
      have := hmin.2 h3 y hy2
      refine ⟨hy2, ?_⟩
      by_cases z : y = w
      · subst z; have := hmin.1; omega
      · rw [if_neg z, if_pos h3]; omega
  · rintro ⟨h3, h4⟩
    by_cases z : y = w
    · subst z; rw [if_pos rfl] at h4; exact .inl ⟨rfl, by omega⟩
    · rw [if_neg z] at h4
      by_cases hc : c v' = true
      · rw [if_pos hc] at h4; exact .inr ⟨hc, by omega, by omega⟩
      · rw [if_neg hc] at h4; omega
end KEEP
