/-! THE PURE LAYER: the class finds a way -/
theorem pick_snoc (l : List Wy) (x : Wy) : pick (l ++ [x]) = pk1 (pick l) x := by unfold pick; rw [List.foldl_append]; rfl
theorem pick_take {K : List Wy} {i : Nat} (h : i < K.length) : pick (K.take (i + 1)) = pk1 (pick (K.take i)) (K[i]'h) := by
  rw [List.take_add_one, List.getElem?_eq_getElem h]
  exact pick_snoc _ _
/-- first and second, after one way was looked for -/
def FsC (S : St) (r : Option Wy) : Prop := gR S 5 1 = none ∧ (r = none → gR S 5 0 = none) ∧ (∀ w, r = some w → ∃ q, gR S 5 0 = some q ∧ 19 ≤ q ∧ q ≤ 180 ∧ RepC S q w ∧ SW w)
theorem k_pick {S : St} {K : List Wy} (hK : KpC S K) (hl : K.length ≤ 162) (P : St → Prop) (hP : ∀ S', agr (fun q => q ≠ 5) S S' → (∀ j, gI S' 5 j = gI S 5 j) → FsC S' (pick K) → P S') : wp_X4_pickFirst S P := by
  unfold wp_X4_pickFirst
  rintro _ rfl S1 hS1
  have ha1 : agr (fun q => q ≠ 5) S S1 := by subst hS1; exact (agr_sR (by simp) _ _ _).tr (agr_sR (by simp) _ _ _)
  have hi1 : ∀ j, gI S1 5 j = gI S 5 j := by subst hS1; intro j; rfl
  have h01 : gR S1 5 0 = none := by subst hS1; simp (disch := omega) only [gI_s, gJ_s, gR_s, gI_n, gJ_n, gR_n, gI_sJ, gI_sR, gI_sD, gJ_sI, gJ_sR, gJ_sD, gR_sI, gR_sJ, gR_sD]
  have h11 : gR S1 5 1 = none := by subst hS1; simp (disch := omega) only [gI_s, gJ_s, gR_s, gI_n, gJ_n, gR_n, gI_sJ, gI_sR, gI_sD, gJ_sI, gJ_sR, gJ_sD, gR_sI, gR_sJ, gR_sD]
  have key : ∀ (N i : Nat) (S' : St), i ≤ K.length → K.length < N + i → agr (fun q => q ≠ 5) S S' → (∀ j, gI S' 5 j = gI S 5 j) → gR S' 5 1 = none → (pick (K.take i) = none → gR S' 5 0 = none) → (∀ w, pick (K.take i) = some w → ∃ j, j < K.length ∧ gR S' 5 0 = some (19 + j) ∧ K[j]? = some w) → wp_X4_pickFirst_12 P N S' (nI i) := by
    intro N
    induction N with
    | zero => intro i S' h1 h2; omega
    | succ N ih =>
      intro i S' h1 h2 hag hi hr1 hn hs
      rw [wp_X4_pickFirst_12]
      dsimp only
      rw [hi, hK.1]
      by_cases q : i = K.length
      · rw [if_pos (by simp (disch := omega) only [n_0, n_1, n_2, n_3, n_7, n_8, n_9, n_10, n_12, n_14, n_18, n_20, n_60, n_112, n_162, n_255, n_1000, nI_add, n_mul, nI_ltI, nI_leI, nI_eq, nI_clamp]; omega)]
        subst q
        rw [List.take_length] at hn hs
        refine hP S' hag hi ⟨hr1, hn, ?_⟩
        intro w hw
        obtain ⟨j, g1, g2, g3⟩ := hs w hw
        rw [List.getElem?_eq_getElem g1] at g3
        have g3 := Option.some.inj g3
        have := hK.2 j g1
        rw [g3] at this
        exact ⟨19 + j, g2, by omega, by omega, this.1.ag (hag _ (by omega)), this.2⟩
      · have hil : i < K.length := by omega
        rw [if_neg (by simp (disch := omega) only [n_0, n_1, n_2, n_3, n_7, n_8, n_9, n_10, n_12, n_14, n_18, n_20, n_60, n_112, n_162, n_255, n_1000, nI_add, n_mul, nI_ltI, nI_leI, nI_eq, nI_clamp]; omega)]
        have hv : vp_in (nI i) 162 := vp_in_nI (by omega) (by omega)
        have hKi := hK.2 i hil
        have hpt := pick_take hil
        have take : pk1 (pick (K.take i)) (K[i]'hil) = some (K[i]'hil) → wp_X4_pickFirst_43 P (fun S a1 => wp_X4_pickFirst_12 P N S a1) S' (nI i) := by
          intro hz
          unfold wp_X4_pickFirst_43 wp_X4_pickFirst_53
          refine ⟨hv, ?_⟩
          rw [nI_clamp (by omega)]
          rintro S2 hS2 _ rfl
          rw [nI_1]
          refine ih (i + 1) S2 (by omega) (by omega) ?_ ?_ ?_ ?_ ?_
          · subst hS2; exact hag.tr (agr_sR (by simp) _ _ _)
          · subst hS2; intro j; exact hi j
          · subst hS2; simp (disch := omega) only [gI_s, gJ_s, gR_s, gI_n, gJ_n, gR_n, gI_sJ, gI_sR, gI_sD, gJ_sI, gJ_sR, gJ_sD, gR_sI, gR_sJ, gR_sD]; exact hr1
          · intro z; rw [hpt, hz] at z; cases z
          · intro w hw
            rw [hpt, hz] at hw
            refine ⟨i, hil, by subst hS2; simp (disch := omega) only [gI_s, gJ_s, gR_s, gI_n, gJ_n, gR_n, gI_sJ, gI_sR, gI_sD, gJ_sI, gJ_sR, gJ_sD, gR_sI, gR_sJ, gR_sD], ?_⟩
            rw [List.getElem?_eq_getElem hil]; exact hw
        have leave : ∀ w, pick (K.take i) = some w → pk1 (pick (K.take i)) (K[i]'hil) = some w → wp_X4_pickFirst_53 P (fun S a1 => wp_X4_pickFirst_12 P N S a1) S' (nI i) := by
          intro w hw hz
          unfold wp_X4_pickFirst_53
          rintro _ rfl
          rw [nI_1]
          refine ih (i + 1) S' (by omega) (by omega) hag hi hr1 ?_ ?_
          · intro z; rw [hpt, hz] at z; cases z
          · intro w2 hw2
            rw [hpt, hz] at hw2
            cases hw2
            exact hs w hw
        rcases hp : pick (K.take i) with _ | w
        · have h0 := hn hp
          refine ⟨fun _ => take (by rw [hp]; rfl), ?_⟩
          intro q21 hq; rw [h0] at hq; cases hq
        · obtain ⟨j, g1, g2, g3⟩ := hs w hp
          refine ⟨fun z => (by rw [g2] at z; cases z), ?_⟩
          intro q21 hq
          refine ⟨hv, fun z => (by rw [g2] at z; cases z), ?_⟩
          intro q34 hq34
          rw [g2] at hq34
          cases hq34
          rw [nI_clamp (by omega)]
          rw [List.getElem?_eq_getElem g1] at g3
          have g3 := Option.some.inj g3
          have hKj := hK.2 j g1
          rw [g3] at hKj
          refine k_isAhead (hKi.1.ag (hag _ (by omega))) hKi.2 (hKj.1.ag (hag _ (by omega))) hKj.2 _ ?_
          by_cases z : ahd (K[i]'hil) w = true
          · rw [if_pos z]
            exact take (by rw [hp]; unfold pk1; dsimp only; rw [if_pos z])
          · rw [if_neg z]
            exact leave w hp (by rw [hp]; unfold pk1; dsimp only; rw [if_neg z])
  obtain ⟨N, hN⟩ : ∃ N, K.length < N := ⟨_, Nat.lt_succ_self _⟩
  refine ⟨N, key N 0 S1 (by omega) (by omega) ha1 hi1 h11 (fun _ => h01) ?_⟩
  intro w hw
  cases hw
/-- the aim is taken, and the trails are walked -/
theorem k_aimwalk {S : St} {a : Ab} {op : Nat → Nat} {u : Nat → Nat} {c : Nat → Bool} {x t al cm : Nat} (h : WF a) (hI : InvC S a) (hx : x < nD a) (ht : t < nD a) (hxt : x ≠ t) (hop : ∀ f, f < 14 → gI S 6 f = nI (op f)) (hcm : cm < 2 ^ 8) (hc : ∀ v, v < 8 → cm.testBit v = c v)
    (hu0 : ∀ f, f < 14 → u f = op f &&& al) (hu : ∀ f, u f < 2 ^ nW a) (Q : St → Prop) (hQ : ∀ S', agr WC2 S S' → KpC S' (kpt a u c x t) → (kpt a u c x t).length ≤ 162 → Q S') :
    wp_X4_aim S (nI t) (nI al) (nI cm) (fun S12 => wp_X4_walk 8 S12 (nI x) (1 <<< (nI x &&& 31)) 255 0 0 Q) := by
  have h8 := h.1.2
  have hn60 : nL a ≤ 60 := by have := h.2.2.2.1; have := h.2.2.2.2.1; omega
  have h162 := trl_162 h (fun _ => false) t x
  unfold wp_X4_aim
  rintro _ rfl _ rfl _ rfl S1 hS1
  have hag : agr (fun q => q ≠ 5) S S1 := by
    subst hS1
    exact (((agr_sI (by simp) _ _ _).tr (agr_sI (by simp) _ _ _)).tr (agr_sI (by simp) _ _ _)).tr (agr_sI (by simp) _ _ _)
  rw [n_one (by omega)]
  have := k_walk (u := u) (c := c) h ht hu 8 S1 x (2 ^ x) [] [] Q rfl hx (Nat.pow_lt_pow_right (by omega) (by omega)) (by rw [Nat.testBit_two_pow]; simp) ?_ ?_ (fun z => absurd z hxt) trivial (by simp) (by show 255 < 2 ^ 8; omega) (by simp) (by show 0 ≤ _; omega)
    (hI.ag hn60 (hag.mo (fun q hq => by unfold CC at hq; show q ≠ 5; omega))) ?_ (by intro i hi; simp at hi) ?_ ?_ ?_
  · exact this
  · have := cnt_or (n := 8) (m := 0) (v := x) (by omega) (by simp)
    rw [Nat.zero_or] at this
    rw [this]
    rfl
  · intro _; rw [Nat.testBit_two_pow]; simp [hxt]
  · refine ⟨?_, ⟨cm, hcm, ?_, hc⟩, ?_⟩
    · subst hS1; simp (disch := omega) only [gI_s, gJ_s, gR_s, gI_n, gJ_n, gR_n, gI_sJ, gI_sR, gI_sD, gJ_sI, gJ_sR, gJ_sD, gR_sI, gR_sJ, gR_sD]
    · subst hS1; simp (disch := omega) only [gI_s, gJ_s, gR_s, gI_n, gJ_n, gR_n, gI_sJ, gI_sR, gI_sD, gJ_sI, gJ_sR, gJ_sD, gR_sI, gR_sJ, gR_sD]
    · intro f hf
      subst hS1
      simp (disch := omega) only [gI_s, gJ_s, gR_s, gI_n, gJ_n, gR_n, gI_sJ, gI_sR, gI_sD, gJ_sI, gJ_sR, gJ_sD, gR_sI, gR_sJ, gR_sD]
      rw [hop f hf, n_and, hu0 f hf]
  · refine ⟨?_, fun i hi => absurd hi (Nat.not_lt_zero _)⟩
    subst hS1; simp (disch := omega) only [gI_s, gJ_s, gR_s, gI_n, gJ_n, gR_n, gI_sJ, gI_sR, gI_sD, gJ_sI, gJ_sR, gJ_sD, gR_sI, gR_sJ, gR_sD]; rfl
  · rw [if_neg hxt]; simpa using h162
  · intro S' hk _ hKp
    rw [if_neg hxt] at hKp
    refine hQ S' ((hag.mo (fun q hq => hq.1)).tr hk.1) hKp (Nat.le_trans (List.length_filterMap_le _ _) h162)
theorem usb_lt (a : Ab) (own f : Nat) : usb a own f < 2 ^ nW a := mk_lt _ _
theorem cvm {a : Ab} : mk 8 (cv a) < 2 ^ 8 ∧ ∀ v, v < 8 → (mk 8 (cv a)).testBit v = cv a v := ⟨mk_lt _ _, fun v hv => by rw [mk_bit]; simp [hv]⟩
theorem k_findFirst {S : St} {a : Ab} {own x t : Nat} (h : WF a) (hI : InvC S a) (hx : x < nD a) (ht : t < nD a) (hxt : x ≠ t) (hop : ∀ f, f < 14 → gI S 6 f = nI (usb a own f)) (P : St → Prop)
    (hP : ∀ S', agr (fun q => WC2 q) S S' → FsC S' (fnd0 a own x t) → P S') : wp_X4_findFirst S (nI x) (nI t) P := by
  unfold wp_X4_findFirst
  have hw8 := h.2.1.2
  rw [hI.1.2.2.2.1]
  refine k_aimwalk (al := 255) (u := usb a own) (c := cv a) h hI hx ht hxt hop cvm.1 cvm.2 ?_ (usb_lt a own) _ ?_
  · intro f _
    have := usb_lt a own f
    have h2 : usb a own f < 2 ^ 8 := Nat.lt_of_lt_of_le this (Nat.pow_le_pow_right (by omega) hw8)
    rw [show (255 : Nat) = 2 ^ 8 - 1 from rfl, Nat.and_two_pow_sub_one_eq_mod, Nat.mod_eq_of_lt h2]
  · intro S' hag hK hl
    refine k_pick hK hl _ ?_
    intro S2 hag2 _ hF
    exact hP S2 (hag.tr (hag2.mo (fun q hq => hq.1))) hF
theorem k_findOne {S : St} {a : Ab} {x t : Nat} (h : WF a) (hI : InvC S a) (hx : x < nD a) (ht : t < nD a) (hxt : x ≠ t) (hop : ∀ f, f < 14 → gI S 6 f = nI (usb a 60 f)) (P : St → Prop)
    (hP : ∀ S', agr (fun q => WC2 q) S S' → FsC S' (fnd1 a x t (nW a) 0) → P S') : wp_X4_findOnLowestWavelength S (nI x) (nI t) P := by
  unfold wp_X4_findOnLowestWavelength
  have hw8 := h.2.1.2
  have hn60 : nL a ≤ 60 := by have := h.2.2.2.1; have := h.2.2.2.2.1; omega
  have hnone : ∀ w, nW a ≤ w → pick (kpt a (fun f => usb a 60 f &&& 2 ^ w) (fun _ => false) x t) = none := by
    intro w hw
    have : kpt a (fun f => usb a 60 f &&& 2 ^ w) (fun _ => false) x t = [] := by
      unfold kpt
      rw [List.filterMap_eq_nil_iff]
      intro p hp
      have hp2 := (trl_mem h.2.2.2.2.2.1 (fun _ => false) t 8 x (2 ^ x) p (by rw [Nat.testBit_two_pow]; simp) hp).1
      have hz : ∀ f, usb a 60 f &&& 2 ^ w = 0 := by
        intro f
        apply Nat.eq_of_testBit_eq
        intro i
        rw [Nat.testBit_and, Nat.testBit_two_pow, Nat.zero_testBit]
        by_cases z : w = i
        · subst z
          rw [Nat.testBit_lt_two_pow (Nat.lt_of_lt_of_le (usb_lt a 60 f) (Nat.pow_le_pow_right (by omega) hw))]; rfl
        · simp [z]
      unfold lay
      rw [if_neg]
      intro z
      rcases mnl_att (nW a) (cst (nW a) (fun f => usb a 60 f &&& 2 ^ w) (fun _ => false) p) 1000 with z2 | ⟨y, _, z2⟩
      · omega
      · rw [z2] at z
        cases p with
        | nil => exact hp2 rfl
        | cons q r =>
          have := cst_bit z
          rw [hz, Nat.zero_testBit] at this; cases this
    rw [this]; rfl
  have key : ∀ (N w : Nat) (S' : St), w ≤ 8 → 8 < N + w → agr WC2 S S' → (w ≠ 0 → FsC S' none) → fnd1 a x t (nW a - w) w = fnd1 a x t (nW a) 0 → wp_X4_findOnLowestWavelength_2 (nI x) (nI t) P N S' (nI w) := by
    intro N
    induction N with
    | zero => intro w S' h1 h2; omega
    | succ N ih =>
      intro w S' h1 h2 hag hF heq
      rw [wp_X4_findOnLowestWavelength_2]
      dsimp only
      by_cases q : w = 8
      · rw [if_pos (by simp (disch := omega) only [n_0, n_1, n_2, n_3, n_7, n_8, n_9, n_10, n_12, n_14, n_18, n_20, n_60, n_112, n_162, n_255, n_1000, nI_add, n_mul, nI_ltI, nI_leI, nI_eq, nI_clamp]; omega)]
        refine hP S' hag ?_
        rw [← heq, show nW a - w = 0 by omega]
        exact hF (by omega)
      · rw [if_neg (by simp (disch := omega) only [n_0, n_1, n_2, n_3, n_7, n_8, n_9, n_10, n_12, n_14, n_18, n_20, n_60, n_112, n_162, n_255, n_1000, nI_add, n_mul, nI_ltI, nI_leI, nI_eq, nI_clamp]; omega), n_one (by omega)]
        refine k_aimwalk (u := fun f => usb a 60 f &&& 2 ^ w) (c := fun _ => false) (cm := 0) (op := usb a 60) h (hI.ag hn60 (hag.mo (fun q hq => by unfold CC at hq; unfold WC2; omega))) hx ht hxt ?_ (by omega) (fun v _ => Nat.zero_testBit v) (fun f _ => rfl) (fun f => Nat.lt_of_le_of_lt Nat.and_le_left (usb_lt a 60 f)) _ ?_
        · intro f hf
          rw [(hag 6 (by unfold WC2; omega)).1]; exact hop f hf
        · intro S2 hag2 hK hl
          refine k_pick hK hl _ ?_
          intro S3 hag3 _ hF3
          have hag13 : agr WC2 S S3 := (hag.tr hag2).tr (hag3.mo (fun q hq => hq.1))
          rcases hp : pick (kpt a (fun f => usb a 60 f &&& 2 ^ w) (fun _ => false) x t) with _ | b
          · rw [hp] at hF3
            refine ⟨fun _ => ?_, fun q35 hq => ?_⟩
            · rintro _ rfl
              rw [nI_1]
              refine ih (w + 1) S3 (by omega) (by omega) hag13 (fun _ => hF3) ?_
              rw [← heq]
              by_cases z : w < nW a
              · rw [show nW a - w = (nW a - (w + 1)) + 1 by omega, fnd1, hp]
              · rw [show nW a - w = 0 by omega, show nW a - (w + 1) = 0 by omega]
                rfl
            · rw [hF3.2.1 rfl] at hq; cases hq
          · rw [hp] at hF3
            obtain ⟨q, g1, _⟩ := hF3.2.2 b rfl
            refine ⟨fun z => (by rw [g1] at z; cases z), fun q35 hq => ?_⟩
            refine hP S3 hag13 ?_
            rw [← heq]
            have hw : w < nW a := by
              rcases Nat.lt_or_ge w (nW a) with z | z
              · exact z
              · rw [hnone w z] at hp; cases hp
            rw [show nW a - w = (nW a - (w + 1)) + 1 by omega, fnd1, hp]
            exact hF3
  obtain ⟨N, hN⟩ : ∃ N, 8 < N := ⟨9, by omega⟩
  exact ⟨N, key N 0 S (by omega) (by omega) (agr.rf _ _) (fun z => absurd rfl z) rfl⟩
