/-! THE PURE LAYER: the reference's table of colours -/
theorem m_dp {S : St} {n : Nat} {F : Nat → Nat} (hn : n ≤ 12) (hc : ∀ k, k < n → gI S 388 k = nI (mk n (fun j => !(j == k) && !(F k &&& F j == 0)))) (h0 : gI S 389 0 = 0) (P : Int32 → St → Prop)
    (hP : ∀ S', agr (fun q => q ≠ 389) S S' → ∀ k, chr n F k → P (nI k) S') : ∃ N, wp_X6_wavelengthsNeeded_19 P N S (nI n) 1 := by
  have h212 : 2 ^ n ≤ 2 ^ 12 := Nat.pow_le_pow_right (by omega) hn
  have hle12 : ∀ s k, chrs n F s k → k ≤ 12 := by
    intro s k h
    rcases Nat.lt_or_ge n k with z | z
    · exact absurd (cols_n n s F) (h.2 n z)
    · omega
  have one : (1 : Int32) <<< (nI n &&& 31) = nI (2 ^ n) := n_one (by omega)
  have outer : ∀ (N s : Nat) (S' : St), 1 ≤ s → s ≤ 2 ^ n → 2 ^ n < N + s → agr (fun q => q ≠ 389) S S' → (∀ t, t < s → ∃ k, gI S' 389 t = nI k ∧ chrs n F t k) → wp_X6_wavelengthsNeeded_19 P N S' (nI n) (nI s) := by
    intro N
    induction N with
    | zero => intro s S' h1 h2 h3; omega
    | succ N ih =>
      intro s S' h1 h2 h3 hag ht
      rw [wp_X6_wavelengthsNeeded_19]
      dsimp only
      rw [one]
      by_cases q : s = 2 ^ n
      · rw [if_pos (by simp (disch := omega) only [n_0, n_1, n_2, n_3, n_7, n_8, n_9, n_10, n_12, n_14, n_18, n_20, n_60, n_112, n_162, n_255, n_1000, nI_add, n_mul, nI_ltI, nI_leI, nI_eq, nI_clamp]; omega)]
        unfold wp_X6_wavelengthsNeeded_129
        obtain ⟨k, k1, k2⟩ := ht (2 ^ n - 1) (by omega)
        rw [one, n_1, n_sub (by omega), nI_clamp (by omega), k1]
        refine ⟨vp_in_nI (by omega) (by omega), hP S' hag k ⟨(cols_all n k F).mp k2.1, fun k' hk' hc' => k2.2 k' hk' ((cols_all n k' F).mpr hc')⟩⟩
      · have hs : s < 2 ^ n := by omega
        rw [if_neg (by simp (disch := omega) only [n_0, n_1, n_2, n_3, n_7, n_8, n_9, n_10, n_12, n_14, n_18, n_20, n_60, n_112, n_162, n_255, n_1000, nI_add, n_mul, nI_ltI, nI_leI, nI_eq, nI_clamp]; omega)]
        have hc' : ∀ k, k < n → gI S' 388 k = nI (mk n (fun j => !(j == k) && !(F k &&& F j == 0))) := fun k hk => by rw [(hag 388 (by omega)).1]; exact hc k hk
        refine m_apart hn hs hc' _ ?_
        intro b hb
        have hv : vp_in (nI s) 4096 := vp_in_nI (by omega) (by omega)
        have start : ∀ v0 : Nat, v0 ≤ 1000 → (v0 = 1000 ∨ cols n F s v0) → (cols n F s 1 → v0 ≤ 1) → wp_X6_wavelengthsNeeded_47 P (fun S a1 a2 => wp_X6_wavelengthsNeeded_19 P N S a1 a2) S' (nI n) (nI s) (nI s) (nI v0) := by
          intro v0 hv0 hv1 hv2
          unfold wp_X6_wavelengthsNeeded_47
          refine ⟨hv, ?_⟩
          rw [nI_clamp (by omega)]
          rintro S2 hS2
          rw [n_1, n_sub h1, n_and]
          rintro _ rfl
          have inner : ∀ (M p v : Nat) (S3 : St), p < s → p &&& s = p → p < M → agr (fun q => q ≠ 389) S S3 → (∀ t, t < s → gI S3 389 t = gI S' 389 t) → gI S3 389 s = nI v → v ≤ 1000 → (v = 1000 ∨ cols n F s v) → (cols n F s 1 → v ≤ 1) → (∀ r, p < r → r < s → r &&& s = r → cols n F r 1 → ∀ k, chrs n F (s ^^^ r) k → v ≤ k + 1) → wp_X6_wavelengthsNeeded_54 P (fun S a1 a2 => wp_X6_wavelengthsNeeded_19 P N S a1 a2) M S3 (nI n) (nI s) (nI p) := by
            intro M
            induction M with
            | zero => intro p v S3 _ _ h3; omega
            | succ M ih2 =>
              intro p v S3 hps hpp hpM hag3 hold hval hv3 hv4 hv5 hpr
              rw [wp_X6_wavelengthsNeeded_54]
              dsimp only
              by_cases z : p = 0
              · rw [if_pos (by rw [z]; decide)]
                unfold wp_X6_wavelengthsNeeded_123
                rintro _ rfl
                rw [nI_1]
                refine ih (s + 1) S3 (by omega) (by omega) (by omega) hag3 ?_
                intro t htt
                by_cases y : t = s
                · subst y
                  exact ⟨v, hval, chrs_of hn hs (by omega) hv4 hv5 (fun r r1 => hpr r (by omega))⟩
                · rw [hold t (by omega)]; exact ht t (by omega)
              · rw [if_neg (by simp (disch := omega) only [n_0, n_1, n_2, n_3, n_7, n_8, n_9, n_10, n_12, n_14, n_18, n_20, n_60, n_112, n_162, n_255, n_1000, nI_add, n_mul, nI_ltI, nI_leI, nI_eq, nI_clamp]; omega)]
                have hvp : vp_in (nI p) 4096 := vp_in_nI (by omega) (by omega)
                refine ⟨hvp, ?_⟩
                obtain ⟨kp, kp1, kp2⟩ := ht p hps
                have hkp := hle12 p kp kp2
                rw [nI_clamp (by omega), hold p hps, kp1]
                have hp2 : p < 2 ^ n := by omega
                have hxa := xor_add s p hpp
                have hxl : s ^^^ p < s := by omega
                obtain ⟨kx, kx1, kx2⟩ := ht (s ^^^ p) hxl
                have hkx := hle12 _ _ kx2
                have fin : ∀ v' : Nat, v' ≤ v → (v' = 1000 ∨ cols n F s v') → (cols n F p 1 → v' ≤ kx + 1) → wp_X6_wavelengthsNeeded_113 P (fun S a1 a2 => wp_X6_wavelengthsNeeded_19 P N S a1 a2) (fun S a1 a2 a3 => wp_X6_wavelengthsNeeded_54 P (fun S a1 a2 => wp_X6_wavelengthsNeeded_19 P N S a1 a2) M S a1 a2 a3) S3 (nI n) (nI s) (nI p) (nI s) (nI v') := by
                  intro v' w1 w2 w3
                  unfold wp_X6_wavelengthsNeeded_113
                  refine ⟨hv, ?_⟩
                  rw [nI_clamp (by omega), n_1, n_sub (by omega), n_and]
                  rintro S4 hS4 _ rfl
                  have hsm : (p - 1) &&& s ≤ p - 1 := Nat.and_le_left
                  refine ih2 ((p - 1) &&& s) v' S4 (by omega) (by rw [Nat.and_assoc, Nat.and_self]) (by omega) ?_ ?_ ?_ (by omega) w2 (fun y => Nat.le_trans w1 (hv5 y)) ?_
                  · subst hS4; exact hag3.tr (agr_sI (by simp) _ _ _)
                  · intro t htt; subst hS4; rw [gI_n (by omega)]; exact hold t htt
                  · subst hS4; rw [gI_s]
                  · intro r r1 r2 r3 r4 k r5
                    by_cases y : r = p
                    · subst y
                      rw [chrs_un r5 kx2]; exact w3 r4
                    · have : p < r := by
                        rcases Nat.lt_trichotomy p r with g | g | g
                        · exact g
                        · exact absurd g.symm y
                        · have := sub_next p r s hpp r3 g; omega
                      exact Nat.le_trans w1 (hpr r this r2 r3 r4 k r5)
                have h84 : ∀ t0 : Nat, t0 ≤ 1000 → (t0 < v → cols n F s t0) → (cols n F p 1 → t0 ≤ kx + 1) → wp_X6_wavelengthsNeeded_84 P (fun S a1 a2 => wp_X6_wavelengthsNeeded_19 P N S a1 a2) (fun S a1 a2 a3 => wp_X6_wavelengthsNeeded_54 P (fun S a1 a2 => wp_X6_wavelengthsNeeded_19 P N S a1 a2) M S a1 a2 a3) S3 (nI n) (nI s) (nI p) (nI t0) := by
                  intro t0 w0 w1 w2
                  unfold wp_X6_wavelengthsNeeded_84
                  rw [nI_clamp (by omega), hval]
                  refine ⟨hv, ?_⟩
                  by_cases y : v ≤ t0
                  · rw [if_pos (by simp (disch := omega) only [n_0, n_1, n_2, n_3, n_7, n_8, n_9, n_10, n_12, n_14, n_18, n_20, n_60, n_112, n_162, n_255, n_1000, nI_add, n_mul, nI_ltI, nI_leI, nI_eq, nI_clamp]; omega)]
                    exact ⟨hv, fin v (Nat.le_refl _) hv4 (fun g => Nat.le_trans y (w2 g))⟩
                  · rw [if_neg (by simp (disch := omega) only [n_0, n_1, n_2, n_3, n_7, n_8, n_9, n_10, n_12, n_14, n_18, n_20, n_60, n_112, n_162, n_255, n_1000, nI_add, n_mul, nI_ltI, nI_leI, nI_eq, nI_clamp]; omega)]
                    exact fin t0 (by omega) (.inr (w1 (by omega))) w2
                by_cases hk1 : kp = 1
                · rw [if_pos (by rw [hk1]; rfl), n_xor, nI_clamp (by omega), hold _ hxl, kx1, nI_1]
                  refine ⟨vp_in_nI (by omega) (by omega), ?_⟩
                  refine h84 (kx + 1) (by omega) (fun _ => ?_) (fun _ => Nat.le_refl _)
                  rw [hk1] at kp2
                  exact cols_join kp2.1 kx2.1
                · rw [if_neg (by rw [n_1, nI_eq (by omega) (by omega)]; exact hk1)]
                  refine h84 1000 (by omega) (fun g => by omega) (fun g => ?_)
                  exfalso
                  obtain ⟨m, m1, m2⟩ := cols_min g
                  have := chrs_un m2 kp2
                  have hz : kp ≠ 0 := by
                    intro g2
                    rw [g2] at kp2
                    exact cols_0 hp2 z kp2.1
                  omega
          obtain ⟨M, hM⟩ : ∃ M, s < M := ⟨_, Nat.lt_succ_self _⟩
          have hsl : (s - 1) &&& s ≤ s - 1 := Nat.and_le_left
          refine ⟨M, inner M _ v0 S2 (by omega) (by rw [Nat.and_assoc, Nat.and_self]) (by omega) ?_ ?_ ?_ hv0 hv1 hv2 ?_⟩
          · subst hS2; exact hag.tr (agr_sI (by simp) _ _ _)
          · intro t htt; subst hS2; rw [gI_n (by omega)]
          · subst hS2; rw [gI_s]
          · intro r r1 r2 r3
            have := sub_next s r s (Nat.and_self s) r3 r2
            omega
        cases b with
        | true => exact start 1 (by omega) (.inr (hb.mp rfl)) (fun _ => Nat.le_refl _)
        | false => exact start 1000 (by omega) (.inl rfl) (fun z => by have := hb.mpr z; cases this)
  obtain ⟨N, hN⟩ : ∃ N, 2 ^ n < N := ⟨_, Nat.lt_succ_self _⟩
  refine ⟨N, outer N 1 S (Nat.le_refl _) Nat.one_le_two_pow (by omega) (agr.rf _ _) ?_⟩
  intro t ht
  have : t = 0 := by omega
  subst this
  refine ⟨0, by rw [h0]; rfl, ⟨fun _ => 0, fun i _ hb => (by rw [Nat.zero_testBit] at hb; cases hb), fun i j _ _ hb => (by rw [Nat.zero_testBit] at hb; cases hb)⟩, fun k' hk' => absurd hk' (Nat.not_lt_zero _)⟩
