/-! THE PURE LAYER: the reference goes on to the next row of fibres -/
theorem k_goesOn {a : Ab} (h : WF a) {k b to : Nat} (hk : k = 380 ∨ k = 381) (hb : b < 2 ^ 14) (hto : to < nD a) (P : Bool → St → Prop) : ∀ (N : Nat) (Ls : List (Nat × Nat × Nat)) (S : St), ms a Ls < N → InvM S a → Row S k Ls → Chn a Ls → Ls.length ≤ 8 →
    (Rm a (fun f => b.testBit f) to Ls = [] → ∀ S', agr (fun q => q ≠ k) S S' → P false S') →
    (∀ Ls', Chn a Ls' → Ls' ≠ [] → Ls'.length ≤ 8 → Rm a (fun f => b.testBit f) to Ls = pth Ls' :: Rm a (fun f => b.testBit f) to Ls' → ∀ S', agr (fun q => q ≠ k) S S' → Row S' k Ls' → Low S' k Ls' → P true S') →
    wp_X6_goesOn_0 k (nI to) (nI b) P N S := by
  have h8 := h.1.2
  have h14 := h.2.2.1
  intro N
  induction N with
  | zero => intro Ls S h1; omega
  | succ N ih =>
    intro Ls S hms hI hR hC hl8 hP0 hP1
    rw [wp_X6_goesOn_0]
    dsimp only
    have e0 : ((0 : Int32).toNatClampNeg) = 0 := rfl
    have ee1 : ((1 : Int32).toNatClampNeg) = 1 := rfl
    have hv0 : vp_in (0 : Int32) 26 := vp_in_nI (n := 0) (by omega) (by omega)
    have hv1 : vp_in (1 : Int32) 26 := vp_in_nI (n := 1) (by omega) (by omega)
    refine ⟨hv0, ?_⟩
    cases Ls with
    | nil =>
      rw [Row] at hR
      rw [e0, hR, if_pos (by decide)]
      exact hP0 rfl S (agr.rf _ _)
    | cons q r =>
      obtain ⟨v, met, t⟩ := q
      rw [Row] at hR
      obtain ⟨r0, r1, r2, r3, r4⟩ := hR
      obtain ⟨c1, c2, c3, c4, c5, c6, c7⟩ := hC
      have hr8 : r.length < 8 := by simp at hl8; omega
      rw [e0, r0, if_neg (nI_pos (by omega))]
      refine ⟨hv0, ?_⟩
      rintro _ rfl
      have hv18 : vp_in (18 + nI r.length) 26 := by rw [n_18, nI_add]; exact vp_in_nI (by omega) (by omega)
      refine ⟨hv18, ?_⟩
      rw [n_18, nI_add, nI_clamp (by omega), r3]
      rw [n_18, nI_add] at hv18
      rintro _ rfl
      refine ⟨hv18, hv18, ?_⟩
      rintro S1 hS1
      rw [nI_1] at hS1
      have hag1 : agr (fun q => q ≠ k) S S1 := by subst hS1; exact agr_sI (by simp) _ _ _
      have hI1 : InvM S1 a := hI.ag (hag1.mo (fun q hq => by unfold CM at hq; show q ≠ k; omega))
      have b0 : gI S1 k 0 = nI r.length := by subst hS1; rw [gI_n (by omega)]; exact r0
      have b1 : gI S1 k 1 = nI met := by subst hS1; rw [gI_n (by omega)]; exact r1
      have b2 : gI S1 k (10 + r.length) = nI v := by subst hS1; rw [gI_n (by omega)]; exact r2
      have b3 : gI S1 k (18 + r.length) = nI (t + 1) := by subst hS1; rw [gI_s]
      have b4 : Low S1 k r := by subst hS1; exact Low_sI r4 (by omega) (fun i hi => by omega)
      rw [hI1.1.2.2.1]
      have hnext : t < nF a → Row S1 k ((v, met, t + 1) :: r) ∧ Chn a ((v, met, t + 1) :: r) ∧ ms a ((v, met, t + 1) :: r) < N := by
        intro ht
        refine ⟨⟨b0, b1, b2, b3, b4⟩, ⟨c1, by omega, c3, c4, c5, c6, c7⟩, ?_⟩
        rw [ms] at hms ⊢
        have hp : 0 < 16 ^ (8 - r.length) := Nat.pow_pos (by omega)
        rw [show nF a + 1 - t = (nF a + 1 - (t + 1)) + 1 by omega, Nat.add_mul, Nat.one_mul] at hms
        omega
      by_cases q1 : t = nF a
      · rw [if_pos (by rw [q1])]
        refine ⟨hv1, by rw [n_10, nI_add]; exact vp_in_nI (by omega) (by omega), hv1, ?_⟩
        rintro S2 hS2
        rw [ee1, n_10, nI_add, nI_clamp (by omega), b1, b2, n_one (by omega), n_xor] at hS2
        refine ⟨hv0, hv0, ?_⟩
        rintro S3 hS3
        have hag3 : agr (fun q => q ≠ k) S1 S3 := by
          subst hS3; subst hS2
          exact (agr_sI (by simp) _ _ _).tr (agr_sI (by simp) _ _ _)
        have hR3 : Row S3 k r := by
          cases r with
          | nil =>
            rw [Row]
            subst hS3; subst hS2
            rw [gI_s, gI_n (by omega), b0]; rfl
          | cons q2 r2 =>
            obtain ⟨v', met', t'⟩ := q2
            rw [Low] at b4
            obtain ⟨d1, d2, d3, d4, d5⟩ := b4
            obtain ⟨f1, f2⟩ := c6
            simp only [List.length_cons] at *
            rw [Row]
            subst hS3; subst hS2
            refine ⟨?_, ?_, ?_, ?_, ?_⟩
            · rw [gI_s, gI_n (by omega), b0, nI_m1]
            · rw [gI_n (by omega), gI_s, f1, xor_out f2]
            · rw [gI_n (by omega), gI_n (by omega)]; exact d1
            · rw [gI_n (by omega), gI_n (by omega)]; exact d2
            · exact Low_sI (Low_sI d5 (by omega) (fun i hi => by omega)) (by omega) (fun i hi => by omega)
        have hms3 : ms a r < N := by
          rw [ms] at hms
          have hp : 0 < 16 ^ (8 - r.length) := Nat.pow_pos (by omega)
          rw [show nF a + 1 - t = 1 by omega, Nat.one_mul] at hms
          omega
        have hrm : Rm a (fun f => b.testBit f) to ((v, met, t) :: r) = Rm a (fun f => b.testBit f) to r := by rw [q1]; exact Rm_end
        rw [hrm] at hP0 hP1
        exact ih r S3 hms3 (hI1.ag (hag3.mo (fun q hq => by unfold CM at hq; show q ≠ k; omega))) hR3 c7 (by omega) (fun z S' hag => hP0 z S' ((hag1.tr hag3).tr hag)) (fun Ls' g1 g2 g3 g4 S' hag => hP1 Ls' g1 g2 g3 g4 S' ((hag1.tr hag3).tr hag))
      · have ht : t < nF a := by omega
        rw [if_neg (by rw [nI_eq (by omega) (by omega)]; exact q1)]
        obtain ⟨n1, n2, n3⟩ := hnext ht
        -- a fibre that leads nowhere
        have skip : exn a (fun f => b.testBit f) to (trl a (fun f => b.testBit f) to (7 - r.length)) v met t = [] → ∀ S2, agr (fun q => True) S1 S2 → wp_X6_goesOn_0 k (nI to) (nI b) P N S2 := by
          intro hz S2 hag2
          rw [Rm_skip ht hz] at hP0 hP1
          have hag12 : agr (fun q => q ≠ k) S S2 := hag1.tr (hag2.mo (fun _ _ => trivial))
          exact ih _ S2 n3 (hI1.ag (hag2.mo (fun _ _ => trivial))) (Row_ag (hag2 k trivial) n1) n2 (by simpa using hl8) (fun z S' hag => hP0 z S' (hag12.tr hag)) (fun Ls' g1 g2 g3 g4 S' hag => hP1 Ls' g1 g2 g3 g4 S' (hag12.tr hag))
        simp only [n_bit0 (show b < 2 ^ 31 by omega) (show t < 32 by omega)]
        by_cases q2 : b.testBit t = true
        · rw [if_neg (by rw [q2]; simp)]
          exact skip (exn_bar q2) S1 (agr.rf _ _)
        · have q2 : b.testBit t = false := by simpa using q2
          rw [if_pos q2]
          refine k_isStep h hI1 (d := r.length) (by omega) c1 ht c3 b0 b1 b2 _ ?_ ?_
          · intro u hu hmu hsum hle
            rw [if_pos rfl]
            have hexn := exn_go (a := a) (bar := fun f => b.testBit f) (t := to) (go := trl a (fun f => b.testBit f) to (7 - r.length)) (v := v) (met := met) (f := t) (u := u) hu q2 hmu
            obtain ⟨hud, _⟩ := acr_lt h.2.2.2.2.2.1 ht hu
            obtain ⟨g1, g2, g3, _⟩ := h.2.2.2.2.2.1 t ht
            obtain ⟨m1, m2, _⟩ := hI1.2.2.1 t ht
            have hcn := cnt_or (n := 8) (m := met) (v := u) (by omega) hmu
            have hcl := cnt_le 8 (met ||| 2 ^ u).testBit
            have hr6 : r.length ≤ 6 := by omega
            have hvt : vp_in (nI t) 14 := vp_in_nI (by omega) (by omega)
            unfold wp_X6_goesOn_84
            rw [n_10, n_2, nI_add, nI_add, nI_clamp (by omega), nI_clamp (by omega), nI_clamp (by omega), m1, m2, b2, nI_add, n_sub hle, hsum]
            refine ⟨hvt, hvt, vp_in_nI (by omega) (by omega), ?_⟩
            rintro _ rfl
            refine ⟨vp_in_nI (by omega) (by omega), ?_⟩
            rintro S2 hS2
            have hag2 : agr (fun q => q ≠ k) S1 S2 := by subst hS2; exact agr_sI (by simp) _ _ _
            have f0 : gI S2 k 0 = nI r.length := by subst hS2; rw [gI_n (by omega)]; exact b0
            have f1 : gI S2 k 1 = nI met := by subst hS2; rw [gI_n (by omega)]; exact b1
            have f2 : gI S2 k (10 + r.length) = nI v := by subst hS2; rw [gI_n (by omega)]; exact b2
            have f3 : gI S2 k (18 + r.length) = nI (t + 1) := by subst hS2; rw [gI_n (by omega)]; exact b3
            have f4 : Low S2 k r := by subst hS2; exact Low_sI b4 (by omega) (fun i hi => by omega)
            have f5 : gI S2 k (2 + r.length) = nI t := by subst hS2; rw [gI_s]
            have hlow : Low S2 k ((v, met, t + 1) :: r) := ⟨f2, f3, by rw [f5]; rfl, by omega, f4⟩
            by_cases q3 : u = to
            · rw [if_pos (by rw [q3])]
              rw [if_pos q3] at hexn
              rw [Rm_hit ht hexn] at hP1
              exact hP1 _ n2 (by simp) (by simpa using hl8) rfl S2 (hag1.tr hag2) ⟨f0, f1, f2, f3, f4⟩ hlow
            · rw [if_neg (by rw [nI_eq (by omega) (by omega)]; exact q3)]
              rw [if_neg q3] at hexn
              refine ⟨hv0, hv0, ?_⟩
              rintro S3 hS3
              rw [e0, f0, nI_1] at hS3
              refine ⟨hv1, hv1, ?_⟩
              rintro S4 hS4
              rw [ee1, show gI S3 k 1 = nI met by subst hS3; rw [gI_n (by omega)]; exact f1, n_one (by omega), n_or] at hS4
              rw [nI_1, n_18, nI_add, nI_1, nI_clamp (by omega), nI_clamp (by omega)]
              refine ⟨vp_in_nI (by omega) (by omega), ?_⟩
              rintro S5 hS5
              refine ⟨vp_in_nI (by omega) (by omega), ?_⟩
              rintro S6 hS6
              have hag6 : agr (fun q => q ≠ k) S2 S6 := by
                subst hS6; subst hS5; subst hS4; subst hS3
                exact (((agr_sI (by simp) _ _ _).tr (agr_sI (by simp) _ _ _)).tr (agr_sI (by simp) _ _ _)).tr (agr_sI (by simp) _ _ _)
              have hR6 : Row S6 k ((u, met ||| 2 ^ u, 0) :: (v, met, t + 1) :: r) := by
                rw [Row]
                simp only [List.length_cons]
                subst hS6; subst hS5; subst hS4; subst hS3
                refine ⟨?_, ?_, ?_, ?_, ?_⟩
                · rw [gI_n (by omega), gI_n (by omega), gI_n (by omega), gI_s]
                · rw [gI_n (by omega), gI_n (by omega), gI_s]
                · rw [gI_n (by omega), show 10 + (r.length + 1) = 10 + r.length + 1 by omega, gI_s]
                · rw [show 18 + (r.length + 1) = 18 + r.length + 1 by omega, gI_s]; rfl
                · exact Low_sI (Low_sI (Low_sI (Low_sI hlow (by simp; omega) (fun i hi => by simp at hi; omega)) (by simp; omega) (fun i hi => by simp at hi; omega)) (by simp; omega) (fun i hi => by simp at hi; omega)) (by simp; omega) (fun i hi => by simp at hi; omega)
              have hC6 : Chn a ((u, met ||| 2 ^ u, 0) :: (v, met, t + 1) :: r) := by
                exact ⟨hud, Nat.zero_le _, Nat.or_lt_two_pow c3 (Nat.pow_lt_pow_right (by omega) (by omega)), by rw [Nat.testBit_or, Nat.testBit_two_pow]; simp, by rw [hcn, c5]; rfl, ⟨rfl, hmu⟩, n2⟩
              have hms6 : ms a ((u, met ||| 2 ^ u, 0) :: (v, met, t + 1) :: r) < N := by
                rw [ms, ms] at *
                simp only [List.length_cons]
                have hp : 16 ^ (8 - r.length) = 16 * 16 ^ (8 - (r.length + 1)) := by
                  rw [← Nat.pow_succ']; congr 1; omega
                rw [show nF a + 1 - t = (nF a + 1 - (t + 1)) + 1 by omega, Nat.add_mul, Nat.one_mul] at hms
                have hq : (nF a + 1 - 0) * 16 ^ (8 - (r.length + 1)) ≤ 15 * 16 ^ (8 - (r.length + 1)) := Nat.mul_le_mul_right _ (by omega)
                have hp2 : 0 < 16 ^ (8 - (r.length + 1)) := Nat.pow_pos (by omega)
                omega
              rw [Rm_push ht hr6 hexn] at hP0 hP1
              have hagA : agr (fun q => q ≠ k) S S6 := (hag1.tr hag2).tr hag6
              exact ih _ S6 hms6 (hI.ag (hagA.mo (fun q hq => by unfold CM at hq; show q ≠ k; omega))) hR6 hC6 (by simp; omega) (fun z S' hag => hP0 z S' (hagA.tr hag)) (fun Ls' g1 g2 g3 g4 S' hag => hP1 Ls' g1 g2 g3 g4 S' (hagA.tr hag))
          · intro hno
            rw [if_neg (by simp)]
            refine skip ?_ S1 (agr.rf _ _)
            rcases hq : acr a v t with _ | u
            · exact exn_none hq
            · exact exn_met hq (hno u hq)
