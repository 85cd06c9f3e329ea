/-! THE PURE LAYER: both objects, made -/
theorem fx_far {a b : Nat} (ha : 367 ≤ a) : fx a b = none := by
  rcases hf : fx a b with _ | q
  · rfl
  · exfalso
    unfold fx at hf
    rw [if_neg (by omega), if_neg (by omega), if_neg (by omega), if_neg (by omega), if_neg (by omega), if_neg (by omega), if_neg (by omega)] at hf
    by_cases z : kd a = 1
    · have := kd_N z (by omega)
      unfold NALL at this
      omega
    · rw [if_neg z] at hf; cases hf
theorem made {S : St} (h : Hs S QC5) (n : NmC S 60) : Fx S ∧ JC S (xB 4 4) := by
  have hall : ∀ a b, gR S a b = fx a b := by
    intro a b
    refine h a b ?_
    rcases Nat.lt_or_ge a 367 with z | z
    · exact .inr z
    · exact .inl (fx_far z)
  have g1 : ∀ k j, gI S k j = if k = 1 ∧ j < 2 then 4 else if 185 ≤ k ∧ k < 365 ∧ (k - 185) % 3 = 0 ∧ j = 0 then nI ((k - 185) / 3) else 0 := n.1
  refine ⟨⟨fun k j q hq => by rw [hall]; exact hq, fun q hq => ?_, fun q hq => ?_, fun j q hq => ?_⟩, ?_, ?_⟩
  · rw [hall] at hq; cases hq
  · rw [hall] at hq; cases hq
  · rw [hall] at hq; cases hq
  · have m0 : mk 8 (cv (xB 4 4)) = 0 := (mk_zero 8 _).mpr (fun _ _ => rfl)
    have m1 : mk 14 (ct (xB 4 4)) = 0 := (mk_zero 14 _).mpr (fun _ _ => rfl)
    refine ⟨⟨?_, ?_, ?_, ?_, ?_⟩, ?_, ⟨?_, ?_⟩, ?_, ?_, ?_⟩
    · rw [g1, if_pos (by omega)]; rfl
    · rw [g1, if_pos (by omega)]; rfl
    · rw [g1, if_neg (by omega), if_neg (by omega)]; rfl
    · rw [g1, if_neg (by omega), if_neg (by omega), m0]; rfl
    · rw [g1, if_neg (by omega), if_neg (by omega), m1]; rfl
    · intro f hf; rw [xB_nF] at hf; omega
    · rw [g1, if_neg (by omega), if_neg (by omega)]; rfl
    · rw [g1, if_neg (by omega), if_neg (by omega)]; rfl
    · intro f hf; rw [xB_nR] at hf; omega
    · intro l hl
      rw [g1, if_neg (by omega), if_pos (by omega)]
      congr 1; omega
    · intro f hf; rw [xB_nL] at hf; omega
  · intro c hc
    rw [g1, if_neg (by omega), if_neg (by omega)]
theorem start_pure (xs : Nat → Int32) {L : Nat} (hL : L ≤ 260) : wp_L_start xs L := by
  unfold wp_L_start
  refine s_X5 _ (fun S1 h1 n1 => ?_)
  obtain ⟨f1, j1⟩ := made h1 n1
  refine ⟨f1, ?_⟩
  refine s_X5 _ (fun T1 h2 n2 => ?_)
  obtain ⟨f2, j2⟩ := made h2 n2
  exact ⟨f2, f_16 xs hL j1 j2⟩
