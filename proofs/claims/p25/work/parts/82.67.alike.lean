/-! THE PURE LAYER: two objects with one planner are alike -/
theorem q_state_ok {a : Ab} (h : WF a) {l : Nat} (hl : l < nL a) : q_state a (nI l) = .ok (if wy a l = [] then 2 else if lup a l = true then 0 else 1, a) := by
  have hn := h.n60
  unfold q_state
  rw [if_pos (isn_i hl (by omega)), tN_nI (by omega)]
theorem q_units_ok {a : Ab} (h : WF a) {l : Nat} (hl : l < nL a) : q_units a (nI l) = .ok (nI (units a l), a) := by
  have hn := h.n60
  unfold q_units
  rw [if_pos (isn_i hl (by omega)), tN_nI (by omega)]
theorem u_cmp {a : Ab} (h : WF a) (hn : nF a ≠ 0) : ∃ u : UInt32, q_usage a = .ok (u, a) ∧ (Op.cmpValue (FP.fcmp u u) .l) = 0 := by
  have hp : nF a * nW a ≠ 0 := Nat.mul_ne_zero hn (by have := h.2.1.1; omega)
  refine ⟨flr (sm (nF a) (ons a)) (nF a * nW a), by unfold q_usage; rw [if_neg hn]; rfl, ?_⟩
  have h1 : FP.Core.fIsNaN (flr (sm (nF a) (ons a)) (nF a * nW a)) = false := by
    show FP.Core.fIsNaN (FP.Core.fdiv (FP.Core.i2f (nI (sm (nF a) (ons a)))) (FP.Core.i2f (nI (nF a * nW a)))) = false
    refine FP.Core.fdiv_out ((FP.Core.notNaN_iff32 _).mpr (FP.Core.i2f_fin _).ne_nan) (FP.Core.i2f_fin _) ?_
    rw [FP.Core.zero_bits232]
    have := h.chans.2
    exact FP.Core.i2f_ne_zero (by rw [n_0, Ne, nI_eq (by omega) (by omega)]; exact hp)
  have h3 : FP.fcmp (flr (sm (nF a) (ons a)) (nF a * nW a)) (flr (sm (nF a) (ons a)) (nF a * nW a)) = some .eq := FP.Core.fcmp_self ((FP.Core.notNaN_iff32 _).mp h1)
  rw [h3]; rfl
theorem a_66 {a : Ab} (h : WF a) (P : Bool → St → St → Prop) {f : Nat} (K : St → St → Bool → Int32 → Prop) (hK : ∀ S T, JC S a → JC T a → K S T true (nI (f + 1))) : ∀ (n i : Nat) (S T : St), JC S a → JC T a → i ≤ 8 → 8 < n + i → wp_L_areAlike_66 P K n S T true (nI f) (nI i) := by
  intro n
  induction n with
  | zero => intro i S T _ _ h1 h2; omega
  | succ n ih =>
    intro i S T hS hT h1 h2
    rw [wp_L_areAlike_66]
    dsimp only
    by_cases c : i = 8
    · rw [if_pos (by simp (disch := omega) only [n_0, n_1, n_2, n_3, n_7, n_8, n_9, n_10, n_12, n_14, n_18, n_20, n_60, n_112, n_162, n_255, n_1000, nI_add, n_mul, nI_ltI, nI_leI, nI_eq, nI_clamp]; omega)]
      unfold wp_L_areAlike_110
      rintro _ rfl
      rw [nI_1]; exact hK S T hS hT
    · rw [if_neg (by simp (disch := omega) only [n_0, n_1, n_2, n_3, n_7, n_8, n_9, n_10, n_12, n_14, n_18, n_20, n_60, n_112, n_162, n_255, n_1000, nI_add, n_mul, nI_ltI, nI_leI, nI_eq, nI_clamp]; omega), if_pos rfl]
      refine l_look2 h hS _ _ _ _ (fun S1 hS1 => ?_)
      refine l_look2 h hT _ _ _ _ (fun T1 hT1 => ?_)
      rw [if_pos rfl]
      unfold wp_L_areAlike_103
      rintro _ rfl
      rw [nI_1]
      exact ih (i + 1) S1 T1 hS1 hT1 (by omega) (by omega)
theorem a_118 {a : Ab} (h : WF a) (P : Bool → St → St → Prop) (hP : ∀ S T, JC S a → JC T a → P true S T) : ∀ (n l : Nat) (S T : St), JC S a → JC T a → l ≤ nL a → nL a < n + l → wp_L_areAlike_118 P n S T true (nI l) := by
  have hn := h.n60
  intro n
  induction n with
  | zero => intro i S T _ _ h1 h2; omega
  | succ n ih =>
    intro l S T hS hT h1 h2
    rw [wp_L_areAlike_118]
    dsimp only
    refine l_lights hS _ ?_
    by_cases c : l = nL a
    · rw [if_pos (by simp (disch := omega) only [n_0, n_1, n_2, n_3, n_7, n_8, n_9, n_10, n_12, n_14, n_18, n_20, n_60, n_112, n_162, n_255, n_1000, nI_add, n_mul, nI_ltI, nI_leI, nI_eq, nI_clamp]; omega)]; exact hP S T hS hT
    · have hl : l < nL a := by omega
      rw [if_neg (by simp (disch := omega) only [n_0, n_1, n_2, n_3, n_7, n_8, n_9, n_10, n_12, n_14, n_18, n_20, n_60, n_112, n_162, n_255, n_1000, nI_add, n_mul, nI_ltI, nI_leI, nI_eq, nI_clamp]; omega), if_pos rfl]
      refine k_state h hS.1 hS.2 _ _ _ (o_ok (q_state_ok h hl) (fun S1 hS1 => ?_))
      refine k_state h hT.1 hT.2 _ _ _ (o_ok (q_state_ok h hl) (fun T1 hT1 => ?_))
      rw [if_pos rfl]
      refine k_units h hS1.1 hS1.2 _ _ _ (o_ok (q_units_ok h hl) (fun S2 hS2 => ?_))
      refine k_units h hT1.1 hT1.2 _ _ _ (o_ok (q_units_ok h hl) (fun T2 hT2 => ?_))
      rw [if_pos rfl]
      unfold wp_L_areAlike_161
      rintro _ rfl
      rw [nI_1]
      exact ih (l + 1) S2 T2 hS2 hT2 (by omega) (by omega)
theorem a_53 {a : Ab} (h : WF a) (P : Bool → St → St → Prop) (hP : ∀ S T, JC S a → JC T a → P true S T) : ∀ (n f : Nat) (S T : St), JC S a → JC T a → f ≤ 14 → 14 < n + f → wp_L_areAlike_53 P n S T true (nI f) := by
  have hn := h.n60
  intro n
  induction n with
  | zero => intro i S T _ _ h1 h2; omega
  | succ n ih =>
    intro f S T hS hT h1 h2
    rw [wp_L_areAlike_53]
    dsimp only
    by_cases c : f = 14
    · rw [if_pos (by simp (disch := omega) only [n_0, n_1, n_2, n_3, n_7, n_8, n_9, n_10, n_12, n_14, n_18, n_20, n_60, n_112, n_162, n_255, n_1000, nI_add, n_mul, nI_ltI, nI_leI, nI_eq, nI_clamp]; omega)]
      unfold wp_L_areAlike_116
      exact ⟨nL a + 1, by omega, a_118 h P hP _ 0 S T hS hT (by omega) (by omega)⟩
    · rw [if_neg (by simp (disch := omega) only [n_0, n_1, n_2, n_3, n_7, n_8, n_9, n_10, n_12, n_14, n_18, n_20, n_60, n_112, n_162, n_255, n_1000, nI_add, n_mul, nI_ltI, nI_leI, nI_eq, nI_clamp]; omega), if_pos rfl]
      exact ⟨9, by omega, a_66 h P _ (fun S1 T1 hS1 hT1 => ih (f + 1) S1 T1 hS1 hT1 (by omega) (by omega)) 9 0 S T hS hT (by omega) (by omega)⟩
theorem l_alike {S T : St} {a : Ab} (h : WF a) (hn : nF a ≠ 0) (hS : JC S a) (hT : JC T a) (P : Bool → St → St → Prop) (hP : ∀ S' T', JC S' a → JC T' a → P true S' T') : wp_L_areAlike S T P := by
  obtain ⟨u, hu, hc⟩ := u_cmp h hn
  unfold wp_L_areAlike
  refine k_load h hS.1 _ ?_
  refine k_load h hT.1 _ ?_
  rw [if_pos rfl]
  refine l_requests hS _ ?_
  refine l_requests hT _ ?_
  rw [if_pos rfl]
  refine l_lights hS _ ?_
  refine l_lights hT _ ?_
  rw [if_pos rfl]
  refine k_usage h hS.1 hS.2 _ _ (o_ok hu (fun S1 hS1 => ?_))
  refine k_usage h hT.1 hT.2 _ _ (o_ok hu (fun T1 hT1 => ?_))
  rw [if_pos hc]
  unfold wp_L_areAlike_50
  exact ⟨15, by omega, a_53 h P hP 15 0 S1 T1 hS1 hT1 (by omega) (by omega)⟩
