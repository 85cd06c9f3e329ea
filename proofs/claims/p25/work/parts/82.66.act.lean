/-! THE PURE LAYER: what happens by a cell -/
theorem l_106 {S : St} {a : Ab} (h : WF a) (hJ : JC S a) (n v : Int32) (od : Bool) (x y t u : Int32) {m : Nat} (hu : u = nI m) (hm : 0 < m) (hm2 : m < 2 ^ 31) (P : Int32 → St → Prop) (hP : ∀ S', JC S' (tl a (q_addFibre a x y (nI (lw t m) + b2i (!od)))).2 → P (tl a (q_addFibre a x y (nI (lw t m) + b2i (!od)))).1 S') : wp_L_act_106 n v P S od x y t u := by
  unfold wp_L_act_106
  refine l_low t u hu hm hm2 _ ?_
  cases od
  · rw [if_neg (by decide)]
    unfold wp_L_act_118
    exact la_add h hJ x y _ _ hP
  · rw [if_pos rfl]
    unfold wp_L_act_118
    exact la_add h hJ x y _ _ hP
theorem l_150 {S : St} {a : Ab} (h : WF a) (hJ : JC S a) (n v : Int32) (od : Bool) (x y t u : Int32) {m : Nat} (hu : u = nI m) (hm : 0 < m) (hm2 : m < 2 ^ 31) (P : Int32 → St → Prop)
    (hP : ∀ S', JC S' (tl a (q_request a x y (nI (lw t m) + b2i (!od)) (nI (lw (v >>> (13 &&& 31)) (if od = true then 4 else 3))))).2 → P (tl a (q_request a x y (nI (lw t m) + b2i (!od)) (nI (lw (v >>> (13 &&& 31)) (if od = true then 4 else 3))))).1 S') : wp_L_act_150 n v P S od x y t u := by
  unfold wp_L_act_150
  refine l_low t u hu hm hm2 _ ?_
  cases od
  · rw [if_neg (by decide)]
    unfold wp_L_act_162
    rw [if_neg (by decide)]
    unfold wp_L_act_176
    refine l_low _ _ (m := 3) rfl (by omega) (by omega) _ ?_
    exact l_ask h hJ x y _ _ _ hP
  · rw [if_pos rfl]
    unfold wp_L_act_162
    rw [if_pos rfl]
    unfold wp_L_act_176
    refine l_low _ _ (m := 4) rfl (by omega) (by omega) _ ?_
    exact l_ask h hJ x y _ _ _ hP
theorem l_act69 {a : Ab} (h : WF a) (hd : WD a) (n v : Int32) (od : Bool) (x y : Int32) : ∃ (r : Int32) (b : Ab), Gd a r b ∧ ∀ S, JC S a → ∀ P : Int32 → St → Prop, (∀ S', JC S' b → P r S') → wp_L_act_69 n v P S od x y := by
  have hk : lw v 26 < 26 := lw_lt v (by omega)
  have hR := h.2.2.2.2.1
  have hL := h.n60
  -- the start
  have st : ∀ (S : St) (P : Int32 → St → Prop) (X : Prop), X → (X → wp_L_act_69 n v P S od x y) → wp_L_act_69 n v P S od x y := fun _ _ _ a b => b a
  by_cases c3 : lw v 26 < 3
  · cases od
    · refine ⟨_, _, gd_addFibre h hd x y (nI (lw (v >>> (9 &&& 31)) 9) + b2i (!false)), fun S hJ P hP => ?_⟩
      unfold wp_L_act_69
      refine l_low v 26 (m := 26) rfl (by omega) (by omega) _ ?_
      rw [if_neg (by simp (disch := omega) only [n_0, n_1, n_2, n_3, n_7, n_8, n_9, n_10, n_12, n_14, n_18, n_20, n_60, n_112, n_162, n_255, n_1000, nI_add, n_mul, nI_ltI, nI_leI, nI_eq, nI_clamp]; omega), if_neg (by decide)]
      exact l_106 h hJ n v false x y _ _ (m := 9) rfl (by omega) (by omega) _ hP
    · refine ⟨_, _, gd_addFibre h hd x y (nI (lw (v >>> (9 &&& 31)) 1200) + b2i (!true)), fun S hJ P hP => ?_⟩
      unfold wp_L_act_69
      refine l_low v 26 (m := 26) rfl (by omega) (by omega) _ ?_
      rw [if_neg (by simp (disch := omega) only [n_0, n_1, n_2, n_3, n_7, n_8, n_9, n_10, n_12, n_14, n_18, n_20, n_60, n_112, n_162, n_255, n_1000, nI_add, n_mul, nI_ltI, nI_leI, nI_eq, nI_clamp]; omega), if_pos rfl]
      exact l_106 h hJ n v true x y _ _ (m := 1200) rfl (by omega) (by omega) _ hP
  · by_cases c15 : lw v 26 < 15
    · cases od
      · refine ⟨_, _, gd_request h hd x y (nI (lw (v >>> (9 &&& 31)) 10) + b2i (!false)) (nI (lw (v >>> (13 &&& 31)) (if false = true then 4 else 3))), fun S hJ P hP => ?_⟩
        unfold wp_L_act_69
        refine l_low v 26 (m := 26) rfl (by omega) (by omega) _ ?_
        rw [if_pos (by simp (disch := omega) only [n_0, n_1, n_2, n_3, n_7, n_8, n_9, n_10, n_12, n_14, n_18, n_20, n_60, n_112, n_162, n_255, n_1000, nI_add, n_mul, nI_ltI, nI_leI, nI_eq, nI_clamp]; omega), if_neg (by rw [show (15 : Int32) = nI 15 from rfl]; simp (disch := omega) only [n_0, n_1, n_2, n_3, n_7, n_8, n_9, n_10, n_12, n_14, n_18, n_20, n_60, n_112, n_162, n_255, n_1000, nI_add, n_mul, nI_ltI, nI_leI, nI_eq, nI_clamp]; omega), if_neg (by decide)]
        exact l_150 h hJ n v false x y _ _ (m := 10) rfl (by omega) (by omega) _ hP
      · refine ⟨_, _, gd_request h hd x y (nI (lw (v >>> (9 &&& 31)) 13) + b2i (!true)) (nI (lw (v >>> (13 &&& 31)) (if true = true then 4 else 3))), fun S hJ P hP => ?_⟩
        unfold wp_L_act_69
        refine l_low v 26 (m := 26) rfl (by omega) (by omega) _ ?_
        rw [if_pos (by simp (disch := omega) only [n_0, n_1, n_2, n_3, n_7, n_8, n_9, n_10, n_12, n_14, n_18, n_20, n_60, n_112, n_162, n_255, n_1000, nI_add, n_mul, nI_ltI, nI_leI, nI_eq, nI_clamp]; omega), if_neg (by rw [show (15 : Int32) = nI 15 from rfl]; simp (disch := omega) only [n_0, n_1, n_2, n_3, n_7, n_8, n_9, n_10, n_12, n_14, n_18, n_20, n_60, n_112, n_162, n_255, n_1000, nI_add, n_mul, nI_ltI, nI_leI, nI_eq, nI_clamp]; omega), if_pos rfl]
        exact l_150 h hJ n v true x y _ _ (m := 13) rfl (by omega) (by omega) _ hP
    · by_cases c18 : lw v 26 < 18
      · refine ⟨_, _, gd_release h hd (nI (lw (v >>> (4 &&& 31)) (nR a + 1))), fun S hJ P hP => ?_⟩
        unfold wp_L_act_69
        refine l_low v 26 (m := 26) rfl (by omega) (by omega) _ ?_
        rw [if_pos (by simp (disch := omega) only [n_0, n_1, n_2, n_3, n_7, n_8, n_9, n_10, n_12, n_14, n_18, n_20, n_60, n_112, n_162, n_255, n_1000, nI_add, n_mul, nI_ltI, nI_leI, nI_eq, nI_clamp]; omega), if_pos (by rw [show (15 : Int32) = nI 15 from rfl]; simp (disch := omega) only [n_0, n_1, n_2, n_3, n_7, n_8, n_9, n_10, n_12, n_14, n_18, n_20, n_60, n_112, n_162, n_255, n_1000, nI_add, n_mul, nI_ltI, nI_leI, nI_eq, nI_clamp]; omega), if_neg (by simp (disch := omega) only [n_0, n_1, n_2, n_3, n_7, n_8, n_9, n_10, n_12, n_14, n_18, n_20, n_60, n_112, n_162, n_255, n_1000, nI_add, n_mul, nI_ltI, nI_leI, nI_eq, nI_clamp]; omega)]
        refine l_requests hJ _ ?_
        refine l_low _ _ (m := nR a + 1) (by simp (disch := omega) only [n_0, n_1, n_2, n_3, n_7, n_8, n_9, n_10, n_12, n_14, n_18, n_20, n_60, n_112, n_162, n_255, n_1000, nI_add, n_mul, nI_ltI, nI_leI, nI_eq, nI_clamp]) (by omega) (by omega) _ ?_
        exact l_does2 h hJ _ _ hP
      · by_cases c19 : lw v 26 = 18
        · refine ⟨_, _, gd_toggle h hd x, fun S hJ P hP => ?_⟩
          unfold wp_L_act_69
          refine l_low v 26 (m := 26) rfl (by omega) (by omega) _ ?_
          rw [if_pos (by simp (disch := omega) only [n_0, n_1, n_2, n_3, n_7, n_8, n_9, n_10, n_12, n_14, n_18, n_20, n_60, n_112, n_162, n_255, n_1000, nI_add, n_mul, nI_ltI, nI_leI, nI_eq, nI_clamp]; omega), if_pos (by rw [show (15 : Int32) = nI 15 from rfl]; simp (disch := omega) only [n_0, n_1, n_2, n_3, n_7, n_8, n_9, n_10, n_12, n_14, n_18, n_20, n_60, n_112, n_162, n_255, n_1000, nI_add, n_mul, nI_ltI, nI_leI, nI_eq, nI_clamp]; omega), if_pos (by simp (disch := omega) only [n_0, n_1, n_2, n_3, n_7, n_8, n_9, n_10, n_12, n_14, n_18, n_20, n_60, n_112, n_162, n_255, n_1000, nI_add, n_mul, nI_ltI, nI_leI, nI_eq, nI_clamp]; omega), if_pos (by rw [c19]; rfl)]
          exact l_convert h hJ x _ hP
        · by_cases c21 : lw v 26 < 21
          · have : lw v 26 = 19 ∨ lw v 26 = 20 := by omega
            rcases this with e | e
            · refine ⟨_, _, gd_cut h hd (nI (lw (v >>> (4 &&& 31)) 14)), fun S hJ P hP => ?_⟩
              unfold wp_L_act_69
              refine l_low v 26 (m := 26) rfl (by omega) (by omega) _ ?_
              rw [if_pos (by simp (disch := omega) only [n_0, n_1, n_2, n_3, n_7, n_8, n_9, n_10, n_12, n_14, n_18, n_20, n_60, n_112, n_162, n_255, n_1000, nI_add, n_mul, nI_ltI, nI_leI, nI_eq, nI_clamp]; omega), if_pos (by rw [show (15 : Int32) = nI 15 from rfl]; simp (disch := omega) only [n_0, n_1, n_2, n_3, n_7, n_8, n_9, n_10, n_12, n_14, n_18, n_20, n_60, n_112, n_162, n_255, n_1000, nI_add, n_mul, nI_ltI, nI_leI, nI_eq, nI_clamp]; omega), if_pos (by simp (disch := omega) only [n_0, n_1, n_2, n_3, n_7, n_8, n_9, n_10, n_12, n_14, n_18, n_20, n_60, n_112, n_162, n_255, n_1000, nI_add, n_mul, nI_ltI, nI_leI, nI_eq, nI_clamp]; omega), if_neg (by simp (disch := omega) only [n_0, n_1, n_2, n_3, n_7, n_8, n_9, n_10, n_12, n_14, n_18, n_20, n_60, n_112, n_162, n_255, n_1000, nI_add, n_mul, nI_ltI, nI_leI, nI_eq, nI_clamp]; omega), if_neg (by rw [show (21 : Int32) = nI 21 from rfl]; simp (disch := omega) only [n_0, n_1, n_2, n_3, n_7, n_8, n_9, n_10, n_12, n_14, n_18, n_20, n_60, n_112, n_162, n_255, n_1000, nI_add, n_mul, nI_ltI, nI_leI, nI_eq, nI_clamp]; omega)]
              refine l_low _ _ (m := 14) rfl (by omega) (by omega) _ ?_
              rw [e, show nI 19 - 19 = (0 : Int32) from rfl]
              exact l_does0 h hJ _ _ hP
            · refine ⟨_, _, gd_repair h hd (nI (lw (v >>> (4 &&& 31)) 14)), fun S hJ P hP => ?_⟩
              unfold wp_L_act_69
              refine l_low v 26 (m := 26) rfl (by omega) (by omega) _ ?_
              rw [if_pos (by simp (disch := omega) only [n_0, n_1, n_2, n_3, n_7, n_8, n_9, n_10, n_12, n_14, n_18, n_20, n_60, n_112, n_162, n_255, n_1000, nI_add, n_mul, nI_ltI, nI_leI, nI_eq, nI_clamp]; omega), if_pos (by rw [show (15 : Int32) = nI 15 from rfl]; simp (disch := omega) only [n_0, n_1, n_2, n_3, n_7, n_8, n_9, n_10, n_12, n_14, n_18, n_20, n_60, n_112, n_162, n_255, n_1000, nI_add, n_mul, nI_ltI, nI_leI, nI_eq, nI_clamp]; omega), if_pos (by simp (disch := omega) only [n_0, n_1, n_2, n_3, n_7, n_8, n_9, n_10, n_12, n_14, n_18, n_20, n_60, n_112, n_162, n_255, n_1000, nI_add, n_mul, nI_ltI, nI_leI, nI_eq, nI_clamp]; omega), if_neg (by simp (disch := omega) only [n_0, n_1, n_2, n_3, n_7, n_8, n_9, n_10, n_12, n_14, n_18, n_20, n_60, n_112, n_162, n_255, n_1000, nI_add, n_mul, nI_ltI, nI_leI, nI_eq, nI_clamp]; omega), if_neg (by rw [show (21 : Int32) = nI 21 from rfl]; simp (disch := omega) only [n_0, n_1, n_2, n_3, n_7, n_8, n_9, n_10, n_12, n_14, n_18, n_20, n_60, n_112, n_162, n_255, n_1000, nI_add, n_mul, nI_ltI, nI_leI, nI_eq, nI_clamp]; omega)]
              refine l_low _ _ (m := 14) rfl (by omega) (by omega) _ ?_
              rw [e, show nI 20 - 19 = (1 : Int32) from rfl]
              exact l_does1 h hJ _ _ hP
          · by_cases c23 : lw v 26 < 23
            · refine ⟨_, _, gd_reroute h hd (nI (lw (v >>> (4 &&& 31)) (nL a + 1))), fun S hJ P hP => ?_⟩
              unfold wp_L_act_69
              refine l_low v 26 (m := 26) rfl (by omega) (by omega) _ ?_
              rw [if_pos (by simp (disch := omega) only [n_0, n_1, n_2, n_3, n_7, n_8, n_9, n_10, n_12, n_14, n_18, n_20, n_60, n_112, n_162, n_255, n_1000, nI_add, n_mul, nI_ltI, nI_leI, nI_eq, nI_clamp]; omega), if_pos (by rw [show (15 : Int32) = nI 15 from rfl]; simp (disch := omega) only [n_0, n_1, n_2, n_3, n_7, n_8, n_9, n_10, n_12, n_14, n_18, n_20, n_60, n_112, n_162, n_255, n_1000, nI_add, n_mul, nI_ltI, nI_leI, nI_eq, nI_clamp]; omega), if_pos (by simp (disch := omega) only [n_0, n_1, n_2, n_3, n_7, n_8, n_9, n_10, n_12, n_14, n_18, n_20, n_60, n_112, n_162, n_255, n_1000, nI_add, n_mul, nI_ltI, nI_leI, nI_eq, nI_clamp]; omega), if_neg (by simp (disch := omega) only [n_0, n_1, n_2, n_3, n_7, n_8, n_9, n_10, n_12, n_14, n_18, n_20, n_60, n_112, n_162, n_255, n_1000, nI_add, n_mul, nI_ltI, nI_leI, nI_eq, nI_clamp]; omega), if_pos (by rw [show (21 : Int32) = nI 21 from rfl]; simp (disch := omega) only [n_0, n_1, n_2, n_3, n_7, n_8, n_9, n_10, n_12, n_14, n_18, n_20, n_60, n_112, n_162, n_255, n_1000, nI_add, n_mul, nI_ltI, nI_leI, nI_eq, nI_clamp]; omega), if_neg (by rw [show (23 : Int32) = nI 23 from rfl]; simp (disch := omega) only [n_0, n_1, n_2, n_3, n_7, n_8, n_9, n_10, n_12, n_14, n_18, n_20, n_60, n_112, n_162, n_255, n_1000, nI_add, n_mul, nI_ltI, nI_leI, nI_eq, nI_clamp]; omega)]
              refine l_lights hJ _ ?_
              refine l_low _ _ (m := nL a + 1) (by simp (disch := omega) only [n_0, n_1, n_2, n_3, n_7, n_8, n_9, n_10, n_12, n_14, n_18, n_20, n_60, n_112, n_162, n_255, n_1000, nI_add, n_mul, nI_ltI, nI_leI, nI_eq, nI_clamp]) (by omega) (by omega) _ ?_
              exact l_does4 h hJ _ _ hP
            · by_cases c25 : lw v 26 < 25
              · refine ⟨_, _, gd_merge h hd, fun S hJ P hP => ?_⟩
                unfold wp_L_act_69
                refine l_low v 26 (m := 26) rfl (by omega) (by omega) _ ?_
                rw [if_pos (by simp (disch := omega) only [n_0, n_1, n_2, n_3, n_7, n_8, n_9, n_10, n_12, n_14, n_18, n_20, n_60, n_112, n_162, n_255, n_1000, nI_add, n_mul, nI_ltI, nI_leI, nI_eq, nI_clamp]; omega), if_pos (by rw [show (15 : Int32) = nI 15 from rfl]; simp (disch := omega) only [n_0, n_1, n_2, n_3, n_7, n_8, n_9, n_10, n_12, n_14, n_18, n_20, n_60, n_112, n_162, n_255, n_1000, nI_add, n_mul, nI_ltI, nI_leI, nI_eq, nI_clamp]; omega), if_pos (by simp (disch := omega) only [n_0, n_1, n_2, n_3, n_7, n_8, n_9, n_10, n_12, n_14, n_18, n_20, n_60, n_112, n_162, n_255, n_1000, nI_add, n_mul, nI_ltI, nI_leI, nI_eq, nI_clamp]; omega), if_neg (by simp (disch := omega) only [n_0, n_1, n_2, n_3, n_7, n_8, n_9, n_10, n_12, n_14, n_18, n_20, n_60, n_112, n_162, n_255, n_1000, nI_add, n_mul, nI_ltI, nI_leI, nI_eq, nI_clamp]; omega), if_pos (by rw [show (21 : Int32) = nI 21 from rfl]; simp (disch := omega) only [n_0, n_1, n_2, n_3, n_7, n_8, n_9, n_10, n_12, n_14, n_18, n_20, n_60, n_112, n_162, n_255, n_1000, nI_add, n_mul, nI_ltI, nI_leI, nI_eq, nI_clamp]; omega), if_pos (by rw [show (23 : Int32) = nI 23 from rfl]; simp (disch := omega) only [n_0, n_1, n_2, n_3, n_7, n_8, n_9, n_10, n_12, n_14, n_18, n_20, n_60, n_112, n_162, n_255, n_1000, nI_add, n_mul, nI_ltI, nI_leI, nI_eq, nI_clamp]; omega), if_neg (by rw [show (25 : Int32) = nI 25 from rfl]; simp (disch := omega) only [n_0, n_1, n_2, n_3, n_7, n_8, n_9, n_10, n_12, n_14, n_18, n_20, n_60, n_112, n_162, n_255, n_1000, nI_add, n_mul, nI_ltI, nI_leI, nI_eq, nI_clamp]; omega)]
                exact l_does5 h hJ _ _ hP
              · refine ⟨_, _, gd_move h hd, fun S hJ P hP => ?_⟩
                unfold wp_L_act_69
                refine l_low v 26 (m := 26) rfl (by omega) (by omega) _ ?_
                rw [if_pos (by simp (disch := omega) only [n_0, n_1, n_2, n_3, n_7, n_8, n_9, n_10, n_12, n_14, n_18, n_20, n_60, n_112, n_162, n_255, n_1000, nI_add, n_mul, nI_ltI, nI_leI, nI_eq, nI_clamp]; omega), if_pos (by rw [show (15 : Int32) = nI 15 from rfl]; simp (disch := omega) only [n_0, n_1, n_2, n_3, n_7, n_8, n_9, n_10, n_12, n_14, n_18, n_20, n_60, n_112, n_162, n_255, n_1000, nI_add, n_mul, nI_ltI, nI_leI, nI_eq, nI_clamp]; omega), if_pos (by simp (disch := omega) only [n_0, n_1, n_2, n_3, n_7, n_8, n_9, n_10, n_12, n_14, n_18, n_20, n_60, n_112, n_162, n_255, n_1000, nI_add, n_mul, nI_ltI, nI_leI, nI_eq, nI_clamp]; omega), if_neg (by simp (disch := omega) only [n_0, n_1, n_2, n_3, n_7, n_8, n_9, n_10, n_12, n_14, n_18, n_20, n_60, n_112, n_162, n_255, n_1000, nI_add, n_mul, nI_ltI, nI_leI, nI_eq, nI_clamp]; omega), if_pos (by rw [show (21 : Int32) = nI 21 from rfl]; simp (disch := omega) only [n_0, n_1, n_2, n_3, n_7, n_8, n_9, n_10, n_12, n_14, n_18, n_20, n_60, n_112, n_162, n_255, n_1000, nI_add, n_mul, nI_ltI, nI_leI, nI_eq, nI_clamp]; omega), if_pos (by rw [show (23 : Int32) = nI 23 from rfl]; simp (disch := omega) only [n_0, n_1, n_2, n_3, n_7, n_8, n_9, n_10, n_12, n_14, n_18, n_20, n_60, n_112, n_162, n_255, n_1000, nI_add, n_mul, nI_ltI, nI_leI, nI_eq, nI_clamp]; omega), if_pos (by rw [show (25 : Int32) = nI 25 from rfl]; simp (disch := omega) only [n_0, n_1, n_2, n_3, n_7, n_8, n_9, n_10, n_12, n_14, n_18, n_20, n_60, n_112, n_162, n_255, n_1000, nI_add, n_mul, nI_ltI, nI_leI, nI_eq, nI_clamp]; omega)]
                exact l_does6 h hJ _ _ hP
theorem l_act {a : Ab} (h : WF a) (hd : WD a) {n : Nat} (hn : 3 ≤ n ∧ n ≤ 8) (v : Int32) : ∃ (r : Int32) (b : Ab), Gd a r b ∧ ∀ S, JC S a → ∀ P : Int32 → St → Prop, (∀ S', JC S' b → P r S') → wp_L_act S (nI n) v P := by
  by_cases c : lw (v >>> (24 &&& 31)) 8 = 0
  · obtain ⟨r, b, g, k⟩ := l_act69 h hd (nI n) v true (nI (lw (v >>> (3 &&& 31)) 10)) (nI (lw (v >>> (6 &&& 31)) 10))
    refine ⟨r, b, g, fun S hJ P hP => ?_⟩
    unfold wp_L_act
    refine l_low _ _ (m := 8) rfl (by omega) (by omega) _ ?_
    rw [if_pos (by rw [c]; rfl)]
    unfold wp_L_act_17
    rw [if_pos rfl]
    unfold wp_L_act_31
    refine l_low _ _ (m := 10) rfl (by omega) (by omega) _ ?_
    rw [if_pos rfl]
    refine l_low _ _ (m := 10) rfl (by omega) (by omega) _ ?_
    exact k S hJ P hP
  · obtain ⟨f, hf⟩ : ∃ f : Int32, f = nI (lw (v >>> (3 &&& 31)) n) := ⟨_, rfl⟩
    obtain ⟨g, hg⟩ : ∃ g : Int32, g = nI (lw (v >>> (6 &&& 31)) (n - 1)) := ⟨_, rfl⟩
    obtain ⟨r, b, gd, k⟩ := l_act69 h hd (nI n) v false f (((f + 1) + g) - ((f + 1) + g) / nI n * nI n)
    refine ⟨r, b, gd, fun S hJ P hP => ?_⟩
    have h8 : lw (v >>> (24 &&& 31)) 8 < 8 := lw_lt _ (by omega)
    unfold wp_L_act
    refine l_low _ _ (m := 8) rfl (by omega) (by omega) _ ?_
    rw [if_neg (by rw [n_eq0 (by omega)]; exact c)]
    unfold wp_L_act_17
    rw [if_neg (by decide)]
    unfold wp_L_act_31
    refine l_low _ _ (m := n) rfl (by omega) (by omega) _ ?_
    rw [if_neg (by decide)]
    refine l_low _ _ (m := n - 1) (by rw [n_1, n_sub (by omega)]) (by omega) (by omega) _ ?_
    rw [← hf, ← hg]
    exact ⟨nI_ne0 (by omega) (by omega), k S hJ P hP⟩
