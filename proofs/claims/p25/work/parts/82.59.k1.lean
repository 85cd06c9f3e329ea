/-! THE PURE LAYER: the class's calls, those on the network -/
theorem KC.rf {S : St} {a : Ab} (hI : InvC S a) (hz : Tk S) : KC S S a := ⟨agr.rf _ _, hI, hz⟩
theorem KC.tr {S T U : St} {a b : Ab} (h : KC S T a) (h2 : KC T U b) : KC S U b := ⟨h.1.tr h2.1, h2.2⟩
theorem Tk.ag {S S' : St} (h : Tk S) (e : ceq S S' 183) : Tk S' := fun c hc => (e.1 c).trans (h c hc)
theorem k_nodeX {S : St} {a : Ab} (hI : InvC S a) (x : Int32) (P : Bool → St → Prop) (hP : P (isn x (nD a)) S) : wp_X2_hasNode S x P := by
  unfold wp_X2_hasNode
  rw [hI.1.1]
  unfold isn at hP
  by_cases c1 : x < 0
  · rw [if_pos c1]; simpa [c1] using hP
  · rw [if_neg c1]
    by_cases c2 : nI (nD a) ≤ x
    · rw [if_pos c2]; simpa [c1, c2] using hP
    · rw [if_neg c2]; simpa [c1, c2] using hP
theorem k_fibX {S : St} {a : Ab} (hI : InvC S a) (x : Int32) (P : Bool → St → Prop) (hP : P (isn x (nF a)) S) : wp_X2_hasFibre S x P := by
  unfold wp_X2_hasFibre
  rw [hI.1.2.2.1]
  unfold isn at hP
  by_cases c1 : x < 0
  · rw [if_pos c1]; simpa [c1] using hP
  · rw [if_neg c1]
    by_cases c2 : nI (nF a) ≤ x
    · rw [if_pos c2]; simpa [c1, c2] using hP
    · rw [if_neg c2]; simpa [c1, c2] using hP
theorem k_two {S : St} {a : Ab} (hI : InvC S a) (x y : Int32) (P : Bool → St → Prop) (hP : P (two a x y) S) : wp_X5_areTwoNodes S x y P := by
  unfold wp_X5_areTwoNodes
  refine k_nodeX hI x _ ?_
  unfold two at hP
  rcases h1 : isn x (nD a) with _ | _
  · rw [h1] at hP; rw [if_neg (by decide)]; exact hP
  · rw [if_pos rfl]
    rw [h1, Bool.true_and] at hP
    refine k_nodeX hI y _ ?_
    rcases h2 : isn y (nD a) with _ | _
    · rw [h2] at hP; rw [if_neg (by decide)]; exact hP
    · rw [h2] at hP
      rw [if_pos rfl]
      by_cases c : x = y
      · rw [if_pos c]; simpa [c] using hP
      · rw [if_neg c]; simpa [c] using hP
theorem i_nlt {x y : Int32} : ¬ x < y ↔ y ≤ x := Int32.not_lt
theorem i_nle {x y : Int32} : ¬ x ≤ y ↔ y < x := Int32.not_le
theorem KC.net {S S' : St} {b : Ab} (hag : agr (fun k => 5 ≤ k) S S') (hz : Tk S)
    (h0 : gI S' 1 0 = nI (nD b) ∧ gI S' 1 1 = nI (nW b) ∧ gI S' 1 2 = nI (nF b) ∧ gI S' 1 3 = nI (mk 8 (cv b)) ∧ gI S' 1 4 = nI (mk 14 (ct b)))
    (hf : ∀ f, f < nF b → gI S' 2 f = nI (e1 b f) ∧ gI S' 3 f = nI (e2 b f) ∧ gI S' 4 f = nI (el b f))
    (hl : gI S' 0 4 = nI (nL b) ∧ gI S' 0 7 = nI (nR b))
    (hd : ∀ r, r < nR b → gR S 365 r = (if de b r = 0 then none else some (185 + 3 * ca b r)) ∧ (de b r ≠ 0 → gI S 366 r = nI (de b r)))
    (hn : ∀ l, l < 60 → gI S (185 + 3 * l) 0 = nI l) (hL : ∀ l, l < nL b → LtC S b l) : KC S S' b := by
  refine ⟨hag.mo (fun k hk => by omega), ⟨h0, hf, hl, ?_, ?_, ?_⟩, hz.ag (hag 183 (by omega))⟩
  · intro r hr; rw [(hag 365 (by omega)).2.2.1, (hag 366 (by omega)).1]; exact hd r hr
  · intro l hl; rw [(hag _ (by omega)).1]; exact hn l hl
  · intro l hl; exact (hL l hl).ag (hag _ (by omega)) (hag _ (by omega)) (hag _ (by omega))
theorem k_begin {S : St} {a : Ab} (hI : InvC S a) (hz : Tk S) (x y : Int32) (P : St → Prop) (E : String → St → Prop) (hO : OutC S a sIA sIA (q_begin x y) (fun _ => P) E) : wp_X5_begin S x y P E := by
  have hE : rg x 2 8 = false ∨ rg y 1 8 = false → E "java/lang/IllegalArgumentException" S := by
    intro hr
    have := hO.2 1 S (by unfold q_begin; rcases hr with hr | hr <;> rw [hr] <;> simp) (KC.rf hI hz)
    exact this
  unfold wp_X5_begin wp_X5_begin_22
  by_cases c1 : x < 2
  · rw [if_pos c1]; exact hE (.inl (by unfold rg; simp [c1]))
  · rw [if_neg c1]
    by_cases c2 : 8 < x
    · rw [if_pos c2]; exact hE (.inl (by unfold rg; simp [c2]))
    · rw [if_neg c2]
      by_cases c3 : y < 1
      · rw [if_pos c3]; exact hE (.inr (by unfold rg; simp [c3]))
      · rw [if_neg c3]
        by_cases c4 : y ≤ 8
        · rw [if_pos c4]
          have r1 : rg x 2 8 = true := by unfold rg; simp [c1, c2]
          have r2 : rg y 1 8 = true := by unfold rg; rw [decide_eq_false c3, decide_eq_false (by rw [i_nlt]; exact c4)]; rfl
          obtain ⟨i, i1, i2, hx⟩ := rg_t (lo := 2) (hi := 8) (by omega) (by omega) r1
          obtain ⟨j, j1, j2, hy⟩ := rg_t (lo := 1) (hi := 8) (by omega) (by omega) r2
          have hO := hO.1 () (xB (tN x) (tN y))
          unfold wp_X2_startAgain
          rintro _ rfl _ rfl _ rfl _ rfl _ rfl _ rfl _ rfl
          refine hO _ (by unfold q_begin; rw [r1, r2]; rfl) ?_
          rw [hx, hy, tN_nI (by omega), tN_nI (by omega)]
          refine KC.net ?_ hz ?_ ?_ ?_ ?_ hI.2.2.2.2.1 ?_
          · exact (((((((agr_sI (by omega) _ _ _).tr (agr_sI (by omega) _ _ _)).tr (agr_sI (by omega) _ _ _)).tr (agr_sI (by omega) _ _ _)).tr (agr_sI (by omega) _ _ _)).tr (agr_sI (by omega) _ _ _)).tr (agr_sI (by omega) _ _ _))
          · rw [show mk 8 (cv (xB i j)) = 0 from (mk_zero 8 _).mpr (fun _ _ => rfl), show mk 14 (ct (xB i j)) = 0 from (mk_zero 14 _).mpr (fun _ _ => rfl)]
            simp (disch := omega) only [gI_s, gJ_s, gR_s, gI_n, gJ_n, gR_n, gI_sJ, gI_sR, gI_sD, gJ_sI, gJ_sR, gJ_sD, gR_sI, gR_sJ, gR_sD]
            exact ⟨rfl, rfl, rfl, rfl, rfl⟩
          · intro f hf; rw [xB_nF] at hf; omega
          · simp (disch := omega) only [gI_s, gJ_s, gR_s, gI_n, gJ_n, gR_n, gI_sJ, gI_sR, gI_sD, gJ_sI, gJ_sR, gJ_sD, gR_sI, gR_sJ, gR_sD]; exact ⟨rfl, rfl⟩
          · intro f hf; rw [xB_nR] at hf; omega
          · intro f hf; rw [xB_nL] at hf; omega
        · rw [if_neg c4]; exact hE (.inr (by unfold rg; rw [decide_eq_true (i_nle.mp c4)]; simp))
theorem k_addFibre {S : St} {a : Ab} (h : WF a) (hI : InvC S a) (hz : Tk S) (x y z : Int32) (P : Int32 → St → Prop) (E : String → St → Prop) (hO : OutC S a sIA sIS (q_addFibre a x y z) P E) : wp_X5_addFibre S x y z P E := by
  have h14 := h.2.2.1
  have hE : two a x y = false ∨ rg z 1 1000 = false → E "java/lang/IllegalArgumentException" S := by
    intro hr
    exact hO.2 1 S (by unfold q_addFibre; rcases hr with hr | hr <;> rw [hr] <;> simp) (KC.rf hI hz)
  unfold wp_X5_addFibre wp_X5_addFibre_21
  refine k_two hI x y _ ?_
  rcases ht : two a x y with _ | _
  · rw [if_neg (by decide)]; exact hE (.inl ht)
  · rw [if_pos rfl]
    by_cases c1 : z < 1
    · rw [if_pos c1]; exact hE (.inr (by unfold rg; simp [c1]))
    · rw [if_neg c1]
      by_cases c2 : z ≤ 1000
      · rw [if_pos c2]
        have r2 : rg z 1 1000 = true := by unfold rg; rw [decide_eq_false c1, decide_eq_false (by rw [i_nlt]; exact c2)]; rfl
        obtain ⟨k, k1, k2, rfl⟩ := rg_t (lo := 1) (hi := 1000) (by omega) (by omega) r2
        have hi8 := h.1.2
        obtain ⟨i, j, hi, hj, hij, rfl, rfl⟩ := two_t hi8 ht
        unfold wp_X2_join
        rintro _ rfl
        rw [hI.1.2.2.1]
        by_cases c : nF a = 14
        · rw [if_neg (by rw [c]; decide)]
          dsimp only
          rw [if_neg (by decide)]
          exact hO.2 2 S (by unfold q_addFibre; rw [ht, r2]; simp [c]) (KC.rf hI hz)
        · have hv : vp_in (nI (nF a)) 14 := vp_in_nI (by omega) (by omega)
          rw [if_pos (by simp (disch := omega) only [n_0, n_1, n_2, n_3, n_7, n_8, n_9, n_10, n_12, n_14, n_18, n_20, n_60, n_112, n_162, n_255, n_1000, nI_add, n_mul, nI_ltI, nI_leI, nI_eq, nI_clamp]; omega), nI_clamp (by omega)]
          refine ⟨hv, ?_⟩
          rintro _ rfl
          refine ⟨hv, ?_⟩
          rintro _ rfl
          refine ⟨hv, ?_⟩
          rintro _ rfl _ rfl
          rw [if_pos (by simp (disch := omega) only [n_0, n_1, n_2, n_3, n_7, n_8, n_9, n_10, n_12, n_14, n_18, n_20, n_60, n_112, n_162, n_255, n_1000, nI_add, n_mul, nI_ltI, nI_leI, nI_eq, nI_clamp]; omega)]
          refine hO.1 _ (xF a i j k) _ (by unfold q_addFibre; rw [ht, r2, if_neg c, tN_nI (by omega), tN_nI (by omega), tN_nI (by omega)]; rfl) ?_
          obtain ⟨⟨a0, a1, a2, a3, a4⟩, b, ⟨c1, c2⟩, d, f, g⟩ := hI
          refine KC.net ?_ hz ?_ ?_ ?_ d f g
          · exact ((((agr_sI (by omega) _ _ _).tr (agr_sI (by omega) _ _ _)).tr (agr_sI (by omega) _ _ _)).tr (agr_sI (by omega) _ _ _))
          · simp (disch := omega) only [gI_s, gJ_s, gR_s, gI_n, gJ_n, gR_n, gI_sJ, gI_sR, gI_sD, gJ_sI, gJ_sR, gJ_sD, gR_sI, gR_sJ, gR_sD]
            rw [a2, nI_1]
            exact ⟨a0, a1, rfl, a3, a4⟩
          · intro f hf
            simp only [xB_nD, xB_nW, xB_nF, xB_nR, xB_nL, xB_e1, xB_e2, xB_el, xB_ca, xB_de, xB_sn, xB_en, xB_cv, xB_ct, xB_wy, xF_nD, xF_nW, xF_nF, xF_nR, xF_nL, xF_e1, xF_e2, xF_el, xF_ca, xF_de, xF_sn, xF_en, xF_cv, xF_ct, xF_wy, xC_nD, xC_nW, xC_nF, xC_nR, xC_nL, xC_e1, xC_e2, xC_el, xC_ca, xC_de, xC_sn, xC_en, xC_cv, xC_ct, xC_wy, xK_nD, xK_nW, xK_nF, xK_nR, xK_nL, xK_e1, xK_e2, xK_el, xK_ca, xK_de, xK_sn, xK_en, xK_cv, xK_ct, xK_wy, xR_nD, xR_nW, xR_nF, xR_nR, xR_nL, xR_e1, xR_e2, xR_el, xR_ca, xR_de, xR_sn, xR_en, xR_cv, xR_ct, xR_wy, xL_nD, xL_nW, xL_nF, xL_nR, xL_nL, xL_e1, xL_e2, xL_el, xL_ca, xL_de, xL_sn, xL_en, xL_cv, xL_ct, xL_wy, xZ_nD, xZ_nW, xZ_nF, xZ_nR, xZ_nL, xZ_e1, xZ_e2, xZ_el, xZ_ca, xZ_de, xZ_sn, xZ_en, xZ_cv, xZ_ct, xZ_wy, xW_nD, xW_nW, xW_nF, xW_nR, xW_nL, xW_e1, xW_e2, xW_el, xW_ca, xW_de, xW_sn, xW_en, xW_cv, xW_ct, xW_wy, xM_nD, xM_nW, xM_nF, xM_nR, xM_nL, xM_e1, xM_e2, xM_el, xM_ca, xM_de, xM_sn, xM_en, xM_cv, xM_ct, xM_wy] at hf
            simp only [xB_nD, xB_nW, xB_nF, xB_nR, xB_nL, xB_e1, xB_e2, xB_el, xB_ca, xB_de, xB_sn, xB_en, xB_cv, xB_ct, xB_wy, xF_nD, xF_nW, xF_nF, xF_nR, xF_nL, xF_e1, xF_e2, xF_el, xF_ca, xF_de, xF_sn, xF_en, xF_cv, xF_ct, xF_wy, xC_nD, xC_nW, xC_nF, xC_nR, xC_nL, xC_e1, xC_e2, xC_el, xC_ca, xC_de, xC_sn, xC_en, xC_cv, xC_ct, xC_wy, xK_nD, xK_nW, xK_nF, xK_nR, xK_nL, xK_e1, xK_e2, xK_el, xK_ca, xK_de, xK_sn, xK_en, xK_cv, xK_ct, xK_wy, xR_nD, xR_nW, xR_nF, xR_nR, xR_nL, xR_e1, xR_e2, xR_el, xR_ca, xR_de, xR_sn, xR_en, xR_cv, xR_ct, xR_wy, xL_nD, xL_nW, xL_nF, xL_nR, xL_nL, xL_e1, xL_e2, xL_el, xL_ca, xL_de, xL_sn, xL_en, xL_cv, xL_ct, xL_wy, xZ_nD, xZ_nW, xZ_nF, xZ_nR, xZ_nL, xZ_e1, xZ_e2, xZ_el, xZ_ca, xZ_de, xZ_sn, xZ_en, xZ_cv, xZ_ct, xZ_wy, xW_nD, xW_nW, xW_nF, xW_nR, xW_nL, xW_e1, xW_e2, xW_el, xW_ca, xW_de, xW_sn, xW_en, xW_cv, xW_ct, xW_wy, xM_nD, xM_nW, xM_nF, xM_nR, xM_nL, xM_e1, xM_e2, xM_el, xM_ca, xM_de, xM_sn, xM_en, xM_cv, xM_ct, xM_wy]
            by_cases q : f = nF a
            · rw [q, put_s, put_s, put_s]; simp (disch := omega) only [gI_s, gJ_s, gR_s, gI_n, gJ_n, gR_n, gI_sJ, gI_sR, gI_sD, gJ_sI, gJ_sR, gJ_sD, gR_sI, gR_sJ, gR_sD]; exact ⟨trivial, trivial, trivial⟩
            · rw [put_n _ _ q, put_n _ _ q, put_n _ _ q]; simp (disch := omega) only [gI_s, gJ_s, gR_s, gI_n, gJ_n, gR_n, gI_sJ, gI_sR, gI_sD, gJ_sI, gJ_sR, gJ_sD, gR_sI, gR_sJ, gR_sD]; exact b f (by omega)
          · simp (disch := omega) only [gI_s, gJ_s, gR_s, gI_n, gJ_n, gR_n, gI_sJ, gI_sR, gI_sD, gJ_sI, gJ_sR, gJ_sD, gR_sI, gR_sJ, gR_sD]; exact ⟨c1, c2⟩
      · rw [if_neg c2]; exact hE (.inr (by unfold rg; rw [decide_eq_true (i_nle.mp c2)]; simp))
theorem mk_flip {n v : Nat} (f : Nat → Bool) (b : Bool) (hv : v < n) : mk n (put f v b) = if f v = b then mk n f else mk n f ^^^ 2 ^ v := by
  by_cases q : f v = b
  · rw [if_pos q]
    refine mk_ext (fun i hi => ?_)
    by_cases z : i = v
    · rw [z, put_s, q]
    · rw [put_n _ _ z]
  · rw [if_neg q]
    apply Nat.eq_of_testBit_eq
    intro i
    rw [Nat.testBit_xor, mk_bit, mk_bit, Nat.testBit_two_pow]
    by_cases z : i = v
    · subst z
      rw [put_s]
      cases hf : f i <;> cases b <;> simp_all
    · rw [put_n _ _ z]
      have : decide (v = i) = false := by simp; omega
      rw [this]; simp
theorem k_toggle {S : St} {a : Ab} (h : WF a) (hI : InvC S a) (hz : Tk S) (x : Int32) (P : Bool → St → Prop) (E : String → St → Prop) (hO : OutC S a sIA sIA (q_toggle a x) P E) : wp_X5_toggleConverter S x P E := by
  have hi8 := h.1.2
  unfold wp_X5_toggleConverter
  refine k_nodeX hI x _ ?_
  rcases ht : isn x (nD a) with _ | _
  · rw [if_neg (by decide)]
    exact hO.2 1 S (by unfold q_toggle; rw [ht]; rfl) (KC.rf hI hz)
  · rw [if_pos rfl]
    obtain ⟨v, hv, rfl⟩ := isn_t (by omega) ht
    rintro _ rfl
    have e0 : gI S 1 3 ^^^ 1 <<< (nI v &&& 31) = nI (mk 8 (cv (xC a v (!cv a v)))) := by
      rw [hI.1.2.2.2.1, n_one (by omega), n_xor]
      congr 1
      have := mk_flip (n := 8) (v := v) (cv a) (!cv a v) (by omega)
      rw [if_neg (by cases cv a v <;> decide)] at this
      exact this.symm
    rw [e0]
    have hlt : mk 8 (cv (xC a v (!cv a v))) < 2 ^ 31 := mk_lt32 _ (by omega)
    have hk : KC S (sI S 1 3 (nI (mk 8 (cv (xC a v (!cv a v)))))) (xC a v (!cv a v)) := by
      obtain ⟨⟨a0, a1, a2, a3, a4⟩, b, ⟨c1, c2⟩, d, f, g⟩ := hI
      refine KC.net (agr_sI (by omega) _ _ _) hz ?_ ?_ ?_ d f g
      · simp (disch := omega) only [gI_s, gJ_s, gR_s, gI_n, gJ_n, gR_n, gI_sJ, gI_sR, gI_sD, gJ_sI, gJ_sR, gJ_sD, gR_sI, gR_sJ, gR_sD]; exact ⟨a0, a1, a2, trivial, a4⟩
      · intro f hf; simp (disch := omega) only [gI_s, gJ_s, gR_s, gI_n, gJ_n, gR_n, gI_sJ, gI_sR, gI_sD, gJ_sI, gJ_sR, gJ_sD, gR_sI, gR_sJ, gR_sD]; exact b f hf
      · simp (disch := omega) only [gI_s, gJ_s, gR_s, gI_n, gJ_n, gR_n, gI_sJ, gI_sR, gI_sD, gJ_sI, gJ_sR, gJ_sD, gR_sI, gR_sJ, gR_sD]; exact ⟨c1, c2⟩
    have hO := fun (S' : St) => hO.1 (!cv a v) (xC a v (!cv a v)) S' (by unfold q_toggle; rw [ht, tN_nI (by omega)]; rfl)
    have hb : (mk 8 (cv (xC a v (!cv a v)))).testBit v = !cv a v := by
      rw [mk_bit, xC_cv, put_s, decide_eq_true (show v < 8 by omega), Bool.true_and]
    rw [gI_s]
    by_cases q : (nI (mk 8 (cv (xC a v (!cv a v)))) >>> (nI v &&& 31)) &&& 1 = 0
    · rw [if_pos q]
      rw [n_bit0 hlt (by omega), hb] at q
      exact Eq.mp (congrArg (fun b => P b _) q) (hO _ hk)
    · rw [if_neg q]
      rw [n_bit0 hlt (by omega), hb, Bool.not_eq_false] at q
      exact Eq.mp (congrArg (fun b => P b _) q) (hO _ hk)
theorem k_require {S : St} {a : Ab} (hI : InvC S a) (x : Int32) (P : St → Prop) (E : String → St → Prop) (hP : isn x (nF a) = true → P S) (hE : isn x (nF a) = false → E "java/lang/IndexOutOfBoundsException" S) : wp_X5_requireFibre S x P E := by
  unfold wp_X5_requireFibre
  refine k_fibX hI x _ ?_
  rcases ht : isn x (nF a) with _ | _
  · rw [if_neg (by decide)]; exact hE ht
  · rw [if_pos rfl]; exact hP ht
theorem k_cutset {S : St} {a : Ab} (hI : InvC S a) (hz : Tk S) (f : Nat) (b : Bool) : KC S (sI S 1 4 (nI (mk 14 (ct (xK a f b))))) (xK a f b) := by
  obtain ⟨⟨a0, a1, a2, a3, a4⟩, b, ⟨c1, c2⟩, d, f, g⟩ := hI
  refine KC.net (agr_sI (by omega) _ _ _) hz ?_ ?_ ?_ d f g
  · simp (disch := omega) only [gI_s, gJ_s, gR_s, gI_n, gJ_n, gR_n, gI_sJ, gI_sR, gI_sD, gJ_sI, gJ_sR, gJ_sD, gR_sI, gR_sJ, gR_sD]; exact ⟨a0, a1, a2, a3, trivial⟩
  · intro f hf; simp (disch := omega) only [gI_s, gJ_s, gR_s, gI_n, gJ_n, gR_n, gI_sJ, gI_sR, gI_sD, gJ_sI, gJ_sR, gJ_sD, gR_sI, gR_sJ, gR_sD]; exact b f hf
  · simp (disch := omega) only [gI_s, gJ_s, gR_s, gI_n, gJ_n, gR_n, gI_sJ, gI_sR, gI_sD, gJ_sI, gJ_sR, gJ_sD, gR_sI, gR_sJ, gR_sD]; exact ⟨c1, c2⟩
theorem k_cut {S : St} {a : Ab} (h : WF a) (hI : InvC S a) (hz : Tk S) (x : Int32) (P : Int32 → St → Prop) (E : String → St → Prop) (hO : OutC S a sIB sIS (q_cut a x) P E) : wp_X5_cut S x P E := by
  have h14 := h.2.2.1
  unfold wp_X5_cut
  refine k_require hI x _ _ (fun ht => ?_) (fun ht => hO.2 1 S (by unfold q_cut; rw [ht]; rfl) (KC.rf hI hz))
  obtain ⟨f, hf, rfl⟩ := isn_t (by omega) ht
  refine k_isCut hI (by omega) _ ?_
  rcases hc : ct a f with _ | _
  · rw [if_neg (by decide)]
    refine k_lightsUp h hI _ ?_
    rintro _ rfl
    have e0 : gI S 1 4 ||| 1 <<< (nI f &&& 31) = nI (mk 14 (ct (xK a f true))) := by
      rw [hI.1.2.2.2.2, n_one (by omega), n_or]
      congr 1
      apply Nat.eq_of_testBit_eq
      intro i
      rw [Nat.testBit_or, mk_bit, mk_bit, Nat.testBit_two_pow, xK_ct]
      by_cases z : i = f
      · rw [z, put_s, decide_eq_true (show f < 14 by omega)]; simp
      · rw [put_n _ _ z, decide_eq_false (show ¬ f = i by omega)]; simp
    rw [e0]
    have hk := k_cutset hI hz f true
    refine k_lightsUp (h.kK true hf) hk.2.1 _ ?_
    exact hO.1 _ (xK a f true) _ (by unfold q_cut; rw [ht, tN_nI (by omega), hc]; rfl) hk
  · rw [if_pos rfl]
    exact hO.2 2 S (by unfold q_cut; rw [ht, tN_nI (by omega), hc]; rfl) (KC.rf hI hz)
theorem k_repair {S : St} {a : Ab} (h : WF a) (hI : InvC S a) (hz : Tk S) (x : Int32) (P : Int32 → St → Prop) (E : String → St → Prop) (hO : OutC S a sIB sIS (q_repair a x) P E) : wp_X5_repair S x P E := by
  have h14 := h.2.2.1
  unfold wp_X5_repair
  refine k_require hI x _ _ (fun ht => ?_) (fun ht => hO.2 1 S (by unfold q_repair; rw [ht]; rfl) (KC.rf hI hz))
  obtain ⟨f, hf, rfl⟩ := isn_t (by omega) ht
  refine k_isCut hI (by omega) _ ?_
  rcases hc : ct a f with _ | _
  · rw [if_neg (by decide)]
    exact hO.2 2 S (by unfold q_repair; rw [ht, tN_nI (by omega), hc]; rfl) (KC.rf hI hz)
  · rw [if_pos rfl]
    refine k_lightsUp h hI _ ?_
    rintro _ rfl
    have e0 : gI S 1 4 &&& ((1 <<< (nI f &&& 31)) ^^^ (-1)) = nI (mk 14 (ct (xK a f false))) := by
      rw [hI.1.2.2.2.2, n_one (by omega), n_notand _ _ (mk_lt32 _ (by omega))]
      congr 1
      apply Nat.eq_of_testBit_eq
      intro i
      rw [Nat.testBit_and, mk_bit, mk_bit, xK_ct]
      by_cases hi : i < 14
      · rw [bit_notin (by omega), Nat.testBit_two_pow]
        by_cases z : i = f
        · rw [z, put_s]; simp
        · rw [put_n _ _ z, decide_eq_false (show ¬ f = i by omega)]; simp
      · rw [decide_eq_false hi]; simp
    rw [e0]
    have hk := k_cutset hI hz f false
    refine k_lightsUp (h.kK false hf) hk.2.1 _ ?_
    exact hO.1 _ (xK a f false) _ (by unfold q_repair; rw [ht, tN_nI (by omega), hc]; rfl) hk
theorem k_lightOn {S : St} {a : Ab} (h : WF a) (hI : InvC S a) (hz : Tk S) (x y : Int32) (P : Int32 → St → Prop) (E : String → St → Prop) (hO : OutC S a sIB sIA (q_lightOn a x y) P E) : wp_X5_lightOn S x y P E := by
  have h14 := h.2.2.1
  have hn := h.n60
  have hw8 := h.2.1.2
  unfold wp_X5_lightOn wp_X5_lightOn_20
  refine k_require hI x _ _ (fun ht => ?_) (fun ht => hO.2 1 S (by unfold q_lightOn; rw [ht]; rfl) (KC.rf hI hz))
  obtain ⟨f, hf, rfl⟩ := isn_t (by omega) ht
  have hE : isn y (nW a) = false → E "java/lang/IllegalArgumentException" S := by
    intro hr
    exact hO.2 2 S (by unfold q_lightOn; rw [ht, hr]; rfl) (KC.rf hI hz)
  rw [hI.1.2.1]
  by_cases c1 : y < 0
  · rw [if_pos c1]; exact hE (by unfold isn; simp [c1])
  · rw [if_neg c1]
    by_cases c2 : y < nI (nW a)
    · rw [if_pos c2]
      have r2 : isn y (nW a) = true := by unfold isn; rw [decide_eq_false c1, decide_eq_false (by rw [i_nle]; exact c2)]; rfl
      obtain ⟨w, hw, rfl⟩ := isn_t (by omega) r2
      have hP : P (uN (usr a f w)) S := hO.1 _ a S (by unfold q_lightOn; rw [ht, r2, tN_nI (by omega), tN_nI (by omega)]; rfl) (KC.rf hI hz)
      have key : ∀ n i : Nat, i ≤ nL a → nL a < n + i → (∀ l, l < i → onc (wy a l) (10 * f + w) = false) → wp_X5_lightOn_32 (nI f) (nI w) P E n S (nI i) := by
        intro n
        induction n with
        | zero => intro i h1 h2; omega
        | succ n ih =>
          intro i h1 h2 h3
          rw [wp_X5_lightOn_32]
          dsimp only
          rw [hI.2.2.1.1]
          by_cases q : i = nL a
          · rw [if_pos (by simp (disch := omega) only [n_0, n_1, n_2, n_3, n_7, n_8, n_9, n_10, n_12, n_14, n_18, n_20, n_60, n_112, n_162, n_255, n_1000, nI_add, n_mul, nI_ltI, nI_leI, nI_eq, nI_clamp]; omega)]
            rw [usr_none.mpr (fun l hl => h3 l (by omega))] at hP
            exact hP
          · have hi : i < nL a := by omega
            rw [if_neg (by simp (disch := omega) only [n_0, n_1, n_2, n_3, n_7, n_8, n_9, n_10, n_12, n_14, n_18, n_20, n_60, n_112, n_162, n_255, n_1000, nI_add, n_mul, nI_ltI, nI_leI, nI_eq, nI_clamp]; omega)]
            refine ⟨vp_in_nI (by omega) (by omega), ?_⟩
            rw [nI_clamp (by omega)]
            refine k_lwv h hi (hI.2.2.2.2.2 i hi) (by omega) _ ?_
            have hlt : lwv (wy a i) f < 2 ^ 31 := by
              have e := wun_lt h 60 (f := f) (i + 1) (by omega)
              rw [wun, if_neg (by omega)] at e
              have : lwv (wy a i) f ≤ wun a 60 f i ||| lwv (wy a i) f := Nat.right_le_or
              omega
            by_cases z : (nI (lwv (wy a i) f) >>> (nI w &&& 31)) &&& 1 = 0
            · rw [if_pos z]
              rw [n_bit0 hlt (by omega), lwv_onc _ (by omega)] at z
              rintro _ rfl
              rw [nI_1]
              refine ih (i + 1) (by omega) (by omega) (fun l hl => ?_)
              by_cases e : l = i
              · rw [e]; exact z
              · exact h3 l (by omega)
            · rw [if_neg z]
              rw [n_bit0 hlt (by omega), lwv_onc _ (by omega), Bool.not_eq_false] at z
              rw [(usr_some h).mpr ⟨hi, z⟩] at hP
              exact hP
      obtain ⟨N, hN⟩ : ∃ N, nL a < N := ⟨_, Nat.lt_succ_self _⟩
      exact ⟨N, key N 0 (by omega) (by omega) (fun l hl => absurd hl (Nat.not_lt_zero _))⟩
    · rw [if_neg c2]; exact hE (by unfold isn; rw [decide_eq_true (i_nlt.mp c2)]; simp)
