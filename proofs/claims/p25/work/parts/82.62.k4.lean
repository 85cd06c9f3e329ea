/-! THE PURE LAYER: the class merges, moves, counts wavelengths -/
theorem low_none {n : Nat} {p : Nat → Bool} (h : ∀ x, x < n → p x = false) : low n p = n := by
  rcases Nat.lt_or_ge (low n p) n with q | q
  · have := low_is q
    rw [h _ q] at this; cases this
  · have := low_le n p; omega
theorem low_congr : ∀ {n : Nat} {p q : Nat → Bool}, (∀ x, x < n → p x = q x) → low n p = low n q := by
  intro n
  induction n with
  | zero => intro p q _; rfl
  | succ n ih =>
    intro p q h
    rw [low, low, h 0 (by omega), ih (fun x hx => h (x + 1) (by omega))]
theorem k_canMerge {S : St} {a : Ab} {l g : Nat} (h : WF a) (hI : InvC S a) (hl : l < nL a) (hg : g < nL a) (P : Bool → St → Prop) (hP : P (mga a l g) S) : wp_X5_canMerge S (185 + 3 * l) (185 + 3 * g) P := by
  have hL := hI.2.2.2.2.2 l hl
  have hG := hI.2.2.2.2.2 g hg
  have hi8 := h.1.2
  obtain ⟨b1, b2, _, hul, _⟩ := h.lig l hl
  obtain ⟨b3, b4, _, hug, _⟩ := h.lig g hg
  unfold wp_X5_canMerge
  unfold mga at hP
  rw [hI.1.2.2.2.2]
  refine k_isUp h hl hL _ ?_
  rcases hu : lup a l with _ | _
  · rw [hu] at hP; rw [if_neg (by decide)]; exact hP
  · rw [hu, Bool.true_and] at hP
    rw [if_pos rfl, hI.1.2.2.2.2]
    refine k_isUp h hg hG _ ?_
    rcases hu2 : lup a g with _ | _
    · rw [hu2] at hP; rw [if_neg (by decide)]; exact hP
    · rw [hu2, Bool.true_and] at hP
      rw [if_pos rfl]
      have p1 := hL.prot h hl (lup_ne hu) 0
      have p2 := hG.prot h hg (lup_ne hu2) 0
      rw [if_neg (by decide)] at p1 p2
      by_cases c1 : gI S (185 + 3 * l) 5 = 0
      · rw [if_pos c1]
        rw [p1.mp c1, Bool.true_and] at hP
        by_cases c2 : gI S (185 + 3 * g) 5 = 0
        · rw [if_pos c2]
          rw [p2.mp c2, Bool.true_and] at hP
          rw [hG.1, hG.2.1]
          refine k_joins h hl hL (by omega) (by omega) _ ?_
          rcases hj : jns a l (sn a g) (en a g) with _ | _
          · rw [hj] at hP; rw [if_neg (by decide)]; exact hP
          · rw [hj, Bool.true_and] at hP
            rw [if_pos rfl, hL.2.2.1, hG.2.2.1, nI_add]
            by_cases c3 : units a l + units a g ≤ 10
            · rw [decide_eq_true c3] at hP; rw [if_neg (by simp (disch := omega) only [n_0, n_1, n_2, n_3, n_7, n_8, n_9, n_10, n_12, n_14, n_18, n_20, n_60, n_112, n_162, n_255, n_1000, nI_add, n_mul, nI_ltI, nI_leI, nI_eq, nI_clamp]; omega)]; exact hP
            · rw [decide_eq_false c3] at hP; rw [if_pos (by simp (disch := omega) only [n_0, n_1, n_2, n_3, n_7, n_8, n_9, n_10, n_12, n_14, n_18, n_20, n_60, n_112, n_162, n_255, n_1000, nI_add, n_mul, nI_ltI, nI_leI, nI_eq, nI_clamp]; omega)]; exact hP
        · rw [if_neg c2]
          have : ((wy a g).length == 1) = false := by rw [← Bool.not_eq_true]; exact fun z => c2 (p2.mpr z)
          rw [this] at hP; exact hP
      · rw [if_neg c1]
        have : ((wy a l).length == 1) = false := by rw [← Bool.not_eq_true]; exact fun z => c1 (p1.mpr z)
        rw [this] at hP; exact hP
theorem if_cg {A : Type} {b c : Prop} [Decidable b] [Decidable c] (h : b ↔ c) (x y : A) : (if b then x else y) = (if c then x else y) := by
  by_cases q : b
  · rw [if_pos q, if_pos (h.mp q)]
  · rw [if_neg q, if_neg (fun z => q (h.mpr z))]
theorem k_handOver {S : St} {a : Ab} {l g : Nat} (h : WF a) (hI : InvC S a) (hz : Tk S) (hl : l < nL a) (hg : g < nL a) (hlg : l ≠ g) (hu : units a l + units a g ≤ 10) (hup : wy a l ≠ []) (P : St → Prop) (hP : ∀ S', KC S S' (xM a l g) → P S') : wp_X5_handOver S (185 + 3 * g) (185 + 3 * l) P := by
  have hn := h.n60
  have hn2 := h.2.2.2.2.1
  unfold wp_X5_handOver
  have key : ∀ (N i : Nat) (S' : St), i ≤ nR a → nR a < N + i → agr (fun k => k ≠ 365) S S' → (∀ r, r < nR a → gR S' 365 r = (if de a r = 0 then none else some (185 + 3 * (if r < i then ca (xM a l g) r else ca a r)))) → wp_X5_handOver_2 (185 + 3 * g) (185 + 3 * l) P N S' (nI i) := by
    intro N
    induction N with
    | zero => intro i S' h1 h2; omega
    | succ N ih =>
      intro i S' h1 h2 hag hr
      rw [wp_X5_handOver_2]
      dsimp only
      rw [(hag 0 (by omega)).1, hI.2.2.1.2]
      by_cases q : i = nR a
      · rw [if_pos (by simp (disch := omega) only [n_0, n_1, n_2, n_3, n_7, n_8, n_9, n_10, n_12, n_14, n_18, n_20, n_60, n_112, n_162, n_255, n_1000, nI_add, n_mul, nI_ltI, nI_leI, nI_eq, nI_clamp]; omega)]
        unfold wp_X5_handOver_33
        rintro _ rfl _ rfl
        obtain ⟨g0, g1, g2, g3, g4, g5⟩ := hI
        have a5 : ∀ k j, k < nL a → gI S' (185 + 3 * k) j = gI S (185 + 3 * k) j := fun k j hk => (hag _ (by omega)).1 j
        refine hP _ (KC.req ?_ hz g0 g1 ?_ ?_ ?_ ?_)
        · exact ((hag.mo (fun k hk => by omega)).tr (agr_sI (by omega) _ _ _)).tr (agr_sI (by omega) _ _ _)
        · simp (disch := omega) only [gI_s, gJ_s, gR_s, gI_n, gJ_n, gR_n, gI_sJ, gI_sR, gI_sD, gJ_sI, gJ_sR, gJ_sD, gR_sI, gR_sJ, gR_sD]; rw [(hag 0 (by omega)).1, (hag 0 (by omega)).1]; exact g2
        · intro r hr2
          rw [xM_de]; simp (disch := omega) only [gI_s, gJ_s, gR_s, gI_n, gJ_n, gR_n, gI_sJ, gI_sR, gI_sD, gJ_sI, gJ_sR, gJ_sD, gR_sI, gR_sJ, gR_sD]
          have e1 : (if r < i then ca (xM a l g) r else ca a r) = ca (xM a l g) r := if_pos (by rw [q]; exact hr2)
          rw [hr r hr2, e1, (hag 366 (by omega)).1]
          exact ⟨rfl, (g3 r hr2).2⟩
        · intro k hk; simp (disch := omega) only [gI_s, gJ_s, gR_s, gI_n, gJ_n, gR_n, gI_sJ, gI_sR, gI_sD, gJ_sI, gJ_sR, gJ_sD, gR_sI, gR_sJ, gR_sD]; rw [(hag _ (by omega)).1]; exact g4 k hk
        · intro k hk
          rw [xM_nL] at hk
          obtain ⟨c1, c2, c3, c4, c5⟩ := g5 k hk
          rw [units_xM hlg, xM_wy, xM_sn, xM_en]
          have e3 : ∀ j, j ≠ 6 → gI (sI (sI S' (185 + 3 * l) 6 (gI S' (185 + 3 * l) 6 + gI S' (185 + 3 * g) 6)) (185 + 3 * g) 6 0) (185 + 3 * k) j = gI S (185 + 3 * k) j := fun j hj => by simp (disch := omega) only [gI_s, gJ_s, gR_s, gI_n, gJ_n, gR_n, gI_sJ, gI_sR, gI_sD, gJ_sI, gJ_sR, gJ_sD, gR_sI, gR_sJ, gR_sD]; exact a5 k j hk
          rw [e3 3 (by omega), e3 4 (by omega), e3 5 (by omega)]
          refine ⟨by omega, c1, c2, ?_, ?_, ?_⟩
          · by_cases z : k = l
            · subst z
              rw [if_pos rfl]; simp (disch := omega) only [gI_s, gJ_s, gR_s, gI_n, gJ_n, gR_n, gI_sJ, gI_sR, gI_sD, gJ_sI, gJ_sR, gJ_sD, gR_sI, gR_sJ, gR_sD]
              rw [a5 _ _ hl, a5 _ _ hg, c3, (g5 g hg).2.2.1, nI_add]
            · rw [if_neg z]
              by_cases z2 : k = g
              · subst z2; rw [if_pos rfl]; simp (disch := omega) only [gI_s, gJ_s, gR_s, gI_n, gJ_n, gR_n, gI_sJ, gI_sR, gI_sD, gJ_sI, gJ_sR, gJ_sD, gR_sI, gR_sJ, gR_sD]; rfl
              · rw [if_neg z2]; simp (disch := omega) only [gI_s, gJ_s, gR_s, gI_n, gJ_n, gR_n, gI_sJ, gI_sR, gI_sD, gJ_sI, gJ_sR, gJ_sD, gR_sI, gR_sJ, gR_sD]; rw [a5 _ _ hk]; exact c3
          · by_cases z : k = g
            · rw [z, put_s]; exact fun w hw => by cases hw
            · rw [put_n _ _ z]; exact c4
          · by_cases z : k = g
            · rw [z, put_s]; exact fun w v hw => by cases hw
            · rw [put_n _ _ z]; exact c5
      · have hi : i < nR a := by omega
        have hv : vp_in (nI i) 60 := vp_in_nI (by omega) (by omega)
        rw [if_neg (by simp (disch := omega) only [n_0, n_1, n_2, n_3, n_7, n_8, n_9, n_10, n_12, n_14, n_18, n_20, n_60, n_112, n_162, n_255, n_1000, nI_add, n_mul, nI_ltI, nI_leI, nI_eq, nI_clamp]; omega), nI_clamp (by omega), hr i hi, if_neg (Nat.lt_irrefl i)]
        have nx : (∀ r, r < nR a → gR S' 365 r = (if de a r = 0 then none else some (185 + 3 * (if r < i + 1 then ca (xM a l g) r else ca a r)))) → wp_X5_handOver_27 (185 + 3 * g) (185 + 3 * l) P (fun S a3 => wp_X5_handOver_2 (185 + 3 * g) (185 + 3 * l) P N S a3) S' (nI i) := by
          intro hr2
          unfold wp_X5_handOver_27
          rintro _ rfl
          rw [nI_1]
          exact ih (i + 1) S' (by omega) (by omega) hag hr2
        have same : (de a i ≠ 0 → ca a i ≠ g) → ∀ r, r < nR a → gR S' 365 r = (if de a r = 0 then none else some (185 + 3 * (if r < i + 1 then ca (xM a l g) r else ca a r))) := by
          intro hs r hr2
          rw [hr r hr2]
          by_cases z : r = i
          · subst z
            by_cases z2 : de a r = 0
            · rw [if_pos z2, if_pos z2]
            · rw [if_neg z2, if_neg z2, if_neg (Nat.lt_irrefl r), if_pos (Nat.lt_succ_self r), xM_ca, if_neg (fun y => hs z2 y.1)]
          · rw [if_cg (show (r < i) ↔ (r < i + 1) by omega)]
        refine ⟨hv, fun e => ?_, fun s e => ?_⟩
        · rw [if_neg (by simp)]
          refine nx (same (fun y => ?_))
          rw [if_neg y] at e; cases e
        · have hd : de a i ≠ 0 := fun y => by rw [if_pos y] at e; cases e
          rw [if_neg hd] at e
          cases e
          by_cases c : ca a i = g
          · rw [if_pos (by rw [c])]
            refine ⟨hv, ?_⟩
            rintro _ rfl
            unfold wp_X5_handOver_27
            rintro _ rfl
            rw [nI_1]
            refine ih (i + 1) _ (by omega) (by omega) (hag.tr (agr_sR (by omega) _ _ _)) (fun r hr2 => ?_)
            by_cases z : r = i
            · subst z
              rw [gR_s, if_neg hd, if_pos (Nat.lt_succ_self r), xM_ca, if_pos ⟨c, hd⟩]
            · rw [gR_n (by omega), hr r hr2]
              rw [if_cg (show (r < i) ↔ (r < i + 1) by omega)]
          · rw [if_neg (by intro y; injection y with y; omega)]
            exact nx (same (fun _ => c))
  obtain ⟨N, hN⟩ : ∃ N, nR a < N := ⟨_, Nat.lt_succ_self _⟩
  refine ⟨N, key N 0 S (by omega) (by omega) (agr.rf _ _) (fun r hr => ?_)⟩
  rw [if_neg (Nat.not_lt_zero r)]; exact (hI.2.2.2.1 r hr).1
theorem mga_t {a : Ab} {l g : Nat} (h : mga a l g = true) : wy a l ≠ [] ∧ units a l + units a g ≤ 10 := by
  unfold mga at h
  simp only [Bool.and_eq_true, decide_eq_true_iff] at h
  exact ⟨lup_ne h.1, h.2.2.2.2.2⟩
theorem k_merge {S : St} {a : Ab} (h : WF a) (hI : InvC S a) (hz : Tk S) (P : Int32 → St → Prop) (E : String → St → Prop) (hO : OutC S a sIS sIS (q_merge a) P E) : wp_X5_merge S P E := by
  have hn := h.n60
  unfold wp_X5_merge
  have key : ∀ (N i : Nat), i ≤ nL a → nL a < N + i → (∀ l, l < i → m1 a l = nL a) → wp_X5_merge_2 P E N S (nI i) := by
    intro N
    induction N with
    | zero => intro i h1 h2; omega
    | succ N ih =>
      intro i h1 h2 h3
      rw [wp_X5_merge_2]
      dsimp only
      rw [hI.2.2.1.1]
      by_cases q : i = nL a
      · rw [if_pos (by simp (disch := omega) only [n_0, n_1, n_2, n_3, n_7, n_8, n_9, n_10, n_12, n_14, n_18, n_20, n_60, n_112, n_162, n_255, n_1000, nI_add, n_mul, nI_ltI, nI_leI, nI_eq, nI_clamp]; omega)]
        unfold wp_X5_merge_71
        refine hO.2 1 S ?_ (KC.rf hI hz)
        unfold q_merge
        have e : m0 a = nL a := low_none (fun l hl => by rw [h3 l (by omega)]; simp)
        rw [e, if_neg (Nat.lt_irrefl _)]
      · have hi : i < nL a := by omega
        rw [if_neg (by simp (disch := omega) only [n_0, n_1, n_2, n_3, n_7, n_8, n_9, n_10, n_12, n_14, n_18, n_20, n_60, n_112, n_162, n_255, n_1000, nI_add, n_mul, nI_ltI, nI_leI, nI_eq, nI_clamp]; omega)]
        rintro _ rfl
        rw [nI_1]
        have inner : ∀ (M j : Nat), i < j → j ≤ nL a → nL a < M + j → (∀ g, i < g → g < j → mga a i g = false) → wp_X5_merge_14 P E (fun S a1 => wp_X5_merge_2 P E N S a1) M S (nI i) (nI j) := by
          intro M
          induction M with
          | zero => intro j h1 h2; omega
          | succ M ih2 =>
            intro j j0 j1 j2 j3
            rw [wp_X5_merge_14]
            dsimp only
            rw [hI.2.2.1.1]
            by_cases q2 : j = nL a
            · rw [if_pos (by simp (disch := omega) only [n_0, n_1, n_2, n_3, n_7, n_8, n_9, n_10, n_12, n_14, n_18, n_20, n_60, n_112, n_162, n_255, n_1000, nI_add, n_mul, nI_ltI, nI_leI, nI_eq, nI_clamp]; omega)]
              unfold wp_X5_merge_65
              rintro _ rfl
              rw [nI_1]
              refine ih (i + 1) (by omega) (by omega) (fun l hl => ?_)
              by_cases z : l = i
              · rw [z]
                refine low_none (fun g hg => ?_)
                by_cases z2 : i < g
                · rw [j3 g z2 (by omega)]; simp
                · rw [decide_eq_false z2]; rfl
              · exact h3 l (by omega)
            · have hj : j < nL a := by omega
              have hvi : vp_in (nI i) 60 := vp_in_nI (by omega) (by omega)
              have hvj : vp_in (nI j) 60 := vp_in_nI (by omega) (by omega)
              rw [if_neg (by simp (disch := omega) only [n_0, n_1, n_2, n_3, n_7, n_8, n_9, n_10, n_12, n_14, n_18, n_20, n_60, n_112, n_162, n_255, n_1000, nI_add, n_mul, nI_ltI, nI_leI, nI_eq, nI_clamp]; omega), nI_clamp (by omega), nI_clamp (by omega)]
              refine ⟨hvi, hvj, ?_⟩
              refine k_canMerge h hI hi hj _ ?_
              rcases hm : mga a i j with _ | _
              · rw [if_neg (by decide)]
                rintro _ rfl
                rw [nI_1]
                refine ih2 (j + 1) (by omega) (by omega) (by omega) (fun g g1 g2 => ?_)
                by_cases z : g = j
                · rw [z]; exact hm
                · exact j3 g g1 (by omega)
              · rw [if_pos rfl]
                unfold wp_X5_merge_41
                rw [nI_clamp (by omega), nI_clamp (by omega)]
                refine ⟨hvj, hvi, ?_⟩
                obtain ⟨hne, hu⟩ := mga_t hm
                refine k_handOver h hI hz hi hj (by omega) hu hne _ (fun S' hk => ?_)
                have e1 : m1 a i = j := low_uniq hj (by rw [decide_eq_true j0, hm]; rfl) (fun y hy => by
                  by_cases z : i < y
                  · rw [j3 y z hy]; simp
                  · rw [decide_eq_false z]; rfl)
                have e0 : m0 a = i := low_uniq hi (by rw [e1]; exact decide_eq_true hj) (fun y hy => by rw [h3 y hy]; simp)
                exact hO.1 _ _ S' (by unfold q_merge; rw [e0, e1, if_pos hi]) hk
        obtain ⟨M, hM⟩ : ∃ M, nL a < M := ⟨_, Nat.lt_succ_self _⟩
        exact ⟨M, inner M (i + 1) (by omega) (by omega) (by omega) (fun g g1 g2 => by omega)⟩
  obtain ⟨N, hN⟩ : ∃ N, nL a < N := ⟨_, Nat.lt_succ_self _⟩
  exact ⟨N, key N 0 (by omega) (by omega) (fun l hl => absurd hl (Nat.not_lt_zero _))⟩
/-! moving -/
theorem l_shlm (x : Int64) {i : Nat} (hi : i < 64) : x <<< (lN i &&& 63) = x * lN (2 ^ i) := by
  apply Int64.toBitVec_inj.1
  rw [Int64.toBitVec_shiftLeft, Int64.toBitVec_mul]
  show x.toBitVec <<< ((lN i &&& 63).toBitVec.smod 64).toNat = x.toBitVec * BitVec.ofNat 64 (2 ^ i)
  rw [l_sl i hi, BitVec.shiftLeft_eq_mul_twoPow]
  congr 1
  apply BitVec.eq_of_toNat_eq
  simp [BitVec.toNat_twoPow]
theorem l_mul (a b : Nat) : lN a * lN b = lN (a * b) := by
  apply Int64.toBitVec_inj.1
  rw [Int64.toBitVec_mul]
  show BitVec.ofNat 64 a * BitVec.ofNat 64 b = BitVec.ofNat 64 (a * b)
  apply BitVec.eq_of_toNat_eq
  simp [Nat.mul_mod]
theorem l_dif : ∀ x, x < 10 → ∀ y, y < 10 → (nI x - nI y).toInt64 = lN x - lN y := by decide +kernel
/-- one in each of the lowest bytes -/
def rep : Nat → Nat
  | 0 => 0
  | n + 1 => rep n + 256 ^ n
theorem byt_mv {x y : Nat} : ∀ (l : List Nat), (∀ c ∈ l, c % 10 = y) → byt (l.map (fun c => c / 10 * 10 + x)) + y * rep l.length = byt l + x * rep l.length := by
  intro l
  induction l with
  | nil => intro _; rfl
  | cons c l ih =>
    intro h
    have ih := ih (fun d hd => h d (List.mem_cons_of_mem _ hd))
    have hc := h c List.mem_cons_self
    rw [List.map_cons, byt_cons, byt_cons, List.length_map, List.length_cons, rep]
    generalize 256 ^ l.length = B at *
    have e : B * (c / 10 * 10 + x) + y * B = B * c + x * B := by
      rw [Nat.mul_comm y B, Nat.mul_comm x B, ← Nat.mul_add, ← Nat.mul_add]
      congr 1; omega
    have e1 : y * (rep l.length + B) = y * rep l.length + y * B := Nat.mul_add _ _ _
    have e2 : x * (rep l.length + B) = x * rep l.length + x * B := Nat.mul_add _ _ _
    rw [e1, e2]
    omega
theorem hd_at (l : List Nat) (h : 0 < l.length) : l.headD 0 = l[0]'h := by
  cases l with
  | nil => simp at h
  | cons x l => rfl
theorem k_shift {S : St} {k x : Nat} {w : Wy} (hR : RepC S k w) (hs : SW w) (hne : w.1 ≠ []) (hx : x < 8) (hc : ∀ c ∈ w.1, c % 10 = w.1.headD 0 % 10) (P : St → Prop) (hP : ∀ S', agr (fun q => q ≠ k) S S' → RepC S' k (mvd x w) → P S') : wp_X3_shiftTo S k (nI x) P := by
  have hlen : 0 < w.1.length := by
    rcases hq : w.1 with _ | ⟨z, r⟩
    · exact absurd hq hne
    · simp
  have hhd : w.1.headD 0 = w.1[0]'hlen := hd_at _ hlen
  have h7 := hs.1
  rw [hhd] at hc
  unfold wp_X3_shiftTo
  refine k_first hR hs hlen _ ?_
  rintro _ rfl
  rw [l_dif x (by omega) _ (Nat.mod_lt _ (by omega))]
  generalize hy : w.1[0]'hlen % 10 = y at *
  have key : ∀ (N i : Nat) (S' : St), i ≤ w.1.length → w.1.length < N + i → agr (fun q => q ≠ k) S S' → (∀ j, gI S' k j = gI S k j) → gJ S' k 4 = lN (byt w.1) + (lN x - lN y) * lN (rep i) → wp_X3_shiftTo_11 k (nI x) P N S' (lN x - lN y) (nI i) := by
    intro N
    induction N with
    | zero => intro i S' h1 h2; omega
    | succ N ih =>
      intro i S' h1 h2 hag hg hJ
      rw [wp_X3_shiftTo_11]
      dsimp only
      rw [hg, hR.1]
      by_cases q : i = w.1.length
      · rw [if_pos (by simp (disch := omega) only [n_0, n_1, n_2, n_3, n_7, n_8, n_9, n_10, n_12, n_14, n_18, n_20, n_60, n_112, n_162, n_255, n_1000, nI_add, n_mul, nI_ltI, nI_leI, nI_eq, nI_clamp]; omega)]
        refine hP _ hag ?_
        obtain ⟨r0, r1, r2, r3, r4⟩ := hR
        refine ⟨?_, ?_, ?_, ?_, ?_⟩
        · rw [hg, r0]; show _ = nI (List.map _ w.1).length; rw [List.length_map]
        · rw [hg, r1]; rfl
        · rw [hg, r2]; rfl
        · rw [hg, r3]
          congr 1
          unfold fbs mvd
          refine mk_ext (fun f _ => ?_)
          rw [List.any_map]
          congr 1
          funext c
          show (c / 10 == f) = ((c / 10 * 10 + x) / 10 == f)
          congr 1; omega
        · rw [hJ, q]
          show _ = lN (byt (w.1.map (fun c => c / 10 * 10 + x)))
          have e := byt_mv (x := x) (y := y) w.1 hc
          have e2 : lN (byt (w.1.map (fun c => c / 10 * 10 + x))) + lN y * lN (rep w.1.length) = lN (byt w.1) + lN x * lN (rep w.1.length) := by
            rw [l_mul, l_mul, l_add, l_add, e]
          rw [Int64.sub_mul]
          generalize lN (byt (w.1.map (fun c => c / 10 * 10 + x))) = A at *
          generalize lN y * lN (rep w.1.length) = B at *
          generalize lN (byt w.1) = C at *
          generalize lN x * lN (rep w.1.length) = D at *
          rw [Int64.sub_eq_add_neg, ← Int64.add_assoc, ← e2, ← Int64.sub_eq_add_neg, Int64.add_sub_cancel]
      · rw [if_neg (by simp (disch := omega) only [n_0, n_1, n_2, n_3, n_7, n_8, n_9, n_10, n_12, n_14, n_18, n_20, n_60, n_112, n_162, n_255, n_1000, nI_add, n_mul, nI_ltI, nI_leI, nI_eq, nI_clamp]; omega)]
        rintro _ rfl _ rfl
        rw [nI_1]
        refine ih (i + 1) _ (by omega) (by omega) (hag.tr (agr_sJ (by omega) _ _ _)) (fun j => by rw [gI_sJ]; exact hg j) ?_
        rw [gJ_s, hJ, n_8, n_mul, nI_l (by omega), l_shlm _ (by omega), rep, ← l_add, Int64.mul_add, Int64.add_assoc]
        congr 3
        rw [Nat.pow_mul]
  obtain ⟨N, hN⟩ : ∃ N, w.1.length < N := ⟨_, Nat.lt_succ_self _⟩
  refine ⟨N, key N 0 S (by omega) (by omega) (agr.rf _ _) (fun _ => rfl) ?_⟩
  rw [hR.2.2.2.2]
  show lN (byt w.1) = lN (byt w.1) + (lN x - lN y) * lN 0
  rw [show lN 0 = 0 from rfl, Int64.mul_zero, Int64.add_zero]
theorem low_neg : ∀ u, u < 256 → ∀ i, i < 8 → (((nI u ^^^ (-1)) >>> (nI i &&& 31)) &&& 1 = 0 ↔ u.testBit i = true) := by decide +kernel
/-- the wavelengths that are used on a way's fibres below a number -/
def usd (a : Ab) (w : Wy) : Nat → Nat
  | 0 => 0
  | f + 1 => if w.1.any (fun c => c / 10 == f) = true then usd a w f ||| wun a 60 f (nL a) else usd a w f
theorem usd_lt {a : Ab} (h : WF a) (w : Wy) : ∀ n, usd a w n < 2 ^ 8 := by
  intro n
  induction n with
  | zero => simp [usd]
  | succ n ih =>
    rw [usd]
    split
    · exact Nat.or_lt_two_pow ih (wun_lt h 60 _ (Nat.le_refl _))
    · exact ih
theorem usd_bit {a : Ab} (h : WF a) (w : Wy) {x : Nat} (hx : x < 8) : ∀ n, (usd a w n).testBit x = true ↔ ∃ c ∈ w.1, c / 10 < n ∧ usr a (c / 10) x ≠ none := by
  have hn := h.n60
  have hu : ∀ f, (wun a 60 f (nL a)).testBit x = true ↔ usr a f x ≠ none := by
    intro f
    rw [wun_bit _ _ _ _ (by omega)]
    constructor
    · rintro ⟨l, h1, _, h3⟩ z
      rw [usr_none.mp z l h1] at h3; cases h3
    · intro z
      rcases hq : usr a f x with _ | l
      · exact absurd hq z
      · rw [usr_some h] at hq
        exact ⟨l, hq.1, by omega, hq.2⟩
  intro n
  induction n with
  | zero => simp [usd]
  | succ n ih =>
    rw [usd]
    by_cases q : w.1.any (fun c => c / 10 == n) = true
    · rw [if_pos q, Nat.testBit_or, Bool.or_eq_true, ih, hu]
      rw [List.any_eq_true] at q
      obtain ⟨d, hd, he⟩ := q
      have he : d / 10 = n := by simpa using he
      constructor
      · rintro (⟨c, h1, h2, h3⟩ | h3)
        · exact ⟨c, h1, by omega, h3⟩
        · exact ⟨d, hd, by omega, by rw [he]; exact h3⟩
      · rintro ⟨c, h1, h2, h3⟩
        by_cases z : c / 10 = n
        · right; rw [← z]; exact h3
        · exact .inl ⟨c, h1, by omega, h3⟩
    · rw [if_neg q, ih]
      constructor
      · rintro ⟨c, h1, h2, h3⟩; exact ⟨c, h1, by omega, h3⟩
      · rintro ⟨c, h1, h2, h3⟩
        refine ⟨c, h1, ?_, h3⟩
        rcases Nat.lt_or_ge (c / 10) n with z | z
        · exact z
        · exact absurd (List.any_eq_true.mpr ⟨c, h1, by simp; omega⟩) q
theorem lwf_usd {a : Ab} (h : WF a) {w : Wy} (hg : GW a w) : low 8 (fun i => !(usd a w (nF a)).testBit i) = lwf a w := by
  unfold lwf
  refine low_congr (fun x hx => ?_)
  rw [Bool.eq_iff_iff, Bool.not_eq_true', ← Bool.not_eq_true, usd_bit h w hx, List.all_eq_true]
  constructor
  · intro z c hc
    rw [Option.isNone_iff_eq_none]
    apply Classical.byContradiction
    intro y
    exact z ⟨c, hc, (hg.2.2.1 c hc).1, y⟩
  · rintro z ⟨c, hc, _, y⟩
    have := z c hc
    rw [Option.isNone_iff_eq_none] at this
    exact y this
theorem k_lower {S : St} {a : Ab} {k : Nat} {w : Wy} (h : WF a) (hI : InvC S a) (hR : RepC S k w) (hg : GW a w) (P : Bool → St → Prop) (h0 : mvb a w = false → P false S)
    (h1 : mvb a w = true → ∀ S', agr (fun q => q ≠ k) S S' → RepC S' k (mvd (lwf a w) w) → P true S') : wp_X5_lowerWavelength_s S k P := by
  have h14 := h.2.2.1
  have hs := hg.sw h14 h.2.1.2
  have h77 := hs.2.2.2
  have hne : w.1 ≠ [] := fun z => by have := hg.1; rw [z] at this; simp at this
  have hlen : 0 < w.1.length := hg.1
  have hhd : w.1.headD 0 = w.1[0]'hlen := hd_at _ hlen
  unfold wp_X5_lowerWavelength_s
  rw [hR.2.2.1]
  by_cases c0 : w.2.2 = 0
  · rw [if_pos (by rw [c0]; decide)]
    have key : ∀ (N i : Nat), i ≤ nF a → nF a < N + i → wp_X5_lowerWavelength_s_17 k P N S (nI (usd a w i)) (nI i) := by
      intro N
      induction N with
      | zero => intro i i1 i2; omega
      | succ N ih =>
        intro i i1 i2
        rw [wp_X5_lowerWavelength_s_17]
        dsimp only
        rw [hI.1.2.2.1]
        by_cases q : i = nF a
        · rw [if_pos (by simp (disch := omega) only [n_0, n_1, n_2, n_3, n_7, n_8, n_9, n_10, n_12, n_14, n_18, n_20, n_60, n_112, n_162, n_255, n_1000, nI_add, n_mul, nI_ltI, nI_leI, nI_eq, nI_clamp]; omega)]
          unfold wp_X5_lowerWavelength_s_51
          have hul := usd_lt h w (nF a)
          rw [q]
          refine k_lowestIn _ (fun i => !(usd a w (nF a)).testBit i) (fun j hj => ?_) _ ?_
          · rw [low_neg _ (by omega) j hj]; cases (usd a w (nF a)).testBit j <;> simp
          · rw [lwf_usd h hg]
            refine k_first hR hs hlen _ ?_
            have hl8 : lwf a w ≤ 8 := low_le _ _
            have hm : w.1[0]'hlen % 10 < 10 := Nat.mod_lt _ (by omega)
            have hc8 := (hs.2.1 _ (List.getElem_mem hlen)).2
            by_cases c : lwf a w < w.1[0]'hlen % 10
            · rw [if_pos (by rw [nI_ltI (by omega) (by omega)]; exact c)]
              have hb : mvb a w = true := by unfold mvb; rw [c0, hhd, decide_eq_true c]; rfl
              refine k_shift hR hs hne (by omega) ?_ _ (h1 hb)
              have hch : chg w.1 = 0 := by rw [← hg.2.2.2.2.1]; exact c0
              rcases hq : w.1 with _ | ⟨z, r⟩
              · exact absurd hq hne
              · rw [hq] at hch
                exact chg_zero r z hch
            · rw [if_neg (by rw [nI_ltI (by omega) (by omega)]; exact c)]
              exact h0 (by unfold mvb; rw [hhd, decide_eq_false c]; simp)
        · rw [if_neg (by simp (disch := omega) only [n_0, n_1, n_2, n_3, n_7, n_8, n_9, n_10, n_12, n_14, n_18, n_20, n_60, n_112, n_162, n_255, n_1000, nI_add, n_mul, nI_ltI, nI_leI, nI_eq, nI_clamp]; omega)]
          refine k_uses hR hs (by omega) _ ?_
          have ih := ih (i + 1) (by omega) (by omega)
          rw [usd] at ih
          unfold wp_X5_lowerWavelength_s_45
          by_cases z : w.1.any (fun c => c / 10 == i) = true
          · rw [if_pos z] at ih ⊢
            refine k_wun_n h hI (by omega) _ ?_
            rintro _ rfl _ rfl
            rw [n_or, nI_1]; exact ih
          · rw [if_neg z] at ih ⊢
            rintro _ rfl
            rw [nI_1]; exact ih
    obtain ⟨N, hN⟩ : ∃ N, nF a < N := ⟨_, Nat.lt_succ_self _⟩
    exact ⟨N, key N 0 (by omega) (by omega)⟩
  · rw [if_neg (by simp (disch := omega) only [n_0, n_1, n_2, n_3, n_7, n_8, n_9, n_10, n_12, n_14, n_18, n_20, n_60, n_112, n_162, n_255, n_1000, nI_add, n_mul, nI_ltI, nI_leI, nI_eq, nI_clamp]; omega)]
    exact h0 (by unfold mvb; rw [show (w.2.2 == 0) = false by simp; exact c0]; rfl)
theorem KC.way {S S' : St} {a : Ab} {l i : Nat} {w v : Wy} (h : WF a) (hI : InvC S a) (hz : Tk S) (hl : l < nL a) (hw : (wy a l)[i]? = some w) (hag : agr (fun q => q ≠ 186 + 3 * l + i) S S') (hR : RepC S' (186 + 3 * l + i) v) : KC S S' (xW a l ((wy a l).set i v)) := by
  have hn := h.n60
  obtain ⟨hi2, _⟩ := (h.ways hl).2 i w hw
  obtain ⟨g0, g1, g2, g3, g4, g5⟩ := hI
  refine ⟨hag.mo (fun k hk => by omega), ⟨?_, ?_, ?_, ?_, ?_, ?_⟩, hz.ag (hag 183 (by omega))⟩
  · rw [(hag 1 (by omega)).1, (hag 1 (by omega)).1, (hag 1 (by omega)).1, (hag 1 (by omega)).1, (hag 1 (by omega)).1]; exact g0
  · intro f hf2
    rw [(hag 2 (by omega)).1, (hag 3 (by omega)).1, (hag 4 (by omega)).1]; exact g1 f hf2
  · rw [(hag 0 (by omega)).1, (hag 0 (by omega)).1]; exact g2
  · intro r hr
    rw [(hag 365 (by omega)).2.2.1, (hag 366 (by omega)).1]; exact g3 r hr
  · intro k hk2
    rw [(hag _ (by omega)).1]; exact g4 k hk2
  · intro k hk
    rw [xW_nL] at hk
    have c5 := hag (185 + 3 * k) (by omega)
    obtain ⟨d1, d2, d3, d4, d5⟩ := g5 k hk
    unfold LtC
    rw [c5.1, c5.1, c5.1, c5.1, xW_wy]
    refine ⟨d1, d2, d3, ?_⟩
    by_cases z : k = l
    · subst z
      rw [put_s]
      obtain ⟨_, _, _, _, hc⟩ := h.lt hk
      rcases hc with ⟨q, _⟩ | ⟨w1, q, _⟩ | ⟨w1, w2, q, _⟩
      · rw [q] at hw; simp at hw
      · rw [q] at hw ⊢
        have hi0 : i = 0 := by
          obtain ⟨y, _⟩ := List.getElem?_eq_some_iff.mp hw
          simp at y; omega
        subst hi0
        refine ⟨fun w3 hw3 => ?_, fun w3 v3 hw3 => by simp at hw3⟩
        have : v = w3 := by simpa using hw3
        rw [← this]
        exact ⟨(d4 w1 q).1, hR⟩
      · rw [q] at hw ⊢
        have hi01 : i = 0 ∨ i = 1 := by omega
        refine ⟨fun w3 hw3 => by rcases hi01 with rfl | rfl <;> simp at hw3, fun w3 v3 hw3 => ?_⟩
        obtain ⟨e1, e2, e3⟩ := d5 w1 w2 q
        rcases hi01 with rfl | rfl
        · have : v = w3 ∧ w2 = v3 := by simpa using hw3
          rw [← this.1, ← this.2]
          exact ⟨e1, hR, e3.ag (hag _ (by omega))⟩
        · have : w1 = w3 ∧ v = v3 := by simpa using hw3
          rw [← this.1, ← this.2]
          exact ⟨e1, e2.ag (hag _ (by omega)), by rw [show 187 + 3 * k = 186 + 3 * k + 1 by omega]; exact hR⟩
    · rw [put_n _ _ z]
      exact ⟨fun w3 hw => ⟨(d4 w3 hw).1, (d4 w3 hw).2.ag (hag _ (by omega))⟩, fun w3 v hw => ⟨(d5 w3 v hw).1, (d5 w3 v hw).2.1.ag (hag _ (by omega)), (d5 w3 v hw).2.2.ag (hag _ (by omega))⟩⟩
theorem k_move {S : St} {a : Ab} (h : WF a) (hI : InvC S a) (hz : Tk S) (P : Int32 → St → Prop) (E : String → St → Prop) (hO : OutC S a sIS sIS (q_move a) P E) : wp_X5_move S P E := by
  have hn := h.n60
  unfold wp_X5_move
  have key : ∀ (N i : Nat), i ≤ nL a → nL a < N + i → (∀ l, l < i → ¬ mv1 a l < (wy a l).length) → wp_X5_move_2 P E N S (nI i) := by
    intro N
    induction N with
    | zero => intro i h1 h2; omega
    | succ N ih =>
      intro i h1 h2 h3
      rw [wp_X5_move_2]
      dsimp only
      rw [hI.2.2.1.1]
      by_cases q : i = nL a
      · rw [if_pos (by simp (disch := omega) only [n_0, n_1, n_2, n_3, n_7, n_8, n_9, n_10, n_12, n_14, n_18, n_20, n_60, n_112, n_162, n_255, n_1000, nI_add, n_mul, nI_ltI, nI_leI, nI_eq, nI_clamp]; omega)]
        unfold wp_X5_move_49
        refine hO.2 1 S ?_ (KC.rf hI hz)
        unfold q_move
        have e : mv0 a = nL a := low_none (fun l hl => decide_eq_false (h3 l (by omega)))
        rw [e, if_neg (Nat.lt_irrefl _)]
      · have hi : i < nL a := by omega
        have hL := hI.2.2.2.2.2 i hi
        rw [if_neg (by simp (disch := omega) only [n_0, n_1, n_2, n_3, n_7, n_8, n_9, n_10, n_12, n_14, n_18, n_20, n_60, n_112, n_162, n_255, n_1000, nI_add, n_mul, nI_ltI, nI_leI, nI_eq, nI_clamp]; omega), nI_clamp (by omega)]
        refine ⟨vp_in_nI (by omega) (by omega), ?_⟩
        have ways := (h.ways hi).2
        have h2w := (h.ways hi).1
        -- the light goes on to the next one
        have nx : (∀ (j : Nat) (w : Wy), (wy a i)[j]? = some w → mvb a w = false) → ∀ y43 : Int32, y43 = nI i + 1 → wp_X5_move_2 P E N S y43 := by
          rintro hno _ rfl
          rw [nI_1]
          refine ih (i + 1) (by omega) (by omega) (fun l hl => ?_)
          by_cases e : l = i
          · rw [e]
            have : mv1 a i = (wy a i).length := low_none (fun j hj => by
              rw [List.getElem?_eq_getElem hj]
              exact hno j _ (List.getElem?_eq_getElem hj))
            omega
          · exact h3 l (by omega)
        -- a way is moved
        have mvs : ∀ (j : Nat) (w : Wy), (wy a i)[j]? = some w → mvb a w = true → (∀ (j' : Nat) (w' : Wy), j' < j → (wy a i)[j']? = some w' → mvb a w' = false) → ∀ S', agr (fun q => q ≠ 186 + 3 * i + j) S S' → RepC S' (186 + 3 * i + j) (mvd (lwf a w) w) → P (nI i) S' := by
          intro j w hw hb hno S' hag hR
          obtain ⟨hj, _⟩ := List.getElem?_eq_some_iff.mp hw
          have e1 : mv1 a i = j := low_uniq hj (by rw [hw]; exact hb) (fun y hy => by
            rw [List.getElem?_eq_getElem (by omega)]
            exact hno y _ hy (List.getElem?_eq_getElem (by omega)))
          have e0 : mv0 a = i := low_uniq hi (by rw [e1]; exact decide_eq_true hj) (fun y hy => decide_eq_false (h3 y hy))
          have e2 : mvw a i j = xW a i ((wy a i).set j (mvd (lwf a w) w)) := by unfold mvw; rw [hw]
          refine hO.1 _ _ S' (by unfold q_move; rw [e0, e1, if_pos hi]) ?_
          rw [e2]
          exact KC.way h hI hz hi hw hag hR
        refine k_wayAt h hi hL 0 _ (fun j w hj hy hw hR hs => ?_) (fun hno => ?_)
        · have hj0 : j = 0 := by
            have : nI 0 = nI j := hy
            rw [nI_eq (by omega) (by omega)] at this; omega
          subst hj0
          refine ⟨fun z => by (cases z), fun s hs2 => ?_⟩
          cases hs2
          refine k_lower h hI hR (ways 0 w hw).2.1 _ (fun hb => ?_) (fun hb S' hag hR2 => ?_)
          · rw [if_neg (by decide)]
            refine k_wayAt h hi hL 1 _ (fun j w2 hj hy hw2 hR hs => ?_) (fun hno => ?_)
            · have hj1 : j = 1 := by
                have : nI 1 = nI j := hy
                rw [nI_eq (by omega) (by omega)] at this; omega
              subst hj1
              refine ⟨fun z => by (cases z), fun s hs2 => ?_⟩
              cases hs2
              refine k_lower h hI hR (ways 1 w2 hw2).2.1 _ (fun hb2 => ?_) (fun hb2 S' hag hR2 => ?_)
              · rw [if_neg (by decide)]
                refine nx (fun j w3 hw3 => ?_)
                have : j = 0 ∨ j = 1 := by
                  obtain ⟨y, _⟩ := List.getElem?_eq_some_iff.mp hw3
                  omega
                rcases this with rfl | rfl
                · rw [hw] at hw3; cases hw3; exact hb
                · rw [hw2] at hw3; cases hw3; exact hb2
              · rw [if_pos rfl]
                refine mvs 1 w2 hw2 hb2 (fun j' w' hj' hw' => ?_) S' hag hR2
                have : j' = 0 := by omega
                subst this
                rw [hw] at hw'; cases hw'; exact hb
            · refine ⟨fun _ => ?_, fun s hs2 => by cases hs2⟩
              unfold wp_X5_lowerWavelength_n
              dsimp only
              rw [if_neg (by decide)]
              refine nx (fun j w3 hw3 => ?_)
              have : j = 0 ∨ j = 1 := by
                obtain ⟨y, _⟩ := List.getElem?_eq_some_iff.mp hw3
                omega
              rcases this with rfl | rfl
              · rw [hw] at hw3; cases hw3; exact hb
              · obtain ⟨y, _⟩ := List.getElem?_eq_some_iff.mp hw3
                exact absurd rfl (hno 1 y)
          · rw [if_pos rfl]
            exact mvs 0 w hw hb (fun j' w' hj' hw' => by omega) S' hag hR2
        · have hnil : wy a i = [] := by
            rcases hq : wy a i with _ | ⟨w, r⟩
            · rfl
            · exact absurd rfl (hno 0 (by rw [hq]; simp))
          have nxx := nx (fun j w hw => by rw [hnil] at hw; simp at hw)
          refine ⟨fun _ => ?_, fun s hs2 => by cases hs2⟩
          unfold wp_X5_lowerWavelength_n
          dsimp only
          rw [if_neg (by decide)]
          refine k_wayAt h hi hL 1 _ (fun j w hj hy hw hR hs => by rw [hnil] at hw; simp at hw) (fun hno => ?_)
          refine ⟨fun _ => ?_, fun s hs2 => by cases hs2⟩
          rw [if_neg (by decide)]
          exact nxx
  obtain ⟨N, hN⟩ : ∃ N, nL a < N := ⟨_, Nat.lt_succ_self _⟩
  exact ⟨N, key N 0 (by omega) (by omega) (fun l hl => absurd hl (Nat.not_lt_zero _))⟩
/-! the least number of wavelengths -/
def alv (a : Ab) (n : Nat) : List Nat := (List.range n).filter (fun l => !(wy a l).isEmpty)
def fwb (a : Ab) (l : Nat) : Nat := match wy a l with
  | [] => 0
  | w :: _ => fbs w
def FL (a : Ab) (i : Nat) : Nat := match (alv a (nL a))[i]? with
  | none => 0
  | some l => fwb a l
theorem alv_succ (a : Ab) (n : Nat) : alv a (n + 1) = if wy a n = [] then alv a n else alv a n ++ [n] := by
  unfold alv
  rw [List.range_succ, List.filter_append]
  rcases hq : wy a n with _ | ⟨w, r⟩
  · rw [if_pos rfl]; simp [hq]
  · rw [if_neg (by simp)]; simp [hq]
theorem alv_len (a : Ab) (n : Nat) : (alv a n).length = cnt n (fun l => !(wy a l).isEmpty) := by
  induction n with
  | zero => rfl
  | succ n ih =>
    rw [alv_succ, cnt, ← ih]
    rcases hq : wy a n with _ | ⟨w, r⟩
    · simp
    · simp
theorem alv_pre (a : Ab) {n m : Nat} (h : n ≤ m) : ∃ r, alv a m = alv a n ++ r := by
  induction m with
  | zero => have : n = 0 := by omega
            subst this; exact ⟨[], by simp⟩
  | succ m ih =>
    by_cases q : n = m + 1
    · subst q; exact ⟨[], by simp⟩
    · obtain ⟨r, hr⟩ := ih (by omega)
      rw [alv_succ]
      split
      · exact ⟨r, hr⟩
      · exact ⟨r ++ [m], by rw [hr, List.append_assoc]⟩
theorem alv_at (a : Ab) {n : Nat} (hn : n < nL a) (hw : wy a n ≠ []) : (alv a (nL a))[(alv a n).length]? = some n := by
  obtain ⟨r, hr⟩ := alv_pre a (n := n + 1) (m := nL a) (by omega)
  rw [hr, alv_succ, if_neg hw, List.append_assoc, List.getElem?_append_right (Nat.le_refl _)]
  simp
theorem FL_lt (a : Ab) (i : Nat) : FL a i < 2 ^ 14 := by
  unfold FL
  split
  · omega
  · unfold fwb
    split
    · omega
    · exact fbs_lt _
theorem k_need {S : St} {a : Ab} (h : WF a) (hI : InvC S a) (hz : Tk S) (P : Int32 → St → Prop) (hP : ∀ S' k, KC S S' a → chr (lvs a) (FL a) k → P (nI k) S') : wp_X5_wavelengthsNeeded S P := by
  have hn := h.n60
  have h12 := h.l12
  unfold wp_X5_wavelengthsNeeded wp_X0_clear
  rintro _ rfl
  have key : ∀ (N i : Nat) (S' : St), i ≤ nL a → nL a < N + i → agr (fun k => k ≠ 181 ∧ k ≠ 182) S S' → gI S' 181 2 = nI (alv a i).length → (∀ j, j < (alv a i).length → gI S' 182 j = nI (FL a j)) → wp_X5_wavelengthsNeeded_9 P N S' (nI i) := by
    intro N
    induction N with
    | zero => intro i S' h1 h2; omega
    | succ N ih =>
      intro i S' h1 h2 hag hc hf
      have hI' : InvC S' a := hI.ag hn (hag.mo (fun k hk => by unfold CC at hk; omega))
      rw [wp_X5_wavelengthsNeeded_9]
      dsimp only
      rw [hI'.2.2.1.1]
      have hlen : (alv a i).length ≤ 12 := by
        obtain ⟨r, hr⟩ := alv_pre a (n := i) (m := nL a) h1
        have := alv_len a (nL a)
        rw [hr, List.length_append] at this
        have e : lvs a = cnt (nL a) (fun l => !(wy a l).isEmpty) := rfl
        omega
      by_cases q : i = nL a
      · rw [if_pos (by simp (disch := omega) only [n_0, n_1, n_2, n_3, n_7, n_8, n_9, n_10, n_12, n_14, n_18, n_20, n_60, n_112, n_162, n_255, n_1000, nI_add, n_mul, nI_ltI, nI_leI, nI_eq, nI_clamp]; omega)]
        unfold wp_X5_wavelengthsNeeded_54
        have e : (alv a i).length = lvs a := by rw [q]; exact alv_len a (nL a)
        rw [e] at hc hf
        refine k_least (n := lvs a) (F := FL a) ⟨hc, hf, fun c hc2 => ?_⟩ h12 (FL_lt a) _ (fun S2 h2 k hk => ?_)
        · rw [(hag 183 (by omega)).1]; exact hz c hc2
        · have hag2 : agr (fun k => k ≠ 181 ∧ k ≠ 182) S S2 := hag.tr (h2.mo (fun _ _ => trivial))
          exact hP S2 k ⟨hag2.mo (fun k hk => by omega), hI.ag hn (hag2.mo (fun k hk => by unfold CC at hk; omega)), hz.ag (hag2 183 (by omega))⟩ hk
      · have hi : i < nL a := by omega
        have hv : vp_in (nI i) 60 := vp_in_nI (by omega) (by omega)
        have hL := hI'.2.2.2.2.2 i hi
        rw [if_neg (by simp (disch := omega) only [n_0, n_1, n_2, n_3, n_7, n_8, n_9, n_10, n_12, n_14, n_18, n_20, n_60, n_112, n_162, n_255, n_1000, nI_add, n_mul, nI_ltI, nI_leI, nI_eq, nI_clamp]; omega), nI_clamp (by omega)]
        refine ⟨hv, ?_⟩
        refine k_isGone h hi hL _ ?_
        unfold wp_X5_wavelengthsNeeded_48
        have ih := fun S2 => ih (i + 1) S2 (by omega) (by omega)
        rw [alv_succ] at ih
        rcases hq : wy a i with _ | ⟨w, r⟩
        · rw [hq, if_pos rfl] at ih
          rw [if_pos (by rfl)]
          rintro _ rfl
          rw [nI_1]; exact ih S' hag hc hf
        · rw [hq, if_neg (by simp)] at ih
          rw [if_neg (by simp)]
          refine ⟨hv, ?_⟩
          have hlen2 : (alv a i).length < 12 := by
            obtain ⟨r, hr⟩ := alv_pre a (n := i + 1) (m := nL a) hi
            have := alv_len a (nL a)
            rw [hr, List.length_append, alv_succ, if_neg (by rw [hq]; simp), List.length_append] at this
            have e : lvs a = cnt (nL a) (fun l => !(wy a l).isEmpty) := rfl
            simp at this
            omega
          have hfw : gI S' (185 + 3 * i + 1) 3 = nI (FL a (alv a i).length) := by
            have e : FL a (alv a i).length = fbs w := by
              unfold FL; rw [alv_at a hi (by rw [hq]; simp)]
              show fwb a i = _
              unfold fwb; rw [hq]
            rw [e, show 185 + 3 * i + 1 = 186 + 3 * i by omega]
            obtain ⟨_, _, _, _, hcs⟩ := h.lt hi
            rcases hcs with ⟨z, _⟩ | ⟨w1, z, _⟩ | ⟨w1, w2, z, _⟩
            · rw [hq] at z; cases z
            · rw [hq] at z; cases z
              exact (hL.2.2.2.1 w hq).2.2.2.2.1
            · rw [hq] at z; cases z
              exact (hL.2.2.2.2 w w2 hq).2.1.2.2.2.1
          unfold wp_X0_add
          rw [hc, if_neg (by simp (disch := omega) only [n_0, n_1, n_2, n_3, n_7, n_8, n_9, n_10, n_12, n_14, n_18, n_20, n_60, n_112, n_162, n_255, n_1000, nI_add, n_mul, nI_ltI, nI_leI, nI_eq, nI_clamp]; omega), hfw, nI_clamp (by omega)]
          refine ⟨vp_in_nI (by omega) (by omega), ?_⟩
          rintro _ rfl _ rfl _ rfl
          rw [nI_1]
          refine ih _ ((hag.tr (agr_sI (by omega) _ _ _)).tr (agr_sI (by omega) _ _ _)) ?_ (fun j hj => ?_)
          · rw [gI_s, gI_n (by omega), hc, List.length_append, nI_1]; rfl
          · rw [List.length_append] at hj
            rw [gI_n (by omega)]
            by_cases z : j = (alv a i).length
            · rw [z, gI_s]
            · rw [gI_n (by omega)]
              refine hf j ?_
              simp at hj; omega
  obtain ⟨N, hN⟩ : ∃ N, nL a < N := ⟨_, Nat.lt_succ_self _⟩
  refine ⟨N, key N 0 _ (by omega) (by omega) (agr_sI (by omega) _ _ _) ?_ (fun j hj => absurd hj (Nat.not_lt_zero _))⟩
  rw [gI_s]; rfl
