/-! THE PURE LAYER: the fewest wavelengths, bounded from both sides -/
theorem cnt_range (n : Nat) (p : Nat → Bool) : cnt n p = (List.range n).countP p := by
  induction n with
  | zero => rfl
  | succ n ih =>
    rw [cnt, List.range_succ, List.countP_append, ih]
    congr 1
    by_cases c : p n = true
    · rw [if_pos c, List.countP_cons_of_pos c]; rfl
    · rw [if_neg c, List.countP_cons_of_neg c]; rfl
theorem cnt_take (L : List Nat) (p : Nat → Bool) : ∀ n, n ≤ L.length → cnt n (fun i => p (L.getD i 0)) = (L.take n).countP p := by
  intro n
  induction n with
  | zero => intro _; simp [cnt]
  | succ n ih =>
    intro h
    rw [cnt, ih (by omega), List.take_succ_eq_append_getElem (by omega), List.countP_append]
    congr 1
    have e : L.getD n 0 = L[n] := by rw [List.getD_eq_getElem?_getD, List.getElem?_eq_getElem (by omega)]; rfl
    rw [e]
    by_cases c : p L[n] = true
    · rw [if_pos c, List.countP_cons_of_pos c]; rfl
    · rw [if_neg c, List.countP_cons_of_neg c]; rfl
theorem cnt_list (L : List Nat) (p : Nat → Bool) : cnt L.length (fun i => p (L.getD i 0)) = L.countP p := by
  rw [cnt_take L p L.length (Nat.le_refl _), List.take_length]
theorem one_fibre (f : Nat) : ∀ (L : List Nat), (L.map (· / 10)).Nodup → L.countP (fun c => c / 10 == f) = if L.any (fun c => c / 10 == f) = true then 1 else 0 := by
  intro L
  induction L with
  | nil => intro _; rfl
  | cons c L ih =>
    intro h
    rw [List.map_cons, List.nodup_cons] at h
    have ih := ih h.2
    by_cases z : (c / 10 == f) = true
    · rw [List.countP_cons_of_pos (by exact z), List.any_cons, z, Bool.true_or, if_pos rfl]
      have : L.countP (fun c => c / 10 == f) = 0 := by
        rw [List.countP_eq_zero]
        intro d hd y
        refine h.1 (List.mem_map.mpr ⟨d, hd, ?_⟩)
        rw [beq_iff_eq] at z y
        show d / 10 = c / 10
        omega
      rw [this]
    · rw [List.countP_cons_of_neg (by exact z), ih, List.any_cons]
      have : (c / 10 == f) = false := by simpa using z
      rw [this, Bool.false_or]
/-- how many lights' first ways go through a fibre -/
def cf (a : Ab) (f : Nat) : Nat := cnt (nL a) (fun l => (fwb a l).testBit f)
theorem cf_FL {a : Ab} (f : Nat) : cf a f = cnt (lvs a) (fun i => (FL a i).testBit f) := by
  have hl : lvs a = (alv a (nL a)).length := (alv_len a (nL a)).symm
  have h1 : cnt (lvs a) (fun i => (FL a i).testBit f) = cnt (alv a (nL a)).length (fun i => (fun l => (fwb a l).testBit f) ((alv a (nL a)).getD i 0)) := by
    rw [hl]
    refine cnt_congr (fun i hi => ?_)
    show (FL a i).testBit f = (fwb a ((alv a (nL a)).getD i 0)).testBit f
    unfold FL
    rw [List.getD_eq_getElem?_getD, List.getElem?_eq_getElem hi]
    rfl
  rw [h1, cnt_list (alv a (nL a)) (fun l => (fwb a l).testBit f)]
  unfold cf
  rw [cnt_range]
  unfold alv
  rw [List.countP_filter]
  refine List.countP_congr (fun l _ => ?_)
  rcases hq : wy a l with _ | ⟨w, r⟩
  · simp [fwb, hq]
  · simp
theorem need_le {a : Ab} {k : Nat} (h : chr (lvs a) (FL a) k) : mx 14 (cf a) ≤ k ∧ k ≤ lvs a ∧ (0 < k ↔ 0 < lvs a) := by
  obtain ⟨h1, h2⟩ := h
  have hle : k ≤ lvs a := by
    apply Classical.byContradiction
    intro z
    exact h2 (lvs a) (by omega) (col_n _ _)
  refine ⟨mx_le (fun f => by rw [cf_FL]; exact col_busy h1), hle, fun z => by omega, fun z => ?_⟩
  obtain ⟨g, hg, _⟩ := h1
  have := hg 0 z
  omega
theorem n_63 {a : Ab} (h : WF a) (P : Bool → St → Prop) (K39 : St → Int32 → Int32 → Int32 → Prop) (K51 : St → Int32 → Int32 → Int32 → Int32 → Int32 → Prop) {l f m : Nat} (hf : f < 14) (hm : m < 100) (x1 x2 : Int32) {w : Wy} (hl : l < nL a) (hw : (wy a l)[0]? = some w) (hK : ∀ S, JC S a → K51 S x1 x2 (nI f) (nI (m + if (fbs w).testBit f = true then 1 else 0)) (nI (l + 1))) :
    ∀ (n p : Nat) (S : St), JC S a → p ≤ w.1.length → w.1.length < n + p → wp_L_isNeededSo_63 P K39 K51 n S x1 x2 (nI f) (nI (m + cnt p (fun i => w.1.getD i 0 / 10 == f))) (nI l) (nI p) := by
  have hn := h.n60
  obtain ⟨_, hg, hs⟩ := (h.ways hl).2 0 w hw
  have h7 := hs.1
  intro n
  induction n with
  | zero => intro p S _ h1 h2; omega
  | succ n ih =>
    intro p S hS h1 h2
    have hcl := cnt_le p (fun i => w.1.getD i 0 / 10 == f)
    rw [wp_L_isNeededSo_63]
    dsimp only
    refine l_look0 h hS _ _ _ _ (fun S1 hS1 => ?_)
    rw [show (0 : Int32) = nI 0 from rfl, chs_some h hl hw]
    show (if nI w.1.length ≤ nI p then _ else _)
    by_cases c : p = w.1.length
    · rw [if_pos (by rw [nI_leI (by omega) (by omega)]; omega)]
      unfold wp_L_isNeededSo_109
      rintro _ rfl
      rw [nI_1, c, cnt_list w.1 (fun c => c / 10 == f), one_fibre f w.1 hg.2.2.2.1, ← fbs_bit hs]
      exact hK S1 hS1
    · have hp : p < w.1.length := by omega
      rw [if_neg (by rw [nI_leI (by omega) (by omega)]; omega)]
      refine k_channel h hS1.1 hS1.2 _ _ _ _ _ (o_ok (chl_some h hl hw hp) (fun S2 hS2 => ?_))
      have hc : w.1.getD p 0 < 256 := by
        rw [List.getD_eq_getElem?_getD, List.getElem?_eq_getElem hp]
        exact hs.b _ (List.getElem_mem hp)
      rw [n_d10 (by omega)]
      have next : ∀ t : Bool, t = (w.1.getD p 0 / 10 == f) → wp_L_isNeededSo_100 P K39 K51 (fun S a1 a2 a3 a4 a5 a6 => wp_L_isNeededSo_63 P K39 K51 n S a1 a2 a3 a4 a5 a6) S2 x1 x2 (nI f) (nI l) (nI p) (nI (m + cnt p (fun i => w.1.getD i 0 / 10 == f))) t := by
        rintro _ rfl
        unfold wp_L_isNeededSo_100
        rintro _ rfl _ rfl
        rw [nI_1]
        have := ih (p + 1) S2 hS2 (by omega) (by omega)
        rw [cnt] at this
        have e : nI (m + cnt p (fun i => w.1.getD i 0 / 10 == f)) + b2i (w.1.getD p 0 / 10 == f) = nI (m + (cnt p (fun i => w.1.getD i 0 / 10 == f) + if (w.1.getD p 0 / 10 == f) = true then 1 else 0)) := by
          unfold b2i
          split
          · rw [n_1, nI_add]; congr 1
          · rw [n_0, nI_add]; congr 1
        rw [e]
        exact this
      by_cases z : w.1.getD p 0 / 10 = f
      · rw [if_pos (by rw [z])]
        exact next true (by rw [z]; simp)
      · rw [if_neg (by rw [nI_eq (by omega) (by omega)]; exact z)]
        exact next false (by symm; simpa using z)
theorem n_51 {a : Ab} (h : WF a) (P : Bool → St → Prop) (K39 : St → Int32 → Int32 → Int32 → Prop) {f m0 : Nat} (hf : f < 14) (hm0 : m0 < 100) (x1 : Int32) (hK : ∀ S, JC S a → K39 S x1 (nI (max m0 (cf a f))) (nI (f + 1))) :
    ∀ (n l : Nat) (S : St), JC S a → l ≤ nL a → nL a < n + l → wp_L_isNeededSo_51 P K39 n S x1 (nI m0) (nI f) (nI (cnt l (fun l => (fwb a l).testBit f))) (nI l) := by
  have hn := h.n60
  intro n
  induction n with
  | zero => intro p S _ h1 h2; omega
  | succ n ih =>
    intro l S hS h1 h2
    have hcl := cnt_le l (fun l => (fwb a l).testBit f)
    rw [wp_L_isNeededSo_51]
    dsimp only
    refine l_lights hS _ ?_
    by_cases c : l = nL a
    · rw [if_pos (by rw [nI_leI (by omega) (by omega)]; omega)]
      unfold wp_L_isNeededSo_115
      have e : cnt l (fun l => (fwb a l).testBit f) = cf a f := by rw [c]; rfl
      rw [e]
      have hcf : cf a f ≤ nL a := cnt_le _ _
      by_cases z : cf a f ≤ m0
      · rw [if_pos (by rw [nI_leI (by omega) (by omega)]; exact z)]
        unfold wp_L_isNeededSo_127
        rintro _ rfl
        have := hK S hS
        rw [Nat.max_eq_left z] at this
        rw [nI_1]; exact this
      · rw [if_neg (by rw [nI_leI (by omega) (by omega)]; exact z)]
        unfold wp_L_isNeededSo_127
        rintro _ rfl
        have := hK S hS
        rw [Nat.max_eq_right (by omega)] at this
        rw [nI_1]; exact this
    · have hl : l < nL a := by omega
      rw [if_neg (by rw [nI_leI (by omega) (by omega)]; omega)]
      rcases hq : wy a l with _ | ⟨w, r⟩
      · refine ⟨1, by omega, ?_⟩
        rw [wp_L_isNeededSo_63]
        dsimp only
        refine l_look0 h hS _ _ _ _ (fun S1 hS1 => ?_)
        rw [show (0 : Int32) = nI 0 from rfl, chs_none h hl (by omega) (by rw [hq]; rfl)]
        show (if (-99999 : Int32) ≤ nI 0 then _ else _)
        rw [if_pos (by decide)]
        unfold wp_L_isNeededSo_109
        rintro _ rfl
        rw [nI_1]
        have := ih (l + 1) S1 hS1 (by omega) (by omega)
        have e : fwb a l = 0 := by unfold fwb; rw [hq]
        rw [cnt, e, Nat.zero_testBit, if_neg (by decide), Nat.add_zero] at this
        exact this
      · have hw : (wy a l)[0]? = some w := by rw [hq]; rfl
        have h7 := ((h.ways hl).2 0 w hw).2.2.1
        refine ⟨w.1.length + 1, by omega, ?_⟩
        have := n_63 h P K39 (fun S a1 a2 a3 a4 a5 => wp_L_isNeededSo_51 P K39 n S a1 a2 a3 a4 a5) hf (m := cnt l (fun l => (fwb a l).testBit f)) (by omega) x1 (nI m0) hl hw (fun S1 hS1 => ?_) (w.1.length + 1) 0 S hS (Nat.zero_le _) (by omega)
        · exact this
        · have h9 := ih (l + 1) S1 hS1 (by omega) (by omega)
          have e : fwb a l = fbs w := by unfold fwb; rw [hq]
          rw [cnt, e] at h9
          exact h9
theorem n_39 {a : Ab} (h : WF a) (P : Bool → St → Prop) (hP : ∀ S, JC S a → P true S) : ∀ (n f : Nat) (S : St), JC S a → f ≤ 14 → 14 < n + f → wp_L_isNeededSo_39 P n S (nI (lvs a)) (nI (mx f (cf a))) (nI f) := by
  have hn := h.n60
  have h12 := h.l12
  intro n
  induction n with
  | zero => intro p S _ h1 h2; omega
  | succ n ih =>
    intro f S hS h1 h2
    have hmx : mx f (cf a) ≤ nL a := mx_le (fun i => cnt_le _ _)
    rw [wp_L_isNeededSo_39]
    dsimp only
    by_cases c : f = 14
    · rw [if_pos (by simp (disch := omega) only [n_0, n_1, n_2, n_3, n_7, n_8, n_9, n_10, n_12, n_14, n_18, n_20, n_60, n_112, n_162, n_255, n_1000, nI_add, n_mul, nI_ltI, nI_leI, nI_eq, nI_clamp]; omega), c]
      rw [c] at hmx
      unfold wp_L_isNeededSo_134
      refine k_need h hS.1 hS.2 _ (fun S1 k hk hc => ?_)
      have hh := need_le hc
      have g1 := hh.1
      have g2 := hh.2.1
      have g3 := hh.2.2
      clear hh
      generalize mx 14 (cf a) = z14 at g1 hmx ⊢
      rw [if_neg (by rw [nI_ltI (by omega) (by omega)]; omega), if_neg (by rw [nI_ltI (by omega) (by omega)]; omega)]
      have key : ∀ t : Bool, t = decide (0 < k) → wp_L_isNeededSo_158 P S1 (nI (lvs a)) t := by
        rintro _ rfl
        unfold wp_L_isNeededSo_158 wp_L_isNeededSo_167
        by_cases z : lvs a = 0
        · rw [if_pos (by rw [n_0, nI_leI (by omega) (by omega)]; omega), if_pos (by rw [show decide (0 < k) = false by rw [decide_eq_false_iff_not]; omega])]
          exact hP S1 (JC.of hk)
        · rw [if_neg (by rw [n_0, nI_leI (by omega) (by omega)]; omega), if_pos (by rw [show decide (0 < k) = true by rw [decide_eq_true_iff]; omega])]
          exact hP S1 (JC.of hk)
      by_cases z : k = 0
      · rw [if_pos (by rw [n_0, nI_leI (by omega) (by omega)]; omega)]
        exact key false (by rw [z]; rfl)
      · rw [if_neg (by rw [n_0, nI_leI (by omega) (by omega)]; omega)]
        exact key true (by symm; rw [decide_eq_true_iff]; omega)
    · rw [if_neg (by simp (disch := omega) only [n_0, n_1, n_2, n_3, n_7, n_8, n_9, n_10, n_12, n_14, n_18, n_20, n_60, n_112, n_162, n_255, n_1000, nI_add, n_mul, nI_ltI, nI_leI, nI_eq, nI_clamp]; omega)]
      refine ⟨nL a + 1, by omega, ?_⟩
      exact n_51 h P (fun S a1 a2 a3 => wp_L_isNeededSo_39 P n S a1 a2 a3) (by omega) (by omega) (nI (lvs a)) (fun S1 hS1 => ih (f + 1) S1 hS1 (by omega) (by omega)) (nL a + 1) 0 S hS (Nat.zero_le _) (by omega)
theorem n_6 {a : Ab} (h : WF a) (P : Bool → St → Prop) (hP : ∀ S, JC S a → P true S) : ∀ (n l : Nat) (S : St), JC S a → l ≤ nL a → nL a < n + l → wp_L_isNeededSo_6 P n S (nI (cnt l (fun l => !(wy a l).isEmpty))) (nI l) := by
  have hn := h.n60
  intro n
  induction n with
  | zero => intro p S _ h1 h2; omega
  | succ n ih =>
    intro l S hS h1 h2
    rw [wp_L_isNeededSo_6]
    dsimp only
    refine l_lights hS _ ?_
    by_cases c : l = nL a
    · rw [if_pos (by rw [nI_leI (by omega) (by omega)]; omega), c]
      unfold wp_L_isNeededSo_37
      exact ⟨15, by omega, n_39 h P hP 15 0 S hS (by omega) (by omega)⟩
    · have hl : l < nL a := by omega
      rw [if_neg (by rw [nI_leI (by omega) (by omega)]; omega)]
      refine k_state h hS.1 hS.2 _ _ _ (o_ok (q_state_ok h hl) (fun S1 hS1 => ?_))
      have next : ∀ t : Bool, t = (!(wy a l).isEmpty) → wp_L_isNeededSo_29 P (fun S a1 a3 => wp_L_isNeededSo_6 P n S a1 a3) S1 (nI l) (nI (cnt l (fun l => !(wy a l).isEmpty))) t := by
        rintro _ rfl
        unfold wp_L_isNeededSo_29
        rintro _ rfl _ rfl
        have := ih (l + 1) S1 hS1 (by omega) (by omega)
        rw [cnt] at this
        have e : nI (cnt l (fun l => !(wy a l).isEmpty)) + b2i (!(wy a l).isEmpty) = nI (cnt l (fun l => !(wy a l).isEmpty) + if (!(wy a l).isEmpty) = true then 1 else 0) := by
          unfold b2i
          split
          · rw [n_1, nI_add]
          · rw [n_0, nI_add]
        rw [e, nI_1]
        exact this
      rcases hq : wy a l with _ | ⟨w, r⟩
      · rw [if_pos rfl, if_pos (by decide)]
        exact next false (by rw [hq]; rfl)
      · rw [if_neg (by simp; split <;> decide)]
        exact next true (by rw [hq]; rfl)
theorem l_need {a : Ab} (h : WF a) {S : St} (hS : JC S a) (P : Bool → St → Prop) (hP : ∀ S, JC S a → P true S) : wp_L_isNeededSo S P := by
  have hn := h.n60
  unfold wp_L_isNeededSo
  exact ⟨nL a + 1, by omega, n_6 h P hP (nL a + 1) 0 S hS (Nat.zero_le _) (by omega)⟩
