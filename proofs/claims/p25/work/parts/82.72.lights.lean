/-! THE PURE LAYER: the lights are so -/
/-- how many channels one way of a light has -/
def wl (a : Ab) (l i : Nat) : Nat := match (wy a l)[i]? with
  | none => 0
  | some w => w.1.length
theorem wl_cl {a : Ab} (h : WF a) {l : Nat} (hl : l < nL a) : wl a l 0 + wl a l 1 = (cl a l).length := by
  have h2 := h.ways hl
  unfold cl wl
  rcases hq : wy a l with _ | ⟨w, _ | ⟨v, _ | ⟨_, _⟩⟩⟩
  · rfl
  · show w.1.length + 0 = (w.1 ++ []).length
    rw [List.append_nil]; rfl
  · show w.1.length + v.1.length = (w.1 ++ (v.1 ++ [])).length
    rw [List.append_nil, List.length_append]
  · exfalso
    have := h2.1
    rw [hq] at this
    simp only [List.length_cons] at this
    omega
theorem lon_some {a : Ab} (h : WF a) {l i c : Nat} {w : Wy} (hl : l < nL a) (hw : (wy a l)[i]? = some w) (hc : c ∈ w.1) : q_lightOn a (nI (c / 10)) (nI (c % 10)) = .ok (nI l, a) := by
  have hg := ((h.ways hl).2 i w hw).2.1.2.2.1 c hc
  have hf := h.2.2.1
  have hw8 := h.2.1.2
  have hu : usr a (c / 10) (c % 10) = some l := (usr_some h).mpr ⟨hl, onc_of hw (by rw [show 10 * (c / 10) + c % 10 = c by omega]; exact hc)⟩
  unfold q_lightOn
  rw [if_pos (isn_i hg.1 (by omega)), if_pos (isn_i hg.2 (by omega)), tN_nI (by omega), tN_nI (by omega), hu]
  rfl
theorem g_148 {a : Ab} (h : WF a) (P : Bool → St → Prop) (K9 : St → Int32 → Int32 → Int32 → Int32 → Prop) (K122 : St → Int32 → Int32 → Int32 → Int32 → Int32 → Int32 → Bool → Int32 → Prop) {l i c m0 : Nat} {x1 x3 x5 : Int32} {w : Wy} (hl : l < nL a) (hw : (wy a l)[i]? = some w) (hc : c < 2000)
    (hK : ∀ S m, JC S a → m < 2 ^ 14 → (∀ f, m.testBit f = true → m0.testBit f = true ∨ (fbs w).testBit f = true) → K122 S x1 (nI (c + w.1.length)) x3 (nI l) x5 (nI m) true (nI (i + 1))) :
    ∀ (n p m : Nat) (S : St), JC S a → p ≤ w.1.length → w.1.length < n + p → m < 2 ^ 14 → (∀ f, m.testBit f = true → m0.testBit f = true ∨ (fbs w).testBit f = true) → (∀ q, p ≤ q → q < w.1.length → m.testBit (w.1.getD q 0 / 10) = false) → wp_L_areLightsSo_148 P K9 K122 n S x1 (nI (c + p)) x3 (nI l) x5 (nI m) true (nI i) (nI w.1.length) (nI p) := by
  have hn := h.n60
  obtain ⟨hi2, hg, hs⟩ := (h.ways hl).2 i w hw
  have h7 := hs.1
  have h1l := hg.1
  intro n
  induction n with
  | zero => intro p m S _ h1 h2; omega
  | succ n ih =>
    intro p m S hS h1 h2 hm hB hF
    rw [wp_L_areLightsSo_148]
    dsimp only
    by_cases z : p = w.1.length
    · rw [if_pos (by rw [nI_leI (by omega) (by omega)]; omega)]
      unfold wp_L_areLightsSo_232
      rw [if_pos rfl, if_neg (nI_m9 (by omega)), if_neg (by rw [n_0, nI_leI (by omega) (by omega)]; omega)]
      refine l_look1 h hS _ _ _ _ (fun S1 hS1 => ?_)
      rw [chl_end h hl hw]
      show (if (-99999 : Int32) = -99999 then _ else _)
      rw [if_pos rfl]
      unfold wp_L_areLightsSo_265 wp_L_areLightsSo_270
      rintro _ rfl
      rw [nI_1, z]
      exact hK S1 m hS1 hm hB
    · have hp : p < w.1.length := by omega
      rw [if_neg (by rw [nI_leI (by omega) (by omega)]; omega), if_pos rfl]
      refine k_channel h hS.1 hS.2 _ _ _ _ _ (o_ok (chl_some h hl hw hp) (fun S1 hS1 => ?_))
      have hmem : w.1.getD p 0 ∈ w.1 := by
        rw [List.getD_eq_getElem?_getD, List.getElem?_eq_getElem hp]
        exact List.getElem_mem hp
      have hcb : w.1.getD p 0 < 256 := hs.b _ hmem
      have hfb := (hs.2.1 _ hmem).1
      have hlo := lon_some h hl hw hmem
      have hFp := hF p (Nat.le_refl _) hp
      have hFq : ∀ q, p + 1 ≤ q → q < w.1.length → (m ||| 2 ^ (w.1.getD p 0 / 10)).testBit (w.1.getD q 0 / 10) = false := by
        intro q hq1 hq2
        rw [Nat.testBit_or, hF q (by omega) hq2, Bool.false_or, Nat.testBit_two_pow, decide_eq_false_iff_not]
        intro e
        have hnd := hg.2.2.2.1
        have e1 : (w.1.map (· / 10))[p]'(by rw [List.length_map]; exact hp) = (w.1.map (· / 10))[q]'(by rw [List.length_map]; exact hq2) := by
          rw [List.getElem_map, List.getElem_map]
          rw [List.getD_eq_getElem?_getD, List.getElem?_eq_getElem hp, List.getD_eq_getElem?_getD, List.getElem?_eq_getElem hq2] at e
          exact e
        have := (List.getElem_inj hnd).mp e1
        omega
      have hBq : ∀ f, (m ||| 2 ^ (w.1.getD p 0 / 10)).testBit f = true → m0.testBit f = true ∨ (fbs w).testBit f = true := by
        intro f hf
        rw [Nat.testBit_or, Bool.or_eq_true, Nat.testBit_two_pow, decide_eq_true_iff] at hf
        rcases hf with hf | hf
        · exact hB f hf
        · refine .inr ?_
          rw [fbs_bit hs, List.any_eq_true]
          exact ⟨_, hmem, by rw [beq_iff_eq]; exact hf⟩
      generalize w.1.getD p 0 = d at *
      have hm2 : m ||| 2 ^ (d / 10) < 2 ^ 14 := Nat.or_lt_two_pow hm (Nat.pow_lt_pow_right (by omega) hfb)
      rw [n_r10 (by omega), n_d10 (by omega)]
      refine k_lightOn h hS1.1 hS1.2 _ _ _ _ (o_ok hlo (fun S2 hS2 => ?_))
      rw [if_pos rfl, if_pos ((n_bit0 (by omega) (by omega)).mpr hFp)]
      unfold wp_L_areLightsSo_209
      rintro _ rfl _ rfl _ rfl
      rw [n_d10 (by omega), n_one (by omega), n_or, nI_1, nI_1]
      exact ih (p + 1) (m ||| 2 ^ (d / 10)) S2 hS2 (by omega) (by omega) hm2 hBq hFq
theorem g_way {a : Ab} (h : WF a) (P : Bool → St → Prop) (K9 : St → Int32 → Int32 → Int32 → Int32 → Prop) {l i c m0 n : Nat} {x1 x3 x5 : Int32} (hl : l < nL a) (hi : i < 2) (hc : c < 2000) (hm0 : m0 < 2 ^ 14)
    (hf : ∀ w, (wy a l)[i]? = some w → ∀ q, q < w.1.length → m0.testBit (w.1.getD q 0 / 10) = false)
    (hK : ∀ S m, JC S a → m < 2 ^ 14 → (∀ f, m.testBit f = true → m0.testBit f = true ∨ ∃ w, (wy a l)[i]? = some w ∧ (fbs w).testBit f = true) → wp_L_areLightsSo_122 P K9 n S x1 (nI (c + wl a l i)) x3 (nI l) x5 (nI m) true (nI (i + 1)))
    {S : St} (hS : JC S a) : wp_L_areLightsSo_122 P K9 (n + 1) S x1 (nI c) x3 (nI l) x5 (nI m0) true (nI i) := by
  rw [wp_L_areLightsSo_122]
  dsimp only
  rw [if_neg (by simp (disch := omega) only [n_0, n_1, n_2, n_3, n_7, n_8, n_9, n_10, n_12, n_14, n_18, n_20, n_60, n_112, n_162, n_255, n_1000, nI_add, n_mul, nI_ltI, nI_leI, nI_eq, nI_clamp]; omega), if_pos rfl]
  refine l_look0 h hS _ _ _ _ (fun S1 hS1 => ?_)
  unfold wl at hK
  rcases hw : (wy a l)[i]? with _ | w
  · rw [chs_none h hl (by omega) hw]
    refine ⟨1, by omega, ?_⟩
    rw [wp_L_areLightsSo_148]
    dsimp only
    show (if (-99999 : Int32) ≤ 0 then _ else _)
    rw [if_pos (by decide)]
    unfold wp_L_areLightsSo_232
    rw [if_pos rfl]
    show (if (-99999 : Int32) = -99999 then _ else _)
    rw [if_pos rfl]
    unfold wp_L_areLightsSo_265 wp_L_areLightsSo_270
    rintro _ rfl
    rw [nI_1]
    have := hK S1 m0 hS1 hm0 (fun f hf => .inl hf)
    rw [hw] at this
    exact this
  · rw [chs_some h hl hw]
    have h7 := ((h.ways hl).2 i w hw).2.2.1
    rw [hw] at hK
    exact ⟨w.1.length + 1, by omega, g_148 h P K9 _ hl hw hc (fun S2 m hS2 hm hB => hK S2 m hS2 hm (fun f hf => (hB f hf).imp id (fun q => ⟨w, rfl, q⟩))) (w.1.length + 1) 0 m0 S1 hS1 (Nat.zero_le _) (by omega) hm0 (fun f hf => .inl hf) (fun q _ hq => hf w hw q hq)⟩
theorem g_122 {a : Ab} (h : WF a) (hd : WD a) (P : Bool → St → Prop) (K9 : St → Int32 → Int32 → Int32 → Int32 → Prop) {l c : Nat} {x1 x3 x5 : Int32} (hl : l < nL a) (hc : c < 1000)
    (hK : ∀ S, JC S a → wp_L_areLightsSo_278 P K9 S x1 (nI (c + (cl a l).length)) x3 (nI l) x5 true)
    {S : St} (hS : JC S a) : wp_L_areLightsSo_122 P K9 3 S x1 (nI c) x3 (nI l) x5 (nI 0) true (nI 0) := by
  have hcl := wl_cl h hl
  have hcb := cl_len h hl
  refine g_way h P K9 hl (by omega) (by omega) (by omega) (fun w _ q _ => Nat.zero_testBit _) (fun S1 m1 hS1 hm1 hB1 => ?_) hS
  refine g_way h P K9 hl (by omega) (by omega) hm1 (fun v hv q hq => ?_) (fun S2 m2 hS2 hm2 hB2 => ?_) hS1
  · apply Classical.byContradiction
    intro z
    rw [Bool.not_eq_false] at z
    rcases hB1 _ z with y | ⟨w, hw, y⟩
    · rw [Nat.zero_testBit] at y; cases y
    · have h2 := h.ways hl
      have hws : wy a l = [w, v] := by
        rcases hq : wy a l with _ | ⟨w', _ | ⟨v', _ | ⟨_, _⟩⟩⟩
        · rw [hq] at hw; cases hw
        · rw [hq] at hv; cases hv
        · rw [hq] at hw hv
          have e1 : w' = w := by simpa using hw
          have e2 : v' = v := by simpa using hv
          rw [e1, e2]
        · exfalso
          have := h2.1
          rw [hq] at this
          simp only [List.length_cons] at this
          omega
      have hdj := hd l hl w v hws
      have := (dsj_iff (h2.2 0 w hw).2.2 (h2.2 1 v hv).2.2).mp hdj (v.1.getD q 0) (by
        rw [List.getD_eq_getElem?_getD, List.getElem?_eq_getElem hq]
        exact List.getElem_mem hq)
      rw [this] at y; cases y
  · rw [wp_L_areLightsSo_122]
    dsimp only
    rw [if_pos (by decide)]
    have := hK S2 hS2
    rw [← hcl, ← Nat.add_assoc] at this
    exact this
theorem g_51 {a : Ab} (h : WF a) (hd : WD a) (P : Bool → St → Prop) (K9 : St → Int32 → Int32 → Int32 → Int32 → Prop) {l c : Nat} {x1 x3 s : Int32} {e : Bool} (hl : l < nL a) (hc : c < 1000) (hs : s = 2 ↔ e = true) (he : e = true ↔ wy a l = [])
    (hK : ∀ S, JC S a → wp_L_areLightsSo_278 P K9 S x1 (nI (c + (cl a l).length)) x3 (nI l) s true)
    {S : St} (hS : JC S a) : wp_L_areLightsSo_51 P K9 S x1 (nI c) x3 (nI l) s e := by
  have hlig := h.lig l hl
  have hu10 := hlig.2.2.2.1
  have hu0 := hlig.2.2.2.2.1
  unfold wp_L_areLightsSo_51
  refine k_units h hS.1 hS.2 _ _ _ (o_ok (q_units_ok h hl) (fun S1 hS1 => ?_))
  have k65 : wp_L_areLightsSo_65 P K9 S1 x1 (nI c) x3 (nI l) s e e := by
    unfold wp_L_areLightsSo_65
    rw [if_pos rfl]
    refine k_units h hS1.1 hS1.2 _ _ _ (o_ok (q_units_ok h hl) (fun S2 hS2 => ?_))
    rw [if_neg (by rw [n_10, nI_ltI (by omega) (by omega)]; omega)]
    have k90 : wp_L_areLightsSo_90 P K9 S2 x1 (nI c) x3 (nI l) s e := by
      unfold wp_L_areLightsSo_90
      refine l_look0 h hS2 _ _ _ _ (fun S3 hS3 => ?_)
      have k109 : wp_L_areLightsSo_109 P K9 S3 x1 (nI c) x3 (nI l) s e e := by
        unfold wp_L_areLightsSo_109
        rw [if_pos rfl]
        unfold wp_L_areLightsSo_117
        exact ⟨3, by omega, g_122 h hd P K9 hl hc hK hS3⟩
      rw [show (0 : Int32) = nI 0 from rfl]
      rcases hq : wy a l with _ | ⟨w, r⟩
      · have e1 := he.mpr hq
        rw [chs_none h hl (by omega) (by rw [hq]; rfl)]
        show (if (-99999 : Int32) = -99999 then _ else _)
        rw [if_pos rfl, ← e1]
        exact k109
      · have e1 : e = false := by
          apply Classical.byContradiction
          intro z
          rw [Bool.not_eq_false] at z
          rw [he.mp z] at hq; cases hq
        have hw : (wy a l)[0]? = some w := by rw [hq]; rfl
        have h7 := ((h.ways hl).2 0 w hw).2.2.1
        rw [chs_some h hl hw]
        show (if nI w.1.length = -99999 then _ else _)
        rw [if_neg (nI_m9 (by omega)), ← e1]
        exact k109
    by_cases z : s = 2
    · rw [if_pos z, ← hs.mp z]; exact k90
    · have e1 : e = false := by
        rw [← Bool.not_eq_true]; exact fun q => z (hs.mpr q)
      rw [if_neg z, ← e1]; exact k90
  by_cases z : units a l = 0
  · rw [if_pos (by rw [z]; rfl), ← he.mpr (hu0.mp z)]; exact k65
  · have e1 : e = false := by
      rw [← Bool.not_eq_true]; exact fun q => z (hu0.mpr (he.mp q))
    rw [if_neg (by rw [n_eq0 (by omega)]; exact z), ← e1]; exact k65
theorem g_278 {a : Ab} (h : WF a) (P : Bool → St → Prop) (K9 : St → Int32 → Int32 → Int32 → Int32 → Prop) {l n u : Nat} {x2 s : Int32} (hl : l < nL a) (hn : n < 1000) (hu : u < 1000) (hs : (s = 2 ∧ wy a l = []) ∨ ((s = 0 ∨ s = 1) ∧ wy a l ≠ []))
    (hK : ∀ S, JC S a → K9 S (nI (n + if (!(wy a l).isEmpty) = true then 1 else 0)) x2 (nI (u + units a l)) (nI (l + 1)))
    {S : St} (hS : JC S a) : wp_L_areLightsSo_278 P K9 S (nI n) x2 (nI u) (nI l) s true := by
  have hn := h.n60
  unfold wp_L_areLightsSo_278
  rw [if_pos rfl]
  have key : ∀ t : Bool, t = (!(wy a l).isEmpty) → wp_L_areLightsSo_297 P K9 S x2 (nI u) (nI l) (nI n) t := by
    rintro _ rfl
    unfold wp_L_areLightsSo_297
    rintro _ rfl
    refine k_units h hS.1 hS.2 _ _ _ (o_ok (q_units_ok h hl) (fun S1 hS1 => ?_))
    rintro _ rfl _ rfl
    have := hK S1 hS1
    have e : nI n + b2i (!(wy a l).isEmpty) = nI (n + if (!(wy a l).isEmpty) = true then 1 else 0) := by
      unfold b2i
      split
      · rw [n_1, nI_add]
      · rw [n_0, nI_add]
    rw [e, nI_add, nI_1]
    exact this
  rcases hs with ⟨h1, h2⟩ | ⟨h1, h2⟩
  · rw [if_pos (by rw [h1]; decide)]
    exact key false (by rw [h2]; rfl)
  · rw [if_neg (by rcases h1 with e | e <;> rw [e] <;> decide)]
    refine key true ?_
    rcases hq : wy a l with _ | ⟨w, r⟩
    · exact absurd hq h2
    · rfl
theorem g_438 {a : Ab} (h : WF a) (P : Bool → St → Prop) (hP : ∀ S, JC S a → P true S) {S : St} (hS : JC S a) : wp_L_areLightsSo_438 P S (nI (lvs a)) (nI 0) (nI (sm (nL a) (units a))) (nI (cnt (nR a) (car a))) := by
  have hn := h.n60
  have hR := h.2.2.2.2.1
  have h12 := h.l12
  have h1 := alive_le h
  have h2 := car_le h (nR a) (Nat.le_refl _)
  rw [← units_sum h] at h2
  have h3 := units_bound h (nL a) (Nat.le_refl _)
  have h4 : cnt (nR a) (car a) ≤ nR a := cnt_le _ _
  unfold wp_L_areLightsSo_438
  generalize sm (nL a) (units a) = u at *
  generalize cnt (nR a) (car a) = c at *
  rw [if_neg (by rw [show (12 : Int32) = nI 12 from rfl, nI_ltI (by omega) (by omega)]; omega), if_pos (show nI 0 = 0 from rfl), if_neg (by rw [nI_ltI (by omega) (by omega)]; omega), if_neg (by rw [nI_ltI (by omega) (by omega)]; omega), if_neg (by rw [n_10, n_mul, nI_ltI (by omega) (by omega)]; omega)]
  exact hP S hS
/-- channels met below a fibre and below a wavelength -/
def occ (a : Ab) (f : Nat) : Nat := cnt 8 (fun w => (usr a f w).isSome)
theorem lon_occ {a : Ab} (h : WF a) {f w : Nat} (hf : f < 14) (hw : w < 8) : ((tl a (q_lightOn a (nI f) (nI w))).1 < 0) ↔ (usr a f w).isSome = false := by
  have hn := h.n60
  have hF := h.2.2.1
  have hw8 := h.2.1.2
  rcases hu : usr a f w with _ | l
  · refine ⟨fun _ => rfl, fun _ => ?_⟩
    unfold q_lightOn
    split
    · split
      · rw [tN_nI (by omega), tN_nI (by omega), hu]
        show (-1 : Int32) < 0
        decide
      · show (-99999 : Int32) < 0
        decide
    · show (-99999 : Int32) < 0
      decide
  · obtain ⟨h1, h2, h3⟩ := usr_in h hw hu
    unfold q_lightOn
    rw [if_pos (isn_i h1 (by omega)), if_pos (isn_i h2 (by omega)), tN_nI (by omega), tN_nI (by omega), hu]
    refine ⟨fun z => ?_, fun z => by cases z⟩
    have z' : nI l < 0 := z
    rw [n_0, nI_ltI (by omega) (by omega)] at z'
    omega
theorem g_398 {a : Ab} (h : WF a) (P : Bool → St → Prop) (K388 : St → Int32 → Int32 → Int32 → Int32 → Int32 → Prop) {f b : Nat} {x1 x3 x4 : Int32} (hf : f < 14)
    (hK : ∀ S, JC S a → K388 S x1 (nI b) x3 x4 (nI (f + 1))) :
    ∀ (n w c : Nat) (S : St), JC S a → w ≤ 8 → 8 < n + w → c + cnt w (fun w => (usr a f w).isSome) = b + occ a f → wp_L_areLightsSo_398 P K388 n S x1 (nI c) x3 x4 (nI f) (nI w) := by
  intro n
  induction n with
  | zero => intro p m S _ h1 h2; omega
  | succ n ih =>
    intro w c S hS h1 h2 h3
    rw [wp_L_areLightsSo_398]
    dsimp only
    by_cases z : w = 8
    · rw [if_pos (by simp (disch := omega) only [n_0, n_1, n_2, n_3, n_7, n_8, n_9, n_10, n_12, n_14, n_18, n_20, n_60, n_112, n_162, n_255, n_1000, nI_add, n_mul, nI_ltI, nI_leI, nI_eq, nI_clamp]; omega)]
      unfold wp_L_areLightsSo_432
      rintro _ rfl
      rw [z] at h3
      have e : c = b := by unfold occ at h3; omega
      rw [nI_1, e]
      exact hK S hS
    · rw [if_neg (by simp (disch := omega) only [n_0, n_1, n_2, n_3, n_7, n_8, n_9, n_10, n_12, n_14, n_18, n_20, n_60, n_112, n_162, n_255, n_1000, nI_add, n_mul, nI_ltI, nI_leI, nI_eq, nI_clamp]; omega)]
      refine l_look2 h hS _ _ _ _ (fun S1 hS1 => ?_)
      have hq := lon_occ h hf (show w < 8 by omega)
      have hmono : cnt (w + 1) (fun w => (usr a f w).isSome) ≤ occ a f := by
        have : w + 1 = 1 ∨ w + 1 = 2 ∨ w + 1 = 3 ∨ w + 1 = 4 ∨ w + 1 = 5 ∨ w + 1 = 6 ∨ w + 1 = 7 ∨ w + 1 = 8 := by omega
        unfold occ
        rw [cnt_sm, cnt_sm]
        rw [show 8 = (w + 1) + (7 - w) by omega]
        exact sm_part _ _ _
      rw [cnt] at hmono
      by_cases y : (usr a f w).isSome = true
      · rw [if_neg (by rw [hq]; rw [y]; decide)]
        unfold wp_L_areLightsSo_424
        rintro _ rfl _ rfl
        rw [if_pos y] at hmono
        rw [show (nI c - b2i true) = nI (c - 1) from n_sub (a := c) (b := 1) (by omega), nI_1]
        refine ih (w + 1) (c - 1) S1 hS1 (by omega) (by omega) ?_
        rw [cnt, if_pos y]; omega
      · rw [if_pos (hq.mpr (by simpa using y))]
        unfold wp_L_areLightsSo_424
        rintro _ rfl _ rfl
        rw [show (nI c - b2i false) = nI (c - 0) from n_sub (a := c) (b := 0) (by omega), nI_1]
        refine ih (w + 1) (c - 0) S1 hS1 (by omega) (by omega) ?_
        rw [cnt, if_neg y]; omega
theorem g_388 {a : Ab} (h : WF a) (P : Bool → St → Prop) (hP : ∀ S, JC S a → P true S) :
    ∀ (n f c : Nat) (S : St), JC S a → f ≤ 14 → 14 < n + f → c + sm f (occ a) = sm 14 (occ a) → wp_L_areLightsSo_388 P n S (nI (lvs a)) (nI c) (nI (sm (nL a) (units a))) (nI (cnt (nR a) (car a))) (nI f) := by
  intro n
  induction n with
  | zero => intro p m S _ h1 h2; omega
  | succ n ih =>
    intro f c S hS h1 h2 h3
    rw [wp_L_areLightsSo_388]
    dsimp only
    by_cases z : f = 14
    · rw [if_pos (by simp (disch := omega) only [n_0, n_1, n_2, n_3, n_7, n_8, n_9, n_10, n_12, n_14, n_18, n_20, n_60, n_112, n_162, n_255, n_1000, nI_add, n_mul, nI_ltI, nI_leI, nI_eq, nI_clamp]; omega)]
      rw [z] at h3
      have e : c = 0 := by omega
      rw [e]
      exact g_438 h P hP hS
    · rw [if_neg (by simp (disch := omega) only [n_0, n_1, n_2, n_3, n_7, n_8, n_9, n_10, n_12, n_14, n_18, n_20, n_60, n_112, n_162, n_255, n_1000, nI_add, n_mul, nI_ltI, nI_leI, nI_eq, nI_clamp]; omega)]
      have hmono : sm (f + 1) (occ a) ≤ sm 14 (occ a) := by
        have := sm_part (f + 1) (13 - f) (occ a)
        rw [show f + 1 + (13 - f) = 14 by omega] at this
        exact this
      rw [sm] at hmono
      refine ⟨9, by omega, g_398 h P _ (b := c - occ a f) (by omega) (fun S1 hS1 => ih (f + 1) (c - occ a f) S1 hS1 (by omega) (by omega) (by rw [sm]; omega)) 9 0 c S hS (by omega) (by omega) ?_⟩
      rw [cnt]; omega
theorem g_320 {a : Ab} (h : WF a) (P : Bool → St → Prop) (hP : ∀ S, JC S a → P true S) :
    ∀ (n r : Nat) (S : St), JC S a → r ≤ nR a → nR a < n + r → wp_L_areLightsSo_320 P n S (nI (lvs a)) (nI (sm (nL a) (fun l => (cl a l).length))) (nI (sm (nL a) (units a))) (nI (cnt r (car a))) (nI r) := by
  have hn := h.n60
  have hR := h.2.2.2.2.1
  intro n
  induction n with
  | zero => intro p S _ h1 h2; omega
  | succ n ih =>
    intro r S hS h1 h2
    rw [wp_L_areLightsSo_320]
    dsimp only
    refine l_requests hS _ ?_
    by_cases z : r = nR a
    · rw [if_pos (by rw [nI_leI (by omega) (by omega)]; omega), z]
      unfold wp_L_areLightsSo_385
      exact ⟨15, by omega, g_388 h P hP 15 0 _ S hS (by omega) (by omega) (chan_sum h)⟩
    · have hr : r < nR a := by omega
      have hcr : cnt r (car a) ≤ r := cnt_le _ _
      rw [if_neg (by rw [nI_leI (by omega) (by omega)]; omega)]
      refine l_does3 h hS _ _ (fun S1 hS1 => ?_)
      unfold q_lightOf
      rw [if_pos (isn_i hr (by omega)), tN_nI (by omega)]
      have next := ih (r + 1) S1 hS1 (by omega) (by omega)
      rw [cnt] at next
      by_cases y : de a r = 0
      · rw [if_pos y]
        show (if (-99999 : Int32) < 0 then _ else _)
        rw [if_pos (by decide)]
        unfold wp_L_areLightsSo_350
        rintro _ rfl
        refine l_lights hS1 _ ?_
        show (if nI (nL a) ≤ (-99999 : Int32) then _ else _)
        rw [if_neg (show ¬ (nI (nL a) ≤ (-99999 : Int32)) from ?_)]
        · show (if (-99999 : Int32) < 0 then _ else _)
          rw [if_pos (show (-99999 : Int32) < 0 by decide)]
          unfold wp_L_areLightsSo_379
          rintro _ rfl
          rw [if_neg (show ¬ (car a r = true) by unfold car; rw [y]; decide)] at next
          rw [show nI (cnt r (car a)) + b2i false = nI (cnt r (car a) + 0) from nI_add _ _, nI_1]
          exact next
        · intro q
          have h1 := Int32.le_iff_toInt_le.mp q
          rw [nI_toInt (by omega)] at h1
          have : (-99999 : Int32).toInt = -99999 := by decide
          rw [this] at h1
          omega
      · rw [if_neg y]
        have hc := (h.req r hr).1
        have hw : wy a (ca a r) ≠ [] := by
          intro q
          have hu := (h.lig _ hc).2.2.2.2.1.mpr q
          have h9 := sm_le (g := fun r' => if ca a r' = ca a r then de a r' else 0) hr
          rw [if_pos rfl] at h9
          unfold units at hu
          omega
        show (if nI (ca a r) < 0 then _ else _)
        rw [if_neg (by rw [n_0, nI_ltI (by omega) (by omega)]; omega)]
        unfold wp_L_areLightsSo_350
        rintro _ rfl
        refine l_lights hS1 _ ?_
        show (if nI (nL a) ≤ nI (ca a r) then _ else _)
        rw [if_neg (by rw [nI_leI (by omega) (by omega)]; omega)]
        show (if nI (ca a r) < 0 then _ else _)
        rw [if_neg (by rw [n_0, nI_ltI (by omega) (by omega)]; omega)]
        refine k_state h hS1.1 hS1.2 _ _ _ (o_ok (q_state_ok h hc) (fun S2 hS2 => ?_))
        rw [if_neg (by rw [if_neg hw]; split <;> decide)]
        unfold wp_L_areLightsSo_379
        rintro _ rfl
        have next := ih (r + 1) S2 hS2 (by omega) (by omega)
        rw [cnt, if_pos (show car a r = true by unfold car; simpa using y)] at next
        rw [show nI (cnt r (car a)) + b2i true = nI (cnt r (car a) + 1) from nI_add _ _, nI_1]
        exact next
theorem g_9 {a : Ab} (h : WF a) (hd : WD a) (P : Bool → St → Prop) (hP : ∀ S, JC S a → P true S) :
    ∀ (n l : Nat) (S : St), JC S a → l ≤ nL a → nL a < n + l → wp_L_areLightsSo_9 P n S (nI (cnt l (fun l => !(wy a l).isEmpty))) (nI (sm l (fun l => (cl a l).length))) (nI (sm l (units a))) (nI l) := by
  have hn := h.n60
  have hR := h.2.2.2.2.1
  intro n
  induction n with
  | zero => intro p S _ h1 h2; omega
  | succ n ih =>
    intro l S hS h1 h2
    have hb1 := cl_bound h l h1
    have hb2 := units_bound h l h1
    have hb3 : cnt l (fun l => !(wy a l).isEmpty) ≤ l := cnt_le _ _
    rw [wp_L_areLightsSo_9]
    dsimp only
    refine l_lights hS _ ?_
    by_cases z : l = nL a
    · rw [if_pos (by rw [nI_leI (by omega) (by omega)]; omega), z]
      unfold wp_L_areLightsSo_314
      exact ⟨nR a + 1, by omega, g_320 h P hP (nR a + 1) 0 S hS (by omega) (by omega)⟩
    · have hl : l < nL a := by omega
      rw [if_neg (by rw [nI_leI (by omega) (by omega)]; omega)]
      refine k_state h hS.1 hS.2 _ _ _ (o_ok (q_state_ok h hl) (fun S1 hS1 => ?_))
      have next : ∀ S2, JC S2 a → wp_L_areLightsSo_9 P n S2 (nI (cnt l (fun l => !(wy a l).isEmpty) + if (!(wy a l).isEmpty) = true then 1 else 0)) (nI (sm l (fun l => (cl a l).length) + (cl a l).length)) (nI (sm l (units a) + units a l)) (nI (l + 1)) :=
        fun S2 hS2 => ih (l + 1) S2 hS2 (by omega) (by omega)
      by_cases y : wy a l = []
      · rw [if_pos y, if_neg (by decide), if_neg (by decide), if_pos rfl]
        exact g_51 h hd P _ hl (by omega) ⟨fun _ => rfl, fun _ => rfl⟩ ⟨fun _ => y, fun _ => rfl⟩ (fun S2 hS2 => g_278 h P _ hl (by omega) (by omega) (.inl ⟨rfl, y⟩) next hS2) hS1
      · rw [if_neg y]
        have hs : (if lup a l = true then (0 : Int32) else 1) = 0 ∨ (if lup a l = true then (0 : Int32) else 1) = 1 := by
          split
          · exact .inl rfl
          · exact .inr rfl
        generalize (if lup a l = true then (0 : Int32) else 1) = s at hs
        have hs2 : s ≠ 2 := by rcases hs with e | e <;> rw [e] <;> decide
        rw [if_neg (by rcases hs with e | e <;> rw [e] <;> decide), if_neg (by rcases hs with e | e <;> rw [e] <;> decide), if_neg hs2]
        exact g_51 h hd P _ hl (by omega) ⟨fun q => absurd q hs2, fun q => (by cases q)⟩ ⟨fun q => (by cases q), fun q => absurd q y⟩ (fun S2 hS2 => g_278 h P _ hl (by omega) (by omega) (.inr ⟨hs, y⟩) next hS2) hS1
theorem l_lightsSo {a : Ab} (h : WF a) (hd : WD a) {S : St} (hS : JC S a) (P : Bool → St → Prop) (hP : ∀ S, JC S a → P true S) : wp_L_areLightsSo S P := by
  have hn := h.n60
  unfold wp_L_areLightsSo
  exact ⟨nL a + 1, by omega, g_9 h hd P hP (nL a + 1) 0 S hS (Nat.zero_le _) (by omega)⟩
