/-! THE PURE LAYER: the class's lights, fibres, nodes -/
theorem WF.lt {a : Ab} (h : WF a) {l : Nat} (hl : l < nL a) : l < 60 ∧ nF a ≤ 14 ∧ nW a ≤ 8 ∧ units a l ≤ 10 ∧ ((wy a l = [] ∧ units a l = 0) ∨ (∃ w, wy a l = [w] ∧ units a l ≠ 0 ∧ GW a w ∧ SW w) ∨ (∃ w v, wy a l = [w, v] ∧ units a l ≠ 0 ∧ GW a w ∧ SW w ∧ GW a v ∧ SW v)) := by
  obtain ⟨_, ⟨_, hw⟩, hf, h4, h5, _, _, _, _, hl2, _, _⟩ := h
  obtain ⟨_, _, _, hu, hz, hn, hg⟩ := hl2 l hl
  refine ⟨by omega, hf, hw, hu, ?_⟩
  rcases hq : wy a l with _ | ⟨w, _ | ⟨v, _ | ⟨z, r⟩⟩⟩
  · exact .inl ⟨rfl, hz.mpr hq⟩
  · refine .inr (.inl ⟨w, rfl, fun q => ?_, ?_⟩)
    · rw [hz.mp q] at hq; cases hq
    · have := hg w (by rw [hq]; simp)
      exact ⟨this, this.sw hf hw⟩
  · refine .inr (.inr ⟨w, v, rfl, fun q => ?_, ?_⟩)
    · rw [hz.mp q] at hq; cases hq
    · have h1 := hg w (by rw [hq]; simp)
      have h2 := hg v (by rw [hq]; simp)
      exact ⟨h1, h1.sw hf hw, h2, h2.sw hf hw⟩
  · rw [hq] at hn; simp at hn
theorem wup_iff {a : Ab} {w : Wy} (hw : SW w) : fbs w &&& mk 14 (ct a) = 0 ↔ wup a w = true := by
  unfold fbs wup
  rw [mk_and, mk_zero, List.all_eq_true]
  constructor
  · intro h c hc
    have h1 := hw.2.1 c hc
    have := h (c / 10) h1.1
    rw [Bool.and_eq_false_iff] at this
    rcases this with q | q
    · rw [List.any_eq_false] at q
      exact absurd (beq_self_eq_true _) (q c hc)
    · rw [q]; rfl
  · intro h f hf
    rw [Bool.and_eq_false_iff]
    cases hq : ct a f
    · exact .inr rfl
    · left
      rw [List.any_eq_false]
      intro c hc q
      have h1 := h c hc
      rw [beq_iff_eq] at q
      rw [q, hq] at h1
      cases h1
theorem k_isGone {S : St} {a : Ab} (h : WF a) {l : Nat} (hl : l < nL a) (hS : LtC S a l) (P : Bool → St → Prop) (hP : P (wy a l).isEmpty S) : wp_X1_isGone S (185 + 3 * l) P := by
  unfold wp_X1_isGone
  obtain ⟨_, _, _, hu, hc⟩ := h.lt hl
  rw [hS.2.2.1]
  rcases hc with ⟨q, z⟩ | ⟨w, q, z, _⟩ | ⟨w, v, q, z, _⟩
  · rw [z, if_pos (show nI 0 = 0 from rfl)]; rw [q] at hP; exact hP
  · rw [if_neg (by rw [n_eq0 (by omega)]; exact z)]; rw [q] at hP; exact hP
  · rw [if_neg (by rw [n_eq0 (by omega)]; exact z)]; rw [q] at hP; exact hP
theorem k_isUp {S : St} {a : Ab} (h : WF a) {l : Nat} (hl : l < nL a) (hS : LtC S a l) (P : Bool → St → Prop) (hP : P (lup a l) S) : wp_X1_isUp S (185 + 3 * l) (nI (mk 14 (ct a))) P := by
  unfold wp_X1_isUp
  refine k_isGone h hl hS _ ?_
  have e1 : 185 + 3 * l + 1 = 186 + 3 * l := by omega
  have e2 : 185 + 3 * l + 2 = 187 + 3 * l := by omega
  have hm : mk 14 (ct a) < 2 ^ 14 := mk_lt _ _
  obtain ⟨_, _, _, hu, hc⟩ := h.lt hl
  unfold lup at hP
  rw [e1, e2]
  rcases hc with ⟨q, z⟩ | ⟨w, q, z, hg, hs⟩ | ⟨w, v, q, z, hg, hs, hg2, hs2⟩
  · rw [q] at hP ⊢; exact hP
  · rw [q] at hP ⊢
    obtain ⟨h5, hr⟩ := hS.2.2.2.1 w q
    have hb := fbs_lt w
    rw [if_neg (by simp), hr.2.2.2.1, n_and, h5]
    simp only [List.any_cons, List.any_nil, Bool.or_false] at hP
    have hlt : fbs w &&& mk 14 (ct a) < 2 ^ 14 := Nat.and_lt_two_pow _ hm
    by_cases q2 : wup a w = true
    · rw [if_pos (by rw [(wup_iff hs).mpr q2]; rfl)]; rw [q2] at hP; exact hP
    · rw [if_neg (by rw [n_eq0 (by omega), wup_iff hs]; exact q2), if_pos rfl]
      rw [Bool.not_eq_true] at q2; rw [q2] at hP; exact hP
  · rw [q] at hP ⊢
    obtain ⟨h5, hr, hr2⟩ := hS.2.2.2.2 w v q
    have hlt : fbs w &&& mk 14 (ct a) < 2 ^ 14 := Nat.and_lt_two_pow _ hm
    have hlt2 : fbs v &&& mk 14 (ct a) < 2 ^ 14 := Nat.and_lt_two_pow _ hm
    rw [if_neg (by simp), hr.2.2.2.1, hr2.2.2.2.1, n_and, n_and, h5]
    simp only [List.any_cons, List.any_nil, Bool.or_false] at hP
    by_cases q2 : wup a w = true
    · rw [if_pos (by rw [(wup_iff hs).mpr q2]; rfl)]; rw [q2] at hP; exact hP
    · rw [if_neg (by rw [n_eq0 (by omega), wup_iff hs]; exact q2), if_neg (by decide)]
      rw [Bool.not_eq_true] at q2; rw [q2] at hP
      by_cases q3 : wup a v = true
      · rw [if_pos (by rw [(wup_iff hs2).mpr q3]; rfl)]; rw [q3] at hP; exact hP
      · rw [if_neg (by rw [n_eq0 (by omega), wup_iff hs2]; exact q3)]
        rw [Bool.not_eq_true] at q3; rw [q3] at hP; exact hP
/-- the wavelengths of a light on a fibre -/
def lwv (ws : List Wy) (f : Nat) : Nat := ws.foldl (fun b w => b ||| wvs w.1 f) 0
theorem lwv_1 (w : Wy) (f : Nat) : lwv [w] f = wvs w.1 f := by unfold lwv; simp
theorem lwv_2 (w v : Wy) (f : Nat) : lwv [w, v] f = wvs w.1 f ||| wvs v.1 f := by unfold lwv; simp
theorem k_lwv {S : St} {a : Ab} (h : WF a) {l : Nat} (hl : l < nL a) (hS : LtC S a l) {f : Nat} (hf : f < 14) (P : Int32 → St → Prop) (hP : P (nI (lwv (wy a l) f)) S) : wp_X1_wavelengthsOn S (185 + 3 * l) (nI f) P := by
  unfold wp_X1_wavelengthsOn
  refine k_isGone h hl hS _ ?_
  have e1 : 185 + 3 * l + 1 = 186 + 3 * l := by omega
  have e2 : 185 + 3 * l + 2 = 187 + 3 * l := by omega
  obtain ⟨_, _, _, hu, hc⟩ := h.lt hl
  rw [e1, e2]
  rcases hc with ⟨q, z⟩ | ⟨w, q, z, hg, hs⟩ | ⟨w, v, q, z, hg, hs, hg2, hs2⟩
  · rw [q] at hP ⊢; exact hP
  · rw [q] at hP ⊢
    obtain ⟨h5, hr⟩ := hS.2.2.2.1 w q
    rw [if_neg (by simp)]
    refine k_wvsOn hr hs hf _ ?_
    rw [if_pos h5]
    rw [lwv_1] at hP; exact hP
  · rw [q] at hP ⊢
    obtain ⟨h5, hr, hr2⟩ := hS.2.2.2.2 w v q
    rw [if_neg (by simp)]
    refine k_wvsOn hr hs hf _ ?_
    rw [if_neg (by rw [h5]; decide)]
    refine k_wvsOn hr2 hs2 hf _ ?_
    rw [n_or]
    rw [lwv_2] at hP; exact hP
theorem k_joins {S : St} {a : Ab} (h : WF a) {l : Nat} (hl : l < nL a) (hS : LtC S a l) {x y : Nat} (hx : x < 8) (hy : y < 8) (P : Bool → St → Prop) (hP : P (jns a l x y) S) : wp_X1_joins S (185 + 3 * l) (nI x) (nI y) P := by
  obtain ⟨_, _, _, _, _, _, _, _, _, hl2, _, _⟩ := id h
  obtain ⟨h1, h2, _⟩ := hl2 l hl
  have h8 := h.1.2
  unfold wp_X1_joins wp_X1_joins_16
  rw [hS.1, hS.2.1]
  unfold jns at hP
  simp only [nI_eq (show sn a l < 2 ^ 31 by omega) (show x < 2 ^ 31 by omega), nI_eq (show sn a l < 2 ^ 31 by omega) (show y < 2 ^ 31 by omega), nI_eq (show en a l < 2 ^ 31 by omega) (show x < 2 ^ 31 by omega), nI_eq (show en a l < 2 ^ 31 by omega) (show y < 2 ^ 31 by omega)]
  have B : ∀ u v : Nat, (u == v) = decide (u = v) := fun _ _ => rfl
  rw [B, B, B, B] at hP
  by_cases q1 : sn a l = x
  · rw [if_pos q1]
    rw [decide_eq_true q1] at hP
    by_cases q2 : en a l = y
    · rw [if_pos q2]; rw [decide_eq_true q2] at hP; exact hP
    · rw [if_neg q2]
      rw [decide_eq_false q2, Bool.and_false, Bool.false_or] at hP
      by_cases q3 : sn a l = y
      · rw [if_pos q3]
        rw [decide_eq_true q3] at hP
        by_cases q4 : en a l = x
        · rw [if_pos q4]; rw [decide_eq_true q4] at hP; exact hP
        · rw [if_neg q4]; rw [decide_eq_false q4] at hP; exact hP
      · rw [if_neg q3]; rw [decide_eq_false q3] at hP; exact hP
  · rw [if_neg q1]
    rw [decide_eq_false q1, Bool.false_and, Bool.false_or] at hP
    by_cases q3 : sn a l = y
    · rw [if_pos q3]
      rw [decide_eq_true q3] at hP
      by_cases q4 : en a l = x
      · rw [if_pos q4]; rw [decide_eq_true q4] at hP; exact hP
      · rw [if_neg q4]; rw [decide_eq_false q4] at hP; exact hP
    · rw [if_neg q3]; rw [decide_eq_false q3] at hP; exact hP
theorem k_wayAt {S : St} {a : Ab} (h : WF a) {l : Nat} (hl : l < nL a) (hS : LtC S a l) (x : Int32) (P : Option Nat → St → Prop) (h0 : ∀ (i : Nat) (w : Wy), i < 2 → x = nI i → (wy a l)[i]? = some w → RepC S (186 + 3 * l + i) w → SW w → P (some (186 + 3 * l + i)) S) (hn : (∀ i : Nat, i < (wy a l).length → x ≠ nI i) → P none S) : wp_X1_wayAt S (185 + 3 * l) x P := by
  unfold wp_X1_wayAt
  refine k_isGone h hl hS _ ?_
  have e1 : 185 + 3 * l + 1 = 186 + 3 * l + 0 := by omega
  have e2 : 185 + 3 * l + 2 = 186 + 3 * l + 1 := by omega
  obtain ⟨_, _, _, hu, hc⟩ := h.lt hl
  rw [e1, e2]
  rcases hc with ⟨q, z⟩ | ⟨w, q, z, hg, hs⟩ | ⟨w, v, q, z, hg, hs, hg2, hs2⟩
  · rw [q] at hn ⊢; exact hn (fun i hi => absurd hi (Nat.not_lt_zero _))
  · rw [q]
    obtain ⟨h5, hr⟩ := hS.2.2.2.1 w q
    rw [if_neg (by simp)]
    by_cases q0 : x = 0
    · rw [if_pos q0]; exact h0 0 w (by omega) q0 (by rw [q]; rfl) hr hs
    · rw [if_neg q0]
      have hn : P none S := hn (by
        rw [q]; intro i hi
        have : i = 0 := by simp at hi; omega
        subst this; exact q0)
      by_cases q1 : x = 1
      · rw [if_pos q1, if_pos h5]; exact hn
      · rw [if_neg q1]; exact hn
  · rw [q]
    obtain ⟨h5, hr, hr2⟩ := hS.2.2.2.2 w v q
    rw [if_neg (by simp)]
    by_cases q0 : x = 0
    · rw [if_pos q0]; exact h0 0 w (by omega) q0 (by rw [q]; rfl) hr hs
    · rw [if_neg q0]
      by_cases q1 : x = 1
      · rw [if_pos q1, if_neg (by rw [h5]; decide)]
        exact h0 1 v (by omega) q1 (by rw [q]; rfl) (by rw [show 186 + 3 * l + 1 = 187 + 3 * l by omega]; exact hr2) hs2
      · rw [if_neg q1]
        exact hn (by
          rw [q]; intro i hi
          have : i = 0 ∨ i = 1 := by simp at hi; omega
          rcases this with rfl | rfl
          · exact q0
          · exact q1)
theorem k_hasFibre {S : St} {a : Ab} (hS : InvC S a) {f : Nat} (hf : f < 2 ^ 31) (hn : nF a ≤ 14) (P : Bool → St → Prop) (hP : P (decide (f < nF a)) S) : wp_X2_hasFibre S (nI f) P := by
  unfold wp_X2_hasFibre
  rw [hS.1.2.2.1, if_neg (nI_pos hf)]
  by_cases q : f < nF a
  · rw [if_neg (by simp (disch := omega) only [n_0, n_1, n_2, n_3, n_7, n_8, n_9, n_10, n_12, n_14, n_18, n_20, n_60, n_112, n_162, n_255, n_1000, nI_add, n_mul, nI_ltI, nI_leI, nI_eq, nI_clamp]; omega)]; rw [decide_eq_true q] at hP; exact hP
  · rw [if_pos (by simp (disch := omega) only [n_0, n_1, n_2, n_3, n_7, n_8, n_9, n_10, n_12, n_14, n_18, n_20, n_60, n_112, n_162, n_255, n_1000, nI_add, n_mul, nI_ltI, nI_leI, nI_eq, nI_clamp]; omega)]; rw [decide_eq_false q] at hP; exact hP
theorem k_hasNode {S : St} {a : Ab} (hS : InvC S a) {f : Nat} (hf : f < 2 ^ 31) (hn : nD a ≤ 8) (P : Bool → St → Prop) (hP : P (decide (f < nD a)) S) : wp_X2_hasNode S (nI f) P := by
  unfold wp_X2_hasNode
  rw [hS.1.1, if_neg (nI_pos hf)]
  by_cases q : f < nD a
  · rw [if_neg (by simp (disch := omega) only [n_0, n_1, n_2, n_3, n_7, n_8, n_9, n_10, n_12, n_14, n_18, n_20, n_60, n_112, n_162, n_255, n_1000, nI_add, n_mul, nI_ltI, nI_leI, nI_eq, nI_clamp]; omega)]; rw [decide_eq_true q] at hP; exact hP
  · rw [if_pos (by simp (disch := omega) only [n_0, n_1, n_2, n_3, n_7, n_8, n_9, n_10, n_12, n_14, n_18, n_20, n_60, n_112, n_162, n_255, n_1000, nI_add, n_mul, nI_ltI, nI_leI, nI_eq, nI_clamp]; omega)]; rw [decide_eq_false q] at hP; exact hP
theorem k_isCut {S : St} {a : Ab} (hS : InvC S a) {f : Nat} (hf : f < 14) (P : Bool → St → Prop) (hP : P (ct a f) S) : wp_X2_isCut S (nI f) P := by
  unfold wp_X2_isCut
  have hm : mk 14 (ct a) < 2 ^ 14 := mk_lt _ _
  rw [hS.1.2.2.2.2]
  simp only [n_bit0 (show mk 14 (ct a) < 2 ^ 31 by omega) (show f < 32 by omega), mk_bit, hf, decide_true, Bool.true_and]
  split
  · rename_i q; rw [q] at hP; exact hP
  · rename_i q; rw [Bool.not_eq_false] at q; rw [q] at hP; exact hP
/-- a count of lights, as the class counts them -/
theorem k_lightsUp {S : St} {a : Ab} (h : WF a) (hS : InvC S a) (P : Int32 → St → Prop) (hP : P (nI (ups a)) S) : wp_X5_lightsUp S P := by
  have hn : nL a ≤ 60 := by have := h.2.2.2.1; have := h.2.2.2.2.1; omega
  have key : ∀ n i : Nat, i ≤ nL a → nL a < n + i → wp_X5_lightsUp_4 P n S (nI (cnt i (lup a))) (nI i) := by
    intro n
    induction n with
    | zero => intro i h1 h2; omega
    | succ n ih =>
      intro i h1 h2
      simp only [wp_X5_lightsUp_4]
      rw [hS.2.2.1.1]
      by_cases q : i = nL a
      · subst q
        rw [if_pos (by simp (disch := omega) only [n_0, n_1, n_2, n_3, n_7, n_8, n_9, n_10, n_12, n_14, n_18, n_20, n_60, n_112, n_162, n_255, n_1000, nI_add, n_mul, nI_ltI, nI_leI, nI_eq, nI_clamp]; omega)]; exact hP
      · have hi : i < nL a := by omega
        rw [if_neg (by simp (disch := omega) only [n_0, n_1, n_2, n_3, n_7, n_8, n_9, n_10, n_12, n_14, n_18, n_20, n_60, n_112, n_162, n_255, n_1000, nI_add, n_mul, nI_ltI, nI_leI, nI_eq, nI_clamp]; omega)]
        refine ⟨vp_in_nI (by omega) (by omega), ?_⟩
        rw [nI_clamp (by omega), hS.1.2.2.2.2]
        refine k_isUp h hi (hS.2.2.2.2.2 i hi) _ ?_
        have ih := ih (i + 1) (by omega) (by omega)
        rw [cnt] at ih
        unfold wp_X5_lightsUp_34
        split
        · rename_i q2
          rw [if_pos q2] at ih
          rintro _ rfl _ rfl
          rw [nI_1, nI_1]; exact ih
        · rename_i q2
          rw [if_neg q2] at ih
          rintro _ rfl
          rw [nI_1]; exact ih
  exact ⟨nL a + 1, key _ 0 (by omega) (by omega)⟩
theorem k_living {S : St} {a : Ab} (h : WF a) (hS : InvC S a) (P : Int32 → St → Prop) (hP : P (nI (lvs a)) S) : wp_X5_livingLights S P := by
  have hn : nL a ≤ 60 := by have := h.2.2.2.1; have := h.2.2.2.2.1; omega
  have key : ∀ n i : Nat, i ≤ nL a → nL a < n + i → wp_X5_livingLights_4 P n S (nI (cnt i (fun l => !(wy a l).isEmpty))) (nI i) := by
    intro n
    induction n with
    | zero => intro i h1 h2; omega
    | succ n ih =>
      intro i h1 h2
      simp only [wp_X5_livingLights_4]
      rw [hS.2.2.1.1]
      by_cases q : i = nL a
      · subst q
        rw [if_pos (by simp (disch := omega) only [n_0, n_1, n_2, n_3, n_7, n_8, n_9, n_10, n_12, n_14, n_18, n_20, n_60, n_112, n_162, n_255, n_1000, nI_add, n_mul, nI_ltI, nI_leI, nI_eq, nI_clamp]; omega)]; exact hP
      · have hi : i < nL a := by omega
        rw [if_neg (by simp (disch := omega) only [n_0, n_1, n_2, n_3, n_7, n_8, n_9, n_10, n_12, n_14, n_18, n_20, n_60, n_112, n_162, n_255, n_1000, nI_add, n_mul, nI_ltI, nI_leI, nI_eq, nI_clamp]; omega)]
        refine ⟨vp_in_nI (by omega) (by omega), ?_⟩
        rw [nI_clamp (by omega)]
        refine k_isGone h hi (hS.2.2.2.2.2 i hi) _ ?_
        have ih := ih (i + 1) (by omega) (by omega)
        rw [cnt] at ih
        unfold wp_X5_livingLights_27
        split
        · rename_i q2
          rw [if_neg (by rw [q2]; decide)] at ih
          rintro _ rfl
          rw [nI_1]; exact ih
        · rename_i q2
          rw [if_pos (by rw [Bool.not_eq_true] at q2; rw [q2]; rfl)] at ih
          rintro _ rfl _ rfl
          rw [nI_1, nI_1]; exact ih
  exact ⟨nL a + 1, key _ 0 (by omega) (by omega)⟩
/-- the wavelengths on a fibre that lights below n use, but one light -/
def wun (a : Ab) (own f : Nat) : Nat → Nat
  | 0 => 0
  | l + 1 => wun a own f l ||| (if l = own then 0 else lwv (wy a l) f)
theorem k_wun_n {S : St} {a : Ab} (h : WF a) (hS : InvC S a) {f : Nat} (hf : f < 14) (P : Int32 → St → Prop) (hP : P (nI (wun a 60 f (nL a))) S) : wp_X5_wavelengthsUsed_n S (nI f) P := by
  have hn : nL a ≤ 60 := by have := h.2.2.2.1; have := h.2.2.2.2.1; omega
  have key : ∀ n i : Nat, i ≤ nL a → nL a < n + i → wp_X5_wavelengthsUsed_n_5 (nI f) P n S (nI (wun a 60 f i)) (nI i) := by
    intro n
    induction n with
    | zero => intro i h1 h2; omega
    | succ n ih =>
      intro i h1 h2
      simp only [wp_X5_wavelengthsUsed_n_5]
      rw [hS.2.2.1.1]
      by_cases q : i = nL a
      · subst q
        rw [if_pos (by simp (disch := omega) only [n_0, n_1, n_2, n_3, n_7, n_8, n_9, n_10, n_12, n_14, n_18, n_20, n_60, n_112, n_162, n_255, n_1000, nI_add, n_mul, nI_ltI, nI_leI, nI_eq, nI_clamp]; omega)]; exact hP
      · have hi : i < nL a := by omega
        rw [if_neg (by simp (disch := omega) only [n_0, n_1, n_2, n_3, n_7, n_8, n_9, n_10, n_12, n_14, n_18, n_20, n_60, n_112, n_162, n_255, n_1000, nI_add, n_mul, nI_ltI, nI_leI, nI_eq, nI_clamp]; omega)]
        have hv : vp_in (nI i) 60 := vp_in_nI (by omega) (by omega)
        refine ⟨hv, ?_⟩
        have ih := ih (i + 1) (by omega) (by omega)
        rw [wun, if_neg (by omega)] at ih
        rw [if_neg (by simp)]
        refine ⟨hv, ?_⟩
        rw [nI_clamp (by omega)]
        refine k_lwv h hi (hS.2.2.2.2.2 i hi) hf _ ?_
        unfold wp_X5_wavelengthsUsed_n_39
        rintro _ rfl _ rfl
        rw [n_or, nI_1]; exact ih
  exact ⟨nL a + 1, key _ 0 (by omega) (by omega)⟩
theorem k_wun_s {S : St} {a : Ab} (h : WF a) (hS : InvC S a) {own f : Nat} (hf : f < 14) (P : Int32 → St → Prop) (hP : P (nI (wun a own f (nL a))) S) : wp_X5_wavelengthsUsed_s S (nI f) (185 + 3 * own) P := by
  have hn : nL a ≤ 60 := by have := h.2.2.2.1; have := h.2.2.2.2.1; omega
  have key : ∀ n i : Nat, i ≤ nL a → nL a < n + i → wp_X5_wavelengthsUsed_s_5 (nI f) (185 + 3 * own) P n S (nI (wun a own f i)) (nI i) := by
    intro n
    induction n with
    | zero => intro i h1 h2; omega
    | succ n ih =>
      intro i h1 h2
      simp only [wp_X5_wavelengthsUsed_s_5]
      rw [hS.2.2.1.1]
      by_cases q : i = nL a
      · subst q
        rw [if_pos (by simp (disch := omega) only [n_0, n_1, n_2, n_3, n_7, n_8, n_9, n_10, n_12, n_14, n_18, n_20, n_60, n_112, n_162, n_255, n_1000, nI_add, n_mul, nI_ltI, nI_leI, nI_eq, nI_clamp]; omega)]; exact hP
      · have hi : i < nL a := by omega
        rw [if_neg (by simp (disch := omega) only [n_0, n_1, n_2, n_3, n_7, n_8, n_9, n_10, n_12, n_14, n_18, n_20, n_60, n_112, n_162, n_255, n_1000, nI_add, n_mul, nI_ltI, nI_leI, nI_eq, nI_clamp]; omega)]
        have hv : vp_in (nI i) 60 := vp_in_nI (by omega) (by omega)
        refine ⟨hv, ?_⟩
        have ih := ih (i + 1) (by omega) (by omega)
        rw [nI_clamp (by omega)]
        unfold wp_X5_wavelengthsUsed_s_39
        by_cases q2 : i = own
        · rw [wun, if_pos q2, Nat.or_zero] at ih
          rw [if_pos (by rw [q2])]
          rintro _ rfl
          rw [nI_1]; exact ih
        · rw [wun, if_neg q2] at ih
          rw [if_neg (by rw [Option.some.injEq]; omega)]
          refine ⟨hv, ?_⟩
          refine k_lwv h hi (hS.2.2.2.2.2 i hi) hf _ ?_
          rintro _ rfl _ rfl
          rw [n_or, nI_1]; exact ih
  exact ⟨nL a + 1, key _ 0 (by omega) (by omega)⟩
