/-! THE PURE LAYER: channels in use, channels that are open -/
theorem lwv_bit (ws : List Wy) (f i : Nat) : (lwv ws f).testBit i = ws.any (fun w => (wvs w.1 f).testBit i) := by
  unfold lwv
  have : ∀ (ws : List Wy) (b : Nat), (ws.foldl (fun b w => b ||| wvs w.1 f) b).testBit i = (b.testBit i || ws.any (fun w => (wvs w.1 f).testBit i)) := by
    intro ws
    induction ws with
    | nil => intro b; simp
    | cons x ws ih => intro b; rw [List.foldl_cons, ih, List.any_cons, Nat.testBit_or, Bool.or_assoc]
  rw [this]; simp
theorem lwv_onc (ws : List Wy) {f i : Nat} (hi : i < 10) : (lwv ws f).testBit i = onc ws (10 * f + i) := by
  rw [lwv_bit]; unfold onc
  congr 1
  funext w
  exact wvs_chan _ hi
theorem wun_bit (a : Ab) (own f n : Nat) {i : Nat} (hi : i < 10) : (wun a own f n).testBit i = true ↔ ∃ l, l < n ∧ l ≠ own ∧ onc (wy a l) (10 * f + i) = true := by
  induction n with
  | zero => simp [wun]
  | succ n ih =>
    rw [wun, Nat.testBit_or, Bool.or_eq_true, ih]
    constructor
    · rintro (⟨l, h1, h2, h3⟩ | h)
      · exact ⟨l, by omega, h2, h3⟩
      · by_cases q : n = own
        · rw [if_pos q] at h; simp at h
        · rw [if_neg q, lwv_onc _ hi] at h
          exact ⟨n, by omega, q, h⟩
    · rintro ⟨l, h1, h2, h3⟩
      by_cases q : l = n
      · subst q
        right
        rw [if_neg h2, lwv_onc _ hi]; exact h3
      · exact .inl ⟨l, by omega, h2, h3⟩
theorem onc_mem {ws : List Wy} {c : Nat} (h : onc ws c = true) : ∃ (i : Nat) (w : Wy), ws[i]? = some w ∧ c ∈ w.1 := by
  unfold onc at h
  rw [List.any_eq_true] at h
  obtain ⟨w, hw, hc⟩ := h
  obtain ⟨i, hi⟩ := List.mem_iff_getElem?.mp hw
  exact ⟨i, w, hi, List.contains_iff_mem.mp hc⟩
theorem onc_of {ws : List Wy} {c i : Nat} {w : Wy} (h : ws[i]? = some w) (hc : c ∈ w.1) : onc ws c = true := by
  unfold onc
  rw [List.any_eq_true]
  exact ⟨w, List.mem_of_getElem? h, List.contains_iff_mem.mpr hc⟩
theorem WF.onc_un {a : Ab} (h : WF a) {l l' c : Nat} (hl : l < nL a) (hl' : l' < nL a) (h1 : onc (wy a l) c = true) (h2 : onc (wy a l') c = true) : l = l' := by
  obtain ⟨i, w, q1, q2⟩ := onc_mem h1
  obtain ⟨i', w', q3, q4⟩ := onc_mem h2
  exact (h.2.2.2.2.2.2.2.2.2.2.1 l i l' i' w w' c hl hl' q1 q3 q2 q4).1
theorem WF.onc_lt {a : Ab} (h : WF a) {l c : Nat} (hl : l < nL a) (h1 : onc (wy a l) c = true) : c / 10 < nF a ∧ c % 10 < nW a := by
  obtain ⟨i, w, q1, q2⟩ := onc_mem h1
  exact ((h.2.2.2.2.2.2.2.2.2.1 l hl).2.2.2.2.2.2 w (List.mem_of_getElem? q1)).2.2.1 c q2
theorem usr_some {a : Ab} (h : WF a) {f w l : Nat} : usr a f w = some l ↔ l < nL a ∧ onc (wy a l) (10 * f + w) = true := by
  unfold usr
  constructor
  · intro q
    have h1 := List.mem_of_find?_eq_some q
    have h2 := List.find?_some q
    exact ⟨List.mem_range.mp h1, h2⟩
  · rintro ⟨h1, h2⟩
    rcases hq : (List.range (nL a)).find? (fun l => onc (wy a l) (10 * f + w)) with _ | l'
    · rw [List.find?_eq_none] at hq
      exact absurd h2 (hq l (List.mem_range.mpr h1))
    · have h3 := List.mem_of_find?_eq_some hq
      have h4 := List.find?_some hq
      rw [h.onc_un h1 (List.mem_range.mp h3) h2 h4]
theorem usr_none {a : Ab} {f w : Nat} : usr a f w = none ↔ ∀ l, l < nL a → onc (wy a l) (10 * f + w) = false := by
  unfold usr
  rw [List.find?_eq_none]
  constructor
  · intro q l hl
    rw [← Bool.not_eq_true]; exact q l (List.mem_range.mpr hl)
  · intro q l hl
    rw [q l (List.mem_range.mp hl)]; simp
theorem usb_wun {a : Ab} (h : WF a) (own : Nat) {f : Nat} : usb a own f = mk (nW a) (fun w => !ct a f && decide (f < nF a) && !(wun a own f (nL a)).testBit w) := by
  unfold usb
  apply mk_ext
  intro w hw
  have hw8 := h.2.1.2
  congr 1
  rw [Bool.eq_iff_iff, Bool.not_eq_true', ← Bool.not_eq_true, wun_bit _ _ _ _ (by omega)]
  rcases hq : usr a f w with _ | l
  · rw [usr_none] at hq
    simp only [true_iff]
    rintro ⟨l, h1, _, h3⟩
    rw [hq l h1] at h3; cases h3
  · rw [usr_some h] at hq
    simp only [beq_iff_eq]
    constructor
    · rintro rfl ⟨l2, h1, h2, h3⟩
      exact h2 (h.onc_un h1 hq.1 h3 hq.2)
    · intro q
      apply Classical.byContradiction
      intro q2
      exact q ⟨l, hq.1, q2, hq.2⟩
theorem wun_lt {a : Ab} (h : WF a) (own : Nat) {f : Nat} (n : Nat) (hn : n ≤ nL a) : wun a own f n < 2 ^ 8 := by
  induction n with
  | zero => simp [wun]
  | succ n ih =>
    rw [wun]
    refine Nat.or_lt_two_pow (ih (by omega)) ?_
    split
    · omega
    · obtain ⟨_, _, _, _, hc⟩ := h.lt (l := n) (by omega)
      rcases hc with ⟨q, _⟩ | ⟨w, q, _, _, hs⟩ | ⟨w, v, q, _, _, hs, _, hs2⟩
      · rw [q]; simp [lwv]
      · rw [q, lwv_1]; exact wvs_lt (fun c hc => (hs.2.1 c hc).2) f
      · rw [q, lwv_2]; exact Nat.or_lt_two_pow (wvs_lt (fun c hc => (hs.2.1 c hc).2) f) (wvs_lt (fun c hc => (hs2.2.1 c hc).2) f)
theorem wun_mk {a : Ab} (h : WF a) (f : Nat) : wun a 60 f (nL a) = mk (nW a) (fun w => (usr a f w).isSome) := by
  have hw8 := h.2.1.2
  have hn : nL a ≤ 60 := by have := h.2.2.2.1; have := h.2.2.2.2.1; omega
  apply Nat.eq_of_testBit_eq
  intro i
  rw [mk_bit]
  by_cases hi : i < 10
  · rw [Bool.eq_iff_iff, wun_bit _ _ _ _ hi]
    constructor
    · rintro ⟨l, h1, h2, h3⟩
      rw [(usr_some h).mpr ⟨h1, h3⟩]
      have := h.onc_lt h1 h3
      simp; omega
    · intro q
      rw [Bool.and_eq_true, Option.isSome_iff_exists] at q
      obtain ⟨_, l, hl⟩ := q
      rw [usr_some h] at hl
      exact ⟨l, hl.1, by omega, hl.2⟩
  · rw [Nat.testBit_lt_two_pow (Nat.lt_of_lt_of_le (wun_lt h 60 _ (Nat.le_refl _)) (Nat.pow_le_pow_right (by omega) (by omega)))]
    simp; omega
theorem n_open {n x : Nat} (hn : n ≤ 8) (hn1 : 1 ≤ n) : ((1 : Int32) <<< (nI n &&& 31) - 1) &&& (nI x ^^^ (-1)) = nI (mk n (fun i => !x.testBit i)) := by
  have e : (1 : Int32) <<< (nI n &&& 31) - 1 = nI (2 ^ n - 1) := by
    rw [n_one (by omega), n_1, n_sub (Nat.pos_of_ne_zero (by simp))]
  rw [e]
  have hlt : 2 ^ n ≤ 2 ^ 8 := Nat.pow_le_pow_right (by omega) hn
  rw [n_notand _ _ (by omega)]
  congr 1
  apply Nat.eq_of_testBit_eq
  intro i
  rw [Nat.testBit_and, Nat.testBit_two_pow_sub_one, mk_bit]
  by_cases hi : i < n
  · rw [bit_notin (by omega)]
  · simp [hi]
theorem k_open_n {S : St} {a : Ab} (h : WF a) (hS : InvC S a) (P : St → Prop) (hP : ∀ S', agr (fun q => q ≠ 6) S S' → (∀ f, f < 14 → gI S' 6 f = nI (usb a 60 f)) → P S') : wp_X5_openChannels_n S P := by
  have hn : nL a ≤ 60 := by have := h.2.2.2.1; have := h.2.2.2.2.1; omega
  have key : ∀ (n : Nat) (S' : St) (i : Nat), i ≤ 14 → 14 < n + i → agr (fun q => q ≠ 6) S S' → (∀ f, f < i → gI S' 6 f = nI (usb a 60 f)) → wp_X5_openChannels_n_2 P n S' (nI i) := by
    intro n
    induction n with
    | zero => intro S' i h1 h2; omega
    | succ n ih =>
      intro S' i h1 h2 hag hv
      have hS' : InvC S' a := hS.ag hn (hag.mo (fun k hk => by unfold CC at hk; show k ≠ 6; omega))
      simp only [wp_X5_openChannels_n_2]
      by_cases q : i = 14
      · subst q
        rw [if_pos (by simp (disch := omega) only [n_0, n_1, n_2, n_3, n_7, n_8, n_9, n_10, n_12, n_14, n_18, n_20, n_60, n_112, n_162, n_255, n_1000, nI_add, n_mul, nI_ltI, nI_leI, nI_eq, nI_clamp]; omega)]; exact hP S' hag hv
      · rw [if_neg (by simp (disch := omega) only [n_0, n_1, n_2, n_3, n_7, n_8, n_9, n_10, n_12, n_14, n_18, n_20, n_60, n_112, n_162, n_255, n_1000, nI_add, n_mul, nI_ltI, nI_leI, nI_eq, nI_clamp]; omega)]
        refine k_hasFibre hS' (by omega) h.2.2.1 _ ?_
        unfold wp_X5_openChannels_n_30 wp_X5_openChannels_n_35 wp_X5_openChannels_n_76
        have fin : ∀ v : Int32, v = nI (usb a 60 i) → (vp_in (nI i) 14 ∧ ∀ (S76 : St), S76 = sI S' 6 (nI i).toNatClampNeg v → ∀ (y77 : Int32), y77 = nI i + 1 → wp_X5_openChannels_n_2 P n S76 y77) := by
          intro v hv2
          refine ⟨vp_in_nI (by omega) (by omega), ?_⟩
          rintro _ rfl _ rfl
          rw [nI_1, nI_clamp (by omega)]
          refine ih _ (i + 1) (by omega) (by omega) (hag.tr (agr_sI (by simp) _ _ _)) ?_
          intro f hf
          by_cases q3 : f = i
          · subst q3; rw [gI_s]; exact hv2
          · rw [gI_n (by omega)]; exact hv f (by omega)
        by_cases q1 : i < nF a
        · rw [decide_eq_true q1, if_pos rfl]
          refine k_isCut hS' (by omega) _ ?_
          rcases q2 : ct a i with _ | _
          · rw [if_neg (by simp)]
            intro y47 hy
            rw [if_neg (by simp)]
            refine k_wun_n h hS' (by omega) _ ?_
            refine fin _ ?_
            rw [hy, hS'.1.2.1, n_open h.2.1.2 h.2.1.1, usb_wun h, q2, decide_eq_true q1]
            rfl
          · rw [if_pos rfl]
            intro y47 hy
            rw [if_pos rfl]
            refine fin 0 ?_
            rw [usb_wun h, q2]
            rw [show mk (nW a) (fun w => !true && decide (i < nF a) && !(wun a 60 i (nL a)).testBit w) = 0 by rw [mk_zero]; intro j _; rfl]
            rfl
        · rw [decide_eq_false q1, if_neg (by simp)]
          intro y47 hy
          rw [if_pos rfl]
          refine fin 0 ?_
          rw [usb_wun h, decide_eq_false q1]
          rw [show mk (nW a) (fun w => !ct a i && false && !(wun a 60 i (nL a)).testBit w) = 0 by rw [mk_zero]; intro j _; simp]
          rfl
  exact ⟨15, key _ S 0 (by omega) (by omega) (agr.rf _ _) (fun f hf => absurd hf (Nat.not_lt_zero _))⟩
theorem k_open_s {S : St} {a : Ab} {own : Nat} (h : WF a) (hS : InvC S a) (P : St → Prop) (hP : ∀ S', agr (fun q => q ≠ 6) S S' → (∀ f, f < 14 → gI S' 6 f = nI (usb a own f)) → P S') : wp_X5_openChannels_s S (185 + 3 * own) P := by
  have hn : nL a ≤ 60 := by have := h.2.2.2.1; have := h.2.2.2.2.1; omega
  have key : ∀ (n : Nat) (S' : St) (i : Nat), i ≤ 14 → 14 < n + i → agr (fun q => q ≠ 6) S S' → (∀ f, f < i → gI S' 6 f = nI (usb a own f)) → wp_X5_openChannels_s_2 (185 + 3 * own) P n S' (nI i) := by
    intro n
    induction n with
    | zero => intro S' i h1 h2; omega
    | succ n ih =>
      intro S' i h1 h2 hag hv
      have hS' : InvC S' a := hS.ag hn (hag.mo (fun k hk => by unfold CC at hk; show k ≠ 6; omega))
      simp only [wp_X5_openChannels_s_2]
      by_cases q : i = 14
      · subst q
        rw [if_pos (by simp (disch := omega) only [n_0, n_1, n_2, n_3, n_7, n_8, n_9, n_10, n_12, n_14, n_18, n_20, n_60, n_112, n_162, n_255, n_1000, nI_add, n_mul, nI_ltI, nI_leI, nI_eq, nI_clamp]; omega)]; exact hP S' hag hv
      · rw [if_neg (by simp (disch := omega) only [n_0, n_1, n_2, n_3, n_7, n_8, n_9, n_10, n_12, n_14, n_18, n_20, n_60, n_112, n_162, n_255, n_1000, nI_add, n_mul, nI_ltI, nI_leI, nI_eq, nI_clamp]; omega)]
        refine k_hasFibre hS' (by omega) h.2.2.1 _ ?_
        unfold wp_X5_openChannels_s_30 wp_X5_openChannels_s_35 wp_X5_openChannels_s_76
        have fin : ∀ v : Int32, v = nI (usb a own i) → (vp_in (nI i) 14 ∧ ∀ (S76 : St), S76 = sI S' 6 (nI i).toNatClampNeg v → ∀ (y77 : Int32), y77 = nI i + 1 → wp_X5_openChannels_s_2 (185 + 3 * own) P n S76 y77) := by
          intro v hv2
          refine ⟨vp_in_nI (by omega) (by omega), ?_⟩
          rintro _ rfl _ rfl
          rw [nI_1, nI_clamp (by omega)]
          refine ih _ (i + 1) (by omega) (by omega) (hag.tr (agr_sI (by simp) _ _ _)) ?_
          intro f hf
          by_cases q3 : f = i
          · subst q3; rw [gI_s]; exact hv2
          · rw [gI_n (by omega)]; exact hv f (by omega)
        by_cases q1 : i < nF a
        · rw [decide_eq_true q1, if_pos rfl]
          refine k_isCut hS' (by omega) _ ?_
          rcases q2 : ct a i with _ | _
          · rw [if_neg (by simp)]
            intro y47 hy
            rw [if_neg (by simp)]
            refine k_wun_s h hS' (by omega) _ ?_
            refine fin _ ?_
            rw [hy, hS'.1.2.1, n_open h.2.1.2 h.2.1.1, usb_wun h, q2, decide_eq_true q1]
            rfl
          · rw [if_pos rfl]
            intro y47 hy
            rw [if_pos rfl]
            refine fin 0 ?_
            rw [usb_wun h, q2]
            rw [show mk (nW a) (fun w => !true && decide (i < nF a) && !(wun a own i (nL a)).testBit w) = 0 by rw [mk_zero]; intro j _; rfl]
            rfl
        · rw [decide_eq_false q1, if_neg (by simp)]
          intro y47 hy
          rw [if_pos rfl]
          refine fin 0 ?_
          rw [usb_wun h, decide_eq_false q1]
          rw [show mk (nW a) (fun w => !ct a i && false && !(wun a own i (nL a)).testBit w) = 0 by rw [mk_zero]; intro j _; simp]
          rfl
  exact ⟨15, key _ S 0 (by omega) (by omega) (agr.rf _ _) (fun f hf => absurd hf (Nat.not_lt_zero _))⟩
