/-! THE PURE LAYER: the class's calls, numbers and lights -/
def bc1 (x : Int32) : Int32 := x - (((x.toUInt32 >>> (Int32.toUInt32 1 &&& Int32.toUInt32 31)).toInt32) &&& 1431655765)
def bc2 (y : Int32) : Int32 := (y &&& 858993459) + (((y.toUInt32 >>> (Int32.toUInt32 2 &&& Int32.toUInt32 31)).toInt32) &&& 858993459)
def bc3 (y : Int32) : Int32 := (y + ((y.toUInt32 >>> (Int32.toUInt32 4 &&& Int32.toUInt32 31)).toInt32)) &&& 252645135
def bc4 (y : Int32) : Int32 := y + ((y.toUInt32 >>> (Int32.toUInt32 8 &&& Int32.toUInt32 31)).toInt32)
def bc5 (y : Int32) : Int32 := y + ((y.toUInt32 >>> (Int32.toUInt32 16 &&& Int32.toUInt32 31)).toInt32)
theorem bc_8 : ∀ m, m < 256 → bc5 (bc4 (bc3 (bc2 (bc1 (nI m))))) &&& 63 = nI (cnt 8 m.testBit) := by decide +kernel
theorem k_bits {S : St} {m : Nat} (hm : m < 256) (P : Int32 → St → Prop) (hP : P (nI (cnt 8 m.testBit)) S) : wp_J6_bitCount_0f7a4 S (nI m) P := by
  rw [← bc_8 m hm] at hP
  unfold wp_J6_bitCount_0f7a4
  rintro _ rfl _ rfl _ rfl _ rfl _ rfl
  exact hP
theorem cnt_in (n : Nat) (p : Nat → Bool) : ∀ k, cnt (n + k) (fun i => decide (i < n) && p i) = cnt n p := by
  intro k
  induction k with
  | zero => exact cnt_congr (fun i hi => by rw [decide_eq_true (show i < n from hi), Bool.true_and])
  | succ k ih =>
    rw [show n + (k + 1) = (n + k) + 1 from rfl, cnt, ih, decide_eq_false (show ¬ n + k < n by omega), Bool.false_and, if_neg (by decide), Nat.add_zero]
theorem cnt_ons {a : Ab} (h : WF a) (f : Nat) : cnt 8 (wun a 60 f (nL a)).testBit = ons a f := by
  have hw8 := h.2.1.2
  rw [wun_mk h f]
  have e : (mk (nW a) (fun w => (usr a f w).isSome)).testBit = fun i => decide (i < nW a) && (usr a f i).isSome := by
    funext i; exact mk_bit _ _ i
  rw [e]
  have := cnt_in (nW a) (fun w => (usr a f w).isSome) (8 - nW a)
  rw [show nW a + (8 - nW a) = 8 by omega] at this
  exact this
theorem ons_le {a : Ab} (f : Nat) : ons a f ≤ nW a := cnt_le _ _
theorem mx_le {n B : Nat} {g : Nat → Nat} (h : ∀ i, g i ≤ B) : mx n g ≤ B := by
  induction n with
  | zero => exact Nat.zero_le _
  | succ n ih => rw [mx]; have := h n; omega
theorem sm_leB {n B : Nat} {g : Nat → Nat} (h : ∀ i, g i ≤ B) : sm n g ≤ n * B := by
  induction n with
  | zero => exact Nat.zero_le _
  | succ n ih => rw [sm, Nat.succ_mul]; have := h n; omega
theorem k_ons {S : St} {a : Ab} (h : WF a) (hI : InvC S a) {f : Nat} (hf : f < 14) (P : Int32 → St → Prop) (hP : P (nI (ons a f)) S) : wp_X5_wavelengthsUsed_n S (nI f) (fun r19 S19 => (wp_J6_bitCount_0f7a4 S19 r19 (fun r22 S22 => P r22 S22))) := by
  refine k_wun_n h hI hf _ ?_
  refine k_bits (wun_lt h 60 _ (Nat.le_refl _)) _ ?_
  rw [cnt_ons h]; exact hP
theorem k_load {S : St} {a : Ab} (h : WF a) (hI : InvC S a) (P : Int32 → St → Prop) (hP : P (nI (mx (nF a) (ons a))) S) : wp_X5_load S P := by
  have h14 := h.2.2.1
  have hw8 := h.2.1.2
  have hm : ∀ n, mx n (ons a) ≤ 8 := fun n => mx_le (fun i => Nat.le_trans (ons_le i) hw8)
  unfold wp_X5_load
  have key : ∀ N i : Nat, i ≤ nF a → nF a < N + i → wp_X5_load_4 P N S (nI (mx i (ons a))) (nI i) := by
    intro N
    induction N with
    | zero => intro i h1 h2; omega
    | succ N ih =>
      intro i h1 h2
      rw [wp_X5_load_4]
      dsimp only
      rw [hI.1.2.2.1]
      by_cases q : i = nF a
      · rw [if_pos (by simp (disch := omega) only [n_0, n_1, n_2, n_3, n_7, n_8, n_9, n_10, n_12, n_14, n_18, n_20, n_60, n_112, n_162, n_255, n_1000, nI_add, n_mul, nI_ltI, nI_leI, nI_eq, nI_clamp]; omega), q]; exact hP
      · rw [if_neg (by simp (disch := omega) only [n_0, n_1, n_2, n_3, n_7, n_8, n_9, n_10, n_12, n_14, n_18, n_20, n_60, n_112, n_162, n_255, n_1000, nI_add, n_mul, nI_ltI, nI_leI, nI_eq, nI_clamp]; omega)]
        refine k_ons h hI (by omega) _ ?_
        rintro _ rfl _ rfl
        have ih := ih (i + 1) (by omega) (by omega)
        have hm1 := hm i
        have ho := ons_le (a := a) i
        have e : (if nI (mx i (ons a)) < nI (ons a i) then nI (ons a i) else nI (mx i (ons a))) = nI (mx (i + 1) (ons a)) := by
          rw [mx]
          by_cases z : mx i (ons a) < ons a i
          · rw [if_pos (by simp (disch := omega) only [n_0, n_1, n_2, n_3, n_7, n_8, n_9, n_10, n_12, n_14, n_18, n_20, n_60, n_112, n_162, n_255, n_1000, nI_add, n_mul, nI_ltI, nI_leI, nI_eq, nI_clamp]; omega)]; congr 1; omega
          · rw [if_neg (by simp (disch := omega) only [n_0, n_1, n_2, n_3, n_7, n_8, n_9, n_10, n_12, n_14, n_18, n_20, n_60, n_112, n_162, n_255, n_1000, nI_add, n_mul, nI_ltI, nI_leI, nI_eq, nI_clamp]; omega)]; congr 1; omega
        rw [e, nI_1]; exact ih
  obtain ⟨N, hN⟩ : ∃ N, nF a < N := ⟨_, Nat.lt_succ_self _⟩
  exact ⟨N, key N 0 (by omega) (by omega)⟩
def flr (u c : Nat) : UInt32 := FP.fdiv (FP.i2f (nI u)) (FP.i2f (nI c))
theorem nan32 {x : UInt32} (h : FP.Core.fIsNaN x = false) : x &&& 0x7fffffff ≤ 0x7f800000 := by
  have h2 : ¬ FP.Core.fIsNaN x = true := by rw [h]; decide
  rw [FP.Core.isNaN_bits32] at h2
  rw [UInt32.le_iff_toNat_le, UInt32.toNat_and]
  show x.toNat &&& 2147483647 ≤ 2139095040
  rw [show (2147483647 : Nat) = 2 ^ 31 - 1 from rfl, Nat.and_two_pow_sub_one_eq_mod]
  omega
theorem nan64 {x : UInt64} (h : FP.Core.dIsNaN x = false) : x &&& 0x7fffffffffffffff ≤ 0x7ff0000000000000 := by
  have h2 : ¬ FP.Core.dIsNaN x = true := by rw [h]; decide
  rw [FP.Core.isNaN_bits] at h2
  rw [UInt64.le_iff_toNat_le, UInt64.toNat_and]
  show x.toNat &&& 9223372036854775807 ≤ 9218868437227405312
  rw [show (9223372036854775807 : Nat) = 2 ^ 63 - 1 from rfl, Nat.and_two_pow_sub_one_eq_mod]
  omega
theorem flr_ok {u c : Nat} (hc : c < 113) (h0 : c ≠ 0) : vf_n32 (flr u c) ∧ vf_n64 (FP.f2d (flr u c)) ∧ (Op.cmpValue (FP.dcmp (FP.f2d (flr u c)) (FP.f2d (flr u c))) .l) = 0 := by
  have h1 : FP.Core.fIsNaN (flr u c) = false := by
    show FP.Core.fIsNaN (FP.Core.fdiv (FP.Core.i2f (nI u)) (FP.Core.i2f (nI c))) = false
    refine FP.Core.fdiv_out ((FP.Core.notNaN_iff32 _).mpr (FP.Core.i2f_fin _).ne_nan) (FP.Core.i2f_fin _) ?_
    rw [FP.Core.zero_bits232]
    exact FP.Core.i2f_ne_zero (by rw [n_0, Ne, nI_eq (by omega) (by omega)]; exact h0)
  have h2 : FP.Core.dIsNaN (FP.f2d (flr u c)) = false := (FP.f2d_nan (flr u c)).trans h1
  refine ⟨nan32 h1, nan64 h2, ?_⟩
  have h3 : FP.dcmp (FP.f2d (flr u c)) (FP.f2d (flr u c)) = some .eq := FP.Core.dcmp_self ((FP.Core.notNaN_iff _).mp h2)
  rw [h3]; rfl
theorem WF.chans {a : Ab} (h : WF a) : sm (nF a) (ons a) < 113 ∧ nF a * nW a < 113 := by
  have h1 := h.2.2.1
  have h2 := h.2.1.2
  have h3 := sm_leB (n := nF a) (g := ons a) (B := 8) (fun i => Nat.le_trans (ons_le i) h2)
  have h4 : nF a * nW a ≤ nF a * 8 := Nat.mul_le_mul_left _ h2
  omega
theorem k_usage {S : St} {a : Ab} (h : WF a) (hI : InvC S a) (hz : Tk S) (P : UInt32 → St → Prop) (E : String → St → Prop) (hO : OutC S a sIS sIS (q_usage a) P E) : wp_X5_usage S P E := by
  have h14 := h.2.2.1
  have hw8 := h.2.1.2
  have hw1 := h.2.1.1
  obtain ⟨hc1, hc2⟩ := h.chans
  unfold wp_X5_usage
  rw [hI.1.2.2.1, hI.1.2.1, n_mul]
  rintro _ rfl
  by_cases c : nF a = 0
  · rw [if_pos (by rw [c, Nat.zero_mul]; rfl)]
    exact hO.2 1 S (by unfold q_usage; rw [if_pos c]) (KC.rf hI hz)
  · have hp : nF a * nW a ≠ 0 := Nat.mul_ne_zero c (by omega)
    rw [if_neg (by rw [n_eq0 (by omega)]; exact hp)]
    have hP := hO.1 _ a S (by unfold q_usage; rw [if_neg c]) (KC.rf hI hz)
    have key : ∀ N i : Nat, i ≤ nF a → nF a < N + i → wp_X5_usage_34 P E N S (nI (nF a * nW a)) (nI (sm i (ons a))) (nI i) := by
      intro N
      induction N with
      | zero => intro i h1 h2; omega
      | succ N ih =>
        intro i h1 h2
        rw [wp_X5_usage_34]
        dsimp only
        rw [hI.1.2.2.1]
        by_cases q : i = nF a
        · rw [if_pos (by simp (disch := omega) only [n_0, n_1, n_2, n_3, n_7, n_8, n_9, n_10, n_12, n_14, n_18, n_20, n_60, n_112, n_162, n_255, n_1000, nI_add, n_mul, nI_ltI, nI_leI, nI_eq, nI_clamp]; omega), q]; exact ⟨(flr_ok hc2 hp).1, hP⟩
        · rw [if_neg (by simp (disch := omega) only [n_0, n_1, n_2, n_3, n_7, n_8, n_9, n_10, n_12, n_14, n_18, n_20, n_60, n_112, n_162, n_255, n_1000, nI_add, n_mul, nI_ltI, nI_leI, nI_eq, nI_clamp]; omega)]
          refine k_ons h hI (by omega) _ ?_
          rintro _ rfl _ rfl
          have ih := ih (i + 1) (by omega) (by omega)
          rw [sm] at ih
          rw [nI_add, nI_1]; exact ih
    obtain ⟨N, hN⟩ : ∃ N, nF a < N := ⟨_, Nat.lt_succ_self _⟩
    exact ⟨N, key N 0 (by omega) (by omega)⟩
theorem k_light {S : St} {a : Ab} (h : WF a) (hI : InvC S a) (x : Int32) (P : Nat → St → Prop) (E : String → St → Prop) (hP : ∀ l, l < nL a → x = nI l → isn x (nL a) = true → P (185 + 3 * l) S) (hE : isn x (nL a) = false → E "java/lang/IndexOutOfBoundsException" S) : wp_X5_existingLight S x P E := by
  have hn := h.n60
  unfold wp_X5_existingLight wp_X5_existingLight_12
  rw [hI.2.2.1.1]
  by_cases c1 : x < 0
  · rw [if_pos c1]; exact hE (by unfold isn; simp [c1])
  · rw [if_neg c1]
    by_cases c2 : x < nI (nL a)
    · rw [if_pos c2]
      have r2 : isn x (nL a) = true := by unfold isn; rw [decide_eq_false c1, decide_eq_false (by rw [i_nle]; exact c2)]; rfl
      obtain ⟨l, hl, rfl⟩ := isn_t (by omega) r2
      rw [nI_clamp (by omega)]
      exact ⟨vp_in_nI (by omega) (by omega), hP l hl rfl r2⟩
    · rw [if_neg c2]; exact hE (by unfold isn; rw [decide_eq_true (i_nlt.mp c2)]; simp)
theorem k_state {S : St} {a : Ab} (h : WF a) (hI : InvC S a) (hz : Tk S) (x : Int32) (P : Int32 → St → Prop) (E : String → St → Prop) (hO : OutC S a sIB sIB (q_state a x) P E) : wp_X5_state S x P E := by
  have hn := h.n60
  unfold wp_X5_state
  refine k_light h hI x _ _ (fun l hl hx ht => ?_) (fun ht => hO.2 1 S (by unfold q_state; rw [ht]; rfl) (KC.rf hI hz))
  subst hx
  have hP := hO.1 _ a S (by unfold q_state; rw [ht, tN_nI (by omega)]; rfl) (KC.rf hI hz)
  refine k_isGone h hl (hI.2.2.2.2.2 l hl) _ ?_
  rcases hw : wy a l with _ | ⟨w, r⟩
  · rw [hw] at hP; exact hP
  · rw [if_neg (by simp)]
    rw [hI.1.2.2.2.2]
    refine k_isUp h hl (hI.2.2.2.2.2 l hl) _ ?_
    rw [hw, if_neg (by simp)] at hP
    rcases hu : lup a l with _ | _
    · rw [hu] at hP; exact hP
    · rw [hu] at hP; exact hP
theorem k_units {S : St} {a : Ab} (h : WF a) (hI : InvC S a) (hz : Tk S) (x : Int32) (P : Int32 → St → Prop) (E : String → St → Prop) (hO : OutC S a sIB sIB (q_units a x) P E) : wp_X5_units S x P E := by
  have hn := h.n60
  unfold wp_X5_units
  refine k_light h hI x _ _ (fun l hl hx ht => ?_) (fun ht => hO.2 1 S (by unfold q_units; rw [ht]; rfl) (KC.rf hI hz))
  subst hx
  rw [(hI.2.2.2.2.2 l hl).2.2.1]
  exact hO.1 _ a S (by unfold q_units; rw [ht, tN_nI (by omega)]; rfl) (KC.rf hI hz)
theorem k_wayOf {S : St} {a : Ab} (h : WF a) (hI : InvC S a) (x y : Int32) (P : Nat → St → Prop) (E : String → St → Prop) (hP : ∀ k w, wya a x y = some w → RepC S k w → SW w → P k S) (hE : wya a x y = none → E "java/lang/IndexOutOfBoundsException" S) : wp_X5_wayOf S x y P E := by
  have hn := h.n60
  unfold wp_X5_wayOf
  refine k_light h hI x _ _ (fun l hl hx ht => ?_) (fun ht => hE (by unfold wya; rw [ht]; rfl))
  subst hx
  have hw : wya a (nI l) y = if isn y (wy a l).length = true then (wy a l)[tN y]? else none := by unfold wya; rw [ht, tN_nI (by omega)]; rfl
  have h2 := (h.ways hl).1
  refine k_wayAt h hl (hI.2.2.2.2.2 l hl) y _ (fun i w hi hy hwi hr hs => ?_) (fun hno => ?_)
  · subst hy
    refine ⟨fun z => by (cases z), fun q hq => ?_⟩
    cases hq
    refine hP _ w ?_ hr hs
    obtain ⟨hil, _⟩ := List.getElem?_eq_some_iff.mp hwi
    rw [hw, isn_i hil (by omega), if_pos rfl, tN_nI (by omega)]; exact hwi
  · refine ⟨fun _ => hE ?_, fun q hq => by cases hq⟩
    rw [hw]
    by_cases z : isn y (wy a l).length = true
    · obtain ⟨i, hi, rfl⟩ := isn_t (by omega) z
      exact absurd rfl (hno i hi)
    · rw [if_neg z]
theorem k_channels {S : St} {a : Ab} (h : WF a) (hI : InvC S a) (hz : Tk S) (x y : Int32) (P : Int32 → St → Prop) (E : String → St → Prop) (hO : OutC S a sIB sIB (q_channels a x y) P E) : wp_X5_channels S x y P E := by
  unfold wp_X5_channels
  refine k_wayOf h hI x y _ _ (fun k w hw hr hs => ?_) (fun hw => hO.2 1 S (by unfold q_channels; rw [hw]) (KC.rf hI hz))
  rw [hr.1]
  exact hO.1 _ a S (by unfold q_channels; rw [hw]) (KC.rf hI hz)
theorem k_channel {S : St} {a : Ab} (h : WF a) (hI : InvC S a) (hz : Tk S) (x y z : Int32) (P : Int32 → St → Prop) (E : String → St → Prop) (hO : OutC S a sIB sIB (q_channel a x y z) P E) : wp_X5_channel S x y z P E := by
  unfold wp_X5_channel wp_X5_channel_21
  refine k_wayOf h hI x y _ _ (fun k w hw hr hs => ?_) (fun hw => hO.2 1 S (by unfold q_channel; rw [hw]) (KC.rf hI hz))
  have h7 := hs.1
  have hE : isn z w.1.length = false → E "java/lang/IndexOutOfBoundsException" S := fun q => hO.2 1 S (by unfold q_channel; rw [hw]; dsimp only; rw [q]; rfl) (KC.rf hI hz)
  rw [hr.1]
  by_cases c1 : z < 0
  · rw [if_pos c1]; exact hE (by unfold isn; simp [c1])
  · rw [if_neg c1]
    by_cases c2 : z < nI w.1.length
    · rw [if_pos c2]
      have r2 : isn z w.1.length = true := by unfold isn; rw [decide_eq_false c1, decide_eq_false (by rw [i_nle]; exact c2)]; rfl
      have hP := hO.1 (nI (w.1.getD (tN z) 0)) a S (by unfold q_channel; rw [hw]; dsimp only; rw [r2]; rfl) (KC.rf hI hz)
      obtain ⟨p, hp, rfl⟩ := isn_t (by omega) r2
      refine k_channelAt hr hs hp _ ?_
      rw [tN_nI (by omega), List.getD_eq_getElem?_getD, List.getElem?_eq_getElem hp] at hP
      exact hP
    · rw [if_neg c2]; exact hE (by unfold isn; rw [decide_eq_true (i_nlt.mp c2)]; simp)
theorem k_carrier {S : St} {a : Ab} (h : WF a) (hI : InvC S a) (x : Int32) (P : Nat → St → Prop) (E : String → St → Prop) (hP : ∀ r, r < nR a → x = nI r → isn x (nR a) = true → de a r ≠ 0 → P (185 + 3 * ca a r) S) (hE : isn x (nR a) = false → E "java/lang/IndexOutOfBoundsException" S) (hE2 : ∀ r, r < nR a → x = nI r → isn x (nR a) = true → de a r = 0 → E "java/lang/IllegalStateException" S) : wp_X5_carrierOf S x P E := by
  have hn := h.2.2.2.2.1
  unfold wp_X5_carrierOf wp_X5_carrierOf_12
  rw [hI.2.2.1.2]
  by_cases c1 : x < 0
  · rw [if_pos c1]; exact hE (by unfold isn; simp [c1])
  · rw [if_neg c1]
    by_cases c2 : x < nI (nR a)
    · rw [if_pos c2]
      have r2 : isn x (nR a) = true := by unfold isn; rw [decide_eq_false c1, decide_eq_false (by rw [i_nle]; exact c2)]; rfl
      obtain ⟨r, hr, rfl⟩ := isn_t (by omega) r2
      rw [nI_clamp (by omega), (hI.2.2.2.1 r hr).1]
      refine ⟨vp_in_nI (by omega) (by omega), fun q => ?_, fun q hq => ?_⟩
      · by_cases z : de a r = 0
        · exact hE2 r hr rfl r2 z
        · rw [if_neg z] at q; cases q
      · by_cases z : de a r = 0
        · rw [if_pos z] at hq; cases hq
        · rw [if_neg z] at hq; cases hq
          exact hP r hr rfl r2 z
    · rw [if_neg c2]; exact hE (by unfold isn; rw [decide_eq_true (i_nlt.mp c2)]; simp)
theorem k_lightOf {S : St} {a : Ab} (h : WF a) (hI : InvC S a) (hz : Tk S) (x : Int32) (P : Int32 → St → Prop) (E : String → St → Prop) (hO : OutC S a sIB sIS (q_lightOf a x) P E) : wp_X5_lightOf S x P E := by
  have hn := h.2.2.2.2.1
  have hn2 := h.n60
  unfold wp_X5_lightOf
  refine k_carrier h hI x _ _ (fun r hr hx ht hd => ?_) (fun ht => hO.2 1 S (by unfold q_lightOf; rw [ht]; rfl) (KC.rf hI hz)) (fun r hr hx ht hd => ?_)
  · subst hx
    have := (h.req r hr).1
    rw [hI.2.2.2.2.1 _ (by omega)]
    exact hO.1 _ a S (by unfold q_lightOf; rw [ht, tN_nI (by omega), if_pos rfl, if_neg hd]) (KC.rf hI hz)
  · subst hx
    exact hO.2 2 S (by unfold q_lightOf; rw [ht, tN_nI (by omega), if_pos rfl, if_pos hd]) (KC.rf hI hz)
/-! a light's units are told anew; requests change hands -/
theorem KC.req {S S' : St} {b : Ab} (hag : agr (fun k => k ≠ 0 ∧ k ≠ 365 ∧ k ≠ 366 ∧ ¬ (185 ≤ k ∧ k < 365 ∧ (k - 185) % 3 = 0)) S S') (hz : Tk S)
    (h0 : gI S 1 0 = nI (nD b) ∧ gI S 1 1 = nI (nW b) ∧ gI S 1 2 = nI (nF b) ∧ gI S 1 3 = nI (mk 8 (cv b)) ∧ gI S 1 4 = nI (mk 14 (ct b)))
    (hf : ∀ f, f < nF b → gI S 2 f = nI (e1 b f) ∧ gI S 3 f = nI (e2 b f) ∧ gI S 4 f = nI (el b f))
    (hl : gI S' 0 4 = nI (nL b) ∧ gI S' 0 7 = nI (nR b))
    (hd : ∀ r, r < nR b → gR S' 365 r = (if de b r = 0 then none else some (185 + 3 * ca b r)) ∧ (de b r ≠ 0 → gI S' 366 r = nI (de b r)))
    (hn : ∀ l, l < 60 → gI S' (185 + 3 * l) 0 = nI l)
    (hL : ∀ l, l < nL b → l < 60 ∧ gI S' (185 + 3 * l) 3 = nI (sn b l) ∧ gI S' (185 + 3 * l) 4 = nI (en b l) ∧ gI S' (185 + 3 * l) 6 = nI (units b l) ∧
      (∀ w, wy b l = [w] → gI S' (185 + 3 * l) 5 = 0 ∧ RepC S (186 + 3 * l) w) ∧ (∀ w v, wy b l = [w, v] → gI S' (185 + 3 * l) 5 = 1 ∧ RepC S (186 + 3 * l) w ∧ RepC S (187 + 3 * l) v)) : KC S S' b := by
  refine ⟨hag.mo (fun k hk => by omega), ⟨?_, ?_, hl, hd, hn, ?_⟩, hz.ag (hag 183 (by omega))⟩
  · rw [(hag 1 (by omega)).1, (hag 1 (by omega)).1, (hag 1 (by omega)).1, (hag 1 (by omega)).1, (hag 1 (by omega)).1]; exact h0
  · intro f hf2
    rw [(hag 2 (by omega)).1, (hag 3 (by omega)).1, (hag 4 (by omega)).1]; exact hf f hf2
  · intro l hl2
    obtain ⟨h60, a1, a2, a3, a4, a5⟩ := hL l hl2
    have c1 := hag (186 + 3 * l) (by omega)
    have c2 := hag (187 + 3 * l) (by omega)
    exact ⟨a1, a2, a3, fun w q => ⟨(a4 w q).1, (a4 w q).2.ag c1⟩, fun w v q => ⟨(a5 w v q).1, (a5 w v q).2.1.ag c1, (a5 w v q).2.2.ag c2⟩⟩
theorem k_release {S : St} {a : Ab} (h : WF a) (hI : InvC S a) (hz : Tk S) (x : Int32) (P : Int32 → St → Prop) (E : String → St → Prop) (hO : OutC S a sIB sIS (q_release a x) P E) : wp_X5_release S x P E := by
  have hn := h.2.2.2.2.1
  have hn2 := h.n60
  unfold wp_X5_release
  refine k_carrier h hI x _ _ (fun r hr hx ht hd => ?_) (fun ht => hO.2 1 S (by unfold q_release; rw [ht]; rfl) (KC.rf hI hz)) (fun r hr hx ht hd => ?_)
  · subst hx
    obtain ⟨hcl, hd10⟩ := h.req r hr
    have hv : vp_in (nI r) 60 := vp_in_nI (by omega) (by omega)
    rw [nI_clamp (by omega)]
    refine ⟨hv, ?_⟩
    rintro _ rfl
    refine ⟨hv, ?_⟩
    rintro _ rfl
    have hu := units_xZ (a := a) hr
    have huc := hu (ca a r)
    rw [if_pos rfl] at huc
    have hu10 := (h.lig _ hcl).2.2.2.1
    have e0 : gI (sR S 365 r none) (185 + 3 * ca a r) 6 - gI (sR S 365 r none) 366 r = nI (units (xZ a r) (ca a r)) := by
      rw [gI_sR, gI_sR, (hI.2.2.2.2.2 _ hcl).2.2.1, (hI.2.2.2.1 r hr).2 hd, n_sub (by omega)]
      congr 1; omega
    rw [e0, gI_s]
    refine hO.1 _ (rls a r) _ (by unfold q_release; rw [ht, tN_nI (by omega), if_pos rfl, if_neg hd]) ?_
    have hsame : (∀ k, units (rls a r) k = units (xZ a r) k) ∧ nL (rls a r) = nL a ∧ nR (rls a r) = nR a ∧ (∀ k, wy (rls a r) k = wy a k ∨ wy (rls a r) k = []) ∧ (∀ k, de (rls a r) k = put (de a) r 0 k) ∧ (∀ k, ca (rls a r) k = ca a k) ∧ (∀ k, sn (rls a r) k = sn a k) ∧ (∀ k, en (rls a r) k = en a k) := by
      unfold rls
      split
      · refine ⟨fun _ => rfl, rfl, rfl, fun k => ?_, fun _ => rfl, fun _ => rfl, fun _ => rfl, fun _ => rfl⟩
        rw [xW_wy]
        by_cases z : k = ca a r
        · rw [z, put_s]; exact .inr rfl
        · rw [put_n _ _ z]; exact .inl rfl
      · exact ⟨fun _ => rfl, rfl, rfl, fun k => .inl rfl, fun _ => rfl, fun _ => rfl, fun _ => rfl, fun _ => rfl⟩
    have hnet : nD (rls a r) = nD a ∧ nW (rls a r) = nW a ∧ nF (rls a r) = nF a ∧ cv (rls a r) = cv a ∧ ct (rls a r) = ct a ∧ e1 (rls a r) = e1 a ∧ e2 (rls a r) = e2 a ∧ el (rls a r) = el a := by
      unfold rls
      split <;> exact ⟨rfl, rfl, rfl, rfl, rfl, rfl, rfl, rfl⟩
    obtain ⟨b0, b1, b2, b3, b4, b5, b6, b7⟩ := hsame
    obtain ⟨n0, n1, n2, n3, n4, n5, n6, n7⟩ := hnet
    obtain ⟨g0, g1, g2, g3, g4, g5⟩ := hI
    refine KC.req ?_ hz ?_ ?_ ?_ ?_ ?_ ?_
    · exact (agr_sR (by omega) _ _ _).tr (agr_sI (by omega) _ _ _)
    · rw [n0, n1, n2, n3, n4]; exact g0
    · rw [n2, n5, n6, n7]; exact g1
    · rw [b1, b2]; simp (disch := omega) only [gI_s, gJ_s, gR_s, gI_n, gJ_n, gR_n, gI_sJ, gI_sR, gI_sD, gJ_sI, gJ_sR, gJ_sD, gR_sI, gR_sJ, gR_sD]; exact g2
    · intro k hk
      rw [b2] at hk
      rw [b4, b5]
      by_cases z : k = r
      · rw [z, put_s]; simp (disch := omega) only [gI_s, gJ_s, gR_s, gI_n, gJ_n, gR_n, gI_sJ, gI_sR, gI_sD, gJ_sI, gJ_sR, gJ_sD, gR_sI, gR_sJ, gR_sD]; exact ⟨rfl, fun y => absurd rfl y⟩
      · rw [put_n _ _ z]; simp (disch := omega) only [gI_s, gJ_s, gR_s, gI_n, gJ_n, gR_n, gI_sJ, gI_sR, gI_sD, gJ_sI, gJ_sR, gJ_sD, gR_sI, gR_sJ, gR_sD]; exact g3 k hk
    · intro l hl; simp (disch := omega) only [gI_s, gJ_s, gR_s, gI_n, gJ_n, gR_n, gI_sJ, gI_sR, gI_sD, gJ_sI, gJ_sR, gJ_sD, gR_sI, gR_sJ, gR_sD]; exact g4 l hl
    · intro l hl
      rw [b1] at hl
      obtain ⟨c1, c2, c3, c4, c5⟩ := g5 l hl
      rw [b6, b7, b0]
      refine ⟨by omega, ?_, ?_, ?_, fun w hw => ?_, fun w v hw => ?_⟩
      · simp (disch := omega) only [gI_s, gJ_s, gR_s, gI_n, gJ_n, gR_n, gI_sJ, gI_sR, gI_sD, gJ_sI, gJ_sR, gJ_sD, gR_sI, gR_sJ, gR_sD]; exact c1
      · simp (disch := omega) only [gI_s, gJ_s, gR_s, gI_n, gJ_n, gR_n, gI_sJ, gI_sR, gI_sD, gJ_sI, gJ_sR, gJ_sD, gR_sI, gR_sJ, gR_sD]; exact c2
      · by_cases z : l = ca a r
        · rw [z]; simp (disch := omega) only [gI_s, gJ_s, gR_s, gI_n, gJ_n, gR_n, gI_sJ, gI_sR, gI_sD, gJ_sI, gJ_sR, gJ_sD, gR_sI, gR_sJ, gR_sD]
        · simp (disch := omega) only [gI_s, gJ_s, gR_s, gI_n, gJ_n, gR_n, gI_sJ, gI_sR, gI_sD, gJ_sI, gJ_sR, gJ_sD, gR_sI, gR_sJ, gR_sD]
          rw [c3]
          have := hu l
          rw [if_neg (fun y => z y.symm), Nat.add_zero] at this
          rw [this]
      · simp (disch := omega) only [gI_s, gJ_s, gR_s, gI_n, gJ_n, gR_n, gI_sJ, gI_sR, gI_sD, gJ_sI, gJ_sR, gJ_sD, gR_sI, gR_sJ, gR_sD]
        rcases b3 l with q | q
        · rw [q] at hw; exact c4 w hw
        · rw [q] at hw; cases hw
      · simp (disch := omega) only [gI_s, gJ_s, gR_s, gI_n, gJ_n, gR_n, gI_sJ, gI_sR, gI_sD, gJ_sI, gJ_sR, gJ_sD, gR_sI, gR_sJ, gR_sD]
        rcases b3 l with q | q
        · rw [q] at hw; exact c5 w v hw
        · rw [q] at hw; cases hw
  · subst hx
    exact hO.2 2 S (by unfold q_release; rw [ht, tN_nI (by omega), if_pos rfl, if_pos hd]) (KC.rf hI hz)
