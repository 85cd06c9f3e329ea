/-! THE PURE LAYER: the law's small methods on one object -/
def JC (S : St) (a : Ab) : Prop := InvC S a ∧ Tk S
theorem JC.of {S S' : St} {b : Ab} (h : KC S S' b) : JC S' b := h.2
/-- a call that answers -/
theorem o_ok {V : Type} {S : St} {a b : Ab} {s t : String} {q : Except Nat (V × Ab)} {v : V} {P : V → St → Prop} {E : String → St → Prop} (hq : q = .ok (v, b)) (hP : ∀ S', JC S' b → P v S') : OutC S a s t q P E :=
  ⟨fun v' a' S' h hk => by rw [hq] at h; cases h; exact hP S' (JC.of hk), fun c S' h => by rw [hq] at h; cases h⟩
/-- a call whose two exceptions are caught -/
theorem o_tl {S : St} {a : Ab} {s t x1 x2 : String} {q : Except Nat (Int32 × Ab)} {P : Int32 → St → Prop} (hs : s = x1 ∨ s = x2) (ht : t = x1 ∨ t = x2) (hP : ∀ S', JC S' (tl a q).2 → P (tl a q).1 S') : OutC S a s t q P (fun E S' => if E = x1 then P (-99999) S' else if E = x2 then P (-99999) S' else False) := by
  refine ⟨fun v b S' h hk => ?_, fun c S' h hk => ?_⟩
  · rw [h] at hP; exact hP S' (JC.of hk)
  · rw [h] at hP
    have h9 := hP S' (JC.of hk)
    by_cases c1 : c = 1
    · rw [if_pos c1]
      rcases hs with e | e
      · rw [if_pos e]; exact h9
      · by_cases z : s = x1
        · rw [if_pos z]; exact h9
        · rw [if_neg z, if_pos e]; exact h9
    · rw [if_neg c1]
      rcases ht with e | e
      · rw [if_pos e]; exact h9
      · by_cases z : t = x1
        · rw [if_pos z]; exact h9
        · rw [if_neg z, if_pos e]; exact h9
theorem la_add {S : St} {a : Ab} (h : WF a) (hJ : JC S a) (x y z : Int32) (P : Int32 → St → Prop) (hP : ∀ S', JC S' (tl a (q_addFibre a x y z)).2 → P (tl a (q_addFibre a x y z)).1 S') : wp_L_add S x y z P := by
  unfold wp_L_add
  exact k_addFibre h hJ.1 hJ.2 x y z _ _ (o_tl (.inl rfl) (.inr rfl) hP)
theorem l_ask {S : St} {a : Ab} (h : WF a) (hJ : JC S a) (x y z w : Int32) (P : Int32 → St → Prop) (hP : ∀ S', JC S' (tl a (q_request a x y z w)).2 → P (tl a (q_request a x y z w)).1 S') : wp_L_ask S x y z w P := by
  unfold wp_L_ask
  exact k_request h hJ.1 hJ.2 x y z w _ _ (o_tl (.inl rfl) (.inr rfl) hP)
theorem l_newLength {S : St} {a : Ab} (h : WF a) (hJ : JC S a) (x y z : Int32) (P : Int32 → St → Prop) (hP : ∀ S', JC S' a → P (tl a (q_newLength a x y z)).1 S') : wp_L_newLength S x y z P := by
  unfold wp_L_newLength
  refine k_newLength h hJ.1 hJ.2 x y z _ _ (o_tl (.inl rfl) (.inr rfl) ?_)
  rw [tl_same (a := a) (q := q_newLength a x y z) (fun v b hq => by unfold q_newLength at hq; split at hq <;> first | (split at hq <;> cases hq; rfl) | cases hq)]
  exact hP
theorem l_does0 {S : St} {a : Ab} (h : WF a) (hJ : JC S a) (x : Int32) (P : Int32 → St → Prop) (hP : ∀ S', JC S' (tl a (q_cut a x)).2 → P (tl a (q_cut a x)).1 S') : wp_L_does S 0 x P := by
  unfold wp_L_does
  rw [if_pos rfl]
  exact k_cut h hJ.1 hJ.2 x _ _ (o_tl (.inl rfl) (.inr rfl) hP)
theorem l_does1 {S : St} {a : Ab} (h : WF a) (hJ : JC S a) (x : Int32) (P : Int32 → St → Prop) (hP : ∀ S', JC S' (tl a (q_repair a x)).2 → P (tl a (q_repair a x)).1 S') : wp_L_does S 1 x P := by
  unfold wp_L_does
  rw [if_neg (by decide), if_pos rfl]
  exact k_repair h hJ.1 hJ.2 x _ _ (o_tl (.inl rfl) (.inr rfl) hP)
theorem l_does2 {S : St} {a : Ab} (h : WF a) (hJ : JC S a) (x : Int32) (P : Int32 → St → Prop) (hP : ∀ S', JC S' (tl a (q_release a x)).2 → P (tl a (q_release a x)).1 S') : wp_L_does S 2 x P := by
  unfold wp_L_does
  rw [if_neg (by decide), if_neg (by decide), if_pos rfl]
  exact k_release h hJ.1 hJ.2 x _ _ (o_tl (.inl rfl) (.inr rfl) hP)
theorem l_does3 {S : St} {a : Ab} (h : WF a) (hJ : JC S a) (x : Int32) (P : Int32 → St → Prop) (hP : ∀ S', JC S' a → P (tl a (q_lightOf a x)).1 S') : wp_L_does S 3 x P := by
  unfold wp_L_does
  rw [if_neg (by decide), if_neg (by decide), if_neg (by decide), if_pos rfl]
  refine k_lightOf h hJ.1 hJ.2 x _ _ (o_tl (.inl rfl) (.inr rfl) ?_)
  rw [tl_same (a := a) (q := q_lightOf a x) (fun v b hq => by unfold q_lightOf at hq; split at hq <;> first | (split at hq <;> cases hq; rfl) | cases hq)]
  exact hP
theorem l_does4 {S : St} {a : Ab} (h : WF a) (hJ : JC S a) (x : Int32) (P : Int32 → St → Prop) (hP : ∀ S', JC S' (tl a (q_reroute a x)).2 → P (tl a (q_reroute a x)).1 S') : wp_L_does S 4 x P := by
  unfold wp_L_does
  rw [if_neg (by decide), if_neg (by decide), if_neg (by decide), if_neg (by decide), if_pos rfl]
  exact k_reroute h hJ.1 hJ.2 x _ _ (o_tl (.inl rfl) (.inr rfl) hP)
theorem l_does5 {S : St} {a : Ab} (h : WF a) (hJ : JC S a) (x : Int32) (P : Int32 → St → Prop) (hP : ∀ S', JC S' (tl a (q_merge a)).2 → P (tl a (q_merge a)).1 S') : wp_L_does S 5 x P := by
  unfold wp_L_does
  rw [if_neg (by decide), if_neg (by decide), if_neg (by decide), if_neg (by decide), if_neg (by decide), if_pos rfl]
  exact k_merge h hJ.1 hJ.2 _ _ (o_tl (.inr rfl) (.inr rfl) hP)
theorem l_does6 {S : St} {a : Ab} (h : WF a) (hJ : JC S a) (x : Int32) (P : Int32 → St → Prop) (hP : ∀ S', JC S' (tl a (q_move a)).2 → P (tl a (q_move a)).1 S') : wp_L_does S 6 x P := by
  unfold wp_L_does
  rw [if_neg (by decide), if_neg (by decide), if_neg (by decide), if_neg (by decide), if_neg (by decide), if_neg (by decide)]
  exact k_move h hJ.1 hJ.2 _ _ (o_tl (.inr rfl) (.inr rfl) hP)
theorem l_look0 {S : St} {a : Ab} (h : WF a) (hJ : JC S a) (x y z : Int32) (P : Int32 → St → Prop) (hP : ∀ S', JC S' a → P (tl a (q_channels a x y)).1 S') : wp_L_looks S 0 x y z P := by
  unfold wp_L_looks
  rw [if_pos rfl]
  refine k_channels h hJ.1 hJ.2 x y _ _ (o_tl (.inl rfl) (.inl rfl) ?_)
  rw [tl_same (a := a) (q := q_channels a x y) (fun v b hq => by unfold q_channels at hq; split at hq <;> first | (cases hq; rfl) | cases hq)]
  exact hP
theorem l_look1 {S : St} {a : Ab} (h : WF a) (hJ : JC S a) (x y z : Int32) (P : Int32 → St → Prop) (hP : ∀ S', JC S' a → P (tl a (q_channel a x y z)).1 S') : wp_L_looks S 1 x y z P := by
  unfold wp_L_looks
  rw [if_neg (by decide), if_pos rfl]
  refine k_channel h hJ.1 hJ.2 x y z _ _ (o_tl (.inl rfl) (.inl rfl) ?_)
  rw [tl_same (a := a) (q := q_channel a x y z) (fun v b hq => by unfold q_channel at hq; split at hq <;> first | (split at hq <;> first | (cases hq; rfl) | cases hq) | cases hq)]
  exact hP
theorem l_look2 {S : St} {a : Ab} (h : WF a) (hJ : JC S a) (x y z : Int32) (P : Int32 → St → Prop) (hP : ∀ S', JC S' a → P (tl a (q_lightOn a x y)).1 S') : wp_L_looks S 2 x y z P := by
  unfold wp_L_looks
  rw [if_neg (by decide), if_neg (by decide)]
  refine k_lightOn h hJ.1 hJ.2 x y _ _ (o_tl (.inl rfl) (.inr rfl) ?_)
  rw [tl_same (a := a) (q := q_lightOn a x y) (fun v b hq => by unfold q_lightOn at hq; split at hq <;> first | (split at hq <;> first | (cases hq; rfl) | cases hq) | cases hq)]
  exact hP
theorem l_convert {S : St} {a : Ab} (h : WF a) (hJ : JC S a) (x : Int32) (P : Int32 → St → Prop) (hP : ∀ S', JC S' (tlb a (q_toggle a x)).2 → P (tlb a (q_toggle a x)).1 S') : wp_L_convert S x P := by
  unfold wp_L_convert
  refine k_toggle h hJ.1 hJ.2 x _ _ ⟨fun v b S' hq hk => ?_, fun c S' hq hk => ?_⟩
  · rw [hq] at hP
    have h9 := hP S' (JC.of hk)
    unfold tlb at h9
    dsimp only at h9 ⊢
    by_cases z : v = true
    · rw [if_pos z] at h9 ⊢; exact h9
    · rw [if_neg z] at h9 ⊢; exact h9
  · rw [hq] at hP
    have e : (if c = 1 then sIA else sIA) = "java/lang/IllegalArgumentException" := by split <;> rfl
    rw [e]
    try dsimp only
    rw [if_pos rfl]
    exact hP S' (JC.of hk)
theorem l_requests {S : St} {a : Ab} (hJ : JC S a) (P : Int32 → St → Prop) (hP : P (nI (nR a)) S) : wp_X5_requests S P := by unfold wp_X5_requests; rw [hJ.1.2.2.1.2]; exact hP
theorem l_lights {S : St} {a : Ab} (hJ : JC S a) (P : Int32 → St → Prop) (hP : P (nI (nL a)) S) : wp_X5_lights S P := by unfold wp_X5_lights; rw [hJ.1.2.2.1.1]; exact hP
/-! numbers drawn from a cell -/
theorem low_and (x : Int32) : x &&& 2147483647 = nI (x.toBitVec.toNat % 2 ^ 31) := by
  apply Int32.toBitVec_inj.1
  rw [Int32.toBitVec_and]
  apply BitVec.eq_of_toNat_eq
  rw [BitVec.toNat_and]
  show x.toBitVec.toNat &&& 2147483647 = (BitVec.ofNat 32 (x.toBitVec.toNat % 2 ^ 31)).toNat
  rw [BitVec.toNat_ofNat, show (2147483647 : Nat) = 2 ^ 31 - 1 from rfl, Nat.and_two_pow_sub_one_eq_mod]
  omega
/-- a number below m -/
def lw (x : Int32) (m : Nat) : Nat := (x.toBitVec.toNat % 2 ^ 31) % m
theorem lw_lt (x : Int32) {m : Nat} (hm : 0 < m) : lw x m < m := Nat.mod_lt _ hm
theorem l_low {S : St} (x y : Int32) {m : Nat} (hy : y = nI m) (hm : 0 < m) (hm2 : m < 2 ^ 31) (P : Int32 → St → Prop) (hP : P (nI (lw x m)) S) : wp_L_low S x y P := by
  unfold wp_L_low
  rw [low_and, hy]
  refine ⟨nI_ne0 hm hm2, ?_⟩
  rw [n_rem (Nat.mod_lt _ (by omega)) hm2]
  exact hP
