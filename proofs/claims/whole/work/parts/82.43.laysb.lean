/-! THE PURE LAYER: the reference lays a way, whole -/
section LAYSB
variable {u : Nat → Nat}
theorem k_follows {S : St} {a : Ab} (h : WF a) (hI : InvM S a) {k i w : Nat} {p : List (Nat × Nat)} (hu : ∀ f, u f < 2 ^ nW a) (hl : p.length ≤ 7) (hT : MTr S k p) (hx : i + 1 < p.length) (hpv : ∀ q ∈ p, q.2 < 8) (hw : w < nW a) (hfin : cst (nW a) u (cv a) (p.drop i) w < 1000)
    (hc : Cst S a u p i) (hc2 : Cst S a u p (i + 1)) (P : Int32 → St → Prop) (hP : P (nI (nxt (nW a) u (cv a) (p.drop (i + 1)) (cst (nW a) u (cv a) (p.drop i) w) w)) S) : wp_X6_follows S k (nI i) (nI w) P := by
  have hw8 := h.2.1.2
  have hd1 : p.drop i = ((p[i]'(by omega)).1, (p[i]'(by omega)).2) :: p.drop (i + 1) := List.drop_eq_getElem_cons (by omega)
  have hd2 : p.drop (i + 1) = ((p[i + 1]'hx).1, (p[i + 1]'hx).2) :: p.drop (i + 2) := List.drop_eq_getElem_cons hx
  have hd : p.drop i = ((p[i]'(by omega)).1, (p[i]'(by omega)).2) :: ((p[i + 1]'hx).1, (p[i + 1]'hx).2) :: p.drop (i + 2) := by rw [hd1, hd2]
  have hn := nxt_is (wl := nW a) (u := u) (c := cv a) (f := (p[i]'(by omega)).1) (v := (p[i]'(by omega)).2) (f' := (p[i + 1]'hx).1) (v' := (p[i + 1]'hx).2) (r := p.drop (i + 2)) (w := w) hu (by rw [← hd]; exact hfin)
  rw [← hd, ← hd2] at hn
  have hnx : nxt (nW a) u (cv a) (p.drop (i + 1)) (cst (nW a) u (cv a) (p.drop i) w) w = low (nW a) (fun x => cst (nW a) u (cv a) (p.drop (i + 1)) x + (if x = w then 0 else if cv a (p[i + 1]'hx).2 = true then 1 else 1000) == cst (nW a) u (cv a) (p.drop i) w) := by
    rw [hd2]; rfl
  have hx2 : (p[i + 1]'hx).2 < 8 := hpv _ (List.getElem_mem hx)
  have top := cst_top (wl := nW a) (u := u) (c := cv a) (p.drop (i + 1))
  have hcw := hc w hw
  generalize hcur : cst (nW a) u (cv a) (p.drop i) w = cur at *
  generalize hr : nxt (nW a) u (cv a) (p.drop (i + 1)) cur w = res at *
  have key : ∀ (N x : Nat), x ≤ res → nW a < N + x → wp_X6_follows_3 k (nI i) (nI w) P N S (nI x) := by
    intro N
    induction N with
    | zero => intro x h1 h2; omega
    | succ N ih =>
      intro x h1 h2
      rw [wp_X6_follows_3]
      dsimp only
      rw [hI.1.2.1, if_neg (by simp (disch := omega) only [n_0, n_1, n_2, n_3, n_7, n_8, n_9, n_10, n_12, n_14, n_18, n_20, n_60, n_112, n_162, n_255, n_1000, nI_add, n_mul, nI_ltI, nI_leI, nI_eq, nI_clamp]; omega)]
      have h45 : ∀ m : Nat, m ≤ 1000 → m = (if x = w then 0 else if cv a (p[i + 1]'hx).2 = true then 1 else 1000) → wp_X6_follows_45 k (nI i) (nI w) P (fun S a4 => wp_X6_follows_3 k (nI i) (nI w) P N S a4) S (nI x) (nI m) := by
        intro m hm1 hm
        unfold wp_X6_follows_45
        rw [n_8, n_mul, nI_add, nI_add, nI_add]
        refine ⟨vp_in_nI (by omega) (by omega), vp_in_nI (by omega) (by omega), ?_⟩
        have tx := top x
        rw [nI_clamp (by omega), nI_clamp (by omega), show 8 * i + 8 + x = 8 * (i + 1) + x by omega, hc2 x (by omega), hcw, nI_add]
        by_cases q : x = res
        · have hn2 := hn.2
          rw [← q, ← hm] at hn2
          rw [if_pos (by rw [hn2]), q]; exact hP
        · rw [if_neg]
          · rintro _ rfl
            rw [nI_1]
            exact ih (x + 1) (by omega) (by omega)
          · rw [nI_eq (by omega) (by omega)]
            have := low_not (n := nW a) (p := fun x => cst (nW a) u (cv a) (p.drop (i + 1)) x + (if x = w then 0 else if cv a (p[i + 1]'hx).2 = true then 1 else 1000) == cur) (x := x) (by rw [← hnx]; omega)
            rw [← Bool.not_eq_true, beq_iff_eq, ← hm] at this
            exact this
      by_cases q : x = w
      · rw [if_pos (by rw [q])]
        exact h45 0 (by omega) (by rw [if_pos q])
      · rw [if_neg (by rw [nI_eq (by omega) (by omega)]; exact q)]
        rw [n_10, nI_add, nI_1]
        refine ⟨vp_in_nI (by omega) (by omega), ?_⟩
        rw [nI_clamp (by omega), show 10 + i + 1 = 10 + (i + 1) by omega, (hT.2 (i + 1) hx).2]
        refine ⟨vp_in_nI (by omega) (by omega), ?_⟩
        rw [nI_clamp (by omega), hI.2.1 _ hx2]
        rcases hcv : cv a (p[i + 1]'hx).2 with _ | _
        · rw [if_pos (by rfl)]
          exact h45 1000 (by omega) (by rw [if_neg q, hcv]; rfl)
        · rw [if_neg (by decide)]
          exact h45 1 (by omega) (by rw [if_neg q, hcv]; rfl)
  obtain ⟨N, hN⟩ : ∃ N, nW a < N := ⟨_, Nat.lt_succ_self _⟩
  exact ⟨N, key N 0 (by omega) (by omega)⟩
theorem lenOf_take {a : Ab} {p : List (Nat × Nat)} {i : Nat} (hi : i < p.length) : lenOf a (p.take (i + 1)) = lenOf a (p.take i) + el a (p[i]'hi).1 := by
  rw [List.take_add_one, List.getElem?_eq_getElem hi]
  exact lenOf_snoc _ _ _
theorem k_lays {S : St} {a : Ab} (h : WF a) (hI : InvM S a) {k x4 own st : Nat} {o : Int32} {p : List (Nat × Nat)} (hk : k = 380 ∨ k = 381) (hx4 : x4 = 382 ∨ x4 = 383) (ho : Own o own) (hst : st < 2 ^ 8) (hl1 : 1 ≤ p.length) (hl : p.length ≤ 7) (hT : MTr S k p) (hpf : ∀ q ∈ p, q.1 < nF a) (hpv : ∀ q ∈ p, q.2 < 8)
    (hu0 : ∀ f, u f = usb a own f &&& st) (P : Bool → St → Prop)
    (hP1 : ∀ S' W, agr (fun q => q ≠ x4 ∧ q ≠ 386) S S' → lay a u (cv a) p = some W → RepM S' x4 0 W → P true S') (hP0 : ∀ S', agr (fun q => q ≠ x4 ∧ q ≠ 386) S S' → lay a u (cv a) p = none → P false S') :
    wp_X6_lays S k o (nI st) x4 P := by
  have hw8 := h.2.1.2
  have hw1 := h.2.1.1
  have h14 := h.2.2.1
  have hu : ∀ f, u f < 2 ^ nW a := fun f => by rw [hu0]; exact Nat.lt_of_le_of_lt Nat.and_le_left (usb_lt a own f)
  have hu8 : ∀ f, u f < 2 ^ 8 := fun f => Nat.lt_of_lt_of_le (hu f) (Nat.pow_le_pow_right (by omega) hw8)
  have hel : ∀ q ∈ p, el a q.1 ≤ 1000 := fun q hq => (h.2.2.2.2.2.1 q.1 (hpf q hq)).2.2.2.2
  have e0 : ((0 : Int32).toNatClampNeg) = 0 := rfl
  have e7 : ((7 : Int32).toNatClampNeg) = 7 := rfl
  have ee8 : ((8 : Int32).toNatClampNeg) = 8 := rfl
  have e9 : ((9 : Int32).toNatClampNeg) = 9 := rfl
  have v7 : vp_in (7 : Int32) 10 := vp_in_nI (n := 7) (by omega) (by omega)
  have v8 : vp_in (8 : Int32) 10 := vp_in_nI (n := 8) (by omega) (by omega)
  have v9 : vp_in (9 : Int32) 10 := vp_in_nI (n := 9) (by omega) (by omega)
  -- the last phase: the way is written
  have write : ∀ (S1 : St) (w : Nat), agr (fun q => q ≠ x4 ∧ q ≠ 386) S S1 → (∀ i, i < p.length → Cst S1 a u p i) → w = w0 (nW a) u (cv a) p → mnl (nW a) (cst (nW a) u (cv a) p) 1000 < 1000 → gI S1 x4 7 = nI p.length → gI S1 x4 8 = 0 → gI S1 x4 9 = nI (mnl (nW a) (cst (nW a) u (cv a) p) 1000) → ∃ n186, wp_X6_lays_186 k o (nI st) x4 P n186 S1 (nI (p.length - 1)) (nI w) 0 := by
    intro S1 w hag1 hC1 hw hm g7 g8 g9
    obtain ⟨w1, w2⟩ := w0_is hm
    have hlay : lay a u (cv a) p = some (chs (nW a) u (cv a) p (w0 (nW a) u (cv a) p), lenOf a p, mnl (nW a) (cst (nW a) u (cv a) p) 1000) := by unfold lay; rw [if_pos hm]
    have hcl := chs_len (c := cv a) hu hw8 (p := p) (w := w0 (nW a) u (cv a) p) (by omega)
    have key : ∀ (N i w : Nat) (S2 : St), i ≤ p.length → p.length < N + i → agr (fun q => q ≠ x4 ∧ q ≠ 386) S S2 → ceq S1 S2 386 → gI S2 x4 7 = nI p.length → gI S2 x4 8 = nI (lenOf a (p.take i)) → gI S2 x4 9 = nI (mnl (nW a) (cst (nW a) u (cv a) p) 1000) →
        (∃ pre : List Nat, pre.length = i ∧ (∀ (j : Nat) (hj : j < pre.length), gI S2 x4 j = nI (pre[j]'hj)) ∧ pre ++ chs (nW a) u (cv a) (p.drop i) w = chs (nW a) u (cv a) p (w0 (nW a) u (cv a) p)) → (i < p.length → w < nW a ∧ cst (nW a) u (cv a) (p.drop i) w < 1000) → wp_X6_lays_186 k o (nI st) x4 P N S2 (nI (p.length - 1)) (nI w) (nI i) := by
      intro N
      induction N with
      | zero => intro i w S2 h1 h2; omega
      | succ N ih =>
        intro i w S2 h1 h2 hag2 h386 q7 q8 q9 hpre hwi
        obtain ⟨pre, p1, p2, p3⟩ := hpre
        rw [wp_X6_lays_186]
        dsimp only
        by_cases q : i = p.length
        · rw [if_pos (by simp (disch := omega) only [n_0, n_1, n_2, n_3, n_7, n_8, n_9, n_10, n_12, n_14, n_18, n_20, n_60, n_112, n_162, n_255, n_1000, nI_add, n_mul, nI_ltI, nI_leI, nI_eq, nI_clamp]; omega)]
          subst q
          rw [List.drop_length, show chs (nW a) u (cv a) [] w = [] from rfl, List.append_nil] at p3
          rw [List.take_length] at q8
          refine hP1 S2 _ hag2 hlay ⟨?_, ?_, ?_, ?_⟩
          · intro j hj
            rw [Nat.zero_add]
            dsimp only at hj ⊢
            have := p2 j (by rw [p3]; exact hj)
            rw [this]
            congr 1
            simp only [p3]
          · rw [q7]; dsimp only; rw [hcl]
          · exact q8
          · exact q9
        · have hi : i < p.length := by omega
          obtain ⟨hw1', hwf⟩ := hwi hi
          rw [if_neg (by simp (disch := omega) only [n_0, n_1, n_2, n_3, n_7, n_8, n_9, n_10, n_12, n_14, n_18, n_20, n_60, n_112, n_162, n_255, n_1000, nI_add, n_mul, nI_ltI, nI_leI, nI_eq, nI_clamp]; omega)]
          have hT2 := hT.ag (hag2 k (by omega))
          have hI2 : InvM S2 a := hI.ag (hag2.mo (fun q hq => by unfold CM at hq; omega))
          have hfi := hpf _ (List.getElem_mem hi)
          have heli := hel _ (List.getElem_mem hi)
          rw [n_2, nI_add, nI_clamp (show i < 2 ^ 31 by omega), nI_clamp (show 2 + i < 2 ^ 31 by omega), (hT2.2 i hi).1, ee8, n_10, n_mul, nI_add]
          refine ⟨vp_in_nI (by omega) (by omega), vp_in_nI (by omega) (by omega), ?_⟩
          rintro S3 hS3
          have b1 : gI S3 k (2 + i) = nI (p[i]'hi).1 := by subst hS3; rw [gI_n (by omega)]; exact (hT2.2 i hi).1
          have b2 : gI S3 x4 8 = nI (lenOf a (p.take i)) := by subst hS3; rw [gI_n (by omega)]; exact q8
          have b3 : gI S3 371 (p[i]'hi).1 = nI (el a (p[i]'hi).1) := by subst hS3; rw [gI_n (by omega)]; exact (hI2.2.2.1 _ hfi).2.2.1
          rw [b1, b2, nI_clamp (by omega), b3, nI_add]
          refine ⟨v8, vp_in_nI (by omega) (by omega), vp_in_nI (by omega) (by omega), v8, ?_⟩
          rintro S4 hS4
          have hag4 : agr (fun q => q ≠ x4 ∧ q ≠ 386) S S4 := by
            subst hS4; subst hS3
            exact (hag2.tr (agr_sI (by simp) _ _ _)).tr (agr_sI (by simp) _ _ _)
          have h386' : ceq S1 S4 386 := by
            subst hS4; subst hS3
            exact h386.tr (((agr_sI (p := fun q => q = 386) (by omega) _ _ _).tr (agr_sI (by omega) _ _ _)) 386 rfl)
          have c7 : gI S4 x4 7 = nI p.length := by subst hS4; subst hS3; rw [gI_n (by omega), gI_n (by omega)]; exact q7
          have c8 : gI S4 x4 8 = nI (lenOf a (p.take (i + 1))) := by subst hS4; subst hS3; rw [gI_s, lenOf_take hi]
          have c9 : gI S4 x4 9 = nI (mnl (nW a) (cst (nW a) u (cv a) p) 1000) := by subst hS4; subst hS3; rw [gI_n (by omega), gI_n (by omega)]; exact q9
          have hd1 : p.drop i = ((p[i]'hi).1, (p[i]'hi).2) :: p.drop (i + 1) := List.drop_eq_getElem_cons hi
          have cpre : ∃ pre : List Nat, pre.length = i + 1 ∧ (∀ (j : Nat) (hj : j < pre.length), gI S4 x4 j = nI (pre[j]'hj)) ∧ pre ++ chs (nW a) u (cv a) (p.drop (i + 1)) (nxt (nW a) u (cv a) (p.drop (i + 1)) (cst (nW a) u (cv a) (p.drop i) w) w) = chs (nW a) u (cv a) p (w0 (nW a) u (cv a) p) := by
            refine ⟨pre ++ [10 * (p[i]'hi).1 + w], by rw [List.length_append, p1]; rfl, ?_, ?_⟩
            · intro j hj
              rw [List.length_append] at hj
              by_cases z : j < pre.length
              · rw [List.getElem_append_left z]
                subst hS4; subst hS3
                rw [gI_n (by omega), gI_n (by omega)]
                exact p2 j z
              · have hj2 : j = i := by simp at hj; omega
                subst hj2
                rw [List.getElem_append_right (by omega)]
                simp only [p1, Nat.sub_self, List.getElem_cons_zero]
                subst hS4; subst hS3
                rw [gI_n (by omega), gI_s]
            · rw [← p3, hd1, chs_cons, List.append_assoc]; rfl
          by_cases q2 : p.length - 1 ≤ i
          · rw [if_pos (by simp (disch := omega) only [n_0, n_1, n_2, n_3, n_7, n_8, n_9, n_10, n_12, n_14, n_18, n_20, n_60, n_112, n_162, n_255, n_1000, nI_add, n_mul, nI_ltI, nI_leI, nI_eq, nI_clamp]; omega)]
            unfold wp_X6_lays_249
            rintro _ rfl
            rw [nI_1]
            have hil : i + 1 = p.length := by omega
            have hz : nxt (nW a) u (cv a) (p.drop (i + 1)) (cst (nW a) u (cv a) (p.drop i) w) w = 0 := by rw [hil, List.drop_length]; rfl
            rw [hz] at cpre
            exact ih (i + 1) 0 S4 (by omega) (by omega) hag4 h386' c7 c8 c9 cpre (fun z => by omega)
          · have hx : i + 1 < p.length := by omega
            rw [if_neg (by simp (disch := omega) only [n_0, n_1, n_2, n_3, n_7, n_8, n_9, n_10, n_12, n_14, n_18, n_20, n_60, n_112, n_162, n_255, n_1000, nI_add, n_mul, nI_ltI, nI_leI, nI_eq, nI_clamp]; omega)]
            have hC4 : ∀ j, j < p.length → Cst S4 a u p j := fun j hj w hw => by rw [h386'.1]; exact hC1 j hj w hw
            refine k_follows h (hI.ag (hag4.mo (fun q hq => by unfold CM at hq; omega))) hu hl (hT.ag (hag4 k (by omega))) hx hpv hw1' hwf (hC4 i hi) (hC4 (i + 1) hx) _ ?_
            unfold wp_X6_lays_249
            rintro _ rfl
            rw [nI_1]
            refine ih (i + 1) _ S4 (by omega) (by omega) hag4 h386' c7 c8 c9 cpre (fun _ => ?_)
            have hd2 : p.drop (i + 1) = ((p[i + 1]'hx).1, (p[i + 1]'hx).2) :: p.drop (i + 2) := List.drop_eq_getElem_cons hx
            have hn := nxt_is (wl := nW a) (u := u) (c := cv a) (f := (p[i]'(by omega)).1) (v := (p[i]'(by omega)).2) (f' := (p[i + 1]'hx).1) (v' := (p[i + 1]'hx).2) (r := p.drop (i + 2)) (w := w) hu (by rw [← hd2, ← hd1]; exact hwf)
            rw [← hd2, ← hd1] at hn
            exact ⟨hn.1, by have := hn.2; omega⟩
    obtain ⟨N, hN⟩ : ∃ N, p.length < N := ⟨_, Nat.lt_succ_self _⟩
    refine ⟨N, key N 0 w S1 (by omega) (by omega) hag1 (ceq.rf _ _) g7 ?_ g9 ⟨[], rfl, fun j hj => absurd hj (Nat.not_lt_zero _), ?_⟩ (fun _ => ?_)⟩
    · rw [g8]; rfl
    · rw [hw]; rfl
    · rw [hw]; exact ⟨w1, by rw [List.drop_zero]; omega⟩
  -- the second phase: the least
  have least : ∀ (S1 : St), agr (fun q => q ≠ x4 ∧ q ≠ 386) S S1 → (∀ i, i < p.length → Cst S1 a u p i) → wp_X6_lays_94 k o (nI st) x4 P S1 (nI (p.length - 1)) := by
    intro S1 hag1 hC1
    have hI1 : InvM S1 a := hI.ag (hag1.mo (fun q hq => by unfold CM at hq; omega))
    have hc0 : ∀ w, w < nW a → gI S1 386 w = nI (cst (nW a) u (cv a) p w) := by
      intro w hw
      have := hC1 0 (by omega) w hw
      rw [Nat.mul_zero, Nat.zero_add, List.drop_zero] at this; exact this
    have top := cst_top (wl := nW a) (u := u) (c := cv a) p
    unfold wp_X6_lays_94
    have key : ∀ (N x b : Nat), b < x → x ≤ nW a → nW a < N + x → (∀ y, y < x → cst (nW a) u (cv a) p b ≤ cst (nW a) u (cv a) p y) → (∀ y, y < b → cst (nW a) u (cv a) p b < cst (nW a) u (cv a) p y) → wp_X6_lays_100 k o (nI st) x4 P N S1 (nI (p.length - 1)) (nI b) (nI x) := by
      intro N
      induction N with
      | zero => intro x b h1 h2 h3; omega
      | succ N ih =>
        intro x b h1 h2 h3 hb1 hb2
        rw [wp_X6_lays_100]
        dsimp only
        rw [hI1.1.2.1]
        have tb := top b
        by_cases q : x = nW a
        · rw [if_pos (by simp (disch := omega) only [n_0, n_1, n_2, n_3, n_7, n_8, n_9, n_10, n_12, n_14, n_18, n_20, n_60, n_112, n_162, n_255, n_1000, nI_add, n_mul, nI_ltI, nI_leI, nI_eq, nI_clamp]; omega)]
          subst q
          unfold wp_X6_lays_141
          have hmb : mnl (nW a) (cst (nW a) u (cv a) p) 1000 = cst (nW a) u (cv a) p b := by
            rcases mnl_att (nW a) (cst (nW a) u (cv a) p) 1000 with z | ⟨y, hy, z⟩
            · have := mnl_x (cst (nW a) u (cv a) p) 1000 h1; omega
            · have := mnl_x (cst (nW a) u (cv a) p) 1000 h1
              have := hb1 y hy; omega
          refine ⟨vp_in_nI (by omega) (by omega), ?_⟩
          rw [nI_clamp (by omega), hc0 b h1]
          by_cases q2 : cst (nW a) u (cv a) p b < 1000
          · rw [if_pos (by simp (disch := omega) only [n_0, n_1, n_2, n_3, n_7, n_8, n_9, n_10, n_12, n_14, n_18, n_20, n_60, n_112, n_162, n_255, n_1000, nI_add, n_mul, nI_ltI, nI_leI, nI_eq, nI_clamp]; omega)]
            refine ⟨v7, ?_⟩
            rintro S2 hS2
            refine ⟨v8, ?_⟩
            rintro S3 hS3
            refine ⟨vp_in_nI (by omega) (by omega), v9, ?_⟩
            rintro S4 hS4
            rw [nI_1, Nat.sub_add_cancel hl1, e7] at hS2
            rw [ee8] at hS3
            have h386 : gI S3 386 b = nI (cst (nW a) u (cv a) p b) := by subst hS3; subst hS2; rw [gI_n (by omega), gI_n (by omega)]; exact hc0 b h1
            rw [e9, h386] at hS4
            refine write S4 b ?_ ?_ ?_ (by omega) ?_ ?_ ?_
            · subst hS4; subst hS3; subst hS2
              exact ((hag1.tr (agr_sI (by simp) _ _ _)).tr (agr_sI (by simp) _ _ _)).tr (agr_sI (by simp) _ _ _)
            · intro i hi w hw
              subst hS4; subst hS3; subst hS2
              rw [gI_n (by omega), gI_n (by omega), gI_n (by omega)]
              exact hC1 i hi w hw
            · unfold w0
              symm
              refine low_uniq h1 (by rw [beq_iff_eq]; exact hmb.symm) ?_
              intro y hy
              have := hb2 y hy
              rw [← Bool.not_eq_true, beq_iff_eq]; omega
            · subst hS4; subst hS3; subst hS2
              rw [gI_n (by omega), gI_n (by omega), gI_s]
            · subst hS4; subst hS3; subst hS2
              rw [gI_n (by omega), gI_s]
            · subst hS4
              rw [gI_s, hmb]
          · rw [if_neg (by simp (disch := omega) only [n_0, n_1, n_2, n_3, n_7, n_8, n_9, n_10, n_12, n_14, n_18, n_20, n_60, n_112, n_162, n_255, n_1000, nI_add, n_mul, nI_ltI, nI_leI, nI_eq, nI_clamp]; omega)]
            refine hP0 S1 hag1 ?_
            unfold lay
            rw [if_neg (by omega)]
        · rw [if_neg (by simp (disch := omega) only [n_0, n_1, n_2, n_3, n_7, n_8, n_9, n_10, n_12, n_14, n_18, n_20, n_60, n_112, n_162, n_255, n_1000, nI_add, n_mul, nI_ltI, nI_leI, nI_eq, nI_clamp]; omega)]
          have tx := top x
          refine ⟨vp_in_nI (by omega) (by omega), vp_in_nI (by omega) (by omega), ?_⟩
          rw [nI_clamp (by omega), nI_clamp (by omega), hc0 x (by omega), hc0 b (by omega)]
          unfold wp_X6_lays_133
          by_cases q2 : cst (nW a) u (cv a) p b ≤ cst (nW a) u (cv a) p x
          · rw [if_pos (by simp (disch := omega) only [n_0, n_1, n_2, n_3, n_7, n_8, n_9, n_10, n_12, n_14, n_18, n_20, n_60, n_112, n_162, n_255, n_1000, nI_add, n_mul, nI_ltI, nI_leI, nI_eq, nI_clamp]; omega)]
            rintro _ rfl
            rw [nI_1]
            refine ih (x + 1) b (by omega) (by omega) (by omega) ?_ hb2
            intro y hy
            by_cases z : y = x
            · rw [z]; exact q2
            · exact hb1 y (by omega)
          · rw [if_neg (by simp (disch := omega) only [n_0, n_1, n_2, n_3, n_7, n_8, n_9, n_10, n_12, n_14, n_18, n_20, n_60, n_112, n_162, n_255, n_1000, nI_add, n_mul, nI_ltI, nI_leI, nI_eq, nI_clamp]; omega)]
            rintro _ rfl
            rw [nI_1]
            refine ih (x + 1) x (by omega) (by omega) (by omega) ?_ ?_
            · intro y hy
              by_cases z : y = x
              · rw [z]; exact Nat.le_refl _
              · have := hb1 y (by omega); omega
            · intro y hy
              have := hb1 y (by omega); omega
    obtain ⟨N, hN⟩ : ∃ N, nW a < N := ⟨_, Nat.lt_succ_self _⟩
    refine ⟨N, key N 1 0 (by omega) (by omega) (by omega) ?_ (fun y hy => absurd hy (Nat.not_lt_zero _))⟩
    intro y hy
    rw [show y = 0 by omega]; exact Nat.le_refl _
  -- the first phase: the conversions, from the end
  have outer : ∀ (N m : Nat) (S1 : St), m < N → m ≤ p.length → agr (fun q => q ≠ x4 ∧ q ≠ 386) S S1 → (∀ i, m ≤ i → i < p.length → Cst S1 a u p i) → wp_X6_lays_9 k o (nI st) x4 P N S1 (nI (p.length - 1)) (nI m + (-1)) := by
    intro N
    induction N with
    | zero => intro m S1 h1; omega
    | succ N ih =>
      intro m S1 hmN hm hag1 hC1
      rw [wp_X6_lays_9]
      dsimp only
      cases m with
      | zero =>
        rw [if_pos (by decide)]
        exact least S1 hag1 (fun i hi => hC1 i (Nat.zero_le _) hi)
      | succ m =>
        rw [n_m1 _ (by omega), Nat.add_sub_cancel, if_neg (nI_pos (by omega))]
        have hI1 : InvM S1 a := hI.ag (hag1.mo (fun q hq => by unfold CM at hq; omega))
        have hT1 := hT.ag (hag1 k (by omega))
        have hmp : m < p.length := by omega
        rw [n_2, nI_add, nI_clamp (by omega), (hT1.2 m hmp).1]
        refine ⟨vp_in_nI (by omega) (by omega), ?_⟩
        have hfm := hpf _ (List.getElem_mem hmp)
        refine k_free h hI1 hfm ho _ ?_
        rw [n_and, ← hu0]
        rintro _ rfl
        have inner : ∀ (M w : Nat) (S2 : St), w ≤ nW a → nW a < M + w → agr (fun q => q ≠ x4 ∧ q ≠ 386) S S2 → (∀ i, m + 1 ≤ i → i < p.length → Cst S2 a u p i) → (∀ w', w' < w → gI S2 386 (8 * m + w') = nI (cst (nW a) u (cv a) (p.drop m) w')) → wp_X6_lays_32 k o (nI st) x4 P (fun S a5 a6 => wp_X6_lays_9 k o (nI st) x4 P N S a5 a6) M S2 (nI (p.length - 1)) (nI m) (nI (u (p[m]'hmp).1)) (nI w) := by
          intro M
          induction M with
          | zero => intro w S2 h1 h2; omega
          | succ M ih2 =>
            intro w S2 hw1 hw2 hag2 hC2 hcm
            rw [wp_X6_lays_32]
            dsimp only
            have hI2 : InvM S2 a := hI.ag (hag2.mo (fun q hq => by unfold CM at hq; omega))
            rw [hI2.1.2.1]
            by_cases q : w = nW a
            · rw [if_pos (by simp (disch := omega) only [n_0, n_1, n_2, n_3, n_7, n_8, n_9, n_10, n_12, n_14, n_18, n_20, n_60, n_112, n_162, n_255, n_1000, nI_add, n_mul, nI_ltI, nI_leI, nI_eq, nI_clamp]; omega)]
              unfold wp_X6_lays_88
              rintro _ rfl
              refine ih m S2 (by omega) (by omega) hag2 ?_
              intro i hi hi2
              by_cases z : i = m
              · subst z
                intro w' hw'
                exact hcm w' (by omega)
              · exact hC2 i (by omega) hi2
            · rw [if_neg (by simp (disch := omega) only [n_0, n_1, n_2, n_3, n_7, n_8, n_9, n_10, n_12, n_14, n_18, n_20, n_60, n_112, n_162, n_255, n_1000, nI_add, n_mul, nI_ltI, nI_leI, nI_eq, nI_clamp]; omega)]
              have hum := hu8 (p[m]'hmp).1
              simp only [n_bit1 (show u (p[m]'hmp).1 < 2 ^ 31 by omega) (show w < 32 by omega)]
              have put81 : ∀ v : Nat, v = cst (nW a) u (cv a) (p.drop m) w → wp_X6_lays_81 k o (nI st) x4 P (fun S a5 a6 => wp_X6_lays_9 k o (nI st) x4 P N S a5 a6) (fun S a5 a6 a7 a8 => wp_X6_lays_32 k o (nI st) x4 P (fun S a5 a6 => wp_X6_lays_9 k o (nI st) x4 P N S a5 a6) M S a5 a6 a7 a8) S2 (nI (p.length - 1)) (nI m) (nI (u (p[m]'hmp).1)) (nI w) (8 * nI m + nI w) (nI v) := by
                rintro v hv
                unfold wp_X6_lays_81
                rw [n_8, n_mul, nI_add, nI_clamp (by omega)]
                refine ⟨vp_in_nI (by omega) (by omega), ?_⟩
                rintro S3 hS3 _ rfl
                rw [nI_1]
                refine ih2 (w + 1) S3 (by omega) (by omega) ?_ ?_ ?_
                · subst hS3; exact hag2.tr (agr_sI (by simp) _ _ _)
                · intro i hi hi2 w' hw'
                  subst hS3
                  rw [gI_n (by omega)]
                  exact hC2 i hi hi2 w' hw'
                · intro w' hw'
                  subst hS3
                  by_cases z : w' = w
                  · subst z; rw [gI_s, hv]
                  · rw [gI_n (by omega)]; exact hcm w' (by omega)
              by_cases q2 : (u (p[m]'hmp).1).testBit w = true
              · rw [if_pos q2]
                refine k_cost h hI2 hl (hT.ag (hag2 k (by omega))) hmp hpv (by omega) (fun hx => hC2 (m + 1) (Nat.le_refl _) hx) _ ?_
                refine put81 _ ?_
                rw [cst_drop hmp, if_pos q2]
              · rw [if_neg q2]
                refine put81 1000 ?_
                rw [cst_drop hmp, if_neg q2]
        obtain ⟨M, hM⟩ : ∃ M, nW a < M := ⟨_, Nat.lt_succ_self _⟩
        exact ⟨M, inner M 0 S1 (by omega) (by omega) hag1 hC1 (fun w' hw' => absurd hw' (Nat.not_lt_zero _))⟩
  unfold wp_X6_lays
  rw [e0, hT.1]
  refine ⟨vp_in_nI (n := 0) (by omega) (by omega), ?_⟩
  rintro _ rfl
  obtain ⟨N, hN⟩ : ∃ N, p.length < N := ⟨_, Nat.lt_succ_self _⟩
  refine ⟨N, ?_⟩
  have := outer N p.length S hN (Nat.le_refl _) (agr.rf _ _) (fun i h1 h2 => by omega)
  rw [n_m1 _ hl1] at this
  exact this
end LAYSB
