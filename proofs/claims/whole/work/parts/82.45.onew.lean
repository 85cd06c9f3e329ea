/-! THE PURE LAYER: one wavelength -/
section ONE
variable {wl : Nat} {u : Nat → Nat} {c c' : Nat → Bool}
theorem cst_one1 {w : Nat} (h : ∀ f i, (u f).testBit i = true → i = w) : ∀ (p : List (Nat × Nat)) (x : Nat), cst wl u c p x = cst wl u c' p x := by
  intro p
  induction p with
  | nil => intro x; rfl
  | cons q r ih =>
    intro x
    obtain ⟨f, v⟩ := q
    cases r with
    | nil => rfl
    | cons q2 r =>
      obtain ⟨f', v'⟩ := q2
      -- with one wavelength a conversion is of no use
      have key : ∀ d : Nat → Bool, (u f).testBit x = true → cst wl u d ((f, v) :: (f', v') :: r) x = cst wl u d ((f', v') :: r) x := by
        intro d hb
        have hxw := h f x hb
        rw [cst_two, if_pos hb]
        by_cases hd : d v' = true
        · rw [if_pos hd]
          refine Nat.le_antisymm (mnl_b _ _ _) ?_
          rcases mnl_att wl (fun y => cst wl u d ((f', v') :: r) y + 1) (cst wl u d ((f', v') :: r) x) with z | ⟨y, _, z⟩
          · omega
          · rw [z]
            have ht := cst_top (wl := wl) (u := u) (c := d) ((f', v') :: r) x
            by_cases hy : cst wl u d ((f', v') :: r) y < 1000
            · have := h f' y (cst_bit hy)
              rw [this, ← hxw]; omega
            · omega
        · rw [if_neg hd]
      by_cases hb : (u f).testBit x = true
      · rw [key c hb, key c' hb]; exact ih x
      · rw [cst_two, cst_two, if_neg hb, if_neg hb]
theorem nxt_one1 {w f v f' v' : Nat} {r : List (Nat × Nat)} (h : ∀ f i, (u f).testBit i = true → i = w) (hu : ∀ f, u f < 2 ^ wl) (hfin : cst wl u c ((f, v) :: (f', v') :: r) w < 1000) : nxt wl u c ((f', v') :: r) (cst wl u c ((f, v) :: (f', v') :: r) w) w = w := by
  have hn := nxt_is hu hfin
  generalize nxt wl u c ((f', v') :: r) (cst wl u c ((f, v) :: (f', v') :: r) w) w = x at *
  have : cst wl u c ((f', v') :: r) x < 1000 := by have := hn.2; omega
  exact h f' x (cst_bit this)
theorem chs_one1 {w : Nat} (h : ∀ f i, (u f).testBit i = true → i = w) (hu : ∀ f, u f < 2 ^ wl) : ∀ (p : List (Nat × Nat)), cst wl u c p w < 1000 → chs wl u c p w = p.map (fun q => 10 * q.1 + w) := by
  intro p
  induction p with
  | nil => intro _; rfl
  | cons q r ih =>
    intro hfin
    obtain ⟨f, v⟩ := q
    cases r with
    | nil => rfl
    | cons q2 r =>
      obtain ⟨f', v'⟩ := q2
      have hx := nxt_one1 h hu hfin
      have hn := (nxt_is hu hfin).2
      rw [hx] at hn
      rw [chs_cons, hx, ih (by omega)]
      rfl
theorem lay_one1 {a : Ab} {w : Nat} (h : ∀ f i, (u f).testBit i = true → i = w) (hu : ∀ f, u f < 2 ^ nW a) {p : List (Nat × Nat)} (hp : p ≠ []) : lay a u c p = lay a u c' p := by
  have hc : cst (nW a) u c p = cst (nW a) u c' p := by funext x; exact cst_one1 h p x
  unfold lay w0
  rw [hc]
  by_cases hm : mnl (nW a) (cst (nW a) u c' p) 1000 < 1000
  · rw [if_pos hm, if_pos hm]
    obtain ⟨w1, w2⟩ := w0_is hm
    unfold w0 at w1 w2
    generalize low (nW a) (fun x => cst (nW a) u c' p x == mnl (nW a) (cst (nW a) u c' p) 1000) = b at *
    have hb : cst (nW a) u c' p b < 1000 := by omega
    have hbw : b = w := by
      cases p with
      | nil => exact absurd rfl hp
      | cons q r => exact h q.1 b (cst_bit hb)
    subst hbw
    have h1 := chs_one1 (c := c') h hu p hb
    have h2 := chs_one1 (c := c) h hu p (by rw [hc]; exact hb)
    rw [h1, h2]
  · rw [if_neg hm, if_neg hm]
/-- on all fibres -/
def ona (u : Nat → Nat) (p : List (Nat × Nat)) (x : Nat) : Bool := p.all (fun q => (u q.1).testBit x)
theorem cst_no : ∀ (p : List (Nat × Nat)) (x : Nat), p ≠ [] → cst wl u (fun _ => false) p x = if ona u p x = true then 0 else 1000 := by
  intro p
  induction p with
  | nil => intro x h; exact absurd rfl h
  | cons q r ih =>
    intro x _
    obtain ⟨f, v⟩ := q
    unfold ona
    rw [List.all_cons]
    cases r with
    | nil =>
      rw [cst_one]
      by_cases hb : (u f).testBit x = true
      · rw [if_pos hb, hb]; rfl
      · rw [if_neg hb]; rw [Bool.not_eq_true] at hb; rw [hb]; rfl
    | cons q2 r =>
      obtain ⟨f', v'⟩ := q2
      rw [cst_two]
      by_cases hb : (u f).testBit x = true
      · rw [if_pos hb, if_neg (by simp), ih x (by simp), hb, Bool.true_and]; rfl
      · rw [if_neg hb]; rw [Bool.not_eq_true] at hb; rw [hb]; rfl
theorem chs_no (hu : ∀ f, u f < 2 ^ wl) {w : Nat} : ∀ (p : List (Nat × Nat)), ona u p w = true → chs wl u (fun _ => false) p w = p.map (fun q => 10 * q.1 + w) := by
  intro p
  induction p with
  | nil => intro _; rfl
  | cons q r ih =>
    intro ho
    obtain ⟨f, v⟩ := q
    have ho1 : cst wl u (fun _ => false) ((f, v) :: r) w = 0 := by rw [cst_no _ _ (by simp), if_pos ho]
    unfold ona at ho
    rw [List.all_cons, Bool.and_eq_true] at ho
    cases r with
    | nil => rfl
    | cons q2 r =>
      obtain ⟨f', v'⟩ := q2
      have hn := nxt_is (c := fun _ => false) hu (show cst wl u (fun _ => false) ((f, v) :: (f', v') :: r) w < 1000 by omega)
      rw [chs_cons]
      generalize nxt wl u (fun _ => false) ((f', v') :: r) (cst wl u (fun _ => false) ((f, v) :: (f', v') :: r) w) w = x at *
      rw [ho1] at hn
      have hxw : x = w := by
        apply Classical.byContradiction
        intro z
        have := hn.2
        rw [if_neg z, if_neg (by simp)] at this
        omega
      subst hxw
      rw [ih ho.2]; rfl
/-- the best way without conversions -/
theorem lay_no {a : Ab} (hu : ∀ f, u f < 2 ^ nW a) {p : List (Nat × Nat)} (hp : p ≠ []) : lay a u (fun _ => false) p = if low (nW a) (ona u p) < nW a then some (p.map (fun q => 10 * q.1 + low (nW a) (ona u p)), lenOf a p, 0) else none := by
  unfold lay
  by_cases hl : low (nW a) (ona u p) < nW a
  · have hz : mnl (nW a) (cst (nW a) u (fun _ => false) p) 1000 = 0 := by
      have := mnl_x (cst (nW a) u (fun _ => false) p) 1000 hl
      rw [cst_no p _ hp, if_pos (low_is hl)] at this
      omega
    have hw : w0 (nW a) u (fun _ => false) p = low (nW a) (ona u p) := by
      unfold w0
      rw [hz]
      refine low_uniq hl (by rw [beq_iff_eq, cst_no p _ hp, if_pos (low_is hl)]) ?_
      intro y hy
      rw [cst_no p _ hp, if_neg (by rw [low_not hy]; simp)]; rfl
    rw [if_pos hl, hz, if_pos (by omega), hw, chs_no hu p (low_is hl)]
  · rw [if_neg hl, if_neg]
    intro z
    rcases mnl_att (nW a) (cst (nW a) u (fun _ => false) p) 1000 with z2 | ⟨x, hx, z2⟩
    · omega
    · rw [z2, cst_no p _ hp] at z
      by_cases q : ona u p x = true
      · exact hl (low_ex hx q)
      · rw [if_neg q] at z; omega
end ONE
theorem fm_congr {A B : Type} {f g : A → Option B} : ∀ (l : List A), (∀ x ∈ l, f x = g x) → l.filterMap f = l.filterMap g := by
  intro l
  induction l with
  | nil => intro _; rfl
  | cons x l ih =>
    intro h
    rw [List.filterMap_cons, List.filterMap_cons, h x List.mem_cons_self, ih (fun y hy => h y (List.mem_cons_of_mem _ hy))]
theorem m_findsOne {S : St} {a : Ab} (h : WF a) (hI : InvM S a) {x t : Nat} (hx : x < nD a) (ht : t < nD a) (P : Bool → St → Prop)
    (hP : ∀ S', agr (fun q => q ≠ 380 ∧ q ≠ 382 ∧ q ≠ 384 ∧ q ≠ 386) S S' → BstM S' (fnd1 a x t (nW a) 0) → P (fnd1 a x t (nW a) 0).isSome S') : wp_X6_findsOneWavelength S (nI x) (nI t) P := by
  have hw8 := h.2.1.2
  have hw1 := h.2.1.1
  have hone : ∀ w, kpt a (fun f => usb a 60 f &&& 2 ^ w) (cv a) x t = kpt a (fun f => usb a 60 f &&& 2 ^ w) (fun _ => false) x t := by
    intro w
    unfold kpt
    apply fm_congr
    intro p hp
    exact lay_one1 (w := w) (fun f i hi => by
      rw [Nat.testBit_and, Nat.testBit_two_pow, Bool.and_eq_true, decide_eq_true_iff] at hi; exact hi.2.symm) (fun f => Nat.lt_of_le_of_lt Nat.and_le_left (usb_lt a 60 f)) (trl_GP h _ hx hp).1
  have key : ∀ (N w : Nat) (S' : St), w ≤ nW a → nW a < N + w → agr (fun q => q ≠ 380 ∧ q ≠ 382 ∧ q ≠ 384 ∧ q ≠ 386) S S' → (w ≠ 0 → BstM S' none) → fnd1 a x t (nW a - w) w = fnd1 a x t (nW a) 0 → wp_X6_findsOneWavelength_2 (nI x) (nI t) P N S' (nI w) := by
    intro N
    induction N with
    | zero => intro w S' h1 h2; omega
    | succ N ih =>
      intro w S' h1 h2 hag hB heq
      rw [wp_X6_findsOneWavelength_2]
      dsimp only
      have hI' : InvM S' a := hI.ag (hag.mo (fun q hq => by unfold CM at hq; omega))
      rw [hI'.1.2.1]
      by_cases q : w = nW a
      · rw [if_pos (by simp (disch := omega) only [n_0, n_1, n_2, n_3, n_7, n_8, n_9, n_10, n_12, n_14, n_18, n_20, n_60, n_112, n_162, n_255, n_1000, nI_add, n_mul, nI_ltI, nI_leI, nI_eq, nI_clamp]; omega)]
        rw [q, Nat.sub_self] at heq
        have heq : none = fnd1 a x t (nW a) 0 := heq
        have := hP S' hag (by rw [← heq]; exact hB (by omega))
        rw [← heq] at this; exact this
      · rw [if_neg (by simp (disch := omega) only [n_0, n_1, n_2, n_3, n_7, n_8, n_9, n_10, n_12, n_14, n_18, n_20, n_60, n_112, n_162, n_255, n_1000, nI_add, n_mul, nI_ltI, nI_leI, nI_eq, nI_clamp]; omega), n_one (by omega)]
        refine m_finds (own := 60) h hI' hx ht (.inl ⟨rfl, rfl⟩) (Nat.pow_lt_pow_right (by omega) (by omega)) _ ?_
        intro S2 hag2 hB2
        rw [hone w] at hB2 ⊢
        have hf : fnd1 a x t (nW a - w) w = match pick (kpt a (fun f => usb a 60 f &&& 2 ^ w) (fun _ => false) x t) with | none => fnd1 a x t (nW a - (w + 1)) (w + 1) | some b => some b := by
          rw [show nW a - w = (nW a - (w + 1)) + 1 by omega, fnd1]
          rfl
        rcases hp : pick (kpt a (fun f => usb a 60 f &&& 2 ^ w) (fun _ => false) x t) with _ | b
        · rw [hp] at hB2 hf
          rw [if_neg (by simp)]
          rintro _ rfl
          rw [nI_1]
          exact ih (w + 1) S2 (by omega) (by omega) (hag.tr hag2) (fun _ => hB2) (by rw [← heq, hf])
        · rw [hp] at hB2 hf
          rw [if_pos (show (some b).isSome = true from rfl)]
          have hf : fnd1 a x t (nW a - w) w = some b := hf
          have := hP S2 (hag.tr hag2) (by rw [← heq, hf]; exact hB2)
          rw [← heq, hf] at this; exact this
  obtain ⟨N, hN⟩ : ∃ N, nW a < N := ⟨_, Nat.lt_succ_self _⟩
  exact ⟨N, key N 0 S (by omega) (by omega) (agr.rf _ _) (fun z => absurd rfl z) rfl⟩
