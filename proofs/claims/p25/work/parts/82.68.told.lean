/-! THE PURE LAYER: what is foretold for a new light -/
theorem pk1_s (z x : Wy) : pk1 (some z) x = if ahd x z = true then some x else some z := rfl
theorem pick_min' : ∀ (l : List Wy) (b : Option Wy) (w : Wy), l.foldl pk1 b = some w → (∀ z, b = some z → w.2.1 ≤ z.2.1) ∧ ∀ v ∈ l, w.2.1 ≤ v.2.1 := by
  intro l
  induction l with
  | nil => intro b w h; exact ⟨fun z hz => by rw [show b = some w from h] at hz; cases hz; exact Nat.le_refl _, fun v hv => by cases hv⟩
  | cons x l ih =>
    intro b w h
    rw [List.foldl_cons] at h
    obtain ⟨h1, h2⟩ := ih _ w h
    have key : w.2.1 ≤ x.2.1 ∧ ∀ z, b = some z → w.2.1 ≤ z.2.1 := by
      rcases b with _ | z
      · exact ⟨h1 x rfl, fun z hz => by cases hz⟩
      · rw [pk1_s] at h1
        by_cases c : ahd x z = true
        · rw [if_pos c] at h1
          have := h1 x rfl
          rw [ahd_iff] at c
          exact ⟨this, fun y hy => by cases hy; omega⟩
        · rw [if_neg c] at h1
          have := h1 z rfl
          rw [ahd_iff] at c
          exact ⟨by omega, fun y hy => by cases hy; exact this⟩
    refine ⟨key.2, fun v hv => ?_⟩
    rcases List.mem_cons.mp hv with rfl | hv
    · exact key.1
    · exact h2 v hv
theorem pick_min {l : List Wy} {w : Wy} (h : pick l = some w) : ∀ v ∈ l, w.2.1 ≤ v.2.1 := (pick_min' l none w h).2
theorem pick_ne' : ∀ (l : List Wy) (z : Wy), l.foldl pk1 (some z) ≠ none := by
  intro l
  induction l with
  | nil => intro z h; cases h
  | cons x l ih =>
    intro z h
    rw [List.foldl_cons] at h
    rw [pk1_s] at h
    by_cases c : ahd x z = true
    · rw [if_pos c] at h; exact ih x h
    · rw [if_neg c] at h; exact ih z h
theorem pick_some {l : List Wy} {v : Wy} (h : v ∈ l) : ∃ w, pick l = some w ∧ w.2.1 ≤ v.2.1 := by
  rcases hp : pick l with _ | w
  · cases l with
    | nil => cases h
    | cons x l => exact absurd hp (pick_ne' l x)
  · exact ⟨w, rfl, pick_min hp v h⟩
theorem mnl_mono {n b b' : Nat} {g g' : Nat → Nat} (hb : b' ≤ b) (hg : ∀ x, g' x ≤ g x) : mnl n g' b' ≤ mnl n g b := by
  rcases mnl_att n g b with e | ⟨x, hx, e⟩
  · rw [e]; exact Nat.le_trans (mnl_b _ _ _) hb
  · rw [e]; exact Nat.le_trans (mnl_x _ _ hx) (hg x)
theorem cst_k1 (wl : Nat) (u : Nat → Nat) (c : Nat → Bool) (f v w : Nat) : cst wl u c [(f, v)] w = if (u f).testBit w = true then 0 else 1000 := rfl
theorem cst_k2 (wl : Nat) (u : Nat → Nat) (c : Nat → Bool) (f v g v2 w : Nat) (r : List (Nat × Nat)) : cst wl u c ((f, v) :: (g, v2) :: r) w = if (u f).testBit w = true then (if c v2 = true then mnl wl (fun x => cst wl u c ((g, v2) :: r) x + 1) (cst wl u c ((g, v2) :: r) w) else cst wl u c ((g, v2) :: r) w) else 1000 := rfl
theorem cst_no {wl : Nat} {u : Nat → Nat} {c : Nat → Bool} {f v w : Nat} {r : List (Nat × Nat)} (h : ¬ (u f).testBit w = true) : cst wl u c ((f, v) :: r) w = 1000 := by
  cases r with
  | nil => rw [cst_k1, if_neg h]
  | cons q r => obtain ⟨g, v2⟩ := q; rw [cst_k2, if_neg h]
theorem cst_1000 (wl : Nat) (u : Nat → Nat) (c : Nat → Bool) : ∀ (p : List (Nat × Nat)) (w : Nat), cst wl u c p w ≤ 1000 := by
  intro p
  induction p with
  | nil => intro w; exact Nat.zero_le _
  | cons q r ih =>
    intro w
    obtain ⟨f, v⟩ := q
    cases r with
    | nil => rw [cst_k1]; split <;> omega
    | cons q2 r2 =>
      obtain ⟨g, v2⟩ := q2
      rw [cst_k2]
      split
      · split
        · exact Nat.le_trans (mnl_b _ _ _) (ih w)
        · exact ih w
      · omega
theorem cst_mono {wl : Nat} {u u' : Nat → Nat} {c c' : Nat → Bool} (hu : ∀ f w, (u f).testBit w = true → (u' f).testBit w = true) (hc : ∀ v, c v = true → c' v = true) : ∀ (p : List (Nat × Nat)) (w : Nat), cst wl u' c' p w ≤ cst wl u c p w := by
  intro p
  induction p with
  | nil => intro w; exact Nat.le_refl _
  | cons q r ih =>
    intro w
    obtain ⟨f, v⟩ := q
    by_cases b : (u f).testBit w = true
    · have b' := hu f w b
      cases r with
      | nil => rw [cst_k1, cst_k1, if_pos b, if_pos b']; exact Nat.le_refl _
      | cons q2 r2 =>
        obtain ⟨g, v2⟩ := q2
        rw [cst_k2, cst_k2, if_pos b, if_pos b']
        by_cases z : c v2 = true
        · rw [if_pos z, if_pos (hc v2 z)]
          exact mnl_mono (ih w) (fun x => Nat.add_le_add_right (ih x) 1)
        · rw [if_neg z]
          split
          · exact Nat.le_trans (mnl_b _ _ _) (ih w)
          · exact ih w
    · rw [cst_no (u := u) b]; exact cst_1000 _ _ _ _ _
theorem cst_low1 {wl : Nat} {u : Nat → Nat} (x : Nat) : ∀ (p : List (Nat × Nat)), cst wl u (fun _ => false) p x < 1000 → cst wl (fun f => u f &&& 2 ^ x) (fun _ => false) p x < 1000 := by
  intro p
  induction p with
  | nil => intro h; exact h
  | cons q r ih =>
    intro h
    obtain ⟨f, v⟩ := q
    have b : (u f).testBit x = true := by
      apply Classical.byContradiction
      intro b
      rw [cst_no b] at h; omega
    have b' : (u f &&& 2 ^ x).testBit x = true := by rw [Nat.testBit_and, b, Nat.testBit_two_pow]; simp
    cases r with
    | nil => rw [cst_k1, if_pos b']; omega
    | cons q2 r2 =>
      obtain ⟨g, v2⟩ := q2
      rw [cst_k2, if_pos b, if_neg (by decide)] at h
      rw [cst_k2, if_pos b', if_neg (by decide)]
      exact ih h
theorem mnl_1000 {n : Nat} {g : Nat → Nat} : mnl n g 1000 < 1000 ↔ ∃ x, x < n ∧ g x < 1000 := by
  have := mnl_le (n := n) (g := g) (b := 1000) (k := 999)
  constructor
  · intro h
    rcases this.mp (by omega) with z | ⟨x, hx, hg⟩
    · omega
    · exact ⟨x, hx, by omega⟩
  · rintro ⟨x, hx, hg⟩
    have := this.mpr (.inr ⟨x, hx, by omega⟩)
    omega
theorem kpt_of {a : Ab} {u : Nat → Nat} {c : Nat → Bool} {x t : Nat} {p : List (Nat × Nat)} (hp : p ∈ trl a (fun _ => false) t 8 x (2 ^ x)) (hm : ∃ w, w < nW a ∧ cst (nW a) u c p w < 1000) : ∃ W, W ∈ kpt a u c x t ∧ W.2.1 = lenOf a p := by
  refine ⟨(chs (nW a) u c p (w0 (nW a) u c p), lenOf a p, mnl (nW a) (cst (nW a) u c p) 1000), List.mem_filterMap.mpr ⟨p, hp, ?_⟩, rfl⟩
  unfold lay
  rw [if_pos (mnl_1000.mpr hm)]
theorem kpt_row {a : Ab} {u : Nat → Nat} {c : Nat → Bool} {x t : Nat} {W : Wy} (h : W ∈ kpt a u c x t) : ∃ p, p ∈ trl a (fun _ => false) t 8 x (2 ^ x) ∧ W.2.1 = lenOf a p ∧ ∃ w, w < nW a ∧ cst (nW a) u c p w < 1000 := by
  unfold kpt at h
  obtain ⟨p, hp, hl⟩ := List.mem_filterMap.mp h
  obtain ⟨h1, h2⟩ := lay_some hl
  exact ⟨p, hp, by rw [h2], mnl_1000.mp h1⟩
/-- a way without conversions is no shorter than the first way -/
theorem told_0 {a : Ab} {u : Nat → Nat} {x t : Nat} {W : Wy} (hu : ∀ f w, (u f).testBit w = true → (usb a 60 f).testBit w = true) (h : W ∈ kpt a u (fun _ => false) x t) : ∃ w, fnd0 a 60 x t = some w ∧ w.2.1 ≤ W.2.1 := by
  obtain ⟨p, hp, hl, w, hw, hc⟩ := kpt_row h
  obtain ⟨V, hV, hVl⟩ := kpt_of (u := usb a 60) (c := cv a) hp ⟨w, hw, Nat.lt_of_le_of_lt (cst_mono hu (fun _ z => by cases z) p w) hc⟩
  obtain ⟨b, hb, hbl⟩ := pick_some hV
  exact ⟨b, hb, by omega⟩
theorem fnd1_of {a : Ab} {x t : Nat} : ∀ (n k : Nat) (w : Wy), fnd1 a x t n k = some w → ∃ k', w ∈ kpt a (fun f => usb a 60 f &&& 2 ^ k') (fun _ => false) x t := by
  intro n
  induction n with
  | zero => intro k w h; cases h
  | succ n ih =>
    intro k w h
    rw [fnd1] at h
    split at h
    · exact ih _ w h
    · rename_i b hb
      cases h
      exact ⟨k, pick_mem hb⟩
theorem fnd1_ex {a : Ab} {x t : Nat} : ∀ (n k k' : Nat) (W : Wy), k ≤ k' → k' < k + n → W ∈ kpt a (fun f => usb a 60 f &&& 2 ^ k') (fun _ => false) x t → ∃ w, fnd1 a x t n k = some w := by
  intro n
  induction n with
  | zero => intro k k' W h1 h2 _; omega
  | succ n ih =>
    intro k k' W h1 h2 hW
    rw [fnd1]
    by_cases c : k' = k
    · subst c
      obtain ⟨b, hb, _⟩ := pick_some hW
      rw [hb]; exact ⟨b, rfl⟩
    · split
      · exact ih (k + 1) k' W (by omega) (by omega) hW
      · exact ⟨_, rfl⟩
theorem told_1 {a : Ab} {x t : Nat} {W : Wy} (h : W ∈ kpt a (usb a 60) (fun _ => false) x t) : ∃ w, fnd1 a x t (nW a) 0 = some w := by
  obtain ⟨p, hp, _, w, hw, hc⟩ := kpt_row h
  obtain ⟨V, hV, _⟩ := kpt_of (u := fun f => usb a 60 f &&& 2 ^ w) (c := fun _ => false) hp ⟨w, hw, cst_low1 w p hc⟩
  exact fnd1_ex (nW a) 0 w V (by omega) (by omega) hV
/-- the answers that foretell -/
def nl (a : Ab) (x y r : Int32) : Int32 := (tl a (q_newLength a x y r)).1
theorem nl_no {a : Ab} {x y r : Int32} (h : two a x y = false) : nl a x y r = -99999 := by
  unfold nl q_newLength
  rw [h, Bool.false_and, if_neg (by decide)]; rfl
theorem nl_is {a : Ab} {x y r : Int32} (h : two a x y = true) (hr : rg r 0 2 = true) : nl a x y r = if fnd a (tN x) (tN y) (tN r) = [] then -99999 else nI (lens (fnd a (tN x) (tN y) (tN r))) := by
  unfold nl q_newLength
  rw [h, hr, Bool.and_self, if_pos rfl]
  split <;> rfl
theorem told_n {a : Ab} (h : WF a) (x y : Int32) : (nl a x y 1 < 0 ∨ (¬ nl a x y 0 < 0 ∧ ¬ nl a x y 1 < nl a x y 0)) ∧ (nl a x y 2 < 0 ∨ (¬ nl a x y 1 < 0 ∧ ¬ nl a x y 2 < 2 * nl a x y 0)) := by
  rcases ht : two a x y with _ | _
  · rw [nl_no ht, nl_no ht, nl_no ht]
    exact ⟨.inl (by decide), .inl (by decide)⟩
  · obtain ⟨i, j, hi, hj, hij, rfl, rfl⟩ := two_t h.1.2 ht
    have h8 := h.1.2
    rw [nl_is ht (by decide), nl_is ht (by decide), nl_is ht (by decide), tN_nI (by omega), tN_nI (by omega), show tN 0 = 0 from by decide, show tN 1 = 1 from by decide, show tN 2 = 2 from by decide]
    have e0 : fnd a i j 0 = (fnd0 a 60 i j).toList := by unfold fnd; rw [if_pos rfl]
    have e1 : fnd a i j 1 = (fnd1 a i j (nW a) 0).toList := by unfold fnd; rw [if_neg (by omega), if_pos rfl]
    have e2 : fnd a i j 2 = (match fnd2 a i j with | none => [] | some p => [p.1, p.2]) := by unfold fnd; rw [if_neg (by omega), if_neg (by omega)]; rfl
    rw [e0, e1, e2]
    refine ⟨?_, ?_⟩
    · rcases h1 : fnd1 a i j (nW a) 0 with _ | w
      · left; rw [show (none : Option Wy).toList = [] from rfl, if_pos rfl]; decide
      · right
        obtain ⟨k, hk⟩ := fnd1_of _ _ _ h1
        obtain ⟨v, hv, hl⟩ := told_0 (u := fun f => usb a 60 f &&& 2 ^ k) (fun f w hw => by rw [Nat.testBit_and, Bool.and_eq_true] at hw; exact hw.1) hk
        have g1 := (fnd1_FW h hi _ _ h1).1.2.2.2.2.2
        rw [hv, if_neg (by simp), if_neg (by simp)]
        show ¬ nI v.2.1 < 0 ∧ ¬ nI w.2.1 < nI v.2.1
        rw [n_0, nI_ltI (by omega) (by omega), nI_ltI (by omega) (by omega)]
        omega
    · rcases h2 : fnd2 a i j with _ | p
      · left; rw [if_pos rfl]; decide
      · right
        obtain ⟨m1, m2, _, _⟩ := ((fnd2_PB a i j).2 p h2).1
        obtain ⟨w, hw⟩ := told_1 m1
        obtain ⟨v, hv, hl⟩ := told_0 (fun _ _ z => z) m1
        obtain ⟨v', hv', hl'⟩ := told_0 (fun _ _ z => z) m2
        rw [hv] at hv'
        cases hv'
        have g1 := (fnd1_FW h hi _ _ hw).1.2.2.2.2.2
        have g2 := (fnd2_FW h hi h2).1.1.2.2.2.2.2
        have g3 := (fnd2_FW h hi h2).2.1.1.2.2.2.2.2
        rw [hw, hv, if_neg (by simp), if_neg (by simp), if_neg (by simp)]
        show ¬ nI w.2.1 < 0 ∧ ¬ nI (p.1.2.1 + p.2.2.1) < 2 * nI v.2.1
        rw [n_0, n_2, n_mul, nI_ltI (by omega) (by omega), nI_ltI (by omega) (by omega)]
        omega
theorem l_told {S : St} {a : Ab} (h : WF a) (hJ : JC S a) (x y : Int32) (P : Bool → St → Prop) (hP : ∀ S', JC S' a → P true S') : wp_L_isForetoldSo S x y P := by
  unfold wp_L_isForetoldSo
  refine l_newLength h hJ x y 0 _ (fun S0 hS0 => ?_)
  refine l_newLength h hS0 x y 1 _ (fun S1 hS1 => ?_)
  refine l_newLength h hS1 x y 2 _ (fun S2 hS2 => ?_)
  obtain ⟨h1, h2⟩ := told_n h x y
  have e41 : wp_L_isForetoldSo_41 x y P S2 (nl a x y 0) (nl a x y 1) (nl a x y 2) := by
    unfold wp_L_isForetoldSo_41
    rcases h2 with h2 | ⟨h2, h3⟩
    · rw [if_pos h2]; exact hP S2 hS2
    · by_cases c : nl a x y 2 < 0
      · rw [if_pos c]; exact hP S2 hS2
      · rw [if_neg c, if_neg h2, if_neg h3]; exact hP S2 hS2
  show (if nl a x y 1 < 0 then wp_L_isForetoldSo_41 x y P S2 (nl a x y 0) (nl a x y 1) (nl a x y 2) else if nl a x y 0 < 0 then P false S2 else if nl a x y 1 < nl a x y 0 then P false S2 else wp_L_isForetoldSo_41 x y P S2 (nl a x y 0) (nl a x y 1) (nl a x y 2))
  rcases h1 with h1 | ⟨h1, h3⟩
  · rw [if_pos h1]; exact e41
  · split
    · exact e41
    · first | exact e41 | (rw [if_neg h1, if_neg h3]; exact e41)
