/-! THE PURE LAYER: some laws of ways and lights -/
def uN (o : Option Nat) : Int32 := match o with
  | none => -1
  | some l => nI l
def GP (a : Ab) (p : List (Nat × Nat)) : Prop := p ≠ [] ∧ p.length ≤ 7 ∧ (∀ q ∈ p, q.1 < nF a) ∧ (∀ q ∈ p, q.2 < 8)
theorem trl_good {a : Ab} (h : WF a) (bar : Nat → Bool) (t : Nat) : ∀ (n v met : Nat) (p : List (Nat × Nat)), v < nD a → met.testBit v = true → cnt 8 met.testBit + n = 9 → p ∈ trl a bar t n v met → p.length + 1 ≤ n ∧ ∀ q ∈ p, q.2 < 8 := by
  have h8 := h.1.2
  intro n
  induction n with
  | zero => intro v met p _ _ _ hp; cases hp
  | succ n ih =>
    intro v met p hv hmv hc hp
    rw [trl_succ, List.mem_flatMap] at hp
    obtain ⟨f, hf, hp⟩ := hp
    have hf := List.mem_range.mp hf
    rcases hq : acr a v f with _ | u
    · rw [exn_none hq] at hp; cases hp
    · by_cases hb : bar f = true
      · rw [exn_bar hb] at hp; cases hp
      · by_cases hm : met.testBit u = true
        · rw [exn_met hq hm] at hp; cases hp
        · have hm : met.testBit u = false := by simpa using hm
          obtain ⟨hud, _⟩ := acr_lt h.2.2.2.2.2.1 hf hq
          have hcn := cnt_or (n := 8) (m := met) (v := u) (by omega) hm
          have hcl := cnt_le 8 (met ||| 2 ^ u).testBit
          rw [exn_go hq (by simpa using hb) hm] at hp
          by_cases ht : u = t
          · rw [if_pos ht, List.mem_singleton] at hp
            subst hp
            refine ⟨by simp; omega, fun q hq2 => ?_⟩
            rw [List.mem_singleton] at hq2; subst hq2; show v < 8; omega
          · rw [if_neg ht, List.mem_map] at hp
            obtain ⟨p', hp', rfl⟩ := hp
            obtain ⟨i1, i2⟩ := ih u (met ||| 2 ^ u) p' hud (by rw [Nat.testBit_or, Nat.testBit_two_pow]; simp) (by omega) hp'
            refine ⟨by simp only [List.length_cons]; omega, fun q hq2 => ?_⟩
            rcases List.mem_cons.mp hq2 with rfl | hq2
            · show v < 8; omega
            · exact i2 q hq2
theorem trl_GP {a : Ab} (h : WF a) (bar : Nat → Bool) {t x : Nat} (hx : x < nD a) {p : List (Nat × Nat)} (hp : p ∈ trl a bar t 8 x (2 ^ x)) : GP a p := by
  have h8 := h.1.2
  have hv : (2 ^ x).testBit x = true := by rw [Nat.testBit_two_pow]; simp
  have hc : cnt 8 (2 ^ x).testBit + 8 = 9 := by
    have := cnt_or (n := 8) (m := 0) (v := x) (by omega) (by simp)
    rw [Nat.zero_or] at this
    rw [this]; rfl
  obtain ⟨g1, g2⟩ := trl_good h bar t 8 x (2 ^ x) p hx hv hc hp
  obtain ⟨g3, g4, _⟩ := trl_mem h.2.2.2.2.2.1 bar t 8 x (2 ^ x) p hv hp
  exact ⟨g3, by omega, fun q hq => (g4 q hq).1, g2⟩
theorem lay_SW {a : Ab} (h : WF a) {u : Nat → Nat} {c : Nat → Bool} (hu : ∀ f, u f < 2 ^ nW a) {p : List (Nat × Nat)} (hp : GP a p) {W : Wy} (hW : lay a u c p = some W) : SW W ∧ W.1 ≠ [] := by
  have hw8 := h.2.1.2
  have h14 := h.2.2.1
  obtain ⟨g1, g2, g3, g4⟩ := hp
  obtain ⟨h1, rfl⟩ := lay_some hW
  obtain ⟨w1, w2⟩ := w0_is h1
  have hcl := chs_len (c := c) hu hw8 (p := p) (w := w0 (nW a) u c p) (by omega)
  have hfin := cst_fin (wl := nW a) (u := u) (c := c) (r := p) (w := w0 (nW a) u c p) (by omega)
  have hlen : ∀ (l : List (Nat × Nat)), (∀ q ∈ l, q.1 < nF a) → lenOf a l ≤ 1000 * l.length := by
    intro l
    unfold lenOf
    have : ∀ (l : List (Nat × Nat)) (b : Nat), (∀ q ∈ l, q.1 < nF a) → (l.map (fun q => el a q.1)).foldl (· + ·) b ≤ b + 1000 * l.length := by
      intro l
      induction l with
      | nil => intro b _; exact Nat.le_refl _
      | cons q l ih =>
        intro b hq
        rw [List.map_cons, List.foldl_cons, List.length_cons]
        have := ih (b + el a q.1) (fun z hz => hq z (List.mem_cons_of_mem _ hz))
        have := (h.2.2.2.2.2.1 q.1 (hq q List.mem_cons_self)).2.2.2.2
        omega
    intro hq
    have := this l 0 hq
    omega
  refine ⟨⟨by show (chs _ _ _ _ _).length ≤ 7; omega, chs_256 hu hw8 (fun q hq => by have := g3 q hq; omega) (by omega), ?_, ?_⟩, ?_⟩
  · have := hlen p g3
    show lenOf a p ≤ 7000
    omega
  · show mnl (nW a) (cst (nW a) u c p) 1000 ≤ 7
    omega
  · intro z
    have : (chs (nW a) u c p (w0 (nW a) u c p)).length = 0 := by rw [show chs (nW a) u c p (w0 (nW a) u c p) = [] from z]; rfl
    rw [hcl] at this
    exact g1 (List.length_eq_zero_iff.mp this)
theorem dsj_iff {x y : Wy} (hx : SW x) (hy : SW y) : dsj x y = true ↔ ∀ c ∈ y.1, (fbs x).testBit (c / 10) = false := by
  unfold dsj
  rw [beq_iff_eq]
  constructor
  · intro h c hc
    have h1 : (fbs x &&& fbs y).testBit (c / 10) = false := by rw [h]; exact Nat.zero_testBit _
    rw [Nat.testBit_and, fbs_bit hy] at h1
    have h2 : y.1.any (fun d => d / 10 == c / 10) = true := List.any_eq_true.mpr ⟨c, hc, beq_self_eq_true _⟩
    rw [h2, Bool.and_true] at h1; exact h1
  · intro h
    apply Nat.eq_of_testBit_eq
    intro i
    rw [Nat.testBit_and, Nat.zero_testBit, fbs_bit hy, Bool.and_eq_false_iff]
    rcases hq : y.1.any (fun d => d / 10 == i) with _ | _
    · exact .inr rfl
    · rw [List.any_eq_true] at hq
      obtain ⟨c, hc, hci⟩ := hq
      rw [beq_iff_eq] at hci
      left; rw [← hci]; exact h c hc
theorem WF.ways {a : Ab} (h : WF a) {l : Nat} (hl : l < nL a) : (wy a l).length ≤ 2 ∧ ∀ (i : Nat) (w : Wy), (wy a l)[i]? = some w → i < 2 ∧ GW a w ∧ SW w := by
  obtain ⟨_, _, _, _, _, h6, h7⟩ := h.2.2.2.2.2.2.2.2.2.1 l hl
  refine ⟨h6, fun i w hw => ?_⟩
  obtain ⟨hi, _⟩ := List.getElem?_eq_some_iff.mp hw
  have hg := h7 w (List.mem_of_getElem? hw)
  exact ⟨by omega, hg, hg.sw h.2.2.1 h.2.1.2⟩
def rmy (a : Ab) (x y d rule l : Nat) : Bool := lup a l && jns a l x y && ((wy a l).length == (if rule = 2 then 2 else 1)) && decide (units a l + d ≤ 10)
def rmf (a : Ab) (x y d rule : Nat) : Option Nat := (List.range (nL a)).find? (rmy a x y d rule)
theorem find_low {n : Nat} {p : Nat → Bool} : (List.range n).find? p = if low n p < n then some (low n p) else none := by
  by_cases h : low n p < n
  · rw [if_pos h]
    rcases hq : (List.range n).find? p with _ | l
    · rw [List.find?_eq_none] at hq
      exact absurd (low_is h) (hq _ (List.mem_range.mpr h))
    · congr 1
      obtain ⟨h1, as, bs, h2, h3⟩ := List.find?_eq_some_iff_append.mp hq
      symm
      have hl : l < n := by
        have := List.mem_of_find?_eq_some hq
        exact List.mem_range.mp this
      refine low_uniq hl h1 ?_
      intro y hy
      have hlen : as.length = l := by
        have e : (as ++ l :: bs)[as.length]? = some l := by simp
        rw [← h2, List.getElem?_range (by
          have := congrArg List.length h2
          simp at this; omega)] at e
        exact Option.some.inj e
      have hy2 : y ∈ as := by
        have e : (as ++ l :: bs)[y]? = some y := by rw [← h2, List.getElem?_range (by omega)]
        rw [List.getElem?_append_left (by omega)] at e
        exact List.mem_of_getElem? e
      have := h3 y hy2
      simpa using this
  · rw [if_neg h, List.find?_eq_none]
    intro x hx
    have := low_le n p
    rw [low_not (n := n) (p := p) (by have := List.mem_range.mp hx; omega)]; simp
