/-! THE PURE LAYER: which way, which pair is ahead -/
theorem lxl_irr (x : List Nat) : lxl x x = false := by
  induction x with
  | nil => rfl
  | cons a x ih => rw [lxl, if_pos rfl]; exact ih
theorem lxl_tr : ∀ {x y z : List Nat}, lxl x y = true → lxl y z = true → lxl x z = true := by
  intro x
  induction x with
  | nil => intro y z h; cases y <;> cases h
  | cons a x ih =>
    intro y z h1 h2
    cases y with
    | nil => cases h1
    | cons b y =>
      cases z with
      | nil => cases h2
      | cons c z =>
        rw [lxl] at h1 h2 ⊢
        by_cases q1 : a = b
        · subst q1
          rw [if_pos rfl] at h1
          by_cases q2 : a = c
          · rw [if_pos q2] at h2 ⊢; exact ih h1 h2
          · rw [if_neg q2] at h2 ⊢; exact h2
        · rw [if_neg q1, decide_eq_true_iff] at h1
          by_cases q2 : b = c
          · subst q2
            rw [if_neg q1]; exact decide_eq_true h1
          · rw [if_neg q2, decide_eq_true_iff] at h2
            rw [if_neg (by omega)]; exact decide_eq_true (by omega)
theorem lxl_tot : ∀ {x y : List Nat}, x.length = y.length → x ≠ y → lxl x y = true ∨ lxl y x = true := by
  intro x
  induction x with
  | nil => intro y hl hn; cases y with
    | nil => exact absurd rfl hn
    | cons => cases hl
  | cons a x ih =>
    intro y hl hn
    cases y with
    | nil => cases hl
    | cons b y =>
      rw [lxl, lxl]
      by_cases q : a = b
      · subst q
        rw [if_pos rfl, if_pos rfl]
        exact ih (by simpa using hl) (fun z => hn (by rw [z]))
      · rw [if_neg q, if_neg (fun z => q z.symm), decide_eq_true_iff, decide_eq_true_iff]
        omega
theorem ahd_iff (x y : Wy) : ahd x y = true ↔ x.2.1 < y.2.1 ∨ (x.2.1 = y.2.1 ∧ (x.2.2 < y.2.2 ∨ (x.2.2 = y.2.2 ∧ (x.1.length < y.1.length ∨ (x.1.length = y.1.length ∧ lxl x.1 y.1 = true))))) := by
  unfold ahd
  by_cases q1 : x.2.1 = y.2.1
  · rw [if_pos q1]
    by_cases q2 : x.2.2 = y.2.2
    · rw [if_pos q2]
      by_cases q3 : x.1.length = y.1.length
      · rw [if_pos q3]
        constructor
        · intro h; exact .inr ⟨q1, .inr ⟨q2, .inr ⟨q3, h⟩⟩⟩
        · rintro (h | ⟨_, h | ⟨_, h | ⟨_, h⟩⟩⟩)
          · omega
          · omega
          · omega
          · exact h
      · rw [if_neg q3, decide_eq_true_iff]
        constructor
        · intro h; exact .inr ⟨q1, .inr ⟨q2, .inl h⟩⟩
        · rintro (h | ⟨_, h | ⟨_, h | ⟨h, _⟩⟩⟩) <;> omega
    · rw [if_neg q2, decide_eq_true_iff]
      constructor
      · intro h; exact .inr ⟨q1, .inl h⟩
      · rintro (h | ⟨_, h | ⟨h, _⟩⟩) <;> omega
  · rw [if_neg q1, decide_eq_true_iff]
    constructor
    · intro h; exact .inl h
    · rintro (h | ⟨h, _⟩) <;> omega
theorem ahd_irr (x : Wy) : ahd x x = false := by
  rw [← Bool.not_eq_true, ahd_iff, lxl_irr]
  rintro (h | ⟨_, h | ⟨_, h | ⟨_, h⟩⟩⟩)
  · omega
  · omega
  · omega
  · cases h
theorem ahd_tr {x y z : Wy} (h1 : ahd x y = true) (h2 : ahd y z = true) : ahd x z = true := by
  rw [ahd_iff] at *
  rcases h1 with a | ⟨a, b | ⟨b, c | ⟨c, d⟩⟩⟩ <;> rcases h2 with a2 | ⟨a2, b2 | ⟨b2, c2 | ⟨c2, d2⟩⟩⟩
  · exact .inl (by omega)
  · exact .inl (by omega)
  · exact .inl (by omega)
  · exact .inl (by omega)
  · exact .inl (by omega)
  · exact .inr ⟨by omega, .inl (by omega)⟩
  · exact .inr ⟨by omega, .inl (by omega)⟩
  · exact .inr ⟨by omega, .inl (by omega)⟩
  · exact .inl (by omega)
  · exact .inr ⟨by omega, .inl (by omega)⟩
  · exact .inr ⟨by omega, .inr ⟨by omega, .inl (by omega)⟩⟩
  · exact .inr ⟨by omega, .inr ⟨by omega, .inl (by omega)⟩⟩
  · exact .inl (by omega)
  · exact .inr ⟨by omega, .inl (by omega)⟩
  · exact .inr ⟨by omega, .inr ⟨by omega, .inl (by omega)⟩⟩
  · exact .inr ⟨by omega, .inr ⟨by omega, .inr ⟨by omega, lxl_tr d d2⟩⟩⟩
theorem ahd_asy {x y : Wy} (h : ahd x y = true) : ahd y x = false := by
  rw [← Bool.not_eq_true]
  intro h2
  have := ahd_tr h h2
  rw [ahd_irr] at this; cases this
theorem ahd_tot {x y : Wy} (h : x ≠ y) : ahd x y = true ∨ ahd y x = true := by
  rw [ahd_iff, ahd_iff]
  rcases Nat.lt_trichotomy x.2.1 y.2.1 with q1 | q1 | q1
  · exact .inl (.inl q1)
  · rcases Nat.lt_trichotomy x.2.2 y.2.2 with q2 | q2 | q2
    · exact .inl (.inr ⟨q1, .inl q2⟩)
    · rcases Nat.lt_trichotomy x.1.length y.1.length with q3 | q3 | q3
      · exact .inl (.inr ⟨q1, .inr ⟨q2, .inl q3⟩⟩)
      · rcases lxl_tot q3 (fun z => h (Prod.ext z (Prod.ext q1 q2))) with q4 | q4
        · exact .inl (.inr ⟨q1, .inr ⟨q2, .inr ⟨q3, q4⟩⟩⟩)
        · exact .inr (.inr ⟨q1.symm, .inr ⟨q2.symm, .inr ⟨q3.symm, q4⟩⟩⟩)
      · exact .inr (.inr ⟨q1.symm, .inr ⟨q2.symm, .inl q3⟩⟩)
    · exact .inr (.inr ⟨q1.symm, .inl q2⟩)
  · exact .inr (.inl q1)
theorem btr_iff (p q : Wy × Wy) : btr p q = true ↔ p.1.2.1 + p.2.2.1 < q.1.2.1 + q.2.2.1 ∨ (p.1.2.1 + p.2.2.1 = q.1.2.1 + q.2.2.1 ∧ (ahd p.1 q.1 = true ∨ (p.1 = q.1 ∧ ahd p.2 q.2 = true))) := by
  unfold btr
  by_cases h : p.1.2.1 + p.2.2.1 = q.1.2.1 + q.2.2.1
  · rw [if_pos h, Bool.or_eq_true, Bool.and_eq_true, beq_iff_eq]
    constructor
    · intro z; exact .inr ⟨h, z⟩
    · rintro (z | ⟨_, z⟩)
      · omega
      · exact z
  · rw [if_neg h, decide_eq_true_iff]
    constructor
    · intro z; exact .inl z
    · rintro (z | ⟨z, _⟩) <;> omega
theorem btr_tr {p q r : Wy × Wy} (h1 : btr p q = true) (h2 : btr q r = true) : btr p r = true := by
  rw [btr_iff] at *
  rcases h1 with a | ⟨a, b | ⟨b, c⟩⟩ <;> rcases h2 with a2 | ⟨a2, b2 | ⟨b2, c2⟩⟩
  · exact .inl (by omega)
  · exact .inl (by omega)
  · exact .inl (by omega)
  · exact .inl (by omega)
  · exact .inr ⟨by omega, .inl (ahd_tr b b2)⟩
  · exact .inr ⟨by omega, .inl (by rw [← b2]; exact b)⟩
  · exact .inl (by omega)
  · exact .inr ⟨by omega, .inl (by rw [b]; exact b2)⟩
  · exact .inr ⟨by omega, .inr ⟨b.trans b2, ahd_tr c c2⟩⟩
theorem btr_irr (p : Wy × Wy) : btr p p = false := by
  rw [← Bool.not_eq_true, btr_iff, ahd_irr, ahd_irr]
  rintro (h | ⟨_, h | ⟨_, h⟩⟩)
  · omega
  · cases h
  · cases h
theorem btr_tot {p q : Wy × Wy} (h : p ≠ q) : btr p q = true ∨ btr q p = true := by
  rw [btr_iff, btr_iff]
  rcases Nat.lt_trichotomy (p.1.2.1 + p.2.2.1) (q.1.2.1 + q.2.2.1) with z | z | z
  · exact .inl (.inl z)
  · by_cases q1 : p.1 = q.1
    · rcases ahd_tot (x := p.2) (y := q.2) (fun z2 => h (Prod.ext q1 z2)) with y | y
      · exact .inl (.inr ⟨z, .inr ⟨q1, y⟩⟩)
      · exact .inr (.inr ⟨z.symm, .inr ⟨q1.symm, y⟩⟩)
    · rcases ahd_tot q1 with y | y
      · exact .inl (.inr ⟨z, .inl y⟩)
      · exact .inr (.inr ⟨z.symm, .inl y⟩)
  · exact .inr (.inl z)
/-- the best of the pairs of a kind -/
def PB (C : Wy × Wy → Prop) (r : Option (Wy × Wy)) : Prop := (r = none → ∀ p, ¬ C p) ∧ (∀ p, r = some p → C p ∧ ∀ q, C q → btr q p = false)
theorem PB.un {C : Wy × Wy → Prop} {r s : Option (Wy × Wy)} (h1 : PB C r) (h2 : PB C s) : r = s := by
  rcases r with _ | p
  · rcases s with _ | q
    · rfl
    · exact absurd (h2.2 q rfl).1 (h1.1 rfl q)
  · rcases s with _ | q
    · exact absurd (h1.2 p rfl).1 (h2.1 rfl p)
    · by_cases z : p = q
      · rw [z]
      · have a1 := (h1.2 p rfl).2 q (h2.2 q rfl).1
        have a2 := (h2.2 q rfl).2 p (h1.2 p rfl).1
        rcases btr_tot z with y | y
        · rw [y] at a2; cases a2
        · rw [y] at a1; cases a1
theorem PB.step {C : Wy × Wy → Prop} {r : Option (Wy × Wy)} (h : PB C r) (p : Wy × Wy) : PB (fun q => C q ∨ q = p) (pp1 r p) := by
  rcases r with _ | b
  · refine ⟨fun z => (by cases z), ?_⟩
    intro q hq
    cases hq
    refine ⟨.inr rfl, ?_⟩
    rintro q (hq | rfl)
    · exact absurd hq (h.1 rfl q)
    · exact btr_irr _
  · obtain ⟨g1, g2⟩ := h.2 b rfl
    unfold pp1
    dsimp only
    by_cases z : btr p b = true
    · rw [if_pos z]
      refine ⟨fun z => (by cases z), ?_⟩
      intro q hq
      cases hq
      refine ⟨.inr rfl, ?_⟩
      rintro q (hq | rfl)
      · rw [← Bool.not_eq_true]
        intro y
        have := btr_tr y z
        rw [g2 q hq] at this; cases this
      · exact btr_irr _
    · rw [if_neg z]
      refine ⟨fun z => (by cases z), ?_⟩
      intro q hq
      cases hq
      refine ⟨.inl g1, ?_⟩
      rintro q (hq | rfl)
      · exact g2 q hq
      · simpa using z
theorem PB.congr {C D : Wy × Wy → Prop} {r : Option (Wy × Wy)} (h : PB C r) (e : ∀ p, C p ↔ D p) : PB D r := ⟨fun z p hp => h.1 z p ((e p).mpr hp), fun p hp => ⟨(e p).mp (h.2 p hp).1, fun q hq => (h.2 p hp).2 q ((e q).mpr hq)⟩⟩
theorem PB.fold (l : List (Wy × Wy)) : PB (fun p => p ∈ l) (l.foldl pp1 none) := by
  have : ∀ (l : List (Wy × Wy)) (C : Wy × Wy → Prop) (r : Option (Wy × Wy)), PB C r → PB (fun p => C p ∨ p ∈ l) (l.foldl pp1 r) := by
    intro l
    induction l with
    | nil => intro C r h; exact h.congr (fun p => by simp)
    | cons x l ih =>
      intro C r h
      rw [List.foldl_cons]
      refine (ih _ _ (h.step x)).congr (fun p => ?_)
      rw [List.mem_cons, or_assoc]
  exact (this l (fun _ => False) none ⟨fun _ _ z => z, fun p z => by cases z⟩).congr (fun p => by simp)
/-- the pairs of the ways kept -/
def CP (K : List Wy) (p : Wy × Wy) : Prop := p.1 ∈ K ∧ p.2 ∈ K ∧ dsj p.1 p.2 = true ∧ ahd p.1 p.2 = true
theorem mem_prs (K : List Wy) (p : Wy × Wy) : p ∈ prs K ↔ CP K p := by
  unfold prs CP
  rw [List.mem_flatMap]
  constructor
  · rintro ⟨x, hx, h⟩
    rw [List.mem_map] at h
    obtain ⟨y, hy, rfl⟩ := h
    rw [List.mem_filter, Bool.and_eq_true] at hy
    exact ⟨hx, hy.1, hy.2.1, hy.2.2⟩
  · rintro ⟨h1, h2, h3, h4⟩
    refine ⟨p.1, h1, ?_⟩
    rw [List.mem_map]
    exact ⟨p.2, by rw [List.mem_filter, Bool.and_eq_true]; exact ⟨h2, h3, h4⟩, rfl⟩
theorem fnd2_PB (a : Ab) (x y : Nat) : PB (CP (kpt a (usb a 60) (fun _ => false) x y)) (fnd2 a x y) := (PB.fold _).congr (mem_prs _)
