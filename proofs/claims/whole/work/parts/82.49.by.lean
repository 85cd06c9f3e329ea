/-! THE PURE LAYER: the reference finds by a rule, and looks for room -/
def BwM (S : St) (ws : List Wy) : Prop := (∀ w r, ws = w :: r → RepM S 384 0 w ∧ SW w) ∧ (∀ w v r, ws = w :: v :: r → RepM S 385 0 v ∧ SW v)
theorem m_findsBy {S : St} {a : Ab} (h : WF a) (hI : InvM S a) {x t rule : Nat} (hx : x < nD a) (ht : t < nD a) (hr : rule ≤ 2) (P : Bool → St → Prop)
    (hP : ∀ S', agr (fun q => ¬ (380 ≤ q ∧ q ≤ 386)) S S' → BwM S' (fnd a x t rule) → P (!(fnd a x t rule).isEmpty) S') : wp_X6_findsBy S (nI x) (nI t) (nI rule) P := by
  have hw8 := h.2.1.2
  unfold wp_X6_findsBy
  by_cases q0 : rule = 0
  · subst q0
    rw [if_pos (show nI 0 = 0 from rfl)]
    have hk : kpt a (fun f => usb a 60 f &&& 255) (cv a) x t = kpt a (usb a 60) (cv a) x t := by
      congr 1
      funext f
      have h2 : usb a 60 f < 2 ^ 8 := Nat.lt_of_lt_of_le (usb_lt a 60 f) (Nat.pow_le_pow_right (by omega) hw8)
      rw [show (255 : Nat) = 2 ^ 8 - 1 from rfl, Nat.and_two_pow_sub_one_eq_mod, Nat.mod_eq_of_lt h2]
    refine m_finds (own := 60) (st := 255) h hI hx ht (.inl ⟨rfl, rfl⟩) (by omega) _ ?_
    intro S' hag hB
    rw [hk] at hB ⊢
    have hf : fnd a x t 0 = (pick (kpt a (usb a 60) (cv a) x t)).toList := rfl
    rw [hf] at hP
    have := hP S' (hag.mo (fun q hq => by omega)) ⟨fun w r hw => ?_, fun w v r hw => ?_⟩
    · rcases hp : pick (kpt a (usb a 60) (cv a) x t) with _ | w
      · rw [hp] at this; exact this
      · rw [hp] at this; exact this
    · rcases hp : pick (kpt a (usb a 60) (cv a) x t) with _ | w2
      · rw [hp] at hw; cases hw
      · rw [hp] at hw
        have := hB.2 w2 hp
        simp at hw
        rw [← hw.1]; exact ⟨this.1, this.2.1⟩
    · rcases hp : pick (kpt a (usb a 60) (cv a) x t) with _ | w2
      · rw [hp] at hw; cases hw
      · rw [hp] at hw; simp at hw
  · rw [if_neg (by rw [n_eq0 (by omega)]; exact q0)]
    by_cases q1 : rule = 1
    · subst q1
      rw [if_pos (show nI 1 = 1 from rfl)]
      refine m_findsOne h hI hx ht _ ?_
      intro S' hag hB
      have hf : fnd a x t 1 = (fnd1 a x t (nW a) 0).toList := rfl
      rw [hf] at hP
      have := hP S' (hag.mo (fun q hq => by omega)) ⟨fun w r hw => ?_, fun w v r hw => ?_⟩
      · rcases hp : fnd1 a x t (nW a) 0 with _ | w
        · rw [hp] at this; exact this
        · rw [hp] at this; exact this
      · rcases hp : fnd1 a x t (nW a) 0 with _ | w2
        · rw [hp] at hw; cases hw
        · rw [hp] at hw
          have := hB.2 w2 hp
          simp at hw
          rw [← hw.1]; exact ⟨this.1, this.2.1⟩
      · rcases hp : fnd1 a x t (nW a) 0 with _ | w2
        · rw [hp] at hw; cases hw
        · rw [hp] at hw; simp at hw
    · have q2 : rule = 2 := by omega
      subst q2
      rw [if_neg (by decide)]
      refine m_findsPair h hI hx ht _ ?_
      intro S' hag hB
      have hf : fnd a x t 2 = (match fnd2 a x t with | none => [] | some p => [p.1, p.2]) := rfl
      rw [hf] at hP
      rcases hp : fnd2 a x t with _ | p
      · rw [hp] at hP
        exact hP S' hag ⟨fun w r hw => (by cases hw), fun w v r hw => (by cases hw)⟩
      · rw [hp] at hP
        obtain ⟨b1, b2, _, b4, b5, _⟩ := hB.2 p hp
        refine hP S' hag ⟨fun w r hw => ?_, fun w v r hw => ?_⟩
        · simp at hw; rw [← hw.1]; exact ⟨b1, b2⟩
        · simp at hw; rw [← hw.2.1]; exact ⟨b4, b5⟩
/-- whether a light has room -/
def rmy (a : Ab) (x y d rule l : Nat) : Bool := lup a l && jns a l x y && ((wy a l).length == (if rule = 2 then 2 else 1)) && decide (units a l + d ≤ 10)
def rmf (a : Ab) (x y d rule : Nat) : Option Nat := (List.range (nL a)).find? (rmy a x y d rule)
theorem find_low {n : Nat} {p : Nat → Bool} : (List.range n).find? p = if low n p < n then some (low n p) else none := by
  by_cases h : low n p < n
  · rw [if_pos h]
    rcases hq : (List.range n).find? p with _ | l
    · rw [List.find?_eq_none] at hq
      exact absurd (low_is h) (hq _ (List.mem_range.mpr h))
    · congr 1
      obtain ⟨h1, as, bs, h2, h3⟩ := List.find?_eq_some_iff_append.mp hq
      symm
      have hl : l < n := by
        have := List.mem_of_find?_eq_some hq
        exact List.mem_range.mp this
      refine low_uniq hl h1 ?_
      intro y hy
      have hlen : as.length = l := by
        have e : (as ++ l :: bs)[as.length]? = some l := by simp
        rw [← h2, List.getElem?_range (by
          have := congrArg List.length h2
          simp at this; omega)] at e
        exact Option.some.inj e
      have hy2 : y ∈ as := by
        have e : (as ++ l :: bs)[y]? = some y := by rw [← h2, List.getElem?_range (by omega)]
        rw [List.getElem?_append_left (by omega)] at e
        exact List.mem_of_getElem? e
      have := h3 y hy2
      simpa using this
  · rw [if_neg h, List.find?_eq_none]
    intro x hx
    have := low_le n p
    rw [low_not (n := n) (p := p) (by have := List.mem_range.mp hx; omega)]; simp
theorem m_roomFor {S : St} {a : Ab} (h : WF a) (hI : InvM S a) {x y d rule : Nat} (hx : x < nD a) (hy : y < nD a) (hd : d ≤ 10) (hr : rule ≤ 2) (P : Int32 → St → Prop) (hP : P (uN (rmf a x y d rule)) S) : wp_X6_roomFor S (nI x) (nI y) (nI d) (nI rule) P := by
  have hn60 : nL a ≤ 60 := by have := h.2.2.2.1; have := h.2.2.2.2.1; omega
  have h8 := h.1.2
  have hR60 := h.2.2.2.2.1
  have hca : ∀ r, r < nR a → ca a r < 60 := fun r hr => by have := (h.2.2.2.2.2.2.2.2.1 r hr).1; omega
  unfold rmf at hP
  rw [find_low] at hP
  have hle := low_le (nL a) (rmy a x y d rule)
  generalize hm : low (nL a) (rmy a x y d rule) = m at *
  have key : ∀ (N i : Nat), i ≤ m → nL a < N + i → wp_X6_roomFor_3 (nI x) (nI y) (nI d) (nI rule) P N S (nI i) := by
    intro N
    induction N with
    | zero => intro i h1 h2; omega
    | succ N ih =>
      intro i h1 h2
      rw [wp_X6_roomFor_3]
      dsimp only
      rw [hI.1.2.2.2.2]
      by_cases q : i = nL a
      · rw [if_pos (by simp (disch := omega) only [n_0, n_1, n_2, n_3, n_7, n_8, n_9, n_10, n_12, n_14, n_18, n_20, n_60, n_112, n_162, n_255, n_1000, nI_add, n_mul, nI_ltI, nI_leI, nI_eq, nI_clamp]; omega)]
        rw [if_neg (by omega)] at hP; exact hP
      · have hi : i < nL a := by omega
        rw [if_neg (by simp (disch := omega) only [n_0, n_1, n_2, n_3, n_7, n_8, n_9, n_10, n_12, n_14, n_18, n_20, n_60, n_112, n_162, n_255, n_1000, nI_add, n_mul, nI_ltI, nI_leI, nI_eq, nI_clamp]; omega)]
        have no : rmy a x y d rule i = false → wp_X6_roomFor_69 (nI x) (nI y) (nI d) (nI rule) P (fun S a5 => wp_X6_roomFor_3 (nI x) (nI y) (nI d) (nI rule) P N S a5) S (nI i) := by
          intro hz
          unfold wp_X6_roomFor_69
          rintro _ rfl
          rw [nI_1]
          refine ih (i + 1) ?_ (by omega)
          by_cases z : i = m
          · have := low_is (n := nL a) (p := rmy a x y d rule) (by omega)
            rw [hm, ← z, hz] at this; cases this
          · omega
        refine m_isUp h hI hi _ ?_
        rcases hu : lup a i with _ | _
        · rw [if_neg (by simp)]
          exact no (by unfold rmy; rw [hu]; rfl)
        · rw [if_pos rfl]
          refine m_same h hI hi (by omega) (by omega) _ ?_
          rcases hj : jns a i x y with _ | _
          · rw [if_neg (by simp)]
            exact no (by unfold rmy; rw [hu, hj]; rfl)
          · rw [if_pos rfl]
            have hw2 := (h.ways hi).1
            obtain ⟨_, _, _, hu10, _⟩ := h.lt hi
            have h50 : wp_X6_roomFor_50 (nI x) (nI y) (nI d) (nI rule) P (fun S a5 => wp_X6_roomFor_3 (nI x) (nI y) (nI d) (nI rule) P N S a5) S (nI i) (nI (wy a i).length) (nI (if rule = 2 then 2 else 1)) := by
              unfold wp_X6_roomFor_50
              have hr3 : (if rule = 2 then 2 else 1) ≤ 2 := by split <;> omega
              generalize hk : (if rule = 2 then 2 else 1) = k at *
              by_cases z : (wy a i).length = k
              · rw [if_pos (by rw [z])]
                refine m_carried hR60 hI (by omega) hca _ ?_
                rw [nI_add]
                by_cases z2 : units a i + d ≤ 10
                · rw [if_neg (by simp (disch := omega) only [n_0, n_1, n_2, n_3, n_7, n_8, n_9, n_10, n_12, n_14, n_18, n_20, n_60, n_112, n_162, n_255, n_1000, nI_add, n_mul, nI_ltI, nI_leI, nI_eq, nI_clamp]; omega)]
                  have hyes : rmy a x y d rule i = true := by unfold rmy; rw [hu, hj, hk, z, decide_eq_true z2]; simp
                  have him : i = m := by
                    rcases Nat.lt_or_ge i m with y | y
                    · rw [← hm] at y
                      have := low_not y
                      rw [hyes] at this; cases this
                    · omega
                  rw [if_pos (by omega), ← him] at hP
                  exact hP
                · rw [if_pos (by simp (disch := omega) only [n_0, n_1, n_2, n_3, n_7, n_8, n_9, n_10, n_12, n_14, n_18, n_20, n_60, n_112, n_162, n_255, n_1000, nI_add, n_mul, nI_ltI, nI_leI, nI_eq, nI_clamp]; omega)]
                  exact no (by unfold rmy; rw [decide_eq_false z2]; simp)
              · rw [if_neg (by rw [nI_eq (by omega) (by omega)]; exact z)]
                exact no (by unfold rmy; rw [hk]; simp [z])
            rw [nI_clamp (by omega), (hI.2.2.2.2.2 i hi).2.2.1]
            refine ⟨vp_in_nI (by omega) (by omega), ?_⟩
            by_cases z : rule = 2
            · rw [if_pos (by rw [z]; rfl)]
              rw [if_pos z] at h50; exact h50
            · rw [if_neg (by rw [n_2, nI_eq (by omega) (by omega)]; exact z)]
              rw [if_neg z] at h50; exact h50
  obtain ⟨N, hN⟩ : ∃ N, nL a < N := ⟨_, Nat.lt_succ_self _⟩
  exact ⟨N, key N 0 (by omega) (by omega)⟩
