/-! THE PURE LAYER: the ways of a protected light share no fibre; what a call's answer is never -/
/-- the two ways of a protected light share no fibre -/
def WD (a : Ab) : Prop := ∀ l, l < nL a → ∀ w v, wy a l = [w, v] → dsj w v = true
theorem WD.to {a b : Ab} (h : WD a) (hb : ∀ l, l < nL b → (l < nL a ∧ wy b l = wy a l) ∨ (∀ w v, wy b l = [w, v] → dsj w v = true)) : WD b := by
  intro l hl w v hq
  rcases hb l hl with ⟨h1, h2⟩ | h1
  · rw [h2] at hq; exact h l h1 w v hq
  · exact h1 w v hq
/-- a result: -99999 only where nothing has changed -/
def Gd (a : Ab) (r : Int32) (b : Ab) : Prop := (r = -99999 → b = a) ∧ WF b ∧ WD b ∧ nF a ≤ nF b
def tl (a : Ab) (q : Except Nat (Int32 × Ab)) : Int32 × Ab := match q with
  | .ok p => p
  | .error _ => (-99999, a)
theorem nI_m9 {k : Nat} (hk : k < 2 ^ 31) : nI k ≠ -99999 := by
  intro h
  have h1 := congrArg Int32.toInt h
  rw [nI_toInt hk] at h1
  have : (-99999 : Int32).toInt = -99999 := by decide
  rw [this] at h1
  omega
theorem nI_d9 : ∀ x, x < 61 → ∀ y, y < 61 → nI x - nI y ≠ -99999 := by decide +kernel
theorem gd_tl {a : Ab} (ha : WF a) (hd : WD a) {q : Except Nat (Int32 × Ab)} (hq : ∀ v b, q = .ok (v, b) → v ≠ -99999 ∧ WF b ∧ WD b ∧ nF a ≤ nF b) : Gd a (tl a q).1 (tl a q).2 := by
  rcases h : q with c | ⟨v, b⟩
  · exact ⟨fun _ => rfl, ha, hd, Nat.le_refl _⟩
  · obtain ⟨h1, h2, h3, h4⟩ := hq v b h
    exact ⟨fun z => absurd z h1, h2, h3, h4⟩
theorem tl_same {a : Ab} {q : Except Nat (Int32 × Ab)} (hq : ∀ v b, q = .ok (v, b) → b = a) : (tl a q).2 = a := by
  rcases h : q with c | ⟨v, b⟩
  · rfl
  · exact hq v b h
theorem gd_addFibre {a : Ab} (ha : WF a) (hd : WD a) (x y z : Int32) : Gd a (tl a (q_addFibre a x y z)).1 (tl a (q_addFibre a x y z)).2 := by
  refine gd_tl ha hd (fun v b hq => ?_)
  have hw := wf_addFibre ha hq
  unfold q_addFibre at hq
  split at hq
  · split at hq
    · cases hq
    · cases hq
      have := ha.2.2.1
      exact ⟨nI_m9 (by omega), hw, hd.to (fun l hl => .inl ⟨hl, rfl⟩), by rw [xF_nF]; omega⟩
  · cases hq
theorem ups_le {a : Ab} (ha : WF a) : ups a < 61 := by
  have h1 : ups a ≤ nL a := cnt_le _ _
  have := ha.n60
  omega
theorem gd_cut {a : Ab} (ha : WF a) (hd : WD a) (x : Int32) : Gd a (tl a (q_cut a x)).1 (tl a (q_cut a x)).2 := by
  refine gd_tl ha hd (fun v b hq => ?_)
  have hw := wf_cut ha hq
  unfold q_cut at hq
  split at hq
  · split at hq
    · cases hq
    · cases hq
      exact ⟨nI_d9 _ (ups_le ha) _ (ups_le hw), hw, hd.to (fun l hl => .inl ⟨hl, rfl⟩), Nat.le_refl _⟩
  · cases hq
theorem gd_repair {a : Ab} (ha : WF a) (hd : WD a) (x : Int32) : Gd a (tl a (q_repair a x)).1 (tl a (q_repair a x)).2 := by
  refine gd_tl ha hd (fun v b hq => ?_)
  have hw := wf_repair ha hq
  unfold q_repair at hq
  split at hq
  · split at hq
    · cases hq
      exact ⟨nI_d9 _ (ups_le hw) _ (ups_le ha), hw, hd.to (fun l hl => .inl ⟨hl, rfl⟩), Nat.le_refl _⟩
    · cases hq
  · cases hq
theorem fnd_dsj {a : Ab} (h : WF a) {x t rule : Nat} (hx : x < nD a) {w v : Wy} (hq : fnd a x t rule = [w, v]) : dsj w v = true := by
  unfold fnd at hq
  split at hq
  · rcases hz : fnd0 a 60 x t with _ | z <;> rw [hz] at hq <;> cases hq
  · split at hq
    · rcases hz : fnd1 a x t (nW a) 0 with _ | z <;> rw [hz] at hq <;> cases hq
    · rcases hf : fnd2 a x t with _ | p
      · rw [hf] at hq; simp at hq
      · rw [hf] at hq
        dsimp only at hq
        obtain ⟨_, _, h3⟩ := fnd2_FW h hx hf
        simp only [List.cons.injEq, and_true] at hq
        rw [← hq.1, ← hq.2]; exact h3
theorem gd_request {a : Ab} (ha : WF a) (hd : WD a) (x y d r : Int32) : Gd a (tl a (q_request a x y d r)).1 (tl a (q_request a x y d r)).2 := by
  refine gd_tl ha hd (fun v b hq => ?_)
  have hw := wf_request ha hq
  have h60 := ha.2.2.2.2.1
  unfold q_request at hq
  split at hq
  · rename_i c
    rw [Bool.and_eq_true] at c
    obtain ⟨i, j, hi, hj, hij, rfl, rfl⟩ := two_t ha.1.2 c.1
    have h8 := ha.1.2
    split at hq
    · cases hq
    · split at hq
      · cases hq
        exact ⟨nI_m9 (by omega), hw, hd.to (fun l hl => .inl ⟨hl, rfl⟩), Nat.le_refl _⟩
      · split at hq
        · cases hq
          refine ⟨nI_m9 (by omega), hw, hd.to (fun l hl => ?_), Nat.le_refl _⟩
          rw [xR_nL, xL_nL] at hl
          rw [xR_wy, xL_wy]
          by_cases q : l = nL a
          · right
            intro w v hwv
            rw [q, put_s] at hwv
            exact fnd_dsj ha (by rw [tN_nI (by omega)]; exact hi) hwv
          · left
            exact ⟨by omega, put_n _ _ q⟩
        · cases hq
  · cases hq
theorem gd_release {a : Ab} (ha : WF a) (hd : WD a) (x : Int32) : Gd a (tl a (q_release a x)).1 (tl a (q_release a x)).2 := by
  refine gd_tl ha hd (fun v b hq => ?_)
  have hw := wf_release ha hq
  have h60 := ha.2.2.2.2.1
  unfold q_release at hq
  split at hq
  · rename_i c
    obtain ⟨r, hr, rfl⟩ := isn_t (by omega) c
    rw [tN_nI (by omega)] at hq
    split at hq
    · cases hq
    · cases hq
      have hu : units (xZ a r) (ca a r) ≤ 10 := by
        have h1 := units_xZ hr (ca a r)
        have h2 := (ha.lig _ (ha.req r hr).1).2.2.2.1
        omega
      refine ⟨nI_m9 (by omega), hw, ?_, ?_⟩
      · unfold rls
        split
        · refine hd.to (fun l hl => ?_)
          rw [xW_wy]
          by_cases q : l = ca a r
          · right; intro w v hwv; rw [q, put_s] at hwv; cases hwv
          · left; exact ⟨hl, by rw [put_n _ _ q]; rfl⟩
        · exact hd.to (fun l hl => .inl ⟨hl, rfl⟩)
      · unfold rls; split <;> exact Nat.le_refl _
  · cases hq
theorem gd_reroute {a : Ab} (ha : WF a) (hd : WD a) (x : Int32) : Gd a (tl a (q_reroute a x)).1 (tl a (q_reroute a x)).2 := by
  refine gd_tl ha hd (fun v b hq => ?_)
  have hw := wf_reroute ha hq
  unfold q_reroute at hq
  split at hq
  · rename_i c
    have hn := ha.n60
    obtain ⟨l, hl, rfl⟩ := isn_t (by omega) c
    rw [tN_nI (by omega)] at hq
    split at hq
    · cases hq
    · rename_i w hrr
      cases hq
      have h7 : w.2.1 ≤ 7000 := by
        have := ((hw.lig l hl).2.2.2.2.2.2 w (by rw [xW_wy, put_s]; exact List.mem_singleton.mpr rfl))
        exact this.2.2.2.2.2
      refine ⟨nI_m9 (by omega), hw, hd.to (fun k hk => ?_), Nat.le_refl _⟩
      rw [xW_wy]
      by_cases q : k = l
      · right; intro w1 v1 hwv; rw [q, put_s] at hwv; simp at hwv
      · left; exact ⟨hk, put_n _ _ q⟩
  · cases hq
theorem gd_merge {a : Ab} (ha : WF a) (hd : WD a) : Gd a (tl a (q_merge a)).1 (tl a (q_merge a)).2 := by
  refine gd_tl ha hd (fun v b hq => ?_)
  have hw := wf_merge ha hq
  have hn := ha.n60
  unfold q_merge at hq
  split at hq
  · cases hq
    have h1 : m1 a (m0 a) ≤ nL a := low_le _ _
    refine ⟨nI_m9 (by omega), hw, hd.to (fun k hk => ?_), Nat.le_refl _⟩
    rw [xM_wy]
    by_cases q : k = m1 a (m0 a)
    · right; intro w1 v1 hwv; rw [q, put_s] at hwv; cases hwv
    · left; exact ⟨hk, put_n _ _ q⟩
  · cases hq
theorem fbs_mvd {w : Wy} {x : Nat} (hx : x < 10) : fbs (mvd x w) = fbs w := by
  unfold fbs
  refine mk_ext (fun f _ => ?_)
  show (List.map (fun c => c / 10 * 10 + x) w.1).any (fun c => c / 10 == f) = w.1.any (fun c => c / 10 == f)
  rw [List.any_map]
  congr 1
  funext c
  show ((c / 10 * 10 + x) / 10 == f) = (c / 10 == f)
  rw [show (c / 10 * 10 + x) / 10 = c / 10 by omega]
theorem gd_move {a : Ab} (ha : WF a) (hd : WD a) : Gd a (tl a (q_move a)).1 (tl a (q_move a)).2 := by
  refine gd_tl ha hd (fun v b hq => ?_)
  have hw := wf_move ha hq
  have hn := ha.n60
  unfold q_move at hq
  split at hq
  · rename_i c
    cases hq
    have e : nF a ≤ nF (mvw a (mv0 a) (mv1 a (mv0 a))) := by unfold mvw; split <;> exact Nat.le_refl _
    refine ⟨nI_m9 (by omega), hw, ?_, e⟩
    unfold mvw
    split
    · exact hd
    · rename_i w hwy
      refine hd.to (fun k hk => ?_)
      rw [xW_wy]
      by_cases q : k = mv0 a
      · right
        intro w1 v1 hwv
        rw [q, put_s] at hwv
        have hx : lwf a w < 10 := Nat.lt_of_le_of_lt (low_le 8 _) (by omega)
        have h0 := hd (mv0 a) c
        generalize wy a (mv0 a) = ws at *
        generalize mv1 a (mv0 a) = i at *
        match ws, i, hwy, hwv with
        | [], i, hwy, hwv => simp at hwy
        | [p], i, hwy, hwv => have := congrArg List.length hwv; simp at this
        | [p, p2], 0, hwy, hwv =>
          simp only [List.getElem?_cons_zero, Option.some.injEq] at hwy
          simp only [List.set_cons_zero, List.cons.injEq, and_true] at hwv
          have := h0 p p2 rfl
          unfold dsj at this ⊢
          rw [← hwv.1, ← hwv.2, fbs_mvd hx, ← hwy]; exact this
        | [p, p2], 1, hwy, hwv =>
          simp only [List.getElem?_cons_succ, List.getElem?_cons_zero, Option.some.injEq] at hwy
          simp only [List.set_cons_succ, List.set_cons_zero, List.cons.injEq, and_true] at hwv
          have := h0 p p2 rfl
          unfold dsj at this ⊢
          rw [← hwv.1, ← hwv.2, fbs_mvd hx, ← hwy]; exact this
        | [p, p2], i + 2, hwy, hwv => simp at hwy
        | p :: p2 :: p3 :: r, i, hwy, hwv => have := congrArg List.length hwv; simp at this
      · left; exact ⟨hk, put_n _ _ q⟩
  · cases hq
/-- a call that answers a truth value -/
def tlb (a : Ab) (q : Except Nat (Bool × Ab)) : Int32 × Ab := match q with
  | .ok p => (if p.1 = true then 1 else 0, p.2)
  | .error _ => (-99999, a)
theorem gd_toggle {a : Ab} (ha : WF a) (hd : WD a) (x : Int32) : Gd a (tlb a (q_toggle a x)).1 (tlb a (q_toggle a x)).2 := by
  rcases h : q_toggle a x with c | ⟨v, b⟩
  · exact ⟨fun _ => rfl, ha, hd, Nat.le_refl _⟩
  · have hw := wf_toggle ha h
    unfold q_toggle at h
    split at h
    · cases h
      refine ⟨fun z => ?_, hw, hd.to (fun l hl => .inl ⟨hl, rfl⟩), Nat.le_refl _⟩
      unfold tlb at z
      dsimp only at z
      split at z <;> exact absurd z (by decide)
    · cases h
