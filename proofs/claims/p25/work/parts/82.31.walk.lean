/-! THE PURE LAYER: the class's walk -/
theorem trl_succ (a : Ab) (bar : Nat → Bool) (t n v met : Nat) : trl a bar t (n + 1) v met = (List.range (nF a)).flatMap (exn a bar t (trl a bar t n) v met) := rfl
theorem acr_lt {a : Ab} {v f u : Nat} (h : ∀ f, f < nF a → e1 a f < nD a ∧ e2 a f < nD a ∧ e1 a f ≠ e2 a f ∧ 1 ≤ el a f ∧ el a f ≤ 1000) (hf : f < nF a) (hq : acr a v f = some u) : u < nD a ∧ ((e1 a f = v ∧ e2 a f = u) ∨ (e2 a f = v ∧ e1 a f = u)) := by
  have := h f hf
  unfold acr at hq
  by_cases q1 : e1 a f = v
  · rw [if_pos q1] at hq
    have hq := Option.some.inj hq
    exact ⟨by omega, .inl ⟨q1, hq⟩⟩
  · rw [if_neg q1] at hq
    by_cases q2 : e2 a f = v
    · rw [if_pos q2] at hq
      have hq := Option.some.inj hq
      exact ⟨by omega, .inr ⟨q2, hq⟩⟩
    · rw [if_neg q2] at hq; cases hq
theorem trl_mem {a : Ab} (h : ∀ f, f < nF a → e1 a f < nD a ∧ e2 a f < nD a ∧ e1 a f ≠ e2 a f ∧ 1 ≤ el a f ∧ el a f ≤ 1000) (bar : Nat → Bool) (t : Nat) : ∀ (n v met : Nat) (p : List (Nat × Nat)), met.testBit v = true → p ∈ trl a bar t n v met →
    p ≠ [] ∧ (∀ q ∈ p, q.1 < nF a ∧ bar q.1 = false) ∧ p.length ≤ n ∧ (p.map (·.1)).Nodup ∧ (∀ q ∈ p, (e1 a q.1 = v ∨ met.testBit (e1 a q.1) = false) ∧ (e2 a q.1 = v ∨ met.testBit (e2 a q.1) = false)) := by
  intro n
  induction n with
  | zero => intro v met p _ hp; cases hp
  | succ n ih =>
    intro v met p hv hp
    rw [trl_succ, List.mem_flatMap] at hp
    obtain ⟨f, hf, hp⟩ := hp
    have hf := List.mem_range.mp hf
    rcases hq : acr a v f with _ | u
    · rw [exn_none hq] at hp; cases hp
    · by_cases hb : bar f = true
      · rw [exn_bar hb] at hp; cases hp
      · have hb : bar f = false := by simpa using hb
        by_cases hm : met.testBit u = true
        · rw [exn_met hq hm] at hp; cases hp
        · have hm : met.testBit u = false := by simpa using hm
          rw [exn_go hq hb hm] at hp
          obtain ⟨_, hends⟩ := acr_lt h hf hq
          have hfe : (e1 a f = v ∨ met.testBit (e1 a f) = false) ∧ (e2 a f = v ∨ met.testBit (e2 a f) = false) := by
            rcases hends with ⟨z1, z2⟩ | ⟨z1, z2⟩
            · exact ⟨.inl z1, .inr (by rw [z2]; exact hm)⟩
            · exact ⟨.inr (by rw [z2]; exact hm), .inl z1⟩
          by_cases ht : u = t
          · rw [if_pos ht, List.mem_singleton] at hp
            subst hp
            refine ⟨by simp, ?_, by simp, by simp, ?_⟩
            · intro q hq2; rw [List.mem_singleton] at hq2; subst hq2; exact ⟨hf, hb⟩
            · intro q hq2; rw [List.mem_singleton] at hq2; subst hq2; exact hfe
          · rw [if_neg ht, List.mem_map] at hp
            obtain ⟨p', hp', rfl⟩ := hp
            obtain ⟨i1, i2, i3, i4, i5⟩ := ih u (met ||| 2 ^ u) p' (by rw [Nat.testBit_or, Nat.testBit_two_pow]; simp) hp'
            have huv : u ≠ v := by rintro rfl; rw [hv] at hm; cases hm
            have hno : ∀ q ∈ p', e1 a q.1 ≠ v ∧ e2 a q.1 ≠ v := by
              intro q hq2
              obtain ⟨z1, z2⟩ := i5 q hq2
              constructor
              · intro z
                rw [z] at z1
                rcases z1 with z1 | z1
                · exact huv z1.symm
                · rw [Nat.testBit_or, hv] at z1; simp at z1
              · intro z
                rw [z] at z2
                rcases z2 with z2 | z2
                · exact huv z2.symm
                · rw [Nat.testBit_or, hv] at z2; simp at z2
            refine ⟨by simp, ?_, by simp only [List.length_cons]; omega, ?_, ?_⟩
            · intro q hq2
              rcases List.mem_cons.mp hq2 with rfl | hq2
              · exact ⟨hf, hb⟩
              · exact i2 q hq2
            · rw [List.map_cons, List.nodup_cons]
              refine ⟨?_, i4⟩
              rw [List.mem_map]
              rintro ⟨q, hq2, hq3⟩
              have := hno q hq2
              rw [hq3] at this
              rcases hends with ⟨z1, _⟩ | ⟨z1, _⟩
              · exact this.1 z1
              · exact this.2 z1
            · intro q hq2
              rcases List.mem_cons.mp hq2 with rfl | hq2
              · exact hfe
              · obtain ⟨z1, z2⟩ := i5 q hq2
                refine ⟨?_, ?_⟩
                · right
                  rcases z1 with z1 | z1
                  · rw [z1]; exact hm
                  · rw [Nat.testBit_or, Bool.or_eq_false_iff] at z1; exact z1.1
                · right
                  rcases z2 with z2 | z2
                  · rw [z2]; exact hm
                  · rw [Nat.testBit_or, Bool.or_eq_false_iff] at z2; exact z2.1
theorem k_across {S : St} {a : Ab} (h : WF a) (hS : InvC S a) {v f : Nat} (hv : v < 8) (hf : f < 14) (P : Int32 → St → Prop) (h1 : ∀ u, f < nF a → acr a v f = some u → P (nI u) S) (h0 : (f < nF a → acr a v f = none) → P (-1) S) : wp_X2_acrossFrom S (nI v) (nI f) P := by
  unfold wp_X2_acrossFrom
  refine k_hasFibre hS (by omega) h.2.2.1 _ ?_
  by_cases q : f < nF a
  · rw [decide_eq_true q, if_pos rfl]
    have hvi : vp_in (nI f) 14 := vp_in_nI (by omega) (by omega)
    obtain ⟨b1, b2, _⟩ := hS.2.1 f q
    have he := h.2.2.2.2.2.1 f q
    have h8 := h.1.2
    refine ⟨hvi, ?_⟩
    rw [nI_clamp (by omega), b1, b2]
    by_cases q1 : e1 a f = v
    · rw [if_pos (by rw [q1])]
      exact ⟨hvi, h1 _ q (by unfold acr; rw [if_pos q1])⟩
    · rw [if_neg (by rw [nI_eq (by omega) (by omega)]; exact q1)]
      refine ⟨hvi, ?_⟩
      by_cases q2 : e2 a f = v
      · rw [if_pos (by rw [q2])]
        exact ⟨hvi, h1 _ q (by unfold acr; rw [if_neg q1, if_pos q2])⟩
      · rw [if_neg (by rw [nI_eq (by omega) (by omega)]; exact q2)]
        exact h0 (fun _ => by unfold acr; rw [if_neg q1, if_neg q2])
  · rw [decide_eq_false q, if_neg (by simp)]
    exact h0 (fun z => absurd z q)
theorem k_lengthOf {S : St} {a : Ab} (h : WF a) (hS : InvC S a) {f : Nat} (hf : f < nF a) (P : Int32 → St → Prop) (hP : P (nI (el a f)) S) : wp_X2_lengthOf S (nI f) P := by
  unfold wp_X2_lengthOf
  have h14 := h.2.2.1
  refine k_hasFibre hS (by omega) h14 _ ?_
  rw [decide_eq_true hf, if_pos rfl]
  refine ⟨vp_in_nI (by omega) (by omega), ?_⟩
  rw [nI_clamp (by omega), (hS.2.1 f hf).2.2]
  exact hP
theorem lenOf_snoc (a : Ab) (p : List (Nat × Nat)) (q : Nat × Nat) : lenOf a (p ++ [q]) = lenOf a p + el a q.1 := by
  unfold lenOf; rw [List.map_append, List.foldl_append]; rfl
theorem rok_snoc {u : Nat → Nat} {c : Nat → Bool} (q : Nat × Nat) : ∀ (p r : List (Nat × Nat)) (R : Nat), rok u c R (p ++ q :: r) → rst u c (p.foldl (rst u c) R) q ≠ 0 := by
  intro p
  induction p with
  | nil => intro r R h; exact h.1
  | cons x p ih => intro r R h; exact ih r _ h.2
theorem rok_add {u : Nat → Nat} {c : Nat → Bool} (q : Nat × Nat) : ∀ (p : List (Nat × Nat)) (R : Nat), rok u c R p → rst u c (p.foldl (rst u c) R) q ≠ 0 → rok u c R (p ++ [q]) := by
  intro p
  induction p with
  | nil => intro R _ h; exact ⟨h, trivial⟩
  | cons x p ih => intro R h1 h2; exact ⟨h1.1, ih _ h1.2 h2⟩
section WALK
variable {u : Nat → Nat} {c : Nat → Bool}
/-- the finder's aim -/
def AimC (S : St) (u : Nat → Nat) (c : Nat → Bool) (t : Nat) : Prop := gI S 5 4 = nI t ∧ (∃ cm : Nat, cm < 2 ^ 8 ∧ gI S 5 6 = nI cm ∧ ∀ v, v < 8 → cm.testBit v = c v) ∧ (∀ f, f < 14 → gI S 6 f &&& gI S 5 5 = nI (u f))
/-- cells that a walk leaves alone -/
def WC2 (q : Nat) : Prop := q ≠ 5 ∧ q ≠ 7 ∧ q ≠ 8 ∧ q ≠ 9 ∧ ¬ (11 ≤ q ∧ q ≤ 17) ∧ ¬ (19 ≤ q ∧ q ≤ 180)
/-- what a walk leaves -/
def WKp (S S' : St) : Prop := agr WC2 S S' ∧ (∀ j, j ≠ 12 → gI S' 5 j = gI S 5 j) ∧ (∀ j, gR S' 5 j = gR S 5 j)
theorem WKp.rf (S : St) : WKp S S := ⟨agr.rf _ _, fun _ _ => rfl, fun _ => rfl⟩
theorem WKp.tr {S T U : St} (h : WKp S T) (h2 : WKp T U) : WKp S U := ⟨h.1.tr h2.1, fun j hj => (h2.2.1 j hj).trans (h.2.1 j hj), fun j => (h2.2.2 j).trans (h.2.2 j)⟩
theorem AimC.kp {S S' : St} {t : Nat} (h : AimC S u c t) (k : WKp S S') : AimC S' u c t := by
  obtain ⟨h1, ⟨cm, h2, h3, h4⟩, h5⟩ := h
  refine ⟨by rw [k.2.1 4 (by omega)]; exact h1, ⟨cm, h2, by rw [k.2.1 6 (by omega)]; exact h3, h4⟩, ?_⟩
  intro f hf
  rw [(k.1 6 (by unfold WC2; omega)).1, k.2.1 5 (by omega)]
  exact h5 f hf
theorem InvC.kp {S S' : St} {a : Ab} (h : InvC S a) (hl : nL a ≤ 60) (k : WKp S S') : InvC S' a := h.ag hl (k.1.mo (fun q hq => by unfold CC at hq; unfold WC2; omega))
theorem KpC.ag {S S' : St} {K : List Wy} (h : KpC S K) (hK : K.length ≤ 162) (e : agr (fun q => q = 5 ∨ (19 ≤ q ∧ q ≤ 180)) S S') : KpC S' K := by
  refine ⟨by rw [(e 5 (by omega)).1]; exact h.1, fun i hi => ⟨(h.2 i hi).1.ag (e _ (by omega)), (h.2 i hi).2⟩⟩
theorem TrC.pre {S : St} {p : List (Nat × Nat)} {q : Nat × Nat} (h : TrC S u c (p ++ [q])) : TrC S u c p := by
  intro i hi
  have := h i (by rw [List.length_append]; omega)
  rw [List.getElem_append_left hi] at this
  exact this
theorem k_walk {a : Ab} (h : WF a) {t : Nat} (ht : t < nD a) (hu : ∀ f, u f < 2 ^ nW a) : ∀ (n : Nat) (S : St) (v met : Nat) (pre : List (Nat × Nat)) (K : List Wy) (P : St → Prop), pre.length + n = 8 → v < nD a → met < 2 ^ 8 → met.testBit v = true → cnt 8 met.testBit = pre.length + 1 →
    (v ≠ t → met.testBit t = false) → (v = t → pre ≠ []) → rok u c 255 pre → pre.foldl (rst u c) 255 ≠ 0 → pre.foldl (rst u c) 255 < 2 ^ 8 → (∀ q ∈ pre, q.1 < nF a) → lenOf a pre ≤ 1000 * pre.length →
    InvC S a → AimC S u c t → TrC S u c pre → KpC S K → K.length + (if v = t then 1 else (trl a (fun _ => false) t n v met).length) ≤ 162 →
    (∀ S', WKp S S' → TrC S' u c pre → KpC S' (K ++ (if v = t then (lay a u c pre).toList else (trl a (fun _ => false) t n v met).filterMap (fun p => lay a u c (pre ++ p)))) → P S') →
    wp_X4_walk n S (nI v) (nI met) (nI (pre.foldl (rst u c) 255)) (nI pre.length) (nI (lenOf a pre)) P := by
  have h8 := h.1.2
  have hw8 := h.2.1.2
  have h14 := h.2.2.1
  have hn60 : nL a ≤ 60 := by have := h.2.2.2.1; have := h.2.2.2.2.1; omega
  have he := h.2.2.2.2.2.1
  intro n
  induction n with
  | zero =>
    intro S v met pre K P hn hv hm hmv hc
    have := cnt_le 8 met.testBit
    omega
  | succ n ih =>
    intro S v met pre K P hn hv hm hmv hc hvt hvt2 hok hR hR8 hpf hlen hI hA hT hK hKl hP
    rw [wp_X4_walk]
    dsimp only
    unfold wp_X4_walk_b
    rw [hA.1]
    by_cases q : v = t
    · subst q
      rw [if_pos rfl]
      rw [if_pos rfl] at hKl
      have hne := hvt2 rfl
      have hl1 : 1 ≤ pre.length := by
        cases pre with
        | nil => exact absurd rfl hne
        | cons => simp
      have hm2 := (rok_lay (c := c) hne (by omega) hu hw8).mp hok
      have hlay : ∃ W, lay a u c pre = some W := by unfold lay; rw [if_pos hm2]; exact ⟨_, rfl⟩
      obtain ⟨W, hW⟩ := hlay
      refine k_keep hl1 (by omega) hT (fun q hq => by have := hpf q hq; omega) hu hw8 hW (by omega) hK (by omega) _ ?_
      intro S' g1 g2 g3 g4
      refine hP S' ⟨g1.mo (fun q hq => by unfold WC2 at hq; omega), g2, g3⟩ (hT.ag (g1 7 (by omega)) (g1 8 (by omega)) (g1 9 (by omega))) ?_
      rw [if_pos rfl, hW]
      exact g4
    · rw [if_neg (by rw [nI_eq (by omega) (by omega)]; exact q)]
      rw [if_neg q] at hKl
      have hmt := hvt q
      have hpl : pre.length < 7 := by
        rcases Nat.lt_or_ge pre.length 7 with z | z
        · exact z
        · have := cnt_full (n := 8) (p := met.testBit) (by omega) t (by omega)
          rw [hmt] at this; cases this
      rw [if_pos (by simp (disch := omega) only [n_0, n_1, n_2, n_3, n_7, n_8, n_9, n_10, n_12, n_14, n_18, n_20, n_60, n_112, n_162, n_255, n_1000, nI_add, n_mul, nI_ltI, nI_leI, nI_eq, nI_clamp]; omega)]
      obtain ⟨hA1, ⟨cm, hcm, hA2, hA3⟩, hA4⟩ := id hA
      have hrow : ∀ b : Bool, b = c v → wp_X4_walk_41 (nI v) (nI met) (nI (pre.foldl (rst u c) 255)) (nI pre.length) (nI (lenOf a pre)) P (wp_X4_walk n) S b := by
        rintro b rfl
        unfold wp_X4_walk_41
        rw [trl_succ] at hKl
        have key : ∀ (N i : Nat) (S' : St), i ≤ 14 → 14 < N + i → WKp S S' → TrC S' u c pre → KpC S' (K ++ ((List.range (min i (nF a))).flatMap (exn a (fun _ => false) t (trl a (fun _ => false) t n) v met)).filterMap (fun p => lay a u c (pre ++ p))) → wp_X4_walk_46 (nI v) (nI met) (nI (pre.foldl (rst u c) 255)) (nI pre.length) (nI (lenOf a pre)) P (wp_X4_walk n) N S' (c v) (nI i) := by
          intro N
          induction N with
          | zero => intro i S' h1 h2; omega
          | succ N ihN =>
            intro i S' h1 h2 hk hT' hK'
            rw [wp_X4_walk_46]
            dsimp only
            by_cases q2 : i = 14
            · rw [if_pos (by simp (disch := omega) only [n_0, n_1, n_2, n_3, n_7, n_8, n_9, n_10, n_12, n_14, n_18, n_20, n_60, n_112, n_162, n_255, n_1000, nI_add, n_mul, nI_ltI, nI_leI, nI_eq, nI_clamp]; omega)]
              refine hP S' hk hT' ?_
              rw [if_neg q, trl_succ]
              rw [show min i (nF a) = nF a by omega] at hK'
              exact hK'
            · rw [if_neg (by simp (disch := omega) only [n_0, n_1, n_2, n_3, n_7, n_8, n_9, n_10, n_12, n_14, n_18, n_20, n_60, n_112, n_162, n_255, n_1000, nI_add, n_mul, nI_ltI, nI_leI, nI_eq, nI_clamp]; omega)]
              have hI' := hI.kp hn60 hk
              have hA' := hA.kp hk
              -- what a fibre that gives nothing leaves
              have cont : ∀ S2, S2 = S' → (i < nF a → (exn a (fun _ => false) t (trl a (fun _ => false) t n) v met i).filterMap (fun p => lay a u c (pre ++ p)) = []) → wp_X4_walk_171 (nI v) (nI met) (nI (pre.foldl (rst u c) 255)) (nI pre.length) (nI (lenOf a pre)) P (wp_X4_walk n) (fun S a6 a7 => wp_X4_walk_46 (nI v) (nI met) (nI (pre.foldl (rst u c) 255)) (nI pre.length) (nI (lenOf a pre)) P (wp_X4_walk n) N S a6 a7) S2 (c v) (nI i) := by
                rintro S2 rfl hz
                unfold wp_X4_walk_171
                rintro _ rfl
                rw [nI_1]
                refine ihN (i + 1) S2 (by omega) (by omega) hk hT' ?_
                by_cases z : i < nF a
                · rw [show min (i + 1) (nF a) = i + 1 by omega, List.range_succ, List.flatMap_append, List.filterMap_append]
                  simp only [List.flatMap_cons, List.flatMap_nil, List.append_nil]
                  rw [hz z, List.append_nil]
                  rw [show min i (nF a) = i by omega] at hK'
                  exact hK'
                · rw [show min (i + 1) (nF a) = min i (nF a) by omega]
                  exact hK'
              refine k_across h hI' (by omega) (by omega) _ ?_ ?_
              · intro x hif hax
                have hvi : vp_in (nI i) 14 := vp_in_nI (by omega) (by omega)
                refine ⟨hvi, ?_⟩
                rintro y hy
                rw [nI_clamp (by omega), hA'.2.2 i (by omega)] at hy
                subst hy
                obtain ⟨hxd, _⟩ := acr_lt he hif hax
                have h93 : wp_X4_walk_93 (nI v) (nI met) (nI (pre.foldl (rst u c) 255)) (nI pre.length) (nI (lenOf a pre)) P (wp_X4_walk n) (fun S a6 a7 => wp_X4_walk_46 (nI v) (nI met) (nI (pre.foldl (rst u c) 255)) (nI pre.length) (nI (lenOf a pre)) P (wp_X4_walk n) N S a6 a7) S' (c v) (nI i) (nI x) (nI (u i)) (nI (rst u c (pre.foldl (rst u c) 255) (i, v))) := by
                  unfold wp_X4_walk_93
                  have hlt : rst u c (pre.foldl (rst u c) 255) (i, v) < 2 ^ 8 := by
                    have h88 : ∀ g, u g < 2 ^ 8 := fun g => Nat.lt_of_lt_of_le (hu g) (Nat.pow_le_pow_right (by omega) hw8)
                    unfold rst
                    split
                    · exact h88 _
                    · exact Nat.and_lt_two_pow _ hR8
                  rw [if_neg (nI_pos (by omega))]
                  simp only [n_bit0 (show met < 2 ^ 31 by omega) (show x < 32 by omega)]
                  by_cases q3 : met.testBit x = true
                  · rw [if_neg (by rw [q3]; simp)]
                    refine cont S' rfl (fun _ => ?_)
                    rw [exn_met hax q3]; rfl
                  · have q3 : met.testBit x = false := by simpa using q3
                    rw [if_pos q3]
                    simp only [n_eq0 (show rst u c (pre.foldl (rst u c) 255) (i, v) < 2 ^ 31 by omega)]
                    have hexn := exn_go (a := a) (bar := fun _ => false) (t := t) (go := trl a (fun _ => false) t n) (v := v) (met := met) (f := i) (u := x) hax rfl q3
                    by_cases q4 : rst u c (pre.foldl (rst u c) 255) (i, v) = 0
                    · rw [if_pos q4]
                      refine cont S' rfl (fun _ => ?_)
                      have hnone : ∀ r, r.length ≤ 50 → lay a u c (pre ++ (i, v) :: r) = none := by
                        intro r hr
                        unfold lay
                        rw [if_neg]
                        intro z
                        rw [← rok_lay (c := c) (p := pre ++ (i, v) :: r) (by simp) (by rw [List.length_append, List.length_cons]; omega) hu hw8] at z
                        exact rok_snoc (i, v) pre r 255 z q4
                      rw [hexn]
                      split
                      · simp [hnone [] (by simp)]
                      · rw [List.filterMap_map, List.filterMap_eq_nil_iff]
                        intro p hp
                        have := (trl_mem he (fun _ => false) t n x (met ||| 2 ^ x) p (by rw [Nat.testBit_or, Nat.testBit_two_pow]; simp) hp).2.2.1
                        exact hnone p (by omega)
                    · rw [if_neg q4]
                      have hvp : vp_in (nI pre.length) 7 := vp_in_nI hpl (by omega)
                      refine ⟨hvp, ?_⟩
                      rintro _ rfl
                      refine ⟨hvp, ?_⟩
                      rintro _ rfl
                      refine ⟨hvp, ?_⟩
                      rintro S3 hS3
                      rw [nI_clamp (by omega)] at hS3
                      have hk3 : WKp S' S3 := by
                        subst hS3
                        refine ⟨((agr_sI (by unfold WC2; omega) _ _ _).tr (agr_sI (by unfold WC2; omega) _ _ _)).tr (agr_sI (by unfold WC2; omega) _ _ _), ?_, ?_⟩
                        · intro j _
                          simp (disch := omega) only [gI_s, gJ_s, gR_s, gI_n, gJ_n, gR_n, gI_sJ, gI_sR, gI_sD, gJ_sI, gJ_sR, gJ_sD, gR_sI, gR_sJ, gR_sD]
                        · intro j; rfl
                      have hT3 : TrC S3 u c (pre ++ [(i, v)]) := by
                        subst hS3
                        intro j hj
                        rw [List.length_append] at hj
                        by_cases q5 : j < pre.length
                        · rw [List.getElem_append_left q5]
                          have := hT' j q5
                          simp (disch := omega) only [gI_s, gJ_s, gR_s, gI_n, gJ_n, gR_n, gI_sJ, gI_sR, gI_sD, gJ_sI, gJ_sR, gJ_sD, gR_sI, gR_sJ, gR_sD]
                          exact this
                        · have : j = pre.length := by simp at hj; omega
                          subst this
                          rw [List.getElem_append_right (Nat.le_refl _)]
                          simp only [Nat.sub_self, List.getElem_cons_zero]
                          simp (disch := omega) only [gI_s, gJ_s, gR_s, gI_n, gJ_n, gR_n, gI_sJ, gI_sR, gI_sD, gJ_sI, gJ_sR, gJ_sD, gR_sI, gR_sJ, gR_sD]
                          refine ⟨?_, ?_, ?_⟩ <;> first | trivial | rfl
                      have hK3 : KpC S3 (K ++ ((List.range (min i (nF a))).flatMap (exn a (fun _ => false) t (trl a (fun _ => false) t n) v met)).filterMap (fun p => lay a u c (pre ++ p))) := by
                        have hlen2 : ((List.range (min i (nF a))).flatMap (exn a (fun _ => false) t (trl a (fun _ => false) t n) v met)).length ≤ ((List.range (nF a)).flatMap (exn a (fun _ => false) t (trl a (fun _ => false) t n) v met)).length := by
                          have : ∀ d, ((List.range (min i (nF a))).flatMap (exn a (fun _ => false) t (trl a (fun _ => false) t n) v met)).length ≤ ((List.range (min i (nF a) + d)).flatMap (exn a (fun _ => false) t (trl a (fun _ => false) t n) v met)).length := by
                            intro d
                            induction d with
                            | zero => exact Nat.le_refl _
                            | succ d ihd => rw [← Nat.add_assoc, List.range_succ, List.flatMap_append, List.length_append]; omega
                          have := this (nF a - min i (nF a))
                          rw [show min i (nF a) + (nF a - min i (nF a)) = nF a by omega] at this
                          exact this
                        have hfl := List.length_filterMap_le (fun p => lay a u c (pre ++ p)) ((List.range (min i (nF a))).flatMap (exn a (fun _ => false) t (trl a (fun _ => false) t n) v met))
                        refine hK'.ag (by rw [List.length_append]; omega) ?_
                        subst hS3
                        exact ((agr_sI (by omega) _ _ _).tr (agr_sI (by omega) _ _ _)).tr (agr_sI (by omega) _ _ _)
                      have hI3 := hI'.kp hn60 hk3
                      have hA3' := hA'.kp hk3
                      refine k_lengthOf h hI3 hif _ ?_
                      rw [n_one (by omega), n_or, nI_1, nI_add]
                      have e1 : pre.length + 1 = (pre ++ [(i, v)]).length := by simp
                      have e2 : lenOf a pre + el a i = lenOf a (pre ++ [(i, v)]) := (lenOf_snoc a pre (i, v)).symm
                      have e3 : rst u c (pre.foldl (rst u c) 255) (i, v) = (pre ++ [(i, v)]).foldl (rst u c) 255 := by rw [List.foldl_append]; rfl
                      have helb := he i hif
                      rw [show min i (nF a) = i by omega] at hK3
                      have hcount : (K ++ ((List.range i).flatMap (exn a (fun _ => false) t (trl a (fun _ => false) t n) v met)).filterMap (fun p => lay a u c (pre ++ p))).length + (exn a (fun _ => false) t (trl a (fun _ => false) t n) v met i).length ≤ 162 := by
                        have hfl := List.length_filterMap_le (fun p => lay a u c (pre ++ p)) ((List.range i).flatMap (exn a (fun _ => false) t (trl a (fun _ => false) t n) v met))
                        have : ∀ d, ((List.range (i + 1)).flatMap (exn a (fun _ => false) t (trl a (fun _ => false) t n) v met)).length ≤ ((List.range (i + 1 + d)).flatMap (exn a (fun _ => false) t (trl a (fun _ => false) t n) v met)).length := by
                          intro d
                          induction d with
                          | zero => exact Nat.le_refl _
                          | succ d ihd => rw [← Nat.add_assoc, List.range_succ (n := i + 1 + d), List.flatMap_append, List.length_append]; omega
                        have := this (nF a - (i + 1))
                        rw [show i + 1 + (nF a - (i + 1)) = nF a by omega] at this
                        rw [List.range_succ, List.flatMap_append, List.length_append] at this
                        simp only [List.flatMap_cons, List.flatMap_nil, List.append_nil] at this
                        rw [List.length_append]
                        omega
                      rw [e1, e2, e3]
                      refine ih S3 x (met ||| 2 ^ x) (pre ++ [(i, v)]) _ _ (by rw [← e1]; omega) hxd (Nat.or_lt_two_pow hm (Nat.pow_lt_pow_right (by omega) (by omega))) (by rw [Nat.testBit_or, Nat.testBit_two_pow]; simp) (by rw [cnt_or (by omega) q3, hc, ← e1]) ?_ (fun _ => by simp) (rok_add _ _ _ hok q4) (by rw [← e3]; exact q4) (by rw [← e3]; exact hlt) ?_ ?_ hI3 hA3' hT3 hK3 ?_ ?_
                      · intro hxt
                        rw [Nat.testBit_or, hmt, Nat.testBit_two_pow]; simp [hxt]
                      · intro z hz
                        rw [List.mem_append, List.mem_singleton] at hz
                        rcases hz with hz | rfl
                        · exact hpf z hz
                        · exact hif
                      · rw [← e1, ← e2]; omega
                      · rw [hexn] at hcount
                        by_cases z : x = t
                        · rw [if_pos z] at hcount ⊢; exact hcount
                        · rw [if_neg z, List.length_map] at hcount
                          rw [if_neg z]; exact hcount
                      · intro S4 hk4 hT4 hK4
                        unfold wp_X4_walk_171
                        rintro _ rfl
                        rw [nI_1]
                        refine ihN (i + 1) S4 (by omega) (by omega) ((hk.tr hk3).tr hk4) hT4.pre ?_
                        rw [show min (i + 1) (nF a) = i + 1 by omega, List.range_succ, List.flatMap_append, List.filterMap_append, ← List.append_assoc]
                        simp only [List.flatMap_cons, List.flatMap_nil, List.append_nil]
                        rw [hexn]
                        by_cases z : x = t
                        · rw [if_pos z] at hK4 ⊢
                          have : [[(i, v)]].filterMap (fun p => lay a u c (pre ++ p)) = (lay a u c (pre ++ [(i, v)])).toList := by
                            rcases hq : lay a u c (pre ++ [(i, v)]) with _ | W <;> simp [hq]
                          rw [this]; exact hK4
                        · rw [if_neg z] at hK4 ⊢
                          rw [List.filterMap_map]
                          have : (fun p => lay a u c (pre ++ p)) ∘ (fun p => (i, v) :: p) = (fun p => lay a u c (pre ++ [(i, v)] ++ p)) := by
                            funext p; simp
                          rw [this]; exact hK4
                rcases hcv : c v with _ | _
                · rw [if_neg (by simp)]
                  have e : (nI (u i)) &&& nI (pre.foldl (rst u c) 255) = nI (rst u c (pre.foldl (rst u c) 255) (i, v)) := by
                    rw [n_and]; unfold rst; rw [if_neg (by rw [hcv]; simp)]
                  rw [e]
                  rw [hcv] at h93; exact h93
                · rw [if_pos rfl]
                  have e : rst u c (pre.foldl (rst u c) 255) (i, v) = u i := by unfold rst; rw [if_pos hcv]
                  rw [e] at h93
                  rw [hcv] at h93; exact h93
              · intro hnone
                refine ⟨vp_in_nI (by omega) (by omega), ?_⟩
                rintro y _
                have hz : i < nF a → (exn a (fun _ => false) t (trl a (fun _ => false) t n) v met i).filterMap (fun p => lay a u c (pre ++ p)) = [] := by
                  intro z; rw [exn_none (hnone z)]; rfl
                have := cont S' rfl hz
                unfold wp_X4_walk_93
                have hneg : (-1 : Int32) < 0 := by decide
                rw [if_pos hneg, if_pos hneg]
                rcases hcv : c v with _ | _
                · rw [if_neg (by simp)]; rw [hcv] at this; exact this
                · rw [if_pos rfl]; rw [hcv] at this; exact this
        obtain ⟨N, hN⟩ : ∃ N, 14 < N := ⟨15, by omega⟩
        exact ⟨N, key N 0 S (by omega) (by omega) (WKp.rf S) hT (by simpa using hK)⟩
      rw [hA2]
      simp only [n_bit0 (show cm < 2 ^ 31 by omega) (show v < 32 by omega)]
      split
      · rename_i z
        exact hrow false (by rw [← hA3 v (by omega), z])
      · rename_i z
        exact hrow true (by rw [← hA3 v (by omega)]; simpa using z)
end WALK
