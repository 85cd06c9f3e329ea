/-! THE PURE LAYER: the reference lays a way -/
/-- the trail as the reference holds it -/
def MTr (S : St) (k : Nat) (p : List (Nat × Nat)) : Prop := gI S k 0 = nI (p.length - 1) ∧ ∀ (i : Nat) (h : i < p.length), gI S k (2 + i) = nI (p[i]'h).1 ∧ gI S k (10 + i) = nI (p[i]'h).2
theorem MTr.of {S : St} {k : Nat} {L : List (Nat × Nat × Nat)} (hL : L ≠ []) (h : Row S k L) (h2 : Low S k L) : MTr S k (pth L) := by
  constructor
  · cases L with
    | nil => exact absurd rfl hL
    | cons q r =>
      obtain ⟨v, m, t⟩ := q
      rw [Row] at h
      rw [h.1, pth_len]; rfl
  · have : ∀ (L : List (Nat × Nat × Nat)), Low S k L → ∀ (i : Nat) (h : i < (pth L).length), gI S k (2 + i) = nI ((pth L)[i]'h).1 ∧ gI S k (10 + i) = nI ((pth L)[i]'h).2 := by
      intro L
      induction L with
      | nil => intro _ i hi; simp [pth] at hi
      | cons q r ih =>
        intro hlo i hi
        obtain ⟨v, m, t⟩ := q
        rw [Low] at hlo
        have hl := pth_len r
        by_cases z : i < r.length
        · have := ih hlo.2.2.2.2 i (by omega)
          simp only [pth]
          rw [List.getElem_append_left (by omega)]
          exact this
        · have hi2 : i = r.length := by rw [pth_len] at hi; simp at hi; omega
          subst hi2
          simp only [pth]
          rw [List.getElem_append_right (by omega)]
          simp only [hl, Nat.sub_self, List.getElem_cons_zero]
          exact ⟨hlo.2.2.1, hlo.1⟩
    exact this L h2
theorem MTr.ag {S S' : St} {k : Nat} {p : List (Nat × Nat)} (h : MTr S k p) (e : ceq S S' k) : MTr S' k p := by
  refine ⟨by rw [e.1]; exact h.1, fun i hi => ?_⟩
  rw [e.1, e.1]; exact h.2 i hi
/-- whose channels count as free -/
def Own (o : Int32) (own : Nat) : Prop := (o = -1 ∧ own = 60) ∨ (o = nI own ∧ own < 60)
theorem uN_none {a : Ab} {f w : Nat} (h : nL a ≤ 60) : uN (usr a f w) = -1 ↔ usr a f w = none := by
  rcases hq : usr a f w with _ | l
  · exact ⟨fun _ => rfl, fun _ => rfl⟩
  · have hl := List.mem_range.mp (List.mem_of_find?_eq_some hq)
    refine ⟨fun z => ?_, fun z => by cases z⟩
    exfalso
    have : (nI l : Int32) = -1 := z
    have h2 := nI_pos (n := l) (by omega)
    rw [this] at h2
    exact h2 (by decide)
theorem uN_some {a : Ab} {f w own : Nat} (h : nL a ≤ 60) (ho : own < 60) : uN (usr a f w) = nI own ↔ usr a f w = some own := by
  rcases hq : usr a f w with _ | l
  · refine ⟨fun z => ?_, fun z => by cases z⟩
    exfalso
    have : (-1 : Int32) = nI own := z
    have h2 := nI_pos (n := own) (by omega)
    rw [← this] at h2
    exact h2 (by decide)
  · have hl := List.mem_range.mp (List.mem_of_find?_eq_some hq)
    have : uN (some l) = nI l := rfl
    rw [this, nI_eq (by omega) (by omega), Option.some.injEq]
theorem k_free {S : St} {a : Ab} (h : WF a) (hI : InvM S a) {f own : Nat} {o : Int32} (hf : f < nF a) (ho : Own o own) (P : Int32 → St → Prop) (hP : P (nI (usb a own f)) S) : wp_X6_free S (nI f) o P := by
  have hw8 := h.2.1.2
  have h14 := h.2.2.1
  have hn60 : nL a ≤ 60 := by have := h.2.2.2.1; have := h.2.2.2.2.1; omega
  obtain ⟨g, hg⟩ : ∃ g : Nat → Bool, g = (fun w => !ct a f && decide (f < nF a) && (match usr a f w with | none => true | some l => l == own)) := ⟨_, rfl⟩
  have hgw : ∀ w, g w = (!ct a f && decide (f < nF a) && (match usr a f w with | none => true | some l => l == own)) := fun w => by rw [hg]
  have hP : P (nI (mk (nW a) g)) S := by rw [hg]; exact hP
  have key : ∀ (N w : Nat), w ≤ nW a → nW a < N + w → wp_X6_free_5 (nI f) o P N S (nI (mk w g)) (nI w) := by
    intro N
    induction N with
    | zero => intro w h1 h2; omega
    | succ N ih =>
      intro w h1 h2
      rw [wp_X6_free_5]
      dsimp only
      rw [hI.1.2.1]
      by_cases q : w = nW a
      · rw [if_pos (by simp (disch := omega) only [n_0, n_1, n_2, n_3, n_7, n_8, n_9, n_10, n_12, n_14, n_18, n_20, n_60, n_112, n_162, n_255, n_1000, nI_add, n_mul, nI_ltI, nI_leI, nI_eq, nI_clamp]; omega), q]; exact hP
      · rw [if_neg (by simp (disch := omega) only [n_0, n_1, n_2, n_3, n_7, n_8, n_9, n_10, n_12, n_14, n_18, n_20, n_60, n_112, n_162, n_255, n_1000, nI_add, n_mul, nI_ltI, nI_leI, nI_eq, nI_clamp]; omega)]
        rw [n_8, n_mul, nI_add]
        refine ⟨vp_in_nI (by omega) (by omega), ?_⟩
        rw [nI_clamp (by omega), nI_clamp (by omega), hI.2.2.2.1 f w (by omega) (by omega), (hI.2.2.1 f hf).2.2.2]
        rintro _ rfl
        refine ⟨vp_in_nI (by omega) (by omega), ?_⟩
        have ih := ih (w + 1) (by omega) (by omega)
        rw [mk] at ih
        have hlt := mk_lt w g
        have yes : (g w) = true → wp_X6_free_50 (nI f) o P (fun S a3 a4 => wp_X6_free_5 (nI f) o P N S a3 a4) S (nI w) (nI (mk w g)) := by
          intro hz
          rw [if_pos hz] at ih
          unfold wp_X6_free_50 wp_X6_free_58
          rintro _ rfl _ rfl
          rw [n_one (by omega), n_or, nI_1, Nat.or_comm, ← Nat.mul_one (2 ^ w), ← Nat.two_pow_add_eq_or_of_lt hlt, Nat.mul_one, Nat.add_comm]
          exact ih
        have no : (g w) = false → wp_X6_free_57 (nI f) o P (fun S a3 a4 => wp_X6_free_5 (nI f) o P N S a3 a4) S (nI w) (nI (mk w g)) := by
          intro hz
          rw [if_neg (by rw [hz]; simp)] at ih
          unfold wp_X6_free_57 wp_X6_free_58
          rintro _ rfl _ rfl
          rw [n_0, n_or, nI_1, Nat.or_zero]
          exact ih
        rcases hct : ct a f with _ | _
        · rw [if_pos (by rfl)]
          simp only [uN_none hn60]
          rcases hu : usr a f w with _ | l
          · rw [if_pos rfl]
            exact yes (by rw [hgw, hct, hu, decide_eq_true hf]; rfl)
          · rw [if_neg (by simp)]
            by_cases q3 : l = own
            · have hown : own < 60 := by
                rw [usr_some h] at hu; omega
              have ho2 : o = nI own := by
                rcases ho with ⟨_, z⟩ | ⟨z, _⟩
                · omega
                · exact z
              rw [if_pos (by rw [ho2, q3]; rfl)]
              exact yes (by rw [hgw, hct, hu, decide_eq_true hf, q3]; simp)
            · rw [if_neg]
              · exact no (by rw [hgw, hu]; simp [q3])
              · intro z
                rcases ho with ⟨ho, _⟩ | ⟨ho, ho2⟩
                · rw [ho] at z
                  have := (uN_none (a := a) (f := f) (w := w) hn60).mp (by rw [hu]; exact z)
                  rw [hu] at this; cases this
                · rw [ho] at z
                  have := (uN_some (a := a) (f := f) (w := w) hn60 ho2).mp (by rw [hu]; exact z)
                  rw [hu] at this
                  exact q3 (Option.some.inj this)
        · rw [if_neg (by decide)]
          exact no (by rw [hgw, hct]; simp)
  obtain ⟨N, hN⟩ : ∃ N, nW a < N := ⟨_, Nat.lt_succ_self _⟩
  exact ⟨N, key N 0 (by omega) (by omega)⟩
section LAYS
variable {u : Nat → Nat}
/-- the conversions as the reference holds them -/
def Cst (S : St) (a : Ab) (u : Nat → Nat) (p : List (Nat × Nat)) (i : Nat) : Prop := ∀ w, w < nW a → gI S 386 (8 * i + w) = nI (cst (nW a) u (cv a) (p.drop i) w)
theorem k_cost {S : St} {a : Ab} (h : WF a) (hI : InvM S a) {k i w : Nat} {p : List (Nat × Nat)} (hl : p.length ≤ 7) (hT : MTr S k p) (hi : i < p.length) (hpv : ∀ q ∈ p, q.2 < 8) (hw : w < nW a) (hc : i + 1 < p.length → Cst S a u p (i + 1)) (P : Int32 → St → Prop)
    (hP : P (nI (if hx : i + 1 < p.length then (if cv a (p[i + 1]'hx).2 = true then mnl (nW a) (fun x => cst (nW a) u (cv a) (p.drop (i + 1)) x + 1) (cst (nW a) u (cv a) (p.drop (i + 1)) w) else cst (nW a) u (cv a) (p.drop (i + 1)) w) else 0)) S) :
    wp_X6_cost S k (nI i) (nI (p.length - 1)) (nI w) P := by
  have hw8 := h.2.1.2
  unfold wp_X6_cost wp_X6_cost_24
  by_cases hx : i + 1 < p.length
  · rw [dif_pos hx] at hP
    have hc := hc hx
    rw [if_neg (by rw [nI_eq (by omega) (by omega)]; omega), n_8, n_mul, nI_add, nI_add]
    refine ⟨vp_in_nI (by omega) (by omega), ?_⟩
    rw [nI_clamp (by omega), show 8 * i + 8 + w = 8 * (i + 1) + w by omega, hc w hw]
    have hx2 : (p[i + 1]'hx).2 < 8 := hpv _ (List.getElem_mem hx)
    have top := cst_top (wl := nW a) (u := u) (c := cv a) (p.drop (i + 1))
    have key : ∀ (N x : Nat), x ≤ nW a → nW a < N + x → wp_X6_cost_29 k (nI i) (nI (p.length - 1)) (nI w) P N S (nI (if cv a (p[i + 1]'hx).2 = true then mnl x (fun x => cst (nW a) u (cv a) (p.drop (i + 1)) x + 1) (cst (nW a) u (cv a) (p.drop (i + 1)) w) else cst (nW a) u (cv a) (p.drop (i + 1)) w)) (nI x) := by
      intro N
      induction N with
      | zero => intro x h1 h2; omega
      | succ N ih =>
        intro x h1 h2
        rw [wp_X6_cost_29]
        dsimp only
        rw [hI.1.2.1]
        by_cases q : x = nW a
        · rw [if_pos (by simp (disch := omega) only [n_0, n_1, n_2, n_3, n_7, n_8, n_9, n_10, n_12, n_14, n_18, n_20, n_60, n_112, n_162, n_255, n_1000, nI_add, n_mul, nI_ltI, nI_leI, nI_eq, nI_clamp]; omega), q]; exact hP
        · rw [if_neg (by simp (disch := omega) only [n_0, n_1, n_2, n_3, n_7, n_8, n_9, n_10, n_12, n_14, n_18, n_20, n_60, n_112, n_162, n_255, n_1000, nI_add, n_mul, nI_ltI, nI_leI, nI_eq, nI_clamp]; omega), if_neg (by simp (disch := omega) only [n_0, n_1, n_2, n_3, n_7, n_8, n_9, n_10, n_12, n_14, n_18, n_20, n_60, n_112, n_162, n_255, n_1000, nI_add, n_mul, nI_ltI, nI_leI, nI_eq, nI_clamp]; omega)]
          rw [n_8, n_mul, nI_add, nI_add, n_10, nI_add, nI_1]
          refine ⟨vp_in_nI (by omega) (by omega), ?_⟩
          rw [nI_clamp (by omega), show 8 * i + 8 + x = 8 * (i + 1) + x by omega, hc x (by omega), nI_1]
          rintro _ rfl
          refine ⟨vp_in_nI (by omega) (by omega), ?_⟩
          rw [nI_clamp (by omega), show 10 + i + 1 = 10 + (i + 1) by omega, (hT.2 (i + 1) hx).2]
          refine ⟨vp_in_nI (by omega) (by omega), ?_⟩
          rw [nI_clamp (by omega), hI.2.1 _ hx2]
          have ih := ih (x + 1) (by omega) (by omega)
          unfold wp_X6_cost_90 wp_X6_cost_92
          have tx := top x
          have tw := top w
          rcases hcv : cv a (p[i + 1]'hx).2 with _ | _
          · rw [if_pos (by rfl)]
            rw [hcv] at ih
            rintro _ rfl
            rw [nI_1]; exact ih
          · rw [if_neg (by decide)]
            rw [hcv, if_pos rfl, mnl] at ih
            rw [if_pos rfl]
            have hb := mnl_b x (fun x => cst (nW a) u (cv a) (p.drop (i + 1)) x + 1) (cst (nW a) u (cv a) (p.drop (i + 1)) w)
            generalize mnl x (fun x => cst (nW a) u (cv a) (p.drop (i + 1)) x + 1) (cst (nW a) u (cv a) (p.drop (i + 1)) w) = m at *
            generalize cst (nW a) u (cv a) (p.drop (i + 1)) x = z at *
            by_cases q2 : m ≤ z + 1
            · rw [if_pos (by simp (disch := omega) only [n_0, n_1, n_2, n_3, n_7, n_8, n_9, n_10, n_12, n_14, n_18, n_20, n_60, n_112, n_162, n_255, n_1000, nI_add, n_mul, nI_ltI, nI_leI, nI_eq, nI_clamp]; omega)]
              rw [Nat.min_eq_left q2] at ih
              rintro _ rfl
              rw [nI_1]; exact ih
            · rw [if_neg (by simp (disch := omega) only [n_0, n_1, n_2, n_3, n_7, n_8, n_9, n_10, n_12, n_14, n_18, n_20, n_60, n_112, n_162, n_255, n_1000, nI_add, n_mul, nI_ltI, nI_leI, nI_eq, nI_clamp]; omega)]
              rw [Nat.min_eq_right (by omega)] at ih
              rintro _ rfl
              rw [nI_1]; exact ih
    obtain ⟨N, hN⟩ : ∃ N, nW a < N := ⟨_, Nat.lt_succ_self _⟩
    refine ⟨N, ?_⟩
    have := key N 0 (by omega) (by omega)
    have e : (if cv a (p[i + 1]'hx).2 = true then mnl 0 (fun x => cst (nW a) u (cv a) (p.drop (i + 1)) x + 1) (cst (nW a) u (cv a) (p.drop (i + 1)) w) else cst (nW a) u (cv a) (p.drop (i + 1)) w) = cst (nW a) u (cv a) (p.drop (i + 1)) w := by split <;> rfl
    rw [e] at this
    exact this
  · rw [dif_neg hx] at hP
    rw [if_pos (by rw [nI_eq (by omega) (by omega)]; omega)]
    obtain ⟨N, hN⟩ : ∃ N, nW a < N := ⟨_, Nat.lt_succ_self _⟩
    refine ⟨N, ?_⟩
    obtain ⟨M, rfl⟩ : ∃ M, N = M + 1 := ⟨N - 1, by omega⟩
    rw [wp_X6_cost_29]
    dsimp only
    rw [hI.1.2.1]
    have := h.2.1.1
    rw [if_neg (by simp (disch := omega) only [n_0, n_1, n_2, n_3, n_7, n_8, n_9, n_10, n_12, n_14, n_18, n_20, n_60, n_112, n_162, n_255, n_1000, nI_add, n_mul, nI_ltI, nI_leI, nI_eq, nI_clamp]; omega), if_pos (by simp (disch := omega) only [n_0, n_1, n_2, n_3, n_7, n_8, n_9, n_10, n_12, n_14, n_18, n_20, n_60, n_112, n_162, n_255, n_1000, nI_add, n_mul, nI_ltI, nI_leI, nI_eq, nI_clamp]; omega)]
    exact hP
theorem cst_drop {wl : Nat} {c : Nat → Bool} {p : List (Nat × Nat)} {i w : Nat} (hi : i < p.length) : cst wl u c (p.drop i) w = if (u (p[i]'hi).1).testBit w = true then (if hx : i + 1 < p.length then (if c (p[i + 1]'hx).2 = true then mnl wl (fun x => cst wl u c (p.drop (i + 1)) x + 1) (cst wl u c (p.drop (i + 1)) w) else cst wl u c (p.drop (i + 1)) w) else 0) else 1000 := by
  rw [List.drop_eq_getElem_cons hi]
  by_cases hx : i + 1 < p.length
  · rw [dif_pos hx, List.drop_eq_getElem_cons hx]
    exact cst_two _ _ _ _ _ _
  · rw [dif_neg hx, List.drop_eq_nil_of_le (show p.length ≤ i + 1 by omega)]
    exact cst_one _ _ _
end LAYS
