/-! THE PURE LAYER: the reference's state; its rows of fibres one by one -/
def RepM (S : St) (k o : Nat) (w : Wy) : Prop := (∀ (p : Nat) (h : p < w.1.length), gI S k (o + p) = nI (w.1[p]'h)) ∧ gI S k (o + 7) = nI w.1.length ∧ gI S k (o + 8) = nI w.2.1 ∧ gI S k (o + 9) = nI w.2.2
def uN (o : Option Nat) : Int32 := match o with
  | none => -1
  | some l => nI l
def InvM (S : St) (a : Ab) : Prop :=
  (gI S 367 1 = nI (nD a) ∧ gI S 367 2 = nI (nW a) ∧ gI S 367 3 = nI (nF a) ∧ gI S 367 10 = nI (nR a) ∧ gI S 367 13 = nI (nL a)) ∧
  (∀ v, v < 8 → gI S 368 v = b2i (cv a v)) ∧
  (∀ f, f < nF a → gI S 369 f = nI (e1 a f) ∧ gI S 370 f = nI (e2 a f) ∧ gI S 371 f = nI (el a f) ∧ gI S 372 f = b2i (ct a f)) ∧
  (∀ f w, f < 14 → w < 8 → gI S 373 (8 * f + w) = uN (usr a f w)) ∧
  (∀ r, r < nR a → gI S 374 r = nI (ca a r) ∧ gI S 375 r = nI (de a r)) ∧
  (∀ l, l < nL a → gI S 376 l = nI (sn a l) ∧ gI S 377 l = nI (en a l) ∧ gI S 378 l = nI (wy a l).length ∧ ∀ (i : Nat) (w : Wy), (wy a l)[i]? = some w → RepM S 379 (20 * l + 10 * i) w)
theorem RepM.ag {S S' : St} {k o : Nat} {w : Wy} (h : RepM S k o w) (e : ceq S S' k) : RepM S' k o w := by
  unfold RepM at *
  rw [e.1, e.1, e.1]
  exact ⟨fun p hp => by rw [e.1]; exact h.1 p hp, h.2⟩
/-- what the reference's state rests on -/
def CM (k : Nat) : Prop := 367 ≤ k ∧ k ≤ 379
theorem InvM.ag {S S' : St} {a : Ab} (h : InvM S a) (e : agr CM S S') : InvM S' a := by
  obtain ⟨⟨h1, h2, h3, h4, h5⟩, h6, h7, h8, h9, h10⟩ := h
  have c := fun k (hk : CM k) => (e k hk).1
  unfold CM at c
  refine ⟨⟨by rw [c 367 (by omega)]; exact h1, by rw [c 367 (by omega)]; exact h2, by rw [c 367 (by omega)]; exact h3, by rw [c 367 (by omega)]; exact h4, by rw [c 367 (by omega)]; exact h5⟩, ?_, ?_, ?_, ?_, ?_⟩
  · intro v hv; rw [c 368 (by omega)]; exact h6 v hv
  · intro f hf; rw [c 369 (by omega), c 370 (by omega), c 371 (by omega), c 372 (by omega)]; exact h7 f hf
  · intro f w hf hw; rw [c 373 (by omega)]; exact h8 f w hf hw
  · intro r hr; rw [c 374 (by omega), c 375 (by omega)]; exact h9 r hr
  · intro l hl
    rw [c 376 (by omega), c 377 (by omega), c 378 (by omega)]
    obtain ⟨g1, g2, g3, g4⟩ := h10 l hl
    exact ⟨g1, g2, g3, fun i w hw => (g4 i w hw).ag (e 379 (by unfold CM; omega))⟩
section GOES
variable {a : Ab}
/-- the levels below the top one -/
def Low (S : St) (k : Nat) : List (Nat × Nat × Nat) → Prop
  | [] => True
  | (v, _, t) :: r => gI S k (10 + r.length) = nI v ∧ gI S k (18 + r.length) = nI t ∧ gI S k (2 + r.length) = nI (t - 1) ∧ 1 ≤ t ∧ Low S k r
def Row (S : St) (k : Nat) : List (Nat × Nat × Nat) → Prop
  | [] => gI S k 0 = -1
  | (v, met, t) :: r => gI S k 0 = nI r.length ∧ gI S k 1 = nI met ∧ gI S k (10 + r.length) = nI v ∧ gI S k (18 + r.length) = nI t ∧ Low S k r
def Chn (a : Ab) : List (Nat × Nat × Nat) → Prop
  | [] => True
  | (v, met, t) :: r => v < nD a ∧ t ≤ nF a ∧ met < 2 ^ 8 ∧ met.testBit v = true ∧ cnt 8 met.testBit = r.length + 1 ∧ (match r with
      | [] => met = 2 ^ v
      | (_, met', _) :: _ => met = met' ||| 2 ^ v ∧ met'.testBit v = false) ∧ Chn a r
/-- the fibres that were gone along, by levels -/
def pth : List (Nat × Nat × Nat) → List (Nat × Nat)
  | [] => []
  | (v, _, t) :: r => pth r ++ [(t - 1, v)]
theorem pth_len (L : List (Nat × Nat × Nat)) : (pth L).length = L.length := by
  induction L with
  | nil => rfl
  | cons q r ih => obtain ⟨v, m, t⟩ := q; rw [pth, List.length_append, ih]; rfl
/-- what is still to come -/
def Rm (a : Ab) (bar : Nat → Bool) (to : Nat) : List (Nat × Nat × Nat) → List (List (Nat × Nat))
  | [] => []
  | (v, met, t) :: r => ((List.range' t (nF a - t)).flatMap (exn a bar to (trl a bar to (7 - r.length)) v met)).map (fun p => pth r ++ p) ++ Rm a bar to r
def ms (a : Ab) : List (Nat × Nat × Nat) → Nat
  | [] => 0
  | (_, _, t) :: r => (nF a + 1 - t) * 16 ^ (8 - r.length) + ms a r
theorem Low_sI {S : St} {k j : Nat} {x : Int32} : ∀ {r : List (Nat × Nat × Nat)}, Low S k r → r.length ≤ 8 → (∀ i, i < r.length → j ≠ 2 + i ∧ j ≠ 10 + i ∧ j ≠ 18 + i) → Low (sI S k j x) k r := by
  intro r
  induction r with
  | nil => intro _ _ _; trivial
  | cons q r ih =>
    intro h hl hj
    obtain ⟨v, m, t⟩ := q
    rw [Low] at h ⊢
    obtain ⟨h1, h2, h3, h4, h5⟩ := h
    obtain ⟨j1, j2, j3⟩ := hj r.length (by simp)
    rw [gI_n (by omega), gI_n (by omega), gI_n (by omega)]
    exact ⟨h1, h2, h3, h4, ih h5 (by simp at hl; omega) (fun i hi => hj i (by simp; omega))⟩
theorem Low_ag {S S' : St} {k : Nat} (e : ceq S S' k) : ∀ {r : List (Nat × Nat × Nat)}, Low S k r → Low S' k r := by
  intro r
  induction r with
  | nil => intro _; trivial
  | cons q r ih =>
    intro h
    obtain ⟨v, m, t⟩ := q
    rw [Low] at h ⊢
    rw [e.1, e.1, e.1]
    exact ⟨h.1, h.2.1, h.2.2.1, h.2.2.2.1, ih h.2.2.2.2⟩
theorem Row_ag {S S' : St} {k : Nat} (e : ceq S S' k) {r : List (Nat × Nat × Nat)} (h : Row S k r) : Row S' k r := by
  cases r with
  | nil => rw [Row] at h ⊢; rw [e.1]; exact h
  | cons q r =>
    obtain ⟨v, m, t⟩ := q
    rw [Row] at h ⊢
    rw [e.1, e.1, e.1, e.1]
    exact ⟨h.1, h.2.1, h.2.2.1, h.2.2.2.1, Low_ag e h.2.2.2.2⟩
theorem Rm_skip {bar : Nat → Bool} {to v met t : Nat} {r : List (Nat × Nat × Nat)} (ht : t < nF a) (h : exn a bar to (trl a bar to (7 - r.length)) v met t = []) : Rm a bar to ((v, met, t) :: r) = Rm a bar to ((v, met, t + 1) :: r) := by
  rw [Rm, Rm]
  congr 2
  rw [show nF a - t = (nF a - (t + 1)) + 1 by omega, List.range'_succ, List.flatMap_cons, h, List.nil_append]
theorem Rm_end {bar : Nat → Bool} {to v met : Nat} {r : List (Nat × Nat × Nat)} : Rm a bar to ((v, met, nF a) :: r) = Rm a bar to r := by
  rw [Rm, Nat.sub_self]; rfl
theorem Rm_hit {bar : Nat → Bool} {to v met t : Nat} {r : List (Nat × Nat × Nat)} (ht : t < nF a) (h : exn a bar to (trl a bar to (7 - r.length)) v met t = [[(t, v)]]) : Rm a bar to ((v, met, t) :: r) = pth ((v, met, t + 1) :: r) :: Rm a bar to ((v, met, t + 1) :: r) := by
  rw [Rm, Rm, pth]
  rw [show nF a - t = (nF a - (t + 1)) + 1 by omega, List.range'_succ, List.flatMap_cons, h]
  rfl
theorem Rm_push {bar : Nat → Bool} {to v met t u : Nat} {r : List (Nat × Nat × Nat)} (ht : t < nF a) (hr : r.length ≤ 6) (h : exn a bar to (trl a bar to (7 - r.length)) v met t = (trl a bar to (7 - r.length) u (met ||| 2 ^ u)).map (fun p => (t, v) :: p)) : Rm a bar to ((v, met, t) :: r) = Rm a bar to ((u, met ||| 2 ^ u, 0) :: (v, met, t + 1) :: r) := by
  rw [Rm, Rm, Rm, pth]
  rw [show nF a - t = (nF a - (t + 1)) + 1 by omega, List.range'_succ, List.flatMap_cons, h, List.map_append, List.append_assoc]
  congr 1
  rw [List.map_map, show 7 - r.length = (6 - r.length) + 1 by omega, trl_succ, List.range_eq_range']
  rw [show 7 - ((v, met, t + 1) :: r).length = 6 - r.length by simp only [List.length_cons]; omega]
  rw [Nat.sub_zero]
  apply List.map_congr_left
  intro p _
  show pth r ++ (t, v) :: p = (pth r ++ [(t + 1 - 1, v)]) ++ p
  simp
theorem nI_m1 (n : Nat) : nI (n + 1) - 1 = nI n := nI_pred n
theorem k_isStep {S : St} (h : WF a) (hI : InvM S a) {k v met t d : Nat} (hd : d < 8) (hv : v < nD a) (ht : t < nF a) (hm : met < 2 ^ 8) (h0 : gI S k 0 = nI d) (h1 : gI S k 1 = nI met) (h2 : gI S k (10 + d) = nI v) (P : Bool → St → Prop)
    (hP1 : ∀ u, acr a v t = some u → met.testBit u = false → e1 a t + e2 a t - v = u → v ≤ e1 a t + e2 a t → P true S) (hP0 : (∀ u, acr a v t = some u → met.testBit u = true) → P false S) : wp_X6_isStep S k (nI t) P := by
  obtain ⟨g1, g2, g3, _⟩ := h.2.2.2.2.2.1 t ht
  have h8 := h.1.2
  have h14 := h.2.2.1
  obtain ⟨m1, m2, _⟩ := hI.2.2.1 t ht
  unfold wp_X6_isStep wp_X6_isStep_31
  have e0 : ((0 : Int32).toNatClampNeg) = 0 := rfl
  have ee1 : ((1 : Int32).toNatClampNeg) = 1 := rfl
  have hv0 : vp_in (0 : Int32) 26 := vp_in_nI (n := 0) (by omega) (by omega)
  have hv1 : vp_in (1 : Int32) 26 := vp_in_nI (n := 1) (by omega) (by omega)
  have hvt : vp_in (nI t) 14 := vp_in_nI (by omega) (by omega)
  rw [e0, h0, n_10, nI_add]
  refine ⟨hv0, vp_in_nI (by omega) (by omega), ?_⟩
  rw [nI_clamp (by omega), h2]
  rintro _ rfl
  rw [nI_clamp (by omega), m1, m2, ee1, h1]
  refine ⟨hvt, ?_⟩
  by_cases q1 : e1 a t = v
  · rw [if_pos (by rw [q1])]
    refine ⟨hv1, hvt, hvt, ?_⟩
    have hac : acr a v t = some (e2 a t) := by unfold acr; rw [if_pos q1]
    rw [nI_add, n_sub (by omega), show e1 a t + e2 a t - v = e2 a t by omega]
    simp only [n_bit0 (show met < 2 ^ 31 by omega) (show e2 a t < 32 by omega)]
    split
    · rename_i z; exact hP1 _ hac z (by omega) (by omega)
    · rename_i z; exact hP0 (fun u hu => by rw [hac] at hu; cases hu; simpa using z)
  · rw [if_neg (by rw [nI_eq (by omega) (by omega)]; exact q1)]
    refine ⟨hvt, ?_⟩
    by_cases q2 : e2 a t = v
    · rw [if_pos (by rw [q2])]
      refine ⟨hv1, hvt, hvt, ?_⟩
      have hac : acr a v t = some (e1 a t) := by unfold acr; rw [if_neg q1, if_pos q2]
      rw [nI_add, n_sub (by omega), show e1 a t + e2 a t - v = e1 a t by omega]
      simp only [n_bit0 (show met < 2 ^ 31 by omega) (show e1 a t < 32 by omega)]
      split
      · rename_i z; exact hP1 _ hac z (by omega) (by omega)
      · rename_i z; exact hP0 (fun u hu => by rw [hac] at hu; cases hu; simpa using z)
    · rw [if_neg (by rw [nI_eq (by omega) (by omega)]; exact q2)]
      exact hP0 (fun u hu => by unfold acr at hu; rw [if_neg q1, if_neg q2] at hu; cases hu)
theorem xor_out {m v : Nat} (hm : m.testBit v = false) : (m ||| 2 ^ v) ^^^ 2 ^ v = m := by
  apply Nat.eq_of_testBit_eq
  intro i
  rw [Nat.testBit_xor, Nat.testBit_or, Nat.testBit_two_pow]
  by_cases q : v = i
  · subst q; rw [hm]; simp
  · simp [q]
end GOES
