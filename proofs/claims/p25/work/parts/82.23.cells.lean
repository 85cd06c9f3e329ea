/-! THE PURE LAYER: cells that stay -/
def ceq (S S' : St) (k : Nat) : Prop := (∀ j, gI S' k j = gI S k j) ∧ (∀ j, gJ S' k j = gJ S k j) ∧ (∀ j, gR S' k j = gR S k j) ∧ (∀ j, gD S' k j = gD S k j)
def agr (p : Nat → Prop) (S S' : St) : Prop := ∀ k, p k → ceq S S' k
theorem ceq.rf (S : St) (k : Nat) : ceq S S k := ⟨fun _ => rfl, fun _ => rfl, fun _ => rfl, fun _ => rfl⟩
theorem ceq.tr {S T U : St} {k : Nat} (h : ceq S T k) (h2 : ceq T U k) : ceq S U k := ⟨fun j => (h2.1 j).trans (h.1 j), fun j => (h2.2.1 j).trans (h.2.1 j), fun j => (h2.2.2.1 j).trans (h.2.2.1 j), fun j => (h2.2.2.2 j).trans (h.2.2.2 j)⟩
theorem agr.rf (p : Nat → Prop) (S : St) : agr p S S := fun k _ => ceq.rf S k
theorem agr.tr {p : Nat → Prop} {S T U : St} (h : agr p S T) (h2 : agr p T U) : agr p S U := fun k hk => (h k hk).tr (h2 k hk)
theorem agr.mo {p q : Nat → Prop} {S T : St} (h : agr p S T) (hq : ∀ k, q k → p k) : agr q S T := fun k hk => h k (hq k hk)
theorem agr_sI {p : Nat → Prop} {k : Nat} (h : ¬ p k) (S : St) (j : Nat) (v : Int32) : agr p S (sI S k j v) := fun a ha => ⟨fun b => by rw [gI_sI, if_neg (fun q : a = k ∧ b = j => h (q.1 ▸ ha))], fun b => rfl, fun b => rfl, fun b => rfl⟩
theorem agr_sJ {p : Nat → Prop} {k : Nat} (h : ¬ p k) (S : St) (j : Nat) (v : Int64) : agr p S (sJ S k j v) := fun a ha => ⟨fun b => rfl, fun b => by rw [gJ_sJ, if_neg (fun q : a = k ∧ b = j => h (q.1 ▸ ha))], fun b => rfl, fun b => rfl⟩
theorem agr_sR {p : Nat → Prop} {k : Nat} (h : ¬ p k) (S : St) (j : Nat) (v : Option Nat) : agr p S (sR S k j v) := fun a ha => ⟨fun b => rfl, fun b => rfl, fun b => by rw [gR_sR, if_neg (fun q : a = k ∧ b = j => h (q.1 ▸ ha))], fun b => rfl⟩
theorem agr_sD {p : Nat → Prop} {k : Nat} (h : ¬ p k) (S : St) (j : Nat) (v : UInt64) : agr p S (sD S k j v) := fun a ha => ⟨fun b => rfl, fun b => rfl, fun b => rfl, fun b => by rw [gD_sD, if_neg (fun q : a = k ∧ b = j => h (q.1 ▸ ha))]⟩
theorem gI_s (S : St) (k j : Nat) (v : Int32) : gI (sI S k j v) k j = v := by rw [gI_sI, if_pos ⟨rfl, rfl⟩]
theorem gJ_s (S : St) (k j : Nat) (v : Int64) : gJ (sJ S k j v) k j = v := by rw [gJ_sJ, if_pos ⟨rfl, rfl⟩]
theorem gR_s (S : St) (k j : Nat) (v : Option Nat) : gR (sR S k j v) k j = v := by rw [gR_sR, if_pos ⟨rfl, rfl⟩]
theorem gI_n {S : St} {k j : Nat} {v : Int32} {a b : Nat} (h : ¬ (a = k ∧ b = j)) : gI (sI S k j v) a b = gI S a b := by rw [gI_sI, if_neg h]
theorem gJ_n {S : St} {k j : Nat} {v : Int64} {a b : Nat} (h : ¬ (a = k ∧ b = j)) : gJ (sJ S k j v) a b = gJ S a b := by rw [gJ_sJ, if_neg h]
theorem gR_n {S : St} {k j : Nat} {v : Option Nat} {a b : Nat} (h : ¬ (a = k ∧ b = j)) : gR (sR S k j v) a b = gR S a b := by rw [gR_sR, if_neg h]
theorem RepC.ag {S S' : St} {k : Nat} {w : Wy} (h : RepC S k w) (e : ceq S S' k) : RepC S' k w := by
  unfold RepC at *
  rw [e.1, e.1, e.1, e.1, e.2.1]; exact h
set_option maxRecDepth 8000 in
theorem k_wstart {S : St} {k len c : Nat} (P : St → Prop) (hP : ∀ S', agr (fun q => q ≠ k) S S' → RepC S' k ([], len, c) → P S') : wp_X3_start S k (nI len) (nI c) P := by
  unfold wp_X3_start
  rintro _ rfl _ rfl _ rfl _ rfl _ rfl
  refine hP _ ?_ ?_
  · exact ((((agr_sI (by simp) _ _ _).tr (agr_sI (by simp) _ _ _)).tr (agr_sI (by simp) _ _ _)).tr (agr_sI (by simp) _ _ _)).tr (agr_sJ (by simp) _ _ _)
  · unfold RepC
    simp (disch := omega) only [gI_s, gJ_s, gR_s, gI_n, gJ_n, gR_n, gI_sJ, gI_sR, gI_sD, gJ_sI, gJ_sR, gJ_sD, gR_sI, gR_sJ, gR_sD]
    exact ⟨rfl, trivial, trivial, rfl, rfl⟩
theorem fbs_snoc {l : List Nat} {c len v : Nat} (hc : c / 10 < 14) : fbs (l ++ [c], len, v) = fbs (l, len, v) ||| 2 ^ (c / 10) := by
  unfold fbs
  rw [mk_bit1 hc, mk_or]
  apply mk_ext
  intro i _
  show (l ++ [c]).any _ = _
  rw [List.any_append]
  simp only [List.any_cons, List.any_nil, Bool.or_false]
  congr 1
  rw [Bool.eq_iff_iff, beq_iff_eq, beq_iff_eq]; exact ⟨fun h => h.symm, fun h => h.symm⟩
set_option maxRecDepth 8000 in
theorem k_append {S : St} {k f w len v : Nat} {l : List Nat} (h : RepC S k (l, len, v)) (hl : l.length < 7) (hb : ∀ c ∈ l, c < 256) (hf : f < 14) (hw : w < 8) (P : St → Prop) (hP : ∀ S', agr (fun q => q ≠ k) S S' → RepC S' k (l ++ [10 * f + w], len, v) → P S') : wp_X3_append S k (nI f) (nI w) P := by
  unfold wp_X3_append
  rintro _ rfl _ rfl _ rfl
  refine hP _ (((agr_sJ (by simp) _ _ _).tr (agr_sI (by simp) _ _ _)).tr (agr_sI (by simp) _ _ _)) ?_
  obtain ⟨h0, h1, h2, h3, h4⟩ := h
  unfold RepC
  simp (disch := omega) only [gI_s, gJ_s, gR_s, gI_n, gJ_n, gR_n, gI_sJ, gI_sR, gI_sD, gJ_sI, gJ_sR, gJ_sD, gR_sI, gR_sJ, gR_sD]
  have hc : (10 * f + w) / 10 = f := by omega
  rw [h0, h1, h2, h3, h4, fbs_snoc (by omega), hc, n_one (by omega), n_or, nI_1, n_10, n_mul, nI_add, nI_l (by omega), n_8, nI_l (by omega), l_shl (by omega), l_or]
  refine ⟨?_, rfl, rfl, rfl, ?_⟩
  · show _ = nI (l ++ [_]).length
    rw [List.length_append]; rfl
  · show _ = lN (byt (l ++ [_]))
    rw [byt_snoc, Nat.shiftLeft_eq]
    congr 1
    rw [show byt l * 2 ^ 8 = 2 ^ 8 * byt l by omega, ← Nat.two_pow_add_eq_or_of_lt (by omega)]
set_option maxRecDepth 8000 in
theorem k_become {S : St} {k q : Nat} {w : Wy} (hkq : k ≠ q) (h : RepC S q w) (P : St → Prop) (hP : ∀ S', agr (fun x => x ≠ k) S S' → RepC S' k w → P S') : wp_X3_become S k q P := by
  unfold wp_X3_become
  rintro _ rfl _ rfl _ rfl _ rfl _ rfl
  refine hP _ (((((agr_sI (by simp) _ _ _).tr (agr_sI (by simp) _ _ _)).tr (agr_sI (by simp) _ _ _)).tr (agr_sI (by simp) _ _ _)).tr (agr_sJ (by simp) _ _ _)) ?_
  obtain ⟨h0, h1, h2, h3, h4⟩ := h
  unfold RepC
  simp (disch := omega) only [gI_s, gJ_s, gR_s, gI_n, gJ_n, gR_n, gI_sJ, gI_sR, gI_sD, gJ_sI, gJ_sR, gJ_sD, gR_sI, gR_sJ, gR_sD]
  exact ⟨h0, h1, h2, h3, h4⟩
/-- the class's own cells for a planner -/
def LtC (S : St) (a : Ab) (l : Nat) : Prop :=
  gI S (185 + 3 * l) 3 = nI (sn a l) ∧ gI S (185 + 3 * l) 4 = nI (en a l) ∧ gI S (185 + 3 * l) 6 = nI (units a l) ∧
  (∀ w, wy a l = [w] → gI S (185 + 3 * l) 5 = 0 ∧ RepC S (186 + 3 * l) w) ∧
  (∀ w v, wy a l = [w, v] → gI S (185 + 3 * l) 5 = 1 ∧ RepC S (186 + 3 * l) w ∧ RepC S (187 + 3 * l) v)
def InvC (S : St) (a : Ab) : Prop :=
  (gI S 1 0 = nI (nD a) ∧ gI S 1 1 = nI (nW a) ∧ gI S 1 2 = nI (nF a) ∧ gI S 1 3 = nI (mk 8 (cv a)) ∧ gI S 1 4 = nI (mk 14 (ct a))) ∧
  (∀ f, f < nF a → gI S 2 f = nI (e1 a f) ∧ gI S 3 f = nI (e2 a f) ∧ gI S 4 f = nI (el a f)) ∧
  (gI S 0 4 = nI (nL a) ∧ gI S 0 7 = nI (nR a)) ∧
  (∀ r, r < nR a → gR S 365 r = (if de a r = 0 then none else some (185 + 3 * ca a r)) ∧ (de a r ≠ 0 → gI S 366 r = nI (de a r))) ∧
  (∀ l, l < 60 → gI S (185 + 3 * l) 0 = nI l) ∧
  (∀ l, l < nL a → LtC S a l)
/-- what the class's state rests on -/
def CC (k : Nat) : Prop := k < 5 ∨ (185 ≤ k ∧ k < 367)
theorem LtC.ag {S S' : St} {a : Ab} {l : Nat} (h : LtC S a l) (h5 : ceq S S' (185 + 3 * l)) (h6 : ceq S S' (186 + 3 * l)) (h7 : ceq S S' (187 + 3 * l)) : LtC S' a l := by
  obtain ⟨a1, a2, a3, a4, a5⟩ := h
  unfold LtC
  rw [h5.1, h5.1, h5.1, h5.1]
  exact ⟨a1, a2, a3, fun w q => ⟨(a4 w q).1, (a4 w q).2.ag h6⟩, fun w v q => ⟨(a5 w v q).1, (a5 w v q).2.1.ag h6, (a5 w v q).2.2.ag h7⟩⟩
theorem InvC.ag {S S' : St} {a : Ab} (h : InvC S a) (hl : nL a ≤ 60) (e : agr CC S S') : InvC S' a := by
  obtain ⟨⟨a0, a1, a2, a3, a4⟩, b, ⟨c1, c2⟩, d, f, g⟩ := h
  have e0 := e 0 (by unfold CC; omega)
  have e1 := e 1 (by unfold CC; omega)
  have e2 := e 2 (by unfold CC; omega)
  have e3 := e 3 (by unfold CC; omega)
  have e4 := e 4 (by unfold CC; omega)
  have e5 := e 365 (by unfold CC; omega)
  have e6 := e 366 (by unfold CC; omega)
  unfold InvC
  refine ⟨⟨by rw [e1.1]; exact a0, by rw [e1.1]; exact a1, by rw [e1.1]; exact a2, by rw [e1.1]; exact a3, by rw [e1.1]; exact a4⟩, ?_, ⟨by rw [e0.1]; exact c1, by rw [e0.1]; exact c2⟩, ?_, ?_, ?_⟩
  · intro i hi; rw [e2.1, e3.1, e4.1]; exact b i hi
  · intro r hr; rw [e5.2.2.1, e6.1]; exact d r hr
  · intro l hl2; rw [(e _ (by unfold CC; omega)).1]; exact f l hl2
  · intro l hl2; exact (g l hl2).ag (e _ (by unfold CC; omega)) (e _ (by unfold CC; omega)) (e _ (by unfold CC; omega))
theorem GW.sw {a : Ab} {w : Wy} (hf : nF a ≤ 14) (hw : nW a ≤ 8) (h : GW a w) : SW w := by
  obtain ⟨h1, h2, h3, h4, h5, h6⟩ := h
  refine ⟨h2, fun c hc => ⟨by have := (h3 c hc).1; omega, by have := (h3 c hc).2; omega⟩, h6, ?_⟩
  have : ∀ l : List Nat, chg l ≤ l.length := by
    intro l
    induction l with
    | nil => simp [chg]
    | cons x l ih => cases l with
      | nil => simp [chg]
      | cons y l => rw [chg]; simp only [List.length_cons] at *; split <;> omega
  have := this w.1
  omega
