/-! THE PURE LAYER: the class keeps a way, its wavelengths -/
section TAKE
variable {wl : Nat} {u : Nat → Nat} {c : Nat → Bool}
theorem wit_bit {r : List (Nat × Nat)} {k x : Nat} (hx : x < 8) : (wit wl u c r k).testBit x = decide (cst wl u c r x ≤ k) := by
  unfold wit; rw [mk_bit, decide_eq_true hx, Bool.true_and]
theorem drop_cc {p : List (Nat × Nat)} {i : Nat} (h : i < p.length) (hi : 1 ≤ i) : p.drop (i - 1) = ((p[i - 1]'(by omega)).1, (p[i - 1]'(by omega)).2) :: ((p[i]'h).1, (p[i]'h).2) :: p.drop (i + 1) := by
  rw [List.drop_eq_getElem_cons (show i - 1 < p.length by omega)]
  congr 1
  have : i - 1 + 1 = i := by omega
  rw [this, List.drop_eq_getElem_cons h]
set_option maxRecDepth 4000 in
theorem k_takeLoop {S : St} {p : List (Nat × Nat)} {k len cvs : Nat} (hl : p.length ≤ 7) (hk : 19 ≤ k) (hT : TrC S u c p) (hf : ∀ q ∈ p, q.1 < 14) (hu : ∀ f, u f < 2 ^ wl) (hw : wl ≤ 8) (x3 : Int32)
    (hW : ∀ i k, i < p.length → k < p.length → gI S (11 + i) k = nI (wit wl u c (p.drop i) k)) (P : St → Prop) (full : List Nat) (hfull : ∀ z ∈ full, z < 256)
    (hP : ∀ S', agr (fun q => q ≠ k) S S' → RepC S' k (full, len, cvs) → P S') :
    ∀ (n i : Nat) (S' : St) (w : Nat) (pre : List Nat), 1 ≤ i → i ≤ p.length → p.length < n + i → agr (fun q => q ≠ k) S S' → RepC S' k (pre, len, cvs) → pre.length = i → w < 8 → cst wl u c (p.drop (i - 1)) w < 1000 →
      pre ++ chs wl u c (p.drop i) (nxt wl u c (p.drop i) (cst wl u c (p.drop (i - 1)) w) w) = full → wp_X4_takeLowestWavelengths_32 k (nI p.length) x3 P n S' (nI (cst wl u c (p.drop (i - 1)) w)) (nI w) (nI i) := by
  intro n
  induction n with
  | zero => intro i S' w pre h1 h2 h3; omega
  | succ n ih =>
    intro i S' w pre h1 h2 h3 hag hR hpl hw8 hfin hch
    rw [wp_X4_takeLowestWavelengths_32]
    dsimp only
    by_cases q : i = p.length
    · subst q
      rw [if_pos (by simp (disch := omega) only [n_0, n_1, n_2, n_3, n_7, n_8, n_9, n_10, n_12, n_14, n_18, n_20, n_60, n_112, n_162, n_255, n_1000, nI_add, n_mul, nI_ltI, nI_leI, nI_eq, nI_clamp]; omega)]
      rw [List.drop_length] at hch
      rw [show chs wl u c [] (nxt wl u c [] (cst wl u c (p.drop (p.length - 1)) w) w) = [] from rfl, List.append_nil] at hch
      rw [hch] at hR
      exact hP S' hag hR
    · have hi : i < p.length := by omega
      rw [if_neg (by simp (disch := omega) only [n_0, n_1, n_2, n_3, n_7, n_8, n_9, n_10, n_12, n_14, n_18, n_20, n_60, n_112, n_162, n_255, n_1000, nI_add, n_mul, nI_ltI, nI_leI, nI_eq, nI_clamp]; omega)]
      have hdrop := drop_cc hi h1
      have hdrop2 : p.drop i = ((p[i]'hi).1, (p[i]'hi).2) :: p.drop (i + 1) := List.drop_eq_getElem_cons hi
      have hcur := cst_fin hfin
      rw [List.length_drop] at hcur
      generalize hcu : cst wl u c (p.drop (i - 1)) w = cur at *
      have hT' : TrC S' u c p := hT.ag (hag 7 (by omega)) (hag 8 (by omega)) (hag 9 (by omega))
      have hW' : ∀ k2, k2 < p.length → gI S' (11 + i) k2 = nI (wit wl u c (p.drop i) k2) := by
        intro k2 hk2
        rw [(hag (11 + i) (by omega)).1]
        exact hW i k2 hi hk2
      have hni := nxt_is (c := c) (f := (p[i - 1]'(by omega)).1) (v := (p[i - 1]'(by omega)).2) (f' := (p[i]'hi).1) (v' := (p[i]'hi).2) (r := p.drop (i + 1)) (w := w) hu (by rw [← hdrop, hcu]; exact hfin)
      rw [← hdrop, hcu, ← hdrop2] at hni
      have hcd : ∀ qq : Nat → Bool, (∀ x, x < 8 → (qq x = true ↔ (x = w ∧ cst wl u c (p.drop i) x ≤ cur) ∨ (c (p[i]'hi).2 = true ∧ 0 < cur ∧ cst wl u c (p.drop i) x ≤ cur - 1))) → low 8 qq = nxt wl u c (p.drop i) cur w := by
        intro qq hqq
        have := cand (c := c) (f := (p[i - 1]'(by omega)).1) (v := (p[i - 1]'(by omega)).2) (f' := (p[i]'hi).1) (v' := (p[i]'hi).2) (r := p.drop (i + 1)) (w := w) hu hw (by rw [← hdrop, hcu]; exact hfin) qq
        rw [← hdrop, hcu, ← hdrop2] at this
        exact this hqq
      generalize hx : nxt wl u c (p.drop i) cur w = x at *
      have hx8 : x < 8 := by omega
      have hv : vp_in (nI i) 7 := vp_in_nI (by omega) (by omega)
      have fin : ∀ l', cst wl u c (p.drop i) x = l' → wp_X4_takeLowestWavelengths_122 k (nI p.length) x3 P (fun S a4 a5 a6 => wp_X4_takeLowestWavelengths_32 k (nI p.length) x3 P n S a4 a5 a6) S' (nI l') (nI i) (nI x) := by
        rintro l' rfl
        unfold wp_X4_takeLowestWavelengths_122
        refine ⟨hv, ?_⟩
        rw [nI_clamp (by omega), (hT' i hi).1]
        have hbb : ∀ z ∈ pre, z < 256 := fun z hz => hfull z (by rw [← hch]; exact List.mem_append_left _ hz)
        refine k_append hR (by omega) hbb (hf _ (List.getElem_mem hi)) hx8 _ ?_
        intro S2 hag2 hR2
        rintro _ rfl
        rw [nI_1]
        have e1 : i + 1 - 1 = i := by omega
        have := ih (i + 1) S2 x (pre ++ [10 * (p[i]'hi).1 + x]) (by omega) (by omega) (by omega) (hag.tr hag2) hR2 (by rw [List.length_append, hpl]; rfl) hx8 (by rw [e1]; have := hni.2; omega) (by
          rw [e1, List.append_assoc]
          rw [← hch, hdrop2, chs_cons]
          rfl)
        rw [e1] at this
        exact this
      have hlt1 := wit_lt (wl := wl) (u := u) (c := c) (p.drop i) cur
      have hlt2 := wit_lt (wl := wl) (u := u) (c := c) (p.drop i) (cur - 1)
      have h57 : ¬ (c (p[i]'hi).2 = true ∧ 0 < cur) → wp_X4_takeLowestWavelengths_57 k (nI p.length) x3 P (fun S a4 a5 a6 => wp_X4_takeLowestWavelengths_32 k (nI p.length) x3 P n S a4 a5 a6) S' (nI cur) (nI w) (nI i) := by
        intro hm
        unfold wp_X4_takeLowestWavelengths_57 wp_X4_takeLowestWavelengths_58 wp_X4_takeLowestWavelengths_102
        refine ⟨hv, vp_in_nI (by omega) (by omega), ?_⟩
        rintro y rfl
        rw [if_neg (by simp), nI_clamp (by omega), nI_clamp (by omega), hW' cur (by omega), n_one (by omega), n_and]
        have hlt : wit wl u c (p.drop i) cur &&& 2 ^ w < 2 ^ 8 := Nat.and_lt_two_pow _ (Nat.pow_lt_pow_right (by omega) hw8)
        refine k_lowestIn _ (fun j => (wit wl u c (p.drop i) cur &&& 2 ^ w).testBit j) (fun j hj => n_bit0 (by omega) (by omega)) _ ?_
        rw [hcd _ (by
          intro y hy
          rw [Nat.testBit_and, wit_bit hy, Nat.testBit_two_pow, Bool.and_eq_true, decide_eq_true_iff, decide_eq_true_iff]
          constructor
          · rintro ⟨z1, z2⟩; exact .inl ⟨z2.symm, z1⟩
          · rintro (⟨z1, z2⟩ | ⟨z1, z2, _⟩)
            · exact ⟨z2, z1.symm⟩
            · exact absurd ⟨z1, z2⟩ hm)]
        rw [if_neg (by simp)]
        refine fin cur ?_
        have := hni.2
        by_cases z : x = w
        · rw [if_pos z] at this; exact this
        · rw [if_neg z] at this
          by_cases z2 : c (p[i]'hi).2 = true
          · rw [if_pos z2] at this
            exact absurd ⟨z2, by omega⟩ hm
          · rw [if_neg z2] at this; omega
      by_cases hz : cur = 0
      · rw [if_pos (by rw [hz]; decide)]
        exact h57 (by omega)
      · rw [if_neg (by simp (disch := omega) only [n_0, n_1, n_2, n_3, n_7, n_8, n_9, n_10, n_12, n_14, n_18, n_20, n_60, n_112, n_162, n_255, n_1000, nI_add, n_mul, nI_ltI, nI_leI, nI_eq, nI_clamp]; omega)]
        refine ⟨hv, ?_⟩
        rw [nI_clamp (by omega), (hT' i hi).2.2]
        rcases hc : c (p[i]'hi).2 with _ | _
        · rw [if_pos (by rfl)]
          exact h57 (by rw [hc]; simp)
        · rw [if_neg (by decide)]
          unfold wp_X4_takeLowestWavelengths_58 wp_X4_takeLowestWavelengths_102
          refine ⟨hv, vp_in_nI (by omega) (by omega), ?_⟩
          rintro y rfl
          rw [if_pos rfl]
          refine ⟨hv, by rw [n_1, n_sub (by omega)]; exact vp_in_nI (by omega) (by omega), ?_⟩
          rw [n_1, n_sub (by omega), nI_clamp (by omega), nI_clamp (by omega), nI_clamp (by omega), hW' cur (by omega), hW' (cur - 1) (by omega), ← n_1, n_one (by omega), n_and, n_or]
          have hlt : wit wl u c (p.drop i) cur &&& 2 ^ w ||| wit wl u c (p.drop i) (cur - 1) < 2 ^ 8 := Nat.or_lt_two_pow (Nat.and_lt_two_pow _ (Nat.pow_lt_pow_right (by omega) hw8)) hlt2
          refine k_lowestIn _ (fun j => (wit wl u c (p.drop i) cur &&& 2 ^ w ||| wit wl u c (p.drop i) (cur - 1)).testBit j) (fun j hj => n_bit0 (by omega) (by omega)) _ ?_
          rw [hcd _ (by
            intro y hy
            rw [Nat.testBit_or, Nat.testBit_and, wit_bit hy, wit_bit hy, Nat.testBit_two_pow, Bool.or_eq_true, Bool.and_eq_true, decide_eq_true_iff, decide_eq_true_iff, decide_eq_true_iff]
            constructor
            · rintro (⟨z1, z2⟩ | z1)
              · exact .inl ⟨z2.symm, z1⟩
              · exact .inr ⟨hc, by omega, z1⟩
            · rintro (⟨z1, z2⟩ | ⟨z1, z2, z3⟩)
              · exact .inl ⟨z2, z1.symm⟩
              · exact .inr z3)]
          rw [if_pos rfl]
          have hn2 := hni.2
          rw [hc, if_pos rfl] at hn2
          by_cases z : x = w
          · rw [if_pos (by rw [z])]
            rw [if_pos z] at hn2
            exact fin cur hn2
          · rw [if_neg (by rw [nI_eq (by omega) (by omega)]; exact z)]
            rw [if_neg z] at hn2
            rintro y rfl
            rw [n_m1 _ (by omega)]
            exact fin (cur - 1) (by omega)
end TAKE
