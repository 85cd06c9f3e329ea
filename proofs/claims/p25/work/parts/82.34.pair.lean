/-! THE PURE LAYER: the class finds a pair -/
theorem n_dif {a b : Nat} (ha : a < 2 ^ 30) (hb : b < 2 ^ 30) : (nI a - nI b = 0 ↔ a = b) ∧ (0 ≤ nI a - nI b ↔ b ≤ a) := by
  have key : (nI a - nI b).toInt = (a : Int) - (b : Int) := by
    rw [Int32.toInt_sub, nI_toInt (by omega), nI_toInt (by omega)]
    apply Int.bmod_eq_of_le <;> omega
  have h0 : (0 : Int32).toInt = 0 := rfl
  constructor
  · rw [← Int32.toInt_inj, key, h0]; omega
  · rw [Int32.le_iff_toInt_le, key, h0]; omega
theorem lay_some {a : Ab} {u : Nat → Nat} {c : Nat → Bool} {p : List (Nat × Nat)} {W : Wy} (h : lay a u c p = some W) : mnl (nW a) (cst (nW a) u c p) 1000 < 1000 ∧ W = (chs (nW a) u c p (w0 (nW a) u c p), lenOf a p, mnl (nW a) (cst (nW a) u c p) 1000) := by
  unfold lay at h
  by_cases q : mnl (nW a) (cst (nW a) u c p) 1000 < 1000
  · rw [if_pos q] at h; exact ⟨q, (Option.some.inj h).symm⟩
  · rw [if_neg q] at h; cases h
theorem lay_fst {a : Ab} {u : Nat → Nat} {c : Nat → Bool} (hu : ∀ f, u f < 2 ^ nW a) (hw : nW a ≤ 8) {p : List (Nat × Nat)} (hp : p ≠ []) {W : Wy} (h : lay a u c p = some W) : W.1.map (· / 10) = p.map (·.1) := by
  obtain ⟨h1, rfl⟩ := lay_some h
  obtain ⟨h2, h3⟩ := w0_is h1
  cases p with
  | nil => exact absurd rfl hp
  | cons q r => obtain ⟨f, v⟩ := q; exact (chs_all hu hw r f v _ (by omega)).1
theorem trl_pw (a : Ab) (bar : Nat → Bool) (t : Nat) : ∀ (n v met : Nat), (trl a bar t n v met).Pairwise (fun p q => p.map (·.1) ≠ q.map (·.1)) := by
  intro n
  induction n with
  | zero => intro v met; exact List.Pairwise.nil
  | succ n ih =>
    intro v met
    rw [trl_succ, List.pairwise_flatMap]
    have hd : ∀ (f : Nat) (p : List (Nat × Nat)), p ∈ exn a bar t (trl a bar t n) v met f → ∃ r, p = (f, v) :: r := by
      intro f p hp
      rcases hq : acr a v f with _ | u
      · rw [exn_none hq] at hp; cases hp
      · by_cases hb : bar f = true
        · rw [exn_bar hb] at hp; cases hp
        · by_cases hm : met.testBit u = true
          · rw [exn_met hq hm] at hp; cases hp
          · rw [exn_go hq (by simpa using hb) (by simpa using hm)] at hp
            split at hp
            · rw [List.mem_singleton] at hp; exact ⟨[], hp⟩
            · rw [List.mem_map] at hp
              obtain ⟨r, _, hr⟩ := hp
              exact ⟨r, hr.symm⟩
    refine ⟨?_, ?_⟩
    · intro f _
      rcases hq : acr a v f with _ | u
      · rw [exn_none hq]; exact List.Pairwise.nil
      · by_cases hb : bar f = true
        · rw [exn_bar hb]; exact List.Pairwise.nil
        · by_cases hm : met.testBit u = true
          · rw [exn_met hq hm]; exact List.Pairwise.nil
          · rw [exn_go hq (by simpa using hb) (by simpa using hm)]
            split
            · exact List.pairwise_singleton _ _
            · rw [List.pairwise_map]
              refine (ih u (met ||| 2 ^ u)).imp ?_
              intro p q hpq z
              apply hpq
              rw [List.map_cons, List.map_cons] at z
              exact (List.cons.inj z).2
    · refine (List.nodup_range (n := nF a)).imp ?_
      intro f g hfg p hp q hq z
      obtain ⟨r, rfl⟩ := hd f p hp
      obtain ⟨s, rfl⟩ := hd g q hq
      rw [List.map_cons, List.map_cons] at z
      exact hfg (List.cons.inj z).1
theorem kpt_mem {a : Ab} (h : WF a) {u : Nat → Nat} {c : Nat → Bool} (hu : ∀ f, u f < 2 ^ nW a) {x t : Nat} {W : Wy} (hW : W ∈ kpt a u c x t) : ∃ p, p ∈ trl a (fun _ => false) t 8 x (2 ^ x) ∧ lay a u c p = some W ∧ p ≠ [] ∧ W.1.map (· / 10) = p.map (·.1) := by
  unfold kpt at hW
  rw [List.mem_filterMap] at hW
  obtain ⟨p, h1, h2⟩ := hW
  have := (trl_mem h.2.2.2.2.2.1 (fun _ => false) t 8 x (2 ^ x) p (by rw [Nat.testBit_two_pow]; simp) h1).1
  exact ⟨p, h1, h2, this, lay_fst hu h.2.1.2 this h2⟩
theorem kpt_pw {a : Ab} (h : WF a) {u : Nat → Nat} {c : Nat → Bool} (hu : ∀ f, u f < 2 ^ nW a) (x t : Nat) : (kpt a u c x t).Pairwise (fun p q => p ≠ q) := by
  unfold kpt
  rw [List.pairwise_filterMap]
  have hm := trl_mem h.2.2.2.2.2.1 (fun _ => false) t 8 x (2 ^ x)
  have hv : (2 ^ x).testBit x = true := by rw [Nat.testBit_two_pow]; simp
  refine List.Pairwise.imp_of_mem ?_ (trl_pw a (fun _ => false) t 8 x (2 ^ x))
  intro p q hp hq hpq W hW W' hW' z
  apply hpq
  rw [← lay_fst hu h.2.1.2 (hm p hv hp).1 hW, ← lay_fst hu h.2.1.2 (hm q hv hq).1 hW', z]
theorem dsj_ne {x y : Wy} (hx : SW x) (hn : x.1 ≠ []) (h : dsj x y = true) : x ≠ y := by
  rintro rfl
  unfold dsj at h
  rw [beq_iff_eq, Nat.and_self] at h
  cases hq : x.1 with
  | nil => exact hn hq
  | cons c r =>
    have := fbs_bit hx (c / 10)
    rw [h, Nat.zero_testBit, hq] at this
    simp at this
def ori (x y : Wy) : Wy × Wy := if ahd x y = true then (x, y) else (y, x)
/-- first and second while pairs are looked for -/
def PrC (S : St) (K : List Wy) (r : Option (Wy × Wy)) : Prop := (r = none → gR S 5 0 = none) ∧ (∀ p, r = some p → ∃ i j, i < K.length ∧ j < K.length ∧ K[i]? = some p.1 ∧ K[j]? = some p.2 ∧ gR S 5 0 = some (19 + i) ∧ gR S 5 1 = some (19 + j))
theorem k_offer {S : St} {K : List Wy} {r : Option (Wy × Wy)} {i j : Nat} (hK : KpC S K) (hi : i < K.length) (hj : j < K.length) (hpw : K.Pairwise (fun p q => p ≠ q)) (hr : PrC S K r) (P : St → Prop)
    (hP : ∀ S', agr (fun q => q ≠ 5) S S' → (∀ k, gI S' 5 k = gI S 5 k) → PrC S' K (pp1 r (ori (K[i]'hi) (K[j]'hj))) → P S') : wp_X4_offerPair S (19 + i) (19 + j) P := by
  unfold wp_X4_offerPair wp_X4_offerPair_15
  have main : ∀ (b e : Nat) (hb : b < K.length) (he : e < K.length), ori (K[i]'hi) (K[j]'hj) = ((K[b]'hb), (K[e]'he)) → wp_X4_offerPair_26 (19 + i) (19 + j) P S (19 + b) (19 + e) := by
    intro b e hb he ho
    rw [ho] at hP
    unfold wp_X4_offerPair_26
    have take : pp1 r ((K[b]'hb), (K[e]'he)) = some ((K[b]'hb), (K[e]'he)) → wp_X4_offerPair_60 (19 + i) (19 + j) P S (19 + b) (19 + e) := by
      intro hz
      unfold wp_X4_offerPair_60
      rintro _ rfl S2 hS2
      refine hP S2 ?_ ?_ ⟨fun z => (by rw [hz] at z; cases z), ?_⟩
      · subst hS2; exact (agr_sR (by simp) _ _ _).tr (agr_sR (by simp) _ _ _)
      · subst hS2; intro k; rfl
      · intro p hp
        rw [hz] at hp
        cases hp
        refine ⟨b, e, hb, he, List.getElem?_eq_getElem hb, List.getElem?_eq_getElem he, ?_, ?_⟩
        · subst hS2; simp (disch := omega) only [gI_s, gJ_s, gR_s, gI_n, gJ_n, gR_n, gI_sJ, gI_sR, gI_sD, gJ_sI, gJ_sR, gJ_sD, gR_sI, gR_sJ, gR_sD]
        · subst hS2; simp (disch := omega) only [gI_s, gJ_s, gR_s, gI_n, gJ_n, gR_n, gI_sJ, gI_sR, gI_sD, gJ_sI, gJ_sR, gJ_sD, gR_sI, gR_sJ, gR_sD]
    rcases hq : r with _ | p
    · have h0 := hr.1 hq
      refine ⟨fun _ => take (by rw [hq]; rfl), fun q hq2 => by rw [h0] at hq2; cases hq2⟩
    · obtain ⟨i2, j2, g1, g2, g3, g4, g5, g6⟩ := hr.2 p hq
      refine ⟨fun z => (by rw [g5] at z; cases z), fun q29 _ => ⟨fun z => (by rw [g6] at z; cases z), fun q36 _ => ⟨fun z => (by rw [g5] at z; cases z), fun q47 h47 => ⟨fun z => (by rw [g6] at z; cases z), fun q51 h51 => ?_⟩⟩⟩⟩
      rw [g5] at h47; rw [g6] at h51
      cases h47; cases h51
      rw [List.getElem?_eq_getElem g1] at g3
      rw [List.getElem?_eq_getElem g2] at g4
      have g3 := Option.some.inj g3
      have g4 := Option.some.inj g4
      have k1 := hK.2 i2 g1
      have k2 := hK.2 j2 g2
      rw [g3] at k1; rw [g4] at k2
      have kb := hK.2 b hb
      have ke := hK.2 e he
      have leave : btr ((K[b]'hb), (K[e]'he)) p = false → P S := by
        intro hz
        refine hP S (agr.rf _ _) (fun _ => rfl) ?_
        have : pp1 r ((K[b]'hb), (K[e]'he)) = r := by rw [hq]; unfold pp1; dsimp only; rw [if_neg (by rw [hz]; simp)]
        rw [this]; exact hr
      have take2 : btr ((K[b]'hb), (K[e]'he)) p = true → wp_X4_offerPair_60 (19 + i) (19 + j) P S (19 + b) (19 + e) := by
        intro hz
        exact take (by rw [hq]; unfold pp1; dsimp only; rw [if_pos hz])
      unfold wp_X4_isPairAhead
      rintro y hy
      rw [kb.1.2.1, ke.1.2.1, k1.1.2.1, k2.1.2.1, nI_add, Int32.sub_sub, nI_add] at hy
      have b1 := kb.2.2.2.1
      have b2 := ke.2.2.2.1
      have b3 := k1.2.2.2.1
      have b4 := k2.2.2.2.1
      have hd := n_dif (a := (K[b]'hb).2.1 + (K[e]'he).2.1) (b := p.1.2.1 + p.2.2.1) (by omega) (by omega)
      subst hy
      by_cases q1 : (K[b]'hb).2.1 + (K[e]'he).2.1 = p.1.2.1 + p.2.2.1
      · rw [if_pos (hd.1.mpr q1)]
        refine k_isAhead kb.1 kb.2 k1.1 k1.2 _ ?_
        by_cases q2 : ahd (K[b]'hb) p.1 = true
        · rw [if_pos q2]
          exact take2 (by rw [btr_iff]; exact .inr ⟨q1, .inl q2⟩)
        · rw [if_neg q2]
          by_cases q3 : b = i2
          · subst q3
            rw [if_pos rfl]
            refine k_isAhead ke.1 ke.2 k2.1 k2.2 _ ?_
            by_cases q4 : ahd (K[e]'he) p.2 = true
            · rw [if_pos q4]
              exact take2 (by rw [btr_iff]; exact .inr ⟨q1, .inr ⟨g3, q4⟩⟩)
            · rw [if_neg q4]
              refine leave ?_
              rw [← Bool.not_eq_true, btr_iff]
              rintro (z | ⟨_, z | ⟨_, z⟩⟩)
              · dsimp only at z; omega
              · exact q2 z
              · exact q4 z
          · rw [if_neg (by rw [Option.some.injEq]; omega)]
            refine leave ?_
            rw [← Bool.not_eq_true, btr_iff]
            rintro (z | ⟨_, z | ⟨z, _⟩⟩)
            · dsimp only at z; omega
            · exact q2 z
            · dsimp only at z
              rw [← g3] at z
              rcases Nat.lt_or_gt_of_ne q3 with y | y
              · exact List.pairwise_iff_getElem.mp hpw b i2 hb g1 y z
              · exact List.pairwise_iff_getElem.mp hpw i2 b g1 hb y z.symm
      · rw [if_neg (by rw [hd.1]; exact q1)]
        by_cases q2 : p.1.2.1 + p.2.2.1 ≤ (K[b]'hb).2.1 + (K[e]'he).2.1
        · rw [if_pos (hd.2.mpr q2)]
          refine leave ?_
          rw [← Bool.not_eq_true, btr_iff]
          rintro (z | ⟨z, _⟩) <;> dsimp only at z <;> omega
        · rw [if_neg (by rw [hd.2]; exact q2)]
          exact take2 (by rw [btr_iff]; exact .inl (by dsimp only; omega))
  have ki := hK.2 i hi
  have kj := hK.2 j hj
  refine k_isAhead ki.1 ki.2 kj.1 kj.2 _ ?_
  by_cases q : ahd (K[i]'hi) (K[j]'hj) = true
  · rw [q, if_pos rfl, if_pos rfl]
    exact main i j hi hj (by unfold ori; rw [if_pos q])
  · have q' : ahd (K[i]'hi) (K[j]'hj) = false := by simpa using q
    rw [q', if_neg (by simp), if_neg (by simp)]
    exact main j i hj hi (by unfold ori; rw [if_neg q])
/-- the pairs offered so far -/
def CO (K : List Wy) (i j : Nat) (p : Wy × Wy) : Prop := ∃ (b e : Nat) (hb : b < K.length) (he : e < K.length), b < e ∧ (b < i ∨ (b = i ∧ e < j)) ∧ dsj (K[b]'hb) (K[e]'he) = true ∧ p = ori (K[b]'hb) (K[e]'he)
/-- first and second, after a pair was looked for -/
def F2C (S : St) (r : Option (Wy × Wy)) : Prop := (r = none → gR S 5 0 = none) ∧ (∀ p, r = some p → ∃ q s, gR S 5 0 = some q ∧ gR S 5 1 = some s ∧ (19 ≤ q ∧ q ≤ 180) ∧ (19 ≤ s ∧ s ≤ 180) ∧ RepC S q p.1 ∧ SW p.1 ∧ RepC S s p.2 ∧ SW p.2)
theorem k_findPair {S : St} {a : Ab} {x t : Nat} (h : WF a) (hI : InvC S a) (hx : x < nD a) (ht : t < nD a) (hxt : x ≠ t) (hop : ∀ f, f < 14 → gI S 6 f = nI (usb a 60 f)) (P : St → Prop)
    (hP : ∀ S', agr (fun q => WC2 q) S S' → F2C S' (fnd2 a x t) → P S') : wp_X4_findPair S (nI x) (nI t) P := by
  unfold wp_X4_findPair
  have hw8 := h.2.1.2
  refine k_aimwalk (al := 255) (cm := 0) (u := usb a 60) (c := fun _ => false) h hI hx ht hxt hop (by omega) (fun v _ => Nat.zero_testBit v) ?_ (usb_lt a 60) _ ?_
  · intro f _
    have := usb_lt a 60 f
    have h2 : usb a 60 f < 2 ^ 8 := Nat.lt_of_lt_of_le this (Nat.pow_le_pow_right (by omega) hw8)
    rw [show (255 : Nat) = 2 ^ 8 - 1 from rfl, Nat.and_two_pow_sub_one_eq_mod, Nat.mod_eq_of_lt h2]
  · intro S1 hag1 hK1 hl
    have hpw := kpt_pw h (u := usb a 60) (c := fun _ => false) (usb_lt a 60) x t
    have hne : ∀ (i : Nat) (hi : i < (kpt a (usb a 60) (fun _ => false) x t).length), ((kpt a (usb a 60) (fun _ => false) x t)[i]'hi).1 ≠ [] := by
      intro i hi z
      obtain ⟨p, _, _, g3, g4⟩ := kpt_mem h (usb_lt a 60) (List.getElem_mem hi)
      rw [z] at g4
      cases p with
      | nil => exact g3 rfl
      | cons => cases g4
    have hPB := fnd2_PB a x t
    generalize kpt a (usb a 60) (fun _ => false) x t = K at *
    rintro _ rfl S2 hS2
    have ha2 : agr (fun q => q ≠ 5) S1 S2 := by subst hS2; exact (agr_sR (by simp) _ _ _).tr (agr_sR (by simp) _ _ _)
    have hi2 : ∀ j, gI S2 5 j = gI S1 5 j := by subst hS2; intro j; rfl
    have h02 : gR S2 5 0 = none := by subst hS2; simp (disch := omega) only [gI_s, gJ_s, gR_s, gI_n, gJ_n, gR_n, gI_sJ, gI_sR, gI_sD, gJ_sI, gJ_sR, gJ_sD, gR_sI, gR_sJ, gR_sD]
    have key : ∀ (N i : Nat) (S' : St), i ≤ K.length → K.length < N + i → agr (fun q => q ≠ 5) S1 S' → (∀ k, gI S' 5 k = gI S1 5 k) → (∃ r, PrC S' K r ∧ PB (CO K i 0) r) → wp_X4_findPair_34 (nI x) (nI t) P N S' (nI i) := by
      intro N
      induction N with
      | zero => intro i S' h1 h2; omega
      | succ N ih =>
        intro i S' h1 h2 hag hi hr
        rw [wp_X4_findPair_34]
        dsimp only
        rw [hi, hK1.1]
        by_cases q : i = K.length
        · rw [if_pos (by simp (disch := omega) only [n_0, n_1, n_2, n_3, n_7, n_8, n_9, n_10, n_12, n_14, n_18, n_20, n_60, n_112, n_162, n_255, n_1000, nI_add, n_mul, nI_ltI, nI_leI, nI_eq, nI_clamp]; omega)]
          subst q
          obtain ⟨r, hr1, hr2⟩ := hr
          have hrf : r = fnd2 a x t := by
            refine PB.un (hr2.congr (fun p => ?_)) hPB
            constructor
            · rintro ⟨b, e, hb, he, g1, _, g2, rfl⟩
              have hbe : (K[b]'hb) ≠ (K[e]'he) := List.pairwise_iff_getElem.mp hpw b e hb he g1
              unfold ori CP
              by_cases z : ahd (K[b]'hb) (K[e]'he) = true
              · rw [if_pos z]; exact ⟨List.getElem_mem hb, List.getElem_mem he, g2, z⟩
              · rw [if_neg z]
                refine ⟨List.getElem_mem he, List.getElem_mem hb, ?_, ?_⟩
                · unfold dsj at g2 ⊢; rw [Nat.and_comm]; exact g2
                · rcases ahd_tot hbe with y | y
                  · exact absurd y z
                  · exact y
            · rintro ⟨g1, g2, g3, g4⟩
              obtain ⟨b, hb, hb2⟩ := List.getElem_of_mem g1
              obtain ⟨e, he, he2⟩ := List.getElem_of_mem g2
              rcases Nat.lt_trichotomy b e with y | y | y
              · refine ⟨b, e, hb, he, y, .inl hb, by rw [hb2, he2]; exact g3, ?_⟩
                unfold ori; rw [hb2, he2, if_pos g4]
              · exfalso
                subst y
                rw [hb2] at he2
                rw [he2, ahd_irr] at g4; cases g4
              · refine ⟨e, b, he, hb, y, .inl he, by rw [hb2, he2]; unfold dsj at g3 ⊢; rw [Nat.and_comm]; exact g3, ?_⟩
                unfold ori; rw [hb2, he2, if_neg (by rw [ahd_asy g4]; simp)]
          rw [← hrf] at hP
          refine hP S' (hag1.tr (hag.mo (fun q hq => hq.1))) ⟨hr1.1, ?_⟩
          intro p hp
          obtain ⟨b, e, g1, g2, g3, g4, g5, g6⟩ := hr1.2 p hp
          rw [List.getElem?_eq_getElem g1] at g3
          rw [List.getElem?_eq_getElem g2] at g4
          have g3 := Option.some.inj g3
          have g4 := Option.some.inj g4
          have k1 := hK1.2 b g1
          have k2 := hK1.2 e g2
          rw [g3] at k1; rw [g4] at k2
          exact ⟨19 + b, 19 + e, g5, g6, by omega, by omega, k1.1.ag (hag _ (by omega)), k1.2, k2.1.ag (hag _ (by omega)), k2.2⟩
        · have hil : i < K.length := by omega
          rw [if_neg (by simp (disch := omega) only [n_0, n_1, n_2, n_3, n_7, n_8, n_9, n_10, n_12, n_14, n_18, n_20, n_60, n_112, n_162, n_255, n_1000, nI_add, n_mul, nI_ltI, nI_leI, nI_eq, nI_clamp]; omega)]
          rintro _ rfl
          rw [nI_1]
          have key2 : ∀ (M j : Nat) (S3 : St), i < j → j ≤ K.length → K.length < M + j → agr (fun q => q ≠ 5) S1 S3 → (∀ k, gI S3 5 k = gI S1 5 k) → (∃ r, PrC S3 K r ∧ PB (CO K i j) r) → wp_X4_findPair_47 (nI x) (nI t) P (fun S a3 => wp_X4_findPair_34 (nI x) (nI t) P N S a3) M S3 (nI i) (nI j) := by
            intro M
            induction M with
            | zero => intro j S3 _ h1 h2; omega
            | succ M ih2 =>
              intro j S3 hij hj1 hj2 hag3 hi3 hr3
              rw [wp_X4_findPair_47]
              dsimp only
              rw [hi3, hK1.1]
              obtain ⟨r, hr1, hr2⟩ := hr3
              by_cases q2 : j = K.length
              · rw [if_pos (by simp (disch := omega) only [n_0, n_1, n_2, n_3, n_7, n_8, n_9, n_10, n_12, n_14, n_18, n_20, n_60, n_112, n_162, n_255, n_1000, nI_add, n_mul, nI_ltI, nI_leI, nI_eq, nI_clamp]; omega)]
                unfold wp_X4_findPair_102
                rintro _ rfl
                rw [nI_1]
                refine ih (i + 1) S3 (by omega) (by omega) hag3 hi3 ⟨r, hr1, hr2.congr (fun p => ?_)⟩
                constructor
                · rintro ⟨b, e, hb, he, g1, g2, g3⟩
                  exact ⟨b, e, hb, he, g1, by omega, g3⟩
                · rintro ⟨b, e, hb, he, g1, g2, g3⟩
                  exact ⟨b, e, hb, he, g1, by omega, g3⟩
              · have hjl : j < K.length := by omega
                rw [if_neg (by simp (disch := omega) only [n_0, n_1, n_2, n_3, n_7, n_8, n_9, n_10, n_12, n_14, n_18, n_20, n_60, n_112, n_162, n_255, n_1000, nI_add, n_mul, nI_ltI, nI_leI, nI_eq, nI_clamp]; omega)]
                have hvi : vp_in (nI i) 162 := vp_in_nI (by omega) (by omega)
                have hvj : vp_in (nI j) 162 := vp_in_nI (by omega) (by omega)
                refine ⟨hvi, hvj, ?_⟩
                have hK3 : KpC S3 K := ⟨by rw [hi3]; exact hK1.1, fun k hk => ⟨(hK1.2 k hk).1.ag (hag3 _ (by omega)), (hK1.2 k hk).2⟩⟩
                have ki := hK3.2 i hil
                have kj := hK3.2 j hjl
                rw [nI_clamp (by omega), nI_clamp (by omega), ki.1.2.2.2.1, kj.1.2.2.2.1, n_and]
                have f1 := fbs_lt (K[i]'hil)
                have f2 : fbs (K[i]'hil) &&& fbs (K[j]'hjl) < 2 ^ 14 := Nat.lt_of_le_of_lt Nat.and_le_left f1
                simp only [n_eq0 (show fbs (K[i]'hil) &&& fbs (K[j]'hjl) < 2 ^ 31 by omega)]
                unfold wp_X4_findPair_96
                by_cases q3 : fbs (K[i]'hil) &&& fbs (K[j]'hjl) = 0
                · rw [if_pos q3]
                  refine ⟨hvi, hvj, ?_⟩
                  refine k_offer hK3 hil hjl hpw hr1 _ ?_
                  intro S4 hag4 hi4 hr4
                  rintro _ rfl
                  rw [nI_1]
                  refine ih2 (j + 1) S4 (by omega) (by omega) (by omega) (hag3.tr hag4) (fun k => (hi4 k).trans (hi3 k)) ⟨_, hr4, (hr2.step _).congr (fun p => ?_)⟩
                  constructor
                  · rintro (⟨b, e, hb, he, g1, g2, g3⟩ | rfl)
                    · exact ⟨b, e, hb, he, g1, by omega, g3⟩
                    · exact ⟨i, j, hil, hjl, hij, by omega, by unfold dsj; rw [beq_iff_eq]; exact q3, rfl⟩
                  · rintro ⟨b, e, hb, he, g1, g2, g3, g4⟩
                    by_cases z : b = i ∧ e = j
                    · obtain ⟨rfl, rfl⟩ := z
                      exact .inr g4
                    · exact .inl ⟨b, e, hb, he, g1, by omega, g3, g4⟩
                · rw [if_neg q3]
                  rintro _ rfl
                  rw [nI_1]
                  refine ih2 (j + 1) S3 (by omega) (by omega) (by omega) hag3 hi3 ⟨r, hr1, hr2.congr (fun p => ?_)⟩
                  constructor
                  · rintro ⟨b, e, hb, he, g1, g2, g3⟩
                    exact ⟨b, e, hb, he, g1, by omega, g3⟩
                  · rintro ⟨b, e, hb, he, g1, g2, g3, g4⟩
                    by_cases z : b = i ∧ e = j
                    · obtain ⟨rfl, rfl⟩ := z
                      unfold dsj at g3
                      rw [beq_iff_eq] at g3
                      exact absurd g3 q3
                    · exact ⟨b, e, hb, he, g1, by omega, g3, g4⟩
          obtain ⟨r, hr1, hr2⟩ := hr
          obtain ⟨M, hM⟩ : ∃ M, K.length < M := ⟨_, Nat.lt_succ_self _⟩
          refine ⟨M, key2 M (i + 1) S' (by omega) (by omega) (by omega) hag hi ⟨r, hr1, hr2.congr (fun p => ?_)⟩⟩
          constructor
          · rintro ⟨b, e, hb, he, g1, g2, g3⟩
            exact ⟨b, e, hb, he, g1, by omega, g3⟩
          · rintro ⟨b, e, hb, he, g1, g2, g3⟩
            exact ⟨b, e, hb, he, g1, by omega, g3⟩
    obtain ⟨N, hN⟩ : ∃ N, K.length < N := ⟨_, Nat.lt_succ_self _⟩
    refine ⟨N, key N 0 S2 (by omega) (by omega) ha2 hi2 ⟨none, ⟨fun _ => h02, fun p z => by cases z⟩, ⟨fun _ p => ?_, fun p z => by cases z⟩⟩⟩
    rintro ⟨b, e, hb, he, g1, g2, g3⟩
    omega
