/-! THE PURE LAYER: the start -/
def Hs (S : St) (Q : Nat → Nat → Prop) : Prop := ∀ a b, Q a b → gR S a b = fx a b
theorem Hs.w {S : St} {Q : Nat → Nat → Prop} (h : Hs S Q) {k j : Nat} {v : Option Nat} (hv : fx k j = v) : Hs (sR S k j v) (fun a b => Q a b ∨ (a = k ∧ b = j)) := by
  intro a b hq
  by_cases e : a = k ∧ b = j
  · rw [e.1, e.2, gR_s, hv]
  · rw [gR_n e]
    rcases hq with q | q
    · exact h a b q
    · exact absurd q e
theorem Hs.i {S : St} {Q : Nat → Nat → Prop} (h : Hs S Q) (k j : Nat) (v : Int32) : Hs (sI S k j v) Q := h
theorem Hs.mo {S : St} {Q R : Nat → Nat → Prop} (h : Hs S Q) (hq : ∀ a b, R a b → Q a b) : Hs S R := fun a b hr => h a b (hq a b hr)
theorem Hs.m {S : St} {Q : Nat → Nat → Prop} (h : Hs S Q) : Hs (mrow S 10 7) (fun a b => Q a b ∨ (a = 10 ∧ b < 7)) := by
  intro a b hq
  rw [gR_mrow]
  by_cases e : a = 10 ∧ b < 7
  · rw [if_pos e, e.1, fx_10 e.2]
  · rw [if_neg e]
    rcases hq with q | q
    · exact h a b q
    · exact absurd q e
/-- numbers as they were -/
def Nm (S S' : St) : Prop := ∀ k j, gI S' k j = gI S k j ∧ gJ S' k j = gJ S k j ∧ gD S' k j = gD S k j
theorem Nm.rf (S : St) : Nm S S := fun _ _ => ⟨rfl, rfl, rfl⟩
theorem Nm.w {S S' : St} (h : Nm S S') (k j : Nat) (v : Option Nat) : Nm S (sR S' k j v) := fun a b => h a b
theorem Nm.m {S S' : St} (h : Nm S S') : Nm S (mrow S' 10 7) := fun a b => h a b
theorem s_ways {P : St → Prop} {Q : Nat → Nat → Prop} : ∀ (r i : Nat) (S S0 : St), r + i = 162 → Hs S Q → Q 5 11 → Nm S0 S → (∀ S', Hs S' (fun a b => Q a b ∨ (a = 18 ∧ i ≤ b ∧ b < 162)) → Nm S0 S' → P S') → wl_X4 P r i S := by
  intro r
  induction r generalizing Q with
  | zero =>
    intro i S S0 h1 h2 hq hn hP
    refine hP S (h2.mo (fun a b hr => ?_)) hn
    rcases hr with q | q
    · exact q
    · omega
  | succ r ih =>
    intro i S S0 h1 h2 hq hn hP
    rw [wl_X4]
    refine ⟨(h2 5 11 hq).trans rfl, ?_⟩
    rintro _ rfl
    refine ih (Q := fun a b => Q a b ∨ (a = 18 ∧ b = i)) (i + 1) _ S0 (by omega) (h2.w (fx_18 (by omega))) (.inl hq) (hn.w _ _ _) (fun S' h3 h4 => hP S' (h3.mo (fun a b hr => ?_)) h4)
    rcases hr with q | q
    · exact .inl (.inl q)
    · by_cases e : b = i
      · exact .inl (.inr ⟨q.1, e⟩)
      · exact .inr ⟨q.1, by omega, q.2.2⟩
theorem s_X4 {S : St} {Q : Nat → Nat → Prop} (h : Hs S Q) (P : St → Prop) (hP : ∀ S', Hs S' (fun a b => Q a b ∨ (a = 5 ∧ (b = 2 ∨ b = 3 ∨ (7 ≤ b ∧ b ≤ 11))) ∨ (a = 10 ∧ b < 7) ∨ (a = 18 ∧ b < 162)) → Nm S S' → P S') : wp_X4_init S P := by
  unfold wp_X4_init
  rintro _ rfl _ rfl _ rfl _ rfl _ rfl _ rfl _ rfl _ rfl
  refine s_ways 162 0 _ S rfl ((((((((h.w (by rfl)).w (by rfl)).w (by rfl)).w (by rfl)).m).w (by rfl)).w (by rfl)).w (by rfl)) (.inl (.inr ⟨rfl, rfl⟩)) (((((((((Nm.rf S).w _ _ _).w _ _ _).w _ _ _).w _ _ _).m).w _ _ _).w _ _ _).w _ _ _) (fun S' h2 h3 => hP S' (h2.mo (fun a b hr => ?_)) h3)
  rcases hr with q | q | q | q
  · exact .inl (.inl (.inl (.inl (.inl (.inl (.inl (.inl (.inl q))))))))
  · have : b = 2 ∨ b = 3 ∨ b = 7 ∨ b = 8 ∨ b = 9 ∨ b = 10 ∨ b = 11 := by omega
    rcases this with e | e | e | e | e | e | e
    · exact .inl (.inl (.inl (.inl (.inl (.inl (.inl (.inl (.inr ⟨q.1, e⟩))))))))
    · exact .inl (.inr ⟨q.1, e⟩)
    · exact .inl (.inl (.inl (.inl (.inl (.inl (.inl (.inr ⟨q.1, e⟩)))))))
    · exact .inl (.inl (.inl (.inl (.inl (.inl (.inr ⟨q.1, e⟩))))))
    · exact .inl (.inl (.inl (.inl (.inl (.inr ⟨q.1, e⟩)))))
    · exact .inl (.inl (.inl (.inr ⟨q.1, e⟩)))
    · exact .inl (.inl (.inr ⟨q.1, e⟩))
  · exact .inl (.inl (.inl (.inl (.inr q))))
  · exact .inr ⟨q.1, by omega, q.2⟩
/-- numbers of the class as its constructor leaves them -/
def NmC (S : St) (n : Nat) : Prop := (∀ k j, gI S k j = if k = 1 ∧ j < 2 then 4 else if 185 ≤ k ∧ k < 185 + 3 * n ∧ (k - 185) % 3 = 0 ∧ j = 0 then nI ((k - 185) / 3) else 0) ∧ (∀ k j, gJ S k j = 0) ∧ (∀ k j, gD S k j = 0)
theorem NmC.nm {S S' : St} {n : Nat} (h : NmC S n) (e : Nm S S') : NmC S' n := ⟨fun k j => by rw [(e k j).1]; exact h.1 k j, fun k j => by rw [(e k j).2.1]; exact h.2.1 k j, fun k j => by rw [(e k j).2.2]; exact h.2.2 k j⟩
theorem s_lights {P : St → Prop} {Q : Nat → Nat → Prop} : ∀ (r i : Nat) (S : St), r + i = 60 → Hs S Q → Q 0 3 → NmC S i →
    (∀ S', Hs S' (fun a b => Q a b ∨ (a = 184 ∧ i ≤ b ∧ b < 60) ∨ (185 + 3 * i ≤ a ∧ a < 365 ∧ (a - 185) % 3 = 0 ∧ (b = 1 ∨ b = 2))) → NmC S' 60 → P S') → wl_X5 P r i S := by
  intro r
  induction r generalizing Q with
  | zero =>
    intro i S h1 h2 hq hn hP
    have : i = 60 := by omega
    subst this
    refine hP S (h2.mo (fun a b hr => ?_)) hn
    rcases hr with q | q | q
    · exact q
    · omega
    · omega
  | succ r ih =>
    intro i S h1 h2 hq hn hP
    rw [wl_X5]
    refine ⟨(h2 0 3 hq).trans rfl, ?_⟩
    unfold wp_X1_init wp_X3_init
    rintro _ rfl _ rfl _ rfl _ rfl
    have hd : kd (185 + 3 * i) = 1 := kd_Li (by omega)
    refine ih (Q := fun a b => (((Q a b ∨ (a = 185 + 3 * i ∧ b = 1)) ∨ (a = 185 + 3 * i ∧ b = 2)) ∨ (a = 184 ∧ b = i))) (i + 1) _ (by omega) ?_ (.inl (.inl (.inl hq))) ?_ (fun S' h3 h4 => hP S' (h3.mo (fun a b hr => ?_)) h4)
    · exact (((h2.w (fx_L1 hd)).w (fx_L2 hd)).i _ _ _).w (fx_184 (by omega))
    · refine ⟨fun k j => ?_, fun k j => hn.2.1 k j, fun k j => hn.2.2 k j⟩
      rw [gI_sR, gI_sI]
      by_cases e : k = 185 + 3 * i ∧ j = 0
      · rw [if_pos e, if_neg (by omega), if_pos (by omega)]
        congr 1; omega
      · rw [if_neg e, gI_sR, gI_sR, hn.1 k j]
        by_cases e2 : k = 1 ∧ j < 2
        · rw [if_pos e2, if_pos e2]
        · rw [if_neg e2, if_neg e2]
          by_cases e3 : 185 ≤ k ∧ k < 185 + 3 * i ∧ (k - 185) % 3 = 0 ∧ j = 0
          · rw [if_pos e3, if_pos (by omega)]
          · rw [if_neg e3, if_neg (by omega)]
    · rcases hr with q | q | q
      · exact .inl (.inl (.inl (.inl q)))
      · by_cases e : b = i
        · exact .inl (.inr ⟨q.1, e⟩)
        · exact .inr (.inl ⟨q.1, by omega, q.2.2⟩)
      · by_cases e : a = 185 + 3 * i
        · rcases q.2.2.2 with z | z
          · exact .inl (.inl (.inl (.inr ⟨e, z⟩)))
          · exact .inl (.inl (.inr ⟨e, z⟩))
        · exact .inr (.inr ⟨by omega, q.2.1, q.2.2.1, q.2.2.2⟩)
/-- the references of the class -/
def QC5 (a b : Nat) : Prop := fx a b = none ∨ a < 367
theorem fx_cov {a b q : Nat} (h : fx a b = some q) (ha : a < 367) : (a = 0 ∧ (b < 4 ∨ b = 5 ∨ b = 6)) ∨ (a = 1 ∧ (b = 5 ∨ b = 6 ∨ b = 7)) ∨ (a = 5 ∧ (b = 2 ∨ b = 3 ∨ (7 ≤ b ∧ b ≤ 11))) ∨ (a = 10 ∧ b < 7) ∨ (a = 18 ∧ b < 162) ∨ (a = 181 ∧ b < 2) ∨ (a = 184 ∧ b < 60) ∨ (185 ≤ a ∧ a < 365 ∧ (a - 185) % 3 = 0 ∧ (b = 1 ∨ b = 2)) := by
  by_cases hk : kd a = 1
  · have h3 := kd_La a (by omega) hk
    refine .inr (.inr (.inr (.inr (.inr (.inr (.inr ⟨h3.1, h3.2.1, h3.2.2, ?_⟩))))))
    unfold fx at h
    rw [if_neg (by omega), if_neg (by omega), if_neg (by omega), if_neg (by omega), if_neg (by omega), if_neg (by omega), if_neg (by omega), if_neg (by omega), if_pos hk] at h
    by_cases e : b = 1
    · exact .inl e
    · rw [if_neg e] at h
      by_cases e2 : b = 2
      · exact .inr e2
      · rw [if_neg e2] at h; cases h
  · unfold fx at h
    rw [if_neg hk] at h
    split at h
    · repeat' split at h
      all_goals first | omega | cases h
    · split at h
      · repeat' split at h
        all_goals first | omega | cases h
      · split at h
        · repeat' split at h
          all_goals first | omega | cases h
        · split at h
          · repeat' split at h
            all_goals first | omega | cases h
          · split at h
            · repeat' split at h
              all_goals first | omega | cases h
            · split at h
              · repeat' split at h
                all_goals first | omega | cases h
              · split at h
                · repeat' split at h
                  all_goals first | omega | cases h
                · split at h
                  · omega
                  · cases h
theorem s_X5 (P : St → Prop) (hP : ∀ S', Hs S' QC5 → NmC S' 60 → P S') : wp_X5_init S00 P := by
  have h0 : Hs S00 (fun a b => fx a b = none) := fun a b hq => hq.symm
  have n0 : NmC (sI (sI S00 1 0 4) 1 1 4) 0 := by
    refine ⟨fun k j => ?_, fun k j => rfl, fun k j => rfl⟩
    rw [gI_sI, gI_sI]
    by_cases e : k = 1 ∧ j = 1
    · rw [if_pos e, if_pos (by omega)]
    · rw [if_neg e]
      by_cases e2 : k = 1 ∧ j = 0
      · rw [if_pos e2, if_pos (by omega)]
      · rw [if_neg e2, if_neg (by omega), if_neg (by omega)]; rfl
  unfold wp_X5_init wp_X2_init
  rintro _ rfl _ rfl _ rfl _ rfl _ rfl _ rfl
  have h1 : Hs (sI (sI S00 1 0 4) 1 1 4) (fun a b => fx a b = none) := h0
  have n1 : NmC (sR (sR (sR (sR (sI (sI S00 1 0 4) 1 1 4) 1 5 (some 2)) 1 6 (some 3)) 1 7 (some 4)) 0 0 (some 1)) 0 := n0
  have h2 := (((h1.w (k := 1) (j := 5) (v := some 2) (by rfl)).w (k := 1) (j := 6) (v := some 3) (by rfl)).w (k := 1) (j := 7) (v := some 4) (by rfl)).w (k := 0) (j := 0) (v := some 1) (by rfl)
  generalize sR (sR (sR (sR (sI (sI S00 1 0 4) 1 1 4) 1 5 (some 2)) 1 6 (some 3)) 1 7 (some 4)) 0 0 (some 1) = S1 at *
  refine s_X4 h2 _ (fun S2 h3 n2 => ?_)
  have n3 := n1.nm n2
  rintro _ rfl
  unfold wp_X0_init
  rintro _ rfl _ rfl _ rfl _ rfl
  have h4 := ((((h3.w (k := 0) (j := 1) (v := some 5) (by rfl)).w (k := 181) (j := 0) (v := some 182) (by rfl)).w (k := 181) (j := 1) (v := some 183) (by rfl)).w (k := 0) (j := 2) (v := some 181) (by rfl)).w (k := 0) (j := 3) (v := some 184) (by rfl)
  have n4 : NmC (sR (sR (sR (sR (sR S2 0 1 (some 5)) 181 0 (some 182)) 181 1 (some 183)) 0 2 (some 181)) 0 3 (some 184)) 0 := n3
  generalize sR (sR (sR (sR (sR S2 0 1 (some 5)) 181 0 (some 182)) 181 1 (some 183)) 0 2 (some 181)) 0 3 (some 184) = S3 at *
  refine s_lights 60 0 S3 rfl h4 (.inr ⟨rfl, rfl⟩) n4 (fun S4 h5 n5 => ?_)
  unfold wp_X5_init_77
  rintro _ rfl _ rfl
  have h6 := (h5.w (k := 0) (j := 5) (v := some 365) (by rfl)).w (k := 0) (j := 6) (v := some 366) (by rfl)
  have n6 : NmC (sR (sR S4 0 5 (some 365)) 0 6 (some 366)) 60 := n5
  refine hP _ (h6.mo (fun a b hq => ?_)) n6
  rcases hf : fx a b with _ | q
  · exact .inl (.inl (.inl (.inl (.inl (.inl (.inl (.inl (.inl (.inl (.inl (.inl (.inl rfl))))))))))))
  · rcases hq with hq | hq
    · rw [hf] at hq; cases hq
    · have := fx_cov hf hq
      rcases this with ⟨e, z⟩ | ⟨e, z⟩ | q | q | q | ⟨e, z⟩ | q | q
      · have : b = 0 ∨ b = 1 ∨ b = 2 ∨ b = 3 ∨ b = 5 ∨ b = 6 := by omega
        rcases this with z | z | z | z | z | z
        · exact .inl (.inl (.inl (.inl (.inl (.inl (.inl (.inl (.inl (.inr ⟨e, z⟩)))))))))
        · exact .inl (.inl (.inl (.inl (.inl (.inl (.inl (.inr ⟨e, z⟩)))))))
        · exact .inl (.inl (.inl (.inl (.inr ⟨e, z⟩))))
        · exact .inl (.inl (.inl (.inr ⟨e, z⟩)))
        · exact .inl (.inr ⟨e, z⟩)
        · exact .inr ⟨e, z⟩
      · rcases z with z | z | z
        · exact .inl (.inl (.inl (.inl (.inl (.inl (.inl (.inl (.inl (.inl (.inl (.inl (.inr ⟨e, z⟩))))))))))))
        · exact .inl (.inl (.inl (.inl (.inl (.inl (.inl (.inl (.inl (.inl (.inl (.inr ⟨e, z⟩)))))))))))
        · exact .inl (.inl (.inl (.inl (.inl (.inl (.inl (.inl (.inl (.inl (.inr ⟨e, z⟩))))))))))
      · exact .inl (.inl (.inl (.inl (.inl (.inl (.inl (.inl (.inr (.inl q)))))))))
      · exact .inl (.inl (.inl (.inl (.inl (.inl (.inl (.inl (.inr (.inr (.inl q))))))))))
      · exact .inl (.inl (.inl (.inl (.inl (.inl (.inl (.inl (.inr (.inr (.inr q))))))))))
      · have : b = 0 ∨ b = 1 := by omega
        rcases this with z | z
        · exact .inl (.inl (.inl (.inl (.inl (.inl (.inr ⟨e, z⟩))))))
        · exact .inl (.inl (.inl (.inl (.inl (.inr ⟨e, z⟩)))))
      · exact .inl (.inl (.inr (.inl ⟨q.1, Nat.zero_le _, q.2⟩)))
      · exact .inl (.inl (.inr (.inr q)))
theorem fx_367 {b : Nat} : fx 367 b = if 3 < b ∧ b < 10 then some (364 + b) else if 10 < b ∧ b < 13 then some (363 + b) else if 13 < b ∧ b < 28 then some (362 + b) else none := rfl
theorem fx_far {a b : Nat} (ha : 367 < a) : fx a b = none := by
  unfold fx
  rw [if_neg (by omega), if_neg (by omega), if_neg (by omega), if_neg (by omega), if_neg (by omega), if_neg (by omega), if_neg (by omega), if_neg (by omega)]
  have : ¬ kd a = 1 := by
    unfold kd
    intro h
    rw [if_neg (by omega), if_neg (by omega), if_neg (by omega), if_neg (by omega), if_neg (by omega), if_neg (by omega), if_neg (by omega), if_neg (by omega), if_neg (by omega), if_neg (by omega), if_neg (by omega), if_neg (by omega), if_neg (by omega), if_neg (by omega), if_neg (by omega)] at h
    repeat' split at h
    all_goals omega
  rw [if_neg this]
/-- the references of the reference, one by one -/
def Rs (S : St) (n : Nat) : Prop := ∀ a b, (a ≠ 367 ∨ b < n ∨ fx 367 b = none) → gR S a b = fx a b
theorem Rs.w {S : St} {n m : Nat} (h : Rs S n) (hm : n + 1 = m) {v : Option Nat} (hv : fx 367 n = v) : Rs (sR S 367 n v) m := by
  intro a b hq
  by_cases e : a = 367 ∧ b = n
  · rw [e.1, e.2, gR_s, hv]
  · rw [gR_n e]
    refine h a b ?_
    rcases hq with q | q | q
    · exact .inl q
    · by_cases z : b = n
      · exact .inl (fun y => e ⟨y, z⟩)
      · exact .inr (.inl (by omega))
    · exact .inr (.inr q)
theorem Rs.sk {S : St} {n m : Nat} (h : Rs S n) (hm : n + 1 = m) (hv : fx 367 n = none) : Rs S m := by
  intro a b hq
  refine h a b ?_
  rcases hq with q | q | q
  · exact .inl q
  · by_cases e : b = n
    · rw [e]; exact .inr (.inr hv)
    · exact .inr (.inl (by omega))
  · exact .inr (.inr q)
/-- the reference is emptied -/
theorem x_empties (S : St) (P : St → Prop) (hP : ∀ S', agr (fun k => k ≠ 367 ∧ k ≠ 368 ∧ k ≠ 373) S S' → (gI S' 367 1 = gI S 367 1 ∧ gI S' 367 2 = gI S 367 2 ∧ gI S' 367 3 = 0 ∧ gI S' 367 10 = 0 ∧ gI S' 367 13 = 0) → (∀ a b, gR S' a b = gR S a b) → (∀ a b, gJ S' a b = gJ S a b) → (∀ a b, gD S' a b = gD S a b) → (∀ j, j ≠ 3 ∧ j ≠ 10 ∧ j ≠ 13 → gI S' 367 j = gI S 367 j) → (∀ v, v < 8 → gI S' 368 v = b2i false) → (∀ z, z < 112 → gI S' 373 z = -1) → P S') : wp_X6_empties S P := by
  unfold wp_X6_empties
  rintro _ rfl _ rfl _ rfl
  have f1 : gI (sI (sI (sI S 367 3 0) 367 10 0) 367 13 0) 367 1 = gI S 367 1 ∧ gI (sI (sI (sI S 367 3 0) 367 10 0) 367 13 0) 367 2 = gI S 367 2 ∧ gI (sI (sI (sI S 367 3 0) 367 10 0) 367 13 0) 367 3 = 0 ∧ gI (sI (sI (sI S 367 3 0) 367 10 0) 367 13 0) 367 10 = 0 ∧ gI (sI (sI (sI S 367 3 0) 367 10 0) 367 13 0) 367 13 = 0 := by
    simp (disch := omega) only [gI_s, gJ_s, gR_s, gI_n, gJ_n, gR_n, gI_sJ, gI_sR, gI_sD, gJ_sI, gJ_sR, gJ_sD, gR_sI, gR_sJ, gR_sD]; exact ⟨trivial, trivial, trivial, trivial, trivial⟩
  have f2 : ∀ j, j ≠ 3 ∧ j ≠ 10 ∧ j ≠ 13 → gI (sI (sI (sI S 367 3 0) 367 10 0) 367 13 0) 367 j = gI S 367 j := fun j hj => by
    rw [gI_n (by omega), gI_n (by omega), gI_n (by omega)]
  have ag1 : agr (fun k => k ≠ 367) S (sI (sI (sI S 367 3 0) 367 10 0) 367 13 0) := ((agr_sI (by omega) _ _ _).tr (agr_sI (by omega) _ _ _)).tr (agr_sI (by omega) _ _ _)
  have fR : (∀ a b, gR (sI (sI (sI S 367 3 0) 367 10 0) 367 13 0) a b = gR S a b) ∧ (∀ a b, gJ (sI (sI (sI S 367 3 0) 367 10 0) 367 13 0) a b = gJ S a b) ∧ (∀ a b, gD (sI (sI (sI S 367 3 0) 367 10 0) 367 13 0) a b = gD S a b) := ⟨fun _ _ => rfl, fun _ _ => rfl, fun _ _ => rfl⟩
  generalize sI (sI (sI S 367 3 0) 367 10 0) 367 13 0 = S1 at *
  have second : ∀ (N c : Nat) (S2 : St), c ≤ 112 → 112 < N + c → agr (fun k => k ≠ 367 ∧ k ≠ 368 ∧ k ≠ 373) S S2 → ceq S1 S2 367 → ((∀ a b, gR S2 a b = gR S a b) ∧ (∀ a b, gJ S2 a b = gJ S a b) ∧ (∀ a b, gD S2 a b = gD S a b)) → (∀ v, v < 8 → gI S2 368 v = b2i false) → (∀ z, z < c → gI S2 373 z = -1) → wp_X6_empties_38 P N S2 (nI c) := by
    intro N
    induction N with
    | zero => intro c S2 h1 h2; omega
    | succ N ih =>
      intro c S2 h1 h2 hag h67 hr h68 h73
      rw [wp_X6_empties_38]
      dsimp only
      by_cases q : c = 112
      · rw [if_pos (by simp (disch := omega) only [n_0, n_1, n_2, n_3, n_7, n_8, n_9, n_10, n_12, n_14, n_18, n_20, n_60, n_112, n_162, n_255, n_1000, nI_add, n_mul, nI_ltI, nI_leI, nI_eq, nI_clamp]; omega)]
        refine hP S2 hag ?_ hr.1 hr.2.1 hr.2.2 (fun j hj => by rw [h67.1]; exact f2 j hj) h68 (fun z hz => h73 z (by omega))
        rw [h67.1, h67.1, h67.1, h67.1, h67.1]; exact f1
      · rw [if_neg (by simp (disch := omega) only [n_0, n_1, n_2, n_3, n_7, n_8, n_9, n_10, n_12, n_14, n_18, n_20, n_60, n_112, n_162, n_255, n_1000, nI_add, n_mul, nI_ltI, nI_leI, nI_eq, nI_clamp]; omega), nI_clamp (by omega)]
        refine ⟨vp_in_nI (by omega) (by omega), ?_⟩
        rintro _ rfl _ rfl
        rw [nI_1]
        refine ih (c + 1) _ (by omega) (by omega) (hag.tr (agr_sI (by omega) _ _ _)) (h67.tr ((agr_sI (p := fun k => k = 367) (by omega) _ _ _) _ rfl)) hr (fun v hv => ?_) (fun z hz => ?_)
        · simp (disch := omega) only [gI_s, gJ_s, gR_s, gI_n, gJ_n, gR_n, gI_sJ, gI_sR, gI_sD, gJ_sI, gJ_sR, gJ_sD, gR_sI, gR_sJ, gR_sD]; exact h68 v hv
        · by_cases e : z = c
          · rw [e, gI_s]
          · simp (disch := omega) only [gI_s, gJ_s, gR_s, gI_n, gJ_n, gR_n, gI_sJ, gI_sR, gI_sD, gJ_sI, gJ_sR, gJ_sD, gR_sI, gR_sJ, gR_sD]; exact h73 z (by omega)
  have first : ∀ (N c : Nat) (S2 : St), c ≤ 8 → 8 < N + c → agr (fun k => k ≠ 367 ∧ k ≠ 368) S S2 → ceq S1 S2 367 → ((∀ a b, gR S2 a b = gR S a b) ∧ (∀ a b, gJ S2 a b = gJ S a b) ∧ (∀ a b, gD S2 a b = gD S a b)) → (∀ v, v < c → gI S2 368 v = b2i false) → wp_X6_empties_17 P N S2 (nI c) := by
    intro N
    induction N with
    | zero => intro c S2 h1 h2; omega
    | succ N ih =>
      intro c S2 h1 h2 hag h67 hr h68
      rw [wp_X6_empties_17]
      dsimp only
      by_cases q : c = 8
      · rw [if_pos (by simp (disch := omega) only [n_0, n_1, n_2, n_3, n_7, n_8, n_9, n_10, n_12, n_14, n_18, n_20, n_60, n_112, n_162, n_255, n_1000, nI_add, n_mul, nI_ltI, nI_leI, nI_eq, nI_clamp]; omega)]
        unfold wp_X6_empties_36
        obtain ⟨M, hM⟩ : ∃ M, 112 < M := ⟨113, by omega⟩
        exact ⟨M, second M 0 S2 (by omega) (by omega) (hag.mo (fun k hk => by omega)) h67 hr (fun v hv => h68 v (by omega)) (fun z hz => absurd hz (Nat.not_lt_zero _))⟩
      · rw [if_neg (by simp (disch := omega) only [n_0, n_1, n_2, n_3, n_7, n_8, n_9, n_10, n_12, n_14, n_18, n_20, n_60, n_112, n_162, n_255, n_1000, nI_add, n_mul, nI_ltI, nI_leI, nI_eq, nI_clamp]; omega), nI_clamp (by omega)]
        refine ⟨vp_in_nI (by omega) (by omega), ?_⟩
        rintro _ rfl _ rfl
        rw [nI_1]
        refine ih (c + 1) _ (by omega) (by omega) (hag.tr (agr_sI (by omega) _ _ _)) (h67.tr ((agr_sI (p := fun k => k = 367) (by omega) _ _ _) _ rfl)) hr (fun v hv => ?_)
        by_cases e : v = c
        · rw [e, gI_s]
        · simp (disch := omega) only [gI_s, gJ_s, gR_s, gI_n, gJ_n, gR_n, gI_sJ, gI_sR, gI_sD, gJ_sI, gJ_sR, gJ_sD, gR_sI, gR_sJ, gR_sD]; exact h68 v (by omega)
  obtain ⟨M, hM⟩ : ∃ M, 8 < M := ⟨9, by omega⟩
  exact ⟨M, first M 0 S1 (by omega) (by omega) (ag1.mo (fun k hk => by omega)) (ceq.rf _ _) fR (fun z hz => absurd hz (Nat.not_lt_zero _))⟩
theorem start_pure (xs : Nat → Int32) {L : Nat} (hL : L ≤ 2560) : wp_L_start xs L := by
  unfold wp_L_start
  refine s_X5 _ (fun S1 h1 n1 => ?_)
  have r0 : Rs S1 4 := by
    intro a b hq
    refine h1 a b ?_
    unfold QC5
    rcases Nat.lt_trichotomy a 367 with z | z | z
    · exact .inr z
    · left
      rcases hq with q | q | q
      · exact absurd z q
      · rw [z, fx_367, if_neg (by omega), if_neg (by omega), if_neg (by omega)]
      · rw [z]; exact q
    · exact .inl (fx_far z)
  unfold wp_X6_init
  rintro _ rfl _ rfl _ rfl _ rfl _ rfl _ rfl _ rfl _ rfl _ rfl _ rfl _ rfl _ rfl _ rfl _ rfl _ rfl _ rfl _ rfl _ rfl _ rfl _ rfl _ rfl _ rfl _ rfl _ rfl
  have r1 : Rs (sI (sI S1 367 1 4) 367 2 4) 4 := r0
  have r2 := r1.w (m := 5) (v := some 368) rfl rfl
  have r3 := r2.w (m := 6) (v := some 369) rfl rfl
  have r4 := r3.w (m := 7) (v := some 370) rfl rfl
  have r5 := r4.w (m := 8) (v := some 371) rfl rfl
  have r6 := r5.w (m := 9) (v := some 372) rfl rfl
  have r7 := r6.w (m := 10) (v := some 373) rfl rfl
  have r8 := r7.sk (m := 11) rfl rfl
  have r9 := r8.w (m := 12) (v := some 374) rfl rfl
  have r10 := r9.w (m := 13) (v := some 375) rfl rfl
  have r11 := r10.sk (m := 14) rfl rfl
  have r12 := r11.w (m := 15) (v := some 376) rfl rfl
  have r13 := r12.w (m := 16) (v := some 377) rfl rfl
  have r14 := r13.w (m := 17) (v := some 378) rfl rfl
  have r15 := r14.w (m := 18) (v := some 379) rfl rfl
  have r16 := r15.w (m := 19) (v := some 380) rfl rfl
  have r17 := r16.w (m := 20) (v := some 381) rfl rfl
  have r18 := r17.w (m := 21) (v := some 382) rfl rfl
  have r19 := r18.w (m := 22) (v := some 383) rfl rfl
  have r20 := r19.w (m := 23) (v := some 384) rfl rfl
  have r21 := r20.w (m := 24) (v := some 385) rfl rfl
  have r22 := r21.w (m := 25) (v := some 386) rfl rfl
  have r23 := r22.w (m := 26) (v := some 387) rfl rfl
  have r24 := r23.w (m := 27) (v := some 388) rfl rfl
  have r25 := r24.w (m := 28) (v := some 389) rfl rfl
  have n2 : ∀ S2 : St, (∀ k j, gI S2 k j = gI (sI (sI S1 367 1 4) 367 2 4) k j) → (∀ k j, gJ S2 k j = gJ S1 k j) → (∀ k j, gD S2 k j = gD S1 k j) → Rs S2 28 → Fx S2 ∧ wp_X6_empties S2 (fun S193 => (Zr 390 S193 ∧ (Fx S193 ∧ wp_L_law_28 xs L 513 S193 0))) := by
    intro S2 e1 e2 e3 hR
    have hall : ∀ a b, gR S2 a b = fx a b := by
      intro a b
      refine hR a b ?_
      by_cases z : a = 367
      · by_cases z2 : b < 28
        · exact .inr (.inl z2)
        · exact .inr (.inr (by rw [fx_367, if_neg (by omega), if_neg (by omega), if_neg (by omega)]))
      · exact .inl z
    have hfx : ∀ S3 : St, (∀ a b, gR S3 a b = gR S2 a b) → Fx S3 := by
      intro S3 h3
      refine ⟨fun k j q hq => by rw [h3, hall]; exact hq, fun q hq => ?_, fun q hq => ?_, fun j q hq => ?_⟩
      · rw [h3, hall] at hq; cases hq
      · rw [h3, hall] at hq; cases hq
      · rw [h3, hall] at hq; cases hq
    refine ⟨hfx S2 (fun _ _ => rfl), ?_⟩
    have g1 : ∀ k j, gI S2 k j = if k = 367 ∧ (j = 1 ∨ j = 2) then 4 else if k = 1 ∧ j < 2 then 4 else if 185 ≤ k ∧ k < 365 ∧ (k - 185) % 3 = 0 ∧ j = 0 then nI ((k - 185) / 3) else 0 := by
      intro k j
      rw [e1, gI_sI, gI_sI, n1.1]
      by_cases z : k = 367 ∧ j = 2
      · rw [if_pos z, if_pos (by omega)]
      · rw [if_neg z]
        by_cases z2 : k = 367 ∧ j = 1
        · rw [if_pos z2, if_pos (by omega)]
        · rw [if_neg z2, if_neg (show ¬ (k = 367 ∧ (j = 1 ∨ j = 2)) by omega)]
    refine x_empties S2 _ (fun S3 hag hk3 hR3 hJ3 hD3 h67 h68 h73 => ?_)
    have hF3 := hfx S3 hR3
    have hz3 : Zr 390 S3 := by
      intro k hk j
      have c := hag k (by omega)
      refine ⟨?_, ?_, ?_, ?_⟩
      · rw [c.1, g1, if_neg (by omega), if_neg (by omega), if_neg (by omega)]
      · rw [hJ3, e2]; exact n1.2.1 k j
      · rw [hR3, hall, fx_far (by omega)]
      · rw [hD3, e3]; exact n1.2.2 k j
    refine ⟨hz3, hF3, ?_⟩
    have hC : ∀ k j, k < 367 → gI S3 k j = gI S2 k j := fun k j hk => (hag k (by omega)).1 j
    refine law_pure xs hL 513 0 S3 (xB 4 4) (by omega) (by omega) ⟨WF.kB ⟨by omega, by omega⟩ ⟨by omega, by omega⟩, ?_, ?_, ?_⟩
    · have m0 : mk 8 (cv (xB 4 4)) = 0 := (mk_zero 8 _).mpr (fun _ _ => rfl)
      have m1 : mk 14 (ct (xB 4 4)) = 0 := (mk_zero 14 _).mpr (fun _ _ => rfl)
      refine ⟨⟨?_, ?_, ?_, ?_, ?_⟩, ?_, ⟨?_, ?_⟩, ?_, ?_, ?_⟩
      · rw [hC 1 0 (by omega), g1, if_neg (by omega), if_pos (by omega)]; rfl
      · rw [hC 1 1 (by omega), g1, if_neg (by omega), if_pos (by omega)]; rfl
      · rw [hC 1 2 (by omega), g1, if_neg (by omega), if_neg (by omega), if_neg (by omega)]; rfl
      · rw [hC 1 3 (by omega), g1, if_neg (by omega), if_neg (by omega), if_neg (by omega), m0]; rfl
      · rw [hC 1 4 (by omega), g1, if_neg (by omega), if_neg (by omega), if_neg (by omega), m1]; rfl
      · intro f hf; rw [xB_nF] at hf; omega
      · rw [hC 0 4 (by omega), g1, if_neg (by omega), if_neg (by omega), if_neg (by omega)]; rfl
      · rw [hC 0 7 (by omega), g1, if_neg (by omega), if_neg (by omega), if_neg (by omega)]; rfl
      · intro f hf; rw [xB_nR] at hf; omega
      · intro l hl
        rw [hC _ _ (by omega), g1, if_neg (by omega), if_neg (by omega), if_pos (by omega)]
        congr 1; omega
      · intro f hf; rw [xB_nL] at hf; omega
    · intro c hc
      rw [hC _ _ (by omega), g1, if_neg (by omega), if_neg (by omega), if_neg (by omega)]
    · obtain ⟨k1, k2, k3, k4, k5⟩ := hk3
      refine ⟨⟨?_, ?_, ?_, ?_, ?_⟩, ?_, ?_, ?_, ?_, ?_⟩
      · rw [k1, g1, if_pos (by omega)]; rfl
      · rw [k2, g1, if_pos (by omega)]; rfl
      · rw [k3]; rfl
      · rw [k4]; rfl
      · rw [k5]; rfl
      · intro v hv; exact h68 v hv
      · intro f hf; rw [xB_nF] at hf; omega
      · intro f w hf hw
        rw [h73 _ (by omega), usr_none.mpr (fun l hl => by rw [xB_nL] at hl; omega)]; rfl
      · intro r hr; rw [xB_nR] at hr; omega
      · intro l hl; rw [xB_nL] at hl; omega
  exact n2 _ (fun _ _ => by simp only [gI_sR]) (fun _ _ => by simp only [gJ_sR, gJ_sI]) (fun _ _ => by simp only [gD_sR, gD_sI]) r25
