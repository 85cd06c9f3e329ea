/-! THE PURE LAYER: what calls keep; what the constructor leaves -/
theorem mvb_t {a : Ab} {w : Wy} (hw8 : nW a ≤ 8) (hg : GW a w) (hb : mvb a w = true) : w.2.2 = 0 ∧ lwf a w < nW a ∧ lwf a w < 8 ∧ ∀ c ∈ w.1, usr a (c / 10) (lwf a w) = none := by
  unfold mvb at hb
  rw [Bool.and_eq_true, beq_iff_eq, decide_eq_true_iff] at hb
  obtain ⟨h0, h1⟩ := hb
  have hm : w.1.headD 0 % 10 < nW a := by
    rcases hq : w.1 with _ | ⟨z, r⟩
    · have := hg.1; rw [hq] at this; simp at this
    · exact (hg.2.2.1 z (by rw [hq]; exact List.mem_cons_self)).2
  have h8 : lwf a w < 8 := by omega
  refine ⟨h0, by omega, h8, fun c hc => ?_⟩
  have := low_is (n := 8) (p := fun x => w.1.all (fun c => (usr a (c / 10) x).isNone)) h8
  rw [show low 8 (fun x => w.1.all (fun c => (usr a (c / 10) x).isNone)) = lwf a w from rfl, List.all_eq_true] at this
  exact Option.isNone_iff_eq_none.mp (this c hc)
theorem mv_WF {a : Ab} {l i : Nat} {w : Wy} (h : WF a) (hl : l < nL a) (hw : (wy a l)[i]? = some w) (hb : mvb a w = true) : WF (xW a l ((wy a l).set i (mvd (lwf a w) w))) := by
  have hg := ((h.ways hl).2 i w hw).2.1
  obtain ⟨h0, h1, h8, hf⟩ := mvb_t h.2.1.2 hg hb
  have hne : wy a l ≠ [] := fun z => by rw [z] at hw; simp at hw
  refine h.kW hl (mvd_NW h hl hw h1 h0 hf) hne (fun z => hne ?_)
  have := congrArg List.length z
  rw [List.length_set] at this
  simpa using this
theorem wf_addFibre {a : Ab} (h : WF a) {x y z v : Int32} {b : Ab} (hq : q_addFibre a x y z = .ok (v, b)) : WF b := by
  unfold q_addFibre at hq
  split at hq
  · rename_i c
    rw [Bool.and_eq_true] at c
    split at hq
    · cases hq
    · rename_i c2
      obtain ⟨i, j, hi, hj, hij, rfl, rfl⟩ := two_t h.1.2 c.1
      obtain ⟨k, k1, k2, rfl⟩ := rg_t (lo := 1) (hi := 1000) (by omega) (by omega) c.2
      have h8 := h.1.2
      have h14 := h.2.2.1
      rw [tN_nI (by omega), tN_nI (by omega), tN_nI (by omega)] at hq
      cases hq
      exact h.kF hi hj hij ⟨k1, k2⟩ (by omega)
  · cases hq
theorem wf_cut {a : Ab} (h : WF a) {x v : Int32} {b : Ab} (hq : q_cut a x = .ok (v, b)) : WF b := by
  unfold q_cut at hq
  split at hq
  · rename_i c
    split at hq
    · cases hq
    · have h14 := h.2.2.1
      obtain ⟨f, hf, rfl⟩ := isn_t (by omega) c
      rw [tN_nI (by omega)] at hq
      cases hq
      exact h.kK true hf
  · cases hq
theorem wf_repair {a : Ab} (h : WF a) {x v : Int32} {b : Ab} (hq : q_repair a x = .ok (v, b)) : WF b := by
  unfold q_repair at hq
  split at hq
  · rename_i c
    split at hq
    · have h14 := h.2.2.1
      obtain ⟨f, hf, rfl⟩ := isn_t (by omega) c
      rw [tN_nI (by omega)] at hq
      cases hq
      exact h.kK false hf
    · cases hq
  · cases hq
theorem wf_request {a : Ab} (h : WF a) {x y d r v : Int32} {b : Ab} (hq : q_request a x y d r = .ok (v, b)) : WF b := by
  unfold q_request at hq
  split at hq
  · rename_i c
    rw [Bool.and_eq_true, Bool.and_eq_true] at c
    obtain ⟨i, j, hi, hj, hij, rfl, rfl⟩ := two_t h.1.2 c.1
    obtain ⟨e, e1, e2, rfl⟩ := rg_t (lo := 1) (hi := 10) (by omega) (by omega) c.2.1
    obtain ⟨k, k1, k2, rfl⟩ := rg_t (lo := 0) (hi := 2) (by omega) (by omega) c.2.2
    have h8 := h.1.2
    have h60 := h.2.2.2.2.1
    rw [tN_nI (by omega), tN_nI (by omega), tN_nI (by omega), tN_nI (by omega)] at hq
    split at hq
    · cases hq
    · rename_i c2
      rcases hm : rmf a i j e k with _ | l
      · rw [hm] at hq
        dsimp only at hq
        split at hq
        · rename_i c3
          cases hq
          exact h.kLR hi hj hij (fnd_NW h hi k2).1 c3.2 ⟨e1, e2⟩ (by omega) c3.1
        · cases hq
      · rw [hm] at hq
        dsimp only at hq
        cases hq
        unfold rmf at hm
        have hl := List.mem_range.mp (List.mem_of_find?_eq_some hm)
        have hr := List.find?_some hm
        unfold rmy at hr
        simp only [Bool.and_eq_true, decide_eq_true_iff] at hr
        exact h.kR hl e1 hr.2 (lup_ne hr.1.1.1) (by omega)
  · cases hq
theorem wf_release {a : Ab} (h : WF a) {x v : Int32} {b : Ab} (hq : q_release a x = .ok (v, b)) : WF b := by
  unfold q_release at hq
  split at hq
  · rename_i c
    have h60 := h.2.2.2.2.1
    obtain ⟨r, hr, rfl⟩ := isn_t (by omega) c
    rw [tN_nI (by omega)] at hq
    split at hq
    · cases hq
    · rename_i c2
      cases hq
      exact h.kls hr c2
  · cases hq
theorem wf_reroute {a : Ab} (h : WF a) {x v : Int32} {b : Ab} (hq : q_reroute a x = .ok (v, b)) : WF b := by
  unfold q_reroute at hq
  split at hq
  · rename_i c
    have h60 := h.n60
    obtain ⟨l, hl, rfl⟩ := isn_t (by omega) c
    rw [tN_nI (by omega)] at hq
    rcases hr : rrt a l with _ | w
    · rw [hr] at hq; cases hq
    · rw [hr] at hq
      dsimp only at hq
      cases hq
      have hne : wy a l ≠ [] := fun z => by unfold rrt at hr; rw [z] at hr; cases hr
      have hf : fnd0 a l (sn a l) (en a l) = some w := by
        unfold rrt at hr
        split at hr
        · exact hr
        · cases hr
      exact h.kW hl ((fnd0_FW h (h.lig l hl).1 hf).NW1 h (.inl rfl)) hne (by simp)
  · cases hq
theorem wf_merge {a : Ab} (h : WF a) {v : Int32} {b : Ab} (hq : q_merge a = .ok (v, b)) : WF b := by
  unfold q_merge at hq
  split at hq
  · rename_i c
    cases hq
    have h1 := low_is c
    rw [decide_eq_true_iff] at h1
    have h2 := low_is h1
    rw [Bool.and_eq_true, decide_eq_true_iff] at h2
    obtain ⟨hne, hu⟩ := mga_t h2.2
    exact h.kM c h1 (Nat.ne_of_lt h2.1) hu hne
  · cases hq
theorem wf_move {a : Ab} (h : WF a) {v : Int32} {b : Ab} (hq : q_move a = .ok (v, b)) : WF b := by
  unfold q_move at hq
  split at hq
  · rename_i c
    cases hq
    have h1 := low_is c
    rw [decide_eq_true_iff] at h1
    have h2 := low_is h1
    have hw : (wy a (mv0 a))[mv1 a (mv0 a)]? = some ((wy a (mv0 a))[mv1 a (mv0 a)]'h1) := List.getElem?_eq_getElem h1
    have e : mvw a (mv0 a) (mv1 a (mv0 a)) = xW a (mv0 a) ((wy a (mv0 a)).set (mv1 a (mv0 a)) (mvd (lwf a ((wy a (mv0 a))[mv1 a (mv0 a)]'h1)) ((wy a (mv0 a))[mv1 a (mv0 a)]'h1))) := by unfold mvw; rw [hw]
    rw [e]
    refine mv_WF h c hw ?_
    have h3 : (match (wy a (mv0 a))[mv1 a (mv0 a)]? with | none => false | some w => mvb a w) = true := h2
    rw [hw] at h3
    exact h3
  · cases hq
theorem wf_begin {x y : Int32} {v : Unit} {b : Ab} (hq : q_begin x y = .ok (v, b)) : WF b := by
  unfold q_begin at hq
  split at hq
  · rename_i c
    rw [Bool.and_eq_true] at c
    obtain ⟨i, i1, i2, rfl⟩ := rg_t (lo := 2) (hi := 8) (by omega) (by omega) c.1
    obtain ⟨j, j1, j2, rfl⟩ := rg_t (lo := 1) (hi := 8) (by omega) (by omega) c.2
    rw [tN_nI (by omega), tN_nI (by omega)] at hq
    cases hq
    exact WF.kB ⟨i1, i2⟩ ⟨j1, j2⟩
  · cases hq
theorem wf_toggle {a : Ab} (h : WF a) {x : Int32} {v : Bool} {b : Ab} (hq : q_toggle a x = .ok (v, b)) : WF b := by
  unfold q_toggle at hq
  split at hq
  · rename_i c
    have h8 := h.1.2
    obtain ⟨u, hu, rfl⟩ := isn_t (by omega) c
    rw [tN_nI (by omega)] at hq
    cases hq
    exact h.kC _ hu
  · cases hq
def Hs (S : St) (Q : Nat → Nat → Prop) : Prop := ∀ a b, Q a b → gR S a b = fx a b
theorem Hs.w {S : St} {Q : Nat → Nat → Prop} (h : Hs S Q) {k j : Nat} {v : Option Nat} (hv : fx k j = v) : Hs (sR S k j v) (fun a b => Q a b ∨ (a = k ∧ b = j)) := by
  intro a b hq
  by_cases e : a = k ∧ b = j
  · rw [e.1, e.2, gR_s, hv]
  · rw [gR_n e]
    rcases hq with q | q
    · exact h a b q
    · exact absurd q e
theorem Hs.i {S : St} {Q : Nat → Nat → Prop} (h : Hs S Q) (k j : Nat) (v : Int32) : Hs (sI S k j v) Q := h
theorem Hs.mo {S : St} {Q R : Nat → Nat → Prop} (h : Hs S Q) (hq : ∀ a b, R a b → Q a b) : Hs S R := fun a b hr => h a b (hq a b hr)
theorem Hs.m {S : St} {Q : Nat → Nat → Prop} (h : Hs S Q) : Hs (mrow S 10 7) (fun a b => Q a b ∨ (a = 10 ∧ b < 7)) := by
  intro a b hq
  rw [gR_mrow]
  by_cases e : a = 10 ∧ b < 7
  · rw [if_pos e, e.1, fx_10 e.2]
  · rw [if_neg e]
    rcases hq with q | q
    · exact h a b q
    · exact absurd q e
def Nm (S S' : St) : Prop := ∀ k j, gI S' k j = gI S k j ∧ gJ S' k j = gJ S k j ∧ gD S' k j = gD S k j
theorem Nm.rf (S : St) : Nm S S := fun _ _ => ⟨rfl, rfl, rfl⟩
theorem Nm.w {S S' : St} (h : Nm S S') (k j : Nat) (v : Option Nat) : Nm S (sR S' k j v) := fun a b => h a b
theorem Nm.m {S S' : St} (h : Nm S S') : Nm S (mrow S' 10 7) := fun a b => h a b
theorem s_ways {P : St → Prop} {Q : Nat → Nat → Prop} : ∀ (r i : Nat) (S S0 : St), r + i = 162 → Hs S Q → Q 5 11 → Nm S0 S → (∀ S', Hs S' (fun a b => Q a b ∨ (a = 18 ∧ i ≤ b ∧ b < 162)) → Nm S0 S' → P S') → wl_X4 P r i S := by
  intro r
  induction r generalizing Q with
  | zero =>
    intro i S S0 h1 h2 hq hn hP
    refine hP S (h2.mo (fun a b hr => ?_)) hn
    rcases hr with q | q
    · exact q
    · omega
  | succ r ih =>
    intro i S S0 h1 h2 hq hn hP
    rw [wl_X4]
    refine ⟨(h2 5 11 hq).trans rfl, ?_⟩
    rintro _ rfl
    refine ih (Q := fun a b => Q a b ∨ (a = 18 ∧ b = i)) (i + 1) _ S0 (by omega) (h2.w (fx_18 (by omega))) (.inl hq) (hn.w _ _ _) (fun S' h3 h4 => hP S' (h3.mo (fun a b hr => ?_)) h4)
    rcases hr with q | q
    · exact .inl (.inl q)
    · by_cases e : b = i
      · exact .inl (.inr ⟨q.1, e⟩)
      · exact .inr ⟨q.1, by omega, q.2.2⟩
theorem s_X4 {S : St} {Q : Nat → Nat → Prop} (h : Hs S Q) (P : St → Prop) (hP : ∀ S', Hs S' (fun a b => Q a b ∨ (a = 5 ∧ (b = 2 ∨ b = 3 ∨ (7 ≤ b ∧ b ≤ 11))) ∨ (a = 10 ∧ b < 7) ∨ (a = 18 ∧ b < 162)) → Nm S S' → P S') : wp_X4_init S P := by
  unfold wp_X4_init
  rintro _ rfl _ rfl _ rfl _ rfl _ rfl _ rfl _ rfl _ rfl
  refine s_ways 162 0 _ S rfl ((((((((h.w (by rfl)).w (by rfl)).w (by rfl)).w (by rfl)).m).w (by rfl)).w (by rfl)).w (by rfl)) (.inl (.inr ⟨rfl, rfl⟩)) (((((((((Nm.rf S).w _ _ _).w _ _ _).w _ _ _).w _ _ _).m).w _ _ _).w _ _ _).w _ _ _) (fun S' h2 h3 => hP S' (h2.mo (fun a b hr => ?_)) h3)
  rcases hr with q | q | q | q
  · exact .inl (.inl (.inl (.inl (.inl (.inl (.inl (.inl (.inl q))))))))
  · have : b = 2 ∨ b = 3 ∨ b = 7 ∨ b = 8 ∨ b = 9 ∨ b = 10 ∨ b = 11 := by omega
    rcases this with e | e | e | e | e | e | e
    · exact .inl (.inl (.inl (.inl (.inl (.inl (.inl (.inl (.inr ⟨q.1, e⟩))))))))
    · exact .inl (.inr ⟨q.1, e⟩)
    · exact .inl (.inl (.inl (.inl (.inl (.inl (.inl (.inr ⟨q.1, e⟩)))))))
    · exact .inl (.inl (.inl (.inl (.inl (.inl (.inr ⟨q.1, e⟩))))))
    · exact .inl (.inl (.inl (.inl (.inl (.inr ⟨q.1, e⟩)))))
    · exact .inl (.inl (.inl (.inr ⟨q.1, e⟩)))
    · exact .inl (.inl (.inr ⟨q.1, e⟩))
  · exact .inl (.inl (.inl (.inl (.inr q))))
  · exact .inr ⟨q.1, by omega, q.2⟩
def NmC (S : St) (n : Nat) : Prop := (∀ k j, gI S k j = if k = 1 ∧ j < 2 then 4 else if 185 ≤ k ∧ k < 185 + 3 * n ∧ (k - 185) % 3 = 0 ∧ j = 0 then nI ((k - 185) / 3) else 0) ∧ (∀ k j, gJ S k j = 0) ∧ (∀ k j, gD S k j = 0)
theorem NmC.nm {S S' : St} {n : Nat} (h : NmC S n) (e : Nm S S') : NmC S' n := ⟨fun k j => by rw [(e k j).1]; exact h.1 k j, fun k j => by rw [(e k j).2.1]; exact h.2.1 k j, fun k j => by rw [(e k j).2.2]; exact h.2.2 k j⟩
theorem s_lights {P : St → Prop} {Q : Nat → Nat → Prop} : ∀ (r i : Nat) (S : St), r + i = 60 → Hs S Q → Q 0 3 → NmC S i →
    (∀ S', Hs S' (fun a b => Q a b ∨ (a = 184 ∧ i ≤ b ∧ b < 60) ∨ (185 + 3 * i ≤ a ∧ a < 365 ∧ (a - 185) % 3 = 0 ∧ (b = 1 ∨ b = 2))) → NmC S' 60 → P S') → wl_X5 P r i S := by
  intro r
  induction r generalizing Q with
  | zero =>
    intro i S h1 h2 hq hn hP
    have : i = 60 := by omega
    subst this
    refine hP S (h2.mo (fun a b hr => ?_)) hn
    rcases hr with q | q | q
    · exact q
    · omega
    · omega
  | succ r ih =>
    intro i S h1 h2 hq hn hP
    rw [wl_X5]
    refine ⟨(h2 0 3 hq).trans rfl, ?_⟩
    unfold wp_X1_init wp_X3_init
    rintro _ rfl _ rfl _ rfl _ rfl
    have hd : kd (185 + 3 * i) = 1 := kd_Li (by omega)
    refine ih (Q := fun a b => (((Q a b ∨ (a = 185 + 3 * i ∧ b = 1)) ∨ (a = 185 + 3 * i ∧ b = 2)) ∨ (a = 184 ∧ b = i))) (i + 1) _ (by omega) ?_ (.inl (.inl (.inl hq))) ?_ (fun S' h3 h4 => hP S' (h3.mo (fun a b hr => ?_)) h4)
    · exact (((h2.w (fx_L1 hd)).w (fx_L2 hd)).i _ _ _).w (fx_184 (by omega))
    · refine ⟨fun k j => ?_, fun k j => hn.2.1 k j, fun k j => hn.2.2 k j⟩
      rw [gI_sR, gI_sI]
      by_cases e : k = 185 + 3 * i ∧ j = 0
      · rw [if_pos e, if_neg (by omega), if_pos (by omega)]
        congr 1; omega
      · rw [if_neg e, gI_sR, gI_sR, hn.1 k j]
        by_cases e2 : k = 1 ∧ j < 2
        · rw [if_pos e2, if_pos e2]
        · rw [if_neg e2, if_neg e2]
          by_cases e3 : 185 ≤ k ∧ k < 185 + 3 * i ∧ (k - 185) % 3 = 0 ∧ j = 0
          · rw [if_pos e3, if_pos (by omega)]
          · rw [if_neg e3, if_neg (by omega)]
    · rcases hr with q | q | q
      · exact .inl (.inl (.inl (.inl q)))
      · by_cases e : b = i
        · exact .inl (.inr ⟨q.1, e⟩)
        · exact .inr (.inl ⟨q.1, by omega, q.2.2⟩)
      · by_cases e : a = 185 + 3 * i
        · rcases q.2.2.2 with z | z
          · exact .inl (.inl (.inl (.inr ⟨e, z⟩)))
          · exact .inl (.inl (.inr ⟨e, z⟩))
        · exact .inr (.inr ⟨by omega, q.2.1, q.2.2.1, q.2.2.2⟩)
def QC5 (a b : Nat) : Prop := fx a b = none ∨ a < 367
theorem fx_cov {a b q : Nat} (h : fx a b = some q) (ha : a < 367) : (a = 0 ∧ (b < 4 ∨ b = 5 ∨ b = 6)) ∨ (a = 1 ∧ (b = 5 ∨ b = 6 ∨ b = 7)) ∨ (a = 5 ∧ (b = 2 ∨ b = 3 ∨ (7 ≤ b ∧ b ≤ 11))) ∨ (a = 10 ∧ b < 7) ∨ (a = 18 ∧ b < 162) ∨ (a = 181 ∧ b < 2) ∨ (a = 184 ∧ b < 60) ∨ (185 ≤ a ∧ a < 365 ∧ (a - 185) % 3 = 0 ∧ (b = 1 ∨ b = 2)) := by
  by_cases hk : kd a = 1
  · have h3 := kd_La a (by omega) hk
    refine .inr (.inr (.inr (.inr (.inr (.inr (.inr ⟨h3.1, h3.2.1, h3.2.2, ?_⟩))))))
    unfold fx at h
    rw [if_neg (by omega), if_neg (by omega), if_neg (by omega), if_neg (by omega), if_neg (by omega), if_neg (by omega), if_neg (by omega), if_pos hk] at h
    by_cases e : b = 1
    · exact .inl e
    · rw [if_neg e] at h
      by_cases e2 : b = 2
      · exact .inr e2
      · rw [if_neg e2] at h; cases h
  · unfold fx at h
    rw [if_neg hk] at h
    split at h
    · repeat' split at h
      all_goals first | omega | cases h
    · split at h
      · repeat' split at h
        all_goals first | omega | cases h
      · split at h
        · repeat' split at h
          all_goals first | omega | cases h
        · split at h
          · repeat' split at h
            all_goals first | omega | cases h
          · split at h
            · repeat' split at h
              all_goals first | omega | cases h
            · split at h
              · repeat' split at h
                all_goals first | omega | cases h
              · split at h
                · repeat' split at h
                  all_goals first | omega | cases h
                · cases h
theorem s_X5 (P : St → Prop) (hP : ∀ S', Hs S' QC5 → NmC S' 60 → P S') : wp_X5_init S00 P := by
  have h0 : Hs S00 (fun a b => fx a b = none) := fun a b hq => hq.symm
  have n0 : NmC (sI (sI S00 1 0 4) 1 1 4) 0 := by
    refine ⟨fun k j => ?_, fun k j => rfl, fun k j => rfl⟩
    rw [gI_sI, gI_sI]
    by_cases e : k = 1 ∧ j = 1
    · rw [if_pos e, if_pos (by omega)]
    · rw [if_neg e]
      by_cases e2 : k = 1 ∧ j = 0
      · rw [if_pos e2, if_pos (by omega)]
      · rw [if_neg e2, if_neg (by omega), if_neg (by omega)]; rfl
  unfold wp_X5_init wp_X2_init
  rintro _ rfl _ rfl _ rfl _ rfl _ rfl _ rfl
  have h1 : Hs (sI (sI S00 1 0 4) 1 1 4) (fun a b => fx a b = none) := h0
  have n1 : NmC (sR (sR (sR (sR (sI (sI S00 1 0 4) 1 1 4) 1 5 (some 2)) 1 6 (some 3)) 1 7 (some 4)) 0 0 (some 1)) 0 := n0
  have h2 := (((h1.w (k := 1) (j := 5) (v := some 2) (by rfl)).w (k := 1) (j := 6) (v := some 3) (by rfl)).w (k := 1) (j := 7) (v := some 4) (by rfl)).w (k := 0) (j := 0) (v := some 1) (by rfl)
  generalize sR (sR (sR (sR (sI (sI S00 1 0 4) 1 1 4) 1 5 (some 2)) 1 6 (some 3)) 1 7 (some 4)) 0 0 (some 1) = S1 at *
  refine s_X4 h2 _ (fun S2 h3 n2 => ?_)
  have n3 := n1.nm n2
  rintro _ rfl
  unfold wp_X0_init
  rintro _ rfl _ rfl _ rfl _ rfl
  have h4 := ((((h3.w (k := 0) (j := 1) (v := some 5) (by rfl)).w (k := 181) (j := 0) (v := some 182) (by rfl)).w (k := 181) (j := 1) (v := some 183) (by rfl)).w (k := 0) (j := 2) (v := some 181) (by rfl)).w (k := 0) (j := 3) (v := some 184) (by rfl)
  have n4 : NmC (sR (sR (sR (sR (sR S2 0 1 (some 5)) 181 0 (some 182)) 181 1 (some 183)) 0 2 (some 181)) 0 3 (some 184)) 0 := n3
  generalize sR (sR (sR (sR (sR S2 0 1 (some 5)) 181 0 (some 182)) 181 1 (some 183)) 0 2 (some 181)) 0 3 (some 184) = S3 at *
  refine s_lights 60 0 S3 rfl h4 (.inr ⟨rfl, rfl⟩) n4 (fun S4 h5 n5 => ?_)
  unfold wp_X5_init_77
  rintro _ rfl _ rfl
  have h6 := (h5.w (k := 0) (j := 5) (v := some 365) (by rfl)).w (k := 0) (j := 6) (v := some 366) (by rfl)
  have n6 : NmC (sR (sR S4 0 5 (some 365)) 0 6 (some 366)) 60 := n5
  refine hP _ (h6.mo (fun a b hq => ?_)) n6
  rcases hf : fx a b with _ | q
  · exact .inl (.inl (.inl (.inl (.inl (.inl (.inl (.inl (.inl (.inl (.inl (.inl (.inl rfl))))))))))))
  · rcases hq with hq | hq
    · rw [hf] at hq; cases hq
    · have := fx_cov hf hq
      rcases this with ⟨e, z⟩ | ⟨e, z⟩ | q | q | q | ⟨e, z⟩ | q | q
      · have : b = 0 ∨ b = 1 ∨ b = 2 ∨ b = 3 ∨ b = 5 ∨ b = 6 := by omega
        rcases this with z | z | z | z | z | z
        · exact .inl (.inl (.inl (.inl (.inl (.inl (.inl (.inl (.inl (.inr ⟨e, z⟩)))))))))
        · exact .inl (.inl (.inl (.inl (.inl (.inl (.inl (.inr ⟨e, z⟩)))))))
        · exact .inl (.inl (.inl (.inl (.inr ⟨e, z⟩))))
        · exact .inl (.inl (.inl (.inr ⟨e, z⟩)))
        · exact .inl (.inr ⟨e, z⟩)
        · exact .inr ⟨e, z⟩
      · rcases z with z | z | z
        · exact .inl (.inl (.inl (.inl (.inl (.inl (.inl (.inl (.inl (.inl (.inl (.inl (.inr ⟨e, z⟩))))))))))))
        · exact .inl (.inl (.inl (.inl (.inl (.inl (.inl (.inl (.inl (.inl (.inl (.inr ⟨e, z⟩)))))))))))
        · exact .inl (.inl (.inl (.inl (.inl (.inl (.inl (.inl (.inl (.inl (.inr ⟨e, z⟩))))))))))
      · exact .inl (.inl (.inl (.inl (.inl (.inl (.inl (.inl (.inr (.inl q)))))))))
      · exact .inl (.inl (.inl (.inl (.inl (.inl (.inl (.inl (.inr (.inr (.inl q))))))))))
      · exact .inl (.inl (.inl (.inl (.inl (.inl (.inl (.inl (.inr (.inr (.inr q))))))))))
      · have : b = 0 ∨ b = 1 := by omega
        rcases this with z | z
        · exact .inl (.inl (.inl (.inl (.inl (.inl (.inr ⟨e, z⟩))))))
        · exact .inl (.inl (.inl (.inl (.inl (.inr ⟨e, z⟩)))))
      · exact .inl (.inl (.inr (.inl ⟨q.1, Nat.zero_le _, q.2⟩)))
      · exact .inl (.inl (.inr (.inr q)))
