/-! THE PURE LAYER: the law, call by call -/
def JV (S : St) (a : Ab) : Prop := WF a ∧ InvC S a ∧ Tk S ∧ InvM S a
theorem lg_self (x : Int64) : lg_cmp x x = 0 := by
  unfold lg_cmp
  rw [if_neg (show ¬ x > x from Int64.lt_irrefl), if_pos rfl]
theorem JV.km {S S' : St} {b : Ab} (hb : WF b) (hC : InvC S b) (hz : Tk S) (hk : KM S S' b) : JV S' b :=
  ⟨hb, hC.ag hb.n60 (hk.1.mo (fun k hk => by unfold CC at hk; omega)), hz.ag (hk.1 183 (by omega)), hk.2⟩
/-- what comes behind a call of the reference -/
def cmpT (NX : St → Prop) (k : Int32) (b : Int32) (S : St) : Prop := wp_X6_thrown S (fun r S => (if r = k then (if k = 0 then (vp_in 0 1 ∧ (if (lg_cmp (gJ S 390 ((0 : Int32).toNatClampNeg)) (b.toInt64)) = 0 then NX S else False)) else NX S) else False))
theorem T_ok {S1 : St} {a b : Ab} {q : Except Nat (Int32 × Ab)} {v : Int32} {NX : St → Prop} (hq : q = .ok (v, b)) (hb : WF b) (hC : InvC S1 b) (hz : Tk S1) (hJ : gJ S1 390 0 = v.toInt64) (hN : ∀ S' b, JV S' b → NX S') : OutM S1 a q (cmpT NX 0) := by
  refine ⟨fun v' a' S' hq' hk ht => ?_, fun c v' S' hq' hk ht => ?_⟩
  · rw [hq] at hq'
    cases hq'
    unfold cmpT wp_X6_thrown
    rw [ht]
    dsimp only
    rw [if_pos rfl, if_pos rfl]
    refine ⟨vp_01, ?_⟩
    rw [show (0 : Int32).toNatClampNeg = 0 from rfl, (hk.1 390 (by omega)).2.1, hJ, if_pos (lg_self _)]
    exact hN S' _ (JV.km hb hC hz hk)
  · rw [hq] at hq'; cases hq'
theorem T_err {S1 : St} {a : Ab} {q : Except Nat (Int32 × Ab)} {c : Nat} {NX : St → Prop} (hq : q = .error c) (hc : nI c ≠ 0) (ha : WF a) (hC : InvC S1 a) (hz : Tk S1) (hN : ∀ S' b, JV S' b → NX S') : OutM S1 a q (cmpT NX (nI c)) := by
  refine ⟨fun v' a' S' hq' hk ht => ?_, fun c' v' S' hq' hk ht => ?_⟩
  · rw [hq] at hq'; cases hq'
  · rw [hq] at hq'
    cases hq'
    unfold cmpT wp_X6_thrown
    rw [ht]
    dsimp only
    rw [if_pos rfl, if_neg hc]
    exact hN S' _ (JV.km ha hC hz hk)
theorem C_out {S : St} {a : Ab} {q : Except Nat (Int32 × Ab)} {s t : String} {NX : St → Prop} {T : Int32 → St → Prop} {E : String → St → Prop} (hJ : JV S a) (hwf : ∀ v b, q = .ok (v, b) → WF b) (herr : ∀ c, q = .error c → c = 1 ∨ c = 2)
    (hN : ∀ S' b, JV S' b → NX S') (hT : ∀ k S1, InvM S1 a → OutM S1 a q (cmpT NX k) → T k S1) (hE : ∀ c S', q = .error c → T (nI c) S' → E (if c = 1 then s else t) S') :
    OutC S a s t q (fun r S7 => (vp_in 0 1 ∧ ∀ S11 : St, S11 = sJ S7 390 ((0 : Int32).toNatClampNeg) (r.toInt64) → (T 0 S11))) E := by
  obtain ⟨ha, hC, hz, hM⟩ := hJ
  refine ⟨fun v b S7 hq hk => ⟨vp_01, ?_⟩, fun c S7 hq hk => ?_⟩
  · rintro _ rfl
    have hb := hwf v b hq
    rw [show (0 : Int32).toNatClampNeg = 0 from rfl]
    refine hT 0 _ ?_ (T_ok hq hb ?_ ?_ (gJ_s _ _ _ _) hN)
    · exact hM.ag ((hk.1.mo (fun k hk => by unfold CM at hk; omega)).tr (agr_sJ (by unfold CM; omega) _ _ _))
    · exact hk.2.1.ag hb.n60 (agr_sJ (by unfold CC; omega) _ _ _)
    · exact hk.2.2.ag ((agr_sJ (p := fun k => k = 183) (by omega) _ _ _) _ rfl)
  · have h0 : nI c ≠ 0 := by rcases herr c hq with rfl | rfl <;> decide
    refine hE c S7 hq (hT _ S7 (hM.ag (hk.1.mo (fun k hk => by unfold CM at hk; omega))) (T_err hq h0 ha hk.2.1 hk.2.2 hN))
/-! what the planner keeps -/
theorem wf_addFibre {a : Ab} (h : WF a) {x y z v : Int32} {b : Ab} (hq : q_addFibre a x y z = .ok (v, b)) : WF b := by
  unfold q_addFibre at hq
  split at hq
  · rename_i c
    rw [Bool.and_eq_true] at c
    split at hq
    · cases hq
    · rename_i c2
      obtain ⟨i, j, hi, hj, hij, rfl, rfl⟩ := two_t h.1.2 c.1
      obtain ⟨k, k1, k2, rfl⟩ := rg_t (lo := 1) (hi := 1000) (by omega) (by omega) c.2
      have h8 := h.1.2
      have h14 := h.2.2.1
      rw [tN_nI (by omega), tN_nI (by omega), tN_nI (by omega)] at hq
      cases hq
      exact h.kF hi hj hij ⟨k1, k2⟩ (by omega)
  · cases hq
theorem wf_cut {a : Ab} (h : WF a) {x v : Int32} {b : Ab} (hq : q_cut a x = .ok (v, b)) : WF b := by
  unfold q_cut at hq
  split at hq
  · rename_i c
    split at hq
    · cases hq
    · have h14 := h.2.2.1
      obtain ⟨f, hf, rfl⟩ := isn_t (by omega) c
      rw [tN_nI (by omega)] at hq
      cases hq
      exact h.kK true hf
  · cases hq
theorem wf_repair {a : Ab} (h : WF a) {x v : Int32} {b : Ab} (hq : q_repair a x = .ok (v, b)) : WF b := by
  unfold q_repair at hq
  split at hq
  · rename_i c
    split at hq
    · have h14 := h.2.2.1
      obtain ⟨f, hf, rfl⟩ := isn_t (by omega) c
      rw [tN_nI (by omega)] at hq
      cases hq
      exact h.kK false hf
    · cases hq
  · cases hq
theorem wf_lightOn {a : Ab} (h : WF a) {x y v : Int32} {b : Ab} (hq : q_lightOn a x y = .ok (v, b)) : WF b := by
  unfold q_lightOn at hq
  split at hq
  · split at hq
    · cases hq; exact h
    · cases hq
  · cases hq
theorem wf_request {a : Ab} (h : WF a) {x y d r v : Int32} {b : Ab} (hq : q_request a x y d r = .ok (v, b)) : WF b := by
  unfold q_request at hq
  split at hq
  · rename_i c
    rw [Bool.and_eq_true, Bool.and_eq_true] at c
    obtain ⟨i, j, hi, hj, hij, rfl, rfl⟩ := two_t h.1.2 c.1
    obtain ⟨e, e1, e2, rfl⟩ := rg_t (lo := 1) (hi := 10) (by omega) (by omega) c.2.1
    obtain ⟨k, k1, k2, rfl⟩ := rg_t (lo := 0) (hi := 2) (by omega) (by omega) c.2.2
    have h8 := h.1.2
    have h60 := h.2.2.2.2.1
    rw [tN_nI (by omega), tN_nI (by omega), tN_nI (by omega), tN_nI (by omega)] at hq
    split at hq
    · cases hq
    · rename_i c2
      rcases hm : rmf a i j e k with _ | l
      · rw [hm] at hq
        dsimp only at hq
        split at hq
        · rename_i c3
          cases hq
          exact h.kLR hi hj hij (fnd_NW h hi k2).1 c3.2 ⟨e1, e2⟩ (by omega) c3.1
        · cases hq
      · rw [hm] at hq
        dsimp only at hq
        cases hq
        unfold rmf at hm
        have hl := List.mem_range.mp (List.mem_of_find?_eq_some hm)
        have hr := List.find?_some hm
        unfold rmy at hr
        simp only [Bool.and_eq_true, decide_eq_true_iff] at hr
        exact h.kR hl e1 hr.2 (lup_ne hr.1.1.1) (by omega)
  · cases hq
theorem wf_newLength {a : Ab} (h : WF a) {x y r v : Int32} {b : Ab} (hq : q_newLength a x y r = .ok (v, b)) : WF b := by
  unfold q_newLength at hq
  split at hq
  · split at hq
    · cases hq
    · cases hq; exact h
  · cases hq
theorem wf_release {a : Ab} (h : WF a) {x v : Int32} {b : Ab} (hq : q_release a x = .ok (v, b)) : WF b := by
  unfold q_release at hq
  split at hq
  · rename_i c
    have h60 := h.2.2.2.2.1
    obtain ⟨r, hr, rfl⟩ := isn_t (by omega) c
    rw [tN_nI (by omega)] at hq
    split at hq
    · cases hq
    · rename_i c2
      cases hq
      exact h.kls hr c2
  · cases hq
theorem wf_lightOf {a : Ab} (h : WF a) {x v : Int32} {b : Ab} (hq : q_lightOf a x = .ok (v, b)) : WF b := by
  unfold q_lightOf at hq
  split at hq
  · split at hq
    · cases hq
    · cases hq; exact h
  · cases hq
theorem wf_state {a : Ab} (h : WF a) {x v : Int32} {b : Ab} (hq : q_state a x = .ok (v, b)) : WF b := by
  unfold q_state at hq
  split at hq
  · cases hq; exact h
  · cases hq
theorem wf_units {a : Ab} (h : WF a) {x v : Int32} {b : Ab} (hq : q_units a x = .ok (v, b)) : WF b := by
  unfold q_units at hq
  split at hq
  · cases hq; exact h
  · cases hq
theorem wf_channels {a : Ab} (h : WF a) {x y v : Int32} {b : Ab} (hq : q_channels a x y = .ok (v, b)) : WF b := by
  unfold q_channels at hq
  split at hq
  · cases hq
  · cases hq; exact h
theorem wf_channel {a : Ab} (h : WF a) {x y z v : Int32} {b : Ab} (hq : q_channel a x y z = .ok (v, b)) : WF b := by
  unfold q_channel at hq
  split at hq
  · cases hq
  · split at hq
    · cases hq; exact h
    · cases hq
theorem wf_reroute {a : Ab} (h : WF a) {x v : Int32} {b : Ab} (hq : q_reroute a x = .ok (v, b)) : WF b := by
  unfold q_reroute at hq
  split at hq
  · rename_i c
    have h60 := h.n60
    obtain ⟨l, hl, rfl⟩ := isn_t (by omega) c
    rw [tN_nI (by omega)] at hq
    rcases hr : rrt a l with _ | w
    · rw [hr] at hq; cases hq
    · rw [hr] at hq
      dsimp only at hq
      cases hq
      have hne : wy a l ≠ [] := fun z => by unfold rrt at hr; rw [z] at hr; cases hr
      have hf : fnd0 a l (sn a l) (en a l) = some w := by
        unfold rrt at hr
        split at hr
        · exact hr
        · cases hr
      exact h.kW hl ((fnd0_FW h (h.lig l hl).1 hf).NW1 h (.inl rfl)) hne (by simp)
  · cases hq
theorem wf_merge {a : Ab} (h : WF a) {v : Int32} {b : Ab} (hq : q_merge a = .ok (v, b)) : WF b := by
  unfold q_merge at hq
  split at hq
  · rename_i c
    cases hq
    have h1 := low_is c
    rw [decide_eq_true_iff] at h1
    have h2 := low_is h1
    rw [Bool.and_eq_true, decide_eq_true_iff] at h2
    obtain ⟨hne, hu⟩ := mga_t h2.2
    exact h.kM c h1 (Nat.ne_of_lt h2.1) hu hne
  · cases hq
theorem wf_move {a : Ab} (h : WF a) {v : Int32} {b : Ab} (hq : q_move a = .ok (v, b)) : WF b := by
  unfold q_move at hq
  split at hq
  · rename_i c
    cases hq
    have h1 := low_is c
    rw [decide_eq_true_iff] at h1
    have h2 := low_is h1
    have hw : (wy a (mv0 a))[mv1 a (mv0 a)]? = some ((wy a (mv0 a))[mv1 a (mv0 a)]'h1) := List.getElem?_eq_getElem h1
    have e : mvw a (mv0 a) (mv1 a (mv0 a)) = xW a (mv0 a) ((wy a (mv0 a)).set (mv1 a (mv0 a)) (mvd (lwf a ((wy a (mv0 a))[mv1 a (mv0 a)]'h1)) ((wy a (mv0 a))[mv1 a (mv0 a)]'h1))) := by unfold mvw; rw [hw]
    rw [e]
    refine mv_WF h c hw ?_
    have h3 : (match (wy a (mv0 a))[mv1 a (mv0 a)]? with | none => false | some w => mvb a w) = true := h2
    rw [hw] at h3
    exact h3
  · cases hq
/-! the exceptions' places -/
theorem er_addFibre {a : Ab} {x y z : Int32} {c : Nat} (hq : q_addFibre a x y z = .error c) : c = 1 ∨ c = 2 := by
  unfold q_addFibre at hq
  (repeat' split at hq) <;> first | (cases hq; done) | (cases hq; first | rfl | exact .inl rfl | exact .inr rfl)
theorem er_cut {a : Ab} {x : Int32} {c : Nat} (hq : q_cut a x = .error c) : c = 1 ∨ c = 2 := by
  unfold q_cut at hq
  (repeat' split at hq) <;> first | (cases hq; done) | (cases hq; first | rfl | exact .inl rfl | exact .inr rfl)
theorem er_repair {a : Ab} {x : Int32} {c : Nat} (hq : q_repair a x = .error c) : c = 1 ∨ c = 2 := by
  unfold q_repair at hq
  (repeat' split at hq) <;> first | (cases hq; done) | (cases hq; first | rfl | exact .inl rfl | exact .inr rfl)
theorem er_lightOn {a : Ab} {x y : Int32} {c : Nat} (hq : q_lightOn a x y = .error c) : c = 1 ∨ c = 2 := by
  unfold q_lightOn at hq
  (repeat' split at hq) <;> first | (cases hq; done) | (cases hq; first | rfl | exact .inl rfl | exact .inr rfl)
theorem er_request {a : Ab} {x y z w : Int32} {c : Nat} (hq : q_request a x y z w = .error c) : c = 1 ∨ c = 2 := by
  unfold q_request at hq
  (repeat' split at hq) <;> first | (cases hq; done) | (cases hq; first | rfl | exact .inl rfl | exact .inr rfl)
theorem er_newLength {a : Ab} {x y z : Int32} {c : Nat} (hq : q_newLength a x y z = .error c) : c = 1 ∨ c = 2 := by
  unfold q_newLength at hq
  (repeat' split at hq) <;> first | (cases hq; done) | (cases hq; first | rfl | exact .inl rfl | exact .inr rfl)
theorem er_release {a : Ab} {x : Int32} {c : Nat} (hq : q_release a x = .error c) : c = 1 ∨ c = 2 := by
  unfold q_release at hq
  (repeat' split at hq) <;> first | (cases hq; done) | (cases hq; first | rfl | exact .inl rfl | exact .inr rfl)
theorem er_lightOf {a : Ab} {x : Int32} {c : Nat} (hq : q_lightOf a x = .error c) : c = 1 ∨ c = 2 := by
  unfold q_lightOf at hq
  (repeat' split at hq) <;> first | (cases hq; done) | (cases hq; first | rfl | exact .inl rfl | exact .inr rfl)
theorem er_state {a : Ab} {x : Int32} {c : Nat} (hq : q_state a x = .error c) : c = 1 := by
  unfold q_state at hq
  (repeat' split at hq) <;> first | (cases hq; done) | (cases hq; first | rfl | exact .inl rfl | exact .inr rfl)
theorem er_units {a : Ab} {x : Int32} {c : Nat} (hq : q_units a x = .error c) : c = 1 := by
  unfold q_units at hq
  (repeat' split at hq) <;> first | (cases hq; done) | (cases hq; first | rfl | exact .inl rfl | exact .inr rfl)
theorem er_channels {a : Ab} {x y : Int32} {c : Nat} (hq : q_channels a x y = .error c) : c = 1 := by
  unfold q_channels at hq
  (repeat' split at hq) <;> first | (cases hq; done) | (cases hq; first | rfl | exact .inl rfl | exact .inr rfl)
theorem er_channel {a : Ab} {x y z : Int32} {c : Nat} (hq : q_channel a x y z = .error c) : c = 1 := by
  unfold q_channel at hq
  (repeat' split at hq) <;> first | (cases hq; done) | (cases hq; first | rfl | exact .inl rfl | exact .inr rfl)
theorem er_reroute {a : Ab} {x : Int32} {c : Nat} (hq : q_reroute a x = .error c) : c = 1 ∨ c = 2 := by
  unfold q_reroute at hq
  (repeat' split at hq) <;> first | (cases hq; done) | (cases hq; first | rfl | exact .inl rfl | exact .inr rfl)
theorem er_merge {a : Ab} {c : Nat} (hq : q_merge a = .error c) : c = 1 := by
  unfold q_merge at hq
  (repeat' split at hq) <;> first | (cases hq; done) | (cases hq; first | rfl | exact .inl rfl | exact .inr rfl)
theorem er_move {a : Ab} {c : Nat} (hq : q_move a = .error c) : c = 1 := by
  unfold q_move at hq
  (repeat' split at hq) <;> first | (cases hq; done) | (cases hq; first | rfl | exact .inl rfl | exact .inr rfl)
/-! the law's calls -/
theorem l_addFibre {S : St} {a : Ab} (hJ : JV S a) (x y z : Int32) (NX : St → Prop) (hN : ∀ S' b, JV S' b → NX S') (P : Int32 → St → Prop) (hT : ∀ k S1, InvM S1 a → OutM S1 a (q_addFibre a x y z) (cmpT NX k) → P k S1) : wp_L_addFibre S x y z P := by
  unfold wp_L_addFibre
  refine k_addFibre hJ.1 hJ.2.1 hJ.2.2.1 x y z _ _ (C_out (T := P) hJ (fun v b hq => wf_addFibre hJ.1 hq) (fun c hc => er_addFibre hc) hN hT (fun c S' hq hP => ?_))
  rcases er_addFibre hq with rfl | rfl
  · show (if sIA = "java/lang/IllegalArgumentException" then P 1 S' else if sIA = "java/lang/IllegalStateException" then P 2 S' else False)
    rw [if_pos (by rfl)]; exact hP
  · show (if sIS = "java/lang/IllegalArgumentException" then P 1 S' else if sIS = "java/lang/IllegalStateException" then P 2 S' else False)
    rw [if_neg (by unfold sIS; decide), if_pos (by rfl)]; exact hP
theorem l_cut {S : St} {a : Ab} (hJ : JV S a) (x : Int32) (NX : St → Prop) (hN : ∀ S' b, JV S' b → NX S') (P : Int32 → St → Prop) (hT : ∀ k S1, InvM S1 a → OutM S1 a (q_cut a x) (cmpT NX k) → P k S1) : wp_L_cut S x P := by
  unfold wp_L_cut
  refine k_cut hJ.1 hJ.2.1 hJ.2.2.1 x _ _ (C_out (T := P) hJ (fun v b hq => wf_cut hJ.1 hq) (fun c hc => er_cut hc) hN hT (fun c S' hq hP => ?_))
  rcases er_cut hq with rfl | rfl
  · show (if sIB = "java/lang/IndexOutOfBoundsException" then P 1 S' else if sIB = "java/lang/IllegalStateException" then P 2 S' else False)
    rw [if_pos (by rfl)]; exact hP
  · show (if sIS = "java/lang/IndexOutOfBoundsException" then P 1 S' else if sIS = "java/lang/IllegalStateException" then P 2 S' else False)
    rw [if_neg (by unfold sIS; decide), if_pos (by rfl)]; exact hP
theorem l_repair {S : St} {a : Ab} (hJ : JV S a) (x : Int32) (NX : St → Prop) (hN : ∀ S' b, JV S' b → NX S') (P : Int32 → St → Prop) (hT : ∀ k S1, InvM S1 a → OutM S1 a (q_repair a x) (cmpT NX k) → P k S1) : wp_L_repair S x P := by
  unfold wp_L_repair
  refine k_repair hJ.1 hJ.2.1 hJ.2.2.1 x _ _ (C_out (T := P) hJ (fun v b hq => wf_repair hJ.1 hq) (fun c hc => er_repair hc) hN hT (fun c S' hq hP => ?_))
  rcases er_repair hq with rfl | rfl
  · show (if sIB = "java/lang/IndexOutOfBoundsException" then P 1 S' else if sIB = "java/lang/IllegalStateException" then P 2 S' else False)
    rw [if_pos (by rfl)]; exact hP
  · show (if sIS = "java/lang/IndexOutOfBoundsException" then P 1 S' else if sIS = "java/lang/IllegalStateException" then P 2 S' else False)
    rw [if_neg (by unfold sIS; decide), if_pos (by rfl)]; exact hP
theorem l_lightOn {S : St} {a : Ab} (hJ : JV S a) (x y : Int32) (NX : St → Prop) (hN : ∀ S' b, JV S' b → NX S') (P : Int32 → St → Prop) (hT : ∀ k S1, InvM S1 a → OutM S1 a (q_lightOn a x y) (cmpT NX k) → P k S1) : wp_L_lightOn S x y P := by
  unfold wp_L_lightOn
  refine k_lightOn hJ.1 hJ.2.1 hJ.2.2.1 x y _ _ (C_out (T := P) hJ (fun v b hq => wf_lightOn hJ.1 hq) (fun c hc => er_lightOn hc) hN hT (fun c S' hq hP => ?_))
  rcases er_lightOn hq with rfl | rfl
  · show (if sIB = "java/lang/IndexOutOfBoundsException" then P 1 S' else if sIB = "java/lang/IllegalArgumentException" then P 2 S' else False)
    rw [if_pos (by rfl)]; exact hP
  · show (if sIA = "java/lang/IndexOutOfBoundsException" then P 1 S' else if sIA = "java/lang/IllegalArgumentException" then P 2 S' else False)
    rw [if_neg (by unfold sIA; decide), if_pos (by rfl)]; exact hP
theorem l_request {S : St} {a : Ab} (hJ : JV S a) (x y z w : Int32) (NX : St → Prop) (hN : ∀ S' b, JV S' b → NX S') (P : Int32 → St → Prop) (hT : ∀ k S1, InvM S1 a → OutM S1 a (q_request a x y z w) (cmpT NX k) → P k S1) : wp_L_request S x y z w P := by
  unfold wp_L_request
  refine k_request hJ.1 hJ.2.1 hJ.2.2.1 x y z w _ _ (C_out (T := P) hJ (fun v b hq => wf_request hJ.1 hq) (fun c hc => er_request hc) hN hT (fun c S' hq hP => ?_))
  rcases er_request hq with rfl | rfl
  · show (if sIA = "java/lang/IllegalArgumentException" then P 1 S' else if sIA = "java/lang/IllegalStateException" then P 2 S' else False)
    rw [if_pos (by rfl)]; exact hP
  · show (if sIS = "java/lang/IllegalArgumentException" then P 1 S' else if sIS = "java/lang/IllegalStateException" then P 2 S' else False)
    rw [if_neg (by unfold sIS; decide), if_pos (by rfl)]; exact hP
theorem l_newLength {S : St} {a : Ab} (hJ : JV S a) (x y z : Int32) (NX : St → Prop) (hN : ∀ S' b, JV S' b → NX S') (P : Int32 → St → Prop) (hT : ∀ k S1, InvM S1 a → OutM S1 a (q_newLength a x y z) (cmpT NX k) → P k S1) : wp_L_newLength S x y z P := by
  unfold wp_L_newLength
  refine k_newLength hJ.1 hJ.2.1 hJ.2.2.1 x y z _ _ (C_out (T := P) hJ (fun v b hq => wf_newLength hJ.1 hq) (fun c hc => er_newLength hc) hN hT (fun c S' hq hP => ?_))
  rcases er_newLength hq with rfl | rfl
  · show (if sIA = "java/lang/IllegalArgumentException" then P 1 S' else if sIA = "java/lang/IllegalStateException" then P 2 S' else False)
    rw [if_pos (by rfl)]; exact hP
  · show (if sIS = "java/lang/IllegalArgumentException" then P 1 S' else if sIS = "java/lang/IllegalStateException" then P 2 S' else False)
    rw [if_neg (by unfold sIS; decide), if_pos (by rfl)]; exact hP
theorem l_release {S : St} {a : Ab} (hJ : JV S a) (x : Int32) (NX : St → Prop) (hN : ∀ S' b, JV S' b → NX S') (P : Int32 → St → Prop) (hT : ∀ k S1, InvM S1 a → OutM S1 a (q_release a x) (cmpT NX k) → P k S1) : wp_L_release S x P := by
  unfold wp_L_release
  refine k_release hJ.1 hJ.2.1 hJ.2.2.1 x _ _ (C_out (T := P) hJ (fun v b hq => wf_release hJ.1 hq) (fun c hc => er_release hc) hN hT (fun c S' hq hP => ?_))
  rcases er_release hq with rfl | rfl
  · show (if sIB = "java/lang/IndexOutOfBoundsException" then P 1 S' else if sIB = "java/lang/IllegalStateException" then P 2 S' else False)
    rw [if_pos (by rfl)]; exact hP
  · show (if sIS = "java/lang/IndexOutOfBoundsException" then P 1 S' else if sIS = "java/lang/IllegalStateException" then P 2 S' else False)
    rw [if_neg (by unfold sIS; decide), if_pos (by rfl)]; exact hP
theorem l_lightOf {S : St} {a : Ab} (hJ : JV S a) (x : Int32) (NX : St → Prop) (hN : ∀ S' b, JV S' b → NX S') (P : Int32 → St → Prop) (hT : ∀ k S1, InvM S1 a → OutM S1 a (q_lightOf a x) (cmpT NX k) → P k S1) : wp_L_lightOf S x P := by
  unfold wp_L_lightOf
  refine k_lightOf hJ.1 hJ.2.1 hJ.2.2.1 x _ _ (C_out (T := P) hJ (fun v b hq => wf_lightOf hJ.1 hq) (fun c hc => er_lightOf hc) hN hT (fun c S' hq hP => ?_))
  rcases er_lightOf hq with rfl | rfl
  · show (if sIB = "java/lang/IndexOutOfBoundsException" then P 1 S' else if sIB = "java/lang/IllegalStateException" then P 2 S' else False)
    rw [if_pos (by rfl)]; exact hP
  · show (if sIS = "java/lang/IndexOutOfBoundsException" then P 1 S' else if sIS = "java/lang/IllegalStateException" then P 2 S' else False)
    rw [if_neg (by unfold sIS; decide), if_pos (by rfl)]; exact hP
theorem l_state {S : St} {a : Ab} (hJ : JV S a) (x : Int32) (NX : St → Prop) (hN : ∀ S' b, JV S' b → NX S') (P : Int32 → St → Prop) (hT : ∀ k S1, InvM S1 a → OutM S1 a (q_state a x) (cmpT NX k) → P k S1) : wp_L_state S x P := by
  unfold wp_L_state
  refine k_state hJ.1 hJ.2.1 hJ.2.2.1 x _ _ (C_out (T := P) hJ (fun v b hq => wf_state hJ.1 hq) (fun c hc => .inl (er_state hc)) hN hT (fun c S' hq hP => ?_))
  have hc := er_state hq
  subst hc
  show (if sIB = "java/lang/IndexOutOfBoundsException" then P 1 S' else False)
  rw [if_pos (by rfl)]; exact hP
theorem l_units {S : St} {a : Ab} (hJ : JV S a) (x : Int32) (NX : St → Prop) (hN : ∀ S' b, JV S' b → NX S') (P : Int32 → St → Prop) (hT : ∀ k S1, InvM S1 a → OutM S1 a (q_units a x) (cmpT NX k) → P k S1) : wp_L_units S x P := by
  unfold wp_L_units
  refine k_units hJ.1 hJ.2.1 hJ.2.2.1 x _ _ (C_out (T := P) hJ (fun v b hq => wf_units hJ.1 hq) (fun c hc => .inl (er_units hc)) hN hT (fun c S' hq hP => ?_))
  have hc := er_units hq
  subst hc
  show (if sIB = "java/lang/IndexOutOfBoundsException" then P 1 S' else False)
  rw [if_pos (by rfl)]; exact hP
theorem l_channels {S : St} {a : Ab} (hJ : JV S a) (x y : Int32) (NX : St → Prop) (hN : ∀ S' b, JV S' b → NX S') (P : Int32 → St → Prop) (hT : ∀ k S1, InvM S1 a → OutM S1 a (q_channels a x y) (cmpT NX k) → P k S1) : wp_L_channels S x y P := by
  unfold wp_L_channels
  refine k_channels hJ.1 hJ.2.1 hJ.2.2.1 x y _ _ (C_out (T := P) hJ (fun v b hq => wf_channels hJ.1 hq) (fun c hc => .inl (er_channels hc)) hN hT (fun c S' hq hP => ?_))
  have hc := er_channels hq
  subst hc
  show (if sIB = "java/lang/IndexOutOfBoundsException" then P 1 S' else False)
  rw [if_pos (by rfl)]; exact hP
theorem l_channel {S : St} {a : Ab} (hJ : JV S a) (x y z : Int32) (NX : St → Prop) (hN : ∀ S' b, JV S' b → NX S') (P : Int32 → St → Prop) (hT : ∀ k S1, InvM S1 a → OutM S1 a (q_channel a x y z) (cmpT NX k) → P k S1) : wp_L_channel S x y z P := by
  unfold wp_L_channel
  refine k_channel hJ.1 hJ.2.1 hJ.2.2.1 x y z _ _ (C_out (T := P) hJ (fun v b hq => wf_channel hJ.1 hq) (fun c hc => .inl (er_channel hc)) hN hT (fun c S' hq hP => ?_))
  have hc := er_channel hq
  subst hc
  show (if sIB = "java/lang/IndexOutOfBoundsException" then P 1 S' else False)
  rw [if_pos (by rfl)]; exact hP
theorem l_reroute {S : St} {a : Ab} (hJ : JV S a) (x : Int32) (NX : St → Prop) (hN : ∀ S' b, JV S' b → NX S') (P : Int32 → St → Prop) (hT : ∀ k S1, InvM S1 a → OutM S1 a (q_reroute a x) (cmpT NX k) → P k S1) : wp_L_reroute S x P := by
  unfold wp_L_reroute
  refine k_reroute hJ.1 hJ.2.1 hJ.2.2.1 x _ _ (C_out (T := P) hJ (fun v b hq => wf_reroute hJ.1 hq) (fun c hc => er_reroute hc) hN hT (fun c S' hq hP => ?_))
  rcases er_reroute hq with rfl | rfl
  · show (if sIB = "java/lang/IndexOutOfBoundsException" then P 1 S' else if sIB = "java/lang/IllegalStateException" then P 2 S' else False)
    rw [if_pos (by rfl)]; exact hP
  · show (if sIS = "java/lang/IndexOutOfBoundsException" then P 1 S' else if sIS = "java/lang/IllegalStateException" then P 2 S' else False)
    rw [if_neg (by unfold sIS; decide), if_pos (by rfl)]; exact hP
theorem l_merge {S : St} {a : Ab} (hJ : JV S a) (NX : St → Prop) (hN : ∀ S' b, JV S' b → NX S') (P : Int32 → St → Prop) (hT : ∀ k S1, InvM S1 a → OutM S1 a (q_merge a) (cmpT NX k) → P k S1) : wp_L_merge S P := by
  unfold wp_L_merge
  refine k_merge hJ.1 hJ.2.1 hJ.2.2.1 _ _ (C_out (T := P) hJ (fun v b hq => wf_merge hJ.1 hq) (fun c hc => .inl (er_merge hc)) hN hT (fun c S' hq hP => ?_))
  have hc := er_merge hq
  subst hc
  show (if sIS = "java/lang/IllegalStateException" then P 1 S' else False)
  rw [if_pos (by rfl)]; exact hP
theorem l_move {S : St} {a : Ab} (hJ : JV S a) (NX : St → Prop) (hN : ∀ S' b, JV S' b → NX S') (P : Int32 → St → Prop) (hT : ∀ k S1, InvM S1 a → OutM S1 a (q_move a) (cmpT NX k) → P k S1) : wp_L_move S P := by
  unfold wp_L_move
  refine k_move hJ.1 hJ.2.1 hJ.2.2.1 _ _ (C_out (T := P) hJ (fun v b hq => wf_move hJ.1 hq) (fun c hc => .inl (er_move hc)) hN hT (fun c S' hq hP => ?_))
  have hc := er_move hq
  subst hc
  show (if sIS = "java/lang/IllegalStateException" then P 1 S' else False)
  rw [if_pos (by rfl)]; exact hP
