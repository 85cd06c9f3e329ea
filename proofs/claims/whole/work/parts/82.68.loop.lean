/-! THE PURE LAYER: the law's loop -/
theorem er_begin {x y : Int32} {c : Nat} (hq : q_begin x y = .error c) : c = 1 := by
  unfold q_begin at hq
  split at hq
  · cases hq
  · cases hq; rfl
theorem wf_begin {x y : Int32} {v : Unit} {b : Ab} (hq : q_begin x y = .ok (v, b)) : WF b := by
  unfold q_begin at hq
  split at hq
  · rename_i c
    rw [Bool.and_eq_true] at c
    obtain ⟨i, i1, i2, rfl⟩ := rg_t (lo := 2) (hi := 8) (by omega) (by omega) c.1
    obtain ⟨j, j1, j2, rfl⟩ := rg_t (lo := 1) (hi := 8) (by omega) (by omega) c.2
    rw [tN_nI (by omega), tN_nI (by omega)] at hq
    cases hq
    exact WF.kB ⟨i1, i2⟩ ⟨j1, j2⟩
  · cases hq
theorem l_begin {S : St} {a : Ab} (hJ : JV S a) (x y : Int32) (NX : St → Prop) (hN : ∀ S' b, JV S' b → NX S') (P : Int32 → St → Prop)
    (hT : ∀ k S1, InvM S1 a → OutM S1 a (q_begin x y) (fun _ S => wp_X6_thrown S (fun r S => (if r = k then NX S else False))) → P k S1) : wp_L_begin S x y P := by
  obtain ⟨ha, hC, hz, hM⟩ := hJ
  unfold wp_L_begin
  refine k_begin hC hz x y _ _ ⟨fun v b S7 hq hk => ?_, fun c S7 hq hk => ?_⟩
  · refine hT 0 S7 (hM.ag (hk.1.mo (fun k hk => by unfold CM at hk; omega))) ⟨fun v' a' S' hq' hk' ht => ?_, fun c v' S' hq' hk' ht => ?_⟩
    · rw [hq] at hq'
      cases hq'
      unfold wp_X6_thrown
      rw [ht]
      dsimp only
      rw [if_pos rfl]
      exact hN S' _ (JV.km (wf_begin hq) hk.2.1 hk.2.2 hk')
    · rw [hq] at hq'; cases hq'
  · have hc := er_begin hq
    subst hc
    show (if sIA = "java/lang/IllegalArgumentException" then P 1 S7 else False)
    rw [if_pos (by rfl)]
    refine hT 1 S7 (hM.ag (hk.1.mo (fun k hk => by unfold CM at hk; omega))) ⟨fun v' a' S' hq' hk' ht => ?_, fun c v' S' hq' hk' ht => ?_⟩
    · rw [hq] at hq'; cases hq'
    · rw [hq] at hq'
      cases hq'
      unfold wp_X6_thrown
      rw [ht]
      dsimp only
      rw [if_pos (by rfl)]
      exact hN S' _ (JV.km ha hk.2.1 hk.2.2 hk')
theorem er_toggle {a : Ab} {x : Int32} {c : Nat} (hq : q_toggle a x = .error c) : c = 1 := by
  unfold q_toggle at hq
  split at hq
  · cases hq
  · cases hq; rfl
theorem wf_toggle {a : Ab} (h : WF a) {x : Int32} {v : Bool} {b : Ab} (hq : q_toggle a x = .ok (v, b)) : WF b := by
  unfold q_toggle at hq
  split at hq
  · rename_i c
    have h8 := h.1.2
    obtain ⟨u, hu, rfl⟩ := isn_t (by omega) c
    rw [tN_nI (by omega)] at hq
    cases hq
    exact h.kC _ hu
  · cases hq
/-- a truth value as the law keeps it -/
def bJ (b : Bool) : Int64 := if b = true then 1 else 0
theorem l_toggle {S : St} {a : Ab} (hJ : JV S a) (x : Int32) (NX : St → Prop) (hN : ∀ S' b, JV S' b → NX S') (P : Int32 → St → Prop)
    (hT : ∀ k S1, InvM S1 a → OutM S1 a (q_toggle a x) (fun b S => wp_X6_thrown S (fun r S => (if r = k then (if k = 0 then (vp_in 0 1 ∧ (if b = true then (if lg_cmp (gJ S 390 ((0 : Int32).toNatClampNeg)) 1 = 0 then NX S else False) else (if lg_cmp (gJ S 390 ((0 : Int32).toNatClampNeg)) 0 = 0 then NX S else False))) else NX S) else False))) → P k S1) : wp_L_toggleConverter S x P := by
  obtain ⟨ha, hC, hz, hM⟩ := hJ
  unfold wp_L_toggleConverter
  refine k_toggle ha hC hz x _ _ ⟨fun v b S7 hq hk => ?_, fun c S7 hq hk => ?_⟩
  · have hb := wf_toggle ha hq
    have main : ∀ t : Int64, t = bJ v → wp_L_toggleConverter_15 x P S7 t := by
      rintro _ rfl
      unfold wp_L_toggleConverter_15
      refine ⟨vp_01, ?_⟩
      rintro _ rfl
      rw [show (0 : Int32).toNatClampNeg = 0 from rfl]
      have hJ1 : gJ (sJ S7 390 0 (bJ v)) 390 0 = bJ v := gJ_s _ _ _ _
      have c1 : InvC (sJ S7 390 0 (bJ v)) b := hk.2.1.ag hb.n60 (agr_sJ (by unfold CC; omega) _ _ _)
      have c2 : Tk (sJ S7 390 0 (bJ v)) := hk.2.2.ag ((agr_sJ (p := fun k => k = 183) (by omega) _ _ _) _ rfl)
      have c3 : InvM (sJ S7 390 0 (bJ v)) a := hM.ag ((hk.1.mo (fun k hk => by unfold CM at hk; omega)).tr (agr_sJ (by unfold CM; omega) _ _ _))
      generalize sJ S7 390 0 (bJ v) = S1 at *
      refine hT 0 S1 c3 ⟨fun v' a' S' hq' hk' ht => ?_, fun c v' S' hq' hk' ht => ?_⟩
      · rw [hq] at hq'
        cases hq'
        unfold wp_X6_thrown
        rw [ht]
        dsimp only
        rw [if_pos rfl, if_pos rfl]
        refine ⟨vp_01, ?_⟩
        have e : gJ S' 390 0 = bJ v := ((hk'.1 390 (by omega)).2.1 0).trans hJ1
        have hN := hN S' _ (JV.km hb c1 c2 hk')
        cases v
        · rw [if_neg (by decide), show (0 : Int32).toNatClampNeg = 0 from rfl, e, show bJ false = 0 from rfl, if_pos (lg_self _)]; exact hN
        · rw [if_pos rfl, show (0 : Int32).toNatClampNeg = 0 from rfl, e, show bJ true = 1 from rfl, if_pos (lg_self _)]; exact hN
      · rw [hq] at hq'; cases hq'
    cases v
    · dsimp only; rw [if_neg (by decide)]; exact main 0 rfl
    · dsimp only; rw [if_pos rfl]; exact main 1 rfl
  · have hc := er_toggle hq
    subst hc
    show (if sIA = "java/lang/IllegalArgumentException" then P 1 S7 else False)
    rw [if_pos (by rfl)]
    refine hT 1 S7 (hM.ag (hk.1.mo (fun k hk => by unfold CM at hk; omega))) ⟨fun v' a' S' hq' hk' ht => ?_, fun c v' S' hq' hk' ht => ?_⟩
    · rw [hq] at hq'; cases hq'
    · rw [hq] at hq'
      cases hq'
      unfold wp_X6_thrown
      rw [ht]
      dsimp only
      rw [if_pos (by rfl), if_neg (by decide)]
      exact hN S' _ (JV.km ha hk.2.1 hk.2.2 hk')
theorem er_usage {a : Ab} {c : Nat} (hq : q_usage a = .error c) : c = 1 := by
  unfold q_usage at hq
  split at hq
  · cases hq; rfl
  · cases hq
theorem ok_usage {a : Ab} (h : WF a) {v : UInt32} {b : Ab} (hq : q_usage a = .ok (v, b)) : b = a ∧ vf_n64 (FP.f2d v) ∧ (Op.cmpValue (FP.dcmp (FP.f2d v) (FP.f2d v)) .l) = 0 := by
  unfold q_usage at hq
  split at hq
  · cases hq
  · rename_i c
    cases hq
    have hp : nF a * nW a ≠ 0 := Nat.mul_ne_zero c (by have := h.2.1.1; omega)
    obtain ⟨_, f2, f3⟩ := flr_ok (u := sm (nF a) (ons a)) h.chans.2 hp
    exact ⟨rfl, f2, f3⟩
theorem l_usage {S : St} {a : Ab} (hJ : JV S a) (NX : St → Prop) (hN : ∀ S' b, JV S' b → NX S') (P : Int32 → St → Prop)
    (hT : ∀ k S1, InvM S1 a → OutM S1 a (q_usage a) (fun b S => wp_X6_thrown S (fun r S => (if r = k then (if k = 0 then (vp_in 0 1 ∧ (vf_n64 (FP.f2d b) ∧ (if (Op.cmpValue (FP.dcmp (gD S 391 ((0 : Int32).toNatClampNeg)) (FP.f2d b)) .l) = 0 then NX S else (vp_in 0 1 ∧ (vp_in 0 1 ∧ (if (Op.cmpValue (FP.dcmp (gD S 391 ((0 : Int32).toNatClampNeg)) (gD S 391 ((0 : Int32).toNatClampNeg))) .l) = 0 then False else (if (Op.cmpValue (FP.fcmp b b) .l) = 0 then False else NX S))))))) else NX S) else False))) → P k S1) : wp_L_usage S P := by
  obtain ⟨ha, hC, hz, hM⟩ := hJ
  unfold wp_L_usage
  refine k_usage ha hC hz _ _ ⟨fun v b S7 hq hk => ?_, fun c S7 hq hk => ?_⟩
  · obtain ⟨rfl, f2, f3⟩ := ok_usage ha hq
    refine ⟨f2, vp_01, ?_⟩
    rintro _ rfl
    rw [show (0 : Int32).toNatClampNeg = 0 from rfl]
    have hJ1 : gD (sD S7 391 0 (FP.f2d v)) 391 0 = FP.f2d v := by rw [gD_sD, if_pos ⟨rfl, rfl⟩]
    have c1 : InvC (sD S7 391 0 (FP.f2d v)) b := hk.2.1.ag ha.n60 (agr_sD (by unfold CC; omega) _ _ _)
    have c2 : Tk (sD S7 391 0 (FP.f2d v)) := hk.2.2.ag ((agr_sD (p := fun k => k = 183) (by omega) _ _ _) _ rfl)
    have c3 : InvM (sD S7 391 0 (FP.f2d v)) b := hM.ag ((hk.1.mo (fun k hk => by unfold CM at hk; omega)).tr (agr_sD (by unfold CM; omega) _ _ _))
    generalize sD S7 391 0 (FP.f2d v) = S1 at *
    refine hT 0 S1 c3 ⟨fun v' a' S' hq' hk' ht => ?_, fun c v' S' hq' hk' ht => ?_⟩
    · rw [hq] at hq'
      cases hq'
      unfold wp_X6_thrown
      rw [ht]
      dsimp only
      rw [if_pos rfl, if_pos rfl]
      refine ⟨vp_01, f2, ?_⟩
      have e : gD S' 391 0 = FP.f2d v := ((hk'.1 391 (by omega)).2.2.2 0).trans hJ1
      rw [show (0 : Int32).toNatClampNeg = 0 from rfl, e, if_pos f3]
      exact hN S' _ (JV.km ha c1 c2 hk')
    · rw [hq] at hq'; cases hq'
  · have hc := er_usage hq
    subst hc
    show (if sIS = "java/lang/IllegalStateException" then P 1 S7 else False)
    rw [if_pos (by rfl)]
    refine hT 1 S7 (hM.ag (hk.1.mo (fun k hk => by unfold CM at hk; omega))) ⟨fun v' a' S' hq' hk' ht => ?_, fun c v' S' hq' hk' ht => ?_⟩
    · rw [hq] at hq'; cases hq'
    · rw [hq] at hq'
      cases hq'
      unfold wp_X6_thrown
      rw [ht]
      dsimp only
      rw [if_pos (by rfl), if_neg (by decide)]
      exact hN S' _ (JV.km ha hk.2.1 hk.2.2 hk')
set_option maxHeartbeats 4000000 in
theorem law_pure (xs : Nat → Int32) {L : Nat} (hL : L ≤ 2560) : ∀ (n i : Nat) (S : St) (a : Ab), i ≤ 2560 → 2565 ≤ i + 5 * n → JV S a → wp_L_law_28 xs L n S (nI i) := by
  intro n
  induction n with
  | zero => intro i S a h1 h2; omega
  | succ n ih =>
    intro i S a h1 h2 hJ
    rw [wp_L_law_28]
    dsimp only
    by_cases c : nI L - 5 < nI i
    · rw [if_pos c]; trivial
    · rw [if_neg c]
      have hi : i + 5 ≤ L := by
        rcases Nat.lt_or_ge L 5 with z | z
        · exfalso
          refine c (n_neg ?_ i (by omega))
          have : L = 0 ∨ L = 1 ∨ L = 2 ∨ L = 3 ∨ L = 4 := by omega
          rcases this with rfl | rfl | rfl | rfl | rfl <;> decide
        · rw [show (5 : Int32) = nI 5 from rfl, n_sub z, nI_ltI (by omega) (by omega)] at c
          omega
      have v0 : vp_in (nI i) L := vp_in_nI (by omega) (by omega)
      have v1 : vp_in (nI i + 1) L := by rw [n_1, nI_add]; exact vp_in_nI (by omega) (by omega)
      have v2 : vp_in (nI i + 2) L := by rw [n_2, nI_add]; exact vp_in_nI (by omega) (by omega)
      have v3 : vp_in (nI i + 3) L := by rw [n_3, nI_add]; exact vp_in_nI (by omega) (by omega)
      have v4 : vp_in (nI i + 4) L := by rw [show (4 : Int32) = nI 4 from rfl, nI_add]; exact vp_in_nI (by omega) (by omega)
      have hN : ∀ (S' : St) (b : Ab), JV S' b → wp_L_law_1325 xs L (fun S a5 => wp_L_law_28 xs L n S a5) S' (nI i) := by
        intro S' b hb
        unfold wp_L_law_1325
        rintro _ rfl
        rw [show (5 : Int32) = nI 5 from rfl, nI_add]
        exact ih (i + 5) S' b (by omega) (by omega) hb
      obtain ⟨ha, hC, hz, hM⟩ := id hJ
      refine ⟨v0, ?_⟩
      generalize (xs ((nI i).toNatClampNeg)) &&& 31 = w
      by_cases c0 : w = 0
      · rw [if_pos c0]
        exact ⟨v1, v2, l_begin hJ _ _ _ hN _ (fun k S1 hM1 hO => ⟨v1, v2, m_begin hM1 _ _ _ hO⟩)⟩
      rw [if_neg c0]
      by_cases c1 : w = 1
      · rw [if_pos c1]
        exact ⟨v1, v2, v3, l_addFibre hJ _ _ _ _ hN _ (fun k S1 hM1 hO => ⟨v1, v2, v3, m_addFibre ha hM1 _ _ _ _ hO⟩)⟩
      rw [if_neg c1]
      by_cases c2 : w = 2
      · rw [if_pos c2]
        exact ⟨v1, l_toggle hJ _ _ hN _ (fun k S1 hM1 hO => ⟨v1, m_toggle ha hM1 _ _ hO⟩)⟩
      rw [if_neg c2]
      by_cases c3 : w = 3
      · rw [if_pos c3]
        exact ⟨v1, l_cut hJ _ _ hN _ (fun k S1 hM1 hO => ⟨v1, m_cut ha hM1 _ _ hO⟩)⟩
      rw [if_neg c3]
      by_cases c4 : w = 4
      · rw [if_pos c4]
        exact ⟨v1, l_repair hJ _ _ hN _ (fun k S1 hM1 hO => ⟨v1, m_repair ha hM1 _ _ hO⟩)⟩
      rw [if_neg c4]
      by_cases c5 : w = 5
      · rw [if_pos c5]
        exact ⟨v1, v2, l_lightOn hJ _ _ _ hN _ (fun k S1 hM1 hO => ⟨v1, v2, m_lightOn ha hM1 _ _ _ hO⟩)⟩
      rw [if_neg c5]
      by_cases c6 : w = 6
      · rw [if_pos c6]
        refine k_load ha hC _ ?_
        refine m_load ha hM _ (fun S' hk => ?_)
        rw [if_pos rfl]
        exact hN S' a (JV.km ha hC hz hk)
      rw [if_neg c6]
      by_cases c7 : w = 7
      · rw [if_pos c7]
        exact l_usage hJ _ hN _ (fun k S1 hM1 hO => m_usage ha hM1 _ hO)
      rw [if_neg c7]
      by_cases c8 : w = 8
      · rw [if_pos c8]
        exact ⟨v1, v2, v3, v4, l_request hJ _ _ _ _ _ hN _ (fun k S1 hM1 hO => ⟨v1, v2, v3, v4, m_request ha hM1 _ _ _ _ _ hO⟩)⟩
      rw [if_neg c8]
      by_cases c9 : w = 9
      · rw [if_pos c9]
        exact ⟨v1, v2, v3, l_newLength hJ _ _ _ _ hN _ (fun k S1 hM1 hO => ⟨v1, v2, v3, m_newLength ha hM1 _ _ _ _ hO⟩)⟩
      rw [if_neg c9]
      by_cases c10 : w = 10
      · rw [if_pos c10]
        exact ⟨v1, l_release hJ _ _ hN _ (fun k S1 hM1 hO => ⟨v1, m_release ha hM1 _ _ hO⟩)⟩
      rw [if_neg c10]
      by_cases c11 : w = 11
      · rw [if_pos c11]
        exact ⟨v1, l_lightOf hJ _ _ hN _ (fun k S1 hM1 hO => ⟨v1, m_lightOf ha hM1 _ _ hO⟩)⟩
      rw [if_neg c11]
      by_cases c12 : w = 12
      · rw [if_pos c12]
        unfold wp_X5_requests wp_X6_requests
        rintro _ rfl
        rw [hC.2.2.1.2, gI_n (by omega), hM.1.2.2.2.1, if_pos rfl]
        exact hN _ a (JV.km ha hC hz (KM.th hM 0))
      rw [if_neg c12]
      by_cases c13 : w = 13
      · rw [if_pos c13]
        unfold wp_X5_lights wp_X6_lights
        rintro _ rfl
        rw [hC.2.2.1.1, gI_n (by omega), hM.1.2.2.2.2, if_pos rfl]
        exact hN _ a (JV.km ha hC hz (KM.th hM 0))
      rw [if_neg c13]
      by_cases c14 : w = 14
      · rw [if_pos c14]
        exact ⟨v1, l_state hJ _ _ hN _ (fun k S1 hM1 hO => ⟨v1, m_state ha hM1 _ _ hO⟩)⟩
      rw [if_neg c14]
      by_cases c15 : w = 15
      · rw [if_pos c15]
        exact ⟨v1, l_units hJ _ _ hN _ (fun k S1 hM1 hO => ⟨v1, m_units ha hM1 _ _ hO⟩)⟩
      rw [if_neg c15]
      by_cases c16 : w = 16
      · rw [if_pos c16]
        exact ⟨v1, v2, l_channels hJ _ _ _ hN _ (fun k S1 hM1 hO => ⟨v1, v2, m_channels ha hM1 _ _ _ hO⟩)⟩
      rw [if_neg c16]
      by_cases c17 : w = 17
      · rw [if_pos c17]
        exact ⟨v1, v2, v3, l_channel hJ _ _ _ _ hN _ (fun k S1 hM1 hO => ⟨v1, v2, v3, m_channel ha hM1 _ _ _ _ hO⟩)⟩
      rw [if_neg c17]
      by_cases c18 : w = 18
      · rw [if_pos c18]
        exact ⟨v1, l_reroute hJ _ _ hN _ (fun k S1 hM1 hO => ⟨v1, m_reroute ha hM1 _ _ hO⟩)⟩
      rw [if_neg c18]
      by_cases c19 : w = 19
      · rw [if_pos c19]
        exact l_merge hJ _ hN _ (fun k S1 hM1 hO => m_merge ha hM1 _ hO)
      rw [if_neg c19]
      by_cases c20 : w = 20
      · rw [if_pos c20]
        exact l_move hJ _ hN _ (fun k S1 hM1 hO => m_move ha hM1 _ hO)
      rw [if_neg c20]
      by_cases c21 : w = 21
      · rw [if_pos c21]
        refine k_need ha hC hz _ (fun S1 k1 hk hc => ?_)
        refine m_need ha (hM.ag (hk.1.mo (fun k hk => by unfold CM at hk; omega))) _ (fun S2 k2 hk2 hc2 => ?_)
        rw [chr_un hc hc2, if_pos rfl]
        exact hN S2 a (JV.km ha hk.2.1 hk.2.2 hk2)
      rw [if_neg c21]
      exact hN S a hJ
