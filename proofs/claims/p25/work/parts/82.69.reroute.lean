/-! THE PURE LAYER: a light that is rerouted, and rerouted again -/
theorem wya_nI {a : Ab} (h : WF a) {l i : Nat} (hl : l < nL a) (hi : i < 2 ^ 31) : wya a (nI l) (nI i) = (wy a l)[i]? := by
  have hn := h.n60
  unfold wya
  rw [if_pos (isn_i hl (by omega)), tN_nI (by omega)]
  have h2 := (h.ways hl).1
  by_cases c : i < (wy a l).length
  · rw [if_pos (isn_i c (by omega)), tN_nI hi]
  · rw [isn_no (by omega) hi, if_neg (by decide), List.getElem?_eq_none (by omega)]
theorem chs_some {a : Ab} (h : WF a) {l i : Nat} {w : Wy} (hl : l < nL a) (hw : (wy a l)[i]? = some w) : q_channels a (nI l) (nI i) = .ok (nI w.1.length, a) := by
  have h2 := ((h.ways hl).2 i w hw).1
  unfold q_channels
  rw [wya_nI h hl (by omega), hw]
theorem chs_none {a : Ab} (h : WF a) {l i : Nat} (hl : l < nL a) (hi : i < 2 ^ 31) (hw : (wy a l)[i]? = none) : q_channels a (nI l) (nI i) = .error 1 := by
  unfold q_channels
  rw [wya_nI h hl hi, hw]
theorem chl_some {a : Ab} (h : WF a) {l i p : Nat} {w : Wy} (hl : l < nL a) (hw : (wy a l)[i]? = some w) (hp : p < w.1.length) : q_channel a (nI l) (nI i) (nI p) = .ok (nI (w.1.getD p 0), a) := by
  have h2 := ((h.ways hl).2 i w hw)
  have h7 := h2.2.2.1
  unfold q_channel
  rw [wya_nI h hl (by omega), hw]
  dsimp only
  rw [if_pos (isn_i hp (by omega)), tN_nI (by omega)]
theorem chl_end {a : Ab} (h : WF a) {l i : Nat} {w : Wy} (hl : l < nL a) (hw : (wy a l)[i]? = some w) : q_channel a (nI l) (nI i) (nI w.1.length) = .error 1 := by
  have h2 := ((h.ways hl).2 i w hw)
  have h7 := h2.2.2.1
  unfold q_channel
  rw [wya_nI h hl (by omega), hw]
  dsimp only
  rw [isn_no (Nat.le_refl _) (by omega), if_neg (by decide)]
theorem fr_iff {a : Ab} (h : WF a) {l f w : Nat} : (match usr a f w with | none => true | some k => k == l) = true ↔ ∀ k, k < nL a → k ≠ l → onc (wy a k) (10 * f + w) = false := by
  rcases hq : usr a f w with _ | k
  · exact ⟨fun _ k hk _ => usr_none.mp hq k hk, fun _ => rfl⟩
  · obtain ⟨h1, h2⟩ := (usr_some h).mp hq
    dsimp only
    rw [beq_iff_eq]
    constructor
    · intro e k' hk' hne
      rw [← Bool.not_eq_true]
      intro z
      exact hne ((h.onc_un hk' h1 z h2).trans e)
    · intro e
      apply Classical.byContradiction
      intro z
      rw [e k h1 z] at h2; cases h2
theorem usb_same {a b : Ab} (ha : WF a) (hb : WF b) {l : Nat} (h1 : nW b = nW a) (h2 : nF b = nF a) (h3 : nL b = nL a) (h4 : ∀ f, ct b f = ct a f) (h5 : ∀ k, k ≠ l → wy b k = wy a k) (f : Nat) : usb b l f = usb a l f := by
  unfold usb
  rw [h1]
  refine mk_ext (fun w _ => ?_)
  rw [h4, h2]
  congr 1
  rw [Bool.eq_iff_iff]
  have mid : (∀ k, k < nL b → k ≠ l → onc (wy b k) (10 * f + w) = false) ↔ (∀ k, k < nL a → k ≠ l → onc (wy a k) (10 * f + w) = false) := by
    rw [h3]
    exact ⟨fun z k hk hne => by rw [← h5 k hne]; exact z k hk hne, fun z k hk hne => by rw [h5 k hne]; exact z k hk hne⟩
  exact (fr_iff hb).trans (mid.trans (fr_iff ha).symm)
theorem trl_same {a b : Ab} (h1 : nF b = nF a) (h2 : ∀ v f, acr b v f = acr a v f) (bar : Nat → Bool) (t : Nat) : ∀ (n v met : Nat), trl b bar t n v met = trl a bar t n v met := by
  intro n
  induction n with
  | zero => intro v met; rfl
  | succ n ih =>
    intro v met
    rw [trl_succ, trl_succ, h1]
    congr 1
    funext f
    unfold exn
    rw [h2]
    rcases acr a v f with _ | u
    · rfl
    · dsimp only
      rw [ih]
theorem put_put {A : Type} (g : Nat → A) (k : Nat) (v : A) : put (put g k v) k v = put g k v := by
  funext i
  unfold put
  split <;> rfl
theorem xW_xW (a : Ab) (l : Nat) (ws : List Wy) : xW (xW a l ws) l ws = xW a l ws := by
  show (a.1, a.2.1, a.2.2.1, put (put a.2.2.2 l ws) l ws) = (a.1, a.2.1, a.2.2.1, put a.2.2.2 l ws)
  rw [put_put]
theorem rrt_ok {a : Ab} (h : WF a) {l : Nat} {w : Wy} (hl : l < nL a) (hr : rrt a l = some w) : WF (xW a l [w]) ∧ rrt (xW a l [w]) l = some w ∧ lup (xW a l [w]) l = true ∧ 1 ≤ w.1.length ∧ w.2.1 ≤ 7000 := by
  have hn := h.n60
  have hq : q_reroute a (nI l) = .ok (nI w.2.1, xW a l [w]) := by
    unfold q_reroute
    rw [if_pos (isn_i hl (by omega)), tN_nI (by omega), hr]
  have hw := wf_reroute h hq
  have hwy : wy (xW a l [w]) l = [w] := by rw [xW_wy, put_s]
  have hg := (hw.lig l hl).2.2.2.2.2.2 w (by rw [hwy]; exact List.mem_singleton.mpr rfl)
  have h0 : fnd0 a l (sn a l) (en a l) = some w := by
    unfold rrt at hr
    split at hr
    · exact hr
    · cases hr
  have hx := (h.lig l hl).1
  have hbits := (kpt_good h (usb_lt a l) hx (pick_mem h0)).2
  refine ⟨hw, ?_, ?_, hg.1, hg.2.2.2.2.2⟩
  · unfold rrt
    rw [hwy]
    show fnd0 (xW a l [w]) l (sn a l) (en a l) = some w
    rw [← h0]
    unfold fnd0
    have e : usb (xW a l [w]) l = usb a l := funext (usb_same h hw rfl rfl rfl (fun _ => rfl) (fun k hk => by rw [xW_wy, put_n _ _ hk]))
    rw [e]
    unfold kpt
    rw [trl_same (a := a) (b := xW a l [w]) rfl (fun _ _ => rfl)]
    rfl
  · unfold lup
    rw [hwy]
    show (wup (xW a l [w]) w || false) = true
    rw [Bool.or_false]
    unfold wup
    rw [List.all_eq_true]
    intro c hc
    have h9 := hbits c hc
    unfold usb at h9
    rw [mk_bit, Bool.and_eq_true, Bool.and_eq_true, Bool.and_eq_true] at h9
    exact h9.2.1.1
theorem l_reroute2 {S T : St} {a : Ab} (h : WF a) (hd : WD a) (hS : JC S a) (hT : JC T a) {l : Nat} (hl : l < nL a) (P : Bool → St → St → Prop) (hP : ∀ S' T' b, JC S' b → JC T' b → WF b → WD b → nF a ≤ nF b → P true S' T') : wp_L_isReroutedSo S T (nI l) P := by
  have hn := h.n60
  unfold wp_L_isReroutedSo
  refine l_does4 h hS _ _ (fun S1 hS1 => ?_)
  refine l_does4 h hT _ _ (fun T1 hT1 => ?_)
  rw [if_pos rfl]
  unfold wp_L_isReroutedSo_22
  rcases hr : rrt a l with _ | w
  · have hq : q_reroute a (nI l) = .error 2 := by
      unfold q_reroute
      rw [if_pos (isn_i hl (by omega)), tN_nI (by omega), hr]
    rw [hq] at hS1 hT1 ⊢
    rw [show (tl a (.error 2)).1 = -99999 from rfl, if_neg (by decide)]
    exact hP S1 T1 a hS1 hT1 h hd (Nat.le_refl _)
  · have hq : q_reroute a (nI l) = .ok (nI w.2.1, xW a l [w]) := by
      unfold q_reroute
      rw [if_pos (isn_i hl (by omega)), tN_nI (by omega), hr]
    obtain ⟨hw, hr2, hup, h1, h7⟩ := rrt_ok h hl hr
    have gd := gd_reroute h hd (nI l)
    have hq2 : q_reroute (xW a l [w]) (nI l) = .ok (nI w.2.1, xW a l [w]) := by
      unfold q_reroute
      have e9 : isn (nI l) (nL a) = true := isn_i hl (by omega)
      rw [if_pos (show isn (nI l) (nL (xW a l [w])) = true from e9), tN_nI (by omega), hr2]
      dsimp only
      rw [xW_xW]
    rw [hq] at hS1 hT1 gd ⊢
    have hS1 : JC S1 (xW a l [w]) := hS1
    have hT1 : JC T1 (xW a l [w]) := hT1
    have hdb : WD (xW a l [w]) := gd.2.2.1
    have hF : nF a ≤ nF (xW a l [w]) := Nat.le_refl _
    have hlb : l < nL (xW a l [w]) := hl
    have hwy : (wy (xW a l [w]) l)[0]? = some w := by rw [xW_wy, put_s]; rfl
    have hne : wy (xW a l [w]) l ≠ [] := by rw [xW_wy, put_s]; simp
    rw [show (tl a (.ok (nI w.2.1, xW a l [w]))).1 = nI w.2.1 from rfl]
    generalize xW a l [w] = b at *
    have hst : q_state b (nI l) = .ok (0, b) := by rw [q_state_ok hw hlb, if_neg hne, if_pos hup]
    rw [if_pos (by rw [n_0, nI_leI (by omega) (by omega)]; omega)]
    refine k_channel hw hS1.1 hS1.2 (nI l) 0 0 _ _ (o_ok (chl_some hw hlb hwy h1) (fun S2 hS2 => ?_))
    refine k_channels hw hS2.1 hS2.2 (nI l) 0 _ _ (o_ok (chs_some hw hlb hwy) (fun S3 hS3 => ?_))
    rw [if_pos rfl]
    refine k_state hw hS3.1 hS3.2 (nI l) _ _ (o_ok hst (fun S4 hS4 => ?_))
    rw [if_pos rfl]
    refine l_does4 hw hS4 _ _ (fun S5 hS5 => ?_)
    rw [hq2] at hS5 ⊢
    have hS5 : JC S5 b := hS5
    rw [show (tl b (.ok (nI w.2.1, b))).1 = nI w.2.1 from rfl, if_pos rfl]
    refine k_channel hw hS5.1 hS5.2 (nI l) 0 0 _ _ (o_ok (chl_some hw hlb hwy h1) (fun S6 hS6 => ?_))
    rw [if_pos rfl]
    refine k_channels hw hS6.1 hS6.2 (nI l) 0 _ _ (o_ok (chs_some hw hlb hwy) (fun S7 hS7 => ?_))
    rw [if_pos rfl]
    unfold wp_L_isReroutedSo_99
    rw [if_pos rfl]
    refine l_does4 hw hT1 _ _ (fun T2 hT2 => ?_)
    rw [hq2] at hT2 ⊢
    have hT2 : JC T2 b := hT2
    rw [show (tl b (.ok (nI w.2.1, b))).1 = nI w.2.1 from rfl, if_pos rfl]
    exact hP S7 T2 b hS7 hT2 hw hdb hF
