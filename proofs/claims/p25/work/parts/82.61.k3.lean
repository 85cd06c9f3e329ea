/-! THE PURE LAYER: the class's calls that find ways -/
def FdC (S : St) (ws : List Wy) : Prop := (ws = [] → gR S 5 0 = none) ∧ (∀ w, ws = [w] → ∃ q, gR S 5 0 = some q ∧ gR S 5 1 = none ∧ (19 ≤ q ∧ q ≤ 180) ∧ RepC S q w) ∧
  (∀ w v, ws = [w, v] → ∃ q s, gR S 5 0 = some q ∧ gR S 5 1 = some s ∧ (19 ≤ q ∧ q ≤ 180) ∧ (19 ≤ s ∧ s ≤ 180) ∧ RepC S q w ∧ RepC S s v)
/-- what finding leaves alone -/
def FA (q : Nat) : Prop := q < 5 ∨ 181 ≤ q
theorem KC.fa {S S' : St} {a : Ab} (hn : nL a ≤ 60) (hI : InvC S a) (hz : Tk S) (e : agr FA S S') : KC S S' a :=
  ⟨e.mo (fun k hk => by unfold FA; omega), hI.ag hn (e.mo (fun k hk => by unfold CC at hk; unfold FA; omega)), hz.ag (e 183 (by unfold FA; omega))⟩
theorem FdC.of1 {S : St} {r : Option Wy} (h : FsC S r) : FdC S r.toList := by
  obtain ⟨h1, h2, h3⟩ := h
  cases r with
  | none => exact ⟨fun _ => h2 rfl, fun w hw => by (cases hw), fun w v hw => by cases hw⟩
  | some x =>
    refine ⟨fun z => by (cases z), fun w hw => ?_, fun w v hw => by cases hw⟩
    obtain ⟨q, a1, a2, a3, a4, a5⟩ := h3 x rfl
    have : x = w := by simpa using hw
    subst this
    exact ⟨q, a1, h1, ⟨a2, a3⟩, a4⟩
theorem k_findWays {S : St} {a : Ab} {x t rule : Nat} (h : WF a) (hI : InvC S a) (hx : x < nD a) (ht : t < nD a) (hxt : x ≠ t) (hr : rule ≤ 2) (P : St → Prop)
    (hP : ∀ S', agr FA S S' → FdC S' (fnd a x t rule) → P S') : wp_X5_findWays S (nI x) (nI t) (nI rule) P := by
  have hn := h.n60
  unfold wp_X5_findWays
  refine k_open_n h hI _ (fun S1 hag hop => ?_)
  have hI1 : InvC S1 a := hI.ag hn (hag.mo (fun k hk => by unfold CC at hk; show k ≠ 6; omega))
  have hfa : ∀ S', agr (fun q => WC2 q) S1 S' → agr FA S S' := fun S' h2 => (hag.mo (fun k hk => by unfold FA at hk; show k ≠ 6; omega)).tr (h2.mo (fun k hk => by unfold FA at hk; show WC2 k; unfold WC2; omega))
  unfold fnd at hP
  by_cases q0 : rule = 0
  · rw [if_pos (by rw [q0]; rfl)]
    rw [if_pos q0] at hP
    exact k_findFirst (own := 60) h hI1 hx ht hxt hop _ (fun S' h2 hf => hP S' (hfa S' h2) (FdC.of1 hf))
  · rw [if_neg (by rw [n_eq0 (by omega)]; exact q0)]
    rw [if_neg q0] at hP
    by_cases q1 : rule = 1
    · rw [if_pos (by rw [q1]; rfl)]
      rw [if_pos q1] at hP
      exact k_findOne h hI1 hx ht hxt hop _ (fun S' h2 hf => hP S' (hfa S' h2) (FdC.of1 hf))
    · rw [if_neg (by rw [n_1, nI_eq (by omega) (by omega)]; exact q1)]
      rw [if_neg q1] at hP
      refine k_findPair h hI1 hx ht hxt hop _ (fun S' h2 hf => hP S' (hfa S' h2) ?_)
      obtain ⟨f1, f2⟩ := hf
      rcases hp : fnd2 a x t with _ | p
      · exact ⟨fun _ => f1 hp, fun w hw => by (cases hw), fun w v hw => by cases hw⟩
      · refine ⟨fun z => by (dsimp only at z; cases z), fun w hw => by (dsimp only at hw; simp at hw), fun w v hw => ?_⟩
        dsimp only at hw
        obtain ⟨q, s, a1, a2, a3, a4, a5, a6, a7, a8⟩ := f2 p hp
        have e1 : p.1 = w ∧ p.2 = v := by simpa using hw
        rw [← e1.1, ← e1.2]
        exact ⟨q, s, a1, a2, a3, a4, a5, a7⟩
theorem k_rule {S : St} (x : Int32) (P : Bool → St → Prop) (hP : P (rg x 0 2) S) : wp_X5_isRule S x P := by
  unfold wp_X5_isRule
  unfold rg at hP
  by_cases c1 : x < 0
  · rw [if_pos c1]; simpa [c1] using hP
  · rw [if_neg c1]
    by_cases c2 : 2 < x
    · rw [if_pos c2]; simpa [c1, c2] using hP
    · rw [if_neg c2]; simpa [c1, c2] using hP
theorem k_newLength {S : St} {a : Ab} (h : WF a) (hI : InvC S a) (hz : Tk S) (x y r : Int32) (P : Int32 → St → Prop) (E : String → St → Prop) (hO : OutC S a sIA sIS (q_newLength a x y r) P E) : wp_X5_newLength S x y r P E := by
  have hn := h.n60
  have hE : two a x y = false ∨ rg r 0 2 = false → E "java/lang/IllegalArgumentException" S := by
    intro hr
    exact hO.2 1 S (by unfold q_newLength; rcases hr with hr | hr <;> rw [hr] <;> simp) (KC.rf hI hz)
  unfold wp_X5_newLength wp_X5_newLength_16
  refine k_two hI x y _ ?_
  rcases ht : two a x y with _ | _
  · rw [if_neg (by decide)]; exact hE (.inl ht)
  · rw [if_pos rfl]
    refine k_rule r _ ?_
    rcases hr : rg r 0 2 with _ | _
    · rw [if_neg (by decide)]; exact hE (.inr hr)
    · rw [if_pos rfl]
      obtain ⟨i, j, hi, hj, hij, rfl, rfl⟩ := two_t h.1.2 ht
      obtain ⟨k, k1, k2, rfl⟩ := rg_t (lo := 0) (hi := 2) (by omega) (by omega) hr
      have hi8 := h.1.2
      refine k_findWays h hI hi hj hij k2 _ (fun S' hag hF => ?_)
      have hk := KC.fa hn hI hz hag
      have hq : q_newLength a (nI i) (nI j) (nI k) = (if fnd a i j k = [] then .error 2 else .ok (nI (lens (fnd a i j k)), a)) := by
        unfold q_newLength; rw [ht, hr, tN_nI (by omega), tN_nI (by omega), tN_nI (by omega)]; rfl
      obtain ⟨f1, f2, f3⟩ := hF
      rcases (fnd_NW h hi (t := j) k2).2 with q | ⟨w, q, _⟩ | ⟨w, v, q, _⟩
      · have e := f1 q
        refine ⟨fun _ => ?_, fun z hz2 => by rw [e] at hz2; cases hz2⟩
        exact hO.2 2 S' (by rw [hq, if_pos q]) hk
      · obtain ⟨z, e1, e2, e3, e4⟩ := f2 w q
        refine ⟨fun z2 => by (rw [e1] at z2; cases z2), fun z2 hz2 => ?_⟩
        rw [e1] at hz2; cases hz2
        refine ⟨fun _ => ?_, fun z3 hz3 => by rw [e2] at hz3; cases hz3⟩
        rw [e4.2.1]
        exact hO.1 _ a S' (by rw [hq, if_neg (by rw [q]; simp), q]; rfl) hk
      · obtain ⟨z, s, e1, e2, e3, e4, e5, e6⟩ := f3 w v q
        refine ⟨fun z2 => by (rw [e1] at z2; cases z2), fun z2 hz2 => ?_⟩
        rw [e1] at hz2; cases hz2
        refine ⟨fun z3 => by (rw [e2] at z3; cases z3), fun z3 hz3 => ?_⟩
        rw [e2] at hz3; cases hz3
        rw [e5.2.1, e6.2.1, nI_add]
        exact hO.1 _ a S' (by rw [hq, if_neg (by rw [q]; simp), q]; rfl) hk
theorem LtC.prot {S : St} {a : Ab} (h : WF a) {l : Nat} (hl : l < nL a) (hS : LtC S a l) (hne : wy a l ≠ []) (rule : Nat) : (gI S (185 + 3 * l) 5 = b2i (rule == 2)) ↔ ((wy a l).length == (if rule = 2 then 2 else 1)) = true := by
  obtain ⟨_, _, _, _, hc⟩ := h.lt hl
  by_cases q2 : rule = 2
  · rw [q2, if_pos rfl]
    rcases hc with ⟨q, _⟩ | ⟨w, q, _⟩ | ⟨w, v, q, _⟩
    · exact absurd q hne
    · rw [(hS.2.2.2.1 w q).1, q]
      exact ⟨fun z => absurd z (by decide), fun z => by simp at z⟩
    · rw [(hS.2.2.2.2 w v q).1, q]
      exact ⟨fun _ => rfl, fun _ => rfl⟩
  · rw [if_neg q2, show (rule == 2) = false by simp; exact q2]
    rcases hc with ⟨q, _⟩ | ⟨w, q, _⟩ | ⟨w, v, q, _⟩
    · exact absurd q hne
    · rw [(hS.2.2.2.1 w q).1, q]
      exact ⟨fun _ => rfl, fun _ => rfl⟩
    · rw [(hS.2.2.2.2 w v q).1, q]
      exact ⟨fun z => absurd z (by decide), fun z => by simp at z⟩
theorem lup_ne {a : Ab} {l : Nat} (h : lup a l = true) : wy a l ≠ [] := by
  intro z; unfold lup at h; rw [z] at h; cases h
theorem k_room {S : St} {a : Ab} {x y d rule : Nat} (h : WF a) (hI : InvC S a) (hx : x < nD a) (hy : y < nD a) (hd : d ≤ 10) (P : Option Nat → St → Prop)
    (hP : P ((rmf a x y d rule).map (fun l => 185 + 3 * l)) S) : wp_X5_lightWithRoom S (nI x) (nI y) (nI d) (rule == 2) P := by
  have hn := h.n60
  have hi8 := h.1.2
  unfold wp_X5_lightWithRoom
  have key : ∀ N i : Nat, i ≤ nL a → nL a < N + i → (∀ l, l < i → rmy a x y d rule l = false) → wp_X5_lightWithRoom_3 (nI x) (nI y) (nI d) (rule == 2) P N S (nI i) := by
    intro N
    induction N with
    | zero => intro i h1 h2; omega
    | succ N ih =>
      intro i h1 h2 h3
      rw [wp_X5_lightWithRoom_3]
      dsimp only
      rw [hI.2.2.1.1]
      by_cases q : i = nL a
      · rw [if_pos (by simp (disch := omega) only [n_0, n_1, n_2, n_3, n_7, n_8, n_9, n_10, n_12, n_14, n_18, n_20, n_60, n_112, n_162, n_255, n_1000, nI_add, n_mul, nI_ltI, nI_leI, nI_eq, nI_clamp]; omega)]
        have e : rmf a x y d rule = none := by
          unfold rmf
          rw [List.find?_eq_none]
          intro l hl
          rw [h3 l (by rw [q]; exact List.mem_range.mp hl)]; simp
        rw [e] at hP; exact hP
      · have hi : i < nL a := by omega
        rw [if_neg (by simp (disch := omega) only [n_0, n_1, n_2, n_3, n_7, n_8, n_9, n_10, n_12, n_14, n_18, n_20, n_60, n_112, n_162, n_255, n_1000, nI_add, n_mul, nI_ltI, nI_leI, nI_eq, nI_clamp]; omega)]
        refine ⟨vp_in_nI (by omega) (by omega), ?_⟩
        rw [nI_clamp (by omega), hI.1.2.2.2.2]
        have hno : rmy a x y d rule i = false → wp_X5_lightWithRoom_71 (nI x) (nI y) (nI d) (rule == 2) P (fun S a5 => wp_X5_lightWithRoom_3 (nI x) (nI y) (nI d) (rule == 2) P N S a5) S (nI i) := by
          intro hr
          unfold wp_X5_lightWithRoom_71
          rintro _ rfl
          rw [nI_1]
          refine ih (i + 1) (by omega) (by omega) (fun l hl => ?_)
          by_cases e : l = i
          · rw [e]; exact hr
          · exact h3 l (by omega)
        have hL := hI.2.2.2.2.2 i hi
        refine k_isUp h hi hL _ ?_
        rcases hu : lup a i with _ | _
        · rw [if_neg (by decide)]; exact hno (by unfold rmy; rw [hu]; rfl)
        · rw [if_pos rfl]
          refine k_joins h hi hL (by omega) (by omega) _ ?_
          rcases hj : jns a i x y with _ | _
          · rw [if_neg (by decide)]; exact hno (by unfold rmy; rw [hu, hj]; rfl)
          · rw [if_pos rfl]
            have hp := hL.prot h hi (lup_ne hu) rule
            by_cases c : gI S (185 + 3 * i) 5 = b2i (rule == 2)
            · rw [if_pos c]
              rw [hp] at c
              obtain ⟨_, _, _, hu10, _⟩ := h.lt hi
              rw [hL.2.2.1, nI_add]
              by_cases c2 : units a i + d ≤ 10
              · rw [if_neg (by simp (disch := omega) only [n_0, n_1, n_2, n_3, n_7, n_8, n_9, n_10, n_12, n_14, n_18, n_20, n_60, n_112, n_162, n_255, n_1000, nI_add, n_mul, nI_ltI, nI_leI, nI_eq, nI_clamp]; omega)]
                have e : rmf a x y d rule = some i := by
                  unfold rmf
                  rw [find_low]
                  have hl : low (nL a) (rmy a x y d rule) = i := low_uniq hi (by unfold rmy; rw [hu, hj, c, decide_eq_true c2]; rfl) (fun z hz => h3 z hz)
                  rw [hl, if_pos hi]
                rw [e] at hP; exact hP
              · rw [if_pos (by simp (disch := omega) only [n_0, n_1, n_2, n_3, n_7, n_8, n_9, n_10, n_12, n_14, n_18, n_20, n_60, n_112, n_162, n_255, n_1000, nI_add, n_mul, nI_ltI, nI_leI, nI_eq, nI_clamp]; omega)]
                exact hno (by unfold rmy; rw [hu, hj, c, decide_eq_false c2]; rfl)
            · rw [if_neg c]
              rw [hp, Bool.not_eq_true] at c
              exact hno (by unfold rmy; rw [hu, hj, c]; rfl)
  obtain ⟨N, hN⟩ : ∃ N, nL a < N := ⟨_, Nat.lt_succ_self _⟩
  exact ⟨N, key N 0 (by omega) (by omega) (fun l hl => absurd hl (Nat.not_lt_zero _))⟩
theorem k_98 {S : St} {b : Ab} (hI : InvC S b) (hz : Tk S) {l d : Nat} (x1 x2 x4 : Int32) (hl : l < nL b) (hn : nL b ≤ 60) (hR : nR b < 60) (hd0 : d ≠ 0) (P : Int32 → St → Prop) (E : String → St → Prop)
    (hP : ∀ S', KC S S' (xR b l d) → P (nI (nR b)) S') : wp_X5_request_98 x1 x2 (nI d) x4 P E S (185 + 3 * l) := by
  obtain ⟨g0, g1, g2, g3, g4, g5⟩ := hI
  have hv : vp_in (nI (nR b)) 60 := vp_in_nI (by omega) (by omega)
  unfold wp_X5_request_98
  rintro _ rfl
  have e7 : ∀ v, gI (sI S (185 + 3 * l) 6 v) 0 7 = nI (nR b) := fun v => by rw [gI_n (by omega)]; exact g2.2
  rw [e7, nI_clamp (by omega)]
  refine ⟨hv, ?_⟩
  rintro _ rfl
  rw [gI_sR, e7, nI_clamp (by omega)]
  refine ⟨hv, ?_⟩
  rintro _ rfl _ rfl
  rw [gI_n (by omega), gI_sR, e7]
  refine hP _ (KC.req ?_ hz g0 g1 ?_ ?_ ?_ ?_)
  · exact (((agr_sI (by omega) _ _ _).tr (agr_sR (by omega) _ _ _)).tr (agr_sI (by omega) _ _ _)).tr (agr_sI (by omega) _ _ _)
  · rw [xR_nL, xR_nR, nI_1]; simp (disch := omega) only [gI_s, gJ_s, gR_s, gI_n, gJ_n, gR_n, gI_sJ, gI_sR, gI_sD, gJ_sI, gJ_sR, gJ_sD, gR_sI, gR_sJ, gR_sD]; exact ⟨g2.1, trivial⟩
  · intro k hk
    rw [xR_nR] at hk
    rw [xR_de, xR_ca]
    by_cases z : k = nR b
    · rw [z, put_s, put_s, if_neg hd0]; simp (disch := omega) only [gI_s, gJ_s, gR_s, gI_n, gJ_n, gR_n, gI_sJ, gI_sR, gI_sD, gJ_sI, gJ_sR, gJ_sD, gR_sI, gR_sJ, gR_sD]; exact ⟨trivial, fun _ => trivial⟩
    · rw [put_n _ _ z, put_n _ _ z]; simp (disch := omega) only [gI_s, gJ_s, gR_s, gI_n, gJ_n, gR_n, gI_sJ, gI_sR, gI_sD, gJ_sI, gJ_sR, gJ_sD, gR_sI, gR_sJ, gR_sD]; exact g3 k (by omega)
  · intro k hk; simp (disch := omega) only [gI_s, gJ_s, gR_s, gI_n, gJ_n, gR_n, gI_sJ, gI_sR, gI_sD, gJ_sI, gJ_sR, gJ_sD, gR_sI, gR_sJ, gR_sD]; exact g4 k hk
  · intro k hk
    rw [xR_nL] at hk
    obtain ⟨c1, c2, c3, c4, c5⟩ := g5 k hk
    rw [xR_sn, xR_en, xR_wy, units_xR]
    refine ⟨by omega, by simp (disch := omega) only [gI_s, gJ_s, gR_s, gI_n, gJ_n, gR_n, gI_sJ, gI_sR, gI_sD, gJ_sI, gJ_sR, gJ_sD, gR_sI, gR_sJ, gR_sD]; exact c1, by simp (disch := omega) only [gI_s, gJ_s, gR_s, gI_n, gJ_n, gR_n, gI_sJ, gI_sR, gI_sD, gJ_sI, gJ_sR, gJ_sD, gR_sI, gR_sJ, gR_sD]; exact c2, ?_, fun w hw => by simp (disch := omega) only [gI_s, gJ_s, gR_s, gI_n, gJ_n, gR_n, gI_sJ, gI_sR, gI_sD, gJ_sI, gJ_sR, gJ_sD, gR_sI, gR_sJ, gR_sD]; exact c4 w hw, fun w v hw => by simp (disch := omega) only [gI_s, gJ_s, gR_s, gI_n, gJ_n, gR_n, gI_sJ, gI_sR, gI_sD, gJ_sI, gJ_sR, gJ_sD, gR_sI, gR_sJ, gR_sD]; exact c5 w v hw⟩
    by_cases z : k = l
    · rw [z, if_pos rfl]; simp (disch := omega) only [gI_s, gJ_s, gR_s, gI_n, gJ_n, gR_n, gI_sJ, gI_sR, gI_sD, gJ_sI, gJ_sR, gJ_sD, gR_sI, gR_sJ, gR_sD]; rw [(g5 l hl).2.2.1, nI_add]
    · rw [if_neg z, Nat.add_zero]; simp (disch := omega) only [gI_s, gJ_s, gR_s, gI_n, gJ_n, gR_n, gI_sJ, gI_sR, gI_sD, gJ_sI, gJ_sR, gJ_sD, gR_sI, gR_sJ, gR_sD]; exact c3
theorem k_lofw {S : St} {a : Ab} {x y : Nat} {ws : List Wy} (h : WF a) (hI : InvC S a) (hz : Tk S) (hF : FdC S ws) (hc : ws = [] ∨ (∃ w, ws = [w]) ∨ (∃ w v, ws = [w, v])) (hR : nR a < 60) (P : Nat → St → Prop) (E : String → St → Prop)
    (hE : ¬ (lvs a < 12 ∧ ws ≠ []) → E "java/lang/IllegalStateException" S)
    (hP : ∀ S', lvs a < 12 → ws ≠ [] → KC S S' (xL a (x) (y) ws) → P (185 + 3 * nL a) S') : wp_X5_lightOnFoundWays S (nI x) (nI y) P E := by
  have hn := h.n60
  have hn2 : nL a < 60 := by have := h.2.2.2.1; omega
  have hl12 := h.l12
  obtain ⟨f1, f2, f3⟩ := hF
  have hq : ∀ q4, gR S 5 0 = some q4 → ws ≠ [] := fun q4 hq z => by rw [f1 z] at hq; cases hq
  unfold wp_X5_lightOnFoundWays wp_X5_lightOnFoundWays_40
  refine ⟨fun e => hE (fun z => ?_), fun q4 e => ?_⟩
  · rcases hc with q | ⟨w, q⟩ | ⟨w, v, q⟩
    · exact z.2 q
    · obtain ⟨s, e1, _⟩ := f2 w q; rw [e] at e1; cases e1
    · obtain ⟨s, t, e1, _⟩ := f3 w v q; rw [e] at e1; cases e1
  · have hne := hq q4 e
    refine k_living h hI _ ?_
    by_cases c : lvs a < 12
    · rw [if_neg (by simp (disch := omega) only [n_0, n_1, n_2, n_3, n_7, n_8, n_9, n_10, n_12, n_14, n_18, n_20, n_60, n_112, n_162, n_255, n_1000, nI_add, n_mul, nI_ltI, nI_leI, nI_eq, nI_clamp]; omega), hI.2.2.1.1, if_pos (by simp (disch := omega) only [n_0, n_1, n_2, n_3, n_7, n_8, n_9, n_10, n_12, n_14, n_18, n_20, n_60, n_112, n_162, n_255, n_1000, nI_add, n_mul, nI_ltI, nI_leI, nI_eq, nI_clamp]; omega), nI_clamp (by omega)]
      refine ⟨vp_in_nI (by omega) (by omega), ?_⟩
      rintro _ rfl
      rw [gR_sI]
      have hP := fun S' => hP S' c hne
      obtain ⟨g0, g1, g2, g3, g4, g5⟩ := hI
      have fin : ∀ S' : St, agr (fun k => k ≠ 0 ∧ ¬ (185 + 3 * nL a ≤ k ∧ k < 188 + 3 * nL a)) S S' → gI S' 0 4 = nI (nL a + 1) → gI S' 0 7 = gI S 0 7 → gI S' (185 + 3 * nL a) 0 = gI S (185 + 3 * nL a) 0 → LtC S' (xL a x y ws) (nL a) → KC S S' (xL a x y ws) := by
        intro S' hag h1 h2 h3 h4
        refine ⟨hag.mo (fun k hk => by omega), ⟨?_, ?_, ⟨h1, h2.trans g2.2⟩, ?_, ?_, ?_⟩, hz.ag (hag 183 (by omega))⟩
        · rw [(hag 1 (by omega)).1, (hag 1 (by omega)).1, (hag 1 (by omega)).1, (hag 1 (by omega)).1, (hag 1 (by omega)).1]; exact g0
        · intro f hf
          rw [(hag 2 (by omega)).1, (hag 3 (by omega)).1, (hag 4 (by omega)).1]; exact g1 f hf
        · intro r hr
          rw [(hag 365 (by omega)).2.2.1, (hag 366 (by omega)).1]; exact g3 r hr
        · intro l hl
          by_cases z : l = nL a
          · rw [z, h3, ← z]; exact g4 l hl
          · rw [(hag _ (by omega)).1]; exact g4 l hl
        · intro l hl
          rw [xL_nL] at hl
          by_cases z : l = nL a
          · rw [z]; exact h4
          · have := (g5 l (by omega)).ag (hag (185 + 3 * l) (by omega)) (hag (186 + 3 * l) (by omega)) (hag (187 + 3 * l) (by omega))
            unfold LtC at *
            rw [xL_sn, xL_en, xL_wy, put_n _ _ z, put_n _ _ z, put_n _ _ z]
            exact this
      have hu0 : units (xL a x y ws) (nL a) = 0 := by
        refine sm_zero (fun i hi => ?_)
        have := (h.req i hi).1
        rw [xL_ca, if_neg (by omega)]
      rcases hc with q | ⟨w, q⟩ | ⟨w, v, q⟩
      · exact absurd q hne
      · obtain ⟨s, e1, e2, e3, e4⟩ := f2 w q
        rw [e] at e1; cases e1
        refine ⟨fun _ => ?_, fun z hz => by rw [e2] at hz; cases hz⟩
        unfold wp_X1_start_n wp_X1_start_n_34
        rintro _ rfl _ rfl _ rfl
        refine k_become (w := w) (by omega) ?_ _ (fun S2 ha hr => ?_)
        · unfold RepC; simp (disch := omega) only [gI_s, gJ_s, gR_s, gI_n, gJ_n, gR_n, gI_sJ, gI_sR, gI_sD, gJ_sI, gJ_sR, gJ_sD, gR_sI, gR_sJ, gR_sD]; exact e4
        · rintro _ rfl
          have ha5 : ceq _ S2 (185 + 3 * nL a) := ha _ (by omega)
          refine hP _ (fin _ ?_ ?_ ?_ ?_ ?_)
          · exact (((((agr_sI (by omega) _ _ _).tr (agr_sI (by omega) _ _ _)).tr (agr_sI (by omega) _ _ _)).tr (agr_sI (by omega) _ _ _)).tr (ha.mo (fun k hk => by omega))).tr (agr_sI (by omega) _ _ _)
          · rw [gI_n (by omega), (ha 0 (by omega)).1]; simp (disch := omega) only [gI_s, gJ_s, gR_s, gI_n, gJ_n, gR_n, gI_sJ, gI_sR, gI_sD, gJ_sI, gJ_sR, gJ_sD, gR_sI, gR_sJ, gR_sD]; rw [nI_1]
          · rw [gI_n (by omega), (ha 0 (by omega)).1]; simp (disch := omega) only [gI_s, gJ_s, gR_s, gI_n, gJ_n, gR_n, gI_sJ, gI_sR, gI_sD, gJ_sI, gJ_sR, gJ_sD, gR_sI, gR_sJ, gR_sD]
          · rw [gI_n (by omega), ha5.1]; simp (disch := omega) only [gI_s, gJ_s, gR_s, gI_n, gJ_n, gR_n, gI_sJ, gI_sR, gI_sD, gJ_sI, gJ_sR, gJ_sD, gR_sI, gR_sJ, gR_sD]
          · unfold LtC
            rw [xL_sn, xL_en, xL_wy, put_s, put_s, put_s, hu0, q]
            refine ⟨?_, ?_, ?_, fun w2 hw => ⟨?_, ?_⟩, fun w2 v hw => by simp at hw⟩
            · rw [gI_n (by omega), ha5.1]; simp (disch := omega) only [gI_s, gJ_s, gR_s, gI_n, gJ_n, gR_n, gI_sJ, gI_sR, gI_sD, gJ_sI, gJ_sR, gJ_sD, gR_sI, gR_sJ, gR_sD]
            · rw [gI_n (by omega), ha5.1]; simp (disch := omega) only [gI_s, gJ_s, gR_s, gI_n, gJ_n, gR_n, gI_sJ, gI_sR, gI_sD, gJ_sI, gJ_sR, gJ_sD, gR_sI, gR_sJ, gR_sD]
            · rw [gI_n (by omega), ha5.1]; simp (disch := omega) only [gI_s, gJ_s, gR_s, gI_n, gJ_n, gR_n, gI_sJ, gI_sR, gI_sD, gJ_sI, gJ_sR, gJ_sD, gR_sI, gR_sJ, gR_sD]; rfl
            · rw [gI_s]; rfl
            · have : w = w2 := by simpa using hw
              rw [← this, show 186 + 3 * nL a = 185 + 3 * nL a + 1 by omega]
              exact hr.ag ((agr_sI (p := fun k => k = 185 + 3 * nL a + 1) (by omega) _ _ _) _ rfl)
      · obtain ⟨s, t, e1, e2, e3, e4, e5, e6⟩ := f3 w v q
        rw [e] at e1; cases e1
        refine ⟨fun z => by (rw [e2] at z; cases z), fun z hz => ?_⟩
        rw [e2] at hz; cases hz
        unfold wp_X1_start_s wp_X1_start_s_34
        rintro _ rfl _ rfl _ rfl
        refine k_become (w := w) (by omega) ?_ _ (fun S2 ha hr => ?_)
        · unfold RepC; simp (disch := omega) only [gI_s, gJ_s, gR_s, gI_n, gJ_n, gR_n, gI_sJ, gI_sR, gI_sD, gJ_sI, gJ_sR, gJ_sD, gR_sI, gR_sJ, gR_sD]; exact e5
        · rintro _ rfl
          have ha5 : ceq _ S2 (185 + 3 * nL a) := ha _ (by omega)
          have hat : ceq _ S2 t := ha _ (by omega)
          refine k_become (w := v) (by omega) ?_ _ (fun S3 hb hr2 => ?_)
          · refine RepC.ag ?_ ((agr_sI (p := fun k => k = t) (by omega) _ _ _) _ rfl)
            refine RepC.ag ?_ hat
            unfold RepC; simp (disch := omega) only [gI_s, gJ_s, gR_s, gI_n, gJ_n, gR_n, gI_sJ, gI_sR, gI_sD, gJ_sI, gJ_sR, gJ_sD, gR_sI, gR_sJ, gR_sD]; exact e6
          · have hb5 : ceq _ S3 (185 + 3 * nL a) := hb _ (by omega)
            refine hP _ (fin _ ?_ ?_ ?_ ?_ ?_)
            · exact ((((((agr_sI (by omega) _ _ _).tr (agr_sI (by omega) _ _ _)).tr (agr_sI (by omega) _ _ _)).tr (agr_sI (by omega) _ _ _)).tr (ha.mo (fun k hk => by omega))).tr (agr_sI (by omega) _ _ _)).tr (hb.mo (fun k hk => by omega))
            · rw [(hb 0 (by omega)).1, gI_n (by omega), (ha 0 (by omega)).1]; simp (disch := omega) only [gI_s, gJ_s, gR_s, gI_n, gJ_n, gR_n, gI_sJ, gI_sR, gI_sD, gJ_sI, gJ_sR, gJ_sD, gR_sI, gR_sJ, gR_sD]; rw [nI_1]
            · rw [(hb 0 (by omega)).1, gI_n (by omega), (ha 0 (by omega)).1]; simp (disch := omega) only [gI_s, gJ_s, gR_s, gI_n, gJ_n, gR_n, gI_sJ, gI_sR, gI_sD, gJ_sI, gJ_sR, gJ_sD, gR_sI, gR_sJ, gR_sD]
            · rw [hb5.1, gI_n (by omega), ha5.1]; simp (disch := omega) only [gI_s, gJ_s, gR_s, gI_n, gJ_n, gR_n, gI_sJ, gI_sR, gI_sD, gJ_sI, gJ_sR, gJ_sD, gR_sI, gR_sJ, gR_sD]
            · unfold LtC
              rw [xL_sn, xL_en, xL_wy, put_s, put_s, put_s, hu0, q]
              refine ⟨?_, ?_, ?_, fun w2 hw => by simp at hw, fun w2 v2 hw => ⟨?_, ?_, ?_⟩⟩
              · rw [hb5.1, gI_n (by omega), ha5.1]; simp (disch := omega) only [gI_s, gJ_s, gR_s, gI_n, gJ_n, gR_n, gI_sJ, gI_sR, gI_sD, gJ_sI, gJ_sR, gJ_sD, gR_sI, gR_sJ, gR_sD]
              · rw [hb5.1, gI_n (by omega), ha5.1]; simp (disch := omega) only [gI_s, gJ_s, gR_s, gI_n, gJ_n, gR_n, gI_sJ, gI_sR, gI_sD, gJ_sI, gJ_sR, gJ_sD, gR_sI, gR_sJ, gR_sD]
              · rw [hb5.1, gI_n (by omega), ha5.1]; simp (disch := omega) only [gI_s, gJ_s, gR_s, gI_n, gJ_n, gR_n, gI_sJ, gI_sR, gI_sD, gJ_sI, gJ_sR, gJ_sD, gR_sI, gR_sJ, gR_sD]; rfl
              · rw [hb5.1, gI_s]; rfl
              · have : w = w2 ∧ v = v2 := by simpa using hw
                rw [← this.1, show 186 + 3 * nL a = 185 + 3 * nL a + 1 by omega]
                exact (hr.ag ((agr_sI (p := fun k => k = 185 + 3 * nL a + 1) (by omega) _ _ _) _ rfl)).ag (hb _ (by omega))
              · have : w = w2 ∧ v = v2 := by simpa using hw
                rw [← this.2, show 187 + 3 * nL a = 185 + 3 * nL a + 2 by omega]
                exact hr2
    · rw [if_pos (by simp (disch := omega) only [n_0, n_1, n_2, n_3, n_7, n_8, n_9, n_10, n_12, n_14, n_18, n_20, n_60, n_112, n_162, n_255, n_1000, nI_add, n_mul, nI_ltI, nI_leI, nI_eq, nI_clamp]; omega)]
      exact hE (fun z => c z.1)
theorem k_request {S : St} {a : Ab} (h : WF a) (hI : InvC S a) (hz : Tk S) (x y d r : Int32) (P : Int32 → St → Prop) (E : String → St → Prop) (hO : OutC S a sIA sIS (q_request a x y d r) P E) : wp_X5_request S x y d r P E := by
  have hn := h.n60
  have hn2 := h.2.2.2.2.1
  have hE : two a x y = false ∨ rg d 1 10 = false ∨ rg r 0 2 = false → E "java/lang/IllegalArgumentException" S := by
    intro hr
    exact hO.2 1 S (by unfold q_request; rcases hr with hr | hr | hr <;> rw [hr] <;> simp) (KC.rf hI hz)
  unfold wp_X5_request wp_X5_request_28
  refine k_two hI x y _ ?_
  rcases ht : two a x y with _ | _
  · rw [if_neg (by decide)]; exact hE (.inl ht)
  · rw [if_pos rfl]
    refine k_rule r _ ?_
    rcases hr : rg r 0 2 with _ | _
    · rw [if_neg (by decide)]; exact hE (.inr (.inr hr))
    · rw [if_pos rfl]
      by_cases c1 : d < 1
      · rw [if_pos c1]; exact hE (.inr (.inl (by unfold rg; simp [c1])))
      · rw [if_neg c1]
        by_cases c2 : d ≤ 10
        · rw [if_pos c2]
          have r2 : rg d 1 10 = true := by unfold rg; rw [decide_eq_false c1, decide_eq_false (by rw [i_nlt]; exact c2)]; rfl
          obtain ⟨e, e1, e2, rfl⟩ := rg_t (lo := 1) (hi := 10) (by omega) (by omega) r2
          obtain ⟨i, j, hi, hj, hij, rfl, rfl⟩ := two_t h.1.2 ht
          obtain ⟨k, k1, k2, rfl⟩ := rg_t (lo := 0) (hi := 2) (by omega) (by omega) hr
          have hi8 := h.1.2
          have hq : q_request a (nI i) (nI j) (nI e) (nI k) = (if nR a = 60 then .error 2 else match rmf a i j e k with
              | some l => .ok (nI (nR a), xR a l e)
              | none => if lvs a < 12 ∧ fnd a i j k ≠ [] then .ok (nI (nR a), xR (xL a i j (fnd a i j k)) (nL a) e) else .error 2) := by
            unfold q_request; rw [ht, hr, r2, tN_nI (by omega), tN_nI (by omega), tN_nI (by omega), tN_nI (by omega)]; rfl
          rw [hI.2.2.1.2]
          by_cases c3 : nR a = 60
          · rw [if_neg (by simp (disch := omega) only [n_0, n_1, n_2, n_3, n_7, n_8, n_9, n_10, n_12, n_14, n_18, n_20, n_60, n_112, n_162, n_255, n_1000, nI_add, n_mul, nI_ltI, nI_leI, nI_eq, nI_clamp]; omega)]
            exact hO.2 2 S (by rw [hq, if_pos c3]) (KC.rf hI hz)
          · rw [if_pos (by simp (disch := omega) only [n_0, n_1, n_2, n_3, n_7, n_8, n_9, n_10, n_12, n_14, n_18, n_20, n_60, n_112, n_162, n_255, n_1000, nI_add, n_mul, nI_ltI, nI_leI, nI_eq, nI_clamp]; omega)]
            rw [if_neg c3] at hq
            have main : wp_X5_request_72 (nI i) (nI j) (nI e) (nI k) P E S (k == 2) := by
              unfold wp_X5_request_72
              refine k_room h hI hi hj e2 _ ?_
              rcases hm : rmf a i j e k with _ | l
              · refine ⟨fun _ => ?_, fun q hq => by cases hq⟩
                rw [hm] at hq
                dsimp only at hq
                refine k_findWays h hI hi hj hij k2 _ (fun S1 hag hF => ?_)
                have hk := KC.fa hn hI hz hag
                refine k_lofw h hk.2.1 hk.2.2 hF ?_ (by omega) _ _ (fun z => ?_) (fun S2 z1 z2 hk2 => ?_)
                · rcases (fnd_NW h hi (t := j) k2).2 with q | ⟨w, q, _⟩ | ⟨w, v, q, _⟩
                  · exact .inl q
                  · exact .inr (.inl ⟨w, q⟩)
                  · exact .inr (.inr ⟨w, v, q⟩)
                · exact hO.2 2 S1 (by rw [hq, if_neg z]) hk
                · refine k_98 hk2.2.1 hk2.2.2 _ _ _ (by rw [xL_nL]; omega) (by rw [xL_nL]; have := h.2.2.2.1; omega) (by rw [xL_nR]; omega) (by omega) _ _ (fun S3 hk3 => ?_)
                  exact hO.1 _ _ S3 (by rw [hq, if_pos ⟨z1, z2⟩]; rfl) ((hk.tr hk2).tr hk3)
              · refine ⟨fun q => by (cases q), fun q hq2 => ?_⟩
                cases hq2
                rw [hm] at hq
                dsimp only at hq
                have hl : l < nL a := by
                  unfold rmf at hm
                  exact List.mem_range.mp (List.mem_of_find?_eq_some hm)
                refine k_98 hI hz _ _ _ hl hn (by omega) (by omega) _ _ (fun S3 hk3 => ?_)
                exact hO.1 _ _ S3 hq hk3
            by_cases c4 : k = 2
            · rw [if_pos (by rw [c4]; rfl)]
              rw [show (k == 2) = true by rw [c4]; rfl] at main
              exact main
            · rw [if_neg (by rw [show (2 : Int32) = nI 2 from rfl, nI_eq (by omega) (by omega)]; exact c4)]
              rw [show (k == 2) = false by simp; exact c4] at main
              exact main
        · rw [if_neg c2]; exact hE (.inr (.inl (by unfold rg; rw [decide_eq_true (i_nle.mp c2)]; simp)))
theorem k_reroute {S : St} {a : Ab} (h : WF a) (hI : InvC S a) (hz : Tk S) (x : Int32) (P : Int32 → St → Prop) (E : String → St → Prop) (hO : OutC S a sIB sIS (q_reroute a x) P E) : wp_X5_reroute S x P E := by
  have hn := h.n60
  unfold wp_X5_reroute wp_X5_reroute_20
  refine k_light h hI x _ _ (fun l hl hx ht => ?_) (fun ht => hO.2 1 S (by unfold q_reroute; rw [ht]; rfl) (KC.rf hI hz))
  subst hx
  have hq : q_reroute a (nI l) = match rrt a l with
      | none => .error 2
      | some w => .ok (nI w.2.1, xW a l [w]) := by unfold q_reroute; rw [ht, tN_nI (by omega)]; rfl
  have hL := hI.2.2.2.2.2 l hl
  obtain ⟨_, _, _, _, hc⟩ := h.lt hl
  refine k_isGone h hl hL _ ?_
  rcases hc with ⟨q, _⟩ | ⟨w, q, _⟩ | ⟨w, v, q, _⟩
  · rw [q, if_pos (by rfl)]
    exact hO.2 2 S (by rw [hq]; unfold rrt; rw [q]) (KC.rf hI hz)
  · rw [q, if_neg (by simp), if_pos (hL.2.2.2.1 w q).1]
    obtain ⟨b1, b2, b3, _⟩ := h.lig l hl
    refine k_open_s h hI _ (fun S1 hag hop => ?_)
    have hI1 : InvC S1 a := hI.ag hn (hag.mo (fun k hk => by unfold CC at hk; show k ≠ 6; omega))
    have hL1 := hI1.2.2.2.2.2 l hl
    rw [hL1.1, hL1.2.1]
    refine k_findFirst h hI1 b1 b2 b3 hop _ (fun S2 hag2 hF => ?_)
    have hfa : agr FA S S2 := (hag.mo (fun k hk => by unfold FA at hk; show k ≠ 6; omega)).tr (hag2.mo (fun k hk => by unfold FA at hk; show WC2 k; unfold WC2; omega))
    have hk := KC.fa hn hI hz hfa
    have hr : rrt a l = fnd0 a l (sn a l) (en a l) := by unfold rrt; rw [q]
    rw [hr] at hq
    obtain ⟨f1, f2, f3⟩ := hF
    refine ⟨fun e => ?_, fun s e => ?_⟩
    · rcases hf : fnd0 a l (sn a l) (en a l) with _ | w2
      · rw [hf] at hq
        exact hO.2 2 S2 hq hk
      · obtain ⟨s, e1, _⟩ := f3 w2 hf
        rw [e] at e1; cases e1
    · rcases hf : fnd0 a l (sn a l) (en a l) with _ | w2
      · rw [f2 hf] at e; cases e
      · rw [hf] at hq
        obtain ⟨s2, e1, e2, e3, e4, e5⟩ := f3 w2 hf
        rw [e] at e1; cases e1
        refine k_become (w := w2) (by omega) e4 _ (fun S3 hb hr3 => ?_)
        rw [(hb s (by omega)).1, e4.2.1]
        refine hO.1 _ _ S3 hq (hk.tr ⟨hb.mo (fun k hk => by omega), ?_, hk.2.2.ag (hb 183 (by omega))⟩)
        obtain ⟨g0, g1, g2, g3, g4, g5⟩ := hk.2.1
        refine ⟨?_, ?_, ?_, ?_, ?_, ?_⟩
        · rw [(hb 1 (by omega)).1, (hb 1 (by omega)).1, (hb 1 (by omega)).1, (hb 1 (by omega)).1, (hb 1 (by omega)).1]; exact g0
        · intro f hf2
          rw [(hb 2 (by omega)).1, (hb 3 (by omega)).1, (hb 4 (by omega)).1]; exact g1 f hf2
        · rw [(hb 0 (by omega)).1, (hb 0 (by omega)).1]; exact g2
        · intro r hr
          rw [(hb 365 (by omega)).2.2.1, (hb 366 (by omega)).1]; exact g3 r hr
        · intro k hk2
          rw [(hb _ (by omega)).1]; exact g4 k hk2
        · intro k hk2
          rw [xW_nL] at hk2
          have c5 := hb (185 + 3 * k) (by omega)
          obtain ⟨d1, d2, d3, d4, d5⟩ := g5 k hk2
          unfold LtC
          rw [c5.1, c5.1, c5.1, c5.1, xW_wy]
          refine ⟨d1, d2, d3, ?_⟩
          by_cases z : k = l
          · rw [z, put_s]
            refine ⟨fun w3 hw => ?_, fun w3 v hw => by simp at hw⟩
            have : w2 = w3 := by simpa using hw
            rw [← this, show 186 + 3 * l = 185 + 3 * l + 1 by omega]
            rw [z] at d4
            exact ⟨(d4 w q).1, hr3⟩
          · rw [put_n _ _ z]
            exact ⟨fun w3 hw => ⟨(d4 w3 hw).1, (d4 w3 hw).2.ag (hb _ (by omega))⟩, fun w3 v hw => ⟨(d5 w3 v hw).1, (d5 w3 v hw).2.1.ag (hb _ (by omega)), (d5 w3 v hw).2.2.ag (hb _ (by omega))⟩⟩
  · rw [q, if_neg (by simp), if_neg (by rw [(hL.2.2.2.2 w v q).1]; decide)]
    exact hO.2 2 S (by rw [hq]; unfold rrt; rw [q]) (KC.rf hI hz)
