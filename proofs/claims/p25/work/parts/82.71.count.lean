/-! THE PURE LAYER: channels counted by lights and by fibres, demands counted by lights and by requests -/
/-- the channels of a light, of both its ways -/
def cl (a : Ab) (l : Nat) : List Nat := (wy a l).flatMap (fun w => w.1)
theorem cl_mem {a : Ab} {l c : Nat} : c ∈ cl a l ↔ onc (wy a l) c = true := by
  unfold cl onc
  rw [List.mem_flatMap, List.any_eq_true]
  constructor
  · rintro ⟨w, h1, h2⟩; exact ⟨w, h1, by simpa using h2⟩
  · rintro ⟨w, h1, h2⟩; exact ⟨w, h1, by simpa using h2⟩
theorem nodup_count (c : Nat) : ∀ L : List Nat, L.Nodup → c ∈ L → L.count c = 1 := by
  intro L
  induction L with
  | nil => intro _ h; cases h
  | cons d L ih =>
    intro h hc
    rw [List.nodup_cons] at h
    rw [List.count_cons]
    by_cases z : d = c
    · rw [if_pos (by rw [z]; exact beq_self_eq_true c), List.count_eq_zero.mpr (by rw [← z]; exact h.1)]
    · rw [if_neg (by rw [beq_iff_eq]; exact z)]
      rcases List.mem_cons.mp hc with q | q
      · exact absurd q.symm z
      · exact ih h.2 q
theorem nodup_of10 : ∀ L : List Nat, (L.map (· / 10)).Nodup → L.Nodup := by
  intro L
  induction L with
  | nil => intro _; exact List.nodup_nil
  | cons d L ih =>
    intro h
    rw [List.map_cons, List.nodup_cons] at h
    rw [List.nodup_cons]
    exact ⟨fun z => h.1 (List.mem_map.mpr ⟨d, z, rfl⟩), ih h.2⟩
theorem cl_nodup {a : Ab} (h : WF a) {l : Nat} (hl : l < nL a) : (cl a l).Nodup := by
  have h2 := h.ways hl
  have hn : ∀ (i : Nat) (w : Wy), (wy a l)[i]? = some w → w.1.Nodup := fun i w hw => nodup_of10 _ (h2.2 i w hw).2.1.2.2.2.1
  unfold cl
  rcases hq : wy a l with _ | ⟨w, _ | ⟨v, _ | ⟨_, _⟩⟩⟩
  · exact List.nodup_nil
  · have hw := hn 0 w (by rw [hq]; rfl)
    show (w.1 ++ []).Nodup
    rw [List.append_nil]; exact hw
  · have h0 : (wy a l)[0]? = some w := by rw [hq]; rfl
    have h1 : (wy a l)[1]? = some v := by rw [hq]; rfl
    show (w.1 ++ (v.1 ++ [])).Nodup
    rw [List.append_nil, List.nodup_append]
    refine ⟨hn 0 w h0, hn 1 v h1, fun c hc d hd e => ?_⟩
    rw [← e] at hd
    exact absurd (h.chn l 0 l 1 w v c hl hl h0 h1 hc hd).2 (by decide)
  · exfalso
    have := h2.1
    rw [hq] at this
    simp only [List.length_cons] at this
    omega
theorem sm_one {n k : Nat} {g : Nat → Nat} (hk : k < n) (h : ∀ i, i < n → i ≠ k → g i = 0) : sm n g = g k := by
  induction n with
  | zero => omega
  | succ n ih =>
    rw [sm]
    by_cases c : k = n
    · subst c
      rw [sm_zero (fun i hi => h i (by omega) (by omega)), Nat.zero_add]
    · rw [ih (by omega) (fun i hi => h i (by omega)), h n (by omega) (fun z => c z.symm), Nat.add_zero]
theorem sm_swap (n m : Nat) (g : Nat → Nat → Nat) : sm n (fun i => sm m (g i)) = sm m (fun j => sm n (fun i => g i j)) := by
  induction n with
  | zero => exact (sm_zero (fun _ _ => rfl)).symm
  | succ n ih => rw [sm, ih, ← sm_add]; rfl
theorem sm_mono {n : Nat} {g g' : Nat → Nat} (h : ∀ i, i < n → g i ≤ g' i) : sm n g ≤ sm n g' := by
  induction n with
  | zero => exact Nat.le_refl _
  | succ n ih =>
    have h1 := ih (fun i hi => h i (by omega))
    have h2 := h n (by omega)
    rw [sm, sm]; omega
theorem sm_part (n m : Nat) (g : Nat → Nat) : sm n g ≤ sm (n + m) g := by
  induction m with
  | zero => exact Nat.le_refl _
  | succ m ih => rw [← Nat.add_assoc, sm]; omega
theorem cnt_sm (n : Nat) (p : Nat → Bool) : cnt n p = sm n (fun i => if p i = true then 1 else 0) := by
  induction n with
  | zero => rfl
  | succ n ih => rw [cnt, ih]; rfl
theorem cl_usr {a : Ab} (h : WF a) (f w : Nat) : sm (nL a) (fun l => (cl a l).count (10 * f + w)) = if (usr a f w).isSome = true then 1 else 0 := by
  rcases hu : usr a f w with _ | l
  · rw [if_neg (by decide)]
    refine sm_zero (fun l hl => ?_)
    have := usr_none.mp hu l hl
    rw [List.count_eq_zero]
    intro z
    rw [cl_mem] at z
    rw [z] at this; cases this
  · obtain ⟨hl, ho⟩ := (usr_some h).mp hu
    have hk : ∀ i, i < nL a → i ≠ l → (cl a i).count (10 * f + w) = 0 := by
      intro i hi hne
      rw [List.count_eq_zero]
      intro z
      rw [cl_mem] at z
      have := (usr_some h).mpr ⟨hi, z⟩
      rw [hu] at this
      cases this
      exact hne rfl
    rw [if_pos (show (some l).isSome = true from rfl), sm_one hl hk]
    exact nodup_count _ _ (cl_nodup h hl) (cl_mem.mpr ho)
theorem all_one : ∀ c, c < 140 → c % 10 < 8 → sm 14 (fun f => sm 8 (fun w => if (c == 10 * f + w) = true then 1 else 0)) = 1 := by decide +kernel
theorem len_sum : ∀ L : List Nat, (∀ c ∈ L, c < 140 ∧ c % 10 < 8) → sm 14 (fun f => sm 8 (fun w => L.count (10 * f + w))) = L.length := by
  intro L
  induction L with
  | nil => intro _; exact sm_zero (fun f _ => sm_zero (fun w _ => rfl))
  | cons c L ih =>
    intro h
    have h1 := all_one c (h c (.head _)).1 (h c (.head _)).2
    have h2 := ih (fun d hd => h d (.tail _ hd))
    have e : (fun f => sm 8 (fun w => (c :: L).count (10 * f + w))) = fun f => sm 8 (fun w => L.count (10 * f + w)) + sm 8 (fun w => if (c == 10 * f + w) = true then 1 else 0) := by
      funext f
      rw [← sm_add]
      exact sm_congr (fun w _ => List.count_cons)
    rw [e, sm_add, h1, h2]; rfl
theorem cl_good {a : Ab} (h : WF a) {l : Nat} (hl : l < nL a) : ∀ c ∈ cl a l, c / 10 < nF a ∧ c % 10 < nW a := by
  intro c hc
  obtain ⟨i, w, hw, hc⟩ := onc_mem (cl_mem.mp hc)
  exact ((h.ways hl).2 i w hw).2.1.2.2.1 c hc
theorem chan_sum {a : Ab} (h : WF a) : sm (nL a) (fun l => (cl a l).length) = sm 14 (fun f => cnt 8 (fun w => (usr a f w).isSome)) := by
  have hf := h.2.2.1
  have hw8 := h.2.1.2
  have e1 : sm (nL a) (fun l => (cl a l).length) = sm (nL a) (fun l => sm 14 (fun f => sm 8 (fun w => (cl a l).count (10 * f + w)))) :=
    sm_congr (fun l hl => (len_sum _ (fun c hc => by have := cl_good h hl c hc; omega)).symm)
  rw [e1, sm_swap]
  refine sm_congr (fun f _ => ?_)
  rw [sm_swap, cnt_sm]
  exact sm_congr (fun w _ => cl_usr h f w)
theorem usr_in {a : Ab} (h : WF a) {f w l : Nat} (hw : w < 8) (hu : usr a f w = some l) : f < nF a ∧ w < nW a ∧ l < nL a := by
  obtain ⟨hl, ho⟩ := (usr_some h).mp hu
  have := cl_good h hl _ (cl_mem.mpr ho)
  have e1 : (10 * f + w) / 10 = f := by omega
  have e2 : (10 * f + w) % 10 = w := by omega
  rw [e1, e2] at this
  exact ⟨this.1, this.2, hl⟩
theorem cl_len {a : Ab} (h : WF a) {l : Nat} (hl : l < nL a) : (cl a l).length ≤ 14 := by
  have h2 := h.ways hl
  unfold cl
  rcases hq : wy a l with _ | ⟨w, _ | ⟨v, _ | ⟨_, _⟩⟩⟩
  · exact Nat.zero_le _
  · have h0 := (h2.2 0 w (by rw [hq]; rfl)).2.1.2.1
    show (w.1 ++ []).length ≤ 14
    rw [List.append_nil]; omega
  · have h0 := (h2.2 0 w (by rw [hq]; rfl)).2.1.2.1
    have h1 := (h2.2 1 v (by rw [hq]; rfl)).2.1.2.1
    show (w.1 ++ (v.1 ++ [])).length ≤ 14
    rw [List.append_nil, List.length_append]; omega
  · exfalso
    have := h2.1
    rw [hq] at this
    simp only [List.length_cons] at this
    omega
theorem cl_bound {a : Ab} (h : WF a) : ∀ k, k ≤ nL a → sm k (fun l => (cl a l).length) ≤ 14 * k := by
  intro k
  induction k with
  | zero => intro _; exact Nat.le_refl _
  | succ k ih =>
    intro hk
    have h1 := ih (by omega)
    have h2 := cl_len h (show k < nL a by omega)
    rw [sm]; omega
theorem units_bound {a : Ab} (h : WF a) : ∀ k, k ≤ nL a → sm k (units a) ≤ 10 * k := by
  intro k
  induction k with
  | zero => intro _; exact Nat.le_refl _
  | succ k ih =>
    intro hk
    have h1 := ih (by omega)
    have h2 := (h.lig k (by omega)).2.2.2.1
    rw [sm]; omega
/-! demands -/
theorem sm_sel {n m : Nat} (c g : Nat → Nat) (h : ∀ r, r < m → c r < n) : sm n (fun l => sm m (fun r => if c r = l then g r else 0)) = sm m g := by
  rw [sm_swap]
  refine sm_congr (fun r hr => ?_)
  rw [sm_one (h r hr) (fun i _ hne => if_neg (Ne.symm hne))]
  exact if_pos rfl
/-- a request that still is carried -/
def car (a : Ab) (r : Nat) : Bool := !(de a r == 0)
theorem units_sum {a : Ab} (h : WF a) : sm (nL a) (units a) = sm (nR a) (de a) :=
  sm_sel (ca a) (de a) (fun r hr => (h.req r hr).1)
theorem car_le {a : Ab} (h : WF a) : ∀ k, k ≤ nR a → cnt k (car a) ≤ sm k (de a) ∧ sm k (de a) ≤ 10 * cnt k (car a) := by
  intro k
  induction k with
  | zero => intro _; exact ⟨Nat.le_refl _, Nat.le_refl _⟩
  | succ k ih =>
    intro hk
    have h1 := ih (by omega)
    have h2 := (h.req k (by omega)).2
    rw [sm, cnt]
    unfold car
    by_cases z : de a k = 0
    · rw [z, if_neg (by decide)]; unfold car at h1; omega
    · rw [if_pos (by simpa using z)]; unfold car at h1; omega
theorem alive_le {a : Ab} (h : WF a) : lvs a ≤ cnt (nR a) (car a) := by
  have e : cnt (nR a) (car a) = sm (nL a) (fun l => sm (nR a) (fun r => if ca a r = l then (if car a r = true then 1 else 0) else 0)) := by
    rw [sm_sel (ca a) (fun r => if car a r = true then 1 else 0) (fun r hr => (h.req r hr).1), cnt_sm]
  rw [e]
  unfold lvs
  rw [cnt_sm]
  refine sm_mono (fun l hl => ?_)
  by_cases z : wy a l = []
  · rw [z]; exact Nat.zero_le _
  · have hu : units a l ≠ 0 := fun q => z ((h.lig l hl).2.2.2.2.1.mp q)
    have : ∃ r, r < nR a ∧ ca a r = l ∧ de a r ≠ 0 := by
      apply Classical.byContradiction
      intro q
      refine hu (sm_zero (fun r hr => ?_))
      by_cases y : ca a r = l
      · rw [if_pos y]
        apply Classical.byContradiction
        intro y2
        exact q ⟨r, hr, y, y2⟩
      · rw [if_neg y]
    obtain ⟨r, hr, h1, h2⟩ := this
    have h9 := sm_le (g := fun r => if ca a r = l then (if car a r = true then 1 else 0) else 0) hr
    rw [if_pos h1, if_pos (by unfold car; simpa using h2)] at h9
    split <;> omega
