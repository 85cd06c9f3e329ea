/-! THE PURE LAYER: what calls keep -/
theorem sm_congr {n : Nat} {g g' : Nat → Nat} (h : ∀ i, i < n → g i = g' i) : sm n g = sm n g' := by
  induction n with
  | zero => rfl
  | succ n ih => rw [sm, sm, ih (fun i hi => h i (by omega)), h n (by omega)]
theorem sm_put {n r : Nat} {g g' : Nat → Nat} (hr : r < n) (h : ∀ i, i ≠ r → g' i = g i) : sm n g' + g r = sm n g + g' r := by
  induction n with
  | zero => omega
  | succ n ih =>
    rw [sm, sm]
    by_cases q : r = n
    · subst q
      rw [sm_congr (n := r) (g := g') (g' := g) (fun i hi => h i (by omega))]; omega
    · have := ih (by omega)
      rw [h n (by omega)]; omega
theorem sm_add (n : Nat) (g g' : Nat → Nat) : sm n (fun i => g i + g' i) = sm n g + sm n g' := by
  induction n with
  | zero => rfl
  | succ n ih => rw [sm, sm, sm, ih]; omega
theorem sm_zero {n : Nat} {g : Nat → Nat} (h : ∀ i, i < n → g i = 0) : sm n g = 0 := by
  induction n with
  | zero => rfl
  | succ n ih => rw [sm, ih (fun i hi => h i (by omega)), h n (by omega)]
theorem sm_le {n i : Nat} {g : Nat → Nat} (hi : i < n) : g i ≤ sm n g := by
  induction n with
  | zero => omega
  | succ n ih =>
    rw [sm]
    by_cases q : i = n
    · subst q; omega
    · have := ih (by omega); omega
theorem WF.n60 {a : Ab} (h : WF a) : nL a ≤ 60 := by have := h.2.2.2.1; have := h.2.2.2.2.1; omega
theorem WF.net {a : Ab} (h : WF a) : nD a ≤ 8 ∧ 1 ≤ nW a ∧ nW a ≤ 8 ∧ nF a ≤ 14 ∧ nR a ≤ 60 ∧ nL a ≤ nR a ∧ nL a ≤ 60 := ⟨h.1.2, h.2.1.1, h.2.1.2, h.2.2.1, h.2.2.2.2.1, h.2.2.2.1, h.n60⟩
theorem WF.fib {a : Ab} (h : WF a) : ∀ f, f < nF a → e1 a f < nD a ∧ e2 a f < nD a ∧ e1 a f ≠ e2 a f ∧ 1 ≤ el a f ∧ el a f ≤ 1000 := h.2.2.2.2.2.1
theorem WF.ctf {a : Ab} (h : WF a) : ∀ f, nF a ≤ f → ct a f = false := h.2.2.2.2.2.2.1
theorem WF.cvf {a : Ab} (h : WF a) : ∀ v, nD a ≤ v → cv a v = false := h.2.2.2.2.2.2.2.1
theorem WF.req {a : Ab} (h : WF a) : ∀ r, r < nR a → ca a r < nL a ∧ de a r ≤ 10 := h.2.2.2.2.2.2.2.2.1
theorem WF.lig {a : Ab} (h : WF a) : ∀ l, l < nL a → sn a l < nD a ∧ en a l < nD a ∧ sn a l ≠ en a l ∧ units a l ≤ 10 ∧ (units a l = 0 ↔ wy a l = []) ∧ (wy a l).length ≤ 2 ∧ ∀ w ∈ wy a l, GW a w := h.2.2.2.2.2.2.2.2.2.1
theorem WF.chn {a : Ab} (h : WF a) : ∀ (l i l' i' : Nat) (w w' : Wy) (c : Nat), l < nL a → l' < nL a → (wy a l)[i]? = some w → (wy a l')[i']? = some w' → c ∈ w.1 → c ∈ w'.1 → l = l' ∧ i = i' := h.2.2.2.2.2.2.2.2.2.2.1
theorem WF.l12 {a : Ab} (h : WF a) : lvs a ≤ 12 := h.2.2.2.2.2.2.2.2.2.2.2
theorem WF.mk' {a : Ab} (h1 : 2 ≤ nD a ∧ nD a ≤ 8) (h2 : 1 ≤ nW a ∧ nW a ≤ 8) (h3 : nF a ≤ 14) (h4 : nL a ≤ nR a) (h5 : nR a ≤ 60)
    (h6 : ∀ f, f < nF a → e1 a f < nD a ∧ e2 a f < nD a ∧ e1 a f ≠ e2 a f ∧ 1 ≤ el a f ∧ el a f ≤ 1000) (h7 : ∀ f, nF a ≤ f → ct a f = false) (h8 : ∀ v, nD a ≤ v → cv a v = false)
    (h9 : ∀ r, r < nR a → ca a r < nL a ∧ de a r ≤ 10)
    (h10 : ∀ l, l < nL a → sn a l < nD a ∧ en a l < nD a ∧ sn a l ≠ en a l ∧ units a l ≤ 10 ∧ (units a l = 0 ↔ wy a l = []) ∧ (wy a l).length ≤ 2 ∧ ∀ w ∈ wy a l, GW a w)
    (h11 : ∀ (l i l' i' : Nat) (w w' : Wy) (c : Nat), l < nL a → l' < nL a → (wy a l)[i]? = some w → (wy a l')[i']? = some w' → c ∈ w.1 → c ∈ w'.1 → l = l' ∧ i = i') (h12 : lvs a ≤ 12) : WF a := ⟨h1, h2, h3, h4, h5, h6, h7, h8, h9, h10, h11, h12⟩
theorem lvs_zero (a : Ab) (h : nL a = 0) : lvs a = 0 := by unfold lvs; rw [h]; rfl
theorem WF.kB {d w : Nat} (hd : 2 ≤ d ∧ d ≤ 8) (hw : 1 ≤ w ∧ w ≤ 8) : WF (xB d w) :=
  WF.mk' hd hw (by rw [xB_nF]; omega) (by rw [xB_nL, xB_nR]; omega) (by rw [xB_nR]; omega) (fun f hf => absurd hf (by rw [xB_nF]; omega)) (fun f _ => rfl) (fun f _ => rfl)
    (fun r hr => absurd hr (by rw [xB_nR]; omega)) (fun l hl => absurd hl (by rw [xB_nL]; omega)) (fun l _ _ _ _ _ _ hl => absurd hl (by rw [xB_nL]; omega)) (by rw [lvs_zero _ (xB_nL d w)]; omega)
theorem WF.kF {a : Ab} (h : WF a) {x y z : Nat} (hx : x < nD a) (hy : y < nD a) (hxy : x ≠ y) (hz : 1 ≤ z ∧ z ≤ 1000) (hf : nF a < 14) : WF (xF a x y z) := by
  refine WF.mk' h.1 h.2.1 (by rw [xF_nF]; omega) h.2.2.2.1 h.2.2.2.2.1 ?_ ?_ h.cvf h.req ?_ h.chn h.l12
  · intro f hf2
    rw [xF_nF] at hf2
    simp only [xB_nD, xB_nW, xB_nF, xB_nR, xB_nL, xB_e1, xB_e2, xB_el, xB_ca, xB_de, xB_sn, xB_en, xB_cv, xB_ct, xB_wy, xF_nD, xF_nW, xF_nF, xF_nR, xF_nL, xF_e1, xF_e2, xF_el, xF_ca, xF_de, xF_sn, xF_en, xF_cv, xF_ct, xF_wy, xC_nD, xC_nW, xC_nF, xC_nR, xC_nL, xC_e1, xC_e2, xC_el, xC_ca, xC_de, xC_sn, xC_en, xC_cv, xC_ct, xC_wy, xK_nD, xK_nW, xK_nF, xK_nR, xK_nL, xK_e1, xK_e2, xK_el, xK_ca, xK_de, xK_sn, xK_en, xK_cv, xK_ct, xK_wy, xR_nD, xR_nW, xR_nF, xR_nR, xR_nL, xR_e1, xR_e2, xR_el, xR_ca, xR_de, xR_sn, xR_en, xR_cv, xR_ct, xR_wy, xL_nD, xL_nW, xL_nF, xL_nR, xL_nL, xL_e1, xL_e2, xL_el, xL_ca, xL_de, xL_sn, xL_en, xL_cv, xL_ct, xL_wy, xZ_nD, xZ_nW, xZ_nF, xZ_nR, xZ_nL, xZ_e1, xZ_e2, xZ_el, xZ_ca, xZ_de, xZ_sn, xZ_en, xZ_cv, xZ_ct, xZ_wy, xW_nD, xW_nW, xW_nF, xW_nR, xW_nL, xW_e1, xW_e2, xW_el, xW_ca, xW_de, xW_sn, xW_en, xW_cv, xW_ct, xW_wy, xM_nD, xM_nW, xM_nF, xM_nR, xM_nL, xM_e1, xM_e2, xM_el, xM_ca, xM_de, xM_sn, xM_en, xM_cv, xM_ct, xM_wy]
    by_cases q : f = nF a
    · subst q
      rw [put_s, put_s, put_s]; exact ⟨hx, hy, hxy, hz.1, hz.2⟩
    · rw [put_n _ _ q, put_n _ _ q, put_n _ _ q]; exact h.fib f (by omega)
  · intro f hf2
    rw [xF_nF] at hf2
    exact h.ctf f (by omega)
  · intro l hl
    obtain ⟨a1, a2, a3, a4, a5, a6, a7⟩ := h.lig l hl
    refine ⟨a1, a2, a3, a4, a5, a6, fun w hw => ?_⟩
    obtain ⟨g1, g2, g3, g4⟩ := a7 w hw
    exact ⟨g1, g2, fun c hc => ⟨by rw [xF_nF]; have := (g3 c hc).1; omega, (g3 c hc).2⟩, g4⟩
theorem WF.kC {a : Ab} (h : WF a) {v : Nat} (b : Bool) (hv : v < nD a) : WF (xC a v b) := by
  refine WF.mk' h.1 h.2.1 h.2.2.1 h.2.2.2.1 h.2.2.2.2.1 h.fib h.ctf ?_ h.req h.lig h.chn h.l12
  intro u hu
  rw [xC_nD] at hu
  rw [xC_cv, put_n _ _ (by omega)]; exact h.cvf u hu
theorem WF.kK {a : Ab} (h : WF a) {f : Nat} (b : Bool) (hf : f < nF a) : WF (xK a f b) := by
  refine WF.mk' h.1 h.2.1 h.2.2.1 h.2.2.2.1 h.2.2.2.2.1 h.fib ?_ h.cvf h.req h.lig h.chn h.l12
  intro u hu
  rw [xK_nF] at hu
  rw [xK_ct, put_n _ _ (by omega)]; exact h.ctf u hu
/-- what a light's new ways must be -/
def NW (a : Ab) (l : Nat) (ws : List Wy) : Prop := ws.length ≤ 2 ∧ (∀ w ∈ ws, GW a w) ∧ (∀ w ∈ ws, ∀ c ∈ w.1, ∀ l', l' < nL a → l' ≠ l → onc (wy a l') c = false) ∧ (∀ (i i' : Nat) (w w' : Wy) (c : Nat), ws[i]? = some w → ws[i']? = some w' → c ∈ w.1 → c ∈ w'.1 → i = i')
theorem NW.nil (a : Ab) (l : Nat) : NW a l [] := ⟨by simp, fun w hw => by (cases hw), fun w hw => by (cases hw), fun i i' w w' c hw => by simp at hw⟩
theorem NW.chn {a : Ab} (h : WF a) {n : Nat} (g : Nat → List Wy) {l : Nat} {ws : List Wy} (hn : ∀ k, k < n → k ≠ l → k < nL a ∧ g k = wy a k) (hg : g l = ws) (hw : NW a l ws) (s i s' i' : Nat) (w w' : Wy) (c : Nat) (hs : s < n) (hs' : s' < n) (h1 : (g s)[i]? = some w) (h2 : (g s')[i']? = some w') (h3 : c ∈ w.1) (h4 : c ∈ w'.1) : s = s' ∧ i = i' := by
  by_cases q : s = l
  · by_cases q' : s' = l
    · subst q; subst q'
      rw [hg] at h1 h2
      exact ⟨rfl, hw.2.2.2 i i' w w' c h1 h2 h3 h4⟩
    · subst q
      rw [hg] at h1
      obtain ⟨z1, z2⟩ := hn s' hs' q'
      rw [z2] at h2
      have := hw.2.2.1 w (List.mem_of_getElem? h1) c h3 s' z1 q'
      rw [onc_of h2 h4] at this; cases this
  · obtain ⟨z1, z2⟩ := hn s hs q
    rw [z2] at h1
    by_cases q' : s' = l
    · subst q'
      rw [hg] at h2
      have := hw.2.2.1 w' (List.mem_of_getElem? h2) c h4 s z1 q
      rw [onc_of h1 h3] at this; cases this
    · obtain ⟨y1, y2⟩ := hn s' hs' q'
      rw [y2] at h2
      exact h.chn s i s' i' w w' c z1 y1 h1 h2 h3 h4
theorem cnt_mono {n : Nat} {p q : Nat → Bool} (h : ∀ i, i < n → p i = true → q i = true) : cnt n p ≤ cnt n q := by
  induction n with
  | zero => exact Nat.le_refl _
  | succ n ih =>
    rw [cnt, cnt]
    have := ih (fun i hi => h i (by omega))
    by_cases z : p n = true
    · rw [if_pos z, if_pos (h n (by omega) z)]; omega
    · rw [if_neg z]; omega
/-- a light's ways are replaced (none by none, some by some) -/
theorem WF.kW {a : Ab} (h : WF a) {l : Nat} {ws : List Wy} (hl : l < nL a) (hw : NW a l ws) (hne : wy a l ≠ []) (hws : ws ≠ []) : WF (xW a l ws) := by
  refine WF.mk' h.1 h.2.1 h.2.2.1 h.2.2.2.1 h.2.2.2.2.1 h.fib h.ctf h.cvf h.req ?_ ?_ ?_
  · intro k hk
    obtain ⟨a1, a2, a3, a4, a5, a6, a7⟩ := h.lig k hk
    rw [xW_wy]
    by_cases q : k = l
    · subst q
      rw [put_s]
      exact ⟨a1, a2, a3, a4, ⟨fun z => absurd (a5.mp z) hne, fun z => absurd z hws⟩, hw.1, hw.2.1⟩
    · rw [put_n _ _ q]; exact ⟨a1, a2, a3, a4, a5, a6, a7⟩
  · exact NW.chn h _ (n := nL a) (fun k hk hkl => ⟨hk, by rw [xW_wy, put_n _ _ hkl]⟩) (by rw [xW_wy, put_s]) hw
  · refine Nat.le_trans (cnt_mono (q := fun l => !(wy a l).isEmpty) (fun i hi z => ?_)) h.l12
    rw [xW_wy] at z
    by_cases q : i = l
    · subst q
      show (!(wy a i).isEmpty) = true
      rcases hq : wy a i with _ | ⟨w, r⟩
      · exact absurd hq hne
      · rfl
    · rw [put_n _ _ q] at z; exact z
theorem units_xZ {a : Ab} {r : Nat} (hr : r < nR a) (l : Nat) : units (xZ a r) l + (if ca a r = l then de a r else 0) = units a l := by
  have := sm_put (n := nR a) (r := r) (g := fun i => if ca a i = l then de a i else 0) (g' := fun i => if ca a i = l then put (de a) r 0 i else 0) hr (fun i hi => by show (if _ then _ else _) = _; rw [put_n _ _ hi])
  have e : units (xZ a r) l = sm (nR a) (fun i => if ca a i = l then put (de a) r 0 i else 0) := rfl
  rw [e]
  have e2 : (if ca a r = l then put (de a) r 0 r else 0) = 0 := by rw [put_s]; split <;> rfl
  rw [e2] at this
  exact this
/-- a request is released -/
def rls (a : Ab) (r : Nat) : Ab := if units (xZ a r) (ca a r) = 0 then xW (xZ a r) (ca a r) [] else xZ a r
theorem WF.kls {a : Ab} (h : WF a) {r : Nat} (hr : r < nR a) (hd : de a r ≠ 0) : WF (rls a r) := by
  have hu := fun l => units_xZ hr l
  obtain ⟨hcl, hd10⟩ := h.req r hr
  have hne : wy a (ca a r) ≠ [] := fun z => by
    have := (h.lig _ hcl).2.2.2.2.1.mpr z
    have q := hu (ca a r)
    rw [if_pos rfl] at q; omega
  have hreq : ∀ i, i < nR a → ca a i < nL a ∧ put (de a) r 0 i ≤ 10 := fun i hi => by
    refine ⟨(h.req i hi).1, ?_⟩
    rw [put_if]; split
    · omega
    · exact (h.req i hi).2
  unfold rls
  split
  · rename_i z
    refine WF.mk' h.1 h.2.1 h.2.2.1 h.2.2.2.1 h.2.2.2.2.1 h.fib h.ctf h.cvf hreq ?_ ?_ ?_
    · intro k hk
      obtain ⟨a1, a2, a3, a4, a5, a6, a7⟩ := h.lig k hk
      rw [xW_wy]
      have e : units (xW (xZ a r) (ca a r) []) k = units (xZ a r) k := rfl
      rw [e]
      by_cases q : k = ca a r
      · subst q
        rw [put_s, z]
        exact ⟨a1, a2, a3, by omega, ⟨fun _ => rfl, fun _ => rfl⟩, by simp, fun w hw => by cases hw⟩
      · have := hu k
        rw [if_neg (fun z => q z.symm), Nat.add_zero] at this
        rw [put_n _ _ q, this]
        exact ⟨a1, a2, a3, a4, a5, a6, a7⟩
    · exact NW.chn h _ (n := nL a) (l := ca a r) (fun k hk hkl => ⟨hk, by rw [xW_wy, put_n _ _ hkl]; rfl⟩) (by rw [xW_wy, put_s]) (NW.nil a _)
    · refine Nat.le_trans (cnt_mono (q := fun l => !(wy a l).isEmpty) (fun i hi z => ?_)) h.l12
      rw [xW_wy] at z
      by_cases q : i = ca a r
      · rw [q, put_s] at z; cases z
      · rw [put_n _ _ q] at z; exact z
  · rename_i z
    refine WF.mk' h.1 h.2.1 h.2.2.1 h.2.2.2.1 h.2.2.2.2.1 h.fib h.ctf h.cvf hreq ?_ h.chn h.l12
    intro k hk
    obtain ⟨a1, a2, a3, a4, a5, a6, a7⟩ := h.lig k hk
    rw [xZ_wy]
    have := hu k
    by_cases q : k = ca a r
    · subst q
      exact ⟨a1, a2, a3, by omega, ⟨fun y => absurd y z, fun y => absurd y hne⟩, a6, a7⟩
    · rw [if_neg (fun z => q z.symm), Nat.add_zero] at this
      rw [this]
      exact ⟨a1, a2, a3, a4, a5, a6, a7⟩
theorem units_xR (a : Ab) (l d k : Nat) : units (xR a l d) k = units a k + (if k = l then d else 0) := by
  have e : units (xR a l d) k = sm (nR a) (fun r => if put (ca a) (nR a) l r = k then put (de a) (nR a) d r else 0) + (if put (ca a) (nR a) l (nR a) = k then put (de a) (nR a) d (nR a) else 0) := rfl
  rw [e, put_s, put_s]
  congr 1
  · exact sm_congr fun i hi => by rw [put_n _ _ (by omega), put_n _ _ (by omega)]
  · by_cases q : k = l
    · subst q; simp
    · rw [if_neg q, if_neg (fun z => q z.symm)]
theorem WF.kR {a : Ab} (h : WF a) {l d : Nat} (hl : l < nL a) (hd : 1 ≤ d) (hu : units a l + d ≤ 10) (hne : wy a l ≠ []) (hR : nR a < 60) : WF (xR a l d) := by
  refine WF.mk' h.1 h.2.1 h.2.2.1 ?_ ?_ h.fib h.ctf h.cvf ?_ ?_ h.chn h.l12
  · have := h.2.2.2.1; rw [xR_nL, xR_nR]; omega
  · rw [xR_nR]; omega
  · intro r hr
    rw [xR_nR] at hr
    rw [xR_ca, xR_de]
    by_cases q : r = nR a
    · subst q; rw [put_s, put_s]; exact ⟨hl, by omega⟩
    · rw [put_n _ _ q, put_n _ _ q]; exact h.req r (by omega)
  · intro k hk
    obtain ⟨a1, a2, a3, a4, a5, a6, a7⟩ := h.lig k hk
    rw [xR_wy, units_xR]
    by_cases q : k = l
    · subst q
      rw [if_pos rfl]
      exact ⟨a1, a2, a3, hu, ⟨fun z => by omega, fun z => absurd z hne⟩, a6, a7⟩
    · rw [if_neg q, Nat.add_zero]; exact ⟨a1, a2, a3, a4, a5, a6, a7⟩
theorem WF.kLR {a : Ab} (h : WF a) {x y d : Nat} {ws : List Wy} (hx : x < nD a) (hy : y < nD a) (hxy : x ≠ y) (hw : NW a (nL a) ws) (hws : ws ≠ []) (hd : 1 ≤ d ∧ d ≤ 10) (hR : nR a < 60) (hl : lvs a < 12) : WF (xR (xL a x y ws) (nL a) d) := by
  have hu0 : units a (nL a) = 0 := by
    refine sm_zero (fun i hi => ?_)
    have := (h.req i hi).1
    rw [if_neg (by omega)]
  refine WF.mk' h.1 h.2.1 h.2.2.1 ?_ ?_ h.fib h.ctf h.cvf ?_ ?_ ?_ ?_
  · have := h.2.2.2.1; simp only [xB_nD, xB_nW, xB_nF, xB_nR, xB_nL, xB_e1, xB_e2, xB_el, xB_ca, xB_de, xB_sn, xB_en, xB_cv, xB_ct, xB_wy, xF_nD, xF_nW, xF_nF, xF_nR, xF_nL, xF_e1, xF_e2, xF_el, xF_ca, xF_de, xF_sn, xF_en, xF_cv, xF_ct, xF_wy, xC_nD, xC_nW, xC_nF, xC_nR, xC_nL, xC_e1, xC_e2, xC_el, xC_ca, xC_de, xC_sn, xC_en, xC_cv, xC_ct, xC_wy, xK_nD, xK_nW, xK_nF, xK_nR, xK_nL, xK_e1, xK_e2, xK_el, xK_ca, xK_de, xK_sn, xK_en, xK_cv, xK_ct, xK_wy, xR_nD, xR_nW, xR_nF, xR_nR, xR_nL, xR_e1, xR_e2, xR_el, xR_ca, xR_de, xR_sn, xR_en, xR_cv, xR_ct, xR_wy, xL_nD, xL_nW, xL_nF, xL_nR, xL_nL, xL_e1, xL_e2, xL_el, xL_ca, xL_de, xL_sn, xL_en, xL_cv, xL_ct, xL_wy, xZ_nD, xZ_nW, xZ_nF, xZ_nR, xZ_nL, xZ_e1, xZ_e2, xZ_el, xZ_ca, xZ_de, xZ_sn, xZ_en, xZ_cv, xZ_ct, xZ_wy, xW_nD, xW_nW, xW_nF, xW_nR, xW_nL, xW_e1, xW_e2, xW_el, xW_ca, xW_de, xW_sn, xW_en, xW_cv, xW_ct, xW_wy, xM_nD, xM_nW, xM_nF, xM_nR, xM_nL, xM_e1, xM_e2, xM_el, xM_ca, xM_de, xM_sn, xM_en, xM_cv, xM_ct, xM_wy]; omega
  · simp only [xB_nD, xB_nW, xB_nF, xB_nR, xB_nL, xB_e1, xB_e2, xB_el, xB_ca, xB_de, xB_sn, xB_en, xB_cv, xB_ct, xB_wy, xF_nD, xF_nW, xF_nF, xF_nR, xF_nL, xF_e1, xF_e2, xF_el, xF_ca, xF_de, xF_sn, xF_en, xF_cv, xF_ct, xF_wy, xC_nD, xC_nW, xC_nF, xC_nR, xC_nL, xC_e1, xC_e2, xC_el, xC_ca, xC_de, xC_sn, xC_en, xC_cv, xC_ct, xC_wy, xK_nD, xK_nW, xK_nF, xK_nR, xK_nL, xK_e1, xK_e2, xK_el, xK_ca, xK_de, xK_sn, xK_en, xK_cv, xK_ct, xK_wy, xR_nD, xR_nW, xR_nF, xR_nR, xR_nL, xR_e1, xR_e2, xR_el, xR_ca, xR_de, xR_sn, xR_en, xR_cv, xR_ct, xR_wy, xL_nD, xL_nW, xL_nF, xL_nR, xL_nL, xL_e1, xL_e2, xL_el, xL_ca, xL_de, xL_sn, xL_en, xL_cv, xL_ct, xL_wy, xZ_nD, xZ_nW, xZ_nF, xZ_nR, xZ_nL, xZ_e1, xZ_e2, xZ_el, xZ_ca, xZ_de, xZ_sn, xZ_en, xZ_cv, xZ_ct, xZ_wy, xW_nD, xW_nW, xW_nF, xW_nR, xW_nL, xW_e1, xW_e2, xW_el, xW_ca, xW_de, xW_sn, xW_en, xW_cv, xW_ct, xW_wy, xM_nD, xM_nW, xM_nF, xM_nR, xM_nL, xM_e1, xM_e2, xM_el, xM_ca, xM_de, xM_sn, xM_en, xM_cv, xM_ct, xM_wy]; omega
  · intro r hr
    simp only [xB_nD, xB_nW, xB_nF, xB_nR, xB_nL, xB_e1, xB_e2, xB_el, xB_ca, xB_de, xB_sn, xB_en, xB_cv, xB_ct, xB_wy, xF_nD, xF_nW, xF_nF, xF_nR, xF_nL, xF_e1, xF_e2, xF_el, xF_ca, xF_de, xF_sn, xF_en, xF_cv, xF_ct, xF_wy, xC_nD, xC_nW, xC_nF, xC_nR, xC_nL, xC_e1, xC_e2, xC_el, xC_ca, xC_de, xC_sn, xC_en, xC_cv, xC_ct, xC_wy, xK_nD, xK_nW, xK_nF, xK_nR, xK_nL, xK_e1, xK_e2, xK_el, xK_ca, xK_de, xK_sn, xK_en, xK_cv, xK_ct, xK_wy, xR_nD, xR_nW, xR_nF, xR_nR, xR_nL, xR_e1, xR_e2, xR_el, xR_ca, xR_de, xR_sn, xR_en, xR_cv, xR_ct, xR_wy, xL_nD, xL_nW, xL_nF, xL_nR, xL_nL, xL_e1, xL_e2, xL_el, xL_ca, xL_de, xL_sn, xL_en, xL_cv, xL_ct, xL_wy, xZ_nD, xZ_nW, xZ_nF, xZ_nR, xZ_nL, xZ_e1, xZ_e2, xZ_el, xZ_ca, xZ_de, xZ_sn, xZ_en, xZ_cv, xZ_ct, xZ_wy, xW_nD, xW_nW, xW_nF, xW_nR, xW_nL, xW_e1, xW_e2, xW_el, xW_ca, xW_de, xW_sn, xW_en, xW_cv, xW_ct, xW_wy, xM_nD, xM_nW, xM_nF, xM_nR, xM_nL, xM_e1, xM_e2, xM_el, xM_ca, xM_de, xM_sn, xM_en, xM_cv, xM_ct, xM_wy] at hr
    simp only [xB_nD, xB_nW, xB_nF, xB_nR, xB_nL, xB_e1, xB_e2, xB_el, xB_ca, xB_de, xB_sn, xB_en, xB_cv, xB_ct, xB_wy, xF_nD, xF_nW, xF_nF, xF_nR, xF_nL, xF_e1, xF_e2, xF_el, xF_ca, xF_de, xF_sn, xF_en, xF_cv, xF_ct, xF_wy, xC_nD, xC_nW, xC_nF, xC_nR, xC_nL, xC_e1, xC_e2, xC_el, xC_ca, xC_de, xC_sn, xC_en, xC_cv, xC_ct, xC_wy, xK_nD, xK_nW, xK_nF, xK_nR, xK_nL, xK_e1, xK_e2, xK_el, xK_ca, xK_de, xK_sn, xK_en, xK_cv, xK_ct, xK_wy, xR_nD, xR_nW, xR_nF, xR_nR, xR_nL, xR_e1, xR_e2, xR_el, xR_ca, xR_de, xR_sn, xR_en, xR_cv, xR_ct, xR_wy, xL_nD, xL_nW, xL_nF, xL_nR, xL_nL, xL_e1, xL_e2, xL_el, xL_ca, xL_de, xL_sn, xL_en, xL_cv, xL_ct, xL_wy, xZ_nD, xZ_nW, xZ_nF, xZ_nR, xZ_nL, xZ_e1, xZ_e2, xZ_el, xZ_ca, xZ_de, xZ_sn, xZ_en, xZ_cv, xZ_ct, xZ_wy, xW_nD, xW_nW, xW_nF, xW_nR, xW_nL, xW_e1, xW_e2, xW_el, xW_ca, xW_de, xW_sn, xW_en, xW_cv, xW_ct, xW_wy, xM_nD, xM_nW, xM_nF, xM_nR, xM_nL, xM_e1, xM_e2, xM_el, xM_ca, xM_de, xM_sn, xM_en, xM_cv, xM_ct, xM_wy]
    by_cases q : r = nR a
    · rw [q, put_s, put_s]
      exact ⟨by omega, by omega⟩
    · rw [put_n _ _ q, put_n _ _ q, xL_ca, xL_de]
      have := h.req r (by omega)
      exact ⟨by omega, this.2⟩
  · intro k hk
    simp only [xB_nD, xB_nW, xB_nF, xB_nR, xB_nL, xB_e1, xB_e2, xB_el, xB_ca, xB_de, xB_sn, xB_en, xB_cv, xB_ct, xB_wy, xF_nD, xF_nW, xF_nF, xF_nR, xF_nL, xF_e1, xF_e2, xF_el, xF_ca, xF_de, xF_sn, xF_en, xF_cv, xF_ct, xF_wy, xC_nD, xC_nW, xC_nF, xC_nR, xC_nL, xC_e1, xC_e2, xC_el, xC_ca, xC_de, xC_sn, xC_en, xC_cv, xC_ct, xC_wy, xK_nD, xK_nW, xK_nF, xK_nR, xK_nL, xK_e1, xK_e2, xK_el, xK_ca, xK_de, xK_sn, xK_en, xK_cv, xK_ct, xK_wy, xR_nD, xR_nW, xR_nF, xR_nR, xR_nL, xR_e1, xR_e2, xR_el, xR_ca, xR_de, xR_sn, xR_en, xR_cv, xR_ct, xR_wy, xL_nD, xL_nW, xL_nF, xL_nR, xL_nL, xL_e1, xL_e2, xL_el, xL_ca, xL_de, xL_sn, xL_en, xL_cv, xL_ct, xL_wy, xZ_nD, xZ_nW, xZ_nF, xZ_nR, xZ_nL, xZ_e1, xZ_e2, xZ_el, xZ_ca, xZ_de, xZ_sn, xZ_en, xZ_cv, xZ_ct, xZ_wy, xW_nD, xW_nW, xW_nF, xW_nR, xW_nL, xW_e1, xW_e2, xW_el, xW_ca, xW_de, xW_sn, xW_en, xW_cv, xW_ct, xW_wy, xM_nD, xM_nW, xM_nF, xM_nR, xM_nL, xM_e1, xM_e2, xM_el, xM_ca, xM_de, xM_sn, xM_en, xM_cv, xM_ct, xM_wy] at hk
    rw [units_xR]
    have e : units (xL a x y ws) k = units a k := rfl
    rw [e]
    simp only [xB_nD, xB_nW, xB_nF, xB_nR, xB_nL, xB_e1, xB_e2, xB_el, xB_ca, xB_de, xB_sn, xB_en, xB_cv, xB_ct, xB_wy, xF_nD, xF_nW, xF_nF, xF_nR, xF_nL, xF_e1, xF_e2, xF_el, xF_ca, xF_de, xF_sn, xF_en, xF_cv, xF_ct, xF_wy, xC_nD, xC_nW, xC_nF, xC_nR, xC_nL, xC_e1, xC_e2, xC_el, xC_ca, xC_de, xC_sn, xC_en, xC_cv, xC_ct, xC_wy, xK_nD, xK_nW, xK_nF, xK_nR, xK_nL, xK_e1, xK_e2, xK_el, xK_ca, xK_de, xK_sn, xK_en, xK_cv, xK_ct, xK_wy, xR_nD, xR_nW, xR_nF, xR_nR, xR_nL, xR_e1, xR_e2, xR_el, xR_ca, xR_de, xR_sn, xR_en, xR_cv, xR_ct, xR_wy, xL_nD, xL_nW, xL_nF, xL_nR, xL_nL, xL_e1, xL_e2, xL_el, xL_ca, xL_de, xL_sn, xL_en, xL_cv, xL_ct, xL_wy, xZ_nD, xZ_nW, xZ_nF, xZ_nR, xZ_nL, xZ_e1, xZ_e2, xZ_el, xZ_ca, xZ_de, xZ_sn, xZ_en, xZ_cv, xZ_ct, xZ_wy, xW_nD, xW_nW, xW_nF, xW_nR, xW_nL, xW_e1, xW_e2, xW_el, xW_ca, xW_de, xW_sn, xW_en, xW_cv, xW_ct, xW_wy, xM_nD, xM_nW, xM_nF, xM_nR, xM_nL, xM_e1, xM_e2, xM_el, xM_ca, xM_de, xM_sn, xM_en, xM_cv, xM_ct, xM_wy]
    by_cases q : k = nL a
    · rw [q, put_s, put_s, put_s, if_pos rfl, hu0]
      exact ⟨hx, hy, hxy, by omega, ⟨fun z => by omega, fun z => absurd z hws⟩, hw.1, hw.2.1⟩
    · rw [put_n _ _ q, put_n _ _ q, put_n _ _ q, if_neg q, Nat.add_zero]
      exact h.lig k (by omega)
  · refine NW.chn h _ (n := nL a + 1) (fun k hk hkl => ⟨by omega, ?_⟩) ?_ hw
    · simp only [xB_nD, xB_nW, xB_nF, xB_nR, xB_nL, xB_e1, xB_e2, xB_el, xB_ca, xB_de, xB_sn, xB_en, xB_cv, xB_ct, xB_wy, xF_nD, xF_nW, xF_nF, xF_nR, xF_nL, xF_e1, xF_e2, xF_el, xF_ca, xF_de, xF_sn, xF_en, xF_cv, xF_ct, xF_wy, xC_nD, xC_nW, xC_nF, xC_nR, xC_nL, xC_e1, xC_e2, xC_el, xC_ca, xC_de, xC_sn, xC_en, xC_cv, xC_ct, xC_wy, xK_nD, xK_nW, xK_nF, xK_nR, xK_nL, xK_e1, xK_e2, xK_el, xK_ca, xK_de, xK_sn, xK_en, xK_cv, xK_ct, xK_wy, xR_nD, xR_nW, xR_nF, xR_nR, xR_nL, xR_e1, xR_e2, xR_el, xR_ca, xR_de, xR_sn, xR_en, xR_cv, xR_ct, xR_wy, xL_nD, xL_nW, xL_nF, xL_nR, xL_nL, xL_e1, xL_e2, xL_el, xL_ca, xL_de, xL_sn, xL_en, xL_cv, xL_ct, xL_wy, xZ_nD, xZ_nW, xZ_nF, xZ_nR, xZ_nL, xZ_e1, xZ_e2, xZ_el, xZ_ca, xZ_de, xZ_sn, xZ_en, xZ_cv, xZ_ct, xZ_wy, xW_nD, xW_nW, xW_nF, xW_nR, xW_nL, xW_e1, xW_e2, xW_el, xW_ca, xW_de, xW_sn, xW_en, xW_cv, xW_ct, xW_wy, xM_nD, xM_nW, xM_nF, xM_nR, xM_nL, xM_e1, xM_e2, xM_el, xM_ca, xM_de, xM_sn, xM_en, xM_cv, xM_ct, xM_wy]; rw [put_n _ _ hkl]
    · simp only [xB_nD, xB_nW, xB_nF, xB_nR, xB_nL, xB_e1, xB_e2, xB_el, xB_ca, xB_de, xB_sn, xB_en, xB_cv, xB_ct, xB_wy, xF_nD, xF_nW, xF_nF, xF_nR, xF_nL, xF_e1, xF_e2, xF_el, xF_ca, xF_de, xF_sn, xF_en, xF_cv, xF_ct, xF_wy, xC_nD, xC_nW, xC_nF, xC_nR, xC_nL, xC_e1, xC_e2, xC_el, xC_ca, xC_de, xC_sn, xC_en, xC_cv, xC_ct, xC_wy, xK_nD, xK_nW, xK_nF, xK_nR, xK_nL, xK_e1, xK_e2, xK_el, xK_ca, xK_de, xK_sn, xK_en, xK_cv, xK_ct, xK_wy, xR_nD, xR_nW, xR_nF, xR_nR, xR_nL, xR_e1, xR_e2, xR_el, xR_ca, xR_de, xR_sn, xR_en, xR_cv, xR_ct, xR_wy, xL_nD, xL_nW, xL_nF, xL_nR, xL_nL, xL_e1, xL_e2, xL_el, xL_ca, xL_de, xL_sn, xL_en, xL_cv, xL_ct, xL_wy, xZ_nD, xZ_nW, xZ_nF, xZ_nR, xZ_nL, xZ_e1, xZ_e2, xZ_el, xZ_ca, xZ_de, xZ_sn, xZ_en, xZ_cv, xZ_ct, xZ_wy, xW_nD, xW_nW, xW_nF, xW_nR, xW_nL, xW_e1, xW_e2, xW_el, xW_ca, xW_de, xW_sn, xW_en, xW_cv, xW_ct, xW_wy, xM_nD, xM_nW, xM_nF, xM_nR, xM_nL, xM_e1, xM_e2, xM_el, xM_ca, xM_de, xM_sn, xM_en, xM_cv, xM_ct, xM_wy]; rw [put_s]
  · have e : lvs (xR (xL a x y ws) (nL a) d) = cnt (nL a) (fun l => !(put (wy a) (nL a) ws l).isEmpty) + (if (!(put (wy a) (nL a) ws (nL a)).isEmpty) = true then 1 else 0) := rfl
    have e2 : cnt (nL a) (fun l => !(put (wy a) (nL a) ws l).isEmpty) = lvs a := cnt_congr (fun i hi => by rw [put_n _ _ (by omega)])
    rw [e, e2]
    split <;> omega
theorem units_xM {a : Ab} {l h : Nat} (hlh : l ≠ h) (k : Nat) : units (xM a l h) k = if k = l then units a l + units a h else if k = h then 0 else units a k := by
  have e : units (xM a l h) k = sm (nR a) (fun r => if (if ca a r = h ∧ de a r ≠ 0 then l else ca a r) = k then de a r else 0) := rfl
  rw [e]
  by_cases q : k = l
  · subst q
    rw [if_pos rfl]
    unfold units
    rw [← sm_add]
    refine sm_congr fun r hr => ?_
    by_cases z : ca a r = h
    · by_cases z2 : de a r = 0
      · simp [z2]
      · have e1 : (if ca a r = h ∧ de a r ≠ 0 then k else ca a r) = k := if_pos ⟨z, z2⟩
        rw [e1, if_pos rfl, if_neg (by omega), if_pos z]; omega
    · have e1 : (if ca a r = h ∧ de a r ≠ 0 then k else ca a r) = ca a r := if_neg (fun y => z y.1)
      rw [e1, if_neg z, Nat.add_zero]
  · rw [if_neg q]
    by_cases q2 : k = h
    · subst q2
      rw [if_pos rfl]
      refine sm_zero fun r hr => ?_
      by_cases z2 : de a r = 0
      · simp [z2]
      · by_cases z : ca a r = k
        · have e1 : (if ca a r = k ∧ de a r ≠ 0 then l else ca a r) = l := if_pos ⟨z, z2⟩
          rw [e1, if_neg (by omega)]
        · have e1 : (if ca a r = k ∧ de a r ≠ 0 then l else ca a r) = ca a r := if_neg (fun y => z y.1)
          rw [e1, if_neg z]
    · rw [if_neg q2]
      refine sm_congr fun r hr => ?_
      by_cases z : ca a r = h ∧ de a r ≠ 0
      · rw [if_pos z, if_neg (by omega), if_neg (by omega)]
      · rw [if_neg z]
theorem WF.kM {a : Ab} (w : WF a) {l h : Nat} (hl : l < nL a) (hh : h < nL a) (hlh : l ≠ h) (hu : units a l + units a h ≤ 10) (hne : wy a l ≠ []) : WF (xM a l h) := by
  have hul : units a l ≠ 0 := fun z => hne ((w.lig l hl).2.2.2.2.1.mp z)
  refine WF.mk' w.1 w.2.1 w.2.2.1 w.2.2.2.1 w.2.2.2.2.1 w.fib w.ctf w.cvf ?_ ?_ ?_ ?_
  · intro r hr
    rw [xM_ca, xM_de]
    refine ⟨?_, (w.req r hr).2⟩
    split
    · exact hl
    · exact (w.req r hr).1
  · intro k hk
    obtain ⟨a1, a2, a3, a4, a5, a6, a7⟩ := w.lig k hk
    rw [units_xM hlh, xM_wy]
    by_cases q : k = l
    · subst q
      rw [if_pos rfl, put_n _ _ hlh]
      exact ⟨a1, a2, a3, hu, ⟨fun z => by omega, fun z => absurd z hne⟩, a6, a7⟩
    · rw [if_neg q]
      by_cases q2 : k = h
      · subst q2
        rw [if_pos rfl, put_s]
        exact ⟨a1, a2, a3, by omega, ⟨fun _ => rfl, fun _ => rfl⟩, by simp, fun w hw => by cases hw⟩
      · rw [if_neg q2, put_n _ _ q2]; exact ⟨a1, a2, a3, a4, a5, a6, a7⟩
  · exact NW.chn w _ (n := nL a) (l := h) (fun k hk hkl => ⟨hk, by rw [xM_wy, put_n _ _ hkl]⟩) (by rw [xM_wy, put_s]) (NW.nil a _)
  · refine Nat.le_trans (cnt_mono (q := fun l => !(wy a l).isEmpty) (fun i hi z => ?_)) w.l12
    rw [xM_wy] at z
    by_cases q : i = h
    · rw [q, put_s] at z; cases z
    · rw [put_n _ _ q] at z; exact z
