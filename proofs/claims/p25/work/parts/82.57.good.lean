/-! THE PURE LAYER: what is found is good -/
theorem kpt_good {a : Ab} (h : WF a) {u : Nat → Nat} {c : Nat → Bool} (hu : ∀ f, u f < 2 ^ nW a) {x t : Nat} (hx : x < nD a) {W : Wy} (hW : W ∈ kpt a u c x t) : GW a W ∧ ∀ z ∈ W.1, (u (z / 10)).testBit (z % 10) = true := by
  obtain ⟨p, hp, hlay, hne, hmap⟩ := kpt_mem h hu hW
  obtain ⟨g1, g2, g3, g4, _⟩ := trl_mem h.fib (fun _ => false) t 8 x (2 ^ x) p (by rw [Nat.testBit_two_pow]; simp) hp
  have hGP := trl_GP h _ hx hp
  obtain ⟨hs, hn⟩ := lay_SW h hu hGP hlay
  obtain ⟨h1, hWe⟩ := lay_some hlay
  obtain ⟨w1, w2⟩ := w0_is h1
  have hcs : (∀ z ∈ W.1, z % 10 < nW a ∧ (u (z / 10)).testBit (z % 10) = true) ∧ W.2.2 = chg W.1 := by
    rw [hWe]
    cases p with
    | nil => exact absurd rfl hne
    | cons q r =>
      obtain ⟨f, v⟩ := q
      obtain ⟨c1, c2, c3⟩ := chs_all (c := c) hu h.2.1.2 r f v (w0 (nW a) u c ((f, v) :: r)) (by omega)
      exact ⟨c2, by show mnl _ _ _ = chg (chs _ _ _ _ _); rw [c3, w2]⟩
  refine ⟨⟨?_, hs.1, ?_, ?_, hcs.2, hs.2.2.1⟩, fun z hz => (hcs.1 z hz).2⟩
  · rcases hq : W.1 with _ | ⟨z, r⟩
    · exact absurd hq hn
    · simp
  · intro z hz
    refine ⟨?_, (hcs.1 z hz).1⟩
    have : z / 10 ∈ W.1.map (· / 10) := List.mem_map.mpr ⟨z, hz, rfl⟩
    rw [hmap] at this
    obtain ⟨q, hq, he⟩ := List.mem_map.mp this
    rw [← he]; exact (g2 q hq).1
  · rw [hmap]; exact g4
theorem pick_mem' : ∀ (l : List Wy) (b : Option Wy) (w : Wy), l.foldl pk1 b = some w → b = some w ∨ w ∈ l := by
  intro l
  induction l with
  | nil => intro b w h; exact .inl h
  | cons x l ih =>
    intro b w h
    rw [List.foldl_cons] at h
    rcases ih _ w h with q | q
    · unfold pk1 at q
      split at q
      · cases q; exact .inr List.mem_cons_self
      · split at q
        · cases q; exact .inr List.mem_cons_self
        · exact .inl q
    · exact .inr (List.mem_cons_of_mem _ q)
theorem pick_mem {l : List Wy} {w : Wy} (h : pick l = some w) : w ∈ l := by
  rcases pick_mem' l none w h with q | q
  · cases q
  · exact q
theorem pp_mem' : ∀ (l : List (Wy × Wy)) (b : Option (Wy × Wy)) (w : Wy × Wy), l.foldl pp1 b = some w → b = some w ∨ w ∈ l := by
  intro l
  induction l with
  | nil => intro b w h; exact .inl h
  | cons x l ih =>
    intro b w h
    rw [List.foldl_cons] at h
    rcases ih _ w h with q | q
    · unfold pp1 at q
      split at q
      · cases q; exact .inr List.mem_cons_self
      · split at q
        · cases q; exact .inr List.mem_cons_self
        · exact .inl q
    · exact .inr (List.mem_cons_of_mem _ q)
theorem usb_free {a : Ab} {own f w : Nat} (h : (usb a own f).testBit w = true) : usr a f w = none ∨ usr a f w = some own := by
  unfold usb at h
  rw [mk_bit, Bool.and_eq_true, Bool.and_eq_true] at h
  have h := h.2.2
  rcases hq : usr a f w with _ | l
  · exact .inl rfl
  · rw [hq] at h
    have : l = own := by simpa using h
    rw [this]; exact .inr rfl
/-- a way whose channels are free, but for those of one light -/
def FW (a : Ab) (own : Nat) (W : Wy) : Prop := GW a W ∧ ∀ z ∈ W.1, usr a (z / 10) (z % 10) = none ∨ usr a (z / 10) (z % 10) = some own
theorem fnd0_FW {a : Ab} (h : WF a) {own x t : Nat} (hx : x < nD a) {W : Wy} (hW : fnd0 a own x t = some W) : FW a own W := by
  obtain ⟨g, hb⟩ := kpt_good h (usb_lt a own) hx (pick_mem hW)
  exact ⟨g, fun z hz => usb_free (hb z hz)⟩
theorem fnd1_FW {a : Ab} (h : WF a) {x t : Nat} (hx : x < nD a) {W : Wy} : ∀ (n w : Nat), fnd1 a x t n w = some W → FW a 60 W := by
  intro n
  induction n with
  | zero => intro w hW; cases hW
  | succ n ih =>
    intro w hW
    rw [fnd1] at hW
    split at hW
    · exact ih _ hW
    · rename_i b hb
      cases hW
      obtain ⟨g, hb⟩ := kpt_good h (fun f => Nat.lt_of_le_of_lt Nat.and_le_left (usb_lt a 60 f)) hx (pick_mem hb)
      refine ⟨g, fun z hz => usb_free ?_⟩
      have := hb z hz
      rw [Nat.testBit_and, Bool.and_eq_true] at this
      exact this.1
theorem fnd2_FW {a : Ab} (h : WF a) {x t : Nat} (hx : x < nD a) {p : Wy × Wy} (hp : fnd2 a x t = some p) : FW a 60 p.1 ∧ FW a 60 p.2 ∧ dsj p.1 p.2 = true := by
  rcases pp_mem' _ none p hp with q | q
  · cases q
  · rw [mem_prs] at q
    obtain ⟨h1, h2, h3, _⟩ := q
    obtain ⟨g1, b1⟩ := kpt_good h (usb_lt a 60) hx h1
    obtain ⟨g2, b2⟩ := kpt_good h (usb_lt a 60) hx h2
    exact ⟨⟨g1, fun z hz => usb_free (b1 z hz)⟩, ⟨g2, fun z hz => usb_free (b2 z hz)⟩, h3⟩
theorem FW.others {a : Ab} (h : WF a) {own : Nat} {W : Wy} (hW : FW a own W) {z : Nat} (hz : z ∈ W.1) {l : Nat} (hl : l < nL a) (hne : l ≠ own) : onc (wy a l) z = false := by
  rw [← Bool.not_eq_true]
  intro q
  rw [← Nat.div_add_mod z 10] at q
  have := (usr_some h).mpr ⟨hl, q⟩
  rcases hW.2 z hz with e | e
  · rw [e] at this; cases this
  · rw [e] at this; cases this; exact hne rfl
theorem FW.NW1 {a : Ab} (h : WF a) {own l : Nat} {W : Wy} (hW : FW a own W) (hl : own = l ∨ nL a ≤ own) : NW a l [W] := by
  refine ⟨by simp, fun w hw => ?_, fun w hw c hc l' hl' hne => ?_, fun i i' w w' c h1 h2 _ _ => ?_⟩
  · have : w = W := by simpa using hw
    rw [this]; exact hW.1
  · have : w = W := by simpa using hw
    subst this
    exact hW.others h hc hl' (by omega)
  · obtain ⟨z1, _⟩ := List.getElem?_eq_some_iff.mp h1
    obtain ⟨z2, _⟩ := List.getElem?_eq_some_iff.mp h2
    simp at z1 z2; omega
theorem FW.NW2 {a : Ab} (h : WF a) {own l : Nat} {W V : Wy} (hW : FW a own W) (hV : FW a own V) (hd : dsj W V = true) (hl : own = l ∨ nL a ≤ own) : NW a l [W, V] := by
  have h14 := h.2.2.1
  have hd' : ∀ c, c ∈ W.1 → c ∈ V.1 → False := by
    intro c h1 h2
    rw [dsj_iff (hW.1.sw h14 h.2.1.2) (hV.1.sw h14 h.2.1.2)] at hd
    have := hd c h2
    rw [fbs_bit (hW.1.sw h14 h.2.1.2), List.any_eq_false] at this
    exact this c h1 (by simp)
  refine ⟨by simp, fun w hw => ?_, fun w hw c hc l' hl' hne => ?_, fun i i' w w' c h1 h2 h3 h4 => ?_⟩
  · have : w = W ∨ w = V := by simpa using hw
    rcases this with rfl | rfl
    · exact hW.1
    · exact hV.1
  · have : w = W ∨ w = V := by simpa using hw
    rcases this with rfl | rfl
    · exact hW.others h hc hl' (by omega)
    · exact hV.others h hc hl' (by omega)
  · obtain ⟨z1, y1⟩ := List.getElem?_eq_some_iff.mp h1
    obtain ⟨z2, y2⟩ := List.getElem?_eq_some_iff.mp h2
    have e : ∀ (i : Nat) (hi : i < 2) (w : Wy), [W, V][i]? = some w → (i = 0 ∧ w = W) ∨ (i = 1 ∧ w = V) := by
      intro i hi w hw
      have : i = 0 ∨ i = 1 := by omega
      rcases this with rfl | rfl
      · exact .inl ⟨rfl, by simpa using hw.symm⟩
      · exact .inr ⟨rfl, by simpa using hw.symm⟩
    rcases e i z1 w h1 with ⟨rfl, rfl⟩ | ⟨rfl, rfl⟩ <;> rcases e i' z2 w' h2 with ⟨rfl, rfl⟩ | ⟨rfl, rfl⟩
    · rfl
    · exact absurd h4 (fun z => hd' c h3 z)
    · exact absurd h3 (fun z => hd' c h4 z)
    · rfl
theorem fnd_NW {a : Ab} (h : WF a) {x t rule : Nat} (hx : x < nD a) (hr : rule ≤ 2) : NW a (nL a) (fnd a x t rule) ∧ (fnd a x t rule = [] ∨ (∃ w, fnd a x t rule = [w] ∧ rule ≠ 2) ∨ (∃ w v, fnd a x t rule = [w, v] ∧ rule = 2)) := by
  have hn := h.n60
  unfold fnd
  by_cases q0 : rule = 0
  · rw [if_pos q0]
    rcases hq : fnd0 a 60 x t with _ | W
    · exact ⟨NW.nil _ _, .inl rfl⟩
    · exact ⟨(fnd0_FW h hx hq).NW1 h (.inr hn), .inr (.inl ⟨W, rfl, by omega⟩)⟩
  · rw [if_neg q0]
    by_cases q1 : rule = 1
    · rw [if_pos q1]
      rcases hq : fnd1 a x t (nW a) 0 with _ | W
      · exact ⟨NW.nil _ _, .inl rfl⟩
      · exact ⟨(fnd1_FW h hx _ _ hq).NW1 h (.inr hn), .inr (.inl ⟨W, rfl, by omega⟩)⟩
    · rw [if_neg q1]
      rcases hq : fnd2 a x t with _ | p
      · exact ⟨NW.nil _ _, .inl rfl⟩
      · obtain ⟨f1, f2, f3⟩ := fnd2_FW h hx hq
        exact ⟨f1.NW2 h f2 f3 (.inr hn), .inr (.inr ⟨p.1, p.2, rfl, by omega⟩)⟩
/-! moving a way to another wavelength -/
def mvd (x : Nat) (w : Wy) : Wy := (w.1.map (fun c => c / 10 * 10 + x), w.2)
theorem chg_same {x : Nat} : ∀ (l : List Nat), (∀ c ∈ l, c % 10 = x) → chg l = 0 := by
  intro l
  induction l with
  | nil => intro _; rfl
  | cons y l ih =>
    intro h
    cases l with
    | nil => rfl
    | cons z l =>
      rw [chg, if_pos (by rw [h y List.mem_cons_self, h z (List.mem_cons_of_mem _ List.mem_cons_self)]), ih (fun c hc => h c (List.mem_cons_of_mem _ hc))]
theorem chg_zero : ∀ (l : List Nat) (y : Nat), chg (y :: l) = 0 → ∀ c ∈ y :: l, c % 10 = y % 10 := by
  intro l
  induction l with
  | nil => intro y _ c hc; have : c = y := by simpa using hc
           rw [this]
  | cons z l ih =>
    intro y h c hc
    rw [chg] at h
    have hyz : y % 10 = z % 10 := by
      apply Classical.byContradiction
      intro q
      rw [if_neg q] at h; omega
    rcases List.mem_cons.mp hc with rfl | hc
    · rfl
    · rw [hyz]; exact ih z (by omega) c hc
theorem mvd_GW {a : Ab} {w : Wy} {x : Nat} (h : GW a w) (hx : x < nW a) (hx8 : x < 8) (h0 : w.2.2 = 0) : GW a (mvd x w) := by
  obtain ⟨g1, g2, g3, g4, g5, g6⟩ := h
  have e : ((w.1.map (fun c => c / 10 * 10 + x)).map (· / 10)) = w.1.map (· / 10) := by
    rw [List.map_map]
    exact List.map_congr_left (fun c _ => by show (c / 10 * 10 + x) / 10 = c / 10; omega)
  refine ⟨by show 1 ≤ (List.map _ _).length; rw [List.length_map]; exact g1, by show (List.map _ _).length ≤ 7; rw [List.length_map]; exact g2, ?_, ?_, ?_, g6⟩
  · intro c hc
    obtain ⟨d, hd, rfl⟩ := List.mem_map.mp hc
    have := g3 d hd
    exact ⟨by omega, by omega⟩
  · show ((w.1.map (fun c => c / 10 * 10 + x)).map (· / 10)).Nodup
    rw [e]; exact g4
  · show w.2.2 = chg (w.1.map (fun c => c / 10 * 10 + x))
    rw [h0, chg_same (x := x)]
    intro c hc
    obtain ⟨d, hd, rfl⟩ := List.mem_map.mp hc
    omega
theorem mvd_NW {a : Ab} (h : WF a) {l i x : Nat} {w : Wy} (hl : l < nL a) (hw : (wy a l)[i]? = some w) (hx : x < nW a) (h0 : w.2.2 = 0) (hf : ∀ c ∈ w.1, usr a (c / 10) x = none) : NW a l ((wy a l).set i (mvd x w)) := by
  obtain ⟨hi, hwi⟩ := List.getElem?_eq_some_iff.mp hw
  obtain ⟨_, _, _, _, _, h6, h7⟩ := h.lig l hl
  have hx8 : x < 8 := by have := h.2.1.2; omega
  have hmf : ∀ c ∈ (mvd x w).1, ∀ l', l' < nL a → onc (wy a l') c = false := by
    intro c hc l' hl'
    obtain ⟨d, hd, rfl⟩ := List.mem_map.mp hc
    have := usr_none.mp (hf d hd) l' hl'
    rw [show d / 10 * 10 + x = 10 * (d / 10) + x by omega]; exact this
  have hset : ∀ (k : Nat) (v : Wy), ((wy a l).set i (mvd x w))[k]? = some v → (k = i ∧ v = mvd x w) ∨ (k ≠ i ∧ (wy a l)[k]? = some v) := by
    intro k v hk
    rw [List.getElem?_set] at hk
    by_cases q : i = k
    · rw [if_pos q] at hk
      split at hk
      · exact .inl ⟨q.symm, by cases hk; rfl⟩
      · rename_i z; exact absurd hi z
    · rw [if_neg q] at hk; exact .inr ⟨fun z => q z.symm, hk⟩
  refine ⟨by rw [List.length_set]; exact h6, fun v hv => ?_, fun v hv c hc l' hl' hne => ?_, fun k k' v v' c h1 h2 h3 h4 => ?_⟩
  · obtain ⟨k, hk⟩ := List.mem_iff_getElem?.mp hv
    rcases hset k v hk with ⟨_, rfl⟩ | ⟨_, q⟩
    · exact mvd_GW (h7 w (List.mem_of_getElem? hw)) hx hx8 h0
    · exact h7 v (List.mem_of_getElem? q)
  · obtain ⟨k, hk⟩ := List.mem_iff_getElem?.mp hv
    rcases hset k v hk with ⟨_, rfl⟩ | ⟨_, q⟩
    · exact hmf c hc l' hl'
    · rw [← Bool.not_eq_true]
      intro z
      exact hne (h.onc_un hl' hl z (onc_of q hc))
  · rcases hset k v h1 with ⟨rfl, rfl⟩ | ⟨n1, q1⟩ <;> rcases hset k' v' h2 with ⟨rfl, rfl⟩ | ⟨n2, q2⟩
    · rfl
    · exact absurd (onc_of q2 h4) (by rw [hmf c h3 l hl]; decide)
    · exact absurd (onc_of q1 h3) (by rw [hmf c h4 l hl]; decide)
    · exact (h.chn l k l k' v v' c hl hl q1 q2 h3 h4).2
