/-! THE PURE LAYER: the class's ways -/
theorem l_sl : ∀ n, n < 64 → ((lN n &&& 63).toBitVec.smod 64).toNat = n := by decide +kernel
theorem l_shr {m i : Nat} (hm : m < 2 ^ 63) (hi : i < 64) : lN m >>> (lN i &&& 63) = lN (m >>> i) := by
  apply Int64.toBitVec_inj.1
  rw [Int64.toBitVec_shiftRight]
  show (BitVec.ofNat 64 m).sshiftRight ((lN i &&& 63).toBitVec.smod 64).toNat = BitVec.ofNat 64 (m >>> i)
  rw [l_sl i hi]
  have hmsb : (BitVec.ofNat 64 m).msb = false := by
    rw [BitVec.msb_eq_decide]
    simp only [BitVec.toNat_ofNat, decide_eq_false_iff_not]
    omega
  rw [BitVec.sshiftRight_eq_of_msb_false hmsb]
  apply BitVec.eq_of_toNat_eq
  have h1 : m >>> i ≤ m := by rw [Nat.shiftRight_eq_div_pow]; exact Nat.div_le_self _ _
  simp
  rw [Nat.mod_eq_of_lt (by omega), Nat.mod_eq_of_lt (by omega)]
theorem l_shl {i : Nat} (hi : i < 64) (a : Nat) : lN a <<< (lN i &&& 63) = lN (a <<< i) := by
  apply Int64.toBitVec_inj.1
  rw [Int64.toBitVec_shiftLeft]
  show BitVec.ofNat 64 a <<< ((lN i &&& 63).toBitVec.smod 64).toNat = BitVec.ofNat 64 (a <<< i)
  rw [l_sl i hi]
  apply BitVec.eq_of_toNat_eq
  simp [Nat.shiftLeft_eq, Nat.mul_mod]
theorem l_or (a b : Nat) : lN a ||| lN b = lN (a ||| b) := by
  apply Int64.toBitVec_inj.1
  show BitVec.ofNat 64 a ||| BitVec.ofNat 64 b = BitVec.ofNat 64 (a ||| b)
  apply BitVec.eq_of_getLsbD_eq
  intro i hi
  simp [hi]
theorem l_add (a b : Nat) : lN a + lN b = lN (a + b) := by
  apply Int64.toBitVec_inj.1
  show BitVec.ofNat 64 a + BitVec.ofNat 64 b = BitVec.ofNat 64 (a + b)
  apply BitVec.eq_of_toNat_eq
  simp
theorem l_sub {a b : Nat} (h : b ≤ a) : lN a - lN b = lN (a - b) := by
  have e : lN a = lN (a - b) + lN b := by rw [l_add, Nat.sub_add_cancel h]
  rw [e]
  exact Int64.add_sub_cancel _ _
theorem l_i32 (a : Nat) : (lN a).toInt32 = nI a := by
  apply Int32.toBitVec_inj.1
  show (BitVec.ofNat 64 a).signExtend 32 = BitVec.ofNat 32 a
  apply BitVec.eq_of_getLsbD_eq
  intro i hi
  rw [BitVec.getLsbD_signExtend, BitVec.getLsbD_ofNat, BitVec.getLsbD_ofNat]
  simp [hi, show i < 64 by omega]
theorem l_lt {a b : Nat} (ha : a < 2 ^ 63) (hb : b < 2 ^ 63) : lN a < lN b ↔ a < b := by
  have h : ∀ n : Nat, n < 2 ^ 63 → (lN n).toInt = (n : Int) := by
    intro n hn
    show (BitVec.ofNat 64 n).toInt = _
    rw [BitVec.toInt_eq_toNat_of_lt]
    · simp; omega
    · simp; omega
  rw [Int64.lt_iff_toInt_lt, h a ha, h b hb]
  omega
theorem l_eq {a b : Nat} (ha : a < 2 ^ 63) (hb : b < 2 ^ 63) : lN a = lN b ↔ a = b := by
  constructor
  · intro h
    have := congrArg (fun x => x.toBitVec.toNat) h
    have q : ∀ n : Nat, n < 2 ^ 63 → (lN n).toBitVec.toNat = n := fun n hn => by
      show (BitVec.ofNat 64 n).toNat = n
      simp; omega
    simpa [q a ha, q b hb] using this
  · intro h; rw [h]
theorem l_cmp {a b : Nat} (ha : a < 2 ^ 63) (hb : b < 2 ^ 63) : 0 ≤ lg_cmp (lN a) (lN b) ↔ ¬ a < b := by
  unfold lg_cmp
  rcases Nat.lt_trichotomy a b with h | h | h
  · rw [if_neg (by show ¬ lN b < lN a; rw [l_lt hb ha]; omega), if_neg (by rw [l_eq ha hb]; omega)]
    exact ⟨fun z => absurd z (by decide), fun z => absurd h z⟩
  · subst h
    rw [if_neg (by show ¬ lN a < lN a; rw [l_lt hb ha]; omega), if_pos rfl]
    exact ⟨fun _ => by omega, fun _ => by decide⟩
  · rw [if_pos (by show lN b < lN a; rw [l_lt hb ha]; omega)]
    exact ⟨fun _ => by omega, fun _ => by decide⟩
theorem n_255m (a : Nat) : nI a &&& 255 = nI (a % 256) := by
  rw [n_255, n_and]
  congr 1
  exact Nat.and_two_pow_sub_one_eq_mod a 8
/-- the channels in one number, a byte for each -/
def byt (l : List Nat) : Nat := l.foldl (fun b c => 256 * b + c) 0
theorem byt_gen (l : List Nat) : ∀ b : Nat, l.foldl (fun b c => 256 * b + c) b = 256 ^ l.length * b + byt l := by
  induction l with
  | nil => intro b; simp [byt]
  | cons x l ih =>
    intro b
    unfold byt
    rw [List.foldl_cons, List.foldl_cons, ih, ih (256 * 0 + x), List.length_cons, Nat.pow_succ, Nat.mul_add, Nat.mul_assoc]
    simp [Nat.add_assoc]
theorem byt_cons (x : Nat) (l : List Nat) : byt (x :: l) = 256 ^ l.length * x + byt l := by
  show (x :: l).foldl _ 0 = _
  rw [List.foldl_cons, byt_gen]; simp
theorem byt_snoc (l : List Nat) (x : Nat) : byt (l ++ [x]) = 256 * byt l + x := by
  unfold byt; rw [List.foldl_append]; rfl
theorem byt_lt {l : List Nat} (h : ∀ c ∈ l, c < 256) : byt l < 256 ^ l.length := by
  induction l with
  | nil => simp [byt]
  | cons x l ih =>
    rw [byt_cons, List.length_cons, Nat.pow_succ]
    have h1 := ih fun c hc => h c (List.mem_cons_of_mem _ hc)
    have h2 := h x List.mem_cons_self
    have : 256 ^ l.length * x ≤ 256 ^ l.length * 255 := Nat.mul_le_mul_left _ (by omega)
    omega
theorem byt_at {l : List Nat} (h : ∀ c ∈ l, c < 256) : ∀ {p : Nat} (hp : p < l.length), byt l / 256 ^ (l.length - 1 - p) % 256 = l[p] := by
  induction l with
  | nil => intro p hp; exact absurd hp (Nat.not_lt_zero _)
  | cons x l ih =>
    intro p hp
    have hl : ∀ c ∈ l, c < 256 := fun c hc => h c (List.mem_cons_of_mem _ hc)
    have hx := h x List.mem_cons_self
    have hb := byt_lt hl
    rw [byt_cons]
    cases p with
    | zero =>
      show (256 ^ l.length * x + byt l) / 256 ^ (l.length + 1 - 1 - 0) % 256 = x
      rw [Nat.sub_zero, Nat.add_sub_cancel, Nat.mul_add_div (Nat.pow_pos (by omega)), Nat.div_eq_of_lt hb, Nat.add_zero, Nat.mod_eq_of_lt hx]
    | succ p =>
      have hp' : p < l.length := Nat.lt_of_succ_lt_succ hp
      show (256 ^ l.length * x + byt l) / 256 ^ (l.length + 1 - 1 - (p + 1)) % 256 = l[p]
      rw [← ih hl hp']
      have e : l.length + 1 - 1 - (p + 1) = l.length - 1 - p := by omega
      rw [e]
      have e2 : 256 ^ l.length * x = 256 ^ (l.length - 1 - p) * (256 * (256 ^ p * x)) := by
        rw [show 256 ^ l.length = 256 ^ (l.length - 1 - p) * (256 * 256 ^ p) by rw [← Nat.pow_succ', ← Nat.pow_add]; congr 1; omega]
        rw [Nat.mul_assoc, Nat.mul_assoc]
      rw [e2, Nat.mul_add_div (Nat.pow_pos (by omega)), Nat.mul_add_mod]
theorem byt_lxl : ∀ {x y : List Nat}, x.length = y.length → (∀ c ∈ x, c < 256) → (∀ c ∈ y, c < 256) → (byt x < byt y ↔ lxl x y = true) := by
  intro x
  induction x with
  | nil => intro y hl _ _; cases y with
    | nil => simp [lxl]
    | cons => cases hl
  | cons a x ih =>
    intro y hl hx hy
    cases y with
    | nil => cases hl
    | cons b y =>
      have hl' : x.length = y.length := by simpa using hl
      have hx' : ∀ c ∈ x, c < 256 := fun c hc => hx c (List.mem_cons_of_mem _ hc)
      have hy' : ∀ c ∈ y, c < 256 := fun c hc => hy c (List.mem_cons_of_mem _ hc)
      have h1 := byt_lt hx'
      have h2 := byt_lt hy'
      rw [byt_cons, byt_cons, lxl, hl']
      rw [hl'] at h1
      have ih := ih hl' hx' hy'
      by_cases hab : a = b
      · subst hab
        rw [if_pos rfl, ← ih]
        omega
      · rw [if_neg hab, decide_eq_true_iff]
        rcases Nat.lt_or_ge a b with q | q
        · have := Nat.mul_le_mul_left (256 ^ y.length) q
          rw [Nat.mul_succ] at this
          omega
        · have q2 : b + 1 ≤ a := by omega
          have := Nat.mul_le_mul_left (256 ^ y.length) q2
          rw [Nat.mul_succ] at this
          omega
theorem byt_56 {l : List Nat} (h : ∀ c ∈ l, c < 256) (hl : l.length ≤ 7) : byt l < 2 ^ 56 := by
  have := byt_lt h
  have h2 := Nat.pow_le_pow_right (n := 256) (by omega) hl
  omega
/-- an object of the class Way -/
def RepC (S : St) (k : Nat) (w : Wy) : Prop := gI S k 0 = nI w.1.length ∧ gI S k 1 = nI w.2.1 ∧ gI S k 2 = nI w.2.2 ∧ gI S k 3 = nI (fbs w) ∧ gJ S k 4 = lN (byt w.1)
/-- small enough for it -/
def SW (w : Wy) : Prop := w.1.length ≤ 7 ∧ (∀ c ∈ w.1, c / 10 < 14 ∧ c % 10 < 8) ∧ w.2.1 ≤ 7000 ∧ w.2.2 ≤ 7
theorem SW.b {w : Wy} (h : SW w) : ∀ c ∈ w.1, c < 256 := fun c hc => by have := (h.2.1 c hc); omega
theorem fbs_lt (w : Wy) : fbs w < 2 ^ 14 := mk_lt _ _
theorem fbs_bit {w : Wy} (h : SW w) (f : Nat) : (fbs w).testBit f = w.1.any (fun c => c / 10 == f) := by
  unfold fbs
  rw [mk_bit]
  by_cases hf : f < 14
  · simp [hf]
  · simp only [hf, decide_false, Bool.false_and]
    symm
    rw [List.any_eq_false]
    intro c hc
    have := (h.2.1 c hc).1
    simp; omega
theorem k_channelAt {S : St} {k : Nat} {w : Wy} (h : RepC S k w) (hw : SW w) {p : Nat} (hp : p < w.1.length) (P : Int32 → St → Prop) (hP : P (nI w.1[p]) S) : wp_X3_channelAt S k (nI p) P := by
  unfold wp_X3_channelAt
  obtain ⟨h0, h1, h2, h3, h4⟩ := h
  have hl := hw.1
  rw [h0, h4, n_1, n_sub (by omega), n_sub (by omega), n_8, n_mul, nI_l (by omega), l_shr (by have := byt_56 hw.b hl; omega) (by omega), l_i32, n_255m]
  rw [Nat.shiftRight_eq_div_pow, Nat.pow_mul, show (2 : Nat) ^ 8 = 256 from rfl, byt_at hw.b hp]
  exact hP
theorem k_first {S : St} {k : Nat} {w : Wy} (h : RepC S k w) (hw : SW w) (hp : 0 < w.1.length) (P : Int32 → St → Prop) (hP : P (nI (w.1[0] % 10)) S) : wp_X3_firstWavelength S k P := by
  unfold wp_X3_firstWavelength
  refine k_channelAt (p := 0) h hw hp _ ?_
  have := hw.b w.1[0] (List.getElem_mem _)
  rw [n_r10 (by omega)]
  exact hP
theorem k_uses {S : St} {k : Nat} {w : Wy} (h : RepC S k w) (hw : SW w) {f : Nat} (hf : f < 14) (P : Bool → St → Prop) (hP : P (w.1.any (fun c => c / 10 == f)) S) : wp_X3_uses S k (nI f) P := by
  unfold wp_X3_uses
  rw [h.2.2.2.1]
  have hlt := fbs_lt w
  simp only [n_bit0 (show fbs w < 2 ^ 31 by omega) (show f < 32 by omega), fbs_bit hw]
  split
  · rename_i q; rw [q] at hP; exact hP
  · rename_i q; rw [Bool.not_eq_false] at q; rw [q] at hP; exact hP
/-- the wavelengths of a way on a fibre -/
def wvs (l : List Nat) (f : Nat) : Nat := l.foldl (fun b c => if c / 10 = f then b ||| 2 ^ (c % 10) else b) 0
theorem wvs_take {l : List Nat} {f p : Nat} (hp : p < l.length) : wvs (l.take (p + 1)) f = (if l[p] / 10 = f then wvs (l.take p) f ||| 2 ^ (l[p] % 10) else wvs (l.take p) f) := by
  unfold wvs
  rw [List.take_add_one, List.foldl_append, List.getElem?_eq_getElem hp]
  rfl
theorem wvs_lt {l : List Nat} (h : ∀ c ∈ l, c % 10 < 8) (f : Nat) : wvs l f < 2 ^ 8 := by
  unfold wvs
  have : ∀ (l : List Nat) (b : Nat), (∀ c ∈ l, c % 10 < 8) → b < 2 ^ 8 → l.foldl (fun b c => if c / 10 = f then b ||| 2 ^ (c % 10) else b) b < 2 ^ 8 := by
    intro l
    induction l with
    | nil => intro b _ hb; exact hb
    | cons x l ih =>
      intro b hl hb
      rw [List.foldl_cons]
      apply ih _ (fun c hc => hl c (List.mem_cons_of_mem _ hc))
      split
      · exact Nat.or_lt_two_pow hb (Nat.pow_lt_pow_right (by omega) (hl x List.mem_cons_self))
      · exact hb
  exact this l 0 h (by omega)
theorem wvs_bit (l : List Nat) (f i : Nat) : (wvs l f).testBit i = l.any (fun c => c / 10 == f && c % 10 == i) := by
  unfold wvs
  have : ∀ (l : List Nat) (b : Nat), (l.foldl (fun b c => if c / 10 = f then b ||| 2 ^ (c % 10) else b) b).testBit i = (b.testBit i || l.any (fun c => c / 10 == f && c % 10 == i)) := by
    intro l
    induction l with
    | nil => intro b; simp
    | cons x l ih =>
      intro b
      rw [List.foldl_cons, ih, List.any_cons, ← Bool.or_assoc]
      congr 1
      by_cases hx : x / 10 = f
      · rw [if_pos hx, Nat.testBit_or, Nat.testBit_two_pow]; simp only [hx, beq_self_eq_true, Bool.true_and]; rfl
      · rw [if_neg hx]; simp [hx]
  rw [this]; simp
theorem wvs_chan (l : List Nat) {f i : Nat} (hi : i < 10) : (wvs l f).testBit i = l.contains (10 * f + i) := by
  rw [wvs_bit, Bool.eq_iff_iff, List.any_eq_true, List.contains_iff_mem]
  constructor
  · rintro ⟨c, hc, h⟩
    simp at h
    have : 10 * f + i = c := by omega
    rw [this]; exact hc
  · intro h
    exact ⟨_, h, by simp; omega⟩
theorem wvs_none {l : List Nat} {f : Nat} (h : l.any (fun c => c / 10 == f) = false) : wvs l f = 0 := by
  apply Nat.eq_of_testBit_eq
  intro i
  rw [wvs_bit, Nat.zero_testBit, List.any_eq_false]
  rw [List.any_eq_false] at h
  intro c hc q
  apply h c hc
  simp at q ⊢
  exact q.1
theorem k_wvsOn {S : St} {k : Nat} {w : Wy} (h : RepC S k w) (hw : SW w) {f : Nat} (hf : f < 14) (P : Int32 → St → Prop) (hP : P (nI (wvs w.1 f)) S) : wp_X3_wavelengthsOn S k (nI f) P := by
  unfold wp_X3_wavelengthsOn
  refine k_uses h hw hf _ ?_
  split
  · refine ⟨w.1.length + 1, ?_⟩
    have key : ∀ n p : Nat, p + n = w.1.length → wp_X3_wavelengthsOn_14 k (nI f) P (n + 1) S (nI (wvs (w.1.take p) f)) (nI p) := by
      intro n
      have hl := hw.1
      induction n with
      | zero =>
        intro p hp
        rw [wp_X3_wavelengthsOn_14]
        show if gI S k 0 ≤ nI p then _ else _
        rw [h.1, if_pos (by simp (disch := omega) only [n_0, n_1, n_2, n_3, n_7, n_8, n_9, n_10, n_12, n_14, n_18, n_20, n_60, n_112, n_162, n_255, n_1000, nI_add, n_mul, nI_ltI, nI_leI, nI_eq, nI_clamp]; omega)]
        rw [show w.1.take p = w.1 by rw [List.take_of_length_le]; omega]
        exact hP
      | succ n ih =>
        intro p hp
        have hpl : p < w.1.length := by omega
        rw [wp_X3_wavelengthsOn_14]
        show if gI S k 0 ≤ nI p then _ else _
        rw [h.1, if_neg (by simp (disch := omega) only [n_0, n_1, n_2, n_3, n_7, n_8, n_9, n_10, n_12, n_14, n_18, n_20, n_60, n_112, n_162, n_255, n_1000, nI_add, n_mul, nI_ltI, nI_leI, nI_eq, nI_clamp]; omega)]
        refine k_channelAt h hw hpl _ ?_
        have hc := hw.2.1 w.1[p] (List.getElem_mem _)
        have ih := ih (p + 1) (by omega)
        rw [wvs_take hpl] at ih
        rw [n_r10 (by omega), n_d10 (by omega), n_one (by omega), n_or]
        by_cases q : w.1[p] / 10 = f
        · rw [if_pos (by rw [q])]
          rw [if_pos q] at ih
          intro y hy
          unfold wp_X3_wavelengthsOn_48
          intro y2 hy2
          subst hy; subst hy2
          rw [nI_1]
          exact ih
        · rw [if_neg (by rw [nI_eq (by omega) (by omega)]; exact q)]
          rw [if_neg q] at ih
          unfold wp_X3_wavelengthsOn_48
          intro y2 hy2
          subst hy2
          rw [nI_1]
          exact ih
    exact key w.1.length 0 (by omega)
  · rename_i q
    rw [Bool.not_eq_true] at q
    rw [wvs_none q] at hP
    exact hP
theorem k_isAhead {S : St} {k k2 : Nat} {w v : Wy} (h : RepC S k w) (hw : SW w) (h2 : RepC S k2 v) (hv : SW v) (P : Bool → St → Prop) (hP : P (ahd w v) S) : wp_X3_isAheadOf S k k2 P := by
  unfold wp_X3_isAheadOf
  obtain ⟨a1, a2, a3, a4⟩ := hw
  obtain ⟨b1, b2, b3, b4⟩ := hv
  have hb := byt_56 (SW.b ⟨a1, a2, a3, a4⟩) a1
  have hb2 := byt_56 (SW.b ⟨b1, b2, b3, b4⟩) b1
  rw [h.1, h2.1, h.2.1, h2.2.1, h.2.2.1, h2.2.2.1, h.2.2.2.2, h2.2.2.2.2]
  unfold ahd at hP
  by_cases q1 : w.2.1 = v.2.1
  · rw [if_pos q1] at hP
    rw [if_pos (by rw [q1])]
    by_cases q2 : w.2.2 = v.2.2
    · rw [if_pos q2] at hP
      rw [if_pos (by rw [q2])]
      by_cases q3 : w.1.length = v.1.length
      · rw [if_pos q3] at hP
        rw [if_pos (by rw [q3])]
        have key := byt_lxl q3 (SW.b ⟨a1, a2, a3, a4⟩) (SW.b ⟨b1, b2, b3, b4⟩)
        by_cases q4 : byt w.1 < byt v.1
        · rw [key.mp q4] at hP
          rw [if_neg (by rw [l_cmp (by omega) (by omega)]; exact fun z => z q4)]
          exact hP
        · rw [show lxl w.1 v.1 = false by rw [← Bool.not_eq_true, ← key]; exact q4] at hP
          rw [if_pos (by rw [l_cmp (by omega) (by omega)]; exact q4)]
          exact hP
      · rw [if_neg q3] at hP
        rw [if_neg (by rw [nI_eq (by omega) (by omega)]; exact q3)]
        by_cases q4 : w.1.length < v.1.length
        · rw [decide_eq_true q4] at hP
          rw [if_neg (by simp (disch := omega) only [n_0, n_1, n_2, n_3, n_7, n_8, n_9, n_10, n_12, n_14, n_18, n_20, n_60, n_112, n_162, n_255, n_1000, nI_add, n_mul, nI_ltI, nI_leI, nI_eq, nI_clamp]; omega)]
          exact hP
        · rw [decide_eq_false q4] at hP
          rw [if_pos (by simp (disch := omega) only [n_0, n_1, n_2, n_3, n_7, n_8, n_9, n_10, n_12, n_14, n_18, n_20, n_60, n_112, n_162, n_255, n_1000, nI_add, n_mul, nI_ltI, nI_leI, nI_eq, nI_clamp]; omega)]
          exact hP
    · rw [if_neg q2] at hP
      rw [if_neg (by rw [nI_eq (by omega) (by omega)]; exact q2)]
      by_cases q4 : w.2.2 < v.2.2
      · rw [decide_eq_true q4] at hP
        rw [if_neg (by simp (disch := omega) only [n_0, n_1, n_2, n_3, n_7, n_8, n_9, n_10, n_12, n_14, n_18, n_20, n_60, n_112, n_162, n_255, n_1000, nI_add, n_mul, nI_ltI, nI_leI, nI_eq, nI_clamp]; omega)]
        exact hP
      · rw [decide_eq_false q4] at hP
        rw [if_pos (by simp (disch := omega) only [n_0, n_1, n_2, n_3, n_7, n_8, n_9, n_10, n_12, n_14, n_18, n_20, n_60, n_112, n_162, n_255, n_1000, nI_add, n_mul, nI_ltI, nI_leI, nI_eq, nI_clamp]; omega)]
        exact hP
  · rw [if_neg q1] at hP
    rw [if_neg (by rw [nI_eq (by omega) (by omega)]; exact q1)]
    by_cases q4 : w.2.1 < v.2.1
    · rw [decide_eq_true q4] at hP
      rw [if_neg (by simp (disch := omega) only [n_0, n_1, n_2, n_3, n_7, n_8, n_9, n_10, n_12, n_14, n_18, n_20, n_60, n_112, n_162, n_255, n_1000, nI_add, n_mul, nI_ltI, nI_leI, nI_eq, nI_clamp]; omega)]
      exact hP
    · rw [decide_eq_false q4] at hP
      rw [if_pos (by simp (disch := omega) only [n_0, n_1, n_2, n_3, n_7, n_8, n_9, n_10, n_12, n_14, n_18, n_20, n_60, n_112, n_162, n_255, n_1000, nI_add, n_mul, nI_ltI, nI_leI, nI_eq, nI_clamp]; omega)]
      exact hP
