def wp_L_areAlike_103 (P : Bool → St → St → Prop) (K53 : St → St → Bool → Int32 → Prop) (K66 : St → St → Bool → Int32 → Int32 → Prop) (S T : St) (a3 : Int32) (a4 : Int32) (t0 : Bool) : Prop := (∀ y104 : Int32, y104 = a4 + 1 → (K66 S T t0 a3 y104))
def wp_L_areAlike_110 (P : Bool → St → St → Prop) (K53 : St → St → Bool → Int32 → Prop) (S T : St) (a2 : Bool) (a3 : Int32) : Prop := (∀ y110 : Int32, y110 = a3 + 1 → (K53 S T a2 y110))
def wp_L_areAlike_66 (P : Bool → St → St → Prop) (K53 : St → St → Bool → Int32 → Prop) : Nat → St → St → Bool → Int32 → Int32 → Prop
  | 0 => fun _ _ _ _ _ => False
  | n + 1 => fun S T a2 a3 a4 => (if 8 ≤ a4 then (wp_L_areAlike_110 P K53 S T a2 a3) else (if a2 = true then (wp_L_looks S 2 a3 a4 0 (fun r83 S83 => (wp_L_looks T 2 a3 a4 0 (fun r92 T92 => (if r83 = r92 then (wp_L_areAlike_103 P K53 (fun S T a2 a3 a4 => wp_L_areAlike_66 P K53 n S T a2 a3 a4) S83 T92 a3 a4 true) else (wp_L_areAlike_103 P K53 (fun S T a2 a3 a4 => wp_L_areAlike_66 P K53 n S T a2 a3 a4) S83 T92 a3 a4 false)))))) else (wp_L_areAlike_110 P K53 S T a2 a3)))
def wp_L_areAlike_161 (P : Bool → St → St → Prop) (K118 : St → St → Bool → Int32 → Prop) (S T : St) (a3 : Int32) (t0 : Bool) : Prop := (∀ y162 : Int32, y162 = a3 + 1 → (K118 S T t0 y162))
def wp_L_areAlike_160 (P : Bool → St → St → Prop) (K118 : St → St → Bool → Int32 → Prop) (S T : St) (a3 : Int32) : Prop := (wp_L_areAlike_161 P K118 S T a3 false)
def wp_L_areAlike_118 (P : Bool → St → St → Prop) : Nat → St → St → Bool → Int32 → Prop
  | 0 => fun _ _ _ _ => False
  | n + 1 => fun S T a2 a3 => (wp_X5_lights S (fun r120 S120 => (if r120 ≤ a3 then (P a2 S120 T) else (if a2 = true then (wp_X5_state S120 a3 (fun r132 S132 => (wp_X5_state T a3 (fun r137 T137 => (if r132 = r137 then (wp_X5_units S132 a3 (fun r145 S145 => (wp_X5_units T137 a3 (fun r150 T150 => (if r145 = r150 then (wp_L_areAlike_161 P (fun S T a2 a3 => wp_L_areAlike_118 P n S T a2 a3) S145 T150 a3 true) else (wp_L_areAlike_160 P (fun S T a2 a3 => wp_L_areAlike_118 P n S T a2 a3) S145 T150 a3))) (fun _ _ => False))) (fun _ _ => False)) else (wp_L_areAlike_160 P (fun S T a2 a3 => wp_L_areAlike_118 P n S T a2 a3) S132 T137 a3))) (fun _ _ => False))) (fun _ _ => False)) else (P a2 S120 T)))))
def wp_L_areAlike_116 (P : Bool → St → St → Prop) (S T : St) (a2 : Bool) : Prop := (∃ n118, n118 ≤ 61 ∧ wp_L_areAlike_118 P n118 S T a2 0)
def wp_L_areAlike_53 (P : Bool → St → St → Prop) : Nat → St → St → Bool → Int32 → Prop
  | 0 => fun _ _ _ _ => False
  | n + 1 => fun S T a2 a3 => (if 14 ≤ a3 then (wp_L_areAlike_116 P S T a2) else (if a2 = true then (∃ n66, n66 ≤ 9 ∧ wp_L_areAlike_66 P (fun S T a2 a3 => wp_L_areAlike_53 P n S T a2 a3) n66 S T a2 a3 0) else (wp_L_areAlike_116 P S T a2)))
def wp_L_areAlike_50 (P : Bool → St → St → Prop) (S T : St) (t0 : Bool) : Prop := (∃ n53, n53 ≤ 15 ∧ wp_L_areAlike_53 P n53 S T t0 0)
def wp_L_areAlike_49 (P : Bool → St → St → Prop) (S T : St)  : Prop := (wp_L_areAlike_50 P S T false)
def wp_L_areAlike (S T : St)  (P : Bool → St → St → Prop) : Prop := (wp_X5_load S (fun r1 S1 => (wp_X5_load T (fun r5 T5 => (if r1 = r5 then (wp_X5_requests S1 (fun r12 S12 => (wp_X5_requests T5 (fun r16 T16 => (if r12 = r16 then (wp_X5_lights S12 (fun r23 S23 => (wp_X5_lights T16 (fun r27 T27 => (if r23 = r27 then (wp_X5_usage S23 (fun r34 S34 => (wp_X5_usage T27 (fun r38 T38 => (if (Op.cmpValue (FP.fcmp r34 r38) .l) = 0 then (wp_L_areAlike_50 P S34 T38 true) else (wp_L_areAlike_49 P S34 T38))) (fun _ _ => False))) (fun _ _ => False)) else (wp_L_areAlike_49 P S23 T27)))))) else (wp_L_areAlike_49 P S12 T16)))))) else (wp_L_areAlike_49 P S1 T5))))))
abbrev rm_L_areAlike : Room := { frames := 10, cells := 271, slots := 1626, locals := 193 }
def wp_L_isReroutedSo_99 (x3 : Int32) (P : Bool → St → St → Prop) (S T : St) (a3 : Int32) (t0 : Bool) : Prop := (if t0 = true then (wp_L_does T 4 x3 (fun r109 T109 => (if r109 = a3 then (P true S T109) else (P false S T109)))) else (P false S T))
def wp_L_isReroutedSo_98 (x3 : Int32) (P : Bool → St → St → Prop) (S T : St) (a3 : Int32) : Prop := (wp_L_isReroutedSo_99 x3 P S T a3 false)
def wp_L_isReroutedSo_22 (x3 : Int32) (P : Bool → St → St → Prop) (S T : St) (a3 : Int32) (t0 : Bool) : Prop := (if 0 ≤ a3 then (wp_X5_channel S x3 0 0 (fun r35 S35 => (wp_X5_channels S35 x3 0 (fun r43 S43 => (if t0 = true then (wp_X5_state S43 x3 (fun r55 S55 => (if r55 = 0 then (wp_L_does S55 4 x3 (fun r64 S64 => (if r64 = a3 then (wp_X5_channel S64 x3 0 0 (fun r75 S75 => (if r75 = r35 then (wp_X5_channels S75 x3 0 (fun r86 S86 => (if r86 = r43 then (wp_L_isReroutedSo_99 x3 P S86 T a3 true) else (wp_L_isReroutedSo_98 x3 P S86 T a3))) (fun _ _ => False)) else (wp_L_isReroutedSo_98 x3 P S75 T a3))) (fun _ _ => False)) else (wp_L_isReroutedSo_98 x3 P S64 T a3)))) else (wp_L_isReroutedSo_98 x3 P S55 T a3))) (fun _ _ => False)) else (wp_L_isReroutedSo_98 x3 P S43 T a3))) (fun _ _ => False))) (fun _ _ => False)) else (P t0 S T))
def wp_L_isReroutedSo (S T : St) (x3 : Int32) (P : Bool → St → St → Prop) : Prop := (wp_L_does S 4 x3 (fun r3 S3 => (wp_L_does T 4 x3 (fun r10 T10 => (if r10 = r3 then (wp_L_isReroutedSo_22 x3 P S3 T10 r3 true) else (wp_L_isReroutedSo_22 x3 P S3 T10 r3 false))))))
abbrev rm_L_isReroutedSo : Room := { frames := 15, cells := 5, slots := 30, locals := 413 }
set_option maxHeartbeats 4000000 in
set_option maxRecDepth 100000 in
theorem c_L_areAlike (l : Launch) (hlt : l.stackTraces = false) (D : va_G) (cy : Nat → ClassId) (b0 : Nat) (S T : St)  (P : Bool → St → St → Prop) (hw : wp_L_areAlike S T  P) : Met l yL_areAlike wsL_areAlike rm_L_areAlike (va_Pc [.ref (b0 + 0), .ref (b0 + 367 + 0)] (Wd2 D cy b0 S T)) (QC2 (Pz2 P) D cy b0) 271 1626 (AB b0) := by
  refine Met.ofW (cc := cL_areAlike) (maxL := 5) (ret := (some .boolean)) (by decide) rfl ?_
  intro p e s m args below meth c s₁ B hml hv
  obtain ⟨hargs, hW, hP, hF, hP2, hF2⟩ := hv
  have hx := B.exec
  have hb := B.bytes
  have hr := B.returns
  have hts := atoms_spec (ws := wsL_areAlike) B.pre
  have hown : s.vm.findClass RL = some m.cls := findClass_of_methodNamed B.named
  have hlocks := B.notSynchronized
  have hK := hW.1
  have hS : va_S (AB b0) s.heap s.heap [] := va_S.rf
  have hE : entryFrame m args 5 = F0 m 0 ((lg_sl [.ref (b0 + 0), .ref (b0 + 367 + 0)] ++ List.replicate (5 - (lg_sl [.ref (b0 + 0), .ref (b0 + 367 + 0)]).length) Slot.unset).toArray) [] := by rw [hargs]; exact lg_entry_eq m _ _
  rw [hE]
  have hl := lv_entry [.ref (b0 + 0), .ref (b0 + 367 + 0)] (n := 5) (Nat.le_of_ble_eq_true rfl)
  generalize (lg_sl [.ref (b0 + 0), .ref (b0 + 367 + 0)] ++ List.replicate (5 - (lg_sl [.ref (b0 + 0), .ref (b0 + 367 + 0)]).length) Slot.unset).toArray = ls at hl ⊢
  have hl : lv_has ls 5 [(0, .ref (b0 + 0)), (1, .ref (b0 + 367 + 0))] := hl
  have j118 : ∀ (n118 : Nat), ∀ kk : Nat, kk + (1) ≤ 271 → ∀ (S T : St) (a2 : Bool) (a3 : Int32), ∀ (H : Heap) (locs : List Loc) (ls : Array Slot), wp_L_areAlike_118 P n118 S T a2 a3 → HP D cy b0 NALL S H → Fx S → HP D cy (b0 + 367) NALL T H → Fx T → va_S (AB b0) s.heap H locs → lv_has ls 5 [(0, .ref (b0 + 0)), (1, .ref (b0 + 367 + 0)), (2, .int (b2i a2)), (3, .int a3)] → W p l e rm_L_areAlike s m args below meth c H locs kk (0 + 6 * kk) (MQ below (QC2 (Pz2 P) D cy b0) args s 271 1626 (AB b0)) (F0 m 118 ls []) := by
    intro n118
    induction n118 with
    | zero => intro kk hc9 S T a2 a3 H locs ls hw _ _ _ _ _ _ ; exact False.elim hw
    | succ n118 ih118 =>
      have j161 : ∀ kk : Nat, kk + (1) ≤ 271 → ∀ (S T : St) (a3 : Int32) (t0 : Bool), ∀ (H : Heap) (locs : List Loc) (ls : Array Slot), wp_L_areAlike_161 P (fun S T a2 a3 => wp_L_areAlike_118 P n118 S T a2 a3) S T a3 t0 → HP D cy b0 NALL S H → Fx S → HP D cy (b0 + 367) NALL T H → Fx T → va_S (AB b0) s.heap H locs → lv_has ls 5 [(0, .ref (b0 + 0)), (1, .ref (b0 + 367 + 0)), (3, .int a3)] → W p l e rm_L_areAlike s m args below meth c H locs kk (0 + 6 * kk) (MQ below (QC2 (Pz2 P) D cy b0) args s 271 1626 (AB b0)) (F0 m 161 ls [.int (b2i t0)]) := by
        intro kk hc9 S T a3 t0 H locs ls hw hP hF hP2 hF2 hS hl
        unfold wp_L_areAlike_161 at hw
        refine lv_istore_n (lv' := [(2, .int (b2i t0)), (0, .ref (b0 + 0)), (1, .ref (b0 + 367 + 0)), (3, .int a3)]) hx hb dL_areAlike_161 rfl hl (by decide) rfl (fun ls hl => ?_)
        obtain ⟨y162, e162⟩ : ∃ z : Int32, z = a3 + 1 := ⟨_, rfl⟩
        have hw := hw y162 e162
        refine lv_iinc (v := y162) (lv' := [(3, .int y162), (2, .int (b2i t0)), (0, .ref (b0 + 0)), (1, .ref (b0 + 367 + 0))]) hx hb dL_areAlike_162 hl (k := 3) rfl (by rw [e162]; rfl) (by decide) rfl (fun ls hl => ?_)
        refine lv_goto (tgt := 118) hx hb dL_areAlike_165 (by decide) ?_
        refine W.widen (k := kk + 0) (n := 0 + 6 * (kk + 0)) (by omega) (by omega) ?_
        exact ih118 (kk + 0) (by omega) S T t0 y162 _ _ _ hw hP hF hP2 hF2 hS (lv_sub hl [2, 3, 1, 0] rfl)
      have j160 : ∀ kk : Nat, kk + (1) ≤ 271 → ∀ (S T : St) (a3 : Int32), ∀ (H : Heap) (locs : List Loc) (ls : Array Slot), wp_L_areAlike_160 P (fun S T a2 a3 => wp_L_areAlike_118 P n118 S T a2 a3) S T a3 → HP D cy b0 NALL S H → Fx S → HP D cy (b0 + 367) NALL T H → Fx T → va_S (AB b0) s.heap H locs → lv_has ls 5 [(0, .ref (b0 + 0)), (1, .ref (b0 + 367 + 0)), (3, .int a3)] → W p l e rm_L_areAlike s m args below meth c H locs kk (0 + 6 * kk) (MQ below (QC2 (Pz2 P) D cy b0) args s 271 1626 (AB b0)) (F0 m 160 ls []) := by
        intro kk hc9 S T a3 H locs ls hw hP hF hP2 hF2 hS hl
        unfold wp_L_areAlike_160 at hw
        refine lv_iconst (v := 0) hx hb dL_areAlike_160 (by decide) ?_
        refine W.widen (k := kk + 0) (n := 0 + 6 * (kk + 0)) (by omega) (by omega) ?_
        exact j161 (kk + 0) (by omega) S T a3 false _ _ _ hw hP hF hP2 hF2 hS (lv_sub hl [0, 1, 2] rfl)
      intro kk hc9 S T a2 a3 H locs ls hw hP hF hP2 hF2 hS hl
      rw [wp_L_areAlike_118] at hw
      refine lv_iload_n hx hb dL_areAlike_118 rfl (lv_at hl 3 rfl) ?_
      refine lv_aload_n hx hb dL_areAlike_119 rfl (lv_at hl 0 rfl) ?_
      refine q_call1 (va_runV (As := []) (rest := [.int a3]) ⟨hx, hb, hml, hown, hts⟩ (c_X5_lights l D cy b0 S _ hw) (cwV 0 hts gL_areAlike_X5_lights rfl rfl rfl (by decide +kernel) ⟨(Nat.le_of_ble_eq_true rfl), (Nat.le_of_ble_eq_true rfl)⟩) (q_pV1 hW AA_o hP hF hS []) rfl rfl hl.1 rfl (lv_room (Nat.le_of_ble_eq_true rfl)) dL_areAlike_120 ⟨by show _ ≤ 271; omega, by show _ ≤ 1626; omega⟩) hS AA_o (fun v120 S120 t120 H locs hh hp hB hk9 hS => ?_)
      obtain ⟨r120, rfl, hw⟩ := hp
      have hP : HP D cy b0 NALL S120 H := by rw [← hh]; exact hB.1
      have hF := hB.2
      have hP2 := hP2.far hk9 far_p
      try dsimp only at hw
      refine W.eq (g2 := F0 m 123 ls [.int r120, .int a3]) rfl ?_
      refine lv_icmp_ge (x := a3) (y := r120) (tgt := 168) hx hb dL_areAlike_123 (by decide) (fun c123 => ?_) (fun c123 => ?_)
      · rw [if_pos c123] at hw
        refine lv_iload_n hx hb dL_areAlike_168 rfl (lv_at hl 2 rfl) ?_
        refine W.widen (k := 271) (n := 1626) (by omega) (by omega) ?_
        exact q_zret2 (v := a2) hx hb hr hP hF hP2 hF2 hS hw dL_areAlike_169 hlocks
      · rw [if_neg c123] at hw
        refine lv_iload_n hx hb dL_areAlike_126 rfl (lv_at hl 2 rfl) ?_
        refine lv_if_eq (x := b2i a2) (tgt := 168) hx hb dL_areAlike_127 (by decide) (fun c127 => ?_) (fun c127 => ?_)
        · have c127 := b2i_z c127
          rw [if_neg c127] at hw
          refine lv_iload_n hx hb dL_areAlike_168 rfl (lv_at hl 2 rfl) ?_
          refine W.widen (k := 271) (n := 1626) (by omega) (by omega) ?_
          exact q_zret2 (v := a2) hx hb hr hP hF hP2 hF2 hS hw dL_areAlike_169 hlocks
        · have c127 := b2i_n c127
          rw [if_pos c127] at hw
          refine lv_aload_n hx hb dL_areAlike_130 rfl (lv_at hl 0 rfl) ?_
          refine lv_iload_n hx hb dL_areAlike_131 rfl (lv_at hl 3 rfl) ?_
          refine q_callN (vx_runV (As := [.int a3]) (rest := []) ⟨hx, hb, hml, hown, hts⟩ (c_X5_state l hlt D cy b0 S120 a3 _ _ hw) (cwV 1 hts gL_areAlike_X5_state rfl rfl rfl (by decide +kernel) ⟨(Nat.le_of_ble_eq_true rfl), (Nat.le_of_ble_eq_true rfl)⟩) (q_pV1 hW AA_o hP hF hS [.int a3]) rfl rfl hl.1 rfl (lv_room (Nat.le_of_ble_eq_true rfl)) dL_areAlike_132 ⟨by show _ ≤ 271; omega, by show _ ≤ 1626; omega⟩) hS AA_o (fun v132 S132 t132 H locs hh hp hB hk9 hS => ?_)
          obtain ⟨r132, rfl, hw⟩ := hp
          have hP : HP D cy b0 NALL S132 H := by rw [← hh]; exact hB.1
          have hF := hB.2
          have hP2 := hP2.far hk9 far_p
          try dsimp only at hw
          refine W.eq (g2 := F0 m 135 ls [.int r132]) rfl ?_
          refine lv_aload_n hx hb dL_areAlike_135 rfl (lv_at hl 1 rfl) ?_
          refine lv_iload_n hx hb dL_areAlike_136 rfl (lv_at hl 3 rfl) ?_
          refine q_callN (vx_runV (As := [.int a3]) (rest := [.int r132]) ⟨hx, hb, hml, hown, hts⟩ (c_X5_state l hlt D cy (b0 + 367) T a3 _ _ hw) (cwV 1 hts gL_areAlike_X5_state rfl rfl rfl (by decide +kernel) ⟨(Nat.le_of_ble_eq_true rfl), (Nat.le_of_ble_eq_true rfl)⟩) (q_pV1 hW AA_p hP2 hF2 hS [.int a3]) rfl rfl hl.1 rfl (lv_room (Nat.le_of_ble_eq_true rfl)) dL_areAlike_137 ⟨by show _ ≤ 271; omega, by show _ ≤ 1626; omega⟩) hS AA_p (fun v137 T137 t137 H locs hh hp hB hk9 hS => ?_)
          obtain ⟨r137, rfl, hw⟩ := hp
          have hP2 : HP D cy (b0 + 367) NALL T137 H := by rw [← hh]; exact hB.1
          have hF2 := hB.2
          have hP := hP.far hk9 far_o
          try dsimp only at hw
          refine W.eq (g2 := F0 m 140 ls [.int r137, .int r132]) rfl ?_
          refine lv_icmp_ne (x := r132) (y := r137) (tgt := 160) hx hb dL_areAlike_140 (by decide) (fun c140 => ?_) (fun c140 => ?_)
          · rw [if_neg c140] at hw
            refine W.widen (k := kk + 0) (n := 0 + 6 * (kk + 0)) (by omega) (by omega) ?_
            exact j160 (kk + 0) (by omega) S132 T137 a3 _ _ _ hw hP hF hP2 hF2 hS (lv_sub hl [0, 1, 3] rfl)
          · rw [if_pos c140] at hw
            refine lv_aload_n hx hb dL_areAlike_143 rfl (lv_at hl 0 rfl) ?_
            refine lv_iload_n hx hb dL_areAlike_144 rfl (lv_at hl 3 rfl) ?_
            refine q_callN (vx_runV (As := [.int a3]) (rest := []) ⟨hx, hb, hml, hown, hts⟩ (c_X5_units l hlt D cy b0 S132 a3 _ _ hw) (cwV 1 hts gL_areAlike_X5_units rfl rfl rfl (by decide +kernel) ⟨(Nat.le_of_ble_eq_true rfl), (Nat.le_of_ble_eq_true rfl)⟩) (q_pV1 hW AA_o hP hF hS [.int a3]) rfl rfl hl.1 rfl (lv_room (Nat.le_of_ble_eq_true rfl)) dL_areAlike_145 ⟨by show _ ≤ 271; omega, by show _ ≤ 1626; omega⟩) hS AA_o (fun v145 S145 t145 H locs hh hp hB hk9 hS => ?_)
            obtain ⟨r145, rfl, hw⟩ := hp
            have hP : HP D cy b0 NALL S145 H := by rw [← hh]; exact hB.1
            have hF := hB.2
            have hP2 := hP2.far hk9 far_p
            try dsimp only at hw
            refine W.eq (g2 := F0 m 148 ls [.int r145]) rfl ?_
            refine lv_aload_n hx hb dL_areAlike_148 rfl (lv_at hl 1 rfl) ?_
            refine lv_iload_n hx hb dL_areAlike_149 rfl (lv_at hl 3 rfl) ?_
            refine q_callN (vx_runV (As := [.int a3]) (rest := [.int r145]) ⟨hx, hb, hml, hown, hts⟩ (c_X5_units l hlt D cy (b0 + 367) T137 a3 _ _ hw) (cwV 1 hts gL_areAlike_X5_units rfl rfl rfl (by decide +kernel) ⟨(Nat.le_of_ble_eq_true rfl), (Nat.le_of_ble_eq_true rfl)⟩) (q_pV1 hW AA_p hP2 hF2 hS [.int a3]) rfl rfl hl.1 rfl (lv_room (Nat.le_of_ble_eq_true rfl)) dL_areAlike_150 ⟨by show _ ≤ 271; omega, by show _ ≤ 1626; omega⟩) hS AA_p (fun v150 T150 t150 H locs hh hp hB hk9 hS => ?_)
            obtain ⟨r150, rfl, hw⟩ := hp
            have hP2 : HP D cy (b0 + 367) NALL T150 H := by rw [← hh]; exact hB.1
            have hF2 := hB.2
            have hP := hP.far hk9 far_o
            try dsimp only at hw
            refine W.eq (g2 := F0 m 153 ls [.int r150, .int r145]) rfl ?_
            refine lv_icmp_ne (x := r145) (y := r150) (tgt := 160) hx hb dL_areAlike_153 (by decide) (fun c153 => ?_) (fun c153 => ?_)
            · rw [if_neg c153] at hw
              refine W.widen (k := kk + 0) (n := 0 + 6 * (kk + 0)) (by omega) (by omega) ?_
              exact j160 (kk + 0) (by omega) S145 T150 a3 _ _ _ hw hP hF hP2 hF2 hS (lv_sub hl [0, 1, 3] rfl)
            · rw [if_pos c153] at hw
              refine lv_iconst (v := 1) hx hb dL_areAlike_156 (by decide) ?_
              refine lv_goto (tgt := 161) hx hb dL_areAlike_157 (by decide) ?_
              refine W.widen (k := kk + 0) (n := 0 + 6 * (kk + 0)) (by omega) (by omega) ?_
              exact j161 (kk + 0) (by omega) S145 T150 a3 true _ _ _ hw hP hF hP2 hF2 hS (lv_sub hl [0, 1, 3] rfl)
  have j116 : ∀ kk : Nat, kk + (1) ≤ 271 → ∀ (S T : St) (a2 : Bool), ∀ (H : Heap) (locs : List Loc) (ls : Array Slot), wp_L_areAlike_116 P S T a2 → HP D cy b0 NALL S H → Fx S → HP D cy (b0 + 367) NALL T H → Fx T → va_S (AB b0) s.heap H locs → lv_has ls 5 [(0, .ref (b0 + 0)), (1, .ref (b0 + 367 + 0)), (2, .int (b2i a2))] → W p l e rm_L_areAlike s m args below meth c H locs kk (0 + 6 * kk) (MQ below (QC2 (Pz2 P) D cy b0) args s 271 1626 (AB b0)) (F0 m 116 ls []) := by
    intro kk hc9 S T a2 H locs ls hw hP hF hP2 hF2 hS hl
    unfold wp_L_areAlike_116 at hw
    refine lv_iconst (v := 0) hx hb dL_areAlike_116 (by decide) ?_
    refine lv_istore_n (lv' := [(3, .int 0), (0, .ref (b0 + 0)), (1, .ref (b0 + 367 + 0)), (2, .int (b2i a2))]) hx hb dL_areAlike_117 rfl hl (by decide) rfl (fun ls hl => ?_)
    obtain ⟨n118, hn118, hw⟩ := hw
    refine W.widen (k := kk + 0) (n := 0 + 6 * (kk + 0)) (by omega) (by omega) ?_
    exact j118 n118 (kk + 0) (by omega) S T a2 0 _ _ _ hw hP hF hP2 hF2 hS (lv_sub hl [1, 2, 3, 0] rfl)
  have j53 : ∀ (n53 : Nat), ∀ kk : Nat, kk + (1 + 18 * n53) ≤ 271 → ∀ (S T : St) (a2 : Bool) (a3 : Int32), ∀ (H : Heap) (locs : List Loc) (ls : Array Slot), wp_L_areAlike_53 P n53 S T a2 a3 → HP D cy b0 NALL S H → Fx S → HP D cy (b0 + 367) NALL T H → Fx T → va_S (AB b0) s.heap H locs → lv_has ls 5 [(0, .ref (b0 + 0)), (1, .ref (b0 + 367 + 0)), (2, .int (b2i a2)), (3, .int a3)] → W p l e rm_L_areAlike s m args below meth c H locs kk (0 + 6 * kk) (MQ below (QC2 (Pz2 P) D cy b0) args s 271 1626 (AB b0)) (F0 m 53 ls []) := by
    intro n53
    induction n53 with
    | zero => intro kk hc9 S T a2 a3 H locs ls hw _ _ _ _ _ _ ; exact False.elim hw
    | succ n53 ih53 =>
      have j110 : ∀ kk : Nat, kk + (1 + 18 * n53) ≤ 271 → ∀ (S T : St) (a2 : Bool) (a3 : Int32), ∀ (H : Heap) (locs : List Loc) (ls : Array Slot), wp_L_areAlike_110 P (fun S T a2 a3 => wp_L_areAlike_53 P n53 S T a2 a3) S T a2 a3 → HP D cy b0 NALL S H → Fx S → HP D cy (b0 + 367) NALL T H → Fx T → va_S (AB b0) s.heap H locs → lv_has ls 5 [(0, .ref (b0 + 0)), (1, .ref (b0 + 367 + 0)), (2, .int (b2i a2)), (3, .int a3)] → W p l e rm_L_areAlike s m args below meth c H locs kk (0 + 6 * kk) (MQ below (QC2 (Pz2 P) D cy b0) args s 271 1626 (AB b0)) (F0 m 110 ls []) := by
        intro kk hc9 S T a2 a3 H locs ls hw hP hF hP2 hF2 hS hl
        unfold wp_L_areAlike_110 at hw
        obtain ⟨y110, e110⟩ : ∃ z : Int32, z = a3 + 1 := ⟨_, rfl⟩
        have hw := hw y110 e110
        refine lv_iinc (v := y110) (lv' := [(3, .int y110), (0, .ref (b0 + 0)), (1, .ref (b0 + 367 + 0)), (2, .int (b2i a2))]) hx hb dL_areAlike_110 hl (k := 3) rfl (by rw [e110]; rfl) (by decide) rfl (fun ls hl => ?_)
        refine lv_goto (tgt := 53) hx hb dL_areAlike_113 (by decide) ?_
        refine W.widen (k := kk + 0) (n := 0 + 6 * (kk + 0)) (by omega) (by omega) ?_
        exact ih53 (kk + 0) (by omega) S T a2 y110 _ _ _ hw hP hF hP2 hF2 hS (lv_sub hl [1, 2, 3, 0] rfl)
      have j66 : ∀ (n66 : Nat), ∀ kk : Nat, kk + (1 + 2 * n66 + 18 * n53) ≤ 271 → ∀ (S T : St) (a2 : Bool) (a3 : Int32) (a4 : Int32), ∀ (H : Heap) (locs : List Loc) (ls : Array Slot), wp_L_areAlike_66 P (fun S T a2 a3 => wp_L_areAlike_53 P n53 S T a2 a3) n66 S T a2 a3 a4 → HP D cy b0 NALL S H → Fx S → HP D cy (b0 + 367) NALL T H → Fx T → va_S (AB b0) s.heap H locs → lv_has ls 5 [(0, .ref (b0 + 0)), (1, .ref (b0 + 367 + 0)), (2, .int (b2i a2)), (3, .int a3), (4, .int a4)] → W p l e rm_L_areAlike s m args below meth c H locs kk (0 + 6 * kk) (MQ below (QC2 (Pz2 P) D cy b0) args s 271 1626 (AB b0)) (F0 m 66 ls []) := by
        intro n66
        induction n66 with
        | zero => intro kk hc9 S T a2 a3 a4 H locs ls hw _ _ _ _ _ _ ; exact False.elim hw
        | succ n66 ih66 =>
          have j103 : ∀ kk : Nat, kk + (1 + 18 * n53 + 2 * n66) ≤ 271 → ∀ (S T : St) (a3 : Int32) (a4 : Int32) (t0 : Bool), ∀ (H : Heap) (locs : List Loc) (ls : Array Slot), wp_L_areAlike_103 P (fun S T a2 a3 => wp_L_areAlike_53 P n53 S T a2 a3) (fun S T a2 a3 a4 => wp_L_areAlike_66 P (fun S T a2 a3 => wp_L_areAlike_53 P n53 S T a2 a3) n66 S T a2 a3 a4) S T a3 a4 t0 → HP D cy b0 NALL S H → Fx S → HP D cy (b0 + 367) NALL T H → Fx T → va_S (AB b0) s.heap H locs → lv_has ls 5 [(0, .ref (b0 + 0)), (1, .ref (b0 + 367 + 0)), (3, .int a3), (4, .int a4)] → W p l e rm_L_areAlike s m args below meth c H locs kk (0 + 6 * kk) (MQ below (QC2 (Pz2 P) D cy b0) args s 271 1626 (AB b0)) (F0 m 103 ls [.int (b2i t0)]) := by
            intro kk hc9 S T a3 a4 t0 H locs ls hw hP hF hP2 hF2 hS hl
            unfold wp_L_areAlike_103 at hw
            refine lv_istore_n (lv' := [(2, .int (b2i t0)), (0, .ref (b0 + 0)), (1, .ref (b0 + 367 + 0)), (3, .int a3), (4, .int a4)]) hx hb dL_areAlike_103 rfl hl (by decide) rfl (fun ls hl => ?_)
            obtain ⟨y104, e104⟩ : ∃ z : Int32, z = a4 + 1 := ⟨_, rfl⟩
            have hw := hw y104 e104
            refine lv_iinc (v := y104) (lv' := [(4, .int y104), (2, .int (b2i t0)), (0, .ref (b0 + 0)), (1, .ref (b0 + 367 + 0)), (3, .int a3)]) hx hb dL_areAlike_104 hl (k := 4) rfl (by rw [e104]; rfl) (by decide) rfl (fun ls hl => ?_)
            refine lv_goto (tgt := 66) hx hb dL_areAlike_107 (by decide) ?_
            refine W.widen (k := kk + 0) (n := 0 + 6 * (kk + 0)) (by omega) (by omega) ?_
            exact ih66 (kk + 0) (by omega) S T t0 a3 y104 _ _ _ hw hP hF hP2 hF2 hS (lv_sub hl [2, 3, 1, 4, 0] rfl)
          intro kk hc9 S T a2 a3 a4 H locs ls hw hP hF hP2 hF2 hS hl
          rw [wp_L_areAlike_66] at hw
          refine lv_iload hx hb dL_areAlike_66 (lv_at hl 4 rfl) ?_
          refine lv_bipush (v := 8) hx hb dL_areAlike_68 (by decide) ?_
          refine lv_icmp_ge (x := a4) (y := 8) (tgt := 110) hx hb dL_areAlike_70 (by decide) (fun c70 => ?_) (fun c70 => ?_)
          · rw [if_pos c70] at hw
            refine W.widen (k := kk + 0) (n := 0 + 6 * (kk + 0)) (by omega) (by omega) ?_
            exact j110 (kk + 0) (by omega) S T a2 a3 _ _ _ hw hP hF hP2 hF2 hS (lv_sub hl [0, 1, 2, 3] rfl)
          · rw [if_neg c70] at hw
            refine lv_iload_n hx hb dL_areAlike_73 rfl (lv_at hl 2 rfl) ?_
            refine lv_if_eq (x := b2i a2) (tgt := 110) hx hb dL_areAlike_74 (by decide) (fun c74 => ?_) (fun c74 => ?_)
            · have c74 := b2i_z c74
              rw [if_neg c74] at hw
              refine W.widen (k := kk + 0) (n := 0 + 6 * (kk + 0)) (by omega) (by omega) ?_
              exact j110 (kk + 0) (by omega) S T a2 a3 _ _ _ hw hP hF hP2 hF2 hS (lv_sub hl [0, 1, 2, 3] rfl)
            · have c74 := b2i_n c74
              rw [if_pos c74] at hw
              refine lv_aload_n hx hb dL_areAlike_77 rfl (lv_at hl 0 rfl) ?_
              refine lv_iconst (v := 2) hx hb dL_areAlike_78 (by decide) ?_
              refine lv_iload_n hx hb dL_areAlike_79 rfl (lv_at hl 3 rfl) ?_
              refine lv_iload hx hb dL_areAlike_80 (lv_at hl 4 rfl) ?_
              refine lv_iconst (v := 0) hx hb dL_areAlike_82 (by decide) ?_
              refine q_call1 (vx_runSW (As := [.ref (b0 + 0), .int 2, .int a3, .int a4, .int 0]) (rest := []) ⟨hx, hb, hml, hown, hts⟩ (c_L_looks l hlt D cy b0 S 2 a3 a4 0 _ hw) (vx_cwSW 5 hts gL_areAlike_L_looks rfl rfl rfl (by decide +kernel) ⟨(Nat.le_of_ble_eq_true rfl), (Nat.le_of_ble_eq_true rfl)⟩) (q_pS1 hW AA_o hP hF hS [.ref (b0 + 0), .int 2, .int a3, .int a4, .int 0]) rfl rfl hl.1 rfl (lv_room (Nat.le_of_ble_eq_true rfl)) dL_areAlike_83 ⟨by show _ ≤ 271; omega, by show _ ≤ 1626; omega⟩) hS AA_o (fun v83 S83 t83 H locs hh hp hB hk9 hS => ?_)
              obtain ⟨r83, rfl, hw⟩ := hp
              have hP : HP D cy b0 NALL S83 H := by rw [← hh]; exact hB.1
              have hF := hB.2
              have hP2 := hP2.far hk9 far_p
              try dsimp only at hw
              refine W.eq (g2 := F0 m 86 ls [.int r83]) rfl ?_
              refine lv_aload_n hx hb dL_areAlike_86 rfl (lv_at hl 1 rfl) ?_
              refine lv_iconst (v := 2) hx hb dL_areAlike_87 (by decide) ?_
              refine lv_iload_n hx hb dL_areAlike_88 rfl (lv_at hl 3 rfl) ?_
              refine lv_iload hx hb dL_areAlike_89 (lv_at hl 4 rfl) ?_
              refine lv_iconst (v := 0) hx hb dL_areAlike_91 (by decide) ?_
              refine q_call1 (vx_runSW (As := [.ref (b0 + 367 + 0), .int 2, .int a3, .int a4, .int 0]) (rest := [.int r83]) ⟨hx, hb, hml, hown, hts⟩ (c_L_looks l hlt D cy (b0 + 367) T 2 a3 a4 0 _ hw) (vx_cwSW 5 hts gL_areAlike_L_looks rfl rfl rfl (by decide +kernel) ⟨(Nat.le_of_ble_eq_true rfl), (Nat.le_of_ble_eq_true rfl)⟩) (q_pS1 hW AA_p hP2 hF2 hS [.ref (b0 + 367 + 0), .int 2, .int a3, .int a4, .int 0]) rfl rfl hl.1 rfl (lv_room (Nat.le_of_ble_eq_true rfl)) dL_areAlike_92 ⟨by show _ ≤ 271; omega, by show _ ≤ 1626; omega⟩) hS AA_p (fun v92 T92 t92 H locs hh hp hB hk9 hS => ?_)
              obtain ⟨r92, rfl, hw⟩ := hp
              have hP2 : HP D cy (b0 + 367) NALL T92 H := by rw [← hh]; exact hB.1
              have hF2 := hB.2
              have hP := hP.far hk9 far_o
              try dsimp only at hw
              refine W.eq (g2 := F0 m 95 ls [.int r92, .int r83]) rfl ?_
              refine lv_icmp_ne (x := r83) (y := r92) (tgt := 102) hx hb dL_areAlike_95 (by decide) (fun c95 => ?_) (fun c95 => ?_)
              · rw [if_neg c95] at hw
                refine lv_iconst (v := 0) hx hb dL_areAlike_102 (by decide) ?_
                refine W.widen (k := kk + 2) (n := 0 + 6 * (kk + 2)) (by omega) (by omega) ?_
                exact j103 (kk + 2) (by omega) S83 T92 a3 a4 false _ _ _ hw hP hF hP2 hF2 hS (lv_sub hl [0, 1, 3, 4] rfl)
              · rw [if_pos c95] at hw
                refine lv_iconst (v := 1) hx hb dL_areAlike_98 (by decide) ?_
                refine lv_goto (tgt := 103) hx hb dL_areAlike_99 (by decide) ?_
                refine W.widen (k := kk + 2) (n := 0 + 6 * (kk + 2)) (by omega) (by omega) ?_
                exact j103 (kk + 2) (by omega) S83 T92 a3 a4 true _ _ _ hw hP hF hP2 hF2 hS (lv_sub hl [0, 1, 3, 4] rfl)
      intro kk hc9 S T a2 a3 H locs ls hw hP hF hP2 hF2 hS hl
      rw [wp_L_areAlike_53] at hw
      refine lv_iload_n hx hb dL_areAlike_53 rfl (lv_at hl 3 rfl) ?_
      refine lv_bipush (v := 14) hx hb dL_areAlike_54 (by decide) ?_
      refine lv_icmp_ge (x := a3) (y := 14) (tgt := 116) hx hb dL_areAlike_56 (by decide) (fun c56 => ?_) (fun c56 => ?_)
      · rw [if_pos c56] at hw
        refine W.widen (k := kk + 0) (n := 0 + 6 * (kk + 0)) (by omega) (by omega) ?_
        exact j116 (kk + 0) (by omega) S T a2 _ _ _ hw hP hF hP2 hF2 hS (lv_sub hl [0, 1, 2] rfl)
      · rw [if_neg c56] at hw
        refine lv_iload_n hx hb dL_areAlike_59 rfl (lv_at hl 2 rfl) ?_
        refine lv_if_eq (x := b2i a2) (tgt := 116) hx hb dL_areAlike_60 (by decide) (fun c60 => ?_) (fun c60 => ?_)
        · have c60 := b2i_z c60
          rw [if_neg c60] at hw
          refine W.widen (k := kk + 0) (n := 0 + 6 * (kk + 0)) (by omega) (by omega) ?_
          exact j116 (kk + 0) (by omega) S T a2 _ _ _ hw hP hF hP2 hF2 hS (lv_sub hl [0, 1, 2] rfl)
        · have c60 := b2i_n c60
          rw [if_pos c60] at hw
          refine lv_iconst (v := 0) hx hb dL_areAlike_63 (by decide) ?_
          refine lv_istore (lv' := [(4, .int 0), (0, .ref (b0 + 0)), (1, .ref (b0 + 367 + 0)), (2, .int (b2i a2)), (3, .int a3)]) hx hb dL_areAlike_64 hl (by decide) rfl (fun ls hl => ?_)
          obtain ⟨n66, hn66, hw⟩ := hw
          refine W.widen (k := kk + 0) (n := 0 + 6 * (kk + 0)) (by omega) (by omega) ?_
          exact j66 n66 (kk + 0) (by omega) S T a2 a3 0 _ _ _ hw hP hF hP2 hF2 hS (lv_sub hl [1, 2, 3, 4, 0] rfl)
  have j50 : ∀ kk : Nat, kk + (271) ≤ 271 → ∀ (S T : St) (t0 : Bool), ∀ (H : Heap) (locs : List Loc) (ls : Array Slot), wp_L_areAlike_50 P S T t0 → HP D cy b0 NALL S H → Fx S → HP D cy (b0 + 367) NALL T H → Fx T → va_S (AB b0) s.heap H locs → lv_has ls 5 [(0, .ref (b0 + 0)), (1, .ref (b0 + 367 + 0))] → W p l e rm_L_areAlike s m args below meth c H locs kk (0 + 6 * kk) (MQ below (QC2 (Pz2 P) D cy b0) args s 271 1626 (AB b0)) (F0 m 50 ls [.int (b2i t0)]) := by
    intro kk hc9 S T t0 H locs ls hw hP hF hP2 hF2 hS hl
    unfold wp_L_areAlike_50 at hw
    refine lv_istore_n (lv' := [(2, .int (b2i t0)), (0, .ref (b0 + 0)), (1, .ref (b0 + 367 + 0))]) hx hb dL_areAlike_50 rfl hl (by decide) rfl (fun ls hl => ?_)
    refine lv_iconst (v := 0) hx hb dL_areAlike_51 (by decide) ?_
    refine lv_istore_n (lv' := [(3, .int 0), (2, .int (b2i t0)), (0, .ref (b0 + 0)), (1, .ref (b0 + 367 + 0))]) hx hb dL_areAlike_52 rfl hl (by decide) rfl (fun ls hl => ?_)
    obtain ⟨n53, hn53, hw⟩ := hw
    refine W.widen (k := kk + 0) (n := 0 + 6 * (kk + 0)) (by omega) (by omega) ?_
    exact j53 n53 (kk + 0) (by omega) S T t0 0 _ _ _ hw hP hF hP2 hF2 hS (lv_sub hl [2, 3, 1, 0] rfl)
  have j49 : ∀ kk : Nat, kk + (271) ≤ 271 → ∀ (S T : St) , ∀ (H : Heap) (locs : List Loc) (ls : Array Slot), wp_L_areAlike_49 P S T → HP D cy b0 NALL S H → Fx S → HP D cy (b0 + 367) NALL T H → Fx T → va_S (AB b0) s.heap H locs → lv_has ls 5 [(0, .ref (b0 + 0)), (1, .ref (b0 + 367 + 0))] → W p l e rm_L_areAlike s m args below meth c H locs kk (0 + 6 * kk) (MQ below (QC2 (Pz2 P) D cy b0) args s 271 1626 (AB b0)) (F0 m 49 ls []) := by
    intro kk hc9 S T H locs ls hw hP hF hP2 hF2 hS hl
    unfold wp_L_areAlike_49 at hw
    refine lv_iconst (v := 0) hx hb dL_areAlike_49 (by decide) ?_
    refine W.widen (k := kk + 0) (n := 0 + 6 * (kk + 0)) (by omega) (by omega) ?_
    exact j50 (kk + 0) (by omega) S T false _ _ _ hw hP hF hP2 hF2 hS (lv_sub hl [0, 1] rfl)
  unfold wp_L_areAlike at hw
  refine lv_aload_n hx hb dL_areAlike_0 rfl (lv_at hl 0 rfl) ?_
  refine q_call1 (va_runV (As := []) (rest := []) ⟨hx, hb, hml, hown, hts⟩ (c_X5_load l D cy b0 S _ hw) (cwV 0 hts gL_areAlike_X5_load rfl rfl rfl (by decide +kernel) ⟨(Nat.le_of_ble_eq_true rfl), (Nat.le_of_ble_eq_true rfl)⟩) (q_pV1 hW AA_o hP hF hS []) rfl rfl hl.1 rfl (lv_room (Nat.le_of_ble_eq_true rfl)) dL_areAlike_1 ⟨by show _ ≤ 271; omega, by show _ ≤ 1626; omega⟩) hS AA_o (fun v1 S1 t1 H locs hh hp hB hk9 hS => ?_)
  obtain ⟨r1, rfl, hw⟩ := hp
  have hP : HP D cy b0 NALL S1 H := by rw [← hh]; exact hB.1
  have hF := hB.2
  have hP2 := hP2.far hk9 far_p
  try dsimp only at hw
  refine W.eq (g2 := F0 m 4 ls [.int r1]) rfl ?_
  refine lv_aload_n hx hb dL_areAlike_4 rfl (lv_at hl 1 rfl) ?_
  refine q_call1 (va_runV (As := []) (rest := [.int r1]) ⟨hx, hb, hml, hown, hts⟩ (c_X5_load l D cy (b0 + 367) T _ hw) (cwV 0 hts gL_areAlike_X5_load rfl rfl rfl (by decide +kernel) ⟨(Nat.le_of_ble_eq_true rfl), (Nat.le_of_ble_eq_true rfl)⟩) (q_pV1 hW AA_p hP2 hF2 hS []) rfl rfl hl.1 rfl (lv_room (Nat.le_of_ble_eq_true rfl)) dL_areAlike_5 ⟨by show _ ≤ 271; omega, by show _ ≤ 1626; omega⟩) hS AA_p (fun v5 T5 t5 H locs hh hp hB hk9 hS => ?_)
  obtain ⟨r5, rfl, hw⟩ := hp
  have hP2 : HP D cy (b0 + 367) NALL T5 H := by rw [← hh]; exact hB.1
  have hF2 := hB.2
  have hP := hP.far hk9 far_o
  try dsimp only at hw
  refine W.eq (g2 := F0 m 8 ls [.int r5, .int r1]) rfl ?_
  refine lv_icmp_ne (x := r1) (y := r5) (tgt := 49) hx hb dL_areAlike_8 (by decide) (fun c8 => ?_) (fun c8 => ?_)
  · rw [if_neg c8] at hw
    refine W.widen (k := 0 + 0) (n := 0 + 6 * (0 + 0)) (by omega) (by omega) ?_
    exact j49 (0 + 0) (by omega) S1 T5 _ _ _ hw hP hF hP2 hF2 hS (lv_sub hl [0, 1] rfl)
  · rw [if_pos c8] at hw
    refine lv_aload_n hx hb dL_areAlike_11 rfl (lv_at hl 0 rfl) ?_
    refine q_call1 (va_runV (As := []) (rest := []) ⟨hx, hb, hml, hown, hts⟩ (c_X5_requests l D cy b0 S1 _ hw) (cwV 0 hts gL_areAlike_X5_requests rfl rfl rfl (by decide +kernel) ⟨(Nat.le_of_ble_eq_true rfl), (Nat.le_of_ble_eq_true rfl)⟩) (q_pV1 hW AA_o hP hF hS []) rfl rfl hl.1 rfl (lv_room (Nat.le_of_ble_eq_true rfl)) dL_areAlike_12 ⟨by show _ ≤ 271; omega, by show _ ≤ 1626; omega⟩) hS AA_o (fun v12 S12 t12 H locs hh hp hB hk9 hS => ?_)
    obtain ⟨r12, rfl, hw⟩ := hp
    have hP : HP D cy b0 NALL S12 H := by rw [← hh]; exact hB.1
    have hF := hB.2
    have hP2 := hP2.far hk9 far_p
    try dsimp only at hw
    refine W.eq (g2 := F0 m 15 ls [.int r12]) rfl ?_
    refine lv_aload_n hx hb dL_areAlike_15 rfl (lv_at hl 1 rfl) ?_
    refine q_call1 (va_runV (As := []) (rest := [.int r12]) ⟨hx, hb, hml, hown, hts⟩ (c_X5_requests l D cy (b0 + 367) T5 _ hw) (cwV 0 hts gL_areAlike_X5_requests rfl rfl rfl (by decide +kernel) ⟨(Nat.le_of_ble_eq_true rfl), (Nat.le_of_ble_eq_true rfl)⟩) (q_pV1 hW AA_p hP2 hF2 hS []) rfl rfl hl.1 rfl (lv_room (Nat.le_of_ble_eq_true rfl)) dL_areAlike_16 ⟨by show _ ≤ 271; omega, by show _ ≤ 1626; omega⟩) hS AA_p (fun v16 T16 t16 H locs hh hp hB hk9 hS => ?_)
    obtain ⟨r16, rfl, hw⟩ := hp
    have hP2 : HP D cy (b0 + 367) NALL T16 H := by rw [← hh]; exact hB.1
    have hF2 := hB.2
    have hP := hP.far hk9 far_o
    try dsimp only at hw
    refine W.eq (g2 := F0 m 19 ls [.int r16, .int r12]) rfl ?_
    refine lv_icmp_ne (x := r12) (y := r16) (tgt := 49) hx hb dL_areAlike_19 (by decide) (fun c19 => ?_) (fun c19 => ?_)
    · rw [if_neg c19] at hw
      refine W.widen (k := 0 + 0) (n := 0 + 6 * (0 + 0)) (by omega) (by omega) ?_
      exact j49 (0 + 0) (by omega) S12 T16 _ _ _ hw hP hF hP2 hF2 hS (lv_sub hl [0, 1] rfl)
    · rw [if_pos c19] at hw
      refine lv_aload_n hx hb dL_areAlike_22 rfl (lv_at hl 0 rfl) ?_
      refine q_call1 (va_runV (As := []) (rest := []) ⟨hx, hb, hml, hown, hts⟩ (c_X5_lights l D cy b0 S12 _ hw) (cwV 0 hts gL_areAlike_X5_lights rfl rfl rfl (by decide +kernel) ⟨(Nat.le_of_ble_eq_true rfl), (Nat.le_of_ble_eq_true rfl)⟩) (q_pV1 hW AA_o hP hF hS []) rfl rfl hl.1 rfl (lv_room (Nat.le_of_ble_eq_true rfl)) dL_areAlike_23 ⟨by show _ ≤ 271; omega, by show _ ≤ 1626; omega⟩) hS AA_o (fun v23 S23 t23 H locs hh hp hB hk9 hS => ?_)
      obtain ⟨r23, rfl, hw⟩ := hp
      have hP : HP D cy b0 NALL S23 H := by rw [← hh]; exact hB.1
      have hF := hB.2
      have hP2 := hP2.far hk9 far_p
      try dsimp only at hw
      refine W.eq (g2 := F0 m 26 ls [.int r23]) rfl ?_
      refine lv_aload_n hx hb dL_areAlike_26 rfl (lv_at hl 1 rfl) ?_
      refine q_call1 (va_runV (As := []) (rest := [.int r23]) ⟨hx, hb, hml, hown, hts⟩ (c_X5_lights l D cy (b0 + 367) T16 _ hw) (cwV 0 hts gL_areAlike_X5_lights rfl rfl rfl (by decide +kernel) ⟨(Nat.le_of_ble_eq_true rfl), (Nat.le_of_ble_eq_true rfl)⟩) (q_pV1 hW AA_p hP2 hF2 hS []) rfl rfl hl.1 rfl (lv_room (Nat.le_of_ble_eq_true rfl)) dL_areAlike_27 ⟨by show _ ≤ 271; omega, by show _ ≤ 1626; omega⟩) hS AA_p (fun v27 T27 t27 H locs hh hp hB hk9 hS => ?_)
      obtain ⟨r27, rfl, hw⟩ := hp
      have hP2 : HP D cy (b0 + 367) NALL T27 H := by rw [← hh]; exact hB.1
      have hF2 := hB.2
      have hP := hP.far hk9 far_o
      try dsimp only at hw
      refine W.eq (g2 := F0 m 30 ls [.int r27, .int r23]) rfl ?_
      refine lv_icmp_ne (x := r23) (y := r27) (tgt := 49) hx hb dL_areAlike_30 (by decide) (fun c30 => ?_) (fun c30 => ?_)
      · rw [if_neg c30] at hw
        refine W.widen (k := 0 + 0) (n := 0 + 6 * (0 + 0)) (by omega) (by omega) ?_
        exact j49 (0 + 0) (by omega) S23 T27 _ _ _ hw hP hF hP2 hF2 hS (lv_sub hl [0, 1] rfl)
      · rw [if_pos c30] at hw
        refine lv_aload_n hx hb dL_areAlike_33 rfl (lv_at hl 0 rfl) ?_
        refine q_callN (vx_runV (As := []) (rest := []) ⟨hx, hb, hml, hown, hts⟩ (c_X5_usage l hlt D cy b0 S23 _ _ hw) (cwV 0 hts gL_areAlike_X5_usage rfl rfl rfl (by decide +kernel) ⟨(Nat.le_of_ble_eq_true rfl), (Nat.le_of_ble_eq_true rfl)⟩) (q_pV1 hW AA_o hP hF hS []) rfl rfl hl.1 rfl (lv_room (Nat.le_of_ble_eq_true rfl)) dL_areAlike_34 ⟨by show _ ≤ 271; omega, by show _ ≤ 1626; omega⟩) hS AA_o (fun v34 S34 t34 H locs hh hp hB hk9 hS => ?_)
        obtain ⟨r34, rfl, hw⟩ := hp
        have hP : HP D cy b0 NALL S34 H := by rw [← hh]; exact hB.1
        have hF := hB.2
        have hP2 := hP2.far hk9 far_p
        try dsimp only at hw
        refine W.eq (g2 := F0 m 37 ls [.float r34]) rfl ?_
        refine lv_aload_n hx hb dL_areAlike_37 rfl (lv_at hl 1 rfl) ?_
        refine q_callN (vx_runV (As := []) (rest := [.float r34]) ⟨hx, hb, hml, hown, hts⟩ (c_X5_usage l hlt D cy (b0 + 367) T27 _ _ hw) (cwV 0 hts gL_areAlike_X5_usage rfl rfl rfl (by decide +kernel) ⟨(Nat.le_of_ble_eq_true rfl), (Nat.le_of_ble_eq_true rfl)⟩) (q_pV1 hW AA_p hP2 hF2 hS []) rfl rfl hl.1 rfl (lv_room (Nat.le_of_ble_eq_true rfl)) dL_areAlike_38 ⟨by show _ ≤ 271; omega, by show _ ≤ 1626; omega⟩) hS AA_p (fun v38 T38 t38 H locs hh hp hB hk9 hS => ?_)
        obtain ⟨r38, rfl, hw⟩ := hp
        have hP2 : HP D cy (b0 + 367) NALL T38 H := by rw [← hh]; exact hB.1
        have hF2 := hB.2
        have hP := hP.far hk9 far_o
        try dsimp only at hw
        refine W.eq (g2 := F0 m 41 ls [.float r38, .float r34]) rfl ?_
        refine lv_fcmp hx hb dL_areAlike_41 ?_
        refine lv_if_ne (x := (Op.cmpValue (FP.fcmp r34 r38) .l)) (tgt := 49) hx hb dL_areAlike_42 (by decide) (fun c42 => ?_) (fun c42 => ?_)
        · rw [if_neg c42] at hw
          refine W.widen (k := 0 + 0) (n := 0 + 6 * (0 + 0)) (by omega) (by omega) ?_
          exact j49 (0 + 0) (by omega) S34 T38 _ _ _ hw hP hF hP2 hF2 hS (lv_sub hl [0, 1] rfl)
        · rw [if_pos c42] at hw
          refine lv_iconst (v := 1) hx hb dL_areAlike_45 (by decide) ?_
          refine lv_goto (tgt := 50) hx hb dL_areAlike_46 (by decide) ?_
          refine W.widen (k := 0 + 0) (n := 0 + 6 * (0 + 0)) (by omega) (by omega) ?_
          exact j50 (0 + 0) (by omega) S34 T38 true _ _ _ hw hP hF hP2 hF2 hS (lv_sub hl [0, 1] rfl)
set_option maxHeartbeats 4000000 in
set_option maxRecDepth 100000 in
theorem c_L_isReroutedSo (l : Launch) (hlt : l.stackTraces = false) (D : va_G) (cy : Nat → ClassId) (b0 : Nat) (S T : St) (x3 : Int32) (P : Bool → St → St → Prop) (hw : wp_L_isReroutedSo S T x3 P) : Met l yL_isReroutedSo wsL_isReroutedSo rm_L_isReroutedSo (va_Pc [.ref (b0 + 0), .ref (b0 + 367 + 0), .int x3] (Wd2 D cy b0 S T)) (QC2 (Pz2 P) D cy b0) 5 30 (AB b0) := by
  refine Met.ofW (cc := cL_isReroutedSo) (maxL := 7) (ret := (some .boolean)) (by decide) rfl ?_
  intro p e s m args below meth c s₁ B hml hv
  obtain ⟨hargs, hW, hP, hF, hP2, hF2⟩ := hv
  have hx := B.exec
  have hb := B.bytes
  have hr := B.returns
  have hts := atoms_spec (ws := wsL_isReroutedSo) B.pre
  have hown : s.vm.findClass RL = some m.cls := findClass_of_methodNamed B.named
  have hlocks := B.notSynchronized
  have hK := hW.1
  have hS : va_S (AB b0) s.heap s.heap [] := va_S.rf
  have hE : entryFrame m args 7 = F0 m 0 ((lg_sl [.ref (b0 + 0), .ref (b0 + 367 + 0), .int x3] ++ List.replicate (7 - (lg_sl [.ref (b0 + 0), .ref (b0 + 367 + 0), .int x3]).length) Slot.unset).toArray) [] := by rw [hargs]; exact lg_entry_eq m _ _
  rw [hE]
  have hl := lv_entry [.ref (b0 + 0), .ref (b0 + 367 + 0), .int x3] (n := 7) (Nat.le_of_ble_eq_true rfl)
  generalize (lg_sl [.ref (b0 + 0), .ref (b0 + 367 + 0), .int x3] ++ List.replicate (7 - (lg_sl [.ref (b0 + 0), .ref (b0 + 367 + 0), .int x3]).length) Slot.unset).toArray = ls at hl ⊢
  have hl : lv_has ls 7 [(0, .ref (b0 + 0)), (1, .ref (b0 + 367 + 0)), (2, .int x3)] := hl
  have j99 : ∀ kk : Nat, kk + (2) ≤ 5 → ∀ (S T : St) (a3 : Int32) (t0 : Bool), ∀ (H : Heap) (locs : List Loc) (ls : Array Slot), wp_L_isReroutedSo_99 x3 P S T a3 t0 → HP D cy b0 NALL S H → Fx S → HP D cy (b0 + 367) NALL T H → Fx T → va_S (AB b0) s.heap H locs → lv_has ls 7 [(1, .ref (b0 + 367 + 0)), (2, .int x3), (3, .int a3)] → W p l e rm_L_isReroutedSo s m args below meth c H locs kk (0 + 6 * kk) (MQ below (QC2 (Pz2 P) D cy b0) args s 5 30 (AB b0)) (F0 m 99 ls [.int (b2i t0)]) := by
    intro kk hc9 S T a3 t0 H locs ls hw hP hF hP2 hF2 hS hl
    unfold wp_L_isReroutedSo_99 at hw
    refine lv_istore (lv' := [(4, .int (b2i t0)), (1, .ref (b0 + 367 + 0)), (2, .int x3), (3, .int a3)]) hx hb dL_isReroutedSo_99 hl (by decide) rfl (fun ls hl => ?_)
    refine lv_iload hx hb dL_isReroutedSo_101 (lv_at hl 0 rfl) ?_
    refine lv_if_eq (x := b2i t0) (tgt := 120) hx hb dL_isReroutedSo_103 (by decide) (fun c103 => ?_) (fun c103 => ?_)
    · have c103 := b2i_z c103
      rw [if_neg c103] at hw
      refine lv_iconst (v := 0) hx hb dL_isReroutedSo_120 (by decide) ?_
      refine W.widen (k := 5) (n := 30) (by omega) (by omega) ?_
      exact q_zret2 (v := false) hx hb hr hP hF hP2 hF2 hS hw dL_isReroutedSo_121 hlocks
    · have c103 := b2i_n c103
      rw [if_pos c103] at hw
      refine lv_aload_n hx hb dL_isReroutedSo_106 rfl (lv_at hl 1 rfl) ?_
      refine lv_iconst (v := 4) hx hb dL_isReroutedSo_107 (by decide) ?_
      refine lv_iload_n hx hb dL_isReroutedSo_108 rfl (lv_at hl 2 rfl) ?_
      refine q_call1 (vx_runSW (As := [.ref (b0 + 367 + 0), .int 4, .int x3]) (rest := []) ⟨hx, hb, hml, hown, hts⟩ (c_L_does l hlt D cy (b0 + 367) T 4 x3 _ hw) (vx_cwSW 3 hts gL_isReroutedSo_L_does rfl rfl rfl (by decide +kernel) ⟨(Nat.le_of_ble_eq_true rfl), (Nat.le_of_ble_eq_true rfl)⟩) (q_pS1 hW AA_p hP2 hF2 hS [.ref (b0 + 367 + 0), .int 4, .int x3]) rfl rfl hl.1 rfl (lv_room (Nat.le_of_ble_eq_true rfl)) dL_isReroutedSo_109 ⟨by show _ ≤ 5; omega, by show _ ≤ 30; omega⟩) hS AA_p (fun v109 T109 t109 H locs hh hp hB hk9 hS => ?_)
      obtain ⟨r109, rfl, hw⟩ := hp
      have hP2 : HP D cy (b0 + 367) NALL T109 H := by rw [← hh]; exact hB.1
      have hF2 := hB.2
      have hP := hP.far hk9 far_o
      try dsimp only at hw
      refine W.eq (g2 := F0 m 112 ls [.int r109]) rfl ?_
      refine lv_iload_n hx hb dL_isReroutedSo_112 rfl (lv_at hl 3 rfl) ?_
      refine lv_icmp_ne (x := r109) (y := a3) (tgt := 120) hx hb dL_isReroutedSo_113 (by decide) (fun c113 => ?_) (fun c113 => ?_)
      · rw [if_neg c113] at hw
        refine lv_iconst (v := 0) hx hb dL_isReroutedSo_120 (by decide) ?_
        refine W.widen (k := 5) (n := 30) (by omega) (by omega) ?_
        exact q_zret2 (v := false) hx hb hr hP hF hP2 hF2 hS hw dL_isReroutedSo_121 hlocks
      · rw [if_pos c113] at hw
        refine lv_iconst (v := 1) hx hb dL_isReroutedSo_116 (by decide) ?_
        refine lv_goto (tgt := 121) hx hb dL_isReroutedSo_117 (by decide) ?_
        refine W.widen (k := 5) (n := 30) (by omega) (by omega) ?_
        exact q_zret2 (v := true) hx hb hr hP hF hP2 hF2 hS hw dL_isReroutedSo_121 hlocks
  have j98 : ∀ kk : Nat, kk + (2) ≤ 5 → ∀ (S T : St) (a3 : Int32), ∀ (H : Heap) (locs : List Loc) (ls : Array Slot), wp_L_isReroutedSo_98 x3 P S T a3 → HP D cy b0 NALL S H → Fx S → HP D cy (b0 + 367) NALL T H → Fx T → va_S (AB b0) s.heap H locs → lv_has ls 7 [(1, .ref (b0 + 367 + 0)), (2, .int x3), (3, .int a3)] → W p l e rm_L_isReroutedSo s m args below meth c H locs kk (0 + 6 * kk) (MQ below (QC2 (Pz2 P) D cy b0) args s 5 30 (AB b0)) (F0 m 98 ls []) := by
    intro kk hc9 S T a3 H locs ls hw hP hF hP2 hF2 hS hl
    unfold wp_L_isReroutedSo_98 at hw
    refine lv_iconst (v := 0) hx hb dL_isReroutedSo_98 (by decide) ?_
    refine W.widen (k := kk + 0) (n := 0 + 6 * (kk + 0)) (by omega) (by omega) ?_
    exact j99 (kk + 0) (by omega) S T a3 false _ _ _ hw hP hF hP2 hF2 hS (lv_sub hl [0, 1, 2] rfl)
  have j22 : ∀ kk : Nat, kk + (3) ≤ 5 → ∀ (S T : St) (a3 : Int32) (t0 : Bool), ∀ (H : Heap) (locs : List Loc) (ls : Array Slot), wp_L_isReroutedSo_22 x3 P S T a3 t0 → HP D cy b0 NALL S H → Fx S → HP D cy (b0 + 367) NALL T H → Fx T → va_S (AB b0) s.heap H locs → lv_has ls 7 [(0, .ref (b0 + 0)), (1, .ref (b0 + 367 + 0)), (2, .int x3), (3, .int a3)] → W p l e rm_L_isReroutedSo s m args below meth c H locs kk (0 + 6 * kk) (MQ below (QC2 (Pz2 P) D cy b0) args s 5 30 (AB b0)) (F0 m 22 ls [.int (b2i t0)]) := by
    intro kk hc9 S T a3 t0 H locs ls hw hP hF hP2 hF2 hS hl
    unfold wp_L_isReroutedSo_22 at hw
    refine lv_istore (lv' := [(4, .int (b2i t0)), (0, .ref (b0 + 0)), (1, .ref (b0 + 367 + 0)), (2, .int x3), (3, .int a3)]) hx hb dL_isReroutedSo_22 hl (by decide) rfl (fun ls hl => ?_)
    refine lv_iload_n hx hb dL_isReroutedSo_24 rfl (lv_at hl 4 rfl) ?_
    refine lv_if_ge (x := a3) (tgt := 31) hx hb dL_isReroutedSo_25 (by decide) (fun c25 => ?_) (fun c25 => ?_)
    · rw [if_pos c25] at hw
      refine lv_aload_n hx hb dL_isReroutedSo_31 rfl (lv_at hl 1 rfl) ?_
      refine lv_iload_n hx hb dL_isReroutedSo_32 rfl (lv_at hl 3 rfl) ?_
      refine lv_iconst (v := 0) hx hb dL_isReroutedSo_33 (by decide) ?_
      refine lv_iconst (v := 0) hx hb dL_isReroutedSo_34 (by decide) ?_
      refine q_callN (vx_runV (As := [.int x3, .int 0, .int 0]) (rest := []) ⟨hx, hb, hml, hown, hts⟩ (c_X5_channel l hlt D cy b0 S x3 0 0 _ _ hw) (cwV 3 hts gL_isReroutedSo_X5_channel rfl rfl rfl (by decide +kernel) ⟨(Nat.le_of_ble_eq_true rfl), (Nat.le_of_ble_eq_true rfl)⟩) (q_pV1 hW AA_o hP hF hS [.int x3, .int 0, .int 0]) rfl rfl hl.1 rfl (lv_room (Nat.le_of_ble_eq_true rfl)) dL_isReroutedSo_35 ⟨by show _ ≤ 5; omega, by show _ ≤ 30; omega⟩) hS AA_o (fun v35 S35 t35 H locs hh hp hB hk9 hS => ?_)
      obtain ⟨r35, rfl, hw⟩ := hp
      have hP : HP D cy b0 NALL S35 H := by rw [← hh]; exact hB.1
      have hF := hB.2
      have hP2 := hP2.far hk9 far_p
      try dsimp only at hw
      refine W.eq (g2 := F0 m 38 ls [.int r35]) rfl ?_
      refine lv_istore (lv' := [(5, .int r35), (4, .int (b2i t0)), (0, .ref (b0 + 0)), (1, .ref (b0 + 367 + 0)), (2, .int x3), (3, .int a3)]) hx hb dL_isReroutedSo_38 hl (by decide) rfl (fun ls hl => ?_)
      refine lv_aload_n hx hb dL_isReroutedSo_40 rfl (lv_at hl 2 rfl) ?_
      refine lv_iload_n hx hb dL_isReroutedSo_41 rfl (lv_at hl 4 rfl) ?_
      refine lv_iconst (v := 0) hx hb dL_isReroutedSo_42 (by decide) ?_
      refine q_callN (vx_runV (As := [.int x3, .int 0]) (rest := []) ⟨hx, hb, hml, hown, hts⟩ (c_X5_channels l hlt D cy b0 S35 x3 0 _ _ hw) (cwV 2 hts gL_isReroutedSo_X5_channels rfl rfl rfl (by decide +kernel) ⟨(Nat.le_of_ble_eq_true rfl), (Nat.le_of_ble_eq_true rfl)⟩) (q_pV1 hW AA_o hP hF hS [.int x3, .int 0]) rfl rfl hl.1 rfl (lv_room (Nat.le_of_ble_eq_true rfl)) dL_isReroutedSo_43 ⟨by show _ ≤ 5; omega, by show _ ≤ 30; omega⟩) hS AA_o (fun v43 S43 t43 H locs hh hp hB hk9 hS => ?_)
      obtain ⟨r43, rfl, hw⟩ := hp
      have hP : HP D cy b0 NALL S43 H := by rw [← hh]; exact hB.1
      have hF := hB.2
      have hP2 := hP2.far hk9 far_p
      try dsimp only at hw
      refine W.eq (g2 := F0 m 46 ls [.int r43]) rfl ?_
      refine lv_istore (lv' := [(6, .int r43), (5, .int r35), (4, .int (b2i t0)), (0, .ref (b0 + 0)), (1, .ref (b0 + 367 + 0)), (2, .int x3), (3, .int a3)]) hx hb dL_isReroutedSo_46 hl (by decide) rfl (fun ls hl => ?_)
      refine lv_iload hx hb dL_isReroutedSo_48 (lv_at hl 2 rfl) ?_
      refine lv_if_eq (x := b2i t0) (tgt := 98) hx hb dL_isReroutedSo_50 (by decide) (fun c50 => ?_) (fun c50 => ?_)
      · have c50 := b2i_z c50
        rw [if_neg c50] at hw
        refine W.widen (k := kk + 0) (n := 0 + 6 * (kk + 0)) (by omega) (by omega) ?_
        exact j98 (kk + 0) (by omega) S43 T a3 _ _ _ hw hP hF hP2 hF2 hS (lv_sub hl [4, 5, 6] rfl)
      · have c50 := b2i_n c50
        rw [if_pos c50] at hw
        refine lv_aload_n hx hb dL_isReroutedSo_53 rfl (lv_at hl 3 rfl) ?_
        refine lv_iload_n hx hb dL_isReroutedSo_54 rfl (lv_at hl 5 rfl) ?_
        refine q_callN (vx_runV (As := [.int x3]) (rest := []) ⟨hx, hb, hml, hown, hts⟩ (c_X5_state l hlt D cy b0 S43 x3 _ _ hw) (cwV 1 hts gL_isReroutedSo_X5_state rfl rfl rfl (by decide +kernel) ⟨(Nat.le_of_ble_eq_true rfl), (Nat.le_of_ble_eq_true rfl)⟩) (q_pV1 hW AA_o hP hF hS [.int x3]) rfl rfl hl.1 rfl (lv_room (Nat.le_of_ble_eq_true rfl)) dL_isReroutedSo_55 ⟨by show _ ≤ 5; omega, by show _ ≤ 30; omega⟩) hS AA_o (fun v55 S55 t55 H locs hh hp hB hk9 hS => ?_)
        obtain ⟨r55, rfl, hw⟩ := hp
        have hP : HP D cy b0 NALL S55 H := by rw [← hh]; exact hB.1
        have hF := hB.2
        have hP2 := hP2.far hk9 far_p
        try dsimp only at hw
        refine W.eq (g2 := F0 m 58 ls [.int r55]) rfl ?_
        refine lv_if_ne (x := r55) (tgt := 98) hx hb dL_isReroutedSo_58 (by decide) (fun c58 => ?_) (fun c58 => ?_)
        · rw [if_neg c58] at hw
          refine W.widen (k := kk + 0) (n := 0 + 6 * (kk + 0)) (by omega) (by omega) ?_
          exact j98 (kk + 0) (by omega) S55 T a3 _ _ _ hw hP hF hP2 hF2 hS (lv_sub hl [4, 5, 6] rfl)
        · rw [if_pos c58] at hw
          refine lv_aload_n hx hb dL_isReroutedSo_61 rfl (lv_at hl 3 rfl) ?_
          refine lv_iconst (v := 4) hx hb dL_isReroutedSo_62 (by decide) ?_
          refine lv_iload_n hx hb dL_isReroutedSo_63 rfl (lv_at hl 5 rfl) ?_
          refine q_call1 (vx_runSW (As := [.ref (b0 + 0), .int 4, .int x3]) (rest := []) ⟨hx, hb, hml, hown, hts⟩ (c_L_does l hlt D cy b0 S55 4 x3 _ hw) (vx_cwSW 3 hts gL_isReroutedSo_L_does rfl rfl rfl (by decide +kernel) ⟨(Nat.le_of_ble_eq_true rfl), (Nat.le_of_ble_eq_true rfl)⟩) (q_pS1 hW AA_o hP hF hS [.ref (b0 + 0), .int 4, .int x3]) rfl rfl hl.1 rfl (lv_room (Nat.le_of_ble_eq_true rfl)) dL_isReroutedSo_64 ⟨by show _ ≤ 5; omega, by show _ ≤ 30; omega⟩) hS AA_o (fun v64 S64 t64 H locs hh hp hB hk9 hS => ?_)
          obtain ⟨r64, rfl, hw⟩ := hp
          have hP : HP D cy b0 NALL S64 H := by rw [← hh]; exact hB.1
          have hF := hB.2
          have hP2 := hP2.far hk9 far_p
          try dsimp only at hw
          refine W.eq (g2 := F0 m 67 ls [.int r64]) rfl ?_
          refine lv_iload_n hx hb dL_isReroutedSo_67 rfl (lv_at hl 6 rfl) ?_
          refine lv_icmp_ne (x := r64) (y := a3) (tgt := 98) hx hb dL_isReroutedSo_68 (by decide) (fun c68 => ?_) (fun c68 => ?_)
          · rw [if_neg c68] at hw
            refine W.widen (k := kk + 1) (n := 0 + 6 * (kk + 1)) (by omega) (by omega) ?_
            exact j98 (kk + 1) (by omega) S64 T a3 _ _ _ hw hP hF hP2 hF2 hS (lv_sub hl [4, 5, 6] rfl)
          · rw [if_pos c68] at hw
            refine lv_aload_n hx hb dL_isReroutedSo_71 rfl (lv_at hl 3 rfl) ?_
            refine lv_iload_n hx hb dL_isReroutedSo_72 rfl (lv_at hl 5 rfl) ?_
            refine lv_iconst (v := 0) hx hb dL_isReroutedSo_73 (by decide) ?_
            refine lv_iconst (v := 0) hx hb dL_isReroutedSo_74 (by decide) ?_
            refine q_callN (vx_runV (As := [.int x3, .int 0, .int 0]) (rest := []) ⟨hx, hb, hml, hown, hts⟩ (c_X5_channel l hlt D cy b0 S64 x3 0 0 _ _ hw) (cwV 3 hts gL_isReroutedSo_X5_channel rfl rfl rfl (by decide +kernel) ⟨(Nat.le_of_ble_eq_true rfl), (Nat.le_of_ble_eq_true rfl)⟩) (q_pV1 hW AA_o hP hF hS [.int x3, .int 0, .int 0]) rfl rfl hl.1 rfl (lv_room (Nat.le_of_ble_eq_true rfl)) dL_isReroutedSo_75 ⟨by show _ ≤ 5; omega, by show _ ≤ 30; omega⟩) hS AA_o (fun v75 S75 t75 H locs hh hp hB hk9 hS => ?_)
            obtain ⟨r75, rfl, hw⟩ := hp
            have hP : HP D cy b0 NALL S75 H := by rw [← hh]; exact hB.1
            have hF := hB.2
            have hP2 := hP2.far hk9 far_p
            try dsimp only at hw
            refine W.eq (g2 := F0 m 78 ls [.int r75]) rfl ?_
            refine lv_iload hx hb dL_isReroutedSo_78 (lv_at hl 1 rfl) ?_
            refine lv_icmp_ne (x := r75) (y := r35) (tgt := 98) hx hb dL_isReroutedSo_80 (by decide) (fun c80 => ?_) (fun c80 => ?_)
            · rw [if_neg c80] at hw
              refine W.widen (k := kk + 1) (n := 0 + 6 * (kk + 1)) (by omega) (by omega) ?_
              exact j98 (kk + 1) (by omega) S75 T a3 _ _ _ hw hP hF hP2 hF2 hS (lv_sub hl [4, 5, 6] rfl)
            · rw [if_pos c80] at hw
              refine lv_aload_n hx hb dL_isReroutedSo_83 rfl (lv_at hl 3 rfl) ?_
              refine lv_iload_n hx hb dL_isReroutedSo_84 rfl (lv_at hl 5 rfl) ?_
              refine lv_iconst (v := 0) hx hb dL_isReroutedSo_85 (by decide) ?_
              refine q_callN (vx_runV (As := [.int x3, .int 0]) (rest := []) ⟨hx, hb, hml, hown, hts⟩ (c_X5_channels l hlt D cy b0 S75 x3 0 _ _ hw) (cwV 2 hts gL_isReroutedSo_X5_channels rfl rfl rfl (by decide +kernel) ⟨(Nat.le_of_ble_eq_true rfl), (Nat.le_of_ble_eq_true rfl)⟩) (q_pV1 hW AA_o hP hF hS [.int x3, .int 0]) rfl rfl hl.1 rfl (lv_room (Nat.le_of_ble_eq_true rfl)) dL_isReroutedSo_86 ⟨by show _ ≤ 5; omega, by show _ ≤ 30; omega⟩) hS AA_o (fun v86 S86 t86 H locs hh hp hB hk9 hS => ?_)
              obtain ⟨r86, rfl, hw⟩ := hp
              have hP : HP D cy b0 NALL S86 H := by rw [← hh]; exact hB.1
              have hF := hB.2
              have hP2 := hP2.far hk9 far_p
              try dsimp only at hw
              refine W.eq (g2 := F0 m 89 ls [.int r86]) rfl ?_
              refine lv_iload hx hb dL_isReroutedSo_89 (lv_at hl 0 rfl) ?_
              refine lv_icmp_ne (x := r86) (y := r43) (tgt := 98) hx hb dL_isReroutedSo_91 (by decide) (fun c91 => ?_) (fun c91 => ?_)
              · rw [if_neg c91] at hw
                refine W.widen (k := kk + 1) (n := 0 + 6 * (kk + 1)) (by omega) (by omega) ?_
                exact j98 (kk + 1) (by omega) S86 T a3 _ _ _ hw hP hF hP2 hF2 hS (lv_sub hl [4, 5, 6] rfl)
              · rw [if_pos c91] at hw
                refine lv_iconst (v := 1) hx hb dL_isReroutedSo_94 (by decide) ?_
                refine lv_goto (tgt := 99) hx hb dL_isReroutedSo_95 (by decide) ?_
                refine W.widen (k := kk + 1) (n := 0 + 6 * (kk + 1)) (by omega) (by omega) ?_
                exact j99 (kk + 1) (by omega) S86 T a3 true _ _ _ hw hP hF hP2 hF2 hS (lv_sub hl [4, 5, 6] rfl)
    · rw [if_neg c25] at hw
      refine lv_iload hx hb dL_isReroutedSo_28 (lv_at hl 0 rfl) ?_
      refine W.widen (k := 5) (n := 30) (by omega) (by omega) ?_
      exact q_zret2 (v := t0) hx hb hr hP hF hP2 hF2 hS hw dL_isReroutedSo_30 hlocks
  unfold wp_L_isReroutedSo at hw
  refine lv_aload_n hx hb dL_isReroutedSo_0 rfl (lv_at hl 0 rfl) ?_
  refine lv_iconst (v := 4) hx hb dL_isReroutedSo_1 (by decide) ?_
  refine lv_iload_n hx hb dL_isReroutedSo_2 rfl (lv_at hl 2 rfl) ?_
  refine q_call1 (vx_runSW (As := [.ref (b0 + 0), .int 4, .int x3]) (rest := []) ⟨hx, hb, hml, hown, hts⟩ (c_L_does l hlt D cy b0 S 4 x3 _ hw) (vx_cwSW 3 hts gL_isReroutedSo_L_does rfl rfl rfl (by decide +kernel) ⟨(Nat.le_of_ble_eq_true rfl), (Nat.le_of_ble_eq_true rfl)⟩) (q_pS1 hW AA_o hP hF hS [.ref (b0 + 0), .int 4, .int x3]) rfl rfl hl.1 rfl (lv_room (Nat.le_of_ble_eq_true rfl)) dL_isReroutedSo_3 ⟨by show _ ≤ 5; omega, by show _ ≤ 30; omega⟩) hS AA_o (fun v3 S3 t3 H locs hh hp hB hk9 hS => ?_)
  obtain ⟨r3, rfl, hw⟩ := hp
  have hP : HP D cy b0 NALL S3 H := by rw [← hh]; exact hB.1
  have hF := hB.2
  have hP2 := hP2.far hk9 far_p
  try dsimp only at hw
  refine W.eq (g2 := F0 m 6 ls [.int r3]) rfl ?_
  refine lv_istore_n (lv' := [(3, .int r3), (0, .ref (b0 + 0)), (1, .ref (b0 + 367 + 0)), (2, .int x3)]) hx hb dL_isReroutedSo_6 rfl hl (by decide) rfl (fun ls hl => ?_)
  refine lv_aload_n hx hb dL_isReroutedSo_7 rfl (lv_at hl 2 rfl) ?_
  refine lv_iconst (v := 4) hx hb dL_isReroutedSo_8 (by decide) ?_
  refine lv_iload_n hx hb dL_isReroutedSo_9 rfl (lv_at hl 3 rfl) ?_
  refine q_call1 (vx_runSW (As := [.ref (b0 + 367 + 0), .int 4, .int x3]) (rest := []) ⟨hx, hb, hml, hown, hts⟩ (c_L_does l hlt D cy (b0 + 367) T 4 x3 _ hw) (vx_cwSW 3 hts gL_isReroutedSo_L_does rfl rfl rfl (by decide +kernel) ⟨(Nat.le_of_ble_eq_true rfl), (Nat.le_of_ble_eq_true rfl)⟩) (q_pS1 hW AA_p hP2 hF2 hS [.ref (b0 + 367 + 0), .int 4, .int x3]) rfl rfl hl.1 rfl (lv_room (Nat.le_of_ble_eq_true rfl)) dL_isReroutedSo_10 ⟨by show _ ≤ 5; omega, by show _ ≤ 30; omega⟩) hS AA_p (fun v10 T10 t10 H locs hh hp hB hk9 hS => ?_)
  obtain ⟨r10, rfl, hw⟩ := hp
  have hP2 : HP D cy (b0 + 367) NALL T10 H := by rw [← hh]; exact hB.1
  have hF2 := hB.2
  have hP := hP.far hk9 far_o
  try dsimp only at hw
  refine W.eq (g2 := F0 m 13 ls [.int r10]) rfl ?_
  refine lv_iload_n hx hb dL_isReroutedSo_13 rfl (lv_at hl 0 rfl) ?_
  refine lv_icmp_ne (x := r10) (y := r3) (tgt := 21) hx hb dL_isReroutedSo_14 (by decide) (fun c14 => ?_) (fun c14 => ?_)
  · rw [if_neg c14] at hw
    refine lv_iconst (v := 0) hx hb dL_isReroutedSo_21 (by decide) ?_
    refine W.widen (k := 0 + 2) (n := 0 + 6 * (0 + 2)) (by omega) (by omega) ?_
    exact j22 (0 + 2) (by omega) S3 T10 r3 false _ _ _ hw hP hF hP2 hF2 hS (lv_sub hl [1, 2, 3, 0] rfl)
  · rw [if_pos c14] at hw
    refine lv_iconst (v := 1) hx hb dL_isReroutedSo_17 (by decide) ?_
    refine lv_goto (tgt := 22) hx hb dL_isReroutedSo_18 (by decide) ?_
    refine W.widen (k := 0 + 2) (n := 0 + 6 * (0 + 2)) (by omega) (by omega) ?_
    exact j22 (0 + 2) (by omega) S3 T10 r3 true _ _ _ hw hP hF hP2 hF2 hS (lv_sub hl [1, 2, 3, 0] rfl)
