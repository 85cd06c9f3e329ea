/-! THE LAW: the calls that catch -/
def wp_L_begin (S : St) (x2 : Int32) (x3 : Int32) (P : Int32 → St → Prop) : Prop := (wp_X5_begin S x2 x3 (fun S3 => (P 0 S3)) (fun E3 S3 => (if E3 = "java/lang/IllegalArgumentException" then (P 1 S3) else False)))
abbrev rm_L_begin : Room := { frames := 7, cells := 1, slots := 6, locals := 122 }
def wp_L_addFibre (S : St) (x2 : Int32) (x3 : Int32) (x4 : Int32) (P : Int32 → St → Prop) : Prop := (wp_X5_addFibre S x2 x3 x4 (fun r7 S7 => (vp_in 0 1 ∧ ∀ S11 : St, S11 = sJ S7 390 ((0 : Int32).toNatClampNeg) (r7.toInt64) → (P 0 S11))) (fun E7 S7 => (if E7 = "java/lang/IllegalArgumentException" then (P 1 S7) else (if E7 = "java/lang/IllegalStateException" then (P 2 S7) else False))))
abbrev rm_L_addFibre : Room := { frames := 7, cells := 1, slots := 6, locals := 124 }
def wp_L_toggleConverter_15 (x2 : Int32) (P : Int32 → St → Prop) (S : St) (t2 : Int64) : Prop := (vp_in 0 1 ∧ ∀ S15 : St, S15 = sJ S 390 ((0 : Int32).toNatClampNeg) t2 → (P 0 S15))
def wp_L_toggleConverter (S : St) (x2 : Int32) (P : Int32 → St → Prop) : Prop := (wp_X5_toggleConverter S x2 (fun r4 S4 => (if r4 = true then (wp_L_toggleConverter_15 x2 P S4 1) else (wp_L_toggleConverter_15 x2 P S4 0))) (fun E4 S4 => (if E4 = "java/lang/IllegalArgumentException" then (P 1 S4) else False)))
abbrev rm_L_toggleConverter : Room := { frames := 7, cells := 1, slots := 6, locals := 121 }
def wp_L_cut (S : St) (x2 : Int32) (P : Int32 → St → Prop) : Prop := (wp_X5_cut S x2 (fun r4 S4 => (vp_in 0 1 ∧ ∀ S8 : St, S8 = sJ S4 390 ((0 : Int32).toNatClampNeg) (r4.toInt64) → (P 0 S8))) (fun E4 S4 => (if E4 = "java/lang/IndexOutOfBoundsException" then (P 1 S4) else (if E4 = "java/lang/IllegalStateException" then (P 2 S4) else False))))
abbrev rm_L_cut : Room := { frames := 8, cells := 2, slots := 12, locals := 143 }
def wp_L_repair (S : St) (x2 : Int32) (P : Int32 → St → Prop) : Prop := (wp_X5_repair S x2 (fun r4 S4 => (vp_in 0 1 ∧ ∀ S8 : St, S8 = sJ S4 390 ((0 : Int32).toNatClampNeg) (r4.toInt64) → (P 0 S8))) (fun E4 S4 => (if E4 = "java/lang/IndexOutOfBoundsException" then (P 1 S4) else (if E4 = "java/lang/IllegalStateException" then (P 2 S4) else False))))
abbrev rm_L_repair : Room := { frames := 8, cells := 2, slots := 12, locals := 143 }
def wp_L_lightOn (S : St) (x2 : Int32) (x3 : Int32) (P : Int32 → St → Prop) : Prop := (wp_X5_lightOn S x2 x3 (fun r5 S5 => (vp_in 0 1 ∧ ∀ S9 : St, S9 = sJ S5 390 ((0 : Int32).toNatClampNeg) (r5.toInt64) → (P 0 S9))) (fun E5 S5 => (if E5 = "java/lang/IndexOutOfBoundsException" then (P 1 S5) else (if E5 = "java/lang/IllegalArgumentException" then (P 2 S5) else False))))
abbrev rm_L_lightOn : Room := { frames := 8, cells := 2, slots := 12, locals := 144 }
def wp_L_usage (S : St)  (P : Int32 → St → Prop) : Prop := (wp_X5_usage S (fun r3 S3 => (vf_n64 (FP.f2d r3) ∧ (vp_in 0 1 ∧ ∀ S7 : St, S7 = sD S3 391 ((0 : Int32).toNatClampNeg) (FP.f2d r3) → (P 0 S7)))) (fun E3 S3 => (if E3 = "java/lang/IllegalStateException" then (P 1 S3) else False)))
abbrev rm_L_usage : Room := { frames := 7, cells := 1, slots := 6, locals := 123 }
def wp_L_request (S : St) (x2 : Int32) (x3 : Int32) (x4 : Int32) (x5 : Int32) (P : Int32 → St → Prop) : Prop := (wp_X5_request S x2 x3 x4 x5 (fun r9 S9 => (vp_in 0 1 ∧ ∀ S13 : St, S13 = sJ S9 390 ((0 : Int32).toNatClampNeg) (r9.toInt64) → (P 0 S13))) (fun E9 S9 => (if E9 = "java/lang/IllegalArgumentException" then (P 1 S9) else (if E9 = "java/lang/IllegalStateException" then (P 2 S9) else False))))
abbrev rm_L_request : Room := { frames := 15, cells := 1, slots := 6, locals := 417 }
def wp_L_newLength (S : St) (x2 : Int32) (x3 : Int32) (x4 : Int32) (P : Int32 → St → Prop) : Prop := (wp_X5_newLength S x2 x3 x4 (fun r7 S7 => (vp_in 0 1 ∧ ∀ S11 : St, S11 = sJ S7 390 ((0 : Int32).toNatClampNeg) (r7.toInt64) → (P 0 S11))) (fun E7 S7 => (if E7 = "java/lang/IllegalArgumentException" then (P 1 S7) else (if E7 = "java/lang/IllegalStateException" then (P 2 S7) else False))))
abbrev rm_L_newLength : Room := { frames := 15, cells := 1, slots := 6, locals := 417 }
def wp_L_release (S : St) (x2 : Int32) (P : Int32 → St → Prop) : Prop := (wp_X5_release S x2 (fun r4 S4 => (vp_in 0 1 ∧ ∀ S8 : St, S8 = sJ S4 390 ((0 : Int32).toNatClampNeg) (r4.toInt64) → (P 0 S8))) (fun E4 S4 => (if E4 = "java/lang/IndexOutOfBoundsException" then (P 1 S4) else (if E4 = "java/lang/IllegalStateException" then (P 2 S4) else False))))
abbrev rm_L_release : Room := { frames := 8, cells := 1, slots := 6, locals := 144 }
def wp_L_lightOf (S : St) (x2 : Int32) (P : Int32 → St → Prop) : Prop := (wp_X5_lightOf S x2 (fun r4 S4 => (vp_in 0 1 ∧ ∀ S8 : St, S8 = sJ S4 390 ((0 : Int32).toNatClampNeg) (r4.toInt64) → (P 0 S8))) (fun E4 S4 => (if E4 = "java/lang/IndexOutOfBoundsException" then (P 1 S4) else (if E4 = "java/lang/IllegalStateException" then (P 2 S4) else False))))
abbrev rm_L_lightOf : Room := { frames := 8, cells := 1, slots := 6, locals := 143 }
def wp_L_state (S : St) (x2 : Int32) (P : Int32 → St → Prop) : Prop := (wp_X5_state S x2 (fun r4 S4 => (vp_in 0 1 ∧ ∀ S8 : St, S8 = sJ S4 390 ((0 : Int32).toNatClampNeg) (r4.toInt64) → (P 0 S8))) (fun E4 S4 => (if E4 = "java/lang/IndexOutOfBoundsException" then (P 1 S4) else False)))
abbrev rm_L_state : Room := { frames := 8, cells := 1, slots := 6, locals := 143 }
def wp_L_units (S : St) (x2 : Int32) (P : Int32 → St → Prop) : Prop := (wp_X5_units S x2 (fun r4 S4 => (vp_in 0 1 ∧ ∀ S8 : St, S8 = sJ S4 390 ((0 : Int32).toNatClampNeg) (r4.toInt64) → (P 0 S8))) (fun E4 S4 => (if E4 = "java/lang/IndexOutOfBoundsException" then (P 1 S4) else False)))
abbrev rm_L_units : Room := { frames := 8, cells := 1, slots := 6, locals := 142 }
def wp_L_channels (S : St) (x2 : Int32) (x3 : Int32) (P : Int32 → St → Prop) : Prop := (wp_X5_channels S x2 x3 (fun r5 S5 => (vp_in 0 1 ∧ ∀ S9 : St, S9 = sJ S5 390 ((0 : Int32).toNatClampNeg) (r5.toInt64) → (P 0 S9))) (fun E5 S5 => (if E5 = "java/lang/IndexOutOfBoundsException" then (P 1 S5) else False)))
abbrev rm_L_channels : Room := { frames := 9, cells := 2, slots := 12, locals := 166 }
def wp_L_channel (S : St) (x2 : Int32) (x3 : Int32) (x4 : Int32) (P : Int32 → St → Prop) : Prop := (wp_X5_channel S x2 x3 x4 (fun r7 S7 => (vp_in 0 1 ∧ ∀ S11 : St, S11 = sJ S7 390 ((0 : Int32).toNatClampNeg) (r7.toInt64) → (P 0 S11))) (fun E7 S7 => (if E7 = "java/lang/IndexOutOfBoundsException" then (P 1 S7) else False)))
abbrev rm_L_channel : Room := { frames := 9, cells := 3, slots := 18, locals := 168 }
def wp_L_reroute (S : St) (x2 : Int32) (P : Int32 → St → Prop) : Prop := (wp_X5_reroute S x2 (fun r4 S4 => (vp_in 0 1 ∧ ∀ S8 : St, S8 = sJ S4 390 ((0 : Int32).toNatClampNeg) (r4.toInt64) → (P 0 S8))) (fun E4 S4 => (if E4 = "java/lang/IndexOutOfBoundsException" then (P 1 S4) else (if E4 = "java/lang/IllegalStateException" then (P 2 S4) else False))))
abbrev rm_L_reroute : Room := { frames := 14, cells := 2, slots := 12, locals := 390 }
def wp_L_merge (S : St)  (P : Int32 → St → Prop) : Prop := (wp_X5_merge S (fun r3 S3 => (vp_in 0 1 ∧ ∀ S7 : St, S7 = sJ S3 390 ((0 : Int32).toNatClampNeg) (r3.toInt64) → (P 0 S7))) (fun E3 S3 => (if E3 = "java/lang/IllegalStateException" then (P 1 S3) else False)))
abbrev rm_L_merge : Room := { frames := 7, cells := 1, slots := 6, locals := 122 }
def wp_L_move (S : St)  (P : Int32 → St → Prop) : Prop := (wp_X5_move S (fun r3 S3 => (vp_in 0 1 ∧ ∀ S7 : St, S7 = sJ S3 390 ((0 : Int32).toNatClampNeg) (r3.toInt64) → (P 0 S7))) (fun E3 S3 => (if E3 = "java/lang/IllegalStateException" then (P 1 S3) else False)))
abbrev rm_L_move : Room := { frames := 7, cells := 1, slots := 6, locals := 136 }
set_option maxHeartbeats 4000000 in
set_option maxRecDepth 100000 in
theorem c_L_begin (l : Launch) (hlt : l.stackTraces = false) (D : va_G) (cy : Nat → ClassId) (b0 : Nat) (S : St) (x2 : Int32) (x3 : Int32)  (P : Int32 → St → Prop) (hw : wp_L_begin S x2 x3 P) : Met l yL_begin wsL_begin rm_L_begin (va_Pc [.ref (b0 + 0), .int x2, .int x3] (Wd D cy b0 NALL S)) (QC (Pi P) (Wb D cy b0 NALL) b0) 1 6 (AA b0) := by
  refine va_MetW (cc := cL_begin) (maxL := 4) (ret := (some .int)) (hh := [(0, 6, 9, 13)]) (by decide) rfl ?_
  intro p e s m args below meth c s₁ B hml hv
  obtain ⟨hargs, hW, hP, hF⟩ := hv
  have hx := B.exec
  have hb := B.bytes
  have hr := B.returns
  have hts := atoms_spec (ws := wsL_begin) B.pre
  have hown : s.vm.findClass RL = some m.cls := findClass_of_methodNamed B.named
  have hlocks := B.notSynchronized
  have hK := hW.1
  have hS : va_S (AA b0) s.heap s.heap [] := va_S.rf
  have htab : c.exceptionTable.toList = [⟨0, 6, 9, 13⟩] := vx_table (x := yL_begin) B (hts (.codeWith yL_begin cL_begin 4 (some .int) [(0, 6, 9, 13)]) (by unfold wsL_begin; exact List.mem_cons_self))
  have hE : entryFrame m args 4 = F0 m 0 ((lg_sl [.ref (b0 + 0), .int x2, .int x3] ++ List.replicate (4 - (lg_sl [.ref (b0 + 0), .int x2, .int x3]).length) Slot.unset).toArray) [] := by rw [hargs]; exact lg_entry_eq m _ _
  rw [hE]
  have hl := lv_entry [.ref (b0 + 0), .int x2, .int x3] (n := 4) (Nat.le_of_ble_eq_true rfl)
  generalize (lg_sl [.ref (b0 + 0), .int x2, .int x3] ++ List.replicate (4 - (lg_sl [.ref (b0 + 0), .int x2, .int x3]).length) Slot.unset).toArray = ls at hl ⊢
  have hl : lv_has ls 4 [(0, .ref (b0 + 0)), (1, .int x2), (2, .int x3)] := hl
  unfold wp_L_begin at hw
  refine lv_aload_n hx hb dL_begin_0 rfl (lv_at hl 0 rfl) ?_
  refine lv_iload_n hx hb dL_begin_1 rfl (lv_at hl 1 rfl) ?_
  refine lv_iload_n hx hb dL_begin_2 rfl (lv_at hl 2 rfl) ?_
  refine q_callX (vx_runV (As := [.int x2, .int x3]) (rest := []) ⟨hx, hb, hml, hown, hts⟩ (c_X5_begin l hlt D cy b0 S x2 x3 _ _ hw) (cwV 2 hts gL_begin_X5_begin rfl rfl rfl (by decide +kernel) ⟨(Nat.le_of_ble_eq_true rfl), (Nat.le_of_ble_eq_true rfl)⟩) (q_pV hW hP hF hS (k := 0) (ci := 5) (by decide) (cell_5 (kk_0)) rfl [.int x2, .int x3]) rfl rfl hl.1 rfl (lv_room (Nat.le_of_ble_eq_true rfl)) dL_begin_3 ⟨(Nat.le_of_ble_eq_true rfl), (Nat.le_of_ble_eq_true rfl)⟩) hS (fun E3 ce q9 S3 t3 H locs hh hw hB hz hS hc9 hv9 hcl9 => ?_) (fun v3 S3 t3 H locs hh hp hB hz hk9 hS => ?_)
  · have hP : HP D cy b0 NALL S3 H := by rw [← hh]; exact hB.1
    have hF := hB.2
    try dsimp only at hw
    by_cases g0 : E3 = eA
    · rw [if_pos g0] at hw
      subst g0
      refine vx_catch (own := RL) (name := eA) hown [] ⟨0, 6, 9, 13⟩ [] htab (fun z hz => by cases hz) rfl (by decide) (hts (.classLink RL 13 eA) (by decide +kernel)) (va_Nw.use rfl (hW.2.2.2.2.2.2.2.1 eA (by decide))) hc9 hv9 hcl9 ?_
      refine W.eq (g2 := F0 m 9 ls [.ref q9]) rfl ?_
      refine lv_astore_n (lv' := [(3, .ref q9), (0, .ref (b0 + 0)), (1, .int x2), (2, .int x3)]) hx hb dL_begin_9 rfl hl (by decide) rfl (fun ls hl => ?_)
      refine lv_iconst (v := 1) hx hb dL_begin_10 (by decide) ?_
      exact q_iret hx hb hr hP hF hS hw dL_begin_11 hlocks
    · rw [if_neg g0] at hw
      exact False.elim hw
  · obtain ⟨rfl, hw⟩ := hp
    have hP : HP D cy b0 NALL S3 H := by rw [← hh]; exact hB.1
    have hF := hB.2
    try dsimp only at hw
    refine W.eq (g2 := F0 m 6 ls []) rfl ?_
    refine lv_goto (tgt := 12) hx hb dL_begin_6 (by decide) ?_
    refine lv_iconst (v := 0) hx hb dL_begin_12 (by decide) ?_
    exact q_iret hx hb hr hP hF hS hw dL_begin_13 hlocks
set_option maxHeartbeats 4000000 in
set_option maxRecDepth 100000 in
theorem c_L_addFibre (l : Launch) (hlt : l.stackTraces = false) (D : va_G) (cy : Nat → ClassId) (b0 : Nat) (S : St) (x2 : Int32) (x3 : Int32) (x4 : Int32)  (P : Int32 → St → Prop) (hw : wp_L_addFibre S x2 x3 x4 P) : Met l yL_addFibre wsL_addFibre rm_L_addFibre (va_Pc [.ref (b0 + 0), .int x2, .int x3, .int x4, .ref (b0 + 390)] (Wd D cy b0 NALL S)) (QC (Pi P) (Wb D cy b0 NALL) b0) 1 6 (AA b0) := by
  refine va_MetW (cc := cL_addFibre) (maxL := 6) (ret := (some .int)) (hh := [(0, 12, 15, 13), (0, 12, 19, 19)]) (by decide) rfl ?_
  intro p e s m args below meth c s₁ B hml hv
  obtain ⟨hargs, hW, hP, hF⟩ := hv
  have hx := B.exec
  have hb := B.bytes
  have hr := B.returns
  have hts := atoms_spec (ws := wsL_addFibre) B.pre
  have hown : s.vm.findClass RL = some m.cls := findClass_of_methodNamed B.named
  have hlocks := B.notSynchronized
  have hK := hW.1
  have hS : va_S (AA b0) s.heap s.heap [] := va_S.rf
  have htab : c.exceptionTable.toList = [⟨0, 12, 15, 13⟩, ⟨0, 12, 19, 19⟩] := vx_table (x := yL_addFibre) B (hts (.codeWith yL_addFibre cL_addFibre 6 (some .int) [(0, 12, 15, 13), (0, 12, 19, 19)]) (by unfold wsL_addFibre; exact List.mem_cons_self))
  have hE : entryFrame m args 6 = F0 m 0 ((lg_sl [.ref (b0 + 0), .int x2, .int x3, .int x4, .ref (b0 + 390)] ++ List.replicate (6 - (lg_sl [.ref (b0 + 0), .int x2, .int x3, .int x4, .ref (b0 + 390)]).length) Slot.unset).toArray) [] := by rw [hargs]; exact lg_entry_eq m _ _
  rw [hE]
  have hl := lv_entry [.ref (b0 + 0), .int x2, .int x3, .int x4, .ref (b0 + 390)] (n := 6) (Nat.le_of_ble_eq_true rfl)
  generalize (lg_sl [.ref (b0 + 0), .int x2, .int x3, .int x4, .ref (b0 + 390)] ++ List.replicate (6 - (lg_sl [.ref (b0 + 0), .int x2, .int x3, .int x4, .ref (b0 + 390)]).length) Slot.unset).toArray = ls at hl ⊢
  have hl : lv_has ls 6 [(0, .ref (b0 + 0)), (1, .int x2), (2, .int x3), (3, .int x4), (4, .ref (b0 + 390))] := hl
  unfold wp_L_addFibre at hw
  refine lv_aload hx hb dL_addFibre_0 (lv_at hl 4 rfl) ?_
  refine lv_iconst (v := 0) hx hb dL_addFibre_2 (by decide) ?_
  refine lv_aload_n hx hb dL_addFibre_3 rfl (lv_at hl 0 rfl) ?_
  refine lv_iload_n hx hb dL_addFibre_4 rfl (lv_at hl 1 rfl) ?_
  refine lv_iload_n hx hb dL_addFibre_5 rfl (lv_at hl 2 rfl) ?_
  refine lv_iload_n hx hb dL_addFibre_6 rfl (lv_at hl 3 rfl) ?_
  refine q_callX (vx_runV (As := [.int x2, .int x3, .int x4]) (rest := [.int 0, .ref (b0 + 390)]) ⟨hx, hb, hml, hown, hts⟩ (c_X5_addFibre l hlt D cy b0 S x2 x3 x4 _ _ hw) (cwV 3 hts gL_addFibre_X5_addFibre rfl rfl rfl (by decide +kernel) ⟨(Nat.le_of_ble_eq_true rfl), (Nat.le_of_ble_eq_true rfl)⟩) (q_pV hW hP hF hS (k := 0) (ci := 5) (by decide) (cell_5 (kk_0)) rfl [.int x2, .int x3, .int x4]) rfl rfl hl.1 rfl (lv_room (Nat.le_of_ble_eq_true rfl)) dL_addFibre_7 ⟨(Nat.le_of_ble_eq_true rfl), (Nat.le_of_ble_eq_true rfl)⟩) hS (fun E7 ce q9 S7 t7 H locs hh hw hB hz hS hc9 hv9 hcl9 => ?_) (fun v7 S7 t7 H locs hh hp hB hz hk9 hS => ?_)
  · have hP : HP D cy b0 NALL S7 H := by rw [← hh]; exact hB.1
    have hF := hB.2
    try dsimp only at hw
    by_cases g0 : E7 = eA
    · rw [if_pos g0] at hw
      subst g0
      refine vx_catch (own := RL) (name := eA) hown [] ⟨0, 12, 15, 13⟩ [⟨0, 12, 19, 19⟩] htab (fun z hz => by cases hz) rfl (by decide) (hts (.classLink RL 13 eA) (by decide +kernel)) (va_Nw.use rfl (hW.2.2.2.2.2.2.2.1 eA (by decide))) hc9 hv9 hcl9 ?_
      refine W.eq (g2 := F0 m 15 ls [.ref q9]) rfl ?_
      refine lv_astore (lv' := [(5, .ref q9), (0, .ref (b0 + 0)), (1, .int x2), (2, .int x3), (3, .int x4), (4, .ref (b0 + 390))]) hx hb dL_addFibre_15 hl (by decide) rfl (fun ls hl => ?_)
      refine lv_iconst (v := 1) hx hb dL_addFibre_17 (by decide) ?_
      exact q_iret hx hb hr hP hF hS hw dL_addFibre_18 hlocks
    · rw [if_neg g0] at hw
      by_cases g1 : E7 = eS
      · rw [if_pos g1] at hw
        subst g1
        refine vx_catch (own := RL) (name := eS) hown [⟨0, 12, 15, 13⟩] ⟨0, 12, 19, 19⟩ [] htab (fun z hz => by rcases List.mem_singleton.mp hz with rfl; exact Or.inr ⟨by decide, eA, hts (.classLink RL 13 eA) (by decide +kernel), hW.2.2.2.2.2.2.1 (eS, eA) (by decide)⟩) rfl (by decide) (hts (.classLink RL 19 eS) (by decide +kernel)) (va_Nw.use rfl (hW.2.2.2.2.2.2.2.1 eS (by decide))) hc9 hv9 hcl9 ?_
        refine W.eq (g2 := F0 m 19 ls [.ref q9]) rfl ?_
        refine lv_astore (lv' := [(5, .ref q9), (0, .ref (b0 + 0)), (1, .int x2), (2, .int x3), (3, .int x4), (4, .ref (b0 + 390))]) hx hb dL_addFibre_19 hl (by decide) rfl (fun ls hl => ?_)
        refine lv_iconst (v := 2) hx hb dL_addFibre_21 (by decide) ?_
        exact q_iret hx hb hr hP hF hS hw dL_addFibre_22 hlocks
      · rw [if_neg g1] at hw
        exact False.elim hw
  · obtain ⟨r7, rfl, hw⟩ := hp
    have hP : HP D cy b0 NALL S7 H := by rw [← hh]; exact hB.1
    have hF := hB.2
    try dsimp only at hw
    refine W.eq (g2 := F0 m 10 ls [.int r7, .int 0, .ref (b0 + 390)]) rfl ?_
    refine lv_i2l hx hb dL_addFibre_10 (v := r7.toInt64) rfl ?_
    obtain ⟨h11, hw⟩ := hw
    refine q_last (k := 390) (n := 1) (i := 0) (x := (r7.toInt64)) hx hb hK hP hS (by decide) (kk_390) (ll_390) h11 dL_addFibre_11 (fun H locs hz hP hS => ?_)
    have hF : Fx (sJ S7 390 ((0 : Int32).toNatClampNeg) (r7.toInt64)) := Fx.sJ hF _ _ _
    generalize eS11 : sJ S7 390 ((0 : Int32).toNatClampNeg) (r7.toInt64) = S11 at hP hF
    have hw := hw S11 eS11.symm
    refine lv_goto (tgt := 23) hx hb dL_addFibre_12 (by decide) ?_
    refine lv_iconst (v := 0) hx hb dL_addFibre_23 (by decide) ?_
    exact q_iret hx hb hr hP hF hS hw dL_addFibre_24 hlocks
set_option maxHeartbeats 4000000 in
set_option maxRecDepth 100000 in
theorem c_L_toggleConverter (l : Launch) (hlt : l.stackTraces = false) (D : va_G) (cy : Nat → ClassId) (b0 : Nat) (S : St) (x2 : Int32)  (P : Int32 → St → Prop) (hw : wp_L_toggleConverter S x2 P) : Met l yL_toggleConverter wsL_toggleConverter rm_L_toggleConverter (va_Pc [.ref (b0 + 0), .int x2, .ref (b0 + 390)] (Wd D cy b0 NALL S)) (QC (Pi P) (Wb D cy b0 NALL) b0) 1 6 (AA b0) := by
  refine va_MetW (cc := cL_toggleConverter) (maxL := 4) (ret := (some .int)) (hh := [(0, 16, 19, 13)]) (by decide) rfl ?_
  intro p e s m args below meth c s₁ B hml hv
  obtain ⟨hargs, hW, hP, hF⟩ := hv
  have hx := B.exec
  have hb := B.bytes
  have hr := B.returns
  have hts := atoms_spec (ws := wsL_toggleConverter) B.pre
  have hown : s.vm.findClass RL = some m.cls := findClass_of_methodNamed B.named
  have hlocks := B.notSynchronized
  have hK := hW.1
  have hS : va_S (AA b0) s.heap s.heap [] := va_S.rf
  have htab : c.exceptionTable.toList = [⟨0, 16, 19, 13⟩] := vx_table (x := yL_toggleConverter) B (hts (.codeWith yL_toggleConverter cL_toggleConverter 4 (some .int) [(0, 16, 19, 13)]) (by unfold wsL_toggleConverter; exact List.mem_cons_self))
  have hE : entryFrame m args 4 = F0 m 0 ((lg_sl [.ref (b0 + 0), .int x2, .ref (b0 + 390)] ++ List.replicate (4 - (lg_sl [.ref (b0 + 0), .int x2, .ref (b0 + 390)]).length) Slot.unset).toArray) [] := by rw [hargs]; exact lg_entry_eq m _ _
  rw [hE]
  have hl := lv_entry [.ref (b0 + 0), .int x2, .ref (b0 + 390)] (n := 4) (Nat.le_of_ble_eq_true rfl)
  generalize (lg_sl [.ref (b0 + 0), .int x2, .ref (b0 + 390)] ++ List.replicate (4 - (lg_sl [.ref (b0 + 0), .int x2, .ref (b0 + 390)]).length) Slot.unset).toArray = ls at hl ⊢
  have hl : lv_has ls 4 [(0, .ref (b0 + 0)), (1, .int x2), (2, .ref (b0 + 390))] := hl
  have j15 : ∀ (S : St) (t2 : Int64), ∀ (H : Heap) (locs : List Loc) (ls : Array Slot), wp_L_toggleConverter_15 x2 P S t2 → HP D cy b0 NALL S H → Fx S → va_S (AA b0) s.heap H locs → lv_has ls 4 [] → W p l e rm_L_toggleConverter s m args below meth c H locs 1 6 (MQ below (QC (Pi P) (Wb D cy b0 NALL) b0) args s 1 6 (AA b0)) (F0 m 15 ls [.long t2, .int 0, .ref (b0 + 390)]) := by
    intro S t2  H locs ls hw hP hF hS hl
    unfold wp_L_toggleConverter_15 at hw
    obtain ⟨h15, hw⟩ := hw
    refine q_last (k := 390) (n := 1) (i := 0) (x := t2) hx hb hK hP hS (by decide) (kk_390) (ll_390) h15 dL_toggleConverter_15 (fun H locs hz hP hS => ?_)
    have hF : Fx (sJ S 390 ((0 : Int32).toNatClampNeg) t2) := Fx.sJ hF _ _ _
    generalize eS15 : sJ S 390 ((0 : Int32).toNatClampNeg) t2 = S15 at hP hF
    have hw := hw S15 eS15.symm
    refine lv_goto (tgt := 22) hx hb dL_toggleConverter_16 (by decide) ?_
    refine lv_iconst (v := 0) hx hb dL_toggleConverter_22 (by decide) ?_
    exact q_iret hx hb hr hP hF hS hw dL_toggleConverter_23 hlocks
  unfold wp_L_toggleConverter at hw
  refine lv_aload_n hx hb dL_toggleConverter_0 rfl (lv_at hl 2 rfl) ?_
  refine lv_iconst (v := 0) hx hb dL_toggleConverter_1 (by decide) ?_
  refine lv_aload_n hx hb dL_toggleConverter_2 rfl (lv_at hl 0 rfl) ?_
  refine lv_iload_n hx hb dL_toggleConverter_3 rfl (lv_at hl 1 rfl) ?_
  refine q_callX (vx_runV (As := [.int x2]) (rest := [.int 0, .ref (b0 + 390)]) ⟨hx, hb, hml, hown, hts⟩ (c_X5_toggleConverter l hlt D cy b0 S x2 _ _ hw) (cwV 1 hts gL_toggleConverter_X5_toggleConverter rfl rfl rfl (by decide +kernel) ⟨(Nat.le_of_ble_eq_true rfl), (Nat.le_of_ble_eq_true rfl)⟩) (q_pV hW hP hF hS (k := 0) (ci := 5) (by decide) (cell_5 (kk_0)) rfl [.int x2]) rfl rfl hl.1 rfl (lv_room (Nat.le_of_ble_eq_true rfl)) dL_toggleConverter_4 ⟨(Nat.le_of_ble_eq_true rfl), (Nat.le_of_ble_eq_true rfl)⟩) hS (fun E4 ce q9 S4 t4 H locs hh hw hB hz hS hc9 hv9 hcl9 => ?_) (fun v4 S4 t4 H locs hh hp hB hz hk9 hS => ?_)
  · have hP : HP D cy b0 NALL S4 H := by rw [← hh]; exact hB.1
    have hF := hB.2
    try dsimp only at hw
    by_cases g0 : E4 = eA
    · rw [if_pos g0] at hw
      subst g0
      refine vx_catch (own := RL) (name := eA) hown [] ⟨0, 16, 19, 13⟩ [] htab (fun z hz => by cases hz) rfl (by decide) (hts (.classLink RL 13 eA) (by decide +kernel)) (va_Nw.use rfl (hW.2.2.2.2.2.2.2.1 eA (by decide))) hc9 hv9 hcl9 ?_
      refine W.eq (g2 := F0 m 19 ls [.ref q9]) rfl ?_
      refine lv_astore_n (lv' := [(3, .ref q9), (0, .ref (b0 + 0)), (1, .int x2), (2, .ref (b0 + 390))]) hx hb dL_toggleConverter_19 rfl hl (by decide) rfl (fun ls hl => ?_)
      refine lv_iconst (v := 1) hx hb dL_toggleConverter_20 (by decide) ?_
      exact q_iret hx hb hr hP hF hS hw dL_toggleConverter_21 hlocks
    · rw [if_neg g0] at hw
      exact False.elim hw
  · obtain ⟨r4, rfl, hw⟩ := hp
    have hP : HP D cy b0 NALL S4 H := by rw [← hh]; exact hB.1
    have hF := hB.2
    try dsimp only at hw
    refine W.eq (g2 := F0 m 7 ls [.int (b2i r4), .int 0, .ref (b0 + 390)]) rfl ?_
    refine lv_if_eq (x := b2i r4) (tgt := 14) hx hb dL_toggleConverter_7 (by decide) (fun c7 => ?_) (fun c7 => ?_)
    · have c7 := b2i_z c7
      rw [if_neg c7] at hw
      refine lv_lconst (v := 0) hx hb dL_toggleConverter_14 (by decide) ?_
      exact j15 S4 0  _ _ _ hw hP hF hS (lv_sub hl [] rfl)
    · have c7 := b2i_n c7
      rw [if_pos c7] at hw
      refine lv_lconst (v := 1) hx hb dL_toggleConverter_10 (by decide) ?_
      refine lv_goto (tgt := 15) hx hb dL_toggleConverter_11 (by decide) ?_
      exact j15 S4 1  _ _ _ hw hP hF hS (lv_sub hl [] rfl)
set_option maxHeartbeats 4000000 in
set_option maxRecDepth 100000 in
theorem c_L_cut (l : Launch) (hlt : l.stackTraces = false) (D : va_G) (cy : Nat → ClassId) (b0 : Nat) (S : St) (x2 : Int32)  (P : Int32 → St → Prop) (hw : wp_L_cut S x2 P) : Met l yL_cut wsL_cut rm_L_cut (va_Pc [.ref (b0 + 0), .int x2, .ref (b0 + 390)] (Wd D cy b0 NALL S)) (QC (Pi P) (Wb D cy b0 NALL) b0) 2 12 (AA b0) := by
  refine va_MetW (cc := cL_cut) (maxL := 4) (ret := (some .int)) (hh := [(0, 9, 12, 29), (0, 9, 15, 19)]) (by decide) rfl ?_
  intro p e s m args below meth c s₁ B hml hv
  obtain ⟨hargs, hW, hP, hF⟩ := hv
  have hx := B.exec
  have hb := B.bytes
  have hr := B.returns
  have hts := atoms_spec (ws := wsL_cut) B.pre
  have hown : s.vm.findClass RL = some m.cls := findClass_of_methodNamed B.named
  have hlocks := B.notSynchronized
  have hK := hW.1
  have hS : va_S (AA b0) s.heap s.heap [] := va_S.rf
  have htab : c.exceptionTable.toList = [⟨0, 9, 12, 29⟩, ⟨0, 9, 15, 19⟩] := vx_table (x := yL_cut) B (hts (.codeWith yL_cut cL_cut 4 (some .int) [(0, 9, 12, 29), (0, 9, 15, 19)]) (by unfold wsL_cut; exact List.mem_cons_self))
  have hE : entryFrame m args 4 = F0 m 0 ((lg_sl [.ref (b0 + 0), .int x2, .ref (b0 + 390)] ++ List.replicate (4 - (lg_sl [.ref (b0 + 0), .int x2, .ref (b0 + 390)]).length) Slot.unset).toArray) [] := by rw [hargs]; exact lg_entry_eq m _ _
  rw [hE]
  have hl := lv_entry [.ref (b0 + 0), .int x2, .ref (b0 + 390)] (n := 4) (Nat.le_of_ble_eq_true rfl)
  generalize (lg_sl [.ref (b0 + 0), .int x2, .ref (b0 + 390)] ++ List.replicate (4 - (lg_sl [.ref (b0 + 0), .int x2, .ref (b0 + 390)]).length) Slot.unset).toArray = ls at hl ⊢
  have hl : lv_has ls 4 [(0, .ref (b0 + 0)), (1, .int x2), (2, .ref (b0 + 390))] := hl
  unfold wp_L_cut at hw
  refine lv_aload_n hx hb dL_cut_0 rfl (lv_at hl 2 rfl) ?_
  refine lv_iconst (v := 0) hx hb dL_cut_1 (by decide) ?_
  refine lv_aload_n hx hb dL_cut_2 rfl (lv_at hl 0 rfl) ?_
  refine lv_iload_n hx hb dL_cut_3 rfl (lv_at hl 1 rfl) ?_
  refine q_callX (vx_runV (As := [.int x2]) (rest := [.int 0, .ref (b0 + 390)]) ⟨hx, hb, hml, hown, hts⟩ (c_X5_cut l hlt D cy b0 S x2 _ _ hw) (cwV 1 hts gL_cut_X5_cut rfl rfl rfl (by decide +kernel) ⟨(Nat.le_of_ble_eq_true rfl), (Nat.le_of_ble_eq_true rfl)⟩) (q_pV hW hP hF hS (k := 0) (ci := 5) (by decide) (cell_5 (kk_0)) rfl [.int x2]) rfl rfl hl.1 rfl (lv_room (Nat.le_of_ble_eq_true rfl)) dL_cut_4 ⟨(Nat.le_of_ble_eq_true rfl), (Nat.le_of_ble_eq_true rfl)⟩) hS (fun E4 ce q9 S4 t4 H locs hh hw hB hz hS hc9 hv9 hcl9 => ?_) (fun v4 S4 t4 H locs hh hp hB hz hk9 hS => ?_)
  · have hP : HP D cy b0 NALL S4 H := by rw [← hh]; exact hB.1
    have hF := hB.2
    try dsimp only at hw
    by_cases g0 : E4 = eX
    · rw [if_pos g0] at hw
      subst g0
      refine vx_catch (own := RL) (name := eX) hown [] ⟨0, 9, 12, 29⟩ [⟨0, 9, 15, 19⟩] htab (fun z hz => by cases hz) rfl (by decide) (hts (.classLink RL 29 eX) (by decide +kernel)) (va_Nw.use rfl (hW.2.2.2.2.2.2.2.1 eX (by decide))) hc9 hv9 hcl9 ?_
      refine W.eq (g2 := F0 m 12 ls [.ref q9]) rfl ?_
      refine lv_astore_n (lv' := [(3, .ref q9), (0, .ref (b0 + 0)), (1, .int x2), (2, .ref (b0 + 390))]) hx hb dL_cut_12 rfl hl (by decide) rfl (fun ls hl => ?_)
      refine lv_iconst (v := 1) hx hb dL_cut_13 (by decide) ?_
      exact q_iret hx hb hr hP hF hS hw dL_cut_14 hlocks
    · rw [if_neg g0] at hw
      by_cases g1 : E4 = eS
      · rw [if_pos g1] at hw
        subst g1
        refine vx_catch (own := RL) (name := eS) hown [⟨0, 9, 12, 29⟩] ⟨0, 9, 15, 19⟩ [] htab (fun z hz => by rcases List.mem_singleton.mp hz with rfl; exact Or.inr ⟨by decide, eX, hts (.classLink RL 29 eX) (by decide +kernel), hW.2.2.2.2.2.2.1 (eS, eX) (by decide)⟩) rfl (by decide) (hts (.classLink RL 19 eS) (by decide +kernel)) (va_Nw.use rfl (hW.2.2.2.2.2.2.2.1 eS (by decide))) hc9 hv9 hcl9 ?_
        refine W.eq (g2 := F0 m 15 ls [.ref q9]) rfl ?_
        refine lv_astore_n (lv' := [(3, .ref q9), (0, .ref (b0 + 0)), (1, .int x2), (2, .ref (b0 + 390))]) hx hb dL_cut_15 rfl hl (by decide) rfl (fun ls hl => ?_)
        refine lv_iconst (v := 2) hx hb dL_cut_16 (by decide) ?_
        exact q_iret hx hb hr hP hF hS hw dL_cut_17 hlocks
      · rw [if_neg g1] at hw
        exact False.elim hw
  · obtain ⟨r4, rfl, hw⟩ := hp
    have hP : HP D cy b0 NALL S4 H := by rw [← hh]; exact hB.1
    have hF := hB.2
    try dsimp only at hw
    refine W.eq (g2 := F0 m 7 ls [.int r4, .int 0, .ref (b0 + 390)]) rfl ?_
    refine lv_i2l hx hb dL_cut_7 (v := r4.toInt64) rfl ?_
    obtain ⟨h8, hw⟩ := hw
    refine q_last (k := 390) (n := 1) (i := 0) (x := (r4.toInt64)) hx hb hK hP hS (by decide) (kk_390) (ll_390) h8 dL_cut_8 (fun H locs hz hP hS => ?_)
    have hF : Fx (sJ S4 390 ((0 : Int32).toNatClampNeg) (r4.toInt64)) := Fx.sJ hF _ _ _
    generalize eS8 : sJ S4 390 ((0 : Int32).toNatClampNeg) (r4.toInt64) = S8 at hP hF
    have hw := hw S8 eS8.symm
    refine lv_goto (tgt := 18) hx hb dL_cut_9 (by decide) ?_
    refine lv_iconst (v := 0) hx hb dL_cut_18 (by decide) ?_
    exact q_iret hx hb hr hP hF hS hw dL_cut_19 hlocks
set_option maxHeartbeats 4000000 in
set_option maxRecDepth 100000 in
theorem c_L_repair (l : Launch) (hlt : l.stackTraces = false) (D : va_G) (cy : Nat → ClassId) (b0 : Nat) (S : St) (x2 : Int32)  (P : Int32 → St → Prop) (hw : wp_L_repair S x2 P) : Met l yL_repair wsL_repair rm_L_repair (va_Pc [.ref (b0 + 0), .int x2, .ref (b0 + 390)] (Wd D cy b0 NALL S)) (QC (Pi P) (Wb D cy b0 NALL) b0) 2 12 (AA b0) := by
  refine va_MetW (cc := cL_repair) (maxL := 4) (ret := (some .int)) (hh := [(0, 9, 12, 29), (0, 9, 15, 19)]) (by decide) rfl ?_
  intro p e s m args below meth c s₁ B hml hv
  obtain ⟨hargs, hW, hP, hF⟩ := hv
  have hx := B.exec
  have hb := B.bytes
  have hr := B.returns
  have hts := atoms_spec (ws := wsL_repair) B.pre
  have hown : s.vm.findClass RL = some m.cls := findClass_of_methodNamed B.named
  have hlocks := B.notSynchronized
  have hK := hW.1
  have hS : va_S (AA b0) s.heap s.heap [] := va_S.rf
  have htab : c.exceptionTable.toList = [⟨0, 9, 12, 29⟩, ⟨0, 9, 15, 19⟩] := vx_table (x := yL_repair) B (hts (.codeWith yL_repair cL_repair 4 (some .int) [(0, 9, 12, 29), (0, 9, 15, 19)]) (by unfold wsL_repair; exact List.mem_cons_self))
  have hE : entryFrame m args 4 = F0 m 0 ((lg_sl [.ref (b0 + 0), .int x2, .ref (b0 + 390)] ++ List.replicate (4 - (lg_sl [.ref (b0 + 0), .int x2, .ref (b0 + 390)]).length) Slot.unset).toArray) [] := by rw [hargs]; exact lg_entry_eq m _ _
  rw [hE]
  have hl := lv_entry [.ref (b0 + 0), .int x2, .ref (b0 + 390)] (n := 4) (Nat.le_of_ble_eq_true rfl)
  generalize (lg_sl [.ref (b0 + 0), .int x2, .ref (b0 + 390)] ++ List.replicate (4 - (lg_sl [.ref (b0 + 0), .int x2, .ref (b0 + 390)]).length) Slot.unset).toArray = ls at hl ⊢
  have hl : lv_has ls 4 [(0, .ref (b0 + 0)), (1, .int x2), (2, .ref (b0 + 390))] := hl
  unfold wp_L_repair at hw
  refine lv_aload_n hx hb dL_repair_0 rfl (lv_at hl 2 rfl) ?_
  refine lv_iconst (v := 0) hx hb dL_repair_1 (by decide) ?_
  refine lv_aload_n hx hb dL_repair_2 rfl (lv_at hl 0 rfl) ?_
  refine lv_iload_n hx hb dL_repair_3 rfl (lv_at hl 1 rfl) ?_
  refine q_callX (vx_runV (As := [.int x2]) (rest := [.int 0, .ref (b0 + 390)]) ⟨hx, hb, hml, hown, hts⟩ (c_X5_repair l hlt D cy b0 S x2 _ _ hw) (cwV 1 hts gL_repair_X5_repair rfl rfl rfl (by decide +kernel) ⟨(Nat.le_of_ble_eq_true rfl), (Nat.le_of_ble_eq_true rfl)⟩) (q_pV hW hP hF hS (k := 0) (ci := 5) (by decide) (cell_5 (kk_0)) rfl [.int x2]) rfl rfl hl.1 rfl (lv_room (Nat.le_of_ble_eq_true rfl)) dL_repair_4 ⟨(Nat.le_of_ble_eq_true rfl), (Nat.le_of_ble_eq_true rfl)⟩) hS (fun E4 ce q9 S4 t4 H locs hh hw hB hz hS hc9 hv9 hcl9 => ?_) (fun v4 S4 t4 H locs hh hp hB hz hk9 hS => ?_)
  · have hP : HP D cy b0 NALL S4 H := by rw [← hh]; exact hB.1
    have hF := hB.2
    try dsimp only at hw
    by_cases g0 : E4 = eX
    · rw [if_pos g0] at hw
      subst g0
      refine vx_catch (own := RL) (name := eX) hown [] ⟨0, 9, 12, 29⟩ [⟨0, 9, 15, 19⟩] htab (fun z hz => by cases hz) rfl (by decide) (hts (.classLink RL 29 eX) (by decide +kernel)) (va_Nw.use rfl (hW.2.2.2.2.2.2.2.1 eX (by decide))) hc9 hv9 hcl9 ?_
      refine W.eq (g2 := F0 m 12 ls [.ref q9]) rfl ?_
      refine lv_astore_n (lv' := [(3, .ref q9), (0, .ref (b0 + 0)), (1, .int x2), (2, .ref (b0 + 390))]) hx hb dL_repair_12 rfl hl (by decide) rfl (fun ls hl => ?_)
      refine lv_iconst (v := 1) hx hb dL_repair_13 (by decide) ?_
      exact q_iret hx hb hr hP hF hS hw dL_repair_14 hlocks
    · rw [if_neg g0] at hw
      by_cases g1 : E4 = eS
      · rw [if_pos g1] at hw
        subst g1
        refine vx_catch (own := RL) (name := eS) hown [⟨0, 9, 12, 29⟩] ⟨0, 9, 15, 19⟩ [] htab (fun z hz => by rcases List.mem_singleton.mp hz with rfl; exact Or.inr ⟨by decide, eX, hts (.classLink RL 29 eX) (by decide +kernel), hW.2.2.2.2.2.2.1 (eS, eX) (by decide)⟩) rfl (by decide) (hts (.classLink RL 19 eS) (by decide +kernel)) (va_Nw.use rfl (hW.2.2.2.2.2.2.2.1 eS (by decide))) hc9 hv9 hcl9 ?_
        refine W.eq (g2 := F0 m 15 ls [.ref q9]) rfl ?_
        refine lv_astore_n (lv' := [(3, .ref q9), (0, .ref (b0 + 0)), (1, .int x2), (2, .ref (b0 + 390))]) hx hb dL_repair_15 rfl hl (by decide) rfl (fun ls hl => ?_)
        refine lv_iconst (v := 2) hx hb dL_repair_16 (by decide) ?_
        exact q_iret hx hb hr hP hF hS hw dL_repair_17 hlocks
      · rw [if_neg g1] at hw
        exact False.elim hw
  · obtain ⟨r4, rfl, hw⟩ := hp
    have hP : HP D cy b0 NALL S4 H := by rw [← hh]; exact hB.1
    have hF := hB.2
    try dsimp only at hw
    refine W.eq (g2 := F0 m 7 ls [.int r4, .int 0, .ref (b0 + 390)]) rfl ?_
    refine lv_i2l hx hb dL_repair_7 (v := r4.toInt64) rfl ?_
    obtain ⟨h8, hw⟩ := hw
    refine q_last (k := 390) (n := 1) (i := 0) (x := (r4.toInt64)) hx hb hK hP hS (by decide) (kk_390) (ll_390) h8 dL_repair_8 (fun H locs hz hP hS => ?_)
    have hF : Fx (sJ S4 390 ((0 : Int32).toNatClampNeg) (r4.toInt64)) := Fx.sJ hF _ _ _
    generalize eS8 : sJ S4 390 ((0 : Int32).toNatClampNeg) (r4.toInt64) = S8 at hP hF
    have hw := hw S8 eS8.symm
    refine lv_goto (tgt := 18) hx hb dL_repair_9 (by decide) ?_
    refine lv_iconst (v := 0) hx hb dL_repair_18 (by decide) ?_
    exact q_iret hx hb hr hP hF hS hw dL_repair_19 hlocks
set_option maxHeartbeats 4000000 in
set_option maxRecDepth 100000 in
theorem c_L_lightOn (l : Launch) (hlt : l.stackTraces = false) (D : va_G) (cy : Nat → ClassId) (b0 : Nat) (S : St) (x2 : Int32) (x3 : Int32)  (P : Int32 → St → Prop) (hw : wp_L_lightOn S x2 x3 P) : Met l yL_lightOn wsL_lightOn rm_L_lightOn (va_Pc [.ref (b0 + 0), .int x2, .int x3, .ref (b0 + 390)] (Wd D cy b0 NALL S)) (QC (Pi P) (Wb D cy b0 NALL) b0) 2 12 (AA b0) := by
  refine va_MetW (cc := cL_lightOn) (maxL := 5) (ret := (some .int)) (hh := [(0, 10, 13, 29), (0, 10, 17, 13)]) (by decide) rfl ?_
  intro p e s m args below meth c s₁ B hml hv
  obtain ⟨hargs, hW, hP, hF⟩ := hv
  have hx := B.exec
  have hb := B.bytes
  have hr := B.returns
  have hts := atoms_spec (ws := wsL_lightOn) B.pre
  have hown : s.vm.findClass RL = some m.cls := findClass_of_methodNamed B.named
  have hlocks := B.notSynchronized
  have hK := hW.1
  have hS : va_S (AA b0) s.heap s.heap [] := va_S.rf
  have htab : c.exceptionTable.toList = [⟨0, 10, 13, 29⟩, ⟨0, 10, 17, 13⟩] := vx_table (x := yL_lightOn) B (hts (.codeWith yL_lightOn cL_lightOn 5 (some .int) [(0, 10, 13, 29), (0, 10, 17, 13)]) (by unfold wsL_lightOn; exact List.mem_cons_self))
  have hE : entryFrame m args 5 = F0 m 0 ((lg_sl [.ref (b0 + 0), .int x2, .int x3, .ref (b0 + 390)] ++ List.replicate (5 - (lg_sl [.ref (b0 + 0), .int x2, .int x3, .ref (b0 + 390)]).length) Slot.unset).toArray) [] := by rw [hargs]; exact lg_entry_eq m _ _
  rw [hE]
  have hl := lv_entry [.ref (b0 + 0), .int x2, .int x3, .ref (b0 + 390)] (n := 5) (Nat.le_of_ble_eq_true rfl)
  generalize (lg_sl [.ref (b0 + 0), .int x2, .int x3, .ref (b0 + 390)] ++ List.replicate (5 - (lg_sl [.ref (b0 + 0), .int x2, .int x3, .ref (b0 + 390)]).length) Slot.unset).toArray = ls at hl ⊢
  have hl : lv_has ls 5 [(0, .ref (b0 + 0)), (1, .int x2), (2, .int x3), (3, .ref (b0 + 390))] := hl
  unfold wp_L_lightOn at hw
  refine lv_aload_n hx hb dL_lightOn_0 rfl (lv_at hl 3 rfl) ?_
  refine lv_iconst (v := 0) hx hb dL_lightOn_1 (by decide) ?_
  refine lv_aload_n hx hb dL_lightOn_2 rfl (lv_at hl 0 rfl) ?_
  refine lv_iload_n hx hb dL_lightOn_3 rfl (lv_at hl 1 rfl) ?_
  refine lv_iload_n hx hb dL_lightOn_4 rfl (lv_at hl 2 rfl) ?_
  refine q_callX (vx_runV (As := [.int x2, .int x3]) (rest := [.int 0, .ref (b0 + 390)]) ⟨hx, hb, hml, hown, hts⟩ (c_X5_lightOn l hlt D cy b0 S x2 x3 _ _ hw) (cwV 2 hts gL_lightOn_X5_lightOn rfl rfl rfl (by decide +kernel) ⟨(Nat.le_of_ble_eq_true rfl), (Nat.le_of_ble_eq_true rfl)⟩) (q_pV hW hP hF hS (k := 0) (ci := 5) (by decide) (cell_5 (kk_0)) rfl [.int x2, .int x3]) rfl rfl hl.1 rfl (lv_room (Nat.le_of_ble_eq_true rfl)) dL_lightOn_5 ⟨(Nat.le_of_ble_eq_true rfl), (Nat.le_of_ble_eq_true rfl)⟩) hS (fun E5 ce q9 S5 t5 H locs hh hw hB hz hS hc9 hv9 hcl9 => ?_) (fun v5 S5 t5 H locs hh hp hB hz hk9 hS => ?_)
  · have hP : HP D cy b0 NALL S5 H := by rw [← hh]; exact hB.1
    have hF := hB.2
    try dsimp only at hw
    by_cases g0 : E5 = eX
    · rw [if_pos g0] at hw
      subst g0
      refine vx_catch (own := RL) (name := eX) hown [] ⟨0, 10, 13, 29⟩ [⟨0, 10, 17, 13⟩] htab (fun z hz => by cases hz) rfl (by decide) (hts (.classLink RL 29 eX) (by decide +kernel)) (va_Nw.use rfl (hW.2.2.2.2.2.2.2.1 eX (by decide))) hc9 hv9 hcl9 ?_
      refine W.eq (g2 := F0 m 13 ls [.ref q9]) rfl ?_
      refine lv_astore (lv' := [(4, .ref q9), (0, .ref (b0 + 0)), (1, .int x2), (2, .int x3), (3, .ref (b0 + 390))]) hx hb dL_lightOn_13 hl (by decide) rfl (fun ls hl => ?_)
      refine lv_iconst (v := 1) hx hb dL_lightOn_15 (by decide) ?_
      exact q_iret hx hb hr hP hF hS hw dL_lightOn_16 hlocks
    · rw [if_neg g0] at hw
      by_cases g1 : E5 = eA
      · rw [if_pos g1] at hw
        subst g1
        refine vx_catch (own := RL) (name := eA) hown [⟨0, 10, 13, 29⟩] ⟨0, 10, 17, 13⟩ [] htab (fun z hz => by rcases List.mem_singleton.mp hz with rfl; exact Or.inr ⟨by decide, eX, hts (.classLink RL 29 eX) (by decide +kernel), hW.2.2.2.2.2.2.1 (eA, eX) (by decide)⟩) rfl (by decide) (hts (.classLink RL 13 eA) (by decide +kernel)) (va_Nw.use rfl (hW.2.2.2.2.2.2.2.1 eA (by decide))) hc9 hv9 hcl9 ?_
        refine W.eq (g2 := F0 m 17 ls [.ref q9]) rfl ?_
        refine lv_astore (lv' := [(4, .ref q9), (0, .ref (b0 + 0)), (1, .int x2), (2, .int x3), (3, .ref (b0 + 390))]) hx hb dL_lightOn_17 hl (by decide) rfl (fun ls hl => ?_)
        refine lv_iconst (v := 2) hx hb dL_lightOn_19 (by decide) ?_
        exact q_iret hx hb hr hP hF hS hw dL_lightOn_20 hlocks
      · rw [if_neg g1] at hw
        exact False.elim hw
  · obtain ⟨r5, rfl, hw⟩ := hp
    have hP : HP D cy b0 NALL S5 H := by rw [← hh]; exact hB.1
    have hF := hB.2
    try dsimp only at hw
    refine W.eq (g2 := F0 m 8 ls [.int r5, .int 0, .ref (b0 + 390)]) rfl ?_
    refine lv_i2l hx hb dL_lightOn_8 (v := r5.toInt64) rfl ?_
    obtain ⟨h9, hw⟩ := hw
    refine q_last (k := 390) (n := 1) (i := 0) (x := (r5.toInt64)) hx hb hK hP hS (by decide) (kk_390) (ll_390) h9 dL_lightOn_9 (fun H locs hz hP hS => ?_)
    have hF : Fx (sJ S5 390 ((0 : Int32).toNatClampNeg) (r5.toInt64)) := Fx.sJ hF _ _ _
    generalize eS9 : sJ S5 390 ((0 : Int32).toNatClampNeg) (r5.toInt64) = S9 at hP hF
    have hw := hw S9 eS9.symm
    refine lv_goto (tgt := 21) hx hb dL_lightOn_10 (by decide) ?_
    refine lv_iconst (v := 0) hx hb dL_lightOn_21 (by decide) ?_
    exact q_iret hx hb hr hP hF hS hw dL_lightOn_22 hlocks
set_option maxHeartbeats 4000000 in
set_option maxRecDepth 100000 in
theorem c_L_usage (l : Launch) (hlt : l.stackTraces = false) (D : va_G) (cy : Nat → ClassId) (b0 : Nat) (S : St)   (P : Int32 → St → Prop) (hw : wp_L_usage S  P) : Met l yL_usage wsL_usage rm_L_usage (va_Pc [.ref (b0 + 0), .ref (b0 + 391)] (Wd D cy b0 NALL S)) (QC (Pi P) (Wb D cy b0 NALL) b0) 1 6 (AA b0) := by
  refine va_MetW (cc := cL_usage) (maxL := 3) (ret := (some .int)) (hh := [(0, 8, 11, 19)]) (by decide) rfl ?_
  intro p e s m args below meth c s₁ B hml hv
  obtain ⟨hargs, hW, hP, hF⟩ := hv
  have hx := B.exec
  have hb := B.bytes
  have hr := B.returns
  have hts := atoms_spec (ws := wsL_usage) B.pre
  have hown : s.vm.findClass RL = some m.cls := findClass_of_methodNamed B.named
  have hlocks := B.notSynchronized
  have hK := hW.1
  have hS : va_S (AA b0) s.heap s.heap [] := va_S.rf
  have htab : c.exceptionTable.toList = [⟨0, 8, 11, 19⟩] := vx_table (x := yL_usage) B (hts (.codeWith yL_usage cL_usage 3 (some .int) [(0, 8, 11, 19)]) (by unfold wsL_usage; exact List.mem_cons_self))
  have hE : entryFrame m args 3 = F0 m 0 ((lg_sl [.ref (b0 + 0), .ref (b0 + 391)] ++ List.replicate (3 - (lg_sl [.ref (b0 + 0), .ref (b0 + 391)]).length) Slot.unset).toArray) [] := by rw [hargs]; exact lg_entry_eq m _ _
  rw [hE]
  have hl := lv_entry [.ref (b0 + 0), .ref (b0 + 391)] (n := 3) (Nat.le_of_ble_eq_true rfl)
  generalize (lg_sl [.ref (b0 + 0), .ref (b0 + 391)] ++ List.replicate (3 - (lg_sl [.ref (b0 + 0), .ref (b0 + 391)]).length) Slot.unset).toArray = ls at hl ⊢
  have hl : lv_has ls 3 [(0, .ref (b0 + 0)), (1, .ref (b0 + 391))] := hl
  unfold wp_L_usage at hw
  refine lv_aload_n hx hb dL_usage_0 rfl (lv_at hl 1 rfl) ?_
  refine lv_iconst (v := 0) hx hb dL_usage_1 (by decide) ?_
  refine lv_aload_n hx hb dL_usage_2 rfl (lv_at hl 0 rfl) ?_
  refine q_callX (vx_runV (As := []) (rest := [.int 0, .ref (b0 + 391)]) ⟨hx, hb, hml, hown, hts⟩ (c_X5_usage l hlt D cy b0 S _ _ hw) (cwV 0 hts gL_usage_X5_usage rfl rfl rfl (by decide +kernel) ⟨(Nat.le_of_ble_eq_true rfl), (Nat.le_of_ble_eq_true rfl)⟩) (q_pV hW hP hF hS (k := 0) (ci := 5) (by decide) (cell_5 (kk_0)) rfl []) rfl rfl hl.1 rfl (lv_room (Nat.le_of_ble_eq_true rfl)) dL_usage_3 ⟨(Nat.le_of_ble_eq_true rfl), (Nat.le_of_ble_eq_true rfl)⟩) hS (fun E3 ce q9 S3 t3 H locs hh hw hB hz hS hc9 hv9 hcl9 => ?_) (fun v3 S3 t3 H locs hh hp hB hz hk9 hS => ?_)
  · have hP : HP D cy b0 NALL S3 H := by rw [← hh]; exact hB.1
    have hF := hB.2
    try dsimp only at hw
    by_cases g0 : E3 = eS
    · rw [if_pos g0] at hw
      subst g0
      refine vx_catch (own := RL) (name := eS) hown [] ⟨0, 8, 11, 19⟩ [] htab (fun z hz => by cases hz) rfl (by decide) (hts (.classLink RL 19 eS) (by decide +kernel)) (va_Nw.use rfl (hW.2.2.2.2.2.2.2.1 eS (by decide))) hc9 hv9 hcl9 ?_
      refine W.eq (g2 := F0 m 11 ls [.ref q9]) rfl ?_
      refine lv_astore_n (lv' := [(2, .ref q9), (0, .ref (b0 + 0)), (1, .ref (b0 + 391))]) hx hb dL_usage_11 rfl hl (by decide) rfl (fun ls hl => ?_)
      refine lv_iconst (v := 1) hx hb dL_usage_12 (by decide) ?_
      exact q_iret hx hb hr hP hF hS hw dL_usage_13 hlocks
    · rw [if_neg g0] at hw
      exact False.elim hw
  · obtain ⟨r3, rfl, hw⟩ := hp
    have hP : HP D cy b0 NALL S3 H := by rw [← hh]; exact hB.1
    have hF := hB.2
    try dsimp only at hw
    refine W.eq (g2 := F0 m 6 ls [.float r3, .int 0, .ref (b0 + 391)]) rfl ?_
    obtain ⟨h6, hw⟩ := hw
    refine lv_f2d hx hb dL_usage_6 h6 ?_
    obtain ⟨h7, hw⟩ := hw
    refine q_dast (k := 391) (n := 1) (i := 0) (x := (FP.f2d r3)) hx hb hK hP hS (by decide) (kk_391) (ll_391) h7 dL_usage_7 (fun H locs hz hP hS => ?_)
    have hF : Fx (sD S3 391 ((0 : Int32).toNatClampNeg) (FP.f2d r3)) := Fx.sD hF _ _ _
    generalize eS7 : sD S3 391 ((0 : Int32).toNatClampNeg) (FP.f2d r3) = S7 at hP hF
    have hw := hw S7 eS7.symm
    refine lv_goto (tgt := 14) hx hb dL_usage_8 (by decide) ?_
    refine lv_iconst (v := 0) hx hb dL_usage_14 (by decide) ?_
    exact q_iret hx hb hr hP hF hS hw dL_usage_15 hlocks
set_option maxHeartbeats 4000000 in
set_option maxRecDepth 100000 in
theorem c_L_request (l : Launch) (hlt : l.stackTraces = false) (D : va_G) (cy : Nat → ClassId) (b0 : Nat) (S : St) (x2 : Int32) (x3 : Int32) (x4 : Int32) (x5 : Int32)  (P : Int32 → St → Prop) (hw : wp_L_request S x2 x3 x4 x5 P) : Met l yL_request wsL_request rm_L_request (va_Pc [.ref (b0 + 0), .int x2, .int x3, .int x4, .int x5, .ref (b0 + 390)] (Wd D cy b0 NALL S)) (QC (Pi P) (Wb D cy b0 NALL) b0) 1 6 (AA b0) := by
  refine va_MetW (cc := cL_request) (maxL := 7) (ret := (some .int)) (hh := [(0, 14, 17, 13), (0, 14, 21, 19)]) (by decide) rfl ?_
  intro p e s m args below meth c s₁ B hml hv
  obtain ⟨hargs, hW, hP, hF⟩ := hv
  have hx := B.exec
  have hb := B.bytes
  have hr := B.returns
  have hts := atoms_spec (ws := wsL_request) B.pre
  have hown : s.vm.findClass RL = some m.cls := findClass_of_methodNamed B.named
  have hlocks := B.notSynchronized
  have hK := hW.1
  have hS : va_S (AA b0) s.heap s.heap [] := va_S.rf
  have htab : c.exceptionTable.toList = [⟨0, 14, 17, 13⟩, ⟨0, 14, 21, 19⟩] := vx_table (x := yL_request) B (hts (.codeWith yL_request cL_request 7 (some .int) [(0, 14, 17, 13), (0, 14, 21, 19)]) (by unfold wsL_request; exact List.mem_cons_self))
  have hE : entryFrame m args 7 = F0 m 0 ((lg_sl [.ref (b0 + 0), .int x2, .int x3, .int x4, .int x5, .ref (b0 + 390)] ++ List.replicate (7 - (lg_sl [.ref (b0 + 0), .int x2, .int x3, .int x4, .int x5, .ref (b0 + 390)]).length) Slot.unset).toArray) [] := by rw [hargs]; exact lg_entry_eq m _ _
  rw [hE]
  have hl := lv_entry [.ref (b0 + 0), .int x2, .int x3, .int x4, .int x5, .ref (b0 + 390)] (n := 7) (Nat.le_of_ble_eq_true rfl)
  generalize (lg_sl [.ref (b0 + 0), .int x2, .int x3, .int x4, .int x5, .ref (b0 + 390)] ++ List.replicate (7 - (lg_sl [.ref (b0 + 0), .int x2, .int x3, .int x4, .int x5, .ref (b0 + 390)]).length) Slot.unset).toArray = ls at hl ⊢
  have hl : lv_has ls 7 [(0, .ref (b0 + 0)), (1, .int x2), (2, .int x3), (3, .int x4), (4, .int x5), (5, .ref (b0 + 390))] := hl
  unfold wp_L_request at hw
  refine lv_aload hx hb dL_request_0 (lv_at hl 5 rfl) ?_
  refine lv_iconst (v := 0) hx hb dL_request_2 (by decide) ?_
  refine lv_aload_n hx hb dL_request_3 rfl (lv_at hl 0 rfl) ?_
  refine lv_iload_n hx hb dL_request_4 rfl (lv_at hl 1 rfl) ?_
  refine lv_iload_n hx hb dL_request_5 rfl (lv_at hl 2 rfl) ?_
  refine lv_iload_n hx hb dL_request_6 rfl (lv_at hl 3 rfl) ?_
  refine lv_iload hx hb dL_request_7 (lv_at hl 4 rfl) ?_
  refine q_callX (vx_runV (As := [.int x2, .int x3, .int x4, .int x5]) (rest := [.int 0, .ref (b0 + 390)]) ⟨hx, hb, hml, hown, hts⟩ (c_X5_request l hlt D cy b0 S x2 x3 x4 x5 _ _ hw) (cwV 4 hts gL_request_X5_request rfl rfl rfl (by decide +kernel) ⟨(Nat.le_of_ble_eq_true rfl), (Nat.le_of_ble_eq_true rfl)⟩) (q_pV hW hP hF hS (k := 0) (ci := 5) (by decide) (cell_5 (kk_0)) rfl [.int x2, .int x3, .int x4, .int x5]) rfl rfl hl.1 rfl (lv_room (Nat.le_of_ble_eq_true rfl)) dL_request_9 ⟨(Nat.le_of_ble_eq_true rfl), (Nat.le_of_ble_eq_true rfl)⟩) hS (fun E9 ce q9 S9 t9 H locs hh hw hB hz hS hc9 hv9 hcl9 => ?_) (fun v9 S9 t9 H locs hh hp hB hz hk9 hS => ?_)
  · have hP : HP D cy b0 NALL S9 H := by rw [← hh]; exact hB.1
    have hF := hB.2
    try dsimp only at hw
    by_cases g0 : E9 = eA
    · rw [if_pos g0] at hw
      subst g0
      refine vx_catch (own := RL) (name := eA) hown [] ⟨0, 14, 17, 13⟩ [⟨0, 14, 21, 19⟩] htab (fun z hz => by cases hz) rfl (by decide) (hts (.classLink RL 13 eA) (by decide +kernel)) (va_Nw.use rfl (hW.2.2.2.2.2.2.2.1 eA (by decide))) hc9 hv9 hcl9 ?_
      refine W.eq (g2 := F0 m 17 ls [.ref q9]) rfl ?_
      refine lv_astore (lv' := [(6, .ref q9), (0, .ref (b0 + 0)), (1, .int x2), (2, .int x3), (3, .int x4), (4, .int x5), (5, .ref (b0 + 390))]) hx hb dL_request_17 hl (by decide) rfl (fun ls hl => ?_)
      refine lv_iconst (v := 1) hx hb dL_request_19 (by decide) ?_
      exact q_iret hx hb hr hP hF hS hw dL_request_20 hlocks
    · rw [if_neg g0] at hw
      by_cases g1 : E9 = eS
      · rw [if_pos g1] at hw
        subst g1
        refine vx_catch (own := RL) (name := eS) hown [⟨0, 14, 17, 13⟩] ⟨0, 14, 21, 19⟩ [] htab (fun z hz => by rcases List.mem_singleton.mp hz with rfl; exact Or.inr ⟨by decide, eA, hts (.classLink RL 13 eA) (by decide +kernel), hW.2.2.2.2.2.2.1 (eS, eA) (by decide)⟩) rfl (by decide) (hts (.classLink RL 19 eS) (by decide +kernel)) (va_Nw.use rfl (hW.2.2.2.2.2.2.2.1 eS (by decide))) hc9 hv9 hcl9 ?_
        refine W.eq (g2 := F0 m 21 ls [.ref q9]) rfl ?_
        refine lv_astore (lv' := [(6, .ref q9), (0, .ref (b0 + 0)), (1, .int x2), (2, .int x3), (3, .int x4), (4, .int x5), (5, .ref (b0 + 390))]) hx hb dL_request_21 hl (by decide) rfl (fun ls hl => ?_)
        refine lv_iconst (v := 2) hx hb dL_request_23 (by decide) ?_
        exact q_iret hx hb hr hP hF hS hw dL_request_24 hlocks
      · rw [if_neg g1] at hw
        exact False.elim hw
  · obtain ⟨r9, rfl, hw⟩ := hp
    have hP : HP D cy b0 NALL S9 H := by rw [← hh]; exact hB.1
    have hF := hB.2
    try dsimp only at hw
    refine W.eq (g2 := F0 m 12 ls [.int r9, .int 0, .ref (b0 + 390)]) rfl ?_
    refine lv_i2l hx hb dL_request_12 (v := r9.toInt64) rfl ?_
    obtain ⟨h13, hw⟩ := hw
    refine q_last (k := 390) (n := 1) (i := 0) (x := (r9.toInt64)) hx hb hK hP hS (by decide) (kk_390) (ll_390) h13 dL_request_13 (fun H locs hz hP hS => ?_)
    have hF : Fx (sJ S9 390 ((0 : Int32).toNatClampNeg) (r9.toInt64)) := Fx.sJ hF _ _ _
    generalize eS13 : sJ S9 390 ((0 : Int32).toNatClampNeg) (r9.toInt64) = S13 at hP hF
    have hw := hw S13 eS13.symm
    refine lv_goto (tgt := 25) hx hb dL_request_14 (by decide) ?_
    refine lv_iconst (v := 0) hx hb dL_request_25 (by decide) ?_
    exact q_iret hx hb hr hP hF hS hw dL_request_26 hlocks
set_option maxHeartbeats 4000000 in
set_option maxRecDepth 100000 in
theorem c_L_newLength (l : Launch) (hlt : l.stackTraces = false) (D : va_G) (cy : Nat → ClassId) (b0 : Nat) (S : St) (x2 : Int32) (x3 : Int32) (x4 : Int32)  (P : Int32 → St → Prop) (hw : wp_L_newLength S x2 x3 x4 P) : Met l yL_newLength wsL_newLength rm_L_newLength (va_Pc [.ref (b0 + 0), .int x2, .int x3, .int x4, .ref (b0 + 390)] (Wd D cy b0 NALL S)) (QC (Pi P) (Wb D cy b0 NALL) b0) 1 6 (AA b0) := by
  refine va_MetW (cc := cL_newLength) (maxL := 6) (ret := (some .int)) (hh := [(0, 12, 15, 13), (0, 12, 19, 19)]) (by decide) rfl ?_
  intro p e s m args below meth c s₁ B hml hv
  obtain ⟨hargs, hW, hP, hF⟩ := hv
  have hx := B.exec
  have hb := B.bytes
  have hr := B.returns
  have hts := atoms_spec (ws := wsL_newLength) B.pre
  have hown : s.vm.findClass RL = some m.cls := findClass_of_methodNamed B.named
  have hlocks := B.notSynchronized
  have hK := hW.1
  have hS : va_S (AA b0) s.heap s.heap [] := va_S.rf
  have htab : c.exceptionTable.toList = [⟨0, 12, 15, 13⟩, ⟨0, 12, 19, 19⟩] := vx_table (x := yL_newLength) B (hts (.codeWith yL_newLength cL_newLength 6 (some .int) [(0, 12, 15, 13), (0, 12, 19, 19)]) (by unfold wsL_newLength; exact List.mem_cons_self))
  have hE : entryFrame m args 6 = F0 m 0 ((lg_sl [.ref (b0 + 0), .int x2, .int x3, .int x4, .ref (b0 + 390)] ++ List.replicate (6 - (lg_sl [.ref (b0 + 0), .int x2, .int x3, .int x4, .ref (b0 + 390)]).length) Slot.unset).toArray) [] := by rw [hargs]; exact lg_entry_eq m _ _
  rw [hE]
  have hl := lv_entry [.ref (b0 + 0), .int x2, .int x3, .int x4, .ref (b0 + 390)] (n := 6) (Nat.le_of_ble_eq_true rfl)
  generalize (lg_sl [.ref (b0 + 0), .int x2, .int x3, .int x4, .ref (b0 + 390)] ++ List.replicate (6 - (lg_sl [.ref (b0 + 0), .int x2, .int x3, .int x4, .ref (b0 + 390)]).length) Slot.unset).toArray = ls at hl ⊢
  have hl : lv_has ls 6 [(0, .ref (b0 + 0)), (1, .int x2), (2, .int x3), (3, .int x4), (4, .ref (b0 + 390))] := hl
  unfold wp_L_newLength at hw
  refine lv_aload hx hb dL_newLength_0 (lv_at hl 4 rfl) ?_
  refine lv_iconst (v := 0) hx hb dL_newLength_2 (by decide) ?_
  refine lv_aload_n hx hb dL_newLength_3 rfl (lv_at hl 0 rfl) ?_
  refine lv_iload_n hx hb dL_newLength_4 rfl (lv_at hl 1 rfl) ?_
  refine lv_iload_n hx hb dL_newLength_5 rfl (lv_at hl 2 rfl) ?_
  refine lv_iload_n hx hb dL_newLength_6 rfl (lv_at hl 3 rfl) ?_
  refine q_callX (vx_runV (As := [.int x2, .int x3, .int x4]) (rest := [.int 0, .ref (b0 + 390)]) ⟨hx, hb, hml, hown, hts⟩ (c_X5_newLength l hlt D cy b0 S x2 x3 x4 _ _ hw) (cwV 3 hts gL_newLength_X5_newLength rfl rfl rfl (by decide +kernel) ⟨(Nat.le_of_ble_eq_true rfl), (Nat.le_of_ble_eq_true rfl)⟩) (q_pV hW hP hF hS (k := 0) (ci := 5) (by decide) (cell_5 (kk_0)) rfl [.int x2, .int x3, .int x4]) rfl rfl hl.1 rfl (lv_room (Nat.le_of_ble_eq_true rfl)) dL_newLength_7 ⟨(Nat.le_of_ble_eq_true rfl), (Nat.le_of_ble_eq_true rfl)⟩) hS (fun E7 ce q9 S7 t7 H locs hh hw hB hz hS hc9 hv9 hcl9 => ?_) (fun v7 S7 t7 H locs hh hp hB hz hk9 hS => ?_)
  · have hP : HP D cy b0 NALL S7 H := by rw [← hh]; exact hB.1
    have hF := hB.2
    try dsimp only at hw
    by_cases g0 : E7 = eA
    · rw [if_pos g0] at hw
      subst g0
      refine vx_catch (own := RL) (name := eA) hown [] ⟨0, 12, 15, 13⟩ [⟨0, 12, 19, 19⟩] htab (fun z hz => by cases hz) rfl (by decide) (hts (.classLink RL 13 eA) (by decide +kernel)) (va_Nw.use rfl (hW.2.2.2.2.2.2.2.1 eA (by decide))) hc9 hv9 hcl9 ?_
      refine W.eq (g2 := F0 m 15 ls [.ref q9]) rfl ?_
      refine lv_astore (lv' := [(5, .ref q9), (0, .ref (b0 + 0)), (1, .int x2), (2, .int x3), (3, .int x4), (4, .ref (b0 + 390))]) hx hb dL_newLength_15 hl (by decide) rfl (fun ls hl => ?_)
      refine lv_iconst (v := 1) hx hb dL_newLength_17 (by decide) ?_
      exact q_iret hx hb hr hP hF hS hw dL_newLength_18 hlocks
    · rw [if_neg g0] at hw
      by_cases g1 : E7 = eS
      · rw [if_pos g1] at hw
        subst g1
        refine vx_catch (own := RL) (name := eS) hown [⟨0, 12, 15, 13⟩] ⟨0, 12, 19, 19⟩ [] htab (fun z hz => by rcases List.mem_singleton.mp hz with rfl; exact Or.inr ⟨by decide, eA, hts (.classLink RL 13 eA) (by decide +kernel), hW.2.2.2.2.2.2.1 (eS, eA) (by decide)⟩) rfl (by decide) (hts (.classLink RL 19 eS) (by decide +kernel)) (va_Nw.use rfl (hW.2.2.2.2.2.2.2.1 eS (by decide))) hc9 hv9 hcl9 ?_
        refine W.eq (g2 := F0 m 19 ls [.ref q9]) rfl ?_
        refine lv_astore (lv' := [(5, .ref q9), (0, .ref (b0 + 0)), (1, .int x2), (2, .int x3), (3, .int x4), (4, .ref (b0 + 390))]) hx hb dL_newLength_19 hl (by decide) rfl (fun ls hl => ?_)
        refine lv_iconst (v := 2) hx hb dL_newLength_21 (by decide) ?_
        exact q_iret hx hb hr hP hF hS hw dL_newLength_22 hlocks
      · rw [if_neg g1] at hw
        exact False.elim hw
  · obtain ⟨r7, rfl, hw⟩ := hp
    have hP : HP D cy b0 NALL S7 H := by rw [← hh]; exact hB.1
    have hF := hB.2
    try dsimp only at hw
    refine W.eq (g2 := F0 m 10 ls [.int r7, .int 0, .ref (b0 + 390)]) rfl ?_
    refine lv_i2l hx hb dL_newLength_10 (v := r7.toInt64) rfl ?_
    obtain ⟨h11, hw⟩ := hw
    refine q_last (k := 390) (n := 1) (i := 0) (x := (r7.toInt64)) hx hb hK hP hS (by decide) (kk_390) (ll_390) h11 dL_newLength_11 (fun H locs hz hP hS => ?_)
    have hF : Fx (sJ S7 390 ((0 : Int32).toNatClampNeg) (r7.toInt64)) := Fx.sJ hF _ _ _
    generalize eS11 : sJ S7 390 ((0 : Int32).toNatClampNeg) (r7.toInt64) = S11 at hP hF
    have hw := hw S11 eS11.symm
    refine lv_goto (tgt := 23) hx hb dL_newLength_12 (by decide) ?_
    refine lv_iconst (v := 0) hx hb dL_newLength_23 (by decide) ?_
    exact q_iret hx hb hr hP hF hS hw dL_newLength_24 hlocks
set_option maxHeartbeats 4000000 in
set_option maxRecDepth 100000 in
theorem c_L_release (l : Launch) (hlt : l.stackTraces = false) (D : va_G) (cy : Nat → ClassId) (b0 : Nat) (S : St) (x2 : Int32)  (P : Int32 → St → Prop) (hw : wp_L_release S x2 P) : Met l yL_release wsL_release rm_L_release (va_Pc [.ref (b0 + 0), .int x2, .ref (b0 + 390)] (Wd D cy b0 NALL S)) (QC (Pi P) (Wb D cy b0 NALL) b0) 1 6 (AA b0) := by
  refine va_MetW (cc := cL_release) (maxL := 4) (ret := (some .int)) (hh := [(0, 9, 12, 29), (0, 9, 15, 19)]) (by decide) rfl ?_
  intro p e s m args below meth c s₁ B hml hv
  obtain ⟨hargs, hW, hP, hF⟩ := hv
  have hx := B.exec
  have hb := B.bytes
  have hr := B.returns
  have hts := atoms_spec (ws := wsL_release) B.pre
  have hown : s.vm.findClass RL = some m.cls := findClass_of_methodNamed B.named
  have hlocks := B.notSynchronized
  have hK := hW.1
  have hS : va_S (AA b0) s.heap s.heap [] := va_S.rf
  have htab : c.exceptionTable.toList = [⟨0, 9, 12, 29⟩, ⟨0, 9, 15, 19⟩] := vx_table (x := yL_release) B (hts (.codeWith yL_release cL_release 4 (some .int) [(0, 9, 12, 29), (0, 9, 15, 19)]) (by unfold wsL_release; exact List.mem_cons_self))
  have hE : entryFrame m args 4 = F0 m 0 ((lg_sl [.ref (b0 + 0), .int x2, .ref (b0 + 390)] ++ List.replicate (4 - (lg_sl [.ref (b0 + 0), .int x2, .ref (b0 + 390)]).length) Slot.unset).toArray) [] := by rw [hargs]; exact lg_entry_eq m _ _
  rw [hE]
  have hl := lv_entry [.ref (b0 + 0), .int x2, .ref (b0 + 390)] (n := 4) (Nat.le_of_ble_eq_true rfl)
  generalize (lg_sl [.ref (b0 + 0), .int x2, .ref (b0 + 390)] ++ List.replicate (4 - (lg_sl [.ref (b0 + 0), .int x2, .ref (b0 + 390)]).length) Slot.unset).toArray = ls at hl ⊢
  have hl : lv_has ls 4 [(0, .ref (b0 + 0)), (1, .int x2), (2, .ref (b0 + 390))] := hl
  unfold wp_L_release at hw
  refine lv_aload_n hx hb dL_release_0 rfl (lv_at hl 2 rfl) ?_
  refine lv_iconst (v := 0) hx hb dL_release_1 (by decide) ?_
  refine lv_aload_n hx hb dL_release_2 rfl (lv_at hl 0 rfl) ?_
  refine lv_iload_n hx hb dL_release_3 rfl (lv_at hl 1 rfl) ?_
  refine q_callX (vx_runV (As := [.int x2]) (rest := [.int 0, .ref (b0 + 390)]) ⟨hx, hb, hml, hown, hts⟩ (c_X5_release l hlt D cy b0 S x2 _ _ hw) (cwV 1 hts gL_release_X5_release rfl rfl rfl (by decide +kernel) ⟨(Nat.le_of_ble_eq_true rfl), (Nat.le_of_ble_eq_true rfl)⟩) (q_pV hW hP hF hS (k := 0) (ci := 5) (by decide) (cell_5 (kk_0)) rfl [.int x2]) rfl rfl hl.1 rfl (lv_room (Nat.le_of_ble_eq_true rfl)) dL_release_4 ⟨(Nat.le_of_ble_eq_true rfl), (Nat.le_of_ble_eq_true rfl)⟩) hS (fun E4 ce q9 S4 t4 H locs hh hw hB hz hS hc9 hv9 hcl9 => ?_) (fun v4 S4 t4 H locs hh hp hB hz hk9 hS => ?_)
  · have hP : HP D cy b0 NALL S4 H := by rw [← hh]; exact hB.1
    have hF := hB.2
    try dsimp only at hw
    by_cases g0 : E4 = eX
    · rw [if_pos g0] at hw
      subst g0
      refine vx_catch (own := RL) (name := eX) hown [] ⟨0, 9, 12, 29⟩ [⟨0, 9, 15, 19⟩] htab (fun z hz => by cases hz) rfl (by decide) (hts (.classLink RL 29 eX) (by decide +kernel)) (va_Nw.use rfl (hW.2.2.2.2.2.2.2.1 eX (by decide))) hc9 hv9 hcl9 ?_
      refine W.eq (g2 := F0 m 12 ls [.ref q9]) rfl ?_
      refine lv_astore_n (lv' := [(3, .ref q9), (0, .ref (b0 + 0)), (1, .int x2), (2, .ref (b0 + 390))]) hx hb dL_release_12 rfl hl (by decide) rfl (fun ls hl => ?_)
      refine lv_iconst (v := 1) hx hb dL_release_13 (by decide) ?_
      exact q_iret hx hb hr hP hF hS hw dL_release_14 hlocks
    · rw [if_neg g0] at hw
      by_cases g1 : E4 = eS
      · rw [if_pos g1] at hw
        subst g1
        refine vx_catch (own := RL) (name := eS) hown [⟨0, 9, 12, 29⟩] ⟨0, 9, 15, 19⟩ [] htab (fun z hz => by rcases List.mem_singleton.mp hz with rfl; exact Or.inr ⟨by decide, eX, hts (.classLink RL 29 eX) (by decide +kernel), hW.2.2.2.2.2.2.1 (eS, eX) (by decide)⟩) rfl (by decide) (hts (.classLink RL 19 eS) (by decide +kernel)) (va_Nw.use rfl (hW.2.2.2.2.2.2.2.1 eS (by decide))) hc9 hv9 hcl9 ?_
        refine W.eq (g2 := F0 m 15 ls [.ref q9]) rfl ?_
        refine lv_astore_n (lv' := [(3, .ref q9), (0, .ref (b0 + 0)), (1, .int x2), (2, .ref (b0 + 390))]) hx hb dL_release_15 rfl hl (by decide) rfl (fun ls hl => ?_)
        refine lv_iconst (v := 2) hx hb dL_release_16 (by decide) ?_
        exact q_iret hx hb hr hP hF hS hw dL_release_17 hlocks
      · rw [if_neg g1] at hw
        exact False.elim hw
  · obtain ⟨r4, rfl, hw⟩ := hp
    have hP : HP D cy b0 NALL S4 H := by rw [← hh]; exact hB.1
    have hF := hB.2
    try dsimp only at hw
    refine W.eq (g2 := F0 m 7 ls [.int r4, .int 0, .ref (b0 + 390)]) rfl ?_
    refine lv_i2l hx hb dL_release_7 (v := r4.toInt64) rfl ?_
    obtain ⟨h8, hw⟩ := hw
    refine q_last (k := 390) (n := 1) (i := 0) (x := (r4.toInt64)) hx hb hK hP hS (by decide) (kk_390) (ll_390) h8 dL_release_8 (fun H locs hz hP hS => ?_)
    have hF : Fx (sJ S4 390 ((0 : Int32).toNatClampNeg) (r4.toInt64)) := Fx.sJ hF _ _ _
    generalize eS8 : sJ S4 390 ((0 : Int32).toNatClampNeg) (r4.toInt64) = S8 at hP hF
    have hw := hw S8 eS8.symm
    refine lv_goto (tgt := 18) hx hb dL_release_9 (by decide) ?_
    refine lv_iconst (v := 0) hx hb dL_release_18 (by decide) ?_
    exact q_iret hx hb hr hP hF hS hw dL_release_19 hlocks
set_option maxHeartbeats 4000000 in
set_option maxRecDepth 100000 in
theorem c_L_lightOf (l : Launch) (hlt : l.stackTraces = false) (D : va_G) (cy : Nat → ClassId) (b0 : Nat) (S : St) (x2 : Int32)  (P : Int32 → St → Prop) (hw : wp_L_lightOf S x2 P) : Met l yL_lightOf wsL_lightOf rm_L_lightOf (va_Pc [.ref (b0 + 0), .int x2, .ref (b0 + 390)] (Wd D cy b0 NALL S)) (QC (Pi P) (Wb D cy b0 NALL) b0) 1 6 (AA b0) := by
  refine va_MetW (cc := cL_lightOf) (maxL := 4) (ret := (some .int)) (hh := [(0, 9, 12, 29), (0, 9, 15, 19)]) (by decide) rfl ?_
  intro p e s m args below meth c s₁ B hml hv
  obtain ⟨hargs, hW, hP, hF⟩ := hv
  have hx := B.exec
  have hb := B.bytes
  have hr := B.returns
  have hts := atoms_spec (ws := wsL_lightOf) B.pre
  have hown : s.vm.findClass RL = some m.cls := findClass_of_methodNamed B.named
  have hlocks := B.notSynchronized
  have hK := hW.1
  have hS : va_S (AA b0) s.heap s.heap [] := va_S.rf
  have htab : c.exceptionTable.toList = [⟨0, 9, 12, 29⟩, ⟨0, 9, 15, 19⟩] := vx_table (x := yL_lightOf) B (hts (.codeWith yL_lightOf cL_lightOf 4 (some .int) [(0, 9, 12, 29), (0, 9, 15, 19)]) (by unfold wsL_lightOf; exact List.mem_cons_self))
  have hE : entryFrame m args 4 = F0 m 0 ((lg_sl [.ref (b0 + 0), .int x2, .ref (b0 + 390)] ++ List.replicate (4 - (lg_sl [.ref (b0 + 0), .int x2, .ref (b0 + 390)]).length) Slot.unset).toArray) [] := by rw [hargs]; exact lg_entry_eq m _ _
  rw [hE]
  have hl := lv_entry [.ref (b0 + 0), .int x2, .ref (b0 + 390)] (n := 4) (Nat.le_of_ble_eq_true rfl)
  generalize (lg_sl [.ref (b0 + 0), .int x2, .ref (b0 + 390)] ++ List.replicate (4 - (lg_sl [.ref (b0 + 0), .int x2, .ref (b0 + 390)]).length) Slot.unset).toArray = ls at hl ⊢
  have hl : lv_has ls 4 [(0, .ref (b0 + 0)), (1, .int x2), (2, .ref (b0 + 390))] := hl
  unfold wp_L_lightOf at hw
  refine lv_aload_n hx hb dL_lightOf_0 rfl (lv_at hl 2 rfl) ?_
  refine lv_iconst (v := 0) hx hb dL_lightOf_1 (by decide) ?_
  refine lv_aload_n hx hb dL_lightOf_2 rfl (lv_at hl 0 rfl) ?_
  refine lv_iload_n hx hb dL_lightOf_3 rfl (lv_at hl 1 rfl) ?_
  refine q_callX (vx_runV (As := [.int x2]) (rest := [.int 0, .ref (b0 + 390)]) ⟨hx, hb, hml, hown, hts⟩ (c_X5_lightOf l hlt D cy b0 S x2 _ _ hw) (cwV 1 hts gL_lightOf_X5_lightOf rfl rfl rfl (by decide +kernel) ⟨(Nat.le_of_ble_eq_true rfl), (Nat.le_of_ble_eq_true rfl)⟩) (q_pV hW hP hF hS (k := 0) (ci := 5) (by decide) (cell_5 (kk_0)) rfl [.int x2]) rfl rfl hl.1 rfl (lv_room (Nat.le_of_ble_eq_true rfl)) dL_lightOf_4 ⟨(Nat.le_of_ble_eq_true rfl), (Nat.le_of_ble_eq_true rfl)⟩) hS (fun E4 ce q9 S4 t4 H locs hh hw hB hz hS hc9 hv9 hcl9 => ?_) (fun v4 S4 t4 H locs hh hp hB hz hk9 hS => ?_)
  · have hP : HP D cy b0 NALL S4 H := by rw [← hh]; exact hB.1
    have hF := hB.2
    try dsimp only at hw
    by_cases g0 : E4 = eX
    · rw [if_pos g0] at hw
      subst g0
      refine vx_catch (own := RL) (name := eX) hown [] ⟨0, 9, 12, 29⟩ [⟨0, 9, 15, 19⟩] htab (fun z hz => by cases hz) rfl (by decide) (hts (.classLink RL 29 eX) (by decide +kernel)) (va_Nw.use rfl (hW.2.2.2.2.2.2.2.1 eX (by decide))) hc9 hv9 hcl9 ?_
      refine W.eq (g2 := F0 m 12 ls [.ref q9]) rfl ?_
      refine lv_astore_n (lv' := [(3, .ref q9), (0, .ref (b0 + 0)), (1, .int x2), (2, .ref (b0 + 390))]) hx hb dL_lightOf_12 rfl hl (by decide) rfl (fun ls hl => ?_)
      refine lv_iconst (v := 1) hx hb dL_lightOf_13 (by decide) ?_
      exact q_iret hx hb hr hP hF hS hw dL_lightOf_14 hlocks
    · rw [if_neg g0] at hw
      by_cases g1 : E4 = eS
      · rw [if_pos g1] at hw
        subst g1
        refine vx_catch (own := RL) (name := eS) hown [⟨0, 9, 12, 29⟩] ⟨0, 9, 15, 19⟩ [] htab (fun z hz => by rcases List.mem_singleton.mp hz with rfl; exact Or.inr ⟨by decide, eX, hts (.classLink RL 29 eX) (by decide +kernel), hW.2.2.2.2.2.2.1 (eS, eX) (by decide)⟩) rfl (by decide) (hts (.classLink RL 19 eS) (by decide +kernel)) (va_Nw.use rfl (hW.2.2.2.2.2.2.2.1 eS (by decide))) hc9 hv9 hcl9 ?_
        refine W.eq (g2 := F0 m 15 ls [.ref q9]) rfl ?_
        refine lv_astore_n (lv' := [(3, .ref q9), (0, .ref (b0 + 0)), (1, .int x2), (2, .ref (b0 + 390))]) hx hb dL_lightOf_15 rfl hl (by decide) rfl (fun ls hl => ?_)
        refine lv_iconst (v := 2) hx hb dL_lightOf_16 (by decide) ?_
        exact q_iret hx hb hr hP hF hS hw dL_lightOf_17 hlocks
      · rw [if_neg g1] at hw
        exact False.elim hw
  · obtain ⟨r4, rfl, hw⟩ := hp
    have hP : HP D cy b0 NALL S4 H := by rw [← hh]; exact hB.1
    have hF := hB.2
    try dsimp only at hw
    refine W.eq (g2 := F0 m 7 ls [.int r4, .int 0, .ref (b0 + 390)]) rfl ?_
    refine lv_i2l hx hb dL_lightOf_7 (v := r4.toInt64) rfl ?_
    obtain ⟨h8, hw⟩ := hw
    refine q_last (k := 390) (n := 1) (i := 0) (x := (r4.toInt64)) hx hb hK hP hS (by decide) (kk_390) (ll_390) h8 dL_lightOf_8 (fun H locs hz hP hS => ?_)
    have hF : Fx (sJ S4 390 ((0 : Int32).toNatClampNeg) (r4.toInt64)) := Fx.sJ hF _ _ _
    generalize eS8 : sJ S4 390 ((0 : Int32).toNatClampNeg) (r4.toInt64) = S8 at hP hF
    have hw := hw S8 eS8.symm
    refine lv_goto (tgt := 18) hx hb dL_lightOf_9 (by decide) ?_
    refine lv_iconst (v := 0) hx hb dL_lightOf_18 (by decide) ?_
    exact q_iret hx hb hr hP hF hS hw dL_lightOf_19 hlocks
set_option maxHeartbeats 4000000 in
set_option maxRecDepth 100000 in
theorem c_L_state (l : Launch) (hlt : l.stackTraces = false) (D : va_G) (cy : Nat → ClassId) (b0 : Nat) (S : St) (x2 : Int32)  (P : Int32 → St → Prop) (hw : wp_L_state S x2 P) : Met l yL_state wsL_state rm_L_state (va_Pc [.ref (b0 + 0), .int x2, .ref (b0 + 390)] (Wd D cy b0 NALL S)) (QC (Pi P) (Wb D cy b0 NALL) b0) 1 6 (AA b0) := by
  refine va_MetW (cc := cL_state) (maxL := 4) (ret := (some .int)) (hh := [(0, 9, 12, 29)]) (by decide) rfl ?_
  intro p e s m args below meth c s₁ B hml hv
  obtain ⟨hargs, hW, hP, hF⟩ := hv
  have hx := B.exec
  have hb := B.bytes
  have hr := B.returns
  have hts := atoms_spec (ws := wsL_state) B.pre
  have hown : s.vm.findClass RL = some m.cls := findClass_of_methodNamed B.named
  have hlocks := B.notSynchronized
  have hK := hW.1
  have hS : va_S (AA b0) s.heap s.heap [] := va_S.rf
  have htab : c.exceptionTable.toList = [⟨0, 9, 12, 29⟩] := vx_table (x := yL_state) B (hts (.codeWith yL_state cL_state 4 (some .int) [(0, 9, 12, 29)]) (by unfold wsL_state; exact List.mem_cons_self))
  have hE : entryFrame m args 4 = F0 m 0 ((lg_sl [.ref (b0 + 0), .int x2, .ref (b0 + 390)] ++ List.replicate (4 - (lg_sl [.ref (b0 + 0), .int x2, .ref (b0 + 390)]).length) Slot.unset).toArray) [] := by rw [hargs]; exact lg_entry_eq m _ _
  rw [hE]
  have hl := lv_entry [.ref (b0 + 0), .int x2, .ref (b0 + 390)] (n := 4) (Nat.le_of_ble_eq_true rfl)
  generalize (lg_sl [.ref (b0 + 0), .int x2, .ref (b0 + 390)] ++ List.replicate (4 - (lg_sl [.ref (b0 + 0), .int x2, .ref (b0 + 390)]).length) Slot.unset).toArray = ls at hl ⊢
  have hl : lv_has ls 4 [(0, .ref (b0 + 0)), (1, .int x2), (2, .ref (b0 + 390))] := hl
  unfold wp_L_state at hw
  refine lv_aload_n hx hb dL_state_0 rfl (lv_at hl 2 rfl) ?_
  refine lv_iconst (v := 0) hx hb dL_state_1 (by decide) ?_
  refine lv_aload_n hx hb dL_state_2 rfl (lv_at hl 0 rfl) ?_
  refine lv_iload_n hx hb dL_state_3 rfl (lv_at hl 1 rfl) ?_
  refine q_callX (vx_runV (As := [.int x2]) (rest := [.int 0, .ref (b0 + 390)]) ⟨hx, hb, hml, hown, hts⟩ (c_X5_state l hlt D cy b0 S x2 _ _ hw) (cwV 1 hts gL_state_X5_state rfl rfl rfl (by decide +kernel) ⟨(Nat.le_of_ble_eq_true rfl), (Nat.le_of_ble_eq_true rfl)⟩) (q_pV hW hP hF hS (k := 0) (ci := 5) (by decide) (cell_5 (kk_0)) rfl [.int x2]) rfl rfl hl.1 rfl (lv_room (Nat.le_of_ble_eq_true rfl)) dL_state_4 ⟨(Nat.le_of_ble_eq_true rfl), (Nat.le_of_ble_eq_true rfl)⟩) hS (fun E4 ce q9 S4 t4 H locs hh hw hB hz hS hc9 hv9 hcl9 => ?_) (fun v4 S4 t4 H locs hh hp hB hz hk9 hS => ?_)
  · have hP : HP D cy b0 NALL S4 H := by rw [← hh]; exact hB.1
    have hF := hB.2
    try dsimp only at hw
    by_cases g0 : E4 = eX
    · rw [if_pos g0] at hw
      subst g0
      refine vx_catch (own := RL) (name := eX) hown [] ⟨0, 9, 12, 29⟩ [] htab (fun z hz => by cases hz) rfl (by decide) (hts (.classLink RL 29 eX) (by decide +kernel)) (va_Nw.use rfl (hW.2.2.2.2.2.2.2.1 eX (by decide))) hc9 hv9 hcl9 ?_
      refine W.eq (g2 := F0 m 12 ls [.ref q9]) rfl ?_
      refine lv_astore_n (lv' := [(3, .ref q9), (0, .ref (b0 + 0)), (1, .int x2), (2, .ref (b0 + 390))]) hx hb dL_state_12 rfl hl (by decide) rfl (fun ls hl => ?_)
      refine lv_iconst (v := 1) hx hb dL_state_13 (by decide) ?_
      exact q_iret hx hb hr hP hF hS hw dL_state_14 hlocks
    · rw [if_neg g0] at hw
      exact False.elim hw
  · obtain ⟨r4, rfl, hw⟩ := hp
    have hP : HP D cy b0 NALL S4 H := by rw [← hh]; exact hB.1
    have hF := hB.2
    try dsimp only at hw
    refine W.eq (g2 := F0 m 7 ls [.int r4, .int 0, .ref (b0 + 390)]) rfl ?_
    refine lv_i2l hx hb dL_state_7 (v := r4.toInt64) rfl ?_
    obtain ⟨h8, hw⟩ := hw
    refine q_last (k := 390) (n := 1) (i := 0) (x := (r4.toInt64)) hx hb hK hP hS (by decide) (kk_390) (ll_390) h8 dL_state_8 (fun H locs hz hP hS => ?_)
    have hF : Fx (sJ S4 390 ((0 : Int32).toNatClampNeg) (r4.toInt64)) := Fx.sJ hF _ _ _
    generalize eS8 : sJ S4 390 ((0 : Int32).toNatClampNeg) (r4.toInt64) = S8 at hP hF
    have hw := hw S8 eS8.symm
    refine lv_goto (tgt := 15) hx hb dL_state_9 (by decide) ?_
    refine lv_iconst (v := 0) hx hb dL_state_15 (by decide) ?_
    exact q_iret hx hb hr hP hF hS hw dL_state_16 hlocks
set_option maxHeartbeats 4000000 in
set_option maxRecDepth 100000 in
theorem c_L_units (l : Launch) (hlt : l.stackTraces = false) (D : va_G) (cy : Nat → ClassId) (b0 : Nat) (S : St) (x2 : Int32)  (P : Int32 → St → Prop) (hw : wp_L_units S x2 P) : Met l yL_units wsL_units rm_L_units (va_Pc [.ref (b0 + 0), .int x2, .ref (b0 + 390)] (Wd D cy b0 NALL S)) (QC (Pi P) (Wb D cy b0 NALL) b0) 1 6 (AA b0) := by
  refine va_MetW (cc := cL_units) (maxL := 4) (ret := (some .int)) (hh := [(0, 9, 12, 29)]) (by decide) rfl ?_
  intro p e s m args below meth c s₁ B hml hv
  obtain ⟨hargs, hW, hP, hF⟩ := hv
  have hx := B.exec
  have hb := B.bytes
  have hr := B.returns
  have hts := atoms_spec (ws := wsL_units) B.pre
  have hown : s.vm.findClass RL = some m.cls := findClass_of_methodNamed B.named
  have hlocks := B.notSynchronized
  have hK := hW.1
  have hS : va_S (AA b0) s.heap s.heap [] := va_S.rf
  have htab : c.exceptionTable.toList = [⟨0, 9, 12, 29⟩] := vx_table (x := yL_units) B (hts (.codeWith yL_units cL_units 4 (some .int) [(0, 9, 12, 29)]) (by unfold wsL_units; exact List.mem_cons_self))
  have hE : entryFrame m args 4 = F0 m 0 ((lg_sl [.ref (b0 + 0), .int x2, .ref (b0 + 390)] ++ List.replicate (4 - (lg_sl [.ref (b0 + 0), .int x2, .ref (b0 + 390)]).length) Slot.unset).toArray) [] := by rw [hargs]; exact lg_entry_eq m _ _
  rw [hE]
  have hl := lv_entry [.ref (b0 + 0), .int x2, .ref (b0 + 390)] (n := 4) (Nat.le_of_ble_eq_true rfl)
  generalize (lg_sl [.ref (b0 + 0), .int x2, .ref (b0 + 390)] ++ List.replicate (4 - (lg_sl [.ref (b0 + 0), .int x2, .ref (b0 + 390)]).length) Slot.unset).toArray = ls at hl ⊢
  have hl : lv_has ls 4 [(0, .ref (b0 + 0)), (1, .int x2), (2, .ref (b0 + 390))] := hl
  unfold wp_L_units at hw
  refine lv_aload_n hx hb dL_units_0 rfl (lv_at hl 2 rfl) ?_
  refine lv_iconst (v := 0) hx hb dL_units_1 (by decide) ?_
  refine lv_aload_n hx hb dL_units_2 rfl (lv_at hl 0 rfl) ?_
  refine lv_iload_n hx hb dL_units_3 rfl (lv_at hl 1 rfl) ?_
  refine q_callX (vx_runV (As := [.int x2]) (rest := [.int 0, .ref (b0 + 390)]) ⟨hx, hb, hml, hown, hts⟩ (c_X5_units l hlt D cy b0 S x2 _ _ hw) (cwV 1 hts gL_units_X5_units rfl rfl rfl (by decide +kernel) ⟨(Nat.le_of_ble_eq_true rfl), (Nat.le_of_ble_eq_true rfl)⟩) (q_pV hW hP hF hS (k := 0) (ci := 5) (by decide) (cell_5 (kk_0)) rfl [.int x2]) rfl rfl hl.1 rfl (lv_room (Nat.le_of_ble_eq_true rfl)) dL_units_4 ⟨(Nat.le_of_ble_eq_true rfl), (Nat.le_of_ble_eq_true rfl)⟩) hS (fun E4 ce q9 S4 t4 H locs hh hw hB hz hS hc9 hv9 hcl9 => ?_) (fun v4 S4 t4 H locs hh hp hB hz hk9 hS => ?_)
  · have hP : HP D cy b0 NALL S4 H := by rw [← hh]; exact hB.1
    have hF := hB.2
    try dsimp only at hw
    by_cases g0 : E4 = eX
    · rw [if_pos g0] at hw
      subst g0
      refine vx_catch (own := RL) (name := eX) hown [] ⟨0, 9, 12, 29⟩ [] htab (fun z hz => by cases hz) rfl (by decide) (hts (.classLink RL 29 eX) (by decide +kernel)) (va_Nw.use rfl (hW.2.2.2.2.2.2.2.1 eX (by decide))) hc9 hv9 hcl9 ?_
      refine W.eq (g2 := F0 m 12 ls [.ref q9]) rfl ?_
      refine lv_astore_n (lv' := [(3, .ref q9), (0, .ref (b0 + 0)), (1, .int x2), (2, .ref (b0 + 390))]) hx hb dL_units_12 rfl hl (by decide) rfl (fun ls hl => ?_)
      refine lv_iconst (v := 1) hx hb dL_units_13 (by decide) ?_
      exact q_iret hx hb hr hP hF hS hw dL_units_14 hlocks
    · rw [if_neg g0] at hw
      exact False.elim hw
  · obtain ⟨r4, rfl, hw⟩ := hp
    have hP : HP D cy b0 NALL S4 H := by rw [← hh]; exact hB.1
    have hF := hB.2
    try dsimp only at hw
    refine W.eq (g2 := F0 m 7 ls [.int r4, .int 0, .ref (b0 + 390)]) rfl ?_
    refine lv_i2l hx hb dL_units_7 (v := r4.toInt64) rfl ?_
    obtain ⟨h8, hw⟩ := hw
    refine q_last (k := 390) (n := 1) (i := 0) (x := (r4.toInt64)) hx hb hK hP hS (by decide) (kk_390) (ll_390) h8 dL_units_8 (fun H locs hz hP hS => ?_)
    have hF : Fx (sJ S4 390 ((0 : Int32).toNatClampNeg) (r4.toInt64)) := Fx.sJ hF _ _ _
    generalize eS8 : sJ S4 390 ((0 : Int32).toNatClampNeg) (r4.toInt64) = S8 at hP hF
    have hw := hw S8 eS8.symm
    refine lv_goto (tgt := 15) hx hb dL_units_9 (by decide) ?_
    refine lv_iconst (v := 0) hx hb dL_units_15 (by decide) ?_
    exact q_iret hx hb hr hP hF hS hw dL_units_16 hlocks
set_option maxHeartbeats 4000000 in
set_option maxRecDepth 100000 in
theorem c_L_channels (l : Launch) (hlt : l.stackTraces = false) (D : va_G) (cy : Nat → ClassId) (b0 : Nat) (S : St) (x2 : Int32) (x3 : Int32)  (P : Int32 → St → Prop) (hw : wp_L_channels S x2 x3 P) : Met l yL_channels wsL_channels rm_L_channels (va_Pc [.ref (b0 + 0), .int x2, .int x3, .ref (b0 + 390)] (Wd D cy b0 NALL S)) (QC (Pi P) (Wb D cy b0 NALL) b0) 2 12 (AA b0) := by
  refine va_MetW (cc := cL_channels) (maxL := 5) (ret := (some .int)) (hh := [(0, 10, 13, 29)]) (by decide) rfl ?_
  intro p e s m args below meth c s₁ B hml hv
  obtain ⟨hargs, hW, hP, hF⟩ := hv
  have hx := B.exec
  have hb := B.bytes
  have hr := B.returns
  have hts := atoms_spec (ws := wsL_channels) B.pre
  have hown : s.vm.findClass RL = some m.cls := findClass_of_methodNamed B.named
  have hlocks := B.notSynchronized
  have hK := hW.1
  have hS : va_S (AA b0) s.heap s.heap [] := va_S.rf
  have htab : c.exceptionTable.toList = [⟨0, 10, 13, 29⟩] := vx_table (x := yL_channels) B (hts (.codeWith yL_channels cL_channels 5 (some .int) [(0, 10, 13, 29)]) (by unfold wsL_channels; exact List.mem_cons_self))
  have hE : entryFrame m args 5 = F0 m 0 ((lg_sl [.ref (b0 + 0), .int x2, .int x3, .ref (b0 + 390)] ++ List.replicate (5 - (lg_sl [.ref (b0 + 0), .int x2, .int x3, .ref (b0 + 390)]).length) Slot.unset).toArray) [] := by rw [hargs]; exact lg_entry_eq m _ _
  rw [hE]
  have hl := lv_entry [.ref (b0 + 0), .int x2, .int x3, .ref (b0 + 390)] (n := 5) (Nat.le_of_ble_eq_true rfl)
  generalize (lg_sl [.ref (b0 + 0), .int x2, .int x3, .ref (b0 + 390)] ++ List.replicate (5 - (lg_sl [.ref (b0 + 0), .int x2, .int x3, .ref (b0 + 390)]).length) Slot.unset).toArray = ls at hl ⊢
  have hl : lv_has ls 5 [(0, .ref (b0 + 0)), (1, .int x2), (2, .int x3), (3, .ref (b0 + 390))] := hl
  unfold wp_L_channels at hw
  refine lv_aload_n hx hb dL_channels_0 rfl (lv_at hl 3 rfl) ?_
  refine lv_iconst (v := 0) hx hb dL_channels_1 (by decide) ?_
  refine lv_aload_n hx hb dL_channels_2 rfl (lv_at hl 0 rfl) ?_
  refine lv_iload_n hx hb dL_channels_3 rfl (lv_at hl 1 rfl) ?_
  refine lv_iload_n hx hb dL_channels_4 rfl (lv_at hl 2 rfl) ?_
  refine q_callX (vx_runV (As := [.int x2, .int x3]) (rest := [.int 0, .ref (b0 + 390)]) ⟨hx, hb, hml, hown, hts⟩ (c_X5_channels l hlt D cy b0 S x2 x3 _ _ hw) (cwV 2 hts gL_channels_X5_channels rfl rfl rfl (by decide +kernel) ⟨(Nat.le_of_ble_eq_true rfl), (Nat.le_of_ble_eq_true rfl)⟩) (q_pV hW hP hF hS (k := 0) (ci := 5) (by decide) (cell_5 (kk_0)) rfl [.int x2, .int x3]) rfl rfl hl.1 rfl (lv_room (Nat.le_of_ble_eq_true rfl)) dL_channels_5 ⟨(Nat.le_of_ble_eq_true rfl), (Nat.le_of_ble_eq_true rfl)⟩) hS (fun E5 ce q9 S5 t5 H locs hh hw hB hz hS hc9 hv9 hcl9 => ?_) (fun v5 S5 t5 H locs hh hp hB hz hk9 hS => ?_)
  · have hP : HP D cy b0 NALL S5 H := by rw [← hh]; exact hB.1
    have hF := hB.2
    try dsimp only at hw
    by_cases g0 : E5 = eX
    · rw [if_pos g0] at hw
      subst g0
      refine vx_catch (own := RL) (name := eX) hown [] ⟨0, 10, 13, 29⟩ [] htab (fun z hz => by cases hz) rfl (by decide) (hts (.classLink RL 29 eX) (by decide +kernel)) (va_Nw.use rfl (hW.2.2.2.2.2.2.2.1 eX (by decide))) hc9 hv9 hcl9 ?_
      refine W.eq (g2 := F0 m 13 ls [.ref q9]) rfl ?_
      refine lv_astore (lv' := [(4, .ref q9), (0, .ref (b0 + 0)), (1, .int x2), (2, .int x3), (3, .ref (b0 + 390))]) hx hb dL_channels_13 hl (by decide) rfl (fun ls hl => ?_)
      refine lv_iconst (v := 1) hx hb dL_channels_15 (by decide) ?_
      exact q_iret hx hb hr hP hF hS hw dL_channels_16 hlocks
    · rw [if_neg g0] at hw
      exact False.elim hw
  · obtain ⟨r5, rfl, hw⟩ := hp
    have hP : HP D cy b0 NALL S5 H := by rw [← hh]; exact hB.1
    have hF := hB.2
    try dsimp only at hw
    refine W.eq (g2 := F0 m 8 ls [.int r5, .int 0, .ref (b0 + 390)]) rfl ?_
    refine lv_i2l hx hb dL_channels_8 (v := r5.toInt64) rfl ?_
    obtain ⟨h9, hw⟩ := hw
    refine q_last (k := 390) (n := 1) (i := 0) (x := (r5.toInt64)) hx hb hK hP hS (by decide) (kk_390) (ll_390) h9 dL_channels_9 (fun H locs hz hP hS => ?_)
    have hF : Fx (sJ S5 390 ((0 : Int32).toNatClampNeg) (r5.toInt64)) := Fx.sJ hF _ _ _
    generalize eS9 : sJ S5 390 ((0 : Int32).toNatClampNeg) (r5.toInt64) = S9 at hP hF
    have hw := hw S9 eS9.symm
    refine lv_goto (tgt := 17) hx hb dL_channels_10 (by decide) ?_
    refine lv_iconst (v := 0) hx hb dL_channels_17 (by decide) ?_
    exact q_iret hx hb hr hP hF hS hw dL_channels_18 hlocks
set_option maxHeartbeats 4000000 in
set_option maxRecDepth 100000 in
theorem c_L_channel (l : Launch) (hlt : l.stackTraces = false) (D : va_G) (cy : Nat → ClassId) (b0 : Nat) (S : St) (x2 : Int32) (x3 : Int32) (x4 : Int32)  (P : Int32 → St → Prop) (hw : wp_L_channel S x2 x3 x4 P) : Met l yL_channel wsL_channel rm_L_channel (va_Pc [.ref (b0 + 0), .int x2, .int x3, .int x4, .ref (b0 + 390)] (Wd D cy b0 NALL S)) (QC (Pi P) (Wb D cy b0 NALL) b0) 3 18 (AA b0) := by
  refine va_MetW (cc := cL_channel) (maxL := 6) (ret := (some .int)) (hh := [(0, 12, 15, 29)]) (by decide) rfl ?_
  intro p e s m args below meth c s₁ B hml hv
  obtain ⟨hargs, hW, hP, hF⟩ := hv
  have hx := B.exec
  have hb := B.bytes
  have hr := B.returns
  have hts := atoms_spec (ws := wsL_channel) B.pre
  have hown : s.vm.findClass RL = some m.cls := findClass_of_methodNamed B.named
  have hlocks := B.notSynchronized
  have hK := hW.1
  have hS : va_S (AA b0) s.heap s.heap [] := va_S.rf
  have htab : c.exceptionTable.toList = [⟨0, 12, 15, 29⟩] := vx_table (x := yL_channel) B (hts (.codeWith yL_channel cL_channel 6 (some .int) [(0, 12, 15, 29)]) (by unfold wsL_channel; exact List.mem_cons_self))
  have hE : entryFrame m args 6 = F0 m 0 ((lg_sl [.ref (b0 + 0), .int x2, .int x3, .int x4, .ref (b0 + 390)] ++ List.replicate (6 - (lg_sl [.ref (b0 + 0), .int x2, .int x3, .int x4, .ref (b0 + 390)]).length) Slot.unset).toArray) [] := by rw [hargs]; exact lg_entry_eq m _ _
  rw [hE]
  have hl := lv_entry [.ref (b0 + 0), .int x2, .int x3, .int x4, .ref (b0 + 390)] (n := 6) (Nat.le_of_ble_eq_true rfl)
  generalize (lg_sl [.ref (b0 + 0), .int x2, .int x3, .int x4, .ref (b0 + 390)] ++ List.replicate (6 - (lg_sl [.ref (b0 + 0), .int x2, .int x3, .int x4, .ref (b0 + 390)]).length) Slot.unset).toArray = ls at hl ⊢
  have hl : lv_has ls 6 [(0, .ref (b0 + 0)), (1, .int x2), (2, .int x3), (3, .int x4), (4, .ref (b0 + 390))] := hl
  unfold wp_L_channel at hw
  refine lv_aload hx hb dL_channel_0 (lv_at hl 4 rfl) ?_
  refine lv_iconst (v := 0) hx hb dL_channel_2 (by decide) ?_
  refine lv_aload_n hx hb dL_channel_3 rfl (lv_at hl 0 rfl) ?_
  refine lv_iload_n hx hb dL_channel_4 rfl (lv_at hl 1 rfl) ?_
  refine lv_iload_n hx hb dL_channel_5 rfl (lv_at hl 2 rfl) ?_
  refine lv_iload_n hx hb dL_channel_6 rfl (lv_at hl 3 rfl) ?_
  refine q_callX (vx_runV (As := [.int x2, .int x3, .int x4]) (rest := [.int 0, .ref (b0 + 390)]) ⟨hx, hb, hml, hown, hts⟩ (c_X5_channel l hlt D cy b0 S x2 x3 x4 _ _ hw) (cwV 3 hts gL_channel_X5_channel rfl rfl rfl (by decide +kernel) ⟨(Nat.le_of_ble_eq_true rfl), (Nat.le_of_ble_eq_true rfl)⟩) (q_pV hW hP hF hS (k := 0) (ci := 5) (by decide) (cell_5 (kk_0)) rfl [.int x2, .int x3, .int x4]) rfl rfl hl.1 rfl (lv_room (Nat.le_of_ble_eq_true rfl)) dL_channel_7 ⟨(Nat.le_of_ble_eq_true rfl), (Nat.le_of_ble_eq_true rfl)⟩) hS (fun E7 ce q9 S7 t7 H locs hh hw hB hz hS hc9 hv9 hcl9 => ?_) (fun v7 S7 t7 H locs hh hp hB hz hk9 hS => ?_)
  · have hP : HP D cy b0 NALL S7 H := by rw [← hh]; exact hB.1
    have hF := hB.2
    try dsimp only at hw
    by_cases g0 : E7 = eX
    · rw [if_pos g0] at hw
      subst g0
      refine vx_catch (own := RL) (name := eX) hown [] ⟨0, 12, 15, 29⟩ [] htab (fun z hz => by cases hz) rfl (by decide) (hts (.classLink RL 29 eX) (by decide +kernel)) (va_Nw.use rfl (hW.2.2.2.2.2.2.2.1 eX (by decide))) hc9 hv9 hcl9 ?_
      refine W.eq (g2 := F0 m 15 ls [.ref q9]) rfl ?_
      refine lv_astore (lv' := [(5, .ref q9), (0, .ref (b0 + 0)), (1, .int x2), (2, .int x3), (3, .int x4), (4, .ref (b0 + 390))]) hx hb dL_channel_15 hl (by decide) rfl (fun ls hl => ?_)
      refine lv_iconst (v := 1) hx hb dL_channel_17 (by decide) ?_
      exact q_iret hx hb hr hP hF hS hw dL_channel_18 hlocks
    · rw [if_neg g0] at hw
      exact False.elim hw
  · obtain ⟨r7, rfl, hw⟩ := hp
    have hP : HP D cy b0 NALL S7 H := by rw [← hh]; exact hB.1
    have hF := hB.2
    try dsimp only at hw
    refine W.eq (g2 := F0 m 10 ls [.int r7, .int 0, .ref (b0 + 390)]) rfl ?_
    refine lv_i2l hx hb dL_channel_10 (v := r7.toInt64) rfl ?_
    obtain ⟨h11, hw⟩ := hw
    refine q_last (k := 390) (n := 1) (i := 0) (x := (r7.toInt64)) hx hb hK hP hS (by decide) (kk_390) (ll_390) h11 dL_channel_11 (fun H locs hz hP hS => ?_)
    have hF : Fx (sJ S7 390 ((0 : Int32).toNatClampNeg) (r7.toInt64)) := Fx.sJ hF _ _ _
    generalize eS11 : sJ S7 390 ((0 : Int32).toNatClampNeg) (r7.toInt64) = S11 at hP hF
    have hw := hw S11 eS11.symm
    refine lv_goto (tgt := 19) hx hb dL_channel_12 (by decide) ?_
    refine lv_iconst (v := 0) hx hb dL_channel_19 (by decide) ?_
    exact q_iret hx hb hr hP hF hS hw dL_channel_20 hlocks
set_option maxHeartbeats 4000000 in
set_option maxRecDepth 100000 in
theorem c_L_reroute (l : Launch) (hlt : l.stackTraces = false) (D : va_G) (cy : Nat → ClassId) (b0 : Nat) (S : St) (x2 : Int32)  (P : Int32 → St → Prop) (hw : wp_L_reroute S x2 P) : Met l yL_reroute wsL_reroute rm_L_reroute (va_Pc [.ref (b0 + 0), .int x2, .ref (b0 + 390)] (Wd D cy b0 NALL S)) (QC (Pi P) (Wb D cy b0 NALL) b0) 2 12 (AA b0) := by
  refine va_MetW (cc := cL_reroute) (maxL := 4) (ret := (some .int)) (hh := [(0, 9, 12, 29), (0, 9, 15, 19)]) (by decide) rfl ?_
  intro p e s m args below meth c s₁ B hml hv
  obtain ⟨hargs, hW, hP, hF⟩ := hv
  have hx := B.exec
  have hb := B.bytes
  have hr := B.returns
  have hts := atoms_spec (ws := wsL_reroute) B.pre
  have hown : s.vm.findClass RL = some m.cls := findClass_of_methodNamed B.named
  have hlocks := B.notSynchronized
  have hK := hW.1
  have hS : va_S (AA b0) s.heap s.heap [] := va_S.rf
  have htab : c.exceptionTable.toList = [⟨0, 9, 12, 29⟩, ⟨0, 9, 15, 19⟩] := vx_table (x := yL_reroute) B (hts (.codeWith yL_reroute cL_reroute 4 (some .int) [(0, 9, 12, 29), (0, 9, 15, 19)]) (by unfold wsL_reroute; exact List.mem_cons_self))
  have hE : entryFrame m args 4 = F0 m 0 ((lg_sl [.ref (b0 + 0), .int x2, .ref (b0 + 390)] ++ List.replicate (4 - (lg_sl [.ref (b0 + 0), .int x2, .ref (b0 + 390)]).length) Slot.unset).toArray) [] := by rw [hargs]; exact lg_entry_eq m _ _
  rw [hE]
  have hl := lv_entry [.ref (b0 + 0), .int x2, .ref (b0 + 390)] (n := 4) (Nat.le_of_ble_eq_true rfl)
  generalize (lg_sl [.ref (b0 + 0), .int x2, .ref (b0 + 390)] ++ List.replicate (4 - (lg_sl [.ref (b0 + 0), .int x2, .ref (b0 + 390)]).length) Slot.unset).toArray = ls at hl ⊢
  have hl : lv_has ls 4 [(0, .ref (b0 + 0)), (1, .int x2), (2, .ref (b0 + 390))] := hl
  unfold wp_L_reroute at hw
  refine lv_aload_n hx hb dL_reroute_0 rfl (lv_at hl 2 rfl) ?_
  refine lv_iconst (v := 0) hx hb dL_reroute_1 (by decide) ?_
  refine lv_aload_n hx hb dL_reroute_2 rfl (lv_at hl 0 rfl) ?_
  refine lv_iload_n hx hb dL_reroute_3 rfl (lv_at hl 1 rfl) ?_
  refine q_callX (vx_runV (As := [.int x2]) (rest := [.int 0, .ref (b0 + 390)]) ⟨hx, hb, hml, hown, hts⟩ (c_X5_reroute l hlt D cy b0 S x2 _ _ hw) (cwV 1 hts gL_reroute_X5_reroute rfl rfl rfl (by decide +kernel) ⟨(Nat.le_of_ble_eq_true rfl), (Nat.le_of_ble_eq_true rfl)⟩) (q_pV hW hP hF hS (k := 0) (ci := 5) (by decide) (cell_5 (kk_0)) rfl [.int x2]) rfl rfl hl.1 rfl (lv_room (Nat.le_of_ble_eq_true rfl)) dL_reroute_4 ⟨(Nat.le_of_ble_eq_true rfl), (Nat.le_of_ble_eq_true rfl)⟩) hS (fun E4 ce q9 S4 t4 H locs hh hw hB hz hS hc9 hv9 hcl9 => ?_) (fun v4 S4 t4 H locs hh hp hB hz hk9 hS => ?_)
  · have hP : HP D cy b0 NALL S4 H := by rw [← hh]; exact hB.1
    have hF := hB.2
    try dsimp only at hw
    by_cases g0 : E4 = eX
    · rw [if_pos g0] at hw
      subst g0
      refine vx_catch (own := RL) (name := eX) hown [] ⟨0, 9, 12, 29⟩ [⟨0, 9, 15, 19⟩] htab (fun z hz => by cases hz) rfl (by decide) (hts (.classLink RL 29 eX) (by decide +kernel)) (va_Nw.use rfl (hW.2.2.2.2.2.2.2.1 eX (by decide))) hc9 hv9 hcl9 ?_
      refine W.eq (g2 := F0 m 12 ls [.ref q9]) rfl ?_
      refine lv_astore_n (lv' := [(3, .ref q9), (0, .ref (b0 + 0)), (1, .int x2), (2, .ref (b0 + 390))]) hx hb dL_reroute_12 rfl hl (by decide) rfl (fun ls hl => ?_)
      refine lv_iconst (v := 1) hx hb dL_reroute_13 (by decide) ?_
      exact q_iret hx hb hr hP hF hS hw dL_reroute_14 hlocks
    · rw [if_neg g0] at hw
      by_cases g1 : E4 = eS
      · rw [if_pos g1] at hw
        subst g1
        refine vx_catch (own := RL) (name := eS) hown [⟨0, 9, 12, 29⟩] ⟨0, 9, 15, 19⟩ [] htab (fun z hz => by rcases List.mem_singleton.mp hz with rfl; exact Or.inr ⟨by decide, eX, hts (.classLink RL 29 eX) (by decide +kernel), hW.2.2.2.2.2.2.1 (eS, eX) (by decide)⟩) rfl (by decide) (hts (.classLink RL 19 eS) (by decide +kernel)) (va_Nw.use rfl (hW.2.2.2.2.2.2.2.1 eS (by decide))) hc9 hv9 hcl9 ?_
        refine W.eq (g2 := F0 m 15 ls [.ref q9]) rfl ?_
        refine lv_astore_n (lv' := [(3, .ref q9), (0, .ref (b0 + 0)), (1, .int x2), (2, .ref (b0 + 390))]) hx hb dL_reroute_15 rfl hl (by decide) rfl (fun ls hl => ?_)
        refine lv_iconst (v := 2) hx hb dL_reroute_16 (by decide) ?_
        exact q_iret hx hb hr hP hF hS hw dL_reroute_17 hlocks
      · rw [if_neg g1] at hw
        exact False.elim hw
  · obtain ⟨r4, rfl, hw⟩ := hp
    have hP : HP D cy b0 NALL S4 H := by rw [← hh]; exact hB.1
    have hF := hB.2
    try dsimp only at hw
    refine W.eq (g2 := F0 m 7 ls [.int r4, .int 0, .ref (b0 + 390)]) rfl ?_
    refine lv_i2l hx hb dL_reroute_7 (v := r4.toInt64) rfl ?_
    obtain ⟨h8, hw⟩ := hw
    refine q_last (k := 390) (n := 1) (i := 0) (x := (r4.toInt64)) hx hb hK hP hS (by decide) (kk_390) (ll_390) h8 dL_reroute_8 (fun H locs hz hP hS => ?_)
    have hF : Fx (sJ S4 390 ((0 : Int32).toNatClampNeg) (r4.toInt64)) := Fx.sJ hF _ _ _
    generalize eS8 : sJ S4 390 ((0 : Int32).toNatClampNeg) (r4.toInt64) = S8 at hP hF
    have hw := hw S8 eS8.symm
    refine lv_goto (tgt := 18) hx hb dL_reroute_9 (by decide) ?_
    refine lv_iconst (v := 0) hx hb dL_reroute_18 (by decide) ?_
    exact q_iret hx hb hr hP hF hS hw dL_reroute_19 hlocks
set_option maxHeartbeats 4000000 in
set_option maxRecDepth 100000 in
theorem c_L_merge (l : Launch) (hlt : l.stackTraces = false) (D : va_G) (cy : Nat → ClassId) (b0 : Nat) (S : St)   (P : Int32 → St → Prop) (hw : wp_L_merge S  P) : Met l yL_merge wsL_merge rm_L_merge (va_Pc [.ref (b0 + 0), .ref (b0 + 390)] (Wd D cy b0 NALL S)) (QC (Pi P) (Wb D cy b0 NALL) b0) 1 6 (AA b0) := by
  refine va_MetW (cc := cL_merge) (maxL := 3) (ret := (some .int)) (hh := [(0, 8, 11, 19)]) (by decide) rfl ?_
  intro p e s m args below meth c s₁ B hml hv
  obtain ⟨hargs, hW, hP, hF⟩ := hv
  have hx := B.exec
  have hb := B.bytes
  have hr := B.returns
  have hts := atoms_spec (ws := wsL_merge) B.pre
  have hown : s.vm.findClass RL = some m.cls := findClass_of_methodNamed B.named
  have hlocks := B.notSynchronized
  have hK := hW.1
  have hS : va_S (AA b0) s.heap s.heap [] := va_S.rf
  have htab : c.exceptionTable.toList = [⟨0, 8, 11, 19⟩] := vx_table (x := yL_merge) B (hts (.codeWith yL_merge cL_merge 3 (some .int) [(0, 8, 11, 19)]) (by unfold wsL_merge; exact List.mem_cons_self))
  have hE : entryFrame m args 3 = F0 m 0 ((lg_sl [.ref (b0 + 0), .ref (b0 + 390)] ++ List.replicate (3 - (lg_sl [.ref (b0 + 0), .ref (b0 + 390)]).length) Slot.unset).toArray) [] := by rw [hargs]; exact lg_entry_eq m _ _
  rw [hE]
  have hl := lv_entry [.ref (b0 + 0), .ref (b0 + 390)] (n := 3) (Nat.le_of_ble_eq_true rfl)
  generalize (lg_sl [.ref (b0 + 0), .ref (b0 + 390)] ++ List.replicate (3 - (lg_sl [.ref (b0 + 0), .ref (b0 + 390)]).length) Slot.unset).toArray = ls at hl ⊢
  have hl : lv_has ls 3 [(0, .ref (b0 + 0)), (1, .ref (b0 + 390))] := hl
  unfold wp_L_merge at hw
  refine lv_aload_n hx hb dL_merge_0 rfl (lv_at hl 1 rfl) ?_
  refine lv_iconst (v := 0) hx hb dL_merge_1 (by decide) ?_
  refine lv_aload_n hx hb dL_merge_2 rfl (lv_at hl 0 rfl) ?_
  refine q_callX (vx_runV (As := []) (rest := [.int 0, .ref (b0 + 390)]) ⟨hx, hb, hml, hown, hts⟩ (c_X5_merge l hlt D cy b0 S _ _ hw) (cwV 0 hts gL_merge_X5_merge rfl rfl rfl (by decide +kernel) ⟨(Nat.le_of_ble_eq_true rfl), (Nat.le_of_ble_eq_true rfl)⟩) (q_pV hW hP hF hS (k := 0) (ci := 5) (by decide) (cell_5 (kk_0)) rfl []) rfl rfl hl.1 rfl (lv_room (Nat.le_of_ble_eq_true rfl)) dL_merge_3 ⟨(Nat.le_of_ble_eq_true rfl), (Nat.le_of_ble_eq_true rfl)⟩) hS (fun E3 ce q9 S3 t3 H locs hh hw hB hz hS hc9 hv9 hcl9 => ?_) (fun v3 S3 t3 H locs hh hp hB hz hk9 hS => ?_)
  · have hP : HP D cy b0 NALL S3 H := by rw [← hh]; exact hB.1
    have hF := hB.2
    try dsimp only at hw
    by_cases g0 : E3 = eS
    · rw [if_pos g0] at hw
      subst g0
      refine vx_catch (own := RL) (name := eS) hown [] ⟨0, 8, 11, 19⟩ [] htab (fun z hz => by cases hz) rfl (by decide) (hts (.classLink RL 19 eS) (by decide +kernel)) (va_Nw.use rfl (hW.2.2.2.2.2.2.2.1 eS (by decide))) hc9 hv9 hcl9 ?_
      refine W.eq (g2 := F0 m 11 ls [.ref q9]) rfl ?_
      refine lv_astore_n (lv' := [(2, .ref q9), (0, .ref (b0 + 0)), (1, .ref (b0 + 390))]) hx hb dL_merge_11 rfl hl (by decide) rfl (fun ls hl => ?_)
      refine lv_iconst (v := 1) hx hb dL_merge_12 (by decide) ?_
      exact q_iret hx hb hr hP hF hS hw dL_merge_13 hlocks
    · rw [if_neg g0] at hw
      exact False.elim hw
  · obtain ⟨r3, rfl, hw⟩ := hp
    have hP : HP D cy b0 NALL S3 H := by rw [← hh]; exact hB.1
    have hF := hB.2
    try dsimp only at hw
    refine W.eq (g2 := F0 m 6 ls [.int r3, .int 0, .ref (b0 + 390)]) rfl ?_
    refine lv_i2l hx hb dL_merge_6 (v := r3.toInt64) rfl ?_
    obtain ⟨h7, hw⟩ := hw
    refine q_last (k := 390) (n := 1) (i := 0) (x := (r3.toInt64)) hx hb hK hP hS (by decide) (kk_390) (ll_390) h7 dL_merge_7 (fun H locs hz hP hS => ?_)
    have hF : Fx (sJ S3 390 ((0 : Int32).toNatClampNeg) (r3.toInt64)) := Fx.sJ hF _ _ _
    generalize eS7 : sJ S3 390 ((0 : Int32).toNatClampNeg) (r3.toInt64) = S7 at hP hF
    have hw := hw S7 eS7.symm
    refine lv_goto (tgt := 14) hx hb dL_merge_8 (by decide) ?_
    refine lv_iconst (v := 0) hx hb dL_merge_14 (by decide) ?_
    exact q_iret hx hb hr hP hF hS hw dL_merge_15 hlocks
set_option maxHeartbeats 4000000 in
set_option maxRecDepth 100000 in
theorem c_L_move (l : Launch) (hlt : l.stackTraces = false) (D : va_G) (cy : Nat → ClassId) (b0 : Nat) (S : St)   (P : Int32 → St → Prop) (hw : wp_L_move S  P) : Met l yL_move wsL_move rm_L_move (va_Pc [.ref (b0 + 0), .ref (b0 + 390)] (Wd D cy b0 NALL S)) (QC (Pi P) (Wb D cy b0 NALL) b0) 1 6 (AA b0) := by
  refine va_MetW (cc := cL_move) (maxL := 3) (ret := (some .int)) (hh := [(0, 8, 11, 19)]) (by decide) rfl ?_
  intro p e s m args below meth c s₁ B hml hv
  obtain ⟨hargs, hW, hP, hF⟩ := hv
  have hx := B.exec
  have hb := B.bytes
  have hr := B.returns
  have hts := atoms_spec (ws := wsL_move) B.pre
  have hown : s.vm.findClass RL = some m.cls := findClass_of_methodNamed B.named
  have hlocks := B.notSynchronized
  have hK := hW.1
  have hS : va_S (AA b0) s.heap s.heap [] := va_S.rf
  have htab : c.exceptionTable.toList = [⟨0, 8, 11, 19⟩] := vx_table (x := yL_move) B (hts (.codeWith yL_move cL_move 3 (some .int) [(0, 8, 11, 19)]) (by unfold wsL_move; exact List.mem_cons_self))
  have hE : entryFrame m args 3 = F0 m 0 ((lg_sl [.ref (b0 + 0), .ref (b0 + 390)] ++ List.replicate (3 - (lg_sl [.ref (b0 + 0), .ref (b0 + 390)]).length) Slot.unset).toArray) [] := by rw [hargs]; exact lg_entry_eq m _ _
  rw [hE]
  have hl := lv_entry [.ref (b0 + 0), .ref (b0 + 390)] (n := 3) (Nat.le_of_ble_eq_true rfl)
  generalize (lg_sl [.ref (b0 + 0), .ref (b0 + 390)] ++ List.replicate (3 - (lg_sl [.ref (b0 + 0), .ref (b0 + 390)]).length) Slot.unset).toArray = ls at hl ⊢
  have hl : lv_has ls 3 [(0, .ref (b0 + 0)), (1, .ref (b0 + 390))] := hl
  unfold wp_L_move at hw
  refine lv_aload_n hx hb dL_move_0 rfl (lv_at hl 1 rfl) ?_
  refine lv_iconst (v := 0) hx hb dL_move_1 (by decide) ?_
  refine lv_aload_n hx hb dL_move_2 rfl (lv_at hl 0 rfl) ?_
  refine q_callX (vx_runV (As := []) (rest := [.int 0, .ref (b0 + 390)]) ⟨hx, hb, hml, hown, hts⟩ (c_X5_move l hlt D cy b0 S _ _ hw) (cwV 0 hts gL_move_X5_move rfl rfl rfl (by decide +kernel) ⟨(Nat.le_of_ble_eq_true rfl), (Nat.le_of_ble_eq_true rfl)⟩) (q_pV hW hP hF hS (k := 0) (ci := 5) (by decide) (cell_5 (kk_0)) rfl []) rfl rfl hl.1 rfl (lv_room (Nat.le_of_ble_eq_true rfl)) dL_move_3 ⟨(Nat.le_of_ble_eq_true rfl), (Nat.le_of_ble_eq_true rfl)⟩) hS (fun E3 ce q9 S3 t3 H locs hh hw hB hz hS hc9 hv9 hcl9 => ?_) (fun v3 S3 t3 H locs hh hp hB hz hk9 hS => ?_)
  · have hP : HP D cy b0 NALL S3 H := by rw [← hh]; exact hB.1
    have hF := hB.2
    try dsimp only at hw
    by_cases g0 : E3 = eS
    · rw [if_pos g0] at hw
      subst g0
      refine vx_catch (own := RL) (name := eS) hown [] ⟨0, 8, 11, 19⟩ [] htab (fun z hz => by cases hz) rfl (by decide) (hts (.classLink RL 19 eS) (by decide +kernel)) (va_Nw.use rfl (hW.2.2.2.2.2.2.2.1 eS (by decide))) hc9 hv9 hcl9 ?_
      refine W.eq (g2 := F0 m 11 ls [.ref q9]) rfl ?_
      refine lv_astore_n (lv' := [(2, .ref q9), (0, .ref (b0 + 0)), (1, .ref (b0 + 390))]) hx hb dL_move_11 rfl hl (by decide) rfl (fun ls hl => ?_)
      refine lv_iconst (v := 1) hx hb dL_move_12 (by decide) ?_
      exact q_iret hx hb hr hP hF hS hw dL_move_13 hlocks
    · rw [if_neg g0] at hw
      exact False.elim hw
  · obtain ⟨r3, rfl, hw⟩ := hp
    have hP : HP D cy b0 NALL S3 H := by rw [← hh]; exact hB.1
    have hF := hB.2
    try dsimp only at hw
    refine W.eq (g2 := F0 m 6 ls [.int r3, .int 0, .ref (b0 + 390)]) rfl ?_
    refine lv_i2l hx hb dL_move_6 (v := r3.toInt64) rfl ?_
    obtain ⟨h7, hw⟩ := hw
    refine q_last (k := 390) (n := 1) (i := 0) (x := (r3.toInt64)) hx hb hK hP hS (by decide) (kk_390) (ll_390) h7 dL_move_7 (fun H locs hz hP hS => ?_)
    have hF : Fx (sJ S3 390 ((0 : Int32).toNatClampNeg) (r3.toInt64)) := Fx.sJ hF _ _ _
    generalize eS7 : sJ S3 390 ((0 : Int32).toNatClampNeg) (r3.toInt64) = S7 at hP hF
    have hw := hw S7 eS7.symm
    refine lv_goto (tgt := 14) hx hb dL_move_8 (by decide) ?_
    refine lv_iconst (v := 0) hx hb dL_move_14 (by decide) ?_
    exact q_iret hx hb hr hP hF hS hw dL_move_15 hlocks
