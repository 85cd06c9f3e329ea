def wp_L_cell (S : St) (L : Nat) (xs : Nat → Int32) (x2 : Int32) (P : Int32 → St → Prop) : Prop := (if (nI L) ≤ x2 then (P ((7919 * (x2 + 151)) * (x2 + 2347)) S) else (vp_in x2 L ∧ (P (xs (x2.toNatClampNeg)) S)))
abbrev rm_L_cell : Room := { frames := 0, cells := 0, slots := 0, locals := 0 }
def wp_L_low (S : St) (x1 : Int32) (x2 : Int32) (P : Int32 → St → Prop) : Prop := (¬ x2 = 0 ∧ (P ((x1 &&& 2147483647) - (x1 &&& 2147483647) / x2 * x2) S))
abbrev rm_L_low : Room := { frames := 0, cells := 0, slots := 0, locals := 0 }
def wp_L_add (S : St) (x2 : Int32) (x3 : Int32) (x4 : Int32) (P : Int32 → St → Prop) : Prop := (wp_X5_addFibre S x2 x3 x4 (fun r4 S4 => (P r4 S4)) (fun E4 S4 => (if E4 = "java/lang/IllegalArgumentException" then (P (-99999) S4) else (if E4 = "java/lang/IllegalStateException" then (P (-99999) S4) else False))))
abbrev rm_L_add : Room := { frames := 7, cells := 1, slots := 6, locals := 124 }
def wp_L_ask (S : St) (x2 : Int32) (x3 : Int32) (x4 : Int32) (x5 : Int32) (P : Int32 → St → Prop) : Prop := (wp_X5_request S x2 x3 x4 x5 (fun r6 S6 => (P r6 S6)) (fun E6 S6 => (if E6 = "java/lang/IllegalArgumentException" then (P (-99999) S6) else (if E6 = "java/lang/IllegalStateException" then (P (-99999) S6) else False))))
abbrev rm_L_ask : Room := { frames := 15, cells := 1, slots := 6, locals := 417 }
def wp_L_newLength (S : St) (x2 : Int32) (x3 : Int32) (x4 : Int32) (P : Int32 → St → Prop) : Prop := (wp_X5_newLength S x2 x3 x4 (fun r4 S4 => (P r4 S4)) (fun E4 S4 => (if E4 = "java/lang/IllegalArgumentException" then (P (-99999) S4) else (if E4 = "java/lang/IllegalStateException" then (P (-99999) S4) else False))))
abbrev rm_L_newLength : Room := { frames := 15, cells := 1, slots := 6, locals := 417 }
def wp_L_does (S : St) (x2 : Int32) (x3 : Int32) (P : Int32 → St → Prop) : Prop := (if x2 = 0 then (wp_X5_cut S x3 (fun r6 S6 => (P r6 S6)) (fun E6 S6 => (if E6 = "java/lang/IndexOutOfBoundsException" then (P (-99999) S6) else (if E6 = "java/lang/IllegalStateException" then (P (-99999) S6) else False)))) else (if x2 = 1 then (wp_X5_repair S x3 (fun r19 S19 => (P r19 S19)) (fun E19 S19 => (if E19 = "java/lang/IndexOutOfBoundsException" then (P (-99999) S19) else (if E19 = "java/lang/IllegalStateException" then (P (-99999) S19) else False)))) else (if x2 = 2 then (wp_X5_release S x3 (fun r32 S32 => (P r32 S32)) (fun E32 S32 => (if E32 = "java/lang/IndexOutOfBoundsException" then (P (-99999) S32) else (if E32 = "java/lang/IllegalStateException" then (P (-99999) S32) else False)))) else (if x2 = 3 then (wp_X5_lightOf S x3 (fun r45 S45 => (P r45 S45)) (fun E45 S45 => (if E45 = "java/lang/IndexOutOfBoundsException" then (P (-99999) S45) else (if E45 = "java/lang/IllegalStateException" then (P (-99999) S45) else False)))) else (if x2 = 4 then (wp_X5_reroute S x3 (fun r58 S58 => (P r58 S58)) (fun E58 S58 => (if E58 = "java/lang/IndexOutOfBoundsException" then (P (-99999) S58) else (if E58 = "java/lang/IllegalStateException" then (P (-99999) S58) else False)))) else (if x2 = 5 then (wp_X5_merge S (fun r70 S70 => (P r70 S70)) (fun E70 S70 => (if E70 = "java/lang/IndexOutOfBoundsException" then (P (-99999) S70) else (if E70 = "java/lang/IllegalStateException" then (P (-99999) S70) else False)))) else (wp_X5_move S (fun r77 S77 => (P r77 S77)) (fun E77 S77 => (if E77 = "java/lang/IndexOutOfBoundsException" then (P (-99999) S77) else (if E77 = "java/lang/IllegalStateException" then (P (-99999) S77) else False))))))))))
abbrev rm_L_does : Room := { frames := 14, cells := 1, slots := 6, locals := 390 }
def wp_L_looks (S : St) (x2 : Int32) (x3 : Int32) (x4 : Int32) (x5 : Int32) (P : Int32 → St → Prop) : Prop := (if x2 = 0 then (wp_X5_channels S x3 x4 (fun r7 S7 => (P r7 S7)) (fun E7 S7 => (if E7 = "java/lang/IndexOutOfBoundsException" then (P (-99999) S7) else (if E7 = "java/lang/IllegalArgumentException" then (P (-99999) S7) else False)))) else (if x2 = 1 then (wp_X5_channel S x3 x4 x5 (fun r23 S23 => (P r23 S23)) (fun E23 S23 => (if E23 = "java/lang/IndexOutOfBoundsException" then (P (-99999) S23) else (if E23 = "java/lang/IllegalArgumentException" then (P (-99999) S23) else False)))) else (wp_X5_lightOn S x3 x4 (fun r32 S32 => (P r32 S32)) (fun E32 S32 => (if E32 = "java/lang/IndexOutOfBoundsException" then (P (-99999) S32) else (if E32 = "java/lang/IllegalArgumentException" then (P (-99999) S32) else False))))))
abbrev rm_L_looks : Room := { frames := 9, cells := 1, slots := 6, locals := 168 }
def wp_L_convert (S : St) (x2 : Int32) (P : Int32 → St → Prop) : Prop := (wp_X5_toggleConverter S x2 (fun r2 S2 => (if r2 = true then (P 1 S2) else (P 0 S2))) (fun E2 S2 => (if E2 = "java/lang/IllegalArgumentException" then (P (-99999) S2) else False)))
abbrev rm_L_convert : Room := { frames := 7, cells := 1, slots := 6, locals := 121 }
def wp_L_act_118 (x2 : Int32) (x3 : Int32) (P : Int32 → St → Prop) (S : St) (t1 : Int32) (t2 : Int32) (t3 : Int32) (t4 : Bool) : Prop := (wp_L_add S t1 t2 (t3 + (b2i t4)) (fun r119 S119 => (P r119 S119)))
def wp_L_act_106 (x2 : Int32) (x3 : Int32) (P : Int32 → St → Prop) (S : St) (a3 : Bool) (t1 : Int32) (t2 : Int32) (t3 : Int32) (t4 : Int32) : Prop := (wp_L_low S t3 t4 (fun r106 S106 => (if a3 = true then (wp_L_act_118 x2 x3 P S106 t1 t2 r106 false) else (wp_L_act_118 x2 x3 P S106 t1 t2 r106 true))))
def wp_L_act_176 (x2 : Int32) (x3 : Int32) (P : Int32 → St → Prop) (S : St) (t1 : Int32) (t2 : Int32) (t3 : Int32) (t4 : Int32) (t5 : Int32) : Prop := (wp_L_low S t4 t5 (fun r176 S176 => (wp_L_ask S176 t1 t2 t3 r176 (fun r179 S179 => (P r179 S179)))))
def wp_L_act_162 (x2 : Int32) (x3 : Int32) (P : Int32 → St → Prop) (S : St) (a3 : Bool) (t1 : Int32) (t2 : Int32) (t3 : Int32) (t4 : Bool) : Prop := (if a3 = true then (wp_L_act_176 x2 x3 P S t1 t2 (t3 + (b2i t4)) (x3 >>> (13 &&& 31)) 4) else (wp_L_act_176 x2 x3 P S t1 t2 (t3 + (b2i t4)) (x3 >>> (13 &&& 31)) 3))
def wp_L_act_150 (x2 : Int32) (x3 : Int32) (P : Int32 → St → Prop) (S : St) (a3 : Bool) (t1 : Int32) (t2 : Int32) (t3 : Int32) (t4 : Int32) : Prop := (wp_L_low S t3 t4 (fun r150 S150 => (if a3 = true then (wp_L_act_162 x2 x3 P S150 a3 t1 t2 r150 false) else (wp_L_act_162 x2 x3 P S150 a3 t1 t2 r150 true))))
def wp_L_act_288 (x2 : Int32) (x3 : Int32) (P : Int32 → St → Prop) (S : St) (t1 : Int32) : Prop := (wp_L_does S t1 0 (fun r289 S289 => (P r289 S289)))
def wp_L_act_69 (x2 : Int32) (x3 : Int32) (P : Int32 → St → Prop) (S : St) (a3 : Bool) (a4 : Int32) (t0 : Int32) : Prop := (wp_L_low S x3 26 (fun r74 S74 => (if 3 ≤ r74 then (if 15 ≤ r74 then (if 18 ≤ r74 then (if r74 = 18 then (wp_L_convert S74 a4 (fun r218 S218 => (P r218 S218))) else (if 21 ≤ r74 then (if 23 ≤ r74 then (if 25 ≤ r74 then (wp_L_act_288 x2 x3 P S74 6) else (wp_L_act_288 x2 x3 P S74 5)) else (wp_X5_lights S74 (fun r260 S260 => (wp_L_low S260 (x3 >>> (4 &&& 31)) (r260 + 1) (fun r265 S265 => (wp_L_does S265 4 r265 (fun r268 S268 => (P r268 S268)))))))) else (wp_L_low S74 (x3 >>> (4 &&& 31)) 14 (fun r240 S240 => (wp_L_does S240 (r74 - 19) r240 (fun r243 S243 => (P r243 S243))))))) else (wp_X5_requests S74 (fun r196 S196 => (wp_L_low S196 (x3 >>> (4 &&& 31)) (r196 + 1) (fun r201 S201 => (wp_L_does S201 2 r201 (fun r204 S204 => (P r204 S204)))))))) else (if a3 = true then (wp_L_act_150 x2 x3 P S74 a3 a4 t0 (x3 >>> (9 &&& 31)) 13) else (wp_L_act_150 x2 x3 P S74 a3 a4 t0 (x3 >>> (9 &&& 31)) 10))) else (if a3 = true then (wp_L_act_106 x2 x3 P S74 a3 a4 t0 (x3 >>> (9 &&& 31)) 1200) else (wp_L_act_106 x2 x3 P S74 a3 a4 t0 (x3 >>> (9 &&& 31)) 9)))))
def wp_L_act_31 (x2 : Int32) (x3 : Int32) (P : Int32 → St → Prop) (S : St) (a3 : Bool) (t0 : Int32) (t1 : Int32) : Prop := (wp_L_low S t0 t1 (fun r31 S31 => (if a3 = true then (wp_L_low S31 (x3 >>> (6 &&& 31)) 10 (fun r46 S46 => (wp_L_act_69 x2 x3 P S46 a3 r31 r46))) else (wp_L_low S31 (x3 >>> (6 &&& 31)) (x2 - 1) (fun r63 S63 => (¬ x2 = 0 ∧ (wp_L_act_69 x2 x3 P S63 a3 r31 (((r31 + 1) + r63) - ((r31 + 1) + r63) / x2 * x2))))))))
def wp_L_act_17 (x2 : Int32) (x3 : Int32) (P : Int32 → St → Prop) (S : St) (t0 : Bool) : Prop := (if t0 = true then (wp_L_act_31 x2 x3 P S t0 (x3 >>> (3 &&& 31)) 10) else (wp_L_act_31 x2 x3 P S t0 (x3 >>> (3 &&& 31)) x2))
def wp_L_act (S : St) (x2 : Int32) (x3 : Int32) (P : Int32 → St → Prop) : Prop := (wp_L_low S (x3 >>> (24 &&& 31)) 8 (fun r6 S6 => (if r6 = 0 then (wp_L_act_17 x2 x3 P S6 true) else (wp_L_act_17 x2 x3 P S6 false))))
abbrev rm_L_act : Room := { frames := 16, cells := 2, slots := 12, locals := 442 }
def wp_L_isForetoldSo_41 (x2 : Int32) (x3 : Int32) (P : Bool → St → Prop) (S : St) (a3 : Int32) (a4 : Int32) (a5 : Int32) : Prop := (if a5 < 0 then (P true S) else (if a4 < 0 then (P false S) else (if a5 < (2 * a3) then (P false S) else (P true S))))
def wp_L_isForetoldSo (S : St) (x2 : Int32) (x3 : Int32) (P : Bool → St → Prop) : Prop := (wp_L_newLength S x2 x3 0 (fun r4 S4 => (wp_L_newLength S4 x2 x3 1 (fun r12 S12 => (wp_L_newLength S12 x2 x3 2 (fun r21 S21 => (if r12 < 0 then (wp_L_isForetoldSo_41 x2 x3 P S21 r4 r12 r21) else (if r4 < 0 then (P false S21) else (if r12 < r4 then (P false S21) else (wp_L_isForetoldSo_41 x2 x3 P S21 r4 r12 r21))))))))))
abbrev rm_L_isForetoldSo : Room := { frames := 16, cells := 4, slots := 24, locals := 441 }
set_option maxHeartbeats 4000000 in
set_option maxRecDepth 100000 in
theorem c_L_cell (l : Launch) (hlt : l.stackTraces = false) (D : va_G) (cy : Nat → ClassId) (b0 : Nat) (S : St) (b : Nat) (L : Nat) (xs : Nat → Int32) (x2 : Int32) (P : Int32 → St → Prop) (hw : wp_L_cell S L xs x2 P) : Met l yL_cell wsL_cell rm_L_cell (va_Pc [.ref b, .int x2] (WdX D cy b0 S b L xs)) (QC (Pi P) (Wb D cy b0 NALL) b0) 0 0 (AA b0) := by
  refine Met.ofW (cc := cL_cell) (maxL := 2) (ret := (some .int)) (by decide) rfl ?_
  intro p e s m args below meth c s₁ B hml hv
  obtain ⟨hargs, ⟨hW, hP, hF⟩, hX, hbl, hbA⟩ := hv
  have hx := B.exec
  have hb := B.bytes
  have hr := B.returns
  have hts := atoms_spec (ws := wsL_cell) B.pre
  have hown : s.vm.findClass RL = some m.cls := findClass_of_methodNamed B.named
  have hlocks := B.notSynchronized
  have hK := hW.1
  have hS : va_S (AA b0) s.heap s.heap [] := va_S.rf
  have hE : entryFrame m args 2 = F0 m 0 ((lg_sl [.ref b, .int x2] ++ List.replicate (2 - (lg_sl [.ref b, .int x2]).length) Slot.unset).toArray) [] := by rw [hargs]; exact lg_entry_eq m _ _
  rw [hE]
  have hl := lv_entry [.ref b, .int x2] (n := 2) (Nat.le_of_ble_eq_true rfl)
  generalize (lg_sl [.ref b, .int x2] ++ List.replicate (2 - (lg_sl [.ref b, .int x2]).length) Slot.unset).toArray = ls at hl ⊢
  have hl : lv_has ls 2 [(0, .ref b), (1, .int x2)] := hl
  unfold wp_L_cell at hw
  refine lv_iload_n hx hb dL_cell_0 rfl (lv_at hl 1 rfl) ?_
  refine lv_aload_n hx hb dL_cell_1 rfl (lv_at hl 0 rfl) ?_
  refine va_slen hx hb hX hbl hbA hS dL_cell_2 ?_
  refine lv_icmp_ge (x := x2) (y := (nI L)) (tgt := 12) hx hb dL_cell_3 (by decide) (fun c3 => ?_) (fun c3 => ?_)
  · rw [if_pos c3] at hw
    refine lv_sipush (v := 7919) hx hb dL_cell_12 (by decide) ?_
    refine lv_iload_n hx hb dL_cell_15 rfl (lv_at hl 1 rfl) ?_
    refine lv_sipush (v := 151) hx hb dL_cell_16 (by decide) ?_
    refine lv_iadd hx hb dL_cell_19 ?_
    refine lv_imul hx hb dL_cell_20 ?_
    refine lv_iload_n hx hb dL_cell_21 rfl (lv_at hl 1 rfl) ?_
    refine lv_sipush (v := 2347) hx hb dL_cell_22 (by decide) ?_
    refine lv_iadd hx hb dL_cell_25 ?_
    refine lv_imul hx hb dL_cell_26 ?_
    exact q_iret hx hb hr hP hF hS hw dL_cell_27 hlocks
  · rw [if_neg c3] at hw
    refine lv_aload_n hx hb dL_cell_6 rfl (lv_at hl 0 rfl) ?_
    refine lv_iload_n hx hb dL_cell_7 rfl (lv_at hl 1 rfl) ?_
    obtain ⟨h8, hw⟩ := hw
    refine va_sld hx hb hX hbl hbA hS (i := x2) h8 dL_cell_8 ?_
    refine lv_goto (tgt := 27) hx hb dL_cell_9 (by decide) ?_
    exact q_iret hx hb hr hP hF hS hw dL_cell_27 hlocks
set_option maxHeartbeats 4000000 in
set_option maxRecDepth 100000 in
theorem c_L_low (l : Launch) (hlt : l.stackTraces = false) (D : va_G) (cy : Nat → ClassId) (b0 : Nat) (S : St) (x1 : Int32) (x2 : Int32) (P : Int32 → St → Prop) (hw : wp_L_low S x1 x2 P) : Met l yL_low wsL_low rm_L_low (va_Pc [.int x1, .int x2] (Wd D cy b0 NALL S)) (QC (Pi P) (Wb D cy b0 NALL) b0) 0 0 (AA b0) := by
  refine Met.ofW (cc := cL_low) (maxL := 2) (ret := (some .int)) (by decide) rfl ?_
  intro p e s m args below meth c s₁ B hml hv
  obtain ⟨hargs, hW, hP, hF⟩ := hv
  have hx := B.exec
  have hb := B.bytes
  have hr := B.returns
  have hts := atoms_spec (ws := wsL_low) B.pre
  have hown : s.vm.findClass RL = some m.cls := findClass_of_methodNamed B.named
  have hlocks := B.notSynchronized
  have hK := hW.1
  have hS : va_S (AA b0) s.heap s.heap [] := va_S.rf
  have hE : entryFrame m args 2 = F0 m 0 ((lg_sl [.int x1, .int x2] ++ List.replicate (2 - (lg_sl [.int x1, .int x2]).length) Slot.unset).toArray) [] := by rw [hargs]; exact lg_entry_eq m _ _
  rw [hE]
  have hl := lv_entry [.int x1, .int x2] (n := 2) (Nat.le_of_ble_eq_true rfl)
  generalize (lg_sl [.int x1, .int x2] ++ List.replicate (2 - (lg_sl [.int x1, .int x2]).length) Slot.unset).toArray = ls at hl ⊢
  have hl : lv_has ls 2 [(0, .int x1), (1, .int x2)] := hl
  unfold wp_L_low at hw
  refine lv_iload_n hx hb dL_low_0 rfl (lv_at hl 0 rfl) ?_
  refine lv_ldc (v := 2147483647) hx hb hown (hts (.constant RL 7 2147483647) (by decide +kernel)) dL_low_1 ?_
  refine lv_iand hx hb dL_low_3 ?_
  refine lv_iload_n hx hb dL_low_4 rfl (lv_at hl 1 rfl) ?_
  obtain ⟨h5, hw⟩ := hw
  refine lv_irem hx hb dL_low_5 h5 ?_
  exact q_iret hx hb hr hP hF hS hw dL_low_6 hlocks
set_option maxHeartbeats 4000000 in
set_option maxRecDepth 100000 in
theorem c_L_add (l : Launch) (hlt : l.stackTraces = false) (D : va_G) (cy : Nat → ClassId) (b0 : Nat) (S : St) (x2 : Int32) (x3 : Int32) (x4 : Int32) (P : Int32 → St → Prop) (hw : wp_L_add S x2 x3 x4 P) : Met l yL_add wsL_add rm_L_add (va_Pc [.ref (b0 + 0), .int x2, .int x3, .int x4] (Wd D cy b0 NALL S)) (QC (Pi P) (Wb D cy b0 NALL) b0) 1 6 (AA b0) := by
  refine va_MetW (cc := cL_add) (maxL := 5) (ret := (some .int)) (hh := [(0, 7, 8, 14), (0, 7, 13, 17)]) (by decide) rfl ?_
  intro p e s m args below meth c s₁ B hml hv
  obtain ⟨hargs, hW, hP, hF⟩ := hv
  have hx := B.exec
  have hb := B.bytes
  have hr := B.returns
  have hts := atoms_spec (ws := wsL_add) B.pre
  have hown : s.vm.findClass RL = some m.cls := findClass_of_methodNamed B.named
  have hlocks := B.notSynchronized
  have hK := hW.1
  have hS : va_S (AA b0) s.heap s.heap [] := va_S.rf
  have htab : c.exceptionTable.toList = [⟨0, 7, 8, 14⟩, ⟨0, 7, 13, 17⟩] := vx_table (x := yL_add) B (hts (.codeWith yL_add cL_add 5 (some .int) [(0, 7, 8, 14), (0, 7, 13, 17)]) (by unfold wsL_add; exact List.mem_cons_self))
  have hE : entryFrame m args 5 = F0 m 0 ((lg_sl [.ref (b0 + 0), .int x2, .int x3, .int x4] ++ List.replicate (5 - (lg_sl [.ref (b0 + 0), .int x2, .int x3, .int x4]).length) Slot.unset).toArray) [] := by rw [hargs]; exact lg_entry_eq m _ _
  rw [hE]
  have hl := lv_entry [.ref (b0 + 0), .int x2, .int x3, .int x4] (n := 5) (Nat.le_of_ble_eq_true rfl)
  generalize (lg_sl [.ref (b0 + 0), .int x2, .int x3, .int x4] ++ List.replicate (5 - (lg_sl [.ref (b0 + 0), .int x2, .int x3, .int x4]).length) Slot.unset).toArray = ls at hl ⊢
  have hl : lv_has ls 5 [(0, .ref (b0 + 0)), (1, .int x2), (2, .int x3), (3, .int x4)] := hl
  unfold wp_L_add at hw
  refine lv_aload_n hx hb dL_add_0 rfl (lv_at hl 0 rfl) ?_
  refine lv_iload_n hx hb dL_add_1 rfl (lv_at hl 1 rfl) ?_
  refine lv_iload_n hx hb dL_add_2 rfl (lv_at hl 2 rfl) ?_
  refine lv_iload_n hx hb dL_add_3 rfl (lv_at hl 3 rfl) ?_
  refine q_callX (vx_runV (As := [.int x2, .int x3, .int x4]) (rest := []) ⟨hx, hb, hml, hown, hts⟩ (c_X5_addFibre l hlt D cy b0 S x2 x3 x4 _ _ hw) (cwV 3 hts gL_add_X5_addFibre rfl rfl rfl (by decide +kernel) ⟨(Nat.le_of_ble_eq_true rfl), (Nat.le_of_ble_eq_true rfl)⟩) (q_pV hW hP hF hS (k := 0) (ci := 5) (by decide) (cell_5 kk_0) rfl [.int x2, .int x3, .int x4]) rfl rfl hl.1 rfl (lv_room (Nat.le_of_ble_eq_true rfl)) dL_add_4 ⟨by show _ ≤ 1; omega, by show _ ≤ 6; omega⟩) hS (fun E4 ce q9 S4 t4 H locs hh hw hB hz hS hc9 hv9 hcl9 => ?_) (fun v4 S4 t4 H locs hh hp hB hz hk9 hS => ?_)
  · have hP : HP D cy b0 NALL S4 H := by rw [← hh]; exact hB.1
    have hF := hB.2
    try dsimp only at hw
    by_cases g0 : E4 = eA
    · rw [if_pos g0] at hw
      subst g0
      refine vx_catch (own := RL) (name := eA) hown [] ⟨0, 7, 8, 14⟩ [⟨0, 7, 13, 17⟩] htab (fun z hz => by cases hz) rfl (by decide) (hts (.classLink RL 14 eA) (by decide +kernel)) (va_Nw.use rfl (hW.2.2.2.2.2.2.2.1 eA (by decide))) hc9 hv9 hcl9 ?_
      refine W.eq (g2 := F0 m 8 ls [.ref q9]) rfl ?_
      refine lv_astore (lv' := [(4, .ref q9), (0, .ref (b0 + 0)), (1, .int x2), (2, .int x3), (3, .int x4)]) hx hb dL_add_8 hl (by decide) rfl (fun ls hl => ?_)
      refine lv_ldc (v := (-99999)) hx hb hown (hts (.constant RL 16 (-99999)) (by decide +kernel)) dL_add_10 ?_
      exact q_iret hx hb hr hP hF hS hw dL_add_12 hlocks
    · rw [if_neg g0] at hw
      by_cases g1 : E4 = eS
      · rw [if_pos g1] at hw
        subst g1
        refine vx_catch (own := RL) (name := eS) hown [⟨0, 7, 8, 14⟩] ⟨0, 7, 13, 17⟩ [] htab (fun z hz => by rcases List.mem_singleton.mp hz with rfl; exact Or.inr ⟨by decide, eA, hts (.classLink RL 14 eA) (by decide +kernel), hW.2.2.2.2.2.2.1 (eS, eA) (by decide)⟩) rfl (by decide) (hts (.classLink RL 17 eS) (by decide +kernel)) (va_Nw.use rfl (hW.2.2.2.2.2.2.2.1 eS (by decide))) hc9 hv9 hcl9 ?_
        refine W.eq (g2 := F0 m 13 ls [.ref q9]) rfl ?_
        refine lv_astore (lv' := [(4, .ref q9), (0, .ref (b0 + 0)), (1, .int x2), (2, .int x3), (3, .int x4)]) hx hb dL_add_13 hl (by decide) rfl (fun ls hl => ?_)
        refine lv_ldc (v := (-99999)) hx hb hown (hts (.constant RL 16 (-99999)) (by decide +kernel)) dL_add_15 ?_
        exact q_iret hx hb hr hP hF hS hw dL_add_17 hlocks
      · rw [if_neg g1] at hw
        exact False.elim hw
  · obtain ⟨r4, rfl, hw⟩ := hp
    have hP : HP D cy b0 NALL S4 H := by rw [← hh]; exact hB.1
    have hF := hB.2
    try dsimp only at hw
    refine W.eq (g2 := F0 m 7 ls [.int r4]) rfl ?_
    refine W.widen (k := 1) (n := 6) (by omega) (by omega) ?_
    exact q_iret hx hb hr hP hF hS hw dL_add_7 hlocks
set_option maxHeartbeats 4000000 in
set_option maxRecDepth 100000 in
theorem c_L_ask (l : Launch) (hlt : l.stackTraces = false) (D : va_G) (cy : Nat → ClassId) (b0 : Nat) (S : St) (x2 : Int32) (x3 : Int32) (x4 : Int32) (x5 : Int32) (P : Int32 → St → Prop) (hw : wp_L_ask S x2 x3 x4 x5 P) : Met l yL_ask wsL_ask rm_L_ask (va_Pc [.ref (b0 + 0), .int x2, .int x3, .int x4, .int x5] (Wd D cy b0 NALL S)) (QC (Pi P) (Wb D cy b0 NALL) b0) 1 6 (AA b0) := by
  refine va_MetW (cc := cL_ask) (maxL := 6) (ret := (some .int)) (hh := [(0, 9, 10, 14), (0, 9, 15, 17)]) (by decide) rfl ?_
  intro p e s m args below meth c s₁ B hml hv
  obtain ⟨hargs, hW, hP, hF⟩ := hv
  have hx := B.exec
  have hb := B.bytes
  have hr := B.returns
  have hts := atoms_spec (ws := wsL_ask) B.pre
  have hown : s.vm.findClass RL = some m.cls := findClass_of_methodNamed B.named
  have hlocks := B.notSynchronized
  have hK := hW.1
  have hS : va_S (AA b0) s.heap s.heap [] := va_S.rf
  have htab : c.exceptionTable.toList = [⟨0, 9, 10, 14⟩, ⟨0, 9, 15, 17⟩] := vx_table (x := yL_ask) B (hts (.codeWith yL_ask cL_ask 6 (some .int) [(0, 9, 10, 14), (0, 9, 15, 17)]) (by unfold wsL_ask; exact List.mem_cons_self))
  have hE : entryFrame m args 6 = F0 m 0 ((lg_sl [.ref (b0 + 0), .int x2, .int x3, .int x4, .int x5] ++ List.replicate (6 - (lg_sl [.ref (b0 + 0), .int x2, .int x3, .int x4, .int x5]).length) Slot.unset).toArray) [] := by rw [hargs]; exact lg_entry_eq m _ _
  rw [hE]
  have hl := lv_entry [.ref (b0 + 0), .int x2, .int x3, .int x4, .int x5] (n := 6) (Nat.le_of_ble_eq_true rfl)
  generalize (lg_sl [.ref (b0 + 0), .int x2, .int x3, .int x4, .int x5] ++ List.replicate (6 - (lg_sl [.ref (b0 + 0), .int x2, .int x3, .int x4, .int x5]).length) Slot.unset).toArray = ls at hl ⊢
  have hl : lv_has ls 6 [(0, .ref (b0 + 0)), (1, .int x2), (2, .int x3), (3, .int x4), (4, .int x5)] := hl
  unfold wp_L_ask at hw
  refine lv_aload_n hx hb dL_ask_0 rfl (lv_at hl 0 rfl) ?_
  refine lv_iload_n hx hb dL_ask_1 rfl (lv_at hl 1 rfl) ?_
  refine lv_iload_n hx hb dL_ask_2 rfl (lv_at hl 2 rfl) ?_
  refine lv_iload_n hx hb dL_ask_3 rfl (lv_at hl 3 rfl) ?_
  refine lv_iload hx hb dL_ask_4 (lv_at hl 4 rfl) ?_
  refine q_callX (vx_runV (As := [.int x2, .int x3, .int x4, .int x5]) (rest := []) ⟨hx, hb, hml, hown, hts⟩ (c_X5_request l hlt D cy b0 S x2 x3 x4 x5 _ _ hw) (cwV 4 hts gL_ask_X5_request rfl rfl rfl (by decide +kernel) ⟨(Nat.le_of_ble_eq_true rfl), (Nat.le_of_ble_eq_true rfl)⟩) (q_pV hW hP hF hS (k := 0) (ci := 5) (by decide) (cell_5 kk_0) rfl [.int x2, .int x3, .int x4, .int x5]) rfl rfl hl.1 rfl (lv_room (Nat.le_of_ble_eq_true rfl)) dL_ask_6 ⟨by show _ ≤ 1; omega, by show _ ≤ 6; omega⟩) hS (fun E6 ce q9 S6 t6 H locs hh hw hB hz hS hc9 hv9 hcl9 => ?_) (fun v6 S6 t6 H locs hh hp hB hz hk9 hS => ?_)
  · have hP : HP D cy b0 NALL S6 H := by rw [← hh]; exact hB.1
    have hF := hB.2
    try dsimp only at hw
    by_cases g0 : E6 = eA
    · rw [if_pos g0] at hw
      subst g0
      refine vx_catch (own := RL) (name := eA) hown [] ⟨0, 9, 10, 14⟩ [⟨0, 9, 15, 17⟩] htab (fun z hz => by cases hz) rfl (by decide) (hts (.classLink RL 14 eA) (by decide +kernel)) (va_Nw.use rfl (hW.2.2.2.2.2.2.2.1 eA (by decide))) hc9 hv9 hcl9 ?_
      refine W.eq (g2 := F0 m 10 ls [.ref q9]) rfl ?_
      refine lv_astore (lv' := [(5, .ref q9), (0, .ref (b0 + 0)), (1, .int x2), (2, .int x3), (3, .int x4), (4, .int x5)]) hx hb dL_ask_10 hl (by decide) rfl (fun ls hl => ?_)
      refine lv_ldc (v := (-99999)) hx hb hown (hts (.constant RL 16 (-99999)) (by decide +kernel)) dL_ask_12 ?_
      exact q_iret hx hb hr hP hF hS hw dL_ask_14 hlocks
    · rw [if_neg g0] at hw
      by_cases g1 : E6 = eS
      · rw [if_pos g1] at hw
        subst g1
        refine vx_catch (own := RL) (name := eS) hown [⟨0, 9, 10, 14⟩] ⟨0, 9, 15, 17⟩ [] htab (fun z hz => by rcases List.mem_singleton.mp hz with rfl; exact Or.inr ⟨by decide, eA, hts (.classLink RL 14 eA) (by decide +kernel), hW.2.2.2.2.2.2.1 (eS, eA) (by decide)⟩) rfl (by decide) (hts (.classLink RL 17 eS) (by decide +kernel)) (va_Nw.use rfl (hW.2.2.2.2.2.2.2.1 eS (by decide))) hc9 hv9 hcl9 ?_
        refine W.eq (g2 := F0 m 15 ls [.ref q9]) rfl ?_
        refine lv_astore (lv' := [(5, .ref q9), (0, .ref (b0 + 0)), (1, .int x2), (2, .int x3), (3, .int x4), (4, .int x5)]) hx hb dL_ask_15 hl (by decide) rfl (fun ls hl => ?_)
        refine lv_ldc (v := (-99999)) hx hb hown (hts (.constant RL 16 (-99999)) (by decide +kernel)) dL_ask_17 ?_
        exact q_iret hx hb hr hP hF hS hw dL_ask_19 hlocks
      · rw [if_neg g1] at hw
        exact False.elim hw
  · obtain ⟨r6, rfl, hw⟩ := hp
    have hP : HP D cy b0 NALL S6 H := by rw [← hh]; exact hB.1
    have hF := hB.2
    try dsimp only at hw
    refine W.eq (g2 := F0 m 9 ls [.int r6]) rfl ?_
    refine W.widen (k := 1) (n := 6) (by omega) (by omega) ?_
    exact q_iret hx hb hr hP hF hS hw dL_ask_9 hlocks
set_option maxHeartbeats 4000000 in
set_option maxRecDepth 100000 in
theorem c_L_newLength (l : Launch) (hlt : l.stackTraces = false) (D : va_G) (cy : Nat → ClassId) (b0 : Nat) (S : St) (x2 : Int32) (x3 : Int32) (x4 : Int32) (P : Int32 → St → Prop) (hw : wp_L_newLength S x2 x3 x4 P) : Met l yL_newLength wsL_newLength rm_L_newLength (va_Pc [.ref (b0 + 0), .int x2, .int x3, .int x4] (Wd D cy b0 NALL S)) (QC (Pi P) (Wb D cy b0 NALL) b0) 1 6 (AA b0) := by
  refine va_MetW (cc := cL_newLength) (maxL := 5) (ret := (some .int)) (hh := [(0, 7, 8, 14), (0, 7, 13, 17)]) (by decide) rfl ?_
  intro p e s m args below meth c s₁ B hml hv
  obtain ⟨hargs, hW, hP, hF⟩ := hv
  have hx := B.exec
  have hb := B.bytes
  have hr := B.returns
  have hts := atoms_spec (ws := wsL_newLength) B.pre
  have hown : s.vm.findClass RL = some m.cls := findClass_of_methodNamed B.named
  have hlocks := B.notSynchronized
  have hK := hW.1
  have hS : va_S (AA b0) s.heap s.heap [] := va_S.rf
  have htab : c.exceptionTable.toList = [⟨0, 7, 8, 14⟩, ⟨0, 7, 13, 17⟩] := vx_table (x := yL_newLength) B (hts (.codeWith yL_newLength cL_newLength 5 (some .int) [(0, 7, 8, 14), (0, 7, 13, 17)]) (by unfold wsL_newLength; exact List.mem_cons_self))
  have hE : entryFrame m args 5 = F0 m 0 ((lg_sl [.ref (b0 + 0), .int x2, .int x3, .int x4] ++ List.replicate (5 - (lg_sl [.ref (b0 + 0), .int x2, .int x3, .int x4]).length) Slot.unset).toArray) [] := by rw [hargs]; exact lg_entry_eq m _ _
  rw [hE]
  have hl := lv_entry [.ref (b0 + 0), .int x2, .int x3, .int x4] (n := 5) (Nat.le_of_ble_eq_true rfl)
  generalize (lg_sl [.ref (b0 + 0), .int x2, .int x3, .int x4] ++ List.replicate (5 - (lg_sl [.ref (b0 + 0), .int x2, .int x3, .int x4]).length) Slot.unset).toArray = ls at hl ⊢
  have hl : lv_has ls 5 [(0, .ref (b0 + 0)), (1, .int x2), (2, .int x3), (3, .int x4)] := hl
  unfold wp_L_newLength at hw
  refine lv_aload_n hx hb dL_newLength_0 rfl (lv_at hl 0 rfl) ?_
  refine lv_iload_n hx hb dL_newLength_1 rfl (lv_at hl 1 rfl) ?_
  refine lv_iload_n hx hb dL_newLength_2 rfl (lv_at hl 2 rfl) ?_
  refine lv_iload_n hx hb dL_newLength_3 rfl (lv_at hl 3 rfl) ?_
  refine q_callX (vx_runV (As := [.int x2, .int x3, .int x4]) (rest := []) ⟨hx, hb, hml, hown, hts⟩ (c_X5_newLength l hlt D cy b0 S x2 x3 x4 _ _ hw) (cwV 3 hts gL_newLength_X5_newLength rfl rfl rfl (by decide +kernel) ⟨(Nat.le_of_ble_eq_true rfl), (Nat.le_of_ble_eq_true rfl)⟩) (q_pV hW hP hF hS (k := 0) (ci := 5) (by decide) (cell_5 kk_0) rfl [.int x2, .int x3, .int x4]) rfl rfl hl.1 rfl (lv_room (Nat.le_of_ble_eq_true rfl)) dL_newLength_4 ⟨by show _ ≤ 1; omega, by show _ ≤ 6; omega⟩) hS (fun E4 ce q9 S4 t4 H locs hh hw hB hz hS hc9 hv9 hcl9 => ?_) (fun v4 S4 t4 H locs hh hp hB hz hk9 hS => ?_)
  · have hP : HP D cy b0 NALL S4 H := by rw [← hh]; exact hB.1
    have hF := hB.2
    try dsimp only at hw
    by_cases g0 : E4 = eA
    · rw [if_pos g0] at hw
      subst g0
      refine vx_catch (own := RL) (name := eA) hown [] ⟨0, 7, 8, 14⟩ [⟨0, 7, 13, 17⟩] htab (fun z hz => by cases hz) rfl (by decide) (hts (.classLink RL 14 eA) (by decide +kernel)) (va_Nw.use rfl (hW.2.2.2.2.2.2.2.1 eA (by decide))) hc9 hv9 hcl9 ?_
      refine W.eq (g2 := F0 m 8 ls [.ref q9]) rfl ?_
      refine lv_astore (lv' := [(4, .ref q9), (0, .ref (b0 + 0)), (1, .int x2), (2, .int x3), (3, .int x4)]) hx hb dL_newLength_8 hl (by decide) rfl (fun ls hl => ?_)
      refine lv_ldc (v := (-99999)) hx hb hown (hts (.constant RL 16 (-99999)) (by decide +kernel)) dL_newLength_10 ?_
      exact q_iret hx hb hr hP hF hS hw dL_newLength_12 hlocks
    · rw [if_neg g0] at hw
      by_cases g1 : E4 = eS
      · rw [if_pos g1] at hw
        subst g1
        refine vx_catch (own := RL) (name := eS) hown [⟨0, 7, 8, 14⟩] ⟨0, 7, 13, 17⟩ [] htab (fun z hz => by rcases List.mem_singleton.mp hz with rfl; exact Or.inr ⟨by decide, eA, hts (.classLink RL 14 eA) (by decide +kernel), hW.2.2.2.2.2.2.1 (eS, eA) (by decide)⟩) rfl (by decide) (hts (.classLink RL 17 eS) (by decide +kernel)) (va_Nw.use rfl (hW.2.2.2.2.2.2.2.1 eS (by decide))) hc9 hv9 hcl9 ?_
        refine W.eq (g2 := F0 m 13 ls [.ref q9]) rfl ?_
        refine lv_astore (lv' := [(4, .ref q9), (0, .ref (b0 + 0)), (1, .int x2), (2, .int x3), (3, .int x4)]) hx hb dL_newLength_13 hl (by decide) rfl (fun ls hl => ?_)
        refine lv_ldc (v := (-99999)) hx hb hown (hts (.constant RL 16 (-99999)) (by decide +kernel)) dL_newLength_15 ?_
        exact q_iret hx hb hr hP hF hS hw dL_newLength_17 hlocks
      · rw [if_neg g1] at hw
        exact False.elim hw
  · obtain ⟨r4, rfl, hw⟩ := hp
    have hP : HP D cy b0 NALL S4 H := by rw [← hh]; exact hB.1
    have hF := hB.2
    try dsimp only at hw
    refine W.eq (g2 := F0 m 7 ls [.int r4]) rfl ?_
    refine W.widen (k := 1) (n := 6) (by omega) (by omega) ?_
    exact q_iret hx hb hr hP hF hS hw dL_newLength_7 hlocks
set_option maxHeartbeats 4000000 in
set_option maxRecDepth 100000 in
theorem c_L_does (l : Launch) (hlt : l.stackTraces = false) (D : va_G) (cy : Nat → ClassId) (b0 : Nat) (S : St) (x2 : Int32) (x3 : Int32) (P : Int32 → St → Prop) (hw : wp_L_does S x2 x3 P) : Met l yL_does wsL_does rm_L_does (va_Pc [.ref (b0 + 0), .int x2, .int x3] (Wd D cy b0 NALL S)) (QC (Pi P) (Wb D cy b0 NALL) b0) 1 6 (AA b0) := by
  refine va_MetW (cc := cL_does) (maxL := 4) (ret := (some .int)) (hh := [(0, 80, 81, 49), (0, 80, 85, 17)]) (by decide) rfl ?_
  intro p e s m args below meth c s₁ B hml hv
  obtain ⟨hargs, hW, hP, hF⟩ := hv
  have hx := B.exec
  have hb := B.bytes
  have hr := B.returns
  have hts := atoms_spec (ws := wsL_does) B.pre
  have hown : s.vm.findClass RL = some m.cls := findClass_of_methodNamed B.named
  have hlocks := B.notSynchronized
  have hK := hW.1
  have hS : va_S (AA b0) s.heap s.heap [] := va_S.rf
  have htab : c.exceptionTable.toList = [⟨0, 80, 81, 49⟩, ⟨0, 80, 85, 17⟩] := vx_table (x := yL_does) B (hts (.codeWith yL_does cL_does 4 (some .int) [(0, 80, 81, 49), (0, 80, 85, 17)]) (by unfold wsL_does; exact List.mem_cons_self))
  have hE : entryFrame m args 4 = F0 m 0 ((lg_sl [.ref (b0 + 0), .int x2, .int x3] ++ List.replicate (4 - (lg_sl [.ref (b0 + 0), .int x2, .int x3]).length) Slot.unset).toArray) [] := by rw [hargs]; exact lg_entry_eq m _ _
  rw [hE]
  have hl := lv_entry [.ref (b0 + 0), .int x2, .int x3] (n := 4) (Nat.le_of_ble_eq_true rfl)
  generalize (lg_sl [.ref (b0 + 0), .int x2, .int x3] ++ List.replicate (4 - (lg_sl [.ref (b0 + 0), .int x2, .int x3]).length) Slot.unset).toArray = ls at hl ⊢
  have hl : lv_has ls 4 [(0, .ref (b0 + 0)), (1, .int x2), (2, .int x3)] := hl
  unfold wp_L_does at hw
  refine lv_iload_n hx hb dL_does_0 rfl (lv_at hl 1 rfl) ?_
  refine lv_if_ne (x := x2) (tgt := 12) hx hb dL_does_1 (by decide) (fun c1 => ?_) (fun c1 => ?_)
  · rw [if_neg c1] at hw
    refine lv_iload_n hx hb dL_does_12 rfl (lv_at hl 1 rfl) ?_
    refine lv_iconst (v := 1) hx hb dL_does_13 (by decide) ?_
    refine lv_icmp_ne (x := x2) (y := 1) (tgt := 25) hx hb dL_does_14 (by decide) (fun c14 => ?_) (fun c14 => ?_)
    · rw [if_neg c14] at hw
      refine lv_iload_n hx hb dL_does_25 rfl (lv_at hl 1 rfl) ?_
      refine lv_iconst (v := 2) hx hb dL_does_26 (by decide) ?_
      refine lv_icmp_ne (x := x2) (y := 2) (tgt := 38) hx hb dL_does_27 (by decide) (fun c27 => ?_) (fun c27 => ?_)
      · rw [if_neg c27] at hw
        refine lv_iload_n hx hb dL_does_38 rfl (lv_at hl 1 rfl) ?_
        refine lv_iconst (v := 3) hx hb dL_does_39 (by decide) ?_
        refine lv_icmp_ne (x := x2) (y := 3) (tgt := 51) hx hb dL_does_40 (by decide) (fun c40 => ?_) (fun c40 => ?_)
        · rw [if_neg c40] at hw
          refine lv_iload_n hx hb dL_does_51 rfl (lv_at hl 1 rfl) ?_
          refine lv_iconst (v := 4) hx hb dL_does_52 (by decide) ?_
          refine lv_icmp_ne (x := x2) (y := 4) (tgt := 64) hx hb dL_does_53 (by decide) (fun c53 => ?_) (fun c53 => ?_)
          · rw [if_neg c53] at hw
            refine lv_iload_n hx hb dL_does_64 rfl (lv_at hl 1 rfl) ?_
            refine lv_iconst (v := 5) hx hb dL_does_65 (by decide) ?_
            refine lv_icmp_ne (x := x2) (y := 5) (tgt := 76) hx hb dL_does_66 (by decide) (fun c66 => ?_) (fun c66 => ?_)
            · rw [if_neg c66] at hw
              refine lv_aload_n hx hb dL_does_76 rfl (lv_at hl 0 rfl) ?_
              refine q_callX (vx_runV (As := []) (rest := []) ⟨hx, hb, hml, hown, hts⟩ (c_X5_move l hlt D cy b0 S _ _ hw) (cwV 0 hts gL_does_X5_move rfl rfl rfl (by decide +kernel) ⟨(Nat.le_of_ble_eq_true rfl), (Nat.le_of_ble_eq_true rfl)⟩) (q_pV hW hP hF hS (k := 0) (ci := 5) (by decide) (cell_5 kk_0) rfl []) rfl rfl hl.1 rfl (lv_room (Nat.le_of_ble_eq_true rfl)) dL_does_77 ⟨by show _ ≤ 1; omega, by show _ ≤ 6; omega⟩) hS (fun E77 ce q9 S77 t77 H locs hh hw hB hz hS hc9 hv9 hcl9 => ?_) (fun v77 S77 t77 H locs hh hp hB hz hk9 hS => ?_)
              · have hP : HP D cy b0 NALL S77 H := by rw [← hh]; exact hB.1
                have hF := hB.2
                try dsimp only at hw
                by_cases g0 : E77 = eX
                · rw [if_pos g0] at hw
                  subst g0
                  refine vx_catch (own := RL) (name := eX) hown [] ⟨0, 80, 81, 49⟩ [⟨0, 80, 85, 17⟩] htab (fun z hz => by cases hz) rfl (by decide) (hts (.classLink RL 49 eX) (by decide +kernel)) (va_Nw.use rfl (hW.2.2.2.2.2.2.2.1 eX (by decide))) hc9 hv9 hcl9 ?_
                  refine W.eq (g2 := F0 m 81 ls [.ref q9]) rfl ?_
                  refine lv_astore_n (lv' := [(3, .ref q9), (0, .ref (b0 + 0)), (1, .int x2), (2, .int x3)]) hx hb dL_does_81 rfl hl (by decide) rfl (fun ls hl => ?_)
                  refine lv_ldc (v := (-99999)) hx hb hown (hts (.constant RL 16 (-99999)) (by decide +kernel)) dL_does_82 ?_
                  exact q_iret hx hb hr hP hF hS hw dL_does_84 hlocks
                · rw [if_neg g0] at hw
                  by_cases g1 : E77 = eS
                  · rw [if_pos g1] at hw
                    subst g1
                    refine vx_catch (own := RL) (name := eS) hown [⟨0, 80, 81, 49⟩] ⟨0, 80, 85, 17⟩ [] htab (fun z hz => by rcases List.mem_singleton.mp hz with rfl; exact Or.inr ⟨by decide, eX, hts (.classLink RL 49 eX) (by decide +kernel), hW.2.2.2.2.2.2.1 (eS, eX) (by decide)⟩) rfl (by decide) (hts (.classLink RL 17 eS) (by decide +kernel)) (va_Nw.use rfl (hW.2.2.2.2.2.2.2.1 eS (by decide))) hc9 hv9 hcl9 ?_
                    refine W.eq (g2 := F0 m 85 ls [.ref q9]) rfl ?_
                    refine lv_astore_n (lv' := [(3, .ref q9), (0, .ref (b0 + 0)), (1, .int x2), (2, .int x3)]) hx hb dL_does_85 rfl hl (by decide) rfl (fun ls hl => ?_)
                    refine lv_ldc (v := (-99999)) hx hb hown (hts (.constant RL 16 (-99999)) (by decide +kernel)) dL_does_86 ?_
                    exact q_iret hx hb hr hP hF hS hw dL_does_88 hlocks
                  · rw [if_neg g1] at hw
                    exact False.elim hw
              · obtain ⟨r77, rfl, hw⟩ := hp
                have hP : HP D cy b0 NALL S77 H := by rw [← hh]; exact hB.1
                have hF := hB.2
                try dsimp only at hw
                refine W.eq (g2 := F0 m 80 ls [.int r77]) rfl ?_
                refine W.widen (k := 1) (n := 6) (by omega) (by omega) ?_
                exact q_iret hx hb hr hP hF hS hw dL_does_80 hlocks
            · rw [if_pos c66] at hw
              refine lv_aload_n hx hb dL_does_69 rfl (lv_at hl 0 rfl) ?_
              refine q_callX (vx_runV (As := []) (rest := []) ⟨hx, hb, hml, hown, hts⟩ (c_X5_merge l hlt D cy b0 S _ _ hw) (cwV 0 hts gL_does_X5_merge rfl rfl rfl (by decide +kernel) ⟨(Nat.le_of_ble_eq_true rfl), (Nat.le_of_ble_eq_true rfl)⟩) (q_pV hW hP hF hS (k := 0) (ci := 5) (by decide) (cell_5 kk_0) rfl []) rfl rfl hl.1 rfl (lv_room (Nat.le_of_ble_eq_true rfl)) dL_does_70 ⟨by show _ ≤ 1; omega, by show _ ≤ 6; omega⟩) hS (fun E70 ce q9 S70 t70 H locs hh hw hB hz hS hc9 hv9 hcl9 => ?_) (fun v70 S70 t70 H locs hh hp hB hz hk9 hS => ?_)
              · have hP : HP D cy b0 NALL S70 H := by rw [← hh]; exact hB.1
                have hF := hB.2
                try dsimp only at hw
                by_cases g0 : E70 = eX
                · rw [if_pos g0] at hw
                  subst g0
                  refine vx_catch (own := RL) (name := eX) hown [] ⟨0, 80, 81, 49⟩ [⟨0, 80, 85, 17⟩] htab (fun z hz => by cases hz) rfl (by decide) (hts (.classLink RL 49 eX) (by decide +kernel)) (va_Nw.use rfl (hW.2.2.2.2.2.2.2.1 eX (by decide))) hc9 hv9 hcl9 ?_
                  refine W.eq (g2 := F0 m 81 ls [.ref q9]) rfl ?_
                  refine lv_astore_n (lv' := [(3, .ref q9), (0, .ref (b0 + 0)), (1, .int x2), (2, .int x3)]) hx hb dL_does_81 rfl hl (by decide) rfl (fun ls hl => ?_)
                  refine lv_ldc (v := (-99999)) hx hb hown (hts (.constant RL 16 (-99999)) (by decide +kernel)) dL_does_82 ?_
                  exact q_iret hx hb hr hP hF hS hw dL_does_84 hlocks
                · rw [if_neg g0] at hw
                  by_cases g1 : E70 = eS
                  · rw [if_pos g1] at hw
                    subst g1
                    refine vx_catch (own := RL) (name := eS) hown [⟨0, 80, 81, 49⟩] ⟨0, 80, 85, 17⟩ [] htab (fun z hz => by rcases List.mem_singleton.mp hz with rfl; exact Or.inr ⟨by decide, eX, hts (.classLink RL 49 eX) (by decide +kernel), hW.2.2.2.2.2.2.1 (eS, eX) (by decide)⟩) rfl (by decide) (hts (.classLink RL 17 eS) (by decide +kernel)) (va_Nw.use rfl (hW.2.2.2.2.2.2.2.1 eS (by decide))) hc9 hv9 hcl9 ?_
                    refine W.eq (g2 := F0 m 85 ls [.ref q9]) rfl ?_
                    refine lv_astore_n (lv' := [(3, .ref q9), (0, .ref (b0 + 0)), (1, .int x2), (2, .int x3)]) hx hb dL_does_85 rfl hl (by decide) rfl (fun ls hl => ?_)
                    refine lv_ldc (v := (-99999)) hx hb hown (hts (.constant RL 16 (-99999)) (by decide +kernel)) dL_does_86 ?_
                    exact q_iret hx hb hr hP hF hS hw dL_does_88 hlocks
                  · rw [if_neg g1] at hw
                    exact False.elim hw
              · obtain ⟨r70, rfl, hw⟩ := hp
                have hP : HP D cy b0 NALL S70 H := by rw [← hh]; exact hB.1
                have hF := hB.2
                try dsimp only at hw
                refine W.eq (g2 := F0 m 73 ls [.int r70]) rfl ?_
                refine lv_goto (tgt := 80) hx hb dL_does_73 (by decide) ?_
                refine W.widen (k := 1) (n := 6) (by omega) (by omega) ?_
                exact q_iret hx hb hr hP hF hS hw dL_does_80 hlocks
          · rw [if_pos c53] at hw
            refine lv_aload_n hx hb dL_does_56 rfl (lv_at hl 0 rfl) ?_
            refine lv_iload_n hx hb dL_does_57 rfl (lv_at hl 2 rfl) ?_
            refine q_callX (vx_runV (As := [.int x3]) (rest := []) ⟨hx, hb, hml, hown, hts⟩ (c_X5_reroute l hlt D cy b0 S x3 _ _ hw) (cwV 1 hts gL_does_X5_reroute rfl rfl rfl (by decide +kernel) ⟨(Nat.le_of_ble_eq_true rfl), (Nat.le_of_ble_eq_true rfl)⟩) (q_pV hW hP hF hS (k := 0) (ci := 5) (by decide) (cell_5 kk_0) rfl [.int x3]) rfl rfl hl.1 rfl (lv_room (Nat.le_of_ble_eq_true rfl)) dL_does_58 ⟨by show _ ≤ 1; omega, by show _ ≤ 6; omega⟩) hS (fun E58 ce q9 S58 t58 H locs hh hw hB hz hS hc9 hv9 hcl9 => ?_) (fun v58 S58 t58 H locs hh hp hB hz hk9 hS => ?_)
            · have hP : HP D cy b0 NALL S58 H := by rw [← hh]; exact hB.1
              have hF := hB.2
              try dsimp only at hw
              by_cases g0 : E58 = eX
              · rw [if_pos g0] at hw
                subst g0
                refine vx_catch (own := RL) (name := eX) hown [] ⟨0, 80, 81, 49⟩ [⟨0, 80, 85, 17⟩] htab (fun z hz => by cases hz) rfl (by decide) (hts (.classLink RL 49 eX) (by decide +kernel)) (va_Nw.use rfl (hW.2.2.2.2.2.2.2.1 eX (by decide))) hc9 hv9 hcl9 ?_
                refine W.eq (g2 := F0 m 81 ls [.ref q9]) rfl ?_
                refine lv_astore_n (lv' := [(3, .ref q9), (0, .ref (b0 + 0)), (1, .int x2), (2, .int x3)]) hx hb dL_does_81 rfl hl (by decide) rfl (fun ls hl => ?_)
                refine lv_ldc (v := (-99999)) hx hb hown (hts (.constant RL 16 (-99999)) (by decide +kernel)) dL_does_82 ?_
                exact q_iret hx hb hr hP hF hS hw dL_does_84 hlocks
              · rw [if_neg g0] at hw
                by_cases g1 : E58 = eS
                · rw [if_pos g1] at hw
                  subst g1
                  refine vx_catch (own := RL) (name := eS) hown [⟨0, 80, 81, 49⟩] ⟨0, 80, 85, 17⟩ [] htab (fun z hz => by rcases List.mem_singleton.mp hz with rfl; exact Or.inr ⟨by decide, eX, hts (.classLink RL 49 eX) (by decide +kernel), hW.2.2.2.2.2.2.1 (eS, eX) (by decide)⟩) rfl (by decide) (hts (.classLink RL 17 eS) (by decide +kernel)) (va_Nw.use rfl (hW.2.2.2.2.2.2.2.1 eS (by decide))) hc9 hv9 hcl9 ?_
                  refine W.eq (g2 := F0 m 85 ls [.ref q9]) rfl ?_
                  refine lv_astore_n (lv' := [(3, .ref q9), (0, .ref (b0 + 0)), (1, .int x2), (2, .int x3)]) hx hb dL_does_85 rfl hl (by decide) rfl (fun ls hl => ?_)
                  refine lv_ldc (v := (-99999)) hx hb hown (hts (.constant RL 16 (-99999)) (by decide +kernel)) dL_does_86 ?_
                  exact q_iret hx hb hr hP hF hS hw dL_does_88 hlocks
                · rw [if_neg g1] at hw
                  exact False.elim hw
            · obtain ⟨r58, rfl, hw⟩ := hp
              have hP : HP D cy b0 NALL S58 H := by rw [← hh]; exact hB.1
              have hF := hB.2
              try dsimp only at hw
              refine W.eq (g2 := F0 m 61 ls [.int r58]) rfl ?_
              refine lv_goto (tgt := 80) hx hb dL_does_61 (by decide) ?_
              refine W.widen (k := 1) (n := 6) (by omega) (by omega) ?_
              exact q_iret hx hb hr hP hF hS hw dL_does_80 hlocks
        · rw [if_pos c40] at hw
          refine lv_aload_n hx hb dL_does_43 rfl (lv_at hl 0 rfl) ?_
          refine lv_iload_n hx hb dL_does_44 rfl (lv_at hl 2 rfl) ?_
          refine q_callX (vx_runV (As := [.int x3]) (rest := []) ⟨hx, hb, hml, hown, hts⟩ (c_X5_lightOf l hlt D cy b0 S x3 _ _ hw) (cwV 1 hts gL_does_X5_lightOf rfl rfl rfl (by decide +kernel) ⟨(Nat.le_of_ble_eq_true rfl), (Nat.le_of_ble_eq_true rfl)⟩) (q_pV hW hP hF hS (k := 0) (ci := 5) (by decide) (cell_5 kk_0) rfl [.int x3]) rfl rfl hl.1 rfl (lv_room (Nat.le_of_ble_eq_true rfl)) dL_does_45 ⟨by show _ ≤ 1; omega, by show _ ≤ 6; omega⟩) hS (fun E45 ce q9 S45 t45 H locs hh hw hB hz hS hc9 hv9 hcl9 => ?_) (fun v45 S45 t45 H locs hh hp hB hz hk9 hS => ?_)
          · have hP : HP D cy b0 NALL S45 H := by rw [← hh]; exact hB.1
            have hF := hB.2
            try dsimp only at hw
            by_cases g0 : E45 = eX
            · rw [if_pos g0] at hw
              subst g0
              refine vx_catch (own := RL) (name := eX) hown [] ⟨0, 80, 81, 49⟩ [⟨0, 80, 85, 17⟩] htab (fun z hz => by cases hz) rfl (by decide) (hts (.classLink RL 49 eX) (by decide +kernel)) (va_Nw.use rfl (hW.2.2.2.2.2.2.2.1 eX (by decide))) hc9 hv9 hcl9 ?_
              refine W.eq (g2 := F0 m 81 ls [.ref q9]) rfl ?_
              refine lv_astore_n (lv' := [(3, .ref q9), (0, .ref (b0 + 0)), (1, .int x2), (2, .int x3)]) hx hb dL_does_81 rfl hl (by decide) rfl (fun ls hl => ?_)
              refine lv_ldc (v := (-99999)) hx hb hown (hts (.constant RL 16 (-99999)) (by decide +kernel)) dL_does_82 ?_
              exact q_iret hx hb hr hP hF hS hw dL_does_84 hlocks
            · rw [if_neg g0] at hw
              by_cases g1 : E45 = eS
              · rw [if_pos g1] at hw
                subst g1
                refine vx_catch (own := RL) (name := eS) hown [⟨0, 80, 81, 49⟩] ⟨0, 80, 85, 17⟩ [] htab (fun z hz => by rcases List.mem_singleton.mp hz with rfl; exact Or.inr ⟨by decide, eX, hts (.classLink RL 49 eX) (by decide +kernel), hW.2.2.2.2.2.2.1 (eS, eX) (by decide)⟩) rfl (by decide) (hts (.classLink RL 17 eS) (by decide +kernel)) (va_Nw.use rfl (hW.2.2.2.2.2.2.2.1 eS (by decide))) hc9 hv9 hcl9 ?_
                refine W.eq (g2 := F0 m 85 ls [.ref q9]) rfl ?_
                refine lv_astore_n (lv' := [(3, .ref q9), (0, .ref (b0 + 0)), (1, .int x2), (2, .int x3)]) hx hb dL_does_85 rfl hl (by decide) rfl (fun ls hl => ?_)
                refine lv_ldc (v := (-99999)) hx hb hown (hts (.constant RL 16 (-99999)) (by decide +kernel)) dL_does_86 ?_
                exact q_iret hx hb hr hP hF hS hw dL_does_88 hlocks
              · rw [if_neg g1] at hw
                exact False.elim hw
          · obtain ⟨r45, rfl, hw⟩ := hp
            have hP : HP D cy b0 NALL S45 H := by rw [← hh]; exact hB.1
            have hF := hB.2
            try dsimp only at hw
            refine W.eq (g2 := F0 m 48 ls [.int r45]) rfl ?_
            refine lv_goto (tgt := 80) hx hb dL_does_48 (by decide) ?_
            refine W.widen (k := 1) (n := 6) (by omega) (by omega) ?_
            exact q_iret hx hb hr hP hF hS hw dL_does_80 hlocks
      · rw [if_pos c27] at hw
        refine lv_aload_n hx hb dL_does_30 rfl (lv_at hl 0 rfl) ?_
        refine lv_iload_n hx hb dL_does_31 rfl (lv_at hl 2 rfl) ?_
        refine q_callX (vx_runV (As := [.int x3]) (rest := []) ⟨hx, hb, hml, hown, hts⟩ (c_X5_release l hlt D cy b0 S x3 _ _ hw) (cwV 1 hts gL_does_X5_release rfl rfl rfl (by decide +kernel) ⟨(Nat.le_of_ble_eq_true rfl), (Nat.le_of_ble_eq_true rfl)⟩) (q_pV hW hP hF hS (k := 0) (ci := 5) (by decide) (cell_5 kk_0) rfl [.int x3]) rfl rfl hl.1 rfl (lv_room (Nat.le_of_ble_eq_true rfl)) dL_does_32 ⟨by show _ ≤ 1; omega, by show _ ≤ 6; omega⟩) hS (fun E32 ce q9 S32 t32 H locs hh hw hB hz hS hc9 hv9 hcl9 => ?_) (fun v32 S32 t32 H locs hh hp hB hz hk9 hS => ?_)
        · have hP : HP D cy b0 NALL S32 H := by rw [← hh]; exact hB.1
          have hF := hB.2
          try dsimp only at hw
          by_cases g0 : E32 = eX
          · rw [if_pos g0] at hw
            subst g0
            refine vx_catch (own := RL) (name := eX) hown [] ⟨0, 80, 81, 49⟩ [⟨0, 80, 85, 17⟩] htab (fun z hz => by cases hz) rfl (by decide) (hts (.classLink RL 49 eX) (by decide +kernel)) (va_Nw.use rfl (hW.2.2.2.2.2.2.2.1 eX (by decide))) hc9 hv9 hcl9 ?_
            refine W.eq (g2 := F0 m 81 ls [.ref q9]) rfl ?_
            refine lv_astore_n (lv' := [(3, .ref q9), (0, .ref (b0 + 0)), (1, .int x2), (2, .int x3)]) hx hb dL_does_81 rfl hl (by decide) rfl (fun ls hl => ?_)
            refine lv_ldc (v := (-99999)) hx hb hown (hts (.constant RL 16 (-99999)) (by decide +kernel)) dL_does_82 ?_
            exact q_iret hx hb hr hP hF hS hw dL_does_84 hlocks
          · rw [if_neg g0] at hw
            by_cases g1 : E32 = eS
            · rw [if_pos g1] at hw
              subst g1
              refine vx_catch (own := RL) (name := eS) hown [⟨0, 80, 81, 49⟩] ⟨0, 80, 85, 17⟩ [] htab (fun z hz => by rcases List.mem_singleton.mp hz with rfl; exact Or.inr ⟨by decide, eX, hts (.classLink RL 49 eX) (by decide +kernel), hW.2.2.2.2.2.2.1 (eS, eX) (by decide)⟩) rfl (by decide) (hts (.classLink RL 17 eS) (by decide +kernel)) (va_Nw.use rfl (hW.2.2.2.2.2.2.2.1 eS (by decide))) hc9 hv9 hcl9 ?_
              refine W.eq (g2 := F0 m 85 ls [.ref q9]) rfl ?_
              refine lv_astore_n (lv' := [(3, .ref q9), (0, .ref (b0 + 0)), (1, .int x2), (2, .int x3)]) hx hb dL_does_85 rfl hl (by decide) rfl (fun ls hl => ?_)
              refine lv_ldc (v := (-99999)) hx hb hown (hts (.constant RL 16 (-99999)) (by decide +kernel)) dL_does_86 ?_
              exact q_iret hx hb hr hP hF hS hw dL_does_88 hlocks
            · rw [if_neg g1] at hw
              exact False.elim hw
        · obtain ⟨r32, rfl, hw⟩ := hp
          have hP : HP D cy b0 NALL S32 H := by rw [← hh]; exact hB.1
          have hF := hB.2
          try dsimp only at hw
          refine W.eq (g2 := F0 m 35 ls [.int r32]) rfl ?_
          refine lv_goto (tgt := 80) hx hb dL_does_35 (by decide) ?_
          refine W.widen (k := 1) (n := 6) (by omega) (by omega) ?_
          exact q_iret hx hb hr hP hF hS hw dL_does_80 hlocks
    · rw [if_pos c14] at hw
      refine lv_aload_n hx hb dL_does_17 rfl (lv_at hl 0 rfl) ?_
      refine lv_iload_n hx hb dL_does_18 rfl (lv_at hl 2 rfl) ?_
      refine q_callX (vx_runV (As := [.int x3]) (rest := []) ⟨hx, hb, hml, hown, hts⟩ (c_X5_repair l hlt D cy b0 S x3 _ _ hw) (cwV 1 hts gL_does_X5_repair rfl rfl rfl (by decide +kernel) ⟨(Nat.le_of_ble_eq_true rfl), (Nat.le_of_ble_eq_true rfl)⟩) (q_pV hW hP hF hS (k := 0) (ci := 5) (by decide) (cell_5 kk_0) rfl [.int x3]) rfl rfl hl.1 rfl (lv_room (Nat.le_of_ble_eq_true rfl)) dL_does_19 ⟨by show _ ≤ 1; omega, by show _ ≤ 6; omega⟩) hS (fun E19 ce q9 S19 t19 H locs hh hw hB hz hS hc9 hv9 hcl9 => ?_) (fun v19 S19 t19 H locs hh hp hB hz hk9 hS => ?_)
      · have hP : HP D cy b0 NALL S19 H := by rw [← hh]; exact hB.1
        have hF := hB.2
        try dsimp only at hw
        by_cases g0 : E19 = eX
        · rw [if_pos g0] at hw
          subst g0
          refine vx_catch (own := RL) (name := eX) hown [] ⟨0, 80, 81, 49⟩ [⟨0, 80, 85, 17⟩] htab (fun z hz => by cases hz) rfl (by decide) (hts (.classLink RL 49 eX) (by decide +kernel)) (va_Nw.use rfl (hW.2.2.2.2.2.2.2.1 eX (by decide))) hc9 hv9 hcl9 ?_
          refine W.eq (g2 := F0 m 81 ls [.ref q9]) rfl ?_
          refine lv_astore_n (lv' := [(3, .ref q9), (0, .ref (b0 + 0)), (1, .int x2), (2, .int x3)]) hx hb dL_does_81 rfl hl (by decide) rfl (fun ls hl => ?_)
          refine lv_ldc (v := (-99999)) hx hb hown (hts (.constant RL 16 (-99999)) (by decide +kernel)) dL_does_82 ?_
          exact q_iret hx hb hr hP hF hS hw dL_does_84 hlocks
        · rw [if_neg g0] at hw
          by_cases g1 : E19 = eS
          · rw [if_pos g1] at hw
            subst g1
            refine vx_catch (own := RL) (name := eS) hown [⟨0, 80, 81, 49⟩] ⟨0, 80, 85, 17⟩ [] htab (fun z hz => by rcases List.mem_singleton.mp hz with rfl; exact Or.inr ⟨by decide, eX, hts (.classLink RL 49 eX) (by decide +kernel), hW.2.2.2.2.2.2.1 (eS, eX) (by decide)⟩) rfl (by decide) (hts (.classLink RL 17 eS) (by decide +kernel)) (va_Nw.use rfl (hW.2.2.2.2.2.2.2.1 eS (by decide))) hc9 hv9 hcl9 ?_
            refine W.eq (g2 := F0 m 85 ls [.ref q9]) rfl ?_
            refine lv_astore_n (lv' := [(3, .ref q9), (0, .ref (b0 + 0)), (1, .int x2), (2, .int x3)]) hx hb dL_does_85 rfl hl (by decide) rfl (fun ls hl => ?_)
            refine lv_ldc (v := (-99999)) hx hb hown (hts (.constant RL 16 (-99999)) (by decide +kernel)) dL_does_86 ?_
            exact q_iret hx hb hr hP hF hS hw dL_does_88 hlocks
          · rw [if_neg g1] at hw
            exact False.elim hw
      · obtain ⟨r19, rfl, hw⟩ := hp
        have hP : HP D cy b0 NALL S19 H := by rw [← hh]; exact hB.1
        have hF := hB.2
        try dsimp only at hw
        refine W.eq (g2 := F0 m 22 ls [.int r19]) rfl ?_
        refine lv_goto (tgt := 80) hx hb dL_does_22 (by decide) ?_
        refine W.widen (k := 1) (n := 6) (by omega) (by omega) ?_
        exact q_iret hx hb hr hP hF hS hw dL_does_80 hlocks
  · rw [if_pos c1] at hw
    refine lv_aload_n hx hb dL_does_4 rfl (lv_at hl 0 rfl) ?_
    refine lv_iload_n hx hb dL_does_5 rfl (lv_at hl 2 rfl) ?_
    refine q_callX (vx_runV (As := [.int x3]) (rest := []) ⟨hx, hb, hml, hown, hts⟩ (c_X5_cut l hlt D cy b0 S x3 _ _ hw) (cwV 1 hts gL_does_X5_cut rfl rfl rfl (by decide +kernel) ⟨(Nat.le_of_ble_eq_true rfl), (Nat.le_of_ble_eq_true rfl)⟩) (q_pV hW hP hF hS (k := 0) (ci := 5) (by decide) (cell_5 kk_0) rfl [.int x3]) rfl rfl hl.1 rfl (lv_room (Nat.le_of_ble_eq_true rfl)) dL_does_6 ⟨by show _ ≤ 1; omega, by show _ ≤ 6; omega⟩) hS (fun E6 ce q9 S6 t6 H locs hh hw hB hz hS hc9 hv9 hcl9 => ?_) (fun v6 S6 t6 H locs hh hp hB hz hk9 hS => ?_)
    · have hP : HP D cy b0 NALL S6 H := by rw [← hh]; exact hB.1
      have hF := hB.2
      try dsimp only at hw
      by_cases g0 : E6 = eX
      · rw [if_pos g0] at hw
        subst g0
        refine vx_catch (own := RL) (name := eX) hown [] ⟨0, 80, 81, 49⟩ [⟨0, 80, 85, 17⟩] htab (fun z hz => by cases hz) rfl (by decide) (hts (.classLink RL 49 eX) (by decide +kernel)) (va_Nw.use rfl (hW.2.2.2.2.2.2.2.1 eX (by decide))) hc9 hv9 hcl9 ?_
        refine W.eq (g2 := F0 m 81 ls [.ref q9]) rfl ?_
        refine lv_astore_n (lv' := [(3, .ref q9), (0, .ref (b0 + 0)), (1, .int x2), (2, .int x3)]) hx hb dL_does_81 rfl hl (by decide) rfl (fun ls hl => ?_)
        refine lv_ldc (v := (-99999)) hx hb hown (hts (.constant RL 16 (-99999)) (by decide +kernel)) dL_does_82 ?_
        exact q_iret hx hb hr hP hF hS hw dL_does_84 hlocks
      · rw [if_neg g0] at hw
        by_cases g1 : E6 = eS
        · rw [if_pos g1] at hw
          subst g1
          refine vx_catch (own := RL) (name := eS) hown [⟨0, 80, 81, 49⟩] ⟨0, 80, 85, 17⟩ [] htab (fun z hz => by rcases List.mem_singleton.mp hz with rfl; exact Or.inr ⟨by decide, eX, hts (.classLink RL 49 eX) (by decide +kernel), hW.2.2.2.2.2.2.1 (eS, eX) (by decide)⟩) rfl (by decide) (hts (.classLink RL 17 eS) (by decide +kernel)) (va_Nw.use rfl (hW.2.2.2.2.2.2.2.1 eS (by decide))) hc9 hv9 hcl9 ?_
          refine W.eq (g2 := F0 m 85 ls [.ref q9]) rfl ?_
          refine lv_astore_n (lv' := [(3, .ref q9), (0, .ref (b0 + 0)), (1, .int x2), (2, .int x3)]) hx hb dL_does_85 rfl hl (by decide) rfl (fun ls hl => ?_)
          refine lv_ldc (v := (-99999)) hx hb hown (hts (.constant RL 16 (-99999)) (by decide +kernel)) dL_does_86 ?_
          exact q_iret hx hb hr hP hF hS hw dL_does_88 hlocks
        · rw [if_neg g1] at hw
          exact False.elim hw
    · obtain ⟨r6, rfl, hw⟩ := hp
      have hP : HP D cy b0 NALL S6 H := by rw [← hh]; exact hB.1
      have hF := hB.2
      try dsimp only at hw
      refine W.eq (g2 := F0 m 9 ls [.int r6]) rfl ?_
      refine lv_goto (tgt := 80) hx hb dL_does_9 (by decide) ?_
      refine W.widen (k := 1) (n := 6) (by omega) (by omega) ?_
      exact q_iret hx hb hr hP hF hS hw dL_does_80 hlocks
set_option maxHeartbeats 4000000 in
set_option maxRecDepth 100000 in
theorem c_L_looks (l : Launch) (hlt : l.stackTraces = false) (D : va_G) (cy : Nat → ClassId) (b0 : Nat) (S : St) (x2 : Int32) (x3 : Int32) (x4 : Int32) (x5 : Int32) (P : Int32 → St → Prop) (hw : wp_L_looks S x2 x3 x4 x5 P) : Met l yL_looks wsL_looks rm_L_looks (va_Pc [.ref (b0 + 0), .int x2, .int x3, .int x4, .int x5] (Wd D cy b0 NALL S)) (QC (Pi P) (Wb D cy b0 NALL) b0) 1 6 (AA b0) := by
  refine va_MetW (cc := cL_looks) (maxL := 6) (ret := (some .int)) (hh := [(0, 35, 36, 49), (0, 35, 41, 14)]) (by decide) rfl ?_
  intro p e s m args below meth c s₁ B hml hv
  obtain ⟨hargs, hW, hP, hF⟩ := hv
  have hx := B.exec
  have hb := B.bytes
  have hr := B.returns
  have hts := atoms_spec (ws := wsL_looks) B.pre
  have hown : s.vm.findClass RL = some m.cls := findClass_of_methodNamed B.named
  have hlocks := B.notSynchronized
  have hK := hW.1
  have hS : va_S (AA b0) s.heap s.heap [] := va_S.rf
  have htab : c.exceptionTable.toList = [⟨0, 35, 36, 49⟩, ⟨0, 35, 41, 14⟩] := vx_table (x := yL_looks) B (hts (.codeWith yL_looks cL_looks 6 (some .int) [(0, 35, 36, 49), (0, 35, 41, 14)]) (by unfold wsL_looks; exact List.mem_cons_self))
  have hE : entryFrame m args 6 = F0 m 0 ((lg_sl [.ref (b0 + 0), .int x2, .int x3, .int x4, .int x5] ++ List.replicate (6 - (lg_sl [.ref (b0 + 0), .int x2, .int x3, .int x4, .int x5]).length) Slot.unset).toArray) [] := by rw [hargs]; exact lg_entry_eq m _ _
  rw [hE]
  have hl := lv_entry [.ref (b0 + 0), .int x2, .int x3, .int x4, .int x5] (n := 6) (Nat.le_of_ble_eq_true rfl)
  generalize (lg_sl [.ref (b0 + 0), .int x2, .int x3, .int x4, .int x5] ++ List.replicate (6 - (lg_sl [.ref (b0 + 0), .int x2, .int x3, .int x4, .int x5]).length) Slot.unset).toArray = ls at hl ⊢
  have hl : lv_has ls 6 [(0, .ref (b0 + 0)), (1, .int x2), (2, .int x3), (3, .int x4), (4, .int x5)] := hl
  unfold wp_L_looks at hw
  refine lv_iload_n hx hb dL_looks_0 rfl (lv_at hl 1 rfl) ?_
  refine lv_if_ne (x := x2) (tgt := 13) hx hb dL_looks_1 (by decide) (fun c1 => ?_) (fun c1 => ?_)
  · rw [if_neg c1] at hw
    refine lv_iload_n hx hb dL_looks_13 rfl (lv_at hl 1 rfl) ?_
    refine lv_iconst (v := 1) hx hb dL_looks_14 (by decide) ?_
    refine lv_icmp_ne (x := x2) (y := 1) (tgt := 29) hx hb dL_looks_15 (by decide) (fun c15 => ?_) (fun c15 => ?_)
    · rw [if_neg c15] at hw
      refine lv_aload_n hx hb dL_looks_29 rfl (lv_at hl 0 rfl) ?_
      refine lv_iload_n hx hb dL_looks_30 rfl (lv_at hl 2 rfl) ?_
      refine lv_iload_n hx hb dL_looks_31 rfl (lv_at hl 3 rfl) ?_
      refine q_callX (vx_runV (As := [.int x3, .int x4]) (rest := []) ⟨hx, hb, hml, hown, hts⟩ (c_X5_lightOn l hlt D cy b0 S x3 x4 _ _ hw) (cwV 2 hts gL_looks_X5_lightOn rfl rfl rfl (by decide +kernel) ⟨(Nat.le_of_ble_eq_true rfl), (Nat.le_of_ble_eq_true rfl)⟩) (q_pV hW hP hF hS (k := 0) (ci := 5) (by decide) (cell_5 kk_0) rfl [.int x3, .int x4]) rfl rfl hl.1 rfl (lv_room (Nat.le_of_ble_eq_true rfl)) dL_looks_32 ⟨by show _ ≤ 1; omega, by show _ ≤ 6; omega⟩) hS (fun E32 ce q9 S32 t32 H locs hh hw hB hz hS hc9 hv9 hcl9 => ?_) (fun v32 S32 t32 H locs hh hp hB hz hk9 hS => ?_)
      · have hP : HP D cy b0 NALL S32 H := by rw [← hh]; exact hB.1
        have hF := hB.2
        try dsimp only at hw
        by_cases g0 : E32 = eX
        · rw [if_pos g0] at hw
          subst g0
          refine vx_catch (own := RL) (name := eX) hown [] ⟨0, 35, 36, 49⟩ [⟨0, 35, 41, 14⟩] htab (fun z hz => by cases hz) rfl (by decide) (hts (.classLink RL 49 eX) (by decide +kernel)) (va_Nw.use rfl (hW.2.2.2.2.2.2.2.1 eX (by decide))) hc9 hv9 hcl9 ?_
          refine W.eq (g2 := F0 m 36 ls [.ref q9]) rfl ?_
          refine lv_astore (lv' := [(5, .ref q9), (0, .ref (b0 + 0)), (1, .int x2), (2, .int x3), (3, .int x4), (4, .int x5)]) hx hb dL_looks_36 hl (by decide) rfl (fun ls hl => ?_)
          refine lv_ldc (v := (-99999)) hx hb hown (hts (.constant RL 16 (-99999)) (by decide +kernel)) dL_looks_38 ?_
          exact q_iret hx hb hr hP hF hS hw dL_looks_40 hlocks
        · rw [if_neg g0] at hw
          by_cases g1 : E32 = eA
          · rw [if_pos g1] at hw
            subst g1
            refine vx_catch (own := RL) (name := eA) hown [⟨0, 35, 36, 49⟩] ⟨0, 35, 41, 14⟩ [] htab (fun z hz => by rcases List.mem_singleton.mp hz with rfl; exact Or.inr ⟨by decide, eX, hts (.classLink RL 49 eX) (by decide +kernel), hW.2.2.2.2.2.2.1 (eA, eX) (by decide)⟩) rfl (by decide) (hts (.classLink RL 14 eA) (by decide +kernel)) (va_Nw.use rfl (hW.2.2.2.2.2.2.2.1 eA (by decide))) hc9 hv9 hcl9 ?_
            refine W.eq (g2 := F0 m 41 ls [.ref q9]) rfl ?_
            refine lv_astore (lv' := [(5, .ref q9), (0, .ref (b0 + 0)), (1, .int x2), (2, .int x3), (3, .int x4), (4, .int x5)]) hx hb dL_looks_41 hl (by decide) rfl (fun ls hl => ?_)
            refine lv_ldc (v := (-99999)) hx hb hown (hts (.constant RL 16 (-99999)) (by decide +kernel)) dL_looks_43 ?_
            exact q_iret hx hb hr hP hF hS hw dL_looks_45 hlocks
          · rw [if_neg g1] at hw
            exact False.elim hw
      · obtain ⟨r32, rfl, hw⟩ := hp
        have hP : HP D cy b0 NALL S32 H := by rw [← hh]; exact hB.1
        have hF := hB.2
        try dsimp only at hw
        refine W.eq (g2 := F0 m 35 ls [.int r32]) rfl ?_
        refine W.widen (k := 1) (n := 6) (by omega) (by omega) ?_
        exact q_iret hx hb hr hP hF hS hw dL_looks_35 hlocks
    · rw [if_pos c15] at hw
      refine lv_aload_n hx hb dL_looks_18 rfl (lv_at hl 0 rfl) ?_
      refine lv_iload_n hx hb dL_looks_19 rfl (lv_at hl 2 rfl) ?_
      refine lv_iload_n hx hb dL_looks_20 rfl (lv_at hl 3 rfl) ?_
      refine lv_iload hx hb dL_looks_21 (lv_at hl 4 rfl) ?_
      refine q_callX (vx_runV (As := [.int x3, .int x4, .int x5]) (rest := []) ⟨hx, hb, hml, hown, hts⟩ (c_X5_channel l hlt D cy b0 S x3 x4 x5 _ _ hw) (cwV 3 hts gL_looks_X5_channel rfl rfl rfl (by decide +kernel) ⟨(Nat.le_of_ble_eq_true rfl), (Nat.le_of_ble_eq_true rfl)⟩) (q_pV hW hP hF hS (k := 0) (ci := 5) (by decide) (cell_5 kk_0) rfl [.int x3, .int x4, .int x5]) rfl rfl hl.1 rfl (lv_room (Nat.le_of_ble_eq_true rfl)) dL_looks_23 ⟨by show _ ≤ 1; omega, by show _ ≤ 6; omega⟩) hS (fun E23 ce q9 S23 t23 H locs hh hw hB hz hS hc9 hv9 hcl9 => ?_) (fun v23 S23 t23 H locs hh hp hB hz hk9 hS => ?_)
      · have hP : HP D cy b0 NALL S23 H := by rw [← hh]; exact hB.1
        have hF := hB.2
        try dsimp only at hw
        by_cases g0 : E23 = eX
        · rw [if_pos g0] at hw
          subst g0
          refine vx_catch (own := RL) (name := eX) hown [] ⟨0, 35, 36, 49⟩ [⟨0, 35, 41, 14⟩] htab (fun z hz => by cases hz) rfl (by decide) (hts (.classLink RL 49 eX) (by decide +kernel)) (va_Nw.use rfl (hW.2.2.2.2.2.2.2.1 eX (by decide))) hc9 hv9 hcl9 ?_
          refine W.eq (g2 := F0 m 36 ls [.ref q9]) rfl ?_
          refine lv_astore (lv' := [(5, .ref q9), (0, .ref (b0 + 0)), (1, .int x2), (2, .int x3), (3, .int x4), (4, .int x5)]) hx hb dL_looks_36 hl (by decide) rfl (fun ls hl => ?_)
          refine lv_ldc (v := (-99999)) hx hb hown (hts (.constant RL 16 (-99999)) (by decide +kernel)) dL_looks_38 ?_
          exact q_iret hx hb hr hP hF hS hw dL_looks_40 hlocks
        · rw [if_neg g0] at hw
          by_cases g1 : E23 = eA
          · rw [if_pos g1] at hw
            subst g1
            refine vx_catch (own := RL) (name := eA) hown [⟨0, 35, 36, 49⟩] ⟨0, 35, 41, 14⟩ [] htab (fun z hz => by rcases List.mem_singleton.mp hz with rfl; exact Or.inr ⟨by decide, eX, hts (.classLink RL 49 eX) (by decide +kernel), hW.2.2.2.2.2.2.1 (eA, eX) (by decide)⟩) rfl (by decide) (hts (.classLink RL 14 eA) (by decide +kernel)) (va_Nw.use rfl (hW.2.2.2.2.2.2.2.1 eA (by decide))) hc9 hv9 hcl9 ?_
            refine W.eq (g2 := F0 m 41 ls [.ref q9]) rfl ?_
            refine lv_astore (lv' := [(5, .ref q9), (0, .ref (b0 + 0)), (1, .int x2), (2, .int x3), (3, .int x4), (4, .int x5)]) hx hb dL_looks_41 hl (by decide) rfl (fun ls hl => ?_)
            refine lv_ldc (v := (-99999)) hx hb hown (hts (.constant RL 16 (-99999)) (by decide +kernel)) dL_looks_43 ?_
            exact q_iret hx hb hr hP hF hS hw dL_looks_45 hlocks
          · rw [if_neg g1] at hw
            exact False.elim hw
      · obtain ⟨r23, rfl, hw⟩ := hp
        have hP : HP D cy b0 NALL S23 H := by rw [← hh]; exact hB.1
        have hF := hB.2
        try dsimp only at hw
        refine W.eq (g2 := F0 m 26 ls [.int r23]) rfl ?_
        refine lv_goto (tgt := 35) hx hb dL_looks_26 (by decide) ?_
        refine W.widen (k := 1) (n := 6) (by omega) (by omega) ?_
        exact q_iret hx hb hr hP hF hS hw dL_looks_35 hlocks
  · rw [if_pos c1] at hw
    refine lv_aload_n hx hb dL_looks_4 rfl (lv_at hl 0 rfl) ?_
    refine lv_iload_n hx hb dL_looks_5 rfl (lv_at hl 2 rfl) ?_
    refine lv_iload_n hx hb dL_looks_6 rfl (lv_at hl 3 rfl) ?_
    refine q_callX (vx_runV (As := [.int x3, .int x4]) (rest := []) ⟨hx, hb, hml, hown, hts⟩ (c_X5_channels l hlt D cy b0 S x3 x4 _ _ hw) (cwV 2 hts gL_looks_X5_channels rfl rfl rfl (by decide +kernel) ⟨(Nat.le_of_ble_eq_true rfl), (Nat.le_of_ble_eq_true rfl)⟩) (q_pV hW hP hF hS (k := 0) (ci := 5) (by decide) (cell_5 kk_0) rfl [.int x3, .int x4]) rfl rfl hl.1 rfl (lv_room (Nat.le_of_ble_eq_true rfl)) dL_looks_7 ⟨by show _ ≤ 1; omega, by show _ ≤ 6; omega⟩) hS (fun E7 ce q9 S7 t7 H locs hh hw hB hz hS hc9 hv9 hcl9 => ?_) (fun v7 S7 t7 H locs hh hp hB hz hk9 hS => ?_)
    · have hP : HP D cy b0 NALL S7 H := by rw [← hh]; exact hB.1
      have hF := hB.2
      try dsimp only at hw
      by_cases g0 : E7 = eX
      · rw [if_pos g0] at hw
        subst g0
        refine vx_catch (own := RL) (name := eX) hown [] ⟨0, 35, 36, 49⟩ [⟨0, 35, 41, 14⟩] htab (fun z hz => by cases hz) rfl (by decide) (hts (.classLink RL 49 eX) (by decide +kernel)) (va_Nw.use rfl (hW.2.2.2.2.2.2.2.1 eX (by decide))) hc9 hv9 hcl9 ?_
        refine W.eq (g2 := F0 m 36 ls [.ref q9]) rfl ?_
        refine lv_astore (lv' := [(5, .ref q9), (0, .ref (b0 + 0)), (1, .int x2), (2, .int x3), (3, .int x4), (4, .int x5)]) hx hb dL_looks_36 hl (by decide) rfl (fun ls hl => ?_)
        refine lv_ldc (v := (-99999)) hx hb hown (hts (.constant RL 16 (-99999)) (by decide +kernel)) dL_looks_38 ?_
        exact q_iret hx hb hr hP hF hS hw dL_looks_40 hlocks
      · rw [if_neg g0] at hw
        by_cases g1 : E7 = eA
        · rw [if_pos g1] at hw
          subst g1
          refine vx_catch (own := RL) (name := eA) hown [⟨0, 35, 36, 49⟩] ⟨0, 35, 41, 14⟩ [] htab (fun z hz => by rcases List.mem_singleton.mp hz with rfl; exact Or.inr ⟨by decide, eX, hts (.classLink RL 49 eX) (by decide +kernel), hW.2.2.2.2.2.2.1 (eA, eX) (by decide)⟩) rfl (by decide) (hts (.classLink RL 14 eA) (by decide +kernel)) (va_Nw.use rfl (hW.2.2.2.2.2.2.2.1 eA (by decide))) hc9 hv9 hcl9 ?_
          refine W.eq (g2 := F0 m 41 ls [.ref q9]) rfl ?_
          refine lv_astore (lv' := [(5, .ref q9), (0, .ref (b0 + 0)), (1, .int x2), (2, .int x3), (3, .int x4), (4, .int x5)]) hx hb dL_looks_41 hl (by decide) rfl (fun ls hl => ?_)
          refine lv_ldc (v := (-99999)) hx hb hown (hts (.constant RL 16 (-99999)) (by decide +kernel)) dL_looks_43 ?_
          exact q_iret hx hb hr hP hF hS hw dL_looks_45 hlocks
        · rw [if_neg g1] at hw
          exact False.elim hw
    · obtain ⟨r7, rfl, hw⟩ := hp
      have hP : HP D cy b0 NALL S7 H := by rw [← hh]; exact hB.1
      have hF := hB.2
      try dsimp only at hw
      refine W.eq (g2 := F0 m 10 ls [.int r7]) rfl ?_
      refine lv_goto (tgt := 35) hx hb dL_looks_10 (by decide) ?_
      refine W.widen (k := 1) (n := 6) (by omega) (by omega) ?_
      exact q_iret hx hb hr hP hF hS hw dL_looks_35 hlocks
set_option maxHeartbeats 4000000 in
set_option maxRecDepth 100000 in
theorem c_L_convert (l : Launch) (hlt : l.stackTraces = false) (D : va_G) (cy : Nat → ClassId) (b0 : Nat) (S : St) (x2 : Int32) (P : Int32 → St → Prop) (hw : wp_L_convert S x2 P) : Met l yL_convert wsL_convert rm_L_convert (va_Pc [.ref (b0 + 0), .int x2] (Wd D cy b0 NALL S)) (QC (Pi P) (Wb D cy b0 NALL) b0) 1 6 (AA b0) := by
  refine va_MetW (cc := cL_convert) (maxL := 3) (ret := (some .int)) (hh := [(0, 13, 14, 14)]) (by decide) rfl ?_
  intro p e s m args below meth c s₁ B hml hv
  obtain ⟨hargs, hW, hP, hF⟩ := hv
  have hx := B.exec
  have hb := B.bytes
  have hr := B.returns
  have hts := atoms_spec (ws := wsL_convert) B.pre
  have hown : s.vm.findClass RL = some m.cls := findClass_of_methodNamed B.named
  have hlocks := B.notSynchronized
  have hK := hW.1
  have hS : va_S (AA b0) s.heap s.heap [] := va_S.rf
  have htab : c.exceptionTable.toList = [⟨0, 13, 14, 14⟩] := vx_table (x := yL_convert) B (hts (.codeWith yL_convert cL_convert 3 (some .int) [(0, 13, 14, 14)]) (by unfold wsL_convert; exact List.mem_cons_self))
  have hE : entryFrame m args 3 = F0 m 0 ((lg_sl [.ref (b0 + 0), .int x2] ++ List.replicate (3 - (lg_sl [.ref (b0 + 0), .int x2]).length) Slot.unset).toArray) [] := by rw [hargs]; exact lg_entry_eq m _ _
  rw [hE]
  have hl := lv_entry [.ref (b0 + 0), .int x2] (n := 3) (Nat.le_of_ble_eq_true rfl)
  generalize (lg_sl [.ref (b0 + 0), .int x2] ++ List.replicate (3 - (lg_sl [.ref (b0 + 0), .int x2]).length) Slot.unset).toArray = ls at hl ⊢
  have hl : lv_has ls 3 [(0, .ref (b0 + 0)), (1, .int x2)] := hl
  unfold wp_L_convert at hw
  refine lv_aload_n hx hb dL_convert_0 rfl (lv_at hl 0 rfl) ?_
  refine lv_iload_n hx hb dL_convert_1 rfl (lv_at hl 1 rfl) ?_
  refine q_callX (vx_runV (As := [.int x2]) (rest := []) ⟨hx, hb, hml, hown, hts⟩ (c_X5_toggleConverter l hlt D cy b0 S x2 _ _ hw) (cwV 1 hts gL_convert_X5_toggleConverter rfl rfl rfl (by decide +kernel) ⟨(Nat.le_of_ble_eq_true rfl), (Nat.le_of_ble_eq_true rfl)⟩) (q_pV hW hP hF hS (k := 0) (ci := 5) (by decide) (cell_5 kk_0) rfl [.int x2]) rfl rfl hl.1 rfl (lv_room (Nat.le_of_ble_eq_true rfl)) dL_convert_2 ⟨by show _ ≤ 1; omega, by show _ ≤ 6; omega⟩) hS (fun E2 ce q9 S2 t2 H locs hh hw hB hz hS hc9 hv9 hcl9 => ?_) (fun v2 S2 t2 H locs hh hp hB hz hk9 hS => ?_)
  · have hP : HP D cy b0 NALL S2 H := by rw [← hh]; exact hB.1
    have hF := hB.2
    try dsimp only at hw
    by_cases g0 : E2 = eA
    · rw [if_pos g0] at hw
      subst g0
      refine vx_catch (own := RL) (name := eA) hown [] ⟨0, 13, 14, 14⟩ [] htab (fun z hz => by cases hz) rfl (by decide) (hts (.classLink RL 14 eA) (by decide +kernel)) (va_Nw.use rfl (hW.2.2.2.2.2.2.2.1 eA (by decide))) hc9 hv9 hcl9 ?_
      refine W.eq (g2 := F0 m 14 ls [.ref q9]) rfl ?_
      refine lv_astore_n (lv' := [(2, .ref q9), (0, .ref (b0 + 0)), (1, .int x2)]) hx hb dL_convert_14 rfl hl (by decide) rfl (fun ls hl => ?_)
      refine lv_ldc (v := (-99999)) hx hb hown (hts (.constant RL 16 (-99999)) (by decide +kernel)) dL_convert_15 ?_
      exact q_iret hx hb hr hP hF hS hw dL_convert_17 hlocks
    · rw [if_neg g0] at hw
      exact False.elim hw
  · obtain ⟨r2, rfl, hw⟩ := hp
    have hP : HP D cy b0 NALL S2 H := by rw [← hh]; exact hB.1
    have hF := hB.2
    try dsimp only at hw
    refine W.eq (g2 := F0 m 5 ls [.int (b2i r2)]) rfl ?_
    refine lv_if_eq (x := b2i r2) (tgt := 12) hx hb dL_convert_5 (by decide) (fun c5 => ?_) (fun c5 => ?_)
    · have c5 := b2i_z c5
      rw [if_neg c5] at hw
      refine lv_iconst (v := 0) hx hb dL_convert_12 (by decide) ?_
      refine W.widen (k := 1) (n := 6) (by omega) (by omega) ?_
      exact q_iret hx hb hr hP hF hS hw dL_convert_13 hlocks
    · have c5 := b2i_n c5
      rw [if_pos c5] at hw
      refine lv_iconst (v := 1) hx hb dL_convert_8 (by decide) ?_
      refine lv_goto (tgt := 13) hx hb dL_convert_9 (by decide) ?_
      refine W.widen (k := 1) (n := 6) (by omega) (by omega) ?_
      exact q_iret hx hb hr hP hF hS hw dL_convert_13 hlocks
set_option maxHeartbeats 4000000 in
set_option maxRecDepth 100000 in
theorem c_L_act (l : Launch) (hlt : l.stackTraces = false) (D : va_G) (cy : Nat → ClassId) (b0 : Nat) (S : St) (x2 : Int32) (x3 : Int32) (P : Int32 → St → Prop) (hw : wp_L_act S x2 x3 P) : Met l yL_act wsL_act rm_L_act (va_Pc [.ref (b0 + 0), .int x2, .int x3] (Wd D cy b0 NALL S)) (QC (Pi P) (Wb D cy b0 NALL) b0) 2 12 (AA b0) := by
  refine Met.ofW (cc := cL_act) (maxL := 7) (ret := (some .int)) (by decide) rfl ?_
  intro p e s m args below meth c s₁ B hml hv
  obtain ⟨hargs, hW, hP, hF⟩ := hv
  have hx := B.exec
  have hb := B.bytes
  have hr := B.returns
  have hts := atoms_spec (ws := wsL_act) B.pre
  have hown : s.vm.findClass RL = some m.cls := findClass_of_methodNamed B.named
  have hlocks := B.notSynchronized
  have hK := hW.1
  have hS : va_S (AA b0) s.heap s.heap [] := va_S.rf
  have hE : entryFrame m args 7 = F0 m 0 ((lg_sl [.ref (b0 + 0), .int x2, .int x3] ++ List.replicate (7 - (lg_sl [.ref (b0 + 0), .int x2, .int x3]).length) Slot.unset).toArray) [] := by rw [hargs]; exact lg_entry_eq m _ _
  rw [hE]
  have hl := lv_entry [.ref (b0 + 0), .int x2, .int x3] (n := 7) (Nat.le_of_ble_eq_true rfl)
  generalize (lg_sl [.ref (b0 + 0), .int x2, .int x3] ++ List.replicate (7 - (lg_sl [.ref (b0 + 0), .int x2, .int x3]).length) Slot.unset).toArray = ls at hl ⊢
  have hl : lv_has ls 7 [(0, .ref (b0 + 0)), (1, .int x2), (2, .int x3)] := hl
  have j118 : ∀ kk : Nat, kk + (2) ≤ 2 → ∀ (S : St) (t1 : Int32) (t2 : Int32) (t3 : Int32) (t4 : Bool), ∀ (H : Heap) (locs : List Loc) (ls : Array Slot), wp_L_act_118 x2 x3 P S t1 t2 t3 t4 → HP D cy b0 NALL S H → Fx S → va_S (AA b0) s.heap H locs → lv_has ls 7 [] → W p l e rm_L_act s m args below meth c H locs kk (0 + 6 * kk) (MQ below (QC (Pi P) (Wb D cy b0 NALL) b0) args s 2 12 (AA b0)) (F0 m 118 ls [.int (b2i t4), .int t3, .int t2, .int t1, .ref (b0 + 0)]) := by
    intro kk hc9 S t1 t2 t3 t4 H locs ls hw hP hF hS hl
    unfold wp_L_act_118 at hw
    refine lv_iadd hx hb dL_act_118 ?_
    refine q_call (vx_runSW (As := [.ref (b0 + 0), .int t1, .int t2, .int (t3 + (b2i t4))]) (rest := []) ⟨hx, hb, hml, hown, hts⟩ (c_L_add l hlt D cy b0 S t1 t2 (t3 + (b2i t4)) _ hw) (vx_cwSW 4 hts gL_act_L_add rfl rfl rfl (by decide +kernel) ⟨(Nat.le_of_ble_eq_true rfl), (Nat.le_of_ble_eq_true rfl)⟩) (q_pS hW hP hF hS [.ref (b0 + 0), .int t1, .int t2, .int (t3 + (b2i t4))]) rfl rfl hl.1 rfl (lv_room (Nat.le_of_ble_eq_true rfl)) dL_act_119 ⟨by show _ ≤ 2; omega, by show _ ≤ 12; omega⟩) hS (fun v119 S119 t119 H locs hh hp hB hz hk9 hS => ?_)
    obtain ⟨r119, rfl, hw⟩ := hp
    have hP : HP D cy b0 NALL S119 H := by rw [← hh]; exact hB.1
    have hF := hB.2
    try dsimp only at hw
    refine W.eq (g2 := F0 m 122 ls [.int r119]) rfl ?_
    refine W.widen (k := 2) (n := 12) (by omega) (by omega) ?_
    exact q_iret hx hb hr hP hF hS hw dL_act_122 hlocks
  have j106 : ∀ kk : Nat, kk + (2) ≤ 2 → ∀ (S : St) (a3 : Bool) (t1 : Int32) (t2 : Int32) (t3 : Int32) (t4 : Int32), ∀ (H : Heap) (locs : List Loc) (ls : Array Slot), wp_L_act_106 x2 x3 P S a3 t1 t2 t3 t4 → HP D cy b0 NALL S H → Fx S → va_S (AA b0) s.heap H locs → lv_has ls 7 [(3, .int (b2i a3))] → W p l e rm_L_act s m args below meth c H locs kk (0 + 6 * kk) (MQ below (QC (Pi P) (Wb D cy b0 NALL) b0) args s 2 12 (AA b0)) (F0 m 106 ls [.int t4, .int t3, .int t2, .int t1, .ref (b0 + 0)]) := by
    intro kk hc9 S a3 t1 t2 t3 t4 H locs ls hw hP hF hS hl
    unfold wp_L_act_106 at hw
    refine q_call (va_runS (As := [.int t3, .int t4]) (rest := [.int t2, .int t1, .ref (b0 + 0)]) ⟨hx, hb, hml, hown, hts⟩ (c_L_low l hlt D cy b0 S t3 t4 _ hw) (va_cwS 2 hts gL_act_L_low rfl rfl rfl (by decide +kernel) ⟨(Nat.le_of_ble_eq_true rfl), (Nat.le_of_ble_eq_true rfl)⟩) (q_pS hW hP hF hS [.int t3, .int t4]) rfl rfl hl.1 rfl (lv_room (Nat.le_of_ble_eq_true rfl)) dL_act_106 ⟨by show _ ≤ 2; omega, by show _ ≤ 12; omega⟩) hS (fun v106 S106 t106 H locs hh hp hB hz hk9 hS => ?_)
    obtain ⟨r106, rfl, hw⟩ := hp
    have hP : HP D cy b0 NALL S106 H := by rw [← hh]; exact hB.1
    have hF := hB.2
    try dsimp only at hw
    refine W.eq (g2 := F0 m 109 ls [.int r106, .int t2, .int t1, .ref (b0 + 0)]) rfl ?_
    refine lv_iload_n hx hb dL_act_109 rfl (lv_at hl 0 rfl) ?_
    refine lv_if_eq (x := b2i a3) (tgt := 117) hx hb dL_act_110 (by decide) (fun c110 => ?_) (fun c110 => ?_)
    · have c110 := b2i_z c110
      rw [if_neg c110] at hw
      refine lv_iconst (v := 1) hx hb dL_act_117 (by decide) ?_
      refine W.widen (k := kk + 0) (n := 0 + 6 * (kk + 0)) (by omega) (by omega) ?_
      exact j118 (kk + 0) (by omega) S106 t1 t2 r106 true _ _ _ hw hP hF hS (lv_sub hl [] rfl)
    · have c110 := b2i_n c110
      rw [if_pos c110] at hw
      refine lv_iconst (v := 0) hx hb dL_act_113 (by decide) ?_
      refine lv_goto (tgt := 118) hx hb dL_act_114 (by decide) ?_
      refine W.widen (k := kk + 0) (n := 0 + 6 * (kk + 0)) (by omega) (by omega) ?_
      exact j118 (kk + 0) (by omega) S106 t1 t2 r106 false _ _ _ hw hP hF hS (lv_sub hl [] rfl)
  have j176 : ∀ kk : Nat, kk + (2) ≤ 2 → ∀ (S : St) (t1 : Int32) (t2 : Int32) (t3 : Int32) (t4 : Int32) (t5 : Int32), ∀ (H : Heap) (locs : List Loc) (ls : Array Slot), wp_L_act_176 x2 x3 P S t1 t2 t3 t4 t5 → HP D cy b0 NALL S H → Fx S → va_S (AA b0) s.heap H locs → lv_has ls 7 [] → W p l e rm_L_act s m args below meth c H locs kk (0 + 6 * kk) (MQ below (QC (Pi P) (Wb D cy b0 NALL) b0) args s 2 12 (AA b0)) (F0 m 176 ls [.int t5, .int t4, .int t3, .int t2, .int t1, .ref (b0 + 0)]) := by
    intro kk hc9 S t1 t2 t3 t4 t5 H locs ls hw hP hF hS hl
    unfold wp_L_act_176 at hw
    refine q_call (va_runS (As := [.int t4, .int t5]) (rest := [.int t3, .int t2, .int t1, .ref (b0 + 0)]) ⟨hx, hb, hml, hown, hts⟩ (c_L_low l hlt D cy b0 S t4 t5 _ hw) (va_cwS 2 hts gL_act_L_low rfl rfl rfl (by decide +kernel) ⟨(Nat.le_of_ble_eq_true rfl), (Nat.le_of_ble_eq_true rfl)⟩) (q_pS hW hP hF hS [.int t4, .int t5]) rfl rfl hl.1 rfl (lv_room (Nat.le_of_ble_eq_true rfl)) dL_act_176 ⟨by show _ ≤ 2; omega, by show _ ≤ 12; omega⟩) hS (fun v176 S176 t176 H locs hh hp hB hz hk9 hS => ?_)
    obtain ⟨r176, rfl, hw⟩ := hp
    have hP : HP D cy b0 NALL S176 H := by rw [← hh]; exact hB.1
    have hF := hB.2
    try dsimp only at hw
    refine W.eq (g2 := F0 m 179 ls [.int r176, .int t3, .int t2, .int t1, .ref (b0 + 0)]) rfl ?_
    refine q_call (vx_runSW (As := [.ref (b0 + 0), .int t1, .int t2, .int t3, .int r176]) (rest := []) ⟨hx, hb, hml, hown, hts⟩ (c_L_ask l hlt D cy b0 S176 t1 t2 t3 r176 _ hw) (vx_cwSW 5 hts gL_act_L_ask rfl rfl rfl (by decide +kernel) ⟨(Nat.le_of_ble_eq_true rfl), (Nat.le_of_ble_eq_true rfl)⟩) (q_pS hW hP hF hS [.ref (b0 + 0), .int t1, .int t2, .int t3, .int r176]) rfl rfl hl.1 rfl (lv_room (Nat.le_of_ble_eq_true rfl)) dL_act_179 ⟨by show _ ≤ 2; omega, by show _ ≤ 12; omega⟩) hS (fun v179 S179 t179 H locs hh hp hB hz hk9 hS => ?_)
    obtain ⟨r179, rfl, hw⟩ := hp
    have hP : HP D cy b0 NALL S179 H := by rw [← hh]; exact hB.1
    have hF := hB.2
    try dsimp only at hw
    refine W.eq (g2 := F0 m 182 ls [.int r179]) rfl ?_
    refine W.widen (k := 2) (n := 12) (by omega) (by omega) ?_
    exact q_iret hx hb hr hP hF hS hw dL_act_182 hlocks
  have j162 : ∀ kk : Nat, kk + (2) ≤ 2 → ∀ (S : St) (a3 : Bool) (t1 : Int32) (t2 : Int32) (t3 : Int32) (t4 : Bool), ∀ (H : Heap) (locs : List Loc) (ls : Array Slot), wp_L_act_162 x2 x3 P S a3 t1 t2 t3 t4 → HP D cy b0 NALL S H → Fx S → va_S (AA b0) s.heap H locs → lv_has ls 7 [(2, .int x3), (3, .int (b2i a3))] → W p l e rm_L_act s m args below meth c H locs kk (0 + 6 * kk) (MQ below (QC (Pi P) (Wb D cy b0 NALL) b0) args s 2 12 (AA b0)) (F0 m 162 ls [.int (b2i t4), .int t3, .int t2, .int t1, .ref (b0 + 0)]) := by
    intro kk hc9 S a3 t1 t2 t3 t4 H locs ls hw hP hF hS hl
    unfold wp_L_act_162 at hw
    refine lv_iadd hx hb dL_act_162 ?_
    refine lv_iload_n hx hb dL_act_163 rfl (lv_at hl 0 rfl) ?_
    refine lv_bipush (v := 13) hx hb dL_act_164 (by decide) ?_
    refine lv_ishr hx hb dL_act_166 ?_
    refine lv_iload_n hx hb dL_act_167 rfl (lv_at hl 1 rfl) ?_
    refine lv_if_eq (x := b2i a3) (tgt := 175) hx hb dL_act_168 (by decide) (fun c168 => ?_) (fun c168 => ?_)
    · have c168 := b2i_z c168
      rw [if_neg c168] at hw
      refine lv_iconst (v := 3) hx hb dL_act_175 (by decide) ?_
      refine W.widen (k := kk + 0) (n := 0 + 6 * (kk + 0)) (by omega) (by omega) ?_
      exact j176 (kk + 0) (by omega) S t1 t2 (t3 + (b2i t4)) (x3 >>> (13 &&& 31)) 3 _ _ _ hw hP hF hS (lv_sub hl [] rfl)
    · have c168 := b2i_n c168
      rw [if_pos c168] at hw
      refine lv_iconst (v := 4) hx hb dL_act_171 (by decide) ?_
      refine lv_goto (tgt := 176) hx hb dL_act_172 (by decide) ?_
      refine W.widen (k := kk + 0) (n := 0 + 6 * (kk + 0)) (by omega) (by omega) ?_
      exact j176 (kk + 0) (by omega) S t1 t2 (t3 + (b2i t4)) (x3 >>> (13 &&& 31)) 4 _ _ _ hw hP hF hS (lv_sub hl [] rfl)
  have j150 : ∀ kk : Nat, kk + (2) ≤ 2 → ∀ (S : St) (a3 : Bool) (t1 : Int32) (t2 : Int32) (t3 : Int32) (t4 : Int32), ∀ (H : Heap) (locs : List Loc) (ls : Array Slot), wp_L_act_150 x2 x3 P S a3 t1 t2 t3 t4 → HP D cy b0 NALL S H → Fx S → va_S (AA b0) s.heap H locs → lv_has ls 7 [(2, .int x3), (3, .int (b2i a3))] → W p l e rm_L_act s m args below meth c H locs kk (0 + 6 * kk) (MQ below (QC (Pi P) (Wb D cy b0 NALL) b0) args s 2 12 (AA b0)) (F0 m 150 ls [.int t4, .int t3, .int t2, .int t1, .ref (b0 + 0)]) := by
    intro kk hc9 S a3 t1 t2 t3 t4 H locs ls hw hP hF hS hl
    unfold wp_L_act_150 at hw
    refine q_call (va_runS (As := [.int t3, .int t4]) (rest := [.int t2, .int t1, .ref (b0 + 0)]) ⟨hx, hb, hml, hown, hts⟩ (c_L_low l hlt D cy b0 S t3 t4 _ hw) (va_cwS 2 hts gL_act_L_low rfl rfl rfl (by decide +kernel) ⟨(Nat.le_of_ble_eq_true rfl), (Nat.le_of_ble_eq_true rfl)⟩) (q_pS hW hP hF hS [.int t3, .int t4]) rfl rfl hl.1 rfl (lv_room (Nat.le_of_ble_eq_true rfl)) dL_act_150 ⟨by show _ ≤ 2; omega, by show _ ≤ 12; omega⟩) hS (fun v150 S150 t150 H locs hh hp hB hz hk9 hS => ?_)
    obtain ⟨r150, rfl, hw⟩ := hp
    have hP : HP D cy b0 NALL S150 H := by rw [← hh]; exact hB.1
    have hF := hB.2
    try dsimp only at hw
    refine W.eq (g2 := F0 m 153 ls [.int r150, .int t2, .int t1, .ref (b0 + 0)]) rfl ?_
    refine lv_iload_n hx hb dL_act_153 rfl (lv_at hl 1 rfl) ?_
    refine lv_if_eq (x := b2i a3) (tgt := 161) hx hb dL_act_154 (by decide) (fun c154 => ?_) (fun c154 => ?_)
    · have c154 := b2i_z c154
      rw [if_neg c154] at hw
      refine lv_iconst (v := 1) hx hb dL_act_161 (by decide) ?_
      refine W.widen (k := kk + 0) (n := 0 + 6 * (kk + 0)) (by omega) (by omega) ?_
      exact j162 (kk + 0) (by omega) S150 a3 t1 t2 r150 true _ _ _ hw hP hF hS (lv_sub hl [0, 1] rfl)
    · have c154 := b2i_n c154
      rw [if_pos c154] at hw
      refine lv_iconst (v := 0) hx hb dL_act_157 (by decide) ?_
      refine lv_goto (tgt := 162) hx hb dL_act_158 (by decide) ?_
      refine W.widen (k := kk + 0) (n := 0 + 6 * (kk + 0)) (by omega) (by omega) ?_
      exact j162 (kk + 0) (by omega) S150 a3 t1 t2 r150 false _ _ _ hw hP hF hS (lv_sub hl [0, 1] rfl)
  have j288 : ∀ kk : Nat, kk + (2) ≤ 2 → ∀ (S : St) (t1 : Int32), ∀ (H : Heap) (locs : List Loc) (ls : Array Slot), wp_L_act_288 x2 x3 P S t1 → HP D cy b0 NALL S H → Fx S → va_S (AA b0) s.heap H locs → lv_has ls 7 [] → W p l e rm_L_act s m args below meth c H locs kk (0 + 6 * kk) (MQ below (QC (Pi P) (Wb D cy b0 NALL) b0) args s 2 12 (AA b0)) (F0 m 288 ls [.int t1, .ref (b0 + 0)]) := by
    intro kk hc9 S t1 H locs ls hw hP hF hS hl
    unfold wp_L_act_288 at hw
    refine lv_iconst (v := 0) hx hb dL_act_288 (by decide) ?_
    refine q_call (vx_runSW (As := [.ref (b0 + 0), .int t1, .int 0]) (rest := []) ⟨hx, hb, hml, hown, hts⟩ (c_L_does l hlt D cy b0 S t1 0 _ hw) (vx_cwSW 3 hts gL_act_L_does rfl rfl rfl (by decide +kernel) ⟨(Nat.le_of_ble_eq_true rfl), (Nat.le_of_ble_eq_true rfl)⟩) (q_pS hW hP hF hS [.ref (b0 + 0), .int t1, .int 0]) rfl rfl hl.1 rfl (lv_room (Nat.le_of_ble_eq_true rfl)) dL_act_289 ⟨by show _ ≤ 2; omega, by show _ ≤ 12; omega⟩) hS (fun v289 S289 t289 H locs hh hp hB hz hk9 hS => ?_)
    obtain ⟨r289, rfl, hw⟩ := hp
    have hP : HP D cy b0 NALL S289 H := by rw [← hh]; exact hB.1
    have hF := hB.2
    try dsimp only at hw
    refine W.eq (g2 := F0 m 292 ls [.int r289]) rfl ?_
    refine W.widen (k := 2) (n := 12) (by omega) (by omega) ?_
    exact q_iret hx hb hr hP hF hS hw dL_act_292 hlocks
  have j69 : ∀ kk : Nat, kk + (2) ≤ 2 → ∀ (S : St) (a3 : Bool) (a4 : Int32) (t0 : Int32), ∀ (H : Heap) (locs : List Loc) (ls : Array Slot), wp_L_act_69 x2 x3 P S a3 a4 t0 → HP D cy b0 NALL S H → Fx S → va_S (AA b0) s.heap H locs → lv_has ls 7 [(0, .ref (b0 + 0)), (2, .int x3), (3, .int (b2i a3)), (4, .int a4)] → W p l e rm_L_act s m args below meth c H locs kk (0 + 6 * kk) (MQ below (QC (Pi P) (Wb D cy b0 NALL) b0) args s 2 12 (AA b0)) (F0 m 69 ls [.int t0]) := by
    intro kk hc9 S a3 a4 t0 H locs ls hw hP hF hS hl
    unfold wp_L_act_69 at hw
    refine lv_istore (lv' := [(5, .int t0), (0, .ref (b0 + 0)), (2, .int x3), (3, .int (b2i a3)), (4, .int a4)]) hx hb dL_act_69 hl (by decide) rfl (fun ls hl => ?_)
    refine lv_iload_n hx hb dL_act_71 rfl (lv_at hl 2 rfl) ?_
    refine lv_bipush (v := 26) hx hb dL_act_72 (by decide) ?_
    refine q_call (va_runS (As := [.int x3, .int 26]) (rest := []) ⟨hx, hb, hml, hown, hts⟩ (c_L_low l hlt D cy b0 S x3 26 _ hw) (va_cwS 2 hts gL_act_L_low rfl rfl rfl (by decide +kernel) ⟨(Nat.le_of_ble_eq_true rfl), (Nat.le_of_ble_eq_true rfl)⟩) (q_pS hW hP hF hS [.int x3, .int 26]) rfl rfl hl.1 rfl (lv_room (Nat.le_of_ble_eq_true rfl)) dL_act_74 ⟨by show _ ≤ 2; omega, by show _ ≤ 12; omega⟩) hS (fun v74 S74 t74 H locs hh hp hB hz hk9 hS => ?_)
    obtain ⟨r74, rfl, hw⟩ := hp
    have hP : HP D cy b0 NALL S74 H := by rw [← hh]; exact hB.1
    have hF := hB.2
    try dsimp only at hw
    refine W.eq (g2 := F0 m 77 ls [.int r74]) rfl ?_
    refine lv_istore (lv' := [(6, .int r74), (5, .int t0), (0, .ref (b0 + 0)), (2, .int x3), (3, .int (b2i a3)), (4, .int a4)]) hx hb dL_act_77 hl (by decide) rfl (fun ls hl => ?_)
    refine lv_iload hx hb dL_act_79 (lv_at hl 0 rfl) ?_
    refine lv_iconst (v := 3) hx hb dL_act_81 (by decide) ?_
    refine lv_icmp_ge (x := r74) (y := 3) (tgt := 123) hx hb dL_act_82 (by decide) (fun c82 => ?_) (fun c82 => ?_)
    · rw [if_pos c82] at hw
      refine lv_iload hx hb dL_act_123 (lv_at hl 0 rfl) ?_
      refine lv_bipush (v := 15) hx hb dL_act_125 (by decide) ?_
      refine lv_icmp_ge (x := r74) (y := 15) (tgt := 183) hx hb dL_act_127 (by decide) (fun c127 => ?_) (fun c127 => ?_)
      · rw [if_pos c127] at hw
        refine lv_iload hx hb dL_act_183 (lv_at hl 0 rfl) ?_
        refine lv_bipush (v := 18) hx hb dL_act_185 (by decide) ?_
        refine lv_icmp_ge (x := r74) (y := 18) (tgt := 208) hx hb dL_act_187 (by decide) (fun c187 => ?_) (fun c187 => ?_)
        · rw [if_pos c187] at hw
          refine lv_iload hx hb dL_act_208 (lv_at hl 0 rfl) ?_
          refine lv_bipush (v := 18) hx hb dL_act_210 (by decide) ?_
          refine lv_icmp_ne (x := r74) (y := 18) (tgt := 222) hx hb dL_act_212 (by decide) (fun c212 => ?_) (fun c212 => ?_)
          · rw [if_neg c212] at hw
            refine lv_iload hx hb dL_act_222 (lv_at hl 0 rfl) ?_
            refine lv_bipush (v := 21) hx hb dL_act_224 (by decide) ?_
            refine lv_icmp_ge (x := r74) (y := 21) (tgt := 247) hx hb dL_act_226 (by decide) (fun c226 => ?_) (fun c226 => ?_)
            · rw [if_pos c226] at hw
              refine lv_iload hx hb dL_act_247 (lv_at hl 0 rfl) ?_
              refine lv_bipush (v := 23) hx hb dL_act_249 (by decide) ?_
              refine lv_icmp_ge (x := r74) (y := 23) (tgt := 274) hx hb dL_act_251 (by decide) (fun c251 => ?_) (fun c251 => ?_)
              · rw [if_pos c251] at hw
                refine lv_aload_n hx hb dL_act_274 rfl (lv_at hl 2 rfl) ?_
                refine lv_iload hx hb dL_act_275 (lv_at hl 0 rfl) ?_
                refine lv_bipush (v := 25) hx hb dL_act_277 (by decide) ?_
                refine lv_icmp_ge (x := r74) (y := 25) (tgt := 286) hx hb dL_act_279 (by decide) (fun c279 => ?_) (fun c279 => ?_)
                · rw [if_pos c279] at hw
                  refine lv_bipush (v := 6) hx hb dL_act_286 (by decide) ?_
                  refine W.widen (k := kk + 0) (n := 0 + 6 * (kk + 0)) (by omega) (by omega) ?_
                  exact j288 (kk + 0) (by omega) S74 6 _ _ _ hw hP hF hS (lv_sub hl [] rfl)
                · rw [if_neg c279] at hw
                  refine lv_iconst (v := 5) hx hb dL_act_282 (by decide) ?_
                  refine lv_goto (tgt := 288) hx hb dL_act_283 (by decide) ?_
                  refine W.widen (k := kk + 0) (n := 0 + 6 * (kk + 0)) (by omega) (by omega) ?_
                  exact j288 (kk + 0) (by omega) S74 5 _ _ _ hw hP hF hS (lv_sub hl [] rfl)
              · rw [if_neg c251] at hw
                refine lv_aload_n hx hb dL_act_254 rfl (lv_at hl 2 rfl) ?_
                refine lv_iconst (v := 4) hx hb dL_act_255 (by decide) ?_
                refine lv_iload_n hx hb dL_act_256 rfl (lv_at hl 3 rfl) ?_
                refine lv_iconst (v := 4) hx hb dL_act_257 (by decide) ?_
                refine lv_ishr hx hb dL_act_258 ?_
                refine lv_aload_n hx hb dL_act_259 rfl (lv_at hl 2 rfl) ?_
                refine q_call (va_runV (As := []) (rest := [.int (x3 >>> (4 &&& 31)), .int 4, .ref (b0 + 0)]) ⟨hx, hb, hml, hown, hts⟩ (c_X5_lights l D cy b0 S74 _ hw) (cwV 0 hts gL_act_X5_lights rfl rfl rfl (by decide +kernel) ⟨(Nat.le_of_ble_eq_true rfl), (Nat.le_of_ble_eq_true rfl)⟩) (q_pV hW hP hF hS (k := 0) (ci := 5) (by decide) (cell_5 kk_0) rfl []) rfl rfl hl.1 rfl (lv_room (Nat.le_of_ble_eq_true rfl)) dL_act_260 ⟨by show _ ≤ 2; omega, by show _ ≤ 12; omega⟩) hS (fun v260 S260 t260 H locs hh hp hB hz hk9 hS => ?_)
                obtain ⟨r260, rfl, hw⟩ := hp
                have hP : HP D cy b0 NALL S260 H := by rw [← hh]; exact hB.1
                have hF := hB.2
                try dsimp only at hw
                refine W.eq (g2 := F0 m 263 ls [.int r260, .int (x3 >>> (4 &&& 31)), .int 4, .ref (b0 + 0)]) rfl ?_
                refine lv_iconst (v := 1) hx hb dL_act_263 (by decide) ?_
                refine lv_iadd hx hb dL_act_264 ?_
                refine q_call (va_runS (As := [.int (x3 >>> (4 &&& 31)), .int (r260 + 1)]) (rest := [.int 4, .ref (b0 + 0)]) ⟨hx, hb, hml, hown, hts⟩ (c_L_low l hlt D cy b0 S260 (x3 >>> (4 &&& 31)) (r260 + 1) _ hw) (va_cwS 2 hts gL_act_L_low rfl rfl rfl (by decide +kernel) ⟨(Nat.le_of_ble_eq_true rfl), (Nat.le_of_ble_eq_true rfl)⟩) (q_pS hW hP hF hS [.int (x3 >>> (4 &&& 31)), .int (r260 + 1)]) rfl rfl hl.1 rfl (lv_room (Nat.le_of_ble_eq_true rfl)) dL_act_265 ⟨by show _ ≤ 2; omega, by show _ ≤ 12; omega⟩) hS (fun v265 S265 t265 H locs hh hp hB hz hk9 hS => ?_)
                obtain ⟨r265, rfl, hw⟩ := hp
                have hP : HP D cy b0 NALL S265 H := by rw [← hh]; exact hB.1
                have hF := hB.2
                try dsimp only at hw
                refine W.eq (g2 := F0 m 268 ls [.int r265, .int 4, .ref (b0 + 0)]) rfl ?_
                refine q_call (vx_runSW (As := [.ref (b0 + 0), .int 4, .int r265]) (rest := []) ⟨hx, hb, hml, hown, hts⟩ (c_L_does l hlt D cy b0 S265 4 r265 _ hw) (vx_cwSW 3 hts gL_act_L_does rfl rfl rfl (by decide +kernel) ⟨(Nat.le_of_ble_eq_true rfl), (Nat.le_of_ble_eq_true rfl)⟩) (q_pS hW hP hF hS [.ref (b0 + 0), .int 4, .int r265]) rfl rfl hl.1 rfl (lv_room (Nat.le_of_ble_eq_true rfl)) dL_act_268 ⟨by show _ ≤ 2; omega, by show _ ≤ 12; omega⟩) hS (fun v268 S268 t268 H locs hh hp hB hz hk9 hS => ?_)
                obtain ⟨r268, rfl, hw⟩ := hp
                have hP : HP D cy b0 NALL S268 H := by rw [← hh]; exact hB.1
                have hF := hB.2
                try dsimp only at hw
                refine W.eq (g2 := F0 m 271 ls [.int r268]) rfl ?_
                refine lv_goto (tgt := 292) hx hb dL_act_271 (by decide) ?_
                refine W.widen (k := 2) (n := 12) (by omega) (by omega) ?_
                exact q_iret hx hb hr hP hF hS hw dL_act_292 hlocks
            · rw [if_neg c226] at hw
              refine lv_aload_n hx hb dL_act_229 rfl (lv_at hl 2 rfl) ?_
              refine lv_iload hx hb dL_act_230 (lv_at hl 0 rfl) ?_
              refine lv_bipush (v := 19) hx hb dL_act_232 (by decide) ?_
              refine lv_isub hx hb dL_act_234 ?_
              refine lv_iload_n hx hb dL_act_235 rfl (lv_at hl 3 rfl) ?_
              refine lv_iconst (v := 4) hx hb dL_act_236 (by decide) ?_
              refine lv_ishr hx hb dL_act_237 ?_
              refine lv_bipush (v := 14) hx hb dL_act_238 (by decide) ?_
              refine q_call (va_runS (As := [.int (x3 >>> (4 &&& 31)), .int 14]) (rest := [.int (r74 - 19), .ref (b0 + 0)]) ⟨hx, hb, hml, hown, hts⟩ (c_L_low l hlt D cy b0 S74 (x3 >>> (4 &&& 31)) 14 _ hw) (va_cwS 2 hts gL_act_L_low rfl rfl rfl (by decide +kernel) ⟨(Nat.le_of_ble_eq_true rfl), (Nat.le_of_ble_eq_true rfl)⟩) (q_pS hW hP hF hS [.int (x3 >>> (4 &&& 31)), .int 14]) rfl rfl hl.1 rfl (lv_room (Nat.le_of_ble_eq_true rfl)) dL_act_240 ⟨by show _ ≤ 2; omega, by show _ ≤ 12; omega⟩) hS (fun v240 S240 t240 H locs hh hp hB hz hk9 hS => ?_)
              obtain ⟨r240, rfl, hw⟩ := hp
              have hP : HP D cy b0 NALL S240 H := by rw [← hh]; exact hB.1
              have hF := hB.2
              try dsimp only at hw
              refine W.eq (g2 := F0 m 243 ls [.int r240, .int (r74 - 19), .ref (b0 + 0)]) rfl ?_
              refine q_call (vx_runSW (As := [.ref (b0 + 0), .int (r74 - 19), .int r240]) (rest := []) ⟨hx, hb, hml, hown, hts⟩ (c_L_does l hlt D cy b0 S240 (r74 - 19) r240 _ hw) (vx_cwSW 3 hts gL_act_L_does rfl rfl rfl (by decide +kernel) ⟨(Nat.le_of_ble_eq_true rfl), (Nat.le_of_ble_eq_true rfl)⟩) (q_pS hW hP hF hS [.ref (b0 + 0), .int (r74 - 19), .int r240]) rfl rfl hl.1 rfl (lv_room (Nat.le_of_ble_eq_true rfl)) dL_act_243 ⟨by show _ ≤ 2; omega, by show _ ≤ 12; omega⟩) hS (fun v243 S243 t243 H locs hh hp hB hz hk9 hS => ?_)
              obtain ⟨r243, rfl, hw⟩ := hp
              have hP : HP D cy b0 NALL S243 H := by rw [← hh]; exact hB.1
              have hF := hB.2
              try dsimp only at hw
              refine W.eq (g2 := F0 m 246 ls [.int r243]) rfl ?_
              refine W.widen (k := 2) (n := 12) (by omega) (by omega) ?_
              exact q_iret hx hb hr hP hF hS hw dL_act_246 hlocks
          · rw [if_pos c212] at hw
            refine lv_aload_n hx hb dL_act_215 rfl (lv_at hl 2 rfl) ?_
            refine lv_iload hx hb dL_act_216 (lv_at hl 5 rfl) ?_
            refine q_call (vx_runSW (As := [.ref (b0 + 0), .int a4]) (rest := []) ⟨hx, hb, hml, hown, hts⟩ (c_L_convert l hlt D cy b0 S74 a4 _ hw) (vx_cwSW 2 hts gL_act_L_convert rfl rfl rfl (by decide +kernel) ⟨(Nat.le_of_ble_eq_true rfl), (Nat.le_of_ble_eq_true rfl)⟩) (q_pS hW hP hF hS [.ref (b0 + 0), .int a4]) rfl rfl hl.1 rfl (lv_room (Nat.le_of_ble_eq_true rfl)) dL_act_218 ⟨by show _ ≤ 2; omega, by show _ ≤ 12; omega⟩) hS (fun v218 S218 t218 H locs hh hp hB hz hk9 hS => ?_)
            obtain ⟨r218, rfl, hw⟩ := hp
            have hP : HP D cy b0 NALL S218 H := by rw [← hh]; exact hB.1
            have hF := hB.2
            try dsimp only at hw
            refine W.eq (g2 := F0 m 221 ls [.int r218]) rfl ?_
            refine W.widen (k := 2) (n := 12) (by omega) (by omega) ?_
            exact q_iret hx hb hr hP hF hS hw dL_act_221 hlocks
        · rw [if_neg c187] at hw
          refine lv_aload_n hx hb dL_act_190 rfl (lv_at hl 2 rfl) ?_
          refine lv_iconst (v := 2) hx hb dL_act_191 (by decide) ?_
          refine lv_iload_n hx hb dL_act_192 rfl (lv_at hl 3 rfl) ?_
          refine lv_iconst (v := 4) hx hb dL_act_193 (by decide) ?_
          refine lv_ishr hx hb dL_act_194 ?_
          refine lv_aload_n hx hb dL_act_195 rfl (lv_at hl 2 rfl) ?_
          refine q_call (va_runV (As := []) (rest := [.int (x3 >>> (4 &&& 31)), .int 2, .ref (b0 + 0)]) ⟨hx, hb, hml, hown, hts⟩ (c_X5_requests l D cy b0 S74 _ hw) (cwV 0 hts gL_act_X5_requests rfl rfl rfl (by decide +kernel) ⟨(Nat.le_of_ble_eq_true rfl), (Nat.le_of_ble_eq_true rfl)⟩) (q_pV hW hP hF hS (k := 0) (ci := 5) (by decide) (cell_5 kk_0) rfl []) rfl rfl hl.1 rfl (lv_room (Nat.le_of_ble_eq_true rfl)) dL_act_196 ⟨by show _ ≤ 2; omega, by show _ ≤ 12; omega⟩) hS (fun v196 S196 t196 H locs hh hp hB hz hk9 hS => ?_)
          obtain ⟨r196, rfl, hw⟩ := hp
          have hP : HP D cy b0 NALL S196 H := by rw [← hh]; exact hB.1
          have hF := hB.2
          try dsimp only at hw
          refine W.eq (g2 := F0 m 199 ls [.int r196, .int (x3 >>> (4 &&& 31)), .int 2, .ref (b0 + 0)]) rfl ?_
          refine lv_iconst (v := 1) hx hb dL_act_199 (by decide) ?_
          refine lv_iadd hx hb dL_act_200 ?_
          refine q_call (va_runS (As := [.int (x3 >>> (4 &&& 31)), .int (r196 + 1)]) (rest := [.int 2, .ref (b0 + 0)]) ⟨hx, hb, hml, hown, hts⟩ (c_L_low l hlt D cy b0 S196 (x3 >>> (4 &&& 31)) (r196 + 1) _ hw) (va_cwS 2 hts gL_act_L_low rfl rfl rfl (by decide +kernel) ⟨(Nat.le_of_ble_eq_true rfl), (Nat.le_of_ble_eq_true rfl)⟩) (q_pS hW hP hF hS [.int (x3 >>> (4 &&& 31)), .int (r196 + 1)]) rfl rfl hl.1 rfl (lv_room (Nat.le_of_ble_eq_true rfl)) dL_act_201 ⟨by show _ ≤ 2; omega, by show _ ≤ 12; omega⟩) hS (fun v201 S201 t201 H locs hh hp hB hz hk9 hS => ?_)
          obtain ⟨r201, rfl, hw⟩ := hp
          have hP : HP D cy b0 NALL S201 H := by rw [← hh]; exact hB.1
          have hF := hB.2
          try dsimp only at hw
          refine W.eq (g2 := F0 m 204 ls [.int r201, .int 2, .ref (b0 + 0)]) rfl ?_
          refine q_call (vx_runSW (As := [.ref (b0 + 0), .int 2, .int r201]) (rest := []) ⟨hx, hb, hml, hown, hts⟩ (c_L_does l hlt D cy b0 S201 2 r201 _ hw) (vx_cwSW 3 hts gL_act_L_does rfl rfl rfl (by decide +kernel) ⟨(Nat.le_of_ble_eq_true rfl), (Nat.le_of_ble_eq_true rfl)⟩) (q_pS hW hP hF hS [.ref (b0 + 0), .int 2, .int r201]) rfl rfl hl.1 rfl (lv_room (Nat.le_of_ble_eq_true rfl)) dL_act_204 ⟨by show _ ≤ 2; omega, by show _ ≤ 12; omega⟩) hS (fun v204 S204 t204 H locs hh hp hB hz hk9 hS => ?_)
          obtain ⟨r204, rfl, hw⟩ := hp
          have hP : HP D cy b0 NALL S204 H := by rw [← hh]; exact hB.1
          have hF := hB.2
          try dsimp only at hw
          refine W.eq (g2 := F0 m 207 ls [.int r204]) rfl ?_
          refine W.widen (k := 2) (n := 12) (by omega) (by omega) ?_
          exact q_iret hx hb hr hP hF hS hw dL_act_207 hlocks
      · rw [if_neg c127] at hw
        refine lv_aload_n hx hb dL_act_130 rfl (lv_at hl 2 rfl) ?_
        refine lv_iload hx hb dL_act_131 (lv_at hl 5 rfl) ?_
        refine lv_iload hx hb dL_act_133 (lv_at hl 1 rfl) ?_
        refine lv_iload_n hx hb dL_act_135 rfl (lv_at hl 3 rfl) ?_
        refine lv_bipush (v := 9) hx hb dL_act_136 (by decide) ?_
        refine lv_ishr hx hb dL_act_138 ?_
        refine lv_iload_n hx hb dL_act_139 rfl (lv_at hl 4 rfl) ?_
        refine lv_if_eq (x := b2i a3) (tgt := 148) hx hb dL_act_140 (by decide) (fun c140 => ?_) (fun c140 => ?_)
        · have c140 := b2i_z c140
          rw [if_neg c140] at hw
          refine lv_bipush (v := 10) hx hb dL_act_148 (by decide) ?_
          refine W.widen (k := kk + 0) (n := 0 + 6 * (kk + 0)) (by omega) (by omega) ?_
          exact j150 (kk + 0) (by omega) S74 a3 a4 t0 (x3 >>> (9 &&& 31)) 10 _ _ _ hw hP hF hS (lv_sub hl [3, 4] rfl)
        · have c140 := b2i_n c140
          rw [if_pos c140] at hw
          refine lv_bipush (v := 13) hx hb dL_act_143 (by decide) ?_
          refine lv_goto (tgt := 150) hx hb dL_act_145 (by decide) ?_
          refine W.widen (k := kk + 0) (n := 0 + 6 * (kk + 0)) (by omega) (by omega) ?_
          exact j150 (kk + 0) (by omega) S74 a3 a4 t0 (x3 >>> (9 &&& 31)) 13 _ _ _ hw hP hF hS (lv_sub hl [3, 4] rfl)
    · rw [if_neg c82] at hw
      refine lv_aload_n hx hb dL_act_85 rfl (lv_at hl 2 rfl) ?_
      refine lv_iload hx hb dL_act_86 (lv_at hl 5 rfl) ?_
      refine lv_iload hx hb dL_act_88 (lv_at hl 1 rfl) ?_
      refine lv_iload_n hx hb dL_act_90 rfl (lv_at hl 3 rfl) ?_
      refine lv_bipush (v := 9) hx hb dL_act_91 (by decide) ?_
      refine lv_ishr hx hb dL_act_93 ?_
      refine lv_iload_n hx hb dL_act_94 rfl (lv_at hl 4 rfl) ?_
      refine lv_if_eq (x := b2i a3) (tgt := 104) hx hb dL_act_95 (by decide) (fun c95 => ?_) (fun c95 => ?_)
      · have c95 := b2i_z c95
        rw [if_neg c95] at hw
        refine lv_bipush (v := 9) hx hb dL_act_104 (by decide) ?_
        refine W.widen (k := kk + 0) (n := 0 + 6 * (kk + 0)) (by omega) (by omega) ?_
        exact j106 (kk + 0) (by omega) S74 a3 a4 t0 (x3 >>> (9 &&& 31)) 9 _ _ _ hw hP hF hS (lv_sub hl [4] rfl)
      · have c95 := b2i_n c95
        rw [if_pos c95] at hw
        refine lv_sipush (v := 1200) hx hb dL_act_98 (by decide) ?_
        refine lv_goto (tgt := 106) hx hb dL_act_101 (by decide) ?_
        refine W.widen (k := kk + 0) (n := 0 + 6 * (kk + 0)) (by omega) (by omega) ?_
        exact j106 (kk + 0) (by omega) S74 a3 a4 t0 (x3 >>> (9 &&& 31)) 1200 _ _ _ hw hP hF hS (lv_sub hl [4] rfl)
  have j31 : ∀ kk : Nat, kk + (2) ≤ 2 → ∀ (S : St) (a3 : Bool) (t0 : Int32) (t1 : Int32), ∀ (H : Heap) (locs : List Loc) (ls : Array Slot), wp_L_act_31 x2 x3 P S a3 t0 t1 → HP D cy b0 NALL S H → Fx S → va_S (AA b0) s.heap H locs → lv_has ls 7 [(0, .ref (b0 + 0)), (1, .int x2), (2, .int x3), (3, .int (b2i a3))] → W p l e rm_L_act s m args below meth c H locs kk (0 + 6 * kk) (MQ below (QC (Pi P) (Wb D cy b0 NALL) b0) args s 2 12 (AA b0)) (F0 m 31 ls [.int t1, .int t0]) := by
    intro kk hc9 S a3 t0 t1 H locs ls hw hP hF hS hl
    unfold wp_L_act_31 at hw
    refine q_call (va_runS (As := [.int t0, .int t1]) (rest := []) ⟨hx, hb, hml, hown, hts⟩ (c_L_low l hlt D cy b0 S t0 t1 _ hw) (va_cwS 2 hts gL_act_L_low rfl rfl rfl (by decide +kernel) ⟨(Nat.le_of_ble_eq_true rfl), (Nat.le_of_ble_eq_true rfl)⟩) (q_pS hW hP hF hS [.int t0, .int t1]) rfl rfl hl.1 rfl (lv_room (Nat.le_of_ble_eq_true rfl)) dL_act_31 ⟨by show _ ≤ 2; omega, by show _ ≤ 12; omega⟩) hS (fun v31 S31 t31 H locs hh hp hB hz hk9 hS => ?_)
    obtain ⟨r31, rfl, hw⟩ := hp
    have hP : HP D cy b0 NALL S31 H := by rw [← hh]; exact hB.1
    have hF := hB.2
    try dsimp only at hw
    refine W.eq (g2 := F0 m 34 ls [.int r31]) rfl ?_
    refine lv_istore (lv' := [(4, .int r31), (0, .ref (b0 + 0)), (1, .int x2), (2, .int x3), (3, .int (b2i a3))]) hx hb dL_act_34 hl (by decide) rfl (fun ls hl => ?_)
    refine lv_iload_n hx hb dL_act_36 rfl (lv_at hl 4 rfl) ?_
    refine lv_if_eq (x := b2i a3) (tgt := 52) hx hb dL_act_37 (by decide) (fun c37 => ?_) (fun c37 => ?_)
    · have c37 := b2i_z c37
      rw [if_neg c37] at hw
      refine lv_iload hx hb dL_act_52 (lv_at hl 0 rfl) ?_
      refine lv_iconst (v := 1) hx hb dL_act_54 (by decide) ?_
      refine lv_iadd hx hb dL_act_55 ?_
      refine lv_iload_n hx hb dL_act_56 rfl (lv_at hl 3 rfl) ?_
      refine lv_bipush (v := 6) hx hb dL_act_57 (by decide) ?_
      refine lv_ishr hx hb dL_act_59 ?_
      refine lv_iload_n hx hb dL_act_60 rfl (lv_at hl 2 rfl) ?_
      refine lv_iconst (v := 1) hx hb dL_act_61 (by decide) ?_
      refine lv_isub hx hb dL_act_62 ?_
      refine q_call (va_runS (As := [.int (x3 >>> (6 &&& 31)), .int (x2 - 1)]) (rest := [.int (r31 + 1)]) ⟨hx, hb, hml, hown, hts⟩ (c_L_low l hlt D cy b0 S31 (x3 >>> (6 &&& 31)) (x2 - 1) _ hw) (va_cwS 2 hts gL_act_L_low rfl rfl rfl (by decide +kernel) ⟨(Nat.le_of_ble_eq_true rfl), (Nat.le_of_ble_eq_true rfl)⟩) (q_pS hW hP hF hS [.int (x3 >>> (6 &&& 31)), .int (x2 - 1)]) rfl rfl hl.1 rfl (lv_room (Nat.le_of_ble_eq_true rfl)) dL_act_63 ⟨by show _ ≤ 2; omega, by show _ ≤ 12; omega⟩) hS (fun v63 S63 t63 H locs hh hp hB hz hk9 hS => ?_)
      obtain ⟨r63, rfl, hw⟩ := hp
      have hP : HP D cy b0 NALL S63 H := by rw [← hh]; exact hB.1
      have hF := hB.2
      try dsimp only at hw
      refine W.eq (g2 := F0 m 66 ls [.int r63, .int (r31 + 1)]) rfl ?_
      refine lv_iadd hx hb dL_act_66 ?_
      refine lv_iload_n hx hb dL_act_67 rfl (lv_at hl 2 rfl) ?_
      obtain ⟨h68, hw⟩ := hw
      refine lv_irem hx hb dL_act_68 h68 ?_
      refine W.widen (k := kk + 0) (n := 0 + 6 * (kk + 0)) (by omega) (by omega) ?_
      exact j69 (kk + 0) (by omega) S63 a3 r31 (((r31 + 1) + r63) - ((r31 + 1) + r63) / x2 * x2) _ _ _ hw hP hF hS (lv_sub hl [1, 3, 4, 0] rfl)
    · have c37 := b2i_n c37
      rw [if_pos c37] at hw
      refine lv_iload_n hx hb dL_act_40 rfl (lv_at hl 3 rfl) ?_
      refine lv_bipush (v := 6) hx hb dL_act_41 (by decide) ?_
      refine lv_ishr hx hb dL_act_43 ?_
      refine lv_bipush (v := 10) hx hb dL_act_44 (by decide) ?_
      refine q_call (va_runS (As := [.int (x3 >>> (6 &&& 31)), .int 10]) (rest := []) ⟨hx, hb, hml, hown, hts⟩ (c_L_low l hlt D cy b0 S31 (x3 >>> (6 &&& 31)) 10 _ hw) (va_cwS 2 hts gL_act_L_low rfl rfl rfl (by decide +kernel) ⟨(Nat.le_of_ble_eq_true rfl), (Nat.le_of_ble_eq_true rfl)⟩) (q_pS hW hP hF hS [.int (x3 >>> (6 &&& 31)), .int 10]) rfl rfl hl.1 rfl (lv_room (Nat.le_of_ble_eq_true rfl)) dL_act_46 ⟨by show _ ≤ 2; omega, by show _ ≤ 12; omega⟩) hS (fun v46 S46 t46 H locs hh hp hB hz hk9 hS => ?_)
      obtain ⟨r46, rfl, hw⟩ := hp
      have hP : HP D cy b0 NALL S46 H := by rw [← hh]; exact hB.1
      have hF := hB.2
      try dsimp only at hw
      refine W.eq (g2 := F0 m 49 ls [.int r46]) rfl ?_
      refine lv_goto (tgt := 69) hx hb dL_act_49 (by decide) ?_
      refine W.widen (k := kk + 0) (n := 0 + 6 * (kk + 0)) (by omega) (by omega) ?_
      exact j69 (kk + 0) (by omega) S46 a3 r31 r46 _ _ _ hw hP hF hS (lv_sub hl [1, 3, 4, 0] rfl)
  have j17 : ∀ kk : Nat, kk + (2) ≤ 2 → ∀ (S : St) (t0 : Bool), ∀ (H : Heap) (locs : List Loc) (ls : Array Slot), wp_L_act_17 x2 x3 P S t0 → HP D cy b0 NALL S H → Fx S → va_S (AA b0) s.heap H locs → lv_has ls 7 [(0, .ref (b0 + 0)), (1, .int x2), (2, .int x3)] → W p l e rm_L_act s m args below meth c H locs kk (0 + 6 * kk) (MQ below (QC (Pi P) (Wb D cy b0 NALL) b0) args s 2 12 (AA b0)) (F0 m 17 ls [.int (b2i t0)]) := by
    intro kk hc9 S t0 H locs ls hw hP hF hS hl
    unfold wp_L_act_17 at hw
    refine lv_istore_n (lv' := [(3, .int (b2i t0)), (0, .ref (b0 + 0)), (1, .int x2), (2, .int x3)]) hx hb dL_act_17 rfl hl (by decide) rfl (fun ls hl => ?_)
    refine lv_iload_n hx hb dL_act_18 rfl (lv_at hl 3 rfl) ?_
    refine lv_iconst (v := 3) hx hb dL_act_19 (by decide) ?_
    refine lv_ishr hx hb dL_act_20 ?_
    refine lv_iload_n hx hb dL_act_21 rfl (lv_at hl 0 rfl) ?_
    refine lv_if_eq (x := b2i t0) (tgt := 30) hx hb dL_act_22 (by decide) (fun c22 => ?_) (fun c22 => ?_)
    · have c22 := b2i_z c22
      rw [if_neg c22] at hw
      refine lv_iload_n hx hb dL_act_30 rfl (lv_at hl 2 rfl) ?_
      refine W.widen (k := kk + 0) (n := 0 + 6 * (kk + 0)) (by omega) (by omega) ?_
      exact j31 (kk + 0) (by omega) S t0 (x3 >>> (3 &&& 31)) x2 _ _ _ hw hP hF hS (lv_sub hl [1, 2, 3, 0] rfl)
    · have c22 := b2i_n c22
      rw [if_pos c22] at hw
      refine lv_bipush (v := 10) hx hb dL_act_25 (by decide) ?_
      refine lv_goto (tgt := 31) hx hb dL_act_27 (by decide) ?_
      refine W.widen (k := kk + 0) (n := 0 + 6 * (kk + 0)) (by omega) (by omega) ?_
      exact j31 (kk + 0) (by omega) S t0 (x3 >>> (3 &&& 31)) 10 _ _ _ hw hP hF hS (lv_sub hl [1, 2, 3, 0] rfl)
  unfold wp_L_act at hw
  refine lv_iload_n hx hb dL_act_0 rfl (lv_at hl 2 rfl) ?_
  refine lv_bipush (v := 24) hx hb dL_act_1 (by decide) ?_
  refine lv_ishr hx hb dL_act_3 ?_
  refine lv_bipush (v := 8) hx hb dL_act_4 (by decide) ?_
  refine q_call (va_runS (As := [.int (x3 >>> (24 &&& 31)), .int 8]) (rest := []) ⟨hx, hb, hml, hown, hts⟩ (c_L_low l hlt D cy b0 S (x3 >>> (24 &&& 31)) 8 _ hw) (va_cwS 2 hts gL_act_L_low rfl rfl rfl (by decide +kernel) ⟨(Nat.le_of_ble_eq_true rfl), (Nat.le_of_ble_eq_true rfl)⟩) (q_pS hW hP hF hS [.int (x3 >>> (24 &&& 31)), .int 8]) rfl rfl hl.1 rfl (lv_room (Nat.le_of_ble_eq_true rfl)) dL_act_6 ⟨by show _ ≤ 2; omega, by show _ ≤ 12; omega⟩) hS (fun v6 S6 t6 H locs hh hp hB hz hk9 hS => ?_)
  obtain ⟨r6, rfl, hw⟩ := hp
  have hP : HP D cy b0 NALL S6 H := by rw [← hh]; exact hB.1
  have hF := hB.2
  try dsimp only at hw
  refine W.eq (g2 := F0 m 9 ls [.int r6]) rfl ?_
  refine lv_if_ne (x := r6) (tgt := 16) hx hb dL_act_9 (by decide) (fun c9 => ?_) (fun c9 => ?_)
  · rw [if_neg c9] at hw
    refine lv_iconst (v := 0) hx hb dL_act_16 (by decide) ?_
    refine W.widen (k := 0 + 0) (n := 0 + 6 * (0 + 0)) (by omega) (by omega) ?_
    exact j17 (0 + 0) (by omega) S6 false _ _ _ hw hP hF hS (lv_sub hl [0, 1, 2] rfl)
  · rw [if_pos c9] at hw
    refine lv_iconst (v := 1) hx hb dL_act_12 (by decide) ?_
    refine lv_goto (tgt := 17) hx hb dL_act_13 (by decide) ?_
    refine W.widen (k := 0 + 0) (n := 0 + 6 * (0 + 0)) (by omega) (by omega) ?_
    exact j17 (0 + 0) (by omega) S6 true _ _ _ hw hP hF hS (lv_sub hl [0, 1, 2] rfl)
set_option maxHeartbeats 4000000 in
set_option maxRecDepth 100000 in
theorem c_L_isForetoldSo (l : Launch) (hlt : l.stackTraces = false) (D : va_G) (cy : Nat → ClassId) (b0 : Nat) (S : St) (x2 : Int32) (x3 : Int32) (P : Bool → St → Prop) (hw : wp_L_isForetoldSo S x2 x3 P) : Met l yL_isForetoldSo wsL_isForetoldSo rm_L_isForetoldSo (va_Pc [.ref (b0 + 0), .int x2, .int x3] (Wd D cy b0 NALL S)) (QC (Pz P) (Wb D cy b0 NALL) b0) 4 24 (AA b0) := by
  refine Met.ofW (cc := cL_isForetoldSo) (maxL := 6) (ret := (some .boolean)) (by decide) rfl ?_
  intro p e s m args below meth c s₁ B hml hv
  obtain ⟨hargs, hW, hP, hF⟩ := hv
  have hx := B.exec
  have hb := B.bytes
  have hr := B.returns
  have hts := atoms_spec (ws := wsL_isForetoldSo) B.pre
  have hown : s.vm.findClass RL = some m.cls := findClass_of_methodNamed B.named
  have hlocks := B.notSynchronized
  have hK := hW.1
  have hS : va_S (AA b0) s.heap s.heap [] := va_S.rf
  have hE : entryFrame m args 6 = F0 m 0 ((lg_sl [.ref (b0 + 0), .int x2, .int x3] ++ List.replicate (6 - (lg_sl [.ref (b0 + 0), .int x2, .int x3]).length) Slot.unset).toArray) [] := by rw [hargs]; exact lg_entry_eq m _ _
  rw [hE]
  have hl := lv_entry [.ref (b0 + 0), .int x2, .int x3] (n := 6) (Nat.le_of_ble_eq_true rfl)
  generalize (lg_sl [.ref (b0 + 0), .int x2, .int x3] ++ List.replicate (6 - (lg_sl [.ref (b0 + 0), .int x2, .int x3]).length) Slot.unset).toArray = ls at hl ⊢
  have hl : lv_has ls 6 [(0, .ref (b0 + 0)), (1, .int x2), (2, .int x3)] := hl
  have j41 : ∀ kk : Nat, kk + (1) ≤ 4 → ∀ (S : St) (a3 : Int32) (a4 : Int32) (a5 : Int32), ∀ (H : Heap) (locs : List Loc) (ls : Array Slot), wp_L_isForetoldSo_41 x2 x3 P S a3 a4 a5 → HP D cy b0 NALL S H → Fx S → va_S (AA b0) s.heap H locs → lv_has ls 6 [(3, .int a3), (4, .int a4), (5, .int a5)] → W p l e rm_L_isForetoldSo s m args below meth c H locs kk (0 + 6 * kk) (MQ below (QC (Pz P) (Wb D cy b0 NALL) b0) args s 4 24 (AA b0)) (F0 m 41 ls []) := by
    intro kk hc9 S a3 a4 a5 H locs ls hw hP hF hS hl
    unfold wp_L_isForetoldSo_41 at hw
    refine lv_iload hx hb dL_isForetoldSo_41 (lv_at hl 2 rfl) ?_
    refine lv_if_lt (x := a5) (tgt := 59) hx hb dL_isForetoldSo_43 (by decide) (fun c43 => ?_) (fun c43 => ?_)
    · rw [if_pos c43] at hw
      refine lv_iconst (v := 1) hx hb dL_isForetoldSo_59 (by decide) ?_
      refine lv_goto (tgt := 64) hx hb dL_isForetoldSo_60 (by decide) ?_
      refine W.widen (k := 4) (n := 24) (by omega) (by omega) ?_
      exact q_zret (v := true) hx hb hr hP hF hS hw dL_isForetoldSo_64 hlocks
    · rw [if_neg c43] at hw
      refine lv_iload hx hb dL_isForetoldSo_46 (lv_at hl 1 rfl) ?_
      refine lv_if_lt (x := a4) (tgt := 63) hx hb dL_isForetoldSo_48 (by decide) (fun c48 => ?_) (fun c48 => ?_)
      · rw [if_pos c48] at hw
        refine lv_iconst (v := 0) hx hb dL_isForetoldSo_63 (by decide) ?_
        refine W.widen (k := 4) (n := 24) (by omega) (by omega) ?_
        exact q_zret (v := false) hx hb hr hP hF hS hw dL_isForetoldSo_64 hlocks
      · rw [if_neg c48] at hw
        refine lv_iload hx hb dL_isForetoldSo_51 (lv_at hl 2 rfl) ?_
        refine lv_iconst (v := 2) hx hb dL_isForetoldSo_53 (by decide) ?_
        refine lv_iload_n hx hb dL_isForetoldSo_54 rfl (lv_at hl 0 rfl) ?_
        refine lv_imul hx hb dL_isForetoldSo_55 ?_
        refine lv_icmp_lt (x := a5) (y := (2 * a3)) (tgt := 63) hx hb dL_isForetoldSo_56 (by decide) (fun c56 => ?_) (fun c56 => ?_)
        · rw [if_pos c56] at hw
          refine lv_iconst (v := 0) hx hb dL_isForetoldSo_63 (by decide) ?_
          refine W.widen (k := 4) (n := 24) (by omega) (by omega) ?_
          exact q_zret (v := false) hx hb hr hP hF hS hw dL_isForetoldSo_64 hlocks
        · rw [if_neg c56] at hw
          refine lv_iconst (v := 1) hx hb dL_isForetoldSo_59 (by decide) ?_
          refine lv_goto (tgt := 64) hx hb dL_isForetoldSo_60 (by decide) ?_
          refine W.widen (k := 4) (n := 24) (by omega) (by omega) ?_
          exact q_zret (v := true) hx hb hr hP hF hS hw dL_isForetoldSo_64 hlocks
  unfold wp_L_isForetoldSo at hw
  refine lv_aload_n hx hb dL_isForetoldSo_0 rfl (lv_at hl 0 rfl) ?_
  refine lv_iload_n hx hb dL_isForetoldSo_1 rfl (lv_at hl 1 rfl) ?_
  refine lv_iload_n hx hb dL_isForetoldSo_2 rfl (lv_at hl 2 rfl) ?_
  refine lv_iconst (v := 0) hx hb dL_isForetoldSo_3 (by decide) ?_
  refine q_call (vx_runSW (As := [.ref (b0 + 0), .int x2, .int x3, .int 0]) (rest := []) ⟨hx, hb, hml, hown, hts⟩ (c_L_newLength l hlt D cy b0 S x2 x3 0 _ hw) (vx_cwSW 4 hts gL_isForetoldSo_L_newLength rfl rfl rfl (by decide +kernel) ⟨(Nat.le_of_ble_eq_true rfl), (Nat.le_of_ble_eq_true rfl)⟩) (q_pS hW hP hF hS [.ref (b0 + 0), .int x2, .int x3, .int 0]) rfl rfl hl.1 rfl (lv_room (Nat.le_of_ble_eq_true rfl)) dL_isForetoldSo_4 ⟨by show _ ≤ 4; omega, by show _ ≤ 24; omega⟩) hS (fun v4 S4 t4 H locs hh hp hB hz hk9 hS => ?_)
  obtain ⟨r4, rfl, hw⟩ := hp
  have hP : HP D cy b0 NALL S4 H := by rw [← hh]; exact hB.1
  have hF := hB.2
  try dsimp only at hw
  refine W.eq (g2 := F0 m 7 ls [.int r4]) rfl ?_
  refine lv_istore_n (lv' := [(3, .int r4), (0, .ref (b0 + 0)), (1, .int x2), (2, .int x3)]) hx hb dL_isForetoldSo_7 rfl hl (by decide) rfl (fun ls hl => ?_)
  refine lv_aload_n hx hb dL_isForetoldSo_8 rfl (lv_at hl 1 rfl) ?_
  refine lv_iload_n hx hb dL_isForetoldSo_9 rfl (lv_at hl 2 rfl) ?_
  refine lv_iload_n hx hb dL_isForetoldSo_10 rfl (lv_at hl 3 rfl) ?_
  refine lv_iconst (v := 1) hx hb dL_isForetoldSo_11 (by decide) ?_
  refine q_call (vx_runSW (As := [.ref (b0 + 0), .int x2, .int x3, .int 1]) (rest := []) ⟨hx, hb, hml, hown, hts⟩ (c_L_newLength l hlt D cy b0 S4 x2 x3 1 _ hw) (vx_cwSW 4 hts gL_isForetoldSo_L_newLength rfl rfl rfl (by decide +kernel) ⟨(Nat.le_of_ble_eq_true rfl), (Nat.le_of_ble_eq_true rfl)⟩) (q_pS hW hP hF hS [.ref (b0 + 0), .int x2, .int x3, .int 1]) rfl rfl hl.1 rfl (lv_room (Nat.le_of_ble_eq_true rfl)) dL_isForetoldSo_12 ⟨by show _ ≤ 4; omega, by show _ ≤ 24; omega⟩) hS (fun v12 S12 t12 H locs hh hp hB hz hk9 hS => ?_)
  obtain ⟨r12, rfl, hw⟩ := hp
  have hP : HP D cy b0 NALL S12 H := by rw [← hh]; exact hB.1
  have hF := hB.2
  try dsimp only at hw
  refine W.eq (g2 := F0 m 15 ls [.int r12]) rfl ?_
  refine lv_istore (lv' := [(4, .int r12), (3, .int r4), (0, .ref (b0 + 0)), (1, .int x2), (2, .int x3)]) hx hb dL_isForetoldSo_15 hl (by decide) rfl (fun ls hl => ?_)
  refine lv_aload_n hx hb dL_isForetoldSo_17 rfl (lv_at hl 2 rfl) ?_
  refine lv_iload_n hx hb dL_isForetoldSo_18 rfl (lv_at hl 3 rfl) ?_
  refine lv_iload_n hx hb dL_isForetoldSo_19 rfl (lv_at hl 4 rfl) ?_
  refine lv_iconst (v := 2) hx hb dL_isForetoldSo_20 (by decide) ?_
  refine q_call (vx_runSW (As := [.ref (b0 + 0), .int x2, .int x3, .int 2]) (rest := []) ⟨hx, hb, hml, hown, hts⟩ (c_L_newLength l hlt D cy b0 S12 x2 x3 2 _ hw) (vx_cwSW 4 hts gL_isForetoldSo_L_newLength rfl rfl rfl (by decide +kernel) ⟨(Nat.le_of_ble_eq_true rfl), (Nat.le_of_ble_eq_true rfl)⟩) (q_pS hW hP hF hS [.ref (b0 + 0), .int x2, .int x3, .int 2]) rfl rfl hl.1 rfl (lv_room (Nat.le_of_ble_eq_true rfl)) dL_isForetoldSo_21 ⟨by show _ ≤ 4; omega, by show _ ≤ 24; omega⟩) hS (fun v21 S21 t21 H locs hh hp hB hz hk9 hS => ?_)
  obtain ⟨r21, rfl, hw⟩ := hp
  have hP : HP D cy b0 NALL S21 H := by rw [← hh]; exact hB.1
  have hF := hB.2
  try dsimp only at hw
  refine W.eq (g2 := F0 m 24 ls [.int r21]) rfl ?_
  refine lv_istore (lv' := [(5, .int r21), (4, .int r12), (3, .int r4), (0, .ref (b0 + 0)), (1, .int x2), (2, .int x3)]) hx hb dL_isForetoldSo_24 hl (by decide) rfl (fun ls hl => ?_)
  refine lv_iload hx hb dL_isForetoldSo_26 (lv_at hl 1 rfl) ?_
  refine lv_if_lt (x := r12) (tgt := 41) hx hb dL_isForetoldSo_28 (by decide) (fun c28 => ?_) (fun c28 => ?_)
  · rw [if_pos c28] at hw
    refine W.widen (k := 0 + 3) (n := 0 + 6 * (0 + 3)) (by omega) (by omega) ?_
    exact j41 (0 + 3) (by omega) S21 r4 r12 r21 _ _ _ hw hP hF hS (lv_sub hl [2, 1, 0] rfl)
  · rw [if_neg c28] at hw
    refine lv_iload_n hx hb dL_isForetoldSo_31 rfl (lv_at hl 2 rfl) ?_
    refine lv_if_lt (x := r4) (tgt := 63) hx hb dL_isForetoldSo_32 (by decide) (fun c32 => ?_) (fun c32 => ?_)
    · rw [if_pos c32] at hw
      refine lv_iconst (v := 0) hx hb dL_isForetoldSo_63 (by decide) ?_
      refine W.widen (k := 4) (n := 24) (by omega) (by omega) ?_
      exact q_zret (v := false) hx hb hr hP hF hS hw dL_isForetoldSo_64 hlocks
    · rw [if_neg c32] at hw
      refine lv_iload_n hx hb dL_isForetoldSo_35 rfl (lv_at hl 2 rfl) ?_
      refine lv_iload hx hb dL_isForetoldSo_36 (lv_at hl 1 rfl) ?_
      refine lv_icmp_gt (x := r4) (y := r12) (tgt := 63) hx hb dL_isForetoldSo_38 (by decide) (fun c38 => ?_) (fun c38 => ?_)
      · rw [if_pos c38] at hw
        refine lv_iconst (v := 0) hx hb dL_isForetoldSo_63 (by decide) ?_
        refine W.widen (k := 4) (n := 24) (by omega) (by omega) ?_
        exact q_zret (v := false) hx hb hr hP hF hS hw dL_isForetoldSo_64 hlocks
      · rw [if_neg c38] at hw
        refine W.widen (k := 0 + 3) (n := 0 + 6 * (0 + 3)) (by omega) (by omega) ?_
        exact j41 (0 + 3) (by omega) S21 r4 r12 r21 _ _ _ hw hP hF hS (lv_sub hl [2, 1, 0] rfl)
