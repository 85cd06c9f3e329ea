set_option maxHeartbeats 4000000 in
set_option maxRecDepth 100000 in
theorem c_X2_startAgain (l : Launch) (D : va_G) (cy : Nat → ClassId) (b0 : Nat) (S : St) (x1 : Int32) (x2 : Int32)  (P : St → Prop) (hw : wp_X2_startAgain S x1 x2 P) : Met l yX2_startAgain wsX2_startAgain rm_X2_startAgain (va_Pc [.ref (b0 + 1), .int x1, .int x2] (Wd D cy b0 NALL S)) (QC (Pv P) (Wb D cy b0 NALL) b0) 0 0 (AA b0) := by
  refine Met.ofW (cc := cX2_startAgain) (maxL := 3) (ret := none) (by decide) rfl ?_
  intro p e s m args below meth c s₁ B hml hv
  obtain ⟨hargs, hW, hP, hF⟩ := hv
  have hx := B.exec
  have hb := B.bytes
  have hr := B.returns
  have hts := atoms_spec (ws := wsX2_startAgain) B.pre
  have hown : s.vm.findClass RX2 = some m.cls := findClass_of_methodNamed B.named
  have hlocks := B.notSynchronized
  have hK := hW.1
  have hS : va_S (AA b0) s.heap s.heap [] := va_S.rf
  have hE : entryFrame m args 3 = F0 m 0 ((lg_sl [.ref (b0 + 1), .int x1, .int x2] ++ List.replicate (3 - (lg_sl [.ref (b0 + 1), .int x1, .int x2]).length) Slot.unset).toArray) [] := by rw [hargs]; exact lg_entry_eq m _ _
  rw [hE]
  have hl := lv_entry [.ref (b0 + 1), .int x1, .int x2] (n := 3) (Nat.le_of_ble_eq_true rfl)
  generalize (lg_sl [.ref (b0 + 1), .int x1, .int x2] ++ List.replicate (3 - (lg_sl [.ref (b0 + 1), .int x1, .int x2]).length) Slot.unset).toArray = ls at hl ⊢
  have hl : lv_has ls 3 [(0, .ref (b0 + 1)), (1, .int x1), (2, .int x2)] := hl
  unfold wp_X2_startAgain at hw
  refine lv_aload_n hx hb dX2_startAgain_0 rfl (lv_at hl 0 rfl) ?_
  refine lv_iload_n hx hb dX2_startAgain_1 rfl (lv_at hl 1 rfl) ?_
  refine pf_2_0 (k := 1) (x := x1) hx hb hts (by decide +kernel) hown hK hP hS (by decide) (kk_1) (hts (.fieldLink RX2 9 "Opticmesh$Network" "nodeCount" "I") (by decide +kernel)) dX2_startAgain_2 (fun H locs hz hP hS => ?_)
  have hF : Fx (sI S 1 0 x1) := Fx.sI hF _ _ _
  generalize eS2 : sI S 1 0 x1 = S2 at hP hF
  have hw := hw S2 eS2.symm
  refine lv_aload_n hx hb dX2_startAgain_5 rfl (lv_at hl 0 rfl) ?_
  refine lv_iload_n hx hb dX2_startAgain_6 rfl (lv_at hl 2 rfl) ?_
  refine pf_2_1 (k := 1) (x := x2) hx hb hts (by decide +kernel) hown hK hP hS (by decide) (kk_1) (hts (.fieldLink RX2 15 "Opticmesh$Network" "wavelengthCount" "I") (by decide +kernel)) dX2_startAgain_7 (fun H locs hz hP hS => ?_)
  have hF : Fx (sI S2 1 1 x2) := Fx.sI hF _ _ _
  generalize eS7 : sI S2 1 1 x2 = S7 at hP hF
  have hw := hw S7 eS7.symm
  refine lv_aload_n hx hb dX2_startAgain_10 rfl (lv_at hl 0 rfl) ?_
  refine lv_iconst (v := 0) hx hb dX2_startAgain_11 (by decide) ?_
  refine pf_2_2 (k := 1) (x := 0) hx hb hts (by decide +kernel) hown hK hP hS (by decide) (kk_1) (hts (.fieldLink RX2 28 "Opticmesh$Network" "fibreCount" "I") (by decide +kernel)) dX2_startAgain_12 (fun H locs hz hP hS => ?_)
  have hF : Fx (sI S7 1 2 0) := Fx.sI hF _ _ _
  generalize eS12 : sI S7 1 2 0 = S12 at hP hF
  have hw := hw S12 eS12.symm
  refine lv_aload_n hx hb dX2_startAgain_15 rfl (lv_at hl 0 rfl) ?_
  refine lv_iconst (v := 0) hx hb dX2_startAgain_16 (by decide) ?_
  refine pf_2_3 (k := 1) (x := 0) hx hb hts (by decide +kernel) hown hK hP hS (by decide) (kk_1) (hts (.fieldLink RX2 31 "Opticmesh$Network" "converters" "I") (by decide +kernel)) dX2_startAgain_17 (fun H locs hz hP hS => ?_)
  have hF : Fx (sI S12 1 3 0) := Fx.sI hF _ _ _
  generalize eS17 : sI S12 1 3 0 = S17 at hP hF
  have hw := hw S17 eS17.symm
  refine lv_aload_n hx hb dX2_startAgain_20 rfl (lv_at hl 0 rfl) ?_
  refine lv_iconst (v := 0) hx hb dX2_startAgain_21 (by decide) ?_
  refine pf_2_4 (k := 1) (x := 0) hx hb hts (by decide +kernel) hown hK hP hS (by decide) (kk_1) (hts (.fieldLink RX2 34 "Opticmesh$Network" "cutFibres" "I") (by decide +kernel)) dX2_startAgain_22 (fun H locs hz hP hS => ?_)
  have hF : Fx (sI S17 1 4 0) := Fx.sI hF _ _ _
  generalize eS22 : sI S17 1 4 0 = S22 at hP hF
  have hw := hw S22 eS22.symm
  exact q_vret hx hb hr hP hF hS hw dX2_startAgain_25 hlocks
set_option maxHeartbeats 4000000 in
set_option maxRecDepth 100000 in
theorem c_X2_join (l : Launch) (D : va_G) (cy : Nat → ClassId) (b0 : Nat) (S : St) (x1 : Int32) (x2 : Int32) (x3 : Int32)  (P : Int32 → St → Prop) (hw : wp_X2_join S x1 x2 x3 P) : Met l yX2_join wsX2_join rm_X2_join (va_Pc [.ref (b0 + 1), .int x1, .int x2, .int x3] (Wd D cy b0 NALL S)) (QC (Pi P) (Wb D cy b0 NALL) b0) 0 0 (AA b0) := by
  refine Met.ofW (cc := cX2_join) (maxL := 5) (ret := (some .int)) (by decide) rfl ?_
  intro p e s m args below meth c s₁ B hml hv
  obtain ⟨hargs, hW, hP, hF⟩ := hv
  have hx := B.exec
  have hb := B.bytes
  have hr := B.returns
  have hts := atoms_spec (ws := wsX2_join) B.pre
  have hown : s.vm.findClass RX2 = some m.cls := findClass_of_methodNamed B.named
  have hlocks := B.notSynchronized
  have hK := hW.1
  have hS : va_S (AA b0) s.heap s.heap [] := va_S.rf
  have hE : entryFrame m args 5 = F0 m 0 ((lg_sl [.ref (b0 + 1), .int x1, .int x2, .int x3] ++ List.replicate (5 - (lg_sl [.ref (b0 + 1), .int x1, .int x2, .int x3]).length) Slot.unset).toArray) [] := by rw [hargs]; exact lg_entry_eq m _ _
  rw [hE]
  have hl := lv_entry [.ref (b0 + 1), .int x1, .int x2, .int x3] (n := 5) (Nat.le_of_ble_eq_true rfl)
  generalize (lg_sl [.ref (b0 + 1), .int x1, .int x2, .int x3] ++ List.replicate (5 - (lg_sl [.ref (b0 + 1), .int x1, .int x2, .int x3]).length) Slot.unset).toArray = ls at hl ⊢
  have hl : lv_has ls 5 [(0, .ref (b0 + 1)), (1, .int x1), (2, .int x2), (3, .int x3)] := hl
  unfold wp_X2_join at hw
  refine lv_aload_n hx hb dX2_join_0 rfl (lv_at hl 0 rfl) ?_
  refine gf_2_2 (k := 1) hx hb hts (by decide +kernel) hown hK hP (by decide) (kk_1) (hts (.fieldLink RX2 28 "Opticmesh$Network" "fibreCount" "I") (by decide +kernel)) dX2_join_1 ?_
  refine lv_topi (fun y4 e4 => ?_)
  have hw := hw y4 e4
  refine lv_istore (lv' := [(4, .int y4), (0, .ref (b0 + 1)), (1, .int x1), (2, .int x2), (3, .int x3)]) hx hb dX2_join_4 hl (by decide) rfl (fun ls hl => ?_)
  refine lv_iload hx hb dX2_join_6 (lv_at hl 0 rfl) ?_
  refine lv_bipush (v := 14) hx hb dX2_join_8 (by decide) ?_
  refine lv_icmp_lt (x := y4) (y := 14) (tgt := 15) hx hb dX2_join_10 (by decide) (fun c10 => ?_) (fun c10 => ?_)
  · rw [if_pos c10] at hw
    refine lv_aload_n hx hb dX2_join_15 rfl (lv_at hl 1 rfl) ?_
    refine gf_2_5 (k := 1) hx hb hts (by decide +kernel) hown hK hP (by decide) (kk_1) (q := 2) (hF.1 1 5 2 ff_1_5) (hts (.fieldLink RX2 18 "Opticmesh$Network" "ones" "[I") (by decide +kernel)) dX2_join_16 ?_
    refine lv_iload hx hb dX2_join_19 (lv_at hl 0 rfl) ?_
    refine lv_iload_n hx hb dX2_join_21 rfl (lv_at hl 2 rfl) ?_
    obtain ⟨h22, hw⟩ := hw
    refine q_iast (k := 2) (n := 14) (i := y4) (x := x1) hx hb hK hP hS (by decide) (kk_2) (ll_2) h22 dX2_join_22 (fun H locs hz hP hS => ?_)
    have hF : Fx (sI S 2 (y4.toNatClampNeg) x1) := Fx.sI hF _ _ _
    generalize eS22 : sI S 2 (y4.toNatClampNeg) x1 = S22 at hP hF
    have hw := hw S22 eS22.symm
    refine lv_aload_n hx hb dX2_join_23 rfl (lv_at hl 1 rfl) ?_
    refine gf_2_6 (k := 1) hx hb hts (by decide +kernel) hown hK hP (by decide) (kk_1) (q := 3) (hF.1 1 6 3 ff_1_6) (hts (.fieldLink RX2 22 "Opticmesh$Network" "others" "[I") (by decide +kernel)) dX2_join_24 ?_
    refine lv_iload hx hb dX2_join_27 (lv_at hl 0 rfl) ?_
    refine lv_iload_n hx hb dX2_join_29 rfl (lv_at hl 3 rfl) ?_
    obtain ⟨h30, hw⟩ := hw
    refine q_iast (k := 3) (n := 14) (i := y4) (x := x2) hx hb hK hP hS (by decide) (kk_3) (ll_3) h30 dX2_join_30 (fun H locs hz hP hS => ?_)
    have hF : Fx (sI S22 3 (y4.toNatClampNeg) x2) := Fx.sI hF _ _ _
    generalize eS30 : sI S22 3 (y4.toNatClampNeg) x2 = S30 at hP hF
    have hw := hw S30 eS30.symm
    refine lv_aload_n hx hb dX2_join_31 rfl (lv_at hl 1 rfl) ?_
    refine gf_2_7 (k := 1) hx hb hts (by decide +kernel) hown hK hP (by decide) (kk_1) (q := 4) (hF.1 1 7 4 ff_1_7) (hts (.fieldLink RX2 25 "Opticmesh$Network" "lengths" "[I") (by decide +kernel)) dX2_join_32 ?_
    refine lv_iload hx hb dX2_join_35 (lv_at hl 0 rfl) ?_
    refine lv_iload_n hx hb dX2_join_37 rfl (lv_at hl 4 rfl) ?_
    obtain ⟨h38, hw⟩ := hw
    refine q_iast (k := 4) (n := 14) (i := y4) (x := x3) hx hb hK hP hS (by decide) (kk_4) (ll_4) h38 dX2_join_38 (fun H locs hz hP hS => ?_)
    have hF : Fx (sI S30 4 (y4.toNatClampNeg) x3) := Fx.sI hF _ _ _
    generalize eS38 : sI S30 4 (y4.toNatClampNeg) x3 = S38 at hP hF
    have hw := hw S38 eS38.symm
    refine lv_aload_n hx hb dX2_join_39 rfl (lv_at hl 1 rfl) ?_
    refine lv_dup hx hb dX2_join_40 rfl ?_
    refine gf_2_2 (k := 1) hx hb hts (by decide +kernel) hown hK hP (by decide) (kk_1) (hts (.fieldLink RX2 28 "Opticmesh$Network" "fibreCount" "I") (by decide +kernel)) dX2_join_41 ?_
    refine lv_iconst (v := 1) hx hb dX2_join_44 (by decide) ?_
    refine lv_iadd hx hb dX2_join_45 ?_
    refine pf_2_2 (k := 1) (x := ((gI S38 1 2) + 1)) hx hb hts (by decide +kernel) hown hK hP hS (by decide) (kk_1) (hts (.fieldLink RX2 28 "Opticmesh$Network" "fibreCount" "I") (by decide +kernel)) dX2_join_46 (fun H locs hz hP hS => ?_)
    have hF : Fx (sI S38 1 2 ((gI S38 1 2) + 1)) := Fx.sI hF _ _ _
    generalize eS46 : sI S38 1 2 ((gI S38 1 2) + 1) = S46 at hP hF
    have hw := hw S46 eS46.symm
    refine lv_iload hx hb dX2_join_49 (lv_at hl 0 rfl) ?_
    exact q_iret hx hb hr hP hF hS hw dX2_join_51 hlocks
  · rw [if_neg c10] at hw
    refine lv_iconst (v := (-1)) hx hb dX2_join_13 (by decide) ?_
    exact q_iret hx hb hr hP hF hS hw dX2_join_14 hlocks
set_option maxHeartbeats 4000000 in
set_option maxRecDepth 100000 in
theorem c_X2_hasNode (l : Launch) (D : va_G) (cy : Nat → ClassId) (b0 : Nat) (S : St) (x1 : Int32)  (P : Bool → St → Prop) (hw : wp_X2_hasNode S x1 P) : Met l yX2_hasNode wsX2_hasNode rm_X2_hasNode (va_Pc [.ref (b0 + 1), .int x1] (Wd D cy b0 NALL S)) (QC (Pz P) (Wb D cy b0 NALL) b0) 0 0 (AA b0) := by
  refine Met.ofW (cc := cX2_hasNode) (maxL := 2) (ret := (some .boolean)) (by decide) rfl ?_
  intro p e s m args below meth c s₁ B hml hv
  obtain ⟨hargs, hW, hP, hF⟩ := hv
  have hx := B.exec
  have hb := B.bytes
  have hr := B.returns
  have hts := atoms_spec (ws := wsX2_hasNode) B.pre
  have hown : s.vm.findClass RX2 = some m.cls := findClass_of_methodNamed B.named
  have hlocks := B.notSynchronized
  have hK := hW.1
  have hS : va_S (AA b0) s.heap s.heap [] := va_S.rf
  have hE : entryFrame m args 2 = F0 m 0 ((lg_sl [.ref (b0 + 1), .int x1] ++ List.replicate (2 - (lg_sl [.ref (b0 + 1), .int x1]).length) Slot.unset).toArray) [] := by rw [hargs]; exact lg_entry_eq m _ _
  rw [hE]
  have hl := lv_entry [.ref (b0 + 1), .int x1] (n := 2) (Nat.le_of_ble_eq_true rfl)
  generalize (lg_sl [.ref (b0 + 1), .int x1] ++ List.replicate (2 - (lg_sl [.ref (b0 + 1), .int x1]).length) Slot.unset).toArray = ls at hl ⊢
  have hl : lv_has ls 2 [(0, .ref (b0 + 1)), (1, .int x1)] := hl
  unfold wp_X2_hasNode at hw
  refine lv_iload_n hx hb dX2_hasNode_0 rfl (lv_at hl 1 rfl) ?_
  refine lv_if_lt (x := x1) (tgt := 16) hx hb dX2_hasNode_1 (by decide) (fun c1 => ?_) (fun c1 => ?_)
  · rw [if_pos c1] at hw
    refine lv_iconst (v := 0) hx hb dX2_hasNode_16 (by decide) ?_
    exact q_zret (v := false) hx hb hr hP hF hS hw dX2_hasNode_17 hlocks
  · rw [if_neg c1] at hw
    refine lv_iload_n hx hb dX2_hasNode_4 rfl (lv_at hl 1 rfl) ?_
    refine lv_aload_n hx hb dX2_hasNode_5 rfl (lv_at hl 0 rfl) ?_
    refine gf_2_0 (k := 1) hx hb hts (by decide +kernel) hown hK hP (by decide) (kk_1) (hts (.fieldLink RX2 9 "Opticmesh$Network" "nodeCount" "I") (by decide +kernel)) dX2_hasNode_6 ?_
    refine lv_icmp_ge (x := x1) (y := (gI S 1 0)) (tgt := 16) hx hb dX2_hasNode_9 (by decide) (fun c9 => ?_) (fun c9 => ?_)
    · rw [if_pos c9] at hw
      refine lv_iconst (v := 0) hx hb dX2_hasNode_16 (by decide) ?_
      exact q_zret (v := false) hx hb hr hP hF hS hw dX2_hasNode_17 hlocks
    · rw [if_neg c9] at hw
      refine lv_iconst (v := 1) hx hb dX2_hasNode_12 (by decide) ?_
      refine lv_goto (tgt := 17) hx hb dX2_hasNode_13 (by decide) ?_
      exact q_zret (v := true) hx hb hr hP hF hS hw dX2_hasNode_17 hlocks
set_option maxHeartbeats 4000000 in
set_option maxRecDepth 100000 in
theorem c_X2_isCut (l : Launch) (D : va_G) (cy : Nat → ClassId) (b0 : Nat) (S : St) (x1 : Int32)  (P : Bool → St → Prop) (hw : wp_X2_isCut S x1 P) : Met l yX2_isCut wsX2_isCut rm_X2_isCut (va_Pc [.ref (b0 + 1), .int x1] (Wd D cy b0 NALL S)) (QC (Pz P) (Wb D cy b0 NALL) b0) 0 0 (AA b0) := by
  refine Met.ofW (cc := cX2_isCut) (maxL := 2) (ret := (some .boolean)) (by decide) rfl ?_
  intro p e s m args below meth c s₁ B hml hv
  obtain ⟨hargs, hW, hP, hF⟩ := hv
  have hx := B.exec
  have hb := B.bytes
  have hr := B.returns
  have hts := atoms_spec (ws := wsX2_isCut) B.pre
  have hown : s.vm.findClass RX2 = some m.cls := findClass_of_methodNamed B.named
  have hlocks := B.notSynchronized
  have hK := hW.1
  have hS : va_S (AA b0) s.heap s.heap [] := va_S.rf
  have hE : entryFrame m args 2 = F0 m 0 ((lg_sl [.ref (b0 + 1), .int x1] ++ List.replicate (2 - (lg_sl [.ref (b0 + 1), .int x1]).length) Slot.unset).toArray) [] := by rw [hargs]; exact lg_entry_eq m _ _
  rw [hE]
  have hl := lv_entry [.ref (b0 + 1), .int x1] (n := 2) (Nat.le_of_ble_eq_true rfl)
  generalize (lg_sl [.ref (b0 + 1), .int x1] ++ List.replicate (2 - (lg_sl [.ref (b0 + 1), .int x1]).length) Slot.unset).toArray = ls at hl ⊢
  have hl : lv_has ls 2 [(0, .ref (b0 + 1)), (1, .int x1)] := hl
  unfold wp_X2_isCut at hw
  refine lv_aload_n hx hb dX2_isCut_0 rfl (lv_at hl 0 rfl) ?_
  refine gf_2_4 (k := 1) hx hb hts (by decide +kernel) hown hK hP (by decide) (kk_1) (hts (.fieldLink RX2 34 "Opticmesh$Network" "cutFibres" "I") (by decide +kernel)) dX2_isCut_1 ?_
  refine lv_iload_n hx hb dX2_isCut_4 rfl (lv_at hl 1 rfl) ?_
  refine lv_ishr hx hb dX2_isCut_5 ?_
  refine lv_iconst (v := 1) hx hb dX2_isCut_6 (by decide) ?_
  refine lv_iand hx hb dX2_isCut_7 ?_
  refine lv_if_eq (x := (((gI S 1 4) >>> (x1 &&& 31)) &&& 1)) (tgt := 15) hx hb dX2_isCut_8 (by decide) (fun c8 => ?_) (fun c8 => ?_)
  · rw [if_pos c8] at hw
    refine lv_iconst (v := 0) hx hb dX2_isCut_15 (by decide) ?_
    exact q_zret (v := false) hx hb hr hP hF hS hw dX2_isCut_16 hlocks
  · rw [if_neg c8] at hw
    refine lv_iconst (v := 1) hx hb dX2_isCut_11 (by decide) ?_
    refine lv_goto (tgt := 16) hx hb dX2_isCut_12 (by decide) ?_
    exact q_zret (v := true) hx hb hr hP hF hS hw dX2_isCut_16 hlocks
set_option maxHeartbeats 4000000 in
set_option maxRecDepth 100000 in
theorem c_X2_hasFibre (l : Launch) (D : va_G) (cy : Nat → ClassId) (b0 : Nat) (S : St) (x1 : Int32)  (P : Bool → St → Prop) (hw : wp_X2_hasFibre S x1 P) : Met l yX2_hasFibre wsX2_hasFibre rm_X2_hasFibre (va_Pc [.ref (b0 + 1), .int x1] (Wd D cy b0 NALL S)) (QC (Pz P) (Wb D cy b0 NALL) b0) 0 0 (AA b0) := by
  refine Met.ofW (cc := cX2_hasFibre) (maxL := 2) (ret := (some .boolean)) (by decide) rfl ?_
  intro p e s m args below meth c s₁ B hml hv
  obtain ⟨hargs, hW, hP, hF⟩ := hv
  have hx := B.exec
  have hb := B.bytes
  have hr := B.returns
  have hts := atoms_spec (ws := wsX2_hasFibre) B.pre
  have hown : s.vm.findClass RX2 = some m.cls := findClass_of_methodNamed B.named
  have hlocks := B.notSynchronized
  have hK := hW.1
  have hS : va_S (AA b0) s.heap s.heap [] := va_S.rf
  have hE : entryFrame m args 2 = F0 m 0 ((lg_sl [.ref (b0 + 1), .int x1] ++ List.replicate (2 - (lg_sl [.ref (b0 + 1), .int x1]).length) Slot.unset).toArray) [] := by rw [hargs]; exact lg_entry_eq m _ _
  rw [hE]
  have hl := lv_entry [.ref (b0 + 1), .int x1] (n := 2) (Nat.le_of_ble_eq_true rfl)
  generalize (lg_sl [.ref (b0 + 1), .int x1] ++ List.replicate (2 - (lg_sl [.ref (b0 + 1), .int x1]).length) Slot.unset).toArray = ls at hl ⊢
  have hl : lv_has ls 2 [(0, .ref (b0 + 1)), (1, .int x1)] := hl
  unfold wp_X2_hasFibre at hw
  refine lv_iload_n hx hb dX2_hasFibre_0 rfl (lv_at hl 1 rfl) ?_
  refine lv_if_lt (x := x1) (tgt := 16) hx hb dX2_hasFibre_1 (by decide) (fun c1 => ?_) (fun c1 => ?_)
  · rw [if_pos c1] at hw
    refine lv_iconst (v := 0) hx hb dX2_hasFibre_16 (by decide) ?_
    exact q_zret (v := false) hx hb hr hP hF hS hw dX2_hasFibre_17 hlocks
  · rw [if_neg c1] at hw
    refine lv_iload_n hx hb dX2_hasFibre_4 rfl (lv_at hl 1 rfl) ?_
    refine lv_aload_n hx hb dX2_hasFibre_5 rfl (lv_at hl 0 rfl) ?_
    refine gf_2_2 (k := 1) hx hb hts (by decide +kernel) hown hK hP (by decide) (kk_1) (hts (.fieldLink RX2 28 "Opticmesh$Network" "fibreCount" "I") (by decide +kernel)) dX2_hasFibre_6 ?_
    refine lv_icmp_ge (x := x1) (y := (gI S 1 2)) (tgt := 16) hx hb dX2_hasFibre_9 (by decide) (fun c9 => ?_) (fun c9 => ?_)
    · rw [if_pos c9] at hw
      refine lv_iconst (v := 0) hx hb dX2_hasFibre_16 (by decide) ?_
      exact q_zret (v := false) hx hb hr hP hF hS hw dX2_hasFibre_17 hlocks
    · rw [if_neg c9] at hw
      refine lv_iconst (v := 1) hx hb dX2_hasFibre_12 (by decide) ?_
      refine lv_goto (tgt := 17) hx hb dX2_hasFibre_13 (by decide) ?_
      exact q_zret (v := true) hx hb hr hP hF hS hw dX2_hasFibre_17 hlocks
set_option maxHeartbeats 4000000 in
set_option maxRecDepth 100000 in
theorem c_X2_acrossFrom (l : Launch) (D : va_G) (cy : Nat → ClassId) (b0 : Nat) (S : St) (x1 : Int32) (x2 : Int32)  (P : Int32 → St → Prop) (hw : wp_X2_acrossFrom S x1 x2 P) : Met l yX2_acrossFrom wsX2_acrossFrom rm_X2_acrossFrom (va_Pc [.ref (b0 + 1), .int x1, .int x2] (Wd D cy b0 NALL S)) (QC (Pi P) (Wb D cy b0 NALL) b0) 0 0 (AA b0) := by
  refine Met.ofW (cc := cX2_acrossFrom) (maxL := 3) (ret := (some .int)) (by decide) rfl ?_
  intro p e s m args below meth c s₁ B hml hv
  obtain ⟨hargs, hW, hP, hF⟩ := hv
  have hx := B.exec
  have hb := B.bytes
  have hr := B.returns
  have hts := atoms_spec (ws := wsX2_acrossFrom) B.pre
  have hown : s.vm.findClass RX2 = some m.cls := findClass_of_methodNamed B.named
  have hlocks := B.notSynchronized
  have hK := hW.1
  have hS : va_S (AA b0) s.heap s.heap [] := va_S.rf
  have hE : entryFrame m args 3 = F0 m 0 ((lg_sl [.ref (b0 + 1), .int x1, .int x2] ++ List.replicate (3 - (lg_sl [.ref (b0 + 1), .int x1, .int x2]).length) Slot.unset).toArray) [] := by rw [hargs]; exact lg_entry_eq m _ _
  rw [hE]
  have hl := lv_entry [.ref (b0 + 1), .int x1, .int x2] (n := 3) (Nat.le_of_ble_eq_true rfl)
  generalize (lg_sl [.ref (b0 + 1), .int x1, .int x2] ++ List.replicate (3 - (lg_sl [.ref (b0 + 1), .int x1, .int x2]).length) Slot.unset).toArray = ls at hl ⊢
  have hl : lv_has ls 3 [(0, .ref (b0 + 1)), (1, .int x1), (2, .int x2)] := hl
  unfold wp_X2_acrossFrom at hw
  refine lv_aload_n hx hb dX2_acrossFrom_0 rfl (lv_at hl 0 rfl) ?_
  refine lv_iload_n hx hb dX2_acrossFrom_1 rfl (lv_at hl 2 rfl) ?_
  refine q_call (va_runV (As := [.int x2]) (rest := []) ⟨hx, hb, hml, hown, hts⟩ (c_X2_hasFibre l D cy b0 S x2 _ hw) (cwV 1 hts gX2_acrossFrom_X2_hasFibre rfl rfl rfl (by decide +kernel) ⟨(Nat.le_of_ble_eq_true rfl), (Nat.le_of_ble_eq_true rfl)⟩) (q_pV hW hP hF hS (k := 1) (ci := 2) (by decide) (cell_2 (kk_1)) rfl [.int x2]) rfl rfl hl.1 rfl (lv_room (Nat.le_of_ble_eq_true rfl)) dX2_acrossFrom_2 ⟨(Nat.le_of_ble_eq_true rfl), (Nat.le_of_ble_eq_true rfl)⟩) hS (fun v2 S2 t2 H locs hh hp hB hz hk9 hS => ?_)
  obtain ⟨r2, rfl, hw⟩ := hp
  have hP : HP D cy b0 NALL S2 H := by rw [← hh]; exact hB.1
  have hF := hB.2
  try dsimp only at hw
  refine W.eq (g2 := F0 m 5 ls [.int (b2i r2)]) rfl ?_
  refine lv_if_ne (x := b2i r2) (tgt := 10) hx hb dX2_acrossFrom_5 (by decide) (fun c5 => ?_) (fun c5 => ?_)
  · have c5 := b2i_n c5
    rw [if_pos c5] at hw
    refine lv_aload_n hx hb dX2_acrossFrom_10 rfl (lv_at hl 0 rfl) ?_
    refine gf_2_5 (k := 1) hx hb hts (by decide +kernel) hown hK hP (by decide) (kk_1) (q := 2) (hF.1 1 5 2 ff_1_5) (hts (.fieldLink RX2 18 "Opticmesh$Network" "ones" "[I") (by decide +kernel)) dX2_acrossFrom_11 ?_
    refine lv_iload_n hx hb dX2_acrossFrom_14 rfl (lv_at hl 2 rfl) ?_
    obtain ⟨h15, hw⟩ := hw
    refine q_iald (k := 2) (n := 14) (i := x2) hx hb hK hP (by decide) (kk_2) (ll_2) h15 dX2_acrossFrom_15 ?_
    refine lv_iload_n hx hb dX2_acrossFrom_16 rfl (lv_at hl 1 rfl) ?_
    refine lv_icmp_ne (x := (gI S2 2 (x2.toNatClampNeg))) (y := x1) (tgt := 27) hx hb dX2_acrossFrom_17 (by decide) (fun c17 => ?_) (fun c17 => ?_)
    · rw [if_neg c17] at hw
      refine lv_aload_n hx hb dX2_acrossFrom_27 rfl (lv_at hl 0 rfl) ?_
      refine gf_2_6 (k := 1) hx hb hts (by decide +kernel) hown hK hP (by decide) (kk_1) (q := 3) (hF.1 1 6 3 ff_1_6) (hts (.fieldLink RX2 22 "Opticmesh$Network" "others" "[I") (by decide +kernel)) dX2_acrossFrom_28 ?_
      refine lv_iload_n hx hb dX2_acrossFrom_31 rfl (lv_at hl 2 rfl) ?_
      obtain ⟨h32, hw⟩ := hw
      refine q_iald (k := 3) (n := 14) (i := x2) hx hb hK hP (by decide) (kk_3) (ll_3) h32 dX2_acrossFrom_32 ?_
      refine lv_iload_n hx hb dX2_acrossFrom_33 rfl (lv_at hl 1 rfl) ?_
      refine lv_icmp_ne (x := (gI S2 3 (x2.toNatClampNeg))) (y := x1) (tgt := 46) hx hb dX2_acrossFrom_34 (by decide) (fun c34 => ?_) (fun c34 => ?_)
      · rw [if_neg c34] at hw
        refine lv_iconst (v := (-1)) hx hb dX2_acrossFrom_46 (by decide) ?_
        exact q_iret hx hb hr hP hF hS hw dX2_acrossFrom_47 hlocks
      · rw [if_pos c34] at hw
        refine lv_aload_n hx hb dX2_acrossFrom_37 rfl (lv_at hl 0 rfl) ?_
        refine gf_2_5 (k := 1) hx hb hts (by decide +kernel) hown hK hP (by decide) (kk_1) (q := 2) (hF.1 1 5 2 ff_1_5) (hts (.fieldLink RX2 18 "Opticmesh$Network" "ones" "[I") (by decide +kernel)) dX2_acrossFrom_38 ?_
        refine lv_iload_n hx hb dX2_acrossFrom_41 rfl (lv_at hl 2 rfl) ?_
        obtain ⟨h42, hw⟩ := hw
        refine q_iald (k := 2) (n := 14) (i := x2) hx hb hK hP (by decide) (kk_2) (ll_2) h42 dX2_acrossFrom_42 ?_
        refine lv_goto (tgt := 47) hx hb dX2_acrossFrom_43 (by decide) ?_
        exact q_iret hx hb hr hP hF hS hw dX2_acrossFrom_47 hlocks
    · rw [if_pos c17] at hw
      refine lv_aload_n hx hb dX2_acrossFrom_20 rfl (lv_at hl 0 rfl) ?_
      refine gf_2_6 (k := 1) hx hb hts (by decide +kernel) hown hK hP (by decide) (kk_1) (q := 3) (hF.1 1 6 3 ff_1_6) (hts (.fieldLink RX2 22 "Opticmesh$Network" "others" "[I") (by decide +kernel)) dX2_acrossFrom_21 ?_
      refine lv_iload_n hx hb dX2_acrossFrom_24 rfl (lv_at hl 2 rfl) ?_
      obtain ⟨h25, hw⟩ := hw
      refine q_iald (k := 3) (n := 14) (i := x2) hx hb hK hP (by decide) (kk_3) (ll_3) h25 dX2_acrossFrom_25 ?_
      exact q_iret hx hb hr hP hF hS hw dX2_acrossFrom_26 hlocks
  · have c5 := b2i_z c5
    rw [if_neg c5] at hw
    refine lv_iconst (v := (-1)) hx hb dX2_acrossFrom_8 (by decide) ?_
    exact q_iret hx hb hr hP hF hS hw dX2_acrossFrom_9 hlocks
set_option maxHeartbeats 4000000 in
set_option maxRecDepth 100000 in
theorem c_X2_lengthOf (l : Launch) (D : va_G) (cy : Nat → ClassId) (b0 : Nat) (S : St) (x1 : Int32)  (P : Int32 → St → Prop) (hw : wp_X2_lengthOf S x1 P) : Met l yX2_lengthOf wsX2_lengthOf rm_X2_lengthOf (va_Pc [.ref (b0 + 1), .int x1] (Wd D cy b0 NALL S)) (QC (Pi P) (Wb D cy b0 NALL) b0) 0 0 (AA b0) := by
  refine Met.ofW (cc := cX2_lengthOf) (maxL := 2) (ret := (some .int)) (by decide) rfl ?_
  intro p e s m args below meth c s₁ B hml hv
  obtain ⟨hargs, hW, hP, hF⟩ := hv
  have hx := B.exec
  have hb := B.bytes
  have hr := B.returns
  have hts := atoms_spec (ws := wsX2_lengthOf) B.pre
  have hown : s.vm.findClass RX2 = some m.cls := findClass_of_methodNamed B.named
  have hlocks := B.notSynchronized
  have hK := hW.1
  have hS : va_S (AA b0) s.heap s.heap [] := va_S.rf
  have hE : entryFrame m args 2 = F0 m 0 ((lg_sl [.ref (b0 + 1), .int x1] ++ List.replicate (2 - (lg_sl [.ref (b0 + 1), .int x1]).length) Slot.unset).toArray) [] := by rw [hargs]; exact lg_entry_eq m _ _
  rw [hE]
  have hl := lv_entry [.ref (b0 + 1), .int x1] (n := 2) (Nat.le_of_ble_eq_true rfl)
  generalize (lg_sl [.ref (b0 + 1), .int x1] ++ List.replicate (2 - (lg_sl [.ref (b0 + 1), .int x1]).length) Slot.unset).toArray = ls at hl ⊢
  have hl : lv_has ls 2 [(0, .ref (b0 + 1)), (1, .int x1)] := hl
  unfold wp_X2_lengthOf at hw
  refine lv_aload_n hx hb dX2_lengthOf_0 rfl (lv_at hl 0 rfl) ?_
  refine lv_iload_n hx hb dX2_lengthOf_1 rfl (lv_at hl 1 rfl) ?_
  refine q_call (va_runV (As := [.int x1]) (rest := []) ⟨hx, hb, hml, hown, hts⟩ (c_X2_hasFibre l D cy b0 S x1 _ hw) (cwV 1 hts gX2_lengthOf_X2_hasFibre rfl rfl rfl (by decide +kernel) ⟨(Nat.le_of_ble_eq_true rfl), (Nat.le_of_ble_eq_true rfl)⟩) (q_pV hW hP hF hS (k := 1) (ci := 2) (by decide) (cell_2 (kk_1)) rfl [.int x1]) rfl rfl hl.1 rfl (lv_room (Nat.le_of_ble_eq_true rfl)) dX2_lengthOf_2 ⟨(Nat.le_of_ble_eq_true rfl), (Nat.le_of_ble_eq_true rfl)⟩) hS (fun v2 S2 t2 H locs hh hp hB hz hk9 hS => ?_)
  obtain ⟨r2, rfl, hw⟩ := hp
  have hP : HP D cy b0 NALL S2 H := by rw [← hh]; exact hB.1
  have hF := hB.2
  try dsimp only at hw
  refine W.eq (g2 := F0 m 5 ls [.int (b2i r2)]) rfl ?_
  refine lv_if_eq (x := b2i r2) (tgt := 17) hx hb dX2_lengthOf_5 (by decide) (fun c5 => ?_) (fun c5 => ?_)
  · have c5 := b2i_z c5
    rw [if_neg c5] at hw
    refine lv_iconst (v := 0) hx hb dX2_lengthOf_17 (by decide) ?_
    exact q_iret hx hb hr hP hF hS hw dX2_lengthOf_18 hlocks
  · have c5 := b2i_n c5
    rw [if_pos c5] at hw
    refine lv_aload_n hx hb dX2_lengthOf_8 rfl (lv_at hl 0 rfl) ?_
    refine gf_2_7 (k := 1) hx hb hts (by decide +kernel) hown hK hP (by decide) (kk_1) (q := 4) (hF.1 1 7 4 ff_1_7) (hts (.fieldLink RX2 25 "Opticmesh$Network" "lengths" "[I") (by decide +kernel)) dX2_lengthOf_9 ?_
    refine lv_iload_n hx hb dX2_lengthOf_12 rfl (lv_at hl 1 rfl) ?_
    obtain ⟨h13, hw⟩ := hw
    refine q_iald (k := 4) (n := 14) (i := x1) hx hb hK hP (by decide) (kk_4) (ll_4) h13 dX2_lengthOf_13 ?_
    refine lv_goto (tgt := 18) hx hb dX2_lengthOf_14 (by decide) ?_
    exact q_iret hx hb hr hP hF hS hw dX2_lengthOf_18 hlocks
set_option maxHeartbeats 4000000 in
set_option maxRecDepth 100000 in
theorem c_X3_channelAt (l : Launch) (D : va_G) (cy : Nat → ClassId) (b0 : Nat) (S : St) (k : Nat) (x1 : Int32) (hk : kd k = 3) (P : Int32 → St → Prop) (hw : wp_X3_channelAt S k x1 P) : Met l yX3_channelAt wsX3_channelAt rm_X3_channelAt (va_Pc [.ref (b0 + k), .int x1] (Wd D cy b0 NALL S)) (QC (Pi P) (Wb D cy b0 NALL) b0) 0 0 (AA b0) := by
  refine Met.ofW (cc := cX3_channelAt) (maxL := 2) (ret := (some .int)) (by decide) rfl ?_
  intro p e s m args below meth c s₁ B hml hv
  obtain ⟨hargs, hW, hP, hF⟩ := hv
  have hx := B.exec
  have hb := B.bytes
  have hr := B.returns
  have hts := atoms_spec (ws := wsX3_channelAt) B.pre
  have hown : s.vm.findClass RX3 = some m.cls := findClass_of_methodNamed B.named
  have hlocks := B.notSynchronized
  have hK := hW.1
  have hS : va_S (AA b0) s.heap s.heap [] := va_S.rf
  have hE : entryFrame m args 2 = F0 m 0 ((lg_sl [.ref (b0 + k), .int x1] ++ List.replicate (2 - (lg_sl [.ref (b0 + k), .int x1]).length) Slot.unset).toArray) [] := by rw [hargs]; exact lg_entry_eq m _ _
  rw [hE]
  have hl := lv_entry [.ref (b0 + k), .int x1] (n := 2) (Nat.le_of_ble_eq_true rfl)
  generalize (lg_sl [.ref (b0 + k), .int x1] ++ List.replicate (2 - (lg_sl [.ref (b0 + k), .int x1]).length) Slot.unset).toArray = ls at hl ⊢
  have hl : lv_has ls 2 [(0, .ref (b0 + k)), (1, .int x1)] := hl
  unfold wp_X3_channelAt at hw
  refine lv_aload_n hx hb dX3_channelAt_0 rfl (lv_at hl 0 rfl) ?_
  refine gf_3_4 (k := k) hx hb hts (by decide +kernel) hown hK hP (kd_N hk (by decide)) hk (hts (.fieldLink RX3 22 "Opticmesh$Way" "channelBytes" "J") (by decide +kernel)) dX3_channelAt_1 ?_
  refine lv_bipush (v := 8) hx hb dX3_channelAt_4 (by decide) ?_
  refine lv_aload_n hx hb dX3_channelAt_6 rfl (lv_at hl 0 rfl) ?_
  refine gf_3_0 (k := k) hx hb hts (by decide +kernel) hown hK hP (kd_N hk (by decide)) hk (hts (.fieldLink RX3 7 "Opticmesh$Way" "count" "I") (by decide +kernel)) dX3_channelAt_7 ?_
  refine lv_iconst (v := 1) hx hb dX3_channelAt_10 (by decide) ?_
  refine lv_isub hx hb dX3_channelAt_11 ?_
  refine lv_iload_n hx hb dX3_channelAt_12 rfl (lv_at hl 1 rfl) ?_
  refine lv_isub hx hb dX3_channelAt_13 ?_
  refine lv_imul hx hb dX3_channelAt_14 ?_
  refine lv_lshr hx hb dX3_channelAt_15 (v := ((gJ S k 4) >>> (Int32.toInt64 (8 * (((gI S k 0) - 1) - x1)) &&& 63))) rfl ?_
  refine lv_l2i hx hb dX3_channelAt_16 (v := ((gJ S k 4) >>> (Int32.toInt64 (8 * (((gI S k 0) - 1) - x1)) &&& 63)).toInt32) rfl ?_
  refine lv_sipush (v := 255) hx hb dX3_channelAt_17 (by decide) ?_
  refine lv_iand hx hb dX3_channelAt_20 ?_
  exact q_iret hx hb hr hP hF hS hw dX3_channelAt_21 hlocks
set_option maxHeartbeats 4000000 in
set_option maxRecDepth 100000 in
theorem c_X3_uses (l : Launch) (D : va_G) (cy : Nat → ClassId) (b0 : Nat) (S : St) (k : Nat) (x1 : Int32) (hk : kd k = 3) (P : Bool → St → Prop) (hw : wp_X3_uses S k x1 P) : Met l yX3_uses wsX3_uses rm_X3_uses (va_Pc [.ref (b0 + k), .int x1] (Wd D cy b0 NALL S)) (QC (Pz P) (Wb D cy b0 NALL) b0) 0 0 (AA b0) := by
  refine Met.ofW (cc := cX3_uses) (maxL := 2) (ret := (some .boolean)) (by decide) rfl ?_
  intro p e s m args below meth c s₁ B hml hv
  obtain ⟨hargs, hW, hP, hF⟩ := hv
  have hx := B.exec
  have hb := B.bytes
  have hr := B.returns
  have hts := atoms_spec (ws := wsX3_uses) B.pre
  have hown : s.vm.findClass RX3 = some m.cls := findClass_of_methodNamed B.named
  have hlocks := B.notSynchronized
  have hK := hW.1
  have hS : va_S (AA b0) s.heap s.heap [] := va_S.rf
  have hE : entryFrame m args 2 = F0 m 0 ((lg_sl [.ref (b0 + k), .int x1] ++ List.replicate (2 - (lg_sl [.ref (b0 + k), .int x1]).length) Slot.unset).toArray) [] := by rw [hargs]; exact lg_entry_eq m _ _
  rw [hE]
  have hl := lv_entry [.ref (b0 + k), .int x1] (n := 2) (Nat.le_of_ble_eq_true rfl)
  generalize (lg_sl [.ref (b0 + k), .int x1] ++ List.replicate (2 - (lg_sl [.ref (b0 + k), .int x1]).length) Slot.unset).toArray = ls at hl ⊢
  have hl : lv_has ls 2 [(0, .ref (b0 + k)), (1, .int x1)] := hl
  unfold wp_X3_uses at hw
  refine lv_aload_n hx hb dX3_uses_0 rfl (lv_at hl 0 rfl) ?_
  refine gf_3_3 (k := k) hx hb hts (by decide +kernel) hown hK hP (kd_N hk (by decide)) hk (hts (.fieldLink RX3 19 "Opticmesh$Way" "fibres" "I") (by decide +kernel)) dX3_uses_1 ?_
  refine lv_iload_n hx hb dX3_uses_4 rfl (lv_at hl 1 rfl) ?_
  refine lv_ishr hx hb dX3_uses_5 ?_
  refine lv_iconst (v := 1) hx hb dX3_uses_6 (by decide) ?_
  refine lv_iand hx hb dX3_uses_7 ?_
  refine lv_if_eq (x := (((gI S k 3) >>> (x1 &&& 31)) &&& 1)) (tgt := 15) hx hb dX3_uses_8 (by decide) (fun c8 => ?_) (fun c8 => ?_)
  · rw [if_pos c8] at hw
    refine lv_iconst (v := 0) hx hb dX3_uses_15 (by decide) ?_
    exact q_zret (v := false) hx hb hr hP hF hS hw dX3_uses_16 hlocks
  · rw [if_neg c8] at hw
    refine lv_iconst (v := 1) hx hb dX3_uses_11 (by decide) ?_
    refine lv_goto (tgt := 16) hx hb dX3_uses_12 (by decide) ?_
    exact q_zret (v := true) hx hb hr hP hF hS hw dX3_uses_16 hlocks
set_option maxHeartbeats 4000000 in
set_option maxRecDepth 100000 in
theorem c_X3_wavelengthsOn (l : Launch) (D : va_G) (cy : Nat → ClassId) (b0 : Nat) (S : St) (k : Nat) (x1 : Int32) (hk : kd k = 3) (P : Int32 → St → Prop) (hw : wp_X3_wavelengthsOn S k x1 P) : Met l yX3_wavelengthsOn wsX3_wavelengthsOn rm_X3_wavelengthsOn (va_Pc [.ref (b0 + k), .int x1] (Wd D cy b0 NALL S)) (QC (Pi P) (Wb D cy b0 NALL) b0) 0 0 (AA b0) := by
  refine Met.ofW (cc := cX3_wavelengthsOn) (maxL := 5) (ret := (some .int)) (by decide) rfl ?_
  intro p e s m args below meth c s₁ B hml hv
  obtain ⟨hargs, hW, hP, hF⟩ := hv
  have hx := B.exec
  have hb := B.bytes
  have hr := B.returns
  have hts := atoms_spec (ws := wsX3_wavelengthsOn) B.pre
  have hown : s.vm.findClass RX3 = some m.cls := findClass_of_methodNamed B.named
  have hlocks := B.notSynchronized
  have hK := hW.1
  have hS : va_S (AA b0) s.heap s.heap [] := va_S.rf
  have hE : entryFrame m args 5 = F0 m 0 ((lg_sl [.ref (b0 + k), .int x1] ++ List.replicate (5 - (lg_sl [.ref (b0 + k), .int x1]).length) Slot.unset).toArray) [] := by rw [hargs]; exact lg_entry_eq m _ _
  rw [hE]
  have hl := lv_entry [.ref (b0 + k), .int x1] (n := 5) (Nat.le_of_ble_eq_true rfl)
  generalize (lg_sl [.ref (b0 + k), .int x1] ++ List.replicate (5 - (lg_sl [.ref (b0 + k), .int x1]).length) Slot.unset).toArray = ls at hl ⊢
  have hl : lv_has ls 5 [(0, .ref (b0 + k)), (1, .int x1)] := hl
  have j14 : ∀ (n14 : Nat), ∀ (S : St) (a2 : Int32) (a3 : Int32), ∀ (H : Heap) (locs : List Loc) (ls : Array Slot), wp_X3_wavelengthsOn_14 k x1 P n14 S a2 a3 → HP D cy b0 NALL S H → Fx S → va_S (AA b0) s.heap H locs → lv_has ls 5 [(0, .ref (b0 + k)), (1, .int x1), (2, .int a2), (3, .int a3)] → W p l e rm_X3_wavelengthsOn s m args below meth c H locs 0 0 (MQ below (QC (Pi P) (Wb D cy b0 NALL) b0) args s 0 0 (AA b0)) (F0 m 14 ls []) := by
    intro n14
    induction n14 with
    | zero => intro S a2 a3  H locs ls hw _ _ _ _; exact False.elim hw
    | succ n14 ih14 =>
      have j48 : ∀ (S : St) (a2 : Int32) (a3 : Int32), ∀ (H : Heap) (locs : List Loc) (ls : Array Slot), wp_X3_wavelengthsOn_48 k x1 P (fun S a2 a3 => wp_X3_wavelengthsOn_14 k x1 P n14 S a2 a3) S a2 a3 → HP D cy b0 NALL S H → Fx S → va_S (AA b0) s.heap H locs → lv_has ls 5 [(0, .ref (b0 + k)), (1, .int x1), (2, .int a2), (3, .int a3)] → W p l e rm_X3_wavelengthsOn s m args below meth c H locs 0 0 (MQ below (QC (Pi P) (Wb D cy b0 NALL) b0) args s 0 0 (AA b0)) (F0 m 48 ls []) := by
        intro S a2 a3  H locs ls hw hP hF hS hl
        unfold wp_X3_wavelengthsOn_48 at hw
        obtain ⟨y48, e48⟩ : ∃ z : Int32, z = a3 + 1 := ⟨_, rfl⟩
        have hw := hw y48 e48
        refine lv_iinc (v := y48) (lv' := [(3, .int y48), (0, .ref (b0 + k)), (1, .int x1), (2, .int a2)]) hx hb dX3_wavelengthsOn_48 hl (k := 3) rfl (by rw [e48]; rfl) (by decide) rfl (fun ls hl => ?_)
        refine lv_goto (tgt := 14) hx hb dX3_wavelengthsOn_51 (by decide) ?_
        exact ih14 S a2 y48  _ _ _ hw hP hF hS (lv_sub hl [1, 2, 3, 0] rfl)
      intro S a2 a3  H locs ls hw hP hF hS hl
      rw [wp_X3_wavelengthsOn_14] at hw
      refine lv_iload_n hx hb dX3_wavelengthsOn_14 rfl (lv_at hl 3 rfl) ?_
      refine lv_aload_n hx hb dX3_wavelengthsOn_15 rfl (lv_at hl 0 rfl) ?_
      refine gf_3_0 (k := k) hx hb hts (by decide +kernel) hown hK hP (kd_N hk (by decide)) hk (hts (.fieldLink RX3 7 "Opticmesh$Way" "count" "I") (by decide +kernel)) dX3_wavelengthsOn_16 ?_
      refine lv_icmp_ge (x := a3) (y := (gI S k 0)) (tgt := 54) hx hb dX3_wavelengthsOn_19 (by decide) (fun c19 => ?_) (fun c19 => ?_)
      · rw [if_pos c19] at hw
        refine lv_iload_n hx hb dX3_wavelengthsOn_54 rfl (lv_at hl 2 rfl) ?_
        exact q_iret hx hb hr hP hF hS hw dX3_wavelengthsOn_55 hlocks
      · rw [if_neg c19] at hw
        refine lv_aload_n hx hb dX3_wavelengthsOn_22 rfl (lv_at hl 0 rfl) ?_
        refine lv_iload_n hx hb dX3_wavelengthsOn_23 rfl (lv_at hl 3 rfl) ?_
        refine q_call (va_runV (As := [.int a3]) (rest := []) ⟨hx, hb, hml, hown, hts⟩ (c_X3_channelAt l D cy b0 S k a3 hk _ hw) (cwV 1 hts gX3_wavelengthsOn_X3_channelAt rfl rfl rfl (by decide +kernel) ⟨(Nat.le_of_ble_eq_true rfl), (Nat.le_of_ble_eq_true rfl)⟩) (q_pV hW hP hF hS (k := k) (ci := 3) (kd_N hk (by decide)) (cell_3 hk) rfl [.int a3]) rfl rfl hl.1 rfl (lv_room (Nat.le_of_ble_eq_true rfl)) dX3_wavelengthsOn_24 ⟨(Nat.le_of_ble_eq_true rfl), (Nat.le_of_ble_eq_true rfl)⟩) hS (fun v24 S24 t24 H locs hh hp hB hz hk9 hS => ?_)
        obtain ⟨r24, rfl, hw⟩ := hp
        have hP : HP D cy b0 NALL S24 H := by rw [← hh]; exact hB.1
        have hF := hB.2
        try dsimp only at hw
        refine W.eq (g2 := F0 m 27 ls [.int r24]) rfl ?_
        refine lv_istore (lv' := [(4, .int r24), (0, .ref (b0 + k)), (1, .int x1), (2, .int a2), (3, .int a3)]) hx hb dX3_wavelengthsOn_27 hl (by decide) rfl (fun ls hl => ?_)
        refine lv_iload hx hb dX3_wavelengthsOn_29 (lv_at hl 0 rfl) ?_
        refine lv_bipush (v := 10) hx hb dX3_wavelengthsOn_31 (by decide) ?_
        refine lv_idiv hx hb dX3_wavelengthsOn_33 (by decide) ?_
        refine lv_iload_n hx hb dX3_wavelengthsOn_34 rfl (lv_at hl 2 rfl) ?_
        refine lv_icmp_ne (x := (r24 / 10)) (y := x1) (tgt := 48) hx hb dX3_wavelengthsOn_35 (by decide) (fun c35 => ?_) (fun c35 => ?_)
        · rw [if_neg c35] at hw
          exact j48 S24 a2 a3  _ _ _ hw hP hF hS (lv_sub hl [1, 2, 3, 4] rfl)
        · rw [if_pos c35] at hw
          refine lv_iload_n hx hb dX3_wavelengthsOn_38 rfl (lv_at hl 3 rfl) ?_
          refine lv_iconst (v := 1) hx hb dX3_wavelengthsOn_39 (by decide) ?_
          refine lv_iload hx hb dX3_wavelengthsOn_40 (lv_at hl 0 rfl) ?_
          refine lv_bipush (v := 10) hx hb dX3_wavelengthsOn_42 (by decide) ?_
          refine lv_irem hx hb dX3_wavelengthsOn_44 (by decide) ?_
          refine lv_ishl hx hb dX3_wavelengthsOn_45 ?_
          refine lv_ior hx hb dX3_wavelengthsOn_46 ?_
          refine lv_topi (fun y47 e47 => ?_)
          have hw := hw y47 e47
          refine lv_istore_n (lv' := [(2, .int y47), (4, .int r24), (0, .ref (b0 + k)), (1, .int x1), (3, .int a3)]) hx hb dX3_wavelengthsOn_47 rfl hl (by decide) rfl (fun ls hl => ?_)
          exact j48 S24 y47 a3  _ _ _ hw hP hF hS (lv_sub hl [2, 3, 0, 4] rfl)
  unfold wp_X3_wavelengthsOn at hw
  refine lv_aload_n hx hb dX3_wavelengthsOn_0 rfl (lv_at hl 0 rfl) ?_
  refine lv_iload_n hx hb dX3_wavelengthsOn_1 rfl (lv_at hl 1 rfl) ?_
  refine q_call (va_runV (As := [.int x1]) (rest := []) ⟨hx, hb, hml, hown, hts⟩ (c_X3_uses l D cy b0 S k x1 hk _ hw) (cwV 1 hts gX3_wavelengthsOn_X3_uses rfl rfl rfl (by decide +kernel) ⟨(Nat.le_of_ble_eq_true rfl), (Nat.le_of_ble_eq_true rfl)⟩) (q_pV hW hP hF hS (k := k) (ci := 3) (kd_N hk (by decide)) (cell_3 hk) rfl [.int x1]) rfl rfl hl.1 rfl (lv_room (Nat.le_of_ble_eq_true rfl)) dX3_wavelengthsOn_2 ⟨(Nat.le_of_ble_eq_true rfl), (Nat.le_of_ble_eq_true rfl)⟩) hS (fun v2 S2 t2 H locs hh hp hB hz hk9 hS => ?_)
  obtain ⟨r2, rfl, hw⟩ := hp
  have hP : HP D cy b0 NALL S2 H := by rw [← hh]; exact hB.1
  have hF := hB.2
  try dsimp only at hw
  refine W.eq (g2 := F0 m 5 ls [.int (b2i r2)]) rfl ?_
  refine lv_if_ne (x := b2i r2) (tgt := 10) hx hb dX3_wavelengthsOn_5 (by decide) (fun c5 => ?_) (fun c5 => ?_)
  · have c5 := b2i_n c5
    rw [if_pos c5] at hw
    refine lv_iconst (v := 0) hx hb dX3_wavelengthsOn_10 (by decide) ?_
    refine lv_istore_n (lv' := [(2, .int 0), (0, .ref (b0 + k)), (1, .int x1)]) hx hb dX3_wavelengthsOn_11 rfl hl (by decide) rfl (fun ls hl => ?_)
    refine lv_iconst (v := 0) hx hb dX3_wavelengthsOn_12 (by decide) ?_
    refine lv_istore_n (lv' := [(3, .int 0), (2, .int 0), (0, .ref (b0 + k)), (1, .int x1)]) hx hb dX3_wavelengthsOn_13 rfl hl (by decide) rfl (fun ls hl => ?_)
    obtain ⟨n14, hw⟩ := hw
    exact j14 n14 S2 0 0  _ _ _ hw hP hF hS (lv_sub hl [2, 3, 1, 0] rfl)
  · have c5 := b2i_z c5
    rw [if_neg c5] at hw
    refine lv_iconst (v := 0) hx hb dX3_wavelengthsOn_8 (by decide) ?_
    exact q_iret hx hb hr hP hF hS hw dX3_wavelengthsOn_9 hlocks
set_option maxHeartbeats 4000000 in
set_option maxRecDepth 100000 in
theorem c_X3_isAheadOf (l : Launch) (D : va_G) (cy : Nat → ClassId) (b0 : Nat) (S : St) (k : Nat) (x1 : Nat) (hk : kd k = 3) (hk1 : kd x1 = 3) (P : Bool → St → Prop) (hw : wp_X3_isAheadOf S k x1 P) : Met l yX3_isAheadOf wsX3_isAheadOf rm_X3_isAheadOf (va_Pc [.ref (b0 + k), .ref (b0 + x1)] (Wd D cy b0 NALL S)) (QC (Pz P) (Wb D cy b0 NALL) b0) 0 0 (AA b0) := by
  refine Met.ofW (cc := cX3_isAheadOf) (maxL := 2) (ret := (some .boolean)) (by decide) rfl ?_
  intro p e s m args below meth c s₁ B hml hv
  obtain ⟨hargs, hW, hP, hF⟩ := hv
  have hx := B.exec
  have hb := B.bytes
  have hr := B.returns
  have hts := atoms_spec (ws := wsX3_isAheadOf) B.pre
  have hown : s.vm.findClass RX3 = some m.cls := findClass_of_methodNamed B.named
  have hlocks := B.notSynchronized
  have hK := hW.1
  have hS : va_S (AA b0) s.heap s.heap [] := va_S.rf
  have hE : entryFrame m args 2 = F0 m 0 ((lg_sl [.ref (b0 + k), .ref (b0 + x1)] ++ List.replicate (2 - (lg_sl [.ref (b0 + k), .ref (b0 + x1)]).length) Slot.unset).toArray) [] := by rw [hargs]; exact lg_entry_eq m _ _
  rw [hE]
  have hl := lv_entry [.ref (b0 + k), .ref (b0 + x1)] (n := 2) (Nat.le_of_ble_eq_true rfl)
  generalize (lg_sl [.ref (b0 + k), .ref (b0 + x1)] ++ List.replicate (2 - (lg_sl [.ref (b0 + k), .ref (b0 + x1)]).length) Slot.unset).toArray = ls at hl ⊢
  have hl : lv_has ls 2 [(0, .ref (b0 + k)), (1, .ref (b0 + x1))] := hl
  unfold wp_X3_isAheadOf at hw
  refine lv_aload_n hx hb dX3_isAheadOf_0 rfl (lv_at hl 0 rfl) ?_
  refine gf_3_1 (k := k) hx hb hts (by decide +kernel) hown hK hP (kd_N hk (by decide)) hk (hts (.fieldLink RX3 13 "Opticmesh$Way" "length" "I") (by decide +kernel)) dX3_isAheadOf_1 ?_
  refine lv_aload_n hx hb dX3_isAheadOf_4 rfl (lv_at hl 1 rfl) ?_
  refine gf_3_1 (k := x1) hx hb hts (by decide +kernel) hown hK hP (kd_N hk1 (by decide)) hk1 (hts (.fieldLink RX3 13 "Opticmesh$Way" "length" "I") (by decide +kernel)) dX3_isAheadOf_5 ?_
  refine lv_icmp_eq (x := (gI S k 1)) (y := (gI S x1 1)) (tgt := 28) hx hb dX3_isAheadOf_8 (by decide) (fun c8 => ?_) (fun c8 => ?_)
  · rw [if_pos c8] at hw
    refine lv_aload_n hx hb dX3_isAheadOf_28 rfl (lv_at hl 0 rfl) ?_
    refine gf_3_2 (k := k) hx hb hts (by decide +kernel) hown hK hP (kd_N hk (by decide)) hk (hts (.fieldLink RX3 16 "Opticmesh$Way" "conversions" "I") (by decide +kernel)) dX3_isAheadOf_29 ?_
    refine lv_aload_n hx hb dX3_isAheadOf_32 rfl (lv_at hl 1 rfl) ?_
    refine gf_3_2 (k := x1) hx hb hts (by decide +kernel) hown hK hP (kd_N hk1 (by decide)) hk1 (hts (.fieldLink RX3 16 "Opticmesh$Way" "conversions" "I") (by decide +kernel)) dX3_isAheadOf_33 ?_
    refine lv_icmp_eq (x := (gI S k 2)) (y := (gI S x1 2)) (tgt := 56) hx hb dX3_isAheadOf_36 (by decide) (fun c36 => ?_) (fun c36 => ?_)
    · rw [if_pos c36] at hw
      refine lv_aload_n hx hb dX3_isAheadOf_56 rfl (lv_at hl 0 rfl) ?_
      refine gf_3_0 (k := k) hx hb hts (by decide +kernel) hown hK hP (kd_N hk (by decide)) hk (hts (.fieldLink RX3 7 "Opticmesh$Way" "count" "I") (by decide +kernel)) dX3_isAheadOf_57 ?_
      refine lv_aload_n hx hb dX3_isAheadOf_60 rfl (lv_at hl 1 rfl) ?_
      refine gf_3_0 (k := x1) hx hb hts (by decide +kernel) hown hK hP (kd_N hk1 (by decide)) hk1 (hts (.fieldLink RX3 7 "Opticmesh$Way" "count" "I") (by decide +kernel)) dX3_isAheadOf_61 ?_
      refine lv_icmp_eq (x := (gI S k 0)) (y := (gI S x1 0)) (tgt := 84) hx hb dX3_isAheadOf_64 (by decide) (fun c64 => ?_) (fun c64 => ?_)
      · rw [if_pos c64] at hw
        refine lv_aload_n hx hb dX3_isAheadOf_84 rfl (lv_at hl 0 rfl) ?_
        refine gf_3_4 (k := k) hx hb hts (by decide +kernel) hown hK hP (kd_N hk (by decide)) hk (hts (.fieldLink RX3 22 "Opticmesh$Way" "channelBytes" "J") (by decide +kernel)) dX3_isAheadOf_85 ?_
        refine lv_aload_n hx hb dX3_isAheadOf_88 rfl (lv_at hl 1 rfl) ?_
        refine gf_3_4 (k := x1) hx hb hts (by decide +kernel) hown hK hP (kd_N hk1 (by decide)) hk1 (hts (.fieldLink RX3 22 "Opticmesh$Way" "channelBytes" "J") (by decide +kernel)) dX3_isAheadOf_89 ?_
        refine W.lcmp hx hb dX3_isAheadOf_92 ?_
        refine lv_if_ge (x := (lg_cmp (gJ S k 4) (gJ S x1 4))) (tgt := 100) hx hb dX3_isAheadOf_93 (by decide) (fun c93 => ?_) (fun c93 => ?_)
        · rw [if_pos c93] at hw
          refine lv_iconst (v := 0) hx hb dX3_isAheadOf_100 (by decide) ?_
          exact q_zret (v := false) hx hb hr hP hF hS hw dX3_isAheadOf_101 hlocks
        · rw [if_neg c93] at hw
          refine lv_iconst (v := 1) hx hb dX3_isAheadOf_96 (by decide) ?_
          refine lv_goto (tgt := 101) hx hb dX3_isAheadOf_97 (by decide) ?_
          exact q_zret (v := true) hx hb hr hP hF hS hw dX3_isAheadOf_101 hlocks
      · rw [if_neg c64] at hw
        refine lv_aload_n hx hb dX3_isAheadOf_67 rfl (lv_at hl 0 rfl) ?_
        refine gf_3_0 (k := k) hx hb hts (by decide +kernel) hown hK hP (kd_N hk (by decide)) hk (hts (.fieldLink RX3 7 "Opticmesh$Way" "count" "I") (by decide +kernel)) dX3_isAheadOf_68 ?_
        refine lv_aload_n hx hb dX3_isAheadOf_71 rfl (lv_at hl 1 rfl) ?_
        refine gf_3_0 (k := x1) hx hb hts (by decide +kernel) hown hK hP (kd_N hk1 (by decide)) hk1 (hts (.fieldLink RX3 7 "Opticmesh$Way" "count" "I") (by decide +kernel)) dX3_isAheadOf_72 ?_
        refine lv_icmp_ge (x := (gI S k 0)) (y := (gI S x1 0)) (tgt := 82) hx hb dX3_isAheadOf_75 (by decide) (fun c75 => ?_) (fun c75 => ?_)
        · rw [if_pos c75] at hw
          refine lv_iconst (v := 0) hx hb dX3_isAheadOf_82 (by decide) ?_
          exact q_zret (v := false) hx hb hr hP hF hS hw dX3_isAheadOf_83 hlocks
        · rw [if_neg c75] at hw
          refine lv_iconst (v := 1) hx hb dX3_isAheadOf_78 (by decide) ?_
          refine lv_goto (tgt := 83) hx hb dX3_isAheadOf_79 (by decide) ?_
          exact q_zret (v := true) hx hb hr hP hF hS hw dX3_isAheadOf_83 hlocks
    · rw [if_neg c36] at hw
      refine lv_aload_n hx hb dX3_isAheadOf_39 rfl (lv_at hl 0 rfl) ?_
      refine gf_3_2 (k := k) hx hb hts (by decide +kernel) hown hK hP (kd_N hk (by decide)) hk (hts (.fieldLink RX3 16 "Opticmesh$Way" "conversions" "I") (by decide +kernel)) dX3_isAheadOf_40 ?_
      refine lv_aload_n hx hb dX3_isAheadOf_43 rfl (lv_at hl 1 rfl) ?_
      refine gf_3_2 (k := x1) hx hb hts (by decide +kernel) hown hK hP (kd_N hk1 (by decide)) hk1 (hts (.fieldLink RX3 16 "Opticmesh$Way" "conversions" "I") (by decide +kernel)) dX3_isAheadOf_44 ?_
      refine lv_icmp_ge (x := (gI S k 2)) (y := (gI S x1 2)) (tgt := 54) hx hb dX3_isAheadOf_47 (by decide) (fun c47 => ?_) (fun c47 => ?_)
      · rw [if_pos c47] at hw
        refine lv_iconst (v := 0) hx hb dX3_isAheadOf_54 (by decide) ?_
        exact q_zret (v := false) hx hb hr hP hF hS hw dX3_isAheadOf_55 hlocks
      · rw [if_neg c47] at hw
        refine lv_iconst (v := 1) hx hb dX3_isAheadOf_50 (by decide) ?_
        refine lv_goto (tgt := 55) hx hb dX3_isAheadOf_51 (by decide) ?_
        exact q_zret (v := true) hx hb hr hP hF hS hw dX3_isAheadOf_55 hlocks
  · rw [if_neg c8] at hw
    refine lv_aload_n hx hb dX3_isAheadOf_11 rfl (lv_at hl 0 rfl) ?_
    refine gf_3_1 (k := k) hx hb hts (by decide +kernel) hown hK hP (kd_N hk (by decide)) hk (hts (.fieldLink RX3 13 "Opticmesh$Way" "length" "I") (by decide +kernel)) dX3_isAheadOf_12 ?_
    refine lv_aload_n hx hb dX3_isAheadOf_15 rfl (lv_at hl 1 rfl) ?_
    refine gf_3_1 (k := x1) hx hb hts (by decide +kernel) hown hK hP (kd_N hk1 (by decide)) hk1 (hts (.fieldLink RX3 13 "Opticmesh$Way" "length" "I") (by decide +kernel)) dX3_isAheadOf_16 ?_
    refine lv_icmp_ge (x := (gI S k 1)) (y := (gI S x1 1)) (tgt := 26) hx hb dX3_isAheadOf_19 (by decide) (fun c19 => ?_) (fun c19 => ?_)
    · rw [if_pos c19] at hw
      refine lv_iconst (v := 0) hx hb dX3_isAheadOf_26 (by decide) ?_
      exact q_zret (v := false) hx hb hr hP hF hS hw dX3_isAheadOf_27 hlocks
    · rw [if_neg c19] at hw
      refine lv_iconst (v := 1) hx hb dX3_isAheadOf_22 (by decide) ?_
      refine lv_goto (tgt := 27) hx hb dX3_isAheadOf_23 (by decide) ?_
      exact q_zret (v := true) hx hb hr hP hF hS hw dX3_isAheadOf_27 hlocks
set_option maxHeartbeats 4000000 in
set_option maxRecDepth 100000 in
theorem c_X3_start (l : Launch) (D : va_G) (cy : Nat → ClassId) (b0 : Nat) (S : St) (k : Nat) (x1 : Int32) (x2 : Int32) (hk : kd k = 3) (P : St → Prop) (hw : wp_X3_start S k x1 x2 P) : Met l yX3_start wsX3_start rm_X3_start (va_Pc [.ref (b0 + k), .int x1, .int x2] (Wd D cy b0 NALL S)) (QC (Pv P) (Wb D cy b0 NALL) b0) 0 0 (AA b0) := by
  refine Met.ofW (cc := cX3_start) (maxL := 3) (ret := none) (by decide) rfl ?_
  intro p e s m args below meth c s₁ B hml hv
  obtain ⟨hargs, hW, hP, hF⟩ := hv
  have hx := B.exec
  have hb := B.bytes
  have hr := B.returns
  have hts := atoms_spec (ws := wsX3_start) B.pre
  have hown : s.vm.findClass RX3 = some m.cls := findClass_of_methodNamed B.named
  have hlocks := B.notSynchronized
  have hK := hW.1
  have hS : va_S (AA b0) s.heap s.heap [] := va_S.rf
  have hE : entryFrame m args 3 = F0 m 0 ((lg_sl [.ref (b0 + k), .int x1, .int x2] ++ List.replicate (3 - (lg_sl [.ref (b0 + k), .int x1, .int x2]).length) Slot.unset).toArray) [] := by rw [hargs]; exact lg_entry_eq m _ _
  rw [hE]
  have hl := lv_entry [.ref (b0 + k), .int x1, .int x2] (n := 3) (Nat.le_of_ble_eq_true rfl)
  generalize (lg_sl [.ref (b0 + k), .int x1, .int x2] ++ List.replicate (3 - (lg_sl [.ref (b0 + k), .int x1, .int x2]).length) Slot.unset).toArray = ls at hl ⊢
  have hl : lv_has ls 3 [(0, .ref (b0 + k)), (1, .int x1), (2, .int x2)] := hl
  unfold wp_X3_start at hw
  refine lv_aload_n hx hb dX3_start_0 rfl (lv_at hl 0 rfl) ?_
  refine lv_iconst (v := 0) hx hb dX3_start_1 (by decide) ?_
  refine pf_3_0 (k := k) (x := 0) hx hb hts (by decide +kernel) hown hK hP hS (kd_N hk (by decide)) hk (hts (.fieldLink RX3 7 "Opticmesh$Way" "count" "I") (by decide +kernel)) dX3_start_2 (fun H locs hz hP hS => ?_)
  have hF : Fx (sI S k 0 0) := Fx.sI hF _ _ _
  generalize eS2 : sI S k 0 0 = S2 at hP hF
  have hw := hw S2 eS2.symm
  refine lv_aload_n hx hb dX3_start_5 rfl (lv_at hl 0 rfl) ?_
  refine lv_iload_n hx hb dX3_start_6 rfl (lv_at hl 1 rfl) ?_
  refine pf_3_1 (k := k) (x := x1) hx hb hts (by decide +kernel) hown hK hP hS (kd_N hk (by decide)) hk (hts (.fieldLink RX3 13 "Opticmesh$Way" "length" "I") (by decide +kernel)) dX3_start_7 (fun H locs hz hP hS => ?_)
  have hF : Fx (sI S2 k 1 x1) := Fx.sI hF _ _ _
  generalize eS7 : sI S2 k 1 x1 = S7 at hP hF
  have hw := hw S7 eS7.symm
  refine lv_aload_n hx hb dX3_start_10 rfl (lv_at hl 0 rfl) ?_
  refine lv_iload_n hx hb dX3_start_11 rfl (lv_at hl 2 rfl) ?_
  refine pf_3_2 (k := k) (x := x2) hx hb hts (by decide +kernel) hown hK hP hS (kd_N hk (by decide)) hk (hts (.fieldLink RX3 16 "Opticmesh$Way" "conversions" "I") (by decide +kernel)) dX3_start_12 (fun H locs hz hP hS => ?_)
  have hF : Fx (sI S7 k 2 x2) := Fx.sI hF _ _ _
  generalize eS12 : sI S7 k 2 x2 = S12 at hP hF
  have hw := hw S12 eS12.symm
  refine lv_aload_n hx hb dX3_start_15 rfl (lv_at hl 0 rfl) ?_
  refine lv_iconst (v := 0) hx hb dX3_start_16 (by decide) ?_
  refine pf_3_3 (k := k) (x := 0) hx hb hts (by decide +kernel) hown hK hP hS (kd_N hk (by decide)) hk (hts (.fieldLink RX3 19 "Opticmesh$Way" "fibres" "I") (by decide +kernel)) dX3_start_17 (fun H locs hz hP hS => ?_)
  have hF : Fx (sI S12 k 3 0) := Fx.sI hF _ _ _
  generalize eS17 : sI S12 k 3 0 = S17 at hP hF
  have hw := hw S17 eS17.symm
  refine lv_aload_n hx hb dX3_start_20 rfl (lv_at hl 0 rfl) ?_
  refine lv_lconst (v := 0) hx hb dX3_start_21 (by decide) ?_
  refine pf_3_4 (k := k) (x := 0) hx hb hts (by decide +kernel) hown hK hP hS (kd_N hk (by decide)) hk (hts (.fieldLink RX3 22 "Opticmesh$Way" "channelBytes" "J") (by decide +kernel)) dX3_start_22 (fun H locs hz hP hS => ?_)
  have hF : Fx (sJ S17 k 4 0) := Fx.sJ hF _ _ _
  generalize eS22 : sJ S17 k 4 0 = S22 at hP hF
  have hw := hw S22 eS22.symm
  exact q_vret hx hb hr hP hF hS hw dX3_start_25 hlocks
set_option maxHeartbeats 4000000 in
set_option maxRecDepth 100000 in
theorem c_X3_append (l : Launch) (D : va_G) (cy : Nat → ClassId) (b0 : Nat) (S : St) (k : Nat) (x1 : Int32) (x2 : Int32) (hk : kd k = 3) (P : St → Prop) (hw : wp_X3_append S k x1 x2 P) : Met l yX3_append wsX3_append rm_X3_append (va_Pc [.ref (b0 + k), .int x1, .int x2] (Wd D cy b0 NALL S)) (QC (Pv P) (Wb D cy b0 NALL) b0) 0 0 (AA b0) := by
  refine Met.ofW (cc := cX3_append) (maxL := 3) (ret := none) (by decide) rfl ?_
  intro p e s m args below meth c s₁ B hml hv
  obtain ⟨hargs, hW, hP, hF⟩ := hv
  have hx := B.exec
  have hb := B.bytes
  have hr := B.returns
  have hts := atoms_spec (ws := wsX3_append) B.pre
  have hown : s.vm.findClass RX3 = some m.cls := findClass_of_methodNamed B.named
  have hlocks := B.notSynchronized
  have hK := hW.1
  have hS : va_S (AA b0) s.heap s.heap [] := va_S.rf
  have hE : entryFrame m args 3 = F0 m 0 ((lg_sl [.ref (b0 + k), .int x1, .int x2] ++ List.replicate (3 - (lg_sl [.ref (b0 + k), .int x1, .int x2]).length) Slot.unset).toArray) [] := by rw [hargs]; exact lg_entry_eq m _ _
  rw [hE]
  have hl := lv_entry [.ref (b0 + k), .int x1, .int x2] (n := 3) (Nat.le_of_ble_eq_true rfl)
  generalize (lg_sl [.ref (b0 + k), .int x1, .int x2] ++ List.replicate (3 - (lg_sl [.ref (b0 + k), .int x1, .int x2]).length) Slot.unset).toArray = ls at hl ⊢
  have hl : lv_has ls 3 [(0, .ref (b0 + k)), (1, .int x1), (2, .int x2)] := hl
  unfold wp_X3_append at hw
  refine lv_aload_n hx hb dX3_append_0 rfl (lv_at hl 0 rfl) ?_
  refine lv_aload_n hx hb dX3_append_1 rfl (lv_at hl 0 rfl) ?_
  refine gf_3_4 (k := k) hx hb hts (by decide +kernel) hown hK hP (kd_N hk (by decide)) hk (hts (.fieldLink RX3 22 "Opticmesh$Way" "channelBytes" "J") (by decide +kernel)) dX3_append_2 ?_
  refine lv_bipush (v := 8) hx hb dX3_append_5 (by decide) ?_
  refine lv_lshl hx hb dX3_append_7 (v := ((gJ S k 4) <<< (Int32.toInt64 8 &&& 63))) rfl ?_
  refine lv_bipush (v := 10) hx hb dX3_append_8 (by decide) ?_
  refine lv_iload_n hx hb dX3_append_10 rfl (lv_at hl 1 rfl) ?_
  refine lv_imul hx hb dX3_append_11 ?_
  refine lv_iload_n hx hb dX3_append_12 rfl (lv_at hl 2 rfl) ?_
  refine lv_iadd hx hb dX3_append_13 ?_
  refine lv_i2l hx hb dX3_append_14 (v := ((10 * x1) + x2).toInt64) rfl ?_
  refine lv_lor hx hb dX3_append_15 ?_
  refine pf_3_4 (k := k) (x := (((gJ S k 4) <<< (Int32.toInt64 8 &&& 63)) ||| (((10 * x1) + x2).toInt64))) hx hb hts (by decide +kernel) hown hK hP hS (kd_N hk (by decide)) hk (hts (.fieldLink RX3 22 "Opticmesh$Way" "channelBytes" "J") (by decide +kernel)) dX3_append_16 (fun H locs hz hP hS => ?_)
  have hF : Fx (sJ S k 4 (((gJ S k 4) <<< (Int32.toInt64 8 &&& 63)) ||| (((10 * x1) + x2).toInt64))) := Fx.sJ hF _ _ _
  generalize eS16 : sJ S k 4 (((gJ S k 4) <<< (Int32.toInt64 8 &&& 63)) ||| (((10 * x1) + x2).toInt64)) = S16 at hP hF
  have hw := hw S16 eS16.symm
  refine lv_aload_n hx hb dX3_append_19 rfl (lv_at hl 0 rfl) ?_
  refine lv_dup hx hb dX3_append_20 rfl ?_
  refine gf_3_3 (k := k) hx hb hts (by decide +kernel) hown hK hP (kd_N hk (by decide)) hk (hts (.fieldLink RX3 19 "Opticmesh$Way" "fibres" "I") (by decide +kernel)) dX3_append_21 ?_
  refine lv_iconst (v := 1) hx hb dX3_append_24 (by decide) ?_
  refine lv_iload_n hx hb dX3_append_25 rfl (lv_at hl 1 rfl) ?_
  refine lv_ishl hx hb dX3_append_26 ?_
  refine lv_ior hx hb dX3_append_27 ?_
  refine pf_3_3 (k := k) (x := ((gI S16 k 3) ||| (1 <<< (x1 &&& 31)))) hx hb hts (by decide +kernel) hown hK hP hS (kd_N hk (by decide)) hk (hts (.fieldLink RX3 19 "Opticmesh$Way" "fibres" "I") (by decide +kernel)) dX3_append_28 (fun H locs hz hP hS => ?_)
  have hF : Fx (sI S16 k 3 ((gI S16 k 3) ||| (1 <<< (x1 &&& 31)))) := Fx.sI hF _ _ _
  generalize eS28 : sI S16 k 3 ((gI S16 k 3) ||| (1 <<< (x1 &&& 31))) = S28 at hP hF
  have hw := hw S28 eS28.symm
  refine lv_aload_n hx hb dX3_append_31 rfl (lv_at hl 0 rfl) ?_
  refine lv_dup hx hb dX3_append_32 rfl ?_
  refine gf_3_0 (k := k) hx hb hts (by decide +kernel) hown hK hP (kd_N hk (by decide)) hk (hts (.fieldLink RX3 7 "Opticmesh$Way" "count" "I") (by decide +kernel)) dX3_append_33 ?_
  refine lv_iconst (v := 1) hx hb dX3_append_36 (by decide) ?_
  refine lv_iadd hx hb dX3_append_37 ?_
  refine pf_3_0 (k := k) (x := ((gI S28 k 0) + 1)) hx hb hts (by decide +kernel) hown hK hP hS (kd_N hk (by decide)) hk (hts (.fieldLink RX3 7 "Opticmesh$Way" "count" "I") (by decide +kernel)) dX3_append_38 (fun H locs hz hP hS => ?_)
  have hF : Fx (sI S28 k 0 ((gI S28 k 0) + 1)) := Fx.sI hF _ _ _
  generalize eS38 : sI S28 k 0 ((gI S28 k 0) + 1) = S38 at hP hF
  have hw := hw S38 eS38.symm
  exact q_vret hx hb hr hP hF hS hw dX3_append_41 hlocks
set_option maxHeartbeats 4000000 in
set_option maxRecDepth 100000 in
theorem c_X3_become (l : Launch) (D : va_G) (cy : Nat → ClassId) (b0 : Nat) (S : St) (k : Nat) (x1 : Nat) (hk : kd k = 3) (hk1 : kd x1 = 3) (P : St → Prop) (hw : wp_X3_become S k x1 P) : Met l yX3_become wsX3_become rm_X3_become (va_Pc [.ref (b0 + k), .ref (b0 + x1)] (Wd D cy b0 NALL S)) (QC (Pv P) (Wb D cy b0 NALL) b0) 0 0 (AA b0) := by
  refine Met.ofW (cc := cX3_become) (maxL := 2) (ret := none) (by decide) rfl ?_
  intro p e s m args below meth c s₁ B hml hv
  obtain ⟨hargs, hW, hP, hF⟩ := hv
  have hx := B.exec
  have hb := B.bytes
  have hr := B.returns
  have hts := atoms_spec (ws := wsX3_become) B.pre
  have hown : s.vm.findClass RX3 = some m.cls := findClass_of_methodNamed B.named
  have hlocks := B.notSynchronized
  have hK := hW.1
  have hS : va_S (AA b0) s.heap s.heap [] := va_S.rf
  have hE : entryFrame m args 2 = F0 m 0 ((lg_sl [.ref (b0 + k), .ref (b0 + x1)] ++ List.replicate (2 - (lg_sl [.ref (b0 + k), .ref (b0 + x1)]).length) Slot.unset).toArray) [] := by rw [hargs]; exact lg_entry_eq m _ _
  rw [hE]
  have hl := lv_entry [.ref (b0 + k), .ref (b0 + x1)] (n := 2) (Nat.le_of_ble_eq_true rfl)
  generalize (lg_sl [.ref (b0 + k), .ref (b0 + x1)] ++ List.replicate (2 - (lg_sl [.ref (b0 + k), .ref (b0 + x1)]).length) Slot.unset).toArray = ls at hl ⊢
  have hl : lv_has ls 2 [(0, .ref (b0 + k)), (1, .ref (b0 + x1))] := hl
  unfold wp_X3_become at hw
  refine lv_aload_n hx hb dX3_become_0 rfl (lv_at hl 0 rfl) ?_
  refine lv_aload_n hx hb dX3_become_1 rfl (lv_at hl 1 rfl) ?_
  refine gf_3_0 (k := x1) hx hb hts (by decide +kernel) hown hK hP (kd_N hk1 (by decide)) hk1 (hts (.fieldLink RX3 7 "Opticmesh$Way" "count" "I") (by decide +kernel)) dX3_become_2 ?_
  refine pf_3_0 (k := k) (x := (gI S x1 0)) hx hb hts (by decide +kernel) hown hK hP hS (kd_N hk (by decide)) hk (hts (.fieldLink RX3 7 "Opticmesh$Way" "count" "I") (by decide +kernel)) dX3_become_5 (fun H locs hz hP hS => ?_)
  have hF : Fx (sI S k 0 (gI S x1 0)) := Fx.sI hF _ _ _
  generalize eS5 : sI S k 0 (gI S x1 0) = S5 at hP hF
  have hw := hw S5 eS5.symm
  refine lv_aload_n hx hb dX3_become_8 rfl (lv_at hl 0 rfl) ?_
  refine lv_aload_n hx hb dX3_become_9 rfl (lv_at hl 1 rfl) ?_
  refine gf_3_1 (k := x1) hx hb hts (by decide +kernel) hown hK hP (kd_N hk1 (by decide)) hk1 (hts (.fieldLink RX3 13 "Opticmesh$Way" "length" "I") (by decide +kernel)) dX3_become_10 ?_
  refine pf_3_1 (k := k) (x := (gI S5 x1 1)) hx hb hts (by decide +kernel) hown hK hP hS (kd_N hk (by decide)) hk (hts (.fieldLink RX3 13 "Opticmesh$Way" "length" "I") (by decide +kernel)) dX3_become_13 (fun H locs hz hP hS => ?_)
  have hF : Fx (sI S5 k 1 (gI S5 x1 1)) := Fx.sI hF _ _ _
  generalize eS13 : sI S5 k 1 (gI S5 x1 1) = S13 at hP hF
  have hw := hw S13 eS13.symm
  refine lv_aload_n hx hb dX3_become_16 rfl (lv_at hl 0 rfl) ?_
  refine lv_aload_n hx hb dX3_become_17 rfl (lv_at hl 1 rfl) ?_
  refine gf_3_2 (k := x1) hx hb hts (by decide +kernel) hown hK hP (kd_N hk1 (by decide)) hk1 (hts (.fieldLink RX3 16 "Opticmesh$Way" "conversions" "I") (by decide +kernel)) dX3_become_18 ?_
  refine pf_3_2 (k := k) (x := (gI S13 x1 2)) hx hb hts (by decide +kernel) hown hK hP hS (kd_N hk (by decide)) hk (hts (.fieldLink RX3 16 "Opticmesh$Way" "conversions" "I") (by decide +kernel)) dX3_become_21 (fun H locs hz hP hS => ?_)
  have hF : Fx (sI S13 k 2 (gI S13 x1 2)) := Fx.sI hF _ _ _
  generalize eS21 : sI S13 k 2 (gI S13 x1 2) = S21 at hP hF
  have hw := hw S21 eS21.symm
  refine lv_aload_n hx hb dX3_become_24 rfl (lv_at hl 0 rfl) ?_
  refine lv_aload_n hx hb dX3_become_25 rfl (lv_at hl 1 rfl) ?_
  refine gf_3_3 (k := x1) hx hb hts (by decide +kernel) hown hK hP (kd_N hk1 (by decide)) hk1 (hts (.fieldLink RX3 19 "Opticmesh$Way" "fibres" "I") (by decide +kernel)) dX3_become_26 ?_
  refine pf_3_3 (k := k) (x := (gI S21 x1 3)) hx hb hts (by decide +kernel) hown hK hP hS (kd_N hk (by decide)) hk (hts (.fieldLink RX3 19 "Opticmesh$Way" "fibres" "I") (by decide +kernel)) dX3_become_29 (fun H locs hz hP hS => ?_)
  have hF : Fx (sI S21 k 3 (gI S21 x1 3)) := Fx.sI hF _ _ _
  generalize eS29 : sI S21 k 3 (gI S21 x1 3) = S29 at hP hF
  have hw := hw S29 eS29.symm
  refine lv_aload_n hx hb dX3_become_32 rfl (lv_at hl 0 rfl) ?_
  refine lv_aload_n hx hb dX3_become_33 rfl (lv_at hl 1 rfl) ?_
  refine gf_3_4 (k := x1) hx hb hts (by decide +kernel) hown hK hP (kd_N hk1 (by decide)) hk1 (hts (.fieldLink RX3 22 "Opticmesh$Way" "channelBytes" "J") (by decide +kernel)) dX3_become_34 ?_
  refine pf_3_4 (k := k) (x := (gJ S29 x1 4)) hx hb hts (by decide +kernel) hown hK hP hS (kd_N hk (by decide)) hk (hts (.fieldLink RX3 22 "Opticmesh$Way" "channelBytes" "J") (by decide +kernel)) dX3_become_37 (fun H locs hz hP hS => ?_)
  have hF : Fx (sJ S29 k 4 (gJ S29 x1 4)) := Fx.sJ hF _ _ _
  generalize eS37 : sJ S29 k 4 (gJ S29 x1 4) = S37 at hP hF
  have hw := hw S37 eS37.symm
  exact q_vret hx hb hr hP hF hS hw dX3_become_40 hlocks
set_option maxHeartbeats 4000000 in
set_option maxRecDepth 100000 in
theorem c_X3_firstWavelength (l : Launch) (D : va_G) (cy : Nat → ClassId) (b0 : Nat) (S : St) (k : Nat) (hk : kd k = 3) (P : Int32 → St → Prop) (hw : wp_X3_firstWavelength S k P) : Met l yX3_firstWavelength wsX3_firstWavelength rm_X3_firstWavelength (va_Pc [.ref (b0 + k)] (Wd D cy b0 NALL S)) (QC (Pi P) (Wb D cy b0 NALL) b0) 0 0 (AA b0) := by
  refine Met.ofW (cc := cX3_firstWavelength) (maxL := 1) (ret := (some .int)) (by decide) rfl ?_
  intro p e s m args below meth c s₁ B hml hv
  obtain ⟨hargs, hW, hP, hF⟩ := hv
  have hx := B.exec
  have hb := B.bytes
  have hr := B.returns
  have hts := atoms_spec (ws := wsX3_firstWavelength) B.pre
  have hown : s.vm.findClass RX3 = some m.cls := findClass_of_methodNamed B.named
  have hlocks := B.notSynchronized
  have hK := hW.1
  have hS : va_S (AA b0) s.heap s.heap [] := va_S.rf
  have hE : entryFrame m args 1 = F0 m 0 ((lg_sl [.ref (b0 + k)] ++ List.replicate (1 - (lg_sl [.ref (b0 + k)]).length) Slot.unset).toArray) [] := by rw [hargs]; exact lg_entry_eq m _ _
  rw [hE]
  have hl := lv_entry [.ref (b0 + k)] (n := 1) (Nat.le_of_ble_eq_true rfl)
  generalize (lg_sl [.ref (b0 + k)] ++ List.replicate (1 - (lg_sl [.ref (b0 + k)]).length) Slot.unset).toArray = ls at hl ⊢
  have hl : lv_has ls 1 [(0, .ref (b0 + k))] := hl
  unfold wp_X3_firstWavelength at hw
  refine lv_aload_n hx hb dX3_firstWavelength_0 rfl (lv_at hl 0 rfl) ?_
  refine lv_iconst (v := 0) hx hb dX3_firstWavelength_1 (by decide) ?_
  refine q_call (va_runV (As := [.int 0]) (rest := []) ⟨hx, hb, hml, hown, hts⟩ (c_X3_channelAt l D cy b0 S k 0 hk _ hw) (cwV 1 hts gX3_firstWavelength_X3_channelAt rfl rfl rfl (by decide +kernel) ⟨(Nat.le_of_ble_eq_true rfl), (Nat.le_of_ble_eq_true rfl)⟩) (q_pV hW hP hF hS (k := k) (ci := 3) (kd_N hk (by decide)) (cell_3 hk) rfl [.int 0]) rfl rfl hl.1 rfl (lv_room (Nat.le_of_ble_eq_true rfl)) dX3_firstWavelength_2 ⟨(Nat.le_of_ble_eq_true rfl), (Nat.le_of_ble_eq_true rfl)⟩) hS (fun v2 S2 t2 H locs hh hp hB hz hk9 hS => ?_)
  obtain ⟨r2, rfl, hw⟩ := hp
  have hP : HP D cy b0 NALL S2 H := by rw [← hh]; exact hB.1
  have hF := hB.2
  try dsimp only at hw
  refine W.eq (g2 := F0 m 5 ls [.int r2]) rfl ?_
  refine lv_bipush (v := 10) hx hb dX3_firstWavelength_5 (by decide) ?_
  refine lv_irem hx hb dX3_firstWavelength_7 (by decide) ?_
  exact q_iret hx hb hr hP hF hS hw dX3_firstWavelength_8 hlocks
set_option maxHeartbeats 4000000 in
set_option maxRecDepth 100000 in
theorem c_X3_shiftTo (l : Launch) (D : va_G) (cy : Nat → ClassId) (b0 : Nat) (S : St) (k : Nat) (x1 : Int32) (hk : kd k = 3) (P : St → Prop) (hw : wp_X3_shiftTo S k x1 P) : Met l yX3_shiftTo wsX3_shiftTo rm_X3_shiftTo (va_Pc [.ref (b0 + k), .int x1] (Wd D cy b0 NALL S)) (QC (Pv P) (Wb D cy b0 NALL) b0) 0 0 (AA b0) := by
  refine Met.ofW (cc := cX3_shiftTo) (maxL := 5) (ret := none) (by decide) rfl ?_
  intro p e s m args below meth c s₁ B hml hv
  obtain ⟨hargs, hW, hP, hF⟩ := hv
  have hx := B.exec
  have hb := B.bytes
  have hr := B.returns
  have hts := atoms_spec (ws := wsX3_shiftTo) B.pre
  have hown : s.vm.findClass RX3 = some m.cls := findClass_of_methodNamed B.named
  have hlocks := B.notSynchronized
  have hK := hW.1
  have hS : va_S (AA b0) s.heap s.heap [] := va_S.rf
  have hE : entryFrame m args 5 = F0 m 0 ((lg_sl [.ref (b0 + k), .int x1] ++ List.replicate (5 - (lg_sl [.ref (b0 + k), .int x1]).length) Slot.unset).toArray) [] := by rw [hargs]; exact lg_entry_eq m _ _
  rw [hE]
  have hl := lv_entry [.ref (b0 + k), .int x1] (n := 5) (Nat.le_of_ble_eq_true rfl)
  generalize (lg_sl [.ref (b0 + k), .int x1] ++ List.replicate (5 - (lg_sl [.ref (b0 + k), .int x1]).length) Slot.unset).toArray = ls at hl ⊢
  have hl : lv_has ls 5 [(0, .ref (b0 + k)), (1, .int x1)] := hl
  have j11 : ∀ (n11 : Nat), ∀ (S : St) (a2 : Int64) (a4 : Int32), ∀ (H : Heap) (locs : List Loc) (ls : Array Slot), wp_X3_shiftTo_11 k x1 P n11 S a2 a4 → HP D cy b0 NALL S H → Fx S → va_S (AA b0) s.heap H locs → lv_has ls 5 [(0, .ref (b0 + k)), (2, .long a2), (4, .int a4)] → W p l e rm_X3_shiftTo s m args below meth c H locs 0 0 (MQ below (QC (Pv P) (Wb D cy b0 NALL) b0) args s 0 0 (AA b0)) (F0 m 11 ls []) := by
    intro n11
    induction n11 with
    | zero => intro S a2 a4  H locs ls hw _ _ _ _; exact False.elim hw
    | succ n11 ih11 =>
      intro S a2 a4  H locs ls hw hP hF hS hl
      rw [wp_X3_shiftTo_11] at hw
      refine lv_iload hx hb dX3_shiftTo_11 (lv_at hl 2 rfl) ?_
      refine lv_aload_n hx hb dX3_shiftTo_13 rfl (lv_at hl 0 rfl) ?_
      refine gf_3_0 (k := k) hx hb hts (by decide +kernel) hown hK hP (kd_N hk (by decide)) hk (hts (.fieldLink RX3 7 "Opticmesh$Way" "count" "I") (by decide +kernel)) dX3_shiftTo_14 ?_
      refine lv_icmp_ge (x := a4) (y := (gI S k 0)) (tgt := 42) hx hb dX3_shiftTo_17 (by decide) (fun c17 => ?_) (fun c17 => ?_)
      · rw [if_pos c17] at hw
        exact q_vret hx hb hr hP hF hS hw dX3_shiftTo_42 hlocks
      · rw [if_neg c17] at hw
        refine lv_aload_n hx hb dX3_shiftTo_20 rfl (lv_at hl 0 rfl) ?_
        refine lv_dup hx hb dX3_shiftTo_21 rfl ?_
        refine gf_3_4 (k := k) hx hb hts (by decide +kernel) hown hK hP (kd_N hk (by decide)) hk (hts (.fieldLink RX3 22 "Opticmesh$Way" "channelBytes" "J") (by decide +kernel)) dX3_shiftTo_22 ?_
        refine lv_lload_n hx hb dX3_shiftTo_25 rfl (lv_at hl 1 rfl) ?_
        refine lv_bipush (v := 8) hx hb dX3_shiftTo_26 (by decide) ?_
        refine lv_iload hx hb dX3_shiftTo_28 (lv_at hl 2 rfl) ?_
        refine lv_imul hx hb dX3_shiftTo_30 ?_
        refine lv_lshl hx hb dX3_shiftTo_31 (v := (a2 <<< (Int32.toInt64 (8 * a4) &&& 63))) rfl ?_
        refine lv_ladd hx hb dX3_shiftTo_32 ?_
        refine pf_3_4 (k := k) (x := ((gJ S k 4) + (a2 <<< (Int32.toInt64 (8 * a4) &&& 63)))) hx hb hts (by decide +kernel) hown hK hP hS (kd_N hk (by decide)) hk (hts (.fieldLink RX3 22 "Opticmesh$Way" "channelBytes" "J") (by decide +kernel)) dX3_shiftTo_33 (fun H locs hz hP hS => ?_)
        have hF : Fx (sJ S k 4 ((gJ S k 4) + (a2 <<< (Int32.toInt64 (8 * a4) &&& 63)))) := Fx.sJ hF _ _ _
        generalize eS33 : sJ S k 4 ((gJ S k 4) + (a2 <<< (Int32.toInt64 (8 * a4) &&& 63))) = S33 at hP hF
        have hw := hw S33 eS33.symm
        obtain ⟨y36, e36⟩ : ∃ z : Int32, z = a4 + 1 := ⟨_, rfl⟩
        have hw := hw y36 e36
        refine lv_iinc (v := y36) (lv' := [(4, .int y36), (0, .ref (b0 + k)), (2, .long a2)]) hx hb dX3_shiftTo_36 hl (k := 2) rfl (by rw [e36]; rfl) (by decide) rfl (fun ls hl => ?_)
        refine lv_goto (tgt := 11) hx hb dX3_shiftTo_39 (by decide) ?_
        exact ih11 S33 a2 y36  _ _ _ hw hP hF hS (lv_sub hl [1, 2, 0] rfl)
  unfold wp_X3_shiftTo at hw
  refine lv_iload_n hx hb dX3_shiftTo_0 rfl (lv_at hl 1 rfl) ?_
  refine lv_aload_n hx hb dX3_shiftTo_1 rfl (lv_at hl 0 rfl) ?_
  refine q_call (va_runV (As := []) (rest := [.int x1]) ⟨hx, hb, hml, hown, hts⟩ (c_X3_firstWavelength l D cy b0 S k hk _ hw) (cwV 0 hts gX3_shiftTo_X3_firstWavelength rfl rfl rfl (by decide +kernel) ⟨(Nat.le_of_ble_eq_true rfl), (Nat.le_of_ble_eq_true rfl)⟩) (q_pV hW hP hF hS (k := k) (ci := 3) (kd_N hk (by decide)) (cell_3 hk) rfl []) rfl rfl hl.1 rfl (lv_room (Nat.le_of_ble_eq_true rfl)) dX3_shiftTo_2 ⟨(Nat.le_of_ble_eq_true rfl), (Nat.le_of_ble_eq_true rfl)⟩) hS (fun v2 S2 t2 H locs hh hp hB hz hk9 hS => ?_)
  obtain ⟨r2, rfl, hw⟩ := hp
  have hP : HP D cy b0 NALL S2 H := by rw [← hh]; exact hB.1
  have hF := hB.2
  try dsimp only at hw
  refine W.eq (g2 := F0 m 5 ls [.int r2, .int x1]) rfl ?_
  refine lv_isub hx hb dX3_shiftTo_5 ?_
  refine lv_i2l hx hb dX3_shiftTo_6 (v := (x1 - r2).toInt64) rfl ?_
  refine lv_topl (fun y7 e7 => ?_)
  have hw := hw y7 e7
  refine lv_lstore_n (lv' := [(2, .long y7), (0, .ref (b0 + k)), (1, .int x1)]) hx hb dX3_shiftTo_7 rfl hl (by decide) rfl (fun ls hl => ?_)
  refine lv_iconst (v := 0) hx hb dX3_shiftTo_8 (by decide) ?_
  refine lv_istore (lv' := [(4, .int 0), (2, .long y7), (0, .ref (b0 + k)), (1, .int x1)]) hx hb dX3_shiftTo_9 hl (by decide) rfl (fun ls hl => ?_)
  obtain ⟨n11, hw⟩ := hw
  exact j11 n11 S2 y7 0  _ _ _ hw hP hF hS (lv_sub hl [2, 1, 0] rfl)
