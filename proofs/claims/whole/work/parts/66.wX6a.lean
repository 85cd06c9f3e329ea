set_option maxHeartbeats 4000000 in
set_option maxRecDepth 100000 in
theorem c_X6_thrown (l : Launch) (D : va_G) (cy : Nat → ClassId) (b0 : Nat) (S : St)   (P : Int32 → St → Prop) (hw : wp_X6_thrown S  P) : Met l yX6_thrown wsX6_thrown rm_X6_thrown (va_Pc [.ref (b0 + 367)] (Wd D cy b0 NALL S)) (QC (Pi P) (Wb D cy b0 NALL) b0) 0 0 (AA b0) := by
  refine Met.ofW (cc := cX6_thrown) (maxL := 1) (ret := (some .int)) (by decide) rfl ?_
  intro p e s m args below meth c s₁ B hml hv
  obtain ⟨hargs, hW, hP, hF⟩ := hv
  have hx := B.exec
  have hb := B.bytes
  have hr := B.returns
  have hts := atoms_spec (ws := wsX6_thrown) B.pre
  have hown : s.vm.findClass RX6 = some m.cls := findClass_of_methodNamed B.named
  have hlocks := B.notSynchronized
  have hK := hW.1
  have hS : va_S (AA b0) s.heap s.heap [] := va_S.rf
  have hE : entryFrame m args 1 = F0 m 0 ((lg_sl [.ref (b0 + 367)] ++ List.replicate (1 - (lg_sl [.ref (b0 + 367)]).length) Slot.unset).toArray) [] := by rw [hargs]; exact lg_entry_eq m _ _
  rw [hE]
  have hl := lv_entry [.ref (b0 + 367)] (n := 1) (Nat.le_of_ble_eq_true rfl)
  generalize (lg_sl [.ref (b0 + 367)] ++ List.replicate (1 - (lg_sl [.ref (b0 + 367)]).length) Slot.unset).toArray = ls at hl ⊢
  have hl : lv_has ls 1 [(0, .ref (b0 + 367))] := hl
  unfold wp_X6_thrown at hw
  refine lv_aload_n hx hb dX6_thrown_0 rfl (lv_at hl 0 rfl) ?_
  refine gf_6_0 (k := 367) hx hb hts (by decide +kernel) hown hK hP (by decide) (kk_367) (hts (.fieldLink RX6 87 "OpticmeshModel" "thrown" "I") (by decide +kernel)) dX6_thrown_1 ?_
  exact q_iret hx hb hr hP hF hS hw dX6_thrown_4 hlocks
set_option maxHeartbeats 4000000 in
set_option maxRecDepth 100000 in
theorem c_X6_holds (l : Launch) (D : va_G) (cy : Nat → ClassId) (b0 : Nat) (S : St) (x1 : Int32)  (P : Bool → St → Prop) (hw : wp_X6_holds S x1 P) : Met l yX6_holds wsX6_holds rm_X6_holds (va_Pc [.ref (b0 + 367), .int x1] (Wd D cy b0 NALL S)) (QC (Pz P) (Wb D cy b0 NALL) b0) 0 0 (AA b0) := by
  refine Met.ofW (cc := cX6_holds) (maxL := 2) (ret := (some .boolean)) (by decide) rfl ?_
  intro p e s m args below meth c s₁ B hml hv
  obtain ⟨hargs, hW, hP, hF⟩ := hv
  have hx := B.exec
  have hb := B.bytes
  have hr := B.returns
  have hts := atoms_spec (ws := wsX6_holds) B.pre
  have hown : s.vm.findClass RX6 = some m.cls := findClass_of_methodNamed B.named
  have hlocks := B.notSynchronized
  have hK := hW.1
  have hS : va_S (AA b0) s.heap s.heap [] := va_S.rf
  have hE : entryFrame m args 2 = F0 m 0 ((lg_sl [.ref (b0 + 367), .int x1] ++ List.replicate (2 - (lg_sl [.ref (b0 + 367), .int x1]).length) Slot.unset).toArray) [] := by rw [hargs]; exact lg_entry_eq m _ _
  rw [hE]
  have hl := lv_entry [.ref (b0 + 367), .int x1] (n := 2) (Nat.le_of_ble_eq_true rfl)
  generalize (lg_sl [.ref (b0 + 367), .int x1] ++ List.replicate (2 - (lg_sl [.ref (b0 + 367), .int x1]).length) Slot.unset).toArray = ls at hl ⊢
  have hl : lv_has ls 2 [(0, .ref (b0 + 367)), (1, .int x1)] := hl
  unfold wp_X6_holds at hw
  refine lv_aload_n hx hb dX6_holds_0 rfl (lv_at hl 0 rfl) ?_
  refine lv_iload_n hx hb dX6_holds_1 rfl (lv_at hl 1 rfl) ?_
  refine pf_6_0 (k := 367) (x := x1) hx hb hts (by decide +kernel) hown hK hP hS (by decide) (kk_367) (hts (.fieldLink RX6 87 "OpticmeshModel" "thrown" "I") (by decide +kernel)) dX6_holds_2 (fun H locs hz hP hS => ?_)
  have hF : Fx (sI S 367 0 x1) := Fx.sI hF _ _ _
  generalize eS2 : sI S 367 0 x1 = S2 at hP hF
  have hw := hw S2 eS2.symm
  refine lv_iload_n hx hb dX6_holds_5 rfl (lv_at hl 1 rfl) ?_
  refine lv_if_ne (x := x1) (tgt := 13) hx hb dX6_holds_6 (by decide) (fun c6 => ?_) (fun c6 => ?_)
  · rw [if_neg c6] at hw
    refine lv_iconst (v := 0) hx hb dX6_holds_13 (by decide) ?_
    exact q_zret (v := false) hx hb hr hP hF hS hw dX6_holds_14 hlocks
  · rw [if_pos c6] at hw
    refine lv_iconst (v := 1) hx hb dX6_holds_9 (by decide) ?_
    refine lv_goto (tgt := 14) hx hb dX6_holds_10 (by decide) ?_
    exact q_zret (v := true) hx hb hr hP hF hS hw dX6_holds_14 hlocks
set_option maxHeartbeats 4000000 in
set_option maxRecDepth 100000 in
theorem c_X6_in (l : Launch) (D : va_G) (cy : Nat → ClassId) (b0 : Nat) (S : St) (x1 : Int32) (x2 : Int32) (x3 : Int32)  (P : Bool → St → Prop) (hw : wp_X6_in S x1 x2 x3 P) : Met l yX6_in wsX6_in rm_X6_in (va_Pc [.int x1, .int x2, .int x3] (Wd D cy b0 NALL S)) (QC (Pz P) (Wb D cy b0 NALL) b0) 0 0 (AA b0) := by
  refine Met.ofW (cc := cX6_in) (maxL := 3) (ret := (some .boolean)) (by decide) rfl ?_
  intro p e s m args below meth c s₁ B hml hv
  obtain ⟨hargs, hW, hP, hF⟩ := hv
  have hx := B.exec
  have hb := B.bytes
  have hr := B.returns
  have hts := atoms_spec (ws := wsX6_in) B.pre
  have hown : s.vm.findClass RX6 = some m.cls := findClass_of_methodNamed B.named
  have hlocks := B.notSynchronized
  have hK := hW.1
  have hS : va_S (AA b0) s.heap s.heap [] := va_S.rf
  have hE : entryFrame m args 3 = F0 m 0 ((lg_sl [.int x1, .int x2, .int x3] ++ List.replicate (3 - (lg_sl [.int x1, .int x2, .int x3]).length) Slot.unset).toArray) [] := by rw [hargs]; exact lg_entry_eq m _ _
  rw [hE]
  have hl := lv_entry [.int x1, .int x2, .int x3] (n := 3) (Nat.le_of_ble_eq_true rfl)
  generalize (lg_sl [.int x1, .int x2, .int x3] ++ List.replicate (3 - (lg_sl [.int x1, .int x2, .int x3]).length) Slot.unset).toArray = ls at hl ⊢
  have hl : lv_has ls 3 [(0, .int x1), (1, .int x2), (2, .int x3)] := hl
  unfold wp_X6_in at hw
  refine lv_iload_n hx hb dX6_in_0 rfl (lv_at hl 0 rfl) ?_
  refine lv_iload_n hx hb dX6_in_1 rfl (lv_at hl 1 rfl) ?_
  refine lv_icmp_lt (x := x1) (y := x2) (tgt := 14) hx hb dX6_in_2 (by decide) (fun c2 => ?_) (fun c2 => ?_)
  · rw [if_pos c2] at hw
    refine lv_iconst (v := 0) hx hb dX6_in_14 (by decide) ?_
    exact q_zret (v := false) hx hb hr hP hF hS hw dX6_in_15 hlocks
  · rw [if_neg c2] at hw
    refine lv_iload_n hx hb dX6_in_5 rfl (lv_at hl 0 rfl) ?_
    refine lv_iload_n hx hb dX6_in_6 rfl (lv_at hl 2 rfl) ?_
    refine lv_icmp_gt (x := x1) (y := x3) (tgt := 14) hx hb dX6_in_7 (by decide) (fun c7 => ?_) (fun c7 => ?_)
    · rw [if_pos c7] at hw
      refine lv_iconst (v := 0) hx hb dX6_in_14 (by decide) ?_
      exact q_zret (v := false) hx hb hr hP hF hS hw dX6_in_15 hlocks
    · rw [if_neg c7] at hw
      refine lv_iconst (v := 1) hx hb dX6_in_10 (by decide) ?_
      refine lv_goto (tgt := 15) hx hb dX6_in_11 (by decide) ?_
      exact q_zret (v := true) hx hb hr hP hF hS hw dX6_in_15 hlocks
set_option maxHeartbeats 4000000 in
set_option maxRecDepth 100000 in
theorem c_X6_empties (l : Launch) (D : va_G) (cy : Nat → ClassId) (b0 : Nat) (S : St)   (P : St → Prop) (hw : wp_X6_empties S  P) : Met l yX6_empties wsX6_empties rm_X6_empties (va_Pc [.ref (b0 + 367)] (Wd D cy b0 NALL S)) (QC (Pv P) (Wb D cy b0 NALL) b0) 0 0 (AA b0) := by
  refine Met.ofW (cc := cX6_empties) (maxL := 2) (ret := none) (by decide) rfl ?_
  intro p e s m args below meth c s₁ B hml hv
  obtain ⟨hargs, hW, hP, hF⟩ := hv
  have hx := B.exec
  have hb := B.bytes
  have hr := B.returns
  have hts := atoms_spec (ws := wsX6_empties) B.pre
  have hown : s.vm.findClass RX6 = some m.cls := findClass_of_methodNamed B.named
  have hlocks := B.notSynchronized
  have hK := hW.1
  have hS : va_S (AA b0) s.heap s.heap [] := va_S.rf
  have hE : entryFrame m args 2 = F0 m 0 ((lg_sl [.ref (b0 + 367)] ++ List.replicate (2 - (lg_sl [.ref (b0 + 367)]).length) Slot.unset).toArray) [] := by rw [hargs]; exact lg_entry_eq m _ _
  rw [hE]
  have hl := lv_entry [.ref (b0 + 367)] (n := 2) (Nat.le_of_ble_eq_true rfl)
  generalize (lg_sl [.ref (b0 + 367)] ++ List.replicate (2 - (lg_sl [.ref (b0 + 367)]).length) Slot.unset).toArray = ls at hl ⊢
  have hl : lv_has ls 2 [(0, .ref (b0 + 367))] := hl
  have j38 : ∀ (n38 : Nat), ∀ (S : St) (a1 : Int32), ∀ (H : Heap) (locs : List Loc) (ls : Array Slot), wp_X6_empties_38 P n38 S a1 → HP D cy b0 NALL S H → Fx S → va_S (AA b0) s.heap H locs → lv_has ls 2 [(0, .ref (b0 + 367)), (1, .int a1)] → W p l e rm_X6_empties s m args below meth c H locs 0 0 (MQ below (QC (Pv P) (Wb D cy b0 NALL) b0) args s 0 0 (AA b0)) (F0 m 38 ls []) := by
    intro n38
    induction n38 with
    | zero => intro S a1  H locs ls hw _ _ _ _; exact False.elim hw
    | succ n38 ih38 =>
      intro S a1  H locs ls hw hP hF hS hl
      rw [wp_X6_empties_38] at hw
      refine lv_iload_n hx hb dX6_empties_38 rfl (lv_at hl 1 rfl) ?_
      refine lv_bipush (v := 112) hx hb dX6_empties_39 (by decide) ?_
      refine lv_icmp_ge (x := a1) (y := 112) (tgt := 57) hx hb dX6_empties_41 (by decide) (fun c41 => ?_) (fun c41 => ?_)
      · rw [if_pos c41] at hw
        exact q_vret hx hb hr hP hF hS hw dX6_empties_57 hlocks
      · rw [if_neg c41] at hw
        refine lv_aload_n hx hb dX6_empties_44 rfl (lv_at hl 0 rfl) ?_
        refine gf_6_9 (k := 367) hx hb hts (by decide +kernel) hown hK hP (by decide) (kk_367) (q := 373) (hF.1 367 9 373 ff_367_9) (hts (.fieldLink RX6 33 "OpticmeshModel" "used" "[I") (by decide +kernel)) dX6_empties_45 ?_
        refine lv_iload_n hx hb dX6_empties_48 rfl (lv_at hl 1 rfl) ?_
        refine lv_iconst (v := (-1)) hx hb dX6_empties_49 (by decide) ?_
        obtain ⟨h50, hw⟩ := hw
        refine q_iast (k := 373) (n := 112) (i := a1) (x := (-1)) hx hb hK hP hS (by decide) (kk_373) (ll_373) h50 dX6_empties_50 (fun H locs hz hP hS => ?_)
        have hF : Fx (sI S 373 (a1.toNatClampNeg) (-1)) := Fx.sI hF _ _ _
        generalize eS50 : sI S 373 (a1.toNatClampNeg) (-1) = S50 at hP hF
        have hw := hw S50 eS50.symm
        obtain ⟨y51, e51⟩ : ∃ z : Int32, z = a1 + 1 := ⟨_, rfl⟩
        have hw := hw y51 e51
        refine lv_iinc (v := y51) (lv' := [(1, .int y51), (0, .ref (b0 + 367))]) hx hb dX6_empties_51 hl (k := 1) rfl (by rw [e51]; rfl) (by decide) rfl (fun ls hl => ?_)
        refine lv_goto (tgt := 38) hx hb dX6_empties_54 (by decide) ?_
        exact ih38 S50 y51  _ _ _ hw hP hF hS (lv_sub hl [1, 0] rfl)
  have j36 : ∀ (S : St) , ∀ (H : Heap) (locs : List Loc) (ls : Array Slot), wp_X6_empties_36 P S → HP D cy b0 NALL S H → Fx S → va_S (AA b0) s.heap H locs → lv_has ls 2 [(0, .ref (b0 + 367))] → W p l e rm_X6_empties s m args below meth c H locs 0 0 (MQ below (QC (Pv P) (Wb D cy b0 NALL) b0) args s 0 0 (AA b0)) (F0 m 36 ls []) := by
    intro S  H locs ls hw hP hF hS hl
    unfold wp_X6_empties_36 at hw
    refine lv_iconst (v := 0) hx hb dX6_empties_36 (by decide) ?_
    refine lv_istore_n (lv' := [(1, .int 0), (0, .ref (b0 + 367))]) hx hb dX6_empties_37 rfl hl (by decide) rfl (fun ls hl => ?_)
    obtain ⟨n38, hw⟩ := hw
    exact j38 n38 S 0  _ _ _ hw hP hF hS (lv_sub hl [1, 0] rfl)
  have j17 : ∀ (n17 : Nat), ∀ (S : St) (a1 : Int32), ∀ (H : Heap) (locs : List Loc) (ls : Array Slot), wp_X6_empties_17 P n17 S a1 → HP D cy b0 NALL S H → Fx S → va_S (AA b0) s.heap H locs → lv_has ls 2 [(0, .ref (b0 + 367)), (1, .int a1)] → W p l e rm_X6_empties s m args below meth c H locs 0 0 (MQ below (QC (Pv P) (Wb D cy b0 NALL) b0) args s 0 0 (AA b0)) (F0 m 17 ls []) := by
    intro n17
    induction n17 with
    | zero => intro S a1  H locs ls hw _ _ _ _; exact False.elim hw
    | succ n17 ih17 =>
      intro S a1  H locs ls hw hP hF hS hl
      rw [wp_X6_empties_17] at hw
      refine lv_iload_n hx hb dX6_empties_17 rfl (lv_at hl 1 rfl) ?_
      refine lv_bipush (v := 8) hx hb dX6_empties_18 (by decide) ?_
      refine lv_icmp_ge (x := a1) (y := 8) (tgt := 36) hx hb dX6_empties_20 (by decide) (fun c20 => ?_) (fun c20 => ?_)
      · rw [if_pos c20] at hw
        exact j36 S  _ _ _ hw hP hF hS (lv_sub hl [0] rfl)
      · rw [if_neg c20] at hw
        refine lv_aload_n hx hb dX6_empties_23 rfl (lv_at hl 0 rfl) ?_
        refine gf_6_4 (k := 367) hx hb hts (by decide +kernel) hown hK hP (by decide) (kk_367) (q := 368) (hF.1 367 4 368 ff_367_4) (hts (.fieldLink RX6 16 "OpticmeshModel" "doConvert" "[Z") (by decide +kernel)) dX6_empties_24 ?_
        refine lv_iload_n hx hb dX6_empties_27 rfl (lv_at hl 1 rfl) ?_
        refine lv_iconst (v := 0) hx hb dX6_empties_28 (by decide) ?_
        obtain ⟨h29, hw⟩ := hw
        refine q_zast (k := 368) (n := 8) (i := a1) (x := b2i false) hx hb hK hP hS (by decide) (kk_368) (ll_368) (b2i_nar false) h29 dX6_empties_29 (fun H locs hz hP hS => ?_)
        have hF : Fx (sI S 368 (a1.toNatClampNeg) (b2i false)) := Fx.sI hF _ _ _
        generalize eS29 : sI S 368 (a1.toNatClampNeg) (b2i false) = S29 at hP hF
        have hw := hw S29 eS29.symm
        obtain ⟨y30, e30⟩ : ∃ z : Int32, z = a1 + 1 := ⟨_, rfl⟩
        have hw := hw y30 e30
        refine lv_iinc (v := y30) (lv' := [(1, .int y30), (0, .ref (b0 + 367))]) hx hb dX6_empties_30 hl (k := 1) rfl (by rw [e30]; rfl) (by decide) rfl (fun ls hl => ?_)
        refine lv_goto (tgt := 17) hx hb dX6_empties_33 (by decide) ?_
        exact ih17 S29 y30  _ _ _ hw hP hF hS (lv_sub hl [1, 0] rfl)
  unfold wp_X6_empties at hw
  refine lv_aload_n hx hb dX6_empties_0 rfl (lv_at hl 0 rfl) ?_
  refine lv_iconst (v := 0) hx hb dX6_empties_1 (by decide) ?_
  refine pf_6_3 (k := 367) (x := 0) hx hb hts (by decide +kernel) hown hK hP hS (by decide) (kk_367) (hts (.fieldLink RX6 90 "OpticmeshModel" "fibres" "I") (by decide +kernel)) dX6_empties_2 (fun H locs hz hP hS => ?_)
  have hF : Fx (sI S 367 3 0) := Fx.sI hF _ _ _
  generalize eS2 : sI S 367 3 0 = S2 at hP hF
  have hw := hw S2 eS2.symm
  refine lv_aload_n hx hb dX6_empties_5 rfl (lv_at hl 0 rfl) ?_
  refine lv_iconst (v := 0) hx hb dX6_empties_6 (by decide) ?_
  refine pf_6_10 (k := 367) (x := 0) hx hb hts (by decide +kernel) hown hK hP hS (by decide) (kk_367) (hts (.fieldLink RX6 93 "OpticmeshModel" "requests" "I") (by decide +kernel)) dX6_empties_7 (fun H locs hz hP hS => ?_)
  have hF : Fx (sI S2 367 10 0) := Fx.sI hF _ _ _
  generalize eS7 : sI S2 367 10 0 = S7 at hP hF
  have hw := hw S7 eS7.symm
  refine lv_aload_n hx hb dX6_empties_10 rfl (lv_at hl 0 rfl) ?_
  refine lv_iconst (v := 0) hx hb dX6_empties_11 (by decide) ?_
  refine pf_6_13 (k := 367) (x := 0) hx hb hts (by decide +kernel) hown hK hP hS (by decide) (kk_367) (hts (.fieldLink RX6 96 "OpticmeshModel" "lights" "I") (by decide +kernel)) dX6_empties_12 (fun H locs hz hP hS => ?_)
  have hF : Fx (sI S7 367 13 0) := Fx.sI hF _ _ _
  generalize eS12 : sI S7 367 13 0 = S12 at hP hF
  have hw := hw S12 eS12.symm
  refine lv_iconst (v := 0) hx hb dX6_empties_15 (by decide) ?_
  refine lv_istore_n (lv' := [(1, .int 0), (0, .ref (b0 + 367))]) hx hb dX6_empties_16 rfl hl (by decide) rfl (fun ls hl => ?_)
  obtain ⟨n17, hw⟩ := hw
  exact j17 n17 S12 0  _ _ _ hw hP hF hS (lv_sub hl [1, 0] rfl)
set_option maxHeartbeats 4000000 in
set_option maxRecDepth 100000 in
theorem c_X6_areTwo (l : Launch) (D : va_G) (cy : Nat → ClassId) (b0 : Nat) (S : St) (x1 : Int32) (x2 : Int32)  (P : Bool → St → Prop) (hw : wp_X6_areTwo S x1 x2 P) : Met l yX6_areTwo wsX6_areTwo rm_X6_areTwo (va_Pc [.ref (b0 + 367), .int x1, .int x2] (Wd D cy b0 NALL S)) (QC (Pz P) (Wb D cy b0 NALL) b0) 0 0 (AA b0) := by
  refine Met.ofW (cc := cX6_areTwo) (maxL := 3) (ret := (some .boolean)) (by decide) rfl ?_
  intro p e s m args below meth c s₁ B hml hv
  obtain ⟨hargs, hW, hP, hF⟩ := hv
  have hx := B.exec
  have hb := B.bytes
  have hr := B.returns
  have hts := atoms_spec (ws := wsX6_areTwo) B.pre
  have hown : s.vm.findClass RX6 = some m.cls := findClass_of_methodNamed B.named
  have hlocks := B.notSynchronized
  have hK := hW.1
  have hS : va_S (AA b0) s.heap s.heap [] := va_S.rf
  have hE : entryFrame m args 3 = F0 m 0 ((lg_sl [.ref (b0 + 367), .int x1, .int x2] ++ List.replicate (3 - (lg_sl [.ref (b0 + 367), .int x1, .int x2]).length) Slot.unset).toArray) [] := by rw [hargs]; exact lg_entry_eq m _ _
  rw [hE]
  have hl := lv_entry [.ref (b0 + 367), .int x1, .int x2] (n := 3) (Nat.le_of_ble_eq_true rfl)
  generalize (lg_sl [.ref (b0 + 367), .int x1, .int x2] ++ List.replicate (3 - (lg_sl [.ref (b0 + 367), .int x1, .int x2]).length) Slot.unset).toArray = ls at hl ⊢
  have hl : lv_has ls 3 [(0, .ref (b0 + 367)), (1, .int x1), (2, .int x2)] := hl
  unfold wp_X6_areTwo at hw
  refine lv_iload_n hx hb dX6_areTwo_0 rfl (lv_at hl 1 rfl) ?_
  refine lv_iconst (v := 0) hx hb dX6_areTwo_1 (by decide) ?_
  refine lv_aload_n hx hb dX6_areTwo_2 rfl (lv_at hl 0 rfl) ?_
  refine gf_6_1 (k := 367) hx hb hts (by decide +kernel) hown hK hP (by decide) (kk_367) (hts (.fieldLink RX6 7 "OpticmeshModel" "nodes" "I") (by decide +kernel)) dX6_areTwo_3 ?_
  refine lv_iconst (v := 1) hx hb dX6_areTwo_6 (by decide) ?_
  refine lv_isub hx hb dX6_areTwo_7 ?_
  refine q_call (va_runS (As := [.int x1, .int 0, .int ((gI S 367 1) - 1)]) (rest := []) ⟨hx, hb, hml, hown, hts⟩ (c_X6_in l D cy b0 S x1 0 ((gI S 367 1) - 1) _ hw) (va_cwS 3 hts gX6_areTwo_X6_in rfl rfl rfl (by decide +kernel) ⟨(Nat.le_of_ble_eq_true rfl), (Nat.le_of_ble_eq_true rfl)⟩) (q_pS hW hP hF hS [.int x1, .int 0, .int ((gI S 367 1) - 1)]) rfl rfl hl.1 rfl (lv_room (Nat.le_of_ble_eq_true rfl)) dX6_areTwo_8 ⟨(Nat.le_of_ble_eq_true rfl), (Nat.le_of_ble_eq_true rfl)⟩) hS (fun v8 S8 t8 H locs hh hp hB hz hk9 hS => ?_)
  obtain ⟨r8, rfl, hw⟩ := hp
  have hP : HP D cy b0 NALL S8 H := by rw [← hh]; exact hB.1
  have hF := hB.2
  try dsimp only at hw
  refine W.eq (g2 := F0 m 11 ls [.int (b2i r8)]) rfl ?_
  refine lv_if_eq (x := b2i r8) (tgt := 37) hx hb dX6_areTwo_11 (by decide) (fun c11 => ?_) (fun c11 => ?_)
  · have c11 := b2i_z c11
    rw [if_neg c11] at hw
    refine lv_iconst (v := 0) hx hb dX6_areTwo_37 (by decide) ?_
    exact q_zret (v := false) hx hb hr hP hF hS hw dX6_areTwo_38 hlocks
  · have c11 := b2i_n c11
    rw [if_pos c11] at hw
    refine lv_iload_n hx hb dX6_areTwo_14 rfl (lv_at hl 2 rfl) ?_
    refine lv_iconst (v := 0) hx hb dX6_areTwo_15 (by decide) ?_
    refine lv_aload_n hx hb dX6_areTwo_16 rfl (lv_at hl 0 rfl) ?_
    refine gf_6_1 (k := 367) hx hb hts (by decide +kernel) hown hK hP (by decide) (kk_367) (hts (.fieldLink RX6 7 "OpticmeshModel" "nodes" "I") (by decide +kernel)) dX6_areTwo_17 ?_
    refine lv_iconst (v := 1) hx hb dX6_areTwo_20 (by decide) ?_
    refine lv_isub hx hb dX6_areTwo_21 ?_
    refine q_call (va_runS (As := [.int x2, .int 0, .int ((gI S8 367 1) - 1)]) (rest := []) ⟨hx, hb, hml, hown, hts⟩ (c_X6_in l D cy b0 S8 x2 0 ((gI S8 367 1) - 1) _ hw) (va_cwS 3 hts gX6_areTwo_X6_in rfl rfl rfl (by decide +kernel) ⟨(Nat.le_of_ble_eq_true rfl), (Nat.le_of_ble_eq_true rfl)⟩) (q_pS hW hP hF hS [.int x2, .int 0, .int ((gI S8 367 1) - 1)]) rfl rfl hl.1 rfl (lv_room (Nat.le_of_ble_eq_true rfl)) dX6_areTwo_22 ⟨(Nat.le_of_ble_eq_true rfl), (Nat.le_of_ble_eq_true rfl)⟩) hS (fun v22 S22 t22 H locs hh hp hB hz hk9 hS => ?_)
    obtain ⟨r22, rfl, hw⟩ := hp
    have hP : HP D cy b0 NALL S22 H := by rw [← hh]; exact hB.1
    have hF := hB.2
    try dsimp only at hw
    refine W.eq (g2 := F0 m 25 ls [.int (b2i r22)]) rfl ?_
    refine lv_if_eq (x := b2i r22) (tgt := 37) hx hb dX6_areTwo_25 (by decide) (fun c25 => ?_) (fun c25 => ?_)
    · have c25 := b2i_z c25
      rw [if_neg c25] at hw
      refine lv_iconst (v := 0) hx hb dX6_areTwo_37 (by decide) ?_
      exact q_zret (v := false) hx hb hr hP hF hS hw dX6_areTwo_38 hlocks
    · have c25 := b2i_n c25
      rw [if_pos c25] at hw
      refine lv_iload_n hx hb dX6_areTwo_28 rfl (lv_at hl 1 rfl) ?_
      refine lv_iload_n hx hb dX6_areTwo_29 rfl (lv_at hl 2 rfl) ?_
      refine lv_icmp_eq (x := x1) (y := x2) (tgt := 37) hx hb dX6_areTwo_30 (by decide) (fun c30 => ?_) (fun c30 => ?_)
      · rw [if_pos c30] at hw
        refine lv_iconst (v := 0) hx hb dX6_areTwo_37 (by decide) ?_
        exact q_zret (v := false) hx hb hr hP hF hS hw dX6_areTwo_38 hlocks
      · rw [if_neg c30] at hw
        refine lv_iconst (v := 1) hx hb dX6_areTwo_33 (by decide) ?_
        refine lv_goto (tgt := 38) hx hb dX6_areTwo_34 (by decide) ?_
        exact q_zret (v := true) hx hb hr hP hF hS hw dX6_areTwo_38 hlocks
set_option maxHeartbeats 4000000 in
set_option maxRecDepth 100000 in
theorem c_X6_isFibre (l : Launch) (D : va_G) (cy : Nat → ClassId) (b0 : Nat) (S : St) (x1 : Int32)  (P : Bool → St → Prop) (hw : wp_X6_isFibre S x1 P) : Met l yX6_isFibre wsX6_isFibre rm_X6_isFibre (va_Pc [.ref (b0 + 367), .int x1] (Wd D cy b0 NALL S)) (QC (Pz P) (Wb D cy b0 NALL) b0) 0 0 (AA b0) := by
  refine Met.ofW (cc := cX6_isFibre) (maxL := 2) (ret := (some .boolean)) (by decide) rfl ?_
  intro p e s m args below meth c s₁ B hml hv
  obtain ⟨hargs, hW, hP, hF⟩ := hv
  have hx := B.exec
  have hb := B.bytes
  have hr := B.returns
  have hts := atoms_spec (ws := wsX6_isFibre) B.pre
  have hown : s.vm.findClass RX6 = some m.cls := findClass_of_methodNamed B.named
  have hlocks := B.notSynchronized
  have hK := hW.1
  have hS : va_S (AA b0) s.heap s.heap [] := va_S.rf
  have hE : entryFrame m args 2 = F0 m 0 ((lg_sl [.ref (b0 + 367), .int x1] ++ List.replicate (2 - (lg_sl [.ref (b0 + 367), .int x1]).length) Slot.unset).toArray) [] := by rw [hargs]; exact lg_entry_eq m _ _
  rw [hE]
  have hl := lv_entry [.ref (b0 + 367), .int x1] (n := 2) (Nat.le_of_ble_eq_true rfl)
  generalize (lg_sl [.ref (b0 + 367), .int x1] ++ List.replicate (2 - (lg_sl [.ref (b0 + 367), .int x1]).length) Slot.unset).toArray = ls at hl ⊢
  have hl : lv_has ls 2 [(0, .ref (b0 + 367)), (1, .int x1)] := hl
  unfold wp_X6_isFibre at hw
  refine lv_iload_n hx hb dX6_isFibre_0 rfl (lv_at hl 1 rfl) ?_
  refine lv_iconst (v := 0) hx hb dX6_isFibre_1 (by decide) ?_
  refine lv_aload_n hx hb dX6_isFibre_2 rfl (lv_at hl 0 rfl) ?_
  refine gf_6_3 (k := 367) hx hb hts (by decide +kernel) hown hK hP (by decide) (kk_367) (hts (.fieldLink RX6 90 "OpticmeshModel" "fibres" "I") (by decide +kernel)) dX6_isFibre_3 ?_
  refine lv_iconst (v := 1) hx hb dX6_isFibre_6 (by decide) ?_
  refine lv_isub hx hb dX6_isFibre_7 ?_
  refine q_call (va_runS (As := [.int x1, .int 0, .int ((gI S 367 3) - 1)]) (rest := []) ⟨hx, hb, hml, hown, hts⟩ (c_X6_in l D cy b0 S x1 0 ((gI S 367 3) - 1) _ hw) (va_cwS 3 hts gX6_isFibre_X6_in rfl rfl rfl (by decide +kernel) ⟨(Nat.le_of_ble_eq_true rfl), (Nat.le_of_ble_eq_true rfl)⟩) (q_pS hW hP hF hS [.int x1, .int 0, .int ((gI S 367 3) - 1)]) rfl rfl hl.1 rfl (lv_room (Nat.le_of_ble_eq_true rfl)) dX6_isFibre_8 ⟨(Nat.le_of_ble_eq_true rfl), (Nat.le_of_ble_eq_true rfl)⟩) hS (fun v8 S8 t8 H locs hh hp hB hz hk9 hS => ?_)
  obtain ⟨r8, rfl, hw⟩ := hp
  have hP : HP D cy b0 NALL S8 H := by rw [← hh]; exact hB.1
  have hF := hB.2
  try dsimp only at hw
  refine W.eq (g2 := F0 m 11 ls [.int (b2i r8)]) rfl ?_
  exact q_zret (v := r8) hx hb hr hP hF hS hw dX6_isFibre_11 hlocks
set_option maxHeartbeats 4000000 in
set_option maxRecDepth 100000 in
theorem c_X6_isLight (l : Launch) (D : va_G) (cy : Nat → ClassId) (b0 : Nat) (S : St) (x1 : Int32)  (P : Bool → St → Prop) (hw : wp_X6_isLight S x1 P) : Met l yX6_isLight wsX6_isLight rm_X6_isLight (va_Pc [.ref (b0 + 367), .int x1] (Wd D cy b0 NALL S)) (QC (Pz P) (Wb D cy b0 NALL) b0) 0 0 (AA b0) := by
  refine Met.ofW (cc := cX6_isLight) (maxL := 2) (ret := (some .boolean)) (by decide) rfl ?_
  intro p e s m args below meth c s₁ B hml hv
  obtain ⟨hargs, hW, hP, hF⟩ := hv
  have hx := B.exec
  have hb := B.bytes
  have hr := B.returns
  have hts := atoms_spec (ws := wsX6_isLight) B.pre
  have hown : s.vm.findClass RX6 = some m.cls := findClass_of_methodNamed B.named
  have hlocks := B.notSynchronized
  have hK := hW.1
  have hS : va_S (AA b0) s.heap s.heap [] := va_S.rf
  have hE : entryFrame m args 2 = F0 m 0 ((lg_sl [.ref (b0 + 367), .int x1] ++ List.replicate (2 - (lg_sl [.ref (b0 + 367), .int x1]).length) Slot.unset).toArray) [] := by rw [hargs]; exact lg_entry_eq m _ _
  rw [hE]
  have hl := lv_entry [.ref (b0 + 367), .int x1] (n := 2) (Nat.le_of_ble_eq_true rfl)
  generalize (lg_sl [.ref (b0 + 367), .int x1] ++ List.replicate (2 - (lg_sl [.ref (b0 + 367), .int x1]).length) Slot.unset).toArray = ls at hl ⊢
  have hl : lv_has ls 2 [(0, .ref (b0 + 367)), (1, .int x1)] := hl
  unfold wp_X6_isLight at hw
  refine lv_iload_n hx hb dX6_isLight_0 rfl (lv_at hl 1 rfl) ?_
  refine lv_iconst (v := 0) hx hb dX6_isLight_1 (by decide) ?_
  refine lv_aload_n hx hb dX6_isLight_2 rfl (lv_at hl 0 rfl) ?_
  refine gf_6_13 (k := 367) hx hb hts (by decide +kernel) hown hK hP (by decide) (kk_367) (hts (.fieldLink RX6 96 "OpticmeshModel" "lights" "I") (by decide +kernel)) dX6_isLight_3 ?_
  refine lv_iconst (v := 1) hx hb dX6_isLight_6 (by decide) ?_
  refine lv_isub hx hb dX6_isLight_7 ?_
  refine q_call (va_runS (As := [.int x1, .int 0, .int ((gI S 367 13) - 1)]) (rest := []) ⟨hx, hb, hml, hown, hts⟩ (c_X6_in l D cy b0 S x1 0 ((gI S 367 13) - 1) _ hw) (va_cwS 3 hts gX6_isLight_X6_in rfl rfl rfl (by decide +kernel) ⟨(Nat.le_of_ble_eq_true rfl), (Nat.le_of_ble_eq_true rfl)⟩) (q_pS hW hP hF hS [.int x1, .int 0, .int ((gI S 367 13) - 1)]) rfl rfl hl.1 rfl (lv_room (Nat.le_of_ble_eq_true rfl)) dX6_isLight_8 ⟨(Nat.le_of_ble_eq_true rfl), (Nat.le_of_ble_eq_true rfl)⟩) hS (fun v8 S8 t8 H locs hh hp hB hz hk9 hS => ?_)
  obtain ⟨r8, rfl, hw⟩ := hp
  have hP : HP D cy b0 NALL S8 H := by rw [← hh]; exact hB.1
  have hF := hB.2
  try dsimp only at hw
  refine W.eq (g2 := F0 m 11 ls [.int (b2i r8)]) rfl ?_
  exact q_zret (v := r8) hx hb hr hP hF hS hw dX6_isLight_11 hlocks
set_option maxHeartbeats 4000000 in
set_option maxRecDepth 100000 in
theorem c_X6_begin (l : Launch) (D : va_G) (cy : Nat → ClassId) (b0 : Nat) (S : St) (x1 : Int32) (x2 : Int32)  (P : St → Prop) (hw : wp_X6_begin S x1 x2 P) : Met l yX6_begin wsX6_begin rm_X6_begin (va_Pc [.ref (b0 + 367), .int x1, .int x2] (Wd D cy b0 NALL S)) (QC (Pv P) (Wb D cy b0 NALL) b0) 0 0 (AA b0) := by
  refine Met.ofW (cc := cX6_begin) (maxL := 3) (ret := none) (by decide) rfl ?_
  intro p e s m args below meth c s₁ B hml hv
  obtain ⟨hargs, hW, hP, hF⟩ := hv
  have hx := B.exec
  have hb := B.bytes
  have hr := B.returns
  have hts := atoms_spec (ws := wsX6_begin) B.pre
  have hown : s.vm.findClass RX6 = some m.cls := findClass_of_methodNamed B.named
  have hlocks := B.notSynchronized
  have hK := hW.1
  have hS : va_S (AA b0) s.heap s.heap [] := va_S.rf
  have hE : entryFrame m args 3 = F0 m 0 ((lg_sl [.ref (b0 + 367), .int x1, .int x2] ++ List.replicate (3 - (lg_sl [.ref (b0 + 367), .int x1, .int x2]).length) Slot.unset).toArray) [] := by rw [hargs]; exact lg_entry_eq m _ _
  rw [hE]
  have hl := lv_entry [.ref (b0 + 367), .int x1, .int x2] (n := 3) (Nat.le_of_ble_eq_true rfl)
  generalize (lg_sl [.ref (b0 + 367), .int x1, .int x2] ++ List.replicate (3 - (lg_sl [.ref (b0 + 367), .int x1, .int x2]).length) Slot.unset).toArray = ls at hl ⊢
  have hl : lv_has ls 3 [(0, .ref (b0 + 367)), (1, .int x1), (2, .int x2)] := hl
  have j26 : ∀ (S : St) (t1 : Bool), ∀ (H : Heap) (locs : List Loc) (ls : Array Slot), wp_X6_begin_26 x1 x2 P S t1 → HP D cy b0 NALL S H → Fx S → va_S (AA b0) s.heap H locs → lv_has ls 3 [(0, .ref (b0 + 367)), (1, .int x1), (2, .int x2)] → W p l e rm_X6_begin s m args below meth c H locs 0 0 (MQ below (QC (Pv P) (Wb D cy b0 NALL) b0) args s 0 0 (AA b0)) (F0 m 26 ls [.int (b2i t1), .ref (b0 + 367)]) := by
    intro S t1  H locs ls hw hP hF hS hl
    unfold wp_X6_begin_26 at hw
    refine q_call (va_runV (As := [.int (b2i t1)]) (rest := []) ⟨hx, hb, hml, hown, hts⟩ (c_X6_holds l D cy b0 S (b2i t1) _ hw) (cwV 1 hts gX6_begin_X6_holds rfl rfl rfl (by decide +kernel) ⟨(Nat.le_of_ble_eq_true rfl), (Nat.le_of_ble_eq_true rfl)⟩) (q_pV hW hP hF hS (k := 367) (ci := 6) (by decide) (cell_6 (kk_367)) rfl [.int (b2i t1)]) rfl rfl hl.1 rfl (lv_room (Nat.le_of_ble_eq_true rfl)) dX6_begin_26 ⟨(Nat.le_of_ble_eq_true rfl), (Nat.le_of_ble_eq_true rfl)⟩) hS (fun v26 S26 t26 H locs hh hp hB hz hk9 hS => ?_)
    obtain ⟨r26, rfl, hw⟩ := hp
    have hP : HP D cy b0 NALL S26 H := by rw [← hh]; exact hB.1
    have hF := hB.2
    try dsimp only at hw
    refine W.eq (g2 := F0 m 29 ls [.int (b2i r26)]) rfl ?_
    refine lv_if_eq (x := b2i r26) (tgt := 46) hx hb dX6_begin_29 (by decide) (fun c29 => ?_) (fun c29 => ?_)
    · have c29 := b2i_z c29
      rw [if_neg c29] at hw
      exact q_vret hx hb hr hP hF hS hw dX6_begin_46 hlocks
    · have c29 := b2i_n c29
      rw [if_pos c29] at hw
      refine lv_aload_n hx hb dX6_begin_32 rfl (lv_at hl 0 rfl) ?_
      refine lv_iload_n hx hb dX6_begin_33 rfl (lv_at hl 1 rfl) ?_
      refine pf_6_1 (k := 367) (x := x1) hx hb hts (by decide +kernel) hown hK hP hS (by decide) (kk_367) (hts (.fieldLink RX6 7 "OpticmeshModel" "nodes" "I") (by decide +kernel)) dX6_begin_34 (fun H locs hz hP hS => ?_)
      have hF : Fx (sI S26 367 1 x1) := Fx.sI hF _ _ _
      generalize eS34 : sI S26 367 1 x1 = S34 at hP hF
      have hw := hw S34 eS34.symm
      refine lv_aload_n hx hb dX6_begin_37 rfl (lv_at hl 0 rfl) ?_
      refine lv_iload_n hx hb dX6_begin_38 rfl (lv_at hl 2 rfl) ?_
      refine pf_6_2 (k := 367) (x := x2) hx hb hts (by decide +kernel) hown hK hP hS (by decide) (kk_367) (hts (.fieldLink RX6 13 "OpticmeshModel" "wavelengths" "I") (by decide +kernel)) dX6_begin_39 (fun H locs hz hP hS => ?_)
      have hF : Fx (sI S34 367 2 x2) := Fx.sI hF _ _ _
      generalize eS39 : sI S34 367 2 x2 = S39 at hP hF
      have hw := hw S39 eS39.symm
      refine lv_aload_n hx hb dX6_begin_42 rfl (lv_at hl 0 rfl) ?_
      refine q_call (va_runV (As := []) (rest := []) ⟨hx, hb, hml, hown, hts⟩ (c_X6_empties l D cy b0 S39 _ hw) (cwV 0 hts gX6_begin_X6_empties rfl rfl rfl (by decide +kernel) ⟨(Nat.le_of_ble_eq_true rfl), (Nat.le_of_ble_eq_true rfl)⟩) (q_pV hW hP hF hS (k := 367) (ci := 6) (by decide) (cell_6 (kk_367)) rfl []) rfl rfl hl.1 rfl (lv_room (Nat.le_of_ble_eq_true rfl)) dX6_begin_43 ⟨(Nat.le_of_ble_eq_true rfl), (Nat.le_of_ble_eq_true rfl)⟩) hS (fun v43 S43 t43 H locs hh hp hB hz hk9 hS => ?_)
      obtain ⟨rfl, hw⟩ := hp
      have hP : HP D cy b0 NALL S43 H := by rw [← hh]; exact hB.1
      have hF := hB.2
      try dsimp only at hw
      refine W.eq (g2 := F0 m 46 ls []) rfl ?_
      exact q_vret hx hb hr hP hF hS hw dX6_begin_46 hlocks
  have j25 : ∀ (S : St) , ∀ (H : Heap) (locs : List Loc) (ls : Array Slot), wp_X6_begin_25 x1 x2 P S → HP D cy b0 NALL S H → Fx S → va_S (AA b0) s.heap H locs → lv_has ls 3 [(0, .ref (b0 + 367)), (1, .int x1), (2, .int x2)] → W p l e rm_X6_begin s m args below meth c H locs 0 0 (MQ below (QC (Pv P) (Wb D cy b0 NALL) b0) args s 0 0 (AA b0)) (F0 m 25 ls [.ref (b0 + 367)]) := by
    intro S  H locs ls hw hP hF hS hl
    unfold wp_X6_begin_25 at hw
    refine lv_iconst (v := 1) hx hb dX6_begin_25 (by decide) ?_
    exact j26 S true  _ _ _ hw hP hF hS (lv_sub hl [0, 1, 2] rfl)
  unfold wp_X6_begin at hw
  refine lv_aload_n hx hb dX6_begin_0 rfl (lv_at hl 0 rfl) ?_
  refine lv_iload_n hx hb dX6_begin_1 rfl (lv_at hl 1 rfl) ?_
  refine lv_iconst (v := 2) hx hb dX6_begin_2 (by decide) ?_
  refine lv_bipush (v := 8) hx hb dX6_begin_3 (by decide) ?_
  refine q_call (va_runS (As := [.int x1, .int 2, .int 8]) (rest := [.ref (b0 + 367)]) ⟨hx, hb, hml, hown, hts⟩ (c_X6_in l D cy b0 S x1 2 8 _ hw) (va_cwS 3 hts gX6_begin_X6_in rfl rfl rfl (by decide +kernel) ⟨(Nat.le_of_ble_eq_true rfl), (Nat.le_of_ble_eq_true rfl)⟩) (q_pS hW hP hF hS [.int x1, .int 2, .int 8]) rfl rfl hl.1 rfl (lv_room (Nat.le_of_ble_eq_true rfl)) dX6_begin_5 ⟨(Nat.le_of_ble_eq_true rfl), (Nat.le_of_ble_eq_true rfl)⟩) hS (fun v5 S5 t5 H locs hh hp hB hz hk9 hS => ?_)
  obtain ⟨r5, rfl, hw⟩ := hp
  have hP : HP D cy b0 NALL S5 H := by rw [← hh]; exact hB.1
  have hF := hB.2
  try dsimp only at hw
  refine W.eq (g2 := F0 m 8 ls [.int (b2i r5), .ref (b0 + 367)]) rfl ?_
  refine lv_if_eq (x := b2i r5) (tgt := 25) hx hb dX6_begin_8 (by decide) (fun c8 => ?_) (fun c8 => ?_)
  · have c8 := b2i_z c8
    rw [if_neg c8] at hw
    exact j25 S5  _ _ _ hw hP hF hS (lv_sub hl [0, 1, 2] rfl)
  · have c8 := b2i_n c8
    rw [if_pos c8] at hw
    refine lv_iload_n hx hb dX6_begin_11 rfl (lv_at hl 2 rfl) ?_
    refine lv_iconst (v := 1) hx hb dX6_begin_12 (by decide) ?_
    refine lv_bipush (v := 8) hx hb dX6_begin_13 (by decide) ?_
    refine q_call (va_runS (As := [.int x2, .int 1, .int 8]) (rest := [.ref (b0 + 367)]) ⟨hx, hb, hml, hown, hts⟩ (c_X6_in l D cy b0 S5 x2 1 8 _ hw) (va_cwS 3 hts gX6_begin_X6_in rfl rfl rfl (by decide +kernel) ⟨(Nat.le_of_ble_eq_true rfl), (Nat.le_of_ble_eq_true rfl)⟩) (q_pS hW hP hF hS [.int x2, .int 1, .int 8]) rfl rfl hl.1 rfl (lv_room (Nat.le_of_ble_eq_true rfl)) dX6_begin_15 ⟨(Nat.le_of_ble_eq_true rfl), (Nat.le_of_ble_eq_true rfl)⟩) hS (fun v15 S15 t15 H locs hh hp hB hz hk9 hS => ?_)
    obtain ⟨r15, rfl, hw⟩ := hp
    have hP : HP D cy b0 NALL S15 H := by rw [← hh]; exact hB.1
    have hF := hB.2
    try dsimp only at hw
    refine W.eq (g2 := F0 m 18 ls [.int (b2i r15), .ref (b0 + 367)]) rfl ?_
    refine lv_if_eq (x := b2i r15) (tgt := 25) hx hb dX6_begin_18 (by decide) (fun c18 => ?_) (fun c18 => ?_)
    · have c18 := b2i_z c18
      rw [if_neg c18] at hw
      exact j25 S15  _ _ _ hw hP hF hS (lv_sub hl [0, 1, 2] rfl)
    · have c18 := b2i_n c18
      rw [if_pos c18] at hw
      refine lv_iconst (v := 0) hx hb dX6_begin_21 (by decide) ?_
      refine lv_goto (tgt := 26) hx hb dX6_begin_22 (by decide) ?_
      exact j26 S15 false  _ _ _ hw hP hF hS (lv_sub hl [0, 1, 2] rfl)
set_option maxHeartbeats 4000000 in
set_option maxRecDepth 100000 in
theorem c_X6_addFibre (l : Launch) (D : va_G) (cy : Nat → ClassId) (b0 : Nat) (S : St) (x1 : Int32) (x2 : Int32) (x3 : Int32)  (P : Int32 → St → Prop) (hw : wp_X6_addFibre S x1 x2 x3 P) : Met l yX6_addFibre wsX6_addFibre rm_X6_addFibre (va_Pc [.ref (b0 + 367), .int x1, .int x2, .int x3] (Wd D cy b0 NALL S)) (QC (Pi P) (Wb D cy b0 NALL) b0) 0 0 (AA b0) := by
  refine Met.ofW (cc := cX6_addFibre) (maxL := 4) (ret := (some .int)) (by decide) rfl ?_
  intro p e s m args below meth c s₁ B hml hv
  obtain ⟨hargs, hW, hP, hF⟩ := hv
  have hx := B.exec
  have hb := B.bytes
  have hr := B.returns
  have hts := atoms_spec (ws := wsX6_addFibre) B.pre
  have hown : s.vm.findClass RX6 = some m.cls := findClass_of_methodNamed B.named
  have hlocks := B.notSynchronized
  have hK := hW.1
  have hS : va_S (AA b0) s.heap s.heap [] := va_S.rf
  have hE : entryFrame m args 4 = F0 m 0 ((lg_sl [.ref (b0 + 367), .int x1, .int x2, .int x3] ++ List.replicate (4 - (lg_sl [.ref (b0 + 367), .int x1, .int x2, .int x3]).length) Slot.unset).toArray) [] := by rw [hargs]; exact lg_entry_eq m _ _
  rw [hE]
  have hl := lv_entry [.ref (b0 + 367), .int x1, .int x2, .int x3] (n := 4) (Nat.le_of_ble_eq_true rfl)
  generalize (lg_sl [.ref (b0 + 367), .int x1, .int x2, .int x3] ++ List.replicate (4 - (lg_sl [.ref (b0 + 367), .int x1, .int x2, .int x3]).length) Slot.unset).toArray = ls at hl ⊢
  have hl : lv_has ls 4 [(0, .ref (b0 + 367)), (1, .int x1), (2, .int x2), (3, .int x3)] := hl
  have j39 : ∀ (S : St) (t1 : Int32), ∀ (H : Heap) (locs : List Loc) (ls : Array Slot), wp_X6_addFibre_39 x1 x2 x3 P S t1 → HP D cy b0 NALL S H → Fx S → va_S (AA b0) s.heap H locs → lv_has ls 4 [(0, .ref (b0 + 367)), (1, .int x1), (2, .int x2), (3, .int x3)] → W p l e rm_X6_addFibre s m args below meth c H locs 0 0 (MQ below (QC (Pi P) (Wb D cy b0 NALL) b0) args s 0 0 (AA b0)) (F0 m 39 ls [.int t1, .ref (b0 + 367)]) := by
    intro S t1  H locs ls hw hP hF hS hl
    unfold wp_X6_addFibre_39 at hw
    refine q_call (va_runV (As := [.int t1]) (rest := []) ⟨hx, hb, hml, hown, hts⟩ (c_X6_holds l D cy b0 S t1 _ hw) (cwV 1 hts gX6_addFibre_X6_holds rfl rfl rfl (by decide +kernel) ⟨(Nat.le_of_ble_eq_true rfl), (Nat.le_of_ble_eq_true rfl)⟩) (q_pV hW hP hF hS (k := 367) (ci := 6) (by decide) (cell_6 (kk_367)) rfl [.int t1]) rfl rfl hl.1 rfl (lv_room (Nat.le_of_ble_eq_true rfl)) dX6_addFibre_39 ⟨(Nat.le_of_ble_eq_true rfl), (Nat.le_of_ble_eq_true rfl)⟩) hS (fun v39 S39 t39 H locs hh hp hB hz hk9 hS => ?_)
    obtain ⟨r39, rfl, hw⟩ := hp
    have hP : HP D cy b0 NALL S39 H := by rw [← hh]; exact hB.1
    have hF := hB.2
    try dsimp only at hw
    refine W.eq (g2 := F0 m 42 ls [.int (b2i r39)]) rfl ?_
    refine lv_if_ne (x := b2i r39) (tgt := 47) hx hb dX6_addFibre_42 (by decide) (fun c42 => ?_) (fun c42 => ?_)
    · have c42 := b2i_n c42
      rw [if_pos c42] at hw
      refine lv_aload_n hx hb dX6_addFibre_47 rfl (lv_at hl 0 rfl) ?_
      refine gf_6_5 (k := 367) hx hb hts (by decide +kernel) hown hK hP (by decide) (kk_367) (q := 369) (hF.1 367 5 369 ff_367_5) (hts (.fieldLink RX6 20 "OpticmeshModel" "ones" "[I") (by decide +kernel)) dX6_addFibre_48 ?_
      refine lv_aload_n hx hb dX6_addFibre_51 rfl (lv_at hl 0 rfl) ?_
      refine gf_6_3 (k := 367) hx hb hts (by decide +kernel) hown hK hP (by decide) (kk_367) (hts (.fieldLink RX6 90 "OpticmeshModel" "fibres" "I") (by decide +kernel)) dX6_addFibre_52 ?_
      refine lv_iload_n hx hb dX6_addFibre_55 rfl (lv_at hl 1 rfl) ?_
      obtain ⟨h56, hw⟩ := hw
      refine q_iast (k := 369) (n := 14) (i := (gI S39 367 3)) (x := x1) hx hb hK hP hS (by decide) (kk_369) (ll_369) h56 dX6_addFibre_56 (fun H locs hz hP hS => ?_)
      have hF : Fx (sI S39 369 ((gI S39 367 3).toNatClampNeg) x1) := Fx.sI hF _ _ _
      generalize eS56 : sI S39 369 ((gI S39 367 3).toNatClampNeg) x1 = S56 at hP hF
      have hw := hw S56 eS56.symm
      refine lv_aload_n hx hb dX6_addFibre_57 rfl (lv_at hl 0 rfl) ?_
      refine gf_6_6 (k := 367) hx hb hts (by decide +kernel) hown hK hP (by decide) (kk_367) (q := 370) (hF.1 367 6 370 ff_367_6) (hts (.fieldLink RX6 24 "OpticmeshModel" "others" "[I") (by decide +kernel)) dX6_addFibre_58 ?_
      refine lv_aload_n hx hb dX6_addFibre_61 rfl (lv_at hl 0 rfl) ?_
      refine gf_6_3 (k := 367) hx hb hts (by decide +kernel) hown hK hP (by decide) (kk_367) (hts (.fieldLink RX6 90 "OpticmeshModel" "fibres" "I") (by decide +kernel)) dX6_addFibre_62 ?_
      refine lv_iload_n hx hb dX6_addFibre_65 rfl (lv_at hl 2 rfl) ?_
      obtain ⟨h66, hw⟩ := hw
      refine q_iast (k := 370) (n := 14) (i := (gI S56 367 3)) (x := x2) hx hb hK hP hS (by decide) (kk_370) (ll_370) h66 dX6_addFibre_66 (fun H locs hz hP hS => ?_)
      have hF : Fx (sI S56 370 ((gI S56 367 3).toNatClampNeg) x2) := Fx.sI hF _ _ _
      generalize eS66 : sI S56 370 ((gI S56 367 3).toNatClampNeg) x2 = S66 at hP hF
      have hw := hw S66 eS66.symm
      refine lv_aload_n hx hb dX6_addFibre_67 rfl (lv_at hl 0 rfl) ?_
      refine gf_6_7 (k := 367) hx hb hts (by decide +kernel) hown hK hP (by decide) (kk_367) (q := 371) (hF.1 367 7 371 ff_367_7) (hts (.fieldLink RX6 27 "OpticmeshModel" "lengths" "[I") (by decide +kernel)) dX6_addFibre_68 ?_
      refine lv_aload_n hx hb dX6_addFibre_71 rfl (lv_at hl 0 rfl) ?_
      refine gf_6_3 (k := 367) hx hb hts (by decide +kernel) hown hK hP (by decide) (kk_367) (hts (.fieldLink RX6 90 "OpticmeshModel" "fibres" "I") (by decide +kernel)) dX6_addFibre_72 ?_
      refine lv_iload_n hx hb dX6_addFibre_75 rfl (lv_at hl 3 rfl) ?_
      obtain ⟨h76, hw⟩ := hw
      refine q_iast (k := 371) (n := 14) (i := (gI S66 367 3)) (x := x3) hx hb hK hP hS (by decide) (kk_371) (ll_371) h76 dX6_addFibre_76 (fun H locs hz hP hS => ?_)
      have hF : Fx (sI S66 371 ((gI S66 367 3).toNatClampNeg) x3) := Fx.sI hF _ _ _
      generalize eS76 : sI S66 371 ((gI S66 367 3).toNatClampNeg) x3 = S76 at hP hF
      have hw := hw S76 eS76.symm
      refine lv_aload_n hx hb dX6_addFibre_77 rfl (lv_at hl 0 rfl) ?_
      refine gf_6_8 (k := 367) hx hb hts (by decide +kernel) hown hK hP (by decide) (kk_367) (q := 372) (hF.1 367 8 372 ff_367_8) (hts (.fieldLink RX6 30 "OpticmeshModel" "areCut" "[Z") (by decide +kernel)) dX6_addFibre_78 ?_
      refine lv_aload_n hx hb dX6_addFibre_81 rfl (lv_at hl 0 rfl) ?_
      refine gf_6_3 (k := 367) hx hb hts (by decide +kernel) hown hK hP (by decide) (kk_367) (hts (.fieldLink RX6 90 "OpticmeshModel" "fibres" "I") (by decide +kernel)) dX6_addFibre_82 ?_
      refine lv_iconst (v := 0) hx hb dX6_addFibre_85 (by decide) ?_
      obtain ⟨h86, hw⟩ := hw
      refine q_zast (k := 372) (n := 14) (i := (gI S76 367 3)) (x := b2i false) hx hb hK hP hS (by decide) (kk_372) (ll_372) (b2i_nar false) h86 dX6_addFibre_86 (fun H locs hz hP hS => ?_)
      have hF : Fx (sI S76 372 ((gI S76 367 3).toNatClampNeg) (b2i false)) := Fx.sI hF _ _ _
      generalize eS86 : sI S76 372 ((gI S76 367 3).toNatClampNeg) (b2i false) = S86 at hP hF
      have hw := hw S86 eS86.symm
      refine lv_aload_n hx hb dX6_addFibre_87 rfl (lv_at hl 0 rfl) ?_
      refine lv_dup hx hb dX6_addFibre_88 rfl ?_
      refine gf_6_3 (k := 367) hx hb hts (by decide +kernel) hown hK hP (by decide) (kk_367) (hts (.fieldLink RX6 90 "OpticmeshModel" "fibres" "I") (by decide +kernel)) dX6_addFibre_89 ?_
      refine lv_iconst (v := 1) hx hb dX6_addFibre_92 (by decide) ?_
      refine lv_iadd hx hb dX6_addFibre_93 ?_
      refine pf_6_3 (k := 367) (x := ((gI S86 367 3) + 1)) hx hb hts (by decide +kernel) hown hK hP hS (by decide) (kk_367) (hts (.fieldLink RX6 90 "OpticmeshModel" "fibres" "I") (by decide +kernel)) dX6_addFibre_94 (fun H locs hz hP hS => ?_)
      have hF : Fx (sI S86 367 3 ((gI S86 367 3) + 1)) := Fx.sI hF _ _ _
      generalize eS94 : sI S86 367 3 ((gI S86 367 3) + 1) = S94 at hP hF
      have hw := hw S94 eS94.symm
      refine lv_aload_n hx hb dX6_addFibre_97 rfl (lv_at hl 0 rfl) ?_
      refine gf_6_3 (k := 367) hx hb hts (by decide +kernel) hown hK hP (by decide) (kk_367) (hts (.fieldLink RX6 90 "OpticmeshModel" "fibres" "I") (by decide +kernel)) dX6_addFibre_98 ?_
      refine lv_iconst (v := 1) hx hb dX6_addFibre_101 (by decide) ?_
      refine lv_isub hx hb dX6_addFibre_102 ?_
      exact q_iret hx hb hr hP hF hS hw dX6_addFibre_103 hlocks
    · have c42 := b2i_z c42
      rw [if_neg c42] at hw
      refine lv_iconst (v := 0) hx hb dX6_addFibre_45 (by decide) ?_
      exact q_iret hx hb hr hP hF hS hw dX6_addFibre_46 hlocks
  have j21 : ∀ (S : St) , ∀ (H : Heap) (locs : List Loc) (ls : Array Slot), wp_X6_addFibre_21 x1 x2 x3 P S → HP D cy b0 NALL S H → Fx S → va_S (AA b0) s.heap H locs → lv_has ls 4 [(0, .ref (b0 + 367)), (1, .int x1), (2, .int x2), (3, .int x3)] → W p l e rm_X6_addFibre s m args below meth c H locs 0 0 (MQ below (QC (Pi P) (Wb D cy b0 NALL) b0) args s 0 0 (AA b0)) (F0 m 21 ls [.ref (b0 + 367)]) := by
    intro S  H locs ls hw hP hF hS hl
    unfold wp_X6_addFibre_21 at hw
    refine lv_iconst (v := 1) hx hb dX6_addFibre_21 (by decide) ?_
    refine lv_goto (tgt := 39) hx hb dX6_addFibre_22 (by decide) ?_
    exact j39 S 1  _ _ _ hw hP hF hS (lv_sub hl [0, 1, 2, 3] rfl)
  unfold wp_X6_addFibre at hw
  refine lv_aload_n hx hb dX6_addFibre_0 rfl (lv_at hl 0 rfl) ?_
  refine lv_aload_n hx hb dX6_addFibre_1 rfl (lv_at hl 0 rfl) ?_
  refine lv_iload_n hx hb dX6_addFibre_2 rfl (lv_at hl 1 rfl) ?_
  refine lv_iload_n hx hb dX6_addFibre_3 rfl (lv_at hl 2 rfl) ?_
  refine q_call (va_runV (As := [.int x1, .int x2]) (rest := [.ref (b0 + 367)]) ⟨hx, hb, hml, hown, hts⟩ (c_X6_areTwo l D cy b0 S x1 x2 _ hw) (cwV 2 hts gX6_addFibre_X6_areTwo rfl rfl rfl (by decide +kernel) ⟨(Nat.le_of_ble_eq_true rfl), (Nat.le_of_ble_eq_true rfl)⟩) (q_pV hW hP hF hS (k := 367) (ci := 6) (by decide) (cell_6 (kk_367)) rfl [.int x1, .int x2]) rfl rfl hl.1 rfl (lv_room (Nat.le_of_ble_eq_true rfl)) dX6_addFibre_4 ⟨(Nat.le_of_ble_eq_true rfl), (Nat.le_of_ble_eq_true rfl)⟩) hS (fun v4 S4 t4 H locs hh hp hB hz hk9 hS => ?_)
  obtain ⟨r4, rfl, hw⟩ := hp
  have hP : HP D cy b0 NALL S4 H := by rw [← hh]; exact hB.1
  have hF := hB.2
  try dsimp only at hw
  refine W.eq (g2 := F0 m 7 ls [.int (b2i r4), .ref (b0 + 367)]) rfl ?_
  refine lv_if_eq (x := b2i r4) (tgt := 21) hx hb dX6_addFibre_7 (by decide) (fun c7 => ?_) (fun c7 => ?_)
  · have c7 := b2i_z c7
    rw [if_neg c7] at hw
    exact j21 S4  _ _ _ hw hP hF hS (lv_sub hl [0, 1, 2, 3] rfl)
  · have c7 := b2i_n c7
    rw [if_pos c7] at hw
    refine lv_iload_n hx hb dX6_addFibre_10 rfl (lv_at hl 3 rfl) ?_
    refine lv_iconst (v := 1) hx hb dX6_addFibre_11 (by decide) ?_
    refine lv_sipush (v := 1000) hx hb dX6_addFibre_12 (by decide) ?_
    refine q_call (va_runS (As := [.int x3, .int 1, .int 1000]) (rest := [.ref (b0 + 367)]) ⟨hx, hb, hml, hown, hts⟩ (c_X6_in l D cy b0 S4 x3 1 1000 _ hw) (va_cwS 3 hts gX6_addFibre_X6_in rfl rfl rfl (by decide +kernel) ⟨(Nat.le_of_ble_eq_true rfl), (Nat.le_of_ble_eq_true rfl)⟩) (q_pS hW hP hF hS [.int x3, .int 1, .int 1000]) rfl rfl hl.1 rfl (lv_room (Nat.le_of_ble_eq_true rfl)) dX6_addFibre_15 ⟨(Nat.le_of_ble_eq_true rfl), (Nat.le_of_ble_eq_true rfl)⟩) hS (fun v15 S15 t15 H locs hh hp hB hz hk9 hS => ?_)
    obtain ⟨r15, rfl, hw⟩ := hp
    have hP : HP D cy b0 NALL S15 H := by rw [← hh]; exact hB.1
    have hF := hB.2
    try dsimp only at hw
    refine W.eq (g2 := F0 m 18 ls [.int (b2i r15), .ref (b0 + 367)]) rfl ?_
    refine lv_if_ne (x := b2i r15) (tgt := 25) hx hb dX6_addFibre_18 (by decide) (fun c18 => ?_) (fun c18 => ?_)
    · have c18 := b2i_n c18
      rw [if_pos c18] at hw
      refine lv_aload_n hx hb dX6_addFibre_25 rfl (lv_at hl 0 rfl) ?_
      refine gf_6_3 (k := 367) hx hb hts (by decide +kernel) hown hK hP (by decide) (kk_367) (hts (.fieldLink RX6 90 "OpticmeshModel" "fibres" "I") (by decide +kernel)) dX6_addFibre_26 ?_
      refine lv_bipush (v := 14) hx hb dX6_addFibre_29 (by decide) ?_
      refine lv_icmp_ne (x := (gI S15 367 3)) (y := 14) (tgt := 38) hx hb dX6_addFibre_31 (by decide) (fun c31 => ?_) (fun c31 => ?_)
      · rw [if_neg c31] at hw
        refine lv_iconst (v := 0) hx hb dX6_addFibre_38 (by decide) ?_
        exact j39 S15 0  _ _ _ hw hP hF hS (lv_sub hl [0, 1, 2, 3] rfl)
      · rw [if_pos c31] at hw
        refine lv_iconst (v := 2) hx hb dX6_addFibre_34 (by decide) ?_
        refine lv_goto (tgt := 39) hx hb dX6_addFibre_35 (by decide) ?_
        exact j39 S15 2  _ _ _ hw hP hF hS (lv_sub hl [0, 1, 2, 3] rfl)
    · have c18 := b2i_z c18
      rw [if_neg c18] at hw
      exact j21 S15  _ _ _ hw hP hF hS (lv_sub hl [0, 1, 2, 3] rfl)
set_option maxHeartbeats 4000000 in
set_option maxRecDepth 100000 in
theorem c_X6_toggleConverter (l : Launch) (D : va_G) (cy : Nat → ClassId) (b0 : Nat) (S : St) (x1 : Int32)  (P : Bool → St → Prop) (hw : wp_X6_toggleConverter S x1 P) : Met l yX6_toggleConverter wsX6_toggleConverter rm_X6_toggleConverter (va_Pc [.ref (b0 + 367), .int x1] (Wd D cy b0 NALL S)) (QC (Pz P) (Wb D cy b0 NALL) b0) 0 0 (AA b0) := by
  refine Met.ofW (cc := cX6_toggleConverter) (maxL := 2) (ret := (some .boolean)) (by decide) rfl ?_
  intro p e s m args below meth c s₁ B hml hv
  obtain ⟨hargs, hW, hP, hF⟩ := hv
  have hx := B.exec
  have hb := B.bytes
  have hr := B.returns
  have hts := atoms_spec (ws := wsX6_toggleConverter) B.pre
  have hown : s.vm.findClass RX6 = some m.cls := findClass_of_methodNamed B.named
  have hlocks := B.notSynchronized
  have hK := hW.1
  have hS : va_S (AA b0) s.heap s.heap [] := va_S.rf
  have hE : entryFrame m args 2 = F0 m 0 ((lg_sl [.ref (b0 + 367), .int x1] ++ List.replicate (2 - (lg_sl [.ref (b0 + 367), .int x1]).length) Slot.unset).toArray) [] := by rw [hargs]; exact lg_entry_eq m _ _
  rw [hE]
  have hl := lv_entry [.ref (b0 + 367), .int x1] (n := 2) (Nat.le_of_ble_eq_true rfl)
  generalize (lg_sl [.ref (b0 + 367), .int x1] ++ List.replicate (2 - (lg_sl [.ref (b0 + 367), .int x1]).length) Slot.unset).toArray = ls at hl ⊢
  have hl : lv_has ls 2 [(0, .ref (b0 + 367)), (1, .int x1)] := hl
  have j47 : ∀ (S : St) (t2 : Bool), ∀ (H : Heap) (locs : List Loc) (ls : Array Slot), wp_X6_toggleConverter_47 x1 P S t2 → HP D cy b0 NALL S H → Fx S → va_S (AA b0) s.heap H locs → lv_has ls 2 [(0, .ref (b0 + 367)), (1, .int x1)] → W p l e rm_X6_toggleConverter s m args below meth c H locs 0 0 (MQ below (QC (Pz P) (Wb D cy b0 NALL) b0) args s 0 0 (AA b0)) (F0 m 47 ls [.int (b2i t2), .int x1, .ref (b0 + 368)]) := by
    intro S t2  H locs ls hw hP hF hS hl
    unfold wp_X6_toggleConverter_47 at hw
    obtain ⟨h47, hw⟩ := hw
    refine q_zast (k := 368) (n := 8) (i := x1) (x := b2i t2) hx hb hK hP hS (by decide) (kk_368) (ll_368) (b2i_nar t2) h47 dX6_toggleConverter_47 (fun H locs hz hP hS => ?_)
    have hF : Fx (sI S 368 (x1.toNatClampNeg) (b2i t2)) := Fx.sI hF _ _ _
    generalize eS47 : sI S 368 (x1.toNatClampNeg) (b2i t2) = S47 at hP hF
    have hw := hw S47 eS47.symm
    refine lv_aload_n hx hb dX6_toggleConverter_48 rfl (lv_at hl 0 rfl) ?_
    refine gf_6_4 (k := 367) hx hb hts (by decide +kernel) hown hK hP (by decide) (kk_367) (q := 368) (hF.1 367 4 368 ff_367_4) (hts (.fieldLink RX6 16 "OpticmeshModel" "doConvert" "[Z") (by decide +kernel)) dX6_toggleConverter_49 ?_
    refine lv_iload_n hx hb dX6_toggleConverter_52 rfl (lv_at hl 1 rfl) ?_
    obtain ⟨h53, hw⟩ := hw
    refine q_zald (k := 368) (n := 8) (i := x1) hx hb hK hP (by decide) (kk_368) (ll_368) h53 dX6_toggleConverter_53 ?_
    obtain ⟨z54, ez54, hw⟩ := hw
    rw [ez54]
    exact q_zret (v := z54) hx hb hr hP hF hS hw dX6_toggleConverter_54 hlocks
  have j20 : ∀ (S : St) (t1 : Bool), ∀ (H : Heap) (locs : List Loc) (ls : Array Slot), wp_X6_toggleConverter_20 x1 P S t1 → HP D cy b0 NALL S H → Fx S → va_S (AA b0) s.heap H locs → lv_has ls 2 [(0, .ref (b0 + 367)), (1, .int x1)] → W p l e rm_X6_toggleConverter s m args below meth c H locs 0 0 (MQ below (QC (Pz P) (Wb D cy b0 NALL) b0) args s 0 0 (AA b0)) (F0 m 20 ls [.int (b2i t1), .ref (b0 + 367)]) := by
    intro S t1  H locs ls hw hP hF hS hl
    unfold wp_X6_toggleConverter_20 at hw
    refine q_call (va_runV (As := [.int (b2i t1)]) (rest := []) ⟨hx, hb, hml, hown, hts⟩ (c_X6_holds l D cy b0 S (b2i t1) _ hw) (cwV 1 hts gX6_toggleConverter_X6_holds rfl rfl rfl (by decide +kernel) ⟨(Nat.le_of_ble_eq_true rfl), (Nat.le_of_ble_eq_true rfl)⟩) (q_pV hW hP hF hS (k := 367) (ci := 6) (by decide) (cell_6 (kk_367)) rfl [.int (b2i t1)]) rfl rfl hl.1 rfl (lv_room (Nat.le_of_ble_eq_true rfl)) dX6_toggleConverter_20 ⟨(Nat.le_of_ble_eq_true rfl), (Nat.le_of_ble_eq_true rfl)⟩) hS (fun v20 S20 t20 H locs hh hp hB hz hk9 hS => ?_)
    obtain ⟨r20, rfl, hw⟩ := hp
    have hP : HP D cy b0 NALL S20 H := by rw [← hh]; exact hB.1
    have hF := hB.2
    try dsimp only at hw
    refine W.eq (g2 := F0 m 23 ls [.int (b2i r20)]) rfl ?_
    refine lv_if_ne (x := b2i r20) (tgt := 28) hx hb dX6_toggleConverter_23 (by decide) (fun c23 => ?_) (fun c23 => ?_)
    · have c23 := b2i_n c23
      rw [if_pos c23] at hw
      refine lv_aload_n hx hb dX6_toggleConverter_28 rfl (lv_at hl 0 rfl) ?_
      refine gf_6_4 (k := 367) hx hb hts (by decide +kernel) hown hK hP (by decide) (kk_367) (q := 368) (hF.1 367 4 368 ff_367_4) (hts (.fieldLink RX6 16 "OpticmeshModel" "doConvert" "[Z") (by decide +kernel)) dX6_toggleConverter_29 ?_
      refine lv_iload_n hx hb dX6_toggleConverter_32 rfl (lv_at hl 1 rfl) ?_
      refine lv_aload_n hx hb dX6_toggleConverter_33 rfl (lv_at hl 0 rfl) ?_
      refine gf_6_4 (k := 367) hx hb hts (by decide +kernel) hown hK hP (by decide) (kk_367) (q := 368) (hF.1 367 4 368 ff_367_4) (hts (.fieldLink RX6 16 "OpticmeshModel" "doConvert" "[Z") (by decide +kernel)) dX6_toggleConverter_34 ?_
      refine lv_iload_n hx hb dX6_toggleConverter_37 rfl (lv_at hl 1 rfl) ?_
      obtain ⟨h38, hw⟩ := hw
      refine q_zald (k := 368) (n := 8) (i := x1) hx hb hK hP (by decide) (kk_368) (ll_368) h38 dX6_toggleConverter_38 ?_
      refine lv_if_ne (x := (gI S20 368 (x1.toNatClampNeg))) (tgt := 46) hx hb dX6_toggleConverter_39 (by decide) (fun c39 => ?_) (fun c39 => ?_)
      · rw [if_neg c39] at hw
        refine lv_iconst (v := 0) hx hb dX6_toggleConverter_46 (by decide) ?_
        exact j47 S20 false  _ _ _ hw hP hF hS (lv_sub hl [0, 1] rfl)
      · rw [if_pos c39] at hw
        refine lv_iconst (v := 1) hx hb dX6_toggleConverter_42 (by decide) ?_
        refine lv_goto (tgt := 47) hx hb dX6_toggleConverter_43 (by decide) ?_
        exact j47 S20 true  _ _ _ hw hP hF hS (lv_sub hl [0, 1] rfl)
    · have c23 := b2i_z c23
      rw [if_neg c23] at hw
      refine lv_iconst (v := 0) hx hb dX6_toggleConverter_26 (by decide) ?_
      exact q_zret (v := false) hx hb hr hP hF hS hw dX6_toggleConverter_27 hlocks
  unfold wp_X6_toggleConverter at hw
  refine lv_aload_n hx hb dX6_toggleConverter_0 rfl (lv_at hl 0 rfl) ?_
  refine lv_iload_n hx hb dX6_toggleConverter_1 rfl (lv_at hl 1 rfl) ?_
  refine lv_iconst (v := 0) hx hb dX6_toggleConverter_2 (by decide) ?_
  refine lv_aload_n hx hb dX6_toggleConverter_3 rfl (lv_at hl 0 rfl) ?_
  refine gf_6_1 (k := 367) hx hb hts (by decide +kernel) hown hK hP (by decide) (kk_367) (hts (.fieldLink RX6 7 "OpticmeshModel" "nodes" "I") (by decide +kernel)) dX6_toggleConverter_4 ?_
  refine lv_iconst (v := 1) hx hb dX6_toggleConverter_7 (by decide) ?_
  refine lv_isub hx hb dX6_toggleConverter_8 ?_
  refine q_call (va_runS (As := [.int x1, .int 0, .int ((gI S 367 1) - 1)]) (rest := [.ref (b0 + 367)]) ⟨hx, hb, hml, hown, hts⟩ (c_X6_in l D cy b0 S x1 0 ((gI S 367 1) - 1) _ hw) (va_cwS 3 hts gX6_toggleConverter_X6_in rfl rfl rfl (by decide +kernel) ⟨(Nat.le_of_ble_eq_true rfl), (Nat.le_of_ble_eq_true rfl)⟩) (q_pS hW hP hF hS [.int x1, .int 0, .int ((gI S 367 1) - 1)]) rfl rfl hl.1 rfl (lv_room (Nat.le_of_ble_eq_true rfl)) dX6_toggleConverter_9 ⟨(Nat.le_of_ble_eq_true rfl), (Nat.le_of_ble_eq_true rfl)⟩) hS (fun v9 S9 t9 H locs hh hp hB hz hk9 hS => ?_)
  obtain ⟨r9, rfl, hw⟩ := hp
  have hP : HP D cy b0 NALL S9 H := by rw [← hh]; exact hB.1
  have hF := hB.2
  try dsimp only at hw
  refine W.eq (g2 := F0 m 12 ls [.int (b2i r9), .ref (b0 + 367)]) rfl ?_
  refine lv_if_eq (x := b2i r9) (tgt := 19) hx hb dX6_toggleConverter_12 (by decide) (fun c12 => ?_) (fun c12 => ?_)
  · have c12 := b2i_z c12
    rw [if_neg c12] at hw
    refine lv_iconst (v := 1) hx hb dX6_toggleConverter_19 (by decide) ?_
    exact j20 S9 true  _ _ _ hw hP hF hS (lv_sub hl [0, 1] rfl)
  · have c12 := b2i_n c12
    rw [if_pos c12] at hw
    refine lv_iconst (v := 0) hx hb dX6_toggleConverter_15 (by decide) ?_
    refine lv_goto (tgt := 20) hx hb dX6_toggleConverter_16 (by decide) ?_
    exact j20 S9 false  _ _ _ hw hP hF hS (lv_sub hl [0, 1] rfl)
set_option maxHeartbeats 4000000 in
set_option maxRecDepth 100000 in
theorem c_X6_way (l : Launch) (D : va_G) (cy : Nat → ClassId) (b0 : Nat) (S : St) (x1 : Int32) (x2 : Int32) (x3 : Int32)  (P : Int32 → St → Prop) (hw : wp_X6_way S x1 x2 x3 P) : Met l yX6_way wsX6_way rm_X6_way (va_Pc [.ref (b0 + 367), .int x1, .int x2, .int x3] (Wd D cy b0 NALL S)) (QC (Pi P) (Wb D cy b0 NALL) b0) 0 0 (AA b0) := by
  refine Met.ofW (cc := cX6_way) (maxL := 4) (ret := (some .int)) (by decide) rfl ?_
  intro p e s m args below meth c s₁ B hml hv
  obtain ⟨hargs, hW, hP, hF⟩ := hv
  have hx := B.exec
  have hb := B.bytes
  have hr := B.returns
  have hts := atoms_spec (ws := wsX6_way) B.pre
  have hown : s.vm.findClass RX6 = some m.cls := findClass_of_methodNamed B.named
  have hlocks := B.notSynchronized
  have hK := hW.1
  have hS : va_S (AA b0) s.heap s.heap [] := va_S.rf
  have hE : entryFrame m args 4 = F0 m 0 ((lg_sl [.ref (b0 + 367), .int x1, .int x2, .int x3] ++ List.replicate (4 - (lg_sl [.ref (b0 + 367), .int x1, .int x2, .int x3]).length) Slot.unset).toArray) [] := by rw [hargs]; exact lg_entry_eq m _ _
  rw [hE]
  have hl := lv_entry [.ref (b0 + 367), .int x1, .int x2, .int x3] (n := 4) (Nat.le_of_ble_eq_true rfl)
  generalize (lg_sl [.ref (b0 + 367), .int x1, .int x2, .int x3] ++ List.replicate (4 - (lg_sl [.ref (b0 + 367), .int x1, .int x2, .int x3]).length) Slot.unset).toArray = ls at hl ⊢
  have hl : lv_has ls 4 [(0, .ref (b0 + 367)), (1, .int x1), (2, .int x2), (3, .int x3)] := hl
  unfold wp_X6_way at hw
  refine lv_aload_n hx hb dX6_way_0 rfl (lv_at hl 0 rfl) ?_
  refine gf_6_17 (k := 367) hx hb hts (by decide +kernel) hown hK hP (by decide) (kk_367) (q := 379) (hF.1 367 17 379 ff_367_17) (hts (.fieldLink RX6 51 "OpticmeshModel" "laid" "[I") (by decide +kernel)) dX6_way_1 ?_
  refine lv_bipush (v := 20) hx hb dX6_way_4 (by decide) ?_
  refine lv_iload_n hx hb dX6_way_6 rfl (lv_at hl 1 rfl) ?_
  refine lv_imul hx hb dX6_way_7 ?_
  refine lv_bipush (v := 10) hx hb dX6_way_8 (by decide) ?_
  refine lv_iload_n hx hb dX6_way_10 rfl (lv_at hl 2 rfl) ?_
  refine lv_imul hx hb dX6_way_11 ?_
  refine lv_iadd hx hb dX6_way_12 ?_
  refine lv_iload_n hx hb dX6_way_13 rfl (lv_at hl 3 rfl) ?_
  refine lv_iadd hx hb dX6_way_14 ?_
  obtain ⟨h15, hw⟩ := hw
  refine q_iald (k := 379) (n := 1200) (i := (((20 * x1) + (10 * x2)) + x3)) hx hb hK hP (by decide) (kk_379) (ll_379) h15 dX6_way_15 ?_
  exact q_iret hx hb hr hP hF hS hw dX6_way_16 hlocks
set_option maxHeartbeats 4000000 in
set_option maxRecDepth 100000 in
theorem c_X6_isUp (l : Launch) (D : va_G) (cy : Nat → ClassId) (b0 : Nat) (S : St) (x1 : Int32)  (P : Bool → St → Prop) (hw : wp_X6_isUp S x1 P) : Met l yX6_isUp wsX6_isUp rm_X6_isUp (va_Pc [.ref (b0 + 367), .int x1] (Wd D cy b0 NALL S)) (QC (Pz P) (Wb D cy b0 NALL) b0) 0 0 (AA b0) := by
  refine Met.ofW (cc := cX6_isUp) (maxL := 5) (ret := (some .boolean)) (by decide) rfl ?_
  intro p e s m args below meth c s₁ B hml hv
  obtain ⟨hargs, hW, hP, hF⟩ := hv
  have hx := B.exec
  have hb := B.bytes
  have hr := B.returns
  have hts := atoms_spec (ws := wsX6_isUp) B.pre
  have hown : s.vm.findClass RX6 = some m.cls := findClass_of_methodNamed B.named
  have hlocks := B.notSynchronized
  have hK := hW.1
  have hS : va_S (AA b0) s.heap s.heap [] := va_S.rf
  have hE : entryFrame m args 5 = F0 m 0 ((lg_sl [.ref (b0 + 367), .int x1] ++ List.replicate (5 - (lg_sl [.ref (b0 + 367), .int x1]).length) Slot.unset).toArray) [] := by rw [hargs]; exact lg_entry_eq m _ _
  rw [hE]
  have hl := lv_entry [.ref (b0 + 367), .int x1] (n := 5) (Nat.le_of_ble_eq_true rfl)
  generalize (lg_sl [.ref (b0 + 367), .int x1] ++ List.replicate (5 - (lg_sl [.ref (b0 + 367), .int x1]).length) Slot.unset).toArray = ls at hl ⊢
  have hl : lv_has ls 5 [(0, .ref (b0 + 367)), (1, .int x1)] := hl
  have j2 : ∀ (n2 : Nat), ∀ (S : St) (a2 : Int32), ∀ (H : Heap) (locs : List Loc) (ls : Array Slot), wp_X6_isUp_2 x1 P n2 S a2 → HP D cy b0 NALL S H → Fx S → va_S (AA b0) s.heap H locs → lv_has ls 5 [(0, .ref (b0 + 367)), (1, .int x1), (2, .int a2)] → W p l e rm_X6_isUp s m args below meth c H locs 0 0 (MQ below (QC (Pz P) (Wb D cy b0 NALL) b0) args s 0 0 (AA b0)) (F0 m 2 ls []) := by
    intro n2
    induction n2 with
    | zero => intro S a2  H locs ls hw _ _ _ _; exact False.elim hw
    | succ n2 ih2 =>
      have j65 : ∀ (S : St) (a2 : Int32) (a3 : Bool), ∀ (H : Heap) (locs : List Loc) (ls : Array Slot), wp_X6_isUp_65 x1 P (fun S a2 => wp_X6_isUp_2 x1 P n2 S a2) S a2 a3 → HP D cy b0 NALL S H → Fx S → va_S (AA b0) s.heap H locs → lv_has ls 5 [(0, .ref (b0 + 367)), (1, .int x1), (2, .int a2), (3, .int (b2i a3))] → W p l e rm_X6_isUp s m args below meth c H locs 0 0 (MQ below (QC (Pz P) (Wb D cy b0 NALL) b0) args s 0 0 (AA b0)) (F0 m 65 ls []) := by
        intro S a2 a3  H locs ls hw hP hF hS hl
        unfold wp_X6_isUp_65 at hw
        refine lv_iload_n hx hb dX6_isUp_65 rfl (lv_at hl 3 rfl) ?_
        refine lv_if_eq (x := b2i a3) (tgt := 71) hx hb dX6_isUp_66 (by decide) (fun c66 => ?_) (fun c66 => ?_)
        · have c66 := b2i_z c66
          rw [if_neg c66] at hw
          obtain ⟨y71, e71⟩ : ∃ z : Int32, z = a2 + 1 := ⟨_, rfl⟩
          have hw := hw y71 e71
          refine lv_iinc (v := y71) (lv' := [(2, .int y71), (0, .ref (b0 + 367)), (1, .int x1), (3, .int (b2i a3))]) hx hb dX6_isUp_71 hl (k := 2) rfl (by rw [e71]; rfl) (by decide) rfl (fun ls hl => ?_)
          refine lv_goto (tgt := 2) hx hb dX6_isUp_74 (by decide) ?_
          exact ih2 S y71  _ _ _ hw hP hF hS (lv_sub hl [1, 2, 0] rfl)
        · have c66 := b2i_n c66
          rw [if_pos c66] at hw
          refine lv_iconst (v := 1) hx hb dX6_isUp_69 (by decide) ?_
          exact q_zret (v := true) hx hb hr hP hF hS hw dX6_isUp_70 hlocks
      have j17 : ∀ (n17 : Nat), ∀ (S : St) (a2 : Int32) (a3 : Bool) (a4 : Int32), ∀ (H : Heap) (locs : List Loc) (ls : Array Slot), wp_X6_isUp_17 x1 P (fun S a2 => wp_X6_isUp_2 x1 P n2 S a2) n17 S a2 a3 a4 → HP D cy b0 NALL S H → Fx S → va_S (AA b0) s.heap H locs → lv_has ls 5 [(0, .ref (b0 + 367)), (1, .int x1), (2, .int a2), (3, .int (b2i a3)), (4, .int a4)] → W p l e rm_X6_isUp s m args below meth c H locs 0 0 (MQ below (QC (Pz P) (Wb D cy b0 NALL) b0) args s 0 0 (AA b0)) (F0 m 17 ls []) := by
        intro n17
        induction n17 with
        | zero => intro S a2 a3 a4  H locs ls hw _ _ _ _; exact False.elim hw
        | succ n17 ih17 =>
          have j58 : ∀ (S : St) (a2 : Int32) (a4 : Int32) (t0 : Bool), ∀ (H : Heap) (locs : List Loc) (ls : Array Slot), wp_X6_isUp_58 x1 P (fun S a2 => wp_X6_isUp_2 x1 P n2 S a2) (fun S a2 a3 a4 => wp_X6_isUp_17 x1 P (fun S a2 => wp_X6_isUp_2 x1 P n2 S a2) n17 S a2 a3 a4) S a2 a4 t0 → HP D cy b0 NALL S H → Fx S → va_S (AA b0) s.heap H locs → lv_has ls 5 [(0, .ref (b0 + 367)), (1, .int x1), (2, .int a2), (4, .int a4)] → W p l e rm_X6_isUp s m args below meth c H locs 0 0 (MQ below (QC (Pz P) (Wb D cy b0 NALL) b0) args s 0 0 (AA b0)) (F0 m 58 ls [.int (b2i t0)]) := by
            intro S a2 a4 t0  H locs ls hw hP hF hS hl
            unfold wp_X6_isUp_58 at hw
            refine lv_istore_n (lv' := [(3, .int (b2i t0)), (0, .ref (b0 + 367)), (1, .int x1), (2, .int a2), (4, .int a4)]) hx hb dX6_isUp_58 rfl hl (by decide) rfl (fun ls hl => ?_)
            obtain ⟨y59, e59⟩ : ∃ z : Int32, z = a4 + 1 := ⟨_, rfl⟩
            have hw := hw y59 e59
            refine lv_iinc (v := y59) (lv' := [(4, .int y59), (3, .int (b2i t0)), (0, .ref (b0 + 367)), (1, .int x1), (2, .int a2)]) hx hb dX6_isUp_59 hl (k := 4) rfl (by rw [e59]; rfl) (by decide) rfl (fun ls hl => ?_)
            refine lv_goto (tgt := 17) hx hb dX6_isUp_62 (by decide) ?_
            exact ih17 S a2 t0 y59  _ _ _ hw hP hF hS (lv_sub hl [2, 3, 4, 1, 0] rfl)
          have j57 : ∀ (S : St) (a2 : Int32) (a4 : Int32), ∀ (H : Heap) (locs : List Loc) (ls : Array Slot), wp_X6_isUp_57 x1 P (fun S a2 => wp_X6_isUp_2 x1 P n2 S a2) (fun S a2 a3 a4 => wp_X6_isUp_17 x1 P (fun S a2 => wp_X6_isUp_2 x1 P n2 S a2) n17 S a2 a3 a4) S a2 a4 → HP D cy b0 NALL S H → Fx S → va_S (AA b0) s.heap H locs → lv_has ls 5 [(0, .ref (b0 + 367)), (1, .int x1), (2, .int a2), (4, .int a4)] → W p l e rm_X6_isUp s m args below meth c H locs 0 0 (MQ below (QC (Pz P) (Wb D cy b0 NALL) b0) args s 0 0 (AA b0)) (F0 m 57 ls []) := by
            intro S a2 a4  H locs ls hw hP hF hS hl
            unfold wp_X6_isUp_57 at hw
            refine lv_iconst (v := 0) hx hb dX6_isUp_57 (by decide) ?_
            exact j58 S a2 a4 false  _ _ _ hw hP hF hS (lv_sub hl [0, 1, 2, 3] rfl)
          intro S a2 a3 a4  H locs ls hw hP hF hS hl
          rw [wp_X6_isUp_17] at hw
          refine lv_iload hx hb dX6_isUp_17 (lv_at hl 4 rfl) ?_
          refine lv_aload_n hx hb dX6_isUp_19 rfl (lv_at hl 0 rfl) ?_
          refine lv_iload_n hx hb dX6_isUp_20 rfl (lv_at hl 1 rfl) ?_
          refine lv_iload_n hx hb dX6_isUp_21 rfl (lv_at hl 2 rfl) ?_
          refine lv_bipush (v := 7) hx hb dX6_isUp_22 (by decide) ?_
          refine q_call (va_runV (As := [.int x1, .int a2, .int 7]) (rest := [.int a4]) ⟨hx, hb, hml, hown, hts⟩ (c_X6_way l D cy b0 S x1 a2 7 _ hw) (cwV 3 hts gX6_isUp_X6_way rfl rfl rfl (by decide +kernel) ⟨(Nat.le_of_ble_eq_true rfl), (Nat.le_of_ble_eq_true rfl)⟩) (q_pV hW hP hF hS (k := 367) (ci := 6) (by decide) (cell_6 (kk_367)) rfl [.int x1, .int a2, .int 7]) rfl rfl hl.1 rfl (lv_room (Nat.le_of_ble_eq_true rfl)) dX6_isUp_24 ⟨(Nat.le_of_ble_eq_true rfl), (Nat.le_of_ble_eq_true rfl)⟩) hS (fun v24 S24 t24 H locs hh hp hB hz hk9 hS => ?_)
          obtain ⟨r24, rfl, hw⟩ := hp
          have hP : HP D cy b0 NALL S24 H := by rw [← hh]; exact hB.1
          have hF := hB.2
          try dsimp only at hw
          refine W.eq (g2 := F0 m 27 ls [.int r24, .int a4]) rfl ?_
          refine lv_icmp_ge (x := a4) (y := r24) (tgt := 65) hx hb dX6_isUp_27 (by decide) (fun c27 => ?_) (fun c27 => ?_)
          · rw [if_pos c27] at hw
            exact j65 S24 a2 a3  _ _ _ hw hP hF hS (lv_sub hl [0, 1, 2, 3] rfl)
          · rw [if_neg c27] at hw
            refine lv_iload_n hx hb dX6_isUp_30 rfl (lv_at hl 3 rfl) ?_
            refine lv_if_eq (x := b2i a3) (tgt := 57) hx hb dX6_isUp_31 (by decide) (fun c31 => ?_) (fun c31 => ?_)
            · have c31 := b2i_z c31
              rw [if_neg c31] at hw
              exact j57 S24 a2 a4  _ _ _ hw hP hF hS (lv_sub hl [0, 1, 2, 4] rfl)
            · have c31 := b2i_n c31
              rw [if_pos c31] at hw
              refine lv_aload_n hx hb dX6_isUp_34 rfl (lv_at hl 0 rfl) ?_
              refine gf_6_8 (k := 367) hx hb hts (by decide +kernel) hown hK hP (by decide) (kk_367) (q := 372) (hF.1 367 8 372 ff_367_8) (hts (.fieldLink RX6 30 "OpticmeshModel" "areCut" "[Z") (by decide +kernel)) dX6_isUp_35 ?_
              refine lv_aload_n hx hb dX6_isUp_38 rfl (lv_at hl 0 rfl) ?_
              refine lv_iload_n hx hb dX6_isUp_39 rfl (lv_at hl 1 rfl) ?_
              refine lv_iload_n hx hb dX6_isUp_40 rfl (lv_at hl 2 rfl) ?_
              refine lv_iload hx hb dX6_isUp_41 (lv_at hl 4 rfl) ?_
              refine q_call (va_runV (As := [.int x1, .int a2, .int a4]) (rest := [.ref (b0 + 372)]) ⟨hx, hb, hml, hown, hts⟩ (c_X6_way l D cy b0 S24 x1 a2 a4 _ hw) (cwV 3 hts gX6_isUp_X6_way rfl rfl rfl (by decide +kernel) ⟨(Nat.le_of_ble_eq_true rfl), (Nat.le_of_ble_eq_true rfl)⟩) (q_pV hW hP hF hS (k := 367) (ci := 6) (by decide) (cell_6 (kk_367)) rfl [.int x1, .int a2, .int a4]) rfl rfl hl.1 rfl (lv_room (Nat.le_of_ble_eq_true rfl)) dX6_isUp_43 ⟨(Nat.le_of_ble_eq_true rfl), (Nat.le_of_ble_eq_true rfl)⟩) hS (fun v43 S43 t43 H locs hh hp hB hz hk9 hS => ?_)
              obtain ⟨r43, rfl, hw⟩ := hp
              have hP : HP D cy b0 NALL S43 H := by rw [← hh]; exact hB.1
              have hF := hB.2
              try dsimp only at hw
              refine W.eq (g2 := F0 m 46 ls [.int r43, .ref (b0 + 372)]) rfl ?_
              refine lv_bipush (v := 10) hx hb dX6_isUp_46 (by decide) ?_
              refine lv_idiv hx hb dX6_isUp_48 (by decide) ?_
              obtain ⟨h49, hw⟩ := hw
              refine q_zald (k := 372) (n := 14) (i := (r43 / 10)) hx hb hK hP (by decide) (kk_372) (ll_372) h49 dX6_isUp_49 ?_
              refine lv_if_ne (x := (gI S43 372 ((r43 / 10).toNatClampNeg))) (tgt := 57) hx hb dX6_isUp_50 (by decide) (fun c50 => ?_) (fun c50 => ?_)
              · rw [if_neg c50] at hw
                exact j57 S43 a2 a4  _ _ _ hw hP hF hS (lv_sub hl [0, 1, 2, 4] rfl)
              · rw [if_pos c50] at hw
                refine lv_iconst (v := 1) hx hb dX6_isUp_53 (by decide) ?_
                refine lv_goto (tgt := 58) hx hb dX6_isUp_54 (by decide) ?_
                exact j58 S43 a2 a4 true  _ _ _ hw hP hF hS (lv_sub hl [0, 1, 2, 4] rfl)
      intro S a2  H locs ls hw hP hF hS hl
      rw [wp_X6_isUp_2] at hw
      refine lv_iload_n hx hb dX6_isUp_2 rfl (lv_at hl 2 rfl) ?_
      refine lv_aload_n hx hb dX6_isUp_3 rfl (lv_at hl 0 rfl) ?_
      refine gf_6_16 (k := 367) hx hb hts (by decide +kernel) hown hK hP (by decide) (kk_367) (q := 378) (hF.1 367 16 378 ff_367_16) (hts (.fieldLink RX6 48 "OpticmeshModel" "ways" "[I") (by decide +kernel)) dX6_isUp_4 ?_
      refine lv_iload_n hx hb dX6_isUp_7 rfl (lv_at hl 1 rfl) ?_
      obtain ⟨h8, hw⟩ := hw
      refine q_iald (k := 378) (n := 60) (i := x1) hx hb hK hP (by decide) (kk_378) (ll_378) h8 dX6_isUp_8 ?_
      refine lv_icmp_ge (x := a2) (y := (gI S 378 (x1.toNatClampNeg))) (tgt := 77) hx hb dX6_isUp_9 (by decide) (fun c9 => ?_) (fun c9 => ?_)
      · rw [if_pos c9] at hw
        refine lv_iconst (v := 0) hx hb dX6_isUp_77 (by decide) ?_
        exact q_zret (v := false) hx hb hr hP hF hS hw dX6_isUp_78 hlocks
      · rw [if_neg c9] at hw
        refine lv_iconst (v := 1) hx hb dX6_isUp_12 (by decide) ?_
        refine lv_istore_n (lv' := [(3, .int 1), (0, .ref (b0 + 367)), (1, .int x1), (2, .int a2)]) hx hb dX6_isUp_13 rfl hl (by decide) rfl (fun ls hl => ?_)
        refine lv_iconst (v := 0) hx hb dX6_isUp_14 (by decide) ?_
        refine lv_istore (lv' := [(4, .int 0), (3, .int 1), (0, .ref (b0 + 367)), (1, .int x1), (2, .int a2)]) hx hb dX6_isUp_15 hl (by decide) rfl (fun ls hl => ?_)
        obtain ⟨n17, hw⟩ := hw
        exact j17 n17 S a2 true 0  _ _ _ hw hP hF hS (lv_sub hl [2, 3, 4, 1, 0] rfl)
  unfold wp_X6_isUp at hw
  refine lv_iconst (v := 0) hx hb dX6_isUp_0 (by decide) ?_
  refine lv_istore_n (lv' := [(2, .int 0), (0, .ref (b0 + 367)), (1, .int x1)]) hx hb dX6_isUp_1 rfl hl (by decide) rfl (fun ls hl => ?_)
  obtain ⟨n2, hw⟩ := hw
  exact j2 n2 S 0  _ _ _ hw hP hF hS (lv_sub hl [1, 2, 0] rfl)
set_option maxHeartbeats 4000000 in
set_option maxRecDepth 100000 in
theorem c_X6_numberOfUp (l : Launch) (D : va_G) (cy : Nat → ClassId) (b0 : Nat) (S : St)   (P : Int32 → St → Prop) (hw : wp_X6_numberOfUp S  P) : Met l yX6_numberOfUp wsX6_numberOfUp rm_X6_numberOfUp (va_Pc [.ref (b0 + 367)] (Wd D cy b0 NALL S)) (QC (Pi P) (Wb D cy b0 NALL) b0) 0 0 (AA b0) := by
  refine Met.ofW (cc := cX6_numberOfUp) (maxL := 3) (ret := (some .int)) (by decide) rfl ?_
  intro p e s m args below meth c s₁ B hml hv
  obtain ⟨hargs, hW, hP, hF⟩ := hv
  have hx := B.exec
  have hb := B.bytes
  have hr := B.returns
  have hts := atoms_spec (ws := wsX6_numberOfUp) B.pre
  have hown : s.vm.findClass RX6 = some m.cls := findClass_of_methodNamed B.named
  have hlocks := B.notSynchronized
  have hK := hW.1
  have hS : va_S (AA b0) s.heap s.heap [] := va_S.rf
  have hE : entryFrame m args 3 = F0 m 0 ((lg_sl [.ref (b0 + 367)] ++ List.replicate (3 - (lg_sl [.ref (b0 + 367)]).length) Slot.unset).toArray) [] := by rw [hargs]; exact lg_entry_eq m _ _
  rw [hE]
  have hl := lv_entry [.ref (b0 + 367)] (n := 3) (Nat.le_of_ble_eq_true rfl)
  generalize (lg_sl [.ref (b0 + 367)] ++ List.replicate (3 - (lg_sl [.ref (b0 + 367)]).length) Slot.unset).toArray = ls at hl ⊢
  have hl : lv_has ls 3 [(0, .ref (b0 + 367))] := hl
  have j4 : ∀ (n4 : Nat), ∀ (S : St) (a1 : Int32) (a2 : Int32), ∀ (H : Heap) (locs : List Loc) (ls : Array Slot), wp_X6_numberOfUp_4 P n4 S a1 a2 → HP D cy b0 NALL S H → Fx S → va_S (AA b0) s.heap H locs → lv_has ls 3 [(0, .ref (b0 + 367)), (1, .int a1), (2, .int a2)] → W p l e rm_X6_numberOfUp s m args below meth c H locs 0 0 (MQ below (QC (Pi P) (Wb D cy b0 NALL) b0) args s 0 0 (AA b0)) (F0 m 4 ls []) := by
    intro n4
    induction n4 with
    | zero => intro S a1 a2  H locs ls hw _ _ _ _; exact False.elim hw
    | succ n4 ih4 =>
      have j26 : ∀ (S : St) (a2 : Int32) (t0 : Int32) (t1 : Bool), ∀ (H : Heap) (locs : List Loc) (ls : Array Slot), wp_X6_numberOfUp_26 P (fun S a1 a2 => wp_X6_numberOfUp_4 P n4 S a1 a2) S a2 t0 t1 → HP D cy b0 NALL S H → Fx S → va_S (AA b0) s.heap H locs → lv_has ls 3 [(0, .ref (b0 + 367)), (2, .int a2)] → W p l e rm_X6_numberOfUp s m args below meth c H locs 0 0 (MQ below (QC (Pi P) (Wb D cy b0 NALL) b0) args s 0 0 (AA b0)) (F0 m 26 ls [.int (b2i t1), .int t0]) := by
        intro S a2 t0 t1  H locs ls hw hP hF hS hl
        unfold wp_X6_numberOfUp_26 at hw
        refine lv_iadd hx hb dX6_numberOfUp_26 ?_
        refine lv_topi (fun y27 e27 => ?_)
        have hw := hw y27 e27
        refine lv_istore_n (lv' := [(1, .int y27), (0, .ref (b0 + 367)), (2, .int a2)]) hx hb dX6_numberOfUp_27 rfl hl (by decide) rfl (fun ls hl => ?_)
        obtain ⟨y28, e28⟩ : ∃ z : Int32, z = a2 + 1 := ⟨_, rfl⟩
        have hw := hw y28 e28
        refine lv_iinc (v := y28) (lv' := [(2, .int y28), (1, .int y27), (0, .ref (b0 + 367))]) hx hb dX6_numberOfUp_28 hl (k := 2) rfl (by rw [e28]; rfl) (by decide) rfl (fun ls hl => ?_)
        refine lv_goto (tgt := 4) hx hb dX6_numberOfUp_31 (by decide) ?_
        exact ih4 S y27 y28  _ _ _ hw hP hF hS (lv_sub hl [2, 1, 0] rfl)
      intro S a1 a2  H locs ls hw hP hF hS hl
      rw [wp_X6_numberOfUp_4] at hw
      refine lv_iload_n hx hb dX6_numberOfUp_4 rfl (lv_at hl 2 rfl) ?_
      refine lv_aload_n hx hb dX6_numberOfUp_5 rfl (lv_at hl 0 rfl) ?_
      refine gf_6_13 (k := 367) hx hb hts (by decide +kernel) hown hK hP (by decide) (kk_367) (hts (.fieldLink RX6 96 "OpticmeshModel" "lights" "I") (by decide +kernel)) dX6_numberOfUp_6 ?_
      refine lv_icmp_ge (x := a2) (y := (gI S 367 13)) (tgt := 34) hx hb dX6_numberOfUp_9 (by decide) (fun c9 => ?_) (fun c9 => ?_)
      · rw [if_pos c9] at hw
        refine lv_iload_n hx hb dX6_numberOfUp_34 rfl (lv_at hl 1 rfl) ?_
        exact q_iret hx hb hr hP hF hS hw dX6_numberOfUp_35 hlocks
      · rw [if_neg c9] at hw
        refine lv_iload_n hx hb dX6_numberOfUp_12 rfl (lv_at hl 1 rfl) ?_
        refine lv_aload_n hx hb dX6_numberOfUp_13 rfl (lv_at hl 0 rfl) ?_
        refine lv_iload_n hx hb dX6_numberOfUp_14 rfl (lv_at hl 2 rfl) ?_
        refine q_call (va_runV (As := [.int a2]) (rest := [.int a1]) ⟨hx, hb, hml, hown, hts⟩ (c_X6_isUp l D cy b0 S a2 _ hw) (cwV 1 hts gX6_numberOfUp_X6_isUp rfl rfl rfl (by decide +kernel) ⟨(Nat.le_of_ble_eq_true rfl), (Nat.le_of_ble_eq_true rfl)⟩) (q_pV hW hP hF hS (k := 367) (ci := 6) (by decide) (cell_6 (kk_367)) rfl [.int a2]) rfl rfl hl.1 rfl (lv_room (Nat.le_of_ble_eq_true rfl)) dX6_numberOfUp_15 ⟨(Nat.le_of_ble_eq_true rfl), (Nat.le_of_ble_eq_true rfl)⟩) hS (fun v15 S15 t15 H locs hh hp hB hz hk9 hS => ?_)
        obtain ⟨r15, rfl, hw⟩ := hp
        have hP : HP D cy b0 NALL S15 H := by rw [← hh]; exact hB.1
        have hF := hB.2
        try dsimp only at hw
        refine W.eq (g2 := F0 m 18 ls [.int (b2i r15), .int a1]) rfl ?_
        refine lv_if_eq (x := b2i r15) (tgt := 25) hx hb dX6_numberOfUp_18 (by decide) (fun c18 => ?_) (fun c18 => ?_)
        · have c18 := b2i_z c18
          rw [if_neg c18] at hw
          refine lv_iconst (v := 0) hx hb dX6_numberOfUp_25 (by decide) ?_
          exact j26 S15 a2 a1 false  _ _ _ hw hP hF hS (lv_sub hl [0, 2] rfl)
        · have c18 := b2i_n c18
          rw [if_pos c18] at hw
          refine lv_iconst (v := 1) hx hb dX6_numberOfUp_21 (by decide) ?_
          refine lv_goto (tgt := 26) hx hb dX6_numberOfUp_22 (by decide) ?_
          exact j26 S15 a2 a1 true  _ _ _ hw hP hF hS (lv_sub hl [0, 2] rfl)
  unfold wp_X6_numberOfUp at hw
  refine lv_iconst (v := 0) hx hb dX6_numberOfUp_0 (by decide) ?_
  refine lv_istore_n (lv' := [(1, .int 0), (0, .ref (b0 + 367))]) hx hb dX6_numberOfUp_1 rfl hl (by decide) rfl (fun ls hl => ?_)
  refine lv_iconst (v := 0) hx hb dX6_numberOfUp_2 (by decide) ?_
  refine lv_istore_n (lv' := [(2, .int 0), (1, .int 0), (0, .ref (b0 + 367))]) hx hb dX6_numberOfUp_3 rfl hl (by decide) rfl (fun ls hl => ?_)
  obtain ⟨n4, hw⟩ := hw
  exact j4 n4 S 0 0  _ _ _ hw hP hF hS (lv_sub hl [2, 1, 0] rfl)
set_option maxHeartbeats 4000000 in
set_option maxRecDepth 100000 in
theorem c_X6_cut (l : Launch) (D : va_G) (cy : Nat → ClassId) (b0 : Nat) (S : St) (x1 : Int32)  (P : Int32 → St → Prop) (hw : wp_X6_cut S x1 P) : Met l yX6_cut wsX6_cut rm_X6_cut (va_Pc [.ref (b0 + 367), .int x1] (Wd D cy b0 NALL S)) (QC (Pi P) (Wb D cy b0 NALL) b0) 0 0 (AA b0) := by
  refine Met.ofW (cc := cX6_cut) (maxL := 3) (ret := (some .int)) (by decide) rfl ?_
  intro p e s m args below meth c s₁ B hml hv
  obtain ⟨hargs, hW, hP, hF⟩ := hv
  have hx := B.exec
  have hb := B.bytes
  have hr := B.returns
  have hts := atoms_spec (ws := wsX6_cut) B.pre
  have hown : s.vm.findClass RX6 = some m.cls := findClass_of_methodNamed B.named
  have hlocks := B.notSynchronized
  have hK := hW.1
  have hS : va_S (AA b0) s.heap s.heap [] := va_S.rf
  have hE : entryFrame m args 3 = F0 m 0 ((lg_sl [.ref (b0 + 367), .int x1] ++ List.replicate (3 - (lg_sl [.ref (b0 + 367), .int x1]).length) Slot.unset).toArray) [] := by rw [hargs]; exact lg_entry_eq m _ _
  rw [hE]
  have hl := lv_entry [.ref (b0 + 367), .int x1] (n := 3) (Nat.le_of_ble_eq_true rfl)
  generalize (lg_sl [.ref (b0 + 367), .int x1] ++ List.replicate (3 - (lg_sl [.ref (b0 + 367), .int x1]).length) Slot.unset).toArray = ls at hl ⊢
  have hl : lv_has ls 3 [(0, .ref (b0 + 367)), (1, .int x1)] := hl
  have j27 : ∀ (S : St) (t1 : Int32), ∀ (H : Heap) (locs : List Loc) (ls : Array Slot), wp_X6_cut_27 x1 P S t1 → HP D cy b0 NALL S H → Fx S → va_S (AA b0) s.heap H locs → lv_has ls 3 [(0, .ref (b0 + 367)), (1, .int x1)] → W p l e rm_X6_cut s m args below meth c H locs 0 0 (MQ below (QC (Pi P) (Wb D cy b0 NALL) b0) args s 0 0 (AA b0)) (F0 m 27 ls [.int t1, .ref (b0 + 367)]) := by
    intro S t1  H locs ls hw hP hF hS hl
    unfold wp_X6_cut_27 at hw
    refine q_call (va_runV (As := [.int t1]) (rest := []) ⟨hx, hb, hml, hown, hts⟩ (c_X6_holds l D cy b0 S t1 _ hw) (cwV 1 hts gX6_cut_X6_holds rfl rfl rfl (by decide +kernel) ⟨(Nat.le_of_ble_eq_true rfl), (Nat.le_of_ble_eq_true rfl)⟩) (q_pV hW hP hF hS (k := 367) (ci := 6) (by decide) (cell_6 (kk_367)) rfl [.int t1]) rfl rfl hl.1 rfl (lv_room (Nat.le_of_ble_eq_true rfl)) dX6_cut_27 ⟨(Nat.le_of_ble_eq_true rfl), (Nat.le_of_ble_eq_true rfl)⟩) hS (fun v27 S27 t27 H locs hh hp hB hz hk9 hS => ?_)
    obtain ⟨r27, rfl, hw⟩ := hp
    have hP : HP D cy b0 NALL S27 H := by rw [← hh]; exact hB.1
    have hF := hB.2
    try dsimp only at hw
    refine W.eq (g2 := F0 m 30 ls [.int (b2i r27)]) rfl ?_
    refine lv_if_ne (x := b2i r27) (tgt := 35) hx hb dX6_cut_30 (by decide) (fun c30 => ?_) (fun c30 => ?_)
    · have c30 := b2i_n c30
      rw [if_pos c30] at hw
      refine lv_aload_n hx hb dX6_cut_35 rfl (lv_at hl 0 rfl) ?_
      refine q_call (va_runV (As := []) (rest := []) ⟨hx, hb, hml, hown, hts⟩ (c_X6_numberOfUp l D cy b0 S27 _ hw) (cwV 0 hts gX6_cut_X6_numberOfUp rfl rfl rfl (by decide +kernel) ⟨(Nat.le_of_ble_eq_true rfl), (Nat.le_of_ble_eq_true rfl)⟩) (q_pV hW hP hF hS (k := 367) (ci := 6) (by decide) (cell_6 (kk_367)) rfl []) rfl rfl hl.1 rfl (lv_room (Nat.le_of_ble_eq_true rfl)) dX6_cut_36 ⟨(Nat.le_of_ble_eq_true rfl), (Nat.le_of_ble_eq_true rfl)⟩) hS (fun v36 S36 t36 H locs hh hp hB hz hk9 hS => ?_)
      obtain ⟨r36, rfl, hw⟩ := hp
      have hP : HP D cy b0 NALL S36 H := by rw [← hh]; exact hB.1
      have hF := hB.2
      try dsimp only at hw
      refine W.eq (g2 := F0 m 39 ls [.int r36]) rfl ?_
      refine lv_istore_n (lv' := [(2, .int r36), (0, .ref (b0 + 367)), (1, .int x1)]) hx hb dX6_cut_39 rfl hl (by decide) rfl (fun ls hl => ?_)
      refine lv_aload_n hx hb dX6_cut_40 rfl (lv_at hl 1 rfl) ?_
      refine gf_6_8 (k := 367) hx hb hts (by decide +kernel) hown hK hP (by decide) (kk_367) (q := 372) (hF.1 367 8 372 ff_367_8) (hts (.fieldLink RX6 30 "OpticmeshModel" "areCut" "[Z") (by decide +kernel)) dX6_cut_41 ?_
      refine lv_iload_n hx hb dX6_cut_44 rfl (lv_at hl 2 rfl) ?_
      refine lv_iconst (v := 1) hx hb dX6_cut_45 (by decide) ?_
      obtain ⟨h46, hw⟩ := hw
      refine q_zast (k := 372) (n := 14) (i := x1) (x := b2i true) hx hb hK hP hS (by decide) (kk_372) (ll_372) (b2i_nar true) h46 dX6_cut_46 (fun H locs hz hP hS => ?_)
      have hF : Fx (sI S36 372 (x1.toNatClampNeg) (b2i true)) := Fx.sI hF _ _ _
      generalize eS46 : sI S36 372 (x1.toNatClampNeg) (b2i true) = S46 at hP hF
      have hw := hw S46 eS46.symm
      refine lv_iload_n hx hb dX6_cut_47 rfl (lv_at hl 0 rfl) ?_
      refine lv_aload_n hx hb dX6_cut_48 rfl (lv_at hl 1 rfl) ?_
      refine q_call (va_runV (As := []) (rest := [.int r36]) ⟨hx, hb, hml, hown, hts⟩ (c_X6_numberOfUp l D cy b0 S46 _ hw) (cwV 0 hts gX6_cut_X6_numberOfUp rfl rfl rfl (by decide +kernel) ⟨(Nat.le_of_ble_eq_true rfl), (Nat.le_of_ble_eq_true rfl)⟩) (q_pV hW hP hF hS (k := 367) (ci := 6) (by decide) (cell_6 (kk_367)) rfl []) rfl rfl hl.1 rfl (lv_room (Nat.le_of_ble_eq_true rfl)) dX6_cut_49 ⟨(Nat.le_of_ble_eq_true rfl), (Nat.le_of_ble_eq_true rfl)⟩) hS (fun v49 S49 t49 H locs hh hp hB hz hk9 hS => ?_)
      obtain ⟨r49, rfl, hw⟩ := hp
      have hP : HP D cy b0 NALL S49 H := by rw [← hh]; exact hB.1
      have hF := hB.2
      try dsimp only at hw
      refine W.eq (g2 := F0 m 52 ls [.int r49, .int r36]) rfl ?_
      refine lv_isub hx hb dX6_cut_52 ?_
      exact q_iret hx hb hr hP hF hS hw dX6_cut_53 hlocks
    · have c30 := b2i_z c30
      rw [if_neg c30] at hw
      refine lv_iconst (v := 0) hx hb dX6_cut_33 (by decide) ?_
      exact q_iret hx hb hr hP hF hS hw dX6_cut_34 hlocks
  unfold wp_X6_cut at hw
  refine lv_aload_n hx hb dX6_cut_0 rfl (lv_at hl 0 rfl) ?_
  refine lv_aload_n hx hb dX6_cut_1 rfl (lv_at hl 0 rfl) ?_
  refine lv_iload_n hx hb dX6_cut_2 rfl (lv_at hl 1 rfl) ?_
  refine q_call (va_runV (As := [.int x1]) (rest := [.ref (b0 + 367)]) ⟨hx, hb, hml, hown, hts⟩ (c_X6_isFibre l D cy b0 S x1 _ hw) (cwV 1 hts gX6_cut_X6_isFibre rfl rfl rfl (by decide +kernel) ⟨(Nat.le_of_ble_eq_true rfl), (Nat.le_of_ble_eq_true rfl)⟩) (q_pV hW hP hF hS (k := 367) (ci := 6) (by decide) (cell_6 (kk_367)) rfl [.int x1]) rfl rfl hl.1 rfl (lv_room (Nat.le_of_ble_eq_true rfl)) dX6_cut_3 ⟨(Nat.le_of_ble_eq_true rfl), (Nat.le_of_ble_eq_true rfl)⟩) hS (fun v3 S3 t3 H locs hh hp hB hz hk9 hS => ?_)
  obtain ⟨r3, rfl, hw⟩ := hp
  have hP : HP D cy b0 NALL S3 H := by rw [← hh]; exact hB.1
  have hF := hB.2
  try dsimp only at hw
  refine W.eq (g2 := F0 m 6 ls [.int (b2i r3), .ref (b0 + 367)]) rfl ?_
  refine lv_if_ne (x := b2i r3) (tgt := 13) hx hb dX6_cut_6 (by decide) (fun c6 => ?_) (fun c6 => ?_)
  · have c6 := b2i_n c6
    rw [if_pos c6] at hw
    refine lv_aload_n hx hb dX6_cut_13 rfl (lv_at hl 0 rfl) ?_
    refine gf_6_8 (k := 367) hx hb hts (by decide +kernel) hown hK hP (by decide) (kk_367) (q := 372) (hF.1 367 8 372 ff_367_8) (hts (.fieldLink RX6 30 "OpticmeshModel" "areCut" "[Z") (by decide +kernel)) dX6_cut_14 ?_
    refine lv_iload_n hx hb dX6_cut_17 rfl (lv_at hl 1 rfl) ?_
    obtain ⟨h18, hw⟩ := hw
    refine q_zald (k := 372) (n := 14) (i := x1) hx hb hK hP (by decide) (kk_372) (ll_372) h18 dX6_cut_18 ?_
    refine lv_if_eq (x := (gI S3 372 (x1.toNatClampNeg))) (tgt := 26) hx hb dX6_cut_19 (by decide) (fun c19 => ?_) (fun c19 => ?_)
    · rw [if_pos c19] at hw
      refine lv_iconst (v := 0) hx hb dX6_cut_26 (by decide) ?_
      exact j27 S3 0  _ _ _ hw hP hF hS (lv_sub hl [0, 1] rfl)
    · rw [if_neg c19] at hw
      refine lv_iconst (v := 2) hx hb dX6_cut_22 (by decide) ?_
      refine lv_goto (tgt := 27) hx hb dX6_cut_23 (by decide) ?_
      exact j27 S3 2  _ _ _ hw hP hF hS (lv_sub hl [0, 1] rfl)
  · have c6 := b2i_z c6
    rw [if_neg c6] at hw
    refine lv_iconst (v := 1) hx hb dX6_cut_9 (by decide) ?_
    refine lv_goto (tgt := 27) hx hb dX6_cut_10 (by decide) ?_
    exact j27 S3 1  _ _ _ hw hP hF hS (lv_sub hl [0, 1] rfl)
set_option maxHeartbeats 4000000 in
set_option maxRecDepth 100000 in
theorem c_X6_repair (l : Launch) (D : va_G) (cy : Nat → ClassId) (b0 : Nat) (S : St) (x1 : Int32)  (P : Int32 → St → Prop) (hw : wp_X6_repair S x1 P) : Met l yX6_repair wsX6_repair rm_X6_repair (va_Pc [.ref (b0 + 367), .int x1] (Wd D cy b0 NALL S)) (QC (Pi P) (Wb D cy b0 NALL) b0) 0 0 (AA b0) := by
  refine Met.ofW (cc := cX6_repair) (maxL := 3) (ret := (some .int)) (by decide) rfl ?_
  intro p e s m args below meth c s₁ B hml hv
  obtain ⟨hargs, hW, hP, hF⟩ := hv
  have hx := B.exec
  have hb := B.bytes
  have hr := B.returns
  have hts := atoms_spec (ws := wsX6_repair) B.pre
  have hown : s.vm.findClass RX6 = some m.cls := findClass_of_methodNamed B.named
  have hlocks := B.notSynchronized
  have hK := hW.1
  have hS : va_S (AA b0) s.heap s.heap [] := va_S.rf
  have hE : entryFrame m args 3 = F0 m 0 ((lg_sl [.ref (b0 + 367), .int x1] ++ List.replicate (3 - (lg_sl [.ref (b0 + 367), .int x1]).length) Slot.unset).toArray) [] := by rw [hargs]; exact lg_entry_eq m _ _
  rw [hE]
  have hl := lv_entry [.ref (b0 + 367), .int x1] (n := 3) (Nat.le_of_ble_eq_true rfl)
  generalize (lg_sl [.ref (b0 + 367), .int x1] ++ List.replicate (3 - (lg_sl [.ref (b0 + 367), .int x1]).length) Slot.unset).toArray = ls at hl ⊢
  have hl : lv_has ls 3 [(0, .ref (b0 + 367)), (1, .int x1)] := hl
  have j27 : ∀ (S : St) (t1 : Int32), ∀ (H : Heap) (locs : List Loc) (ls : Array Slot), wp_X6_repair_27 x1 P S t1 → HP D cy b0 NALL S H → Fx S → va_S (AA b0) s.heap H locs → lv_has ls 3 [(0, .ref (b0 + 367)), (1, .int x1)] → W p l e rm_X6_repair s m args below meth c H locs 0 0 (MQ below (QC (Pi P) (Wb D cy b0 NALL) b0) args s 0 0 (AA b0)) (F0 m 27 ls [.int t1, .ref (b0 + 367)]) := by
    intro S t1  H locs ls hw hP hF hS hl
    unfold wp_X6_repair_27 at hw
    refine q_call (va_runV (As := [.int t1]) (rest := []) ⟨hx, hb, hml, hown, hts⟩ (c_X6_holds l D cy b0 S t1 _ hw) (cwV 1 hts gX6_repair_X6_holds rfl rfl rfl (by decide +kernel) ⟨(Nat.le_of_ble_eq_true rfl), (Nat.le_of_ble_eq_true rfl)⟩) (q_pV hW hP hF hS (k := 367) (ci := 6) (by decide) (cell_6 (kk_367)) rfl [.int t1]) rfl rfl hl.1 rfl (lv_room (Nat.le_of_ble_eq_true rfl)) dX6_repair_27 ⟨(Nat.le_of_ble_eq_true rfl), (Nat.le_of_ble_eq_true rfl)⟩) hS (fun v27 S27 t27 H locs hh hp hB hz hk9 hS => ?_)
    obtain ⟨r27, rfl, hw⟩ := hp
    have hP : HP D cy b0 NALL S27 H := by rw [← hh]; exact hB.1
    have hF := hB.2
    try dsimp only at hw
    refine W.eq (g2 := F0 m 30 ls [.int (b2i r27)]) rfl ?_
    refine lv_if_ne (x := b2i r27) (tgt := 35) hx hb dX6_repair_30 (by decide) (fun c30 => ?_) (fun c30 => ?_)
    · have c30 := b2i_n c30
      rw [if_pos c30] at hw
      refine lv_aload_n hx hb dX6_repair_35 rfl (lv_at hl 0 rfl) ?_
      refine q_call (va_runV (As := []) (rest := []) ⟨hx, hb, hml, hown, hts⟩ (c_X6_numberOfUp l D cy b0 S27 _ hw) (cwV 0 hts gX6_repair_X6_numberOfUp rfl rfl rfl (by decide +kernel) ⟨(Nat.le_of_ble_eq_true rfl), (Nat.le_of_ble_eq_true rfl)⟩) (q_pV hW hP hF hS (k := 367) (ci := 6) (by decide) (cell_6 (kk_367)) rfl []) rfl rfl hl.1 rfl (lv_room (Nat.le_of_ble_eq_true rfl)) dX6_repair_36 ⟨(Nat.le_of_ble_eq_true rfl), (Nat.le_of_ble_eq_true rfl)⟩) hS (fun v36 S36 t36 H locs hh hp hB hz hk9 hS => ?_)
      obtain ⟨r36, rfl, hw⟩ := hp
      have hP : HP D cy b0 NALL S36 H := by rw [← hh]; exact hB.1
      have hF := hB.2
      try dsimp only at hw
      refine W.eq (g2 := F0 m 39 ls [.int r36]) rfl ?_
      refine lv_istore_n (lv' := [(2, .int r36), (0, .ref (b0 + 367)), (1, .int x1)]) hx hb dX6_repair_39 rfl hl (by decide) rfl (fun ls hl => ?_)
      refine lv_aload_n hx hb dX6_repair_40 rfl (lv_at hl 1 rfl) ?_
      refine gf_6_8 (k := 367) hx hb hts (by decide +kernel) hown hK hP (by decide) (kk_367) (q := 372) (hF.1 367 8 372 ff_367_8) (hts (.fieldLink RX6 30 "OpticmeshModel" "areCut" "[Z") (by decide +kernel)) dX6_repair_41 ?_
      refine lv_iload_n hx hb dX6_repair_44 rfl (lv_at hl 2 rfl) ?_
      refine lv_iconst (v := 0) hx hb dX6_repair_45 (by decide) ?_
      obtain ⟨h46, hw⟩ := hw
      refine q_zast (k := 372) (n := 14) (i := x1) (x := b2i false) hx hb hK hP hS (by decide) (kk_372) (ll_372) (b2i_nar false) h46 dX6_repair_46 (fun H locs hz hP hS => ?_)
      have hF : Fx (sI S36 372 (x1.toNatClampNeg) (b2i false)) := Fx.sI hF _ _ _
      generalize eS46 : sI S36 372 (x1.toNatClampNeg) (b2i false) = S46 at hP hF
      have hw := hw S46 eS46.symm
      refine lv_aload_n hx hb dX6_repair_47 rfl (lv_at hl 1 rfl) ?_
      refine q_call (va_runV (As := []) (rest := []) ⟨hx, hb, hml, hown, hts⟩ (c_X6_numberOfUp l D cy b0 S46 _ hw) (cwV 0 hts gX6_repair_X6_numberOfUp rfl rfl rfl (by decide +kernel) ⟨(Nat.le_of_ble_eq_true rfl), (Nat.le_of_ble_eq_true rfl)⟩) (q_pV hW hP hF hS (k := 367) (ci := 6) (by decide) (cell_6 (kk_367)) rfl []) rfl rfl hl.1 rfl (lv_room (Nat.le_of_ble_eq_true rfl)) dX6_repair_48 ⟨(Nat.le_of_ble_eq_true rfl), (Nat.le_of_ble_eq_true rfl)⟩) hS (fun v48 S48 t48 H locs hh hp hB hz hk9 hS => ?_)
      obtain ⟨r48, rfl, hw⟩ := hp
      have hP : HP D cy b0 NALL S48 H := by rw [← hh]; exact hB.1
      have hF := hB.2
      try dsimp only at hw
      refine W.eq (g2 := F0 m 51 ls [.int r48]) rfl ?_
      refine lv_iload_n hx hb dX6_repair_51 rfl (lv_at hl 0 rfl) ?_
      refine lv_isub hx hb dX6_repair_52 ?_
      exact q_iret hx hb hr hP hF hS hw dX6_repair_53 hlocks
    · have c30 := b2i_z c30
      rw [if_neg c30] at hw
      refine lv_iconst (v := 0) hx hb dX6_repair_33 (by decide) ?_
      exact q_iret hx hb hr hP hF hS hw dX6_repair_34 hlocks
  unfold wp_X6_repair at hw
  refine lv_aload_n hx hb dX6_repair_0 rfl (lv_at hl 0 rfl) ?_
  refine lv_aload_n hx hb dX6_repair_1 rfl (lv_at hl 0 rfl) ?_
  refine lv_iload_n hx hb dX6_repair_2 rfl (lv_at hl 1 rfl) ?_
  refine q_call (va_runV (As := [.int x1]) (rest := [.ref (b0 + 367)]) ⟨hx, hb, hml, hown, hts⟩ (c_X6_isFibre l D cy b0 S x1 _ hw) (cwV 1 hts gX6_repair_X6_isFibre rfl rfl rfl (by decide +kernel) ⟨(Nat.le_of_ble_eq_true rfl), (Nat.le_of_ble_eq_true rfl)⟩) (q_pV hW hP hF hS (k := 367) (ci := 6) (by decide) (cell_6 (kk_367)) rfl [.int x1]) rfl rfl hl.1 rfl (lv_room (Nat.le_of_ble_eq_true rfl)) dX6_repair_3 ⟨(Nat.le_of_ble_eq_true rfl), (Nat.le_of_ble_eq_true rfl)⟩) hS (fun v3 S3 t3 H locs hh hp hB hz hk9 hS => ?_)
  obtain ⟨r3, rfl, hw⟩ := hp
  have hP : HP D cy b0 NALL S3 H := by rw [← hh]; exact hB.1
  have hF := hB.2
  try dsimp only at hw
  refine W.eq (g2 := F0 m 6 ls [.int (b2i r3), .ref (b0 + 367)]) rfl ?_
  refine lv_if_ne (x := b2i r3) (tgt := 13) hx hb dX6_repair_6 (by decide) (fun c6 => ?_) (fun c6 => ?_)
  · have c6 := b2i_n c6
    rw [if_pos c6] at hw
    refine lv_aload_n hx hb dX6_repair_13 rfl (lv_at hl 0 rfl) ?_
    refine gf_6_8 (k := 367) hx hb hts (by decide +kernel) hown hK hP (by decide) (kk_367) (q := 372) (hF.1 367 8 372 ff_367_8) (hts (.fieldLink RX6 30 "OpticmeshModel" "areCut" "[Z") (by decide +kernel)) dX6_repair_14 ?_
    refine lv_iload_n hx hb dX6_repair_17 rfl (lv_at hl 1 rfl) ?_
    obtain ⟨h18, hw⟩ := hw
    refine q_zald (k := 372) (n := 14) (i := x1) hx hb hK hP (by decide) (kk_372) (ll_372) h18 dX6_repair_18 ?_
    refine lv_if_eq (x := (gI S3 372 (x1.toNatClampNeg))) (tgt := 26) hx hb dX6_repair_19 (by decide) (fun c19 => ?_) (fun c19 => ?_)
    · rw [if_pos c19] at hw
      refine lv_iconst (v := 2) hx hb dX6_repair_26 (by decide) ?_
      exact j27 S3 2  _ _ _ hw hP hF hS (lv_sub hl [0, 1] rfl)
    · rw [if_neg c19] at hw
      refine lv_iconst (v := 0) hx hb dX6_repair_22 (by decide) ?_
      refine lv_goto (tgt := 27) hx hb dX6_repair_23 (by decide) ?_
      exact j27 S3 0  _ _ _ hw hP hF hS (lv_sub hl [0, 1] rfl)
  · have c6 := b2i_z c6
    rw [if_neg c6] at hw
    refine lv_iconst (v := 1) hx hb dX6_repair_9 (by decide) ?_
    refine lv_goto (tgt := 27) hx hb dX6_repair_10 (by decide) ?_
    exact j27 S3 1  _ _ _ hw hP hF hS (lv_sub hl [0, 1] rfl)
set_option maxHeartbeats 4000000 in
set_option maxRecDepth 100000 in
theorem c_X6_lightOn (l : Launch) (D : va_G) (cy : Nat → ClassId) (b0 : Nat) (S : St) (x1 : Int32) (x2 : Int32)  (P : Int32 → St → Prop) (hw : wp_X6_lightOn S x1 x2 P) : Met l yX6_lightOn wsX6_lightOn rm_X6_lightOn (va_Pc [.ref (b0 + 367), .int x1, .int x2] (Wd D cy b0 NALL S)) (QC (Pi P) (Wb D cy b0 NALL) b0) 0 0 (AA b0) := by
  refine Met.ofW (cc := cX6_lightOn) (maxL := 3) (ret := (some .int)) (by decide) rfl ?_
  intro p e s m args below meth c s₁ B hml hv
  obtain ⟨hargs, hW, hP, hF⟩ := hv
  have hx := B.exec
  have hb := B.bytes
  have hr := B.returns
  have hts := atoms_spec (ws := wsX6_lightOn) B.pre
  have hown : s.vm.findClass RX6 = some m.cls := findClass_of_methodNamed B.named
  have hlocks := B.notSynchronized
  have hK := hW.1
  have hS : va_S (AA b0) s.heap s.heap [] := va_S.rf
  have hE : entryFrame m args 3 = F0 m 0 ((lg_sl [.ref (b0 + 367), .int x1, .int x2] ++ List.replicate (3 - (lg_sl [.ref (b0 + 367), .int x1, .int x2]).length) Slot.unset).toArray) [] := by rw [hargs]; exact lg_entry_eq m _ _
  rw [hE]
  have hl := lv_entry [.ref (b0 + 367), .int x1, .int x2] (n := 3) (Nat.le_of_ble_eq_true rfl)
  generalize (lg_sl [.ref (b0 + 367), .int x1, .int x2] ++ List.replicate (3 - (lg_sl [.ref (b0 + 367), .int x1, .int x2]).length) Slot.unset).toArray = ls at hl ⊢
  have hl : lv_has ls 3 [(0, .ref (b0 + 367)), (1, .int x1), (2, .int x2)] := hl
  have j32 : ∀ (S : St) (t1 : Int32), ∀ (H : Heap) (locs : List Loc) (ls : Array Slot), wp_X6_lightOn_32 x1 x2 P S t1 → HP D cy b0 NALL S H → Fx S → va_S (AA b0) s.heap H locs → lv_has ls 3 [(0, .ref (b0 + 367)), (1, .int x1), (2, .int x2)] → W p l e rm_X6_lightOn s m args below meth c H locs 0 0 (MQ below (QC (Pi P) (Wb D cy b0 NALL) b0) args s 0 0 (AA b0)) (F0 m 32 ls [.int t1, .ref (b0 + 367)]) := by
    intro S t1  H locs ls hw hP hF hS hl
    unfold wp_X6_lightOn_32 at hw
    refine q_call (va_runV (As := [.int t1]) (rest := []) ⟨hx, hb, hml, hown, hts⟩ (c_X6_holds l D cy b0 S t1 _ hw) (cwV 1 hts gX6_lightOn_X6_holds rfl rfl rfl (by decide +kernel) ⟨(Nat.le_of_ble_eq_true rfl), (Nat.le_of_ble_eq_true rfl)⟩) (q_pV hW hP hF hS (k := 367) (ci := 6) (by decide) (cell_6 (kk_367)) rfl [.int t1]) rfl rfl hl.1 rfl (lv_room (Nat.le_of_ble_eq_true rfl)) dX6_lightOn_32 ⟨(Nat.le_of_ble_eq_true rfl), (Nat.le_of_ble_eq_true rfl)⟩) hS (fun v32 S32 t32 H locs hh hp hB hz hk9 hS => ?_)
    obtain ⟨r32, rfl, hw⟩ := hp
    have hP : HP D cy b0 NALL S32 H := by rw [← hh]; exact hB.1
    have hF := hB.2
    try dsimp only at hw
    refine W.eq (g2 := F0 m 35 ls [.int (b2i r32)]) rfl ?_
    refine lv_if_eq (x := b2i r32) (tgt := 52) hx hb dX6_lightOn_35 (by decide) (fun c35 => ?_) (fun c35 => ?_)
    · have c35 := b2i_z c35
      rw [if_neg c35] at hw
      refine lv_iconst (v := 0) hx hb dX6_lightOn_52 (by decide) ?_
      exact q_iret hx hb hr hP hF hS hw dX6_lightOn_53 hlocks
    · have c35 := b2i_n c35
      rw [if_pos c35] at hw
      refine lv_aload_n hx hb dX6_lightOn_38 rfl (lv_at hl 0 rfl) ?_
      refine gf_6_9 (k := 367) hx hb hts (by decide +kernel) hown hK hP (by decide) (kk_367) (q := 373) (hF.1 367 9 373 ff_367_9) (hts (.fieldLink RX6 33 "OpticmeshModel" "used" "[I") (by decide +kernel)) dX6_lightOn_39 ?_
      refine lv_bipush (v := 8) hx hb dX6_lightOn_42 (by decide) ?_
      refine lv_iload_n hx hb dX6_lightOn_44 rfl (lv_at hl 1 rfl) ?_
      refine lv_imul hx hb dX6_lightOn_45 ?_
      refine lv_iload_n hx hb dX6_lightOn_46 rfl (lv_at hl 2 rfl) ?_
      refine lv_iadd hx hb dX6_lightOn_47 ?_
      obtain ⟨h48, hw⟩ := hw
      refine q_iald (k := 373) (n := 112) (i := ((8 * x1) + x2)) hx hb hK hP (by decide) (kk_373) (ll_373) h48 dX6_lightOn_48 ?_
      refine lv_goto (tgt := 53) hx hb dX6_lightOn_49 (by decide) ?_
      exact q_iret hx hb hr hP hF hS hw dX6_lightOn_53 hlocks
  unfold wp_X6_lightOn at hw
  refine lv_aload_n hx hb dX6_lightOn_0 rfl (lv_at hl 0 rfl) ?_
  refine lv_aload_n hx hb dX6_lightOn_1 rfl (lv_at hl 0 rfl) ?_
  refine lv_iload_n hx hb dX6_lightOn_2 rfl (lv_at hl 1 rfl) ?_
  refine q_call (va_runV (As := [.int x1]) (rest := [.ref (b0 + 367)]) ⟨hx, hb, hml, hown, hts⟩ (c_X6_isFibre l D cy b0 S x1 _ hw) (cwV 1 hts gX6_lightOn_X6_isFibre rfl rfl rfl (by decide +kernel) ⟨(Nat.le_of_ble_eq_true rfl), (Nat.le_of_ble_eq_true rfl)⟩) (q_pV hW hP hF hS (k := 367) (ci := 6) (by decide) (cell_6 (kk_367)) rfl [.int x1]) rfl rfl hl.1 rfl (lv_room (Nat.le_of_ble_eq_true rfl)) dX6_lightOn_3 ⟨(Nat.le_of_ble_eq_true rfl), (Nat.le_of_ble_eq_true rfl)⟩) hS (fun v3 S3 t3 H locs hh hp hB hz hk9 hS => ?_)
  obtain ⟨r3, rfl, hw⟩ := hp
  have hP : HP D cy b0 NALL S3 H := by rw [← hh]; exact hB.1
  have hF := hB.2
  try dsimp only at hw
  refine W.eq (g2 := F0 m 6 ls [.int (b2i r3), .ref (b0 + 367)]) rfl ?_
  refine lv_if_ne (x := b2i r3) (tgt := 13) hx hb dX6_lightOn_6 (by decide) (fun c6 => ?_) (fun c6 => ?_)
  · have c6 := b2i_n c6
    rw [if_pos c6] at hw
    refine lv_iload_n hx hb dX6_lightOn_13 rfl (lv_at hl 2 rfl) ?_
    refine lv_iconst (v := 0) hx hb dX6_lightOn_14 (by decide) ?_
    refine lv_aload_n hx hb dX6_lightOn_15 rfl (lv_at hl 0 rfl) ?_
    refine gf_6_2 (k := 367) hx hb hts (by decide +kernel) hown hK hP (by decide) (kk_367) (hts (.fieldLink RX6 13 "OpticmeshModel" "wavelengths" "I") (by decide +kernel)) dX6_lightOn_16 ?_
    refine lv_iconst (v := 1) hx hb dX6_lightOn_19 (by decide) ?_
    refine lv_isub hx hb dX6_lightOn_20 ?_
    refine q_call (va_runS (As := [.int x2, .int 0, .int ((gI S3 367 2) - 1)]) (rest := [.ref (b0 + 367)]) ⟨hx, hb, hml, hown, hts⟩ (c_X6_in l D cy b0 S3 x2 0 ((gI S3 367 2) - 1) _ hw) (va_cwS 3 hts gX6_lightOn_X6_in rfl rfl rfl (by decide +kernel) ⟨(Nat.le_of_ble_eq_true rfl), (Nat.le_of_ble_eq_true rfl)⟩) (q_pS hW hP hF hS [.int x2, .int 0, .int ((gI S3 367 2) - 1)]) rfl rfl hl.1 rfl (lv_room (Nat.le_of_ble_eq_true rfl)) dX6_lightOn_21 ⟨(Nat.le_of_ble_eq_true rfl), (Nat.le_of_ble_eq_true rfl)⟩) hS (fun v21 S21 t21 H locs hh hp hB hz hk9 hS => ?_)
    obtain ⟨r21, rfl, hw⟩ := hp
    have hP : HP D cy b0 NALL S21 H := by rw [← hh]; exact hB.1
    have hF := hB.2
    try dsimp only at hw
    refine W.eq (g2 := F0 m 24 ls [.int (b2i r21), .ref (b0 + 367)]) rfl ?_
    refine lv_if_eq (x := b2i r21) (tgt := 31) hx hb dX6_lightOn_24 (by decide) (fun c24 => ?_) (fun c24 => ?_)
    · have c24 := b2i_z c24
      rw [if_neg c24] at hw
      refine lv_iconst (v := 2) hx hb dX6_lightOn_31 (by decide) ?_
      exact j32 S21 2  _ _ _ hw hP hF hS (lv_sub hl [0, 1, 2] rfl)
    · have c24 := b2i_n c24
      rw [if_pos c24] at hw
      refine lv_iconst (v := 0) hx hb dX6_lightOn_27 (by decide) ?_
      refine lv_goto (tgt := 32) hx hb dX6_lightOn_28 (by decide) ?_
      exact j32 S21 0  _ _ _ hw hP hF hS (lv_sub hl [0, 1, 2] rfl)
  · have c6 := b2i_z c6
    rw [if_neg c6] at hw
    refine lv_iconst (v := 1) hx hb dX6_lightOn_9 (by decide) ?_
    refine lv_goto (tgt := 32) hx hb dX6_lightOn_10 (by decide) ?_
    exact j32 S3 1  _ _ _ hw hP hF hS (lv_sub hl [0, 1, 2] rfl)
set_option maxHeartbeats 4000000 in
set_option maxRecDepth 100000 in
theorem c_X6_usedOn (l : Launch) (D : va_G) (cy : Nat → ClassId) (b0 : Nat) (S : St) (x1 : Int32)  (P : Int32 → St → Prop) (hw : wp_X6_usedOn S x1 P) : Met l yX6_usedOn wsX6_usedOn rm_X6_usedOn (va_Pc [.ref (b0 + 367), .int x1] (Wd D cy b0 NALL S)) (QC (Pi P) (Wb D cy b0 NALL) b0) 0 0 (AA b0) := by
  refine Met.ofW (cc := cX6_usedOn) (maxL := 4) (ret := (some .int)) (by decide) rfl ?_
  intro p e s m args below meth c s₁ B hml hv
  obtain ⟨hargs, hW, hP, hF⟩ := hv
  have hx := B.exec
  have hb := B.bytes
  have hr := B.returns
  have hts := atoms_spec (ws := wsX6_usedOn) B.pre
  have hown : s.vm.findClass RX6 = some m.cls := findClass_of_methodNamed B.named
  have hlocks := B.notSynchronized
  have hK := hW.1
  have hS : va_S (AA b0) s.heap s.heap [] := va_S.rf
  have hE : entryFrame m args 4 = F0 m 0 ((lg_sl [.ref (b0 + 367), .int x1] ++ List.replicate (4 - (lg_sl [.ref (b0 + 367), .int x1]).length) Slot.unset).toArray) [] := by rw [hargs]; exact lg_entry_eq m _ _
  rw [hE]
  have hl := lv_entry [.ref (b0 + 367), .int x1] (n := 4) (Nat.le_of_ble_eq_true rfl)
  generalize (lg_sl [.ref (b0 + 367), .int x1] ++ List.replicate (4 - (lg_sl [.ref (b0 + 367), .int x1]).length) Slot.unset).toArray = ls at hl ⊢
  have hl : lv_has ls 4 [(0, .ref (b0 + 367)), (1, .int x1)] := hl
  have j4 : ∀ (n4 : Nat), ∀ (S : St) (a2 : Int32) (a3 : Int32), ∀ (H : Heap) (locs : List Loc) (ls : Array Slot), wp_X6_usedOn_4 x1 P n4 S a2 a3 → HP D cy b0 NALL S H → Fx S → va_S (AA b0) s.heap H locs → lv_has ls 4 [(0, .ref (b0 + 367)), (1, .int x1), (2, .int a2), (3, .int a3)] → W p l e rm_X6_usedOn s m args below meth c H locs 0 0 (MQ below (QC (Pi P) (Wb D cy b0 NALL) b0) args s 0 0 (AA b0)) (F0 m 4 ls []) := by
    intro n4
    induction n4 with
    | zero => intro S a2 a3  H locs ls hw _ _ _ _; exact False.elim hw
    | succ n4 ih4 =>
      have j32 : ∀ (S : St) (a3 : Int32) (t0 : Int32) (t1 : Bool), ∀ (H : Heap) (locs : List Loc) (ls : Array Slot), wp_X6_usedOn_32 x1 P (fun S a2 a3 => wp_X6_usedOn_4 x1 P n4 S a2 a3) S a3 t0 t1 → HP D cy b0 NALL S H → Fx S → va_S (AA b0) s.heap H locs → lv_has ls 4 [(0, .ref (b0 + 367)), (1, .int x1), (3, .int a3)] → W p l e rm_X6_usedOn s m args below meth c H locs 0 0 (MQ below (QC (Pi P) (Wb D cy b0 NALL) b0) args s 0 0 (AA b0)) (F0 m 32 ls [.int (b2i t1), .int t0]) := by
        intro S a3 t0 t1  H locs ls hw hP hF hS hl
        unfold wp_X6_usedOn_32 at hw
        refine lv_iadd hx hb dX6_usedOn_32 ?_
        refine lv_topi (fun y33 e33 => ?_)
        have hw := hw y33 e33
        refine lv_istore_n (lv' := [(2, .int y33), (0, .ref (b0 + 367)), (1, .int x1), (3, .int a3)]) hx hb dX6_usedOn_33 rfl hl (by decide) rfl (fun ls hl => ?_)
        obtain ⟨y34, e34⟩ : ∃ z : Int32, z = a3 + 1 := ⟨_, rfl⟩
        have hw := hw y34 e34
        refine lv_iinc (v := y34) (lv' := [(3, .int y34), (2, .int y33), (0, .ref (b0 + 367)), (1, .int x1)]) hx hb dX6_usedOn_34 hl (k := 3) rfl (by rw [e34]; rfl) (by decide) rfl (fun ls hl => ?_)
        refine lv_goto (tgt := 4) hx hb dX6_usedOn_37 (by decide) ?_
        exact ih4 S y33 y34  _ _ _ hw hP hF hS (lv_sub hl [2, 3, 1, 0] rfl)
      intro S a2 a3  H locs ls hw hP hF hS hl
      rw [wp_X6_usedOn_4] at hw
      refine lv_iload_n hx hb dX6_usedOn_4 rfl (lv_at hl 3 rfl) ?_
      refine lv_aload_n hx hb dX6_usedOn_5 rfl (lv_at hl 0 rfl) ?_
      refine gf_6_2 (k := 367) hx hb hts (by decide +kernel) hown hK hP (by decide) (kk_367) (hts (.fieldLink RX6 13 "OpticmeshModel" "wavelengths" "I") (by decide +kernel)) dX6_usedOn_6 ?_
      refine lv_icmp_ge (x := a3) (y := (gI S 367 2)) (tgt := 40) hx hb dX6_usedOn_9 (by decide) (fun c9 => ?_) (fun c9 => ?_)
      · rw [if_pos c9] at hw
        refine lv_iload_n hx hb dX6_usedOn_40 rfl (lv_at hl 2 rfl) ?_
        exact q_iret hx hb hr hP hF hS hw dX6_usedOn_41 hlocks
      · rw [if_neg c9] at hw
        refine lv_iload_n hx hb dX6_usedOn_12 rfl (lv_at hl 2 rfl) ?_
        refine lv_aload_n hx hb dX6_usedOn_13 rfl (lv_at hl 0 rfl) ?_
        refine gf_6_9 (k := 367) hx hb hts (by decide +kernel) hown hK hP (by decide) (kk_367) (q := 373) (hF.1 367 9 373 ff_367_9) (hts (.fieldLink RX6 33 "OpticmeshModel" "used" "[I") (by decide +kernel)) dX6_usedOn_14 ?_
        refine lv_bipush (v := 8) hx hb dX6_usedOn_17 (by decide) ?_
        refine lv_iload_n hx hb dX6_usedOn_19 rfl (lv_at hl 1 rfl) ?_
        refine lv_imul hx hb dX6_usedOn_20 ?_
        refine lv_iload_n hx hb dX6_usedOn_21 rfl (lv_at hl 3 rfl) ?_
        refine lv_iadd hx hb dX6_usedOn_22 ?_
        obtain ⟨h23, hw⟩ := hw
        refine q_iald (k := 373) (n := 112) (i := ((8 * x1) + a3)) hx hb hK hP (by decide) (kk_373) (ll_373) h23 dX6_usedOn_23 ?_
        refine lv_if_lt (x := (gI S 373 (((8 * x1) + a3).toNatClampNeg))) (tgt := 31) hx hb dX6_usedOn_24 (by decide) (fun c24 => ?_) (fun c24 => ?_)
        · rw [if_pos c24] at hw
          refine lv_iconst (v := 0) hx hb dX6_usedOn_31 (by decide) ?_
          exact j32 S a3 a2 false  _ _ _ hw hP hF hS (lv_sub hl [0, 1, 3] rfl)
        · rw [if_neg c24] at hw
          refine lv_iconst (v := 1) hx hb dX6_usedOn_27 (by decide) ?_
          refine lv_goto (tgt := 32) hx hb dX6_usedOn_28 (by decide) ?_
          exact j32 S a3 a2 true  _ _ _ hw hP hF hS (lv_sub hl [0, 1, 3] rfl)
  unfold wp_X6_usedOn at hw
  refine lv_iconst (v := 0) hx hb dX6_usedOn_0 (by decide) ?_
  refine lv_istore_n (lv' := [(2, .int 0), (0, .ref (b0 + 367)), (1, .int x1)]) hx hb dX6_usedOn_1 rfl hl (by decide) rfl (fun ls hl => ?_)
  refine lv_iconst (v := 0) hx hb dX6_usedOn_2 (by decide) ?_
  refine lv_istore_n (lv' := [(3, .int 0), (2, .int 0), (0, .ref (b0 + 367)), (1, .int x1)]) hx hb dX6_usedOn_3 rfl hl (by decide) rfl (fun ls hl => ?_)
  obtain ⟨n4, hw⟩ := hw
  exact j4 n4 S 0 0  _ _ _ hw hP hF hS (lv_sub hl [2, 3, 1, 0] rfl)
set_option maxHeartbeats 4000000 in
set_option maxRecDepth 100000 in
theorem c_X6_load (l : Launch) (D : va_G) (cy : Nat → ClassId) (b0 : Nat) (S : St)   (P : Int32 → St → Prop) (hw : wp_X6_load S  P) : Met l yX6_load wsX6_load rm_X6_load (va_Pc [.ref (b0 + 367)] (Wd D cy b0 NALL S)) (QC (Pi P) (Wb D cy b0 NALL) b0) 0 0 (AA b0) := by
  refine Met.ofW (cc := cX6_load) (maxL := 3) (ret := (some .int)) (by decide) rfl ?_
  intro p e s m args below meth c s₁ B hml hv
  obtain ⟨hargs, hW, hP, hF⟩ := hv
  have hx := B.exec
  have hb := B.bytes
  have hr := B.returns
  have hts := atoms_spec (ws := wsX6_load) B.pre
  have hown : s.vm.findClass RX6 = some m.cls := findClass_of_methodNamed B.named
  have hlocks := B.notSynchronized
  have hK := hW.1
  have hS : va_S (AA b0) s.heap s.heap [] := va_S.rf
  have hE : entryFrame m args 3 = F0 m 0 ((lg_sl [.ref (b0 + 367)] ++ List.replicate (3 - (lg_sl [.ref (b0 + 367)]).length) Slot.unset).toArray) [] := by rw [hargs]; exact lg_entry_eq m _ _
  rw [hE]
  have hl := lv_entry [.ref (b0 + 367)] (n := 3) (Nat.le_of_ble_eq_true rfl)
  generalize (lg_sl [.ref (b0 + 367)] ++ List.replicate (3 - (lg_sl [.ref (b0 + 367)]).length) Slot.unset).toArray = ls at hl ⊢
  have hl : lv_has ls 3 [(0, .ref (b0 + 367))] := hl
  have j9 : ∀ (n9 : Nat), ∀ (S : St) (a1 : Int32) (a2 : Int32), ∀ (H : Heap) (locs : List Loc) (ls : Array Slot), wp_X6_load_9 P n9 S a1 a2 → HP D cy b0 NALL S H → Fx S → va_S (AA b0) s.heap H locs → lv_has ls 3 [(0, .ref (b0 + 367)), (1, .int a1), (2, .int a2)] → W p l e rm_X6_load s m args below meth c H locs 0 0 (MQ below (QC (Pi P) (Wb D cy b0 NALL) b0) args s 0 0 (AA b0)) (F0 m 9 ls []) := by
    intro n9
    induction n9 with
    | zero => intro S a1 a2  H locs ls hw _ _ _ _; exact False.elim hw
    | succ n9 ih9 =>
      have j35 : ∀ (S : St) (a2 : Int32) (t0 : Int32), ∀ (H : Heap) (locs : List Loc) (ls : Array Slot), wp_X6_load_35 P (fun S a1 a2 => wp_X6_load_9 P n9 S a1 a2) S a2 t0 → HP D cy b0 NALL S H → Fx S → va_S (AA b0) s.heap H locs → lv_has ls 3 [(0, .ref (b0 + 367)), (2, .int a2)] → W p l e rm_X6_load s m args below meth c H locs 0 0 (MQ below (QC (Pi P) (Wb D cy b0 NALL) b0) args s 0 0 (AA b0)) (F0 m 35 ls [.int t0]) := by
        intro S a2 t0  H locs ls hw hP hF hS hl
        unfold wp_X6_load_35 at hw
        refine lv_istore_n (lv' := [(1, .int t0), (0, .ref (b0 + 367)), (2, .int a2)]) hx hb dX6_load_35 rfl hl (by decide) rfl (fun ls hl => ?_)
        obtain ⟨y36, e36⟩ : ∃ z : Int32, z = a2 + 1 := ⟨_, rfl⟩
        have hw := hw y36 e36
        refine lv_iinc (v := y36) (lv' := [(2, .int y36), (1, .int t0), (0, .ref (b0 + 367))]) hx hb dX6_load_36 hl (k := 2) rfl (by rw [e36]; rfl) (by decide) rfl (fun ls hl => ?_)
        refine lv_goto (tgt := 9) hx hb dX6_load_39 (by decide) ?_
        exact ih9 S t0 y36  _ _ _ hw hP hF hS (lv_sub hl [2, 1, 0] rfl)
      intro S a1 a2  H locs ls hw hP hF hS hl
      rw [wp_X6_load_9] at hw
      refine lv_iload_n hx hb dX6_load_9 rfl (lv_at hl 2 rfl) ?_
      refine lv_aload_n hx hb dX6_load_10 rfl (lv_at hl 0 rfl) ?_
      refine gf_6_3 (k := 367) hx hb hts (by decide +kernel) hown hK hP (by decide) (kk_367) (hts (.fieldLink RX6 90 "OpticmeshModel" "fibres" "I") (by decide +kernel)) dX6_load_11 ?_
      refine lv_icmp_ge (x := a2) (y := (gI S 367 3)) (tgt := 42) hx hb dX6_load_14 (by decide) (fun c14 => ?_) (fun c14 => ?_)
      · rw [if_pos c14] at hw
        refine lv_iload_n hx hb dX6_load_42 rfl (lv_at hl 1 rfl) ?_
        exact q_iret hx hb hr hP hF hS hw dX6_load_43 hlocks
      · rw [if_neg c14] at hw
        refine lv_aload_n hx hb dX6_load_17 rfl (lv_at hl 0 rfl) ?_
        refine lv_iload_n hx hb dX6_load_18 rfl (lv_at hl 2 rfl) ?_
        refine q_call (va_runV (As := [.int a2]) (rest := []) ⟨hx, hb, hml, hown, hts⟩ (c_X6_usedOn l D cy b0 S a2 _ hw) (cwV 1 hts gX6_load_X6_usedOn rfl rfl rfl (by decide +kernel) ⟨(Nat.le_of_ble_eq_true rfl), (Nat.le_of_ble_eq_true rfl)⟩) (q_pV hW hP hF hS (k := 367) (ci := 6) (by decide) (cell_6 (kk_367)) rfl [.int a2]) rfl rfl hl.1 rfl (lv_room (Nat.le_of_ble_eq_true rfl)) dX6_load_19 ⟨(Nat.le_of_ble_eq_true rfl), (Nat.le_of_ble_eq_true rfl)⟩) hS (fun v19 S19 t19 H locs hh hp hB hz hk9 hS => ?_)
        obtain ⟨r19, rfl, hw⟩ := hp
        have hP : HP D cy b0 NALL S19 H := by rw [← hh]; exact hB.1
        have hF := hB.2
        try dsimp only at hw
        refine W.eq (g2 := F0 m 22 ls [.int r19]) rfl ?_
        refine lv_iload_n hx hb dX6_load_22 rfl (lv_at hl 1 rfl) ?_
        refine lv_icmp_le (x := r19) (y := a1) (tgt := 34) hx hb dX6_load_23 (by decide) (fun c23 => ?_) (fun c23 => ?_)
        · rw [if_pos c23] at hw
          refine lv_iload_n hx hb dX6_load_34 rfl (lv_at hl 1 rfl) ?_
          exact j35 S19 a2 a1  _ _ _ hw hP hF hS (lv_sub hl [0, 2] rfl)
        · rw [if_neg c23] at hw
          refine lv_aload_n hx hb dX6_load_26 rfl (lv_at hl 0 rfl) ?_
          refine lv_iload_n hx hb dX6_load_27 rfl (lv_at hl 2 rfl) ?_
          refine q_call (va_runV (As := [.int a2]) (rest := []) ⟨hx, hb, hml, hown, hts⟩ (c_X6_usedOn l D cy b0 S19 a2 _ hw) (cwV 1 hts gX6_load_X6_usedOn rfl rfl rfl (by decide +kernel) ⟨(Nat.le_of_ble_eq_true rfl), (Nat.le_of_ble_eq_true rfl)⟩) (q_pV hW hP hF hS (k := 367) (ci := 6) (by decide) (cell_6 (kk_367)) rfl [.int a2]) rfl rfl hl.1 rfl (lv_room (Nat.le_of_ble_eq_true rfl)) dX6_load_28 ⟨(Nat.le_of_ble_eq_true rfl), (Nat.le_of_ble_eq_true rfl)⟩) hS (fun v28 S28 t28 H locs hh hp hB hz hk9 hS => ?_)
          obtain ⟨r28, rfl, hw⟩ := hp
          have hP : HP D cy b0 NALL S28 H := by rw [← hh]; exact hB.1
          have hF := hB.2
          try dsimp only at hw
          refine W.eq (g2 := F0 m 31 ls [.int r28]) rfl ?_
          refine lv_goto (tgt := 35) hx hb dX6_load_31 (by decide) ?_
          exact j35 S28 a2 r28  _ _ _ hw hP hF hS (lv_sub hl [0, 2] rfl)
  unfold wp_X6_load at hw
  refine lv_aload_n hx hb dX6_load_0 rfl (lv_at hl 0 rfl) ?_
  refine lv_iconst (v := 0) hx hb dX6_load_1 (by decide) ?_
  refine pf_6_0 (k := 367) (x := 0) hx hb hts (by decide +kernel) hown hK hP hS (by decide) (kk_367) (hts (.fieldLink RX6 87 "OpticmeshModel" "thrown" "I") (by decide +kernel)) dX6_load_2 (fun H locs hz hP hS => ?_)
  have hF : Fx (sI S 367 0 0) := Fx.sI hF _ _ _
  generalize eS2 : sI S 367 0 0 = S2 at hP hF
  have hw := hw S2 eS2.symm
  refine lv_iconst (v := 0) hx hb dX6_load_5 (by decide) ?_
  refine lv_istore_n (lv' := [(1, .int 0), (0, .ref (b0 + 367))]) hx hb dX6_load_6 rfl hl (by decide) rfl (fun ls hl => ?_)
  refine lv_iconst (v := 0) hx hb dX6_load_7 (by decide) ?_
  refine lv_istore_n (lv' := [(2, .int 0), (1, .int 0), (0, .ref (b0 + 367))]) hx hb dX6_load_8 rfl hl (by decide) rfl (fun ls hl => ?_)
  obtain ⟨n9, hw⟩ := hw
  exact j9 n9 S2 0 0  _ _ _ hw hP hF hS (lv_sub hl [2, 1, 0] rfl)
set_option maxHeartbeats 4000000 in
set_option maxRecDepth 100000 in
theorem c_X6_usage (l : Launch) (D : va_G) (cy : Nat → ClassId) (b0 : Nat) (S : St)   (P : UInt32 → St → Prop) (hw : wp_X6_usage S  P) : Met l yX6_usage wsX6_usage rm_X6_usage (va_Pc [.ref (b0 + 367)] (Wd D cy b0 NALL S)) (QC (Pf P) (Wb D cy b0 NALL) b0) 0 0 (AA b0) := by
  refine Met.ofW (cc := cX6_usage) (maxL := 3) (ret := (some .float)) (by decide) rfl ?_
  intro p e s m args below meth c s₁ B hml hv
  obtain ⟨hargs, hW, hP, hF⟩ := hv
  have hx := B.exec
  have hb := B.bytes
  have hr := B.returns
  have hts := atoms_spec (ws := wsX6_usage) B.pre
  have hown : s.vm.findClass RX6 = some m.cls := findClass_of_methodNamed B.named
  have hlocks := B.notSynchronized
  have hK := hW.1
  have hS : va_S (AA b0) s.heap s.heap [] := va_S.rf
  have hE : entryFrame m args 3 = F0 m 0 ((lg_sl [.ref (b0 + 367)] ++ List.replicate (3 - (lg_sl [.ref (b0 + 367)]).length) Slot.unset).toArray) [] := by rw [hargs]; exact lg_entry_eq m _ _
  rw [hE]
  have hl := lv_entry [.ref (b0 + 367)] (n := 3) (Nat.le_of_ble_eq_true rfl)
  generalize (lg_sl [.ref (b0 + 367)] ++ List.replicate (3 - (lg_sl [.ref (b0 + 367)]).length) Slot.unset).toArray = ls at hl ⊢
  have hl : lv_has ls 3 [(0, .ref (b0 + 367))] := hl
  have j47 : ∀ (S : St) (a1 : Int32), ∀ (H : Heap) (locs : List Loc) (ls : Array Slot), wp_X6_usage_47 P S a1 → HP D cy b0 NALL S H → Fx S → va_S (AA b0) s.heap H locs → lv_has ls 3 [(0, .ref (b0 + 367)), (1, .int a1)] → W p l e rm_X6_usage s m args below meth c H locs 0 0 (MQ below (QC (Pf P) (Wb D cy b0 NALL) b0) args s 0 0 (AA b0)) (F0 m 47 ls []) := by
    intro S a1  H locs ls hw hP hF hS hl
    unfold wp_X6_usage_47 at hw
    refine lv_iload_n hx hb dX6_usage_47 rfl (lv_at hl 1 rfl) ?_
    refine lv_i2f hx hb dX6_usage_48 ?_
    refine lv_aload_n hx hb dX6_usage_49 rfl (lv_at hl 0 rfl) ?_
    refine gf_6_3 (k := 367) hx hb hts (by decide +kernel) hown hK hP (by decide) (kk_367) (hts (.fieldLink RX6 90 "OpticmeshModel" "fibres" "I") (by decide +kernel)) dX6_usage_50 ?_
    refine lv_aload_n hx hb dX6_usage_53 rfl (lv_at hl 0 rfl) ?_
    refine gf_6_2 (k := 367) hx hb hts (by decide +kernel) hown hK hP (by decide) (kk_367) (hts (.fieldLink RX6 13 "OpticmeshModel" "wavelengths" "I") (by decide +kernel)) dX6_usage_54 ?_
    refine lv_imul hx hb dX6_usage_57 ?_
    refine lv_i2f hx hb dX6_usage_58 ?_
    obtain ⟨h59, hw⟩ := hw
    refine lv_fdiv hx hb dX6_usage_59 h59 ?_
    exact q_fret hx hb hr hP hF hS hw dX6_usage_60 hlocks
  have j25 : ∀ (n25 : Nat), ∀ (S : St) (a1 : Int32) (a2 : Int32), ∀ (H : Heap) (locs : List Loc) (ls : Array Slot), wp_X6_usage_25 P n25 S a1 a2 → HP D cy b0 NALL S H → Fx S → va_S (AA b0) s.heap H locs → lv_has ls 3 [(0, .ref (b0 + 367)), (1, .int a1), (2, .int a2)] → W p l e rm_X6_usage s m args below meth c H locs 0 0 (MQ below (QC (Pf P) (Wb D cy b0 NALL) b0) args s 0 0 (AA b0)) (F0 m 25 ls []) := by
    intro n25
    induction n25 with
    | zero => intro S a1 a2  H locs ls hw _ _ _ _; exact False.elim hw
    | succ n25 ih25 =>
      intro S a1 a2  H locs ls hw hP hF hS hl
      rw [wp_X6_usage_25] at hw
      refine lv_iload_n hx hb dX6_usage_25 rfl (lv_at hl 2 rfl) ?_
      refine lv_aload_n hx hb dX6_usage_26 rfl (lv_at hl 0 rfl) ?_
      refine gf_6_3 (k := 367) hx hb hts (by decide +kernel) hown hK hP (by decide) (kk_367) (hts (.fieldLink RX6 90 "OpticmeshModel" "fibres" "I") (by decide +kernel)) dX6_usage_27 ?_
      refine lv_icmp_ge (x := a2) (y := (gI S 367 3)) (tgt := 47) hx hb dX6_usage_30 (by decide) (fun c30 => ?_) (fun c30 => ?_)
      · rw [if_pos c30] at hw
        exact j47 S a1  _ _ _ hw hP hF hS (lv_sub hl [0, 1] rfl)
      · rw [if_neg c30] at hw
        refine lv_iload_n hx hb dX6_usage_33 rfl (lv_at hl 1 rfl) ?_
        refine lv_aload_n hx hb dX6_usage_34 rfl (lv_at hl 0 rfl) ?_
        refine lv_iload_n hx hb dX6_usage_35 rfl (lv_at hl 2 rfl) ?_
        refine q_call (va_runV (As := [.int a2]) (rest := [.int a1]) ⟨hx, hb, hml, hown, hts⟩ (c_X6_usedOn l D cy b0 S a2 _ hw) (cwV 1 hts gX6_usage_X6_usedOn rfl rfl rfl (by decide +kernel) ⟨(Nat.le_of_ble_eq_true rfl), (Nat.le_of_ble_eq_true rfl)⟩) (q_pV hW hP hF hS (k := 367) (ci := 6) (by decide) (cell_6 (kk_367)) rfl [.int a2]) rfl rfl hl.1 rfl (lv_room (Nat.le_of_ble_eq_true rfl)) dX6_usage_36 ⟨(Nat.le_of_ble_eq_true rfl), (Nat.le_of_ble_eq_true rfl)⟩) hS (fun v36 S36 t36 H locs hh hp hB hz hk9 hS => ?_)
        obtain ⟨r36, rfl, hw⟩ := hp
        have hP : HP D cy b0 NALL S36 H := by rw [← hh]; exact hB.1
        have hF := hB.2
        try dsimp only at hw
        refine W.eq (g2 := F0 m 39 ls [.int r36, .int a1]) rfl ?_
        refine lv_iadd hx hb dX6_usage_39 ?_
        refine lv_topi (fun y40 e40 => ?_)
        have hw := hw y40 e40
        refine lv_istore_n (lv' := [(1, .int y40), (0, .ref (b0 + 367)), (2, .int a2)]) hx hb dX6_usage_40 rfl hl (by decide) rfl (fun ls hl => ?_)
        obtain ⟨y41, e41⟩ : ∃ z : Int32, z = a2 + 1 := ⟨_, rfl⟩
        have hw := hw y41 e41
        refine lv_iinc (v := y41) (lv' := [(2, .int y41), (1, .int y40), (0, .ref (b0 + 367))]) hx hb dX6_usage_41 hl (k := 2) rfl (by rw [e41]; rfl) (by decide) rfl (fun ls hl => ?_)
        refine lv_goto (tgt := 25) hx hb dX6_usage_44 (by decide) ?_
        exact ih25 S36 y40 y41  _ _ _ hw hP hF hS (lv_sub hl [2, 1, 0] rfl)
  have j13 : ∀ (S : St) (t1 : Bool), ∀ (H : Heap) (locs : List Loc) (ls : Array Slot), wp_X6_usage_13 P S t1 → HP D cy b0 NALL S H → Fx S → va_S (AA b0) s.heap H locs → lv_has ls 3 [(0, .ref (b0 + 367))] → W p l e rm_X6_usage s m args below meth c H locs 0 0 (MQ below (QC (Pf P) (Wb D cy b0 NALL) b0) args s 0 0 (AA b0)) (F0 m 13 ls [.int (b2i t1), .ref (b0 + 367)]) := by
    intro S t1  H locs ls hw hP hF hS hl
    unfold wp_X6_usage_13 at hw
    refine q_call (va_runV (As := [.int (b2i t1)]) (rest := []) ⟨hx, hb, hml, hown, hts⟩ (c_X6_holds l D cy b0 S (b2i t1) _ hw) (cwV 1 hts gX6_usage_X6_holds rfl rfl rfl (by decide +kernel) ⟨(Nat.le_of_ble_eq_true rfl), (Nat.le_of_ble_eq_true rfl)⟩) (q_pV hW hP hF hS (k := 367) (ci := 6) (by decide) (cell_6 (kk_367)) rfl [.int (b2i t1)]) rfl rfl hl.1 rfl (lv_room (Nat.le_of_ble_eq_true rfl)) dX6_usage_13 ⟨(Nat.le_of_ble_eq_true rfl), (Nat.le_of_ble_eq_true rfl)⟩) hS (fun v13 S13 t13 H locs hh hp hB hz hk9 hS => ?_)
    obtain ⟨r13, rfl, hw⟩ := hp
    have hP : HP D cy b0 NALL S13 H := by rw [← hh]; exact hB.1
    have hF := hB.2
    try dsimp only at hw
    refine W.eq (g2 := F0 m 16 ls [.int (b2i r13)]) rfl ?_
    refine lv_if_ne (x := b2i r13) (tgt := 21) hx hb dX6_usage_16 (by decide) (fun c16 => ?_) (fun c16 => ?_)
    · have c16 := b2i_n c16
      rw [if_pos c16] at hw
      refine lv_iconst (v := 0) hx hb dX6_usage_21 (by decide) ?_
      refine lv_istore_n (lv' := [(1, .int 0), (0, .ref (b0 + 367))]) hx hb dX6_usage_22 rfl hl (by decide) rfl (fun ls hl => ?_)
      refine lv_iconst (v := 0) hx hb dX6_usage_23 (by decide) ?_
      refine lv_istore_n (lv' := [(2, .int 0), (1, .int 0), (0, .ref (b0 + 367))]) hx hb dX6_usage_24 rfl hl (by decide) rfl (fun ls hl => ?_)
      obtain ⟨n25, hw⟩ := hw
      exact j25 n25 S13 0 0  _ _ _ hw hP hF hS (lv_sub hl [2, 1, 0] rfl)
    · have c16 := b2i_z c16
      rw [if_neg c16] at hw
      refine lv_fconst0 hx hb dX6_usage_19 ?_
      exact q_fret hx hb hr hP hF hS hw dX6_usage_20 hlocks
  unfold wp_X6_usage at hw
  refine lv_aload_n hx hb dX6_usage_0 rfl (lv_at hl 0 rfl) ?_
  refine lv_aload_n hx hb dX6_usage_1 rfl (lv_at hl 0 rfl) ?_
  refine gf_6_3 (k := 367) hx hb hts (by decide +kernel) hown hK hP (by decide) (kk_367) (hts (.fieldLink RX6 90 "OpticmeshModel" "fibres" "I") (by decide +kernel)) dX6_usage_2 ?_
  refine lv_if_ne (x := (gI S 367 3)) (tgt := 12) hx hb dX6_usage_5 (by decide) (fun c5 => ?_) (fun c5 => ?_)
  · rw [if_neg c5] at hw
    refine lv_iconst (v := 0) hx hb dX6_usage_12 (by decide) ?_
    exact j13 S false  _ _ _ hw hP hF hS (lv_sub hl [0] rfl)
  · rw [if_pos c5] at hw
    refine lv_iconst (v := 1) hx hb dX6_usage_8 (by decide) ?_
    refine lv_goto (tgt := 13) hx hb dX6_usage_9 (by decide) ?_
    exact j13 S true  _ _ _ hw hP hF hS (lv_sub hl [0] rfl)
set_option maxHeartbeats 4000000 in
set_option maxRecDepth 100000 in
theorem c_X6_sets (l : Launch) (D : va_G) (cy : Nat → ClassId) (b0 : Nat) (S : St) (x1 : Nat) (x2 : Int32) (hk1 : kd x1 = 7) (hn1 : ln x1 = 26) (P : St → Prop) (hw : wp_X6_sets S x1 x2 P) : Met l yX6_sets wsX6_sets rm_X6_sets (va_Pc [.ref (b0 + x1), .int x2] (Wd D cy b0 NALL S)) (QC (Pv P) (Wb D cy b0 NALL) b0) 0 0 (AA b0) := by
  refine Met.ofW (cc := cX6_sets) (maxL := 2) (ret := none) (by decide) rfl ?_
  intro p e s m args below meth c s₁ B hml hv
  obtain ⟨hargs, hW, hP, hF⟩ := hv
  have hx := B.exec
  have hb := B.bytes
  have hr := B.returns
  have hts := atoms_spec (ws := wsX6_sets) B.pre
  have hown : s.vm.findClass RX6 = some m.cls := findClass_of_methodNamed B.named
  have hlocks := B.notSynchronized
  have hK := hW.1
  have hS : va_S (AA b0) s.heap s.heap [] := va_S.rf
  have hE : entryFrame m args 2 = F0 m 0 ((lg_sl [.ref (b0 + x1), .int x2] ++ List.replicate (2 - (lg_sl [.ref (b0 + x1), .int x2]).length) Slot.unset).toArray) [] := by rw [hargs]; exact lg_entry_eq m _ _
  rw [hE]
  have hl := lv_entry [.ref (b0 + x1), .int x2] (n := 2) (Nat.le_of_ble_eq_true rfl)
  generalize (lg_sl [.ref (b0 + x1), .int x2] ++ List.replicate (2 - (lg_sl [.ref (b0 + x1), .int x2]).length) Slot.unset).toArray = ls at hl ⊢
  have hl : lv_has ls 2 [(0, .ref (b0 + x1)), (1, .int x2)] := hl
  unfold wp_X6_sets at hw
  refine lv_aload_n hx hb dX6_sets_0 rfl (lv_at hl 0 rfl) ?_
  refine lv_iconst (v := 0) hx hb dX6_sets_1 (by decide) ?_
  refine lv_iconst (v := 0) hx hb dX6_sets_2 (by decide) ?_
  obtain ⟨h3, hw⟩ := hw
  refine q_iast (k := x1) (n := 26) (i := 0) (x := 0) hx hb hK hP hS (kd_N hk1 (by decide)) hk1 hn1 h3 dX6_sets_3 (fun H locs hz hP hS => ?_)
  have hF : Fx (sI S x1 ((0 : Int32).toNatClampNeg) 0) := Fx.sI hF _ _ _
  generalize eS3 : sI S x1 ((0 : Int32).toNatClampNeg) 0 = S3 at hP hF
  have hw := hw S3 eS3.symm
  refine lv_aload_n hx hb dX6_sets_4 rfl (lv_at hl 0 rfl) ?_
  refine lv_iconst (v := 1) hx hb dX6_sets_5 (by decide) ?_
  refine lv_iconst (v := 1) hx hb dX6_sets_6 (by decide) ?_
  refine lv_iload_n hx hb dX6_sets_7 rfl (lv_at hl 1 rfl) ?_
  refine lv_ishl hx hb dX6_sets_8 ?_
  obtain ⟨h9, hw⟩ := hw
  refine q_iast (k := x1) (n := 26) (i := 1) (x := (1 <<< (x2 &&& 31))) hx hb hK hP hS (kd_N hk1 (by decide)) hk1 hn1 h9 dX6_sets_9 (fun H locs hz hP hS => ?_)
  have hF : Fx (sI S3 x1 ((1 : Int32).toNatClampNeg) (1 <<< (x2 &&& 31))) := Fx.sI hF _ _ _
  generalize eS9 : sI S3 x1 ((1 : Int32).toNatClampNeg) (1 <<< (x2 &&& 31)) = S9 at hP hF
  have hw := hw S9 eS9.symm
  refine lv_aload_n hx hb dX6_sets_10 rfl (lv_at hl 0 rfl) ?_
  refine lv_bipush (v := 10) hx hb dX6_sets_11 (by decide) ?_
  refine lv_iload_n hx hb dX6_sets_13 rfl (lv_at hl 1 rfl) ?_
  obtain ⟨h14, hw⟩ := hw
  refine q_iast (k := x1) (n := 26) (i := 10) (x := x2) hx hb hK hP hS (kd_N hk1 (by decide)) hk1 hn1 h14 dX6_sets_14 (fun H locs hz hP hS => ?_)
  have hF : Fx (sI S9 x1 ((10 : Int32).toNatClampNeg) x2) := Fx.sI hF _ _ _
  generalize eS14 : sI S9 x1 ((10 : Int32).toNatClampNeg) x2 = S14 at hP hF
  have hw := hw S14 eS14.symm
  refine lv_aload_n hx hb dX6_sets_15 rfl (lv_at hl 0 rfl) ?_
  refine lv_bipush (v := 18) hx hb dX6_sets_16 (by decide) ?_
  refine lv_iconst (v := 0) hx hb dX6_sets_18 (by decide) ?_
  obtain ⟨h19, hw⟩ := hw
  refine q_iast (k := x1) (n := 26) (i := 18) (x := 0) hx hb hK hP hS (kd_N hk1 (by decide)) hk1 hn1 h19 dX6_sets_19 (fun H locs hz hP hS => ?_)
  have hF : Fx (sI S14 x1 ((18 : Int32).toNatClampNeg) 0) := Fx.sI hF _ _ _
  generalize eS19 : sI S14 x1 ((18 : Int32).toNatClampNeg) 0 = S19 at hP hF
  have hw := hw S19 eS19.symm
  exact q_vret hx hb hr hP hF hS hw dX6_sets_20 hlocks
set_option maxHeartbeats 4000000 in
set_option maxRecDepth 100000 in
theorem c_X6_isStep (l : Launch) (D : va_G) (cy : Nat → ClassId) (b0 : Nat) (S : St) (x1 : Nat) (x2 : Int32) (hk1 : kd x1 = 7) (hn1 : ln x1 = 26) (P : Bool → St → Prop) (hw : wp_X6_isStep S x1 x2 P) : Met l yX6_isStep wsX6_isStep rm_X6_isStep (va_Pc [.ref (b0 + 367), .ref (b0 + x1), .int x2] (Wd D cy b0 NALL S)) (QC (Pz P) (Wb D cy b0 NALL) b0) 0 0 (AA b0) := by
  refine Met.ofW (cc := cX6_isStep) (maxL := 4) (ret := (some .boolean)) (by decide) rfl ?_
  intro p e s m args below meth c s₁ B hml hv
  obtain ⟨hargs, hW, hP, hF⟩ := hv
  have hx := B.exec
  have hb := B.bytes
  have hr := B.returns
  have hts := atoms_spec (ws := wsX6_isStep) B.pre
  have hown : s.vm.findClass RX6 = some m.cls := findClass_of_methodNamed B.named
  have hlocks := B.notSynchronized
  have hK := hW.1
  have hS : va_S (AA b0) s.heap s.heap [] := va_S.rf
  have hE : entryFrame m args 4 = F0 m 0 ((lg_sl [.ref (b0 + 367), .ref (b0 + x1), .int x2] ++ List.replicate (4 - (lg_sl [.ref (b0 + 367), .ref (b0 + x1), .int x2]).length) Slot.unset).toArray) [] := by rw [hargs]; exact lg_entry_eq m _ _
  rw [hE]
  have hl := lv_entry [.ref (b0 + 367), .ref (b0 + x1), .int x2] (n := 4) (Nat.le_of_ble_eq_true rfl)
  generalize (lg_sl [.ref (b0 + 367), .ref (b0 + x1), .int x2] ++ List.replicate (4 - (lg_sl [.ref (b0 + 367), .ref (b0 + x1), .int x2]).length) Slot.unset).toArray = ls at hl ⊢
  have hl : lv_has ls 4 [(0, .ref (b0 + 367)), (1, .ref (b0 + x1)), (2, .int x2)] := hl
  have j31 : ∀ (S : St) (a3 : Int32), ∀ (H : Heap) (locs : List Loc) (ls : Array Slot), wp_X6_isStep_31 x1 x2 P S a3 → HP D cy b0 NALL S H → Fx S → va_S (AA b0) s.heap H locs → lv_has ls 4 [(0, .ref (b0 + 367)), (1, .ref (b0 + x1)), (2, .int x2), (3, .int a3)] → W p l e rm_X6_isStep s m args below meth c H locs 0 0 (MQ below (QC (Pz P) (Wb D cy b0 NALL) b0) args s 0 0 (AA b0)) (F0 m 31 ls []) := by
    intro S a3  H locs ls hw hP hF hS hl
    unfold wp_X6_isStep_31 at hw
    refine lv_aload_n hx hb dX6_isStep_31 rfl (lv_at hl 1 rfl) ?_
    refine lv_iconst (v := 1) hx hb dX6_isStep_32 (by decide) ?_
    obtain ⟨h33, hw⟩ := hw
    refine q_iald (k := x1) (n := 26) (i := 1) hx hb hK hP (kd_N hk1 (by decide)) hk1 hn1 h33 dX6_isStep_33 ?_
    refine lv_aload_n hx hb dX6_isStep_34 rfl (lv_at hl 0 rfl) ?_
    refine gf_6_5 (k := 367) hx hb hts (by decide +kernel) hown hK hP (by decide) (kk_367) (q := 369) (hF.1 367 5 369 ff_367_5) (hts (.fieldLink RX6 20 "OpticmeshModel" "ones" "[I") (by decide +kernel)) dX6_isStep_35 ?_
    refine lv_iload_n hx hb dX6_isStep_38 rfl (lv_at hl 2 rfl) ?_
    obtain ⟨h39, hw⟩ := hw
    refine q_iald (k := 369) (n := 14) (i := x2) hx hb hK hP (by decide) (kk_369) (ll_369) h39 dX6_isStep_39 ?_
    refine lv_aload_n hx hb dX6_isStep_40 rfl (lv_at hl 0 rfl) ?_
    refine gf_6_6 (k := 367) hx hb hts (by decide +kernel) hown hK hP (by decide) (kk_367) (q := 370) (hF.1 367 6 370 ff_367_6) (hts (.fieldLink RX6 24 "OpticmeshModel" "others" "[I") (by decide +kernel)) dX6_isStep_41 ?_
    refine lv_iload_n hx hb dX6_isStep_44 rfl (lv_at hl 2 rfl) ?_
    obtain ⟨h45, hw⟩ := hw
    refine q_iald (k := 370) (n := 14) (i := x2) hx hb hK hP (by decide) (kk_370) (ll_370) h45 dX6_isStep_45 ?_
    refine lv_iadd hx hb dX6_isStep_46 ?_
    refine lv_iload_n hx hb dX6_isStep_47 rfl (lv_at hl 3 rfl) ?_
    refine lv_isub hx hb dX6_isStep_48 ?_
    refine lv_ishr hx hb dX6_isStep_49 ?_
    refine lv_iconst (v := 1) hx hb dX6_isStep_50 (by decide) ?_
    refine lv_iand hx hb dX6_isStep_51 ?_
    refine lv_if_ne (x := (((gI S x1 ((1 : Int32).toNatClampNeg)) >>> ((((gI S 369 (x2.toNatClampNeg)) + (gI S 370 (x2.toNatClampNeg))) - a3) &&& 31)) &&& 1)) (tgt := 59) hx hb dX6_isStep_52 (by decide) (fun c52 => ?_) (fun c52 => ?_)
    · rw [if_neg c52] at hw
      refine lv_iconst (v := 0) hx hb dX6_isStep_59 (by decide) ?_
      exact q_zret (v := false) hx hb hr hP hF hS hw dX6_isStep_60 hlocks
    · rw [if_pos c52] at hw
      refine lv_iconst (v := 1) hx hb dX6_isStep_55 (by decide) ?_
      refine lv_goto (tgt := 60) hx hb dX6_isStep_56 (by decide) ?_
      exact q_zret (v := true) hx hb hr hP hF hS hw dX6_isStep_60 hlocks
  unfold wp_X6_isStep at hw
  refine lv_aload_n hx hb dX6_isStep_0 rfl (lv_at hl 1 rfl) ?_
  refine lv_bipush (v := 10) hx hb dX6_isStep_1 (by decide) ?_
  refine lv_aload_n hx hb dX6_isStep_3 rfl (lv_at hl 1 rfl) ?_
  refine lv_iconst (v := 0) hx hb dX6_isStep_4 (by decide) ?_
  obtain ⟨h5, hw⟩ := hw
  refine q_iald (k := x1) (n := 26) (i := 0) hx hb hK hP (kd_N hk1 (by decide)) hk1 hn1 h5 dX6_isStep_5 ?_
  refine lv_iadd hx hb dX6_isStep_6 ?_
  obtain ⟨h7, hw⟩ := hw
  refine q_iald (k := x1) (n := 26) (i := (10 + (gI S x1 ((0 : Int32).toNatClampNeg)))) hx hb hK hP (kd_N hk1 (by decide)) hk1 hn1 h7 dX6_isStep_7 ?_
  refine lv_topi (fun y8 e8 => ?_)
  have hw := hw y8 e8
  refine lv_istore_n (lv' := [(3, .int y8), (0, .ref (b0 + 367)), (1, .ref (b0 + x1)), (2, .int x2)]) hx hb dX6_isStep_8 rfl hl (by decide) rfl (fun ls hl => ?_)
  refine lv_aload_n hx hb dX6_isStep_9 rfl (lv_at hl 1 rfl) ?_
  refine gf_6_5 (k := 367) hx hb hts (by decide +kernel) hown hK hP (by decide) (kk_367) (q := 369) (hF.1 367 5 369 ff_367_5) (hts (.fieldLink RX6 20 "OpticmeshModel" "ones" "[I") (by decide +kernel)) dX6_isStep_10 ?_
  refine lv_iload_n hx hb dX6_isStep_13 rfl (lv_at hl 3 rfl) ?_
  obtain ⟨h14, hw⟩ := hw
  refine q_iald (k := 369) (n := 14) (i := x2) hx hb hK hP (by decide) (kk_369) (ll_369) h14 dX6_isStep_14 ?_
  refine lv_iload_n hx hb dX6_isStep_15 rfl (lv_at hl 0 rfl) ?_
  refine lv_icmp_eq (x := (gI S 369 (x2.toNatClampNeg))) (y := y8) (tgt := 31) hx hb dX6_isStep_16 (by decide) (fun c16 => ?_) (fun c16 => ?_)
  · rw [if_pos c16] at hw
    exact j31 S y8  _ _ _ hw hP hF hS (lv_sub hl [1, 2, 3, 0] rfl)
  · rw [if_neg c16] at hw
    refine lv_aload_n hx hb dX6_isStep_19 rfl (lv_at hl 1 rfl) ?_
    refine gf_6_6 (k := 367) hx hb hts (by decide +kernel) hown hK hP (by decide) (kk_367) (q := 370) (hF.1 367 6 370 ff_367_6) (hts (.fieldLink RX6 24 "OpticmeshModel" "others" "[I") (by decide +kernel)) dX6_isStep_20 ?_
    refine lv_iload_n hx hb dX6_isStep_23 rfl (lv_at hl 3 rfl) ?_
    obtain ⟨h24, hw⟩ := hw
    refine q_iald (k := 370) (n := 14) (i := x2) hx hb hK hP (by decide) (kk_370) (ll_370) h24 dX6_isStep_24 ?_
    refine lv_iload_n hx hb dX6_isStep_25 rfl (lv_at hl 0 rfl) ?_
    refine lv_icmp_eq (x := (gI S 370 (x2.toNatClampNeg))) (y := y8) (tgt := 31) hx hb dX6_isStep_26 (by decide) (fun c26 => ?_) (fun c26 => ?_)
    · rw [if_pos c26] at hw
      exact j31 S y8  _ _ _ hw hP hF hS (lv_sub hl [1, 2, 3, 0] rfl)
    · rw [if_neg c26] at hw
      refine lv_iconst (v := 0) hx hb dX6_isStep_29 (by decide) ?_
      exact q_zret (v := false) hx hb hr hP hF hS hw dX6_isStep_30 hlocks
set_option maxHeartbeats 4000000 in
set_option maxRecDepth 100000 in
theorem c_X6_goesOn (l : Launch) (D : va_G) (cy : Nat → ClassId) (b0 : Nat) (S : St) (x1 : Nat) (x2 : Int32) (x3 : Int32) (hk1 : kd x1 = 7) (hn1 : ln x1 = 26) (P : Bool → St → Prop) (hw : wp_X6_goesOn S x1 x2 x3 P) : Met l yX6_goesOn wsX6_goesOn rm_X6_goesOn (va_Pc [.ref (b0 + 367), .ref (b0 + x1), .int x2, .int x3] (Wd D cy b0 NALL S)) (QC (Pz P) (Wb D cy b0 NALL) b0) 0 0 (AA b0) := by
  refine Met.ofW (cc := cX6_goesOn) (maxL := 7) (ret := (some .boolean)) (by decide) rfl ?_
  intro p e s m args below meth c s₁ B hml hv
  obtain ⟨hargs, hW, hP, hF⟩ := hv
  have hx := B.exec
  have hb := B.bytes
  have hr := B.returns
  have hts := atoms_spec (ws := wsX6_goesOn) B.pre
  have hown : s.vm.findClass RX6 = some m.cls := findClass_of_methodNamed B.named
  have hlocks := B.notSynchronized
  have hK := hW.1
  have hS : va_S (AA b0) s.heap s.heap [] := va_S.rf
  have hE : entryFrame m args 7 = F0 m 0 ((lg_sl [.ref (b0 + 367), .ref (b0 + x1), .int x2, .int x3] ++ List.replicate (7 - (lg_sl [.ref (b0 + 367), .ref (b0 + x1), .int x2, .int x3]).length) Slot.unset).toArray) [] := by rw [hargs]; exact lg_entry_eq m _ _
  rw [hE]
  have hl := lv_entry [.ref (b0 + 367), .ref (b0 + x1), .int x2, .int x3] (n := 7) (Nat.le_of_ble_eq_true rfl)
  generalize (lg_sl [.ref (b0 + 367), .ref (b0 + x1), .int x2, .int x3] ++ List.replicate (7 - (lg_sl [.ref (b0 + 367), .ref (b0 + x1), .int x2, .int x3]).length) Slot.unset).toArray = ls at hl ⊢
  have hl : lv_has ls 7 [(0, .ref (b0 + 367)), (1, .ref (b0 + x1)), (2, .int x2), (3, .int x3)] := hl
  have j0 : ∀ (n0 : Nat), ∀ (S : St) , ∀ (H : Heap) (locs : List Loc) (ls : Array Slot), wp_X6_goesOn_0 x1 x2 x3 P n0 S → HP D cy b0 NALL S H → Fx S → va_S (AA b0) s.heap H locs → lv_has ls 7 [(0, .ref (b0 + 367)), (1, .ref (b0 + x1)), (2, .int x2), (3, .int x3)] → W p l e rm_X6_goesOn s m args below meth c H locs 0 0 (MQ below (QC (Pz P) (Wb D cy b0 NALL) b0) args s 0 0 (AA b0)) (F0 m 0 ls []) := by
    intro n0
    induction n0 with
    | zero => intro S  H locs ls hw _ _ _ _; exact False.elim hw
    | succ n0 ih0 =>
      have j84 : ∀ (S : St) (a4 : Int32) (a5 : Int32), ∀ (H : Heap) (locs : List Loc) (ls : Array Slot), wp_X6_goesOn_84 x1 x2 x3 P (fun S => wp_X6_goesOn_0 x1 x2 x3 P n0 S) S a4 a5 → HP D cy b0 NALL S H → Fx S → va_S (AA b0) s.heap H locs → lv_has ls 7 [(0, .ref (b0 + 367)), (1, .ref (b0 + x1)), (2, .int x2), (3, .int x3), (4, .int a4), (5, .int a5)] → W p l e rm_X6_goesOn s m args below meth c H locs 0 0 (MQ below (QC (Pz P) (Wb D cy b0 NALL) b0) args s 0 0 (AA b0)) (F0 m 84 ls []) := by
        intro S a4 a5  H locs ls hw hP hF hS hl
        unfold wp_X6_goesOn_84 at hw
        refine lv_aload_n hx hb dX6_goesOn_84 rfl (lv_at hl 0 rfl) ?_
        refine gf_6_5 (k := 367) hx hb hts (by decide +kernel) hown hK hP (by decide) (kk_367) (q := 369) (hF.1 367 5 369 ff_367_5) (hts (.fieldLink RX6 20 "OpticmeshModel" "ones" "[I") (by decide +kernel)) dX6_goesOn_85 ?_
        refine lv_iload hx hb dX6_goesOn_88 (lv_at hl 5 rfl) ?_
        obtain ⟨h90, hw⟩ := hw
        refine q_iald (k := 369) (n := 14) (i := a5) hx hb hK hP (by decide) (kk_369) (ll_369) h90 dX6_goesOn_90 ?_
        refine lv_aload_n hx hb dX6_goesOn_91 rfl (lv_at hl 0 rfl) ?_
        refine gf_6_6 (k := 367) hx hb hts (by decide +kernel) hown hK hP (by decide) (kk_367) (q := 370) (hF.1 367 6 370 ff_367_6) (hts (.fieldLink RX6 24 "OpticmeshModel" "others" "[I") (by decide +kernel)) dX6_goesOn_92 ?_
        refine lv_iload hx hb dX6_goesOn_95 (lv_at hl 5 rfl) ?_
        obtain ⟨h97, hw⟩ := hw
        refine q_iald (k := 370) (n := 14) (i := a5) hx hb hK hP (by decide) (kk_370) (ll_370) h97 dX6_goesOn_97 ?_
        refine lv_iadd hx hb dX6_goesOn_98 ?_
        refine lv_aload_n hx hb dX6_goesOn_99 rfl (lv_at hl 1 rfl) ?_
        refine lv_bipush (v := 10) hx hb dX6_goesOn_100 (by decide) ?_
        refine lv_iload hx hb dX6_goesOn_102 (lv_at hl 4 rfl) ?_
        refine lv_iadd hx hb dX6_goesOn_104 ?_
        obtain ⟨h105, hw⟩ := hw
        refine q_iald (k := x1) (n := 26) (i := (10 + a4)) hx hb hK hP (kd_N hk1 (by decide)) hk1 hn1 h105 dX6_goesOn_105 ?_
        refine lv_isub hx hb dX6_goesOn_106 ?_
        refine lv_topi (fun y107 e107 => ?_)
        have hw := hw y107 e107
        refine lv_istore (lv' := [(6, .int y107), (0, .ref (b0 + 367)), (1, .ref (b0 + x1)), (2, .int x2), (3, .int x3), (4, .int a4), (5, .int a5)]) hx hb dX6_goesOn_107 hl (by decide) rfl (fun ls hl => ?_)
        refine lv_aload_n hx hb dX6_goesOn_109 rfl (lv_at hl 2 rfl) ?_
        refine lv_iconst (v := 2) hx hb dX6_goesOn_110 (by decide) ?_
        refine lv_iload hx hb dX6_goesOn_111 (lv_at hl 5 rfl) ?_
        refine lv_iadd hx hb dX6_goesOn_113 ?_
        refine lv_iload hx hb dX6_goesOn_114 (lv_at hl 6 rfl) ?_
        obtain ⟨h116, hw⟩ := hw
        refine q_iast (k := x1) (n := 26) (i := (2 + a4)) (x := a5) hx hb hK hP hS (kd_N hk1 (by decide)) hk1 hn1 h116 dX6_goesOn_116 (fun H locs hz hP hS => ?_)
        have hF : Fx (sI S x1 ((2 + a4).toNatClampNeg) a5) := Fx.sI hF _ _ _
        generalize eS116 : sI S x1 ((2 + a4).toNatClampNeg) a5 = S116 at hP hF
        have hw := hw S116 eS116.symm
        refine lv_iload hx hb dX6_goesOn_117 (lv_at hl 0 rfl) ?_
        refine lv_iload_n hx hb dX6_goesOn_119 rfl (lv_at hl 3 rfl) ?_
        refine lv_icmp_ne (x := y107) (y := x2) (tgt := 125) hx hb dX6_goesOn_120 (by decide) (fun c120 => ?_) (fun c120 => ?_)
        · rw [if_neg c120] at hw
          refine lv_aload_n hx hb dX6_goesOn_125 rfl (lv_at hl 2 rfl) ?_
          refine lv_iconst (v := 0) hx hb dX6_goesOn_126 (by decide) ?_
          refine lv_dup2_11 hx hb dX6_goesOn_127 rfl rfl ?_
          obtain ⟨h128, hw⟩ := hw
          refine q_iald (k := x1) (n := 26) (i := 0) hx hb hK hP (kd_N hk1 (by decide)) hk1 hn1 h128 dX6_goesOn_128 ?_
          refine lv_iconst (v := 1) hx hb dX6_goesOn_129 (by decide) ?_
          refine lv_iadd hx hb dX6_goesOn_130 ?_
          obtain ⟨h131, hw⟩ := hw
          refine q_iast (k := x1) (n := 26) (i := 0) (x := ((gI S116 x1 ((0 : Int32).toNatClampNeg)) + 1)) hx hb hK hP hS (kd_N hk1 (by decide)) hk1 hn1 h131 dX6_goesOn_131 (fun H locs hz hP hS => ?_)
          have hF : Fx (sI S116 x1 ((0 : Int32).toNatClampNeg) ((gI S116 x1 ((0 : Int32).toNatClampNeg)) + 1)) := Fx.sI hF _ _ _
          generalize eS131 : sI S116 x1 ((0 : Int32).toNatClampNeg) ((gI S116 x1 ((0 : Int32).toNatClampNeg)) + 1) = S131 at hP hF
          have hw := hw S131 eS131.symm
          refine lv_aload_n hx hb dX6_goesOn_132 rfl (lv_at hl 2 rfl) ?_
          refine lv_iconst (v := 1) hx hb dX6_goesOn_133 (by decide) ?_
          refine lv_dup2_11 hx hb dX6_goesOn_134 rfl rfl ?_
          obtain ⟨h135, hw⟩ := hw
          refine q_iald (k := x1) (n := 26) (i := 1) hx hb hK hP (kd_N hk1 (by decide)) hk1 hn1 h135 dX6_goesOn_135 ?_
          refine lv_iconst (v := 1) hx hb dX6_goesOn_136 (by decide) ?_
          refine lv_iload hx hb dX6_goesOn_137 (lv_at hl 0 rfl) ?_
          refine lv_ishl hx hb dX6_goesOn_139 ?_
          refine lv_ior hx hb dX6_goesOn_140 ?_
          obtain ⟨h141, hw⟩ := hw
          refine q_iast (k := x1) (n := 26) (i := 1) (x := ((gI S131 x1 ((1 : Int32).toNatClampNeg)) ||| (1 <<< (y107 &&& 31)))) hx hb hK hP hS (kd_N hk1 (by decide)) hk1 hn1 h141 dX6_goesOn_141 (fun H locs hz hP hS => ?_)
          have hF : Fx (sI S131 x1 ((1 : Int32).toNatClampNeg) ((gI S131 x1 ((1 : Int32).toNatClampNeg)) ||| (1 <<< (y107 &&& 31)))) := Fx.sI hF _ _ _
          generalize eS141 : sI S131 x1 ((1 : Int32).toNatClampNeg) ((gI S131 x1 ((1 : Int32).toNatClampNeg)) ||| (1 <<< (y107 &&& 31))) = S141 at hP hF
          have hw := hw S141 eS141.symm
          refine lv_aload_n hx hb dX6_goesOn_142 rfl (lv_at hl 2 rfl) ?_
          refine lv_bipush (v := 10) hx hb dX6_goesOn_143 (by decide) ?_
          refine lv_iload hx hb dX6_goesOn_145 (lv_at hl 5 rfl) ?_
          refine lv_iadd hx hb dX6_goesOn_147 ?_
          refine lv_iconst (v := 1) hx hb dX6_goesOn_148 (by decide) ?_
          refine lv_iadd hx hb dX6_goesOn_149 ?_
          refine lv_iload hx hb dX6_goesOn_150 (lv_at hl 0 rfl) ?_
          obtain ⟨h152, hw⟩ := hw
          refine q_iast (k := x1) (n := 26) (i := ((10 + a4) + 1)) (x := y107) hx hb hK hP hS (kd_N hk1 (by decide)) hk1 hn1 h152 dX6_goesOn_152 (fun H locs hz hP hS => ?_)
          have hF : Fx (sI S141 x1 (((10 + a4) + 1).toNatClampNeg) y107) := Fx.sI hF _ _ _
          generalize eS152 : sI S141 x1 (((10 + a4) + 1).toNatClampNeg) y107 = S152 at hP hF
          have hw := hw S152 eS152.symm
          refine lv_aload_n hx hb dX6_goesOn_153 rfl (lv_at hl 2 rfl) ?_
          refine lv_bipush (v := 18) hx hb dX6_goesOn_154 (by decide) ?_
          refine lv_iload hx hb dX6_goesOn_156 (lv_at hl 5 rfl) ?_
          refine lv_iadd hx hb dX6_goesOn_158 ?_
          refine lv_iconst (v := 1) hx hb dX6_goesOn_159 (by decide) ?_
          refine lv_iadd hx hb dX6_goesOn_160 ?_
          refine lv_iconst (v := 0) hx hb dX6_goesOn_161 (by decide) ?_
          obtain ⟨h162, hw⟩ := hw
          refine q_iast (k := x1) (n := 26) (i := ((18 + a4) + 1)) (x := 0) hx hb hK hP hS (kd_N hk1 (by decide)) hk1 hn1 h162 dX6_goesOn_162 (fun H locs hz hP hS => ?_)
          have hF : Fx (sI S152 x1 (((18 + a4) + 1).toNatClampNeg) 0) := Fx.sI hF _ _ _
          generalize eS162 : sI S152 x1 (((18 + a4) + 1).toNatClampNeg) 0 = S162 at hP hF
          have hw := hw S162 eS162.symm
          refine lv_goto (tgt := 0) hx hb dX6_goesOn_163 (by decide) ?_
          exact ih0 S162  _ _ _ hw hP hF hS (lv_sub hl [1, 2, 3, 4] rfl)
        · rw [if_pos c120] at hw
          refine lv_iconst (v := 1) hx hb dX6_goesOn_123 (by decide) ?_
          exact q_zret (v := true) hx hb hr hP hF hS hw dX6_goesOn_124 hlocks
      intro S  H locs ls hw hP hF hS hl
      rw [wp_X6_goesOn_0] at hw
      refine lv_aload_n hx hb dX6_goesOn_0 rfl (lv_at hl 1 rfl) ?_
      refine lv_iconst (v := 0) hx hb dX6_goesOn_1 (by decide) ?_
      obtain ⟨h2, hw⟩ := hw
      refine q_iald (k := x1) (n := 26) (i := 0) hx hb hK hP (kd_N hk1 (by decide)) hk1 hn1 h2 dX6_goesOn_2 ?_
      refine lv_if_lt (x := (gI S x1 ((0 : Int32).toNatClampNeg))) (tgt := 166) hx hb dX6_goesOn_3 (by decide) (fun c3 => ?_) (fun c3 => ?_)
      · rw [if_pos c3] at hw
        refine lv_iconst (v := 0) hx hb dX6_goesOn_166 (by decide) ?_
        exact q_zret (v := false) hx hb hr hP hF hS hw dX6_goesOn_167 hlocks
      · rw [if_neg c3] at hw
        refine lv_aload_n hx hb dX6_goesOn_6 rfl (lv_at hl 1 rfl) ?_
        refine lv_iconst (v := 0) hx hb dX6_goesOn_7 (by decide) ?_
        obtain ⟨h8, hw⟩ := hw
        refine q_iald (k := x1) (n := 26) (i := 0) hx hb hK hP (kd_N hk1 (by decide)) hk1 hn1 h8 dX6_goesOn_8 ?_
        refine lv_topi (fun y9 e9 => ?_)
        have hw := hw y9 e9
        refine lv_istore (lv' := [(4, .int y9), (0, .ref (b0 + 367)), (1, .ref (b0 + x1)), (2, .int x2), (3, .int x3)]) hx hb dX6_goesOn_9 hl (by decide) rfl (fun ls hl => ?_)
        refine lv_aload_n hx hb dX6_goesOn_11 rfl (lv_at hl 2 rfl) ?_
        refine lv_bipush (v := 18) hx hb dX6_goesOn_12 (by decide) ?_
        refine lv_iload hx hb dX6_goesOn_14 (lv_at hl 0 rfl) ?_
        refine lv_iadd hx hb dX6_goesOn_16 ?_
        obtain ⟨h17, hw⟩ := hw
        refine q_iald (k := x1) (n := 26) (i := (18 + y9)) hx hb hK hP (kd_N hk1 (by decide)) hk1 hn1 h17 dX6_goesOn_17 ?_
        refine lv_topi (fun y18 e18 => ?_)
        have hw := hw y18 e18
        refine lv_istore (lv' := [(5, .int y18), (4, .int y9), (0, .ref (b0 + 367)), (1, .ref (b0 + x1)), (2, .int x2), (3, .int x3)]) hx hb dX6_goesOn_18 hl (by decide) rfl (fun ls hl => ?_)
        refine lv_aload_n hx hb dX6_goesOn_20 rfl (lv_at hl 3 rfl) ?_
        refine lv_bipush (v := 18) hx hb dX6_goesOn_21 (by decide) ?_
        refine lv_iload hx hb dX6_goesOn_23 (lv_at hl 1 rfl) ?_
        refine lv_iadd hx hb dX6_goesOn_25 ?_
        refine lv_dup2_11 hx hb dX6_goesOn_26 rfl rfl ?_
        obtain ⟨h27, hw⟩ := hw
        refine q_iald (k := x1) (n := 26) (i := (18 + y9)) hx hb hK hP (kd_N hk1 (by decide)) hk1 hn1 h27 dX6_goesOn_27 ?_
        refine lv_iconst (v := 1) hx hb dX6_goesOn_28 (by decide) ?_
        refine lv_iadd hx hb dX6_goesOn_29 ?_
        obtain ⟨h30, hw⟩ := hw
        refine q_iast (k := x1) (n := 26) (i := (18 + y9)) (x := ((gI S x1 ((18 + y9).toNatClampNeg)) + 1)) hx hb hK hP hS (kd_N hk1 (by decide)) hk1 hn1 h30 dX6_goesOn_30 (fun H locs hz hP hS => ?_)
        have hF : Fx (sI S x1 ((18 + y9).toNatClampNeg) ((gI S x1 ((18 + y9).toNatClampNeg)) + 1)) := Fx.sI hF _ _ _
        generalize eS30 : sI S x1 ((18 + y9).toNatClampNeg) ((gI S x1 ((18 + y9).toNatClampNeg)) + 1) = S30 at hP hF
        have hw := hw S30 eS30.symm
        refine lv_iload hx hb dX6_goesOn_31 (lv_at hl 0 rfl) ?_
        refine lv_aload_n hx hb dX6_goesOn_33 rfl (lv_at hl 2 rfl) ?_
        refine gf_6_3 (k := 367) hx hb hts (by decide +kernel) hown hK hP (by decide) (kk_367) (hts (.fieldLink RX6 90 "OpticmeshModel" "fibres" "I") (by decide +kernel)) dX6_goesOn_34 ?_
        refine lv_icmp_ne (x := y18) (y := (gI S30 367 3)) (tgt := 65) hx hb dX6_goesOn_37 (by decide) (fun c37 => ?_) (fun c37 => ?_)
        · rw [if_neg c37] at hw
          refine lv_iload_n hx hb dX6_goesOn_65 rfl (lv_at hl 5 rfl) ?_
          refine lv_iload hx hb dX6_goesOn_66 (lv_at hl 0 rfl) ?_
          refine lv_ishr hx hb dX6_goesOn_68 ?_
          refine lv_iconst (v := 1) hx hb dX6_goesOn_69 (by decide) ?_
          refine lv_iand hx hb dX6_goesOn_70 ?_
          refine lv_if_ne (x := ((x3 >>> (y18 &&& 31)) &&& 1)) (tgt := 163) hx hb dX6_goesOn_71 (by decide) (fun c71 => ?_) (fun c71 => ?_)
          · rw [if_neg c71] at hw
            refine lv_goto (tgt := 0) hx hb dX6_goesOn_163 (by decide) ?_
            exact ih0 S30  _ _ _ hw hP hF hS (lv_sub hl [2, 3, 4, 5] rfl)
          · rw [if_pos c71] at hw
            refine lv_aload_n hx hb dX6_goesOn_74 rfl (lv_at hl 2 rfl) ?_
            refine lv_aload_n hx hb dX6_goesOn_75 rfl (lv_at hl 3 rfl) ?_
            refine lv_iload hx hb dX6_goesOn_76 (lv_at hl 0 rfl) ?_
            refine q_call (va_runV (As := [.ref (b0 + x1), .int y18]) (rest := []) ⟨hx, hb, hml, hown, hts⟩ (c_X6_isStep l D cy b0 S30 x1 y18 hk1 hn1 _ hw) (cwV 2 hts gX6_goesOn_X6_isStep rfl rfl rfl (by decide +kernel) ⟨(Nat.le_of_ble_eq_true rfl), (Nat.le_of_ble_eq_true rfl)⟩) (q_pV hW hP hF hS (k := 367) (ci := 6) (by decide) (cell_6 (kk_367)) rfl [.ref (b0 + x1), .int y18]) rfl rfl hl.1 rfl (lv_room (Nat.le_of_ble_eq_true rfl)) dX6_goesOn_78 ⟨(Nat.le_of_ble_eq_true rfl), (Nat.le_of_ble_eq_true rfl)⟩) hS (fun v78 S78 t78 H locs hh hp hB hz hk9 hS => ?_)
            obtain ⟨r78, rfl, hw⟩ := hp
            have hP : HP D cy b0 NALL S78 H := by rw [← hh]; exact hB.1
            have hF := hB.2
            try dsimp only at hw
            refine W.eq (g2 := F0 m 81 ls [.int (b2i r78)]) rfl ?_
            refine lv_if_eq (x := b2i r78) (tgt := 163) hx hb dX6_goesOn_81 (by decide) (fun c81 => ?_) (fun c81 => ?_)
            · have c81 := b2i_z c81
              rw [if_neg c81] at hw
              refine lv_goto (tgt := 0) hx hb dX6_goesOn_163 (by decide) ?_
              exact ih0 S78  _ _ _ hw hP hF hS (lv_sub hl [2, 3, 4, 5] rfl)
            · have c81 := b2i_n c81
              rw [if_pos c81] at hw
              exact j84 S78 y9 y18  _ _ _ hw hP hF hS (lv_sub hl [2, 3, 4, 5, 1, 0] rfl)
        · rw [if_pos c37] at hw
          refine lv_aload_n hx hb dX6_goesOn_40 rfl (lv_at hl 3 rfl) ?_
          refine lv_iconst (v := 1) hx hb dX6_goesOn_41 (by decide) ?_
          refine lv_dup2_11 hx hb dX6_goesOn_42 rfl rfl ?_
          obtain ⟨h43, hw⟩ := hw
          refine q_iald (k := x1) (n := 26) (i := 1) hx hb hK hP (kd_N hk1 (by decide)) hk1 hn1 h43 dX6_goesOn_43 ?_
          refine lv_iconst (v := 1) hx hb dX6_goesOn_44 (by decide) ?_
          refine lv_aload_n hx hb dX6_goesOn_45 rfl (lv_at hl 3 rfl) ?_
          refine lv_bipush (v := 10) hx hb dX6_goesOn_46 (by decide) ?_
          refine lv_iload hx hb dX6_goesOn_48 (lv_at hl 1 rfl) ?_
          refine lv_iadd hx hb dX6_goesOn_50 ?_
          obtain ⟨h51, hw⟩ := hw
          refine q_iald (k := x1) (n := 26) (i := (10 + y9)) hx hb hK hP (kd_N hk1 (by decide)) hk1 hn1 h51 dX6_goesOn_51 ?_
          refine lv_ishl hx hb dX6_goesOn_52 ?_
          refine lv_ixor hx hb dX6_goesOn_53 ?_
          obtain ⟨h54, hw⟩ := hw
          refine q_iast (k := x1) (n := 26) (i := 1) (x := ((gI S30 x1 ((1 : Int32).toNatClampNeg)) ^^^ (1 <<< ((gI S30 x1 ((10 + y9).toNatClampNeg)) &&& 31)))) hx hb hK hP hS (kd_N hk1 (by decide)) hk1 hn1 h54 dX6_goesOn_54 (fun H locs hz hP hS => ?_)
          have hF : Fx (sI S30 x1 ((1 : Int32).toNatClampNeg) ((gI S30 x1 ((1 : Int32).toNatClampNeg)) ^^^ (1 <<< ((gI S30 x1 ((10 + y9).toNatClampNeg)) &&& 31)))) := Fx.sI hF _ _ _
          generalize eS54 : sI S30 x1 ((1 : Int32).toNatClampNeg) ((gI S30 x1 ((1 : Int32).toNatClampNeg)) ^^^ (1 <<< ((gI S30 x1 ((10 + y9).toNatClampNeg)) &&& 31))) = S54 at hP hF
          have hw := hw S54 eS54.symm
          refine lv_aload_n hx hb dX6_goesOn_55 rfl (lv_at hl 3 rfl) ?_
          refine lv_iconst (v := 0) hx hb dX6_goesOn_56 (by decide) ?_
          refine lv_dup2_11 hx hb dX6_goesOn_57 rfl rfl ?_
          obtain ⟨h58, hw⟩ := hw
          refine q_iald (k := x1) (n := 26) (i := 0) hx hb hK hP (kd_N hk1 (by decide)) hk1 hn1 h58 dX6_goesOn_58 ?_
          refine lv_iconst (v := 1) hx hb dX6_goesOn_59 (by decide) ?_
          refine lv_isub hx hb dX6_goesOn_60 ?_
          obtain ⟨h61, hw⟩ := hw
          refine q_iast (k := x1) (n := 26) (i := 0) (x := ((gI S54 x1 ((0 : Int32).toNatClampNeg)) - 1)) hx hb hK hP hS (kd_N hk1 (by decide)) hk1 hn1 h61 dX6_goesOn_61 (fun H locs hz hP hS => ?_)
          have hF : Fx (sI S54 x1 ((0 : Int32).toNatClampNeg) ((gI S54 x1 ((0 : Int32).toNatClampNeg)) - 1)) := Fx.sI hF _ _ _
          generalize eS61 : sI S54 x1 ((0 : Int32).toNatClampNeg) ((gI S54 x1 ((0 : Int32).toNatClampNeg)) - 1) = S61 at hP hF
          have hw := hw S61 eS61.symm
          refine lv_goto (tgt := 163) hx hb dX6_goesOn_62 (by decide) ?_
          refine lv_goto (tgt := 0) hx hb dX6_goesOn_163 (by decide) ?_
          exact ih0 S61  _ _ _ hw hP hF hS (lv_sub hl [2, 3, 4, 5] rfl)
  unfold wp_X6_goesOn at hw
  obtain ⟨n0, hw⟩ := hw
  exact j0 n0 S  _ _ _ hw hP hF hS (lv_sub hl [0, 1, 2, 3] rfl)
set_option maxHeartbeats 4000000 in
set_option maxRecDepth 100000 in
theorem c_X6_free (l : Launch) (D : va_G) (cy : Nat → ClassId) (b0 : Nat) (S : St) (x1 : Int32) (x2 : Int32)  (P : Int32 → St → Prop) (hw : wp_X6_free S x1 x2 P) : Met l yX6_free wsX6_free rm_X6_free (va_Pc [.ref (b0 + 367), .int x1, .int x2] (Wd D cy b0 NALL S)) (QC (Pi P) (Wb D cy b0 NALL) b0) 0 0 (AA b0) := by
  refine Met.ofW (cc := cX6_free) (maxL := 6) (ret := (some .int)) (by decide) rfl ?_
  intro p e s m args below meth c s₁ B hml hv
  obtain ⟨hargs, hW, hP, hF⟩ := hv
  have hx := B.exec
  have hb := B.bytes
  have hr := B.returns
  have hts := atoms_spec (ws := wsX6_free) B.pre
  have hown : s.vm.findClass RX6 = some m.cls := findClass_of_methodNamed B.named
  have hlocks := B.notSynchronized
  have hK := hW.1
  have hS : va_S (AA b0) s.heap s.heap [] := va_S.rf
  have hE : entryFrame m args 6 = F0 m 0 ((lg_sl [.ref (b0 + 367), .int x1, .int x2] ++ List.replicate (6 - (lg_sl [.ref (b0 + 367), .int x1, .int x2]).length) Slot.unset).toArray) [] := by rw [hargs]; exact lg_entry_eq m _ _
  rw [hE]
  have hl := lv_entry [.ref (b0 + 367), .int x1, .int x2] (n := 6) (Nat.le_of_ble_eq_true rfl)
  generalize (lg_sl [.ref (b0 + 367), .int x1, .int x2] ++ List.replicate (6 - (lg_sl [.ref (b0 + 367), .int x1, .int x2]).length) Slot.unset).toArray = ls at hl ⊢
  have hl : lv_has ls 6 [(0, .ref (b0 + 367)), (1, .int x1), (2, .int x2)] := hl
  have j5 : ∀ (n5 : Nat), ∀ (S : St) (a3 : Int32) (a4 : Int32), ∀ (H : Heap) (locs : List Loc) (ls : Array Slot), wp_X6_free_5 x1 x2 P n5 S a3 a4 → HP D cy b0 NALL S H → Fx S → va_S (AA b0) s.heap H locs → lv_has ls 6 [(0, .ref (b0 + 367)), (1, .int x1), (2, .int x2), (3, .int a3), (4, .int a4)] → W p l e rm_X6_free s m args below meth c H locs 0 0 (MQ below (QC (Pi P) (Wb D cy b0 NALL) b0) args s 0 0 (AA b0)) (F0 m 5 ls []) := by
    intro n5
    induction n5 with
    | zero => intro S a3 a4  H locs ls hw _ _ _ _; exact False.elim hw
    | succ n5 ih5 =>
      have j58 : ∀ (S : St) (a4 : Int32) (t0 : Int32) (t1 : Int32), ∀ (H : Heap) (locs : List Loc) (ls : Array Slot), wp_X6_free_58 x1 x2 P (fun S a3 a4 => wp_X6_free_5 x1 x2 P n5 S a3 a4) S a4 t0 t1 → HP D cy b0 NALL S H → Fx S → va_S (AA b0) s.heap H locs → lv_has ls 6 [(0, .ref (b0 + 367)), (1, .int x1), (2, .int x2), (4, .int a4)] → W p l e rm_X6_free s m args below meth c H locs 0 0 (MQ below (QC (Pi P) (Wb D cy b0 NALL) b0) args s 0 0 (AA b0)) (F0 m 58 ls [.int t1, .int t0]) := by
        intro S a4 t0 t1  H locs ls hw hP hF hS hl
        unfold wp_X6_free_58 at hw
        refine lv_ior hx hb dX6_free_58 ?_
        refine lv_topi (fun y59 e59 => ?_)
        have hw := hw y59 e59
        refine lv_istore_n (lv' := [(3, .int y59), (0, .ref (b0 + 367)), (1, .int x1), (2, .int x2), (4, .int a4)]) hx hb dX6_free_59 rfl hl (by decide) rfl (fun ls hl => ?_)
        obtain ⟨y60, e60⟩ : ∃ z : Int32, z = a4 + 1 := ⟨_, rfl⟩
        have hw := hw y60 e60
        refine lv_iinc (v := y60) (lv' := [(4, .int y60), (3, .int y59), (0, .ref (b0 + 367)), (1, .int x1), (2, .int x2)]) hx hb dX6_free_60 hl (k := 4) rfl (by rw [e60]; rfl) (by decide) rfl (fun ls hl => ?_)
        refine lv_goto (tgt := 5) hx hb dX6_free_63 (by decide) ?_
        exact ih5 S y59 y60  _ _ _ hw hP hF hS (lv_sub hl [2, 3, 4, 1, 0] rfl)
      have j50 : ∀ (S : St) (a4 : Int32) (t0 : Int32), ∀ (H : Heap) (locs : List Loc) (ls : Array Slot), wp_X6_free_50 x1 x2 P (fun S a3 a4 => wp_X6_free_5 x1 x2 P n5 S a3 a4) S a4 t0 → HP D cy b0 NALL S H → Fx S → va_S (AA b0) s.heap H locs → lv_has ls 6 [(0, .ref (b0 + 367)), (1, .int x1), (2, .int x2), (4, .int a4)] → W p l e rm_X6_free s m args below meth c H locs 0 0 (MQ below (QC (Pi P) (Wb D cy b0 NALL) b0) args s 0 0 (AA b0)) (F0 m 50 ls [.int t0]) := by
        intro S a4 t0  H locs ls hw hP hF hS hl
        unfold wp_X6_free_50 at hw
        refine lv_iconst (v := 1) hx hb dX6_free_50 (by decide) ?_
        refine lv_iload hx hb dX6_free_51 (lv_at hl 3 rfl) ?_
        refine lv_ishl hx hb dX6_free_53 ?_
        refine lv_goto (tgt := 58) hx hb dX6_free_54 (by decide) ?_
        exact j58 S a4 t0 (1 <<< (a4 &&& 31))  _ _ _ hw hP hF hS (lv_sub hl [0, 1, 2, 3] rfl)
      have j57 : ∀ (S : St) (a4 : Int32) (t0 : Int32), ∀ (H : Heap) (locs : List Loc) (ls : Array Slot), wp_X6_free_57 x1 x2 P (fun S a3 a4 => wp_X6_free_5 x1 x2 P n5 S a3 a4) S a4 t0 → HP D cy b0 NALL S H → Fx S → va_S (AA b0) s.heap H locs → lv_has ls 6 [(0, .ref (b0 + 367)), (1, .int x1), (2, .int x2), (4, .int a4)] → W p l e rm_X6_free s m args below meth c H locs 0 0 (MQ below (QC (Pi P) (Wb D cy b0 NALL) b0) args s 0 0 (AA b0)) (F0 m 57 ls [.int t0]) := by
        intro S a4 t0  H locs ls hw hP hF hS hl
        unfold wp_X6_free_57 at hw
        refine lv_iconst (v := 0) hx hb dX6_free_57 (by decide) ?_
        exact j58 S a4 t0 0  _ _ _ hw hP hF hS (lv_sub hl [0, 1, 2, 3] rfl)
      intro S a3 a4  H locs ls hw hP hF hS hl
      rw [wp_X6_free_5] at hw
      refine lv_iload hx hb dX6_free_5 (lv_at hl 4 rfl) ?_
      refine lv_aload_n hx hb dX6_free_7 rfl (lv_at hl 0 rfl) ?_
      refine gf_6_2 (k := 367) hx hb hts (by decide +kernel) hown hK hP (by decide) (kk_367) (hts (.fieldLink RX6 13 "OpticmeshModel" "wavelengths" "I") (by decide +kernel)) dX6_free_8 ?_
      refine lv_icmp_ge (x := a4) (y := (gI S 367 2)) (tgt := 66) hx hb dX6_free_11 (by decide) (fun c11 => ?_) (fun c11 => ?_)
      · rw [if_pos c11] at hw
        refine lv_iload_n hx hb dX6_free_66 rfl (lv_at hl 3 rfl) ?_
        exact q_iret hx hb hr hP hF hS hw dX6_free_67 hlocks
      · rw [if_neg c11] at hw
        refine lv_aload_n hx hb dX6_free_14 rfl (lv_at hl 0 rfl) ?_
        refine gf_6_9 (k := 367) hx hb hts (by decide +kernel) hown hK hP (by decide) (kk_367) (q := 373) (hF.1 367 9 373 ff_367_9) (hts (.fieldLink RX6 33 "OpticmeshModel" "used" "[I") (by decide +kernel)) dX6_free_15 ?_
        refine lv_bipush (v := 8) hx hb dX6_free_18 (by decide) ?_
        refine lv_iload_n hx hb dX6_free_20 rfl (lv_at hl 1 rfl) ?_
        refine lv_imul hx hb dX6_free_21 ?_
        refine lv_iload hx hb dX6_free_22 (lv_at hl 4 rfl) ?_
        refine lv_iadd hx hb dX6_free_24 ?_
        obtain ⟨h25, hw⟩ := hw
        refine q_iald (k := 373) (n := 112) (i := ((8 * x1) + a4)) hx hb hK hP (by decide) (kk_373) (ll_373) h25 dX6_free_25 ?_
        refine lv_topi (fun y26 e26 => ?_)
        have hw := hw y26 e26
        refine lv_istore (lv' := [(5, .int y26), (0, .ref (b0 + 367)), (1, .int x1), (2, .int x2), (3, .int a3), (4, .int a4)]) hx hb dX6_free_26 hl (by decide) rfl (fun ls hl => ?_)
        refine lv_iload_n hx hb dX6_free_28 rfl (lv_at hl 4 rfl) ?_
        refine lv_aload_n hx hb dX6_free_29 rfl (lv_at hl 1 rfl) ?_
        refine gf_6_8 (k := 367) hx hb hts (by decide +kernel) hown hK hP (by decide) (kk_367) (q := 372) (hF.1 367 8 372 ff_367_8) (hts (.fieldLink RX6 30 "OpticmeshModel" "areCut" "[Z") (by decide +kernel)) dX6_free_30 ?_
        refine lv_iload_n hx hb dX6_free_33 rfl (lv_at hl 2 rfl) ?_
        obtain ⟨h34, hw⟩ := hw
        refine q_zald (k := 372) (n := 14) (i := x1) hx hb hK hP (by decide) (kk_372) (ll_372) h34 dX6_free_34 ?_
        refine lv_if_ne (x := (gI S 372 (x1.toNatClampNeg))) (tgt := 57) hx hb dX6_free_35 (by decide) (fun c35 => ?_) (fun c35 => ?_)
        · rw [if_neg c35] at hw
          exact j57 S a4 a3  _ _ _ hw hP hF hS (lv_sub hl [1, 2, 3, 5] rfl)
        · rw [if_pos c35] at hw
          refine lv_iload hx hb dX6_free_38 (lv_at hl 0 rfl) ?_
          refine lv_iconst (v := (-1)) hx hb dX6_free_40 (by decide) ?_
          refine lv_icmp_eq (x := y26) (y := (-1)) (tgt := 50) hx hb dX6_free_41 (by decide) (fun c41 => ?_) (fun c41 => ?_)
          · rw [if_pos c41] at hw
            exact j50 S a4 a3  _ _ _ hw hP hF hS (lv_sub hl [1, 2, 3, 5] rfl)
          · rw [if_neg c41] at hw
            refine lv_iload hx hb dX6_free_44 (lv_at hl 0 rfl) ?_
            refine lv_iload_n hx hb dX6_free_46 rfl (lv_at hl 3 rfl) ?_
            refine lv_icmp_ne (x := y26) (y := x2) (tgt := 57) hx hb dX6_free_47 (by decide) (fun c47 => ?_) (fun c47 => ?_)
            · rw [if_neg c47] at hw
              exact j57 S a4 a3  _ _ _ hw hP hF hS (lv_sub hl [1, 2, 3, 5] rfl)
            · rw [if_pos c47] at hw
              exact j50 S a4 a3  _ _ _ hw hP hF hS (lv_sub hl [1, 2, 3, 5] rfl)
  unfold wp_X6_free at hw
  refine lv_iconst (v := 0) hx hb dX6_free_0 (by decide) ?_
  refine lv_istore_n (lv' := [(3, .int 0), (0, .ref (b0 + 367)), (1, .int x1), (2, .int x2)]) hx hb dX6_free_1 rfl hl (by decide) rfl (fun ls hl => ?_)
  refine lv_iconst (v := 0) hx hb dX6_free_2 (by decide) ?_
  refine lv_istore (lv' := [(4, .int 0), (3, .int 0), (0, .ref (b0 + 367)), (1, .int x1), (2, .int x2)]) hx hb dX6_free_3 hl (by decide) rfl (fun ls hl => ?_)
  obtain ⟨n5, hw⟩ := hw
  exact j5 n5 S 0 0  _ _ _ hw hP hF hS (lv_sub hl [2, 3, 4, 1, 0] rfl)
set_option maxHeartbeats 4000000 in
set_option maxRecDepth 100000 in
theorem c_X6_cost (l : Launch) (D : va_G) (cy : Nat → ClassId) (b0 : Nat) (S : St) (x1 : Nat) (x2 : Int32) (x3 : Int32) (x4 : Int32) (hk1 : kd x1 = 7) (hn1 : ln x1 = 26) (P : Int32 → St → Prop) (hw : wp_X6_cost S x1 x2 x3 x4 P) : Met l yX6_cost wsX6_cost rm_X6_cost (va_Pc [.ref (b0 + 367), .ref (b0 + x1), .int x2, .int x3, .int x4] (Wd D cy b0 NALL S)) (QC (Pi P) (Wb D cy b0 NALL) b0) 0 0 (AA b0) := by
  refine Met.ofW (cc := cX6_cost) (maxL := 8) (ret := (some .int)) (by decide) rfl ?_
  intro p e s m args below meth c s₁ B hml hv
  obtain ⟨hargs, hW, hP, hF⟩ := hv
  have hx := B.exec
  have hb := B.bytes
  have hr := B.returns
  have hts := atoms_spec (ws := wsX6_cost) B.pre
  have hown : s.vm.findClass RX6 = some m.cls := findClass_of_methodNamed B.named
  have hlocks := B.notSynchronized
  have hK := hW.1
  have hS : va_S (AA b0) s.heap s.heap [] := va_S.rf
  have hE : entryFrame m args 8 = F0 m 0 ((lg_sl [.ref (b0 + 367), .ref (b0 + x1), .int x2, .int x3, .int x4] ++ List.replicate (8 - (lg_sl [.ref (b0 + 367), .ref (b0 + x1), .int x2, .int x3, .int x4]).length) Slot.unset).toArray) [] := by rw [hargs]; exact lg_entry_eq m _ _
  rw [hE]
  have hl := lv_entry [.ref (b0 + 367), .ref (b0 + x1), .int x2, .int x3, .int x4] (n := 8) (Nat.le_of_ble_eq_true rfl)
  generalize (lg_sl [.ref (b0 + 367), .ref (b0 + x1), .int x2, .int x3, .int x4] ++ List.replicate (8 - (lg_sl [.ref (b0 + 367), .ref (b0 + x1), .int x2, .int x3, .int x4]).length) Slot.unset).toArray = ls at hl ⊢
  have hl : lv_has ls 8 [(0, .ref (b0 + 367)), (1, .ref (b0 + x1)), (2, .int x2), (3, .int x3), (4, .int x4)] := hl
  have j29 : ∀ (n29 : Nat), ∀ (S : St) (a5 : Int32) (a6 : Int32), ∀ (H : Heap) (locs : List Loc) (ls : Array Slot), wp_X6_cost_29 x1 x2 x3 x4 P n29 S a5 a6 → HP D cy b0 NALL S H → Fx S → va_S (AA b0) s.heap H locs → lv_has ls 8 [(0, .ref (b0 + 367)), (1, .ref (b0 + x1)), (2, .int x2), (3, .int x3), (5, .int a5), (6, .int a6)] → W p l e rm_X6_cost s m args below meth c H locs 0 0 (MQ below (QC (Pi P) (Wb D cy b0 NALL) b0) args s 0 0 (AA b0)) (F0 m 29 ls []) := by
    intro n29
    induction n29 with
    | zero => intro S a5 a6  H locs ls hw _ _ _ _; exact False.elim hw
    | succ n29 ih29 =>
      have j92 : ∀ (S : St) (a6 : Int32) (t0 : Int32), ∀ (H : Heap) (locs : List Loc) (ls : Array Slot), wp_X6_cost_92 x1 x2 x3 x4 P (fun S a5 a6 => wp_X6_cost_29 x1 x2 x3 x4 P n29 S a5 a6) S a6 t0 → HP D cy b0 NALL S H → Fx S → va_S (AA b0) s.heap H locs → lv_has ls 8 [(0, .ref (b0 + 367)), (1, .ref (b0 + x1)), (2, .int x2), (3, .int x3), (6, .int a6)] → W p l e rm_X6_cost s m args below meth c H locs 0 0 (MQ below (QC (Pi P) (Wb D cy b0 NALL) b0) args s 0 0 (AA b0)) (F0 m 92 ls [.int t0]) := by
        intro S a6 t0  H locs ls hw hP hF hS hl
        unfold wp_X6_cost_92 at hw
        refine lv_istore (lv' := [(5, .int t0), (0, .ref (b0 + 367)), (1, .ref (b0 + x1)), (2, .int x2), (3, .int x3), (6, .int a6)]) hx hb dX6_cost_92 hl (by decide) rfl (fun ls hl => ?_)
        obtain ⟨y94, e94⟩ : ∃ z : Int32, z = a6 + 1 := ⟨_, rfl⟩
        have hw := hw y94 e94
        refine lv_iinc (v := y94) (lv' := [(6, .int y94), (5, .int t0), (0, .ref (b0 + 367)), (1, .ref (b0 + x1)), (2, .int x2), (3, .int x3)]) hx hb dX6_cost_94 hl (k := 5) rfl (by rw [e94]; rfl) (by decide) rfl (fun ls hl => ?_)
        refine lv_goto (tgt := 29) hx hb dX6_cost_97 (by decide) ?_
        exact ih29 S t0 y94  _ _ _ hw hP hF hS (lv_sub hl [2, 3, 4, 5, 1, 0] rfl)
      have j90 : ∀ (S : St) (a5 : Int32) (a6 : Int32), ∀ (H : Heap) (locs : List Loc) (ls : Array Slot), wp_X6_cost_90 x1 x2 x3 x4 P (fun S a5 a6 => wp_X6_cost_29 x1 x2 x3 x4 P n29 S a5 a6) S a5 a6 → HP D cy b0 NALL S H → Fx S → va_S (AA b0) s.heap H locs → lv_has ls 8 [(0, .ref (b0 + 367)), (1, .ref (b0 + x1)), (2, .int x2), (3, .int x3), (5, .int a5), (6, .int a6)] → W p l e rm_X6_cost s m args below meth c H locs 0 0 (MQ below (QC (Pi P) (Wb D cy b0 NALL) b0) args s 0 0 (AA b0)) (F0 m 90 ls []) := by
        intro S a5 a6  H locs ls hw hP hF hS hl
        unfold wp_X6_cost_90 at hw
        refine lv_iload hx hb dX6_cost_90 (lv_at hl 4 rfl) ?_
        exact j92 S a6 a5  _ _ _ hw hP hF hS (lv_sub hl [0, 1, 2, 3, 5] rfl)
      intro S a5 a6  H locs ls hw hP hF hS hl
      rw [wp_X6_cost_29] at hw
      refine lv_iload hx hb dX6_cost_29 (lv_at hl 5 rfl) ?_
      refine lv_aload_n hx hb dX6_cost_31 rfl (lv_at hl 0 rfl) ?_
      refine gf_6_2 (k := 367) hx hb hts (by decide +kernel) hown hK hP (by decide) (kk_367) (hts (.fieldLink RX6 13 "OpticmeshModel" "wavelengths" "I") (by decide +kernel)) dX6_cost_32 ?_
      refine lv_icmp_ge (x := a6) (y := (gI S 367 2)) (tgt := 100) hx hb dX6_cost_35 (by decide) (fun c35 => ?_) (fun c35 => ?_)
      · rw [if_pos c35] at hw
        refine lv_iload hx hb dX6_cost_100 (lv_at hl 4 rfl) ?_
        exact q_iret hx hb hr hP hF hS hw dX6_cost_102 hlocks
      · rw [if_neg c35] at hw
        refine lv_iload_n hx hb dX6_cost_38 rfl (lv_at hl 2 rfl) ?_
        refine lv_iload_n hx hb dX6_cost_39 rfl (lv_at hl 3 rfl) ?_
        refine lv_icmp_ge (x := x2) (y := x3) (tgt := 100) hx hb dX6_cost_40 (by decide) (fun c40 => ?_) (fun c40 => ?_)
        · rw [if_pos c40] at hw
          refine lv_iload hx hb dX6_cost_100 (lv_at hl 4 rfl) ?_
          exact q_iret hx hb hr hP hF hS hw dX6_cost_102 hlocks
        · rw [if_neg c40] at hw
          refine lv_aload_n hx hb dX6_cost_43 rfl (lv_at hl 0 rfl) ?_
          refine gf_6_24 (k := 367) hx hb hts (by decide +kernel) hown hK hP (by decide) (kk_367) (q := 386) (hF.1 367 24 386 ff_367_24) (hts (.fieldLink RX6 72 "OpticmeshModel" "costs" "[I") (by decide +kernel)) dX6_cost_44 ?_
          refine lv_bipush (v := 8) hx hb dX6_cost_47 (by decide) ?_
          refine lv_iload_n hx hb dX6_cost_49 rfl (lv_at hl 2 rfl) ?_
          refine lv_imul hx hb dX6_cost_50 ?_
          refine lv_bipush (v := 8) hx hb dX6_cost_51 (by decide) ?_
          refine lv_iadd hx hb dX6_cost_53 ?_
          refine lv_iload hx hb dX6_cost_54 (lv_at hl 5 rfl) ?_
          refine lv_iadd hx hb dX6_cost_56 ?_
          obtain ⟨h57, hw⟩ := hw
          refine q_iald (k := 386) (n := 56) (i := (((8 * x2) + 8) + a6)) hx hb hK hP (by decide) (kk_386) (ll_386) h57 dX6_cost_57 ?_
          refine lv_iconst (v := 1) hx hb dX6_cost_58 (by decide) ?_
          refine lv_iadd hx hb dX6_cost_59 ?_
          refine lv_topi (fun y60 e60 => ?_)
          have hw := hw y60 e60
          refine lv_istore (lv' := [(7, .int y60), (0, .ref (b0 + 367)), (1, .ref (b0 + x1)), (2, .int x2), (3, .int x3), (5, .int a5), (6, .int a6)]) hx hb dX6_cost_60 hl (by decide) rfl (fun ls hl => ?_)
          refine lv_aload_n hx hb dX6_cost_62 rfl (lv_at hl 1 rfl) ?_
          refine gf_6_4 (k := 367) hx hb hts (by decide +kernel) hown hK hP (by decide) (kk_367) (q := 368) (hF.1 367 4 368 ff_367_4) (hts (.fieldLink RX6 16 "OpticmeshModel" "doConvert" "[Z") (by decide +kernel)) dX6_cost_63 ?_
          refine lv_aload_n hx hb dX6_cost_66 rfl (lv_at hl 2 rfl) ?_
          refine lv_bipush (v := 10) hx hb dX6_cost_67 (by decide) ?_
          refine lv_iload_n hx hb dX6_cost_69 rfl (lv_at hl 3 rfl) ?_
          refine lv_iadd hx hb dX6_cost_70 ?_
          refine lv_iconst (v := 1) hx hb dX6_cost_71 (by decide) ?_
          refine lv_iadd hx hb dX6_cost_72 ?_
          obtain ⟨h73, hw⟩ := hw
          refine q_iald (k := x1) (n := 26) (i := ((10 + x2) + 1)) hx hb hK hP (kd_N hk1 (by decide)) hk1 hn1 h73 dX6_cost_73 ?_
          obtain ⟨h74, hw⟩ := hw
          refine q_zald (k := 368) (n := 8) (i := (gI S x1 (((10 + x2) + 1).toNatClampNeg))) hx hb hK hP (by decide) (kk_368) (ll_368) h74 dX6_cost_74 ?_
          refine lv_if_eq (x := (gI S 368 ((gI S x1 (((10 + x2) + 1).toNatClampNeg)).toNatClampNeg))) (tgt := 90) hx hb dX6_cost_75 (by decide) (fun c75 => ?_) (fun c75 => ?_)
          · rw [if_pos c75] at hw
            exact j90 S a5 a6  _ _ _ hw hP hF hS (lv_sub hl [1, 2, 3, 4, 5, 6] rfl)
          · rw [if_neg c75] at hw
            refine lv_iload hx hb dX6_cost_78 (lv_at hl 0 rfl) ?_
            refine lv_iload hx hb dX6_cost_80 (lv_at hl 5 rfl) ?_
            refine lv_icmp_ge (x := y60) (y := a5) (tgt := 90) hx hb dX6_cost_82 (by decide) (fun c82 => ?_) (fun c82 => ?_)
            · rw [if_pos c82] at hw
              exact j90 S a5 a6  _ _ _ hw hP hF hS (lv_sub hl [1, 2, 3, 4, 5, 6] rfl)
            · rw [if_neg c82] at hw
              refine lv_iload hx hb dX6_cost_85 (lv_at hl 0 rfl) ?_
              refine lv_goto (tgt := 92) hx hb dX6_cost_87 (by decide) ?_
              exact j92 S a6 y60  _ _ _ hw hP hF hS (lv_sub hl [1, 2, 3, 4, 6] rfl)
  have j24 : ∀ (S : St) (t0 : Int32), ∀ (H : Heap) (locs : List Loc) (ls : Array Slot), wp_X6_cost_24 x1 x2 x3 x4 P S t0 → HP D cy b0 NALL S H → Fx S → va_S (AA b0) s.heap H locs → lv_has ls 8 [(0, .ref (b0 + 367)), (1, .ref (b0 + x1)), (2, .int x2), (3, .int x3)] → W p l e rm_X6_cost s m args below meth c H locs 0 0 (MQ below (QC (Pi P) (Wb D cy b0 NALL) b0) args s 0 0 (AA b0)) (F0 m 24 ls [.int t0]) := by
    intro S t0  H locs ls hw hP hF hS hl
    unfold wp_X6_cost_24 at hw
    refine lv_istore (lv' := [(5, .int t0), (0, .ref (b0 + 367)), (1, .ref (b0 + x1)), (2, .int x2), (3, .int x3)]) hx hb dX6_cost_24 hl (by decide) rfl (fun ls hl => ?_)
    refine lv_iconst (v := 0) hx hb dX6_cost_26 (by decide) ?_
    refine lv_istore (lv' := [(6, .int 0), (5, .int t0), (0, .ref (b0 + 367)), (1, .ref (b0 + x1)), (2, .int x2), (3, .int x3)]) hx hb dX6_cost_27 hl (by decide) rfl (fun ls hl => ?_)
    obtain ⟨n29, hw⟩ := hw
    exact j29 n29 S t0 0  _ _ _ hw hP hF hS (lv_sub hl [2, 3, 4, 5, 1, 0] rfl)
  unfold wp_X6_cost at hw
  refine lv_iload_n hx hb dX6_cost_0 rfl (lv_at hl 2 rfl) ?_
  refine lv_iload_n hx hb dX6_cost_1 rfl (lv_at hl 3 rfl) ?_
  refine lv_icmp_ne (x := x2) (y := x3) (tgt := 9) hx hb dX6_cost_2 (by decide) (fun c2 => ?_) (fun c2 => ?_)
  · rw [if_neg c2] at hw
    refine lv_aload_n hx hb dX6_cost_9 rfl (lv_at hl 0 rfl) ?_
    refine gf_6_24 (k := 367) hx hb hts (by decide +kernel) hown hK hP (by decide) (kk_367) (q := 386) (hF.1 367 24 386 ff_367_24) (hts (.fieldLink RX6 72 "OpticmeshModel" "costs" "[I") (by decide +kernel)) dX6_cost_10 ?_
    refine lv_bipush (v := 8) hx hb dX6_cost_13 (by decide) ?_
    refine lv_iload_n hx hb dX6_cost_15 rfl (lv_at hl 2 rfl) ?_
    refine lv_imul hx hb dX6_cost_16 ?_
    refine lv_bipush (v := 8) hx hb dX6_cost_17 (by decide) ?_
    refine lv_iadd hx hb dX6_cost_19 ?_
    refine lv_iload hx hb dX6_cost_20 (lv_at hl 4 rfl) ?_
    refine lv_iadd hx hb dX6_cost_22 ?_
    obtain ⟨h23, hw⟩ := hw
    refine q_iald (k := 386) (n := 56) (i := (((8 * x2) + 8) + x4)) hx hb hK hP (by decide) (kk_386) (ll_386) h23 dX6_cost_23 ?_
    exact j24 S (gI S 386 ((((8 * x2) + 8) + x4).toNatClampNeg))  _ _ _ hw hP hF hS (lv_sub hl [0, 1, 2, 3] rfl)
  · rw [if_pos c2] at hw
    refine lv_iconst (v := 0) hx hb dX6_cost_5 (by decide) ?_
    refine lv_goto (tgt := 24) hx hb dX6_cost_6 (by decide) ?_
    exact j24 S 0  _ _ _ hw hP hF hS (lv_sub hl [0, 1, 2, 3] rfl)
set_option maxHeartbeats 4000000 in
set_option maxRecDepth 100000 in
theorem c_X6_follows (l : Launch) (D : va_G) (cy : Nat → ClassId) (b0 : Nat) (S : St) (x1 : Nat) (x2 : Int32) (x3 : Int32) (hk1 : kd x1 = 7) (hn1 : ln x1 = 26) (P : Int32 → St → Prop) (hw : wp_X6_follows S x1 x2 x3 P) : Met l yX6_follows wsX6_follows rm_X6_follows (va_Pc [.ref (b0 + 367), .ref (b0 + x1), .int x2, .int x3] (Wd D cy b0 NALL S)) (QC (Pi P) (Wb D cy b0 NALL) b0) 0 0 (AA b0) := by
  refine Met.ofW (cc := cX6_follows) (maxL := 6) (ret := (some .int)) (by decide) rfl ?_
  intro p e s m args below meth c s₁ B hml hv
  obtain ⟨hargs, hW, hP, hF⟩ := hv
  have hx := B.exec
  have hb := B.bytes
  have hr := B.returns
  have hts := atoms_spec (ws := wsX6_follows) B.pre
  have hown : s.vm.findClass RX6 = some m.cls := findClass_of_methodNamed B.named
  have hlocks := B.notSynchronized
  have hK := hW.1
  have hS : va_S (AA b0) s.heap s.heap [] := va_S.rf
  have hE : entryFrame m args 6 = F0 m 0 ((lg_sl [.ref (b0 + 367), .ref (b0 + x1), .int x2, .int x3] ++ List.replicate (6 - (lg_sl [.ref (b0 + 367), .ref (b0 + x1), .int x2, .int x3]).length) Slot.unset).toArray) [] := by rw [hargs]; exact lg_entry_eq m _ _
  rw [hE]
  have hl := lv_entry [.ref (b0 + 367), .ref (b0 + x1), .int x2, .int x3] (n := 6) (Nat.le_of_ble_eq_true rfl)
  generalize (lg_sl [.ref (b0 + 367), .ref (b0 + x1), .int x2, .int x3] ++ List.replicate (6 - (lg_sl [.ref (b0 + 367), .ref (b0 + x1), .int x2, .int x3]).length) Slot.unset).toArray = ls at hl ⊢
  have hl : lv_has ls 6 [(0, .ref (b0 + 367)), (1, .ref (b0 + x1)), (2, .int x2), (3, .int x3)] := hl
  have j3 : ∀ (n3 : Nat), ∀ (S : St) (a4 : Int32), ∀ (H : Heap) (locs : List Loc) (ls : Array Slot), wp_X6_follows_3 x1 x2 x3 P n3 S a4 → HP D cy b0 NALL S H → Fx S → va_S (AA b0) s.heap H locs → lv_has ls 6 [(0, .ref (b0 + 367)), (1, .ref (b0 + x1)), (2, .int x2), (3, .int x3), (4, .int a4)] → W p l e rm_X6_follows s m args below meth c H locs 0 0 (MQ below (QC (Pi P) (Wb D cy b0 NALL) b0) args s 0 0 (AA b0)) (F0 m 3 ls []) := by
    intro n3
    induction n3 with
    | zero => intro S a4  H locs ls hw _ _ _ _; exact False.elim hw
    | succ n3 ih3 =>
      have j45 : ∀ (S : St) (a4 : Int32) (t0 : Int32), ∀ (H : Heap) (locs : List Loc) (ls : Array Slot), wp_X6_follows_45 x1 x2 x3 P (fun S a4 => wp_X6_follows_3 x1 x2 x3 P n3 S a4) S a4 t0 → HP D cy b0 NALL S H → Fx S → va_S (AA b0) s.heap H locs → lv_has ls 6 [(0, .ref (b0 + 367)), (1, .ref (b0 + x1)), (2, .int x2), (3, .int x3), (4, .int a4)] → W p l e rm_X6_follows s m args below meth c H locs 0 0 (MQ below (QC (Pi P) (Wb D cy b0 NALL) b0) args s 0 0 (AA b0)) (F0 m 45 ls [.int t0]) := by
        intro S a4 t0  H locs ls hw hP hF hS hl
        unfold wp_X6_follows_45 at hw
        refine lv_istore (lv' := [(5, .int t0), (0, .ref (b0 + 367)), (1, .ref (b0 + x1)), (2, .int x2), (3, .int x3), (4, .int a4)]) hx hb dX6_follows_45 hl (by decide) rfl (fun ls hl => ?_)
        refine lv_aload_n hx hb dX6_follows_47 rfl (lv_at hl 1 rfl) ?_
        refine gf_6_24 (k := 367) hx hb hts (by decide +kernel) hown hK hP (by decide) (kk_367) (q := 386) (hF.1 367 24 386 ff_367_24) (hts (.fieldLink RX6 72 "OpticmeshModel" "costs" "[I") (by decide +kernel)) dX6_follows_48 ?_
        refine lv_bipush (v := 8) hx hb dX6_follows_51 (by decide) ?_
        refine lv_iload_n hx hb dX6_follows_53 rfl (lv_at hl 3 rfl) ?_
        refine lv_imul hx hb dX6_follows_54 ?_
        refine lv_bipush (v := 8) hx hb dX6_follows_55 (by decide) ?_
        refine lv_iadd hx hb dX6_follows_57 ?_
        refine lv_iload hx hb dX6_follows_58 (lv_at hl 5 rfl) ?_
        refine lv_iadd hx hb dX6_follows_60 ?_
        obtain ⟨h61, hw⟩ := hw
        refine q_iald (k := 386) (n := 56) (i := (((8 * x2) + 8) + a4)) hx hb hK hP (by decide) (kk_386) (ll_386) h61 dX6_follows_61 ?_
        refine lv_iload hx hb dX6_follows_62 (lv_at hl 0 rfl) ?_
        refine lv_iadd hx hb dX6_follows_64 ?_
        refine lv_aload_n hx hb dX6_follows_65 rfl (lv_at hl 1 rfl) ?_
        refine gf_6_24 (k := 367) hx hb hts (by decide +kernel) hown hK hP (by decide) (kk_367) (q := 386) (hF.1 367 24 386 ff_367_24) (hts (.fieldLink RX6 72 "OpticmeshModel" "costs" "[I") (by decide +kernel)) dX6_follows_66 ?_
        refine lv_bipush (v := 8) hx hb dX6_follows_69 (by decide) ?_
        refine lv_iload_n hx hb dX6_follows_71 rfl (lv_at hl 3 rfl) ?_
        refine lv_imul hx hb dX6_follows_72 ?_
        refine lv_iload_n hx hb dX6_follows_73 rfl (lv_at hl 4 rfl) ?_
        refine lv_iadd hx hb dX6_follows_74 ?_
        obtain ⟨h75, hw⟩ := hw
        refine q_iald (k := 386) (n := 56) (i := ((8 * x2) + x3)) hx hb hK hP (by decide) (kk_386) (ll_386) h75 dX6_follows_75 ?_
        refine lv_icmp_ne (x := ((gI S 386 ((((8 * x2) + 8) + a4).toNatClampNeg)) + t0)) (y := (gI S 386 (((8 * x2) + x3).toNatClampNeg))) (tgt := 82) hx hb dX6_follows_76 (by decide) (fun c76 => ?_) (fun c76 => ?_)
        · rw [if_neg c76] at hw
          obtain ⟨y82, e82⟩ : ∃ z : Int32, z = a4 + 1 := ⟨_, rfl⟩
          have hw := hw y82 e82
          refine lv_iinc (v := y82) (lv' := [(4, .int y82), (5, .int t0), (0, .ref (b0 + 367)), (1, .ref (b0 + x1)), (2, .int x2), (3, .int x3)]) hx hb dX6_follows_82 hl (k := 5) rfl (by rw [e82]; rfl) (by decide) rfl (fun ls hl => ?_)
          refine lv_goto (tgt := 3) hx hb dX6_follows_85 (by decide) ?_
          exact ih3 S y82  _ _ _ hw hP hF hS (lv_sub hl [2, 3, 4, 5, 0] rfl)
        · rw [if_pos c76] at hw
          refine lv_iload hx hb dX6_follows_79 (lv_at hl 5 rfl) ?_
          exact q_iret hx hb hr hP hF hS hw dX6_follows_81 hlocks
      intro S a4  H locs ls hw hP hF hS hl
      rw [wp_X6_follows_3] at hw
      refine lv_iload hx hb dX6_follows_3 (lv_at hl 4 rfl) ?_
      refine lv_aload_n hx hb dX6_follows_5 rfl (lv_at hl 0 rfl) ?_
      refine gf_6_2 (k := 367) hx hb hts (by decide +kernel) hown hK hP (by decide) (kk_367) (hts (.fieldLink RX6 13 "OpticmeshModel" "wavelengths" "I") (by decide +kernel)) dX6_follows_6 ?_
      refine lv_icmp_ge (x := a4) (y := (gI S 367 2)) (tgt := 88) hx hb dX6_follows_9 (by decide) (fun c9 => ?_) (fun c9 => ?_)
      · rw [if_pos c9] at hw
        refine lv_iload_n hx hb dX6_follows_88 rfl (lv_at hl 3 rfl) ?_
        exact q_iret hx hb hr hP hF hS hw dX6_follows_89 hlocks
      · rw [if_neg c9] at hw
        refine lv_iload hx hb dX6_follows_12 (lv_at hl 4 rfl) ?_
        refine lv_iload_n hx hb dX6_follows_14 rfl (lv_at hl 3 rfl) ?_
        refine lv_icmp_ne (x := a4) (y := x3) (tgt := 22) hx hb dX6_follows_15 (by decide) (fun c15 => ?_) (fun c15 => ?_)
        · rw [if_neg c15] at hw
          refine lv_aload_n hx hb dX6_follows_22 rfl (lv_at hl 0 rfl) ?_
          refine gf_6_4 (k := 367) hx hb hts (by decide +kernel) hown hK hP (by decide) (kk_367) (q := 368) (hF.1 367 4 368 ff_367_4) (hts (.fieldLink RX6 16 "OpticmeshModel" "doConvert" "[Z") (by decide +kernel)) dX6_follows_23 ?_
          refine lv_aload_n hx hb dX6_follows_26 rfl (lv_at hl 1 rfl) ?_
          refine lv_bipush (v := 10) hx hb dX6_follows_27 (by decide) ?_
          refine lv_iload_n hx hb dX6_follows_29 rfl (lv_at hl 2 rfl) ?_
          refine lv_iadd hx hb dX6_follows_30 ?_
          refine lv_iconst (v := 1) hx hb dX6_follows_31 (by decide) ?_
          refine lv_iadd hx hb dX6_follows_32 ?_
          obtain ⟨h33, hw⟩ := hw
          refine q_iald (k := x1) (n := 26) (i := ((10 + x2) + 1)) hx hb hK hP (kd_N hk1 (by decide)) hk1 hn1 h33 dX6_follows_33 ?_
          obtain ⟨h34, hw⟩ := hw
          refine q_zald (k := 368) (n := 8) (i := (gI S x1 (((10 + x2) + 1).toNatClampNeg))) hx hb hK hP (by decide) (kk_368) (ll_368) h34 dX6_follows_34 ?_
          refine lv_if_eq (x := (gI S 368 ((gI S x1 (((10 + x2) + 1).toNatClampNeg)).toNatClampNeg))) (tgt := 42) hx hb dX6_follows_35 (by decide) (fun c35 => ?_) (fun c35 => ?_)
          · rw [if_pos c35] at hw
            refine lv_sipush (v := 1000) hx hb dX6_follows_42 (by decide) ?_
            exact j45 S a4 1000  _ _ _ hw hP hF hS (lv_sub hl [0, 1, 2, 3, 4] rfl)
          · rw [if_neg c35] at hw
            refine lv_iconst (v := 1) hx hb dX6_follows_38 (by decide) ?_
            refine lv_goto (tgt := 45) hx hb dX6_follows_39 (by decide) ?_
            exact j45 S a4 1  _ _ _ hw hP hF hS (lv_sub hl [0, 1, 2, 3, 4] rfl)
        · rw [if_pos c15] at hw
          refine lv_iconst (v := 0) hx hb dX6_follows_18 (by decide) ?_
          refine lv_goto (tgt := 45) hx hb dX6_follows_19 (by decide) ?_
          exact j45 S a4 0  _ _ _ hw hP hF hS (lv_sub hl [0, 1, 2, 3, 4] rfl)
  unfold wp_X6_follows at hw
  refine lv_iconst (v := 0) hx hb dX6_follows_0 (by decide) ?_
  refine lv_istore (lv' := [(4, .int 0), (0, .ref (b0 + 367)), (1, .ref (b0 + x1)), (2, .int x2), (3, .int x3)]) hx hb dX6_follows_1 hl (by decide) rfl (fun ls hl => ?_)
  obtain ⟨n3, hw⟩ := hw
  exact j3 n3 S 0  _ _ _ hw hP hF hS (lv_sub hl [1, 2, 3, 4, 0] rfl)
set_option maxHeartbeats 4000000 in
set_option maxRecDepth 100000 in
theorem c_X6_lays (l : Launch) (D : va_G) (cy : Nat → ClassId) (b0 : Nat) (S : St) (x1 : Nat) (x2 : Int32) (x3 : Int32) (x4 : Nat) (hk1 : kd x1 = 7) (hn1 : ln x1 = 26) (hk4 : kd x4 = 7) (hn4 : ln x4 = 10) (P : Bool → St → Prop) (hw : wp_X6_lays S x1 x2 x3 x4 P) : Met l yX6_lays wsX6_lays rm_X6_lays (va_Pc [.ref (b0 + 367), .ref (b0 + x1), .int x2, .int x3, .ref (b0 + x4)] (Wd D cy b0 NALL S)) (QC (Pz P) (Wb D cy b0 NALL) b0) 0 0 (AA b0) := by
  refine Met.ofW (cc := cX6_lays) (maxL := 9) (ret := (some .boolean)) (by decide) rfl ?_
  intro p e s m args below meth c s₁ B hml hv
  obtain ⟨hargs, hW, hP, hF⟩ := hv
  have hx := B.exec
  have hb := B.bytes
  have hr := B.returns
  have hts := atoms_spec (ws := wsX6_lays) B.pre
  have hown : s.vm.findClass RX6 = some m.cls := findClass_of_methodNamed B.named
  have hlocks := B.notSynchronized
  have hK := hW.1
  have hS : va_S (AA b0) s.heap s.heap [] := va_S.rf
  have hE : entryFrame m args 9 = F0 m 0 ((lg_sl [.ref (b0 + 367), .ref (b0 + x1), .int x2, .int x3, .ref (b0 + x4)] ++ List.replicate (9 - (lg_sl [.ref (b0 + 367), .ref (b0 + x1), .int x2, .int x3, .ref (b0 + x4)]).length) Slot.unset).toArray) [] := by rw [hargs]; exact lg_entry_eq m _ _
  rw [hE]
  have hl := lv_entry [.ref (b0 + 367), .ref (b0 + x1), .int x2, .int x3, .ref (b0 + x4)] (n := 9) (Nat.le_of_ble_eq_true rfl)
  generalize (lg_sl [.ref (b0 + 367), .ref (b0 + x1), .int x2, .int x3, .ref (b0 + x4)] ++ List.replicate (9 - (lg_sl [.ref (b0 + 367), .ref (b0 + x1), .int x2, .int x3, .ref (b0 + x4)]).length) Slot.unset).toArray = ls at hl ⊢
  have hl : lv_has ls 9 [(0, .ref (b0 + 367)), (1, .ref (b0 + x1)), (2, .int x2), (3, .int x3), (4, .ref (b0 + x4))] := hl
  have j186 : ∀ (n186 : Nat), ∀ (S : St) (a5 : Int32) (a6 : Int32) (a7 : Int32), ∀ (H : Heap) (locs : List Loc) (ls : Array Slot), wp_X6_lays_186 x1 x2 x3 x4 P n186 S a5 a6 a7 → HP D cy b0 NALL S H → Fx S → va_S (AA b0) s.heap H locs → lv_has ls 9 [(0, .ref (b0 + 367)), (1, .ref (b0 + x1)), (4, .ref (b0 + x4)), (5, .int a5), (6, .int a6), (7, .int a7)] → W p l e rm_X6_lays s m args below meth c H locs 0 0 (MQ below (QC (Pz P) (Wb D cy b0 NALL) b0) args s 0 0 (AA b0)) (F0 m 186 ls []) := by
    intro n186
    induction n186 with
    | zero => intro S a5 a6 a7  H locs ls hw _ _ _ _; exact False.elim hw
    | succ n186 ih186 =>
      have j249 : ∀ (S : St) (a5 : Int32) (a7 : Int32) (t0 : Int32), ∀ (H : Heap) (locs : List Loc) (ls : Array Slot), wp_X6_lays_249 x1 x2 x3 x4 P (fun S a5 a6 a7 => wp_X6_lays_186 x1 x2 x3 x4 P n186 S a5 a6 a7) S a5 a7 t0 → HP D cy b0 NALL S H → Fx S → va_S (AA b0) s.heap H locs → lv_has ls 9 [(0, .ref (b0 + 367)), (1, .ref (b0 + x1)), (4, .ref (b0 + x4)), (5, .int a5), (7, .int a7)] → W p l e rm_X6_lays s m args below meth c H locs 0 0 (MQ below (QC (Pz P) (Wb D cy b0 NALL) b0) args s 0 0 (AA b0)) (F0 m 249 ls [.int t0]) := by
        intro S a5 a7 t0  H locs ls hw hP hF hS hl
        unfold wp_X6_lays_249 at hw
        refine lv_istore (lv' := [(6, .int t0), (0, .ref (b0 + 367)), (1, .ref (b0 + x1)), (4, .ref (b0 + x4)), (5, .int a5), (7, .int a7)]) hx hb dX6_lays_249 hl (by decide) rfl (fun ls hl => ?_)
        obtain ⟨y251, e251⟩ : ∃ z : Int32, z = a7 + 1 := ⟨_, rfl⟩
        have hw := hw y251 e251
        refine lv_iinc (v := y251) (lv' := [(7, .int y251), (6, .int t0), (0, .ref (b0 + 367)), (1, .ref (b0 + x1)), (4, .ref (b0 + x4)), (5, .int a5)]) hx hb dX6_lays_251 hl (k := 5) rfl (by rw [e251]; rfl) (by decide) rfl (fun ls hl => ?_)
        refine lv_goto (tgt := 186) hx hb dX6_lays_254 (by decide) ?_
        exact ih186 S a5 t0 y251  _ _ _ hw hP hF hS (lv_sub hl [2, 3, 4, 5, 1, 0] rfl)
      intro S a5 a6 a7  H locs ls hw hP hF hS hl
      rw [wp_X6_lays_186] at hw
      refine lv_iload hx hb dX6_lays_186 (lv_at hl 5 rfl) ?_
      refine lv_iload hx hb dX6_lays_188 (lv_at hl 3 rfl) ?_
      refine lv_icmp_gt (x := a7) (y := a5) (tgt := 257) hx hb dX6_lays_190 (by decide) (fun c190 => ?_) (fun c190 => ?_)
      · rw [if_pos c190] at hw
        refine lv_iconst (v := 1) hx hb dX6_lays_257 (by decide) ?_
        exact q_zret (v := true) hx hb hr hP hF hS hw dX6_lays_258 hlocks
      · rw [if_neg c190] at hw
        refine lv_aload hx hb dX6_lays_193 (lv_at hl 2 rfl) ?_
        refine lv_iload hx hb dX6_lays_195 (lv_at hl 5 rfl) ?_
        refine lv_bipush (v := 10) hx hb dX6_lays_197 (by decide) ?_
        refine lv_aload_n hx hb dX6_lays_199 rfl (lv_at hl 1 rfl) ?_
        refine lv_iconst (v := 2) hx hb dX6_lays_200 (by decide) ?_
        refine lv_iload hx hb dX6_lays_201 (lv_at hl 5 rfl) ?_
        refine lv_iadd hx hb dX6_lays_203 ?_
        obtain ⟨h204, hw⟩ := hw
        refine q_iald (k := x1) (n := 26) (i := (2 + a7)) hx hb hK hP (kd_N hk1 (by decide)) hk1 hn1 h204 dX6_lays_204 ?_
        refine lv_imul hx hb dX6_lays_205 ?_
        refine lv_iload hx hb dX6_lays_206 (lv_at hl 4 rfl) ?_
        refine lv_iadd hx hb dX6_lays_208 ?_
        obtain ⟨h209, hw⟩ := hw
        refine q_iast (k := x4) (n := 10) (i := a7) (x := ((10 * (gI S x1 ((2 + a7).toNatClampNeg))) + a6)) hx hb hK hP hS (kd_N hk4 (by decide)) hk4 hn4 h209 dX6_lays_209 (fun H locs hz hP hS => ?_)
        have hF : Fx (sI S x4 (a7.toNatClampNeg) ((10 * (gI S x1 ((2 + a7).toNatClampNeg))) + a6)) := Fx.sI hF _ _ _
        generalize eS209 : sI S x4 (a7.toNatClampNeg) ((10 * (gI S x1 ((2 + a7).toNatClampNeg))) + a6) = S209 at hP hF
        have hw := hw S209 eS209.symm
        refine lv_aload hx hb dX6_lays_210 (lv_at hl 2 rfl) ?_
        refine lv_bipush (v := 8) hx hb dX6_lays_212 (by decide) ?_
        refine lv_dup2_11 hx hb dX6_lays_214 rfl rfl ?_
        obtain ⟨h215, hw⟩ := hw
        refine q_iald (k := x4) (n := 10) (i := 8) hx hb hK hP (kd_N hk4 (by decide)) hk4 hn4 h215 dX6_lays_215 ?_
        refine lv_aload_n hx hb dX6_lays_216 rfl (lv_at hl 0 rfl) ?_
        refine gf_6_7 (k := 367) hx hb hts (by decide +kernel) hown hK hP (by decide) (kk_367) (q := 371) (hF.1 367 7 371 ff_367_7) (hts (.fieldLink RX6 27 "OpticmeshModel" "lengths" "[I") (by decide +kernel)) dX6_lays_217 ?_
        refine lv_aload_n hx hb dX6_lays_220 rfl (lv_at hl 1 rfl) ?_
        refine lv_iconst (v := 2) hx hb dX6_lays_221 (by decide) ?_
        refine lv_iload hx hb dX6_lays_222 (lv_at hl 5 rfl) ?_
        refine lv_iadd hx hb dX6_lays_224 ?_
        obtain ⟨h225, hw⟩ := hw
        refine q_iald (k := x1) (n := 26) (i := (2 + a7)) hx hb hK hP (kd_N hk1 (by decide)) hk1 hn1 h225 dX6_lays_225 ?_
        obtain ⟨h226, hw⟩ := hw
        refine q_iald (k := 371) (n := 14) (i := (gI S209 x1 ((2 + a7).toNatClampNeg))) hx hb hK hP (by decide) (kk_371) (ll_371) h226 dX6_lays_226 ?_
        refine lv_iadd hx hb dX6_lays_227 ?_
        obtain ⟨h228, hw⟩ := hw
        refine q_iast (k := x4) (n := 10) (i := 8) (x := ((gI S209 x4 ((8 : Int32).toNatClampNeg)) + (gI S209 371 ((gI S209 x1 ((2 + a7).toNatClampNeg)).toNatClampNeg)))) hx hb hK hP hS (kd_N hk4 (by decide)) hk4 hn4 h228 dX6_lays_228 (fun H locs hz hP hS => ?_)
        have hF : Fx (sI S209 x4 ((8 : Int32).toNatClampNeg) ((gI S209 x4 ((8 : Int32).toNatClampNeg)) + (gI S209 371 ((gI S209 x1 ((2 + a7).toNatClampNeg)).toNatClampNeg)))) := Fx.sI hF _ _ _
        generalize eS228 : sI S209 x4 ((8 : Int32).toNatClampNeg) ((gI S209 x4 ((8 : Int32).toNatClampNeg)) + (gI S209 371 ((gI S209 x1 ((2 + a7).toNatClampNeg)).toNatClampNeg))) = S228 at hP hF
        have hw := hw S228 eS228.symm
        refine lv_iload hx hb dX6_lays_229 (lv_at hl 5 rfl) ?_
        refine lv_iload hx hb dX6_lays_231 (lv_at hl 3 rfl) ?_
        refine lv_icmp_ge (x := a7) (y := a5) (tgt := 248) hx hb dX6_lays_233 (by decide) (fun c233 => ?_) (fun c233 => ?_)
        · rw [if_pos c233] at hw
          refine lv_iconst (v := 0) hx hb dX6_lays_248 (by decide) ?_
          exact j249 S228 a5 a7 0  _ _ _ hw hP hF hS (lv_sub hl [0, 1, 2, 3, 5] rfl)
        · rw [if_neg c233] at hw
          refine lv_aload_n hx hb dX6_lays_236 rfl (lv_at hl 0 rfl) ?_
          refine lv_aload_n hx hb dX6_lays_237 rfl (lv_at hl 1 rfl) ?_
          refine lv_iload hx hb dX6_lays_238 (lv_at hl 5 rfl) ?_
          refine lv_iload hx hb dX6_lays_240 (lv_at hl 4 rfl) ?_
          refine q_call (va_runV (As := [.ref (b0 + x1), .int a7, .int a6]) (rest := []) ⟨hx, hb, hml, hown, hts⟩ (c_X6_follows l D cy b0 S228 x1 a7 a6 hk1 hn1 _ hw) (cwV 3 hts gX6_lays_X6_follows rfl rfl rfl (by decide +kernel) ⟨(Nat.le_of_ble_eq_true rfl), (Nat.le_of_ble_eq_true rfl)⟩) (q_pV hW hP hF hS (k := 367) (ci := 6) (by decide) (cell_6 (kk_367)) rfl [.ref (b0 + x1), .int a7, .int a6]) rfl rfl hl.1 rfl (lv_room (Nat.le_of_ble_eq_true rfl)) dX6_lays_242 ⟨(Nat.le_of_ble_eq_true rfl), (Nat.le_of_ble_eq_true rfl)⟩) hS (fun v242 S242 t242 H locs hh hp hB hz hk9 hS => ?_)
          obtain ⟨r242, rfl, hw⟩ := hp
          have hP : HP D cy b0 NALL S242 H := by rw [← hh]; exact hB.1
          have hF := hB.2
          try dsimp only at hw
          refine W.eq (g2 := F0 m 245 ls [.int r242]) rfl ?_
          refine lv_goto (tgt := 249) hx hb dX6_lays_245 (by decide) ?_
          exact j249 S242 a5 a7 r242  _ _ _ hw hP hF hS (lv_sub hl [0, 1, 2, 3, 5] rfl)
  have j141 : ∀ (S : St) (a5 : Int32) (a6 : Int32), ∀ (H : Heap) (locs : List Loc) (ls : Array Slot), wp_X6_lays_141 x1 x2 x3 x4 P S a5 a6 → HP D cy b0 NALL S H → Fx S → va_S (AA b0) s.heap H locs → lv_has ls 9 [(0, .ref (b0 + 367)), (1, .ref (b0 + x1)), (4, .ref (b0 + x4)), (5, .int a5), (6, .int a6)] → W p l e rm_X6_lays s m args below meth c H locs 0 0 (MQ below (QC (Pz P) (Wb D cy b0 NALL) b0) args s 0 0 (AA b0)) (F0 m 141 ls []) := by
    intro S a5 a6  H locs ls hw hP hF hS hl
    unfold wp_X6_lays_141 at hw
    refine lv_aload_n hx hb dX6_lays_141 rfl (lv_at hl 0 rfl) ?_
    refine gf_6_24 (k := 367) hx hb hts (by decide +kernel) hown hK hP (by decide) (kk_367) (q := 386) (hF.1 367 24 386 ff_367_24) (hts (.fieldLink RX6 72 "OpticmeshModel" "costs" "[I") (by decide +kernel)) dX6_lays_142 ?_
    refine lv_iload hx hb dX6_lays_145 (lv_at hl 4 rfl) ?_
    obtain ⟨h147, hw⟩ := hw
    refine q_iald (k := 386) (n := 56) (i := a6) hx hb hK hP (by decide) (kk_386) (ll_386) h147 dX6_lays_147 ?_
    refine lv_sipush (v := 1000) hx hb dX6_lays_148 (by decide) ?_
    refine lv_icmp_lt (x := (gI S 386 (a6.toNatClampNeg))) (y := 1000) (tgt := 156) hx hb dX6_lays_151 (by decide) (fun c151 => ?_) (fun c151 => ?_)
    · rw [if_pos c151] at hw
      refine lv_aload hx hb dX6_lays_156 (lv_at hl 2 rfl) ?_
      refine lv_bipush (v := 7) hx hb dX6_lays_158 (by decide) ?_
      refine lv_iload hx hb dX6_lays_160 (lv_at hl 3 rfl) ?_
      refine lv_iconst (v := 1) hx hb dX6_lays_162 (by decide) ?_
      refine lv_iadd hx hb dX6_lays_163 ?_
      obtain ⟨h164, hw⟩ := hw
      refine q_iast (k := x4) (n := 10) (i := 7) (x := (a5 + 1)) hx hb hK hP hS (kd_N hk4 (by decide)) hk4 hn4 h164 dX6_lays_164 (fun H locs hz hP hS => ?_)
      have hF : Fx (sI S x4 ((7 : Int32).toNatClampNeg) (a5 + 1)) := Fx.sI hF _ _ _
      generalize eS164 : sI S x4 ((7 : Int32).toNatClampNeg) (a5 + 1) = S164 at hP hF
      have hw := hw S164 eS164.symm
      refine lv_aload hx hb dX6_lays_165 (lv_at hl 2 rfl) ?_
      refine lv_bipush (v := 8) hx hb dX6_lays_167 (by decide) ?_
      refine lv_iconst (v := 0) hx hb dX6_lays_169 (by decide) ?_
      obtain ⟨h170, hw⟩ := hw
      refine q_iast (k := x4) (n := 10) (i := 8) (x := 0) hx hb hK hP hS (kd_N hk4 (by decide)) hk4 hn4 h170 dX6_lays_170 (fun H locs hz hP hS => ?_)
      have hF : Fx (sI S164 x4 ((8 : Int32).toNatClampNeg) 0) := Fx.sI hF _ _ _
      generalize eS170 : sI S164 x4 ((8 : Int32).toNatClampNeg) 0 = S170 at hP hF
      have hw := hw S170 eS170.symm
      refine lv_aload hx hb dX6_lays_171 (lv_at hl 2 rfl) ?_
      refine lv_bipush (v := 9) hx hb dX6_lays_173 (by decide) ?_
      refine lv_aload_n hx hb dX6_lays_175 rfl (lv_at hl 0 rfl) ?_
      refine gf_6_24 (k := 367) hx hb hts (by decide +kernel) hown hK hP (by decide) (kk_367) (q := 386) (hF.1 367 24 386 ff_367_24) (hts (.fieldLink RX6 72 "OpticmeshModel" "costs" "[I") (by decide +kernel)) dX6_lays_176 ?_
      refine lv_iload hx hb dX6_lays_179 (lv_at hl 4 rfl) ?_
      obtain ⟨h181, hw⟩ := hw
      refine q_iald (k := 386) (n := 56) (i := a6) hx hb hK hP (by decide) (kk_386) (ll_386) h181 dX6_lays_181 ?_
      obtain ⟨h182, hw⟩ := hw
      refine q_iast (k := x4) (n := 10) (i := 9) (x := (gI S170 386 (a6.toNatClampNeg))) hx hb hK hP hS (kd_N hk4 (by decide)) hk4 hn4 h182 dX6_lays_182 (fun H locs hz hP hS => ?_)
      have hF : Fx (sI S170 x4 ((9 : Int32).toNatClampNeg) (gI S170 386 (a6.toNatClampNeg))) := Fx.sI hF _ _ _
      generalize eS182 : sI S170 x4 ((9 : Int32).toNatClampNeg) (gI S170 386 (a6.toNatClampNeg)) = S182 at hP hF
      have hw := hw S182 eS182.symm
      refine lv_iconst (v := 0) hx hb dX6_lays_183 (by decide) ?_
      refine lv_istore (lv' := [(7, .int 0), (0, .ref (b0 + 367)), (1, .ref (b0 + x1)), (4, .ref (b0 + x4)), (5, .int a5), (6, .int a6)]) hx hb dX6_lays_184 hl (by decide) rfl (fun ls hl => ?_)
      obtain ⟨n186, hw⟩ := hw
      exact j186 n186 S182 a5 a6 0  _ _ _ hw hP hF hS (lv_sub hl [1, 2, 3, 4, 5, 0] rfl)
    · rw [if_neg c151] at hw
      refine lv_iconst (v := 0) hx hb dX6_lays_154 (by decide) ?_
      exact q_zret (v := false) hx hb hr hP hF hS hw dX6_lays_155 hlocks
  have j100 : ∀ (n100 : Nat), ∀ (S : St) (a5 : Int32) (a6 : Int32) (a7 : Int32), ∀ (H : Heap) (locs : List Loc) (ls : Array Slot), wp_X6_lays_100 x1 x2 x3 x4 P n100 S a5 a6 a7 → HP D cy b0 NALL S H → Fx S → va_S (AA b0) s.heap H locs → lv_has ls 9 [(0, .ref (b0 + 367)), (1, .ref (b0 + x1)), (4, .ref (b0 + x4)), (5, .int a5), (6, .int a6), (7, .int a7)] → W p l e rm_X6_lays s m args below meth c H locs 0 0 (MQ below (QC (Pz P) (Wb D cy b0 NALL) b0) args s 0 0 (AA b0)) (F0 m 100 ls []) := by
    intro n100
    induction n100 with
    | zero => intro S a5 a6 a7  H locs ls hw _ _ _ _; exact False.elim hw
    | succ n100 ih100 =>
      have j133 : ∀ (S : St) (a5 : Int32) (a7 : Int32) (t0 : Int32), ∀ (H : Heap) (locs : List Loc) (ls : Array Slot), wp_X6_lays_133 x1 x2 x3 x4 P (fun S a5 a6 a7 => wp_X6_lays_100 x1 x2 x3 x4 P n100 S a5 a6 a7) S a5 a7 t0 → HP D cy b0 NALL S H → Fx S → va_S (AA b0) s.heap H locs → lv_has ls 9 [(0, .ref (b0 + 367)), (1, .ref (b0 + x1)), (4, .ref (b0 + x4)), (5, .int a5), (7, .int a7)] → W p l e rm_X6_lays s m args below meth c H locs 0 0 (MQ below (QC (Pz P) (Wb D cy b0 NALL) b0) args s 0 0 (AA b0)) (F0 m 133 ls [.int t0]) := by
        intro S a5 a7 t0  H locs ls hw hP hF hS hl
        unfold wp_X6_lays_133 at hw
        refine lv_istore (lv' := [(6, .int t0), (0, .ref (b0 + 367)), (1, .ref (b0 + x1)), (4, .ref (b0 + x4)), (5, .int a5), (7, .int a7)]) hx hb dX6_lays_133 hl (by decide) rfl (fun ls hl => ?_)
        obtain ⟨y135, e135⟩ : ∃ z : Int32, z = a7 + 1 := ⟨_, rfl⟩
        have hw := hw y135 e135
        refine lv_iinc (v := y135) (lv' := [(7, .int y135), (6, .int t0), (0, .ref (b0 + 367)), (1, .ref (b0 + x1)), (4, .ref (b0 + x4)), (5, .int a5)]) hx hb dX6_lays_135 hl (k := 5) rfl (by rw [e135]; rfl) (by decide) rfl (fun ls hl => ?_)
        refine lv_goto (tgt := 100) hx hb dX6_lays_138 (by decide) ?_
        exact ih100 S a5 t0 y135  _ _ _ hw hP hF hS (lv_sub hl [2, 3, 4, 5, 1, 0] rfl)
      intro S a5 a6 a7  H locs ls hw hP hF hS hl
      rw [wp_X6_lays_100] at hw
      refine lv_iload hx hb dX6_lays_100 (lv_at hl 5 rfl) ?_
      refine lv_aload_n hx hb dX6_lays_102 rfl (lv_at hl 0 rfl) ?_
      refine gf_6_2 (k := 367) hx hb hts (by decide +kernel) hown hK hP (by decide) (kk_367) (hts (.fieldLink RX6 13 "OpticmeshModel" "wavelengths" "I") (by decide +kernel)) dX6_lays_103 ?_
      refine lv_icmp_ge (x := a7) (y := (gI S 367 2)) (tgt := 141) hx hb dX6_lays_106 (by decide) (fun c106 => ?_) (fun c106 => ?_)
      · rw [if_pos c106] at hw
        exact j141 S a5 a6  _ _ _ hw hP hF hS (lv_sub hl [0, 1, 2, 3, 4] rfl)
      · rw [if_neg c106] at hw
        refine lv_aload_n hx hb dX6_lays_109 rfl (lv_at hl 0 rfl) ?_
        refine gf_6_24 (k := 367) hx hb hts (by decide +kernel) hown hK hP (by decide) (kk_367) (q := 386) (hF.1 367 24 386 ff_367_24) (hts (.fieldLink RX6 72 "OpticmeshModel" "costs" "[I") (by decide +kernel)) dX6_lays_110 ?_
        refine lv_iload hx hb dX6_lays_113 (lv_at hl 5 rfl) ?_
        obtain ⟨h115, hw⟩ := hw
        refine q_iald (k := 386) (n := 56) (i := a7) hx hb hK hP (by decide) (kk_386) (ll_386) h115 dX6_lays_115 ?_
        refine lv_aload_n hx hb dX6_lays_116 rfl (lv_at hl 0 rfl) ?_
        refine gf_6_24 (k := 367) hx hb hts (by decide +kernel) hown hK hP (by decide) (kk_367) (q := 386) (hF.1 367 24 386 ff_367_24) (hts (.fieldLink RX6 72 "OpticmeshModel" "costs" "[I") (by decide +kernel)) dX6_lays_117 ?_
        refine lv_iload hx hb dX6_lays_120 (lv_at hl 4 rfl) ?_
        obtain ⟨h122, hw⟩ := hw
        refine q_iald (k := 386) (n := 56) (i := a6) hx hb hK hP (by decide) (kk_386) (ll_386) h122 dX6_lays_122 ?_
        refine lv_icmp_ge (x := (gI S 386 (a7.toNatClampNeg))) (y := (gI S 386 (a6.toNatClampNeg))) (tgt := 131) hx hb dX6_lays_123 (by decide) (fun c123 => ?_) (fun c123 => ?_)
        · rw [if_pos c123] at hw
          refine lv_iload hx hb dX6_lays_131 (lv_at hl 4 rfl) ?_
          exact j133 S a5 a7 a6  _ _ _ hw hP hF hS (lv_sub hl [0, 1, 2, 3, 5] rfl)
        · rw [if_neg c123] at hw
          refine lv_iload hx hb dX6_lays_126 (lv_at hl 5 rfl) ?_
          refine lv_goto (tgt := 133) hx hb dX6_lays_128 (by decide) ?_
          exact j133 S a5 a7 a7  _ _ _ hw hP hF hS (lv_sub hl [0, 1, 2, 3, 5] rfl)
  have j94 : ∀ (S : St) (a5 : Int32), ∀ (H : Heap) (locs : List Loc) (ls : Array Slot), wp_X6_lays_94 x1 x2 x3 x4 P S a5 → HP D cy b0 NALL S H → Fx S → va_S (AA b0) s.heap H locs → lv_has ls 9 [(0, .ref (b0 + 367)), (1, .ref (b0 + x1)), (4, .ref (b0 + x4)), (5, .int a5)] → W p l e rm_X6_lays s m args below meth c H locs 0 0 (MQ below (QC (Pz P) (Wb D cy b0 NALL) b0) args s 0 0 (AA b0)) (F0 m 94 ls []) := by
    intro S a5  H locs ls hw hP hF hS hl
    unfold wp_X6_lays_94 at hw
    refine lv_iconst (v := 0) hx hb dX6_lays_94 (by decide) ?_
    refine lv_istore (lv' := [(6, .int 0), (0, .ref (b0 + 367)), (1, .ref (b0 + x1)), (4, .ref (b0 + x4)), (5, .int a5)]) hx hb dX6_lays_95 hl (by decide) rfl (fun ls hl => ?_)
    refine lv_iconst (v := 1) hx hb dX6_lays_97 (by decide) ?_
    refine lv_istore (lv' := [(7, .int 1), (6, .int 0), (0, .ref (b0 + 367)), (1, .ref (b0 + x1)), (4, .ref (b0 + x4)), (5, .int a5)]) hx hb dX6_lays_98 hl (by decide) rfl (fun ls hl => ?_)
    obtain ⟨n100, hw⟩ := hw
    exact j100 n100 S a5 0 1  _ _ _ hw hP hF hS (lv_sub hl [2, 3, 4, 5, 1, 0] rfl)
  have j9 : ∀ (n9 : Nat), ∀ (S : St) (a5 : Int32) (a6 : Int32), ∀ (H : Heap) (locs : List Loc) (ls : Array Slot), wp_X6_lays_9 x1 x2 x3 x4 P n9 S a5 a6 → HP D cy b0 NALL S H → Fx S → va_S (AA b0) s.heap H locs → lv_has ls 9 [(0, .ref (b0 + 367)), (1, .ref (b0 + x1)), (2, .int x2), (3, .int x3), (4, .ref (b0 + x4)), (5, .int a5), (6, .int a6)] → W p l e rm_X6_lays s m args below meth c H locs 0 0 (MQ below (QC (Pz P) (Wb D cy b0 NALL) b0) args s 0 0 (AA b0)) (F0 m 9 ls []) := by
    intro n9
    induction n9 with
    | zero => intro S a5 a6  H locs ls hw _ _ _ _; exact False.elim hw
    | succ n9 ih9 =>
      have j88 : ∀ (S : St) (a5 : Int32) (a6 : Int32), ∀ (H : Heap) (locs : List Loc) (ls : Array Slot), wp_X6_lays_88 x1 x2 x3 x4 P (fun S a5 a6 => wp_X6_lays_9 x1 x2 x3 x4 P n9 S a5 a6) S a5 a6 → HP D cy b0 NALL S H → Fx S → va_S (AA b0) s.heap H locs → lv_has ls 9 [(0, .ref (b0 + 367)), (1, .ref (b0 + x1)), (2, .int x2), (3, .int x3), (4, .ref (b0 + x4)), (5, .int a5), (6, .int a6)] → W p l e rm_X6_lays s m args below meth c H locs 0 0 (MQ below (QC (Pz P) (Wb D cy b0 NALL) b0) args s 0 0 (AA b0)) (F0 m 88 ls []) := by
        intro S a5 a6  H locs ls hw hP hF hS hl
        unfold wp_X6_lays_88 at hw
        obtain ⟨y88, e88⟩ : ∃ z : Int32, z = a6 + (-1) := ⟨_, rfl⟩
        have hw := hw y88 e88
        refine lv_iinc (v := y88) (lv' := [(6, .int y88), (0, .ref (b0 + 367)), (1, .ref (b0 + x1)), (2, .int x2), (3, .int x3), (4, .ref (b0 + x4)), (5, .int a5)]) hx hb dX6_lays_88 hl (k := 6) rfl (by rw [e88]; rfl) (by decide) rfl (fun ls hl => ?_)
        refine lv_goto (tgt := 9) hx hb dX6_lays_91 (by decide) ?_
        exact ih9 S a5 y88  _ _ _ hw hP hF hS (lv_sub hl [1, 2, 3, 4, 5, 6, 0] rfl)
      have j32 : ∀ (n32 : Nat), ∀ (S : St) (a5 : Int32) (a6 : Int32) (a7 : Int32) (a8 : Int32), ∀ (H : Heap) (locs : List Loc) (ls : Array Slot), wp_X6_lays_32 x1 x2 x3 x4 P (fun S a5 a6 => wp_X6_lays_9 x1 x2 x3 x4 P n9 S a5 a6) n32 S a5 a6 a7 a8 → HP D cy b0 NALL S H → Fx S → va_S (AA b0) s.heap H locs → lv_has ls 9 [(0, .ref (b0 + 367)), (1, .ref (b0 + x1)), (2, .int x2), (3, .int x3), (4, .ref (b0 + x4)), (5, .int a5), (6, .int a6), (7, .int a7), (8, .int a8)] → W p l e rm_X6_lays s m args below meth c H locs 0 0 (MQ below (QC (Pz P) (Wb D cy b0 NALL) b0) args s 0 0 (AA b0)) (F0 m 32 ls []) := by
        intro n32
        induction n32 with
        | zero => intro S a5 a6 a7 a8  H locs ls hw _ _ _ _; exact False.elim hw
        | succ n32 ih32 =>
          have j81 : ∀ (S : St) (a5 : Int32) (a6 : Int32) (a7 : Int32) (a8 : Int32) (t1 : Int32) (t2 : Int32), ∀ (H : Heap) (locs : List Loc) (ls : Array Slot), wp_X6_lays_81 x1 x2 x3 x4 P (fun S a5 a6 => wp_X6_lays_9 x1 x2 x3 x4 P n9 S a5 a6) (fun S a5 a6 a7 a8 => wp_X6_lays_32 x1 x2 x3 x4 P (fun S a5 a6 => wp_X6_lays_9 x1 x2 x3 x4 P n9 S a5 a6) n32 S a5 a6 a7 a8) S a5 a6 a7 a8 t1 t2 → HP D cy b0 NALL S H → Fx S → va_S (AA b0) s.heap H locs → lv_has ls 9 [(0, .ref (b0 + 367)), (1, .ref (b0 + x1)), (2, .int x2), (3, .int x3), (4, .ref (b0 + x4)), (5, .int a5), (6, .int a6), (7, .int a7), (8, .int a8)] → W p l e rm_X6_lays s m args below meth c H locs 0 0 (MQ below (QC (Pz P) (Wb D cy b0 NALL) b0) args s 0 0 (AA b0)) (F0 m 81 ls [.int t2, .int t1, .ref (b0 + 386)]) := by
            intro S a5 a6 a7 a8 t1 t2  H locs ls hw hP hF hS hl
            unfold wp_X6_lays_81 at hw
            obtain ⟨h81, hw⟩ := hw
            refine q_iast (k := 386) (n := 56) (i := t1) (x := t2) hx hb hK hP hS (by decide) (kk_386) (ll_386) h81 dX6_lays_81 (fun H locs hz hP hS => ?_)
            have hF : Fx (sI S 386 (t1.toNatClampNeg) t2) := Fx.sI hF _ _ _
            generalize eS81 : sI S 386 (t1.toNatClampNeg) t2 = S81 at hP hF
            have hw := hw S81 eS81.symm
            obtain ⟨y82, e82⟩ : ∃ z : Int32, z = a8 + 1 := ⟨_, rfl⟩
            have hw := hw y82 e82
            refine lv_iinc (v := y82) (lv' := [(8, .int y82), (0, .ref (b0 + 367)), (1, .ref (b0 + x1)), (2, .int x2), (3, .int x3), (4, .ref (b0 + x4)), (5, .int a5), (6, .int a6), (7, .int a7)]) hx hb dX6_lays_82 hl (k := 8) rfl (by rw [e82]; rfl) (by decide) rfl (fun ls hl => ?_)
            refine lv_goto (tgt := 32) hx hb dX6_lays_85 (by decide) ?_
            exact ih32 S81 a5 a6 a7 y82  _ _ _ hw hP hF hS (lv_sub hl [1, 2, 3, 4, 5, 6, 7, 8, 0] rfl)
          intro S a5 a6 a7 a8  H locs ls hw hP hF hS hl
          rw [wp_X6_lays_32] at hw
          refine lv_iload hx hb dX6_lays_32 (lv_at hl 8 rfl) ?_
          refine lv_aload_n hx hb dX6_lays_34 rfl (lv_at hl 0 rfl) ?_
          refine gf_6_2 (k := 367) hx hb hts (by decide +kernel) hown hK hP (by decide) (kk_367) (hts (.fieldLink RX6 13 "OpticmeshModel" "wavelengths" "I") (by decide +kernel)) dX6_lays_35 ?_
          refine lv_icmp_ge (x := a8) (y := (gI S 367 2)) (tgt := 88) hx hb dX6_lays_38 (by decide) (fun c38 => ?_) (fun c38 => ?_)
          · rw [if_pos c38] at hw
            exact j88 S a5 a6  _ _ _ hw hP hF hS (lv_sub hl [0, 1, 2, 3, 4, 5, 6] rfl)
          · rw [if_neg c38] at hw
            refine lv_aload_n hx hb dX6_lays_41 rfl (lv_at hl 0 rfl) ?_
            refine gf_6_24 (k := 367) hx hb hts (by decide +kernel) hown hK hP (by decide) (kk_367) (q := 386) (hF.1 367 24 386 ff_367_24) (hts (.fieldLink RX6 72 "OpticmeshModel" "costs" "[I") (by decide +kernel)) dX6_lays_42 ?_
            refine lv_bipush (v := 8) hx hb dX6_lays_45 (by decide) ?_
            refine lv_iload hx hb dX6_lays_47 (lv_at hl 6 rfl) ?_
            refine lv_imul hx hb dX6_lays_49 ?_
            refine lv_iload hx hb dX6_lays_50 (lv_at hl 8 rfl) ?_
            refine lv_iadd hx hb dX6_lays_52 ?_
            refine lv_iload hx hb dX6_lays_53 (lv_at hl 7 rfl) ?_
            refine lv_iload hx hb dX6_lays_55 (lv_at hl 8 rfl) ?_
            refine lv_ishr hx hb dX6_lays_57 ?_
            refine lv_iconst (v := 1) hx hb dX6_lays_58 (by decide) ?_
            refine lv_iand hx hb dX6_lays_59 ?_
            refine lv_iconst (v := 1) hx hb dX6_lays_60 (by decide) ?_
            refine lv_icmp_ne (x := ((a7 >>> (a8 &&& 31)) &&& 1)) (y := 1) (tgt := 78) hx hb dX6_lays_61 (by decide) (fun c61 => ?_) (fun c61 => ?_)
            · rw [if_neg c61] at hw
              refine lv_sipush (v := 1000) hx hb dX6_lays_78 (by decide) ?_
              exact j81 S a5 a6 a7 a8 ((8 * a6) + a8) 1000  _ _ _ hw hP hF hS (lv_sub hl [0, 1, 2, 3, 4, 5, 6, 7, 8] rfl)
            · rw [if_pos c61] at hw
              refine lv_aload_n hx hb dX6_lays_64 rfl (lv_at hl 0 rfl) ?_
              refine lv_aload_n hx hb dX6_lays_65 rfl (lv_at hl 1 rfl) ?_
              refine lv_iload hx hb dX6_lays_66 (lv_at hl 6 rfl) ?_
              refine lv_iload hx hb dX6_lays_68 (lv_at hl 5 rfl) ?_
              refine lv_iload hx hb dX6_lays_70 (lv_at hl 8 rfl) ?_
              refine q_call (va_runV (As := [.ref (b0 + x1), .int a6, .int a5, .int a8]) (rest := [.int ((8 * a6) + a8), .ref (b0 + 386)]) ⟨hx, hb, hml, hown, hts⟩ (c_X6_cost l D cy b0 S x1 a6 a5 a8 hk1 hn1 _ hw) (cwV 4 hts gX6_lays_X6_cost rfl rfl rfl (by decide +kernel) ⟨(Nat.le_of_ble_eq_true rfl), (Nat.le_of_ble_eq_true rfl)⟩) (q_pV hW hP hF hS (k := 367) (ci := 6) (by decide) (cell_6 (kk_367)) rfl [.ref (b0 + x1), .int a6, .int a5, .int a8]) rfl rfl hl.1 rfl (lv_room (Nat.le_of_ble_eq_true rfl)) dX6_lays_72 ⟨(Nat.le_of_ble_eq_true rfl), (Nat.le_of_ble_eq_true rfl)⟩) hS (fun v72 S72 t72 H locs hh hp hB hz hk9 hS => ?_)
              obtain ⟨r72, rfl, hw⟩ := hp
              have hP : HP D cy b0 NALL S72 H := by rw [← hh]; exact hB.1
              have hF := hB.2
              try dsimp only at hw
              refine W.eq (g2 := F0 m 75 ls [.int r72, .int ((8 * a6) + a8), .ref (b0 + 386)]) rfl ?_
              refine lv_goto (tgt := 81) hx hb dX6_lays_75 (by decide) ?_
              exact j81 S72 a5 a6 a7 a8 ((8 * a6) + a8) r72  _ _ _ hw hP hF hS (lv_sub hl [0, 1, 2, 3, 4, 5, 6, 7, 8] rfl)
      intro S a5 a6  H locs ls hw hP hF hS hl
      rw [wp_X6_lays_9] at hw
      refine lv_iload hx hb dX6_lays_9 (lv_at hl 6 rfl) ?_
      refine lv_if_lt (x := a6) (tgt := 94) hx hb dX6_lays_11 (by decide) (fun c11 => ?_) (fun c11 => ?_)
      · rw [if_pos c11] at hw
        exact j94 S a5  _ _ _ hw hP hF hS (lv_sub hl [0, 1, 4, 5] rfl)
      · rw [if_neg c11] at hw
        refine lv_aload_n hx hb dX6_lays_14 rfl (lv_at hl 0 rfl) ?_
        refine lv_aload_n hx hb dX6_lays_15 rfl (lv_at hl 1 rfl) ?_
        refine lv_iconst (v := 2) hx hb dX6_lays_16 (by decide) ?_
        refine lv_iload hx hb dX6_lays_17 (lv_at hl 6 rfl) ?_
        refine lv_iadd hx hb dX6_lays_19 ?_
        obtain ⟨h20, hw⟩ := hw
        refine q_iald (k := x1) (n := 26) (i := (2 + a6)) hx hb hK hP (kd_N hk1 (by decide)) hk1 hn1 h20 dX6_lays_20 ?_
        refine lv_iload_n hx hb dX6_lays_21 rfl (lv_at hl 2 rfl) ?_
        refine q_call (va_runV (As := [.int (gI S x1 ((2 + a6).toNatClampNeg)), .int x2]) (rest := []) ⟨hx, hb, hml, hown, hts⟩ (c_X6_free l D cy b0 S (gI S x1 ((2 + a6).toNatClampNeg)) x2 _ hw) (cwV 2 hts gX6_lays_X6_free rfl rfl rfl (by decide +kernel) ⟨(Nat.le_of_ble_eq_true rfl), (Nat.le_of_ble_eq_true rfl)⟩) (q_pV hW hP hF hS (k := 367) (ci := 6) (by decide) (cell_6 (kk_367)) rfl [.int (gI S x1 ((2 + a6).toNatClampNeg)), .int x2]) rfl rfl hl.1 rfl (lv_room (Nat.le_of_ble_eq_true rfl)) dX6_lays_22 ⟨(Nat.le_of_ble_eq_true rfl), (Nat.le_of_ble_eq_true rfl)⟩) hS (fun v22 S22 t22 H locs hh hp hB hz hk9 hS => ?_)
        obtain ⟨r22, rfl, hw⟩ := hp
        have hP : HP D cy b0 NALL S22 H := by rw [← hh]; exact hB.1
        have hF := hB.2
        try dsimp only at hw
        refine W.eq (g2 := F0 m 25 ls [.int r22]) rfl ?_
        refine lv_iload_n hx hb dX6_lays_25 rfl (lv_at hl 3 rfl) ?_
        refine lv_iand hx hb dX6_lays_26 ?_
        refine lv_topi (fun y27 e27 => ?_)
        have hw := hw y27 e27
        refine lv_istore (lv' := [(7, .int y27), (0, .ref (b0 + 367)), (1, .ref (b0 + x1)), (2, .int x2), (3, .int x3), (4, .ref (b0 + x4)), (5, .int a5), (6, .int a6)]) hx hb dX6_lays_27 hl (by decide) rfl (fun ls hl => ?_)
        refine lv_iconst (v := 0) hx hb dX6_lays_29 (by decide) ?_
        refine lv_istore (lv' := [(8, .int 0), (7, .int y27), (0, .ref (b0 + 367)), (1, .ref (b0 + x1)), (2, .int x2), (3, .int x3), (4, .ref (b0 + x4)), (5, .int a5), (6, .int a6)]) hx hb dX6_lays_30 hl (by decide) rfl (fun ls hl => ?_)
        obtain ⟨n32, hw⟩ := hw
        exact j32 n32 S22 a5 a6 y27 0  _ _ _ hw hP hF hS (lv_sub hl [2, 3, 4, 5, 6, 7, 8, 1, 0] rfl)
  unfold wp_X6_lays at hw
  refine lv_aload_n hx hb dX6_lays_0 rfl (lv_at hl 1 rfl) ?_
  refine lv_iconst (v := 0) hx hb dX6_lays_1 (by decide) ?_
  obtain ⟨h2, hw⟩ := hw
  refine q_iald (k := x1) (n := 26) (i := 0) hx hb hK hP (kd_N hk1 (by decide)) hk1 hn1 h2 dX6_lays_2 ?_
  refine lv_topi (fun y3 e3 => ?_)
  have hw := hw y3 e3
  refine lv_istore (lv' := [(5, .int y3), (0, .ref (b0 + 367)), (1, .ref (b0 + x1)), (2, .int x2), (3, .int x3), (4, .ref (b0 + x4))]) hx hb dX6_lays_3 hl (by decide) rfl (fun ls hl => ?_)
  refine lv_iload hx hb dX6_lays_5 (lv_at hl 0 rfl) ?_
  refine lv_istore (lv' := [(6, .int y3), (5, .int y3), (0, .ref (b0 + 367)), (1, .ref (b0 + x1)), (2, .int x2), (3, .int x3), (4, .ref (b0 + x4))]) hx hb dX6_lays_7 hl (by decide) rfl (fun ls hl => ?_)
  obtain ⟨n9, hw⟩ := hw
  exact j9 n9 S y3 y3  _ _ _ hw hP hF hS (lv_sub hl [2, 3, 4, 5, 6, 1, 0] rfl)
set_option maxHeartbeats 4000000 in
set_option maxRecDepth 100000 in
theorem c_X6_isAhead (l : Launch) (D : va_G) (cy : Nat → ClassId) (b0 : Nat) (S : St) (x1 : Nat) (x2 : Nat) (hk1 : kd x1 = 7) (hn1 : ln x1 = 10) (hk2 : kd x2 = 7) (hn2 : ln x2 = 10) (P : Bool → St → Prop) (hw : wp_X6_isAhead S x1 x2 P) : Met l yX6_isAhead wsX6_isAhead rm_X6_isAhead (va_Pc [.ref (b0 + x1), .ref (b0 + x2)] (Wd D cy b0 NALL S)) (QC (Pz P) (Wb D cy b0 NALL) b0) 0 0 (AA b0) := by
  refine Met.ofW (cc := cX6_isAhead) (maxL := 3) (ret := (some .boolean)) (by decide) rfl ?_
  intro p e s m args below meth c s₁ B hml hv
  obtain ⟨hargs, hW, hP, hF⟩ := hv
  have hx := B.exec
  have hb := B.bytes
  have hr := B.returns
  have hts := atoms_spec (ws := wsX6_isAhead) B.pre
  have hown : s.vm.findClass RX6 = some m.cls := findClass_of_methodNamed B.named
  have hlocks := B.notSynchronized
  have hK := hW.1
  have hS : va_S (AA b0) s.heap s.heap [] := va_S.rf
  have hE : entryFrame m args 3 = F0 m 0 ((lg_sl [.ref (b0 + x1), .ref (b0 + x2)] ++ List.replicate (3 - (lg_sl [.ref (b0 + x1), .ref (b0 + x2)]).length) Slot.unset).toArray) [] := by rw [hargs]; exact lg_entry_eq m _ _
  rw [hE]
  have hl := lv_entry [.ref (b0 + x1), .ref (b0 + x2)] (n := 3) (Nat.le_of_ble_eq_true rfl)
  generalize (lg_sl [.ref (b0 + x1), .ref (b0 + x2)] ++ List.replicate (3 - (lg_sl [.ref (b0 + x1), .ref (b0 + x2)]).length) Slot.unset).toArray = ls at hl ⊢
  have hl : lv_has ls 3 [(0, .ref (b0 + x1)), (1, .ref (b0 + x2))] := hl
  have j18 : ∀ (S : St) (a2 : Int32), ∀ (H : Heap) (locs : List Loc) (ls : Array Slot), wp_X6_isAhead_18 x1 x2 P S a2 → HP D cy b0 NALL S H → Fx S → va_S (AA b0) s.heap H locs → lv_has ls 3 [(0, .ref (b0 + x1)), (1, .ref (b0 + x2)), (2, .int a2)] → W p l e rm_X6_isAhead s m args below meth c H locs 0 0 (MQ below (QC (Pz P) (Wb D cy b0 NALL) b0) args s 0 0 (AA b0)) (F0 m 18 ls []) := by
    intro S a2  H locs ls hw hP hF hS hl
    unfold wp_X6_isAhead_18 at hw
    refine lv_aload_n hx hb dX6_isAhead_18 rfl (lv_at hl 0 rfl) ?_
    refine lv_iload_n hx hb dX6_isAhead_19 rfl (lv_at hl 2 rfl) ?_
    obtain ⟨h20, hw⟩ := hw
    refine q_iald (k := x1) (n := 10) (i := a2) hx hb hK hP (kd_N hk1 (by decide)) hk1 hn1 h20 dX6_isAhead_20 ?_
    refine lv_aload_n hx hb dX6_isAhead_21 rfl (lv_at hl 1 rfl) ?_
    refine lv_iload_n hx hb dX6_isAhead_22 rfl (lv_at hl 2 rfl) ?_
    obtain ⟨h23, hw⟩ := hw
    refine q_iald (k := x2) (n := 10) (i := a2) hx hb hK hP (kd_N hk2 (by decide)) hk2 hn2 h23 dX6_isAhead_23 ?_
    refine lv_icmp_ge (x := (gI S x1 (a2.toNatClampNeg))) (y := (gI S x2 (a2.toNatClampNeg))) (tgt := 31) hx hb dX6_isAhead_24 (by decide) (fun c24 => ?_) (fun c24 => ?_)
    · rw [if_pos c24] at hw
      refine lv_iconst (v := 0) hx hb dX6_isAhead_31 (by decide) ?_
      exact q_zret (v := false) hx hb hr hP hF hS hw dX6_isAhead_32 hlocks
    · rw [if_neg c24] at hw
      refine lv_iconst (v := 1) hx hb dX6_isAhead_27 (by decide) ?_
      refine lv_goto (tgt := 32) hx hb dX6_isAhead_28 (by decide) ?_
      exact q_zret (v := true) hx hb hr hP hF hS hw dX6_isAhead_32 hlocks
  have j94 : ∀ (S : St) (a2 : Int32), ∀ (H : Heap) (locs : List Loc) (ls : Array Slot), wp_X6_isAhead_94 x1 x2 P S a2 → HP D cy b0 NALL S H → Fx S → va_S (AA b0) s.heap H locs → lv_has ls 3 [(0, .ref (b0 + x1)), (1, .ref (b0 + x2)), (2, .int a2)] → W p l e rm_X6_isAhead s m args below meth c H locs 0 0 (MQ below (QC (Pz P) (Wb D cy b0 NALL) b0) args s 0 0 (AA b0)) (F0 m 94 ls []) := by
    intro S a2  H locs ls hw hP hF hS hl
    unfold wp_X6_isAhead_94 at hw
    refine lv_aload_n hx hb dX6_isAhead_94 rfl (lv_at hl 0 rfl) ?_
    refine lv_iload_n hx hb dX6_isAhead_95 rfl (lv_at hl 2 rfl) ?_
    obtain ⟨h96, hw⟩ := hw
    refine q_iald (k := x1) (n := 10) (i := a2) hx hb hK hP (kd_N hk1 (by decide)) hk1 hn1 h96 dX6_isAhead_96 ?_
    refine lv_aload_n hx hb dX6_isAhead_97 rfl (lv_at hl 1 rfl) ?_
    refine lv_iload_n hx hb dX6_isAhead_98 rfl (lv_at hl 2 rfl) ?_
    obtain ⟨h99, hw⟩ := hw
    refine q_iald (k := x2) (n := 10) (i := a2) hx hb hK hP (kd_N hk2 (by decide)) hk2 hn2 h99 dX6_isAhead_99 ?_
    refine lv_icmp_ge (x := (gI S x1 (a2.toNatClampNeg))) (y := (gI S x2 (a2.toNatClampNeg))) (tgt := 107) hx hb dX6_isAhead_100 (by decide) (fun c100 => ?_) (fun c100 => ?_)
    · rw [if_pos c100] at hw
      refine lv_iconst (v := 0) hx hb dX6_isAhead_107 (by decide) ?_
      exact q_zret (v := false) hx hb hr hP hF hS hw dX6_isAhead_108 hlocks
    · rw [if_neg c100] at hw
      refine lv_iconst (v := 1) hx hb dX6_isAhead_103 (by decide) ?_
      refine lv_goto (tgt := 108) hx hb dX6_isAhead_104 (by decide) ?_
      exact q_zret (v := true) hx hb hr hP hF hS hw dX6_isAhead_108 hlocks
  have j69 : ∀ (n69 : Nat), ∀ (S : St) (a2 : Int32), ∀ (H : Heap) (locs : List Loc) (ls : Array Slot), wp_X6_isAhead_69 x1 x2 P n69 S a2 → HP D cy b0 NALL S H → Fx S → va_S (AA b0) s.heap H locs → lv_has ls 3 [(0, .ref (b0 + x1)), (1, .ref (b0 + x2)), (2, .int a2)] → W p l e rm_X6_isAhead s m args below meth c H locs 0 0 (MQ below (QC (Pz P) (Wb D cy b0 NALL) b0) args s 0 0 (AA b0)) (F0 m 69 ls []) := by
    intro n69
    induction n69 with
    | zero => intro S a2  H locs ls hw _ _ _ _; exact False.elim hw
    | succ n69 ih69 =>
      intro S a2  H locs ls hw hP hF hS hl
      rw [wp_X6_isAhead_69] at hw
      refine lv_iload_n hx hb dX6_isAhead_69 rfl (lv_at hl 2 rfl) ?_
      refine lv_aload_n hx hb dX6_isAhead_70 rfl (lv_at hl 0 rfl) ?_
      refine lv_bipush (v := 7) hx hb dX6_isAhead_71 (by decide) ?_
      obtain ⟨h73, hw⟩ := hw
      refine q_iald (k := x1) (n := 10) (i := 7) hx hb hK hP (kd_N hk1 (by decide)) hk1 hn1 h73 dX6_isAhead_73 ?_
      refine lv_iconst (v := 1) hx hb dX6_isAhead_74 (by decide) ?_
      refine lv_isub hx hb dX6_isAhead_75 ?_
      refine lv_icmp_ge (x := a2) (y := ((gI S x1 ((7 : Int32).toNatClampNeg)) - 1)) (tgt := 94) hx hb dX6_isAhead_76 (by decide) (fun c76 => ?_) (fun c76 => ?_)
      · rw [if_pos c76] at hw
        exact j94 S a2  _ _ _ hw hP hF hS (lv_sub hl [0, 1, 2] rfl)
      · rw [if_neg c76] at hw
        refine lv_aload_n hx hb dX6_isAhead_79 rfl (lv_at hl 0 rfl) ?_
        refine lv_iload_n hx hb dX6_isAhead_80 rfl (lv_at hl 2 rfl) ?_
        obtain ⟨h81, hw⟩ := hw
        refine q_iald (k := x1) (n := 10) (i := a2) hx hb hK hP (kd_N hk1 (by decide)) hk1 hn1 h81 dX6_isAhead_81 ?_
        refine lv_aload_n hx hb dX6_isAhead_82 rfl (lv_at hl 1 rfl) ?_
        refine lv_iload_n hx hb dX6_isAhead_83 rfl (lv_at hl 2 rfl) ?_
        obtain ⟨h84, hw⟩ := hw
        refine q_iald (k := x2) (n := 10) (i := a2) hx hb hK hP (kd_N hk2 (by decide)) hk2 hn2 h84 dX6_isAhead_84 ?_
        refine lv_icmp_ne (x := (gI S x1 (a2.toNatClampNeg))) (y := (gI S x2 (a2.toNatClampNeg))) (tgt := 94) hx hb dX6_isAhead_85 (by decide) (fun c85 => ?_) (fun c85 => ?_)
        · rw [if_neg c85] at hw
          exact j94 S a2  _ _ _ hw hP hF hS (lv_sub hl [0, 1, 2] rfl)
        · rw [if_pos c85] at hw
          obtain ⟨y88, e88⟩ : ∃ z : Int32, z = a2 + 1 := ⟨_, rfl⟩
          have hw := hw y88 e88
          refine lv_iinc (v := y88) (lv' := [(2, .int y88), (0, .ref (b0 + x1)), (1, .ref (b0 + x2))]) hx hb dX6_isAhead_88 hl (k := 2) rfl (by rw [e88]; rfl) (by decide) rfl (fun ls hl => ?_)
          refine lv_goto (tgt := 69) hx hb dX6_isAhead_91 (by decide) ?_
          exact ih69 S y88  _ _ _ hw hP hF hS (lv_sub hl [1, 2, 0] rfl)
  have j39 : ∀ (S : St) , ∀ (H : Heap) (locs : List Loc) (ls : Array Slot), wp_X6_isAhead_39 x1 x2 P S → HP D cy b0 NALL S H → Fx S → va_S (AA b0) s.heap H locs → lv_has ls 3 [(0, .ref (b0 + x1)), (1, .ref (b0 + x2))] → W p l e rm_X6_isAhead s m args below meth c H locs 0 0 (MQ below (QC (Pz P) (Wb D cy b0 NALL) b0) args s 0 0 (AA b0)) (F0 m 39 ls []) := by
    intro S  H locs ls hw hP hF hS hl
    unfold wp_X6_isAhead_39 at hw
    refine lv_aload_n hx hb dX6_isAhead_39 rfl (lv_at hl 0 rfl) ?_
    refine lv_bipush (v := 7) hx hb dX6_isAhead_40 (by decide) ?_
    obtain ⟨h42, hw⟩ := hw
    refine q_iald (k := x1) (n := 10) (i := 7) hx hb hK hP (kd_N hk1 (by decide)) hk1 hn1 h42 dX6_isAhead_42 ?_
    refine lv_aload_n hx hb dX6_isAhead_43 rfl (lv_at hl 1 rfl) ?_
    refine lv_bipush (v := 7) hx hb dX6_isAhead_44 (by decide) ?_
    obtain ⟨h46, hw⟩ := hw
    refine q_iald (k := x2) (n := 10) (i := 7) hx hb hK hP (kd_N hk2 (by decide)) hk2 hn2 h46 dX6_isAhead_46 ?_
    refine lv_icmp_eq (x := (gI S x1 ((7 : Int32).toNatClampNeg))) (y := (gI S x2 ((7 : Int32).toNatClampNeg))) (tgt := 67) hx hb dX6_isAhead_47 (by decide) (fun c47 => ?_) (fun c47 => ?_)
    · rw [if_pos c47] at hw
      refine lv_iconst (v := 0) hx hb dX6_isAhead_67 (by decide) ?_
      refine lv_istore_n (lv' := [(2, .int 0), (0, .ref (b0 + x1)), (1, .ref (b0 + x2))]) hx hb dX6_isAhead_68 rfl hl (by decide) rfl (fun ls hl => ?_)
      obtain ⟨n69, hw⟩ := hw
      exact j69 n69 S 0  _ _ _ hw hP hF hS (lv_sub hl [1, 2, 0] rfl)
    · rw [if_neg c47] at hw
      refine lv_aload_n hx hb dX6_isAhead_50 rfl (lv_at hl 0 rfl) ?_
      refine lv_bipush (v := 7) hx hb dX6_isAhead_51 (by decide) ?_
      obtain ⟨h53, hw⟩ := hw
      refine q_iald (k := x1) (n := 10) (i := 7) hx hb hK hP (kd_N hk1 (by decide)) hk1 hn1 h53 dX6_isAhead_53 ?_
      refine lv_aload_n hx hb dX6_isAhead_54 rfl (lv_at hl 1 rfl) ?_
      refine lv_bipush (v := 7) hx hb dX6_isAhead_55 (by decide) ?_
      obtain ⟨h57, hw⟩ := hw
      refine q_iald (k := x2) (n := 10) (i := 7) hx hb hK hP (kd_N hk2 (by decide)) hk2 hn2 h57 dX6_isAhead_57 ?_
      refine lv_icmp_ge (x := (gI S x1 ((7 : Int32).toNatClampNeg))) (y := (gI S x2 ((7 : Int32).toNatClampNeg))) (tgt := 65) hx hb dX6_isAhead_58 (by decide) (fun c58 => ?_) (fun c58 => ?_)
      · rw [if_pos c58] at hw
        refine lv_iconst (v := 0) hx hb dX6_isAhead_65 (by decide) ?_
        exact q_zret (v := false) hx hb hr hP hF hS hw dX6_isAhead_66 hlocks
      · rw [if_neg c58] at hw
        refine lv_iconst (v := 1) hx hb dX6_isAhead_61 (by decide) ?_
        refine lv_goto (tgt := 66) hx hb dX6_isAhead_62 (by decide) ?_
        exact q_zret (v := true) hx hb hr hP hF hS hw dX6_isAhead_66 hlocks
  have j3 : ∀ (n3 : Nat), ∀ (S : St) (a2 : Int32), ∀ (H : Heap) (locs : List Loc) (ls : Array Slot), wp_X6_isAhead_3 x1 x2 P n3 S a2 → HP D cy b0 NALL S H → Fx S → va_S (AA b0) s.heap H locs → lv_has ls 3 [(0, .ref (b0 + x1)), (1, .ref (b0 + x2)), (2, .int a2)] → W p l e rm_X6_isAhead s m args below meth c H locs 0 0 (MQ below (QC (Pz P) (Wb D cy b0 NALL) b0) args s 0 0 (AA b0)) (F0 m 3 ls []) := by
    intro n3
    induction n3 with
    | zero => intro S a2  H locs ls hw _ _ _ _; exact False.elim hw
    | succ n3 ih3 =>
      intro S a2  H locs ls hw hP hF hS hl
      rw [wp_X6_isAhead_3] at hw
      refine lv_iload_n hx hb dX6_isAhead_3 rfl (lv_at hl 2 rfl) ?_
      refine lv_bipush (v := 9) hx hb dX6_isAhead_4 (by decide) ?_
      refine lv_icmp_gt (x := a2) (y := 9) (tgt := 39) hx hb dX6_isAhead_6 (by decide) (fun c6 => ?_) (fun c6 => ?_)
      · rw [if_pos c6] at hw
        exact j39 S  _ _ _ hw hP hF hS (lv_sub hl [0, 1] rfl)
      · rw [if_neg c6] at hw
        refine lv_aload_n hx hb dX6_isAhead_9 rfl (lv_at hl 0 rfl) ?_
        refine lv_iload_n hx hb dX6_isAhead_10 rfl (lv_at hl 2 rfl) ?_
        obtain ⟨h11, hw⟩ := hw
        refine q_iald (k := x1) (n := 10) (i := a2) hx hb hK hP (kd_N hk1 (by decide)) hk1 hn1 h11 dX6_isAhead_11 ?_
        refine lv_aload_n hx hb dX6_isAhead_12 rfl (lv_at hl 1 rfl) ?_
        refine lv_iload_n hx hb dX6_isAhead_13 rfl (lv_at hl 2 rfl) ?_
        obtain ⟨h14, hw⟩ := hw
        refine q_iald (k := x2) (n := 10) (i := a2) hx hb hK hP (kd_N hk2 (by decide)) hk2 hn2 h14 dX6_isAhead_14 ?_
        refine lv_icmp_eq (x := (gI S x1 (a2.toNatClampNeg))) (y := (gI S x2 (a2.toNatClampNeg))) (tgt := 33) hx hb dX6_isAhead_15 (by decide) (fun c15 => ?_) (fun c15 => ?_)
        · rw [if_pos c15] at hw
          obtain ⟨y33, e33⟩ : ∃ z : Int32, z = a2 + 1 := ⟨_, rfl⟩
          have hw := hw y33 e33
          refine lv_iinc (v := y33) (lv' := [(2, .int y33), (0, .ref (b0 + x1)), (1, .ref (b0 + x2))]) hx hb dX6_isAhead_33 hl (k := 2) rfl (by rw [e33]; rfl) (by decide) rfl (fun ls hl => ?_)
          refine lv_goto (tgt := 3) hx hb dX6_isAhead_36 (by decide) ?_
          exact ih3 S y33  _ _ _ hw hP hF hS (lv_sub hl [1, 2, 0] rfl)
        · rw [if_neg c15] at hw
          exact j18 S a2  _ _ _ hw hP hF hS (lv_sub hl [0, 1, 2] rfl)
  unfold wp_X6_isAhead at hw
  refine lv_bipush (v := 8) hx hb dX6_isAhead_0 (by decide) ?_
  refine lv_istore_n (lv' := [(2, .int 8), (0, .ref (b0 + x1)), (1, .ref (b0 + x2))]) hx hb dX6_isAhead_2 rfl hl (by decide) rfl (fun ls hl => ?_)
  obtain ⟨n3, hw⟩ := hw
  exact j3 n3 S 8  _ _ _ hw hP hF hS (lv_sub hl [1, 2, 0] rfl)
set_option maxHeartbeats 4000000 in
set_option maxRecDepth 100000 in
theorem c_X6_copies (l : Launch) (D : va_G) (cy : Nat → ClassId) (b0 : Nat) (S : St) (x1 : Nat) (x2 : Nat) (hk1 : kd x1 = 7) (hn1 : ln x1 = 10) (hk2 : kd x2 = 7) (hn2 : ln x2 = 10) (P : St → Prop) (hw : wp_X6_copies S x1 x2 P) : Met l yX6_copies wsX6_copies rm_X6_copies (va_Pc [.ref (b0 + x1), .ref (b0 + x2)] (Wd D cy b0 NALL S)) (QC (Pv P) (Wb D cy b0 NALL) b0) 0 0 (AA b0) := by
  refine Met.ofW (cc := cX6_copies) (maxL := 3) (ret := none) (by decide) rfl ?_
  intro p e s m args below meth c s₁ B hml hv
  obtain ⟨hargs, hW, hP, hF⟩ := hv
  have hx := B.exec
  have hb := B.bytes
  have hr := B.returns
  have hts := atoms_spec (ws := wsX6_copies) B.pre
  have hown : s.vm.findClass RX6 = some m.cls := findClass_of_methodNamed B.named
  have hlocks := B.notSynchronized
  have hK := hW.1
  have hS : va_S (AA b0) s.heap s.heap [] := va_S.rf
  have hE : entryFrame m args 3 = F0 m 0 ((lg_sl [.ref (b0 + x1), .ref (b0 + x2)] ++ List.replicate (3 - (lg_sl [.ref (b0 + x1), .ref (b0 + x2)]).length) Slot.unset).toArray) [] := by rw [hargs]; exact lg_entry_eq m _ _
  rw [hE]
  have hl := lv_entry [.ref (b0 + x1), .ref (b0 + x2)] (n := 3) (Nat.le_of_ble_eq_true rfl)
  generalize (lg_sl [.ref (b0 + x1), .ref (b0 + x2)] ++ List.replicate (3 - (lg_sl [.ref (b0 + x1), .ref (b0 + x2)]).length) Slot.unset).toArray = ls at hl ⊢
  have hl : lv_has ls 3 [(0, .ref (b0 + x1)), (1, .ref (b0 + x2))] := hl
  have j2 : ∀ (n2 : Nat), ∀ (S : St) (a2 : Int32), ∀ (H : Heap) (locs : List Loc) (ls : Array Slot), wp_X6_copies_2 x1 x2 P n2 S a2 → HP D cy b0 NALL S H → Fx S → va_S (AA b0) s.heap H locs → lv_has ls 3 [(0, .ref (b0 + x1)), (1, .ref (b0 + x2)), (2, .int a2)] → W p l e rm_X6_copies s m args below meth c H locs 0 0 (MQ below (QC (Pv P) (Wb D cy b0 NALL) b0) args s 0 0 (AA b0)) (F0 m 2 ls []) := by
    intro n2
    induction n2 with
    | zero => intro S a2  H locs ls hw _ _ _ _; exact False.elim hw
    | succ n2 ih2 =>
      intro S a2  H locs ls hw hP hF hS hl
      rw [wp_X6_copies_2] at hw
      refine lv_iload_n hx hb dX6_copies_2 rfl (lv_at hl 2 rfl) ?_
      refine lv_bipush (v := 10) hx hb dX6_copies_3 (by decide) ?_
      refine lv_icmp_ge (x := a2) (y := 10) (tgt := 20) hx hb dX6_copies_5 (by decide) (fun c5 => ?_) (fun c5 => ?_)
      · rw [if_pos c5] at hw
        exact q_vret hx hb hr hP hF hS hw dX6_copies_20 hlocks
      · rw [if_neg c5] at hw
        refine lv_aload_n hx hb dX6_copies_8 rfl (lv_at hl 1 rfl) ?_
        refine lv_iload_n hx hb dX6_copies_9 rfl (lv_at hl 2 rfl) ?_
        refine lv_aload_n hx hb dX6_copies_10 rfl (lv_at hl 0 rfl) ?_
        refine lv_iload_n hx hb dX6_copies_11 rfl (lv_at hl 2 rfl) ?_
        obtain ⟨h12, hw⟩ := hw
        refine q_iald (k := x1) (n := 10) (i := a2) hx hb hK hP (kd_N hk1 (by decide)) hk1 hn1 h12 dX6_copies_12 ?_
        obtain ⟨h13, hw⟩ := hw
        refine q_iast (k := x2) (n := 10) (i := a2) (x := (gI S x1 (a2.toNatClampNeg))) hx hb hK hP hS (kd_N hk2 (by decide)) hk2 hn2 h13 dX6_copies_13 (fun H locs hz hP hS => ?_)
        have hF : Fx (sI S x2 (a2.toNatClampNeg) (gI S x1 (a2.toNatClampNeg))) := Fx.sI hF _ _ _
        generalize eS13 : sI S x2 (a2.toNatClampNeg) (gI S x1 (a2.toNatClampNeg)) = S13 at hP hF
        have hw := hw S13 eS13.symm
        obtain ⟨y14, e14⟩ : ∃ z : Int32, z = a2 + 1 := ⟨_, rfl⟩
        have hw := hw y14 e14
        refine lv_iinc (v := y14) (lv' := [(2, .int y14), (0, .ref (b0 + x1)), (1, .ref (b0 + x2))]) hx hb dX6_copies_14 hl (k := 2) rfl (by rw [e14]; rfl) (by decide) rfl (fun ls hl => ?_)
        refine lv_goto (tgt := 2) hx hb dX6_copies_17 (by decide) ?_
        exact ih2 S13 y14  _ _ _ hw hP hF hS (lv_sub hl [1, 2, 0] rfl)
  unfold wp_X6_copies at hw
  refine lv_iconst (v := 0) hx hb dX6_copies_0 (by decide) ?_
  refine lv_istore_n (lv' := [(2, .int 0), (0, .ref (b0 + x1)), (1, .ref (b0 + x2))]) hx hb dX6_copies_1 rfl hl (by decide) rfl (fun ls hl => ?_)
  obtain ⟨n2, hw⟩ := hw
  exact j2 n2 S 0  _ _ _ hw hP hF hS (lv_sub hl [1, 2, 0] rfl)
set_option maxHeartbeats 4000000 in
set_option maxRecDepth 100000 in
theorem c_X6_finds (l : Launch) (D : va_G) (cy : Nat → ClassId) (b0 : Nat) (S : St) (x1 : Int32) (x2 : Int32) (x3 : Int32) (x4 : Int32)  (P : Bool → St → Prop) (hw : wp_X6_finds S x1 x2 x3 x4 P) : Met l yX6_finds wsX6_finds rm_X6_finds (va_Pc [.ref (b0 + 367), .int x1, .int x2, .int x3, .int x4] (Wd D cy b0 NALL S)) (QC (Pz P) (Wb D cy b0 NALL) b0) 0 0 (AA b0) := by
  refine Met.ofW (cc := cX6_finds) (maxL := 5) (ret := (some .boolean)) (by decide) rfl ?_
  intro p e s m args below meth c s₁ B hml hv
  obtain ⟨hargs, hW, hP, hF⟩ := hv
  have hx := B.exec
  have hb := B.bytes
  have hr := B.returns
  have hts := atoms_spec (ws := wsX6_finds) B.pre
  have hown : s.vm.findClass RX6 = some m.cls := findClass_of_methodNamed B.named
  have hlocks := B.notSynchronized
  have hK := hW.1
  have hS : va_S (AA b0) s.heap s.heap [] := va_S.rf
  have hE : entryFrame m args 5 = F0 m 0 ((lg_sl [.ref (b0 + 367), .int x1, .int x2, .int x3, .int x4] ++ List.replicate (5 - (lg_sl [.ref (b0 + 367), .int x1, .int x2, .int x3, .int x4]).length) Slot.unset).toArray) [] := by rw [hargs]; exact lg_entry_eq m _ _
  rw [hE]
  have hl := lv_entry [.ref (b0 + 367), .int x1, .int x2, .int x3, .int x4] (n := 5) (Nat.le_of_ble_eq_true rfl)
  generalize (lg_sl [.ref (b0 + 367), .int x1, .int x2, .int x3, .int x4] ++ List.replicate (5 - (lg_sl [.ref (b0 + 367), .int x1, .int x2, .int x3, .int x4]).length) Slot.unset).toArray = ls at hl ⊢
  have hl : lv_has ls 5 [(0, .ref (b0 + 367)), (1, .int x1), (2, .int x2), (3, .int x3), (4, .int x4)] := hl
  have j85 : ∀ (S : St) , ∀ (H : Heap) (locs : List Loc) (ls : Array Slot), wp_X6_finds_85 x1 x2 x3 x4 P S → HP D cy b0 NALL S H → Fx S → va_S (AA b0) s.heap H locs → lv_has ls 5 [(0, .ref (b0 + 367))] → W p l e rm_X6_finds s m args below meth c H locs 0 0 (MQ below (QC (Pz P) (Wb D cy b0 NALL) b0) args s 0 0 (AA b0)) (F0 m 85 ls []) := by
    intro S  H locs ls hw hP hF hS hl
    unfold wp_X6_finds_85 at hw
    refine lv_aload_n hx hb dX6_finds_85 rfl (lv_at hl 0 rfl) ?_
    refine gf_6_22 (k := 367) hx hb hts (by decide +kernel) hown hK hP (by decide) (kk_367) (q := 384) (hF.1 367 22 384 ff_367_22) (hts (.fieldLink RX6 66 "OpticmeshModel" "best" "[I") (by decide +kernel)) dX6_finds_86 ?_
    refine lv_bipush (v := 7) hx hb dX6_finds_89 (by decide) ?_
    obtain ⟨h91, hw⟩ := hw
    refine q_iald (k := 384) (n := 10) (i := 7) hx hb hK hP (by decide) (kk_384) (ll_384) h91 dX6_finds_91 ?_
    refine lv_if_le (x := (gI S 384 ((7 : Int32).toNatClampNeg))) (tgt := 99) hx hb dX6_finds_92 (by decide) (fun c92 => ?_) (fun c92 => ?_)
    · rw [if_pos c92] at hw
      refine lv_iconst (v := 0) hx hb dX6_finds_99 (by decide) ?_
      exact q_zret (v := false) hx hb hr hP hF hS hw dX6_finds_100 hlocks
    · rw [if_neg c92] at hw
      refine lv_iconst (v := 1) hx hb dX6_finds_95 (by decide) ?_
      refine lv_goto (tgt := 100) hx hb dX6_finds_96 (by decide) ?_
      exact q_zret (v := true) hx hb hr hP hF hS hw dX6_finds_100 hlocks
  have j16 : ∀ (n16 : Nat), ∀ (S : St) , ∀ (H : Heap) (locs : List Loc) (ls : Array Slot), wp_X6_finds_16 x1 x2 x3 x4 P n16 S → HP D cy b0 NALL S H → Fx S → va_S (AA b0) s.heap H locs → lv_has ls 5 [(0, .ref (b0 + 367)), (2, .int x2), (3, .int x3), (4, .int x4)] → W p l e rm_X6_finds s m args below meth c H locs 0 0 (MQ below (QC (Pz P) (Wb D cy b0 NALL) b0) args s 0 0 (AA b0)) (F0 m 16 ls []) := by
    intro n16
    induction n16 with
    | zero => intro S  H locs ls hw _ _ _ _; exact False.elim hw
    | succ n16 ih16 =>
      have j71 : ∀ (S : St) , ∀ (H : Heap) (locs : List Loc) (ls : Array Slot), wp_X6_finds_71 x1 x2 x3 x4 P (fun S => wp_X6_finds_16 x1 x2 x3 x4 P n16 S) S → HP D cy b0 NALL S H → Fx S → va_S (AA b0) s.heap H locs → lv_has ls 5 [(0, .ref (b0 + 367)), (2, .int x2), (3, .int x3), (4, .int x4)] → W p l e rm_X6_finds s m args below meth c H locs 0 0 (MQ below (QC (Pz P) (Wb D cy b0 NALL) b0) args s 0 0 (AA b0)) (F0 m 71 ls []) := by
        intro S  H locs ls hw hP hF hS hl
        unfold wp_X6_finds_71 at hw
        refine lv_aload_n hx hb dX6_finds_71 rfl (lv_at hl 0 rfl) ?_
        refine gf_6_20 (k := 367) hx hb hts (by decide +kernel) hown hK hP (by decide) (kk_367) (q := 382) (hF.1 367 20 382 ff_367_20) (hts (.fieldLink RX6 60 "OpticmeshModel" "trial" "[I") (by decide +kernel)) dX6_finds_72 ?_
        refine lv_aload_n hx hb dX6_finds_75 rfl (lv_at hl 0 rfl) ?_
        refine gf_6_22 (k := 367) hx hb hts (by decide +kernel) hown hK hP (by decide) (kk_367) (q := 384) (hF.1 367 22 384 ff_367_22) (hts (.fieldLink RX6 66 "OpticmeshModel" "best" "[I") (by decide +kernel)) dX6_finds_76 ?_
        refine q_call (va_runS (As := [.ref (b0 + 382), .ref (b0 + 384)]) (rest := []) ⟨hx, hb, hml, hown, hts⟩ (c_X6_copies l D cy b0 S 382 384 (kk_382) (ll_382) (kk_384) (ll_384) _ hw) (va_cwS 2 hts gX6_finds_X6_copies rfl rfl rfl (by decide +kernel) ⟨(Nat.le_of_ble_eq_true rfl), (Nat.le_of_ble_eq_true rfl)⟩) (q_pS hW hP hF hS [.ref (b0 + 382), .ref (b0 + 384)]) rfl rfl hl.1 rfl (lv_room (Nat.le_of_ble_eq_true rfl)) dX6_finds_79 ⟨(Nat.le_of_ble_eq_true rfl), (Nat.le_of_ble_eq_true rfl)⟩) hS (fun v79 S79 t79 H locs hh hp hB hz hk9 hS => ?_)
        obtain ⟨rfl, hw⟩ := hp
        have hP : HP D cy b0 NALL S79 H := by rw [← hh]; exact hB.1
        have hF := hB.2
        try dsimp only at hw
        refine W.eq (g2 := F0 m 82 ls []) rfl ?_
        refine lv_goto (tgt := 16) hx hb dX6_finds_82 (by decide) ?_
        exact ih16 S79  _ _ _ hw hP hF hS (lv_sub hl [0, 1, 2, 3] rfl)
      intro S  H locs ls hw hP hF hS hl
      rw [wp_X6_finds_16] at hw
      refine lv_aload_n hx hb dX6_finds_16 rfl (lv_at hl 0 rfl) ?_
      refine lv_aload_n hx hb dX6_finds_17 rfl (lv_at hl 0 rfl) ?_
      refine gf_6_18 (k := 367) hx hb hts (by decide +kernel) hown hK hP (by decide) (kk_367) (q := 380) (hF.1 367 18 380 ff_367_18) (hts (.fieldLink RX6 54 "OpticmeshModel" "first" "[I") (by decide +kernel)) dX6_finds_18 ?_
      refine lv_iload_n hx hb dX6_finds_21 rfl (lv_at hl 1 rfl) ?_
      refine lv_iconst (v := 0) hx hb dX6_finds_22 (by decide) ?_
      refine q_call (va_runV (As := [.ref (b0 + 380), .int x2, .int 0]) (rest := []) ⟨hx, hb, hml, hown, hts⟩ (c_X6_goesOn l D cy b0 S 380 x2 0 (kk_380) (ll_380) _ hw) (cwV 3 hts gX6_finds_X6_goesOn rfl rfl rfl (by decide +kernel) ⟨(Nat.le_of_ble_eq_true rfl), (Nat.le_of_ble_eq_true rfl)⟩) (q_pV hW hP hF hS (k := 367) (ci := 6) (by decide) (cell_6 (kk_367)) rfl [.ref (b0 + 380), .int x2, .int 0]) rfl rfl hl.1 rfl (lv_room (Nat.le_of_ble_eq_true rfl)) dX6_finds_23 ⟨(Nat.le_of_ble_eq_true rfl), (Nat.le_of_ble_eq_true rfl)⟩) hS (fun v23 S23 t23 H locs hh hp hB hz hk9 hS => ?_)
      obtain ⟨r23, rfl, hw⟩ := hp
      have hP : HP D cy b0 NALL S23 H := by rw [← hh]; exact hB.1
      have hF := hB.2
      try dsimp only at hw
      refine W.eq (g2 := F0 m 26 ls [.int (b2i r23)]) rfl ?_
      refine lv_if_eq (x := b2i r23) (tgt := 85) hx hb dX6_finds_26 (by decide) (fun c26 => ?_) (fun c26 => ?_)
      · have c26 := b2i_z c26
        rw [if_neg c26] at hw
        exact j85 S23  _ _ _ hw hP hF hS (lv_sub hl [0] rfl)
      · have c26 := b2i_n c26
        rw [if_pos c26] at hw
        refine lv_aload_n hx hb dX6_finds_29 rfl (lv_at hl 0 rfl) ?_
        refine lv_aload_n hx hb dX6_finds_30 rfl (lv_at hl 0 rfl) ?_
        refine gf_6_18 (k := 367) hx hb hts (by decide +kernel) hown hK hP (by decide) (kk_367) (q := 380) (hF.1 367 18 380 ff_367_18) (hts (.fieldLink RX6 54 "OpticmeshModel" "first" "[I") (by decide +kernel)) dX6_finds_31 ?_
        refine lv_iload_n hx hb dX6_finds_34 rfl (lv_at hl 2 rfl) ?_
        refine lv_iload hx hb dX6_finds_35 (lv_at hl 3 rfl) ?_
        refine lv_aload_n hx hb dX6_finds_37 rfl (lv_at hl 0 rfl) ?_
        refine gf_6_20 (k := 367) hx hb hts (by decide +kernel) hown hK hP (by decide) (kk_367) (q := 382) (hF.1 367 20 382 ff_367_20) (hts (.fieldLink RX6 60 "OpticmeshModel" "trial" "[I") (by decide +kernel)) dX6_finds_38 ?_
        refine q_call (va_runV (As := [.ref (b0 + 380), .int x3, .int x4, .ref (b0 + 382)]) (rest := []) ⟨hx, hb, hml, hown, hts⟩ (c_X6_lays l D cy b0 S23 380 x3 x4 382 (kk_380) (ll_380) (kk_382) (ll_382) _ hw) (cwV 4 hts gX6_finds_X6_lays rfl rfl rfl (by decide +kernel) ⟨(Nat.le_of_ble_eq_true rfl), (Nat.le_of_ble_eq_true rfl)⟩) (q_pV hW hP hF hS (k := 367) (ci := 6) (by decide) (cell_6 (kk_367)) rfl [.ref (b0 + 380), .int x3, .int x4, .ref (b0 + 382)]) rfl rfl hl.1 rfl (lv_room (Nat.le_of_ble_eq_true rfl)) dX6_finds_41 ⟨(Nat.le_of_ble_eq_true rfl), (Nat.le_of_ble_eq_true rfl)⟩) hS (fun v41 S41 t41 H locs hh hp hB hz hk9 hS => ?_)
        obtain ⟨r41, rfl, hw⟩ := hp
        have hP : HP D cy b0 NALL S41 H := by rw [← hh]; exact hB.1
        have hF := hB.2
        try dsimp only at hw
        refine W.eq (g2 := F0 m 44 ls [.int (b2i r41)]) rfl ?_
        refine lv_if_eq (x := b2i r41) (tgt := 16) hx hb dX6_finds_44 (by decide) (fun c44 => ?_) (fun c44 => ?_)
        · have c44 := b2i_z c44
          rw [if_neg c44] at hw
          exact ih16 S41  _ _ _ hw hP hF hS (lv_sub hl [0, 1, 2, 3] rfl)
        · have c44 := b2i_n c44
          rw [if_pos c44] at hw
          refine lv_aload_n hx hb dX6_finds_47 rfl (lv_at hl 0 rfl) ?_
          refine gf_6_22 (k := 367) hx hb hts (by decide +kernel) hown hK hP (by decide) (kk_367) (q := 384) (hF.1 367 22 384 ff_367_22) (hts (.fieldLink RX6 66 "OpticmeshModel" "best" "[I") (by decide +kernel)) dX6_finds_48 ?_
          refine lv_bipush (v := 7) hx hb dX6_finds_51 (by decide) ?_
          obtain ⟨h53, hw⟩ := hw
          refine q_iald (k := 384) (n := 10) (i := 7) hx hb hK hP (by decide) (kk_384) (ll_384) h53 dX6_finds_53 ?_
          refine lv_if_eq (x := (gI S41 384 ((7 : Int32).toNatClampNeg))) (tgt := 71) hx hb dX6_finds_54 (by decide) (fun c54 => ?_) (fun c54 => ?_)
          · rw [if_pos c54] at hw
            exact j71 S41  _ _ _ hw hP hF hS (lv_sub hl [0, 1, 2, 3] rfl)
          · rw [if_neg c54] at hw
            refine lv_aload_n hx hb dX6_finds_57 rfl (lv_at hl 0 rfl) ?_
            refine gf_6_20 (k := 367) hx hb hts (by decide +kernel) hown hK hP (by decide) (kk_367) (q := 382) (hF.1 367 20 382 ff_367_20) (hts (.fieldLink RX6 60 "OpticmeshModel" "trial" "[I") (by decide +kernel)) dX6_finds_58 ?_
            refine lv_aload_n hx hb dX6_finds_61 rfl (lv_at hl 0 rfl) ?_
            refine gf_6_22 (k := 367) hx hb hts (by decide +kernel) hown hK hP (by decide) (kk_367) (q := 384) (hF.1 367 22 384 ff_367_22) (hts (.fieldLink RX6 66 "OpticmeshModel" "best" "[I") (by decide +kernel)) dX6_finds_62 ?_
            refine q_call (va_runS (As := [.ref (b0 + 382), .ref (b0 + 384)]) (rest := []) ⟨hx, hb, hml, hown, hts⟩ (c_X6_isAhead l D cy b0 S41 382 384 (kk_382) (ll_382) (kk_384) (ll_384) _ hw) (va_cwS 2 hts gX6_finds_X6_isAhead rfl rfl rfl (by decide +kernel) ⟨(Nat.le_of_ble_eq_true rfl), (Nat.le_of_ble_eq_true rfl)⟩) (q_pS hW hP hF hS [.ref (b0 + 382), .ref (b0 + 384)]) rfl rfl hl.1 rfl (lv_room (Nat.le_of_ble_eq_true rfl)) dX6_finds_65 ⟨(Nat.le_of_ble_eq_true rfl), (Nat.le_of_ble_eq_true rfl)⟩) hS (fun v65 S65 t65 H locs hh hp hB hz hk9 hS => ?_)
            obtain ⟨r65, rfl, hw⟩ := hp
            have hP : HP D cy b0 NALL S65 H := by rw [← hh]; exact hB.1
            have hF := hB.2
            try dsimp only at hw
            refine W.eq (g2 := F0 m 68 ls [.int (b2i r65)]) rfl ?_
            refine lv_if_eq (x := b2i r65) (tgt := 16) hx hb dX6_finds_68 (by decide) (fun c68 => ?_) (fun c68 => ?_)
            · have c68 := b2i_z c68
              rw [if_neg c68] at hw
              exact ih16 S65  _ _ _ hw hP hF hS (lv_sub hl [0, 1, 2, 3] rfl)
            · have c68 := b2i_n c68
              rw [if_pos c68] at hw
              exact j71 S65  _ _ _ hw hP hF hS (lv_sub hl [0, 1, 2, 3] rfl)
  unfold wp_X6_finds at hw
  refine lv_aload_n hx hb dX6_finds_0 rfl (lv_at hl 0 rfl) ?_
  refine gf_6_22 (k := 367) hx hb hts (by decide +kernel) hown hK hP (by decide) (kk_367) (q := 384) (hF.1 367 22 384 ff_367_22) (hts (.fieldLink RX6 66 "OpticmeshModel" "best" "[I") (by decide +kernel)) dX6_finds_1 ?_
  refine lv_bipush (v := 7) hx hb dX6_finds_4 (by decide) ?_
  refine lv_iconst (v := 0) hx hb dX6_finds_6 (by decide) ?_
  obtain ⟨h7, hw⟩ := hw
  refine q_iast (k := 384) (n := 10) (i := 7) (x := 0) hx hb hK hP hS (by decide) (kk_384) (ll_384) h7 dX6_finds_7 (fun H locs hz hP hS => ?_)
  have hF : Fx (sI S 384 ((7 : Int32).toNatClampNeg) 0) := Fx.sI hF _ _ _
  generalize eS7 : sI S 384 ((7 : Int32).toNatClampNeg) 0 = S7 at hP hF
  have hw := hw S7 eS7.symm
  refine lv_aload_n hx hb dX6_finds_8 rfl (lv_at hl 0 rfl) ?_
  refine gf_6_18 (k := 367) hx hb hts (by decide +kernel) hown hK hP (by decide) (kk_367) (q := 380) (hF.1 367 18 380 ff_367_18) (hts (.fieldLink RX6 54 "OpticmeshModel" "first" "[I") (by decide +kernel)) dX6_finds_9 ?_
  refine lv_iload_n hx hb dX6_finds_12 rfl (lv_at hl 1 rfl) ?_
  refine q_call (va_runS (As := [.ref (b0 + 380), .int x1]) (rest := []) ⟨hx, hb, hml, hown, hts⟩ (c_X6_sets l D cy b0 S7 380 x1 (kk_380) (ll_380) _ hw) (va_cwS 2 hts gX6_finds_X6_sets rfl rfl rfl (by decide +kernel) ⟨(Nat.le_of_ble_eq_true rfl), (Nat.le_of_ble_eq_true rfl)⟩) (q_pS hW hP hF hS [.ref (b0 + 380), .int x1]) rfl rfl hl.1 rfl (lv_room (Nat.le_of_ble_eq_true rfl)) dX6_finds_13 ⟨(Nat.le_of_ble_eq_true rfl), (Nat.le_of_ble_eq_true rfl)⟩) hS (fun v13 S13 t13 H locs hh hp hB hz hk9 hS => ?_)
  obtain ⟨rfl, hw⟩ := hp
  have hP : HP D cy b0 NALL S13 H := by rw [← hh]; exact hB.1
  have hF := hB.2
  try dsimp only at hw
  refine W.eq (g2 := F0 m 16 ls []) rfl ?_
  obtain ⟨n16, hw⟩ := hw
  exact j16 n16 S13  _ _ _ hw hP hF hS (lv_sub hl [0, 2, 3, 4] rfl)
set_option maxHeartbeats 4000000 in
set_option maxRecDepth 100000 in
theorem c_X6_findsOneWavelength (l : Launch) (D : va_G) (cy : Nat → ClassId) (b0 : Nat) (S : St) (x1 : Int32) (x2 : Int32)  (P : Bool → St → Prop) (hw : wp_X6_findsOneWavelength S x1 x2 P) : Met l yX6_findsOneWavelength wsX6_findsOneWavelength rm_X6_findsOneWavelength (va_Pc [.ref (b0 + 367), .int x1, .int x2] (Wd D cy b0 NALL S)) (QC (Pz P) (Wb D cy b0 NALL) b0) 0 0 (AA b0) := by
  refine Met.ofW (cc := cX6_findsOneWavelength) (maxL := 4) (ret := (some .boolean)) (by decide) rfl ?_
  intro p e s m args below meth c s₁ B hml hv
  obtain ⟨hargs, hW, hP, hF⟩ := hv
  have hx := B.exec
  have hb := B.bytes
  have hr := B.returns
  have hts := atoms_spec (ws := wsX6_findsOneWavelength) B.pre
  have hown : s.vm.findClass RX6 = some m.cls := findClass_of_methodNamed B.named
  have hlocks := B.notSynchronized
  have hK := hW.1
  have hS : va_S (AA b0) s.heap s.heap [] := va_S.rf
  have hE : entryFrame m args 4 = F0 m 0 ((lg_sl [.ref (b0 + 367), .int x1, .int x2] ++ List.replicate (4 - (lg_sl [.ref (b0 + 367), .int x1, .int x2]).length) Slot.unset).toArray) [] := by rw [hargs]; exact lg_entry_eq m _ _
  rw [hE]
  have hl := lv_entry [.ref (b0 + 367), .int x1, .int x2] (n := 4) (Nat.le_of_ble_eq_true rfl)
  generalize (lg_sl [.ref (b0 + 367), .int x1, .int x2] ++ List.replicate (4 - (lg_sl [.ref (b0 + 367), .int x1, .int x2]).length) Slot.unset).toArray = ls at hl ⊢
  have hl : lv_has ls 4 [(0, .ref (b0 + 367)), (1, .int x1), (2, .int x2)] := hl
  have j2 : ∀ (n2 : Nat), ∀ (S : St) (a3 : Int32), ∀ (H : Heap) (locs : List Loc) (ls : Array Slot), wp_X6_findsOneWavelength_2 x1 x2 P n2 S a3 → HP D cy b0 NALL S H → Fx S → va_S (AA b0) s.heap H locs → lv_has ls 4 [(0, .ref (b0 + 367)), (1, .int x1), (2, .int x2), (3, .int a3)] → W p l e rm_X6_findsOneWavelength s m args below meth c H locs 0 0 (MQ below (QC (Pz P) (Wb D cy b0 NALL) b0) args s 0 0 (AA b0)) (F0 m 2 ls []) := by
    intro n2
    induction n2 with
    | zero => intro S a3  H locs ls hw _ _ _ _; exact False.elim hw
    | succ n2 ih2 =>
      intro S a3  H locs ls hw hP hF hS hl
      rw [wp_X6_findsOneWavelength_2] at hw
      refine lv_iload_n hx hb dX6_findsOneWavelength_2 rfl (lv_at hl 3 rfl) ?_
      refine lv_aload_n hx hb dX6_findsOneWavelength_3 rfl (lv_at hl 0 rfl) ?_
      refine gf_6_2 (k := 367) hx hb hts (by decide +kernel) hown hK hP (by decide) (kk_367) (hts (.fieldLink RX6 13 "OpticmeshModel" "wavelengths" "I") (by decide +kernel)) dX6_findsOneWavelength_4 ?_
      refine lv_icmp_ge (x := a3) (y := (gI S 367 2)) (tgt := 31) hx hb dX6_findsOneWavelength_7 (by decide) (fun c7 => ?_) (fun c7 => ?_)
      · rw [if_pos c7] at hw
        refine lv_iconst (v := 0) hx hb dX6_findsOneWavelength_31 (by decide) ?_
        exact q_zret (v := false) hx hb hr hP hF hS hw dX6_findsOneWavelength_32 hlocks
      · rw [if_neg c7] at hw
        refine lv_aload_n hx hb dX6_findsOneWavelength_10 rfl (lv_at hl 0 rfl) ?_
        refine lv_iload_n hx hb dX6_findsOneWavelength_11 rfl (lv_at hl 1 rfl) ?_
        refine lv_iload_n hx hb dX6_findsOneWavelength_12 rfl (lv_at hl 2 rfl) ?_
        refine lv_iconst (v := (-1)) hx hb dX6_findsOneWavelength_13 (by decide) ?_
        refine lv_iconst (v := 1) hx hb dX6_findsOneWavelength_14 (by decide) ?_
        refine lv_iload_n hx hb dX6_findsOneWavelength_15 rfl (lv_at hl 3 rfl) ?_
        refine lv_ishl hx hb dX6_findsOneWavelength_16 ?_
        refine q_call (va_runV (As := [.int x1, .int x2, .int (-1), .int (1 <<< (a3 &&& 31))]) (rest := []) ⟨hx, hb, hml, hown, hts⟩ (c_X6_finds l D cy b0 S x1 x2 (-1) (1 <<< (a3 &&& 31)) _ hw) (cwV 4 hts gX6_findsOneWavelength_X6_finds rfl rfl rfl (by decide +kernel) ⟨(Nat.le_of_ble_eq_true rfl), (Nat.le_of_ble_eq_true rfl)⟩) (q_pV hW hP hF hS (k := 367) (ci := 6) (by decide) (cell_6 (kk_367)) rfl [.int x1, .int x2, .int (-1), .int (1 <<< (a3 &&& 31))]) rfl rfl hl.1 rfl (lv_room (Nat.le_of_ble_eq_true rfl)) dX6_findsOneWavelength_17 ⟨(Nat.le_of_ble_eq_true rfl), (Nat.le_of_ble_eq_true rfl)⟩) hS (fun v17 S17 t17 H locs hh hp hB hz hk9 hS => ?_)
        obtain ⟨r17, rfl, hw⟩ := hp
        have hP : HP D cy b0 NALL S17 H := by rw [← hh]; exact hB.1
        have hF := hB.2
        try dsimp only at hw
        refine W.eq (g2 := F0 m 20 ls [.int (b2i r17)]) rfl ?_
        refine lv_if_eq (x := b2i r17) (tgt := 25) hx hb dX6_findsOneWavelength_20 (by decide) (fun c20 => ?_) (fun c20 => ?_)
        · have c20 := b2i_z c20
          rw [if_neg c20] at hw
          obtain ⟨y25, e25⟩ : ∃ z : Int32, z = a3 + 1 := ⟨_, rfl⟩
          have hw := hw y25 e25
          refine lv_iinc (v := y25) (lv' := [(3, .int y25), (0, .ref (b0 + 367)), (1, .int x1), (2, .int x2)]) hx hb dX6_findsOneWavelength_25 hl (k := 3) rfl (by rw [e25]; rfl) (by decide) rfl (fun ls hl => ?_)
          refine lv_goto (tgt := 2) hx hb dX6_findsOneWavelength_28 (by decide) ?_
          exact ih2 S17 y25  _ _ _ hw hP hF hS (lv_sub hl [1, 2, 3, 0] rfl)
        · have c20 := b2i_n c20
          rw [if_pos c20] at hw
          refine lv_iconst (v := 1) hx hb dX6_findsOneWavelength_23 (by decide) ?_
          exact q_zret (v := true) hx hb hr hP hF hS hw dX6_findsOneWavelength_24 hlocks
  unfold wp_X6_findsOneWavelength at hw
  refine lv_iconst (v := 0) hx hb dX6_findsOneWavelength_0 (by decide) ?_
  refine lv_istore_n (lv' := [(3, .int 0), (0, .ref (b0 + 367)), (1, .int x1), (2, .int x2)]) hx hb dX6_findsOneWavelength_1 rfl hl (by decide) rfl (fun ls hl => ?_)
  obtain ⟨n2, hw⟩ := hw
  exact j2 n2 S 0  _ _ _ hw hP hF hS (lv_sub hl [1, 2, 3, 0] rfl)
set_option maxHeartbeats 4000000 in
set_option maxRecDepth 100000 in
theorem c_X6_laysOne (l : Launch) (D : va_G) (cy : Nat → ClassId) (b0 : Nat) (S : St) (x1 : Nat) (x2 : Nat) (hk1 : kd x1 = 7) (hn1 : ln x1 = 26) (hk2 : kd x2 = 7) (hn2 : ln x2 = 10) (P : Bool → St → Prop) (hw : wp_X6_laysOne S x1 x2 P) : Met l yX6_laysOne wsX6_laysOne rm_X6_laysOne (va_Pc [.ref (b0 + 367), .ref (b0 + x1), .ref (b0 + x2)] (Wd D cy b0 NALL S)) (QC (Pz P) (Wb D cy b0 NALL) b0) 0 0 (AA b0) := by
  refine Met.ofW (cc := cX6_laysOne) (maxL := 5) (ret := (some .boolean)) (by decide) rfl ?_
  intro p e s m args below meth c s₁ B hml hv
  obtain ⟨hargs, hW, hP, hF⟩ := hv
  have hx := B.exec
  have hb := B.bytes
  have hr := B.returns
  have hts := atoms_spec (ws := wsX6_laysOne) B.pre
  have hown : s.vm.findClass RX6 = some m.cls := findClass_of_methodNamed B.named
  have hlocks := B.notSynchronized
  have hK := hW.1
  have hS : va_S (AA b0) s.heap s.heap [] := va_S.rf
  have hE : entryFrame m args 5 = F0 m 0 ((lg_sl [.ref (b0 + 367), .ref (b0 + x1), .ref (b0 + x2)] ++ List.replicate (5 - (lg_sl [.ref (b0 + 367), .ref (b0 + x1), .ref (b0 + x2)]).length) Slot.unset).toArray) [] := by rw [hargs]; exact lg_entry_eq m _ _
  rw [hE]
  have hl := lv_entry [.ref (b0 + 367), .ref (b0 + x1), .ref (b0 + x2)] (n := 5) (Nat.le_of_ble_eq_true rfl)
  generalize (lg_sl [.ref (b0 + 367), .ref (b0 + x1), .ref (b0 + x2)] ++ List.replicate (5 - (lg_sl [.ref (b0 + 367), .ref (b0 + x1), .ref (b0 + x2)]).length) Slot.unset).toArray = ls at hl ⊢
  have hl : lv_has ls 5 [(0, .ref (b0 + 367)), (1, .ref (b0 + x1)), (2, .ref (b0 + x2))] := hl
  have j35 : ∀ (S : St) (a3 : Int32), ∀ (H : Heap) (locs : List Loc) (ls : Array Slot), wp_X6_laysOne_35 x1 x2 P S a3 → HP D cy b0 NALL S H → Fx S → va_S (AA b0) s.heap H locs → lv_has ls 5 [(0, .ref (b0 + 367)), (1, .ref (b0 + x1)), (2, .ref (b0 + x2)), (3, .int a3)] → W p l e rm_X6_laysOne s m args below meth c H locs 0 0 (MQ below (QC (Pz P) (Wb D cy b0 NALL) b0) args s 0 0 (AA b0)) (F0 m 35 ls []) := by
    intro S a3  H locs ls hw hP hF hS hl
    unfold wp_X6_laysOne_35 at hw
    refine lv_iload_n hx hb dX6_laysOne_35 rfl (lv_at hl 3 rfl) ?_
    refine lv_if_eq (x := a3) (tgt := 57) hx hb dX6_laysOne_36 (by decide) (fun c36 => ?_) (fun c36 => ?_)
    · rw [if_pos c36] at hw
      refine lv_iconst (v := 0) hx hb dX6_laysOne_57 (by decide) ?_
      exact q_zret (v := false) hx hb hr hP hF hS hw dX6_laysOne_58 hlocks
    · rw [if_neg c36] at hw
      refine lv_aload_n hx hb dX6_laysOne_39 rfl (lv_at hl 0 rfl) ?_
      refine lv_aload_n hx hb dX6_laysOne_40 rfl (lv_at hl 1 rfl) ?_
      refine lv_iconst (v := (-1)) hx hb dX6_laysOne_41 (by decide) ?_
      refine lv_iload_n hx hb dX6_laysOne_42 rfl (lv_at hl 3 rfl) ?_
      refine lv_iload_n hx hb dX6_laysOne_43 rfl (lv_at hl 3 rfl) ?_
      refine lv_ineg hx hb dX6_laysOne_44 ?_
      refine lv_iand hx hb dX6_laysOne_45 ?_
      refine lv_aload_n hx hb dX6_laysOne_46 rfl (lv_at hl 2 rfl) ?_
      refine q_call (va_runV (As := [.ref (b0 + x1), .int (-1), .int (a3 &&& (-a3)), .ref (b0 + x2)]) (rest := []) ⟨hx, hb, hml, hown, hts⟩ (c_X6_lays l D cy b0 S x1 (-1) (a3 &&& (-a3)) x2 hk1 hn1 hk2 hn2 _ hw) (cwV 4 hts gX6_laysOne_X6_lays rfl rfl rfl (by decide +kernel) ⟨(Nat.le_of_ble_eq_true rfl), (Nat.le_of_ble_eq_true rfl)⟩) (q_pV hW hP hF hS (k := 367) (ci := 6) (by decide) (cell_6 (kk_367)) rfl [.ref (b0 + x1), .int (-1), .int (a3 &&& (-a3)), .ref (b0 + x2)]) rfl rfl hl.1 rfl (lv_room (Nat.le_of_ble_eq_true rfl)) dX6_laysOne_47 ⟨(Nat.le_of_ble_eq_true rfl), (Nat.le_of_ble_eq_true rfl)⟩) hS (fun v47 S47 t47 H locs hh hp hB hz hk9 hS => ?_)
      obtain ⟨r47, rfl, hw⟩ := hp
      have hP : HP D cy b0 NALL S47 H := by rw [← hh]; exact hB.1
      have hF := hB.2
      try dsimp only at hw
      refine W.eq (g2 := F0 m 50 ls [.int (b2i r47)]) rfl ?_
      refine lv_if_eq (x := b2i r47) (tgt := 57) hx hb dX6_laysOne_50 (by decide) (fun c50 => ?_) (fun c50 => ?_)
      · have c50 := b2i_z c50
        rw [if_neg c50] at hw
        refine lv_iconst (v := 0) hx hb dX6_laysOne_57 (by decide) ?_
        exact q_zret (v := false) hx hb hr hP hF hS hw dX6_laysOne_58 hlocks
      · have c50 := b2i_n c50
        rw [if_pos c50] at hw
        refine lv_iconst (v := 1) hx hb dX6_laysOne_53 (by decide) ?_
        refine lv_goto (tgt := 58) hx hb dX6_laysOne_54 (by decide) ?_
        exact q_zret (v := true) hx hb hr hP hF hS hw dX6_laysOne_58 hlocks
  have j7 : ∀ (n7 : Nat), ∀ (S : St) (a3 : Int32) (a4 : Int32), ∀ (H : Heap) (locs : List Loc) (ls : Array Slot), wp_X6_laysOne_7 x1 x2 P n7 S a3 a4 → HP D cy b0 NALL S H → Fx S → va_S (AA b0) s.heap H locs → lv_has ls 5 [(0, .ref (b0 + 367)), (1, .ref (b0 + x1)), (2, .ref (b0 + x2)), (3, .int a3), (4, .int a4)] → W p l e rm_X6_laysOne s m args below meth c H locs 0 0 (MQ below (QC (Pz P) (Wb D cy b0 NALL) b0) args s 0 0 (AA b0)) (F0 m 7 ls []) := by
    intro n7
    induction n7 with
    | zero => intro S a3 a4  H locs ls hw _ _ _ _; exact False.elim hw
    | succ n7 ih7 =>
      intro S a3 a4  H locs ls hw hP hF hS hl
      rw [wp_X6_laysOne_7] at hw
      refine lv_iload hx hb dX6_laysOne_7 (lv_at hl 4 rfl) ?_
      refine lv_aload_n hx hb dX6_laysOne_9 rfl (lv_at hl 1 rfl) ?_
      refine lv_iconst (v := 0) hx hb dX6_laysOne_10 (by decide) ?_
      obtain ⟨h11, hw⟩ := hw
      refine q_iald (k := x1) (n := 26) (i := 0) hx hb hK hP (kd_N hk1 (by decide)) hk1 hn1 h11 dX6_laysOne_11 ?_
      refine lv_icmp_gt (x := a4) (y := (gI S x1 ((0 : Int32).toNatClampNeg))) (tgt := 35) hx hb dX6_laysOne_12 (by decide) (fun c12 => ?_) (fun c12 => ?_)
      · rw [if_pos c12] at hw
        exact j35 S a3  _ _ _ hw hP hF hS (lv_sub hl [0, 1, 2, 3] rfl)
      · rw [if_neg c12] at hw
        refine lv_iload_n hx hb dX6_laysOne_15 rfl (lv_at hl 3 rfl) ?_
        refine lv_aload_n hx hb dX6_laysOne_16 rfl (lv_at hl 0 rfl) ?_
        refine lv_aload_n hx hb dX6_laysOne_17 rfl (lv_at hl 1 rfl) ?_
        refine lv_iconst (v := 2) hx hb dX6_laysOne_18 (by decide) ?_
        refine lv_iload hx hb dX6_laysOne_19 (lv_at hl 4 rfl) ?_
        refine lv_iadd hx hb dX6_laysOne_21 ?_
        obtain ⟨h22, hw⟩ := hw
        refine q_iald (k := x1) (n := 26) (i := (2 + a4)) hx hb hK hP (kd_N hk1 (by decide)) hk1 hn1 h22 dX6_laysOne_22 ?_
        refine lv_iconst (v := (-1)) hx hb dX6_laysOne_23 (by decide) ?_
        refine q_call (va_runV (As := [.int (gI S x1 ((2 + a4).toNatClampNeg)), .int (-1)]) (rest := [.int a3]) ⟨hx, hb, hml, hown, hts⟩ (c_X6_free l D cy b0 S (gI S x1 ((2 + a4).toNatClampNeg)) (-1) _ hw) (cwV 2 hts gX6_laysOne_X6_free rfl rfl rfl (by decide +kernel) ⟨(Nat.le_of_ble_eq_true rfl), (Nat.le_of_ble_eq_true rfl)⟩) (q_pV hW hP hF hS (k := 367) (ci := 6) (by decide) (cell_6 (kk_367)) rfl [.int (gI S x1 ((2 + a4).toNatClampNeg)), .int (-1)]) rfl rfl hl.1 rfl (lv_room (Nat.le_of_ble_eq_true rfl)) dX6_laysOne_24 ⟨(Nat.le_of_ble_eq_true rfl), (Nat.le_of_ble_eq_true rfl)⟩) hS (fun v24 S24 t24 H locs hh hp hB hz hk9 hS => ?_)
        obtain ⟨r24, rfl, hw⟩ := hp
        have hP : HP D cy b0 NALL S24 H := by rw [← hh]; exact hB.1
        have hF := hB.2
        try dsimp only at hw
        refine W.eq (g2 := F0 m 27 ls [.int r24, .int a3]) rfl ?_
        refine lv_iand hx hb dX6_laysOne_27 ?_
        refine lv_topi (fun y28 e28 => ?_)
        have hw := hw y28 e28
        refine lv_istore_n (lv' := [(3, .int y28), (0, .ref (b0 + 367)), (1, .ref (b0 + x1)), (2, .ref (b0 + x2)), (4, .int a4)]) hx hb dX6_laysOne_28 rfl hl (by decide) rfl (fun ls hl => ?_)
        obtain ⟨y29, e29⟩ : ∃ z : Int32, z = a4 + 1 := ⟨_, rfl⟩
        have hw := hw y29 e29
        refine lv_iinc (v := y29) (lv' := [(4, .int y29), (3, .int y28), (0, .ref (b0 + 367)), (1, .ref (b0 + x1)), (2, .ref (b0 + x2))]) hx hb dX6_laysOne_29 hl (k := 4) rfl (by rw [e29]; rfl) (by decide) rfl (fun ls hl => ?_)
        refine lv_goto (tgt := 7) hx hb dX6_laysOne_32 (by decide) ?_
        exact ih7 S24 y28 y29  _ _ _ hw hP hF hS (lv_sub hl [2, 3, 4, 1, 0] rfl)
  unfold wp_X6_laysOne at hw
  refine lv_sipush (v := 255) hx hb dX6_laysOne_0 (by decide) ?_
  refine lv_istore_n (lv' := [(3, .int 255), (0, .ref (b0 + 367)), (1, .ref (b0 + x1)), (2, .ref (b0 + x2))]) hx hb dX6_laysOne_3 rfl hl (by decide) rfl (fun ls hl => ?_)
  refine lv_iconst (v := 0) hx hb dX6_laysOne_4 (by decide) ?_
  refine lv_istore (lv' := [(4, .int 0), (3, .int 255), (0, .ref (b0 + 367)), (1, .ref (b0 + x1)), (2, .ref (b0 + x2))]) hx hb dX6_laysOne_5 hl (by decide) rfl (fun ls hl => ?_)
  obtain ⟨n7, hw⟩ := hw
  exact j7 n7 S 255 0  _ _ _ hw hP hF hS (lv_sub hl [2, 3, 4, 1, 0] rfl)
set_option maxHeartbeats 4000000 in
set_option maxRecDepth 100000 in
theorem c_X6_isBetterPair (l : Launch) (D : va_G) (cy : Nat → ClassId) (b0 : Nat) (S : St)   (P : Bool → St → Prop) (hw : wp_X6_isBetterPair S  P) : Met l yX6_isBetterPair wsX6_isBetterPair rm_X6_isBetterPair (va_Pc [.ref (b0 + 367)] (Wd D cy b0 NALL S)) (QC (Pz P) (Wb D cy b0 NALL) b0) 0 0 (AA b0) := by
  refine Met.ofW (cc := cX6_isBetterPair) (maxL := 3) (ret := (some .boolean)) (by decide) rfl ?_
  intro p e s m args below meth c s₁ B hml hv
  obtain ⟨hargs, hW, hP, hF⟩ := hv
  have hx := B.exec
  have hb := B.bytes
  have hr := B.returns
  have hts := atoms_spec (ws := wsX6_isBetterPair) B.pre
  have hown : s.vm.findClass RX6 = some m.cls := findClass_of_methodNamed B.named
  have hlocks := B.notSynchronized
  have hK := hW.1
  have hS : va_S (AA b0) s.heap s.heap [] := va_S.rf
  have hE : entryFrame m args 3 = F0 m 0 ((lg_sl [.ref (b0 + 367)] ++ List.replicate (3 - (lg_sl [.ref (b0 + 367)]).length) Slot.unset).toArray) [] := by rw [hargs]; exact lg_entry_eq m _ _
  rw [hE]
  have hl := lv_entry [.ref (b0 + 367)] (n := 3) (Nat.le_of_ble_eq_true rfl)
  generalize (lg_sl [.ref (b0 + 367)] ++ List.replicate (3 - (lg_sl [.ref (b0 + 367)]).length) Slot.unset).toArray = ls at hl ⊢
  have hl : lv_has ls 3 [(0, .ref (b0 + 367))] := hl
  have j47 : ∀ (S : St) (a1 : Int32) (a2 : Int32), ∀ (H : Heap) (locs : List Loc) (ls : Array Slot), wp_X6_isBetterPair_47 P S a1 a2 → HP D cy b0 NALL S H → Fx S → va_S (AA b0) s.heap H locs → lv_has ls 3 [(0, .ref (b0 + 367)), (1, .int a1), (2, .int a2)] → W p l e rm_X6_isBetterPair s m args below meth c H locs 0 0 (MQ below (QC (Pz P) (Wb D cy b0 NALL) b0) args s 0 0 (AA b0)) (F0 m 47 ls []) := by
    intro S a1 a2  H locs ls hw hP hF hS hl
    unfold wp_X6_isBetterPair_47 at hw
    refine lv_aload_n hx hb dX6_isBetterPair_47 rfl (lv_at hl 0 rfl) ?_
    refine gf_6_22 (k := 367) hx hb hts (by decide +kernel) hown hK hP (by decide) (kk_367) (q := 384) (hF.1 367 22 384 ff_367_22) (hts (.fieldLink RX6 66 "OpticmeshModel" "best" "[I") (by decide +kernel)) dX6_isBetterPair_48 ?_
    refine lv_bipush (v := 7) hx hb dX6_isBetterPair_51 (by decide) ?_
    obtain ⟨h53, hw⟩ := hw
    refine q_iald (k := 384) (n := 10) (i := 7) hx hb hK hP (by decide) (kk_384) (ll_384) h53 dX6_isBetterPair_53 ?_
    refine lv_if_eq (x := (gI S 384 ((7 : Int32).toNatClampNeg))) (tgt := 62) hx hb dX6_isBetterPair_54 (by decide) (fun c54 => ?_) (fun c54 => ?_)
    · rw [if_pos c54] at hw
      refine lv_iconst (v := 1) hx hb dX6_isBetterPair_62 (by decide) ?_
      refine lv_goto (tgt := 67) hx hb dX6_isBetterPair_63 (by decide) ?_
      exact q_zret (v := true) hx hb hr hP hF hS hw dX6_isBetterPair_67 hlocks
    · rw [if_neg c54] at hw
      refine lv_iload_n hx hb dX6_isBetterPair_57 rfl (lv_at hl 1 rfl) ?_
      refine lv_iload_n hx hb dX6_isBetterPair_58 rfl (lv_at hl 2 rfl) ?_
      refine lv_icmp_ge (x := a1) (y := a2) (tgt := 66) hx hb dX6_isBetterPair_59 (by decide) (fun c59 => ?_) (fun c59 => ?_)
      · rw [if_pos c59] at hw
        refine lv_iconst (v := 0) hx hb dX6_isBetterPair_66 (by decide) ?_
        exact q_zret (v := false) hx hb hr hP hF hS hw dX6_isBetterPair_67 hlocks
      · rw [if_neg c59] at hw
        refine lv_iconst (v := 1) hx hb dX6_isBetterPair_62 (by decide) ?_
        refine lv_goto (tgt := 67) hx hb dX6_isBetterPair_63 (by decide) ?_
        exact q_zret (v := true) hx hb hr hP hF hS hw dX6_isBetterPair_67 hlocks
  unfold wp_X6_isBetterPair at hw
  refine lv_aload_n hx hb dX6_isBetterPair_0 rfl (lv_at hl 0 rfl) ?_
  refine gf_6_20 (k := 367) hx hb hts (by decide +kernel) hown hK hP (by decide) (kk_367) (q := 382) (hF.1 367 20 382 ff_367_20) (hts (.fieldLink RX6 60 "OpticmeshModel" "trial" "[I") (by decide +kernel)) dX6_isBetterPair_1 ?_
  refine lv_bipush (v := 8) hx hb dX6_isBetterPair_4 (by decide) ?_
  obtain ⟨h6, hw⟩ := hw
  refine q_iald (k := 382) (n := 10) (i := 8) hx hb hK hP (by decide) (kk_382) (ll_382) h6 dX6_isBetterPair_6 ?_
  refine lv_aload_n hx hb dX6_isBetterPair_7 rfl (lv_at hl 0 rfl) ?_
  refine gf_6_21 (k := 367) hx hb hts (by decide +kernel) hown hK hP (by decide) (kk_367) (q := 383) (hF.1 367 21 383 ff_367_21) (hts (.fieldLink RX6 63 "OpticmeshModel" "other" "[I") (by decide +kernel)) dX6_isBetterPair_8 ?_
  refine lv_bipush (v := 8) hx hb dX6_isBetterPair_11 (by decide) ?_
  obtain ⟨h13, hw⟩ := hw
  refine q_iald (k := 383) (n := 10) (i := 8) hx hb hK hP (by decide) (kk_383) (ll_383) h13 dX6_isBetterPair_13 ?_
  refine lv_iadd hx hb dX6_isBetterPair_14 ?_
  refine lv_topi (fun y15 e15 => ?_)
  have hw := hw y15 e15
  refine lv_istore_n (lv' := [(1, .int y15), (0, .ref (b0 + 367))]) hx hb dX6_isBetterPair_15 rfl hl (by decide) rfl (fun ls hl => ?_)
  refine lv_aload_n hx hb dX6_isBetterPair_16 rfl (lv_at hl 1 rfl) ?_
  refine gf_6_22 (k := 367) hx hb hts (by decide +kernel) hown hK hP (by decide) (kk_367) (q := 384) (hF.1 367 22 384 ff_367_22) (hts (.fieldLink RX6 66 "OpticmeshModel" "best" "[I") (by decide +kernel)) dX6_isBetterPair_17 ?_
  refine lv_bipush (v := 8) hx hb dX6_isBetterPair_20 (by decide) ?_
  obtain ⟨h22, hw⟩ := hw
  refine q_iald (k := 384) (n := 10) (i := 8) hx hb hK hP (by decide) (kk_384) (ll_384) h22 dX6_isBetterPair_22 ?_
  refine lv_aload_n hx hb dX6_isBetterPair_23 rfl (lv_at hl 1 rfl) ?_
  refine gf_6_23 (k := 367) hx hb hts (by decide +kernel) hown hK hP (by decide) (kk_367) (q := 385) (hF.1 367 23 385 ff_367_23) (hts (.fieldLink RX6 69 "OpticmeshModel" "bestOther" "[I") (by decide +kernel)) dX6_isBetterPair_24 ?_
  refine lv_bipush (v := 8) hx hb dX6_isBetterPair_27 (by decide) ?_
  obtain ⟨h29, hw⟩ := hw
  refine q_iald (k := 385) (n := 10) (i := 8) hx hb hK hP (by decide) (kk_385) (ll_385) h29 dX6_isBetterPair_29 ?_
  refine lv_iadd hx hb dX6_isBetterPair_30 ?_
  refine lv_topi (fun y31 e31 => ?_)
  have hw := hw y31 e31
  refine lv_istore_n (lv' := [(2, .int y31), (1, .int y15), (0, .ref (b0 + 367))]) hx hb dX6_isBetterPair_31 rfl hl (by decide) rfl (fun ls hl => ?_)
  refine lv_aload_n hx hb dX6_isBetterPair_32 rfl (lv_at hl 2 rfl) ?_
  refine gf_6_22 (k := 367) hx hb hts (by decide +kernel) hown hK hP (by decide) (kk_367) (q := 384) (hF.1 367 22 384 ff_367_22) (hts (.fieldLink RX6 66 "OpticmeshModel" "best" "[I") (by decide +kernel)) dX6_isBetterPair_33 ?_
  refine lv_bipush (v := 7) hx hb dX6_isBetterPair_36 (by decide) ?_
  obtain ⟨h38, hw⟩ := hw
  refine q_iald (k := 384) (n := 10) (i := 7) hx hb hK hP (by decide) (kk_384) (ll_384) h38 dX6_isBetterPair_38 ?_
  refine lv_if_eq (x := (gI S 384 ((7 : Int32).toNatClampNeg))) (tgt := 47) hx hb dX6_isBetterPair_39 (by decide) (fun c39 => ?_) (fun c39 => ?_)
  · rw [if_pos c39] at hw
    exact j47 S y15 y31  _ _ _ hw hP hF hS (lv_sub hl [2, 1, 0] rfl)
  · rw [if_neg c39] at hw
    refine lv_iload_n hx hb dX6_isBetterPair_42 rfl (lv_at hl 1 rfl) ?_
    refine lv_iload_n hx hb dX6_isBetterPair_43 rfl (lv_at hl 0 rfl) ?_
    refine lv_icmp_eq (x := y15) (y := y31) (tgt := 68) hx hb dX6_isBetterPair_44 (by decide) (fun c44 => ?_) (fun c44 => ?_)
    · rw [if_pos c44] at hw
      refine lv_aload_n hx hb dX6_isBetterPair_68 rfl (lv_at hl 2 rfl) ?_
      refine gf_6_20 (k := 367) hx hb hts (by decide +kernel) hown hK hP (by decide) (kk_367) (q := 382) (hF.1 367 20 382 ff_367_20) (hts (.fieldLink RX6 60 "OpticmeshModel" "trial" "[I") (by decide +kernel)) dX6_isBetterPair_69 ?_
      refine lv_aload_n hx hb dX6_isBetterPair_72 rfl (lv_at hl 2 rfl) ?_
      refine gf_6_22 (k := 367) hx hb hts (by decide +kernel) hown hK hP (by decide) (kk_367) (q := 384) (hF.1 367 22 384 ff_367_22) (hts (.fieldLink RX6 66 "OpticmeshModel" "best" "[I") (by decide +kernel)) dX6_isBetterPair_73 ?_
      refine q_call (va_runS (As := [.ref (b0 + 382), .ref (b0 + 384)]) (rest := []) ⟨hx, hb, hml, hown, hts⟩ (c_X6_isAhead l D cy b0 S 382 384 (kk_382) (ll_382) (kk_384) (ll_384) _ hw) (va_cwS 2 hts gX6_isBetterPair_X6_isAhead rfl rfl rfl (by decide +kernel) ⟨(Nat.le_of_ble_eq_true rfl), (Nat.le_of_ble_eq_true rfl)⟩) (q_pS hW hP hF hS [.ref (b0 + 382), .ref (b0 + 384)]) rfl rfl hl.1 rfl (lv_room (Nat.le_of_ble_eq_true rfl)) dX6_isBetterPair_76 ⟨(Nat.le_of_ble_eq_true rfl), (Nat.le_of_ble_eq_true rfl)⟩) hS (fun v76 S76 t76 H locs hh hp hB hz hk9 hS => ?_)
      obtain ⟨r76, rfl, hw⟩ := hp
      have hP : HP D cy b0 NALL S76 H := by rw [← hh]; exact hB.1
      have hF := hB.2
      try dsimp only at hw
      refine W.eq (g2 := F0 m 79 ls [.int (b2i r76)]) rfl ?_
      refine lv_if_ne (x := b2i r76) (tgt := 110) hx hb dX6_isBetterPair_79 (by decide) (fun c79 => ?_) (fun c79 => ?_)
      · have c79 := b2i_n c79
        rw [if_pos c79] at hw
        refine lv_iconst (v := 1) hx hb dX6_isBetterPair_110 (by decide) ?_
        refine lv_goto (tgt := 115) hx hb dX6_isBetterPair_111 (by decide) ?_
        exact q_zret (v := true) hx hb hr hP hF hS hw dX6_isBetterPair_115 hlocks
      · have c79 := b2i_z c79
        rw [if_neg c79] at hw
        refine lv_aload_n hx hb dX6_isBetterPair_82 rfl (lv_at hl 2 rfl) ?_
        refine gf_6_22 (k := 367) hx hb hts (by decide +kernel) hown hK hP (by decide) (kk_367) (q := 384) (hF.1 367 22 384 ff_367_22) (hts (.fieldLink RX6 66 "OpticmeshModel" "best" "[I") (by decide +kernel)) dX6_isBetterPair_83 ?_
        refine lv_aload_n hx hb dX6_isBetterPair_86 rfl (lv_at hl 2 rfl) ?_
        refine gf_6_20 (k := 367) hx hb hts (by decide +kernel) hown hK hP (by decide) (kk_367) (q := 382) (hF.1 367 20 382 ff_367_20) (hts (.fieldLink RX6 60 "OpticmeshModel" "trial" "[I") (by decide +kernel)) dX6_isBetterPair_87 ?_
        refine q_call (va_runS (As := [.ref (b0 + 384), .ref (b0 + 382)]) (rest := []) ⟨hx, hb, hml, hown, hts⟩ (c_X6_isAhead l D cy b0 S76 384 382 (kk_384) (ll_384) (kk_382) (ll_382) _ hw) (va_cwS 2 hts gX6_isBetterPair_X6_isAhead rfl rfl rfl (by decide +kernel) ⟨(Nat.le_of_ble_eq_true rfl), (Nat.le_of_ble_eq_true rfl)⟩) (q_pS hW hP hF hS [.ref (b0 + 384), .ref (b0 + 382)]) rfl rfl hl.1 rfl (lv_room (Nat.le_of_ble_eq_true rfl)) dX6_isBetterPair_90 ⟨(Nat.le_of_ble_eq_true rfl), (Nat.le_of_ble_eq_true rfl)⟩) hS (fun v90 S90 t90 H locs hh hp hB hz hk9 hS => ?_)
        obtain ⟨r90, rfl, hw⟩ := hp
        have hP : HP D cy b0 NALL S90 H := by rw [← hh]; exact hB.1
        have hF := hB.2
        try dsimp only at hw
        refine W.eq (g2 := F0 m 93 ls [.int (b2i r90)]) rfl ?_
        refine lv_if_ne (x := b2i r90) (tgt := 114) hx hb dX6_isBetterPair_93 (by decide) (fun c93 => ?_) (fun c93 => ?_)
        · have c93 := b2i_n c93
          rw [if_pos c93] at hw
          refine lv_iconst (v := 0) hx hb dX6_isBetterPair_114 (by decide) ?_
          exact q_zret (v := false) hx hb hr hP hF hS hw dX6_isBetterPair_115 hlocks
        · have c93 := b2i_z c93
          rw [if_neg c93] at hw
          refine lv_aload_n hx hb dX6_isBetterPair_96 rfl (lv_at hl 2 rfl) ?_
          refine gf_6_21 (k := 367) hx hb hts (by decide +kernel) hown hK hP (by decide) (kk_367) (q := 383) (hF.1 367 21 383 ff_367_21) (hts (.fieldLink RX6 63 "OpticmeshModel" "other" "[I") (by decide +kernel)) dX6_isBetterPair_97 ?_
          refine lv_aload_n hx hb dX6_isBetterPair_100 rfl (lv_at hl 2 rfl) ?_
          refine gf_6_23 (k := 367) hx hb hts (by decide +kernel) hown hK hP (by decide) (kk_367) (q := 385) (hF.1 367 23 385 ff_367_23) (hts (.fieldLink RX6 69 "OpticmeshModel" "bestOther" "[I") (by decide +kernel)) dX6_isBetterPair_101 ?_
          refine q_call (va_runS (As := [.ref (b0 + 383), .ref (b0 + 385)]) (rest := []) ⟨hx, hb, hml, hown, hts⟩ (c_X6_isAhead l D cy b0 S90 383 385 (kk_383) (ll_383) (kk_385) (ll_385) _ hw) (va_cwS 2 hts gX6_isBetterPair_X6_isAhead rfl rfl rfl (by decide +kernel) ⟨(Nat.le_of_ble_eq_true rfl), (Nat.le_of_ble_eq_true rfl)⟩) (q_pS hW hP hF hS [.ref (b0 + 383), .ref (b0 + 385)]) rfl rfl hl.1 rfl (lv_room (Nat.le_of_ble_eq_true rfl)) dX6_isBetterPair_104 ⟨(Nat.le_of_ble_eq_true rfl), (Nat.le_of_ble_eq_true rfl)⟩) hS (fun v104 S104 t104 H locs hh hp hB hz hk9 hS => ?_)
          obtain ⟨r104, rfl, hw⟩ := hp
          have hP : HP D cy b0 NALL S104 H := by rw [← hh]; exact hB.1
          have hF := hB.2
          try dsimp only at hw
          refine W.eq (g2 := F0 m 107 ls [.int (b2i r104)]) rfl ?_
          refine lv_if_eq (x := b2i r104) (tgt := 114) hx hb dX6_isBetterPair_107 (by decide) (fun c107 => ?_) (fun c107 => ?_)
          · have c107 := b2i_z c107
            rw [if_neg c107] at hw
            refine lv_iconst (v := 0) hx hb dX6_isBetterPair_114 (by decide) ?_
            exact q_zret (v := false) hx hb hr hP hF hS hw dX6_isBetterPair_115 hlocks
          · have c107 := b2i_n c107
            rw [if_pos c107] at hw
            refine lv_iconst (v := 1) hx hb dX6_isBetterPair_110 (by decide) ?_
            refine lv_goto (tgt := 115) hx hb dX6_isBetterPair_111 (by decide) ?_
            exact q_zret (v := true) hx hb hr hP hF hS hw dX6_isBetterPair_115 hlocks
    · rw [if_neg c44] at hw
      exact j47 S y15 y31  _ _ _ hw hP hF hS (lv_sub hl [2, 1, 0] rfl)
set_option maxHeartbeats 4000000 in
set_option maxRecDepth 100000 in
theorem c_X6_findsPair (l : Launch) (D : va_G) (cy : Nat → ClassId) (b0 : Nat) (S : St) (x1 : Int32) (x2 : Int32)  (P : Bool → St → Prop) (hw : wp_X6_findsPair S x1 x2 P) : Met l yX6_findsPair wsX6_findsPair rm_X6_findsPair (va_Pc [.ref (b0 + 367), .int x1, .int x2] (Wd D cy b0 NALL S)) (QC (Pz P) (Wb D cy b0 NALL) b0) 0 0 (AA b0) := by
  refine Met.ofW (cc := cX6_findsPair) (maxL := 5) (ret := (some .boolean)) (by decide) rfl ?_
  intro p e s m args below meth c s₁ B hml hv
  obtain ⟨hargs, hW, hP, hF⟩ := hv
  have hx := B.exec
  have hb := B.bytes
  have hr := B.returns
  have hts := atoms_spec (ws := wsX6_findsPair) B.pre
  have hown : s.vm.findClass RX6 = some m.cls := findClass_of_methodNamed B.named
  have hlocks := B.notSynchronized
  have hK := hW.1
  have hS : va_S (AA b0) s.heap s.heap [] := va_S.rf
  have hE : entryFrame m args 5 = F0 m 0 ((lg_sl [.ref (b0 + 367), .int x1, .int x2] ++ List.replicate (5 - (lg_sl [.ref (b0 + 367), .int x1, .int x2]).length) Slot.unset).toArray) [] := by rw [hargs]; exact lg_entry_eq m _ _
  rw [hE]
  have hl := lv_entry [.ref (b0 + 367), .int x1, .int x2] (n := 5) (Nat.le_of_ble_eq_true rfl)
  generalize (lg_sl [.ref (b0 + 367), .int x1, .int x2] ++ List.replicate (5 - (lg_sl [.ref (b0 + 367), .int x1, .int x2]).length) Slot.unset).toArray = ls at hl ⊢
  have hl : lv_has ls 5 [(0, .ref (b0 + 367)), (1, .int x1), (2, .int x2)] := hl
  have j167 : ∀ (S : St) , ∀ (H : Heap) (locs : List Loc) (ls : Array Slot), wp_X6_findsPair_167 x1 x2 P S → HP D cy b0 NALL S H → Fx S → va_S (AA b0) s.heap H locs → lv_has ls 5 [(0, .ref (b0 + 367))] → W p l e rm_X6_findsPair s m args below meth c H locs 0 0 (MQ below (QC (Pz P) (Wb D cy b0 NALL) b0) args s 0 0 (AA b0)) (F0 m 167 ls []) := by
    intro S  H locs ls hw hP hF hS hl
    unfold wp_X6_findsPair_167 at hw
    refine lv_aload_n hx hb dX6_findsPair_167 rfl (lv_at hl 0 rfl) ?_
    refine gf_6_22 (k := 367) hx hb hts (by decide +kernel) hown hK hP (by decide) (kk_367) (q := 384) (hF.1 367 22 384 ff_367_22) (hts (.fieldLink RX6 66 "OpticmeshModel" "best" "[I") (by decide +kernel)) dX6_findsPair_168 ?_
    refine lv_bipush (v := 7) hx hb dX6_findsPair_171 (by decide) ?_
    obtain ⟨h173, hw⟩ := hw
    refine q_iald (k := 384) (n := 10) (i := 7) hx hb hK hP (by decide) (kk_384) (ll_384) h173 dX6_findsPair_173 ?_
    refine lv_if_le (x := (gI S 384 ((7 : Int32).toNatClampNeg))) (tgt := 181) hx hb dX6_findsPair_174 (by decide) (fun c174 => ?_) (fun c174 => ?_)
    · rw [if_pos c174] at hw
      refine lv_iconst (v := 0) hx hb dX6_findsPair_181 (by decide) ?_
      exact q_zret (v := false) hx hb hr hP hF hS hw dX6_findsPair_182 hlocks
    · rw [if_neg c174] at hw
      refine lv_iconst (v := 1) hx hb dX6_findsPair_177 (by decide) ?_
      refine lv_goto (tgt := 182) hx hb dX6_findsPair_178 (by decide) ?_
      exact q_zret (v := true) hx hb hr hP hF hS hw dX6_findsPair_182 hlocks
  have j16 : ∀ (n16 : Nat), ∀ (S : St) , ∀ (H : Heap) (locs : List Loc) (ls : Array Slot), wp_X6_findsPair_16 x1 x2 P n16 S → HP D cy b0 NALL S H → Fx S → va_S (AA b0) s.heap H locs → lv_has ls 5 [(0, .ref (b0 + 367)), (1, .int x1), (2, .int x2)] → W p l e rm_X6_findsPair s m args below meth c H locs 0 0 (MQ below (QC (Pz P) (Wb D cy b0 NALL) b0) args s 0 0 (AA b0)) (F0 m 16 ls []) := by
    intro n16
    induction n16 with
    | zero => intro S  H locs ls hw _ _ _ _; exact False.elim hw
    | succ n16 ih16 =>
      have j164 : ∀ (S : St) , ∀ (H : Heap) (locs : List Loc) (ls : Array Slot), wp_X6_findsPair_164 x1 x2 P (fun S => wp_X6_findsPair_16 x1 x2 P n16 S) S → HP D cy b0 NALL S H → Fx S → va_S (AA b0) s.heap H locs → lv_has ls 5 [(0, .ref (b0 + 367)), (1, .int x1), (2, .int x2)] → W p l e rm_X6_findsPair s m args below meth c H locs 0 0 (MQ below (QC (Pz P) (Wb D cy b0 NALL) b0) args s 0 0 (AA b0)) (F0 m 164 ls []) := by
        intro S  H locs ls hw hP hF hS hl
        unfold wp_X6_findsPair_164 at hw
        refine lv_goto (tgt := 16) hx hb dX6_findsPair_164 (by decide) ?_
        exact ih16 S  _ _ _ hw hP hF hS (lv_sub hl [0, 1, 2] rfl)
      have j90 : ∀ (n90 : Nat), ∀ (S : St) (a3 : Int32), ∀ (H : Heap) (locs : List Loc) (ls : Array Slot), wp_X6_findsPair_90 x1 x2 P (fun S => wp_X6_findsPair_16 x1 x2 P n16 S) n90 S a3 → HP D cy b0 NALL S H → Fx S → va_S (AA b0) s.heap H locs → lv_has ls 5 [(0, .ref (b0 + 367)), (1, .int x1), (2, .int x2), (3, .int a3)] → W p l e rm_X6_findsPair s m args below meth c H locs 0 0 (MQ below (QC (Pz P) (Wb D cy b0 NALL) b0) args s 0 0 (AA b0)) (F0 m 90 ls []) := by
        intro n90
        induction n90 with
        | zero => intro S a3  H locs ls hw _ _ _ _; exact False.elim hw
        | succ n90 ih90 =>
          intro S a3  H locs ls hw hP hF hS hl
          rw [wp_X6_findsPair_90] at hw
          refine lv_aload_n hx hb dX6_findsPair_90 rfl (lv_at hl 0 rfl) ?_
          refine lv_aload_n hx hb dX6_findsPair_91 rfl (lv_at hl 0 rfl) ?_
          refine gf_6_19 (k := 367) hx hb hts (by decide +kernel) hown hK hP (by decide) (kk_367) (q := 381) (hF.1 367 19 381 ff_367_19) (hts (.fieldLink RX6 57 "OpticmeshModel" "second" "[I") (by decide +kernel)) dX6_findsPair_92 ?_
          refine lv_iload_n hx hb dX6_findsPair_95 rfl (lv_at hl 2 rfl) ?_
          refine lv_iload_n hx hb dX6_findsPair_96 rfl (lv_at hl 3 rfl) ?_
          refine q_call (va_runV (As := [.ref (b0 + 381), .int x2, .int a3]) (rest := []) ⟨hx, hb, hml, hown, hts⟩ (c_X6_goesOn l D cy b0 S 381 x2 a3 (kk_381) (ll_381) _ hw) (cwV 3 hts gX6_findsPair_X6_goesOn rfl rfl rfl (by decide +kernel) ⟨(Nat.le_of_ble_eq_true rfl), (Nat.le_of_ble_eq_true rfl)⟩) (q_pV hW hP hF hS (k := 367) (ci := 6) (by decide) (cell_6 (kk_367)) rfl [.ref (b0 + 381), .int x2, .int a3]) rfl rfl hl.1 rfl (lv_room (Nat.le_of_ble_eq_true rfl)) dX6_findsPair_97 ⟨(Nat.le_of_ble_eq_true rfl), (Nat.le_of_ble_eq_true rfl)⟩) hS (fun v97 S97 t97 H locs hh hp hB hz hk9 hS => ?_)
          obtain ⟨r97, rfl, hw⟩ := hp
          have hP : HP D cy b0 NALL S97 H := by rw [← hh]; exact hB.1
          have hF := hB.2
          try dsimp only at hw
          refine W.eq (g2 := F0 m 100 ls [.int (b2i r97)]) rfl ?_
          refine lv_if_eq (x := b2i r97) (tgt := 164) hx hb dX6_findsPair_100 (by decide) (fun c100 => ?_) (fun c100 => ?_)
          · have c100 := b2i_z c100
            rw [if_neg c100] at hw
            exact j164 S97  _ _ _ hw hP hF hS (lv_sub hl [0, 1, 2] rfl)
          · have c100 := b2i_n c100
            rw [if_pos c100] at hw
            refine lv_aload_n hx hb dX6_findsPair_103 rfl (lv_at hl 0 rfl) ?_
            refine lv_aload_n hx hb dX6_findsPair_104 rfl (lv_at hl 0 rfl) ?_
            refine gf_6_19 (k := 367) hx hb hts (by decide +kernel) hown hK hP (by decide) (kk_367) (q := 381) (hF.1 367 19 381 ff_367_19) (hts (.fieldLink RX6 57 "OpticmeshModel" "second" "[I") (by decide +kernel)) dX6_findsPair_105 ?_
            refine lv_aload_n hx hb dX6_findsPair_108 rfl (lv_at hl 0 rfl) ?_
            refine gf_6_21 (k := 367) hx hb hts (by decide +kernel) hown hK hP (by decide) (kk_367) (q := 383) (hF.1 367 21 383 ff_367_21) (hts (.fieldLink RX6 63 "OpticmeshModel" "other" "[I") (by decide +kernel)) dX6_findsPair_109 ?_
            refine q_call (va_runV (As := [.ref (b0 + 381), .ref (b0 + 383)]) (rest := []) ⟨hx, hb, hml, hown, hts⟩ (c_X6_laysOne l D cy b0 S97 381 383 (kk_381) (ll_381) (kk_383) (ll_383) _ hw) (cwV 2 hts gX6_findsPair_X6_laysOne rfl rfl rfl (by decide +kernel) ⟨(Nat.le_of_ble_eq_true rfl), (Nat.le_of_ble_eq_true rfl)⟩) (q_pV hW hP hF hS (k := 367) (ci := 6) (by decide) (cell_6 (kk_367)) rfl [.ref (b0 + 381), .ref (b0 + 383)]) rfl rfl hl.1 rfl (lv_room (Nat.le_of_ble_eq_true rfl)) dX6_findsPair_112 ⟨(Nat.le_of_ble_eq_true rfl), (Nat.le_of_ble_eq_true rfl)⟩) hS (fun v112 S112 t112 H locs hh hp hB hz hk9 hS => ?_)
            obtain ⟨r112, rfl, hw⟩ := hp
            have hP : HP D cy b0 NALL S112 H := by rw [← hh]; exact hB.1
            have hF := hB.2
            try dsimp only at hw
            refine W.eq (g2 := F0 m 115 ls [.int (b2i r112)]) rfl ?_
            refine lv_if_eq (x := b2i r112) (tgt := 90) hx hb dX6_findsPair_115 (by decide) (fun c115 => ?_) (fun c115 => ?_)
            · have c115 := b2i_z c115
              rw [if_neg c115] at hw
              exact ih90 S112 a3  _ _ _ hw hP hF hS (lv_sub hl [0, 1, 2, 3] rfl)
            · have c115 := b2i_n c115
              rw [if_pos c115] at hw
              refine lv_aload_n hx hb dX6_findsPair_118 rfl (lv_at hl 0 rfl) ?_
              refine gf_6_20 (k := 367) hx hb hts (by decide +kernel) hown hK hP (by decide) (kk_367) (q := 382) (hF.1 367 20 382 ff_367_20) (hts (.fieldLink RX6 60 "OpticmeshModel" "trial" "[I") (by decide +kernel)) dX6_findsPair_119 ?_
              refine lv_aload_n hx hb dX6_findsPair_122 rfl (lv_at hl 0 rfl) ?_
              refine gf_6_21 (k := 367) hx hb hts (by decide +kernel) hown hK hP (by decide) (kk_367) (q := 383) (hF.1 367 21 383 ff_367_21) (hts (.fieldLink RX6 63 "OpticmeshModel" "other" "[I") (by decide +kernel)) dX6_findsPair_123 ?_
              refine q_call (va_runS (As := [.ref (b0 + 382), .ref (b0 + 383)]) (rest := []) ⟨hx, hb, hml, hown, hts⟩ (c_X6_isAhead l D cy b0 S112 382 383 (kk_382) (ll_382) (kk_383) (ll_383) _ hw) (va_cwS 2 hts gX6_findsPair_X6_isAhead rfl rfl rfl (by decide +kernel) ⟨(Nat.le_of_ble_eq_true rfl), (Nat.le_of_ble_eq_true rfl)⟩) (q_pS hW hP hF hS [.ref (b0 + 382), .ref (b0 + 383)]) rfl rfl hl.1 rfl (lv_room (Nat.le_of_ble_eq_true rfl)) dX6_findsPair_126 ⟨(Nat.le_of_ble_eq_true rfl), (Nat.le_of_ble_eq_true rfl)⟩) hS (fun v126 S126 t126 H locs hh hp hB hz hk9 hS => ?_)
              obtain ⟨r126, rfl, hw⟩ := hp
              have hP : HP D cy b0 NALL S126 H := by rw [← hh]; exact hB.1
              have hF := hB.2
              try dsimp only at hw
              refine W.eq (g2 := F0 m 129 ls [.int (b2i r126)]) rfl ?_
              refine lv_if_eq (x := b2i r126) (tgt := 90) hx hb dX6_findsPair_129 (by decide) (fun c129 => ?_) (fun c129 => ?_)
              · have c129 := b2i_z c129
                rw [if_neg c129] at hw
                exact ih90 S126 a3  _ _ _ hw hP hF hS (lv_sub hl [0, 1, 2, 3] rfl)
              · have c129 := b2i_n c129
                rw [if_pos c129] at hw
                refine lv_aload_n hx hb dX6_findsPair_132 rfl (lv_at hl 0 rfl) ?_
                refine q_call (va_runV (As := []) (rest := []) ⟨hx, hb, hml, hown, hts⟩ (c_X6_isBetterPair l D cy b0 S126 _ hw) (cwV 0 hts gX6_findsPair_X6_isBetterPair rfl rfl rfl (by decide +kernel) ⟨(Nat.le_of_ble_eq_true rfl), (Nat.le_of_ble_eq_true rfl)⟩) (q_pV hW hP hF hS (k := 367) (ci := 6) (by decide) (cell_6 (kk_367)) rfl []) rfl rfl hl.1 rfl (lv_room (Nat.le_of_ble_eq_true rfl)) dX6_findsPair_133 ⟨(Nat.le_of_ble_eq_true rfl), (Nat.le_of_ble_eq_true rfl)⟩) hS (fun v133 S133 t133 H locs hh hp hB hz hk9 hS => ?_)
                obtain ⟨r133, rfl, hw⟩ := hp
                have hP : HP D cy b0 NALL S133 H := by rw [← hh]; exact hB.1
                have hF := hB.2
                try dsimp only at hw
                refine W.eq (g2 := F0 m 136 ls [.int (b2i r133)]) rfl ?_
                refine lv_if_eq (x := b2i r133) (tgt := 90) hx hb dX6_findsPair_136 (by decide) (fun c136 => ?_) (fun c136 => ?_)
                · have c136 := b2i_z c136
                  rw [if_neg c136] at hw
                  exact ih90 S133 a3  _ _ _ hw hP hF hS (lv_sub hl [0, 1, 2, 3] rfl)
                · have c136 := b2i_n c136
                  rw [if_pos c136] at hw
                  refine lv_aload_n hx hb dX6_findsPair_139 rfl (lv_at hl 0 rfl) ?_
                  refine gf_6_20 (k := 367) hx hb hts (by decide +kernel) hown hK hP (by decide) (kk_367) (q := 382) (hF.1 367 20 382 ff_367_20) (hts (.fieldLink RX6 60 "OpticmeshModel" "trial" "[I") (by decide +kernel)) dX6_findsPair_140 ?_
                  refine lv_aload_n hx hb dX6_findsPair_143 rfl (lv_at hl 0 rfl) ?_
                  refine gf_6_22 (k := 367) hx hb hts (by decide +kernel) hown hK hP (by decide) (kk_367) (q := 384) (hF.1 367 22 384 ff_367_22) (hts (.fieldLink RX6 66 "OpticmeshModel" "best" "[I") (by decide +kernel)) dX6_findsPair_144 ?_
                  refine q_call (va_runS (As := [.ref (b0 + 382), .ref (b0 + 384)]) (rest := []) ⟨hx, hb, hml, hown, hts⟩ (c_X6_copies l D cy b0 S133 382 384 (kk_382) (ll_382) (kk_384) (ll_384) _ hw) (va_cwS 2 hts gX6_findsPair_X6_copies rfl rfl rfl (by decide +kernel) ⟨(Nat.le_of_ble_eq_true rfl), (Nat.le_of_ble_eq_true rfl)⟩) (q_pS hW hP hF hS [.ref (b0 + 382), .ref (b0 + 384)]) rfl rfl hl.1 rfl (lv_room (Nat.le_of_ble_eq_true rfl)) dX6_findsPair_147 ⟨(Nat.le_of_ble_eq_true rfl), (Nat.le_of_ble_eq_true rfl)⟩) hS (fun v147 S147 t147 H locs hh hp hB hz hk9 hS => ?_)
                  obtain ⟨rfl, hw⟩ := hp
                  have hP : HP D cy b0 NALL S147 H := by rw [← hh]; exact hB.1
                  have hF := hB.2
                  try dsimp only at hw
                  refine W.eq (g2 := F0 m 150 ls []) rfl ?_
                  refine lv_aload_n hx hb dX6_findsPair_150 rfl (lv_at hl 0 rfl) ?_
                  refine gf_6_21 (k := 367) hx hb hts (by decide +kernel) hown hK hP (by decide) (kk_367) (q := 383) (hF.1 367 21 383 ff_367_21) (hts (.fieldLink RX6 63 "OpticmeshModel" "other" "[I") (by decide +kernel)) dX6_findsPair_151 ?_
                  refine lv_aload_n hx hb dX6_findsPair_154 rfl (lv_at hl 0 rfl) ?_
                  refine gf_6_23 (k := 367) hx hb hts (by decide +kernel) hown hK hP (by decide) (kk_367) (q := 385) (hF.1 367 23 385 ff_367_23) (hts (.fieldLink RX6 69 "OpticmeshModel" "bestOther" "[I") (by decide +kernel)) dX6_findsPair_155 ?_
                  refine q_call (va_runS (As := [.ref (b0 + 383), .ref (b0 + 385)]) (rest := []) ⟨hx, hb, hml, hown, hts⟩ (c_X6_copies l D cy b0 S147 383 385 (kk_383) (ll_383) (kk_385) (ll_385) _ hw) (va_cwS 2 hts gX6_findsPair_X6_copies rfl rfl rfl (by decide +kernel) ⟨(Nat.le_of_ble_eq_true rfl), (Nat.le_of_ble_eq_true rfl)⟩) (q_pS hW hP hF hS [.ref (b0 + 383), .ref (b0 + 385)]) rfl rfl hl.1 rfl (lv_room (Nat.le_of_ble_eq_true rfl)) dX6_findsPair_158 ⟨(Nat.le_of_ble_eq_true rfl), (Nat.le_of_ble_eq_true rfl)⟩) hS (fun v158 S158 t158 H locs hh hp hB hz hk9 hS => ?_)
                  obtain ⟨rfl, hw⟩ := hp
                  have hP : HP D cy b0 NALL S158 H := by rw [← hh]; exact hB.1
                  have hF := hB.2
                  try dsimp only at hw
                  refine W.eq (g2 := F0 m 161 ls []) rfl ?_
                  refine lv_goto (tgt := 90) hx hb dX6_findsPair_161 (by decide) ?_
                  exact ih90 S158 a3  _ _ _ hw hP hF hS (lv_sub hl [0, 1, 2, 3] rfl)
      have j82 : ∀ (S : St) (a3 : Int32), ∀ (H : Heap) (locs : List Loc) (ls : Array Slot), wp_X6_findsPair_82 x1 x2 P (fun S => wp_X6_findsPair_16 x1 x2 P n16 S) S a3 → HP D cy b0 NALL S H → Fx S → va_S (AA b0) s.heap H locs → lv_has ls 5 [(0, .ref (b0 + 367)), (1, .int x1), (2, .int x2), (3, .int a3)] → W p l e rm_X6_findsPair s m args below meth c H locs 0 0 (MQ below (QC (Pz P) (Wb D cy b0 NALL) b0) args s 0 0 (AA b0)) (F0 m 82 ls []) := by
        intro S a3  H locs ls hw hP hF hS hl
        unfold wp_X6_findsPair_82 at hw
        refine lv_aload_n hx hb dX6_findsPair_82 rfl (lv_at hl 0 rfl) ?_
        refine gf_6_19 (k := 367) hx hb hts (by decide +kernel) hown hK hP (by decide) (kk_367) (q := 381) (hF.1 367 19 381 ff_367_19) (hts (.fieldLink RX6 57 "OpticmeshModel" "second" "[I") (by decide +kernel)) dX6_findsPair_83 ?_
        refine lv_iload_n hx hb dX6_findsPair_86 rfl (lv_at hl 1 rfl) ?_
        refine q_call (va_runS (As := [.ref (b0 + 381), .int x1]) (rest := []) ⟨hx, hb, hml, hown, hts⟩ (c_X6_sets l D cy b0 S 381 x1 (kk_381) (ll_381) _ hw) (va_cwS 2 hts gX6_findsPair_X6_sets rfl rfl rfl (by decide +kernel) ⟨(Nat.le_of_ble_eq_true rfl), (Nat.le_of_ble_eq_true rfl)⟩) (q_pS hW hP hF hS [.ref (b0 + 381), .int x1]) rfl rfl hl.1 rfl (lv_room (Nat.le_of_ble_eq_true rfl)) dX6_findsPair_87 ⟨(Nat.le_of_ble_eq_true rfl), (Nat.le_of_ble_eq_true rfl)⟩) hS (fun v87 S87 t87 H locs hh hp hB hz hk9 hS => ?_)
        obtain ⟨rfl, hw⟩ := hp
        have hP : HP D cy b0 NALL S87 H := by rw [← hh]; exact hB.1
        have hF := hB.2
        try dsimp only at hw
        refine W.eq (g2 := F0 m 90 ls []) rfl ?_
        obtain ⟨n90, hw⟩ := hw
        exact j90 n90 S87 a3  _ _ _ hw hP hF hS (lv_sub hl [0, 1, 2, 3] rfl)
      have j49 : ∀ (n49 : Nat), ∀ (S : St) (a3 : Int32) (a4 : Int32), ∀ (H : Heap) (locs : List Loc) (ls : Array Slot), wp_X6_findsPair_49 x1 x2 P (fun S => wp_X6_findsPair_16 x1 x2 P n16 S) n49 S a3 a4 → HP D cy b0 NALL S H → Fx S → va_S (AA b0) s.heap H locs → lv_has ls 5 [(0, .ref (b0 + 367)), (1, .int x1), (2, .int x2), (3, .int a3), (4, .int a4)] → W p l e rm_X6_findsPair s m args below meth c H locs 0 0 (MQ below (QC (Pz P) (Wb D cy b0 NALL) b0) args s 0 0 (AA b0)) (F0 m 49 ls []) := by
        intro n49
        induction n49 with
        | zero => intro S a3 a4  H locs ls hw _ _ _ _; exact False.elim hw
        | succ n49 ih49 =>
          intro S a3 a4  H locs ls hw hP hF hS hl
          rw [wp_X6_findsPair_49] at hw
          refine lv_iload hx hb dX6_findsPair_49 (lv_at hl 4 rfl) ?_
          refine lv_aload_n hx hb dX6_findsPair_51 rfl (lv_at hl 0 rfl) ?_
          refine gf_6_20 (k := 367) hx hb hts (by decide +kernel) hown hK hP (by decide) (kk_367) (q := 382) (hF.1 367 20 382 ff_367_20) (hts (.fieldLink RX6 60 "OpticmeshModel" "trial" "[I") (by decide +kernel)) dX6_findsPair_52 ?_
          refine lv_bipush (v := 7) hx hb dX6_findsPair_55 (by decide) ?_
          obtain ⟨h57, hw⟩ := hw
          refine q_iald (k := 382) (n := 10) (i := 7) hx hb hK hP (by decide) (kk_382) (ll_382) h57 dX6_findsPair_57 ?_
          refine lv_icmp_ge (x := a4) (y := (gI S 382 ((7 : Int32).toNatClampNeg))) (tgt := 82) hx hb dX6_findsPair_58 (by decide) (fun c58 => ?_) (fun c58 => ?_)
          · rw [if_pos c58] at hw
            exact j82 S a3  _ _ _ hw hP hF hS (lv_sub hl [0, 1, 2, 3] rfl)
          · rw [if_neg c58] at hw
            refine lv_iload_n hx hb dX6_findsPair_61 rfl (lv_at hl 3 rfl) ?_
            refine lv_iconst (v := 1) hx hb dX6_findsPair_62 (by decide) ?_
            refine lv_aload_n hx hb dX6_findsPair_63 rfl (lv_at hl 0 rfl) ?_
            refine gf_6_20 (k := 367) hx hb hts (by decide +kernel) hown hK hP (by decide) (kk_367) (q := 382) (hF.1 367 20 382 ff_367_20) (hts (.fieldLink RX6 60 "OpticmeshModel" "trial" "[I") (by decide +kernel)) dX6_findsPair_64 ?_
            refine lv_iload hx hb dX6_findsPair_67 (lv_at hl 4 rfl) ?_
            obtain ⟨h69, hw⟩ := hw
            refine q_iald (k := 382) (n := 10) (i := a4) hx hb hK hP (by decide) (kk_382) (ll_382) h69 dX6_findsPair_69 ?_
            refine lv_bipush (v := 10) hx hb dX6_findsPair_70 (by decide) ?_
            refine lv_idiv hx hb dX6_findsPair_72 (by decide) ?_
            refine lv_ishl hx hb dX6_findsPair_73 ?_
            refine lv_ior hx hb dX6_findsPair_74 ?_
            refine lv_topi (fun y75 e75 => ?_)
            have hw := hw y75 e75
            refine lv_istore_n (lv' := [(3, .int y75), (0, .ref (b0 + 367)), (1, .int x1), (2, .int x2), (4, .int a4)]) hx hb dX6_findsPair_75 rfl hl (by decide) rfl (fun ls hl => ?_)
            obtain ⟨y76, e76⟩ : ∃ z : Int32, z = a4 + 1 := ⟨_, rfl⟩
            have hw := hw y76 e76
            refine lv_iinc (v := y76) (lv' := [(4, .int y76), (3, .int y75), (0, .ref (b0 + 367)), (1, .int x1), (2, .int x2)]) hx hb dX6_findsPair_76 hl (k := 4) rfl (by rw [e76]; rfl) (by decide) rfl (fun ls hl => ?_)
            refine lv_goto (tgt := 49) hx hb dX6_findsPair_79 (by decide) ?_
            exact ih49 S y75 y76  _ _ _ hw hP hF hS (lv_sub hl [2, 3, 4, 1, 0] rfl)
      intro S  H locs ls hw hP hF hS hl
      rw [wp_X6_findsPair_16] at hw
      refine lv_aload_n hx hb dX6_findsPair_16 rfl (lv_at hl 0 rfl) ?_
      refine lv_aload_n hx hb dX6_findsPair_17 rfl (lv_at hl 0 rfl) ?_
      refine gf_6_18 (k := 367) hx hb hts (by decide +kernel) hown hK hP (by decide) (kk_367) (q := 380) (hF.1 367 18 380 ff_367_18) (hts (.fieldLink RX6 54 "OpticmeshModel" "first" "[I") (by decide +kernel)) dX6_findsPair_18 ?_
      refine lv_iload_n hx hb dX6_findsPair_21 rfl (lv_at hl 2 rfl) ?_
      refine lv_iconst (v := 0) hx hb dX6_findsPair_22 (by decide) ?_
      refine q_call (va_runV (As := [.ref (b0 + 380), .int x2, .int 0]) (rest := []) ⟨hx, hb, hml, hown, hts⟩ (c_X6_goesOn l D cy b0 S 380 x2 0 (kk_380) (ll_380) _ hw) (cwV 3 hts gX6_findsPair_X6_goesOn rfl rfl rfl (by decide +kernel) ⟨(Nat.le_of_ble_eq_true rfl), (Nat.le_of_ble_eq_true rfl)⟩) (q_pV hW hP hF hS (k := 367) (ci := 6) (by decide) (cell_6 (kk_367)) rfl [.ref (b0 + 380), .int x2, .int 0]) rfl rfl hl.1 rfl (lv_room (Nat.le_of_ble_eq_true rfl)) dX6_findsPair_23 ⟨(Nat.le_of_ble_eq_true rfl), (Nat.le_of_ble_eq_true rfl)⟩) hS (fun v23 S23 t23 H locs hh hp hB hz hk9 hS => ?_)
      obtain ⟨r23, rfl, hw⟩ := hp
      have hP : HP D cy b0 NALL S23 H := by rw [← hh]; exact hB.1
      have hF := hB.2
      try dsimp only at hw
      refine W.eq (g2 := F0 m 26 ls [.int (b2i r23)]) rfl ?_
      refine lv_if_eq (x := b2i r23) (tgt := 167) hx hb dX6_findsPair_26 (by decide) (fun c26 => ?_) (fun c26 => ?_)
      · have c26 := b2i_z c26
        rw [if_neg c26] at hw
        exact j167 S23  _ _ _ hw hP hF hS (lv_sub hl [0] rfl)
      · have c26 := b2i_n c26
        rw [if_pos c26] at hw
        refine lv_aload_n hx hb dX6_findsPair_29 rfl (lv_at hl 0 rfl) ?_
        refine lv_aload_n hx hb dX6_findsPair_30 rfl (lv_at hl 0 rfl) ?_
        refine gf_6_18 (k := 367) hx hb hts (by decide +kernel) hown hK hP (by decide) (kk_367) (q := 380) (hF.1 367 18 380 ff_367_18) (hts (.fieldLink RX6 54 "OpticmeshModel" "first" "[I") (by decide +kernel)) dX6_findsPair_31 ?_
        refine lv_aload_n hx hb dX6_findsPair_34 rfl (lv_at hl 0 rfl) ?_
        refine gf_6_20 (k := 367) hx hb hts (by decide +kernel) hown hK hP (by decide) (kk_367) (q := 382) (hF.1 367 20 382 ff_367_20) (hts (.fieldLink RX6 60 "OpticmeshModel" "trial" "[I") (by decide +kernel)) dX6_findsPair_35 ?_
        refine q_call (va_runV (As := [.ref (b0 + 380), .ref (b0 + 382)]) (rest := []) ⟨hx, hb, hml, hown, hts⟩ (c_X6_laysOne l D cy b0 S23 380 382 (kk_380) (ll_380) (kk_382) (ll_382) _ hw) (cwV 2 hts gX6_findsPair_X6_laysOne rfl rfl rfl (by decide +kernel) ⟨(Nat.le_of_ble_eq_true rfl), (Nat.le_of_ble_eq_true rfl)⟩) (q_pV hW hP hF hS (k := 367) (ci := 6) (by decide) (cell_6 (kk_367)) rfl [.ref (b0 + 380), .ref (b0 + 382)]) rfl rfl hl.1 rfl (lv_room (Nat.le_of_ble_eq_true rfl)) dX6_findsPair_38 ⟨(Nat.le_of_ble_eq_true rfl), (Nat.le_of_ble_eq_true rfl)⟩) hS (fun v38 S38 t38 H locs hh hp hB hz hk9 hS => ?_)
        obtain ⟨r38, rfl, hw⟩ := hp
        have hP : HP D cy b0 NALL S38 H := by rw [← hh]; exact hB.1
        have hF := hB.2
        try dsimp only at hw
        refine W.eq (g2 := F0 m 41 ls [.int (b2i r38)]) rfl ?_
        refine lv_if_eq (x := b2i r38) (tgt := 16) hx hb dX6_findsPair_41 (by decide) (fun c41 => ?_) (fun c41 => ?_)
        · have c41 := b2i_z c41
          rw [if_neg c41] at hw
          exact ih16 S38  _ _ _ hw hP hF hS (lv_sub hl [0, 1, 2] rfl)
        · have c41 := b2i_n c41
          rw [if_pos c41] at hw
          refine lv_iconst (v := 0) hx hb dX6_findsPair_44 (by decide) ?_
          refine lv_istore_n (lv' := [(3, .int 0), (0, .ref (b0 + 367)), (1, .int x1), (2, .int x2)]) hx hb dX6_findsPair_45 rfl hl (by decide) rfl (fun ls hl => ?_)
          refine lv_iconst (v := 0) hx hb dX6_findsPair_46 (by decide) ?_
          refine lv_istore (lv' := [(4, .int 0), (3, .int 0), (0, .ref (b0 + 367)), (1, .int x1), (2, .int x2)]) hx hb dX6_findsPair_47 hl (by decide) rfl (fun ls hl => ?_)
          obtain ⟨n49, hw⟩ := hw
          exact j49 n49 S38 0 0  _ _ _ hw hP hF hS (lv_sub hl [2, 3, 4, 1, 0] rfl)
  unfold wp_X6_findsPair at hw
  refine lv_aload_n hx hb dX6_findsPair_0 rfl (lv_at hl 0 rfl) ?_
  refine gf_6_22 (k := 367) hx hb hts (by decide +kernel) hown hK hP (by decide) (kk_367) (q := 384) (hF.1 367 22 384 ff_367_22) (hts (.fieldLink RX6 66 "OpticmeshModel" "best" "[I") (by decide +kernel)) dX6_findsPair_1 ?_
  refine lv_bipush (v := 7) hx hb dX6_findsPair_4 (by decide) ?_
  refine lv_iconst (v := 0) hx hb dX6_findsPair_6 (by decide) ?_
  obtain ⟨h7, hw⟩ := hw
  refine q_iast (k := 384) (n := 10) (i := 7) (x := 0) hx hb hK hP hS (by decide) (kk_384) (ll_384) h7 dX6_findsPair_7 (fun H locs hz hP hS => ?_)
  have hF : Fx (sI S 384 ((7 : Int32).toNatClampNeg) 0) := Fx.sI hF _ _ _
  generalize eS7 : sI S 384 ((7 : Int32).toNatClampNeg) 0 = S7 at hP hF
  have hw := hw S7 eS7.symm
  refine lv_aload_n hx hb dX6_findsPair_8 rfl (lv_at hl 0 rfl) ?_
  refine gf_6_18 (k := 367) hx hb hts (by decide +kernel) hown hK hP (by decide) (kk_367) (q := 380) (hF.1 367 18 380 ff_367_18) (hts (.fieldLink RX6 54 "OpticmeshModel" "first" "[I") (by decide +kernel)) dX6_findsPair_9 ?_
  refine lv_iload_n hx hb dX6_findsPair_12 rfl (lv_at hl 1 rfl) ?_
  refine q_call (va_runS (As := [.ref (b0 + 380), .int x1]) (rest := []) ⟨hx, hb, hml, hown, hts⟩ (c_X6_sets l D cy b0 S7 380 x1 (kk_380) (ll_380) _ hw) (va_cwS 2 hts gX6_findsPair_X6_sets rfl rfl rfl (by decide +kernel) ⟨(Nat.le_of_ble_eq_true rfl), (Nat.le_of_ble_eq_true rfl)⟩) (q_pS hW hP hF hS [.ref (b0 + 380), .int x1]) rfl rfl hl.1 rfl (lv_room (Nat.le_of_ble_eq_true rfl)) dX6_findsPair_13 ⟨(Nat.le_of_ble_eq_true rfl), (Nat.le_of_ble_eq_true rfl)⟩) hS (fun v13 S13 t13 H locs hh hp hB hz hk9 hS => ?_)
  obtain ⟨rfl, hw⟩ := hp
  have hP : HP D cy b0 NALL S13 H := by rw [← hh]; exact hB.1
  have hF := hB.2
  try dsimp only at hw
  refine W.eq (g2 := F0 m 16 ls []) rfl ?_
  obtain ⟨n16, hw⟩ := hw
  exact j16 n16 S13  _ _ _ hw hP hF hS (lv_sub hl [0, 1, 2] rfl)
set_option maxHeartbeats 4000000 in
set_option maxRecDepth 100000 in
theorem c_X6_findsBy (l : Launch) (D : va_G) (cy : Nat → ClassId) (b0 : Nat) (S : St) (x1 : Int32) (x2 : Int32) (x3 : Int32)  (P : Bool → St → Prop) (hw : wp_X6_findsBy S x1 x2 x3 P) : Met l yX6_findsBy wsX6_findsBy rm_X6_findsBy (va_Pc [.ref (b0 + 367), .int x1, .int x2, .int x3] (Wd D cy b0 NALL S)) (QC (Pz P) (Wb D cy b0 NALL) b0) 0 0 (AA b0) := by
  refine Met.ofW (cc := cX6_findsBy) (maxL := 4) (ret := (some .boolean)) (by decide) rfl ?_
  intro p e s m args below meth c s₁ B hml hv
  obtain ⟨hargs, hW, hP, hF⟩ := hv
  have hx := B.exec
  have hb := B.bytes
  have hr := B.returns
  have hts := atoms_spec (ws := wsX6_findsBy) B.pre
  have hown : s.vm.findClass RX6 = some m.cls := findClass_of_methodNamed B.named
  have hlocks := B.notSynchronized
  have hK := hW.1
  have hS : va_S (AA b0) s.heap s.heap [] := va_S.rf
  have hE : entryFrame m args 4 = F0 m 0 ((lg_sl [.ref (b0 + 367), .int x1, .int x2, .int x3] ++ List.replicate (4 - (lg_sl [.ref (b0 + 367), .int x1, .int x2, .int x3]).length) Slot.unset).toArray) [] := by rw [hargs]; exact lg_entry_eq m _ _
  rw [hE]
  have hl := lv_entry [.ref (b0 + 367), .int x1, .int x2, .int x3] (n := 4) (Nat.le_of_ble_eq_true rfl)
  generalize (lg_sl [.ref (b0 + 367), .int x1, .int x2, .int x3] ++ List.replicate (4 - (lg_sl [.ref (b0 + 367), .int x1, .int x2, .int x3]).length) Slot.unset).toArray = ls at hl ⊢
  have hl : lv_has ls 4 [(0, .ref (b0 + 367)), (1, .int x1), (2, .int x2), (3, .int x3)] := hl
  unfold wp_X6_findsBy at hw
  refine lv_iload_n hx hb dX6_findsBy_0 rfl (lv_at hl 3 rfl) ?_
  refine lv_if_ne (x := x3) (tgt := 17) hx hb dX6_findsBy_1 (by decide) (fun c1 => ?_) (fun c1 => ?_)
  · rw [if_neg c1] at hw
    refine lv_iload_n hx hb dX6_findsBy_17 rfl (lv_at hl 3 rfl) ?_
    refine lv_iconst (v := 1) hx hb dX6_findsBy_18 (by decide) ?_
    refine lv_icmp_ne (x := x3) (y := 1) (tgt := 31) hx hb dX6_findsBy_19 (by decide) (fun c19 => ?_) (fun c19 => ?_)
    · rw [if_neg c19] at hw
      refine lv_aload_n hx hb dX6_findsBy_31 rfl (lv_at hl 0 rfl) ?_
      refine lv_iload_n hx hb dX6_findsBy_32 rfl (lv_at hl 1 rfl) ?_
      refine lv_iload_n hx hb dX6_findsBy_33 rfl (lv_at hl 2 rfl) ?_
      refine q_call (va_runV (As := [.int x1, .int x2]) (rest := []) ⟨hx, hb, hml, hown, hts⟩ (c_X6_findsPair l D cy b0 S x1 x2 _ hw) (cwV 2 hts gX6_findsBy_X6_findsPair rfl rfl rfl (by decide +kernel) ⟨(Nat.le_of_ble_eq_true rfl), (Nat.le_of_ble_eq_true rfl)⟩) (q_pV hW hP hF hS (k := 367) (ci := 6) (by decide) (cell_6 (kk_367)) rfl [.int x1, .int x2]) rfl rfl hl.1 rfl (lv_room (Nat.le_of_ble_eq_true rfl)) dX6_findsBy_34 ⟨(Nat.le_of_ble_eq_true rfl), (Nat.le_of_ble_eq_true rfl)⟩) hS (fun v34 S34 t34 H locs hh hp hB hz hk9 hS => ?_)
      obtain ⟨r34, rfl, hw⟩ := hp
      have hP : HP D cy b0 NALL S34 H := by rw [← hh]; exact hB.1
      have hF := hB.2
      try dsimp only at hw
      refine W.eq (g2 := F0 m 37 ls [.int (b2i r34)]) rfl ?_
      exact q_zret (v := r34) hx hb hr hP hF hS hw dX6_findsBy_37 hlocks
    · rw [if_pos c19] at hw
      refine lv_aload_n hx hb dX6_findsBy_22 rfl (lv_at hl 0 rfl) ?_
      refine lv_iload_n hx hb dX6_findsBy_23 rfl (lv_at hl 1 rfl) ?_
      refine lv_iload_n hx hb dX6_findsBy_24 rfl (lv_at hl 2 rfl) ?_
      refine q_call (va_runV (As := [.int x1, .int x2]) (rest := []) ⟨hx, hb, hml, hown, hts⟩ (c_X6_findsOneWavelength l D cy b0 S x1 x2 _ hw) (cwV 2 hts gX6_findsBy_X6_findsOneWavelength rfl rfl rfl (by decide +kernel) ⟨(Nat.le_of_ble_eq_true rfl), (Nat.le_of_ble_eq_true rfl)⟩) (q_pV hW hP hF hS (k := 367) (ci := 6) (by decide) (cell_6 (kk_367)) rfl [.int x1, .int x2]) rfl rfl hl.1 rfl (lv_room (Nat.le_of_ble_eq_true rfl)) dX6_findsBy_25 ⟨(Nat.le_of_ble_eq_true rfl), (Nat.le_of_ble_eq_true rfl)⟩) hS (fun v25 S25 t25 H locs hh hp hB hz hk9 hS => ?_)
      obtain ⟨r25, rfl, hw⟩ := hp
      have hP : HP D cy b0 NALL S25 H := by rw [← hh]; exact hB.1
      have hF := hB.2
      try dsimp only at hw
      refine W.eq (g2 := F0 m 28 ls [.int (b2i r25)]) rfl ?_
      refine lv_goto (tgt := 37) hx hb dX6_findsBy_28 (by decide) ?_
      exact q_zret (v := r25) hx hb hr hP hF hS hw dX6_findsBy_37 hlocks
  · rw [if_pos c1] at hw
    refine lv_aload_n hx hb dX6_findsBy_4 rfl (lv_at hl 0 rfl) ?_
    refine lv_iload_n hx hb dX6_findsBy_5 rfl (lv_at hl 1 rfl) ?_
    refine lv_iload_n hx hb dX6_findsBy_6 rfl (lv_at hl 2 rfl) ?_
    refine lv_iconst (v := (-1)) hx hb dX6_findsBy_7 (by decide) ?_
    refine lv_sipush (v := 255) hx hb dX6_findsBy_8 (by decide) ?_
    refine q_call (va_runV (As := [.int x1, .int x2, .int (-1), .int 255]) (rest := []) ⟨hx, hb, hml, hown, hts⟩ (c_X6_finds l D cy b0 S x1 x2 (-1) 255 _ hw) (cwV 4 hts gX6_findsBy_X6_finds rfl rfl rfl (by decide +kernel) ⟨(Nat.le_of_ble_eq_true rfl), (Nat.le_of_ble_eq_true rfl)⟩) (q_pV hW hP hF hS (k := 367) (ci := 6) (by decide) (cell_6 (kk_367)) rfl [.int x1, .int x2, .int (-1), .int 255]) rfl rfl hl.1 rfl (lv_room (Nat.le_of_ble_eq_true rfl)) dX6_findsBy_11 ⟨(Nat.le_of_ble_eq_true rfl), (Nat.le_of_ble_eq_true rfl)⟩) hS (fun v11 S11 t11 H locs hh hp hB hz hk9 hS => ?_)
    obtain ⟨r11, rfl, hw⟩ := hp
    have hP : HP D cy b0 NALL S11 H := by rw [← hh]; exact hB.1
    have hF := hB.2
    try dsimp only at hw
    refine W.eq (g2 := F0 m 14 ls [.int (b2i r11)]) rfl ?_
    refine lv_goto (tgt := 37) hx hb dX6_findsBy_14 (by decide) ?_
    exact q_zret (v := r11) hx hb hr hP hF hS hw dX6_findsBy_37 hlocks
