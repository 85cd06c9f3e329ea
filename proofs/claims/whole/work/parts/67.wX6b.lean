set_option maxHeartbeats 4000000 in
set_option maxRecDepth 100000 in
theorem c_X6_carried (l : Launch) (D : va_G) (cy : Nat → ClassId) (b0 : Nat) (S : St) (x1 : Int32)  (P : Int32 → St → Prop) (hw : wp_X6_carried S x1 P) : Met l yX6_carried wsX6_carried rm_X6_carried (va_Pc [.ref (b0 + 367), .int x1] (Wd D cy b0 NALL S)) (QC (Pi P) (Wb D cy b0 NALL) b0) 0 0 (AA b0) := by
  refine Met.ofW (cc := cX6_carried) (maxL := 4) (ret := (some .int)) (by decide) rfl ?_
  intro p e s m args below meth c s₁ B hml hv
  obtain ⟨hargs, hW, hP, hF⟩ := hv
  have hx := B.exec
  have hb := B.bytes
  have hr := B.returns
  have hts := atoms_spec (ws := wsX6_carried) B.pre
  have hown : s.vm.findClass RX6 = some m.cls := findClass_of_methodNamed B.named
  have hlocks := B.notSynchronized
  have hK := hW.1
  have hS : va_S (AA b0) s.heap s.heap [] := va_S.rf
  have hE : entryFrame m args 4 = F0 m 0 ((lg_sl [.ref (b0 + 367), .int x1] ++ List.replicate (4 - (lg_sl [.ref (b0 + 367), .int x1]).length) Slot.unset).toArray) [] := by rw [hargs]; exact lg_entry_eq m _ _
  rw [hE]
  have hl := lv_entry [.ref (b0 + 367), .int x1] (n := 4) (Nat.le_of_ble_eq_true rfl)
  generalize (lg_sl [.ref (b0 + 367), .int x1] ++ List.replicate (4 - (lg_sl [.ref (b0 + 367), .int x1]).length) Slot.unset).toArray = ls at hl ⊢
  have hl : lv_has ls 4 [(0, .ref (b0 + 367)), (1, .int x1)] := hl
  have j4 : ∀ (n4 : Nat), ∀ (S : St) (a2 : Int32) (a3 : Int32), ∀ (H : Heap) (locs : List Loc) (ls : Array Slot), wp_X6_carried_4 x1 P n4 S a2 a3 → HP D cy b0 NALL S H → Fx S → va_S (AA b0) s.heap H locs → lv_has ls 4 [(0, .ref (b0 + 367)), (1, .int x1), (2, .int a2), (3, .int a3)] → W p l e rm_X6_carried s m args below meth c H locs 0 0 (MQ below (QC (Pi P) (Wb D cy b0 NALL) b0) args s 0 0 (AA b0)) (F0 m 4 ls []) := by
    intro n4
    induction n4 with
    | zero => intro S a2 a3  H locs ls hw _ _ _ _; exact False.elim hw
    | succ n4 ih4 =>
      have j33 : ∀ (S : St) (a3 : Int32) (t0 : Int32) (t1 : Int32), ∀ (H : Heap) (locs : List Loc) (ls : Array Slot), wp_X6_carried_33 x1 P (fun S a2 a3 => wp_X6_carried_4 x1 P n4 S a2 a3) S a3 t0 t1 → HP D cy b0 NALL S H → Fx S → va_S (AA b0) s.heap H locs → lv_has ls 4 [(0, .ref (b0 + 367)), (1, .int x1), (3, .int a3)] → W p l e rm_X6_carried s m args below meth c H locs 0 0 (MQ below (QC (Pi P) (Wb D cy b0 NALL) b0) args s 0 0 (AA b0)) (F0 m 33 ls [.int t1, .int t0]) := by
        intro S a3 t0 t1  H locs ls hw hP hF hS hl
        unfold wp_X6_carried_33 at hw
        refine lv_iadd hx hb dX6_carried_33 ?_
        refine lv_topi (fun y34 e34 => ?_)
        have hw := hw y34 e34
        refine lv_istore_n (lv' := [(2, .int y34), (0, .ref (b0 + 367)), (1, .int x1), (3, .int a3)]) hx hb dX6_carried_34 rfl hl (by decide) rfl (fun ls hl => ?_)
        obtain ⟨y35, e35⟩ : ∃ z : Int32, z = a3 + 1 := ⟨_, rfl⟩
        have hw := hw y35 e35
        refine lv_iinc (v := y35) (lv' := [(3, .int y35), (2, .int y34), (0, .ref (b0 + 367)), (1, .int x1)]) hx hb dX6_carried_35 hl (k := 3) rfl (by rw [e35]; rfl) (by decide) rfl (fun ls hl => ?_)
        refine lv_goto (tgt := 4) hx hb dX6_carried_38 (by decide) ?_
        exact ih4 S y34 y35  _ _ _ hw hP hF hS (lv_sub hl [2, 3, 1, 0] rfl)
      intro S a2 a3  H locs ls hw hP hF hS hl
      rw [wp_X6_carried_4] at hw
      refine lv_iload_n hx hb dX6_carried_4 rfl (lv_at hl 3 rfl) ?_
      refine lv_aload_n hx hb dX6_carried_5 rfl (lv_at hl 0 rfl) ?_
      refine gf_6_10 (k := 367) hx hb hts (by decide +kernel) hown hK hP (by decide) (kk_367) (hts (.fieldLink RX6 93 "OpticmeshModel" "requests" "I") (by decide +kernel)) dX6_carried_6 ?_
      refine lv_icmp_ge (x := a3) (y := (gI S 367 10)) (tgt := 41) hx hb dX6_carried_9 (by decide) (fun c9 => ?_) (fun c9 => ?_)
      · rw [if_pos c9] at hw
        refine lv_iload_n hx hb dX6_carried_41 rfl (lv_at hl 2 rfl) ?_
        exact q_iret hx hb hr hP hF hS hw dX6_carried_42 hlocks
      · rw [if_neg c9] at hw
        refine lv_iload_n hx hb dX6_carried_12 rfl (lv_at hl 2 rfl) ?_
        refine lv_aload_n hx hb dX6_carried_13 rfl (lv_at hl 0 rfl) ?_
        refine gf_6_11 (k := 367) hx hb hts (by decide +kernel) hown hK hP (by decide) (kk_367) (q := 374) (hF.1 367 11 374 ff_367_11) (hts (.fieldLink RX6 36 "OpticmeshModel" "carriers" "[I") (by decide +kernel)) dX6_carried_14 ?_
        refine lv_iload_n hx hb dX6_carried_17 rfl (lv_at hl 3 rfl) ?_
        obtain ⟨h18, hw⟩ := hw
        refine q_iald (k := 374) (n := 60) (i := a3) hx hb hK hP (by decide) (kk_374) (ll_374) h18 dX6_carried_18 ?_
        refine lv_iload_n hx hb dX6_carried_19 rfl (lv_at hl 1 rfl) ?_
        refine lv_icmp_ne (x := (gI S 374 (a3.toNatClampNeg))) (y := x1) (tgt := 32) hx hb dX6_carried_20 (by decide) (fun c20 => ?_) (fun c20 => ?_)
        · rw [if_neg c20] at hw
          refine lv_iconst (v := 0) hx hb dX6_carried_32 (by decide) ?_
          exact j33 S a3 a2 0  _ _ _ hw hP hF hS (lv_sub hl [0, 1, 3] rfl)
        · rw [if_pos c20] at hw
          refine lv_aload_n hx hb dX6_carried_23 rfl (lv_at hl 0 rfl) ?_
          refine gf_6_12 (k := 367) hx hb hts (by decide +kernel) hown hK hP (by decide) (kk_367) (q := 375) (hF.1 367 12 375 ff_367_12) (hts (.fieldLink RX6 39 "OpticmeshModel" "demands" "[I") (by decide +kernel)) dX6_carried_24 ?_
          refine lv_iload_n hx hb dX6_carried_27 rfl (lv_at hl 3 rfl) ?_
          obtain ⟨h28, hw⟩ := hw
          refine q_iald (k := 375) (n := 60) (i := a3) hx hb hK hP (by decide) (kk_375) (ll_375) h28 dX6_carried_28 ?_
          refine lv_goto (tgt := 33) hx hb dX6_carried_29 (by decide) ?_
          exact j33 S a3 a2 (gI S 375 (a3.toNatClampNeg))  _ _ _ hw hP hF hS (lv_sub hl [0, 1, 3] rfl)
  unfold wp_X6_carried at hw
  refine lv_iconst (v := 0) hx hb dX6_carried_0 (by decide) ?_
  refine lv_istore_n (lv' := [(2, .int 0), (0, .ref (b0 + 367)), (1, .int x1)]) hx hb dX6_carried_1 rfl hl (by decide) rfl (fun ls hl => ?_)
  refine lv_iconst (v := 0) hx hb dX6_carried_2 (by decide) ?_
  refine lv_istore_n (lv' := [(3, .int 0), (2, .int 0), (0, .ref (b0 + 367)), (1, .int x1)]) hx hb dX6_carried_3 rfl hl (by decide) rfl (fun ls hl => ?_)
  obtain ⟨n4, hw⟩ := hw
  exact j4 n4 S 0 0  _ _ _ hw hP hF hS (lv_sub hl [2, 3, 1, 0] rfl)
set_option maxHeartbeats 4000000 in
set_option maxRecDepth 100000 in
theorem c_X6_placeOf (l : Launch) (D : va_G) (cy : Nat → ClassId) (b0 : Nat) (S : St) (x1 : Int32)  (P : Int32 → St → Prop) (hw : wp_X6_placeOf S x1 P) : Met l yX6_placeOf wsX6_placeOf rm_X6_placeOf (va_Pc [.int x1] (Wd D cy b0 NALL S)) (QC (Pi P) (Wb D cy b0 NALL) b0) 0 0 (AA b0) := by
  refine Met.ofW (cc := cX6_placeOf) (maxL := 1) (ret := (some .int)) (by decide) rfl ?_
  intro p e s m args below meth c s₁ B hml hv
  obtain ⟨hargs, hW, hP, hF⟩ := hv
  have hx := B.exec
  have hb := B.bytes
  have hr := B.returns
  have hts := atoms_spec (ws := wsX6_placeOf) B.pre
  have hown : s.vm.findClass RX6 = some m.cls := findClass_of_methodNamed B.named
  have hlocks := B.notSynchronized
  have hK := hW.1
  have hS : va_S (AA b0) s.heap s.heap [] := va_S.rf
  have hE : entryFrame m args 1 = F0 m 0 ((lg_sl [.int x1] ++ List.replicate (1 - (lg_sl [.int x1]).length) Slot.unset).toArray) [] := by rw [hargs]; exact lg_entry_eq m _ _
  rw [hE]
  have hl := lv_entry [.int x1] (n := 1) (Nat.le_of_ble_eq_true rfl)
  generalize (lg_sl [.int x1] ++ List.replicate (1 - (lg_sl [.int x1]).length) Slot.unset).toArray = ls at hl ⊢
  have hl : lv_has ls 1 [(0, .int x1)] := hl
  unfold wp_X6_placeOf at hw
  refine lv_bipush (v := 8) hx hb dX6_placeOf_0 (by decide) ?_
  refine lv_iload_n hx hb dX6_placeOf_2 rfl (lv_at hl 0 rfl) ?_
  refine lv_bipush (v := 10) hx hb dX6_placeOf_3 (by decide) ?_
  refine lv_idiv hx hb dX6_placeOf_5 (by decide) ?_
  refine lv_imul hx hb dX6_placeOf_6 ?_
  refine lv_iload_n hx hb dX6_placeOf_7 rfl (lv_at hl 0 rfl) ?_
  refine lv_bipush (v := 10) hx hb dX6_placeOf_8 (by decide) ?_
  refine lv_irem hx hb dX6_placeOf_10 (by decide) ?_
  refine lv_iadd hx hb dX6_placeOf_11 ?_
  exact q_iret hx hb hr hP hF hS hw dX6_placeOf_12 hlocks
set_option maxHeartbeats 4000000 in
set_option maxRecDepth 100000 in
theorem c_X6_uses (l : Launch) (D : va_G) (cy : Nat → ClassId) (b0 : Nat) (S : St) (x1 : Int32) (x2 : Int32) (x3 : Int32)  (P : St → Prop) (hw : wp_X6_uses S x1 x2 x3 P) : Met l yX6_uses wsX6_uses rm_X6_uses (va_Pc [.ref (b0 + 367), .int x1, .int x2, .int x3] (Wd D cy b0 NALL S)) (QC (Pv P) (Wb D cy b0 NALL) b0) 0 0 (AA b0) := by
  refine Met.ofW (cc := cX6_uses) (maxL := 5) (ret := none) (by decide) rfl ?_
  intro p e s m args below meth c s₁ B hml hv
  obtain ⟨hargs, hW, hP, hF⟩ := hv
  have hx := B.exec
  have hb := B.bytes
  have hr := B.returns
  have hts := atoms_spec (ws := wsX6_uses) B.pre
  have hown : s.vm.findClass RX6 = some m.cls := findClass_of_methodNamed B.named
  have hlocks := B.notSynchronized
  have hK := hW.1
  have hS : va_S (AA b0) s.heap s.heap [] := va_S.rf
  have hE : entryFrame m args 5 = F0 m 0 ((lg_sl [.ref (b0 + 367), .int x1, .int x2, .int x3] ++ List.replicate (5 - (lg_sl [.ref (b0 + 367), .int x1, .int x2, .int x3]).length) Slot.unset).toArray) [] := by rw [hargs]; exact lg_entry_eq m _ _
  rw [hE]
  have hl := lv_entry [.ref (b0 + 367), .int x1, .int x2, .int x3] (n := 5) (Nat.le_of_ble_eq_true rfl)
  generalize (lg_sl [.ref (b0 + 367), .int x1, .int x2, .int x3] ++ List.replicate (5 - (lg_sl [.ref (b0 + 367), .int x1, .int x2, .int x3]).length) Slot.unset).toArray = ls at hl ⊢
  have hl : lv_has ls 5 [(0, .ref (b0 + 367)), (1, .int x1), (2, .int x2), (3, .int x3)] := hl
  have j3 : ∀ (n3 : Nat), ∀ (S : St) (a4 : Int32), ∀ (H : Heap) (locs : List Loc) (ls : Array Slot), wp_X6_uses_3 x1 x2 x3 P n3 S a4 → HP D cy b0 NALL S H → Fx S → va_S (AA b0) s.heap H locs → lv_has ls 5 [(0, .ref (b0 + 367)), (1, .int x1), (2, .int x2), (3, .int x3), (4, .int a4)] → W p l e rm_X6_uses s m args below meth c H locs 0 0 (MQ below (QC (Pv P) (Wb D cy b0 NALL) b0) args s 0 0 (AA b0)) (F0 m 3 ls []) := by
    intro n3
    induction n3 with
    | zero => intro S a4  H locs ls hw _ _ _ _; exact False.elim hw
    | succ n3 ih3 =>
      intro S a4  H locs ls hw hP hF hS hl
      rw [wp_X6_uses_3] at hw
      refine lv_iload hx hb dX6_uses_3 (lv_at hl 4 rfl) ?_
      refine lv_aload_n hx hb dX6_uses_5 rfl (lv_at hl 0 rfl) ?_
      refine lv_iload_n hx hb dX6_uses_6 rfl (lv_at hl 1 rfl) ?_
      refine lv_iload_n hx hb dX6_uses_7 rfl (lv_at hl 2 rfl) ?_
      refine lv_bipush (v := 7) hx hb dX6_uses_8 (by decide) ?_
      refine q_call (va_runV (As := [.int x1, .int x2, .int 7]) (rest := [.int a4]) ⟨hx, hb, hml, hown, hts⟩ (c_X6_way l D cy b0 S x1 x2 7 _ hw) (cwV 3 hts gX6_uses_X6_way rfl rfl rfl (by decide +kernel) ⟨(Nat.le_of_ble_eq_true rfl), (Nat.le_of_ble_eq_true rfl)⟩) (q_pV hW hP hF hS (k := 367) (ci := 6) (by decide) (cell_6 (kk_367)) rfl [.int x1, .int x2, .int 7]) rfl rfl hl.1 rfl (lv_room (Nat.le_of_ble_eq_true rfl)) dX6_uses_10 ⟨(Nat.le_of_ble_eq_true rfl), (Nat.le_of_ble_eq_true rfl)⟩) hS (fun v10 S10 t10 H locs hh hp hB hz hk9 hS => ?_)
      obtain ⟨r10, rfl, hw⟩ := hp
      have hP : HP D cy b0 NALL S10 H := by rw [← hh]; exact hB.1
      have hF := hB.2
      try dsimp only at hw
      refine W.eq (g2 := F0 m 13 ls [.int r10, .int a4]) rfl ?_
      refine lv_icmp_ge (x := a4) (y := r10) (tgt := 39) hx hb dX6_uses_13 (by decide) (fun c13 => ?_) (fun c13 => ?_)
      · rw [if_pos c13] at hw
        exact q_vret hx hb hr hP hF hS hw dX6_uses_39 hlocks
      · rw [if_neg c13] at hw
        refine lv_aload_n hx hb dX6_uses_16 rfl (lv_at hl 0 rfl) ?_
        refine gf_6_9 (k := 367) hx hb hts (by decide +kernel) hown hK hP (by decide) (kk_367) (q := 373) (hF.1 367 9 373 ff_367_9) (hts (.fieldLink RX6 33 "OpticmeshModel" "used" "[I") (by decide +kernel)) dX6_uses_17 ?_
        refine lv_aload_n hx hb dX6_uses_20 rfl (lv_at hl 0 rfl) ?_
        refine lv_iload_n hx hb dX6_uses_21 rfl (lv_at hl 1 rfl) ?_
        refine lv_iload_n hx hb dX6_uses_22 rfl (lv_at hl 2 rfl) ?_
        refine lv_iload hx hb dX6_uses_23 (lv_at hl 4 rfl) ?_
        refine q_call (va_runV (As := [.int x1, .int x2, .int a4]) (rest := [.ref (b0 + 373)]) ⟨hx, hb, hml, hown, hts⟩ (c_X6_way l D cy b0 S10 x1 x2 a4 _ hw) (cwV 3 hts gX6_uses_X6_way rfl rfl rfl (by decide +kernel) ⟨(Nat.le_of_ble_eq_true rfl), (Nat.le_of_ble_eq_true rfl)⟩) (q_pV hW hP hF hS (k := 367) (ci := 6) (by decide) (cell_6 (kk_367)) rfl [.int x1, .int x2, .int a4]) rfl rfl hl.1 rfl (lv_room (Nat.le_of_ble_eq_true rfl)) dX6_uses_25 ⟨(Nat.le_of_ble_eq_true rfl), (Nat.le_of_ble_eq_true rfl)⟩) hS (fun v25 S25 t25 H locs hh hp hB hz hk9 hS => ?_)
        obtain ⟨r25, rfl, hw⟩ := hp
        have hP : HP D cy b0 NALL S25 H := by rw [← hh]; exact hB.1
        have hF := hB.2
        try dsimp only at hw
        refine W.eq (g2 := F0 m 28 ls [.int r25, .ref (b0 + 373)]) rfl ?_
        refine q_call (va_runS (As := [.int r25]) (rest := [.ref (b0 + 373)]) ⟨hx, hb, hml, hown, hts⟩ (c_X6_placeOf l D cy b0 S25 r25 _ hw) (va_cwS 1 hts gX6_uses_X6_placeOf rfl rfl rfl (by decide +kernel) ⟨(Nat.le_of_ble_eq_true rfl), (Nat.le_of_ble_eq_true rfl)⟩) (q_pS hW hP hF hS [.int r25]) rfl rfl hl.1 rfl (lv_room (Nat.le_of_ble_eq_true rfl)) dX6_uses_28 ⟨(Nat.le_of_ble_eq_true rfl), (Nat.le_of_ble_eq_true rfl)⟩) hS (fun v28 S28 t28 H locs hh hp hB hz hk9 hS => ?_)
        obtain ⟨r28, rfl, hw⟩ := hp
        have hP : HP D cy b0 NALL S28 H := by rw [← hh]; exact hB.1
        have hF := hB.2
        try dsimp only at hw
        refine W.eq (g2 := F0 m 31 ls [.int r28, .ref (b0 + 373)]) rfl ?_
        refine lv_iload_n hx hb dX6_uses_31 rfl (lv_at hl 3 rfl) ?_
        obtain ⟨h32, hw⟩ := hw
        refine q_iast (k := 373) (n := 112) (i := r28) (x := x3) hx hb hK hP hS (by decide) (kk_373) (ll_373) h32 dX6_uses_32 (fun H locs hz hP hS => ?_)
        have hF : Fx (sI S28 373 (r28.toNatClampNeg) x3) := Fx.sI hF _ _ _
        generalize eS32 : sI S28 373 (r28.toNatClampNeg) x3 = S32 at hP hF
        have hw := hw S32 eS32.symm
        obtain ⟨y33, e33⟩ : ∃ z : Int32, z = a4 + 1 := ⟨_, rfl⟩
        have hw := hw y33 e33
        refine lv_iinc (v := y33) (lv' := [(4, .int y33), (0, .ref (b0 + 367)), (1, .int x1), (2, .int x2), (3, .int x3)]) hx hb dX6_uses_33 hl (k := 4) rfl (by rw [e33]; rfl) (by decide) rfl (fun ls hl => ?_)
        refine lv_goto (tgt := 3) hx hb dX6_uses_36 (by decide) ?_
        exact ih3 S32 y33  _ _ _ hw hP hF hS (lv_sub hl [1, 2, 3, 4, 0] rfl)
  unfold wp_X6_uses at hw
  refine lv_iconst (v := 0) hx hb dX6_uses_0 (by decide) ?_
  refine lv_istore (lv' := [(4, .int 0), (0, .ref (b0 + 367)), (1, .int x1), (2, .int x2), (3, .int x3)]) hx hb dX6_uses_1 hl (by decide) rfl (fun ls hl => ?_)
  obtain ⟨n3, hw⟩ := hw
  exact j3 n3 S 0  _ _ _ hw hP hF hS (lv_sub hl [1, 2, 3, 4, 0] rfl)
set_option maxHeartbeats 4000000 in
set_option maxRecDepth 100000 in
theorem c_X6_gets (l : Launch) (D : va_G) (cy : Nat → ClassId) (b0 : Nat) (S : St) (x1 : Int32) (x2 : Int32) (x3 : Nat) (hk3 : kd x3 = 7) (hn3 : ln x3 = 10) (P : St → Prop) (hw : wp_X6_gets S x1 x2 x3 P) : Met l yX6_gets wsX6_gets rm_X6_gets (va_Pc [.ref (b0 + 367), .int x1, .int x2, .ref (b0 + x3)] (Wd D cy b0 NALL S)) (QC (Pv P) (Wb D cy b0 NALL) b0) 0 0 (AA b0) := by
  refine Met.ofW (cc := cX6_gets) (maxL := 5) (ret := none) (by decide) rfl ?_
  intro p e s m args below meth c s₁ B hml hv
  obtain ⟨hargs, hW, hP, hF⟩ := hv
  have hx := B.exec
  have hb := B.bytes
  have hr := B.returns
  have hts := atoms_spec (ws := wsX6_gets) B.pre
  have hown : s.vm.findClass RX6 = some m.cls := findClass_of_methodNamed B.named
  have hlocks := B.notSynchronized
  have hK := hW.1
  have hS : va_S (AA b0) s.heap s.heap [] := va_S.rf
  have hE : entryFrame m args 5 = F0 m 0 ((lg_sl [.ref (b0 + 367), .int x1, .int x2, .ref (b0 + x3)] ++ List.replicate (5 - (lg_sl [.ref (b0 + 367), .int x1, .int x2, .ref (b0 + x3)]).length) Slot.unset).toArray) [] := by rw [hargs]; exact lg_entry_eq m _ _
  rw [hE]
  have hl := lv_entry [.ref (b0 + 367), .int x1, .int x2, .ref (b0 + x3)] (n := 5) (Nat.le_of_ble_eq_true rfl)
  generalize (lg_sl [.ref (b0 + 367), .int x1, .int x2, .ref (b0 + x3)] ++ List.replicate (5 - (lg_sl [.ref (b0 + 367), .int x1, .int x2, .ref (b0 + x3)]).length) Slot.unset).toArray = ls at hl ⊢
  have hl : lv_has ls 5 [(0, .ref (b0 + 367)), (1, .int x1), (2, .int x2), (3, .ref (b0 + x3))] := hl
  have j37 : ∀ (S : St) , ∀ (H : Heap) (locs : List Loc) (ls : Array Slot), wp_X6_gets_37 x1 x2 x3 P S → HP D cy b0 NALL S H → Fx S → va_S (AA b0) s.heap H locs → lv_has ls 5 [(0, .ref (b0 + 367)), (1, .int x1), (2, .int x2)] → W p l e rm_X6_gets s m args below meth c H locs 0 0 (MQ below (QC (Pv P) (Wb D cy b0 NALL) b0) args s 0 0 (AA b0)) (F0 m 37 ls []) := by
    intro S  H locs ls hw hP hF hS hl
    unfold wp_X6_gets_37 at hw
    refine lv_aload_n hx hb dX6_gets_37 rfl (lv_at hl 0 rfl) ?_
    refine lv_iload_n hx hb dX6_gets_38 rfl (lv_at hl 1 rfl) ?_
    refine lv_iload_n hx hb dX6_gets_39 rfl (lv_at hl 2 rfl) ?_
    refine lv_iload_n hx hb dX6_gets_40 rfl (lv_at hl 1 rfl) ?_
    refine q_call (va_runV (As := [.int x1, .int x2, .int x1]) (rest := []) ⟨hx, hb, hml, hown, hts⟩ (c_X6_uses l D cy b0 S x1 x2 x1 _ hw) (cwV 3 hts gX6_gets_X6_uses rfl rfl rfl (by decide +kernel) ⟨(Nat.le_of_ble_eq_true rfl), (Nat.le_of_ble_eq_true rfl)⟩) (q_pV hW hP hF hS (k := 367) (ci := 6) (by decide) (cell_6 (kk_367)) rfl [.int x1, .int x2, .int x1]) rfl rfl hl.1 rfl (lv_room (Nat.le_of_ble_eq_true rfl)) dX6_gets_41 ⟨(Nat.le_of_ble_eq_true rfl), (Nat.le_of_ble_eq_true rfl)⟩) hS (fun v41 S41 t41 H locs hh hp hB hz hk9 hS => ?_)
    obtain ⟨rfl, hw⟩ := hp
    have hP : HP D cy b0 NALL S41 H := by rw [← hh]; exact hB.1
    have hF := hB.2
    try dsimp only at hw
    refine W.eq (g2 := F0 m 44 ls []) rfl ?_
    exact q_vret hx hb hr hP hF hS hw dX6_gets_44 hlocks
  have j3 : ∀ (n3 : Nat), ∀ (S : St) (a4 : Int32), ∀ (H : Heap) (locs : List Loc) (ls : Array Slot), wp_X6_gets_3 x1 x2 x3 P n3 S a4 → HP D cy b0 NALL S H → Fx S → va_S (AA b0) s.heap H locs → lv_has ls 5 [(0, .ref (b0 + 367)), (1, .int x1), (2, .int x2), (3, .ref (b0 + x3)), (4, .int a4)] → W p l e rm_X6_gets s m args below meth c H locs 0 0 (MQ below (QC (Pv P) (Wb D cy b0 NALL) b0) args s 0 0 (AA b0)) (F0 m 3 ls []) := by
    intro n3
    induction n3 with
    | zero => intro S a4  H locs ls hw _ _ _ _; exact False.elim hw
    | succ n3 ih3 =>
      intro S a4  H locs ls hw hP hF hS hl
      rw [wp_X6_gets_3] at hw
      refine lv_iload hx hb dX6_gets_3 (lv_at hl 4 rfl) ?_
      refine lv_bipush (v := 10) hx hb dX6_gets_5 (by decide) ?_
      refine lv_icmp_ge (x := a4) (y := 10) (tgt := 37) hx hb dX6_gets_7 (by decide) (fun c7 => ?_) (fun c7 => ?_)
      · rw [if_pos c7] at hw
        exact j37 S  _ _ _ hw hP hF hS (lv_sub hl [0, 1, 2] rfl)
      · rw [if_neg c7] at hw
        refine lv_aload_n hx hb dX6_gets_10 rfl (lv_at hl 0 rfl) ?_
        refine gf_6_17 (k := 367) hx hb hts (by decide +kernel) hown hK hP (by decide) (kk_367) (q := 379) (hF.1 367 17 379 ff_367_17) (hts (.fieldLink RX6 51 "OpticmeshModel" "laid" "[I") (by decide +kernel)) dX6_gets_11 ?_
        refine lv_bipush (v := 20) hx hb dX6_gets_14 (by decide) ?_
        refine lv_iload_n hx hb dX6_gets_16 rfl (lv_at hl 1 rfl) ?_
        refine lv_imul hx hb dX6_gets_17 ?_
        refine lv_bipush (v := 10) hx hb dX6_gets_18 (by decide) ?_
        refine lv_iload_n hx hb dX6_gets_20 rfl (lv_at hl 2 rfl) ?_
        refine lv_imul hx hb dX6_gets_21 ?_
        refine lv_iadd hx hb dX6_gets_22 ?_
        refine lv_iload hx hb dX6_gets_23 (lv_at hl 4 rfl) ?_
        refine lv_iadd hx hb dX6_gets_25 ?_
        refine lv_aload_n hx hb dX6_gets_26 rfl (lv_at hl 3 rfl) ?_
        refine lv_iload hx hb dX6_gets_27 (lv_at hl 4 rfl) ?_
        obtain ⟨h29, hw⟩ := hw
        refine q_iald (k := x3) (n := 10) (i := a4) hx hb hK hP (kd_N hk3 (by decide)) hk3 hn3 h29 dX6_gets_29 ?_
        obtain ⟨h30, hw⟩ := hw
        refine q_iast (k := 379) (n := 1200) (i := (((20 * x1) + (10 * x2)) + a4)) (x := (gI S x3 (a4.toNatClampNeg))) hx hb hK hP hS (by decide) (kk_379) (ll_379) h30 dX6_gets_30 (fun H locs hz hP hS => ?_)
        have hF : Fx (sI S 379 ((((20 * x1) + (10 * x2)) + a4).toNatClampNeg) (gI S x3 (a4.toNatClampNeg))) := Fx.sI hF _ _ _
        generalize eS30 : sI S 379 ((((20 * x1) + (10 * x2)) + a4).toNatClampNeg) (gI S x3 (a4.toNatClampNeg)) = S30 at hP hF
        have hw := hw S30 eS30.symm
        obtain ⟨y31, e31⟩ : ∃ z : Int32, z = a4 + 1 := ⟨_, rfl⟩
        have hw := hw y31 e31
        refine lv_iinc (v := y31) (lv' := [(4, .int y31), (0, .ref (b0 + 367)), (1, .int x1), (2, .int x2), (3, .ref (b0 + x3))]) hx hb dX6_gets_31 hl (k := 4) rfl (by rw [e31]; rfl) (by decide) rfl (fun ls hl => ?_)
        refine lv_goto (tgt := 3) hx hb dX6_gets_34 (by decide) ?_
        exact ih3 S30 y31  _ _ _ hw hP hF hS (lv_sub hl [1, 2, 3, 4, 0] rfl)
  unfold wp_X6_gets at hw
  refine lv_iconst (v := 0) hx hb dX6_gets_0 (by decide) ?_
  refine lv_istore (lv' := [(4, .int 0), (0, .ref (b0 + 367)), (1, .int x1), (2, .int x2), (3, .ref (b0 + x3))]) hx hb dX6_gets_1 hl (by decide) rfl (fun ls hl => ?_)
  obtain ⟨n3, hw⟩ := hw
  exact j3 n3 S 0  _ _ _ hw hP hF hS (lv_sub hl [1, 2, 3, 4, 0] rfl)
set_option maxHeartbeats 4000000 in
set_option maxRecDepth 100000 in
theorem c_X6_ends (l : Launch) (D : va_G) (cy : Nat → ClassId) (b0 : Nat) (S : St) (x1 : Int32)  (P : St → Prop) (hw : wp_X6_ends S x1 P) : Met l yX6_ends wsX6_ends rm_X6_ends (va_Pc [.ref (b0 + 367), .int x1] (Wd D cy b0 NALL S)) (QC (Pv P) (Wb D cy b0 NALL) b0) 0 0 (AA b0) := by
  refine Met.ofW (cc := cX6_ends) (maxL := 3) (ret := none) (by decide) rfl ?_
  intro p e s m args below meth c s₁ B hml hv
  obtain ⟨hargs, hW, hP, hF⟩ := hv
  have hx := B.exec
  have hb := B.bytes
  have hr := B.returns
  have hts := atoms_spec (ws := wsX6_ends) B.pre
  have hown : s.vm.findClass RX6 = some m.cls := findClass_of_methodNamed B.named
  have hlocks := B.notSynchronized
  have hK := hW.1
  have hS : va_S (AA b0) s.heap s.heap [] := va_S.rf
  have hE : entryFrame m args 3 = F0 m 0 ((lg_sl [.ref (b0 + 367), .int x1] ++ List.replicate (3 - (lg_sl [.ref (b0 + 367), .int x1]).length) Slot.unset).toArray) [] := by rw [hargs]; exact lg_entry_eq m _ _
  rw [hE]
  have hl := lv_entry [.ref (b0 + 367), .int x1] (n := 3) (Nat.le_of_ble_eq_true rfl)
  generalize (lg_sl [.ref (b0 + 367), .int x1] ++ List.replicate (3 - (lg_sl [.ref (b0 + 367), .int x1]).length) Slot.unset).toArray = ls at hl ⊢
  have hl : lv_has ls 3 [(0, .ref (b0 + 367)), (1, .int x1)] := hl
  have j25 : ∀ (S : St) , ∀ (H : Heap) (locs : List Loc) (ls : Array Slot), wp_X6_ends_25 x1 P S → HP D cy b0 NALL S H → Fx S → va_S (AA b0) s.heap H locs → lv_has ls 3 [(0, .ref (b0 + 367)), (1, .int x1)] → W p l e rm_X6_ends s m args below meth c H locs 0 0 (MQ below (QC (Pv P) (Wb D cy b0 NALL) b0) args s 0 0 (AA b0)) (F0 m 25 ls []) := by
    intro S  H locs ls hw hP hF hS hl
    unfold wp_X6_ends_25 at hw
    refine lv_aload_n hx hb dX6_ends_25 rfl (lv_at hl 0 rfl) ?_
    refine gf_6_16 (k := 367) hx hb hts (by decide +kernel) hown hK hP (by decide) (kk_367) (q := 378) (hF.1 367 16 378 ff_367_16) (hts (.fieldLink RX6 48 "OpticmeshModel" "ways" "[I") (by decide +kernel)) dX6_ends_26 ?_
    refine lv_iload_n hx hb dX6_ends_29 rfl (lv_at hl 1 rfl) ?_
    refine lv_iconst (v := 0) hx hb dX6_ends_30 (by decide) ?_
    obtain ⟨h31, hw⟩ := hw
    refine q_iast (k := 378) (n := 60) (i := x1) (x := 0) hx hb hK hP hS (by decide) (kk_378) (ll_378) h31 dX6_ends_31 (fun H locs hz hP hS => ?_)
    have hF : Fx (sI S 378 (x1.toNatClampNeg) 0) := Fx.sI hF _ _ _
    generalize eS31 : sI S 378 (x1.toNatClampNeg) 0 = S31 at hP hF
    have hw := hw S31 eS31.symm
    exact q_vret hx hb hr hP hF hS hw dX6_ends_32 hlocks
  have j2 : ∀ (n2 : Nat), ∀ (S : St) (a2 : Int32), ∀ (H : Heap) (locs : List Loc) (ls : Array Slot), wp_X6_ends_2 x1 P n2 S a2 → HP D cy b0 NALL S H → Fx S → va_S (AA b0) s.heap H locs → lv_has ls 3 [(0, .ref (b0 + 367)), (1, .int x1), (2, .int a2)] → W p l e rm_X6_ends s m args below meth c H locs 0 0 (MQ below (QC (Pv P) (Wb D cy b0 NALL) b0) args s 0 0 (AA b0)) (F0 m 2 ls []) := by
    intro n2
    induction n2 with
    | zero => intro S a2  H locs ls hw _ _ _ _; exact False.elim hw
    | succ n2 ih2 =>
      intro S a2  H locs ls hw hP hF hS hl
      rw [wp_X6_ends_2] at hw
      refine lv_iload_n hx hb dX6_ends_2 rfl (lv_at hl 2 rfl) ?_
      refine lv_aload_n hx hb dX6_ends_3 rfl (lv_at hl 0 rfl) ?_
      refine gf_6_16 (k := 367) hx hb hts (by decide +kernel) hown hK hP (by decide) (kk_367) (q := 378) (hF.1 367 16 378 ff_367_16) (hts (.fieldLink RX6 48 "OpticmeshModel" "ways" "[I") (by decide +kernel)) dX6_ends_4 ?_
      refine lv_iload_n hx hb dX6_ends_7 rfl (lv_at hl 1 rfl) ?_
      obtain ⟨h8, hw⟩ := hw
      refine q_iald (k := 378) (n := 60) (i := x1) hx hb hK hP (by decide) (kk_378) (ll_378) h8 dX6_ends_8 ?_
      refine lv_icmp_ge (x := a2) (y := (gI S 378 (x1.toNatClampNeg))) (tgt := 25) hx hb dX6_ends_9 (by decide) (fun c9 => ?_) (fun c9 => ?_)
      · rw [if_pos c9] at hw
        exact j25 S  _ _ _ hw hP hF hS (lv_sub hl [0, 1] rfl)
      · rw [if_neg c9] at hw
        refine lv_aload_n hx hb dX6_ends_12 rfl (lv_at hl 0 rfl) ?_
        refine lv_iload_n hx hb dX6_ends_13 rfl (lv_at hl 1 rfl) ?_
        refine lv_iload_n hx hb dX6_ends_14 rfl (lv_at hl 2 rfl) ?_
        refine lv_iconst (v := (-1)) hx hb dX6_ends_15 (by decide) ?_
        refine q_call (va_runV (As := [.int x1, .int a2, .int (-1)]) (rest := []) ⟨hx, hb, hml, hown, hts⟩ (c_X6_uses l D cy b0 S x1 a2 (-1) _ hw) (cwV 3 hts gX6_ends_X6_uses rfl rfl rfl (by decide +kernel) ⟨(Nat.le_of_ble_eq_true rfl), (Nat.le_of_ble_eq_true rfl)⟩) (q_pV hW hP hF hS (k := 367) (ci := 6) (by decide) (cell_6 (kk_367)) rfl [.int x1, .int a2, .int (-1)]) rfl rfl hl.1 rfl (lv_room (Nat.le_of_ble_eq_true rfl)) dX6_ends_16 ⟨(Nat.le_of_ble_eq_true rfl), (Nat.le_of_ble_eq_true rfl)⟩) hS (fun v16 S16 t16 H locs hh hp hB hz hk9 hS => ?_)
        obtain ⟨rfl, hw⟩ := hp
        have hP : HP D cy b0 NALL S16 H := by rw [← hh]; exact hB.1
        have hF := hB.2
        try dsimp only at hw
        refine W.eq (g2 := F0 m 19 ls []) rfl ?_
        obtain ⟨y19, e19⟩ : ∃ z : Int32, z = a2 + 1 := ⟨_, rfl⟩
        have hw := hw y19 e19
        refine lv_iinc (v := y19) (lv' := [(2, .int y19), (0, .ref (b0 + 367)), (1, .int x1)]) hx hb dX6_ends_19 hl (k := 2) rfl (by rw [e19]; rfl) (by decide) rfl (fun ls hl => ?_)
        refine lv_goto (tgt := 2) hx hb dX6_ends_22 (by decide) ?_
        exact ih2 S16 y19  _ _ _ hw hP hF hS (lv_sub hl [1, 2, 0] rfl)
  unfold wp_X6_ends at hw
  refine lv_iconst (v := 0) hx hb dX6_ends_0 (by decide) ?_
  refine lv_istore_n (lv' := [(2, .int 0), (0, .ref (b0 + 367)), (1, .int x1)]) hx hb dX6_ends_1 rfl hl (by decide) rfl (fun ls hl => ?_)
  obtain ⟨n2, hw⟩ := hw
  exact j2 n2 S 0  _ _ _ hw hP hF hS (lv_sub hl [1, 2, 0] rfl)
set_option maxHeartbeats 4000000 in
set_option maxRecDepth 100000 in
theorem c_X6_haveSameEnds (l : Launch) (D : va_G) (cy : Nat → ClassId) (b0 : Nat) (S : St) (x1 : Int32) (x2 : Int32) (x3 : Int32)  (P : Bool → St → Prop) (hw : wp_X6_haveSameEnds S x1 x2 x3 P) : Met l yX6_haveSameEnds wsX6_haveSameEnds rm_X6_haveSameEnds (va_Pc [.ref (b0 + 367), .int x1, .int x2, .int x3] (Wd D cy b0 NALL S)) (QC (Pz P) (Wb D cy b0 NALL) b0) 0 0 (AA b0) := by
  refine Met.ofW (cc := cX6_haveSameEnds) (maxL := 4) (ret := (some .boolean)) (by decide) rfl ?_
  intro p e s m args below meth c s₁ B hml hv
  obtain ⟨hargs, hW, hP, hF⟩ := hv
  have hx := B.exec
  have hb := B.bytes
  have hr := B.returns
  have hts := atoms_spec (ws := wsX6_haveSameEnds) B.pre
  have hown : s.vm.findClass RX6 = some m.cls := findClass_of_methodNamed B.named
  have hlocks := B.notSynchronized
  have hK := hW.1
  have hS : va_S (AA b0) s.heap s.heap [] := va_S.rf
  have hE : entryFrame m args 4 = F0 m 0 ((lg_sl [.ref (b0 + 367), .int x1, .int x2, .int x3] ++ List.replicate (4 - (lg_sl [.ref (b0 + 367), .int x1, .int x2, .int x3]).length) Slot.unset).toArray) [] := by rw [hargs]; exact lg_entry_eq m _ _
  rw [hE]
  have hl := lv_entry [.ref (b0 + 367), .int x1, .int x2, .int x3] (n := 4) (Nat.le_of_ble_eq_true rfl)
  generalize (lg_sl [.ref (b0 + 367), .int x1, .int x2, .int x3] ++ List.replicate (4 - (lg_sl [.ref (b0 + 367), .int x1, .int x2, .int x3]).length) Slot.unset).toArray = ls at hl ⊢
  have hl : lv_has ls 4 [(0, .ref (b0 + 367)), (1, .int x1), (2, .int x2), (3, .int x3)] := hl
  have j20 : ∀ (S : St) , ∀ (H : Heap) (locs : List Loc) (ls : Array Slot), wp_X6_haveSameEnds_20 x1 x2 x3 P S → HP D cy b0 NALL S H → Fx S → va_S (AA b0) s.heap H locs → lv_has ls 4 [(0, .ref (b0 + 367)), (1, .int x1), (2, .int x2), (3, .int x3)] → W p l e rm_X6_haveSameEnds s m args below meth c H locs 0 0 (MQ below (QC (Pz P) (Wb D cy b0 NALL) b0) args s 0 0 (AA b0)) (F0 m 20 ls []) := by
    intro S  H locs ls hw hP hF hS hl
    unfold wp_X6_haveSameEnds_20 at hw
    refine lv_aload_n hx hb dX6_haveSameEnds_20 rfl (lv_at hl 0 rfl) ?_
    refine gf_6_14 (k := 367) hx hb hts (by decide +kernel) hown hK hP (by decide) (kk_367) (q := 376) (hF.1 367 14 376 ff_367_14) (hts (.fieldLink RX6 42 "OpticmeshModel" "starts" "[I") (by decide +kernel)) dX6_haveSameEnds_21 ?_
    refine lv_iload_n hx hb dX6_haveSameEnds_24 rfl (lv_at hl 1 rfl) ?_
    obtain ⟨h25, hw⟩ := hw
    refine q_iald (k := 376) (n := 60) (i := x1) hx hb hK hP (by decide) (kk_376) (ll_376) h25 dX6_haveSameEnds_25 ?_
    refine lv_iload_n hx hb dX6_haveSameEnds_26 rfl (lv_at hl 3 rfl) ?_
    refine lv_icmp_ne (x := (gI S 376 (x1.toNatClampNeg))) (y := x3) (tgt := 44) hx hb dX6_haveSameEnds_27 (by decide) (fun c27 => ?_) (fun c27 => ?_)
    · rw [if_neg c27] at hw
      refine lv_iconst (v := 0) hx hb dX6_haveSameEnds_44 (by decide) ?_
      exact q_zret (v := false) hx hb hr hP hF hS hw dX6_haveSameEnds_45 hlocks
    · rw [if_pos c27] at hw
      refine lv_aload_n hx hb dX6_haveSameEnds_30 rfl (lv_at hl 0 rfl) ?_
      refine gf_6_15 (k := 367) hx hb hts (by decide +kernel) hown hK hP (by decide) (kk_367) (q := 377) (hF.1 367 15 377 ff_367_15) (hts (.fieldLink RX6 45 "OpticmeshModel" "ends" "[I") (by decide +kernel)) dX6_haveSameEnds_31 ?_
      refine lv_iload_n hx hb dX6_haveSameEnds_34 rfl (lv_at hl 1 rfl) ?_
      obtain ⟨h35, hw⟩ := hw
      refine q_iald (k := 377) (n := 60) (i := x1) hx hb hK hP (by decide) (kk_377) (ll_377) h35 dX6_haveSameEnds_35 ?_
      refine lv_iload_n hx hb dX6_haveSameEnds_36 rfl (lv_at hl 2 rfl) ?_
      refine lv_icmp_ne (x := (gI S 377 (x1.toNatClampNeg))) (y := x2) (tgt := 44) hx hb dX6_haveSameEnds_37 (by decide) (fun c37 => ?_) (fun c37 => ?_)
      · rw [if_neg c37] at hw
        refine lv_iconst (v := 0) hx hb dX6_haveSameEnds_44 (by decide) ?_
        exact q_zret (v := false) hx hb hr hP hF hS hw dX6_haveSameEnds_45 hlocks
      · rw [if_pos c37] at hw
        refine lv_iconst (v := 1) hx hb dX6_haveSameEnds_40 (by decide) ?_
        refine lv_goto (tgt := 45) hx hb dX6_haveSameEnds_41 (by decide) ?_
        exact q_zret (v := true) hx hb hr hP hF hS hw dX6_haveSameEnds_45 hlocks
  unfold wp_X6_haveSameEnds at hw
  refine lv_aload_n hx hb dX6_haveSameEnds_0 rfl (lv_at hl 0 rfl) ?_
  refine gf_6_14 (k := 367) hx hb hts (by decide +kernel) hown hK hP (by decide) (kk_367) (q := 376) (hF.1 367 14 376 ff_367_14) (hts (.fieldLink RX6 42 "OpticmeshModel" "starts" "[I") (by decide +kernel)) dX6_haveSameEnds_1 ?_
  refine lv_iload_n hx hb dX6_haveSameEnds_4 rfl (lv_at hl 1 rfl) ?_
  obtain ⟨h5, hw⟩ := hw
  refine q_iald (k := 376) (n := 60) (i := x1) hx hb hK hP (by decide) (kk_376) (ll_376) h5 dX6_haveSameEnds_5 ?_
  refine lv_iload_n hx hb dX6_haveSameEnds_6 rfl (lv_at hl 2 rfl) ?_
  refine lv_icmp_ne (x := (gI S 376 (x1.toNatClampNeg))) (y := x2) (tgt := 20) hx hb dX6_haveSameEnds_7 (by decide) (fun c7 => ?_) (fun c7 => ?_)
  · rw [if_neg c7] at hw
    exact j20 S  _ _ _ hw hP hF hS (lv_sub hl [0, 1, 2, 3] rfl)
  · rw [if_pos c7] at hw
    refine lv_aload_n hx hb dX6_haveSameEnds_10 rfl (lv_at hl 0 rfl) ?_
    refine gf_6_15 (k := 367) hx hb hts (by decide +kernel) hown hK hP (by decide) (kk_367) (q := 377) (hF.1 367 15 377 ff_367_15) (hts (.fieldLink RX6 45 "OpticmeshModel" "ends" "[I") (by decide +kernel)) dX6_haveSameEnds_11 ?_
    refine lv_iload_n hx hb dX6_haveSameEnds_14 rfl (lv_at hl 1 rfl) ?_
    obtain ⟨h15, hw⟩ := hw
    refine q_iald (k := 377) (n := 60) (i := x1) hx hb hK hP (by decide) (kk_377) (ll_377) h15 dX6_haveSameEnds_15 ?_
    refine lv_iload_n hx hb dX6_haveSameEnds_16 rfl (lv_at hl 3 rfl) ?_
    refine lv_icmp_eq (x := (gI S 377 (x1.toNatClampNeg))) (y := x3) (tgt := 40) hx hb dX6_haveSameEnds_17 (by decide) (fun c17 => ?_) (fun c17 => ?_)
    · rw [if_pos c17] at hw
      refine lv_iconst (v := 1) hx hb dX6_haveSameEnds_40 (by decide) ?_
      refine lv_goto (tgt := 45) hx hb dX6_haveSameEnds_41 (by decide) ?_
      exact q_zret (v := true) hx hb hr hP hF hS hw dX6_haveSameEnds_45 hlocks
    · rw [if_neg c17] at hw
      exact j20 S  _ _ _ hw hP hF hS (lv_sub hl [0, 1, 2, 3] rfl)
set_option maxHeartbeats 4000000 in
set_option maxRecDepth 100000 in
theorem c_X6_roomFor (l : Launch) (D : va_G) (cy : Nat → ClassId) (b0 : Nat) (S : St) (x1 : Int32) (x2 : Int32) (x3 : Int32) (x4 : Int32)  (P : Int32 → St → Prop) (hw : wp_X6_roomFor S x1 x2 x3 x4 P) : Met l yX6_roomFor wsX6_roomFor rm_X6_roomFor (va_Pc [.ref (b0 + 367), .int x1, .int x2, .int x3, .int x4] (Wd D cy b0 NALL S)) (QC (Pi P) (Wb D cy b0 NALL) b0) 0 0 (AA b0) := by
  refine Met.ofW (cc := cX6_roomFor) (maxL := 6) (ret := (some .int)) (by decide) rfl ?_
  intro p e s m args below meth c s₁ B hml hv
  obtain ⟨hargs, hW, hP, hF⟩ := hv
  have hx := B.exec
  have hb := B.bytes
  have hr := B.returns
  have hts := atoms_spec (ws := wsX6_roomFor) B.pre
  have hown : s.vm.findClass RX6 = some m.cls := findClass_of_methodNamed B.named
  have hlocks := B.notSynchronized
  have hK := hW.1
  have hS : va_S (AA b0) s.heap s.heap [] := va_S.rf
  have hE : entryFrame m args 6 = F0 m 0 ((lg_sl [.ref (b0 + 367), .int x1, .int x2, .int x3, .int x4] ++ List.replicate (6 - (lg_sl [.ref (b0 + 367), .int x1, .int x2, .int x3, .int x4]).length) Slot.unset).toArray) [] := by rw [hargs]; exact lg_entry_eq m _ _
  rw [hE]
  have hl := lv_entry [.ref (b0 + 367), .int x1, .int x2, .int x3, .int x4] (n := 6) (Nat.le_of_ble_eq_true rfl)
  generalize (lg_sl [.ref (b0 + 367), .int x1, .int x2, .int x3, .int x4] ++ List.replicate (6 - (lg_sl [.ref (b0 + 367), .int x1, .int x2, .int x3, .int x4]).length) Slot.unset).toArray = ls at hl ⊢
  have hl : lv_has ls 6 [(0, .ref (b0 + 367)), (1, .int x1), (2, .int x2), (3, .int x3), (4, .int x4)] := hl
  have j3 : ∀ (n3 : Nat), ∀ (S : St) (a5 : Int32), ∀ (H : Heap) (locs : List Loc) (ls : Array Slot), wp_X6_roomFor_3 x1 x2 x3 x4 P n3 S a5 → HP D cy b0 NALL S H → Fx S → va_S (AA b0) s.heap H locs → lv_has ls 6 [(0, .ref (b0 + 367)), (1, .int x1), (2, .int x2), (3, .int x3), (4, .int x4), (5, .int a5)] → W p l e rm_X6_roomFor s m args below meth c H locs 0 0 (MQ below (QC (Pi P) (Wb D cy b0 NALL) b0) args s 0 0 (AA b0)) (F0 m 3 ls []) := by
    intro n3
    induction n3 with
    | zero => intro S a5  H locs ls hw _ _ _ _; exact False.elim hw
    | succ n3 ih3 =>
      have j69 : ∀ (S : St) (a5 : Int32), ∀ (H : Heap) (locs : List Loc) (ls : Array Slot), wp_X6_roomFor_69 x1 x2 x3 x4 P (fun S a5 => wp_X6_roomFor_3 x1 x2 x3 x4 P n3 S a5) S a5 → HP D cy b0 NALL S H → Fx S → va_S (AA b0) s.heap H locs → lv_has ls 6 [(0, .ref (b0 + 367)), (1, .int x1), (2, .int x2), (3, .int x3), (4, .int x4), (5, .int a5)] → W p l e rm_X6_roomFor s m args below meth c H locs 0 0 (MQ below (QC (Pi P) (Wb D cy b0 NALL) b0) args s 0 0 (AA b0)) (F0 m 69 ls []) := by
        intro S a5  H locs ls hw hP hF hS hl
        unfold wp_X6_roomFor_69 at hw
        obtain ⟨y69, e69⟩ : ∃ z : Int32, z = a5 + 1 := ⟨_, rfl⟩
        have hw := hw y69 e69
        refine lv_iinc (v := y69) (lv' := [(5, .int y69), (0, .ref (b0 + 367)), (1, .int x1), (2, .int x2), (3, .int x3), (4, .int x4)]) hx hb dX6_roomFor_69 hl (k := 5) rfl (by rw [e69]; rfl) (by decide) rfl (fun ls hl => ?_)
        refine lv_goto (tgt := 3) hx hb dX6_roomFor_72 (by decide) ?_
        exact ih3 S y69  _ _ _ hw hP hF hS (lv_sub hl [1, 2, 3, 4, 5, 0] rfl)
      have j50 : ∀ (S : St) (a5 : Int32) (t0 : Int32) (t1 : Int32), ∀ (H : Heap) (locs : List Loc) (ls : Array Slot), wp_X6_roomFor_50 x1 x2 x3 x4 P (fun S a5 => wp_X6_roomFor_3 x1 x2 x3 x4 P n3 S a5) S a5 t0 t1 → HP D cy b0 NALL S H → Fx S → va_S (AA b0) s.heap H locs → lv_has ls 6 [(0, .ref (b0 + 367)), (1, .int x1), (2, .int x2), (3, .int x3), (4, .int x4), (5, .int a5)] → W p l e rm_X6_roomFor s m args below meth c H locs 0 0 (MQ below (QC (Pi P) (Wb D cy b0 NALL) b0) args s 0 0 (AA b0)) (F0 m 50 ls [.int t1, .int t0]) := by
        intro S a5 t0 t1  H locs ls hw hP hF hS hl
        unfold wp_X6_roomFor_50 at hw
        refine lv_icmp_ne (x := t0) (y := t1) (tgt := 69) hx hb dX6_roomFor_50 (by decide) (fun c50 => ?_) (fun c50 => ?_)
        · rw [if_neg c50] at hw
          exact j69 S a5  _ _ _ hw hP hF hS (lv_sub hl [0, 1, 2, 3, 4, 5] rfl)
        · rw [if_pos c50] at hw
          refine lv_aload_n hx hb dX6_roomFor_53 rfl (lv_at hl 0 rfl) ?_
          refine lv_iload hx hb dX6_roomFor_54 (lv_at hl 5 rfl) ?_
          refine q_call (va_runV (As := [.int a5]) (rest := []) ⟨hx, hb, hml, hown, hts⟩ (c_X6_carried l D cy b0 S a5 _ hw) (cwV 1 hts gX6_roomFor_X6_carried rfl rfl rfl (by decide +kernel) ⟨(Nat.le_of_ble_eq_true rfl), (Nat.le_of_ble_eq_true rfl)⟩) (q_pV hW hP hF hS (k := 367) (ci := 6) (by decide) (cell_6 (kk_367)) rfl [.int a5]) rfl rfl hl.1 rfl (lv_room (Nat.le_of_ble_eq_true rfl)) dX6_roomFor_56 ⟨(Nat.le_of_ble_eq_true rfl), (Nat.le_of_ble_eq_true rfl)⟩) hS (fun v56 S56 t56 H locs hh hp hB hz hk9 hS => ?_)
          obtain ⟨r56, rfl, hw⟩ := hp
          have hP : HP D cy b0 NALL S56 H := by rw [← hh]; exact hB.1
          have hF := hB.2
          try dsimp only at hw
          refine W.eq (g2 := F0 m 59 ls [.int r56]) rfl ?_
          refine lv_iload_n hx hb dX6_roomFor_59 rfl (lv_at hl 3 rfl) ?_
          refine lv_iadd hx hb dX6_roomFor_60 ?_
          refine lv_bipush (v := 10) hx hb dX6_roomFor_61 (by decide) ?_
          refine lv_icmp_gt (x := (r56 + x3)) (y := 10) (tgt := 69) hx hb dX6_roomFor_63 (by decide) (fun c63 => ?_) (fun c63 => ?_)
          · rw [if_pos c63] at hw
            exact j69 S56 a5  _ _ _ hw hP hF hS (lv_sub hl [0, 1, 2, 3, 4, 5] rfl)
          · rw [if_neg c63] at hw
            refine lv_iload hx hb dX6_roomFor_66 (lv_at hl 5 rfl) ?_
            exact q_iret hx hb hr hP hF hS hw dX6_roomFor_68 hlocks
      intro S a5  H locs ls hw hP hF hS hl
      rw [wp_X6_roomFor_3] at hw
      refine lv_iload hx hb dX6_roomFor_3 (lv_at hl 5 rfl) ?_
      refine lv_aload_n hx hb dX6_roomFor_5 rfl (lv_at hl 0 rfl) ?_
      refine gf_6_13 (k := 367) hx hb hts (by decide +kernel) hown hK hP (by decide) (kk_367) (hts (.fieldLink RX6 96 "OpticmeshModel" "lights" "I") (by decide +kernel)) dX6_roomFor_6 ?_
      refine lv_icmp_ge (x := a5) (y := (gI S 367 13)) (tgt := 75) hx hb dX6_roomFor_9 (by decide) (fun c9 => ?_) (fun c9 => ?_)
      · rw [if_pos c9] at hw
        refine lv_iconst (v := (-1)) hx hb dX6_roomFor_75 (by decide) ?_
        exact q_iret hx hb hr hP hF hS hw dX6_roomFor_76 hlocks
      · rw [if_neg c9] at hw
        refine lv_aload_n hx hb dX6_roomFor_12 rfl (lv_at hl 0 rfl) ?_
        refine lv_iload hx hb dX6_roomFor_13 (lv_at hl 5 rfl) ?_
        refine q_call (va_runV (As := [.int a5]) (rest := []) ⟨hx, hb, hml, hown, hts⟩ (c_X6_isUp l D cy b0 S a5 _ hw) (cwV 1 hts gX6_roomFor_X6_isUp rfl rfl rfl (by decide +kernel) ⟨(Nat.le_of_ble_eq_true rfl), (Nat.le_of_ble_eq_true rfl)⟩) (q_pV hW hP hF hS (k := 367) (ci := 6) (by decide) (cell_6 (kk_367)) rfl [.int a5]) rfl rfl hl.1 rfl (lv_room (Nat.le_of_ble_eq_true rfl)) dX6_roomFor_15 ⟨(Nat.le_of_ble_eq_true rfl), (Nat.le_of_ble_eq_true rfl)⟩) hS (fun v15 S15 t15 H locs hh hp hB hz hk9 hS => ?_)
        obtain ⟨r15, rfl, hw⟩ := hp
        have hP : HP D cy b0 NALL S15 H := by rw [← hh]; exact hB.1
        have hF := hB.2
        try dsimp only at hw
        refine W.eq (g2 := F0 m 18 ls [.int (b2i r15)]) rfl ?_
        refine lv_if_eq (x := b2i r15) (tgt := 69) hx hb dX6_roomFor_18 (by decide) (fun c18 => ?_) (fun c18 => ?_)
        · have c18 := b2i_z c18
          rw [if_neg c18] at hw
          exact j69 S15 a5  _ _ _ hw hP hF hS (lv_sub hl [0, 1, 2, 3, 4, 5] rfl)
        · have c18 := b2i_n c18
          rw [if_pos c18] at hw
          refine lv_aload_n hx hb dX6_roomFor_21 rfl (lv_at hl 0 rfl) ?_
          refine lv_iload hx hb dX6_roomFor_22 (lv_at hl 5 rfl) ?_
          refine lv_iload_n hx hb dX6_roomFor_24 rfl (lv_at hl 1 rfl) ?_
          refine lv_iload_n hx hb dX6_roomFor_25 rfl (lv_at hl 2 rfl) ?_
          refine q_call (va_runV (As := [.int a5, .int x1, .int x2]) (rest := []) ⟨hx, hb, hml, hown, hts⟩ (c_X6_haveSameEnds l D cy b0 S15 a5 x1 x2 _ hw) (cwV 3 hts gX6_roomFor_X6_haveSameEnds rfl rfl rfl (by decide +kernel) ⟨(Nat.le_of_ble_eq_true rfl), (Nat.le_of_ble_eq_true rfl)⟩) (q_pV hW hP hF hS (k := 367) (ci := 6) (by decide) (cell_6 (kk_367)) rfl [.int a5, .int x1, .int x2]) rfl rfl hl.1 rfl (lv_room (Nat.le_of_ble_eq_true rfl)) dX6_roomFor_26 ⟨(Nat.le_of_ble_eq_true rfl), (Nat.le_of_ble_eq_true rfl)⟩) hS (fun v26 S26 t26 H locs hh hp hB hz hk9 hS => ?_)
          obtain ⟨r26, rfl, hw⟩ := hp
          have hP : HP D cy b0 NALL S26 H := by rw [← hh]; exact hB.1
          have hF := hB.2
          try dsimp only at hw
          refine W.eq (g2 := F0 m 29 ls [.int (b2i r26)]) rfl ?_
          refine lv_if_eq (x := b2i r26) (tgt := 69) hx hb dX6_roomFor_29 (by decide) (fun c29 => ?_) (fun c29 => ?_)
          · have c29 := b2i_z c29
            rw [if_neg c29] at hw
            exact j69 S26 a5  _ _ _ hw hP hF hS (lv_sub hl [0, 1, 2, 3, 4, 5] rfl)
          · have c29 := b2i_n c29
            rw [if_pos c29] at hw
            refine lv_aload_n hx hb dX6_roomFor_32 rfl (lv_at hl 0 rfl) ?_
            refine gf_6_16 (k := 367) hx hb hts (by decide +kernel) hown hK hP (by decide) (kk_367) (q := 378) (hF.1 367 16 378 ff_367_16) (hts (.fieldLink RX6 48 "OpticmeshModel" "ways" "[I") (by decide +kernel)) dX6_roomFor_33 ?_
            refine lv_iload hx hb dX6_roomFor_36 (lv_at hl 5 rfl) ?_
            obtain ⟨h38, hw⟩ := hw
            refine q_iald (k := 378) (n := 60) (i := a5) hx hb hK hP (by decide) (kk_378) (ll_378) h38 dX6_roomFor_38 ?_
            refine lv_iload hx hb dX6_roomFor_39 (lv_at hl 4 rfl) ?_
            refine lv_iconst (v := 2) hx hb dX6_roomFor_41 (by decide) ?_
            refine lv_icmp_ne (x := x4) (y := 2) (tgt := 49) hx hb dX6_roomFor_42 (by decide) (fun c42 => ?_) (fun c42 => ?_)
            · rw [if_neg c42] at hw
              refine lv_iconst (v := 1) hx hb dX6_roomFor_49 (by decide) ?_
              exact j50 S26 a5 (gI S26 378 (a5.toNatClampNeg)) 1  _ _ _ hw hP hF hS (lv_sub hl [0, 1, 2, 3, 4, 5] rfl)
            · rw [if_pos c42] at hw
              refine lv_iconst (v := 2) hx hb dX6_roomFor_45 (by decide) ?_
              refine lv_goto (tgt := 50) hx hb dX6_roomFor_46 (by decide) ?_
              exact j50 S26 a5 (gI S26 378 (a5.toNatClampNeg)) 2  _ _ _ hw hP hF hS (lv_sub hl [0, 1, 2, 3, 4, 5] rfl)
  unfold wp_X6_roomFor at hw
  refine lv_iconst (v := 0) hx hb dX6_roomFor_0 (by decide) ?_
  refine lv_istore (lv' := [(5, .int 0), (0, .ref (b0 + 367)), (1, .int x1), (2, .int x2), (3, .int x3), (4, .int x4)]) hx hb dX6_roomFor_1 hl (by decide) rfl (fun ls hl => ?_)
  obtain ⟨n3, hw⟩ := hw
  exact j3 n3 S 0  _ _ _ hw hP hF hS (lv_sub hl [1, 2, 3, 4, 5, 0] rfl)
set_option maxHeartbeats 4000000 in
set_option maxRecDepth 100000 in
theorem c_X6_numberOfLights (l : Launch) (D : va_G) (cy : Nat → ClassId) (b0 : Nat) (S : St)   (P : Int32 → St → Prop) (hw : wp_X6_numberOfLights S  P) : Met l yX6_numberOfLights wsX6_numberOfLights rm_X6_numberOfLights (va_Pc [.ref (b0 + 367)] (Wd D cy b0 NALL S)) (QC (Pi P) (Wb D cy b0 NALL) b0) 0 0 (AA b0) := by
  refine Met.ofW (cc := cX6_numberOfLights) (maxL := 3) (ret := (some .int)) (by decide) rfl ?_
  intro p e s m args below meth c s₁ B hml hv
  obtain ⟨hargs, hW, hP, hF⟩ := hv
  have hx := B.exec
  have hb := B.bytes
  have hr := B.returns
  have hts := atoms_spec (ws := wsX6_numberOfLights) B.pre
  have hown : s.vm.findClass RX6 = some m.cls := findClass_of_methodNamed B.named
  have hlocks := B.notSynchronized
  have hK := hW.1
  have hS : va_S (AA b0) s.heap s.heap [] := va_S.rf
  have hE : entryFrame m args 3 = F0 m 0 ((lg_sl [.ref (b0 + 367)] ++ List.replicate (3 - (lg_sl [.ref (b0 + 367)]).length) Slot.unset).toArray) [] := by rw [hargs]; exact lg_entry_eq m _ _
  rw [hE]
  have hl := lv_entry [.ref (b0 + 367)] (n := 3) (Nat.le_of_ble_eq_true rfl)
  generalize (lg_sl [.ref (b0 + 367)] ++ List.replicate (3 - (lg_sl [.ref (b0 + 367)]).length) Slot.unset).toArray = ls at hl ⊢
  have hl : lv_has ls 3 [(0, .ref (b0 + 367))] := hl
  have j4 : ∀ (n4 : Nat), ∀ (S : St) (a1 : Int32) (a2 : Int32), ∀ (H : Heap) (locs : List Loc) (ls : Array Slot), wp_X6_numberOfLights_4 P n4 S a1 a2 → HP D cy b0 NALL S H → Fx S → va_S (AA b0) s.heap H locs → lv_has ls 3 [(0, .ref (b0 + 367)), (1, .int a1), (2, .int a2)] → W p l e rm_X6_numberOfLights s m args below meth c H locs 0 0 (MQ below (QC (Pi P) (Wb D cy b0 NALL) b0) args s 0 0 (AA b0)) (F0 m 4 ls []) := by
    intro n4
    induction n4 with
    | zero => intro S a1 a2  H locs ls hw _ _ _ _; exact False.elim hw
    | succ n4 ih4 =>
      have j27 : ∀ (S : St) (a2 : Int32) (t0 : Int32) (t1 : Bool), ∀ (H : Heap) (locs : List Loc) (ls : Array Slot), wp_X6_numberOfLights_27 P (fun S a1 a2 => wp_X6_numberOfLights_4 P n4 S a1 a2) S a2 t0 t1 → HP D cy b0 NALL S H → Fx S → va_S (AA b0) s.heap H locs → lv_has ls 3 [(0, .ref (b0 + 367)), (2, .int a2)] → W p l e rm_X6_numberOfLights s m args below meth c H locs 0 0 (MQ below (QC (Pi P) (Wb D cy b0 NALL) b0) args s 0 0 (AA b0)) (F0 m 27 ls [.int (b2i t1), .int t0]) := by
        intro S a2 t0 t1  H locs ls hw hP hF hS hl
        unfold wp_X6_numberOfLights_27 at hw
        refine lv_iadd hx hb dX6_numberOfLights_27 ?_
        refine lv_topi (fun y28 e28 => ?_)
        have hw := hw y28 e28
        refine lv_istore_n (lv' := [(1, .int y28), (0, .ref (b0 + 367)), (2, .int a2)]) hx hb dX6_numberOfLights_28 rfl hl (by decide) rfl (fun ls hl => ?_)
        obtain ⟨y29, e29⟩ : ∃ z : Int32, z = a2 + 1 := ⟨_, rfl⟩
        have hw := hw y29 e29
        refine lv_iinc (v := y29) (lv' := [(2, .int y29), (1, .int y28), (0, .ref (b0 + 367))]) hx hb dX6_numberOfLights_29 hl (k := 2) rfl (by rw [e29]; rfl) (by decide) rfl (fun ls hl => ?_)
        refine lv_goto (tgt := 4) hx hb dX6_numberOfLights_32 (by decide) ?_
        exact ih4 S y28 y29  _ _ _ hw hP hF hS (lv_sub hl [2, 1, 0] rfl)
      intro S a1 a2  H locs ls hw hP hF hS hl
      rw [wp_X6_numberOfLights_4] at hw
      refine lv_iload_n hx hb dX6_numberOfLights_4 rfl (lv_at hl 2 rfl) ?_
      refine lv_aload_n hx hb dX6_numberOfLights_5 rfl (lv_at hl 0 rfl) ?_
      refine gf_6_13 (k := 367) hx hb hts (by decide +kernel) hown hK hP (by decide) (kk_367) (hts (.fieldLink RX6 96 "OpticmeshModel" "lights" "I") (by decide +kernel)) dX6_numberOfLights_6 ?_
      refine lv_icmp_ge (x := a2) (y := (gI S 367 13)) (tgt := 35) hx hb dX6_numberOfLights_9 (by decide) (fun c9 => ?_) (fun c9 => ?_)
      · rw [if_pos c9] at hw
        refine lv_iload_n hx hb dX6_numberOfLights_35 rfl (lv_at hl 1 rfl) ?_
        exact q_iret hx hb hr hP hF hS hw dX6_numberOfLights_36 hlocks
      · rw [if_neg c9] at hw
        refine lv_iload_n hx hb dX6_numberOfLights_12 rfl (lv_at hl 1 rfl) ?_
        refine lv_aload_n hx hb dX6_numberOfLights_13 rfl (lv_at hl 0 rfl) ?_
        refine gf_6_16 (k := 367) hx hb hts (by decide +kernel) hown hK hP (by decide) (kk_367) (q := 378) (hF.1 367 16 378 ff_367_16) (hts (.fieldLink RX6 48 "OpticmeshModel" "ways" "[I") (by decide +kernel)) dX6_numberOfLights_14 ?_
        refine lv_iload_n hx hb dX6_numberOfLights_17 rfl (lv_at hl 2 rfl) ?_
        obtain ⟨h18, hw⟩ := hw
        refine q_iald (k := 378) (n := 60) (i := a2) hx hb hK hP (by decide) (kk_378) (ll_378) h18 dX6_numberOfLights_18 ?_
        refine lv_if_le (x := (gI S 378 (a2.toNatClampNeg))) (tgt := 26) hx hb dX6_numberOfLights_19 (by decide) (fun c19 => ?_) (fun c19 => ?_)
        · rw [if_pos c19] at hw
          refine lv_iconst (v := 0) hx hb dX6_numberOfLights_26 (by decide) ?_
          exact j27 S a2 a1 false  _ _ _ hw hP hF hS (lv_sub hl [0, 2] rfl)
        · rw [if_neg c19] at hw
          refine lv_iconst (v := 1) hx hb dX6_numberOfLights_22 (by decide) ?_
          refine lv_goto (tgt := 27) hx hb dX6_numberOfLights_23 (by decide) ?_
          exact j27 S a2 a1 true  _ _ _ hw hP hF hS (lv_sub hl [0, 2] rfl)
  unfold wp_X6_numberOfLights at hw
  refine lv_iconst (v := 0) hx hb dX6_numberOfLights_0 (by decide) ?_
  refine lv_istore_n (lv' := [(1, .int 0), (0, .ref (b0 + 367))]) hx hb dX6_numberOfLights_1 rfl hl (by decide) rfl (fun ls hl => ?_)
  refine lv_iconst (v := 0) hx hb dX6_numberOfLights_2 (by decide) ?_
  refine lv_istore_n (lv' := [(2, .int 0), (1, .int 0), (0, .ref (b0 + 367))]) hx hb dX6_numberOfLights_3 rfl hl (by decide) rfl (fun ls hl => ?_)
  obtain ⟨n4, hw⟩ := hw
  exact j4 n4 S 0 0  _ _ _ hw hP hF hS (lv_sub hl [2, 1, 0] rfl)
set_option maxHeartbeats 4000000 in
set_option maxRecDepth 100000 in
theorem c_X6_makes (l : Launch) (D : va_G) (cy : Nat → ClassId) (b0 : Nat) (S : St) (x1 : Int32) (x2 : Int32) (x3 : Int32)  (P : Int32 → St → Prop) (hw : wp_X6_makes S x1 x2 x3 P) : Met l yX6_makes wsX6_makes rm_X6_makes (va_Pc [.ref (b0 + 367), .int x1, .int x2, .int x3] (Wd D cy b0 NALL S)) (QC (Pi P) (Wb D cy b0 NALL) b0) 0 0 (AA b0) := by
  refine Met.ofW (cc := cX6_makes) (maxL := 4) (ret := (some .int)) (by decide) rfl ?_
  intro p e s m args below meth c s₁ B hml hv
  obtain ⟨hargs, hW, hP, hF⟩ := hv
  have hx := B.exec
  have hb := B.bytes
  have hr := B.returns
  have hts := atoms_spec (ws := wsX6_makes) B.pre
  have hown : s.vm.findClass RX6 = some m.cls := findClass_of_methodNamed B.named
  have hlocks := B.notSynchronized
  have hK := hW.1
  have hS : va_S (AA b0) s.heap s.heap [] := va_S.rf
  have hE : entryFrame m args 4 = F0 m 0 ((lg_sl [.ref (b0 + 367), .int x1, .int x2, .int x3] ++ List.replicate (4 - (lg_sl [.ref (b0 + 367), .int x1, .int x2, .int x3]).length) Slot.unset).toArray) [] := by rw [hargs]; exact lg_entry_eq m _ _
  rw [hE]
  have hl := lv_entry [.ref (b0 + 367), .int x1, .int x2, .int x3] (n := 4) (Nat.le_of_ble_eq_true rfl)
  generalize (lg_sl [.ref (b0 + 367), .int x1, .int x2, .int x3] ++ List.replicate (4 - (lg_sl [.ref (b0 + 367), .int x1, .int x2, .int x3]).length) Slot.unset).toArray = ls at hl ⊢
  have hl : lv_has ls 4 [(0, .ref (b0 + 367)), (1, .int x1), (2, .int x2), (3, .int x3)] := hl
  have j70 : ∀ (S : St) , ∀ (H : Heap) (locs : List Loc) (ls : Array Slot), wp_X6_makes_70 x1 x2 x3 P S → HP D cy b0 NALL S H → Fx S → va_S (AA b0) s.heap H locs → lv_has ls 4 [(0, .ref (b0 + 367))] → W p l e rm_X6_makes s m args below meth c H locs 0 0 (MQ below (QC (Pi P) (Wb D cy b0 NALL) b0) args s 0 0 (AA b0)) (F0 m 70 ls []) := by
    intro S  H locs ls hw hP hF hS hl
    unfold wp_X6_makes_70 at hw
    refine lv_aload_n hx hb dX6_makes_70 rfl (lv_at hl 0 rfl) ?_
    refine lv_dup hx hb dX6_makes_71 rfl ?_
    refine gf_6_13 (k := 367) hx hb hts (by decide +kernel) hown hK hP (by decide) (kk_367) (hts (.fieldLink RX6 96 "OpticmeshModel" "lights" "I") (by decide +kernel)) dX6_makes_72 ?_
    refine lv_iconst (v := 1) hx hb dX6_makes_75 (by decide) ?_
    refine lv_iadd hx hb dX6_makes_76 ?_
    refine pf_6_13 (k := 367) (x := ((gI S 367 13) + 1)) hx hb hts (by decide +kernel) hown hK hP hS (by decide) (kk_367) (hts (.fieldLink RX6 96 "OpticmeshModel" "lights" "I") (by decide +kernel)) dX6_makes_77 (fun H locs hz hP hS => ?_)
    have hF : Fx (sI S 367 13 ((gI S 367 13) + 1)) := Fx.sI hF _ _ _
    generalize eS77 : sI S 367 13 ((gI S 367 13) + 1) = S77 at hP hF
    have hw := hw S77 eS77.symm
    refine lv_aload_n hx hb dX6_makes_80 rfl (lv_at hl 0 rfl) ?_
    refine gf_6_13 (k := 367) hx hb hts (by decide +kernel) hown hK hP (by decide) (kk_367) (hts (.fieldLink RX6 96 "OpticmeshModel" "lights" "I") (by decide +kernel)) dX6_makes_81 ?_
    refine lv_iconst (v := 1) hx hb dX6_makes_84 (by decide) ?_
    refine lv_isub hx hb dX6_makes_85 ?_
    exact q_iret hx hb hr hP hF hS hw dX6_makes_86 hlocks
  have j38 : ∀ (S : St) (t1 : Int32) (t2 : Int32), ∀ (H : Heap) (locs : List Loc) (ls : Array Slot), wp_X6_makes_38 x1 x2 x3 P S t1 t2 → HP D cy b0 NALL S H → Fx S → va_S (AA b0) s.heap H locs → lv_has ls 4 [(0, .ref (b0 + 367)), (3, .int x3)] → W p l e rm_X6_makes s m args below meth c H locs 0 0 (MQ below (QC (Pi P) (Wb D cy b0 NALL) b0) args s 0 0 (AA b0)) (F0 m 38 ls [.int t2, .int t1, .ref (b0 + 378)]) := by
    intro S t1 t2  H locs ls hw hP hF hS hl
    unfold wp_X6_makes_38 at hw
    obtain ⟨h38, hw⟩ := hw
    refine q_iast (k := 378) (n := 60) (i := t1) (x := t2) hx hb hK hP hS (by decide) (kk_378) (ll_378) h38 dX6_makes_38 (fun H locs hz hP hS => ?_)
    have hF : Fx (sI S 378 (t1.toNatClampNeg) t2) := Fx.sI hF _ _ _
    generalize eS38 : sI S 378 (t1.toNatClampNeg) t2 = S38 at hP hF
    have hw := hw S38 eS38.symm
    refine lv_aload_n hx hb dX6_makes_39 rfl (lv_at hl 0 rfl) ?_
    refine lv_aload_n hx hb dX6_makes_40 rfl (lv_at hl 0 rfl) ?_
    refine gf_6_13 (k := 367) hx hb hts (by decide +kernel) hown hK hP (by decide) (kk_367) (hts (.fieldLink RX6 96 "OpticmeshModel" "lights" "I") (by decide +kernel)) dX6_makes_41 ?_
    refine lv_iconst (v := 0) hx hb dX6_makes_44 (by decide) ?_
    refine lv_aload_n hx hb dX6_makes_45 rfl (lv_at hl 0 rfl) ?_
    refine gf_6_22 (k := 367) hx hb hts (by decide +kernel) hown hK hP (by decide) (kk_367) (q := 384) (hF.1 367 22 384 ff_367_22) (hts (.fieldLink RX6 66 "OpticmeshModel" "best" "[I") (by decide +kernel)) dX6_makes_46 ?_
    refine q_call (va_runV (As := [.int (gI S38 367 13), .int 0, .ref (b0 + 384)]) (rest := []) ⟨hx, hb, hml, hown, hts⟩ (c_X6_gets l D cy b0 S38 (gI S38 367 13) 0 384 (kk_384) (ll_384) _ hw) (cwV 3 hts gX6_makes_X6_gets rfl rfl rfl (by decide +kernel) ⟨(Nat.le_of_ble_eq_true rfl), (Nat.le_of_ble_eq_true rfl)⟩) (q_pV hW hP hF hS (k := 367) (ci := 6) (by decide) (cell_6 (kk_367)) rfl [.int (gI S38 367 13), .int 0, .ref (b0 + 384)]) rfl rfl hl.1 rfl (lv_room (Nat.le_of_ble_eq_true rfl)) dX6_makes_49 ⟨(Nat.le_of_ble_eq_true rfl), (Nat.le_of_ble_eq_true rfl)⟩) hS (fun v49 S49 t49 H locs hh hp hB hz hk9 hS => ?_)
    obtain ⟨rfl, hw⟩ := hp
    have hP : HP D cy b0 NALL S49 H := by rw [← hh]; exact hB.1
    have hF := hB.2
    try dsimp only at hw
    refine W.eq (g2 := F0 m 52 ls []) rfl ?_
    refine lv_iload_n hx hb dX6_makes_52 rfl (lv_at hl 1 rfl) ?_
    refine lv_iconst (v := 2) hx hb dX6_makes_53 (by decide) ?_
    refine lv_icmp_ne (x := x3) (y := 2) (tgt := 70) hx hb dX6_makes_54 (by decide) (fun c54 => ?_) (fun c54 => ?_)
    · rw [if_neg c54] at hw
      exact j70 S49  _ _ _ hw hP hF hS (lv_sub hl [0] rfl)
    · rw [if_pos c54] at hw
      refine lv_aload_n hx hb dX6_makes_57 rfl (lv_at hl 0 rfl) ?_
      refine lv_aload_n hx hb dX6_makes_58 rfl (lv_at hl 0 rfl) ?_
      refine gf_6_13 (k := 367) hx hb hts (by decide +kernel) hown hK hP (by decide) (kk_367) (hts (.fieldLink RX6 96 "OpticmeshModel" "lights" "I") (by decide +kernel)) dX6_makes_59 ?_
      refine lv_iconst (v := 1) hx hb dX6_makes_62 (by decide) ?_
      refine lv_aload_n hx hb dX6_makes_63 rfl (lv_at hl 0 rfl) ?_
      refine gf_6_23 (k := 367) hx hb hts (by decide +kernel) hown hK hP (by decide) (kk_367) (q := 385) (hF.1 367 23 385 ff_367_23) (hts (.fieldLink RX6 69 "OpticmeshModel" "bestOther" "[I") (by decide +kernel)) dX6_makes_64 ?_
      refine q_call (va_runV (As := [.int (gI S49 367 13), .int 1, .ref (b0 + 385)]) (rest := []) ⟨hx, hb, hml, hown, hts⟩ (c_X6_gets l D cy b0 S49 (gI S49 367 13) 1 385 (kk_385) (ll_385) _ hw) (cwV 3 hts gX6_makes_X6_gets rfl rfl rfl (by decide +kernel) ⟨(Nat.le_of_ble_eq_true rfl), (Nat.le_of_ble_eq_true rfl)⟩) (q_pV hW hP hF hS (k := 367) (ci := 6) (by decide) (cell_6 (kk_367)) rfl [.int (gI S49 367 13), .int 1, .ref (b0 + 385)]) rfl rfl hl.1 rfl (lv_room (Nat.le_of_ble_eq_true rfl)) dX6_makes_67 ⟨(Nat.le_of_ble_eq_true rfl), (Nat.le_of_ble_eq_true rfl)⟩) hS (fun v67 S67 t67 H locs hh hp hB hz hk9 hS => ?_)
      obtain ⟨rfl, hw⟩ := hp
      have hP : HP D cy b0 NALL S67 H := by rw [← hh]; exact hB.1
      have hF := hB.2
      try dsimp only at hw
      refine W.eq (g2 := F0 m 70 ls []) rfl ?_
      exact j70 S67  _ _ _ hw hP hF hS (lv_sub hl [0] rfl)
  unfold wp_X6_makes at hw
  refine lv_aload_n hx hb dX6_makes_0 rfl (lv_at hl 0 rfl) ?_
  refine gf_6_14 (k := 367) hx hb hts (by decide +kernel) hown hK hP (by decide) (kk_367) (q := 376) (hF.1 367 14 376 ff_367_14) (hts (.fieldLink RX6 42 "OpticmeshModel" "starts" "[I") (by decide +kernel)) dX6_makes_1 ?_
  refine lv_aload_n hx hb dX6_makes_4 rfl (lv_at hl 0 rfl) ?_
  refine gf_6_13 (k := 367) hx hb hts (by decide +kernel) hown hK hP (by decide) (kk_367) (hts (.fieldLink RX6 96 "OpticmeshModel" "lights" "I") (by decide +kernel)) dX6_makes_5 ?_
  refine lv_iload_n hx hb dX6_makes_8 rfl (lv_at hl 1 rfl) ?_
  obtain ⟨h9, hw⟩ := hw
  refine q_iast (k := 376) (n := 60) (i := (gI S 367 13)) (x := x1) hx hb hK hP hS (by decide) (kk_376) (ll_376) h9 dX6_makes_9 (fun H locs hz hP hS => ?_)
  have hF : Fx (sI S 376 ((gI S 367 13).toNatClampNeg) x1) := Fx.sI hF _ _ _
  generalize eS9 : sI S 376 ((gI S 367 13).toNatClampNeg) x1 = S9 at hP hF
  have hw := hw S9 eS9.symm
  refine lv_aload_n hx hb dX6_makes_10 rfl (lv_at hl 0 rfl) ?_
  refine gf_6_15 (k := 367) hx hb hts (by decide +kernel) hown hK hP (by decide) (kk_367) (q := 377) (hF.1 367 15 377 ff_367_15) (hts (.fieldLink RX6 45 "OpticmeshModel" "ends" "[I") (by decide +kernel)) dX6_makes_11 ?_
  refine lv_aload_n hx hb dX6_makes_14 rfl (lv_at hl 0 rfl) ?_
  refine gf_6_13 (k := 367) hx hb hts (by decide +kernel) hown hK hP (by decide) (kk_367) (hts (.fieldLink RX6 96 "OpticmeshModel" "lights" "I") (by decide +kernel)) dX6_makes_15 ?_
  refine lv_iload_n hx hb dX6_makes_18 rfl (lv_at hl 2 rfl) ?_
  obtain ⟨h19, hw⟩ := hw
  refine q_iast (k := 377) (n := 60) (i := (gI S9 367 13)) (x := x2) hx hb hK hP hS (by decide) (kk_377) (ll_377) h19 dX6_makes_19 (fun H locs hz hP hS => ?_)
  have hF : Fx (sI S9 377 ((gI S9 367 13).toNatClampNeg) x2) := Fx.sI hF _ _ _
  generalize eS19 : sI S9 377 ((gI S9 367 13).toNatClampNeg) x2 = S19 at hP hF
  have hw := hw S19 eS19.symm
  refine lv_aload_n hx hb dX6_makes_20 rfl (lv_at hl 0 rfl) ?_
  refine gf_6_16 (k := 367) hx hb hts (by decide +kernel) hown hK hP (by decide) (kk_367) (q := 378) (hF.1 367 16 378 ff_367_16) (hts (.fieldLink RX6 48 "OpticmeshModel" "ways" "[I") (by decide +kernel)) dX6_makes_21 ?_
  refine lv_aload_n hx hb dX6_makes_24 rfl (lv_at hl 0 rfl) ?_
  refine gf_6_13 (k := 367) hx hb hts (by decide +kernel) hown hK hP (by decide) (kk_367) (hts (.fieldLink RX6 96 "OpticmeshModel" "lights" "I") (by decide +kernel)) dX6_makes_25 ?_
  refine lv_iload_n hx hb dX6_makes_28 rfl (lv_at hl 3 rfl) ?_
  refine lv_iconst (v := 2) hx hb dX6_makes_29 (by decide) ?_
  refine lv_icmp_ne (x := x3) (y := 2) (tgt := 37) hx hb dX6_makes_30 (by decide) (fun c30 => ?_) (fun c30 => ?_)
  · rw [if_neg c30] at hw
    refine lv_iconst (v := 1) hx hb dX6_makes_37 (by decide) ?_
    exact j38 S19 (gI S19 367 13) 1  _ _ _ hw hP hF hS (lv_sub hl [0, 3] rfl)
  · rw [if_pos c30] at hw
    refine lv_iconst (v := 2) hx hb dX6_makes_33 (by decide) ?_
    refine lv_goto (tgt := 38) hx hb dX6_makes_34 (by decide) ?_
    exact j38 S19 (gI S19 367 13) 2  _ _ _ hw hP hF hS (lv_sub hl [0, 3] rfl)
set_option maxHeartbeats 4000000 in
set_option maxRecDepth 100000 in
theorem c_X6_request (l : Launch) (D : va_G) (cy : Nat → ClassId) (b0 : Nat) (S : St) (x1 : Int32) (x2 : Int32) (x3 : Int32) (x4 : Int32)  (P : Int32 → St → Prop) (hw : wp_X6_request S x1 x2 x3 x4 P) : Met l yX6_request wsX6_request rm_X6_request (va_Pc [.ref (b0 + 367), .int x1, .int x2, .int x3, .int x4] (Wd D cy b0 NALL S)) (QC (Pi P) (Wb D cy b0 NALL) b0) 0 0 (AA b0) := by
  refine Met.ofW (cc := cX6_request) (maxL := 8) (ret := (some .int)) (by decide) rfl ?_
  intro p e s m args below meth c s₁ B hml hv
  obtain ⟨hargs, hW, hP, hF⟩ := hv
  have hx := B.exec
  have hb := B.bytes
  have hr := B.returns
  have hts := atoms_spec (ws := wsX6_request) B.pre
  have hown : s.vm.findClass RX6 = some m.cls := findClass_of_methodNamed B.named
  have hlocks := B.notSynchronized
  have hK := hW.1
  have hS : va_S (AA b0) s.heap s.heap [] := va_S.rf
  have hE : entryFrame m args 8 = F0 m 0 ((lg_sl [.ref (b0 + 367), .int x1, .int x2, .int x3, .int x4] ++ List.replicate (8 - (lg_sl [.ref (b0 + 367), .int x1, .int x2, .int x3, .int x4]).length) Slot.unset).toArray) [] := by rw [hargs]; exact lg_entry_eq m _ _
  rw [hE]
  have hl := lv_entry [.ref (b0 + 367), .int x1, .int x2, .int x3, .int x4] (n := 8) (Nat.le_of_ble_eq_true rfl)
  generalize (lg_sl [.ref (b0 + 367), .int x1, .int x2, .int x3, .int x4] ++ List.replicate (8 - (lg_sl [.ref (b0 + 367), .int x1, .int x2, .int x3, .int x4]).length) Slot.unset).toArray = ls at hl ⊢
  have hl : lv_has ls 8 [(0, .ref (b0 + 367)), (1, .int x1), (2, .int x2), (3, .int x3), (4, .int x4)] := hl
  have j170 : ∀ (S : St) (t1 : Int32) (t2 : Int32), ∀ (H : Heap) (locs : List Loc) (ls : Array Slot), wp_X6_request_170 x1 x2 x3 x4 P S t1 t2 → HP D cy b0 NALL S H → Fx S → va_S (AA b0) s.heap H locs → lv_has ls 8 [(0, .ref (b0 + 367)), (3, .int x3)] → W p l e rm_X6_request s m args below meth c H locs 0 0 (MQ below (QC (Pi P) (Wb D cy b0 NALL) b0) args s 0 0 (AA b0)) (F0 m 170 ls [.int t2, .int t1, .ref (b0 + 374)]) := by
    intro S t1 t2  H locs ls hw hP hF hS hl
    unfold wp_X6_request_170 at hw
    obtain ⟨h170, hw⟩ := hw
    refine q_iast (k := 374) (n := 60) (i := t1) (x := t2) hx hb hK hP hS (by decide) (kk_374) (ll_374) h170 dX6_request_170 (fun H locs hz hP hS => ?_)
    have hF : Fx (sI S 374 (t1.toNatClampNeg) t2) := Fx.sI hF _ _ _
    generalize eS170 : sI S 374 (t1.toNatClampNeg) t2 = S170 at hP hF
    have hw := hw S170 eS170.symm
    refine lv_aload_n hx hb dX6_request_171 rfl (lv_at hl 0 rfl) ?_
    refine gf_6_12 (k := 367) hx hb hts (by decide +kernel) hown hK hP (by decide) (kk_367) (q := 375) (hF.1 367 12 375 ff_367_12) (hts (.fieldLink RX6 39 "OpticmeshModel" "demands" "[I") (by decide +kernel)) dX6_request_172 ?_
    refine lv_aload_n hx hb dX6_request_175 rfl (lv_at hl 0 rfl) ?_
    refine gf_6_10 (k := 367) hx hb hts (by decide +kernel) hown hK hP (by decide) (kk_367) (hts (.fieldLink RX6 93 "OpticmeshModel" "requests" "I") (by decide +kernel)) dX6_request_176 ?_
    refine lv_iload_n hx hb dX6_request_179 rfl (lv_at hl 1 rfl) ?_
    obtain ⟨h180, hw⟩ := hw
    refine q_iast (k := 375) (n := 60) (i := (gI S170 367 10)) (x := x3) hx hb hK hP hS (by decide) (kk_375) (ll_375) h180 dX6_request_180 (fun H locs hz hP hS => ?_)
    have hF : Fx (sI S170 375 ((gI S170 367 10).toNatClampNeg) x3) := Fx.sI hF _ _ _
    generalize eS180 : sI S170 375 ((gI S170 367 10).toNatClampNeg) x3 = S180 at hP hF
    have hw := hw S180 eS180.symm
    refine lv_aload_n hx hb dX6_request_181 rfl (lv_at hl 0 rfl) ?_
    refine lv_dup hx hb dX6_request_182 rfl ?_
    refine gf_6_10 (k := 367) hx hb hts (by decide +kernel) hown hK hP (by decide) (kk_367) (hts (.fieldLink RX6 93 "OpticmeshModel" "requests" "I") (by decide +kernel)) dX6_request_183 ?_
    refine lv_iconst (v := 1) hx hb dX6_request_186 (by decide) ?_
    refine lv_iadd hx hb dX6_request_187 ?_
    refine pf_6_10 (k := 367) (x := ((gI S180 367 10) + 1)) hx hb hts (by decide +kernel) hown hK hP hS (by decide) (kk_367) (hts (.fieldLink RX6 93 "OpticmeshModel" "requests" "I") (by decide +kernel)) dX6_request_188 (fun H locs hz hP hS => ?_)
    have hF : Fx (sI S180 367 10 ((gI S180 367 10) + 1)) := Fx.sI hF _ _ _
    generalize eS188 : sI S180 367 10 ((gI S180 367 10) + 1) = S188 at hP hF
    have hw := hw S188 eS188.symm
    refine lv_aload_n hx hb dX6_request_191 rfl (lv_at hl 0 rfl) ?_
    refine gf_6_10 (k := 367) hx hb hts (by decide +kernel) hown hK hP (by decide) (kk_367) (hts (.fieldLink RX6 93 "OpticmeshModel" "requests" "I") (by decide +kernel)) dX6_request_192 ?_
    refine lv_iconst (v := 1) hx hb dX6_request_195 (by decide) ?_
    refine lv_isub hx hb dX6_request_196 ?_
    exact q_iret hx hb hr hP hF hS hw dX6_request_197 hlocks
  have j136 : ∀ (S : St) (a6 : Int32) (a7 : Bool) (t1 : Int32), ∀ (H : Heap) (locs : List Loc) (ls : Array Slot), wp_X6_request_136 x1 x2 x3 x4 P S a6 a7 t1 → HP D cy b0 NALL S H → Fx S → va_S (AA b0) s.heap H locs → lv_has ls 8 [(0, .ref (b0 + 367)), (1, .int x1), (2, .int x2), (3, .int x3), (4, .int x4), (6, .int a6), (7, .int (b2i a7))] → W p l e rm_X6_request s m args below meth c H locs 0 0 (MQ below (QC (Pi P) (Wb D cy b0 NALL) b0) args s 0 0 (AA b0)) (F0 m 136 ls [.int t1, .ref (b0 + 367)]) := by
    intro S a6 a7 t1  H locs ls hw hP hF hS hl
    unfold wp_X6_request_136 at hw
    refine q_call (va_runV (As := [.int t1]) (rest := []) ⟨hx, hb, hml, hown, hts⟩ (c_X6_holds l D cy b0 S t1 _ hw) (cwV 1 hts gX6_request_X6_holds rfl rfl rfl (by decide +kernel) ⟨(Nat.le_of_ble_eq_true rfl), (Nat.le_of_ble_eq_true rfl)⟩) (q_pV hW hP hF hS (k := 367) (ci := 6) (by decide) (cell_6 (kk_367)) rfl [.int t1]) rfl rfl hl.1 rfl (lv_room (Nat.le_of_ble_eq_true rfl)) dX6_request_136 ⟨(Nat.le_of_ble_eq_true rfl), (Nat.le_of_ble_eq_true rfl)⟩) hS (fun v136 S136 t136 H locs hh hp hB hz hk9 hS => ?_)
    obtain ⟨r136, rfl, hw⟩ := hp
    have hP : HP D cy b0 NALL S136 H := by rw [← hh]; exact hB.1
    have hF := hB.2
    try dsimp only at hw
    refine W.eq (g2 := F0 m 139 ls [.int (b2i r136)]) rfl ?_
    refine lv_if_ne (x := b2i r136) (tgt := 144) hx hb dX6_request_139 (by decide) (fun c139 => ?_) (fun c139 => ?_)
    · have c139 := b2i_n c139
      rw [if_pos c139] at hw
      refine lv_aload_n hx hb dX6_request_144 rfl (lv_at hl 0 rfl) ?_
      refine gf_6_11 (k := 367) hx hb hts (by decide +kernel) hown hK hP (by decide) (kk_367) (q := 374) (hF.1 367 11 374 ff_367_11) (hts (.fieldLink RX6 36 "OpticmeshModel" "carriers" "[I") (by decide +kernel)) dX6_request_145 ?_
      refine lv_aload_n hx hb dX6_request_148 rfl (lv_at hl 0 rfl) ?_
      refine gf_6_10 (k := 367) hx hb hts (by decide +kernel) hown hK hP (by decide) (kk_367) (hts (.fieldLink RX6 93 "OpticmeshModel" "requests" "I") (by decide +kernel)) dX6_request_149 ?_
      refine lv_iload hx hb dX6_request_152 (lv_at hl 6 rfl) ?_
      refine lv_if_eq (x := b2i a7) (tgt := 168) hx hb dX6_request_154 (by decide) (fun c154 => ?_) (fun c154 => ?_)
      · have c154 := b2i_z c154
        rw [if_neg c154] at hw
        refine lv_iload hx hb dX6_request_168 (lv_at hl 5 rfl) ?_
        exact j170 S136 (gI S136 367 10) a6  _ _ _ hw hP hF hS (lv_sub hl [0, 3] rfl)
      · have c154 := b2i_n c154
        rw [if_pos c154] at hw
        refine lv_aload_n hx hb dX6_request_157 rfl (lv_at hl 0 rfl) ?_
        refine lv_iload_n hx hb dX6_request_158 rfl (lv_at hl 1 rfl) ?_
        refine lv_iload_n hx hb dX6_request_159 rfl (lv_at hl 2 rfl) ?_
        refine lv_iload hx hb dX6_request_160 (lv_at hl 4 rfl) ?_
        refine q_call (va_runV (As := [.int x1, .int x2, .int x4]) (rest := [.int (gI S136 367 10), .ref (b0 + 374)]) ⟨hx, hb, hml, hown, hts⟩ (c_X6_makes l D cy b0 S136 x1 x2 x4 _ hw) (cwV 3 hts gX6_request_X6_makes rfl rfl rfl (by decide +kernel) ⟨(Nat.le_of_ble_eq_true rfl), (Nat.le_of_ble_eq_true rfl)⟩) (q_pV hW hP hF hS (k := 367) (ci := 6) (by decide) (cell_6 (kk_367)) rfl [.int x1, .int x2, .int x4]) rfl rfl hl.1 rfl (lv_room (Nat.le_of_ble_eq_true rfl)) dX6_request_162 ⟨(Nat.le_of_ble_eq_true rfl), (Nat.le_of_ble_eq_true rfl)⟩) hS (fun v162 S162 t162 H locs hh hp hB hz hk9 hS => ?_)
        obtain ⟨r162, rfl, hw⟩ := hp
        have hP : HP D cy b0 NALL S162 H := by rw [← hh]; exact hB.1
        have hF := hB.2
        try dsimp only at hw
        refine W.eq (g2 := F0 m 165 ls [.int r162, .int (gI S136 367 10), .ref (b0 + 374)]) rfl ?_
        refine lv_goto (tgt := 170) hx hb dX6_request_165 (by decide) ?_
        exact j170 S162 (gI S136 367 10) r162  _ _ _ hw hP hF hS (lv_sub hl [0, 3] rfl)
    · have c139 := b2i_z c139
      rw [if_neg c139] at hw
      refine lv_iconst (v := 0) hx hb dX6_request_142 (by decide) ?_
      exact q_iret hx hb hr hP hF hS hw dX6_request_143 hlocks
  have j131 : ∀ (S : St) (a6 : Int32) (a7 : Bool), ∀ (H : Heap) (locs : List Loc) (ls : Array Slot), wp_X6_request_131 x1 x2 x3 x4 P S a6 a7 → HP D cy b0 NALL S H → Fx S → va_S (AA b0) s.heap H locs → lv_has ls 8 [(0, .ref (b0 + 367)), (1, .int x1), (2, .int x2), (3, .int x3), (4, .int x4), (6, .int a6), (7, .int (b2i a7))] → W p l e rm_X6_request s m args below meth c H locs 0 0 (MQ below (QC (Pi P) (Wb D cy b0 NALL) b0) args s 0 0 (AA b0)) (F0 m 131 ls [.ref (b0 + 367)]) := by
    intro S a6 a7  H locs ls hw hP hF hS hl
    unfold wp_X6_request_131 at hw
    refine lv_iconst (v := 2) hx hb dX6_request_131 (by decide) ?_
    refine lv_goto (tgt := 136) hx hb dX6_request_132 (by decide) ?_
    exact j136 S a6 a7 2  _ _ _ hw hP hF hS (lv_sub hl [0, 1, 2, 3, 4, 5, 6] rfl)
  have j135 : ∀ (S : St) (a6 : Int32) (a7 : Bool), ∀ (H : Heap) (locs : List Loc) (ls : Array Slot), wp_X6_request_135 x1 x2 x3 x4 P S a6 a7 → HP D cy b0 NALL S H → Fx S → va_S (AA b0) s.heap H locs → lv_has ls 8 [(0, .ref (b0 + 367)), (1, .int x1), (2, .int x2), (3, .int x3), (4, .int x4), (6, .int a6), (7, .int (b2i a7))] → W p l e rm_X6_request s m args below meth c H locs 0 0 (MQ below (QC (Pi P) (Wb D cy b0 NALL) b0) args s 0 0 (AA b0)) (F0 m 135 ls [.ref (b0 + 367)]) := by
    intro S a6 a7  H locs ls hw hP hF hS hl
    unfold wp_X6_request_135 at hw
    refine lv_iconst (v := 0) hx hb dX6_request_135 (by decide) ?_
    exact j136 S a6 a7 0  _ _ _ hw hP hF hS (lv_sub hl [0, 1, 2, 3, 4, 5, 6] rfl)
  have j100 : ∀ (S : St) (a5 : Bool) (a6 : Int32) (t0 : Bool), ∀ (H : Heap) (locs : List Loc) (ls : Array Slot), wp_X6_request_100 x1 x2 x3 x4 P S a5 a6 t0 → HP D cy b0 NALL S H → Fx S → va_S (AA b0) s.heap H locs → lv_has ls 8 [(0, .ref (b0 + 367)), (1, .int x1), (2, .int x2), (3, .int x3), (4, .int x4), (5, .int (b2i a5)), (6, .int a6)] → W p l e rm_X6_request s m args below meth c H locs 0 0 (MQ below (QC (Pi P) (Wb D cy b0 NALL) b0) args s 0 0 (AA b0)) (F0 m 100 ls [.int (b2i t0)]) := by
    intro S a5 a6 t0  H locs ls hw hP hF hS hl
    unfold wp_X6_request_100 at hw
    refine lv_istore (lv' := [(7, .int (b2i t0)), (0, .ref (b0 + 367)), (1, .int x1), (2, .int x2), (3, .int x3), (4, .int x4), (5, .int (b2i a5)), (6, .int a6)]) hx hb dX6_request_100 hl (by decide) rfl (fun ls hl => ?_)
    refine lv_aload_n hx hb dX6_request_102 rfl (lv_at hl 1 rfl) ?_
    refine lv_iload hx hb dX6_request_103 (lv_at hl 6 rfl) ?_
    refine lv_if_ne (x := b2i a5) (tgt := 112) hx hb dX6_request_105 (by decide) (fun c105 => ?_) (fun c105 => ?_)
    · have c105 := b2i_n c105
      rw [if_pos c105] at hw
      refine lv_aload_n hx hb dX6_request_112 rfl (lv_at hl 1 rfl) ?_
      refine gf_6_10 (k := 367) hx hb hts (by decide +kernel) hown hK hP (by decide) (kk_367) (hts (.fieldLink RX6 93 "OpticmeshModel" "requests" "I") (by decide +kernel)) dX6_request_113 ?_
      refine lv_bipush (v := 60) hx hb dX6_request_116 (by decide) ?_
      refine lv_icmp_eq (x := (gI S 367 10)) (y := 60) (tgt := 131) hx hb dX6_request_118 (by decide) (fun c118 => ?_) (fun c118 => ?_)
      · rw [if_pos c118] at hw
        exact j131 S a6 t0  _ _ _ hw hP hF hS (lv_sub hl [1, 2, 3, 4, 5, 7, 0] rfl)
      · rw [if_neg c118] at hw
        refine lv_iload hx hb dX6_request_121 (lv_at hl 7 rfl) ?_
        refine lv_if_ge (x := a6) (tgt := 135) hx hb dX6_request_123 (by decide) (fun c123 => ?_) (fun c123 => ?_)
        · rw [if_pos c123] at hw
          exact j135 S a6 t0  _ _ _ hw hP hF hS (lv_sub hl [1, 2, 3, 4, 5, 7, 0] rfl)
        · rw [if_neg c123] at hw
          refine lv_iload hx hb dX6_request_126 (lv_at hl 0 rfl) ?_
          refine lv_if_ne (x := b2i t0) (tgt := 135) hx hb dX6_request_128 (by decide) (fun c128 => ?_) (fun c128 => ?_)
          · have c128 := b2i_n c128
            rw [if_pos c128] at hw
            exact j135 S a6 t0  _ _ _ hw hP hF hS (lv_sub hl [1, 2, 3, 4, 5, 7, 0] rfl)
          · have c128 := b2i_z c128
            rw [if_neg c128] at hw
            exact j131 S a6 t0  _ _ _ hw hP hF hS (lv_sub hl [1, 2, 3, 4, 5, 7, 0] rfl)
    · have c105 := b2i_z c105
      rw [if_neg c105] at hw
      refine lv_iconst (v := 1) hx hb dX6_request_108 (by decide) ?_
      refine lv_goto (tgt := 136) hx hb dX6_request_109 (by decide) ?_
      exact j136 S a6 t0 1  _ _ _ hw hP hF hS (lv_sub hl [1, 2, 3, 4, 5, 7, 0] rfl)
  have j99 : ∀ (S : St) (a5 : Bool) (a6 : Int32), ∀ (H : Heap) (locs : List Loc) (ls : Array Slot), wp_X6_request_99 x1 x2 x3 x4 P S a5 a6 → HP D cy b0 NALL S H → Fx S → va_S (AA b0) s.heap H locs → lv_has ls 8 [(0, .ref (b0 + 367)), (1, .int x1), (2, .int x2), (3, .int x3), (4, .int x4), (5, .int (b2i a5)), (6, .int a6)] → W p l e rm_X6_request s m args below meth c H locs 0 0 (MQ below (QC (Pi P) (Wb D cy b0 NALL) b0) args s 0 0 (AA b0)) (F0 m 99 ls []) := by
    intro S a5 a6  H locs ls hw hP hF hS hl
    unfold wp_X6_request_99 at hw
    refine lv_iconst (v := 0) hx hb dX6_request_99 (by decide) ?_
    exact j100 S a5 a6 false  _ _ _ hw hP hF hS (lv_sub hl [0, 1, 2, 3, 4, 5, 6] rfl)
  have j54 : ∀ (S : St) (a5 : Bool) (t0 : Int32), ∀ (H : Heap) (locs : List Loc) (ls : Array Slot), wp_X6_request_54 x1 x2 x3 x4 P S a5 t0 → HP D cy b0 NALL S H → Fx S → va_S (AA b0) s.heap H locs → lv_has ls 8 [(0, .ref (b0 + 367)), (1, .int x1), (2, .int x2), (3, .int x3), (4, .int x4), (5, .int (b2i a5))] → W p l e rm_X6_request s m args below meth c H locs 0 0 (MQ below (QC (Pi P) (Wb D cy b0 NALL) b0) args s 0 0 (AA b0)) (F0 m 54 ls [.int t0]) := by
    intro S a5 t0  H locs ls hw hP hF hS hl
    unfold wp_X6_request_54 at hw
    refine lv_istore (lv' := [(6, .int t0), (0, .ref (b0 + 367)), (1, .int x1), (2, .int x2), (3, .int x3), (4, .int x4), (5, .int (b2i a5))]) hx hb dX6_request_54 hl (by decide) rfl (fun ls hl => ?_)
    refine lv_iload hx hb dX6_request_56 (lv_at hl 6 rfl) ?_
    refine lv_if_eq (x := b2i a5) (tgt := 99) hx hb dX6_request_58 (by decide) (fun c58 => ?_) (fun c58 => ?_)
    · have c58 := b2i_z c58
      rw [if_neg c58] at hw
      exact j99 S a5 t0  _ _ _ hw hP hF hS (lv_sub hl [1, 2, 3, 4, 5, 6, 0] rfl)
    · have c58 := b2i_n c58
      rw [if_pos c58] at hw
      refine lv_iload hx hb dX6_request_61 (lv_at hl 0 rfl) ?_
      refine lv_if_ge (x := t0) (tgt := 99) hx hb dX6_request_63 (by decide) (fun c63 => ?_) (fun c63 => ?_)
      · rw [if_pos c63] at hw
        exact j99 S a5 t0  _ _ _ hw hP hF hS (lv_sub hl [1, 2, 3, 4, 5, 6, 0] rfl)
      · rw [if_neg c63] at hw
        refine lv_aload_n hx hb dX6_request_66 rfl (lv_at hl 1 rfl) ?_
        refine q_call (va_runV (As := []) (rest := []) ⟨hx, hb, hml, hown, hts⟩ (c_X6_numberOfLights l D cy b0 S _ hw) (cwV 0 hts gX6_request_X6_numberOfLights rfl rfl rfl (by decide +kernel) ⟨(Nat.le_of_ble_eq_true rfl), (Nat.le_of_ble_eq_true rfl)⟩) (q_pV hW hP hF hS (k := 367) (ci := 6) (by decide) (cell_6 (kk_367)) rfl []) rfl rfl hl.1 rfl (lv_room (Nat.le_of_ble_eq_true rfl)) dX6_request_67 ⟨(Nat.le_of_ble_eq_true rfl), (Nat.le_of_ble_eq_true rfl)⟩) hS (fun v67 S67 t67 H locs hh hp hB hz hk9 hS => ?_)
        obtain ⟨r67, rfl, hw⟩ := hp
        have hP : HP D cy b0 NALL S67 H := by rw [← hh]; exact hB.1
        have hF := hB.2
        try dsimp only at hw
        refine W.eq (g2 := F0 m 70 ls [.int r67]) rfl ?_
        refine lv_bipush (v := 12) hx hb dX6_request_70 (by decide) ?_
        refine lv_icmp_ge (x := r67) (y := 12) (tgt := 99) hx hb dX6_request_72 (by decide) (fun c72 => ?_) (fun c72 => ?_)
        · rw [if_pos c72] at hw
          exact j99 S67 a5 t0  _ _ _ hw hP hF hS (lv_sub hl [1, 2, 3, 4, 5, 6, 0] rfl)
        · rw [if_neg c72] at hw
          refine lv_aload_n hx hb dX6_request_75 rfl (lv_at hl 1 rfl) ?_
          refine gf_6_10 (k := 367) hx hb hts (by decide +kernel) hown hK hP (by decide) (kk_367) (hts (.fieldLink RX6 93 "OpticmeshModel" "requests" "I") (by decide +kernel)) dX6_request_76 ?_
          refine lv_bipush (v := 60) hx hb dX6_request_79 (by decide) ?_
          refine lv_icmp_ge (x := (gI S67 367 10)) (y := 60) (tgt := 99) hx hb dX6_request_81 (by decide) (fun c81 => ?_) (fun c81 => ?_)
          · rw [if_pos c81] at hw
            exact j99 S67 a5 t0  _ _ _ hw hP hF hS (lv_sub hl [1, 2, 3, 4, 5, 6, 0] rfl)
          · rw [if_neg c81] at hw
            refine lv_aload_n hx hb dX6_request_84 rfl (lv_at hl 1 rfl) ?_
            refine lv_iload_n hx hb dX6_request_85 rfl (lv_at hl 2 rfl) ?_
            refine lv_iload_n hx hb dX6_request_86 rfl (lv_at hl 3 rfl) ?_
            refine lv_iload hx hb dX6_request_87 (lv_at hl 5 rfl) ?_
            refine q_call (va_runV (As := [.int x1, .int x2, .int x4]) (rest := []) ⟨hx, hb, hml, hown, hts⟩ (c_X6_findsBy l D cy b0 S67 x1 x2 x4 _ hw) (cwV 3 hts gX6_request_X6_findsBy rfl rfl rfl (by decide +kernel) ⟨(Nat.le_of_ble_eq_true rfl), (Nat.le_of_ble_eq_true rfl)⟩) (q_pV hW hP hF hS (k := 367) (ci := 6) (by decide) (cell_6 (kk_367)) rfl [.int x1, .int x2, .int x4]) rfl rfl hl.1 rfl (lv_room (Nat.le_of_ble_eq_true rfl)) dX6_request_89 ⟨(Nat.le_of_ble_eq_true rfl), (Nat.le_of_ble_eq_true rfl)⟩) hS (fun v89 S89 t89 H locs hh hp hB hz hk9 hS => ?_)
            obtain ⟨r89, rfl, hw⟩ := hp
            have hP : HP D cy b0 NALL S89 H := by rw [← hh]; exact hB.1
            have hF := hB.2
            try dsimp only at hw
            refine W.eq (g2 := F0 m 92 ls [.int (b2i r89)]) rfl ?_
            refine lv_if_eq (x := b2i r89) (tgt := 99) hx hb dX6_request_92 (by decide) (fun c92 => ?_) (fun c92 => ?_)
            · have c92 := b2i_z c92
              rw [if_neg c92] at hw
              exact j99 S89 a5 t0  _ _ _ hw hP hF hS (lv_sub hl [1, 2, 3, 4, 5, 6, 0] rfl)
            · have c92 := b2i_n c92
              rw [if_pos c92] at hw
              refine lv_iconst (v := 1) hx hb dX6_request_95 (by decide) ?_
              refine lv_goto (tgt := 100) hx hb dX6_request_96 (by decide) ?_
              exact j100 S89 a5 t0 true  _ _ _ hw hP hF hS (lv_sub hl [1, 2, 3, 4, 5, 6, 0] rfl)
  have j34 : ∀ (S : St) (t0 : Bool), ∀ (H : Heap) (locs : List Loc) (ls : Array Slot), wp_X6_request_34 x1 x2 x3 x4 P S t0 → HP D cy b0 NALL S H → Fx S → va_S (AA b0) s.heap H locs → lv_has ls 8 [(0, .ref (b0 + 367)), (1, .int x1), (2, .int x2), (3, .int x3), (4, .int x4)] → W p l e rm_X6_request s m args below meth c H locs 0 0 (MQ below (QC (Pi P) (Wb D cy b0 NALL) b0) args s 0 0 (AA b0)) (F0 m 34 ls [.int (b2i t0)]) := by
    intro S t0  H locs ls hw hP hF hS hl
    unfold wp_X6_request_34 at hw
    refine lv_istore (lv' := [(5, .int (b2i t0)), (0, .ref (b0 + 367)), (1, .int x1), (2, .int x2), (3, .int x3), (4, .int x4)]) hx hb dX6_request_34 hl (by decide) rfl (fun ls hl => ?_)
    refine lv_iload hx hb dX6_request_36 (lv_at hl 0 rfl) ?_
    refine lv_if_eq (x := b2i t0) (tgt := 53) hx hb dX6_request_38 (by decide) (fun c38 => ?_) (fun c38 => ?_)
    · have c38 := b2i_z c38
      rw [if_neg c38] at hw
      refine lv_iconst (v := (-1)) hx hb dX6_request_53 (by decide) ?_
      exact j54 S t0 (-1)  _ _ _ hw hP hF hS (lv_sub hl [1, 2, 3, 4, 5, 0] rfl)
    · have c38 := b2i_n c38
      rw [if_pos c38] at hw
      refine lv_aload_n hx hb dX6_request_41 rfl (lv_at hl 1 rfl) ?_
      refine lv_iload_n hx hb dX6_request_42 rfl (lv_at hl 2 rfl) ?_
      refine lv_iload_n hx hb dX6_request_43 rfl (lv_at hl 3 rfl) ?_
      refine lv_iload_n hx hb dX6_request_44 rfl (lv_at hl 4 rfl) ?_
      refine lv_iload hx hb dX6_request_45 (lv_at hl 5 rfl) ?_
      refine q_call (va_runV (As := [.int x1, .int x2, .int x3, .int x4]) (rest := []) ⟨hx, hb, hml, hown, hts⟩ (c_X6_roomFor l D cy b0 S x1 x2 x3 x4 _ hw) (cwV 4 hts gX6_request_X6_roomFor rfl rfl rfl (by decide +kernel) ⟨(Nat.le_of_ble_eq_true rfl), (Nat.le_of_ble_eq_true rfl)⟩) (q_pV hW hP hF hS (k := 367) (ci := 6) (by decide) (cell_6 (kk_367)) rfl [.int x1, .int x2, .int x3, .int x4]) rfl rfl hl.1 rfl (lv_room (Nat.le_of_ble_eq_true rfl)) dX6_request_47 ⟨(Nat.le_of_ble_eq_true rfl), (Nat.le_of_ble_eq_true rfl)⟩) hS (fun v47 S47 t47 H locs hh hp hB hz hk9 hS => ?_)
      obtain ⟨r47, rfl, hw⟩ := hp
      have hP : HP D cy b0 NALL S47 H := by rw [← hh]; exact hB.1
      have hF := hB.2
      try dsimp only at hw
      refine W.eq (g2 := F0 m 50 ls [.int r47]) rfl ?_
      refine lv_goto (tgt := 54) hx hb dX6_request_50 (by decide) ?_
      exact j54 S47 t0 r47  _ _ _ hw hP hF hS (lv_sub hl [1, 2, 3, 4, 5, 0] rfl)
  have j33 : ∀ (S : St) , ∀ (H : Heap) (locs : List Loc) (ls : Array Slot), wp_X6_request_33 x1 x2 x3 x4 P S → HP D cy b0 NALL S H → Fx S → va_S (AA b0) s.heap H locs → lv_has ls 8 [(0, .ref (b0 + 367)), (1, .int x1), (2, .int x2), (3, .int x3), (4, .int x4)] → W p l e rm_X6_request s m args below meth c H locs 0 0 (MQ below (QC (Pi P) (Wb D cy b0 NALL) b0) args s 0 0 (AA b0)) (F0 m 33 ls []) := by
    intro S  H locs ls hw hP hF hS hl
    unfold wp_X6_request_33 at hw
    refine lv_iconst (v := 0) hx hb dX6_request_33 (by decide) ?_
    exact j34 S false  _ _ _ hw hP hF hS (lv_sub hl [0, 1, 2, 3, 4] rfl)
  unfold wp_X6_request at hw
  refine lv_aload_n hx hb dX6_request_0 rfl (lv_at hl 0 rfl) ?_
  refine lv_iload_n hx hb dX6_request_1 rfl (lv_at hl 1 rfl) ?_
  refine lv_iload_n hx hb dX6_request_2 rfl (lv_at hl 2 rfl) ?_
  refine q_call (va_runV (As := [.int x1, .int x2]) (rest := []) ⟨hx, hb, hml, hown, hts⟩ (c_X6_areTwo l D cy b0 S x1 x2 _ hw) (cwV 2 hts gX6_request_X6_areTwo rfl rfl rfl (by decide +kernel) ⟨(Nat.le_of_ble_eq_true rfl), (Nat.le_of_ble_eq_true rfl)⟩) (q_pV hW hP hF hS (k := 367) (ci := 6) (by decide) (cell_6 (kk_367)) rfl [.int x1, .int x2]) rfl rfl hl.1 rfl (lv_room (Nat.le_of_ble_eq_true rfl)) dX6_request_3 ⟨(Nat.le_of_ble_eq_true rfl), (Nat.le_of_ble_eq_true rfl)⟩) hS (fun v3 S3 t3 H locs hh hp hB hz hk9 hS => ?_)
  obtain ⟨r3, rfl, hw⟩ := hp
  have hP : HP D cy b0 NALL S3 H := by rw [← hh]; exact hB.1
  have hF := hB.2
  try dsimp only at hw
  refine W.eq (g2 := F0 m 6 ls [.int (b2i r3)]) rfl ?_
  refine lv_if_eq (x := b2i r3) (tgt := 33) hx hb dX6_request_6 (by decide) (fun c6 => ?_) (fun c6 => ?_)
  · have c6 := b2i_z c6
    rw [if_neg c6] at hw
    exact j33 S3  _ _ _ hw hP hF hS (lv_sub hl [0, 1, 2, 3, 4] rfl)
  · have c6 := b2i_n c6
    rw [if_pos c6] at hw
    refine lv_iload_n hx hb dX6_request_9 rfl (lv_at hl 3 rfl) ?_
    refine lv_iconst (v := 1) hx hb dX6_request_10 (by decide) ?_
    refine lv_bipush (v := 10) hx hb dX6_request_11 (by decide) ?_
    refine q_call (va_runS (As := [.int x3, .int 1, .int 10]) (rest := []) ⟨hx, hb, hml, hown, hts⟩ (c_X6_in l D cy b0 S3 x3 1 10 _ hw) (va_cwS 3 hts gX6_request_X6_in rfl rfl rfl (by decide +kernel) ⟨(Nat.le_of_ble_eq_true rfl), (Nat.le_of_ble_eq_true rfl)⟩) (q_pS hW hP hF hS [.int x3, .int 1, .int 10]) rfl rfl hl.1 rfl (lv_room (Nat.le_of_ble_eq_true rfl)) dX6_request_13 ⟨(Nat.le_of_ble_eq_true rfl), (Nat.le_of_ble_eq_true rfl)⟩) hS (fun v13 S13 t13 H locs hh hp hB hz hk9 hS => ?_)
    obtain ⟨r13, rfl, hw⟩ := hp
    have hP : HP D cy b0 NALL S13 H := by rw [← hh]; exact hB.1
    have hF := hB.2
    try dsimp only at hw
    refine W.eq (g2 := F0 m 16 ls [.int (b2i r13)]) rfl ?_
    refine lv_if_eq (x := b2i r13) (tgt := 33) hx hb dX6_request_16 (by decide) (fun c16 => ?_) (fun c16 => ?_)
    · have c16 := b2i_z c16
      rw [if_neg c16] at hw
      exact j33 S13  _ _ _ hw hP hF hS (lv_sub hl [0, 1, 2, 3, 4] rfl)
    · have c16 := b2i_n c16
      rw [if_pos c16] at hw
      refine lv_iload hx hb dX6_request_19 (lv_at hl 4 rfl) ?_
      refine lv_iconst (v := 0) hx hb dX6_request_21 (by decide) ?_
      refine lv_iconst (v := 2) hx hb dX6_request_22 (by decide) ?_
      refine q_call (va_runS (As := [.int x4, .int 0, .int 2]) (rest := []) ⟨hx, hb, hml, hown, hts⟩ (c_X6_in l D cy b0 S13 x4 0 2 _ hw) (va_cwS 3 hts gX6_request_X6_in rfl rfl rfl (by decide +kernel) ⟨(Nat.le_of_ble_eq_true rfl), (Nat.le_of_ble_eq_true rfl)⟩) (q_pS hW hP hF hS [.int x4, .int 0, .int 2]) rfl rfl hl.1 rfl (lv_room (Nat.le_of_ble_eq_true rfl)) dX6_request_23 ⟨(Nat.le_of_ble_eq_true rfl), (Nat.le_of_ble_eq_true rfl)⟩) hS (fun v23 S23 t23 H locs hh hp hB hz hk9 hS => ?_)
      obtain ⟨r23, rfl, hw⟩ := hp
      have hP : HP D cy b0 NALL S23 H := by rw [← hh]; exact hB.1
      have hF := hB.2
      try dsimp only at hw
      refine W.eq (g2 := F0 m 26 ls [.int (b2i r23)]) rfl ?_
      refine lv_if_eq (x := b2i r23) (tgt := 33) hx hb dX6_request_26 (by decide) (fun c26 => ?_) (fun c26 => ?_)
      · have c26 := b2i_z c26
        rw [if_neg c26] at hw
        exact j33 S23  _ _ _ hw hP hF hS (lv_sub hl [0, 1, 2, 3, 4] rfl)
      · have c26 := b2i_n c26
        rw [if_pos c26] at hw
        refine lv_iconst (v := 1) hx hb dX6_request_29 (by decide) ?_
        refine lv_goto (tgt := 34) hx hb dX6_request_30 (by decide) ?_
        exact j34 S23 true  _ _ _ hw hP hF hS (lv_sub hl [0, 1, 2, 3, 4] rfl)
set_option maxHeartbeats 4000000 in
set_option maxRecDepth 100000 in
theorem c_X6_newLength (l : Launch) (D : va_G) (cy : Nat → ClassId) (b0 : Nat) (S : St) (x1 : Int32) (x2 : Int32) (x3 : Int32)  (P : Int32 → St → Prop) (hw : wp_X6_newLength S x1 x2 x3 P) : Met l yX6_newLength wsX6_newLength rm_X6_newLength (va_Pc [.ref (b0 + 367), .int x1, .int x2, .int x3] (Wd D cy b0 NALL S)) (QC (Pi P) (Wb D cy b0 NALL) b0) 0 0 (AA b0) := by
  refine Met.ofW (cc := cX6_newLength) (maxL := 6) (ret := (some .int)) (by decide) rfl ?_
  intro p e s m args below meth c s₁ B hml hv
  obtain ⟨hargs, hW, hP, hF⟩ := hv
  have hx := B.exec
  have hb := B.bytes
  have hr := B.returns
  have hts := atoms_spec (ws := wsX6_newLength) B.pre
  have hown : s.vm.findClass RX6 = some m.cls := findClass_of_methodNamed B.named
  have hlocks := B.notSynchronized
  have hK := hW.1
  have hS : va_S (AA b0) s.heap s.heap [] := va_S.rf
  have hE : entryFrame m args 6 = F0 m 0 ((lg_sl [.ref (b0 + 367), .int x1, .int x2, .int x3] ++ List.replicate (6 - (lg_sl [.ref (b0 + 367), .int x1, .int x2, .int x3]).length) Slot.unset).toArray) [] := by rw [hargs]; exact lg_entry_eq m _ _
  rw [hE]
  have hl := lv_entry [.ref (b0 + 367), .int x1, .int x2, .int x3] (n := 6) (Nat.le_of_ble_eq_true rfl)
  generalize (lg_sl [.ref (b0 + 367), .int x1, .int x2, .int x3] ++ List.replicate (6 - (lg_sl [.ref (b0 + 367), .int x1, .int x2, .int x3]).length) Slot.unset).toArray = ls at hl ⊢
  have hl : lv_has ls 6 [(0, .ref (b0 + 367)), (1, .int x1), (2, .int x2), (3, .int x3)] := hl
  have j67 : ∀ (S : St) (t1 : Int32), ∀ (H : Heap) (locs : List Loc) (ls : Array Slot), wp_X6_newLength_67 x1 x2 x3 P S t1 → HP D cy b0 NALL S H → Fx S → va_S (AA b0) s.heap H locs → lv_has ls 6 [(0, .ref (b0 + 367)), (3, .int x3)] → W p l e rm_X6_newLength s m args below meth c H locs 0 0 (MQ below (QC (Pi P) (Wb D cy b0 NALL) b0) args s 0 0 (AA b0)) (F0 m 67 ls [.int t1, .ref (b0 + 367)]) := by
    intro S t1  H locs ls hw hP hF hS hl
    unfold wp_X6_newLength_67 at hw
    refine q_call (va_runV (As := [.int t1]) (rest := []) ⟨hx, hb, hml, hown, hts⟩ (c_X6_holds l D cy b0 S t1 _ hw) (cwV 1 hts gX6_newLength_X6_holds rfl rfl rfl (by decide +kernel) ⟨(Nat.le_of_ble_eq_true rfl), (Nat.le_of_ble_eq_true rfl)⟩) (q_pV hW hP hF hS (k := 367) (ci := 6) (by decide) (cell_6 (kk_367)) rfl [.int t1]) rfl rfl hl.1 rfl (lv_room (Nat.le_of_ble_eq_true rfl)) dX6_newLength_67 ⟨(Nat.le_of_ble_eq_true rfl), (Nat.le_of_ble_eq_true rfl)⟩) hS (fun v67 S67 t67 H locs hh hp hB hz hk9 hS => ?_)
    obtain ⟨r67, rfl, hw⟩ := hp
    have hP : HP D cy b0 NALL S67 H := by rw [← hh]; exact hB.1
    have hF := hB.2
    try dsimp only at hw
    refine W.eq (g2 := F0 m 70 ls [.int (b2i r67)]) rfl ?_
    refine lv_if_eq (x := b2i r67) (tgt := 100) hx hb dX6_newLength_70 (by decide) (fun c70 => ?_) (fun c70 => ?_)
    · have c70 := b2i_z c70
      rw [if_neg c70] at hw
      refine lv_iconst (v := 0) hx hb dX6_newLength_100 (by decide) ?_
      exact q_iret hx hb hr hP hF hS hw dX6_newLength_101 hlocks
    · have c70 := b2i_n c70
      rw [if_pos c70] at hw
      refine lv_aload_n hx hb dX6_newLength_73 rfl (lv_at hl 0 rfl) ?_
      refine gf_6_22 (k := 367) hx hb hts (by decide +kernel) hown hK hP (by decide) (kk_367) (q := 384) (hF.1 367 22 384 ff_367_22) (hts (.fieldLink RX6 66 "OpticmeshModel" "best" "[I") (by decide +kernel)) dX6_newLength_74 ?_
      refine lv_bipush (v := 8) hx hb dX6_newLength_77 (by decide) ?_
      obtain ⟨h79, hw⟩ := hw
      refine q_iald (k := 384) (n := 10) (i := 8) hx hb hK hP (by decide) (kk_384) (ll_384) h79 dX6_newLength_79 ?_
      refine lv_iload_n hx hb dX6_newLength_80 rfl (lv_at hl 1 rfl) ?_
      refine lv_iconst (v := 2) hx hb dX6_newLength_81 (by decide) ?_
      refine lv_icmp_ne (x := x3) (y := 2) (tgt := 95) hx hb dX6_newLength_82 (by decide) (fun c82 => ?_) (fun c82 => ?_)
      · rw [if_neg c82] at hw
        refine lv_iconst (v := 0) hx hb dX6_newLength_95 (by decide) ?_
        refine lv_iadd hx hb dX6_newLength_96 ?_
        refine lv_goto (tgt := 101) hx hb dX6_newLength_97 (by decide) ?_
        exact q_iret hx hb hr hP hF hS hw dX6_newLength_101 hlocks
      · rw [if_pos c82] at hw
        refine lv_aload_n hx hb dX6_newLength_85 rfl (lv_at hl 0 rfl) ?_
        refine gf_6_23 (k := 367) hx hb hts (by decide +kernel) hown hK hP (by decide) (kk_367) (q := 385) (hF.1 367 23 385 ff_367_23) (hts (.fieldLink RX6 69 "OpticmeshModel" "bestOther" "[I") (by decide +kernel)) dX6_newLength_86 ?_
        refine lv_bipush (v := 8) hx hb dX6_newLength_89 (by decide) ?_
        obtain ⟨h91, hw⟩ := hw
        refine q_iald (k := 385) (n := 10) (i := 8) hx hb hK hP (by decide) (kk_385) (ll_385) h91 dX6_newLength_91 ?_
        refine lv_goto (tgt := 96) hx hb dX6_newLength_92 (by decide) ?_
        refine lv_iadd hx hb dX6_newLength_96 ?_
        refine lv_goto (tgt := 101) hx hb dX6_newLength_97 (by decide) ?_
        exact q_iret hx hb hr hP hF hS hw dX6_newLength_101 hlocks
  have j45 : ∀ (S : St) (a4 : Bool) (t0 : Bool), ∀ (H : Heap) (locs : List Loc) (ls : Array Slot), wp_X6_newLength_45 x1 x2 x3 P S a4 t0 → HP D cy b0 NALL S H → Fx S → va_S (AA b0) s.heap H locs → lv_has ls 6 [(0, .ref (b0 + 367)), (3, .int x3), (4, .int (b2i a4))] → W p l e rm_X6_newLength s m args below meth c H locs 0 0 (MQ below (QC (Pi P) (Wb D cy b0 NALL) b0) args s 0 0 (AA b0)) (F0 m 45 ls [.int (b2i t0)]) := by
    intro S a4 t0  H locs ls hw hP hF hS hl
    unfold wp_X6_newLength_45 at hw
    refine lv_istore (lv' := [(5, .int (b2i t0)), (0, .ref (b0 + 367)), (3, .int x3), (4, .int (b2i a4))]) hx hb dX6_newLength_45 hl (by decide) rfl (fun ls hl => ?_)
    refine lv_aload_n hx hb dX6_newLength_47 rfl (lv_at hl 1 rfl) ?_
    refine lv_iload hx hb dX6_newLength_48 (lv_at hl 3 rfl) ?_
    refine lv_if_ne (x := b2i a4) (tgt := 57) hx hb dX6_newLength_50 (by decide) (fun c50 => ?_) (fun c50 => ?_)
    · have c50 := b2i_n c50
      rw [if_pos c50] at hw
      refine lv_iload hx hb dX6_newLength_57 (lv_at hl 0 rfl) ?_
      refine lv_if_eq (x := b2i t0) (tgt := 66) hx hb dX6_newLength_59 (by decide) (fun c59 => ?_) (fun c59 => ?_)
      · have c59 := b2i_z c59
        rw [if_neg c59] at hw
        refine lv_iconst (v := 2) hx hb dX6_newLength_66 (by decide) ?_
        exact j67 S 2  _ _ _ hw hP hF hS (lv_sub hl [1, 2] rfl)
      · have c59 := b2i_n c59
        rw [if_pos c59] at hw
        refine lv_iconst (v := 0) hx hb dX6_newLength_62 (by decide) ?_
        refine lv_goto (tgt := 67) hx hb dX6_newLength_63 (by decide) ?_
        exact j67 S 0  _ _ _ hw hP hF hS (lv_sub hl [1, 2] rfl)
    · have c50 := b2i_z c50
      rw [if_neg c50] at hw
      refine lv_iconst (v := 1) hx hb dX6_newLength_53 (by decide) ?_
      refine lv_goto (tgt := 67) hx hb dX6_newLength_54 (by decide) ?_
      exact j67 S 1  _ _ _ hw hP hF hS (lv_sub hl [1, 2] rfl)
  have j44 : ∀ (S : St) (a4 : Bool), ∀ (H : Heap) (locs : List Loc) (ls : Array Slot), wp_X6_newLength_44 x1 x2 x3 P S a4 → HP D cy b0 NALL S H → Fx S → va_S (AA b0) s.heap H locs → lv_has ls 6 [(0, .ref (b0 + 367)), (3, .int x3), (4, .int (b2i a4))] → W p l e rm_X6_newLength s m args below meth c H locs 0 0 (MQ below (QC (Pi P) (Wb D cy b0 NALL) b0) args s 0 0 (AA b0)) (F0 m 44 ls []) := by
    intro S a4  H locs ls hw hP hF hS hl
    unfold wp_X6_newLength_44 at hw
    refine lv_iconst (v := 0) hx hb dX6_newLength_44 (by decide) ?_
    exact j45 S a4 false  _ _ _ hw hP hF hS (lv_sub hl [0, 1, 2] rfl)
  have j23 : ∀ (S : St) (t0 : Bool), ∀ (H : Heap) (locs : List Loc) (ls : Array Slot), wp_X6_newLength_23 x1 x2 x3 P S t0 → HP D cy b0 NALL S H → Fx S → va_S (AA b0) s.heap H locs → lv_has ls 6 [(0, .ref (b0 + 367)), (1, .int x1), (2, .int x2), (3, .int x3)] → W p l e rm_X6_newLength s m args below meth c H locs 0 0 (MQ below (QC (Pi P) (Wb D cy b0 NALL) b0) args s 0 0 (AA b0)) (F0 m 23 ls [.int (b2i t0)]) := by
    intro S t0  H locs ls hw hP hF hS hl
    unfold wp_X6_newLength_23 at hw
    refine lv_istore (lv' := [(4, .int (b2i t0)), (0, .ref (b0 + 367)), (1, .int x1), (2, .int x2), (3, .int x3)]) hx hb dX6_newLength_23 hl (by decide) rfl (fun ls hl => ?_)
    refine lv_iload hx hb dX6_newLength_25 (lv_at hl 0 rfl) ?_
    refine lv_if_eq (x := b2i t0) (tgt := 44) hx hb dX6_newLength_27 (by decide) (fun c27 => ?_) (fun c27 => ?_)
    · have c27 := b2i_z c27
      rw [if_neg c27] at hw
      exact j44 S t0  _ _ _ hw hP hF hS (lv_sub hl [1, 4, 0] rfl)
    · have c27 := b2i_n c27
      rw [if_pos c27] at hw
      refine lv_aload_n hx hb dX6_newLength_30 rfl (lv_at hl 1 rfl) ?_
      refine lv_iload_n hx hb dX6_newLength_31 rfl (lv_at hl 2 rfl) ?_
      refine lv_iload_n hx hb dX6_newLength_32 rfl (lv_at hl 3 rfl) ?_
      refine lv_iload_n hx hb dX6_newLength_33 rfl (lv_at hl 4 rfl) ?_
      refine q_call (va_runV (As := [.int x1, .int x2, .int x3]) (rest := []) ⟨hx, hb, hml, hown, hts⟩ (c_X6_findsBy l D cy b0 S x1 x2 x3 _ hw) (cwV 3 hts gX6_newLength_X6_findsBy rfl rfl rfl (by decide +kernel) ⟨(Nat.le_of_ble_eq_true rfl), (Nat.le_of_ble_eq_true rfl)⟩) (q_pV hW hP hF hS (k := 367) (ci := 6) (by decide) (cell_6 (kk_367)) rfl [.int x1, .int x2, .int x3]) rfl rfl hl.1 rfl (lv_room (Nat.le_of_ble_eq_true rfl)) dX6_newLength_34 ⟨(Nat.le_of_ble_eq_true rfl), (Nat.le_of_ble_eq_true rfl)⟩) hS (fun v34 S34 t34 H locs hh hp hB hz hk9 hS => ?_)
      obtain ⟨r34, rfl, hw⟩ := hp
      have hP : HP D cy b0 NALL S34 H := by rw [← hh]; exact hB.1
      have hF := hB.2
      try dsimp only at hw
      refine W.eq (g2 := F0 m 37 ls [.int (b2i r34)]) rfl ?_
      refine lv_if_eq (x := b2i r34) (tgt := 44) hx hb dX6_newLength_37 (by decide) (fun c37 => ?_) (fun c37 => ?_)
      · have c37 := b2i_z c37
        rw [if_neg c37] at hw
        exact j44 S34 t0  _ _ _ hw hP hF hS (lv_sub hl [1, 4, 0] rfl)
      · have c37 := b2i_n c37
        rw [if_pos c37] at hw
        refine lv_iconst (v := 1) hx hb dX6_newLength_40 (by decide) ?_
        refine lv_goto (tgt := 45) hx hb dX6_newLength_41 (by decide) ?_
        exact j45 S34 t0 true  _ _ _ hw hP hF hS (lv_sub hl [1, 4, 0] rfl)
  have j22 : ∀ (S : St) , ∀ (H : Heap) (locs : List Loc) (ls : Array Slot), wp_X6_newLength_22 x1 x2 x3 P S → HP D cy b0 NALL S H → Fx S → va_S (AA b0) s.heap H locs → lv_has ls 6 [(0, .ref (b0 + 367)), (1, .int x1), (2, .int x2), (3, .int x3)] → W p l e rm_X6_newLength s m args below meth c H locs 0 0 (MQ below (QC (Pi P) (Wb D cy b0 NALL) b0) args s 0 0 (AA b0)) (F0 m 22 ls []) := by
    intro S  H locs ls hw hP hF hS hl
    unfold wp_X6_newLength_22 at hw
    refine lv_iconst (v := 0) hx hb dX6_newLength_22 (by decide) ?_
    exact j23 S false  _ _ _ hw hP hF hS (lv_sub hl [0, 1, 2, 3] rfl)
  unfold wp_X6_newLength at hw
  refine lv_aload_n hx hb dX6_newLength_0 rfl (lv_at hl 0 rfl) ?_
  refine lv_iload_n hx hb dX6_newLength_1 rfl (lv_at hl 1 rfl) ?_
  refine lv_iload_n hx hb dX6_newLength_2 rfl (lv_at hl 2 rfl) ?_
  refine q_call (va_runV (As := [.int x1, .int x2]) (rest := []) ⟨hx, hb, hml, hown, hts⟩ (c_X6_areTwo l D cy b0 S x1 x2 _ hw) (cwV 2 hts gX6_newLength_X6_areTwo rfl rfl rfl (by decide +kernel) ⟨(Nat.le_of_ble_eq_true rfl), (Nat.le_of_ble_eq_true rfl)⟩) (q_pV hW hP hF hS (k := 367) (ci := 6) (by decide) (cell_6 (kk_367)) rfl [.int x1, .int x2]) rfl rfl hl.1 rfl (lv_room (Nat.le_of_ble_eq_true rfl)) dX6_newLength_3 ⟨(Nat.le_of_ble_eq_true rfl), (Nat.le_of_ble_eq_true rfl)⟩) hS (fun v3 S3 t3 H locs hh hp hB hz hk9 hS => ?_)
  obtain ⟨r3, rfl, hw⟩ := hp
  have hP : HP D cy b0 NALL S3 H := by rw [← hh]; exact hB.1
  have hF := hB.2
  try dsimp only at hw
  refine W.eq (g2 := F0 m 6 ls [.int (b2i r3)]) rfl ?_
  refine lv_if_eq (x := b2i r3) (tgt := 22) hx hb dX6_newLength_6 (by decide) (fun c6 => ?_) (fun c6 => ?_)
  · have c6 := b2i_z c6
    rw [if_neg c6] at hw
    exact j22 S3  _ _ _ hw hP hF hS (lv_sub hl [0, 1, 2, 3] rfl)
  · have c6 := b2i_n c6
    rw [if_pos c6] at hw
    refine lv_iload_n hx hb dX6_newLength_9 rfl (lv_at hl 3 rfl) ?_
    refine lv_iconst (v := 0) hx hb dX6_newLength_10 (by decide) ?_
    refine lv_iconst (v := 2) hx hb dX6_newLength_11 (by decide) ?_
    refine q_call (va_runS (As := [.int x3, .int 0, .int 2]) (rest := []) ⟨hx, hb, hml, hown, hts⟩ (c_X6_in l D cy b0 S3 x3 0 2 _ hw) (va_cwS 3 hts gX6_newLength_X6_in rfl rfl rfl (by decide +kernel) ⟨(Nat.le_of_ble_eq_true rfl), (Nat.le_of_ble_eq_true rfl)⟩) (q_pS hW hP hF hS [.int x3, .int 0, .int 2]) rfl rfl hl.1 rfl (lv_room (Nat.le_of_ble_eq_true rfl)) dX6_newLength_12 ⟨(Nat.le_of_ble_eq_true rfl), (Nat.le_of_ble_eq_true rfl)⟩) hS (fun v12 S12 t12 H locs hh hp hB hz hk9 hS => ?_)
    obtain ⟨r12, rfl, hw⟩ := hp
    have hP : HP D cy b0 NALL S12 H := by rw [← hh]; exact hB.1
    have hF := hB.2
    try dsimp only at hw
    refine W.eq (g2 := F0 m 15 ls [.int (b2i r12)]) rfl ?_
    refine lv_if_eq (x := b2i r12) (tgt := 22) hx hb dX6_newLength_15 (by decide) (fun c15 => ?_) (fun c15 => ?_)
    · have c15 := b2i_z c15
      rw [if_neg c15] at hw
      exact j22 S12  _ _ _ hw hP hF hS (lv_sub hl [0, 1, 2, 3] rfl)
    · have c15 := b2i_n c15
      rw [if_pos c15] at hw
      refine lv_iconst (v := 1) hx hb dX6_newLength_18 (by decide) ?_
      refine lv_goto (tgt := 23) hx hb dX6_newLength_19 (by decide) ?_
      exact j23 S12 true  _ _ _ hw hP hF hS (lv_sub hl [0, 1, 2, 3] rfl)
set_option maxHeartbeats 4000000 in
set_option maxRecDepth 100000 in
theorem c_X6_errorOfRequest (l : Launch) (D : va_G) (cy : Nat → ClassId) (b0 : Nat) (S : St) (x1 : Int32)  (P : Int32 → St → Prop) (hw : wp_X6_errorOfRequest S x1 P) : Met l yX6_errorOfRequest wsX6_errorOfRequest rm_X6_errorOfRequest (va_Pc [.ref (b0 + 367), .int x1] (Wd D cy b0 NALL S)) (QC (Pi P) (Wb D cy b0 NALL) b0) 0 0 (AA b0) := by
  refine Met.ofW (cc := cX6_errorOfRequest) (maxL := 2) (ret := (some .int)) (by decide) rfl ?_
  intro p e s m args below meth c s₁ B hml hv
  obtain ⟨hargs, hW, hP, hF⟩ := hv
  have hx := B.exec
  have hb := B.bytes
  have hr := B.returns
  have hts := atoms_spec (ws := wsX6_errorOfRequest) B.pre
  have hown : s.vm.findClass RX6 = some m.cls := findClass_of_methodNamed B.named
  have hlocks := B.notSynchronized
  have hK := hW.1
  have hS : va_S (AA b0) s.heap s.heap [] := va_S.rf
  have hE : entryFrame m args 2 = F0 m 0 ((lg_sl [.ref (b0 + 367), .int x1] ++ List.replicate (2 - (lg_sl [.ref (b0 + 367), .int x1]).length) Slot.unset).toArray) [] := by rw [hargs]; exact lg_entry_eq m _ _
  rw [hE]
  have hl := lv_entry [.ref (b0 + 367), .int x1] (n := 2) (Nat.le_of_ble_eq_true rfl)
  generalize (lg_sl [.ref (b0 + 367), .int x1] ++ List.replicate (2 - (lg_sl [.ref (b0 + 367), .int x1]).length) Slot.unset).toArray = ls at hl ⊢
  have hl : lv_has ls 2 [(0, .ref (b0 + 367)), (1, .int x1)] := hl
  unfold wp_X6_errorOfRequest at hw
  refine lv_iload_n hx hb dX6_errorOfRequest_0 rfl (lv_at hl 1 rfl) ?_
  refine lv_iconst (v := 0) hx hb dX6_errorOfRequest_1 (by decide) ?_
  refine lv_aload_n hx hb dX6_errorOfRequest_2 rfl (lv_at hl 0 rfl) ?_
  refine gf_6_10 (k := 367) hx hb hts (by decide +kernel) hown hK hP (by decide) (kk_367) (hts (.fieldLink RX6 93 "OpticmeshModel" "requests" "I") (by decide +kernel)) dX6_errorOfRequest_3 ?_
  refine lv_iconst (v := 1) hx hb dX6_errorOfRequest_6 (by decide) ?_
  refine lv_isub hx hb dX6_errorOfRequest_7 ?_
  refine q_call (va_runS (As := [.int x1, .int 0, .int ((gI S 367 10) - 1)]) (rest := []) ⟨hx, hb, hml, hown, hts⟩ (c_X6_in l D cy b0 S x1 0 ((gI S 367 10) - 1) _ hw) (va_cwS 3 hts gX6_errorOfRequest_X6_in rfl rfl rfl (by decide +kernel) ⟨(Nat.le_of_ble_eq_true rfl), (Nat.le_of_ble_eq_true rfl)⟩) (q_pS hW hP hF hS [.int x1, .int 0, .int ((gI S 367 10) - 1)]) rfl rfl hl.1 rfl (lv_room (Nat.le_of_ble_eq_true rfl)) dX6_errorOfRequest_8 ⟨(Nat.le_of_ble_eq_true rfl), (Nat.le_of_ble_eq_true rfl)⟩) hS (fun v8 S8 t8 H locs hh hp hB hz hk9 hS => ?_)
  obtain ⟨r8, rfl, hw⟩ := hp
  have hP : HP D cy b0 NALL S8 H := by rw [← hh]; exact hB.1
  have hF := hB.2
  try dsimp only at hw
  refine W.eq (g2 := F0 m 11 ls [.int (b2i r8)]) rfl ?_
  refine lv_if_ne (x := b2i r8) (tgt := 18) hx hb dX6_errorOfRequest_11 (by decide) (fun c11 => ?_) (fun c11 => ?_)
  · have c11 := b2i_n c11
    rw [if_pos c11] at hw
    refine lv_aload_n hx hb dX6_errorOfRequest_18 rfl (lv_at hl 0 rfl) ?_
    refine gf_6_12 (k := 367) hx hb hts (by decide +kernel) hown hK hP (by decide) (kk_367) (q := 375) (hF.1 367 12 375 ff_367_12) (hts (.fieldLink RX6 39 "OpticmeshModel" "demands" "[I") (by decide +kernel)) dX6_errorOfRequest_19 ?_
    refine lv_iload_n hx hb dX6_errorOfRequest_22 rfl (lv_at hl 1 rfl) ?_
    obtain ⟨h23, hw⟩ := hw
    refine q_iald (k := 375) (n := 60) (i := x1) hx hb hK hP (by decide) (kk_375) (ll_375) h23 dX6_errorOfRequest_23 ?_
    refine lv_if_ne (x := (gI S8 375 (x1.toNatClampNeg))) (tgt := 31) hx hb dX6_errorOfRequest_24 (by decide) (fun c24 => ?_) (fun c24 => ?_)
    · rw [if_neg c24] at hw
      refine lv_iconst (v := 0) hx hb dX6_errorOfRequest_31 (by decide) ?_
      exact q_iret hx hb hr hP hF hS hw dX6_errorOfRequest_32 hlocks
    · rw [if_pos c24] at hw
      refine lv_iconst (v := 2) hx hb dX6_errorOfRequest_27 (by decide) ?_
      refine lv_goto (tgt := 32) hx hb dX6_errorOfRequest_28 (by decide) ?_
      exact q_iret hx hb hr hP hF hS hw dX6_errorOfRequest_32 hlocks
  · have c11 := b2i_z c11
    rw [if_neg c11] at hw
    refine lv_iconst (v := 1) hx hb dX6_errorOfRequest_14 (by decide) ?_
    refine lv_goto (tgt := 32) hx hb dX6_errorOfRequest_15 (by decide) ?_
    exact q_iret hx hb hr hP hF hS hw dX6_errorOfRequest_32 hlocks
set_option maxHeartbeats 4000000 in
set_option maxRecDepth 100000 in
theorem c_X6_release (l : Launch) (D : va_G) (cy : Nat → ClassId) (b0 : Nat) (S : St) (x1 : Int32)  (P : Int32 → St → Prop) (hw : wp_X6_release S x1 P) : Met l yX6_release wsX6_release rm_X6_release (va_Pc [.ref (b0 + 367), .int x1] (Wd D cy b0 NALL S)) (QC (Pi P) (Wb D cy b0 NALL) b0) 0 0 (AA b0) := by
  refine Met.ofW (cc := cX6_release) (maxL := 4) (ret := (some .int)) (by decide) rfl ?_
  intro p e s m args below meth c s₁ B hml hv
  obtain ⟨hargs, hW, hP, hF⟩ := hv
  have hx := B.exec
  have hb := B.bytes
  have hr := B.returns
  have hts := atoms_spec (ws := wsX6_release) B.pre
  have hown : s.vm.findClass RX6 = some m.cls := findClass_of_methodNamed B.named
  have hlocks := B.notSynchronized
  have hK := hW.1
  have hS : va_S (AA b0) s.heap s.heap [] := va_S.rf
  have hE : entryFrame m args 4 = F0 m 0 ((lg_sl [.ref (b0 + 367), .int x1] ++ List.replicate (4 - (lg_sl [.ref (b0 + 367), .int x1]).length) Slot.unset).toArray) [] := by rw [hargs]; exact lg_entry_eq m _ _
  rw [hE]
  have hl := lv_entry [.ref (b0 + 367), .int x1] (n := 4) (Nat.le_of_ble_eq_true rfl)
  generalize (lg_sl [.ref (b0 + 367), .int x1] ++ List.replicate (4 - (lg_sl [.ref (b0 + 367), .int x1]).length) Slot.unset).toArray = ls at hl ⊢
  have hl : lv_has ls 4 [(0, .ref (b0 + 367)), (1, .int x1)] := hl
  unfold wp_X6_release at hw
  refine lv_aload_n hx hb dX6_release_0 rfl (lv_at hl 0 rfl) ?_
  refine lv_aload_n hx hb dX6_release_1 rfl (lv_at hl 0 rfl) ?_
  refine lv_iload_n hx hb dX6_release_2 rfl (lv_at hl 1 rfl) ?_
  refine q_call (va_runV (As := [.int x1]) (rest := [.ref (b0 + 367)]) ⟨hx, hb, hml, hown, hts⟩ (c_X6_errorOfRequest l D cy b0 S x1 _ hw) (cwV 1 hts gX6_release_X6_errorOfRequest rfl rfl rfl (by decide +kernel) ⟨(Nat.le_of_ble_eq_true rfl), (Nat.le_of_ble_eq_true rfl)⟩) (q_pV hW hP hF hS (k := 367) (ci := 6) (by decide) (cell_6 (kk_367)) rfl [.int x1]) rfl rfl hl.1 rfl (lv_room (Nat.le_of_ble_eq_true rfl)) dX6_release_3 ⟨(Nat.le_of_ble_eq_true rfl), (Nat.le_of_ble_eq_true rfl)⟩) hS (fun v3 S3 t3 H locs hh hp hB hz hk9 hS => ?_)
  obtain ⟨r3, rfl, hw⟩ := hp
  have hP : HP D cy b0 NALL S3 H := by rw [← hh]; exact hB.1
  have hF := hB.2
  try dsimp only at hw
  refine W.eq (g2 := F0 m 6 ls [.int r3, .ref (b0 + 367)]) rfl ?_
  refine q_call (va_runV (As := [.int r3]) (rest := []) ⟨hx, hb, hml, hown, hts⟩ (c_X6_holds l D cy b0 S3 r3 _ hw) (cwV 1 hts gX6_release_X6_holds rfl rfl rfl (by decide +kernel) ⟨(Nat.le_of_ble_eq_true rfl), (Nat.le_of_ble_eq_true rfl)⟩) (q_pV hW hP hF hS (k := 367) (ci := 6) (by decide) (cell_6 (kk_367)) rfl [.int r3]) rfl rfl hl.1 rfl (lv_room (Nat.le_of_ble_eq_true rfl)) dX6_release_6 ⟨(Nat.le_of_ble_eq_true rfl), (Nat.le_of_ble_eq_true rfl)⟩) hS (fun v6 S6 t6 H locs hh hp hB hz hk9 hS => ?_)
  obtain ⟨r6, rfl, hw⟩ := hp
  have hP : HP D cy b0 NALL S6 H := by rw [← hh]; exact hB.1
  have hF := hB.2
  try dsimp only at hw
  refine W.eq (g2 := F0 m 9 ls [.int (b2i r6)]) rfl ?_
  refine lv_if_ne (x := b2i r6) (tgt := 14) hx hb dX6_release_9 (by decide) (fun c9 => ?_) (fun c9 => ?_)
  · have c9 := b2i_n c9
    rw [if_pos c9] at hw
    refine lv_aload_n hx hb dX6_release_14 rfl (lv_at hl 0 rfl) ?_
    refine gf_6_11 (k := 367) hx hb hts (by decide +kernel) hown hK hP (by decide) (kk_367) (q := 374) (hF.1 367 11 374 ff_367_11) (hts (.fieldLink RX6 36 "OpticmeshModel" "carriers" "[I") (by decide +kernel)) dX6_release_15 ?_
    refine lv_iload_n hx hb dX6_release_18 rfl (lv_at hl 1 rfl) ?_
    obtain ⟨h19, hw⟩ := hw
    refine q_iald (k := 374) (n := 60) (i := x1) hx hb hK hP (by decide) (kk_374) (ll_374) h19 dX6_release_19 ?_
    refine lv_topi (fun y20 e20 => ?_)
    have hw := hw y20 e20
    refine lv_istore_n (lv' := [(2, .int y20), (0, .ref (b0 + 367)), (1, .int x1)]) hx hb dX6_release_20 rfl hl (by decide) rfl (fun ls hl => ?_)
    refine lv_aload_n hx hb dX6_release_21 rfl (lv_at hl 1 rfl) ?_
    refine gf_6_12 (k := 367) hx hb hts (by decide +kernel) hown hK hP (by decide) (kk_367) (q := 375) (hF.1 367 12 375 ff_367_12) (hts (.fieldLink RX6 39 "OpticmeshModel" "demands" "[I") (by decide +kernel)) dX6_release_22 ?_
    refine lv_iload_n hx hb dX6_release_25 rfl (lv_at hl 2 rfl) ?_
    refine lv_iconst (v := 0) hx hb dX6_release_26 (by decide) ?_
    obtain ⟨h27, hw⟩ := hw
    refine q_iast (k := 375) (n := 60) (i := x1) (x := 0) hx hb hK hP hS (by decide) (kk_375) (ll_375) h27 dX6_release_27 (fun H locs hz hP hS => ?_)
    have hF : Fx (sI S6 375 (x1.toNatClampNeg) 0) := Fx.sI hF _ _ _
    generalize eS27 : sI S6 375 (x1.toNatClampNeg) 0 = S27 at hP hF
    have hw := hw S27 eS27.symm
    refine lv_aload_n hx hb dX6_release_28 rfl (lv_at hl 1 rfl) ?_
    refine lv_iload_n hx hb dX6_release_29 rfl (lv_at hl 0 rfl) ?_
    refine q_call (va_runV (As := [.int y20]) (rest := []) ⟨hx, hb, hml, hown, hts⟩ (c_X6_carried l D cy b0 S27 y20 _ hw) (cwV 1 hts gX6_release_X6_carried rfl rfl rfl (by decide +kernel) ⟨(Nat.le_of_ble_eq_true rfl), (Nat.le_of_ble_eq_true rfl)⟩) (q_pV hW hP hF hS (k := 367) (ci := 6) (by decide) (cell_6 (kk_367)) rfl [.int y20]) rfl rfl hl.1 rfl (lv_room (Nat.le_of_ble_eq_true rfl)) dX6_release_30 ⟨(Nat.le_of_ble_eq_true rfl), (Nat.le_of_ble_eq_true rfl)⟩) hS (fun v30 S30 t30 H locs hh hp hB hz hk9 hS => ?_)
    obtain ⟨r30, rfl, hw⟩ := hp
    have hP : HP D cy b0 NALL S30 H := by rw [← hh]; exact hB.1
    have hF := hB.2
    try dsimp only at hw
    refine W.eq (g2 := F0 m 33 ls [.int r30]) rfl ?_
    refine lv_istore_n (lv' := [(3, .int r30), (2, .int y20), (0, .ref (b0 + 367)), (1, .int x1)]) hx hb dX6_release_33 rfl hl (by decide) rfl (fun ls hl => ?_)
    refine lv_iload_n hx hb dX6_release_34 rfl (lv_at hl 0 rfl) ?_
    refine lv_if_ne (x := r30) (tgt := 43) hx hb dX6_release_35 (by decide) (fun c35 => ?_) (fun c35 => ?_)
    · rw [if_neg c35] at hw
      refine lv_iload_n hx hb dX6_release_43 rfl (lv_at hl 0 rfl) ?_
      exact q_iret hx hb hr hP hF hS hw dX6_release_44 hlocks
    · rw [if_pos c35] at hw
      refine lv_aload_n hx hb dX6_release_38 rfl (lv_at hl 2 rfl) ?_
      refine lv_iload_n hx hb dX6_release_39 rfl (lv_at hl 1 rfl) ?_
      refine q_call (va_runV (As := [.int y20]) (rest := []) ⟨hx, hb, hml, hown, hts⟩ (c_X6_ends l D cy b0 S30 y20 _ hw) (cwV 1 hts gX6_release_X6_ends rfl rfl rfl (by decide +kernel) ⟨(Nat.le_of_ble_eq_true rfl), (Nat.le_of_ble_eq_true rfl)⟩) (q_pV hW hP hF hS (k := 367) (ci := 6) (by decide) (cell_6 (kk_367)) rfl [.int y20]) rfl rfl hl.1 rfl (lv_room (Nat.le_of_ble_eq_true rfl)) dX6_release_40 ⟨(Nat.le_of_ble_eq_true rfl), (Nat.le_of_ble_eq_true rfl)⟩) hS (fun v40 S40 t40 H locs hh hp hB hz hk9 hS => ?_)
      obtain ⟨rfl, hw⟩ := hp
      have hP : HP D cy b0 NALL S40 H := by rw [← hh]; exact hB.1
      have hF := hB.2
      try dsimp only at hw
      refine W.eq (g2 := F0 m 43 ls []) rfl ?_
      refine lv_iload_n hx hb dX6_release_43 rfl (lv_at hl 0 rfl) ?_
      exact q_iret hx hb hr hP hF hS hw dX6_release_44 hlocks
  · have c9 := b2i_z c9
    rw [if_neg c9] at hw
    refine lv_iconst (v := 0) hx hb dX6_release_12 (by decide) ?_
    exact q_iret hx hb hr hP hF hS hw dX6_release_13 hlocks
set_option maxHeartbeats 4000000 in
set_option maxRecDepth 100000 in
theorem c_X6_lightOf (l : Launch) (D : va_G) (cy : Nat → ClassId) (b0 : Nat) (S : St) (x1 : Int32)  (P : Int32 → St → Prop) (hw : wp_X6_lightOf S x1 P) : Met l yX6_lightOf wsX6_lightOf rm_X6_lightOf (va_Pc [.ref (b0 + 367), .int x1] (Wd D cy b0 NALL S)) (QC (Pi P) (Wb D cy b0 NALL) b0) 0 0 (AA b0) := by
  refine Met.ofW (cc := cX6_lightOf) (maxL := 2) (ret := (some .int)) (by decide) rfl ?_
  intro p e s m args below meth c s₁ B hml hv
  obtain ⟨hargs, hW, hP, hF⟩ := hv
  have hx := B.exec
  have hb := B.bytes
  have hr := B.returns
  have hts := atoms_spec (ws := wsX6_lightOf) B.pre
  have hown : s.vm.findClass RX6 = some m.cls := findClass_of_methodNamed B.named
  have hlocks := B.notSynchronized
  have hK := hW.1
  have hS : va_S (AA b0) s.heap s.heap [] := va_S.rf
  have hE : entryFrame m args 2 = F0 m 0 ((lg_sl [.ref (b0 + 367), .int x1] ++ List.replicate (2 - (lg_sl [.ref (b0 + 367), .int x1]).length) Slot.unset).toArray) [] := by rw [hargs]; exact lg_entry_eq m _ _
  rw [hE]
  have hl := lv_entry [.ref (b0 + 367), .int x1] (n := 2) (Nat.le_of_ble_eq_true rfl)
  generalize (lg_sl [.ref (b0 + 367), .int x1] ++ List.replicate (2 - (lg_sl [.ref (b0 + 367), .int x1]).length) Slot.unset).toArray = ls at hl ⊢
  have hl : lv_has ls 2 [(0, .ref (b0 + 367)), (1, .int x1)] := hl
  unfold wp_X6_lightOf at hw
  refine lv_aload_n hx hb dX6_lightOf_0 rfl (lv_at hl 0 rfl) ?_
  refine lv_aload_n hx hb dX6_lightOf_1 rfl (lv_at hl 0 rfl) ?_
  refine lv_iload_n hx hb dX6_lightOf_2 rfl (lv_at hl 1 rfl) ?_
  refine q_call (va_runV (As := [.int x1]) (rest := [.ref (b0 + 367)]) ⟨hx, hb, hml, hown, hts⟩ (c_X6_errorOfRequest l D cy b0 S x1 _ hw) (cwV 1 hts gX6_lightOf_X6_errorOfRequest rfl rfl rfl (by decide +kernel) ⟨(Nat.le_of_ble_eq_true rfl), (Nat.le_of_ble_eq_true rfl)⟩) (q_pV hW hP hF hS (k := 367) (ci := 6) (by decide) (cell_6 (kk_367)) rfl [.int x1]) rfl rfl hl.1 rfl (lv_room (Nat.le_of_ble_eq_true rfl)) dX6_lightOf_3 ⟨(Nat.le_of_ble_eq_true rfl), (Nat.le_of_ble_eq_true rfl)⟩) hS (fun v3 S3 t3 H locs hh hp hB hz hk9 hS => ?_)
  obtain ⟨r3, rfl, hw⟩ := hp
  have hP : HP D cy b0 NALL S3 H := by rw [← hh]; exact hB.1
  have hF := hB.2
  try dsimp only at hw
  refine W.eq (g2 := F0 m 6 ls [.int r3, .ref (b0 + 367)]) rfl ?_
  refine q_call (va_runV (As := [.int r3]) (rest := []) ⟨hx, hb, hml, hown, hts⟩ (c_X6_holds l D cy b0 S3 r3 _ hw) (cwV 1 hts gX6_lightOf_X6_holds rfl rfl rfl (by decide +kernel) ⟨(Nat.le_of_ble_eq_true rfl), (Nat.le_of_ble_eq_true rfl)⟩) (q_pV hW hP hF hS (k := 367) (ci := 6) (by decide) (cell_6 (kk_367)) rfl [.int r3]) rfl rfl hl.1 rfl (lv_room (Nat.le_of_ble_eq_true rfl)) dX6_lightOf_6 ⟨(Nat.le_of_ble_eq_true rfl), (Nat.le_of_ble_eq_true rfl)⟩) hS (fun v6 S6 t6 H locs hh hp hB hz hk9 hS => ?_)
  obtain ⟨r6, rfl, hw⟩ := hp
  have hP : HP D cy b0 NALL S6 H := by rw [← hh]; exact hB.1
  have hF := hB.2
  try dsimp only at hw
  refine W.eq (g2 := F0 m 9 ls [.int (b2i r6)]) rfl ?_
  refine lv_if_eq (x := b2i r6) (tgt := 21) hx hb dX6_lightOf_9 (by decide) (fun c9 => ?_) (fun c9 => ?_)
  · have c9 := b2i_z c9
    rw [if_neg c9] at hw
    refine lv_iconst (v := 0) hx hb dX6_lightOf_21 (by decide) ?_
    exact q_iret hx hb hr hP hF hS hw dX6_lightOf_22 hlocks
  · have c9 := b2i_n c9
    rw [if_pos c9] at hw
    refine lv_aload_n hx hb dX6_lightOf_12 rfl (lv_at hl 0 rfl) ?_
    refine gf_6_11 (k := 367) hx hb hts (by decide +kernel) hown hK hP (by decide) (kk_367) (q := 374) (hF.1 367 11 374 ff_367_11) (hts (.fieldLink RX6 36 "OpticmeshModel" "carriers" "[I") (by decide +kernel)) dX6_lightOf_13 ?_
    refine lv_iload_n hx hb dX6_lightOf_16 rfl (lv_at hl 1 rfl) ?_
    obtain ⟨h17, hw⟩ := hw
    refine q_iald (k := 374) (n := 60) (i := x1) hx hb hK hP (by decide) (kk_374) (ll_374) h17 dX6_lightOf_17 ?_
    refine lv_goto (tgt := 22) hx hb dX6_lightOf_18 (by decide) ?_
    exact q_iret hx hb hr hP hF hS hw dX6_lightOf_22 hlocks
set_option maxHeartbeats 4000000 in
set_option maxRecDepth 100000 in
theorem c_X6_requests (l : Launch) (D : va_G) (cy : Nat → ClassId) (b0 : Nat) (S : St)   (P : Int32 → St → Prop) (hw : wp_X6_requests S  P) : Met l yX6_requests wsX6_requests rm_X6_requests (va_Pc [.ref (b0 + 367)] (Wd D cy b0 NALL S)) (QC (Pi P) (Wb D cy b0 NALL) b0) 0 0 (AA b0) := by
  refine Met.ofW (cc := cX6_requests) (maxL := 1) (ret := (some .int)) (by decide) rfl ?_
  intro p e s m args below meth c s₁ B hml hv
  obtain ⟨hargs, hW, hP, hF⟩ := hv
  have hx := B.exec
  have hb := B.bytes
  have hr := B.returns
  have hts := atoms_spec (ws := wsX6_requests) B.pre
  have hown : s.vm.findClass RX6 = some m.cls := findClass_of_methodNamed B.named
  have hlocks := B.notSynchronized
  have hK := hW.1
  have hS : va_S (AA b0) s.heap s.heap [] := va_S.rf
  have hE : entryFrame m args 1 = F0 m 0 ((lg_sl [.ref (b0 + 367)] ++ List.replicate (1 - (lg_sl [.ref (b0 + 367)]).length) Slot.unset).toArray) [] := by rw [hargs]; exact lg_entry_eq m _ _
  rw [hE]
  have hl := lv_entry [.ref (b0 + 367)] (n := 1) (Nat.le_of_ble_eq_true rfl)
  generalize (lg_sl [.ref (b0 + 367)] ++ List.replicate (1 - (lg_sl [.ref (b0 + 367)]).length) Slot.unset).toArray = ls at hl ⊢
  have hl : lv_has ls 1 [(0, .ref (b0 + 367))] := hl
  unfold wp_X6_requests at hw
  refine lv_aload_n hx hb dX6_requests_0 rfl (lv_at hl 0 rfl) ?_
  refine lv_iconst (v := 0) hx hb dX6_requests_1 (by decide) ?_
  refine pf_6_0 (k := 367) (x := 0) hx hb hts (by decide +kernel) hown hK hP hS (by decide) (kk_367) (hts (.fieldLink RX6 87 "OpticmeshModel" "thrown" "I") (by decide +kernel)) dX6_requests_2 (fun H locs hz hP hS => ?_)
  have hF : Fx (sI S 367 0 0) := Fx.sI hF _ _ _
  generalize eS2 : sI S 367 0 0 = S2 at hP hF
  have hw := hw S2 eS2.symm
  refine lv_aload_n hx hb dX6_requests_5 rfl (lv_at hl 0 rfl) ?_
  refine gf_6_10 (k := 367) hx hb hts (by decide +kernel) hown hK hP (by decide) (kk_367) (hts (.fieldLink RX6 93 "OpticmeshModel" "requests" "I") (by decide +kernel)) dX6_requests_6 ?_
  exact q_iret hx hb hr hP hF hS hw dX6_requests_9 hlocks
set_option maxHeartbeats 4000000 in
set_option maxRecDepth 100000 in
theorem c_X6_lights (l : Launch) (D : va_G) (cy : Nat → ClassId) (b0 : Nat) (S : St)   (P : Int32 → St → Prop) (hw : wp_X6_lights S  P) : Met l yX6_lights wsX6_lights rm_X6_lights (va_Pc [.ref (b0 + 367)] (Wd D cy b0 NALL S)) (QC (Pi P) (Wb D cy b0 NALL) b0) 0 0 (AA b0) := by
  refine Met.ofW (cc := cX6_lights) (maxL := 1) (ret := (some .int)) (by decide) rfl ?_
  intro p e s m args below meth c s₁ B hml hv
  obtain ⟨hargs, hW, hP, hF⟩ := hv
  have hx := B.exec
  have hb := B.bytes
  have hr := B.returns
  have hts := atoms_spec (ws := wsX6_lights) B.pre
  have hown : s.vm.findClass RX6 = some m.cls := findClass_of_methodNamed B.named
  have hlocks := B.notSynchronized
  have hK := hW.1
  have hS : va_S (AA b0) s.heap s.heap [] := va_S.rf
  have hE : entryFrame m args 1 = F0 m 0 ((lg_sl [.ref (b0 + 367)] ++ List.replicate (1 - (lg_sl [.ref (b0 + 367)]).length) Slot.unset).toArray) [] := by rw [hargs]; exact lg_entry_eq m _ _
  rw [hE]
  have hl := lv_entry [.ref (b0 + 367)] (n := 1) (Nat.le_of_ble_eq_true rfl)
  generalize (lg_sl [.ref (b0 + 367)] ++ List.replicate (1 - (lg_sl [.ref (b0 + 367)]).length) Slot.unset).toArray = ls at hl ⊢
  have hl : lv_has ls 1 [(0, .ref (b0 + 367))] := hl
  unfold wp_X6_lights at hw
  refine lv_aload_n hx hb dX6_lights_0 rfl (lv_at hl 0 rfl) ?_
  refine lv_iconst (v := 0) hx hb dX6_lights_1 (by decide) ?_
  refine pf_6_0 (k := 367) (x := 0) hx hb hts (by decide +kernel) hown hK hP hS (by decide) (kk_367) (hts (.fieldLink RX6 87 "OpticmeshModel" "thrown" "I") (by decide +kernel)) dX6_lights_2 (fun H locs hz hP hS => ?_)
  have hF : Fx (sI S 367 0 0) := Fx.sI hF _ _ _
  generalize eS2 : sI S 367 0 0 = S2 at hP hF
  have hw := hw S2 eS2.symm
  refine lv_aload_n hx hb dX6_lights_5 rfl (lv_at hl 0 rfl) ?_
  refine gf_6_13 (k := 367) hx hb hts (by decide +kernel) hown hK hP (by decide) (kk_367) (hts (.fieldLink RX6 96 "OpticmeshModel" "lights" "I") (by decide +kernel)) dX6_lights_6 ?_
  exact q_iret hx hb hr hP hF hS hw dX6_lights_9 hlocks
set_option maxHeartbeats 4000000 in
set_option maxRecDepth 100000 in
theorem c_X6_state (l : Launch) (D : va_G) (cy : Nat → ClassId) (b0 : Nat) (S : St) (x1 : Int32)  (P : Int32 → St → Prop) (hw : wp_X6_state S x1 P) : Met l yX6_state wsX6_state rm_X6_state (va_Pc [.ref (b0 + 367), .int x1] (Wd D cy b0 NALL S)) (QC (Pi P) (Wb D cy b0 NALL) b0) 0 0 (AA b0) := by
  refine Met.ofW (cc := cX6_state) (maxL := 2) (ret := (some .int)) (by decide) rfl ?_
  intro p e s m args below meth c s₁ B hml hv
  obtain ⟨hargs, hW, hP, hF⟩ := hv
  have hx := B.exec
  have hb := B.bytes
  have hr := B.returns
  have hts := atoms_spec (ws := wsX6_state) B.pre
  have hown : s.vm.findClass RX6 = some m.cls := findClass_of_methodNamed B.named
  have hlocks := B.notSynchronized
  have hK := hW.1
  have hS : va_S (AA b0) s.heap s.heap [] := va_S.rf
  have hE : entryFrame m args 2 = F0 m 0 ((lg_sl [.ref (b0 + 367), .int x1] ++ List.replicate (2 - (lg_sl [.ref (b0 + 367), .int x1]).length) Slot.unset).toArray) [] := by rw [hargs]; exact lg_entry_eq m _ _
  rw [hE]
  have hl := lv_entry [.ref (b0 + 367), .int x1] (n := 2) (Nat.le_of_ble_eq_true rfl)
  generalize (lg_sl [.ref (b0 + 367), .int x1] ++ List.replicate (2 - (lg_sl [.ref (b0 + 367), .int x1]).length) Slot.unset).toArray = ls at hl ⊢
  have hl : lv_has ls 2 [(0, .ref (b0 + 367)), (1, .int x1)] := hl
  have j14 : ∀ (S : St) (t1 : Bool), ∀ (H : Heap) (locs : List Loc) (ls : Array Slot), wp_X6_state_14 x1 P S t1 → HP D cy b0 NALL S H → Fx S → va_S (AA b0) s.heap H locs → lv_has ls 2 [(0, .ref (b0 + 367)), (1, .int x1)] → W p l e rm_X6_state s m args below meth c H locs 0 0 (MQ below (QC (Pi P) (Wb D cy b0 NALL) b0) args s 0 0 (AA b0)) (F0 m 14 ls [.int (b2i t1), .ref (b0 + 367)]) := by
    intro S t1  H locs ls hw hP hF hS hl
    unfold wp_X6_state_14 at hw
    refine q_call (va_runV (As := [.int (b2i t1)]) (rest := []) ⟨hx, hb, hml, hown, hts⟩ (c_X6_holds l D cy b0 S (b2i t1) _ hw) (cwV 1 hts gX6_state_X6_holds rfl rfl rfl (by decide +kernel) ⟨(Nat.le_of_ble_eq_true rfl), (Nat.le_of_ble_eq_true rfl)⟩) (q_pV hW hP hF hS (k := 367) (ci := 6) (by decide) (cell_6 (kk_367)) rfl [.int (b2i t1)]) rfl rfl hl.1 rfl (lv_room (Nat.le_of_ble_eq_true rfl)) dX6_state_14 ⟨(Nat.le_of_ble_eq_true rfl), (Nat.le_of_ble_eq_true rfl)⟩) hS (fun v14 S14 t14 H locs hh hp hB hz hk9 hS => ?_)
    obtain ⟨r14, rfl, hw⟩ := hp
    have hP : HP D cy b0 NALL S14 H := by rw [← hh]; exact hB.1
    have hF := hB.2
    try dsimp only at hw
    refine W.eq (g2 := F0 m 17 ls [.int (b2i r14)]) rfl ?_
    refine lv_if_ne (x := b2i r14) (tgt := 24) hx hb dX6_state_17 (by decide) (fun c17 => ?_) (fun c17 => ?_)
    · have c17 := b2i_n c17
      rw [if_pos c17] at hw
      refine lv_aload_n hx hb dX6_state_24 rfl (lv_at hl 0 rfl) ?_
      refine gf_6_16 (k := 367) hx hb hts (by decide +kernel) hown hK hP (by decide) (kk_367) (q := 378) (hF.1 367 16 378 ff_367_16) (hts (.fieldLink RX6 48 "OpticmeshModel" "ways" "[I") (by decide +kernel)) dX6_state_25 ?_
      refine lv_iload_n hx hb dX6_state_28 rfl (lv_at hl 1 rfl) ?_
      obtain ⟨h29, hw⟩ := hw
      refine q_iald (k := 378) (n := 60) (i := x1) hx hb hK hP (by decide) (kk_378) (ll_378) h29 dX6_state_29 ?_
      refine lv_if_ne (x := (gI S14 378 (x1.toNatClampNeg))) (tgt := 37) hx hb dX6_state_30 (by decide) (fun c30 => ?_) (fun c30 => ?_)
      · rw [if_neg c30] at hw
        refine lv_aload_n hx hb dX6_state_37 rfl (lv_at hl 0 rfl) ?_
        refine lv_iload_n hx hb dX6_state_38 rfl (lv_at hl 1 rfl) ?_
        refine q_call (va_runV (As := [.int x1]) (rest := []) ⟨hx, hb, hml, hown, hts⟩ (c_X6_isUp l D cy b0 S14 x1 _ hw) (cwV 1 hts gX6_state_X6_isUp rfl rfl rfl (by decide +kernel) ⟨(Nat.le_of_ble_eq_true rfl), (Nat.le_of_ble_eq_true rfl)⟩) (q_pV hW hP hF hS (k := 367) (ci := 6) (by decide) (cell_6 (kk_367)) rfl [.int x1]) rfl rfl hl.1 rfl (lv_room (Nat.le_of_ble_eq_true rfl)) dX6_state_39 ⟨(Nat.le_of_ble_eq_true rfl), (Nat.le_of_ble_eq_true rfl)⟩) hS (fun v39 S39 t39 H locs hh hp hB hz hk9 hS => ?_)
        obtain ⟨r39, rfl, hw⟩ := hp
        have hP : HP D cy b0 NALL S39 H := by rw [← hh]; exact hB.1
        have hF := hB.2
        try dsimp only at hw
        refine W.eq (g2 := F0 m 42 ls [.int (b2i r39)]) rfl ?_
        refine lv_if_eq (x := b2i r39) (tgt := 49) hx hb dX6_state_42 (by decide) (fun c42 => ?_) (fun c42 => ?_)
        · have c42 := b2i_z c42
          rw [if_neg c42] at hw
          refine lv_iconst (v := 1) hx hb dX6_state_49 (by decide) ?_
          exact q_iret hx hb hr hP hF hS hw dX6_state_50 hlocks
        · have c42 := b2i_n c42
          rw [if_pos c42] at hw
          refine lv_iconst (v := 0) hx hb dX6_state_45 (by decide) ?_
          refine lv_goto (tgt := 50) hx hb dX6_state_46 (by decide) ?_
          exact q_iret hx hb hr hP hF hS hw dX6_state_50 hlocks
      · rw [if_pos c30] at hw
        refine lv_iconst (v := 2) hx hb dX6_state_33 (by decide) ?_
        refine lv_goto (tgt := 50) hx hb dX6_state_34 (by decide) ?_
        exact q_iret hx hb hr hP hF hS hw dX6_state_50 hlocks
    · have c17 := b2i_z c17
      rw [if_neg c17] at hw
      refine lv_iconst (v := 0) hx hb dX6_state_20 (by decide) ?_
      refine lv_goto (tgt := 50) hx hb dX6_state_21 (by decide) ?_
      exact q_iret hx hb hr hP hF hS hw dX6_state_50 hlocks
  unfold wp_X6_state at hw
  refine lv_aload_n hx hb dX6_state_0 rfl (lv_at hl 0 rfl) ?_
  refine lv_aload_n hx hb dX6_state_1 rfl (lv_at hl 0 rfl) ?_
  refine lv_iload_n hx hb dX6_state_2 rfl (lv_at hl 1 rfl) ?_
  refine q_call (va_runV (As := [.int x1]) (rest := [.ref (b0 + 367)]) ⟨hx, hb, hml, hown, hts⟩ (c_X6_isLight l D cy b0 S x1 _ hw) (cwV 1 hts gX6_state_X6_isLight rfl rfl rfl (by decide +kernel) ⟨(Nat.le_of_ble_eq_true rfl), (Nat.le_of_ble_eq_true rfl)⟩) (q_pV hW hP hF hS (k := 367) (ci := 6) (by decide) (cell_6 (kk_367)) rfl [.int x1]) rfl rfl hl.1 rfl (lv_room (Nat.le_of_ble_eq_true rfl)) dX6_state_3 ⟨(Nat.le_of_ble_eq_true rfl), (Nat.le_of_ble_eq_true rfl)⟩) hS (fun v3 S3 t3 H locs hh hp hB hz hk9 hS => ?_)
  obtain ⟨r3, rfl, hw⟩ := hp
  have hP : HP D cy b0 NALL S3 H := by rw [← hh]; exact hB.1
  have hF := hB.2
  try dsimp only at hw
  refine W.eq (g2 := F0 m 6 ls [.int (b2i r3), .ref (b0 + 367)]) rfl ?_
  refine lv_if_eq (x := b2i r3) (tgt := 13) hx hb dX6_state_6 (by decide) (fun c6 => ?_) (fun c6 => ?_)
  · have c6 := b2i_z c6
    rw [if_neg c6] at hw
    refine lv_iconst (v := 1) hx hb dX6_state_13 (by decide) ?_
    exact j14 S3 true  _ _ _ hw hP hF hS (lv_sub hl [0, 1] rfl)
  · have c6 := b2i_n c6
    rw [if_pos c6] at hw
    refine lv_iconst (v := 0) hx hb dX6_state_9 (by decide) ?_
    refine lv_goto (tgt := 14) hx hb dX6_state_10 (by decide) ?_
    exact j14 S3 false  _ _ _ hw hP hF hS (lv_sub hl [0, 1] rfl)
set_option maxHeartbeats 4000000 in
set_option maxRecDepth 100000 in
theorem c_X6_units (l : Launch) (D : va_G) (cy : Nat → ClassId) (b0 : Nat) (S : St) (x1 : Int32)  (P : Int32 → St → Prop) (hw : wp_X6_units S x1 P) : Met l yX6_units wsX6_units rm_X6_units (va_Pc [.ref (b0 + 367), .int x1] (Wd D cy b0 NALL S)) (QC (Pi P) (Wb D cy b0 NALL) b0) 0 0 (AA b0) := by
  refine Met.ofW (cc := cX6_units) (maxL := 2) (ret := (some .int)) (by decide) rfl ?_
  intro p e s m args below meth c s₁ B hml hv
  obtain ⟨hargs, hW, hP, hF⟩ := hv
  have hx := B.exec
  have hb := B.bytes
  have hr := B.returns
  have hts := atoms_spec (ws := wsX6_units) B.pre
  have hown : s.vm.findClass RX6 = some m.cls := findClass_of_methodNamed B.named
  have hlocks := B.notSynchronized
  have hK := hW.1
  have hS : va_S (AA b0) s.heap s.heap [] := va_S.rf
  have hE : entryFrame m args 2 = F0 m 0 ((lg_sl [.ref (b0 + 367), .int x1] ++ List.replicate (2 - (lg_sl [.ref (b0 + 367), .int x1]).length) Slot.unset).toArray) [] := by rw [hargs]; exact lg_entry_eq m _ _
  rw [hE]
  have hl := lv_entry [.ref (b0 + 367), .int x1] (n := 2) (Nat.le_of_ble_eq_true rfl)
  generalize (lg_sl [.ref (b0 + 367), .int x1] ++ List.replicate (2 - (lg_sl [.ref (b0 + 367), .int x1]).length) Slot.unset).toArray = ls at hl ⊢
  have hl : lv_has ls 2 [(0, .ref (b0 + 367)), (1, .int x1)] := hl
  have j14 : ∀ (S : St) (t1 : Bool), ∀ (H : Heap) (locs : List Loc) (ls : Array Slot), wp_X6_units_14 x1 P S t1 → HP D cy b0 NALL S H → Fx S → va_S (AA b0) s.heap H locs → lv_has ls 2 [(0, .ref (b0 + 367)), (1, .int x1)] → W p l e rm_X6_units s m args below meth c H locs 0 0 (MQ below (QC (Pi P) (Wb D cy b0 NALL) b0) args s 0 0 (AA b0)) (F0 m 14 ls [.int (b2i t1), .ref (b0 + 367)]) := by
    intro S t1  H locs ls hw hP hF hS hl
    unfold wp_X6_units_14 at hw
    refine q_call (va_runV (As := [.int (b2i t1)]) (rest := []) ⟨hx, hb, hml, hown, hts⟩ (c_X6_holds l D cy b0 S (b2i t1) _ hw) (cwV 1 hts gX6_units_X6_holds rfl rfl rfl (by decide +kernel) ⟨(Nat.le_of_ble_eq_true rfl), (Nat.le_of_ble_eq_true rfl)⟩) (q_pV hW hP hF hS (k := 367) (ci := 6) (by decide) (cell_6 (kk_367)) rfl [.int (b2i t1)]) rfl rfl hl.1 rfl (lv_room (Nat.le_of_ble_eq_true rfl)) dX6_units_14 ⟨(Nat.le_of_ble_eq_true rfl), (Nat.le_of_ble_eq_true rfl)⟩) hS (fun v14 S14 t14 H locs hh hp hB hz hk9 hS => ?_)
    obtain ⟨r14, rfl, hw⟩ := hp
    have hP : HP D cy b0 NALL S14 H := by rw [← hh]; exact hB.1
    have hF := hB.2
    try dsimp only at hw
    refine W.eq (g2 := F0 m 17 ls [.int (b2i r14)]) rfl ?_
    refine lv_if_eq (x := b2i r14) (tgt := 28) hx hb dX6_units_17 (by decide) (fun c17 => ?_) (fun c17 => ?_)
    · have c17 := b2i_z c17
      rw [if_neg c17] at hw
      refine lv_iconst (v := 0) hx hb dX6_units_28 (by decide) ?_
      exact q_iret hx hb hr hP hF hS hw dX6_units_29 hlocks
    · have c17 := b2i_n c17
      rw [if_pos c17] at hw
      refine lv_aload_n hx hb dX6_units_20 rfl (lv_at hl 0 rfl) ?_
      refine lv_iload_n hx hb dX6_units_21 rfl (lv_at hl 1 rfl) ?_
      refine q_call (va_runV (As := [.int x1]) (rest := []) ⟨hx, hb, hml, hown, hts⟩ (c_X6_carried l D cy b0 S14 x1 _ hw) (cwV 1 hts gX6_units_X6_carried rfl rfl rfl (by decide +kernel) ⟨(Nat.le_of_ble_eq_true rfl), (Nat.le_of_ble_eq_true rfl)⟩) (q_pV hW hP hF hS (k := 367) (ci := 6) (by decide) (cell_6 (kk_367)) rfl [.int x1]) rfl rfl hl.1 rfl (lv_room (Nat.le_of_ble_eq_true rfl)) dX6_units_22 ⟨(Nat.le_of_ble_eq_true rfl), (Nat.le_of_ble_eq_true rfl)⟩) hS (fun v22 S22 t22 H locs hh hp hB hz hk9 hS => ?_)
      obtain ⟨r22, rfl, hw⟩ := hp
      have hP : HP D cy b0 NALL S22 H := by rw [← hh]; exact hB.1
      have hF := hB.2
      try dsimp only at hw
      refine W.eq (g2 := F0 m 25 ls [.int r22]) rfl ?_
      refine lv_goto (tgt := 29) hx hb dX6_units_25 (by decide) ?_
      exact q_iret hx hb hr hP hF hS hw dX6_units_29 hlocks
  unfold wp_X6_units at hw
  refine lv_aload_n hx hb dX6_units_0 rfl (lv_at hl 0 rfl) ?_
  refine lv_aload_n hx hb dX6_units_1 rfl (lv_at hl 0 rfl) ?_
  refine lv_iload_n hx hb dX6_units_2 rfl (lv_at hl 1 rfl) ?_
  refine q_call (va_runV (As := [.int x1]) (rest := [.ref (b0 + 367)]) ⟨hx, hb, hml, hown, hts⟩ (c_X6_isLight l D cy b0 S x1 _ hw) (cwV 1 hts gX6_units_X6_isLight rfl rfl rfl (by decide +kernel) ⟨(Nat.le_of_ble_eq_true rfl), (Nat.le_of_ble_eq_true rfl)⟩) (q_pV hW hP hF hS (k := 367) (ci := 6) (by decide) (cell_6 (kk_367)) rfl [.int x1]) rfl rfl hl.1 rfl (lv_room (Nat.le_of_ble_eq_true rfl)) dX6_units_3 ⟨(Nat.le_of_ble_eq_true rfl), (Nat.le_of_ble_eq_true rfl)⟩) hS (fun v3 S3 t3 H locs hh hp hB hz hk9 hS => ?_)
  obtain ⟨r3, rfl, hw⟩ := hp
  have hP : HP D cy b0 NALL S3 H := by rw [← hh]; exact hB.1
  have hF := hB.2
  try dsimp only at hw
  refine W.eq (g2 := F0 m 6 ls [.int (b2i r3), .ref (b0 + 367)]) rfl ?_
  refine lv_if_eq (x := b2i r3) (tgt := 13) hx hb dX6_units_6 (by decide) (fun c6 => ?_) (fun c6 => ?_)
  · have c6 := b2i_z c6
    rw [if_neg c6] at hw
    refine lv_iconst (v := 1) hx hb dX6_units_13 (by decide) ?_
    exact j14 S3 true  _ _ _ hw hP hF hS (lv_sub hl [0, 1] rfl)
  · have c6 := b2i_n c6
    rw [if_pos c6] at hw
    refine lv_iconst (v := 0) hx hb dX6_units_9 (by decide) ?_
    refine lv_goto (tgt := 14) hx hb dX6_units_10 (by decide) ?_
    exact j14 S3 false  _ _ _ hw hP hF hS (lv_sub hl [0, 1] rfl)
set_option maxHeartbeats 4000000 in
set_option maxRecDepth 100000 in
theorem c_X6_isWay (l : Launch) (D : va_G) (cy : Nat → ClassId) (b0 : Nat) (S : St) (x1 : Int32) (x2 : Int32)  (P : Bool → St → Prop) (hw : wp_X6_isWay S x1 x2 P) : Met l yX6_isWay wsX6_isWay rm_X6_isWay (va_Pc [.ref (b0 + 367), .int x1, .int x2] (Wd D cy b0 NALL S)) (QC (Pz P) (Wb D cy b0 NALL) b0) 0 0 (AA b0) := by
  refine Met.ofW (cc := cX6_isWay) (maxL := 3) (ret := (some .boolean)) (by decide) rfl ?_
  intro p e s m args below meth c s₁ B hml hv
  obtain ⟨hargs, hW, hP, hF⟩ := hv
  have hx := B.exec
  have hb := B.bytes
  have hr := B.returns
  have hts := atoms_spec (ws := wsX6_isWay) B.pre
  have hown : s.vm.findClass RX6 = some m.cls := findClass_of_methodNamed B.named
  have hlocks := B.notSynchronized
  have hK := hW.1
  have hS : va_S (AA b0) s.heap s.heap [] := va_S.rf
  have hE : entryFrame m args 3 = F0 m 0 ((lg_sl [.ref (b0 + 367), .int x1, .int x2] ++ List.replicate (3 - (lg_sl [.ref (b0 + 367), .int x1, .int x2]).length) Slot.unset).toArray) [] := by rw [hargs]; exact lg_entry_eq m _ _
  rw [hE]
  have hl := lv_entry [.ref (b0 + 367), .int x1, .int x2] (n := 3) (Nat.le_of_ble_eq_true rfl)
  generalize (lg_sl [.ref (b0 + 367), .int x1, .int x2] ++ List.replicate (3 - (lg_sl [.ref (b0 + 367), .int x1, .int x2]).length) Slot.unset).toArray = ls at hl ⊢
  have hl : lv_has ls 3 [(0, .ref (b0 + 367)), (1, .int x1), (2, .int x2)] := hl
  unfold wp_X6_isWay at hw
  refine lv_aload_n hx hb dX6_isWay_0 rfl (lv_at hl 0 rfl) ?_
  refine lv_iload_n hx hb dX6_isWay_1 rfl (lv_at hl 1 rfl) ?_
  refine q_call (va_runV (As := [.int x1]) (rest := []) ⟨hx, hb, hml, hown, hts⟩ (c_X6_isLight l D cy b0 S x1 _ hw) (cwV 1 hts gX6_isWay_X6_isLight rfl rfl rfl (by decide +kernel) ⟨(Nat.le_of_ble_eq_true rfl), (Nat.le_of_ble_eq_true rfl)⟩) (q_pV hW hP hF hS (k := 367) (ci := 6) (by decide) (cell_6 (kk_367)) rfl [.int x1]) rfl rfl hl.1 rfl (lv_room (Nat.le_of_ble_eq_true rfl)) dX6_isWay_2 ⟨(Nat.le_of_ble_eq_true rfl), (Nat.le_of_ble_eq_true rfl)⟩) hS (fun v2 S2 t2 H locs hh hp hB hz hk9 hS => ?_)
  obtain ⟨r2, rfl, hw⟩ := hp
  have hP : HP D cy b0 NALL S2 H := by rw [← hh]; exact hB.1
  have hF := hB.2
  try dsimp only at hw
  refine W.eq (g2 := F0 m 5 ls [.int (b2i r2)]) rfl ?_
  refine lv_if_eq (x := b2i r2) (tgt := 28) hx hb dX6_isWay_5 (by decide) (fun c5 => ?_) (fun c5 => ?_)
  · have c5 := b2i_z c5
    rw [if_neg c5] at hw
    refine lv_iconst (v := 0) hx hb dX6_isWay_28 (by decide) ?_
    exact q_zret (v := false) hx hb hr hP hF hS hw dX6_isWay_29 hlocks
  · have c5 := b2i_n c5
    rw [if_pos c5] at hw
    refine lv_iload_n hx hb dX6_isWay_8 rfl (lv_at hl 2 rfl) ?_
    refine lv_iconst (v := 0) hx hb dX6_isWay_9 (by decide) ?_
    refine lv_aload_n hx hb dX6_isWay_10 rfl (lv_at hl 0 rfl) ?_
    refine gf_6_16 (k := 367) hx hb hts (by decide +kernel) hown hK hP (by decide) (kk_367) (q := 378) (hF.1 367 16 378 ff_367_16) (hts (.fieldLink RX6 48 "OpticmeshModel" "ways" "[I") (by decide +kernel)) dX6_isWay_11 ?_
    refine lv_iload_n hx hb dX6_isWay_14 rfl (lv_at hl 1 rfl) ?_
    obtain ⟨h15, hw⟩ := hw
    refine q_iald (k := 378) (n := 60) (i := x1) hx hb hK hP (by decide) (kk_378) (ll_378) h15 dX6_isWay_15 ?_
    refine lv_iconst (v := 1) hx hb dX6_isWay_16 (by decide) ?_
    refine lv_isub hx hb dX6_isWay_17 ?_
    refine q_call (va_runS (As := [.int x2, .int 0, .int ((gI S2 378 (x1.toNatClampNeg)) - 1)]) (rest := []) ⟨hx, hb, hml, hown, hts⟩ (c_X6_in l D cy b0 S2 x2 0 ((gI S2 378 (x1.toNatClampNeg)) - 1) _ hw) (va_cwS 3 hts gX6_isWay_X6_in rfl rfl rfl (by decide +kernel) ⟨(Nat.le_of_ble_eq_true rfl), (Nat.le_of_ble_eq_true rfl)⟩) (q_pS hW hP hF hS [.int x2, .int 0, .int ((gI S2 378 (x1.toNatClampNeg)) - 1)]) rfl rfl hl.1 rfl (lv_room (Nat.le_of_ble_eq_true rfl)) dX6_isWay_18 ⟨(Nat.le_of_ble_eq_true rfl), (Nat.le_of_ble_eq_true rfl)⟩) hS (fun v18 S18 t18 H locs hh hp hB hz hk9 hS => ?_)
    obtain ⟨r18, rfl, hw⟩ := hp
    have hP : HP D cy b0 NALL S18 H := by rw [← hh]; exact hB.1
    have hF := hB.2
    try dsimp only at hw
    refine W.eq (g2 := F0 m 21 ls [.int (b2i r18)]) rfl ?_
    refine lv_if_eq (x := b2i r18) (tgt := 28) hx hb dX6_isWay_21 (by decide) (fun c21 => ?_) (fun c21 => ?_)
    · have c21 := b2i_z c21
      rw [if_neg c21] at hw
      refine lv_iconst (v := 0) hx hb dX6_isWay_28 (by decide) ?_
      exact q_zret (v := false) hx hb hr hP hF hS hw dX6_isWay_29 hlocks
    · have c21 := b2i_n c21
      rw [if_pos c21] at hw
      refine lv_iconst (v := 1) hx hb dX6_isWay_24 (by decide) ?_
      refine lv_goto (tgt := 29) hx hb dX6_isWay_25 (by decide) ?_
      exact q_zret (v := true) hx hb hr hP hF hS hw dX6_isWay_29 hlocks
set_option maxHeartbeats 4000000 in
set_option maxRecDepth 100000 in
theorem c_X6_channels (l : Launch) (D : va_G) (cy : Nat → ClassId) (b0 : Nat) (S : St) (x1 : Int32) (x2 : Int32)  (P : Int32 → St → Prop) (hw : wp_X6_channels S x1 x2 P) : Met l yX6_channels wsX6_channels rm_X6_channels (va_Pc [.ref (b0 + 367), .int x1, .int x2] (Wd D cy b0 NALL S)) (QC (Pi P) (Wb D cy b0 NALL) b0) 0 0 (AA b0) := by
  refine Met.ofW (cc := cX6_channels) (maxL := 3) (ret := (some .int)) (by decide) rfl ?_
  intro p e s m args below meth c s₁ B hml hv
  obtain ⟨hargs, hW, hP, hF⟩ := hv
  have hx := B.exec
  have hb := B.bytes
  have hr := B.returns
  have hts := atoms_spec (ws := wsX6_channels) B.pre
  have hown : s.vm.findClass RX6 = some m.cls := findClass_of_methodNamed B.named
  have hlocks := B.notSynchronized
  have hK := hW.1
  have hS : va_S (AA b0) s.heap s.heap [] := va_S.rf
  have hE : entryFrame m args 3 = F0 m 0 ((lg_sl [.ref (b0 + 367), .int x1, .int x2] ++ List.replicate (3 - (lg_sl [.ref (b0 + 367), .int x1, .int x2]).length) Slot.unset).toArray) [] := by rw [hargs]; exact lg_entry_eq m _ _
  rw [hE]
  have hl := lv_entry [.ref (b0 + 367), .int x1, .int x2] (n := 3) (Nat.le_of_ble_eq_true rfl)
  generalize (lg_sl [.ref (b0 + 367), .int x1, .int x2] ++ List.replicate (3 - (lg_sl [.ref (b0 + 367), .int x1, .int x2]).length) Slot.unset).toArray = ls at hl ⊢
  have hl : lv_has ls 3 [(0, .ref (b0 + 367)), (1, .int x1), (2, .int x2)] := hl
  have j15 : ∀ (S : St) (t1 : Bool), ∀ (H : Heap) (locs : List Loc) (ls : Array Slot), wp_X6_channels_15 x1 x2 P S t1 → HP D cy b0 NALL S H → Fx S → va_S (AA b0) s.heap H locs → lv_has ls 3 [(0, .ref (b0 + 367)), (1, .int x1), (2, .int x2)] → W p l e rm_X6_channels s m args below meth c H locs 0 0 (MQ below (QC (Pi P) (Wb D cy b0 NALL) b0) args s 0 0 (AA b0)) (F0 m 15 ls [.int (b2i t1), .ref (b0 + 367)]) := by
    intro S t1  H locs ls hw hP hF hS hl
    unfold wp_X6_channels_15 at hw
    refine q_call (va_runV (As := [.int (b2i t1)]) (rest := []) ⟨hx, hb, hml, hown, hts⟩ (c_X6_holds l D cy b0 S (b2i t1) _ hw) (cwV 1 hts gX6_channels_X6_holds rfl rfl rfl (by decide +kernel) ⟨(Nat.le_of_ble_eq_true rfl), (Nat.le_of_ble_eq_true rfl)⟩) (q_pV hW hP hF hS (k := 367) (ci := 6) (by decide) (cell_6 (kk_367)) rfl [.int (b2i t1)]) rfl rfl hl.1 rfl (lv_room (Nat.le_of_ble_eq_true rfl)) dX6_channels_15 ⟨(Nat.le_of_ble_eq_true rfl), (Nat.le_of_ble_eq_true rfl)⟩) hS (fun v15 S15 t15 H locs hh hp hB hz hk9 hS => ?_)
    obtain ⟨r15, rfl, hw⟩ := hp
    have hP : HP D cy b0 NALL S15 H := by rw [← hh]; exact hB.1
    have hF := hB.2
    try dsimp only at hw
    refine W.eq (g2 := F0 m 18 ls [.int (b2i r15)]) rfl ?_
    refine lv_if_eq (x := b2i r15) (tgt := 32) hx hb dX6_channels_18 (by decide) (fun c18 => ?_) (fun c18 => ?_)
    · have c18 := b2i_z c18
      rw [if_neg c18] at hw
      refine lv_iconst (v := 0) hx hb dX6_channels_32 (by decide) ?_
      exact q_iret hx hb hr hP hF hS hw dX6_channels_33 hlocks
    · have c18 := b2i_n c18
      rw [if_pos c18] at hw
      refine lv_aload_n hx hb dX6_channels_21 rfl (lv_at hl 0 rfl) ?_
      refine lv_iload_n hx hb dX6_channels_22 rfl (lv_at hl 1 rfl) ?_
      refine lv_iload_n hx hb dX6_channels_23 rfl (lv_at hl 2 rfl) ?_
      refine lv_bipush (v := 7) hx hb dX6_channels_24 (by decide) ?_
      refine q_call (va_runV (As := [.int x1, .int x2, .int 7]) (rest := []) ⟨hx, hb, hml, hown, hts⟩ (c_X6_way l D cy b0 S15 x1 x2 7 _ hw) (cwV 3 hts gX6_channels_X6_way rfl rfl rfl (by decide +kernel) ⟨(Nat.le_of_ble_eq_true rfl), (Nat.le_of_ble_eq_true rfl)⟩) (q_pV hW hP hF hS (k := 367) (ci := 6) (by decide) (cell_6 (kk_367)) rfl [.int x1, .int x2, .int 7]) rfl rfl hl.1 rfl (lv_room (Nat.le_of_ble_eq_true rfl)) dX6_channels_26 ⟨(Nat.le_of_ble_eq_true rfl), (Nat.le_of_ble_eq_true rfl)⟩) hS (fun v26 S26 t26 H locs hh hp hB hz hk9 hS => ?_)
      obtain ⟨r26, rfl, hw⟩ := hp
      have hP : HP D cy b0 NALL S26 H := by rw [← hh]; exact hB.1
      have hF := hB.2
      try dsimp only at hw
      refine W.eq (g2 := F0 m 29 ls [.int r26]) rfl ?_
      refine lv_goto (tgt := 33) hx hb dX6_channels_29 (by decide) ?_
      exact q_iret hx hb hr hP hF hS hw dX6_channels_33 hlocks
  unfold wp_X6_channels at hw
  refine lv_aload_n hx hb dX6_channels_0 rfl (lv_at hl 0 rfl) ?_
  refine lv_aload_n hx hb dX6_channels_1 rfl (lv_at hl 0 rfl) ?_
  refine lv_iload_n hx hb dX6_channels_2 rfl (lv_at hl 1 rfl) ?_
  refine lv_iload_n hx hb dX6_channels_3 rfl (lv_at hl 2 rfl) ?_
  refine q_call (va_runV (As := [.int x1, .int x2]) (rest := [.ref (b0 + 367)]) ⟨hx, hb, hml, hown, hts⟩ (c_X6_isWay l D cy b0 S x1 x2 _ hw) (cwV 2 hts gX6_channels_X6_isWay rfl rfl rfl (by decide +kernel) ⟨(Nat.le_of_ble_eq_true rfl), (Nat.le_of_ble_eq_true rfl)⟩) (q_pV hW hP hF hS (k := 367) (ci := 6) (by decide) (cell_6 (kk_367)) rfl [.int x1, .int x2]) rfl rfl hl.1 rfl (lv_room (Nat.le_of_ble_eq_true rfl)) dX6_channels_4 ⟨(Nat.le_of_ble_eq_true rfl), (Nat.le_of_ble_eq_true rfl)⟩) hS (fun v4 S4 t4 H locs hh hp hB hz hk9 hS => ?_)
  obtain ⟨r4, rfl, hw⟩ := hp
  have hP : HP D cy b0 NALL S4 H := by rw [← hh]; exact hB.1
  have hF := hB.2
  try dsimp only at hw
  refine W.eq (g2 := F0 m 7 ls [.int (b2i r4), .ref (b0 + 367)]) rfl ?_
  refine lv_if_eq (x := b2i r4) (tgt := 14) hx hb dX6_channels_7 (by decide) (fun c7 => ?_) (fun c7 => ?_)
  · have c7 := b2i_z c7
    rw [if_neg c7] at hw
    refine lv_iconst (v := 1) hx hb dX6_channels_14 (by decide) ?_
    exact j15 S4 true  _ _ _ hw hP hF hS (lv_sub hl [0, 1, 2] rfl)
  · have c7 := b2i_n c7
    rw [if_pos c7] at hw
    refine lv_iconst (v := 0) hx hb dX6_channels_10 (by decide) ?_
    refine lv_goto (tgt := 15) hx hb dX6_channels_11 (by decide) ?_
    exact j15 S4 false  _ _ _ hw hP hF hS (lv_sub hl [0, 1, 2] rfl)
set_option maxHeartbeats 4000000 in
set_option maxRecDepth 100000 in
theorem c_X6_channel (l : Launch) (D : va_G) (cy : Nat → ClassId) (b0 : Nat) (S : St) (x1 : Int32) (x2 : Int32) (x3 : Int32)  (P : Int32 → St → Prop) (hw : wp_X6_channel S x1 x2 x3 P) : Met l yX6_channel wsX6_channel rm_X6_channel (va_Pc [.ref (b0 + 367), .int x1, .int x2, .int x3] (Wd D cy b0 NALL S)) (QC (Pi P) (Wb D cy b0 NALL) b0) 0 0 (AA b0) := by
  refine Met.ofW (cc := cX6_channel) (maxL := 4) (ret := (some .int)) (by decide) rfl ?_
  intro p e s m args below meth c s₁ B hml hv
  obtain ⟨hargs, hW, hP, hF⟩ := hv
  have hx := B.exec
  have hb := B.bytes
  have hr := B.returns
  have hts := atoms_spec (ws := wsX6_channel) B.pre
  have hown : s.vm.findClass RX6 = some m.cls := findClass_of_methodNamed B.named
  have hlocks := B.notSynchronized
  have hK := hW.1
  have hS : va_S (AA b0) s.heap s.heap [] := va_S.rf
  have hE : entryFrame m args 4 = F0 m 0 ((lg_sl [.ref (b0 + 367), .int x1, .int x2, .int x3] ++ List.replicate (4 - (lg_sl [.ref (b0 + 367), .int x1, .int x2, .int x3]).length) Slot.unset).toArray) [] := by rw [hargs]; exact lg_entry_eq m _ _
  rw [hE]
  have hl := lv_entry [.ref (b0 + 367), .int x1, .int x2, .int x3] (n := 4) (Nat.le_of_ble_eq_true rfl)
  generalize (lg_sl [.ref (b0 + 367), .int x1, .int x2, .int x3] ++ List.replicate (4 - (lg_sl [.ref (b0 + 367), .int x1, .int x2, .int x3]).length) Slot.unset).toArray = ls at hl ⊢
  have hl : lv_has ls 4 [(0, .ref (b0 + 367)), (1, .int x1), (2, .int x2), (3, .int x3)] := hl
  have j33 : ∀ (S : St) (t1 : Bool), ∀ (H : Heap) (locs : List Loc) (ls : Array Slot), wp_X6_channel_33 x1 x2 x3 P S t1 → HP D cy b0 NALL S H → Fx S → va_S (AA b0) s.heap H locs → lv_has ls 4 [(0, .ref (b0 + 367)), (1, .int x1), (2, .int x2), (3, .int x3)] → W p l e rm_X6_channel s m args below meth c H locs 0 0 (MQ below (QC (Pi P) (Wb D cy b0 NALL) b0) args s 0 0 (AA b0)) (F0 m 33 ls [.int (b2i t1), .ref (b0 + 367)]) := by
    intro S t1  H locs ls hw hP hF hS hl
    unfold wp_X6_channel_33 at hw
    refine q_call (va_runV (As := [.int (b2i t1)]) (rest := []) ⟨hx, hb, hml, hown, hts⟩ (c_X6_holds l D cy b0 S (b2i t1) _ hw) (cwV 1 hts gX6_channel_X6_holds rfl rfl rfl (by decide +kernel) ⟨(Nat.le_of_ble_eq_true rfl), (Nat.le_of_ble_eq_true rfl)⟩) (q_pV hW hP hF hS (k := 367) (ci := 6) (by decide) (cell_6 (kk_367)) rfl [.int (b2i t1)]) rfl rfl hl.1 rfl (lv_room (Nat.le_of_ble_eq_true rfl)) dX6_channel_33 ⟨(Nat.le_of_ble_eq_true rfl), (Nat.le_of_ble_eq_true rfl)⟩) hS (fun v33 S33 t33 H locs hh hp hB hz hk9 hS => ?_)
    obtain ⟨r33, rfl, hw⟩ := hp
    have hP : HP D cy b0 NALL S33 H := by rw [← hh]; exact hB.1
    have hF := hB.2
    try dsimp only at hw
    refine W.eq (g2 := F0 m 36 ls [.int (b2i r33)]) rfl ?_
    refine lv_if_eq (x := b2i r33) (tgt := 49) hx hb dX6_channel_36 (by decide) (fun c36 => ?_) (fun c36 => ?_)
    · have c36 := b2i_z c36
      rw [if_neg c36] at hw
      refine lv_iconst (v := 0) hx hb dX6_channel_49 (by decide) ?_
      exact q_iret hx hb hr hP hF hS hw dX6_channel_50 hlocks
    · have c36 := b2i_n c36
      rw [if_pos c36] at hw
      refine lv_aload_n hx hb dX6_channel_39 rfl (lv_at hl 0 rfl) ?_
      refine lv_iload_n hx hb dX6_channel_40 rfl (lv_at hl 1 rfl) ?_
      refine lv_iload_n hx hb dX6_channel_41 rfl (lv_at hl 2 rfl) ?_
      refine lv_iload_n hx hb dX6_channel_42 rfl (lv_at hl 3 rfl) ?_
      refine q_call (va_runV (As := [.int x1, .int x2, .int x3]) (rest := []) ⟨hx, hb, hml, hown, hts⟩ (c_X6_way l D cy b0 S33 x1 x2 x3 _ hw) (cwV 3 hts gX6_channel_X6_way rfl rfl rfl (by decide +kernel) ⟨(Nat.le_of_ble_eq_true rfl), (Nat.le_of_ble_eq_true rfl)⟩) (q_pV hW hP hF hS (k := 367) (ci := 6) (by decide) (cell_6 (kk_367)) rfl [.int x1, .int x2, .int x3]) rfl rfl hl.1 rfl (lv_room (Nat.le_of_ble_eq_true rfl)) dX6_channel_43 ⟨(Nat.le_of_ble_eq_true rfl), (Nat.le_of_ble_eq_true rfl)⟩) hS (fun v43 S43 t43 H locs hh hp hB hz hk9 hS => ?_)
      obtain ⟨r43, rfl, hw⟩ := hp
      have hP : HP D cy b0 NALL S43 H := by rw [← hh]; exact hB.1
      have hF := hB.2
      try dsimp only at hw
      refine W.eq (g2 := F0 m 46 ls [.int r43]) rfl ?_
      refine lv_goto (tgt := 50) hx hb dX6_channel_46 (by decide) ?_
      exact q_iret hx hb hr hP hF hS hw dX6_channel_50 hlocks
  have j32 : ∀ (S : St) , ∀ (H : Heap) (locs : List Loc) (ls : Array Slot), wp_X6_channel_32 x1 x2 x3 P S → HP D cy b0 NALL S H → Fx S → va_S (AA b0) s.heap H locs → lv_has ls 4 [(0, .ref (b0 + 367)), (1, .int x1), (2, .int x2), (3, .int x3)] → W p l e rm_X6_channel s m args below meth c H locs 0 0 (MQ below (QC (Pi P) (Wb D cy b0 NALL) b0) args s 0 0 (AA b0)) (F0 m 32 ls [.ref (b0 + 367)]) := by
    intro S  H locs ls hw hP hF hS hl
    unfold wp_X6_channel_32 at hw
    refine lv_iconst (v := 1) hx hb dX6_channel_32 (by decide) ?_
    exact j33 S true  _ _ _ hw hP hF hS (lv_sub hl [0, 1, 2, 3] rfl)
  unfold wp_X6_channel at hw
  refine lv_aload_n hx hb dX6_channel_0 rfl (lv_at hl 0 rfl) ?_
  refine lv_aload_n hx hb dX6_channel_1 rfl (lv_at hl 0 rfl) ?_
  refine lv_iload_n hx hb dX6_channel_2 rfl (lv_at hl 1 rfl) ?_
  refine lv_iload_n hx hb dX6_channel_3 rfl (lv_at hl 2 rfl) ?_
  refine q_call (va_runV (As := [.int x1, .int x2]) (rest := [.ref (b0 + 367)]) ⟨hx, hb, hml, hown, hts⟩ (c_X6_isWay l D cy b0 S x1 x2 _ hw) (cwV 2 hts gX6_channel_X6_isWay rfl rfl rfl (by decide +kernel) ⟨(Nat.le_of_ble_eq_true rfl), (Nat.le_of_ble_eq_true rfl)⟩) (q_pV hW hP hF hS (k := 367) (ci := 6) (by decide) (cell_6 (kk_367)) rfl [.int x1, .int x2]) rfl rfl hl.1 rfl (lv_room (Nat.le_of_ble_eq_true rfl)) dX6_channel_4 ⟨(Nat.le_of_ble_eq_true rfl), (Nat.le_of_ble_eq_true rfl)⟩) hS (fun v4 S4 t4 H locs hh hp hB hz hk9 hS => ?_)
  obtain ⟨r4, rfl, hw⟩ := hp
  have hP : HP D cy b0 NALL S4 H := by rw [← hh]; exact hB.1
  have hF := hB.2
  try dsimp only at hw
  refine W.eq (g2 := F0 m 7 ls [.int (b2i r4), .ref (b0 + 367)]) rfl ?_
  refine lv_if_eq (x := b2i r4) (tgt := 32) hx hb dX6_channel_7 (by decide) (fun c7 => ?_) (fun c7 => ?_)
  · have c7 := b2i_z c7
    rw [if_neg c7] at hw
    exact j32 S4  _ _ _ hw hP hF hS (lv_sub hl [0, 1, 2, 3] rfl)
  · have c7 := b2i_n c7
    rw [if_pos c7] at hw
    refine lv_iload_n hx hb dX6_channel_10 rfl (lv_at hl 3 rfl) ?_
    refine lv_iconst (v := 0) hx hb dX6_channel_11 (by decide) ?_
    refine lv_aload_n hx hb dX6_channel_12 rfl (lv_at hl 0 rfl) ?_
    refine lv_iload_n hx hb dX6_channel_13 rfl (lv_at hl 1 rfl) ?_
    refine lv_iload_n hx hb dX6_channel_14 rfl (lv_at hl 2 rfl) ?_
    refine lv_bipush (v := 7) hx hb dX6_channel_15 (by decide) ?_
    refine q_call (va_runV (As := [.int x1, .int x2, .int 7]) (rest := [.int 0, .int x3, .ref (b0 + 367)]) ⟨hx, hb, hml, hown, hts⟩ (c_X6_way l D cy b0 S4 x1 x2 7 _ hw) (cwV 3 hts gX6_channel_X6_way rfl rfl rfl (by decide +kernel) ⟨(Nat.le_of_ble_eq_true rfl), (Nat.le_of_ble_eq_true rfl)⟩) (q_pV hW hP hF hS (k := 367) (ci := 6) (by decide) (cell_6 (kk_367)) rfl [.int x1, .int x2, .int 7]) rfl rfl hl.1 rfl (lv_room (Nat.le_of_ble_eq_true rfl)) dX6_channel_17 ⟨(Nat.le_of_ble_eq_true rfl), (Nat.le_of_ble_eq_true rfl)⟩) hS (fun v17 S17 t17 H locs hh hp hB hz hk9 hS => ?_)
    obtain ⟨r17, rfl, hw⟩ := hp
    have hP : HP D cy b0 NALL S17 H := by rw [← hh]; exact hB.1
    have hF := hB.2
    try dsimp only at hw
    refine W.eq (g2 := F0 m 20 ls [.int r17, .int 0, .int x3, .ref (b0 + 367)]) rfl ?_
    refine lv_iconst (v := 1) hx hb dX6_channel_20 (by decide) ?_
    refine lv_isub hx hb dX6_channel_21 ?_
    refine q_call (va_runS (As := [.int x3, .int 0, .int (r17 - 1)]) (rest := [.ref (b0 + 367)]) ⟨hx, hb, hml, hown, hts⟩ (c_X6_in l D cy b0 S17 x3 0 (r17 - 1) _ hw) (va_cwS 3 hts gX6_channel_X6_in rfl rfl rfl (by decide +kernel) ⟨(Nat.le_of_ble_eq_true rfl), (Nat.le_of_ble_eq_true rfl)⟩) (q_pS hW hP hF hS [.int x3, .int 0, .int (r17 - 1)]) rfl rfl hl.1 rfl (lv_room (Nat.le_of_ble_eq_true rfl)) dX6_channel_22 ⟨(Nat.le_of_ble_eq_true rfl), (Nat.le_of_ble_eq_true rfl)⟩) hS (fun v22 S22 t22 H locs hh hp hB hz hk9 hS => ?_)
    obtain ⟨r22, rfl, hw⟩ := hp
    have hP : HP D cy b0 NALL S22 H := by rw [← hh]; exact hB.1
    have hF := hB.2
    try dsimp only at hw
    refine W.eq (g2 := F0 m 25 ls [.int (b2i r22), .ref (b0 + 367)]) rfl ?_
    refine lv_if_eq (x := b2i r22) (tgt := 32) hx hb dX6_channel_25 (by decide) (fun c25 => ?_) (fun c25 => ?_)
    · have c25 := b2i_z c25
      rw [if_neg c25] at hw
      exact j32 S22  _ _ _ hw hP hF hS (lv_sub hl [0, 1, 2, 3] rfl)
    · have c25 := b2i_n c25
      rw [if_pos c25] at hw
      refine lv_iconst (v := 0) hx hb dX6_channel_28 (by decide) ?_
      refine lv_goto (tgt := 33) hx hb dX6_channel_29 (by decide) ?_
      exact j33 S22 false  _ _ _ hw hP hF hS (lv_sub hl [0, 1, 2, 3] rfl)
set_option maxHeartbeats 4000000 in
set_option maxRecDepth 100000 in
theorem c_X6_reroute (l : Launch) (D : va_G) (cy : Nat → ClassId) (b0 : Nat) (S : St) (x1 : Int32)  (P : Int32 → St → Prop) (hw : wp_X6_reroute S x1 P) : Met l yX6_reroute wsX6_reroute rm_X6_reroute (va_Pc [.ref (b0 + 367), .int x1] (Wd D cy b0 NALL S)) (QC (Pi P) (Wb D cy b0 NALL) b0) 0 0 (AA b0) := by
  refine Met.ofW (cc := cX6_reroute) (maxL := 3) (ret := (some .int)) (by decide) rfl ?_
  intro p e s m args below meth c s₁ B hml hv
  obtain ⟨hargs, hW, hP, hF⟩ := hv
  have hx := B.exec
  have hb := B.bytes
  have hr := B.returns
  have hts := atoms_spec (ws := wsX6_reroute) B.pre
  have hown : s.vm.findClass RX6 = some m.cls := findClass_of_methodNamed B.named
  have hlocks := B.notSynchronized
  have hK := hW.1
  have hS : va_S (AA b0) s.heap s.heap [] := va_S.rf
  have hE : entryFrame m args 3 = F0 m 0 ((lg_sl [.ref (b0 + 367), .int x1] ++ List.replicate (3 - (lg_sl [.ref (b0 + 367), .int x1]).length) Slot.unset).toArray) [] := by rw [hargs]; exact lg_entry_eq m _ _
  rw [hE]
  have hl := lv_entry [.ref (b0 + 367), .int x1] (n := 3) (Nat.le_of_ble_eq_true rfl)
  generalize (lg_sl [.ref (b0 + 367), .int x1] ++ List.replicate (3 - (lg_sl [.ref (b0 + 367), .int x1]).length) Slot.unset).toArray = ls at hl ⊢
  have hl : lv_has ls 3 [(0, .ref (b0 + 367)), (1, .int x1)] := hl
  have j69 : ∀ (S : St) (t1 : Int32), ∀ (H : Heap) (locs : List Loc) (ls : Array Slot), wp_X6_reroute_69 x1 P S t1 → HP D cy b0 NALL S H → Fx S → va_S (AA b0) s.heap H locs → lv_has ls 3 [(0, .ref (b0 + 367)), (1, .int x1)] → W p l e rm_X6_reroute s m args below meth c H locs 0 0 (MQ below (QC (Pi P) (Wb D cy b0 NALL) b0) args s 0 0 (AA b0)) (F0 m 69 ls [.int t1, .ref (b0 + 367)]) := by
    intro S t1  H locs ls hw hP hF hS hl
    unfold wp_X6_reroute_69 at hw
    refine q_call (va_runV (As := [.int t1]) (rest := []) ⟨hx, hb, hml, hown, hts⟩ (c_X6_holds l D cy b0 S t1 _ hw) (cwV 1 hts gX6_reroute_X6_holds rfl rfl rfl (by decide +kernel) ⟨(Nat.le_of_ble_eq_true rfl), (Nat.le_of_ble_eq_true rfl)⟩) (q_pV hW hP hF hS (k := 367) (ci := 6) (by decide) (cell_6 (kk_367)) rfl [.int t1]) rfl rfl hl.1 rfl (lv_room (Nat.le_of_ble_eq_true rfl)) dX6_reroute_69 ⟨(Nat.le_of_ble_eq_true rfl), (Nat.le_of_ble_eq_true rfl)⟩) hS (fun v69 S69 t69 H locs hh hp hB hz hk9 hS => ?_)
    obtain ⟨r69, rfl, hw⟩ := hp
    have hP : HP D cy b0 NALL S69 H := by rw [← hh]; exact hB.1
    have hF := hB.2
    try dsimp only at hw
    refine W.eq (g2 := F0 m 72 ls [.int (b2i r69)]) rfl ?_
    refine lv_if_ne (x := b2i r69) (tgt := 77) hx hb dX6_reroute_72 (by decide) (fun c72 => ?_) (fun c72 => ?_)
    · have c72 := b2i_n c72
      rw [if_pos c72] at hw
      refine lv_aload_n hx hb dX6_reroute_77 rfl (lv_at hl 0 rfl) ?_
      refine lv_iload_n hx hb dX6_reroute_78 rfl (lv_at hl 1 rfl) ?_
      refine lv_iconst (v := 0) hx hb dX6_reroute_79 (by decide) ?_
      refine lv_iconst (v := (-1)) hx hb dX6_reroute_80 (by decide) ?_
      refine q_call (va_runV (As := [.int x1, .int 0, .int (-1)]) (rest := []) ⟨hx, hb, hml, hown, hts⟩ (c_X6_uses l D cy b0 S69 x1 0 (-1) _ hw) (cwV 3 hts gX6_reroute_X6_uses rfl rfl rfl (by decide +kernel) ⟨(Nat.le_of_ble_eq_true rfl), (Nat.le_of_ble_eq_true rfl)⟩) (q_pV hW hP hF hS (k := 367) (ci := 6) (by decide) (cell_6 (kk_367)) rfl [.int x1, .int 0, .int (-1)]) rfl rfl hl.1 rfl (lv_room (Nat.le_of_ble_eq_true rfl)) dX6_reroute_81 ⟨(Nat.le_of_ble_eq_true rfl), (Nat.le_of_ble_eq_true rfl)⟩) hS (fun v81 S81 t81 H locs hh hp hB hz hk9 hS => ?_)
      obtain ⟨rfl, hw⟩ := hp
      have hP : HP D cy b0 NALL S81 H := by rw [← hh]; exact hB.1
      have hF := hB.2
      try dsimp only at hw
      refine W.eq (g2 := F0 m 84 ls []) rfl ?_
      refine lv_aload_n hx hb dX6_reroute_84 rfl (lv_at hl 0 rfl) ?_
      refine lv_iload_n hx hb dX6_reroute_85 rfl (lv_at hl 1 rfl) ?_
      refine lv_iconst (v := 0) hx hb dX6_reroute_86 (by decide) ?_
      refine lv_aload_n hx hb dX6_reroute_87 rfl (lv_at hl 0 rfl) ?_
      refine gf_6_22 (k := 367) hx hb hts (by decide +kernel) hown hK hP (by decide) (kk_367) (q := 384) (hF.1 367 22 384 ff_367_22) (hts (.fieldLink RX6 66 "OpticmeshModel" "best" "[I") (by decide +kernel)) dX6_reroute_88 ?_
      refine q_call (va_runV (As := [.int x1, .int 0, .ref (b0 + 384)]) (rest := []) ⟨hx, hb, hml, hown, hts⟩ (c_X6_gets l D cy b0 S81 x1 0 384 (kk_384) (ll_384) _ hw) (cwV 3 hts gX6_reroute_X6_gets rfl rfl rfl (by decide +kernel) ⟨(Nat.le_of_ble_eq_true rfl), (Nat.le_of_ble_eq_true rfl)⟩) (q_pV hW hP hF hS (k := 367) (ci := 6) (by decide) (cell_6 (kk_367)) rfl [.int x1, .int 0, .ref (b0 + 384)]) rfl rfl hl.1 rfl (lv_room (Nat.le_of_ble_eq_true rfl)) dX6_reroute_91 ⟨(Nat.le_of_ble_eq_true rfl), (Nat.le_of_ble_eq_true rfl)⟩) hS (fun v91 S91 t91 H locs hh hp hB hz hk9 hS => ?_)
      obtain ⟨rfl, hw⟩ := hp
      have hP : HP D cy b0 NALL S91 H := by rw [← hh]; exact hB.1
      have hF := hB.2
      try dsimp only at hw
      refine W.eq (g2 := F0 m 94 ls []) rfl ?_
      refine lv_aload_n hx hb dX6_reroute_94 rfl (lv_at hl 0 rfl) ?_
      refine gf_6_22 (k := 367) hx hb hts (by decide +kernel) hown hK hP (by decide) (kk_367) (q := 384) (hF.1 367 22 384 ff_367_22) (hts (.fieldLink RX6 66 "OpticmeshModel" "best" "[I") (by decide +kernel)) dX6_reroute_95 ?_
      refine lv_bipush (v := 8) hx hb dX6_reroute_98 (by decide) ?_
      obtain ⟨h100, hw⟩ := hw
      refine q_iald (k := 384) (n := 10) (i := 8) hx hb hK hP (by decide) (kk_384) (ll_384) h100 dX6_reroute_100 ?_
      exact q_iret hx hb hr hP hF hS hw dX6_reroute_101 hlocks
    · have c72 := b2i_z c72
      rw [if_neg c72] at hw
      refine lv_iconst (v := 0) hx hb dX6_reroute_75 (by decide) ?_
      exact q_iret hx hb hr hP hF hS hw dX6_reroute_76 hlocks
  have j46 : ∀ (S : St) (t0 : Bool), ∀ (H : Heap) (locs : List Loc) (ls : Array Slot), wp_X6_reroute_46 x1 P S t0 → HP D cy b0 NALL S H → Fx S → va_S (AA b0) s.heap H locs → lv_has ls 3 [(0, .ref (b0 + 367)), (1, .int x1)] → W p l e rm_X6_reroute s m args below meth c H locs 0 0 (MQ below (QC (Pi P) (Wb D cy b0 NALL) b0) args s 0 0 (AA b0)) (F0 m 46 ls [.int (b2i t0)]) := by
    intro S t0  H locs ls hw hP hF hS hl
    unfold wp_X6_reroute_46 at hw
    refine lv_istore_n (lv' := [(2, .int (b2i t0)), (0, .ref (b0 + 367)), (1, .int x1)]) hx hb dX6_reroute_46 rfl hl (by decide) rfl (fun ls hl => ?_)
    refine lv_aload_n hx hb dX6_reroute_47 rfl (lv_at hl 1 rfl) ?_
    refine lv_aload_n hx hb dX6_reroute_48 rfl (lv_at hl 1 rfl) ?_
    refine lv_iload_n hx hb dX6_reroute_49 rfl (lv_at hl 2 rfl) ?_
    refine q_call (va_runV (As := [.int x1]) (rest := [.ref (b0 + 367)]) ⟨hx, hb, hml, hown, hts⟩ (c_X6_isLight l D cy b0 S x1 _ hw) (cwV 1 hts gX6_reroute_X6_isLight rfl rfl rfl (by decide +kernel) ⟨(Nat.le_of_ble_eq_true rfl), (Nat.le_of_ble_eq_true rfl)⟩) (q_pV hW hP hF hS (k := 367) (ci := 6) (by decide) (cell_6 (kk_367)) rfl [.int x1]) rfl rfl hl.1 rfl (lv_room (Nat.le_of_ble_eq_true rfl)) dX6_reroute_50 ⟨(Nat.le_of_ble_eq_true rfl), (Nat.le_of_ble_eq_true rfl)⟩) hS (fun v50 S50 t50 H locs hh hp hB hz hk9 hS => ?_)
    obtain ⟨r50, rfl, hw⟩ := hp
    have hP : HP D cy b0 NALL S50 H := by rw [← hh]; exact hB.1
    have hF := hB.2
    try dsimp only at hw
    refine W.eq (g2 := F0 m 53 ls [.int (b2i r50), .ref (b0 + 367)]) rfl ?_
    refine lv_if_ne (x := b2i r50) (tgt := 60) hx hb dX6_reroute_53 (by decide) (fun c53 => ?_) (fun c53 => ?_)
    · have c53 := b2i_n c53
      rw [if_pos c53] at hw
      refine lv_iload_n hx hb dX6_reroute_60 rfl (lv_at hl 0 rfl) ?_
      refine lv_if_eq (x := b2i t0) (tgt := 68) hx hb dX6_reroute_61 (by decide) (fun c61 => ?_) (fun c61 => ?_)
      · have c61 := b2i_z c61
        rw [if_neg c61] at hw
        refine lv_iconst (v := 2) hx hb dX6_reroute_68 (by decide) ?_
        exact j69 S50 2  _ _ _ hw hP hF hS (lv_sub hl [1, 2] rfl)
      · have c61 := b2i_n c61
        rw [if_pos c61] at hw
        refine lv_iconst (v := 0) hx hb dX6_reroute_64 (by decide) ?_
        refine lv_goto (tgt := 69) hx hb dX6_reroute_65 (by decide) ?_
        exact j69 S50 0  _ _ _ hw hP hF hS (lv_sub hl [1, 2] rfl)
    · have c53 := b2i_z c53
      rw [if_neg c53] at hw
      refine lv_iconst (v := 1) hx hb dX6_reroute_56 (by decide) ?_
      refine lv_goto (tgt := 69) hx hb dX6_reroute_57 (by decide) ?_
      exact j69 S50 1  _ _ _ hw hP hF hS (lv_sub hl [1, 2] rfl)
  have j45 : ∀ (S : St) , ∀ (H : Heap) (locs : List Loc) (ls : Array Slot), wp_X6_reroute_45 x1 P S → HP D cy b0 NALL S H → Fx S → va_S (AA b0) s.heap H locs → lv_has ls 3 [(0, .ref (b0 + 367)), (1, .int x1)] → W p l e rm_X6_reroute s m args below meth c H locs 0 0 (MQ below (QC (Pi P) (Wb D cy b0 NALL) b0) args s 0 0 (AA b0)) (F0 m 45 ls []) := by
    intro S  H locs ls hw hP hF hS hl
    unfold wp_X6_reroute_45 at hw
    refine lv_iconst (v := 0) hx hb dX6_reroute_45 (by decide) ?_
    exact j46 S false  _ _ _ hw hP hF hS (lv_sub hl [0, 1] rfl)
  unfold wp_X6_reroute at hw
  refine lv_aload_n hx hb dX6_reroute_0 rfl (lv_at hl 0 rfl) ?_
  refine lv_iload_n hx hb dX6_reroute_1 rfl (lv_at hl 1 rfl) ?_
  refine q_call (va_runV (As := [.int x1]) (rest := []) ⟨hx, hb, hml, hown, hts⟩ (c_X6_isLight l D cy b0 S x1 _ hw) (cwV 1 hts gX6_reroute_X6_isLight rfl rfl rfl (by decide +kernel) ⟨(Nat.le_of_ble_eq_true rfl), (Nat.le_of_ble_eq_true rfl)⟩) (q_pV hW hP hF hS (k := 367) (ci := 6) (by decide) (cell_6 (kk_367)) rfl [.int x1]) rfl rfl hl.1 rfl (lv_room (Nat.le_of_ble_eq_true rfl)) dX6_reroute_2 ⟨(Nat.le_of_ble_eq_true rfl), (Nat.le_of_ble_eq_true rfl)⟩) hS (fun v2 S2 t2 H locs hh hp hB hz hk9 hS => ?_)
  obtain ⟨r2, rfl, hw⟩ := hp
  have hP : HP D cy b0 NALL S2 H := by rw [← hh]; exact hB.1
  have hF := hB.2
  try dsimp only at hw
  refine W.eq (g2 := F0 m 5 ls [.int (b2i r2)]) rfl ?_
  refine lv_if_eq (x := b2i r2) (tgt := 45) hx hb dX6_reroute_5 (by decide) (fun c5 => ?_) (fun c5 => ?_)
  · have c5 := b2i_z c5
    rw [if_neg c5] at hw
    exact j45 S2  _ _ _ hw hP hF hS (lv_sub hl [0, 1] rfl)
  · have c5 := b2i_n c5
    rw [if_pos c5] at hw
    refine lv_aload_n hx hb dX6_reroute_8 rfl (lv_at hl 0 rfl) ?_
    refine gf_6_16 (k := 367) hx hb hts (by decide +kernel) hown hK hP (by decide) (kk_367) (q := 378) (hF.1 367 16 378 ff_367_16) (hts (.fieldLink RX6 48 "OpticmeshModel" "ways" "[I") (by decide +kernel)) dX6_reroute_9 ?_
    refine lv_iload_n hx hb dX6_reroute_12 rfl (lv_at hl 1 rfl) ?_
    obtain ⟨h13, hw⟩ := hw
    refine q_iald (k := 378) (n := 60) (i := x1) hx hb hK hP (by decide) (kk_378) (ll_378) h13 dX6_reroute_13 ?_
    refine lv_iconst (v := 1) hx hb dX6_reroute_14 (by decide) ?_
    refine lv_icmp_ne (x := (gI S2 378 (x1.toNatClampNeg))) (y := 1) (tgt := 45) hx hb dX6_reroute_15 (by decide) (fun c15 => ?_) (fun c15 => ?_)
    · rw [if_neg c15] at hw
      exact j45 S2  _ _ _ hw hP hF hS (lv_sub hl [0, 1] rfl)
    · rw [if_pos c15] at hw
      refine lv_aload_n hx hb dX6_reroute_18 rfl (lv_at hl 0 rfl) ?_
      refine lv_aload_n hx hb dX6_reroute_19 rfl (lv_at hl 0 rfl) ?_
      refine gf_6_14 (k := 367) hx hb hts (by decide +kernel) hown hK hP (by decide) (kk_367) (q := 376) (hF.1 367 14 376 ff_367_14) (hts (.fieldLink RX6 42 "OpticmeshModel" "starts" "[I") (by decide +kernel)) dX6_reroute_20 ?_
      refine lv_iload_n hx hb dX6_reroute_23 rfl (lv_at hl 1 rfl) ?_
      obtain ⟨h24, hw⟩ := hw
      refine q_iald (k := 376) (n := 60) (i := x1) hx hb hK hP (by decide) (kk_376) (ll_376) h24 dX6_reroute_24 ?_
      refine lv_aload_n hx hb dX6_reroute_25 rfl (lv_at hl 0 rfl) ?_
      refine gf_6_15 (k := 367) hx hb hts (by decide +kernel) hown hK hP (by decide) (kk_367) (q := 377) (hF.1 367 15 377 ff_367_15) (hts (.fieldLink RX6 45 "OpticmeshModel" "ends" "[I") (by decide +kernel)) dX6_reroute_26 ?_
      refine lv_iload_n hx hb dX6_reroute_29 rfl (lv_at hl 1 rfl) ?_
      obtain ⟨h30, hw⟩ := hw
      refine q_iald (k := 377) (n := 60) (i := x1) hx hb hK hP (by decide) (kk_377) (ll_377) h30 dX6_reroute_30 ?_
      refine lv_iload_n hx hb dX6_reroute_31 rfl (lv_at hl 1 rfl) ?_
      refine lv_sipush (v := 255) hx hb dX6_reroute_32 (by decide) ?_
      refine q_call (va_runV (As := [.int (gI S2 376 (x1.toNatClampNeg)), .int (gI S2 377 (x1.toNatClampNeg)), .int x1, .int 255]) (rest := []) ⟨hx, hb, hml, hown, hts⟩ (c_X6_finds l D cy b0 S2 (gI S2 376 (x1.toNatClampNeg)) (gI S2 377 (x1.toNatClampNeg)) x1 255 _ hw) (cwV 4 hts gX6_reroute_X6_finds rfl rfl rfl (by decide +kernel) ⟨(Nat.le_of_ble_eq_true rfl), (Nat.le_of_ble_eq_true rfl)⟩) (q_pV hW hP hF hS (k := 367) (ci := 6) (by decide) (cell_6 (kk_367)) rfl [.int (gI S2 376 (x1.toNatClampNeg)), .int (gI S2 377 (x1.toNatClampNeg)), .int x1, .int 255]) rfl rfl hl.1 rfl (lv_room (Nat.le_of_ble_eq_true rfl)) dX6_reroute_35 ⟨(Nat.le_of_ble_eq_true rfl), (Nat.le_of_ble_eq_true rfl)⟩) hS (fun v35 S35 t35 H locs hh hp hB hz hk9 hS => ?_)
      obtain ⟨r35, rfl, hw⟩ := hp
      have hP : HP D cy b0 NALL S35 H := by rw [← hh]; exact hB.1
      have hF := hB.2
      try dsimp only at hw
      refine W.eq (g2 := F0 m 38 ls [.int (b2i r35)]) rfl ?_
      refine lv_if_eq (x := b2i r35) (tgt := 45) hx hb dX6_reroute_38 (by decide) (fun c38 => ?_) (fun c38 => ?_)
      · have c38 := b2i_z c38
        rw [if_neg c38] at hw
        exact j45 S35  _ _ _ hw hP hF hS (lv_sub hl [0, 1] rfl)
      · have c38 := b2i_n c38
        rw [if_pos c38] at hw
        refine lv_iconst (v := 1) hx hb dX6_reroute_41 (by decide) ?_
        refine lv_goto (tgt := 46) hx hb dX6_reroute_42 (by decide) ?_
        exact j46 S35 true  _ _ _ hw hP hF hS (lv_sub hl [0, 1] rfl)
set_option maxHeartbeats 4000000 in
set_option maxRecDepth 100000 in
theorem c_X6_areMergeable (l : Launch) (D : va_G) (cy : Nat → ClassId) (b0 : Nat) (S : St) (x1 : Int32) (x2 : Int32)  (P : Bool → St → Prop) (hw : wp_X6_areMergeable S x1 x2 P) : Met l yX6_areMergeable wsX6_areMergeable rm_X6_areMergeable (va_Pc [.ref (b0 + 367), .int x1, .int x2] (Wd D cy b0 NALL S)) (QC (Pz P) (Wb D cy b0 NALL) b0) 0 0 (AA b0) := by
  refine Met.ofW (cc := cX6_areMergeable) (maxL := 3) (ret := (some .boolean)) (by decide) rfl ?_
  intro p e s m args below meth c s₁ B hml hv
  obtain ⟨hargs, hW, hP, hF⟩ := hv
  have hx := B.exec
  have hb := B.bytes
  have hr := B.returns
  have hts := atoms_spec (ws := wsX6_areMergeable) B.pre
  have hown : s.vm.findClass RX6 = some m.cls := findClass_of_methodNamed B.named
  have hlocks := B.notSynchronized
  have hK := hW.1
  have hS : va_S (AA b0) s.heap s.heap [] := va_S.rf
  have hE : entryFrame m args 3 = F0 m 0 ((lg_sl [.ref (b0 + 367), .int x1, .int x2] ++ List.replicate (3 - (lg_sl [.ref (b0 + 367), .int x1, .int x2]).length) Slot.unset).toArray) [] := by rw [hargs]; exact lg_entry_eq m _ _
  rw [hE]
  have hl := lv_entry [.ref (b0 + 367), .int x1, .int x2] (n := 3) (Nat.le_of_ble_eq_true rfl)
  generalize (lg_sl [.ref (b0 + 367), .int x1, .int x2] ++ List.replicate (3 - (lg_sl [.ref (b0 + 367), .int x1, .int x2]).length) Slot.unset).toArray = ls at hl ⊢
  have hl : lv_has ls 3 [(0, .ref (b0 + 367)), (1, .int x1), (2, .int x2)] := hl
  unfold wp_X6_areMergeable at hw
  refine lv_aload_n hx hb dX6_areMergeable_0 rfl (lv_at hl 0 rfl) ?_
  refine lv_iload_n hx hb dX6_areMergeable_1 rfl (lv_at hl 1 rfl) ?_
  refine q_call (va_runV (As := [.int x1]) (rest := []) ⟨hx, hb, hml, hown, hts⟩ (c_X6_isUp l D cy b0 S x1 _ hw) (cwV 1 hts gX6_areMergeable_X6_isUp rfl rfl rfl (by decide +kernel) ⟨(Nat.le_of_ble_eq_true rfl), (Nat.le_of_ble_eq_true rfl)⟩) (q_pV hW hP hF hS (k := 367) (ci := 6) (by decide) (cell_6 (kk_367)) rfl [.int x1]) rfl rfl hl.1 rfl (lv_room (Nat.le_of_ble_eq_true rfl)) dX6_areMergeable_2 ⟨(Nat.le_of_ble_eq_true rfl), (Nat.le_of_ble_eq_true rfl)⟩) hS (fun v2 S2 t2 H locs hh hp hB hz hk9 hS => ?_)
  obtain ⟨r2, rfl, hw⟩ := hp
  have hP : HP D cy b0 NALL S2 H := by rw [← hh]; exact hB.1
  have hF := hB.2
  try dsimp only at hw
  refine W.eq (g2 := F0 m 5 ls [.int (b2i r2)]) rfl ?_
  refine lv_if_eq (x := b2i r2) (tgt := 76) hx hb dX6_areMergeable_5 (by decide) (fun c5 => ?_) (fun c5 => ?_)
  · have c5 := b2i_z c5
    rw [if_neg c5] at hw
    refine lv_iconst (v := 0) hx hb dX6_areMergeable_76 (by decide) ?_
    exact q_zret (v := false) hx hb hr hP hF hS hw dX6_areMergeable_77 hlocks
  · have c5 := b2i_n c5
    rw [if_pos c5] at hw
    refine lv_aload_n hx hb dX6_areMergeable_8 rfl (lv_at hl 0 rfl) ?_
    refine lv_iload_n hx hb dX6_areMergeable_9 rfl (lv_at hl 2 rfl) ?_
    refine q_call (va_runV (As := [.int x2]) (rest := []) ⟨hx, hb, hml, hown, hts⟩ (c_X6_isUp l D cy b0 S2 x2 _ hw) (cwV 1 hts gX6_areMergeable_X6_isUp rfl rfl rfl (by decide +kernel) ⟨(Nat.le_of_ble_eq_true rfl), (Nat.le_of_ble_eq_true rfl)⟩) (q_pV hW hP hF hS (k := 367) (ci := 6) (by decide) (cell_6 (kk_367)) rfl [.int x2]) rfl rfl hl.1 rfl (lv_room (Nat.le_of_ble_eq_true rfl)) dX6_areMergeable_10 ⟨(Nat.le_of_ble_eq_true rfl), (Nat.le_of_ble_eq_true rfl)⟩) hS (fun v10 S10 t10 H locs hh hp hB hz hk9 hS => ?_)
    obtain ⟨r10, rfl, hw⟩ := hp
    have hP : HP D cy b0 NALL S10 H := by rw [← hh]; exact hB.1
    have hF := hB.2
    try dsimp only at hw
    refine W.eq (g2 := F0 m 13 ls [.int (b2i r10)]) rfl ?_
    refine lv_if_eq (x := b2i r10) (tgt := 76) hx hb dX6_areMergeable_13 (by decide) (fun c13 => ?_) (fun c13 => ?_)
    · have c13 := b2i_z c13
      rw [if_neg c13] at hw
      refine lv_iconst (v := 0) hx hb dX6_areMergeable_76 (by decide) ?_
      exact q_zret (v := false) hx hb hr hP hF hS hw dX6_areMergeable_77 hlocks
    · have c13 := b2i_n c13
      rw [if_pos c13] at hw
      refine lv_aload_n hx hb dX6_areMergeable_16 rfl (lv_at hl 0 rfl) ?_
      refine gf_6_16 (k := 367) hx hb hts (by decide +kernel) hown hK hP (by decide) (kk_367) (q := 378) (hF.1 367 16 378 ff_367_16) (hts (.fieldLink RX6 48 "OpticmeshModel" "ways" "[I") (by decide +kernel)) dX6_areMergeable_17 ?_
      refine lv_iload_n hx hb dX6_areMergeable_20 rfl (lv_at hl 1 rfl) ?_
      obtain ⟨h21, hw⟩ := hw
      refine q_iald (k := 378) (n := 60) (i := x1) hx hb hK hP (by decide) (kk_378) (ll_378) h21 dX6_areMergeable_21 ?_
      refine lv_iconst (v := 1) hx hb dX6_areMergeable_22 (by decide) ?_
      refine lv_icmp_ne (x := (gI S10 378 (x1.toNatClampNeg))) (y := 1) (tgt := 76) hx hb dX6_areMergeable_23 (by decide) (fun c23 => ?_) (fun c23 => ?_)
      · rw [if_neg c23] at hw
        refine lv_iconst (v := 0) hx hb dX6_areMergeable_76 (by decide) ?_
        exact q_zret (v := false) hx hb hr hP hF hS hw dX6_areMergeable_77 hlocks
      · rw [if_pos c23] at hw
        refine lv_aload_n hx hb dX6_areMergeable_26 rfl (lv_at hl 0 rfl) ?_
        refine gf_6_16 (k := 367) hx hb hts (by decide +kernel) hown hK hP (by decide) (kk_367) (q := 378) (hF.1 367 16 378 ff_367_16) (hts (.fieldLink RX6 48 "OpticmeshModel" "ways" "[I") (by decide +kernel)) dX6_areMergeable_27 ?_
        refine lv_iload_n hx hb dX6_areMergeable_30 rfl (lv_at hl 2 rfl) ?_
        obtain ⟨h31, hw⟩ := hw
        refine q_iald (k := 378) (n := 60) (i := x2) hx hb hK hP (by decide) (kk_378) (ll_378) h31 dX6_areMergeable_31 ?_
        refine lv_iconst (v := 1) hx hb dX6_areMergeable_32 (by decide) ?_
        refine lv_icmp_ne (x := (gI S10 378 (x2.toNatClampNeg))) (y := 1) (tgt := 76) hx hb dX6_areMergeable_33 (by decide) (fun c33 => ?_) (fun c33 => ?_)
        · rw [if_neg c33] at hw
          refine lv_iconst (v := 0) hx hb dX6_areMergeable_76 (by decide) ?_
          exact q_zret (v := false) hx hb hr hP hF hS hw dX6_areMergeable_77 hlocks
        · rw [if_pos c33] at hw
          refine lv_aload_n hx hb dX6_areMergeable_36 rfl (lv_at hl 0 rfl) ?_
          refine lv_iload_n hx hb dX6_areMergeable_37 rfl (lv_at hl 1 rfl) ?_
          refine lv_aload_n hx hb dX6_areMergeable_38 rfl (lv_at hl 0 rfl) ?_
          refine gf_6_14 (k := 367) hx hb hts (by decide +kernel) hown hK hP (by decide) (kk_367) (q := 376) (hF.1 367 14 376 ff_367_14) (hts (.fieldLink RX6 42 "OpticmeshModel" "starts" "[I") (by decide +kernel)) dX6_areMergeable_39 ?_
          refine lv_iload_n hx hb dX6_areMergeable_42 rfl (lv_at hl 2 rfl) ?_
          obtain ⟨h43, hw⟩ := hw
          refine q_iald (k := 376) (n := 60) (i := x2) hx hb hK hP (by decide) (kk_376) (ll_376) h43 dX6_areMergeable_43 ?_
          refine lv_aload_n hx hb dX6_areMergeable_44 rfl (lv_at hl 0 rfl) ?_
          refine gf_6_15 (k := 367) hx hb hts (by decide +kernel) hown hK hP (by decide) (kk_367) (q := 377) (hF.1 367 15 377 ff_367_15) (hts (.fieldLink RX6 45 "OpticmeshModel" "ends" "[I") (by decide +kernel)) dX6_areMergeable_45 ?_
          refine lv_iload_n hx hb dX6_areMergeable_48 rfl (lv_at hl 2 rfl) ?_
          obtain ⟨h49, hw⟩ := hw
          refine q_iald (k := 377) (n := 60) (i := x2) hx hb hK hP (by decide) (kk_377) (ll_377) h49 dX6_areMergeable_49 ?_
          refine q_call (va_runV (As := [.int x1, .int (gI S10 376 (x2.toNatClampNeg)), .int (gI S10 377 (x2.toNatClampNeg))]) (rest := []) ⟨hx, hb, hml, hown, hts⟩ (c_X6_haveSameEnds l D cy b0 S10 x1 (gI S10 376 (x2.toNatClampNeg)) (gI S10 377 (x2.toNatClampNeg)) _ hw) (cwV 3 hts gX6_areMergeable_X6_haveSameEnds rfl rfl rfl (by decide +kernel) ⟨(Nat.le_of_ble_eq_true rfl), (Nat.le_of_ble_eq_true rfl)⟩) (q_pV hW hP hF hS (k := 367) (ci := 6) (by decide) (cell_6 (kk_367)) rfl [.int x1, .int (gI S10 376 (x2.toNatClampNeg)), .int (gI S10 377 (x2.toNatClampNeg))]) rfl rfl hl.1 rfl (lv_room (Nat.le_of_ble_eq_true rfl)) dX6_areMergeable_50 ⟨(Nat.le_of_ble_eq_true rfl), (Nat.le_of_ble_eq_true rfl)⟩) hS (fun v50 S50 t50 H locs hh hp hB hz hk9 hS => ?_)
          obtain ⟨r50, rfl, hw⟩ := hp
          have hP : HP D cy b0 NALL S50 H := by rw [← hh]; exact hB.1
          have hF := hB.2
          try dsimp only at hw
          refine W.eq (g2 := F0 m 53 ls [.int (b2i r50)]) rfl ?_
          refine lv_if_eq (x := b2i r50) (tgt := 76) hx hb dX6_areMergeable_53 (by decide) (fun c53 => ?_) (fun c53 => ?_)
          · have c53 := b2i_z c53
            rw [if_neg c53] at hw
            refine lv_iconst (v := 0) hx hb dX6_areMergeable_76 (by decide) ?_
            exact q_zret (v := false) hx hb hr hP hF hS hw dX6_areMergeable_77 hlocks
          · have c53 := b2i_n c53
            rw [if_pos c53] at hw
            refine lv_aload_n hx hb dX6_areMergeable_56 rfl (lv_at hl 0 rfl) ?_
            refine lv_iload_n hx hb dX6_areMergeable_57 rfl (lv_at hl 1 rfl) ?_
            refine q_call (va_runV (As := [.int x1]) (rest := []) ⟨hx, hb, hml, hown, hts⟩ (c_X6_carried l D cy b0 S50 x1 _ hw) (cwV 1 hts gX6_areMergeable_X6_carried rfl rfl rfl (by decide +kernel) ⟨(Nat.le_of_ble_eq_true rfl), (Nat.le_of_ble_eq_true rfl)⟩) (q_pV hW hP hF hS (k := 367) (ci := 6) (by decide) (cell_6 (kk_367)) rfl [.int x1]) rfl rfl hl.1 rfl (lv_room (Nat.le_of_ble_eq_true rfl)) dX6_areMergeable_58 ⟨(Nat.le_of_ble_eq_true rfl), (Nat.le_of_ble_eq_true rfl)⟩) hS (fun v58 S58 t58 H locs hh hp hB hz hk9 hS => ?_)
            obtain ⟨r58, rfl, hw⟩ := hp
            have hP : HP D cy b0 NALL S58 H := by rw [← hh]; exact hB.1
            have hF := hB.2
            try dsimp only at hw
            refine W.eq (g2 := F0 m 61 ls [.int r58]) rfl ?_
            refine lv_aload_n hx hb dX6_areMergeable_61 rfl (lv_at hl 0 rfl) ?_
            refine lv_iload_n hx hb dX6_areMergeable_62 rfl (lv_at hl 2 rfl) ?_
            refine q_call (va_runV (As := [.int x2]) (rest := [.int r58]) ⟨hx, hb, hml, hown, hts⟩ (c_X6_carried l D cy b0 S58 x2 _ hw) (cwV 1 hts gX6_areMergeable_X6_carried rfl rfl rfl (by decide +kernel) ⟨(Nat.le_of_ble_eq_true rfl), (Nat.le_of_ble_eq_true rfl)⟩) (q_pV hW hP hF hS (k := 367) (ci := 6) (by decide) (cell_6 (kk_367)) rfl [.int x2]) rfl rfl hl.1 rfl (lv_room (Nat.le_of_ble_eq_true rfl)) dX6_areMergeable_63 ⟨(Nat.le_of_ble_eq_true rfl), (Nat.le_of_ble_eq_true rfl)⟩) hS (fun v63 S63 t63 H locs hh hp hB hz hk9 hS => ?_)
            obtain ⟨r63, rfl, hw⟩ := hp
            have hP : HP D cy b0 NALL S63 H := by rw [← hh]; exact hB.1
            have hF := hB.2
            try dsimp only at hw
            refine W.eq (g2 := F0 m 66 ls [.int r63, .int r58]) rfl ?_
            refine lv_iadd hx hb dX6_areMergeable_66 ?_
            refine lv_bipush (v := 10) hx hb dX6_areMergeable_67 (by decide) ?_
            refine lv_icmp_gt (x := (r58 + r63)) (y := 10) (tgt := 76) hx hb dX6_areMergeable_69 (by decide) (fun c69 => ?_) (fun c69 => ?_)
            · rw [if_pos c69] at hw
              refine lv_iconst (v := 0) hx hb dX6_areMergeable_76 (by decide) ?_
              exact q_zret (v := false) hx hb hr hP hF hS hw dX6_areMergeable_77 hlocks
            · rw [if_neg c69] at hw
              refine lv_iconst (v := 1) hx hb dX6_areMergeable_72 (by decide) ?_
              refine lv_goto (tgt := 77) hx hb dX6_areMergeable_73 (by decide) ?_
              exact q_zret (v := true) hx hb hr hP hF hS hw dX6_areMergeable_77 hlocks
set_option maxHeartbeats 4000000 in
set_option maxRecDepth 100000 in
theorem c_X6_takesOver (l : Launch) (D : va_G) (cy : Nat → ClassId) (b0 : Nat) (S : St) (x1 : Int32) (x2 : Int32)  (P : St → Prop) (hw : wp_X6_takesOver S x1 x2 P) : Met l yX6_takesOver wsX6_takesOver rm_X6_takesOver (va_Pc [.ref (b0 + 367), .int x1, .int x2] (Wd D cy b0 NALL S)) (QC (Pv P) (Wb D cy b0 NALL) b0) 0 0 (AA b0) := by
  refine Met.ofW (cc := cX6_takesOver) (maxL := 4) (ret := none) (by decide) rfl ?_
  intro p e s m args below meth c s₁ B hml hv
  obtain ⟨hargs, hW, hP, hF⟩ := hv
  have hx := B.exec
  have hb := B.bytes
  have hr := B.returns
  have hts := atoms_spec (ws := wsX6_takesOver) B.pre
  have hown : s.vm.findClass RX6 = some m.cls := findClass_of_methodNamed B.named
  have hlocks := B.notSynchronized
  have hK := hW.1
  have hS : va_S (AA b0) s.heap s.heap [] := va_S.rf
  have hE : entryFrame m args 4 = F0 m 0 ((lg_sl [.ref (b0 + 367), .int x1, .int x2] ++ List.replicate (4 - (lg_sl [.ref (b0 + 367), .int x1, .int x2]).length) Slot.unset).toArray) [] := by rw [hargs]; exact lg_entry_eq m _ _
  rw [hE]
  have hl := lv_entry [.ref (b0 + 367), .int x1, .int x2] (n := 4) (Nat.le_of_ble_eq_true rfl)
  generalize (lg_sl [.ref (b0 + 367), .int x1, .int x2] ++ List.replicate (4 - (lg_sl [.ref (b0 + 367), .int x1, .int x2]).length) Slot.unset).toArray = ls at hl ⊢
  have hl : lv_has ls 4 [(0, .ref (b0 + 367)), (1, .int x1), (2, .int x2)] := hl
  have j51 : ∀ (S : St) , ∀ (H : Heap) (locs : List Loc) (ls : Array Slot), wp_X6_takesOver_51 x1 x2 P S → HP D cy b0 NALL S H → Fx S → va_S (AA b0) s.heap H locs → lv_has ls 4 [(0, .ref (b0 + 367)), (2, .int x2)] → W p l e rm_X6_takesOver s m args below meth c H locs 0 0 (MQ below (QC (Pv P) (Wb D cy b0 NALL) b0) args s 0 0 (AA b0)) (F0 m 51 ls []) := by
    intro S  H locs ls hw hP hF hS hl
    unfold wp_X6_takesOver_51 at hw
    refine lv_aload_n hx hb dX6_takesOver_51 rfl (lv_at hl 0 rfl) ?_
    refine lv_iload_n hx hb dX6_takesOver_52 rfl (lv_at hl 1 rfl) ?_
    refine q_call (va_runV (As := [.int x2]) (rest := []) ⟨hx, hb, hml, hown, hts⟩ (c_X6_ends l D cy b0 S x2 _ hw) (cwV 1 hts gX6_takesOver_X6_ends rfl rfl rfl (by decide +kernel) ⟨(Nat.le_of_ble_eq_true rfl), (Nat.le_of_ble_eq_true rfl)⟩) (q_pV hW hP hF hS (k := 367) (ci := 6) (by decide) (cell_6 (kk_367)) rfl [.int x2]) rfl rfl hl.1 rfl (lv_room (Nat.le_of_ble_eq_true rfl)) dX6_takesOver_53 ⟨(Nat.le_of_ble_eq_true rfl), (Nat.le_of_ble_eq_true rfl)⟩) hS (fun v53 S53 t53 H locs hh hp hB hz hk9 hS => ?_)
    obtain ⟨rfl, hw⟩ := hp
    have hP : HP D cy b0 NALL S53 H := by rw [← hh]; exact hB.1
    have hF := hB.2
    try dsimp only at hw
    refine W.eq (g2 := F0 m 56 ls []) rfl ?_
    exact q_vret hx hb hr hP hF hS hw dX6_takesOver_56 hlocks
  have j2 : ∀ (n2 : Nat), ∀ (S : St) (a3 : Int32), ∀ (H : Heap) (locs : List Loc) (ls : Array Slot), wp_X6_takesOver_2 x1 x2 P n2 S a3 → HP D cy b0 NALL S H → Fx S → va_S (AA b0) s.heap H locs → lv_has ls 4 [(0, .ref (b0 + 367)), (1, .int x1), (2, .int x2), (3, .int a3)] → W p l e rm_X6_takesOver s m args below meth c H locs 0 0 (MQ below (QC (Pv P) (Wb D cy b0 NALL) b0) args s 0 0 (AA b0)) (F0 m 2 ls []) := by
    intro n2
    induction n2 with
    | zero => intro S a3  H locs ls hw _ _ _ _; exact False.elim hw
    | succ n2 ih2 =>
      have j44 : ∀ (S : St) (a3 : Int32) (t1 : Int32) (t2 : Int32), ∀ (H : Heap) (locs : List Loc) (ls : Array Slot), wp_X6_takesOver_44 x1 x2 P (fun S a3 => wp_X6_takesOver_2 x1 x2 P n2 S a3) S a3 t1 t2 → HP D cy b0 NALL S H → Fx S → va_S (AA b0) s.heap H locs → lv_has ls 4 [(0, .ref (b0 + 367)), (1, .int x1), (2, .int x2), (3, .int a3)] → W p l e rm_X6_takesOver s m args below meth c H locs 0 0 (MQ below (QC (Pv P) (Wb D cy b0 NALL) b0) args s 0 0 (AA b0)) (F0 m 44 ls [.int t2, .int t1, .ref (b0 + 374)]) := by
        intro S a3 t1 t2  H locs ls hw hP hF hS hl
        unfold wp_X6_takesOver_44 at hw
        obtain ⟨h44, hw⟩ := hw
        refine q_iast (k := 374) (n := 60) (i := t1) (x := t2) hx hb hK hP hS (by decide) (kk_374) (ll_374) h44 dX6_takesOver_44 (fun H locs hz hP hS => ?_)
        have hF : Fx (sI S 374 (t1.toNatClampNeg) t2) := Fx.sI hF _ _ _
        generalize eS44 : sI S 374 (t1.toNatClampNeg) t2 = S44 at hP hF
        have hw := hw S44 eS44.symm
        obtain ⟨y45, e45⟩ : ∃ z : Int32, z = a3 + 1 := ⟨_, rfl⟩
        have hw := hw y45 e45
        refine lv_iinc (v := y45) (lv' := [(3, .int y45), (0, .ref (b0 + 367)), (1, .int x1), (2, .int x2)]) hx hb dX6_takesOver_45 hl (k := 3) rfl (by rw [e45]; rfl) (by decide) rfl (fun ls hl => ?_)
        refine lv_goto (tgt := 2) hx hb dX6_takesOver_48 (by decide) ?_
        exact ih2 S44 y45  _ _ _ hw hP hF hS (lv_sub hl [1, 2, 3, 0] rfl)
      have j38 : ∀ (S : St) (a3 : Int32) (t1 : Int32), ∀ (H : Heap) (locs : List Loc) (ls : Array Slot), wp_X6_takesOver_38 x1 x2 P (fun S a3 => wp_X6_takesOver_2 x1 x2 P n2 S a3) S a3 t1 → HP D cy b0 NALL S H → Fx S → va_S (AA b0) s.heap H locs → lv_has ls 4 [(0, .ref (b0 + 367)), (1, .int x1), (2, .int x2), (3, .int a3)] → W p l e rm_X6_takesOver s m args below meth c H locs 0 0 (MQ below (QC (Pv P) (Wb D cy b0 NALL) b0) args s 0 0 (AA b0)) (F0 m 38 ls [.int t1, .ref (b0 + 374)]) := by
        intro S a3 t1  H locs ls hw hP hF hS hl
        unfold wp_X6_takesOver_38 at hw
        refine lv_aload_n hx hb dX6_takesOver_38 rfl (lv_at hl 0 rfl) ?_
        refine gf_6_11 (k := 367) hx hb hts (by decide +kernel) hown hK hP (by decide) (kk_367) (q := 374) (hF.1 367 11 374 ff_367_11) (hts (.fieldLink RX6 36 "OpticmeshModel" "carriers" "[I") (by decide +kernel)) dX6_takesOver_39 ?_
        refine lv_iload_n hx hb dX6_takesOver_42 rfl (lv_at hl 3 rfl) ?_
        obtain ⟨h43, hw⟩ := hw
        refine q_iald (k := 374) (n := 60) (i := a3) hx hb hK hP (by decide) (kk_374) (ll_374) h43 dX6_takesOver_43 ?_
        exact j44 S a3 t1 (gI S 374 (a3.toNatClampNeg))  _ _ _ hw hP hF hS (lv_sub hl [0, 1, 2, 3] rfl)
      intro S a3  H locs ls hw hP hF hS hl
      rw [wp_X6_takesOver_2] at hw
      refine lv_iload_n hx hb dX6_takesOver_2 rfl (lv_at hl 3 rfl) ?_
      refine lv_aload_n hx hb dX6_takesOver_3 rfl (lv_at hl 0 rfl) ?_
      refine gf_6_10 (k := 367) hx hb hts (by decide +kernel) hown hK hP (by decide) (kk_367) (hts (.fieldLink RX6 93 "OpticmeshModel" "requests" "I") (by decide +kernel)) dX6_takesOver_4 ?_
      refine lv_icmp_ge (x := a3) (y := (gI S 367 10)) (tgt := 51) hx hb dX6_takesOver_7 (by decide) (fun c7 => ?_) (fun c7 => ?_)
      · rw [if_pos c7] at hw
        exact j51 S  _ _ _ hw hP hF hS (lv_sub hl [0, 2] rfl)
      · rw [if_neg c7] at hw
        refine lv_aload_n hx hb dX6_takesOver_10 rfl (lv_at hl 0 rfl) ?_
        refine gf_6_11 (k := 367) hx hb hts (by decide +kernel) hown hK hP (by decide) (kk_367) (q := 374) (hF.1 367 11 374 ff_367_11) (hts (.fieldLink RX6 36 "OpticmeshModel" "carriers" "[I") (by decide +kernel)) dX6_takesOver_11 ?_
        refine lv_iload_n hx hb dX6_takesOver_14 rfl (lv_at hl 3 rfl) ?_
        refine lv_aload_n hx hb dX6_takesOver_15 rfl (lv_at hl 0 rfl) ?_
        refine gf_6_11 (k := 367) hx hb hts (by decide +kernel) hown hK hP (by decide) (kk_367) (q := 374) (hF.1 367 11 374 ff_367_11) (hts (.fieldLink RX6 36 "OpticmeshModel" "carriers" "[I") (by decide +kernel)) dX6_takesOver_16 ?_
        refine lv_iload_n hx hb dX6_takesOver_19 rfl (lv_at hl 3 rfl) ?_
        obtain ⟨h20, hw⟩ := hw
        refine q_iald (k := 374) (n := 60) (i := a3) hx hb hK hP (by decide) (kk_374) (ll_374) h20 dX6_takesOver_20 ?_
        refine lv_iload_n hx hb dX6_takesOver_21 rfl (lv_at hl 2 rfl) ?_
        refine lv_icmp_ne (x := (gI S 374 (a3.toNatClampNeg))) (y := x2) (tgt := 38) hx hb dX6_takesOver_22 (by decide) (fun c22 => ?_) (fun c22 => ?_)
        · rw [if_neg c22] at hw
          exact j38 S a3 a3  _ _ _ hw hP hF hS (lv_sub hl [0, 1, 2, 3] rfl)
        · rw [if_pos c22] at hw
          refine lv_aload_n hx hb dX6_takesOver_25 rfl (lv_at hl 0 rfl) ?_
          refine gf_6_12 (k := 367) hx hb hts (by decide +kernel) hown hK hP (by decide) (kk_367) (q := 375) (hF.1 367 12 375 ff_367_12) (hts (.fieldLink RX6 39 "OpticmeshModel" "demands" "[I") (by decide +kernel)) dX6_takesOver_26 ?_
          refine lv_iload_n hx hb dX6_takesOver_29 rfl (lv_at hl 3 rfl) ?_
          obtain ⟨h30, hw⟩ := hw
          refine q_iald (k := 375) (n := 60) (i := a3) hx hb hK hP (by decide) (kk_375) (ll_375) h30 dX6_takesOver_30 ?_
          refine lv_if_le (x := (gI S 375 (a3.toNatClampNeg))) (tgt := 38) hx hb dX6_takesOver_31 (by decide) (fun c31 => ?_) (fun c31 => ?_)
          · rw [if_pos c31] at hw
            exact j38 S a3 a3  _ _ _ hw hP hF hS (lv_sub hl [0, 1, 2, 3] rfl)
          · rw [if_neg c31] at hw
            refine lv_iload_n hx hb dX6_takesOver_34 rfl (lv_at hl 1 rfl) ?_
            refine lv_goto (tgt := 44) hx hb dX6_takesOver_35 (by decide) ?_
            exact j44 S a3 a3 x1  _ _ _ hw hP hF hS (lv_sub hl [0, 1, 2, 3] rfl)
  unfold wp_X6_takesOver at hw
  refine lv_iconst (v := 0) hx hb dX6_takesOver_0 (by decide) ?_
  refine lv_istore_n (lv' := [(3, .int 0), (0, .ref (b0 + 367)), (1, .int x1), (2, .int x2)]) hx hb dX6_takesOver_1 rfl hl (by decide) rfl (fun ls hl => ?_)
  obtain ⟨n2, hw⟩ := hw
  exact j2 n2 S 0  _ _ _ hw hP hF hS (lv_sub hl [1, 2, 3, 0] rfl)
set_option maxHeartbeats 4000000 in
set_option maxRecDepth 100000 in
theorem c_X6_merge (l : Launch) (D : va_G) (cy : Nat → ClassId) (b0 : Nat) (S : St)   (P : Int32 → St → Prop) (hw : wp_X6_merge S  P) : Met l yX6_merge wsX6_merge rm_X6_merge (va_Pc [.ref (b0 + 367)] (Wd D cy b0 NALL S)) (QC (Pi P) (Wb D cy b0 NALL) b0) 0 0 (AA b0) := by
  refine Met.ofW (cc := cX6_merge) (maxL := 3) (ret := (some .int)) (by decide) rfl ?_
  intro p e s m args below meth c s₁ B hml hv
  obtain ⟨hargs, hW, hP, hF⟩ := hv
  have hx := B.exec
  have hb := B.bytes
  have hr := B.returns
  have hts := atoms_spec (ws := wsX6_merge) B.pre
  have hown : s.vm.findClass RX6 = some m.cls := findClass_of_methodNamed B.named
  have hlocks := B.notSynchronized
  have hK := hW.1
  have hS : va_S (AA b0) s.heap s.heap [] := va_S.rf
  have hE : entryFrame m args 3 = F0 m 0 ((lg_sl [.ref (b0 + 367)] ++ List.replicate (3 - (lg_sl [.ref (b0 + 367)]).length) Slot.unset).toArray) [] := by rw [hargs]; exact lg_entry_eq m _ _
  rw [hE]
  have hl := lv_entry [.ref (b0 + 367)] (n := 3) (Nat.le_of_ble_eq_true rfl)
  generalize (lg_sl [.ref (b0 + 367)] ++ List.replicate (3 - (lg_sl [.ref (b0 + 367)]).length) Slot.unset).toArray = ls at hl ⊢
  have hl : lv_has ls 3 [(0, .ref (b0 + 367))] := hl
  have j31 : ∀ (S : St) (a1 : Int32) (a2 : Int32), ∀ (H : Heap) (locs : List Loc) (ls : Array Slot), wp_X6_merge_31 P S a1 a2 → HP D cy b0 NALL S H → Fx S → va_S (AA b0) s.heap H locs → lv_has ls 3 [(0, .ref (b0 + 367)), (1, .int a1), (2, .int a2)] → W p l e rm_X6_merge s m args below meth c H locs 0 0 (MQ below (QC (Pi P) (Wb D cy b0 NALL) b0) args s 0 0 (AA b0)) (F0 m 31 ls []) := by
    intro S a1 a2  H locs ls hw hP hF hS hl
    unfold wp_X6_merge_31 at hw
    refine lv_aload_n hx hb dX6_merge_31 rfl (lv_at hl 0 rfl) ?_
    refine lv_iconst (v := 0) hx hb dX6_merge_32 (by decide) ?_
    refine pf_6_0 (k := 367) (x := 0) hx hb hts (by decide +kernel) hown hK hP hS (by decide) (kk_367) (hts (.fieldLink RX6 87 "OpticmeshModel" "thrown" "I") (by decide +kernel)) dX6_merge_33 (fun H locs hz hP hS => ?_)
    have hF : Fx (sI S 367 0 0) := Fx.sI hF _ _ _
    generalize eS33 : sI S 367 0 0 = S33 at hP hF
    have hw := hw S33 eS33.symm
    refine lv_aload_n hx hb dX6_merge_36 rfl (lv_at hl 0 rfl) ?_
    refine lv_iload_n hx hb dX6_merge_37 rfl (lv_at hl 1 rfl) ?_
    refine lv_iload_n hx hb dX6_merge_38 rfl (lv_at hl 2 rfl) ?_
    refine q_call (va_runV (As := [.int a1, .int a2]) (rest := []) ⟨hx, hb, hml, hown, hts⟩ (c_X6_takesOver l D cy b0 S33 a1 a2 _ hw) (cwV 2 hts gX6_merge_X6_takesOver rfl rfl rfl (by decide +kernel) ⟨(Nat.le_of_ble_eq_true rfl), (Nat.le_of_ble_eq_true rfl)⟩) (q_pV hW hP hF hS (k := 367) (ci := 6) (by decide) (cell_6 (kk_367)) rfl [.int a1, .int a2]) rfl rfl hl.1 rfl (lv_room (Nat.le_of_ble_eq_true rfl)) dX6_merge_39 ⟨(Nat.le_of_ble_eq_true rfl), (Nat.le_of_ble_eq_true rfl)⟩) hS (fun v39 S39 t39 H locs hh hp hB hz hk9 hS => ?_)
    obtain ⟨rfl, hw⟩ := hp
    have hP : HP D cy b0 NALL S39 H := by rw [← hh]; exact hB.1
    have hF := hB.2
    try dsimp only at hw
    refine W.eq (g2 := F0 m 42 ls []) rfl ?_
    refine lv_iload_n hx hb dX6_merge_42 rfl (lv_at hl 2 rfl) ?_
    exact q_iret hx hb hr hP hF hS hw dX6_merge_43 hlocks
  have j56 : ∀ (S : St) , ∀ (H : Heap) (locs : List Loc) (ls : Array Slot), wp_X6_merge_56 P S → HP D cy b0 NALL S H → Fx S → va_S (AA b0) s.heap H locs → lv_has ls 3 [(0, .ref (b0 + 367))] → W p l e rm_X6_merge s m args below meth c H locs 0 0 (MQ below (QC (Pi P) (Wb D cy b0 NALL) b0) args s 0 0 (AA b0)) (F0 m 56 ls []) := by
    intro S  H locs ls hw hP hF hS hl
    unfold wp_X6_merge_56 at hw
    refine lv_aload_n hx hb dX6_merge_56 rfl (lv_at hl 0 rfl) ?_
    refine lv_iconst (v := 1) hx hb dX6_merge_57 (by decide) ?_
    refine pf_6_0 (k := 367) (x := 1) hx hb hts (by decide +kernel) hown hK hP hS (by decide) (kk_367) (hts (.fieldLink RX6 87 "OpticmeshModel" "thrown" "I") (by decide +kernel)) dX6_merge_58 (fun H locs hz hP hS => ?_)
    have hF : Fx (sI S 367 0 1) := Fx.sI hF _ _ _
    generalize eS58 : sI S 367 0 1 = S58 at hP hF
    have hw := hw S58 eS58.symm
    refine lv_iconst (v := 0) hx hb dX6_merge_61 (by decide) ?_
    exact q_iret hx hb hr hP hF hS hw dX6_merge_62 hlocks
  have j2 : ∀ (n2 : Nat), ∀ (S : St) (a1 : Int32), ∀ (H : Heap) (locs : List Loc) (ls : Array Slot), wp_X6_merge_2 P n2 S a1 → HP D cy b0 NALL S H → Fx S → va_S (AA b0) s.heap H locs → lv_has ls 3 [(0, .ref (b0 + 367)), (1, .int a1)] → W p l e rm_X6_merge s m args below meth c H locs 0 0 (MQ below (QC (Pi P) (Wb D cy b0 NALL) b0) args s 0 0 (AA b0)) (F0 m 2 ls []) := by
    intro n2
    induction n2 with
    | zero => intro S a1  H locs ls hw _ _ _ _; exact False.elim hw
    | succ n2 ih2 =>
      have j50 : ∀ (S : St) (a1 : Int32), ∀ (H : Heap) (locs : List Loc) (ls : Array Slot), wp_X6_merge_50 P (fun S a1 => wp_X6_merge_2 P n2 S a1) S a1 → HP D cy b0 NALL S H → Fx S → va_S (AA b0) s.heap H locs → lv_has ls 3 [(0, .ref (b0 + 367)), (1, .int a1)] → W p l e rm_X6_merge s m args below meth c H locs 0 0 (MQ below (QC (Pi P) (Wb D cy b0 NALL) b0) args s 0 0 (AA b0)) (F0 m 50 ls []) := by
        intro S a1  H locs ls hw hP hF hS hl
        unfold wp_X6_merge_50 at hw
        obtain ⟨y50, e50⟩ : ∃ z : Int32, z = a1 + 1 := ⟨_, rfl⟩
        have hw := hw y50 e50
        refine lv_iinc (v := y50) (lv' := [(1, .int y50), (0, .ref (b0 + 367))]) hx hb dX6_merge_50 hl (k := 1) rfl (by rw [e50]; rfl) (by decide) rfl (fun ls hl => ?_)
        refine lv_goto (tgt := 2) hx hb dX6_merge_53 (by decide) ?_
        exact ih2 S y50  _ _ _ hw hP hF hS (lv_sub hl [1, 0] rfl)
      have j14 : ∀ (n14 : Nat), ∀ (S : St) (a1 : Int32) (a2 : Int32), ∀ (H : Heap) (locs : List Loc) (ls : Array Slot), wp_X6_merge_14 P (fun S a1 => wp_X6_merge_2 P n2 S a1) n14 S a1 a2 → HP D cy b0 NALL S H → Fx S → va_S (AA b0) s.heap H locs → lv_has ls 3 [(0, .ref (b0 + 367)), (1, .int a1), (2, .int a2)] → W p l e rm_X6_merge s m args below meth c H locs 0 0 (MQ below (QC (Pi P) (Wb D cy b0 NALL) b0) args s 0 0 (AA b0)) (F0 m 14 ls []) := by
        intro n14
        induction n14 with
        | zero => intro S a1 a2  H locs ls hw _ _ _ _; exact False.elim hw
        | succ n14 ih14 =>
          intro S a1 a2  H locs ls hw hP hF hS hl
          rw [wp_X6_merge_14] at hw
          refine lv_iload_n hx hb dX6_merge_14 rfl (lv_at hl 2 rfl) ?_
          refine lv_aload_n hx hb dX6_merge_15 rfl (lv_at hl 0 rfl) ?_
          refine gf_6_13 (k := 367) hx hb hts (by decide +kernel) hown hK hP (by decide) (kk_367) (hts (.fieldLink RX6 96 "OpticmeshModel" "lights" "I") (by decide +kernel)) dX6_merge_16 ?_
          refine lv_icmp_ge (x := a2) (y := (gI S 367 13)) (tgt := 50) hx hb dX6_merge_19 (by decide) (fun c19 => ?_) (fun c19 => ?_)
          · rw [if_pos c19] at hw
            exact j50 S a1  _ _ _ hw hP hF hS (lv_sub hl [0, 1] rfl)
          · rw [if_neg c19] at hw
            refine lv_aload_n hx hb dX6_merge_22 rfl (lv_at hl 0 rfl) ?_
            refine lv_iload_n hx hb dX6_merge_23 rfl (lv_at hl 1 rfl) ?_
            refine lv_iload_n hx hb dX6_merge_24 rfl (lv_at hl 2 rfl) ?_
            refine q_call (va_runV (As := [.int a1, .int a2]) (rest := []) ⟨hx, hb, hml, hown, hts⟩ (c_X6_areMergeable l D cy b0 S a1 a2 _ hw) (cwV 2 hts gX6_merge_X6_areMergeable rfl rfl rfl (by decide +kernel) ⟨(Nat.le_of_ble_eq_true rfl), (Nat.le_of_ble_eq_true rfl)⟩) (q_pV hW hP hF hS (k := 367) (ci := 6) (by decide) (cell_6 (kk_367)) rfl [.int a1, .int a2]) rfl rfl hl.1 rfl (lv_room (Nat.le_of_ble_eq_true rfl)) dX6_merge_25 ⟨(Nat.le_of_ble_eq_true rfl), (Nat.le_of_ble_eq_true rfl)⟩) hS (fun v25 S25 t25 H locs hh hp hB hz hk9 hS => ?_)
            obtain ⟨r25, rfl, hw⟩ := hp
            have hP : HP D cy b0 NALL S25 H := by rw [← hh]; exact hB.1
            have hF := hB.2
            try dsimp only at hw
            refine W.eq (g2 := F0 m 28 ls [.int (b2i r25)]) rfl ?_
            refine lv_if_eq (x := b2i r25) (tgt := 44) hx hb dX6_merge_28 (by decide) (fun c28 => ?_) (fun c28 => ?_)
            · have c28 := b2i_z c28
              rw [if_neg c28] at hw
              obtain ⟨y44, e44⟩ : ∃ z : Int32, z = a2 + 1 := ⟨_, rfl⟩
              have hw := hw y44 e44
              refine lv_iinc (v := y44) (lv' := [(2, .int y44), (0, .ref (b0 + 367)), (1, .int a1)]) hx hb dX6_merge_44 hl (k := 2) rfl (by rw [e44]; rfl) (by decide) rfl (fun ls hl => ?_)
              refine lv_goto (tgt := 14) hx hb dX6_merge_47 (by decide) ?_
              exact ih14 S25 a1 y44  _ _ _ hw hP hF hS (lv_sub hl [1, 2, 0] rfl)
            · have c28 := b2i_n c28
              rw [if_pos c28] at hw
              exact j31 S25 a1 a2  _ _ _ hw hP hF hS (lv_sub hl [0, 1, 2] rfl)
      intro S a1  H locs ls hw hP hF hS hl
      rw [wp_X6_merge_2] at hw
      refine lv_iload_n hx hb dX6_merge_2 rfl (lv_at hl 1 rfl) ?_
      refine lv_aload_n hx hb dX6_merge_3 rfl (lv_at hl 0 rfl) ?_
      refine gf_6_13 (k := 367) hx hb hts (by decide +kernel) hown hK hP (by decide) (kk_367) (hts (.fieldLink RX6 96 "OpticmeshModel" "lights" "I") (by decide +kernel)) dX6_merge_4 ?_
      refine lv_icmp_ge (x := a1) (y := (gI S 367 13)) (tgt := 56) hx hb dX6_merge_7 (by decide) (fun c7 => ?_) (fun c7 => ?_)
      · rw [if_pos c7] at hw
        exact j56 S  _ _ _ hw hP hF hS (lv_sub hl [0] rfl)
      · rw [if_neg c7] at hw
        refine lv_iload_n hx hb dX6_merge_10 rfl (lv_at hl 1 rfl) ?_
        refine lv_iconst (v := 1) hx hb dX6_merge_11 (by decide) ?_
        refine lv_iadd hx hb dX6_merge_12 ?_
        refine lv_topi (fun y13 e13 => ?_)
        have hw := hw y13 e13
        refine lv_istore_n (lv' := [(2, .int y13), (0, .ref (b0 + 367)), (1, .int a1)]) hx hb dX6_merge_13 rfl hl (by decide) rfl (fun ls hl => ?_)
        obtain ⟨n14, hw⟩ := hw
        exact j14 n14 S a1 y13  _ _ _ hw hP hF hS (lv_sub hl [1, 2, 0] rfl)
  unfold wp_X6_merge at hw
  refine lv_iconst (v := 0) hx hb dX6_merge_0 (by decide) ?_
  refine lv_istore_n (lv' := [(1, .int 0), (0, .ref (b0 + 367))]) hx hb dX6_merge_1 rfl hl (by decide) rfl (fun ls hl => ?_)
  obtain ⟨n2, hw⟩ := hw
  exact j2 n2 S 0  _ _ _ hw hP hF hS (lv_sub hl [1, 0] rfl)
set_option maxHeartbeats 4000000 in
set_option maxRecDepth 100000 in
theorem c_X6_lower (l : Launch) (D : va_G) (cy : Nat → ClassId) (b0 : Nat) (S : St) (x1 : Int32) (x2 : Int32)  (P : Int32 → St → Prop) (hw : wp_X6_lower S x1 x2 P) : Met l yX6_lower wsX6_lower rm_X6_lower (va_Pc [.ref (b0 + 367), .int x1, .int x2] (Wd D cy b0 NALL S)) (QC (Pi P) (Wb D cy b0 NALL) b0) 0 0 (AA b0) := by
  refine Met.ofW (cc := cX6_lower) (maxL := 8) (ret := (some .int)) (by decide) rfl ?_
  intro p e s m args below meth c s₁ B hml hv
  obtain ⟨hargs, hW, hP, hF⟩ := hv
  have hx := B.exec
  have hb := B.bytes
  have hr := B.returns
  have hts := atoms_spec (ws := wsX6_lower) B.pre
  have hown : s.vm.findClass RX6 = some m.cls := findClass_of_methodNamed B.named
  have hlocks := B.notSynchronized
  have hK := hW.1
  have hS : va_S (AA b0) s.heap s.heap [] := va_S.rf
  have hE : entryFrame m args 8 = F0 m 0 ((lg_sl [.ref (b0 + 367), .int x1, .int x2] ++ List.replicate (8 - (lg_sl [.ref (b0 + 367), .int x1, .int x2]).length) Slot.unset).toArray) [] := by rw [hargs]; exact lg_entry_eq m _ _
  rw [hE]
  have hl := lv_entry [.ref (b0 + 367), .int x1, .int x2] (n := 8) (Nat.le_of_ble_eq_true rfl)
  generalize (lg_sl [.ref (b0 + 367), .int x1, .int x2] ++ List.replicate (8 - (lg_sl [.ref (b0 + 367), .int x1, .int x2]).length) Slot.unset).toArray = ls at hl ⊢
  have hl : lv_has ls 8 [(0, .ref (b0 + 367)), (1, .int x1), (2, .int x2)] := hl
  have j66 : ∀ (n66 : Nat), ∀ (S : St) (a3 : Int32) (a4 : Bool) (a5 : Int32), ∀ (H : Heap) (locs : List Loc) (ls : Array Slot), wp_X6_lower_66 x1 x2 P n66 S a3 a4 a5 → HP D cy b0 NALL S H → Fx S → va_S (AA b0) s.heap H locs → lv_has ls 8 [(0, .ref (b0 + 367)), (1, .int x1), (2, .int x2), (3, .int a3), (4, .int (b2i a4)), (5, .int a5)] → W p l e rm_X6_lower s m args below meth c H locs 0 0 (MQ below (QC (Pi P) (Wb D cy b0 NALL) b0) args s 0 0 (AA b0)) (F0 m 66 ls []) := by
    intro n66
    induction n66 with
    | zero => intro S a3 a4 a5  H locs ls hw _ _ _ _; exact False.elim hw
    | succ n66 ih66 =>
      have j140 : ∀ (S : St) (a3 : Int32) (a4 : Bool) (a5 : Int32) (a6 : Bool), ∀ (H : Heap) (locs : List Loc) (ls : Array Slot), wp_X6_lower_140 x1 x2 P (fun S a3 a4 a5 => wp_X6_lower_66 x1 x2 P n66 S a3 a4 a5) S a3 a4 a5 a6 → HP D cy b0 NALL S H → Fx S → va_S (AA b0) s.heap H locs → lv_has ls 8 [(0, .ref (b0 + 367)), (1, .int x1), (2, .int x2), (3, .int a3), (4, .int (b2i a4)), (5, .int a5), (6, .int (b2i a6))] → W p l e rm_X6_lower s m args below meth c H locs 0 0 (MQ below (QC (Pi P) (Wb D cy b0 NALL) b0) args s 0 0 (AA b0)) (F0 m 140 ls []) := by
        intro S a3 a4 a5 a6  H locs ls hw hP hF hS hl
        unfold wp_X6_lower_140 at hw
        refine lv_iload hx hb dX6_lower_140 (lv_at hl 6 rfl) ?_
        refine lv_if_eq (x := b2i a6) (tgt := 148) hx hb dX6_lower_142 (by decide) (fun c142 => ?_) (fun c142 => ?_)
        · have c142 := b2i_z c142
          rw [if_neg c142] at hw
          obtain ⟨y148, e148⟩ : ∃ z : Int32, z = a5 + 1 := ⟨_, rfl⟩
          have hw := hw y148 e148
          refine lv_iinc (v := y148) (lv' := [(5, .int y148), (0, .ref (b0 + 367)), (1, .int x1), (2, .int x2), (3, .int a3), (4, .int (b2i a4)), (6, .int (b2i a6))]) hx hb dX6_lower_148 hl (k := 5) rfl (by rw [e148]; rfl) (by decide) rfl (fun ls hl => ?_)
          refine lv_goto (tgt := 66) hx hb dX6_lower_151 (by decide) ?_
          exact ih66 S a3 a4 y148  _ _ _ hw hP hF hS (lv_sub hl [1, 2, 3, 4, 5, 0] rfl)
        · have c142 := b2i_n c142
          rw [if_pos c142] at hw
          refine lv_iload hx hb dX6_lower_145 (lv_at hl 5 rfl) ?_
          exact q_iret hx hb hr hP hF hS hw dX6_lower_147 hlocks
      have j83 : ∀ (n83 : Nat), ∀ (S : St) (a3 : Int32) (a4 : Bool) (a5 : Int32) (a6 : Bool) (a7 : Int32), ∀ (H : Heap) (locs : List Loc) (ls : Array Slot), wp_X6_lower_83 x1 x2 P (fun S a3 a4 a5 => wp_X6_lower_66 x1 x2 P n66 S a3 a4 a5) n83 S a3 a4 a5 a6 a7 → HP D cy b0 NALL S H → Fx S → va_S (AA b0) s.heap H locs → lv_has ls 8 [(0, .ref (b0 + 367)), (1, .int x1), (2, .int x2), (3, .int a3), (4, .int (b2i a4)), (5, .int a5), (6, .int (b2i a6)), (7, .int a7)] → W p l e rm_X6_lower s m args below meth c H locs 0 0 (MQ below (QC (Pi P) (Wb D cy b0 NALL) b0) args s 0 0 (AA b0)) (F0 m 83 ls []) := by
        intro n83
        induction n83 with
        | zero => intro S a3 a4 a5 a6 a7  H locs ls hw _ _ _ _; exact False.elim hw
        | succ n83 ih83 =>
          have j132 : ∀ (S : St) (a3 : Int32) (a4 : Bool) (a5 : Int32) (a7 : Int32) (t0 : Bool), ∀ (H : Heap) (locs : List Loc) (ls : Array Slot), wp_X6_lower_132 x1 x2 P (fun S a3 a4 a5 => wp_X6_lower_66 x1 x2 P n66 S a3 a4 a5) (fun S a3 a4 a5 a6 a7 => wp_X6_lower_83 x1 x2 P (fun S a3 a4 a5 => wp_X6_lower_66 x1 x2 P n66 S a3 a4 a5) n83 S a3 a4 a5 a6 a7) S a3 a4 a5 a7 t0 → HP D cy b0 NALL S H → Fx S → va_S (AA b0) s.heap H locs → lv_has ls 8 [(0, .ref (b0 + 367)), (1, .int x1), (2, .int x2), (3, .int a3), (4, .int (b2i a4)), (5, .int a5), (7, .int a7)] → W p l e rm_X6_lower s m args below meth c H locs 0 0 (MQ below (QC (Pi P) (Wb D cy b0 NALL) b0) args s 0 0 (AA b0)) (F0 m 132 ls [.int (b2i t0)]) := by
            intro S a3 a4 a5 a7 t0  H locs ls hw hP hF hS hl
            unfold wp_X6_lower_132 at hw
            refine lv_istore (lv' := [(6, .int (b2i t0)), (0, .ref (b0 + 367)), (1, .int x1), (2, .int x2), (3, .int a3), (4, .int (b2i a4)), (5, .int a5), (7, .int a7)]) hx hb dX6_lower_132 hl (by decide) rfl (fun ls hl => ?_)
            obtain ⟨y134, e134⟩ : ∃ z : Int32, z = a7 + 1 := ⟨_, rfl⟩
            have hw := hw y134 e134
            refine lv_iinc (v := y134) (lv' := [(7, .int y134), (6, .int (b2i t0)), (0, .ref (b0 + 367)), (1, .int x1), (2, .int x2), (3, .int a3), (4, .int (b2i a4)), (5, .int a5)]) hx hb dX6_lower_134 hl (k := 7) rfl (by rw [e134]; rfl) (by decide) rfl (fun ls hl => ?_)
            refine lv_goto (tgt := 83) hx hb dX6_lower_137 (by decide) ?_
            exact ih83 S a3 a4 a5 t0 y134  _ _ _ hw hP hF hS (lv_sub hl [2, 3, 4, 5, 6, 7, 1, 0] rfl)
          have j131 : ∀ (S : St) (a3 : Int32) (a4 : Bool) (a5 : Int32) (a7 : Int32), ∀ (H : Heap) (locs : List Loc) (ls : Array Slot), wp_X6_lower_131 x1 x2 P (fun S a3 a4 a5 => wp_X6_lower_66 x1 x2 P n66 S a3 a4 a5) (fun S a3 a4 a5 a6 a7 => wp_X6_lower_83 x1 x2 P (fun S a3 a4 a5 => wp_X6_lower_66 x1 x2 P n66 S a3 a4 a5) n83 S a3 a4 a5 a6 a7) S a3 a4 a5 a7 → HP D cy b0 NALL S H → Fx S → va_S (AA b0) s.heap H locs → lv_has ls 8 [(0, .ref (b0 + 367)), (1, .int x1), (2, .int x2), (3, .int a3), (4, .int (b2i a4)), (5, .int a5), (7, .int a7)] → W p l e rm_X6_lower s m args below meth c H locs 0 0 (MQ below (QC (Pi P) (Wb D cy b0 NALL) b0) args s 0 0 (AA b0)) (F0 m 131 ls []) := by
            intro S a3 a4 a5 a7  H locs ls hw hP hF hS hl
            unfold wp_X6_lower_131 at hw
            refine lv_iconst (v := 0) hx hb dX6_lower_131 (by decide) ?_
            exact j132 S a3 a4 a5 a7 false  _ _ _ hw hP hF hS (lv_sub hl [0, 1, 2, 3, 4, 5, 6] rfl)
          intro S a3 a4 a5 a6 a7  H locs ls hw hP hF hS hl
          rw [wp_X6_lower_83] at hw
          refine lv_iload hx hb dX6_lower_83 (lv_at hl 7 rfl) ?_
          refine lv_aload_n hx hb dX6_lower_85 rfl (lv_at hl 0 rfl) ?_
          refine lv_iload_n hx hb dX6_lower_86 rfl (lv_at hl 1 rfl) ?_
          refine lv_iload_n hx hb dX6_lower_87 rfl (lv_at hl 2 rfl) ?_
          refine lv_bipush (v := 7) hx hb dX6_lower_88 (by decide) ?_
          refine q_call (va_runV (As := [.int x1, .int x2, .int 7]) (rest := [.int a7]) ⟨hx, hb, hml, hown, hts⟩ (c_X6_way l D cy b0 S x1 x2 7 _ hw) (cwV 3 hts gX6_lower_X6_way rfl rfl rfl (by decide +kernel) ⟨(Nat.le_of_ble_eq_true rfl), (Nat.le_of_ble_eq_true rfl)⟩) (q_pV hW hP hF hS (k := 367) (ci := 6) (by decide) (cell_6 (kk_367)) rfl [.int x1, .int x2, .int 7]) rfl rfl hl.1 rfl (lv_room (Nat.le_of_ble_eq_true rfl)) dX6_lower_90 ⟨(Nat.le_of_ble_eq_true rfl), (Nat.le_of_ble_eq_true rfl)⟩) hS (fun v90 S90 t90 H locs hh hp hB hz hk9 hS => ?_)
          obtain ⟨r90, rfl, hw⟩ := hp
          have hP : HP D cy b0 NALL S90 H := by rw [← hh]; exact hB.1
          have hF := hB.2
          try dsimp only at hw
          refine W.eq (g2 := F0 m 93 ls [.int r90, .int a7]) rfl ?_
          refine lv_icmp_ge (x := a7) (y := r90) (tgt := 140) hx hb dX6_lower_93 (by decide) (fun c93 => ?_) (fun c93 => ?_)
          · rw [if_pos c93] at hw
            exact j140 S90 a3 a4 a5 a6  _ _ _ hw hP hF hS (lv_sub hl [0, 1, 2, 3, 4, 5, 6] rfl)
          · rw [if_neg c93] at hw
            refine lv_iload hx hb dX6_lower_96 (lv_at hl 6 rfl) ?_
            refine lv_if_eq (x := b2i a6) (tgt := 131) hx hb dX6_lower_98 (by decide) (fun c98 => ?_) (fun c98 => ?_)
            · have c98 := b2i_z c98
              rw [if_neg c98] at hw
              exact j131 S90 a3 a4 a5 a7  _ _ _ hw hP hF hS (lv_sub hl [0, 1, 2, 3, 4, 5, 7] rfl)
            · have c98 := b2i_n c98
              rw [if_pos c98] at hw
              refine lv_aload_n hx hb dX6_lower_101 rfl (lv_at hl 0 rfl) ?_
              refine gf_6_9 (k := 367) hx hb hts (by decide +kernel) hown hK hP (by decide) (kk_367) (q := 373) (hF.1 367 9 373 ff_367_9) (hts (.fieldLink RX6 33 "OpticmeshModel" "used" "[I") (by decide +kernel)) dX6_lower_102 ?_
              refine lv_bipush (v := 8) hx hb dX6_lower_105 (by decide) ?_
              refine lv_aload_n hx hb dX6_lower_107 rfl (lv_at hl 0 rfl) ?_
              refine lv_iload_n hx hb dX6_lower_108 rfl (lv_at hl 1 rfl) ?_
              refine lv_iload_n hx hb dX6_lower_109 rfl (lv_at hl 2 rfl) ?_
              refine lv_iload hx hb dX6_lower_110 (lv_at hl 7 rfl) ?_
              refine q_call (va_runV (As := [.int x1, .int x2, .int a7]) (rest := [.int 8, .ref (b0 + 373)]) ⟨hx, hb, hml, hown, hts⟩ (c_X6_way l D cy b0 S90 x1 x2 a7 _ hw) (cwV 3 hts gX6_lower_X6_way rfl rfl rfl (by decide +kernel) ⟨(Nat.le_of_ble_eq_true rfl), (Nat.le_of_ble_eq_true rfl)⟩) (q_pV hW hP hF hS (k := 367) (ci := 6) (by decide) (cell_6 (kk_367)) rfl [.int x1, .int x2, .int a7]) rfl rfl hl.1 rfl (lv_room (Nat.le_of_ble_eq_true rfl)) dX6_lower_112 ⟨(Nat.le_of_ble_eq_true rfl), (Nat.le_of_ble_eq_true rfl)⟩) hS (fun v112 S112 t112 H locs hh hp hB hz hk9 hS => ?_)
              obtain ⟨r112, rfl, hw⟩ := hp
              have hP : HP D cy b0 NALL S112 H := by rw [← hh]; exact hB.1
              have hF := hB.2
              try dsimp only at hw
              refine W.eq (g2 := F0 m 115 ls [.int r112, .int 8, .ref (b0 + 373)]) rfl ?_
              refine lv_bipush (v := 10) hx hb dX6_lower_115 (by decide) ?_
              refine lv_idiv hx hb dX6_lower_117 (by decide) ?_
              refine lv_imul hx hb dX6_lower_118 ?_
              refine lv_iload hx hb dX6_lower_119 (lv_at hl 5 rfl) ?_
              refine lv_iadd hx hb dX6_lower_121 ?_
              obtain ⟨h122, hw⟩ := hw
              refine q_iald (k := 373) (n := 112) (i := ((8 * (r112 / 10)) + a5)) hx hb hK hP (by decide) (kk_373) (ll_373) h122 dX6_lower_122 ?_
              refine lv_iconst (v := (-1)) hx hb dX6_lower_123 (by decide) ?_
              refine lv_icmp_ne (x := (gI S112 373 (((8 * (r112 / 10)) + a5).toNatClampNeg))) (y := (-1)) (tgt := 131) hx hb dX6_lower_124 (by decide) (fun c124 => ?_) (fun c124 => ?_)
              · rw [if_neg c124] at hw
                exact j131 S112 a3 a4 a5 a7  _ _ _ hw hP hF hS (lv_sub hl [0, 1, 2, 3, 4, 5, 7] rfl)
              · rw [if_pos c124] at hw
                refine lv_iconst (v := 1) hx hb dX6_lower_127 (by decide) ?_
                refine lv_goto (tgt := 132) hx hb dX6_lower_128 (by decide) ?_
                exact j132 S112 a3 a4 a5 a7 true  _ _ _ hw hP hF hS (lv_sub hl [0, 1, 2, 3, 4, 5, 7] rfl)
      intro S a3 a4 a5  H locs ls hw hP hF hS hl
      rw [wp_X6_lower_66] at hw
      refine lv_iload hx hb dX6_lower_66 (lv_at hl 5 rfl) ?_
      refine lv_iload_n hx hb dX6_lower_68 rfl (lv_at hl 3 rfl) ?_
      refine lv_icmp_ge (x := a5) (y := a3) (tgt := 154) hx hb dX6_lower_69 (by decide) (fun c69 => ?_) (fun c69 => ?_)
      · rw [if_pos c69] at hw
        refine lv_iconst (v := (-1)) hx hb dX6_lower_154 (by decide) ?_
        exact q_iret hx hb hr hP hF hS hw dX6_lower_155 hlocks
      · rw [if_neg c69] at hw
        refine lv_iload hx hb dX6_lower_72 (lv_at hl 4 rfl) ?_
        refine lv_if_eq (x := b2i a4) (tgt := 154) hx hb dX6_lower_74 (by decide) (fun c74 => ?_) (fun c74 => ?_)
        · have c74 := b2i_z c74
          rw [if_neg c74] at hw
          refine lv_iconst (v := (-1)) hx hb dX6_lower_154 (by decide) ?_
          exact q_iret hx hb hr hP hF hS hw dX6_lower_155 hlocks
        · have c74 := b2i_n c74
          rw [if_pos c74] at hw
          refine lv_iconst (v := 1) hx hb dX6_lower_77 (by decide) ?_
          refine lv_istore (lv' := [(6, .int 1), (0, .ref (b0 + 367)), (1, .int x1), (2, .int x2), (3, .int a3), (4, .int (b2i a4)), (5, .int a5)]) hx hb dX6_lower_78 hl (by decide) rfl (fun ls hl => ?_)
          refine lv_iconst (v := 0) hx hb dX6_lower_80 (by decide) ?_
          refine lv_istore (lv' := [(7, .int 0), (6, .int 1), (0, .ref (b0 + 367)), (1, .int x1), (2, .int x2), (3, .int a3), (4, .int (b2i a4)), (5, .int a5)]) hx hb dX6_lower_81 hl (by decide) rfl (fun ls hl => ?_)
          obtain ⟨n83, hw⟩ := hw
          exact j83 n83 S a3 a4 a5 true 0  _ _ _ hw hP hF hS (lv_sub hl [2, 3, 4, 5, 6, 7, 1, 0] rfl)
  have j63 : ∀ (S : St) (a3 : Int32) (a4 : Bool), ∀ (H : Heap) (locs : List Loc) (ls : Array Slot), wp_X6_lower_63 x1 x2 P S a3 a4 → HP D cy b0 NALL S H → Fx S → va_S (AA b0) s.heap H locs → lv_has ls 8 [(0, .ref (b0 + 367)), (1, .int x1), (2, .int x2), (3, .int a3), (4, .int (b2i a4))] → W p l e rm_X6_lower s m args below meth c H locs 0 0 (MQ below (QC (Pi P) (Wb D cy b0 NALL) b0) args s 0 0 (AA b0)) (F0 m 63 ls []) := by
    intro S a3 a4  H locs ls hw hP hF hS hl
    unfold wp_X6_lower_63 at hw
    refine lv_iconst (v := 0) hx hb dX6_lower_63 (by decide) ?_
    refine lv_istore (lv' := [(5, .int 0), (0, .ref (b0 + 367)), (1, .int x1), (2, .int x2), (3, .int a3), (4, .int (b2i a4))]) hx hb dX6_lower_64 hl (by decide) rfl (fun ls hl => ?_)
    obtain ⟨n66, hw⟩ := hw
    exact j66 n66 S a3 a4 0  _ _ _ hw hP hF hS (lv_sub hl [1, 2, 3, 4, 5, 0] rfl)
  have j17 : ∀ (n17 : Nat), ∀ (S : St) (a3 : Int32) (a4 : Bool) (a5 : Int32), ∀ (H : Heap) (locs : List Loc) (ls : Array Slot), wp_X6_lower_17 x1 x2 P n17 S a3 a4 a5 → HP D cy b0 NALL S H → Fx S → va_S (AA b0) s.heap H locs → lv_has ls 8 [(0, .ref (b0 + 367)), (1, .int x1), (2, .int x2), (3, .int a3), (4, .int (b2i a4)), (5, .int a5)] → W p l e rm_X6_lower s m args below meth c H locs 0 0 (MQ below (QC (Pi P) (Wb D cy b0 NALL) b0) args s 0 0 (AA b0)) (F0 m 17 ls []) := by
    intro n17
    induction n17 with
    | zero => intro S a3 a4 a5  H locs ls hw _ _ _ _; exact False.elim hw
    | succ n17 ih17 =>
      have j55 : ∀ (S : St) (a3 : Int32) (a5 : Int32) (t0 : Bool), ∀ (H : Heap) (locs : List Loc) (ls : Array Slot), wp_X6_lower_55 x1 x2 P (fun S a3 a4 a5 => wp_X6_lower_17 x1 x2 P n17 S a3 a4 a5) S a3 a5 t0 → HP D cy b0 NALL S H → Fx S → va_S (AA b0) s.heap H locs → lv_has ls 8 [(0, .ref (b0 + 367)), (1, .int x1), (2, .int x2), (3, .int a3), (5, .int a5)] → W p l e rm_X6_lower s m args below meth c H locs 0 0 (MQ below (QC (Pi P) (Wb D cy b0 NALL) b0) args s 0 0 (AA b0)) (F0 m 55 ls [.int (b2i t0)]) := by
        intro S a3 a5 t0  H locs ls hw hP hF hS hl
        unfold wp_X6_lower_55 at hw
        refine lv_istore (lv' := [(4, .int (b2i t0)), (0, .ref (b0 + 367)), (1, .int x1), (2, .int x2), (3, .int a3), (5, .int a5)]) hx hb dX6_lower_55 hl (by decide) rfl (fun ls hl => ?_)
        obtain ⟨y57, e57⟩ : ∃ z : Int32, z = a5 + 1 := ⟨_, rfl⟩
        have hw := hw y57 e57
        refine lv_iinc (v := y57) (lv' := [(5, .int y57), (4, .int (b2i t0)), (0, .ref (b0 + 367)), (1, .int x1), (2, .int x2), (3, .int a3)]) hx hb dX6_lower_57 hl (k := 5) rfl (by rw [e57]; rfl) (by decide) rfl (fun ls hl => ?_)
        refine lv_goto (tgt := 17) hx hb dX6_lower_60 (by decide) ?_
        exact ih17 S a3 t0 y57  _ _ _ hw hP hF hS (lv_sub hl [2, 3, 4, 5, 1, 0] rfl)
      have j54 : ∀ (S : St) (a3 : Int32) (a5 : Int32), ∀ (H : Heap) (locs : List Loc) (ls : Array Slot), wp_X6_lower_54 x1 x2 P (fun S a3 a4 a5 => wp_X6_lower_17 x1 x2 P n17 S a3 a4 a5) S a3 a5 → HP D cy b0 NALL S H → Fx S → va_S (AA b0) s.heap H locs → lv_has ls 8 [(0, .ref (b0 + 367)), (1, .int x1), (2, .int x2), (3, .int a3), (5, .int a5)] → W p l e rm_X6_lower s m args below meth c H locs 0 0 (MQ below (QC (Pi P) (Wb D cy b0 NALL) b0) args s 0 0 (AA b0)) (F0 m 54 ls []) := by
        intro S a3 a5  H locs ls hw hP hF hS hl
        unfold wp_X6_lower_54 at hw
        refine lv_iconst (v := 0) hx hb dX6_lower_54 (by decide) ?_
        exact j55 S a3 a5 false  _ _ _ hw hP hF hS (lv_sub hl [0, 1, 2, 3, 4] rfl)
      intro S a3 a4 a5  H locs ls hw hP hF hS hl
      rw [wp_X6_lower_17] at hw
      refine lv_iload hx hb dX6_lower_17 (lv_at hl 5 rfl) ?_
      refine lv_aload_n hx hb dX6_lower_19 rfl (lv_at hl 0 rfl) ?_
      refine lv_iload_n hx hb dX6_lower_20 rfl (lv_at hl 1 rfl) ?_
      refine lv_iload_n hx hb dX6_lower_21 rfl (lv_at hl 2 rfl) ?_
      refine lv_bipush (v := 7) hx hb dX6_lower_22 (by decide) ?_
      refine q_call (va_runV (As := [.int x1, .int x2, .int 7]) (rest := [.int a5]) ⟨hx, hb, hml, hown, hts⟩ (c_X6_way l D cy b0 S x1 x2 7 _ hw) (cwV 3 hts gX6_lower_X6_way rfl rfl rfl (by decide +kernel) ⟨(Nat.le_of_ble_eq_true rfl), (Nat.le_of_ble_eq_true rfl)⟩) (q_pV hW hP hF hS (k := 367) (ci := 6) (by decide) (cell_6 (kk_367)) rfl [.int x1, .int x2, .int 7]) rfl rfl hl.1 rfl (lv_room (Nat.le_of_ble_eq_true rfl)) dX6_lower_24 ⟨(Nat.le_of_ble_eq_true rfl), (Nat.le_of_ble_eq_true rfl)⟩) hS (fun v24 S24 t24 H locs hh hp hB hz hk9 hS => ?_)
      obtain ⟨r24, rfl, hw⟩ := hp
      have hP : HP D cy b0 NALL S24 H := by rw [← hh]; exact hB.1
      have hF := hB.2
      try dsimp only at hw
      refine W.eq (g2 := F0 m 27 ls [.int r24, .int a5]) rfl ?_
      refine lv_icmp_ge (x := a5) (y := r24) (tgt := 63) hx hb dX6_lower_27 (by decide) (fun c27 => ?_) (fun c27 => ?_)
      · rw [if_pos c27] at hw
        exact j63 S24 a3 a4  _ _ _ hw hP hF hS (lv_sub hl [0, 1, 2, 3, 4] rfl)
      · rw [if_neg c27] at hw
        refine lv_iload hx hb dX6_lower_30 (lv_at hl 4 rfl) ?_
        refine lv_if_eq (x := b2i a4) (tgt := 54) hx hb dX6_lower_32 (by decide) (fun c32 => ?_) (fun c32 => ?_)
        · have c32 := b2i_z c32
          rw [if_neg c32] at hw
          exact j54 S24 a3 a5  _ _ _ hw hP hF hS (lv_sub hl [0, 1, 2, 3, 5] rfl)
        · have c32 := b2i_n c32
          rw [if_pos c32] at hw
          refine lv_aload_n hx hb dX6_lower_35 rfl (lv_at hl 0 rfl) ?_
          refine lv_iload_n hx hb dX6_lower_36 rfl (lv_at hl 1 rfl) ?_
          refine lv_iload_n hx hb dX6_lower_37 rfl (lv_at hl 2 rfl) ?_
          refine lv_iload hx hb dX6_lower_38 (lv_at hl 5 rfl) ?_
          refine q_call (va_runV (As := [.int x1, .int x2, .int a5]) (rest := []) ⟨hx, hb, hml, hown, hts⟩ (c_X6_way l D cy b0 S24 x1 x2 a5 _ hw) (cwV 3 hts gX6_lower_X6_way rfl rfl rfl (by decide +kernel) ⟨(Nat.le_of_ble_eq_true rfl), (Nat.le_of_ble_eq_true rfl)⟩) (q_pV hW hP hF hS (k := 367) (ci := 6) (by decide) (cell_6 (kk_367)) rfl [.int x1, .int x2, .int a5]) rfl rfl hl.1 rfl (lv_room (Nat.le_of_ble_eq_true rfl)) dX6_lower_40 ⟨(Nat.le_of_ble_eq_true rfl), (Nat.le_of_ble_eq_true rfl)⟩) hS (fun v40 S40 t40 H locs hh hp hB hz hk9 hS => ?_)
          obtain ⟨r40, rfl, hw⟩ := hp
          have hP : HP D cy b0 NALL S40 H := by rw [← hh]; exact hB.1
          have hF := hB.2
          try dsimp only at hw
          refine W.eq (g2 := F0 m 43 ls [.int r40]) rfl ?_
          refine lv_bipush (v := 10) hx hb dX6_lower_43 (by decide) ?_
          refine lv_irem hx hb dX6_lower_45 (by decide) ?_
          refine lv_iload_n hx hb dX6_lower_46 rfl (lv_at hl 3 rfl) ?_
          refine lv_icmp_ne (x := (r40 - r40 / 10 * 10)) (y := a3) (tgt := 54) hx hb dX6_lower_47 (by decide) (fun c47 => ?_) (fun c47 => ?_)
          · rw [if_neg c47] at hw
            exact j54 S40 a3 a5  _ _ _ hw hP hF hS (lv_sub hl [0, 1, 2, 3, 5] rfl)
          · rw [if_pos c47] at hw
            refine lv_iconst (v := 1) hx hb dX6_lower_50 (by decide) ?_
            refine lv_goto (tgt := 55) hx hb dX6_lower_51 (by decide) ?_
            exact j55 S40 a3 a5 true  _ _ _ hw hP hF hS (lv_sub hl [0, 1, 2, 3, 5] rfl)
  unfold wp_X6_lower at hw
  refine lv_aload_n hx hb dX6_lower_0 rfl (lv_at hl 0 rfl) ?_
  refine lv_iload_n hx hb dX6_lower_1 rfl (lv_at hl 1 rfl) ?_
  refine lv_iload_n hx hb dX6_lower_2 rfl (lv_at hl 2 rfl) ?_
  refine lv_iconst (v := 0) hx hb dX6_lower_3 (by decide) ?_
  refine q_call (va_runV (As := [.int x1, .int x2, .int 0]) (rest := []) ⟨hx, hb, hml, hown, hts⟩ (c_X6_way l D cy b0 S x1 x2 0 _ hw) (cwV 3 hts gX6_lower_X6_way rfl rfl rfl (by decide +kernel) ⟨(Nat.le_of_ble_eq_true rfl), (Nat.le_of_ble_eq_true rfl)⟩) (q_pV hW hP hF hS (k := 367) (ci := 6) (by decide) (cell_6 (kk_367)) rfl [.int x1, .int x2, .int 0]) rfl rfl hl.1 rfl (lv_room (Nat.le_of_ble_eq_true rfl)) dX6_lower_4 ⟨(Nat.le_of_ble_eq_true rfl), (Nat.le_of_ble_eq_true rfl)⟩) hS (fun v4 S4 t4 H locs hh hp hB hz hk9 hS => ?_)
  obtain ⟨r4, rfl, hw⟩ := hp
  have hP : HP D cy b0 NALL S4 H := by rw [← hh]; exact hB.1
  have hF := hB.2
  try dsimp only at hw
  refine W.eq (g2 := F0 m 7 ls [.int r4]) rfl ?_
  refine lv_bipush (v := 10) hx hb dX6_lower_7 (by decide) ?_
  refine lv_irem hx hb dX6_lower_9 (by decide) ?_
  refine lv_topi (fun y10 e10 => ?_)
  have hw := hw y10 e10
  refine lv_istore_n (lv' := [(3, .int y10), (0, .ref (b0 + 367)), (1, .int x1), (2, .int x2)]) hx hb dX6_lower_10 rfl hl (by decide) rfl (fun ls hl => ?_)
  refine lv_iconst (v := 1) hx hb dX6_lower_11 (by decide) ?_
  refine lv_istore (lv' := [(4, .int 1), (3, .int y10), (0, .ref (b0 + 367)), (1, .int x1), (2, .int x2)]) hx hb dX6_lower_12 hl (by decide) rfl (fun ls hl => ?_)
  refine lv_iconst (v := 1) hx hb dX6_lower_14 (by decide) ?_
  refine lv_istore (lv' := [(5, .int 1), (4, .int 1), (3, .int y10), (0, .ref (b0 + 367)), (1, .int x1), (2, .int x2)]) hx hb dX6_lower_15 hl (by decide) rfl (fun ls hl => ?_)
  obtain ⟨n17, hw⟩ := hw
  exact j17 n17 S4 y10 true 1  _ _ _ hw hP hF hS (lv_sub hl [3, 4, 5, 2, 1, 0] rfl)
set_option maxHeartbeats 4000000 in
set_option maxRecDepth 100000 in
theorem c_X6_moves (l : Launch) (D : va_G) (cy : Nat → ClassId) (b0 : Nat) (S : St) (x1 : Int32) (x2 : Int32) (x3 : Int32)  (P : St → Prop) (hw : wp_X6_moves S x1 x2 x3 P) : Met l yX6_moves wsX6_moves rm_X6_moves (va_Pc [.ref (b0 + 367), .int x1, .int x2, .int x3] (Wd D cy b0 NALL S)) (QC (Pv P) (Wb D cy b0 NALL) b0) 0 0 (AA b0) := by
  refine Met.ofW (cc := cX6_moves) (maxL := 5) (ret := none) (by decide) rfl ?_
  intro p e s m args below meth c s₁ B hml hv
  obtain ⟨hargs, hW, hP, hF⟩ := hv
  have hx := B.exec
  have hb := B.bytes
  have hr := B.returns
  have hts := atoms_spec (ws := wsX6_moves) B.pre
  have hown : s.vm.findClass RX6 = some m.cls := findClass_of_methodNamed B.named
  have hlocks := B.notSynchronized
  have hK := hW.1
  have hS : va_S (AA b0) s.heap s.heap [] := va_S.rf
  have hE : entryFrame m args 5 = F0 m 0 ((lg_sl [.ref (b0 + 367), .int x1, .int x2, .int x3] ++ List.replicate (5 - (lg_sl [.ref (b0 + 367), .int x1, .int x2, .int x3]).length) Slot.unset).toArray) [] := by rw [hargs]; exact lg_entry_eq m _ _
  rw [hE]
  have hl := lv_entry [.ref (b0 + 367), .int x1, .int x2, .int x3] (n := 5) (Nat.le_of_ble_eq_true rfl)
  generalize (lg_sl [.ref (b0 + 367), .int x1, .int x2, .int x3] ++ List.replicate (5 - (lg_sl [.ref (b0 + 367), .int x1, .int x2, .int x3]).length) Slot.unset).toArray = ls at hl ⊢
  have hl : lv_has ls 5 [(0, .ref (b0 + 367)), (1, .int x1), (2, .int x2), (3, .int x3)] := hl
  have j62 : ∀ (S : St) , ∀ (H : Heap) (locs : List Loc) (ls : Array Slot), wp_X6_moves_62 x1 x2 x3 P S → HP D cy b0 NALL S H → Fx S → va_S (AA b0) s.heap H locs → lv_has ls 5 [(0, .ref (b0 + 367)), (1, .int x1), (2, .int x2)] → W p l e rm_X6_moves s m args below meth c H locs 0 0 (MQ below (QC (Pv P) (Wb D cy b0 NALL) b0) args s 0 0 (AA b0)) (F0 m 62 ls []) := by
    intro S  H locs ls hw hP hF hS hl
    unfold wp_X6_moves_62 at hw
    refine lv_aload_n hx hb dX6_moves_62 rfl (lv_at hl 0 rfl) ?_
    refine lv_iload_n hx hb dX6_moves_63 rfl (lv_at hl 1 rfl) ?_
    refine lv_iload_n hx hb dX6_moves_64 rfl (lv_at hl 2 rfl) ?_
    refine lv_iload_n hx hb dX6_moves_65 rfl (lv_at hl 1 rfl) ?_
    refine q_call (va_runV (As := [.int x1, .int x2, .int x1]) (rest := []) ⟨hx, hb, hml, hown, hts⟩ (c_X6_uses l D cy b0 S x1 x2 x1 _ hw) (cwV 3 hts gX6_moves_X6_uses rfl rfl rfl (by decide +kernel) ⟨(Nat.le_of_ble_eq_true rfl), (Nat.le_of_ble_eq_true rfl)⟩) (q_pV hW hP hF hS (k := 367) (ci := 6) (by decide) (cell_6 (kk_367)) rfl [.int x1, .int x2, .int x1]) rfl rfl hl.1 rfl (lv_room (Nat.le_of_ble_eq_true rfl)) dX6_moves_66 ⟨(Nat.le_of_ble_eq_true rfl), (Nat.le_of_ble_eq_true rfl)⟩) hS (fun v66 S66 t66 H locs hh hp hB hz hk9 hS => ?_)
    obtain ⟨rfl, hw⟩ := hp
    have hP : HP D cy b0 NALL S66 H := by rw [← hh]; exact hB.1
    have hF := hB.2
    try dsimp only at hw
    refine W.eq (g2 := F0 m 69 ls []) rfl ?_
    exact q_vret hx hb hr hP hF hS hw dX6_moves_69 hlocks
  have j10 : ∀ (n10 : Nat), ∀ (S : St) (a4 : Int32), ∀ (H : Heap) (locs : List Loc) (ls : Array Slot), wp_X6_moves_10 x1 x2 x3 P n10 S a4 → HP D cy b0 NALL S H → Fx S → va_S (AA b0) s.heap H locs → lv_has ls 5 [(0, .ref (b0 + 367)), (1, .int x1), (2, .int x2), (3, .int x3), (4, .int a4)] → W p l e rm_X6_moves s m args below meth c H locs 0 0 (MQ below (QC (Pv P) (Wb D cy b0 NALL) b0) args s 0 0 (AA b0)) (F0 m 10 ls []) := by
    intro n10
    induction n10 with
    | zero => intro S a4  H locs ls hw _ _ _ _; exact False.elim hw
    | succ n10 ih10 =>
      intro S a4  H locs ls hw hP hF hS hl
      rw [wp_X6_moves_10] at hw
      refine lv_iload hx hb dX6_moves_10 (lv_at hl 4 rfl) ?_
      refine lv_aload_n hx hb dX6_moves_12 rfl (lv_at hl 0 rfl) ?_
      refine lv_iload_n hx hb dX6_moves_13 rfl (lv_at hl 1 rfl) ?_
      refine lv_iload_n hx hb dX6_moves_14 rfl (lv_at hl 2 rfl) ?_
      refine lv_bipush (v := 7) hx hb dX6_moves_15 (by decide) ?_
      refine q_call (va_runV (As := [.int x1, .int x2, .int 7]) (rest := [.int a4]) ⟨hx, hb, hml, hown, hts⟩ (c_X6_way l D cy b0 S x1 x2 7 _ hw) (cwV 3 hts gX6_moves_X6_way rfl rfl rfl (by decide +kernel) ⟨(Nat.le_of_ble_eq_true rfl), (Nat.le_of_ble_eq_true rfl)⟩) (q_pV hW hP hF hS (k := 367) (ci := 6) (by decide) (cell_6 (kk_367)) rfl [.int x1, .int x2, .int 7]) rfl rfl hl.1 rfl (lv_room (Nat.le_of_ble_eq_true rfl)) dX6_moves_17 ⟨(Nat.le_of_ble_eq_true rfl), (Nat.le_of_ble_eq_true rfl)⟩) hS (fun v17 S17 t17 H locs hh hp hB hz hk9 hS => ?_)
      obtain ⟨r17, rfl, hw⟩ := hp
      have hP : HP D cy b0 NALL S17 H := by rw [← hh]; exact hB.1
      have hF := hB.2
      try dsimp only at hw
      refine W.eq (g2 := F0 m 20 ls [.int r17, .int a4]) rfl ?_
      refine lv_icmp_ge (x := a4) (y := r17) (tgt := 62) hx hb dX6_moves_20 (by decide) (fun c20 => ?_) (fun c20 => ?_)
      · rw [if_pos c20] at hw
        exact j62 S17  _ _ _ hw hP hF hS (lv_sub hl [0, 1, 2] rfl)
      · rw [if_neg c20] at hw
        refine lv_aload_n hx hb dX6_moves_23 rfl (lv_at hl 0 rfl) ?_
        refine gf_6_17 (k := 367) hx hb hts (by decide +kernel) hown hK hP (by decide) (kk_367) (q := 379) (hF.1 367 17 379 ff_367_17) (hts (.fieldLink RX6 51 "OpticmeshModel" "laid" "[I") (by decide +kernel)) dX6_moves_24 ?_
        refine lv_bipush (v := 20) hx hb dX6_moves_27 (by decide) ?_
        refine lv_iload_n hx hb dX6_moves_29 rfl (lv_at hl 1 rfl) ?_
        refine lv_imul hx hb dX6_moves_30 ?_
        refine lv_bipush (v := 10) hx hb dX6_moves_31 (by decide) ?_
        refine lv_iload_n hx hb dX6_moves_33 rfl (lv_at hl 2 rfl) ?_
        refine lv_imul hx hb dX6_moves_34 ?_
        refine lv_iadd hx hb dX6_moves_35 ?_
        refine lv_iload hx hb dX6_moves_36 (lv_at hl 4 rfl) ?_
        refine lv_iadd hx hb dX6_moves_38 ?_
        refine lv_aload_n hx hb dX6_moves_39 rfl (lv_at hl 0 rfl) ?_
        refine lv_iload_n hx hb dX6_moves_40 rfl (lv_at hl 1 rfl) ?_
        refine lv_iload_n hx hb dX6_moves_41 rfl (lv_at hl 2 rfl) ?_
        refine lv_iload hx hb dX6_moves_42 (lv_at hl 4 rfl) ?_
        refine q_call (va_runV (As := [.int x1, .int x2, .int a4]) (rest := [.int (((20 * x1) + (10 * x2)) + a4), .ref (b0 + 379)]) ⟨hx, hb, hml, hown, hts⟩ (c_X6_way l D cy b0 S17 x1 x2 a4 _ hw) (cwV 3 hts gX6_moves_X6_way rfl rfl rfl (by decide +kernel) ⟨(Nat.le_of_ble_eq_true rfl), (Nat.le_of_ble_eq_true rfl)⟩) (q_pV hW hP hF hS (k := 367) (ci := 6) (by decide) (cell_6 (kk_367)) rfl [.int x1, .int x2, .int a4]) rfl rfl hl.1 rfl (lv_room (Nat.le_of_ble_eq_true rfl)) dX6_moves_44 ⟨(Nat.le_of_ble_eq_true rfl), (Nat.le_of_ble_eq_true rfl)⟩) hS (fun v44 S44 t44 H locs hh hp hB hz hk9 hS => ?_)
        obtain ⟨r44, rfl, hw⟩ := hp
        have hP : HP D cy b0 NALL S44 H := by rw [← hh]; exact hB.1
        have hF := hB.2
        try dsimp only at hw
        refine W.eq (g2 := F0 m 47 ls [.int r44, .int (((20 * x1) + (10 * x2)) + a4), .ref (b0 + 379)]) rfl ?_
        refine lv_bipush (v := 10) hx hb dX6_moves_47 (by decide) ?_
        refine lv_idiv hx hb dX6_moves_49 (by decide) ?_
        refine lv_bipush (v := 10) hx hb dX6_moves_50 (by decide) ?_
        refine lv_imul hx hb dX6_moves_52 ?_
        refine lv_iload_n hx hb dX6_moves_53 rfl (lv_at hl 3 rfl) ?_
        refine lv_iadd hx hb dX6_moves_54 ?_
        obtain ⟨h55, hw⟩ := hw
        refine q_iast (k := 379) (n := 1200) (i := (((20 * x1) + (10 * x2)) + a4)) (x := (((r44 / 10) * 10) + x3)) hx hb hK hP hS (by decide) (kk_379) (ll_379) h55 dX6_moves_55 (fun H locs hz hP hS => ?_)
        have hF : Fx (sI S44 379 ((((20 * x1) + (10 * x2)) + a4).toNatClampNeg) (((r44 / 10) * 10) + x3)) := Fx.sI hF _ _ _
        generalize eS55 : sI S44 379 ((((20 * x1) + (10 * x2)) + a4).toNatClampNeg) (((r44 / 10) * 10) + x3) = S55 at hP hF
        have hw := hw S55 eS55.symm
        obtain ⟨y56, e56⟩ : ∃ z : Int32, z = a4 + 1 := ⟨_, rfl⟩
        have hw := hw y56 e56
        refine lv_iinc (v := y56) (lv' := [(4, .int y56), (0, .ref (b0 + 367)), (1, .int x1), (2, .int x2), (3, .int x3)]) hx hb dX6_moves_56 hl (k := 4) rfl (by rw [e56]; rfl) (by decide) rfl (fun ls hl => ?_)
        refine lv_goto (tgt := 10) hx hb dX6_moves_59 (by decide) ?_
        exact ih10 S55 y56  _ _ _ hw hP hF hS (lv_sub hl [1, 2, 3, 4, 0] rfl)
  unfold wp_X6_moves at hw
  refine lv_aload_n hx hb dX6_moves_0 rfl (lv_at hl 0 rfl) ?_
  refine lv_iload_n hx hb dX6_moves_1 rfl (lv_at hl 1 rfl) ?_
  refine lv_iload_n hx hb dX6_moves_2 rfl (lv_at hl 2 rfl) ?_
  refine lv_iconst (v := (-1)) hx hb dX6_moves_3 (by decide) ?_
  refine q_call (va_runV (As := [.int x1, .int x2, .int (-1)]) (rest := []) ⟨hx, hb, hml, hown, hts⟩ (c_X6_uses l D cy b0 S x1 x2 (-1) _ hw) (cwV 3 hts gX6_moves_X6_uses rfl rfl rfl (by decide +kernel) ⟨(Nat.le_of_ble_eq_true rfl), (Nat.le_of_ble_eq_true rfl)⟩) (q_pV hW hP hF hS (k := 367) (ci := 6) (by decide) (cell_6 (kk_367)) rfl [.int x1, .int x2, .int (-1)]) rfl rfl hl.1 rfl (lv_room (Nat.le_of_ble_eq_true rfl)) dX6_moves_4 ⟨(Nat.le_of_ble_eq_true rfl), (Nat.le_of_ble_eq_true rfl)⟩) hS (fun v4 S4 t4 H locs hh hp hB hz hk9 hS => ?_)
  obtain ⟨rfl, hw⟩ := hp
  have hP : HP D cy b0 NALL S4 H := by rw [← hh]; exact hB.1
  have hF := hB.2
  try dsimp only at hw
  refine W.eq (g2 := F0 m 7 ls []) rfl ?_
  refine lv_iconst (v := 0) hx hb dX6_moves_7 (by decide) ?_
  refine lv_istore (lv' := [(4, .int 0), (0, .ref (b0 + 367)), (1, .int x1), (2, .int x2), (3, .int x3)]) hx hb dX6_moves_8 hl (by decide) rfl (fun ls hl => ?_)
  obtain ⟨n10, hw⟩ := hw
  exact j10 n10 S4 0  _ _ _ hw hP hF hS (lv_sub hl [1, 2, 3, 4, 0] rfl)
set_option maxHeartbeats 4000000 in
set_option maxRecDepth 100000 in
theorem c_X6_move (l : Launch) (D : va_G) (cy : Nat → ClassId) (b0 : Nat) (S : St)   (P : Int32 → St → Prop) (hw : wp_X6_move S  P) : Met l yX6_move wsX6_move rm_X6_move (va_Pc [.ref (b0 + 367)] (Wd D cy b0 NALL S)) (QC (Pi P) (Wb D cy b0 NALL) b0) 0 0 (AA b0) := by
  refine Met.ofW (cc := cX6_move) (maxL := 4) (ret := (some .int)) (by decide) rfl ?_
  intro p e s m args below meth c s₁ B hml hv
  obtain ⟨hargs, hW, hP, hF⟩ := hv
  have hx := B.exec
  have hb := B.bytes
  have hr := B.returns
  have hts := atoms_spec (ws := wsX6_move) B.pre
  have hown : s.vm.findClass RX6 = some m.cls := findClass_of_methodNamed B.named
  have hlocks := B.notSynchronized
  have hK := hW.1
  have hS : va_S (AA b0) s.heap s.heap [] := va_S.rf
  have hE : entryFrame m args 4 = F0 m 0 ((lg_sl [.ref (b0 + 367)] ++ List.replicate (4 - (lg_sl [.ref (b0 + 367)]).length) Slot.unset).toArray) [] := by rw [hargs]; exact lg_entry_eq m _ _
  rw [hE]
  have hl := lv_entry [.ref (b0 + 367)] (n := 4) (Nat.le_of_ble_eq_true rfl)
  generalize (lg_sl [.ref (b0 + 367)] ++ List.replicate (4 - (lg_sl [.ref (b0 + 367)]).length) Slot.unset).toArray = ls at hl ⊢
  have hl : lv_has ls 4 [(0, .ref (b0 + 367))] := hl
  have j33 : ∀ (S : St) (a1 : Int32) (a2 : Int32) (a3 : Int32), ∀ (H : Heap) (locs : List Loc) (ls : Array Slot), wp_X6_move_33 P S a1 a2 a3 → HP D cy b0 NALL S H → Fx S → va_S (AA b0) s.heap H locs → lv_has ls 4 [(0, .ref (b0 + 367)), (1, .int a1), (2, .int a2), (3, .int a3)] → W p l e rm_X6_move s m args below meth c H locs 0 0 (MQ below (QC (Pi P) (Wb D cy b0 NALL) b0) args s 0 0 (AA b0)) (F0 m 33 ls []) := by
    intro S a1 a2 a3  H locs ls hw hP hF hS hl
    unfold wp_X6_move_33 at hw
    refine lv_aload_n hx hb dX6_move_33 rfl (lv_at hl 0 rfl) ?_
    refine lv_iconst (v := 0) hx hb dX6_move_34 (by decide) ?_
    refine pf_6_0 (k := 367) (x := 0) hx hb hts (by decide +kernel) hown hK hP hS (by decide) (kk_367) (hts (.fieldLink RX6 87 "OpticmeshModel" "thrown" "I") (by decide +kernel)) dX6_move_35 (fun H locs hz hP hS => ?_)
    have hF : Fx (sI S 367 0 0) := Fx.sI hF _ _ _
    generalize eS35 : sI S 367 0 0 = S35 at hP hF
    have hw := hw S35 eS35.symm
    refine lv_aload_n hx hb dX6_move_38 rfl (lv_at hl 0 rfl) ?_
    refine lv_iload_n hx hb dX6_move_39 rfl (lv_at hl 1 rfl) ?_
    refine lv_iload_n hx hb dX6_move_40 rfl (lv_at hl 2 rfl) ?_
    refine lv_iload_n hx hb dX6_move_41 rfl (lv_at hl 3 rfl) ?_
    refine q_call (va_runV (As := [.int a1, .int a2, .int a3]) (rest := []) ⟨hx, hb, hml, hown, hts⟩ (c_X6_moves l D cy b0 S35 a1 a2 a3 _ hw) (cwV 3 hts gX6_move_X6_moves rfl rfl rfl (by decide +kernel) ⟨(Nat.le_of_ble_eq_true rfl), (Nat.le_of_ble_eq_true rfl)⟩) (q_pV hW hP hF hS (k := 367) (ci := 6) (by decide) (cell_6 (kk_367)) rfl [.int a1, .int a2, .int a3]) rfl rfl hl.1 rfl (lv_room (Nat.le_of_ble_eq_true rfl)) dX6_move_42 ⟨(Nat.le_of_ble_eq_true rfl), (Nat.le_of_ble_eq_true rfl)⟩) hS (fun v42 S42 t42 H locs hh hp hB hz hk9 hS => ?_)
    obtain ⟨rfl, hw⟩ := hp
    have hP : HP D cy b0 NALL S42 H := by rw [← hh]; exact hB.1
    have hF := hB.2
    try dsimp only at hw
    refine W.eq (g2 := F0 m 45 ls []) rfl ?_
    refine lv_iload_n hx hb dX6_move_45 rfl (lv_at hl 1 rfl) ?_
    exact q_iret hx hb hr hP hF hS hw dX6_move_46 hlocks
  have j59 : ∀ (S : St) , ∀ (H : Heap) (locs : List Loc) (ls : Array Slot), wp_X6_move_59 P S → HP D cy b0 NALL S H → Fx S → va_S (AA b0) s.heap H locs → lv_has ls 4 [(0, .ref (b0 + 367))] → W p l e rm_X6_move s m args below meth c H locs 0 0 (MQ below (QC (Pi P) (Wb D cy b0 NALL) b0) args s 0 0 (AA b0)) (F0 m 59 ls []) := by
    intro S  H locs ls hw hP hF hS hl
    unfold wp_X6_move_59 at hw
    refine lv_aload_n hx hb dX6_move_59 rfl (lv_at hl 0 rfl) ?_
    refine lv_iconst (v := 1) hx hb dX6_move_60 (by decide) ?_
    refine pf_6_0 (k := 367) (x := 1) hx hb hts (by decide +kernel) hown hK hP hS (by decide) (kk_367) (hts (.fieldLink RX6 87 "OpticmeshModel" "thrown" "I") (by decide +kernel)) dX6_move_61 (fun H locs hz hP hS => ?_)
    have hF : Fx (sI S 367 0 1) := Fx.sI hF _ _ _
    generalize eS61 : sI S 367 0 1 = S61 at hP hF
    have hw := hw S61 eS61.symm
    refine lv_iconst (v := 0) hx hb dX6_move_64 (by decide) ?_
    exact q_iret hx hb hr hP hF hS hw dX6_move_65 hlocks
  have j2 : ∀ (n2 : Nat), ∀ (S : St) (a1 : Int32), ∀ (H : Heap) (locs : List Loc) (ls : Array Slot), wp_X6_move_2 P n2 S a1 → HP D cy b0 NALL S H → Fx S → va_S (AA b0) s.heap H locs → lv_has ls 4 [(0, .ref (b0 + 367)), (1, .int a1)] → W p l e rm_X6_move s m args below meth c H locs 0 0 (MQ below (QC (Pi P) (Wb D cy b0 NALL) b0) args s 0 0 (AA b0)) (F0 m 2 ls []) := by
    intro n2
    induction n2 with
    | zero => intro S a1  H locs ls hw _ _ _ _; exact False.elim hw
    | succ n2 ih2 =>
      have j53 : ∀ (S : St) (a1 : Int32), ∀ (H : Heap) (locs : List Loc) (ls : Array Slot), wp_X6_move_53 P (fun S a1 => wp_X6_move_2 P n2 S a1) S a1 → HP D cy b0 NALL S H → Fx S → va_S (AA b0) s.heap H locs → lv_has ls 4 [(0, .ref (b0 + 367)), (1, .int a1)] → W p l e rm_X6_move s m args below meth c H locs 0 0 (MQ below (QC (Pi P) (Wb D cy b0 NALL) b0) args s 0 0 (AA b0)) (F0 m 53 ls []) := by
        intro S a1  H locs ls hw hP hF hS hl
        unfold wp_X6_move_53 at hw
        obtain ⟨y53, e53⟩ : ∃ z : Int32, z = a1 + 1 := ⟨_, rfl⟩
        have hw := hw y53 e53
        refine lv_iinc (v := y53) (lv' := [(1, .int y53), (0, .ref (b0 + 367))]) hx hb dX6_move_53 hl (k := 1) rfl (by rw [e53]; rfl) (by decide) rfl (fun ls hl => ?_)
        refine lv_goto (tgt := 2) hx hb dX6_move_56 (by decide) ?_
        exact ih2 S y53  _ _ _ hw hP hF hS (lv_sub hl [1, 0] rfl)
      have j12 : ∀ (n12 : Nat), ∀ (S : St) (a1 : Int32) (a2 : Int32), ∀ (H : Heap) (locs : List Loc) (ls : Array Slot), wp_X6_move_12 P (fun S a1 => wp_X6_move_2 P n2 S a1) n12 S a1 a2 → HP D cy b0 NALL S H → Fx S → va_S (AA b0) s.heap H locs → lv_has ls 4 [(0, .ref (b0 + 367)), (1, .int a1), (2, .int a2)] → W p l e rm_X6_move s m args below meth c H locs 0 0 (MQ below (QC (Pi P) (Wb D cy b0 NALL) b0) args s 0 0 (AA b0)) (F0 m 12 ls []) := by
        intro n12
        induction n12 with
        | zero => intro S a1 a2  H locs ls hw _ _ _ _; exact False.elim hw
        | succ n12 ih12 =>
          intro S a1 a2  H locs ls hw hP hF hS hl
          rw [wp_X6_move_12] at hw
          refine lv_iload_n hx hb dX6_move_12 rfl (lv_at hl 2 rfl) ?_
          refine lv_aload_n hx hb dX6_move_13 rfl (lv_at hl 0 rfl) ?_
          refine gf_6_16 (k := 367) hx hb hts (by decide +kernel) hown hK hP (by decide) (kk_367) (q := 378) (hF.1 367 16 378 ff_367_16) (hts (.fieldLink RX6 48 "OpticmeshModel" "ways" "[I") (by decide +kernel)) dX6_move_14 ?_
          refine lv_iload_n hx hb dX6_move_17 rfl (lv_at hl 1 rfl) ?_
          obtain ⟨h18, hw⟩ := hw
          refine q_iald (k := 378) (n := 60) (i := a1) hx hb hK hP (by decide) (kk_378) (ll_378) h18 dX6_move_18 ?_
          refine lv_icmp_ge (x := a2) (y := (gI S 378 (a1.toNatClampNeg))) (tgt := 53) hx hb dX6_move_19 (by decide) (fun c19 => ?_) (fun c19 => ?_)
          · rw [if_pos c19] at hw
            exact j53 S a1  _ _ _ hw hP hF hS (lv_sub hl [0, 1] rfl)
          · rw [if_neg c19] at hw
            refine lv_aload_n hx hb dX6_move_22 rfl (lv_at hl 0 rfl) ?_
            refine lv_iload_n hx hb dX6_move_23 rfl (lv_at hl 1 rfl) ?_
            refine lv_iload_n hx hb dX6_move_24 rfl (lv_at hl 2 rfl) ?_
            refine q_call (va_runV (As := [.int a1, .int a2]) (rest := []) ⟨hx, hb, hml, hown, hts⟩ (c_X6_lower l D cy b0 S a1 a2 _ hw) (cwV 2 hts gX6_move_X6_lower rfl rfl rfl (by decide +kernel) ⟨(Nat.le_of_ble_eq_true rfl), (Nat.le_of_ble_eq_true rfl)⟩) (q_pV hW hP hF hS (k := 367) (ci := 6) (by decide) (cell_6 (kk_367)) rfl [.int a1, .int a2]) rfl rfl hl.1 rfl (lv_room (Nat.le_of_ble_eq_true rfl)) dX6_move_25 ⟨(Nat.le_of_ble_eq_true rfl), (Nat.le_of_ble_eq_true rfl)⟩) hS (fun v25 S25 t25 H locs hh hp hB hz hk9 hS => ?_)
            obtain ⟨r25, rfl, hw⟩ := hp
            have hP : HP D cy b0 NALL S25 H := by rw [← hh]; exact hB.1
            have hF := hB.2
            try dsimp only at hw
            refine W.eq (g2 := F0 m 28 ls [.int r25]) rfl ?_
            refine lv_istore_n (lv' := [(3, .int r25), (0, .ref (b0 + 367)), (1, .int a1), (2, .int a2)]) hx hb dX6_move_28 rfl hl (by decide) rfl (fun ls hl => ?_)
            refine lv_iload_n hx hb dX6_move_29 rfl (lv_at hl 0 rfl) ?_
            refine lv_if_lt (x := r25) (tgt := 47) hx hb dX6_move_30 (by decide) (fun c30 => ?_) (fun c30 => ?_)
            · rw [if_pos c30] at hw
              obtain ⟨y47, e47⟩ : ∃ z : Int32, z = a2 + 1 := ⟨_, rfl⟩
              have hw := hw y47 e47
              refine lv_iinc (v := y47) (lv' := [(2, .int y47), (3, .int r25), (0, .ref (b0 + 367)), (1, .int a1)]) hx hb dX6_move_47 hl (k := 3) rfl (by rw [e47]; rfl) (by decide) rfl (fun ls hl => ?_)
              refine lv_goto (tgt := 12) hx hb dX6_move_50 (by decide) ?_
              exact ih12 S25 a1 y47  _ _ _ hw hP hF hS (lv_sub hl [2, 3, 0] rfl)
            · rw [if_neg c30] at hw
              exact j33 S25 a1 a2 r25  _ _ _ hw hP hF hS (lv_sub hl [1, 2, 3, 0] rfl)
      intro S a1  H locs ls hw hP hF hS hl
      rw [wp_X6_move_2] at hw
      refine lv_iload_n hx hb dX6_move_2 rfl (lv_at hl 1 rfl) ?_
      refine lv_aload_n hx hb dX6_move_3 rfl (lv_at hl 0 rfl) ?_
      refine gf_6_13 (k := 367) hx hb hts (by decide +kernel) hown hK hP (by decide) (kk_367) (hts (.fieldLink RX6 96 "OpticmeshModel" "lights" "I") (by decide +kernel)) dX6_move_4 ?_
      refine lv_icmp_ge (x := a1) (y := (gI S 367 13)) (tgt := 59) hx hb dX6_move_7 (by decide) (fun c7 => ?_) (fun c7 => ?_)
      · rw [if_pos c7] at hw
        exact j59 S  _ _ _ hw hP hF hS (lv_sub hl [0] rfl)
      · rw [if_neg c7] at hw
        refine lv_iconst (v := 0) hx hb dX6_move_10 (by decide) ?_
        refine lv_istore_n (lv' := [(2, .int 0), (0, .ref (b0 + 367)), (1, .int a1)]) hx hb dX6_move_11 rfl hl (by decide) rfl (fun ls hl => ?_)
        obtain ⟨n12, hw⟩ := hw
        exact j12 n12 S a1 0  _ _ _ hw hP hF hS (lv_sub hl [1, 2, 0] rfl)
  unfold wp_X6_move at hw
  refine lv_iconst (v := 0) hx hb dX6_move_0 (by decide) ?_
  refine lv_istore_n (lv' := [(1, .int 0), (0, .ref (b0 + 367))]) hx hb dX6_move_1 rfl hl (by decide) rfl (fun ls hl => ?_)
  obtain ⟨n2, hw⟩ := hw
  exact j2 n2 S 0  _ _ _ hw hP hF hS (lv_sub hl [1, 0] rfl)
set_option maxHeartbeats 4000000 in
set_option maxRecDepth 100000 in
theorem c_X6_fibresOf (l : Launch) (D : va_G) (cy : Nat → ClassId) (b0 : Nat) (S : St) (x1 : Int32)  (P : Int32 → St → Prop) (hw : wp_X6_fibresOf S x1 P) : Met l yX6_fibresOf wsX6_fibresOf rm_X6_fibresOf (va_Pc [.ref (b0 + 367), .int x1] (Wd D cy b0 NALL S)) (QC (Pi P) (Wb D cy b0 NALL) b0) 0 0 (AA b0) := by
  refine Met.ofW (cc := cX6_fibresOf) (maxL := 4) (ret := (some .int)) (by decide) rfl ?_
  intro p e s m args below meth c s₁ B hml hv
  obtain ⟨hargs, hW, hP, hF⟩ := hv
  have hx := B.exec
  have hb := B.bytes
  have hr := B.returns
  have hts := atoms_spec (ws := wsX6_fibresOf) B.pre
  have hown : s.vm.findClass RX6 = some m.cls := findClass_of_methodNamed B.named
  have hlocks := B.notSynchronized
  have hK := hW.1
  have hS : va_S (AA b0) s.heap s.heap [] := va_S.rf
  have hE : entryFrame m args 4 = F0 m 0 ((lg_sl [.ref (b0 + 367), .int x1] ++ List.replicate (4 - (lg_sl [.ref (b0 + 367), .int x1]).length) Slot.unset).toArray) [] := by rw [hargs]; exact lg_entry_eq m _ _
  rw [hE]
  have hl := lv_entry [.ref (b0 + 367), .int x1] (n := 4) (Nat.le_of_ble_eq_true rfl)
  generalize (lg_sl [.ref (b0 + 367), .int x1] ++ List.replicate (4 - (lg_sl [.ref (b0 + 367), .int x1]).length) Slot.unset).toArray = ls at hl ⊢
  have hl : lv_has ls 4 [(0, .ref (b0 + 367)), (1, .int x1)] := hl
  have j4 : ∀ (n4 : Nat), ∀ (S : St) (a2 : Int32) (a3 : Int32), ∀ (H : Heap) (locs : List Loc) (ls : Array Slot), wp_X6_fibresOf_4 x1 P n4 S a2 a3 → HP D cy b0 NALL S H → Fx S → va_S (AA b0) s.heap H locs → lv_has ls 4 [(0, .ref (b0 + 367)), (1, .int x1), (2, .int a2), (3, .int a3)] → W p l e rm_X6_fibresOf s m args below meth c H locs 0 0 (MQ below (QC (Pi P) (Wb D cy b0 NALL) b0) args s 0 0 (AA b0)) (F0 m 4 ls []) := by
    intro n4
    induction n4 with
    | zero => intro S a2 a3  H locs ls hw _ _ _ _; exact False.elim hw
    | succ n4 ih4 =>
      intro S a2 a3  H locs ls hw hP hF hS hl
      rw [wp_X6_fibresOf_4] at hw
      refine lv_iload_n hx hb dX6_fibresOf_4 rfl (lv_at hl 3 rfl) ?_
      refine lv_aload_n hx hb dX6_fibresOf_5 rfl (lv_at hl 0 rfl) ?_
      refine lv_iload_n hx hb dX6_fibresOf_6 rfl (lv_at hl 1 rfl) ?_
      refine lv_iconst (v := 0) hx hb dX6_fibresOf_7 (by decide) ?_
      refine lv_bipush (v := 7) hx hb dX6_fibresOf_8 (by decide) ?_
      refine q_call (va_runV (As := [.int x1, .int 0, .int 7]) (rest := [.int a3]) ⟨hx, hb, hml, hown, hts⟩ (c_X6_way l D cy b0 S x1 0 7 _ hw) (cwV 3 hts gX6_fibresOf_X6_way rfl rfl rfl (by decide +kernel) ⟨(Nat.le_of_ble_eq_true rfl), (Nat.le_of_ble_eq_true rfl)⟩) (q_pV hW hP hF hS (k := 367) (ci := 6) (by decide) (cell_6 (kk_367)) rfl [.int x1, .int 0, .int 7]) rfl rfl hl.1 rfl (lv_room (Nat.le_of_ble_eq_true rfl)) dX6_fibresOf_10 ⟨(Nat.le_of_ble_eq_true rfl), (Nat.le_of_ble_eq_true rfl)⟩) hS (fun v10 S10 t10 H locs hh hp hB hz hk9 hS => ?_)
      obtain ⟨r10, rfl, hw⟩ := hp
      have hP : HP D cy b0 NALL S10 H := by rw [← hh]; exact hB.1
      have hF := hB.2
      try dsimp only at hw
      refine W.eq (g2 := F0 m 13 ls [.int r10, .int a3]) rfl ?_
      refine lv_icmp_ge (x := a3) (y := r10) (tgt := 37) hx hb dX6_fibresOf_13 (by decide) (fun c13 => ?_) (fun c13 => ?_)
      · rw [if_pos c13] at hw
        refine lv_iload_n hx hb dX6_fibresOf_37 rfl (lv_at hl 2 rfl) ?_
        exact q_iret hx hb hr hP hF hS hw dX6_fibresOf_38 hlocks
      · rw [if_neg c13] at hw
        refine lv_iload_n hx hb dX6_fibresOf_16 rfl (lv_at hl 2 rfl) ?_
        refine lv_iconst (v := 1) hx hb dX6_fibresOf_17 (by decide) ?_
        refine lv_aload_n hx hb dX6_fibresOf_18 rfl (lv_at hl 0 rfl) ?_
        refine lv_iload_n hx hb dX6_fibresOf_19 rfl (lv_at hl 1 rfl) ?_
        refine lv_iconst (v := 0) hx hb dX6_fibresOf_20 (by decide) ?_
        refine lv_iload_n hx hb dX6_fibresOf_21 rfl (lv_at hl 3 rfl) ?_
        refine q_call (va_runV (As := [.int x1, .int 0, .int a3]) (rest := [.int 1, .int a2]) ⟨hx, hb, hml, hown, hts⟩ (c_X6_way l D cy b0 S10 x1 0 a3 _ hw) (cwV 3 hts gX6_fibresOf_X6_way rfl rfl rfl (by decide +kernel) ⟨(Nat.le_of_ble_eq_true rfl), (Nat.le_of_ble_eq_true rfl)⟩) (q_pV hW hP hF hS (k := 367) (ci := 6) (by decide) (cell_6 (kk_367)) rfl [.int x1, .int 0, .int a3]) rfl rfl hl.1 rfl (lv_room (Nat.le_of_ble_eq_true rfl)) dX6_fibresOf_22 ⟨(Nat.le_of_ble_eq_true rfl), (Nat.le_of_ble_eq_true rfl)⟩) hS (fun v22 S22 t22 H locs hh hp hB hz hk9 hS => ?_)
        obtain ⟨r22, rfl, hw⟩ := hp
        have hP : HP D cy b0 NALL S22 H := by rw [← hh]; exact hB.1
        have hF := hB.2
        try dsimp only at hw
        refine W.eq (g2 := F0 m 25 ls [.int r22, .int 1, .int a2]) rfl ?_
        refine lv_bipush (v := 10) hx hb dX6_fibresOf_25 (by decide) ?_
        refine lv_idiv hx hb dX6_fibresOf_27 (by decide) ?_
        refine lv_ishl hx hb dX6_fibresOf_28 ?_
        refine lv_ior hx hb dX6_fibresOf_29 ?_
        refine lv_topi (fun y30 e30 => ?_)
        have hw := hw y30 e30
        refine lv_istore_n (lv' := [(2, .int y30), (0, .ref (b0 + 367)), (1, .int x1), (3, .int a3)]) hx hb dX6_fibresOf_30 rfl hl (by decide) rfl (fun ls hl => ?_)
        obtain ⟨y31, e31⟩ : ∃ z : Int32, z = a3 + 1 := ⟨_, rfl⟩
        have hw := hw y31 e31
        refine lv_iinc (v := y31) (lv' := [(3, .int y31), (2, .int y30), (0, .ref (b0 + 367)), (1, .int x1)]) hx hb dX6_fibresOf_31 hl (k := 3) rfl (by rw [e31]; rfl) (by decide) rfl (fun ls hl => ?_)
        refine lv_goto (tgt := 4) hx hb dX6_fibresOf_34 (by decide) ?_
        exact ih4 S22 y30 y31  _ _ _ hw hP hF hS (lv_sub hl [2, 3, 1, 0] rfl)
  unfold wp_X6_fibresOf at hw
  refine lv_iconst (v := 0) hx hb dX6_fibresOf_0 (by decide) ?_
  refine lv_istore_n (lv' := [(2, .int 0), (0, .ref (b0 + 367)), (1, .int x1)]) hx hb dX6_fibresOf_1 rfl hl (by decide) rfl (fun ls hl => ?_)
  refine lv_iconst (v := 0) hx hb dX6_fibresOf_2 (by decide) ?_
  refine lv_istore_n (lv' := [(3, .int 0), (2, .int 0), (0, .ref (b0 + 367)), (1, .int x1)]) hx hb dX6_fibresOf_3 rfl hl (by decide) rfl (fun ls hl => ?_)
  obtain ⟨n4, hw⟩ := hw
  exact j4 n4 S 0 0  _ _ _ hw hP hF hS (lv_sub hl [2, 3, 1, 0] rfl)
set_option maxHeartbeats 4000000 in
set_option maxRecDepth 100000 in
theorem c_X6_laysCrossed (l : Launch) (D : va_G) (cy : Nat → ClassId) (b0 : Nat) (S : St)   (P : Int32 → St → Prop) (hw : wp_X6_laysCrossed S  P) : Met l yX6_laysCrossed wsX6_laysCrossed rm_X6_laysCrossed (va_Pc [.ref (b0 + 367)] (Wd D cy b0 NALL S)) (QC (Pi P) (Wb D cy b0 NALL) b0) 0 0 (AA b0) := by
  refine Met.ofW (cc := cX6_laysCrossed) (maxL := 4) (ret := (some .int)) (by decide) rfl ?_
  intro p e s m args below meth c s₁ B hml hv
  obtain ⟨hargs, hW, hP, hF⟩ := hv
  have hx := B.exec
  have hb := B.bytes
  have hr := B.returns
  have hts := atoms_spec (ws := wsX6_laysCrossed) B.pre
  have hown : s.vm.findClass RX6 = some m.cls := findClass_of_methodNamed B.named
  have hlocks := B.notSynchronized
  have hK := hW.1
  have hS : va_S (AA b0) s.heap s.heap [] := va_S.rf
  have hE : entryFrame m args 4 = F0 m 0 ((lg_sl [.ref (b0 + 367)] ++ List.replicate (4 - (lg_sl [.ref (b0 + 367)]).length) Slot.unset).toArray) [] := by rw [hargs]; exact lg_entry_eq m _ _
  rw [hE]
  have hl := lv_entry [.ref (b0 + 367)] (n := 4) (Nat.le_of_ble_eq_true rfl)
  generalize (lg_sl [.ref (b0 + 367)] ++ List.replicate (4 - (lg_sl [.ref (b0 + 367)]).length) Slot.unset).toArray = ls at hl ⊢
  have hl : lv_has ls 4 [(0, .ref (b0 + 367))] := hl
  have j39 : ∀ (n39 : Nat), ∀ (S : St) (a1 : Int32) (a2 : Int32), ∀ (H : Heap) (locs : List Loc) (ls : Array Slot), wp_X6_laysCrossed_39 P n39 S a1 a2 → HP D cy b0 NALL S H → Fx S → va_S (AA b0) s.heap H locs → lv_has ls 4 [(0, .ref (b0 + 367)), (1, .int a1), (2, .int a2)] → W p l e rm_X6_laysCrossed s m args below meth c H locs 0 0 (MQ below (QC (Pi P) (Wb D cy b0 NALL) b0) args s 0 0 (AA b0)) (F0 m 39 ls []) := by
    intro n39
    induction n39 with
    | zero => intro S a1 a2  H locs ls hw _ _ _ _; exact False.elim hw
    | succ n39 ih39 =>
      have j109 : ∀ (S : St) (a1 : Int32) (a2 : Int32), ∀ (H : Heap) (locs : List Loc) (ls : Array Slot), wp_X6_laysCrossed_109 P (fun S a1 a2 => wp_X6_laysCrossed_39 P n39 S a1 a2) S a1 a2 → HP D cy b0 NALL S H → Fx S → va_S (AA b0) s.heap H locs → lv_has ls 4 [(0, .ref (b0 + 367)), (1, .int a1), (2, .int a2)] → W p l e rm_X6_laysCrossed s m args below meth c H locs 0 0 (MQ below (QC (Pi P) (Wb D cy b0 NALL) b0) args s 0 0 (AA b0)) (F0 m 109 ls []) := by
        intro S a1 a2  H locs ls hw hP hF hS hl
        unfold wp_X6_laysCrossed_109 at hw
        obtain ⟨y109, e109⟩ : ∃ z : Int32, z = a2 + 1 := ⟨_, rfl⟩
        have hw := hw y109 e109
        refine lv_iinc (v := y109) (lv' := [(2, .int y109), (0, .ref (b0 + 367)), (1, .int a1)]) hx hb dX6_laysCrossed_109 hl (k := 2) rfl (by rw [e109]; rfl) (by decide) rfl (fun ls hl => ?_)
        refine lv_goto (tgt := 39) hx hb dX6_laysCrossed_112 (by decide) ?_
        exact ih39 S a1 y109  _ _ _ hw hP hF hS (lv_sub hl [1, 2, 0] rfl)
      have j53 : ∀ (n53 : Nat), ∀ (S : St) (a1 : Int32) (a2 : Int32) (a3 : Int32), ∀ (H : Heap) (locs : List Loc) (ls : Array Slot), wp_X6_laysCrossed_53 P (fun S a1 a2 => wp_X6_laysCrossed_39 P n39 S a1 a2) n53 S a1 a2 a3 → HP D cy b0 NALL S H → Fx S → va_S (AA b0) s.heap H locs → lv_has ls 4 [(0, .ref (b0 + 367)), (1, .int a1), (2, .int a2), (3, .int a3)] → W p l e rm_X6_laysCrossed s m args below meth c H locs 0 0 (MQ below (QC (Pi P) (Wb D cy b0 NALL) b0) args s 0 0 (AA b0)) (F0 m 53 ls []) := by
        intro n53
        induction n53 with
        | zero => intro S a1 a2 a3  H locs ls hw _ _ _ _; exact False.elim hw
        | succ n53 ih53 =>
          have j101 : ∀ (S : St) (a1 : Int32) (a2 : Int32) (a3 : Int32) (t1 : Int32) (t2 : Int32) (t3 : Int32), ∀ (H : Heap) (locs : List Loc) (ls : Array Slot), wp_X6_laysCrossed_101 P (fun S a1 a2 => wp_X6_laysCrossed_39 P n39 S a1 a2) (fun S a1 a2 a3 => wp_X6_laysCrossed_53 P (fun S a1 a2 => wp_X6_laysCrossed_39 P n39 S a1 a2) n53 S a1 a2 a3) S a1 a2 a3 t1 t2 t3 → HP D cy b0 NALL S H → Fx S → va_S (AA b0) s.heap H locs → lv_has ls 4 [(0, .ref (b0 + 367)), (1, .int a1), (2, .int a2), (3, .int a3)] → W p l e rm_X6_laysCrossed s m args below meth c H locs 0 0 (MQ below (QC (Pi P) (Wb D cy b0 NALL) b0) args s 0 0 (AA b0)) (F0 m 101 ls [.int t3, .int t2, .int t1, .ref (b0 + 388)]) := by
            intro S a1 a2 a3 t1 t2 t3  H locs ls hw hP hF hS hl
            unfold wp_X6_laysCrossed_101 at hw
            refine lv_ior hx hb dX6_laysCrossed_101 ?_
            obtain ⟨h102, hw⟩ := hw
            refine q_iast (k := 388) (n := 12) (i := t1) (x := (t2 ||| t3)) hx hb hK hP hS (by decide) (kk_388) (ll_388) h102 dX6_laysCrossed_102 (fun H locs hz hP hS => ?_)
            have hF : Fx (sI S 388 (t1.toNatClampNeg) (t2 ||| t3)) := Fx.sI hF _ _ _
            generalize eS102 : sI S 388 (t1.toNatClampNeg) (t2 ||| t3) = S102 at hP hF
            have hw := hw S102 eS102.symm
            obtain ⟨y103, e103⟩ : ∃ z : Int32, z = a3 + 1 := ⟨_, rfl⟩
            have hw := hw y103 e103
            refine lv_iinc (v := y103) (lv' := [(3, .int y103), (0, .ref (b0 + 367)), (1, .int a1), (2, .int a2)]) hx hb dX6_laysCrossed_103 hl (k := 3) rfl (by rw [e103]; rfl) (by decide) rfl (fun ls hl => ?_)
            refine lv_goto (tgt := 53) hx hb dX6_laysCrossed_106 (by decide) ?_
            exact ih53 S102 a1 a2 y103  _ _ _ hw hP hF hS (lv_sub hl [1, 2, 3, 0] rfl)
          have j100 : ∀ (S : St) (a1 : Int32) (a2 : Int32) (a3 : Int32) (t1 : Int32) (t2 : Int32), ∀ (H : Heap) (locs : List Loc) (ls : Array Slot), wp_X6_laysCrossed_100 P (fun S a1 a2 => wp_X6_laysCrossed_39 P n39 S a1 a2) (fun S a1 a2 a3 => wp_X6_laysCrossed_53 P (fun S a1 a2 => wp_X6_laysCrossed_39 P n39 S a1 a2) n53 S a1 a2 a3) S a1 a2 a3 t1 t2 → HP D cy b0 NALL S H → Fx S → va_S (AA b0) s.heap H locs → lv_has ls 4 [(0, .ref (b0 + 367)), (1, .int a1), (2, .int a2), (3, .int a3)] → W p l e rm_X6_laysCrossed s m args below meth c H locs 0 0 (MQ below (QC (Pi P) (Wb D cy b0 NALL) b0) args s 0 0 (AA b0)) (F0 m 100 ls [.int t2, .int t1, .ref (b0 + 388)]) := by
            intro S a1 a2 a3 t1 t2  H locs ls hw hP hF hS hl
            unfold wp_X6_laysCrossed_100 at hw
            refine lv_iconst (v := 0) hx hb dX6_laysCrossed_100 (by decide) ?_
            exact j101 S a1 a2 a3 t1 t2 0  _ _ _ hw hP hF hS (lv_sub hl [0, 1, 2, 3] rfl)
          intro S a1 a2 a3  H locs ls hw hP hF hS hl
          rw [wp_X6_laysCrossed_53] at hw
          refine lv_iload_n hx hb dX6_laysCrossed_53 rfl (lv_at hl 3 rfl) ?_
          refine lv_iload_n hx hb dX6_laysCrossed_54 rfl (lv_at hl 1 rfl) ?_
          refine lv_icmp_ge (x := a3) (y := a1) (tgt := 109) hx hb dX6_laysCrossed_55 (by decide) (fun c55 => ?_) (fun c55 => ?_)
          · rw [if_pos c55] at hw
            exact j109 S a1 a2  _ _ _ hw hP hF hS (lv_sub hl [0, 1, 2] rfl)
          · rw [if_neg c55] at hw
            refine lv_aload_n hx hb dX6_laysCrossed_58 rfl (lv_at hl 0 rfl) ?_
            refine gf_6_26 (k := 367) hx hb hts (by decide +kernel) hown hK hP (by decide) (kk_367) (q := 388) (hF.1 367 26 388 ff_367_26) (hts (.fieldLink RX6 78 "OpticmeshModel" "crossed" "[I") (by decide +kernel)) dX6_laysCrossed_59 ?_
            refine lv_iload_n hx hb dX6_laysCrossed_62 rfl (lv_at hl 2 rfl) ?_
            refine lv_dup2_11 hx hb dX6_laysCrossed_63 rfl rfl ?_
            obtain ⟨h64, hw⟩ := hw
            refine q_iald (k := 388) (n := 12) (i := a2) hx hb hK hP (by decide) (kk_388) (ll_388) h64 dX6_laysCrossed_64 ?_
            refine lv_iload_n hx hb dX6_laysCrossed_65 rfl (lv_at hl 3 rfl) ?_
            refine lv_iload_n hx hb dX6_laysCrossed_66 rfl (lv_at hl 2 rfl) ?_
            refine lv_icmp_eq (x := a3) (y := a2) (tgt := 100) hx hb dX6_laysCrossed_67 (by decide) (fun c67 => ?_) (fun c67 => ?_)
            · rw [if_pos c67] at hw
              exact j100 S a1 a2 a3 a2 (gI S 388 (a2.toNatClampNeg))  _ _ _ hw hP hF hS (lv_sub hl [0, 1, 2, 3] rfl)
            · rw [if_neg c67] at hw
              refine lv_aload_n hx hb dX6_laysCrossed_70 rfl (lv_at hl 0 rfl) ?_
              refine lv_aload_n hx hb dX6_laysCrossed_71 rfl (lv_at hl 0 rfl) ?_
              refine gf_6_25 (k := 367) hx hb hts (by decide +kernel) hown hK hP (by decide) (kk_367) (q := 387) (hF.1 367 25 387 ff_367_25) (hts (.fieldLink RX6 75 "OpticmeshModel" "alive" "[I") (by decide +kernel)) dX6_laysCrossed_72 ?_
              refine lv_iload_n hx hb dX6_laysCrossed_75 rfl (lv_at hl 2 rfl) ?_
              obtain ⟨h76, hw⟩ := hw
              refine q_iald (k := 387) (n := 12) (i := a2) hx hb hK hP (by decide) (kk_387) (ll_387) h76 dX6_laysCrossed_76 ?_
              refine q_call (va_runV (As := [.int (gI S 387 (a2.toNatClampNeg))]) (rest := [.int (gI S 388 (a2.toNatClampNeg)), .int a2, .ref (b0 + 388)]) ⟨hx, hb, hml, hown, hts⟩ (c_X6_fibresOf l D cy b0 S (gI S 387 (a2.toNatClampNeg)) _ hw) (cwV 1 hts gX6_laysCrossed_X6_fibresOf rfl rfl rfl (by decide +kernel) ⟨(Nat.le_of_ble_eq_true rfl), (Nat.le_of_ble_eq_true rfl)⟩) (q_pV hW hP hF hS (k := 367) (ci := 6) (by decide) (cell_6 (kk_367)) rfl [.int (gI S 387 (a2.toNatClampNeg))]) rfl rfl hl.1 rfl (lv_room (Nat.le_of_ble_eq_true rfl)) dX6_laysCrossed_77 ⟨(Nat.le_of_ble_eq_true rfl), (Nat.le_of_ble_eq_true rfl)⟩) hS (fun v77 S77 t77 H locs hh hp hB hz hk9 hS => ?_)
              obtain ⟨r77, rfl, hw⟩ := hp
              have hP : HP D cy b0 NALL S77 H := by rw [← hh]; exact hB.1
              have hF := hB.2
              try dsimp only at hw
              refine W.eq (g2 := F0 m 80 ls [.int r77, .int (gI S 388 (a2.toNatClampNeg)), .int a2, .ref (b0 + 388)]) rfl ?_
              refine lv_aload_n hx hb dX6_laysCrossed_80 rfl (lv_at hl 0 rfl) ?_
              refine lv_aload_n hx hb dX6_laysCrossed_81 rfl (lv_at hl 0 rfl) ?_
              refine gf_6_25 (k := 367) hx hb hts (by decide +kernel) hown hK hP (by decide) (kk_367) (q := 387) (hF.1 367 25 387 ff_367_25) (hts (.fieldLink RX6 75 "OpticmeshModel" "alive" "[I") (by decide +kernel)) dX6_laysCrossed_82 ?_
              refine lv_iload_n hx hb dX6_laysCrossed_85 rfl (lv_at hl 3 rfl) ?_
              obtain ⟨h86, hw⟩ := hw
              refine q_iald (k := 387) (n := 12) (i := a3) hx hb hK hP (by decide) (kk_387) (ll_387) h86 dX6_laysCrossed_86 ?_
              refine q_call (va_runV (As := [.int (gI S77 387 (a3.toNatClampNeg))]) (rest := [.int r77, .int (gI S 388 (a2.toNatClampNeg)), .int a2, .ref (b0 + 388)]) ⟨hx, hb, hml, hown, hts⟩ (c_X6_fibresOf l D cy b0 S77 (gI S77 387 (a3.toNatClampNeg)) _ hw) (cwV 1 hts gX6_laysCrossed_X6_fibresOf rfl rfl rfl (by decide +kernel) ⟨(Nat.le_of_ble_eq_true rfl), (Nat.le_of_ble_eq_true rfl)⟩) (q_pV hW hP hF hS (k := 367) (ci := 6) (by decide) (cell_6 (kk_367)) rfl [.int (gI S77 387 (a3.toNatClampNeg))]) rfl rfl hl.1 rfl (lv_room (Nat.le_of_ble_eq_true rfl)) dX6_laysCrossed_87 ⟨(Nat.le_of_ble_eq_true rfl), (Nat.le_of_ble_eq_true rfl)⟩) hS (fun v87 S87 t87 H locs hh hp hB hz hk9 hS => ?_)
              obtain ⟨r87, rfl, hw⟩ := hp
              have hP : HP D cy b0 NALL S87 H := by rw [← hh]; exact hB.1
              have hF := hB.2
              try dsimp only at hw
              refine W.eq (g2 := F0 m 90 ls [.int r87, .int r77, .int (gI S 388 (a2.toNatClampNeg)), .int a2, .ref (b0 + 388)]) rfl ?_
              refine lv_iand hx hb dX6_laysCrossed_90 ?_
              refine lv_if_eq (x := (r77 &&& r87)) (tgt := 100) hx hb dX6_laysCrossed_91 (by decide) (fun c91 => ?_) (fun c91 => ?_)
              · rw [if_pos c91] at hw
                exact j100 S87 a1 a2 a3 a2 (gI S 388 (a2.toNatClampNeg))  _ _ _ hw hP hF hS (lv_sub hl [0, 1, 2, 3] rfl)
              · rw [if_neg c91] at hw
                refine lv_iconst (v := 1) hx hb dX6_laysCrossed_94 (by decide) ?_
                refine lv_iload_n hx hb dX6_laysCrossed_95 rfl (lv_at hl 3 rfl) ?_
                refine lv_ishl hx hb dX6_laysCrossed_96 ?_
                refine lv_goto (tgt := 101) hx hb dX6_laysCrossed_97 (by decide) ?_
                exact j101 S87 a1 a2 a3 a2 (gI S 388 (a2.toNatClampNeg)) (1 <<< (a3 &&& 31))  _ _ _ hw hP hF hS (lv_sub hl [0, 1, 2, 3] rfl)
      intro S a1 a2  H locs ls hw hP hF hS hl
      rw [wp_X6_laysCrossed_39] at hw
      refine lv_iload_n hx hb dX6_laysCrossed_39 rfl (lv_at hl 2 rfl) ?_
      refine lv_iload_n hx hb dX6_laysCrossed_40 rfl (lv_at hl 1 rfl) ?_
      refine lv_icmp_ge (x := a2) (y := a1) (tgt := 115) hx hb dX6_laysCrossed_41 (by decide) (fun c41 => ?_) (fun c41 => ?_)
      · rw [if_pos c41] at hw
        refine lv_iload_n hx hb dX6_laysCrossed_115 rfl (lv_at hl 1 rfl) ?_
        exact q_iret hx hb hr hP hF hS hw dX6_laysCrossed_116 hlocks
      · rw [if_neg c41] at hw
        refine lv_aload_n hx hb dX6_laysCrossed_44 rfl (lv_at hl 0 rfl) ?_
        refine gf_6_26 (k := 367) hx hb hts (by decide +kernel) hown hK hP (by decide) (kk_367) (q := 388) (hF.1 367 26 388 ff_367_26) (hts (.fieldLink RX6 78 "OpticmeshModel" "crossed" "[I") (by decide +kernel)) dX6_laysCrossed_45 ?_
        refine lv_iload_n hx hb dX6_laysCrossed_48 rfl (lv_at hl 2 rfl) ?_
        refine lv_iconst (v := 0) hx hb dX6_laysCrossed_49 (by decide) ?_
        obtain ⟨h50, hw⟩ := hw
        refine q_iast (k := 388) (n := 12) (i := a2) (x := 0) hx hb hK hP hS (by decide) (kk_388) (ll_388) h50 dX6_laysCrossed_50 (fun H locs hz hP hS => ?_)
        have hF : Fx (sI S 388 (a2.toNatClampNeg) 0) := Fx.sI hF _ _ _
        generalize eS50 : sI S 388 (a2.toNatClampNeg) 0 = S50 at hP hF
        have hw := hw S50 eS50.symm
        refine lv_iconst (v := 0) hx hb dX6_laysCrossed_51 (by decide) ?_
        refine lv_istore_n (lv' := [(3, .int 0), (0, .ref (b0 + 367)), (1, .int a1), (2, .int a2)]) hx hb dX6_laysCrossed_52 rfl hl (by decide) rfl (fun ls hl => ?_)
        obtain ⟨n53, hw⟩ := hw
        exact j53 n53 S50 a1 a2 0  _ _ _ hw hP hF hS (lv_sub hl [1, 2, 3, 0] rfl)
  have j37 : ∀ (S : St) (a1 : Int32), ∀ (H : Heap) (locs : List Loc) (ls : Array Slot), wp_X6_laysCrossed_37 P S a1 → HP D cy b0 NALL S H → Fx S → va_S (AA b0) s.heap H locs → lv_has ls 4 [(0, .ref (b0 + 367)), (1, .int a1)] → W p l e rm_X6_laysCrossed s m args below meth c H locs 0 0 (MQ below (QC (Pi P) (Wb D cy b0 NALL) b0) args s 0 0 (AA b0)) (F0 m 37 ls []) := by
    intro S a1  H locs ls hw hP hF hS hl
    unfold wp_X6_laysCrossed_37 at hw
    refine lv_iconst (v := 0) hx hb dX6_laysCrossed_37 (by decide) ?_
    refine lv_istore_n (lv' := [(2, .int 0), (0, .ref (b0 + 367)), (1, .int a1)]) hx hb dX6_laysCrossed_38 rfl hl (by decide) rfl (fun ls hl => ?_)
    obtain ⟨n39, hw⟩ := hw
    exact j39 n39 S a1 0  _ _ _ hw hP hF hS (lv_sub hl [1, 2, 0] rfl)
  have j4 : ∀ (n4 : Nat), ∀ (S : St) (a1 : Int32) (a2 : Int32), ∀ (H : Heap) (locs : List Loc) (ls : Array Slot), wp_X6_laysCrossed_4 P n4 S a1 a2 → HP D cy b0 NALL S H → Fx S → va_S (AA b0) s.heap H locs → lv_has ls 4 [(0, .ref (b0 + 367)), (1, .int a1), (2, .int a2)] → W p l e rm_X6_laysCrossed s m args below meth c H locs 0 0 (MQ below (QC (Pi P) (Wb D cy b0 NALL) b0) args s 0 0 (AA b0)) (F0 m 4 ls []) := by
    intro n4
    induction n4 with
    | zero => intro S a1 a2  H locs ls hw _ _ _ _; exact False.elim hw
    | succ n4 ih4 =>
      have j31 : ∀ (S : St) (a1 : Int32) (a2 : Int32), ∀ (H : Heap) (locs : List Loc) (ls : Array Slot), wp_X6_laysCrossed_31 P (fun S a1 a2 => wp_X6_laysCrossed_4 P n4 S a1 a2) S a1 a2 → HP D cy b0 NALL S H → Fx S → va_S (AA b0) s.heap H locs → lv_has ls 4 [(0, .ref (b0 + 367)), (1, .int a1), (2, .int a2)] → W p l e rm_X6_laysCrossed s m args below meth c H locs 0 0 (MQ below (QC (Pi P) (Wb D cy b0 NALL) b0) args s 0 0 (AA b0)) (F0 m 31 ls []) := by
        intro S a1 a2  H locs ls hw hP hF hS hl
        unfold wp_X6_laysCrossed_31 at hw
        obtain ⟨y31, e31⟩ : ∃ z : Int32, z = a2 + 1 := ⟨_, rfl⟩
        have hw := hw y31 e31
        refine lv_iinc (v := y31) (lv' := [(2, .int y31), (0, .ref (b0 + 367)), (1, .int a1)]) hx hb dX6_laysCrossed_31 hl (k := 2) rfl (by rw [e31]; rfl) (by decide) rfl (fun ls hl => ?_)
        refine lv_goto (tgt := 4) hx hb dX6_laysCrossed_34 (by decide) ?_
        exact ih4 S a1 y31  _ _ _ hw hP hF hS (lv_sub hl [1, 2, 0] rfl)
      intro S a1 a2  H locs ls hw hP hF hS hl
      rw [wp_X6_laysCrossed_4] at hw
      refine lv_iload_n hx hb dX6_laysCrossed_4 rfl (lv_at hl 2 rfl) ?_
      refine lv_aload_n hx hb dX6_laysCrossed_5 rfl (lv_at hl 0 rfl) ?_
      refine gf_6_13 (k := 367) hx hb hts (by decide +kernel) hown hK hP (by decide) (kk_367) (hts (.fieldLink RX6 96 "OpticmeshModel" "lights" "I") (by decide +kernel)) dX6_laysCrossed_6 ?_
      refine lv_icmp_ge (x := a2) (y := (gI S 367 13)) (tgt := 37) hx hb dX6_laysCrossed_9 (by decide) (fun c9 => ?_) (fun c9 => ?_)
      · rw [if_pos c9] at hw
        exact j37 S a1  _ _ _ hw hP hF hS (lv_sub hl [0, 1] rfl)
      · rw [if_neg c9] at hw
        refine lv_aload_n hx hb dX6_laysCrossed_12 rfl (lv_at hl 0 rfl) ?_
        refine gf_6_16 (k := 367) hx hb hts (by decide +kernel) hown hK hP (by decide) (kk_367) (q := 378) (hF.1 367 16 378 ff_367_16) (hts (.fieldLink RX6 48 "OpticmeshModel" "ways" "[I") (by decide +kernel)) dX6_laysCrossed_13 ?_
        refine lv_iload_n hx hb dX6_laysCrossed_16 rfl (lv_at hl 2 rfl) ?_
        obtain ⟨h17, hw⟩ := hw
        refine q_iald (k := 378) (n := 60) (i := a2) hx hb hK hP (by decide) (kk_378) (ll_378) h17 dX6_laysCrossed_17 ?_
        refine lv_if_le (x := (gI S 378 (a2.toNatClampNeg))) (tgt := 31) hx hb dX6_laysCrossed_18 (by decide) (fun c18 => ?_) (fun c18 => ?_)
        · rw [if_pos c18] at hw
          exact j31 S a1 a2  _ _ _ hw hP hF hS (lv_sub hl [0, 1, 2] rfl)
        · rw [if_neg c18] at hw
          refine lv_aload_n hx hb dX6_laysCrossed_21 rfl (lv_at hl 0 rfl) ?_
          refine gf_6_25 (k := 367) hx hb hts (by decide +kernel) hown hK hP (by decide) (kk_367) (q := 387) (hF.1 367 25 387 ff_367_25) (hts (.fieldLink RX6 75 "OpticmeshModel" "alive" "[I") (by decide +kernel)) dX6_laysCrossed_22 ?_
          refine lv_iload_n hx hb dX6_laysCrossed_25 rfl (lv_at hl 1 rfl) ?_
          refine lv_iload_n hx hb dX6_laysCrossed_26 rfl (lv_at hl 2 rfl) ?_
          obtain ⟨h27, hw⟩ := hw
          refine q_iast (k := 387) (n := 12) (i := a1) (x := a2) hx hb hK hP hS (by decide) (kk_387) (ll_387) h27 dX6_laysCrossed_27 (fun H locs hz hP hS => ?_)
          have hF : Fx (sI S 387 (a1.toNatClampNeg) a2) := Fx.sI hF _ _ _
          generalize eS27 : sI S 387 (a1.toNatClampNeg) a2 = S27 at hP hF
          have hw := hw S27 eS27.symm
          obtain ⟨y28, e28⟩ : ∃ z : Int32, z = a1 + 1 := ⟨_, rfl⟩
          have hw := hw y28 e28
          refine lv_iinc (v := y28) (lv' := [(1, .int y28), (0, .ref (b0 + 367)), (2, .int a2)]) hx hb dX6_laysCrossed_28 hl (k := 1) rfl (by rw [e28]; rfl) (by decide) rfl (fun ls hl => ?_)
          exact j31 S27 y28 a2  _ _ _ hw hP hF hS (lv_sub hl [1, 0, 2] rfl)
  unfold wp_X6_laysCrossed at hw
  refine lv_iconst (v := 0) hx hb dX6_laysCrossed_0 (by decide) ?_
  refine lv_istore_n (lv' := [(1, .int 0), (0, .ref (b0 + 367))]) hx hb dX6_laysCrossed_1 rfl hl (by decide) rfl (fun ls hl => ?_)
  refine lv_iconst (v := 0) hx hb dX6_laysCrossed_2 (by decide) ?_
  refine lv_istore_n (lv' := [(2, .int 0), (1, .int 0), (0, .ref (b0 + 367))]) hx hb dX6_laysCrossed_3 rfl hl (by decide) rfl (fun ls hl => ?_)
  obtain ⟨n4, hw⟩ := hw
  exact j4 n4 S 0 0  _ _ _ hw hP hF hS (lv_sub hl [2, 1, 0] rfl)
set_option maxHeartbeats 4000000 in
set_option maxRecDepth 100000 in
theorem c_X6_isApart (l : Launch) (D : va_G) (cy : Nat → ClassId) (b0 : Nat) (S : St) (x1 : Int32) (x2 : Int32)  (P : Bool → St → Prop) (hw : wp_X6_isApart S x1 x2 P) : Met l yX6_isApart wsX6_isApart rm_X6_isApart (va_Pc [.ref (b0 + 367), .int x1, .int x2] (Wd D cy b0 NALL S)) (QC (Pz P) (Wb D cy b0 NALL) b0) 0 0 (AA b0) := by
  refine Met.ofW (cc := cX6_isApart) (maxL := 4) (ret := (some .boolean)) (by decide) rfl ?_
  intro p e s m args below meth c s₁ B hml hv
  obtain ⟨hargs, hW, hP, hF⟩ := hv
  have hx := B.exec
  have hb := B.bytes
  have hr := B.returns
  have hts := atoms_spec (ws := wsX6_isApart) B.pre
  have hown : s.vm.findClass RX6 = some m.cls := findClass_of_methodNamed B.named
  have hlocks := B.notSynchronized
  have hK := hW.1
  have hS : va_S (AA b0) s.heap s.heap [] := va_S.rf
  have hE : entryFrame m args 4 = F0 m 0 ((lg_sl [.ref (b0 + 367), .int x1, .int x2] ++ List.replicate (4 - (lg_sl [.ref (b0 + 367), .int x1, .int x2]).length) Slot.unset).toArray) [] := by rw [hargs]; exact lg_entry_eq m _ _
  rw [hE]
  have hl := lv_entry [.ref (b0 + 367), .int x1, .int x2] (n := 4) (Nat.le_of_ble_eq_true rfl)
  generalize (lg_sl [.ref (b0 + 367), .int x1, .int x2] ++ List.replicate (4 - (lg_sl [.ref (b0 + 367), .int x1, .int x2]).length) Slot.unset).toArray = ls at hl ⊢
  have hl : lv_has ls 4 [(0, .ref (b0 + 367)), (1, .int x1), (2, .int x2)] := hl
  have j2 : ∀ (n2 : Nat), ∀ (S : St) (a3 : Int32), ∀ (H : Heap) (locs : List Loc) (ls : Array Slot), wp_X6_isApart_2 x1 x2 P n2 S a3 → HP D cy b0 NALL S H → Fx S → va_S (AA b0) s.heap H locs → lv_has ls 4 [(0, .ref (b0 + 367)), (1, .int x1), (2, .int x2), (3, .int a3)] → W p l e rm_X6_isApart s m args below meth c H locs 0 0 (MQ below (QC (Pz P) (Wb D cy b0 NALL) b0) args s 0 0 (AA b0)) (F0 m 2 ls []) := by
    intro n2
    induction n2 with
    | zero => intro S a3  H locs ls hw _ _ _ _; exact False.elim hw
    | succ n2 ih2 =>
      have j29 : ∀ (S : St) (a3 : Int32), ∀ (H : Heap) (locs : List Loc) (ls : Array Slot), wp_X6_isApart_29 x1 x2 P (fun S a3 => wp_X6_isApart_2 x1 x2 P n2 S a3) S a3 → HP D cy b0 NALL S H → Fx S → va_S (AA b0) s.heap H locs → lv_has ls 4 [(0, .ref (b0 + 367)), (1, .int x1), (2, .int x2), (3, .int a3)] → W p l e rm_X6_isApart s m args below meth c H locs 0 0 (MQ below (QC (Pz P) (Wb D cy b0 NALL) b0) args s 0 0 (AA b0)) (F0 m 29 ls []) := by
        intro S a3  H locs ls hw hP hF hS hl
        unfold wp_X6_isApart_29 at hw
        obtain ⟨y29, e29⟩ : ∃ z : Int32, z = a3 + 1 := ⟨_, rfl⟩
        have hw := hw y29 e29
        refine lv_iinc (v := y29) (lv' := [(3, .int y29), (0, .ref (b0 + 367)), (1, .int x1), (2, .int x2)]) hx hb dX6_isApart_29 hl (k := 3) rfl (by rw [e29]; rfl) (by decide) rfl (fun ls hl => ?_)
        refine lv_goto (tgt := 2) hx hb dX6_isApart_32 (by decide) ?_
        exact ih2 S y29  _ _ _ hw hP hF hS (lv_sub hl [1, 2, 3, 0] rfl)
      intro S a3  H locs ls hw hP hF hS hl
      rw [wp_X6_isApart_2] at hw
      refine lv_iload_n hx hb dX6_isApart_2 rfl (lv_at hl 3 rfl) ?_
      refine lv_iload_n hx hb dX6_isApart_3 rfl (lv_at hl 2 rfl) ?_
      refine lv_icmp_ge (x := a3) (y := x2) (tgt := 35) hx hb dX6_isApart_4 (by decide) (fun c4 => ?_) (fun c4 => ?_)
      · rw [if_pos c4] at hw
        refine lv_iconst (v := 1) hx hb dX6_isApart_35 (by decide) ?_
        exact q_zret (v := true) hx hb hr hP hF hS hw dX6_isApart_36 hlocks
      · rw [if_neg c4] at hw
        refine lv_iload_n hx hb dX6_isApart_7 rfl (lv_at hl 1 rfl) ?_
        refine lv_iload_n hx hb dX6_isApart_8 rfl (lv_at hl 3 rfl) ?_
        refine lv_ishr hx hb dX6_isApart_9 ?_
        refine lv_iconst (v := 1) hx hb dX6_isApart_10 (by decide) ?_
        refine lv_iand hx hb dX6_isApart_11 ?_
        refine lv_iconst (v := 1) hx hb dX6_isApart_12 (by decide) ?_
        refine lv_icmp_ne (x := ((x1 >>> (a3 &&& 31)) &&& 1)) (y := 1) (tgt := 29) hx hb dX6_isApart_13 (by decide) (fun c13 => ?_) (fun c13 => ?_)
        · rw [if_neg c13] at hw
          exact j29 S a3  _ _ _ hw hP hF hS (lv_sub hl [0, 1, 2, 3] rfl)
        · rw [if_pos c13] at hw
          refine lv_aload_n hx hb dX6_isApart_16 rfl (lv_at hl 0 rfl) ?_
          refine gf_6_26 (k := 367) hx hb hts (by decide +kernel) hown hK hP (by decide) (kk_367) (q := 388) (hF.1 367 26 388 ff_367_26) (hts (.fieldLink RX6 78 "OpticmeshModel" "crossed" "[I") (by decide +kernel)) dX6_isApart_17 ?_
          refine lv_iload_n hx hb dX6_isApart_20 rfl (lv_at hl 3 rfl) ?_
          obtain ⟨h21, hw⟩ := hw
          refine q_iald (k := 388) (n := 12) (i := a3) hx hb hK hP (by decide) (kk_388) (ll_388) h21 dX6_isApart_21 ?_
          refine lv_iload_n hx hb dX6_isApart_22 rfl (lv_at hl 1 rfl) ?_
          refine lv_iand hx hb dX6_isApart_23 ?_
          refine lv_if_eq (x := ((gI S 388 (a3.toNatClampNeg)) &&& x1)) (tgt := 29) hx hb dX6_isApart_24 (by decide) (fun c24 => ?_) (fun c24 => ?_)
          · rw [if_pos c24] at hw
            exact j29 S a3  _ _ _ hw hP hF hS (lv_sub hl [0, 1, 2, 3] rfl)
          · rw [if_neg c24] at hw
            refine lv_iconst (v := 0) hx hb dX6_isApart_27 (by decide) ?_
            exact q_zret (v := false) hx hb hr hP hF hS hw dX6_isApart_28 hlocks
  unfold wp_X6_isApart at hw
  refine lv_iconst (v := 0) hx hb dX6_isApart_0 (by decide) ?_
  refine lv_istore_n (lv' := [(3, .int 0), (0, .ref (b0 + 367)), (1, .int x1), (2, .int x2)]) hx hb dX6_isApart_1 rfl hl (by decide) rfl (fun ls hl => ?_)
  obtain ⟨n2, hw⟩ := hw
  exact j2 n2 S 0  _ _ _ hw hP hF hS (lv_sub hl [1, 2, 3, 0] rfl)
set_option maxHeartbeats 4000000 in
set_option maxRecDepth 100000 in
theorem c_X6_wavelengthsNeeded (l : Launch) (D : va_G) (cy : Nat → ClassId) (b0 : Nat) (S : St)   (P : Int32 → St → Prop) (hw : wp_X6_wavelengthsNeeded S  P) : Met l yX6_wavelengthsNeeded wsX6_wavelengthsNeeded rm_X6_wavelengthsNeeded (va_Pc [.ref (b0 + 367)] (Wd D cy b0 NALL S)) (QC (Pi P) (Wb D cy b0 NALL) b0) 0 0 (AA b0) := by
  refine Met.ofW (cc := cX6_wavelengthsNeeded) (maxL := 5) (ret := (some .int)) (by decide) rfl ?_
  intro p e s m args below meth c s₁ B hml hv
  obtain ⟨hargs, hW, hP, hF⟩ := hv
  have hx := B.exec
  have hb := B.bytes
  have hr := B.returns
  have hts := atoms_spec (ws := wsX6_wavelengthsNeeded) B.pre
  have hown : s.vm.findClass RX6 = some m.cls := findClass_of_methodNamed B.named
  have hlocks := B.notSynchronized
  have hK := hW.1
  have hS : va_S (AA b0) s.heap s.heap [] := va_S.rf
  have hE : entryFrame m args 5 = F0 m 0 ((lg_sl [.ref (b0 + 367)] ++ List.replicate (5 - (lg_sl [.ref (b0 + 367)]).length) Slot.unset).toArray) [] := by rw [hargs]; exact lg_entry_eq m _ _
  rw [hE]
  have hl := lv_entry [.ref (b0 + 367)] (n := 5) (Nat.le_of_ble_eq_true rfl)
  generalize (lg_sl [.ref (b0 + 367)] ++ List.replicate (5 - (lg_sl [.ref (b0 + 367)]).length) Slot.unset).toArray = ls at hl ⊢
  have hl : lv_has ls 5 [(0, .ref (b0 + 367))] := hl
  have j129 : ∀ (S : St) (a1 : Int32), ∀ (H : Heap) (locs : List Loc) (ls : Array Slot), wp_X6_wavelengthsNeeded_129 P S a1 → HP D cy b0 NALL S H → Fx S → va_S (AA b0) s.heap H locs → lv_has ls 5 [(0, .ref (b0 + 367)), (1, .int a1)] → W p l e rm_X6_wavelengthsNeeded s m args below meth c H locs 0 0 (MQ below (QC (Pi P) (Wb D cy b0 NALL) b0) args s 0 0 (AA b0)) (F0 m 129 ls []) := by
    intro S a1  H locs ls hw hP hF hS hl
    unfold wp_X6_wavelengthsNeeded_129 at hw
    refine lv_aload_n hx hb dX6_wavelengthsNeeded_129 rfl (lv_at hl 0 rfl) ?_
    refine gf_6_27 (k := 367) hx hb hts (by decide +kernel) hown hK hP (by decide) (kk_367) (q := 389) (hF.1 367 27 389 ff_367_27) (hts (.fieldLink RX6 81 "OpticmeshModel" "needed" "[I") (by decide +kernel)) dX6_wavelengthsNeeded_130 ?_
    refine lv_iconst (v := 1) hx hb dX6_wavelengthsNeeded_133 (by decide) ?_
    refine lv_iload_n hx hb dX6_wavelengthsNeeded_134 rfl (lv_at hl 1 rfl) ?_
    refine lv_ishl hx hb dX6_wavelengthsNeeded_135 ?_
    refine lv_iconst (v := 1) hx hb dX6_wavelengthsNeeded_136 (by decide) ?_
    refine lv_isub hx hb dX6_wavelengthsNeeded_137 ?_
    obtain ⟨h138, hw⟩ := hw
    refine q_iald (k := 389) (n := 4096) (i := ((1 <<< (a1 &&& 31)) - 1)) hx hb hK hP (by decide) (kk_389) (ll_389) h138 dX6_wavelengthsNeeded_138 ?_
    exact q_iret hx hb hr hP hF hS hw dX6_wavelengthsNeeded_139 hlocks
  have j19 : ∀ (n19 : Nat), ∀ (S : St) (a1 : Int32) (a2 : Int32), ∀ (H : Heap) (locs : List Loc) (ls : Array Slot), wp_X6_wavelengthsNeeded_19 P n19 S a1 a2 → HP D cy b0 NALL S H → Fx S → va_S (AA b0) s.heap H locs → lv_has ls 5 [(0, .ref (b0 + 367)), (1, .int a1), (2, .int a2)] → W p l e rm_X6_wavelengthsNeeded s m args below meth c H locs 0 0 (MQ below (QC (Pi P) (Wb D cy b0 NALL) b0) args s 0 0 (AA b0)) (F0 m 19 ls []) := by
    intro n19
    induction n19 with
    | zero => intro S a1 a2  H locs ls hw _ _ _ _; exact False.elim hw
    | succ n19 ih19 =>
      have j123 : ∀ (S : St) (a1 : Int32) (a2 : Int32), ∀ (H : Heap) (locs : List Loc) (ls : Array Slot), wp_X6_wavelengthsNeeded_123 P (fun S a1 a2 => wp_X6_wavelengthsNeeded_19 P n19 S a1 a2) S a1 a2 → HP D cy b0 NALL S H → Fx S → va_S (AA b0) s.heap H locs → lv_has ls 5 [(0, .ref (b0 + 367)), (1, .int a1), (2, .int a2)] → W p l e rm_X6_wavelengthsNeeded s m args below meth c H locs 0 0 (MQ below (QC (Pi P) (Wb D cy b0 NALL) b0) args s 0 0 (AA b0)) (F0 m 123 ls []) := by
        intro S a1 a2  H locs ls hw hP hF hS hl
        unfold wp_X6_wavelengthsNeeded_123 at hw
        obtain ⟨y123, e123⟩ : ∃ z : Int32, z = a2 + 1 := ⟨_, rfl⟩
        have hw := hw y123 e123
        refine lv_iinc (v := y123) (lv' := [(2, .int y123), (0, .ref (b0 + 367)), (1, .int a1)]) hx hb dX6_wavelengthsNeeded_123 hl (k := 2) rfl (by rw [e123]; rfl) (by decide) rfl (fun ls hl => ?_)
        refine lv_goto (tgt := 19) hx hb dX6_wavelengthsNeeded_126 (by decide) ?_
        exact ih19 S a1 y123  _ _ _ hw hP hF hS (lv_sub hl [1, 2, 0] rfl)
      have j54 : ∀ (n54 : Nat), ∀ (S : St) (a1 : Int32) (a2 : Int32) (a3 : Int32), ∀ (H : Heap) (locs : List Loc) (ls : Array Slot), wp_X6_wavelengthsNeeded_54 P (fun S a1 a2 => wp_X6_wavelengthsNeeded_19 P n19 S a1 a2) n54 S a1 a2 a3 → HP D cy b0 NALL S H → Fx S → va_S (AA b0) s.heap H locs → lv_has ls 5 [(0, .ref (b0 + 367)), (1, .int a1), (2, .int a2), (3, .int a3)] → W p l e rm_X6_wavelengthsNeeded s m args below meth c H locs 0 0 (MQ below (QC (Pi P) (Wb D cy b0 NALL) b0) args s 0 0 (AA b0)) (F0 m 54 ls []) := by
        intro n54
        induction n54 with
        | zero => intro S a1 a2 a3  H locs ls hw _ _ _ _; exact False.elim hw
        | succ n54 ih54 =>
          have j113 : ∀ (S : St) (a1 : Int32) (a2 : Int32) (a3 : Int32) (t1 : Int32) (t2 : Int32), ∀ (H : Heap) (locs : List Loc) (ls : Array Slot), wp_X6_wavelengthsNeeded_113 P (fun S a1 a2 => wp_X6_wavelengthsNeeded_19 P n19 S a1 a2) (fun S a1 a2 a3 => wp_X6_wavelengthsNeeded_54 P (fun S a1 a2 => wp_X6_wavelengthsNeeded_19 P n19 S a1 a2) n54 S a1 a2 a3) S a1 a2 a3 t1 t2 → HP D cy b0 NALL S H → Fx S → va_S (AA b0) s.heap H locs → lv_has ls 5 [(0, .ref (b0 + 367)), (1, .int a1), (2, .int a2), (3, .int a3)] → W p l e rm_X6_wavelengthsNeeded s m args below meth c H locs 0 0 (MQ below (QC (Pi P) (Wb D cy b0 NALL) b0) args s 0 0 (AA b0)) (F0 m 113 ls [.int t2, .int t1, .ref (b0 + 389)]) := by
            intro S a1 a2 a3 t1 t2  H locs ls hw hP hF hS hl
            unfold wp_X6_wavelengthsNeeded_113 at hw
            obtain ⟨h113, hw⟩ := hw
            refine q_iast (k := 389) (n := 4096) (i := t1) (x := t2) hx hb hK hP hS (by decide) (kk_389) (ll_389) h113 dX6_wavelengthsNeeded_113 (fun H locs hz hP hS => ?_)
            have hF : Fx (sI S 389 (t1.toNatClampNeg) t2) := Fx.sI hF _ _ _
            generalize eS113 : sI S 389 (t1.toNatClampNeg) t2 = S113 at hP hF
            have hw := hw S113 eS113.symm
            refine lv_iload_n hx hb dX6_wavelengthsNeeded_114 rfl (lv_at hl 3 rfl) ?_
            refine lv_iconst (v := 1) hx hb dX6_wavelengthsNeeded_115 (by decide) ?_
            refine lv_isub hx hb dX6_wavelengthsNeeded_116 ?_
            refine lv_iload_n hx hb dX6_wavelengthsNeeded_117 rfl (lv_at hl 2 rfl) ?_
            refine lv_iand hx hb dX6_wavelengthsNeeded_118 ?_
            refine lv_topi (fun y119 e119 => ?_)
            have hw := hw y119 e119
            refine lv_istore_n (lv' := [(3, .int y119), (0, .ref (b0 + 367)), (1, .int a1), (2, .int a2)]) hx hb dX6_wavelengthsNeeded_119 rfl hl (by decide) rfl (fun ls hl => ?_)
            refine lv_goto (tgt := 54) hx hb dX6_wavelengthsNeeded_120 (by decide) ?_
            exact ih54 S113 a1 a2 y119  _ _ _ hw hP hF hS (lv_sub hl [1, 2, 3, 0] rfl)
          have j84 : ∀ (S : St) (a1 : Int32) (a2 : Int32) (a3 : Int32) (t0 : Int32), ∀ (H : Heap) (locs : List Loc) (ls : Array Slot), wp_X6_wavelengthsNeeded_84 P (fun S a1 a2 => wp_X6_wavelengthsNeeded_19 P n19 S a1 a2) (fun S a1 a2 a3 => wp_X6_wavelengthsNeeded_54 P (fun S a1 a2 => wp_X6_wavelengthsNeeded_19 P n19 S a1 a2) n54 S a1 a2 a3) S a1 a2 a3 t0 → HP D cy b0 NALL S H → Fx S → va_S (AA b0) s.heap H locs → lv_has ls 5 [(0, .ref (b0 + 367)), (1, .int a1), (2, .int a2), (3, .int a3)] → W p l e rm_X6_wavelengthsNeeded s m args below meth c H locs 0 0 (MQ below (QC (Pi P) (Wb D cy b0 NALL) b0) args s 0 0 (AA b0)) (F0 m 84 ls [.int t0]) := by
            intro S a1 a2 a3 t0  H locs ls hw hP hF hS hl
            unfold wp_X6_wavelengthsNeeded_84 at hw
            refine lv_istore (lv' := [(4, .int t0), (0, .ref (b0 + 367)), (1, .int a1), (2, .int a2), (3, .int a3)]) hx hb dX6_wavelengthsNeeded_84 hl (by decide) rfl (fun ls hl => ?_)
            refine lv_aload_n hx hb dX6_wavelengthsNeeded_86 rfl (lv_at hl 1 rfl) ?_
            refine gf_6_27 (k := 367) hx hb hts (by decide +kernel) hown hK hP (by decide) (kk_367) (q := 389) (hF.1 367 27 389 ff_367_27) (hts (.fieldLink RX6 81 "OpticmeshModel" "needed" "[I") (by decide +kernel)) dX6_wavelengthsNeeded_87 ?_
            refine lv_iload_n hx hb dX6_wavelengthsNeeded_90 rfl (lv_at hl 3 rfl) ?_
            refine lv_iload hx hb dX6_wavelengthsNeeded_91 (lv_at hl 0 rfl) ?_
            refine lv_aload_n hx hb dX6_wavelengthsNeeded_93 rfl (lv_at hl 1 rfl) ?_
            refine gf_6_27 (k := 367) hx hb hts (by decide +kernel) hown hK hP (by decide) (kk_367) (q := 389) (hF.1 367 27 389 ff_367_27) (hts (.fieldLink RX6 81 "OpticmeshModel" "needed" "[I") (by decide +kernel)) dX6_wavelengthsNeeded_94 ?_
            refine lv_iload_n hx hb dX6_wavelengthsNeeded_97 rfl (lv_at hl 3 rfl) ?_
            obtain ⟨h98, hw⟩ := hw
            refine q_iald (k := 389) (n := 4096) (i := a2) hx hb hK hP (by decide) (kk_389) (ll_389) h98 dX6_wavelengthsNeeded_98 ?_
            refine lv_icmp_ge (x := t0) (y := (gI S 389 (a2.toNatClampNeg))) (tgt := 107) hx hb dX6_wavelengthsNeeded_99 (by decide) (fun c99 => ?_) (fun c99 => ?_)
            · rw [if_pos c99] at hw
              refine lv_aload_n hx hb dX6_wavelengthsNeeded_107 rfl (lv_at hl 1 rfl) ?_
              refine gf_6_27 (k := 367) hx hb hts (by decide +kernel) hown hK hP (by decide) (kk_367) (q := 389) (hF.1 367 27 389 ff_367_27) (hts (.fieldLink RX6 81 "OpticmeshModel" "needed" "[I") (by decide +kernel)) dX6_wavelengthsNeeded_108 ?_
              refine lv_iload_n hx hb dX6_wavelengthsNeeded_111 rfl (lv_at hl 3 rfl) ?_
              obtain ⟨h112, hw⟩ := hw
              refine q_iald (k := 389) (n := 4096) (i := a2) hx hb hK hP (by decide) (kk_389) (ll_389) h112 dX6_wavelengthsNeeded_112 ?_
              exact j113 S a1 a2 a3 a2 (gI S 389 (a2.toNatClampNeg))  _ _ _ hw hP hF hS (lv_sub hl [1, 2, 3, 4] rfl)
            · rw [if_neg c99] at hw
              refine lv_iload hx hb dX6_wavelengthsNeeded_102 (lv_at hl 0 rfl) ?_
              refine lv_goto (tgt := 113) hx hb dX6_wavelengthsNeeded_104 (by decide) ?_
              exact j113 S a1 a2 a3 a2 t0  _ _ _ hw hP hF hS (lv_sub hl [1, 2, 3, 4] rfl)
          intro S a1 a2 a3  H locs ls hw hP hF hS hl
          rw [wp_X6_wavelengthsNeeded_54] at hw
          refine lv_iload_n hx hb dX6_wavelengthsNeeded_54 rfl (lv_at hl 3 rfl) ?_
          refine lv_if_le (x := a3) (tgt := 123) hx hb dX6_wavelengthsNeeded_55 (by decide) (fun c55 => ?_) (fun c55 => ?_)
          · rw [if_pos c55] at hw
            exact j123 S a1 a2  _ _ _ hw hP hF hS (lv_sub hl [0, 1, 2] rfl)
          · rw [if_neg c55] at hw
            refine lv_aload_n hx hb dX6_wavelengthsNeeded_58 rfl (lv_at hl 0 rfl) ?_
            refine gf_6_27 (k := 367) hx hb hts (by decide +kernel) hown hK hP (by decide) (kk_367) (q := 389) (hF.1 367 27 389 ff_367_27) (hts (.fieldLink RX6 81 "OpticmeshModel" "needed" "[I") (by decide +kernel)) dX6_wavelengthsNeeded_59 ?_
            refine lv_iload_n hx hb dX6_wavelengthsNeeded_62 rfl (lv_at hl 3 rfl) ?_
            obtain ⟨h63, hw⟩ := hw
            refine q_iald (k := 389) (n := 4096) (i := a3) hx hb hK hP (by decide) (kk_389) (ll_389) h63 dX6_wavelengthsNeeded_63 ?_
            refine lv_iconst (v := 1) hx hb dX6_wavelengthsNeeded_64 (by decide) ?_
            refine lv_icmp_ne (x := (gI S 389 (a3.toNatClampNeg))) (y := 1) (tgt := 81) hx hb dX6_wavelengthsNeeded_65 (by decide) (fun c65 => ?_) (fun c65 => ?_)
            · rw [if_neg c65] at hw
              refine lv_sipush (v := 1000) hx hb dX6_wavelengthsNeeded_81 (by decide) ?_
              exact j84 S a1 a2 a3 1000  _ _ _ hw hP hF hS (lv_sub hl [0, 1, 2, 3] rfl)
            · rw [if_pos c65] at hw
              refine lv_aload_n hx hb dX6_wavelengthsNeeded_68 rfl (lv_at hl 0 rfl) ?_
              refine gf_6_27 (k := 367) hx hb hts (by decide +kernel) hown hK hP (by decide) (kk_367) (q := 389) (hF.1 367 27 389 ff_367_27) (hts (.fieldLink RX6 81 "OpticmeshModel" "needed" "[I") (by decide +kernel)) dX6_wavelengthsNeeded_69 ?_
              refine lv_iload_n hx hb dX6_wavelengthsNeeded_72 rfl (lv_at hl 2 rfl) ?_
              refine lv_iload_n hx hb dX6_wavelengthsNeeded_73 rfl (lv_at hl 3 rfl) ?_
              refine lv_ixor hx hb dX6_wavelengthsNeeded_74 ?_
              obtain ⟨h75, hw⟩ := hw
              refine q_iald (k := 389) (n := 4096) (i := (a2 ^^^ a3)) hx hb hK hP (by decide) (kk_389) (ll_389) h75 dX6_wavelengthsNeeded_75 ?_
              refine lv_iconst (v := 1) hx hb dX6_wavelengthsNeeded_76 (by decide) ?_
              refine lv_iadd hx hb dX6_wavelengthsNeeded_77 ?_
              refine lv_goto (tgt := 84) hx hb dX6_wavelengthsNeeded_78 (by decide) ?_
              exact j84 S a1 a2 a3 ((gI S 389 ((a2 ^^^ a3).toNatClampNeg)) + 1)  _ _ _ hw hP hF hS (lv_sub hl [0, 1, 2, 3] rfl)
      have j47 : ∀ (S : St) (a1 : Int32) (a2 : Int32) (t1 : Int32) (t2 : Int32), ∀ (H : Heap) (locs : List Loc) (ls : Array Slot), wp_X6_wavelengthsNeeded_47 P (fun S a1 a2 => wp_X6_wavelengthsNeeded_19 P n19 S a1 a2) S a1 a2 t1 t2 → HP D cy b0 NALL S H → Fx S → va_S (AA b0) s.heap H locs → lv_has ls 5 [(0, .ref (b0 + 367)), (1, .int a1), (2, .int a2)] → W p l e rm_X6_wavelengthsNeeded s m args below meth c H locs 0 0 (MQ below (QC (Pi P) (Wb D cy b0 NALL) b0) args s 0 0 (AA b0)) (F0 m 47 ls [.int t2, .int t1, .ref (b0 + 389)]) := by
        intro S a1 a2 t1 t2  H locs ls hw hP hF hS hl
        unfold wp_X6_wavelengthsNeeded_47 at hw
        obtain ⟨h47, hw⟩ := hw
        refine q_iast (k := 389) (n := 4096) (i := t1) (x := t2) hx hb hK hP hS (by decide) (kk_389) (ll_389) h47 dX6_wavelengthsNeeded_47 (fun H locs hz hP hS => ?_)
        have hF : Fx (sI S 389 (t1.toNatClampNeg) t2) := Fx.sI hF _ _ _
        generalize eS47 : sI S 389 (t1.toNatClampNeg) t2 = S47 at hP hF
        have hw := hw S47 eS47.symm
        refine lv_iload_n hx hb dX6_wavelengthsNeeded_48 rfl (lv_at hl 2 rfl) ?_
        refine lv_iconst (v := 1) hx hb dX6_wavelengthsNeeded_49 (by decide) ?_
        refine lv_isub hx hb dX6_wavelengthsNeeded_50 ?_
        refine lv_iload_n hx hb dX6_wavelengthsNeeded_51 rfl (lv_at hl 2 rfl) ?_
        refine lv_iand hx hb dX6_wavelengthsNeeded_52 ?_
        refine lv_topi (fun y53 e53 => ?_)
        have hw := hw y53 e53
        refine lv_istore_n (lv' := [(3, .int y53), (0, .ref (b0 + 367)), (1, .int a1), (2, .int a2)]) hx hb dX6_wavelengthsNeeded_53 rfl hl (by decide) rfl (fun ls hl => ?_)
        obtain ⟨n54, hw⟩ := hw
        exact j54 n54 S47 a1 a2 y53  _ _ _ hw hP hF hS (lv_sub hl [1, 2, 3, 0] rfl)
      intro S a1 a2  H locs ls hw hP hF hS hl
      rw [wp_X6_wavelengthsNeeded_19] at hw
      refine lv_iload_n hx hb dX6_wavelengthsNeeded_19 rfl (lv_at hl 2 rfl) ?_
      refine lv_iconst (v := 1) hx hb dX6_wavelengthsNeeded_20 (by decide) ?_
      refine lv_iload_n hx hb dX6_wavelengthsNeeded_21 rfl (lv_at hl 1 rfl) ?_
      refine lv_ishl hx hb dX6_wavelengthsNeeded_22 ?_
      refine lv_icmp_ge (x := a2) (y := (1 <<< (a1 &&& 31))) (tgt := 129) hx hb dX6_wavelengthsNeeded_23 (by decide) (fun c23 => ?_) (fun c23 => ?_)
      · rw [if_pos c23] at hw
        exact j129 S a1  _ _ _ hw hP hF hS (lv_sub hl [0, 1] rfl)
      · rw [if_neg c23] at hw
        refine lv_aload_n hx hb dX6_wavelengthsNeeded_26 rfl (lv_at hl 0 rfl) ?_
        refine gf_6_27 (k := 367) hx hb hts (by decide +kernel) hown hK hP (by decide) (kk_367) (q := 389) (hF.1 367 27 389 ff_367_27) (hts (.fieldLink RX6 81 "OpticmeshModel" "needed" "[I") (by decide +kernel)) dX6_wavelengthsNeeded_27 ?_
        refine lv_iload_n hx hb dX6_wavelengthsNeeded_30 rfl (lv_at hl 2 rfl) ?_
        refine lv_aload_n hx hb dX6_wavelengthsNeeded_31 rfl (lv_at hl 0 rfl) ?_
        refine lv_iload_n hx hb dX6_wavelengthsNeeded_32 rfl (lv_at hl 2 rfl) ?_
        refine lv_iload_n hx hb dX6_wavelengthsNeeded_33 rfl (lv_at hl 1 rfl) ?_
        refine q_call (va_runV (As := [.int a2, .int a1]) (rest := [.int a2, .ref (b0 + 389)]) ⟨hx, hb, hml, hown, hts⟩ (c_X6_isApart l D cy b0 S a2 a1 _ hw) (cwV 2 hts gX6_wavelengthsNeeded_X6_isApart rfl rfl rfl (by decide +kernel) ⟨(Nat.le_of_ble_eq_true rfl), (Nat.le_of_ble_eq_true rfl)⟩) (q_pV hW hP hF hS (k := 367) (ci := 6) (by decide) (cell_6 (kk_367)) rfl [.int a2, .int a1]) rfl rfl hl.1 rfl (lv_room (Nat.le_of_ble_eq_true rfl)) dX6_wavelengthsNeeded_34 ⟨(Nat.le_of_ble_eq_true rfl), (Nat.le_of_ble_eq_true rfl)⟩) hS (fun v34 S34 t34 H locs hh hp hB hz hk9 hS => ?_)
        obtain ⟨r34, rfl, hw⟩ := hp
        have hP : HP D cy b0 NALL S34 H := by rw [← hh]; exact hB.1
        have hF := hB.2
        try dsimp only at hw
        refine W.eq (g2 := F0 m 37 ls [.int (b2i r34), .int a2, .ref (b0 + 389)]) rfl ?_
        refine lv_if_eq (x := b2i r34) (tgt := 44) hx hb dX6_wavelengthsNeeded_37 (by decide) (fun c37 => ?_) (fun c37 => ?_)
        · have c37 := b2i_z c37
          rw [if_neg c37] at hw
          refine lv_sipush (v := 1000) hx hb dX6_wavelengthsNeeded_44 (by decide) ?_
          exact j47 S34 a1 a2 a2 1000  _ _ _ hw hP hF hS (lv_sub hl [0, 1, 2] rfl)
        · have c37 := b2i_n c37
          rw [if_pos c37] at hw
          refine lv_iconst (v := 1) hx hb dX6_wavelengthsNeeded_40 (by decide) ?_
          refine lv_goto (tgt := 47) hx hb dX6_wavelengthsNeeded_41 (by decide) ?_
          exact j47 S34 a1 a2 a2 1  _ _ _ hw hP hF hS (lv_sub hl [0, 1, 2] rfl)
  unfold wp_X6_wavelengthsNeeded at hw
  refine lv_aload_n hx hb dX6_wavelengthsNeeded_0 rfl (lv_at hl 0 rfl) ?_
  refine lv_iconst (v := 0) hx hb dX6_wavelengthsNeeded_1 (by decide) ?_
  refine pf_6_0 (k := 367) (x := 0) hx hb hts (by decide +kernel) hown hK hP hS (by decide) (kk_367) (hts (.fieldLink RX6 87 "OpticmeshModel" "thrown" "I") (by decide +kernel)) dX6_wavelengthsNeeded_2 (fun H locs hz hP hS => ?_)
  have hF : Fx (sI S 367 0 0) := Fx.sI hF _ _ _
  generalize eS2 : sI S 367 0 0 = S2 at hP hF
  have hw := hw S2 eS2.symm
  refine lv_aload_n hx hb dX6_wavelengthsNeeded_5 rfl (lv_at hl 0 rfl) ?_
  refine q_call (va_runV (As := []) (rest := []) ⟨hx, hb, hml, hown, hts⟩ (c_X6_laysCrossed l D cy b0 S2 _ hw) (cwV 0 hts gX6_wavelengthsNeeded_X6_laysCrossed rfl rfl rfl (by decide +kernel) ⟨(Nat.le_of_ble_eq_true rfl), (Nat.le_of_ble_eq_true rfl)⟩) (q_pV hW hP hF hS (k := 367) (ci := 6) (by decide) (cell_6 (kk_367)) rfl []) rfl rfl hl.1 rfl (lv_room (Nat.le_of_ble_eq_true rfl)) dX6_wavelengthsNeeded_6 ⟨(Nat.le_of_ble_eq_true rfl), (Nat.le_of_ble_eq_true rfl)⟩) hS (fun v6 S6 t6 H locs hh hp hB hz hk9 hS => ?_)
  obtain ⟨r6, rfl, hw⟩ := hp
  have hP : HP D cy b0 NALL S6 H := by rw [← hh]; exact hB.1
  have hF := hB.2
  try dsimp only at hw
  refine W.eq (g2 := F0 m 9 ls [.int r6]) rfl ?_
  refine lv_istore_n (lv' := [(1, .int r6), (0, .ref (b0 + 367))]) hx hb dX6_wavelengthsNeeded_9 rfl hl (by decide) rfl (fun ls hl => ?_)
  refine lv_aload_n hx hb dX6_wavelengthsNeeded_10 rfl (lv_at hl 1 rfl) ?_
  refine gf_6_27 (k := 367) hx hb hts (by decide +kernel) hown hK hP (by decide) (kk_367) (q := 389) (hF.1 367 27 389 ff_367_27) (hts (.fieldLink RX6 81 "OpticmeshModel" "needed" "[I") (by decide +kernel)) dX6_wavelengthsNeeded_11 ?_
  refine lv_iconst (v := 0) hx hb dX6_wavelengthsNeeded_14 (by decide) ?_
  refine lv_iconst (v := 0) hx hb dX6_wavelengthsNeeded_15 (by decide) ?_
  obtain ⟨h16, hw⟩ := hw
  refine q_iast (k := 389) (n := 4096) (i := 0) (x := 0) hx hb hK hP hS (by decide) (kk_389) (ll_389) h16 dX6_wavelengthsNeeded_16 (fun H locs hz hP hS => ?_)
  have hF : Fx (sI S6 389 ((0 : Int32).toNatClampNeg) 0) := Fx.sI hF _ _ _
  generalize eS16 : sI S6 389 ((0 : Int32).toNatClampNeg) 0 = S16 at hP hF
  have hw := hw S16 eS16.symm
  refine lv_iconst (v := 1) hx hb dX6_wavelengthsNeeded_17 (by decide) ?_
  refine lv_istore_n (lv' := [(2, .int 1), (1, .int r6), (0, .ref (b0 + 367))]) hx hb dX6_wavelengthsNeeded_18 rfl hl (by decide) rfl (fun ls hl => ?_)
  obtain ⟨n19, hw⟩ := hw
  exact j19 n19 S16 r6 1  _ _ _ hw hP hF hS (lv_sub hl [2, 1, 0] rfl)
