set_option maxHeartbeats 4000000 in
set_option maxRecDepth 100000 in
theorem c_J6_bitCount_0f7a4 (l : Launch) (D : va_G) (cy : Nat → ClassId) (b0 : Nat) (S : St) (x1 : Int32)  (P : Int32 → St → Prop) (hw : wp_J6_bitCount_0f7a4 S x1 P) : Met l yJ6_bitCount_0f7a4 wsJ6_bitCount_0f7a4 rm_J6_bitCount_0f7a4 (va_Pc [.int x1] (Wd D cy b0 NALL S)) (QC (Pi P) (Wb D cy b0 NALL) b0) 0 0 (AA b0) := by
  refine Met.ofW (cc := cJ6_bitCount_0f7a4) (maxL := 1) (ret := (some .int)) (by decide) rfl ?_
  intro p e s m args below meth c s₁ B hml hv
  obtain ⟨hargs, hW, hP, hF⟩ := hv
  have hx := B.exec
  have hb := B.bytes
  have hr := B.returns
  have hts := atoms_spec (ws := wsJ6_bitCount_0f7a4) B.pre
  have hown : s.vm.findClass RJ6 = some m.cls := findClass_of_methodNamed B.named
  have hlocks := B.notSynchronized
  have hK := hW.1
  have hS : va_S (AA b0) s.heap s.heap [] := va_S.rf
  have hE : entryFrame m args 1 = F0 m 0 ((lg_sl [.int x1] ++ List.replicate (1 - (lg_sl [.int x1]).length) Slot.unset).toArray) [] := by rw [hargs]; exact lg_entry_eq m _ _
  rw [hE]
  have hl := lv_entry [.int x1] (n := 1) (Nat.le_of_ble_eq_true rfl)
  generalize (lg_sl [.int x1] ++ List.replicate (1 - (lg_sl [.int x1]).length) Slot.unset).toArray = ls at hl ⊢
  have hl : lv_has ls 1 [(0, .int x1)] := hl
  unfold wp_J6_bitCount_0f7a4 at hw
  refine lv_iload_n hx hb dJ6_bitCount_0f7a4_0 rfl (lv_at hl 0 rfl) ?_
  refine lv_iload_n hx hb dJ6_bitCount_0f7a4_1 rfl (lv_at hl 0 rfl) ?_
  refine lv_iconst (v := 1) hx hb dJ6_bitCount_0f7a4_2 (by decide) ?_
  refine lv_iushr hx hb dJ6_bitCount_0f7a4_3 (v := (x1.toUInt32 >>> (Int32.toUInt32 1 &&& Int32.toUInt32 31)).toInt32) rfl ?_
  refine lv_ldcw (v := 1431655765) hx hb hown (hts (.constant RJ6 265 1431655765) (by decide +kernel)) dJ6_bitCount_0f7a4_4 ?_
  refine lv_iand hx hb dJ6_bitCount_0f7a4_7 ?_
  refine lv_isub hx hb dJ6_bitCount_0f7a4_8 ?_
  refine lv_topi (fun y9 e9 => ?_)
  have hw := hw y9 e9
  refine lv_istore_n (lv' := [(0, .int y9)]) hx hb dJ6_bitCount_0f7a4_9 rfl hl (by decide) rfl (fun ls hl => ?_)
  refine lv_iload_n hx hb dJ6_bitCount_0f7a4_10 rfl (lv_at hl 0 rfl) ?_
  refine lv_ldcw (v := 858993459) hx hb hown (hts (.constant RJ6 266 858993459) (by decide +kernel)) dJ6_bitCount_0f7a4_11 ?_
  refine lv_iand hx hb dJ6_bitCount_0f7a4_14 ?_
  refine lv_iload_n hx hb dJ6_bitCount_0f7a4_15 rfl (lv_at hl 0 rfl) ?_
  refine lv_iconst (v := 2) hx hb dJ6_bitCount_0f7a4_16 (by decide) ?_
  refine lv_iushr hx hb dJ6_bitCount_0f7a4_17 (v := (y9.toUInt32 >>> (Int32.toUInt32 2 &&& Int32.toUInt32 31)).toInt32) rfl ?_
  refine lv_ldcw (v := 858993459) hx hb hown (hts (.constant RJ6 266 858993459) (by decide +kernel)) dJ6_bitCount_0f7a4_18 ?_
  refine lv_iand hx hb dJ6_bitCount_0f7a4_21 ?_
  refine lv_iadd hx hb dJ6_bitCount_0f7a4_22 ?_
  refine lv_topi (fun y23 e23 => ?_)
  have hw := hw y23 e23
  refine lv_istore_n (lv' := [(0, .int y23)]) hx hb dJ6_bitCount_0f7a4_23 rfl hl (by decide) rfl (fun ls hl => ?_)
  refine lv_iload_n hx hb dJ6_bitCount_0f7a4_24 rfl (lv_at hl 0 rfl) ?_
  refine lv_iload_n hx hb dJ6_bitCount_0f7a4_25 rfl (lv_at hl 0 rfl) ?_
  refine lv_iconst (v := 4) hx hb dJ6_bitCount_0f7a4_26 (by decide) ?_
  refine lv_iushr hx hb dJ6_bitCount_0f7a4_27 (v := (y23.toUInt32 >>> (Int32.toUInt32 4 &&& Int32.toUInt32 31)).toInt32) rfl ?_
  refine lv_iadd hx hb dJ6_bitCount_0f7a4_28 ?_
  refine lv_ldcw (v := 252645135) hx hb hown (hts (.constant RJ6 267 252645135) (by decide +kernel)) dJ6_bitCount_0f7a4_29 ?_
  refine lv_iand hx hb dJ6_bitCount_0f7a4_32 ?_
  refine lv_topi (fun y33 e33 => ?_)
  have hw := hw y33 e33
  refine lv_istore_n (lv' := [(0, .int y33)]) hx hb dJ6_bitCount_0f7a4_33 rfl hl (by decide) rfl (fun ls hl => ?_)
  refine lv_iload_n hx hb dJ6_bitCount_0f7a4_34 rfl (lv_at hl 0 rfl) ?_
  refine lv_iload_n hx hb dJ6_bitCount_0f7a4_35 rfl (lv_at hl 0 rfl) ?_
  refine lv_bipush (v := 8) hx hb dJ6_bitCount_0f7a4_36 (by decide) ?_
  refine lv_iushr hx hb dJ6_bitCount_0f7a4_38 (v := (y33.toUInt32 >>> (Int32.toUInt32 8 &&& Int32.toUInt32 31)).toInt32) rfl ?_
  refine lv_iadd hx hb dJ6_bitCount_0f7a4_39 ?_
  refine lv_topi (fun y40 e40 => ?_)
  have hw := hw y40 e40
  refine lv_istore_n (lv' := [(0, .int y40)]) hx hb dJ6_bitCount_0f7a4_40 rfl hl (by decide) rfl (fun ls hl => ?_)
  refine lv_iload_n hx hb dJ6_bitCount_0f7a4_41 rfl (lv_at hl 0 rfl) ?_
  refine lv_iload_n hx hb dJ6_bitCount_0f7a4_42 rfl (lv_at hl 0 rfl) ?_
  refine lv_bipush (v := 16) hx hb dJ6_bitCount_0f7a4_43 (by decide) ?_
  refine lv_iushr hx hb dJ6_bitCount_0f7a4_45 (v := (y40.toUInt32 >>> (Int32.toUInt32 16 &&& Int32.toUInt32 31)).toInt32) rfl ?_
  refine lv_iadd hx hb dJ6_bitCount_0f7a4_46 ?_
  refine lv_topi (fun y47 e47 => ?_)
  have hw := hw y47 e47
  refine lv_istore_n (lv' := [(0, .int y47)]) hx hb dJ6_bitCount_0f7a4_47 rfl hl (by decide) rfl (fun ls hl => ?_)
  refine lv_iload_n hx hb dJ6_bitCount_0f7a4_48 rfl (lv_at hl 0 rfl) ?_
  refine lv_bipush (v := 63) hx hb dJ6_bitCount_0f7a4_49 (by decide) ?_
  refine lv_iand hx hb dJ6_bitCount_0f7a4_51 ?_
  exact q_iret hx hb hr hP hF hS hw dJ6_bitCount_0f7a4_52 hlocks
set_option maxHeartbeats 4000000 in
set_option maxRecDepth 100000 in
theorem c_X5_begin (l : Launch) (hlt : l.stackTraces = false) (D : va_G) (cy : Nat → ClassId) (b0 : Nat) (S : St) (x1 : Int32) (x2 : Int32)  (P : St → Prop) (E : String → St → Prop) (hw : wp_X5_begin S x1 x2 P E) : vx_Met l yX5_begin wsX5_begin rm_X5_begin (va_Pc [.ref (b0 + 0), .int x1, .int x2] (Wd D cy b0 NALL S)) (QC (Pv P) (Wb D cy b0 NALL) b0) (XX E (Wb D cy b0 NALL) b0) 1 6 (AA b0) := by
  refine vx_ofW (cc := cX5_begin) (maxL := 3) (ret := none) (by decide) rfl ?_
  intro p e s m args below meth c s₁ B hml ht9 hv
  obtain ⟨hargs, hW, hP, hF⟩ := hv
  have hx := B.exec
  have hb := B.bytes
  have hr := B.returns
  have hts := atoms_spec (ws := wsX5_begin) B.pre
  have hown : s.vm.findClass RX5 = some m.cls := findClass_of_methodNamed B.named
  have hlocks := B.notSynchronized
  have hK := hW.1
  have hS : va_S (AA b0) s.heap s.heap [] := va_S.rf
  have hE : entryFrame m args 3 = F0 m 0 ((lg_sl [.ref (b0 + 0), .int x1, .int x2] ++ List.replicate (3 - (lg_sl [.ref (b0 + 0), .int x1, .int x2]).length) Slot.unset).toArray) [] := by rw [hargs]; exact lg_entry_eq m _ _
  rw [hE]
  have hl := lv_entry [.ref (b0 + 0), .int x1, .int x2] (n := 3) (Nat.le_of_ble_eq_true rfl)
  generalize (lg_sl [.ref (b0 + 0), .int x1, .int x2] ++ List.replicate (3 - (lg_sl [.ref (b0 + 0), .int x1, .int x2]).length) Slot.unset).toArray = ls at hl ⊢
  have hl : lv_has ls 3 [(0, .ref (b0 + 0)), (1, .int x1), (2, .int x2)] := hl
  have j22 : ∀ (S : St) , ∀ (H : Heap) (locs : List Loc) (ls : Array Slot), wp_X5_begin_22 x1 x2 P E S → HP D cy b0 NALL S H → Fx S → va_S (AA b0) s.heap H locs → lv_has ls 3 [] → W p l e rm_X5_begin s m args below meth c H locs 0 0 (vx_MQ below (QC (Pv P) (Wb D cy b0 NALL) b0) (XX E (Wb D cy b0 NALL) b0) args s 1 6 (AA b0)) (F0 m 22 ls []) := by
    intro S  H locs ls hw hP hF hS hl
    unfold wp_X5_begin_22 at hw
    exact q_throw (cls := eA) (text := "nodes are 2 to 8 and wavelengths 1 to 8") (Ts := wsX5_begin) hx hb hlt hts hown (by decide +kernel) (hts (.classLink RX5 48 eA) (by decide +kernel)) (hts (.initialized eA) (by decide +kernel)) (by decide) (fun w h => List.mem_cons_of_mem _ (List.mem_append_right _ h)) thA2 (by decide) thA3 hW hP hF hS (hl.1.trans hml.symm) dX5_begin_22 dX5_begin_25 dX5_begin_26 dX5_begin_28 dX5_begin_31 ht9 (Nat.le_of_ble_eq_true rfl) (Nat.le_of_ble_eq_true rfl) (Nat.le_of_ble_eq_true rfl) (Nat.le_of_ble_eq_true rfl) hlocks hw (by decide) (by decide)
  unfold wp_X5_begin at hw
  refine lv_iload_n hx hb dX5_begin_0 rfl (lv_at hl 1 rfl) ?_
  refine lv_iconst (v := 2) hx hb dX5_begin_1 (by decide) ?_
  refine lv_icmp_lt (x := x1) (y := 2) (tgt := 22) hx hb dX5_begin_2 (by decide) (fun c2 => ?_) (fun c2 => ?_)
  · rw [if_pos c2] at hw
    exact j22 S  _ _ _ hw hP hF hS (lv_sub hl [] rfl)
  · rw [if_neg c2] at hw
    refine lv_iload_n hx hb dX5_begin_5 rfl (lv_at hl 1 rfl) ?_
    refine lv_bipush (v := 8) hx hb dX5_begin_6 (by decide) ?_
    refine lv_icmp_gt (x := x1) (y := 8) (tgt := 22) hx hb dX5_begin_8 (by decide) (fun c8 => ?_) (fun c8 => ?_)
    · rw [if_pos c8] at hw
      exact j22 S  _ _ _ hw hP hF hS (lv_sub hl [] rfl)
    · rw [if_neg c8] at hw
      refine lv_iload_n hx hb dX5_begin_11 rfl (lv_at hl 2 rfl) ?_
      refine lv_iconst (v := 1) hx hb dX5_begin_12 (by decide) ?_
      refine lv_icmp_lt (x := x2) (y := 1) (tgt := 22) hx hb dX5_begin_13 (by decide) (fun c13 => ?_) (fun c13 => ?_)
      · rw [if_pos c13] at hw
        exact j22 S  _ _ _ hw hP hF hS (lv_sub hl [] rfl)
      · rw [if_neg c13] at hw
        refine lv_iload_n hx hb dX5_begin_16 rfl (lv_at hl 2 rfl) ?_
        refine lv_bipush (v := 8) hx hb dX5_begin_17 (by decide) ?_
        refine lv_icmp_le (x := x2) (y := 8) (tgt := 32) hx hb dX5_begin_19 (by decide) (fun c19 => ?_) (fun c19 => ?_)
        · rw [if_pos c19] at hw
          refine lv_aload_n hx hb dX5_begin_32 rfl (lv_at hl 0 rfl) ?_
          refine gf_5_0 (k := 0) hx hb hts (by decide +kernel) hown hK hP (by decide) (kk_0) (q := 1) (hF.1 0 0 1 ff_0_0) (hts (.fieldLink RX5 12 "Opticmesh" "network" "LOpticmesh$Network;") (by decide +kernel)) dX5_begin_33 ?_
          refine lv_iload_n hx hb dX5_begin_36 rfl (lv_at hl 1 rfl) ?_
          refine lv_iload_n hx hb dX5_begin_37 rfl (lv_at hl 2 rfl) ?_
          refine q_call (va_runV (As := [.int x1, .int x2]) (rest := []) ⟨hx, hb, hml, hown, hts⟩ (c_X2_startAgain l D cy b0 S x1 x2 _ hw) (cwV 2 hts gX5_begin_X2_startAgain rfl rfl rfl (by decide +kernel) ⟨(Nat.le_of_ble_eq_true rfl), (Nat.le_of_ble_eq_true rfl)⟩) (q_pV hW hP hF hS (k := 1) (ci := 2) (by decide) (cell_2 (kk_1)) rfl [.int x1, .int x2]) rfl rfl hl.1 rfl (lv_room (Nat.le_of_ble_eq_true rfl)) dX5_begin_38 ⟨(Nat.le_of_ble_eq_true rfl), (Nat.le_of_ble_eq_true rfl)⟩) hS (fun v38 S38 t38 H locs hh hp hB hz hk9 hS => ?_)
          obtain ⟨rfl, hw⟩ := hp
          have hP : HP D cy b0 NALL S38 H := by rw [← hh]; exact hB.1
          have hF := hB.2
          try dsimp only at hw
          refine W.eq (g2 := F0 m 41 ls []) rfl ?_
          refine lv_aload_n hx hb dX5_begin_41 rfl (lv_at hl 0 rfl) ?_
          refine lv_iconst (v := 0) hx hb dX5_begin_42 (by decide) ?_
          refine pf_5_4 (k := 0) (x := 0) hx hb hts (by decide +kernel) hown hK hP hS (by decide) (kk_0) (hts (.fieldLink RX5 59 "Opticmesh" "lightCount" "I") (by decide +kernel)) dX5_begin_43 (fun H locs hz hP hS => ?_)
          have hF : Fx (sI S38 0 4 0) := Fx.sI hF _ _ _
          generalize eS43 : sI S38 0 4 0 = S43 at hP hF
          have hw := hw S43 eS43.symm
          refine lv_aload_n hx hb dX5_begin_46 rfl (lv_at hl 0 rfl) ?_
          refine lv_iconst (v := 0) hx hb dX5_begin_47 (by decide) ?_
          refine pf_5_7 (k := 0) (x := 0) hx hb hts (by decide +kernel) hown hK hP hS (by decide) (kk_0) (hts (.fieldLink RX5 63 "Opticmesh" "requestCount" "I") (by decide +kernel)) dX5_begin_48 (fun H locs hz hP hS => ?_)
          have hF : Fx (sI S43 0 7 0) := Fx.sI hF _ _ _
          generalize eS48 : sI S43 0 7 0 = S48 at hP hF
          have hw := hw S48 eS48.symm
          refine vx_ret ?_
          exact q_vret hx hb hr hP hF hS hw dX5_begin_51 hlocks
        · rw [if_neg c19] at hw
          exact j22 S  _ _ _ hw hP hF hS (lv_sub hl [] rfl)
set_option maxHeartbeats 4000000 in
set_option maxRecDepth 100000 in
theorem c_X5_areTwoNodes (l : Launch) (D : va_G) (cy : Nat → ClassId) (b0 : Nat) (S : St) (x1 : Int32) (x2 : Int32)  (P : Bool → St → Prop) (hw : wp_X5_areTwoNodes S x1 x2 P) : Met l yX5_areTwoNodes wsX5_areTwoNodes rm_X5_areTwoNodes (va_Pc [.ref (b0 + 0), .int x1, .int x2] (Wd D cy b0 NALL S)) (QC (Pz P) (Wb D cy b0 NALL) b0) 0 0 (AA b0) := by
  refine Met.ofW (cc := cX5_areTwoNodes) (maxL := 3) (ret := (some .boolean)) (by decide) rfl ?_
  intro p e s m args below meth c s₁ B hml hv
  obtain ⟨hargs, hW, hP, hF⟩ := hv
  have hx := B.exec
  have hb := B.bytes
  have hr := B.returns
  have hts := atoms_spec (ws := wsX5_areTwoNodes) B.pre
  have hown : s.vm.findClass RX5 = some m.cls := findClass_of_methodNamed B.named
  have hlocks := B.notSynchronized
  have hK := hW.1
  have hS : va_S (AA b0) s.heap s.heap [] := va_S.rf
  have hE : entryFrame m args 3 = F0 m 0 ((lg_sl [.ref (b0 + 0), .int x1, .int x2] ++ List.replicate (3 - (lg_sl [.ref (b0 + 0), .int x1, .int x2]).length) Slot.unset).toArray) [] := by rw [hargs]; exact lg_entry_eq m _ _
  rw [hE]
  have hl := lv_entry [.ref (b0 + 0), .int x1, .int x2] (n := 3) (Nat.le_of_ble_eq_true rfl)
  generalize (lg_sl [.ref (b0 + 0), .int x1, .int x2] ++ List.replicate (3 - (lg_sl [.ref (b0 + 0), .int x1, .int x2]).length) Slot.unset).toArray = ls at hl ⊢
  have hl : lv_has ls 3 [(0, .ref (b0 + 0)), (1, .int x1), (2, .int x2)] := hl
  unfold wp_X5_areTwoNodes at hw
  refine lv_aload_n hx hb dX5_areTwoNodes_0 rfl (lv_at hl 0 rfl) ?_
  refine gf_5_0 (k := 0) hx hb hts (by decide +kernel) hown hK hP (by decide) (kk_0) (q := 1) (hF.1 0 0 1 ff_0_0) (hts (.fieldLink RX5 12 "Opticmesh" "network" "LOpticmesh$Network;") (by decide +kernel)) dX5_areTwoNodes_1 ?_
  refine lv_iload_n hx hb dX5_areTwoNodes_4 rfl (lv_at hl 1 rfl) ?_
  refine q_call (va_runV (As := [.int x1]) (rest := []) ⟨hx, hb, hml, hown, hts⟩ (c_X2_hasNode l D cy b0 S x1 _ hw) (cwV 1 hts gX5_areTwoNodes_X2_hasNode rfl rfl rfl (by decide +kernel) ⟨(Nat.le_of_ble_eq_true rfl), (Nat.le_of_ble_eq_true rfl)⟩) (q_pV hW hP hF hS (k := 1) (ci := 2) (by decide) (cell_2 (kk_1)) rfl [.int x1]) rfl rfl hl.1 rfl (lv_room (Nat.le_of_ble_eq_true rfl)) dX5_areTwoNodes_5 ⟨(Nat.le_of_ble_eq_true rfl), (Nat.le_of_ble_eq_true rfl)⟩) hS (fun v5 S5 t5 H locs hh hp hB hz hk9 hS => ?_)
  obtain ⟨r5, rfl, hw⟩ := hp
  have hP : HP D cy b0 NALL S5 H := by rw [← hh]; exact hB.1
  have hF := hB.2
  try dsimp only at hw
  refine W.eq (g2 := F0 m 8 ls [.int (b2i r5)]) rfl ?_
  refine lv_if_eq (x := b2i r5) (tgt := 31) hx hb dX5_areTwoNodes_8 (by decide) (fun c8 => ?_) (fun c8 => ?_)
  · have c8 := b2i_z c8
    rw [if_neg c8] at hw
    refine lv_iconst (v := 0) hx hb dX5_areTwoNodes_31 (by decide) ?_
    exact q_zret (v := false) hx hb hr hP hF hS hw dX5_areTwoNodes_32 hlocks
  · have c8 := b2i_n c8
    rw [if_pos c8] at hw
    refine lv_aload_n hx hb dX5_areTwoNodes_11 rfl (lv_at hl 0 rfl) ?_
    refine gf_5_0 (k := 0) hx hb hts (by decide +kernel) hown hK hP (by decide) (kk_0) (q := 1) (hF.1 0 0 1 ff_0_0) (hts (.fieldLink RX5 12 "Opticmesh" "network" "LOpticmesh$Network;") (by decide +kernel)) dX5_areTwoNodes_12 ?_
    refine lv_iload_n hx hb dX5_areTwoNodes_15 rfl (lv_at hl 2 rfl) ?_
    refine q_call (va_runV (As := [.int x2]) (rest := []) ⟨hx, hb, hml, hown, hts⟩ (c_X2_hasNode l D cy b0 S5 x2 _ hw) (cwV 1 hts gX5_areTwoNodes_X2_hasNode rfl rfl rfl (by decide +kernel) ⟨(Nat.le_of_ble_eq_true rfl), (Nat.le_of_ble_eq_true rfl)⟩) (q_pV hW hP hF hS (k := 1) (ci := 2) (by decide) (cell_2 (kk_1)) rfl [.int x2]) rfl rfl hl.1 rfl (lv_room (Nat.le_of_ble_eq_true rfl)) dX5_areTwoNodes_16 ⟨(Nat.le_of_ble_eq_true rfl), (Nat.le_of_ble_eq_true rfl)⟩) hS (fun v16 S16 t16 H locs hh hp hB hz hk9 hS => ?_)
    obtain ⟨r16, rfl, hw⟩ := hp
    have hP : HP D cy b0 NALL S16 H := by rw [← hh]; exact hB.1
    have hF := hB.2
    try dsimp only at hw
    refine W.eq (g2 := F0 m 19 ls [.int (b2i r16)]) rfl ?_
    refine lv_if_eq (x := b2i r16) (tgt := 31) hx hb dX5_areTwoNodes_19 (by decide) (fun c19 => ?_) (fun c19 => ?_)
    · have c19 := b2i_z c19
      rw [if_neg c19] at hw
      refine lv_iconst (v := 0) hx hb dX5_areTwoNodes_31 (by decide) ?_
      exact q_zret (v := false) hx hb hr hP hF hS hw dX5_areTwoNodes_32 hlocks
    · have c19 := b2i_n c19
      rw [if_pos c19] at hw
      refine lv_iload_n hx hb dX5_areTwoNodes_22 rfl (lv_at hl 1 rfl) ?_
      refine lv_iload_n hx hb dX5_areTwoNodes_23 rfl (lv_at hl 2 rfl) ?_
      refine lv_icmp_eq (x := x1) (y := x2) (tgt := 31) hx hb dX5_areTwoNodes_24 (by decide) (fun c24 => ?_) (fun c24 => ?_)
      · rw [if_pos c24] at hw
        refine lv_iconst (v := 0) hx hb dX5_areTwoNodes_31 (by decide) ?_
        exact q_zret (v := false) hx hb hr hP hF hS hw dX5_areTwoNodes_32 hlocks
      · rw [if_neg c24] at hw
        refine lv_iconst (v := 1) hx hb dX5_areTwoNodes_27 (by decide) ?_
        refine lv_goto (tgt := 32) hx hb dX5_areTwoNodes_28 (by decide) ?_
        exact q_zret (v := true) hx hb hr hP hF hS hw dX5_areTwoNodes_32 hlocks
set_option maxHeartbeats 4000000 in
set_option maxRecDepth 100000 in
theorem c_X5_addFibre (l : Launch) (hlt : l.stackTraces = false) (D : va_G) (cy : Nat → ClassId) (b0 : Nat) (S : St) (x1 : Int32) (x2 : Int32) (x3 : Int32)  (P : Int32 → St → Prop) (E : String → St → Prop) (hw : wp_X5_addFibre S x1 x2 x3 P E) : vx_Met l yX5_addFibre wsX5_addFibre rm_X5_addFibre (va_Pc [.ref (b0 + 0), .int x1, .int x2, .int x3] (Wd D cy b0 NALL S)) (QC (Pi P) (Wb D cy b0 NALL) b0) (XX E (Wb D cy b0 NALL) b0) 1 6 (AA b0) := by
  refine vx_ofW (cc := cX5_addFibre) (maxL := 5) (ret := (some .int)) (by decide) rfl ?_
  intro p e s m args below meth c s₁ B hml ht9 hv
  obtain ⟨hargs, hW, hP, hF⟩ := hv
  have hx := B.exec
  have hb := B.bytes
  have hr := B.returns
  have hts := atoms_spec (ws := wsX5_addFibre) B.pre
  have hown : s.vm.findClass RX5 = some m.cls := findClass_of_methodNamed B.named
  have hlocks := B.notSynchronized
  have hK := hW.1
  have hS : va_S (AA b0) s.heap s.heap [] := va_S.rf
  have hE : entryFrame m args 5 = F0 m 0 ((lg_sl [.ref (b0 + 0), .int x1, .int x2, .int x3] ++ List.replicate (5 - (lg_sl [.ref (b0 + 0), .int x1, .int x2, .int x3]).length) Slot.unset).toArray) [] := by rw [hargs]; exact lg_entry_eq m _ _
  rw [hE]
  have hl := lv_entry [.ref (b0 + 0), .int x1, .int x2, .int x3] (n := 5) (Nat.le_of_ble_eq_true rfl)
  generalize (lg_sl [.ref (b0 + 0), .int x1, .int x2, .int x3] ++ List.replicate (5 - (lg_sl [.ref (b0 + 0), .int x1, .int x2, .int x3]).length) Slot.unset).toArray = ls at hl ⊢
  have hl : lv_has ls 5 [(0, .ref (b0 + 0)), (1, .int x1), (2, .int x2), (3, .int x3)] := hl
  have j21 : ∀ (S : St) , ∀ (H : Heap) (locs : List Loc) (ls : Array Slot), wp_X5_addFibre_21 x1 x2 x3 P E S → HP D cy b0 NALL S H → Fx S → va_S (AA b0) s.heap H locs → lv_has ls 5 [] → W p l e rm_X5_addFibre s m args below meth c H locs 0 0 (vx_MQ below (QC (Pi P) (Wb D cy b0 NALL) b0) (XX E (Wb D cy b0 NALL) b0) args s 1 6 (AA b0)) (F0 m 21 ls []) := by
    intro S  H locs ls hw hP hF hS hl
    unfold wp_X5_addFibre_21 at hw
    exact q_throw (cls := eA) (text := "a fibre joins two nodes and has a length of 1 to 1000") (Ts := wsX5_addFibre) hx hb hlt hts hown (by decide +kernel) (hts (.classLink RX5 48 eA) (by decide +kernel)) (hts (.initialized eA) (by decide +kernel)) (by decide) (fun w h => List.mem_cons_of_mem _ (List.mem_append_left _ (List.mem_append_right _ h))) thA2 (by decide) thA3 hW hP hF hS (hl.1.trans hml.symm) dX5_addFibre_21 dX5_addFibre_24 dX5_addFibre_25 dX5_addFibre_27 dX5_addFibre_30 ht9 (Nat.le_of_ble_eq_true rfl) (Nat.le_of_ble_eq_true rfl) (Nat.le_of_ble_eq_true rfl) (Nat.le_of_ble_eq_true rfl) hlocks hw (by decide) (by decide)
  unfold wp_X5_addFibre at hw
  refine lv_aload_n hx hb dX5_addFibre_0 rfl (lv_at hl 0 rfl) ?_
  refine lv_iload_n hx hb dX5_addFibre_1 rfl (lv_at hl 1 rfl) ?_
  refine lv_iload_n hx hb dX5_addFibre_2 rfl (lv_at hl 2 rfl) ?_
  refine q_call (va_runV (As := [.int x1, .int x2]) (rest := []) ⟨hx, hb, hml, hown, hts⟩ (c_X5_areTwoNodes l D cy b0 S x1 x2 _ hw) (cwV 2 hts gX5_addFibre_X5_areTwoNodes rfl rfl rfl (by decide +kernel) ⟨(Nat.le_of_ble_eq_true rfl), (Nat.le_of_ble_eq_true rfl)⟩) (q_pV hW hP hF hS (k := 0) (ci := 5) (by decide) (cell_5 (kk_0)) rfl [.int x1, .int x2]) rfl rfl hl.1 rfl (lv_room (Nat.le_of_ble_eq_true rfl)) dX5_addFibre_3 ⟨(Nat.le_of_ble_eq_true rfl), (Nat.le_of_ble_eq_true rfl)⟩) hS (fun v3 S3 t3 H locs hh hp hB hz hk9 hS => ?_)
  obtain ⟨r3, rfl, hw⟩ := hp
  have hP : HP D cy b0 NALL S3 H := by rw [← hh]; exact hB.1
  have hF := hB.2
  try dsimp only at hw
  refine W.eq (g2 := F0 m 6 ls [.int (b2i r3)]) rfl ?_
  refine lv_if_eq (x := b2i r3) (tgt := 21) hx hb dX5_addFibre_6 (by decide) (fun c6 => ?_) (fun c6 => ?_)
  · have c6 := b2i_z c6
    rw [if_neg c6] at hw
    exact j21 S3  _ _ _ hw hP hF hS (lv_sub hl [] rfl)
  · have c6 := b2i_n c6
    rw [if_pos c6] at hw
    refine lv_iload_n hx hb dX5_addFibre_9 rfl (lv_at hl 3 rfl) ?_
    refine lv_iconst (v := 1) hx hb dX5_addFibre_10 (by decide) ?_
    refine lv_icmp_lt (x := x3) (y := 1) (tgt := 21) hx hb dX5_addFibre_11 (by decide) (fun c11 => ?_) (fun c11 => ?_)
    · rw [if_pos c11] at hw
      exact j21 S3  _ _ _ hw hP hF hS (lv_sub hl [] rfl)
    · rw [if_neg c11] at hw
      refine lv_iload_n hx hb dX5_addFibre_14 rfl (lv_at hl 3 rfl) ?_
      refine lv_sipush (v := 1000) hx hb dX5_addFibre_15 (by decide) ?_
      refine lv_icmp_le (x := x3) (y := 1000) (tgt := 31) hx hb dX5_addFibre_18 (by decide) (fun c18 => ?_) (fun c18 => ?_)
      · rw [if_pos c18] at hw
        refine lv_aload_n hx hb dX5_addFibre_31 rfl (lv_at hl 0 rfl) ?_
        refine gf_5_0 (k := 0) hx hb hts (by decide +kernel) hown hK hP (by decide) (kk_0) (q := 1) (hF.1 0 0 1 ff_0_0) (hts (.fieldLink RX5 12 "Opticmesh" "network" "LOpticmesh$Network;") (by decide +kernel)) dX5_addFibre_32 ?_
        refine lv_iload_n hx hb dX5_addFibre_35 rfl (lv_at hl 1 rfl) ?_
        refine lv_iload_n hx hb dX5_addFibre_36 rfl (lv_at hl 2 rfl) ?_
        refine lv_iload_n hx hb dX5_addFibre_37 rfl (lv_at hl 3 rfl) ?_
        refine q_call (va_runV (As := [.int x1, .int x2, .int x3]) (rest := []) ⟨hx, hb, hml, hown, hts⟩ (c_X2_join l D cy b0 S3 x1 x2 x3 _ hw) (cwV 3 hts gX5_addFibre_X2_join rfl rfl rfl (by decide +kernel) ⟨(Nat.le_of_ble_eq_true rfl), (Nat.le_of_ble_eq_true rfl)⟩) (q_pV hW hP hF hS (k := 1) (ci := 2) (by decide) (cell_2 (kk_1)) rfl [.int x1, .int x2, .int x3]) rfl rfl hl.1 rfl (lv_room (Nat.le_of_ble_eq_true rfl)) dX5_addFibre_38 ⟨(Nat.le_of_ble_eq_true rfl), (Nat.le_of_ble_eq_true rfl)⟩) hS (fun v38 S38 t38 H locs hh hp hB hz hk9 hS => ?_)
        obtain ⟨r38, rfl, hw⟩ := hp
        have hP : HP D cy b0 NALL S38 H := by rw [← hh]; exact hB.1
        have hF := hB.2
        try dsimp only at hw
        refine W.eq (g2 := F0 m 41 ls [.int r38]) rfl ?_
        refine lv_istore (lv' := [(4, .int r38), (0, .ref (b0 + 0)), (1, .int x1), (2, .int x2), (3, .int x3)]) hx hb dX5_addFibre_41 hl (by decide) rfl (fun ls hl => ?_)
        refine lv_iload hx hb dX5_addFibre_43 (lv_at hl 0 rfl) ?_
        refine lv_if_ge (x := r38) (tgt := 58) hx hb dX5_addFibre_45 (by decide) (fun c45 => ?_) (fun c45 => ?_)
        · rw [if_pos c45] at hw
          refine lv_iload hx hb dX5_addFibre_58 (lv_at hl 0 rfl) ?_
          refine vx_ret ?_
          exact q_iret hx hb hr hP hF hS hw dX5_addFibre_60 hlocks
        · rw [if_neg c45] at hw
          exact q_throw (cls := eS) (text := "there are 14 fibres") (Ts := wsX5_addFibre) hx hb hlt hts hown (by decide +kernel) (hts (.classLink RX5 76 eS) (by decide +kernel)) (hts (.initialized eS) (by decide +kernel)) (by decide) (fun w h => List.mem_cons_of_mem _ (List.mem_append_right _ h)) thS2 (by decide) thS3 hW hP hF hS (hl.1.trans hml.symm) dX5_addFibre_48 dX5_addFibre_51 dX5_addFibre_52 dX5_addFibre_54 dX5_addFibre_57 ht9 (Nat.le_of_ble_eq_true rfl) (Nat.le_of_ble_eq_true rfl) (Nat.le_of_ble_eq_true rfl) (Nat.le_of_ble_eq_true rfl) hlocks hw (by decide) (by decide)
      · rw [if_neg c18] at hw
        exact j21 S3  _ _ _ hw hP hF hS (lv_sub hl [] rfl)
set_option maxHeartbeats 4000000 in
set_option maxRecDepth 100000 in
theorem c_X5_toggleConverter (l : Launch) (hlt : l.stackTraces = false) (D : va_G) (cy : Nat → ClassId) (b0 : Nat) (S : St) (x1 : Int32)  (P : Bool → St → Prop) (E : String → St → Prop) (hw : wp_X5_toggleConverter S x1 P E) : vx_Met l yX5_toggleConverter wsX5_toggleConverter rm_X5_toggleConverter (va_Pc [.ref (b0 + 0), .int x1] (Wd D cy b0 NALL S)) (QC (Pz P) (Wb D cy b0 NALL) b0) (XX E (Wb D cy b0 NALL) b0) 1 6 (AA b0) := by
  refine vx_ofW (cc := cX5_toggleConverter) (maxL := 2) (ret := (some .boolean)) (by decide) rfl ?_
  intro p e s m args below meth c s₁ B hml ht9 hv
  obtain ⟨hargs, hW, hP, hF⟩ := hv
  have hx := B.exec
  have hb := B.bytes
  have hr := B.returns
  have hts := atoms_spec (ws := wsX5_toggleConverter) B.pre
  have hown : s.vm.findClass RX5 = some m.cls := findClass_of_methodNamed B.named
  have hlocks := B.notSynchronized
  have hK := hW.1
  have hS : va_S (AA b0) s.heap s.heap [] := va_S.rf
  have hE : entryFrame m args 2 = F0 m 0 ((lg_sl [.ref (b0 + 0), .int x1] ++ List.replicate (2 - (lg_sl [.ref (b0 + 0), .int x1]).length) Slot.unset).toArray) [] := by rw [hargs]; exact lg_entry_eq m _ _
  rw [hE]
  have hl := lv_entry [.ref (b0 + 0), .int x1] (n := 2) (Nat.le_of_ble_eq_true rfl)
  generalize (lg_sl [.ref (b0 + 0), .int x1] ++ List.replicate (2 - (lg_sl [.ref (b0 + 0), .int x1]).length) Slot.unset).toArray = ls at hl ⊢
  have hl : lv_has ls 2 [(0, .ref (b0 + 0)), (1, .int x1)] := hl
  unfold wp_X5_toggleConverter at hw
  refine lv_aload_n hx hb dX5_toggleConverter_0 rfl (lv_at hl 0 rfl) ?_
  refine gf_5_0 (k := 0) hx hb hts (by decide +kernel) hown hK hP (by decide) (kk_0) (q := 1) (hF.1 0 0 1 ff_0_0) (hts (.fieldLink RX5 12 "Opticmesh" "network" "LOpticmesh$Network;") (by decide +kernel)) dX5_toggleConverter_1 ?_
  refine lv_iload_n hx hb dX5_toggleConverter_4 rfl (lv_at hl 1 rfl) ?_
  refine q_call (va_runV (As := [.int x1]) (rest := []) ⟨hx, hb, hml, hown, hts⟩ (c_X2_hasNode l D cy b0 S x1 _ hw) (cwV 1 hts gX5_toggleConverter_X2_hasNode rfl rfl rfl (by decide +kernel) ⟨(Nat.le_of_ble_eq_true rfl), (Nat.le_of_ble_eq_true rfl)⟩) (q_pV hW hP hF hS (k := 1) (ci := 2) (by decide) (cell_2 (kk_1)) rfl [.int x1]) rfl rfl hl.1 rfl (lv_room (Nat.le_of_ble_eq_true rfl)) dX5_toggleConverter_5 ⟨(Nat.le_of_ble_eq_true rfl), (Nat.le_of_ble_eq_true rfl)⟩) hS (fun v5 S5 t5 H locs hh hp hB hz hk9 hS => ?_)
  obtain ⟨r5, rfl, hw⟩ := hp
  have hP : HP D cy b0 NALL S5 H := by rw [← hh]; exact hB.1
  have hF := hB.2
  try dsimp only at hw
  refine W.eq (g2 := F0 m 8 ls [.int (b2i r5)]) rfl ?_
  refine lv_if_ne (x := b2i r5) (tgt := 21) hx hb dX5_toggleConverter_8 (by decide) (fun c8 => ?_) (fun c8 => ?_)
  · have c8 := b2i_n c8
    rw [if_pos c8] at hw
    refine lv_aload_n hx hb dX5_toggleConverter_21 rfl (lv_at hl 0 rfl) ?_
    refine gf_5_0 (k := 0) hx hb hts (by decide +kernel) hown hK hP (by decide) (kk_0) (q := 1) (hF.1 0 0 1 ff_0_0) (hts (.fieldLink RX5 12 "Opticmesh" "network" "LOpticmesh$Network;") (by decide +kernel)) dX5_toggleConverter_22 ?_
    refine lv_dup hx hb dX5_toggleConverter_25 rfl ?_
    refine gf_2_3 (k := 1) hx hb hts (by decide +kernel) hown hK hP (by decide) (kk_1) (hts (.fieldLink RX5 87 "Opticmesh$Network" "converters" "I") (by decide +kernel)) dX5_toggleConverter_26 ?_
    refine lv_iconst (v := 1) hx hb dX5_toggleConverter_29 (by decide) ?_
    refine lv_iload_n hx hb dX5_toggleConverter_30 rfl (lv_at hl 1 rfl) ?_
    refine lv_ishl hx hb dX5_toggleConverter_31 ?_
    refine lv_ixor hx hb dX5_toggleConverter_32 ?_
    refine pf_2_3 (k := 1) (x := ((gI S5 1 3) ^^^ (1 <<< (x1 &&& 31)))) hx hb hts (by decide +kernel) hown hK hP hS (by decide) (kk_1) (hts (.fieldLink RX5 87 "Opticmesh$Network" "converters" "I") (by decide +kernel)) dX5_toggleConverter_33 (fun H locs hz hP hS => ?_)
    have hF : Fx (sI S5 1 3 ((gI S5 1 3) ^^^ (1 <<< (x1 &&& 31)))) := Fx.sI hF _ _ _
    generalize eS33 : sI S5 1 3 ((gI S5 1 3) ^^^ (1 <<< (x1 &&& 31))) = S33 at hP hF
    have hw := hw S33 eS33.symm
    refine lv_aload_n hx hb dX5_toggleConverter_36 rfl (lv_at hl 0 rfl) ?_
    refine gf_5_0 (k := 0) hx hb hts (by decide +kernel) hown hK hP (by decide) (kk_0) (q := 1) (hF.1 0 0 1 ff_0_0) (hts (.fieldLink RX5 12 "Opticmesh" "network" "LOpticmesh$Network;") (by decide +kernel)) dX5_toggleConverter_37 ?_
    refine gf_2_3 (k := 1) hx hb hts (by decide +kernel) hown hK hP (by decide) (kk_1) (hts (.fieldLink RX5 87 "Opticmesh$Network" "converters" "I") (by decide +kernel)) dX5_toggleConverter_40 ?_
    refine lv_iload_n hx hb dX5_toggleConverter_43 rfl (lv_at hl 1 rfl) ?_
    refine lv_ishr hx hb dX5_toggleConverter_44 ?_
    refine lv_iconst (v := 1) hx hb dX5_toggleConverter_45 (by decide) ?_
    refine lv_iand hx hb dX5_toggleConverter_46 ?_
    refine lv_if_eq (x := (((gI S33 1 3) >>> (x1 &&& 31)) &&& 1)) (tgt := 54) hx hb dX5_toggleConverter_47 (by decide) (fun c47 => ?_) (fun c47 => ?_)
    · rw [if_pos c47] at hw
      refine lv_iconst (v := 0) hx hb dX5_toggleConverter_54 (by decide) ?_
      refine vx_ret ?_
      exact q_zret (v := false) hx hb hr hP hF hS hw dX5_toggleConverter_55 hlocks
    · rw [if_neg c47] at hw
      refine lv_iconst (v := 1) hx hb dX5_toggleConverter_50 (by decide) ?_
      refine lv_goto (tgt := 55) hx hb dX5_toggleConverter_51 (by decide) ?_
      refine vx_ret ?_
      exact q_zret (v := true) hx hb hr hP hF hS hw dX5_toggleConverter_55 hlocks
  · have c8 := b2i_z c8
    rw [if_neg c8] at hw
    exact q_throw (cls := eA) (text := "no such node") (Ts := wsX5_toggleConverter) hx hb hlt hts hown (by decide +kernel) (hts (.classLink RX5 48 eA) (by decide +kernel)) (hts (.initialized eA) (by decide +kernel)) (by decide) (fun w h => List.mem_cons_of_mem _ (List.mem_append_right _ h)) thA2 (by decide) thA3 hW hP hF hS (hl.1.trans hml.symm) dX5_toggleConverter_11 dX5_toggleConverter_14 dX5_toggleConverter_15 dX5_toggleConverter_17 dX5_toggleConverter_20 ht9 (Nat.le_of_ble_eq_true rfl) (Nat.le_of_ble_eq_true rfl) (Nat.le_of_ble_eq_true rfl) (Nat.le_of_ble_eq_true rfl) hlocks hw (by decide) (by decide)
set_option maxHeartbeats 4000000 in
set_option maxRecDepth 100000 in
theorem c_X5_lightsUp (l : Launch) (D : va_G) (cy : Nat → ClassId) (b0 : Nat) (S : St)   (P : Int32 → St → Prop) (hw : wp_X5_lightsUp S  P) : Met l yX5_lightsUp wsX5_lightsUp rm_X5_lightsUp (va_Pc [.ref (b0 + 0)] (Wd D cy b0 NALL S)) (QC (Pi P) (Wb D cy b0 NALL) b0) 0 0 (AA b0) := by
  refine Met.ofW (cc := cX5_lightsUp) (maxL := 3) (ret := (some .int)) (by decide) rfl ?_
  intro p e s m args below meth c s₁ B hml hv
  obtain ⟨hargs, hW, hP, hF⟩ := hv
  have hx := B.exec
  have hb := B.bytes
  have hr := B.returns
  have hts := atoms_spec (ws := wsX5_lightsUp) B.pre
  have hown : s.vm.findClass RX5 = some m.cls := findClass_of_methodNamed B.named
  have hlocks := B.notSynchronized
  have hK := hW.1
  have hS : va_S (AA b0) s.heap s.heap [] := va_S.rf
  have hE : entryFrame m args 3 = F0 m 0 ((lg_sl [.ref (b0 + 0)] ++ List.replicate (3 - (lg_sl [.ref (b0 + 0)]).length) Slot.unset).toArray) [] := by rw [hargs]; exact lg_entry_eq m _ _
  rw [hE]
  have hl := lv_entry [.ref (b0 + 0)] (n := 3) (Nat.le_of_ble_eq_true rfl)
  generalize (lg_sl [.ref (b0 + 0)] ++ List.replicate (3 - (lg_sl [.ref (b0 + 0)]).length) Slot.unset).toArray = ls at hl ⊢
  have hl : lv_has ls 3 [(0, .ref (b0 + 0))] := hl
  have j4 : ∀ (n4 : Nat), ∀ (S : St) (a1 : Int32) (a2 : Int32), ∀ (H : Heap) (locs : List Loc) (ls : Array Slot), wp_X5_lightsUp_4 P n4 S a1 a2 → HP D cy b0 NALL S H → Fx S → va_S (AA b0) s.heap H locs → lv_has ls 3 [(0, .ref (b0 + 0)), (1, .int a1), (2, .int a2)] → W p l e rm_X5_lightsUp s m args below meth c H locs 0 0 (MQ below (QC (Pi P) (Wb D cy b0 NALL) b0) args s 0 0 (AA b0)) (F0 m 4 ls []) := by
    intro n4
    induction n4 with
    | zero => intro S a1 a2  H locs ls hw _ _ _ _; exact False.elim hw
    | succ n4 ih4 =>
      have j34 : ∀ (S : St) (a1 : Int32) (a2 : Int32), ∀ (H : Heap) (locs : List Loc) (ls : Array Slot), wp_X5_lightsUp_34 P (fun S a1 a2 => wp_X5_lightsUp_4 P n4 S a1 a2) S a1 a2 → HP D cy b0 NALL S H → Fx S → va_S (AA b0) s.heap H locs → lv_has ls 3 [(0, .ref (b0 + 0)), (1, .int a1), (2, .int a2)] → W p l e rm_X5_lightsUp s m args below meth c H locs 0 0 (MQ below (QC (Pi P) (Wb D cy b0 NALL) b0) args s 0 0 (AA b0)) (F0 m 34 ls []) := by
        intro S a1 a2  H locs ls hw hP hF hS hl
        unfold wp_X5_lightsUp_34 at hw
        obtain ⟨y34, e34⟩ : ∃ z : Int32, z = a2 + 1 := ⟨_, rfl⟩
        have hw := hw y34 e34
        refine lv_iinc (v := y34) (lv' := [(2, .int y34), (0, .ref (b0 + 0)), (1, .int a1)]) hx hb dX5_lightsUp_34 hl (k := 2) rfl (by rw [e34]; rfl) (by decide) rfl (fun ls hl => ?_)
        refine lv_goto (tgt := 4) hx hb dX5_lightsUp_37 (by decide) ?_
        exact ih4 S a1 y34  _ _ _ hw hP hF hS (lv_sub hl [1, 2, 0] rfl)
      intro S a1 a2  H locs ls hw hP hF hS hl
      rw [wp_X5_lightsUp_4] at hw
      refine lv_iload_n hx hb dX5_lightsUp_4 rfl (lv_at hl 2 rfl) ?_
      refine lv_aload_n hx hb dX5_lightsUp_5 rfl (lv_at hl 0 rfl) ?_
      refine gf_5_4 (k := 0) hx hb hts (by decide +kernel) hown hK hP (by decide) (kk_0) (hts (.fieldLink RX5 59 "Opticmesh" "lightCount" "I") (by decide +kernel)) dX5_lightsUp_6 ?_
      refine lv_icmp_ge (x := a2) (y := (gI S 0 4)) (tgt := 40) hx hb dX5_lightsUp_9 (by decide) (fun c9 => ?_) (fun c9 => ?_)
      · rw [if_pos c9] at hw
        refine lv_iload_n hx hb dX5_lightsUp_40 rfl (lv_at hl 1 rfl) ?_
        exact q_iret hx hb hr hP hF hS hw dX5_lightsUp_41 hlocks
      · rw [if_neg c9] at hw
        refine lv_aload_n hx hb dX5_lightsUp_12 rfl (lv_at hl 0 rfl) ?_
        refine gf_5_3 (k := 0) hx hb hts (by decide +kernel) hown hK hP (by decide) (kk_0) (q := 184) (hF.1 0 3 184 ff_0_3) (hts (.fieldLink RX5 34 "Opticmesh" "lightList" "[LOpticmesh$Light;") (by decide +kernel)) dX5_lightsUp_13 ?_
        refine lv_iload_n hx hb dX5_lightsUp_16 rfl (lv_at hl 2 rfl) ?_
        obtain ⟨h17, hw⟩ := hw
        refine q_aald9 (k := 184) (n := 60) (i := a2) hx hb hK hP (by decide) (kk_184) (ll_184) h17 dX5_lightsUp_17 ?_
        rw [rf_some (hF.1 184 _ _ (fx_184 (vp_lt h17)))]
        refine lv_aload_n hx hb dX5_lightsUp_18 rfl (lv_at hl 0 rfl) ?_
        refine gf_5_0 (k := 0) hx hb hts (by decide +kernel) hown hK hP (by decide) (kk_0) (q := 1) (hF.1 0 0 1 ff_0_0) (hts (.fieldLink RX5 12 "Opticmesh" "network" "LOpticmesh$Network;") (by decide +kernel)) dX5_lightsUp_19 ?_
        refine gf_2_4 (k := 1) hx hb hts (by decide +kernel) hown hK hP (by decide) (kk_1) (hts (.fieldLink RX5 102 "Opticmesh$Network" "cutFibres" "I") (by decide +kernel)) dX5_lightsUp_22 ?_
        refine q_call (va_runV (As := [.int (gI S 1 4)]) (rest := []) ⟨hx, hb, hml, hown, hts⟩ (c_X1_isUp l D cy b0 S (185 + 3 * (a2.toNatClampNeg)) (gI S 1 4) (kd_Li (vp_lt h17)) _ hw) (cwV 1 hts gX5_lightsUp_X1_isUp rfl rfl rfl (by decide +kernel) ⟨(Nat.le_of_ble_eq_true rfl), (Nat.le_of_ble_eq_true rfl)⟩) (q_pV hW hP hF hS (k := (185 + 3 * (a2.toNatClampNeg))) (ci := 1) (kd_N (kd_Li (vp_lt h17)) (by decide)) (cell_1 (kd_Li (vp_lt h17))) rfl [.int (gI S 1 4)]) rfl rfl hl.1 rfl (lv_room (Nat.le_of_ble_eq_true rfl)) dX5_lightsUp_25 ⟨(Nat.le_of_ble_eq_true rfl), (Nat.le_of_ble_eq_true rfl)⟩) hS (fun v25 S25 t25 H locs hh hp hB hz hk9 hS => ?_)
        obtain ⟨r25, rfl, hw⟩ := hp
        have hP : HP D cy b0 NALL S25 H := by rw [← hh]; exact hB.1
        have hF := hB.2
        try dsimp only at hw
        refine W.eq (g2 := F0 m 28 ls [.int (b2i r25)]) rfl ?_
        refine lv_if_eq (x := b2i r25) (tgt := 34) hx hb dX5_lightsUp_28 (by decide) (fun c28 => ?_) (fun c28 => ?_)
        · have c28 := b2i_z c28
          rw [if_neg c28] at hw
          exact j34 S25 a1 a2  _ _ _ hw hP hF hS (lv_sub hl [0, 1, 2] rfl)
        · have c28 := b2i_n c28
          rw [if_pos c28] at hw
          obtain ⟨y31, e31⟩ : ∃ z : Int32, z = a1 + 1 := ⟨_, rfl⟩
          have hw := hw y31 e31
          refine lv_iinc (v := y31) (lv' := [(1, .int y31), (0, .ref (b0 + 0)), (2, .int a2)]) hx hb dX5_lightsUp_31 hl (k := 1) rfl (by rw [e31]; rfl) (by decide) rfl (fun ls hl => ?_)
          exact j34 S25 y31 a2  _ _ _ hw hP hF hS (lv_sub hl [1, 0, 2] rfl)
  unfold wp_X5_lightsUp at hw
  refine lv_iconst (v := 0) hx hb dX5_lightsUp_0 (by decide) ?_
  refine lv_istore_n (lv' := [(1, .int 0), (0, .ref (b0 + 0))]) hx hb dX5_lightsUp_1 rfl hl (by decide) rfl (fun ls hl => ?_)
  refine lv_iconst (v := 0) hx hb dX5_lightsUp_2 (by decide) ?_
  refine lv_istore_n (lv' := [(2, .int 0), (1, .int 0), (0, .ref (b0 + 0))]) hx hb dX5_lightsUp_3 rfl hl (by decide) rfl (fun ls hl => ?_)
  obtain ⟨n4, hw⟩ := hw
  exact j4 n4 S 0 0  _ _ _ hw hP hF hS (lv_sub hl [2, 1, 0] rfl)
set_option maxHeartbeats 4000000 in
set_option maxRecDepth 100000 in
theorem c_X5_requireFibre (l : Launch) (hlt : l.stackTraces = false) (D : va_G) (cy : Nat → ClassId) (b0 : Nat) (S : St) (x1 : Int32)  (P : St → Prop) (E : String → St → Prop) (hw : wp_X5_requireFibre S x1 P E) : vx_Met l yX5_requireFibre wsX5_requireFibre rm_X5_requireFibre (va_Pc [.ref (b0 + 0), .int x1] (Wd D cy b0 NALL S)) (QC (Pv P) (Wb D cy b0 NALL) b0) (XX E (Wb D cy b0 NALL) b0) 1 6 (AA b0) := by
  refine vx_ofW (cc := cX5_requireFibre) (maxL := 2) (ret := none) (by decide) rfl ?_
  intro p e s m args below meth c s₁ B hml ht9 hv
  obtain ⟨hargs, hW, hP, hF⟩ := hv
  have hx := B.exec
  have hb := B.bytes
  have hr := B.returns
  have hts := atoms_spec (ws := wsX5_requireFibre) B.pre
  have hown : s.vm.findClass RX5 = some m.cls := findClass_of_methodNamed B.named
  have hlocks := B.notSynchronized
  have hK := hW.1
  have hS : va_S (AA b0) s.heap s.heap [] := va_S.rf
  have hE : entryFrame m args 2 = F0 m 0 ((lg_sl [.ref (b0 + 0), .int x1] ++ List.replicate (2 - (lg_sl [.ref (b0 + 0), .int x1]).length) Slot.unset).toArray) [] := by rw [hargs]; exact lg_entry_eq m _ _
  rw [hE]
  have hl := lv_entry [.ref (b0 + 0), .int x1] (n := 2) (Nat.le_of_ble_eq_true rfl)
  generalize (lg_sl [.ref (b0 + 0), .int x1] ++ List.replicate (2 - (lg_sl [.ref (b0 + 0), .int x1]).length) Slot.unset).toArray = ls at hl ⊢
  have hl : lv_has ls 2 [(0, .ref (b0 + 0)), (1, .int x1)] := hl
  unfold wp_X5_requireFibre at hw
  refine lv_aload_n hx hb dX5_requireFibre_0 rfl (lv_at hl 0 rfl) ?_
  refine gf_5_0 (k := 0) hx hb hts (by decide +kernel) hown hK hP (by decide) (kk_0) (q := 1) (hF.1 0 0 1 ff_0_0) (hts (.fieldLink RX5 12 "Opticmesh" "network" "LOpticmesh$Network;") (by decide +kernel)) dX5_requireFibre_1 ?_
  refine lv_iload_n hx hb dX5_requireFibre_4 rfl (lv_at hl 1 rfl) ?_
  refine q_call (va_runV (As := [.int x1]) (rest := []) ⟨hx, hb, hml, hown, hts⟩ (c_X2_hasFibre l D cy b0 S x1 _ hw) (cwV 1 hts gX5_requireFibre_X2_hasFibre rfl rfl rfl (by decide +kernel) ⟨(Nat.le_of_ble_eq_true rfl), (Nat.le_of_ble_eq_true rfl)⟩) (q_pV hW hP hF hS (k := 1) (ci := 2) (by decide) (cell_2 (kk_1)) rfl [.int x1]) rfl rfl hl.1 rfl (lv_room (Nat.le_of_ble_eq_true rfl)) dX5_requireFibre_5 ⟨(Nat.le_of_ble_eq_true rfl), (Nat.le_of_ble_eq_true rfl)⟩) hS (fun v5 S5 t5 H locs hh hp hB hz hk9 hS => ?_)
  obtain ⟨r5, rfl, hw⟩ := hp
  have hP : HP D cy b0 NALL S5 H := by rw [← hh]; exact hB.1
  have hF := hB.2
  try dsimp only at hw
  refine W.eq (g2 := F0 m 8 ls [.int (b2i r5)]) rfl ?_
  refine lv_if_ne (x := b2i r5) (tgt := 22) hx hb dX5_requireFibre_8 (by decide) (fun c8 => ?_) (fun c8 => ?_)
  · have c8 := b2i_n c8
    rw [if_pos c8] at hw
    refine vx_ret ?_
    exact q_vret hx hb hr hP hF hS hw dX5_requireFibre_22 hlocks
  · have c8 := b2i_z c8
    rw [if_neg c8] at hw
    exact q_throwW (cls := eX) (text := "no such fibre") (Ts := wsX5_requireFibre) hx hb hlt hts hown (by decide +kernel) (hts (.classLink RX5 198 eX) (by decide +kernel)) (hts (.initialized eX) (by decide +kernel)) (by decide) (fun w h => List.mem_cons_of_mem _ (List.mem_append_right _ h)) thX2 (by decide) thX3 hW hP hF hS (hl.1.trans hml.symm) dX5_requireFibre_11 dX5_requireFibre_14 dX5_requireFibre_15 dX5_requireFibre_18 dX5_requireFibre_21 ht9 (Nat.le_of_ble_eq_true rfl) (Nat.le_of_ble_eq_true rfl) (Nat.le_of_ble_eq_true rfl) (Nat.le_of_ble_eq_true rfl) hlocks hw (by decide) (by decide)
set_option maxHeartbeats 4000000 in
set_option maxRecDepth 100000 in
theorem c_X5_cut (l : Launch) (hlt : l.stackTraces = false) (D : va_G) (cy : Nat → ClassId) (b0 : Nat) (S : St) (x1 : Int32)  (P : Int32 → St → Prop) (E : String → St → Prop) (hw : wp_X5_cut S x1 P E) : vx_Met l yX5_cut wsX5_cut rm_X5_cut (va_Pc [.ref (b0 + 0), .int x1] (Wd D cy b0 NALL S)) (QC (Pi P) (Wb D cy b0 NALL) b0) (XX E (Wb D cy b0 NALL) b0) 1 6 (AA b0) := by
  refine vx_ofW (cc := cX5_cut) (maxL := 3) (ret := (some .int)) (by decide) rfl ?_
  intro p e s m args below meth c s₁ B hml ht9 hv
  obtain ⟨hargs, hW, hP, hF⟩ := hv
  have hx := B.exec
  have hb := B.bytes
  have hr := B.returns
  have hts := atoms_spec (ws := wsX5_cut) B.pre
  have hown : s.vm.findClass RX5 = some m.cls := findClass_of_methodNamed B.named
  have hlocks := B.notSynchronized
  have hK := hW.1
  have hS : va_S (AA b0) s.heap s.heap [] := va_S.rf
  have hE : entryFrame m args 3 = F0 m 0 ((lg_sl [.ref (b0 + 0), .int x1] ++ List.replicate (3 - (lg_sl [.ref (b0 + 0), .int x1]).length) Slot.unset).toArray) [] := by rw [hargs]; exact lg_entry_eq m _ _
  rw [hE]
  have hl := lv_entry [.ref (b0 + 0), .int x1] (n := 3) (Nat.le_of_ble_eq_true rfl)
  generalize (lg_sl [.ref (b0 + 0), .int x1] ++ List.replicate (3 - (lg_sl [.ref (b0 + 0), .int x1]).length) Slot.unset).toArray = ls at hl ⊢
  have hl : lv_has ls 3 [(0, .ref (b0 + 0)), (1, .int x1)] := hl
  unfold wp_X5_cut at hw
  refine lv_aload_n hx hb dX5_cut_0 rfl (lv_at hl 0 rfl) ?_
  refine lv_iload_n hx hb dX5_cut_1 rfl (lv_at hl 1 rfl) ?_
  refine q_callX (vx_runV (As := [.int x1]) (rest := []) ⟨hx, hb, hml, hown, hts⟩ (c_X5_requireFibre l hlt D cy b0 S x1 _ _ hw) (cwV 1 hts gX5_cut_X5_requireFibre rfl rfl rfl (by decide +kernel) ⟨(Nat.le_of_ble_eq_true rfl), (Nat.le_of_ble_eq_true rfl)⟩) (q_pV hW hP hF hS (k := 0) (ci := 5) (by decide) (cell_5 (kk_0)) rfl [.int x1]) rfl rfl hl.1 rfl (lv_room (Nat.le_of_ble_eq_true rfl)) dX5_cut_2 ⟨(Nat.le_of_ble_eq_true rfl), (Nat.le_of_ble_eq_true rfl)⟩) hS (fun E2 ce q9 S2 t2 H locs hh hw hB hz hS hc9 hv9 hcl9 => ?_) (fun v2 S2 t2 H locs hh hp hB hz hk9 hS => ?_)
  · have hP : HP D cy b0 NALL S2 H := by rw [← hh]; exact hB.1
    exact q_pass ht9 hlocks hP hB.2 hS hw hc9 hv9 hcl9 (by decide) (by decide)
  · obtain ⟨rfl, hw⟩ := hp
    have hP : HP D cy b0 NALL S2 H := by rw [← hh]; exact hB.1
    have hF := hB.2
    try dsimp only at hw
    refine W.eq (g2 := F0 m 5 ls []) rfl ?_
    refine lv_aload_n hx hb dX5_cut_5 rfl (lv_at hl 0 rfl) ?_
    refine gf_5_0 (k := 0) hx hb hts (by decide +kernel) hown hK hP (by decide) (kk_0) (q := 1) (hF.1 0 0 1 ff_0_0) (hts (.fieldLink RX5 12 "Opticmesh" "network" "LOpticmesh$Network;") (by decide +kernel)) dX5_cut_6 ?_
    refine lv_iload_n hx hb dX5_cut_9 rfl (lv_at hl 1 rfl) ?_
    refine q_call (va_runV (As := [.int x1]) (rest := []) ⟨hx, hb, hml, hown, hts⟩ (c_X2_isCut l D cy b0 S2 x1 _ hw) (cwV 1 hts gX5_cut_X2_isCut rfl rfl rfl (by decide +kernel) ⟨(Nat.le_of_ble_eq_true rfl), (Nat.le_of_ble_eq_true rfl)⟩) (q_pV hW hP hF hS (k := 1) (ci := 2) (by decide) (cell_2 (kk_1)) rfl [.int x1]) rfl rfl hl.1 rfl (lv_room (Nat.le_of_ble_eq_true rfl)) dX5_cut_10 ⟨(Nat.le_of_ble_eq_true rfl), (Nat.le_of_ble_eq_true rfl)⟩) hS (fun v10 S10 t10 H locs hh hp hB hz hk9 hS => ?_)
    obtain ⟨r10, rfl, hw⟩ := hp
    have hP : HP D cy b0 NALL S10 H := by rw [← hh]; exact hB.1
    have hF := hB.2
    try dsimp only at hw
    refine W.eq (g2 := F0 m 13 ls [.int (b2i r10)]) rfl ?_
    refine lv_if_eq (x := b2i r10) (tgt := 26) hx hb dX5_cut_13 (by decide) (fun c13 => ?_) (fun c13 => ?_)
    · have c13 := b2i_z c13
      rw [if_neg c13] at hw
      refine lv_aload_n hx hb dX5_cut_26 rfl (lv_at hl 0 rfl) ?_
      refine q_call (va_runV (As := []) (rest := []) ⟨hx, hb, hml, hown, hts⟩ (c_X5_lightsUp l D cy b0 S10 _ hw) (cwV 0 hts gX5_cut_X5_lightsUp rfl rfl rfl (by decide +kernel) ⟨(Nat.le_of_ble_eq_true rfl), (Nat.le_of_ble_eq_true rfl)⟩) (q_pV hW hP hF hS (k := 0) (ci := 5) (by decide) (cell_5 (kk_0)) rfl []) rfl rfl hl.1 rfl (lv_room (Nat.le_of_ble_eq_true rfl)) dX5_cut_27 ⟨(Nat.le_of_ble_eq_true rfl), (Nat.le_of_ble_eq_true rfl)⟩) hS (fun v27 S27 t27 H locs hh hp hB hz hk9 hS => ?_)
      obtain ⟨r27, rfl, hw⟩ := hp
      have hP : HP D cy b0 NALL S27 H := by rw [← hh]; exact hB.1
      have hF := hB.2
      try dsimp only at hw
      refine W.eq (g2 := F0 m 30 ls [.int r27]) rfl ?_
      refine lv_istore_n (lv' := [(2, .int r27), (0, .ref (b0 + 0)), (1, .int x1)]) hx hb dX5_cut_30 rfl hl (by decide) rfl (fun ls hl => ?_)
      refine lv_aload_n hx hb dX5_cut_31 rfl (lv_at hl 1 rfl) ?_
      refine gf_5_0 (k := 0) hx hb hts (by decide +kernel) hown hK hP (by decide) (kk_0) (q := 1) (hF.1 0 0 1 ff_0_0) (hts (.fieldLink RX5 12 "Opticmesh" "network" "LOpticmesh$Network;") (by decide +kernel)) dX5_cut_32 ?_
      refine lv_dup hx hb dX5_cut_35 rfl ?_
      refine gf_2_4 (k := 1) hx hb hts (by decide +kernel) hown hK hP (by decide) (kk_1) (hts (.fieldLink RX5 102 "Opticmesh$Network" "cutFibres" "I") (by decide +kernel)) dX5_cut_36 ?_
      refine lv_iconst (v := 1) hx hb dX5_cut_39 (by decide) ?_
      refine lv_iload_n hx hb dX5_cut_40 rfl (lv_at hl 2 rfl) ?_
      refine lv_ishl hx hb dX5_cut_41 ?_
      refine lv_ior hx hb dX5_cut_42 ?_
      refine pf_2_4 (k := 1) (x := ((gI S27 1 4) ||| (1 <<< (x1 &&& 31)))) hx hb hts (by decide +kernel) hown hK hP hS (by decide) (kk_1) (hts (.fieldLink RX5 102 "Opticmesh$Network" "cutFibres" "I") (by decide +kernel)) dX5_cut_43 (fun H locs hz hP hS => ?_)
      have hF : Fx (sI S27 1 4 ((gI S27 1 4) ||| (1 <<< (x1 &&& 31)))) := Fx.sI hF _ _ _
      generalize eS43 : sI S27 1 4 ((gI S27 1 4) ||| (1 <<< (x1 &&& 31))) = S43 at hP hF
      have hw := hw S43 eS43.symm
      refine lv_iload_n hx hb dX5_cut_46 rfl (lv_at hl 0 rfl) ?_
      refine lv_aload_n hx hb dX5_cut_47 rfl (lv_at hl 1 rfl) ?_
      refine q_call (va_runV (As := []) (rest := [.int r27]) ⟨hx, hb, hml, hown, hts⟩ (c_X5_lightsUp l D cy b0 S43 _ hw) (cwV 0 hts gX5_cut_X5_lightsUp rfl rfl rfl (by decide +kernel) ⟨(Nat.le_of_ble_eq_true rfl), (Nat.le_of_ble_eq_true rfl)⟩) (q_pV hW hP hF hS (k := 0) (ci := 5) (by decide) (cell_5 (kk_0)) rfl []) rfl rfl hl.1 rfl (lv_room (Nat.le_of_ble_eq_true rfl)) dX5_cut_48 ⟨(Nat.le_of_ble_eq_true rfl), (Nat.le_of_ble_eq_true rfl)⟩) hS (fun v48 S48 t48 H locs hh hp hB hz hk9 hS => ?_)
      obtain ⟨r48, rfl, hw⟩ := hp
      have hP : HP D cy b0 NALL S48 H := by rw [← hh]; exact hB.1
      have hF := hB.2
      try dsimp only at hw
      refine W.eq (g2 := F0 m 51 ls [.int r48, .int r27]) rfl ?_
      refine lv_isub hx hb dX5_cut_51 ?_
      refine vx_ret ?_
      exact q_iret hx hb hr hP hF hS hw dX5_cut_52 hlocks
    · have c13 := b2i_n c13
      rw [if_pos c13] at hw
      exact q_throw (cls := eS) (text := "the fibre is cut") (Ts := wsX5_cut) hx hb hlt hts hown (by decide +kernel) (hts (.classLink RX5 76 eS) (by decide +kernel)) (hts (.initialized eS) (by decide +kernel)) (by decide) (fun w h => List.mem_cons_of_mem _ (List.mem_append_left _ (List.mem_append_right _ h))) thS2 (by decide) thS3 hW hP hF hS (hl.1.trans hml.symm) dX5_cut_16 dX5_cut_19 dX5_cut_20 dX5_cut_22 dX5_cut_25 ht9 (Nat.le_of_ble_eq_true rfl) (Nat.le_of_ble_eq_true rfl) (Nat.le_of_ble_eq_true rfl) (Nat.le_of_ble_eq_true rfl) hlocks hw (by decide) (by decide)
set_option maxHeartbeats 4000000 in
set_option maxRecDepth 100000 in
theorem c_X5_repair (l : Launch) (hlt : l.stackTraces = false) (D : va_G) (cy : Nat → ClassId) (b0 : Nat) (S : St) (x1 : Int32)  (P : Int32 → St → Prop) (E : String → St → Prop) (hw : wp_X5_repair S x1 P E) : vx_Met l yX5_repair wsX5_repair rm_X5_repair (va_Pc [.ref (b0 + 0), .int x1] (Wd D cy b0 NALL S)) (QC (Pi P) (Wb D cy b0 NALL) b0) (XX E (Wb D cy b0 NALL) b0) 1 6 (AA b0) := by
  refine vx_ofW (cc := cX5_repair) (maxL := 3) (ret := (some .int)) (by decide) rfl ?_
  intro p e s m args below meth c s₁ B hml ht9 hv
  obtain ⟨hargs, hW, hP, hF⟩ := hv
  have hx := B.exec
  have hb := B.bytes
  have hr := B.returns
  have hts := atoms_spec (ws := wsX5_repair) B.pre
  have hown : s.vm.findClass RX5 = some m.cls := findClass_of_methodNamed B.named
  have hlocks := B.notSynchronized
  have hK := hW.1
  have hS : va_S (AA b0) s.heap s.heap [] := va_S.rf
  have hE : entryFrame m args 3 = F0 m 0 ((lg_sl [.ref (b0 + 0), .int x1] ++ List.replicate (3 - (lg_sl [.ref (b0 + 0), .int x1]).length) Slot.unset).toArray) [] := by rw [hargs]; exact lg_entry_eq m _ _
  rw [hE]
  have hl := lv_entry [.ref (b0 + 0), .int x1] (n := 3) (Nat.le_of_ble_eq_true rfl)
  generalize (lg_sl [.ref (b0 + 0), .int x1] ++ List.replicate (3 - (lg_sl [.ref (b0 + 0), .int x1]).length) Slot.unset).toArray = ls at hl ⊢
  have hl : lv_has ls 3 [(0, .ref (b0 + 0)), (1, .int x1)] := hl
  unfold wp_X5_repair at hw
  refine lv_aload_n hx hb dX5_repair_0 rfl (lv_at hl 0 rfl) ?_
  refine lv_iload_n hx hb dX5_repair_1 rfl (lv_at hl 1 rfl) ?_
  refine q_callX (vx_runV (As := [.int x1]) (rest := []) ⟨hx, hb, hml, hown, hts⟩ (c_X5_requireFibre l hlt D cy b0 S x1 _ _ hw) (cwV 1 hts gX5_repair_X5_requireFibre rfl rfl rfl (by decide +kernel) ⟨(Nat.le_of_ble_eq_true rfl), (Nat.le_of_ble_eq_true rfl)⟩) (q_pV hW hP hF hS (k := 0) (ci := 5) (by decide) (cell_5 (kk_0)) rfl [.int x1]) rfl rfl hl.1 rfl (lv_room (Nat.le_of_ble_eq_true rfl)) dX5_repair_2 ⟨(Nat.le_of_ble_eq_true rfl), (Nat.le_of_ble_eq_true rfl)⟩) hS (fun E2 ce q9 S2 t2 H locs hh hw hB hz hS hc9 hv9 hcl9 => ?_) (fun v2 S2 t2 H locs hh hp hB hz hk9 hS => ?_)
  · have hP : HP D cy b0 NALL S2 H := by rw [← hh]; exact hB.1
    exact q_pass ht9 hlocks hP hB.2 hS hw hc9 hv9 hcl9 (by decide) (by decide)
  · obtain ⟨rfl, hw⟩ := hp
    have hP : HP D cy b0 NALL S2 H := by rw [← hh]; exact hB.1
    have hF := hB.2
    try dsimp only at hw
    refine W.eq (g2 := F0 m 5 ls []) rfl ?_
    refine lv_aload_n hx hb dX5_repair_5 rfl (lv_at hl 0 rfl) ?_
    refine gf_5_0 (k := 0) hx hb hts (by decide +kernel) hown hK hP (by decide) (kk_0) (q := 1) (hF.1 0 0 1 ff_0_0) (hts (.fieldLink RX5 12 "Opticmesh" "network" "LOpticmesh$Network;") (by decide +kernel)) dX5_repair_6 ?_
    refine lv_iload_n hx hb dX5_repair_9 rfl (lv_at hl 1 rfl) ?_
    refine q_call (va_runV (As := [.int x1]) (rest := []) ⟨hx, hb, hml, hown, hts⟩ (c_X2_isCut l D cy b0 S2 x1 _ hw) (cwV 1 hts gX5_repair_X2_isCut rfl rfl rfl (by decide +kernel) ⟨(Nat.le_of_ble_eq_true rfl), (Nat.le_of_ble_eq_true rfl)⟩) (q_pV hW hP hF hS (k := 1) (ci := 2) (by decide) (cell_2 (kk_1)) rfl [.int x1]) rfl rfl hl.1 rfl (lv_room (Nat.le_of_ble_eq_true rfl)) dX5_repair_10 ⟨(Nat.le_of_ble_eq_true rfl), (Nat.le_of_ble_eq_true rfl)⟩) hS (fun v10 S10 t10 H locs hh hp hB hz hk9 hS => ?_)
    obtain ⟨r10, rfl, hw⟩ := hp
    have hP : HP D cy b0 NALL S10 H := by rw [← hh]; exact hB.1
    have hF := hB.2
    try dsimp only at hw
    refine W.eq (g2 := F0 m 13 ls [.int (b2i r10)]) rfl ?_
    refine lv_if_ne (x := b2i r10) (tgt := 26) hx hb dX5_repair_13 (by decide) (fun c13 => ?_) (fun c13 => ?_)
    · have c13 := b2i_n c13
      rw [if_pos c13] at hw
      refine lv_aload_n hx hb dX5_repair_26 rfl (lv_at hl 0 rfl) ?_
      refine q_call (va_runV (As := []) (rest := []) ⟨hx, hb, hml, hown, hts⟩ (c_X5_lightsUp l D cy b0 S10 _ hw) (cwV 0 hts gX5_repair_X5_lightsUp rfl rfl rfl (by decide +kernel) ⟨(Nat.le_of_ble_eq_true rfl), (Nat.le_of_ble_eq_true rfl)⟩) (q_pV hW hP hF hS (k := 0) (ci := 5) (by decide) (cell_5 (kk_0)) rfl []) rfl rfl hl.1 rfl (lv_room (Nat.le_of_ble_eq_true rfl)) dX5_repair_27 ⟨(Nat.le_of_ble_eq_true rfl), (Nat.le_of_ble_eq_true rfl)⟩) hS (fun v27 S27 t27 H locs hh hp hB hz hk9 hS => ?_)
      obtain ⟨r27, rfl, hw⟩ := hp
      have hP : HP D cy b0 NALL S27 H := by rw [← hh]; exact hB.1
      have hF := hB.2
      try dsimp only at hw
      refine W.eq (g2 := F0 m 30 ls [.int r27]) rfl ?_
      refine lv_istore_n (lv' := [(2, .int r27), (0, .ref (b0 + 0)), (1, .int x1)]) hx hb dX5_repair_30 rfl hl (by decide) rfl (fun ls hl => ?_)
      refine lv_aload_n hx hb dX5_repair_31 rfl (lv_at hl 1 rfl) ?_
      refine gf_5_0 (k := 0) hx hb hts (by decide +kernel) hown hK hP (by decide) (kk_0) (q := 1) (hF.1 0 0 1 ff_0_0) (hts (.fieldLink RX5 12 "Opticmesh" "network" "LOpticmesh$Network;") (by decide +kernel)) dX5_repair_32 ?_
      refine lv_dup hx hb dX5_repair_35 rfl ?_
      refine gf_2_4 (k := 1) hx hb hts (by decide +kernel) hown hK hP (by decide) (kk_1) (hts (.fieldLink RX5 102 "Opticmesh$Network" "cutFibres" "I") (by decide +kernel)) dX5_repair_36 ?_
      refine lv_iconst (v := 1) hx hb dX5_repair_39 (by decide) ?_
      refine lv_iload_n hx hb dX5_repair_40 rfl (lv_at hl 2 rfl) ?_
      refine lv_ishl hx hb dX5_repair_41 ?_
      refine lv_iconst (v := (-1)) hx hb dX5_repair_42 (by decide) ?_
      refine lv_ixor hx hb dX5_repair_43 ?_
      refine lv_iand hx hb dX5_repair_44 ?_
      refine pf_2_4 (k := 1) (x := ((gI S27 1 4) &&& ((1 <<< (x1 &&& 31)) ^^^ (-1)))) hx hb hts (by decide +kernel) hown hK hP hS (by decide) (kk_1) (hts (.fieldLink RX5 102 "Opticmesh$Network" "cutFibres" "I") (by decide +kernel)) dX5_repair_45 (fun H locs hz hP hS => ?_)
      have hF : Fx (sI S27 1 4 ((gI S27 1 4) &&& ((1 <<< (x1 &&& 31)) ^^^ (-1)))) := Fx.sI hF _ _ _
      generalize eS45 : sI S27 1 4 ((gI S27 1 4) &&& ((1 <<< (x1 &&& 31)) ^^^ (-1))) = S45 at hP hF
      have hw := hw S45 eS45.symm
      refine lv_aload_n hx hb dX5_repair_48 rfl (lv_at hl 1 rfl) ?_
      refine q_call (va_runV (As := []) (rest := []) ⟨hx, hb, hml, hown, hts⟩ (c_X5_lightsUp l D cy b0 S45 _ hw) (cwV 0 hts gX5_repair_X5_lightsUp rfl rfl rfl (by decide +kernel) ⟨(Nat.le_of_ble_eq_true rfl), (Nat.le_of_ble_eq_true rfl)⟩) (q_pV hW hP hF hS (k := 0) (ci := 5) (by decide) (cell_5 (kk_0)) rfl []) rfl rfl hl.1 rfl (lv_room (Nat.le_of_ble_eq_true rfl)) dX5_repair_49 ⟨(Nat.le_of_ble_eq_true rfl), (Nat.le_of_ble_eq_true rfl)⟩) hS (fun v49 S49 t49 H locs hh hp hB hz hk9 hS => ?_)
      obtain ⟨r49, rfl, hw⟩ := hp
      have hP : HP D cy b0 NALL S49 H := by rw [← hh]; exact hB.1
      have hF := hB.2
      try dsimp only at hw
      refine W.eq (g2 := F0 m 52 ls [.int r49]) rfl ?_
      refine lv_iload_n hx hb dX5_repair_52 rfl (lv_at hl 0 rfl) ?_
      refine lv_isub hx hb dX5_repair_53 ?_
      refine vx_ret ?_
      exact q_iret hx hb hr hP hF hS hw dX5_repair_54 hlocks
    · have c13 := b2i_z c13
      rw [if_neg c13] at hw
      exact q_throw (cls := eS) (text := "the fibre is not cut") (Ts := wsX5_repair) hx hb hlt hts hown (by decide +kernel) (hts (.classLink RX5 76 eS) (by decide +kernel)) (hts (.initialized eS) (by decide +kernel)) (by decide) (fun w h => List.mem_cons_of_mem _ (List.mem_append_left _ (List.mem_append_right _ h))) thS2 (by decide) thS3 hW hP hF hS (hl.1.trans hml.symm) dX5_repair_16 dX5_repair_19 dX5_repair_20 dX5_repair_22 dX5_repair_25 ht9 (Nat.le_of_ble_eq_true rfl) (Nat.le_of_ble_eq_true rfl) (Nat.le_of_ble_eq_true rfl) (Nat.le_of_ble_eq_true rfl) hlocks hw (by decide) (by decide)
set_option maxHeartbeats 4000000 in
set_option maxRecDepth 100000 in
theorem c_X5_lightOn (l : Launch) (hlt : l.stackTraces = false) (D : va_G) (cy : Nat → ClassId) (b0 : Nat) (S : St) (x1 : Int32) (x2 : Int32)  (P : Int32 → St → Prop) (E : String → St → Prop) (hw : wp_X5_lightOn S x1 x2 P E) : vx_Met l yX5_lightOn wsX5_lightOn rm_X5_lightOn (va_Pc [.ref (b0 + 0), .int x1, .int x2] (Wd D cy b0 NALL S)) (QC (Pi P) (Wb D cy b0 NALL) b0) (XX E (Wb D cy b0 NALL) b0) 1 6 (AA b0) := by
  refine vx_ofW (cc := cX5_lightOn) (maxL := 4) (ret := (some .int)) (by decide) rfl ?_
  intro p e s m args below meth c s₁ B hml ht9 hv
  obtain ⟨hargs, hW, hP, hF⟩ := hv
  have hx := B.exec
  have hb := B.bytes
  have hr := B.returns
  have hts := atoms_spec (ws := wsX5_lightOn) B.pre
  have hown : s.vm.findClass RX5 = some m.cls := findClass_of_methodNamed B.named
  have hlocks := B.notSynchronized
  have hK := hW.1
  have hS : va_S (AA b0) s.heap s.heap [] := va_S.rf
  have hE : entryFrame m args 4 = F0 m 0 ((lg_sl [.ref (b0 + 0), .int x1, .int x2] ++ List.replicate (4 - (lg_sl [.ref (b0 + 0), .int x1, .int x2]).length) Slot.unset).toArray) [] := by rw [hargs]; exact lg_entry_eq m _ _
  rw [hE]
  have hl := lv_entry [.ref (b0 + 0), .int x1, .int x2] (n := 4) (Nat.le_of_ble_eq_true rfl)
  generalize (lg_sl [.ref (b0 + 0), .int x1, .int x2] ++ List.replicate (4 - (lg_sl [.ref (b0 + 0), .int x1, .int x2]).length) Slot.unset).toArray = ls at hl ⊢
  have hl : lv_has ls 4 [(0, .ref (b0 + 0)), (1, .int x1), (2, .int x2)] := hl
  have j20 : ∀ (S : St) , ∀ (H : Heap) (locs : List Loc) (ls : Array Slot), wp_X5_lightOn_20 x1 x2 P E S → HP D cy b0 NALL S H → Fx S → va_S (AA b0) s.heap H locs → lv_has ls 4 [] → W p l e rm_X5_lightOn s m args below meth c H locs 0 0 (vx_MQ below (QC (Pi P) (Wb D cy b0 NALL) b0) (XX E (Wb D cy b0 NALL) b0) args s 1 6 (AA b0)) (F0 m 20 ls []) := by
    intro S  H locs ls hw hP hF hS hl
    unfold wp_X5_lightOn_20 at hw
    exact q_throw (cls := eA) (text := "no such wavelength") (Ts := wsX5_lightOn) hx hb hlt hts hown (by decide +kernel) (hts (.classLink RX5 48 eA) (by decide +kernel)) (hts (.initialized eA) (by decide +kernel)) (by decide) (fun w h => List.mem_cons_of_mem _ (List.mem_append_left _ (List.mem_append_right _ h))) thA2 (by decide) thA3 hW hP hF hS (hl.1.trans hml.symm) dX5_lightOn_20 dX5_lightOn_23 dX5_lightOn_24 dX5_lightOn_26 dX5_lightOn_29 ht9 (Nat.le_of_ble_eq_true rfl) (Nat.le_of_ble_eq_true rfl) (Nat.le_of_ble_eq_true rfl) (Nat.le_of_ble_eq_true rfl) hlocks hw (by decide) (by decide)
  have j32 : ∀ (n32 : Nat), ∀ (S : St) (a3 : Int32), ∀ (H : Heap) (locs : List Loc) (ls : Array Slot), wp_X5_lightOn_32 x1 x2 P E n32 S a3 → HP D cy b0 NALL S H → Fx S → va_S (AA b0) s.heap H locs → lv_has ls 4 [(0, .ref (b0 + 0)), (1, .int x1), (2, .int x2), (3, .int a3)] → W p l e rm_X5_lightOn s m args below meth c H locs 0 0 (vx_MQ below (QC (Pi P) (Wb D cy b0 NALL) b0) (XX E (Wb D cy b0 NALL) b0) args s 1 6 (AA b0)) (F0 m 32 ls []) := by
    intro n32
    induction n32 with
    | zero => intro S a3  H locs ls hw _ _ _ _; exact False.elim hw
    | succ n32 ih32 =>
      intro S a3  H locs ls hw hP hF hS hl
      rw [wp_X5_lightOn_32] at hw
      refine lv_iload_n hx hb dX5_lightOn_32 rfl (lv_at hl 3 rfl) ?_
      refine lv_aload_n hx hb dX5_lightOn_33 rfl (lv_at hl 0 rfl) ?_
      refine gf_5_4 (k := 0) hx hb hts (by decide +kernel) hown hK hP (by decide) (kk_0) (hts (.fieldLink RX5 59 "Opticmesh" "lightCount" "I") (by decide +kernel)) dX5_lightOn_34 ?_
      refine lv_icmp_ge (x := a3) (y := (gI S 0 4)) (tgt := 65) hx hb dX5_lightOn_37 (by decide) (fun c37 => ?_) (fun c37 => ?_)
      · rw [if_pos c37] at hw
        refine lv_iconst (v := (-1)) hx hb dX5_lightOn_65 (by decide) ?_
        refine vx_ret ?_
        exact q_iret hx hb hr hP hF hS hw dX5_lightOn_66 hlocks
      · rw [if_neg c37] at hw
        refine lv_aload_n hx hb dX5_lightOn_40 rfl (lv_at hl 0 rfl) ?_
        refine gf_5_3 (k := 0) hx hb hts (by decide +kernel) hown hK hP (by decide) (kk_0) (q := 184) (hF.1 0 3 184 ff_0_3) (hts (.fieldLink RX5 34 "Opticmesh" "lightList" "[LOpticmesh$Light;") (by decide +kernel)) dX5_lightOn_41 ?_
        refine lv_iload_n hx hb dX5_lightOn_44 rfl (lv_at hl 3 rfl) ?_
        obtain ⟨h45, hw⟩ := hw
        refine q_aald9 (k := 184) (n := 60) (i := a3) hx hb hK hP (by decide) (kk_184) (ll_184) h45 dX5_lightOn_45 ?_
        rw [rf_some (hF.1 184 _ _ (fx_184 (vp_lt h45)))]
        refine lv_iload_n hx hb dX5_lightOn_46 rfl (lv_at hl 1 rfl) ?_
        refine q_call (va_runV (As := [.int x1]) (rest := []) ⟨hx, hb, hml, hown, hts⟩ (c_X1_wavelengthsOn l D cy b0 S (185 + 3 * (a3.toNatClampNeg)) x1 (kd_Li (vp_lt h45)) _ hw) (cwV 1 hts gX5_lightOn_X1_wavelengthsOn rfl rfl rfl (by decide +kernel) ⟨(Nat.le_of_ble_eq_true rfl), (Nat.le_of_ble_eq_true rfl)⟩) (q_pV hW hP hF hS (k := (185 + 3 * (a3.toNatClampNeg))) (ci := 1) (kd_N (kd_Li (vp_lt h45)) (by decide)) (cell_1 (kd_Li (vp_lt h45))) rfl [.int x1]) rfl rfl hl.1 rfl (lv_room (Nat.le_of_ble_eq_true rfl)) dX5_lightOn_47 ⟨(Nat.le_of_ble_eq_true rfl), (Nat.le_of_ble_eq_true rfl)⟩) hS (fun v47 S47 t47 H locs hh hp hB hz hk9 hS => ?_)
        obtain ⟨r47, rfl, hw⟩ := hp
        have hP : HP D cy b0 NALL S47 H := by rw [← hh]; exact hB.1
        have hF := hB.2
        try dsimp only at hw
        refine W.eq (g2 := F0 m 50 ls [.int r47]) rfl ?_
        refine lv_iload_n hx hb dX5_lightOn_50 rfl (lv_at hl 2 rfl) ?_
        refine lv_ishr hx hb dX5_lightOn_51 ?_
        refine lv_iconst (v := 1) hx hb dX5_lightOn_52 (by decide) ?_
        refine lv_iand hx hb dX5_lightOn_53 ?_
        refine lv_if_eq (x := ((r47 >>> (x2 &&& 31)) &&& 1)) (tgt := 59) hx hb dX5_lightOn_54 (by decide) (fun c54 => ?_) (fun c54 => ?_)
        · rw [if_pos c54] at hw
          obtain ⟨y59, e59⟩ : ∃ z : Int32, z = a3 + 1 := ⟨_, rfl⟩
          have hw := hw y59 e59
          refine lv_iinc (v := y59) (lv' := [(3, .int y59), (0, .ref (b0 + 0)), (1, .int x1), (2, .int x2)]) hx hb dX5_lightOn_59 hl (k := 3) rfl (by rw [e59]; rfl) (by decide) rfl (fun ls hl => ?_)
          refine lv_goto (tgt := 32) hx hb dX5_lightOn_62 (by decide) ?_
          exact ih32 S47 y59  _ _ _ hw hP hF hS (lv_sub hl [1, 2, 3, 0] rfl)
        · rw [if_neg c54] at hw
          refine lv_iload_n hx hb dX5_lightOn_57 rfl (lv_at hl 3 rfl) ?_
          refine vx_ret ?_
          exact q_iret hx hb hr hP hF hS hw dX5_lightOn_58 hlocks
  unfold wp_X5_lightOn at hw
  refine lv_aload_n hx hb dX5_lightOn_0 rfl (lv_at hl 0 rfl) ?_
  refine lv_iload_n hx hb dX5_lightOn_1 rfl (lv_at hl 1 rfl) ?_
  refine q_callX (vx_runV (As := [.int x1]) (rest := []) ⟨hx, hb, hml, hown, hts⟩ (c_X5_requireFibre l hlt D cy b0 S x1 _ _ hw) (cwV 1 hts gX5_lightOn_X5_requireFibre rfl rfl rfl (by decide +kernel) ⟨(Nat.le_of_ble_eq_true rfl), (Nat.le_of_ble_eq_true rfl)⟩) (q_pV hW hP hF hS (k := 0) (ci := 5) (by decide) (cell_5 (kk_0)) rfl [.int x1]) rfl rfl hl.1 rfl (lv_room (Nat.le_of_ble_eq_true rfl)) dX5_lightOn_2 ⟨(Nat.le_of_ble_eq_true rfl), (Nat.le_of_ble_eq_true rfl)⟩) hS (fun E2 ce q9 S2 t2 H locs hh hw hB hz hS hc9 hv9 hcl9 => ?_) (fun v2 S2 t2 H locs hh hp hB hz hk9 hS => ?_)
  · have hP : HP D cy b0 NALL S2 H := by rw [← hh]; exact hB.1
    exact q_pass ht9 hlocks hP hB.2 hS hw hc9 hv9 hcl9 (by decide) (by decide)
  · obtain ⟨rfl, hw⟩ := hp
    have hP : HP D cy b0 NALL S2 H := by rw [← hh]; exact hB.1
    have hF := hB.2
    try dsimp only at hw
    refine W.eq (g2 := F0 m 5 ls []) rfl ?_
    refine lv_iload_n hx hb dX5_lightOn_5 rfl (lv_at hl 2 rfl) ?_
    refine lv_if_lt (x := x2) (tgt := 20) hx hb dX5_lightOn_6 (by decide) (fun c6 => ?_) (fun c6 => ?_)
    · rw [if_pos c6] at hw
      exact j20 S2  _ _ _ hw hP hF hS (lv_sub hl [] rfl)
    · rw [if_neg c6] at hw
      refine lv_iload_n hx hb dX5_lightOn_9 rfl (lv_at hl 2 rfl) ?_
      refine lv_aload_n hx hb dX5_lightOn_10 rfl (lv_at hl 0 rfl) ?_
      refine gf_5_0 (k := 0) hx hb hts (by decide +kernel) hown hK hP (by decide) (kk_0) (q := 1) (hF.1 0 0 1 ff_0_0) (hts (.fieldLink RX5 12 "Opticmesh" "network" "LOpticmesh$Network;") (by decide +kernel)) dX5_lightOn_11 ?_
      refine gf_2_1 (k := 1) hx hb hts (by decide +kernel) hown hK hP (by decide) (kk_1) (hts (.fieldLink RX5 107 "Opticmesh$Network" "wavelengthCount" "I") (by decide +kernel)) dX5_lightOn_14 ?_
      refine lv_icmp_lt (x := x2) (y := (gI S2 1 1)) (tgt := 30) hx hb dX5_lightOn_17 (by decide) (fun c17 => ?_) (fun c17 => ?_)
      · rw [if_pos c17] at hw
        refine lv_iconst (v := 0) hx hb dX5_lightOn_30 (by decide) ?_
        refine lv_istore_n (lv' := [(3, .int 0), (0, .ref (b0 + 0)), (1, .int x1), (2, .int x2)]) hx hb dX5_lightOn_31 rfl hl (by decide) rfl (fun ls hl => ?_)
        obtain ⟨n32, hw⟩ := hw
        exact j32 n32 S2 0  _ _ _ hw hP hF hS (lv_sub hl [1, 2, 3, 0] rfl)
      · rw [if_neg c17] at hw
        exact j20 S2  _ _ _ hw hP hF hS (lv_sub hl [] rfl)
set_option maxHeartbeats 4000000 in
set_option maxRecDepth 100000 in
theorem c_X5_wavelengthsUsed_n (l : Launch) (D : va_G) (cy : Nat → ClassId) (b0 : Nat) (S : St) (x1 : Int32)  (P : Int32 → St → Prop) (hw : wp_X5_wavelengthsUsed_n S x1 P) : Met l yX5_wavelengthsUsed wsX5_wavelengthsUsed rm_X5_wavelengthsUsed_n (va_Pc [.ref (b0 + 0), .int x1, .null] (Wd D cy b0 NALL S)) (QC (Pi P) (Wb D cy b0 NALL) b0) 0 0 (AA b0) := by
  refine Met.ofW (cc := cX5_wavelengthsUsed) (maxL := 5) (ret := (some .int)) (by decide) rfl ?_
  intro p e s m args below meth c s₁ B hml hv
  obtain ⟨hargs, hW, hP, hF⟩ := hv
  have hx := B.exec
  have hb := B.bytes
  have hr := B.returns
  have hts := atoms_spec (ws := wsX5_wavelengthsUsed) B.pre
  have hown : s.vm.findClass RX5 = some m.cls := findClass_of_methodNamed B.named
  have hlocks := B.notSynchronized
  have hK := hW.1
  have hS : va_S (AA b0) s.heap s.heap [] := va_S.rf
  have hE : entryFrame m args 5 = F0 m 0 ((lg_sl [.ref (b0 + 0), .int x1, .null] ++ List.replicate (5 - (lg_sl [.ref (b0 + 0), .int x1, .null]).length) Slot.unset).toArray) [] := by rw [hargs]; exact lg_entry_eq m _ _
  rw [hE]
  have hl := lv_entry [.ref (b0 + 0), .int x1, .null] (n := 5) (Nat.le_of_ble_eq_true rfl)
  generalize (lg_sl [.ref (b0 + 0), .int x1, .null] ++ List.replicate (5 - (lg_sl [.ref (b0 + 0), .int x1, .null]).length) Slot.unset).toArray = ls at hl ⊢
  have hl : lv_has ls 5 [(0, .ref (b0 + 0)), (1, .int x1), (2, .null)] := hl
  have j5 : ∀ (n5 : Nat), ∀ (S : St) (a3 : Int32) (a4 : Int32), ∀ (H : Heap) (locs : List Loc) (ls : Array Slot), wp_X5_wavelengthsUsed_n_5 x1 P n5 S a3 a4 → HP D cy b0 NALL S H → Fx S → va_S (AA b0) s.heap H locs → lv_has ls 5 [(0, .ref (b0 + 0)), (1, .int x1), (2, .null), (3, .int a3), (4, .int a4)] → W p l e rm_X5_wavelengthsUsed_n s m args below meth c H locs 0 0 (MQ below (QC (Pi P) (Wb D cy b0 NALL) b0) args s 0 0 (AA b0)) (F0 m 5 ls []) := by
    intro n5
    induction n5 with
    | zero => intro S a3 a4  H locs ls hw _ _ _ _; exact False.elim hw
    | succ n5 ih5 =>
      have j39 : ∀ (S : St) (a3 : Int32) (a4 : Int32), ∀ (H : Heap) (locs : List Loc) (ls : Array Slot), wp_X5_wavelengthsUsed_n_39 x1 P (fun S a3 a4 => wp_X5_wavelengthsUsed_n_5 x1 P n5 S a3 a4) S a3 a4 → HP D cy b0 NALL S H → Fx S → va_S (AA b0) s.heap H locs → lv_has ls 5 [(0, .ref (b0 + 0)), (1, .int x1), (2, .null), (3, .int a3), (4, .int a4)] → W p l e rm_X5_wavelengthsUsed_n s m args below meth c H locs 0 0 (MQ below (QC (Pi P) (Wb D cy b0 NALL) b0) args s 0 0 (AA b0)) (F0 m 39 ls []) := by
        intro S a3 a4  H locs ls hw hP hF hS hl
        unfold wp_X5_wavelengthsUsed_n_39 at hw
        obtain ⟨y39, e39⟩ : ∃ z : Int32, z = a4 + 1 := ⟨_, rfl⟩
        have hw := hw y39 e39
        refine lv_iinc (v := y39) (lv' := [(4, .int y39), (0, .ref (b0 + 0)), (1, .int x1), (2, .null), (3, .int a3)]) hx hb dX5_wavelengthsUsed_39 hl (k := 4) rfl (by rw [e39]; rfl) (by decide) rfl (fun ls hl => ?_)
        refine lv_goto (tgt := 5) hx hb dX5_wavelengthsUsed_42 (by decide) ?_
        exact ih5 S a3 y39  _ _ _ hw hP hF hS (lv_sub hl [1, 2, 3, 4, 0] rfl)
      intro S a3 a4  H locs ls hw hP hF hS hl
      rw [wp_X5_wavelengthsUsed_n_5] at hw
      refine lv_iload hx hb dX5_wavelengthsUsed_5 (lv_at hl 4 rfl) ?_
      refine lv_aload_n hx hb dX5_wavelengthsUsed_7 rfl (lv_at hl 0 rfl) ?_
      refine gf_5_4 (k := 0) hx hb hts (by decide +kernel) hown hK hP (by decide) (kk_0) (hts (.fieldLink RX5 59 "Opticmesh" "lightCount" "I") (by decide +kernel)) dX5_wavelengthsUsed_8 ?_
      refine lv_icmp_ge (x := a4) (y := (gI S 0 4)) (tgt := 45) hx hb dX5_wavelengthsUsed_11 (by decide) (fun c11 => ?_) (fun c11 => ?_)
      · rw [if_pos c11] at hw
        refine lv_iload_n hx hb dX5_wavelengthsUsed_45 rfl (lv_at hl 3 rfl) ?_
        exact q_iret hx hb hr hP hF hS hw dX5_wavelengthsUsed_46 hlocks
      · rw [if_neg c11] at hw
        refine lv_aload_n hx hb dX5_wavelengthsUsed_14 rfl (lv_at hl 0 rfl) ?_
        refine gf_5_3 (k := 0) hx hb hts (by decide +kernel) hown hK hP (by decide) (kk_0) (q := 184) (hF.1 0 3 184 ff_0_3) (hts (.fieldLink RX5 34 "Opticmesh" "lightList" "[LOpticmesh$Light;") (by decide +kernel)) dX5_wavelengthsUsed_15 ?_
        refine lv_iload hx hb dX5_wavelengthsUsed_18 (lv_at hl 4 rfl) ?_
        obtain ⟨h20, hw⟩ := hw
        refine q_aald9 (k := 184) (n := 60) (i := a4) hx hb hK hP (by decide) (kk_184) (ll_184) h20 dX5_wavelengthsUsed_20 ?_
        rw [rf_some (hF.1 184 _ _ (fx_184 (vp_lt h20)))]
        refine lv_aload_nN hx hb dX5_wavelengthsUsed_21 rfl (lv_at hl 2 rfl) ?_
        refine q_acmp_eq (rx := (some (185 + 3 * (a4.toNatClampNeg)))) (ry := (none : Option Nat)) (tgt := 39) hx hb dX5_wavelengthsUsed_22 (by decide) (fun c22 => ?_) (fun c22 => ?_)
        · rw [if_pos c22] at hw
          exact j39 S a3 a4  _ _ _ hw hP hF hS (lv_sub hl [0, 1, 2, 3, 4] rfl)
        · rw [if_neg c22] at hw
          refine lv_iload_n hx hb dX5_wavelengthsUsed_25 rfl (lv_at hl 3 rfl) ?_
          refine lv_aload_n hx hb dX5_wavelengthsUsed_26 rfl (lv_at hl 0 rfl) ?_
          refine gf_5_3 (k := 0) hx hb hts (by decide +kernel) hown hK hP (by decide) (kk_0) (q := 184) (hF.1 0 3 184 ff_0_3) (hts (.fieldLink RX5 34 "Opticmesh" "lightList" "[LOpticmesh$Light;") (by decide +kernel)) dX5_wavelengthsUsed_27 ?_
          refine lv_iload hx hb dX5_wavelengthsUsed_30 (lv_at hl 4 rfl) ?_
          obtain ⟨h32, hw⟩ := hw
          refine q_aald9 (k := 184) (n := 60) (i := a4) hx hb hK hP (by decide) (kk_184) (ll_184) h32 dX5_wavelengthsUsed_32 ?_
          rw [rf_some (hF.1 184 _ _ (fx_184 (vp_lt h32)))]
          refine lv_iload_n hx hb dX5_wavelengthsUsed_33 rfl (lv_at hl 1 rfl) ?_
          refine q_call (va_runV (As := [.int x1]) (rest := [.int a3]) ⟨hx, hb, hml, hown, hts⟩ (c_X1_wavelengthsOn l D cy b0 S (185 + 3 * (a4.toNatClampNeg)) x1 (kd_Li (vp_lt h32)) _ hw) (cwV 1 hts gX5_wavelengthsUsed_X1_wavelengthsOn rfl rfl rfl (by decide +kernel) ⟨(Nat.le_of_ble_eq_true rfl), (Nat.le_of_ble_eq_true rfl)⟩) (q_pV hW hP hF hS (k := (185 + 3 * (a4.toNatClampNeg))) (ci := 1) (kd_N (kd_Li (vp_lt h32)) (by decide)) (cell_1 (kd_Li (vp_lt h32))) rfl [.int x1]) rfl rfl hl.1 rfl (lv_room (Nat.le_of_ble_eq_true rfl)) dX5_wavelengthsUsed_34 ⟨(Nat.le_of_ble_eq_true rfl), (Nat.le_of_ble_eq_true rfl)⟩) hS (fun v34 S34 t34 H locs hh hp hB hz hk9 hS => ?_)
          obtain ⟨r34, rfl, hw⟩ := hp
          have hP : HP D cy b0 NALL S34 H := by rw [← hh]; exact hB.1
          have hF := hB.2
          try dsimp only at hw
          refine W.eq (g2 := F0 m 37 ls [.int r34, .int a3]) rfl ?_
          refine lv_ior hx hb dX5_wavelengthsUsed_37 ?_
          refine lv_topi (fun y38 e38 => ?_)
          have hw := hw y38 e38
          refine lv_istore_n (lv' := [(3, .int y38), (0, .ref (b0 + 0)), (1, .int x1), (2, .null), (4, .int a4)]) hx hb dX5_wavelengthsUsed_38 rfl hl (by decide) rfl (fun ls hl => ?_)
          exact j39 S34 y38 a4  _ _ _ hw hP hF hS (lv_sub hl [1, 2, 3, 0, 4] rfl)
  unfold wp_X5_wavelengthsUsed_n at hw
  refine lv_iconst (v := 0) hx hb dX5_wavelengthsUsed_0 (by decide) ?_
  refine lv_istore_n (lv' := [(3, .int 0), (0, .ref (b0 + 0)), (1, .int x1), (2, .null)]) hx hb dX5_wavelengthsUsed_1 rfl hl (by decide) rfl (fun ls hl => ?_)
  refine lv_iconst (v := 0) hx hb dX5_wavelengthsUsed_2 (by decide) ?_
  refine lv_istore (lv' := [(4, .int 0), (3, .int 0), (0, .ref (b0 + 0)), (1, .int x1), (2, .null)]) hx hb dX5_wavelengthsUsed_3 hl (by decide) rfl (fun ls hl => ?_)
  obtain ⟨n5, hw⟩ := hw
  exact j5 n5 S 0 0  _ _ _ hw hP hF hS (lv_sub hl [2, 3, 4, 1, 0] rfl)
set_option maxHeartbeats 4000000 in
set_option maxRecDepth 100000 in
theorem c_X5_wavelengthsUsed_s (l : Launch) (D : va_G) (cy : Nat → ClassId) (b0 : Nat) (S : St) (x1 : Int32) (x2 : Nat) (hk2 : kd x2 = 1) (P : Int32 → St → Prop) (hw : wp_X5_wavelengthsUsed_s S x1 x2 P) : Met l yX5_wavelengthsUsed wsX5_wavelengthsUsed rm_X5_wavelengthsUsed_s (va_Pc [.ref (b0 + 0), .int x1, .ref (b0 + x2)] (Wd D cy b0 NALL S)) (QC (Pi P) (Wb D cy b0 NALL) b0) 0 0 (AA b0) := by
  refine Met.ofW (cc := cX5_wavelengthsUsed) (maxL := 5) (ret := (some .int)) (by decide) rfl ?_
  intro p e s m args below meth c s₁ B hml hv
  obtain ⟨hargs, hW, hP, hF⟩ := hv
  have hx := B.exec
  have hb := B.bytes
  have hr := B.returns
  have hts := atoms_spec (ws := wsX5_wavelengthsUsed) B.pre
  have hown : s.vm.findClass RX5 = some m.cls := findClass_of_methodNamed B.named
  have hlocks := B.notSynchronized
  have hK := hW.1
  have hS : va_S (AA b0) s.heap s.heap [] := va_S.rf
  have hE : entryFrame m args 5 = F0 m 0 ((lg_sl [.ref (b0 + 0), .int x1, .ref (b0 + x2)] ++ List.replicate (5 - (lg_sl [.ref (b0 + 0), .int x1, .ref (b0 + x2)]).length) Slot.unset).toArray) [] := by rw [hargs]; exact lg_entry_eq m _ _
  rw [hE]
  have hl := lv_entry [.ref (b0 + 0), .int x1, .ref (b0 + x2)] (n := 5) (Nat.le_of_ble_eq_true rfl)
  generalize (lg_sl [.ref (b0 + 0), .int x1, .ref (b0 + x2)] ++ List.replicate (5 - (lg_sl [.ref (b0 + 0), .int x1, .ref (b0 + x2)]).length) Slot.unset).toArray = ls at hl ⊢
  have hl : lv_has ls 5 [(0, .ref (b0 + 0)), (1, .int x1), (2, .ref (b0 + x2))] := hl
  have j5 : ∀ (n5 : Nat), ∀ (S : St) (a3 : Int32) (a4 : Int32), ∀ (H : Heap) (locs : List Loc) (ls : Array Slot), wp_X5_wavelengthsUsed_s_5 x1 x2 P n5 S a3 a4 → HP D cy b0 NALL S H → Fx S → va_S (AA b0) s.heap H locs → lv_has ls 5 [(0, .ref (b0 + 0)), (1, .int x1), (2, .ref (b0 + x2)), (3, .int a3), (4, .int a4)] → W p l e rm_X5_wavelengthsUsed_s s m args below meth c H locs 0 0 (MQ below (QC (Pi P) (Wb D cy b0 NALL) b0) args s 0 0 (AA b0)) (F0 m 5 ls []) := by
    intro n5
    induction n5 with
    | zero => intro S a3 a4  H locs ls hw _ _ _ _; exact False.elim hw
    | succ n5 ih5 =>
      have j39 : ∀ (S : St) (a3 : Int32) (a4 : Int32), ∀ (H : Heap) (locs : List Loc) (ls : Array Slot), wp_X5_wavelengthsUsed_s_39 x1 x2 P (fun S a3 a4 => wp_X5_wavelengthsUsed_s_5 x1 x2 P n5 S a3 a4) S a3 a4 → HP D cy b0 NALL S H → Fx S → va_S (AA b0) s.heap H locs → lv_has ls 5 [(0, .ref (b0 + 0)), (1, .int x1), (2, .ref (b0 + x2)), (3, .int a3), (4, .int a4)] → W p l e rm_X5_wavelengthsUsed_s s m args below meth c H locs 0 0 (MQ below (QC (Pi P) (Wb D cy b0 NALL) b0) args s 0 0 (AA b0)) (F0 m 39 ls []) := by
        intro S a3 a4  H locs ls hw hP hF hS hl
        unfold wp_X5_wavelengthsUsed_s_39 at hw
        obtain ⟨y39, e39⟩ : ∃ z : Int32, z = a4 + 1 := ⟨_, rfl⟩
        have hw := hw y39 e39
        refine lv_iinc (v := y39) (lv' := [(4, .int y39), (0, .ref (b0 + 0)), (1, .int x1), (2, .ref (b0 + x2)), (3, .int a3)]) hx hb dX5_wavelengthsUsed_39 hl (k := 4) rfl (by rw [e39]; rfl) (by decide) rfl (fun ls hl => ?_)
        refine lv_goto (tgt := 5) hx hb dX5_wavelengthsUsed_42 (by decide) ?_
        exact ih5 S a3 y39  _ _ _ hw hP hF hS (lv_sub hl [1, 2, 3, 4, 0] rfl)
      intro S a3 a4  H locs ls hw hP hF hS hl
      rw [wp_X5_wavelengthsUsed_s_5] at hw
      refine lv_iload hx hb dX5_wavelengthsUsed_5 (lv_at hl 4 rfl) ?_
      refine lv_aload_n hx hb dX5_wavelengthsUsed_7 rfl (lv_at hl 0 rfl) ?_
      refine gf_5_4 (k := 0) hx hb hts (by decide +kernel) hown hK hP (by decide) (kk_0) (hts (.fieldLink RX5 59 "Opticmesh" "lightCount" "I") (by decide +kernel)) dX5_wavelengthsUsed_8 ?_
      refine lv_icmp_ge (x := a4) (y := (gI S 0 4)) (tgt := 45) hx hb dX5_wavelengthsUsed_11 (by decide) (fun c11 => ?_) (fun c11 => ?_)
      · rw [if_pos c11] at hw
        refine lv_iload_n hx hb dX5_wavelengthsUsed_45 rfl (lv_at hl 3 rfl) ?_
        exact q_iret hx hb hr hP hF hS hw dX5_wavelengthsUsed_46 hlocks
      · rw [if_neg c11] at hw
        refine lv_aload_n hx hb dX5_wavelengthsUsed_14 rfl (lv_at hl 0 rfl) ?_
        refine gf_5_3 (k := 0) hx hb hts (by decide +kernel) hown hK hP (by decide) (kk_0) (q := 184) (hF.1 0 3 184 ff_0_3) (hts (.fieldLink RX5 34 "Opticmesh" "lightList" "[LOpticmesh$Light;") (by decide +kernel)) dX5_wavelengthsUsed_15 ?_
        refine lv_iload hx hb dX5_wavelengthsUsed_18 (lv_at hl 4 rfl) ?_
        obtain ⟨h20, hw⟩ := hw
        refine q_aald9 (k := 184) (n := 60) (i := a4) hx hb hK hP (by decide) (kk_184) (ll_184) h20 dX5_wavelengthsUsed_20 ?_
        rw [rf_some (hF.1 184 _ _ (fx_184 (vp_lt h20)))]
        refine lv_aload_n hx hb dX5_wavelengthsUsed_21 rfl (lv_at hl 2 rfl) ?_
        refine q_acmp_eq (rx := (some (185 + 3 * (a4.toNatClampNeg)))) (ry := (some x2)) (tgt := 39) hx hb dX5_wavelengthsUsed_22 (by decide) (fun c22 => ?_) (fun c22 => ?_)
        · rw [if_pos c22] at hw
          exact j39 S a3 a4  _ _ _ hw hP hF hS (lv_sub hl [0, 1, 2, 3, 4] rfl)
        · rw [if_neg c22] at hw
          refine lv_iload_n hx hb dX5_wavelengthsUsed_25 rfl (lv_at hl 3 rfl) ?_
          refine lv_aload_n hx hb dX5_wavelengthsUsed_26 rfl (lv_at hl 0 rfl) ?_
          refine gf_5_3 (k := 0) hx hb hts (by decide +kernel) hown hK hP (by decide) (kk_0) (q := 184) (hF.1 0 3 184 ff_0_3) (hts (.fieldLink RX5 34 "Opticmesh" "lightList" "[LOpticmesh$Light;") (by decide +kernel)) dX5_wavelengthsUsed_27 ?_
          refine lv_iload hx hb dX5_wavelengthsUsed_30 (lv_at hl 4 rfl) ?_
          obtain ⟨h32, hw⟩ := hw
          refine q_aald9 (k := 184) (n := 60) (i := a4) hx hb hK hP (by decide) (kk_184) (ll_184) h32 dX5_wavelengthsUsed_32 ?_
          rw [rf_some (hF.1 184 _ _ (fx_184 (vp_lt h32)))]
          refine lv_iload_n hx hb dX5_wavelengthsUsed_33 rfl (lv_at hl 1 rfl) ?_
          refine q_call (va_runV (As := [.int x1]) (rest := [.int a3]) ⟨hx, hb, hml, hown, hts⟩ (c_X1_wavelengthsOn l D cy b0 S (185 + 3 * (a4.toNatClampNeg)) x1 (kd_Li (vp_lt h32)) _ hw) (cwV 1 hts gX5_wavelengthsUsed_X1_wavelengthsOn rfl rfl rfl (by decide +kernel) ⟨(Nat.le_of_ble_eq_true rfl), (Nat.le_of_ble_eq_true rfl)⟩) (q_pV hW hP hF hS (k := (185 + 3 * (a4.toNatClampNeg))) (ci := 1) (kd_N (kd_Li (vp_lt h32)) (by decide)) (cell_1 (kd_Li (vp_lt h32))) rfl [.int x1]) rfl rfl hl.1 rfl (lv_room (Nat.le_of_ble_eq_true rfl)) dX5_wavelengthsUsed_34 ⟨(Nat.le_of_ble_eq_true rfl), (Nat.le_of_ble_eq_true rfl)⟩) hS (fun v34 S34 t34 H locs hh hp hB hz hk9 hS => ?_)
          obtain ⟨r34, rfl, hw⟩ := hp
          have hP : HP D cy b0 NALL S34 H := by rw [← hh]; exact hB.1
          have hF := hB.2
          try dsimp only at hw
          refine W.eq (g2 := F0 m 37 ls [.int r34, .int a3]) rfl ?_
          refine lv_ior hx hb dX5_wavelengthsUsed_37 ?_
          refine lv_topi (fun y38 e38 => ?_)
          have hw := hw y38 e38
          refine lv_istore_n (lv' := [(3, .int y38), (0, .ref (b0 + 0)), (1, .int x1), (2, .ref (b0 + x2)), (4, .int a4)]) hx hb dX5_wavelengthsUsed_38 rfl hl (by decide) rfl (fun ls hl => ?_)
          exact j39 S34 y38 a4  _ _ _ hw hP hF hS (lv_sub hl [1, 2, 3, 0, 4] rfl)
  unfold wp_X5_wavelengthsUsed_s at hw
  refine lv_iconst (v := 0) hx hb dX5_wavelengthsUsed_0 (by decide) ?_
  refine lv_istore_n (lv' := [(3, .int 0), (0, .ref (b0 + 0)), (1, .int x1), (2, .ref (b0 + x2))]) hx hb dX5_wavelengthsUsed_1 rfl hl (by decide) rfl (fun ls hl => ?_)
  refine lv_iconst (v := 0) hx hb dX5_wavelengthsUsed_2 (by decide) ?_
  refine lv_istore (lv' := [(4, .int 0), (3, .int 0), (0, .ref (b0 + 0)), (1, .int x1), (2, .ref (b0 + x2))]) hx hb dX5_wavelengthsUsed_3 hl (by decide) rfl (fun ls hl => ?_)
  obtain ⟨n5, hw⟩ := hw
  exact j5 n5 S 0 0  _ _ _ hw hP hF hS (lv_sub hl [2, 3, 4, 1, 0] rfl)
set_option maxHeartbeats 4000000 in
set_option maxRecDepth 100000 in
theorem c_X5_load (l : Launch) (D : va_G) (cy : Nat → ClassId) (b0 : Nat) (S : St)   (P : Int32 → St → Prop) (hw : wp_X5_load S  P) : Met l yX5_load wsX5_load rm_X5_load (va_Pc [.ref (b0 + 0)] (Wd D cy b0 NALL S)) (QC (Pi P) (Wb D cy b0 NALL) b0) 0 0 (AA b0) := by
  refine Met.ofW (cc := cX5_load) (maxL := 3) (ret := (some .int)) (by decide) rfl ?_
  intro p e s m args below meth c s₁ B hml hv
  obtain ⟨hargs, hW, hP, hF⟩ := hv
  have hx := B.exec
  have hb := B.bytes
  have hr := B.returns
  have hts := atoms_spec (ws := wsX5_load) B.pre
  have hown : s.vm.findClass RX5 = some m.cls := findClass_of_methodNamed B.named
  have hlocks := B.notSynchronized
  have hK := hW.1
  have hS : va_S (AA b0) s.heap s.heap [] := va_S.rf
  have hE : entryFrame m args 3 = F0 m 0 ((lg_sl [.ref (b0 + 0)] ++ List.replicate (3 - (lg_sl [.ref (b0 + 0)]).length) Slot.unset).toArray) [] := by rw [hargs]; exact lg_entry_eq m _ _
  rw [hE]
  have hl := lv_entry [.ref (b0 + 0)] (n := 3) (Nat.le_of_ble_eq_true rfl)
  generalize (lg_sl [.ref (b0 + 0)] ++ List.replicate (3 - (lg_sl [.ref (b0 + 0)]).length) Slot.unset).toArray = ls at hl ⊢
  have hl : lv_has ls 3 [(0, .ref (b0 + 0))] := hl
  have j4 : ∀ (n4 : Nat), ∀ (S : St) (a1 : Int32) (a2 : Int32), ∀ (H : Heap) (locs : List Loc) (ls : Array Slot), wp_X5_load_4 P n4 S a1 a2 → HP D cy b0 NALL S H → Fx S → va_S (AA b0) s.heap H locs → lv_has ls 3 [(0, .ref (b0 + 0)), (1, .int a1), (2, .int a2)] → W p l e rm_X5_load s m args below meth c H locs 0 0 (MQ below (QC (Pi P) (Wb D cy b0 NALL) b0) args s 0 0 (AA b0)) (F0 m 4 ls []) := by
    intro n4
    induction n4 with
    | zero => intro S a1 a2  H locs ls hw _ _ _ _; exact False.elim hw
    | succ n4 ih4 =>
      intro S a1 a2  H locs ls hw hP hF hS hl
      rw [wp_X5_load_4] at hw
      refine lv_iload_n hx hb dX5_load_4 rfl (lv_at hl 2 rfl) ?_
      refine lv_aload_n hx hb dX5_load_5 rfl (lv_at hl 0 rfl) ?_
      refine gf_5_0 (k := 0) hx hb hts (by decide +kernel) hown hK hP (by decide) (kk_0) (q := 1) (hF.1 0 0 1 ff_0_0) (hts (.fieldLink RX5 12 "Opticmesh" "network" "LOpticmesh$Network;") (by decide +kernel)) dX5_load_6 ?_
      refine gf_2_2 (k := 1) hx hb hts (by decide +kernel) hown hK hP (by decide) (kk_1) (hts (.fieldLink RX5 116 "Opticmesh$Network" "fibreCount" "I") (by decide +kernel)) dX5_load_9 ?_
      refine lv_icmp_ge (x := a2) (y := (gI S 1 2)) (tgt := 35) hx hb dX5_load_12 (by decide) (fun c12 => ?_) (fun c12 => ?_)
      · rw [if_pos c12] at hw
        refine lv_iload_n hx hb dX5_load_35 rfl (lv_at hl 1 rfl) ?_
        exact q_iret hx hb hr hP hF hS hw dX5_load_36 hlocks
      · rw [if_neg c12] at hw
        refine lv_iload_n hx hb dX5_load_15 rfl (lv_at hl 1 rfl) ?_
        refine lv_aload_n hx hb dX5_load_16 rfl (lv_at hl 0 rfl) ?_
        refine lv_iload_n hx hb dX5_load_17 rfl (lv_at hl 2 rfl) ?_
        refine lv_null hx hb dX5_load_18 ?_
        refine q_call (va_runV (As := [.int a2, .null]) (rest := [.int a1]) ⟨hx, hb, hml, hown, hts⟩ (c_X5_wavelengthsUsed_n l D cy b0 S a2 _ hw) (cwV 2 hts gX5_load_X5_wavelengthsUsed rfl rfl rfl (by decide +kernel) ⟨(Nat.le_of_ble_eq_true rfl), (Nat.le_of_ble_eq_true rfl)⟩) (q_pV hW hP hF hS (k := 0) (ci := 5) (by decide) (cell_5 (kk_0)) rfl [.int a2, .null]) rfl rfl hl.1 rfl (lv_room (Nat.le_of_ble_eq_true rfl)) dX5_load_19 ⟨(Nat.le_of_ble_eq_true rfl), (Nat.le_of_ble_eq_true rfl)⟩) hS (fun v19 S19 t19 H locs hh hp hB hz hk9 hS => ?_)
        obtain ⟨r19, rfl, hw⟩ := hp
        have hP : HP D cy b0 NALL S19 H := by rw [← hh]; exact hB.1
        have hF := hB.2
        try dsimp only at hw
        refine W.eq (g2 := F0 m 22 ls [.int r19, .int a1]) rfl ?_
        refine q_call (va_runS (As := [.int r19]) (rest := [.int a1]) ⟨hx, hb, hml, hown, hts⟩ (c_J6_bitCount_0f7a4 l D cy b0 S19 r19 _ hw) (va_cwS 1 hts gX5_load_J6_bitCount_0f7a4 rfl rfl rfl (by decide +kernel) ⟨(Nat.le_of_ble_eq_true rfl), (Nat.le_of_ble_eq_true rfl)⟩) (q_pS hW hP hF hS [.int r19]) rfl rfl hl.1 rfl (lv_room (Nat.le_of_ble_eq_true rfl)) dX5_load_22 ⟨(Nat.le_of_ble_eq_true rfl), (Nat.le_of_ble_eq_true rfl)⟩) hS (fun v22 S22 t22 H locs hh hp hB hz hk9 hS => ?_)
        obtain ⟨r22, rfl, hw⟩ := hp
        have hP : HP D cy b0 NALL S22 H := by rw [← hh]; exact hB.1
        have hF := hB.2
        try dsimp only at hw
        refine W.eq (g2 := F0 m 25 ls [.int r22, .int a1]) rfl ?_
        refine va_mmax (x := a1) (y := r22) hx hb (hml.trans hl.1.symm) hown (hts (.methodLink RX5 128 Lib.Math.max.name) (by decide +kernel)) (hts (.static Lib.Math.max.name) (by decide +kernel)) (hts (.initialized "java/lang/Math") (by decide +kernel)) (hts (.code Lib.Math.max.name Lib.Math.max.code 2 (some .int)) (by decide +kernel)) (Nat.le_of_ble_eq_true rfl) (Nat.le_of_ble_eq_true rfl) (Nat.le_of_ble_eq_true rfl) (Nat.le_of_ble_eq_true rfl) dX5_load_25 ?_
        refine lv_topi (fun y28 e28 => ?_)
        have hw := hw y28 e28
        refine lv_istore_n (lv' := [(1, .int y28), (0, .ref (b0 + 0)), (2, .int a2)]) hx hb dX5_load_28 rfl hl (by decide) rfl (fun ls hl => ?_)
        obtain ⟨y29, e29⟩ : ∃ z : Int32, z = a2 + 1 := ⟨_, rfl⟩
        have hw := hw y29 e29
        refine lv_iinc (v := y29) (lv' := [(2, .int y29), (1, .int y28), (0, .ref (b0 + 0))]) hx hb dX5_load_29 hl (k := 2) rfl (by rw [e29]; rfl) (by decide) rfl (fun ls hl => ?_)
        refine lv_goto (tgt := 4) hx hb dX5_load_32 (by decide) ?_
        exact ih4 S22 y28 y29  _ _ _ hw hP hF hS (lv_sub hl [2, 1, 0] rfl)
  unfold wp_X5_load at hw
  refine lv_iconst (v := 0) hx hb dX5_load_0 (by decide) ?_
  refine lv_istore_n (lv' := [(1, .int 0), (0, .ref (b0 + 0))]) hx hb dX5_load_1 rfl hl (by decide) rfl (fun ls hl => ?_)
  refine lv_iconst (v := 0) hx hb dX5_load_2 (by decide) ?_
  refine lv_istore_n (lv' := [(2, .int 0), (1, .int 0), (0, .ref (b0 + 0))]) hx hb dX5_load_3 rfl hl (by decide) rfl (fun ls hl => ?_)
  obtain ⟨n4, hw⟩ := hw
  exact j4 n4 S 0 0  _ _ _ hw hP hF hS (lv_sub hl [2, 1, 0] rfl)
set_option maxHeartbeats 4000000 in
set_option maxRecDepth 100000 in
theorem c_X5_usage (l : Launch) (hlt : l.stackTraces = false) (D : va_G) (cy : Nat → ClassId) (b0 : Nat) (S : St)   (P : UInt32 → St → Prop) (E : String → St → Prop) (hw : wp_X5_usage S  P E) : vx_Met l yX5_usage wsX5_usage rm_X5_usage (va_Pc [.ref (b0 + 0)] (Wd D cy b0 NALL S)) (QC (Pf P) (Wb D cy b0 NALL) b0) (XX E (Wb D cy b0 NALL) b0) 1 6 (AA b0) := by
  refine vx_ofW (cc := cX5_usage) (maxL := 4) (ret := (some .float)) (by decide) rfl ?_
  intro p e s m args below meth c s₁ B hml ht9 hv
  obtain ⟨hargs, hW, hP, hF⟩ := hv
  have hx := B.exec
  have hb := B.bytes
  have hr := B.returns
  have hts := atoms_spec (ws := wsX5_usage) B.pre
  have hown : s.vm.findClass RX5 = some m.cls := findClass_of_methodNamed B.named
  have hlocks := B.notSynchronized
  have hK := hW.1
  have hS : va_S (AA b0) s.heap s.heap [] := va_S.rf
  have hE : entryFrame m args 4 = F0 m 0 ((lg_sl [.ref (b0 + 0)] ++ List.replicate (4 - (lg_sl [.ref (b0 + 0)]).length) Slot.unset).toArray) [] := by rw [hargs]; exact lg_entry_eq m _ _
  rw [hE]
  have hl := lv_entry [.ref (b0 + 0)] (n := 4) (Nat.le_of_ble_eq_true rfl)
  generalize (lg_sl [.ref (b0 + 0)] ++ List.replicate (4 - (lg_sl [.ref (b0 + 0)]).length) Slot.unset).toArray = ls at hl ⊢
  have hl : lv_has ls 4 [(0, .ref (b0 + 0))] := hl
  have j34 : ∀ (n34 : Nat), ∀ (S : St) (a1 : Int32) (a2 : Int32) (a3 : Int32), ∀ (H : Heap) (locs : List Loc) (ls : Array Slot), wp_X5_usage_34 P E n34 S a1 a2 a3 → HP D cy b0 NALL S H → Fx S → va_S (AA b0) s.heap H locs → lv_has ls 4 [(0, .ref (b0 + 0)), (1, .int a1), (2, .int a2), (3, .int a3)] → W p l e rm_X5_usage s m args below meth c H locs 0 0 (vx_MQ below (QC (Pf P) (Wb D cy b0 NALL) b0) (XX E (Wb D cy b0 NALL) b0) args s 1 6 (AA b0)) (F0 m 34 ls []) := by
    intro n34
    induction n34 with
    | zero => intro S a1 a2 a3  H locs ls hw _ _ _ _; exact False.elim hw
    | succ n34 ih34 =>
      intro S a1 a2 a3  H locs ls hw hP hF hS hl
      rw [wp_X5_usage_34] at hw
      refine lv_iload_n hx hb dX5_usage_34 rfl (lv_at hl 3 rfl) ?_
      refine lv_aload_n hx hb dX5_usage_35 rfl (lv_at hl 0 rfl) ?_
      refine gf_5_0 (k := 0) hx hb hts (by decide +kernel) hown hK hP (by decide) (kk_0) (q := 1) (hF.1 0 0 1 ff_0_0) (hts (.fieldLink RX5 12 "Opticmesh" "network" "LOpticmesh$Network;") (by decide +kernel)) dX5_usage_36 ?_
      refine gf_2_2 (k := 1) hx hb hts (by decide +kernel) hown hK hP (by decide) (kk_1) (hts (.fieldLink RX5 116 "Opticmesh$Network" "fibreCount" "I") (by decide +kernel)) dX5_usage_39 ?_
      refine lv_icmp_ge (x := a3) (y := (gI S 1 2)) (tgt := 63) hx hb dX5_usage_42 (by decide) (fun c42 => ?_) (fun c42 => ?_)
      · rw [if_pos c42] at hw
        refine lv_iload_n hx hb dX5_usage_63 rfl (lv_at hl 2 rfl) ?_
        refine lv_i2f hx hb dX5_usage_64 ?_
        refine lv_iload_n hx hb dX5_usage_65 rfl (lv_at hl 1 rfl) ?_
        refine lv_i2f hx hb dX5_usage_66 ?_
        obtain ⟨h67, hw⟩ := hw
        refine lv_fdiv hx hb dX5_usage_67 h67 ?_
        refine vx_ret ?_
        exact q_fret hx hb hr hP hF hS hw dX5_usage_68 hlocks
      · rw [if_neg c42] at hw
        refine lv_iload_n hx hb dX5_usage_45 rfl (lv_at hl 2 rfl) ?_
        refine lv_aload_n hx hb dX5_usage_46 rfl (lv_at hl 0 rfl) ?_
        refine lv_iload_n hx hb dX5_usage_47 rfl (lv_at hl 3 rfl) ?_
        refine lv_null hx hb dX5_usage_48 ?_
        refine q_call (va_runV (As := [.int a3, .null]) (rest := [.int a2]) ⟨hx, hb, hml, hown, hts⟩ (c_X5_wavelengthsUsed_n l D cy b0 S a3 _ hw) (cwV 2 hts gX5_usage_X5_wavelengthsUsed rfl rfl rfl (by decide +kernel) ⟨(Nat.le_of_ble_eq_true rfl), (Nat.le_of_ble_eq_true rfl)⟩) (q_pV hW hP hF hS (k := 0) (ci := 5) (by decide) (cell_5 (kk_0)) rfl [.int a3, .null]) rfl rfl hl.1 rfl (lv_room (Nat.le_of_ble_eq_true rfl)) dX5_usage_49 ⟨(Nat.le_of_ble_eq_true rfl), (Nat.le_of_ble_eq_true rfl)⟩) hS (fun v49 S49 t49 H locs hh hp hB hz hk9 hS => ?_)
        obtain ⟨r49, rfl, hw⟩ := hp
        have hP : HP D cy b0 NALL S49 H := by rw [← hh]; exact hB.1
        have hF := hB.2
        try dsimp only at hw
        refine W.eq (g2 := F0 m 52 ls [.int r49, .int a2]) rfl ?_
        refine q_call (va_runS (As := [.int r49]) (rest := [.int a2]) ⟨hx, hb, hml, hown, hts⟩ (c_J6_bitCount_0f7a4 l D cy b0 S49 r49 _ hw) (va_cwS 1 hts gX5_usage_J6_bitCount_0f7a4 rfl rfl rfl (by decide +kernel) ⟨(Nat.le_of_ble_eq_true rfl), (Nat.le_of_ble_eq_true rfl)⟩) (q_pS hW hP hF hS [.int r49]) rfl rfl hl.1 rfl (lv_room (Nat.le_of_ble_eq_true rfl)) dX5_usage_52 ⟨(Nat.le_of_ble_eq_true rfl), (Nat.le_of_ble_eq_true rfl)⟩) hS (fun v52 S52 t52 H locs hh hp hB hz hk9 hS => ?_)
        obtain ⟨r52, rfl, hw⟩ := hp
        have hP : HP D cy b0 NALL S52 H := by rw [← hh]; exact hB.1
        have hF := hB.2
        try dsimp only at hw
        refine W.eq (g2 := F0 m 55 ls [.int r52, .int a2]) rfl ?_
        refine lv_iadd hx hb dX5_usage_55 ?_
        refine lv_topi (fun y56 e56 => ?_)
        have hw := hw y56 e56
        refine lv_istore_n (lv' := [(2, .int y56), (0, .ref (b0 + 0)), (1, .int a1), (3, .int a3)]) hx hb dX5_usage_56 rfl hl (by decide) rfl (fun ls hl => ?_)
        obtain ⟨y57, e57⟩ : ∃ z : Int32, z = a3 + 1 := ⟨_, rfl⟩
        have hw := hw y57 e57
        refine lv_iinc (v := y57) (lv' := [(3, .int y57), (2, .int y56), (0, .ref (b0 + 0)), (1, .int a1)]) hx hb dX5_usage_57 hl (k := 3) rfl (by rw [e57]; rfl) (by decide) rfl (fun ls hl => ?_)
        refine lv_goto (tgt := 34) hx hb dX5_usage_60 (by decide) ?_
        exact ih34 S52 a1 y56 y57  _ _ _ hw hP hF hS (lv_sub hl [2, 3, 1, 0] rfl)
  unfold wp_X5_usage at hw
  refine lv_aload_n hx hb dX5_usage_0 rfl (lv_at hl 0 rfl) ?_
  refine gf_5_0 (k := 0) hx hb hts (by decide +kernel) hown hK hP (by decide) (kk_0) (q := 1) (hF.1 0 0 1 ff_0_0) (hts (.fieldLink RX5 12 "Opticmesh" "network" "LOpticmesh$Network;") (by decide +kernel)) dX5_usage_1 ?_
  refine gf_2_2 (k := 1) hx hb hts (by decide +kernel) hown hK hP (by decide) (kk_1) (hts (.fieldLink RX5 116 "Opticmesh$Network" "fibreCount" "I") (by decide +kernel)) dX5_usage_4 ?_
  refine lv_aload_n hx hb dX5_usage_7 rfl (lv_at hl 0 rfl) ?_
  refine gf_5_0 (k := 0) hx hb hts (by decide +kernel) hown hK hP (by decide) (kk_0) (q := 1) (hF.1 0 0 1 ff_0_0) (hts (.fieldLink RX5 12 "Opticmesh" "network" "LOpticmesh$Network;") (by decide +kernel)) dX5_usage_8 ?_
  refine gf_2_1 (k := 1) hx hb hts (by decide +kernel) hown hK hP (by decide) (kk_1) (hts (.fieldLink RX5 107 "Opticmesh$Network" "wavelengthCount" "I") (by decide +kernel)) dX5_usage_11 ?_
  refine lv_imul hx hb dX5_usage_14 ?_
  refine lv_topi (fun y15 e15 => ?_)
  have hw := hw y15 e15
  refine lv_istore_n (lv' := [(1, .int y15), (0, .ref (b0 + 0))]) hx hb dX5_usage_15 rfl hl (by decide) rfl (fun ls hl => ?_)
  refine lv_iload_n hx hb dX5_usage_16 rfl (lv_at hl 0 rfl) ?_
  refine lv_if_ne (x := y15) (tgt := 30) hx hb dX5_usage_17 (by decide) (fun c17 => ?_) (fun c17 => ?_)
  · rw [if_neg c17] at hw
    refine lv_iconst (v := 0) hx hb dX5_usage_30 (by decide) ?_
    refine lv_istore_n (lv' := [(2, .int 0), (1, .int y15), (0, .ref (b0 + 0))]) hx hb dX5_usage_31 rfl hl (by decide) rfl (fun ls hl => ?_)
    refine lv_iconst (v := 0) hx hb dX5_usage_32 (by decide) ?_
    refine lv_istore_n (lv' := [(3, .int 0), (2, .int 0), (1, .int y15), (0, .ref (b0 + 0))]) hx hb dX5_usage_33 rfl hl (by decide) rfl (fun ls hl => ?_)
    obtain ⟨n34, hw⟩ := hw
    exact j34 n34 S y15 0 0  _ _ _ hw hP hF hS (lv_sub hl [3, 2, 1, 0] rfl)
  · rw [if_pos c17] at hw
    exact q_throw (cls := eS) (text := "there are no fibres") (Ts := wsX5_usage) hx hb hlt hts hown (by decide +kernel) (hts (.classLink RX5 76 eS) (by decide +kernel)) (hts (.initialized eS) (by decide +kernel)) (by decide) (fun w h => List.mem_cons_of_mem _ (List.mem_append_right _ h)) thS2 (by decide) thS3 hW hP hF hS (hl.1.trans hml.symm) dX5_usage_20 dX5_usage_23 dX5_usage_24 dX5_usage_26 dX5_usage_29 ht9 (Nat.le_of_ble_eq_true rfl) (Nat.le_of_ble_eq_true rfl) (Nat.le_of_ble_eq_true rfl) (Nat.le_of_ble_eq_true rfl) hlocks hw (by decide) (by decide)
set_option maxHeartbeats 4000000 in
set_option maxRecDepth 100000 in
theorem c_X5_openChannels_n (l : Launch) (D : va_G) (cy : Nat → ClassId) (b0 : Nat) (S : St)   (P : St → Prop) (hw : wp_X5_openChannels_n S  P) : Met l yX5_openChannels wsX5_openChannels rm_X5_openChannels_n (va_Pc [.ref (b0 + 0), .null] (Wd D cy b0 NALL S)) (QC (Pv P) (Wb D cy b0 NALL) b0) 0 0 (AA b0) := by
  refine Met.ofW (cc := cX5_openChannels) (maxL := 5) (ret := none) (by decide) rfl ?_
  intro p e s m args below meth c s₁ B hml hv
  obtain ⟨hargs, hW, hP, hF⟩ := hv
  have hx := B.exec
  have hb := B.bytes
  have hr := B.returns
  have hts := atoms_spec (ws := wsX5_openChannels) B.pre
  have hown : s.vm.findClass RX5 = some m.cls := findClass_of_methodNamed B.named
  have hlocks := B.notSynchronized
  have hK := hW.1
  have hS : va_S (AA b0) s.heap s.heap [] := va_S.rf
  have hE : entryFrame m args 5 = F0 m 0 ((lg_sl [.ref (b0 + 0), .null] ++ List.replicate (5 - (lg_sl [.ref (b0 + 0), .null]).length) Slot.unset).toArray) [] := by rw [hargs]; exact lg_entry_eq m _ _
  rw [hE]
  have hl := lv_entry [.ref (b0 + 0), .null] (n := 5) (Nat.le_of_ble_eq_true rfl)
  generalize (lg_sl [.ref (b0 + 0), .null] ++ List.replicate (5 - (lg_sl [.ref (b0 + 0), .null]).length) Slot.unset).toArray = ls at hl ⊢
  have hl : lv_has ls 5 [(0, .ref (b0 + 0)), (1, .null)] := hl
  have j2 : ∀ (n2 : Nat), ∀ (S : St) (a2 : Int32), ∀ (H : Heap) (locs : List Loc) (ls : Array Slot), wp_X5_openChannels_n_2 P n2 S a2 → HP D cy b0 NALL S H → Fx S → va_S (AA b0) s.heap H locs → lv_has ls 5 [(0, .ref (b0 + 0)), (1, .null), (2, .int a2)] → W p l e rm_X5_openChannels_n s m args below meth c H locs 0 0 (MQ below (QC (Pv P) (Wb D cy b0 NALL) b0) args s 0 0 (AA b0)) (F0 m 2 ls []) := by
    intro n2
    induction n2 with
    | zero => intro S a2  H locs ls hw _ _ _ _; exact False.elim hw
    | succ n2 ih2 =>
      have j76 : ∀ (S : St) (a2 : Int32) (t1 : Int32) (t2 : Int32), ∀ (H : Heap) (locs : List Loc) (ls : Array Slot), wp_X5_openChannels_n_76 P (fun S a2 => wp_X5_openChannels_n_2 P n2 S a2) S a2 t1 t2 → HP D cy b0 NALL S H → Fx S → va_S (AA b0) s.heap H locs → lv_has ls 5 [(0, .ref (b0 + 0)), (1, .null), (2, .int a2)] → W p l e rm_X5_openChannels_n s m args below meth c H locs 0 0 (MQ below (QC (Pv P) (Wb D cy b0 NALL) b0) args s 0 0 (AA b0)) (F0 m 76 ls [.int t2, .int t1, .ref (b0 + 6)]) := by
        intro S a2 t1 t2  H locs ls hw hP hF hS hl
        unfold wp_X5_openChannels_n_76 at hw
        obtain ⟨h76, hw⟩ := hw
        refine q_iast (k := 6) (n := 14) (i := t1) (x := t2) hx hb hK hP hS (by decide) (kk_6) (ll_6) h76 dX5_openChannels_76 (fun H locs hz hP hS => ?_)
        have hF : Fx (sI S 6 (t1.toNatClampNeg) t2) := Fx.sI hF _ _ _
        generalize eS76 : sI S 6 (t1.toNatClampNeg) t2 = S76 at hP hF
        have hw := hw S76 eS76.symm
        obtain ⟨y77, e77⟩ : ∃ z : Int32, z = a2 + 1 := ⟨_, rfl⟩
        have hw := hw y77 e77
        refine lv_iinc (v := y77) (lv' := [(2, .int y77), (0, .ref (b0 + 0)), (1, .null)]) hx hb dX5_openChannels_77 hl (k := 2) rfl (by rw [e77]; rfl) (by decide) rfl (fun ls hl => ?_)
        refine lv_goto (tgt := 2) hx hb dX5_openChannels_80 (by decide) ?_
        exact ih2 S76 y77  _ _ _ hw hP hF hS (lv_sub hl [1, 2, 0] rfl)
      have j35 : ∀ (S : St) (a2 : Int32) (t0 : Bool), ∀ (H : Heap) (locs : List Loc) (ls : Array Slot), wp_X5_openChannels_n_35 P (fun S a2 => wp_X5_openChannels_n_2 P n2 S a2) S a2 t0 → HP D cy b0 NALL S H → Fx S → va_S (AA b0) s.heap H locs → lv_has ls 5 [(0, .ref (b0 + 0)), (1, .null), (2, .int a2)] → W p l e rm_X5_openChannels_n s m args below meth c H locs 0 0 (MQ below (QC (Pv P) (Wb D cy b0 NALL) b0) args s 0 0 (AA b0)) (F0 m 35 ls [.int (b2i t0)]) := by
        intro S a2 t0  H locs ls hw hP hF hS hl
        unfold wp_X5_openChannels_n_35 at hw
        refine lv_istore_n (lv' := [(3, .int (b2i t0)), (0, .ref (b0 + 0)), (1, .null), (2, .int a2)]) hx hb dX5_openChannels_35 rfl hl (by decide) rfl (fun ls hl => ?_)
        refine lv_iconst (v := 1) hx hb dX5_openChannels_36 (by decide) ?_
        refine lv_aload_n hx hb dX5_openChannels_37 rfl (lv_at hl 1 rfl) ?_
        refine gf_5_0 (k := 0) hx hb hts (by decide +kernel) hown hK hP (by decide) (kk_0) (q := 1) (hF.1 0 0 1 ff_0_0) (hts (.fieldLink RX5 12 "Opticmesh" "network" "LOpticmesh$Network;") (by decide +kernel)) dX5_openChannels_38 ?_
        refine gf_2_1 (k := 1) hx hb hts (by decide +kernel) hown hK hP (by decide) (kk_1) (hts (.fieldLink RX5 107 "Opticmesh$Network" "wavelengthCount" "I") (by decide +kernel)) dX5_openChannels_41 ?_
        refine lv_ishl hx hb dX5_openChannels_44 ?_
        refine lv_iconst (v := 1) hx hb dX5_openChannels_45 (by decide) ?_
        refine lv_isub hx hb dX5_openChannels_46 ?_
        refine lv_topi (fun y47 e47 => ?_)
        have hw := hw y47 e47
        refine lv_istore (lv' := [(4, .int y47), (3, .int (b2i t0)), (0, .ref (b0 + 0)), (1, .null), (2, .int a2)]) hx hb dX5_openChannels_47 hl (by decide) rfl (fun ls hl => ?_)
        refine lv_aload_n hx hb dX5_openChannels_49 rfl (lv_at hl 2 rfl) ?_
        refine gf_5_1 (k := 0) hx hb hts (by decide +kernel) hown hK hP (by decide) (kk_0) (q := 5) (hF.1 0 1 5 ff_0_1) (hts (.fieldLink RX5 21 "Opticmesh" "finder" "LOpticmesh$WayFinder;") (by decide +kernel)) dX5_openChannels_50 ?_
        refine gf_4_2 (k := 5) hx hb hts (by decide +kernel) hown hK hP (by decide) (kk_5) (q := 6) (hF.1 5 2 6 ff_5_2) (hts (.fieldLink RX5 295 "Opticmesh$WayFinder" "open" "[I") (by decide +kernel)) dX5_openChannels_53 ?_
        refine lv_iload_n hx hb dX5_openChannels_56 rfl (lv_at hl 4 rfl) ?_
        refine lv_iload_n hx hb dX5_openChannels_57 rfl (lv_at hl 1 rfl) ?_
        refine lv_if_eq (x := b2i t0) (tgt := 65) hx hb dX5_openChannels_58 (by decide) (fun c58 => ?_) (fun c58 => ?_)
        · have c58 := b2i_z c58
          rw [if_neg c58] at hw
          refine lv_iload hx hb dX5_openChannels_65 (lv_at hl 0 rfl) ?_
          refine lv_aload_n hx hb dX5_openChannels_67 rfl (lv_at hl 2 rfl) ?_
          refine lv_iload_n hx hb dX5_openChannels_68 rfl (lv_at hl 4 rfl) ?_
          refine lv_aload_nN hx hb dX5_openChannels_69 rfl (lv_at hl 3 rfl) ?_
          refine q_call (va_runV (As := [.int a2, .null]) (rest := [.int y47, .int a2, .ref (b0 + 6)]) ⟨hx, hb, hml, hown, hts⟩ (c_X5_wavelengthsUsed_n l D cy b0 S a2 _ hw) (cwV 2 hts gX5_openChannels_X5_wavelengthsUsed rfl rfl rfl (by decide +kernel) ⟨(Nat.le_of_ble_eq_true rfl), (Nat.le_of_ble_eq_true rfl)⟩) (q_pV hW hP hF hS (k := 0) (ci := 5) (by decide) (cell_5 (kk_0)) rfl [.int a2, .null]) rfl rfl hl.1 rfl (lv_room (Nat.le_of_ble_eq_true rfl)) dX5_openChannels_70 ⟨(Nat.le_of_ble_eq_true rfl), (Nat.le_of_ble_eq_true rfl)⟩) hS (fun v70 S70 t70 H locs hh hp hB hz hk9 hS => ?_)
          obtain ⟨r70, rfl, hw⟩ := hp
          have hP : HP D cy b0 NALL S70 H := by rw [← hh]; exact hB.1
          have hF := hB.2
          try dsimp only at hw
          refine W.eq (g2 := F0 m 73 ls [.int r70, .int y47, .int a2, .ref (b0 + 6)]) rfl ?_
          refine lv_iconst (v := (-1)) hx hb dX5_openChannels_73 (by decide) ?_
          refine lv_ixor hx hb dX5_openChannels_74 ?_
          refine lv_iand hx hb dX5_openChannels_75 ?_
          exact j76 S70 a2 a2 (y47 &&& (r70 ^^^ (-1)))  _ _ _ hw hP hF hS (lv_sub hl [2, 3, 4] rfl)
        · have c58 := b2i_n c58
          rw [if_pos c58] at hw
          refine lv_iconst (v := 0) hx hb dX5_openChannels_61 (by decide) ?_
          refine lv_goto (tgt := 76) hx hb dX5_openChannels_62 (by decide) ?_
          exact j76 S a2 a2 0  _ _ _ hw hP hF hS (lv_sub hl [2, 3, 4] rfl)
      have j30 : ∀ (S : St) (a2 : Int32), ∀ (H : Heap) (locs : List Loc) (ls : Array Slot), wp_X5_openChannels_n_30 P (fun S a2 => wp_X5_openChannels_n_2 P n2 S a2) S a2 → HP D cy b0 NALL S H → Fx S → va_S (AA b0) s.heap H locs → lv_has ls 5 [(0, .ref (b0 + 0)), (1, .null), (2, .int a2)] → W p l e rm_X5_openChannels_n s m args below meth c H locs 0 0 (MQ below (QC (Pv P) (Wb D cy b0 NALL) b0) args s 0 0 (AA b0)) (F0 m 30 ls []) := by
        intro S a2  H locs ls hw hP hF hS hl
        unfold wp_X5_openChannels_n_30 at hw
        refine lv_iconst (v := 1) hx hb dX5_openChannels_30 (by decide) ?_
        refine lv_goto (tgt := 35) hx hb dX5_openChannels_31 (by decide) ?_
        exact j35 S a2 true  _ _ _ hw hP hF hS (lv_sub hl [0, 1, 2] rfl)
      intro S a2  H locs ls hw hP hF hS hl
      rw [wp_X5_openChannels_n_2] at hw
      refine lv_iload_n hx hb dX5_openChannels_2 rfl (lv_at hl 2 rfl) ?_
      refine lv_bipush (v := 14) hx hb dX5_openChannels_3 (by decide) ?_
      refine lv_icmp_ge (x := a2) (y := 14) (tgt := 83) hx hb dX5_openChannels_5 (by decide) (fun c5 => ?_) (fun c5 => ?_)
      · rw [if_pos c5] at hw
        exact q_vret hx hb hr hP hF hS hw dX5_openChannels_83 hlocks
      · rw [if_neg c5] at hw
        refine lv_aload_n hx hb dX5_openChannels_8 rfl (lv_at hl 0 rfl) ?_
        refine gf_5_0 (k := 0) hx hb hts (by decide +kernel) hown hK hP (by decide) (kk_0) (q := 1) (hF.1 0 0 1 ff_0_0) (hts (.fieldLink RX5 12 "Opticmesh" "network" "LOpticmesh$Network;") (by decide +kernel)) dX5_openChannels_9 ?_
        refine lv_iload_n hx hb dX5_openChannels_12 rfl (lv_at hl 2 rfl) ?_
        refine q_call (va_runV (As := [.int a2]) (rest := []) ⟨hx, hb, hml, hown, hts⟩ (c_X2_hasFibre l D cy b0 S a2 _ hw) (cwV 1 hts gX5_openChannels_X2_hasFibre rfl rfl rfl (by decide +kernel) ⟨(Nat.le_of_ble_eq_true rfl), (Nat.le_of_ble_eq_true rfl)⟩) (q_pV hW hP hF hS (k := 1) (ci := 2) (by decide) (cell_2 (kk_1)) rfl [.int a2]) rfl rfl hl.1 rfl (lv_room (Nat.le_of_ble_eq_true rfl)) dX5_openChannels_13 ⟨(Nat.le_of_ble_eq_true rfl), (Nat.le_of_ble_eq_true rfl)⟩) hS (fun v13 S13 t13 H locs hh hp hB hz hk9 hS => ?_)
        obtain ⟨r13, rfl, hw⟩ := hp
        have hP : HP D cy b0 NALL S13 H := by rw [← hh]; exact hB.1
        have hF := hB.2
        try dsimp only at hw
        refine W.eq (g2 := F0 m 16 ls [.int (b2i r13)]) rfl ?_
        refine lv_if_eq (x := b2i r13) (tgt := 30) hx hb dX5_openChannels_16 (by decide) (fun c16 => ?_) (fun c16 => ?_)
        · have c16 := b2i_z c16
          rw [if_neg c16] at hw
          exact j30 S13 a2  _ _ _ hw hP hF hS (lv_sub hl [0, 1, 2] rfl)
        · have c16 := b2i_n c16
          rw [if_pos c16] at hw
          refine lv_aload_n hx hb dX5_openChannels_19 rfl (lv_at hl 0 rfl) ?_
          refine gf_5_0 (k := 0) hx hb hts (by decide +kernel) hown hK hP (by decide) (kk_0) (q := 1) (hF.1 0 0 1 ff_0_0) (hts (.fieldLink RX5 12 "Opticmesh" "network" "LOpticmesh$Network;") (by decide +kernel)) dX5_openChannels_20 ?_
          refine lv_iload_n hx hb dX5_openChannels_23 rfl (lv_at hl 2 rfl) ?_
          refine q_call (va_runV (As := [.int a2]) (rest := []) ⟨hx, hb, hml, hown, hts⟩ (c_X2_isCut l D cy b0 S13 a2 _ hw) (cwV 1 hts gX5_openChannels_X2_isCut rfl rfl rfl (by decide +kernel) ⟨(Nat.le_of_ble_eq_true rfl), (Nat.le_of_ble_eq_true rfl)⟩) (q_pV hW hP hF hS (k := 1) (ci := 2) (by decide) (cell_2 (kk_1)) rfl [.int a2]) rfl rfl hl.1 rfl (lv_room (Nat.le_of_ble_eq_true rfl)) dX5_openChannels_24 ⟨(Nat.le_of_ble_eq_true rfl), (Nat.le_of_ble_eq_true rfl)⟩) hS (fun v24 S24 t24 H locs hh hp hB hz hk9 hS => ?_)
          obtain ⟨r24, rfl, hw⟩ := hp
          have hP : HP D cy b0 NALL S24 H := by rw [← hh]; exact hB.1
          have hF := hB.2
          try dsimp only at hw
          refine W.eq (g2 := F0 m 27 ls [.int (b2i r24)]) rfl ?_
          refine lv_if_eq (x := b2i r24) (tgt := 34) hx hb dX5_openChannels_27 (by decide) (fun c27 => ?_) (fun c27 => ?_)
          · have c27 := b2i_z c27
            rw [if_neg c27] at hw
            refine lv_iconst (v := 0) hx hb dX5_openChannels_34 (by decide) ?_
            exact j35 S24 a2 false  _ _ _ hw hP hF hS (lv_sub hl [0, 1, 2] rfl)
          · have c27 := b2i_n c27
            rw [if_pos c27] at hw
            exact j30 S24 a2  _ _ _ hw hP hF hS (lv_sub hl [0, 1, 2] rfl)
  unfold wp_X5_openChannels_n at hw
  refine lv_iconst (v := 0) hx hb dX5_openChannels_0 (by decide) ?_
  refine lv_istore_n (lv' := [(2, .int 0), (0, .ref (b0 + 0)), (1, .null)]) hx hb dX5_openChannels_1 rfl hl (by decide) rfl (fun ls hl => ?_)
  obtain ⟨n2, hw⟩ := hw
  exact j2 n2 S 0  _ _ _ hw hP hF hS (lv_sub hl [1, 2, 0] rfl)
set_option maxHeartbeats 4000000 in
set_option maxRecDepth 100000 in
theorem c_X5_openChannels_s (l : Launch) (D : va_G) (cy : Nat → ClassId) (b0 : Nat) (S : St) (x1 : Nat) (hk1 : kd x1 = 1) (P : St → Prop) (hw : wp_X5_openChannels_s S x1 P) : Met l yX5_openChannels wsX5_openChannels rm_X5_openChannels_s (va_Pc [.ref (b0 + 0), .ref (b0 + x1)] (Wd D cy b0 NALL S)) (QC (Pv P) (Wb D cy b0 NALL) b0) 0 0 (AA b0) := by
  refine Met.ofW (cc := cX5_openChannels) (maxL := 5) (ret := none) (by decide) rfl ?_
  intro p e s m args below meth c s₁ B hml hv
  obtain ⟨hargs, hW, hP, hF⟩ := hv
  have hx := B.exec
  have hb := B.bytes
  have hr := B.returns
  have hts := atoms_spec (ws := wsX5_openChannels) B.pre
  have hown : s.vm.findClass RX5 = some m.cls := findClass_of_methodNamed B.named
  have hlocks := B.notSynchronized
  have hK := hW.1
  have hS : va_S (AA b0) s.heap s.heap [] := va_S.rf
  have hE : entryFrame m args 5 = F0 m 0 ((lg_sl [.ref (b0 + 0), .ref (b0 + x1)] ++ List.replicate (5 - (lg_sl [.ref (b0 + 0), .ref (b0 + x1)]).length) Slot.unset).toArray) [] := by rw [hargs]; exact lg_entry_eq m _ _
  rw [hE]
  have hl := lv_entry [.ref (b0 + 0), .ref (b0 + x1)] (n := 5) (Nat.le_of_ble_eq_true rfl)
  generalize (lg_sl [.ref (b0 + 0), .ref (b0 + x1)] ++ List.replicate (5 - (lg_sl [.ref (b0 + 0), .ref (b0 + x1)]).length) Slot.unset).toArray = ls at hl ⊢
  have hl : lv_has ls 5 [(0, .ref (b0 + 0)), (1, .ref (b0 + x1))] := hl
  have j2 : ∀ (n2 : Nat), ∀ (S : St) (a2 : Int32), ∀ (H : Heap) (locs : List Loc) (ls : Array Slot), wp_X5_openChannels_s_2 x1 P n2 S a2 → HP D cy b0 NALL S H → Fx S → va_S (AA b0) s.heap H locs → lv_has ls 5 [(0, .ref (b0 + 0)), (1, .ref (b0 + x1)), (2, .int a2)] → W p l e rm_X5_openChannels_s s m args below meth c H locs 0 0 (MQ below (QC (Pv P) (Wb D cy b0 NALL) b0) args s 0 0 (AA b0)) (F0 m 2 ls []) := by
    intro n2
    induction n2 with
    | zero => intro S a2  H locs ls hw _ _ _ _; exact False.elim hw
    | succ n2 ih2 =>
      have j76 : ∀ (S : St) (a2 : Int32) (t1 : Int32) (t2 : Int32), ∀ (H : Heap) (locs : List Loc) (ls : Array Slot), wp_X5_openChannels_s_76 x1 P (fun S a2 => wp_X5_openChannels_s_2 x1 P n2 S a2) S a2 t1 t2 → HP D cy b0 NALL S H → Fx S → va_S (AA b0) s.heap H locs → lv_has ls 5 [(0, .ref (b0 + 0)), (1, .ref (b0 + x1)), (2, .int a2)] → W p l e rm_X5_openChannels_s s m args below meth c H locs 0 0 (MQ below (QC (Pv P) (Wb D cy b0 NALL) b0) args s 0 0 (AA b0)) (F0 m 76 ls [.int t2, .int t1, .ref (b0 + 6)]) := by
        intro S a2 t1 t2  H locs ls hw hP hF hS hl
        unfold wp_X5_openChannels_s_76 at hw
        obtain ⟨h76, hw⟩ := hw
        refine q_iast (k := 6) (n := 14) (i := t1) (x := t2) hx hb hK hP hS (by decide) (kk_6) (ll_6) h76 dX5_openChannels_76 (fun H locs hz hP hS => ?_)
        have hF : Fx (sI S 6 (t1.toNatClampNeg) t2) := Fx.sI hF _ _ _
        generalize eS76 : sI S 6 (t1.toNatClampNeg) t2 = S76 at hP hF
        have hw := hw S76 eS76.symm
        obtain ⟨y77, e77⟩ : ∃ z : Int32, z = a2 + 1 := ⟨_, rfl⟩
        have hw := hw y77 e77
        refine lv_iinc (v := y77) (lv' := [(2, .int y77), (0, .ref (b0 + 0)), (1, .ref (b0 + x1))]) hx hb dX5_openChannels_77 hl (k := 2) rfl (by rw [e77]; rfl) (by decide) rfl (fun ls hl => ?_)
        refine lv_goto (tgt := 2) hx hb dX5_openChannels_80 (by decide) ?_
        exact ih2 S76 y77  _ _ _ hw hP hF hS (lv_sub hl [1, 2, 0] rfl)
      have j35 : ∀ (S : St) (a2 : Int32) (t0 : Bool), ∀ (H : Heap) (locs : List Loc) (ls : Array Slot), wp_X5_openChannels_s_35 x1 P (fun S a2 => wp_X5_openChannels_s_2 x1 P n2 S a2) S a2 t0 → HP D cy b0 NALL S H → Fx S → va_S (AA b0) s.heap H locs → lv_has ls 5 [(0, .ref (b0 + 0)), (1, .ref (b0 + x1)), (2, .int a2)] → W p l e rm_X5_openChannels_s s m args below meth c H locs 0 0 (MQ below (QC (Pv P) (Wb D cy b0 NALL) b0) args s 0 0 (AA b0)) (F0 m 35 ls [.int (b2i t0)]) := by
        intro S a2 t0  H locs ls hw hP hF hS hl
        unfold wp_X5_openChannels_s_35 at hw
        refine lv_istore_n (lv' := [(3, .int (b2i t0)), (0, .ref (b0 + 0)), (1, .ref (b0 + x1)), (2, .int a2)]) hx hb dX5_openChannels_35 rfl hl (by decide) rfl (fun ls hl => ?_)
        refine lv_iconst (v := 1) hx hb dX5_openChannels_36 (by decide) ?_
        refine lv_aload_n hx hb dX5_openChannels_37 rfl (lv_at hl 1 rfl) ?_
        refine gf_5_0 (k := 0) hx hb hts (by decide +kernel) hown hK hP (by decide) (kk_0) (q := 1) (hF.1 0 0 1 ff_0_0) (hts (.fieldLink RX5 12 "Opticmesh" "network" "LOpticmesh$Network;") (by decide +kernel)) dX5_openChannels_38 ?_
        refine gf_2_1 (k := 1) hx hb hts (by decide +kernel) hown hK hP (by decide) (kk_1) (hts (.fieldLink RX5 107 "Opticmesh$Network" "wavelengthCount" "I") (by decide +kernel)) dX5_openChannels_41 ?_
        refine lv_ishl hx hb dX5_openChannels_44 ?_
        refine lv_iconst (v := 1) hx hb dX5_openChannels_45 (by decide) ?_
        refine lv_isub hx hb dX5_openChannels_46 ?_
        refine lv_topi (fun y47 e47 => ?_)
        have hw := hw y47 e47
        refine lv_istore (lv' := [(4, .int y47), (3, .int (b2i t0)), (0, .ref (b0 + 0)), (1, .ref (b0 + x1)), (2, .int a2)]) hx hb dX5_openChannels_47 hl (by decide) rfl (fun ls hl => ?_)
        refine lv_aload_n hx hb dX5_openChannels_49 rfl (lv_at hl 2 rfl) ?_
        refine gf_5_1 (k := 0) hx hb hts (by decide +kernel) hown hK hP (by decide) (kk_0) (q := 5) (hF.1 0 1 5 ff_0_1) (hts (.fieldLink RX5 21 "Opticmesh" "finder" "LOpticmesh$WayFinder;") (by decide +kernel)) dX5_openChannels_50 ?_
        refine gf_4_2 (k := 5) hx hb hts (by decide +kernel) hown hK hP (by decide) (kk_5) (q := 6) (hF.1 5 2 6 ff_5_2) (hts (.fieldLink RX5 295 "Opticmesh$WayFinder" "open" "[I") (by decide +kernel)) dX5_openChannels_53 ?_
        refine lv_iload_n hx hb dX5_openChannels_56 rfl (lv_at hl 4 rfl) ?_
        refine lv_iload_n hx hb dX5_openChannels_57 rfl (lv_at hl 1 rfl) ?_
        refine lv_if_eq (x := b2i t0) (tgt := 65) hx hb dX5_openChannels_58 (by decide) (fun c58 => ?_) (fun c58 => ?_)
        · have c58 := b2i_z c58
          rw [if_neg c58] at hw
          refine lv_iload hx hb dX5_openChannels_65 (lv_at hl 0 rfl) ?_
          refine lv_aload_n hx hb dX5_openChannels_67 rfl (lv_at hl 2 rfl) ?_
          refine lv_iload_n hx hb dX5_openChannels_68 rfl (lv_at hl 4 rfl) ?_
          refine lv_aload_n hx hb dX5_openChannels_69 rfl (lv_at hl 3 rfl) ?_
          refine q_call (va_runV (As := [.int a2, .ref (b0 + x1)]) (rest := [.int y47, .int a2, .ref (b0 + 6)]) ⟨hx, hb, hml, hown, hts⟩ (c_X5_wavelengthsUsed_s l D cy b0 S a2 x1 hk1 _ hw) (cwV 2 hts gX5_openChannels_X5_wavelengthsUsed rfl rfl rfl (by decide +kernel) ⟨(Nat.le_of_ble_eq_true rfl), (Nat.le_of_ble_eq_true rfl)⟩) (q_pV hW hP hF hS (k := 0) (ci := 5) (by decide) (cell_5 (kk_0)) rfl [.int a2, .ref (b0 + x1)]) rfl rfl hl.1 rfl (lv_room (Nat.le_of_ble_eq_true rfl)) dX5_openChannels_70 ⟨(Nat.le_of_ble_eq_true rfl), (Nat.le_of_ble_eq_true rfl)⟩) hS (fun v70 S70 t70 H locs hh hp hB hz hk9 hS => ?_)
          obtain ⟨r70, rfl, hw⟩ := hp
          have hP : HP D cy b0 NALL S70 H := by rw [← hh]; exact hB.1
          have hF := hB.2
          try dsimp only at hw
          refine W.eq (g2 := F0 m 73 ls [.int r70, .int y47, .int a2, .ref (b0 + 6)]) rfl ?_
          refine lv_iconst (v := (-1)) hx hb dX5_openChannels_73 (by decide) ?_
          refine lv_ixor hx hb dX5_openChannels_74 ?_
          refine lv_iand hx hb dX5_openChannels_75 ?_
          exact j76 S70 a2 a2 (y47 &&& (r70 ^^^ (-1)))  _ _ _ hw hP hF hS (lv_sub hl [2, 3, 4] rfl)
        · have c58 := b2i_n c58
          rw [if_pos c58] at hw
          refine lv_iconst (v := 0) hx hb dX5_openChannels_61 (by decide) ?_
          refine lv_goto (tgt := 76) hx hb dX5_openChannels_62 (by decide) ?_
          exact j76 S a2 a2 0  _ _ _ hw hP hF hS (lv_sub hl [2, 3, 4] rfl)
      have j30 : ∀ (S : St) (a2 : Int32), ∀ (H : Heap) (locs : List Loc) (ls : Array Slot), wp_X5_openChannels_s_30 x1 P (fun S a2 => wp_X5_openChannels_s_2 x1 P n2 S a2) S a2 → HP D cy b0 NALL S H → Fx S → va_S (AA b0) s.heap H locs → lv_has ls 5 [(0, .ref (b0 + 0)), (1, .ref (b0 + x1)), (2, .int a2)] → W p l e rm_X5_openChannels_s s m args below meth c H locs 0 0 (MQ below (QC (Pv P) (Wb D cy b0 NALL) b0) args s 0 0 (AA b0)) (F0 m 30 ls []) := by
        intro S a2  H locs ls hw hP hF hS hl
        unfold wp_X5_openChannels_s_30 at hw
        refine lv_iconst (v := 1) hx hb dX5_openChannels_30 (by decide) ?_
        refine lv_goto (tgt := 35) hx hb dX5_openChannels_31 (by decide) ?_
        exact j35 S a2 true  _ _ _ hw hP hF hS (lv_sub hl [0, 1, 2] rfl)
      intro S a2  H locs ls hw hP hF hS hl
      rw [wp_X5_openChannels_s_2] at hw
      refine lv_iload_n hx hb dX5_openChannels_2 rfl (lv_at hl 2 rfl) ?_
      refine lv_bipush (v := 14) hx hb dX5_openChannels_3 (by decide) ?_
      refine lv_icmp_ge (x := a2) (y := 14) (tgt := 83) hx hb dX5_openChannels_5 (by decide) (fun c5 => ?_) (fun c5 => ?_)
      · rw [if_pos c5] at hw
        exact q_vret hx hb hr hP hF hS hw dX5_openChannels_83 hlocks
      · rw [if_neg c5] at hw
        refine lv_aload_n hx hb dX5_openChannels_8 rfl (lv_at hl 0 rfl) ?_
        refine gf_5_0 (k := 0) hx hb hts (by decide +kernel) hown hK hP (by decide) (kk_0) (q := 1) (hF.1 0 0 1 ff_0_0) (hts (.fieldLink RX5 12 "Opticmesh" "network" "LOpticmesh$Network;") (by decide +kernel)) dX5_openChannels_9 ?_
        refine lv_iload_n hx hb dX5_openChannels_12 rfl (lv_at hl 2 rfl) ?_
        refine q_call (va_runV (As := [.int a2]) (rest := []) ⟨hx, hb, hml, hown, hts⟩ (c_X2_hasFibre l D cy b0 S a2 _ hw) (cwV 1 hts gX5_openChannels_X2_hasFibre rfl rfl rfl (by decide +kernel) ⟨(Nat.le_of_ble_eq_true rfl), (Nat.le_of_ble_eq_true rfl)⟩) (q_pV hW hP hF hS (k := 1) (ci := 2) (by decide) (cell_2 (kk_1)) rfl [.int a2]) rfl rfl hl.1 rfl (lv_room (Nat.le_of_ble_eq_true rfl)) dX5_openChannels_13 ⟨(Nat.le_of_ble_eq_true rfl), (Nat.le_of_ble_eq_true rfl)⟩) hS (fun v13 S13 t13 H locs hh hp hB hz hk9 hS => ?_)
        obtain ⟨r13, rfl, hw⟩ := hp
        have hP : HP D cy b0 NALL S13 H := by rw [← hh]; exact hB.1
        have hF := hB.2
        try dsimp only at hw
        refine W.eq (g2 := F0 m 16 ls [.int (b2i r13)]) rfl ?_
        refine lv_if_eq (x := b2i r13) (tgt := 30) hx hb dX5_openChannels_16 (by decide) (fun c16 => ?_) (fun c16 => ?_)
        · have c16 := b2i_z c16
          rw [if_neg c16] at hw
          exact j30 S13 a2  _ _ _ hw hP hF hS (lv_sub hl [0, 1, 2] rfl)
        · have c16 := b2i_n c16
          rw [if_pos c16] at hw
          refine lv_aload_n hx hb dX5_openChannels_19 rfl (lv_at hl 0 rfl) ?_
          refine gf_5_0 (k := 0) hx hb hts (by decide +kernel) hown hK hP (by decide) (kk_0) (q := 1) (hF.1 0 0 1 ff_0_0) (hts (.fieldLink RX5 12 "Opticmesh" "network" "LOpticmesh$Network;") (by decide +kernel)) dX5_openChannels_20 ?_
          refine lv_iload_n hx hb dX5_openChannels_23 rfl (lv_at hl 2 rfl) ?_
          refine q_call (va_runV (As := [.int a2]) (rest := []) ⟨hx, hb, hml, hown, hts⟩ (c_X2_isCut l D cy b0 S13 a2 _ hw) (cwV 1 hts gX5_openChannels_X2_isCut rfl rfl rfl (by decide +kernel) ⟨(Nat.le_of_ble_eq_true rfl), (Nat.le_of_ble_eq_true rfl)⟩) (q_pV hW hP hF hS (k := 1) (ci := 2) (by decide) (cell_2 (kk_1)) rfl [.int a2]) rfl rfl hl.1 rfl (lv_room (Nat.le_of_ble_eq_true rfl)) dX5_openChannels_24 ⟨(Nat.le_of_ble_eq_true rfl), (Nat.le_of_ble_eq_true rfl)⟩) hS (fun v24 S24 t24 H locs hh hp hB hz hk9 hS => ?_)
          obtain ⟨r24, rfl, hw⟩ := hp
          have hP : HP D cy b0 NALL S24 H := by rw [← hh]; exact hB.1
          have hF := hB.2
          try dsimp only at hw
          refine W.eq (g2 := F0 m 27 ls [.int (b2i r24)]) rfl ?_
          refine lv_if_eq (x := b2i r24) (tgt := 34) hx hb dX5_openChannels_27 (by decide) (fun c27 => ?_) (fun c27 => ?_)
          · have c27 := b2i_z c27
            rw [if_neg c27] at hw
            refine lv_iconst (v := 0) hx hb dX5_openChannels_34 (by decide) ?_
            exact j35 S24 a2 false  _ _ _ hw hP hF hS (lv_sub hl [0, 1, 2] rfl)
          · have c27 := b2i_n c27
            rw [if_pos c27] at hw
            exact j30 S24 a2  _ _ _ hw hP hF hS (lv_sub hl [0, 1, 2] rfl)
  unfold wp_X5_openChannels_s at hw
  refine lv_iconst (v := 0) hx hb dX5_openChannels_0 (by decide) ?_
  refine lv_istore_n (lv' := [(2, .int 0), (0, .ref (b0 + 0)), (1, .ref (b0 + x1))]) hx hb dX5_openChannels_1 rfl hl (by decide) rfl (fun ls hl => ?_)
  obtain ⟨n2, hw⟩ := hw
  exact j2 n2 S 0  _ _ _ hw hP hF hS (lv_sub hl [1, 2, 0] rfl)
set_option maxHeartbeats 4000000 in
set_option maxRecDepth 100000 in
theorem c_X5_findWays (l : Launch) (D : va_G) (cy : Nat → ClassId) (b0 : Nat) (S : St) (x1 : Int32) (x2 : Int32) (x3 : Int32)  (P : St → Prop) (hw : wp_X5_findWays S x1 x2 x3 P) : Met l yX5_findWays wsX5_findWays rm_X5_findWays (va_Pc [.ref (b0 + 0), .int x1, .int x2, .int x3] (Wd D cy b0 NALL S)) (QC (Pv P) (Wb D cy b0 NALL) b0) 0 0 (AA b0) := by
  refine Met.ofW (cc := cX5_findWays) (maxL := 4) (ret := none) (by decide) rfl ?_
  intro p e s m args below meth c s₁ B hml hv
  obtain ⟨hargs, hW, hP, hF⟩ := hv
  have hx := B.exec
  have hb := B.bytes
  have hr := B.returns
  have hts := atoms_spec (ws := wsX5_findWays) B.pre
  have hown : s.vm.findClass RX5 = some m.cls := findClass_of_methodNamed B.named
  have hlocks := B.notSynchronized
  have hK := hW.1
  have hS : va_S (AA b0) s.heap s.heap [] := va_S.rf
  have hE : entryFrame m args 4 = F0 m 0 ((lg_sl [.ref (b0 + 0), .int x1, .int x2, .int x3] ++ List.replicate (4 - (lg_sl [.ref (b0 + 0), .int x1, .int x2, .int x3]).length) Slot.unset).toArray) [] := by rw [hargs]; exact lg_entry_eq m _ _
  rw [hE]
  have hl := lv_entry [.ref (b0 + 0), .int x1, .int x2, .int x3] (n := 4) (Nat.le_of_ble_eq_true rfl)
  generalize (lg_sl [.ref (b0 + 0), .int x1, .int x2, .int x3] ++ List.replicate (4 - (lg_sl [.ref (b0 + 0), .int x1, .int x2, .int x3]).length) Slot.unset).toArray = ls at hl ⊢
  have hl : lv_has ls 4 [(0, .ref (b0 + 0)), (1, .int x1), (2, .int x2), (3, .int x3)] := hl
  unfold wp_X5_findWays at hw
  refine lv_aload_n hx hb dX5_findWays_0 rfl (lv_at hl 0 rfl) ?_
  refine lv_null hx hb dX5_findWays_1 ?_
  refine q_call (va_runV (As := [.null]) (rest := []) ⟨hx, hb, hml, hown, hts⟩ (c_X5_openChannels_n l D cy b0 S _ hw) (cwV 1 hts gX5_findWays_X5_openChannels rfl rfl rfl (by decide +kernel) ⟨(Nat.le_of_ble_eq_true rfl), (Nat.le_of_ble_eq_true rfl)⟩) (q_pV hW hP hF hS (k := 0) (ci := 5) (by decide) (cell_5 (kk_0)) rfl [.null]) rfl rfl hl.1 rfl (lv_room (Nat.le_of_ble_eq_true rfl)) dX5_findWays_2 ⟨(Nat.le_of_ble_eq_true rfl), (Nat.le_of_ble_eq_true rfl)⟩) hS (fun v2 S2 t2 H locs hh hp hB hz hk9 hS => ?_)
  obtain ⟨rfl, hw⟩ := hp
  have hP : HP D cy b0 NALL S2 H := by rw [← hh]; exact hB.1
  have hF := hB.2
  try dsimp only at hw
  refine W.eq (g2 := F0 m 5 ls []) rfl ?_
  refine lv_iload_n hx hb dX5_findWays_5 rfl (lv_at hl 3 rfl) ?_
  refine lv_if_ne (x := x3) (tgt := 21) hx hb dX5_findWays_6 (by decide) (fun c6 => ?_) (fun c6 => ?_)
  · rw [if_neg c6] at hw
    refine lv_iload_n hx hb dX5_findWays_21 rfl (lv_at hl 3 rfl) ?_
    refine lv_iconst (v := 1) hx hb dX5_findWays_22 (by decide) ?_
    refine lv_icmp_ne (x := x3) (y := 1) (tgt := 38) hx hb dX5_findWays_23 (by decide) (fun c23 => ?_) (fun c23 => ?_)
    · rw [if_neg c23] at hw
      refine lv_aload_n hx hb dX5_findWays_38 rfl (lv_at hl 0 rfl) ?_
      refine gf_5_1 (k := 0) hx hb hts (by decide +kernel) hown hK hP (by decide) (kk_0) (q := 5) (hF.1 0 1 5 ff_0_1) (hts (.fieldLink RX5 21 "Opticmesh" "finder" "LOpticmesh$WayFinder;") (by decide +kernel)) dX5_findWays_39 ?_
      refine lv_iload_n hx hb dX5_findWays_42 rfl (lv_at hl 1 rfl) ?_
      refine lv_iload_n hx hb dX5_findWays_43 rfl (lv_at hl 2 rfl) ?_
      refine q_call (va_runV (As := [.int x1, .int x2]) (rest := []) ⟨hx, hb, hml, hown, hts⟩ (c_X4_findPair l D cy b0 S2 x1 x2 _ hw) (cwV 2 hts gX5_findWays_X4_findPair rfl rfl rfl (by decide +kernel) ⟨(Nat.le_of_ble_eq_true rfl), (Nat.le_of_ble_eq_true rfl)⟩) (q_pV hW hP hF hS (k := 5) (ci := 4) (by decide) (cell_4 (kk_5)) rfl [.int x1, .int x2]) rfl rfl hl.1 rfl (lv_room (Nat.le_of_ble_eq_true rfl)) dX5_findWays_44 ⟨(Nat.le_of_ble_eq_true rfl), (Nat.le_of_ble_eq_true rfl)⟩) hS (fun v44 S44 t44 H locs hh hp hB hz hk9 hS => ?_)
      obtain ⟨rfl, hw⟩ := hp
      have hP : HP D cy b0 NALL S44 H := by rw [← hh]; exact hB.1
      have hF := hB.2
      try dsimp only at hw
      refine W.eq (g2 := F0 m 47 ls []) rfl ?_
      exact q_vret hx hb hr hP hF hS hw dX5_findWays_47 hlocks
    · rw [if_pos c23] at hw
      refine lv_aload_n hx hb dX5_findWays_26 rfl (lv_at hl 0 rfl) ?_
      refine gf_5_1 (k := 0) hx hb hts (by decide +kernel) hown hK hP (by decide) (kk_0) (q := 5) (hF.1 0 1 5 ff_0_1) (hts (.fieldLink RX5 21 "Opticmesh" "finder" "LOpticmesh$WayFinder;") (by decide +kernel)) dX5_findWays_27 ?_
      refine lv_iload_n hx hb dX5_findWays_30 rfl (lv_at hl 1 rfl) ?_
      refine lv_iload_n hx hb dX5_findWays_31 rfl (lv_at hl 2 rfl) ?_
      refine q_call (va_runV (As := [.int x1, .int x2]) (rest := []) ⟨hx, hb, hml, hown, hts⟩ (c_X4_findOnLowestWavelength l D cy b0 S2 x1 x2 _ hw) (cwV 2 hts gX5_findWays_X4_findOnLowestWavelength rfl rfl rfl (by decide +kernel) ⟨(Nat.le_of_ble_eq_true rfl), (Nat.le_of_ble_eq_true rfl)⟩) (q_pV hW hP hF hS (k := 5) (ci := 4) (by decide) (cell_4 (kk_5)) rfl [.int x1, .int x2]) rfl rfl hl.1 rfl (lv_room (Nat.le_of_ble_eq_true rfl)) dX5_findWays_32 ⟨(Nat.le_of_ble_eq_true rfl), (Nat.le_of_ble_eq_true rfl)⟩) hS (fun v32 S32 t32 H locs hh hp hB hz hk9 hS => ?_)
      obtain ⟨rfl, hw⟩ := hp
      have hP : HP D cy b0 NALL S32 H := by rw [← hh]; exact hB.1
      have hF := hB.2
      try dsimp only at hw
      refine W.eq (g2 := F0 m 35 ls []) rfl ?_
      refine lv_goto (tgt := 47) hx hb dX5_findWays_35 (by decide) ?_
      exact q_vret hx hb hr hP hF hS hw dX5_findWays_47 hlocks
  · rw [if_pos c6] at hw
    refine lv_aload_n hx hb dX5_findWays_9 rfl (lv_at hl 0 rfl) ?_
    refine gf_5_1 (k := 0) hx hb hts (by decide +kernel) hown hK hP (by decide) (kk_0) (q := 5) (hF.1 0 1 5 ff_0_1) (hts (.fieldLink RX5 21 "Opticmesh" "finder" "LOpticmesh$WayFinder;") (by decide +kernel)) dX5_findWays_10 ?_
    refine lv_iload_n hx hb dX5_findWays_13 rfl (lv_at hl 1 rfl) ?_
    refine lv_iload_n hx hb dX5_findWays_14 rfl (lv_at hl 2 rfl) ?_
    refine q_call (va_runV (As := [.int x1, .int x2]) (rest := []) ⟨hx, hb, hml, hown, hts⟩ (c_X4_findFirst l D cy b0 S2 x1 x2 _ hw) (cwV 2 hts gX5_findWays_X4_findFirst rfl rfl rfl (by decide +kernel) ⟨(Nat.le_of_ble_eq_true rfl), (Nat.le_of_ble_eq_true rfl)⟩) (q_pV hW hP hF hS (k := 5) (ci := 4) (by decide) (cell_4 (kk_5)) rfl [.int x1, .int x2]) rfl rfl hl.1 rfl (lv_room (Nat.le_of_ble_eq_true rfl)) dX5_findWays_15 ⟨(Nat.le_of_ble_eq_true rfl), (Nat.le_of_ble_eq_true rfl)⟩) hS (fun v15 S15 t15 H locs hh hp hB hz hk9 hS => ?_)
    obtain ⟨rfl, hw⟩ := hp
    have hP : HP D cy b0 NALL S15 H := by rw [← hh]; exact hB.1
    have hF := hB.2
    try dsimp only at hw
    refine W.eq (g2 := F0 m 18 ls []) rfl ?_
    refine lv_goto (tgt := 47) hx hb dX5_findWays_18 (by decide) ?_
    exact q_vret hx hb hr hP hF hS hw dX5_findWays_47 hlocks
set_option maxHeartbeats 4000000 in
set_option maxRecDepth 100000 in
theorem c_X5_isRule (l : Launch) (D : va_G) (cy : Nat → ClassId) (b0 : Nat) (S : St) (x1 : Int32)  (P : Bool → St → Prop) (hw : wp_X5_isRule S x1 P) : Met l yX5_isRule wsX5_isRule rm_X5_isRule (va_Pc [.int x1] (Wd D cy b0 NALL S)) (QC (Pz P) (Wb D cy b0 NALL) b0) 0 0 (AA b0) := by
  refine Met.ofW (cc := cX5_isRule) (maxL := 1) (ret := (some .boolean)) (by decide) rfl ?_
  intro p e s m args below meth c s₁ B hml hv
  obtain ⟨hargs, hW, hP, hF⟩ := hv
  have hx := B.exec
  have hb := B.bytes
  have hr := B.returns
  have hts := atoms_spec (ws := wsX5_isRule) B.pre
  have hown : s.vm.findClass RX5 = some m.cls := findClass_of_methodNamed B.named
  have hlocks := B.notSynchronized
  have hK := hW.1
  have hS : va_S (AA b0) s.heap s.heap [] := va_S.rf
  have hE : entryFrame m args 1 = F0 m 0 ((lg_sl [.int x1] ++ List.replicate (1 - (lg_sl [.int x1]).length) Slot.unset).toArray) [] := by rw [hargs]; exact lg_entry_eq m _ _
  rw [hE]
  have hl := lv_entry [.int x1] (n := 1) (Nat.le_of_ble_eq_true rfl)
  generalize (lg_sl [.int x1] ++ List.replicate (1 - (lg_sl [.int x1]).length) Slot.unset).toArray = ls at hl ⊢
  have hl : lv_has ls 1 [(0, .int x1)] := hl
  unfold wp_X5_isRule at hw
  refine lv_iload_n hx hb dX5_isRule_0 rfl (lv_at hl 0 rfl) ?_
  refine lv_if_lt (x := x1) (tgt := 13) hx hb dX5_isRule_1 (by decide) (fun c1 => ?_) (fun c1 => ?_)
  · rw [if_pos c1] at hw
    refine lv_iconst (v := 0) hx hb dX5_isRule_13 (by decide) ?_
    exact q_zret (v := false) hx hb hr hP hF hS hw dX5_isRule_14 hlocks
  · rw [if_neg c1] at hw
    refine lv_iload_n hx hb dX5_isRule_4 rfl (lv_at hl 0 rfl) ?_
    refine lv_iconst (v := 2) hx hb dX5_isRule_5 (by decide) ?_
    refine lv_icmp_gt (x := x1) (y := 2) (tgt := 13) hx hb dX5_isRule_6 (by decide) (fun c6 => ?_) (fun c6 => ?_)
    · rw [if_pos c6] at hw
      refine lv_iconst (v := 0) hx hb dX5_isRule_13 (by decide) ?_
      exact q_zret (v := false) hx hb hr hP hF hS hw dX5_isRule_14 hlocks
    · rw [if_neg c6] at hw
      refine lv_iconst (v := 1) hx hb dX5_isRule_9 (by decide) ?_
      refine lv_goto (tgt := 14) hx hb dX5_isRule_10 (by decide) ?_
      exact q_zret (v := true) hx hb hr hP hF hS hw dX5_isRule_14 hlocks
set_option maxHeartbeats 4000000 in
set_option maxRecDepth 100000 in
theorem c_X5_livingLights (l : Launch) (D : va_G) (cy : Nat → ClassId) (b0 : Nat) (S : St)   (P : Int32 → St → Prop) (hw : wp_X5_livingLights S  P) : Met l yX5_livingLights wsX5_livingLights rm_X5_livingLights (va_Pc [.ref (b0 + 0)] (Wd D cy b0 NALL S)) (QC (Pi P) (Wb D cy b0 NALL) b0) 0 0 (AA b0) := by
  refine Met.ofW (cc := cX5_livingLights) (maxL := 3) (ret := (some .int)) (by decide) rfl ?_
  intro p e s m args below meth c s₁ B hml hv
  obtain ⟨hargs, hW, hP, hF⟩ := hv
  have hx := B.exec
  have hb := B.bytes
  have hr := B.returns
  have hts := atoms_spec (ws := wsX5_livingLights) B.pre
  have hown : s.vm.findClass RX5 = some m.cls := findClass_of_methodNamed B.named
  have hlocks := B.notSynchronized
  have hK := hW.1
  have hS : va_S (AA b0) s.heap s.heap [] := va_S.rf
  have hE : entryFrame m args 3 = F0 m 0 ((lg_sl [.ref (b0 + 0)] ++ List.replicate (3 - (lg_sl [.ref (b0 + 0)]).length) Slot.unset).toArray) [] := by rw [hargs]; exact lg_entry_eq m _ _
  rw [hE]
  have hl := lv_entry [.ref (b0 + 0)] (n := 3) (Nat.le_of_ble_eq_true rfl)
  generalize (lg_sl [.ref (b0 + 0)] ++ List.replicate (3 - (lg_sl [.ref (b0 + 0)]).length) Slot.unset).toArray = ls at hl ⊢
  have hl : lv_has ls 3 [(0, .ref (b0 + 0))] := hl
  have j4 : ∀ (n4 : Nat), ∀ (S : St) (a1 : Int32) (a2 : Int32), ∀ (H : Heap) (locs : List Loc) (ls : Array Slot), wp_X5_livingLights_4 P n4 S a1 a2 → HP D cy b0 NALL S H → Fx S → va_S (AA b0) s.heap H locs → lv_has ls 3 [(0, .ref (b0 + 0)), (1, .int a1), (2, .int a2)] → W p l e rm_X5_livingLights s m args below meth c H locs 0 0 (MQ below (QC (Pi P) (Wb D cy b0 NALL) b0) args s 0 0 (AA b0)) (F0 m 4 ls []) := by
    intro n4
    induction n4 with
    | zero => intro S a1 a2  H locs ls hw _ _ _ _; exact False.elim hw
    | succ n4 ih4 =>
      have j27 : ∀ (S : St) (a1 : Int32) (a2 : Int32), ∀ (H : Heap) (locs : List Loc) (ls : Array Slot), wp_X5_livingLights_27 P (fun S a1 a2 => wp_X5_livingLights_4 P n4 S a1 a2) S a1 a2 → HP D cy b0 NALL S H → Fx S → va_S (AA b0) s.heap H locs → lv_has ls 3 [(0, .ref (b0 + 0)), (1, .int a1), (2, .int a2)] → W p l e rm_X5_livingLights s m args below meth c H locs 0 0 (MQ below (QC (Pi P) (Wb D cy b0 NALL) b0) args s 0 0 (AA b0)) (F0 m 27 ls []) := by
        intro S a1 a2  H locs ls hw hP hF hS hl
        unfold wp_X5_livingLights_27 at hw
        obtain ⟨y27, e27⟩ : ∃ z : Int32, z = a2 + 1 := ⟨_, rfl⟩
        have hw := hw y27 e27
        refine lv_iinc (v := y27) (lv' := [(2, .int y27), (0, .ref (b0 + 0)), (1, .int a1)]) hx hb dX5_livingLights_27 hl (k := 2) rfl (by rw [e27]; rfl) (by decide) rfl (fun ls hl => ?_)
        refine lv_goto (tgt := 4) hx hb dX5_livingLights_30 (by decide) ?_
        exact ih4 S a1 y27  _ _ _ hw hP hF hS (lv_sub hl [1, 2, 0] rfl)
      intro S a1 a2  H locs ls hw hP hF hS hl
      rw [wp_X5_livingLights_4] at hw
      refine lv_iload_n hx hb dX5_livingLights_4 rfl (lv_at hl 2 rfl) ?_
      refine lv_aload_n hx hb dX5_livingLights_5 rfl (lv_at hl 0 rfl) ?_
      refine gf_5_4 (k := 0) hx hb hts (by decide +kernel) hown hK hP (by decide) (kk_0) (hts (.fieldLink RX5 59 "Opticmesh" "lightCount" "I") (by decide +kernel)) dX5_livingLights_6 ?_
      refine lv_icmp_ge (x := a2) (y := (gI S 0 4)) (tgt := 33) hx hb dX5_livingLights_9 (by decide) (fun c9 => ?_) (fun c9 => ?_)
      · rw [if_pos c9] at hw
        refine lv_iload_n hx hb dX5_livingLights_33 rfl (lv_at hl 1 rfl) ?_
        exact q_iret hx hb hr hP hF hS hw dX5_livingLights_34 hlocks
      · rw [if_neg c9] at hw
        refine lv_aload_n hx hb dX5_livingLights_12 rfl (lv_at hl 0 rfl) ?_
        refine gf_5_3 (k := 0) hx hb hts (by decide +kernel) hown hK hP (by decide) (kk_0) (q := 184) (hF.1 0 3 184 ff_0_3) (hts (.fieldLink RX5 34 "Opticmesh" "lightList" "[LOpticmesh$Light;") (by decide +kernel)) dX5_livingLights_13 ?_
        refine lv_iload_n hx hb dX5_livingLights_16 rfl (lv_at hl 2 rfl) ?_
        obtain ⟨h17, hw⟩ := hw
        refine q_aald9 (k := 184) (n := 60) (i := a2) hx hb hK hP (by decide) (kk_184) (ll_184) h17 dX5_livingLights_17 ?_
        rw [rf_some (hF.1 184 _ _ (fx_184 (vp_lt h17)))]
        refine q_call (va_runV (As := []) (rest := []) ⟨hx, hb, hml, hown, hts⟩ (c_X1_isGone l D cy b0 S (185 + 3 * (a2.toNatClampNeg)) (kd_Li (vp_lt h17)) _ hw) (cwV 0 hts gX5_livingLights_X1_isGone rfl rfl rfl (by decide +kernel) ⟨(Nat.le_of_ble_eq_true rfl), (Nat.le_of_ble_eq_true rfl)⟩) (q_pV hW hP hF hS (k := (185 + 3 * (a2.toNatClampNeg))) (ci := 1) (kd_N (kd_Li (vp_lt h17)) (by decide)) (cell_1 (kd_Li (vp_lt h17))) rfl []) rfl rfl hl.1 rfl (lv_room (Nat.le_of_ble_eq_true rfl)) dX5_livingLights_18 ⟨(Nat.le_of_ble_eq_true rfl), (Nat.le_of_ble_eq_true rfl)⟩) hS (fun v18 S18 t18 H locs hh hp hB hz hk9 hS => ?_)
        obtain ⟨r18, rfl, hw⟩ := hp
        have hP : HP D cy b0 NALL S18 H := by rw [← hh]; exact hB.1
        have hF := hB.2
        try dsimp only at hw
        refine W.eq (g2 := F0 m 21 ls [.int (b2i r18)]) rfl ?_
        refine lv_if_ne (x := b2i r18) (tgt := 27) hx hb dX5_livingLights_21 (by decide) (fun c21 => ?_) (fun c21 => ?_)
        · have c21 := b2i_n c21
          rw [if_pos c21] at hw
          exact j27 S18 a1 a2  _ _ _ hw hP hF hS (lv_sub hl [0, 1, 2] rfl)
        · have c21 := b2i_z c21
          rw [if_neg c21] at hw
          obtain ⟨y24, e24⟩ : ∃ z : Int32, z = a1 + 1 := ⟨_, rfl⟩
          have hw := hw y24 e24
          refine lv_iinc (v := y24) (lv' := [(1, .int y24), (0, .ref (b0 + 0)), (2, .int a2)]) hx hb dX5_livingLights_24 hl (k := 1) rfl (by rw [e24]; rfl) (by decide) rfl (fun ls hl => ?_)
          exact j27 S18 y24 a2  _ _ _ hw hP hF hS (lv_sub hl [1, 0, 2] rfl)
  unfold wp_X5_livingLights at hw
  refine lv_iconst (v := 0) hx hb dX5_livingLights_0 (by decide) ?_
  refine lv_istore_n (lv' := [(1, .int 0), (0, .ref (b0 + 0))]) hx hb dX5_livingLights_1 rfl hl (by decide) rfl (fun ls hl => ?_)
  refine lv_iconst (v := 0) hx hb dX5_livingLights_2 (by decide) ?_
  refine lv_istore_n (lv' := [(2, .int 0), (1, .int 0), (0, .ref (b0 + 0))]) hx hb dX5_livingLights_3 rfl hl (by decide) rfl (fun ls hl => ?_)
  obtain ⟨n4, hw⟩ := hw
  exact j4 n4 S 0 0  _ _ _ hw hP hF hS (lv_sub hl [2, 1, 0] rfl)
set_option maxHeartbeats 4000000 in
set_option maxRecDepth 100000 in
theorem c_X5_lightOnFoundWays (l : Launch) (hlt : l.stackTraces = false) (D : va_G) (cy : Nat → ClassId) (b0 : Nat) (S : St) (x1 : Int32) (x2 : Int32)  (P : Nat → St → Prop) (E : String → St → Prop) (hw : wp_X5_lightOnFoundWays S x1 x2 P E) : vx_Met l yX5_lightOnFoundWays wsX5_lightOnFoundWays rm_X5_lightOnFoundWays (va_Pc [.ref (b0 + 0), .int x1, .int x2] (Wd D cy b0 NALL S)) (QC (Pr b0 1 P) (Wb D cy b0 NALL) b0) (XX E (Wb D cy b0 NALL) b0) 1 6 (AA b0) := by
  refine vx_ofW (cc := cX5_lightOnFoundWays) (maxL := 5) (ret := (some (.object "Opticmesh$Light"))) (by decide) rfl ?_
  intro p e s m args below meth c s₁ B hml ht9 hv
  obtain ⟨hargs, hW, hP, hF⟩ := hv
  have hx := B.exec
  have hb := B.bytes
  have hr := B.returns
  have hts := atoms_spec (ws := wsX5_lightOnFoundWays) B.pre
  have hown : s.vm.findClass RX5 = some m.cls := findClass_of_methodNamed B.named
  have hlocks := B.notSynchronized
  have hK := hW.1
  have hS : va_S (AA b0) s.heap s.heap [] := va_S.rf
  have hE : entryFrame m args 5 = F0 m 0 ((lg_sl [.ref (b0 + 0), .int x1, .int x2] ++ List.replicate (5 - (lg_sl [.ref (b0 + 0), .int x1, .int x2]).length) Slot.unset).toArray) [] := by rw [hargs]; exact lg_entry_eq m _ _
  rw [hE]
  have hl := lv_entry [.ref (b0 + 0), .int x1, .int x2] (n := 5) (Nat.le_of_ble_eq_true rfl)
  generalize (lg_sl [.ref (b0 + 0), .int x1, .int x2] ++ List.replicate (5 - (lg_sl [.ref (b0 + 0), .int x1, .int x2]).length) Slot.unset).toArray = ls at hl ⊢
  have hl : lv_has ls 5 [(0, .ref (b0 + 0)), (1, .int x1), (2, .int x2)] := hl
  have j40 : ∀ (S : St) , ∀ (H : Heap) (locs : List Loc) (ls : Array Slot), wp_X5_lightOnFoundWays_40 x1 x2 P E S → HP D cy b0 NALL S H → Fx S → va_S (AA b0) s.heap H locs → lv_has ls 5 [] → W p l e rm_X5_lightOnFoundWays s m args below meth c H locs 0 0 (vx_MQ below (QC (Pr b0 1 P) (Wb D cy b0 NALL) b0) (XX E (Wb D cy b0 NALL) b0) args s 1 6 (AA b0)) (F0 m 40 ls []) := by
    intro S  H locs ls hw hP hF hS hl
    unfold wp_X5_lightOnFoundWays_40 at hw
    exact q_throwW (cls := eS) (text := "there are 12 lights that are not gone") (Ts := wsX5_lightOnFoundWays) hx hb hlt hts hown (by decide +kernel) (hts (.classLink RX5 76 eS) (by decide +kernel)) (hts (.initialized eS) (by decide +kernel)) (by decide) (fun w h => List.mem_cons_of_mem _ (List.mem_append_right _ h)) thS2 (by decide) thS3 hW hP hF hS (hl.1.trans hml.symm) dX5_lightOnFoundWays_40 dX5_lightOnFoundWays_43 dX5_lightOnFoundWays_44 dX5_lightOnFoundWays_47 dX5_lightOnFoundWays_50 ht9 (Nat.le_of_ble_eq_true rfl) (Nat.le_of_ble_eq_true rfl) (Nat.le_of_ble_eq_true rfl) (Nat.le_of_ble_eq_true rfl) hlocks hw (by decide) (by decide)
  unfold wp_X5_lightOnFoundWays at hw
  refine lv_aload_n hx hb dX5_lightOnFoundWays_0 rfl (lv_at hl 0 rfl) ?_
  refine gf_5_1 (k := 0) hx hb hts (by decide +kernel) hown hK hP (by decide) (kk_0) (q := 5) (hF.1 0 1 5 ff_0_1) (hts (.fieldLink RX5 21 "Opticmesh" "finder" "LOpticmesh$WayFinder;") (by decide +kernel)) dX5_lightOnFoundWays_1 ?_
  rcases hq4 : gR S 5 0 with _ | q4
  · have hw := hw.1 hq4
    refine gn_4_0 (k := 5) hx hb hts (by decide +kernel) hown hK hP (by decide) (kk_5) hq4 (hts (.fieldLink RX5 160 "Opticmesh$WayFinder" "first" "LOpticmesh$Way;") (by decide +kernel)) dX5_lightOnFoundWays_4 ?_
    refine lv_astore_nN (lv' := [(3, .null), (0, .ref (b0 + 0)), (1, .int x1), (2, .int x2)]) hx hb dX5_lightOnFoundWays_7 rfl hl (by decide) rfl (fun ls hl => ?_)
    refine lv_aload_nN hx hb dX5_lightOnFoundWays_8 rfl (lv_at hl 0 rfl) ?_
    refine lv_ifnonnullN hx hb dX5_lightOnFoundWays_9 ?_
    exact q_throw (cls := eS) (text := "there is no such way or pair of ways") (Ts := wsX5_lightOnFoundWays) hx hb hlt hts hown (by decide +kernel) (hts (.classLink RX5 76 eS) (by decide +kernel)) (hts (.initialized eS) (by decide +kernel)) (by decide) (fun w h => List.mem_cons_of_mem _ (List.mem_append_right _ h)) thS2 (by decide) thS3 hW hP hF hS (hl.1.trans hml.symm) dX5_lightOnFoundWays_12 dX5_lightOnFoundWays_15 dX5_lightOnFoundWays_16 dX5_lightOnFoundWays_18 dX5_lightOnFoundWays_21 ht9 (Nat.le_of_ble_eq_true rfl) (Nat.le_of_ble_eq_true rfl) (Nat.le_of_ble_eq_true rfl) (Nat.le_of_ble_eq_true rfl) hlocks hw (by decide) (by decide)
  · have hw := hw.2 q4 hq4
    have hk_q4 : kd q4 = 3 := (hF.2.1 q4 hq4)
    refine gf_4_0 (k := 5) hx hb hts (by decide +kernel) hown hK hP (by decide) (kk_5) (q := q4) hq4 (hts (.fieldLink RX5 160 "Opticmesh$WayFinder" "first" "LOpticmesh$Way;") (by decide +kernel)) dX5_lightOnFoundWays_4 ?_
    refine lv_astore_n (lv' := [(3, .ref (b0 + q4)), (0, .ref (b0 + 0)), (1, .int x1), (2, .int x2)]) hx hb dX5_lightOnFoundWays_7 rfl hl (by decide) rfl (fun ls hl => ?_)
    refine lv_aload_n hx hb dX5_lightOnFoundWays_8 rfl (lv_at hl 0 rfl) ?_
    refine lv_ifnonnull (tgt := 22) hx hb dX5_lightOnFoundWays_9 (by decide) ?_
    refine lv_aload_n hx hb dX5_lightOnFoundWays_22 rfl (lv_at hl 1 rfl) ?_
    refine q_call (va_runV (As := []) (rest := []) ⟨hx, hb, hml, hown, hts⟩ (c_X5_livingLights l D cy b0 S _ hw) (cwV 0 hts gX5_lightOnFoundWays_X5_livingLights rfl rfl rfl (by decide +kernel) ⟨(Nat.le_of_ble_eq_true rfl), (Nat.le_of_ble_eq_true rfl)⟩) (q_pV hW hP hF hS (k := 0) (ci := 5) (by decide) (cell_5 (kk_0)) rfl []) rfl rfl hl.1 rfl (lv_room (Nat.le_of_ble_eq_true rfl)) dX5_lightOnFoundWays_23 ⟨(Nat.le_of_ble_eq_true rfl), (Nat.le_of_ble_eq_true rfl)⟩) hS (fun v23 S23 t23 H locs hh hp hB hz hk9 hS => ?_)
    obtain ⟨r23, rfl, hw⟩ := hp
    have hP : HP D cy b0 NALL S23 H := by rw [← hh]; exact hB.1
    have hF := hB.2
    try dsimp only at hw
    refine W.eq (g2 := F0 m 26 ls [.int r23]) rfl ?_
    refine lv_bipush (v := 12) hx hb dX5_lightOnFoundWays_26 (by decide) ?_
    refine lv_icmp_ge (x := r23) (y := 12) (tgt := 40) hx hb dX5_lightOnFoundWays_28 (by decide) (fun c28 => ?_) (fun c28 => ?_)
    · rw [if_pos c28] at hw
      exact j40 S23  _ _ _ hw hP hF hS (lv_sub hl [] rfl)
    · rw [if_neg c28] at hw
      refine lv_aload_n hx hb dX5_lightOnFoundWays_31 rfl (lv_at hl 1 rfl) ?_
      refine gf_5_4 (k := 0) hx hb hts (by decide +kernel) hown hK hP (by decide) (kk_0) (hts (.fieldLink RX5 59 "Opticmesh" "lightCount" "I") (by decide +kernel)) dX5_lightOnFoundWays_32 ?_
      refine lv_bipush (v := 60) hx hb dX5_lightOnFoundWays_35 (by decide) ?_
      refine lv_icmp_lt (x := (gI S23 0 4)) (y := 60) (tgt := 51) hx hb dX5_lightOnFoundWays_37 (by decide) (fun c37 => ?_) (fun c37 => ?_)
      · rw [if_pos c37] at hw
        refine lv_aload_n hx hb dX5_lightOnFoundWays_51 rfl (lv_at hl 1 rfl) ?_
        refine gf_5_3 (k := 0) hx hb hts (by decide +kernel) hown hK hP (by decide) (kk_0) (q := 184) (hF.1 0 3 184 ff_0_3) (hts (.fieldLink RX5 34 "Opticmesh" "lightList" "[LOpticmesh$Light;") (by decide +kernel)) dX5_lightOnFoundWays_52 ?_
        refine lv_aload_n hx hb dX5_lightOnFoundWays_55 rfl (lv_at hl 1 rfl) ?_
        refine gf_5_4 (k := 0) hx hb hts (by decide +kernel) hown hK hP (by decide) (kk_0) (hts (.fieldLink RX5 59 "Opticmesh" "lightCount" "I") (by decide +kernel)) dX5_lightOnFoundWays_56 ?_
        obtain ⟨h59, hw⟩ := hw
        refine q_aald9 (k := 184) (n := 60) (i := (gI S23 0 4)) hx hb hK hP (by decide) (kk_184) (ll_184) h59 dX5_lightOnFoundWays_59 ?_
        rw [rf_some (hF.1 184 _ _ (fx_184 (vp_lt h59)))]
        refine lv_astore (lv' := [(4, .ref (b0 + (185 + 3 * ((gI S23 0 4).toNatClampNeg)))), (3, .ref (b0 + q4)), (0, .ref (b0 + 0)), (1, .int x1), (2, .int x2)]) hx hb dX5_lightOnFoundWays_60 hl (by decide) rfl (fun ls hl => ?_)
        refine lv_aload_n hx hb dX5_lightOnFoundWays_62 rfl (lv_at hl 2 rfl) ?_
        refine lv_dup hx hb dX5_lightOnFoundWays_63 rfl ?_
        refine gf_5_4 (k := 0) hx hb hts (by decide +kernel) hown hK hP (by decide) (kk_0) (hts (.fieldLink RX5 59 "Opticmesh" "lightCount" "I") (by decide +kernel)) dX5_lightOnFoundWays_64 ?_
        refine lv_iconst (v := 1) hx hb dX5_lightOnFoundWays_67 (by decide) ?_
        refine lv_iadd hx hb dX5_lightOnFoundWays_68 ?_
        refine pf_5_4 (k := 0) (x := ((gI S23 0 4) + 1)) hx hb hts (by decide +kernel) hown hK hP hS (by decide) (kk_0) (hts (.fieldLink RX5 59 "Opticmesh" "lightCount" "I") (by decide +kernel)) dX5_lightOnFoundWays_69 (fun H locs hz hP hS => ?_)
        have hF : Fx (sI S23 0 4 ((gI S23 0 4) + 1)) := Fx.sI hF _ _ _
        generalize eS69 : sI S23 0 4 ((gI S23 0 4) + 1) = S69 at hP hF
        have hw := hw S69 eS69.symm
        refine lv_aload hx hb dX5_lightOnFoundWays_72 (lv_at hl 0 rfl) ?_
        refine lv_iload_n hx hb dX5_lightOnFoundWays_74 rfl (lv_at hl 3 rfl) ?_
        refine lv_iload_n hx hb dX5_lightOnFoundWays_75 rfl (lv_at hl 4 rfl) ?_
        refine lv_aload_n hx hb dX5_lightOnFoundWays_76 rfl (lv_at hl 1 rfl) ?_
        refine lv_aload_n hx hb dX5_lightOnFoundWays_77 rfl (lv_at hl 2 rfl) ?_
        refine gf_5_1 (k := 0) hx hb hts (by decide +kernel) hown hK hP (by decide) (kk_0) (q := 5) (hF.1 0 1 5 ff_0_1) (hts (.fieldLink RX5 21 "Opticmesh" "finder" "LOpticmesh$WayFinder;") (by decide +kernel)) dX5_lightOnFoundWays_78 ?_
        rcases hq81 : gR S69 5 1 with _ | q81
        · have hw := hw.1 hq81
          refine gn_4_1 (k := 5) hx hb hts (by decide +kernel) hown hK hP (by decide) (kk_5) hq81 (hts (.fieldLink RX5 166 "Opticmesh$WayFinder" "second" "LOpticmesh$Way;") (by decide +kernel)) dX5_lightOnFoundWays_81 ?_
          refine q_call (va_runV (As := [.int x1, .int x2, .ref (b0 + q4), .null]) (rest := []) ⟨hx, hb, hml, hown, hts⟩ (c_X1_start_n l D cy b0 S69 (185 + 3 * ((gI S23 0 4).toNatClampNeg)) x1 x2 q4 (kd_Li (vp_lt h59)) hk_q4 _ hw) (cwV 4 hts gX5_lightOnFoundWays_X1_start rfl rfl rfl (by decide +kernel) ⟨(Nat.le_of_ble_eq_true rfl), (Nat.le_of_ble_eq_true rfl)⟩) (q_pV hW hP hF hS (k := (185 + 3 * ((gI S23 0 4).toNatClampNeg))) (ci := 1) (kd_N (kd_Li (vp_lt h59)) (by decide)) (cell_1 (kd_Li (vp_lt h59))) rfl [.int x1, .int x2, .ref (b0 + q4), .null]) rfl rfl hl.1 rfl (lv_room (Nat.le_of_ble_eq_true rfl)) dX5_lightOnFoundWays_84 ⟨(Nat.le_of_ble_eq_true rfl), (Nat.le_of_ble_eq_true rfl)⟩) hS (fun v84 S84 t84 H locs hh hp hB hz hk9 hS => ?_)
          obtain ⟨rfl, hw⟩ := hp
          have hP : HP D cy b0 NALL S84 H := by rw [← hh]; exact hB.1
          have hF := hB.2
          try dsimp only at hw
          refine W.eq (g2 := F0 m 87 ls []) rfl ?_
          refine lv_aload hx hb dX5_lightOnFoundWays_87 (lv_at hl 0 rfl) ?_
          refine vx_ret ?_
          exact q_aretR (v := (185 + 3 * ((gI S23 0 4).toNatClampNeg))) hx hb hr hP hF hS (kd_Li (vp_lt h59)) hw dX5_lightOnFoundWays_89 hlocks
        · have hw := hw.2 q81 hq81
          have hk_q81 : kd q81 = 3 := (hF.2.2.1 q81 hq81)
          refine gf_4_1 (k := 5) hx hb hts (by decide +kernel) hown hK hP (by decide) (kk_5) (q := q81) hq81 (hts (.fieldLink RX5 166 "Opticmesh$WayFinder" "second" "LOpticmesh$Way;") (by decide +kernel)) dX5_lightOnFoundWays_81 ?_
          refine q_call (va_runV (As := [.int x1, .int x2, .ref (b0 + q4), .ref (b0 + q81)]) (rest := []) ⟨hx, hb, hml, hown, hts⟩ (c_X1_start_s l D cy b0 S69 (185 + 3 * ((gI S23 0 4).toNatClampNeg)) x1 x2 q4 q81 (kd_Li (vp_lt h59)) hk_q4 hk_q81 _ hw) (cwV 4 hts gX5_lightOnFoundWays_X1_start rfl rfl rfl (by decide +kernel) ⟨(Nat.le_of_ble_eq_true rfl), (Nat.le_of_ble_eq_true rfl)⟩) (q_pV hW hP hF hS (k := (185 + 3 * ((gI S23 0 4).toNatClampNeg))) (ci := 1) (kd_N (kd_Li (vp_lt h59)) (by decide)) (cell_1 (kd_Li (vp_lt h59))) rfl [.int x1, .int x2, .ref (b0 + q4), .ref (b0 + q81)]) rfl rfl hl.1 rfl (lv_room (Nat.le_of_ble_eq_true rfl)) dX5_lightOnFoundWays_84 ⟨(Nat.le_of_ble_eq_true rfl), (Nat.le_of_ble_eq_true rfl)⟩) hS (fun v84 S84 t84 H locs hh hp hB hz hk9 hS => ?_)
          obtain ⟨rfl, hw⟩ := hp
          have hP : HP D cy b0 NALL S84 H := by rw [← hh]; exact hB.1
          have hF := hB.2
          try dsimp only at hw
          refine W.eq (g2 := F0 m 87 ls []) rfl ?_
          refine lv_aload hx hb dX5_lightOnFoundWays_87 (lv_at hl 0 rfl) ?_
          refine vx_ret ?_
          exact q_aretR (v := (185 + 3 * ((gI S23 0 4).toNatClampNeg))) hx hb hr hP hF hS (kd_Li (vp_lt h59)) hw dX5_lightOnFoundWays_89 hlocks
      · rw [if_neg c37] at hw
        exact j40 S23  _ _ _ hw hP hF hS (lv_sub hl [] rfl)
set_option maxHeartbeats 4000000 in
set_option maxRecDepth 100000 in
theorem c_X5_lightWithRoom (l : Launch) (D : va_G) (cy : Nat → ClassId) (b0 : Nat) (S : St) (x1 : Int32) (x2 : Int32) (x3 : Int32) (x4 : Bool)  (P : Option Nat → St → Prop) (hw : wp_X5_lightWithRoom S x1 x2 x3 x4 P) : Met l yX5_lightWithRoom wsX5_lightWithRoom rm_X5_lightWithRoom (va_Pc [.ref (b0 + 0), .int x1, .int x2, .int x3, .int (b2i x4)] (Wd D cy b0 NALL S)) (QC (Pn b0 1 P) (Wb D cy b0 NALL) b0) 0 0 (AA b0) := by
  refine Met.ofW (cc := cX5_lightWithRoom) (maxL := 7) (ret := (some (.object "Opticmesh$Light"))) (by decide) rfl ?_
  intro p e s m args below meth c s₁ B hml hv
  obtain ⟨hargs, hW, hP, hF⟩ := hv
  have hx := B.exec
  have hb := B.bytes
  have hr := B.returns
  have hts := atoms_spec (ws := wsX5_lightWithRoom) B.pre
  have hown : s.vm.findClass RX5 = some m.cls := findClass_of_methodNamed B.named
  have hlocks := B.notSynchronized
  have hK := hW.1
  have hS : va_S (AA b0) s.heap s.heap [] := va_S.rf
  have hE : entryFrame m args 7 = F0 m 0 ((lg_sl [.ref (b0 + 0), .int x1, .int x2, .int x3, .int (b2i x4)] ++ List.replicate (7 - (lg_sl [.ref (b0 + 0), .int x1, .int x2, .int x3, .int (b2i x4)]).length) Slot.unset).toArray) [] := by rw [hargs]; exact lg_entry_eq m _ _
  rw [hE]
  have hl := lv_entry [.ref (b0 + 0), .int x1, .int x2, .int x3, .int (b2i x4)] (n := 7) (Nat.le_of_ble_eq_true rfl)
  generalize (lg_sl [.ref (b0 + 0), .int x1, .int x2, .int x3, .int (b2i x4)] ++ List.replicate (7 - (lg_sl [.ref (b0 + 0), .int x1, .int x2, .int x3, .int (b2i x4)]).length) Slot.unset).toArray = ls at hl ⊢
  have hl : lv_has ls 7 [(0, .ref (b0 + 0)), (1, .int x1), (2, .int x2), (3, .int x3), (4, .int (b2i x4))] := hl
  have j3 : ∀ (n3 : Nat), ∀ (S : St) (a5 : Int32), ∀ (H : Heap) (locs : List Loc) (ls : Array Slot), wp_X5_lightWithRoom_3 x1 x2 x3 x4 P n3 S a5 → HP D cy b0 NALL S H → Fx S → va_S (AA b0) s.heap H locs → lv_has ls 7 [(0, .ref (b0 + 0)), (1, .int x1), (2, .int x2), (3, .int x3), (4, .int (b2i x4)), (5, .int a5)] → W p l e rm_X5_lightWithRoom s m args below meth c H locs 0 0 (MQ below (QC (Pn b0 1 P) (Wb D cy b0 NALL) b0) args s 0 0 (AA b0)) (F0 m 3 ls []) := by
    intro n3
    induction n3 with
    | zero => intro S a5  H locs ls hw _ _ _ _; exact False.elim hw
    | succ n3 ih3 =>
      have j71 : ∀ (S : St) (a5 : Int32), ∀ (H : Heap) (locs : List Loc) (ls : Array Slot), wp_X5_lightWithRoom_71 x1 x2 x3 x4 P (fun S a5 => wp_X5_lightWithRoom_3 x1 x2 x3 x4 P n3 S a5) S a5 → HP D cy b0 NALL S H → Fx S → va_S (AA b0) s.heap H locs → lv_has ls 7 [(0, .ref (b0 + 0)), (1, .int x1), (2, .int x2), (3, .int x3), (4, .int (b2i x4)), (5, .int a5)] → W p l e rm_X5_lightWithRoom s m args below meth c H locs 0 0 (MQ below (QC (Pn b0 1 P) (Wb D cy b0 NALL) b0) args s 0 0 (AA b0)) (F0 m 71 ls []) := by
        intro S a5  H locs ls hw hP hF hS hl
        unfold wp_X5_lightWithRoom_71 at hw
        obtain ⟨y71, e71⟩ : ∃ z : Int32, z = a5 + 1 := ⟨_, rfl⟩
        have hw := hw y71 e71
        refine lv_iinc (v := y71) (lv' := [(5, .int y71), (0, .ref (b0 + 0)), (1, .int x1), (2, .int x2), (3, .int x3), (4, .int (b2i x4))]) hx hb dX5_lightWithRoom_71 hl (k := 5) rfl (by rw [e71]; rfl) (by decide) rfl (fun ls hl => ?_)
        refine lv_goto (tgt := 3) hx hb dX5_lightWithRoom_74 (by decide) ?_
        exact ih3 S y71  _ _ _ hw hP hF hS (lv_sub hl [1, 2, 3, 4, 5, 0] rfl)
      intro S a5  H locs ls hw hP hF hS hl
      rw [wp_X5_lightWithRoom_3] at hw
      refine lv_iload hx hb dX5_lightWithRoom_3 (lv_at hl 5 rfl) ?_
      refine lv_aload_n hx hb dX5_lightWithRoom_5 rfl (lv_at hl 0 rfl) ?_
      refine gf_5_4 (k := 0) hx hb hts (by decide +kernel) hown hK hP (by decide) (kk_0) (hts (.fieldLink RX5 59 "Opticmesh" "lightCount" "I") (by decide +kernel)) dX5_lightWithRoom_6 ?_
      refine lv_icmp_ge (x := a5) (y := (gI S 0 4)) (tgt := 77) hx hb dX5_lightWithRoom_9 (by decide) (fun c9 => ?_) (fun c9 => ?_)
      · rw [if_pos c9] at hw
        refine lv_null hx hb dX5_lightWithRoom_77 ?_
        exact q_aretN hx hb hr hP hF hS hw dX5_lightWithRoom_78 hlocks
      · rw [if_neg c9] at hw
        refine lv_aload_n hx hb dX5_lightWithRoom_12 rfl (lv_at hl 0 rfl) ?_
        refine gf_5_3 (k := 0) hx hb hts (by decide +kernel) hown hK hP (by decide) (kk_0) (q := 184) (hF.1 0 3 184 ff_0_3) (hts (.fieldLink RX5 34 "Opticmesh" "lightList" "[LOpticmesh$Light;") (by decide +kernel)) dX5_lightWithRoom_13 ?_
        refine lv_iload hx hb dX5_lightWithRoom_16 (lv_at hl 5 rfl) ?_
        obtain ⟨h18, hw⟩ := hw
        refine q_aald9 (k := 184) (n := 60) (i := a5) hx hb hK hP (by decide) (kk_184) (ll_184) h18 dX5_lightWithRoom_18 ?_
        rw [rf_some (hF.1 184 _ _ (fx_184 (vp_lt h18)))]
        refine lv_astore (lv' := [(6, .ref (b0 + (185 + 3 * (a5.toNatClampNeg)))), (0, .ref (b0 + 0)), (1, .int x1), (2, .int x2), (3, .int x3), (4, .int (b2i x4)), (5, .int a5)]) hx hb dX5_lightWithRoom_19 hl (by decide) rfl (fun ls hl => ?_)
        refine lv_aload hx hb dX5_lightWithRoom_21 (lv_at hl 0 rfl) ?_
        refine lv_aload_n hx hb dX5_lightWithRoom_23 rfl (lv_at hl 1 rfl) ?_
        refine gf_5_0 (k := 0) hx hb hts (by decide +kernel) hown hK hP (by decide) (kk_0) (q := 1) (hF.1 0 0 1 ff_0_0) (hts (.fieldLink RX5 12 "Opticmesh" "network" "LOpticmesh$Network;") (by decide +kernel)) dX5_lightWithRoom_24 ?_
        refine gf_2_4 (k := 1) hx hb hts (by decide +kernel) hown hK hP (by decide) (kk_1) (hts (.fieldLink RX5 102 "Opticmesh$Network" "cutFibres" "I") (by decide +kernel)) dX5_lightWithRoom_27 ?_
        refine q_call (va_runV (As := [.int (gI S 1 4)]) (rest := []) ⟨hx, hb, hml, hown, hts⟩ (c_X1_isUp l D cy b0 S (185 + 3 * (a5.toNatClampNeg)) (gI S 1 4) (kd_Li (vp_lt h18)) _ hw) (cwV 1 hts gX5_lightWithRoom_X1_isUp rfl rfl rfl (by decide +kernel) ⟨(Nat.le_of_ble_eq_true rfl), (Nat.le_of_ble_eq_true rfl)⟩) (q_pV hW hP hF hS (k := (185 + 3 * (a5.toNatClampNeg))) (ci := 1) (kd_N (kd_Li (vp_lt h18)) (by decide)) (cell_1 (kd_Li (vp_lt h18))) rfl [.int (gI S 1 4)]) rfl rfl hl.1 rfl (lv_room (Nat.le_of_ble_eq_true rfl)) dX5_lightWithRoom_30 ⟨(Nat.le_of_ble_eq_true rfl), (Nat.le_of_ble_eq_true rfl)⟩) hS (fun v30 S30 t30 H locs hh hp hB hz hk9 hS => ?_)
        obtain ⟨r30, rfl, hw⟩ := hp
        have hP : HP D cy b0 NALL S30 H := by rw [← hh]; exact hB.1
        have hF := hB.2
        try dsimp only at hw
        refine W.eq (g2 := F0 m 33 ls [.int (b2i r30)]) rfl ?_
        refine lv_if_eq (x := b2i r30) (tgt := 71) hx hb dX5_lightWithRoom_33 (by decide) (fun c33 => ?_) (fun c33 => ?_)
        · have c33 := b2i_z c33
          rw [if_neg c33] at hw
          exact j71 S30 a5  _ _ _ hw hP hF hS (lv_sub hl [1, 2, 3, 4, 5, 6] rfl)
        · have c33 := b2i_n c33
          rw [if_pos c33] at hw
          refine lv_aload hx hb dX5_lightWithRoom_36 (lv_at hl 0 rfl) ?_
          refine lv_iload_n hx hb dX5_lightWithRoom_38 rfl (lv_at hl 2 rfl) ?_
          refine lv_iload_n hx hb dX5_lightWithRoom_39 rfl (lv_at hl 3 rfl) ?_
          refine q_call (va_runV (As := [.int x1, .int x2]) (rest := []) ⟨hx, hb, hml, hown, hts⟩ (c_X1_joins l D cy b0 S30 (185 + 3 * (a5.toNatClampNeg)) x1 x2 (kd_Li (vp_lt h18)) _ hw) (cwV 2 hts gX5_lightWithRoom_X1_joins rfl rfl rfl (by decide +kernel) ⟨(Nat.le_of_ble_eq_true rfl), (Nat.le_of_ble_eq_true rfl)⟩) (q_pV hW hP hF hS (k := (185 + 3 * (a5.toNatClampNeg))) (ci := 1) (kd_N (kd_Li (vp_lt h18)) (by decide)) (cell_1 (kd_Li (vp_lt h18))) rfl [.int x1, .int x2]) rfl rfl hl.1 rfl (lv_room (Nat.le_of_ble_eq_true rfl)) dX5_lightWithRoom_40 ⟨(Nat.le_of_ble_eq_true rfl), (Nat.le_of_ble_eq_true rfl)⟩) hS (fun v40 S40 t40 H locs hh hp hB hz hk9 hS => ?_)
          obtain ⟨r40, rfl, hw⟩ := hp
          have hP : HP D cy b0 NALL S40 H := by rw [← hh]; exact hB.1
          have hF := hB.2
          try dsimp only at hw
          refine W.eq (g2 := F0 m 43 ls [.int (b2i r40)]) rfl ?_
          refine lv_if_eq (x := b2i r40) (tgt := 71) hx hb dX5_lightWithRoom_43 (by decide) (fun c43 => ?_) (fun c43 => ?_)
          · have c43 := b2i_z c43
            rw [if_neg c43] at hw
            exact j71 S40 a5  _ _ _ hw hP hF hS (lv_sub hl [1, 2, 3, 4, 5, 6] rfl)
          · have c43 := b2i_n c43
            rw [if_pos c43] at hw
            refine lv_aload hx hb dX5_lightWithRoom_46 (lv_at hl 0 rfl) ?_
            refine gf_1_5 (k := (185 + 3 * (a5.toNatClampNeg))) hx hb hts (by decide +kernel) hown hK hP (kd_N (kd_Li (vp_lt h18)) (by decide)) (kd_Li (vp_lt h18)) (hts (.fieldLink RX5 206 "Opticmesh$Light" "isProtected" "Z") (by decide +kernel)) dX5_lightWithRoom_48 ?_
            refine lv_iload hx hb dX5_lightWithRoom_51 (lv_at hl 5 rfl) ?_
            refine lv_icmp_ne (x := (gI S40 (185 + 3 * (a5.toNatClampNeg)) 5)) (y := (b2i x4)) (tgt := 71) hx hb dX5_lightWithRoom_53 (by decide) (fun c53 => ?_) (fun c53 => ?_)
            · rw [if_neg c53] at hw
              exact j71 S40 a5  _ _ _ hw hP hF hS (lv_sub hl [1, 2, 3, 4, 5, 6] rfl)
            · rw [if_pos c53] at hw
              refine lv_aload hx hb dX5_lightWithRoom_56 (lv_at hl 0 rfl) ?_
              refine gf_1_6 (k := (185 + 3 * (a5.toNatClampNeg))) hx hb hts (by decide +kernel) hown hK hP (kd_N (kd_Li (vp_lt h18)) (by decide)) (kd_Li (vp_lt h18)) (hts (.fieldLink RX5 155 "Opticmesh$Light" "units" "I") (by decide +kernel)) dX5_lightWithRoom_58 ?_
              refine lv_iload_n hx hb dX5_lightWithRoom_61 rfl (lv_at hl 4 rfl) ?_
              refine lv_iadd hx hb dX5_lightWithRoom_62 ?_
              refine lv_bipush (v := 10) hx hb dX5_lightWithRoom_63 (by decide) ?_
              refine lv_icmp_gt (x := ((gI S40 (185 + 3 * (a5.toNatClampNeg)) 6) + x3)) (y := 10) (tgt := 71) hx hb dX5_lightWithRoom_65 (by decide) (fun c65 => ?_) (fun c65 => ?_)
              · rw [if_pos c65] at hw
                exact j71 S40 a5  _ _ _ hw hP hF hS (lv_sub hl [1, 2, 3, 4, 5, 6] rfl)
              · rw [if_neg c65] at hw
                refine lv_aload hx hb dX5_lightWithRoom_68 (lv_at hl 0 rfl) ?_
                exact q_aretS (v := (185 + 3 * (a5.toNatClampNeg))) hx hb hr hP hF hS (kd_Li (vp_lt h18)) hw dX5_lightWithRoom_70 hlocks
  unfold wp_X5_lightWithRoom at hw
  refine lv_iconst (v := 0) hx hb dX5_lightWithRoom_0 (by decide) ?_
  refine lv_istore (lv' := [(5, .int 0), (0, .ref (b0 + 0)), (1, .int x1), (2, .int x2), (3, .int x3), (4, .int (b2i x4))]) hx hb dX5_lightWithRoom_1 hl (by decide) rfl (fun ls hl => ?_)
  obtain ⟨n3, hw⟩ := hw
  exact j3 n3 S 0  _ _ _ hw hP hF hS (lv_sub hl [1, 2, 3, 4, 5, 0] rfl)
set_option maxHeartbeats 4000000 in
set_option maxRecDepth 100000 in
theorem c_X5_request (l : Launch) (hlt : l.stackTraces = false) (D : va_G) (cy : Nat → ClassId) (b0 : Nat) (S : St) (x1 : Int32) (x2 : Int32) (x3 : Int32) (x4 : Int32)  (P : Int32 → St → Prop) (E : String → St → Prop) (hw : wp_X5_request S x1 x2 x3 x4 P E) : vx_Met l yX5_request wsX5_request rm_X5_request (va_Pc [.ref (b0 + 0), .int x1, .int x2, .int x3, .int x4] (Wd D cy b0 NALL S)) (QC (Pi P) (Wb D cy b0 NALL) b0) (XX E (Wb D cy b0 NALL) b0) 1 6 (AA b0) := by
  refine vx_ofW (cc := cX5_request) (maxL := 6) (ret := (some .int)) (by decide) rfl ?_
  intro p e s m args below meth c s₁ B hml ht9 hv
  obtain ⟨hargs, hW, hP, hF⟩ := hv
  have hx := B.exec
  have hb := B.bytes
  have hr := B.returns
  have hts := atoms_spec (ws := wsX5_request) B.pre
  have hown : s.vm.findClass RX5 = some m.cls := findClass_of_methodNamed B.named
  have hlocks := B.notSynchronized
  have hK := hW.1
  have hS : va_S (AA b0) s.heap s.heap [] := va_S.rf
  have hE : entryFrame m args 6 = F0 m 0 ((lg_sl [.ref (b0 + 0), .int x1, .int x2, .int x3, .int x4] ++ List.replicate (6 - (lg_sl [.ref (b0 + 0), .int x1, .int x2, .int x3, .int x4]).length) Slot.unset).toArray) [] := by rw [hargs]; exact lg_entry_eq m _ _
  rw [hE]
  have hl := lv_entry [.ref (b0 + 0), .int x1, .int x2, .int x3, .int x4] (n := 6) (Nat.le_of_ble_eq_true rfl)
  generalize (lg_sl [.ref (b0 + 0), .int x1, .int x2, .int x3, .int x4] ++ List.replicate (6 - (lg_sl [.ref (b0 + 0), .int x1, .int x2, .int x3, .int x4]).length) Slot.unset).toArray = ls at hl ⊢
  have hl : lv_has ls 6 [(0, .ref (b0 + 0)), (1, .int x1), (2, .int x2), (3, .int x3), (4, .int x4)] := hl
  have j28 : ∀ (S : St) , ∀ (H : Heap) (locs : List Loc) (ls : Array Slot), wp_X5_request_28 x1 x2 x3 x4 P E S → HP D cy b0 NALL S H → Fx S → va_S (AA b0) s.heap H locs → lv_has ls 6 [] → W p l e rm_X5_request s m args below meth c H locs 0 0 (vx_MQ below (QC (Pi P) (Wb D cy b0 NALL) b0) (XX E (Wb D cy b0 NALL) b0) args s 1 6 (AA b0)) (F0 m 28 ls []) := by
    intro S  H locs ls hw hP hF hS hl
    unfold wp_X5_request_28 at hw
    exact q_throw (cls := eA) (text := "a request has two nodes, a demand of 1 to 10 and a rule of 0 to 2") (Ts := wsX5_request) hx hb hlt hts hown (by decide +kernel) (hts (.classLink RX5 48 eA) (by decide +kernel)) (hts (.initialized eA) (by decide +kernel)) (by decide) (fun w h => List.mem_cons_of_mem _ (List.mem_append_left _ (List.mem_append_right _ h))) thA2 (by decide) thA3 hW hP hF hS (hl.1.trans hml.symm) dX5_request_28 dX5_request_31 dX5_request_32 dX5_request_34 dX5_request_37 ht9 (Nat.le_of_ble_eq_true rfl) (Nat.le_of_ble_eq_true rfl) (Nat.le_of_ble_eq_true rfl) (Nat.le_of_ble_eq_true rfl) hlocks hw (by decide) (by decide)
  have j98 : ∀ (S : St) (a5 : Nat), kd a5 = 1 → ∀ (H : Heap) (locs : List Loc) (ls : Array Slot), wp_X5_request_98 x1 x2 x3 x4 P E S a5 → HP D cy b0 NALL S H → Fx S → va_S (AA b0) s.heap H locs → lv_has ls 6 [(0, .ref (b0 + 0)), (3, .int x3), (5, .ref (b0 + a5))] → W p l e rm_X5_request s m args below meth c H locs 0 0 (vx_MQ below (QC (Pi P) (Wb D cy b0 NALL) b0) (XX E (Wb D cy b0 NALL) b0) args s 1 6 (AA b0)) (F0 m 98 ls []) := by
    intro S a5 hk_a5 H locs ls hw hP hF hS hl
    unfold wp_X5_request_98 at hw
    refine lv_aload hx hb dX5_request_98 (lv_at hl 2 rfl) ?_
    refine lv_dup hx hb dX5_request_100 rfl ?_
    refine gf_1_6 (k := a5) hx hb hts (by decide +kernel) hown hK hP (kd_N hk_a5 (by decide)) hk_a5 (hts (.fieldLink RX5 155 "Opticmesh$Light" "units" "I") (by decide +kernel)) dX5_request_101 ?_
    refine lv_iload_n hx hb dX5_request_104 rfl (lv_at hl 1 rfl) ?_
    refine lv_iadd hx hb dX5_request_105 ?_
    refine pf_1_6 (k := a5) (x := ((gI S a5 6) + x3)) hx hb hts (by decide +kernel) hown hK hP hS (kd_N hk_a5 (by decide)) hk_a5 (hts (.fieldLink RX5 155 "Opticmesh$Light" "units" "I") (by decide +kernel)) dX5_request_106 (fun H locs hz hP hS => ?_)
    have hF : Fx (sI S a5 6 ((gI S a5 6) + x3)) := Fx.sI hF _ _ _
    generalize eS106 : sI S a5 6 ((gI S a5 6) + x3) = S106 at hP hF
    have hw := hw S106 eS106.symm
    refine lv_aload_n hx hb dX5_request_109 rfl (lv_at hl 0 rfl) ?_
    refine gf_5_5 (k := 0) hx hb hts (by decide +kernel) hown hK hP (by decide) (kk_0) (q := 365) (hF.1 0 5 365 ff_0_5) (hts (.fieldLink RX5 41 "Opticmesh" "carriers" "[LOpticmesh$Light;") (by decide +kernel)) dX5_request_110 ?_
    refine lv_aload_n hx hb dX5_request_113 rfl (lv_at hl 0 rfl) ?_
    refine gf_5_7 (k := 0) hx hb hts (by decide +kernel) hown hK hP (by decide) (kk_0) (hts (.fieldLink RX5 63 "Opticmesh" "requestCount" "I") (by decide +kernel)) dX5_request_114 ?_
    refine lv_aload hx hb dX5_request_117 (lv_at hl 2 rfl) ?_
    obtain ⟨h119, hw⟩ := hw
    refine q_aast (z := 0) (t0 := 2) (ci := 1) (r := (RX1, TX1, 7)) (k := 365) (v := a5) (n := 60) (i := (gI S106 0 7)) hx hb hK hP hS (by decide) (by decide) rfl (fun S => cell_9 kk_365) rfl (kd_N hk_a5 (by decide)) (cell_1 hk_a5) h119 dX5_request_119 (fun H locs hz hP hS => ?_)
    have hF : Fx (sR S106 365 ((gI S106 0 7).toNatClampNeg) (some a5)) := (Fx.f365 hF _ (v := some a5) (fun q h => by cases h; exact hk_a5))
    generalize eS119 : sR S106 365 ((gI S106 0 7).toNatClampNeg) (some a5) = S119 at hP hF
    have hw := hw S119 eS119.symm
    refine lv_aload_n hx hb dX5_request_120 rfl (lv_at hl 0 rfl) ?_
    refine gf_5_6 (k := 0) hx hb hts (by decide +kernel) hown hK hP (by decide) (kk_0) (q := 366) (hF.1 0 6 366 ff_0_6) (hts (.fieldLink RX5 44 "Opticmesh" "demands" "[I") (by decide +kernel)) dX5_request_121 ?_
    refine lv_aload_n hx hb dX5_request_124 rfl (lv_at hl 0 rfl) ?_
    refine gf_5_7 (k := 0) hx hb hts (by decide +kernel) hown hK hP (by decide) (kk_0) (hts (.fieldLink RX5 63 "Opticmesh" "requestCount" "I") (by decide +kernel)) dX5_request_125 ?_
    refine lv_iload_n hx hb dX5_request_128 rfl (lv_at hl 1 rfl) ?_
    obtain ⟨h129, hw⟩ := hw
    refine q_iast (k := 366) (n := 60) (i := (gI S119 0 7)) (x := x3) hx hb hK hP hS (by decide) (kk_366) (ll_366) h129 dX5_request_129 (fun H locs hz hP hS => ?_)
    have hF : Fx (sI S119 366 ((gI S119 0 7).toNatClampNeg) x3) := Fx.sI hF _ _ _
    generalize eS129 : sI S119 366 ((gI S119 0 7).toNatClampNeg) x3 = S129 at hP hF
    have hw := hw S129 eS129.symm
    refine lv_aload_n hx hb dX5_request_130 rfl (lv_at hl 0 rfl) ?_
    refine lv_dup hx hb dX5_request_131 rfl ?_
    refine gf_5_7 (k := 0) hx hb hts (by decide +kernel) hown hK hP (by decide) (kk_0) (hts (.fieldLink RX5 63 "Opticmesh" "requestCount" "I") (by decide +kernel)) dX5_request_132 ?_
    refine lv_dup_x1 hx hb dX5_request_135 rfl rfl ?_
    refine lv_iconst (v := 1) hx hb dX5_request_136 (by decide) ?_
    refine lv_iadd hx hb dX5_request_137 ?_
    refine pf_5_7 (k := 0) (x := ((gI S129 0 7) + 1)) hx hb hts (by decide +kernel) hown hK hP hS (by decide) (kk_0) (hts (.fieldLink RX5 63 "Opticmesh" "requestCount" "I") (by decide +kernel)) dX5_request_138 (fun H locs hz hP hS => ?_)
    have hF : Fx (sI S129 0 7 ((gI S129 0 7) + 1)) := Fx.sI hF _ _ _
    generalize eS138 : sI S129 0 7 ((gI S129 0 7) + 1) = S138 at hP hF
    have hw := hw S138 eS138.symm
    refine vx_ret ?_
    exact q_iret hx hb hr hP hF hS hw dX5_request_141 hlocks
  have j72 : ∀ (S : St) (t4 : Bool), ∀ (H : Heap) (locs : List Loc) (ls : Array Slot), wp_X5_request_72 x1 x2 x3 x4 P E S t4 → HP D cy b0 NALL S H → Fx S → va_S (AA b0) s.heap H locs → lv_has ls 6 [(0, .ref (b0 + 0)), (1, .int x1), (2, .int x2), (3, .int x3), (4, .int x4)] → W p l e rm_X5_request s m args below meth c H locs 0 0 (vx_MQ below (QC (Pi P) (Wb D cy b0 NALL) b0) (XX E (Wb D cy b0 NALL) b0) args s 1 6 (AA b0)) (F0 m 72 ls [.int (b2i t4), .int x3, .int x2, .int x1, .ref (b0 + 0)]) := by
    intro S t4  H locs ls hw hP hF hS hl
    unfold wp_X5_request_72 at hw
    refine q_call (va_runV (As := [.int x1, .int x2, .int x3, .int (b2i t4)]) (rest := []) ⟨hx, hb, hml, hown, hts⟩ (c_X5_lightWithRoom l D cy b0 S x1 x2 x3 t4 _ hw) (cwV 4 hts gX5_request_X5_lightWithRoom rfl rfl rfl (by decide +kernel) ⟨(Nat.le_of_ble_eq_true rfl), (Nat.le_of_ble_eq_true rfl)⟩) (q_pV hW hP hF hS (k := 0) (ci := 5) (by decide) (cell_5 (kk_0)) rfl [.int x1, .int x2, .int x3, .int (b2i t4)]) rfl rfl hl.1 rfl (lv_room (Nat.le_of_ble_eq_true rfl)) dX5_request_72 ⟨(Nat.le_of_ble_eq_true rfl), (Nat.le_of_ble_eq_true rfl)⟩) hS (fun v72 S72 t72 H locs hh hp hB hz hk9 hS => ?_)
    obtain ⟨r72, rfl, hk_r72, hw⟩ := hp
    have hP : HP D cy b0 NALL S72 H := by rw [← hh]; exact hB.1
    have hF := hB.2
    try dsimp only at hw
    rcases r72 with _ | q72
    · have hw := hw.1 rfl
      refine W.eq (g2 := F0 m 75 ls [.null]) rfl ?_
      refine lv_astoreN (lv' := [(5, .null), (0, .ref (b0 + 0)), (1, .int x1), (2, .int x2), (3, .int x3), (4, .int x4)]) hx hb dX5_request_75 hl (by decide) rfl (fun ls hl => ?_)
      refine lv_aloadN hx hb dX5_request_77 (lv_at hl 0 rfl) ?_
      refine lv_ifnonnullN hx hb dX5_request_79 ?_
      refine lv_aload_n hx hb dX5_request_82 rfl (lv_at hl 1 rfl) ?_
      refine lv_iload_n hx hb dX5_request_83 rfl (lv_at hl 2 rfl) ?_
      refine lv_iload_n hx hb dX5_request_84 rfl (lv_at hl 3 rfl) ?_
      refine lv_iload hx hb dX5_request_85 (lv_at hl 5 rfl) ?_
      refine q_call (va_runV (As := [.int x1, .int x2, .int x4]) (rest := []) ⟨hx, hb, hml, hown, hts⟩ (c_X5_findWays l D cy b0 S72 x1 x2 x4 _ hw) (cwV 3 hts gX5_request_X5_findWays rfl rfl rfl (by decide +kernel) ⟨(Nat.le_of_ble_eq_true rfl), (Nat.le_of_ble_eq_true rfl)⟩) (q_pV hW hP hF hS (k := 0) (ci := 5) (by decide) (cell_5 (kk_0)) rfl [.int x1, .int x2, .int x4]) rfl rfl hl.1 rfl (lv_room (Nat.le_of_ble_eq_true rfl)) dX5_request_87 ⟨(Nat.le_of_ble_eq_true rfl), (Nat.le_of_ble_eq_true rfl)⟩) hS (fun v87 S87 t87 H locs hh hp hB hz hk9 hS => ?_)
      obtain ⟨rfl, hw⟩ := hp
      have hP : HP D cy b0 NALL S87 H := by rw [← hh]; exact hB.1
      have hF := hB.2
      try dsimp only at hw
      refine W.eq (g2 := F0 m 90 ls []) rfl ?_
      refine lv_aload_n hx hb dX5_request_90 rfl (lv_at hl 1 rfl) ?_
      refine lv_iload_n hx hb dX5_request_91 rfl (lv_at hl 2 rfl) ?_
      refine lv_iload_n hx hb dX5_request_92 rfl (lv_at hl 3 rfl) ?_
      refine q_callX (vx_runV (As := [.int x1, .int x2]) (rest := []) ⟨hx, hb, hml, hown, hts⟩ (c_X5_lightOnFoundWays l hlt D cy b0 S87 x1 x2 _ _ hw) (cwV 2 hts gX5_request_X5_lightOnFoundWays rfl rfl rfl (by decide +kernel) ⟨(Nat.le_of_ble_eq_true rfl), (Nat.le_of_ble_eq_true rfl)⟩) (q_pV hW hP hF hS (k := 0) (ci := 5) (by decide) (cell_5 (kk_0)) rfl [.int x1, .int x2]) rfl rfl hl.1 rfl (lv_room (Nat.le_of_ble_eq_true rfl)) dX5_request_93 ⟨(Nat.le_of_ble_eq_true rfl), (Nat.le_of_ble_eq_true rfl)⟩) hS (fun E93 ce q9 S93 t93 H locs hh hw hB hz hS hc9 hv9 hcl9 => ?_) (fun v93 S93 t93 H locs hh hp hB hz hk9 hS => ?_)
      · have hP : HP D cy b0 NALL S93 H := by rw [← hh]; exact hB.1
        exact q_pass ht9 hlocks hP hB.2 hS hw hc9 hv9 hcl9 (by decide) (by decide)
      · obtain ⟨r93, rfl, hk_r93, hw⟩ := hp
        have hP : HP D cy b0 NALL S93 H := by rw [← hh]; exact hB.1
        have hF := hB.2
        try dsimp only at hw
        refine W.eq (g2 := F0 m 96 ls [.ref (b0 + r93)]) rfl ?_
        refine lv_astore (lv' := [(5, .ref (b0 + r93)), (0, .ref (b0 + 0)), (1, .int x1), (2, .int x2), (3, .int x3), (4, .int x4)]) hx hb dX5_request_96 hl (by decide) rfl (fun ls hl => ?_)
        exact j98 S93 r93 hk_r93 _ _ _ hw hP hF hS (lv_sub hl [1, 4, 0] rfl)
    · have hw := hw.2 q72 rfl
      have hk_q72 : kd q72 = 1 := hk_r72 q72 rfl
      refine W.eq (g2 := F0 m 75 ls [.ref (b0 + q72)]) rfl ?_
      refine lv_astore (lv' := [(5, .ref (b0 + q72)), (0, .ref (b0 + 0)), (1, .int x1), (2, .int x2), (3, .int x3), (4, .int x4)]) hx hb dX5_request_75 hl (by decide) rfl (fun ls hl => ?_)
      refine lv_aload hx hb dX5_request_77 (lv_at hl 0 rfl) ?_
      refine lv_ifnonnull (tgt := 98) hx hb dX5_request_79 (by decide) ?_
      exact j98 S72 q72 hk_q72 _ _ _ hw hP hF hS (lv_sub hl [1, 4, 0] rfl)
  unfold wp_X5_request at hw
  refine lv_aload_n hx hb dX5_request_0 rfl (lv_at hl 0 rfl) ?_
  refine lv_iload_n hx hb dX5_request_1 rfl (lv_at hl 1 rfl) ?_
  refine lv_iload_n hx hb dX5_request_2 rfl (lv_at hl 2 rfl) ?_
  refine q_call (va_runV (As := [.int x1, .int x2]) (rest := []) ⟨hx, hb, hml, hown, hts⟩ (c_X5_areTwoNodes l D cy b0 S x1 x2 _ hw) (cwV 2 hts gX5_request_X5_areTwoNodes rfl rfl rfl (by decide +kernel) ⟨(Nat.le_of_ble_eq_true rfl), (Nat.le_of_ble_eq_true rfl)⟩) (q_pV hW hP hF hS (k := 0) (ci := 5) (by decide) (cell_5 (kk_0)) rfl [.int x1, .int x2]) rfl rfl hl.1 rfl (lv_room (Nat.le_of_ble_eq_true rfl)) dX5_request_3 ⟨(Nat.le_of_ble_eq_true rfl), (Nat.le_of_ble_eq_true rfl)⟩) hS (fun v3 S3 t3 H locs hh hp hB hz hk9 hS => ?_)
  obtain ⟨r3, rfl, hw⟩ := hp
  have hP : HP D cy b0 NALL S3 H := by rw [← hh]; exact hB.1
  have hF := hB.2
  try dsimp only at hw
  refine W.eq (g2 := F0 m 6 ls [.int (b2i r3)]) rfl ?_
  refine lv_if_eq (x := b2i r3) (tgt := 28) hx hb dX5_request_6 (by decide) (fun c6 => ?_) (fun c6 => ?_)
  · have c6 := b2i_z c6
    rw [if_neg c6] at hw
    exact j28 S3  _ _ _ hw hP hF hS (lv_sub hl [] rfl)
  · have c6 := b2i_n c6
    rw [if_pos c6] at hw
    refine lv_iload hx hb dX5_request_9 (lv_at hl 4 rfl) ?_
    refine q_call (va_runS (As := [.int x4]) (rest := []) ⟨hx, hb, hml, hown, hts⟩ (c_X5_isRule l D cy b0 S3 x4 _ hw) (va_cwS 1 hts gX5_request_X5_isRule rfl rfl rfl (by decide +kernel) ⟨(Nat.le_of_ble_eq_true rfl), (Nat.le_of_ble_eq_true rfl)⟩) (q_pS hW hP hF hS [.int x4]) rfl rfl hl.1 rfl (lv_room (Nat.le_of_ble_eq_true rfl)) dX5_request_11 ⟨(Nat.le_of_ble_eq_true rfl), (Nat.le_of_ble_eq_true rfl)⟩) hS (fun v11 S11 t11 H locs hh hp hB hz hk9 hS => ?_)
    obtain ⟨r11, rfl, hw⟩ := hp
    have hP : HP D cy b0 NALL S11 H := by rw [← hh]; exact hB.1
    have hF := hB.2
    try dsimp only at hw
    refine W.eq (g2 := F0 m 14 ls [.int (b2i r11)]) rfl ?_
    refine lv_if_eq (x := b2i r11) (tgt := 28) hx hb dX5_request_14 (by decide) (fun c14 => ?_) (fun c14 => ?_)
    · have c14 := b2i_z c14
      rw [if_neg c14] at hw
      exact j28 S11  _ _ _ hw hP hF hS (lv_sub hl [] rfl)
    · have c14 := b2i_n c14
      rw [if_pos c14] at hw
      refine lv_iload_n hx hb dX5_request_17 rfl (lv_at hl 3 rfl) ?_
      refine lv_iconst (v := 1) hx hb dX5_request_18 (by decide) ?_
      refine lv_icmp_lt (x := x3) (y := 1) (tgt := 28) hx hb dX5_request_19 (by decide) (fun c19 => ?_) (fun c19 => ?_)
      · rw [if_pos c19] at hw
        exact j28 S11  _ _ _ hw hP hF hS (lv_sub hl [] rfl)
      · rw [if_neg c19] at hw
        refine lv_iload_n hx hb dX5_request_22 rfl (lv_at hl 3 rfl) ?_
        refine lv_bipush (v := 10) hx hb dX5_request_23 (by decide) ?_
        refine lv_icmp_le (x := x3) (y := 10) (tgt := 38) hx hb dX5_request_25 (by decide) (fun c25 => ?_) (fun c25 => ?_)
        · rw [if_pos c25] at hw
          refine lv_aload_n hx hb dX5_request_38 rfl (lv_at hl 0 rfl) ?_
          refine gf_5_7 (k := 0) hx hb hts (by decide +kernel) hown hK hP (by decide) (kk_0) (hts (.fieldLink RX5 63 "Opticmesh" "requestCount" "I") (by decide +kernel)) dX5_request_39 ?_
          refine lv_bipush (v := 60) hx hb dX5_request_42 (by decide) ?_
          refine lv_icmp_lt (x := (gI S11 0 7)) (y := 60) (tgt := 57) hx hb dX5_request_44 (by decide) (fun c44 => ?_) (fun c44 => ?_)
          · rw [if_pos c44] at hw
            refine lv_aload_n hx hb dX5_request_57 rfl (lv_at hl 0 rfl) ?_
            refine lv_iload_n hx hb dX5_request_58 rfl (lv_at hl 1 rfl) ?_
            refine lv_iload_n hx hb dX5_request_59 rfl (lv_at hl 2 rfl) ?_
            refine lv_iload_n hx hb dX5_request_60 rfl (lv_at hl 3 rfl) ?_
            refine lv_iload hx hb dX5_request_61 (lv_at hl 4 rfl) ?_
            refine lv_iconst (v := 2) hx hb dX5_request_63 (by decide) ?_
            refine lv_icmp_ne (x := x4) (y := 2) (tgt := 71) hx hb dX5_request_64 (by decide) (fun c64 => ?_) (fun c64 => ?_)
            · rw [if_neg c64] at hw
              refine lv_iconst (v := 0) hx hb dX5_request_71 (by decide) ?_
              exact j72 S11 false  _ _ _ hw hP hF hS (lv_sub hl [0, 1, 2, 3, 4] rfl)
            · rw [if_pos c64] at hw
              refine lv_iconst (v := 1) hx hb dX5_request_67 (by decide) ?_
              refine lv_goto (tgt := 72) hx hb dX5_request_68 (by decide) ?_
              exact j72 S11 true  _ _ _ hw hP hF hS (lv_sub hl [0, 1, 2, 3, 4] rfl)
          · rw [if_neg c44] at hw
            exact q_throw (cls := eS) (text := "there have been 60 requests") (Ts := wsX5_request) hx hb hlt hts hown (by decide +kernel) (hts (.classLink RX5 76 eS) (by decide +kernel)) (hts (.initialized eS) (by decide +kernel)) (by decide) (fun w h => List.mem_cons_of_mem _ (List.mem_append_right _ h)) thS2 (by decide) thS3 hW hP hF hS (hl.1.trans hml.symm) dX5_request_47 dX5_request_50 dX5_request_51 dX5_request_53 dX5_request_56 ht9 (Nat.le_of_ble_eq_true rfl) (Nat.le_of_ble_eq_true rfl) (Nat.le_of_ble_eq_true rfl) (Nat.le_of_ble_eq_true rfl) hlocks hw (by decide) (by decide)
        · rw [if_neg c25] at hw
          exact j28 S11  _ _ _ hw hP hF hS (lv_sub hl [] rfl)
set_option maxHeartbeats 4000000 in
set_option maxRecDepth 100000 in
theorem c_X5_newLength (l : Launch) (hlt : l.stackTraces = false) (D : va_G) (cy : Nat → ClassId) (b0 : Nat) (S : St) (x1 : Int32) (x2 : Int32) (x3 : Int32)  (P : Int32 → St → Prop) (E : String → St → Prop) (hw : wp_X5_newLength S x1 x2 x3 P E) : vx_Met l yX5_newLength wsX5_newLength rm_X5_newLength (va_Pc [.ref (b0 + 0), .int x1, .int x2, .int x3] (Wd D cy b0 NALL S)) (QC (Pi P) (Wb D cy b0 NALL) b0) (XX E (Wb D cy b0 NALL) b0) 1 6 (AA b0) := by
  refine vx_ofW (cc := cX5_newLength) (maxL := 6) (ret := (some .int)) (by decide) rfl ?_
  intro p e s m args below meth c s₁ B hml ht9 hv
  obtain ⟨hargs, hW, hP, hF⟩ := hv
  have hx := B.exec
  have hb := B.bytes
  have hr := B.returns
  have hts := atoms_spec (ws := wsX5_newLength) B.pre
  have hown : s.vm.findClass RX5 = some m.cls := findClass_of_methodNamed B.named
  have hlocks := B.notSynchronized
  have hK := hW.1
  have hS : va_S (AA b0) s.heap s.heap [] := va_S.rf
  have hE : entryFrame m args 6 = F0 m 0 ((lg_sl [.ref (b0 + 0), .int x1, .int x2, .int x3] ++ List.replicate (6 - (lg_sl [.ref (b0 + 0), .int x1, .int x2, .int x3]).length) Slot.unset).toArray) [] := by rw [hargs]; exact lg_entry_eq m _ _
  rw [hE]
  have hl := lv_entry [.ref (b0 + 0), .int x1, .int x2, .int x3] (n := 6) (Nat.le_of_ble_eq_true rfl)
  generalize (lg_sl [.ref (b0 + 0), .int x1, .int x2, .int x3] ++ List.replicate (6 - (lg_sl [.ref (b0 + 0), .int x1, .int x2, .int x3]).length) Slot.unset).toArray = ls at hl ⊢
  have hl : lv_has ls 6 [(0, .ref (b0 + 0)), (1, .int x1), (2, .int x2), (3, .int x3)] := hl
  have j16 : ∀ (S : St) , ∀ (H : Heap) (locs : List Loc) (ls : Array Slot), wp_X5_newLength_16 x1 x2 x3 P E S → HP D cy b0 NALL S H → Fx S → va_S (AA b0) s.heap H locs → lv_has ls 6 [] → W p l e rm_X5_newLength s m args below meth c H locs 0 0 (vx_MQ below (QC (Pi P) (Wb D cy b0 NALL) b0) (XX E (Wb D cy b0 NALL) b0) args s 1 6 (AA b0)) (F0 m 16 ls []) := by
    intro S  H locs ls hw hP hF hS hl
    unfold wp_X5_newLength_16 at hw
    exact q_throw (cls := eA) (text := "a light joins two nodes by a rule of 0 to 2") (Ts := wsX5_newLength) hx hb hlt hts hown (by decide +kernel) (hts (.classLink RX5 48 eA) (by decide +kernel)) (hts (.initialized eA) (by decide +kernel)) (by decide) (fun w h => List.mem_cons_of_mem _ (List.mem_append_left _ (List.mem_append_right _ h))) thA2 (by decide) thA3 hW hP hF hS (hl.1.trans hml.symm) dX5_newLength_16 dX5_newLength_19 dX5_newLength_20 dX5_newLength_22 dX5_newLength_25 ht9 (Nat.le_of_ble_eq_true rfl) (Nat.le_of_ble_eq_true rfl) (Nat.le_of_ble_eq_true rfl) (Nat.le_of_ble_eq_true rfl) hlocks hw (by decide) (by decide)
  unfold wp_X5_newLength at hw
  refine lv_aload_n hx hb dX5_newLength_0 rfl (lv_at hl 0 rfl) ?_
  refine lv_iload_n hx hb dX5_newLength_1 rfl (lv_at hl 1 rfl) ?_
  refine lv_iload_n hx hb dX5_newLength_2 rfl (lv_at hl 2 rfl) ?_
  refine q_call (va_runV (As := [.int x1, .int x2]) (rest := []) ⟨hx, hb, hml, hown, hts⟩ (c_X5_areTwoNodes l D cy b0 S x1 x2 _ hw) (cwV 2 hts gX5_newLength_X5_areTwoNodes rfl rfl rfl (by decide +kernel) ⟨(Nat.le_of_ble_eq_true rfl), (Nat.le_of_ble_eq_true rfl)⟩) (q_pV hW hP hF hS (k := 0) (ci := 5) (by decide) (cell_5 (kk_0)) rfl [.int x1, .int x2]) rfl rfl hl.1 rfl (lv_room (Nat.le_of_ble_eq_true rfl)) dX5_newLength_3 ⟨(Nat.le_of_ble_eq_true rfl), (Nat.le_of_ble_eq_true rfl)⟩) hS (fun v3 S3 t3 H locs hh hp hB hz hk9 hS => ?_)
  obtain ⟨r3, rfl, hw⟩ := hp
  have hP : HP D cy b0 NALL S3 H := by rw [← hh]; exact hB.1
  have hF := hB.2
  try dsimp only at hw
  refine W.eq (g2 := F0 m 6 ls [.int (b2i r3)]) rfl ?_
  refine lv_if_eq (x := b2i r3) (tgt := 16) hx hb dX5_newLength_6 (by decide) (fun c6 => ?_) (fun c6 => ?_)
  · have c6 := b2i_z c6
    rw [if_neg c6] at hw
    exact j16 S3  _ _ _ hw hP hF hS (lv_sub hl [] rfl)
  · have c6 := b2i_n c6
    rw [if_pos c6] at hw
    refine lv_iload_n hx hb dX5_newLength_9 rfl (lv_at hl 3 rfl) ?_
    refine q_call (va_runS (As := [.int x3]) (rest := []) ⟨hx, hb, hml, hown, hts⟩ (c_X5_isRule l D cy b0 S3 x3 _ hw) (va_cwS 1 hts gX5_newLength_X5_isRule rfl rfl rfl (by decide +kernel) ⟨(Nat.le_of_ble_eq_true rfl), (Nat.le_of_ble_eq_true rfl)⟩) (q_pS hW hP hF hS [.int x3]) rfl rfl hl.1 rfl (lv_room (Nat.le_of_ble_eq_true rfl)) dX5_newLength_10 ⟨(Nat.le_of_ble_eq_true rfl), (Nat.le_of_ble_eq_true rfl)⟩) hS (fun v10 S10 t10 H locs hh hp hB hz hk9 hS => ?_)
    obtain ⟨r10, rfl, hw⟩ := hp
    have hP : HP D cy b0 NALL S10 H := by rw [← hh]; exact hB.1
    have hF := hB.2
    try dsimp only at hw
    refine W.eq (g2 := F0 m 13 ls [.int (b2i r10)]) rfl ?_
    refine lv_if_ne (x := b2i r10) (tgt := 26) hx hb dX5_newLength_13 (by decide) (fun c13 => ?_) (fun c13 => ?_)
    · have c13 := b2i_n c13
      rw [if_pos c13] at hw
      refine lv_aload_n hx hb dX5_newLength_26 rfl (lv_at hl 0 rfl) ?_
      refine lv_iload_n hx hb dX5_newLength_27 rfl (lv_at hl 1 rfl) ?_
      refine lv_iload_n hx hb dX5_newLength_28 rfl (lv_at hl 2 rfl) ?_
      refine lv_iload_n hx hb dX5_newLength_29 rfl (lv_at hl 3 rfl) ?_
      refine q_call (va_runV (As := [.int x1, .int x2, .int x3]) (rest := []) ⟨hx, hb, hml, hown, hts⟩ (c_X5_findWays l D cy b0 S10 x1 x2 x3 _ hw) (cwV 3 hts gX5_newLength_X5_findWays rfl rfl rfl (by decide +kernel) ⟨(Nat.le_of_ble_eq_true rfl), (Nat.le_of_ble_eq_true rfl)⟩) (q_pV hW hP hF hS (k := 0) (ci := 5) (by decide) (cell_5 (kk_0)) rfl [.int x1, .int x2, .int x3]) rfl rfl hl.1 rfl (lv_room (Nat.le_of_ble_eq_true rfl)) dX5_newLength_30 ⟨(Nat.le_of_ble_eq_true rfl), (Nat.le_of_ble_eq_true rfl)⟩) hS (fun v30 S30 t30 H locs hh hp hB hz hk9 hS => ?_)
      obtain ⟨rfl, hw⟩ := hp
      have hP : HP D cy b0 NALL S30 H := by rw [← hh]; exact hB.1
      have hF := hB.2
      try dsimp only at hw
      refine W.eq (g2 := F0 m 33 ls []) rfl ?_
      refine lv_aload_n hx hb dX5_newLength_33 rfl (lv_at hl 0 rfl) ?_
      refine gf_5_1 (k := 0) hx hb hts (by decide +kernel) hown hK hP (by decide) (kk_0) (q := 5) (hF.1 0 1 5 ff_0_1) (hts (.fieldLink RX5 21 "Opticmesh" "finder" "LOpticmesh$WayFinder;") (by decide +kernel)) dX5_newLength_34 ?_
      rcases hq37 : gR S30 5 0 with _ | q37
      · have hw := hw.1 hq37
        refine gn_4_0 (k := 5) hx hb hts (by decide +kernel) hown hK hP (by decide) (kk_5) hq37 (hts (.fieldLink RX5 160 "Opticmesh$WayFinder" "first" "LOpticmesh$Way;") (by decide +kernel)) dX5_newLength_37 ?_
        refine lv_astoreN (lv' := [(4, .null), (0, .ref (b0 + 0)), (1, .int x1), (2, .int x2), (3, .int x3)]) hx hb dX5_newLength_40 hl (by decide) rfl (fun ls hl => ?_)
        refine lv_aloadN hx hb dX5_newLength_42 (lv_at hl 0 rfl) ?_
        refine lv_ifnonnullN hx hb dX5_newLength_44 ?_
        exact q_throw (cls := eS) (text := "there is no such way or pair of ways") (Ts := wsX5_newLength) hx hb hlt hts hown (by decide +kernel) (hts (.classLink RX5 76 eS) (by decide +kernel)) (hts (.initialized eS) (by decide +kernel)) (by decide) (fun w h => List.mem_cons_of_mem _ (List.mem_append_right _ h)) thS2 (by decide) thS3 hW hP hF hS (hl.1.trans hml.symm) dX5_newLength_47 dX5_newLength_50 dX5_newLength_51 dX5_newLength_53 dX5_newLength_56 ht9 (Nat.le_of_ble_eq_true rfl) (Nat.le_of_ble_eq_true rfl) (Nat.le_of_ble_eq_true rfl) (Nat.le_of_ble_eq_true rfl) hlocks hw (by decide) (by decide)
      · have hw := hw.2 q37 hq37
        have hk_q37 : kd q37 = 3 := (hF.2.1 q37 hq37)
        refine gf_4_0 (k := 5) hx hb hts (by decide +kernel) hown hK hP (by decide) (kk_5) (q := q37) hq37 (hts (.fieldLink RX5 160 "Opticmesh$WayFinder" "first" "LOpticmesh$Way;") (by decide +kernel)) dX5_newLength_37 ?_
        refine lv_astore (lv' := [(4, .ref (b0 + q37)), (0, .ref (b0 + 0)), (1, .int x1), (2, .int x2), (3, .int x3)]) hx hb dX5_newLength_40 hl (by decide) rfl (fun ls hl => ?_)
        refine lv_aload hx hb dX5_newLength_42 (lv_at hl 0 rfl) ?_
        refine lv_ifnonnull (tgt := 57) hx hb dX5_newLength_44 (by decide) ?_
        refine lv_aload_n hx hb dX5_newLength_57 rfl (lv_at hl 1 rfl) ?_
        refine gf_5_1 (k := 0) hx hb hts (by decide +kernel) hown hK hP (by decide) (kk_0) (q := 5) (hF.1 0 1 5 ff_0_1) (hts (.fieldLink RX5 21 "Opticmesh" "finder" "LOpticmesh$WayFinder;") (by decide +kernel)) dX5_newLength_58 ?_
        rcases hq61 : gR S30 5 1 with _ | q61
        · have hw := hw.1 hq61
          refine gn_4_1 (k := 5) hx hb hts (by decide +kernel) hown hK hP (by decide) (kk_5) hq61 (hts (.fieldLink RX5 166 "Opticmesh$WayFinder" "second" "LOpticmesh$Way;") (by decide +kernel)) dX5_newLength_61 ?_
          refine lv_astoreN (lv' := [(5, .null), (4, .ref (b0 + q37)), (0, .ref (b0 + 0)), (1, .int x1), (2, .int x2), (3, .int x3)]) hx hb dX5_newLength_64 hl (by decide) rfl (fun ls hl => ?_)
          refine lv_aloadN hx hb dX5_newLength_66 (lv_at hl 0 rfl) ?_
          refine lv_ifnonnullN hx hb dX5_newLength_68 ?_
          refine lv_aload hx hb dX5_newLength_71 (lv_at hl 1 rfl) ?_
          refine gf_3_1 (k := q37) hx hb hts (by decide +kernel) hown hK hP (kd_N hk_q37 (by decide)) hk_q37 (hts (.fieldLink RX5 169 "Opticmesh$Way" "length" "I") (by decide +kernel)) dX5_newLength_73 ?_
          refine lv_goto (tgt := 90) hx hb dX5_newLength_76 (by decide) ?_
          refine vx_ret ?_
          exact q_iret hx hb hr hP hF hS hw dX5_newLength_90 hlocks
        · have hw := hw.2 q61 hq61
          have hk_q61 : kd q61 = 3 := (hF.2.2.1 q61 hq61)
          refine gf_4_1 (k := 5) hx hb hts (by decide +kernel) hown hK hP (by decide) (kk_5) (q := q61) hq61 (hts (.fieldLink RX5 166 "Opticmesh$WayFinder" "second" "LOpticmesh$Way;") (by decide +kernel)) dX5_newLength_61 ?_
          refine lv_astore (lv' := [(5, .ref (b0 + q61)), (4, .ref (b0 + q37)), (0, .ref (b0 + 0)), (1, .int x1), (2, .int x2), (3, .int x3)]) hx hb dX5_newLength_64 hl (by decide) rfl (fun ls hl => ?_)
          refine lv_aload hx hb dX5_newLength_66 (lv_at hl 0 rfl) ?_
          refine lv_ifnonnull (tgt := 79) hx hb dX5_newLength_68 (by decide) ?_
          refine lv_aload hx hb dX5_newLength_79 (lv_at hl 1 rfl) ?_
          refine gf_3_1 (k := q37) hx hb hts (by decide +kernel) hown hK hP (kd_N hk_q37 (by decide)) hk_q37 (hts (.fieldLink RX5 169 "Opticmesh$Way" "length" "I") (by decide +kernel)) dX5_newLength_81 ?_
          refine lv_aload hx hb dX5_newLength_84 (lv_at hl 0 rfl) ?_
          refine gf_3_1 (k := q61) hx hb hts (by decide +kernel) hown hK hP (kd_N hk_q61 (by decide)) hk_q61 (hts (.fieldLink RX5 169 "Opticmesh$Way" "length" "I") (by decide +kernel)) dX5_newLength_86 ?_
          refine lv_iadd hx hb dX5_newLength_89 ?_
          refine vx_ret ?_
          exact q_iret hx hb hr hP hF hS hw dX5_newLength_90 hlocks
    · have c13 := b2i_z c13
      rw [if_neg c13] at hw
      exact j16 S10  _ _ _ hw hP hF hS (lv_sub hl [] rfl)
set_option maxHeartbeats 4000000 in
set_option maxRecDepth 100000 in
theorem c_X5_carrierOf (l : Launch) (hlt : l.stackTraces = false) (D : va_G) (cy : Nat → ClassId) (b0 : Nat) (S : St) (x1 : Int32)  (P : Nat → St → Prop) (E : String → St → Prop) (hw : wp_X5_carrierOf S x1 P E) : vx_Met l yX5_carrierOf wsX5_carrierOf rm_X5_carrierOf (va_Pc [.ref (b0 + 0), .int x1] (Wd D cy b0 NALL S)) (QC (Pr b0 1 P) (Wb D cy b0 NALL) b0) (XX E (Wb D cy b0 NALL) b0) 1 6 (AA b0) := by
  refine vx_ofW (cc := cX5_carrierOf) (maxL := 3) (ret := (some (.object "Opticmesh$Light"))) (by decide) rfl ?_
  intro p e s m args below meth c s₁ B hml ht9 hv
  obtain ⟨hargs, hW, hP, hF⟩ := hv
  have hx := B.exec
  have hb := B.bytes
  have hr := B.returns
  have hts := atoms_spec (ws := wsX5_carrierOf) B.pre
  have hown : s.vm.findClass RX5 = some m.cls := findClass_of_methodNamed B.named
  have hlocks := B.notSynchronized
  have hK := hW.1
  have hS : va_S (AA b0) s.heap s.heap [] := va_S.rf
  have hE : entryFrame m args 3 = F0 m 0 ((lg_sl [.ref (b0 + 0), .int x1] ++ List.replicate (3 - (lg_sl [.ref (b0 + 0), .int x1]).length) Slot.unset).toArray) [] := by rw [hargs]; exact lg_entry_eq m _ _
  rw [hE]
  have hl := lv_entry [.ref (b0 + 0), .int x1] (n := 3) (Nat.le_of_ble_eq_true rfl)
  generalize (lg_sl [.ref (b0 + 0), .int x1] ++ List.replicate (3 - (lg_sl [.ref (b0 + 0), .int x1]).length) Slot.unset).toArray = ls at hl ⊢
  have hl : lv_has ls 3 [(0, .ref (b0 + 0)), (1, .int x1)] := hl
  have j12 : ∀ (S : St) , ∀ (H : Heap) (locs : List Loc) (ls : Array Slot), wp_X5_carrierOf_12 x1 P E S → HP D cy b0 NALL S H → Fx S → va_S (AA b0) s.heap H locs → lv_has ls 3 [] → W p l e rm_X5_carrierOf s m args below meth c H locs 0 0 (vx_MQ below (QC (Pr b0 1 P) (Wb D cy b0 NALL) b0) (XX E (Wb D cy b0 NALL) b0) args s 1 6 (AA b0)) (F0 m 12 ls []) := by
    intro S  H locs ls hw hP hF hS hl
    unfold wp_X5_carrierOf_12 at hw
    exact q_throwW (cls := eX) (text := "no such request") (Ts := wsX5_carrierOf) hx hb hlt hts hown (by decide +kernel) (hts (.classLink RX5 198 eX) (by decide +kernel)) (hts (.initialized eX) (by decide +kernel)) (by decide) (fun w h => List.mem_cons_of_mem _ (List.mem_append_left _ (List.mem_append_right _ h))) thX2 (by decide) thX3 hW hP hF hS (hl.1.trans hml.symm) dX5_carrierOf_12 dX5_carrierOf_15 dX5_carrierOf_16 dX5_carrierOf_19 dX5_carrierOf_22 ht9 (Nat.le_of_ble_eq_true rfl) (Nat.le_of_ble_eq_true rfl) (Nat.le_of_ble_eq_true rfl) (Nat.le_of_ble_eq_true rfl) hlocks hw (by decide) (by decide)
  unfold wp_X5_carrierOf at hw
  refine lv_iload_n hx hb dX5_carrierOf_0 rfl (lv_at hl 1 rfl) ?_
  refine lv_if_lt (x := x1) (tgt := 12) hx hb dX5_carrierOf_1 (by decide) (fun c1 => ?_) (fun c1 => ?_)
  · rw [if_pos c1] at hw
    exact j12 S  _ _ _ hw hP hF hS (lv_sub hl [] rfl)
  · rw [if_neg c1] at hw
    refine lv_iload_n hx hb dX5_carrierOf_4 rfl (lv_at hl 1 rfl) ?_
    refine lv_aload_n hx hb dX5_carrierOf_5 rfl (lv_at hl 0 rfl) ?_
    refine gf_5_7 (k := 0) hx hb hts (by decide +kernel) hown hK hP (by decide) (kk_0) (hts (.fieldLink RX5 63 "Opticmesh" "requestCount" "I") (by decide +kernel)) dX5_carrierOf_6 ?_
    refine lv_icmp_lt (x := x1) (y := (gI S 0 7)) (tgt := 23) hx hb dX5_carrierOf_9 (by decide) (fun c9 => ?_) (fun c9 => ?_)
    · rw [if_pos c9] at hw
      refine lv_aload_n hx hb dX5_carrierOf_23 rfl (lv_at hl 0 rfl) ?_
      refine gf_5_5 (k := 0) hx hb hts (by decide +kernel) hown hK hP (by decide) (kk_0) (q := 365) (hF.1 0 5 365 ff_0_5) (hts (.fieldLink RX5 41 "Opticmesh" "carriers" "[LOpticmesh$Light;") (by decide +kernel)) dX5_carrierOf_24 ?_
      refine lv_iload_n hx hb dX5_carrierOf_27 rfl (lv_at hl 1 rfl) ?_
      obtain ⟨h28, hw⟩ := hw
      rcases hq28 : gR S 365 (x1.toNatClampNeg) with _ | q28
      · have hw := hw.1 hq28
        refine q_aald9 (k := 365) (n := 60) (i := x1) hx hb hK hP (by decide) (kk_365) (ll_365) h28 dX5_carrierOf_28 ?_
        rw [rf_none hq28]
        refine lv_astore_nN (lv' := [(2, .null), (0, .ref (b0 + 0)), (1, .int x1)]) hx hb dX5_carrierOf_29 rfl hl (by decide) rfl (fun ls hl => ?_)
        refine lv_aload_nN hx hb dX5_carrierOf_30 rfl (lv_at hl 0 rfl) ?_
        refine lv_ifnonnullN hx hb dX5_carrierOf_31 ?_
        exact q_throwW (cls := eS) (text := "the request has been released") (Ts := wsX5_carrierOf) hx hb hlt hts hown (by decide +kernel) (hts (.classLink RX5 76 eS) (by decide +kernel)) (hts (.initialized eS) (by decide +kernel)) (by decide) (fun w h => List.mem_cons_of_mem _ (List.mem_append_right _ h)) thS2 (by decide) thS3 hW hP hF hS (hl.1.trans hml.symm) dX5_carrierOf_34 dX5_carrierOf_37 dX5_carrierOf_38 dX5_carrierOf_41 dX5_carrierOf_44 ht9 (Nat.le_of_ble_eq_true rfl) (Nat.le_of_ble_eq_true rfl) (Nat.le_of_ble_eq_true rfl) (Nat.le_of_ble_eq_true rfl) hlocks hw (by decide) (by decide)
      · have hw := hw.2 q28 hq28
        have hk_q28 : kd q28 = 1 := hF.2.2.2 _ q28 hq28
        refine q_aald9 (k := 365) (n := 60) (i := x1) hx hb hK hP (by decide) (kk_365) (ll_365) h28 dX5_carrierOf_28 ?_
        rw [rf_some hq28]
        refine lv_astore_n (lv' := [(2, .ref (b0 + q28)), (0, .ref (b0 + 0)), (1, .int x1)]) hx hb dX5_carrierOf_29 rfl hl (by decide) rfl (fun ls hl => ?_)
        refine lv_aload_n hx hb dX5_carrierOf_30 rfl (lv_at hl 0 rfl) ?_
        refine lv_ifnonnull (tgt := 45) hx hb dX5_carrierOf_31 (by decide) ?_
        refine lv_aload_n hx hb dX5_carrierOf_45 rfl (lv_at hl 0 rfl) ?_
        refine vx_ret ?_
        exact q_aretR (v := q28) hx hb hr hP hF hS hk_q28 hw dX5_carrierOf_46 hlocks
    · rw [if_neg c9] at hw
      exact j12 S  _ _ _ hw hP hF hS (lv_sub hl [] rfl)
set_option maxHeartbeats 4000000 in
set_option maxRecDepth 100000 in
theorem c_X5_release (l : Launch) (hlt : l.stackTraces = false) (D : va_G) (cy : Nat → ClassId) (b0 : Nat) (S : St) (x1 : Int32)  (P : Int32 → St → Prop) (E : String → St → Prop) (hw : wp_X5_release S x1 P E) : vx_Met l yX5_release wsX5_release rm_X5_release (va_Pc [.ref (b0 + 0), .int x1] (Wd D cy b0 NALL S)) (QC (Pi P) (Wb D cy b0 NALL) b0) (XX E (Wb D cy b0 NALL) b0) 1 6 (AA b0) := by
  refine vx_ofW (cc := cX5_release) (maxL := 3) (ret := (some .int)) (by decide) rfl ?_
  intro p e s m args below meth c s₁ B hml ht9 hv
  obtain ⟨hargs, hW, hP, hF⟩ := hv
  have hx := B.exec
  have hb := B.bytes
  have hr := B.returns
  have hts := atoms_spec (ws := wsX5_release) B.pre
  have hown : s.vm.findClass RX5 = some m.cls := findClass_of_methodNamed B.named
  have hlocks := B.notSynchronized
  have hK := hW.1
  have hS : va_S (AA b0) s.heap s.heap [] := va_S.rf
  have hE : entryFrame m args 3 = F0 m 0 ((lg_sl [.ref (b0 + 0), .int x1] ++ List.replicate (3 - (lg_sl [.ref (b0 + 0), .int x1]).length) Slot.unset).toArray) [] := by rw [hargs]; exact lg_entry_eq m _ _
  rw [hE]
  have hl := lv_entry [.ref (b0 + 0), .int x1] (n := 3) (Nat.le_of_ble_eq_true rfl)
  generalize (lg_sl [.ref (b0 + 0), .int x1] ++ List.replicate (3 - (lg_sl [.ref (b0 + 0), .int x1]).length) Slot.unset).toArray = ls at hl ⊢
  have hl : lv_has ls 3 [(0, .ref (b0 + 0)), (1, .int x1)] := hl
  unfold wp_X5_release at hw
  refine lv_aload_n hx hb dX5_release_0 rfl (lv_at hl 0 rfl) ?_
  refine lv_iload_n hx hb dX5_release_1 rfl (lv_at hl 1 rfl) ?_
  refine q_callX (vx_runV (As := [.int x1]) (rest := []) ⟨hx, hb, hml, hown, hts⟩ (c_X5_carrierOf l hlt D cy b0 S x1 _ _ hw) (cwV 1 hts gX5_release_X5_carrierOf rfl rfl rfl (by decide +kernel) ⟨(Nat.le_of_ble_eq_true rfl), (Nat.le_of_ble_eq_true rfl)⟩) (q_pV hW hP hF hS (k := 0) (ci := 5) (by decide) (cell_5 (kk_0)) rfl [.int x1]) rfl rfl hl.1 rfl (lv_room (Nat.le_of_ble_eq_true rfl)) dX5_release_2 ⟨(Nat.le_of_ble_eq_true rfl), (Nat.le_of_ble_eq_true rfl)⟩) hS (fun E2 ce q9 S2 t2 H locs hh hw hB hz hS hc9 hv9 hcl9 => ?_) (fun v2 S2 t2 H locs hh hp hB hz hk9 hS => ?_)
  · have hP : HP D cy b0 NALL S2 H := by rw [← hh]; exact hB.1
    exact q_pass ht9 hlocks hP hB.2 hS hw hc9 hv9 hcl9 (by decide) (by decide)
  · obtain ⟨r2, rfl, hk_r2, hw⟩ := hp
    have hP : HP D cy b0 NALL S2 H := by rw [← hh]; exact hB.1
    have hF := hB.2
    try dsimp only at hw
    refine W.eq (g2 := F0 m 5 ls [.ref (b0 + r2)]) rfl ?_
    refine lv_astore_n (lv' := [(2, .ref (b0 + r2)), (0, .ref (b0 + 0)), (1, .int x1)]) hx hb dX5_release_5 rfl hl (by decide) rfl (fun ls hl => ?_)
    refine lv_aload_n hx hb dX5_release_6 rfl (lv_at hl 1 rfl) ?_
    refine gf_5_5 (k := 0) hx hb hts (by decide +kernel) hown hK hP (by decide) (kk_0) (q := 365) (hF.1 0 5 365 ff_0_5) (hts (.fieldLink RX5 41 "Opticmesh" "carriers" "[LOpticmesh$Light;") (by decide +kernel)) dX5_release_7 ?_
    refine lv_iload_n hx hb dX5_release_10 rfl (lv_at hl 2 rfl) ?_
    refine lv_null hx hb dX5_release_11 ?_
    obtain ⟨h12, hw⟩ := hw
    refine q_aastN (k := 365) (n := 60) (i := x1)  hx hb hK hP hS (by decide) (kk_365) (ll_365) h12 dX5_release_12 (fun H locs hz hP hS => ?_)
    have hF : Fx (sR S2 365 (x1.toNatClampNeg) none) := (Fx.f365 hF _ (v := none) (fun q h => by cases h))
    generalize eS12 : sR S2 365 (x1.toNatClampNeg) none = S12 at hP hF
    have hw := hw S12 eS12.symm
    refine lv_aload_n hx hb dX5_release_13 rfl (lv_at hl 0 rfl) ?_
    refine lv_dup hx hb dX5_release_14 rfl ?_
    refine gf_1_6 (k := r2) hx hb hts (by decide +kernel) hown hK hP (kd_N hk_r2 (by decide)) hk_r2 (hts (.fieldLink RX5 155 "Opticmesh$Light" "units" "I") (by decide +kernel)) dX5_release_15 ?_
    refine lv_aload_n hx hb dX5_release_18 rfl (lv_at hl 1 rfl) ?_
    refine gf_5_6 (k := 0) hx hb hts (by decide +kernel) hown hK hP (by decide) (kk_0) (q := 366) (hF.1 0 6 366 ff_0_6) (hts (.fieldLink RX5 44 "Opticmesh" "demands" "[I") (by decide +kernel)) dX5_release_19 ?_
    refine lv_iload_n hx hb dX5_release_22 rfl (lv_at hl 2 rfl) ?_
    obtain ⟨h23, hw⟩ := hw
    refine q_iald (k := 366) (n := 60) (i := x1) hx hb hK hP (by decide) (kk_366) (ll_366) h23 dX5_release_23 ?_
    refine lv_isub hx hb dX5_release_24 ?_
    refine pf_1_6 (k := r2) (x := ((gI S12 r2 6) - (gI S12 366 (x1.toNatClampNeg)))) hx hb hts (by decide +kernel) hown hK hP hS (kd_N hk_r2 (by decide)) hk_r2 (hts (.fieldLink RX5 155 "Opticmesh$Light" "units" "I") (by decide +kernel)) dX5_release_25 (fun H locs hz hP hS => ?_)
    have hF : Fx (sI S12 r2 6 ((gI S12 r2 6) - (gI S12 366 (x1.toNatClampNeg)))) := Fx.sI hF _ _ _
    generalize eS25 : sI S12 r2 6 ((gI S12 r2 6) - (gI S12 366 (x1.toNatClampNeg))) = S25 at hP hF
    have hw := hw S25 eS25.symm
    refine lv_aload_n hx hb dX5_release_28 rfl (lv_at hl 0 rfl) ?_
    refine gf_1_6 (k := r2) hx hb hts (by decide +kernel) hown hK hP (kd_N hk_r2 (by decide)) hk_r2 (hts (.fieldLink RX5 155 "Opticmesh$Light" "units" "I") (by decide +kernel)) dX5_release_29 ?_
    refine vx_ret ?_
    exact q_iret hx hb hr hP hF hS hw dX5_release_32 hlocks
