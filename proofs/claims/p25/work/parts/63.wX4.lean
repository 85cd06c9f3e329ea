set_option maxHeartbeats 4000000 in
set_option maxRecDepth 100000 in
theorem c_X5_lowestIn (l : Launch) (D : va_G) (cy : Nat → ClassId) (b0 : Nat) (S : St) (x1 : Int32)  (P : Int32 → St → Prop) (hw : wp_X5_lowestIn S x1 P) : Met l yX5_lowestIn wsX5_lowestIn rm_X5_lowestIn (va_Pc [.int x1] (Wd D cy b0 NALL S)) (QC (Pi P) (Wb D cy b0 NALL) b0) 0 0 (AA b0) := by
  refine Met.ofW (cc := cX5_lowestIn) (maxL := 2) (ret := (some .int)) (by decide) rfl ?_
  intro p e s m args below meth c s₁ B hml hv
  obtain ⟨hargs, hW, hP, hF⟩ := hv
  have hx := B.exec
  have hb := B.bytes
  have hr := B.returns
  have hts := atoms_spec (ws := wsX5_lowestIn) B.pre
  have hown : s.vm.findClass RX5 = some m.cls := findClass_of_methodNamed B.named
  have hlocks := B.notSynchronized
  have hK := hW.1
  have hS : va_S (AA b0) s.heap s.heap [] := va_S.rf
  have hE : entryFrame m args 2 = F0 m 0 ((lg_sl [.int x1] ++ List.replicate (2 - (lg_sl [.int x1]).length) Slot.unset).toArray) [] := by rw [hargs]; exact lg_entry_eq m _ _
  rw [hE]
  have hl := lv_entry [.int x1] (n := 2) (Nat.le_of_ble_eq_true rfl)
  generalize (lg_sl [.int x1] ++ List.replicate (2 - (lg_sl [.int x1]).length) Slot.unset).toArray = ls at hl ⊢
  have hl : lv_has ls 2 [(0, .int x1)] := hl
  have j2 : ∀ (n2 : Nat), ∀ (S : St) (a1 : Int32), ∀ (H : Heap) (locs : List Loc) (ls : Array Slot), wp_X5_lowestIn_2 x1 P n2 S a1 → HP D cy b0 NALL S H → Fx S → va_S (AA b0) s.heap H locs → lv_has ls 2 [(0, .int x1), (1, .int a1)] → W p l e rm_X5_lowestIn s m args below meth c H locs 0 0 (MQ below (QC (Pi P) (Wb D cy b0 NALL) b0) args s 0 0 (AA b0)) (F0 m 2 ls []) := by
    intro n2
    induction n2 with
    | zero => intro S a1  H locs ls hw _ _ _ _; exact False.elim hw
    | succ n2 ih2 =>
      intro S a1  H locs ls hw hP hF hS hl
      rw [wp_X5_lowestIn_2] at hw
      refine lv_iload_n hx hb dX5_lowestIn_2 rfl (lv_at hl 1 rfl) ?_
      refine lv_bipush (v := 8) hx hb dX5_lowestIn_3 (by decide) ?_
      refine lv_icmp_ge (x := a1) (y := 8) (tgt := 22) hx hb dX5_lowestIn_5 (by decide) (fun c5 => ?_) (fun c5 => ?_)
      · rw [if_pos c5] at hw
        refine lv_iload_n hx hb dX5_lowestIn_22 rfl (lv_at hl 1 rfl) ?_
        exact q_iret hx hb hr hP hF hS hw dX5_lowestIn_23 hlocks
      · rw [if_neg c5] at hw
        refine lv_iload_n hx hb dX5_lowestIn_8 rfl (lv_at hl 0 rfl) ?_
        refine lv_iload_n hx hb dX5_lowestIn_9 rfl (lv_at hl 1 rfl) ?_
        refine lv_ishr hx hb dX5_lowestIn_10 ?_
        refine lv_iconst (v := 1) hx hb dX5_lowestIn_11 (by decide) ?_
        refine lv_iand hx hb dX5_lowestIn_12 ?_
        refine lv_if_ne (x := ((x1 >>> (a1 &&& 31)) &&& 1)) (tgt := 22) hx hb dX5_lowestIn_13 (by decide) (fun c13 => ?_) (fun c13 => ?_)
        · rw [if_neg c13] at hw
          refine lv_iload_n hx hb dX5_lowestIn_22 rfl (lv_at hl 1 rfl) ?_
          exact q_iret hx hb hr hP hF hS hw dX5_lowestIn_23 hlocks
        · rw [if_pos c13] at hw
          obtain ⟨y16, e16⟩ : ∃ z : Int32, z = a1 + 1 := ⟨_, rfl⟩
          have hw := hw y16 e16
          refine lv_iinc (v := y16) (lv' := [(1, .int y16), (0, .int x1)]) hx hb dX5_lowestIn_16 hl (k := 1) rfl (by rw [e16]; rfl) (by decide) rfl (fun ls hl => ?_)
          refine lv_goto (tgt := 2) hx hb dX5_lowestIn_19 (by decide) ?_
          exact ih2 S y16  _ _ _ hw hP hF hS (lv_sub hl [1, 0] rfl)
  unfold wp_X5_lowestIn at hw
  refine lv_iconst (v := 0) hx hb dX5_lowestIn_0 (by decide) ?_
  refine lv_istore_n (lv' := [(1, .int 0), (0, .int x1)]) hx hb dX5_lowestIn_1 rfl hl (by decide) rfl (fun ls hl => ?_)
  obtain ⟨n2, hw⟩ := hw
  exact j2 n2 S 0  _ _ _ hw hP hF hS (lv_sub hl [1, 0] rfl)
set_option maxHeartbeats 4000000 in
set_option maxRecDepth 100000 in
theorem c_X4_aim (l : Launch) (D : va_G) (cy : Nat → ClassId) (b0 : Nat) (S : St) (x1 : Int32) (x2 : Int32) (x3 : Int32)  (P : St → Prop) (hw : wp_X4_aim S x1 x2 x3 P) : Met l yX4_aim wsX4_aim rm_X4_aim (va_Pc [.ref (b0 + 5), .int x1, .int x2, .int x3] (Wd D cy b0 NALL S)) (QC (Pv P) (Wb D cy b0 NALL) b0) 0 0 (AA b0) := by
  refine Met.ofW (cc := cX4_aim) (maxL := 4) (ret := none) (by decide) rfl ?_
  intro p e s m args below meth c s₁ B hml hv
  obtain ⟨hargs, hW, hP, hF⟩ := hv
  have hx := B.exec
  have hb := B.bytes
  have hr := B.returns
  have hts := atoms_spec (ws := wsX4_aim) B.pre
  have hown : s.vm.findClass RX4 = some m.cls := findClass_of_methodNamed B.named
  have hlocks := B.notSynchronized
  have hK := hW.1
  have hS : va_S (AA b0) s.heap s.heap [] := va_S.rf
  have hE : entryFrame m args 4 = F0 m 0 ((lg_sl [.ref (b0 + 5), .int x1, .int x2, .int x3] ++ List.replicate (4 - (lg_sl [.ref (b0 + 5), .int x1, .int x2, .int x3]).length) Slot.unset).toArray) [] := by rw [hargs]; exact lg_entry_eq m _ _
  rw [hE]
  have hl := lv_entry [.ref (b0 + 5), .int x1, .int x2, .int x3] (n := 4) (Nat.le_of_ble_eq_true rfl)
  generalize (lg_sl [.ref (b0 + 5), .int x1, .int x2, .int x3] ++ List.replicate (4 - (lg_sl [.ref (b0 + 5), .int x1, .int x2, .int x3]).length) Slot.unset).toArray = ls at hl ⊢
  have hl : lv_has ls 4 [(0, .ref (b0 + 5)), (1, .int x1), (2, .int x2), (3, .int x3)] := hl
  unfold wp_X4_aim at hw
  refine lv_aload_n hx hb dX4_aim_0 rfl (lv_at hl 0 rfl) ?_
  refine lv_iload_n hx hb dX4_aim_1 rfl (lv_at hl 1 rfl) ?_
  refine pf_4_4 (k := 5) (x := x1) hx hb hts (by decide +kernel) hown hK hP hS (by decide) (kk_5) (hts (.fieldLink RX4 86 "Opticmesh$WayFinder" "target" "I") (by decide +kernel)) dX4_aim_2 (fun H locs hz hP hS => ?_)
  have hF : Fx (sI S 5 4 x1) := Fx.sI hF _ _ _
  generalize eS2 : sI S 5 4 x1 = S2 at hP hF
  have hw := hw S2 eS2.symm
  refine lv_aload_n hx hb dX4_aim_5 rfl (lv_at hl 0 rfl) ?_
  refine lv_iload_n hx hb dX4_aim_6 rfl (lv_at hl 2 rfl) ?_
  refine pf_4_5 (k := 5) (x := x2) hx hb hts (by decide +kernel) hown hK hP hS (by decide) (kk_5) (hts (.fieldLink RX4 89 "Opticmesh$WayFinder" "allowed" "I") (by decide +kernel)) dX4_aim_7 (fun H locs hz hP hS => ?_)
  have hF : Fx (sI S2 5 5 x2) := Fx.sI hF _ _ _
  generalize eS7 : sI S2 5 5 x2 = S7 at hP hF
  have hw := hw S7 eS7.symm
  refine lv_aload_n hx hb dX4_aim_10 rfl (lv_at hl 0 rfl) ?_
  refine lv_iload_n hx hb dX4_aim_11 rfl (lv_at hl 3 rfl) ?_
  refine pf_4_6 (k := 5) (x := x3) hx hb hts (by decide +kernel) hown hK hP hS (by decide) (kk_5) (hts (.fieldLink RX4 92 "Opticmesh$WayFinder" "converters" "I") (by decide +kernel)) dX4_aim_12 (fun H locs hz hP hS => ?_)
  have hF : Fx (sI S7 5 6 x3) := Fx.sI hF _ _ _
  generalize eS12 : sI S7 5 6 x3 = S12 at hP hF
  have hw := hw S12 eS12.symm
  refine lv_aload_n hx hb dX4_aim_15 rfl (lv_at hl 0 rfl) ?_
  refine lv_iconst (v := 0) hx hb dX4_aim_16 (by decide) ?_
  refine pf_4_12 (k := 5) (x := 0) hx hb hts (by decide +kernel) hown hK hP hS (by decide) (kk_5) (hts (.fieldLink RX4 65 "Opticmesh$WayFinder" "keptCount" "I") (by decide +kernel)) dX4_aim_17 (fun H locs hz hP hS => ?_)
  have hF : Fx (sI S12 5 12 0) := Fx.sI hF _ _ _
  generalize eS17 : sI S12 5 12 0 = S17 at hP hF
  have hw := hw S17 eS17.symm
  exact q_vret hx hb hr hP hF hS hw dX4_aim_20 hlocks
set_option maxHeartbeats 4000000 in
set_option maxRecDepth 100000 in
theorem c_X4_pickFirst (l : Launch) (D : va_G) (cy : Nat → ClassId) (b0 : Nat) (S : St)   (P : St → Prop) (hw : wp_X4_pickFirst S  P) : Met l yX4_pickFirst wsX4_pickFirst rm_X4_pickFirst (va_Pc [.ref (b0 + 5)] (Wd D cy b0 NALL S)) (QC (Pv P) (Wb D cy b0 NALL) b0) 0 0 (AA b0) := by
  refine Met.ofW (cc := cX4_pickFirst) (maxL := 2) (ret := none) (by decide) rfl ?_
  intro p e s m args below meth c s₁ B hml hv
  obtain ⟨hargs, hW, hP, hF⟩ := hv
  have hx := B.exec
  have hb := B.bytes
  have hr := B.returns
  have hts := atoms_spec (ws := wsX4_pickFirst) B.pre
  have hown : s.vm.findClass RX4 = some m.cls := findClass_of_methodNamed B.named
  have hlocks := B.notSynchronized
  have hK := hW.1
  have hS : va_S (AA b0) s.heap s.heap [] := va_S.rf
  have hE : entryFrame m args 2 = F0 m 0 ((lg_sl [.ref (b0 + 5)] ++ List.replicate (2 - (lg_sl [.ref (b0 + 5)]).length) Slot.unset).toArray) [] := by rw [hargs]; exact lg_entry_eq m _ _
  rw [hE]
  have hl := lv_entry [.ref (b0 + 5)] (n := 2) (Nat.le_of_ble_eq_true rfl)
  generalize (lg_sl [.ref (b0 + 5)] ++ List.replicate (2 - (lg_sl [.ref (b0 + 5)]).length) Slot.unset).toArray = ls at hl ⊢
  have hl : lv_has ls 2 [(0, .ref (b0 + 5))] := hl
  have j12 : ∀ (n12 : Nat), ∀ (S : St) (a1 : Int32), ∀ (H : Heap) (locs : List Loc) (ls : Array Slot), wp_X4_pickFirst_12 P n12 S a1 → HP D cy b0 NALL S H → Fx S → va_S (AA b0) s.heap H locs → lv_has ls 2 [(0, .ref (b0 + 5)), (1, .int a1)] → W p l e rm_X4_pickFirst s m args below meth c H locs 0 0 (MQ below (QC (Pv P) (Wb D cy b0 NALL) b0) args s 0 0 (AA b0)) (F0 m 12 ls []) := by
    intro n12
    induction n12 with
    | zero => intro S a1  H locs ls hw _ _ _ _; exact False.elim hw
    | succ n12 ih12 =>
      have j53 : ∀ (S : St) (a1 : Int32), ∀ (H : Heap) (locs : List Loc) (ls : Array Slot), wp_X4_pickFirst_53 P (fun S a1 => wp_X4_pickFirst_12 P n12 S a1) S a1 → HP D cy b0 NALL S H → Fx S → va_S (AA b0) s.heap H locs → lv_has ls 2 [(0, .ref (b0 + 5)), (1, .int a1)] → W p l e rm_X4_pickFirst s m args below meth c H locs 0 0 (MQ below (QC (Pv P) (Wb D cy b0 NALL) b0) args s 0 0 (AA b0)) (F0 m 53 ls []) := by
        intro S a1  H locs ls hw hP hF hS hl
        unfold wp_X4_pickFirst_53 at hw
        obtain ⟨y53, e53⟩ : ∃ z : Int32, z = a1 + 1 := ⟨_, rfl⟩
        have hw := hw y53 e53
        refine lv_iinc (v := y53) (lv' := [(1, .int y53), (0, .ref (b0 + 5))]) hx hb dX4_pickFirst_53 hl (k := 1) rfl (by rw [e53]; rfl) (by decide) rfl (fun ls hl => ?_)
        refine lv_goto (tgt := 12) hx hb dX4_pickFirst_56 (by decide) ?_
        exact ih12 S y53  _ _ _ hw hP hF hS (lv_sub hl [1, 0] rfl)
      have j43 : ∀ (S : St) (a1 : Int32), ∀ (H : Heap) (locs : List Loc) (ls : Array Slot), wp_X4_pickFirst_43 P (fun S a1 => wp_X4_pickFirst_12 P n12 S a1) S a1 → HP D cy b0 NALL S H → Fx S → va_S (AA b0) s.heap H locs → lv_has ls 2 [(0, .ref (b0 + 5)), (1, .int a1)] → W p l e rm_X4_pickFirst s m args below meth c H locs 0 0 (MQ below (QC (Pv P) (Wb D cy b0 NALL) b0) args s 0 0 (AA b0)) (F0 m 43 ls []) := by
        intro S a1  H locs ls hw hP hF hS hl
        unfold wp_X4_pickFirst_43 at hw
        refine lv_aload_n hx hb dX4_pickFirst_43 rfl (lv_at hl 0 rfl) ?_
        refine lv_aload_n hx hb dX4_pickFirst_44 rfl (lv_at hl 0 rfl) ?_
        refine gf_4_11 (k := 5) hx hb hts (by decide +kernel) hown hK hP (by decide) (kk_5) (q := 18) (hF.1 5 11 18 ff_5_11) (hts (.fieldLink RX4 32 "Opticmesh$WayFinder" "kept" "[LOpticmesh$Way;") (by decide +kernel)) dX4_pickFirst_45 ?_
        refine lv_iload_n hx hb dX4_pickFirst_48 rfl (lv_at hl 1 rfl) ?_
        obtain ⟨h49, hw⟩ := hw
        refine q_aald10 (k := 18) (n := 162) (i := a1) hx hb hK hP (by decide) (kk_18) (ll_18) h49 dX4_pickFirst_49 ?_
        rw [rf_some (hF.1 18 _ _ (fx_18 (vp_lt h49)))]
        refine pf_4_0 (k := 5) (x := (19 + (a1.toNatClampNeg))) hx hb hts (by decide +kernel) hown hK hP hS (by decide) (kk_5) (hts (.fieldLink RX4 58 "Opticmesh$WayFinder" "first" "LOpticmesh$Way;") (by decide +kernel)) dX4_pickFirst_50 (fun H locs hz hP hS => ?_)
        have hF : Fx (sR S 5 0 (some (19 + (a1.toNatClampNeg)))) := (Fx.f0 hF (v := some (19 + (a1.toNatClampNeg))) (fun q h => by cases h; exact (kd_W (vp_lt h49))))
        generalize eS50 : sR S 5 0 (some (19 + (a1.toNatClampNeg))) = S50 at hP hF
        have hw := hw S50 eS50.symm
        exact j53 S50 a1  _ _ _ hw hP hF hS (lv_sub hl [0, 1] rfl)
      intro S a1  H locs ls hw hP hF hS hl
      rw [wp_X4_pickFirst_12] at hw
      refine lv_iload_n hx hb dX4_pickFirst_12 rfl (lv_at hl 1 rfl) ?_
      refine lv_aload_n hx hb dX4_pickFirst_13 rfl (lv_at hl 0 rfl) ?_
      refine gf_4_12 (k := 5) hx hb hts (by decide +kernel) hown hK hP (by decide) (kk_5) (hts (.fieldLink RX4 65 "Opticmesh$WayFinder" "keptCount" "I") (by decide +kernel)) dX4_pickFirst_14 ?_
      refine lv_icmp_ge (x := a1) (y := (gI S 5 12)) (tgt := 59) hx hb dX4_pickFirst_17 (by decide) (fun c17 => ?_) (fun c17 => ?_)
      · rw [if_pos c17] at hw
        exact q_vret hx hb hr hP hF hS hw dX4_pickFirst_59 hlocks
      · rw [if_neg c17] at hw
        refine lv_aload_n hx hb dX4_pickFirst_20 rfl (lv_at hl 0 rfl) ?_
        rcases hq21 : gR S 5 0 with _ | q21
        · have hw := hw.1 hq21
          refine gn_4_0 (k := 5) hx hb hts (by decide +kernel) hown hK hP (by decide) (kk_5) hq21 (hts (.fieldLink RX4 58 "Opticmesh$WayFinder" "first" "LOpticmesh$Way;") (by decide +kernel)) dX4_pickFirst_21 ?_
          refine lv_ifnullN (tgt := 43) hx hb dX4_pickFirst_24 (by decide) ?_
          exact j43 S a1  _ _ _ hw hP hF hS (lv_sub hl [0, 1] rfl)
        · have hw := hw.2 q21 hq21
          have hk_q21 : kd q21 = 3 := (hF.2.1 q21 hq21)
          refine gf_4_0 (k := 5) hx hb hts (by decide +kernel) hown hK hP (by decide) (kk_5) (q := q21) hq21 (hts (.fieldLink RX4 58 "Opticmesh$WayFinder" "first" "LOpticmesh$Way;") (by decide +kernel)) dX4_pickFirst_21 ?_
          refine lv_ifnull hx hb dX4_pickFirst_24 ?_
          refine lv_aload_n hx hb dX4_pickFirst_27 rfl (lv_at hl 0 rfl) ?_
          refine gf_4_11 (k := 5) hx hb hts (by decide +kernel) hown hK hP (by decide) (kk_5) (q := 18) (hF.1 5 11 18 ff_5_11) (hts (.fieldLink RX4 32 "Opticmesh$WayFinder" "kept" "[LOpticmesh$Way;") (by decide +kernel)) dX4_pickFirst_28 ?_
          refine lv_iload_n hx hb dX4_pickFirst_31 rfl (lv_at hl 1 rfl) ?_
          obtain ⟨h32, hw⟩ := hw
          refine q_aald10 (k := 18) (n := 162) (i := a1) hx hb hK hP (by decide) (kk_18) (ll_18) h32 dX4_pickFirst_32 ?_
          rw [rf_some (hF.1 18 _ _ (fx_18 (vp_lt h32)))]
          refine lv_aload_n hx hb dX4_pickFirst_33 rfl (lv_at hl 0 rfl) ?_
          rcases hq34 : gR S 5 0 with _ | q34
          · have hw := hw.1 hq34
            refine gn_4_0 (k := 5) hx hb hts (by decide +kernel) hown hK hP (by decide) (kk_5) hq34 (hts (.fieldLink RX4 58 "Opticmesh$WayFinder" "first" "LOpticmesh$Way;") (by decide +kernel)) dX4_pickFirst_34 ?_
            exact False.elim hw
          · have hw := hw.2 q34 hq34
            have hk_q34 : kd q34 = 3 := (hF.2.1 q34 hq34)
            refine gf_4_0 (k := 5) hx hb hts (by decide +kernel) hown hK hP (by decide) (kk_5) (q := q34) hq34 (hts (.fieldLink RX4 58 "Opticmesh$WayFinder" "first" "LOpticmesh$Way;") (by decide +kernel)) dX4_pickFirst_34 ?_
            refine q_call (va_runV (As := [.ref (b0 + q34)]) (rest := []) ⟨hx, hb, hml, hown, hts⟩ (c_X3_isAheadOf l D cy b0 S (19 + (a1.toNatClampNeg)) q34 (kd_W (vp_lt h32)) hk_q34 _ hw) (cwV 1 hts gX4_pickFirst_X3_isAheadOf rfl rfl rfl (by decide +kernel) ⟨(Nat.le_of_ble_eq_true rfl), (Nat.le_of_ble_eq_true rfl)⟩) (q_pV hW hP hF hS (k := (19 + (a1.toNatClampNeg))) (ci := 3) (kd_N (kd_W (vp_lt h32)) (by decide)) (cell_3 (kd_W (vp_lt h32))) rfl [.ref (b0 + q34)]) rfl rfl hl.1 rfl (lv_room (Nat.le_of_ble_eq_true rfl)) dX4_pickFirst_37 ⟨(Nat.le_of_ble_eq_true rfl), (Nat.le_of_ble_eq_true rfl)⟩) hS (fun v37 S37 t37 H locs hh hp hB hz hk9 hS => ?_)
            obtain ⟨r37, rfl, hw⟩ := hp
            have hP : HP D cy b0 NALL S37 H := by rw [← hh]; exact hB.1
            have hF := hB.2
            try dsimp only at hw
            refine W.eq (g2 := F0 m 40 ls [.int (b2i r37)]) rfl ?_
            refine lv_if_eq (x := b2i r37) (tgt := 53) hx hb dX4_pickFirst_40 (by decide) (fun c40 => ?_) (fun c40 => ?_)
            · have c40 := b2i_z c40
              rw [if_neg c40] at hw
              exact j53 S37 a1  _ _ _ hw hP hF hS (lv_sub hl [0, 1] rfl)
            · have c40 := b2i_n c40
              rw [if_pos c40] at hw
              exact j43 S37 a1  _ _ _ hw hP hF hS (lv_sub hl [0, 1] rfl)
  unfold wp_X4_pickFirst at hw
  refine lv_aload_n hx hb dX4_pickFirst_0 rfl (lv_at hl 0 rfl) ?_
  refine lv_null hx hb dX4_pickFirst_1 ?_
  refine pn_4_0 (k := 5) hx hb hts (by decide +kernel) hown hK hP hS (by decide) (kk_5) (hts (.fieldLink RX4 58 "Opticmesh$WayFinder" "first" "LOpticmesh$Way;") (by decide +kernel)) dX4_pickFirst_2 (fun H locs hz hP hS => ?_)
  have hF : Fx (sR S 5 0 none) := (Fx.f0 hF (v := none) (fun q h => by cases h))
  generalize eS2 : sR S 5 0 none = S2 at hP hF
  have hw := hw S2 eS2.symm
  refine lv_aload_n hx hb dX4_pickFirst_5 rfl (lv_at hl 0 rfl) ?_
  refine lv_null hx hb dX4_pickFirst_6 ?_
  refine pn_4_1 (k := 5) hx hb hts (by decide +kernel) hown hK hP hS (by decide) (kk_5) (hts (.fieldLink RX4 62 "Opticmesh$WayFinder" "second" "LOpticmesh$Way;") (by decide +kernel)) dX4_pickFirst_7 (fun H locs hz hP hS => ?_)
  have hF : Fx (sR S2 5 1 none) := (Fx.f1 hF (v := none) (fun q h => by cases h))
  generalize eS7 : sR S2 5 1 none = S7 at hP hF
  have hw := hw S7 eS7.symm
  refine lv_iconst (v := 0) hx hb dX4_pickFirst_10 (by decide) ?_
  refine lv_istore_n (lv' := [(1, .int 0), (0, .ref (b0 + 5))]) hx hb dX4_pickFirst_11 rfl hl (by decide) rfl (fun ls hl => ?_)
  obtain ⟨n12, hw⟩ := hw
  exact j12 n12 S7 0  _ _ _ hw hP hF hS (lv_sub hl [1, 0] rfl)
set_option maxHeartbeats 4000000 in
set_option maxRecDepth 100000 in
theorem c_X4_leadingOn (l : Launch) (D : va_G) (cy : Nat → ClassId) (b0 : Nat) (S : St) (x1 : Int32) (x2 : Int32) (x3 : Int32)  (P : Int32 → St → Prop) (hw : wp_X4_leadingOn S x1 x2 x3 P) : Met l yX4_leadingOn wsX4_leadingOn rm_X4_leadingOn (va_Pc [.ref (b0 + 5), .int x1, .int x2, .int x3] (Wd D cy b0 NALL S)) (QC (Pi P) (Wb D cy b0 NALL) b0) 0 0 (AA b0) := by
  refine Met.ofW (cc := cX4_leadingOn) (maxL := 4) (ret := (some .int)) (by decide) rfl ?_
  intro p e s m args below meth c s₁ B hml hv
  obtain ⟨hargs, hW, hP, hF⟩ := hv
  have hx := B.exec
  have hb := B.bytes
  have hr := B.returns
  have hts := atoms_spec (ws := wsX4_leadingOn) B.pre
  have hown : s.vm.findClass RX4 = some m.cls := findClass_of_methodNamed B.named
  have hlocks := B.notSynchronized
  have hK := hW.1
  have hS : va_S (AA b0) s.heap s.heap [] := va_S.rf
  have hE : entryFrame m args 4 = F0 m 0 ((lg_sl [.ref (b0 + 5), .int x1, .int x2, .int x3] ++ List.replicate (4 - (lg_sl [.ref (b0 + 5), .int x1, .int x2, .int x3]).length) Slot.unset).toArray) [] := by rw [hargs]; exact lg_entry_eq m _ _
  rw [hE]
  have hl := lv_entry [.ref (b0 + 5), .int x1, .int x2, .int x3] (n := 4) (Nat.le_of_ble_eq_true rfl)
  generalize (lg_sl [.ref (b0 + 5), .int x1, .int x2, .int x3] ++ List.replicate (4 - (lg_sl [.ref (b0 + 5), .int x1, .int x2, .int x3]).length) Slot.unset).toArray = ls at hl ⊢
  have hl : lv_has ls 4 [(0, .ref (b0 + 5)), (1, .int x1), (2, .int x2), (3, .int x3)] := hl
  have j45 : ∀ (S : St) , ∀ (H : Heap) (locs : List Loc) (ls : Array Slot), wp_X4_leadingOn_45 x1 x2 x3 P S → HP D cy b0 NALL S H → Fx S → va_S (AA b0) s.heap H locs → lv_has ls 4 [(0, .ref (b0 + 5)), (1, .int x1), (3, .int x3)] → W p l e rm_X4_leadingOn s m args below meth c H locs 0 0 (MQ below (QC (Pi P) (Wb D cy b0 NALL) b0) args s 0 0 (AA b0)) (F0 m 45 ls []) := by
    intro S  H locs ls hw hP hF hS hl
    unfold wp_X4_leadingOn_45 at hw
    refine lv_aload_n hx hb dX4_leadingOn_45 rfl (lv_at hl 0 rfl) ?_
    refine gf_4_10 (k := 5) hx hb hts (by decide +kernel) hown hK hP (by decide) (kk_5) (q := 10) (hF.1 5 10 10 ff_5_10) (hts (.fieldLink RX4 27 "Opticmesh$WayFinder" "within" "[[I") (by decide +kernel)) dX4_leadingOn_46 ?_
    refine lv_iload_n hx hb dX4_leadingOn_49 rfl (lv_at hl 1 rfl) ?_
    obtain ⟨h50, hw⟩ := hw
    refine q_aald11 (k := 10) (n := 7) (i := x1) hx hb hK hP (by decide) (kk_10) (ll_10) h50 dX4_leadingOn_50 ?_
    rw [rf_some (hF.1 10 _ _ (fx_10 (vp_lt h50)))]
    refine lv_iload_n hx hb dX4_leadingOn_51 rfl (lv_at hl 2 rfl) ?_
    obtain ⟨h52, hw⟩ := hw
    refine q_iald (k := (11 + (x1.toNatClampNeg))) (n := 7) (i := x3) hx hb hK hP (kd_N (kd_R (vp_lt h50)) (by decide)) (kd_R (vp_lt h50)) (ln_R (vp_lt h50)) h52 dX4_leadingOn_52 ?_
    exact q_iret hx hb hr hP hF hS hw dX4_leadingOn_53 hlocks
  unfold wp_X4_leadingOn at hw
  refine lv_iload_n hx hb dX4_leadingOn_0 rfl (lv_at hl 1 rfl) ?_
  refine lv_iload_n hx hb dX4_leadingOn_1 rfl (lv_at hl 2 rfl) ?_
  refine lv_icmp_ge (x := x1) (y := x2) (tgt := 11) hx hb dX4_leadingOn_2 (by decide) (fun c2 => ?_) (fun c2 => ?_)
  · rw [if_pos c2] at hw
    refine lv_sipush (v := 255) hx hb dX4_leadingOn_11 (by decide) ?_
    exact q_iret hx hb hr hP hF hS hw dX4_leadingOn_14 hlocks
  · rw [if_neg c2] at hw
    refine lv_iload_n hx hb dX4_leadingOn_5 rfl (lv_at hl 1 rfl) ?_
    refine lv_bipush (v := 7) hx hb dX4_leadingOn_6 (by decide) ?_
    refine lv_icmp_lt (x := x1) (y := 7) (tgt := 15) hx hb dX4_leadingOn_8 (by decide) (fun c8 => ?_) (fun c8 => ?_)
    · rw [if_pos c8] at hw
      refine lv_iload_n hx hb dX4_leadingOn_15 rfl (lv_at hl 3 rfl) ?_
      refine lv_if_le (x := x3) (tgt := 45) hx hb dX4_leadingOn_16 (by decide) (fun c16 => ?_) (fun c16 => ?_)
      · rw [if_pos c16] at hw
        exact j45 S  _ _ _ hw hP hF hS (lv_sub hl [0, 1, 3] rfl)
      · rw [if_neg c16] at hw
        refine lv_aload_n hx hb dX4_leadingOn_19 rfl (lv_at hl 0 rfl) ?_
        refine gf_4_9 (k := 5) hx hb hts (by decide +kernel) hown hK hP (by decide) (kk_5) (q := 9) (hF.1 5 9 9 ff_5_9) (hts (.fieldLink RX4 21 "Opticmesh$WayFinder" "convertsBefore" "[Z") (by decide +kernel)) dX4_leadingOn_20 ?_
        refine lv_iload_n hx hb dX4_leadingOn_23 rfl (lv_at hl 1 rfl) ?_
        obtain ⟨h24, hw⟩ := hw
        refine q_zald (k := 9) (n := 7) (i := x1) hx hb hK hP (by decide) (kk_9) (ll_9) h24 dX4_leadingOn_24 ?_
        refine lv_if_eq (x := (gI S 9 (x1.toNatClampNeg))) (tgt := 45) hx hb dX4_leadingOn_25 (by decide) (fun c25 => ?_) (fun c25 => ?_)
        · rw [if_pos c25] at hw
          exact j45 S  _ _ _ hw hP hF hS (lv_sub hl [0, 1, 3] rfl)
        · rw [if_neg c25] at hw
          refine lv_aload_n hx hb dX4_leadingOn_28 rfl (lv_at hl 0 rfl) ?_
          refine gf_4_10 (k := 5) hx hb hts (by decide +kernel) hown hK hP (by decide) (kk_5) (q := 10) (hF.1 5 10 10 ff_5_10) (hts (.fieldLink RX4 27 "Opticmesh$WayFinder" "within" "[[I") (by decide +kernel)) dX4_leadingOn_29 ?_
          refine lv_iload_n hx hb dX4_leadingOn_32 rfl (lv_at hl 1 rfl) ?_
          obtain ⟨h33, hw⟩ := hw
          refine q_aald11 (k := 10) (n := 7) (i := x1) hx hb hK hP (by decide) (kk_10) (ll_10) h33 dX4_leadingOn_33 ?_
          rw [rf_some (hF.1 10 _ _ (fx_10 (vp_lt h33)))]
          refine lv_iload_n hx hb dX4_leadingOn_34 rfl (lv_at hl 3 rfl) ?_
          refine lv_iconst (v := 1) hx hb dX4_leadingOn_35 (by decide) ?_
          refine lv_isub hx hb dX4_leadingOn_36 ?_
          obtain ⟨h37, hw⟩ := hw
          refine q_iald (k := (11 + (x1.toNatClampNeg))) (n := 7) (i := (x3 - 1)) hx hb hK hP (kd_N (kd_R (vp_lt h33)) (by decide)) (kd_R (vp_lt h33)) (ln_R (vp_lt h33)) h37 dX4_leadingOn_37 ?_
          refine lv_if_eq (x := (gI S (11 + (x1.toNatClampNeg)) ((x3 - 1).toNatClampNeg))) (tgt := 45) hx hb dX4_leadingOn_38 (by decide) (fun c38 => ?_) (fun c38 => ?_)
          · rw [if_pos c38] at hw
            exact j45 S  _ _ _ hw hP hF hS (lv_sub hl [0, 1, 3] rfl)
          · rw [if_neg c38] at hw
            refine lv_sipush (v := 255) hx hb dX4_leadingOn_41 (by decide) ?_
            exact q_iret hx hb hr hP hF hS hw dX4_leadingOn_44 hlocks
    · rw [if_neg c8] at hw
      refine lv_sipush (v := 255) hx hb dX4_leadingOn_11 (by decide) ?_
      exact q_iret hx hb hr hP hF hS hw dX4_leadingOn_14 hlocks
set_option maxHeartbeats 4000000 in
set_option maxRecDepth 100000 in
theorem c_X4_countConversionsBackwards (l : Launch) (D : va_G) (cy : Nat → ClassId) (b0 : Nat) (S : St) (x1 : Int32)  (P : St → Prop) (hw : wp_X4_countConversionsBackwards S x1 P) : Met l yX4_countConversionsBackwards wsX4_countConversionsBackwards rm_X4_countConversionsBackwards (va_Pc [.ref (b0 + 5), .int x1] (Wd D cy b0 NALL S)) (QC (Pv P) (Wb D cy b0 NALL) b0) 0 0 (AA b0) := by
  refine Met.ofW (cc := cX4_countConversionsBackwards) (maxL := 4) (ret := none) (by decide) rfl ?_
  intro p e s m args below meth c s₁ B hml hv
  obtain ⟨hargs, hW, hP, hF⟩ := hv
  have hx := B.exec
  have hb := B.bytes
  have hr := B.returns
  have hts := atoms_spec (ws := wsX4_countConversionsBackwards) B.pre
  have hown : s.vm.findClass RX4 = some m.cls := findClass_of_methodNamed B.named
  have hlocks := B.notSynchronized
  have hK := hW.1
  have hS : va_S (AA b0) s.heap s.heap [] := va_S.rf
  have hE : entryFrame m args 4 = F0 m 0 ((lg_sl [.ref (b0 + 5), .int x1] ++ List.replicate (4 - (lg_sl [.ref (b0 + 5), .int x1]).length) Slot.unset).toArray) [] := by rw [hargs]; exact lg_entry_eq m _ _
  rw [hE]
  have hl := lv_entry [.ref (b0 + 5), .int x1] (n := 4) (Nat.le_of_ble_eq_true rfl)
  generalize (lg_sl [.ref (b0 + 5), .int x1] ++ List.replicate (4 - (lg_sl [.ref (b0 + 5), .int x1]).length) Slot.unset).toArray = ls at hl ⊢
  have hl : lv_has ls 4 [(0, .ref (b0 + 5)), (1, .int x1)] := hl
  have j4 : ∀ (n4 : Nat), ∀ (S : St) (a2 : Int32), ∀ (H : Heap) (locs : List Loc) (ls : Array Slot), wp_X4_countConversionsBackwards_4 x1 P n4 S a2 → HP D cy b0 NALL S H → Fx S → va_S (AA b0) s.heap H locs → lv_has ls 4 [(0, .ref (b0 + 5)), (1, .int x1), (2, .int a2)] → W p l e rm_X4_countConversionsBackwards s m args below meth c H locs 0 0 (MQ below (QC (Pv P) (Wb D cy b0 NALL) b0) args s 0 0 (AA b0)) (F0 m 4 ls []) := by
    intro n4
    induction n4 with
    | zero => intro S a2  H locs ls hw _ _ _ _; exact False.elim hw
    | succ n4 ih4 =>
      have j45 : ∀ (S : St) (a2 : Int32), ∀ (H : Heap) (locs : List Loc) (ls : Array Slot), wp_X4_countConversionsBackwards_45 x1 P (fun S a2 => wp_X4_countConversionsBackwards_4 x1 P n4 S a2) S a2 → HP D cy b0 NALL S H → Fx S → va_S (AA b0) s.heap H locs → lv_has ls 4 [(0, .ref (b0 + 5)), (1, .int x1), (2, .int a2)] → W p l e rm_X4_countConversionsBackwards s m args below meth c H locs 0 0 (MQ below (QC (Pv P) (Wb D cy b0 NALL) b0) args s 0 0 (AA b0)) (F0 m 45 ls []) := by
        intro S a2  H locs ls hw hP hF hS hl
        unfold wp_X4_countConversionsBackwards_45 at hw
        obtain ⟨y45, e45⟩ : ∃ z : Int32, z = a2 + (-1) := ⟨_, rfl⟩
        have hw := hw y45 e45
        refine lv_iinc (v := y45) (lv' := [(2, .int y45), (0, .ref (b0 + 5)), (1, .int x1)]) hx hb dX4_countConversionsBackwards_45 hl (k := 2) rfl (by rw [e45]; rfl) (by decide) rfl (fun ls hl => ?_)
        refine lv_goto (tgt := 4) hx hb dX4_countConversionsBackwards_48 (by decide) ?_
        exact ih4 S y45  _ _ _ hw hP hF hS (lv_sub hl [1, 2, 0] rfl)
      have j10 : ∀ (n10 : Nat), ∀ (S : St) (a2 : Int32) (a3 : Int32), ∀ (H : Heap) (locs : List Loc) (ls : Array Slot), wp_X4_countConversionsBackwards_10 x1 P (fun S a2 => wp_X4_countConversionsBackwards_4 x1 P n4 S a2) n10 S a2 a3 → HP D cy b0 NALL S H → Fx S → va_S (AA b0) s.heap H locs → lv_has ls 4 [(0, .ref (b0 + 5)), (1, .int x1), (2, .int a2), (3, .int a3)] → W p l e rm_X4_countConversionsBackwards s m args below meth c H locs 0 0 (MQ below (QC (Pv P) (Wb D cy b0 NALL) b0) args s 0 0 (AA b0)) (F0 m 10 ls []) := by
        intro n10
        induction n10 with
        | zero => intro S a2 a3  H locs ls hw _ _ _ _; exact False.elim hw
        | succ n10 ih10 =>
          intro S a2 a3  H locs ls hw hP hF hS hl
          rw [wp_X4_countConversionsBackwards_10] at hw
          refine lv_iload_n hx hb dX4_countConversionsBackwards_10 rfl (lv_at hl 3 rfl) ?_
          refine lv_iload_n hx hb dX4_countConversionsBackwards_11 rfl (lv_at hl 1 rfl) ?_
          refine lv_icmp_ge (x := a3) (y := x1) (tgt := 45) hx hb dX4_countConversionsBackwards_12 (by decide) (fun c12 => ?_) (fun c12 => ?_)
          · rw [if_pos c12] at hw
            exact j45 S a2  _ _ _ hw hP hF hS (lv_sub hl [0, 1, 2] rfl)
          · rw [if_neg c12] at hw
            refine lv_aload_n hx hb dX4_countConversionsBackwards_15 rfl (lv_at hl 0 rfl) ?_
            refine gf_4_10 (k := 5) hx hb hts (by decide +kernel) hown hK hP (by decide) (kk_5) (q := 10) (hF.1 5 10 10 ff_5_10) (hts (.fieldLink RX4 27 "Opticmesh$WayFinder" "within" "[[I") (by decide +kernel)) dX4_countConversionsBackwards_16 ?_
            refine lv_iload_n hx hb dX4_countConversionsBackwards_19 rfl (lv_at hl 2 rfl) ?_
            obtain ⟨h20, hw⟩ := hw
            refine q_aald11 (k := 10) (n := 7) (i := a2) hx hb hK hP (by decide) (kk_10) (ll_10) h20 dX4_countConversionsBackwards_20 ?_
            rw [rf_some (hF.1 10 _ _ (fx_10 (vp_lt h20)))]
            refine lv_iload_n hx hb dX4_countConversionsBackwards_21 rfl (lv_at hl 3 rfl) ?_
            refine lv_aload_n hx hb dX4_countConversionsBackwards_22 rfl (lv_at hl 0 rfl) ?_
            refine gf_4_8 (k := 5) hx hb hts (by decide +kernel) hown hK hP (by decide) (kk_5) (q := 8) (hF.1 5 8 8 ff_5_8) (hts (.fieldLink RX4 18 "Opticmesh$WayFinder" "openOnTrail" "[I") (by decide +kernel)) dX4_countConversionsBackwards_23 ?_
            refine lv_iload_n hx hb dX4_countConversionsBackwards_26 rfl (lv_at hl 2 rfl) ?_
            obtain ⟨h27, hw⟩ := hw
            refine q_iald (k := 8) (n := 7) (i := a2) hx hb hK hP (by decide) (kk_8) (ll_8) h27 dX4_countConversionsBackwards_27 ?_
            refine lv_aload_n hx hb dX4_countConversionsBackwards_28 rfl (lv_at hl 0 rfl) ?_
            refine lv_iload_n hx hb dX4_countConversionsBackwards_29 rfl (lv_at hl 2 rfl) ?_
            refine lv_iconst (v := 1) hx hb dX4_countConversionsBackwards_30 (by decide) ?_
            refine lv_iadd hx hb dX4_countConversionsBackwards_31 ?_
            refine lv_iload_n hx hb dX4_countConversionsBackwards_32 rfl (lv_at hl 1 rfl) ?_
            refine lv_iload_n hx hb dX4_countConversionsBackwards_33 rfl (lv_at hl 3 rfl) ?_
            refine q_call (va_runV (As := [.int (a2 + 1), .int x1, .int a3]) (rest := [.int (gI S 8 (a2.toNatClampNeg)), .int a3, .ref (b0 + (11 + (a2.toNatClampNeg)))]) ⟨hx, hb, hml, hown, hts⟩ (c_X4_leadingOn l D cy b0 S (a2 + 1) x1 a3 _ hw) (cwV 3 hts gX4_countConversionsBackwards_X4_leadingOn rfl rfl rfl (by decide +kernel) ⟨(Nat.le_of_ble_eq_true rfl), (Nat.le_of_ble_eq_true rfl)⟩) (q_pV hW hP hF hS (k := 5) (ci := 4) (by decide) (cell_4 (kk_5)) rfl [.int (a2 + 1), .int x1, .int a3]) rfl rfl hl.1 rfl (lv_room (Nat.le_of_ble_eq_true rfl)) dX4_countConversionsBackwards_34 ⟨(Nat.le_of_ble_eq_true rfl), (Nat.le_of_ble_eq_true rfl)⟩) hS (fun v34 S34 t34 H locs hh hp hB hz hk9 hS => ?_)
            obtain ⟨r34, rfl, hw⟩ := hp
            have hP : HP D cy b0 NALL S34 H := by rw [← hh]; exact hB.1
            have hF := hB.2
            try dsimp only at hw
            refine W.eq (g2 := F0 m 37 ls [.int r34, .int (gI S 8 (a2.toNatClampNeg)), .int a3, .ref (b0 + (11 + (a2.toNatClampNeg)))]) rfl ?_
            refine lv_iand hx hb dX4_countConversionsBackwards_37 ?_
            obtain ⟨h38, hw⟩ := hw
            refine q_iast (k := (11 + (a2.toNatClampNeg))) (n := 7) (i := a3) (x := ((gI S 8 (a2.toNatClampNeg)) &&& r34)) hx hb hK hP hS (kd_N (kd_R (vp_lt h20)) (by decide)) (kd_R (vp_lt h20)) (ln_R (vp_lt h20)) h38 dX4_countConversionsBackwards_38 (fun H locs hz hP hS => ?_)
            have hF : Fx (sI S34 (11 + (a2.toNatClampNeg)) (a3.toNatClampNeg) ((gI S 8 (a2.toNatClampNeg)) &&& r34)) := Fx.sI hF _ _ _
            generalize eS38 : sI S34 (11 + (a2.toNatClampNeg)) (a3.toNatClampNeg) ((gI S 8 (a2.toNatClampNeg)) &&& r34) = S38 at hP hF
            have hw := hw S38 eS38.symm
            obtain ⟨y39, e39⟩ : ∃ z : Int32, z = a3 + 1 := ⟨_, rfl⟩
            have hw := hw y39 e39
            refine lv_iinc (v := y39) (lv' := [(3, .int y39), (0, .ref (b0 + 5)), (1, .int x1), (2, .int a2)]) hx hb dX4_countConversionsBackwards_39 hl (k := 3) rfl (by rw [e39]; rfl) (by decide) rfl (fun ls hl => ?_)
            refine lv_goto (tgt := 10) hx hb dX4_countConversionsBackwards_42 (by decide) ?_
            exact ih10 S38 a2 y39  _ _ _ hw hP hF hS (lv_sub hl [1, 2, 3, 0] rfl)
      intro S a2  H locs ls hw hP hF hS hl
      rw [wp_X4_countConversionsBackwards_4] at hw
      refine lv_iload_n hx hb dX4_countConversionsBackwards_4 rfl (lv_at hl 2 rfl) ?_
      refine lv_if_lt (x := a2) (tgt := 51) hx hb dX4_countConversionsBackwards_5 (by decide) (fun c5 => ?_) (fun c5 => ?_)
      · rw [if_pos c5] at hw
        exact q_vret hx hb hr hP hF hS hw dX4_countConversionsBackwards_51 hlocks
      · rw [if_neg c5] at hw
        refine lv_iconst (v := 0) hx hb dX4_countConversionsBackwards_8 (by decide) ?_
        refine lv_istore_n (lv' := [(3, .int 0), (0, .ref (b0 + 5)), (1, .int x1), (2, .int a2)]) hx hb dX4_countConversionsBackwards_9 rfl hl (by decide) rfl (fun ls hl => ?_)
        obtain ⟨n10, hw⟩ := hw
        exact j10 n10 S a2 0  _ _ _ hw hP hF hS (lv_sub hl [1, 2, 3, 0] rfl)
  unfold wp_X4_countConversionsBackwards at hw
  refine lv_iload_n hx hb dX4_countConversionsBackwards_0 rfl (lv_at hl 1 rfl) ?_
  refine lv_iconst (v := 1) hx hb dX4_countConversionsBackwards_1 (by decide) ?_
  refine lv_isub hx hb dX4_countConversionsBackwards_2 ?_
  refine lv_topi (fun y3 e3 => ?_)
  have hw := hw y3 e3
  refine lv_istore_n (lv' := [(2, .int y3), (0, .ref (b0 + 5)), (1, .int x1)]) hx hb dX4_countConversionsBackwards_3 rfl hl (by decide) rfl (fun ls hl => ?_)
  obtain ⟨n4, hw⟩ := hw
  exact j4 n4 S y3  _ _ _ hw hP hF hS (lv_sub hl [1, 2, 0] rfl)
set_option maxHeartbeats 4000000 in
set_option maxRecDepth 100000 in
theorem c_X4_takeLowestWavelengths (l : Launch) (D : va_G) (cy : Nat → ClassId) (b0 : Nat) (S : St) (x1 : Nat) (x2 : Int32) (x3 : Int32) (hk1 : kd x1 = 3) (P : St → Prop) (hw : wp_X4_takeLowestWavelengths S x1 x2 x3 P) : Met l yX4_takeLowestWavelengths wsX4_takeLowestWavelengths rm_X4_takeLowestWavelengths (va_Pc [.ref (b0 + 5), .ref (b0 + x1), .int x2, .int x3] (Wd D cy b0 NALL S)) (QC (Pv P) (Wb D cy b0 NALL) b0) 0 0 (AA b0) := by
  refine Met.ofW (cc := cX4_takeLowestWavelengths) (maxL := 10) (ret := none) (by decide) rfl ?_
  intro p e s m args below meth c s₁ B hml hv
  obtain ⟨hargs, hW, hP, hF⟩ := hv
  have hx := B.exec
  have hb := B.bytes
  have hr := B.returns
  have hts := atoms_spec (ws := wsX4_takeLowestWavelengths) B.pre
  have hown : s.vm.findClass RX4 = some m.cls := findClass_of_methodNamed B.named
  have hlocks := B.notSynchronized
  have hK := hW.1
  have hS : va_S (AA b0) s.heap s.heap [] := va_S.rf
  have hE : entryFrame m args 10 = F0 m 0 ((lg_sl [.ref (b0 + 5), .ref (b0 + x1), .int x2, .int x3] ++ List.replicate (10 - (lg_sl [.ref (b0 + 5), .ref (b0 + x1), .int x2, .int x3]).length) Slot.unset).toArray) [] := by rw [hargs]; exact lg_entry_eq m _ _
  rw [hE]
  have hl := lv_entry [.ref (b0 + 5), .ref (b0 + x1), .int x2, .int x3] (n := 10) (Nat.le_of_ble_eq_true rfl)
  generalize (lg_sl [.ref (b0 + 5), .ref (b0 + x1), .int x2, .int x3] ++ List.replicate (10 - (lg_sl [.ref (b0 + 5), .ref (b0 + x1), .int x2, .int x3]).length) Slot.unset).toArray = ls at hl ⊢
  have hl : lv_has ls 10 [(0, .ref (b0 + 5)), (1, .ref (b0 + x1)), (2, .int x2), (3, .int x3)] := hl
  have j32 : ∀ (n32 : Nat), ∀ (S : St) (a4 : Int32) (a5 : Int32) (a6 : Int32), ∀ (H : Heap) (locs : List Loc) (ls : Array Slot), wp_X4_takeLowestWavelengths_32 x1 x2 x3 P n32 S a4 a5 a6 → HP D cy b0 NALL S H → Fx S → va_S (AA b0) s.heap H locs → lv_has ls 10 [(0, .ref (b0 + 5)), (1, .ref (b0 + x1)), (2, .int x2), (4, .int a4), (5, .int a5), (6, .int a6)] → W p l e rm_X4_takeLowestWavelengths s m args below meth c H locs 0 0 (MQ below (QC (Pv P) (Wb D cy b0 NALL) b0) args s 0 0 (AA b0)) (F0 m 32 ls []) := by
    intro n32
    induction n32 with
    | zero => intro S a4 a5 a6  H locs ls hw _ _ _ _; exact False.elim hw
    | succ n32 ih32 =>
      have j122 : ∀ (S : St) (a4 : Int32) (a6 : Int32) (a9 : Int32), ∀ (H : Heap) (locs : List Loc) (ls : Array Slot), wp_X4_takeLowestWavelengths_122 x1 x2 x3 P (fun S a4 a5 a6 => wp_X4_takeLowestWavelengths_32 x1 x2 x3 P n32 S a4 a5 a6) S a4 a6 a9 → HP D cy b0 NALL S H → Fx S → va_S (AA b0) s.heap H locs → lv_has ls 10 [(0, .ref (b0 + 5)), (1, .ref (b0 + x1)), (2, .int x2), (4, .int a4), (6, .int a6), (9, .int a9)] → W p l e rm_X4_takeLowestWavelengths s m args below meth c H locs 0 0 (MQ below (QC (Pv P) (Wb D cy b0 NALL) b0) args s 0 0 (AA b0)) (F0 m 122 ls []) := by
        intro S a4 a6 a9  H locs ls hw hP hF hS hl
        unfold wp_X4_takeLowestWavelengths_122 at hw
        refine lv_iload hx hb dX4_takeLowestWavelengths_122 (lv_at hl 5 rfl) ?_
        refine lv_istore (lv' := [(5, .int a9), (0, .ref (b0 + 5)), (1, .ref (b0 + x1)), (2, .int x2), (4, .int a4), (6, .int a6), (9, .int a9)]) hx hb dX4_takeLowestWavelengths_124 hl (by decide) rfl (fun ls hl => ?_)
        refine lv_aload_n hx hb dX4_takeLowestWavelengths_126 rfl (lv_at hl 2 rfl) ?_
        refine lv_aload_n hx hb dX4_takeLowestWavelengths_127 rfl (lv_at hl 1 rfl) ?_
        refine gf_4_7 (k := 5) hx hb hts (by decide +kernel) hown hK hP (by decide) (kk_5) (q := 7) (hF.1 5 7 7 ff_5_7) (hts (.fieldLink RX4 15 "Opticmesh$WayFinder" "trail" "[I") (by decide +kernel)) dX4_takeLowestWavelengths_128 ?_
        refine lv_iload hx hb dX4_takeLowestWavelengths_131 (lv_at hl 5 rfl) ?_
        obtain ⟨h133, hw⟩ := hw
        refine q_iald (k := 7) (n := 7) (i := a6) hx hb hK hP (by decide) (kk_7) (ll_7) h133 dX4_takeLowestWavelengths_133 ?_
        refine lv_iload hx hb dX4_takeLowestWavelengths_134 (lv_at hl 0 rfl) ?_
        refine q_call (va_runV (As := [.int (gI S 7 (a6.toNatClampNeg)), .int a9]) (rest := []) ⟨hx, hb, hml, hown, hts⟩ (c_X3_append l D cy b0 S x1 (gI S 7 (a6.toNatClampNeg)) a9 hk1 _ hw) (cwV 2 hts gX4_takeLowestWavelengths_X3_append rfl rfl rfl (by decide +kernel) ⟨(Nat.le_of_ble_eq_true rfl), (Nat.le_of_ble_eq_true rfl)⟩) (q_pV hW hP hF hS (k := x1) (ci := 3) (kd_N hk1 (by decide)) (cell_3 hk1) rfl [.int (gI S 7 (a6.toNatClampNeg)), .int a9]) rfl rfl hl.1 rfl (lv_room (Nat.le_of_ble_eq_true rfl)) dX4_takeLowestWavelengths_136 ⟨(Nat.le_of_ble_eq_true rfl), (Nat.le_of_ble_eq_true rfl)⟩) hS (fun v136 S136 t136 H locs hh hp hB hz hk9 hS => ?_)
        obtain ⟨rfl, hw⟩ := hp
        have hP : HP D cy b0 NALL S136 H := by rw [← hh]; exact hB.1
        have hF := hB.2
        try dsimp only at hw
        refine W.eq (g2 := F0 m 139 ls []) rfl ?_
        obtain ⟨y139, e139⟩ : ∃ z : Int32, z = a6 + 1 := ⟨_, rfl⟩
        have hw := hw y139 e139
        refine lv_iinc (v := y139) (lv' := [(6, .int y139), (5, .int a9), (0, .ref (b0 + 5)), (1, .ref (b0 + x1)), (2, .int x2), (4, .int a4), (9, .int a9)]) hx hb dX4_takeLowestWavelengths_139 hl (k := 5) rfl (by rw [e139]; rfl) (by decide) rfl (fun ls hl => ?_)
        refine lv_goto (tgt := 32) hx hb dX4_takeLowestWavelengths_142 (by decide) ?_
        exact ih32 S136 a4 a9 y139  _ _ _ hw hP hF hS (lv_sub hl [2, 3, 4, 5, 1, 0] rfl)
      have j102 : ∀ (S : St) (a4 : Int32) (a5 : Int32) (a6 : Int32) (a7 : Bool) (t0 : Int32), ∀ (H : Heap) (locs : List Loc) (ls : Array Slot), wp_X4_takeLowestWavelengths_102 x1 x2 x3 P (fun S a4 a5 a6 => wp_X4_takeLowestWavelengths_32 x1 x2 x3 P n32 S a4 a5 a6) S a4 a5 a6 a7 t0 → HP D cy b0 NALL S H → Fx S → va_S (AA b0) s.heap H locs → lv_has ls 10 [(0, .ref (b0 + 5)), (1, .ref (b0 + x1)), (2, .int x2), (4, .int a4), (5, .int a5), (6, .int a6), (7, .int (b2i a7))] → W p l e rm_X4_takeLowestWavelengths s m args below meth c H locs 0 0 (MQ below (QC (Pv P) (Wb D cy b0 NALL) b0) args s 0 0 (AA b0)) (F0 m 102 ls [.int t0]) := by
        intro S a4 a5 a6 a7 t0  H locs ls hw hP hF hS hl
        unfold wp_X4_takeLowestWavelengths_102 at hw
        refine q_call (va_runSN (As := [.int t0]) (rest := []) ⟨hx, hb, hml, hown, hts⟩ (c_X5_lowestIn l D cy b0 S t0 _ hw) ⟨va_cnB (host := "Opticmesh") 1 hts (fun w h => (gX4_takeLowestWavelengths_X5_lowestIn_n116 w h)) rfl rfl rfl (hW.2.2.2.2.1 (RX4, 116, yX5_lowestIn, "Opticmesh") (by decide)) (hts (.initialized RX5) (by decide +kernel)) (by decide +kernel) ⟨(Nat.le_of_ble_eq_true rfl), (Nat.le_of_ble_eq_true rfl)⟩, hts (.static yX5_lowestIn) (by decide +kernel), trivial⟩ (q_pS hW hP hF hS [.int t0]) rfl rfl hl.1 rfl (lv_room (Nat.le_of_ble_eq_true rfl)) dX4_takeLowestWavelengths_102 ⟨(Nat.le_of_ble_eq_true rfl), (Nat.le_of_ble_eq_true rfl)⟩) hS (fun v102 S102 t102 H locs hh hp hB hz hk9 hS => ?_)
        obtain ⟨r102, rfl, hw⟩ := hp
        have hP : HP D cy b0 NALL S102 H := by rw [← hh]; exact hB.1
        have hF := hB.2
        try dsimp only at hw
        refine W.eq (g2 := F0 m 105 ls [.int r102]) rfl ?_
        refine lv_istore (lv' := [(9, .int r102), (0, .ref (b0 + 5)), (1, .ref (b0 + x1)), (2, .int x2), (4, .int a4), (5, .int a5), (6, .int a6), (7, .int (b2i a7))]) hx hb dX4_takeLowestWavelengths_105 hl (by decide) rfl (fun ls hl => ?_)
        refine lv_iload hx hb dX4_takeLowestWavelengths_107 (lv_at hl 7 rfl) ?_
        refine lv_if_eq (x := b2i a7) (tgt := 122) hx hb dX4_takeLowestWavelengths_109 (by decide) (fun c109 => ?_) (fun c109 => ?_)
        · have c109 := b2i_z c109
          rw [if_neg c109] at hw
          exact j122 S102 a4 a6 r102  _ _ _ hw hP hF hS (lv_sub hl [1, 2, 3, 4, 6, 0] rfl)
        · have c109 := b2i_n c109
          rw [if_pos c109] at hw
          refine lv_iload hx hb dX4_takeLowestWavelengths_112 (lv_at hl 0 rfl) ?_
          refine lv_iload hx hb dX4_takeLowestWavelengths_114 (lv_at hl 5 rfl) ?_
          refine lv_icmp_eq (x := r102) (y := a5) (tgt := 122) hx hb dX4_takeLowestWavelengths_116 (by decide) (fun c116 => ?_) (fun c116 => ?_)
          · rw [if_pos c116] at hw
            exact j122 S102 a4 a6 r102  _ _ _ hw hP hF hS (lv_sub hl [1, 2, 3, 4, 6, 0] rfl)
          · rw [if_neg c116] at hw
            obtain ⟨y119, e119⟩ : ∃ z : Int32, z = a4 + (-1) := ⟨_, rfl⟩
            have hw := hw y119 e119
            refine lv_iinc (v := y119) (lv' := [(4, .int y119), (9, .int r102), (0, .ref (b0 + 5)), (1, .ref (b0 + x1)), (2, .int x2), (5, .int a5), (6, .int a6), (7, .int (b2i a7))]) hx hb dX4_takeLowestWavelengths_119 hl (k := 4) rfl (by rw [e119]; rfl) (by decide) rfl (fun ls hl => ?_)
            exact j122 S102 y119 a6 r102  _ _ _ hw hP hF hS (lv_sub hl [2, 3, 4, 0, 6, 1] rfl)
      have j58 : ∀ (S : St) (a4 : Int32) (a5 : Int32) (a6 : Int32) (t0 : Bool), ∀ (H : Heap) (locs : List Loc) (ls : Array Slot), wp_X4_takeLowestWavelengths_58 x1 x2 x3 P (fun S a4 a5 a6 => wp_X4_takeLowestWavelengths_32 x1 x2 x3 P n32 S a4 a5 a6) S a4 a5 a6 t0 → HP D cy b0 NALL S H → Fx S → va_S (AA b0) s.heap H locs → lv_has ls 10 [(0, .ref (b0 + 5)), (1, .ref (b0 + x1)), (2, .int x2), (4, .int a4), (5, .int a5), (6, .int a6)] → W p l e rm_X4_takeLowestWavelengths s m args below meth c H locs 0 0 (MQ below (QC (Pv P) (Wb D cy b0 NALL) b0) args s 0 0 (AA b0)) (F0 m 58 ls [.int (b2i t0)]) := by
        intro S a4 a5 a6 t0  H locs ls hw hP hF hS hl
        unfold wp_X4_takeLowestWavelengths_58 at hw
        refine lv_istore (lv' := [(7, .int (b2i t0)), (0, .ref (b0 + 5)), (1, .ref (b0 + x1)), (2, .int x2), (4, .int a4), (5, .int a5), (6, .int a6)]) hx hb dX4_takeLowestWavelengths_58 hl (by decide) rfl (fun ls hl => ?_)
        refine lv_aload_n hx hb dX4_takeLowestWavelengths_60 rfl (lv_at hl 1 rfl) ?_
        refine gf_4_10 (k := 5) hx hb hts (by decide +kernel) hown hK hP (by decide) (kk_5) (q := 10) (hF.1 5 10 10 ff_5_10) (hts (.fieldLink RX4 27 "Opticmesh$WayFinder" "within" "[[I") (by decide +kernel)) dX4_takeLowestWavelengths_61 ?_
        refine lv_iload hx hb dX4_takeLowestWavelengths_64 (lv_at hl 6 rfl) ?_
        obtain ⟨h66, hw⟩ := hw
        refine q_aald11 (k := 10) (n := 7) (i := a6) hx hb hK hP (by decide) (kk_10) (ll_10) h66 dX4_takeLowestWavelengths_66 ?_
        rw [rf_some (hF.1 10 _ _ (fx_10 (vp_lt h66)))]
        refine lv_iload hx hb dX4_takeLowestWavelengths_67 (lv_at hl 4 rfl) ?_
        obtain ⟨h69, hw⟩ := hw
        refine q_iald (k := (11 + (a6.toNatClampNeg))) (n := 7) (i := a4) hx hb hK hP (kd_N (kd_R (vp_lt h66)) (by decide)) (kd_R (vp_lt h66)) (ln_R (vp_lt h66)) h69 dX4_takeLowestWavelengths_69 ?_
        refine lv_iconst (v := 1) hx hb dX4_takeLowestWavelengths_70 (by decide) ?_
        refine lv_iload hx hb dX4_takeLowestWavelengths_71 (lv_at hl 5 rfl) ?_
        refine lv_ishl hx hb dX4_takeLowestWavelengths_73 ?_
        refine lv_iand hx hb dX4_takeLowestWavelengths_74 ?_
        refine lv_topi (fun y75 e75 => ?_)
        have hw := hw y75 e75
        refine lv_istore (lv' := [(8, .int y75), (7, .int (b2i t0)), (0, .ref (b0 + 5)), (1, .ref (b0 + x1)), (2, .int x2), (4, .int a4), (5, .int a5), (6, .int a6)]) hx hb dX4_takeLowestWavelengths_75 hl (by decide) rfl (fun ls hl => ?_)
        refine lv_iload hx hb dX4_takeLowestWavelengths_77 (lv_at hl 1 rfl) ?_
        refine lv_if_eq (x := b2i t0) (tgt := 100) hx hb dX4_takeLowestWavelengths_79 (by decide) (fun c79 => ?_) (fun c79 => ?_)
        · have c79 := b2i_z c79
          rw [if_neg c79] at hw
          refine lv_iload hx hb dX4_takeLowestWavelengths_100 (lv_at hl 0 rfl) ?_
          exact j102 S a4 a5 a6 t0 y75  _ _ _ hw hP hF hS (lv_sub hl [2, 3, 4, 5, 6, 7, 1] rfl)
        · have c79 := b2i_n c79
          rw [if_pos c79] at hw
          refine lv_iload hx hb dX4_takeLowestWavelengths_82 (lv_at hl 0 rfl) ?_
          refine lv_aload_n hx hb dX4_takeLowestWavelengths_84 rfl (lv_at hl 2 rfl) ?_
          refine gf_4_10 (k := 5) hx hb hts (by decide +kernel) hown hK hP (by decide) (kk_5) (q := 10) (hF.1 5 10 10 ff_5_10) (hts (.fieldLink RX4 27 "Opticmesh$WayFinder" "within" "[[I") (by decide +kernel)) dX4_takeLowestWavelengths_85 ?_
          refine lv_iload hx hb dX4_takeLowestWavelengths_88 (lv_at hl 7 rfl) ?_
          obtain ⟨h90, hw⟩ := hw
          refine q_aald11 (k := 10) (n := 7) (i := a6) hx hb hK hP (by decide) (kk_10) (ll_10) h90 dX4_takeLowestWavelengths_90 ?_
          rw [rf_some (hF.1 10 _ _ (fx_10 (vp_lt h90)))]
          refine lv_iload hx hb dX4_takeLowestWavelengths_91 (lv_at hl 5 rfl) ?_
          refine lv_iconst (v := 1) hx hb dX4_takeLowestWavelengths_93 (by decide) ?_
          refine lv_isub hx hb dX4_takeLowestWavelengths_94 ?_
          obtain ⟨h95, hw⟩ := hw
          refine q_iald (k := (11 + (a6.toNatClampNeg))) (n := 7) (i := (a4 - 1)) hx hb hK hP (kd_N (kd_R (vp_lt h90)) (by decide)) (kd_R (vp_lt h90)) (ln_R (vp_lt h90)) h95 dX4_takeLowestWavelengths_95 ?_
          refine lv_ior hx hb dX4_takeLowestWavelengths_96 ?_
          refine lv_goto (tgt := 102) hx hb dX4_takeLowestWavelengths_97 (by decide) ?_
          exact j102 S a4 a5 a6 t0 (y75 ||| (gI S (11 + (a6.toNatClampNeg)) ((a4 - 1).toNatClampNeg)))  _ _ _ hw hP hF hS (lv_sub hl [2, 3, 4, 5, 6, 7, 1] rfl)
      have j57 : ∀ (S : St) (a4 : Int32) (a5 : Int32) (a6 : Int32), ∀ (H : Heap) (locs : List Loc) (ls : Array Slot), wp_X4_takeLowestWavelengths_57 x1 x2 x3 P (fun S a4 a5 a6 => wp_X4_takeLowestWavelengths_32 x1 x2 x3 P n32 S a4 a5 a6) S a4 a5 a6 → HP D cy b0 NALL S H → Fx S → va_S (AA b0) s.heap H locs → lv_has ls 10 [(0, .ref (b0 + 5)), (1, .ref (b0 + x1)), (2, .int x2), (4, .int a4), (5, .int a5), (6, .int a6)] → W p l e rm_X4_takeLowestWavelengths s m args below meth c H locs 0 0 (MQ below (QC (Pv P) (Wb D cy b0 NALL) b0) args s 0 0 (AA b0)) (F0 m 57 ls []) := by
        intro S a4 a5 a6  H locs ls hw hP hF hS hl
        unfold wp_X4_takeLowestWavelengths_57 at hw
        refine lv_iconst (v := 0) hx hb dX4_takeLowestWavelengths_57 (by decide) ?_
        exact j58 S a4 a5 a6 false  _ _ _ hw hP hF hS (lv_sub hl [0, 1, 2, 3, 4, 5] rfl)
      intro S a4 a5 a6  H locs ls hw hP hF hS hl
      rw [wp_X4_takeLowestWavelengths_32] at hw
      refine lv_iload hx hb dX4_takeLowestWavelengths_32 (lv_at hl 5 rfl) ?_
      refine lv_iload_n hx hb dX4_takeLowestWavelengths_34 rfl (lv_at hl 2 rfl) ?_
      refine lv_icmp_ge (x := a6) (y := x2) (tgt := 145) hx hb dX4_takeLowestWavelengths_35 (by decide) (fun c35 => ?_) (fun c35 => ?_)
      · rw [if_pos c35] at hw
        exact q_vret hx hb hr hP hF hS hw dX4_takeLowestWavelengths_145 hlocks
      · rw [if_neg c35] at hw
        refine lv_iload hx hb dX4_takeLowestWavelengths_38 (lv_at hl 3 rfl) ?_
        refine lv_if_le (x := a4) (tgt := 57) hx hb dX4_takeLowestWavelengths_40 (by decide) (fun c40 => ?_) (fun c40 => ?_)
        · rw [if_pos c40] at hw
          exact j57 S a4 a5 a6  _ _ _ hw hP hF hS (lv_sub hl [0, 1, 2, 3, 4, 5] rfl)
        · rw [if_neg c40] at hw
          refine lv_aload_n hx hb dX4_takeLowestWavelengths_43 rfl (lv_at hl 0 rfl) ?_
          refine gf_4_9 (k := 5) hx hb hts (by decide +kernel) hown hK hP (by decide) (kk_5) (q := 9) (hF.1 5 9 9 ff_5_9) (hts (.fieldLink RX4 21 "Opticmesh$WayFinder" "convertsBefore" "[Z") (by decide +kernel)) dX4_takeLowestWavelengths_44 ?_
          refine lv_iload hx hb dX4_takeLowestWavelengths_47 (lv_at hl 5 rfl) ?_
          obtain ⟨h49, hw⟩ := hw
          refine q_zald (k := 9) (n := 7) (i := a6) hx hb hK hP (by decide) (kk_9) (ll_9) h49 dX4_takeLowestWavelengths_49 ?_
          refine lv_if_eq (x := (gI S 9 (a6.toNatClampNeg))) (tgt := 57) hx hb dX4_takeLowestWavelengths_50 (by decide) (fun c50 => ?_) (fun c50 => ?_)
          · rw [if_pos c50] at hw
            exact j57 S a4 a5 a6  _ _ _ hw hP hF hS (lv_sub hl [0, 1, 2, 3, 4, 5] rfl)
          · rw [if_neg c50] at hw
            refine lv_iconst (v := 1) hx hb dX4_takeLowestWavelengths_53 (by decide) ?_
            refine lv_goto (tgt := 58) hx hb dX4_takeLowestWavelengths_54 (by decide) ?_
            exact j58 S a4 a5 a6 true  _ _ _ hw hP hF hS (lv_sub hl [0, 1, 2, 3, 4, 5] rfl)
  unfold wp_X4_takeLowestWavelengths at hw
  refine lv_iload_n hx hb dX4_takeLowestWavelengths_0 rfl (lv_at hl 3 rfl) ?_
  refine lv_istore (lv' := [(4, .int x3), (0, .ref (b0 + 5)), (1, .ref (b0 + x1)), (2, .int x2), (3, .int x3)]) hx hb dX4_takeLowestWavelengths_1 hl (by decide) rfl (fun ls hl => ?_)
  refine lv_aload_n hx hb dX4_takeLowestWavelengths_3 rfl (lv_at hl 1 rfl) ?_
  refine gf_4_10 (k := 5) hx hb hts (by decide +kernel) hown hK hP (by decide) (kk_5) (q := 10) (hF.1 5 10 10 ff_5_10) (hts (.fieldLink RX4 27 "Opticmesh$WayFinder" "within" "[[I") (by decide +kernel)) dX4_takeLowestWavelengths_4 ?_
  refine lv_iconst (v := 0) hx hb dX4_takeLowestWavelengths_7 (by decide) ?_
  obtain ⟨h8, hw⟩ := hw
  refine q_aald11 (k := 10) (n := 7) (i := 0) hx hb hK hP (by decide) (kk_10) (ll_10) h8 dX4_takeLowestWavelengths_8 ?_
  rw [rf_some (hF.1 10 _ _ (fx_10 (vp_lt h8)))]
  refine lv_iload hx hb dX4_takeLowestWavelengths_9 (lv_at hl 0 rfl) ?_
  obtain ⟨h11, hw⟩ := hw
  refine q_iald (k := (11 + ((0 : Int32).toNatClampNeg))) (n := 7) (i := x3) hx hb hK hP (kd_N (kd_R (vp_lt h8)) (by decide)) (kd_R (vp_lt h8)) (ln_R (vp_lt h8)) h11 dX4_takeLowestWavelengths_11 ?_
  refine q_call (va_runSN (As := [.int (gI S (11 + ((0 : Int32).toNatClampNeg)) (x3.toNatClampNeg))]) (rest := []) ⟨hx, hb, hml, hown, hts⟩ (c_X5_lowestIn l D cy b0 S (gI S (11 + ((0 : Int32).toNatClampNeg)) (x3.toNatClampNeg)) _ hw) ⟨va_cnB (host := "Opticmesh") 1 hts (fun w h => (gX4_takeLowestWavelengths_X5_lowestIn_n116 w h)) rfl rfl rfl (hW.2.2.2.2.1 (RX4, 116, yX5_lowestIn, "Opticmesh") (by decide)) (hts (.initialized RX5) (by decide +kernel)) (by decide +kernel) ⟨(Nat.le_of_ble_eq_true rfl), (Nat.le_of_ble_eq_true rfl)⟩, hts (.static yX5_lowestIn) (by decide +kernel), trivial⟩ (q_pS hW hP hF hS [.int (gI S (11 + ((0 : Int32).toNatClampNeg)) (x3.toNatClampNeg))]) rfl rfl hl.1 rfl (lv_room (Nat.le_of_ble_eq_true rfl)) dX4_takeLowestWavelengths_12 ⟨(Nat.le_of_ble_eq_true rfl), (Nat.le_of_ble_eq_true rfl)⟩) hS (fun v12 S12 t12 H locs hh hp hB hz hk9 hS => ?_)
  obtain ⟨r12, rfl, hw⟩ := hp
  have hP : HP D cy b0 NALL S12 H := by rw [← hh]; exact hB.1
  have hF := hB.2
  try dsimp only at hw
  refine W.eq (g2 := F0 m 15 ls [.int r12]) rfl ?_
  refine lv_istore (lv' := [(5, .int r12), (4, .int x3), (0, .ref (b0 + 5)), (1, .ref (b0 + x1)), (2, .int x2), (3, .int x3)]) hx hb dX4_takeLowestWavelengths_15 hl (by decide) rfl (fun ls hl => ?_)
  refine lv_aload_n hx hb dX4_takeLowestWavelengths_17 rfl (lv_at hl 3 rfl) ?_
  refine lv_aload_n hx hb dX4_takeLowestWavelengths_18 rfl (lv_at hl 2 rfl) ?_
  refine gf_4_7 (k := 5) hx hb hts (by decide +kernel) hown hK hP (by decide) (kk_5) (q := 7) (hF.1 5 7 7 ff_5_7) (hts (.fieldLink RX4 15 "Opticmesh$WayFinder" "trail" "[I") (by decide +kernel)) dX4_takeLowestWavelengths_19 ?_
  refine lv_iconst (v := 0) hx hb dX4_takeLowestWavelengths_22 (by decide) ?_
  obtain ⟨h23, hw⟩ := hw
  refine q_iald (k := 7) (n := 7) (i := 0) hx hb hK hP (by decide) (kk_7) (ll_7) h23 dX4_takeLowestWavelengths_23 ?_
  refine lv_iload hx hb dX4_takeLowestWavelengths_24 (lv_at hl 0 rfl) ?_
  refine q_call (va_runV (As := [.int (gI S12 7 ((0 : Int32).toNatClampNeg)), .int r12]) (rest := []) ⟨hx, hb, hml, hown, hts⟩ (c_X3_append l D cy b0 S12 x1 (gI S12 7 ((0 : Int32).toNatClampNeg)) r12 hk1 _ hw) (cwV 2 hts gX4_takeLowestWavelengths_X3_append rfl rfl rfl (by decide +kernel) ⟨(Nat.le_of_ble_eq_true rfl), (Nat.le_of_ble_eq_true rfl)⟩) (q_pV hW hP hF hS (k := x1) (ci := 3) (kd_N hk1 (by decide)) (cell_3 hk1) rfl [.int (gI S12 7 ((0 : Int32).toNatClampNeg)), .int r12]) rfl rfl hl.1 rfl (lv_room (Nat.le_of_ble_eq_true rfl)) dX4_takeLowestWavelengths_26 ⟨(Nat.le_of_ble_eq_true rfl), (Nat.le_of_ble_eq_true rfl)⟩) hS (fun v26 S26 t26 H locs hh hp hB hz hk9 hS => ?_)
  obtain ⟨rfl, hw⟩ := hp
  have hP : HP D cy b0 NALL S26 H := by rw [← hh]; exact hB.1
  have hF := hB.2
  try dsimp only at hw
  refine W.eq (g2 := F0 m 29 ls []) rfl ?_
  refine lv_iconst (v := 1) hx hb dX4_takeLowestWavelengths_29 (by decide) ?_
  refine lv_istore (lv' := [(6, .int 1), (5, .int r12), (4, .int x3), (0, .ref (b0 + 5)), (1, .ref (b0 + x1)), (2, .int x2), (3, .int x3)]) hx hb dX4_takeLowestWavelengths_30 hl (by decide) rfl (fun ls hl => ?_)
  obtain ⟨n32, hw⟩ := hw
  exact j32 n32 S26 x3 r12 1  _ _ _ hw hP hF hS (lv_sub hl [3, 4, 5, 2, 1, 0] rfl)
set_option maxHeartbeats 4000000 in
set_option maxRecDepth 100000 in
theorem c_X4_keep (l : Launch) (D : va_G) (cy : Nat → ClassId) (b0 : Nat) (S : St) (x1 : Int32) (x2 : Int32)  (P : St → Prop) (hw : wp_X4_keep S x1 x2 P) : Met l yX4_keep wsX4_keep rm_X4_keep (va_Pc [.ref (b0 + 5), .int x1, .int x2] (Wd D cy b0 NALL S)) (QC (Pv P) (Wb D cy b0 NALL) b0) 0 0 (AA b0) := by
  refine Met.ofW (cc := cX4_keep) (maxL := 5) (ret := none) (by decide) rfl ?_
  intro p e s m args below meth c s₁ B hml hv
  obtain ⟨hargs, hW, hP, hF⟩ := hv
  have hx := B.exec
  have hb := B.bytes
  have hr := B.returns
  have hts := atoms_spec (ws := wsX4_keep) B.pre
  have hown : s.vm.findClass RX4 = some m.cls := findClass_of_methodNamed B.named
  have hlocks := B.notSynchronized
  have hK := hW.1
  have hS : va_S (AA b0) s.heap s.heap [] := va_S.rf
  have hE : entryFrame m args 5 = F0 m 0 ((lg_sl [.ref (b0 + 5), .int x1, .int x2] ++ List.replicate (5 - (lg_sl [.ref (b0 + 5), .int x1, .int x2]).length) Slot.unset).toArray) [] := by rw [hargs]; exact lg_entry_eq m _ _
  rw [hE]
  have hl := lv_entry [.ref (b0 + 5), .int x1, .int x2] (n := 5) (Nat.le_of_ble_eq_true rfl)
  generalize (lg_sl [.ref (b0 + 5), .int x1, .int x2] ++ List.replicate (5 - (lg_sl [.ref (b0 + 5), .int x1, .int x2]).length) Slot.unset).toArray = ls at hl ⊢
  have hl : lv_has ls 5 [(0, .ref (b0 + 5)), (1, .int x1), (2, .int x2)] := hl
  have j53 : ∀ (S : St) (a3 : Int32), ∀ (H : Heap) (locs : List Loc) (ls : Array Slot), wp_X4_keep_53 x1 x2 P S a3 → HP D cy b0 NALL S H → Fx S → va_S (AA b0) s.heap H locs → lv_has ls 5 [(0, .ref (b0 + 5)), (1, .int x1), (2, .int x2), (3, .int a3)] → W p l e rm_X4_keep s m args below meth c H locs 0 0 (MQ below (QC (Pv P) (Wb D cy b0 NALL) b0) args s 0 0 (AA b0)) (F0 m 53 ls []) := by
    intro S a3  H locs ls hw hP hF hS hl
    unfold wp_X4_keep_53 at hw
    refine lv_aload_n hx hb dX4_keep_53 rfl (lv_at hl 0 rfl) ?_
    refine gf_4_11 (k := 5) hx hb hts (by decide +kernel) hown hK hP (by decide) (kk_5) (q := 18) (hF.1 5 11 18 ff_5_11) (hts (.fieldLink RX4 32 "Opticmesh$WayFinder" "kept" "[LOpticmesh$Way;") (by decide +kernel)) dX4_keep_54 ?_
    refine lv_aload_n hx hb dX4_keep_57 rfl (lv_at hl 0 rfl) ?_
    refine gf_4_12 (k := 5) hx hb hts (by decide +kernel) hown hK hP (by decide) (kk_5) (hts (.fieldLink RX4 65 "Opticmesh$WayFinder" "keptCount" "I") (by decide +kernel)) dX4_keep_58 ?_
    obtain ⟨h61, hw⟩ := hw
    refine q_aald10 (k := 18) (n := 162) (i := (gI S 5 12)) hx hb hK hP (by decide) (kk_18) (ll_18) h61 dX4_keep_61 ?_
    rw [rf_some (hF.1 18 _ _ (fx_18 (vp_lt h61)))]
    refine lv_astore (lv' := [(4, .ref (b0 + (19 + ((gI S 5 12).toNatClampNeg)))), (0, .ref (b0 + 5)), (1, .int x1), (2, .int x2), (3, .int a3)]) hx hb dX4_keep_62 hl (by decide) rfl (fun ls hl => ?_)
    refine lv_aload_n hx hb dX4_keep_64 rfl (lv_at hl 1 rfl) ?_
    refine lv_dup hx hb dX4_keep_65 rfl ?_
    refine gf_4_12 (k := 5) hx hb hts (by decide +kernel) hown hK hP (by decide) (kk_5) (hts (.fieldLink RX4 65 "Opticmesh$WayFinder" "keptCount" "I") (by decide +kernel)) dX4_keep_66 ?_
    refine lv_iconst (v := 1) hx hb dX4_keep_69 (by decide) ?_
    refine lv_iadd hx hb dX4_keep_70 ?_
    refine pf_4_12 (k := 5) (x := ((gI S 5 12) + 1)) hx hb hts (by decide +kernel) hown hK hP hS (by decide) (kk_5) (hts (.fieldLink RX4 65 "Opticmesh$WayFinder" "keptCount" "I") (by decide +kernel)) dX4_keep_71 (fun H locs hz hP hS => ?_)
    have hF : Fx (sI S 5 12 ((gI S 5 12) + 1)) := Fx.sI hF _ _ _
    generalize eS71 : sI S 5 12 ((gI S 5 12) + 1) = S71 at hP hF
    have hw := hw S71 eS71.symm
    refine lv_aload hx hb dX4_keep_74 (lv_at hl 0 rfl) ?_
    refine lv_iload_n hx hb dX4_keep_76 rfl (lv_at hl 3 rfl) ?_
    refine lv_iload_n hx hb dX4_keep_77 rfl (lv_at hl 4 rfl) ?_
    refine q_call (va_runV (As := [.int x2, .int a3]) (rest := []) ⟨hx, hb, hml, hown, hts⟩ (c_X3_start l D cy b0 S71 (19 + ((gI S 5 12).toNatClampNeg)) x2 a3 (kd_W (vp_lt h61)) _ hw) (cwV 2 hts gX4_keep_X3_start rfl rfl rfl (by decide +kernel) ⟨(Nat.le_of_ble_eq_true rfl), (Nat.le_of_ble_eq_true rfl)⟩) (q_pV hW hP hF hS (k := (19 + ((gI S 5 12).toNatClampNeg))) (ci := 3) (kd_N (kd_W (vp_lt h61)) (by decide)) (cell_3 (kd_W (vp_lt h61))) rfl [.int x2, .int a3]) rfl rfl hl.1 rfl (lv_room (Nat.le_of_ble_eq_true rfl)) dX4_keep_78 ⟨(Nat.le_of_ble_eq_true rfl), (Nat.le_of_ble_eq_true rfl)⟩) hS (fun v78 S78 t78 H locs hh hp hB hz hk9 hS => ?_)
    obtain ⟨rfl, hw⟩ := hp
    have hP : HP D cy b0 NALL S78 H := by rw [← hh]; exact hB.1
    have hF := hB.2
    try dsimp only at hw
    refine W.eq (g2 := F0 m 81 ls []) rfl ?_
    refine lv_aload_n hx hb dX4_keep_81 rfl (lv_at hl 1 rfl) ?_
    refine lv_aload hx hb dX4_keep_82 (lv_at hl 0 rfl) ?_
    refine lv_iload_n hx hb dX4_keep_84 rfl (lv_at hl 2 rfl) ?_
    refine lv_iload_n hx hb dX4_keep_85 rfl (lv_at hl 4 rfl) ?_
    refine q_call (va_runV (As := [.ref (b0 + (19 + ((gI S 5 12).toNatClampNeg))), .int x1, .int a3]) (rest := []) ⟨hx, hb, hml, hown, hts⟩ (c_X4_takeLowestWavelengths l D cy b0 S78 (19 + ((gI S 5 12).toNatClampNeg)) x1 a3 (kd_W (vp_lt h61)) _ hw) (cwV 3 hts gX4_keep_X4_takeLowestWavelengths rfl rfl rfl (by decide +kernel) ⟨(Nat.le_of_ble_eq_true rfl), (Nat.le_of_ble_eq_true rfl)⟩) (q_pV hW hP hF hS (k := 5) (ci := 4) (by decide) (cell_4 (kk_5)) rfl [.ref (b0 + (19 + ((gI S 5 12).toNatClampNeg))), .int x1, .int a3]) rfl rfl hl.1 rfl (lv_room (Nat.le_of_ble_eq_true rfl)) dX4_keep_86 ⟨(Nat.le_of_ble_eq_true rfl), (Nat.le_of_ble_eq_true rfl)⟩) hS (fun v86 S86 t86 H locs hh hp hB hz hk9 hS => ?_)
    obtain ⟨rfl, hw⟩ := hp
    have hP : HP D cy b0 NALL S86 H := by rw [← hh]; exact hB.1
    have hF := hB.2
    try dsimp only at hw
    refine W.eq (g2 := F0 m 89 ls []) rfl ?_
    exact q_vret hx hb hr hP hF hS hw dX4_keep_89 hlocks
  have j29 : ∀ (n29 : Nat), ∀ (S : St) (a3 : Int32), ∀ (H : Heap) (locs : List Loc) (ls : Array Slot), wp_X4_keep_29 x1 x2 P n29 S a3 → HP D cy b0 NALL S H → Fx S → va_S (AA b0) s.heap H locs → lv_has ls 5 [(0, .ref (b0 + 5)), (1, .int x1), (2, .int x2), (3, .int a3)] → W p l e rm_X4_keep s m args below meth c H locs 0 0 (MQ below (QC (Pv P) (Wb D cy b0 NALL) b0) args s 0 0 (AA b0)) (F0 m 29 ls []) := by
    intro n29
    induction n29 with
    | zero => intro S a3  H locs ls hw _ _ _ _; exact False.elim hw
    | succ n29 ih29 =>
      intro S a3  H locs ls hw hP hF hS hl
      rw [wp_X4_keep_29] at hw
      refine lv_iload_n hx hb dX4_keep_29 rfl (lv_at hl 3 rfl) ?_
      refine lv_iload_n hx hb dX4_keep_30 rfl (lv_at hl 1 rfl) ?_
      refine lv_iconst (v := 1) hx hb dX4_keep_31 (by decide) ?_
      refine lv_isub hx hb dX4_keep_32 ?_
      refine lv_icmp_ge (x := a3) (y := (x1 - 1)) (tgt := 53) hx hb dX4_keep_33 (by decide) (fun c33 => ?_) (fun c33 => ?_)
      · rw [if_pos c33] at hw
        exact j53 S a3  _ _ _ hw hP hF hS (lv_sub hl [0, 1, 2, 3] rfl)
      · rw [if_neg c33] at hw
        refine lv_aload_n hx hb dX4_keep_36 rfl (lv_at hl 0 rfl) ?_
        refine gf_4_10 (k := 5) hx hb hts (by decide +kernel) hown hK hP (by decide) (kk_5) (q := 10) (hF.1 5 10 10 ff_5_10) (hts (.fieldLink RX4 27 "Opticmesh$WayFinder" "within" "[[I") (by decide +kernel)) dX4_keep_37 ?_
        refine lv_iconst (v := 0) hx hb dX4_keep_40 (by decide) ?_
        obtain ⟨h41, hw⟩ := hw
        refine q_aald11 (k := 10) (n := 7) (i := 0) hx hb hK hP (by decide) (kk_10) (ll_10) h41 dX4_keep_41 ?_
        rw [rf_some (hF.1 10 _ _ (fx_10 (vp_lt h41)))]
        refine lv_iload_n hx hb dX4_keep_42 rfl (lv_at hl 3 rfl) ?_
        obtain ⟨h43, hw⟩ := hw
        refine q_iald (k := (11 + ((0 : Int32).toNatClampNeg))) (n := 7) (i := a3) hx hb hK hP (kd_N (kd_R (vp_lt h41)) (by decide)) (kd_R (vp_lt h41)) (ln_R (vp_lt h41)) h43 dX4_keep_43 ?_
        refine lv_if_ne (x := (gI S (11 + ((0 : Int32).toNatClampNeg)) (a3.toNatClampNeg))) (tgt := 53) hx hb dX4_keep_44 (by decide) (fun c44 => ?_) (fun c44 => ?_)
        · rw [if_neg c44] at hw
          exact j53 S a3  _ _ _ hw hP hF hS (lv_sub hl [0, 1, 2, 3] rfl)
        · rw [if_pos c44] at hw
          obtain ⟨y47, e47⟩ : ∃ z : Int32, z = a3 + 1 := ⟨_, rfl⟩
          have hw := hw y47 e47
          refine lv_iinc (v := y47) (lv' := [(3, .int y47), (0, .ref (b0 + 5)), (1, .int x1), (2, .int x2)]) hx hb dX4_keep_47 hl (k := 3) rfl (by rw [e47]; rfl) (by decide) rfl (fun ls hl => ?_)
          refine lv_goto (tgt := 29) hx hb dX4_keep_50 (by decide) ?_
          exact ih29 S y47  _ _ _ hw hP hF hS (lv_sub hl [1, 2, 3, 0] rfl)
  unfold wp_X4_keep at hw
  refine lv_aload_n hx hb dX4_keep_0 rfl (lv_at hl 0 rfl) ?_
  refine gf_4_12 (k := 5) hx hb hts (by decide +kernel) hown hK hP (by decide) (kk_5) (hts (.fieldLink RX4 65 "Opticmesh$WayFinder" "keptCount" "I") (by decide +kernel)) dX4_keep_1 ?_
  refine lv_sipush (v := 162) hx hb dX4_keep_4 (by decide) ?_
  refine lv_icmp_ge (x := (gI S 5 12)) (y := 162) (tgt := 21) hx hb dX4_keep_7 (by decide) (fun c7 => ?_) (fun c7 => ?_)
  · rw [if_pos c7] at hw
    exact q_vret hx hb hr hP hF hS hw dX4_keep_21 hlocks
  · rw [if_neg c7] at hw
    refine lv_iload_n hx hb dX4_keep_10 rfl (lv_at hl 1 rfl) ?_
    refine lv_iconst (v := 1) hx hb dX4_keep_11 (by decide) ?_
    refine lv_icmp_lt (x := x1) (y := 1) (tgt := 21) hx hb dX4_keep_12 (by decide) (fun c12 => ?_) (fun c12 => ?_)
    · rw [if_pos c12] at hw
      exact q_vret hx hb hr hP hF hS hw dX4_keep_21 hlocks
    · rw [if_neg c12] at hw
      refine lv_iload_n hx hb dX4_keep_15 rfl (lv_at hl 1 rfl) ?_
      refine lv_bipush (v := 7) hx hb dX4_keep_16 (by decide) ?_
      refine lv_icmp_le (x := x1) (y := 7) (tgt := 22) hx hb dX4_keep_18 (by decide) (fun c18 => ?_) (fun c18 => ?_)
      · rw [if_pos c18] at hw
        refine lv_aload_n hx hb dX4_keep_22 rfl (lv_at hl 0 rfl) ?_
        refine lv_iload_n hx hb dX4_keep_23 rfl (lv_at hl 1 rfl) ?_
        refine q_call (va_runV (As := [.int x1]) (rest := []) ⟨hx, hb, hml, hown, hts⟩ (c_X4_countConversionsBackwards l D cy b0 S x1 _ hw) (cwV 1 hts gX4_keep_X4_countConversionsBackwards rfl rfl rfl (by decide +kernel) ⟨(Nat.le_of_ble_eq_true rfl), (Nat.le_of_ble_eq_true rfl)⟩) (q_pV hW hP hF hS (k := 5) (ci := 4) (by decide) (cell_4 (kk_5)) rfl [.int x1]) rfl rfl hl.1 rfl (lv_room (Nat.le_of_ble_eq_true rfl)) dX4_keep_24 ⟨(Nat.le_of_ble_eq_true rfl), (Nat.le_of_ble_eq_true rfl)⟩) hS (fun v24 S24 t24 H locs hh hp hB hz hk9 hS => ?_)
        obtain ⟨rfl, hw⟩ := hp
        have hP : HP D cy b0 NALL S24 H := by rw [← hh]; exact hB.1
        have hF := hB.2
        try dsimp only at hw
        refine W.eq (g2 := F0 m 27 ls []) rfl ?_
        refine lv_iconst (v := 0) hx hb dX4_keep_27 (by decide) ?_
        refine lv_istore_n (lv' := [(3, .int 0), (0, .ref (b0 + 5)), (1, .int x1), (2, .int x2)]) hx hb dX4_keep_28 rfl hl (by decide) rfl (fun ls hl => ?_)
        obtain ⟨n29, hw⟩ := hw
        exact j29 n29 S24 0  _ _ _ hw hP hF hS (lv_sub hl [1, 2, 3, 0] rfl)
      · rw [if_neg c18] at hw
        exact q_vret hx hb hr hP hF hS hw dX4_keep_21 hlocks
set_option maxHeartbeats 4000000 in
set_option maxRecDepth 100000 in
theorem c_X4_walk (l : Launch) (D : va_G) (cy : Nat → ClassId) (b0 : Nat) : ∀ (n : Nat) (S : St) (x1 : Int32) (x2 : Int32) (x3 : Int32) (x4 : Int32) (x5 : Int32)  (P : St → Prop) (hw : wp_X4_walk n S x1 x2 x3 x4 x5 P), Met l yX4_walk wsX4_walk { frames := 3 + n * 1, cells := 0, slots := 0, locals := 75 + n * 30 } (va_Pc [.ref (b0 + 5), .int x1, .int x2, .int x3, .int x4, .int x5] (Wd D cy b0 NALL S)) (QC (Pv P) (Wb D cy b0 NALL) b0) 0 0 (AA b0) := by
  intro n
  induction n with
  | zero => intro S x1 x2 x3 x4 x5  P hw; exact False.elim hw
  | succ n ihd =>
  intro S x1 x2 x3 x4 x5  P hw
  refine Met.ofW (cc := cX4_walk) (maxL := 11) (ret := none) (by decide) rfl ?_
  intro p e s m args below meth c s₁ B hml hv
  obtain ⟨hargs, hW, hP, hF⟩ := hv
  have hx := B.exec
  have hb := B.bytes
  have hr := B.returns
  have hts := atoms_spec (ws := wsX4_walk) B.pre
  have hown : s.vm.findClass RX4 = some m.cls := findClass_of_methodNamed B.named
  have hlocks := B.notSynchronized
  have hK := hW.1
  have hS : va_S (AA b0) s.heap s.heap [] := va_S.rf
  have hE : entryFrame m args 11 = F0 m 0 ((lg_sl [.ref (b0 + 5), .int x1, .int x2, .int x3, .int x4, .int x5] ++ List.replicate (11 - (lg_sl [.ref (b0 + 5), .int x1, .int x2, .int x3, .int x4, .int x5]).length) Slot.unset).toArray) [] := by rw [hargs]; exact lg_entry_eq m _ _
  rw [hE]
  have hl := lv_entry [.ref (b0 + 5), .int x1, .int x2, .int x3, .int x4, .int x5] (n := 11) (Nat.le_of_ble_eq_true rfl)
  generalize (lg_sl [.ref (b0 + 5), .int x1, .int x2, .int x3, .int x4, .int x5] ++ List.replicate (11 - (lg_sl [.ref (b0 + 5), .int x1, .int x2, .int x3, .int x4, .int x5]).length) Slot.unset).toArray = ls at hl ⊢
  have hl : lv_has ls 11 [(0, .ref (b0 + 5)), (1, .int x1), (2, .int x2), (3, .int x3), (4, .int x4), (5, .int x5)] := hl
  have j46 : ∀ (n46 : Nat), ∀ (S : St) (a6 : Bool) (a7 : Int32), ∀ (H : Heap) (locs : List Loc) (ls : Array Slot), wp_X4_walk_46 x1 x2 x3 x4 x5 P (wp_X4_walk n) n46 S a6 a7 → HP D cy b0 NALL S H → Fx S → va_S (AA b0) s.heap H locs → lv_has ls 11 [(0, .ref (b0 + 5)), (1, .int x1), (2, .int x2), (3, .int x3), (4, .int x4), (5, .int x5), (6, .int (b2i a6)), (7, .int a7)] → W p l e { frames := 3 + (n + 1) * 1, cells := 0, slots := 0, locals := 75 + (n + 1) * 30 } s m args below meth c H locs 0 0 (MQ below (QC (Pv P) (Wb D cy b0 NALL) b0) args s 0 0 (AA b0)) (F0 m 46 ls []) := by
    intro n46
    induction n46 with
    | zero => intro S a6 a7  H locs ls hw _ _ _ _; exact False.elim hw
    | succ n46 ih46 =>
      have j171 : ∀ (S : St) (a6 : Bool) (a7 : Int32), ∀ (H : Heap) (locs : List Loc) (ls : Array Slot), wp_X4_walk_171 x1 x2 x3 x4 x5 P (wp_X4_walk n) (fun S a6 a7 => wp_X4_walk_46 x1 x2 x3 x4 x5 P (wp_X4_walk n) n46 S a6 a7) S a6 a7 → HP D cy b0 NALL S H → Fx S → va_S (AA b0) s.heap H locs → lv_has ls 11 [(0, .ref (b0 + 5)), (1, .int x1), (2, .int x2), (3, .int x3), (4, .int x4), (5, .int x5), (6, .int (b2i a6)), (7, .int a7)] → W p l e { frames := 3 + (n + 1) * 1, cells := 0, slots := 0, locals := 75 + (n + 1) * 30 } s m args below meth c H locs 0 0 (MQ below (QC (Pv P) (Wb D cy b0 NALL) b0) args s 0 0 (AA b0)) (F0 m 171 ls []) := by
        intro S a6 a7  H locs ls hw hP hF hS hl
        unfold wp_X4_walk_171 at hw
        obtain ⟨y171, e171⟩ : ∃ z : Int32, z = a7 + 1 := ⟨_, rfl⟩
        have hw := hw y171 e171
        refine lv_iinc (v := y171) (lv' := [(7, .int y171), (0, .ref (b0 + 5)), (1, .int x1), (2, .int x2), (3, .int x3), (4, .int x4), (5, .int x5), (6, .int (b2i a6))]) hx hb dX4_walk_171 hl (k := 7) rfl (by rw [e171]; rfl) (by decide) rfl (fun ls hl => ?_)
        refine lv_goto (tgt := 46) hx hb dX4_walk_174 (by decide) ?_
        exact ih46 S a6 y171  _ _ _ hw hP hF hS (lv_sub hl [1, 2, 3, 4, 5, 6, 7, 0] rfl)
      have j93 : ∀ (S : St) (a6 : Bool) (a7 : Int32) (a8 : Int32) (a9 : Int32) (t0 : Int32), ∀ (H : Heap) (locs : List Loc) (ls : Array Slot), wp_X4_walk_93 x1 x2 x3 x4 x5 P (wp_X4_walk n) (fun S a6 a7 => wp_X4_walk_46 x1 x2 x3 x4 x5 P (wp_X4_walk n) n46 S a6 a7) S a6 a7 a8 a9 t0 → HP D cy b0 NALL S H → Fx S → va_S (AA b0) s.heap H locs → lv_has ls 11 [(0, .ref (b0 + 5)), (1, .int x1), (2, .int x2), (3, .int x3), (4, .int x4), (5, .int x5), (6, .int (b2i a6)), (7, .int a7), (8, .int a8), (9, .int a9)] → W p l e { frames := 3 + (n + 1) * 1, cells := 0, slots := 0, locals := 75 + (n + 1) * 30 } s m args below meth c H locs 0 0 (MQ below (QC (Pv P) (Wb D cy b0 NALL) b0) args s 0 0 (AA b0)) (F0 m 93 ls [.int t0]) := by
        intro S a6 a7 a8 a9 t0  H locs ls hw hP hF hS hl
        unfold wp_X4_walk_93 at hw
        refine lv_istore (lv' := [(10, .int t0), (0, .ref (b0 + 5)), (1, .int x1), (2, .int x2), (3, .int x3), (4, .int x4), (5, .int x5), (6, .int (b2i a6)), (7, .int a7), (8, .int a8), (9, .int a9)]) hx hb dX4_walk_93 hl (by decide) rfl (fun ls hl => ?_)
        refine lv_iload hx hb dX4_walk_95 (lv_at hl 9 rfl) ?_
        refine lv_if_lt (x := a8) (tgt := 171) hx hb dX4_walk_97 (by decide) (fun c97 => ?_) (fun c97 => ?_)
        · rw [if_pos c97] at hw
          exact j171 S a6 a7  _ _ _ hw hP hF hS (lv_sub hl [1, 2, 3, 4, 5, 6, 7, 8] rfl)
        · rw [if_neg c97] at hw
          refine lv_iload_n hx hb dX4_walk_100 rfl (lv_at hl 3 rfl) ?_
          refine lv_iload hx hb dX4_walk_101 (lv_at hl 9 rfl) ?_
          refine lv_ishr hx hb dX4_walk_103 ?_
          refine lv_iconst (v := 1) hx hb dX4_walk_104 (by decide) ?_
          refine lv_iand hx hb dX4_walk_105 ?_
          refine lv_if_ne (x := ((x2 >>> (a8 &&& 31)) &&& 1)) (tgt := 171) hx hb dX4_walk_106 (by decide) (fun c106 => ?_) (fun c106 => ?_)
          · rw [if_neg c106] at hw
            exact j171 S a6 a7  _ _ _ hw hP hF hS (lv_sub hl [1, 2, 3, 4, 5, 6, 7, 8] rfl)
          · rw [if_pos c106] at hw
            refine lv_iload hx hb dX4_walk_109 (lv_at hl 0 rfl) ?_
            refine lv_if_eq (x := t0) (tgt := 171) hx hb dX4_walk_111 (by decide) (fun c111 => ?_) (fun c111 => ?_)
            · rw [if_pos c111] at hw
              exact j171 S a6 a7  _ _ _ hw hP hF hS (lv_sub hl [1, 2, 3, 4, 5, 6, 7, 8] rfl)
            · rw [if_neg c111] at hw
              refine lv_aload_n hx hb dX4_walk_114 rfl (lv_at hl 1 rfl) ?_
              refine gf_4_7 (k := 5) hx hb hts (by decide +kernel) hown hK hP (by decide) (kk_5) (q := 7) (hF.1 5 7 7 ff_5_7) (hts (.fieldLink RX4 15 "Opticmesh$WayFinder" "trail" "[I") (by decide +kernel)) dX4_walk_115 ?_
              refine lv_iload hx hb dX4_walk_118 (lv_at hl 5 rfl) ?_
              refine lv_iload hx hb dX4_walk_120 (lv_at hl 8 rfl) ?_
              obtain ⟨h122, hw⟩ := hw
              refine q_iast (k := 7) (n := 7) (i := x4) (x := a7) hx hb hK hP hS (by decide) (kk_7) (ll_7) h122 dX4_walk_122 (fun H locs hz hP hS => ?_)
              have hF : Fx (sI S 7 (x4.toNatClampNeg) a7) := Fx.sI hF _ _ _
              generalize eS122 : sI S 7 (x4.toNatClampNeg) a7 = S122 at hP hF
              have hw := hw S122 eS122.symm
              refine lv_aload_n hx hb dX4_walk_123 rfl (lv_at hl 1 rfl) ?_
              refine gf_4_8 (k := 5) hx hb hts (by decide +kernel) hown hK hP (by decide) (kk_5) (q := 8) (hF.1 5 8 8 ff_5_8) (hts (.fieldLink RX4 18 "Opticmesh$WayFinder" "openOnTrail" "[I") (by decide +kernel)) dX4_walk_124 ?_
              refine lv_iload hx hb dX4_walk_127 (lv_at hl 5 rfl) ?_
              refine lv_iload hx hb dX4_walk_129 (lv_at hl 10 rfl) ?_
              obtain ⟨h131, hw⟩ := hw
              refine q_iast (k := 8) (n := 7) (i := x4) (x := a9) hx hb hK hP hS (by decide) (kk_8) (ll_8) h131 dX4_walk_131 (fun H locs hz hP hS => ?_)
              have hF : Fx (sI S122 8 (x4.toNatClampNeg) a9) := Fx.sI hF _ _ _
              generalize eS131 : sI S122 8 (x4.toNatClampNeg) a9 = S131 at hP hF
              have hw := hw S131 eS131.symm
              refine lv_aload_n hx hb dX4_walk_132 rfl (lv_at hl 1 rfl) ?_
              refine gf_4_9 (k := 5) hx hb hts (by decide +kernel) hown hK hP (by decide) (kk_5) (q := 9) (hF.1 5 9 9 ff_5_9) (hts (.fieldLink RX4 21 "Opticmesh$WayFinder" "convertsBefore" "[Z") (by decide +kernel)) dX4_walk_133 ?_
              refine lv_iload hx hb dX4_walk_136 (lv_at hl 5 rfl) ?_
              refine lv_iload hx hb dX4_walk_138 (lv_at hl 7 rfl) ?_
              obtain ⟨h140, hw⟩ := hw
              refine q_zast (k := 9) (n := 7) (i := x4) (x := b2i a6) hx hb hK hP hS (by decide) (kk_9) (ll_9) (b2i_nar a6) h140 dX4_walk_140 (fun H locs hz hP hS => ?_)
              have hF : Fx (sI S131 9 (x4.toNatClampNeg) (b2i a6)) := Fx.sI hF _ _ _
              generalize eS140 : sI S131 9 (x4.toNatClampNeg) (b2i a6) = S140 at hP hF
              have hw := hw S140 eS140.symm
              refine lv_aload_n hx hb dX4_walk_141 rfl (lv_at hl 1 rfl) ?_
              refine lv_iload hx hb dX4_walk_142 (lv_at hl 9 rfl) ?_
              refine lv_iload_n hx hb dX4_walk_144 rfl (lv_at hl 3 rfl) ?_
              refine lv_iconst (v := 1) hx hb dX4_walk_145 (by decide) ?_
              refine lv_iload hx hb dX4_walk_146 (lv_at hl 9 rfl) ?_
              refine lv_ishl hx hb dX4_walk_148 ?_
              refine lv_ior hx hb dX4_walk_149 ?_
              refine lv_iload hx hb dX4_walk_150 (lv_at hl 0 rfl) ?_
              refine lv_iload hx hb dX4_walk_152 (lv_at hl 5 rfl) ?_
              refine lv_iconst (v := 1) hx hb dX4_walk_154 (by decide) ?_
              refine lv_iadd hx hb dX4_walk_155 ?_
              refine lv_iload hx hb dX4_walk_156 (lv_at hl 6 rfl) ?_
              refine lv_aload_n hx hb dX4_walk_158 rfl (lv_at hl 1 rfl) ?_
              refine gf_4_3 (k := 5) hx hb hts (by decide +kernel) hown hK hP (by decide) (kk_5) (q := 1) (hF.1 5 3 1 ff_5_3) (hts (.fieldLink RX4 36 "Opticmesh$WayFinder" "network" "LOpticmesh$Network;") (by decide +kernel)) dX4_walk_159 ?_
              refine lv_iload hx hb dX4_walk_162 (lv_at hl 8 rfl) ?_
              refine q_call (va_runV (As := [.int a7]) (rest := [.int x5, .int (x4 + 1), .int t0, .int (x2 ||| (1 <<< (a8 &&& 31))), .int a8, .ref (b0 + 5)]) ⟨hx, hb, hml, hown, hts⟩ (c_X2_lengthOf l D cy b0 S140 a7 _ hw) (cwV 1 hts gX4_walk_X2_lengthOf rfl rfl rfl (by decide +kernel) ⟨by show 1 + 1 ≤ 3 + (n + 1) * 1; omega, by show 8 + (2 + 11) + 21 ≤ 75 + (n + 1) * 30; omega⟩) (q_pV hW hP hF hS (k := 1) (ci := 2) (by decide) (cell_2 (kk_1)) rfl [.int a7]) rfl rfl hl.1 rfl (lv_room (Nat.le_of_ble_eq_true rfl)) dX4_walk_164 ⟨(Nat.le_of_ble_eq_true rfl), (Nat.le_of_ble_eq_true rfl)⟩) hS (fun v164 S164 t164 H locs hh hp hB hz hk9 hS => ?_)
              obtain ⟨r164, rfl, hw⟩ := hp
              have hP : HP D cy b0 NALL S164 H := by rw [← hh]; exact hB.1
              have hF := hB.2
              try dsimp only at hw
              refine W.eq (g2 := F0 m 167 ls [.int r164, .int x5, .int (x4 + 1), .int t0, .int (x2 ||| (1 <<< (a8 &&& 31))), .int a8, .ref (b0 + 5)]) rfl ?_
              refine lv_iadd hx hb dX4_walk_167 ?_
              refine q_call (va_runV (As := [.int a8, .int (x2 ||| (1 <<< (a8 &&& 31))), .int t0, .int (x4 + 1), .int (x5 + r164)]) (rest := []) ⟨hx, hb, hml, hown, hts⟩ (ihd S164 a8 (x2 ||| (1 <<< (a8 &&& 31))) t0 (x4 + 1) (x5 + r164) _ hw) (cwV 5 hts gX4_walk_X4_walk rfl rfl rfl (by decide +kernel) ⟨by show 3 + n * 1 + 1 ≤ 3 + (n + 1) * 1; omega, by show 8 + (11 + 11) + (75 + n * 30) ≤ 75 + (n + 1) * 30; omega⟩) (q_pV hW hP hF hS (k := 5) (ci := 4) (by decide) (cell_4 (kk_5)) rfl [.int a8, .int (x2 ||| (1 <<< (a8 &&& 31))), .int t0, .int (x4 + 1), .int (x5 + r164)]) rfl rfl hl.1 rfl (lv_room (Nat.le_of_ble_eq_true rfl)) dX4_walk_168 ⟨(Nat.le_of_ble_eq_true rfl), (Nat.le_of_ble_eq_true rfl)⟩) hS (fun v168 S168 t168 H locs hh hp hB hz hk9 hS => ?_)
              obtain ⟨rfl, hw⟩ := hp
              have hP : HP D cy b0 NALL S168 H := by rw [← hh]; exact hB.1
              have hF := hB.2
              try dsimp only at hw
              refine W.eq (g2 := F0 m 171 ls []) rfl ?_
              exact j171 S168 a6 a7  _ _ _ hw hP hF hS (lv_sub hl [1, 2, 3, 4, 5, 6, 7, 8] rfl)
      intro S a6 a7  H locs ls hw hP hF hS hl
      rw [wp_X4_walk_46] at hw
      refine lv_iload hx hb dX4_walk_46 (lv_at hl 7 rfl) ?_
      refine lv_bipush (v := 14) hx hb dX4_walk_48 (by decide) ?_
      refine lv_icmp_ge (x := a7) (y := 14) (tgt := 177) hx hb dX4_walk_50 (by decide) (fun c50 => ?_) (fun c50 => ?_)
      · rw [if_pos c50] at hw
        exact q_vret hx hb hr hP hF hS hw dX4_walk_177 hlocks
      · rw [if_neg c50] at hw
        refine lv_aload_n hx hb dX4_walk_53 rfl (lv_at hl 0 rfl) ?_
        refine gf_4_3 (k := 5) hx hb hts (by decide +kernel) hown hK hP (by decide) (kk_5) (q := 1) (hF.1 5 3 1 ff_5_3) (hts (.fieldLink RX4 36 "Opticmesh$WayFinder" "network" "LOpticmesh$Network;") (by decide +kernel)) dX4_walk_54 ?_
        refine lv_iload_n hx hb dX4_walk_57 rfl (lv_at hl 1 rfl) ?_
        refine lv_iload hx hb dX4_walk_58 (lv_at hl 7 rfl) ?_
        refine q_call (va_runV (As := [.int x1, .int a7]) (rest := []) ⟨hx, hb, hml, hown, hts⟩ (c_X2_acrossFrom l D cy b0 S x1 a7 _ hw) (cwV 2 hts gX4_walk_X2_acrossFrom rfl rfl rfl (by decide +kernel) ⟨by show 1 + 1 ≤ 3 + (n + 1) * 1; omega, by show 8 + (3 + 11) + 21 ≤ 75 + (n + 1) * 30; omega⟩) (q_pV hW hP hF hS (k := 1) (ci := 2) (by decide) (cell_2 (kk_1)) rfl [.int x1, .int a7]) rfl rfl hl.1 rfl (lv_room (Nat.le_of_ble_eq_true rfl)) dX4_walk_60 ⟨(Nat.le_of_ble_eq_true rfl), (Nat.le_of_ble_eq_true rfl)⟩) hS (fun v60 S60 t60 H locs hh hp hB hz hk9 hS => ?_)
        obtain ⟨r60, rfl, hw⟩ := hp
        have hP : HP D cy b0 NALL S60 H := by rw [← hh]; exact hB.1
        have hF := hB.2
        try dsimp only at hw
        refine W.eq (g2 := F0 m 63 ls [.int r60]) rfl ?_
        refine lv_istore (lv' := [(8, .int r60), (0, .ref (b0 + 5)), (1, .int x1), (2, .int x2), (3, .int x3), (4, .int x4), (5, .int x5), (6, .int (b2i a6)), (7, .int a7)]) hx hb dX4_walk_63 hl (by decide) rfl (fun ls hl => ?_)
        refine lv_aload_n hx hb dX4_walk_65 rfl (lv_at hl 1 rfl) ?_
        refine gf_4_2 (k := 5) hx hb hts (by decide +kernel) hown hK hP (by decide) (kk_5) (q := 6) (hF.1 5 2 6 ff_5_2) (hts (.fieldLink RX4 9 "Opticmesh$WayFinder" "open" "[I") (by decide +kernel)) dX4_walk_66 ?_
        refine lv_iload hx hb dX4_walk_69 (lv_at hl 8 rfl) ?_
        obtain ⟨h71, hw⟩ := hw
        refine q_iald (k := 6) (n := 14) (i := a7) hx hb hK hP (by decide) (kk_6) (ll_6) h71 dX4_walk_71 ?_
        refine lv_aload_n hx hb dX4_walk_72 rfl (lv_at hl 1 rfl) ?_
        refine gf_4_5 (k := 5) hx hb hts (by decide +kernel) hown hK hP (by decide) (kk_5) (hts (.fieldLink RX4 89 "Opticmesh$WayFinder" "allowed" "I") (by decide +kernel)) dX4_walk_73 ?_
        refine lv_iand hx hb dX4_walk_76 ?_
        refine lv_topi (fun y77 e77 => ?_)
        have hw := hw y77 e77
        refine lv_istore (lv' := [(9, .int y77), (8, .int r60), (0, .ref (b0 + 5)), (1, .int x1), (2, .int x2), (3, .int x3), (4, .int x4), (5, .int x5), (6, .int (b2i a6)), (7, .int a7)]) hx hb dX4_walk_77 hl (by decide) rfl (fun ls hl => ?_)
        refine lv_iload hx hb dX4_walk_79 (lv_at hl 8 rfl) ?_
        refine lv_if_eq (x := b2i a6) (tgt := 89) hx hb dX4_walk_81 (by decide) (fun c81 => ?_) (fun c81 => ?_)
        · have c81 := b2i_z c81
          rw [if_neg c81] at hw
          refine lv_iload hx hb dX4_walk_89 (lv_at hl 0 rfl) ?_
          refine lv_iload_n hx hb dX4_walk_91 rfl (lv_at hl 5 rfl) ?_
          refine lv_iand hx hb dX4_walk_92 ?_
          exact j93 S60 a6 a7 r60 y77 (y77 &&& x3)  _ _ _ hw hP hF hS (lv_sub hl [2, 3, 4, 5, 6, 7, 8, 9, 1, 0] rfl)
        · have c81 := b2i_n c81
          rw [if_pos c81] at hw
          refine lv_iload hx hb dX4_walk_84 (lv_at hl 0 rfl) ?_
          refine lv_goto (tgt := 93) hx hb dX4_walk_86 (by decide) ?_
          exact j93 S60 a6 a7 r60 y77 y77  _ _ _ hw hP hF hS (lv_sub hl [2, 3, 4, 5, 6, 7, 8, 9, 1, 0] rfl)
  have j41 : ∀ (S : St) (t0 : Bool), ∀ (H : Heap) (locs : List Loc) (ls : Array Slot), wp_X4_walk_41 x1 x2 x3 x4 x5 P (wp_X4_walk n) S t0 → HP D cy b0 NALL S H → Fx S → va_S (AA b0) s.heap H locs → lv_has ls 11 [(0, .ref (b0 + 5)), (1, .int x1), (2, .int x2), (3, .int x3), (4, .int x4), (5, .int x5)] → W p l e { frames := 3 + (n + 1) * 1, cells := 0, slots := 0, locals := 75 + (n + 1) * 30 } s m args below meth c H locs 0 0 (MQ below (QC (Pv P) (Wb D cy b0 NALL) b0) args s 0 0 (AA b0)) (F0 m 41 ls [.int (b2i t0)]) := by
    intro S t0  H locs ls hw hP hF hS hl
    unfold wp_X4_walk_41 at hw
    refine lv_istore (lv' := [(6, .int (b2i t0)), (0, .ref (b0 + 5)), (1, .int x1), (2, .int x2), (3, .int x3), (4, .int x4), (5, .int x5)]) hx hb dX4_walk_41 hl (by decide) rfl (fun ls hl => ?_)
    refine lv_iconst (v := 0) hx hb dX4_walk_43 (by decide) ?_
    refine lv_istore (lv' := [(7, .int 0), (6, .int (b2i t0)), (0, .ref (b0 + 5)), (1, .int x1), (2, .int x2), (3, .int x3), (4, .int x4), (5, .int x5)]) hx hb dX4_walk_44 hl (by decide) rfl (fun ls hl => ?_)
    obtain ⟨n46, hw⟩ := hw
    exact j46 n46 S t0 0  _ _ _ hw hP hF hS (lv_sub hl [2, 3, 4, 5, 6, 7, 1, 0] rfl)
  have hw : wp_X4_walk_b S x1 x2 x3 x4 x5 P (wp_X4_walk n) := hw
  unfold wp_X4_walk_b at hw
  refine lv_iload_n hx hb dX4_walk_0 rfl (lv_at hl 1 rfl) ?_
  refine lv_aload_n hx hb dX4_walk_1 rfl (lv_at hl 0 rfl) ?_
  refine gf_4_4 (k := 5) hx hb hts (by decide +kernel) hown hK hP (by decide) (kk_5) (hts (.fieldLink RX4 86 "Opticmesh$WayFinder" "target" "I") (by decide +kernel)) dX4_walk_2 ?_
  refine lv_icmp_ne (x := x1) (y := (gI S 5 4)) (tgt := 17) hx hb dX4_walk_5 (by decide) (fun c5 => ?_) (fun c5 => ?_)
  · rw [if_neg c5] at hw
    refine lv_iload hx hb dX4_walk_17 (lv_at hl 4 rfl) ?_
    refine lv_bipush (v := 7) hx hb dX4_walk_19 (by decide) ?_
    refine lv_icmp_lt (x := x4) (y := 7) (tgt := 25) hx hb dX4_walk_21 (by decide) (fun c21 => ?_) (fun c21 => ?_)
    · rw [if_pos c21] at hw
      refine lv_aload_n hx hb dX4_walk_25 rfl (lv_at hl 0 rfl) ?_
      refine gf_4_6 (k := 5) hx hb hts (by decide +kernel) hown hK hP (by decide) (kk_5) (hts (.fieldLink RX4 92 "Opticmesh$WayFinder" "converters" "I") (by decide +kernel)) dX4_walk_26 ?_
      refine lv_iload_n hx hb dX4_walk_29 rfl (lv_at hl 1 rfl) ?_
      refine lv_ishr hx hb dX4_walk_30 ?_
      refine lv_iconst (v := 1) hx hb dX4_walk_31 (by decide) ?_
      refine lv_iand hx hb dX4_walk_32 ?_
      refine lv_if_eq (x := (((gI S 5 6) >>> (x1 &&& 31)) &&& 1)) (tgt := 40) hx hb dX4_walk_33 (by decide) (fun c33 => ?_) (fun c33 => ?_)
      · rw [if_pos c33] at hw
        refine lv_iconst (v := 0) hx hb dX4_walk_40 (by decide) ?_
        exact j41 S false  _ _ _ hw hP hF hS (lv_sub hl [0, 1, 2, 3, 4, 5] rfl)
      · rw [if_neg c33] at hw
        refine lv_iconst (v := 1) hx hb dX4_walk_36 (by decide) ?_
        refine lv_goto (tgt := 41) hx hb dX4_walk_37 (by decide) ?_
        exact j41 S true  _ _ _ hw hP hF hS (lv_sub hl [0, 1, 2, 3, 4, 5] rfl)
    · rw [if_neg c21] at hw
      exact q_vret hx hb hr hP hF hS hw dX4_walk_24 hlocks
  · rw [if_pos c5] at hw
    refine lv_aload_n hx hb dX4_walk_8 rfl (lv_at hl 0 rfl) ?_
    refine lv_iload hx hb dX4_walk_9 (lv_at hl 4 rfl) ?_
    refine lv_iload hx hb dX4_walk_11 (lv_at hl 5 rfl) ?_
    refine q_call (va_runV (As := [.int x4, .int x5]) (rest := []) ⟨hx, hb, hml, hown, hts⟩ (c_X4_keep l D cy b0 S x4 x5 _ hw) (cwV 2 hts gX4_walk_X4_keep rfl rfl rfl (by decide +kernel) ⟨by show 2 + 1 ≤ 3 + (n + 1) * 1; omega, by show 8 + (5 + 11) + 51 ≤ 75 + (n + 1) * 30; omega⟩) (q_pV hW hP hF hS (k := 5) (ci := 4) (by decide) (cell_4 (kk_5)) rfl [.int x4, .int x5]) rfl rfl hl.1 rfl (lv_room (Nat.le_of_ble_eq_true rfl)) dX4_walk_13 ⟨(Nat.le_of_ble_eq_true rfl), (Nat.le_of_ble_eq_true rfl)⟩) hS (fun v13 S13 t13 H locs hh hp hB hz hk9 hS => ?_)
    obtain ⟨rfl, hw⟩ := hp
    have hP : HP D cy b0 NALL S13 H := by rw [← hh]; exact hB.1
    have hF := hB.2
    try dsimp only at hw
    refine W.eq (g2 := F0 m 16 ls []) rfl ?_
    exact q_vret hx hb hr hP hF hS hw dX4_walk_16 hlocks
set_option maxHeartbeats 4000000 in
set_option maxRecDepth 100000 in
theorem c_X4_findFirst (l : Launch) (D : va_G) (cy : Nat → ClassId) (b0 : Nat) (S : St) (x1 : Int32) (x2 : Int32)  (P : St → Prop) (hw : wp_X4_findFirst S x1 x2 P) : Met l yX4_findFirst wsX4_findFirst rm_X4_findFirst (va_Pc [.ref (b0 + 5), .int x1, .int x2] (Wd D cy b0 NALL S)) (QC (Pv P) (Wb D cy b0 NALL) b0) 0 0 (AA b0) := by
  refine Met.ofW (cc := cX4_findFirst) (maxL := 3) (ret := none) (by decide) rfl ?_
  intro p e s m args below meth c s₁ B hml hv
  obtain ⟨hargs, hW, hP, hF⟩ := hv
  have hx := B.exec
  have hb := B.bytes
  have hr := B.returns
  have hts := atoms_spec (ws := wsX4_findFirst) B.pre
  have hown : s.vm.findClass RX4 = some m.cls := findClass_of_methodNamed B.named
  have hlocks := B.notSynchronized
  have hK := hW.1
  have hS : va_S (AA b0) s.heap s.heap [] := va_S.rf
  have hE : entryFrame m args 3 = F0 m 0 ((lg_sl [.ref (b0 + 5), .int x1, .int x2] ++ List.replicate (3 - (lg_sl [.ref (b0 + 5), .int x1, .int x2]).length) Slot.unset).toArray) [] := by rw [hargs]; exact lg_entry_eq m _ _
  rw [hE]
  have hl := lv_entry [.ref (b0 + 5), .int x1, .int x2] (n := 3) (Nat.le_of_ble_eq_true rfl)
  generalize (lg_sl [.ref (b0 + 5), .int x1, .int x2] ++ List.replicate (3 - (lg_sl [.ref (b0 + 5), .int x1, .int x2]).length) Slot.unset).toArray = ls at hl ⊢
  have hl : lv_has ls 3 [(0, .ref (b0 + 5)), (1, .int x1), (2, .int x2)] := hl
  unfold wp_X4_findFirst at hw
  refine lv_aload_n hx hb dX4_findFirst_0 rfl (lv_at hl 0 rfl) ?_
  refine lv_iload_n hx hb dX4_findFirst_1 rfl (lv_at hl 2 rfl) ?_
  refine lv_sipush (v := 255) hx hb dX4_findFirst_2 (by decide) ?_
  refine lv_aload_n hx hb dX4_findFirst_5 rfl (lv_at hl 0 rfl) ?_
  refine gf_4_3 (k := 5) hx hb hts (by decide +kernel) hown hK hP (by decide) (kk_5) (q := 1) (hF.1 5 3 1 ff_5_3) (hts (.fieldLink RX4 36 "Opticmesh$WayFinder" "network" "LOpticmesh$Network;") (by decide +kernel)) dX4_findFirst_6 ?_
  refine gf_2_3 (k := 1) hx hb hts (by decide +kernel) hown hK hP (by decide) (kk_1) (hts (.fieldLink RX4 41 "Opticmesh$Network" "converters" "I") (by decide +kernel)) dX4_findFirst_9 ?_
  refine q_call (va_runV (As := [.int x2, .int 255, .int (gI S 1 3)]) (rest := []) ⟨hx, hb, hml, hown, hts⟩ (c_X4_aim l D cy b0 S x2 255 (gI S 1 3) _ hw) (cwV 3 hts gX4_findFirst_X4_aim rfl rfl rfl (by decide +kernel) ⟨(Nat.le_of_ble_eq_true rfl), (Nat.le_of_ble_eq_true rfl)⟩) (q_pV hW hP hF hS (k := 5) (ci := 4) (by decide) (cell_4 (kk_5)) rfl [.int x2, .int 255, .int (gI S 1 3)]) rfl rfl hl.1 rfl (lv_room (Nat.le_of_ble_eq_true rfl)) dX4_findFirst_12 ⟨(Nat.le_of_ble_eq_true rfl), (Nat.le_of_ble_eq_true rfl)⟩) hS (fun v12 S12 t12 H locs hh hp hB hz hk9 hS => ?_)
  obtain ⟨rfl, hw⟩ := hp
  have hP : HP D cy b0 NALL S12 H := by rw [← hh]; exact hB.1
  have hF := hB.2
  try dsimp only at hw
  refine W.eq (g2 := F0 m 15 ls []) rfl ?_
  refine lv_aload_n hx hb dX4_findFirst_15 rfl (lv_at hl 0 rfl) ?_
  refine lv_iload_n hx hb dX4_findFirst_16 rfl (lv_at hl 1 rfl) ?_
  refine lv_iconst (v := 1) hx hb dX4_findFirst_17 (by decide) ?_
  refine lv_iload_n hx hb dX4_findFirst_18 rfl (lv_at hl 1 rfl) ?_
  refine lv_ishl hx hb dX4_findFirst_19 ?_
  refine lv_sipush (v := 255) hx hb dX4_findFirst_20 (by decide) ?_
  refine lv_iconst (v := 0) hx hb dX4_findFirst_23 (by decide) ?_
  refine lv_iconst (v := 0) hx hb dX4_findFirst_24 (by decide) ?_
  refine q_call (va_runV (As := [.int x1, .int (1 <<< (x1 &&& 31)), .int 255, .int 0, .int 0]) (rest := []) ⟨hx, hb, hml, hown, hts⟩ (c_X4_walk l D cy b0 8 S12 x1 (1 <<< (x1 &&& 31)) 255 0 0 _ hw) (cwV 5 hts gX4_findFirst_X4_walk rfl rfl rfl (by decide +kernel) ⟨(Nat.le_of_ble_eq_true rfl), (Nat.le_of_ble_eq_true rfl)⟩) (q_pV hW hP hF hS (k := 5) (ci := 4) (by decide) (cell_4 (kk_5)) rfl [.int x1, .int (1 <<< (x1 &&& 31)), .int 255, .int 0, .int 0]) rfl rfl hl.1 rfl (lv_room (Nat.le_of_ble_eq_true rfl)) dX4_findFirst_25 ⟨(Nat.le_of_ble_eq_true rfl), (Nat.le_of_ble_eq_true rfl)⟩) hS (fun v25 S25 t25 H locs hh hp hB hz hk9 hS => ?_)
  obtain ⟨rfl, hw⟩ := hp
  have hP : HP D cy b0 NALL S25 H := by rw [← hh]; exact hB.1
  have hF := hB.2
  try dsimp only at hw
  refine W.eq (g2 := F0 m 28 ls []) rfl ?_
  refine lv_aload_n hx hb dX4_findFirst_28 rfl (lv_at hl 0 rfl) ?_
  refine q_call (va_runV (As := []) (rest := []) ⟨hx, hb, hml, hown, hts⟩ (c_X4_pickFirst l D cy b0 S25 _ hw) (cwV 0 hts gX4_findFirst_X4_pickFirst rfl rfl rfl (by decide +kernel) ⟨(Nat.le_of_ble_eq_true rfl), (Nat.le_of_ble_eq_true rfl)⟩) (q_pV hW hP hF hS (k := 5) (ci := 4) (by decide) (cell_4 (kk_5)) rfl []) rfl rfl hl.1 rfl (lv_room (Nat.le_of_ble_eq_true rfl)) dX4_findFirst_29 ⟨(Nat.le_of_ble_eq_true rfl), (Nat.le_of_ble_eq_true rfl)⟩) hS (fun v29 S29 t29 H locs hh hp hB hz hk9 hS => ?_)
  obtain ⟨rfl, hw⟩ := hp
  have hP : HP D cy b0 NALL S29 H := by rw [← hh]; exact hB.1
  have hF := hB.2
  try dsimp only at hw
  refine W.eq (g2 := F0 m 32 ls []) rfl ?_
  exact q_vret hx hb hr hP hF hS hw dX4_findFirst_32 hlocks
set_option maxHeartbeats 4000000 in
set_option maxRecDepth 100000 in
theorem c_X4_findOnLowestWavelength (l : Launch) (D : va_G) (cy : Nat → ClassId) (b0 : Nat) (S : St) (x1 : Int32) (x2 : Int32)  (P : St → Prop) (hw : wp_X4_findOnLowestWavelength S x1 x2 P) : Met l yX4_findOnLowestWavelength wsX4_findOnLowestWavelength rm_X4_findOnLowestWavelength (va_Pc [.ref (b0 + 5), .int x1, .int x2] (Wd D cy b0 NALL S)) (QC (Pv P) (Wb D cy b0 NALL) b0) 0 0 (AA b0) := by
  refine Met.ofW (cc := cX4_findOnLowestWavelength) (maxL := 4) (ret := none) (by decide) rfl ?_
  intro p e s m args below meth c s₁ B hml hv
  obtain ⟨hargs, hW, hP, hF⟩ := hv
  have hx := B.exec
  have hb := B.bytes
  have hr := B.returns
  have hts := atoms_spec (ws := wsX4_findOnLowestWavelength) B.pre
  have hown : s.vm.findClass RX4 = some m.cls := findClass_of_methodNamed B.named
  have hlocks := B.notSynchronized
  have hK := hW.1
  have hS : va_S (AA b0) s.heap s.heap [] := va_S.rf
  have hE : entryFrame m args 4 = F0 m 0 ((lg_sl [.ref (b0 + 5), .int x1, .int x2] ++ List.replicate (4 - (lg_sl [.ref (b0 + 5), .int x1, .int x2]).length) Slot.unset).toArray) [] := by rw [hargs]; exact lg_entry_eq m _ _
  rw [hE]
  have hl := lv_entry [.ref (b0 + 5), .int x1, .int x2] (n := 4) (Nat.le_of_ble_eq_true rfl)
  generalize (lg_sl [.ref (b0 + 5), .int x1, .int x2] ++ List.replicate (4 - (lg_sl [.ref (b0 + 5), .int x1, .int x2]).length) Slot.unset).toArray = ls at hl ⊢
  have hl : lv_has ls 4 [(0, .ref (b0 + 5)), (1, .int x1), (2, .int x2)] := hl
  have j2 : ∀ (n2 : Nat), ∀ (S : St) (a3 : Int32), ∀ (H : Heap) (locs : List Loc) (ls : Array Slot), wp_X4_findOnLowestWavelength_2 x1 x2 P n2 S a3 → HP D cy b0 NALL S H → Fx S → va_S (AA b0) s.heap H locs → lv_has ls 4 [(0, .ref (b0 + 5)), (1, .int x1), (2, .int x2), (3, .int a3)] → W p l e rm_X4_findOnLowestWavelength s m args below meth c H locs 0 0 (MQ below (QC (Pv P) (Wb D cy b0 NALL) b0) args s 0 0 (AA b0)) (F0 m 2 ls []) := by
    intro n2
    induction n2 with
    | zero => intro S a3  H locs ls hw _ _ _ _; exact False.elim hw
    | succ n2 ih2 =>
      intro S a3  H locs ls hw hP hF hS hl
      rw [wp_X4_findOnLowestWavelength_2] at hw
      refine lv_iload_n hx hb dX4_findOnLowestWavelength_2 rfl (lv_at hl 3 rfl) ?_
      refine lv_bipush (v := 8) hx hb dX4_findOnLowestWavelength_3 (by decide) ?_
      refine lv_icmp_ge (x := a3) (y := 8) (tgt := 48) hx hb dX4_findOnLowestWavelength_5 (by decide) (fun c5 => ?_) (fun c5 => ?_)
      · rw [if_pos c5] at hw
        exact q_vret hx hb hr hP hF hS hw dX4_findOnLowestWavelength_48 hlocks
      · rw [if_neg c5] at hw
        refine lv_aload_n hx hb dX4_findOnLowestWavelength_8 rfl (lv_at hl 0 rfl) ?_
        refine lv_iload_n hx hb dX4_findOnLowestWavelength_9 rfl (lv_at hl 2 rfl) ?_
        refine lv_iconst (v := 1) hx hb dX4_findOnLowestWavelength_10 (by decide) ?_
        refine lv_iload_n hx hb dX4_findOnLowestWavelength_11 rfl (lv_at hl 3 rfl) ?_
        refine lv_ishl hx hb dX4_findOnLowestWavelength_12 ?_
        refine lv_iconst (v := 0) hx hb dX4_findOnLowestWavelength_13 (by decide) ?_
        refine q_call (va_runV (As := [.int x2, .int (1 <<< (a3 &&& 31)), .int 0]) (rest := []) ⟨hx, hb, hml, hown, hts⟩ (c_X4_aim l D cy b0 S x2 (1 <<< (a3 &&& 31)) 0 _ hw) (cwV 3 hts gX4_findOnLowestWavelength_X4_aim rfl rfl rfl (by decide +kernel) ⟨(Nat.le_of_ble_eq_true rfl), (Nat.le_of_ble_eq_true rfl)⟩) (q_pV hW hP hF hS (k := 5) (ci := 4) (by decide) (cell_4 (kk_5)) rfl [.int x2, .int (1 <<< (a3 &&& 31)), .int 0]) rfl rfl hl.1 rfl (lv_room (Nat.le_of_ble_eq_true rfl)) dX4_findOnLowestWavelength_14 ⟨(Nat.le_of_ble_eq_true rfl), (Nat.le_of_ble_eq_true rfl)⟩) hS (fun v14 S14 t14 H locs hh hp hB hz hk9 hS => ?_)
        obtain ⟨rfl, hw⟩ := hp
        have hP : HP D cy b0 NALL S14 H := by rw [← hh]; exact hB.1
        have hF := hB.2
        try dsimp only at hw
        refine W.eq (g2 := F0 m 17 ls []) rfl ?_
        refine lv_aload_n hx hb dX4_findOnLowestWavelength_17 rfl (lv_at hl 0 rfl) ?_
        refine lv_iload_n hx hb dX4_findOnLowestWavelength_18 rfl (lv_at hl 1 rfl) ?_
        refine lv_iconst (v := 1) hx hb dX4_findOnLowestWavelength_19 (by decide) ?_
        refine lv_iload_n hx hb dX4_findOnLowestWavelength_20 rfl (lv_at hl 1 rfl) ?_
        refine lv_ishl hx hb dX4_findOnLowestWavelength_21 ?_
        refine lv_sipush (v := 255) hx hb dX4_findOnLowestWavelength_22 (by decide) ?_
        refine lv_iconst (v := 0) hx hb dX4_findOnLowestWavelength_25 (by decide) ?_
        refine lv_iconst (v := 0) hx hb dX4_findOnLowestWavelength_26 (by decide) ?_
        refine q_call (va_runV (As := [.int x1, .int (1 <<< (x1 &&& 31)), .int 255, .int 0, .int 0]) (rest := []) ⟨hx, hb, hml, hown, hts⟩ (c_X4_walk l D cy b0 8 S14 x1 (1 <<< (x1 &&& 31)) 255 0 0 _ hw) (cwV 5 hts gX4_findOnLowestWavelength_X4_walk rfl rfl rfl (by decide +kernel) ⟨(Nat.le_of_ble_eq_true rfl), (Nat.le_of_ble_eq_true rfl)⟩) (q_pV hW hP hF hS (k := 5) (ci := 4) (by decide) (cell_4 (kk_5)) rfl [.int x1, .int (1 <<< (x1 &&& 31)), .int 255, .int 0, .int 0]) rfl rfl hl.1 rfl (lv_room (Nat.le_of_ble_eq_true rfl)) dX4_findOnLowestWavelength_27 ⟨(Nat.le_of_ble_eq_true rfl), (Nat.le_of_ble_eq_true rfl)⟩) hS (fun v27 S27 t27 H locs hh hp hB hz hk9 hS => ?_)
        obtain ⟨rfl, hw⟩ := hp
        have hP : HP D cy b0 NALL S27 H := by rw [← hh]; exact hB.1
        have hF := hB.2
        try dsimp only at hw
        refine W.eq (g2 := F0 m 30 ls []) rfl ?_
        refine lv_aload_n hx hb dX4_findOnLowestWavelength_30 rfl (lv_at hl 0 rfl) ?_
        refine q_call (va_runV (As := []) (rest := []) ⟨hx, hb, hml, hown, hts⟩ (c_X4_pickFirst l D cy b0 S27 _ hw) (cwV 0 hts gX4_findOnLowestWavelength_X4_pickFirst rfl rfl rfl (by decide +kernel) ⟨(Nat.le_of_ble_eq_true rfl), (Nat.le_of_ble_eq_true rfl)⟩) (q_pV hW hP hF hS (k := 5) (ci := 4) (by decide) (cell_4 (kk_5)) rfl []) rfl rfl hl.1 rfl (lv_room (Nat.le_of_ble_eq_true rfl)) dX4_findOnLowestWavelength_31 ⟨(Nat.le_of_ble_eq_true rfl), (Nat.le_of_ble_eq_true rfl)⟩) hS (fun v31 S31 t31 H locs hh hp hB hz hk9 hS => ?_)
        obtain ⟨rfl, hw⟩ := hp
        have hP : HP D cy b0 NALL S31 H := by rw [← hh]; exact hB.1
        have hF := hB.2
        try dsimp only at hw
        refine W.eq (g2 := F0 m 34 ls []) rfl ?_
        refine lv_aload_n hx hb dX4_findOnLowestWavelength_34 rfl (lv_at hl 0 rfl) ?_
        rcases hq35 : gR S31 5 0 with _ | q35
        · have hw := hw.1 hq35
          refine gn_4_0 (k := 5) hx hb hts (by decide +kernel) hown hK hP (by decide) (kk_5) hq35 (hts (.fieldLink RX4 58 "Opticmesh$WayFinder" "first" "LOpticmesh$Way;") (by decide +kernel)) dX4_findOnLowestWavelength_35 ?_
          refine lv_ifnullN (tgt := 42) hx hb dX4_findOnLowestWavelength_38 (by decide) ?_
          obtain ⟨y42, e42⟩ : ∃ z : Int32, z = a3 + 1 := ⟨_, rfl⟩
          have hw := hw y42 e42
          refine lv_iinc (v := y42) (lv' := [(3, .int y42), (0, .ref (b0 + 5)), (1, .int x1), (2, .int x2)]) hx hb dX4_findOnLowestWavelength_42 hl (k := 3) rfl (by rw [e42]; rfl) (by decide) rfl (fun ls hl => ?_)
          refine lv_goto (tgt := 2) hx hb dX4_findOnLowestWavelength_45 (by decide) ?_
          exact ih2 S31 y42  _ _ _ hw hP hF hS (lv_sub hl [1, 2, 3, 0] rfl)
        · have hw := hw.2 q35 hq35
          have hk_q35 : kd q35 = 3 := (hF.2.1 q35 hq35)
          refine gf_4_0 (k := 5) hx hb hts (by decide +kernel) hown hK hP (by decide) (kk_5) (q := q35) hq35 (hts (.fieldLink RX4 58 "Opticmesh$WayFinder" "first" "LOpticmesh$Way;") (by decide +kernel)) dX4_findOnLowestWavelength_35 ?_
          refine lv_ifnull hx hb dX4_findOnLowestWavelength_38 ?_
          exact q_vret hx hb hr hP hF hS hw dX4_findOnLowestWavelength_41 hlocks
  unfold wp_X4_findOnLowestWavelength at hw
  refine lv_iconst (v := 0) hx hb dX4_findOnLowestWavelength_0 (by decide) ?_
  refine lv_istore_n (lv' := [(3, .int 0), (0, .ref (b0 + 5)), (1, .int x1), (2, .int x2)]) hx hb dX4_findOnLowestWavelength_1 rfl hl (by decide) rfl (fun ls hl => ?_)
  obtain ⟨n2, hw⟩ := hw
  exact j2 n2 S 0  _ _ _ hw hP hF hS (lv_sub hl [1, 2, 3, 0] rfl)
set_option maxHeartbeats 4000000 in
set_option maxRecDepth 100000 in
theorem c_X4_isPairAhead (l : Launch) (D : va_G) (cy : Nat → ClassId) (b0 : Nat) (S : St) (x1 : Nat) (x2 : Nat) (x3 : Nat) (x4 : Nat) (hk1 : kd x1 = 3) (hk2 : kd x2 = 3) (hk3 : kd x3 = 3) (hk4 : kd x4 = 3) (P : Bool → St → Prop) (hw : wp_X4_isPairAhead S x1 x2 x3 x4 P) : Met l yX4_isPairAhead wsX4_isPairAhead rm_X4_isPairAhead (va_Pc [.ref (b0 + x1), .ref (b0 + x2), .ref (b0 + x3), .ref (b0 + x4)] (Wd D cy b0 NALL S)) (QC (Pz P) (Wb D cy b0 NALL) b0) 0 0 (AA b0) := by
  refine Met.ofW (cc := cX4_isPairAhead) (maxL := 5) (ret := (some .boolean)) (by decide) rfl ?_
  intro p e s m args below meth c s₁ B hml hv
  obtain ⟨hargs, hW, hP, hF⟩ := hv
  have hx := B.exec
  have hb := B.bytes
  have hr := B.returns
  have hts := atoms_spec (ws := wsX4_isPairAhead) B.pre
  have hown : s.vm.findClass RX4 = some m.cls := findClass_of_methodNamed B.named
  have hlocks := B.notSynchronized
  have hK := hW.1
  have hS : va_S (AA b0) s.heap s.heap [] := va_S.rf
  have hE : entryFrame m args 5 = F0 m 0 ((lg_sl [.ref (b0 + x1), .ref (b0 + x2), .ref (b0 + x3), .ref (b0 + x4)] ++ List.replicate (5 - (lg_sl [.ref (b0 + x1), .ref (b0 + x2), .ref (b0 + x3), .ref (b0 + x4)]).length) Slot.unset).toArray) [] := by rw [hargs]; exact lg_entry_eq m _ _
  rw [hE]
  have hl := lv_entry [.ref (b0 + x1), .ref (b0 + x2), .ref (b0 + x3), .ref (b0 + x4)] (n := 5) (Nat.le_of_ble_eq_true rfl)
  generalize (lg_sl [.ref (b0 + x1), .ref (b0 + x2), .ref (b0 + x3), .ref (b0 + x4)] ++ List.replicate (5 - (lg_sl [.ref (b0 + x1), .ref (b0 + x2), .ref (b0 + x3), .ref (b0 + x4)]).length) Slot.unset).toArray = ls at hl ⊢
  have hl : lv_has ls 5 [(0, .ref (b0 + x1)), (1, .ref (b0 + x2)), (2, .ref (b0 + x3)), (3, .ref (b0 + x4))] := hl
  unfold wp_X4_isPairAhead at hw
  refine lv_aload_n hx hb dX4_isPairAhead_0 rfl (lv_at hl 0 rfl) ?_
  refine gf_3_1 (k := x1) hx hb hts (by decide +kernel) hown hK hP (kd_N hk1 (by decide)) hk1 (hts (.fieldLink RX4 83 "Opticmesh$Way" "length" "I") (by decide +kernel)) dX4_isPairAhead_1 ?_
  refine lv_aload_n hx hb dX4_isPairAhead_4 rfl (lv_at hl 1 rfl) ?_
  refine gf_3_1 (k := x2) hx hb hts (by decide +kernel) hown hK hP (kd_N hk2 (by decide)) hk2 (hts (.fieldLink RX4 83 "Opticmesh$Way" "length" "I") (by decide +kernel)) dX4_isPairAhead_5 ?_
  refine lv_iadd hx hb dX4_isPairAhead_8 ?_
  refine lv_aload_n hx hb dX4_isPairAhead_9 rfl (lv_at hl 2 rfl) ?_
  refine gf_3_1 (k := x3) hx hb hts (by decide +kernel) hown hK hP (kd_N hk3 (by decide)) hk3 (hts (.fieldLink RX4 83 "Opticmesh$Way" "length" "I") (by decide +kernel)) dX4_isPairAhead_10 ?_
  refine lv_isub hx hb dX4_isPairAhead_13 ?_
  refine lv_aload_n hx hb dX4_isPairAhead_14 rfl (lv_at hl 3 rfl) ?_
  refine gf_3_1 (k := x4) hx hb hts (by decide +kernel) hown hK hP (kd_N hk4 (by decide)) hk4 (hts (.fieldLink RX4 83 "Opticmesh$Way" "length" "I") (by decide +kernel)) dX4_isPairAhead_15 ?_
  refine lv_isub hx hb dX4_isPairAhead_18 ?_
  refine lv_topi (fun y19 e19 => ?_)
  have hw := hw y19 e19
  refine lv_istore (lv' := [(4, .int y19), (0, .ref (b0 + x1)), (1, .ref (b0 + x2)), (2, .ref (b0 + x3)), (3, .ref (b0 + x4))]) hx hb dX4_isPairAhead_19 hl (by decide) rfl (fun ls hl => ?_)
  refine lv_iload hx hb dX4_isPairAhead_21 (lv_at hl 0 rfl) ?_
  refine lv_if_eq (x := y19) (tgt := 37) hx hb dX4_isPairAhead_23 (by decide) (fun c23 => ?_) (fun c23 => ?_)
  · rw [if_pos c23] at hw
    refine lv_aload_n hx hb dX4_isPairAhead_37 rfl (lv_at hl 1 rfl) ?_
    refine lv_aload_n hx hb dX4_isPairAhead_38 rfl (lv_at hl 3 rfl) ?_
    refine q_call (va_runV (As := [.ref (b0 + x3)]) (rest := []) ⟨hx, hb, hml, hown, hts⟩ (c_X3_isAheadOf l D cy b0 S x1 x3 hk1 hk3 _ hw) (cwV 1 hts gX4_isPairAhead_X3_isAheadOf rfl rfl rfl (by decide +kernel) ⟨(Nat.le_of_ble_eq_true rfl), (Nat.le_of_ble_eq_true rfl)⟩) (q_pV hW hP hF hS (k := x1) (ci := 3) (kd_N hk1 (by decide)) (cell_3 hk1) rfl [.ref (b0 + x3)]) rfl rfl hl.1 rfl (lv_room (Nat.le_of_ble_eq_true rfl)) dX4_isPairAhead_39 ⟨(Nat.le_of_ble_eq_true rfl), (Nat.le_of_ble_eq_true rfl)⟩) hS (fun v39 S39 t39 H locs hh hp hB hz hk9 hS => ?_)
    obtain ⟨r39, rfl, hw⟩ := hp
    have hP : HP D cy b0 NALL S39 H := by rw [← hh]; exact hB.1
    have hF := hB.2
    try dsimp only at hw
    refine W.eq (g2 := F0 m 42 ls [.int (b2i r39)]) rfl ?_
    refine lv_if_ne (x := b2i r39) (tgt := 58) hx hb dX4_isPairAhead_42 (by decide) (fun c42 => ?_) (fun c42 => ?_)
    · have c42 := b2i_n c42
      rw [if_pos c42] at hw
      refine lv_iconst (v := 1) hx hb dX4_isPairAhead_58 (by decide) ?_
      refine lv_goto (tgt := 63) hx hb dX4_isPairAhead_59 (by decide) ?_
      exact q_zret (v := true) hx hb hr hP hF hS hw dX4_isPairAhead_63 hlocks
    · have c42 := b2i_z c42
      rw [if_neg c42] at hw
      refine lv_aload_n hx hb dX4_isPairAhead_45 rfl (lv_at hl 1 rfl) ?_
      refine lv_aload_n hx hb dX4_isPairAhead_46 rfl (lv_at hl 3 rfl) ?_
      refine q_acmp_ne (rx := (some x1)) (ry := (some x3)) (tgt := 62) hx hb dX4_isPairAhead_47 (by decide) (fun c47 => ?_) (fun c47 => ?_)
      · rw [if_neg c47] at hw
        refine lv_iconst (v := 0) hx hb dX4_isPairAhead_62 (by decide) ?_
        exact q_zret (v := false) hx hb hr hP hF hS hw dX4_isPairAhead_63 hlocks
      · rw [if_pos c47] at hw
        refine lv_aload_n hx hb dX4_isPairAhead_50 rfl (lv_at hl 2 rfl) ?_
        refine lv_aload_n hx hb dX4_isPairAhead_51 rfl (lv_at hl 4 rfl) ?_
        refine q_call (va_runV (As := [.ref (b0 + x4)]) (rest := []) ⟨hx, hb, hml, hown, hts⟩ (c_X3_isAheadOf l D cy b0 S39 x2 x4 hk2 hk4 _ hw) (cwV 1 hts gX4_isPairAhead_X3_isAheadOf rfl rfl rfl (by decide +kernel) ⟨(Nat.le_of_ble_eq_true rfl), (Nat.le_of_ble_eq_true rfl)⟩) (q_pV hW hP hF hS (k := x2) (ci := 3) (kd_N hk2 (by decide)) (cell_3 hk2) rfl [.ref (b0 + x4)]) rfl rfl hl.1 rfl (lv_room (Nat.le_of_ble_eq_true rfl)) dX4_isPairAhead_52 ⟨(Nat.le_of_ble_eq_true rfl), (Nat.le_of_ble_eq_true rfl)⟩) hS (fun v52 S52 t52 H locs hh hp hB hz hk9 hS => ?_)
        obtain ⟨r52, rfl, hw⟩ := hp
        have hP : HP D cy b0 NALL S52 H := by rw [← hh]; exact hB.1
        have hF := hB.2
        try dsimp only at hw
        refine W.eq (g2 := F0 m 55 ls [.int (b2i r52)]) rfl ?_
        refine lv_if_eq (x := b2i r52) (tgt := 62) hx hb dX4_isPairAhead_55 (by decide) (fun c55 => ?_) (fun c55 => ?_)
        · have c55 := b2i_z c55
          rw [if_neg c55] at hw
          refine lv_iconst (v := 0) hx hb dX4_isPairAhead_62 (by decide) ?_
          exact q_zret (v := false) hx hb hr hP hF hS hw dX4_isPairAhead_63 hlocks
        · have c55 := b2i_n c55
          rw [if_pos c55] at hw
          refine lv_iconst (v := 1) hx hb dX4_isPairAhead_58 (by decide) ?_
          refine lv_goto (tgt := 63) hx hb dX4_isPairAhead_59 (by decide) ?_
          exact q_zret (v := true) hx hb hr hP hF hS hw dX4_isPairAhead_63 hlocks
  · rw [if_neg c23] at hw
    refine lv_iload hx hb dX4_isPairAhead_26 (lv_at hl 0 rfl) ?_
    refine lv_if_ge (x := y19) (tgt := 35) hx hb dX4_isPairAhead_28 (by decide) (fun c28 => ?_) (fun c28 => ?_)
    · rw [if_pos c28] at hw
      refine lv_iconst (v := 0) hx hb dX4_isPairAhead_35 (by decide) ?_
      exact q_zret (v := false) hx hb hr hP hF hS hw dX4_isPairAhead_36 hlocks
    · rw [if_neg c28] at hw
      refine lv_iconst (v := 1) hx hb dX4_isPairAhead_31 (by decide) ?_
      refine lv_goto (tgt := 36) hx hb dX4_isPairAhead_32 (by decide) ?_
      exact q_zret (v := true) hx hb hr hP hF hS hw dX4_isPairAhead_36 hlocks
set_option maxHeartbeats 4000000 in
set_option maxRecDepth 100000 in
theorem c_X4_offerPair (l : Launch) (D : va_G) (cy : Nat → ClassId) (b0 : Nat) (S : St) (x1 : Nat) (x2 : Nat) (hk1 : kd x1 = 3) (hk2 : kd x2 = 3) (P : St → Prop) (hw : wp_X4_offerPair S x1 x2 P) : Met l yX4_offerPair wsX4_offerPair rm_X4_offerPair (va_Pc [.ref (b0 + 5), .ref (b0 + x1), .ref (b0 + x2)] (Wd D cy b0 NALL S)) (QC (Pv P) (Wb D cy b0 NALL) b0) 0 0 (AA b0) := by
  refine Met.ofW (cc := cX4_offerPair) (maxL := 6) (ret := none) (by decide) rfl ?_
  intro p e s m args below meth c s₁ B hml hv
  obtain ⟨hargs, hW, hP, hF⟩ := hv
  have hx := B.exec
  have hb := B.bytes
  have hr := B.returns
  have hts := atoms_spec (ws := wsX4_offerPair) B.pre
  have hown : s.vm.findClass RX4 = some m.cls := findClass_of_methodNamed B.named
  have hlocks := B.notSynchronized
  have hK := hW.1
  have hS : va_S (AA b0) s.heap s.heap [] := va_S.rf
  have hE : entryFrame m args 6 = F0 m 0 ((lg_sl [.ref (b0 + 5), .ref (b0 + x1), .ref (b0 + x2)] ++ List.replicate (6 - (lg_sl [.ref (b0 + 5), .ref (b0 + x1), .ref (b0 + x2)]).length) Slot.unset).toArray) [] := by rw [hargs]; exact lg_entry_eq m _ _
  rw [hE]
  have hl := lv_entry [.ref (b0 + 5), .ref (b0 + x1), .ref (b0 + x2)] (n := 6) (Nat.le_of_ble_eq_true rfl)
  generalize (lg_sl [.ref (b0 + 5), .ref (b0 + x1), .ref (b0 + x2)] ++ List.replicate (6 - (lg_sl [.ref (b0 + 5), .ref (b0 + x1), .ref (b0 + x2)]).length) Slot.unset).toArray = ls at hl ⊢
  have hl : lv_has ls 6 [(0, .ref (b0 + 5)), (1, .ref (b0 + x1)), (2, .ref (b0 + x2))] := hl
  have j60 : ∀ (S : St) (a4 : Nat) (a5 : Nat), kd a4 = 3 → kd a5 = 3 → ∀ (H : Heap) (locs : List Loc) (ls : Array Slot), wp_X4_offerPair_60 x1 x2 P S a4 a5 → HP D cy b0 NALL S H → Fx S → va_S (AA b0) s.heap H locs → lv_has ls 6 [(0, .ref (b0 + 5)), (4, .ref (b0 + a4)), (5, .ref (b0 + a5))] → W p l e rm_X4_offerPair s m args below meth c H locs 0 0 (MQ below (QC (Pv P) (Wb D cy b0 NALL) b0) args s 0 0 (AA b0)) (F0 m 60 ls []) := by
    intro S a4 a5 hk_a4 hk_a5 H locs ls hw hP hF hS hl
    unfold wp_X4_offerPair_60 at hw
    refine lv_aload_n hx hb dX4_offerPair_60 rfl (lv_at hl 0 rfl) ?_
    refine lv_aload hx hb dX4_offerPair_61 (lv_at hl 1 rfl) ?_
    refine pf_4_0 (k := 5) (x := a4) hx hb hts (by decide +kernel) hown hK hP hS (by decide) (kk_5) (hts (.fieldLink RX4 58 "Opticmesh$WayFinder" "first" "LOpticmesh$Way;") (by decide +kernel)) dX4_offerPair_63 (fun H locs hz hP hS => ?_)
    have hF : Fx (sR S 5 0 (some a4)) := (Fx.f0 hF (v := some a4) (fun q h => by cases h; exact hk_a4))
    generalize eS63 : sR S 5 0 (some a4) = S63 at hP hF
    have hw := hw S63 eS63.symm
    refine lv_aload_n hx hb dX4_offerPair_66 rfl (lv_at hl 0 rfl) ?_
    refine lv_aload hx hb dX4_offerPair_67 (lv_at hl 2 rfl) ?_
    refine pf_4_1 (k := 5) (x := a5) hx hb hts (by decide +kernel) hown hK hP hS (by decide) (kk_5) (hts (.fieldLink RX4 62 "Opticmesh$WayFinder" "second" "LOpticmesh$Way;") (by decide +kernel)) dX4_offerPair_69 (fun H locs hz hP hS => ?_)
    have hF : Fx (sR S63 5 1 (some a5)) := (Fx.f1 hF (v := some a5) (fun q h => by cases h; exact hk_a5))
    generalize eS69 : sR S63 5 1 (some a5) = S69 at hP hF
    have hw := hw S69 eS69.symm
    exact q_vret hx hb hr hP hF hS hw dX4_offerPair_72 hlocks
  have j26 : ∀ (S : St) (a4 : Nat) (t0 : Nat), kd a4 = 3 → kd t0 = 3 → ∀ (H : Heap) (locs : List Loc) (ls : Array Slot), wp_X4_offerPair_26 x1 x2 P S a4 t0 → HP D cy b0 NALL S H → Fx S → va_S (AA b0) s.heap H locs → lv_has ls 6 [(0, .ref (b0 + 5)), (4, .ref (b0 + a4))] → W p l e rm_X4_offerPair s m args below meth c H locs 0 0 (MQ below (QC (Pv P) (Wb D cy b0 NALL) b0) args s 0 0 (AA b0)) (F0 m 26 ls [.ref (b0 + t0)]) := by
    intro S a4 t0 hk_a4 hk_t0 H locs ls hw hP hF hS hl
    unfold wp_X4_offerPair_26 at hw
    refine lv_astore (lv' := [(5, .ref (b0 + t0)), (0, .ref (b0 + 5)), (4, .ref (b0 + a4))]) hx hb dX4_offerPair_26 hl (by decide) rfl (fun ls hl => ?_)
    refine lv_aload_n hx hb dX4_offerPair_28 rfl (lv_at hl 1 rfl) ?_
    rcases hq29 : gR S 5 0 with _ | q29
    · have hw := hw.1 hq29
      refine gn_4_0 (k := 5) hx hb hts (by decide +kernel) hown hK hP (by decide) (kk_5) hq29 (hts (.fieldLink RX4 58 "Opticmesh$WayFinder" "first" "LOpticmesh$Way;") (by decide +kernel)) dX4_offerPair_29 ?_
      refine lv_ifnullN (tgt := 60) hx hb dX4_offerPair_32 (by decide) ?_
      exact j60 S a4 t0 hk_a4 hk_t0 _ _ _ hw hP hF hS (lv_sub hl [1, 2, 0] rfl)
    · have hw := hw.2 q29 hq29
      have hk_q29 : kd q29 = 3 := (hF.2.1 q29 hq29)
      refine gf_4_0 (k := 5) hx hb hts (by decide +kernel) hown hK hP (by decide) (kk_5) (q := q29) hq29 (hts (.fieldLink RX4 58 "Opticmesh$WayFinder" "first" "LOpticmesh$Way;") (by decide +kernel)) dX4_offerPair_29 ?_
      refine lv_ifnull hx hb dX4_offerPair_32 ?_
      refine lv_aload_n hx hb dX4_offerPair_35 rfl (lv_at hl 1 rfl) ?_
      rcases hq36 : gR S 5 1 with _ | q36
      · have hw := hw.1 hq36
        refine gn_4_1 (k := 5) hx hb hts (by decide +kernel) hown hK hP (by decide) (kk_5) hq36 (hts (.fieldLink RX4 62 "Opticmesh$WayFinder" "second" "LOpticmesh$Way;") (by decide +kernel)) dX4_offerPair_36 ?_
        refine lv_ifnullN (tgt := 60) hx hb dX4_offerPair_39 (by decide) ?_
        exact j60 S a4 t0 hk_a4 hk_t0 _ _ _ hw hP hF hS (lv_sub hl [1, 2, 0] rfl)
      · have hw := hw.2 q36 hq36
        have hk_q36 : kd q36 = 3 := (hF.2.2.1 q36 hq36)
        refine gf_4_1 (k := 5) hx hb hts (by decide +kernel) hown hK hP (by decide) (kk_5) (q := q36) hq36 (hts (.fieldLink RX4 62 "Opticmesh$WayFinder" "second" "LOpticmesh$Way;") (by decide +kernel)) dX4_offerPair_36 ?_
        refine lv_ifnull hx hb dX4_offerPair_39 ?_
        refine lv_aload hx hb dX4_offerPair_42 (lv_at hl 2 rfl) ?_
        refine lv_aload hx hb dX4_offerPair_44 (lv_at hl 0 rfl) ?_
        refine lv_aload_n hx hb dX4_offerPair_46 rfl (lv_at hl 1 rfl) ?_
        rcases hq47 : gR S 5 0 with _ | q47
        · have hw := hw.1 hq47
          refine gn_4_0 (k := 5) hx hb hts (by decide +kernel) hown hK hP (by decide) (kk_5) hq47 (hts (.fieldLink RX4 58 "Opticmesh$WayFinder" "first" "LOpticmesh$Way;") (by decide +kernel)) dX4_offerPair_47 ?_
          refine lv_aload_n hx hb dX4_offerPair_50 rfl (lv_at hl 1 rfl) ?_
          rcases hq51 : gR S 5 1 with _ | q51
          · have hw := hw.1 hq51
            refine gn_4_1 (k := 5) hx hb hts (by decide +kernel) hown hK hP (by decide) (kk_5) hq51 (hts (.fieldLink RX4 62 "Opticmesh$WayFinder" "second" "LOpticmesh$Way;") (by decide +kernel)) dX4_offerPair_51 ?_
            exact False.elim hw
          · have hw := hw.2 q51 hq51
            have hk_q51 : kd q51 = 3 := (hF.2.2.1 q51 hq51)
            refine gf_4_1 (k := 5) hx hb hts (by decide +kernel) hown hK hP (by decide) (kk_5) (q := q51) hq51 (hts (.fieldLink RX4 62 "Opticmesh$WayFinder" "second" "LOpticmesh$Way;") (by decide +kernel)) dX4_offerPair_51 ?_
            exact False.elim hw
        · have hw := hw.2 q47 hq47
          have hk_q47 : kd q47 = 3 := (hF.2.1 q47 hq47)
          refine gf_4_0 (k := 5) hx hb hts (by decide +kernel) hown hK hP (by decide) (kk_5) (q := q47) hq47 (hts (.fieldLink RX4 58 "Opticmesh$WayFinder" "first" "LOpticmesh$Way;") (by decide +kernel)) dX4_offerPair_47 ?_
          refine lv_aload_n hx hb dX4_offerPair_50 rfl (lv_at hl 1 rfl) ?_
          rcases hq51 : gR S 5 1 with _ | q51
          · have hw := hw.1 hq51
            refine gn_4_1 (k := 5) hx hb hts (by decide +kernel) hown hK hP (by decide) (kk_5) hq51 (hts (.fieldLink RX4 62 "Opticmesh$WayFinder" "second" "LOpticmesh$Way;") (by decide +kernel)) dX4_offerPair_51 ?_
            exact False.elim hw
          · have hw := hw.2 q51 hq51
            have hk_q51 : kd q51 = 3 := (hF.2.2.1 q51 hq51)
            refine gf_4_1 (k := 5) hx hb hts (by decide +kernel) hown hK hP (by decide) (kk_5) (q := q51) hq51 (hts (.fieldLink RX4 62 "Opticmesh$WayFinder" "second" "LOpticmesh$Way;") (by decide +kernel)) dX4_offerPair_51 ?_
            refine q_call (va_runS (As := [.ref (b0 + a4), .ref (b0 + t0), .ref (b0 + q47), .ref (b0 + q51)]) (rest := []) ⟨hx, hb, hml, hown, hts⟩ (c_X4_isPairAhead l D cy b0 S a4 t0 q47 q51 hk_a4 hk_t0 hk_q47 hk_q51 _ hw) (va_cwS 4 hts gX4_offerPair_X4_isPairAhead rfl rfl rfl (by decide +kernel) ⟨(Nat.le_of_ble_eq_true rfl), (Nat.le_of_ble_eq_true rfl)⟩) (q_pS hW hP hF hS [.ref (b0 + a4), .ref (b0 + t0), .ref (b0 + q47), .ref (b0 + q51)]) rfl rfl hl.1 rfl (lv_room (Nat.le_of_ble_eq_true rfl)) dX4_offerPair_54 ⟨(Nat.le_of_ble_eq_true rfl), (Nat.le_of_ble_eq_true rfl)⟩) hS (fun v54 S54 t54 H locs hh hp hB hz hk9 hS => ?_)
            obtain ⟨r54, rfl, hw⟩ := hp
            have hP : HP D cy b0 NALL S54 H := by rw [← hh]; exact hB.1
            have hF := hB.2
            try dsimp only at hw
            refine W.eq (g2 := F0 m 57 ls [.int (b2i r54)]) rfl ?_
            refine lv_if_eq (x := b2i r54) (tgt := 72) hx hb dX4_offerPair_57 (by decide) (fun c57 => ?_) (fun c57 => ?_)
            · have c57 := b2i_z c57
              rw [if_neg c57] at hw
              exact q_vret hx hb hr hP hF hS hw dX4_offerPair_72 hlocks
            · have c57 := b2i_n c57
              rw [if_pos c57] at hw
              exact j60 S54 a4 t0 hk_a4 hk_t0 _ _ _ hw hP hF hS (lv_sub hl [1, 2, 0] rfl)
  have j15 : ∀ (S : St) (a3 : Bool) (t0 : Nat), kd t0 = 3 → ∀ (H : Heap) (locs : List Loc) (ls : Array Slot), wp_X4_offerPair_15 x1 x2 P S a3 t0 → HP D cy b0 NALL S H → Fx S → va_S (AA b0) s.heap H locs → lv_has ls 6 [(0, .ref (b0 + 5)), (1, .ref (b0 + x1)), (2, .ref (b0 + x2)), (3, .int (b2i a3))] → W p l e rm_X4_offerPair s m args below meth c H locs 0 0 (MQ below (QC (Pv P) (Wb D cy b0 NALL) b0) args s 0 0 (AA b0)) (F0 m 15 ls [.ref (b0 + t0)]) := by
    intro S a3 t0 hk_t0 H locs ls hw hP hF hS hl
    unfold wp_X4_offerPair_15 at hw
    refine lv_astore (lv' := [(4, .ref (b0 + t0)), (0, .ref (b0 + 5)), (1, .ref (b0 + x1)), (2, .ref (b0 + x2)), (3, .int (b2i a3))]) hx hb dX4_offerPair_15 hl (by decide) rfl (fun ls hl => ?_)
    refine lv_iload_n hx hb dX4_offerPair_17 rfl (lv_at hl 4 rfl) ?_
    refine lv_if_eq (x := b2i a3) (tgt := 25) hx hb dX4_offerPair_18 (by decide) (fun c18 => ?_) (fun c18 => ?_)
    · have c18 := b2i_z c18
      rw [if_neg c18] at hw
      refine lv_aload_n hx hb dX4_offerPair_25 rfl (lv_at hl 2 rfl) ?_
      exact j26 S t0 x1 hk_t0 hk1 _ _ _ hw hP hF hS (lv_sub hl [1, 0] rfl)
    · have c18 := b2i_n c18
      rw [if_pos c18] at hw
      refine lv_aload_n hx hb dX4_offerPair_21 rfl (lv_at hl 3 rfl) ?_
      refine lv_goto (tgt := 26) hx hb dX4_offerPair_22 (by decide) ?_
      exact j26 S t0 x2 hk_t0 hk2 _ _ _ hw hP hF hS (lv_sub hl [1, 0] rfl)
  unfold wp_X4_offerPair at hw
  refine lv_aload_n hx hb dX4_offerPair_0 rfl (lv_at hl 1 rfl) ?_
  refine lv_aload_n hx hb dX4_offerPair_1 rfl (lv_at hl 2 rfl) ?_
  refine q_call (va_runV (As := [.ref (b0 + x2)]) (rest := []) ⟨hx, hb, hml, hown, hts⟩ (c_X3_isAheadOf l D cy b0 S x1 x2 hk1 hk2 _ hw) (cwV 1 hts gX4_offerPair_X3_isAheadOf rfl rfl rfl (by decide +kernel) ⟨(Nat.le_of_ble_eq_true rfl), (Nat.le_of_ble_eq_true rfl)⟩) (q_pV hW hP hF hS (k := x1) (ci := 3) (kd_N hk1 (by decide)) (cell_3 hk1) rfl [.ref (b0 + x2)]) rfl rfl hl.1 rfl (lv_room (Nat.le_of_ble_eq_true rfl)) dX4_offerPair_2 ⟨(Nat.le_of_ble_eq_true rfl), (Nat.le_of_ble_eq_true rfl)⟩) hS (fun v2 S2 t2 H locs hh hp hB hz hk9 hS => ?_)
  obtain ⟨r2, rfl, hw⟩ := hp
  have hP : HP D cy b0 NALL S2 H := by rw [← hh]; exact hB.1
  have hF := hB.2
  try dsimp only at hw
  refine W.eq (g2 := F0 m 5 ls [.int (b2i r2)]) rfl ?_
  refine lv_istore_n (lv' := [(3, .int (b2i r2)), (0, .ref (b0 + 5)), (1, .ref (b0 + x1)), (2, .ref (b0 + x2))]) hx hb dX4_offerPair_5 rfl hl (by decide) rfl (fun ls hl => ?_)
  refine lv_iload_n hx hb dX4_offerPair_6 rfl (lv_at hl 0 rfl) ?_
  refine lv_if_eq (x := b2i r2) (tgt := 14) hx hb dX4_offerPair_7 (by decide) (fun c7 => ?_) (fun c7 => ?_)
  · have c7 := b2i_z c7
    rw [if_neg c7] at hw
    refine lv_aload_n hx hb dX4_offerPair_14 rfl (lv_at hl 3 rfl) ?_
    exact j15 S2 r2 x2 hk2 _ _ _ hw hP hF hS (lv_sub hl [1, 2, 3, 0] rfl)
  · have c7 := b2i_n c7
    rw [if_pos c7] at hw
    refine lv_aload_n hx hb dX4_offerPair_10 rfl (lv_at hl 2 rfl) ?_
    refine lv_goto (tgt := 15) hx hb dX4_offerPair_11 (by decide) ?_
    exact j15 S2 r2 x1 hk1 _ _ _ hw hP hF hS (lv_sub hl [1, 2, 3, 0] rfl)
set_option maxHeartbeats 4000000 in
set_option maxRecDepth 100000 in
theorem c_X4_findPair (l : Launch) (D : va_G) (cy : Nat → ClassId) (b0 : Nat) (S : St) (x1 : Int32) (x2 : Int32)  (P : St → Prop) (hw : wp_X4_findPair S x1 x2 P) : Met l yX4_findPair wsX4_findPair rm_X4_findPair (va_Pc [.ref (b0 + 5), .int x1, .int x2] (Wd D cy b0 NALL S)) (QC (Pv P) (Wb D cy b0 NALL) b0) 0 0 (AA b0) := by
  refine Met.ofW (cc := cX4_findPair) (maxL := 5) (ret := none) (by decide) rfl ?_
  intro p e s m args below meth c s₁ B hml hv
  obtain ⟨hargs, hW, hP, hF⟩ := hv
  have hx := B.exec
  have hb := B.bytes
  have hr := B.returns
  have hts := atoms_spec (ws := wsX4_findPair) B.pre
  have hown : s.vm.findClass RX4 = some m.cls := findClass_of_methodNamed B.named
  have hlocks := B.notSynchronized
  have hK := hW.1
  have hS : va_S (AA b0) s.heap s.heap [] := va_S.rf
  have hE : entryFrame m args 5 = F0 m 0 ((lg_sl [.ref (b0 + 5), .int x1, .int x2] ++ List.replicate (5 - (lg_sl [.ref (b0 + 5), .int x1, .int x2]).length) Slot.unset).toArray) [] := by rw [hargs]; exact lg_entry_eq m _ _
  rw [hE]
  have hl := lv_entry [.ref (b0 + 5), .int x1, .int x2] (n := 5) (Nat.le_of_ble_eq_true rfl)
  generalize (lg_sl [.ref (b0 + 5), .int x1, .int x2] ++ List.replicate (5 - (lg_sl [.ref (b0 + 5), .int x1, .int x2]).length) Slot.unset).toArray = ls at hl ⊢
  have hl : lv_has ls 5 [(0, .ref (b0 + 5)), (1, .int x1), (2, .int x2)] := hl
  have j34 : ∀ (n34 : Nat), ∀ (S : St) (a3 : Int32), ∀ (H : Heap) (locs : List Loc) (ls : Array Slot), wp_X4_findPair_34 x1 x2 P n34 S a3 → HP D cy b0 NALL S H → Fx S → va_S (AA b0) s.heap H locs → lv_has ls 5 [(0, .ref (b0 + 5)), (3, .int a3)] → W p l e rm_X4_findPair s m args below meth c H locs 0 0 (MQ below (QC (Pv P) (Wb D cy b0 NALL) b0) args s 0 0 (AA b0)) (F0 m 34 ls []) := by
    intro n34
    induction n34 with
    | zero => intro S a3  H locs ls hw _ _ _ _; exact False.elim hw
    | succ n34 ih34 =>
      have j102 : ∀ (S : St) (a3 : Int32), ∀ (H : Heap) (locs : List Loc) (ls : Array Slot), wp_X4_findPair_102 x1 x2 P (fun S a3 => wp_X4_findPair_34 x1 x2 P n34 S a3) S a3 → HP D cy b0 NALL S H → Fx S → va_S (AA b0) s.heap H locs → lv_has ls 5 [(0, .ref (b0 + 5)), (3, .int a3)] → W p l e rm_X4_findPair s m args below meth c H locs 0 0 (MQ below (QC (Pv P) (Wb D cy b0 NALL) b0) args s 0 0 (AA b0)) (F0 m 102 ls []) := by
        intro S a3  H locs ls hw hP hF hS hl
        unfold wp_X4_findPair_102 at hw
        obtain ⟨y102, e102⟩ : ∃ z : Int32, z = a3 + 1 := ⟨_, rfl⟩
        have hw := hw y102 e102
        refine lv_iinc (v := y102) (lv' := [(3, .int y102), (0, .ref (b0 + 5))]) hx hb dX4_findPair_102 hl (k := 1) rfl (by rw [e102]; rfl) (by decide) rfl (fun ls hl => ?_)
        refine lv_goto (tgt := 34) hx hb dX4_findPair_105 (by decide) ?_
        exact ih34 S y102  _ _ _ hw hP hF hS (lv_sub hl [1, 0] rfl)
      have j47 : ∀ (n47 : Nat), ∀ (S : St) (a3 : Int32) (a4 : Int32), ∀ (H : Heap) (locs : List Loc) (ls : Array Slot), wp_X4_findPair_47 x1 x2 P (fun S a3 => wp_X4_findPair_34 x1 x2 P n34 S a3) n47 S a3 a4 → HP D cy b0 NALL S H → Fx S → va_S (AA b0) s.heap H locs → lv_has ls 5 [(0, .ref (b0 + 5)), (3, .int a3), (4, .int a4)] → W p l e rm_X4_findPair s m args below meth c H locs 0 0 (MQ below (QC (Pv P) (Wb D cy b0 NALL) b0) args s 0 0 (AA b0)) (F0 m 47 ls []) := by
        intro n47
        induction n47 with
        | zero => intro S a3 a4  H locs ls hw _ _ _ _; exact False.elim hw
        | succ n47 ih47 =>
          have j96 : ∀ (S : St) (a3 : Int32) (a4 : Int32), ∀ (H : Heap) (locs : List Loc) (ls : Array Slot), wp_X4_findPair_96 x1 x2 P (fun S a3 => wp_X4_findPair_34 x1 x2 P n34 S a3) (fun S a3 a4 => wp_X4_findPair_47 x1 x2 P (fun S a3 => wp_X4_findPair_34 x1 x2 P n34 S a3) n47 S a3 a4) S a3 a4 → HP D cy b0 NALL S H → Fx S → va_S (AA b0) s.heap H locs → lv_has ls 5 [(0, .ref (b0 + 5)), (3, .int a3), (4, .int a4)] → W p l e rm_X4_findPair s m args below meth c H locs 0 0 (MQ below (QC (Pv P) (Wb D cy b0 NALL) b0) args s 0 0 (AA b0)) (F0 m 96 ls []) := by
            intro S a3 a4  H locs ls hw hP hF hS hl
            unfold wp_X4_findPair_96 at hw
            obtain ⟨y96, e96⟩ : ∃ z : Int32, z = a4 + 1 := ⟨_, rfl⟩
            have hw := hw y96 e96
            refine lv_iinc (v := y96) (lv' := [(4, .int y96), (0, .ref (b0 + 5)), (3, .int a3)]) hx hb dX4_findPair_96 hl (k := 2) rfl (by rw [e96]; rfl) (by decide) rfl (fun ls hl => ?_)
            refine lv_goto (tgt := 47) hx hb dX4_findPair_99 (by decide) ?_
            exact ih47 S a3 y96  _ _ _ hw hP hF hS (lv_sub hl [1, 2, 0] rfl)
          intro S a3 a4  H locs ls hw hP hF hS hl
          rw [wp_X4_findPair_47] at hw
          refine lv_iload hx hb dX4_findPair_47 (lv_at hl 2 rfl) ?_
          refine lv_aload_n hx hb dX4_findPair_49 rfl (lv_at hl 0 rfl) ?_
          refine gf_4_12 (k := 5) hx hb hts (by decide +kernel) hown hK hP (by decide) (kk_5) (hts (.fieldLink RX4 65 "Opticmesh$WayFinder" "keptCount" "I") (by decide +kernel)) dX4_findPair_50 ?_
          refine lv_icmp_ge (x := a4) (y := (gI S 5 12)) (tgt := 102) hx hb dX4_findPair_53 (by decide) (fun c53 => ?_) (fun c53 => ?_)
          · rw [if_pos c53] at hw
            exact j102 S a3  _ _ _ hw hP hF hS (lv_sub hl [0, 1] rfl)
          · rw [if_neg c53] at hw
            refine lv_aload_n hx hb dX4_findPair_56 rfl (lv_at hl 0 rfl) ?_
            refine gf_4_11 (k := 5) hx hb hts (by decide +kernel) hown hK hP (by decide) (kk_5) (q := 18) (hF.1 5 11 18 ff_5_11) (hts (.fieldLink RX4 32 "Opticmesh$WayFinder" "kept" "[LOpticmesh$Way;") (by decide +kernel)) dX4_findPair_57 ?_
            refine lv_iload_n hx hb dX4_findPair_60 rfl (lv_at hl 1 rfl) ?_
            obtain ⟨h61, hw⟩ := hw
            refine q_aald10 (k := 18) (n := 162) (i := a3) hx hb hK hP (by decide) (kk_18) (ll_18) h61 dX4_findPair_61 ?_
            rw [rf_some (hF.1 18 _ _ (fx_18 (vp_lt h61)))]
            refine gf_3_3 (k := (19 + (a3.toNatClampNeg))) hx hb hts (by decide +kernel) hown hK hP (kd_N (kd_W (vp_lt h61)) (by decide)) (kd_W (vp_lt h61)) (hts (.fieldLink RX4 68 "Opticmesh$Way" "fibres" "I") (by decide +kernel)) dX4_findPair_62 ?_
            refine lv_aload_n hx hb dX4_findPair_65 rfl (lv_at hl 0 rfl) ?_
            refine gf_4_11 (k := 5) hx hb hts (by decide +kernel) hown hK hP (by decide) (kk_5) (q := 18) (hF.1 5 11 18 ff_5_11) (hts (.fieldLink RX4 32 "Opticmesh$WayFinder" "kept" "[LOpticmesh$Way;") (by decide +kernel)) dX4_findPair_66 ?_
            refine lv_iload hx hb dX4_findPair_69 (lv_at hl 2 rfl) ?_
            obtain ⟨h71, hw⟩ := hw
            refine q_aald10 (k := 18) (n := 162) (i := a4) hx hb hK hP (by decide) (kk_18) (ll_18) h71 dX4_findPair_71 ?_
            rw [rf_some (hF.1 18 _ _ (fx_18 (vp_lt h71)))]
            refine gf_3_3 (k := (19 + (a4.toNatClampNeg))) hx hb hts (by decide +kernel) hown hK hP (kd_N (kd_W (vp_lt h71)) (by decide)) (kd_W (vp_lt h71)) (hts (.fieldLink RX4 68 "Opticmesh$Way" "fibres" "I") (by decide +kernel)) dX4_findPair_72 ?_
            refine lv_iand hx hb dX4_findPair_75 ?_
            refine lv_if_ne (x := ((gI S (19 + (a3.toNatClampNeg)) 3) &&& (gI S (19 + (a4.toNatClampNeg)) 3))) (tgt := 96) hx hb dX4_findPair_76 (by decide) (fun c76 => ?_) (fun c76 => ?_)
            · rw [if_neg c76] at hw
              exact j96 S a3 a4  _ _ _ hw hP hF hS (lv_sub hl [0, 1, 2] rfl)
            · rw [if_pos c76] at hw
              refine lv_aload_n hx hb dX4_findPair_79 rfl (lv_at hl 0 rfl) ?_
              refine lv_aload_n hx hb dX4_findPair_80 rfl (lv_at hl 0 rfl) ?_
              refine gf_4_11 (k := 5) hx hb hts (by decide +kernel) hown hK hP (by decide) (kk_5) (q := 18) (hF.1 5 11 18 ff_5_11) (hts (.fieldLink RX4 32 "Opticmesh$WayFinder" "kept" "[LOpticmesh$Way;") (by decide +kernel)) dX4_findPair_81 ?_
              refine lv_iload_n hx hb dX4_findPair_84 rfl (lv_at hl 1 rfl) ?_
              obtain ⟨h85, hw⟩ := hw
              refine q_aald10 (k := 18) (n := 162) (i := a3) hx hb hK hP (by decide) (kk_18) (ll_18) h85 dX4_findPair_85 ?_
              rw [rf_some (hF.1 18 _ _ (fx_18 (vp_lt h85)))]
              refine lv_aload_n hx hb dX4_findPair_86 rfl (lv_at hl 0 rfl) ?_
              refine gf_4_11 (k := 5) hx hb hts (by decide +kernel) hown hK hP (by decide) (kk_5) (q := 18) (hF.1 5 11 18 ff_5_11) (hts (.fieldLink RX4 32 "Opticmesh$WayFinder" "kept" "[LOpticmesh$Way;") (by decide +kernel)) dX4_findPair_87 ?_
              refine lv_iload hx hb dX4_findPair_90 (lv_at hl 2 rfl) ?_
              obtain ⟨h92, hw⟩ := hw
              refine q_aald10 (k := 18) (n := 162) (i := a4) hx hb hK hP (by decide) (kk_18) (ll_18) h92 dX4_findPair_92 ?_
              rw [rf_some (hF.1 18 _ _ (fx_18 (vp_lt h92)))]
              refine q_call (va_runV (As := [.ref (b0 + (19 + (a3.toNatClampNeg))), .ref (b0 + (19 + (a4.toNatClampNeg)))]) (rest := []) ⟨hx, hb, hml, hown, hts⟩ (c_X4_offerPair l D cy b0 S (19 + (a3.toNatClampNeg)) (19 + (a4.toNatClampNeg)) (kd_W (vp_lt h85)) (kd_W (vp_lt h92)) _ hw) (cwV 2 hts gX4_findPair_X4_offerPair rfl rfl rfl (by decide +kernel) ⟨(Nat.le_of_ble_eq_true rfl), (Nat.le_of_ble_eq_true rfl)⟩) (q_pV hW hP hF hS (k := 5) (ci := 4) (by decide) (cell_4 (kk_5)) rfl [.ref (b0 + (19 + (a3.toNatClampNeg))), .ref (b0 + (19 + (a4.toNatClampNeg)))]) rfl rfl hl.1 rfl (lv_room (Nat.le_of_ble_eq_true rfl)) dX4_findPair_93 ⟨(Nat.le_of_ble_eq_true rfl), (Nat.le_of_ble_eq_true rfl)⟩) hS (fun v93 S93 t93 H locs hh hp hB hz hk9 hS => ?_)
              obtain ⟨rfl, hw⟩ := hp
              have hP : HP D cy b0 NALL S93 H := by rw [← hh]; exact hB.1
              have hF := hB.2
              try dsimp only at hw
              refine W.eq (g2 := F0 m 96 ls []) rfl ?_
              exact j96 S93 a3 a4  _ _ _ hw hP hF hS (lv_sub hl [0, 1, 2] rfl)
      intro S a3  H locs ls hw hP hF hS hl
      rw [wp_X4_findPair_34] at hw
      refine lv_iload_n hx hb dX4_findPair_34 rfl (lv_at hl 1 rfl) ?_
      refine lv_aload_n hx hb dX4_findPair_35 rfl (lv_at hl 0 rfl) ?_
      refine gf_4_12 (k := 5) hx hb hts (by decide +kernel) hown hK hP (by decide) (kk_5) (hts (.fieldLink RX4 65 "Opticmesh$WayFinder" "keptCount" "I") (by decide +kernel)) dX4_findPair_36 ?_
      refine lv_icmp_ge (x := a3) (y := (gI S 5 12)) (tgt := 108) hx hb dX4_findPair_39 (by decide) (fun c39 => ?_) (fun c39 => ?_)
      · rw [if_pos c39] at hw
        exact q_vret hx hb hr hP hF hS hw dX4_findPair_108 hlocks
      · rw [if_neg c39] at hw
        refine lv_iload_n hx hb dX4_findPair_42 rfl (lv_at hl 1 rfl) ?_
        refine lv_iconst (v := 1) hx hb dX4_findPair_43 (by decide) ?_
        refine lv_iadd hx hb dX4_findPair_44 ?_
        refine lv_topi (fun y45 e45 => ?_)
        have hw := hw y45 e45
        refine lv_istore (lv' := [(4, .int y45), (0, .ref (b0 + 5)), (3, .int a3)]) hx hb dX4_findPair_45 hl (by decide) rfl (fun ls hl => ?_)
        obtain ⟨n47, hw⟩ := hw
        exact j47 n47 S a3 y45  _ _ _ hw hP hF hS (lv_sub hl [1, 2, 0] rfl)
  unfold wp_X4_findPair at hw
  refine lv_aload_n hx hb dX4_findPair_0 rfl (lv_at hl 0 rfl) ?_
  refine lv_iload_n hx hb dX4_findPair_1 rfl (lv_at hl 2 rfl) ?_
  refine lv_sipush (v := 255) hx hb dX4_findPair_2 (by decide) ?_
  refine lv_iconst (v := 0) hx hb dX4_findPair_5 (by decide) ?_
  refine q_call (va_runV (As := [.int x2, .int 255, .int 0]) (rest := []) ⟨hx, hb, hml, hown, hts⟩ (c_X4_aim l D cy b0 S x2 255 0 _ hw) (cwV 3 hts gX4_findPair_X4_aim rfl rfl rfl (by decide +kernel) ⟨(Nat.le_of_ble_eq_true rfl), (Nat.le_of_ble_eq_true rfl)⟩) (q_pV hW hP hF hS (k := 5) (ci := 4) (by decide) (cell_4 (kk_5)) rfl [.int x2, .int 255, .int 0]) rfl rfl hl.1 rfl (lv_room (Nat.le_of_ble_eq_true rfl)) dX4_findPair_6 ⟨(Nat.le_of_ble_eq_true rfl), (Nat.le_of_ble_eq_true rfl)⟩) hS (fun v6 S6 t6 H locs hh hp hB hz hk9 hS => ?_)
  obtain ⟨rfl, hw⟩ := hp
  have hP : HP D cy b0 NALL S6 H := by rw [← hh]; exact hB.1
  have hF := hB.2
  try dsimp only at hw
  refine W.eq (g2 := F0 m 9 ls []) rfl ?_
  refine lv_aload_n hx hb dX4_findPair_9 rfl (lv_at hl 0 rfl) ?_
  refine lv_iload_n hx hb dX4_findPair_10 rfl (lv_at hl 1 rfl) ?_
  refine lv_iconst (v := 1) hx hb dX4_findPair_11 (by decide) ?_
  refine lv_iload_n hx hb dX4_findPair_12 rfl (lv_at hl 1 rfl) ?_
  refine lv_ishl hx hb dX4_findPair_13 ?_
  refine lv_sipush (v := 255) hx hb dX4_findPair_14 (by decide) ?_
  refine lv_iconst (v := 0) hx hb dX4_findPair_17 (by decide) ?_
  refine lv_iconst (v := 0) hx hb dX4_findPair_18 (by decide) ?_
  refine q_call (va_runV (As := [.int x1, .int (1 <<< (x1 &&& 31)), .int 255, .int 0, .int 0]) (rest := []) ⟨hx, hb, hml, hown, hts⟩ (c_X4_walk l D cy b0 8 S6 x1 (1 <<< (x1 &&& 31)) 255 0 0 _ hw) (cwV 5 hts gX4_findPair_X4_walk rfl rfl rfl (by decide +kernel) ⟨(Nat.le_of_ble_eq_true rfl), (Nat.le_of_ble_eq_true rfl)⟩) (q_pV hW hP hF hS (k := 5) (ci := 4) (by decide) (cell_4 (kk_5)) rfl [.int x1, .int (1 <<< (x1 &&& 31)), .int 255, .int 0, .int 0]) rfl rfl hl.1 rfl (lv_room (Nat.le_of_ble_eq_true rfl)) dX4_findPair_19 ⟨(Nat.le_of_ble_eq_true rfl), (Nat.le_of_ble_eq_true rfl)⟩) hS (fun v19 S19 t19 H locs hh hp hB hz hk9 hS => ?_)
  obtain ⟨rfl, hw⟩ := hp
  have hP : HP D cy b0 NALL S19 H := by rw [← hh]; exact hB.1
  have hF := hB.2
  try dsimp only at hw
  refine W.eq (g2 := F0 m 22 ls []) rfl ?_
  refine lv_aload_n hx hb dX4_findPair_22 rfl (lv_at hl 0 rfl) ?_
  refine lv_null hx hb dX4_findPair_23 ?_
  refine pn_4_0 (k := 5) hx hb hts (by decide +kernel) hown hK hP hS (by decide) (kk_5) (hts (.fieldLink RX4 58 "Opticmesh$WayFinder" "first" "LOpticmesh$Way;") (by decide +kernel)) dX4_findPair_24 (fun H locs hz hP hS => ?_)
  have hF : Fx (sR S19 5 0 none) := (Fx.f0 hF (v := none) (fun q h => by cases h))
  generalize eS24 : sR S19 5 0 none = S24 at hP hF
  have hw := hw S24 eS24.symm
  refine lv_aload_n hx hb dX4_findPair_27 rfl (lv_at hl 0 rfl) ?_
  refine lv_null hx hb dX4_findPair_28 ?_
  refine pn_4_1 (k := 5) hx hb hts (by decide +kernel) hown hK hP hS (by decide) (kk_5) (hts (.fieldLink RX4 62 "Opticmesh$WayFinder" "second" "LOpticmesh$Way;") (by decide +kernel)) dX4_findPair_29 (fun H locs hz hP hS => ?_)
  have hF : Fx (sR S24 5 1 none) := (Fx.f1 hF (v := none) (fun q h => by cases h))
  generalize eS29 : sR S24 5 1 none = S29 at hP hF
  have hw := hw S29 eS29.symm
  refine lv_iconst (v := 0) hx hb dX4_findPair_32 (by decide) ?_
  refine lv_istore_n (lv' := [(3, .int 0), (0, .ref (b0 + 5)), (1, .int x1), (2, .int x2)]) hx hb dX4_findPair_33 rfl hl (by decide) rfl (fun ls hl => ?_)
  obtain ⟨n34, hw⟩ := hw
  exact j34 n34 S29 0  _ _ _ hw hP hF hS (lv_sub hl [1, 0] rfl)
