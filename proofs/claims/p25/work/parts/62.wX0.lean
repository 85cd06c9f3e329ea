set_option maxHeartbeats 4000000 in
set_option maxRecDepth 100000 in
theorem c_X0_add (l : Launch) (D : va_G) (cy : Nat → ClassId) (b0 : Nat) (S : St) (x1 : Int32)  (P : St → Prop) (hw : wp_X0_add S x1 P) : Met l yX0_add wsX0_add rm_X0_add (va_Pc [.ref (b0 + 181), .int x1] (Wd D cy b0 NALL S)) (QC (Pv P) (Wb D cy b0 NALL) b0) 0 0 (AA b0) := by
  refine Met.ofW (cc := cX0_add) (maxL := 2) (ret := none) (by decide) rfl ?_
  intro p e s m args below meth c s₁ B hml hv
  obtain ⟨hargs, hW, hP, hF⟩ := hv
  have hx := B.exec
  have hb := B.bytes
  have hr := B.returns
  have hts := atoms_spec (ws := wsX0_add) B.pre
  have hown : s.vm.findClass RX0 = some m.cls := findClass_of_methodNamed B.named
  have hlocks := B.notSynchronized
  have hK := hW.1
  have hS : va_S (AA b0) s.heap s.heap [] := va_S.rf
  have hE : entryFrame m args 2 = F0 m 0 ((lg_sl [.ref (b0 + 181), .int x1] ++ List.replicate (2 - (lg_sl [.ref (b0 + 181), .int x1]).length) Slot.unset).toArray) [] := by rw [hargs]; exact lg_entry_eq m _ _
  rw [hE]
  have hl := lv_entry [.ref (b0 + 181), .int x1] (n := 2) (Nat.le_of_ble_eq_true rfl)
  generalize (lg_sl [.ref (b0 + 181), .int x1] ++ List.replicate (2 - (lg_sl [.ref (b0 + 181), .int x1]).length) Slot.unset).toArray = ls at hl ⊢
  have hl : lv_has ls 2 [(0, .ref (b0 + 181)), (1, .int x1)] := hl
  unfold wp_X0_add at hw
  refine lv_aload_n hx hb dX0_add_0 rfl (lv_at hl 0 rfl) ?_
  refine gf_0_2 (k := 181) hx hb hts (by decide +kernel) hown hK hP (by decide) (kk_181) (hts (.fieldLink RX0 18 "Opticmesh$Colouring" "count" "I") (by decide +kernel)) dX0_add_1 ?_
  refine lv_bipush (v := 12) hx hb dX0_add_4 (by decide) ?_
  refine lv_icmp_ge (x := (gI S 181 2)) (y := 12) (tgt := 29) hx hb dX0_add_6 (by decide) (fun c6 => ?_) (fun c6 => ?_)
  · rw [if_pos c6] at hw
    exact q_vret hx hb hr hP hF hS hw dX0_add_29 hlocks
  · rw [if_neg c6] at hw
    refine lv_aload_n hx hb dX0_add_9 rfl (lv_at hl 0 rfl) ?_
    refine gf_0_0 (k := 181) hx hb hts (by decide +kernel) hown hK hP (by decide) (kk_181) (q := 182) (hF.1 181 0 182 ff_181_0) (hts (.fieldLink RX0 9 "Opticmesh$Colouring" "fibres" "[I") (by decide +kernel)) dX0_add_10 ?_
    refine lv_aload_n hx hb dX0_add_13 rfl (lv_at hl 0 rfl) ?_
    refine gf_0_2 (k := 181) hx hb hts (by decide +kernel) hown hK hP (by decide) (kk_181) (hts (.fieldLink RX0 18 "Opticmesh$Colouring" "count" "I") (by decide +kernel)) dX0_add_14 ?_
    refine lv_iload_n hx hb dX0_add_17 rfl (lv_at hl 1 rfl) ?_
    obtain ⟨h18, hw⟩ := hw
    refine q_iast (k := 182) (n := 12) (i := (gI S 181 2)) (x := x1) hx hb hK hP hS (by decide) (kk_182) (ll_182) h18 dX0_add_18 (fun H locs hz hP hS => ?_)
    have hF : Fx (sI S 182 ((gI S 181 2).toNatClampNeg) x1) := Fx.sI hF _ _ _
    generalize eS18 : sI S 182 ((gI S 181 2).toNatClampNeg) x1 = S18 at hP hF
    have hw := hw S18 eS18.symm
    refine lv_aload_n hx hb dX0_add_19 rfl (lv_at hl 0 rfl) ?_
    refine lv_dup hx hb dX0_add_20 rfl ?_
    refine gf_0_2 (k := 181) hx hb hts (by decide +kernel) hown hK hP (by decide) (kk_181) (hts (.fieldLink RX0 18 "Opticmesh$Colouring" "count" "I") (by decide +kernel)) dX0_add_21 ?_
    refine lv_iconst (v := 1) hx hb dX0_add_24 (by decide) ?_
    refine lv_iadd hx hb dX0_add_25 ?_
    refine pf_0_2 (k := 181) (x := ((gI S18 181 2) + 1)) hx hb hts (by decide +kernel) hown hK hP hS (by decide) (kk_181) (hts (.fieldLink RX0 18 "Opticmesh$Colouring" "count" "I") (by decide +kernel)) dX0_add_26 (fun H locs hz hP hS => ?_)
    have hF : Fx (sI S18 181 2 ((gI S18 181 2) + 1)) := Fx.sI hF _ _ _
    generalize eS26 : sI S18 181 2 ((gI S18 181 2) + 1) = S26 at hP hF
    have hw := hw S26 eS26.symm
    exact q_vret hx hb hr hP hF hS hw dX0_add_29 hlocks
set_option maxHeartbeats 4000000 in
set_option maxRecDepth 100000 in
theorem c_X0_clear (l : Launch) (D : va_G) (cy : Nat → ClassId) (b0 : Nat) (S : St)   (P : St → Prop) (hw : wp_X0_clear S  P) : Met l yX0_clear wsX0_clear rm_X0_clear (va_Pc [.ref (b0 + 181)] (Wd D cy b0 NALL S)) (QC (Pv P) (Wb D cy b0 NALL) b0) 0 0 (AA b0) := by
  refine Met.ofW (cc := cX0_clear) (maxL := 1) (ret := none) (by decide) rfl ?_
  intro p e s m args below meth c s₁ B hml hv
  obtain ⟨hargs, hW, hP, hF⟩ := hv
  have hx := B.exec
  have hb := B.bytes
  have hr := B.returns
  have hts := atoms_spec (ws := wsX0_clear) B.pre
  have hown : s.vm.findClass RX0 = some m.cls := findClass_of_methodNamed B.named
  have hlocks := B.notSynchronized
  have hK := hW.1
  have hS : va_S (AA b0) s.heap s.heap [] := va_S.rf
  have hE : entryFrame m args 1 = F0 m 0 ((lg_sl [.ref (b0 + 181)] ++ List.replicate (1 - (lg_sl [.ref (b0 + 181)]).length) Slot.unset).toArray) [] := by rw [hargs]; exact lg_entry_eq m _ _
  rw [hE]
  have hl := lv_entry [.ref (b0 + 181)] (n := 1) (Nat.le_of_ble_eq_true rfl)
  generalize (lg_sl [.ref (b0 + 181)] ++ List.replicate (1 - (lg_sl [.ref (b0 + 181)]).length) Slot.unset).toArray = ls at hl ⊢
  have hl : lv_has ls 1 [(0, .ref (b0 + 181))] := hl
  unfold wp_X0_clear at hw
  refine lv_aload_n hx hb dX0_clear_0 rfl (lv_at hl 0 rfl) ?_
  refine lv_iconst (v := 0) hx hb dX0_clear_1 (by decide) ?_
  refine pf_0_2 (k := 181) (x := 0) hx hb hts (by decide +kernel) hown hK hP hS (by decide) (kk_181) (hts (.fieldLink RX0 18 "Opticmesh$Colouring" "count" "I") (by decide +kernel)) dX0_clear_2 (fun H locs hz hP hS => ?_)
  have hF : Fx (sI S 181 2 0) := Fx.sI hF _ _ _
  generalize eS2 : sI S 181 2 0 = S2 at hP hF
  have hw := hw S2 eS2.symm
  exact q_vret hx hb hr hP hF hS hw dX0_clear_5 hlocks
set_option maxHeartbeats 4000000 in
set_option maxRecDepth 100000 in
theorem c_X0_mostBarred (l : Launch) (D : va_G) (cy : Nat → ClassId) (b0 : Nat) (S : St) (x1 : Int32) (x2 : Int32)  (P : Int32 → St → Prop) (hw : wp_X0_mostBarred S x1 x2 P) : Met l yX0_mostBarred wsX0_mostBarred rm_X0_mostBarred (va_Pc [.ref (b0 + 181), .int x1, .int x2] (Wd D cy b0 NALL S)) (QC (Pi P) (Wb D cy b0 NALL) b0) 0 0 (AA b0) := by
  refine Met.ofW (cc := cX0_mostBarred) (maxL := 8) (ret := (some .int)) (by decide) rfl ?_
  intro p e s m args below meth c s₁ B hml hv
  obtain ⟨hargs, hW, hP, hF⟩ := hv
  have hx := B.exec
  have hb := B.bytes
  have hr := B.returns
  have hts := atoms_spec (ws := wsX0_mostBarred) B.pre
  have hown : s.vm.findClass RX0 = some m.cls := findClass_of_methodNamed B.named
  have hlocks := B.notSynchronized
  have hK := hW.1
  have hS : va_S (AA b0) s.heap s.heap [] := va_S.rf
  have hE : entryFrame m args 8 = F0 m 0 ((lg_sl [.ref (b0 + 181), .int x1, .int x2] ++ List.replicate (8 - (lg_sl [.ref (b0 + 181), .int x1, .int x2]).length) Slot.unset).toArray) [] := by rw [hargs]; exact lg_entry_eq m _ _
  rw [hE]
  have hl := lv_entry [.ref (b0 + 181), .int x1, .int x2] (n := 8) (Nat.le_of_ble_eq_true rfl)
  generalize (lg_sl [.ref (b0 + 181), .int x1, .int x2] ++ List.replicate (8 - (lg_sl [.ref (b0 + 181), .int x1, .int x2]).length) Slot.unset).toArray = ls at hl ⊢
  have hl : lv_has ls 8 [(0, .ref (b0 + 181)), (1, .int x1), (2, .int x2)] := hl
  have j8 : ∀ (n8 : Nat), ∀ (S : St) (a3 : Int32) (a4 : Int32) (a5 : Int32), ∀ (H : Heap) (locs : List Loc) (ls : Array Slot), wp_X0_mostBarred_8 x1 x2 P n8 S a3 a4 a5 → HP D cy b0 NALL S H → Fx S → va_S (AA b0) s.heap H locs → lv_has ls 8 [(0, .ref (b0 + 181)), (1, .int x1), (2, .int x2), (3, .int a3), (4, .int a4), (5, .int a5)] → W p l e rm_X0_mostBarred s m args below meth c H locs 0 0 (MQ below (QC (Pi P) (Wb D cy b0 NALL) b0) args s 0 0 (AA b0)) (F0 m 8 ls []) := by
    intro n8
    induction n8 with
    | zero => intro S a3 a4 a5  H locs ls hw _ _ _ _; exact False.elim hw
    | succ n8 ih8 =>
      have j86 : ∀ (S : St) (a3 : Int32) (a4 : Int32) (a5 : Int32), ∀ (H : Heap) (locs : List Loc) (ls : Array Slot), wp_X0_mostBarred_86 x1 x2 P (fun S a3 a4 a5 => wp_X0_mostBarred_8 x1 x2 P n8 S a3 a4 a5) S a3 a4 a5 → HP D cy b0 NALL S H → Fx S → va_S (AA b0) s.heap H locs → lv_has ls 8 [(0, .ref (b0 + 181)), (1, .int x1), (2, .int x2), (3, .int a3), (4, .int a4), (5, .int a5)] → W p l e rm_X0_mostBarred s m args below meth c H locs 0 0 (MQ below (QC (Pi P) (Wb D cy b0 NALL) b0) args s 0 0 (AA b0)) (F0 m 86 ls []) := by
        intro S a3 a4 a5  H locs ls hw hP hF hS hl
        unfold wp_X0_mostBarred_86 at hw
        obtain ⟨y86, e86⟩ : ∃ z : Int32, z = a5 + 1 := ⟨_, rfl⟩
        have hw := hw y86 e86
        refine lv_iinc (v := y86) (lv' := [(5, .int y86), (0, .ref (b0 + 181)), (1, .int x1), (2, .int x2), (3, .int a3), (4, .int a4)]) hx hb dX0_mostBarred_86 hl (k := 5) rfl (by rw [e86]; rfl) (by decide) rfl (fun ls hl => ?_)
        refine lv_goto (tgt := 8) hx hb dX0_mostBarred_89 (by decide) ?_
        exact ih8 S a3 a4 y86  _ _ _ hw hP hF hS (lv_sub hl [1, 2, 3, 4, 5, 0] rfl)
      have j72 : ∀ (S : St) (a3 : Int32) (a4 : Int32) (a5 : Int32) (a6 : Int32), ∀ (H : Heap) (locs : List Loc) (ls : Array Slot), wp_X0_mostBarred_72 x1 x2 P (fun S a3 a4 a5 => wp_X0_mostBarred_8 x1 x2 P n8 S a3 a4 a5) S a3 a4 a5 a6 → HP D cy b0 NALL S H → Fx S → va_S (AA b0) s.heap H locs → lv_has ls 8 [(0, .ref (b0 + 181)), (1, .int x1), (2, .int x2), (3, .int a3), (4, .int a4), (5, .int a5), (6, .int a6)] → W p l e rm_X0_mostBarred s m args below meth c H locs 0 0 (MQ below (QC (Pi P) (Wb D cy b0 NALL) b0) args s 0 0 (AA b0)) (F0 m 72 ls []) := by
        intro S a3 a4 a5 a6  H locs ls hw hP hF hS hl
        unfold wp_X0_mostBarred_72 at hw
        refine lv_iload hx hb dX0_mostBarred_72 (lv_at hl 6 rfl) ?_
        refine lv_iload hx hb dX0_mostBarred_74 (lv_at hl 4 rfl) ?_
        refine lv_icmp_le (x := a6) (y := a4) (tgt := 86) hx hb dX0_mostBarred_76 (by decide) (fun c76 => ?_) (fun c76 => ?_)
        · rw [if_pos c76] at hw
          exact j86 S a3 a4 a5  _ _ _ hw hP hF hS (lv_sub hl [0, 1, 2, 3, 4, 5] rfl)
        · rw [if_neg c76] at hw
          refine lv_iload hx hb dX0_mostBarred_79 (lv_at hl 6 rfl) ?_
          refine lv_istore (lv' := [(4, .int a6), (0, .ref (b0 + 181)), (1, .int x1), (2, .int x2), (3, .int a3), (5, .int a5), (6, .int a6)]) hx hb dX0_mostBarred_81 hl (by decide) rfl (fun ls hl => ?_)
          refine lv_iload hx hb dX0_mostBarred_83 (lv_at hl 5 rfl) ?_
          refine lv_istore_n (lv' := [(3, .int a5), (4, .int a6), (0, .ref (b0 + 181)), (1, .int x1), (2, .int x2), (5, .int a5), (6, .int a6)]) hx hb dX0_mostBarred_85 rfl hl (by decide) rfl (fun ls hl => ?_)
          exact j86 S a5 a6 a5  _ _ _ hw hP hF hS (lv_sub hl [2, 3, 4, 0, 1, 5] rfl)
      have j32 : ∀ (n32 : Nat), ∀ (S : St) (a3 : Int32) (a4 : Int32) (a5 : Int32) (a6 : Int32) (a7 : Int32), ∀ (H : Heap) (locs : List Loc) (ls : Array Slot), wp_X0_mostBarred_32 x1 x2 P (fun S a3 a4 a5 => wp_X0_mostBarred_8 x1 x2 P n8 S a3 a4 a5) n32 S a3 a4 a5 a6 a7 → HP D cy b0 NALL S H → Fx S → va_S (AA b0) s.heap H locs → lv_has ls 8 [(0, .ref (b0 + 181)), (1, .int x1), (2, .int x2), (3, .int a3), (4, .int a4), (5, .int a5), (6, .int a6), (7, .int a7)] → W p l e rm_X0_mostBarred s m args below meth c H locs 0 0 (MQ below (QC (Pi P) (Wb D cy b0 NALL) b0) args s 0 0 (AA b0)) (F0 m 32 ls []) := by
        intro n32
        induction n32 with
        | zero => intro S a3 a4 a5 a6 a7  H locs ls hw _ _ _ _; exact False.elim hw
        | succ n32 ih32 =>
          have j63 : ∀ (S : St) (a3 : Int32) (a4 : Int32) (a5 : Int32) (a7 : Int32) (t0 : Int32) (t1 : Bool), ∀ (H : Heap) (locs : List Loc) (ls : Array Slot), wp_X0_mostBarred_63 x1 x2 P (fun S a3 a4 a5 => wp_X0_mostBarred_8 x1 x2 P n8 S a3 a4 a5) (fun S a3 a4 a5 a6 a7 => wp_X0_mostBarred_32 x1 x2 P (fun S a3 a4 a5 => wp_X0_mostBarred_8 x1 x2 P n8 S a3 a4 a5) n32 S a3 a4 a5 a6 a7) S a3 a4 a5 a7 t0 t1 → HP D cy b0 NALL S H → Fx S → va_S (AA b0) s.heap H locs → lv_has ls 8 [(0, .ref (b0 + 181)), (1, .int x1), (2, .int x2), (3, .int a3), (4, .int a4), (5, .int a5), (7, .int a7)] → W p l e rm_X0_mostBarred s m args below meth c H locs 0 0 (MQ below (QC (Pi P) (Wb D cy b0 NALL) b0) args s 0 0 (AA b0)) (F0 m 63 ls [.int (b2i t1), .int t0]) := by
            intro S a3 a4 a5 a7 t0 t1  H locs ls hw hP hF hS hl
            unfold wp_X0_mostBarred_63 at hw
            refine lv_iadd hx hb dX0_mostBarred_63 ?_
            refine lv_topi (fun y64 e64 => ?_)
            have hw := hw y64 e64
            refine lv_istore (lv' := [(6, .int y64), (0, .ref (b0 + 181)), (1, .int x1), (2, .int x2), (3, .int a3), (4, .int a4), (5, .int a5), (7, .int a7)]) hx hb dX0_mostBarred_64 hl (by decide) rfl (fun ls hl => ?_)
            obtain ⟨y66, e66⟩ : ∃ z : Int32, z = a7 + 1 := ⟨_, rfl⟩
            have hw := hw y66 e66
            refine lv_iinc (v := y66) (lv' := [(7, .int y66), (6, .int y64), (0, .ref (b0 + 181)), (1, .int x1), (2, .int x2), (3, .int a3), (4, .int a4), (5, .int a5)]) hx hb dX0_mostBarred_66 hl (k := 7) rfl (by rw [e66]; rfl) (by decide) rfl (fun ls hl => ?_)
            refine lv_goto (tgt := 32) hx hb dX0_mostBarred_69 (by decide) ?_
            exact ih32 S a3 a4 a5 y64 y66  _ _ _ hw hP hF hS (lv_sub hl [2, 3, 4, 5, 6, 7, 1, 0] rfl)
          intro S a3 a4 a5 a6 a7  H locs ls hw hP hF hS hl
          rw [wp_X0_mostBarred_32] at hw
          refine lv_iload hx hb dX0_mostBarred_32 (lv_at hl 7 rfl) ?_
          refine lv_iload_n hx hb dX0_mostBarred_34 rfl (lv_at hl 2 rfl) ?_
          refine lv_icmp_ge (x := a7) (y := x2) (tgt := 72) hx hb dX0_mostBarred_35 (by decide) (fun c35 => ?_) (fun c35 => ?_)
          · rw [if_pos c35] at hw
            exact j72 S a3 a4 a5 a6  _ _ _ hw hP hF hS (lv_sub hl [0, 1, 2, 3, 4, 5, 6] rfl)
          · rw [if_neg c35] at hw
            refine lv_iload hx hb dX0_mostBarred_38 (lv_at hl 6 rfl) ?_
            refine lv_aload_n hx hb dX0_mostBarred_40 rfl (lv_at hl 0 rfl) ?_
            refine gf_0_1 (k := 181) hx hb hts (by decide +kernel) hown hK hP (by decide) (kk_181) (q := 183) (hF.1 181 1 183 ff_181_1) (hts (.fieldLink RX0 15 "Opticmesh$Colouring" "fibresTaken" "[I") (by decide +kernel)) dX0_mostBarred_41 ?_
            refine lv_iload hx hb dX0_mostBarred_44 (lv_at hl 7 rfl) ?_
            obtain ⟨h46, hw⟩ := hw
            refine q_iald (k := 183) (n := 12) (i := a7) hx hb hK hP (by decide) (kk_183) (ll_183) h46 dX0_mostBarred_46 ?_
            refine lv_aload_n hx hb dX0_mostBarred_47 rfl (lv_at hl 0 rfl) ?_
            refine gf_0_0 (k := 181) hx hb hts (by decide +kernel) hown hK hP (by decide) (kk_181) (q := 182) (hF.1 181 0 182 ff_181_0) (hts (.fieldLink RX0 9 "Opticmesh$Colouring" "fibres" "[I") (by decide +kernel)) dX0_mostBarred_48 ?_
            refine lv_iload hx hb dX0_mostBarred_51 (lv_at hl 5 rfl) ?_
            obtain ⟨h53, hw⟩ := hw
            refine q_iald (k := 182) (n := 12) (i := a5) hx hb hK hP (by decide) (kk_182) (ll_182) h53 dX0_mostBarred_53 ?_
            refine lv_iand hx hb dX0_mostBarred_54 ?_
            refine lv_if_eq (x := ((gI S 183 (a7.toNatClampNeg)) &&& (gI S 182 (a5.toNatClampNeg)))) (tgt := 62) hx hb dX0_mostBarred_55 (by decide) (fun c55 => ?_) (fun c55 => ?_)
            · rw [if_pos c55] at hw
              refine lv_iconst (v := 0) hx hb dX0_mostBarred_62 (by decide) ?_
              exact j63 S a3 a4 a5 a7 a6 false  _ _ _ hw hP hF hS (lv_sub hl [0, 1, 2, 3, 4, 5, 7] rfl)
            · rw [if_neg c55] at hw
              refine lv_iconst (v := 1) hx hb dX0_mostBarred_58 (by decide) ?_
              refine lv_goto (tgt := 63) hx hb dX0_mostBarred_59 (by decide) ?_
              exact j63 S a3 a4 a5 a7 a6 true  _ _ _ hw hP hF hS (lv_sub hl [0, 1, 2, 3, 4, 5, 7] rfl)
      intro S a3 a4 a5  H locs ls hw hP hF hS hl
      rw [wp_X0_mostBarred_8] at hw
      refine lv_iload hx hb dX0_mostBarred_8 (lv_at hl 5 rfl) ?_
      refine lv_aload_n hx hb dX0_mostBarred_10 rfl (lv_at hl 0 rfl) ?_
      refine gf_0_2 (k := 181) hx hb hts (by decide +kernel) hown hK hP (by decide) (kk_181) (hts (.fieldLink RX0 18 "Opticmesh$Colouring" "count" "I") (by decide +kernel)) dX0_mostBarred_11 ?_
      refine lv_icmp_ge (x := a5) (y := (gI S 181 2)) (tgt := 92) hx hb dX0_mostBarred_14 (by decide) (fun c14 => ?_) (fun c14 => ?_)
      · rw [if_pos c14] at hw
        refine lv_iload_n hx hb dX0_mostBarred_92 rfl (lv_at hl 3 rfl) ?_
        exact q_iret hx hb hr hP hF hS hw dX0_mostBarred_93 hlocks
      · rw [if_neg c14] at hw
        refine lv_iload_n hx hb dX0_mostBarred_17 rfl (lv_at hl 1 rfl) ?_
        refine lv_iload hx hb dX0_mostBarred_18 (lv_at hl 5 rfl) ?_
        refine lv_ishr hx hb dX0_mostBarred_20 ?_
        refine lv_iconst (v := 1) hx hb dX0_mostBarred_21 (by decide) ?_
        refine lv_iand hx hb dX0_mostBarred_22 ?_
        refine lv_if_eq (x := ((x1 >>> (a5 &&& 31)) &&& 1)) (tgt := 86) hx hb dX0_mostBarred_23 (by decide) (fun c23 => ?_) (fun c23 => ?_)
        · rw [if_pos c23] at hw
          exact j86 S a3 a4 a5  _ _ _ hw hP hF hS (lv_sub hl [0, 1, 2, 3, 4, 5] rfl)
        · rw [if_neg c23] at hw
          refine lv_iconst (v := 0) hx hb dX0_mostBarred_26 (by decide) ?_
          refine lv_istore (lv' := [(6, .int 0), (0, .ref (b0 + 181)), (1, .int x1), (2, .int x2), (3, .int a3), (4, .int a4), (5, .int a5)]) hx hb dX0_mostBarred_27 hl (by decide) rfl (fun ls hl => ?_)
          refine lv_iconst (v := 0) hx hb dX0_mostBarred_29 (by decide) ?_
          refine lv_istore (lv' := [(7, .int 0), (6, .int 0), (0, .ref (b0 + 181)), (1, .int x1), (2, .int x2), (3, .int a3), (4, .int a4), (5, .int a5)]) hx hb dX0_mostBarred_30 hl (by decide) rfl (fun ls hl => ?_)
          obtain ⟨n32, hw⟩ := hw
          exact j32 n32 S a3 a4 a5 0 0  _ _ _ hw hP hF hS (lv_sub hl [2, 3, 4, 5, 6, 7, 1, 0] rfl)
  unfold wp_X0_mostBarred at hw
  refine lv_iconst (v := 0) hx hb dX0_mostBarred_0 (by decide) ?_
  refine lv_istore_n (lv' := [(3, .int 0), (0, .ref (b0 + 181)), (1, .int x1), (2, .int x2)]) hx hb dX0_mostBarred_1 rfl hl (by decide) rfl (fun ls hl => ?_)
  refine lv_iconst (v := (-1)) hx hb dX0_mostBarred_2 (by decide) ?_
  refine lv_istore (lv' := [(4, .int (-1)), (3, .int 0), (0, .ref (b0 + 181)), (1, .int x1), (2, .int x2)]) hx hb dX0_mostBarred_3 hl (by decide) rfl (fun ls hl => ?_)
  refine lv_iconst (v := 0) hx hb dX0_mostBarred_5 (by decide) ?_
  refine lv_istore (lv' := [(5, .int 0), (4, .int (-1)), (3, .int 0), (0, .ref (b0 + 181)), (1, .int x1), (2, .int x2)]) hx hb dX0_mostBarred_6 hl (by decide) rfl (fun ls hl => ?_)
  obtain ⟨n8, hw⟩ := hw
  exact j8 n8 S 0 (-1) 0  _ _ _ hw hP hF hS (lv_sub hl [3, 4, 5, 2, 1, 0] rfl)
set_option maxHeartbeats 4000000 in
set_option maxRecDepth 100000 in
theorem c_X0_canPaint (l : Launch) (D : va_G) (cy : Nat → ClassId) (b0 : Nat) : ∀ (n : Nat) (S : St) (x1 : Int32) (x2 : Int32) (x3 : Int32) (x4 : Int32)  (P : Bool → St → Prop) (hw : wp_X0_canPaint n S x1 x2 x3 x4 P), Met l yX0_canPaint wsX0_canPaint { frames := 1 + n * 1, cells := 0, slots := 0, locals := 27 + n * 28 } (va_Pc [.ref (b0 + 181), .int x1, .int x2, .int x3, .int x4] (Wd D cy b0 NALL S)) (QC (Pz P) (Wb D cy b0 NALL) b0) 0 0 (AA b0) := by
  intro n
  induction n with
  | zero => intro S x1 x2 x3 x4  P hw; exact False.elim hw
  | succ n ihd =>
  intro S x1 x2 x3 x4  P hw
  refine Met.ofW (cc := cX0_canPaint) (maxL := 9) (ret := (some .boolean)) (by decide) rfl ?_
  intro p e s m args below meth c s₁ B hml hv
  obtain ⟨hargs, hW, hP, hF⟩ := hv
  have hx := B.exec
  have hb := B.bytes
  have hr := B.returns
  have hts := atoms_spec (ws := wsX0_canPaint) B.pre
  have hown : s.vm.findClass RX0 = some m.cls := findClass_of_methodNamed B.named
  have hlocks := B.notSynchronized
  have hK := hW.1
  have hS : va_S (AA b0) s.heap s.heap [] := va_S.rf
  have hE : entryFrame m args 9 = F0 m 0 ((lg_sl [.ref (b0 + 181), .int x1, .int x2, .int x3, .int x4] ++ List.replicate (9 - (lg_sl [.ref (b0 + 181), .int x1, .int x2, .int x3, .int x4]).length) Slot.unset).toArray) [] := by rw [hargs]; exact lg_entry_eq m _ _
  rw [hE]
  have hl := lv_entry [.ref (b0 + 181), .int x1, .int x2, .int x3, .int x4] (n := 9) (Nat.le_of_ble_eq_true rfl)
  generalize (lg_sl [.ref (b0 + 181), .int x1, .int x2, .int x3, .int x4] ++ List.replicate (9 - (lg_sl [.ref (b0 + 181), .int x1, .int x2, .int x3, .int x4]).length) Slot.unset).toArray = ls at hl ⊢
  have hl : lv_has ls 9 [(0, .ref (b0 + 181)), (1, .int x1), (2, .int x2), (3, .int x3), (4, .int x4)] := hl
  have j21 : ∀ (n21 : Nat), ∀ (S : St) (a5 : Int32) (a6 : Int32), ∀ (H : Heap) (locs : List Loc) (ls : Array Slot), wp_X0_canPaint_21 x1 x2 x3 x4 P (wp_X0_canPaint n) n21 S a5 a6 → HP D cy b0 NALL S H → Fx S → va_S (AA b0) s.heap H locs → lv_has ls 9 [(0, .ref (b0 + 181)), (1, .int x1), (2, .int x2), (3, .int x3), (4, .int x4), (5, .int a5), (6, .int a6)] → W p l e { frames := 1 + (n + 1) * 1, cells := 0, slots := 0, locals := 27 + (n + 1) * 28 } s m args below meth c H locs 0 0 (MQ below (QC (Pz P) (Wb D cy b0 NALL) b0) args s 0 0 (AA b0)) (F0 m 21 ls []) := by
    intro n21
    induction n21 with
    | zero => intro S a5 a6  H locs ls hw _ _ _ _; exact False.elim hw
    | succ n21 ih21 =>
      have j126 : ∀ (S : St) (a5 : Int32) (a6 : Int32), ∀ (H : Heap) (locs : List Loc) (ls : Array Slot), wp_X0_canPaint_126 x1 x2 x3 x4 P (wp_X0_canPaint n) (fun S a5 a6 => wp_X0_canPaint_21 x1 x2 x3 x4 P (wp_X0_canPaint n) n21 S a5 a6) S a5 a6 → HP D cy b0 NALL S H → Fx S → va_S (AA b0) s.heap H locs → lv_has ls 9 [(0, .ref (b0 + 181)), (1, .int x1), (2, .int x2), (3, .int x3), (4, .int x4), (5, .int a5), (6, .int a6)] → W p l e { frames := 1 + (n + 1) * 1, cells := 0, slots := 0, locals := 27 + (n + 1) * 28 } s m args below meth c H locs 0 0 (MQ below (QC (Pz P) (Wb D cy b0 NALL) b0) args s 0 0 (AA b0)) (F0 m 126 ls []) := by
        intro S a5 a6  H locs ls hw hP hF hS hl
        unfold wp_X0_canPaint_126 at hw
        obtain ⟨y126, e126⟩ : ∃ z : Int32, z = a6 + 1 := ⟨_, rfl⟩
        have hw := hw y126 e126
        refine lv_iinc (v := y126) (lv' := [(6, .int y126), (0, .ref (b0 + 181)), (1, .int x1), (2, .int x2), (3, .int x3), (4, .int x4), (5, .int a5)]) hx hb dX0_canPaint_126 hl (k := 6) rfl (by rw [e126]; rfl) (by decide) rfl (fun ls hl => ?_)
        refine lv_goto (tgt := 21) hx hb dX0_canPaint_129 (by decide) ?_
        exact ih21 S a5 y126  _ _ _ hw hP hF hS (lv_sub hl [1, 2, 3, 4, 5, 6, 0] rfl)
      intro S a5 a6  H locs ls hw hP hF hS hl
      rw [wp_X0_canPaint_21] at hw
      refine lv_iload hx hb dX0_canPaint_21 (lv_at hl 6 rfl) ?_
      refine lv_iload_n hx hb dX0_canPaint_23 rfl (lv_at hl 3 rfl) ?_
      refine lv_icmp_gt (x := a6) (y := x3) (tgt := 132) hx hb dX0_canPaint_24 (by decide) (fun c24 => ?_) (fun c24 => ?_)
      · rw [if_pos c24] at hw
        refine lv_iconst (v := 0) hx hb dX0_canPaint_132 (by decide) ?_
        exact q_zret (v := false) hx hb hr hP hF hS hw dX0_canPaint_133 hlocks
      · rw [if_neg c24] at hw
        refine lv_iload hx hb dX0_canPaint_27 (lv_at hl 6 rfl) ?_
        refine lv_iload hx hb dX0_canPaint_29 (lv_at hl 4 rfl) ?_
        refine lv_icmp_ge (x := a6) (y := x4) (tgt := 132) hx hb dX0_canPaint_31 (by decide) (fun c31 => ?_) (fun c31 => ?_)
        · rw [if_pos c31] at hw
          refine lv_iconst (v := 0) hx hb dX0_canPaint_132 (by decide) ?_
          exact q_zret (v := false) hx hb hr hP hF hS hw dX0_canPaint_133 hlocks
        · rw [if_neg c31] at hw
          refine lv_aload_n hx hb dX0_canPaint_34 rfl (lv_at hl 0 rfl) ?_
          refine gf_0_1 (k := 181) hx hb hts (by decide +kernel) hown hK hP (by decide) (kk_181) (q := 183) (hF.1 181 1 183 ff_181_1) (hts (.fieldLink RX0 15 "Opticmesh$Colouring" "fibresTaken" "[I") (by decide +kernel)) dX0_canPaint_35 ?_
          refine lv_iload hx hb dX0_canPaint_38 (lv_at hl 6 rfl) ?_
          obtain ⟨h40, hw⟩ := hw
          refine q_iald (k := 183) (n := 12) (i := a6) hx hb hK hP (by decide) (kk_183) (ll_183) h40 dX0_canPaint_40 ?_
          refine lv_aload_n hx hb dX0_canPaint_41 rfl (lv_at hl 0 rfl) ?_
          refine gf_0_0 (k := 181) hx hb hts (by decide +kernel) hown hK hP (by decide) (kk_181) (q := 182) (hF.1 181 0 182 ff_181_0) (hts (.fieldLink RX0 9 "Opticmesh$Colouring" "fibres" "[I") (by decide +kernel)) dX0_canPaint_42 ?_
          refine lv_iload hx hb dX0_canPaint_45 (lv_at hl 5 rfl) ?_
          obtain ⟨h47, hw⟩ := hw
          refine q_iald (k := 182) (n := 12) (i := a5) hx hb hK hP (by decide) (kk_182) (ll_182) h47 dX0_canPaint_47 ?_
          refine lv_iand hx hb dX0_canPaint_48 ?_
          refine lv_if_ne (x := ((gI S 183 (a6.toNatClampNeg)) &&& (gI S 182 (a5.toNatClampNeg)))) (tgt := 126) hx hb dX0_canPaint_49 (by decide) (fun c49 => ?_) (fun c49 => ?_)
          · rw [if_neg c49] at hw
            exact j126 S a5 a6  _ _ _ hw hP hF hS (lv_sub hl [0, 1, 2, 3, 4, 5, 6] rfl)
          · rw [if_pos c49] at hw
            refine lv_aload_n hx hb dX0_canPaint_52 rfl (lv_at hl 0 rfl) ?_
            refine gf_0_1 (k := 181) hx hb hts (by decide +kernel) hown hK hP (by decide) (kk_181) (q := 183) (hF.1 181 1 183 ff_181_1) (hts (.fieldLink RX0 15 "Opticmesh$Colouring" "fibresTaken" "[I") (by decide +kernel)) dX0_canPaint_53 ?_
            refine lv_iload hx hb dX0_canPaint_56 (lv_at hl 6 rfl) ?_
            refine lv_dup2_11 hx hb dX0_canPaint_58 rfl rfl ?_
            obtain ⟨h59, hw⟩ := hw
            refine q_iald (k := 183) (n := 12) (i := a6) hx hb hK hP (by decide) (kk_183) (ll_183) h59 dX0_canPaint_59 ?_
            refine lv_aload_n hx hb dX0_canPaint_60 rfl (lv_at hl 0 rfl) ?_
            refine gf_0_0 (k := 181) hx hb hts (by decide +kernel) hown hK hP (by decide) (kk_181) (q := 182) (hF.1 181 0 182 ff_181_0) (hts (.fieldLink RX0 9 "Opticmesh$Colouring" "fibres" "[I") (by decide +kernel)) dX0_canPaint_61 ?_
            refine lv_iload hx hb dX0_canPaint_64 (lv_at hl 5 rfl) ?_
            obtain ⟨h66, hw⟩ := hw
            refine q_iald (k := 182) (n := 12) (i := a5) hx hb hK hP (by decide) (kk_182) (ll_182) h66 dX0_canPaint_66 ?_
            refine lv_ior hx hb dX0_canPaint_67 ?_
            obtain ⟨h68, hw⟩ := hw
            refine q_iast (k := 183) (n := 12) (i := a6) (x := ((gI S 183 (a6.toNatClampNeg)) ||| (gI S 182 (a5.toNatClampNeg)))) hx hb hK hP hS (by decide) (kk_183) (ll_183) h68 dX0_canPaint_68 (fun H locs hz hP hS => ?_)
            have hF : Fx (sI S 183 (a6.toNatClampNeg) ((gI S 183 (a6.toNatClampNeg)) ||| (gI S 182 (a5.toNatClampNeg)))) := Fx.sI hF _ _ _
            generalize eS68 : sI S 183 (a6.toNatClampNeg) ((gI S 183 (a6.toNatClampNeg)) ||| (gI S 182 (a5.toNatClampNeg))) = S68 at hP hF
            have hw := hw S68 eS68.symm
            refine lv_iload_n hx hb dX0_canPaint_69 rfl (lv_at hl 3 rfl) ?_
            refine lv_iload hx hb dX0_canPaint_70 (lv_at hl 6 rfl) ?_
            refine lv_iconst (v := 1) hx hb dX0_canPaint_72 (by decide) ?_
            refine lv_iadd hx hb dX0_canPaint_73 ?_
            refine va_mmax (x := x3) (y := (a6 + 1)) hx hb (hml.trans hl.1.symm) hown (hts (.methodLink RX0 30 Lib.Math.max.name) (by decide +kernel)) (hts (.static Lib.Math.max.name) (by decide +kernel)) (hts (.initialized "java/lang/Math") (by decide +kernel)) (hts (.code Lib.Math.max.name Lib.Math.max.code 2 (some .int)) (by decide +kernel)) (by show 1 ≤ 1 + (n + 1) * 1; omega) (Nat.le_trans (m := 21) (Nat.le_of_ble_eq_true rfl) (by show 21 ≤ 27 + (n + 1) * 28; omega)) (Nat.le_of_ble_eq_true rfl) (Nat.le_of_ble_eq_true rfl) dX0_canPaint_74 ?_
            refine lv_topi (fun y77 e77 => ?_)
            have hw := hw y77 e77
            refine lv_istore (lv' := [(7, .int y77), (0, .ref (b0 + 181)), (1, .int x1), (2, .int x2), (3, .int x3), (4, .int x4), (5, .int a5), (6, .int a6)]) hx hb dX0_canPaint_77 hl (by decide) rfl (fun ls hl => ?_)
            refine lv_aload_n hx hb dX0_canPaint_79 rfl (lv_at hl 1 rfl) ?_
            refine lv_iload_n hx hb dX0_canPaint_80 rfl (lv_at hl 2 rfl) ?_
            refine lv_iconst (v := 1) hx hb dX0_canPaint_81 (by decide) ?_
            refine lv_iload hx hb dX0_canPaint_82 (lv_at hl 6 rfl) ?_
            refine lv_ishl hx hb dX0_canPaint_84 ?_
            refine lv_iconst (v := (-1)) hx hb dX0_canPaint_85 (by decide) ?_
            refine lv_ixor hx hb dX0_canPaint_86 ?_
            refine lv_iand hx hb dX0_canPaint_87 ?_
            refine lv_iload_n hx hb dX0_canPaint_88 rfl (lv_at hl 3 rfl) ?_
            refine lv_iconst (v := 1) hx hb dX0_canPaint_89 (by decide) ?_
            refine lv_iadd hx hb dX0_canPaint_90 ?_
            refine lv_iload hx hb dX0_canPaint_91 (lv_at hl 0 rfl) ?_
            refine lv_iload hx hb dX0_canPaint_93 (lv_at hl 5 rfl) ?_
            refine q_call (va_runV (As := [.int (x1 &&& ((1 <<< (a5 &&& 31)) ^^^ (-1))), .int (x2 + 1), .int y77, .int x4]) (rest := []) ⟨hx, hb, hml, hown, hts⟩ (ihd S68 (x1 &&& ((1 <<< (a5 &&& 31)) ^^^ (-1))) (x2 + 1) y77 x4 _ hw) (cwV 4 hts gX0_canPaint_X0_canPaint rfl rfl rfl (by decide +kernel) ⟨by show 1 + n * 1 + 1 ≤ 1 + (n + 1) * 1; omega, by show 8 + (9 + 11) + (27 + n * 28) ≤ 27 + (n + 1) * 28; omega⟩) (q_pV hW hP hF hS (k := 181) (ci := 0) (by decide) (cell_0 (kk_181)) rfl [.int (x1 &&& ((1 <<< (a5 &&& 31)) ^^^ (-1))), .int (x2 + 1), .int y77, .int x4]) rfl rfl hl.1 rfl (lv_room (Nat.le_of_ble_eq_true rfl)) dX0_canPaint_95 ⟨(Nat.le_of_ble_eq_true rfl), (Nat.le_of_ble_eq_true rfl)⟩) hS (fun v95 S95 t95 H locs hh hp hB hz hk9 hS => ?_)
            obtain ⟨r95, rfl, hw⟩ := hp
            have hP : HP D cy b0 NALL S95 H := by rw [← hh]; exact hB.1
            have hF := hB.2
            try dsimp only at hw
            refine W.eq (g2 := F0 m 98 ls [.int (b2i r95)]) rfl ?_
            refine lv_istore (lv' := [(8, .int (b2i r95)), (7, .int y77), (0, .ref (b0 + 181)), (1, .int x1), (2, .int x2), (3, .int x3), (4, .int x4), (5, .int a5), (6, .int a6)]) hx hb dX0_canPaint_98 hl (by decide) rfl (fun ls hl => ?_)
            refine lv_aload_n hx hb dX0_canPaint_100 rfl (lv_at hl 2 rfl) ?_
            refine gf_0_1 (k := 181) hx hb hts (by decide +kernel) hown hK hP (by decide) (kk_181) (q := 183) (hF.1 181 1 183 ff_181_1) (hts (.fieldLink RX0 15 "Opticmesh$Colouring" "fibresTaken" "[I") (by decide +kernel)) dX0_canPaint_101 ?_
            refine lv_iload hx hb dX0_canPaint_104 (lv_at hl 8 rfl) ?_
            refine lv_dup2_11 hx hb dX0_canPaint_106 rfl rfl ?_
            obtain ⟨h107, hw⟩ := hw
            refine q_iald (k := 183) (n := 12) (i := a6) hx hb hK hP (by decide) (kk_183) (ll_183) h107 dX0_canPaint_107 ?_
            refine lv_aload_n hx hb dX0_canPaint_108 rfl (lv_at hl 2 rfl) ?_
            refine gf_0_0 (k := 181) hx hb hts (by decide +kernel) hown hK hP (by decide) (kk_181) (q := 182) (hF.1 181 0 182 ff_181_0) (hts (.fieldLink RX0 9 "Opticmesh$Colouring" "fibres" "[I") (by decide +kernel)) dX0_canPaint_109 ?_
            refine lv_iload hx hb dX0_canPaint_112 (lv_at hl 7 rfl) ?_
            obtain ⟨h114, hw⟩ := hw
            refine q_iald (k := 182) (n := 12) (i := a5) hx hb hK hP (by decide) (kk_182) (ll_182) h114 dX0_canPaint_114 ?_
            refine lv_iconst (v := (-1)) hx hb dX0_canPaint_115 (by decide) ?_
            refine lv_ixor hx hb dX0_canPaint_116 ?_
            refine lv_iand hx hb dX0_canPaint_117 ?_
            obtain ⟨h118, hw⟩ := hw
            refine q_iast (k := 183) (n := 12) (i := a6) (x := ((gI S95 183 (a6.toNatClampNeg)) &&& ((gI S95 182 (a5.toNatClampNeg)) ^^^ (-1)))) hx hb hK hP hS (by decide) (kk_183) (ll_183) h118 dX0_canPaint_118 (fun H locs hz hP hS => ?_)
            have hF : Fx (sI S95 183 (a6.toNatClampNeg) ((gI S95 183 (a6.toNatClampNeg)) &&& ((gI S95 182 (a5.toNatClampNeg)) ^^^ (-1)))) := Fx.sI hF _ _ _
            generalize eS118 : sI S95 183 (a6.toNatClampNeg) ((gI S95 183 (a6.toNatClampNeg)) &&& ((gI S95 182 (a5.toNatClampNeg)) ^^^ (-1))) = S118 at hP hF
            have hw := hw S118 eS118.symm
            refine lv_iload hx hb dX0_canPaint_119 (lv_at hl 0 rfl) ?_
            refine lv_if_eq (x := b2i r95) (tgt := 126) hx hb dX0_canPaint_121 (by decide) (fun c121 => ?_) (fun c121 => ?_)
            · have c121 := b2i_z c121
              rw [if_neg c121] at hw
              exact j126 S118 a5 a6  _ _ _ hw hP hF hS (lv_sub hl [2, 3, 4, 5, 6, 7, 8] rfl)
            · have c121 := b2i_n c121
              rw [if_pos c121] at hw
              refine lv_iconst (v := 1) hx hb dX0_canPaint_124 (by decide) ?_
              exact q_zret (v := true) hx hb hr hP hF hS hw dX0_canPaint_125 hlocks
  have hw : wp_X0_canPaint_b S x1 x2 x3 x4 P (wp_X0_canPaint n) := hw
  unfold wp_X0_canPaint_b at hw
  refine lv_iload_n hx hb dX0_canPaint_0 rfl (lv_at hl 2 rfl) ?_
  refine lv_aload_n hx hb dX0_canPaint_1 rfl (lv_at hl 0 rfl) ?_
  refine gf_0_2 (k := 181) hx hb hts (by decide +kernel) hown hK hP (by decide) (kk_181) (hts (.fieldLink RX0 18 "Opticmesh$Colouring" "count" "I") (by decide +kernel)) dX0_canPaint_2 ?_
  refine lv_icmp_lt (x := x2) (y := (gI S 181 2)) (tgt := 10) hx hb dX0_canPaint_5 (by decide) (fun c5 => ?_) (fun c5 => ?_)
  · rw [if_pos c5] at hw
    refine lv_aload_n hx hb dX0_canPaint_10 rfl (lv_at hl 0 rfl) ?_
    refine lv_iload_n hx hb dX0_canPaint_11 rfl (lv_at hl 1 rfl) ?_
    refine lv_iload_n hx hb dX0_canPaint_12 rfl (lv_at hl 3 rfl) ?_
    refine q_call (va_runV (As := [.int x1, .int x3]) (rest := []) ⟨hx, hb, hml, hown, hts⟩ (c_X0_mostBarred l D cy b0 S x1 x3 _ hw) (cwV 2 hts gX0_canPaint_X0_mostBarred rfl rfl rfl (by decide +kernel) ⟨by show 0 + 1 ≤ 1 + (n + 1) * 1; omega, by show 8 + (8 + 11) + 0 ≤ 27 + (n + 1) * 28; omega⟩) (q_pV hW hP hF hS (k := 181) (ci := 0) (by decide) (cell_0 (kk_181)) rfl [.int x1, .int x3]) rfl rfl hl.1 rfl (lv_room (Nat.le_of_ble_eq_true rfl)) dX0_canPaint_13 ⟨(Nat.le_of_ble_eq_true rfl), (Nat.le_of_ble_eq_true rfl)⟩) hS (fun v13 S13 t13 H locs hh hp hB hz hk9 hS => ?_)
    obtain ⟨r13, rfl, hw⟩ := hp
    have hP : HP D cy b0 NALL S13 H := by rw [← hh]; exact hB.1
    have hF := hB.2
    try dsimp only at hw
    refine W.eq (g2 := F0 m 16 ls [.int r13]) rfl ?_
    refine lv_istore (lv' := [(5, .int r13), (0, .ref (b0 + 181)), (1, .int x1), (2, .int x2), (3, .int x3), (4, .int x4)]) hx hb dX0_canPaint_16 hl (by decide) rfl (fun ls hl => ?_)
    refine lv_iconst (v := 0) hx hb dX0_canPaint_18 (by decide) ?_
    refine lv_istore (lv' := [(6, .int 0), (5, .int r13), (0, .ref (b0 + 181)), (1, .int x1), (2, .int x2), (3, .int x3), (4, .int x4)]) hx hb dX0_canPaint_19 hl (by decide) rfl (fun ls hl => ?_)
    obtain ⟨n21, hw⟩ := hw
    exact j21 n21 S13 r13 0  _ _ _ hw hP hF hS (lv_sub hl [2, 3, 4, 5, 6, 1, 0] rfl)
  · rw [if_neg c5] at hw
    refine lv_iconst (v := 1) hx hb dX0_canPaint_8 (by decide) ?_
    exact q_zret (v := true) hx hb hr hP hF hS hw dX0_canPaint_9 hlocks
set_option maxHeartbeats 4000000 in
set_option maxRecDepth 100000 in
theorem c_X0_waysOnBusiestFibre (l : Launch) (D : va_G) (cy : Nat → ClassId) (b0 : Nat) (S : St)   (P : Int32 → St → Prop) (hw : wp_X0_waysOnBusiestFibre S  P) : Met l yX0_waysOnBusiestFibre wsX0_waysOnBusiestFibre rm_X0_waysOnBusiestFibre (va_Pc [.ref (b0 + 181)] (Wd D cy b0 NALL S)) (QC (Pi P) (Wb D cy b0 NALL) b0) 0 0 (AA b0) := by
  refine Met.ofW (cc := cX0_waysOnBusiestFibre) (maxL := 5) (ret := (some .int)) (by decide) rfl ?_
  intro p e s m args below meth c s₁ B hml hv
  obtain ⟨hargs, hW, hP, hF⟩ := hv
  have hx := B.exec
  have hb := B.bytes
  have hr := B.returns
  have hts := atoms_spec (ws := wsX0_waysOnBusiestFibre) B.pre
  have hown : s.vm.findClass RX0 = some m.cls := findClass_of_methodNamed B.named
  have hlocks := B.notSynchronized
  have hK := hW.1
  have hS : va_S (AA b0) s.heap s.heap [] := va_S.rf
  have hE : entryFrame m args 5 = F0 m 0 ((lg_sl [.ref (b0 + 181)] ++ List.replicate (5 - (lg_sl [.ref (b0 + 181)]).length) Slot.unset).toArray) [] := by rw [hargs]; exact lg_entry_eq m _ _
  rw [hE]
  have hl := lv_entry [.ref (b0 + 181)] (n := 5) (Nat.le_of_ble_eq_true rfl)
  generalize (lg_sl [.ref (b0 + 181)] ++ List.replicate (5 - (lg_sl [.ref (b0 + 181)]).length) Slot.unset).toArray = ls at hl ⊢
  have hl : lv_has ls 5 [(0, .ref (b0 + 181))] := hl
  have j4 : ∀ (n4 : Nat), ∀ (S : St) (a1 : Int32) (a2 : Int32), ∀ (H : Heap) (locs : List Loc) (ls : Array Slot), wp_X0_waysOnBusiestFibre_4 P n4 S a1 a2 → HP D cy b0 NALL S H → Fx S → va_S (AA b0) s.heap H locs → lv_has ls 5 [(0, .ref (b0 + 181)), (1, .int a1), (2, .int a2)] → W p l e rm_X0_waysOnBusiestFibre s m args below meth c H locs 0 0 (MQ below (QC (Pi P) (Wb D cy b0 NALL) b0) args s 0 0 (AA b0)) (F0 m 4 ls []) := by
    intro n4
    induction n4 with
    | zero => intro S a1 a2  H locs ls hw _ _ _ _; exact False.elim hw
    | succ n4 ih4 =>
      have j44 : ∀ (S : St) (a1 : Int32) (a2 : Int32) (a3 : Int32), ∀ (H : Heap) (locs : List Loc) (ls : Array Slot), wp_X0_waysOnBusiestFibre_44 P (fun S a1 a2 => wp_X0_waysOnBusiestFibre_4 P n4 S a1 a2) S a1 a2 a3 → HP D cy b0 NALL S H → Fx S → va_S (AA b0) s.heap H locs → lv_has ls 5 [(0, .ref (b0 + 181)), (1, .int a1), (2, .int a2), (3, .int a3)] → W p l e rm_X0_waysOnBusiestFibre s m args below meth c H locs 0 0 (MQ below (QC (Pi P) (Wb D cy b0 NALL) b0) args s 0 0 (AA b0)) (F0 m 44 ls []) := by
        intro S a1 a2 a3  H locs ls hw hP hF hS hl
        unfold wp_X0_waysOnBusiestFibre_44 at hw
        refine lv_iload_n hx hb dX0_waysOnBusiestFibre_44 rfl (lv_at hl 1 rfl) ?_
        refine lv_iload_n hx hb dX0_waysOnBusiestFibre_45 rfl (lv_at hl 3 rfl) ?_
        refine va_mmax (x := a1) (y := a3) hx hb (hml.trans hl.1.symm) hown (hts (.methodLink RX0 30 Lib.Math.max.name) (by decide +kernel)) (hts (.static Lib.Math.max.name) (by decide +kernel)) (hts (.initialized "java/lang/Math") (by decide +kernel)) (hts (.code Lib.Math.max.name Lib.Math.max.code 2 (some .int)) (by decide +kernel)) (Nat.le_of_ble_eq_true rfl) (Nat.le_of_ble_eq_true rfl) (Nat.le_of_ble_eq_true rfl) (Nat.le_of_ble_eq_true rfl) dX0_waysOnBusiestFibre_46 ?_
        refine lv_topi (fun y49 e49 => ?_)
        have hw := hw y49 e49
        refine lv_istore_n (lv' := [(1, .int y49), (0, .ref (b0 + 181)), (2, .int a2), (3, .int a3)]) hx hb dX0_waysOnBusiestFibre_49 rfl hl (by decide) rfl (fun ls hl => ?_)
        obtain ⟨y50, e50⟩ : ∃ z : Int32, z = a2 + 1 := ⟨_, rfl⟩
        have hw := hw y50 e50
        refine lv_iinc (v := y50) (lv' := [(2, .int y50), (1, .int y49), (0, .ref (b0 + 181)), (3, .int a3)]) hx hb dX0_waysOnBusiestFibre_50 hl (k := 2) rfl (by rw [e50]; rfl) (by decide) rfl (fun ls hl => ?_)
        refine lv_goto (tgt := 4) hx hb dX0_waysOnBusiestFibre_53 (by decide) ?_
        exact ih4 S y49 y50  _ _ _ hw hP hF hS (lv_sub hl [2, 1, 0] rfl)
      have j15 : ∀ (n15 : Nat), ∀ (S : St) (a1 : Int32) (a2 : Int32) (a3 : Int32) (a4 : Int32), ∀ (H : Heap) (locs : List Loc) (ls : Array Slot), wp_X0_waysOnBusiestFibre_15 P (fun S a1 a2 => wp_X0_waysOnBusiestFibre_4 P n4 S a1 a2) n15 S a1 a2 a3 a4 → HP D cy b0 NALL S H → Fx S → va_S (AA b0) s.heap H locs → lv_has ls 5 [(0, .ref (b0 + 181)), (1, .int a1), (2, .int a2), (3, .int a3), (4, .int a4)] → W p l e rm_X0_waysOnBusiestFibre s m args below meth c H locs 0 0 (MQ below (QC (Pi P) (Wb D cy b0 NALL) b0) args s 0 0 (AA b0)) (F0 m 15 ls []) := by
        intro n15
        induction n15 with
        | zero => intro S a1 a2 a3 a4  H locs ls hw _ _ _ _; exact False.elim hw
        | succ n15 ih15 =>
          intro S a1 a2 a3 a4  H locs ls hw hP hF hS hl
          rw [wp_X0_waysOnBusiestFibre_15] at hw
          refine lv_iload hx hb dX0_waysOnBusiestFibre_15 (lv_at hl 4 rfl) ?_
          refine lv_aload_n hx hb dX0_waysOnBusiestFibre_17 rfl (lv_at hl 0 rfl) ?_
          refine gf_0_2 (k := 181) hx hb hts (by decide +kernel) hown hK hP (by decide) (kk_181) (hts (.fieldLink RX0 18 "Opticmesh$Colouring" "count" "I") (by decide +kernel)) dX0_waysOnBusiestFibre_18 ?_
          refine lv_icmp_ge (x := a4) (y := (gI S 181 2)) (tgt := 44) hx hb dX0_waysOnBusiestFibre_21 (by decide) (fun c21 => ?_) (fun c21 => ?_)
          · rw [if_pos c21] at hw
            exact j44 S a1 a2 a3  _ _ _ hw hP hF hS (lv_sub hl [0, 1, 2, 3] rfl)
          · rw [if_neg c21] at hw
            refine lv_iload_n hx hb dX0_waysOnBusiestFibre_24 rfl (lv_at hl 3 rfl) ?_
            refine lv_aload_n hx hb dX0_waysOnBusiestFibre_25 rfl (lv_at hl 0 rfl) ?_
            refine gf_0_0 (k := 181) hx hb hts (by decide +kernel) hown hK hP (by decide) (kk_181) (q := 182) (hF.1 181 0 182 ff_181_0) (hts (.fieldLink RX0 9 "Opticmesh$Colouring" "fibres" "[I") (by decide +kernel)) dX0_waysOnBusiestFibre_26 ?_
            refine lv_iload hx hb dX0_waysOnBusiestFibre_29 (lv_at hl 4 rfl) ?_
            obtain ⟨h31, hw⟩ := hw
            refine q_iald (k := 182) (n := 12) (i := a4) hx hb hK hP (by decide) (kk_182) (ll_182) h31 dX0_waysOnBusiestFibre_31 ?_
            refine lv_iload_n hx hb dX0_waysOnBusiestFibre_32 rfl (lv_at hl 2 rfl) ?_
            refine lv_ishr hx hb dX0_waysOnBusiestFibre_33 ?_
            refine lv_iconst (v := 1) hx hb dX0_waysOnBusiestFibre_34 (by decide) ?_
            refine lv_iand hx hb dX0_waysOnBusiestFibre_35 ?_
            refine lv_iadd hx hb dX0_waysOnBusiestFibre_36 ?_
            refine lv_topi (fun y37 e37 => ?_)
            have hw := hw y37 e37
            refine lv_istore_n (lv' := [(3, .int y37), (0, .ref (b0 + 181)), (1, .int a1), (2, .int a2), (4, .int a4)]) hx hb dX0_waysOnBusiestFibre_37 rfl hl (by decide) rfl (fun ls hl => ?_)
            obtain ⟨y38, e38⟩ : ∃ z : Int32, z = a4 + 1 := ⟨_, rfl⟩
            have hw := hw y38 e38
            refine lv_iinc (v := y38) (lv' := [(4, .int y38), (3, .int y37), (0, .ref (b0 + 181)), (1, .int a1), (2, .int a2)]) hx hb dX0_waysOnBusiestFibre_38 hl (k := 4) rfl (by rw [e38]; rfl) (by decide) rfl (fun ls hl => ?_)
            refine lv_goto (tgt := 15) hx hb dX0_waysOnBusiestFibre_41 (by decide) ?_
            exact ih15 S a1 a2 y37 y38  _ _ _ hw hP hF hS (lv_sub hl [2, 3, 4, 1, 0] rfl)
      intro S a1 a2  H locs ls hw hP hF hS hl
      rw [wp_X0_waysOnBusiestFibre_4] at hw
      refine lv_iload_n hx hb dX0_waysOnBusiestFibre_4 rfl (lv_at hl 2 rfl) ?_
      refine lv_bipush (v := 14) hx hb dX0_waysOnBusiestFibre_5 (by decide) ?_
      refine lv_icmp_ge (x := a2) (y := 14) (tgt := 56) hx hb dX0_waysOnBusiestFibre_7 (by decide) (fun c7 => ?_) (fun c7 => ?_)
      · rw [if_pos c7] at hw
        refine lv_iload_n hx hb dX0_waysOnBusiestFibre_56 rfl (lv_at hl 1 rfl) ?_
        exact q_iret hx hb hr hP hF hS hw dX0_waysOnBusiestFibre_57 hlocks
      · rw [if_neg c7] at hw
        refine lv_iconst (v := 0) hx hb dX0_waysOnBusiestFibre_10 (by decide) ?_
        refine lv_istore_n (lv' := [(3, .int 0), (0, .ref (b0 + 181)), (1, .int a1), (2, .int a2)]) hx hb dX0_waysOnBusiestFibre_11 rfl hl (by decide) rfl (fun ls hl => ?_)
        refine lv_iconst (v := 0) hx hb dX0_waysOnBusiestFibre_12 (by decide) ?_
        refine lv_istore (lv' := [(4, .int 0), (3, .int 0), (0, .ref (b0 + 181)), (1, .int a1), (2, .int a2)]) hx hb dX0_waysOnBusiestFibre_13 hl (by decide) rfl (fun ls hl => ?_)
        obtain ⟨n15, hw⟩ := hw
        exact j15 n15 S a1 a2 0 0  _ _ _ hw hP hF hS (lv_sub hl [2, 3, 4, 1, 0] rfl)
  unfold wp_X0_waysOnBusiestFibre at hw
  refine lv_iconst (v := 0) hx hb dX0_waysOnBusiestFibre_0 (by decide) ?_
  refine lv_istore_n (lv' := [(1, .int 0), (0, .ref (b0 + 181))]) hx hb dX0_waysOnBusiestFibre_1 rfl hl (by decide) rfl (fun ls hl => ?_)
  refine lv_iconst (v := 0) hx hb dX0_waysOnBusiestFibre_2 (by decide) ?_
  refine lv_istore_n (lv' := [(2, .int 0), (1, .int 0), (0, .ref (b0 + 181))]) hx hb dX0_waysOnBusiestFibre_3 rfl hl (by decide) rfl (fun ls hl => ?_)
  obtain ⟨n4, hw⟩ := hw
  exact j4 n4 S 0 0  _ _ _ hw hP hF hS (lv_sub hl [2, 1, 0] rfl)
set_option maxHeartbeats 4000000 in
set_option maxRecDepth 100000 in
theorem c_X0_leastColours (l : Launch) (D : va_G) (cy : Nat → ClassId) (b0 : Nat) (S : St)   (P : Int32 → St → Prop) (hw : wp_X0_leastColours S  P) : Met l yX0_leastColours wsX0_leastColours rm_X0_leastColours (va_Pc [.ref (b0 + 181)] (Wd D cy b0 NALL S)) (QC (Pi P) (Wb D cy b0 NALL) b0) 0 0 (AA b0) := by
  refine Met.ofW (cc := cX0_leastColours) (maxL := 2) (ret := (some .int)) (by decide) rfl ?_
  intro p e s m args below meth c s₁ B hml hv
  obtain ⟨hargs, hW, hP, hF⟩ := hv
  have hx := B.exec
  have hb := B.bytes
  have hr := B.returns
  have hts := atoms_spec (ws := wsX0_leastColours) B.pre
  have hown : s.vm.findClass RX0 = some m.cls := findClass_of_methodNamed B.named
  have hlocks := B.notSynchronized
  have hK := hW.1
  have hS : va_S (AA b0) s.heap s.heap [] := va_S.rf
  have hE : entryFrame m args 2 = F0 m 0 ((lg_sl [.ref (b0 + 181)] ++ List.replicate (2 - (lg_sl [.ref (b0 + 181)]).length) Slot.unset).toArray) [] := by rw [hargs]; exact lg_entry_eq m _ _
  rw [hE]
  have hl := lv_entry [.ref (b0 + 181)] (n := 2) (Nat.le_of_ble_eq_true rfl)
  generalize (lg_sl [.ref (b0 + 181)] ++ List.replicate (2 - (lg_sl [.ref (b0 + 181)]).length) Slot.unset).toArray = ls at hl ⊢
  have hl : lv_has ls 2 [(0, .ref (b0 + 181))] := hl
  have j5 : ∀ (n5 : Nat), ∀ (S : St) (a1 : Int32), ∀ (H : Heap) (locs : List Loc) (ls : Array Slot), wp_X0_leastColours_5 P n5 S a1 → HP D cy b0 NALL S H → Fx S → va_S (AA b0) s.heap H locs → lv_has ls 2 [(0, .ref (b0 + 181)), (1, .int a1)] → W p l e rm_X0_leastColours s m args below meth c H locs 0 0 (MQ below (QC (Pi P) (Wb D cy b0 NALL) b0) args s 0 0 (AA b0)) (F0 m 5 ls []) := by
    intro n5
    induction n5 with
    | zero => intro S a1  H locs ls hw _ _ _ _; exact False.elim hw
    | succ n5 ih5 =>
      intro S a1  H locs ls hw hP hF hS hl
      rw [wp_X0_leastColours_5] at hw
      refine lv_iload_n hx hb dX0_leastColours_5 rfl (lv_at hl 1 rfl) ?_
      refine lv_aload_n hx hb dX0_leastColours_6 rfl (lv_at hl 0 rfl) ?_
      refine gf_0_2 (k := 181) hx hb hts (by decide +kernel) hown hK hP (by decide) (kk_181) (hts (.fieldLink RX0 18 "Opticmesh$Colouring" "count" "I") (by decide +kernel)) dX0_leastColours_7 ?_
      refine lv_icmp_ge (x := a1) (y := (gI S 181 2)) (tgt := 37) hx hb dX0_leastColours_10 (by decide) (fun c10 => ?_) (fun c10 => ?_)
      · rw [if_pos c10] at hw
        refine lv_iload_n hx hb dX0_leastColours_37 rfl (lv_at hl 1 rfl) ?_
        exact q_iret hx hb hr hP hF hS hw dX0_leastColours_38 hlocks
      · rw [if_neg c10] at hw
        refine lv_aload_n hx hb dX0_leastColours_13 rfl (lv_at hl 0 rfl) ?_
        refine lv_iconst (v := 1) hx hb dX0_leastColours_14 (by decide) ?_
        refine lv_aload_n hx hb dX0_leastColours_15 rfl (lv_at hl 0 rfl) ?_
        refine gf_0_2 (k := 181) hx hb hts (by decide +kernel) hown hK hP (by decide) (kk_181) (hts (.fieldLink RX0 18 "Opticmesh$Colouring" "count" "I") (by decide +kernel)) dX0_leastColours_16 ?_
        refine lv_ishl hx hb dX0_leastColours_19 ?_
        refine lv_iconst (v := 1) hx hb dX0_leastColours_20 (by decide) ?_
        refine lv_isub hx hb dX0_leastColours_21 ?_
        refine lv_iconst (v := 0) hx hb dX0_leastColours_22 (by decide) ?_
        refine lv_iconst (v := 0) hx hb dX0_leastColours_23 (by decide) ?_
        refine lv_iload_n hx hb dX0_leastColours_24 rfl (lv_at hl 1 rfl) ?_
        refine q_call (va_runV (As := [.int ((1 <<< ((gI S 181 2) &&& 31)) - 1), .int 0, .int 0, .int a1]) (rest := []) ⟨hx, hb, hml, hown, hts⟩ (c_X0_canPaint l D cy b0 13 S ((1 <<< ((gI S 181 2) &&& 31)) - 1) 0 0 a1 _ hw) (cwV 4 hts gX0_leastColours_X0_canPaint rfl rfl rfl (by decide +kernel) ⟨(Nat.le_of_ble_eq_true rfl), (Nat.le_of_ble_eq_true rfl)⟩) (q_pV hW hP hF hS (k := 181) (ci := 0) (by decide) (cell_0 (kk_181)) rfl [.int ((1 <<< ((gI S 181 2) &&& 31)) - 1), .int 0, .int 0, .int a1]) rfl rfl hl.1 rfl (lv_room (Nat.le_of_ble_eq_true rfl)) dX0_leastColours_25 ⟨(Nat.le_of_ble_eq_true rfl), (Nat.le_of_ble_eq_true rfl)⟩) hS (fun v25 S25 t25 H locs hh hp hB hz hk9 hS => ?_)
        obtain ⟨r25, rfl, hw⟩ := hp
        have hP : HP D cy b0 NALL S25 H := by rw [← hh]; exact hB.1
        have hF := hB.2
        try dsimp only at hw
        refine W.eq (g2 := F0 m 28 ls [.int (b2i r25)]) rfl ?_
        refine lv_if_ne (x := b2i r25) (tgt := 37) hx hb dX0_leastColours_28 (by decide) (fun c28 => ?_) (fun c28 => ?_)
        · have c28 := b2i_n c28
          rw [if_pos c28] at hw
          refine lv_iload_n hx hb dX0_leastColours_37 rfl (lv_at hl 1 rfl) ?_
          exact q_iret hx hb hr hP hF hS hw dX0_leastColours_38 hlocks
        · have c28 := b2i_z c28
          rw [if_neg c28] at hw
          obtain ⟨y31, e31⟩ : ∃ z : Int32, z = a1 + 1 := ⟨_, rfl⟩
          have hw := hw y31 e31
          refine lv_iinc (v := y31) (lv' := [(1, .int y31), (0, .ref (b0 + 181))]) hx hb dX0_leastColours_31 hl (k := 1) rfl (by rw [e31]; rfl) (by decide) rfl (fun ls hl => ?_)
          refine lv_goto (tgt := 5) hx hb dX0_leastColours_34 (by decide) ?_
          exact ih5 S25 y31  _ _ _ hw hP hF hS (lv_sub hl [1, 0] rfl)
  unfold wp_X0_leastColours at hw
  refine lv_aload_n hx hb dX0_leastColours_0 rfl (lv_at hl 0 rfl) ?_
  refine q_call (va_runV (As := []) (rest := []) ⟨hx, hb, hml, hown, hts⟩ (c_X0_waysOnBusiestFibre l D cy b0 S _ hw) (cwV 0 hts gX0_leastColours_X0_waysOnBusiestFibre rfl rfl rfl (by decide +kernel) ⟨(Nat.le_of_ble_eq_true rfl), (Nat.le_of_ble_eq_true rfl)⟩) (q_pV hW hP hF hS (k := 181) (ci := 0) (by decide) (cell_0 (kk_181)) rfl []) rfl rfl hl.1 rfl (lv_room (Nat.le_of_ble_eq_true rfl)) dX0_leastColours_1 ⟨(Nat.le_of_ble_eq_true rfl), (Nat.le_of_ble_eq_true rfl)⟩) hS (fun v1 S1 t1 H locs hh hp hB hz hk9 hS => ?_)
  obtain ⟨r1, rfl, hw⟩ := hp
  have hP : HP D cy b0 NALL S1 H := by rw [← hh]; exact hB.1
  have hF := hB.2
  try dsimp only at hw
  refine W.eq (g2 := F0 m 4 ls [.int r1]) rfl ?_
  refine lv_istore_n (lv' := [(1, .int r1), (0, .ref (b0 + 181))]) hx hb dX0_leastColours_4 rfl hl (by decide) rfl (fun ls hl => ?_)
  obtain ⟨n5, hw⟩ := hw
  exact j5 n5 S1 r1  _ _ _ hw hP hF hS (lv_sub hl [1, 0] rfl)
