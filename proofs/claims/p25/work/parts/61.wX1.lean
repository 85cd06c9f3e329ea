set_option maxHeartbeats 4000000 in
set_option maxRecDepth 100000 in
theorem c_X1_isGone (l : Launch) (D : va_G) (cy : Nat → ClassId) (b0 : Nat) (S : St) (k : Nat) (hk : kd k = 1) (P : Bool → St → Prop) (hw : wp_X1_isGone S k P) : Met l yX1_isGone wsX1_isGone rm_X1_isGone (va_Pc [.ref (b0 + k)] (Wd D cy b0 NALL S)) (QC (Pz P) (Wb D cy b0 NALL) b0) 0 0 (AA b0) := by
  refine Met.ofW (cc := cX1_isGone) (maxL := 1) (ret := (some .boolean)) (by decide) rfl ?_
  intro p e s m args below meth c s₁ B hml hv
  obtain ⟨hargs, hW, hP, hF⟩ := hv
  have hx := B.exec
  have hb := B.bytes
  have hr := B.returns
  have hts := atoms_spec (ws := wsX1_isGone) B.pre
  have hown : s.vm.findClass RX1 = some m.cls := findClass_of_methodNamed B.named
  have hlocks := B.notSynchronized
  have hK := hW.1
  have hS : va_S (AA b0) s.heap s.heap [] := va_S.rf
  have hE : entryFrame m args 1 = F0 m 0 ((lg_sl [.ref (b0 + k)] ++ List.replicate (1 - (lg_sl [.ref (b0 + k)]).length) Slot.unset).toArray) [] := by rw [hargs]; exact lg_entry_eq m _ _
  rw [hE]
  have hl := lv_entry [.ref (b0 + k)] (n := 1) (Nat.le_of_ble_eq_true rfl)
  generalize (lg_sl [.ref (b0 + k)] ++ List.replicate (1 - (lg_sl [.ref (b0 + k)]).length) Slot.unset).toArray = ls at hl ⊢
  have hl : lv_has ls 1 [(0, .ref (b0 + k))] := hl
  unfold wp_X1_isGone at hw
  refine lv_aload_n hx hb dX1_isGone_0 rfl (lv_at hl 0 rfl) ?_
  refine gf_1_6 (k := k) hx hb hts (by decide +kernel) hown hK hP (kd_N hk (by decide)) hk (hts (.fieldLink RX1 29 "Opticmesh$Light" "units" "I") (by decide +kernel)) dX1_isGone_1 ?_
  refine lv_if_ne (x := (gI S k 6)) (tgt := 11) hx hb dX1_isGone_4 (by decide) (fun c4 => ?_) (fun c4 => ?_)
  · rw [if_neg c4] at hw
    refine lv_iconst (v := 0) hx hb dX1_isGone_11 (by decide) ?_
    exact q_zret (v := false) hx hb hr hP hF hS hw dX1_isGone_12 hlocks
  · rw [if_pos c4] at hw
    refine lv_iconst (v := 1) hx hb dX1_isGone_7 (by decide) ?_
    refine lv_goto (tgt := 12) hx hb dX1_isGone_8 (by decide) ?_
    exact q_zret (v := true) hx hb hr hP hF hS hw dX1_isGone_12 hlocks
set_option maxHeartbeats 4000000 in
set_option maxRecDepth 100000 in
theorem c_X1_isUp (l : Launch) (D : va_G) (cy : Nat → ClassId) (b0 : Nat) (S : St) (k : Nat) (x1 : Int32) (hk : kd k = 1) (P : Bool → St → Prop) (hw : wp_X1_isUp S k x1 P) : Met l yX1_isUp wsX1_isUp rm_X1_isUp (va_Pc [.ref (b0 + k), .int x1] (Wd D cy b0 NALL S)) (QC (Pz P) (Wb D cy b0 NALL) b0) 0 0 (AA b0) := by
  refine Met.ofW (cc := cX1_isUp) (maxL := 2) (ret := (some .boolean)) (by decide) rfl ?_
  intro p e s m args below meth c s₁ B hml hv
  obtain ⟨hargs, hW, hP, hF⟩ := hv
  have hx := B.exec
  have hb := B.bytes
  have hr := B.returns
  have hts := atoms_spec (ws := wsX1_isUp) B.pre
  have hown : s.vm.findClass RX1 = some m.cls := findClass_of_methodNamed B.named
  have hlocks := B.notSynchronized
  have hK := hW.1
  have hS : va_S (AA b0) s.heap s.heap [] := va_S.rf
  have hE : entryFrame m args 2 = F0 m 0 ((lg_sl [.ref (b0 + k), .int x1] ++ List.replicate (2 - (lg_sl [.ref (b0 + k), .int x1]).length) Slot.unset).toArray) [] := by rw [hargs]; exact lg_entry_eq m _ _
  rw [hE]
  have hl := lv_entry [.ref (b0 + k), .int x1] (n := 2) (Nat.le_of_ble_eq_true rfl)
  generalize (lg_sl [.ref (b0 + k), .int x1] ++ List.replicate (2 - (lg_sl [.ref (b0 + k), .int x1]).length) Slot.unset).toArray = ls at hl ⊢
  have hl : lv_has ls 2 [(0, .ref (b0 + k)), (1, .int x1)] := hl
  unfold wp_X1_isUp at hw
  refine lv_aload_n hx hb dX1_isUp_0 rfl (lv_at hl 0 rfl) ?_
  refine q_call (va_runV (As := []) (rest := []) ⟨hx, hb, hml, hown, hts⟩ (c_X1_isGone l D cy b0 S k hk _ hw) (cwV 0 hts gX1_isUp_X1_isGone rfl rfl rfl (by decide +kernel) ⟨(Nat.le_of_ble_eq_true rfl), (Nat.le_of_ble_eq_true rfl)⟩) (q_pV hW hP hF hS (k := k) (ci := 1) (kd_N hk (by decide)) (cell_1 hk) rfl []) rfl rfl hl.1 rfl (lv_room (Nat.le_of_ble_eq_true rfl)) dX1_isUp_1 ⟨(Nat.le_of_ble_eq_true rfl), (Nat.le_of_ble_eq_true rfl)⟩) hS (fun v1 S1 t1 H locs hh hp hB hz hk9 hS => ?_)
  obtain ⟨r1, rfl, hw⟩ := hp
  have hP : HP D cy b0 NALL S1 H := by rw [← hh]; exact hB.1
  have hF := hB.2
  try dsimp only at hw
  refine W.eq (g2 := F0 m 4 ls [.int (b2i r1)]) rfl ?_
  refine lv_if_eq (x := b2i r1) (tgt := 9) hx hb dX1_isUp_4 (by decide) (fun c4 => ?_) (fun c4 => ?_)
  · have c4 := b2i_z c4
    rw [if_neg c4] at hw
    refine lv_aload_n hx hb dX1_isUp_9 rfl (lv_at hl 0 rfl) ?_
    refine gf_1_1 (k := k) hx hb hts (by decide +kernel) hown hK hP (kd_N hk (by decide)) hk (q := k + 1) (hF.1 k 1 (k + 1) (fx_L1 hk)) (hts (.fieldLink RX1 10 "Opticmesh$Light" "first" "LOpticmesh$Way;") (by decide +kernel)) dX1_isUp_10 ?_
    refine gf_3_3 (k := (k + 1)) hx hb hts (by decide +kernel) hown hK hP (kd_N (kd_L1 hk) (by decide)) (kd_L1 hk) (hts (.fieldLink RX1 44 "Opticmesh$Way" "fibres" "I") (by decide +kernel)) dX1_isUp_13 ?_
    refine lv_iload_n hx hb dX1_isUp_16 rfl (lv_at hl 1 rfl) ?_
    refine lv_iand hx hb dX1_isUp_17 ?_
    refine lv_if_eq (x := ((gI S1 (k + 1) 3) &&& x1)) (tgt := 40) hx hb dX1_isUp_18 (by decide) (fun c18 => ?_) (fun c18 => ?_)
    · rw [if_pos c18] at hw
      refine lv_iconst (v := 1) hx hb dX1_isUp_40 (by decide) ?_
      refine lv_goto (tgt := 45) hx hb dX1_isUp_41 (by decide) ?_
      exact q_zret (v := true) hx hb hr hP hF hS hw dX1_isUp_45 hlocks
    · rw [if_neg c18] at hw
      refine lv_aload_n hx hb dX1_isUp_21 rfl (lv_at hl 0 rfl) ?_
      refine gf_1_5 (k := k) hx hb hts (by decide +kernel) hown hK hP (kd_N hk (by decide)) hk (hts (.fieldLink RX1 36 "Opticmesh$Light" "isProtected" "Z") (by decide +kernel)) dX1_isUp_22 ?_
      refine lv_if_eq (x := (gI S1 k 5)) (tgt := 44) hx hb dX1_isUp_25 (by decide) (fun c25 => ?_) (fun c25 => ?_)
      · rw [if_pos c25] at hw
        refine lv_iconst (v := 0) hx hb dX1_isUp_44 (by decide) ?_
        exact q_zret (v := false) hx hb hr hP hF hS hw dX1_isUp_45 hlocks
      · rw [if_neg c25] at hw
        refine lv_aload_n hx hb dX1_isUp_28 rfl (lv_at hl 0 rfl) ?_
        refine gf_1_2 (k := k) hx hb hts (by decide +kernel) hown hK hP (kd_N hk (by decide)) hk (q := k + 2) (hF.1 k 2 (k + 2) (fx_L2 hk)) (hts (.fieldLink RX1 16 "Opticmesh$Light" "second" "LOpticmesh$Way;") (by decide +kernel)) dX1_isUp_29 ?_
        refine gf_3_3 (k := (k + 2)) hx hb hts (by decide +kernel) hown hK hP (kd_N (kd_L2 hk) (by decide)) (kd_L2 hk) (hts (.fieldLink RX1 44 "Opticmesh$Way" "fibres" "I") (by decide +kernel)) dX1_isUp_32 ?_
        refine lv_iload_n hx hb dX1_isUp_35 rfl (lv_at hl 1 rfl) ?_
        refine lv_iand hx hb dX1_isUp_36 ?_
        refine lv_if_ne (x := ((gI S1 (k + 2) 3) &&& x1)) (tgt := 44) hx hb dX1_isUp_37 (by decide) (fun c37 => ?_) (fun c37 => ?_)
        · rw [if_neg c37] at hw
          refine lv_iconst (v := 0) hx hb dX1_isUp_44 (by decide) ?_
          exact q_zret (v := false) hx hb hr hP hF hS hw dX1_isUp_45 hlocks
        · rw [if_pos c37] at hw
          refine lv_iconst (v := 1) hx hb dX1_isUp_40 (by decide) ?_
          refine lv_goto (tgt := 45) hx hb dX1_isUp_41 (by decide) ?_
          exact q_zret (v := true) hx hb hr hP hF hS hw dX1_isUp_45 hlocks
  · have c4 := b2i_n c4
    rw [if_pos c4] at hw
    refine lv_iconst (v := 0) hx hb dX1_isUp_7 (by decide) ?_
    exact q_zret (v := false) hx hb hr hP hF hS hw dX1_isUp_8 hlocks
set_option maxHeartbeats 4000000 in
set_option maxRecDepth 100000 in
theorem c_X1_wavelengthsOn (l : Launch) (D : va_G) (cy : Nat → ClassId) (b0 : Nat) (S : St) (k : Nat) (x1 : Int32) (hk : kd k = 1) (P : Int32 → St → Prop) (hw : wp_X1_wavelengthsOn S k x1 P) : Met l yX1_wavelengthsOn wsX1_wavelengthsOn rm_X1_wavelengthsOn (va_Pc [.ref (b0 + k), .int x1] (Wd D cy b0 NALL S)) (QC (Pi P) (Wb D cy b0 NALL) b0) 0 0 (AA b0) := by
  refine Met.ofW (cc := cX1_wavelengthsOn) (maxL := 3) (ret := (some .int)) (by decide) rfl ?_
  intro p e s m args below meth c s₁ B hml hv
  obtain ⟨hargs, hW, hP, hF⟩ := hv
  have hx := B.exec
  have hb := B.bytes
  have hr := B.returns
  have hts := atoms_spec (ws := wsX1_wavelengthsOn) B.pre
  have hown : s.vm.findClass RX1 = some m.cls := findClass_of_methodNamed B.named
  have hlocks := B.notSynchronized
  have hK := hW.1
  have hS : va_S (AA b0) s.heap s.heap [] := va_S.rf
  have hE : entryFrame m args 3 = F0 m 0 ((lg_sl [.ref (b0 + k), .int x1] ++ List.replicate (3 - (lg_sl [.ref (b0 + k), .int x1]).length) Slot.unset).toArray) [] := by rw [hargs]; exact lg_entry_eq m _ _
  rw [hE]
  have hl := lv_entry [.ref (b0 + k), .int x1] (n := 3) (Nat.le_of_ble_eq_true rfl)
  generalize (lg_sl [.ref (b0 + k), .int x1] ++ List.replicate (3 - (lg_sl [.ref (b0 + k), .int x1]).length) Slot.unset).toArray = ls at hl ⊢
  have hl : lv_has ls 3 [(0, .ref (b0 + k)), (1, .int x1)] := hl
  unfold wp_X1_wavelengthsOn at hw
  refine lv_aload_n hx hb dX1_wavelengthsOn_0 rfl (lv_at hl 0 rfl) ?_
  refine q_call (va_runV (As := []) (rest := []) ⟨hx, hb, hml, hown, hts⟩ (c_X1_isGone l D cy b0 S k hk _ hw) (cwV 0 hts gX1_wavelengthsOn_X1_isGone rfl rfl rfl (by decide +kernel) ⟨(Nat.le_of_ble_eq_true rfl), (Nat.le_of_ble_eq_true rfl)⟩) (q_pV hW hP hF hS (k := k) (ci := 1) (kd_N hk (by decide)) (cell_1 hk) rfl []) rfl rfl hl.1 rfl (lv_room (Nat.le_of_ble_eq_true rfl)) dX1_wavelengthsOn_1 ⟨(Nat.le_of_ble_eq_true rfl), (Nat.le_of_ble_eq_true rfl)⟩) hS (fun v1 S1 t1 H locs hh hp hB hz hk9 hS => ?_)
  obtain ⟨r1, rfl, hw⟩ := hp
  have hP : HP D cy b0 NALL S1 H := by rw [← hh]; exact hB.1
  have hF := hB.2
  try dsimp only at hw
  refine W.eq (g2 := F0 m 4 ls [.int (b2i r1)]) rfl ?_
  refine lv_if_eq (x := b2i r1) (tgt := 9) hx hb dX1_wavelengthsOn_4 (by decide) (fun c4 => ?_) (fun c4 => ?_)
  · have c4 := b2i_z c4
    rw [if_neg c4] at hw
    refine lv_aload_n hx hb dX1_wavelengthsOn_9 rfl (lv_at hl 0 rfl) ?_
    refine gf_1_1 (k := k) hx hb hts (by decide +kernel) hown hK hP (kd_N hk (by decide)) hk (q := k + 1) (hF.1 k 1 (k + 1) (fx_L1 hk)) (hts (.fieldLink RX1 10 "Opticmesh$Light" "first" "LOpticmesh$Way;") (by decide +kernel)) dX1_wavelengthsOn_10 ?_
    refine lv_iload_n hx hb dX1_wavelengthsOn_13 rfl (lv_at hl 1 rfl) ?_
    refine q_call (va_runV (As := [.int x1]) (rest := []) ⟨hx, hb, hml, hown, hts⟩ (c_X3_wavelengthsOn l D cy b0 S1 (k + 1) x1 (kd_L1 hk) _ hw) (cwV 1 hts gX1_wavelengthsOn_X3_wavelengthsOn rfl rfl rfl (by decide +kernel) ⟨(Nat.le_of_ble_eq_true rfl), (Nat.le_of_ble_eq_true rfl)⟩) (q_pV hW hP hF hS (k := (k + 1)) (ci := 3) (kd_N (kd_L1 hk) (by decide)) (cell_3 (kd_L1 hk)) rfl [.int x1]) rfl rfl hl.1 rfl (lv_room (Nat.le_of_ble_eq_true rfl)) dX1_wavelengthsOn_14 ⟨(Nat.le_of_ble_eq_true rfl), (Nat.le_of_ble_eq_true rfl)⟩) hS (fun v14 S14 t14 H locs hh hp hB hz hk9 hS => ?_)
    obtain ⟨r14, rfl, hw⟩ := hp
    have hP : HP D cy b0 NALL S14 H := by rw [← hh]; exact hB.1
    have hF := hB.2
    try dsimp only at hw
    refine W.eq (g2 := F0 m 17 ls [.int r14]) rfl ?_
    refine lv_istore_n (lv' := [(2, .int r14), (0, .ref (b0 + k)), (1, .int x1)]) hx hb dX1_wavelengthsOn_17 rfl hl (by decide) rfl (fun ls hl => ?_)
    refine lv_aload_n hx hb dX1_wavelengthsOn_18 rfl (lv_at hl 1 rfl) ?_
    refine gf_1_5 (k := k) hx hb hts (by decide +kernel) hown hK hP (kd_N hk (by decide)) hk (hts (.fieldLink RX1 36 "Opticmesh$Light" "isProtected" "Z") (by decide +kernel)) dX1_wavelengthsOn_19 ?_
    refine lv_if_eq (x := (gI S14 k 5)) (tgt := 38) hx hb dX1_wavelengthsOn_22 (by decide) (fun c22 => ?_) (fun c22 => ?_)
    · rw [if_pos c22] at hw
      refine lv_iload_n hx hb dX1_wavelengthsOn_38 rfl (lv_at hl 0 rfl) ?_
      exact q_iret hx hb hr hP hF hS hw dX1_wavelengthsOn_39 hlocks
    · rw [if_neg c22] at hw
      refine lv_iload_n hx hb dX1_wavelengthsOn_25 rfl (lv_at hl 0 rfl) ?_
      refine lv_aload_n hx hb dX1_wavelengthsOn_26 rfl (lv_at hl 1 rfl) ?_
      refine gf_1_2 (k := k) hx hb hts (by decide +kernel) hown hK hP (kd_N hk (by decide)) hk (q := k + 2) (hF.1 k 2 (k + 2) (fx_L2 hk)) (hts (.fieldLink RX1 16 "Opticmesh$Light" "second" "LOpticmesh$Way;") (by decide +kernel)) dX1_wavelengthsOn_27 ?_
      refine lv_iload_n hx hb dX1_wavelengthsOn_30 rfl (lv_at hl 2 rfl) ?_
      refine q_call (va_runV (As := [.int x1]) (rest := [.int r14]) ⟨hx, hb, hml, hown, hts⟩ (c_X3_wavelengthsOn l D cy b0 S14 (k + 2) x1 (kd_L2 hk) _ hw) (cwV 1 hts gX1_wavelengthsOn_X3_wavelengthsOn rfl rfl rfl (by decide +kernel) ⟨(Nat.le_of_ble_eq_true rfl), (Nat.le_of_ble_eq_true rfl)⟩) (q_pV hW hP hF hS (k := (k + 2)) (ci := 3) (kd_N (kd_L2 hk) (by decide)) (cell_3 (kd_L2 hk)) rfl [.int x1]) rfl rfl hl.1 rfl (lv_room (Nat.le_of_ble_eq_true rfl)) dX1_wavelengthsOn_31 ⟨(Nat.le_of_ble_eq_true rfl), (Nat.le_of_ble_eq_true rfl)⟩) hS (fun v31 S31 t31 H locs hh hp hB hz hk9 hS => ?_)
      obtain ⟨r31, rfl, hw⟩ := hp
      have hP : HP D cy b0 NALL S31 H := by rw [← hh]; exact hB.1
      have hF := hB.2
      try dsimp only at hw
      refine W.eq (g2 := F0 m 34 ls [.int r31, .int r14]) rfl ?_
      refine lv_ior hx hb dX1_wavelengthsOn_34 ?_
      refine lv_goto (tgt := 39) hx hb dX1_wavelengthsOn_35 (by decide) ?_
      exact q_iret hx hb hr hP hF hS hw dX1_wavelengthsOn_39 hlocks
  · have c4 := b2i_n c4
    rw [if_pos c4] at hw
    refine lv_iconst (v := 0) hx hb dX1_wavelengthsOn_7 (by decide) ?_
    exact q_iret hx hb hr hP hF hS hw dX1_wavelengthsOn_8 hlocks
set_option maxHeartbeats 4000000 in
set_option maxRecDepth 100000 in
theorem c_X1_start_n (l : Launch) (D : va_G) (cy : Nat → ClassId) (b0 : Nat) (S : St) (k : Nat) (x1 : Int32) (x2 : Int32) (x3 : Nat) (hk : kd k = 1) (hk3 : kd x3 = 3) (P : St → Prop) (hw : wp_X1_start_n S k x1 x2 x3 P) : Met l yX1_start wsX1_start rm_X1_start_n (va_Pc [.ref (b0 + k), .int x1, .int x2, .ref (b0 + x3), .null] (Wd D cy b0 NALL S)) (QC (Pv P) (Wb D cy b0 NALL) b0) 0 0 (AA b0) := by
  refine Met.ofW (cc := cX1_start) (maxL := 5) (ret := none) (by decide) rfl ?_
  intro p e s m args below meth c s₁ B hml hv
  obtain ⟨hargs, hW, hP, hF⟩ := hv
  have hx := B.exec
  have hb := B.bytes
  have hr := B.returns
  have hts := atoms_spec (ws := wsX1_start) B.pre
  have hown : s.vm.findClass RX1 = some m.cls := findClass_of_methodNamed B.named
  have hlocks := B.notSynchronized
  have hK := hW.1
  have hS : va_S (AA b0) s.heap s.heap [] := va_S.rf
  have hE : entryFrame m args 5 = F0 m 0 ((lg_sl [.ref (b0 + k), .int x1, .int x2, .ref (b0 + x3), .null] ++ List.replicate (5 - (lg_sl [.ref (b0 + k), .int x1, .int x2, .ref (b0 + x3), .null]).length) Slot.unset).toArray) [] := by rw [hargs]; exact lg_entry_eq m _ _
  rw [hE]
  have hl := lv_entry [.ref (b0 + k), .int x1, .int x2, .ref (b0 + x3), .null] (n := 5) (Nat.le_of_ble_eq_true rfl)
  generalize (lg_sl [.ref (b0 + k), .int x1, .int x2, .ref (b0 + x3), .null] ++ List.replicate (5 - (lg_sl [.ref (b0 + k), .int x1, .int x2, .ref (b0 + x3), .null]).length) Slot.unset).toArray = ls at hl ⊢
  have hl : lv_has ls 5 [(0, .ref (b0 + k)), (1, .int x1), (2, .int x2), (3, .ref (b0 + x3)), (4, .null)] := hl
  have j34 : ∀ (S : St) , ∀ (H : Heap) (locs : List Loc) (ls : Array Slot), wp_X1_start_n_34 k x1 x2 x3 P S → HP D cy b0 NALL S H → Fx S → va_S (AA b0) s.heap H locs → lv_has ls 5 [(0, .ref (b0 + k)), (4, .null)] → W p l e rm_X1_start_n s m args below meth c H locs 0 0 (MQ below (QC (Pv P) (Wb D cy b0 NALL) b0) args s 0 0 (AA b0)) (F0 m 34 ls [.int 0, .ref (b0 + k)]) := by
    intro S  H locs ls hw hP hF hS hl
    unfold wp_X1_start_n_34 at hw
    refine pf_1_5 (k := k) (x := false) hx hb hts (by decide +kernel) hown hK hP hS (kd_N hk (by decide)) hk (hts (.fieldLink RX1 36 "Opticmesh$Light" "isProtected" "Z") (by decide +kernel)) dX1_start_34 (fun H locs hz hP hS => ?_)
    have hF : Fx (sI S k 5 (b2i false)) := Fx.sI hF _ _ _
    generalize eS34 : sI S k 5 (b2i false) = S34 at hP hF
    have hw := hw S34 eS34.symm
    refine lv_aloadN hx hb dX1_start_37 (lv_at hl 1 rfl) ?_
    refine lv_ifnullN (tgt := 51) hx hb dX1_start_39 (by decide) ?_
    exact q_vret hx hb hr hP hF hS hw dX1_start_51 hlocks
  unfold wp_X1_start_n at hw
  refine lv_aload_n hx hb dX1_start_0 rfl (lv_at hl 0 rfl) ?_
  refine lv_iload_n hx hb dX1_start_1 rfl (lv_at hl 1 rfl) ?_
  refine pf_1_3 (k := k) (x := x1) hx hb hts (by decide +kernel) hown hK hP hS (kd_N hk (by decide)) hk (hts (.fieldLink RX1 23 "Opticmesh$Light" "from" "I") (by decide +kernel)) dX1_start_2 (fun H locs hz hP hS => ?_)
  have hF : Fx (sI S k 3 x1) := Fx.sI hF _ _ _
  generalize eS2 : sI S k 3 x1 = S2 at hP hF
  have hw := hw S2 eS2.symm
  refine lv_aload_n hx hb dX1_start_5 rfl (lv_at hl 0 rfl) ?_
  refine lv_iload_n hx hb dX1_start_6 rfl (lv_at hl 2 rfl) ?_
  refine pf_1_4 (k := k) (x := x2) hx hb hts (by decide +kernel) hown hK hP hS (kd_N hk (by decide)) hk (hts (.fieldLink RX1 26 "Opticmesh$Light" "to" "I") (by decide +kernel)) dX1_start_7 (fun H locs hz hP hS => ?_)
  have hF : Fx (sI S2 k 4 x2) := Fx.sI hF _ _ _
  generalize eS7 : sI S2 k 4 x2 = S7 at hP hF
  have hw := hw S7 eS7.symm
  refine lv_aload_n hx hb dX1_start_10 rfl (lv_at hl 0 rfl) ?_
  refine lv_iconst (v := 0) hx hb dX1_start_11 (by decide) ?_
  refine pf_1_6 (k := k) (x := 0) hx hb hts (by decide +kernel) hown hK hP hS (kd_N hk (by decide)) hk (hts (.fieldLink RX1 29 "Opticmesh$Light" "units" "I") (by decide +kernel)) dX1_start_12 (fun H locs hz hP hS => ?_)
  have hF : Fx (sI S7 k 6 0) := Fx.sI hF _ _ _
  generalize eS12 : sI S7 k 6 0 = S12 at hP hF
  have hw := hw S12 eS12.symm
  refine lv_aload_n hx hb dX1_start_15 rfl (lv_at hl 0 rfl) ?_
  refine gf_1_1 (k := k) hx hb hts (by decide +kernel) hown hK hP (kd_N hk (by decide)) hk (q := k + 1) (hF.1 k 1 (k + 1) (fx_L1 hk)) (hts (.fieldLink RX1 10 "Opticmesh$Light" "first" "LOpticmesh$Way;") (by decide +kernel)) dX1_start_16 ?_
  refine lv_aload_n hx hb dX1_start_19 rfl (lv_at hl 3 rfl) ?_
  refine q_call (va_runV (As := [.ref (b0 + x3)]) (rest := []) ⟨hx, hb, hml, hown, hts⟩ (c_X3_become l D cy b0 S12 (k + 1) x3 (kd_L1 hk) hk3 _ hw) (cwV 1 hts gX1_start_X3_become rfl rfl rfl (by decide +kernel) ⟨(Nat.le_of_ble_eq_true rfl), (Nat.le_of_ble_eq_true rfl)⟩) (q_pV hW hP hF hS (k := (k + 1)) (ci := 3) (kd_N (kd_L1 hk) (by decide)) (cell_3 (kd_L1 hk)) rfl [.ref (b0 + x3)]) rfl rfl hl.1 rfl (lv_room (Nat.le_of_ble_eq_true rfl)) dX1_start_20 ⟨(Nat.le_of_ble_eq_true rfl), (Nat.le_of_ble_eq_true rfl)⟩) hS (fun v20 S20 t20 H locs hh hp hB hz hk9 hS => ?_)
  obtain ⟨rfl, hw⟩ := hp
  have hP : HP D cy b0 NALL S20 H := by rw [← hh]; exact hB.1
  have hF := hB.2
  try dsimp only at hw
  refine W.eq (g2 := F0 m 23 ls []) rfl ?_
  refine lv_aload_n hx hb dX1_start_23 rfl (lv_at hl 0 rfl) ?_
  refine lv_aloadN hx hb dX1_start_24 (lv_at hl 4 rfl) ?_
  refine lv_ifnullN (tgt := 33) hx hb dX1_start_26 (by decide) ?_
  refine lv_iconst (v := 0) hx hb dX1_start_33 (by decide) ?_
  exact j34 S20  _ _ _ hw hP hF hS (lv_sub hl [0, 4] rfl)
set_option maxHeartbeats 4000000 in
set_option maxRecDepth 100000 in
theorem c_X1_start_s (l : Launch) (D : va_G) (cy : Nat → ClassId) (b0 : Nat) (S : St) (k : Nat) (x1 : Int32) (x2 : Int32) (x3 : Nat) (x4 : Nat) (hk : kd k = 1) (hk3 : kd x3 = 3) (hk4 : kd x4 = 3) (P : St → Prop) (hw : wp_X1_start_s S k x1 x2 x3 x4 P) : Met l yX1_start wsX1_start rm_X1_start_s (va_Pc [.ref (b0 + k), .int x1, .int x2, .ref (b0 + x3), .ref (b0 + x4)] (Wd D cy b0 NALL S)) (QC (Pv P) (Wb D cy b0 NALL) b0) 0 0 (AA b0) := by
  refine Met.ofW (cc := cX1_start) (maxL := 5) (ret := none) (by decide) rfl ?_
  intro p e s m args below meth c s₁ B hml hv
  obtain ⟨hargs, hW, hP, hF⟩ := hv
  have hx := B.exec
  have hb := B.bytes
  have hr := B.returns
  have hts := atoms_spec (ws := wsX1_start) B.pre
  have hown : s.vm.findClass RX1 = some m.cls := findClass_of_methodNamed B.named
  have hlocks := B.notSynchronized
  have hK := hW.1
  have hS : va_S (AA b0) s.heap s.heap [] := va_S.rf
  have hE : entryFrame m args 5 = F0 m 0 ((lg_sl [.ref (b0 + k), .int x1, .int x2, .ref (b0 + x3), .ref (b0 + x4)] ++ List.replicate (5 - (lg_sl [.ref (b0 + k), .int x1, .int x2, .ref (b0 + x3), .ref (b0 + x4)]).length) Slot.unset).toArray) [] := by rw [hargs]; exact lg_entry_eq m _ _
  rw [hE]
  have hl := lv_entry [.ref (b0 + k), .int x1, .int x2, .ref (b0 + x3), .ref (b0 + x4)] (n := 5) (Nat.le_of_ble_eq_true rfl)
  generalize (lg_sl [.ref (b0 + k), .int x1, .int x2, .ref (b0 + x3), .ref (b0 + x4)] ++ List.replicate (5 - (lg_sl [.ref (b0 + k), .int x1, .int x2, .ref (b0 + x3), .ref (b0 + x4)]).length) Slot.unset).toArray = ls at hl ⊢
  have hl : lv_has ls 5 [(0, .ref (b0 + k)), (1, .int x1), (2, .int x2), (3, .ref (b0 + x3)), (4, .ref (b0 + x4))] := hl
  have j34 : ∀ (S : St) , ∀ (H : Heap) (locs : List Loc) (ls : Array Slot), wp_X1_start_s_34 k x1 x2 x3 x4 P S → HP D cy b0 NALL S H → Fx S → va_S (AA b0) s.heap H locs → lv_has ls 5 [(0, .ref (b0 + k)), (4, .ref (b0 + x4))] → W p l e rm_X1_start_s s m args below meth c H locs 0 0 (MQ below (QC (Pv P) (Wb D cy b0 NALL) b0) args s 0 0 (AA b0)) (F0 m 34 ls [.int 1, .ref (b0 + k)]) := by
    intro S  H locs ls hw hP hF hS hl
    unfold wp_X1_start_s_34 at hw
    refine pf_1_5 (k := k) (x := true) hx hb hts (by decide +kernel) hown hK hP hS (kd_N hk (by decide)) hk (hts (.fieldLink RX1 36 "Opticmesh$Light" "isProtected" "Z") (by decide +kernel)) dX1_start_34 (fun H locs hz hP hS => ?_)
    have hF : Fx (sI S k 5 (b2i true)) := Fx.sI hF _ _ _
    generalize eS34 : sI S k 5 (b2i true) = S34 at hP hF
    have hw := hw S34 eS34.symm
    refine lv_aload hx hb dX1_start_37 (lv_at hl 1 rfl) ?_
    refine lv_ifnull hx hb dX1_start_39 ?_
    refine lv_aload_n hx hb dX1_start_42 rfl (lv_at hl 0 rfl) ?_
    refine gf_1_2 (k := k) hx hb hts (by decide +kernel) hown hK hP (kd_N hk (by decide)) hk (q := k + 2) (hF.1 k 2 (k + 2) (fx_L2 hk)) (hts (.fieldLink RX1 16 "Opticmesh$Light" "second" "LOpticmesh$Way;") (by decide +kernel)) dX1_start_43 ?_
    refine lv_aload hx hb dX1_start_46 (lv_at hl 1 rfl) ?_
    refine q_call (va_runV (As := [.ref (b0 + x4)]) (rest := []) ⟨hx, hb, hml, hown, hts⟩ (c_X3_become l D cy b0 S34 (k + 2) x4 (kd_L2 hk) hk4 _ hw) (cwV 1 hts gX1_start_X3_become rfl rfl rfl (by decide +kernel) ⟨(Nat.le_of_ble_eq_true rfl), (Nat.le_of_ble_eq_true rfl)⟩) (q_pV hW hP hF hS (k := (k + 2)) (ci := 3) (kd_N (kd_L2 hk) (by decide)) (cell_3 (kd_L2 hk)) rfl [.ref (b0 + x4)]) rfl rfl hl.1 rfl (lv_room (Nat.le_of_ble_eq_true rfl)) dX1_start_48 ⟨(Nat.le_of_ble_eq_true rfl), (Nat.le_of_ble_eq_true rfl)⟩) hS (fun v48 S48 t48 H locs hh hp hB hz hk9 hS => ?_)
    obtain ⟨rfl, hw⟩ := hp
    have hP : HP D cy b0 NALL S48 H := by rw [← hh]; exact hB.1
    have hF := hB.2
    try dsimp only at hw
    refine W.eq (g2 := F0 m 51 ls []) rfl ?_
    exact q_vret hx hb hr hP hF hS hw dX1_start_51 hlocks
  unfold wp_X1_start_s at hw
  refine lv_aload_n hx hb dX1_start_0 rfl (lv_at hl 0 rfl) ?_
  refine lv_iload_n hx hb dX1_start_1 rfl (lv_at hl 1 rfl) ?_
  refine pf_1_3 (k := k) (x := x1) hx hb hts (by decide +kernel) hown hK hP hS (kd_N hk (by decide)) hk (hts (.fieldLink RX1 23 "Opticmesh$Light" "from" "I") (by decide +kernel)) dX1_start_2 (fun H locs hz hP hS => ?_)
  have hF : Fx (sI S k 3 x1) := Fx.sI hF _ _ _
  generalize eS2 : sI S k 3 x1 = S2 at hP hF
  have hw := hw S2 eS2.symm
  refine lv_aload_n hx hb dX1_start_5 rfl (lv_at hl 0 rfl) ?_
  refine lv_iload_n hx hb dX1_start_6 rfl (lv_at hl 2 rfl) ?_
  refine pf_1_4 (k := k) (x := x2) hx hb hts (by decide +kernel) hown hK hP hS (kd_N hk (by decide)) hk (hts (.fieldLink RX1 26 "Opticmesh$Light" "to" "I") (by decide +kernel)) dX1_start_7 (fun H locs hz hP hS => ?_)
  have hF : Fx (sI S2 k 4 x2) := Fx.sI hF _ _ _
  generalize eS7 : sI S2 k 4 x2 = S7 at hP hF
  have hw := hw S7 eS7.symm
  refine lv_aload_n hx hb dX1_start_10 rfl (lv_at hl 0 rfl) ?_
  refine lv_iconst (v := 0) hx hb dX1_start_11 (by decide) ?_
  refine pf_1_6 (k := k) (x := 0) hx hb hts (by decide +kernel) hown hK hP hS (kd_N hk (by decide)) hk (hts (.fieldLink RX1 29 "Opticmesh$Light" "units" "I") (by decide +kernel)) dX1_start_12 (fun H locs hz hP hS => ?_)
  have hF : Fx (sI S7 k 6 0) := Fx.sI hF _ _ _
  generalize eS12 : sI S7 k 6 0 = S12 at hP hF
  have hw := hw S12 eS12.symm
  refine lv_aload_n hx hb dX1_start_15 rfl (lv_at hl 0 rfl) ?_
  refine gf_1_1 (k := k) hx hb hts (by decide +kernel) hown hK hP (kd_N hk (by decide)) hk (q := k + 1) (hF.1 k 1 (k + 1) (fx_L1 hk)) (hts (.fieldLink RX1 10 "Opticmesh$Light" "first" "LOpticmesh$Way;") (by decide +kernel)) dX1_start_16 ?_
  refine lv_aload_n hx hb dX1_start_19 rfl (lv_at hl 3 rfl) ?_
  refine q_call (va_runV (As := [.ref (b0 + x3)]) (rest := []) ⟨hx, hb, hml, hown, hts⟩ (c_X3_become l D cy b0 S12 (k + 1) x3 (kd_L1 hk) hk3 _ hw) (cwV 1 hts gX1_start_X3_become rfl rfl rfl (by decide +kernel) ⟨(Nat.le_of_ble_eq_true rfl), (Nat.le_of_ble_eq_true rfl)⟩) (q_pV hW hP hF hS (k := (k + 1)) (ci := 3) (kd_N (kd_L1 hk) (by decide)) (cell_3 (kd_L1 hk)) rfl [.ref (b0 + x3)]) rfl rfl hl.1 rfl (lv_room (Nat.le_of_ble_eq_true rfl)) dX1_start_20 ⟨(Nat.le_of_ble_eq_true rfl), (Nat.le_of_ble_eq_true rfl)⟩) hS (fun v20 S20 t20 H locs hh hp hB hz hk9 hS => ?_)
  obtain ⟨rfl, hw⟩ := hp
  have hP : HP D cy b0 NALL S20 H := by rw [← hh]; exact hB.1
  have hF := hB.2
  try dsimp only at hw
  refine W.eq (g2 := F0 m 23 ls []) rfl ?_
  refine lv_aload_n hx hb dX1_start_23 rfl (lv_at hl 0 rfl) ?_
  refine lv_aload hx hb dX1_start_24 (lv_at hl 4 rfl) ?_
  refine lv_ifnull hx hb dX1_start_26 ?_
  refine lv_iconst (v := 1) hx hb dX1_start_29 (by decide) ?_
  refine lv_goto (tgt := 34) hx hb dX1_start_30 (by decide) ?_
  exact j34 S20  _ _ _ hw hP hF hS (lv_sub hl [0, 4] rfl)
set_option maxHeartbeats 4000000 in
set_option maxRecDepth 100000 in
theorem c_X1_joins (l : Launch) (D : va_G) (cy : Nat → ClassId) (b0 : Nat) (S : St) (k : Nat) (x1 : Int32) (x2 : Int32) (hk : kd k = 1) (P : Bool → St → Prop) (hw : wp_X1_joins S k x1 x2 P) : Met l yX1_joins wsX1_joins rm_X1_joins (va_Pc [.ref (b0 + k), .int x1, .int x2] (Wd D cy b0 NALL S)) (QC (Pz P) (Wb D cy b0 NALL) b0) 0 0 (AA b0) := by
  refine Met.ofW (cc := cX1_joins) (maxL := 3) (ret := (some .boolean)) (by decide) rfl ?_
  intro p e s m args below meth c s₁ B hml hv
  obtain ⟨hargs, hW, hP, hF⟩ := hv
  have hx := B.exec
  have hb := B.bytes
  have hr := B.returns
  have hts := atoms_spec (ws := wsX1_joins) B.pre
  have hown : s.vm.findClass RX1 = some m.cls := findClass_of_methodNamed B.named
  have hlocks := B.notSynchronized
  have hK := hW.1
  have hS : va_S (AA b0) s.heap s.heap [] := va_S.rf
  have hE : entryFrame m args 3 = F0 m 0 ((lg_sl [.ref (b0 + k), .int x1, .int x2] ++ List.replicate (3 - (lg_sl [.ref (b0 + k), .int x1, .int x2]).length) Slot.unset).toArray) [] := by rw [hargs]; exact lg_entry_eq m _ _
  rw [hE]
  have hl := lv_entry [.ref (b0 + k), .int x1, .int x2] (n := 3) (Nat.le_of_ble_eq_true rfl)
  generalize (lg_sl [.ref (b0 + k), .int x1, .int x2] ++ List.replicate (3 - (lg_sl [.ref (b0 + k), .int x1, .int x2]).length) Slot.unset).toArray = ls at hl ⊢
  have hl : lv_has ls 3 [(0, .ref (b0 + k)), (1, .int x1), (2, .int x2)] := hl
  have j16 : ∀ (S : St) , ∀ (H : Heap) (locs : List Loc) (ls : Array Slot), wp_X1_joins_16 k x1 x2 P S → HP D cy b0 NALL S H → Fx S → va_S (AA b0) s.heap H locs → lv_has ls 3 [(0, .ref (b0 + k)), (1, .int x1), (2, .int x2)] → W p l e rm_X1_joins s m args below meth c H locs 0 0 (MQ below (QC (Pz P) (Wb D cy b0 NALL) b0) args s 0 0 (AA b0)) (F0 m 16 ls []) := by
    intro S  H locs ls hw hP hF hS hl
    unfold wp_X1_joins_16 at hw
    refine lv_aload_n hx hb dX1_joins_16 rfl (lv_at hl 0 rfl) ?_
    refine gf_1_3 (k := k) hx hb hts (by decide +kernel) hown hK hP (kd_N hk (by decide)) hk (hts (.fieldLink RX1 23 "Opticmesh$Light" "from" "I") (by decide +kernel)) dX1_joins_17 ?_
    refine lv_iload_n hx hb dX1_joins_20 rfl (lv_at hl 2 rfl) ?_
    refine lv_icmp_ne (x := (gI S k 3)) (y := x2) (tgt := 36) hx hb dX1_joins_21 (by decide) (fun c21 => ?_) (fun c21 => ?_)
    · rw [if_neg c21] at hw
      refine lv_iconst (v := 0) hx hb dX1_joins_36 (by decide) ?_
      exact q_zret (v := false) hx hb hr hP hF hS hw dX1_joins_37 hlocks
    · rw [if_pos c21] at hw
      refine lv_aload_n hx hb dX1_joins_24 rfl (lv_at hl 0 rfl) ?_
      refine gf_1_4 (k := k) hx hb hts (by decide +kernel) hown hK hP (kd_N hk (by decide)) hk (hts (.fieldLink RX1 26 "Opticmesh$Light" "to" "I") (by decide +kernel)) dX1_joins_25 ?_
      refine lv_iload_n hx hb dX1_joins_28 rfl (lv_at hl 1 rfl) ?_
      refine lv_icmp_ne (x := (gI S k 4)) (y := x1) (tgt := 36) hx hb dX1_joins_29 (by decide) (fun c29 => ?_) (fun c29 => ?_)
      · rw [if_neg c29] at hw
        refine lv_iconst (v := 0) hx hb dX1_joins_36 (by decide) ?_
        exact q_zret (v := false) hx hb hr hP hF hS hw dX1_joins_37 hlocks
      · rw [if_pos c29] at hw
        refine lv_iconst (v := 1) hx hb dX1_joins_32 (by decide) ?_
        refine lv_goto (tgt := 37) hx hb dX1_joins_33 (by decide) ?_
        exact q_zret (v := true) hx hb hr hP hF hS hw dX1_joins_37 hlocks
  unfold wp_X1_joins at hw
  refine lv_aload_n hx hb dX1_joins_0 rfl (lv_at hl 0 rfl) ?_
  refine gf_1_3 (k := k) hx hb hts (by decide +kernel) hown hK hP (kd_N hk (by decide)) hk (hts (.fieldLink RX1 23 "Opticmesh$Light" "from" "I") (by decide +kernel)) dX1_joins_1 ?_
  refine lv_iload_n hx hb dX1_joins_4 rfl (lv_at hl 1 rfl) ?_
  refine lv_icmp_ne (x := (gI S k 3)) (y := x1) (tgt := 16) hx hb dX1_joins_5 (by decide) (fun c5 => ?_) (fun c5 => ?_)
  · rw [if_neg c5] at hw
    exact j16 S  _ _ _ hw hP hF hS (lv_sub hl [0, 1, 2] rfl)
  · rw [if_pos c5] at hw
    refine lv_aload_n hx hb dX1_joins_8 rfl (lv_at hl 0 rfl) ?_
    refine gf_1_4 (k := k) hx hb hts (by decide +kernel) hown hK hP (kd_N hk (by decide)) hk (hts (.fieldLink RX1 26 "Opticmesh$Light" "to" "I") (by decide +kernel)) dX1_joins_9 ?_
    refine lv_iload_n hx hb dX1_joins_12 rfl (lv_at hl 2 rfl) ?_
    refine lv_icmp_eq (x := (gI S k 4)) (y := x2) (tgt := 32) hx hb dX1_joins_13 (by decide) (fun c13 => ?_) (fun c13 => ?_)
    · rw [if_pos c13] at hw
      refine lv_iconst (v := 1) hx hb dX1_joins_32 (by decide) ?_
      refine lv_goto (tgt := 37) hx hb dX1_joins_33 (by decide) ?_
      exact q_zret (v := true) hx hb hr hP hF hS hw dX1_joins_37 hlocks
    · rw [if_neg c13] at hw
      exact j16 S  _ _ _ hw hP hF hS (lv_sub hl [0, 1, 2] rfl)
set_option maxHeartbeats 4000000 in
set_option maxRecDepth 100000 in
theorem c_X1_wayAt (l : Launch) (D : va_G) (cy : Nat → ClassId) (b0 : Nat) (S : St) (k : Nat) (x1 : Int32) (hk : kd k = 1) (P : Option Nat → St → Prop) (hw : wp_X1_wayAt S k x1 P) : Met l yX1_wayAt wsX1_wayAt rm_X1_wayAt (va_Pc [.ref (b0 + k), .int x1] (Wd D cy b0 NALL S)) (QC (Pn b0 3 P) (Wb D cy b0 NALL) b0) 0 0 (AA b0) := by
  refine Met.ofW (cc := cX1_wayAt) (maxL := 2) (ret := (some (.object "Opticmesh$Way"))) (by decide) rfl ?_
  intro p e s m args below meth c s₁ B hml hv
  obtain ⟨hargs, hW, hP, hF⟩ := hv
  have hx := B.exec
  have hb := B.bytes
  have hr := B.returns
  have hts := atoms_spec (ws := wsX1_wayAt) B.pre
  have hown : s.vm.findClass RX1 = some m.cls := findClass_of_methodNamed B.named
  have hlocks := B.notSynchronized
  have hK := hW.1
  have hS : va_S (AA b0) s.heap s.heap [] := va_S.rf
  have hE : entryFrame m args 2 = F0 m 0 ((lg_sl [.ref (b0 + k), .int x1] ++ List.replicate (2 - (lg_sl [.ref (b0 + k), .int x1]).length) Slot.unset).toArray) [] := by rw [hargs]; exact lg_entry_eq m _ _
  rw [hE]
  have hl := lv_entry [.ref (b0 + k), .int x1] (n := 2) (Nat.le_of_ble_eq_true rfl)
  generalize (lg_sl [.ref (b0 + k), .int x1] ++ List.replicate (2 - (lg_sl [.ref (b0 + k), .int x1]).length) Slot.unset).toArray = ls at hl ⊢
  have hl : lv_has ls 2 [(0, .ref (b0 + k)), (1, .int x1)] := hl
  unfold wp_X1_wayAt at hw
  refine lv_aload_n hx hb dX1_wayAt_0 rfl (lv_at hl 0 rfl) ?_
  refine q_call (va_runV (As := []) (rest := []) ⟨hx, hb, hml, hown, hts⟩ (c_X1_isGone l D cy b0 S k hk _ hw) (cwV 0 hts gX1_wayAt_X1_isGone rfl rfl rfl (by decide +kernel) ⟨(Nat.le_of_ble_eq_true rfl), (Nat.le_of_ble_eq_true rfl)⟩) (q_pV hW hP hF hS (k := k) (ci := 1) (kd_N hk (by decide)) (cell_1 hk) rfl []) rfl rfl hl.1 rfl (lv_room (Nat.le_of_ble_eq_true rfl)) dX1_wayAt_1 ⟨(Nat.le_of_ble_eq_true rfl), (Nat.le_of_ble_eq_true rfl)⟩) hS (fun v1 S1 t1 H locs hh hp hB hz hk9 hS => ?_)
  obtain ⟨r1, rfl, hw⟩ := hp
  have hP : HP D cy b0 NALL S1 H := by rw [← hh]; exact hB.1
  have hF := hB.2
  try dsimp only at hw
  refine W.eq (g2 := F0 m 4 ls [.int (b2i r1)]) rfl ?_
  refine lv_if_eq (x := b2i r1) (tgt := 9) hx hb dX1_wayAt_4 (by decide) (fun c4 => ?_) (fun c4 => ?_)
  · have c4 := b2i_z c4
    rw [if_neg c4] at hw
    refine lv_iload_n hx hb dX1_wayAt_9 rfl (lv_at hl 1 rfl) ?_
    refine lv_if_ne (x := x1) (tgt := 18) hx hb dX1_wayAt_10 (by decide) (fun c10 => ?_) (fun c10 => ?_)
    · rw [if_neg c10] at hw
      refine lv_iload_n hx hb dX1_wayAt_18 rfl (lv_at hl 1 rfl) ?_
      refine lv_iconst (v := 1) hx hb dX1_wayAt_19 (by decide) ?_
      refine lv_icmp_ne (x := x1) (y := 1) (tgt := 37) hx hb dX1_wayAt_20 (by decide) (fun c20 => ?_) (fun c20 => ?_)
      · rw [if_neg c20] at hw
        refine lv_null hx hb dX1_wayAt_37 ?_
        exact q_aretN hx hb hr hP hF hS hw dX1_wayAt_38 hlocks
      · rw [if_pos c20] at hw
        refine lv_aload_n hx hb dX1_wayAt_23 rfl (lv_at hl 0 rfl) ?_
        refine gf_1_5 (k := k) hx hb hts (by decide +kernel) hown hK hP (kd_N hk (by decide)) hk (hts (.fieldLink RX1 36 "Opticmesh$Light" "isProtected" "Z") (by decide +kernel)) dX1_wayAt_24 ?_
        refine lv_if_eq (x := (gI S1 k 5)) (tgt := 37) hx hb dX1_wayAt_27 (by decide) (fun c27 => ?_) (fun c27 => ?_)
        · rw [if_pos c27] at hw
          refine lv_null hx hb dX1_wayAt_37 ?_
          exact q_aretN hx hb hr hP hF hS hw dX1_wayAt_38 hlocks
        · rw [if_neg c27] at hw
          refine lv_aload_n hx hb dX1_wayAt_30 rfl (lv_at hl 0 rfl) ?_
          refine gf_1_2 (k := k) hx hb hts (by decide +kernel) hown hK hP (kd_N hk (by decide)) hk (q := k + 2) (hF.1 k 2 (k + 2) (fx_L2 hk)) (hts (.fieldLink RX1 16 "Opticmesh$Light" "second" "LOpticmesh$Way;") (by decide +kernel)) dX1_wayAt_31 ?_
          refine lv_goto (tgt := 38) hx hb dX1_wayAt_34 (by decide) ?_
          exact q_aretS (v := (k + 2)) hx hb hr hP hF hS (kd_L2 hk) hw dX1_wayAt_38 hlocks
    · rw [if_pos c10] at hw
      refine lv_aload_n hx hb dX1_wayAt_13 rfl (lv_at hl 0 rfl) ?_
      refine gf_1_1 (k := k) hx hb hts (by decide +kernel) hown hK hP (kd_N hk (by decide)) hk (q := k + 1) (hF.1 k 1 (k + 1) (fx_L1 hk)) (hts (.fieldLink RX1 10 "Opticmesh$Light" "first" "LOpticmesh$Way;") (by decide +kernel)) dX1_wayAt_14 ?_
      exact q_aretS (v := (k + 1)) hx hb hr hP hF hS (kd_L1 hk) hw dX1_wayAt_17 hlocks
  · have c4 := b2i_n c4
    rw [if_pos c4] at hw
    refine lv_null hx hb dX1_wayAt_7 ?_
    exact q_aretN hx hb hr hP hF hS hw dX1_wayAt_8 hlocks
