set_option maxHeartbeats 4000000 in
set_option maxRecDepth 100000 in
theorem c_X5_lightOf (l : Launch) (hlt : l.stackTraces = false) (D : va_G) (cy : Nat → ClassId) (b0 : Nat) (S : St) (x1 : Int32)  (P : Int32 → St → Prop) (E : String → St → Prop) (hw : wp_X5_lightOf S x1 P E) : vx_Met l yX5_lightOf wsX5_lightOf rm_X5_lightOf (va_Pc [.ref (b0 + 0), .int x1] (Wd D cy b0 NALL S)) (QC (Pi P) (Wb D cy b0 NALL) b0) (XX E (Wb D cy b0 NALL) b0) 1 6 (AA b0) := by
  refine vx_ofW (cc := cX5_lightOf) (maxL := 2) (ret := (some .int)) (by decide) rfl ?_
  intro p e s m args below meth c s₁ B hml ht9 hv
  obtain ⟨hargs, hW, hP, hF⟩ := hv
  have hx := B.exec
  have hb := B.bytes
  have hr := B.returns
  have hts := atoms_spec (ws := wsX5_lightOf) B.pre
  have hown : s.vm.findClass RX5 = some m.cls := findClass_of_methodNamed B.named
  have hlocks := B.notSynchronized
  have hK := hW.1
  have hS : va_S (AA b0) s.heap s.heap [] := va_S.rf
  have hE : entryFrame m args 2 = F0 m 0 ((lg_sl [.ref (b0 + 0), .int x1] ++ List.replicate (2 - (lg_sl [.ref (b0 + 0), .int x1]).length) Slot.unset).toArray) [] := by rw [hargs]; exact lg_entry_eq m _ _
  rw [hE]
  have hl := lv_entry [.ref (b0 + 0), .int x1] (n := 2) (Nat.le_of_ble_eq_true rfl)
  generalize (lg_sl [.ref (b0 + 0), .int x1] ++ List.replicate (2 - (lg_sl [.ref (b0 + 0), .int x1]).length) Slot.unset).toArray = ls at hl ⊢
  have hl : lv_has ls 2 [(0, .ref (b0 + 0)), (1, .int x1)] := hl
  unfold wp_X5_lightOf at hw
  refine lv_aload_n hx hb dX5_lightOf_0 rfl (lv_at hl 0 rfl) ?_
  refine lv_iload_n hx hb dX5_lightOf_1 rfl (lv_at hl 1 rfl) ?_
  refine q_callX (vx_runV (As := [.int x1]) (rest := []) ⟨hx, hb, hml, hown, hts⟩ (c_X5_carrierOf l hlt D cy b0 S x1 _ _ hw) (cwV 1 hts gX5_lightOf_X5_carrierOf rfl rfl rfl (by decide +kernel) ⟨(Nat.le_of_ble_eq_true rfl), (Nat.le_of_ble_eq_true rfl)⟩) (q_pV hW hP hF hS (k := 0) (ci := 5) (by decide) (cell_5 (kk_0)) rfl [.int x1]) rfl rfl hl.1 rfl (lv_room (Nat.le_of_ble_eq_true rfl)) dX5_lightOf_2 ⟨(Nat.le_of_ble_eq_true rfl), (Nat.le_of_ble_eq_true rfl)⟩) hS (fun E2 ce q9 S2 t2 H locs hh hw hB hz hS hc9 hv9 hcl9 => ?_) (fun v2 S2 t2 H locs hh hp hB hz hk9 hS => ?_)
  · have hP : HP D cy b0 NALL S2 H := by rw [← hh]; exact hB.1
    exact q_pass ht9 hlocks hP hB.2 hS hw hc9 hv9 hcl9 (by decide) (by decide)
  · obtain ⟨r2, rfl, hk_r2, hw⟩ := hp
    have hP : HP D cy b0 NALL S2 H := by rw [← hh]; exact hB.1
    have hF := hB.2
    try dsimp only at hw
    refine W.eq (g2 := F0 m 5 ls [.ref (b0 + r2)]) rfl ?_
    refine gf_1_0 (k := r2) hx hb hts (by decide +kernel) hown hK hP (kd_N hk_r2 (by decide)) hk_r2 (hts (.fieldLink RX5 178 "Opticmesh$Light" "number" "I") (by decide +kernel)) dX5_lightOf_5 ?_
    refine vx_ret ?_
    exact q_iret hx hb hr hP hF hS hw dX5_lightOf_8 hlocks
set_option maxHeartbeats 4000000 in
set_option maxRecDepth 100000 in
theorem c_X5_requests (l : Launch) (D : va_G) (cy : Nat → ClassId) (b0 : Nat) (S : St)   (P : Int32 → St → Prop) (hw : wp_X5_requests S  P) : Met l yX5_requests wsX5_requests rm_X5_requests (va_Pc [.ref (b0 + 0)] (Wd D cy b0 NALL S)) (QC (Pi P) (Wb D cy b0 NALL) b0) 0 0 (AA b0) := by
  refine Met.ofW (cc := cX5_requests) (maxL := 1) (ret := (some .int)) (by decide) rfl ?_
  intro p e s m args below meth c s₁ B hml hv
  obtain ⟨hargs, hW, hP, hF⟩ := hv
  have hx := B.exec
  have hb := B.bytes
  have hr := B.returns
  have hts := atoms_spec (ws := wsX5_requests) B.pre
  have hown : s.vm.findClass RX5 = some m.cls := findClass_of_methodNamed B.named
  have hlocks := B.notSynchronized
  have hK := hW.1
  have hS : va_S (AA b0) s.heap s.heap [] := va_S.rf
  have hE : entryFrame m args 1 = F0 m 0 ((lg_sl [.ref (b0 + 0)] ++ List.replicate (1 - (lg_sl [.ref (b0 + 0)]).length) Slot.unset).toArray) [] := by rw [hargs]; exact lg_entry_eq m _ _
  rw [hE]
  have hl := lv_entry [.ref (b0 + 0)] (n := 1) (Nat.le_of_ble_eq_true rfl)
  generalize (lg_sl [.ref (b0 + 0)] ++ List.replicate (1 - (lg_sl [.ref (b0 + 0)]).length) Slot.unset).toArray = ls at hl ⊢
  have hl : lv_has ls 1 [(0, .ref (b0 + 0))] := hl
  unfold wp_X5_requests at hw
  refine lv_aload_n hx hb dX5_requests_0 rfl (lv_at hl 0 rfl) ?_
  refine gf_5_7 (k := 0) hx hb hts (by decide +kernel) hown hK hP (by decide) (kk_0) (hts (.fieldLink RX5 63 "Opticmesh" "requestCount" "I") (by decide +kernel)) dX5_requests_1 ?_
  exact q_iret hx hb hr hP hF hS hw dX5_requests_4 hlocks
set_option maxHeartbeats 4000000 in
set_option maxRecDepth 100000 in
theorem c_X5_lights (l : Launch) (D : va_G) (cy : Nat → ClassId) (b0 : Nat) (S : St)   (P : Int32 → St → Prop) (hw : wp_X5_lights S  P) : Met l yX5_lights wsX5_lights rm_X5_lights (va_Pc [.ref (b0 + 0)] (Wd D cy b0 NALL S)) (QC (Pi P) (Wb D cy b0 NALL) b0) 0 0 (AA b0) := by
  refine Met.ofW (cc := cX5_lights) (maxL := 1) (ret := (some .int)) (by decide) rfl ?_
  intro p e s m args below meth c s₁ B hml hv
  obtain ⟨hargs, hW, hP, hF⟩ := hv
  have hx := B.exec
  have hb := B.bytes
  have hr := B.returns
  have hts := atoms_spec (ws := wsX5_lights) B.pre
  have hown : s.vm.findClass RX5 = some m.cls := findClass_of_methodNamed B.named
  have hlocks := B.notSynchronized
  have hK := hW.1
  have hS : va_S (AA b0) s.heap s.heap [] := va_S.rf
  have hE : entryFrame m args 1 = F0 m 0 ((lg_sl [.ref (b0 + 0)] ++ List.replicate (1 - (lg_sl [.ref (b0 + 0)]).length) Slot.unset).toArray) [] := by rw [hargs]; exact lg_entry_eq m _ _
  rw [hE]
  have hl := lv_entry [.ref (b0 + 0)] (n := 1) (Nat.le_of_ble_eq_true rfl)
  generalize (lg_sl [.ref (b0 + 0)] ++ List.replicate (1 - (lg_sl [.ref (b0 + 0)]).length) Slot.unset).toArray = ls at hl ⊢
  have hl : lv_has ls 1 [(0, .ref (b0 + 0))] := hl
  unfold wp_X5_lights at hw
  refine lv_aload_n hx hb dX5_lights_0 rfl (lv_at hl 0 rfl) ?_
  refine gf_5_4 (k := 0) hx hb hts (by decide +kernel) hown hK hP (by decide) (kk_0) (hts (.fieldLink RX5 59 "Opticmesh" "lightCount" "I") (by decide +kernel)) dX5_lights_1 ?_
  exact q_iret hx hb hr hP hF hS hw dX5_lights_4 hlocks
set_option maxHeartbeats 4000000 in
set_option maxRecDepth 100000 in
theorem c_X5_existingLight (l : Launch) (hlt : l.stackTraces = false) (D : va_G) (cy : Nat → ClassId) (b0 : Nat) (S : St) (x1 : Int32)  (P : Nat → St → Prop) (E : String → St → Prop) (hw : wp_X5_existingLight S x1 P E) : vx_Met l yX5_existingLight wsX5_existingLight rm_X5_existingLight (va_Pc [.ref (b0 + 0), .int x1] (Wd D cy b0 NALL S)) (QC (Pr b0 1 P) (Wb D cy b0 NALL) b0) (XX E (Wb D cy b0 NALL) b0) 1 6 (AA b0) := by
  refine vx_ofW (cc := cX5_existingLight) (maxL := 2) (ret := (some (.object "Opticmesh$Light"))) (by decide) rfl ?_
  intro p e s m args below meth c s₁ B hml ht9 hv
  obtain ⟨hargs, hW, hP, hF⟩ := hv
  have hx := B.exec
  have hb := B.bytes
  have hr := B.returns
  have hts := atoms_spec (ws := wsX5_existingLight) B.pre
  have hown : s.vm.findClass RX5 = some m.cls := findClass_of_methodNamed B.named
  have hlocks := B.notSynchronized
  have hK := hW.1
  have hS : va_S (AA b0) s.heap s.heap [] := va_S.rf
  have hE : entryFrame m args 2 = F0 m 0 ((lg_sl [.ref (b0 + 0), .int x1] ++ List.replicate (2 - (lg_sl [.ref (b0 + 0), .int x1]).length) Slot.unset).toArray) [] := by rw [hargs]; exact lg_entry_eq m _ _
  rw [hE]
  have hl := lv_entry [.ref (b0 + 0), .int x1] (n := 2) (Nat.le_of_ble_eq_true rfl)
  generalize (lg_sl [.ref (b0 + 0), .int x1] ++ List.replicate (2 - (lg_sl [.ref (b0 + 0), .int x1]).length) Slot.unset).toArray = ls at hl ⊢
  have hl : lv_has ls 2 [(0, .ref (b0 + 0)), (1, .int x1)] := hl
  have j12 : ∀ (S : St) , ∀ (H : Heap) (locs : List Loc) (ls : Array Slot), wp_X5_existingLight_12 x1 P E S → HP D cy b0 NALL S H → Fx S → va_S (AA b0) s.heap H locs → lv_has ls 2 [] → W p l e rm_X5_existingLight s m args below meth c H locs 0 0 (vx_MQ below (QC (Pr b0 1 P) (Wb D cy b0 NALL) b0) (XX E (Wb D cy b0 NALL) b0) args s 1 6 (AA b0)) (F0 m 12 ls []) := by
    intro S  H locs ls hw hP hF hS hl
    unfold wp_X5_existingLight_12 at hw
    exact q_throwW (cls := eX) (text := "no such light") (Ts := wsX5_existingLight) hx hb hlt hts hown (by decide +kernel) (hts (.classLink RX5 198 eX) (by decide +kernel)) (hts (.initialized eX) (by decide +kernel)) (by decide) (fun w h => List.mem_cons_of_mem _ (List.mem_append_right _ h)) thX2 (by decide) thX3 hW hP hF hS (hl.1.trans hml.symm) dX5_existingLight_12 dX5_existingLight_15 dX5_existingLight_16 dX5_existingLight_19 dX5_existingLight_22 ht9 (Nat.le_of_ble_eq_true rfl) (Nat.le_of_ble_eq_true rfl) (Nat.le_of_ble_eq_true rfl) (Nat.le_of_ble_eq_true rfl) hlocks hw (by decide) (by decide)
  unfold wp_X5_existingLight at hw
  refine lv_iload_n hx hb dX5_existingLight_0 rfl (lv_at hl 1 rfl) ?_
  refine lv_if_lt (x := x1) (tgt := 12) hx hb dX5_existingLight_1 (by decide) (fun c1 => ?_) (fun c1 => ?_)
  · rw [if_pos c1] at hw
    exact j12 S  _ _ _ hw hP hF hS (lv_sub hl [] rfl)
  · rw [if_neg c1] at hw
    refine lv_iload_n hx hb dX5_existingLight_4 rfl (lv_at hl 1 rfl) ?_
    refine lv_aload_n hx hb dX5_existingLight_5 rfl (lv_at hl 0 rfl) ?_
    refine gf_5_4 (k := 0) hx hb hts (by decide +kernel) hown hK hP (by decide) (kk_0) (hts (.fieldLink RX5 59 "Opticmesh" "lightCount" "I") (by decide +kernel)) dX5_existingLight_6 ?_
    refine lv_icmp_lt (x := x1) (y := (gI S 0 4)) (tgt := 23) hx hb dX5_existingLight_9 (by decide) (fun c9 => ?_) (fun c9 => ?_)
    · rw [if_pos c9] at hw
      refine lv_aload_n hx hb dX5_existingLight_23 rfl (lv_at hl 0 rfl) ?_
      refine gf_5_3 (k := 0) hx hb hts (by decide +kernel) hown hK hP (by decide) (kk_0) (q := 184) (hF.1 0 3 184 ff_0_3) (hts (.fieldLink RX5 34 "Opticmesh" "lightList" "[LOpticmesh$Light;") (by decide +kernel)) dX5_existingLight_24 ?_
      refine lv_iload_n hx hb dX5_existingLight_27 rfl (lv_at hl 1 rfl) ?_
      obtain ⟨h28, hw⟩ := hw
      refine q_aald9 (k := 184) (n := 60) (i := x1) hx hb hK hP (by decide) (kk_184) (ll_184) h28 dX5_existingLight_28 ?_
      rw [rf_some (hF.1 184 _ _ (fx_184 (vp_lt h28)))]
      refine vx_ret ?_
      exact q_aretR (v := (185 + 3 * (x1.toNatClampNeg))) hx hb hr hP hF hS (kd_Li (vp_lt h28)) hw dX5_existingLight_29 hlocks
    · rw [if_neg c9] at hw
      exact j12 S  _ _ _ hw hP hF hS (lv_sub hl [] rfl)
set_option maxHeartbeats 4000000 in
set_option maxRecDepth 100000 in
theorem c_X5_state (l : Launch) (hlt : l.stackTraces = false) (D : va_G) (cy : Nat → ClassId) (b0 : Nat) (S : St) (x1 : Int32)  (P : Int32 → St → Prop) (E : String → St → Prop) (hw : wp_X5_state S x1 P E) : vx_Met l yX5_state wsX5_state rm_X5_state (va_Pc [.ref (b0 + 0), .int x1] (Wd D cy b0 NALL S)) (QC (Pi P) (Wb D cy b0 NALL) b0) (XX E (Wb D cy b0 NALL) b0) 1 6 (AA b0) := by
  refine vx_ofW (cc := cX5_state) (maxL := 3) (ret := (some .int)) (by decide) rfl ?_
  intro p e s m args below meth c s₁ B hml ht9 hv
  obtain ⟨hargs, hW, hP, hF⟩ := hv
  have hx := B.exec
  have hb := B.bytes
  have hr := B.returns
  have hts := atoms_spec (ws := wsX5_state) B.pre
  have hown : s.vm.findClass RX5 = some m.cls := findClass_of_methodNamed B.named
  have hlocks := B.notSynchronized
  have hK := hW.1
  have hS : va_S (AA b0) s.heap s.heap [] := va_S.rf
  have hE : entryFrame m args 3 = F0 m 0 ((lg_sl [.ref (b0 + 0), .int x1] ++ List.replicate (3 - (lg_sl [.ref (b0 + 0), .int x1]).length) Slot.unset).toArray) [] := by rw [hargs]; exact lg_entry_eq m _ _
  rw [hE]
  have hl := lv_entry [.ref (b0 + 0), .int x1] (n := 3) (Nat.le_of_ble_eq_true rfl)
  generalize (lg_sl [.ref (b0 + 0), .int x1] ++ List.replicate (3 - (lg_sl [.ref (b0 + 0), .int x1]).length) Slot.unset).toArray = ls at hl ⊢
  have hl : lv_has ls 3 [(0, .ref (b0 + 0)), (1, .int x1)] := hl
  unfold wp_X5_state at hw
  refine lv_aload_n hx hb dX5_state_0 rfl (lv_at hl 0 rfl) ?_
  refine lv_iload_n hx hb dX5_state_1 rfl (lv_at hl 1 rfl) ?_
  refine q_callX (vx_runV (As := [.int x1]) (rest := []) ⟨hx, hb, hml, hown, hts⟩ (c_X5_existingLight l hlt D cy b0 S x1 _ _ hw) (cwV 1 hts gX5_state_X5_existingLight rfl rfl rfl (by decide +kernel) ⟨(Nat.le_of_ble_eq_true rfl), (Nat.le_of_ble_eq_true rfl)⟩) (q_pV hW hP hF hS (k := 0) (ci := 5) (by decide) (cell_5 (kk_0)) rfl [.int x1]) rfl rfl hl.1 rfl (lv_room (Nat.le_of_ble_eq_true rfl)) dX5_state_2 ⟨(Nat.le_of_ble_eq_true rfl), (Nat.le_of_ble_eq_true rfl)⟩) hS (fun E2 ce q9 S2 t2 H locs hh hw hB hz hS hc9 hv9 hcl9 => ?_) (fun v2 S2 t2 H locs hh hp hB hz hk9 hS => ?_)
  · have hP : HP D cy b0 NALL S2 H := by rw [← hh]; exact hB.1
    exact q_pass ht9 hlocks hP hB.2 hS hw hc9 hv9 hcl9 (by decide) (by decide)
  · obtain ⟨r2, rfl, hk_r2, hw⟩ := hp
    have hP : HP D cy b0 NALL S2 H := by rw [← hh]; exact hB.1
    have hF := hB.2
    try dsimp only at hw
    refine W.eq (g2 := F0 m 5 ls [.ref (b0 + r2)]) rfl ?_
    refine lv_astore_n (lv' := [(2, .ref (b0 + r2)), (0, .ref (b0 + 0)), (1, .int x1)]) hx hb dX5_state_5 rfl hl (by decide) rfl (fun ls hl => ?_)
    refine lv_aload_n hx hb dX5_state_6 rfl (lv_at hl 0 rfl) ?_
    refine q_call (va_runV (As := []) (rest := []) ⟨hx, hb, hml, hown, hts⟩ (c_X1_isGone l D cy b0 S2 r2 hk_r2 _ hw) (cwV 0 hts gX5_state_X1_isGone rfl rfl rfl (by decide +kernel) ⟨(Nat.le_of_ble_eq_true rfl), (Nat.le_of_ble_eq_true rfl)⟩) (q_pV hW hP hF hS (k := r2) (ci := 1) (kd_N hk_r2 (by decide)) (cell_1 hk_r2) rfl []) rfl rfl hl.1 rfl (lv_room (Nat.le_of_ble_eq_true rfl)) dX5_state_7 ⟨(Nat.le_of_ble_eq_true rfl), (Nat.le_of_ble_eq_true rfl)⟩) hS (fun v7 S7 t7 H locs hh hp hB hz hk9 hS => ?_)
    obtain ⟨r7, rfl, hw⟩ := hp
    have hP : HP D cy b0 NALL S7 H := by rw [← hh]; exact hB.1
    have hF := hB.2
    try dsimp only at hw
    refine W.eq (g2 := F0 m 10 ls [.int (b2i r7)]) rfl ?_
    refine lv_if_eq (x := b2i r7) (tgt := 15) hx hb dX5_state_10 (by decide) (fun c10 => ?_) (fun c10 => ?_)
    · have c10 := b2i_z c10
      rw [if_neg c10] at hw
      refine lv_aload_n hx hb dX5_state_15 rfl (lv_at hl 0 rfl) ?_
      refine lv_aload_n hx hb dX5_state_16 rfl (lv_at hl 1 rfl) ?_
      refine gf_5_0 (k := 0) hx hb hts (by decide +kernel) hown hK hP (by decide) (kk_0) (q := 1) (hF.1 0 0 1 ff_0_0) (hts (.fieldLink RX5 12 "Opticmesh" "network" "LOpticmesh$Network;") (by decide +kernel)) dX5_state_17 ?_
      refine gf_2_4 (k := 1) hx hb hts (by decide +kernel) hown hK hP (by decide) (kk_1) (hts (.fieldLink RX5 102 "Opticmesh$Network" "cutFibres" "I") (by decide +kernel)) dX5_state_20 ?_
      refine q_call (va_runV (As := [.int (gI S7 1 4)]) (rest := []) ⟨hx, hb, hml, hown, hts⟩ (c_X1_isUp l D cy b0 S7 r2 (gI S7 1 4) hk_r2 _ hw) (cwV 1 hts gX5_state_X1_isUp rfl rfl rfl (by decide +kernel) ⟨(Nat.le_of_ble_eq_true rfl), (Nat.le_of_ble_eq_true rfl)⟩) (q_pV hW hP hF hS (k := r2) (ci := 1) (kd_N hk_r2 (by decide)) (cell_1 hk_r2) rfl [.int (gI S7 1 4)]) rfl rfl hl.1 rfl (lv_room (Nat.le_of_ble_eq_true rfl)) dX5_state_23 ⟨(Nat.le_of_ble_eq_true rfl), (Nat.le_of_ble_eq_true rfl)⟩) hS (fun v23 S23 t23 H locs hh hp hB hz hk9 hS => ?_)
      obtain ⟨r23, rfl, hw⟩ := hp
      have hP : HP D cy b0 NALL S23 H := by rw [← hh]; exact hB.1
      have hF := hB.2
      try dsimp only at hw
      refine W.eq (g2 := F0 m 26 ls [.int (b2i r23)]) rfl ?_
      refine lv_if_eq (x := b2i r23) (tgt := 33) hx hb dX5_state_26 (by decide) (fun c26 => ?_) (fun c26 => ?_)
      · have c26 := b2i_z c26
        rw [if_neg c26] at hw
        refine lv_iconst (v := 1) hx hb dX5_state_33 (by decide) ?_
        refine vx_ret ?_
        exact q_iret hx hb hr hP hF hS hw dX5_state_34 hlocks
      · have c26 := b2i_n c26
        rw [if_pos c26] at hw
        refine lv_iconst (v := 0) hx hb dX5_state_29 (by decide) ?_
        refine lv_goto (tgt := 34) hx hb dX5_state_30 (by decide) ?_
        refine vx_ret ?_
        exact q_iret hx hb hr hP hF hS hw dX5_state_34 hlocks
    · have c10 := b2i_n c10
      rw [if_pos c10] at hw
      refine lv_iconst (v := 2) hx hb dX5_state_13 (by decide) ?_
      refine vx_ret ?_
      exact q_iret hx hb hr hP hF hS hw dX5_state_14 hlocks
set_option maxHeartbeats 4000000 in
set_option maxRecDepth 100000 in
theorem c_X5_units (l : Launch) (hlt : l.stackTraces = false) (D : va_G) (cy : Nat → ClassId) (b0 : Nat) (S : St) (x1 : Int32)  (P : Int32 → St → Prop) (E : String → St → Prop) (hw : wp_X5_units S x1 P E) : vx_Met l yX5_units wsX5_units rm_X5_units (va_Pc [.ref (b0 + 0), .int x1] (Wd D cy b0 NALL S)) (QC (Pi P) (Wb D cy b0 NALL) b0) (XX E (Wb D cy b0 NALL) b0) 1 6 (AA b0) := by
  refine vx_ofW (cc := cX5_units) (maxL := 2) (ret := (some .int)) (by decide) rfl ?_
  intro p e s m args below meth c s₁ B hml ht9 hv
  obtain ⟨hargs, hW, hP, hF⟩ := hv
  have hx := B.exec
  have hb := B.bytes
  have hr := B.returns
  have hts := atoms_spec (ws := wsX5_units) B.pre
  have hown : s.vm.findClass RX5 = some m.cls := findClass_of_methodNamed B.named
  have hlocks := B.notSynchronized
  have hK := hW.1
  have hS : va_S (AA b0) s.heap s.heap [] := va_S.rf
  have hE : entryFrame m args 2 = F0 m 0 ((lg_sl [.ref (b0 + 0), .int x1] ++ List.replicate (2 - (lg_sl [.ref (b0 + 0), .int x1]).length) Slot.unset).toArray) [] := by rw [hargs]; exact lg_entry_eq m _ _
  rw [hE]
  have hl := lv_entry [.ref (b0 + 0), .int x1] (n := 2) (Nat.le_of_ble_eq_true rfl)
  generalize (lg_sl [.ref (b0 + 0), .int x1] ++ List.replicate (2 - (lg_sl [.ref (b0 + 0), .int x1]).length) Slot.unset).toArray = ls at hl ⊢
  have hl : lv_has ls 2 [(0, .ref (b0 + 0)), (1, .int x1)] := hl
  unfold wp_X5_units at hw
  refine lv_aload_n hx hb dX5_units_0 rfl (lv_at hl 0 rfl) ?_
  refine lv_iload_n hx hb dX5_units_1 rfl (lv_at hl 1 rfl) ?_
  refine q_callX (vx_runV (As := [.int x1]) (rest := []) ⟨hx, hb, hml, hown, hts⟩ (c_X5_existingLight l hlt D cy b0 S x1 _ _ hw) (cwV 1 hts gX5_units_X5_existingLight rfl rfl rfl (by decide +kernel) ⟨(Nat.le_of_ble_eq_true rfl), (Nat.le_of_ble_eq_true rfl)⟩) (q_pV hW hP hF hS (k := 0) (ci := 5) (by decide) (cell_5 (kk_0)) rfl [.int x1]) rfl rfl hl.1 rfl (lv_room (Nat.le_of_ble_eq_true rfl)) dX5_units_2 ⟨(Nat.le_of_ble_eq_true rfl), (Nat.le_of_ble_eq_true rfl)⟩) hS (fun E2 ce q9 S2 t2 H locs hh hw hB hz hS hc9 hv9 hcl9 => ?_) (fun v2 S2 t2 H locs hh hp hB hz hk9 hS => ?_)
  · have hP : HP D cy b0 NALL S2 H := by rw [← hh]; exact hB.1
    exact q_pass ht9 hlocks hP hB.2 hS hw hc9 hv9 hcl9 (by decide) (by decide)
  · obtain ⟨r2, rfl, hk_r2, hw⟩ := hp
    have hP : HP D cy b0 NALL S2 H := by rw [← hh]; exact hB.1
    have hF := hB.2
    try dsimp only at hw
    refine W.eq (g2 := F0 m 5 ls [.ref (b0 + r2)]) rfl ?_
    refine gf_1_6 (k := r2) hx hb hts (by decide +kernel) hown hK hP (kd_N hk_r2 (by decide)) hk_r2 (hts (.fieldLink RX5 155 "Opticmesh$Light" "units" "I") (by decide +kernel)) dX5_units_5 ?_
    refine vx_ret ?_
    exact q_iret hx hb hr hP hF hS hw dX5_units_8 hlocks
set_option maxHeartbeats 4000000 in
set_option maxRecDepth 100000 in
theorem c_X5_wayOf (l : Launch) (hlt : l.stackTraces = false) (D : va_G) (cy : Nat → ClassId) (b0 : Nat) (S : St) (x1 : Int32) (x2 : Int32)  (P : Nat → St → Prop) (E : String → St → Prop) (hw : wp_X5_wayOf S x1 x2 P E) : vx_Met l yX5_wayOf wsX5_wayOf rm_X5_wayOf (va_Pc [.ref (b0 + 0), .int x1, .int x2] (Wd D cy b0 NALL S)) (QC (Pr b0 3 P) (Wb D cy b0 NALL) b0) (XX E (Wb D cy b0 NALL) b0) 1 6 (AA b0) := by
  refine vx_ofW (cc := cX5_wayOf) (maxL := 4) (ret := (some (.object "Opticmesh$Way"))) (by decide) rfl ?_
  intro p e s m args below meth c s₁ B hml ht9 hv
  obtain ⟨hargs, hW, hP, hF⟩ := hv
  have hx := B.exec
  have hb := B.bytes
  have hr := B.returns
  have hts := atoms_spec (ws := wsX5_wayOf) B.pre
  have hown : s.vm.findClass RX5 = some m.cls := findClass_of_methodNamed B.named
  have hlocks := B.notSynchronized
  have hK := hW.1
  have hS : va_S (AA b0) s.heap s.heap [] := va_S.rf
  have hE : entryFrame m args 4 = F0 m 0 ((lg_sl [.ref (b0 + 0), .int x1, .int x2] ++ List.replicate (4 - (lg_sl [.ref (b0 + 0), .int x1, .int x2]).length) Slot.unset).toArray) [] := by rw [hargs]; exact lg_entry_eq m _ _
  rw [hE]
  have hl := lv_entry [.ref (b0 + 0), .int x1, .int x2] (n := 4) (Nat.le_of_ble_eq_true rfl)
  generalize (lg_sl [.ref (b0 + 0), .int x1, .int x2] ++ List.replicate (4 - (lg_sl [.ref (b0 + 0), .int x1, .int x2]).length) Slot.unset).toArray = ls at hl ⊢
  have hl : lv_has ls 4 [(0, .ref (b0 + 0)), (1, .int x1), (2, .int x2)] := hl
  unfold wp_X5_wayOf at hw
  refine lv_aload_n hx hb dX5_wayOf_0 rfl (lv_at hl 0 rfl) ?_
  refine lv_iload_n hx hb dX5_wayOf_1 rfl (lv_at hl 1 rfl) ?_
  refine q_callX (vx_runV (As := [.int x1]) (rest := []) ⟨hx, hb, hml, hown, hts⟩ (c_X5_existingLight l hlt D cy b0 S x1 _ _ hw) (cwV 1 hts gX5_wayOf_X5_existingLight rfl rfl rfl (by decide +kernel) ⟨(Nat.le_of_ble_eq_true rfl), (Nat.le_of_ble_eq_true rfl)⟩) (q_pV hW hP hF hS (k := 0) (ci := 5) (by decide) (cell_5 (kk_0)) rfl [.int x1]) rfl rfl hl.1 rfl (lv_room (Nat.le_of_ble_eq_true rfl)) dX5_wayOf_2 ⟨(Nat.le_of_ble_eq_true rfl), (Nat.le_of_ble_eq_true rfl)⟩) hS (fun E2 ce q9 S2 t2 H locs hh hw hB hz hS hc9 hv9 hcl9 => ?_) (fun v2 S2 t2 H locs hh hp hB hz hk9 hS => ?_)
  · have hP : HP D cy b0 NALL S2 H := by rw [← hh]; exact hB.1
    exact q_pass ht9 hlocks hP hB.2 hS hw hc9 hv9 hcl9 (by decide) (by decide)
  · obtain ⟨r2, rfl, hk_r2, hw⟩ := hp
    have hP : HP D cy b0 NALL S2 H := by rw [← hh]; exact hB.1
    have hF := hB.2
    try dsimp only at hw
    refine W.eq (g2 := F0 m 5 ls [.ref (b0 + r2)]) rfl ?_
    refine lv_iload_n hx hb dX5_wayOf_5 rfl (lv_at hl 2 rfl) ?_
    refine q_call (va_runV (As := [.int x2]) (rest := []) ⟨hx, hb, hml, hown, hts⟩ (c_X1_wayAt l D cy b0 S2 r2 x2 hk_r2 _ hw) (cwV 1 hts gX5_wayOf_X1_wayAt rfl rfl rfl (by decide +kernel) ⟨(Nat.le_of_ble_eq_true rfl), (Nat.le_of_ble_eq_true rfl)⟩) (q_pV hW hP hF hS (k := r2) (ci := 1) (kd_N hk_r2 (by decide)) (cell_1 hk_r2) rfl [.int x2]) rfl rfl hl.1 rfl (lv_room (Nat.le_of_ble_eq_true rfl)) dX5_wayOf_6 ⟨(Nat.le_of_ble_eq_true rfl), (Nat.le_of_ble_eq_true rfl)⟩) hS (fun v6 S6 t6 H locs hh hp hB hz hk9 hS => ?_)
    obtain ⟨r6, rfl, hk_r6, hw⟩ := hp
    have hP : HP D cy b0 NALL S6 H := by rw [← hh]; exact hB.1
    have hF := hB.2
    try dsimp only at hw
    rcases r6 with _ | q6
    · have hw := hw.1 rfl
      refine W.eq (g2 := F0 m 9 ls [.null]) rfl ?_
      refine lv_astore_nN (lv' := [(3, .null), (0, .ref (b0 + 0)), (1, .int x1), (2, .int x2)]) hx hb dX5_wayOf_9 rfl hl (by decide) rfl (fun ls hl => ?_)
      refine lv_aload_nN hx hb dX5_wayOf_10 rfl (lv_at hl 0 rfl) ?_
      refine lv_ifnonnullN hx hb dX5_wayOf_11 ?_
      exact q_throwW (cls := eX) (text := "the light has no such way") (Ts := wsX5_wayOf) hx hb hlt hts hown (by decide +kernel) (hts (.classLink RX5 198 eX) (by decide +kernel)) (hts (.initialized eX) (by decide +kernel)) (by decide) (fun w h => List.mem_cons_of_mem _ (List.mem_append_right _ h)) thX2 (by decide) thX3 hW hP hF hS (hl.1.trans hml.symm) dX5_wayOf_14 dX5_wayOf_17 dX5_wayOf_18 dX5_wayOf_21 dX5_wayOf_24 ht9 (Nat.le_of_ble_eq_true rfl) (Nat.le_of_ble_eq_true rfl) (Nat.le_of_ble_eq_true rfl) (Nat.le_of_ble_eq_true rfl) hlocks hw (by decide) (by decide)
    · have hw := hw.2 q6 rfl
      have hk_q6 : kd q6 = 3 := hk_r6 q6 rfl
      refine W.eq (g2 := F0 m 9 ls [.ref (b0 + q6)]) rfl ?_
      refine lv_astore_n (lv' := [(3, .ref (b0 + q6)), (0, .ref (b0 + 0)), (1, .int x1), (2, .int x2)]) hx hb dX5_wayOf_9 rfl hl (by decide) rfl (fun ls hl => ?_)
      refine lv_aload_n hx hb dX5_wayOf_10 rfl (lv_at hl 0 rfl) ?_
      refine lv_ifnonnull (tgt := 25) hx hb dX5_wayOf_11 (by decide) ?_
      refine lv_aload_n hx hb dX5_wayOf_25 rfl (lv_at hl 0 rfl) ?_
      refine vx_ret ?_
      exact q_aretR (v := q6) hx hb hr hP hF hS hk_q6 hw dX5_wayOf_26 hlocks
set_option maxHeartbeats 4000000 in
set_option maxRecDepth 100000 in
theorem c_X5_channels (l : Launch) (hlt : l.stackTraces = false) (D : va_G) (cy : Nat → ClassId) (b0 : Nat) (S : St) (x1 : Int32) (x2 : Int32)  (P : Int32 → St → Prop) (E : String → St → Prop) (hw : wp_X5_channels S x1 x2 P E) : vx_Met l yX5_channels wsX5_channels rm_X5_channels (va_Pc [.ref (b0 + 0), .int x1, .int x2] (Wd D cy b0 NALL S)) (QC (Pi P) (Wb D cy b0 NALL) b0) (XX E (Wb D cy b0 NALL) b0) 1 6 (AA b0) := by
  refine vx_ofW (cc := cX5_channels) (maxL := 3) (ret := (some .int)) (by decide) rfl ?_
  intro p e s m args below meth c s₁ B hml ht9 hv
  obtain ⟨hargs, hW, hP, hF⟩ := hv
  have hx := B.exec
  have hb := B.bytes
  have hr := B.returns
  have hts := atoms_spec (ws := wsX5_channels) B.pre
  have hown : s.vm.findClass RX5 = some m.cls := findClass_of_methodNamed B.named
  have hlocks := B.notSynchronized
  have hK := hW.1
  have hS : va_S (AA b0) s.heap s.heap [] := va_S.rf
  have hE : entryFrame m args 3 = F0 m 0 ((lg_sl [.ref (b0 + 0), .int x1, .int x2] ++ List.replicate (3 - (lg_sl [.ref (b0 + 0), .int x1, .int x2]).length) Slot.unset).toArray) [] := by rw [hargs]; exact lg_entry_eq m _ _
  rw [hE]
  have hl := lv_entry [.ref (b0 + 0), .int x1, .int x2] (n := 3) (Nat.le_of_ble_eq_true rfl)
  generalize (lg_sl [.ref (b0 + 0), .int x1, .int x2] ++ List.replicate (3 - (lg_sl [.ref (b0 + 0), .int x1, .int x2]).length) Slot.unset).toArray = ls at hl ⊢
  have hl : lv_has ls 3 [(0, .ref (b0 + 0)), (1, .int x1), (2, .int x2)] := hl
  unfold wp_X5_channels at hw
  refine lv_aload_n hx hb dX5_channels_0 rfl (lv_at hl 0 rfl) ?_
  refine lv_iload_n hx hb dX5_channels_1 rfl (lv_at hl 1 rfl) ?_
  refine lv_iload_n hx hb dX5_channels_2 rfl (lv_at hl 2 rfl) ?_
  refine q_callX (vx_runV (As := [.int x1, .int x2]) (rest := []) ⟨hx, hb, hml, hown, hts⟩ (c_X5_wayOf l hlt D cy b0 S x1 x2 _ _ hw) (cwV 2 hts gX5_channels_X5_wayOf rfl rfl rfl (by decide +kernel) ⟨(Nat.le_of_ble_eq_true rfl), (Nat.le_of_ble_eq_true rfl)⟩) (q_pV hW hP hF hS (k := 0) (ci := 5) (by decide) (cell_5 (kk_0)) rfl [.int x1, .int x2]) rfl rfl hl.1 rfl (lv_room (Nat.le_of_ble_eq_true rfl)) dX5_channels_3 ⟨(Nat.le_of_ble_eq_true rfl), (Nat.le_of_ble_eq_true rfl)⟩) hS (fun E3 ce q9 S3 t3 H locs hh hw hB hz hS hc9 hv9 hcl9 => ?_) (fun v3 S3 t3 H locs hh hp hB hz hk9 hS => ?_)
  · have hP : HP D cy b0 NALL S3 H := by rw [← hh]; exact hB.1
    exact q_pass ht9 hlocks hP hB.2 hS hw hc9 hv9 hcl9 (by decide) (by decide)
  · obtain ⟨r3, rfl, hk_r3, hw⟩ := hp
    have hP : HP D cy b0 NALL S3 H := by rw [← hh]; exact hB.1
    have hF := hB.2
    try dsimp only at hw
    refine W.eq (g2 := F0 m 6 ls [.ref (b0 + r3)]) rfl ?_
    refine gf_3_0 (k := r3) hx hb hts (by decide +kernel) hown hK hP (kd_N hk_r3 (by decide)) hk_r3 (hts (.fieldLink RX5 195 "Opticmesh$Way" "count" "I") (by decide +kernel)) dX5_channels_6 ?_
    refine vx_ret ?_
    exact q_iret hx hb hr hP hF hS hw dX5_channels_9 hlocks
set_option maxHeartbeats 4000000 in
set_option maxRecDepth 100000 in
theorem c_X5_channel (l : Launch) (hlt : l.stackTraces = false) (D : va_G) (cy : Nat → ClassId) (b0 : Nat) (S : St) (x1 : Int32) (x2 : Int32) (x3 : Int32)  (P : Int32 → St → Prop) (E : String → St → Prop) (hw : wp_X5_channel S x1 x2 x3 P E) : vx_Met l yX5_channel wsX5_channel rm_X5_channel (va_Pc [.ref (b0 + 0), .int x1, .int x2, .int x3] (Wd D cy b0 NALL S)) (QC (Pi P) (Wb D cy b0 NALL) b0) (XX E (Wb D cy b0 NALL) b0) 1 6 (AA b0) := by
  refine vx_ofW (cc := cX5_channel) (maxL := 5) (ret := (some .int)) (by decide) rfl ?_
  intro p e s m args below meth c s₁ B hml ht9 hv
  obtain ⟨hargs, hW, hP, hF⟩ := hv
  have hx := B.exec
  have hb := B.bytes
  have hr := B.returns
  have hts := atoms_spec (ws := wsX5_channel) B.pre
  have hown : s.vm.findClass RX5 = some m.cls := findClass_of_methodNamed B.named
  have hlocks := B.notSynchronized
  have hK := hW.1
  have hS : va_S (AA b0) s.heap s.heap [] := va_S.rf
  have hE : entryFrame m args 5 = F0 m 0 ((lg_sl [.ref (b0 + 0), .int x1, .int x2, .int x3] ++ List.replicate (5 - (lg_sl [.ref (b0 + 0), .int x1, .int x2, .int x3]).length) Slot.unset).toArray) [] := by rw [hargs]; exact lg_entry_eq m _ _
  rw [hE]
  have hl := lv_entry [.ref (b0 + 0), .int x1, .int x2, .int x3] (n := 5) (Nat.le_of_ble_eq_true rfl)
  generalize (lg_sl [.ref (b0 + 0), .int x1, .int x2, .int x3] ++ List.replicate (5 - (lg_sl [.ref (b0 + 0), .int x1, .int x2, .int x3]).length) Slot.unset).toArray = ls at hl ⊢
  have hl : lv_has ls 5 [(0, .ref (b0 + 0)), (1, .int x1), (2, .int x2), (3, .int x3)] := hl
  have j21 : ∀ (S : St) , ∀ (H : Heap) (locs : List Loc) (ls : Array Slot), wp_X5_channel_21 x1 x2 x3 P E S → HP D cy b0 NALL S H → Fx S → va_S (AA b0) s.heap H locs → lv_has ls 5 [] → W p l e rm_X5_channel s m args below meth c H locs 0 0 (vx_MQ below (QC (Pi P) (Wb D cy b0 NALL) b0) (XX E (Wb D cy b0 NALL) b0) args s 1 6 (AA b0)) (F0 m 21 ls []) := by
    intro S  H locs ls hw hP hF hS hl
    unfold wp_X5_channel_21 at hw
    exact q_throw (cls := eX) (text := "no such place") (Ts := wsX5_channel) hx hb hlt hts hown (by decide +kernel) (hts (.classLink RX5 198 eX) (by decide +kernel)) (hts (.initialized eX) (by decide +kernel)) (by decide) (fun w h => List.mem_cons_of_mem _ (List.mem_append_right _ h)) thX2 (by decide) thX3 hW hP hF hS (hl.1.trans hml.symm) dX5_channel_21 dX5_channel_24 dX5_channel_25 dX5_channel_27 dX5_channel_30 ht9 (Nat.le_of_ble_eq_true rfl) (Nat.le_of_ble_eq_true rfl) (Nat.le_of_ble_eq_true rfl) (Nat.le_of_ble_eq_true rfl) hlocks hw (by decide) (by decide)
  unfold wp_X5_channel at hw
  refine lv_aload_n hx hb dX5_channel_0 rfl (lv_at hl 0 rfl) ?_
  refine lv_iload_n hx hb dX5_channel_1 rfl (lv_at hl 1 rfl) ?_
  refine lv_iload_n hx hb dX5_channel_2 rfl (lv_at hl 2 rfl) ?_
  refine q_callX (vx_runV (As := [.int x1, .int x2]) (rest := []) ⟨hx, hb, hml, hown, hts⟩ (c_X5_wayOf l hlt D cy b0 S x1 x2 _ _ hw) (cwV 2 hts gX5_channel_X5_wayOf rfl rfl rfl (by decide +kernel) ⟨(Nat.le_of_ble_eq_true rfl), (Nat.le_of_ble_eq_true rfl)⟩) (q_pV hW hP hF hS (k := 0) (ci := 5) (by decide) (cell_5 (kk_0)) rfl [.int x1, .int x2]) rfl rfl hl.1 rfl (lv_room (Nat.le_of_ble_eq_true rfl)) dX5_channel_3 ⟨(Nat.le_of_ble_eq_true rfl), (Nat.le_of_ble_eq_true rfl)⟩) hS (fun E3 ce q9 S3 t3 H locs hh hw hB hz hS hc9 hv9 hcl9 => ?_) (fun v3 S3 t3 H locs hh hp hB hz hk9 hS => ?_)
  · have hP : HP D cy b0 NALL S3 H := by rw [← hh]; exact hB.1
    exact q_pass ht9 hlocks hP hB.2 hS hw hc9 hv9 hcl9 (by decide) (by decide)
  · obtain ⟨r3, rfl, hk_r3, hw⟩ := hp
    have hP : HP D cy b0 NALL S3 H := by rw [← hh]; exact hB.1
    have hF := hB.2
    try dsimp only at hw
    refine W.eq (g2 := F0 m 6 ls [.ref (b0 + r3)]) rfl ?_
    refine lv_astore (lv' := [(4, .ref (b0 + r3)), (0, .ref (b0 + 0)), (1, .int x1), (2, .int x2), (3, .int x3)]) hx hb dX5_channel_6 hl (by decide) rfl (fun ls hl => ?_)
    refine lv_iload_n hx hb dX5_channel_8 rfl (lv_at hl 4 rfl) ?_
    refine lv_if_lt (x := x3) (tgt := 21) hx hb dX5_channel_9 (by decide) (fun c9 => ?_) (fun c9 => ?_)
    · rw [if_pos c9] at hw
      exact j21 S3  _ _ _ hw hP hF hS (lv_sub hl [] rfl)
    · rw [if_neg c9] at hw
      refine lv_iload_n hx hb dX5_channel_12 rfl (lv_at hl 4 rfl) ?_
      refine lv_aload hx hb dX5_channel_13 (lv_at hl 0 rfl) ?_
      refine gf_3_0 (k := r3) hx hb hts (by decide +kernel) hown hK hP (kd_N hk_r3 (by decide)) hk_r3 (hts (.fieldLink RX5 195 "Opticmesh$Way" "count" "I") (by decide +kernel)) dX5_channel_15 ?_
      refine lv_icmp_lt (x := x3) (y := (gI S3 r3 0)) (tgt := 31) hx hb dX5_channel_18 (by decide) (fun c18 => ?_) (fun c18 => ?_)
      · rw [if_pos c18] at hw
        refine lv_aload hx hb dX5_channel_31 (lv_at hl 0 rfl) ?_
        refine lv_iload_n hx hb dX5_channel_33 rfl (lv_at hl 4 rfl) ?_
        refine q_call (va_runV (As := [.int x3]) (rest := []) ⟨hx, hb, hml, hown, hts⟩ (c_X3_channelAt l D cy b0 S3 r3 x3 hk_r3 _ hw) (cwV 1 hts gX5_channel_X3_channelAt rfl rfl rfl (by decide +kernel) ⟨(Nat.le_of_ble_eq_true rfl), (Nat.le_of_ble_eq_true rfl)⟩) (q_pV hW hP hF hS (k := r3) (ci := 3) (kd_N hk_r3 (by decide)) (cell_3 hk_r3) rfl [.int x3]) rfl rfl hl.1 rfl (lv_room (Nat.le_of_ble_eq_true rfl)) dX5_channel_34 ⟨(Nat.le_of_ble_eq_true rfl), (Nat.le_of_ble_eq_true rfl)⟩) hS (fun v34 S34 t34 H locs hh hp hB hz hk9 hS => ?_)
        obtain ⟨r34, rfl, hw⟩ := hp
        have hP : HP D cy b0 NALL S34 H := by rw [← hh]; exact hB.1
        have hF := hB.2
        try dsimp only at hw
        refine W.eq (g2 := F0 m 37 ls [.int r34]) rfl ?_
        refine vx_ret ?_
        exact q_iret hx hb hr hP hF hS hw dX5_channel_37 hlocks
      · rw [if_neg c18] at hw
        exact j21 S3  _ _ _ hw hP hF hS (lv_sub hl [] rfl)
set_option maxHeartbeats 4000000 in
set_option maxRecDepth 100000 in
theorem c_X5_reroute (l : Launch) (hlt : l.stackTraces = false) (D : va_G) (cy : Nat → ClassId) (b0 : Nat) (S : St) (x1 : Int32)  (P : Int32 → St → Prop) (E : String → St → Prop) (hw : wp_X5_reroute S x1 P E) : vx_Met l yX5_reroute wsX5_reroute rm_X5_reroute (va_Pc [.ref (b0 + 0), .int x1] (Wd D cy b0 NALL S)) (QC (Pi P) (Wb D cy b0 NALL) b0) (XX E (Wb D cy b0 NALL) b0) 1 6 (AA b0) := by
  refine vx_ofW (cc := cX5_reroute) (maxL := 4) (ret := (some .int)) (by decide) rfl ?_
  intro p e s m args below meth c s₁ B hml ht9 hv
  obtain ⟨hargs, hW, hP, hF⟩ := hv
  have hx := B.exec
  have hb := B.bytes
  have hr := B.returns
  have hts := atoms_spec (ws := wsX5_reroute) B.pre
  have hown : s.vm.findClass RX5 = some m.cls := findClass_of_methodNamed B.named
  have hlocks := B.notSynchronized
  have hK := hW.1
  have hS : va_S (AA b0) s.heap s.heap [] := va_S.rf
  have hE : entryFrame m args 4 = F0 m 0 ((lg_sl [.ref (b0 + 0), .int x1] ++ List.replicate (4 - (lg_sl [.ref (b0 + 0), .int x1]).length) Slot.unset).toArray) [] := by rw [hargs]; exact lg_entry_eq m _ _
  rw [hE]
  have hl := lv_entry [.ref (b0 + 0), .int x1] (n := 4) (Nat.le_of_ble_eq_true rfl)
  generalize (lg_sl [.ref (b0 + 0), .int x1] ++ List.replicate (4 - (lg_sl [.ref (b0 + 0), .int x1]).length) Slot.unset).toArray = ls at hl ⊢
  have hl : lv_has ls 4 [(0, .ref (b0 + 0)), (1, .int x1)] := hl
  have j20 : ∀ (S : St) , ∀ (H : Heap) (locs : List Loc) (ls : Array Slot), wp_X5_reroute_20 x1 P E S → HP D cy b0 NALL S H → Fx S → va_S (AA b0) s.heap H locs → lv_has ls 4 [] → W p l e rm_X5_reroute s m args below meth c H locs 0 0 (vx_MQ below (QC (Pi P) (Wb D cy b0 NALL) b0) (XX E (Wb D cy b0 NALL) b0) args s 1 6 (AA b0)) (F0 m 20 ls []) := by
    intro S  H locs ls hw hP hF hS hl
    unfold wp_X5_reroute_20 at hw
    exact q_throw (cls := eS) (text := "the light is gone or protected") (Ts := wsX5_reroute) hx hb hlt hts hown (by decide +kernel) (hts (.classLink RX5 76 eS) (by decide +kernel)) (hts (.initialized eS) (by decide +kernel)) (by decide) (fun w h => List.mem_cons_of_mem _ (List.mem_append_left _ (List.mem_append_right _ h))) thS2 (by decide) thS3 hW hP hF hS (hl.1.trans hml.symm) dX5_reroute_20 dX5_reroute_23 dX5_reroute_24 dX5_reroute_26 dX5_reroute_29 ht9 (Nat.le_of_ble_eq_true rfl) (Nat.le_of_ble_eq_true rfl) (Nat.le_of_ble_eq_true rfl) (Nat.le_of_ble_eq_true rfl) hlocks hw (by decide) (by decide)
  unfold wp_X5_reroute at hw
  refine lv_aload_n hx hb dX5_reroute_0 rfl (lv_at hl 0 rfl) ?_
  refine lv_iload_n hx hb dX5_reroute_1 rfl (lv_at hl 1 rfl) ?_
  refine q_callX (vx_runV (As := [.int x1]) (rest := []) ⟨hx, hb, hml, hown, hts⟩ (c_X5_existingLight l hlt D cy b0 S x1 _ _ hw) (cwV 1 hts gX5_reroute_X5_existingLight rfl rfl rfl (by decide +kernel) ⟨(Nat.le_of_ble_eq_true rfl), (Nat.le_of_ble_eq_true rfl)⟩) (q_pV hW hP hF hS (k := 0) (ci := 5) (by decide) (cell_5 (kk_0)) rfl [.int x1]) rfl rfl hl.1 rfl (lv_room (Nat.le_of_ble_eq_true rfl)) dX5_reroute_2 ⟨(Nat.le_of_ble_eq_true rfl), (Nat.le_of_ble_eq_true rfl)⟩) hS (fun E2 ce q9 S2 t2 H locs hh hw hB hz hS hc9 hv9 hcl9 => ?_) (fun v2 S2 t2 H locs hh hp hB hz hk9 hS => ?_)
  · have hP : HP D cy b0 NALL S2 H := by rw [← hh]; exact hB.1
    exact q_pass ht9 hlocks hP hB.2 hS hw hc9 hv9 hcl9 (by decide) (by decide)
  · obtain ⟨r2, rfl, hk_r2, hw⟩ := hp
    have hP : HP D cy b0 NALL S2 H := by rw [← hh]; exact hB.1
    have hF := hB.2
    try dsimp only at hw
    refine W.eq (g2 := F0 m 5 ls [.ref (b0 + r2)]) rfl ?_
    refine lv_astore_n (lv' := [(2, .ref (b0 + r2)), (0, .ref (b0 + 0)), (1, .int x1)]) hx hb dX5_reroute_5 rfl hl (by decide) rfl (fun ls hl => ?_)
    refine lv_aload_n hx hb dX5_reroute_6 rfl (lv_at hl 0 rfl) ?_
    refine q_call (va_runV (As := []) (rest := []) ⟨hx, hb, hml, hown, hts⟩ (c_X1_isGone l D cy b0 S2 r2 hk_r2 _ hw) (cwV 0 hts gX5_reroute_X1_isGone rfl rfl rfl (by decide +kernel) ⟨(Nat.le_of_ble_eq_true rfl), (Nat.le_of_ble_eq_true rfl)⟩) (q_pV hW hP hF hS (k := r2) (ci := 1) (kd_N hk_r2 (by decide)) (cell_1 hk_r2) rfl []) rfl rfl hl.1 rfl (lv_room (Nat.le_of_ble_eq_true rfl)) dX5_reroute_7 ⟨(Nat.le_of_ble_eq_true rfl), (Nat.le_of_ble_eq_true rfl)⟩) hS (fun v7 S7 t7 H locs hh hp hB hz hk9 hS => ?_)
    obtain ⟨r7, rfl, hw⟩ := hp
    have hP : HP D cy b0 NALL S7 H := by rw [← hh]; exact hB.1
    have hF := hB.2
    try dsimp only at hw
    refine W.eq (g2 := F0 m 10 ls [.int (b2i r7)]) rfl ?_
    refine lv_if_ne (x := b2i r7) (tgt := 20) hx hb dX5_reroute_10 (by decide) (fun c10 => ?_) (fun c10 => ?_)
    · have c10 := b2i_n c10
      rw [if_pos c10] at hw
      exact j20 S7  _ _ _ hw hP hF hS (lv_sub hl [] rfl)
    · have c10 := b2i_z c10
      rw [if_neg c10] at hw
      refine lv_aload_n hx hb dX5_reroute_13 rfl (lv_at hl 0 rfl) ?_
      refine gf_1_5 (k := r2) hx hb hts (by decide +kernel) hown hK hP (kd_N hk_r2 (by decide)) hk_r2 (hts (.fieldLink RX5 206 "Opticmesh$Light" "isProtected" "Z") (by decide +kernel)) dX5_reroute_14 ?_
      refine lv_if_eq (x := (gI S7 r2 5)) (tgt := 30) hx hb dX5_reroute_17 (by decide) (fun c17 => ?_) (fun c17 => ?_)
      · rw [if_pos c17] at hw
        refine lv_aload_n hx hb dX5_reroute_30 rfl (lv_at hl 1 rfl) ?_
        refine lv_aload_n hx hb dX5_reroute_31 rfl (lv_at hl 0 rfl) ?_
        refine q_call (va_runV (As := [.ref (b0 + r2)]) (rest := []) ⟨hx, hb, hml, hown, hts⟩ (c_X5_openChannels_s l D cy b0 S7 r2 hk_r2 _ hw) (cwV 1 hts gX5_reroute_X5_openChannels rfl rfl rfl (by decide +kernel) ⟨(Nat.le_of_ble_eq_true rfl), (Nat.le_of_ble_eq_true rfl)⟩) (q_pV hW hP hF hS (k := 0) (ci := 5) (by decide) (cell_5 (kk_0)) rfl [.ref (b0 + r2)]) rfl rfl hl.1 rfl (lv_room (Nat.le_of_ble_eq_true rfl)) dX5_reroute_32 ⟨(Nat.le_of_ble_eq_true rfl), (Nat.le_of_ble_eq_true rfl)⟩) hS (fun v32 S32 t32 H locs hh hp hB hz hk9 hS => ?_)
        obtain ⟨rfl, hw⟩ := hp
        have hP : HP D cy b0 NALL S32 H := by rw [← hh]; exact hB.1
        have hF := hB.2
        try dsimp only at hw
        refine W.eq (g2 := F0 m 35 ls []) rfl ?_
        refine lv_aload_n hx hb dX5_reroute_35 rfl (lv_at hl 1 rfl) ?_
        refine gf_5_1 (k := 0) hx hb hts (by decide +kernel) hown hK hP (by decide) (kk_0) (q := 5) (hF.1 0 1 5 ff_0_1) (hts (.fieldLink RX5 21 "Opticmesh" "finder" "LOpticmesh$WayFinder;") (by decide +kernel)) dX5_reroute_36 ?_
        refine lv_aload_n hx hb dX5_reroute_39 rfl (lv_at hl 0 rfl) ?_
        refine gf_1_3 (k := r2) hx hb hts (by decide +kernel) hown hK hP (kd_N hk_r2 (by decide)) hk_r2 (hts (.fieldLink RX5 216 "Opticmesh$Light" "from" "I") (by decide +kernel)) dX5_reroute_40 ?_
        refine lv_aload_n hx hb dX5_reroute_43 rfl (lv_at hl 0 rfl) ?_
        refine gf_1_4 (k := r2) hx hb hts (by decide +kernel) hown hK hP (kd_N hk_r2 (by decide)) hk_r2 (hts (.fieldLink RX5 219 "Opticmesh$Light" "to" "I") (by decide +kernel)) dX5_reroute_44 ?_
        refine q_call (va_runV (As := [.int (gI S32 r2 3), .int (gI S32 r2 4)]) (rest := []) ⟨hx, hb, hml, hown, hts⟩ (c_X4_findFirst l D cy b0 S32 (gI S32 r2 3) (gI S32 r2 4) _ hw) (cwV 2 hts gX5_reroute_X4_findFirst rfl rfl rfl (by decide +kernel) ⟨(Nat.le_of_ble_eq_true rfl), (Nat.le_of_ble_eq_true rfl)⟩) (q_pV hW hP hF hS (k := 5) (ci := 4) (by decide) (cell_4 (kk_5)) rfl [.int (gI S32 r2 3), .int (gI S32 r2 4)]) rfl rfl hl.1 rfl (lv_room (Nat.le_of_ble_eq_true rfl)) dX5_reroute_47 ⟨(Nat.le_of_ble_eq_true rfl), (Nat.le_of_ble_eq_true rfl)⟩) hS (fun v47 S47 t47 H locs hh hp hB hz hk9 hS => ?_)
        obtain ⟨rfl, hw⟩ := hp
        have hP : HP D cy b0 NALL S47 H := by rw [← hh]; exact hB.1
        have hF := hB.2
        try dsimp only at hw
        refine W.eq (g2 := F0 m 50 ls []) rfl ?_
        refine lv_aload_n hx hb dX5_reroute_50 rfl (lv_at hl 1 rfl) ?_
        refine gf_5_1 (k := 0) hx hb hts (by decide +kernel) hown hK hP (by decide) (kk_0) (q := 5) (hF.1 0 1 5 ff_0_1) (hts (.fieldLink RX5 21 "Opticmesh" "finder" "LOpticmesh$WayFinder;") (by decide +kernel)) dX5_reroute_51 ?_
        rcases hq54 : gR S47 5 0 with _ | q54
        · have hw := hw.1 hq54
          refine gn_4_0 (k := 5) hx hb hts (by decide +kernel) hown hK hP (by decide) (kk_5) hq54 (hts (.fieldLink RX5 160 "Opticmesh$WayFinder" "first" "LOpticmesh$Way;") (by decide +kernel)) dX5_reroute_54 ?_
          refine lv_astore_nN (lv' := [(3, .null), (2, .ref (b0 + r2)), (0, .ref (b0 + 0)), (1, .int x1)]) hx hb dX5_reroute_57 rfl hl (by decide) rfl (fun ls hl => ?_)
          refine lv_aload_nN hx hb dX5_reroute_58 rfl (lv_at hl 0 rfl) ?_
          refine lv_ifnonnullN hx hb dX5_reroute_59 ?_
          exact q_throw (cls := eS) (text := "there is no such way") (Ts := wsX5_reroute) hx hb hlt hts hown (by decide +kernel) (hts (.classLink RX5 76 eS) (by decide +kernel)) (hts (.initialized eS) (by decide +kernel)) (by decide) (fun w h => List.mem_cons_of_mem _ (List.mem_append_left _ (List.mem_append_right _ h))) thS2 (by decide) thS3 hW hP hF hS (hl.1.trans hml.symm) dX5_reroute_62 dX5_reroute_65 dX5_reroute_66 dX5_reroute_68 dX5_reroute_71 ht9 (Nat.le_of_ble_eq_true rfl) (Nat.le_of_ble_eq_true rfl) (Nat.le_of_ble_eq_true rfl) (Nat.le_of_ble_eq_true rfl) hlocks hw (by decide) (by decide)
        · have hw := hw.2 q54 hq54
          have hk_q54 : kd q54 = 3 := (hF.2.1 q54 hq54)
          refine gf_4_0 (k := 5) hx hb hts (by decide +kernel) hown hK hP (by decide) (kk_5) (q := q54) hq54 (hts (.fieldLink RX5 160 "Opticmesh$WayFinder" "first" "LOpticmesh$Way;") (by decide +kernel)) dX5_reroute_54 ?_
          refine lv_astore_n (lv' := [(3, .ref (b0 + q54)), (2, .ref (b0 + r2)), (0, .ref (b0 + 0)), (1, .int x1)]) hx hb dX5_reroute_57 rfl hl (by decide) rfl (fun ls hl => ?_)
          refine lv_aload_n hx hb dX5_reroute_58 rfl (lv_at hl 0 rfl) ?_
          refine lv_ifnonnull (tgt := 72) hx hb dX5_reroute_59 (by decide) ?_
          refine lv_aload_n hx hb dX5_reroute_72 rfl (lv_at hl 1 rfl) ?_
          refine gf_1_1 (k := r2) hx hb hts (by decide +kernel) hown hK hP (kd_N hk_r2 (by decide)) hk_r2 (q := r2 + 1) (hF.1 r2 1 (r2 + 1) (fx_L1 hk_r2)) (hts (.fieldLink RX5 227 "Opticmesh$Light" "first" "LOpticmesh$Way;") (by decide +kernel)) dX5_reroute_73 ?_
          refine lv_aload_n hx hb dX5_reroute_76 rfl (lv_at hl 0 rfl) ?_
          refine q_call (va_runV (As := [.ref (b0 + q54)]) (rest := []) ⟨hx, hb, hml, hown, hts⟩ (c_X3_become l D cy b0 S47 (r2 + 1) q54 (kd_L1 hk_r2) hk_q54 _ hw) (cwV 1 hts gX5_reroute_X3_become rfl rfl rfl (by decide +kernel) ⟨(Nat.le_of_ble_eq_true rfl), (Nat.le_of_ble_eq_true rfl)⟩) (q_pV hW hP hF hS (k := (r2 + 1)) (ci := 3) (kd_N (kd_L1 hk_r2) (by decide)) (cell_3 (kd_L1 hk_r2)) rfl [.ref (b0 + q54)]) rfl rfl hl.1 rfl (lv_room (Nat.le_of_ble_eq_true rfl)) dX5_reroute_77 ⟨(Nat.le_of_ble_eq_true rfl), (Nat.le_of_ble_eq_true rfl)⟩) hS (fun v77 S77 t77 H locs hh hp hB hz hk9 hS => ?_)
          obtain ⟨rfl, hw⟩ := hp
          have hP : HP D cy b0 NALL S77 H := by rw [← hh]; exact hB.1
          have hF := hB.2
          try dsimp only at hw
          refine W.eq (g2 := F0 m 80 ls []) rfl ?_
          refine lv_aload_n hx hb dX5_reroute_80 rfl (lv_at hl 0 rfl) ?_
          refine gf_3_1 (k := q54) hx hb hts (by decide +kernel) hown hK hP (kd_N hk_q54 (by decide)) hk_q54 (hts (.fieldLink RX5 169 "Opticmesh$Way" "length" "I") (by decide +kernel)) dX5_reroute_81 ?_
          refine vx_ret ?_
          exact q_iret hx hb hr hP hF hS hw dX5_reroute_84 hlocks
      · rw [if_neg c17] at hw
        exact j20 S7  _ _ _ hw hP hF hS (lv_sub hl [] rfl)
set_option maxHeartbeats 4000000 in
set_option maxRecDepth 100000 in
theorem c_X5_canMerge (l : Launch) (D : va_G) (cy : Nat → ClassId) (b0 : Nat) (S : St) (x1 : Nat) (x2 : Nat) (hk1 : kd x1 = 1) (hk2 : kd x2 = 1) (P : Bool → St → Prop) (hw : wp_X5_canMerge S x1 x2 P) : Met l yX5_canMerge wsX5_canMerge rm_X5_canMerge (va_Pc [.ref (b0 + 0), .ref (b0 + x1), .ref (b0 + x2)] (Wd D cy b0 NALL S)) (QC (Pz P) (Wb D cy b0 NALL) b0) 0 0 (AA b0) := by
  refine Met.ofW (cc := cX5_canMerge) (maxL := 3) (ret := (some .boolean)) (by decide) rfl ?_
  intro p e s m args below meth c s₁ B hml hv
  obtain ⟨hargs, hW, hP, hF⟩ := hv
  have hx := B.exec
  have hb := B.bytes
  have hr := B.returns
  have hts := atoms_spec (ws := wsX5_canMerge) B.pre
  have hown : s.vm.findClass RX5 = some m.cls := findClass_of_methodNamed B.named
  have hlocks := B.notSynchronized
  have hK := hW.1
  have hS : va_S (AA b0) s.heap s.heap [] := va_S.rf
  have hE : entryFrame m args 3 = F0 m 0 ((lg_sl [.ref (b0 + 0), .ref (b0 + x1), .ref (b0 + x2)] ++ List.replicate (3 - (lg_sl [.ref (b0 + 0), .ref (b0 + x1), .ref (b0 + x2)]).length) Slot.unset).toArray) [] := by rw [hargs]; exact lg_entry_eq m _ _
  rw [hE]
  have hl := lv_entry [.ref (b0 + 0), .ref (b0 + x1), .ref (b0 + x2)] (n := 3) (Nat.le_of_ble_eq_true rfl)
  generalize (lg_sl [.ref (b0 + 0), .ref (b0 + x1), .ref (b0 + x2)] ++ List.replicate (3 - (lg_sl [.ref (b0 + 0), .ref (b0 + x1), .ref (b0 + x2)]).length) Slot.unset).toArray = ls at hl ⊢
  have hl : lv_has ls 3 [(0, .ref (b0 + 0)), (1, .ref (b0 + x1)), (2, .ref (b0 + x2))] := hl
  unfold wp_X5_canMerge at hw
  refine lv_aload_n hx hb dX5_canMerge_0 rfl (lv_at hl 1 rfl) ?_
  refine lv_aload_n hx hb dX5_canMerge_1 rfl (lv_at hl 0 rfl) ?_
  refine gf_5_0 (k := 0) hx hb hts (by decide +kernel) hown hK hP (by decide) (kk_0) (q := 1) (hF.1 0 0 1 ff_0_0) (hts (.fieldLink RX5 12 "Opticmesh" "network" "LOpticmesh$Network;") (by decide +kernel)) dX5_canMerge_2 ?_
  refine gf_2_4 (k := 1) hx hb hts (by decide +kernel) hown hK hP (by decide) (kk_1) (hts (.fieldLink RX5 102 "Opticmesh$Network" "cutFibres" "I") (by decide +kernel)) dX5_canMerge_5 ?_
  refine q_call (va_runV (As := [.int (gI S 1 4)]) (rest := []) ⟨hx, hb, hml, hown, hts⟩ (c_X1_isUp l D cy b0 S x1 (gI S 1 4) hk1 _ hw) (cwV 1 hts gX5_canMerge_X1_isUp rfl rfl rfl (by decide +kernel) ⟨(Nat.le_of_ble_eq_true rfl), (Nat.le_of_ble_eq_true rfl)⟩) (q_pV hW hP hF hS (k := x1) (ci := 1) (kd_N hk1 (by decide)) (cell_1 hk1) rfl [.int (gI S 1 4)]) rfl rfl hl.1 rfl (lv_room (Nat.le_of_ble_eq_true rfl)) dX5_canMerge_8 ⟨(Nat.le_of_ble_eq_true rfl), (Nat.le_of_ble_eq_true rfl)⟩) hS (fun v8 S8 t8 H locs hh hp hB hz hk9 hS => ?_)
  obtain ⟨r8, rfl, hw⟩ := hp
  have hP : HP D cy b0 NALL S8 H := by rw [← hh]; exact hB.1
  have hF := hB.2
  try dsimp only at hw
  refine W.eq (g2 := F0 m 11 ls [.int (b2i r8)]) rfl ?_
  refine lv_if_eq (x := b2i r8) (tgt := 75) hx hb dX5_canMerge_11 (by decide) (fun c11 => ?_) (fun c11 => ?_)
  · have c11 := b2i_z c11
    rw [if_neg c11] at hw
    refine lv_iconst (v := 0) hx hb dX5_canMerge_75 (by decide) ?_
    exact q_zret (v := false) hx hb hr hP hF hS hw dX5_canMerge_76 hlocks
  · have c11 := b2i_n c11
    rw [if_pos c11] at hw
    refine lv_aload_n hx hb dX5_canMerge_14 rfl (lv_at hl 2 rfl) ?_
    refine lv_aload_n hx hb dX5_canMerge_15 rfl (lv_at hl 0 rfl) ?_
    refine gf_5_0 (k := 0) hx hb hts (by decide +kernel) hown hK hP (by decide) (kk_0) (q := 1) (hF.1 0 0 1 ff_0_0) (hts (.fieldLink RX5 12 "Opticmesh" "network" "LOpticmesh$Network;") (by decide +kernel)) dX5_canMerge_16 ?_
    refine gf_2_4 (k := 1) hx hb hts (by decide +kernel) hown hK hP (by decide) (kk_1) (hts (.fieldLink RX5 102 "Opticmesh$Network" "cutFibres" "I") (by decide +kernel)) dX5_canMerge_19 ?_
    refine q_call (va_runV (As := [.int (gI S8 1 4)]) (rest := []) ⟨hx, hb, hml, hown, hts⟩ (c_X1_isUp l D cy b0 S8 x2 (gI S8 1 4) hk2 _ hw) (cwV 1 hts gX5_canMerge_X1_isUp rfl rfl rfl (by decide +kernel) ⟨(Nat.le_of_ble_eq_true rfl), (Nat.le_of_ble_eq_true rfl)⟩) (q_pV hW hP hF hS (k := x2) (ci := 1) (kd_N hk2 (by decide)) (cell_1 hk2) rfl [.int (gI S8 1 4)]) rfl rfl hl.1 rfl (lv_room (Nat.le_of_ble_eq_true rfl)) dX5_canMerge_22 ⟨(Nat.le_of_ble_eq_true rfl), (Nat.le_of_ble_eq_true rfl)⟩) hS (fun v22 S22 t22 H locs hh hp hB hz hk9 hS => ?_)
    obtain ⟨r22, rfl, hw⟩ := hp
    have hP : HP D cy b0 NALL S22 H := by rw [← hh]; exact hB.1
    have hF := hB.2
    try dsimp only at hw
    refine W.eq (g2 := F0 m 25 ls [.int (b2i r22)]) rfl ?_
    refine lv_if_eq (x := b2i r22) (tgt := 75) hx hb dX5_canMerge_25 (by decide) (fun c25 => ?_) (fun c25 => ?_)
    · have c25 := b2i_z c25
      rw [if_neg c25] at hw
      refine lv_iconst (v := 0) hx hb dX5_canMerge_75 (by decide) ?_
      exact q_zret (v := false) hx hb hr hP hF hS hw dX5_canMerge_76 hlocks
    · have c25 := b2i_n c25
      rw [if_pos c25] at hw
      refine lv_aload_n hx hb dX5_canMerge_28 rfl (lv_at hl 1 rfl) ?_
      refine gf_1_5 (k := x1) hx hb hts (by decide +kernel) hown hK hP (kd_N hk1 (by decide)) hk1 (hts (.fieldLink RX5 206 "Opticmesh$Light" "isProtected" "Z") (by decide +kernel)) dX5_canMerge_29 ?_
      refine lv_if_ne (x := (gI S22 x1 5)) (tgt := 75) hx hb dX5_canMerge_32 (by decide) (fun c32 => ?_) (fun c32 => ?_)
      · rw [if_neg c32] at hw
        refine lv_iconst (v := 0) hx hb dX5_canMerge_75 (by decide) ?_
        exact q_zret (v := false) hx hb hr hP hF hS hw dX5_canMerge_76 hlocks
      · rw [if_pos c32] at hw
        refine lv_aload_n hx hb dX5_canMerge_35 rfl (lv_at hl 2 rfl) ?_
        refine gf_1_5 (k := x2) hx hb hts (by decide +kernel) hown hK hP (kd_N hk2 (by decide)) hk2 (hts (.fieldLink RX5 206 "Opticmesh$Light" "isProtected" "Z") (by decide +kernel)) dX5_canMerge_36 ?_
        refine lv_if_ne (x := (gI S22 x2 5)) (tgt := 75) hx hb dX5_canMerge_39 (by decide) (fun c39 => ?_) (fun c39 => ?_)
        · rw [if_neg c39] at hw
          refine lv_iconst (v := 0) hx hb dX5_canMerge_75 (by decide) ?_
          exact q_zret (v := false) hx hb hr hP hF hS hw dX5_canMerge_76 hlocks
        · rw [if_pos c39] at hw
          refine lv_aload_n hx hb dX5_canMerge_42 rfl (lv_at hl 1 rfl) ?_
          refine lv_aload_n hx hb dX5_canMerge_43 rfl (lv_at hl 2 rfl) ?_
          refine gf_1_3 (k := x2) hx hb hts (by decide +kernel) hown hK hP (kd_N hk2 (by decide)) hk2 (hts (.fieldLink RX5 216 "Opticmesh$Light" "from" "I") (by decide +kernel)) dX5_canMerge_44 ?_
          refine lv_aload_n hx hb dX5_canMerge_47 rfl (lv_at hl 2 rfl) ?_
          refine gf_1_4 (k := x2) hx hb hts (by decide +kernel) hown hK hP (kd_N hk2 (by decide)) hk2 (hts (.fieldLink RX5 219 "Opticmesh$Light" "to" "I") (by decide +kernel)) dX5_canMerge_48 ?_
          refine q_call (va_runV (As := [.int (gI S22 x2 3), .int (gI S22 x2 4)]) (rest := []) ⟨hx, hb, hml, hown, hts⟩ (c_X1_joins l D cy b0 S22 x1 (gI S22 x2 3) (gI S22 x2 4) hk1 _ hw) (cwV 2 hts gX5_canMerge_X1_joins rfl rfl rfl (by decide +kernel) ⟨(Nat.le_of_ble_eq_true rfl), (Nat.le_of_ble_eq_true rfl)⟩) (q_pV hW hP hF hS (k := x1) (ci := 1) (kd_N hk1 (by decide)) (cell_1 hk1) rfl [.int (gI S22 x2 3), .int (gI S22 x2 4)]) rfl rfl hl.1 rfl (lv_room (Nat.le_of_ble_eq_true rfl)) dX5_canMerge_51 ⟨(Nat.le_of_ble_eq_true rfl), (Nat.le_of_ble_eq_true rfl)⟩) hS (fun v51 S51 t51 H locs hh hp hB hz hk9 hS => ?_)
          obtain ⟨r51, rfl, hw⟩ := hp
          have hP : HP D cy b0 NALL S51 H := by rw [← hh]; exact hB.1
          have hF := hB.2
          try dsimp only at hw
          refine W.eq (g2 := F0 m 54 ls [.int (b2i r51)]) rfl ?_
          refine lv_if_eq (x := b2i r51) (tgt := 75) hx hb dX5_canMerge_54 (by decide) (fun c54 => ?_) (fun c54 => ?_)
          · have c54 := b2i_z c54
            rw [if_neg c54] at hw
            refine lv_iconst (v := 0) hx hb dX5_canMerge_75 (by decide) ?_
            exact q_zret (v := false) hx hb hr hP hF hS hw dX5_canMerge_76 hlocks
          · have c54 := b2i_n c54
            rw [if_pos c54] at hw
            refine lv_aload_n hx hb dX5_canMerge_57 rfl (lv_at hl 1 rfl) ?_
            refine gf_1_6 (k := x1) hx hb hts (by decide +kernel) hown hK hP (kd_N hk1 (by decide)) hk1 (hts (.fieldLink RX5 155 "Opticmesh$Light" "units" "I") (by decide +kernel)) dX5_canMerge_58 ?_
            refine lv_aload_n hx hb dX5_canMerge_61 rfl (lv_at hl 2 rfl) ?_
            refine gf_1_6 (k := x2) hx hb hts (by decide +kernel) hown hK hP (kd_N hk2 (by decide)) hk2 (hts (.fieldLink RX5 155 "Opticmesh$Light" "units" "I") (by decide +kernel)) dX5_canMerge_62 ?_
            refine lv_iadd hx hb dX5_canMerge_65 ?_
            refine lv_bipush (v := 10) hx hb dX5_canMerge_66 (by decide) ?_
            refine lv_icmp_gt (x := ((gI S51 x1 6) + (gI S51 x2 6))) (y := 10) (tgt := 75) hx hb dX5_canMerge_68 (by decide) (fun c68 => ?_) (fun c68 => ?_)
            · rw [if_pos c68] at hw
              refine lv_iconst (v := 0) hx hb dX5_canMerge_75 (by decide) ?_
              exact q_zret (v := false) hx hb hr hP hF hS hw dX5_canMerge_76 hlocks
            · rw [if_neg c68] at hw
              refine lv_iconst (v := 1) hx hb dX5_canMerge_71 (by decide) ?_
              refine lv_goto (tgt := 76) hx hb dX5_canMerge_72 (by decide) ?_
              exact q_zret (v := true) hx hb hr hP hF hS hw dX5_canMerge_76 hlocks
set_option maxHeartbeats 4000000 in
set_option maxRecDepth 100000 in
theorem c_X5_handOver (l : Launch) (D : va_G) (cy : Nat → ClassId) (b0 : Nat) (S : St) (x1 : Nat) (x2 : Nat) (hk1 : kd x1 = 1) (hk2 : kd x2 = 1) (P : St → Prop) (hw : wp_X5_handOver S x1 x2 P) : Met l yX5_handOver wsX5_handOver rm_X5_handOver (va_Pc [.ref (b0 + 0), .ref (b0 + x1), .ref (b0 + x2)] (Wd D cy b0 NALL S)) (QC (Pv P) (Wb D cy b0 NALL) b0) 0 0 (AA b0) := by
  refine Met.ofW (cc := cX5_handOver) (maxL := 4) (ret := none) (by decide) rfl ?_
  intro p e s m args below meth c s₁ B hml hv
  obtain ⟨hargs, hW, hP, hF⟩ := hv
  have hx := B.exec
  have hb := B.bytes
  have hr := B.returns
  have hts := atoms_spec (ws := wsX5_handOver) B.pre
  have hown : s.vm.findClass RX5 = some m.cls := findClass_of_methodNamed B.named
  have hlocks := B.notSynchronized
  have hK := hW.1
  have hS : va_S (AA b0) s.heap s.heap [] := va_S.rf
  have hE : entryFrame m args 4 = F0 m 0 ((lg_sl [.ref (b0 + 0), .ref (b0 + x1), .ref (b0 + x2)] ++ List.replicate (4 - (lg_sl [.ref (b0 + 0), .ref (b0 + x1), .ref (b0 + x2)]).length) Slot.unset).toArray) [] := by rw [hargs]; exact lg_entry_eq m _ _
  rw [hE]
  have hl := lv_entry [.ref (b0 + 0), .ref (b0 + x1), .ref (b0 + x2)] (n := 4) (Nat.le_of_ble_eq_true rfl)
  generalize (lg_sl [.ref (b0 + 0), .ref (b0 + x1), .ref (b0 + x2)] ++ List.replicate (4 - (lg_sl [.ref (b0 + 0), .ref (b0 + x1), .ref (b0 + x2)]).length) Slot.unset).toArray = ls at hl ⊢
  have hl : lv_has ls 4 [(0, .ref (b0 + 0)), (1, .ref (b0 + x1)), (2, .ref (b0 + x2))] := hl
  have j33 : ∀ (S : St) , ∀ (H : Heap) (locs : List Loc) (ls : Array Slot), wp_X5_handOver_33 x1 x2 P S → HP D cy b0 NALL S H → Fx S → va_S (AA b0) s.heap H locs → lv_has ls 4 [(1, .ref (b0 + x1)), (2, .ref (b0 + x2))] → W p l e rm_X5_handOver s m args below meth c H locs 0 0 (MQ below (QC (Pv P) (Wb D cy b0 NALL) b0) args s 0 0 (AA b0)) (F0 m 33 ls []) := by
    intro S  H locs ls hw hP hF hS hl
    unfold wp_X5_handOver_33 at hw
    refine lv_aload_n hx hb dX5_handOver_33 rfl (lv_at hl 1 rfl) ?_
    refine lv_dup hx hb dX5_handOver_34 rfl ?_
    refine gf_1_6 (k := x2) hx hb hts (by decide +kernel) hown hK hP (kd_N hk2 (by decide)) hk2 (hts (.fieldLink RX5 155 "Opticmesh$Light" "units" "I") (by decide +kernel)) dX5_handOver_35 ?_
    refine lv_aload_n hx hb dX5_handOver_38 rfl (lv_at hl 0 rfl) ?_
    refine gf_1_6 (k := x1) hx hb hts (by decide +kernel) hown hK hP (kd_N hk1 (by decide)) hk1 (hts (.fieldLink RX5 155 "Opticmesh$Light" "units" "I") (by decide +kernel)) dX5_handOver_39 ?_
    refine lv_iadd hx hb dX5_handOver_42 ?_
    refine pf_1_6 (k := x2) (x := ((gI S x2 6) + (gI S x1 6))) hx hb hts (by decide +kernel) hown hK hP hS (kd_N hk2 (by decide)) hk2 (hts (.fieldLink RX5 155 "Opticmesh$Light" "units" "I") (by decide +kernel)) dX5_handOver_43 (fun H locs hz hP hS => ?_)
    have hF : Fx (sI S x2 6 ((gI S x2 6) + (gI S x1 6))) := Fx.sI hF _ _ _
    generalize eS43 : sI S x2 6 ((gI S x2 6) + (gI S x1 6)) = S43 at hP hF
    have hw := hw S43 eS43.symm
    refine lv_aload_n hx hb dX5_handOver_46 rfl (lv_at hl 0 rfl) ?_
    refine lv_iconst (v := 0) hx hb dX5_handOver_47 (by decide) ?_
    refine pf_1_6 (k := x1) (x := 0) hx hb hts (by decide +kernel) hown hK hP hS (kd_N hk1 (by decide)) hk1 (hts (.fieldLink RX5 155 "Opticmesh$Light" "units" "I") (by decide +kernel)) dX5_handOver_48 (fun H locs hz hP hS => ?_)
    have hF : Fx (sI S43 x1 6 0) := Fx.sI hF _ _ _
    generalize eS48 : sI S43 x1 6 0 = S48 at hP hF
    have hw := hw S48 eS48.symm
    exact q_vret hx hb hr hP hF hS hw dX5_handOver_51 hlocks
  have j2 : ∀ (n2 : Nat), ∀ (S : St) (a3 : Int32), ∀ (H : Heap) (locs : List Loc) (ls : Array Slot), wp_X5_handOver_2 x1 x2 P n2 S a3 → HP D cy b0 NALL S H → Fx S → va_S (AA b0) s.heap H locs → lv_has ls 4 [(0, .ref (b0 + 0)), (1, .ref (b0 + x1)), (2, .ref (b0 + x2)), (3, .int a3)] → W p l e rm_X5_handOver s m args below meth c H locs 0 0 (MQ below (QC (Pv P) (Wb D cy b0 NALL) b0) args s 0 0 (AA b0)) (F0 m 2 ls []) := by
    intro n2
    induction n2 with
    | zero => intro S a3  H locs ls hw _ _ _ _; exact False.elim hw
    | succ n2 ih2 =>
      have j27 : ∀ (S : St) (a3 : Int32), ∀ (H : Heap) (locs : List Loc) (ls : Array Slot), wp_X5_handOver_27 x1 x2 P (fun S a3 => wp_X5_handOver_2 x1 x2 P n2 S a3) S a3 → HP D cy b0 NALL S H → Fx S → va_S (AA b0) s.heap H locs → lv_has ls 4 [(0, .ref (b0 + 0)), (1, .ref (b0 + x1)), (2, .ref (b0 + x2)), (3, .int a3)] → W p l e rm_X5_handOver s m args below meth c H locs 0 0 (MQ below (QC (Pv P) (Wb D cy b0 NALL) b0) args s 0 0 (AA b0)) (F0 m 27 ls []) := by
        intro S a3  H locs ls hw hP hF hS hl
        unfold wp_X5_handOver_27 at hw
        obtain ⟨y27, e27⟩ : ∃ z : Int32, z = a3 + 1 := ⟨_, rfl⟩
        have hw := hw y27 e27
        refine lv_iinc (v := y27) (lv' := [(3, .int y27), (0, .ref (b0 + 0)), (1, .ref (b0 + x1)), (2, .ref (b0 + x2))]) hx hb dX5_handOver_27 hl (k := 3) rfl (by rw [e27]; rfl) (by decide) rfl (fun ls hl => ?_)
        refine lv_goto (tgt := 2) hx hb dX5_handOver_30 (by decide) ?_
        exact ih2 S y27  _ _ _ hw hP hF hS (lv_sub hl [1, 2, 3, 0] rfl)
      intro S a3  H locs ls hw hP hF hS hl
      rw [wp_X5_handOver_2] at hw
      refine lv_iload_n hx hb dX5_handOver_2 rfl (lv_at hl 3 rfl) ?_
      refine lv_aload_n hx hb dX5_handOver_3 rfl (lv_at hl 0 rfl) ?_
      refine gf_5_7 (k := 0) hx hb hts (by decide +kernel) hown hK hP (by decide) (kk_0) (hts (.fieldLink RX5 63 "Opticmesh" "requestCount" "I") (by decide +kernel)) dX5_handOver_4 ?_
      refine lv_icmp_ge (x := a3) (y := (gI S 0 7)) (tgt := 33) hx hb dX5_handOver_7 (by decide) (fun c7 => ?_) (fun c7 => ?_)
      · rw [if_pos c7] at hw
        exact j33 S  _ _ _ hw hP hF hS (lv_sub hl [1, 2] rfl)
      · rw [if_neg c7] at hw
        refine lv_aload_n hx hb dX5_handOver_10 rfl (lv_at hl 0 rfl) ?_
        refine gf_5_5 (k := 0) hx hb hts (by decide +kernel) hown hK hP (by decide) (kk_0) (q := 365) (hF.1 0 5 365 ff_0_5) (hts (.fieldLink RX5 41 "Opticmesh" "carriers" "[LOpticmesh$Light;") (by decide +kernel)) dX5_handOver_11 ?_
        refine lv_iload_n hx hb dX5_handOver_14 rfl (lv_at hl 3 rfl) ?_
        obtain ⟨h15, hw⟩ := hw
        rcases hq15 : gR S 365 (a3.toNatClampNeg) with _ | q15
        · have hw := hw.1 hq15
          refine q_aald9 (k := 365) (n := 60) (i := a3) hx hb hK hP (by decide) (kk_365) (ll_365) h15 dX5_handOver_15 ?_
          rw [rf_none hq15]
          refine lv_aload_n hx hb dX5_handOver_16 rfl (lv_at hl 1 rfl) ?_
          refine q_acmp_ne (rx := (none : Option Nat)) (ry := (some x1)) (tgt := 27) hx hb dX5_handOver_17 (by decide) (fun c17 => ?_) (fun c17 => ?_)
          · rw [if_neg c17] at hw
            exact j27 S a3  _ _ _ hw hP hF hS (lv_sub hl [0, 1, 2, 3] rfl)
          · rw [if_pos c17] at hw
            refine lv_aload_n hx hb dX5_handOver_20 rfl (lv_at hl 0 rfl) ?_
            refine gf_5_5 (k := 0) hx hb hts (by decide +kernel) hown hK hP (by decide) (kk_0) (q := 365) (hF.1 0 5 365 ff_0_5) (hts (.fieldLink RX5 41 "Opticmesh" "carriers" "[LOpticmesh$Light;") (by decide +kernel)) dX5_handOver_21 ?_
            refine lv_iload_n hx hb dX5_handOver_24 rfl (lv_at hl 3 rfl) ?_
            refine lv_aload_n hx hb dX5_handOver_25 rfl (lv_at hl 2 rfl) ?_
            obtain ⟨h26, hw⟩ := hw
            refine q_aast (z := 0) (t0 := 2) (ci := 1) (r := (RX1, TX1, 7)) (k := 365) (v := x2) (n := 60) (i := a3) hx hb hK hP hS (by decide) (by decide) rfl (fun S => cell_9 kk_365) rfl (kd_N hk2 (by decide)) (cell_1 hk2) h26 dX5_handOver_26 (fun H locs hz hP hS => ?_)
            have hF : Fx (sR S 365 (a3.toNatClampNeg) (some x2)) := (Fx.f365 hF _ (v := some x2) (fun q h => by cases h; exact hk2))
            generalize eS26 : sR S 365 (a3.toNatClampNeg) (some x2) = S26 at hP hF
            have hw := hw S26 eS26.symm
            exact j27 S26 a3  _ _ _ hw hP hF hS (lv_sub hl [0, 1, 2, 3] rfl)
        · have hw := hw.2 q15 hq15
          have hk_q15 : kd q15 = 1 := hF.2.2.2 _ q15 hq15
          refine q_aald9 (k := 365) (n := 60) (i := a3) hx hb hK hP (by decide) (kk_365) (ll_365) h15 dX5_handOver_15 ?_
          rw [rf_some hq15]
          refine lv_aload_n hx hb dX5_handOver_16 rfl (lv_at hl 1 rfl) ?_
          refine q_acmp_ne (rx := (some q15)) (ry := (some x1)) (tgt := 27) hx hb dX5_handOver_17 (by decide) (fun c17 => ?_) (fun c17 => ?_)
          · rw [if_neg c17] at hw
            exact j27 S a3  _ _ _ hw hP hF hS (lv_sub hl [0, 1, 2, 3] rfl)
          · rw [if_pos c17] at hw
            refine lv_aload_n hx hb dX5_handOver_20 rfl (lv_at hl 0 rfl) ?_
            refine gf_5_5 (k := 0) hx hb hts (by decide +kernel) hown hK hP (by decide) (kk_0) (q := 365) (hF.1 0 5 365 ff_0_5) (hts (.fieldLink RX5 41 "Opticmesh" "carriers" "[LOpticmesh$Light;") (by decide +kernel)) dX5_handOver_21 ?_
            refine lv_iload_n hx hb dX5_handOver_24 rfl (lv_at hl 3 rfl) ?_
            refine lv_aload_n hx hb dX5_handOver_25 rfl (lv_at hl 2 rfl) ?_
            obtain ⟨h26, hw⟩ := hw
            refine q_aast (z := 0) (t0 := 2) (ci := 1) (r := (RX1, TX1, 7)) (k := 365) (v := x2) (n := 60) (i := a3) hx hb hK hP hS (by decide) (by decide) rfl (fun S => cell_9 kk_365) rfl (kd_N hk2 (by decide)) (cell_1 hk2) h26 dX5_handOver_26 (fun H locs hz hP hS => ?_)
            have hF : Fx (sR S 365 (a3.toNatClampNeg) (some x2)) := (Fx.f365 hF _ (v := some x2) (fun q h => by cases h; exact hk2))
            generalize eS26 : sR S 365 (a3.toNatClampNeg) (some x2) = S26 at hP hF
            have hw := hw S26 eS26.symm
            exact j27 S26 a3  _ _ _ hw hP hF hS (lv_sub hl [0, 1, 2, 3] rfl)
  unfold wp_X5_handOver at hw
  refine lv_iconst (v := 0) hx hb dX5_handOver_0 (by decide) ?_
  refine lv_istore_n (lv' := [(3, .int 0), (0, .ref (b0 + 0)), (1, .ref (b0 + x1)), (2, .ref (b0 + x2))]) hx hb dX5_handOver_1 rfl hl (by decide) rfl (fun ls hl => ?_)
  obtain ⟨n2, hw⟩ := hw
  exact j2 n2 S 0  _ _ _ hw hP hF hS (lv_sub hl [1, 2, 3, 0] rfl)
set_option maxHeartbeats 4000000 in
set_option maxRecDepth 100000 in
theorem c_X5_merge (l : Launch) (hlt : l.stackTraces = false) (D : va_G) (cy : Nat → ClassId) (b0 : Nat) (S : St)   (P : Int32 → St → Prop) (E : String → St → Prop) (hw : wp_X5_merge S  P E) : vx_Met l yX5_merge wsX5_merge rm_X5_merge (va_Pc [.ref (b0 + 0)] (Wd D cy b0 NALL S)) (QC (Pi P) (Wb D cy b0 NALL) b0) (XX E (Wb D cy b0 NALL) b0) 1 6 (AA b0) := by
  refine vx_ofW (cc := cX5_merge) (maxL := 3) (ret := (some .int)) (by decide) rfl ?_
  intro p e s m args below meth c s₁ B hml ht9 hv
  obtain ⟨hargs, hW, hP, hF⟩ := hv
  have hx := B.exec
  have hb := B.bytes
  have hr := B.returns
  have hts := atoms_spec (ws := wsX5_merge) B.pre
  have hown : s.vm.findClass RX5 = some m.cls := findClass_of_methodNamed B.named
  have hlocks := B.notSynchronized
  have hK := hW.1
  have hS : va_S (AA b0) s.heap s.heap [] := va_S.rf
  have hE : entryFrame m args 3 = F0 m 0 ((lg_sl [.ref (b0 + 0)] ++ List.replicate (3 - (lg_sl [.ref (b0 + 0)]).length) Slot.unset).toArray) [] := by rw [hargs]; exact lg_entry_eq m _ _
  rw [hE]
  have hl := lv_entry [.ref (b0 + 0)] (n := 3) (Nat.le_of_ble_eq_true rfl)
  generalize (lg_sl [.ref (b0 + 0)] ++ List.replicate (3 - (lg_sl [.ref (b0 + 0)]).length) Slot.unset).toArray = ls at hl ⊢
  have hl : lv_has ls 3 [(0, .ref (b0 + 0))] := hl
  have j41 : ∀ (S : St) (a1 : Int32) (a2 : Int32), ∀ (H : Heap) (locs : List Loc) (ls : Array Slot), wp_X5_merge_41 P E S a1 a2 → HP D cy b0 NALL S H → Fx S → va_S (AA b0) s.heap H locs → lv_has ls 3 [(0, .ref (b0 + 0)), (1, .int a1), (2, .int a2)] → W p l e rm_X5_merge s m args below meth c H locs 0 0 (vx_MQ below (QC (Pi P) (Wb D cy b0 NALL) b0) (XX E (Wb D cy b0 NALL) b0) args s 1 6 (AA b0)) (F0 m 41 ls []) := by
    intro S a1 a2  H locs ls hw hP hF hS hl
    unfold wp_X5_merge_41 at hw
    refine lv_aload_n hx hb dX5_merge_41 rfl (lv_at hl 0 rfl) ?_
    refine lv_aload_n hx hb dX5_merge_42 rfl (lv_at hl 0 rfl) ?_
    refine gf_5_3 (k := 0) hx hb hts (by decide +kernel) hown hK hP (by decide) (kk_0) (q := 184) (hF.1 0 3 184 ff_0_3) (hts (.fieldLink RX5 34 "Opticmesh" "lightList" "[LOpticmesh$Light;") (by decide +kernel)) dX5_merge_43 ?_
    refine lv_iload_n hx hb dX5_merge_46 rfl (lv_at hl 2 rfl) ?_
    obtain ⟨h47, hw⟩ := hw
    refine q_aald9 (k := 184) (n := 60) (i := a2) hx hb hK hP (by decide) (kk_184) (ll_184) h47 dX5_merge_47 ?_
    rw [rf_some (hF.1 184 _ _ (fx_184 (vp_lt h47)))]
    refine lv_aload_n hx hb dX5_merge_48 rfl (lv_at hl 0 rfl) ?_
    refine gf_5_3 (k := 0) hx hb hts (by decide +kernel) hown hK hP (by decide) (kk_0) (q := 184) (hF.1 0 3 184 ff_0_3) (hts (.fieldLink RX5 34 "Opticmesh" "lightList" "[LOpticmesh$Light;") (by decide +kernel)) dX5_merge_49 ?_
    refine lv_iload_n hx hb dX5_merge_52 rfl (lv_at hl 1 rfl) ?_
    obtain ⟨h53, hw⟩ := hw
    refine q_aald9 (k := 184) (n := 60) (i := a1) hx hb hK hP (by decide) (kk_184) (ll_184) h53 dX5_merge_53 ?_
    rw [rf_some (hF.1 184 _ _ (fx_184 (vp_lt h53)))]
    refine q_call (va_runV (As := [.ref (b0 + (185 + 3 * (a2.toNatClampNeg))), .ref (b0 + (185 + 3 * (a1.toNatClampNeg)))]) (rest := []) ⟨hx, hb, hml, hown, hts⟩ (c_X5_handOver l D cy b0 S (185 + 3 * (a2.toNatClampNeg)) (185 + 3 * (a1.toNatClampNeg)) (kd_Li (vp_lt h47)) (kd_Li (vp_lt h53)) _ hw) (cwV 2 hts gX5_merge_X5_handOver rfl rfl rfl (by decide +kernel) ⟨(Nat.le_of_ble_eq_true rfl), (Nat.le_of_ble_eq_true rfl)⟩) (q_pV hW hP hF hS (k := 0) (ci := 5) (by decide) (cell_5 (kk_0)) rfl [.ref (b0 + (185 + 3 * (a2.toNatClampNeg))), .ref (b0 + (185 + 3 * (a1.toNatClampNeg)))]) rfl rfl hl.1 rfl (lv_room (Nat.le_of_ble_eq_true rfl)) dX5_merge_54 ⟨(Nat.le_of_ble_eq_true rfl), (Nat.le_of_ble_eq_true rfl)⟩) hS (fun v54 S54 t54 H locs hh hp hB hz hk9 hS => ?_)
    obtain ⟨rfl, hw⟩ := hp
    have hP : HP D cy b0 NALL S54 H := by rw [← hh]; exact hB.1
    have hF := hB.2
    try dsimp only at hw
    refine W.eq (g2 := F0 m 57 ls []) rfl ?_
    refine lv_iload_n hx hb dX5_merge_57 rfl (lv_at hl 2 rfl) ?_
    refine vx_ret ?_
    exact q_iret hx hb hr hP hF hS hw dX5_merge_58 hlocks
  have j71 : ∀ (S : St) , ∀ (H : Heap) (locs : List Loc) (ls : Array Slot), wp_X5_merge_71 P E S → HP D cy b0 NALL S H → Fx S → va_S (AA b0) s.heap H locs → lv_has ls 3 [] → W p l e rm_X5_merge s m args below meth c H locs 0 0 (vx_MQ below (QC (Pi P) (Wb D cy b0 NALL) b0) (XX E (Wb D cy b0 NALL) b0) args s 1 6 (AA b0)) (F0 m 71 ls []) := by
    intro S  H locs ls hw hP hF hS hl
    unfold wp_X5_merge_71 at hw
    exact q_throw (cls := eS) (text := "no two lights can be merged") (Ts := wsX5_merge) hx hb hlt hts hown (by decide +kernel) (hts (.classLink RX5 76 eS) (by decide +kernel)) (hts (.initialized eS) (by decide +kernel)) (by decide) (fun w h => List.mem_cons_of_mem _ (List.mem_append_right _ h)) thS2 (by decide) thS3 hW hP hF hS (hl.1.trans hml.symm) dX5_merge_71 dX5_merge_74 dX5_merge_75 dX5_merge_77 dX5_merge_80 ht9 (Nat.le_of_ble_eq_true rfl) (Nat.le_of_ble_eq_true rfl) (Nat.le_of_ble_eq_true rfl) (Nat.le_of_ble_eq_true rfl) hlocks hw (by decide) (by decide)
  have j2 : ∀ (n2 : Nat), ∀ (S : St) (a1 : Int32), ∀ (H : Heap) (locs : List Loc) (ls : Array Slot), wp_X5_merge_2 P E n2 S a1 → HP D cy b0 NALL S H → Fx S → va_S (AA b0) s.heap H locs → lv_has ls 3 [(0, .ref (b0 + 0)), (1, .int a1)] → W p l e rm_X5_merge s m args below meth c H locs 0 0 (vx_MQ below (QC (Pi P) (Wb D cy b0 NALL) b0) (XX E (Wb D cy b0 NALL) b0) args s 1 6 (AA b0)) (F0 m 2 ls []) := by
    intro n2
    induction n2 with
    | zero => intro S a1  H locs ls hw _ _ _ _; exact False.elim hw
    | succ n2 ih2 =>
      have j65 : ∀ (S : St) (a1 : Int32), ∀ (H : Heap) (locs : List Loc) (ls : Array Slot), wp_X5_merge_65 P E (fun S a1 => wp_X5_merge_2 P E n2 S a1) S a1 → HP D cy b0 NALL S H → Fx S → va_S (AA b0) s.heap H locs → lv_has ls 3 [(0, .ref (b0 + 0)), (1, .int a1)] → W p l e rm_X5_merge s m args below meth c H locs 0 0 (vx_MQ below (QC (Pi P) (Wb D cy b0 NALL) b0) (XX E (Wb D cy b0 NALL) b0) args s 1 6 (AA b0)) (F0 m 65 ls []) := by
        intro S a1  H locs ls hw hP hF hS hl
        unfold wp_X5_merge_65 at hw
        obtain ⟨y65, e65⟩ : ∃ z : Int32, z = a1 + 1 := ⟨_, rfl⟩
        have hw := hw y65 e65
        refine lv_iinc (v := y65) (lv' := [(1, .int y65), (0, .ref (b0 + 0))]) hx hb dX5_merge_65 hl (k := 1) rfl (by rw [e65]; rfl) (by decide) rfl (fun ls hl => ?_)
        refine lv_goto (tgt := 2) hx hb dX5_merge_68 (by decide) ?_
        exact ih2 S y65  _ _ _ hw hP hF hS (lv_sub hl [1, 0] rfl)
      have j14 : ∀ (n14 : Nat), ∀ (S : St) (a1 : Int32) (a2 : Int32), ∀ (H : Heap) (locs : List Loc) (ls : Array Slot), wp_X5_merge_14 P E (fun S a1 => wp_X5_merge_2 P E n2 S a1) n14 S a1 a2 → HP D cy b0 NALL S H → Fx S → va_S (AA b0) s.heap H locs → lv_has ls 3 [(0, .ref (b0 + 0)), (1, .int a1), (2, .int a2)] → W p l e rm_X5_merge s m args below meth c H locs 0 0 (vx_MQ below (QC (Pi P) (Wb D cy b0 NALL) b0) (XX E (Wb D cy b0 NALL) b0) args s 1 6 (AA b0)) (F0 m 14 ls []) := by
        intro n14
        induction n14 with
        | zero => intro S a1 a2  H locs ls hw _ _ _ _; exact False.elim hw
        | succ n14 ih14 =>
          intro S a1 a2  H locs ls hw hP hF hS hl
          rw [wp_X5_merge_14] at hw
          refine lv_iload_n hx hb dX5_merge_14 rfl (lv_at hl 2 rfl) ?_
          refine lv_aload_n hx hb dX5_merge_15 rfl (lv_at hl 0 rfl) ?_
          refine gf_5_4 (k := 0) hx hb hts (by decide +kernel) hown hK hP (by decide) (kk_0) (hts (.fieldLink RX5 59 "Opticmesh" "lightCount" "I") (by decide +kernel)) dX5_merge_16 ?_
          refine lv_icmp_ge (x := a2) (y := (gI S 0 4)) (tgt := 65) hx hb dX5_merge_19 (by decide) (fun c19 => ?_) (fun c19 => ?_)
          · rw [if_pos c19] at hw
            exact j65 S a1  _ _ _ hw hP hF hS (lv_sub hl [0, 1] rfl)
          · rw [if_neg c19] at hw
            refine lv_aload_n hx hb dX5_merge_22 rfl (lv_at hl 0 rfl) ?_
            refine lv_aload_n hx hb dX5_merge_23 rfl (lv_at hl 0 rfl) ?_
            refine gf_5_3 (k := 0) hx hb hts (by decide +kernel) hown hK hP (by decide) (kk_0) (q := 184) (hF.1 0 3 184 ff_0_3) (hts (.fieldLink RX5 34 "Opticmesh" "lightList" "[LOpticmesh$Light;") (by decide +kernel)) dX5_merge_24 ?_
            refine lv_iload_n hx hb dX5_merge_27 rfl (lv_at hl 1 rfl) ?_
            obtain ⟨h28, hw⟩ := hw
            refine q_aald9 (k := 184) (n := 60) (i := a1) hx hb hK hP (by decide) (kk_184) (ll_184) h28 dX5_merge_28 ?_
            rw [rf_some (hF.1 184 _ _ (fx_184 (vp_lt h28)))]
            refine lv_aload_n hx hb dX5_merge_29 rfl (lv_at hl 0 rfl) ?_
            refine gf_5_3 (k := 0) hx hb hts (by decide +kernel) hown hK hP (by decide) (kk_0) (q := 184) (hF.1 0 3 184 ff_0_3) (hts (.fieldLink RX5 34 "Opticmesh" "lightList" "[LOpticmesh$Light;") (by decide +kernel)) dX5_merge_30 ?_
            refine lv_iload_n hx hb dX5_merge_33 rfl (lv_at hl 2 rfl) ?_
            obtain ⟨h34, hw⟩ := hw
            refine q_aald9 (k := 184) (n := 60) (i := a2) hx hb hK hP (by decide) (kk_184) (ll_184) h34 dX5_merge_34 ?_
            rw [rf_some (hF.1 184 _ _ (fx_184 (vp_lt h34)))]
            refine q_call (va_runV (As := [.ref (b0 + (185 + 3 * (a1.toNatClampNeg))), .ref (b0 + (185 + 3 * (a2.toNatClampNeg)))]) (rest := []) ⟨hx, hb, hml, hown, hts⟩ (c_X5_canMerge l D cy b0 S (185 + 3 * (a1.toNatClampNeg)) (185 + 3 * (a2.toNatClampNeg)) (kd_Li (vp_lt h28)) (kd_Li (vp_lt h34)) _ hw) (cwV 2 hts gX5_merge_X5_canMerge rfl rfl rfl (by decide +kernel) ⟨(Nat.le_of_ble_eq_true rfl), (Nat.le_of_ble_eq_true rfl)⟩) (q_pV hW hP hF hS (k := 0) (ci := 5) (by decide) (cell_5 (kk_0)) rfl [.ref (b0 + (185 + 3 * (a1.toNatClampNeg))), .ref (b0 + (185 + 3 * (a2.toNatClampNeg)))]) rfl rfl hl.1 rfl (lv_room (Nat.le_of_ble_eq_true rfl)) dX5_merge_35 ⟨(Nat.le_of_ble_eq_true rfl), (Nat.le_of_ble_eq_true rfl)⟩) hS (fun v35 S35 t35 H locs hh hp hB hz hk9 hS => ?_)
            obtain ⟨r35, rfl, hw⟩ := hp
            have hP : HP D cy b0 NALL S35 H := by rw [← hh]; exact hB.1
            have hF := hB.2
            try dsimp only at hw
            refine W.eq (g2 := F0 m 38 ls [.int (b2i r35)]) rfl ?_
            refine lv_if_eq (x := b2i r35) (tgt := 59) hx hb dX5_merge_38 (by decide) (fun c38 => ?_) (fun c38 => ?_)
            · have c38 := b2i_z c38
              rw [if_neg c38] at hw
              obtain ⟨y59, e59⟩ : ∃ z : Int32, z = a2 + 1 := ⟨_, rfl⟩
              have hw := hw y59 e59
              refine lv_iinc (v := y59) (lv' := [(2, .int y59), (0, .ref (b0 + 0)), (1, .int a1)]) hx hb dX5_merge_59 hl (k := 2) rfl (by rw [e59]; rfl) (by decide) rfl (fun ls hl => ?_)
              refine lv_goto (tgt := 14) hx hb dX5_merge_62 (by decide) ?_
              exact ih14 S35 a1 y59  _ _ _ hw hP hF hS (lv_sub hl [1, 2, 0] rfl)
            · have c38 := b2i_n c38
              rw [if_pos c38] at hw
              exact j41 S35 a1 a2  _ _ _ hw hP hF hS (lv_sub hl [0, 1, 2] rfl)
      intro S a1  H locs ls hw hP hF hS hl
      rw [wp_X5_merge_2] at hw
      refine lv_iload_n hx hb dX5_merge_2 rfl (lv_at hl 1 rfl) ?_
      refine lv_aload_n hx hb dX5_merge_3 rfl (lv_at hl 0 rfl) ?_
      refine gf_5_4 (k := 0) hx hb hts (by decide +kernel) hown hK hP (by decide) (kk_0) (hts (.fieldLink RX5 59 "Opticmesh" "lightCount" "I") (by decide +kernel)) dX5_merge_4 ?_
      refine lv_icmp_ge (x := a1) (y := (gI S 0 4)) (tgt := 71) hx hb dX5_merge_7 (by decide) (fun c7 => ?_) (fun c7 => ?_)
      · rw [if_pos c7] at hw
        exact j71 S  _ _ _ hw hP hF hS (lv_sub hl [] rfl)
      · rw [if_neg c7] at hw
        refine lv_iload_n hx hb dX5_merge_10 rfl (lv_at hl 1 rfl) ?_
        refine lv_iconst (v := 1) hx hb dX5_merge_11 (by decide) ?_
        refine lv_iadd hx hb dX5_merge_12 ?_
        refine lv_topi (fun y13 e13 => ?_)
        have hw := hw y13 e13
        refine lv_istore_n (lv' := [(2, .int y13), (0, .ref (b0 + 0)), (1, .int a1)]) hx hb dX5_merge_13 rfl hl (by decide) rfl (fun ls hl => ?_)
        obtain ⟨n14, hw⟩ := hw
        exact j14 n14 S a1 y13  _ _ _ hw hP hF hS (lv_sub hl [1, 2, 0] rfl)
  unfold wp_X5_merge at hw
  refine lv_iconst (v := 0) hx hb dX5_merge_0 (by decide) ?_
  refine lv_istore_n (lv' := [(1, .int 0), (0, .ref (b0 + 0))]) hx hb dX5_merge_1 rfl hl (by decide) rfl (fun ls hl => ?_)
  obtain ⟨n2, hw⟩ := hw
  exact j2 n2 S 0  _ _ _ hw hP hF hS (lv_sub hl [1, 0] rfl)
set_option maxHeartbeats 4000000 in
set_option maxRecDepth 100000 in
theorem c_X5_lowerWavelength_n (l : Launch) (D : va_G) (cy : Nat → ClassId) (b0 : Nat) (S : St)   (P : Bool → St → Prop) (hw : wp_X5_lowerWavelength_n S  P) : Met l yX5_lowerWavelength wsX5_lowerWavelength rm_X5_lowerWavelength_n (va_Pc [.ref (b0 + 0), .null] (Wd D cy b0 NALL S)) (QC (Pz P) (Wb D cy b0 NALL) b0) 0 0 (AA b0) := by
  refine Met.ofW (cc := cX5_lowerWavelength) (maxL := 4) (ret := (some .boolean)) (by decide) rfl ?_
  intro p e s m args below meth c s₁ B hml hv
  obtain ⟨hargs, hW, hP, hF⟩ := hv
  have hx := B.exec
  have hb := B.bytes
  have hr := B.returns
  have hts := atoms_spec (ws := wsX5_lowerWavelength) B.pre
  have hown : s.vm.findClass RX5 = some m.cls := findClass_of_methodNamed B.named
  have hlocks := B.notSynchronized
  have hK := hW.1
  have hS : va_S (AA b0) s.heap s.heap [] := va_S.rf
  have hE : entryFrame m args 4 = F0 m 0 ((lg_sl [.ref (b0 + 0), .null] ++ List.replicate (4 - (lg_sl [.ref (b0 + 0), .null]).length) Slot.unset).toArray) [] := by rw [hargs]; exact lg_entry_eq m _ _
  rw [hE]
  have hl := lv_entry [.ref (b0 + 0), .null] (n := 4) (Nat.le_of_ble_eq_true rfl)
  generalize (lg_sl [.ref (b0 + 0), .null] ++ List.replicate (4 - (lg_sl [.ref (b0 + 0), .null]).length) Slot.unset).toArray = ls at hl ⊢
  have hl : lv_has ls 4 [(0, .ref (b0 + 0)), (1, .null)] := hl
  unfold wp_X5_lowerWavelength_n at hw
  refine lv_aload_nN hx hb dX5_lowerWavelength_0 rfl (lv_at hl 1 rfl) ?_
  refine lv_ifnullN (tgt := 11) hx hb dX5_lowerWavelength_1 (by decide) ?_
  refine lv_iconst (v := 0) hx hb dX5_lowerWavelength_11 (by decide) ?_
  exact q_zret (v := false) hx hb hr hP hF hS hw dX5_lowerWavelength_12 hlocks
set_option maxHeartbeats 4000000 in
set_option maxRecDepth 100000 in
theorem c_X5_lowerWavelength_s (l : Launch) (D : va_G) (cy : Nat → ClassId) (b0 : Nat) (S : St) (x1 : Nat) (hk1 : kd x1 = 3) (P : Bool → St → Prop) (hw : wp_X5_lowerWavelength_s S x1 P) : Met l yX5_lowerWavelength wsX5_lowerWavelength rm_X5_lowerWavelength_s (va_Pc [.ref (b0 + 0), .ref (b0 + x1)] (Wd D cy b0 NALL S)) (QC (Pz P) (Wb D cy b0 NALL) b0) 0 0 (AA b0) := by
  refine Met.ofW (cc := cX5_lowerWavelength) (maxL := 4) (ret := (some .boolean)) (by decide) rfl ?_
  intro p e s m args below meth c s₁ B hml hv
  obtain ⟨hargs, hW, hP, hF⟩ := hv
  have hx := B.exec
  have hb := B.bytes
  have hr := B.returns
  have hts := atoms_spec (ws := wsX5_lowerWavelength) B.pre
  have hown : s.vm.findClass RX5 = some m.cls := findClass_of_methodNamed B.named
  have hlocks := B.notSynchronized
  have hK := hW.1
  have hS : va_S (AA b0) s.heap s.heap [] := va_S.rf
  have hE : entryFrame m args 4 = F0 m 0 ((lg_sl [.ref (b0 + 0), .ref (b0 + x1)] ++ List.replicate (4 - (lg_sl [.ref (b0 + 0), .ref (b0 + x1)]).length) Slot.unset).toArray) [] := by rw [hargs]; exact lg_entry_eq m _ _
  rw [hE]
  have hl := lv_entry [.ref (b0 + 0), .ref (b0 + x1)] (n := 4) (Nat.le_of_ble_eq_true rfl)
  generalize (lg_sl [.ref (b0 + 0), .ref (b0 + x1)] ++ List.replicate (4 - (lg_sl [.ref (b0 + 0), .ref (b0 + x1)]).length) Slot.unset).toArray = ls at hl ⊢
  have hl : lv_has ls 4 [(0, .ref (b0 + 0)), (1, .ref (b0 + x1))] := hl
  have j51 : ∀ (S : St) (a2 : Int32), ∀ (H : Heap) (locs : List Loc) (ls : Array Slot), wp_X5_lowerWavelength_s_51 x1 P S a2 → HP D cy b0 NALL S H → Fx S → va_S (AA b0) s.heap H locs → lv_has ls 4 [(1, .ref (b0 + x1)), (2, .int a2)] → W p l e rm_X5_lowerWavelength_s s m args below meth c H locs 0 0 (MQ below (QC (Pz P) (Wb D cy b0 NALL) b0) args s 0 0 (AA b0)) (F0 m 51 ls []) := by
    intro S a2  H locs ls hw hP hF hS hl
    unfold wp_X5_lowerWavelength_s_51 at hw
    refine lv_iload_n hx hb dX5_lowerWavelength_51 rfl (lv_at hl 1 rfl) ?_
    refine lv_iconst (v := (-1)) hx hb dX5_lowerWavelength_52 (by decide) ?_
    refine lv_ixor hx hb dX5_lowerWavelength_53 ?_
    refine q_call (va_runS (As := [.int (a2 ^^^ (-1))]) (rest := []) ⟨hx, hb, hml, hown, hts⟩ (c_X5_lowestIn l D cy b0 S (a2 ^^^ (-1)) _ hw) (va_cwS 1 hts gX5_lowerWavelength_X5_lowestIn rfl rfl rfl (by decide +kernel) ⟨(Nat.le_of_ble_eq_true rfl), (Nat.le_of_ble_eq_true rfl)⟩) (q_pS hW hP hF hS [.int (a2 ^^^ (-1))]) rfl rfl hl.1 rfl (lv_room (Nat.le_of_ble_eq_true rfl)) dX5_lowerWavelength_54 ⟨(Nat.le_of_ble_eq_true rfl), (Nat.le_of_ble_eq_true rfl)⟩) hS (fun v54 S54 t54 H locs hh hp hB hz hk9 hS => ?_)
    obtain ⟨r54, rfl, hw⟩ := hp
    have hP : HP D cy b0 NALL S54 H := by rw [← hh]; exact hB.1
    have hF := hB.2
    try dsimp only at hw
    refine W.eq (g2 := F0 m 57 ls [.int r54]) rfl ?_
    refine lv_istore_n (lv' := [(3, .int r54), (1, .ref (b0 + x1)), (2, .int a2)]) hx hb dX5_lowerWavelength_57 rfl hl (by decide) rfl (fun ls hl => ?_)
    refine lv_iload_n hx hb dX5_lowerWavelength_58 rfl (lv_at hl 0 rfl) ?_
    refine lv_aload_n hx hb dX5_lowerWavelength_59 rfl (lv_at hl 1 rfl) ?_
    refine q_call (va_runV (As := []) (rest := [.int r54]) ⟨hx, hb, hml, hown, hts⟩ (c_X3_firstWavelength l D cy b0 S54 x1 hk1 _ hw) (cwV 0 hts gX5_lowerWavelength_X3_firstWavelength rfl rfl rfl (by decide +kernel) ⟨(Nat.le_of_ble_eq_true rfl), (Nat.le_of_ble_eq_true rfl)⟩) (q_pV hW hP hF hS (k := x1) (ci := 3) (kd_N hk1 (by decide)) (cell_3 hk1) rfl []) rfl rfl hl.1 rfl (lv_room (Nat.le_of_ble_eq_true rfl)) dX5_lowerWavelength_60 ⟨(Nat.le_of_ble_eq_true rfl), (Nat.le_of_ble_eq_true rfl)⟩) hS (fun v60 S60 t60 H locs hh hp hB hz hk9 hS => ?_)
    obtain ⟨r60, rfl, hw⟩ := hp
    have hP : HP D cy b0 NALL S60 H := by rw [← hh]; exact hB.1
    have hF := hB.2
    try dsimp only at hw
    refine W.eq (g2 := F0 m 63 ls [.int r60, .int r54]) rfl ?_
    refine lv_icmp_lt (x := r54) (y := r60) (tgt := 68) hx hb dX5_lowerWavelength_63 (by decide) (fun c63 => ?_) (fun c63 => ?_)
    · rw [if_pos c63] at hw
      refine lv_aload_n hx hb dX5_lowerWavelength_68 rfl (lv_at hl 1 rfl) ?_
      refine lv_iload_n hx hb dX5_lowerWavelength_69 rfl (lv_at hl 0 rfl) ?_
      refine q_call (va_runV (As := [.int r54]) (rest := []) ⟨hx, hb, hml, hown, hts⟩ (c_X3_shiftTo l D cy b0 S60 x1 r54 hk1 _ hw) (cwV 1 hts gX5_lowerWavelength_X3_shiftTo rfl rfl rfl (by decide +kernel) ⟨(Nat.le_of_ble_eq_true rfl), (Nat.le_of_ble_eq_true rfl)⟩) (q_pV hW hP hF hS (k := x1) (ci := 3) (kd_N hk1 (by decide)) (cell_3 hk1) rfl [.int r54]) rfl rfl hl.1 rfl (lv_room (Nat.le_of_ble_eq_true rfl)) dX5_lowerWavelength_70 ⟨(Nat.le_of_ble_eq_true rfl), (Nat.le_of_ble_eq_true rfl)⟩) hS (fun v70 S70 t70 H locs hh hp hB hz hk9 hS => ?_)
      obtain ⟨rfl, hw⟩ := hp
      have hP : HP D cy b0 NALL S70 H := by rw [← hh]; exact hB.1
      have hF := hB.2
      try dsimp only at hw
      refine W.eq (g2 := F0 m 73 ls []) rfl ?_
      refine lv_iconst (v := 1) hx hb dX5_lowerWavelength_73 (by decide) ?_
      exact q_zret (v := true) hx hb hr hP hF hS hw dX5_lowerWavelength_74 hlocks
    · rw [if_neg c63] at hw
      refine lv_iconst (v := 0) hx hb dX5_lowerWavelength_66 (by decide) ?_
      exact q_zret (v := false) hx hb hr hP hF hS hw dX5_lowerWavelength_67 hlocks
  have j17 : ∀ (n17 : Nat), ∀ (S : St) (a2 : Int32) (a3 : Int32), ∀ (H : Heap) (locs : List Loc) (ls : Array Slot), wp_X5_lowerWavelength_s_17 x1 P n17 S a2 a3 → HP D cy b0 NALL S H → Fx S → va_S (AA b0) s.heap H locs → lv_has ls 4 [(0, .ref (b0 + 0)), (1, .ref (b0 + x1)), (2, .int a2), (3, .int a3)] → W p l e rm_X5_lowerWavelength_s s m args below meth c H locs 0 0 (MQ below (QC (Pz P) (Wb D cy b0 NALL) b0) args s 0 0 (AA b0)) (F0 m 17 ls []) := by
    intro n17
    induction n17 with
    | zero => intro S a2 a3  H locs ls hw _ _ _ _; exact False.elim hw
    | succ n17 ih17 =>
      have j45 : ∀ (S : St) (a2 : Int32) (a3 : Int32), ∀ (H : Heap) (locs : List Loc) (ls : Array Slot), wp_X5_lowerWavelength_s_45 x1 P (fun S a2 a3 => wp_X5_lowerWavelength_s_17 x1 P n17 S a2 a3) S a2 a3 → HP D cy b0 NALL S H → Fx S → va_S (AA b0) s.heap H locs → lv_has ls 4 [(0, .ref (b0 + 0)), (1, .ref (b0 + x1)), (2, .int a2), (3, .int a3)] → W p l e rm_X5_lowerWavelength_s s m args below meth c H locs 0 0 (MQ below (QC (Pz P) (Wb D cy b0 NALL) b0) args s 0 0 (AA b0)) (F0 m 45 ls []) := by
        intro S a2 a3  H locs ls hw hP hF hS hl
        unfold wp_X5_lowerWavelength_s_45 at hw
        obtain ⟨y45, e45⟩ : ∃ z : Int32, z = a3 + 1 := ⟨_, rfl⟩
        have hw := hw y45 e45
        refine lv_iinc (v := y45) (lv' := [(3, .int y45), (0, .ref (b0 + 0)), (1, .ref (b0 + x1)), (2, .int a2)]) hx hb dX5_lowerWavelength_45 hl (k := 3) rfl (by rw [e45]; rfl) (by decide) rfl (fun ls hl => ?_)
        refine lv_goto (tgt := 17) hx hb dX5_lowerWavelength_48 (by decide) ?_
        exact ih17 S a2 y45  _ _ _ hw hP hF hS (lv_sub hl [1, 2, 3, 0] rfl)
      intro S a2 a3  H locs ls hw hP hF hS hl
      rw [wp_X5_lowerWavelength_s_17] at hw
      refine lv_iload_n hx hb dX5_lowerWavelength_17 rfl (lv_at hl 3 rfl) ?_
      refine lv_aload_n hx hb dX5_lowerWavelength_18 rfl (lv_at hl 0 rfl) ?_
      refine gf_5_0 (k := 0) hx hb hts (by decide +kernel) hown hK hP (by decide) (kk_0) (q := 1) (hF.1 0 0 1 ff_0_0) (hts (.fieldLink RX5 12 "Opticmesh" "network" "LOpticmesh$Network;") (by decide +kernel)) dX5_lowerWavelength_19 ?_
      refine gf_2_2 (k := 1) hx hb hts (by decide +kernel) hown hK hP (by decide) (kk_1) (hts (.fieldLink RX5 116 "Opticmesh$Network" "fibreCount" "I") (by decide +kernel)) dX5_lowerWavelength_22 ?_
      refine lv_icmp_ge (x := a3) (y := (gI S 1 2)) (tgt := 51) hx hb dX5_lowerWavelength_25 (by decide) (fun c25 => ?_) (fun c25 => ?_)
      · rw [if_pos c25] at hw
        exact j51 S a2  _ _ _ hw hP hF hS (lv_sub hl [1, 2] rfl)
      · rw [if_neg c25] at hw
        refine lv_aload_n hx hb dX5_lowerWavelength_28 rfl (lv_at hl 1 rfl) ?_
        refine lv_iload_n hx hb dX5_lowerWavelength_29 rfl (lv_at hl 3 rfl) ?_
        refine q_call (va_runV (As := [.int a3]) (rest := []) ⟨hx, hb, hml, hown, hts⟩ (c_X3_uses l D cy b0 S x1 a3 hk1 _ hw) (cwV 1 hts gX5_lowerWavelength_X3_uses rfl rfl rfl (by decide +kernel) ⟨(Nat.le_of_ble_eq_true rfl), (Nat.le_of_ble_eq_true rfl)⟩) (q_pV hW hP hF hS (k := x1) (ci := 3) (kd_N hk1 (by decide)) (cell_3 hk1) rfl [.int a3]) rfl rfl hl.1 rfl (lv_room (Nat.le_of_ble_eq_true rfl)) dX5_lowerWavelength_30 ⟨(Nat.le_of_ble_eq_true rfl), (Nat.le_of_ble_eq_true rfl)⟩) hS (fun v30 S30 t30 H locs hh hp hB hz hk9 hS => ?_)
        obtain ⟨r30, rfl, hw⟩ := hp
        have hP : HP D cy b0 NALL S30 H := by rw [← hh]; exact hB.1
        have hF := hB.2
        try dsimp only at hw
        refine W.eq (g2 := F0 m 33 ls [.int (b2i r30)]) rfl ?_
        refine lv_if_eq (x := b2i r30) (tgt := 45) hx hb dX5_lowerWavelength_33 (by decide) (fun c33 => ?_) (fun c33 => ?_)
        · have c33 := b2i_z c33
          rw [if_neg c33] at hw
          exact j45 S30 a2 a3  _ _ _ hw hP hF hS (lv_sub hl [0, 1, 2, 3] rfl)
        · have c33 := b2i_n c33
          rw [if_pos c33] at hw
          refine lv_iload_n hx hb dX5_lowerWavelength_36 rfl (lv_at hl 2 rfl) ?_
          refine lv_aload_n hx hb dX5_lowerWavelength_37 rfl (lv_at hl 0 rfl) ?_
          refine lv_iload_n hx hb dX5_lowerWavelength_38 rfl (lv_at hl 3 rfl) ?_
          refine lv_null hx hb dX5_lowerWavelength_39 ?_
          refine q_call (va_runV (As := [.int a3, .null]) (rest := [.int a2]) ⟨hx, hb, hml, hown, hts⟩ (c_X5_wavelengthsUsed_n l D cy b0 S30 a3 _ hw) (cwV 2 hts gX5_lowerWavelength_X5_wavelengthsUsed rfl rfl rfl (by decide +kernel) ⟨(Nat.le_of_ble_eq_true rfl), (Nat.le_of_ble_eq_true rfl)⟩) (q_pV hW hP hF hS (k := 0) (ci := 5) (by decide) (cell_5 (kk_0)) rfl [.int a3, .null]) rfl rfl hl.1 rfl (lv_room (Nat.le_of_ble_eq_true rfl)) dX5_lowerWavelength_40 ⟨(Nat.le_of_ble_eq_true rfl), (Nat.le_of_ble_eq_true rfl)⟩) hS (fun v40 S40 t40 H locs hh hp hB hz hk9 hS => ?_)
          obtain ⟨r40, rfl, hw⟩ := hp
          have hP : HP D cy b0 NALL S40 H := by rw [← hh]; exact hB.1
          have hF := hB.2
          try dsimp only at hw
          refine W.eq (g2 := F0 m 43 ls [.int r40, .int a2]) rfl ?_
          refine lv_ior hx hb dX5_lowerWavelength_43 ?_
          refine lv_topi (fun y44 e44 => ?_)
          have hw := hw y44 e44
          refine lv_istore_n (lv' := [(2, .int y44), (0, .ref (b0 + 0)), (1, .ref (b0 + x1)), (3, .int a3)]) hx hb dX5_lowerWavelength_44 rfl hl (by decide) rfl (fun ls hl => ?_)
          exact j45 S40 y44 a3  _ _ _ hw hP hF hS (lv_sub hl [1, 2, 0, 3] rfl)
  unfold wp_X5_lowerWavelength_s at hw
  refine lv_aload_n hx hb dX5_lowerWavelength_0 rfl (lv_at hl 1 rfl) ?_
  refine lv_ifnull hx hb dX5_lowerWavelength_1 ?_
  refine lv_aload_n hx hb dX5_lowerWavelength_4 rfl (lv_at hl 1 rfl) ?_
  refine gf_3_2 (k := x1) hx hb hts (by decide +kernel) hown hK hP (kd_N hk1 (by decide)) hk1 (hts (.fieldLink RX5 298 "Opticmesh$Way" "conversions" "I") (by decide +kernel)) dX5_lowerWavelength_5 ?_
  refine lv_if_le (x := (gI S x1 2)) (tgt := 13) hx hb dX5_lowerWavelength_8 (by decide) (fun c8 => ?_) (fun c8 => ?_)
  · rw [if_pos c8] at hw
    refine lv_iconst (v := 0) hx hb dX5_lowerWavelength_13 (by decide) ?_
    refine lv_istore_n (lv' := [(2, .int 0), (0, .ref (b0 + 0)), (1, .ref (b0 + x1))]) hx hb dX5_lowerWavelength_14 rfl hl (by decide) rfl (fun ls hl => ?_)
    refine lv_iconst (v := 0) hx hb dX5_lowerWavelength_15 (by decide) ?_
    refine lv_istore_n (lv' := [(3, .int 0), (2, .int 0), (0, .ref (b0 + 0)), (1, .ref (b0 + x1))]) hx hb dX5_lowerWavelength_16 rfl hl (by decide) rfl (fun ls hl => ?_)
    obtain ⟨n17, hw⟩ := hw
    exact j17 n17 S 0 0  _ _ _ hw hP hF hS (lv_sub hl [2, 3, 1, 0] rfl)
  · rw [if_neg c8] at hw
    refine lv_iconst (v := 0) hx hb dX5_lowerWavelength_11 (by decide) ?_
    exact q_zret (v := false) hx hb hr hP hF hS hw dX5_lowerWavelength_12 hlocks
set_option maxHeartbeats 4000000 in
set_option maxRecDepth 100000 in
theorem c_X5_move (l : Launch) (hlt : l.stackTraces = false) (D : va_G) (cy : Nat → ClassId) (b0 : Nat) (S : St)   (P : Int32 → St → Prop) (E : String → St → Prop) (hw : wp_X5_move S  P E) : vx_Met l yX5_move wsX5_move rm_X5_move (va_Pc [.ref (b0 + 0)] (Wd D cy b0 NALL S)) (QC (Pi P) (Wb D cy b0 NALL) b0) (XX E (Wb D cy b0 NALL) b0) 1 6 (AA b0) := by
  refine vx_ofW (cc := cX5_move) (maxL := 3) (ret := (some .int)) (by decide) rfl ?_
  intro p e s m args below meth c s₁ B hml ht9 hv
  obtain ⟨hargs, hW, hP, hF⟩ := hv
  have hx := B.exec
  have hb := B.bytes
  have hr := B.returns
  have hts := atoms_spec (ws := wsX5_move) B.pre
  have hown : s.vm.findClass RX5 = some m.cls := findClass_of_methodNamed B.named
  have hlocks := B.notSynchronized
  have hK := hW.1
  have hS : va_S (AA b0) s.heap s.heap [] := va_S.rf
  have hE : entryFrame m args 3 = F0 m 0 ((lg_sl [.ref (b0 + 0)] ++ List.replicate (3 - (lg_sl [.ref (b0 + 0)]).length) Slot.unset).toArray) [] := by rw [hargs]; exact lg_entry_eq m _ _
  rw [hE]
  have hl := lv_entry [.ref (b0 + 0)] (n := 3) (Nat.le_of_ble_eq_true rfl)
  generalize (lg_sl [.ref (b0 + 0)] ++ List.replicate (3 - (lg_sl [.ref (b0 + 0)]).length) Slot.unset).toArray = ls at hl ⊢
  have hl : lv_has ls 3 [(0, .ref (b0 + 0))] := hl
  have j49 : ∀ (S : St) , ∀ (H : Heap) (locs : List Loc) (ls : Array Slot), wp_X5_move_49 P E S → HP D cy b0 NALL S H → Fx S → va_S (AA b0) s.heap H locs → lv_has ls 3 [] → W p l e rm_X5_move s m args below meth c H locs 0 0 (vx_MQ below (QC (Pi P) (Wb D cy b0 NALL) b0) (XX E (Wb D cy b0 NALL) b0) args s 1 6 (AA b0)) (F0 m 49 ls []) := by
    intro S  H locs ls hw hP hF hS hl
    unfold wp_X5_move_49 at hw
    exact q_throw (cls := eS) (text := "no way can be moved") (Ts := wsX5_move) hx hb hlt hts hown (by decide +kernel) (hts (.classLink RX5 76 eS) (by decide +kernel)) (hts (.initialized eS) (by decide +kernel)) (by decide) (fun w h => List.mem_cons_of_mem _ (List.mem_append_right _ h)) thS2 (by decide) thS3 hW hP hF hS (hl.1.trans hml.symm) dX5_move_49 dX5_move_52 dX5_move_53 dX5_move_55 dX5_move_58 ht9 (Nat.le_of_ble_eq_true rfl) (Nat.le_of_ble_eq_true rfl) (Nat.le_of_ble_eq_true rfl) (Nat.le_of_ble_eq_true rfl) hlocks hw (by decide) (by decide)
  have j2 : ∀ (n2 : Nat), ∀ (S : St) (a1 : Int32), ∀ (H : Heap) (locs : List Loc) (ls : Array Slot), wp_X5_move_2 P E n2 S a1 → HP D cy b0 NALL S H → Fx S → va_S (AA b0) s.heap H locs → lv_has ls 3 [(0, .ref (b0 + 0)), (1, .int a1)] → W p l e rm_X5_move s m args below meth c H locs 0 0 (vx_MQ below (QC (Pi P) (Wb D cy b0 NALL) b0) (XX E (Wb D cy b0 NALL) b0) args s 1 6 (AA b0)) (F0 m 2 ls []) := by
    intro n2
    induction n2 with
    | zero => intro S a1  H locs ls hw _ _ _ _; exact False.elim hw
    | succ n2 ih2 =>
      intro S a1  H locs ls hw hP hF hS hl
      rw [wp_X5_move_2] at hw
      refine lv_iload_n hx hb dX5_move_2 rfl (lv_at hl 1 rfl) ?_
      refine lv_aload_n hx hb dX5_move_3 rfl (lv_at hl 0 rfl) ?_
      refine gf_5_4 (k := 0) hx hb hts (by decide +kernel) hown hK hP (by decide) (kk_0) (hts (.fieldLink RX5 59 "Opticmesh" "lightCount" "I") (by decide +kernel)) dX5_move_4 ?_
      refine lv_icmp_ge (x := a1) (y := (gI S 0 4)) (tgt := 49) hx hb dX5_move_7 (by decide) (fun c7 => ?_) (fun c7 => ?_)
      · rw [if_pos c7] at hw
        exact j49 S  _ _ _ hw hP hF hS (lv_sub hl [] rfl)
      · rw [if_neg c7] at hw
        refine lv_aload_n hx hb dX5_move_10 rfl (lv_at hl 0 rfl) ?_
        refine gf_5_3 (k := 0) hx hb hts (by decide +kernel) hown hK hP (by decide) (kk_0) (q := 184) (hF.1 0 3 184 ff_0_3) (hts (.fieldLink RX5 34 "Opticmesh" "lightList" "[LOpticmesh$Light;") (by decide +kernel)) dX5_move_11 ?_
        refine lv_iload_n hx hb dX5_move_14 rfl (lv_at hl 1 rfl) ?_
        obtain ⟨h15, hw⟩ := hw
        refine q_aald9 (k := 184) (n := 60) (i := a1) hx hb hK hP (by decide) (kk_184) (ll_184) h15 dX5_move_15 ?_
        rw [rf_some (hF.1 184 _ _ (fx_184 (vp_lt h15)))]
        refine lv_astore_n (lv' := [(2, .ref (b0 + (185 + 3 * (a1.toNatClampNeg)))), (0, .ref (b0 + 0)), (1, .int a1)]) hx hb dX5_move_16 rfl hl (by decide) rfl (fun ls hl => ?_)
        refine lv_aload_n hx hb dX5_move_17 rfl (lv_at hl 1 rfl) ?_
        refine lv_aload_n hx hb dX5_move_18 rfl (lv_at hl 0 rfl) ?_
        refine lv_iconst (v := 0) hx hb dX5_move_19 (by decide) ?_
        refine q_call (va_runV (As := [.int 0]) (rest := [.ref (b0 + 0)]) ⟨hx, hb, hml, hown, hts⟩ (c_X1_wayAt l D cy b0 S (185 + 3 * (a1.toNatClampNeg)) 0 (kd_Li (vp_lt h15)) _ hw) (cwV 1 hts gX5_move_X1_wayAt rfl rfl rfl (by decide +kernel) ⟨(Nat.le_of_ble_eq_true rfl), (Nat.le_of_ble_eq_true rfl)⟩) (q_pV hW hP hF hS (k := (185 + 3 * (a1.toNatClampNeg))) (ci := 1) (kd_N (kd_Li (vp_lt h15)) (by decide)) (cell_1 (kd_Li (vp_lt h15))) rfl [.int 0]) rfl rfl hl.1 rfl (lv_room (Nat.le_of_ble_eq_true rfl)) dX5_move_20 ⟨(Nat.le_of_ble_eq_true rfl), (Nat.le_of_ble_eq_true rfl)⟩) hS (fun v20 S20 t20 H locs hh hp hB hz hk9 hS => ?_)
        obtain ⟨r20, rfl, hk_r20, hw⟩ := hp
        have hP : HP D cy b0 NALL S20 H := by rw [← hh]; exact hB.1
        have hF := hB.2
        try dsimp only at hw
        rcases r20 with _ | q20
        · have hw := hw.1 rfl
          refine W.eq (g2 := F0 m 23 ls [.null, .ref (b0 + 0)]) rfl ?_
          refine q_call (va_runV (As := [.null]) (rest := []) ⟨hx, hb, hml, hown, hts⟩ (c_X5_lowerWavelength_n l D cy b0 S20 _ hw) (cwV 1 hts gX5_move_X5_lowerWavelength rfl rfl rfl (by decide +kernel) ⟨(Nat.le_of_ble_eq_true rfl), (Nat.le_of_ble_eq_true rfl)⟩) (q_pV hW hP hF hS (k := 0) (ci := 5) (by decide) (cell_5 (kk_0)) rfl [.null]) rfl rfl hl.1 rfl (lv_room (Nat.le_of_ble_eq_true rfl)) dX5_move_23 ⟨(Nat.le_of_ble_eq_true rfl), (Nat.le_of_ble_eq_true rfl)⟩) hS (fun v23 S23 t23 H locs hh hp hB hz hk9 hS => ?_)
          obtain ⟨r23, rfl, hw⟩ := hp
          have hP : HP D cy b0 NALL S23 H := by rw [← hh]; exact hB.1
          have hF := hB.2
          try dsimp only at hw
          refine W.eq (g2 := F0 m 26 ls [.int (b2i r23)]) rfl ?_
          refine lv_if_ne (x := b2i r23) (tgt := 41) hx hb dX5_move_26 (by decide) (fun c26 => ?_) (fun c26 => ?_)
          · have c26 := b2i_n c26
            rw [if_pos c26] at hw
            refine lv_iload_n hx hb dX5_move_41 rfl (lv_at hl 2 rfl) ?_
            refine vx_ret ?_
            exact q_iret hx hb hr hP hF hS hw dX5_move_42 hlocks
          · have c26 := b2i_z c26
            rw [if_neg c26] at hw
            refine lv_aload_n hx hb dX5_move_29 rfl (lv_at hl 1 rfl) ?_
            refine lv_aload_n hx hb dX5_move_30 rfl (lv_at hl 0 rfl) ?_
            refine lv_iconst (v := 1) hx hb dX5_move_31 (by decide) ?_
            refine q_call (va_runV (As := [.int 1]) (rest := [.ref (b0 + 0)]) ⟨hx, hb, hml, hown, hts⟩ (c_X1_wayAt l D cy b0 S23 (185 + 3 * (a1.toNatClampNeg)) 1 (kd_Li (vp_lt h15)) _ hw) (cwV 1 hts gX5_move_X1_wayAt rfl rfl rfl (by decide +kernel) ⟨(Nat.le_of_ble_eq_true rfl), (Nat.le_of_ble_eq_true rfl)⟩) (q_pV hW hP hF hS (k := (185 + 3 * (a1.toNatClampNeg))) (ci := 1) (kd_N (kd_Li (vp_lt h15)) (by decide)) (cell_1 (kd_Li (vp_lt h15))) rfl [.int 1]) rfl rfl hl.1 rfl (lv_room (Nat.le_of_ble_eq_true rfl)) dX5_move_32 ⟨(Nat.le_of_ble_eq_true rfl), (Nat.le_of_ble_eq_true rfl)⟩) hS (fun v32 S32 t32 H locs hh hp hB hz hk9 hS => ?_)
            obtain ⟨r32, rfl, hk_r32, hw⟩ := hp
            have hP : HP D cy b0 NALL S32 H := by rw [← hh]; exact hB.1
            have hF := hB.2
            try dsimp only at hw
            rcases r32 with _ | q32
            · have hw := hw.1 rfl
              refine W.eq (g2 := F0 m 35 ls [.null, .ref (b0 + 0)]) rfl ?_
              refine q_call (va_runV (As := [.null]) (rest := []) ⟨hx, hb, hml, hown, hts⟩ (c_X5_lowerWavelength_n l D cy b0 S32 _ hw) (cwV 1 hts gX5_move_X5_lowerWavelength rfl rfl rfl (by decide +kernel) ⟨(Nat.le_of_ble_eq_true rfl), (Nat.le_of_ble_eq_true rfl)⟩) (q_pV hW hP hF hS (k := 0) (ci := 5) (by decide) (cell_5 (kk_0)) rfl [.null]) rfl rfl hl.1 rfl (lv_room (Nat.le_of_ble_eq_true rfl)) dX5_move_35 ⟨(Nat.le_of_ble_eq_true rfl), (Nat.le_of_ble_eq_true rfl)⟩) hS (fun v35 S35 t35 H locs hh hp hB hz hk9 hS => ?_)
              obtain ⟨r35, rfl, hw⟩ := hp
              have hP : HP D cy b0 NALL S35 H := by rw [← hh]; exact hB.1
              have hF := hB.2
              try dsimp only at hw
              refine W.eq (g2 := F0 m 38 ls [.int (b2i r35)]) rfl ?_
              refine lv_if_eq (x := b2i r35) (tgt := 43) hx hb dX5_move_38 (by decide) (fun c38 => ?_) (fun c38 => ?_)
              · have c38 := b2i_z c38
                rw [if_neg c38] at hw
                obtain ⟨y43, e43⟩ : ∃ z : Int32, z = a1 + 1 := ⟨_, rfl⟩
                have hw := hw y43 e43
                refine lv_iinc (v := y43) (lv' := [(1, .int y43), (2, .ref (b0 + (185 + 3 * (a1.toNatClampNeg)))), (0, .ref (b0 + 0))]) hx hb dX5_move_43 hl (k := 2) rfl (by rw [e43]; rfl) (by decide) rfl (fun ls hl => ?_)
                refine lv_goto (tgt := 2) hx hb dX5_move_46 (by decide) ?_
                exact ih2 S35 y43  _ _ _ hw hP hF hS (lv_sub hl [2, 0] rfl)
              · have c38 := b2i_n c38
                rw [if_pos c38] at hw
                refine lv_iload_n hx hb dX5_move_41 rfl (lv_at hl 2 rfl) ?_
                refine vx_ret ?_
                exact q_iret hx hb hr hP hF hS hw dX5_move_42 hlocks
            · have hw := hw.2 q32 rfl
              have hk_q32 : kd q32 = 3 := hk_r32 q32 rfl
              refine W.eq (g2 := F0 m 35 ls [.ref (b0 + q32), .ref (b0 + 0)]) rfl ?_
              refine q_call (va_runV (As := [.ref (b0 + q32)]) (rest := []) ⟨hx, hb, hml, hown, hts⟩ (c_X5_lowerWavelength_s l D cy b0 S32 q32 hk_q32 _ hw) (cwV 1 hts gX5_move_X5_lowerWavelength rfl rfl rfl (by decide +kernel) ⟨(Nat.le_of_ble_eq_true rfl), (Nat.le_of_ble_eq_true rfl)⟩) (q_pV hW hP hF hS (k := 0) (ci := 5) (by decide) (cell_5 (kk_0)) rfl [.ref (b0 + q32)]) rfl rfl hl.1 rfl (lv_room (Nat.le_of_ble_eq_true rfl)) dX5_move_35 ⟨(Nat.le_of_ble_eq_true rfl), (Nat.le_of_ble_eq_true rfl)⟩) hS (fun v35 S35 t35 H locs hh hp hB hz hk9 hS => ?_)
              obtain ⟨r35, rfl, hw⟩ := hp
              have hP : HP D cy b0 NALL S35 H := by rw [← hh]; exact hB.1
              have hF := hB.2
              try dsimp only at hw
              refine W.eq (g2 := F0 m 38 ls [.int (b2i r35)]) rfl ?_
              refine lv_if_eq (x := b2i r35) (tgt := 43) hx hb dX5_move_38 (by decide) (fun c38 => ?_) (fun c38 => ?_)
              · have c38 := b2i_z c38
                rw [if_neg c38] at hw
                obtain ⟨y43, e43⟩ : ∃ z : Int32, z = a1 + 1 := ⟨_, rfl⟩
                have hw := hw y43 e43
                refine lv_iinc (v := y43) (lv' := [(1, .int y43), (2, .ref (b0 + (185 + 3 * (a1.toNatClampNeg)))), (0, .ref (b0 + 0))]) hx hb dX5_move_43 hl (k := 2) rfl (by rw [e43]; rfl) (by decide) rfl (fun ls hl => ?_)
                refine lv_goto (tgt := 2) hx hb dX5_move_46 (by decide) ?_
                exact ih2 S35 y43  _ _ _ hw hP hF hS (lv_sub hl [2, 0] rfl)
              · have c38 := b2i_n c38
                rw [if_pos c38] at hw
                refine lv_iload_n hx hb dX5_move_41 rfl (lv_at hl 2 rfl) ?_
                refine vx_ret ?_
                exact q_iret hx hb hr hP hF hS hw dX5_move_42 hlocks
        · have hw := hw.2 q20 rfl
          have hk_q20 : kd q20 = 3 := hk_r20 q20 rfl
          refine W.eq (g2 := F0 m 23 ls [.ref (b0 + q20), .ref (b0 + 0)]) rfl ?_
          refine q_call (va_runV (As := [.ref (b0 + q20)]) (rest := []) ⟨hx, hb, hml, hown, hts⟩ (c_X5_lowerWavelength_s l D cy b0 S20 q20 hk_q20 _ hw) (cwV 1 hts gX5_move_X5_lowerWavelength rfl rfl rfl (by decide +kernel) ⟨(Nat.le_of_ble_eq_true rfl), (Nat.le_of_ble_eq_true rfl)⟩) (q_pV hW hP hF hS (k := 0) (ci := 5) (by decide) (cell_5 (kk_0)) rfl [.ref (b0 + q20)]) rfl rfl hl.1 rfl (lv_room (Nat.le_of_ble_eq_true rfl)) dX5_move_23 ⟨(Nat.le_of_ble_eq_true rfl), (Nat.le_of_ble_eq_true rfl)⟩) hS (fun v23 S23 t23 H locs hh hp hB hz hk9 hS => ?_)
          obtain ⟨r23, rfl, hw⟩ := hp
          have hP : HP D cy b0 NALL S23 H := by rw [← hh]; exact hB.1
          have hF := hB.2
          try dsimp only at hw
          refine W.eq (g2 := F0 m 26 ls [.int (b2i r23)]) rfl ?_
          refine lv_if_ne (x := b2i r23) (tgt := 41) hx hb dX5_move_26 (by decide) (fun c26 => ?_) (fun c26 => ?_)
          · have c26 := b2i_n c26
            rw [if_pos c26] at hw
            refine lv_iload_n hx hb dX5_move_41 rfl (lv_at hl 2 rfl) ?_
            refine vx_ret ?_
            exact q_iret hx hb hr hP hF hS hw dX5_move_42 hlocks
          · have c26 := b2i_z c26
            rw [if_neg c26] at hw
            refine lv_aload_n hx hb dX5_move_29 rfl (lv_at hl 1 rfl) ?_
            refine lv_aload_n hx hb dX5_move_30 rfl (lv_at hl 0 rfl) ?_
            refine lv_iconst (v := 1) hx hb dX5_move_31 (by decide) ?_
            refine q_call (va_runV (As := [.int 1]) (rest := [.ref (b0 + 0)]) ⟨hx, hb, hml, hown, hts⟩ (c_X1_wayAt l D cy b0 S23 (185 + 3 * (a1.toNatClampNeg)) 1 (kd_Li (vp_lt h15)) _ hw) (cwV 1 hts gX5_move_X1_wayAt rfl rfl rfl (by decide +kernel) ⟨(Nat.le_of_ble_eq_true rfl), (Nat.le_of_ble_eq_true rfl)⟩) (q_pV hW hP hF hS (k := (185 + 3 * (a1.toNatClampNeg))) (ci := 1) (kd_N (kd_Li (vp_lt h15)) (by decide)) (cell_1 (kd_Li (vp_lt h15))) rfl [.int 1]) rfl rfl hl.1 rfl (lv_room (Nat.le_of_ble_eq_true rfl)) dX5_move_32 ⟨(Nat.le_of_ble_eq_true rfl), (Nat.le_of_ble_eq_true rfl)⟩) hS (fun v32 S32 t32 H locs hh hp hB hz hk9 hS => ?_)
            obtain ⟨r32, rfl, hk_r32, hw⟩ := hp
            have hP : HP D cy b0 NALL S32 H := by rw [← hh]; exact hB.1
            have hF := hB.2
            try dsimp only at hw
            rcases r32 with _ | q32
            · have hw := hw.1 rfl
              refine W.eq (g2 := F0 m 35 ls [.null, .ref (b0 + 0)]) rfl ?_
              refine q_call (va_runV (As := [.null]) (rest := []) ⟨hx, hb, hml, hown, hts⟩ (c_X5_lowerWavelength_n l D cy b0 S32 _ hw) (cwV 1 hts gX5_move_X5_lowerWavelength rfl rfl rfl (by decide +kernel) ⟨(Nat.le_of_ble_eq_true rfl), (Nat.le_of_ble_eq_true rfl)⟩) (q_pV hW hP hF hS (k := 0) (ci := 5) (by decide) (cell_5 (kk_0)) rfl [.null]) rfl rfl hl.1 rfl (lv_room (Nat.le_of_ble_eq_true rfl)) dX5_move_35 ⟨(Nat.le_of_ble_eq_true rfl), (Nat.le_of_ble_eq_true rfl)⟩) hS (fun v35 S35 t35 H locs hh hp hB hz hk9 hS => ?_)
              obtain ⟨r35, rfl, hw⟩ := hp
              have hP : HP D cy b0 NALL S35 H := by rw [← hh]; exact hB.1
              have hF := hB.2
              try dsimp only at hw
              refine W.eq (g2 := F0 m 38 ls [.int (b2i r35)]) rfl ?_
              refine lv_if_eq (x := b2i r35) (tgt := 43) hx hb dX5_move_38 (by decide) (fun c38 => ?_) (fun c38 => ?_)
              · have c38 := b2i_z c38
                rw [if_neg c38] at hw
                obtain ⟨y43, e43⟩ : ∃ z : Int32, z = a1 + 1 := ⟨_, rfl⟩
                have hw := hw y43 e43
                refine lv_iinc (v := y43) (lv' := [(1, .int y43), (2, .ref (b0 + (185 + 3 * (a1.toNatClampNeg)))), (0, .ref (b0 + 0))]) hx hb dX5_move_43 hl (k := 2) rfl (by rw [e43]; rfl) (by decide) rfl (fun ls hl => ?_)
                refine lv_goto (tgt := 2) hx hb dX5_move_46 (by decide) ?_
                exact ih2 S35 y43  _ _ _ hw hP hF hS (lv_sub hl [2, 0] rfl)
              · have c38 := b2i_n c38
                rw [if_pos c38] at hw
                refine lv_iload_n hx hb dX5_move_41 rfl (lv_at hl 2 rfl) ?_
                refine vx_ret ?_
                exact q_iret hx hb hr hP hF hS hw dX5_move_42 hlocks
            · have hw := hw.2 q32 rfl
              have hk_q32 : kd q32 = 3 := hk_r32 q32 rfl
              refine W.eq (g2 := F0 m 35 ls [.ref (b0 + q32), .ref (b0 + 0)]) rfl ?_
              refine q_call (va_runV (As := [.ref (b0 + q32)]) (rest := []) ⟨hx, hb, hml, hown, hts⟩ (c_X5_lowerWavelength_s l D cy b0 S32 q32 hk_q32 _ hw) (cwV 1 hts gX5_move_X5_lowerWavelength rfl rfl rfl (by decide +kernel) ⟨(Nat.le_of_ble_eq_true rfl), (Nat.le_of_ble_eq_true rfl)⟩) (q_pV hW hP hF hS (k := 0) (ci := 5) (by decide) (cell_5 (kk_0)) rfl [.ref (b0 + q32)]) rfl rfl hl.1 rfl (lv_room (Nat.le_of_ble_eq_true rfl)) dX5_move_35 ⟨(Nat.le_of_ble_eq_true rfl), (Nat.le_of_ble_eq_true rfl)⟩) hS (fun v35 S35 t35 H locs hh hp hB hz hk9 hS => ?_)
              obtain ⟨r35, rfl, hw⟩ := hp
              have hP : HP D cy b0 NALL S35 H := by rw [← hh]; exact hB.1
              have hF := hB.2
              try dsimp only at hw
              refine W.eq (g2 := F0 m 38 ls [.int (b2i r35)]) rfl ?_
              refine lv_if_eq (x := b2i r35) (tgt := 43) hx hb dX5_move_38 (by decide) (fun c38 => ?_) (fun c38 => ?_)
              · have c38 := b2i_z c38
                rw [if_neg c38] at hw
                obtain ⟨y43, e43⟩ : ∃ z : Int32, z = a1 + 1 := ⟨_, rfl⟩
                have hw := hw y43 e43
                refine lv_iinc (v := y43) (lv' := [(1, .int y43), (2, .ref (b0 + (185 + 3 * (a1.toNatClampNeg)))), (0, .ref (b0 + 0))]) hx hb dX5_move_43 hl (k := 2) rfl (by rw [e43]; rfl) (by decide) rfl (fun ls hl => ?_)
                refine lv_goto (tgt := 2) hx hb dX5_move_46 (by decide) ?_
                exact ih2 S35 y43  _ _ _ hw hP hF hS (lv_sub hl [2, 0] rfl)
              · have c38 := b2i_n c38
                rw [if_pos c38] at hw
                refine lv_iload_n hx hb dX5_move_41 rfl (lv_at hl 2 rfl) ?_
                refine vx_ret ?_
                exact q_iret hx hb hr hP hF hS hw dX5_move_42 hlocks
  unfold wp_X5_move at hw
  refine lv_iconst (v := 0) hx hb dX5_move_0 (by decide) ?_
  refine lv_istore_n (lv' := [(1, .int 0), (0, .ref (b0 + 0))]) hx hb dX5_move_1 rfl hl (by decide) rfl (fun ls hl => ?_)
  obtain ⟨n2, hw⟩ := hw
  exact j2 n2 S 0  _ _ _ hw hP hF hS (lv_sub hl [1, 0] rfl)
set_option maxHeartbeats 4000000 in
set_option maxRecDepth 100000 in
theorem c_X5_wavelengthsNeeded (l : Launch) (D : va_G) (cy : Nat → ClassId) (b0 : Nat) (S : St)   (P : Int32 → St → Prop) (hw : wp_X5_wavelengthsNeeded S  P) : Met l yX5_wavelengthsNeeded wsX5_wavelengthsNeeded rm_X5_wavelengthsNeeded (va_Pc [.ref (b0 + 0)] (Wd D cy b0 NALL S)) (QC (Pi P) (Wb D cy b0 NALL) b0) 0 0 (AA b0) := by
  refine Met.ofW (cc := cX5_wavelengthsNeeded) (maxL := 2) (ret := (some .int)) (by decide) rfl ?_
  intro p e s m args below meth c s₁ B hml hv
  obtain ⟨hargs, hW, hP, hF⟩ := hv
  have hx := B.exec
  have hb := B.bytes
  have hr := B.returns
  have hts := atoms_spec (ws := wsX5_wavelengthsNeeded) B.pre
  have hown : s.vm.findClass RX5 = some m.cls := findClass_of_methodNamed B.named
  have hlocks := B.notSynchronized
  have hK := hW.1
  have hS : va_S (AA b0) s.heap s.heap [] := va_S.rf
  have hE : entryFrame m args 2 = F0 m 0 ((lg_sl [.ref (b0 + 0)] ++ List.replicate (2 - (lg_sl [.ref (b0 + 0)]).length) Slot.unset).toArray) [] := by rw [hargs]; exact lg_entry_eq m _ _
  rw [hE]
  have hl := lv_entry [.ref (b0 + 0)] (n := 2) (Nat.le_of_ble_eq_true rfl)
  generalize (lg_sl [.ref (b0 + 0)] ++ List.replicate (2 - (lg_sl [.ref (b0 + 0)]).length) Slot.unset).toArray = ls at hl ⊢
  have hl : lv_has ls 2 [(0, .ref (b0 + 0))] := hl
  have j54 : ∀ (S : St) , ∀ (H : Heap) (locs : List Loc) (ls : Array Slot), wp_X5_wavelengthsNeeded_54 P S → HP D cy b0 NALL S H → Fx S → va_S (AA b0) s.heap H locs → lv_has ls 2 [(0, .ref (b0 + 0))] → W p l e rm_X5_wavelengthsNeeded s m args below meth c H locs 0 0 (MQ below (QC (Pi P) (Wb D cy b0 NALL) b0) args s 0 0 (AA b0)) (F0 m 54 ls []) := by
    intro S  H locs ls hw hP hF hS hl
    unfold wp_X5_wavelengthsNeeded_54 at hw
    refine lv_aload_n hx hb dX5_wavelengthsNeeded_54 rfl (lv_at hl 0 rfl) ?_
    refine gf_5_2 (k := 0) hx hb hts (by decide +kernel) hown hK hP (by decide) (kk_0) (q := 181) (hF.1 0 2 181 ff_0_2) (hts (.fieldLink RX5 28 "Opticmesh" "colouring" "LOpticmesh$Colouring;") (by decide +kernel)) dX5_wavelengthsNeeded_55 ?_
    refine q_call (va_runV (As := []) (rest := []) ⟨hx, hb, hml, hown, hts⟩ (c_X0_leastColours l D cy b0 S _ hw) (cwV 0 hts gX5_wavelengthsNeeded_X0_leastColours rfl rfl rfl (by decide +kernel) ⟨(Nat.le_of_ble_eq_true rfl), (Nat.le_of_ble_eq_true rfl)⟩) (q_pV hW hP hF hS (k := 181) (ci := 0) (by decide) (cell_0 (kk_181)) rfl []) rfl rfl hl.1 rfl (lv_room (Nat.le_of_ble_eq_true rfl)) dX5_wavelengthsNeeded_58 ⟨(Nat.le_of_ble_eq_true rfl), (Nat.le_of_ble_eq_true rfl)⟩) hS (fun v58 S58 t58 H locs hh hp hB hz hk9 hS => ?_)
    obtain ⟨r58, rfl, hw⟩ := hp
    have hP : HP D cy b0 NALL S58 H := by rw [← hh]; exact hB.1
    have hF := hB.2
    try dsimp only at hw
    refine W.eq (g2 := F0 m 61 ls [.int r58]) rfl ?_
    exact q_iret hx hb hr hP hF hS hw dX5_wavelengthsNeeded_61 hlocks
  have j9 : ∀ (n9 : Nat), ∀ (S : St) (a1 : Int32), ∀ (H : Heap) (locs : List Loc) (ls : Array Slot), wp_X5_wavelengthsNeeded_9 P n9 S a1 → HP D cy b0 NALL S H → Fx S → va_S (AA b0) s.heap H locs → lv_has ls 2 [(0, .ref (b0 + 0)), (1, .int a1)] → W p l e rm_X5_wavelengthsNeeded s m args below meth c H locs 0 0 (MQ below (QC (Pi P) (Wb D cy b0 NALL) b0) args s 0 0 (AA b0)) (F0 m 9 ls []) := by
    intro n9
    induction n9 with
    | zero => intro S a1  H locs ls hw _ _ _ _; exact False.elim hw
    | succ n9 ih9 =>
      have j48 : ∀ (S : St) (a1 : Int32), ∀ (H : Heap) (locs : List Loc) (ls : Array Slot), wp_X5_wavelengthsNeeded_48 P (fun S a1 => wp_X5_wavelengthsNeeded_9 P n9 S a1) S a1 → HP D cy b0 NALL S H → Fx S → va_S (AA b0) s.heap H locs → lv_has ls 2 [(0, .ref (b0 + 0)), (1, .int a1)] → W p l e rm_X5_wavelengthsNeeded s m args below meth c H locs 0 0 (MQ below (QC (Pi P) (Wb D cy b0 NALL) b0) args s 0 0 (AA b0)) (F0 m 48 ls []) := by
        intro S a1  H locs ls hw hP hF hS hl
        unfold wp_X5_wavelengthsNeeded_48 at hw
        obtain ⟨y48, e48⟩ : ∃ z : Int32, z = a1 + 1 := ⟨_, rfl⟩
        have hw := hw y48 e48
        refine lv_iinc (v := y48) (lv' := [(1, .int y48), (0, .ref (b0 + 0))]) hx hb dX5_wavelengthsNeeded_48 hl (k := 1) rfl (by rw [e48]; rfl) (by decide) rfl (fun ls hl => ?_)
        refine lv_goto (tgt := 9) hx hb dX5_wavelengthsNeeded_51 (by decide) ?_
        exact ih9 S y48  _ _ _ hw hP hF hS (lv_sub hl [1, 0] rfl)
      intro S a1  H locs ls hw hP hF hS hl
      rw [wp_X5_wavelengthsNeeded_9] at hw
      refine lv_iload_n hx hb dX5_wavelengthsNeeded_9 rfl (lv_at hl 1 rfl) ?_
      refine lv_aload_n hx hb dX5_wavelengthsNeeded_10 rfl (lv_at hl 0 rfl) ?_
      refine gf_5_4 (k := 0) hx hb hts (by decide +kernel) hown hK hP (by decide) (kk_0) (hts (.fieldLink RX5 59 "Opticmesh" "lightCount" "I") (by decide +kernel)) dX5_wavelengthsNeeded_11 ?_
      refine lv_icmp_ge (x := a1) (y := (gI S 0 4)) (tgt := 54) hx hb dX5_wavelengthsNeeded_14 (by decide) (fun c14 => ?_) (fun c14 => ?_)
      · rw [if_pos c14] at hw
        exact j54 S  _ _ _ hw hP hF hS (lv_sub hl [0] rfl)
      · rw [if_neg c14] at hw
        refine lv_aload_n hx hb dX5_wavelengthsNeeded_17 rfl (lv_at hl 0 rfl) ?_
        refine gf_5_3 (k := 0) hx hb hts (by decide +kernel) hown hK hP (by decide) (kk_0) (q := 184) (hF.1 0 3 184 ff_0_3) (hts (.fieldLink RX5 34 "Opticmesh" "lightList" "[LOpticmesh$Light;") (by decide +kernel)) dX5_wavelengthsNeeded_18 ?_
        refine lv_iload_n hx hb dX5_wavelengthsNeeded_21 rfl (lv_at hl 1 rfl) ?_
        obtain ⟨h22, hw⟩ := hw
        refine q_aald9 (k := 184) (n := 60) (i := a1) hx hb hK hP (by decide) (kk_184) (ll_184) h22 dX5_wavelengthsNeeded_22 ?_
        rw [rf_some (hF.1 184 _ _ (fx_184 (vp_lt h22)))]
        refine q_call (va_runV (As := []) (rest := []) ⟨hx, hb, hml, hown, hts⟩ (c_X1_isGone l D cy b0 S (185 + 3 * (a1.toNatClampNeg)) (kd_Li (vp_lt h22)) _ hw) (cwV 0 hts gX5_wavelengthsNeeded_X1_isGone rfl rfl rfl (by decide +kernel) ⟨(Nat.le_of_ble_eq_true rfl), (Nat.le_of_ble_eq_true rfl)⟩) (q_pV hW hP hF hS (k := (185 + 3 * (a1.toNatClampNeg))) (ci := 1) (kd_N (kd_Li (vp_lt h22)) (by decide)) (cell_1 (kd_Li (vp_lt h22))) rfl []) rfl rfl hl.1 rfl (lv_room (Nat.le_of_ble_eq_true rfl)) dX5_wavelengthsNeeded_23 ⟨(Nat.le_of_ble_eq_true rfl), (Nat.le_of_ble_eq_true rfl)⟩) hS (fun v23 S23 t23 H locs hh hp hB hz hk9 hS => ?_)
        obtain ⟨r23, rfl, hw⟩ := hp
        have hP : HP D cy b0 NALL S23 H := by rw [← hh]; exact hB.1
        have hF := hB.2
        try dsimp only at hw
        refine W.eq (g2 := F0 m 26 ls [.int (b2i r23)]) rfl ?_
        refine lv_if_ne (x := b2i r23) (tgt := 48) hx hb dX5_wavelengthsNeeded_26 (by decide) (fun c26 => ?_) (fun c26 => ?_)
        · have c26 := b2i_n c26
          rw [if_pos c26] at hw
          exact j48 S23 a1  _ _ _ hw hP hF hS (lv_sub hl [0, 1] rfl)
        · have c26 := b2i_z c26
          rw [if_neg c26] at hw
          refine lv_aload_n hx hb dX5_wavelengthsNeeded_29 rfl (lv_at hl 0 rfl) ?_
          refine gf_5_2 (k := 0) hx hb hts (by decide +kernel) hown hK hP (by decide) (kk_0) (q := 181) (hF.1 0 2 181 ff_0_2) (hts (.fieldLink RX5 28 "Opticmesh" "colouring" "LOpticmesh$Colouring;") (by decide +kernel)) dX5_wavelengthsNeeded_30 ?_
          refine lv_aload_n hx hb dX5_wavelengthsNeeded_33 rfl (lv_at hl 0 rfl) ?_
          refine gf_5_3 (k := 0) hx hb hts (by decide +kernel) hown hK hP (by decide) (kk_0) (q := 184) (hF.1 0 3 184 ff_0_3) (hts (.fieldLink RX5 34 "Opticmesh" "lightList" "[LOpticmesh$Light;") (by decide +kernel)) dX5_wavelengthsNeeded_34 ?_
          refine lv_iload_n hx hb dX5_wavelengthsNeeded_37 rfl (lv_at hl 1 rfl) ?_
          obtain ⟨h38, hw⟩ := hw
          refine q_aald9 (k := 184) (n := 60) (i := a1) hx hb hK hP (by decide) (kk_184) (ll_184) h38 dX5_wavelengthsNeeded_38 ?_
          rw [rf_some (hF.1 184 _ _ (fx_184 (vp_lt h38)))]
          refine gf_1_1 (k := (185 + 3 * (a1.toNatClampNeg))) hx hb hts (by decide +kernel) hown hK hP (kd_N (kd_Li (vp_lt h38)) (by decide)) (kd_Li (vp_lt h38)) (q := (185 + 3 * (a1.toNatClampNeg)) + 1) (hF.1 (185 + 3 * (a1.toNatClampNeg)) 1 ((185 + 3 * (a1.toNatClampNeg)) + 1) (fx_L1 (kd_Li (vp_lt h38)))) (hts (.fieldLink RX5 227 "Opticmesh$Light" "first" "LOpticmesh$Way;") (by decide +kernel)) dX5_wavelengthsNeeded_39 ?_
          refine gf_3_3 (k := ((185 + 3 * (a1.toNatClampNeg)) + 1)) hx hb hts (by decide +kernel) hown hK hP (kd_N (kd_L1 (kd_Li (vp_lt h38))) (by decide)) (kd_L1 (kd_Li (vp_lt h38))) (hts (.fieldLink RX5 255 "Opticmesh$Way" "fibres" "I") (by decide +kernel)) dX5_wavelengthsNeeded_42 ?_
          refine q_call (va_runV (As := [.int (gI S23 ((185 + 3 * (a1.toNatClampNeg)) + 1) 3)]) (rest := []) ⟨hx, hb, hml, hown, hts⟩ (c_X0_add l D cy b0 S23 (gI S23 ((185 + 3 * (a1.toNatClampNeg)) + 1) 3) _ hw) (cwV 1 hts gX5_wavelengthsNeeded_X0_add rfl rfl rfl (by decide +kernel) ⟨(Nat.le_of_ble_eq_true rfl), (Nat.le_of_ble_eq_true rfl)⟩) (q_pV hW hP hF hS (k := 181) (ci := 0) (by decide) (cell_0 (kk_181)) rfl [.int (gI S23 ((185 + 3 * (a1.toNatClampNeg)) + 1) 3)]) rfl rfl hl.1 rfl (lv_room (Nat.le_of_ble_eq_true rfl)) dX5_wavelengthsNeeded_45 ⟨(Nat.le_of_ble_eq_true rfl), (Nat.le_of_ble_eq_true rfl)⟩) hS (fun v45 S45 t45 H locs hh hp hB hz hk9 hS => ?_)
          obtain ⟨rfl, hw⟩ := hp
          have hP : HP D cy b0 NALL S45 H := by rw [← hh]; exact hB.1
          have hF := hB.2
          try dsimp only at hw
          refine W.eq (g2 := F0 m 48 ls []) rfl ?_
          exact j48 S45 a1  _ _ _ hw hP hF hS (lv_sub hl [0, 1] rfl)
  unfold wp_X5_wavelengthsNeeded at hw
  refine lv_aload_n hx hb dX5_wavelengthsNeeded_0 rfl (lv_at hl 0 rfl) ?_
  refine gf_5_2 (k := 0) hx hb hts (by decide +kernel) hown hK hP (by decide) (kk_0) (q := 181) (hF.1 0 2 181 ff_0_2) (hts (.fieldLink RX5 28 "Opticmesh" "colouring" "LOpticmesh$Colouring;") (by decide +kernel)) dX5_wavelengthsNeeded_1 ?_
  refine q_call (va_runV (As := []) (rest := []) ⟨hx, hb, hml, hown, hts⟩ (c_X0_clear l D cy b0 S _ hw) (cwV 0 hts gX5_wavelengthsNeeded_X0_clear rfl rfl rfl (by decide +kernel) ⟨(Nat.le_of_ble_eq_true rfl), (Nat.le_of_ble_eq_true rfl)⟩) (q_pV hW hP hF hS (k := 181) (ci := 0) (by decide) (cell_0 (kk_181)) rfl []) rfl rfl hl.1 rfl (lv_room (Nat.le_of_ble_eq_true rfl)) dX5_wavelengthsNeeded_4 ⟨(Nat.le_of_ble_eq_true rfl), (Nat.le_of_ble_eq_true rfl)⟩) hS (fun v4 S4 t4 H locs hh hp hB hz hk9 hS => ?_)
  obtain ⟨rfl, hw⟩ := hp
  have hP : HP D cy b0 NALL S4 H := by rw [← hh]; exact hB.1
  have hF := hB.2
  try dsimp only at hw
  refine W.eq (g2 := F0 m 7 ls []) rfl ?_
  refine lv_iconst (v := 0) hx hb dX5_wavelengthsNeeded_7 (by decide) ?_
  refine lv_istore_n (lv' := [(1, .int 0), (0, .ref (b0 + 0))]) hx hb dX5_wavelengthsNeeded_8 rfl hl (by decide) rfl (fun ls hl => ?_)
  obtain ⟨n9, hw⟩ := hw
  exact j9 n9 S4 0  _ _ _ hw hP hF hS (lv_sub hl [1, 0] rfl)
