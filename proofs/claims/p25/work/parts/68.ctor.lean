set_option maxHeartbeats 4000000 in
set_option maxRecDepth 100000 in
theorem c_X3_init (l : Launch) (D : va_G) (cy : Nat → ClassId) (b0 : Nat) (S : St) (N k : Nat) (hk : kd k = 3) (hkN : k < N) (P : St → Prop) (hw : wp_X3_init S P) : Met l yX3_init wsX3_init { frames := 2, cells := 0, slots := 0, locals := 40 } (va_Pc [.ref (b0 + k)] (WcP D cy b0 N S)) (QC (Pv P) (WcB D cy b0 N) b0) 0 0 (AA b0) := by
  refine Met.ofW (cc := cX3_init) (maxL := 1) (ret := none) (by decide) rfl ?_
  intro p e s m args below meth c s₁ B hml hv
  obtain ⟨hargs, hW, hC⟩ := hv
  have hx := B.exec
  have hb := B.bytes
  have hr := B.returns
  have hts := atoms_spec (ws := wsX3_init) B.pre
  have hown : s.vm.findClass RX3 = some m.cls := findClass_of_methodNamed B.named
  have hlocks := B.notSynchronized
  have hin : meth.name = "<init>" := (name_of_methodNamed B.named B.method).1
  have hK := hW.1
  have hS : va_S (AA b0) s.heap s.heap [] := va_S.rf
  have hE : entryFrame m args 1 = F0 m 0 ((lg_sl [.ref (b0 + k)] ++ List.replicate (1 - (lg_sl [.ref (b0 + k)]).length) Slot.unset).toArray) [] := by rw [hargs]; exact lg_entry_eq m _ _
  rw [hE]
  have hl := lv_entry [.ref (b0 + k)] (n := 1) (Nat.le_of_ble_eq_true rfl)
  generalize (lg_sl [.ref (b0 + k)] ++ List.replicate (1 - (lg_sl [.ref (b0 + k)]).length) Slot.unset).toArray = ls at hl ⊢
  have hl : lv_has ls 1 [(0, .ref (b0 + k))] := hl
  unfold wp_X3_init at hw
  refine lv_aload_n hx hb dX3_init_0 rfl (lv_at hl 0 rfl) ?_
  refine W.objInit hx hb hown (hts (.methodLink RX3 1 objectInit) (by decide +kernel)) (hts (.instanceMethod objectInit) (by decide +kernel)) (hts (.code objectInit ⟨#[0xb1]⟩ 1 none) (by decide +kernel)) rfl (by rw [hml]; exact hl.1) rfl dX3_init_1 (Nat.le_of_ble_eq_true rfl) (Nat.le_of_ble_eq_true rfl) ?_
  refine W.eq (g2 := F0 m 4 ls []) rfl ?_
  refine W.widen (k := 0) (n := 0) (by (try simp only [ll_2, ll_3, ll_4, ll_6, ll_7, ll_8, ll_9, ll_10, ll_18, ll_182, ll_183, ll_184, ll_365, ll_366]); omega) (by (try simp only [ll_2, ll_3, ll_4, ll_6, ll_7, ll_8, ll_9, ll_10, ll_18, ll_182, ll_183, ll_184, ll_365, ll_366]); omega) ?_
  exact q_cret hx hb hr hC hS hw dX3_init_4 hlocks
set_option maxHeartbeats 4000000 in
set_option maxRecDepth 100000 in
theorem c_X1_init (l : Launch) (D : va_G) (cy : Nat → ClassId) (b0 : Nat) (S : St) (k : Nat) (x1 : Int32) (hk : kd k = 1) (P : St → Prop) (hw : wp_X1_init S k x1 P) : Met l yX1_init wsX1_init { frames := 3, cells := 2, slots := 8192, locals := 60 } (va_Pc [.ref (b0 + k), .int x1] (WcP D cy b0 (k + 1) S)) (QC (Pv P) (WcB D cy b0 (k + 3)) b0) 2 8192 (AA b0) := by
  refine Met.ofW (cc := cX1_init) (maxL := 2) (ret := none) (by decide) rfl ?_
  intro p e s m args below meth c s₁ B hml hv
  obtain ⟨hargs, hW, hC⟩ := hv
  have hx := B.exec
  have hb := B.bytes
  have hr := B.returns
  have hts := atoms_spec (ws := wsX1_init) B.pre
  have hown : s.vm.findClass RX1 = some m.cls := findClass_of_methodNamed B.named
  have hlocks := B.notSynchronized
  have hin : meth.name = "<init>" := (name_of_methodNamed B.named B.method).1
  have hK := hW.1
  have hS : va_S (AA b0) s.heap s.heap [] := va_S.rf
  have hE : entryFrame m args 2 = F0 m 0 ((lg_sl [.ref (b0 + k), .int x1] ++ List.replicate (2 - (lg_sl [.ref (b0 + k), .int x1]).length) Slot.unset).toArray) [] := by rw [hargs]; exact lg_entry_eq m _ _
  rw [hE]
  have hl := lv_entry [.ref (b0 + k), .int x1] (n := 2) (Nat.le_of_ble_eq_true rfl)
  generalize (lg_sl [.ref (b0 + k), .int x1] ++ List.replicate (2 - (lg_sl [.ref (b0 + k), .int x1]).length) Slot.unset).toArray = ls at hl ⊢
  have hl : lv_has ls 2 [(0, .ref (b0 + k)), (1, .int x1)] := hl
  unfold wp_X1_init at hw
  refine lv_aload_n hx hb dX1_init_0 rfl (lv_at hl 0 rfl) ?_
  refine W.objInit hx hb hown (hts (.methodLink RX1 1 objectInit) (by decide +kernel)) (hts (.instanceMethod objectInit) (by decide +kernel)) (hts (.code objectInit ⟨#[0xb1]⟩ 1 none) (by decide +kernel)) rfl (by rw [hml]; exact hl.1) rfl dX1_init_1 (Nat.le_of_ble_eq_true rfl) (Nat.le_of_ble_eq_true rfl) ?_
  refine W.eq (g2 := F0 m 4 ls []) rfl ?_
  refine lv_aload_n hx hb dX1_init_4 rfl (lv_at hl 0 rfl) ?_
  refine q_new (N := (k + 1)) (ci := 3) (C := RX3) (T := TX3) (NF := 5) hx hb hts (by decide +kernel) tyX3 tyX3_ok hown (hts (.classLink RX1 7 RX3) (by decide +kernel)) (hts (.instantiable RX3 5) (by decide +kernel)) (hts (.initialized RX3) (by decide +kernel)) hK hC hS rfl (new_3 (kd_L1 hk) hC.2.2) (fun j hj => by rcases (show j = 0 ∨ j = 1 ∨ j = 2 ∨ j = 3 ∨ j = 4 by omega) with rfl | rfl | rfl | rfl | rfl <;> rfl) (Nat.le_of_ble_eq_true rfl) (Nat.le_of_ble_eq_true rfl) dX1_init_5 (fun H hC hS => ?_)
  refine W.eq (g2 := F0 m 8 ls [.ref (b0 + (k + 1)), .ref (b0 + k)]) rfl ?_
  refine lv_dup hx hb dX1_init_8 rfl ?_
  refine q_call (va_runIN (As := []) (rest := [.ref (b0 + (k + 1)), .ref (b0 + k)]) ⟨hx, hb, hml, hown, hts⟩ (c_X3_init l D cy b0 S (k + 2) (k + 1) (kd_L1 hk) (by omega) _ hw) ⟨va_cnB (host := "Opticmesh") 0 hts gX1_init_X3_init_n9 rfl rfl rfl (hW.2.2.2.2.1 (RX1, 9, yX3_init, "Opticmesh") (by decide)) (hts (.initialized RX3) (by decide +kernel)) (by decide +kernel) ⟨(Nat.le_of_ble_eq_true rfl), (Nat.le_of_ble_eq_true rfl)⟩, rfl, hts (.instanceMethod yX3_init) (by decide +kernel)⟩ (q_pC hW hC hS (.ref (b0 + (k + 1)) :: [])) rfl rfl hl.1 rfl (lv_room (Nat.le_of_ble_eq_true rfl)) dX1_init_9 ⟨(Nat.le_of_ble_eq_true rfl), (Nat.le_of_ble_eq_true rfl)⟩) hS (fun v9 S9 t9 H locs hh hp hB hz hk9 hS => ?_)
  obtain ⟨rfl, hw⟩ := hp
  have hC : WC D cy b0 (k + 2) S9 H := by rw [← hh]; exact hB
  try dsimp only at hw
  refine W.eq (g2 := F0 m 12 ls [.ref (b0 + (k + 1)), .ref (b0 + k)]) rfl ?_
  refine pf_1_1 (k := k) (x := (k + 1)) hx hb hts (by decide +kernel) hown hK hC.1 hS (by omega) hk hin rfl (hts (.fieldLink RX1 10 "Opticmesh$Light" "first" "LOpticmesh$Way;") (by decide +kernel)) dX1_init_12 (fun H locs hz hP hS => ?_)
  have hC : WC D cy b0 (k + 2) (sR S9 k 1 (some (k + 1))) H := ⟨hP, hz.trans hC.2.1, hC.2.2.sR (by omega) _ _⟩
  generalize eS12 : sR S9 k 1 (some (k + 1)) = S12 at hC
  have hw := hw S12 eS12.symm
  refine lv_aload_n hx hb dX1_init_15 rfl (lv_at hl 0 rfl) ?_
  refine q_new (N := (k + 2)) (ci := 3) (C := RX3) (T := TX3) (NF := 5) hx hb hts (by decide +kernel) tyX3 tyX3_ok hown (hts (.classLink RX1 7 RX3) (by decide +kernel)) (hts (.instantiable RX3 5) (by decide +kernel)) (hts (.initialized RX3) (by decide +kernel)) hK hC hS rfl (new_3 (kd_L2 hk) hC.2.2) (fun j hj => by rcases (show j = 0 ∨ j = 1 ∨ j = 2 ∨ j = 3 ∨ j = 4 by omega) with rfl | rfl | rfl | rfl | rfl <;> rfl) (Nat.le_of_ble_eq_true rfl) (Nat.le_of_ble_eq_true rfl) dX1_init_16 (fun H hC hS => ?_)
  refine W.eq (g2 := F0 m 19 ls [.ref (b0 + (k + 2)), .ref (b0 + k)]) rfl ?_
  refine lv_dup hx hb dX1_init_19 rfl ?_
  refine q_call (va_runIN (As := []) (rest := [.ref (b0 + (k + 2)), .ref (b0 + k)]) ⟨hx, hb, hml, hown, hts⟩ (c_X3_init l D cy b0 S12 (k + 3) (k + 2) (kd_L2 hk) (by omega) _ hw) ⟨va_cnB (host := "Opticmesh") 0 hts gX1_init_X3_init_n9 rfl rfl rfl (hW.2.2.2.2.1 (RX1, 9, yX3_init, "Opticmesh") (by decide)) (hts (.initialized RX3) (by decide +kernel)) (by decide +kernel) ⟨(Nat.le_of_ble_eq_true rfl), (Nat.le_of_ble_eq_true rfl)⟩, rfl, hts (.instanceMethod yX3_init) (by decide +kernel)⟩ (q_pC hW hC hS (.ref (b0 + (k + 2)) :: [])) rfl rfl hl.1 rfl (lv_room (Nat.le_of_ble_eq_true rfl)) dX1_init_20 ⟨(Nat.le_of_ble_eq_true rfl), (Nat.le_of_ble_eq_true rfl)⟩) hS (fun v20 S20 t20 H locs hh hp hB hz hk9 hS => ?_)
  obtain ⟨rfl, hw⟩ := hp
  have hC : WC D cy b0 (k + 3) S20 H := by rw [← hh]; exact hB
  try dsimp only at hw
  refine W.eq (g2 := F0 m 23 ls [.ref (b0 + (k + 2)), .ref (b0 + k)]) rfl ?_
  refine pf_1_2 (k := k) (x := (k + 2)) hx hb hts (by decide +kernel) hown hK hC.1 hS (by omega) hk hin rfl (hts (.fieldLink RX1 16 "Opticmesh$Light" "second" "LOpticmesh$Way;") (by decide +kernel)) dX1_init_23 (fun H locs hz hP hS => ?_)
  have hC : WC D cy b0 (k + 3) (sR S20 k 2 (some (k + 2))) H := ⟨hP, hz.trans hC.2.1, hC.2.2.sR (by omega) _ _⟩
  generalize eS23 : sR S20 k 2 (some (k + 2)) = S23 at hC
  have hw := hw S23 eS23.symm
  refine lv_aload_n hx hb dX1_init_26 rfl (lv_at hl 0 rfl) ?_
  refine lv_iload_n hx hb dX1_init_27 rfl (lv_at hl 1 rfl) ?_
  refine pf_1_0 (k := k) (x := x1) hx hb hts (by decide +kernel) hown hK hC.1 hS (by omega) hk hin rfl (hts (.fieldLink RX1 19 "Opticmesh$Light" "number" "I") (by decide +kernel)) dX1_init_28 (fun H locs hz hP hS => ?_)
  have hC : WC D cy b0 (k + 3) (sI S23 k 0 x1) H := ⟨hP, hz.trans hC.2.1, hC.2.2.sI (by omega) _ _⟩
  generalize eS28 : sI S23 k 0 x1 = S28 at hC
  have hw := hw S28 eS28.symm
  refine W.widen (k := 2) (n := 8192) (by (try simp only [ll_2, ll_3, ll_4, ll_6, ll_7, ll_8, ll_9, ll_10, ll_18, ll_182, ll_183, ll_184, ll_365, ll_366]); omega) (by (try simp only [ll_2, ll_3, ll_4, ll_6, ll_7, ll_8, ll_9, ll_10, ll_18, ll_182, ll_183, ll_184, ll_365, ll_366]); omega) ?_
  exact q_cret hx hb hr hC hS hw dX1_init_31 hlocks
set_option maxHeartbeats 4000000 in
set_option maxRecDepth 100000 in
theorem c_X2_init (l : Launch) (D : va_G) (cy : Nat → ClassId) (b0 : Nat) (S : St) (P : St → Prop) (hw : wp_X2_init S P) : Met l yX2_init wsX2_init { frames := 2, cells := 3, slots := 12288, locals := 40 } (va_Pc [.ref (b0 + 1)] (WcP D cy b0 2 S)) (QC (Pv P) (WcB D cy b0 5) b0) 3 12288 (AA b0) := by
  refine Met.ofW (cc := cX2_init) (maxL := 1) (ret := none) (by decide) rfl ?_
  intro p e s m args below meth c s₁ B hml hv
  obtain ⟨hargs, hW, hC⟩ := hv
  have hx := B.exec
  have hb := B.bytes
  have hr := B.returns
  have hts := atoms_spec (ws := wsX2_init) B.pre
  have hown : s.vm.findClass RX2 = some m.cls := findClass_of_methodNamed B.named
  have hlocks := B.notSynchronized
  have hin : meth.name = "<init>" := (name_of_methodNamed B.named B.method).1
  have hK := hW.1
  have hS : va_S (AA b0) s.heap s.heap [] := va_S.rf
  have hE : entryFrame m args 1 = F0 m 0 ((lg_sl [.ref (b0 + 1)] ++ List.replicate (1 - (lg_sl [.ref (b0 + 1)]).length) Slot.unset).toArray) [] := by rw [hargs]; exact lg_entry_eq m _ _
  rw [hE]
  have hl := lv_entry [.ref (b0 + 1)] (n := 1) (Nat.le_of_ble_eq_true rfl)
  generalize (lg_sl [.ref (b0 + 1)] ++ List.replicate (1 - (lg_sl [.ref (b0 + 1)]).length) Slot.unset).toArray = ls at hl ⊢
  have hl : lv_has ls 1 [(0, .ref (b0 + 1))] := hl
  unfold wp_X2_init at hw
  refine lv_aload_n hx hb dX2_init_0 rfl (lv_at hl 0 rfl) ?_
  refine W.objInit hx hb hown (hts (.methodLink RX2 3 objectInit) (by decide +kernel)) (hts (.instanceMethod objectInit) (by decide +kernel)) (hts (.code objectInit ⟨#[0xb1]⟩ 1 none) (by decide +kernel)) rfl (by rw [hml]; exact hl.1) rfl dX2_init_1 (Nat.le_of_ble_eq_true rfl) (Nat.le_of_ble_eq_true rfl) ?_
  refine W.eq (g2 := F0 m 4 ls []) rfl ?_
  refine lv_aload_n hx hb dX2_init_4 rfl (lv_at hl 0 rfl) ?_
  refine lv_iconst (v := 4) hx hb dX2_init_5 (by decide) ?_
  refine pf_2_0 (k := 1) (x := 4) hx hb hts (by decide +kernel) hown hK hC.1 hS (by omega) kk_1 (hts (.fieldLink RX2 9 "Opticmesh$Network" "nodeCount" "I") (by decide +kernel)) dX2_init_6 (fun H locs hz hP hS => ?_)
  have hC : WC D cy b0 2 (sI S 1 0 4) H := ⟨hP, hz.trans hC.2.1, hC.2.2.sI (by omega) _ _⟩
  generalize eS6 : sI S 1 0 4 = S6 at hC
  have hw := hw S6 eS6.symm
  refine lv_aload_n hx hb dX2_init_9 rfl (lv_at hl 0 rfl) ?_
  refine lv_iconst (v := 4) hx hb dX2_init_10 (by decide) ?_
  refine pf_2_1 (k := 1) (x := 4) hx hb hts (by decide +kernel) hown hK hC.1 hS (by omega) kk_1 (hts (.fieldLink RX2 15 "Opticmesh$Network" "wavelengthCount" "I") (by decide +kernel)) dX2_init_11 (fun H locs hz hP hS => ?_)
  have hC : WC D cy b0 2 (sI S6 1 1 4) H := ⟨hP, hz.trans hC.2.1, hC.2.2.sI (by omega) _ _⟩
  generalize eS11 : sI S6 1 1 4 = S11 at hC
  have hw := hw S11 eS11.symm
  refine lv_aload_n hx hb dX2_init_14 rfl (lv_at hl 0 rfl) ?_
  refine lv_bipush (v := 14) hx hb dX2_init_15 (by decide) ?_
  refine q_newaI (N := 2) hx hb (hts (.arrayClass .int) (by decide +kernel)) hK hC hS kk_2 (by decide) (by decide +kernel) (by decide +kernel) (Nat.le_of_ble_eq_true rfl) (Nat.le_of_ble_eq_true rfl) dX2_init_17 (fun H hC hS => ?_)
  refine W.eq (g2 := F0 m 19 ls [.ref (b0 + 2), .ref (b0 + 1)]) rfl ?_
  refine pf_2_5 (k := 1) (x := 2) hx hb hts (by decide +kernel) hown hK hC.1 hS (by omega) kk_1 hin rfl (hts (.fieldLink RX2 18 "Opticmesh$Network" "ones" "[I") (by decide +kernel)) dX2_init_19 (fun H locs hz hP hS => ?_)
  have hC : WC D cy b0 3 (sR S11 1 5 (some 2)) H := ⟨hP, hz.trans hC.2.1, hC.2.2.sR (by omega) _ _⟩
  generalize eS19 : sR S11 1 5 (some 2) = S19 at hC
  have hw := hw S19 eS19.symm
  refine lv_aload_n hx hb dX2_init_22 rfl (lv_at hl 0 rfl) ?_
  refine lv_bipush (v := 14) hx hb dX2_init_23 (by decide) ?_
  refine q_newaI (N := 3) hx hb (hts (.arrayClass .int) (by decide +kernel)) hK hC hS kk_3 (by decide) (by decide +kernel) (by decide +kernel) (Nat.le_of_ble_eq_true rfl) (Nat.le_of_ble_eq_true rfl) dX2_init_25 (fun H hC hS => ?_)
  refine W.eq (g2 := F0 m 27 ls [.ref (b0 + 3), .ref (b0 + 1)]) rfl ?_
  refine pf_2_6 (k := 1) (x := 3) hx hb hts (by decide +kernel) hown hK hC.1 hS (by omega) kk_1 hin rfl (hts (.fieldLink RX2 22 "Opticmesh$Network" "others" "[I") (by decide +kernel)) dX2_init_27 (fun H locs hz hP hS => ?_)
  have hC : WC D cy b0 4 (sR S19 1 6 (some 3)) H := ⟨hP, hz.trans hC.2.1, hC.2.2.sR (by omega) _ _⟩
  generalize eS27 : sR S19 1 6 (some 3) = S27 at hC
  have hw := hw S27 eS27.symm
  refine lv_aload_n hx hb dX2_init_30 rfl (lv_at hl 0 rfl) ?_
  refine lv_bipush (v := 14) hx hb dX2_init_31 (by decide) ?_
  refine q_newaI (N := 4) hx hb (hts (.arrayClass .int) (by decide +kernel)) hK hC hS kk_4 (by decide) (by decide +kernel) (by decide +kernel) (Nat.le_of_ble_eq_true rfl) (Nat.le_of_ble_eq_true rfl) dX2_init_33 (fun H hC hS => ?_)
  refine W.eq (g2 := F0 m 35 ls [.ref (b0 + 4), .ref (b0 + 1)]) rfl ?_
  refine pf_2_7 (k := 1) (x := 4) hx hb hts (by decide +kernel) hown hK hC.1 hS (by omega) kk_1 hin rfl (hts (.fieldLink RX2 25 "Opticmesh$Network" "lengths" "[I") (by decide +kernel)) dX2_init_35 (fun H locs hz hP hS => ?_)
  have hC : WC D cy b0 5 (sR S27 1 7 (some 4)) H := ⟨hP, hz.trans hC.2.1, hC.2.2.sR (by omega) _ _⟩
  generalize eS35 : sR S27 1 7 (some 4) = S35 at hC
  have hw := hw S35 eS35.symm
  refine W.widen (k := 3) (n := 12288) (by (try simp only [ll_2, ll_3, ll_4, ll_6, ll_7, ll_8, ll_9, ll_10, ll_18, ll_182, ll_183, ll_184, ll_365, ll_366]); omega) (by (try simp only [ll_2, ll_3, ll_4, ll_6, ll_7, ll_8, ll_9, ll_10, ll_18, ll_182, ll_183, ll_184, ll_365, ll_366]); omega) ?_
  exact q_cret hx hb hr hC hS hw dX2_init_38 hlocks
set_option maxHeartbeats 4000000 in
set_option maxRecDepth 100000 in
theorem c_X0_init (l : Launch) (D : va_G) (cy : Nat → ClassId) (b0 : Nat) (S : St) (P : St → Prop) (hw : wp_X0_init S P) : Met l yX0_init wsX0_init { frames := 2, cells := 2, slots := 8192, locals := 40 } (va_Pc [.ref (b0 + 181)] (WcP D cy b0 182 S)) (QC (Pv P) (WcB D cy b0 184) b0) 2 8192 (AA b0) := by
  refine Met.ofW (cc := cX0_init) (maxL := 1) (ret := none) (by decide) rfl ?_
  intro p e s m args below meth c s₁ B hml hv
  obtain ⟨hargs, hW, hC⟩ := hv
  have hx := B.exec
  have hb := B.bytes
  have hr := B.returns
  have hts := atoms_spec (ws := wsX0_init) B.pre
  have hown : s.vm.findClass RX0 = some m.cls := findClass_of_methodNamed B.named
  have hlocks := B.notSynchronized
  have hin : meth.name = "<init>" := (name_of_methodNamed B.named B.method).1
  have hK := hW.1
  have hS : va_S (AA b0) s.heap s.heap [] := va_S.rf
  have hE : entryFrame m args 1 = F0 m 0 ((lg_sl [.ref (b0 + 181)] ++ List.replicate (1 - (lg_sl [.ref (b0 + 181)]).length) Slot.unset).toArray) [] := by rw [hargs]; exact lg_entry_eq m _ _
  rw [hE]
  have hl := lv_entry [.ref (b0 + 181)] (n := 1) (Nat.le_of_ble_eq_true rfl)
  generalize (lg_sl [.ref (b0 + 181)] ++ List.replicate (1 - (lg_sl [.ref (b0 + 181)]).length) Slot.unset).toArray = ls at hl ⊢
  have hl : lv_has ls 1 [(0, .ref (b0 + 181))] := hl
  unfold wp_X0_init at hw
  refine lv_aload_n hx hb dX0_init_0 rfl (lv_at hl 0 rfl) ?_
  refine W.objInit hx hb hown (hts (.methodLink RX0 3 objectInit) (by decide +kernel)) (hts (.instanceMethod objectInit) (by decide +kernel)) (hts (.code objectInit ⟨#[0xb1]⟩ 1 none) (by decide +kernel)) rfl (by rw [hml]; exact hl.1) rfl dX0_init_1 (Nat.le_of_ble_eq_true rfl) (Nat.le_of_ble_eq_true rfl) ?_
  refine W.eq (g2 := F0 m 4 ls []) rfl ?_
  refine lv_aload_n hx hb dX0_init_4 rfl (lv_at hl 0 rfl) ?_
  refine lv_bipush (v := 12) hx hb dX0_init_5 (by decide) ?_
  refine q_newaI (N := 182) hx hb (hts (.arrayClass .int) (by decide +kernel)) hK hC hS kk_182 (by decide) (by decide +kernel) (by decide +kernel) (Nat.le_of_ble_eq_true rfl) (Nat.le_of_ble_eq_true rfl) dX0_init_7 (fun H hC hS => ?_)
  refine W.eq (g2 := F0 m 9 ls [.ref (b0 + 182), .ref (b0 + 181)]) rfl ?_
  refine pf_0_0 (k := 181) (x := 182) hx hb hts (by decide +kernel) hown hK hC.1 hS (by omega) kk_181 hin rfl (hts (.fieldLink RX0 9 "Opticmesh$Colouring" "fibres" "[I") (by decide +kernel)) dX0_init_9 (fun H locs hz hP hS => ?_)
  have hC : WC D cy b0 183 (sR S 181 0 (some 182)) H := ⟨hP, hz.trans hC.2.1, hC.2.2.sR (by omega) _ _⟩
  generalize eS9 : sR S 181 0 (some 182) = S9 at hC
  have hw := hw S9 eS9.symm
  refine lv_aload_n hx hb dX0_init_12 rfl (lv_at hl 0 rfl) ?_
  refine lv_bipush (v := 12) hx hb dX0_init_13 (by decide) ?_
  refine q_newaI (N := 183) hx hb (hts (.arrayClass .int) (by decide +kernel)) hK hC hS kk_183 (by decide) (by decide +kernel) (by decide +kernel) (Nat.le_of_ble_eq_true rfl) (Nat.le_of_ble_eq_true rfl) dX0_init_15 (fun H hC hS => ?_)
  refine W.eq (g2 := F0 m 17 ls [.ref (b0 + 183), .ref (b0 + 181)]) rfl ?_
  refine pf_0_1 (k := 181) (x := 183) hx hb hts (by decide +kernel) hown hK hC.1 hS (by omega) kk_181 hin rfl (hts (.fieldLink RX0 15 "Opticmesh$Colouring" "fibresTaken" "[I") (by decide +kernel)) dX0_init_17 (fun H locs hz hP hS => ?_)
  have hC : WC D cy b0 184 (sR S9 181 1 (some 183)) H := ⟨hP, hz.trans hC.2.1, hC.2.2.sR (by omega) _ _⟩
  generalize eS17 : sR S9 181 1 (some 183) = S17 at hC
  have hw := hw S17 eS17.symm
  refine W.widen (k := 2) (n := 8192) (by (try simp only [ll_2, ll_3, ll_4, ll_6, ll_7, ll_8, ll_9, ll_10, ll_18, ll_182, ll_183, ll_184, ll_365, ll_366]); omega) (by (try simp only [ll_2, ll_3, ll_4, ll_6, ll_7, ll_8, ll_9, ll_10, ll_18, ll_182, ll_183, ll_184, ll_365, ll_366]); omega) ?_
  exact q_cret hx hb hr hC hS hw dX0_init_20 hlocks
set_option maxHeartbeats 4000000 in
set_option maxRecDepth 100000 in
theorem c_X4_init (l : Launch) (D : va_G) (cy : Nat → ClassId) (b0 : Nat) (S : St) (P : St → Prop) (hw : wp_X4_init S P) : Met l yX4_init wsX4_init { frames := 3, cells := 175, slots := 716800, locals := 60 } (va_Pc [.ref (b0 + 5), .ref (b0 + 1)] (WcP D cy b0 6 S)) (QC (Pv P) (WcB D cy b0 181) b0) 175 716800 (AA b0) := by
  refine Met.ofW (cc := cX4_init) (maxL := 3) (ret := none) (by decide) rfl ?_
  intro p e s m args below meth c s₁ B hml hv
  obtain ⟨hargs, hW, hC⟩ := hv
  have hx := B.exec
  have hb := B.bytes
  have hr := B.returns
  have hts := atoms_spec (ws := wsX4_init) B.pre
  have hown : s.vm.findClass RX4 = some m.cls := findClass_of_methodNamed B.named
  have hlocks := B.notSynchronized
  have hin : meth.name = "<init>" := (name_of_methodNamed B.named B.method).1
  have hK := hW.1
  have hS : va_S (AA b0) s.heap s.heap [] := va_S.rf
  have hE : entryFrame m args 3 = F0 m 0 ((lg_sl [.ref (b0 + 5), .ref (b0 + 1)] ++ List.replicate (3 - (lg_sl [.ref (b0 + 5), .ref (b0 + 1)]).length) Slot.unset).toArray) [] := by rw [hargs]; exact lg_entry_eq m _ _
  rw [hE]
  have hl := lv_entry [.ref (b0 + 5), .ref (b0 + 1)] (n := 3) (Nat.le_of_ble_eq_true rfl)
  generalize (lg_sl [.ref (b0 + 5), .ref (b0 + 1)] ++ List.replicate (3 - (lg_sl [.ref (b0 + 5), .ref (b0 + 1)]).length) Slot.unset).toArray = ls at hl ⊢
  have hl : lv_has ls 3 [(0, .ref (b0 + 5)), (1, .ref (b0 + 1))] := hl
  have hAO3 : va_AO RX3 s := hW.2.2.2.2.2.2.2.2.2.2.1
  have hAO1 : va_AO RX1 s := hW.2.2.2.2.2.2.2.2.2.1
  have hAOA : (Cond.arrayOver (.array .int)).before args s = true := hW.2.2.2.2.2.2.2.2.2.2.2
  have j65 : ∀ (r i : Nat) (S : St) (H : Heap) (locs : List Loc) (ls : Array Slot), i + r = 162 → wl_X4 P r i S → WC D cy b0 (19 + i) S H → va_S (AA b0) s.heap H locs → lv_has ls 3 [(0, .ref (b0 + 5)), (1, .ref (b0 + 1)), (2, .int (nI i))] → W p l e { frames := 3, cells := 175, slots := 716800, locals := 60 } s m args below meth c H locs (13 + i) (4096 * (13 + i)) (MQ below (QC (Pv P) (WcB D cy b0 181) b0) args s 175 716800 (AA b0)) (F0 m 65 ls []) := by
    intro r
    induction r with
    | zero =>
      intro i S H locs ls hi hw hC hS hl
      have hi : i = 162 := by omega
      subst hi
      refine lv_iload_n hx hb dX4_init_65 rfl (lv_at hl 2 rfl) ?_
      refine lv_sipush (v := 162) hx hb dX4_init_66 (by decide) ?_
      refine lv_icmp_ge (x := nI 162) (y := 162) (tgt := 91) hx hb dX4_init_69 (by decide) (fun c9 => ?_) (fun c9 => absurd (by decide) c9)
      refine W.widen (k := 175) (n := 716800) (by (try simp only [ll_2, ll_3, ll_4, ll_6, ll_7, ll_8, ll_9, ll_10, ll_18, ll_182, ll_183, ll_184, ll_365, ll_366]); omega) (by (try simp only [ll_2, ll_3, ll_4, ll_6, ll_7, ll_8, ll_9, ll_10, ll_18, ll_182, ll_183, ll_184, ll_365, ll_366]); omega) ?_
      exact q_cret hx hb hr hC hS hw dX4_init_91 hlocks
    | succ r ih =>
      intro i S H locs ls hi9 hw hC hS hl
      have hi : i < 162 := by omega
      obtain ⟨hq, hw⟩ := hw
      refine lv_iload_n hx hb dX4_init_65 rfl (lv_at hl 2 rfl) ?_
      refine lv_sipush (v := 162) hx hb dX4_init_66 (by decide) ?_
      refine lv_icmp_ge (x := nI i) (y := 162) (tgt := 91) hx hb dX4_init_69 (by decide) (fun c9 => absurd c9 (nI_ge hi (by decide))) (fun c9 => ?_)
      refine lv_aload_n hx hb dX4_init_72 rfl (lv_at hl 0 rfl) ?_
      refine gf_4_11 (k := 5) hx hb hts (by decide +kernel) hown hK hC.1 (by omega) kk_5 (q := 18) hq (hts (.fieldLink RX4 32 "Opticmesh$WayFinder" "kept" "[LOpticmesh$Way;") (by decide +kernel)) dX4_init_73 ?_
      refine lv_iload_n hx hb dX4_init_76 rfl (lv_at hl 2 rfl) ?_
      refine q_new (N := 19 + i) (ci := 3) (C := RX3) (T := TX3) (NF := 5) hx hb hts (by decide +kernel) tyX3 tyX3_ok hown (hts (.classLink RX4 30 RX3) (by decide +kernel)) (hts (.instantiable RX3 5) (by decide +kernel)) (hts (.initialized RX3) (by decide +kernel)) hK hC hS rfl (new_3 (kd_W hi) hC.2.2) (fun j hj => by rcases (show j = 0 ∨ j = 1 ∨ j = 2 ∨ j = 3 ∨ j = 4 by omega) with rfl | rfl | rfl | rfl | rfl <;> rfl) (by show 13 + i + 1 ≤ 175; omega) (by show 4096 * (13 + i) + 5 ≤ 716800; omega) dX4_init_77 (fun H hC hS => ?_)
      refine lv_dup hx hb dX4_init_80 rfl ?_
      refine q_call (va_runIN (As := []) (rest := [.ref (b0 + (19 + i)), .int (nI i), .ref (b0 + 18)]) ⟨hx, hb, hml, hown, hts⟩ (c_X3_init l D cy b0 S (19 + i + 1) (19 + i) (kd_W hi) (by omega) (fun S' => S' = S) rfl) ⟨va_cnB (host := "Opticmesh") 0 hts gX4_init_X3_init_n40 rfl rfl rfl (hW.2.2.2.2.1 (RX4, 40, yX3_init, "Opticmesh") (by decide)) (hts (.initialized RX3) (by decide +kernel)) (by decide +kernel) ⟨(Nat.le_of_ble_eq_true rfl), (Nat.le_of_ble_eq_true rfl)⟩, rfl, hts (.instanceMethod yX3_init) (by decide +kernel)⟩ (q_pC hW hC hS [.ref (b0 + (19 + i))]) rfl rfl hl.1 rfl (lv_room (Nat.le_of_ble_eq_true rfl)) dX4_init_81 ⟨by show 13 + i + 1 + 0 ≤ 175; omega, by show 4096 * (13 + i) + 5 + 0 ≤ 716800; omega⟩) hS (fun v81 S81 t81 H locs hh hp hB hz hk9 hS => ?_)
      obtain ⟨rfl, rfl⟩ := hp
      have hC : WC D cy b0 (19 + i + 1) S81 H := by rw [← hh]; exact hB
      refine W.eq (g2 := F0 m 84 ls [.ref (b0 + (19 + i)), .int (nI i), .ref (b0 + 18)]) rfl ?_
      refine q_aast (z := 0) (t0 := 3) (ci := 3) (r := (RX3, TX3, 5)) (k := 18) (v := 19 + i) (n := 162) (i := nI i) hx hb hK hC.1 hS (by omega) (by omega) rfl (fun S => by have h9 := cell_10 (cy := cy) (b0 := b0) (S := S) kk_18; rw [ll_18] at h9; exact h9) rfl (by omega) (cell_3 (kd_W hi)) (vp_in_nI hi (by decide)) dX4_init_84 (fun H locs hz hP hS => ?_)
      rw [nI_clamp (by omega)] at hP
      have hC : WC D cy b0 (19 + (i + 1)) (sR S81 18 i (some (19 + i))) H := ⟨hP, hz.trans hC.2.1, hC.2.2.sR (by omega) _ _⟩
      refine lv_iinc (v := nI (i + 1)) (lv' := [(2, .int (nI (i + 1))), (0, .ref (b0 + 5)), (1, .ref (b0 + 1))]) hx hb dX4_init_85 hl (k := 2) rfl (by rw [nI_succ]; rfl) (by decide) rfl (fun ls hl => ?_)
      refine lv_goto (tgt := 65) hx hb dX4_init_88 (by decide) ?_
      refine W.widen (k := 13 + (i + 1)) (n := 4096 * (13 + (i + 1))) (by (try simp only [ll_2, ll_3, ll_4, ll_6, ll_7, ll_8, ll_9, ll_10, ll_18, ll_182, ll_183, ll_184, ll_365, ll_366]); omega) (by (try simp only [ll_2, ll_3, ll_4, ll_6, ll_7, ll_8, ll_9, ll_10, ll_18, ll_182, ll_183, ll_184, ll_365, ll_366]); omega) ?_
      exact ih (i + 1) _ _ _ _ (by omega) (hw _ rfl) hC hS (lv_sub hl [1, 2, 0] rfl)
  unfold wp_X4_init at hw
  refine lv_aload_n hx hb dX4_init_0 rfl (lv_at hl 0 rfl) ?_
  refine W.objInit hx hb hown (hts (.methodLink RX4 3 objectInit) (by decide +kernel)) (hts (.instanceMethod objectInit) (by decide +kernel)) (hts (.code objectInit ⟨#[0xb1]⟩ 1 none) (by decide +kernel)) rfl (by rw [hml]; exact hl.1) rfl dX4_init_1 (Nat.le_of_ble_eq_true rfl) (Nat.le_of_ble_eq_true rfl) ?_
  refine W.eq (g2 := F0 m 4 ls []) rfl ?_
  refine lv_aload_n hx hb dX4_init_4 rfl (lv_at hl 0 rfl) ?_
  refine lv_bipush (v := 14) hx hb dX4_init_5 (by decide) ?_
  refine q_newaI (N := 6) hx hb (hts (.arrayClass .int) (by decide +kernel)) hK hC hS kk_6 (by decide) (by decide +kernel) (by decide +kernel) (Nat.le_of_ble_eq_true rfl) (Nat.le_of_ble_eq_true rfl) dX4_init_7 (fun H hC hS => ?_)
  refine W.eq (g2 := F0 m 9 ls [.ref (b0 + 6), .ref (b0 + 5)]) rfl ?_
  refine pf_4_2 (k := 5) (x := 6) hx hb hts (by decide +kernel) hown hK hC.1 hS (by omega) kk_5 hin rfl (hts (.fieldLink RX4 9 "Opticmesh$WayFinder" "open" "[I") (by decide +kernel)) dX4_init_9 (fun H locs hz hP hS => ?_)
  have hC : WC D cy b0 7 (sR S 5 2 (some 6)) H := ⟨hP, hz.trans hC.2.1, hC.2.2.sR (by omega) _ _⟩
  generalize eS9 : sR S 5 2 (some 6) = S9 at hC
  have hw := hw S9 eS9.symm
  refine lv_aload_n hx hb dX4_init_12 rfl (lv_at hl 0 rfl) ?_
  refine lv_bipush (v := 7) hx hb dX4_init_13 (by decide) ?_
  refine q_newaI (N := 7) hx hb (hts (.arrayClass .int) (by decide +kernel)) hK hC hS kk_7 (by decide) (by decide +kernel) (by decide +kernel) (Nat.le_of_ble_eq_true rfl) (Nat.le_of_ble_eq_true rfl) dX4_init_15 (fun H hC hS => ?_)
  refine W.eq (g2 := F0 m 17 ls [.ref (b0 + 7), .ref (b0 + 5)]) rfl ?_
  refine pf_4_7 (k := 5) (x := 7) hx hb hts (by decide +kernel) hown hK hC.1 hS (by omega) kk_5 hin rfl (hts (.fieldLink RX4 15 "Opticmesh$WayFinder" "trail" "[I") (by decide +kernel)) dX4_init_17 (fun H locs hz hP hS => ?_)
  have hC : WC D cy b0 8 (sR S9 5 7 (some 7)) H := ⟨hP, hz.trans hC.2.1, hC.2.2.sR (by omega) _ _⟩
  generalize eS17 : sR S9 5 7 (some 7) = S17 at hC
  have hw := hw S17 eS17.symm
  refine lv_aload_n hx hb dX4_init_20 rfl (lv_at hl 0 rfl) ?_
  refine lv_bipush (v := 7) hx hb dX4_init_21 (by decide) ?_
  refine q_newaI (N := 8) hx hb (hts (.arrayClass .int) (by decide +kernel)) hK hC hS kk_8 (by decide) (by decide +kernel) (by decide +kernel) (Nat.le_of_ble_eq_true rfl) (Nat.le_of_ble_eq_true rfl) dX4_init_23 (fun H hC hS => ?_)
  refine W.eq (g2 := F0 m 25 ls [.ref (b0 + 8), .ref (b0 + 5)]) rfl ?_
  refine pf_4_8 (k := 5) (x := 8) hx hb hts (by decide +kernel) hown hK hC.1 hS (by omega) kk_5 hin rfl (hts (.fieldLink RX4 18 "Opticmesh$WayFinder" "openOnTrail" "[I") (by decide +kernel)) dX4_init_25 (fun H locs hz hP hS => ?_)
  have hC : WC D cy b0 9 (sR S17 5 8 (some 8)) H := ⟨hP, hz.trans hC.2.1, hC.2.2.sR (by omega) _ _⟩
  generalize eS25 : sR S17 5 8 (some 8) = S25 at hC
  have hw := hw S25 eS25.symm
  refine lv_aload_n hx hb dX4_init_28 rfl (lv_at hl 0 rfl) ?_
  refine lv_bipush (v := 7) hx hb dX4_init_29 (by decide) ?_
  refine q_newaZ (N := 9) hx hb (hts (.arrayClass .boolean) (by decide +kernel)) hK hC hS kk_9 (by decide) (by decide +kernel) (by decide +kernel) (Nat.le_of_ble_eq_true rfl) (Nat.le_of_ble_eq_true rfl) dX4_init_31 (fun H hC hS => ?_)
  refine W.eq (g2 := F0 m 33 ls [.ref (b0 + 9), .ref (b0 + 5)]) rfl ?_
  refine pf_4_9 (k := 5) (x := 9) hx hb hts (by decide +kernel) hown hK hC.1 hS (by omega) kk_5 hin rfl (hts (.fieldLink RX4 21 "Opticmesh$WayFinder" "convertsBefore" "[Z") (by decide +kernel)) dX4_init_33 (fun H locs hz hP hS => ?_)
  have hC : WC D cy b0 10 (sR S25 5 9 (some 9)) H := ⟨hP, hz.trans hC.2.1, hC.2.2.sR (by omega) _ _⟩
  generalize eS33 : sR S25 5 9 (some 9) = S33 at hC
  have hw := hw S33 eS33.symm
  refine lv_aload_n hx hb dX4_init_36 rfl (lv_at hl 0 rfl) ?_
  refine lv_bipush (v := 7) hx hb dX4_init_37 (by decide) ?_
  refine lv_bipush (v := 7) hx hb dX4_init_39 (by decide) ?_
  refine q_multi hx hb hown (hts (.classLink RX4 25 "[[I") (by decide +kernel)) hAOA (hts (.arrayClass .int) (by decide +kernel)) hK hC hS (Nat.le_of_ble_eq_true rfl) (Nat.le_of_ble_eq_true rfl) dX4_init_41 (fun H hC hS => ?_)
  generalize eS41 : mrow S33 10 7 = S41 at hC
  have hw := hw S41 eS41.symm
  refine W.eq (g2 := F0 m 45 ls [.ref (b0 + 10), .ref (b0 + 5)]) rfl ?_
  refine pf_4_10 (k := 5) (x := 10) hx hb hts (by decide +kernel) hown hK hC.1 hS (by omega) kk_5 hin rfl (hts (.fieldLink RX4 27 "Opticmesh$WayFinder" "within" "[[I") (by decide +kernel)) dX4_init_45 (fun H locs hz hP hS => ?_)
  have hC : WC D cy b0 18 (sR S41 5 10 (some 10)) H := ⟨hP, hz.trans hC.2.1, hC.2.2.sR (by omega) _ _⟩
  generalize eS45 : sR S41 5 10 (some 10) = S45 at hC
  have hw := hw S45 eS45.symm
  refine lv_aload_n hx hb dX4_init_48 rfl (lv_at hl 0 rfl) ?_
  refine lv_sipush (v := 162) hx hb dX4_init_49 (by decide) ?_
  refine q_anew (N := 18) (t0 := 3) (C := RX3) hx hb hown (hts (.classLink RX4 30 RX3) (by decide +kernel)) hAO3 hK hC hS rfl (cell_10 kk_18) (by decide) (by decide +kernel) (by decide +kernel) (Nat.le_of_ble_eq_true rfl) (Nat.le_of_ble_eq_true rfl) dX4_init_52 (fun H hC hS => ?_)
  refine W.eq (g2 := F0 m 55 ls [.ref (b0 + 18), .ref (b0 + 5)]) rfl ?_
  refine pf_4_11 (k := 5) (x := 18) hx hb hts (by decide +kernel) hown hK hC.1 hS (by omega) kk_5 hin rfl (hts (.fieldLink RX4 32 "Opticmesh$WayFinder" "kept" "[LOpticmesh$Way;") (by decide +kernel)) dX4_init_55 (fun H locs hz hP hS => ?_)
  have hC : WC D cy b0 19 (sR S45 5 11 (some 18)) H := ⟨hP, hz.trans hC.2.1, hC.2.2.sR (by omega) _ _⟩
  generalize eS55 : sR S45 5 11 (some 18) = S55 at hC
  have hw := hw S55 eS55.symm
  refine lv_aload_n hx hb dX4_init_58 rfl (lv_at hl 0 rfl) ?_
  refine lv_aload_n hx hb dX4_init_59 rfl (lv_at hl 1 rfl) ?_
  refine pf_4_3 (k := 5) (x := 1) hx hb hts (by decide +kernel) hown hK hC.1 hS (by omega) kk_5 hin rfl (hts (.fieldLink RX4 36 "Opticmesh$WayFinder" "network" "LOpticmesh$Network;") (by decide +kernel)) dX4_init_60 (fun H locs hz hP hS => ?_)
  have hC : WC D cy b0 19 (sR S55 5 3 (some 1)) H := ⟨hP, hz.trans hC.2.1, hC.2.2.sR (by omega) _ _⟩
  generalize eS60 : sR S55 5 3 (some 1) = S60 at hC
  have hw := hw S60 eS60.symm
  refine lv_iconst (v := 0) hx hb dX4_init_63 (by decide) ?_
  refine lv_istore_n (lv' := [(2, .int 0), (0, .ref (b0 + 5)), (1, .ref (b0 + 1))]) hx hb dX4_init_64 rfl hl (by decide) rfl (fun ls hl => ?_)
  refine W.widen (k := 13 + 0) (n := 4096 * (13 + 0)) (by (try simp only [ll_2, ll_3, ll_4, ll_6, ll_7, ll_8, ll_9, ll_10, ll_18, ll_182, ll_183, ll_184, ll_365, ll_366]); omega) (by (try simp only [ll_2, ll_3, ll_4, ll_6, ll_7, ll_8, ll_9, ll_10, ll_18, ll_182, ll_183, ll_184, ll_365, ll_366]); omega) ?_
  exact j65 162 0 S60 _ _ _ (by omega) hw hC hS (lv_sub hl [1, 2, 0] rfl)
set_option maxHeartbeats 4000000 in
set_option maxRecDepth 100000 in
theorem c_X5_init (l : Launch) (D : va_G) (cy : Nat → ClassId) (b0 : Nat) (S : St) (P : St → Prop) (hw : wp_X5_init S P) : Met l yX5_init wsX5_init { frames := 4, cells := 366, slots := 1499136, locals := 82 } (va_Pc [.ref (b0 + 0)] (WcP D cy b0 1 S)) (QC (Pv P) (WcB D cy b0 367) b0) 366 1499136 (AA b0) := by
  refine Met.ofW (cc := cX5_init) (maxL := 3) (ret := none) (by decide) rfl ?_
  intro p e s m args below meth c s₁ B hml hv
  obtain ⟨hargs, hW, hC⟩ := hv
  have hx := B.exec
  have hb := B.bytes
  have hr := B.returns
  have hts := atoms_spec (ws := wsX5_init) B.pre
  have hown : s.vm.findClass RX5 = some m.cls := findClass_of_methodNamed B.named
  have hlocks := B.notSynchronized
  have hin : meth.name = "<init>" := (name_of_methodNamed B.named B.method).1
  have hK := hW.1
  have hS : va_S (AA b0) s.heap s.heap [] := va_S.rf
  have hE : entryFrame m args 3 = F0 m 0 ((lg_sl [.ref (b0 + 0)] ++ List.replicate (3 - (lg_sl [.ref (b0 + 0)]).length) Slot.unset).toArray) [] := by rw [hargs]; exact lg_entry_eq m _ _
  rw [hE]
  have hl := lv_entry [.ref (b0 + 0)] (n := 3) (Nat.le_of_ble_eq_true rfl)
  generalize (lg_sl [.ref (b0 + 0)] ++ List.replicate (3 - (lg_sl [.ref (b0 + 0)]).length) Slot.unset).toArray = ls at hl ⊢
  have hl : lv_has ls 3 [(0, .ref (b0 + 0))] := hl
  have hAO3 : va_AO RX3 s := hW.2.2.2.2.2.2.2.2.2.2.1
  have hAO1 : va_AO RX1 s := hW.2.2.2.2.2.2.2.2.2.1
  have hAOA : (Cond.arrayOver (.array .int)).before args s = true := hW.2.2.2.2.2.2.2.2.2.2.2
  have j51 : ∀ (r i : Nat) (S : St) (H : Heap) (locs : List Loc) (ls : Array Slot), i + r = 60 → wl_X5 (fun S => wp_X5_init_77 S P) r i S → WC D cy b0 (185 + 3 * i) S H → va_S (AA b0) s.heap H locs → lv_has ls 3 [(0, .ref (b0 + 0)), (2, .int (nI i))] → W p l e { frames := 4, cells := 366, slots := 1499136, locals := 82 } s m args below meth c H locs (184 + 3 * i) (4096 * (184 + 3 * i)) (MQ below (QC (Pv P) (WcB D cy b0 367) b0) args s 366 1499136 (AA b0)) (F0 m 51 ls []) := by
    intro r
    induction r with
    | zero =>
      intro i S H locs ls hi hw hC hS hl
      have hi : i = 60 := by omega
      subst hi
      have hC : WC D cy b0 365 S H := hC
      refine lv_iload_n hx hb dX5_init_51 rfl (lv_at hl 1 rfl) ?_
      refine lv_bipush (v := 60) hx hb dX5_init_52 (by decide) ?_
      refine lv_icmp_ge (x := nI 60) (y := 60) (tgt := 77) hx hb dX5_init_54 (by decide) (fun c9 => ?_) (fun c9 => absurd (by decide) c9)
      have hw : wp_X5_init_77 S P := hw
      unfold wp_X5_init_77 at hw
      refine W.widen (k := 364) (n := 4096 * 364) (by (try simp only [ll_2, ll_3, ll_4, ll_6, ll_7, ll_8, ll_9, ll_10, ll_18, ll_182, ll_183, ll_184, ll_365, ll_366]); omega) (by (try simp only [ll_2, ll_3, ll_4, ll_6, ll_7, ll_8, ll_9, ll_10, ll_18, ll_182, ll_183, ll_184, ll_365, ll_366]); omega) ?_
      refine lv_aload_n hx hb dX5_init_77 rfl (lv_at hl 0 rfl) ?_
      refine lv_bipush (v := 60) hx hb dX5_init_78 (by decide) ?_
      refine q_anew (N := 365) (t0 := 2) (C := RX1) hx hb hown (hts (.classLink RX5 32 RX1) (by decide +kernel)) hAO1 hK hC hS rfl (cell_9 kk_365) (by decide) (by decide +kernel) (by decide +kernel) (Nat.le_of_ble_eq_true rfl) (Nat.le_of_ble_eq_true rfl) dX5_init_80 (fun H hC hS => ?_)
      refine W.eq (g2 := F0 m 83 ls [.ref (b0 + 365), .ref (b0 + 0)]) rfl ?_
      refine pf_5_5 (k := 0) (x := 365) hx hb hts (by decide +kernel) hown hK hC.1 hS (by omega) kk_0 hin rfl (hts (.fieldLink RX5 41 "Opticmesh" "carriers" "[LOpticmesh$Light;") (by decide +kernel)) dX5_init_83 (fun H locs hz hP hS => ?_)
      have hC : WC D cy b0 366 (sR S 0 5 (some 365)) H := ⟨hP, hz.trans hC.2.1, hC.2.2.sR (by omega) _ _⟩
      generalize eS83 : sR S 0 5 (some 365) = S83 at hC
      have hw := hw S83 eS83.symm
      refine lv_aload_n hx hb dX5_init_86 rfl (lv_at hl 0 rfl) ?_
      refine lv_bipush (v := 60) hx hb dX5_init_87 (by decide) ?_
      refine q_newaI (N := 366) hx hb (hts (.arrayClass .int) (by decide +kernel)) hK hC hS kk_366 (by decide) (by decide +kernel) (by decide +kernel) (Nat.le_of_ble_eq_true rfl) (Nat.le_of_ble_eq_true rfl) dX5_init_89 (fun H hC hS => ?_)
      refine W.eq (g2 := F0 m 91 ls [.ref (b0 + 366), .ref (b0 + 0)]) rfl ?_
      refine pf_5_6 (k := 0) (x := 366) hx hb hts (by decide +kernel) hown hK hC.1 hS (by omega) kk_0 hin rfl (hts (.fieldLink RX5 44 "Opticmesh" "demands" "[I") (by decide +kernel)) dX5_init_91 (fun H locs hz hP hS => ?_)
      have hC : WC D cy b0 367 (sR S83 0 6 (some 366)) H := ⟨hP, hz.trans hC.2.1, hC.2.2.sR (by omega) _ _⟩
      generalize eS91 : sR S83 0 6 (some 366) = S91 at hC
      have hw := hw S91 eS91.symm
      refine W.widen (k := 366) (n := 1499136) (by (try simp only [ll_2, ll_3, ll_4, ll_6, ll_7, ll_8, ll_9, ll_10, ll_18, ll_182, ll_183, ll_184, ll_365, ll_366]); omega) (by (try simp only [ll_2, ll_3, ll_4, ll_6, ll_7, ll_8, ll_9, ll_10, ll_18, ll_182, ll_183, ll_184, ll_365, ll_366]); omega) ?_
      exact q_cret hx hb hr hC hS hw dX5_init_94 hlocks
    | succ r ih =>
      intro i S H locs ls hi9 hw hC hS hl
      have hi : i < 60 := by omega
      obtain ⟨hq, hw⟩ := hw
      refine lv_iload_n hx hb dX5_init_51 rfl (lv_at hl 1 rfl) ?_
      refine lv_bipush (v := 60) hx hb dX5_init_52 (by decide) ?_
      refine lv_icmp_ge (x := nI i) (y := 60) (tgt := 77) hx hb dX5_init_54 (by decide) (fun c9 => absurd c9 (nI_ge hi (by decide))) (fun c9 => ?_)
      refine lv_aload_n hx hb dX5_init_57 rfl (lv_at hl 0 rfl) ?_
      refine gf_5_3 (k := 0) hx hb hts (by decide +kernel) hown hK hC.1 (by omega) kk_0 (q := 184) hq (hts (.fieldLink RX5 34 "Opticmesh" "lightList" "[LOpticmesh$Light;") (by decide +kernel)) dX5_init_58 ?_
      refine lv_iload_n hx hb dX5_init_61 rfl (lv_at hl 1 rfl) ?_
      refine q_new (N := 185 + 3 * i) (ci := 1) (C := RX1) (T := TX1) (NF := 7) hx hb hts (by decide +kernel) tyX1 tyX1_ok hown (hts (.classLink RX5 32 RX1) (by decide +kernel)) (hts (.instantiable RX1 7) (by decide +kernel)) (hts (.initialized RX1) (by decide +kernel)) hK hC hS rfl (new_1 (kd_Li hi) hC.2.2) (fun j hj => by rcases (show j = 0 ∨ j = 1 ∨ j = 2 ∨ j = 3 ∨ j = 4 ∨ j = 5 ∨ j = 6 by omega) with rfl | rfl | rfl | rfl | rfl | rfl | rfl <;> rfl) (by show 184 + 3 * i + 1 ≤ 366; omega) (by show 4096 * (184 + 3 * i) + 7 ≤ 1499136; omega) dX5_init_62 (fun H hC hS => ?_)
      refine lv_dup hx hb dX5_init_65 rfl ?_
      refine lv_iload_n hx hb dX5_init_66 rfl (lv_at hl 1 rfl) ?_
      refine q_call (va_runI (As := [.int (nI i)]) (rest := [.ref (b0 + (185 + 3 * i)), .int (nI i), .ref (b0 + 184)]) ⟨hx, hb, hml, hown, hts⟩ (c_X1_init l D cy b0 S (185 + 3 * i) (nI i) (kd_Li hi) _ hw) (cwI 1 hts gX5_init_X1_init rfl rfl rfl (hts (.initialized RX1) (by decide +kernel)) (hts (.methodLink RX5 38 yX1_init) (by decide +kernel)) (hts (.instanceMethod yX1_init) (by decide +kernel)) rfl (by decide +kernel) ⟨(Nat.le_of_ble_eq_true rfl), (Nat.le_of_ble_eq_true rfl)⟩) (q_pC hW hC hS [.ref (b0 + (185 + 3 * i)), .int (nI i)]) rfl rfl hl.1 rfl (lv_room (Nat.le_of_ble_eq_true rfl)) dX5_init_67 ⟨by show 184 + 3 * i + 1 + 2 ≤ 366; omega, by show 4096 * (184 + 3 * i) + 7 + 8192 ≤ 1499136; omega⟩) hS (fun v67 S67 t67 H locs hh hp hB hz hk9 hS => ?_)
      obtain ⟨rfl, hw⟩ := hp
      have hC : WC D cy b0 (185 + 3 * i + 3) S67 H := by rw [← hh]; exact hB
      refine W.eq (g2 := F0 m 70 ls [.ref (b0 + (185 + 3 * i)), .int (nI i), .ref (b0 + 184)]) rfl ?_
      refine q_aast (z := 0) (t0 := 2) (ci := 1) (r := (RX1, TX1, 7)) (k := 184) (v := 185 + 3 * i) (n := 60) (i := nI i) hx hb hK hC.1 hS (by omega) (by omega) rfl (fun S => by have h9 := cell_9 (cy := cy) (b0 := b0) (S := S) kk_184; rw [ll_184] at h9; exact h9) rfl (by omega) (cell_1 (kd_Li hi)) (vp_in_nI hi (by decide)) dX5_init_70 (fun H locs hz hP hS => ?_)
      rw [nI_clamp (by omega)] at hP
      have hC : WC D cy b0 (185 + 3 * (i + 1)) (sR S67 184 i (some (185 + 3 * i))) H := ⟨hP, hz.trans hC.2.1, hC.2.2.sR (by omega) _ _⟩
      refine lv_iinc (v := nI (i + 1)) (lv' := [(2, .int (nI (i + 1))), (0, .ref (b0 + 0))]) hx hb dX5_init_71 hl (k := 1) rfl (by rw [nI_succ]; rfl) (by decide) rfl (fun ls hl => ?_)
      refine lv_goto (tgt := 51) hx hb dX5_init_74 (by decide) ?_
      refine W.widen (k := 184 + 3 * (i + 1)) (n := 4096 * (184 + 3 * (i + 1))) (by (try simp only [ll_2, ll_3, ll_4, ll_6, ll_7, ll_8, ll_9, ll_10, ll_18, ll_182, ll_183, ll_184, ll_365, ll_366]); omega) (by (try simp only [ll_2, ll_3, ll_4, ll_6, ll_7, ll_8, ll_9, ll_10, ll_18, ll_182, ll_183, ll_184, ll_365, ll_366]); omega) ?_
      exact ih (i + 1) _ _ _ _ (by omega) (hw _ rfl) hC hS (lv_sub hl [1, 0] rfl)
  unfold wp_X5_init at hw
  refine lv_aload_n hx hb dX5_init_0 rfl (lv_at hl 0 rfl) ?_
  refine W.objInit hx hb hown (hts (.methodLink RX5 3 objectInit) (by decide +kernel)) (hts (.instanceMethod objectInit) (by decide +kernel)) (hts (.code objectInit ⟨#[0xb1]⟩ 1 none) (by decide +kernel)) rfl (by rw [hml]; exact hl.1) rfl dX5_init_1 (Nat.le_of_ble_eq_true rfl) (Nat.le_of_ble_eq_true rfl) ?_
  refine W.eq (g2 := F0 m 4 ls []) rfl ?_
  refine q_new (N := 1) (ci := 2) (C := RX2) (T := TX2) (NF := 8) hx hb hts (by decide +kernel) tyX2 tyX2_ok hown (hts (.classLink RX5 9 RX2) (by decide +kernel)) (hts (.instantiable RX2 8) (by decide +kernel)) (hts (.initialized RX2) (by decide +kernel)) hK hC hS rfl (new_2 kk_1 hC.2.2) (fun j hj => by rcases (show j = 0 ∨ j = 1 ∨ j = 2 ∨ j = 3 ∨ j = 4 ∨ j = 5 ∨ j = 6 ∨ j = 7 by omega) with rfl | rfl | rfl | rfl | rfl | rfl | rfl | rfl <;> rfl) (Nat.le_of_ble_eq_true rfl) (Nat.le_of_ble_eq_true rfl) dX5_init_4 (fun H hC hS => ?_)
  refine W.eq (g2 := F0 m 7 ls [.ref (b0 + 1)]) rfl ?_
  refine lv_dup hx hb dX5_init_7 rfl ?_
  refine q_call (va_runIN (As := []) (rest := [.ref (b0 + 1)]) ⟨hx, hb, hml, hown, hts⟩ (c_X2_init l D cy b0 S _ hw) ⟨va_cnB (host := "Opticmesh") 0 hts gX5_init_X2_init_n11 rfl rfl rfl (hW.2.2.2.2.1 (RX5, 11, yX2_init, "Opticmesh") (by decide)) (hts (.initialized RX2) (by decide +kernel)) (by decide +kernel) ⟨(Nat.le_of_ble_eq_true rfl), (Nat.le_of_ble_eq_true rfl)⟩, rfl, hts (.instanceMethod yX2_init) (by decide +kernel)⟩ (q_pC hW hC hS (.ref (b0 + 1) :: [])) rfl rfl hl.1 rfl (lv_room (Nat.le_of_ble_eq_true rfl)) dX5_init_8 ⟨(Nat.le_of_ble_eq_true rfl), (Nat.le_of_ble_eq_true rfl)⟩) hS (fun v8 S8 t8 H locs hh hp hB hz hk9 hS => ?_)
  obtain ⟨rfl, hw⟩ := hp
  have hC : WC D cy b0 5 S8 H := by rw [← hh]; exact hB
  try dsimp only at hw
  refine W.eq (g2 := F0 m 11 ls [.ref (b0 + 1)]) rfl ?_
  refine lv_astore_n (lv' := [(1, .ref (b0 + 1)), (0, .ref (b0 + 0))]) hx hb dX5_init_11 rfl hl (by decide) rfl (fun ls hl => ?_)
  refine lv_aload_n hx hb dX5_init_12 rfl (lv_at hl 1 rfl) ?_
  refine lv_aload_n hx hb dX5_init_13 rfl (lv_at hl 0 rfl) ?_
  refine pf_5_0 (k := 0) (x := 1) hx hb hts (by decide +kernel) hown hK hC.1 hS (by omega) kk_0 hin rfl (hts (.fieldLink RX5 12 "Opticmesh" "network" "LOpticmesh$Network;") (by decide +kernel)) dX5_init_14 (fun H locs hz hP hS => ?_)
  have hC : WC D cy b0 5 (sR S8 0 0 (some 1)) H := ⟨hP, hz.trans hC.2.1, hC.2.2.sR (by omega) _ _⟩
  generalize eS14 : sR S8 0 0 (some 1) = S14 at hC
  have hw := hw S14 eS14.symm
  refine lv_aload_n hx hb dX5_init_17 rfl (lv_at hl 1 rfl) ?_
  refine q_new (N := 5) (ci := 4) (C := RX4) (T := TX4) (NF := 13) hx hb hts (by decide +kernel) tyX4 tyX4_ok hown (hts (.classLink RX5 16 RX4) (by decide +kernel)) (hts (.instantiable RX4 13) (by decide +kernel)) (hts (.initialized RX4) (by decide +kernel)) hK hC hS rfl (new_4 kk_5 hC.2.2) (fun j hj => by rcases (show j = 0 ∨ j = 1 ∨ j = 2 ∨ j = 3 ∨ j = 4 ∨ j = 5 ∨ j = 6 ∨ j = 7 ∨ j = 8 ∨ j = 9 ∨ j = 10 ∨ j = 11 ∨ j = 12 by omega) with rfl | rfl | rfl | rfl | rfl | rfl | rfl | rfl | rfl | rfl | rfl | rfl | rfl <;> rfl) (Nat.le_of_ble_eq_true rfl) (Nat.le_of_ble_eq_true rfl) dX5_init_18 (fun H hC hS => ?_)
  refine W.eq (g2 := F0 m 21 ls [.ref (b0 + 5), .ref (b0 + 0)]) rfl ?_
  refine lv_dup hx hb dX5_init_21 rfl ?_
  refine lv_aload_n hx hb dX5_init_22 rfl (lv_at hl 0 rfl) ?_
  refine q_call (va_runI (As := [.ref (b0 + 1)]) (rest := [.ref (b0 + 5), .ref (b0 + 0)]) ⟨hx, hb, hml, hown, hts⟩ (c_X4_init l D cy b0 S14 _ hw) (cwI 1 hts gX5_init_X4_init rfl rfl rfl (hts (.initialized RX4) (by decide +kernel)) (hts (.methodLink RX5 18 yX4_init) (by decide +kernel)) (hts (.instanceMethod yX4_init) (by decide +kernel)) rfl (by decide +kernel) ⟨(Nat.le_of_ble_eq_true rfl), (Nat.le_of_ble_eq_true rfl)⟩) (q_pC hW hC hS (.ref (b0 + 5) :: [.ref (b0 + 1)])) rfl rfl hl.1 rfl (lv_room (Nat.le_of_ble_eq_true rfl)) dX5_init_23 ⟨(Nat.le_of_ble_eq_true rfl), (Nat.le_of_ble_eq_true rfl)⟩) hS (fun v23 S23 t23 H locs hh hp hB hz hk9 hS => ?_)
  obtain ⟨rfl, hw⟩ := hp
  have hC : WC D cy b0 181 S23 H := by rw [← hh]; exact hB
  try dsimp only at hw
  refine W.eq (g2 := F0 m 26 ls [.ref (b0 + 5), .ref (b0 + 0)]) rfl ?_
  refine pf_5_1 (k := 0) (x := 5) hx hb hts (by decide +kernel) hown hK hC.1 hS (by omega) kk_0 hin rfl (hts (.fieldLink RX5 21 "Opticmesh" "finder" "LOpticmesh$WayFinder;") (by decide +kernel)) dX5_init_26 (fun H locs hz hP hS => ?_)
  have hC : WC D cy b0 181 (sR S23 0 1 (some 5)) H := ⟨hP, hz.trans hC.2.1, hC.2.2.sR (by omega) _ _⟩
  generalize eS26 : sR S23 0 1 (some 5) = S26 at hC
  have hw := hw S26 eS26.symm
  refine lv_aload_n hx hb dX5_init_29 rfl (lv_at hl 1 rfl) ?_
  refine q_new (N := 181) (ci := 0) (C := RX0) (T := TX0) (NF := 3) hx hb hts (by decide +kernel) tyX0 tyX0_ok hown (hts (.classLink RX5 25 RX0) (by decide +kernel)) (hts (.instantiable RX0 3) (by decide +kernel)) (hts (.initialized RX0) (by decide +kernel)) hK hC hS rfl (new_0 kk_181 hC.2.2) (fun j hj => by rcases (show j = 0 ∨ j = 1 ∨ j = 2 by omega) with rfl | rfl | rfl <;> rfl) (Nat.le_of_ble_eq_true rfl) (Nat.le_of_ble_eq_true rfl) dX5_init_30 (fun H hC hS => ?_)
  refine W.eq (g2 := F0 m 33 ls [.ref (b0 + 181), .ref (b0 + 0)]) rfl ?_
  refine lv_dup hx hb dX5_init_33 rfl ?_
  refine q_call (va_runIN (As := []) (rest := [.ref (b0 + 181), .ref (b0 + 0)]) ⟨hx, hb, hml, hown, hts⟩ (c_X0_init l D cy b0 S26 _ hw) ⟨va_cnB (host := "Opticmesh") 0 hts gX5_init_X0_init_n27 rfl rfl rfl (hW.2.2.2.2.1 (RX5, 27, yX0_init, "Opticmesh") (by decide)) (hts (.initialized RX0) (by decide +kernel)) (by decide +kernel) ⟨(Nat.le_of_ble_eq_true rfl), (Nat.le_of_ble_eq_true rfl)⟩, rfl, hts (.instanceMethod yX0_init) (by decide +kernel)⟩ (q_pC hW hC hS (.ref (b0 + 181) :: [])) rfl rfl hl.1 rfl (lv_room (Nat.le_of_ble_eq_true rfl)) dX5_init_34 ⟨(Nat.le_of_ble_eq_true rfl), (Nat.le_of_ble_eq_true rfl)⟩) hS (fun v34 S34 t34 H locs hh hp hB hz hk9 hS => ?_)
  obtain ⟨rfl, hw⟩ := hp
  have hC : WC D cy b0 184 S34 H := by rw [← hh]; exact hB
  try dsimp only at hw
  refine W.eq (g2 := F0 m 37 ls [.ref (b0 + 181), .ref (b0 + 0)]) rfl ?_
  refine pf_5_2 (k := 0) (x := 181) hx hb hts (by decide +kernel) hown hK hC.1 hS (by omega) kk_0 hin rfl (hts (.fieldLink RX5 28 "Opticmesh" "colouring" "LOpticmesh$Colouring;") (by decide +kernel)) dX5_init_37 (fun H locs hz hP hS => ?_)
  have hC : WC D cy b0 184 (sR S34 0 2 (some 181)) H := ⟨hP, hz.trans hC.2.1, hC.2.2.sR (by omega) _ _⟩
  generalize eS37 : sR S34 0 2 (some 181) = S37 at hC
  have hw := hw S37 eS37.symm
  refine lv_aload_n hx hb dX5_init_40 rfl (lv_at hl 1 rfl) ?_
  refine lv_bipush (v := 60) hx hb dX5_init_41 (by decide) ?_
  refine q_anew (N := 184) (t0 := 2) (C := RX1) hx hb hown (hts (.classLink RX5 32 RX1) (by decide +kernel)) hAO1 hK hC hS rfl (cell_9 kk_184) (by decide) (by decide +kernel) (by decide +kernel) (Nat.le_of_ble_eq_true rfl) (Nat.le_of_ble_eq_true rfl) dX5_init_43 (fun H hC hS => ?_)
  refine W.eq (g2 := F0 m 46 ls [.ref (b0 + 184), .ref (b0 + 0)]) rfl ?_
  refine pf_5_3 (k := 0) (x := 184) hx hb hts (by decide +kernel) hown hK hC.1 hS (by omega) kk_0 hin rfl (hts (.fieldLink RX5 34 "Opticmesh" "lightList" "[LOpticmesh$Light;") (by decide +kernel)) dX5_init_46 (fun H locs hz hP hS => ?_)
  have hC : WC D cy b0 185 (sR S37 0 3 (some 184)) H := ⟨hP, hz.trans hC.2.1, hC.2.2.sR (by omega) _ _⟩
  generalize eS46 : sR S37 0 3 (some 184) = S46 at hC
  have hw := hw S46 eS46.symm
  refine lv_iconst (v := 0) hx hb dX5_init_49 (by decide) ?_
  refine lv_istore_n (lv' := [(2, .int 0), (1, .ref (b0 + 1)), (0, .ref (b0 + 0))]) hx hb dX5_init_50 rfl hl (by decide) rfl (fun ls hl => ?_)
  refine W.widen (k := 184 + 3 * 0) (n := 4096 * (184 + 3 * 0)) (by (try simp only [ll_2, ll_3, ll_4, ll_6, ll_7, ll_8, ll_9, ll_10, ll_18, ll_182, ll_183, ll_184, ll_365, ll_366]); omega) (by (try simp only [ll_2, ll_3, ll_4, ll_6, ll_7, ll_8, ll_9, ll_10, ll_18, ll_182, ll_183, ll_184, ll_365, ll_366]); omega) ?_
  exact j51 60 0 S46 _ _ _ (by omega) hw hC hS (lv_sub hl [2, 0] rfl)

