/-! THE LAW: its loop -/
def wp_L_law_1325 (xs : Nat → Int32) (L : Nat) (K28 : St → Int32 → Prop) (S : St) (a5 : Int32) : Prop := (∀ y1325 : Int32, y1325 = a5 + 5 → (K28 S y1325))
def wp_L_law_330 (xs : Nat → Int32) (L : Nat) (K28 : St → Int32 → Prop) (S : St) (a5 : Int32) (t0 : Int64) (t1 : Int64) : Prop := (if (lg_cmp t0 t1) = 0 then (wp_L_law_1325 xs L K28 S a5) else False)
def wp_L_law_28 (xs : Nat → Int32) (L : Nat) : Nat → St → Int32 → Prop
  | 0 => fun _ _ => False
  | n + 1 => fun S a5 => (if ((nI L) - 5) < a5 then True else (vp_in a5 L ∧ (if ((xs (a5.toNatClampNeg)) &&& 31) = 0 then (vp_in (a5 + 1) L ∧ (vp_in (a5 + 2) L ∧ (wp_L_begin S (xs ((a5 + 1).toNatClampNeg)) (xs ((a5 + 2).toNatClampNeg)) (fun r161 S161 => (vp_in (a5 + 1) L ∧ (vp_in (a5 + 2) L ∧ (wp_X6_begin S161 (xs ((a5 + 1).toNatClampNeg)) (xs ((a5 + 2).toNatClampNeg)) (fun S179 => (wp_X6_thrown S179 (fun r183 S183 => (if r183 = r161 then (wp_L_law_1325 xs L (fun S a5 => wp_L_law_28 xs L n S a5) S183 a5) else False))))))))))) else (if ((xs (a5.toNatClampNeg)) &&& 31) = 1 then (vp_in (a5 + 1) L ∧ (vp_in (a5 + 2) L ∧ (vp_in (a5 + 3) L ∧ (wp_L_addFibre S (xs ((a5 + 1).toNatClampNeg)) (xs ((a5 + 2).toNatClampNeg)) (xs ((a5 + 3).toNatClampNeg)) (fun r216 S216 => (vp_in (a5 + 1) L ∧ (vp_in (a5 + 2) L ∧ (vp_in (a5 + 3) L ∧ (wp_X6_addFibre S216 (xs ((a5 + 1).toNatClampNeg)) (xs ((a5 + 2).toNatClampNeg)) (xs ((a5 + 3).toNatClampNeg)) (fun r240 S240 => (wp_X6_thrown S240 (fun r246 S246 => (if r246 = r216 then (if r216 = 0 then (vp_in 0 1 ∧ (if (lg_cmp (gJ S246 390 ((0 : Int32).toNatClampNeg)) (r240.toInt64)) = 0 then (wp_L_law_1325 xs L (fun S a5 => wp_L_law_28 xs L n S a5) S246 a5) else False)) else (wp_L_law_1325 xs L (fun S a5 => wp_L_law_28 xs L n S a5) S246 a5)) else False))))))))))))) else (if ((xs (a5.toNatClampNeg)) &&& 31) = 2 then (vp_in (a5 + 1) L ∧ (wp_L_toggleConverter S (xs ((a5 + 1).toNatClampNeg)) (fun r284 S284 => (vp_in (a5 + 1) L ∧ (wp_X6_toggleConverter S284 (xs ((a5 + 1).toNatClampNeg)) (fun r296 S296 => (wp_X6_thrown S296 (fun r302 S302 => (if r302 = r284 then (if r284 = 0 then (vp_in 0 1 ∧ (if r296 = true then (wp_L_law_330 xs L (fun S a5 => wp_L_law_28 xs L n S a5) S302 a5 (gJ S302 390 ((0 : Int32).toNatClampNeg)) 1) else (wp_L_law_330 xs L (fun S a5 => wp_L_law_28 xs L n S a5) S302 a5 (gJ S302 390 ((0 : Int32).toNatClampNeg)) 0))) else (wp_L_law_1325 xs L (fun S a5 => wp_L_law_28 xs L n S a5) S302 a5)) else False))))))))) else (if ((xs (a5.toNatClampNeg)) &&& 31) = 3 then (vp_in (a5 + 1) L ∧ (wp_L_cut S (xs ((a5 + 1).toNatClampNeg)) (fun r347 S347 => (vp_in (a5 + 1) L ∧ (wp_X6_cut S347 (xs ((a5 + 1).toNatClampNeg)) (fun r359 S359 => (wp_X6_thrown S359 (fun r365 S365 => (if r365 = r347 then (if r347 = 0 then (vp_in 0 1 ∧ (if (lg_cmp (gJ S365 390 ((0 : Int32).toNatClampNeg)) (r359.toInt64)) = 0 then (wp_L_law_1325 xs L (fun S a5 => wp_L_law_28 xs L n S a5) S365 a5) else False)) else (wp_L_law_1325 xs L (fun S a5 => wp_L_law_28 xs L n S a5) S365 a5)) else False))))))))) else (if ((xs (a5.toNatClampNeg)) &&& 31) = 4 then (vp_in (a5 + 1) L ∧ (wp_L_repair S (xs ((a5 + 1).toNatClampNeg)) (fun r403 S403 => (vp_in (a5 + 1) L ∧ (wp_X6_repair S403 (xs ((a5 + 1).toNatClampNeg)) (fun r415 S415 => (wp_X6_thrown S415 (fun r421 S421 => (if r421 = r403 then (if r403 = 0 then (vp_in 0 1 ∧ (if (lg_cmp (gJ S421 390 ((0 : Int32).toNatClampNeg)) (r415.toInt64)) = 0 then (wp_L_law_1325 xs L (fun S a5 => wp_L_law_28 xs L n S a5) S421 a5) else False)) else (wp_L_law_1325 xs L (fun S a5 => wp_L_law_28 xs L n S a5) S421 a5)) else False))))))))) else (if ((xs (a5.toNatClampNeg)) &&& 31) = 5 then (vp_in (a5 + 1) L ∧ (vp_in (a5 + 2) L ∧ (wp_L_lightOn S (xs ((a5 + 1).toNatClampNeg)) (xs ((a5 + 2).toNatClampNeg)) (fun r465 S465 => (vp_in (a5 + 1) L ∧ (vp_in (a5 + 2) L ∧ (wp_X6_lightOn S465 (xs ((a5 + 1).toNatClampNeg)) (xs ((a5 + 2).toNatClampNeg)) (fun r483 S483 => (wp_X6_thrown S483 (fun r489 S489 => (if r489 = r465 then (if r465 = 0 then (vp_in 0 1 ∧ (if (lg_cmp (gJ S489 390 ((0 : Int32).toNatClampNeg)) (r483.toInt64)) = 0 then (wp_L_law_1325 xs L (fun S a5 => wp_L_law_28 xs L n S a5) S489 a5) else False)) else (wp_L_law_1325 xs L (fun S a5 => wp_L_law_28 xs L n S a5) S489 a5)) else False))))))))))) else (if ((xs (a5.toNatClampNeg)) &&& 31) = 6 then (wp_X5_load S (fun r520 S520 => (wp_X6_load S520 (fun r524 S524 => (if r520 = r524 then (wp_L_law_1325 xs L (fun S a5 => wp_L_law_28 xs L n S a5) S524 a5) else False))))) else (if ((xs (a5.toNatClampNeg)) &&& 31) = 7 then (wp_L_usage S (fun r535 S535 => (wp_X6_usage S535 (fun r541 S541 => (wp_X6_thrown S541 (fun r547 S547 => (if r547 = r535 then (if r535 = 0 then (vp_in 0 1 ∧ (vf_n64 (FP.f2d r541) ∧ (if (Op.cmpValue (FP.dcmp (gD S547 391 ((0 : Int32).toNatClampNeg)) (FP.f2d r541)) .l) = 0 then (wp_L_law_1325 xs L (fun S a5 => wp_L_law_28 xs L n S a5) S547 a5) else (vp_in 0 1 ∧ (vp_in 0 1 ∧ (if (Op.cmpValue (FP.dcmp (gD S547 391 ((0 : Int32).toNatClampNeg)) (gD S547 391 ((0 : Int32).toNatClampNeg))) .l) = 0 then False else (if (Op.cmpValue (FP.fcmp r541 r541) .l) = 0 then False else (wp_L_law_1325 xs L (fun S a5 => wp_L_law_28 xs L n S a5) S547 a5)))))))) else (wp_L_law_1325 xs L (fun S a5 => wp_L_law_28 xs L n S a5) S547 a5)) else False))))))) else (if ((xs (a5.toNatClampNeg)) &&& 31) = 8 then (vp_in (a5 + 1) L ∧ (vp_in (a5 + 2) L ∧ (vp_in (a5 + 3) L ∧ (vp_in (a5 + 4) L ∧ (wp_L_request S (xs ((a5 + 1).toNatClampNeg)) (xs ((a5 + 2).toNatClampNeg)) (xs ((a5 + 3).toNatClampNeg)) (xs ((a5 + 4).toNatClampNeg)) (fun r624 S624 => (vp_in (a5 + 1) L ∧ (vp_in (a5 + 2) L ∧ (vp_in (a5 + 3) L ∧ (vp_in (a5 + 4) L ∧ (wp_X6_request S624 (xs ((a5 + 1).toNatClampNeg)) (xs ((a5 + 2).toNatClampNeg)) (xs ((a5 + 3).toNatClampNeg)) (xs ((a5 + 4).toNatClampNeg)) (fun r654 S654 => (wp_X6_thrown S654 (fun r660 S660 => (if r660 = r624 then (if r624 = 0 then (vp_in 0 1 ∧ (if (lg_cmp (gJ S660 390 ((0 : Int32).toNatClampNeg)) (r654.toInt64)) = 0 then (wp_L_law_1325 xs L (fun S a5 => wp_L_law_28 xs L n S a5) S660 a5) else False)) else (wp_L_law_1325 xs L (fun S a5 => wp_L_law_28 xs L n S a5) S660 a5)) else False))))))))))))))) else (if ((xs (a5.toNatClampNeg)) &&& 31) = 9 then (vp_in (a5 + 1) L ∧ (vp_in (a5 + 2) L ∧ (vp_in (a5 + 3) L ∧ (wp_L_newLength S (xs ((a5 + 1).toNatClampNeg)) (xs ((a5 + 2).toNatClampNeg)) (xs ((a5 + 3).toNatClampNeg)) (fun r710 S710 => (vp_in (a5 + 1) L ∧ (vp_in (a5 + 2) L ∧ (vp_in (a5 + 3) L ∧ (wp_X6_newLength S710 (xs ((a5 + 1).toNatClampNeg)) (xs ((a5 + 2).toNatClampNeg)) (xs ((a5 + 3).toNatClampNeg)) (fun r734 S734 => (wp_X6_thrown S734 (fun r740 S740 => (if r740 = r710 then (if r710 = 0 then (vp_in 0 1 ∧ (if (lg_cmp (gJ S740 390 ((0 : Int32).toNatClampNeg)) (r734.toInt64)) = 0 then (wp_L_law_1325 xs L (fun S a5 => wp_L_law_28 xs L n S a5) S740 a5) else False)) else (wp_L_law_1325 xs L (fun S a5 => wp_L_law_28 xs L n S a5) S740 a5)) else False))))))))))))) else (if ((xs (a5.toNatClampNeg)) &&& 31) = 10 then (vp_in (a5 + 1) L ∧ (wp_L_release S (xs ((a5 + 1).toNatClampNeg)) (fun r778 S778 => (vp_in (a5 + 1) L ∧ (wp_X6_release S778 (xs ((a5 + 1).toNatClampNeg)) (fun r790 S790 => (wp_X6_thrown S790 (fun r796 S796 => (if r796 = r778 then (if r778 = 0 then (vp_in 0 1 ∧ (if (lg_cmp (gJ S796 390 ((0 : Int32).toNatClampNeg)) (r790.toInt64)) = 0 then (wp_L_law_1325 xs L (fun S a5 => wp_L_law_28 xs L n S a5) S796 a5) else False)) else (wp_L_law_1325 xs L (fun S a5 => wp_L_law_28 xs L n S a5) S796 a5)) else False))))))))) else (if ((xs (a5.toNatClampNeg)) &&& 31) = 11 then (vp_in (a5 + 1) L ∧ (wp_L_lightOf S (xs ((a5 + 1).toNatClampNeg)) (fun r834 S834 => (vp_in (a5 + 1) L ∧ (wp_X6_lightOf S834 (xs ((a5 + 1).toNatClampNeg)) (fun r846 S846 => (wp_X6_thrown S846 (fun r852 S852 => (if r852 = r834 then (if r834 = 0 then (vp_in 0 1 ∧ (if (lg_cmp (gJ S852 390 ((0 : Int32).toNatClampNeg)) (r846.toInt64)) = 0 then (wp_L_law_1325 xs L (fun S a5 => wp_L_law_28 xs L n S a5) S852 a5) else False)) else (wp_L_law_1325 xs L (fun S a5 => wp_L_law_28 xs L n S a5) S852 a5)) else False))))))))) else (if ((xs (a5.toNatClampNeg)) &&& 31) = 12 then (wp_X5_requests S (fun r883 S883 => (wp_X6_requests S883 (fun r887 S887 => (if r883 = r887 then (wp_L_law_1325 xs L (fun S a5 => wp_L_law_28 xs L n S a5) S887 a5) else False))))) else (if ((xs (a5.toNatClampNeg)) &&& 31) = 13 then (wp_X5_lights S (fun r896 S896 => (wp_X6_lights S896 (fun r900 S900 => (if r896 = r900 then (wp_L_law_1325 xs L (fun S a5 => wp_L_law_28 xs L n S a5) S900 a5) else False))))) else (if ((xs (a5.toNatClampNeg)) &&& 31) = 14 then (vp_in (a5 + 1) L ∧ (wp_L_state S (xs ((a5 + 1).toNatClampNeg)) (fun r916 S916 => (vp_in (a5 + 1) L ∧ (wp_X6_state S916 (xs ((a5 + 1).toNatClampNeg)) (fun r928 S928 => (wp_X6_thrown S928 (fun r934 S934 => (if r934 = r916 then (if r916 = 0 then (vp_in 0 1 ∧ (if (lg_cmp (gJ S934 390 ((0 : Int32).toNatClampNeg)) (r928.toInt64)) = 0 then (wp_L_law_1325 xs L (fun S a5 => wp_L_law_28 xs L n S a5) S934 a5) else False)) else (wp_L_law_1325 xs L (fun S a5 => wp_L_law_28 xs L n S a5) S934 a5)) else False))))))))) else (if ((xs (a5.toNatClampNeg)) &&& 31) = 15 then (vp_in (a5 + 1) L ∧ (wp_L_units S (xs ((a5 + 1).toNatClampNeg)) (fun r972 S972 => (vp_in (a5 + 1) L ∧ (wp_X6_units S972 (xs ((a5 + 1).toNatClampNeg)) (fun r984 S984 => (wp_X6_thrown S984 (fun r990 S990 => (if r990 = r972 then (if r972 = 0 then (vp_in 0 1 ∧ (if (lg_cmp (gJ S990 390 ((0 : Int32).toNatClampNeg)) (r984.toInt64)) = 0 then (wp_L_law_1325 xs L (fun S a5 => wp_L_law_28 xs L n S a5) S990 a5) else False)) else (wp_L_law_1325 xs L (fun S a5 => wp_L_law_28 xs L n S a5) S990 a5)) else False))))))))) else (if ((xs (a5.toNatClampNeg)) &&& 31) = 16 then (vp_in (a5 + 1) L ∧ (vp_in (a5 + 2) L ∧ (wp_L_channels S (xs ((a5 + 1).toNatClampNeg)) (xs ((a5 + 2).toNatClampNeg)) (fun r1034 S1034 => (vp_in (a5 + 1) L ∧ (vp_in (a5 + 2) L ∧ (wp_X6_channels S1034 (xs ((a5 + 1).toNatClampNeg)) (xs ((a5 + 2).toNatClampNeg)) (fun r1052 S1052 => (wp_X6_thrown S1052 (fun r1058 S1058 => (if r1058 = r1034 then (if r1034 = 0 then (vp_in 0 1 ∧ (if (lg_cmp (gJ S1058 390 ((0 : Int32).toNatClampNeg)) (r1052.toInt64)) = 0 then (wp_L_law_1325 xs L (fun S a5 => wp_L_law_28 xs L n S a5) S1058 a5) else False)) else (wp_L_law_1325 xs L (fun S a5 => wp_L_law_28 xs L n S a5) S1058 a5)) else False))))))))))) else (if ((xs (a5.toNatClampNeg)) &&& 31) = 17 then (vp_in (a5 + 1) L ∧ (vp_in (a5 + 2) L ∧ (vp_in (a5 + 3) L ∧ (wp_L_channel S (xs ((a5 + 1).toNatClampNeg)) (xs ((a5 + 2).toNatClampNeg)) (xs ((a5 + 3).toNatClampNeg)) (fun r1108 S1108 => (vp_in (a5 + 1) L ∧ (vp_in (a5 + 2) L ∧ (vp_in (a5 + 3) L ∧ (wp_X6_channel S1108 (xs ((a5 + 1).toNatClampNeg)) (xs ((a5 + 2).toNatClampNeg)) (xs ((a5 + 3).toNatClampNeg)) (fun r1132 S1132 => (wp_X6_thrown S1132 (fun r1138 S1138 => (if r1138 = r1108 then (if r1108 = 0 then (vp_in 0 1 ∧ (if (lg_cmp (gJ S1138 390 ((0 : Int32).toNatClampNeg)) (r1132.toInt64)) = 0 then (wp_L_law_1325 xs L (fun S a5 => wp_L_law_28 xs L n S a5) S1138 a5) else False)) else (wp_L_law_1325 xs L (fun S a5 => wp_L_law_28 xs L n S a5) S1138 a5)) else False))))))))))))) else (if ((xs (a5.toNatClampNeg)) &&& 31) = 18 then (vp_in (a5 + 1) L ∧ (wp_L_reroute S (xs ((a5 + 1).toNatClampNeg)) (fun r1176 S1176 => (vp_in (a5 + 1) L ∧ (wp_X6_reroute S1176 (xs ((a5 + 1).toNatClampNeg)) (fun r1188 S1188 => (wp_X6_thrown S1188 (fun r1194 S1194 => (if r1194 = r1176 then (if r1176 = 0 then (vp_in 0 1 ∧ (if (lg_cmp (gJ S1194 390 ((0 : Int32).toNatClampNeg)) (r1188.toInt64)) = 0 then (wp_L_law_1325 xs L (fun S a5 => wp_L_law_28 xs L n S a5) S1194 a5) else False)) else (wp_L_law_1325 xs L (fun S a5 => wp_L_law_28 xs L n S a5) S1194 a5)) else False))))))))) else (if ((xs (a5.toNatClampNeg)) &&& 31) = 19 then (wp_L_merge S (fun r1226 S1226 => (wp_X6_merge S1226 (fun r1232 S1232 => (wp_X6_thrown S1232 (fun r1238 S1238 => (if r1238 = r1226 then (if r1226 = 0 then (vp_in 0 1 ∧ (if (lg_cmp (gJ S1238 390 ((0 : Int32).toNatClampNeg)) (r1232.toInt64)) = 0 then (wp_L_law_1325 xs L (fun S a5 => wp_L_law_28 xs L n S a5) S1238 a5) else False)) else (wp_L_law_1325 xs L (fun S a5 => wp_L_law_28 xs L n S a5) S1238 a5)) else False))))))) else (if ((xs (a5.toNatClampNeg)) &&& 31) = 20 then (wp_L_move S (fun r1270 S1270 => (wp_X6_move S1270 (fun r1276 S1276 => (wp_X6_thrown S1276 (fun r1282 S1282 => (if r1282 = r1270 then (if r1270 = 0 then (vp_in 0 1 ∧ (if (lg_cmp (gJ S1282 390 ((0 : Int32).toNatClampNeg)) (r1276.toInt64)) = 0 then (wp_L_law_1325 xs L (fun S a5 => wp_L_law_28 xs L n S a5) S1282 a5) else False)) else (wp_L_law_1325 xs L (fun S a5 => wp_L_law_28 xs L n S a5) S1282 a5)) else False))))))) else (if ((xs (a5.toNatClampNeg)) &&& 31) = 21 then (wp_X5_wavelengthsNeeded S (fun r1313 S1313 => (wp_X6_wavelengthsNeeded S1313 (fun r1317 S1317 => (if r1313 = r1317 then (wp_L_law_1325 xs L (fun S a5 => wp_L_law_28 xs L n S a5) S1317 a5) else False))))) else (wp_L_law_1325 xs L (fun S a5 => wp_L_law_28 xs L n S a5) S a5)))))))))))))))))))))))))
set_option maxHeartbeats 40000000 in
set_option maxRecDepth 100000 in
theorem law_loop {p : Program} {e : Env} {s : State} {m : MethodId} {below : List Frame} {meth : Method} {c : Code} (l : Launch) (hlt : l.stackTraces = false) (D : va_G) (cy : Nat → ClassId) (b0 : Nat) {b L : Nat} {xs : Nat → Int32} (hb0 : b < b0) (C0 : lw_At p s m meth c b L xs) (hW : WK D cy b0 s) (hbs : b0 = s.heap.size) : ∀ (n28 : Nat) (S : St) (a5 : Int32), ∀ (H : Heap) (locs : List Loc) (ls : Array Slot), n28 ≤ 513 → wp_L_law_28 xs L n28 S a5 → HP D cy b0 NALL S H → Fx S → va_S (AA b0) s.heap H locs → lv_has ls 8 [(0, .ref b), (1, .ref (b0 + 0)), (2, .ref (b0 + 367)), (3, .ref (b0 + 390)), (4, .ref (b0 + 391)), (5, .int a5)] → W p l e room_1 s m #[Value.ref b] below meth c H locs (392 + 4 * (513 - n28)) (2000000 + 24 * (513 - n28)) (lw_Z below #[Value.ref b] s) (F0 m 28 ls []) := by
  obtain ⟨hx, hb, hr, hml, hown, hts0, hX, hbl, hlocks, hgv⟩ := C0
  have hts : ∀ w ∈ wsL_law, w.before #[Value.ref b] s = true := fun w h => hts0 w (wsL_law_in w h)
  have hbA : ¬ AA b0 b := Nat.not_le.mpr hb0
  have hK := hW.1
  intro n28
  induction n28 with
  | zero => intro S a5 H locs ls hn9 hw _ _ _ _; exact False.elim hw
  | succ n28 ih28 =>
    have j1325 : n28 ≤ 513 → ∀ (S : St) (a5 : Int32), ∀ (H : Heap) (locs : List Loc) (ls : Array Slot), wp_L_law_1325 xs L (fun S a5 => wp_L_law_28 xs L n28 S a5) S a5 → HP D cy b0 NALL S H → Fx S → va_S (AA b0) s.heap H locs → lv_has ls 8 [(0, .ref b), (1, .ref (b0 + 0)), (2, .ref (b0 + 367)), (3, .ref (b0 + 390)), (4, .ref (b0 + 391)), (5, .int a5)] → W p l e room_1 s m #[Value.ref b] below meth c H locs (392 + 4 * (513 - n28)) (2000000 + 24 * (513 - n28)) (lw_Z below #[Value.ref b] s) (F0 m 1325 ls []) := by
      intro hn9 S a5 H locs ls hw hP hF hS hl
      unfold wp_L_law_1325 at hw
      obtain ⟨y1325, e1325⟩ : ∃ z : Int32, z = a5 + 5 := ⟨_, rfl⟩
      have hw := hw y1325 e1325
      refine lv_iinc (v := y1325) (lv' := [(5, .int y1325), (0, .ref b), (1, .ref (b0 + 0)), (2, .ref (b0 + 367)), (3, .ref (b0 + 390)), (4, .ref (b0 + 391))]) hx hb dL_law_1325 hl (k := 5) rfl (by rw [e1325]; rfl) (by decide) rfl (fun ls hl => ?_)
      refine lv_goto (tgt := 28) hx hb dL_law_1328 (by decide) ?_
      exact ih28 S y1325  _ _ _ (by omega) hw hP hF hS (lv_sub hl [1, 2, 3, 4, 5, 0] rfl)
    have j330 : n28 ≤ 513 → ∀ (S : St) (a5 : Int32) (t0 : Int64) (t1 : Int64), ∀ (H : Heap) (locs : List Loc) (ls : Array Slot), wp_L_law_330 xs L (fun S a5 => wp_L_law_28 xs L n28 S a5) S a5 t0 t1 → HP D cy b0 NALL S H → Fx S → va_S (AA b0) s.heap H locs → lv_has ls 8 [(0, .ref b), (1, .ref (b0 + 0)), (2, .ref (b0 + 367)), (3, .ref (b0 + 390)), (4, .ref (b0 + 391)), (5, .int a5)] → W p l e room_1 s m #[Value.ref b] below meth c H locs (392 + 4 * (513 - n28)) (2000000 + 24 * (513 - n28)) (lw_Z below #[Value.ref b] s) (F0 m 330 ls [.long t1, .long t0]) := by
      intro hn9 S a5 t0 t1 H locs ls hw hP hF hS hl
      unfold wp_L_law_330 at hw
      refine W.lcmp hx hb dL_law_330 ?_
      refine lv_if_eq (x := (lg_cmp t0 t1)) (tgt := 336) hx hb dL_law_331 (by decide) (fun c331 => ?_) (fun c331 => ?_)
      · rw [if_pos c331] at hw
        refine lv_goto (tgt := 1325) hx hb dL_law_336 (by decide) ?_
        exact j1325 hn9 S a5  _ _ _ hw hP hF hS (lv_sub hl [0, 1, 2, 3, 4, 5] rfl)
      · rw [if_neg c331] at hw
        refine lv_iconst (v := 0) hx hb dL_law_334 (by decide) ?_
        exact False.elim hw
    intro S a5 H locs ls hn9 hw hP hF hS hl
    have j1325 := j1325 (by omega)
    have j330 := j330 (by omega)
    rw [wp_L_law_28] at hw
    refine lv_iload hx hb dL_law_28 (lv_at hl 5 rfl) ?_
    refine lv_aload_n hx hb dL_law_30 rfl (lv_at hl 0 rfl) ?_
    refine va_slen hx hb hX hbl hbA hS dL_law_31 ?_
    refine lv_iconst (v := 5) hx hb dL_law_32 (by decide) ?_
    refine lv_isub hx hb dL_law_33 ?_
    refine lv_icmp_gt (x := a5) (y := ((nI L) - 5)) (tgt := 1331) hx hb dL_law_34 (by decide) (fun c34 => ?_) (fun c34 => ?_)
    · rw [if_pos c34] at hw
      refine lv_iconst (v := 1) hx hb dL_law_1331 (by decide) ?_
      refine va_forget (fun q hq => by rw [← hbs]; exact hS.2.2 q hq) ?_
      refine W.widen (k := 601024) (n := 7293034) (by omega) (by omega) ?_
      exact lw_ret (d0 := s.drawn) (Drawn.sameBut.refl s.drawn lw_cs) hx hb hr hlocks dL_law_1332
    · rw [if_neg c34] at hw
      refine lv_aload_n hx hb dL_law_37 rfl (lv_at hl 0 rfl) ?_
      refine lv_iload hx hb dL_law_38 (lv_at hl 5 rfl) ?_
      obtain ⟨h40, hw⟩ := hw
      refine va_sld hx hb hX hbl hbA hS (i := a5) h40 dL_law_40 ?_
      refine lv_bipush (v := 31) hx hb dL_law_41 (by decide) ?_
      refine lv_iand hx hb dL_law_43 ?_
      by_cases c44_0 : ((xs (a5.toNatClampNeg)) &&& 31) = 0
      · rw [if_pos c44_0] at hw
        rw [c44_0]
        refine lv_tableIn (x := 0) (off := 104) (tgt := 148) hx hb dL_law_44 (by decide) (by decide) (by decide) (by decide) ?_
        refine lv_aload_n hx hb dL_law_148 rfl (lv_at hl 1 rfl) ?_
        refine lv_aload_n hx hb dL_law_149 rfl (lv_at hl 0 rfl) ?_
        refine lv_iload hx hb dL_law_150 (lv_at hl 5 rfl) ?_
        refine lv_iconst (v := 1) hx hb dL_law_152 (by decide) ?_
        refine lv_iadd hx hb dL_law_153 ?_
        obtain ⟨h154, hw⟩ := hw
        refine va_sld hx hb hX hbl hbA hS (i := (a5 + 1)) h154 dL_law_154 ?_
        refine lv_aload_n hx hb dL_law_155 rfl (lv_at hl 0 rfl) ?_
        refine lv_iload hx hb dL_law_156 (lv_at hl 5 rfl) ?_
        refine lv_iconst (v := 2) hx hb dL_law_158 (by decide) ?_
        refine lv_iadd hx hb dL_law_159 ?_
        obtain ⟨h160, hw⟩ := hw
        refine va_sld hx hb hX hbl hbA hS (i := (a5 + 2)) h160 dL_law_160 ?_
        refine q_call (vx_runSW (As := [.ref (b0 + 0), .int (xs ((a5 + 1).toNatClampNeg)), .int (xs ((a5 + 2).toNatClampNeg))]) (rest := []) ⟨hx, hb, hml, hown, hts⟩ (c_L_begin l hlt D cy b0 S (xs ((a5 + 1).toNatClampNeg)) (xs ((a5 + 2).toNatClampNeg)) _ hw) (vx_cwSW 3 hts gL_law_L_begin rfl rfl rfl (by decide +kernel) ⟨(Nat.le_of_ble_eq_true rfl), (Nat.le_of_ble_eq_true rfl)⟩) (q_pS hW hP hF hS [.ref (b0 + 0), .int (xs ((a5 + 1).toNatClampNeg)), .int (xs ((a5 + 2).toNatClampNeg))]) rfl rfl hl.1 rfl (lv_room (Nat.le_of_ble_eq_true rfl)) dL_law_161 ⟨by show _ ≤ 601024; omega, by show _ ≤ 7293034; omega⟩) hS (fun v161 S161 t161 H locs hh hp hB hz hk9 hS => ?_)
        obtain ⟨r161, rfl, hw⟩ := hp
        have hP : HP D cy b0 NALL S161 H := by rw [← hh]; exact hB.1
        have hF := hB.2
        try dsimp only at hw
        refine W.eq (g2 := F0 m 164 ls [.int r161]) rfl ?_
        refine lv_istore (lv' := [(6, .int r161), (0, .ref b), (1, .ref (b0 + 0)), (2, .ref (b0 + 367)), (3, .ref (b0 + 390)), (4, .ref (b0 + 391)), (5, .int a5)]) hx hb dL_law_164 hl (by decide) rfl (fun ls hl => ?_)
        refine lv_aload_n hx hb dL_law_166 rfl (lv_at hl 3 rfl) ?_
        refine lv_aload_n hx hb dL_law_167 rfl (lv_at hl 1 rfl) ?_
        refine lv_iload hx hb dL_law_168 (lv_at hl 6 rfl) ?_
        refine lv_iconst (v := 1) hx hb dL_law_170 (by decide) ?_
        refine lv_iadd hx hb dL_law_171 ?_
        obtain ⟨h172, hw⟩ := hw
        refine va_sld hx hb hX hbl hbA hS (i := (a5 + 1)) h172 dL_law_172 ?_
        refine lv_aload_n hx hb dL_law_173 rfl (lv_at hl 1 rfl) ?_
        refine lv_iload hx hb dL_law_174 (lv_at hl 6 rfl) ?_
        refine lv_iconst (v := 2) hx hb dL_law_176 (by decide) ?_
        refine lv_iadd hx hb dL_law_177 ?_
        obtain ⟨h178, hw⟩ := hw
        refine va_sld hx hb hX hbl hbA hS (i := (a5 + 2)) h178 dL_law_178 ?_
        refine q_call (va_runV (As := [.int (xs ((a5 + 1).toNatClampNeg)), .int (xs ((a5 + 2).toNatClampNeg))]) (rest := []) ⟨hx, hb, hml, hown, hts⟩ (c_X6_begin l D cy b0 S161 (xs ((a5 + 1).toNatClampNeg)) (xs ((a5 + 2).toNatClampNeg)) _ hw) (cwV 2 hts gL_law_X6_begin rfl rfl rfl (by decide +kernel) ⟨(Nat.le_of_ble_eq_true rfl), (Nat.le_of_ble_eq_true rfl)⟩) (q_pV hW hP hF hS (k := 367) (ci := 6) (by decide) (cell_6 (kk_367)) rfl [.int (xs ((a5 + 1).toNatClampNeg)), .int (xs ((a5 + 2).toNatClampNeg))]) rfl rfl hl.1 rfl (lv_room (Nat.le_of_ble_eq_true rfl)) dL_law_179 ⟨by show _ ≤ 601024; omega, by show _ ≤ 7293034; omega⟩) hS (fun v179 S179 t179 H locs hh hp hB hz hk9 hS => ?_)
        obtain ⟨rfl, hw⟩ := hp
        have hP : HP D cy b0 NALL S179 H := by rw [← hh]; exact hB.1
        have hF := hB.2
        try dsimp only at hw
        refine W.eq (g2 := F0 m 182 ls []) rfl ?_
        refine lv_aload_n hx hb dL_law_182 rfl (lv_at hl 3 rfl) ?_
        refine q_call (va_runV (As := []) (rest := []) ⟨hx, hb, hml, hown, hts⟩ (c_X6_thrown l D cy b0 S179 _ hw) (cwV 0 hts gL_law_X6_thrown rfl rfl rfl (by decide +kernel) ⟨(Nat.le_of_ble_eq_true rfl), (Nat.le_of_ble_eq_true rfl)⟩) (q_pV hW hP hF hS (k := 367) (ci := 6) (by decide) (cell_6 (kk_367)) rfl []) rfl rfl hl.1 rfl (lv_room (Nat.le_of_ble_eq_true rfl)) dL_law_183 ⟨by show _ ≤ 601024; omega, by show _ ≤ 7293034; omega⟩) hS (fun v183 S183 t183 H locs hh hp hB hz hk9 hS => ?_)
        obtain ⟨r183, rfl, hw⟩ := hp
        have hP : HP D cy b0 NALL S183 H := by rw [← hh]; exact hB.1
        have hF := hB.2
        try dsimp only at hw
        refine W.eq (g2 := F0 m 186 ls [.int r183]) rfl ?_
        refine lv_iload hx hb dL_law_186 (lv_at hl 0 rfl) ?_
        refine lv_icmp_eq (x := r183) (y := r161) (tgt := 193) hx hb dL_law_188 (by decide) (fun c188 => ?_) (fun c188 => ?_)
        · rw [if_pos c188] at hw
          refine lv_goto (tgt := 1325) hx hb dL_law_193 (by decide) ?_
          refine W.widen (k := 392 + 4 * (513 - n28)) (n := 2000000 + 24 * (513 - n28)) (by omega) (by omega) ?_
          exact j1325 S183 a5  _ _ _ hw hP hF hS (lv_sub hl [1, 2, 3, 4, 5, 6] rfl)
        · rw [if_neg c188] at hw
          refine lv_iconst (v := 0) hx hb dL_law_191 (by decide) ?_
          exact False.elim hw
      · rw [if_neg c44_0] at hw
        by_cases c44_1 : ((xs (a5.toNatClampNeg)) &&& 31) = 1
        · rw [if_pos c44_1] at hw
          rw [c44_1]
          refine lv_tableIn (x := 1) (off := 152) (tgt := 196) hx hb dL_law_44 (by decide) (by decide) (by decide) (by decide) ?_
          refine lv_aload_n hx hb dL_law_196 rfl (lv_at hl 1 rfl) ?_
          refine lv_aload_n hx hb dL_law_197 rfl (lv_at hl 0 rfl) ?_
          refine lv_iload hx hb dL_law_198 (lv_at hl 5 rfl) ?_
          refine lv_iconst (v := 1) hx hb dL_law_200 (by decide) ?_
          refine lv_iadd hx hb dL_law_201 ?_
          obtain ⟨h202, hw⟩ := hw
          refine va_sld hx hb hX hbl hbA hS (i := (a5 + 1)) h202 dL_law_202 ?_
          refine lv_aload_n hx hb dL_law_203 rfl (lv_at hl 0 rfl) ?_
          refine lv_iload hx hb dL_law_204 (lv_at hl 5 rfl) ?_
          refine lv_iconst (v := 2) hx hb dL_law_206 (by decide) ?_
          refine lv_iadd hx hb dL_law_207 ?_
          obtain ⟨h208, hw⟩ := hw
          refine va_sld hx hb hX hbl hbA hS (i := (a5 + 2)) h208 dL_law_208 ?_
          refine lv_aload_n hx hb dL_law_209 rfl (lv_at hl 0 rfl) ?_
          refine lv_iload hx hb dL_law_210 (lv_at hl 5 rfl) ?_
          refine lv_iconst (v := 3) hx hb dL_law_212 (by decide) ?_
          refine lv_iadd hx hb dL_law_213 ?_
          obtain ⟨h214, hw⟩ := hw
          refine va_sld hx hb hX hbl hbA hS (i := (a5 + 3)) h214 dL_law_214 ?_
          refine lv_aload_n hx hb dL_law_215 rfl (lv_at hl 3 rfl) ?_
          refine q_call (vx_runSW (As := [.ref (b0 + 0), .int (xs ((a5 + 1).toNatClampNeg)), .int (xs ((a5 + 2).toNatClampNeg)), .int (xs ((a5 + 3).toNatClampNeg)), .ref (b0 + 390)]) (rest := []) ⟨hx, hb, hml, hown, hts⟩ (c_L_addFibre l hlt D cy b0 S (xs ((a5 + 1).toNatClampNeg)) (xs ((a5 + 2).toNatClampNeg)) (xs ((a5 + 3).toNatClampNeg)) _ hw) (vx_cwSW 5 hts gL_law_L_addFibre rfl rfl rfl (by decide +kernel) ⟨(Nat.le_of_ble_eq_true rfl), (Nat.le_of_ble_eq_true rfl)⟩) (q_pS hW hP hF hS [.ref (b0 + 0), .int (xs ((a5 + 1).toNatClampNeg)), .int (xs ((a5 + 2).toNatClampNeg)), .int (xs ((a5 + 3).toNatClampNeg)), .ref (b0 + 390)]) rfl rfl hl.1 rfl (lv_room (Nat.le_of_ble_eq_true rfl)) dL_law_216 ⟨by show _ ≤ 601024; omega, by show _ ≤ 7293034; omega⟩) hS (fun v216 S216 t216 H locs hh hp hB hz hk9 hS => ?_)
          obtain ⟨r216, rfl, hw⟩ := hp
          have hP : HP D cy b0 NALL S216 H := by rw [← hh]; exact hB.1
          have hF := hB.2
          try dsimp only at hw
          refine W.eq (g2 := F0 m 219 ls [.int r216]) rfl ?_
          refine lv_istore (lv' := [(6, .int r216), (0, .ref b), (1, .ref (b0 + 0)), (2, .ref (b0 + 367)), (3, .ref (b0 + 390)), (4, .ref (b0 + 391)), (5, .int a5)]) hx hb dL_law_219 hl (by decide) rfl (fun ls hl => ?_)
          refine lv_aload_n hx hb dL_law_221 rfl (lv_at hl 3 rfl) ?_
          refine lv_aload_n hx hb dL_law_222 rfl (lv_at hl 1 rfl) ?_
          refine lv_iload hx hb dL_law_223 (lv_at hl 6 rfl) ?_
          refine lv_iconst (v := 1) hx hb dL_law_225 (by decide) ?_
          refine lv_iadd hx hb dL_law_226 ?_
          obtain ⟨h227, hw⟩ := hw
          refine va_sld hx hb hX hbl hbA hS (i := (a5 + 1)) h227 dL_law_227 ?_
          refine lv_aload_n hx hb dL_law_228 rfl (lv_at hl 1 rfl) ?_
          refine lv_iload hx hb dL_law_229 (lv_at hl 6 rfl) ?_
          refine lv_iconst (v := 2) hx hb dL_law_231 (by decide) ?_
          refine lv_iadd hx hb dL_law_232 ?_
          obtain ⟨h233, hw⟩ := hw
          refine va_sld hx hb hX hbl hbA hS (i := (a5 + 2)) h233 dL_law_233 ?_
          refine lv_aload_n hx hb dL_law_234 rfl (lv_at hl 1 rfl) ?_
          refine lv_iload hx hb dL_law_235 (lv_at hl 6 rfl) ?_
          refine lv_iconst (v := 3) hx hb dL_law_237 (by decide) ?_
          refine lv_iadd hx hb dL_law_238 ?_
          obtain ⟨h239, hw⟩ := hw
          refine va_sld hx hb hX hbl hbA hS (i := (a5 + 3)) h239 dL_law_239 ?_
          refine q_call (va_runV (As := [.int (xs ((a5 + 1).toNatClampNeg)), .int (xs ((a5 + 2).toNatClampNeg)), .int (xs ((a5 + 3).toNatClampNeg))]) (rest := []) ⟨hx, hb, hml, hown, hts⟩ (c_X6_addFibre l D cy b0 S216 (xs ((a5 + 1).toNatClampNeg)) (xs ((a5 + 2).toNatClampNeg)) (xs ((a5 + 3).toNatClampNeg)) _ hw) (cwV 3 hts gL_law_X6_addFibre rfl rfl rfl (by decide +kernel) ⟨(Nat.le_of_ble_eq_true rfl), (Nat.le_of_ble_eq_true rfl)⟩) (q_pV hW hP hF hS (k := 367) (ci := 6) (by decide) (cell_6 (kk_367)) rfl [.int (xs ((a5 + 1).toNatClampNeg)), .int (xs ((a5 + 2).toNatClampNeg)), .int (xs ((a5 + 3).toNatClampNeg))]) rfl rfl hl.1 rfl (lv_room (Nat.le_of_ble_eq_true rfl)) dL_law_240 ⟨by show _ ≤ 601024; omega, by show _ ≤ 7293034; omega⟩) hS (fun v240 S240 t240 H locs hh hp hB hz hk9 hS => ?_)
          obtain ⟨r240, rfl, hw⟩ := hp
          have hP : HP D cy b0 NALL S240 H := by rw [← hh]; exact hB.1
          have hF := hB.2
          try dsimp only at hw
          refine W.eq (g2 := F0 m 243 ls [.int r240]) rfl ?_
          refine lv_istore (lv' := [(7, .int r240), (6, .int r216), (0, .ref b), (1, .ref (b0 + 0)), (2, .ref (b0 + 367)), (3, .ref (b0 + 390)), (4, .ref (b0 + 391)), (5, .int a5)]) hx hb dL_law_243 hl (by decide) rfl (fun ls hl => ?_)
          refine lv_aload_n hx hb dL_law_245 rfl (lv_at hl 4 rfl) ?_
          refine q_call (va_runV (As := []) (rest := []) ⟨hx, hb, hml, hown, hts⟩ (c_X6_thrown l D cy b0 S240 _ hw) (cwV 0 hts gL_law_X6_thrown rfl rfl rfl (by decide +kernel) ⟨(Nat.le_of_ble_eq_true rfl), (Nat.le_of_ble_eq_true rfl)⟩) (q_pV hW hP hF hS (k := 367) (ci := 6) (by decide) (cell_6 (kk_367)) rfl []) rfl rfl hl.1 rfl (lv_room (Nat.le_of_ble_eq_true rfl)) dL_law_246 ⟨by show _ ≤ 601024; omega, by show _ ≤ 7293034; omega⟩) hS (fun v246 S246 t246 H locs hh hp hB hz hk9 hS => ?_)
          obtain ⟨r246, rfl, hw⟩ := hp
          have hP : HP D cy b0 NALL S246 H := by rw [← hh]; exact hB.1
          have hF := hB.2
          try dsimp only at hw
          refine W.eq (g2 := F0 m 249 ls [.int r246]) rfl ?_
          refine lv_iload hx hb dL_law_249 (lv_at hl 1 rfl) ?_
          refine lv_icmp_eq (x := r246) (y := r216) (tgt := 256) hx hb dL_law_251 (by decide) (fun c251 => ?_) (fun c251 => ?_)
          · rw [if_pos c251] at hw
            refine lv_iload hx hb dL_law_256 (lv_at hl 1 rfl) ?_
            refine lv_if_ne (x := r216) (tgt := 273) hx hb dL_law_258 (by decide) (fun c258 => ?_) (fun c258 => ?_)
            · rw [if_neg c258] at hw
              refine lv_goto (tgt := 1325) hx hb dL_law_273 (by decide) ?_
              refine W.widen (k := 392 + 4 * (513 - n28)) (n := 2000000 + 24 * (513 - n28)) (by omega) (by omega) ?_
              exact j1325 S246 a5  _ _ _ hw hP hF hS (lv_sub hl [2, 3, 4, 5, 6, 7] rfl)
            · rw [if_pos c258] at hw
              refine lv_aload_n hx hb dL_law_261 rfl (lv_at hl 5 rfl) ?_
              refine lv_iconst (v := 0) hx hb dL_law_262 (by decide) ?_
              obtain ⟨h263, hw⟩ := hw
              refine q_lald (k := 390) (n := 1) (i := 0) hx hb hK hP (by decide) (kk_390) (ll_390) h263 dL_law_263 ?_
              refine lv_iload hx hb dL_law_264 (lv_at hl 0 rfl) ?_
              refine lv_i2l hx hb dL_law_266 (v := r240.toInt64) rfl ?_
              refine W.lcmp hx hb dL_law_267 ?_
              refine lv_if_eq (x := (lg_cmp (gJ S246 390 ((0 : Int32).toNatClampNeg)) (r240.toInt64))) (tgt := 273) hx hb dL_law_268 (by decide) (fun c268 => ?_) (fun c268 => ?_)
              · rw [if_pos c268] at hw
                refine lv_goto (tgt := 1325) hx hb dL_law_273 (by decide) ?_
                refine W.widen (k := 392 + 4 * (513 - n28)) (n := 2000000 + 24 * (513 - n28)) (by omega) (by omega) ?_
                exact j1325 S246 a5  _ _ _ hw hP hF hS (lv_sub hl [2, 3, 4, 5, 6, 7] rfl)
              · rw [if_neg c268] at hw
                refine lv_iconst (v := 0) hx hb dL_law_271 (by decide) ?_
                exact False.elim hw
          · rw [if_neg c251] at hw
            refine lv_iconst (v := 0) hx hb dL_law_254 (by decide) ?_
            exact False.elim hw
        · rw [if_neg c44_1] at hw
          by_cases c44_2 : ((xs (a5.toNatClampNeg)) &&& 31) = 2
          · rw [if_pos c44_2] at hw
            rw [c44_2]
            refine lv_tableIn (x := 2) (off := 232) (tgt := 276) hx hb dL_law_44 (by decide) (by decide) (by decide) (by decide) ?_
            refine lv_aload_n hx hb dL_law_276 rfl (lv_at hl 1 rfl) ?_
            refine lv_aload_n hx hb dL_law_277 rfl (lv_at hl 0 rfl) ?_
            refine lv_iload hx hb dL_law_278 (lv_at hl 5 rfl) ?_
            refine lv_iconst (v := 1) hx hb dL_law_280 (by decide) ?_
            refine lv_iadd hx hb dL_law_281 ?_
            obtain ⟨h282, hw⟩ := hw
            refine va_sld hx hb hX hbl hbA hS (i := (a5 + 1)) h282 dL_law_282 ?_
            refine lv_aload_n hx hb dL_law_283 rfl (lv_at hl 3 rfl) ?_
            refine q_call (vx_runSW (As := [.ref (b0 + 0), .int (xs ((a5 + 1).toNatClampNeg)), .ref (b0 + 390)]) (rest := []) ⟨hx, hb, hml, hown, hts⟩ (c_L_toggleConverter l hlt D cy b0 S (xs ((a5 + 1).toNatClampNeg)) _ hw) (vx_cwSW 3 hts gL_law_L_toggleConverter rfl rfl rfl (by decide +kernel) ⟨(Nat.le_of_ble_eq_true rfl), (Nat.le_of_ble_eq_true rfl)⟩) (q_pS hW hP hF hS [.ref (b0 + 0), .int (xs ((a5 + 1).toNatClampNeg)), .ref (b0 + 390)]) rfl rfl hl.1 rfl (lv_room (Nat.le_of_ble_eq_true rfl)) dL_law_284 ⟨by show _ ≤ 601024; omega, by show _ ≤ 7293034; omega⟩) hS (fun v284 S284 t284 H locs hh hp hB hz hk9 hS => ?_)
            obtain ⟨r284, rfl, hw⟩ := hp
            have hP : HP D cy b0 NALL S284 H := by rw [← hh]; exact hB.1
            have hF := hB.2
            try dsimp only at hw
            refine W.eq (g2 := F0 m 287 ls [.int r284]) rfl ?_
            refine lv_istore (lv' := [(6, .int r284), (0, .ref b), (1, .ref (b0 + 0)), (2, .ref (b0 + 367)), (3, .ref (b0 + 390)), (4, .ref (b0 + 391)), (5, .int a5)]) hx hb dL_law_287 hl (by decide) rfl (fun ls hl => ?_)
            refine lv_aload_n hx hb dL_law_289 rfl (lv_at hl 3 rfl) ?_
            refine lv_aload_n hx hb dL_law_290 rfl (lv_at hl 1 rfl) ?_
            refine lv_iload hx hb dL_law_291 (lv_at hl 6 rfl) ?_
            refine lv_iconst (v := 1) hx hb dL_law_293 (by decide) ?_
            refine lv_iadd hx hb dL_law_294 ?_
            obtain ⟨h295, hw⟩ := hw
            refine va_sld hx hb hX hbl hbA hS (i := (a5 + 1)) h295 dL_law_295 ?_
            refine q_call (va_runV (As := [.int (xs ((a5 + 1).toNatClampNeg))]) (rest := []) ⟨hx, hb, hml, hown, hts⟩ (c_X6_toggleConverter l D cy b0 S284 (xs ((a5 + 1).toNatClampNeg)) _ hw) (cwV 1 hts gL_law_X6_toggleConverter rfl rfl rfl (by decide +kernel) ⟨(Nat.le_of_ble_eq_true rfl), (Nat.le_of_ble_eq_true rfl)⟩) (q_pV hW hP hF hS (k := 367) (ci := 6) (by decide) (cell_6 (kk_367)) rfl [.int (xs ((a5 + 1).toNatClampNeg))]) rfl rfl hl.1 rfl (lv_room (Nat.le_of_ble_eq_true rfl)) dL_law_296 ⟨by show _ ≤ 601024; omega, by show _ ≤ 7293034; omega⟩) hS (fun v296 S296 t296 H locs hh hp hB hz hk9 hS => ?_)
            obtain ⟨r296, rfl, hw⟩ := hp
            have hP : HP D cy b0 NALL S296 H := by rw [← hh]; exact hB.1
            have hF := hB.2
            try dsimp only at hw
            refine W.eq (g2 := F0 m 299 ls [.int (b2i r296)]) rfl ?_
            refine lv_istore (lv' := [(7, .int (b2i r296)), (6, .int r284), (0, .ref b), (1, .ref (b0 + 0)), (2, .ref (b0 + 367)), (3, .ref (b0 + 390)), (4, .ref (b0 + 391)), (5, .int a5)]) hx hb dL_law_299 hl (by decide) rfl (fun ls hl => ?_)
            refine lv_aload_n hx hb dL_law_301 rfl (lv_at hl 4 rfl) ?_
            refine q_call (va_runV (As := []) (rest := []) ⟨hx, hb, hml, hown, hts⟩ (c_X6_thrown l D cy b0 S296 _ hw) (cwV 0 hts gL_law_X6_thrown rfl rfl rfl (by decide +kernel) ⟨(Nat.le_of_ble_eq_true rfl), (Nat.le_of_ble_eq_true rfl)⟩) (q_pV hW hP hF hS (k := 367) (ci := 6) (by decide) (cell_6 (kk_367)) rfl []) rfl rfl hl.1 rfl (lv_room (Nat.le_of_ble_eq_true rfl)) dL_law_302 ⟨by show _ ≤ 601024; omega, by show _ ≤ 7293034; omega⟩) hS (fun v302 S302 t302 H locs hh hp hB hz hk9 hS => ?_)
            obtain ⟨r302, rfl, hw⟩ := hp
            have hP : HP D cy b0 NALL S302 H := by rw [← hh]; exact hB.1
            have hF := hB.2
            try dsimp only at hw
            refine W.eq (g2 := F0 m 305 ls [.int r302]) rfl ?_
            refine lv_iload hx hb dL_law_305 (lv_at hl 1 rfl) ?_
            refine lv_icmp_eq (x := r302) (y := r284) (tgt := 312) hx hb dL_law_307 (by decide) (fun c307 => ?_) (fun c307 => ?_)
            · rw [if_pos c307] at hw
              refine lv_iload hx hb dL_law_312 (lv_at hl 1 rfl) ?_
              refine lv_if_ne (x := r284) (tgt := 336) hx hb dL_law_314 (by decide) (fun c314 => ?_) (fun c314 => ?_)
              · rw [if_neg c314] at hw
                refine lv_goto (tgt := 1325) hx hb dL_law_336 (by decide) ?_
                refine W.widen (k := 392 + 4 * (513 - n28)) (n := 2000000 + 24 * (513 - n28)) (by omega) (by omega) ?_
                exact j1325 S302 a5  _ _ _ hw hP hF hS (lv_sub hl [2, 3, 4, 5, 6, 7] rfl)
              · rw [if_pos c314] at hw
                refine lv_aload_n hx hb dL_law_317 rfl (lv_at hl 5 rfl) ?_
                refine lv_iconst (v := 0) hx hb dL_law_318 (by decide) ?_
                obtain ⟨h319, hw⟩ := hw
                refine q_lald (k := 390) (n := 1) (i := 0) hx hb hK hP (by decide) (kk_390) (ll_390) h319 dL_law_319 ?_
                refine lv_iload hx hb dL_law_320 (lv_at hl 0 rfl) ?_
                refine lv_if_eq (x := b2i r296) (tgt := 329) hx hb dL_law_322 (by decide) (fun c322 => ?_) (fun c322 => ?_)
                · have c322 := b2i_z c322
                  rw [if_neg c322] at hw
                  refine lv_lconst (v := 0) hx hb dL_law_329 (by decide) ?_
                  refine W.widen (k := 392 + 4 * (513 - n28)) (n := 2000000 + 24 * (513 - n28)) (by omega) (by omega) ?_
                  exact j330 S302 a5 (gJ S302 390 ((0 : Int32).toNatClampNeg)) 0  _ _ _ hw hP hF hS (lv_sub hl [2, 3, 4, 5, 6, 7] rfl)
                · have c322 := b2i_n c322
                  rw [if_pos c322] at hw
                  refine lv_lconst (v := 1) hx hb dL_law_325 (by decide) ?_
                  refine lv_goto (tgt := 330) hx hb dL_law_326 (by decide) ?_
                  refine W.widen (k := 392 + 4 * (513 - n28)) (n := 2000000 + 24 * (513 - n28)) (by omega) (by omega) ?_
                  exact j330 S302 a5 (gJ S302 390 ((0 : Int32).toNatClampNeg)) 1  _ _ _ hw hP hF hS (lv_sub hl [2, 3, 4, 5, 6, 7] rfl)
            · rw [if_neg c307] at hw
              refine lv_iconst (v := 0) hx hb dL_law_310 (by decide) ?_
              exact False.elim hw
          · rw [if_neg c44_2] at hw
            by_cases c44_3 : ((xs (a5.toNatClampNeg)) &&& 31) = 3
            · rw [if_pos c44_3] at hw
              rw [c44_3]
              refine lv_tableIn (x := 3) (off := 295) (tgt := 339) hx hb dL_law_44 (by decide) (by decide) (by decide) (by decide) ?_
              refine lv_aload_n hx hb dL_law_339 rfl (lv_at hl 1 rfl) ?_
              refine lv_aload_n hx hb dL_law_340 rfl (lv_at hl 0 rfl) ?_
              refine lv_iload hx hb dL_law_341 (lv_at hl 5 rfl) ?_
              refine lv_iconst (v := 1) hx hb dL_law_343 (by decide) ?_
              refine lv_iadd hx hb dL_law_344 ?_
              obtain ⟨h345, hw⟩ := hw
              refine va_sld hx hb hX hbl hbA hS (i := (a5 + 1)) h345 dL_law_345 ?_
              refine lv_aload_n hx hb dL_law_346 rfl (lv_at hl 3 rfl) ?_
              refine q_call (vx_runSW (As := [.ref (b0 + 0), .int (xs ((a5 + 1).toNatClampNeg)), .ref (b0 + 390)]) (rest := []) ⟨hx, hb, hml, hown, hts⟩ (c_L_cut l hlt D cy b0 S (xs ((a5 + 1).toNatClampNeg)) _ hw) (vx_cwSW 3 hts gL_law_L_cut rfl rfl rfl (by decide +kernel) ⟨(Nat.le_of_ble_eq_true rfl), (Nat.le_of_ble_eq_true rfl)⟩) (q_pS hW hP hF hS [.ref (b0 + 0), .int (xs ((a5 + 1).toNatClampNeg)), .ref (b0 + 390)]) rfl rfl hl.1 rfl (lv_room (Nat.le_of_ble_eq_true rfl)) dL_law_347 ⟨by show _ ≤ 601024; omega, by show _ ≤ 7293034; omega⟩) hS (fun v347 S347 t347 H locs hh hp hB hz hk9 hS => ?_)
              obtain ⟨r347, rfl, hw⟩ := hp
              have hP : HP D cy b0 NALL S347 H := by rw [← hh]; exact hB.1
              have hF := hB.2
              try dsimp only at hw
              refine W.eq (g2 := F0 m 350 ls [.int r347]) rfl ?_
              refine lv_istore (lv' := [(6, .int r347), (0, .ref b), (1, .ref (b0 + 0)), (2, .ref (b0 + 367)), (3, .ref (b0 + 390)), (4, .ref (b0 + 391)), (5, .int a5)]) hx hb dL_law_350 hl (by decide) rfl (fun ls hl => ?_)
              refine lv_aload_n hx hb dL_law_352 rfl (lv_at hl 3 rfl) ?_
              refine lv_aload_n hx hb dL_law_353 rfl (lv_at hl 1 rfl) ?_
              refine lv_iload hx hb dL_law_354 (lv_at hl 6 rfl) ?_
              refine lv_iconst (v := 1) hx hb dL_law_356 (by decide) ?_
              refine lv_iadd hx hb dL_law_357 ?_
              obtain ⟨h358, hw⟩ := hw
              refine va_sld hx hb hX hbl hbA hS (i := (a5 + 1)) h358 dL_law_358 ?_
              refine q_call (va_runV (As := [.int (xs ((a5 + 1).toNatClampNeg))]) (rest := []) ⟨hx, hb, hml, hown, hts⟩ (c_X6_cut l D cy b0 S347 (xs ((a5 + 1).toNatClampNeg)) _ hw) (cwV 1 hts gL_law_X6_cut rfl rfl rfl (by decide +kernel) ⟨(Nat.le_of_ble_eq_true rfl), (Nat.le_of_ble_eq_true rfl)⟩) (q_pV hW hP hF hS (k := 367) (ci := 6) (by decide) (cell_6 (kk_367)) rfl [.int (xs ((a5 + 1).toNatClampNeg))]) rfl rfl hl.1 rfl (lv_room (Nat.le_of_ble_eq_true rfl)) dL_law_359 ⟨by show _ ≤ 601024; omega, by show _ ≤ 7293034; omega⟩) hS (fun v359 S359 t359 H locs hh hp hB hz hk9 hS => ?_)
              obtain ⟨r359, rfl, hw⟩ := hp
              have hP : HP D cy b0 NALL S359 H := by rw [← hh]; exact hB.1
              have hF := hB.2
              try dsimp only at hw
              refine W.eq (g2 := F0 m 362 ls [.int r359]) rfl ?_
              refine lv_istore (lv' := [(7, .int r359), (6, .int r347), (0, .ref b), (1, .ref (b0 + 0)), (2, .ref (b0 + 367)), (3, .ref (b0 + 390)), (4, .ref (b0 + 391)), (5, .int a5)]) hx hb dL_law_362 hl (by decide) rfl (fun ls hl => ?_)
              refine lv_aload_n hx hb dL_law_364 rfl (lv_at hl 4 rfl) ?_
              refine q_call (va_runV (As := []) (rest := []) ⟨hx, hb, hml, hown, hts⟩ (c_X6_thrown l D cy b0 S359 _ hw) (cwV 0 hts gL_law_X6_thrown rfl rfl rfl (by decide +kernel) ⟨(Nat.le_of_ble_eq_true rfl), (Nat.le_of_ble_eq_true rfl)⟩) (q_pV hW hP hF hS (k := 367) (ci := 6) (by decide) (cell_6 (kk_367)) rfl []) rfl rfl hl.1 rfl (lv_room (Nat.le_of_ble_eq_true rfl)) dL_law_365 ⟨by show _ ≤ 601024; omega, by show _ ≤ 7293034; omega⟩) hS (fun v365 S365 t365 H locs hh hp hB hz hk9 hS => ?_)
              obtain ⟨r365, rfl, hw⟩ := hp
              have hP : HP D cy b0 NALL S365 H := by rw [← hh]; exact hB.1
              have hF := hB.2
              try dsimp only at hw
              refine W.eq (g2 := F0 m 368 ls [.int r365]) rfl ?_
              refine lv_iload hx hb dL_law_368 (lv_at hl 1 rfl) ?_
              refine lv_icmp_eq (x := r365) (y := r347) (tgt := 375) hx hb dL_law_370 (by decide) (fun c370 => ?_) (fun c370 => ?_)
              · rw [if_pos c370] at hw
                refine lv_iload hx hb dL_law_375 (lv_at hl 1 rfl) ?_
                refine lv_if_ne (x := r347) (tgt := 392) hx hb dL_law_377 (by decide) (fun c377 => ?_) (fun c377 => ?_)
                · rw [if_neg c377] at hw
                  refine lv_goto (tgt := 1325) hx hb dL_law_392 (by decide) ?_
                  refine W.widen (k := 392 + 4 * (513 - n28)) (n := 2000000 + 24 * (513 - n28)) (by omega) (by omega) ?_
                  exact j1325 S365 a5  _ _ _ hw hP hF hS (lv_sub hl [2, 3, 4, 5, 6, 7] rfl)
                · rw [if_pos c377] at hw
                  refine lv_aload_n hx hb dL_law_380 rfl (lv_at hl 5 rfl) ?_
                  refine lv_iconst (v := 0) hx hb dL_law_381 (by decide) ?_
                  obtain ⟨h382, hw⟩ := hw
                  refine q_lald (k := 390) (n := 1) (i := 0) hx hb hK hP (by decide) (kk_390) (ll_390) h382 dL_law_382 ?_
                  refine lv_iload hx hb dL_law_383 (lv_at hl 0 rfl) ?_
                  refine lv_i2l hx hb dL_law_385 (v := r359.toInt64) rfl ?_
                  refine W.lcmp hx hb dL_law_386 ?_
                  refine lv_if_eq (x := (lg_cmp (gJ S365 390 ((0 : Int32).toNatClampNeg)) (r359.toInt64))) (tgt := 392) hx hb dL_law_387 (by decide) (fun c387 => ?_) (fun c387 => ?_)
                  · rw [if_pos c387] at hw
                    refine lv_goto (tgt := 1325) hx hb dL_law_392 (by decide) ?_
                    refine W.widen (k := 392 + 4 * (513 - n28)) (n := 2000000 + 24 * (513 - n28)) (by omega) (by omega) ?_
                    exact j1325 S365 a5  _ _ _ hw hP hF hS (lv_sub hl [2, 3, 4, 5, 6, 7] rfl)
                  · rw [if_neg c387] at hw
                    refine lv_iconst (v := 0) hx hb dL_law_390 (by decide) ?_
                    exact False.elim hw
              · rw [if_neg c370] at hw
                refine lv_iconst (v := 0) hx hb dL_law_373 (by decide) ?_
                exact False.elim hw
            · rw [if_neg c44_3] at hw
              by_cases c44_4 : ((xs (a5.toNatClampNeg)) &&& 31) = 4
              · rw [if_pos c44_4] at hw
                rw [c44_4]
                refine lv_tableIn (x := 4) (off := 351) (tgt := 395) hx hb dL_law_44 (by decide) (by decide) (by decide) (by decide) ?_
                refine lv_aload_n hx hb dL_law_395 rfl (lv_at hl 1 rfl) ?_
                refine lv_aload_n hx hb dL_law_396 rfl (lv_at hl 0 rfl) ?_
                refine lv_iload hx hb dL_law_397 (lv_at hl 5 rfl) ?_
                refine lv_iconst (v := 1) hx hb dL_law_399 (by decide) ?_
                refine lv_iadd hx hb dL_law_400 ?_
                obtain ⟨h401, hw⟩ := hw
                refine va_sld hx hb hX hbl hbA hS (i := (a5 + 1)) h401 dL_law_401 ?_
                refine lv_aload_n hx hb dL_law_402 rfl (lv_at hl 3 rfl) ?_
                refine q_call (vx_runSW (As := [.ref (b0 + 0), .int (xs ((a5 + 1).toNatClampNeg)), .ref (b0 + 390)]) (rest := []) ⟨hx, hb, hml, hown, hts⟩ (c_L_repair l hlt D cy b0 S (xs ((a5 + 1).toNatClampNeg)) _ hw) (vx_cwSW 3 hts gL_law_L_repair rfl rfl rfl (by decide +kernel) ⟨(Nat.le_of_ble_eq_true rfl), (Nat.le_of_ble_eq_true rfl)⟩) (q_pS hW hP hF hS [.ref (b0 + 0), .int (xs ((a5 + 1).toNatClampNeg)), .ref (b0 + 390)]) rfl rfl hl.1 rfl (lv_room (Nat.le_of_ble_eq_true rfl)) dL_law_403 ⟨by show _ ≤ 601024; omega, by show _ ≤ 7293034; omega⟩) hS (fun v403 S403 t403 H locs hh hp hB hz hk9 hS => ?_)
                obtain ⟨r403, rfl, hw⟩ := hp
                have hP : HP D cy b0 NALL S403 H := by rw [← hh]; exact hB.1
                have hF := hB.2
                try dsimp only at hw
                refine W.eq (g2 := F0 m 406 ls [.int r403]) rfl ?_
                refine lv_istore (lv' := [(6, .int r403), (0, .ref b), (1, .ref (b0 + 0)), (2, .ref (b0 + 367)), (3, .ref (b0 + 390)), (4, .ref (b0 + 391)), (5, .int a5)]) hx hb dL_law_406 hl (by decide) rfl (fun ls hl => ?_)
                refine lv_aload_n hx hb dL_law_408 rfl (lv_at hl 3 rfl) ?_
                refine lv_aload_n hx hb dL_law_409 rfl (lv_at hl 1 rfl) ?_
                refine lv_iload hx hb dL_law_410 (lv_at hl 6 rfl) ?_
                refine lv_iconst (v := 1) hx hb dL_law_412 (by decide) ?_
                refine lv_iadd hx hb dL_law_413 ?_
                obtain ⟨h414, hw⟩ := hw
                refine va_sld hx hb hX hbl hbA hS (i := (a5 + 1)) h414 dL_law_414 ?_
                refine q_call (va_runV (As := [.int (xs ((a5 + 1).toNatClampNeg))]) (rest := []) ⟨hx, hb, hml, hown, hts⟩ (c_X6_repair l D cy b0 S403 (xs ((a5 + 1).toNatClampNeg)) _ hw) (cwV 1 hts gL_law_X6_repair rfl rfl rfl (by decide +kernel) ⟨(Nat.le_of_ble_eq_true rfl), (Nat.le_of_ble_eq_true rfl)⟩) (q_pV hW hP hF hS (k := 367) (ci := 6) (by decide) (cell_6 (kk_367)) rfl [.int (xs ((a5 + 1).toNatClampNeg))]) rfl rfl hl.1 rfl (lv_room (Nat.le_of_ble_eq_true rfl)) dL_law_415 ⟨by show _ ≤ 601024; omega, by show _ ≤ 7293034; omega⟩) hS (fun v415 S415 t415 H locs hh hp hB hz hk9 hS => ?_)
                obtain ⟨r415, rfl, hw⟩ := hp
                have hP : HP D cy b0 NALL S415 H := by rw [← hh]; exact hB.1
                have hF := hB.2
                try dsimp only at hw
                refine W.eq (g2 := F0 m 418 ls [.int r415]) rfl ?_
                refine lv_istore (lv' := [(7, .int r415), (6, .int r403), (0, .ref b), (1, .ref (b0 + 0)), (2, .ref (b0 + 367)), (3, .ref (b0 + 390)), (4, .ref (b0 + 391)), (5, .int a5)]) hx hb dL_law_418 hl (by decide) rfl (fun ls hl => ?_)
                refine lv_aload_n hx hb dL_law_420 rfl (lv_at hl 4 rfl) ?_
                refine q_call (va_runV (As := []) (rest := []) ⟨hx, hb, hml, hown, hts⟩ (c_X6_thrown l D cy b0 S415 _ hw) (cwV 0 hts gL_law_X6_thrown rfl rfl rfl (by decide +kernel) ⟨(Nat.le_of_ble_eq_true rfl), (Nat.le_of_ble_eq_true rfl)⟩) (q_pV hW hP hF hS (k := 367) (ci := 6) (by decide) (cell_6 (kk_367)) rfl []) rfl rfl hl.1 rfl (lv_room (Nat.le_of_ble_eq_true rfl)) dL_law_421 ⟨by show _ ≤ 601024; omega, by show _ ≤ 7293034; omega⟩) hS (fun v421 S421 t421 H locs hh hp hB hz hk9 hS => ?_)
                obtain ⟨r421, rfl, hw⟩ := hp
                have hP : HP D cy b0 NALL S421 H := by rw [← hh]; exact hB.1
                have hF := hB.2
                try dsimp only at hw
                refine W.eq (g2 := F0 m 424 ls [.int r421]) rfl ?_
                refine lv_iload hx hb dL_law_424 (lv_at hl 1 rfl) ?_
                refine lv_icmp_eq (x := r421) (y := r403) (tgt := 431) hx hb dL_law_426 (by decide) (fun c426 => ?_) (fun c426 => ?_)
                · rw [if_pos c426] at hw
                  refine lv_iload hx hb dL_law_431 (lv_at hl 1 rfl) ?_
                  refine lv_if_ne (x := r403) (tgt := 448) hx hb dL_law_433 (by decide) (fun c433 => ?_) (fun c433 => ?_)
                  · rw [if_neg c433] at hw
                    refine lv_goto (tgt := 1325) hx hb dL_law_448 (by decide) ?_
                    refine W.widen (k := 392 + 4 * (513 - n28)) (n := 2000000 + 24 * (513 - n28)) (by omega) (by omega) ?_
                    exact j1325 S421 a5  _ _ _ hw hP hF hS (lv_sub hl [2, 3, 4, 5, 6, 7] rfl)
                  · rw [if_pos c433] at hw
                    refine lv_aload_n hx hb dL_law_436 rfl (lv_at hl 5 rfl) ?_
                    refine lv_iconst (v := 0) hx hb dL_law_437 (by decide) ?_
                    obtain ⟨h438, hw⟩ := hw
                    refine q_lald (k := 390) (n := 1) (i := 0) hx hb hK hP (by decide) (kk_390) (ll_390) h438 dL_law_438 ?_
                    refine lv_iload hx hb dL_law_439 (lv_at hl 0 rfl) ?_
                    refine lv_i2l hx hb dL_law_441 (v := r415.toInt64) rfl ?_
                    refine W.lcmp hx hb dL_law_442 ?_
                    refine lv_if_eq (x := (lg_cmp (gJ S421 390 ((0 : Int32).toNatClampNeg)) (r415.toInt64))) (tgt := 448) hx hb dL_law_443 (by decide) (fun c443 => ?_) (fun c443 => ?_)
                    · rw [if_pos c443] at hw
                      refine lv_goto (tgt := 1325) hx hb dL_law_448 (by decide) ?_
                      refine W.widen (k := 392 + 4 * (513 - n28)) (n := 2000000 + 24 * (513 - n28)) (by omega) (by omega) ?_
                      exact j1325 S421 a5  _ _ _ hw hP hF hS (lv_sub hl [2, 3, 4, 5, 6, 7] rfl)
                    · rw [if_neg c443] at hw
                      refine lv_iconst (v := 0) hx hb dL_law_446 (by decide) ?_
                      exact False.elim hw
                · rw [if_neg c426] at hw
                  refine lv_iconst (v := 0) hx hb dL_law_429 (by decide) ?_
                  exact False.elim hw
              · rw [if_neg c44_4] at hw
                by_cases c44_5 : ((xs (a5.toNatClampNeg)) &&& 31) = 5
                · rw [if_pos c44_5] at hw
                  rw [c44_5]
                  refine lv_tableIn (x := 5) (off := 407) (tgt := 451) hx hb dL_law_44 (by decide) (by decide) (by decide) (by decide) ?_
                  refine lv_aload_n hx hb dL_law_451 rfl (lv_at hl 1 rfl) ?_
                  refine lv_aload_n hx hb dL_law_452 rfl (lv_at hl 0 rfl) ?_
                  refine lv_iload hx hb dL_law_453 (lv_at hl 5 rfl) ?_
                  refine lv_iconst (v := 1) hx hb dL_law_455 (by decide) ?_
                  refine lv_iadd hx hb dL_law_456 ?_
                  obtain ⟨h457, hw⟩ := hw
                  refine va_sld hx hb hX hbl hbA hS (i := (a5 + 1)) h457 dL_law_457 ?_
                  refine lv_aload_n hx hb dL_law_458 rfl (lv_at hl 0 rfl) ?_
                  refine lv_iload hx hb dL_law_459 (lv_at hl 5 rfl) ?_
                  refine lv_iconst (v := 2) hx hb dL_law_461 (by decide) ?_
                  refine lv_iadd hx hb dL_law_462 ?_
                  obtain ⟨h463, hw⟩ := hw
                  refine va_sld hx hb hX hbl hbA hS (i := (a5 + 2)) h463 dL_law_463 ?_
                  refine lv_aload_n hx hb dL_law_464 rfl (lv_at hl 3 rfl) ?_
                  refine q_call (vx_runSW (As := [.ref (b0 + 0), .int (xs ((a5 + 1).toNatClampNeg)), .int (xs ((a5 + 2).toNatClampNeg)), .ref (b0 + 390)]) (rest := []) ⟨hx, hb, hml, hown, hts⟩ (c_L_lightOn l hlt D cy b0 S (xs ((a5 + 1).toNatClampNeg)) (xs ((a5 + 2).toNatClampNeg)) _ hw) (vx_cwSW 4 hts gL_law_L_lightOn rfl rfl rfl (by decide +kernel) ⟨(Nat.le_of_ble_eq_true rfl), (Nat.le_of_ble_eq_true rfl)⟩) (q_pS hW hP hF hS [.ref (b0 + 0), .int (xs ((a5 + 1).toNatClampNeg)), .int (xs ((a5 + 2).toNatClampNeg)), .ref (b0 + 390)]) rfl rfl hl.1 rfl (lv_room (Nat.le_of_ble_eq_true rfl)) dL_law_465 ⟨by show _ ≤ 601024; omega, by show _ ≤ 7293034; omega⟩) hS (fun v465 S465 t465 H locs hh hp hB hz hk9 hS => ?_)
                  obtain ⟨r465, rfl, hw⟩ := hp
                  have hP : HP D cy b0 NALL S465 H := by rw [← hh]; exact hB.1
                  have hF := hB.2
                  try dsimp only at hw
                  refine W.eq (g2 := F0 m 468 ls [.int r465]) rfl ?_
                  refine lv_istore (lv' := [(6, .int r465), (0, .ref b), (1, .ref (b0 + 0)), (2, .ref (b0 + 367)), (3, .ref (b0 + 390)), (4, .ref (b0 + 391)), (5, .int a5)]) hx hb dL_law_468 hl (by decide) rfl (fun ls hl => ?_)
                  refine lv_aload_n hx hb dL_law_470 rfl (lv_at hl 3 rfl) ?_
                  refine lv_aload_n hx hb dL_law_471 rfl (lv_at hl 1 rfl) ?_
                  refine lv_iload hx hb dL_law_472 (lv_at hl 6 rfl) ?_
                  refine lv_iconst (v := 1) hx hb dL_law_474 (by decide) ?_
                  refine lv_iadd hx hb dL_law_475 ?_
                  obtain ⟨h476, hw⟩ := hw
                  refine va_sld hx hb hX hbl hbA hS (i := (a5 + 1)) h476 dL_law_476 ?_
                  refine lv_aload_n hx hb dL_law_477 rfl (lv_at hl 1 rfl) ?_
                  refine lv_iload hx hb dL_law_478 (lv_at hl 6 rfl) ?_
                  refine lv_iconst (v := 2) hx hb dL_law_480 (by decide) ?_
                  refine lv_iadd hx hb dL_law_481 ?_
                  obtain ⟨h482, hw⟩ := hw
                  refine va_sld hx hb hX hbl hbA hS (i := (a5 + 2)) h482 dL_law_482 ?_
                  refine q_call (va_runV (As := [.int (xs ((a5 + 1).toNatClampNeg)), .int (xs ((a5 + 2).toNatClampNeg))]) (rest := []) ⟨hx, hb, hml, hown, hts⟩ (c_X6_lightOn l D cy b0 S465 (xs ((a5 + 1).toNatClampNeg)) (xs ((a5 + 2).toNatClampNeg)) _ hw) (cwV 2 hts gL_law_X6_lightOn rfl rfl rfl (by decide +kernel) ⟨(Nat.le_of_ble_eq_true rfl), (Nat.le_of_ble_eq_true rfl)⟩) (q_pV hW hP hF hS (k := 367) (ci := 6) (by decide) (cell_6 (kk_367)) rfl [.int (xs ((a5 + 1).toNatClampNeg)), .int (xs ((a5 + 2).toNatClampNeg))]) rfl rfl hl.1 rfl (lv_room (Nat.le_of_ble_eq_true rfl)) dL_law_483 ⟨by show _ ≤ 601024; omega, by show _ ≤ 7293034; omega⟩) hS (fun v483 S483 t483 H locs hh hp hB hz hk9 hS => ?_)
                  obtain ⟨r483, rfl, hw⟩ := hp
                  have hP : HP D cy b0 NALL S483 H := by rw [← hh]; exact hB.1
                  have hF := hB.2
                  try dsimp only at hw
                  refine W.eq (g2 := F0 m 486 ls [.int r483]) rfl ?_
                  refine lv_istore (lv' := [(7, .int r483), (6, .int r465), (0, .ref b), (1, .ref (b0 + 0)), (2, .ref (b0 + 367)), (3, .ref (b0 + 390)), (4, .ref (b0 + 391)), (5, .int a5)]) hx hb dL_law_486 hl (by decide) rfl (fun ls hl => ?_)
                  refine lv_aload_n hx hb dL_law_488 rfl (lv_at hl 4 rfl) ?_
                  refine q_call (va_runV (As := []) (rest := []) ⟨hx, hb, hml, hown, hts⟩ (c_X6_thrown l D cy b0 S483 _ hw) (cwV 0 hts gL_law_X6_thrown rfl rfl rfl (by decide +kernel) ⟨(Nat.le_of_ble_eq_true rfl), (Nat.le_of_ble_eq_true rfl)⟩) (q_pV hW hP hF hS (k := 367) (ci := 6) (by decide) (cell_6 (kk_367)) rfl []) rfl rfl hl.1 rfl (lv_room (Nat.le_of_ble_eq_true rfl)) dL_law_489 ⟨by show _ ≤ 601024; omega, by show _ ≤ 7293034; omega⟩) hS (fun v489 S489 t489 H locs hh hp hB hz hk9 hS => ?_)
                  obtain ⟨r489, rfl, hw⟩ := hp
                  have hP : HP D cy b0 NALL S489 H := by rw [← hh]; exact hB.1
                  have hF := hB.2
                  try dsimp only at hw
                  refine W.eq (g2 := F0 m 492 ls [.int r489]) rfl ?_
                  refine lv_iload hx hb dL_law_492 (lv_at hl 1 rfl) ?_
                  refine lv_icmp_eq (x := r489) (y := r465) (tgt := 499) hx hb dL_law_494 (by decide) (fun c494 => ?_) (fun c494 => ?_)
                  · rw [if_pos c494] at hw
                    refine lv_iload hx hb dL_law_499 (lv_at hl 1 rfl) ?_
                    refine lv_if_ne (x := r465) (tgt := 516) hx hb dL_law_501 (by decide) (fun c501 => ?_) (fun c501 => ?_)
                    · rw [if_neg c501] at hw
                      refine lv_goto (tgt := 1325) hx hb dL_law_516 (by decide) ?_
                      refine W.widen (k := 392 + 4 * (513 - n28)) (n := 2000000 + 24 * (513 - n28)) (by omega) (by omega) ?_
                      exact j1325 S489 a5  _ _ _ hw hP hF hS (lv_sub hl [2, 3, 4, 5, 6, 7] rfl)
                    · rw [if_pos c501] at hw
                      refine lv_aload_n hx hb dL_law_504 rfl (lv_at hl 5 rfl) ?_
                      refine lv_iconst (v := 0) hx hb dL_law_505 (by decide) ?_
                      obtain ⟨h506, hw⟩ := hw
                      refine q_lald (k := 390) (n := 1) (i := 0) hx hb hK hP (by decide) (kk_390) (ll_390) h506 dL_law_506 ?_
                      refine lv_iload hx hb dL_law_507 (lv_at hl 0 rfl) ?_
                      refine lv_i2l hx hb dL_law_509 (v := r483.toInt64) rfl ?_
                      refine W.lcmp hx hb dL_law_510 ?_
                      refine lv_if_eq (x := (lg_cmp (gJ S489 390 ((0 : Int32).toNatClampNeg)) (r483.toInt64))) (tgt := 516) hx hb dL_law_511 (by decide) (fun c511 => ?_) (fun c511 => ?_)
                      · rw [if_pos c511] at hw
                        refine lv_goto (tgt := 1325) hx hb dL_law_516 (by decide) ?_
                        refine W.widen (k := 392 + 4 * (513 - n28)) (n := 2000000 + 24 * (513 - n28)) (by omega) (by omega) ?_
                        exact j1325 S489 a5  _ _ _ hw hP hF hS (lv_sub hl [2, 3, 4, 5, 6, 7] rfl)
                      · rw [if_neg c511] at hw
                        refine lv_iconst (v := 0) hx hb dL_law_514 (by decide) ?_
                        exact False.elim hw
                  · rw [if_neg c494] at hw
                    refine lv_iconst (v := 0) hx hb dL_law_497 (by decide) ?_
                    exact False.elim hw
                · rw [if_neg c44_5] at hw
                  by_cases c44_6 : ((xs (a5.toNatClampNeg)) &&& 31) = 6
                  · rw [if_pos c44_6] at hw
                    rw [c44_6]
                    refine lv_tableIn (x := 6) (off := 475) (tgt := 519) hx hb dL_law_44 (by decide) (by decide) (by decide) (by decide) ?_
                    refine lv_aload_n hx hb dL_law_519 rfl (lv_at hl 1 rfl) ?_
                    refine q_call (va_runV (As := []) (rest := []) ⟨hx, hb, hml, hown, hts⟩ (c_X5_load l D cy b0 S _ hw) (cwV 0 hts gL_law_X5_load rfl rfl rfl (by decide +kernel) ⟨(Nat.le_of_ble_eq_true rfl), (Nat.le_of_ble_eq_true rfl)⟩) (q_pV hW hP hF hS (k := 0) (ci := 5) (by decide) (cell_5 (kk_0)) rfl []) rfl rfl hl.1 rfl (lv_room (Nat.le_of_ble_eq_true rfl)) dL_law_520 ⟨by show _ ≤ 601024; omega, by show _ ≤ 7293034; omega⟩) hS (fun v520 S520 t520 H locs hh hp hB hz hk9 hS => ?_)
                    obtain ⟨r520, rfl, hw⟩ := hp
                    have hP : HP D cy b0 NALL S520 H := by rw [← hh]; exact hB.1
                    have hF := hB.2
                    try dsimp only at hw
                    refine W.eq (g2 := F0 m 523 ls [.int r520]) rfl ?_
                    refine lv_aload_n hx hb dL_law_523 rfl (lv_at hl 2 rfl) ?_
                    refine q_call (va_runV (As := []) (rest := [.int r520]) ⟨hx, hb, hml, hown, hts⟩ (c_X6_load l D cy b0 S520 _ hw) (cwV 0 hts gL_law_X6_load rfl rfl rfl (by decide +kernel) ⟨(Nat.le_of_ble_eq_true rfl), (Nat.le_of_ble_eq_true rfl)⟩) (q_pV hW hP hF hS (k := 367) (ci := 6) (by decide) (cell_6 (kk_367)) rfl []) rfl rfl hl.1 rfl (lv_room (Nat.le_of_ble_eq_true rfl)) dL_law_524 ⟨by show _ ≤ 601024; omega, by show _ ≤ 7293034; omega⟩) hS (fun v524 S524 t524 H locs hh hp hB hz hk9 hS => ?_)
                    obtain ⟨r524, rfl, hw⟩ := hp
                    have hP : HP D cy b0 NALL S524 H := by rw [← hh]; exact hB.1
                    have hF := hB.2
                    try dsimp only at hw
                    refine W.eq (g2 := F0 m 527 ls [.int r524, .int r520]) rfl ?_
                    refine lv_icmp_eq (x := r520) (y := r524) (tgt := 1325) hx hb dL_law_527 (by decide) (fun c527 => ?_) (fun c527 => ?_)
                    · rw [if_pos c527] at hw
                      refine W.widen (k := 392 + 4 * (513 - n28)) (n := 2000000 + 24 * (513 - n28)) (by omega) (by omega) ?_
                      exact j1325 S524 a5  _ _ _ hw hP hF hS (lv_sub hl [0, 1, 2, 3, 4, 5] rfl)
                    · rw [if_neg c527] at hw
                      refine lv_iconst (v := 0) hx hb dL_law_530 (by decide) ?_
                      exact False.elim hw
                  · rw [if_neg c44_6] at hw
                    by_cases c44_7 : ((xs (a5.toNatClampNeg)) &&& 31) = 7
                    · rw [if_pos c44_7] at hw
                      rw [c44_7]
                      refine lv_tableIn (x := 7) (off := 488) (tgt := 532) hx hb dL_law_44 (by decide) (by decide) (by decide) (by decide) ?_
                      refine lv_aload_n hx hb dL_law_532 rfl (lv_at hl 1 rfl) ?_
                      refine lv_aload hx hb dL_law_533 (lv_at hl 4 rfl) ?_
                      refine q_call (vx_runSW (As := [.ref (b0 + 0), .ref (b0 + 391)]) (rest := []) ⟨hx, hb, hml, hown, hts⟩ (c_L_usage l hlt D cy b0 S _ hw) (vx_cwSW 2 hts gL_law_L_usage rfl rfl rfl (by decide +kernel) ⟨(Nat.le_of_ble_eq_true rfl), (Nat.le_of_ble_eq_true rfl)⟩) (q_pS hW hP hF hS [.ref (b0 + 0), .ref (b0 + 391)]) rfl rfl hl.1 rfl (lv_room (Nat.le_of_ble_eq_true rfl)) dL_law_535 ⟨by show _ ≤ 601024; omega, by show _ ≤ 7293034; omega⟩) hS (fun v535 S535 t535 H locs hh hp hB hz hk9 hS => ?_)
                      obtain ⟨r535, rfl, hw⟩ := hp
                      have hP : HP D cy b0 NALL S535 H := by rw [← hh]; exact hB.1
                      have hF := hB.2
                      try dsimp only at hw
                      refine W.eq (g2 := F0 m 538 ls [.int r535]) rfl ?_
                      refine lv_istore (lv' := [(6, .int r535), (0, .ref b), (1, .ref (b0 + 0)), (2, .ref (b0 + 367)), (3, .ref (b0 + 390)), (4, .ref (b0 + 391)), (5, .int a5)]) hx hb dL_law_538 hl (by decide) rfl (fun ls hl => ?_)
                      refine lv_aload_n hx hb dL_law_540 rfl (lv_at hl 3 rfl) ?_
                      refine q_call (va_runV (As := []) (rest := []) ⟨hx, hb, hml, hown, hts⟩ (c_X6_usage l D cy b0 S535 _ hw) (cwV 0 hts gL_law_X6_usage rfl rfl rfl (by decide +kernel) ⟨(Nat.le_of_ble_eq_true rfl), (Nat.le_of_ble_eq_true rfl)⟩) (q_pV hW hP hF hS (k := 367) (ci := 6) (by decide) (cell_6 (kk_367)) rfl []) rfl rfl hl.1 rfl (lv_room (Nat.le_of_ble_eq_true rfl)) dL_law_541 ⟨by show _ ≤ 601024; omega, by show _ ≤ 7293034; omega⟩) hS (fun v541 S541 t541 H locs hh hp hB hz hk9 hS => ?_)
                      obtain ⟨r541, rfl, hw⟩ := hp
                      have hP : HP D cy b0 NALL S541 H := by rw [← hh]; exact hB.1
                      have hF := hB.2
                      try dsimp only at hw
                      refine W.eq (g2 := F0 m 544 ls [.float r541]) rfl ?_
                      refine lv_fstore (lv' := [(7, .float r541), (6, .int r535), (0, .ref b), (1, .ref (b0 + 0)), (2, .ref (b0 + 367)), (3, .ref (b0 + 390)), (4, .ref (b0 + 391)), (5, .int a5)]) hx hb dL_law_544 hl (by decide) rfl (fun ls hl => ?_)
                      refine lv_aload_n hx hb dL_law_546 rfl (lv_at hl 4 rfl) ?_
                      refine q_call (va_runV (As := []) (rest := []) ⟨hx, hb, hml, hown, hts⟩ (c_X6_thrown l D cy b0 S541 _ hw) (cwV 0 hts gL_law_X6_thrown rfl rfl rfl (by decide +kernel) ⟨(Nat.le_of_ble_eq_true rfl), (Nat.le_of_ble_eq_true rfl)⟩) (q_pV hW hP hF hS (k := 367) (ci := 6) (by decide) (cell_6 (kk_367)) rfl []) rfl rfl hl.1 rfl (lv_room (Nat.le_of_ble_eq_true rfl)) dL_law_547 ⟨by show _ ≤ 601024; omega, by show _ ≤ 7293034; omega⟩) hS (fun v547 S547 t547 H locs hh hp hB hz hk9 hS => ?_)
                      obtain ⟨r547, rfl, hw⟩ := hp
                      have hP : HP D cy b0 NALL S547 H := by rw [← hh]; exact hB.1
                      have hF := hB.2
                      try dsimp only at hw
                      refine W.eq (g2 := F0 m 550 ls [.int r547]) rfl ?_
                      refine lv_iload hx hb dL_law_550 (lv_at hl 1 rfl) ?_
                      refine lv_icmp_eq (x := r547) (y := r535) (tgt := 557) hx hb dL_law_552 (by decide) (fun c552 => ?_) (fun c552 => ?_)
                      · rw [if_pos c552] at hw
                        refine lv_iload hx hb dL_law_557 (lv_at hl 1 rfl) ?_
                        refine lv_if_ne (x := r535) (tgt := 595) hx hb dL_law_559 (by decide) (fun c559 => ?_) (fun c559 => ?_)
                        · rw [if_neg c559] at hw
                          refine lv_goto (tgt := 1325) hx hb dL_law_595 (by decide) ?_
                          refine W.widen (k := 392 + 4 * (513 - n28)) (n := 2000000 + 24 * (513 - n28)) (by omega) (by omega) ?_
                          exact j1325 S547 a5  _ _ _ hw hP hF hS (lv_sub hl [2, 3, 4, 5, 6, 7] rfl)
                        · rw [if_pos c559] at hw
                          refine lv_aload hx hb dL_law_562 (lv_at hl 6 rfl) ?_
                          refine lv_iconst (v := 0) hx hb dL_law_564 (by decide) ?_
                          obtain ⟨h565, hw⟩ := hw
                          refine q_dald (k := 391) (n := 1) (i := 0) hx hb hK hP (by decide) (kk_391) (ll_391) h565 dL_law_565 ?_
                          refine lv_fload hx hb dL_law_566 (lv_at hl 0 rfl) ?_
                          obtain ⟨h568, hw⟩ := hw
                          refine lv_f2d hx hb dL_law_568 h568 ?_
                          refine lv_dcmp hx hb dL_law_569 ?_
                          refine lv_if_eq (x := (Op.cmpValue (FP.dcmp (gD S547 391 ((0 : Int32).toNatClampNeg)) (FP.f2d r541)) .l)) (tgt := 595) hx hb dL_law_570 (by decide) (fun c570 => ?_) (fun c570 => ?_)
                          · rw [if_pos c570] at hw
                            refine lv_goto (tgt := 1325) hx hb dL_law_595 (by decide) ?_
                            refine W.widen (k := 392 + 4 * (513 - n28)) (n := 2000000 + 24 * (513 - n28)) (by omega) (by omega) ?_
                            exact j1325 S547 a5  _ _ _ hw hP hF hS (lv_sub hl [2, 3, 4, 5, 6, 7] rfl)
                          · rw [if_neg c570] at hw
                            refine lv_aload hx hb dL_law_573 (lv_at hl 6 rfl) ?_
                            refine lv_iconst (v := 0) hx hb dL_law_575 (by decide) ?_
                            obtain ⟨h576, hw⟩ := hw
                            refine q_dald (k := 391) (n := 1) (i := 0) hx hb hK hP (by decide) (kk_391) (ll_391) h576 dL_law_576 ?_
                            refine lv_aload hx hb dL_law_577 (lv_at hl 6 rfl) ?_
                            refine lv_iconst (v := 0) hx hb dL_law_579 (by decide) ?_
                            obtain ⟨h580, hw⟩ := hw
                            refine q_dald (k := 391) (n := 1) (i := 0) hx hb hK hP (by decide) (kk_391) (ll_391) h580 dL_law_580 ?_
                            refine lv_dcmp hx hb dL_law_581 ?_
                            refine lv_if_eq (x := (Op.cmpValue (FP.dcmp (gD S547 391 ((0 : Int32).toNatClampNeg)) (gD S547 391 ((0 : Int32).toNatClampNeg))) .l)) (tgt := 593) hx hb dL_law_582 (by decide) (fun c582 => ?_) (fun c582 => ?_)
                            · rw [if_pos c582] at hw
                              refine lv_iconst (v := 0) hx hb dL_law_593 (by decide) ?_
                              exact False.elim hw
                            · rw [if_neg c582] at hw
                              refine lv_fload hx hb dL_law_585 (lv_at hl 0 rfl) ?_
                              refine lv_fload hx hb dL_law_587 (lv_at hl 0 rfl) ?_
                              refine lv_fcmp hx hb dL_law_589 ?_
                              refine lv_if_ne (x := (Op.cmpValue (FP.fcmp r541 r541) .l)) (tgt := 595) hx hb dL_law_590 (by decide) (fun c590 => ?_) (fun c590 => ?_)
                              · rw [if_neg c590] at hw
                                refine lv_goto (tgt := 1325) hx hb dL_law_595 (by decide) ?_
                                refine W.widen (k := 392 + 4 * (513 - n28)) (n := 2000000 + 24 * (513 - n28)) (by omega) (by omega) ?_
                                exact j1325 S547 a5  _ _ _ hw hP hF hS (lv_sub hl [2, 3, 4, 5, 6, 7] rfl)
                              · rw [if_pos c590] at hw
                                refine lv_iconst (v := 0) hx hb dL_law_593 (by decide) ?_
                                exact False.elim hw
                      · rw [if_neg c552] at hw
                        refine lv_iconst (v := 0) hx hb dL_law_555 (by decide) ?_
                        exact False.elim hw
                    · rw [if_neg c44_7] at hw
                      by_cases c44_8 : ((xs (a5.toNatClampNeg)) &&& 31) = 8
                      · rw [if_pos c44_8] at hw
                        rw [c44_8]
                        refine lv_tableIn (x := 8) (off := 554) (tgt := 598) hx hb dL_law_44 (by decide) (by decide) (by decide) (by decide) ?_
                        refine lv_aload_n hx hb dL_law_598 rfl (lv_at hl 1 rfl) ?_
                        refine lv_aload_n hx hb dL_law_599 rfl (lv_at hl 0 rfl) ?_
                        refine lv_iload hx hb dL_law_600 (lv_at hl 5 rfl) ?_
                        refine lv_iconst (v := 1) hx hb dL_law_602 (by decide) ?_
                        refine lv_iadd hx hb dL_law_603 ?_
                        obtain ⟨h604, hw⟩ := hw
                        refine va_sld hx hb hX hbl hbA hS (i := (a5 + 1)) h604 dL_law_604 ?_
                        refine lv_aload_n hx hb dL_law_605 rfl (lv_at hl 0 rfl) ?_
                        refine lv_iload hx hb dL_law_606 (lv_at hl 5 rfl) ?_
                        refine lv_iconst (v := 2) hx hb dL_law_608 (by decide) ?_
                        refine lv_iadd hx hb dL_law_609 ?_
                        obtain ⟨h610, hw⟩ := hw
                        refine va_sld hx hb hX hbl hbA hS (i := (a5 + 2)) h610 dL_law_610 ?_
                        refine lv_aload_n hx hb dL_law_611 rfl (lv_at hl 0 rfl) ?_
                        refine lv_iload hx hb dL_law_612 (lv_at hl 5 rfl) ?_
                        refine lv_iconst (v := 3) hx hb dL_law_614 (by decide) ?_
                        refine lv_iadd hx hb dL_law_615 ?_
                        obtain ⟨h616, hw⟩ := hw
                        refine va_sld hx hb hX hbl hbA hS (i := (a5 + 3)) h616 dL_law_616 ?_
                        refine lv_aload_n hx hb dL_law_617 rfl (lv_at hl 0 rfl) ?_
                        refine lv_iload hx hb dL_law_618 (lv_at hl 5 rfl) ?_
                        refine lv_iconst (v := 4) hx hb dL_law_620 (by decide) ?_
                        refine lv_iadd hx hb dL_law_621 ?_
                        obtain ⟨h622, hw⟩ := hw
                        refine va_sld hx hb hX hbl hbA hS (i := (a5 + 4)) h622 dL_law_622 ?_
                        refine lv_aload_n hx hb dL_law_623 rfl (lv_at hl 3 rfl) ?_
                        refine q_call (vx_runSW (As := [.ref (b0 + 0), .int (xs ((a5 + 1).toNatClampNeg)), .int (xs ((a5 + 2).toNatClampNeg)), .int (xs ((a5 + 3).toNatClampNeg)), .int (xs ((a5 + 4).toNatClampNeg)), .ref (b0 + 390)]) (rest := []) ⟨hx, hb, hml, hown, hts⟩ (c_L_request l hlt D cy b0 S (xs ((a5 + 1).toNatClampNeg)) (xs ((a5 + 2).toNatClampNeg)) (xs ((a5 + 3).toNatClampNeg)) (xs ((a5 + 4).toNatClampNeg)) _ hw) (vx_cwSW 6 hts gL_law_L_request rfl rfl rfl (by decide +kernel) ⟨(Nat.le_of_ble_eq_true rfl), (Nat.le_of_ble_eq_true rfl)⟩) (q_pS hW hP hF hS [.ref (b0 + 0), .int (xs ((a5 + 1).toNatClampNeg)), .int (xs ((a5 + 2).toNatClampNeg)), .int (xs ((a5 + 3).toNatClampNeg)), .int (xs ((a5 + 4).toNatClampNeg)), .ref (b0 + 390)]) rfl rfl hl.1 rfl (lv_room (Nat.le_of_ble_eq_true rfl)) dL_law_624 ⟨by show _ ≤ 601024; omega, by show _ ≤ 7293034; omega⟩) hS (fun v624 S624 t624 H locs hh hp hB hz hk9 hS => ?_)
                        obtain ⟨r624, rfl, hw⟩ := hp
                        have hP : HP D cy b0 NALL S624 H := by rw [← hh]; exact hB.1
                        have hF := hB.2
                        try dsimp only at hw
                        refine W.eq (g2 := F0 m 627 ls [.int r624]) rfl ?_
                        refine lv_istore (lv' := [(6, .int r624), (0, .ref b), (1, .ref (b0 + 0)), (2, .ref (b0 + 367)), (3, .ref (b0 + 390)), (4, .ref (b0 + 391)), (5, .int a5)]) hx hb dL_law_627 hl (by decide) rfl (fun ls hl => ?_)
                        refine lv_aload_n hx hb dL_law_629 rfl (lv_at hl 3 rfl) ?_
                        refine lv_aload_n hx hb dL_law_630 rfl (lv_at hl 1 rfl) ?_
                        refine lv_iload hx hb dL_law_631 (lv_at hl 6 rfl) ?_
                        refine lv_iconst (v := 1) hx hb dL_law_633 (by decide) ?_
                        refine lv_iadd hx hb dL_law_634 ?_
                        obtain ⟨h635, hw⟩ := hw
                        refine va_sld hx hb hX hbl hbA hS (i := (a5 + 1)) h635 dL_law_635 ?_
                        refine lv_aload_n hx hb dL_law_636 rfl (lv_at hl 1 rfl) ?_
                        refine lv_iload hx hb dL_law_637 (lv_at hl 6 rfl) ?_
                        refine lv_iconst (v := 2) hx hb dL_law_639 (by decide) ?_
                        refine lv_iadd hx hb dL_law_640 ?_
                        obtain ⟨h641, hw⟩ := hw
                        refine va_sld hx hb hX hbl hbA hS (i := (a5 + 2)) h641 dL_law_641 ?_
                        refine lv_aload_n hx hb dL_law_642 rfl (lv_at hl 1 rfl) ?_
                        refine lv_iload hx hb dL_law_643 (lv_at hl 6 rfl) ?_
                        refine lv_iconst (v := 3) hx hb dL_law_645 (by decide) ?_
                        refine lv_iadd hx hb dL_law_646 ?_
                        obtain ⟨h647, hw⟩ := hw
                        refine va_sld hx hb hX hbl hbA hS (i := (a5 + 3)) h647 dL_law_647 ?_
                        refine lv_aload_n hx hb dL_law_648 rfl (lv_at hl 1 rfl) ?_
                        refine lv_iload hx hb dL_law_649 (lv_at hl 6 rfl) ?_
                        refine lv_iconst (v := 4) hx hb dL_law_651 (by decide) ?_
                        refine lv_iadd hx hb dL_law_652 ?_
                        obtain ⟨h653, hw⟩ := hw
                        refine va_sld hx hb hX hbl hbA hS (i := (a5 + 4)) h653 dL_law_653 ?_
                        refine q_call (va_runV (As := [.int (xs ((a5 + 1).toNatClampNeg)), .int (xs ((a5 + 2).toNatClampNeg)), .int (xs ((a5 + 3).toNatClampNeg)), .int (xs ((a5 + 4).toNatClampNeg))]) (rest := []) ⟨hx, hb, hml, hown, hts⟩ (c_X6_request l D cy b0 S624 (xs ((a5 + 1).toNatClampNeg)) (xs ((a5 + 2).toNatClampNeg)) (xs ((a5 + 3).toNatClampNeg)) (xs ((a5 + 4).toNatClampNeg)) _ hw) (cwV 4 hts gL_law_X6_request rfl rfl rfl (by decide +kernel) ⟨(Nat.le_of_ble_eq_true rfl), (Nat.le_of_ble_eq_true rfl)⟩) (q_pV hW hP hF hS (k := 367) (ci := 6) (by decide) (cell_6 (kk_367)) rfl [.int (xs ((a5 + 1).toNatClampNeg)), .int (xs ((a5 + 2).toNatClampNeg)), .int (xs ((a5 + 3).toNatClampNeg)), .int (xs ((a5 + 4).toNatClampNeg))]) rfl rfl hl.1 rfl (lv_room (Nat.le_of_ble_eq_true rfl)) dL_law_654 ⟨by show _ ≤ 601024; omega, by show _ ≤ 7293034; omega⟩) hS (fun v654 S654 t654 H locs hh hp hB hz hk9 hS => ?_)
                        obtain ⟨r654, rfl, hw⟩ := hp
                        have hP : HP D cy b0 NALL S654 H := by rw [← hh]; exact hB.1
                        have hF := hB.2
                        try dsimp only at hw
                        refine W.eq (g2 := F0 m 657 ls [.int r654]) rfl ?_
                        refine lv_istore (lv' := [(7, .int r654), (6, .int r624), (0, .ref b), (1, .ref (b0 + 0)), (2, .ref (b0 + 367)), (3, .ref (b0 + 390)), (4, .ref (b0 + 391)), (5, .int a5)]) hx hb dL_law_657 hl (by decide) rfl (fun ls hl => ?_)
                        refine lv_aload_n hx hb dL_law_659 rfl (lv_at hl 4 rfl) ?_
                        refine q_call (va_runV (As := []) (rest := []) ⟨hx, hb, hml, hown, hts⟩ (c_X6_thrown l D cy b0 S654 _ hw) (cwV 0 hts gL_law_X6_thrown rfl rfl rfl (by decide +kernel) ⟨(Nat.le_of_ble_eq_true rfl), (Nat.le_of_ble_eq_true rfl)⟩) (q_pV hW hP hF hS (k := 367) (ci := 6) (by decide) (cell_6 (kk_367)) rfl []) rfl rfl hl.1 rfl (lv_room (Nat.le_of_ble_eq_true rfl)) dL_law_660 ⟨by show _ ≤ 601024; omega, by show _ ≤ 7293034; omega⟩) hS (fun v660 S660 t660 H locs hh hp hB hz hk9 hS => ?_)
                        obtain ⟨r660, rfl, hw⟩ := hp
                        have hP : HP D cy b0 NALL S660 H := by rw [← hh]; exact hB.1
                        have hF := hB.2
                        try dsimp only at hw
                        refine W.eq (g2 := F0 m 663 ls [.int r660]) rfl ?_
                        refine lv_iload hx hb dL_law_663 (lv_at hl 1 rfl) ?_
                        refine lv_icmp_eq (x := r660) (y := r624) (tgt := 670) hx hb dL_law_665 (by decide) (fun c665 => ?_) (fun c665 => ?_)
                        · rw [if_pos c665] at hw
                          refine lv_iload hx hb dL_law_670 (lv_at hl 1 rfl) ?_
                          refine lv_if_ne (x := r624) (tgt := 687) hx hb dL_law_672 (by decide) (fun c672 => ?_) (fun c672 => ?_)
                          · rw [if_neg c672] at hw
                            refine lv_goto (tgt := 1325) hx hb dL_law_687 (by decide) ?_
                            refine W.widen (k := 392 + 4 * (513 - n28)) (n := 2000000 + 24 * (513 - n28)) (by omega) (by omega) ?_
                            exact j1325 S660 a5  _ _ _ hw hP hF hS (lv_sub hl [2, 3, 4, 5, 6, 7] rfl)
                          · rw [if_pos c672] at hw
                            refine lv_aload_n hx hb dL_law_675 rfl (lv_at hl 5 rfl) ?_
                            refine lv_iconst (v := 0) hx hb dL_law_676 (by decide) ?_
                            obtain ⟨h677, hw⟩ := hw
                            refine q_lald (k := 390) (n := 1) (i := 0) hx hb hK hP (by decide) (kk_390) (ll_390) h677 dL_law_677 ?_
                            refine lv_iload hx hb dL_law_678 (lv_at hl 0 rfl) ?_
                            refine lv_i2l hx hb dL_law_680 (v := r654.toInt64) rfl ?_
                            refine W.lcmp hx hb dL_law_681 ?_
                            refine lv_if_eq (x := (lg_cmp (gJ S660 390 ((0 : Int32).toNatClampNeg)) (r654.toInt64))) (tgt := 687) hx hb dL_law_682 (by decide) (fun c682 => ?_) (fun c682 => ?_)
                            · rw [if_pos c682] at hw
                              refine lv_goto (tgt := 1325) hx hb dL_law_687 (by decide) ?_
                              refine W.widen (k := 392 + 4 * (513 - n28)) (n := 2000000 + 24 * (513 - n28)) (by omega) (by omega) ?_
                              exact j1325 S660 a5  _ _ _ hw hP hF hS (lv_sub hl [2, 3, 4, 5, 6, 7] rfl)
                            · rw [if_neg c682] at hw
                              refine lv_iconst (v := 0) hx hb dL_law_685 (by decide) ?_
                              exact False.elim hw
                        · rw [if_neg c665] at hw
                          refine lv_iconst (v := 0) hx hb dL_law_668 (by decide) ?_
                          exact False.elim hw
                      · rw [if_neg c44_8] at hw
                        by_cases c44_9 : ((xs (a5.toNatClampNeg)) &&& 31) = 9
                        · rw [if_pos c44_9] at hw
                          rw [c44_9]
                          refine lv_tableIn (x := 9) (off := 646) (tgt := 690) hx hb dL_law_44 (by decide) (by decide) (by decide) (by decide) ?_
                          refine lv_aload_n hx hb dL_law_690 rfl (lv_at hl 1 rfl) ?_
                          refine lv_aload_n hx hb dL_law_691 rfl (lv_at hl 0 rfl) ?_
                          refine lv_iload hx hb dL_law_692 (lv_at hl 5 rfl) ?_
                          refine lv_iconst (v := 1) hx hb dL_law_694 (by decide) ?_
                          refine lv_iadd hx hb dL_law_695 ?_
                          obtain ⟨h696, hw⟩ := hw
                          refine va_sld hx hb hX hbl hbA hS (i := (a5 + 1)) h696 dL_law_696 ?_
                          refine lv_aload_n hx hb dL_law_697 rfl (lv_at hl 0 rfl) ?_
                          refine lv_iload hx hb dL_law_698 (lv_at hl 5 rfl) ?_
                          refine lv_iconst (v := 2) hx hb dL_law_700 (by decide) ?_
                          refine lv_iadd hx hb dL_law_701 ?_
                          obtain ⟨h702, hw⟩ := hw
                          refine va_sld hx hb hX hbl hbA hS (i := (a5 + 2)) h702 dL_law_702 ?_
                          refine lv_aload_n hx hb dL_law_703 rfl (lv_at hl 0 rfl) ?_
                          refine lv_iload hx hb dL_law_704 (lv_at hl 5 rfl) ?_
                          refine lv_iconst (v := 3) hx hb dL_law_706 (by decide) ?_
                          refine lv_iadd hx hb dL_law_707 ?_
                          obtain ⟨h708, hw⟩ := hw
                          refine va_sld hx hb hX hbl hbA hS (i := (a5 + 3)) h708 dL_law_708 ?_
                          refine lv_aload_n hx hb dL_law_709 rfl (lv_at hl 3 rfl) ?_
                          refine q_call (vx_runSW (As := [.ref (b0 + 0), .int (xs ((a5 + 1).toNatClampNeg)), .int (xs ((a5 + 2).toNatClampNeg)), .int (xs ((a5 + 3).toNatClampNeg)), .ref (b0 + 390)]) (rest := []) ⟨hx, hb, hml, hown, hts⟩ (c_L_newLength l hlt D cy b0 S (xs ((a5 + 1).toNatClampNeg)) (xs ((a5 + 2).toNatClampNeg)) (xs ((a5 + 3).toNatClampNeg)) _ hw) (vx_cwSW 5 hts gL_law_L_newLength rfl rfl rfl (by decide +kernel) ⟨(Nat.le_of_ble_eq_true rfl), (Nat.le_of_ble_eq_true rfl)⟩) (q_pS hW hP hF hS [.ref (b0 + 0), .int (xs ((a5 + 1).toNatClampNeg)), .int (xs ((a5 + 2).toNatClampNeg)), .int (xs ((a5 + 3).toNatClampNeg)), .ref (b0 + 390)]) rfl rfl hl.1 rfl (lv_room (Nat.le_of_ble_eq_true rfl)) dL_law_710 ⟨by show _ ≤ 601024; omega, by show _ ≤ 7293034; omega⟩) hS (fun v710 S710 t710 H locs hh hp hB hz hk9 hS => ?_)
                          obtain ⟨r710, rfl, hw⟩ := hp
                          have hP : HP D cy b0 NALL S710 H := by rw [← hh]; exact hB.1
                          have hF := hB.2
                          try dsimp only at hw
                          refine W.eq (g2 := F0 m 713 ls [.int r710]) rfl ?_
                          refine lv_istore (lv' := [(6, .int r710), (0, .ref b), (1, .ref (b0 + 0)), (2, .ref (b0 + 367)), (3, .ref (b0 + 390)), (4, .ref (b0 + 391)), (5, .int a5)]) hx hb dL_law_713 hl (by decide) rfl (fun ls hl => ?_)
                          refine lv_aload_n hx hb dL_law_715 rfl (lv_at hl 3 rfl) ?_
                          refine lv_aload_n hx hb dL_law_716 rfl (lv_at hl 1 rfl) ?_
                          refine lv_iload hx hb dL_law_717 (lv_at hl 6 rfl) ?_
                          refine lv_iconst (v := 1) hx hb dL_law_719 (by decide) ?_
                          refine lv_iadd hx hb dL_law_720 ?_
                          obtain ⟨h721, hw⟩ := hw
                          refine va_sld hx hb hX hbl hbA hS (i := (a5 + 1)) h721 dL_law_721 ?_
                          refine lv_aload_n hx hb dL_law_722 rfl (lv_at hl 1 rfl) ?_
                          refine lv_iload hx hb dL_law_723 (lv_at hl 6 rfl) ?_
                          refine lv_iconst (v := 2) hx hb dL_law_725 (by decide) ?_
                          refine lv_iadd hx hb dL_law_726 ?_
                          obtain ⟨h727, hw⟩ := hw
                          refine va_sld hx hb hX hbl hbA hS (i := (a5 + 2)) h727 dL_law_727 ?_
                          refine lv_aload_n hx hb dL_law_728 rfl (lv_at hl 1 rfl) ?_
                          refine lv_iload hx hb dL_law_729 (lv_at hl 6 rfl) ?_
                          refine lv_iconst (v := 3) hx hb dL_law_731 (by decide) ?_
                          refine lv_iadd hx hb dL_law_732 ?_
                          obtain ⟨h733, hw⟩ := hw
                          refine va_sld hx hb hX hbl hbA hS (i := (a5 + 3)) h733 dL_law_733 ?_
                          refine q_call (va_runV (As := [.int (xs ((a5 + 1).toNatClampNeg)), .int (xs ((a5 + 2).toNatClampNeg)), .int (xs ((a5 + 3).toNatClampNeg))]) (rest := []) ⟨hx, hb, hml, hown, hts⟩ (c_X6_newLength l D cy b0 S710 (xs ((a5 + 1).toNatClampNeg)) (xs ((a5 + 2).toNatClampNeg)) (xs ((a5 + 3).toNatClampNeg)) _ hw) (cwV 3 hts gL_law_X6_newLength rfl rfl rfl (by decide +kernel) ⟨(Nat.le_of_ble_eq_true rfl), (Nat.le_of_ble_eq_true rfl)⟩) (q_pV hW hP hF hS (k := 367) (ci := 6) (by decide) (cell_6 (kk_367)) rfl [.int (xs ((a5 + 1).toNatClampNeg)), .int (xs ((a5 + 2).toNatClampNeg)), .int (xs ((a5 + 3).toNatClampNeg))]) rfl rfl hl.1 rfl (lv_room (Nat.le_of_ble_eq_true rfl)) dL_law_734 ⟨by show _ ≤ 601024; omega, by show _ ≤ 7293034; omega⟩) hS (fun v734 S734 t734 H locs hh hp hB hz hk9 hS => ?_)
                          obtain ⟨r734, rfl, hw⟩ := hp
                          have hP : HP D cy b0 NALL S734 H := by rw [← hh]; exact hB.1
                          have hF := hB.2
                          try dsimp only at hw
                          refine W.eq (g2 := F0 m 737 ls [.int r734]) rfl ?_
                          refine lv_istore (lv' := [(7, .int r734), (6, .int r710), (0, .ref b), (1, .ref (b0 + 0)), (2, .ref (b0 + 367)), (3, .ref (b0 + 390)), (4, .ref (b0 + 391)), (5, .int a5)]) hx hb dL_law_737 hl (by decide) rfl (fun ls hl => ?_)
                          refine lv_aload_n hx hb dL_law_739 rfl (lv_at hl 4 rfl) ?_
                          refine q_call (va_runV (As := []) (rest := []) ⟨hx, hb, hml, hown, hts⟩ (c_X6_thrown l D cy b0 S734 _ hw) (cwV 0 hts gL_law_X6_thrown rfl rfl rfl (by decide +kernel) ⟨(Nat.le_of_ble_eq_true rfl), (Nat.le_of_ble_eq_true rfl)⟩) (q_pV hW hP hF hS (k := 367) (ci := 6) (by decide) (cell_6 (kk_367)) rfl []) rfl rfl hl.1 rfl (lv_room (Nat.le_of_ble_eq_true rfl)) dL_law_740 ⟨by show _ ≤ 601024; omega, by show _ ≤ 7293034; omega⟩) hS (fun v740 S740 t740 H locs hh hp hB hz hk9 hS => ?_)
                          obtain ⟨r740, rfl, hw⟩ := hp
                          have hP : HP D cy b0 NALL S740 H := by rw [← hh]; exact hB.1
                          have hF := hB.2
                          try dsimp only at hw
                          refine W.eq (g2 := F0 m 743 ls [.int r740]) rfl ?_
                          refine lv_iload hx hb dL_law_743 (lv_at hl 1 rfl) ?_
                          refine lv_icmp_eq (x := r740) (y := r710) (tgt := 750) hx hb dL_law_745 (by decide) (fun c745 => ?_) (fun c745 => ?_)
                          · rw [if_pos c745] at hw
                            refine lv_iload hx hb dL_law_750 (lv_at hl 1 rfl) ?_
                            refine lv_if_ne (x := r710) (tgt := 767) hx hb dL_law_752 (by decide) (fun c752 => ?_) (fun c752 => ?_)
                            · rw [if_neg c752] at hw
                              refine lv_goto (tgt := 1325) hx hb dL_law_767 (by decide) ?_
                              refine W.widen (k := 392 + 4 * (513 - n28)) (n := 2000000 + 24 * (513 - n28)) (by omega) (by omega) ?_
                              exact j1325 S740 a5  _ _ _ hw hP hF hS (lv_sub hl [2, 3, 4, 5, 6, 7] rfl)
                            · rw [if_pos c752] at hw
                              refine lv_aload_n hx hb dL_law_755 rfl (lv_at hl 5 rfl) ?_
                              refine lv_iconst (v := 0) hx hb dL_law_756 (by decide) ?_
                              obtain ⟨h757, hw⟩ := hw
                              refine q_lald (k := 390) (n := 1) (i := 0) hx hb hK hP (by decide) (kk_390) (ll_390) h757 dL_law_757 ?_
                              refine lv_iload hx hb dL_law_758 (lv_at hl 0 rfl) ?_
                              refine lv_i2l hx hb dL_law_760 (v := r734.toInt64) rfl ?_
                              refine W.lcmp hx hb dL_law_761 ?_
                              refine lv_if_eq (x := (lg_cmp (gJ S740 390 ((0 : Int32).toNatClampNeg)) (r734.toInt64))) (tgt := 767) hx hb dL_law_762 (by decide) (fun c762 => ?_) (fun c762 => ?_)
                              · rw [if_pos c762] at hw
                                refine lv_goto (tgt := 1325) hx hb dL_law_767 (by decide) ?_
                                refine W.widen (k := 392 + 4 * (513 - n28)) (n := 2000000 + 24 * (513 - n28)) (by omega) (by omega) ?_
                                exact j1325 S740 a5  _ _ _ hw hP hF hS (lv_sub hl [2, 3, 4, 5, 6, 7] rfl)
                              · rw [if_neg c762] at hw
                                refine lv_iconst (v := 0) hx hb dL_law_765 (by decide) ?_
                                exact False.elim hw
                          · rw [if_neg c745] at hw
                            refine lv_iconst (v := 0) hx hb dL_law_748 (by decide) ?_
                            exact False.elim hw
                        · rw [if_neg c44_9] at hw
                          by_cases c44_10 : ((xs (a5.toNatClampNeg)) &&& 31) = 10
                          · rw [if_pos c44_10] at hw
                            rw [c44_10]
                            refine lv_tableIn (x := 10) (off := 726) (tgt := 770) hx hb dL_law_44 (by decide) (by decide) (by decide) (by decide) ?_
                            refine lv_aload_n hx hb dL_law_770 rfl (lv_at hl 1 rfl) ?_
                            refine lv_aload_n hx hb dL_law_771 rfl (lv_at hl 0 rfl) ?_
                            refine lv_iload hx hb dL_law_772 (lv_at hl 5 rfl) ?_
                            refine lv_iconst (v := 1) hx hb dL_law_774 (by decide) ?_
                            refine lv_iadd hx hb dL_law_775 ?_
                            obtain ⟨h776, hw⟩ := hw
                            refine va_sld hx hb hX hbl hbA hS (i := (a5 + 1)) h776 dL_law_776 ?_
                            refine lv_aload_n hx hb dL_law_777 rfl (lv_at hl 3 rfl) ?_
                            refine q_call (vx_runSW (As := [.ref (b0 + 0), .int (xs ((a5 + 1).toNatClampNeg)), .ref (b0 + 390)]) (rest := []) ⟨hx, hb, hml, hown, hts⟩ (c_L_release l hlt D cy b0 S (xs ((a5 + 1).toNatClampNeg)) _ hw) (vx_cwSW 3 hts gL_law_L_release rfl rfl rfl (by decide +kernel) ⟨(Nat.le_of_ble_eq_true rfl), (Nat.le_of_ble_eq_true rfl)⟩) (q_pS hW hP hF hS [.ref (b0 + 0), .int (xs ((a5 + 1).toNatClampNeg)), .ref (b0 + 390)]) rfl rfl hl.1 rfl (lv_room (Nat.le_of_ble_eq_true rfl)) dL_law_778 ⟨by show _ ≤ 601024; omega, by show _ ≤ 7293034; omega⟩) hS (fun v778 S778 t778 H locs hh hp hB hz hk9 hS => ?_)
                            obtain ⟨r778, rfl, hw⟩ := hp
                            have hP : HP D cy b0 NALL S778 H := by rw [← hh]; exact hB.1
                            have hF := hB.2
                            try dsimp only at hw
                            refine W.eq (g2 := F0 m 781 ls [.int r778]) rfl ?_
                            refine lv_istore (lv' := [(6, .int r778), (0, .ref b), (1, .ref (b0 + 0)), (2, .ref (b0 + 367)), (3, .ref (b0 + 390)), (4, .ref (b0 + 391)), (5, .int a5)]) hx hb dL_law_781 hl (by decide) rfl (fun ls hl => ?_)
                            refine lv_aload_n hx hb dL_law_783 rfl (lv_at hl 3 rfl) ?_
                            refine lv_aload_n hx hb dL_law_784 rfl (lv_at hl 1 rfl) ?_
                            refine lv_iload hx hb dL_law_785 (lv_at hl 6 rfl) ?_
                            refine lv_iconst (v := 1) hx hb dL_law_787 (by decide) ?_
                            refine lv_iadd hx hb dL_law_788 ?_
                            obtain ⟨h789, hw⟩ := hw
                            refine va_sld hx hb hX hbl hbA hS (i := (a5 + 1)) h789 dL_law_789 ?_
                            refine q_call (va_runV (As := [.int (xs ((a5 + 1).toNatClampNeg))]) (rest := []) ⟨hx, hb, hml, hown, hts⟩ (c_X6_release l D cy b0 S778 (xs ((a5 + 1).toNatClampNeg)) _ hw) (cwV 1 hts gL_law_X6_release rfl rfl rfl (by decide +kernel) ⟨(Nat.le_of_ble_eq_true rfl), (Nat.le_of_ble_eq_true rfl)⟩) (q_pV hW hP hF hS (k := 367) (ci := 6) (by decide) (cell_6 (kk_367)) rfl [.int (xs ((a5 + 1).toNatClampNeg))]) rfl rfl hl.1 rfl (lv_room (Nat.le_of_ble_eq_true rfl)) dL_law_790 ⟨by show _ ≤ 601024; omega, by show _ ≤ 7293034; omega⟩) hS (fun v790 S790 t790 H locs hh hp hB hz hk9 hS => ?_)
                            obtain ⟨r790, rfl, hw⟩ := hp
                            have hP : HP D cy b0 NALL S790 H := by rw [← hh]; exact hB.1
                            have hF := hB.2
                            try dsimp only at hw
                            refine W.eq (g2 := F0 m 793 ls [.int r790]) rfl ?_
                            refine lv_istore (lv' := [(7, .int r790), (6, .int r778), (0, .ref b), (1, .ref (b0 + 0)), (2, .ref (b0 + 367)), (3, .ref (b0 + 390)), (4, .ref (b0 + 391)), (5, .int a5)]) hx hb dL_law_793 hl (by decide) rfl (fun ls hl => ?_)
                            refine lv_aload_n hx hb dL_law_795 rfl (lv_at hl 4 rfl) ?_
                            refine q_call (va_runV (As := []) (rest := []) ⟨hx, hb, hml, hown, hts⟩ (c_X6_thrown l D cy b0 S790 _ hw) (cwV 0 hts gL_law_X6_thrown rfl rfl rfl (by decide +kernel) ⟨(Nat.le_of_ble_eq_true rfl), (Nat.le_of_ble_eq_true rfl)⟩) (q_pV hW hP hF hS (k := 367) (ci := 6) (by decide) (cell_6 (kk_367)) rfl []) rfl rfl hl.1 rfl (lv_room (Nat.le_of_ble_eq_true rfl)) dL_law_796 ⟨by show _ ≤ 601024; omega, by show _ ≤ 7293034; omega⟩) hS (fun v796 S796 t796 H locs hh hp hB hz hk9 hS => ?_)
                            obtain ⟨r796, rfl, hw⟩ := hp
                            have hP : HP D cy b0 NALL S796 H := by rw [← hh]; exact hB.1
                            have hF := hB.2
                            try dsimp only at hw
                            refine W.eq (g2 := F0 m 799 ls [.int r796]) rfl ?_
                            refine lv_iload hx hb dL_law_799 (lv_at hl 1 rfl) ?_
                            refine lv_icmp_eq (x := r796) (y := r778) (tgt := 806) hx hb dL_law_801 (by decide) (fun c801 => ?_) (fun c801 => ?_)
                            · rw [if_pos c801] at hw
                              refine lv_iload hx hb dL_law_806 (lv_at hl 1 rfl) ?_
                              refine lv_if_ne (x := r778) (tgt := 823) hx hb dL_law_808 (by decide) (fun c808 => ?_) (fun c808 => ?_)
                              · rw [if_neg c808] at hw
                                refine lv_goto (tgt := 1325) hx hb dL_law_823 (by decide) ?_
                                refine W.widen (k := 392 + 4 * (513 - n28)) (n := 2000000 + 24 * (513 - n28)) (by omega) (by omega) ?_
                                exact j1325 S796 a5  _ _ _ hw hP hF hS (lv_sub hl [2, 3, 4, 5, 6, 7] rfl)
                              · rw [if_pos c808] at hw
                                refine lv_aload_n hx hb dL_law_811 rfl (lv_at hl 5 rfl) ?_
                                refine lv_iconst (v := 0) hx hb dL_law_812 (by decide) ?_
                                obtain ⟨h813, hw⟩ := hw
                                refine q_lald (k := 390) (n := 1) (i := 0) hx hb hK hP (by decide) (kk_390) (ll_390) h813 dL_law_813 ?_
                                refine lv_iload hx hb dL_law_814 (lv_at hl 0 rfl) ?_
                                refine lv_i2l hx hb dL_law_816 (v := r790.toInt64) rfl ?_
                                refine W.lcmp hx hb dL_law_817 ?_
                                refine lv_if_eq (x := (lg_cmp (gJ S796 390 ((0 : Int32).toNatClampNeg)) (r790.toInt64))) (tgt := 823) hx hb dL_law_818 (by decide) (fun c818 => ?_) (fun c818 => ?_)
                                · rw [if_pos c818] at hw
                                  refine lv_goto (tgt := 1325) hx hb dL_law_823 (by decide) ?_
                                  refine W.widen (k := 392 + 4 * (513 - n28)) (n := 2000000 + 24 * (513 - n28)) (by omega) (by omega) ?_
                                  exact j1325 S796 a5  _ _ _ hw hP hF hS (lv_sub hl [2, 3, 4, 5, 6, 7] rfl)
                                · rw [if_neg c818] at hw
                                  refine lv_iconst (v := 0) hx hb dL_law_821 (by decide) ?_
                                  exact False.elim hw
                            · rw [if_neg c801] at hw
                              refine lv_iconst (v := 0) hx hb dL_law_804 (by decide) ?_
                              exact False.elim hw
                          · rw [if_neg c44_10] at hw
                            by_cases c44_11 : ((xs (a5.toNatClampNeg)) &&& 31) = 11
                            · rw [if_pos c44_11] at hw
                              rw [c44_11]
                              refine lv_tableIn (x := 11) (off := 782) (tgt := 826) hx hb dL_law_44 (by decide) (by decide) (by decide) (by decide) ?_
                              refine lv_aload_n hx hb dL_law_826 rfl (lv_at hl 1 rfl) ?_
                              refine lv_aload_n hx hb dL_law_827 rfl (lv_at hl 0 rfl) ?_
                              refine lv_iload hx hb dL_law_828 (lv_at hl 5 rfl) ?_
                              refine lv_iconst (v := 1) hx hb dL_law_830 (by decide) ?_
                              refine lv_iadd hx hb dL_law_831 ?_
                              obtain ⟨h832, hw⟩ := hw
                              refine va_sld hx hb hX hbl hbA hS (i := (a5 + 1)) h832 dL_law_832 ?_
                              refine lv_aload_n hx hb dL_law_833 rfl (lv_at hl 3 rfl) ?_
                              refine q_call (vx_runSW (As := [.ref (b0 + 0), .int (xs ((a5 + 1).toNatClampNeg)), .ref (b0 + 390)]) (rest := []) ⟨hx, hb, hml, hown, hts⟩ (c_L_lightOf l hlt D cy b0 S (xs ((a5 + 1).toNatClampNeg)) _ hw) (vx_cwSW 3 hts gL_law_L_lightOf rfl rfl rfl (by decide +kernel) ⟨(Nat.le_of_ble_eq_true rfl), (Nat.le_of_ble_eq_true rfl)⟩) (q_pS hW hP hF hS [.ref (b0 + 0), .int (xs ((a5 + 1).toNatClampNeg)), .ref (b0 + 390)]) rfl rfl hl.1 rfl (lv_room (Nat.le_of_ble_eq_true rfl)) dL_law_834 ⟨by show _ ≤ 601024; omega, by show _ ≤ 7293034; omega⟩) hS (fun v834 S834 t834 H locs hh hp hB hz hk9 hS => ?_)
                              obtain ⟨r834, rfl, hw⟩ := hp
                              have hP : HP D cy b0 NALL S834 H := by rw [← hh]; exact hB.1
                              have hF := hB.2
                              try dsimp only at hw
                              refine W.eq (g2 := F0 m 837 ls [.int r834]) rfl ?_
                              refine lv_istore (lv' := [(6, .int r834), (0, .ref b), (1, .ref (b0 + 0)), (2, .ref (b0 + 367)), (3, .ref (b0 + 390)), (4, .ref (b0 + 391)), (5, .int a5)]) hx hb dL_law_837 hl (by decide) rfl (fun ls hl => ?_)
                              refine lv_aload_n hx hb dL_law_839 rfl (lv_at hl 3 rfl) ?_
                              refine lv_aload_n hx hb dL_law_840 rfl (lv_at hl 1 rfl) ?_
                              refine lv_iload hx hb dL_law_841 (lv_at hl 6 rfl) ?_
                              refine lv_iconst (v := 1) hx hb dL_law_843 (by decide) ?_
                              refine lv_iadd hx hb dL_law_844 ?_
                              obtain ⟨h845, hw⟩ := hw
                              refine va_sld hx hb hX hbl hbA hS (i := (a5 + 1)) h845 dL_law_845 ?_
                              refine q_call (va_runV (As := [.int (xs ((a5 + 1).toNatClampNeg))]) (rest := []) ⟨hx, hb, hml, hown, hts⟩ (c_X6_lightOf l D cy b0 S834 (xs ((a5 + 1).toNatClampNeg)) _ hw) (cwV 1 hts gL_law_X6_lightOf rfl rfl rfl (by decide +kernel) ⟨(Nat.le_of_ble_eq_true rfl), (Nat.le_of_ble_eq_true rfl)⟩) (q_pV hW hP hF hS (k := 367) (ci := 6) (by decide) (cell_6 (kk_367)) rfl [.int (xs ((a5 + 1).toNatClampNeg))]) rfl rfl hl.1 rfl (lv_room (Nat.le_of_ble_eq_true rfl)) dL_law_846 ⟨by show _ ≤ 601024; omega, by show _ ≤ 7293034; omega⟩) hS (fun v846 S846 t846 H locs hh hp hB hz hk9 hS => ?_)
                              obtain ⟨r846, rfl, hw⟩ := hp
                              have hP : HP D cy b0 NALL S846 H := by rw [← hh]; exact hB.1
                              have hF := hB.2
                              try dsimp only at hw
                              refine W.eq (g2 := F0 m 849 ls [.int r846]) rfl ?_
                              refine lv_istore (lv' := [(7, .int r846), (6, .int r834), (0, .ref b), (1, .ref (b0 + 0)), (2, .ref (b0 + 367)), (3, .ref (b0 + 390)), (4, .ref (b0 + 391)), (5, .int a5)]) hx hb dL_law_849 hl (by decide) rfl (fun ls hl => ?_)
                              refine lv_aload_n hx hb dL_law_851 rfl (lv_at hl 4 rfl) ?_
                              refine q_call (va_runV (As := []) (rest := []) ⟨hx, hb, hml, hown, hts⟩ (c_X6_thrown l D cy b0 S846 _ hw) (cwV 0 hts gL_law_X6_thrown rfl rfl rfl (by decide +kernel) ⟨(Nat.le_of_ble_eq_true rfl), (Nat.le_of_ble_eq_true rfl)⟩) (q_pV hW hP hF hS (k := 367) (ci := 6) (by decide) (cell_6 (kk_367)) rfl []) rfl rfl hl.1 rfl (lv_room (Nat.le_of_ble_eq_true rfl)) dL_law_852 ⟨by show _ ≤ 601024; omega, by show _ ≤ 7293034; omega⟩) hS (fun v852 S852 t852 H locs hh hp hB hz hk9 hS => ?_)
                              obtain ⟨r852, rfl, hw⟩ := hp
                              have hP : HP D cy b0 NALL S852 H := by rw [← hh]; exact hB.1
                              have hF := hB.2
                              try dsimp only at hw
                              refine W.eq (g2 := F0 m 855 ls [.int r852]) rfl ?_
                              refine lv_iload hx hb dL_law_855 (lv_at hl 1 rfl) ?_
                              refine lv_icmp_eq (x := r852) (y := r834) (tgt := 862) hx hb dL_law_857 (by decide) (fun c857 => ?_) (fun c857 => ?_)
                              · rw [if_pos c857] at hw
                                refine lv_iload hx hb dL_law_862 (lv_at hl 1 rfl) ?_
                                refine lv_if_ne (x := r834) (tgt := 879) hx hb dL_law_864 (by decide) (fun c864 => ?_) (fun c864 => ?_)
                                · rw [if_neg c864] at hw
                                  refine lv_goto (tgt := 1325) hx hb dL_law_879 (by decide) ?_
                                  refine W.widen (k := 392 + 4 * (513 - n28)) (n := 2000000 + 24 * (513 - n28)) (by omega) (by omega) ?_
                                  exact j1325 S852 a5  _ _ _ hw hP hF hS (lv_sub hl [2, 3, 4, 5, 6, 7] rfl)
                                · rw [if_pos c864] at hw
                                  refine lv_aload_n hx hb dL_law_867 rfl (lv_at hl 5 rfl) ?_
                                  refine lv_iconst (v := 0) hx hb dL_law_868 (by decide) ?_
                                  obtain ⟨h869, hw⟩ := hw
                                  refine q_lald (k := 390) (n := 1) (i := 0) hx hb hK hP (by decide) (kk_390) (ll_390) h869 dL_law_869 ?_
                                  refine lv_iload hx hb dL_law_870 (lv_at hl 0 rfl) ?_
                                  refine lv_i2l hx hb dL_law_872 (v := r846.toInt64) rfl ?_
                                  refine W.lcmp hx hb dL_law_873 ?_
                                  refine lv_if_eq (x := (lg_cmp (gJ S852 390 ((0 : Int32).toNatClampNeg)) (r846.toInt64))) (tgt := 879) hx hb dL_law_874 (by decide) (fun c874 => ?_) (fun c874 => ?_)
                                  · rw [if_pos c874] at hw
                                    refine lv_goto (tgt := 1325) hx hb dL_law_879 (by decide) ?_
                                    refine W.widen (k := 392 + 4 * (513 - n28)) (n := 2000000 + 24 * (513 - n28)) (by omega) (by omega) ?_
                                    exact j1325 S852 a5  _ _ _ hw hP hF hS (lv_sub hl [2, 3, 4, 5, 6, 7] rfl)
                                  · rw [if_neg c874] at hw
                                    refine lv_iconst (v := 0) hx hb dL_law_877 (by decide) ?_
                                    exact False.elim hw
                              · rw [if_neg c857] at hw
                                refine lv_iconst (v := 0) hx hb dL_law_860 (by decide) ?_
                                exact False.elim hw
                            · rw [if_neg c44_11] at hw
                              by_cases c44_12 : ((xs (a5.toNatClampNeg)) &&& 31) = 12
                              · rw [if_pos c44_12] at hw
                                rw [c44_12]
                                refine lv_tableIn (x := 12) (off := 838) (tgt := 882) hx hb dL_law_44 (by decide) (by decide) (by decide) (by decide) ?_
                                refine lv_aload_n hx hb dL_law_882 rfl (lv_at hl 1 rfl) ?_
                                refine q_call (va_runV (As := []) (rest := []) ⟨hx, hb, hml, hown, hts⟩ (c_X5_requests l D cy b0 S _ hw) (cwV 0 hts gL_law_X5_requests rfl rfl rfl (by decide +kernel) ⟨(Nat.le_of_ble_eq_true rfl), (Nat.le_of_ble_eq_true rfl)⟩) (q_pV hW hP hF hS (k := 0) (ci := 5) (by decide) (cell_5 (kk_0)) rfl []) rfl rfl hl.1 rfl (lv_room (Nat.le_of_ble_eq_true rfl)) dL_law_883 ⟨by show _ ≤ 601024; omega, by show _ ≤ 7293034; omega⟩) hS (fun v883 S883 t883 H locs hh hp hB hz hk9 hS => ?_)
                                obtain ⟨r883, rfl, hw⟩ := hp
                                have hP : HP D cy b0 NALL S883 H := by rw [← hh]; exact hB.1
                                have hF := hB.2
                                try dsimp only at hw
                                refine W.eq (g2 := F0 m 886 ls [.int r883]) rfl ?_
                                refine lv_aload_n hx hb dL_law_886 rfl (lv_at hl 2 rfl) ?_
                                refine q_call (va_runV (As := []) (rest := [.int r883]) ⟨hx, hb, hml, hown, hts⟩ (c_X6_requests l D cy b0 S883 _ hw) (cwV 0 hts gL_law_X6_requests rfl rfl rfl (by decide +kernel) ⟨(Nat.le_of_ble_eq_true rfl), (Nat.le_of_ble_eq_true rfl)⟩) (q_pV hW hP hF hS (k := 367) (ci := 6) (by decide) (cell_6 (kk_367)) rfl []) rfl rfl hl.1 rfl (lv_room (Nat.le_of_ble_eq_true rfl)) dL_law_887 ⟨by show _ ≤ 601024; omega, by show _ ≤ 7293034; omega⟩) hS (fun v887 S887 t887 H locs hh hp hB hz hk9 hS => ?_)
                                obtain ⟨r887, rfl, hw⟩ := hp
                                have hP : HP D cy b0 NALL S887 H := by rw [← hh]; exact hB.1
                                have hF := hB.2
                                try dsimp only at hw
                                refine W.eq (g2 := F0 m 890 ls [.int r887, .int r883]) rfl ?_
                                refine lv_icmp_eq (x := r883) (y := r887) (tgt := 1325) hx hb dL_law_890 (by decide) (fun c890 => ?_) (fun c890 => ?_)
                                · rw [if_pos c890] at hw
                                  refine W.widen (k := 392 + 4 * (513 - n28)) (n := 2000000 + 24 * (513 - n28)) (by omega) (by omega) ?_
                                  exact j1325 S887 a5  _ _ _ hw hP hF hS (lv_sub hl [0, 1, 2, 3, 4, 5] rfl)
                                · rw [if_neg c890] at hw
                                  refine lv_iconst (v := 0) hx hb dL_law_893 (by decide) ?_
                                  exact False.elim hw
                              · rw [if_neg c44_12] at hw
                                by_cases c44_13 : ((xs (a5.toNatClampNeg)) &&& 31) = 13
                                · rw [if_pos c44_13] at hw
                                  rw [c44_13]
                                  refine lv_tableIn (x := 13) (off := 851) (tgt := 895) hx hb dL_law_44 (by decide) (by decide) (by decide) (by decide) ?_
                                  refine lv_aload_n hx hb dL_law_895 rfl (lv_at hl 1 rfl) ?_
                                  refine q_call (va_runV (As := []) (rest := []) ⟨hx, hb, hml, hown, hts⟩ (c_X5_lights l D cy b0 S _ hw) (cwV 0 hts gL_law_X5_lights rfl rfl rfl (by decide +kernel) ⟨(Nat.le_of_ble_eq_true rfl), (Nat.le_of_ble_eq_true rfl)⟩) (q_pV hW hP hF hS (k := 0) (ci := 5) (by decide) (cell_5 (kk_0)) rfl []) rfl rfl hl.1 rfl (lv_room (Nat.le_of_ble_eq_true rfl)) dL_law_896 ⟨by show _ ≤ 601024; omega, by show _ ≤ 7293034; omega⟩) hS (fun v896 S896 t896 H locs hh hp hB hz hk9 hS => ?_)
                                  obtain ⟨r896, rfl, hw⟩ := hp
                                  have hP : HP D cy b0 NALL S896 H := by rw [← hh]; exact hB.1
                                  have hF := hB.2
                                  try dsimp only at hw
                                  refine W.eq (g2 := F0 m 899 ls [.int r896]) rfl ?_
                                  refine lv_aload_n hx hb dL_law_899 rfl (lv_at hl 2 rfl) ?_
                                  refine q_call (va_runV (As := []) (rest := [.int r896]) ⟨hx, hb, hml, hown, hts⟩ (c_X6_lights l D cy b0 S896 _ hw) (cwV 0 hts gL_law_X6_lights rfl rfl rfl (by decide +kernel) ⟨(Nat.le_of_ble_eq_true rfl), (Nat.le_of_ble_eq_true rfl)⟩) (q_pV hW hP hF hS (k := 367) (ci := 6) (by decide) (cell_6 (kk_367)) rfl []) rfl rfl hl.1 rfl (lv_room (Nat.le_of_ble_eq_true rfl)) dL_law_900 ⟨by show _ ≤ 601024; omega, by show _ ≤ 7293034; omega⟩) hS (fun v900 S900 t900 H locs hh hp hB hz hk9 hS => ?_)
                                  obtain ⟨r900, rfl, hw⟩ := hp
                                  have hP : HP D cy b0 NALL S900 H := by rw [← hh]; exact hB.1
                                  have hF := hB.2
                                  try dsimp only at hw
                                  refine W.eq (g2 := F0 m 903 ls [.int r900, .int r896]) rfl ?_
                                  refine lv_icmp_eq (x := r896) (y := r900) (tgt := 1325) hx hb dL_law_903 (by decide) (fun c903 => ?_) (fun c903 => ?_)
                                  · rw [if_pos c903] at hw
                                    refine W.widen (k := 392 + 4 * (513 - n28)) (n := 2000000 + 24 * (513 - n28)) (by omega) (by omega) ?_
                                    exact j1325 S900 a5  _ _ _ hw hP hF hS (lv_sub hl [0, 1, 2, 3, 4, 5] rfl)
                                  · rw [if_neg c903] at hw
                                    refine lv_iconst (v := 0) hx hb dL_law_906 (by decide) ?_
                                    exact False.elim hw
                                · rw [if_neg c44_13] at hw
                                  by_cases c44_14 : ((xs (a5.toNatClampNeg)) &&& 31) = 14
                                  · rw [if_pos c44_14] at hw
                                    rw [c44_14]
                                    refine lv_tableIn (x := 14) (off := 864) (tgt := 908) hx hb dL_law_44 (by decide) (by decide) (by decide) (by decide) ?_
                                    refine lv_aload_n hx hb dL_law_908 rfl (lv_at hl 1 rfl) ?_
                                    refine lv_aload_n hx hb dL_law_909 rfl (lv_at hl 0 rfl) ?_
                                    refine lv_iload hx hb dL_law_910 (lv_at hl 5 rfl) ?_
                                    refine lv_iconst (v := 1) hx hb dL_law_912 (by decide) ?_
                                    refine lv_iadd hx hb dL_law_913 ?_
                                    obtain ⟨h914, hw⟩ := hw
                                    refine va_sld hx hb hX hbl hbA hS (i := (a5 + 1)) h914 dL_law_914 ?_
                                    refine lv_aload_n hx hb dL_law_915 rfl (lv_at hl 3 rfl) ?_
                                    refine q_call (vx_runSW (As := [.ref (b0 + 0), .int (xs ((a5 + 1).toNatClampNeg)), .ref (b0 + 390)]) (rest := []) ⟨hx, hb, hml, hown, hts⟩ (c_L_state l hlt D cy b0 S (xs ((a5 + 1).toNatClampNeg)) _ hw) (vx_cwSW 3 hts gL_law_L_state rfl rfl rfl (by decide +kernel) ⟨(Nat.le_of_ble_eq_true rfl), (Nat.le_of_ble_eq_true rfl)⟩) (q_pS hW hP hF hS [.ref (b0 + 0), .int (xs ((a5 + 1).toNatClampNeg)), .ref (b0 + 390)]) rfl rfl hl.1 rfl (lv_room (Nat.le_of_ble_eq_true rfl)) dL_law_916 ⟨by show _ ≤ 601024; omega, by show _ ≤ 7293034; omega⟩) hS (fun v916 S916 t916 H locs hh hp hB hz hk9 hS => ?_)
                                    obtain ⟨r916, rfl, hw⟩ := hp
                                    have hP : HP D cy b0 NALL S916 H := by rw [← hh]; exact hB.1
                                    have hF := hB.2
                                    try dsimp only at hw
                                    refine W.eq (g2 := F0 m 919 ls [.int r916]) rfl ?_
                                    refine lv_istore (lv' := [(6, .int r916), (0, .ref b), (1, .ref (b0 + 0)), (2, .ref (b0 + 367)), (3, .ref (b0 + 390)), (4, .ref (b0 + 391)), (5, .int a5)]) hx hb dL_law_919 hl (by decide) rfl (fun ls hl => ?_)
                                    refine lv_aload_n hx hb dL_law_921 rfl (lv_at hl 3 rfl) ?_
                                    refine lv_aload_n hx hb dL_law_922 rfl (lv_at hl 1 rfl) ?_
                                    refine lv_iload hx hb dL_law_923 (lv_at hl 6 rfl) ?_
                                    refine lv_iconst (v := 1) hx hb dL_law_925 (by decide) ?_
                                    refine lv_iadd hx hb dL_law_926 ?_
                                    obtain ⟨h927, hw⟩ := hw
                                    refine va_sld hx hb hX hbl hbA hS (i := (a5 + 1)) h927 dL_law_927 ?_
                                    refine q_call (va_runV (As := [.int (xs ((a5 + 1).toNatClampNeg))]) (rest := []) ⟨hx, hb, hml, hown, hts⟩ (c_X6_state l D cy b0 S916 (xs ((a5 + 1).toNatClampNeg)) _ hw) (cwV 1 hts gL_law_X6_state rfl rfl rfl (by decide +kernel) ⟨(Nat.le_of_ble_eq_true rfl), (Nat.le_of_ble_eq_true rfl)⟩) (q_pV hW hP hF hS (k := 367) (ci := 6) (by decide) (cell_6 (kk_367)) rfl [.int (xs ((a5 + 1).toNatClampNeg))]) rfl rfl hl.1 rfl (lv_room (Nat.le_of_ble_eq_true rfl)) dL_law_928 ⟨by show _ ≤ 601024; omega, by show _ ≤ 7293034; omega⟩) hS (fun v928 S928 t928 H locs hh hp hB hz hk9 hS => ?_)
                                    obtain ⟨r928, rfl, hw⟩ := hp
                                    have hP : HP D cy b0 NALL S928 H := by rw [← hh]; exact hB.1
                                    have hF := hB.2
                                    try dsimp only at hw
                                    refine W.eq (g2 := F0 m 931 ls [.int r928]) rfl ?_
                                    refine lv_istore (lv' := [(7, .int r928), (6, .int r916), (0, .ref b), (1, .ref (b0 + 0)), (2, .ref (b0 + 367)), (3, .ref (b0 + 390)), (4, .ref (b0 + 391)), (5, .int a5)]) hx hb dL_law_931 hl (by decide) rfl (fun ls hl => ?_)
                                    refine lv_aload_n hx hb dL_law_933 rfl (lv_at hl 4 rfl) ?_
                                    refine q_call (va_runV (As := []) (rest := []) ⟨hx, hb, hml, hown, hts⟩ (c_X6_thrown l D cy b0 S928 _ hw) (cwV 0 hts gL_law_X6_thrown rfl rfl rfl (by decide +kernel) ⟨(Nat.le_of_ble_eq_true rfl), (Nat.le_of_ble_eq_true rfl)⟩) (q_pV hW hP hF hS (k := 367) (ci := 6) (by decide) (cell_6 (kk_367)) rfl []) rfl rfl hl.1 rfl (lv_room (Nat.le_of_ble_eq_true rfl)) dL_law_934 ⟨by show _ ≤ 601024; omega, by show _ ≤ 7293034; omega⟩) hS (fun v934 S934 t934 H locs hh hp hB hz hk9 hS => ?_)
                                    obtain ⟨r934, rfl, hw⟩ := hp
                                    have hP : HP D cy b0 NALL S934 H := by rw [← hh]; exact hB.1
                                    have hF := hB.2
                                    try dsimp only at hw
                                    refine W.eq (g2 := F0 m 937 ls [.int r934]) rfl ?_
                                    refine lv_iload hx hb dL_law_937 (lv_at hl 1 rfl) ?_
                                    refine lv_icmp_eq (x := r934) (y := r916) (tgt := 944) hx hb dL_law_939 (by decide) (fun c939 => ?_) (fun c939 => ?_)
                                    · rw [if_pos c939] at hw
                                      refine lv_iload hx hb dL_law_944 (lv_at hl 1 rfl) ?_
                                      refine lv_if_ne (x := r916) (tgt := 961) hx hb dL_law_946 (by decide) (fun c946 => ?_) (fun c946 => ?_)
                                      · rw [if_neg c946] at hw
                                        refine lv_goto (tgt := 1325) hx hb dL_law_961 (by decide) ?_
                                        refine W.widen (k := 392 + 4 * (513 - n28)) (n := 2000000 + 24 * (513 - n28)) (by omega) (by omega) ?_
                                        exact j1325 S934 a5  _ _ _ hw hP hF hS (lv_sub hl [2, 3, 4, 5, 6, 7] rfl)
                                      · rw [if_pos c946] at hw
                                        refine lv_aload_n hx hb dL_law_949 rfl (lv_at hl 5 rfl) ?_
                                        refine lv_iconst (v := 0) hx hb dL_law_950 (by decide) ?_
                                        obtain ⟨h951, hw⟩ := hw
                                        refine q_lald (k := 390) (n := 1) (i := 0) hx hb hK hP (by decide) (kk_390) (ll_390) h951 dL_law_951 ?_
                                        refine lv_iload hx hb dL_law_952 (lv_at hl 0 rfl) ?_
                                        refine lv_i2l hx hb dL_law_954 (v := r928.toInt64) rfl ?_
                                        refine W.lcmp hx hb dL_law_955 ?_
                                        refine lv_if_eq (x := (lg_cmp (gJ S934 390 ((0 : Int32).toNatClampNeg)) (r928.toInt64))) (tgt := 961) hx hb dL_law_956 (by decide) (fun c956 => ?_) (fun c956 => ?_)
                                        · rw [if_pos c956] at hw
                                          refine lv_goto (tgt := 1325) hx hb dL_law_961 (by decide) ?_
                                          refine W.widen (k := 392 + 4 * (513 - n28)) (n := 2000000 + 24 * (513 - n28)) (by omega) (by omega) ?_
                                          exact j1325 S934 a5  _ _ _ hw hP hF hS (lv_sub hl [2, 3, 4, 5, 6, 7] rfl)
                                        · rw [if_neg c956] at hw
                                          refine lv_iconst (v := 0) hx hb dL_law_959 (by decide) ?_
                                          exact False.elim hw
                                    · rw [if_neg c939] at hw
                                      refine lv_iconst (v := 0) hx hb dL_law_942 (by decide) ?_
                                      exact False.elim hw
                                  · rw [if_neg c44_14] at hw
                                    by_cases c44_15 : ((xs (a5.toNatClampNeg)) &&& 31) = 15
                                    · rw [if_pos c44_15] at hw
                                      rw [c44_15]
                                      refine lv_tableIn (x := 15) (off := 920) (tgt := 964) hx hb dL_law_44 (by decide) (by decide) (by decide) (by decide) ?_
                                      refine lv_aload_n hx hb dL_law_964 rfl (lv_at hl 1 rfl) ?_
                                      refine lv_aload_n hx hb dL_law_965 rfl (lv_at hl 0 rfl) ?_
                                      refine lv_iload hx hb dL_law_966 (lv_at hl 5 rfl) ?_
                                      refine lv_iconst (v := 1) hx hb dL_law_968 (by decide) ?_
                                      refine lv_iadd hx hb dL_law_969 ?_
                                      obtain ⟨h970, hw⟩ := hw
                                      refine va_sld hx hb hX hbl hbA hS (i := (a5 + 1)) h970 dL_law_970 ?_
                                      refine lv_aload_n hx hb dL_law_971 rfl (lv_at hl 3 rfl) ?_
                                      refine q_call (vx_runSW (As := [.ref (b0 + 0), .int (xs ((a5 + 1).toNatClampNeg)), .ref (b0 + 390)]) (rest := []) ⟨hx, hb, hml, hown, hts⟩ (c_L_units l hlt D cy b0 S (xs ((a5 + 1).toNatClampNeg)) _ hw) (vx_cwSW 3 hts gL_law_L_units rfl rfl rfl (by decide +kernel) ⟨(Nat.le_of_ble_eq_true rfl), (Nat.le_of_ble_eq_true rfl)⟩) (q_pS hW hP hF hS [.ref (b0 + 0), .int (xs ((a5 + 1).toNatClampNeg)), .ref (b0 + 390)]) rfl rfl hl.1 rfl (lv_room (Nat.le_of_ble_eq_true rfl)) dL_law_972 ⟨by show _ ≤ 601024; omega, by show _ ≤ 7293034; omega⟩) hS (fun v972 S972 t972 H locs hh hp hB hz hk9 hS => ?_)
                                      obtain ⟨r972, rfl, hw⟩ := hp
                                      have hP : HP D cy b0 NALL S972 H := by rw [← hh]; exact hB.1
                                      have hF := hB.2
                                      try dsimp only at hw
                                      refine W.eq (g2 := F0 m 975 ls [.int r972]) rfl ?_
                                      refine lv_istore (lv' := [(6, .int r972), (0, .ref b), (1, .ref (b0 + 0)), (2, .ref (b0 + 367)), (3, .ref (b0 + 390)), (4, .ref (b0 + 391)), (5, .int a5)]) hx hb dL_law_975 hl (by decide) rfl (fun ls hl => ?_)
                                      refine lv_aload_n hx hb dL_law_977 rfl (lv_at hl 3 rfl) ?_
                                      refine lv_aload_n hx hb dL_law_978 rfl (lv_at hl 1 rfl) ?_
                                      refine lv_iload hx hb dL_law_979 (lv_at hl 6 rfl) ?_
                                      refine lv_iconst (v := 1) hx hb dL_law_981 (by decide) ?_
                                      refine lv_iadd hx hb dL_law_982 ?_
                                      obtain ⟨h983, hw⟩ := hw
                                      refine va_sld hx hb hX hbl hbA hS (i := (a5 + 1)) h983 dL_law_983 ?_
                                      refine q_call (va_runV (As := [.int (xs ((a5 + 1).toNatClampNeg))]) (rest := []) ⟨hx, hb, hml, hown, hts⟩ (c_X6_units l D cy b0 S972 (xs ((a5 + 1).toNatClampNeg)) _ hw) (cwV 1 hts gL_law_X6_units rfl rfl rfl (by decide +kernel) ⟨(Nat.le_of_ble_eq_true rfl), (Nat.le_of_ble_eq_true rfl)⟩) (q_pV hW hP hF hS (k := 367) (ci := 6) (by decide) (cell_6 (kk_367)) rfl [.int (xs ((a5 + 1).toNatClampNeg))]) rfl rfl hl.1 rfl (lv_room (Nat.le_of_ble_eq_true rfl)) dL_law_984 ⟨by show _ ≤ 601024; omega, by show _ ≤ 7293034; omega⟩) hS (fun v984 S984 t984 H locs hh hp hB hz hk9 hS => ?_)
                                      obtain ⟨r984, rfl, hw⟩ := hp
                                      have hP : HP D cy b0 NALL S984 H := by rw [← hh]; exact hB.1
                                      have hF := hB.2
                                      try dsimp only at hw
                                      refine W.eq (g2 := F0 m 987 ls [.int r984]) rfl ?_
                                      refine lv_istore (lv' := [(7, .int r984), (6, .int r972), (0, .ref b), (1, .ref (b0 + 0)), (2, .ref (b0 + 367)), (3, .ref (b0 + 390)), (4, .ref (b0 + 391)), (5, .int a5)]) hx hb dL_law_987 hl (by decide) rfl (fun ls hl => ?_)
                                      refine lv_aload_n hx hb dL_law_989 rfl (lv_at hl 4 rfl) ?_
                                      refine q_call (va_runV (As := []) (rest := []) ⟨hx, hb, hml, hown, hts⟩ (c_X6_thrown l D cy b0 S984 _ hw) (cwV 0 hts gL_law_X6_thrown rfl rfl rfl (by decide +kernel) ⟨(Nat.le_of_ble_eq_true rfl), (Nat.le_of_ble_eq_true rfl)⟩) (q_pV hW hP hF hS (k := 367) (ci := 6) (by decide) (cell_6 (kk_367)) rfl []) rfl rfl hl.1 rfl (lv_room (Nat.le_of_ble_eq_true rfl)) dL_law_990 ⟨by show _ ≤ 601024; omega, by show _ ≤ 7293034; omega⟩) hS (fun v990 S990 t990 H locs hh hp hB hz hk9 hS => ?_)
                                      obtain ⟨r990, rfl, hw⟩ := hp
                                      have hP : HP D cy b0 NALL S990 H := by rw [← hh]; exact hB.1
                                      have hF := hB.2
                                      try dsimp only at hw
                                      refine W.eq (g2 := F0 m 993 ls [.int r990]) rfl ?_
                                      refine lv_iload hx hb dL_law_993 (lv_at hl 1 rfl) ?_
                                      refine lv_icmp_eq (x := r990) (y := r972) (tgt := 1000) hx hb dL_law_995 (by decide) (fun c995 => ?_) (fun c995 => ?_)
                                      · rw [if_pos c995] at hw
                                        refine lv_iload hx hb dL_law_1000 (lv_at hl 1 rfl) ?_
                                        refine lv_if_ne (x := r972) (tgt := 1017) hx hb dL_law_1002 (by decide) (fun c1002 => ?_) (fun c1002 => ?_)
                                        · rw [if_neg c1002] at hw
                                          refine lv_goto (tgt := 1325) hx hb dL_law_1017 (by decide) ?_
                                          refine W.widen (k := 392 + 4 * (513 - n28)) (n := 2000000 + 24 * (513 - n28)) (by omega) (by omega) ?_
                                          exact j1325 S990 a5  _ _ _ hw hP hF hS (lv_sub hl [2, 3, 4, 5, 6, 7] rfl)
                                        · rw [if_pos c1002] at hw
                                          refine lv_aload_n hx hb dL_law_1005 rfl (lv_at hl 5 rfl) ?_
                                          refine lv_iconst (v := 0) hx hb dL_law_1006 (by decide) ?_
                                          obtain ⟨h1007, hw⟩ := hw
                                          refine q_lald (k := 390) (n := 1) (i := 0) hx hb hK hP (by decide) (kk_390) (ll_390) h1007 dL_law_1007 ?_
                                          refine lv_iload hx hb dL_law_1008 (lv_at hl 0 rfl) ?_
                                          refine lv_i2l hx hb dL_law_1010 (v := r984.toInt64) rfl ?_
                                          refine W.lcmp hx hb dL_law_1011 ?_
                                          refine lv_if_eq (x := (lg_cmp (gJ S990 390 ((0 : Int32).toNatClampNeg)) (r984.toInt64))) (tgt := 1017) hx hb dL_law_1012 (by decide) (fun c1012 => ?_) (fun c1012 => ?_)
                                          · rw [if_pos c1012] at hw
                                            refine lv_goto (tgt := 1325) hx hb dL_law_1017 (by decide) ?_
                                            refine W.widen (k := 392 + 4 * (513 - n28)) (n := 2000000 + 24 * (513 - n28)) (by omega) (by omega) ?_
                                            exact j1325 S990 a5  _ _ _ hw hP hF hS (lv_sub hl [2, 3, 4, 5, 6, 7] rfl)
                                          · rw [if_neg c1012] at hw
                                            refine lv_iconst (v := 0) hx hb dL_law_1015 (by decide) ?_
                                            exact False.elim hw
                                      · rw [if_neg c995] at hw
                                        refine lv_iconst (v := 0) hx hb dL_law_998 (by decide) ?_
                                        exact False.elim hw
                                    · rw [if_neg c44_15] at hw
                                      by_cases c44_16 : ((xs (a5.toNatClampNeg)) &&& 31) = 16
                                      · rw [if_pos c44_16] at hw
                                        rw [c44_16]
                                        refine lv_tableIn (x := 16) (off := 976) (tgt := 1020) hx hb dL_law_44 (by decide) (by decide) (by decide) (by decide) ?_
                                        refine lv_aload_n hx hb dL_law_1020 rfl (lv_at hl 1 rfl) ?_
                                        refine lv_aload_n hx hb dL_law_1021 rfl (lv_at hl 0 rfl) ?_
                                        refine lv_iload hx hb dL_law_1022 (lv_at hl 5 rfl) ?_
                                        refine lv_iconst (v := 1) hx hb dL_law_1024 (by decide) ?_
                                        refine lv_iadd hx hb dL_law_1025 ?_
                                        obtain ⟨h1026, hw⟩ := hw
                                        refine va_sld hx hb hX hbl hbA hS (i := (a5 + 1)) h1026 dL_law_1026 ?_
                                        refine lv_aload_n hx hb dL_law_1027 rfl (lv_at hl 0 rfl) ?_
                                        refine lv_iload hx hb dL_law_1028 (lv_at hl 5 rfl) ?_
                                        refine lv_iconst (v := 2) hx hb dL_law_1030 (by decide) ?_
                                        refine lv_iadd hx hb dL_law_1031 ?_
                                        obtain ⟨h1032, hw⟩ := hw
                                        refine va_sld hx hb hX hbl hbA hS (i := (a5 + 2)) h1032 dL_law_1032 ?_
                                        refine lv_aload_n hx hb dL_law_1033 rfl (lv_at hl 3 rfl) ?_
                                        refine q_call (vx_runSW (As := [.ref (b0 + 0), .int (xs ((a5 + 1).toNatClampNeg)), .int (xs ((a5 + 2).toNatClampNeg)), .ref (b0 + 390)]) (rest := []) ⟨hx, hb, hml, hown, hts⟩ (c_L_channels l hlt D cy b0 S (xs ((a5 + 1).toNatClampNeg)) (xs ((a5 + 2).toNatClampNeg)) _ hw) (vx_cwSW 4 hts gL_law_L_channels rfl rfl rfl (by decide +kernel) ⟨(Nat.le_of_ble_eq_true rfl), (Nat.le_of_ble_eq_true rfl)⟩) (q_pS hW hP hF hS [.ref (b0 + 0), .int (xs ((a5 + 1).toNatClampNeg)), .int (xs ((a5 + 2).toNatClampNeg)), .ref (b0 + 390)]) rfl rfl hl.1 rfl (lv_room (Nat.le_of_ble_eq_true rfl)) dL_law_1034 ⟨by show _ ≤ 601024; omega, by show _ ≤ 7293034; omega⟩) hS (fun v1034 S1034 t1034 H locs hh hp hB hz hk9 hS => ?_)
                                        obtain ⟨r1034, rfl, hw⟩ := hp
                                        have hP : HP D cy b0 NALL S1034 H := by rw [← hh]; exact hB.1
                                        have hF := hB.2
                                        try dsimp only at hw
                                        refine W.eq (g2 := F0 m 1037 ls [.int r1034]) rfl ?_
                                        refine lv_istore (lv' := [(6, .int r1034), (0, .ref b), (1, .ref (b0 + 0)), (2, .ref (b0 + 367)), (3, .ref (b0 + 390)), (4, .ref (b0 + 391)), (5, .int a5)]) hx hb dL_law_1037 hl (by decide) rfl (fun ls hl => ?_)
                                        refine lv_aload_n hx hb dL_law_1039 rfl (lv_at hl 3 rfl) ?_
                                        refine lv_aload_n hx hb dL_law_1040 rfl (lv_at hl 1 rfl) ?_
                                        refine lv_iload hx hb dL_law_1041 (lv_at hl 6 rfl) ?_
                                        refine lv_iconst (v := 1) hx hb dL_law_1043 (by decide) ?_
                                        refine lv_iadd hx hb dL_law_1044 ?_
                                        obtain ⟨h1045, hw⟩ := hw
                                        refine va_sld hx hb hX hbl hbA hS (i := (a5 + 1)) h1045 dL_law_1045 ?_
                                        refine lv_aload_n hx hb dL_law_1046 rfl (lv_at hl 1 rfl) ?_
                                        refine lv_iload hx hb dL_law_1047 (lv_at hl 6 rfl) ?_
                                        refine lv_iconst (v := 2) hx hb dL_law_1049 (by decide) ?_
                                        refine lv_iadd hx hb dL_law_1050 ?_
                                        obtain ⟨h1051, hw⟩ := hw
                                        refine va_sld hx hb hX hbl hbA hS (i := (a5 + 2)) h1051 dL_law_1051 ?_
                                        refine q_call (va_runV (As := [.int (xs ((a5 + 1).toNatClampNeg)), .int (xs ((a5 + 2).toNatClampNeg))]) (rest := []) ⟨hx, hb, hml, hown, hts⟩ (c_X6_channels l D cy b0 S1034 (xs ((a5 + 1).toNatClampNeg)) (xs ((a5 + 2).toNatClampNeg)) _ hw) (cwV 2 hts gL_law_X6_channels rfl rfl rfl (by decide +kernel) ⟨(Nat.le_of_ble_eq_true rfl), (Nat.le_of_ble_eq_true rfl)⟩) (q_pV hW hP hF hS (k := 367) (ci := 6) (by decide) (cell_6 (kk_367)) rfl [.int (xs ((a5 + 1).toNatClampNeg)), .int (xs ((a5 + 2).toNatClampNeg))]) rfl rfl hl.1 rfl (lv_room (Nat.le_of_ble_eq_true rfl)) dL_law_1052 ⟨by show _ ≤ 601024; omega, by show _ ≤ 7293034; omega⟩) hS (fun v1052 S1052 t1052 H locs hh hp hB hz hk9 hS => ?_)
                                        obtain ⟨r1052, rfl, hw⟩ := hp
                                        have hP : HP D cy b0 NALL S1052 H := by rw [← hh]; exact hB.1
                                        have hF := hB.2
                                        try dsimp only at hw
                                        refine W.eq (g2 := F0 m 1055 ls [.int r1052]) rfl ?_
                                        refine lv_istore (lv' := [(7, .int r1052), (6, .int r1034), (0, .ref b), (1, .ref (b0 + 0)), (2, .ref (b0 + 367)), (3, .ref (b0 + 390)), (4, .ref (b0 + 391)), (5, .int a5)]) hx hb dL_law_1055 hl (by decide) rfl (fun ls hl => ?_)
                                        refine lv_aload_n hx hb dL_law_1057 rfl (lv_at hl 4 rfl) ?_
                                        refine q_call (va_runV (As := []) (rest := []) ⟨hx, hb, hml, hown, hts⟩ (c_X6_thrown l D cy b0 S1052 _ hw) (cwV 0 hts gL_law_X6_thrown rfl rfl rfl (by decide +kernel) ⟨(Nat.le_of_ble_eq_true rfl), (Nat.le_of_ble_eq_true rfl)⟩) (q_pV hW hP hF hS (k := 367) (ci := 6) (by decide) (cell_6 (kk_367)) rfl []) rfl rfl hl.1 rfl (lv_room (Nat.le_of_ble_eq_true rfl)) dL_law_1058 ⟨by show _ ≤ 601024; omega, by show _ ≤ 7293034; omega⟩) hS (fun v1058 S1058 t1058 H locs hh hp hB hz hk9 hS => ?_)
                                        obtain ⟨r1058, rfl, hw⟩ := hp
                                        have hP : HP D cy b0 NALL S1058 H := by rw [← hh]; exact hB.1
                                        have hF := hB.2
                                        try dsimp only at hw
                                        refine W.eq (g2 := F0 m 1061 ls [.int r1058]) rfl ?_
                                        refine lv_iload hx hb dL_law_1061 (lv_at hl 1 rfl) ?_
                                        refine lv_icmp_eq (x := r1058) (y := r1034) (tgt := 1068) hx hb dL_law_1063 (by decide) (fun c1063 => ?_) (fun c1063 => ?_)
                                        · rw [if_pos c1063] at hw
                                          refine lv_iload hx hb dL_law_1068 (lv_at hl 1 rfl) ?_
                                          refine lv_if_ne (x := r1034) (tgt := 1085) hx hb dL_law_1070 (by decide) (fun c1070 => ?_) (fun c1070 => ?_)
                                          · rw [if_neg c1070] at hw
                                            refine lv_goto (tgt := 1325) hx hb dL_law_1085 (by decide) ?_
                                            refine W.widen (k := 392 + 4 * (513 - n28)) (n := 2000000 + 24 * (513 - n28)) (by omega) (by omega) ?_
                                            exact j1325 S1058 a5  _ _ _ hw hP hF hS (lv_sub hl [2, 3, 4, 5, 6, 7] rfl)
                                          · rw [if_pos c1070] at hw
                                            refine lv_aload_n hx hb dL_law_1073 rfl (lv_at hl 5 rfl) ?_
                                            refine lv_iconst (v := 0) hx hb dL_law_1074 (by decide) ?_
                                            obtain ⟨h1075, hw⟩ := hw
                                            refine q_lald (k := 390) (n := 1) (i := 0) hx hb hK hP (by decide) (kk_390) (ll_390) h1075 dL_law_1075 ?_
                                            refine lv_iload hx hb dL_law_1076 (lv_at hl 0 rfl) ?_
                                            refine lv_i2l hx hb dL_law_1078 (v := r1052.toInt64) rfl ?_
                                            refine W.lcmp hx hb dL_law_1079 ?_
                                            refine lv_if_eq (x := (lg_cmp (gJ S1058 390 ((0 : Int32).toNatClampNeg)) (r1052.toInt64))) (tgt := 1085) hx hb dL_law_1080 (by decide) (fun c1080 => ?_) (fun c1080 => ?_)
                                            · rw [if_pos c1080] at hw
                                              refine lv_goto (tgt := 1325) hx hb dL_law_1085 (by decide) ?_
                                              refine W.widen (k := 392 + 4 * (513 - n28)) (n := 2000000 + 24 * (513 - n28)) (by omega) (by omega) ?_
                                              exact j1325 S1058 a5  _ _ _ hw hP hF hS (lv_sub hl [2, 3, 4, 5, 6, 7] rfl)
                                            · rw [if_neg c1080] at hw
                                              refine lv_iconst (v := 0) hx hb dL_law_1083 (by decide) ?_
                                              exact False.elim hw
                                        · rw [if_neg c1063] at hw
                                          refine lv_iconst (v := 0) hx hb dL_law_1066 (by decide) ?_
                                          exact False.elim hw
                                      · rw [if_neg c44_16] at hw
                                        by_cases c44_17 : ((xs (a5.toNatClampNeg)) &&& 31) = 17
                                        · rw [if_pos c44_17] at hw
                                          rw [c44_17]
                                          refine lv_tableIn (x := 17) (off := 1044) (tgt := 1088) hx hb dL_law_44 (by decide) (by decide) (by decide) (by decide) ?_
                                          refine lv_aload_n hx hb dL_law_1088 rfl (lv_at hl 1 rfl) ?_
                                          refine lv_aload_n hx hb dL_law_1089 rfl (lv_at hl 0 rfl) ?_
                                          refine lv_iload hx hb dL_law_1090 (lv_at hl 5 rfl) ?_
                                          refine lv_iconst (v := 1) hx hb dL_law_1092 (by decide) ?_
                                          refine lv_iadd hx hb dL_law_1093 ?_
                                          obtain ⟨h1094, hw⟩ := hw
                                          refine va_sld hx hb hX hbl hbA hS (i := (a5 + 1)) h1094 dL_law_1094 ?_
                                          refine lv_aload_n hx hb dL_law_1095 rfl (lv_at hl 0 rfl) ?_
                                          refine lv_iload hx hb dL_law_1096 (lv_at hl 5 rfl) ?_
                                          refine lv_iconst (v := 2) hx hb dL_law_1098 (by decide) ?_
                                          refine lv_iadd hx hb dL_law_1099 ?_
                                          obtain ⟨h1100, hw⟩ := hw
                                          refine va_sld hx hb hX hbl hbA hS (i := (a5 + 2)) h1100 dL_law_1100 ?_
                                          refine lv_aload_n hx hb dL_law_1101 rfl (lv_at hl 0 rfl) ?_
                                          refine lv_iload hx hb dL_law_1102 (lv_at hl 5 rfl) ?_
                                          refine lv_iconst (v := 3) hx hb dL_law_1104 (by decide) ?_
                                          refine lv_iadd hx hb dL_law_1105 ?_
                                          obtain ⟨h1106, hw⟩ := hw
                                          refine va_sld hx hb hX hbl hbA hS (i := (a5 + 3)) h1106 dL_law_1106 ?_
                                          refine lv_aload_n hx hb dL_law_1107 rfl (lv_at hl 3 rfl) ?_
                                          refine q_call (vx_runSW (As := [.ref (b0 + 0), .int (xs ((a5 + 1).toNatClampNeg)), .int (xs ((a5 + 2).toNatClampNeg)), .int (xs ((a5 + 3).toNatClampNeg)), .ref (b0 + 390)]) (rest := []) ⟨hx, hb, hml, hown, hts⟩ (c_L_channel l hlt D cy b0 S (xs ((a5 + 1).toNatClampNeg)) (xs ((a5 + 2).toNatClampNeg)) (xs ((a5 + 3).toNatClampNeg)) _ hw) (vx_cwSW 5 hts gL_law_L_channel rfl rfl rfl (by decide +kernel) ⟨(Nat.le_of_ble_eq_true rfl), (Nat.le_of_ble_eq_true rfl)⟩) (q_pS hW hP hF hS [.ref (b0 + 0), .int (xs ((a5 + 1).toNatClampNeg)), .int (xs ((a5 + 2).toNatClampNeg)), .int (xs ((a5 + 3).toNatClampNeg)), .ref (b0 + 390)]) rfl rfl hl.1 rfl (lv_room (Nat.le_of_ble_eq_true rfl)) dL_law_1108 ⟨by show _ ≤ 601024; omega, by show _ ≤ 7293034; omega⟩) hS (fun v1108 S1108 t1108 H locs hh hp hB hz hk9 hS => ?_)
                                          obtain ⟨r1108, rfl, hw⟩ := hp
                                          have hP : HP D cy b0 NALL S1108 H := by rw [← hh]; exact hB.1
                                          have hF := hB.2
                                          try dsimp only at hw
                                          refine W.eq (g2 := F0 m 1111 ls [.int r1108]) rfl ?_
                                          refine lv_istore (lv' := [(6, .int r1108), (0, .ref b), (1, .ref (b0 + 0)), (2, .ref (b0 + 367)), (3, .ref (b0 + 390)), (4, .ref (b0 + 391)), (5, .int a5)]) hx hb dL_law_1111 hl (by decide) rfl (fun ls hl => ?_)
                                          refine lv_aload_n hx hb dL_law_1113 rfl (lv_at hl 3 rfl) ?_
                                          refine lv_aload_n hx hb dL_law_1114 rfl (lv_at hl 1 rfl) ?_
                                          refine lv_iload hx hb dL_law_1115 (lv_at hl 6 rfl) ?_
                                          refine lv_iconst (v := 1) hx hb dL_law_1117 (by decide) ?_
                                          refine lv_iadd hx hb dL_law_1118 ?_
                                          obtain ⟨h1119, hw⟩ := hw
                                          refine va_sld hx hb hX hbl hbA hS (i := (a5 + 1)) h1119 dL_law_1119 ?_
                                          refine lv_aload_n hx hb dL_law_1120 rfl (lv_at hl 1 rfl) ?_
                                          refine lv_iload hx hb dL_law_1121 (lv_at hl 6 rfl) ?_
                                          refine lv_iconst (v := 2) hx hb dL_law_1123 (by decide) ?_
                                          refine lv_iadd hx hb dL_law_1124 ?_
                                          obtain ⟨h1125, hw⟩ := hw
                                          refine va_sld hx hb hX hbl hbA hS (i := (a5 + 2)) h1125 dL_law_1125 ?_
                                          refine lv_aload_n hx hb dL_law_1126 rfl (lv_at hl 1 rfl) ?_
                                          refine lv_iload hx hb dL_law_1127 (lv_at hl 6 rfl) ?_
                                          refine lv_iconst (v := 3) hx hb dL_law_1129 (by decide) ?_
                                          refine lv_iadd hx hb dL_law_1130 ?_
                                          obtain ⟨h1131, hw⟩ := hw
                                          refine va_sld hx hb hX hbl hbA hS (i := (a5 + 3)) h1131 dL_law_1131 ?_
                                          refine q_call (va_runV (As := [.int (xs ((a5 + 1).toNatClampNeg)), .int (xs ((a5 + 2).toNatClampNeg)), .int (xs ((a5 + 3).toNatClampNeg))]) (rest := []) ⟨hx, hb, hml, hown, hts⟩ (c_X6_channel l D cy b0 S1108 (xs ((a5 + 1).toNatClampNeg)) (xs ((a5 + 2).toNatClampNeg)) (xs ((a5 + 3).toNatClampNeg)) _ hw) (cwV 3 hts gL_law_X6_channel rfl rfl rfl (by decide +kernel) ⟨(Nat.le_of_ble_eq_true rfl), (Nat.le_of_ble_eq_true rfl)⟩) (q_pV hW hP hF hS (k := 367) (ci := 6) (by decide) (cell_6 (kk_367)) rfl [.int (xs ((a5 + 1).toNatClampNeg)), .int (xs ((a5 + 2).toNatClampNeg)), .int (xs ((a5 + 3).toNatClampNeg))]) rfl rfl hl.1 rfl (lv_room (Nat.le_of_ble_eq_true rfl)) dL_law_1132 ⟨by show _ ≤ 601024; omega, by show _ ≤ 7293034; omega⟩) hS (fun v1132 S1132 t1132 H locs hh hp hB hz hk9 hS => ?_)
                                          obtain ⟨r1132, rfl, hw⟩ := hp
                                          have hP : HP D cy b0 NALL S1132 H := by rw [← hh]; exact hB.1
                                          have hF := hB.2
                                          try dsimp only at hw
                                          refine W.eq (g2 := F0 m 1135 ls [.int r1132]) rfl ?_
                                          refine lv_istore (lv' := [(7, .int r1132), (6, .int r1108), (0, .ref b), (1, .ref (b0 + 0)), (2, .ref (b0 + 367)), (3, .ref (b0 + 390)), (4, .ref (b0 + 391)), (5, .int a5)]) hx hb dL_law_1135 hl (by decide) rfl (fun ls hl => ?_)
                                          refine lv_aload_n hx hb dL_law_1137 rfl (lv_at hl 4 rfl) ?_
                                          refine q_call (va_runV (As := []) (rest := []) ⟨hx, hb, hml, hown, hts⟩ (c_X6_thrown l D cy b0 S1132 _ hw) (cwV 0 hts gL_law_X6_thrown rfl rfl rfl (by decide +kernel) ⟨(Nat.le_of_ble_eq_true rfl), (Nat.le_of_ble_eq_true rfl)⟩) (q_pV hW hP hF hS (k := 367) (ci := 6) (by decide) (cell_6 (kk_367)) rfl []) rfl rfl hl.1 rfl (lv_room (Nat.le_of_ble_eq_true rfl)) dL_law_1138 ⟨by show _ ≤ 601024; omega, by show _ ≤ 7293034; omega⟩) hS (fun v1138 S1138 t1138 H locs hh hp hB hz hk9 hS => ?_)
                                          obtain ⟨r1138, rfl, hw⟩ := hp
                                          have hP : HP D cy b0 NALL S1138 H := by rw [← hh]; exact hB.1
                                          have hF := hB.2
                                          try dsimp only at hw
                                          refine W.eq (g2 := F0 m 1141 ls [.int r1138]) rfl ?_
                                          refine lv_iload hx hb dL_law_1141 (lv_at hl 1 rfl) ?_
                                          refine lv_icmp_eq (x := r1138) (y := r1108) (tgt := 1148) hx hb dL_law_1143 (by decide) (fun c1143 => ?_) (fun c1143 => ?_)
                                          · rw [if_pos c1143] at hw
                                            refine lv_iload hx hb dL_law_1148 (lv_at hl 1 rfl) ?_
                                            refine lv_if_ne (x := r1108) (tgt := 1165) hx hb dL_law_1150 (by decide) (fun c1150 => ?_) (fun c1150 => ?_)
                                            · rw [if_neg c1150] at hw
                                              refine lv_goto (tgt := 1325) hx hb dL_law_1165 (by decide) ?_
                                              refine W.widen (k := 392 + 4 * (513 - n28)) (n := 2000000 + 24 * (513 - n28)) (by omega) (by omega) ?_
                                              exact j1325 S1138 a5  _ _ _ hw hP hF hS (lv_sub hl [2, 3, 4, 5, 6, 7] rfl)
                                            · rw [if_pos c1150] at hw
                                              refine lv_aload_n hx hb dL_law_1153 rfl (lv_at hl 5 rfl) ?_
                                              refine lv_iconst (v := 0) hx hb dL_law_1154 (by decide) ?_
                                              obtain ⟨h1155, hw⟩ := hw
                                              refine q_lald (k := 390) (n := 1) (i := 0) hx hb hK hP (by decide) (kk_390) (ll_390) h1155 dL_law_1155 ?_
                                              refine lv_iload hx hb dL_law_1156 (lv_at hl 0 rfl) ?_
                                              refine lv_i2l hx hb dL_law_1158 (v := r1132.toInt64) rfl ?_
                                              refine W.lcmp hx hb dL_law_1159 ?_
                                              refine lv_if_eq (x := (lg_cmp (gJ S1138 390 ((0 : Int32).toNatClampNeg)) (r1132.toInt64))) (tgt := 1165) hx hb dL_law_1160 (by decide) (fun c1160 => ?_) (fun c1160 => ?_)
                                              · rw [if_pos c1160] at hw
                                                refine lv_goto (tgt := 1325) hx hb dL_law_1165 (by decide) ?_
                                                refine W.widen (k := 392 + 4 * (513 - n28)) (n := 2000000 + 24 * (513 - n28)) (by omega) (by omega) ?_
                                                exact j1325 S1138 a5  _ _ _ hw hP hF hS (lv_sub hl [2, 3, 4, 5, 6, 7] rfl)
                                              · rw [if_neg c1160] at hw
                                                refine lv_iconst (v := 0) hx hb dL_law_1163 (by decide) ?_
                                                exact False.elim hw
                                          · rw [if_neg c1143] at hw
                                            refine lv_iconst (v := 0) hx hb dL_law_1146 (by decide) ?_
                                            exact False.elim hw
                                        · rw [if_neg c44_17] at hw
                                          by_cases c44_18 : ((xs (a5.toNatClampNeg)) &&& 31) = 18
                                          · rw [if_pos c44_18] at hw
                                            rw [c44_18]
                                            refine lv_tableIn (x := 18) (off := 1124) (tgt := 1168) hx hb dL_law_44 (by decide) (by decide) (by decide) (by decide) ?_
                                            refine lv_aload_n hx hb dL_law_1168 rfl (lv_at hl 1 rfl) ?_
                                            refine lv_aload_n hx hb dL_law_1169 rfl (lv_at hl 0 rfl) ?_
                                            refine lv_iload hx hb dL_law_1170 (lv_at hl 5 rfl) ?_
                                            refine lv_iconst (v := 1) hx hb dL_law_1172 (by decide) ?_
                                            refine lv_iadd hx hb dL_law_1173 ?_
                                            obtain ⟨h1174, hw⟩ := hw
                                            refine va_sld hx hb hX hbl hbA hS (i := (a5 + 1)) h1174 dL_law_1174 ?_
                                            refine lv_aload_n hx hb dL_law_1175 rfl (lv_at hl 3 rfl) ?_
                                            refine q_call (vx_runSW (As := [.ref (b0 + 0), .int (xs ((a5 + 1).toNatClampNeg)), .ref (b0 + 390)]) (rest := []) ⟨hx, hb, hml, hown, hts⟩ (c_L_reroute l hlt D cy b0 S (xs ((a5 + 1).toNatClampNeg)) _ hw) (vx_cwSW 3 hts gL_law_L_reroute rfl rfl rfl (by decide +kernel) ⟨(Nat.le_of_ble_eq_true rfl), (Nat.le_of_ble_eq_true rfl)⟩) (q_pS hW hP hF hS [.ref (b0 + 0), .int (xs ((a5 + 1).toNatClampNeg)), .ref (b0 + 390)]) rfl rfl hl.1 rfl (lv_room (Nat.le_of_ble_eq_true rfl)) dL_law_1176 ⟨by show _ ≤ 601024; omega, by show _ ≤ 7293034; omega⟩) hS (fun v1176 S1176 t1176 H locs hh hp hB hz hk9 hS => ?_)
                                            obtain ⟨r1176, rfl, hw⟩ := hp
                                            have hP : HP D cy b0 NALL S1176 H := by rw [← hh]; exact hB.1
                                            have hF := hB.2
                                            try dsimp only at hw
                                            refine W.eq (g2 := F0 m 1179 ls [.int r1176]) rfl ?_
                                            refine lv_istore (lv' := [(6, .int r1176), (0, .ref b), (1, .ref (b0 + 0)), (2, .ref (b0 + 367)), (3, .ref (b0 + 390)), (4, .ref (b0 + 391)), (5, .int a5)]) hx hb dL_law_1179 hl (by decide) rfl (fun ls hl => ?_)
                                            refine lv_aload_n hx hb dL_law_1181 rfl (lv_at hl 3 rfl) ?_
                                            refine lv_aload_n hx hb dL_law_1182 rfl (lv_at hl 1 rfl) ?_
                                            refine lv_iload hx hb dL_law_1183 (lv_at hl 6 rfl) ?_
                                            refine lv_iconst (v := 1) hx hb dL_law_1185 (by decide) ?_
                                            refine lv_iadd hx hb dL_law_1186 ?_
                                            obtain ⟨h1187, hw⟩ := hw
                                            refine va_sld hx hb hX hbl hbA hS (i := (a5 + 1)) h1187 dL_law_1187 ?_
                                            refine q_call (va_runV (As := [.int (xs ((a5 + 1).toNatClampNeg))]) (rest := []) ⟨hx, hb, hml, hown, hts⟩ (c_X6_reroute l D cy b0 S1176 (xs ((a5 + 1).toNatClampNeg)) _ hw) (cwV 1 hts gL_law_X6_reroute rfl rfl rfl (by decide +kernel) ⟨(Nat.le_of_ble_eq_true rfl), (Nat.le_of_ble_eq_true rfl)⟩) (q_pV hW hP hF hS (k := 367) (ci := 6) (by decide) (cell_6 (kk_367)) rfl [.int (xs ((a5 + 1).toNatClampNeg))]) rfl rfl hl.1 rfl (lv_room (Nat.le_of_ble_eq_true rfl)) dL_law_1188 ⟨by show _ ≤ 601024; omega, by show _ ≤ 7293034; omega⟩) hS (fun v1188 S1188 t1188 H locs hh hp hB hz hk9 hS => ?_)
                                            obtain ⟨r1188, rfl, hw⟩ := hp
                                            have hP : HP D cy b0 NALL S1188 H := by rw [← hh]; exact hB.1
                                            have hF := hB.2
                                            try dsimp only at hw
                                            refine W.eq (g2 := F0 m 1191 ls [.int r1188]) rfl ?_
                                            refine lv_istore (lv' := [(7, .int r1188), (6, .int r1176), (0, .ref b), (1, .ref (b0 + 0)), (2, .ref (b0 + 367)), (3, .ref (b0 + 390)), (4, .ref (b0 + 391)), (5, .int a5)]) hx hb dL_law_1191 hl (by decide) rfl (fun ls hl => ?_)
                                            refine lv_aload_n hx hb dL_law_1193 rfl (lv_at hl 4 rfl) ?_
                                            refine q_call (va_runV (As := []) (rest := []) ⟨hx, hb, hml, hown, hts⟩ (c_X6_thrown l D cy b0 S1188 _ hw) (cwV 0 hts gL_law_X6_thrown rfl rfl rfl (by decide +kernel) ⟨(Nat.le_of_ble_eq_true rfl), (Nat.le_of_ble_eq_true rfl)⟩) (q_pV hW hP hF hS (k := 367) (ci := 6) (by decide) (cell_6 (kk_367)) rfl []) rfl rfl hl.1 rfl (lv_room (Nat.le_of_ble_eq_true rfl)) dL_law_1194 ⟨by show _ ≤ 601024; omega, by show _ ≤ 7293034; omega⟩) hS (fun v1194 S1194 t1194 H locs hh hp hB hz hk9 hS => ?_)
                                            obtain ⟨r1194, rfl, hw⟩ := hp
                                            have hP : HP D cy b0 NALL S1194 H := by rw [← hh]; exact hB.1
                                            have hF := hB.2
                                            try dsimp only at hw
                                            refine W.eq (g2 := F0 m 1197 ls [.int r1194]) rfl ?_
                                            refine lv_iload hx hb dL_law_1197 (lv_at hl 1 rfl) ?_
                                            refine lv_icmp_eq (x := r1194) (y := r1176) (tgt := 1204) hx hb dL_law_1199 (by decide) (fun c1199 => ?_) (fun c1199 => ?_)
                                            · rw [if_pos c1199] at hw
                                              refine lv_iload hx hb dL_law_1204 (lv_at hl 1 rfl) ?_
                                              refine lv_if_ne (x := r1176) (tgt := 1221) hx hb dL_law_1206 (by decide) (fun c1206 => ?_) (fun c1206 => ?_)
                                              · rw [if_neg c1206] at hw
                                                refine lv_goto (tgt := 1325) hx hb dL_law_1221 (by decide) ?_
                                                refine W.widen (k := 392 + 4 * (513 - n28)) (n := 2000000 + 24 * (513 - n28)) (by omega) (by omega) ?_
                                                exact j1325 S1194 a5  _ _ _ hw hP hF hS (lv_sub hl [2, 3, 4, 5, 6, 7] rfl)
                                              · rw [if_pos c1206] at hw
                                                refine lv_aload_n hx hb dL_law_1209 rfl (lv_at hl 5 rfl) ?_
                                                refine lv_iconst (v := 0) hx hb dL_law_1210 (by decide) ?_
                                                obtain ⟨h1211, hw⟩ := hw
                                                refine q_lald (k := 390) (n := 1) (i := 0) hx hb hK hP (by decide) (kk_390) (ll_390) h1211 dL_law_1211 ?_
                                                refine lv_iload hx hb dL_law_1212 (lv_at hl 0 rfl) ?_
                                                refine lv_i2l hx hb dL_law_1214 (v := r1188.toInt64) rfl ?_
                                                refine W.lcmp hx hb dL_law_1215 ?_
                                                refine lv_if_eq (x := (lg_cmp (gJ S1194 390 ((0 : Int32).toNatClampNeg)) (r1188.toInt64))) (tgt := 1221) hx hb dL_law_1216 (by decide) (fun c1216 => ?_) (fun c1216 => ?_)
                                                · rw [if_pos c1216] at hw
                                                  refine lv_goto (tgt := 1325) hx hb dL_law_1221 (by decide) ?_
                                                  refine W.widen (k := 392 + 4 * (513 - n28)) (n := 2000000 + 24 * (513 - n28)) (by omega) (by omega) ?_
                                                  exact j1325 S1194 a5  _ _ _ hw hP hF hS (lv_sub hl [2, 3, 4, 5, 6, 7] rfl)
                                                · rw [if_neg c1216] at hw
                                                  refine lv_iconst (v := 0) hx hb dL_law_1219 (by decide) ?_
                                                  exact False.elim hw
                                            · rw [if_neg c1199] at hw
                                              refine lv_iconst (v := 0) hx hb dL_law_1202 (by decide) ?_
                                              exact False.elim hw
                                          · rw [if_neg c44_18] at hw
                                            by_cases c44_19 : ((xs (a5.toNatClampNeg)) &&& 31) = 19
                                            · rw [if_pos c44_19] at hw
                                              rw [c44_19]
                                              refine lv_tableIn (x := 19) (off := 1180) (tgt := 1224) hx hb dL_law_44 (by decide) (by decide) (by decide) (by decide) ?_
                                              refine lv_aload_n hx hb dL_law_1224 rfl (lv_at hl 1 rfl) ?_
                                              refine lv_aload_n hx hb dL_law_1225 rfl (lv_at hl 3 rfl) ?_
                                              refine q_call (vx_runSW (As := [.ref (b0 + 0), .ref (b0 + 390)]) (rest := []) ⟨hx, hb, hml, hown, hts⟩ (c_L_merge l hlt D cy b0 S _ hw) (vx_cwSW 2 hts gL_law_L_merge rfl rfl rfl (by decide +kernel) ⟨(Nat.le_of_ble_eq_true rfl), (Nat.le_of_ble_eq_true rfl)⟩) (q_pS hW hP hF hS [.ref (b0 + 0), .ref (b0 + 390)]) rfl rfl hl.1 rfl (lv_room (Nat.le_of_ble_eq_true rfl)) dL_law_1226 ⟨by show _ ≤ 601024; omega, by show _ ≤ 7293034; omega⟩) hS (fun v1226 S1226 t1226 H locs hh hp hB hz hk9 hS => ?_)
                                              obtain ⟨r1226, rfl, hw⟩ := hp
                                              have hP : HP D cy b0 NALL S1226 H := by rw [← hh]; exact hB.1
                                              have hF := hB.2
                                              try dsimp only at hw
                                              refine W.eq (g2 := F0 m 1229 ls [.int r1226]) rfl ?_
                                              refine lv_istore (lv' := [(6, .int r1226), (0, .ref b), (1, .ref (b0 + 0)), (2, .ref (b0 + 367)), (3, .ref (b0 + 390)), (4, .ref (b0 + 391)), (5, .int a5)]) hx hb dL_law_1229 hl (by decide) rfl (fun ls hl => ?_)
                                              refine lv_aload_n hx hb dL_law_1231 rfl (lv_at hl 3 rfl) ?_
                                              refine q_call (va_runV (As := []) (rest := []) ⟨hx, hb, hml, hown, hts⟩ (c_X6_merge l D cy b0 S1226 _ hw) (cwV 0 hts gL_law_X6_merge rfl rfl rfl (by decide +kernel) ⟨(Nat.le_of_ble_eq_true rfl), (Nat.le_of_ble_eq_true rfl)⟩) (q_pV hW hP hF hS (k := 367) (ci := 6) (by decide) (cell_6 (kk_367)) rfl []) rfl rfl hl.1 rfl (lv_room (Nat.le_of_ble_eq_true rfl)) dL_law_1232 ⟨by show _ ≤ 601024; omega, by show _ ≤ 7293034; omega⟩) hS (fun v1232 S1232 t1232 H locs hh hp hB hz hk9 hS => ?_)
                                              obtain ⟨r1232, rfl, hw⟩ := hp
                                              have hP : HP D cy b0 NALL S1232 H := by rw [← hh]; exact hB.1
                                              have hF := hB.2
                                              try dsimp only at hw
                                              refine W.eq (g2 := F0 m 1235 ls [.int r1232]) rfl ?_
                                              refine lv_istore (lv' := [(7, .int r1232), (6, .int r1226), (0, .ref b), (1, .ref (b0 + 0)), (2, .ref (b0 + 367)), (3, .ref (b0 + 390)), (4, .ref (b0 + 391)), (5, .int a5)]) hx hb dL_law_1235 hl (by decide) rfl (fun ls hl => ?_)
                                              refine lv_aload_n hx hb dL_law_1237 rfl (lv_at hl 4 rfl) ?_
                                              refine q_call (va_runV (As := []) (rest := []) ⟨hx, hb, hml, hown, hts⟩ (c_X6_thrown l D cy b0 S1232 _ hw) (cwV 0 hts gL_law_X6_thrown rfl rfl rfl (by decide +kernel) ⟨(Nat.le_of_ble_eq_true rfl), (Nat.le_of_ble_eq_true rfl)⟩) (q_pV hW hP hF hS (k := 367) (ci := 6) (by decide) (cell_6 (kk_367)) rfl []) rfl rfl hl.1 rfl (lv_room (Nat.le_of_ble_eq_true rfl)) dL_law_1238 ⟨by show _ ≤ 601024; omega, by show _ ≤ 7293034; omega⟩) hS (fun v1238 S1238 t1238 H locs hh hp hB hz hk9 hS => ?_)
                                              obtain ⟨r1238, rfl, hw⟩ := hp
                                              have hP : HP D cy b0 NALL S1238 H := by rw [← hh]; exact hB.1
                                              have hF := hB.2
                                              try dsimp only at hw
                                              refine W.eq (g2 := F0 m 1241 ls [.int r1238]) rfl ?_
                                              refine lv_iload hx hb dL_law_1241 (lv_at hl 1 rfl) ?_
                                              refine lv_icmp_eq (x := r1238) (y := r1226) (tgt := 1248) hx hb dL_law_1243 (by decide) (fun c1243 => ?_) (fun c1243 => ?_)
                                              · rw [if_pos c1243] at hw
                                                refine lv_iload hx hb dL_law_1248 (lv_at hl 1 rfl) ?_
                                                refine lv_if_ne (x := r1226) (tgt := 1265) hx hb dL_law_1250 (by decide) (fun c1250 => ?_) (fun c1250 => ?_)
                                                · rw [if_neg c1250] at hw
                                                  refine lv_goto (tgt := 1325) hx hb dL_law_1265 (by decide) ?_
                                                  refine W.widen (k := 392 + 4 * (513 - n28)) (n := 2000000 + 24 * (513 - n28)) (by omega) (by omega) ?_
                                                  exact j1325 S1238 a5  _ _ _ hw hP hF hS (lv_sub hl [2, 3, 4, 5, 6, 7] rfl)
                                                · rw [if_pos c1250] at hw
                                                  refine lv_aload_n hx hb dL_law_1253 rfl (lv_at hl 5 rfl) ?_
                                                  refine lv_iconst (v := 0) hx hb dL_law_1254 (by decide) ?_
                                                  obtain ⟨h1255, hw⟩ := hw
                                                  refine q_lald (k := 390) (n := 1) (i := 0) hx hb hK hP (by decide) (kk_390) (ll_390) h1255 dL_law_1255 ?_
                                                  refine lv_iload hx hb dL_law_1256 (lv_at hl 0 rfl) ?_
                                                  refine lv_i2l hx hb dL_law_1258 (v := r1232.toInt64) rfl ?_
                                                  refine W.lcmp hx hb dL_law_1259 ?_
                                                  refine lv_if_eq (x := (lg_cmp (gJ S1238 390 ((0 : Int32).toNatClampNeg)) (r1232.toInt64))) (tgt := 1265) hx hb dL_law_1260 (by decide) (fun c1260 => ?_) (fun c1260 => ?_)
                                                  · rw [if_pos c1260] at hw
                                                    refine lv_goto (tgt := 1325) hx hb dL_law_1265 (by decide) ?_
                                                    refine W.widen (k := 392 + 4 * (513 - n28)) (n := 2000000 + 24 * (513 - n28)) (by omega) (by omega) ?_
                                                    exact j1325 S1238 a5  _ _ _ hw hP hF hS (lv_sub hl [2, 3, 4, 5, 6, 7] rfl)
                                                  · rw [if_neg c1260] at hw
                                                    refine lv_iconst (v := 0) hx hb dL_law_1263 (by decide) ?_
                                                    exact False.elim hw
                                              · rw [if_neg c1243] at hw
                                                refine lv_iconst (v := 0) hx hb dL_law_1246 (by decide) ?_
                                                exact False.elim hw
                                            · rw [if_neg c44_19] at hw
                                              by_cases c44_20 : ((xs (a5.toNatClampNeg)) &&& 31) = 20
                                              · rw [if_pos c44_20] at hw
                                                rw [c44_20]
                                                refine lv_tableIn (x := 20) (off := 1224) (tgt := 1268) hx hb dL_law_44 (by decide) (by decide) (by decide) (by decide) ?_
                                                refine lv_aload_n hx hb dL_law_1268 rfl (lv_at hl 1 rfl) ?_
                                                refine lv_aload_n hx hb dL_law_1269 rfl (lv_at hl 3 rfl) ?_
                                                refine q_call (vx_runSW (As := [.ref (b0 + 0), .ref (b0 + 390)]) (rest := []) ⟨hx, hb, hml, hown, hts⟩ (c_L_move l hlt D cy b0 S _ hw) (vx_cwSW 2 hts gL_law_L_move rfl rfl rfl (by decide +kernel) ⟨(Nat.le_of_ble_eq_true rfl), (Nat.le_of_ble_eq_true rfl)⟩) (q_pS hW hP hF hS [.ref (b0 + 0), .ref (b0 + 390)]) rfl rfl hl.1 rfl (lv_room (Nat.le_of_ble_eq_true rfl)) dL_law_1270 ⟨by show _ ≤ 601024; omega, by show _ ≤ 7293034; omega⟩) hS (fun v1270 S1270 t1270 H locs hh hp hB hz hk9 hS => ?_)
                                                obtain ⟨r1270, rfl, hw⟩ := hp
                                                have hP : HP D cy b0 NALL S1270 H := by rw [← hh]; exact hB.1
                                                have hF := hB.2
                                                try dsimp only at hw
                                                refine W.eq (g2 := F0 m 1273 ls [.int r1270]) rfl ?_
                                                refine lv_istore (lv' := [(6, .int r1270), (0, .ref b), (1, .ref (b0 + 0)), (2, .ref (b0 + 367)), (3, .ref (b0 + 390)), (4, .ref (b0 + 391)), (5, .int a5)]) hx hb dL_law_1273 hl (by decide) rfl (fun ls hl => ?_)
                                                refine lv_aload_n hx hb dL_law_1275 rfl (lv_at hl 3 rfl) ?_
                                                refine q_call (va_runV (As := []) (rest := []) ⟨hx, hb, hml, hown, hts⟩ (c_X6_move l D cy b0 S1270 _ hw) (cwV 0 hts gL_law_X6_move rfl rfl rfl (by decide +kernel) ⟨(Nat.le_of_ble_eq_true rfl), (Nat.le_of_ble_eq_true rfl)⟩) (q_pV hW hP hF hS (k := 367) (ci := 6) (by decide) (cell_6 (kk_367)) rfl []) rfl rfl hl.1 rfl (lv_room (Nat.le_of_ble_eq_true rfl)) dL_law_1276 ⟨by show _ ≤ 601024; omega, by show _ ≤ 7293034; omega⟩) hS (fun v1276 S1276 t1276 H locs hh hp hB hz hk9 hS => ?_)
                                                obtain ⟨r1276, rfl, hw⟩ := hp
                                                have hP : HP D cy b0 NALL S1276 H := by rw [← hh]; exact hB.1
                                                have hF := hB.2
                                                try dsimp only at hw
                                                refine W.eq (g2 := F0 m 1279 ls [.int r1276]) rfl ?_
                                                refine lv_istore (lv' := [(7, .int r1276), (6, .int r1270), (0, .ref b), (1, .ref (b0 + 0)), (2, .ref (b0 + 367)), (3, .ref (b0 + 390)), (4, .ref (b0 + 391)), (5, .int a5)]) hx hb dL_law_1279 hl (by decide) rfl (fun ls hl => ?_)
                                                refine lv_aload_n hx hb dL_law_1281 rfl (lv_at hl 4 rfl) ?_
                                                refine q_call (va_runV (As := []) (rest := []) ⟨hx, hb, hml, hown, hts⟩ (c_X6_thrown l D cy b0 S1276 _ hw) (cwV 0 hts gL_law_X6_thrown rfl rfl rfl (by decide +kernel) ⟨(Nat.le_of_ble_eq_true rfl), (Nat.le_of_ble_eq_true rfl)⟩) (q_pV hW hP hF hS (k := 367) (ci := 6) (by decide) (cell_6 (kk_367)) rfl []) rfl rfl hl.1 rfl (lv_room (Nat.le_of_ble_eq_true rfl)) dL_law_1282 ⟨by show _ ≤ 601024; omega, by show _ ≤ 7293034; omega⟩) hS (fun v1282 S1282 t1282 H locs hh hp hB hz hk9 hS => ?_)
                                                obtain ⟨r1282, rfl, hw⟩ := hp
                                                have hP : HP D cy b0 NALL S1282 H := by rw [← hh]; exact hB.1
                                                have hF := hB.2
                                                try dsimp only at hw
                                                refine W.eq (g2 := F0 m 1285 ls [.int r1282]) rfl ?_
                                                refine lv_iload hx hb dL_law_1285 (lv_at hl 1 rfl) ?_
                                                refine lv_icmp_eq (x := r1282) (y := r1270) (tgt := 1292) hx hb dL_law_1287 (by decide) (fun c1287 => ?_) (fun c1287 => ?_)
                                                · rw [if_pos c1287] at hw
                                                  refine lv_iload hx hb dL_law_1292 (lv_at hl 1 rfl) ?_
                                                  refine lv_if_ne (x := r1270) (tgt := 1309) hx hb dL_law_1294 (by decide) (fun c1294 => ?_) (fun c1294 => ?_)
                                                  · rw [if_neg c1294] at hw
                                                    refine lv_goto (tgt := 1325) hx hb dL_law_1309 (by decide) ?_
                                                    refine W.widen (k := 392 + 4 * (513 - n28)) (n := 2000000 + 24 * (513 - n28)) (by omega) (by omega) ?_
                                                    exact j1325 S1282 a5  _ _ _ hw hP hF hS (lv_sub hl [2, 3, 4, 5, 6, 7] rfl)
                                                  · rw [if_pos c1294] at hw
                                                    refine lv_aload_n hx hb dL_law_1297 rfl (lv_at hl 5 rfl) ?_
                                                    refine lv_iconst (v := 0) hx hb dL_law_1298 (by decide) ?_
                                                    obtain ⟨h1299, hw⟩ := hw
                                                    refine q_lald (k := 390) (n := 1) (i := 0) hx hb hK hP (by decide) (kk_390) (ll_390) h1299 dL_law_1299 ?_
                                                    refine lv_iload hx hb dL_law_1300 (lv_at hl 0 rfl) ?_
                                                    refine lv_i2l hx hb dL_law_1302 (v := r1276.toInt64) rfl ?_
                                                    refine W.lcmp hx hb dL_law_1303 ?_
                                                    refine lv_if_eq (x := (lg_cmp (gJ S1282 390 ((0 : Int32).toNatClampNeg)) (r1276.toInt64))) (tgt := 1309) hx hb dL_law_1304 (by decide) (fun c1304 => ?_) (fun c1304 => ?_)
                                                    · rw [if_pos c1304] at hw
                                                      refine lv_goto (tgt := 1325) hx hb dL_law_1309 (by decide) ?_
                                                      refine W.widen (k := 392 + 4 * (513 - n28)) (n := 2000000 + 24 * (513 - n28)) (by omega) (by omega) ?_
                                                      exact j1325 S1282 a5  _ _ _ hw hP hF hS (lv_sub hl [2, 3, 4, 5, 6, 7] rfl)
                                                    · rw [if_neg c1304] at hw
                                                      refine lv_iconst (v := 0) hx hb dL_law_1307 (by decide) ?_
                                                      exact False.elim hw
                                                · rw [if_neg c1287] at hw
                                                  refine lv_iconst (v := 0) hx hb dL_law_1290 (by decide) ?_
                                                  exact False.elim hw
                                              · rw [if_neg c44_20] at hw
                                                by_cases c44_21 : ((xs (a5.toNatClampNeg)) &&& 31) = 21
                                                · rw [if_pos c44_21] at hw
                                                  rw [c44_21]
                                                  refine lv_tableIn (x := 21) (off := 1268) (tgt := 1312) hx hb dL_law_44 (by decide) (by decide) (by decide) (by decide) ?_
                                                  refine lv_aload_n hx hb dL_law_1312 rfl (lv_at hl 1 rfl) ?_
                                                  refine q_call (va_runV (As := []) (rest := []) ⟨hx, hb, hml, hown, hts⟩ (c_X5_wavelengthsNeeded l D cy b0 S _ hw) (cwV 0 hts gL_law_X5_wavelengthsNeeded rfl rfl rfl (by decide +kernel) ⟨(Nat.le_of_ble_eq_true rfl), (Nat.le_of_ble_eq_true rfl)⟩) (q_pV hW hP hF hS (k := 0) (ci := 5) (by decide) (cell_5 (kk_0)) rfl []) rfl rfl hl.1 rfl (lv_room (Nat.le_of_ble_eq_true rfl)) dL_law_1313 ⟨by show _ ≤ 601024; omega, by show _ ≤ 7293034; omega⟩) hS (fun v1313 S1313 t1313 H locs hh hp hB hz hk9 hS => ?_)
                                                  obtain ⟨r1313, rfl, hw⟩ := hp
                                                  have hP : HP D cy b0 NALL S1313 H := by rw [← hh]; exact hB.1
                                                  have hF := hB.2
                                                  try dsimp only at hw
                                                  refine W.eq (g2 := F0 m 1316 ls [.int r1313]) rfl ?_
                                                  refine lv_aload_n hx hb dL_law_1316 rfl (lv_at hl 2 rfl) ?_
                                                  refine q_call (va_runV (As := []) (rest := [.int r1313]) ⟨hx, hb, hml, hown, hts⟩ (c_X6_wavelengthsNeeded l D cy b0 S1313 _ hw) (cwV 0 hts gL_law_X6_wavelengthsNeeded rfl rfl rfl (by decide +kernel) ⟨(Nat.le_of_ble_eq_true rfl), (Nat.le_of_ble_eq_true rfl)⟩) (q_pV hW hP hF hS (k := 367) (ci := 6) (by decide) (cell_6 (kk_367)) rfl []) rfl rfl hl.1 rfl (lv_room (Nat.le_of_ble_eq_true rfl)) dL_law_1317 ⟨by show _ ≤ 601024; omega, by show _ ≤ 7293034; omega⟩) hS (fun v1317 S1317 t1317 H locs hh hp hB hz hk9 hS => ?_)
                                                  obtain ⟨r1317, rfl, hw⟩ := hp
                                                  have hP : HP D cy b0 NALL S1317 H := by rw [← hh]; exact hB.1
                                                  have hF := hB.2
                                                  try dsimp only at hw
                                                  refine W.eq (g2 := F0 m 1320 ls [.int r1317, .int r1313]) rfl ?_
                                                  refine lv_icmp_eq (x := r1313) (y := r1317) (tgt := 1325) hx hb dL_law_1320 (by decide) (fun c1320 => ?_) (fun c1320 => ?_)
                                                  · rw [if_pos c1320] at hw
                                                    refine W.widen (k := 392 + 4 * (513 - n28)) (n := 2000000 + 24 * (513 - n28)) (by omega) (by omega) ?_
                                                    exact j1325 S1317 a5  _ _ _ hw hP hF hS (lv_sub hl [0, 1, 2, 3, 4, 5] rfl)
                                                  · rw [if_neg c1320] at hw
                                                    refine lv_iconst (v := 0) hx hb dL_law_1323 (by decide) ?_
                                                    exact False.elim hw
                                                · rw [if_neg c44_21] at hw
                                                  have o44 : (((xs (a5.toNatClampNeg)) &&& 31)).toInt < 0 ∨ 21 < (((xs (a5.toNatClampNeg)) &&& 31)).toInt := by
                                                    have z0 : ¬ (((xs (a5.toNatClampNeg)) &&& 31)).toInt = 0 := lv_neT c44_0 (by decide)
                                                    have z1 : ¬ (((xs (a5.toNatClampNeg)) &&& 31)).toInt = 1 := lv_neT c44_1 (by decide)
                                                    have z2 : ¬ (((xs (a5.toNatClampNeg)) &&& 31)).toInt = 2 := lv_neT c44_2 (by decide)
                                                    have z3 : ¬ (((xs (a5.toNatClampNeg)) &&& 31)).toInt = 3 := lv_neT c44_3 (by decide)
                                                    have z4 : ¬ (((xs (a5.toNatClampNeg)) &&& 31)).toInt = 4 := lv_neT c44_4 (by decide)
                                                    have z5 : ¬ (((xs (a5.toNatClampNeg)) &&& 31)).toInt = 5 := lv_neT c44_5 (by decide)
                                                    have z6 : ¬ (((xs (a5.toNatClampNeg)) &&& 31)).toInt = 6 := lv_neT c44_6 (by decide)
                                                    have z7 : ¬ (((xs (a5.toNatClampNeg)) &&& 31)).toInt = 7 := lv_neT c44_7 (by decide)
                                                    have z8 : ¬ (((xs (a5.toNatClampNeg)) &&& 31)).toInt = 8 := lv_neT c44_8 (by decide)
                                                    have z9 : ¬ (((xs (a5.toNatClampNeg)) &&& 31)).toInt = 9 := lv_neT c44_9 (by decide)
                                                    have z10 : ¬ (((xs (a5.toNatClampNeg)) &&& 31)).toInt = 10 := lv_neT c44_10 (by decide)
                                                    have z11 : ¬ (((xs (a5.toNatClampNeg)) &&& 31)).toInt = 11 := lv_neT c44_11 (by decide)
                                                    have z12 : ¬ (((xs (a5.toNatClampNeg)) &&& 31)).toInt = 12 := lv_neT c44_12 (by decide)
                                                    have z13 : ¬ (((xs (a5.toNatClampNeg)) &&& 31)).toInt = 13 := lv_neT c44_13 (by decide)
                                                    have z14 : ¬ (((xs (a5.toNatClampNeg)) &&& 31)).toInt = 14 := lv_neT c44_14 (by decide)
                                                    have z15 : ¬ (((xs (a5.toNatClampNeg)) &&& 31)).toInt = 15 := lv_neT c44_15 (by decide)
                                                    have z16 : ¬ (((xs (a5.toNatClampNeg)) &&& 31)).toInt = 16 := lv_neT c44_16 (by decide)
                                                    have z17 : ¬ (((xs (a5.toNatClampNeg)) &&& 31)).toInt = 17 := lv_neT c44_17 (by decide)
                                                    have z18 : ¬ (((xs (a5.toNatClampNeg)) &&& 31)).toInt = 18 := lv_neT c44_18 (by decide)
                                                    have z19 : ¬ (((xs (a5.toNatClampNeg)) &&& 31)).toInt = 19 := lv_neT c44_19 (by decide)
                                                    have z20 : ¬ (((xs (a5.toNatClampNeg)) &&& 31)).toInt = 20 := lv_neT c44_20 (by decide)
                                                    have z21 : ¬ (((xs (a5.toNatClampNeg)) &&& 31)).toInt = 21 := lv_neT c44_21 (by decide)
                                                    omega
                                                  refine lv_tableOut (x := ((xs (a5.toNatClampNeg)) &&& 31)) (tgt := 1325) hx hb dL_law_44 o44 (by decide) ?_
                                                  refine W.widen (k := 392 + 4 * (513 - n28)) (n := 2000000 + 24 * (513 - n28)) (by omega) (by omega) ?_
                                                  exact j1325 S a5  _ _ _ hw hP hF hS (lv_sub hl [0, 1, 2, 3, 4, 5] rfl)
