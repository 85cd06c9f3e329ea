/-! THE LAW: from its two objects on -/
def wp_L_law_171 (xs : Nat → Int32) (L : Nat) (K65 : St → St → Int32 → Bool → Int32 → Prop) (S T : St) (a3 : Int32) (a6 : Int32) (t0 : Bool) : Prop := (∀ y173 : Int32, y173 = a6 + 1 → (K65 S T a3 t0 y173))
def wp_L_law_170 (xs : Nat → Int32) (L : Nat) (K65 : St → St → Int32 → Bool → Int32 → Prop) (S T : St) (a3 : Int32) (a6 : Int32) : Prop := (wp_L_law_171 xs L K65 S T a3 a6 false)
def wp_L_law_368 (xs : Nat → Int32) (L : Nat) (K183 : St → St → Int32 → Bool → Int32 → Prop) (S T : St) (a3 : Int32) (a5 : Bool) (a6 : Int32) : Prop := (∀ y368 : Int32, y368 = a6 + 1 → (K183 S T a3 a5 y368))
def wp_L_law_366 (xs : Nat → Int32) (L : Nat) (K183 : St → St → Int32 → Bool → Int32 → Prop) (S T : St) (a3 : Int32) (a6 : Int32) (t0 : Bool) : Prop := (wp_L_law_368 xs L K183 S T a3 t0 a6)
def wp_L_law_365 (xs : Nat → Int32) (L : Nat) (K183 : St → St → Int32 → Bool → Int32 → Prop) (S T : St) (a3 : Int32) (a6 : Int32) : Prop := (wp_L_law_366 xs L K183 S T a3 a6 false)
def wp_L_law_318 (xs : Nat → Int32) (L : Nat) (K183 : St → St → Int32 → Bool → Int32 → Prop) (S T : St) (a3 : Int32) (a6 : Int32) (a7 : Int32) (t0 : Bool) : Prop := (if (a6 - a6 / 8 * 8) = 5 then (wp_X5_lights S (fun r330 S330 => (if r330 ≤ 0 then (wp_L_law_368 xs L K183 S330 T a3 t0 a6) else (if t0 = true then (wp_X5_lights S330 (fun r349 S349 => (wp_L_low S349 (a7 >>> (7 &&& 31)) r349 (fun r352 S352 => (wp_L_isReroutedSo S352 T r352 (fun r355 S355 T355 => (if r355 = true then (wp_L_law_366 xs L K183 S355 T355 a3 a6 true) else (wp_L_law_365 xs L K183 S355 T355 a3 a6)))))))) else (wp_L_law_365 xs L K183 S330 T a3 a6))))) else (wp_L_law_368 xs L K183 S T a3 t0 a6))
def wp_L_law_313 (xs : Nat → Int32) (L : Nat) (K183 : St → St → Int32 → Bool → Int32 → Prop) (S T : St) (a3 : Int32) (a6 : Int32) (a7 : Int32) : Prop := (wp_L_law_318 xs L K183 S T a3 a6 a7 true)
def wp_L_law_317 (xs : Nat → Int32) (L : Nat) (K183 : St → St → Int32 → Bool → Int32 → Prop) (S T : St) (a3 : Int32) (a6 : Int32) (a7 : Int32) : Prop := (wp_L_law_318 xs L K183 S T a3 a6 a7 false)
def wp_L_law_278 (xs : Nat → Int32) (L : Nat) (K183 : St → St → Int32 → Bool → Int32 → Prop) (S T : St) (a3 : Int32) (a6 : Int32) (a7 : Int32) : Prop := (if (a6 - a6 / 5 * 5) = 4 then (wp_L_low S (a7 >>> (5 &&& 31)) a3 (fun r292 S292 => (wp_L_low S292 (a7 >>> (5 &&& 31)) a3 (fun r300 S300 => (¬ a3 = 0 ∧ (wp_L_isForetoldSo S300 r292 ((r300 + 1) - (r300 + 1) / a3 * a3) (fun r307 S307 => (if r307 = true then (wp_L_law_313 xs L K183 S307 T a3 a6 a7) else (wp_L_law_317 xs L K183 S307 T a3 a6 a7))))))))) else (wp_L_law_313 xs L K183 S T a3 a6 a7))
def wp_L_law_262 (xs : Nat → Int32) (L : Nat) (K183 : St → St → Int32 → Bool → Int32 → Prop) (S T : St) (a3 : Int32) (a6 : Int32) (a7 : Int32) : Prop := (if (a6 - a6 / 6 * 6) = 3 then (wp_L_isNeededSo S (fun r272 S272 => (if r272 = true then (wp_L_law_278 xs L K183 S272 T a3 a6 a7) else (wp_L_law_317 xs L K183 S272 T a3 a6 a7)))) else (wp_L_law_278 xs L K183 S T a3 a6 a7))
def wp_L_law_247 (xs : Nat → Int32) (L : Nat) (K183 : St → St → Int32 → Bool → Int32 → Prop) (S T : St) (a3 : Int32) (a6 : Int32) (a7 : Int32) : Prop := (if (a6 - a6 / 4 * 4) = 1 then (wp_L_areLightsSo S (fun r256 S256 => (if r256 = true then (wp_L_law_262 xs L K183 S256 T a3 a6 a7) else (wp_L_law_317 xs L K183 S256 T a3 a6 a7)))) else (wp_L_law_262 xs L K183 S T a3 a6 a7))
def wp_L_law_231 (xs : Nat → Int32) (L : Nat) (K183 : St → St → Int32 → Bool → Int32 → Prop) (S T : St) (a3 : Int32) (a6 : Int32) (a7 : Int32) : Prop := (if (a6 - a6 / 3 * 3) = 2 then (wp_L_areAlike S T (fun r241 S241 T241 => (if r241 = true then (wp_L_law_247 xs L K183 S241 T241 a3 a6 a7) else (wp_L_law_317 xs L K183 S241 T241 a3 a6 a7)))) else (wp_L_law_247 xs L K183 S T a3 a6 a7))
def wp_L_law_374 (xs : Nat → Int32) (L : Nat) (S T : St) (a5 : Bool) : Prop := (if a5 = true then (wp_L_areAlike S T (fun r381 S381 T381 => (if r381 = true then (wp_L_areLightsSo S381 (fun r388 S388 => (if r388 = true then (wp_L_isNeededSo S388 (fun r395 S395 => (if r395 = true then True else False))) else False))) else False))) else False)
def wp_L_law_183 (xs : Nat → Int32) (L : Nat) : Nat → St → St → Int32 → Bool → Int32 → Prop
  | 0 => fun _ _ _ _ _ => False
  | n + 1 => fun S T a3 a5 a6 => (if 72 ≤ a6 then (wp_L_law_374 xs L S T a5) else (if a5 = true then (wp_L_cell S L xs a6 (fun r198 S198 => (wp_L_act S198 a3 r198 (fun r207 S207 => (if r207 = (-99999) then (wp_L_law_231 xs L (fun S T a3 a5 a6 => wp_L_law_183 xs L n S T a3 a5 a6) S207 T a3 a6 r198) else (wp_L_act T a3 r198 (fun r223 T223 => (if r223 = r207 then (wp_L_law_231 xs L (fun S T a3 a5 a6 => wp_L_law_183 xs L n S T a3 a5 a6) S207 T223 a3 a6 r198) else (wp_L_law_317 xs L (fun S T a3 a5 a6 => wp_L_law_183 xs L n S T a3 a5 a6) S207 T223 a3 a6 r198))))))))) else (wp_L_law_374 xs L S T a5)))
def wp_L_law_179 (xs : Nat → Int32) (L : Nat) (S T : St) (a3 : Int32) (a5 : Bool) : Prop := (∃ n183, n183 ≤ 66 ∧ wp_L_law_183 xs L n183 S T a3 a5 7)
def wp_L_law_65 (xs : Nat → Int32) (L : Nat) : Nat → St → St → Int32 → Bool → Int32 → Prop
  | 0 => fun _ _ _ _ _ => False
  | n + 1 => fun S T a3 a5 a6 => (if 7 ≤ a6 then (wp_L_law_179 xs L S T a3 a5) else (wp_L_cell S L xs a6 (fun r75 S75 => (wp_L_low S75 r75 a3 (fun r83 S83 => (wp_L_low S83 (r75 >>> (3 &&& 31)) (a3 - 1) (fun r99 S99 => (¬ a3 = 0 ∧ (∀ y105 : Int32, y105 = (((r83 + 1) + r99) - ((r83 + 1) + r99) / a3 * a3) → (if a5 = true then (wp_L_low S99 (r75 >>> (6 &&& 31)) 9 (fun r125 S125 => (wp_L_add S125 r83 y105 (1 + r125) (fun r129 S129 => (if r129 = (a6 - 1) then (wp_L_low S129 (r75 >>> (6 &&& 31)) 9 (fun r152 S152 => (wp_L_add T r83 y105 (1 + r152) (fun r156 T156 => (if r156 = (a6 - 1) then (wp_L_law_171 xs L (fun S T a3 a5 a6 => wp_L_law_65 xs L n S T a3 a5 a6) S152 T156 a3 a6 true) else (wp_L_law_170 xs L (fun S T a3 a5 a6 => wp_L_law_65 xs L n S T a3 a5 a6) S152 T156 a3 a6)))))) else (wp_L_law_170 xs L (fun S T a3 a5 a6 => wp_L_law_65 xs L n S T a3 a5 a6) S129 T a3 a6)))))) else (wp_L_law_170 xs L (fun S T a3 a5 a6 => wp_L_law_65 xs L n S T a3 a5 a6) S99 T a3 a6)))))))))))
def wp_L_law_16 (xs : Nat → Int32) (L : Nat) (S T : St)  : Prop := (wp_L_cell S L xs 0 (fun r19 S19 => (wp_L_low S19 r19 6 (fun r24 S24 => (∀ y28 : Int32, y28 = (3 + r24) → (wp_L_cell S24 L xs 0 (fun r32 S32 => (wp_L_low S32 (r32 >>> (4 &&& 31)) 8 (fun r39 S39 => (∀ y43 : Int32, y43 = (1 + r39) → (wp_X5_begin S39 y28 y43 (fun S49 => (wp_X5_begin T y28 y43 (fun T56 => (∃ n65, n65 ≤ 7 ∧ wp_L_law_65 xs L n65 S49 T56 y28 true 1)) (fun _ _ => False))) (fun _ _ => False))))))))))))
set_option maxHeartbeats 40000000 in
set_option maxRecDepth 100000 in
theorem law_main {p : Program} {e : Env} {s : State} {m : MethodId} {below : List Frame} {meth : Method} {c : Code} (l : Launch) (hlt : l.stackTraces = false) (D : va_G) (cy : Nat → ClassId) (b0 : Nat) {b L : Nat} {xs : Nat → Int32} (hb0 : b < b0) (C0 : lw_At p s m meth c b L xs) (hW : WK2 D cy b0 s) (hbs : b0 = s.heap.size) (S T : St) (H : Heap) (locs : List Loc) (ls : Array Slot) (hw : wp_L_law_16 xs L S T) (hP : HP D cy b0 NALL S H) (hF : Fx S) (hP2 : HP D cy (b0 + 367) NALL T H) (hF2 : Fx T) (hS : va_S (AB b0) s.heap H locs) (hl : lv_has ls 10 [(0, .ref b), (1, .ref (b0 + 0)), (2, .ref (b0 + 367 + 0))]) : W p l e room_1 s m #[Value.ref b] below meth c H locs 734 2998288 (lw_Z below #[Value.ref b] s) (F0 m 16 ls []) := by
  obtain ⟨hx, hb, hr, hml, hown, hts0, hX, hbl, hlocks, hgv⟩ := C0
  have hts : ∀ w ∈ wsL_law, w.before #[Value.ref b] s = true := fun w h => hts0 w (wsL_law_in w h)
  have hbA : ¬ AB b0 b := fun z => Nat.not_le.mpr hb0 z.1
  have hK := hW.1
  have j374 : ∀ kk : Nat, kk + (9132) ≤ 612650 → ∀ (S T : St) (a5 : Bool), ∀ (H : Heap) (locs : List Loc) (ls : Array Slot), wp_L_law_374 xs L S T a5 → HP D cy b0 NALL S H → Fx S → HP D cy (b0 + 367) NALL T H → Fx T → va_S (AB b0) s.heap H locs → lv_has ls 10 [(1, .ref (b0 + 0)), (2, .ref (b0 + 367 + 0)), (5, .int (b2i a5))] → W p l e room_1 s m #[Value.ref b] below meth c H locs (734 + kk) (2998288 + 6 * kk) (lw_Z below #[Value.ref b] s) (F0 m 374 ls []) := by
    intro kk hc9 S T a5 H locs ls hw hP hF hP2 hF2 hS hl
    unfold wp_L_law_374 at hw
    refine lv_iload hx hb dL_law_374 (lv_at hl 2 rfl) ?_
    refine lv_if_eq (x := b2i a5) (tgt := 405) hx hb dL_law_376 (by decide) (fun c376 => ?_) (fun c376 => ?_)
    · have c376 := b2i_z c376
      rw [if_neg c376] at hw
      refine lv_iconst (v := 0) hx hb dL_law_405 (by decide) ?_
      exact False.elim hw
    · have c376 := b2i_n c376
      rw [if_pos c376] at hw
      refine lv_aload_n hx hb dL_law_379 rfl (lv_at hl 0 rfl) ?_
      refine lv_aload_n hx hb dL_law_380 rfl (lv_at hl 1 rfl) ?_
      refine q_call2 (va_runS (As := [.ref (b0 + 0), .ref (b0 + 367 + 0)]) (rest := []) ⟨hx, hb, hml, hown, hts⟩ (c_L_areAlike l hlt D cy b0 S T  _ hw) (va_cwS 2 hts gL_law_L_areAlike rfl rfl rfl (by decide +kernel) ⟨(Nat.le_of_ble_eq_true rfl), (Nat.le_of_ble_eq_true rfl)⟩) (q_pS2 hW hP hF hP2 hF2 hS [.ref (b0 + 0), .ref (b0 + 367 + 0)]) rfl rfl hl.1 rfl (lv_room (Nat.le_of_ble_eq_true rfl)) dL_law_381 ⟨by show _ ≤ 681966; omega, by show _ ≤ 7055726; omega⟩) hS (fun v381 S381 T381 t381 H locs hh hp hB hS => ?_)
      obtain ⟨r381, rfl, hw⟩ := hp
      obtain ⟨hP, hF, hP2, hF2⟩ := hB
      rw [hh] at hP hP2
      try dsimp only at hw
      refine W.eq (g2 := F0 m 384 ls [.int (b2i r381)]) rfl ?_
      refine lv_if_eq (x := b2i r381) (tgt := 405) hx hb dL_law_384 (by decide) (fun c384 => ?_) (fun c384 => ?_)
      · have c384 := b2i_z c384
        rw [if_neg c384] at hw
        refine lv_iconst (v := 0) hx hb dL_law_405 (by decide) ?_
        exact False.elim hw
      · have c384 := b2i_n c384
        rw [if_pos c384] at hw
        refine lv_aload_n hx hb dL_law_387 rfl (lv_at hl 0 rfl) ?_
        refine q_call1 (va_runS (As := [.ref (b0 + 0)]) (rest := []) ⟨hx, hb, hml, hown, hts⟩ (c_L_areLightsSo l hlt D cy b0 S381 _ hw) (va_cwS 1 hts gL_law_L_areLightsSo rfl rfl rfl (by decide +kernel) ⟨(Nat.le_of_ble_eq_true rfl), (Nat.le_of_ble_eq_true rfl)⟩) (q_pS1 hW AA_o hP hF hS [.ref (b0 + 0)]) rfl rfl hl.1 rfl (lv_room (Nat.le_of_ble_eq_true rfl)) dL_law_388 ⟨by show _ ≤ 681966; omega, by show _ ≤ 7055726; omega⟩) hS AA_o (fun v388 S388 t388 H locs hh hp hB hk9 hS => ?_)
        obtain ⟨r388, rfl, hw⟩ := hp
        have hP : HP D cy b0 NALL S388 H := by rw [← hh]; exact hB.1
        have hF := hB.2
        have hP2 := hP2.far hk9 far_p
        try dsimp only at hw
        refine W.eq (g2 := F0 m 391 ls [.int (b2i r388)]) rfl ?_
        refine lv_if_eq (x := b2i r388) (tgt := 405) hx hb dL_law_391 (by decide) (fun c391 => ?_) (fun c391 => ?_)
        · have c391 := b2i_z c391
          rw [if_neg c391] at hw
          refine lv_iconst (v := 0) hx hb dL_law_405 (by decide) ?_
          exact False.elim hw
        · have c391 := b2i_n c391
          rw [if_pos c391] at hw
          refine lv_aload_n hx hb dL_law_394 rfl (lv_at hl 0 rfl) ?_
          refine q_call1 (va_runS (As := [.ref (b0 + 0)]) (rest := []) ⟨hx, hb, hml, hown, hts⟩ (c_L_isNeededSo l hlt D cy b0 S388 _ hw) (va_cwS 1 hts gL_law_L_isNeededSo rfl rfl rfl (by decide +kernel) ⟨(Nat.le_of_ble_eq_true rfl), (Nat.le_of_ble_eq_true rfl)⟩) (q_pS1 hW AA_o hP hF hS [.ref (b0 + 0)]) rfl rfl hl.1 rfl (lv_room (Nat.le_of_ble_eq_true rfl)) dL_law_395 ⟨by show _ ≤ 681966; omega, by show _ ≤ 7055726; omega⟩) hS AA_o (fun v395 S395 t395 H locs hh hp hB hk9 hS => ?_)
          obtain ⟨r395, rfl, hw⟩ := hp
          have hP : HP D cy b0 NALL S395 H := by rw [← hh]; exact hB.1
          have hF := hB.2
          have hP2 := hP2.far hk9 far_p
          try dsimp only at hw
          refine W.eq (g2 := F0 m 398 ls [.int (b2i r395)]) rfl ?_
          refine lv_if_eq (x := b2i r395) (tgt := 405) hx hb dL_law_398 (by decide) (fun c398 => ?_) (fun c398 => ?_)
          · have c398 := b2i_z c398
            rw [if_neg c398] at hw
            refine lv_iconst (v := 0) hx hb dL_law_405 (by decide) ?_
            exact False.elim hw
          · have c398 := b2i_n c398
            rw [if_pos c398] at hw
            refine lv_iconst (v := 1) hx hb dL_law_401 (by decide) ?_
            refine lv_goto (tgt := 406) hx hb dL_law_402 (by decide) ?_
            refine va_forget (fun q hq => by rw [← hbs]; exact (hS.2.2 q hq).1) ?_
            refine W.widen (k := 681966) (n := 7055726) (by omega) (by omega) ?_
            exact lw_ret (d0 := s.drawn) (Drawn.sameBut.refl s.drawn lw_cs) hx hb hr hlocks dL_law_406
  have j183 : ∀ (n183 : Nat), ∀ kk : Nat, kk + (9132 + 9144 * n183) ≤ 612650 → ∀ (S T : St) (a3 : Int32) (a5 : Bool) (a6 : Int32), ∀ (H : Heap) (locs : List Loc) (ls : Array Slot), wp_L_law_183 xs L n183 S T a3 a5 a6 → HP D cy b0 NALL S H → Fx S → HP D cy (b0 + 367) NALL T H → Fx T → va_S (AB b0) s.heap H locs → lv_has ls 10 [(0, .ref b), (1, .ref (b0 + 0)), (2, .ref (b0 + 367 + 0)), (3, .int a3), (5, .int (b2i a5)), (6, .int a6)] → W p l e room_1 s m #[Value.ref b] below meth c H locs (734 + kk) (2998288 + 6 * kk) (lw_Z below #[Value.ref b] s) (F0 m 183 ls []) := by
    intro n183
    induction n183 with
    | zero => intro kk hc9 S T a3 a5 a6 H locs ls hw _ _ _ _ _ _; exact False.elim hw
    | succ n183 ih183 =>
      have j368 : ∀ kk : Nat, kk + (9132 + 9144 * n183) ≤ 612650 → ∀ (S T : St) (a3 : Int32) (a5 : Bool) (a6 : Int32), ∀ (H : Heap) (locs : List Loc) (ls : Array Slot), wp_L_law_368 xs L (fun S T a3 a5 a6 => wp_L_law_183 xs L n183 S T a3 a5 a6) S T a3 a5 a6 → HP D cy b0 NALL S H → Fx S → HP D cy (b0 + 367) NALL T H → Fx T → va_S (AB b0) s.heap H locs → lv_has ls 10 [(0, .ref b), (1, .ref (b0 + 0)), (2, .ref (b0 + 367 + 0)), (3, .int a3), (5, .int (b2i a5)), (6, .int a6)] → W p l e room_1 s m #[Value.ref b] below meth c H locs (734 + kk) (2998288 + 6 * kk) (lw_Z below #[Value.ref b] s) (F0 m 368 ls []) := by
        intro kk hc9 S T a3 a5 a6 H locs ls hw hP hF hP2 hF2 hS hl
        unfold wp_L_law_368 at hw
        obtain ⟨y368, e368⟩ : ∃ z : Int32, z = a6 + 1 := ⟨_, rfl⟩
        have hw := hw y368 e368
        refine lv_iinc (v := y368) (lv' := [(6, .int y368), (0, .ref b), (1, .ref (b0 + 0)), (2, .ref (b0 + 367 + 0)), (3, .int a3), (5, .int (b2i a5))]) hx hb dL_law_368 hl (k := 5) rfl (by rw [e368]; rfl) (by decide) rfl (fun ls hl => ?_)
        refine lv_goto (tgt := 183) hx hb dL_law_371 (by decide) ?_
        refine W.widen (k := 734 + (kk + 0)) (n := 2998288 + 6 * (kk + 0)) (by omega) (by omega) ?_
        exact ih183 (kk + 0) (by omega) S T a3 a5 y368 _ _ _ hw hP hF hP2 hF2 hS (lv_sub hl [1, 2, 3, 4, 5, 0] rfl)
      have j366 : ∀ kk : Nat, kk + (9132 + 9144 * n183) ≤ 612650 → ∀ (S T : St) (a3 : Int32) (a6 : Int32) (t0 : Bool), ∀ (H : Heap) (locs : List Loc) (ls : Array Slot), wp_L_law_366 xs L (fun S T a3 a5 a6 => wp_L_law_183 xs L n183 S T a3 a5 a6) S T a3 a6 t0 → HP D cy b0 NALL S H → Fx S → HP D cy (b0 + 367) NALL T H → Fx T → va_S (AB b0) s.heap H locs → lv_has ls 10 [(0, .ref b), (1, .ref (b0 + 0)), (2, .ref (b0 + 367 + 0)), (3, .int a3), (6, .int a6)] → W p l e room_1 s m #[Value.ref b] below meth c H locs (734 + kk) (2998288 + 6 * kk) (lw_Z below #[Value.ref b] s) (F0 m 366 ls [.int (b2i t0)]) := by
        intro kk hc9 S T a3 a6 t0 H locs ls hw hP hF hP2 hF2 hS hl
        unfold wp_L_law_366 at hw
        refine lv_istore (lv' := [(5, .int (b2i t0)), (0, .ref b), (1, .ref (b0 + 0)), (2, .ref (b0 + 367 + 0)), (3, .int a3), (6, .int a6)]) hx hb dL_law_366 hl (by decide) rfl (fun ls hl => ?_)
        refine W.widen (k := 734 + (kk + 0)) (n := 2998288 + 6 * (kk + 0)) (by omega) (by omega) ?_
        exact j368 (kk + 0) (by omega) S T a3 t0 a6 _ _ _ hw hP hF hP2 hF2 hS (lv_sub hl [1, 2, 3, 4, 0, 5] rfl)
      have j365 : ∀ kk : Nat, kk + (9132 + 9144 * n183) ≤ 612650 → ∀ (S T : St) (a3 : Int32) (a6 : Int32), ∀ (H : Heap) (locs : List Loc) (ls : Array Slot), wp_L_law_365 xs L (fun S T a3 a5 a6 => wp_L_law_183 xs L n183 S T a3 a5 a6) S T a3 a6 → HP D cy b0 NALL S H → Fx S → HP D cy (b0 + 367) NALL T H → Fx T → va_S (AB b0) s.heap H locs → lv_has ls 10 [(0, .ref b), (1, .ref (b0 + 0)), (2, .ref (b0 + 367 + 0)), (3, .int a3), (6, .int a6)] → W p l e room_1 s m #[Value.ref b] below meth c H locs (734 + kk) (2998288 + 6 * kk) (lw_Z below #[Value.ref b] s) (F0 m 365 ls []) := by
        intro kk hc9 S T a3 a6 H locs ls hw hP hF hP2 hF2 hS hl
        unfold wp_L_law_365 at hw
        refine lv_iconst (v := 0) hx hb dL_law_365 (by decide) ?_
        refine W.widen (k := 734 + (kk + 0)) (n := 2998288 + 6 * (kk + 0)) (by omega) (by omega) ?_
        exact j366 (kk + 0) (by omega) S T a3 a6 false _ _ _ hw hP hF hP2 hF2 hS (lv_sub hl [0, 1, 2, 3, 4] rfl)
      have j318 : ∀ kk : Nat, kk + (9137 + 9144 * n183) ≤ 612650 → ∀ (S T : St) (a3 : Int32) (a6 : Int32) (a7 : Int32) (t0 : Bool), ∀ (H : Heap) (locs : List Loc) (ls : Array Slot), wp_L_law_318 xs L (fun S T a3 a5 a6 => wp_L_law_183 xs L n183 S T a3 a5 a6) S T a3 a6 a7 t0 → HP D cy b0 NALL S H → Fx S → HP D cy (b0 + 367) NALL T H → Fx T → va_S (AB b0) s.heap H locs → lv_has ls 10 [(0, .ref b), (1, .ref (b0 + 0)), (2, .ref (b0 + 367 + 0)), (3, .int a3), (6, .int a6), (7, .int a7)] → W p l e room_1 s m #[Value.ref b] below meth c H locs (734 + kk) (2998288 + 6 * kk) (lw_Z below #[Value.ref b] s) (F0 m 318 ls [.int (b2i t0)]) := by
        intro kk hc9 S T a3 a6 a7 t0 H locs ls hw hP hF hP2 hF2 hS hl
        unfold wp_L_law_318 at hw
        refine lv_istore (lv' := [(5, .int (b2i t0)), (0, .ref b), (1, .ref (b0 + 0)), (2, .ref (b0 + 367 + 0)), (3, .int a3), (6, .int a6), (7, .int a7)]) hx hb dL_law_318 hl (by decide) rfl (fun ls hl => ?_)
        refine lv_iload hx hb dL_law_320 (lv_at hl 5 rfl) ?_
        refine lv_bipush (v := 8) hx hb dL_law_322 (by decide) ?_
        refine lv_irem hx hb dL_law_324 (by decide) ?_
        refine lv_iconst (v := 5) hx hb dL_law_325 (by decide) ?_
        refine lv_icmp_ne (x := (a6 - a6 / 8 * 8)) (y := 5) (tgt := 368) hx hb dL_law_326 (by decide) (fun c326 => ?_) (fun c326 => ?_)
        · rw [if_neg c326] at hw
          refine W.widen (k := 734 + (kk + 0)) (n := 2998288 + 6 * (kk + 0)) (by omega) (by omega) ?_
          exact j368 (kk + 0) (by omega) S T a3 t0 a6 _ _ _ hw hP hF hP2 hF2 hS (lv_sub hl [1, 2, 3, 4, 0, 5] rfl)
        · rw [if_pos c326] at hw
          refine lv_aload_n hx hb dL_law_329 rfl (lv_at hl 2 rfl) ?_
          refine q_call1 (va_runV (As := []) (rest := []) ⟨hx, hb, hml, hown, hts⟩ (c_X5_lights l D cy b0 S _ hw) (cwV 0 hts gL_law_X5_lights rfl rfl rfl (by decide +kernel) ⟨(Nat.le_of_ble_eq_true rfl), (Nat.le_of_ble_eq_true rfl)⟩) (q_pV1 hW AA_o hP hF hS []) rfl rfl hl.1 rfl (lv_room (Nat.le_of_ble_eq_true rfl)) dL_law_330 ⟨by show _ ≤ 681966; omega, by show _ ≤ 7055726; omega⟩) hS AA_o (fun v330 S330 t330 H locs hh hp hB hk9 hS => ?_)
          obtain ⟨r330, rfl, hw⟩ := hp
          have hP : HP D cy b0 NALL S330 H := by rw [← hh]; exact hB.1
          have hF := hB.2
          have hP2 := hP2.far hk9 far_p
          try dsimp only at hw
          refine W.eq (g2 := F0 m 333 ls [.int r330]) rfl ?_
          refine lv_if_le (x := r330) (tgt := 368) hx hb dL_law_333 (by decide) (fun c333 => ?_) (fun c333 => ?_)
          · rw [if_pos c333] at hw
            refine W.widen (k := 734 + (kk + 0)) (n := 2998288 + 6 * (kk + 0)) (by omega) (by omega) ?_
            exact j368 (kk + 0) (by omega) S330 T a3 t0 a6 _ _ _ hw hP hF hP2 hF2 hS (lv_sub hl [1, 2, 3, 4, 0, 5] rfl)
          · rw [if_neg c333] at hw
            refine lv_iload hx hb dL_law_336 (lv_at hl 0 rfl) ?_
            refine lv_if_eq (x := b2i t0) (tgt := 365) hx hb dL_law_338 (by decide) (fun c338 => ?_) (fun c338 => ?_)
            · have c338 := b2i_z c338
              rw [if_neg c338] at hw
              refine W.widen (k := 734 + (kk + 0)) (n := 2998288 + 6 * (kk + 0)) (by omega) (by omega) ?_
              exact j365 (kk + 0) (by omega) S330 T a3 a6 _ _ _ hw hP hF hP2 hF2 hS (lv_sub hl [1, 2, 3, 4, 5] rfl)
            · have c338 := b2i_n c338
              rw [if_pos c338] at hw
              refine lv_aload_n hx hb dL_law_341 rfl (lv_at hl 2 rfl) ?_
              refine lv_aload_n hx hb dL_law_342 rfl (lv_at hl 3 rfl) ?_
              refine lv_iload hx hb dL_law_343 (lv_at hl 6 rfl) ?_
              refine lv_bipush (v := 7) hx hb dL_law_345 (by decide) ?_
              refine lv_ishr hx hb dL_law_347 ?_
              refine lv_aload_n hx hb dL_law_348 rfl (lv_at hl 2 rfl) ?_
              refine q_call1 (va_runV (As := []) (rest := [.int (a7 >>> (7 &&& 31)), .ref (b0 + 367 + 0), .ref (b0 + 0)]) ⟨hx, hb, hml, hown, hts⟩ (c_X5_lights l D cy b0 S330 _ hw) (cwV 0 hts gL_law_X5_lights rfl rfl rfl (by decide +kernel) ⟨(Nat.le_of_ble_eq_true rfl), (Nat.le_of_ble_eq_true rfl)⟩) (q_pV1 hW AA_o hP hF hS []) rfl rfl hl.1 rfl (lv_room (Nat.le_of_ble_eq_true rfl)) dL_law_349 ⟨by show _ ≤ 681966; omega, by show _ ≤ 7055726; omega⟩) hS AA_o (fun v349 S349 t349 H locs hh hp hB hk9 hS => ?_)
              obtain ⟨r349, rfl, hw⟩ := hp
              have hP : HP D cy b0 NALL S349 H := by rw [← hh]; exact hB.1
              have hF := hB.2
              have hP2 := hP2.far hk9 far_p
              try dsimp only at hw
              refine W.eq (g2 := F0 m 352 ls [.int r349, .int (a7 >>> (7 &&& 31)), .ref (b0 + 367 + 0), .ref (b0 + 0)]) rfl ?_
              refine q_call1 (va_runS (As := [.int (a7 >>> (7 &&& 31)), .int r349]) (rest := [.ref (b0 + 367 + 0), .ref (b0 + 0)]) ⟨hx, hb, hml, hown, hts⟩ (c_L_low l hlt D cy b0 S349 (a7 >>> (7 &&& 31)) r349 _ hw) (va_cwS 2 hts gL_law_L_low rfl rfl rfl (by decide +kernel) ⟨(Nat.le_of_ble_eq_true rfl), (Nat.le_of_ble_eq_true rfl)⟩) (q_pS1 hW AA_o hP hF hS [.int (a7 >>> (7 &&& 31)), .int r349]) rfl rfl hl.1 rfl (lv_room (Nat.le_of_ble_eq_true rfl)) dL_law_352 ⟨by show _ ≤ 681966; omega, by show _ ≤ 7055726; omega⟩) hS AA_o (fun v352 S352 t352 H locs hh hp hB hk9 hS => ?_)
              obtain ⟨r352, rfl, hw⟩ := hp
              have hP : HP D cy b0 NALL S352 H := by rw [← hh]; exact hB.1
              have hF := hB.2
              have hP2 := hP2.far hk9 far_p
              try dsimp only at hw
              refine W.eq (g2 := F0 m 355 ls [.int r352, .ref (b0 + 367 + 0), .ref (b0 + 0)]) rfl ?_
              refine q_call2 (va_runS (As := [.ref (b0 + 0), .ref (b0 + 367 + 0), .int r352]) (rest := []) ⟨hx, hb, hml, hown, hts⟩ (c_L_isReroutedSo l hlt D cy b0 S352 T r352 _ hw) (va_cwS 3 hts gL_law_L_isReroutedSo rfl rfl rfl (by decide +kernel) ⟨(Nat.le_of_ble_eq_true rfl), (Nat.le_of_ble_eq_true rfl)⟩) (q_pS2 hW hP hF hP2 hF2 hS [.ref (b0 + 0), .ref (b0 + 367 + 0), .int r352]) rfl rfl hl.1 rfl (lv_room (Nat.le_of_ble_eq_true rfl)) dL_law_355 ⟨by show _ ≤ 681966; omega, by show _ ≤ 7055726; omega⟩) hS (fun v355 S355 T355 t355 H locs hh hp hB hS => ?_)
              obtain ⟨r355, rfl, hw⟩ := hp
              obtain ⟨hP, hF, hP2, hF2⟩ := hB
              rw [hh] at hP hP2
              try dsimp only at hw
              refine W.eq (g2 := F0 m 358 ls [.int (b2i r355)]) rfl ?_
              refine lv_if_eq (x := b2i r355) (tgt := 365) hx hb dL_law_358 (by decide) (fun c358 => ?_) (fun c358 => ?_)
              · have c358 := b2i_z c358
                rw [if_neg c358] at hw
                refine W.widen (k := 734 + (kk + 5)) (n := 2998288 + 6 * (kk + 5)) (by omega) (by omega) ?_
                exact j365 (kk + 5) (by omega) S355 T355 a3 a6 _ _ _ hw hP hF hP2 hF2 hS (lv_sub hl [1, 2, 3, 4, 5] rfl)
              · have c358 := b2i_n c358
                rw [if_pos c358] at hw
                refine lv_iconst (v := 1) hx hb dL_law_361 (by decide) ?_
                refine lv_goto (tgt := 366) hx hb dL_law_362 (by decide) ?_
                refine W.widen (k := 734 + (kk + 5)) (n := 2998288 + 6 * (kk + 5)) (by omega) (by omega) ?_
                exact j366 (kk + 5) (by omega) S355 T355 a3 a6 true _ _ _ hw hP hF hP2 hF2 hS (lv_sub hl [1, 2, 3, 4, 5] rfl)
      have j313 : ∀ kk : Nat, kk + (9137 + 9144 * n183) ≤ 612650 → ∀ (S T : St) (a3 : Int32) (a6 : Int32) (a7 : Int32), ∀ (H : Heap) (locs : List Loc) (ls : Array Slot), wp_L_law_313 xs L (fun S T a3 a5 a6 => wp_L_law_183 xs L n183 S T a3 a5 a6) S T a3 a6 a7 → HP D cy b0 NALL S H → Fx S → HP D cy (b0 + 367) NALL T H → Fx T → va_S (AB b0) s.heap H locs → lv_has ls 10 [(0, .ref b), (1, .ref (b0 + 0)), (2, .ref (b0 + 367 + 0)), (3, .int a3), (6, .int a6), (7, .int a7)] → W p l e room_1 s m #[Value.ref b] below meth c H locs (734 + kk) (2998288 + 6 * kk) (lw_Z below #[Value.ref b] s) (F0 m 313 ls []) := by
        intro kk hc9 S T a3 a6 a7 H locs ls hw hP hF hP2 hF2 hS hl
        unfold wp_L_law_313 at hw
        refine lv_iconst (v := 1) hx hb dL_law_313 (by decide) ?_
        refine lv_goto (tgt := 318) hx hb dL_law_314 (by decide) ?_
        refine W.widen (k := 734 + (kk + 0)) (n := 2998288 + 6 * (kk + 0)) (by omega) (by omega) ?_
        exact j318 (kk + 0) (by omega) S T a3 a6 a7 true _ _ _ hw hP hF hP2 hF2 hS (lv_sub hl [0, 1, 2, 3, 4, 5] rfl)
      have j317 : ∀ kk : Nat, kk + (9137 + 9144 * n183) ≤ 612650 → ∀ (S T : St) (a3 : Int32) (a6 : Int32) (a7 : Int32), ∀ (H : Heap) (locs : List Loc) (ls : Array Slot), wp_L_law_317 xs L (fun S T a3 a5 a6 => wp_L_law_183 xs L n183 S T a3 a5 a6) S T a3 a6 a7 → HP D cy b0 NALL S H → Fx S → HP D cy (b0 + 367) NALL T H → Fx T → va_S (AB b0) s.heap H locs → lv_has ls 10 [(0, .ref b), (1, .ref (b0 + 0)), (2, .ref (b0 + 367 + 0)), (3, .int a3), (6, .int a6), (7, .int a7)] → W p l e room_1 s m #[Value.ref b] below meth c H locs (734 + kk) (2998288 + 6 * kk) (lw_Z below #[Value.ref b] s) (F0 m 317 ls []) := by
        intro kk hc9 S T a3 a6 a7 H locs ls hw hP hF hP2 hF2 hS hl
        unfold wp_L_law_317 at hw
        refine lv_iconst (v := 0) hx hb dL_law_317 (by decide) ?_
        refine W.widen (k := 734 + (kk + 0)) (n := 2998288 + 6 * (kk + 0)) (by omega) (by omega) ?_
        exact j318 (kk + 0) (by omega) S T a3 a6 a7 false _ _ _ hw hP hF hP2 hF2 hS (lv_sub hl [0, 1, 2, 3, 4, 5] rfl)
      have j278 : ∀ kk : Nat, kk + (9141 + 9144 * n183) ≤ 612650 → ∀ (S T : St) (a3 : Int32) (a6 : Int32) (a7 : Int32), ∀ (H : Heap) (locs : List Loc) (ls : Array Slot), wp_L_law_278 xs L (fun S T a3 a5 a6 => wp_L_law_183 xs L n183 S T a3 a5 a6) S T a3 a6 a7 → HP D cy b0 NALL S H → Fx S → HP D cy (b0 + 367) NALL T H → Fx T → va_S (AB b0) s.heap H locs → lv_has ls 10 [(0, .ref b), (1, .ref (b0 + 0)), (2, .ref (b0 + 367 + 0)), (3, .int a3), (6, .int a6), (7, .int a7)] → W p l e room_1 s m #[Value.ref b] below meth c H locs (734 + kk) (2998288 + 6 * kk) (lw_Z below #[Value.ref b] s) (F0 m 278 ls []) := by
        intro kk hc9 S T a3 a6 a7 H locs ls hw hP hF hP2 hF2 hS hl
        unfold wp_L_law_278 at hw
        refine lv_iload hx hb dL_law_278 (lv_at hl 4 rfl) ?_
        refine lv_iconst (v := 5) hx hb dL_law_280 (by decide) ?_
        refine lv_irem hx hb dL_law_281 (by decide) ?_
        refine lv_iconst (v := 4) hx hb dL_law_282 (by decide) ?_
        refine lv_icmp_ne (x := (a6 - a6 / 5 * 5)) (y := 4) (tgt := 313) hx hb dL_law_283 (by decide) (fun c283 => ?_) (fun c283 => ?_)
        · rw [if_neg c283] at hw
          refine W.widen (k := 734 + (kk + 0)) (n := 2998288 + 6 * (kk + 0)) (by omega) (by omega) ?_
          exact j313 (kk + 0) (by omega) S T a3 a6 a7 _ _ _ hw hP hF hP2 hF2 hS (lv_sub hl [0, 1, 2, 3, 4, 5] rfl)
        · rw [if_pos c283] at hw
          refine lv_aload_n hx hb dL_law_286 rfl (lv_at hl 1 rfl) ?_
          refine lv_iload hx hb dL_law_287 (lv_at hl 5 rfl) ?_
          refine lv_iconst (v := 5) hx hb dL_law_289 (by decide) ?_
          refine lv_ishr hx hb dL_law_290 ?_
          refine lv_iload_n hx hb dL_law_291 rfl (lv_at hl 3 rfl) ?_
          refine q_call1 (va_runS (As := [.int (a7 >>> (5 &&& 31)), .int a3]) (rest := [.ref (b0 + 0)]) ⟨hx, hb, hml, hown, hts⟩ (c_L_low l hlt D cy b0 S (a7 >>> (5 &&& 31)) a3 _ hw) (va_cwS 2 hts gL_law_L_low rfl rfl rfl (by decide +kernel) ⟨(Nat.le_of_ble_eq_true rfl), (Nat.le_of_ble_eq_true rfl)⟩) (q_pS1 hW AA_o hP hF hS [.int (a7 >>> (5 &&& 31)), .int a3]) rfl rfl hl.1 rfl (lv_room (Nat.le_of_ble_eq_true rfl)) dL_law_292 ⟨by show _ ≤ 681966; omega, by show _ ≤ 7055726; omega⟩) hS AA_o (fun v292 S292 t292 H locs hh hp hB hk9 hS => ?_)
          obtain ⟨r292, rfl, hw⟩ := hp
          have hP : HP D cy b0 NALL S292 H := by rw [← hh]; exact hB.1
          have hF := hB.2
          have hP2 := hP2.far hk9 far_p
          try dsimp only at hw
          refine W.eq (g2 := F0 m 295 ls [.int r292, .ref (b0 + 0)]) rfl ?_
          refine lv_iload hx hb dL_law_295 (lv_at hl 5 rfl) ?_
          refine lv_iconst (v := 5) hx hb dL_law_297 (by decide) ?_
          refine lv_ishr hx hb dL_law_298 ?_
          refine lv_iload_n hx hb dL_law_299 rfl (lv_at hl 3 rfl) ?_
          refine q_call1 (va_runS (As := [.int (a7 >>> (5 &&& 31)), .int a3]) (rest := [.int r292, .ref (b0 + 0)]) ⟨hx, hb, hml, hown, hts⟩ (c_L_low l hlt D cy b0 S292 (a7 >>> (5 &&& 31)) a3 _ hw) (va_cwS 2 hts gL_law_L_low rfl rfl rfl (by decide +kernel) ⟨(Nat.le_of_ble_eq_true rfl), (Nat.le_of_ble_eq_true rfl)⟩) (q_pS1 hW AA_o hP hF hS [.int (a7 >>> (5 &&& 31)), .int a3]) rfl rfl hl.1 rfl (lv_room (Nat.le_of_ble_eq_true rfl)) dL_law_300 ⟨by show _ ≤ 681966; omega, by show _ ≤ 7055726; omega⟩) hS AA_o (fun v300 S300 t300 H locs hh hp hB hk9 hS => ?_)
          obtain ⟨r300, rfl, hw⟩ := hp
          have hP : HP D cy b0 NALL S300 H := by rw [← hh]; exact hB.1
          have hF := hB.2
          have hP2 := hP2.far hk9 far_p
          try dsimp only at hw
          refine W.eq (g2 := F0 m 303 ls [.int r300, .int r292, .ref (b0 + 0)]) rfl ?_
          refine lv_iconst (v := 1) hx hb dL_law_303 (by decide) ?_
          refine lv_iadd hx hb dL_law_304 ?_
          refine lv_iload_n hx hb dL_law_305 rfl (lv_at hl 3 rfl) ?_
          obtain ⟨h306, hw⟩ := hw
          refine lv_irem hx hb dL_law_306 h306 ?_
          refine q_call1 (va_runS (As := [.ref (b0 + 0), .int r292, .int ((r300 + 1) - (r300 + 1) / a3 * a3)]) (rest := []) ⟨hx, hb, hml, hown, hts⟩ (c_L_isForetoldSo l hlt D cy b0 S300 r292 ((r300 + 1) - (r300 + 1) / a3 * a3) _ hw) (va_cwS 3 hts gL_law_L_isForetoldSo rfl rfl rfl (by decide +kernel) ⟨(Nat.le_of_ble_eq_true rfl), (Nat.le_of_ble_eq_true rfl)⟩) (q_pS1 hW AA_o hP hF hS [.ref (b0 + 0), .int r292, .int ((r300 + 1) - (r300 + 1) / a3 * a3)]) rfl rfl hl.1 rfl (lv_room (Nat.le_of_ble_eq_true rfl)) dL_law_307 ⟨by show _ ≤ 681966; omega, by show _ ≤ 7055726; omega⟩) hS AA_o (fun v307 S307 t307 H locs hh hp hB hk9 hS => ?_)
          obtain ⟨r307, rfl, hw⟩ := hp
          have hP : HP D cy b0 NALL S307 H := by rw [← hh]; exact hB.1
          have hF := hB.2
          have hP2 := hP2.far hk9 far_p
          try dsimp only at hw
          refine W.eq (g2 := F0 m 310 ls [.int (b2i r307)]) rfl ?_
          refine lv_if_eq (x := b2i r307) (tgt := 317) hx hb dL_law_310 (by decide) (fun c310 => ?_) (fun c310 => ?_)
          · have c310 := b2i_z c310
            rw [if_neg c310] at hw
            refine W.widen (k := 734 + (kk + 4)) (n := 2998288 + 6 * (kk + 4)) (by omega) (by omega) ?_
            exact j317 (kk + 4) (by omega) S307 T a3 a6 a7 _ _ _ hw hP hF hP2 hF2 hS (lv_sub hl [0, 1, 2, 3, 4, 5] rfl)
          · have c310 := b2i_n c310
            rw [if_pos c310] at hw
            refine W.widen (k := 734 + (kk + 4)) (n := 2998288 + 6 * (kk + 4)) (by omega) (by omega) ?_
            exact j313 (kk + 4) (by omega) S307 T a3 a6 a7 _ _ _ hw hP hF hP2 hF2 hS (lv_sub hl [0, 1, 2, 3, 4, 5] rfl)
      have j262 : ∀ kk : Nat, kk + (17377 + 9144 * n183) ≤ 612650 → ∀ (S T : St) (a3 : Int32) (a6 : Int32) (a7 : Int32), ∀ (H : Heap) (locs : List Loc) (ls : Array Slot), wp_L_law_262 xs L (fun S T a3 a5 a6 => wp_L_law_183 xs L n183 S T a3 a5 a6) S T a3 a6 a7 → HP D cy b0 NALL S H → Fx S → HP D cy (b0 + 367) NALL T H → Fx T → va_S (AB b0) s.heap H locs → lv_has ls 10 [(0, .ref b), (1, .ref (b0 + 0)), (2, .ref (b0 + 367 + 0)), (3, .int a3), (6, .int a6), (7, .int a7)] → W p l e room_1 s m #[Value.ref b] below meth c H locs (734 + kk) (2998288 + 6 * kk) (lw_Z below #[Value.ref b] s) (F0 m 262 ls []) := by
        intro kk hc9 S T a3 a6 a7 H locs ls hw hP hF hP2 hF2 hS hl
        unfold wp_L_law_262 at hw
        refine lv_iload hx hb dL_law_262 (lv_at hl 4 rfl) ?_
        refine lv_bipush (v := 6) hx hb dL_law_264 (by decide) ?_
        refine lv_irem hx hb dL_law_266 (by decide) ?_
        refine lv_iconst (v := 3) hx hb dL_law_267 (by decide) ?_
        refine lv_icmp_ne (x := (a6 - a6 / 6 * 6)) (y := 3) (tgt := 278) hx hb dL_law_268 (by decide) (fun c268 => ?_) (fun c268 => ?_)
        · rw [if_neg c268] at hw
          refine W.widen (k := 734 + (kk + 0)) (n := 2998288 + 6 * (kk + 0)) (by omega) (by omega) ?_
          exact j278 (kk + 0) (by omega) S T a3 a6 a7 _ _ _ hw hP hF hP2 hF2 hS (lv_sub hl [0, 1, 2, 3, 4, 5] rfl)
        · rw [if_pos c268] at hw
          refine lv_aload_n hx hb dL_law_271 rfl (lv_at hl 1 rfl) ?_
          refine q_call1 (va_runS (As := [.ref (b0 + 0)]) (rest := []) ⟨hx, hb, hml, hown, hts⟩ (c_L_isNeededSo l hlt D cy b0 S _ hw) (va_cwS 1 hts gL_law_L_isNeededSo rfl rfl rfl (by decide +kernel) ⟨(Nat.le_of_ble_eq_true rfl), (Nat.le_of_ble_eq_true rfl)⟩) (q_pS1 hW AA_o hP hF hS [.ref (b0 + 0)]) rfl rfl hl.1 rfl (lv_room (Nat.le_of_ble_eq_true rfl)) dL_law_272 ⟨by show _ ≤ 681966; omega, by show _ ≤ 7055726; omega⟩) hS AA_o (fun v272 S272 t272 H locs hh hp hB hk9 hS => ?_)
          obtain ⟨r272, rfl, hw⟩ := hp
          have hP : HP D cy b0 NALL S272 H := by rw [← hh]; exact hB.1
          have hF := hB.2
          have hP2 := hP2.far hk9 far_p
          try dsimp only at hw
          refine W.eq (g2 := F0 m 275 ls [.int (b2i r272)]) rfl ?_
          refine lv_if_eq (x := b2i r272) (tgt := 317) hx hb dL_law_275 (by decide) (fun c275 => ?_) (fun c275 => ?_)
          · have c275 := b2i_z c275
            rw [if_neg c275] at hw
            refine W.widen (k := 734 + (kk + 8236)) (n := 2998288 + 6 * (kk + 8236)) (by omega) (by omega) ?_
            exact j317 (kk + 8236) (by omega) S272 T a3 a6 a7 _ _ _ hw hP hF hP2 hF2 hS (lv_sub hl [0, 1, 2, 3, 4, 5] rfl)
          · have c275 := b2i_n c275
            rw [if_pos c275] at hw
            refine W.widen (k := 734 + (kk + 8236)) (n := 2998288 + 6 * (kk + 8236)) (by omega) (by omega) ?_
            exact j278 (kk + 8236) (by omega) S272 T a3 a6 a7 _ _ _ hw hP hF hP2 hF2 hS (lv_sub hl [0, 1, 2, 3, 4, 5] rfl)
      have j247 : ∀ kk : Nat, kk + (18001 + 9144 * n183) ≤ 612650 → ∀ (S T : St) (a3 : Int32) (a6 : Int32) (a7 : Int32), ∀ (H : Heap) (locs : List Loc) (ls : Array Slot), wp_L_law_247 xs L (fun S T a3 a5 a6 => wp_L_law_183 xs L n183 S T a3 a5 a6) S T a3 a6 a7 → HP D cy b0 NALL S H → Fx S → HP D cy (b0 + 367) NALL T H → Fx T → va_S (AB b0) s.heap H locs → lv_has ls 10 [(0, .ref b), (1, .ref (b0 + 0)), (2, .ref (b0 + 367 + 0)), (3, .int a3), (6, .int a6), (7, .int a7)] → W p l e room_1 s m #[Value.ref b] below meth c H locs (734 + kk) (2998288 + 6 * kk) (lw_Z below #[Value.ref b] s) (F0 m 247 ls []) := by
        intro kk hc9 S T a3 a6 a7 H locs ls hw hP hF hP2 hF2 hS hl
        unfold wp_L_law_247 at hw
        refine lv_iload hx hb dL_law_247 (lv_at hl 4 rfl) ?_
        refine lv_iconst (v := 4) hx hb dL_law_249 (by decide) ?_
        refine lv_irem hx hb dL_law_250 (by decide) ?_
        refine lv_iconst (v := 1) hx hb dL_law_251 (by decide) ?_
        refine lv_icmp_ne (x := (a6 - a6 / 4 * 4)) (y := 1) (tgt := 262) hx hb dL_law_252 (by decide) (fun c252 => ?_) (fun c252 => ?_)
        · rw [if_neg c252] at hw
          refine W.widen (k := 734 + (kk + 0)) (n := 2998288 + 6 * (kk + 0)) (by omega) (by omega) ?_
          exact j262 (kk + 0) (by omega) S T a3 a6 a7 _ _ _ hw hP hF hP2 hF2 hS (lv_sub hl [0, 1, 2, 3, 4, 5] rfl)
        · rw [if_pos c252] at hw
          refine lv_aload_n hx hb dL_law_255 rfl (lv_at hl 1 rfl) ?_
          refine q_call1 (va_runS (As := [.ref (b0 + 0)]) (rest := []) ⟨hx, hb, hml, hown, hts⟩ (c_L_areLightsSo l hlt D cy b0 S _ hw) (va_cwS 1 hts gL_law_L_areLightsSo rfl rfl rfl (by decide +kernel) ⟨(Nat.le_of_ble_eq_true rfl), (Nat.le_of_ble_eq_true rfl)⟩) (q_pS1 hW AA_o hP hF hS [.ref (b0 + 0)]) rfl rfl hl.1 rfl (lv_room (Nat.le_of_ble_eq_true rfl)) dL_law_256 ⟨by show _ ≤ 681966; omega, by show _ ≤ 7055726; omega⟩) hS AA_o (fun v256 S256 t256 H locs hh hp hB hk9 hS => ?_)
          obtain ⟨r256, rfl, hw⟩ := hp
          have hP : HP D cy b0 NALL S256 H := by rw [← hh]; exact hB.1
          have hF := hB.2
          have hP2 := hP2.far hk9 far_p
          try dsimp only at hw
          refine W.eq (g2 := F0 m 259 ls [.int (b2i r256)]) rfl ?_
          refine lv_if_eq (x := b2i r256) (tgt := 317) hx hb dL_law_259 (by decide) (fun c259 => ?_) (fun c259 => ?_)
          · have c259 := b2i_z c259
            rw [if_neg c259] at hw
            refine W.widen (k := 734 + (kk + 624)) (n := 2998288 + 6 * (kk + 624)) (by omega) (by omega) ?_
            exact j317 (kk + 624) (by omega) S256 T a3 a6 a7 _ _ _ hw hP hF hP2 hF2 hS (lv_sub hl [0, 1, 2, 3, 4, 5] rfl)
          · have c259 := b2i_n c259
            rw [if_pos c259] at hw
            refine W.widen (k := 734 + (kk + 624)) (n := 2998288 + 6 * (kk + 624)) (by omega) (by omega) ?_
            exact j262 (kk + 624) (by omega) S256 T a3 a6 a7 _ _ _ hw hP hF hP2 hF2 hS (lv_sub hl [0, 1, 2, 3, 4, 5] rfl)
      have j231 : ∀ kk : Nat, kk + (18272 + 9144 * n183) ≤ 612650 → ∀ (S T : St) (a3 : Int32) (a6 : Int32) (a7 : Int32), ∀ (H : Heap) (locs : List Loc) (ls : Array Slot), wp_L_law_231 xs L (fun S T a3 a5 a6 => wp_L_law_183 xs L n183 S T a3 a5 a6) S T a3 a6 a7 → HP D cy b0 NALL S H → Fx S → HP D cy (b0 + 367) NALL T H → Fx T → va_S (AB b0) s.heap H locs → lv_has ls 10 [(0, .ref b), (1, .ref (b0 + 0)), (2, .ref (b0 + 367 + 0)), (3, .int a3), (6, .int a6), (7, .int a7)] → W p l e room_1 s m #[Value.ref b] below meth c H locs (734 + kk) (2998288 + 6 * kk) (lw_Z below #[Value.ref b] s) (F0 m 231 ls []) := by
        intro kk hc9 S T a3 a6 a7 H locs ls hw hP hF hP2 hF2 hS hl
        unfold wp_L_law_231 at hw
        refine lv_iload hx hb dL_law_231 (lv_at hl 4 rfl) ?_
        refine lv_iconst (v := 3) hx hb dL_law_233 (by decide) ?_
        refine lv_irem hx hb dL_law_234 (by decide) ?_
        refine lv_iconst (v := 2) hx hb dL_law_235 (by decide) ?_
        refine lv_icmp_ne (x := (a6 - a6 / 3 * 3)) (y := 2) (tgt := 247) hx hb dL_law_236 (by decide) (fun c236 => ?_) (fun c236 => ?_)
        · rw [if_neg c236] at hw
          refine W.widen (k := 734 + (kk + 0)) (n := 2998288 + 6 * (kk + 0)) (by omega) (by omega) ?_
          exact j247 (kk + 0) (by omega) S T a3 a6 a7 _ _ _ hw hP hF hP2 hF2 hS (lv_sub hl [0, 1, 2, 3, 4, 5] rfl)
        · rw [if_pos c236] at hw
          refine lv_aload_n hx hb dL_law_239 rfl (lv_at hl 1 rfl) ?_
          refine lv_aload_n hx hb dL_law_240 rfl (lv_at hl 2 rfl) ?_
          refine q_call2 (va_runS (As := [.ref (b0 + 0), .ref (b0 + 367 + 0)]) (rest := []) ⟨hx, hb, hml, hown, hts⟩ (c_L_areAlike l hlt D cy b0 S T  _ hw) (va_cwS 2 hts gL_law_L_areAlike rfl rfl rfl (by decide +kernel) ⟨(Nat.le_of_ble_eq_true rfl), (Nat.le_of_ble_eq_true rfl)⟩) (q_pS2 hW hP hF hP2 hF2 hS [.ref (b0 + 0), .ref (b0 + 367 + 0)]) rfl rfl hl.1 rfl (lv_room (Nat.le_of_ble_eq_true rfl)) dL_law_241 ⟨by show _ ≤ 681966; omega, by show _ ≤ 7055726; omega⟩) hS (fun v241 S241 T241 t241 H locs hh hp hB hS => ?_)
          obtain ⟨r241, rfl, hw⟩ := hp
          obtain ⟨hP, hF, hP2, hF2⟩ := hB
          rw [hh] at hP hP2
          try dsimp only at hw
          refine W.eq (g2 := F0 m 244 ls [.int (b2i r241)]) rfl ?_
          refine lv_if_eq (x := b2i r241) (tgt := 317) hx hb dL_law_244 (by decide) (fun c244 => ?_) (fun c244 => ?_)
          · have c244 := b2i_z c244
            rw [if_neg c244] at hw
            refine W.widen (k := 734 + (kk + 271)) (n := 2998288 + 6 * (kk + 271)) (by omega) (by omega) ?_
            exact j317 (kk + 271) (by omega) S241 T241 a3 a6 a7 _ _ _ hw hP hF hP2 hF2 hS (lv_sub hl [0, 1, 2, 3, 4, 5] rfl)
          · have c244 := b2i_n c244
            rw [if_pos c244] at hw
            refine W.widen (k := 734 + (kk + 271)) (n := 2998288 + 6 * (kk + 271)) (by omega) (by omega) ?_
            exact j247 (kk + 271) (by omega) S241 T241 a3 a6 a7 _ _ _ hw hP hF hP2 hF2 hS (lv_sub hl [0, 1, 2, 3, 4, 5] rfl)
      intro kk hc9 S T a3 a5 a6 H locs ls hw hP hF hP2 hF2 hS hl
      rw [wp_L_law_183] at hw
      refine lv_iload hx hb dL_law_183 (lv_at hl 5 rfl) ?_
      refine lv_bipush (v := 72) hx hb dL_law_185 (by decide) ?_
      refine lv_icmp_ge (x := a6) (y := 72) (tgt := 374) hx hb dL_law_187 (by decide) (fun c187 => ?_) (fun c187 => ?_)
      · rw [if_pos c187] at hw
        refine W.widen (k := 734 + (kk + 0)) (n := 2998288 + 6 * (kk + 0)) (by omega) (by omega) ?_
        exact j374 (kk + 0) (by omega) S T a5 _ _ _ hw hP hF hP2 hF2 hS (lv_sub hl [1, 2, 4] rfl)
      · rw [if_neg c187] at hw
        refine lv_iload hx hb dL_law_190 (lv_at hl 4 rfl) ?_
        refine lv_if_eq (x := b2i a5) (tgt := 374) hx hb dL_law_192 (by decide) (fun c192 => ?_) (fun c192 => ?_)
        · have c192 := b2i_z c192
          rw [if_neg c192] at hw
          refine W.widen (k := 734 + (kk + 0)) (n := 2998288 + 6 * (kk + 0)) (by omega) (by omega) ?_
          exact j374 (kk + 0) (by omega) S T a5 _ _ _ hw hP hF hP2 hF2 hS (lv_sub hl [1, 2, 4] rfl)
        · have c192 := b2i_n c192
          rw [if_pos c192] at hw
          refine lv_aload_n hx hb dL_law_195 rfl (lv_at hl 0 rfl) ?_
          refine lv_iload hx hb dL_law_196 (lv_at hl 5 rfl) ?_
          refine q_call1 (va_runS (As := [.ref b, .int a6]) (rest := []) ⟨hx, hb, hml, hown, hts⟩ (c_L_cell l hlt D cy b0 S b L xs a6 _ hw) (va_cwS 2 hts gL_law_L_cell rfl rfl rfl (by decide +kernel) ⟨(Nat.le_of_ble_eq_true rfl), (Nat.le_of_ble_eq_true rfl)⟩) (q_pSX hW hP hF hS hX hbl hbA [.ref b, .int a6]) rfl rfl hl.1 rfl (lv_room (Nat.le_of_ble_eq_true rfl)) dL_law_198 ⟨by show _ ≤ 681966; omega, by show _ ≤ 7055726; omega⟩) hS AA_o (fun v198 S198 t198 H locs hh hp hB hk9 hS => ?_)
          obtain ⟨r198, rfl, hw⟩ := hp
          have hP : HP D cy b0 NALL S198 H := by rw [← hh]; exact hB.1
          have hF := hB.2
          have hP2 := hP2.far hk9 far_p
          try dsimp only at hw
          refine W.eq (g2 := F0 m 201 ls [.int r198]) rfl ?_
          refine lv_istore (lv' := [(7, .int r198), (0, .ref b), (1, .ref (b0 + 0)), (2, .ref (b0 + 367 + 0)), (3, .int a3), (5, .int (b2i a5)), (6, .int a6)]) hx hb dL_law_201 hl (by decide) rfl (fun ls hl => ?_)
          refine lv_aload_n hx hb dL_law_203 rfl (lv_at hl 2 rfl) ?_
          refine lv_iload_n hx hb dL_law_204 rfl (lv_at hl 4 rfl) ?_
          refine lv_iload hx hb dL_law_205 (lv_at hl 0 rfl) ?_
          refine q_call1 (va_runS (As := [.ref (b0 + 0), .int a3, .int r198]) (rest := []) ⟨hx, hb, hml, hown, hts⟩ (c_L_act l hlt D cy b0 S198 a3 r198 _ hw) (va_cwS 3 hts gL_law_L_act rfl rfl rfl (by decide +kernel) ⟨(Nat.le_of_ble_eq_true rfl), (Nat.le_of_ble_eq_true rfl)⟩) (q_pS1 hW AA_o hP hF hS [.ref (b0 + 0), .int a3, .int r198]) rfl rfl hl.1 rfl (lv_room (Nat.le_of_ble_eq_true rfl)) dL_law_207 ⟨by show _ ≤ 681966; omega, by show _ ≤ 7055726; omega⟩) hS AA_o (fun v207 S207 t207 H locs hh hp hB hk9 hS => ?_)
          obtain ⟨r207, rfl, hw⟩ := hp
          have hP : HP D cy b0 NALL S207 H := by rw [← hh]; exact hB.1
          have hF := hB.2
          have hP2 := hP2.far hk9 far_p
          try dsimp only at hw
          refine W.eq (g2 := F0 m 210 ls [.int r207]) rfl ?_
          refine lv_istore (lv' := [(8, .int r207), (7, .int r198), (0, .ref b), (1, .ref (b0 + 0)), (2, .ref (b0 + 367 + 0)), (3, .int a3), (5, .int (b2i a5)), (6, .int a6)]) hx hb dL_law_210 hl (by decide) rfl (fun ls hl => ?_)
          refine lv_iload hx hb dL_law_212 (lv_at hl 0 rfl) ?_
          refine lv_ldc (v := (-99999)) hx hb hown (hts (.constant RL 16 (-99999)) (by decide +kernel)) dL_law_214 ?_
          refine lv_icmp_eq (x := r207) (y := (-99999)) (tgt := 231) hx hb dL_law_216 (by decide) (fun c216 => ?_) (fun c216 => ?_)
          · rw [if_pos c216] at hw
            refine W.widen (k := 734 + (kk + 2)) (n := 2998288 + 6 * (kk + 2)) (by omega) (by omega) ?_
            exact j231 (kk + 2) (by omega) S207 T a3 a6 r198 _ _ _ hw hP hF hP2 hF2 hS (lv_sub hl [2, 3, 4, 5, 7, 1] rfl)
          · rw [if_neg c216] at hw
            refine lv_aload_n hx hb dL_law_219 rfl (lv_at hl 4 rfl) ?_
            refine lv_iload_n hx hb dL_law_220 rfl (lv_at hl 5 rfl) ?_
            refine lv_iload hx hb dL_law_221 (lv_at hl 1 rfl) ?_
            refine q_call1 (va_runS (As := [.ref (b0 + 367 + 0), .int a3, .int r198]) (rest := []) ⟨hx, hb, hml, hown, hts⟩ (c_L_act l hlt D cy (b0 + 367) T a3 r198 _ hw) (va_cwS 3 hts gL_law_L_act rfl rfl rfl (by decide +kernel) ⟨(Nat.le_of_ble_eq_true rfl), (Nat.le_of_ble_eq_true rfl)⟩) (q_pS1 hW AA_p hP2 hF2 hS [.ref (b0 + 367 + 0), .int a3, .int r198]) rfl rfl hl.1 rfl (lv_room (Nat.le_of_ble_eq_true rfl)) dL_law_223 ⟨by show _ ≤ 681966; omega, by show _ ≤ 7055726; omega⟩) hS AA_p (fun v223 T223 t223 H locs hh hp hB hk9 hS => ?_)
            obtain ⟨r223, rfl, hw⟩ := hp
            have hP2 : HP D cy (b0 + 367) NALL T223 H := by rw [← hh]; exact hB.1
            have hF2 := hB.2
            have hP := hP.far hk9 far_o
            try dsimp only at hw
            refine W.eq (g2 := F0 m 226 ls [.int r223]) rfl ?_
            refine lv_iload hx hb dL_law_226 (lv_at hl 0 rfl) ?_
            refine lv_icmp_ne (x := r223) (y := r207) (tgt := 317) hx hb dL_law_228 (by decide) (fun c228 => ?_) (fun c228 => ?_)
            · rw [if_neg c228] at hw
              refine W.widen (k := 734 + (kk + 4)) (n := 2998288 + 6 * (kk + 4)) (by omega) (by omega) ?_
              exact j317 (kk + 4) (by omega) S207 T223 a3 a6 r198 _ _ _ hw hP hF hP2 hF2 hS (lv_sub hl [2, 3, 4, 5, 7, 1] rfl)
            · rw [if_pos c228] at hw
              refine W.widen (k := 734 + (kk + 4)) (n := 2998288 + 6 * (kk + 4)) (by omega) (by omega) ?_
              exact j231 (kk + 4) (by omega) S207 T223 a3 a6 r198 _ _ _ hw hP hF hP2 hF2 hS (lv_sub hl [2, 3, 4, 5, 7, 1] rfl)
  have j179 : ∀ kk : Nat, kk + (612636) ≤ 612650 → ∀ (S T : St) (a3 : Int32) (a5 : Bool), ∀ (H : Heap) (locs : List Loc) (ls : Array Slot), wp_L_law_179 xs L S T a3 a5 → HP D cy b0 NALL S H → Fx S → HP D cy (b0 + 367) NALL T H → Fx T → va_S (AB b0) s.heap H locs → lv_has ls 10 [(0, .ref b), (1, .ref (b0 + 0)), (2, .ref (b0 + 367 + 0)), (3, .int a3), (5, .int (b2i a5))] → W p l e room_1 s m #[Value.ref b] below meth c H locs (734 + kk) (2998288 + 6 * kk) (lw_Z below #[Value.ref b] s) (F0 m 179 ls []) := by
    intro kk hc9 S T a3 a5 H locs ls hw hP hF hP2 hF2 hS hl
    unfold wp_L_law_179 at hw
    refine lv_bipush (v := 7) hx hb dL_law_179 (by decide) ?_
    refine lv_istore (lv' := [(6, .int 7), (0, .ref b), (1, .ref (b0 + 0)), (2, .ref (b0 + 367 + 0)), (3, .int a3), (5, .int (b2i a5))]) hx hb dL_law_181 hl (by decide) rfl (fun ls hl => ?_)
    obtain ⟨n183, hn183, hw⟩ := hw
    refine W.widen (k := 734 + (kk + 0)) (n := 2998288 + 6 * (kk + 0)) (by omega) (by omega) ?_
    exact j183 n183 (kk + 0) (by omega) S T a3 a5 7 _ _ _ hw hP hF hP2 hF2 hS (lv_sub hl [1, 2, 3, 4, 5, 0] rfl)
  have j65 : ∀ (n65 : Nat), ∀ kk : Nat, kk + (612636 + 2 * n65) ≤ 612650 → ∀ (S T : St) (a3 : Int32) (a5 : Bool) (a6 : Int32), ∀ (H : Heap) (locs : List Loc) (ls : Array Slot), wp_L_law_65 xs L n65 S T a3 a5 a6 → HP D cy b0 NALL S H → Fx S → HP D cy (b0 + 367) NALL T H → Fx T → va_S (AB b0) s.heap H locs → lv_has ls 10 [(0, .ref b), (1, .ref (b0 + 0)), (2, .ref (b0 + 367 + 0)), (3, .int a3), (5, .int (b2i a5)), (6, .int a6)] → W p l e room_1 s m #[Value.ref b] below meth c H locs (734 + kk) (2998288 + 6 * kk) (lw_Z below #[Value.ref b] s) (F0 m 65 ls []) := by
    intro n65
    induction n65 with
    | zero => intro kk hc9 S T a3 a5 a6 H locs ls hw _ _ _ _ _ _; exact False.elim hw
    | succ n65 ih65 =>
      have j171 : ∀ kk : Nat, kk + (612636 + 2 * n65) ≤ 612650 → ∀ (S T : St) (a3 : Int32) (a6 : Int32) (t0 : Bool), ∀ (H : Heap) (locs : List Loc) (ls : Array Slot), wp_L_law_171 xs L (fun S T a3 a5 a6 => wp_L_law_65 xs L n65 S T a3 a5 a6) S T a3 a6 t0 → HP D cy b0 NALL S H → Fx S → HP D cy (b0 + 367) NALL T H → Fx T → va_S (AB b0) s.heap H locs → lv_has ls 10 [(0, .ref b), (1, .ref (b0 + 0)), (2, .ref (b0 + 367 + 0)), (3, .int a3), (6, .int a6)] → W p l e room_1 s m #[Value.ref b] below meth c H locs (734 + kk) (2998288 + 6 * kk) (lw_Z below #[Value.ref b] s) (F0 m 171 ls [.int (b2i t0)]) := by
        intro kk hc9 S T a3 a6 t0 H locs ls hw hP hF hP2 hF2 hS hl
        unfold wp_L_law_171 at hw
        refine lv_istore (lv' := [(5, .int (b2i t0)), (0, .ref b), (1, .ref (b0 + 0)), (2, .ref (b0 + 367 + 0)), (3, .int a3), (6, .int a6)]) hx hb dL_law_171 hl (by decide) rfl (fun ls hl => ?_)
        obtain ⟨y173, e173⟩ : ∃ z : Int32, z = a6 + 1 := ⟨_, rfl⟩
        have hw := hw y173 e173
        refine lv_iinc (v := y173) (lv' := [(6, .int y173), (5, .int (b2i t0)), (0, .ref b), (1, .ref (b0 + 0)), (2, .ref (b0 + 367 + 0)), (3, .int a3)]) hx hb dL_law_173 hl (k := 5) rfl (by rw [e173]; rfl) (by decide) rfl (fun ls hl => ?_)
        refine lv_goto (tgt := 65) hx hb dL_law_176 (by decide) ?_
        refine W.widen (k := 734 + (kk + 0)) (n := 2998288 + 6 * (kk + 0)) (by omega) (by omega) ?_
        exact ih65 (kk + 0) (by omega) S T a3 t0 y173 _ _ _ hw hP hF hP2 hF2 hS (lv_sub hl [2, 3, 4, 5, 1, 0] rfl)
      have j170 : ∀ kk : Nat, kk + (612636 + 2 * n65) ≤ 612650 → ∀ (S T : St) (a3 : Int32) (a6 : Int32), ∀ (H : Heap) (locs : List Loc) (ls : Array Slot), wp_L_law_170 xs L (fun S T a3 a5 a6 => wp_L_law_65 xs L n65 S T a3 a5 a6) S T a3 a6 → HP D cy b0 NALL S H → Fx S → HP D cy (b0 + 367) NALL T H → Fx T → va_S (AB b0) s.heap H locs → lv_has ls 10 [(0, .ref b), (1, .ref (b0 + 0)), (2, .ref (b0 + 367 + 0)), (3, .int a3), (6, .int a6)] → W p l e room_1 s m #[Value.ref b] below meth c H locs (734 + kk) (2998288 + 6 * kk) (lw_Z below #[Value.ref b] s) (F0 m 170 ls []) := by
        intro kk hc9 S T a3 a6 H locs ls hw hP hF hP2 hF2 hS hl
        unfold wp_L_law_170 at hw
        refine lv_iconst (v := 0) hx hb dL_law_170 (by decide) ?_
        refine W.widen (k := 734 + (kk + 0)) (n := 2998288 + 6 * (kk + 0)) (by omega) (by omega) ?_
        exact j171 (kk + 0) (by omega) S T a3 a6 false _ _ _ hw hP hF hP2 hF2 hS (lv_sub hl [0, 1, 2, 3, 4] rfl)
      intro kk hc9 S T a3 a5 a6 H locs ls hw hP hF hP2 hF2 hS hl
      rw [wp_L_law_65] at hw
      refine lv_iload hx hb dL_law_65 (lv_at hl 5 rfl) ?_
      refine lv_bipush (v := 7) hx hb dL_law_67 (by decide) ?_
      refine lv_icmp_ge (x := a6) (y := 7) (tgt := 179) hx hb dL_law_69 (by decide) (fun c69 => ?_) (fun c69 => ?_)
      · rw [if_pos c69] at hw
        refine W.widen (k := 734 + (kk + 0)) (n := 2998288 + 6 * (kk + 0)) (by omega) (by omega) ?_
        exact j179 (kk + 0) (by omega) S T a3 a5 _ _ _ hw hP hF hP2 hF2 hS (lv_sub hl [0, 1, 2, 3, 4] rfl)
      · rw [if_neg c69] at hw
        refine lv_aload_n hx hb dL_law_72 rfl (lv_at hl 0 rfl) ?_
        refine lv_iload hx hb dL_law_73 (lv_at hl 5 rfl) ?_
        refine q_call1 (va_runS (As := [.ref b, .int a6]) (rest := []) ⟨hx, hb, hml, hown, hts⟩ (c_L_cell l hlt D cy b0 S b L xs a6 _ hw) (va_cwS 2 hts gL_law_L_cell rfl rfl rfl (by decide +kernel) ⟨(Nat.le_of_ble_eq_true rfl), (Nat.le_of_ble_eq_true rfl)⟩) (q_pSX hW hP hF hS hX hbl hbA [.ref b, .int a6]) rfl rfl hl.1 rfl (lv_room (Nat.le_of_ble_eq_true rfl)) dL_law_75 ⟨by show _ ≤ 681966; omega, by show _ ≤ 7055726; omega⟩) hS AA_o (fun v75 S75 t75 H locs hh hp hB hk9 hS => ?_)
        obtain ⟨r75, rfl, hw⟩ := hp
        have hP : HP D cy b0 NALL S75 H := by rw [← hh]; exact hB.1
        have hF := hB.2
        have hP2 := hP2.far hk9 far_p
        try dsimp only at hw
        refine W.eq (g2 := F0 m 78 ls [.int r75]) rfl ?_
        refine lv_istore (lv' := [(7, .int r75), (0, .ref b), (1, .ref (b0 + 0)), (2, .ref (b0 + 367 + 0)), (3, .int a3), (5, .int (b2i a5)), (6, .int a6)]) hx hb dL_law_78 hl (by decide) rfl (fun ls hl => ?_)
        refine lv_iload hx hb dL_law_80 (lv_at hl 0 rfl) ?_
        refine lv_iload_n hx hb dL_law_82 rfl (lv_at hl 4 rfl) ?_
        refine q_call1 (va_runS (As := [.int r75, .int a3]) (rest := []) ⟨hx, hb, hml, hown, hts⟩ (c_L_low l hlt D cy b0 S75 r75 a3 _ hw) (va_cwS 2 hts gL_law_L_low rfl rfl rfl (by decide +kernel) ⟨(Nat.le_of_ble_eq_true rfl), (Nat.le_of_ble_eq_true rfl)⟩) (q_pS1 hW AA_o hP hF hS [.int r75, .int a3]) rfl rfl hl.1 rfl (lv_room (Nat.le_of_ble_eq_true rfl)) dL_law_83 ⟨by show _ ≤ 681966; omega, by show _ ≤ 7055726; omega⟩) hS AA_o (fun v83 S83 t83 H locs hh hp hB hk9 hS => ?_)
        obtain ⟨r83, rfl, hw⟩ := hp
        have hP : HP D cy b0 NALL S83 H := by rw [← hh]; exact hB.1
        have hF := hB.2
        have hP2 := hP2.far hk9 far_p
        try dsimp only at hw
        refine W.eq (g2 := F0 m 86 ls [.int r83]) rfl ?_
        refine lv_istore (lv' := [(8, .int r83), (7, .int r75), (0, .ref b), (1, .ref (b0 + 0)), (2, .ref (b0 + 367 + 0)), (3, .int a3), (5, .int (b2i a5)), (6, .int a6)]) hx hb dL_law_86 hl (by decide) rfl (fun ls hl => ?_)
        refine lv_iload hx hb dL_law_88 (lv_at hl 0 rfl) ?_
        refine lv_iconst (v := 1) hx hb dL_law_90 (by decide) ?_
        refine lv_iadd hx hb dL_law_91 ?_
        refine lv_iload hx hb dL_law_92 (lv_at hl 1 rfl) ?_
        refine lv_iconst (v := 3) hx hb dL_law_94 (by decide) ?_
        refine lv_ishr hx hb dL_law_95 ?_
        refine lv_iload_n hx hb dL_law_96 rfl (lv_at hl 5 rfl) ?_
        refine lv_iconst (v := 1) hx hb dL_law_97 (by decide) ?_
        refine lv_isub hx hb dL_law_98 ?_
        refine q_call1 (va_runS (As := [.int (r75 >>> (3 &&& 31)), .int (a3 - 1)]) (rest := [.int (r83 + 1)]) ⟨hx, hb, hml, hown, hts⟩ (c_L_low l hlt D cy b0 S83 (r75 >>> (3 &&& 31)) (a3 - 1) _ hw) (va_cwS 2 hts gL_law_L_low rfl rfl rfl (by decide +kernel) ⟨(Nat.le_of_ble_eq_true rfl), (Nat.le_of_ble_eq_true rfl)⟩) (q_pS1 hW AA_o hP hF hS [.int (r75 >>> (3 &&& 31)), .int (a3 - 1)]) rfl rfl hl.1 rfl (lv_room (Nat.le_of_ble_eq_true rfl)) dL_law_99 ⟨by show _ ≤ 681966; omega, by show _ ≤ 7055726; omega⟩) hS AA_o (fun v99 S99 t99 H locs hh hp hB hk9 hS => ?_)
        obtain ⟨r99, rfl, hw⟩ := hp
        have hP : HP D cy b0 NALL S99 H := by rw [← hh]; exact hB.1
        have hF := hB.2
        have hP2 := hP2.far hk9 far_p
        try dsimp only at hw
        refine W.eq (g2 := F0 m 102 ls [.int r99, .int (r83 + 1)]) rfl ?_
        refine lv_iadd hx hb dL_law_102 ?_
        refine lv_iload_n hx hb dL_law_103 rfl (lv_at hl 5 rfl) ?_
        obtain ⟨h104, hw⟩ := hw
        refine lv_irem hx hb dL_law_104 h104 ?_
        refine lv_topi (fun y105 e105 => ?_)
        have hw := hw y105 e105
        refine lv_istore (lv' := [(9, .int y105), (8, .int r83), (7, .int r75), (0, .ref b), (1, .ref (b0 + 0)), (2, .ref (b0 + 367 + 0)), (3, .int a3), (5, .int (b2i a5)), (6, .int a6)]) hx hb dL_law_105 hl (by decide) rfl (fun ls hl => ?_)
        refine lv_iload hx hb dL_law_107 (lv_at hl 7 rfl) ?_
        refine lv_if_eq (x := b2i a5) (tgt := 170) hx hb dL_law_109 (by decide) (fun c109 => ?_) (fun c109 => ?_)
        · have c109 := b2i_z c109
          rw [if_neg c109] at hw
          refine W.widen (k := 734 + (kk + 0)) (n := 2998288 + 6 * (kk + 0)) (by omega) (by omega) ?_
          exact j170 (kk + 0) (by omega) S99 T a3 a6 _ _ _ hw hP hF hP2 hF2 hS (lv_sub hl [3, 4, 5, 6, 8] rfl)
        · have c109 := b2i_n c109
          rw [if_pos c109] at hw
          refine lv_aload_n hx hb dL_law_112 rfl (lv_at hl 4 rfl) ?_
          refine lv_iload hx hb dL_law_113 (lv_at hl 1 rfl) ?_
          refine lv_iload hx hb dL_law_115 (lv_at hl 0 rfl) ?_
          refine lv_iconst (v := 1) hx hb dL_law_117 (by decide) ?_
          refine lv_iload hx hb dL_law_118 (lv_at hl 2 rfl) ?_
          refine lv_bipush (v := 6) hx hb dL_law_120 (by decide) ?_
          refine lv_ishr hx hb dL_law_122 ?_
          refine lv_bipush (v := 9) hx hb dL_law_123 (by decide) ?_
          refine q_call1 (va_runS (As := [.int (r75 >>> (6 &&& 31)), .int 9]) (rest := [.int 1, .int y105, .int r83, .ref (b0 + 0)]) ⟨hx, hb, hml, hown, hts⟩ (c_L_low l hlt D cy b0 S99 (r75 >>> (6 &&& 31)) 9 _ hw) (va_cwS 2 hts gL_law_L_low rfl rfl rfl (by decide +kernel) ⟨(Nat.le_of_ble_eq_true rfl), (Nat.le_of_ble_eq_true rfl)⟩) (q_pS1 hW AA_o hP hF hS [.int (r75 >>> (6 &&& 31)), .int 9]) rfl rfl hl.1 rfl (lv_room (Nat.le_of_ble_eq_true rfl)) dL_law_125 ⟨by show _ ≤ 681966; omega, by show _ ≤ 7055726; omega⟩) hS AA_o (fun v125 S125 t125 H locs hh hp hB hk9 hS => ?_)
          obtain ⟨r125, rfl, hw⟩ := hp
          have hP : HP D cy b0 NALL S125 H := by rw [← hh]; exact hB.1
          have hF := hB.2
          have hP2 := hP2.far hk9 far_p
          try dsimp only at hw
          refine W.eq (g2 := F0 m 128 ls [.int r125, .int 1, .int y105, .int r83, .ref (b0 + 0)]) rfl ?_
          refine lv_iadd hx hb dL_law_128 ?_
          refine q_call1 (vx_runSW (As := [.ref (b0 + 0), .int r83, .int y105, .int (1 + r125)]) (rest := []) ⟨hx, hb, hml, hown, hts⟩ (c_L_add l hlt D cy b0 S125 r83 y105 (1 + r125) _ hw) (vx_cwSW 4 hts gL_law_L_add rfl rfl rfl (by decide +kernel) ⟨(Nat.le_of_ble_eq_true rfl), (Nat.le_of_ble_eq_true rfl)⟩) (q_pS1 hW AA_o hP hF hS [.ref (b0 + 0), .int r83, .int y105, .int (1 + r125)]) rfl rfl hl.1 rfl (lv_room (Nat.le_of_ble_eq_true rfl)) dL_law_129 ⟨by show _ ≤ 681966; omega, by show _ ≤ 7055726; omega⟩) hS AA_o (fun v129 S129 t129 H locs hh hp hB hk9 hS => ?_)
          obtain ⟨r129, rfl, hw⟩ := hp
          have hP : HP D cy b0 NALL S129 H := by rw [← hh]; exact hB.1
          have hF := hB.2
          have hP2 := hP2.far hk9 far_p
          try dsimp only at hw
          refine W.eq (g2 := F0 m 132 ls [.int r129]) rfl ?_
          refine lv_iload hx hb dL_law_132 (lv_at hl 8 rfl) ?_
          refine lv_iconst (v := 1) hx hb dL_law_134 (by decide) ?_
          refine lv_isub hx hb dL_law_135 ?_
          refine lv_icmp_ne (x := r129) (y := (a6 - 1)) (tgt := 170) hx hb dL_law_136 (by decide) (fun c136 => ?_) (fun c136 => ?_)
          · rw [if_neg c136] at hw
            refine W.widen (k := 734 + (kk + 1)) (n := 2998288 + 6 * (kk + 1)) (by omega) (by omega) ?_
            exact j170 (kk + 1) (by omega) S129 T a3 a6 _ _ _ hw hP hF hP2 hF2 hS (lv_sub hl [3, 4, 5, 6, 8] rfl)
          · rw [if_pos c136] at hw
            refine lv_aload_n hx hb dL_law_139 rfl (lv_at hl 5 rfl) ?_
            refine lv_iload hx hb dL_law_140 (lv_at hl 1 rfl) ?_
            refine lv_iload hx hb dL_law_142 (lv_at hl 0 rfl) ?_
            refine lv_iconst (v := 1) hx hb dL_law_144 (by decide) ?_
            refine lv_iload hx hb dL_law_145 (lv_at hl 2 rfl) ?_
            refine lv_bipush (v := 6) hx hb dL_law_147 (by decide) ?_
            refine lv_ishr hx hb dL_law_149 ?_
            refine lv_bipush (v := 9) hx hb dL_law_150 (by decide) ?_
            refine q_call1 (va_runS (As := [.int (r75 >>> (6 &&& 31)), .int 9]) (rest := [.int 1, .int y105, .int r83, .ref (b0 + 367 + 0)]) ⟨hx, hb, hml, hown, hts⟩ (c_L_low l hlt D cy b0 S129 (r75 >>> (6 &&& 31)) 9 _ hw) (va_cwS 2 hts gL_law_L_low rfl rfl rfl (by decide +kernel) ⟨(Nat.le_of_ble_eq_true rfl), (Nat.le_of_ble_eq_true rfl)⟩) (q_pS1 hW AA_o hP hF hS [.int (r75 >>> (6 &&& 31)), .int 9]) rfl rfl hl.1 rfl (lv_room (Nat.le_of_ble_eq_true rfl)) dL_law_152 ⟨by show _ ≤ 681966; omega, by show _ ≤ 7055726; omega⟩) hS AA_o (fun v152 S152 t152 H locs hh hp hB hk9 hS => ?_)
            obtain ⟨r152, rfl, hw⟩ := hp
            have hP : HP D cy b0 NALL S152 H := by rw [← hh]; exact hB.1
            have hF := hB.2
            have hP2 := hP2.far hk9 far_p
            try dsimp only at hw
            refine W.eq (g2 := F0 m 155 ls [.int r152, .int 1, .int y105, .int r83, .ref (b0 + 367 + 0)]) rfl ?_
            refine lv_iadd hx hb dL_law_155 ?_
            refine q_call1 (vx_runSW (As := [.ref (b0 + 367 + 0), .int r83, .int y105, .int (1 + r152)]) (rest := []) ⟨hx, hb, hml, hown, hts⟩ (c_L_add l hlt D cy (b0 + 367) T r83 y105 (1 + r152) _ hw) (vx_cwSW 4 hts gL_law_L_add rfl rfl rfl (by decide +kernel) ⟨(Nat.le_of_ble_eq_true rfl), (Nat.le_of_ble_eq_true rfl)⟩) (q_pS1 hW AA_p hP2 hF2 hS [.ref (b0 + 367 + 0), .int r83, .int y105, .int (1 + r152)]) rfl rfl hl.1 rfl (lv_room (Nat.le_of_ble_eq_true rfl)) dL_law_156 ⟨by show _ ≤ 681966; omega, by show _ ≤ 7055726; omega⟩) hS AA_p (fun v156 T156 t156 H locs hh hp hB hk9 hS => ?_)
            obtain ⟨r156, rfl, hw⟩ := hp
            have hP2 : HP D cy (b0 + 367) NALL T156 H := by rw [← hh]; exact hB.1
            have hF2 := hB.2
            have hP := hP.far hk9 far_o
            try dsimp only at hw
            refine W.eq (g2 := F0 m 159 ls [.int r156]) rfl ?_
            refine lv_iload hx hb dL_law_159 (lv_at hl 8 rfl) ?_
            refine lv_iconst (v := 1) hx hb dL_law_161 (by decide) ?_
            refine lv_isub hx hb dL_law_162 ?_
            refine lv_icmp_ne (x := r156) (y := (a6 - 1)) (tgt := 170) hx hb dL_law_163 (by decide) (fun c163 => ?_) (fun c163 => ?_)
            · rw [if_neg c163] at hw
              refine W.widen (k := 734 + (kk + 2)) (n := 2998288 + 6 * (kk + 2)) (by omega) (by omega) ?_
              exact j170 (kk + 2) (by omega) S152 T156 a3 a6 _ _ _ hw hP hF hP2 hF2 hS (lv_sub hl [3, 4, 5, 6, 8] rfl)
            · rw [if_pos c163] at hw
              refine lv_iconst (v := 1) hx hb dL_law_166 (by decide) ?_
              refine lv_goto (tgt := 171) hx hb dL_law_167 (by decide) ?_
              refine W.widen (k := 734 + (kk + 2)) (n := 2998288 + 6 * (kk + 2)) (by omega) (by omega) ?_
              exact j171 (kk + 2) (by omega) S152 T156 a3 a6 true _ _ _ hw hP hF hP2 hF2 hS (lv_sub hl [3, 4, 5, 6, 8] rfl)
  have j16 : ∀ kk : Nat, kk + (612650) ≤ 612650 → ∀ (S T : St) , ∀ (H : Heap) (locs : List Loc) (ls : Array Slot), wp_L_law_16 xs L S T → HP D cy b0 NALL S H → Fx S → HP D cy (b0 + 367) NALL T H → Fx T → va_S (AB b0) s.heap H locs → lv_has ls 10 [(0, .ref b), (1, .ref (b0 + 0)), (2, .ref (b0 + 367 + 0))] → W p l e room_1 s m #[Value.ref b] below meth c H locs (734 + kk) (2998288 + 6 * kk) (lw_Z below #[Value.ref b] s) (F0 m 16 ls []) := by
    intro kk hc9 S T H locs ls hw hP hF hP2 hF2 hS hl
    unfold wp_L_law_16 at hw
    refine lv_iconst (v := 3) hx hb dL_law_16 (by decide) ?_
    refine lv_aload_n hx hb dL_law_17 rfl (lv_at hl 0 rfl) ?_
    refine lv_iconst (v := 0) hx hb dL_law_18 (by decide) ?_
    refine q_call1 (va_runS (As := [.ref b, .int 0]) (rest := [.int 3]) ⟨hx, hb, hml, hown, hts⟩ (c_L_cell l hlt D cy b0 S b L xs 0 _ hw) (va_cwS 2 hts gL_law_L_cell rfl rfl rfl (by decide +kernel) ⟨(Nat.le_of_ble_eq_true rfl), (Nat.le_of_ble_eq_true rfl)⟩) (q_pSX hW hP hF hS hX hbl hbA [.ref b, .int 0]) rfl rfl hl.1 rfl (lv_room (Nat.le_of_ble_eq_true rfl)) dL_law_19 ⟨by show _ ≤ 681966; omega, by show _ ≤ 7055726; omega⟩) hS AA_o (fun v19 S19 t19 H locs hh hp hB hk9 hS => ?_)
    obtain ⟨r19, rfl, hw⟩ := hp
    have hP : HP D cy b0 NALL S19 H := by rw [← hh]; exact hB.1
    have hF := hB.2
    have hP2 := hP2.far hk9 far_p
    try dsimp only at hw
    refine W.eq (g2 := F0 m 22 ls [.int r19, .int 3]) rfl ?_
    refine lv_bipush (v := 6) hx hb dL_law_22 (by decide) ?_
    refine q_call1 (va_runS (As := [.int r19, .int 6]) (rest := [.int 3]) ⟨hx, hb, hml, hown, hts⟩ (c_L_low l hlt D cy b0 S19 r19 6 _ hw) (va_cwS 2 hts gL_law_L_low rfl rfl rfl (by decide +kernel) ⟨(Nat.le_of_ble_eq_true rfl), (Nat.le_of_ble_eq_true rfl)⟩) (q_pS1 hW AA_o hP hF hS [.int r19, .int 6]) rfl rfl hl.1 rfl (lv_room (Nat.le_of_ble_eq_true rfl)) dL_law_24 ⟨by show _ ≤ 681966; omega, by show _ ≤ 7055726; omega⟩) hS AA_o (fun v24 S24 t24 H locs hh hp hB hk9 hS => ?_)
    obtain ⟨r24, rfl, hw⟩ := hp
    have hP : HP D cy b0 NALL S24 H := by rw [← hh]; exact hB.1
    have hF := hB.2
    have hP2 := hP2.far hk9 far_p
    try dsimp only at hw
    refine W.eq (g2 := F0 m 27 ls [.int r24, .int 3]) rfl ?_
    refine lv_iadd hx hb dL_law_27 ?_
    refine lv_topi (fun y28 e28 => ?_)
    have hw := hw y28 e28
    refine lv_istore_n (lv' := [(3, .int y28), (0, .ref b), (1, .ref (b0 + 0)), (2, .ref (b0 + 367 + 0))]) hx hb dL_law_28 rfl hl (by decide) rfl (fun ls hl => ?_)
    refine lv_iconst (v := 1) hx hb dL_law_29 (by decide) ?_
    refine lv_aload_n hx hb dL_law_30 rfl (lv_at hl 1 rfl) ?_
    refine lv_iconst (v := 0) hx hb dL_law_31 (by decide) ?_
    refine q_call1 (va_runS (As := [.ref b, .int 0]) (rest := [.int 1]) ⟨hx, hb, hml, hown, hts⟩ (c_L_cell l hlt D cy b0 S24 b L xs 0 _ hw) (va_cwS 2 hts gL_law_L_cell rfl rfl rfl (by decide +kernel) ⟨(Nat.le_of_ble_eq_true rfl), (Nat.le_of_ble_eq_true rfl)⟩) (q_pSX hW hP hF hS hX hbl hbA [.ref b, .int 0]) rfl rfl hl.1 rfl (lv_room (Nat.le_of_ble_eq_true rfl)) dL_law_32 ⟨by show _ ≤ 681966; omega, by show _ ≤ 7055726; omega⟩) hS AA_o (fun v32 S32 t32 H locs hh hp hB hk9 hS => ?_)
    obtain ⟨r32, rfl, hw⟩ := hp
    have hP : HP D cy b0 NALL S32 H := by rw [← hh]; exact hB.1
    have hF := hB.2
    have hP2 := hP2.far hk9 far_p
    try dsimp only at hw
    refine W.eq (g2 := F0 m 35 ls [.int r32, .int 1]) rfl ?_
    refine lv_iconst (v := 4) hx hb dL_law_35 (by decide) ?_
    refine lv_ishr hx hb dL_law_36 ?_
    refine lv_bipush (v := 8) hx hb dL_law_37 (by decide) ?_
    refine q_call1 (va_runS (As := [.int (r32 >>> (4 &&& 31)), .int 8]) (rest := [.int 1]) ⟨hx, hb, hml, hown, hts⟩ (c_L_low l hlt D cy b0 S32 (r32 >>> (4 &&& 31)) 8 _ hw) (va_cwS 2 hts gL_law_L_low rfl rfl rfl (by decide +kernel) ⟨(Nat.le_of_ble_eq_true rfl), (Nat.le_of_ble_eq_true rfl)⟩) (q_pS1 hW AA_o hP hF hS [.int (r32 >>> (4 &&& 31)), .int 8]) rfl rfl hl.1 rfl (lv_room (Nat.le_of_ble_eq_true rfl)) dL_law_39 ⟨by show _ ≤ 681966; omega, by show _ ≤ 7055726; omega⟩) hS AA_o (fun v39 S39 t39 H locs hh hp hB hk9 hS => ?_)
    obtain ⟨r39, rfl, hw⟩ := hp
    have hP : HP D cy b0 NALL S39 H := by rw [← hh]; exact hB.1
    have hF := hB.2
    have hP2 := hP2.far hk9 far_p
    try dsimp only at hw
    refine W.eq (g2 := F0 m 42 ls [.int r39, .int 1]) rfl ?_
    refine lv_iadd hx hb dL_law_42 ?_
    refine lv_topi (fun y43 e43 => ?_)
    have hw := hw y43 e43
    refine lv_istore (lv' := [(4, .int y43), (3, .int y28), (0, .ref b), (1, .ref (b0 + 0)), (2, .ref (b0 + 367 + 0))]) hx hb dL_law_43 hl (by decide) rfl (fun ls hl => ?_)
    refine lv_aload_n hx hb dL_law_45 rfl (lv_at hl 3 rfl) ?_
    refine lv_iload_n hx hb dL_law_46 rfl (lv_at hl 1 rfl) ?_
    refine lv_iload hx hb dL_law_47 (lv_at hl 0 rfl) ?_
    refine q_callN (vx_runV (As := [.int y28, .int y43]) (rest := []) ⟨hx, hb, hml, hown, hts⟩ (c_X5_begin l hlt D cy b0 S39 y28 y43 _ _ hw) (cwV 2 hts gL_law_X5_begin rfl rfl rfl (by decide +kernel) ⟨(Nat.le_of_ble_eq_true rfl), (Nat.le_of_ble_eq_true rfl)⟩) (q_pV1 hW AA_o hP hF hS [.int y28, .int y43]) rfl rfl hl.1 rfl (lv_room (Nat.le_of_ble_eq_true rfl)) dL_law_49 ⟨by show _ ≤ 681966; omega, by show _ ≤ 7055726; omega⟩) hS AA_o (fun v49 S49 t49 H locs hh hp hB hk9 hS => ?_)
    obtain ⟨rfl, hw⟩ := hp
    have hP : HP D cy b0 NALL S49 H := by rw [← hh]; exact hB.1
    have hF := hB.2
    have hP2 := hP2.far hk9 far_p
    try dsimp only at hw
    refine W.eq (g2 := F0 m 52 ls []) rfl ?_
    refine lv_aload_n hx hb dL_law_52 rfl (lv_at hl 4 rfl) ?_
    refine lv_iload_n hx hb dL_law_53 rfl (lv_at hl 1 rfl) ?_
    refine lv_iload hx hb dL_law_54 (lv_at hl 0 rfl) ?_
    refine q_callN (vx_runV (As := [.int y28, .int y43]) (rest := []) ⟨hx, hb, hml, hown, hts⟩ (c_X5_begin l hlt D cy (b0 + 367) T y28 y43 _ _ hw) (cwV 2 hts gL_law_X5_begin rfl rfl rfl (by decide +kernel) ⟨(Nat.le_of_ble_eq_true rfl), (Nat.le_of_ble_eq_true rfl)⟩) (q_pV1 hW AA_p hP2 hF2 hS [.int y28, .int y43]) rfl rfl hl.1 rfl (lv_room (Nat.le_of_ble_eq_true rfl)) dL_law_56 ⟨by show _ ≤ 681966; omega, by show _ ≤ 7055726; omega⟩) hS AA_p (fun v56 T56 t56 H locs hh hp hB hk9 hS => ?_)
    obtain ⟨rfl, hw⟩ := hp
    have hP2 : HP D cy (b0 + 367) NALL T56 H := by rw [← hh]; exact hB.1
    have hF2 := hB.2
    have hP := hP.far hk9 far_o
    try dsimp only at hw
    refine W.eq (g2 := F0 m 59 ls []) rfl ?_
    refine lv_iconst (v := 1) hx hb dL_law_59 (by decide) ?_
    refine lv_istore (lv' := [(5, .int 1), (4, .int y43), (3, .int y28), (0, .ref b), (1, .ref (b0 + 0)), (2, .ref (b0 + 367 + 0))]) hx hb dL_law_60 hl (by decide) rfl (fun ls hl => ?_)
    refine lv_iconst (v := 1) hx hb dL_law_62 (by decide) ?_
    refine lv_istore (lv' := [(6, .int 1), (5, .int 1), (4, .int y43), (3, .int y28), (0, .ref b), (1, .ref (b0 + 0)), (2, .ref (b0 + 367 + 0))]) hx hb dL_law_63 hl (by decide) rfl (fun ls hl => ?_)
    obtain ⟨n65, hn65, hw⟩ := hw
    refine W.widen (k := 734 + (kk + 0)) (n := 2998288 + 6 * (kk + 0)) (by omega) (by omega) ?_
    exact j65 n65 (kk + 0) (by omega) S49 T56 y28 true 1 _ _ _ hw hP hF hP2 hF2 hS (lv_sub hl [4, 5, 6, 3, 1, 0] rfl)
  exact j16 0 (by omega) S T H locs ls hw hP hF hP2 hF2 hS hl
