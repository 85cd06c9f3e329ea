/-! at the law's entry: the world's constants -/
section START
variable {s : State} {b : Nat}
theorem st_k0 (hts : ∀ w ∈ lw_tbl, w.before #[Value.ref b] s = true) : ∃ (c : ClassId) (i : Nat → Nat), u_Kn s RX0 TX0 3 c i := u_known (C := RX0) (T := TX0) (N := 3) (n := 3) hts inX0 (hts (.instantiable RX0 3) (List.mem_append_right _ (List.mem_of_getElem? (i := 143) (by decide +kernel))))
theorem st_k1 (hts : ∀ w ∈ lw_tbl, w.before #[Value.ref b] s = true) : ∃ (c : ClassId) (i : Nat → Nat), u_Kn s RX1 TX1 7 c i := u_known (C := RX1) (T := TX1) (N := 7) (n := 7) hts inX1 (hts (.instantiable RX1 7) (List.mem_append_right _ (List.mem_of_getElem? (i := 160) (by decide +kernel))))
theorem st_k2 (hts : ∀ w ∈ lw_tbl, w.before #[Value.ref b] s = true) : ∃ (c : ClassId) (i : Nat → Nat), u_Kn s RX2 TX2 8 c i := u_known (C := RX2) (T := TX2) (N := 8) (n := 8) hts inX2 (hts (.instantiable RX2 8) (List.mem_append_right _ (List.mem_of_getElem? (i := 24) (by decide +kernel))))
theorem st_k3 (hts : ∀ w ∈ lw_tbl, w.before #[Value.ref b] s = true) : ∃ (c : ClassId) (i : Nat → Nat), u_Kn s RX3 TX3 5 c i := u_known (C := RX3) (T := TX3) (N := 5) (n := 5) hts inX3 (hts (.instantiable RX3 5) (List.mem_append_right _ (List.mem_of_getElem? (i := 70) (by decide +kernel))))
theorem st_k4 (hts : ∀ w ∈ lw_tbl, w.before #[Value.ref b] s = true) : ∃ (c : ClassId) (i : Nat → Nat), u_Kn s RX4 TX4 13 c i := u_known (C := RX4) (T := TX4) (N := 13) (n := 13) hts inX4 (hts (.instantiable RX4 13) (List.mem_append_right _ (List.mem_of_getElem? (i := 61) (by decide +kernel))))
theorem st_k5 (hts : ∀ w ∈ lw_tbl, w.before #[Value.ref b] s = true) : ∃ (c : ClassId) (i : Nat → Nat), u_Kn s RX5 TX5 8 c i := u_known (C := RX5) (T := TX5) (N := 8) (n := 8) hts inX5 (hts (.instantiable RX5 8) (List.mem_append_right _ (List.mem_of_getElem? (i := 16) (by decide +kernel))))
theorem st_aI (hts : ∀ w ∈ lw_tbl, w.before #[Value.ref b] s = true) : ∃ c : ClassId, ArrOfT s c .int ∧ va_RA s c .int := by
  obtain ⟨c, k, comp, h1, h2, h3⟩ := Cond.arrayClass_spec (hts (.arrayClass .int) (List.mem_append_right _ (List.mem_of_getElem? (i := 59) (by decide +kernel))))
  exact ⟨c, fun N z => ⟨(fun q hq => by cases hq), k, h2, comp, h3⟩, h1⟩
theorem st_aZ (hts : ∀ w ∈ lw_tbl, w.before #[Value.ref b] s = true) : ∃ c : ClassId, ArrOfT s c .boolean ∧ va_RA s c .boolean := by
  obtain ⟨c, k, comp, h1, h2, h3⟩ := Cond.arrayClass_spec (hts (.arrayClass .boolean) (List.mem_append_right _ (List.mem_of_getElem? (i := 98) (by decide +kernel))))
  exact ⟨c, fun N z => ⟨(fun q hq => by cases hq), k, h2, comp, h3⟩, h1⟩
theorem st_o1 (hts : ∀ w ∈ lw_tbl, w.before #[Value.ref b] s = true) : va_AO RX1 s ∧ ∃ c : ClassId, ArrOfT s c (.object RX1) ∧ va_RA s c (.object RX1) := by
  have h := hts (.arrayOver (.object RX1)) (List.mem_append_right _ (List.mem_of_getElem? (i := 159) (by decide +kernel)))
  obtain ⟨comp, c, k, h1, h2, h3, h4, h5⟩ := Cond.arrayOver_spec h
  exact ⟨va_AO.of h, c, fun N z => ⟨(fun q hq => by cases hq), k, h3, comp, h4⟩, k, comp, h3, h4, h1, h5⟩
theorem st_o3 (hts : ∀ w ∈ lw_tbl, w.before #[Value.ref b] s = true) : va_AO RX3 s ∧ ∃ c : ClassId, ArrOfT s c (.object RX3) ∧ va_RA s c (.object RX3) := by
  have h := hts (.arrayOver (.object RX3)) (List.mem_append_right _ (List.mem_of_getElem? (i := 69) (by decide +kernel)))
  obtain ⟨comp, c, k, h1, h2, h3, h4, h5⟩ := Cond.arrayOver_spec h
  exact ⟨va_AO.of h, c, fun N z => ⟨(fun q hq => by cases hq), k, h3, comp, h4⟩, k, comp, h3, h4, h1, h5⟩
theorem st_oA (hts : ∀ w ∈ lw_tbl, w.before #[Value.ref b] s = true) : (Cond.arrayOver (.array .int)).before #[] s = true ∧ ∃ c : ClassId, ArrOfT s c (.array .int) ∧ va_RA s c (.array .int) := by
  have h := hts (.arrayOver (.array .int)) (List.mem_append_right _ (List.mem_of_getElem? (i := 67) (by decide +kernel)))
  obtain ⟨comp, c, k, h1, h2, h3, h4, h5⟩ := arrayOverA_spec h
  exact ⟨h, c, fun N z => ⟨(fun q hq => by cases hq), k, h3, comp, h4⟩, h5⟩
theorem st_zU (hts : ∀ w ∈ lw_tbl, w.before #[Value.ref b] s = true) (hgv : (Jvm.Cond.and given_1 narrow_1).before #[Value.ref b] s = true) : vx_Zq Bundle.tN "UNASSIGNED_STACK" Bundle.steD (AB s.heap.size) s s.heap ∧ vx_Zq Bundle.tN "SUPPRESSED_SENTINEL" Bundle.listD (AB s.heap.size) s s.heap := by
  have hs := flat_of_before _ hgv
  exact ⟨vx_Zqof (hts (.laysStatic Bundle.tN "UNASSIGNED_STACK" Bundle.steD) (List.mem_append_right _ (List.mem_of_getElem? (i := 251) (by decide +kernel)))) (hts (.initialized Bundle.tN) (List.mem_append_right _ (List.mem_of_getElem? (i := 7) (by decide +kernel)))) (hs (.isRef (.static Bundle.tN "UNASSIGNED_STACK" Bundle.steD)) (by decide +kernel)) (fun a ha z => Nat.not_le.mpr ha z.1),
    vx_Zqof (hts (.laysStatic Bundle.tN "SUPPRESSED_SENTINEL" Bundle.listD) (List.mem_append_right _ (List.mem_of_getElem? (i := 253) (by decide +kernel)))) (hts (.initialized Bundle.tN) (List.mem_append_right _ (List.mem_of_getElem? (i := 7) (by decide +kernel)))) (hs (.isRef (.static Bundle.tN "SUPPRESSED_SENTINEL" Bundle.listD)) (by decide +kernel)) (fun a ha z => Nat.not_le.mpr ha z.1)⟩
theorem st_n (hts : ∀ w ∈ lw_tbl, w.before #[Value.ref b] s = true) : ∀ q ∈ NWL, va_Nw (.methodLinkNest q.1 q.2.1 q.2.2.1 q.2.2.2) s := by
  intro q hq
  rcases List.mem_cons.mp hq with rfl | hq
  · exact va_Nw.of rfl (hts (.methodLinkNest RX5 11 yX2_init "Opticmesh") (List.mem_append_right _ (List.mem_of_getElem? (i := 25) (by decide +kernel))))
  rcases List.mem_cons.mp hq with rfl | hq
  · exact va_Nw.of rfl (hts (.methodLinkNest RX5 27 yX0_init "Opticmesh") (List.mem_append_right _ (List.mem_of_getElem? (i := 144) (by decide +kernel))))
  rcases List.mem_cons.mp hq with rfl | hq
  · exact va_Nw.of rfl (hts (.methodLinkNest RX1 9 yX3_init "Opticmesh") (List.mem_append_right _ (List.mem_of_getElem? (i := 166) (by decide +kernel))))
  rcases List.mem_cons.mp hq with rfl | hq
  · exact va_Nw.of rfl (hts (.methodLinkNest RX4 40 yX3_init "Opticmesh") (List.mem_append_right _ (List.mem_of_getElem? (i := 71) (by decide +kernel))))
  rcases List.mem_cons.mp hq with rfl | hq
  · exact va_Nw.of rfl (hts (.methodLinkNest RX4 116 yX5_lowestIn "Opticmesh") (List.mem_append_right _ (List.mem_of_getElem? (i := 445) (by decide +kernel))))
  · cases hq
theorem st_s (hts : ∀ w ∈ lw_tbl, w.before #[Value.ref b] s = true) (hgv : (Jvm.Cond.and given_1 narrow_1).before #[Value.ref b] s = true) : ∀ q ∈ SL, ∃ sa, vk_R RX5 q.1 q.2 sa s := by
  have hs := flat_of_before _ hgv
  have key : ∀ (k : Nat) (tx : String), (Cond.stringRef RX5 k tx).before #[Value.ref b] s = true → (Cond.exactly (.string RX5 k) "java/lang/String").before #[Value.ref b] s = true → ∃ sa, vk_R RX5 k tx sa s := by
    intro k tx h1 h2
    obtain ⟨a, c, cell, kk, q1, -⟩ := Cond.exactly_spec (args := #[Value.ref b]) (first := s) (o := none) (s := s) (idx := []) h2
    exact ⟨a, vk_R.of h1 q1⟩
  intro q hq
  rcases List.mem_cons.mp hq with rfl | hq
  · exact key _ _ (hts (.stringRef RX5 50 "nodes are 2 to 8 and wavelengths 1 to 8") (List.mem_append_right _ (List.mem_of_getElem? (i := 265) (by decide +kernel)))) (hs (.exactly (.string RX5 50) "java/lang/String") (by decide +kernel))
  rcases List.mem_cons.mp hq with rfl | hq
  · exact key _ _ (hts (.stringRef RX5 70 "a fibre joins two nodes and has a length of 1 to 1000") (List.mem_append_right _ (List.mem_of_getElem? (i := 324) (by decide +kernel)))) (hs (.exactly (.string RX5 70) "java/lang/String") (by decide +kernel))
  rcases List.mem_cons.mp hq with rfl | hq
  · exact key _ _ (hts (.stringRef RX5 78 "there are 14 fibres") (List.mem_append_right _ (List.mem_of_getElem? (i := 338) (by decide +kernel)))) (hs (.exactly (.string RX5 78) "java/lang/String") (by decide +kernel))
  rcases List.mem_cons.mp hq with rfl | hq
  · exact key _ _ (hts (.stringRef RX5 85 "no such node") (List.mem_append_right _ (List.mem_of_getElem? (i := 615) (by decide +kernel)))) (hs (.exactly (.string RX5 85) "java/lang/String") (by decide +kernel))
  rcases List.mem_cons.mp hq with rfl | hq
  · exact key _ _ (hts (.stringRef RX5 96 "the fibre is cut") (List.mem_append_right _ (List.mem_of_getElem? (i := 535) (by decide +kernel)))) (hs (.exactly (.string RX5 96) "java/lang/String") (by decide +kernel))
  rcases List.mem_cons.mp hq with rfl | hq
  · exact key _ _ (hts (.stringRef RX5 105 "the fibre is not cut") (List.mem_append_right _ (List.mem_of_getElem? (i := 544) (by decide +kernel)))) (hs (.exactly (.string RX5 105) "java/lang/String") (by decide +kernel))
  rcases List.mem_cons.mp hq with rfl | hq
  · exact key _ _ (hts (.stringRef RX5 110 "no such wavelength") (List.mem_append_right _ (List.mem_of_getElem? (i := 659) (by decide +kernel)))) (hs (.exactly (.string RX5 110) "java/lang/String") (by decide +kernel))
  rcases List.mem_cons.mp hq with rfl | hq
  · exact key _ _ (hts (.stringRef RX5 134 "there are no fibres") (List.mem_append_right _ (List.mem_of_getElem? (i := 636) (by decide +kernel)))) (hs (.exactly (.string RX5 134) "java/lang/String") (by decide +kernel))
  rcases List.mem_cons.mp hq with rfl | hq
  · exact key _ _ (hts (.stringRef RX5 139 "a request has two nodes, a demand of 1 to 10 and a rule of 0 to 2") (List.mem_append_right _ (List.mem_of_getElem? (i := 359) (by decide +kernel)))) (hs (.exactly (.string RX5 139) "java/lang/String") (by decide +kernel))
  rcases List.mem_cons.mp hq with rfl | hq
  · exact key _ _ (hts (.stringRef RX5 141 "there have been 60 requests") (List.mem_append_right _ (List.mem_of_getElem? (i := 360) (by decide +kernel)))) (hs (.exactly (.string RX5 141) "java/lang/String") (by decide +kernel))
  rcases List.mem_cons.mp hq with rfl | hq
  · exact key _ _ (hts (.stringRef RX5 158 "a light joins two nodes by a rule of 0 to 2") (List.mem_append_right _ (List.mem_of_getElem? (i := 713) (by decide +kernel)))) (hs (.exactly (.string RX5 158) "java/lang/String") (by decide +kernel))
  rcases List.mem_cons.mp hq with rfl | hq
  · exact key _ _ (hts (.stringRef RX5 164 "there is no such way or pair of ways") (List.mem_append_right _ (List.mem_of_getElem? (i := 488) (by decide +kernel)))) (hs (.exactly (.string RX5 164) "java/lang/String") (by decide +kernel))
  rcases List.mem_cons.mp hq with rfl | hq
  · exact key _ _ (hts (.stringRef RX5 200 "no such place") (List.mem_append_right _ (List.mem_of_getElem? (i := 653) (by decide +kernel)))) (hs (.exactly (.string RX5 200) "java/lang/String") (by decide +kernel))
  rcases List.mem_cons.mp hq with rfl | hq
  · exact key _ _ (hts (.stringRef RX5 210 "the light is gone or protected") (List.mem_append_right _ (List.mem_of_getElem? (i := 568) (by decide +kernel)))) (hs (.exactly (.string RX5 210) "java/lang/String") (by decide +kernel))
  rcases List.mem_cons.mp hq with rfl | hq
  · exact key _ _ (hts (.stringRef RX5 225 "there is no such way") (List.mem_append_right _ (List.mem_of_getElem? (i := 569) (by decide +kernel)))) (hs (.exactly (.string RX5 225) "java/lang/String") (by decide +kernel))
  rcases List.mem_cons.mp hq with rfl | hq
  · exact key _ _ (hts (.stringRef RX5 240 "no two lights can be merged") (List.mem_append_right _ (List.mem_of_getElem? (i := 583) (by decide +kernel)))) (hs (.exactly (.string RX5 240) "java/lang/String") (by decide +kernel))
  rcases List.mem_cons.mp hq with rfl | hq
  · exact key _ _ (hts (.stringRef RX5 250 "no way can be moved") (List.mem_append_right _ (List.mem_of_getElem? (i := 607) (by decide +kernel)))) (hs (.exactly (.string RX5 250) "java/lang/String") (by decide +kernel))
  rcases List.mem_cons.mp hq with rfl | hq
  · exact key _ _ (hts (.stringRef RX5 267 "no such fibre") (List.mem_append_right _ (List.mem_of_getElem? (i := 528) (by decide +kernel)))) (hs (.exactly (.string RX5 267) "java/lang/String") (by decide +kernel))
  rcases List.mem_cons.mp hq with rfl | hq
  · exact key _ _ (hts (.stringRef RX5 269 "no such light") (List.mem_append_right _ (List.mem_of_getElem? (i := 567) (by decide +kernel)))) (hs (.exactly (.string RX5 269) "java/lang/String") (by decide +kernel))
  rcases List.mem_cons.mp hq with rfl | hq
  · exact key _ _ (hts (.stringRef RX5 271 "the light has no such way") (List.mem_append_right _ (List.mem_of_getElem? (i := 648) (by decide +kernel)))) (hs (.exactly (.string RX5 271) "java/lang/String") (by decide +kernel))
  rcases List.mem_cons.mp hq with rfl | hq
  · exact key _ _ (hts (.stringRef RX5 273 "no such request") (List.mem_append_right _ (List.mem_of_getElem? (i := 553) (by decide +kernel)))) (hs (.exactly (.string RX5 273) "java/lang/String") (by decide +kernel))
  rcases List.mem_cons.mp hq with rfl | hq
  · exact key _ _ (hts (.stringRef RX5 275 "the request has been released") (List.mem_append_right _ (List.mem_of_getElem? (i := 554) (by decide +kernel)))) (hs (.exactly (.string RX5 275) "java/lang/String") (by decide +kernel))
  rcases List.mem_cons.mp hq with rfl | hq
  · exact key _ _ (hts (.stringRef RX5 283 "there are 12 lights that are not gone") (List.mem_append_right _ (List.mem_of_getElem? (i := 494) (by decide +kernel)))) (hs (.exactly (.string RX5 283) "java/lang/String") (by decide +kernel))
  · cases hq
theorem st_c (hgv : (Jvm.Cond.and given_1 narrow_1).before #[Value.ref b] s = true) : ∀ q ∈ NCL, va_Nc q.1 q.2 s := by
  have hs := flat_of_before _ hgv
  intro q hq
  rcases List.mem_cons.mp hq with rfl | hq
  · exact va_Nc.of (args := #[Value.ref b]) (hs (.not (.castable eA eS)) (by decide +kernel))
  rcases List.mem_cons.mp hq with rfl | hq
  · exact va_Nc.of (args := #[Value.ref b]) (hs (.not (.castable eA eX)) (by decide +kernel))
  rcases List.mem_cons.mp hq with rfl | hq
  · exact va_Nc.of (args := #[Value.ref b]) (hs (.not (.castable eS eA)) (by decide +kernel))
  rcases List.mem_cons.mp hq with rfl | hq
  · exact va_Nc.of (args := #[Value.ref b]) (hs (.not (.castable eS eX)) (by decide +kernel))
  rcases List.mem_cons.mp hq with rfl | hq
  · exact va_Nc.of (args := #[Value.ref b]) (hs (.not (.castable eX eA)) (by decide +kernel))
  rcases List.mem_cons.mp hq with rfl | hq
  · exact va_Nc.of (args := #[Value.ref b]) (hs (.not (.castable eX eS)) (by decide +kernel))
  · cases hq
theorem st_t (hts : ∀ w ∈ lw_tbl, w.before #[Value.ref b] s = true) : ∀ q ∈ CTL, va_Nw (.castable q q) s := by
  intro q hq
  rcases List.mem_cons.mp hq with rfl | hq
  · exact va_Nw.of rfl (hts (.castable eA eA) (List.mem_append_right _ (List.mem_of_getElem? (i := 226) (by decide +kernel))))
  rcases List.mem_cons.mp hq with rfl | hq
  · exact va_Nw.of rfl (hts (.castable eS eS) (List.mem_append_right _ (List.mem_of_getElem? (i := 331) (by decide +kernel))))
  rcases List.mem_cons.mp hq with rfl | hq
  · exact va_Nw.of rfl (hts (.castable eX eX) (List.mem_append_right _ (List.mem_of_getElem? (i := 521) (by decide +kernel))))
  · cases hq
theorem st_d (hts : ∀ w ∈ lw_tbl, w.before #[Value.ref b] s = true) : ∀ q ∈ DCL, va_Nw (.declares q) s := by
  intro q hq
  rcases List.mem_cons.mp hq with rfl | hq
  · exact va_Nw.of rfl (hts (.declares ⟨"java/lang/RuntimeException", "<init>", "(Ljava/lang/String;)V"⟩) (List.mem_append_right _ (List.mem_of_getElem? (i := 228) (by decide +kernel))))
  rcases List.mem_cons.mp hq with rfl | hq
  · exact va_Nw.of rfl (hts (.declares ⟨"java/lang/Exception", "<init>", "(Ljava/lang/String;)V"⟩) (List.mem_append_right _ (List.mem_of_getElem? (i := 230) (by decide +kernel))))
  rcases List.mem_cons.mp hq with rfl | hq
  · exact va_Nw.of rfl (hts (.declares ⟨"java/lang/Throwable", "<init>", "(Ljava/lang/String;)V"⟩) (List.mem_append_right _ (List.mem_of_getElem? (i := 232) (by decide +kernel))))
  · cases hq
theorem st_WK (hts : ∀ w ∈ lw_tbl, w.before #[Value.ref b] s = true) (hgv : (Jvm.Cond.and given_1 narrow_1).before #[Value.ref b] s = true) : ∃ (D : va_G) (cy : Nat → ClassId), WK2 D cy s.heap.size s := by
  obtain ⟨c0, i0, h0⟩ := st_k0 hts
  obtain ⟨c1, i1, h1⟩ := st_k1 hts
  obtain ⟨c2, i2, h2⟩ := st_k2 hts
  obtain ⟨c3, i3, h3⟩ := st_k3 hts
  obtain ⟨c4, i4, h4⟩ := st_k4 hts
  obtain ⟨c5, i5, h5⟩ := st_k5 hts
  obtain ⟨aI, hI⟩ := st_aI hts
  obtain ⟨aZ, hZ⟩ := st_aZ hts
  obtain ⟨hAO1, a1, ho1⟩ := st_o1 hts
  obtain ⟨hAO3, a3, ho3⟩ := st_o3 hts
  obtain ⟨hAOA, aA, hoA⟩ := st_oA hts
  obtain ⟨hU, hN⟩ := st_zU hts hgv
  refine ⟨(fun k => match k with | 0 => c0 | 1 => c1 | 2 => c2 | 3 => c3 | 4 => c4 | _ => c5, fun k => match k with | 0 => i0 | 1 => i1 | 2 => i2 | 3 => i3 | 4 => i4 | _ => i5),
    (fun k => match k with | 0 => aI | 1 => aZ | 2 => a1 | 3 => a3 | _ => aA), ⟨?_, ?_⟩, Nat.le_refl _, hU, hN, st_n hts, st_s hts hgv, st_c hgv, st_t hts, st_d hts, hAO1, hAO3, hAOA⟩
  · intro k q hq
    match k, hq with
    | 0, hq => cases hq; exact h0
    | 1, hq => cases hq; exact h1
    | 2, hq => cases hq; exact h2
    | 3, hq => cases hq; exact h3
    | 4, hq => cases hq; exact h4
    | 5, hq => cases hq; exact h5
    | k + 6, hq => simp [vwCl] at hq
  · intro k q hq
    match k, hq with
    | 0, hq => cases hq; exact hI
    | 1, hq => cases hq; exact hZ
    | 2, hq => cases hq; exact ho1
    | 3, hq => cases hq; exact ho3
    | 4, hq => cases hq; exact hoA
    | k + 5, hq => simp [tysC] at hq
end START
/-- the state before anything is made -/
def S00 : St := (fun _ _ => 0, fun _ _ => 0, fun _ _ => none, fun _ _ => 0)
/-- what is left when the machine is gone -/
def wp_L_start (xs : Nat → Int32) (L : Nat) : Prop := wp_X5_init S00 (fun S1 => Fx S1 ∧ wp_X5_init S00 (fun T1 => Fx T1 ∧ wp_L_law_16 xs L S1 T1))
set_option maxHeartbeats 4000000 in
set_option maxRecDepth 100000 in
theorem whole_walk {p : Program} {e : Env} {s : State} {m : MethodId} {below : List Frame} {meth : Method} {c : Code} (l : Launch) (hlt : l.stackTraces = false) {b L : Nat} {xs : Nat → Int32} (C0 : lw_At p s m meth c b L xs) (hw : wp_L_start xs L) : W p l e room_1 s m #[Value.ref b] below meth c s.heap [] 0 0 (lw_Z below #[Value.ref b] s) (entryFrame m ([Value.ref b] : List Value).toArray 10) := by
  obtain ⟨hx, hb, hr, hml, hown, hts0, hX, hbl, hlocks, hgv⟩ := id C0
  obtain ⟨D, cy, hW⟩ := st_WK hts0 hgv
  obtain ⟨b0, hb0⟩ : ∃ z, z = s.heap.size := ⟨_, rfl⟩
  rw [← hb0] at hW
  have hts : ∀ w ∈ wsL_law, w.before #[Value.ref b] s = true := fun w h => hts0 w (wsL_law_in w h)
  have hbb : b < b0 := by omega
  have hK := hW.1
  have hS : va_S (AB b0) s.heap s.heap [] := va_S.rf
  have hC : WC D cy b0 0 S00 s.heap := ⟨fun k hk => absurd hk (Nat.not_lt_zero k), hb0.symm, fun k _ j => ⟨rfl, rfl, rfl, rfl⟩⟩
  have hl := lv_entry ([.ref b]) (n := 10) (Nat.le_of_ble_eq_true rfl)
  rw [lg_entry_eq]
  generalize (lg_sl ([.ref b]) ++ List.replicate (10 - (lg_sl ([.ref b])).length) Slot.unset).toArray = ls at hl ⊢
  have hl : lv_has ls 10 [(0, .ref b)] := hl
  unfold wp_L_start at hw
  refine q_new2 (B := b0) (N := 0) (ci := 5) (C := RX5) (T := TX5) (NF := 8) hx hb hts (by decide +kernel) tyX5 tyX5_ok hown (hts (.classLink RL 9 RX5) (by decide +kernel)) (hts (.instantiable RX5 8) (by decide +kernel)) (hts (.initialized RX5) (by decide +kernel)) hK hC hS rfl (new_5 kk_0 hC.2.2) (fun j hj => by rcases (show j = 0 ∨ j = 1 ∨ j = 2 ∨ j = 3 ∨ j = 4 ∨ j = 5 ∨ j = 6 ∨ j = 7 by omega) with rfl | rfl | rfl | rfl | rfl | rfl | rfl | rfl <;> rfl) (Nat.le_of_ble_eq_true rfl) (Nat.le_of_ble_eq_true rfl) dL_law_0 (fun H hC hS _ => ?_)
  refine lv_dup hx hb dL_law_3 rfl ?_
  refine q_call1 (va_runI (As := []) (rest := [.ref (b0 + 0)]) ⟨hx, hb, hml, hown, hts⟩ (c_X5_init l D cy b0 S00 _ hw) (cwI 0 hts gL_law_X5_init rfl rfl rfl (hts (.initialized RX5) (by decide +kernel)) (hts (.methodLink RL 113 yX5_init) (by decide +kernel)) (hts (.instanceMethod yX5_init) (by decide +kernel)) rfl (by decide +kernel) ⟨(Nat.le_of_ble_eq_true rfl), (Nat.le_of_ble_eq_true rfl)⟩) (q_pC1 hW AA_o hC hS [.ref (b0 + 0)]) rfl rfl hl.1 rfl (lv_room (Nat.le_of_ble_eq_true rfl)) dL_law_4 ⟨(Nat.le_of_ble_eq_true rfl), (Nat.le_of_ble_eq_true rfl)⟩) hS AA_o (fun v4 S4 t4 H locs hh hp hB hk9 hS => ?_)
  obtain ⟨rfl, hF, hw⟩ := hp
  have hC : WC D cy b0 367 S4 H := by rw [← hh]; exact hB
  have hP : HP D cy b0 NALL S4 H := hC.1
  have hsz : H.size = b0 + 367 := hC.2.1
  refine W.eq (g2 := F0 m 7 ls [.ref (b0 + 0)]) rfl ?_
  refine lv_astore_n (lv' := [(1, .ref (b0 + 0)), (0, .ref b)]) hx hb dL_law_7 rfl hl (by decide) rfl (fun ls hl => ?_)
  have hC2 : WC D cy (b0 + 367) 0 S00 H := ⟨fun k hk => absurd hk (Nat.not_lt_zero k), by omega, fun k _ j => ⟨rfl, rfl, rfl, rfl⟩⟩
  refine q_new2 (B := b0 + 367) (N := 0) (ci := 5) (C := RX5) (T := TX5) (NF := 8) hx hb hts (by decide +kernel) tyX5 tyX5_ok hown (hts (.classLink RL 9 RX5) (by decide +kernel)) (hts (.instantiable RX5 8) (by decide +kernel)) (hts (.initialized RX5) (by decide +kernel)) hK hC2 hS rfl (new_5 kk_0 hC2.2.2) (fun j hj => by rcases (show j = 0 ∨ j = 1 ∨ j = 2 ∨ j = 3 ∨ j = 4 ∨ j = 5 ∨ j = 6 ∨ j = 7 by omega) with rfl | rfl | rfl | rfl | rfl | rfl | rfl | rfl <;> rfl) (Nat.le_of_ble_eq_true rfl) (Nat.le_of_ble_eq_true rfl) dL_law_8 (fun H hC2 hS hk8 => ?_)
  have hP := hP.kept hk8
  refine lv_dup hx hb dL_law_11 rfl ?_
  refine q_call1 (va_runI (As := []) (rest := [.ref (b0 + 367 + 0)]) ⟨hx, hb, hml, hown, hts⟩ (c_X5_init l D cy (b0 + 367) S00 _ hw) (cwI 0 hts gL_law_X5_init rfl rfl rfl (hts (.initialized RX5) (by decide +kernel)) (hts (.methodLink RL 113 yX5_init) (by decide +kernel)) (hts (.instanceMethod yX5_init) (by decide +kernel)) rfl (by decide +kernel) ⟨(Nat.le_of_ble_eq_true rfl), (Nat.le_of_ble_eq_true rfl)⟩) (q_pC1 hW AA_p hC2 hS [.ref (b0 + 367 + 0)]) rfl rfl hl.1 rfl (lv_room (Nat.le_of_ble_eq_true rfl)) dL_law_12 ⟨(Nat.le_of_ble_eq_true rfl), (Nat.le_of_ble_eq_true rfl)⟩) hS AA_p (fun v12 T12 t12 H locs hh hp hB hk9 hS => ?_)
  obtain ⟨rfl, hF2, hw⟩ := hp
  have hC2 : WC D cy (b0 + 367) 367 T12 H := by rw [← hh]; exact hB
  have hP2 : HP D cy (b0 + 367) NALL T12 H := hC2.1
  have hP := hP.far hk9 far_o
  refine W.eq (g2 := F0 m 15 ls [.ref (b0 + 367 + 0)]) rfl ?_
  refine lv_astore_n (lv' := [(2, .ref (b0 + 367 + 0)), (1, .ref (b0 + 0)), (0, .ref b)]) hx hb dL_law_15 rfl hl (by decide) rfl (fun ls hl => ?_)
  refine W.widen (k := 734) (n := 2998288) (Nat.le_of_ble_eq_true rfl) (Nat.le_of_ble_eq_true rfl) ?_
  exact law_main l hlt D cy b0 hbb C0 hW hb0 S4 T12 H _ ls hw hP hF hP2 hF2 hS (lv_sub hl [2, 1, 0] rfl)
