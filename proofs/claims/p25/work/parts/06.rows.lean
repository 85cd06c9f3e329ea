/-! what of the tables and the heap never changes and isn't among the good words: nest mates' members, the exceptions' texts, casts, Throwable's two statics -/
def NWL : List (String × Nat × MethodName × String) := [(RX5, 11, yX2_init, "Opticmesh"), (RX5, 27, yX0_init, "Opticmesh"), (RX1, 9, yX3_init, "Opticmesh"), (RX4, 40, yX3_init, "Opticmesh"), (RX4, 116, yX5_lowestIn, "Opticmesh")]
def SL : List (Nat × String) := [(50, "nodes are 2 to 8 and wavelengths 1 to 8"), (70, "a fibre joins two nodes and has a length of 1 to 1000"), (78, "there are 14 fibres"), (85, "no such node"), (96, "the fibre is cut"), (105, "the fibre is not cut"), (110, "no such wavelength"), (134, "there are no fibres"), (139, "a request has two nodes, a demand of 1 to 10 and a rule of 0 to 2"), (141, "there have been 60 requests"), (158, "a light joins two nodes by a rule of 0 to 2"), (164, "there is no such way or pair of ways"), (200, "no such place"), (210, "the light is gone or protected"), (225, "there is no such way"), (240, "no two lights can be merged"), (250, "no way can be moved"), (267, "no such fibre"), (269, "no such light"), (271, "the light has no such way"), (273, "no such request"), (275, "the request has been released"), (283, "there are 12 lights that are not gone")]
abbrev eA : String := "java/lang/IllegalArgumentException"
abbrev eS : String := "java/lang/IllegalStateException"
abbrev eX : String := "java/lang/IndexOutOfBoundsException"
abbrev eN : List String := ["java/lang/RuntimeException", "java/lang/Exception"]
def NCL : List (String × String) := [(eA, eS), (eA, eX), (eS, eA), (eS, eX), (eX, eA), (eX, eS)]
def CTL : List String := [eA, eS, eX]
def DCL : List MethodName := [⟨"java/lang/RuntimeException", "<init>", "(Ljava/lang/String;)V"⟩, ⟨"java/lang/Exception", "<init>", "(Ljava/lang/String;)V"⟩, ⟨"java/lang/Throwable", "<init>", "(Ljava/lang/String;)V"⟩]
def WKg (A : Nat → Prop) (D : va_G) (cy : Nat → ClassId) (b0 : Nat) (U : State) : Prop :=
  va_K D vwCl (tysC cy) U ∧ b0 ≤ U.heap.size ∧ vx_Zq Bundle.tN "UNASSIGNED_STACK" Bundle.steD A U U.heap ∧ vx_Zq Bundle.tN "SUPPRESSED_SENTINEL" Bundle.listD A U U.heap ∧ (∀ q ∈ NWL, va_Nw (.methodLinkNest q.1 q.2.1 q.2.2.1 q.2.2.2) U) ∧ (∀ q ∈ SL, ∃ sa, vk_R RX5 q.1 q.2 sa U) ∧ (∀ q ∈ NCL, va_Nc q.1 q.2 U) ∧ (∀ q ∈ CTL, va_Nw (.castable q q) U) ∧ (∀ q ∈ DCL, va_Nw (.declares q) U) ∧ va_AO RX1 U ∧ va_AO RX3 U ∧ (Cond.arrayOver (.array .int)).before #[] U = true
abbrev WK (D : va_G) (cy : Nat → ClassId) (b0 : Nat) (U : State) : Prop := WKg (AA b0) D cy b0 U
/-- the cells of the two objects -/
abbrev AB (b0 : Nat) : Nat → Prop := fun q => b0 ≤ q ∧ q < b0 + 734
abbrev WK2 (D : va_G) (cy : Nat → ClassId) (b0 : Nat) (U : State) : Prop := WKg (AB b0) D cy b0 U
theorem WKg.to {A B : Nat → Prop} {D : va_G} {cy : Nat → ClassId} {b0 b1 : Nat} {s U : State} {H : Heap} {locs : List Loc} (h : WKg A D cy b0 s) (hBA : ∀ q, B q → A q) (hb : b1 ≤ H.size) (hS : va_S A s.heap H locs) (hU : U.heap = H) (hW : s.WarmedH U.vm) : WKg B D cy b1 U := by
  obtain ⟨h1, h2, h3, h4, h5, h6, h7, h8, h9, h10, h11, h12⟩ := h
  subst hU
  exact ⟨h1.moved hW.alike, hb, vx_Zq.narrow (vx_Zq.moved hW.alike (h3.kept hS.2.1)) hBA, vx_Zq.narrow (vx_Zq.moved hW.alike (h4.kept hS.2.1)) hBA, fun q hq => va_Nw.warmM hW (h5 q hq), fun q hq => by obtain ⟨sa, ha⟩ := h6 q hq; exact ⟨sa, vk_R.warm hW ha⟩, fun q hq => va_Nc.moved hW.alike (h7 q hq), fun q hq => va_Nw.warmC hW (h8 q hq), fun q hq => va_Nw.warmD hW (h9 q hq), va_AO.moved hW.alike h10, va_AO.moved hW.alike h11, over_moved (a := #[]) (a' := #[]) hW.alike h12⟩
theorem WKg.len {A : Nat → Prop} {D : va_G} {cy : Nat → ClassId} {b0 : Nat} {s : State} (h : WKg A D cy b0 s) : b0 ≤ s.heap.size := h.2.1
theorem WKg.narrow {A B : Nat → Prop} {D : va_G} {cy : Nat → ClassId} {b0 b1 : Nat} {s : State} (h : WKg A D cy b0 s) (hBA : ∀ q, B q → A q) (hb : b1 ≤ s.heap.size) : WKg B D cy b1 s := by
  obtain ⟨h1, h2, h3, h4, h5, h6, h7, h8, h9, h10, h11, h12⟩ := h
  exact ⟨h1, hb, vx_Zq.narrow h3 hBA, vx_Zq.narrow h4 hBA, h5, h6, h7, h8, h9, h10, h11, h12⟩
theorem WK.to {D : va_G} {cy : Nat → ClassId} {b0 : Nat} {s U : State} {H : Heap} {locs : List Loc} (h : WK D cy b0 s) (hS : va_S (AA b0) s.heap H locs) (hU : U.heap = H) (hW : s.WarmedH U.vm) : WK D cy b0 U := WKg.to h (fun _ q => q) (Nat.le_trans h.len hS.1) hS hU hW
theorem WKg.blind {A : Nat → Prop} {D : va_G} {cy : Nat → ClassId} {b0 : Nat} {U : State} (h : WKg A D cy b0 U) (g : JFrame) (mk : MethodId) (a : Array Value) : WKg A D cy b0 (U.calling g mk a) := by
  obtain ⟨h1, h2, h3, h4, h5, h6, h7, h8, h9, h10, h11, h12⟩ := h
  exact ⟨va_K.moved (u := U) (U := U.calling g mk a) (Vm.Alike.refl U.vm) h1, h2, vx_Zq.moved (u := U) (U := U.calling g mk a) (Vm.Alike.refl U.vm) h3, vx_Zq.moved (u := U) (U := U.calling g mk a) (Vm.Alike.refl U.vm) h4, fun q hq => va_Nw.same rfl (u := U) (U := U.calling g mk a) rfl (h5 q hq), fun q hq => by obtain ⟨sa, ha⟩ := h6 q hq; exact ⟨sa, vk_R.same (u := U) (U := U.calling g mk a) rfl ha⟩, fun q hq => va_Nc.moved (u := U) (U := U.calling g mk a) (Vm.Alike.refl U.vm) (h7 q hq), fun q hq => va_Nw.same rfl (u := U) (U := U.calling g mk a) rfl (h8 q hq), fun q hq => va_Nw.same rfl (u := U) (U := U.calling g mk a) rfl (h9 q hq), va_AO.moved (u := U) (U := U.calling g mk a) (Vm.Alike.refl U.vm) h10, va_AO.moved (u := U) (U := U.calling g mk a) (Vm.Alike.refl U.vm) h11, over_moved (a := #[]) (a' := #[]) (u := U) (E := U.calling g mk a) (Vm.Alike.refl U.vm) h12⟩
/-- a method's start: the constants, the cells, the fixed references -/
def Wd (D : va_G) (cy : Nat → ClassId) (b0 N : Nat) (S : St) (U : State) : Prop := WK D cy b0 U ∧ HP D cy b0 N S U.heap ∧ Fx S
/-- its end: the cells, the fixed references -/
def Wb (D : va_G) (cy : Nat → ClassId) (b0 N : Nat) (S : St) (U : State) : Prop := HP D cy b0 N S U.heap ∧ Fx S
def Wz (D : va_G) (cy : Nat → ClassId) (b0 N z : Nat) (S : St) (U : State) : Prop := Wd D cy b0 N S U ∧ U.heap.size = z
def Wbz (D : va_G) (cy : Nat → ClassId) (b0 N z : Nat) (S : St) (U : State) : Prop := Wb D cy b0 N S U ∧ U.heap.size = z
theorem Wd.bl {D : va_G} {cy : Nat → ClassId} {b0 N : Nat} {S : St} (av : List Value) : FrameBlind (va_Pc av (Wd D cy b0 N S)) := fun a U g mk q => ⟨q.1, WKg.blind q.2.1 g mk a, q.2.2⟩
theorem Wz.bl {D : va_G} {cy : Nat → ClassId} {b0 N z : Nat} {S : St} (av : List Value) : FrameBlind (va_Pc av (Wz D cy b0 N z S)) := fun a U g mk q => ⟨q.1, ⟨WKg.blind q.2.1.1 g mk a, q.2.1.2⟩, q.2.2⟩
theorem Wd.at {D : va_G} {cy : Nat → ClassId} {b0 N : Nat} {S : St} {s : State} {H : Heap} {locs : List Loc} (h : WK D cy b0 s) (hP : HP D cy b0 N S H) (hF : Fx S) (hS : va_S (AA b0) s.heap H locs) (av : List Value) : ∀ U : State, U.heap = H → s.WarmedH U.vm → va_Pc av (Wd D cy b0 N S) av.toArray U := fun U hU hW => ⟨rfl, WK.to h hS hU hW, by rw [hU]; exact hP, hF⟩
theorem q_pS {D : va_G} {cy : Nat → ClassId} {b0 N : Nat} {S : St} {s : State} {H : Heap} {locs : List Loc} (h : WK D cy b0 s) (hP : HP D cy b0 N S H) (hF : Fx S) (hS : va_S (AA b0) s.heap H locs) (av : List Value) : PreS s H (va_Pc av (Wd D cy b0 N S)) av := ⟨Wd.bl av, Wd.at h hP hF hS av⟩
theorem q_pV {D : va_G} {cy : Nat → ClassId} {b0 N : Nat} {S : St} {s : State} {H : Heap} {locs : List Loc} (h : WK D cy b0 s) (hP : HP D cy b0 N S H) (hF : Fx S) (hS : va_S (AA b0) s.heap H locs) {k ci : Nat} {r : vw_C} {fs : List Value} (hk : k < N) (he : cellC cy b0 S k = .inr (ci, fs)) (hc : vwCl[ci]? = some r) (As : List Value) : PreV s H r.1 (b0 + k) (va_Pc (.ref (b0 + k) :: As) (Wd D cy b0 N S)) As := ⟨Wd.bl _, va_recv (ws := [(b0 + k, .inr (ci, fs))]) (q0 := 0) h.1 (hP.one hk he) hc rfl, Wd.at h hP hF hS _⟩
/-- what a method's end says -/
def QC (P : Option Value → St → Prop) (B : St → State → Prop) (b0 : Nat) : Array Value → State → Outcome → State → Prop := fun _ st oc t => (∃ (v : Option Value) (S : St), oc = .returned v ∧ P v S ∧ B S t) ∧ va_F (AA b0) st t
def Pi (P : Int32 → St → Prop) : Option Value → St → Prop := fun v S => ∃ r : Int32, v = some (.int r) ∧ P r S
def Pz (P : Bool → St → Prop) : Option Value → St → Prop := fun v S => ∃ r : Bool, v = some (.int (b2i r)) ∧ P r S
def Pf (P : UInt32 → St → Prop) : Option Value → St → Prop := fun v S => ∃ r : UInt32, v = some (.float r) ∧ P r S
def Pv (P : St → Prop) : Option Value → St → Prop := fun v S => v = none ∧ P S
/-- an answer that may be null -/
def Pq (b0 : Nat) (P : Option Nat → St → Prop) : Option Value → St → Prop := fun v S => ∃ r : Option Nat, v = some (rf b0 r) ∧ P r S
/-- an answer that is a cell of kind z -/
def Pr (b0 z : Nat) (P : Nat → St → Prop) : Option Value → St → Prop := fun v S => ∃ r : Nat, v = some (.ref (b0 + r)) ∧ kd r = z ∧ P r S
/-- .. null or a cell of kind z -/
def Pn (b0 z : Nat) (P : Option Nat → St → Prop) : Option Value → St → Prop := fun v S => ∃ r : Option Nat, v = some (rf b0 r) ∧ (∀ q, r = some q → kd q = z) ∧ P r S
def XX (EX : String → St → Prop) (B : St → State → Prop) (b0 : Nat) : String → State → State → Prop := vx_X (fun u : String × St => EX u.1 u.2) (fun E u t => E = u.1 ∧ B u.2 t) (AA b0)
section QC1
variable {p : Program} {l : Launch} {e : Env} {R : Room} {s : State} {m : MethodId} {args : Array Value} {below : List Frame} {meth : Method} {c : Code} {H : Heap} {locs : List Loc} {cells slots : Nat} {Q : State → Prop}
variable {pc : Nat} {ls : Array Slot} {rest st0 : List Value} {a : Array Value} {H0 : Heap} {mc ms : Nat} {b0 : Nat} {P : Option Value → St → Prop} {B : St → State → Prop} {EX : String → St → Prop}
theorem q_call (hr : va_Run p l e R s m args below meth c H locs cells slots mc ms (F0 m pc ls st0) rest (QC P B b0 a) (AA b0)) (hS : va_S (AA b0) H0 H locs)
    (kk : ∀ (v : Option Value) (S : St) (t : State) (H1 : Heap) (locs1 : List Loc), t.heap = H1 → P v S → B S t → H.size ≤ H1.size → (∀ q : Nat, q < H.size → ¬ AA b0 q → H1[q]? = H[q]?) → va_S (AA b0) H0 H1 locs1 → W p l e R s m args below meth c H1 locs1 (cells + mc) (slots + ms) Q (F0 m (pc + 3) ls (v.toList ++ rest))) : W p l e R s m args below meth c H locs cells slots Q (F0 m pc ls st0) := by
  intro T hT X
  obtain ⟨v, st₀, t, T', L, h0, X', hL, e1, e2, ⟨⟨v2, S, hv, hp, hb⟩, hz, hk⟩, st⟩ := hr T hT X
  cases hv
  rw [h0] at hz hk
  obtain ⟨t2, a1, b1⟩ := kk v S t T'.heap (locs ++ L) e1.symm hp hb (by rw [e1]; exact hz) (fun q h1 h2 => by rw [e1]; exact hk q h1 h2)
    ⟨Nat.le_trans hS.1 (by rw [e1]; exact hz), fun q h1 h2 => by rw [e1, hk q (Nat.lt_of_lt_of_le h1 hS.1) h2]; exact hS.2.1 q h1 h2, fun q hq => by
      rcases List.mem_append.mp hq with h | h
      · exact hS.2.2 q h
      · exact hL q h⟩ T' rfl X'
  exact ⟨t2, st t2 a1, b1⟩
theorem q_callX (hr : vx_Run p l e R s m args below meth c H locs cells slots mc ms (F0 m pc ls st0) rest (QC P B b0 a) (XX EX B b0) (AA b0)) (hS : va_S (AA b0) H0 H locs)
    (kx : ∀ (E : String) (ce : Cell) (q9 : Addr) (S : St) (t : State) (H1 : Heap) (locs1 : List Loc), t.heap = H1 → EX E S → B S t → H.size ≤ H1.size → va_S (AA b0) H0 H1 locs1 → H1[q9]? = some ce → ce.vm = .none → s.vm.findClass E = some ce.cls → vx_W p l e R s m args below meth c H1 locs1 (cells + mc) (slots + ms) Q (F0 m pc ls rest) q9)
    (kk : ∀ (v : Option Value) (S : St) (t : State) (H1 : Heap) (locs1 : List Loc), t.heap = H1 → P v S → B S t → H.size ≤ H1.size → (∀ q : Nat, q < H.size → ¬ AA b0 q → H1[q]? = H[q]?) → va_S (AA b0) H0 H1 locs1 → W p l e R s m args below meth c H1 locs1 cells slots Q (F0 m (pc + 3) ls (v.toList ++ rest))) : W p l e R s m args below meth c H locs cells slots Q (F0 m pc ls st0) := by
  intro T hT X
  rcases hr T hT X with ⟨v, st₀, t, T', L, h0, X', hL, e1, e2, ⟨⟨v2, S, hv, hp, hb⟩, hF⟩, st⟩ | ⟨q, st₀, t, T', L, E, ce, h0, X', hL, e1, e2, ⟨u, hp, ⟨hE, hb⟩, hF⟩, hce, hcv, hcl, st⟩
  · cases hv
    obtain ⟨k1, k2, k3⟩ := vx_keep h0 e1 hS (fun _ _ h => h) (fun _ h => h) hL hF
    obtain ⟨t2, a1, b1⟩ := kk v S t T'.heap (locs ++ L) e1.symm hp hb k1 k2 k3 T' rfl X'
    exact ⟨t2, st t2 a1, b1⟩
  · obtain ⟨k1, k2, k3⟩ := vx_keep h0 e1 hS (fun _ _ h => h) (fun _ h => h) hL hF
    obtain ⟨t2, a1, b1⟩ := kx E ce q u.2 t T'.heap (locs ++ L) e1.symm (by rw [hE]; exact hp) hb k1 k3 (by rw [e1]; exact hce) hcv hcl T' rfl X'
    exact ⟨t2, st.trans a1, b1⟩
end QC1
section QC2
variable {p : Program} {l : Launch} {e : Env} {R : Room} {s : State} {m : MethodId} {args : Array Value} {below : List Frame} {meth : Method} {c : Code} {H : Heap} {locs : List Loc} {cells slots : Nat} {Q : State → Prop}
variable {cc : ByteArray} {pc : Nat} {ls : Array Slot} {rest st0 : List Value} {a : Array Value} {mc ms : Nat} {D : va_G} {cy : Nat → ClassId} {b0 N : Nat} {S : St} {P : Option Value → St → Prop} {EX : String → St → Prop}
/-- a method's end -/
theorem q_iret (hexec : p.tables.exec = Jvm.exec) (hb : c.code = cc) (hr : meth.sig.returnType = some .int) (hP : HP D cy b0 N S H) (hF : Fx S) (hS : va_S (AA b0) s.heap H locs) {v : Int32} {P : Int32 → St → Prop} (hw : P v S) (hdg : decode cc pc = .ok (.ireturn, 1)) (hlocks : meth.locks = false) : W p l e R s m args below meth c H locs cells slots (MQ below (QC (Pi P) (Wb D cy b0 N) b0) args s cells slots (AA b0)) (F0 m pc ls [.int v]) :=
  W.iret hexec hb hr (fun t ht _ => ⟨⟨_, S, rfl, ⟨v, rfl, hw⟩, by rw [ht]; exact hP, hF⟩, hS.F ht⟩) hS.2.2 hdg hlocks
theorem q_zret (hexec : p.tables.exec = Jvm.exec) (hb : c.code = cc) (hr : meth.sig.returnType = some .boolean) (hP : HP D cy b0 N S H) (hF : Fx S) (hS : va_S (AA b0) s.heap H locs) {v : Bool} {P : Bool → St → Prop} (hw : P v S) (hdg : decode cc pc = .ok (.ireturn, 1)) (hlocks : meth.locks = false) : W p l e R s m args below meth c H locs cells slots (MQ below (QC (Pz P) (Wb D cy b0 N) b0) args s cells slots (AA b0)) (F0 m pc ls [.int (b2i v)]) :=
  W.zret hexec hb hr (b2i_nar v) (fun t ht _ => ⟨⟨_, S, rfl, ⟨v, rfl, hw⟩, by rw [ht]; exact hP, hF⟩, hS.F ht⟩) hS.2.2 hdg hlocks
theorem q_vret (hexec : p.tables.exec = Jvm.exec) (hb : c.code = cc) (hr : meth.sig.returnType = none) (hP : HP D cy b0 N S H) (hF : Fx S) (hS : va_S (AA b0) s.heap H locs) {P : St → Prop} (hw : P S) (hdg : decode cc pc = .ok (.return_, 1)) (hlocks : meth.locks = false) : W p l e R s m args below meth c H locs cells slots (MQ below (QC (Pv P) (Wb D cy b0 N) b0) args s cells slots (AA b0)) (F0 m pc ls []) :=
  W.vret hexec hb hr (fun t ht _ => ⟨⟨_, S, rfl, ⟨rfl, hw⟩, by rw [ht]; exact hP, hF⟩, hS.F ht⟩) hS.2.2 hdg hlocks
theorem q_fret (hexec : p.tables.exec = Jvm.exec) (hb : c.code = cc) (hr : meth.sig.returnType = some .float) (hP : HP D cy b0 N S H) (hF : Fx S) (hS : va_S (AA b0) s.heap H locs) {v : UInt32} {P : UInt32 → St → Prop} (hw : P v S) (hdg : decode cc pc = .ok (.freturn, 1)) (hlocks : meth.locks = false) : W p l e R s m args below meth c H locs cells slots (MQ below (QC (Pf P) (Wb D cy b0 N) b0) args s cells slots (AA b0)) (F0 m pc ls [.float v]) :=
  W.fret hexec hb hr (fun t ht _ => ⟨⟨_, S, rfl, ⟨v, rfl, hw⟩, by rw [ht]; exact hP, hF⟩, hS.F ht⟩) hS.2.2 hdg hlocks
theorem q_aretR (hexec : p.tables.exec = Jvm.exec) (hb : c.code = cc) {cn : String} (hr : meth.sig.returnType = some (.object cn)) (hP : HP D cy b0 N S H) (hF : Fx S) (hS : va_S (AA b0) s.heap H locs) {v z : Nat} (hz : kd v = z) {P : Nat → St → Prop} (hw : P v S) (hdg : decode cc pc = .ok (.areturn, 1)) (hlocks : meth.locks = false) : W p l e R s m args below meth c H locs cells slots (MQ below (QC (Pr b0 z P) (Wb D cy b0 N) b0) args s cells slots (AA b0)) (F0 m pc ls [.ref (b0 + v)]) :=
  W.aret hexec hb hr (Or.inl ⟨_, rfl⟩) (Or.inr ⟨_, rfl⟩) (fun t ht _ => ⟨⟨_, S, rfl, ⟨v, rfl, hz, hw⟩, by rw [ht]; exact hP, hF⟩, hS.F ht⟩) hS.2.2 hdg hlocks
theorem q_aretS (hexec : p.tables.exec = Jvm.exec) (hb : c.code = cc) {cn : String} (hr : meth.sig.returnType = some (.object cn)) (hP : HP D cy b0 N S H) (hF : Fx S) (hS : va_S (AA b0) s.heap H locs) {v z : Nat} (hz : kd v = z) {P : Option Nat → St → Prop} (hw : P (some v) S) (hdg : decode cc pc = .ok (.areturn, 1)) (hlocks : meth.locks = false) : W p l e R s m args below meth c H locs cells slots (MQ below (QC (Pn b0 z P) (Wb D cy b0 N) b0) args s cells slots (AA b0)) (F0 m pc ls [.ref (b0 + v)]) :=
  W.aret hexec hb hr (Or.inl ⟨_, rfl⟩) (Or.inr ⟨_, rfl⟩) (fun t ht _ => ⟨⟨_, S, rfl, ⟨some v, rfl, fun q h => by cases h; exact hz, hw⟩, by rw [ht]; exact hP, hF⟩, hS.F ht⟩) hS.2.2 hdg hlocks
theorem q_aretN (hexec : p.tables.exec = Jvm.exec) (hb : c.code = cc) {cn : String} (hr : meth.sig.returnType = some (.object cn)) (hP : HP D cy b0 N S H) (hF : Fx S) (hS : va_S (AA b0) s.heap H locs) {z : Nat} {P : Option Nat → St → Prop} (hw : P none S) (hdg : decode cc pc = .ok (.areturn, 1)) (hlocks : meth.locks = false) : W p l e R s m args below meth c H locs cells slots (MQ below (QC (Pn b0 z P) (Wb D cy b0 N) b0) args s cells slots (AA b0)) (F0 m pc ls [.null]) :=
  W.aret hexec hb hr (Or.inl ⟨_, rfl⟩) (Or.inl rfl) (fun t ht _ => ⟨⟨_, S, rfl, ⟨none, rfl, fun q h => (by cases h), hw⟩, by rw [ht]; exact hP, hF⟩, hS.F ht⟩) hS.2.2 hdg hlocks
/-- an exception that a callee threw goes on to the caller -/
theorem q_pass {Qc : Array Value → State → Outcome → State → Prop} {E : String} {ce : Cell} {q9 : Addr} (ht : ∀ x ∈ c.exceptionTable.toList, False) (hlocks : meth.locks = false) (hP : HP D cy b0 N S H) (hF : Fx S) (hS : va_S (AA b0) s.heap H locs) (hw : EX E S) (hcell : H[q9]? = some ce) (hv : ce.vm = .none) (hcl : s.vm.findClass E = some ce.cls) (hc : cells ≤ mc) (hs : slots ≤ ms) :
    vx_W p l e R s m args below meth c H locs cells slots (vx_MQ below Qc (XX EX (Wb D cy b0 N) b0) args s mc ms (AA b0)) (F0 m pc ls rest) q9 :=
  vx_out (fun x hx => (ht x hx).elim) hlocks hcell hv hcl (fun t hT _ => ⟨(E, S), hw, ⟨rfl, by rw [hT]; exact hP, hF⟩, hS.F hT⟩) hS.2.2 hc hs
/-- 'throw new E("text")' -/
theorem q_throw {Qc : Array Value → State → Outcome → State → Prop} (hexec : p.tables.exec = Jvm.exec) (hb : c.code = cc) (hl : l.stackTraces = false) {cls text : String} {ik is ic : Nat} {Ts : List Cond} (hts : ∀ w ∈ Ts, w.before args s = true)
    (hown : s.vm.findClass RX5 = some m.cls) (hcls : Bundle.fit cls = true) (hk : (Cond.classLink RX5 ik cls).before args s = true) (hini : (Cond.initialized cls).before args s = true) (hsl : (is, text) ∈ SL)
    (h1 : ∀ w ∈ (vx_atS RX5 ic cls eN).filter goodWord, w ∈ Ts) (h2 : ∀ w ∈ (vx_atS RX5 ic cls eN).filter (fun w => !goodWord w), w ∈ Cond.castable cls cls :: DCL.map Cond.declares) (hct : cls ∈ CTL)
    (hgood : ∀ w ∈ Cond.classLink RX5 ik cls :: Cond.initialized cls :: vx_atS RX5 ic cls eN, vx_ot w = true) (hW : WK D cy b0 s) (hP : HP D cy b0 N S H) (hF : Fx S) (hS : va_S (AA b0) s.heap H locs) (hsize : ls.size = c.maxLocals)
    (d0 : decode cc pc = .ok (.new ik, 3)) (d3 : decode cc (pc + 3) = .ok (.dup, 1)) (d4 : decode cc (pc + 4) = .ok (.ldc is, 2)) (d6 : decode cc (pc + 6) = .ok (.invokespecial ic, 3)) (d9 : decode cc (pc + 9) = .ok (.athrow, 1))
    (ht : ∀ x ∈ c.exceptionTable.toList, False) (hRframes : 5 < R.frames) (hRlocals : (rest.map fun v => v.category).sum + 82 ≤ R.locals) (hRcells : cells + 1 ≤ R.cells) (hRslots : slots + 6 ≤ R.slots) (hlocks : meth.locks = false) (hw : EX cls S) (hc : cells + 1 ≤ mc) (hs : slots + 6 ≤ ms) :
    W p l e R s m args below meth c H locs cells slots (vx_MQ below Qc (XX EX (Wb D cy b0 N) b0) args s mc ms (AA b0)) (F0 m pc ls rest) := by
  obtain ⟨hK, hsz, hU, hN, -, hSt, -, hCt, hDt, -⟩ := id hW
  obtain ⟨sa, hstr⟩ := hSt _ hsl
  refine vx_throwS (A := AA b0) (names := eN) hexec hb hl hown hcls (by decide +kernel) hk hini hstr (vx_hat (fun w hw => hts w (h1 w hw)) h2 (vx_c (va_Nw.use rfl (hCt cls hct)) (fun w hw => by obtain ⟨y, hy, rfl⟩ := List.mem_map.mp hw; exact va_Nw.use rfl (hDt y hy)))) hgood hU hN hS hsize d0 d3 d4 d6 d9 (fun x hx => (ht x hx).elim) hRframes hRlocals hRcells hRslots hlocks (fun t _ hz ho => ?_) hS.2.2 hc hs
  exact ⟨(cls, S), hw, ⟨rfl, hP.kept ho, hF⟩, ⟨Nat.le_trans hS.1 hz, fun q h1 h2 => by rw [ho q (Nat.lt_of_lt_of_le h1 hS.1)]; exact hS.2.1 q h1 h2⟩⟩
theorem q_throwW {Qc : Array Value → State → Outcome → State → Prop} (hexec : p.tables.exec = Jvm.exec) (hb : c.code = cc) (hl : l.stackTraces = false) {cls text : String} {ik is ic : Nat} {Ts : List Cond} (hts : ∀ w ∈ Ts, w.before args s = true)
    (hown : s.vm.findClass RX5 = some m.cls) (hcls : Bundle.fit cls = true) (hk : (Cond.classLink RX5 ik cls).before args s = true) (hini : (Cond.initialized cls).before args s = true) (hsl : (is, text) ∈ SL)
    (h1 : ∀ w ∈ (vx_atS RX5 ic cls eN).filter goodWord, w ∈ Ts) (h2 : ∀ w ∈ (vx_atS RX5 ic cls eN).filter (fun w => !goodWord w), w ∈ Cond.castable cls cls :: DCL.map Cond.declares) (hct : cls ∈ CTL)
    (hgood : ∀ w ∈ Cond.classLink RX5 ik cls :: Cond.initialized cls :: vx_atS RX5 ic cls eN, vx_ot w = true) (hW : WK D cy b0 s) (hP : HP D cy b0 N S H) (hF : Fx S) (hS : va_S (AA b0) s.heap H locs) (hsize : ls.size = c.maxLocals)
    (d0 : decode cc pc = .ok (.new ik, 3)) (d3 : decode cc (pc + 3) = .ok (.dup, 1)) (d4 : decode cc (pc + 4) = .ok (.ldc_w is, 3)) (d7 : decode cc (pc + 7) = .ok (.invokespecial ic, 3)) (d10 : decode cc (pc + 10) = .ok (.athrow, 1))
    (ht : ∀ x ∈ c.exceptionTable.toList, False) (hRframes : 5 < R.frames) (hRlocals : (rest.map fun v => v.category).sum + 82 ≤ R.locals) (hRcells : cells + 1 ≤ R.cells) (hRslots : slots + 6 ≤ R.slots) (hlocks : meth.locks = false) (hw : EX cls S) (hc : cells + 1 ≤ mc) (hs : slots + 6 ≤ ms) :
    W p l e R s m args below meth c H locs cells slots (vx_MQ below Qc (XX EX (Wb D cy b0 N) b0) args s mc ms (AA b0)) (F0 m pc ls rest) := by
  obtain ⟨hK, hsz, hU, hN, -, hSt, -, hCt, hDt, -⟩ := id hW
  obtain ⟨sa, hstr⟩ := hSt _ hsl
  refine vx_throwSW (A := AA b0) (names := eN) hexec hb hl hown hcls (by decide +kernel) hk hini hstr (vx_hat (fun w hw => hts w (h1 w hw)) h2 (vx_c (va_Nw.use rfl (hCt cls hct)) (fun w hw => by obtain ⟨y, hy, rfl⟩ := List.mem_map.mp hw; exact va_Nw.use rfl (hDt y hy)))) hgood hU hN hS hsize d0 d3 d4 d7 d10 (fun x hx => (ht x hx).elim) hRframes hRlocals hRcells hRslots hlocks (fun t _ hz ho => ?_) hS.2.2 hc hs
  exact ⟨(cls, S), hw, ⟨rfl, hP.kept ho, hF⟩, ⟨Nat.le_trans hS.1 hz, fun q h1 h2 => by rw [ho q (Nat.lt_of_lt_of_le h1 hS.1)]; exact hS.2.1 q h1 h2⟩⟩
theorem q_vretz (hexec : p.tables.exec = Jvm.exec) (hb : c.code = cc) (hr : meth.sig.returnType = none) (hP : HP D cy b0 N S H) (hF : Fx S) (hS : va_S (AA b0) s.heap H locs) {z : Nat} (hsz : H.size = z) {P : St → Prop} (hw : P S) (hdg : decode cc pc = .ok (.return_, 1)) (hlocks : meth.locks = false) : W p l e R s m args below meth c H locs cells slots (MQ below (QC (Pv P) (Wbz D cy b0 N z) b0) args s cells slots (AA b0)) (F0 m pc ls []) :=
  W.vret hexec hb hr (fun t ht _ => ⟨⟨_, S, rfl, ⟨rfl, hw⟩, ⟨by rw [ht]; exact hP, hF⟩, by rw [ht]; exact hsz⟩, hS.F ht⟩) hS.2.2 hdg hlocks
end QC2
theorem thA2 : ∀ w ∈ (vx_atS RX5 52 eA eN).filter (fun w => !goodWord w), w ∈ Cond.castable eA eA :: DCL.map Cond.declares := by decide +kernel
theorem thS2 : ∀ w ∈ (vx_atS RX5 80 eS eN).filter (fun w => !goodWord w), w ∈ Cond.castable eS eS :: DCL.map Cond.declares := by decide +kernel
theorem thX2 : ∀ w ∈ (vx_atS RX5 202 eX eN).filter (fun w => !goodWord w), w ∈ Cond.castable eX eX :: DCL.map Cond.declares := by decide +kernel
theorem thA3' : ∀ w ∈ vx_atS RX5 52 eA eN, vx_ot w = true := by decide +kernel
theorem thA3 {ik : Nat} : ∀ w ∈ Cond.classLink RX5 ik eA :: Cond.initialized eA :: vx_atS RX5 52 eA eN, vx_ot w = true := by
  intro w hw
  rcases List.mem_cons.mp hw with rfl | hw
  · rfl
  · rcases List.mem_cons.mp hw with rfl | hw
    · rfl
    · exact thA3' w hw
theorem thS3' : ∀ w ∈ vx_atS RX5 80 eS eN, vx_ot w = true := by decide +kernel
theorem thS3 {ik : Nat} : ∀ w ∈ Cond.classLink RX5 ik eS :: Cond.initialized eS :: vx_atS RX5 80 eS eN, vx_ot w = true := by
  intro w hw
  rcases List.mem_cons.mp hw with rfl | hw
  · rfl
  · rcases List.mem_cons.mp hw with rfl | hw
    · rfl
    · exact thS3' w hw
theorem thX3' : ∀ w ∈ vx_atS RX5 202 eX eN, vx_ot w = true := by decide +kernel
theorem thX3 {ik : Nat} : ∀ w ∈ Cond.classLink RX5 ik eX :: Cond.initialized eX :: vx_atS RX5 202 eX eN, vx_ot w = true := by
  intro w hw
  rcases List.mem_cons.mp hw with rfl | hw
  · rfl
  · rcases List.mem_cons.mp hw with rfl | hw
    · rfl
    · exact thX3' w hw
/-! the fixed places: kinds, lengths, references -/
theorem kk_0 : kd 0 = 5 := by decide +kernel
theorem kk_1 : kd 1 = 2 := by decide +kernel
theorem kk_2 : kd 2 = 7 := by decide +kernel
theorem ll_2 : ln 2 = 14 := by decide +kernel
theorem kk_3 : kd 3 = 7 := by decide +kernel
theorem ll_3 : ln 3 = 14 := by decide +kernel
theorem kk_4 : kd 4 = 7 := by decide +kernel
theorem ll_4 : ln 4 = 14 := by decide +kernel
theorem kk_5 : kd 5 = 4 := by decide +kernel
theorem kk_6 : kd 6 = 7 := by decide +kernel
theorem ll_6 : ln 6 = 14 := by decide +kernel
theorem kk_7 : kd 7 = 7 := by decide +kernel
theorem ll_7 : ln 7 = 7 := by decide +kernel
theorem kk_8 : kd 8 = 7 := by decide +kernel
theorem ll_8 : ln 8 = 7 := by decide +kernel
theorem kk_9 : kd 9 = 8 := by decide +kernel
theorem ll_9 : ln 9 = 7 := by decide +kernel
theorem kk_10 : kd 10 = 11 := by decide +kernel
theorem ll_10 : ln 10 = 7 := by decide +kernel
theorem kk_18 : kd 18 = 10 := by decide +kernel
theorem ll_18 : ln 18 = 162 := by decide +kernel
theorem kk_181 : kd 181 = 0 := by decide +kernel
theorem kk_182 : kd 182 = 7 := by decide +kernel
theorem ll_182 : ln 182 = 12 := by decide +kernel
theorem kk_183 : kd 183 = 7 := by decide +kernel
theorem ll_183 : ln 183 = 12 := by decide +kernel
theorem kk_184 : kd 184 = 9 := by decide +kernel
theorem ll_184 : ln 184 = 60 := by decide +kernel
theorem kk_365 : kd 365 = 9 := by decide +kernel
theorem ll_365 : ln 365 = 60 := by decide +kernel
theorem kk_366 : kd 366 = 7 := by decide +kernel
theorem ll_366 : ln 366 = 60 := by decide +kernel
theorem ff_0_0 : fx 0 0 = some 1 := by decide +kernel
theorem ff_0_1 : fx 0 1 = some 5 := by decide +kernel
theorem ff_0_2 : fx 0 2 = some 181 := by decide +kernel
theorem ff_0_3 : fx 0 3 = some 184 := by decide +kernel
theorem ff_0_5 : fx 0 5 = some 365 := by decide +kernel
theorem ff_0_6 : fx 0 6 = some 366 := by decide +kernel
theorem ff_1_5 : fx 1 5 = some 2 := by decide +kernel
theorem ff_1_6 : fx 1 6 = some 3 := by decide +kernel
theorem ff_1_7 : fx 1 7 = some 4 := by decide +kernel
theorem ff_5_2 : fx 5 2 = some 6 := by decide +kernel
theorem ff_5_3 : fx 5 3 = some 1 := by decide +kernel
theorem ff_5_7 : fx 5 7 = some 7 := by decide +kernel
theorem ff_5_8 : fx 5 8 = some 8 := by decide +kernel
theorem ff_5_9 : fx 5 9 = some 9 := by decide +kernel
theorem ff_5_10 : fx 5 10 = some 10 := by decide +kernel
theorem ff_5_11 : fx 5 11 = some 18 := by decide +kernel
theorem ff_181_0 : fx 181 0 = some 182 := by decide +kernel
theorem ff_181_1 : fx 181 1 = some 183 := by decide +kernel
theorem vp_lt {i : Int32} {n : Nat} (h : vp_in i n) : i.toNatClampNeg < n := Nat.not_le.mp fun q => h (Or.inr q)
section QACMP
variable {p : Program} {l : Launch} {e : Env} {R : Room} {s : State} {m : MethodId} {args : Array Value} {below : List Frame} {meth : Method} {c : Code} {H : Heap} {locs : List Loc} {cells slots : Nat} {Q : State → Prop}
variable {cc : ByteArray} {pc : Nat} {ls : Array Slot} {rest : List Value}
theorem q_map {b0 : Nat} {rx ry : Option Nat} : rx.map (fun k => b0 + k) = ry.map (fun k => b0 + k) ↔ rx = ry := by
  cases rx <;> cases ry <;> simp
theorem q_acmp_eq {b0 : Nat} {rx ry : Option Nat} (hexec : p.tables.exec = Jvm.exec) (hb : c.code = cc) {off : Int} {tgt : Nat} (hdg : decode cc pc = .ok (.if_acmp .eq off, 3)) (ht : (pc : Int) + off = (tgt : Int))
    (kt : rx = ry → W p l e R s m args below meth c H locs cells slots Q (F0 m tgt ls rest)) (kf : ¬ rx = ry → W p l e R s m args below meth c H locs cells slots Q (F0 m (pc + 3) ls rest)) : W p l e R s m args below meth c H locs cells slots Q (F0 m pc ls (rf b0 ry :: rf b0 rx :: rest)) :=
  lv_acmp_eq hexec hb hdg ht (fun h => kt (q_map.mp h)) (fun h => kf (fun q => h (q_map.mpr q)))
theorem q_acmp_ne {b0 : Nat} {rx ry : Option Nat} (hexec : p.tables.exec = Jvm.exec) (hb : c.code = cc) {off : Int} {tgt : Nat} (hdg : decode cc pc = .ok (.if_acmp .ne off, 3)) (ht : (pc : Int) + off = (tgt : Int))
    (kt : ¬ rx = ry → W p l e R s m args below meth c H locs cells slots Q (F0 m tgt ls rest)) (kf : rx = ry → W p l e R s m args below meth c H locs cells slots Q (F0 m (pc + 3) ls rest)) : W p l e R s m args below meth c H locs cells slots Q (F0 m pc ls (rf b0 ry :: rf b0 rx :: rest)) :=
  lv_acmp_ne hexec hb hdg ht (fun h => kt (fun q => h (q_map.mpr q))) (fun h => kf (q_map.mp h))
end QACMP

