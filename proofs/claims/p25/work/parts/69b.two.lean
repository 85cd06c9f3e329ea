/-! TWO OBJECTS: o at b0, p at b0 + 367; the law's own script -/
theorem HP.far {D : va_G} {cy : Nat → ClassId} {B N : Nat} {S : St} {H H1 : Heap} {A : Nat → Prop} (hP : HP D cy B N S H) (hk : ∀ q : Nat, q < H.size → ¬ A q → H1[q]? = H[q]?) (hA : ∀ k, k < N → ¬ A (B + k)) : HP D cy B N S H1 := fun k h => (hP k h).kept (hk _ (hP k h).lt (hA k h))
theorem AA_o {b0 : Nat} : ∀ q, AA b0 q → AB b0 q := fun _ h => ⟨h.1, by have := h.2; omega⟩
theorem AA_p {b0 : Nat} : ∀ q, AA (b0 + 367) q → AB b0 q := fun _ h => ⟨by have := h.1; omega, by have := h.2; omega⟩
theorem far_p {b0 : Nat} : ∀ k, k < NALL → ¬ AA b0 (b0 + 367 + k) := fun k _ h => by have := h.2; omega
theorem far_o {b0 : Nat} : ∀ k, k < NALL → ¬ AA (b0 + 367) (b0 + k) := fun k hk h => by have := h.1; have : k < 367 := hk; omega
/-- a method's start, its end, with two objects -/
def Wd2 (D : va_G) (cy : Nat → ClassId) (b0 : Nat) (S T : St) (U : State) : Prop := WK2 D cy b0 U ∧ HP D cy b0 NALL S U.heap ∧ Fx S ∧ HP D cy (b0 + 367) NALL T U.heap ∧ Fx T
def Wb2 (D : va_G) (cy : Nat → ClassId) (b0 : Nat) (S T : St) (U : State) : Prop := HP D cy b0 NALL S U.heap ∧ Fx S ∧ HP D cy (b0 + 367) NALL T U.heap ∧ Fx T
def QC2 (P : Option Value → St → St → Prop) (D : va_G) (cy : Nat → ClassId) (b0 : Nat) : Array Value → State → Outcome → State → Prop := fun _ st oc t => (∃ (v : Option Value) (S T : St), oc = .returned v ∧ P v S T ∧ Wb2 D cy b0 S T t) ∧ va_F (AB b0) st t
def Pz2 (P : Bool → St → St → Prop) : Option Value → St → St → Prop := fun v S T => ∃ r : Bool, v = some (.int (b2i r)) ∧ P r S T
theorem Wd2.bl {D : va_G} {cy : Nat → ClassId} {b0 : Nat} {S T : St} (av : List Value) : FrameBlind (va_Pc av (Wd2 D cy b0 S T)) := fun a U g mk q => ⟨q.1, WKg.blind q.2.1 g mk a, q.2.2⟩
theorem q_pS1 {D : va_G} {cy : Nat → ClassId} {b0 B : Nat} {S : St} {s : State} {H : Heap} {locs : List Loc} (h : WK2 D cy b0 s) (hBA : ∀ q, AA B q → AB b0 q) (hP : HP D cy B NALL S H) (hF : Fx S) (hS : va_S (AB b0) s.heap H locs) (av : List Value) : PreS s H (va_Pc av (Wd D cy B NALL S)) av :=
  ⟨Wd.bl av, fun U hU hW => ⟨rfl, WKg.to h hBA (Nat.le_of_lt (Nat.lt_of_le_of_lt (Nat.le_add_right B 0) (hP 0 (by decide)).lt)) hS hU hW, by rw [hU]; exact hP, hF⟩⟩
theorem q_pV1 {D : va_G} {cy : Nat → ClassId} {b0 B : Nat} {S : St} {s : State} {H : Heap} {locs : List Loc} (h : WK2 D cy b0 s) (hBA : ∀ q, AA B q → AB b0 q) (hP : HP D cy B NALL S H) (hF : Fx S) (hS : va_S (AB b0) s.heap H locs) (As : List Value) : PreV s H RX5 (B + 0) (va_Pc (.ref (B + 0) :: As) (Wd D cy B NALL S)) As :=
  ⟨Wd.bl _, va_recv (ws := [(B + 0, _)]) (q0 := 0) h.1 (hP.one (by decide) (cell_5 kk_0)) (q := (RX5, TX5, 8)) rfl rfl, fun U hU hW => ⟨rfl, WKg.to h hBA (Nat.le_of_lt (Nat.lt_of_le_of_lt (Nat.le_add_right B 0) (hP 0 (by decide)).lt)) hS hU hW, by rw [hU]; exact hP, hF⟩⟩
theorem q_pS2 {D : va_G} {cy : Nat → ClassId} {b0 : Nat} {S T : St} {s : State} {H : Heap} {locs : List Loc} (h : WK2 D cy b0 s) (hP : HP D cy b0 NALL S H) (hF : Fx S) (hP2 : HP D cy (b0 + 367) NALL T H) (hF2 : Fx T) (hS : va_S (AB b0) s.heap H locs) (av : List Value) : PreS s H (va_Pc av (Wd2 D cy b0 S T)) av :=
  ⟨Wd2.bl av, fun U hU hW => ⟨rfl, WKg.to h (fun _ q => q) (Nat.le_of_lt (Nat.lt_of_le_of_lt (Nat.le_add_right b0 0) (hP 0 (by decide)).lt)) hS hU hW, by rw [hU]; exact hP, hF, by rw [hU]; exact hP2, hF2⟩⟩
/-- the script beside the world -/
def WdX (D : va_G) (cy : Nat → ClassId) (b0 : Nat) (S : St) (b L : Nat) (xs : Nat → Int32) (U : State) : Prop := Wd D cy b0 NALL S U ∧ va_X b L xs U U.heap ∧ b < U.heap.size ∧ ¬ AA b0 b
theorem WdX.bl {D : va_G} {cy : Nat → ClassId} {b0 : Nat} {S : St} {b L : Nat} {xs : Nat → Int32} (av : List Value) : FrameBlind (va_Pc av (WdX D cy b0 S b L xs)) := fun a U g mk q => ⟨q.1, ⟨WKg.blind q.2.1.1 g mk a, q.2.1.2⟩, va_X.moved (u := U) (U := U.calling g mk a) (Vm.Alike.refl U.vm) q.2.2.1, q.2.2.2⟩
theorem q_pSX {D : va_G} {cy : Nat → ClassId} {b0 : Nat} {S : St} {s : State} {H : Heap} {locs : List Loc} {b L : Nat} {xs : Nat → Int32} (h : WK2 D cy b0 s) (hP : HP D cy b0 NALL S H) (hF : Fx S) (hS : va_S (AB b0) s.heap H locs) (hX : va_X b L xs s s.heap) (hbl : b < s.heap.size) (hbA : ¬ AB b0 b) (av : List Value) : PreS s H (va_Pc av (WdX D cy b0 S b L xs)) av :=
  ⟨WdX.bl av, fun U hU hW => ⟨rfl, ⟨WKg.to h AA_o (Nat.le_of_lt (Nat.lt_of_le_of_lt (Nat.le_add_right b0 0) (hP 0 (by decide)).lt)) hS hU hW, by rw [hU]; exact hP, hF⟩, va_X.moved hW.alike (by rw [hU]; exact hX.kept (hS.2.1 b hbl hbA)), by rw [hU]; exact Nat.lt_of_lt_of_le hbl hS.1, fun z => hbA (AA_o b z)⟩⟩
section Q2
variable {p : Program} {l : Launch} {e : Env} {R : Room} {s : State} {m : MethodId} {args : Array Value} {below : List Frame} {meth : Method} {c : Code} {H : Heap} {locs : List Loc} {cells slots : Nat} {Q : State → Prop}
variable {cc : ByteArray} {pc : Nat} {ls : Array Slot} {rest st0 : List Value} {a : Array Value} {H0 : Heap} {mc ms : Nat} {D : va_G} {cy : Nat → ClassId} {b0 B : Nat} {P : Option Value → St → Prop} {Bw : St → State → Prop}
/-- a call on one of the two objects -/
theorem q_call1 (hr : va_Run p l e R s m args below meth c H locs cells slots mc ms (F0 m pc ls st0) rest (QC P Bw B a) (AA B)) (hS : va_S (AB b0) H0 H locs) (hBA : ∀ q, AA B q → AB b0 q)
    (kk : ∀ (v : Option Value) (S : St) (t : State) (H1 : Heap) (locs1 : List Loc), t.heap = H1 → P v S → Bw S t → (∀ q : Nat, q < H.size → ¬ AA B q → H1[q]? = H[q]?) → va_S (AB b0) H0 H1 locs1 → W p l e R s m args below meth c H1 locs1 (cells + mc) (slots + ms) Q (F0 m (pc + 3) ls (v.toList ++ rest))) : W p l e R s m args below meth c H locs cells slots Q (F0 m pc ls st0) := by
  intro T hT X
  obtain ⟨v, st₀, t, T', L, h0, X', hL, e1, e2, ⟨⟨v2, S, hv, hp, hb⟩, hF⟩, st⟩ := hr T hT X
  cases hv
  obtain ⟨k1, k2, k3⟩ := vx_keep h0 e1 hS (fun q _ h => hBA q h) hBA hL hF
  obtain ⟨t2, a1, b1⟩ := kk v S t T'.heap (locs ++ L) e1.symm hp hb k2 k3 T' rfl X'
  exact ⟨t2, st t2 a1, b1⟩
/-- a call on one of the two objects that doesn't throw here -/
theorem q_callN (hr : vx_Run p l e R s m args below meth c H locs cells slots mc ms (F0 m pc ls st0) rest (QC P Bw B a) (XX (fun _ _ => False) Bw B) (AA B)) (hS : va_S (AB b0) H0 H locs) (hBA : ∀ q, AA B q → AB b0 q)
    (kk : ∀ (v : Option Value) (S : St) (t : State) (H1 : Heap) (locs1 : List Loc), t.heap = H1 → P v S → Bw S t → (∀ q : Nat, q < H.size → ¬ AA B q → H1[q]? = H[q]?) → va_S (AB b0) H0 H1 locs1 → W p l e R s m args below meth c H1 locs1 cells slots Q (F0 m (pc + 3) ls (v.toList ++ rest))) : W p l e R s m args below meth c H locs cells slots Q (F0 m pc ls st0) := by
  intro T hT X
  rcases hr T hT X with ⟨v, st₀, t, T', L, h0, X', hL, e1, e2, ⟨⟨v2, S, hv, hp, hb⟩, hF⟩, st⟩ | ⟨q, st₀, t, T', L, E, ce, h0, X', hL, e1, e2, ⟨u, hp, hr2⟩, -⟩
  · cases hv
    obtain ⟨k1, k2, k3⟩ := vx_keep h0 e1 hS (fun q _ h => hBA q h) hBA hL hF
    obtain ⟨t2, a1, b1⟩ := kk v S t T'.heap (locs ++ L) e1.symm hp hb k2 k3 T' rfl X'
    exact ⟨t2, st t2 a1, b1⟩
  · exact False.elim hp
/-- a call with both objects -/
theorem q_call2 {P2 : Option Value → St → St → Prop} (hr : va_Run p l e R s m args below meth c H locs cells slots mc ms (F0 m pc ls st0) rest (QC2 P2 D cy b0 a) (AB b0)) (hS : va_S (AB b0) H0 H locs)
    (kk : ∀ (v : Option Value) (S T : St) (t : State) (H1 : Heap) (locs1 : List Loc), t.heap = H1 → P2 v S T → Wb2 D cy b0 S T t → va_S (AB b0) H0 H1 locs1 → W p l e R s m args below meth c H1 locs1 (cells + mc) (slots + ms) Q (F0 m (pc + 3) ls (v.toList ++ rest))) : W p l e R s m args below meth c H locs cells slots Q (F0 m pc ls st0) := by
  intro T hT X
  obtain ⟨v, st₀, t, T', L, h0, X', hL, e1, e2, ⟨⟨v2, S2, T2, hv, hp, hb⟩, hF⟩, st⟩ := hr T hT X
  cases hv
  obtain ⟨k1, k2, k3⟩ := vx_keep h0 e1 hS (fun _ _ h => h) (fun _ h => h) hL hF
  obtain ⟨t2, a1, b1⟩ := kk v S2 T2 t T'.heap (locs ++ L) e1.symm hp hb k3 T' rfl X'
  exact ⟨t2, st t2 a1, b1⟩
theorem q_zret2 (hexec : p.tables.exec = Jvm.exec) (hb : c.code = cc) (hr : meth.sig.returnType = some .boolean) {S T : St} (hP : HP D cy b0 NALL S H) (hF : Fx S) (hP2 : HP D cy (b0 + 367) NALL T H) (hF2 : Fx T) (hS : va_S (AB b0) s.heap H locs) {v : Bool} {P : Bool → St → St → Prop} (hw : P v S T) (hdg : decode cc pc = .ok (.ireturn, 1)) (hlocks : meth.locks = false) : W p l e R s m args below meth c H locs cells slots (MQ below (QC2 (Pz2 P) D cy b0) args s cells slots (AB b0)) (F0 m pc ls [.int (b2i v)]) :=
  W.zret hexec hb hr (b2i_nar v) (fun t ht _ => ⟨⟨_, S, T, rfl, ⟨v, rfl, hw⟩, by rw [ht]; exact hP, hF, by rw [ht]; exact hP2, hF2⟩, hS.F ht⟩) hS.2.2 hdg hlocks
end Q2
/-! the two objects are made -/
theorem q_pC1 {D : va_G} {cy : Nat → ClassId} {b0 B N : Nat} {S : St} {s : State} {H : Heap} {locs : List Loc} (h : WK2 D cy b0 s) (hBA : ∀ q, AA B q → AB b0 q) (hC : WC D cy B N S H) (hS : va_S (AB b0) s.heap H locs) (av : List Value) : PreS s H (va_Pc av (WcP D cy B N S)) av := ⟨WcP.bl av, fun U hU hW => ⟨rfl, WKg.to h hBA (by rw [hC.2.1]; exact Nat.le_add_right _ _) hS hU hW, by rw [hU]; exact hC⟩⟩
theorem q_new2 {p : Program} {l : Launch} {e : Env} {R : Room} {s : State} {m : MethodId} {args : Array Value} {below : List Frame} {meth : Method} {H : Heap} {locs : List Loc} {cells slots : Nat} {Q : State → Prop} {cc : ByteArray} {pc : Nat} {ls : Array Slot} {rest : List Value} {D : va_G} {cy : Nat → ClassId} {B N : Nat} {S : St} {H0 : Heap} {A : Nat → Prop} {c0 : Code} (hexec : p.tables.exec = Jvm.exec) (hb : c0.code = cc) {own C : String} {T : u_T} {NF ci index : Nat} {Ts : List Cond} (hts : ∀ w ∈ Ts, w.before args s = true) (hin : ∀ w ∈ u_ws C T NF, w ∈ Ts) (ty : Nat → FieldType) (hty : ∀ k, k < NF → parseFieldDescriptor (T k).2.2.1 = some (ty k)) (hown : s.vm.findClass own = some m.cls) (hcl : (Cond.classLink own index C).before args s = true) (hinst : (Cond.instantiable C NF).before args s = true) (hini : (Cond.initialized C).before args s = true)
    (hK : va_K D vwCl (tysC cy) s) (hC : WC D cy B N S H) (hS : va_S A H0 H locs) (hc : vwCl[ci]? = some (C, T, NF)) {fs : List Value} (he : cellC cy B S N = .inr (ci, fs)) (hfs : ∀ j, j < NF → defaultValue (ty j) = vp_V fs j) (hcells : cells + 1 ≤ R.cells) (hslots : slots + NF ≤ R.slots) (hdg : decode cc pc = .ok (.new index, 3))
    (kk : ∀ (H1 : Heap), WC D cy B (N + 1) S H1 → va_S A H0 H1 locs → (∀ q : Nat, q < H.size → H1[q]? = H[q]?) → W p l e R s m args below meth c0 H1 locs (cells + 1) (slots + NF) Q (F0 m (pc + 3) ls (.ref (B + N) :: rest))) : W p l e R s m args below meth c0 H locs cells slots Q (F0 m pc ls rest) := by
  have hKn := hK.1 ci _ hc
  refine W.newcK hexec hb hown hcl hinst hini rfl hdg hcells hslots hKn.2.1 hC.2.1 fun H1 kC hkC e1 z1 o1 => ?_
  exact kk H1 (hC.push z1 o1 (by rw [he]; exact ⟨_, hc, (u_born ty hts hin hKn hkC e1 hty).to hfs⟩) (fun _ _ => rfl) (hC.2.2.mono (Nat.le_succ N))) (hS.push hC.2.1 (by omega) o1) (fun q hq => o1 q (by rw [← hC.2.1]; exact hq))
