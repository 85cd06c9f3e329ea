/-! the constructors' world: the first N cells stand, the heap ends behind them, the numbers of all cells to come are 0 and null -/
def Zr (N : Nat) (S : St) : Prop := ∀ k, N ≤ k → ∀ j, gI S k j = 0 ∧ gJ S k j = 0 ∧ gR S k j = none ∧ gD S k j = 0
theorem Zr.mono {N N' : Nat} {S : St} (h : Zr N S) (hn : N ≤ N') : Zr N' S := fun k hk j => h k (Nat.le_trans hn hk) j
theorem Zr.sI {N : Nat} {S : St} (h : Zr N S) {k : Nat} (hk : k < N) (j : Nat) (v : Int32) : Zr N (sI S k j v) := fun a ha b => by
  have := h a ha b
  refine ⟨?_, this.2.1, this.2.2.1, this.2.2.2⟩
  rw [gI_sI, if_neg (by omega)]; exact this.1
theorem Zr.sR {N : Nat} {S : St} (h : Zr N S) {k : Nat} (hk : k < N) (j : Nat) (v : Option Nat) : Zr N (sR S k j v) := fun a ha b => by
  have := h a ha b
  refine ⟨this.1, this.2.1, ?_, this.2.2.2⟩
  rw [gR_sR, if_neg (by omega)]; exact this.2.2.1
def WC (D : va_G) (cy : Nat → ClassId) (b0 N : Nat) (S : St) (H : Heap) : Prop := HP D cy b0 N S H ∧ H.size = b0 + N ∧ Zr N S
def WcP (D : va_G) (cy : Nat → ClassId) (b0 N : Nat) (S : St) (U : State) : Prop := WK D cy b0 U ∧ WC D cy b0 N S U.heap
def WcB (D : va_G) (cy : Nat → ClassId) (b0 N : Nat) (S : St) (U : State) : Prop := WC D cy b0 N S U.heap
theorem WcP.bl {D : va_G} {cy : Nat → ClassId} {b0 N : Nat} {S : St} (av : List Value) : FrameBlind (va_Pc av (WcP D cy b0 N S)) := fun a U g mk q => ⟨q.1, WKg.blind q.2.1 g mk a, q.2.2⟩
theorem q_pC {D : va_G} {cy : Nat → ClassId} {b0 N : Nat} {S : St} {s : State} {H : Heap} {locs : List Loc} (h : WK D cy b0 s) (hC : WC D cy b0 N S H) (hS : va_S (AA b0) s.heap H locs) (av : List Value) : PreS s H (va_Pc av (WcP D cy b0 N S)) av := ⟨WcP.bl av, fun U hU hW => ⟨rfl, WK.to h hS hU hW, by rw [hU]; exact hC⟩⟩
/-- a matrix's outer row -/
def mrow (S : St) (N n : Nat) : St := (S.1, S.2.1, fun a b => if a = N ∧ b < n then some (N + 1 + b) else S.2.2.1 a b, S.2.2.2)
theorem gR_mrow (S : St) (N n a b : Nat) : gR (mrow S N n) a b = if a = N ∧ b < n then some (N + 1 + b) else gR S a b := rfl
theorem gI_mrow (S : St) (N n a b : Nat) : gI (mrow S N n) a b = gI S a b := rfl
theorem new_0 {cy : Nat → ClassId} {b0 N : Nat} {S : St} (h : kd N = 0) (hZ : Zr N S) : cellC cy b0 S N = .inr (0, [.null, .null, .int 0]) := by
  rw [cell_0 h]; simp [(hZ N (Nat.le_refl N) _).1, (hZ N (Nat.le_refl N) _).2.2.1, rf, va_rf]
theorem new_1 {cy : Nat → ClassId} {b0 N : Nat} {S : St} (h : kd N = 1) (hZ : Zr N S) : cellC cy b0 S N = .inr (1, [.int 0, .null, .null, .int 0, .int 0, .int 0, .int 0]) := by
  rw [cell_1 h]; simp [(hZ N (Nat.le_refl N) _).1, (hZ N (Nat.le_refl N) _).2.2.1, rf, va_rf]
theorem new_2 {cy : Nat → ClassId} {b0 N : Nat} {S : St} (h : kd N = 2) (hZ : Zr N S) : cellC cy b0 S N = .inr (2, [.int 0, .int 0, .int 0, .int 0, .int 0, .null, .null, .null]) := by
  rw [cell_2 h]; simp [(hZ N (Nat.le_refl N) _).1, (hZ N (Nat.le_refl N) _).2.2.1, rf, va_rf]
theorem new_3 {cy : Nat → ClassId} {b0 N : Nat} {S : St} (h : kd N = 3) (hZ : Zr N S) : cellC cy b0 S N = .inr (3, [.int 0, .int 0, .int 0, .int 0, .long 0]) := by
  rw [cell_3 h]; simp [(hZ N (Nat.le_refl N) _).1, (hZ N (Nat.le_refl N) _).2.1]
theorem new_4 {cy : Nat → ClassId} {b0 N : Nat} {S : St} (h : kd N = 4) (hZ : Zr N S) : cellC cy b0 S N = .inr (4, [.null, .null, .null, .null, .int 0, .int 0, .int 0, .null, .null, .null, .null, .null, .int 0]) := by
  rw [cell_4 h]; simp [(hZ N (Nat.le_refl N) _).1, (hZ N (Nat.le_refl N) _).2.2.1, rf, va_rf]
theorem new_5 {cy : Nat → ClassId} {b0 N : Nat} {S : St} (h : kd N = 5) (hZ : Zr N S) : cellC cy b0 S N = .inr (5, [.null, .null, .null, .null, .int 0, .null, .null, .int 0]) := by
  rw [cell_5 h]; simp [(hZ N (Nat.le_refl N) _).1, (hZ N (Nat.le_refl N) _).2.2.1, rf, va_rf]
theorem vr_outer (c : ClassId) (N h0 : Nat) : ∀ i : Nat, Jvm.Free.Multi.outerC c N h0 i = arrV c N (fun j => va_rf (if j < i then some (h0 + 1 + j) else none))
  | 0 => by
    show ({ cls := c, slots := Array.replicate N .null, vm := .none } : Cell) = _
    rw [arrV_new]
    refine congrArg (arrV c N) (funext fun j => ?_)
    simp [va_rf]
  | i + 1 => by
    show (Jvm.Free.Multi.outerC c N h0 i).setSlot i (.ref (h0 + 1 + i)) = _
    rw [vr_outer c N h0 i, arrV_store]
    refine congrArg (arrV c N) (funext fun j => ?_)
    by_cases e : j = i
    · subst e
      simp [updV, va_rf]
    · by_cases h : j < i
      · simp [updV, e, h, Nat.lt_succ_of_lt h]
      · simp [updV, e, h, show ¬ j < i + 1 by omega]
section QN
variable {p : Program} {l : Launch} {e : Env} {R : Room} {s : State} {m : MethodId} {args : Array Value} {below : List Frame} {meth : Method} {c : Code} {H : Heap} {locs : List Loc} {cells slots : Nat} {Q : State → Prop}
variable {cc : ByteArray} {pc : Nat} {ls : Array Slot} {rest : List Value} {D : va_G} {cy : Nat → ClassId} {b0 N : Nat} {S : St} {H0 : Heap}
theorem WC.push {H1 : Heap} {S' : St} (hC : WC D cy b0 N S H) (z1 : H1.size = b0 + N + 1) (o1 : ∀ q : Nat, q < b0 + N → H1[q]? = H[q]?) (he : va_at D vwCl (b0 + N, cellC cy b0 S' N) H1) (hs : ∀ k, k < N → cellC cy b0 S' k = cellC cy b0 S k) (hz : Zr (N + 1) S') : WC D cy b0 (N + 1) S' H1 := by
  obtain ⟨hP, hsz, hZ⟩ := hC
  refine ⟨fun k hk => ?_, by omega, hz⟩
  by_cases h : k = N
  · rw [h]; exact he
  · rw [hs k (by omega)]
    exact (hP k (by omega)).kept (o1 _ (by show b0 + k < b0 + N; omega))
theorem va_S.push {A : Nat → Prop} {H1 : Heap} {n : Nat} (hS : va_S A H0 H locs) (hsz : H.size = n) (z1 : n ≤ H1.size) (o1 : ∀ q : Nat, q < n → H1[q]? = H[q]?) : va_S A H0 H1 locs := by
  subst hsz
  exact ⟨Nat.le_trans hS.1 z1, fun x h1 h2 => (o1 x (Nat.lt_of_lt_of_le h1 hS.1)).trans (hS.2.1 x h1 h2), hS.2.2⟩
theorem q_new {c0 : Code} (hexec : p.tables.exec = Jvm.exec) (hb : c0.code = cc) {own C : String} {T : u_T} {NF ci index : Nat} {Ts : List Cond} (hts : ∀ w ∈ Ts, w.before args s = true) (hin : ∀ w ∈ u_ws C T NF, w ∈ Ts) (ty : Nat → FieldType) (hty : ∀ k, k < NF → parseFieldDescriptor (T k).2.2.1 = some (ty k)) (hown : s.vm.findClass own = some m.cls) (hcl : (Cond.classLink own index C).before args s = true) (hinst : (Cond.instantiable C NF).before args s = true) (hini : (Cond.initialized C).before args s = true)
    (hK : va_K D vwCl (tysC cy) s) (hC : WC D cy b0 N S H) (hS : va_S (AA b0) H0 H locs) (hc : vwCl[ci]? = some (C, T, NF)) {fs : List Value} (he : cellC cy b0 S N = .inr (ci, fs)) (hfs : ∀ j, j < NF → defaultValue (ty j) = vp_V fs j) (hcells : cells + 1 ≤ R.cells) (hslots : slots + NF ≤ R.slots) (hdg : decode cc pc = .ok (.new index, 3))
    (kk : ∀ (H1 : Heap), WC D cy b0 (N + 1) S H1 → va_S (AA b0) H0 H1 locs → W p l e R s m args below meth c0 H1 locs (cells + 1) (slots + NF) Q (F0 m (pc + 3) ls (.ref (b0 + N) :: rest))) : W p l e R s m args below meth c0 H locs cells slots Q (F0 m pc ls rest) := by
  have hKn := hK.1 ci _ hc
  refine W.newcK hexec hb hown hcl hinst hini rfl hdg hcells hslots hKn.2.1 hC.2.1 fun H1 kC hkC e1 z1 o1 => ?_
  exact kk H1 (hC.push z1 o1 (by rw [he]; exact ⟨_, hc, (u_born ty hts hin hKn hkC e1 hty).to hfs⟩) (fun _ _ => rfl) (hC.2.2.mono (Nat.le_succ N))) (hS.push hC.2.1 (by omega) o1)
theorem q_newaI (hexec : p.tables.exec = Jvm.exec) (hb : c.code = cc) (harr : (Cond.arrayClass .int).before args s = true) (hK : va_K D vwCl (tysC cy) s) (hC : WC D cy b0 N S H) (hS : va_S (AA b0) H0 H locs) (hk : kd N = 7) {n : Int32} (hn : ¬ n < 0) (hN : n.toNatClampNeg = ln N) (hlen : ln N ≤ 4096) (hcells : cells + 1 ≤ R.cells) (hslots : slots + ln N ≤ R.slots) (hdg : decode cc pc = .ok (.newarray .int, 2))
    (kk : ∀ (H1 : Heap), WC D cy b0 (N + 1) S H1 → va_S (AA b0) H0 H1 locs → W p l e R s m args below meth c H1 locs (cells + 1) (slots + ln N) Q (F0 m (pc + 2) ls (.ref (b0 + N) :: rest))) : W p l e R s m args below meth c H locs cells slots Q (F0 m pc ls (.int n :: rest)) := by
  refine va_newaK (atype := .int) hexec hb harr rfl hdg rfl hn hN (by show ln N * 4 ≤ 536870912; omega) hcells hslots hC.2.1 fun H1 cA e1 z1 o1 hAr hNm => ?_
  have hcA : cA = cy 0 := Option.some.inj (hNm.symm.trans (hK.2 0 _ rfl).2)
  subst hcA
  refine kk H1 (hC.push z1 o1 ?_ (fun _ _ => rfl) (hC.2.2.mono (Nat.le_succ N))) (hS.push hC.2.1 (by omega) o1)
  rw [cell_7 hk]
  show H1[b0 + N]? = some (vp_cell _ _)
  rw [e1, vp_cell_i]
  congr 2
  funext j
  rw [(hC.2.2 N (Nat.le_refl N) j).1]; rfl
theorem q_newaZ (hexec : p.tables.exec = Jvm.exec) (hb : c.code = cc) (harr : (Cond.arrayClass .boolean).before args s = true) (hK : va_K D vwCl (tysC cy) s) (hC : WC D cy b0 N S H) (hS : va_S (AA b0) H0 H locs) (hk : kd N = 8) {n : Int32} (hn : ¬ n < 0) (hN : n.toNatClampNeg = ln N) (hlen : ln N ≤ 4096) (hcells : cells + 1 ≤ R.cells) (hslots : slots + ln N ≤ R.slots) (hdg : decode cc pc = .ok (.newarray .boolean, 2))
    (kk : ∀ (H1 : Heap), WC D cy b0 (N + 1) S H1 → va_S (AA b0) H0 H1 locs → W p l e R s m args below meth c H1 locs (cells + 1) (slots + ln N) Q (F0 m (pc + 2) ls (.ref (b0 + N) :: rest))) : W p l e R s m args below meth c H locs cells slots Q (F0 m pc ls (.int n :: rest)) := by
  refine va_newaK (atype := .boolean) hexec hb harr rfl hdg rfl hn hN (by show ln N * 1 ≤ 536870912; omega) hcells hslots hC.2.1 fun H1 cA e1 z1 o1 hAr hNm => ?_
  have hcA : cA = cy 1 := Option.some.inj (hNm.symm.trans (hK.2 1 _ rfl).2)
  subst hcA
  refine kk H1 (hC.push z1 o1 ?_ (fun _ _ => rfl) (hC.2.2.mono (Nat.le_succ N))) (hS.push hC.2.1 (by omega) o1)
  rw [cell_8 hk]
  show H1[b0 + N]? = some (vp_cell _ _)
  rw [e1, vp_cell_i]
  congr 2
  funext j
  rw [(hC.2.2 N (Nat.le_refl N) j).1]; rfl
theorem q_anew (hexec : p.tables.exec = Jvm.exec) (hb : c.code = cc) {own C : String} {index t0 : Nat} (hown : s.vm.findClass own = some m.cls) (hclink : (Cond.classLink own index C).before args s = true) (hover : va_AO C s) (hK : va_K D vwCl (tysC cy) s) (hC : WC D cy b0 N S H) (hS : va_S (AA b0) H0 H locs) {cA : ClassId} (ht : (tysC cy)[t0]? = some (cA, .object C)) (he : cellC cy b0 S N = .inl (cA, ln N, .inr (.inr (.inr (.inr (fun j => (gR S N j).map (fun q => b0 + q))))))) {n : Int32} (hn : ¬ n < 0) (hN : n.toNatClampNeg = ln N) (hlen : ln N ≤ 4096) (hcells : cells + 1 ≤ R.cells) (hslots : slots + ln N ≤ R.slots) (hdg : decode cc pc = .ok (.anewarray index, 3))
    (kk : ∀ (H1 : Heap), WC D cy b0 (N + 1) S H1 → va_S (AA b0) H0 H1 locs → W p l e R s m args below meth c H1 locs (cells + 1) (slots + ln N) Q (F0 m (pc + 3) ls (.ref (b0 + N) :: rest))) : W p l e R s m args below meth c H locs cells slots Q (F0 m pc ls (.int n :: rest)) := by
  refine W.anew hexec hb hown hclink (va_AO.use hover) rfl hdg rfl hn (by rw [hN]; omega) hcells (by rw [hN]; exact hslots) fun cA' kA comp f1 f2 f3 f4 => ?_
  obtain ⟨kA2, comp2, k1, k2, k3, k4⟩ := (hK.2 t0 _ ht).2
  have hcA : cA' = cA := Option.some.inj (f1.symm.trans k4)
  subst hcA
  generalize hH1 : H.push ({ cls := cA', slots := Array.replicate n.toNatClampNeg .null, vm := .none } : Cell) = H1
  have z1 : H1.size = H.size + 1 := by rw [← hH1, Array.size_push]
  have e1 : H1[H.size]? = some (arrV cA' n.toNatClampNeg (fun _ => .null)) := by rw [← hH1, Array.getElem?_push_size, ← arrV_new]
  have o1 : ∀ q : Nat, q < H.size → H1[q]? = H[q]? := fun q hq => by rw [← hH1, Array.getElem?_push, if_neg (Nat.ne_of_lt hq)]
  rw [hC.2.1] at z1 e1 o1 ⊢
  rw [hN]
  refine kk H1 (hC.push z1 o1 ?_ (fun _ _ => rfl) (hC.2.2.mono (Nat.le_succ N))) (hS.push hC.2.1 (by omega) o1)
  rw [he]
  show H1[b0 + N]? = some (vp_cell _ _)
  rw [e1, vp_cell_q, hN]
  congr 2
  funext j
  show Value.null = va_rf ((gR S N j).map _)
  rw [(hC.2.2 N (Nat.le_refl N) j).2.2.1]; rfl
/-- new int[7][7] at place 10 -/
theorem q_multi (hexec : p.tables.exec = Jvm.exec) (hb : c.code = cc) {own : String} {index : Nat} (hown : s.vm.findClass own = some m.cls) (hclink : (Cond.classLink own index ("[" ++ (FieldType.array FieldType.int).toString)).before args s = true) (hover : (Cond.arrayOver (.array .int)).before args s = true) (harr : (Cond.arrayClass .int).before args s = true)
    (hK : va_K D vwCl (tysC cy) s) (hC : WC D cy b0 10 S H) (hS : va_S (AA b0) H0 H locs) (hcells : cells + 8 ≤ R.cells) (hslots : slots + 56 ≤ R.slots) (hdg : decode cc pc = .ok (.multianewarray index 2, 4))
    (kk : ∀ (H1 : Heap), WC D cy b0 18 (mrow S 10 7) H1 → va_S (AA b0) H0 H1 locs → W p l e R s m args below meth c H1 locs (cells + 8) (slots + 56) Q (F0 m (pc + 4) ls (.ref (b0 + 10) :: rest))) : W p l e R s m args below meth c H locs cells slots Q (F0 m pc ls (.int 7 :: .int 7 :: rest)) := by
  intro T hT Xs
  have h7 : (7 : Int32).toNatClampNeg = 7 := by decide
  obtain ⟨vm₁, cA, comp, -, fA, fC, hO, -, X', step⟩ := Xs.multianewarray2F hexec hown hclink hover harr (g := F0 m pc ls (.int 7 :: .int 7 :: rest)) rfl (by rw [hb]; exact hdg) rfl (by decide) (by decide) (by decide) (by decide) (by decide) rfl rfl (by rw [h7]; exact hcells) (by rw [h7]; exact hslots)
  rw [h7] at X' step
  have hc4 : cA = cy 4 := Option.some.inj (fA.symm.trans (hK.2 4 _ rfl).2)
  have hc0 : comp = cy 0 := Option.some.inj (fC.symm.trans (hK.2 0 _ rfl).2)
  subst hc4
  subst hc0
  generalize hF : Jvm.Free.Multi.fill (T.setVm vm₁) (cy 4) (cy 0) 7 7 (defaultValue .int) 7 = F at X' step
  have hTh : (T.setVm vm₁).heap = H := hT
  obtain ⟨f1, f2, -, -⟩ := Jvm.Free.Multi.fill_facts (T.setVm vm₁) (cy 4) (cy 0) 7 7 (defaultValue .int) 7
  rw [hF, hTh] at f1 f2
  have hold : ∀ x : Nat, x < H.size → F.heap[x]? = H[x]? := fun x hx => by
    have := Jvm.Free.Multi.fill_old (T.setVm vm₁) (cy 4) (cy 0) 7 7 (defaultValue .int) (a := x) (by rw [hTh]; exact hx) 7
    rw [hF, hTh] at this
    exact this
  have hrow : ∀ j : Nat, j < 7 → F.heap[H.size + 1 + j]? = some (Jvm.Free.Multi.innerC (cy 0) 7 (defaultValue .int)) := fun j hj => by
    have := Jvm.Free.Multi.fill_inner (T.setVm vm₁) (cy 4) (cy 0) 7 7 (defaultValue .int) 7 j hj
    rw [hF, hTh] at this
    exact this
  obtain ⟨hP, hsz, hZ⟩ := hC
  rw [hsz] at f1 f2 hold hrow
  have hz : Zr 18 (mrow S 10 7) := fun k hk j => by
    have := hZ k (by omega) j
    refine ⟨this.1, this.2.1, ?_, this.2.2.2⟩
    rw [gR_mrow, if_neg (by omega)]; exact this.2.2.1
  have hin : ∀ j : Nat, j < 7 → va_at D vwCl (b0 + (11 + j), cellC cy b0 (mrow S 10 7) (11 + j)) F.heap := fun j hj => by
    rw [cell_7 (kd_R hj)]
    show F.heap[b0 + (11 + j)]? = some (vp_cell _ _)
    rw [show b0 + (11 + j) = b0 + 10 + 1 + j by omega, hrow j hj, vp_cell_i, ln_R hj]
    show some (arrV (cy 0) 7 (fun _ => defaultValue .int)) = _
    congr 2
    funext i
    rw [gI_mrow, (hZ (11 + j) (by omega) i).1]; rfl
  have hC' : WC D cy b0 18 (mrow S 10 7) F.heap := by
    refine ⟨fun k hk => ?_, by omega, hz⟩
    by_cases h1 : k < 10
    · rw [cell_cong (S := S) (S' := mrow S 10 7) (fun _ => rfl) (fun _ => rfl) (fun i => by rw [gR_mrow, if_neg (by omega)]) (fun _ => rfl)]
      exact (hP k h1).kept (hold _ (by show b0 + k < b0 + 10; omega))
    · by_cases h2 : k = 10
      · subst h2
        rw [cell_11 kk_10]
        show F.heap[b0 + 10]? = some (vp_cell _ _)
        rw [f2, vp_cell_q, ll_10]
        rw [show Jvm.Free.Multi.outerC (cy 4) 7 (b0 + 10) 7 = arrV (cy 4) 7 (fun j => va_rf (if j < 7 then some (b0 + 10 + 1 + j) else none)) from vr_outer _ _ _ _]
        congr 2
        funext j
        by_cases hj : j < 7
        · rw [if_pos hj, gR_mrow, if_pos ⟨rfl, hj⟩]
          show va_rf (some (b0 + 10 + 1 + j)) = va_rf (some (b0 + (10 + 1 + j)))
          rw [show b0 + 10 + 1 + j = b0 + (10 + 1 + j) by omega]
        · rw [if_neg hj, gR_mrow, if_neg (by omega), (hZ 10 (Nat.le_refl _) j).2.2.1]; rfl
      · obtain ⟨j, rfl⟩ : ∃ j, k = 11 + j := ⟨k - 11, by omega⟩
        exact hin j (by omega)
  obtain ⟨t, a1, b1⟩ := kk F.heap hC' (hS.push hsz (by omega) hold) F rfl (by simpa using X')
  refine ⟨t, step t ?_, b1⟩
  have e : T.heap.size = b0 + 10 := by rw [hT]; exact hsz
  rw [e]
  exact a1
/-- a constructor's end -/
theorem q_cret (hexec : p.tables.exec = Jvm.exec) (hb : c.code = cc) (hr : meth.sig.returnType = none) (hC : WC D cy b0 N S H) (hS : va_S (AA b0) s.heap H locs) {P : St → Prop} (hw : P S) (hdg : decode cc pc = .ok (.return_, 1)) (hlocks : meth.locks = false) : W p l e R s m args below meth c H locs cells slots (MQ below (QC (Pv P) (WcB D cy b0 N) b0) args s cells slots (AA b0)) (F0 m pc ls []) :=
  W.vret hexec hb hr (fun t ht _ => ⟨⟨_, S, rfl, ⟨rfl, hw⟩, by show WC D cy b0 N S t.heap; rw [ht]; exact hC⟩, hS.F ht⟩) hS.2.2 hdg hlocks
end QN
