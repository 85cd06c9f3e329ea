def wp_X2_startAgain (S : St) (x1 : Int32) (x2 : Int32) (P : St → Prop) : Prop := (∀ S2 : St, S2 = sI S 1 0 x1 → (∀ S7 : St, S7 = sI S2 1 1 x2 → (∀ S12 : St, S12 = sI S7 1 2 0 → (∀ S17 : St, S17 = sI S12 1 3 0 → (∀ S22 : St, S22 = sI S17 1 4 0 → (P S22))))))
abbrev rm_X2_startAgain : Room := { frames := 0, cells := 0, slots := 0, locals := 0 }
def wp_X2_join (S : St) (x1 : Int32) (x2 : Int32) (x3 : Int32) (P : Int32 → St → Prop) : Prop := (∀ y4 : Int32, y4 = (gI S 1 2) → (if y4 < 14 then (vp_in y4 14 ∧ ∀ S22 : St, S22 = sI S 2 (y4.toNatClampNeg) x1 → (vp_in y4 14 ∧ ∀ S30 : St, S30 = sI S22 3 (y4.toNatClampNeg) x2 → (vp_in y4 14 ∧ ∀ S38 : St, S38 = sI S30 4 (y4.toNatClampNeg) x3 → (∀ S46 : St, S46 = sI S38 1 2 ((gI S38 1 2) + 1) → (P y4 S46))))) else (P (-1) S)))
abbrev rm_X2_join : Room := { frames := 0, cells := 0, slots := 0, locals := 0 }
def wp_X2_hasNode (S : St) (x1 : Int32) (P : Bool → St → Prop) : Prop := (if x1 < 0 then (P false S) else (if (gI S 1 0) ≤ x1 then (P false S) else (P true S)))
abbrev rm_X2_hasNode : Room := { frames := 0, cells := 0, slots := 0, locals := 0 }
def wp_X2_isCut (S : St) (x1 : Int32) (P : Bool → St → Prop) : Prop := (if (((gI S 1 4) >>> (x1 &&& 31)) &&& 1) = 0 then (P false S) else (P true S))
abbrev rm_X2_isCut : Room := { frames := 0, cells := 0, slots := 0, locals := 0 }
def wp_X2_hasFibre (S : St) (x1 : Int32) (P : Bool → St → Prop) : Prop := (if x1 < 0 then (P false S) else (if (gI S 1 2) ≤ x1 then (P false S) else (P true S)))
abbrev rm_X2_hasFibre : Room := { frames := 0, cells := 0, slots := 0, locals := 0 }
def wp_X2_acrossFrom (S : St) (x1 : Int32) (x2 : Int32) (P : Int32 → St → Prop) : Prop := (wp_X2_hasFibre S x2 (fun r2 S2 => (if r2 = true then (vp_in x2 14 ∧ (if (gI S2 2 (x2.toNatClampNeg)) = x1 then (vp_in x2 14 ∧ (P (gI S2 3 (x2.toNatClampNeg)) S2)) else (vp_in x2 14 ∧ (if (gI S2 3 (x2.toNatClampNeg)) = x1 then (vp_in x2 14 ∧ (P (gI S2 2 (x2.toNatClampNeg)) S2)) else (P (-1) S2))))) else (P (-1) S2))))
abbrev rm_X2_acrossFrom : Room := { frames := 1, cells := 0, slots := 0, locals := 21 }
def wp_X2_lengthOf (S : St) (x1 : Int32) (P : Int32 → St → Prop) : Prop := (wp_X2_hasFibre S x1 (fun r2 S2 => (if r2 = true then (vp_in x1 14 ∧ (P (gI S2 4 (x1.toNatClampNeg)) S2)) else (P 0 S2))))
abbrev rm_X2_lengthOf : Room := { frames := 1, cells := 0, slots := 0, locals := 21 }
def wp_X3_channelAt (S : St) (k : Nat) (x1 : Int32) (P : Int32 → St → Prop) : Prop := (P ((((gJ S k 4) >>> (Int32.toInt64 (8 * (((gI S k 0) - 1) - x1)) &&& 63)).toInt32) &&& 255) S)
abbrev rm_X3_channelAt : Room := { frames := 0, cells := 0, slots := 0, locals := 0 }
def wp_X3_uses (S : St) (k : Nat) (x1 : Int32) (P : Bool → St → Prop) : Prop := (if (((gI S k 3) >>> (x1 &&& 31)) &&& 1) = 0 then (P false S) else (P true S))
abbrev rm_X3_uses : Room := { frames := 0, cells := 0, slots := 0, locals := 0 }
def wp_X3_wavelengthsOn_48 (k : Nat) (x1 : Int32) (P : Int32 → St → Prop) (K14 : St → Int32 → Int32 → Prop) (S : St) (a2 : Int32) (a3 : Int32) : Prop := (∀ y48 : Int32, y48 = a3 + 1 → (K14 S a2 y48))
def wp_X3_wavelengthsOn_14 (k : Nat) (x1 : Int32) (P : Int32 → St → Prop) : Nat → St → Int32 → Int32 → Prop
  | 0 => fun _ _ _ => False
  | n + 1 => fun S a2 a3 => (if (gI S k 0) ≤ a3 then (P a2 S) else (wp_X3_channelAt S k a3 (fun r24 S24 => (if (r24 / 10) = x1 then (∀ y47 : Int32, y47 = (a2 ||| (1 <<< ((r24 - r24 / 10 * 10) &&& 31))) → (wp_X3_wavelengthsOn_48 k x1 P (fun S a2 a3 => wp_X3_wavelengthsOn_14 k x1 P n S a2 a3) S24 y47 a3)) else (wp_X3_wavelengthsOn_48 k x1 P (fun S a2 a3 => wp_X3_wavelengthsOn_14 k x1 P n S a2 a3) S24 a2 a3)))))
def wp_X3_wavelengthsOn (S : St) (k : Nat) (x1 : Int32) (P : Int32 → St → Prop) : Prop := (wp_X3_uses S k x1 (fun r2 S2 => (if r2 = true then (∃ n14, wp_X3_wavelengthsOn_14 k x1 P n14 S2 0 0) else (P 0 S2))))
abbrev rm_X3_wavelengthsOn : Room := { frames := 1, cells := 0, slots := 0, locals := 21 }
def wp_X3_isAheadOf (S : St) (k : Nat) (x1 : Nat) (P : Bool → St → Prop) : Prop := (if (gI S k 1) = (gI S x1 1) then (if (gI S k 2) = (gI S x1 2) then (if (gI S k 0) = (gI S x1 0) then (if 0 ≤ (lg_cmp (gJ S k 4) (gJ S x1 4)) then (P false S) else (P true S)) else (if (gI S x1 0) ≤ (gI S k 0) then (P false S) else (P true S))) else (if (gI S x1 2) ≤ (gI S k 2) then (P false S) else (P true S))) else (if (gI S x1 1) ≤ (gI S k 1) then (P false S) else (P true S)))
abbrev rm_X3_isAheadOf : Room := { frames := 0, cells := 0, slots := 0, locals := 0 }
def wp_X3_start (S : St) (k : Nat) (x1 : Int32) (x2 : Int32) (P : St → Prop) : Prop := (∀ S2 : St, S2 = sI S k 0 0 → (∀ S7 : St, S7 = sI S2 k 1 x1 → (∀ S12 : St, S12 = sI S7 k 2 x2 → (∀ S17 : St, S17 = sI S12 k 3 0 → (∀ S22 : St, S22 = sJ S17 k 4 0 → (P S22))))))
abbrev rm_X3_start : Room := { frames := 0, cells := 0, slots := 0, locals := 0 }
def wp_X3_append (S : St) (k : Nat) (x1 : Int32) (x2 : Int32) (P : St → Prop) : Prop := (∀ S16 : St, S16 = sJ S k 4 (((gJ S k 4) <<< (Int32.toInt64 8 &&& 63)) ||| (((10 * x1) + x2).toInt64)) → (∀ S28 : St, S28 = sI S16 k 3 ((gI S16 k 3) ||| (1 <<< (x1 &&& 31))) → (∀ S38 : St, S38 = sI S28 k 0 ((gI S28 k 0) + 1) → (P S38))))
abbrev rm_X3_append : Room := { frames := 0, cells := 0, slots := 0, locals := 0 }
def wp_X3_become (S : St) (k : Nat) (x1 : Nat) (P : St → Prop) : Prop := (∀ S5 : St, S5 = sI S k 0 (gI S x1 0) → (∀ S13 : St, S13 = sI S5 k 1 (gI S5 x1 1) → (∀ S21 : St, S21 = sI S13 k 2 (gI S13 x1 2) → (∀ S29 : St, S29 = sI S21 k 3 (gI S21 x1 3) → (∀ S37 : St, S37 = sJ S29 k 4 (gJ S29 x1 4) → (P S37))))))
abbrev rm_X3_become : Room := { frames := 0, cells := 0, slots := 0, locals := 0 }
def wp_X3_firstWavelength (S : St) (k : Nat) (P : Int32 → St → Prop) : Prop := (wp_X3_channelAt S k 0 (fun r2 S2 => (P (r2 - r2 / 10 * 10) S2)))
abbrev rm_X3_firstWavelength : Room := { frames := 1, cells := 0, slots := 0, locals := 21 }
def wp_X3_shiftTo_11 (k : Nat) (x1 : Int32) (P : St → Prop) : Nat → St → Int64 → Int32 → Prop
  | 0 => fun _ _ _ => False
  | n + 1 => fun S a2 a4 => (if (gI S k 0) ≤ a4 then (P S) else (∀ S33 : St, S33 = sJ S k 4 ((gJ S k 4) + (a2 <<< (Int32.toInt64 (8 * a4) &&& 63))) → (∀ y36 : Int32, y36 = a4 + 1 → (wp_X3_shiftTo_11 k x1 P n S33 a2 y36))))
def wp_X3_shiftTo (S : St) (k : Nat) (x1 : Int32) (P : St → Prop) : Prop := (wp_X3_firstWavelength S k (fun r2 S2 => (∀ y7 : Int64, y7 = ((x1 - r2).toInt64) → (∃ n11, wp_X3_shiftTo_11 k x1 P n11 S2 y7 0))))
abbrev rm_X3_shiftTo : Room := { frames := 2, cells := 0, slots := 0, locals := 41 }
def wp_X1_isGone (S : St) (k : Nat) (P : Bool → St → Prop) : Prop := (if (gI S k 6) = 0 then (P true S) else (P false S))
abbrev rm_X1_isGone : Room := { frames := 0, cells := 0, slots := 0, locals := 0 }
def wp_X1_isUp (S : St) (k : Nat) (x1 : Int32) (P : Bool → St → Prop) : Prop := (wp_X1_isGone S k (fun r1 S1 => (if r1 = true then (P false S1) else (if ((gI S1 (k + 1) 3) &&& x1) = 0 then (P true S1) else (if (gI S1 k 5) = 0 then (P false S1) else (if ((gI S1 (k + 2) 3) &&& x1) = 0 then (P true S1) else (P false S1)))))))
abbrev rm_X1_isUp : Room := { frames := 1, cells := 0, slots := 0, locals := 20 }
def wp_X1_wavelengthsOn (S : St) (k : Nat) (x1 : Int32) (P : Int32 → St → Prop) : Prop := (wp_X1_isGone S k (fun r1 S1 => (if r1 = true then (P 0 S1) else (wp_X3_wavelengthsOn S1 (k + 1) x1 (fun r14 S14 => (if (gI S14 k 5) = 0 then (P r14 S14) else (wp_X3_wavelengthsOn S14 (k + 2) x1 (fun r31 S31 => (P (r14 ||| r31) S31)))))))))
abbrev rm_X1_wavelengthsOn : Room := { frames := 2, cells := 0, slots := 0, locals := 45 }
def wp_X1_start_n_34 (k : Nat) (x1 : Int32) (x2 : Int32) (x3 : Nat) (P : St → Prop) (S : St)  : Prop := (∀ S34 : St, S34 = sI S k 5 (b2i false) → (P S34))
def wp_X1_start_n (S : St) (k : Nat) (x1 : Int32) (x2 : Int32) (x3 : Nat) (P : St → Prop) : Prop := (∀ S2 : St, S2 = sI S k 3 x1 → (∀ S7 : St, S7 = sI S2 k 4 x2 → (∀ S12 : St, S12 = sI S7 k 6 0 → (wp_X3_become S12 (k + 1) x3 (fun S20 => (wp_X1_start_n_34 k x1 x2 x3 P S20))))))
abbrev rm_X1_start_n : Room := { frames := 1, cells := 0, slots := 0, locals := 21 }
def wp_X1_start_s_34 (k : Nat) (x1 : Int32) (x2 : Int32) (x3 : Nat) (x4 : Nat) (P : St → Prop) (S : St)  : Prop := (∀ S34 : St, S34 = sI S k 5 (b2i true) → (wp_X3_become S34 (k + 2) x4 (fun S48 => (P S48))))
def wp_X1_start_s (S : St) (k : Nat) (x1 : Int32) (x2 : Int32) (x3 : Nat) (x4 : Nat) (P : St → Prop) : Prop := (∀ S2 : St, S2 = sI S k 3 x1 → (∀ S7 : St, S7 = sI S2 k 4 x2 → (∀ S12 : St, S12 = sI S7 k 6 0 → (wp_X3_become S12 (k + 1) x3 (fun S20 => (wp_X1_start_s_34 k x1 x2 x3 x4 P S20))))))
abbrev rm_X1_start_s : Room := { frames := 1, cells := 0, slots := 0, locals := 21 }
def wp_X1_joins_16 (k : Nat) (x1 : Int32) (x2 : Int32) (P : Bool → St → Prop) (S : St)  : Prop := (if (gI S k 3) = x2 then (if (gI S k 4) = x1 then (P true S) else (P false S)) else (P false S))
def wp_X1_joins (S : St) (k : Nat) (x1 : Int32) (x2 : Int32) (P : Bool → St → Prop) : Prop := (if (gI S k 3) = x1 then (if (gI S k 4) = x2 then (P true S) else (wp_X1_joins_16 k x1 x2 P S)) else (wp_X1_joins_16 k x1 x2 P S))
abbrev rm_X1_joins : Room := { frames := 0, cells := 0, slots := 0, locals := 0 }
def wp_X1_wayAt (S : St) (k : Nat) (x1 : Int32) (P : Option Nat → St → Prop) : Prop := (wp_X1_isGone S k (fun r1 S1 => (if r1 = true then (P none S1) else (if x1 = 0 then (P (some (k + 1)) S1) else (if x1 = 1 then (if (gI S1 k 5) = 0 then (P none S1) else (P (some (k + 2)) S1)) else (P none S1))))))
abbrev rm_X1_wayAt : Room := { frames := 1, cells := 0, slots := 0, locals := 20 }
def wp_X0_add (S : St) (x1 : Int32) (P : St → Prop) : Prop := (if 12 ≤ (gI S 181 2) then (P S) else (vp_in (gI S 181 2) 12 ∧ ∀ S18 : St, S18 = sI S 182 ((gI S 181 2).toNatClampNeg) x1 → (∀ S26 : St, S26 = sI S18 181 2 ((gI S18 181 2) + 1) → (P S26))))
abbrev rm_X0_add : Room := { frames := 0, cells := 0, slots := 0, locals := 0 }
def wp_X0_clear (S : St)  (P : St → Prop) : Prop := (∀ S2 : St, S2 = sI S 181 2 0 → (P S2))
abbrev rm_X0_clear : Room := { frames := 0, cells := 0, slots := 0, locals := 0 }
def wp_X0_mostBarred_63 (x1 : Int32) (x2 : Int32) (P : Int32 → St → Prop) (K8 : St → Int32 → Int32 → Int32 → Prop) (K32 : St → Int32 → Int32 → Int32 → Int32 → Int32 → Prop) (S : St) (a3 : Int32) (a4 : Int32) (a5 : Int32) (a7 : Int32) (t0 : Int32) (t1 : Bool) : Prop := (∀ y64 : Int32, y64 = (t0 + (b2i t1)) → (∀ y66 : Int32, y66 = a7 + 1 → (K32 S a3 a4 a5 y64 y66)))
def wp_X0_mostBarred_86 (x1 : Int32) (x2 : Int32) (P : Int32 → St → Prop) (K8 : St → Int32 → Int32 → Int32 → Prop) (S : St) (a3 : Int32) (a4 : Int32) (a5 : Int32) : Prop := (∀ y86 : Int32, y86 = a5 + 1 → (K8 S a3 a4 y86))
def wp_X0_mostBarred_72 (x1 : Int32) (x2 : Int32) (P : Int32 → St → Prop) (K8 : St → Int32 → Int32 → Int32 → Prop) (S : St) (a3 : Int32) (a4 : Int32) (a5 : Int32) (a6 : Int32) : Prop := (if a6 ≤ a4 then (wp_X0_mostBarred_86 x1 x2 P K8 S a3 a4 a5) else (wp_X0_mostBarred_86 x1 x2 P K8 S a5 a6 a5))
def wp_X0_mostBarred_32 (x1 : Int32) (x2 : Int32) (P : Int32 → St → Prop) (K8 : St → Int32 → Int32 → Int32 → Prop) : Nat → St → Int32 → Int32 → Int32 → Int32 → Int32 → Prop
  | 0 => fun _ _ _ _ _ _ => False
  | n + 1 => fun S a3 a4 a5 a6 a7 => (if x2 ≤ a7 then (wp_X0_mostBarred_72 x1 x2 P K8 S a3 a4 a5 a6) else (vp_in a7 12 ∧ (vp_in a5 12 ∧ (if ((gI S 183 (a7.toNatClampNeg)) &&& (gI S 182 (a5.toNatClampNeg))) = 0 then (wp_X0_mostBarred_63 x1 x2 P K8 (fun S a3 a4 a5 a6 a7 => wp_X0_mostBarred_32 x1 x2 P K8 n S a3 a4 a5 a6 a7) S a3 a4 a5 a7 a6 false) else (wp_X0_mostBarred_63 x1 x2 P K8 (fun S a3 a4 a5 a6 a7 => wp_X0_mostBarred_32 x1 x2 P K8 n S a3 a4 a5 a6 a7) S a3 a4 a5 a7 a6 true)))))
def wp_X0_mostBarred_8 (x1 : Int32) (x2 : Int32) (P : Int32 → St → Prop) : Nat → St → Int32 → Int32 → Int32 → Prop
  | 0 => fun _ _ _ _ => False
  | n + 1 => fun S a3 a4 a5 => (if (gI S 181 2) ≤ a5 then (P a3 S) else (if ((x1 >>> (a5 &&& 31)) &&& 1) = 0 then (wp_X0_mostBarred_86 x1 x2 P (fun S a3 a4 a5 => wp_X0_mostBarred_8 x1 x2 P n S a3 a4 a5) S a3 a4 a5) else (∃ n32, wp_X0_mostBarred_32 x1 x2 P (fun S a3 a4 a5 => wp_X0_mostBarred_8 x1 x2 P n S a3 a4 a5) n32 S a3 a4 a5 0 0)))
def wp_X0_mostBarred (S : St) (x1 : Int32) (x2 : Int32) (P : Int32 → St → Prop) : Prop := (∃ n8, wp_X0_mostBarred_8 x1 x2 P n8 S 0 (-1) 0)
abbrev rm_X0_mostBarred : Room := { frames := 0, cells := 0, slots := 0, locals := 0 }
def wp_X0_canPaint_126 (x1 : Int32) (x2 : Int32) (x3 : Int32) (x4 : Int32) (P : Bool → St → Prop) (Wr : St → Int32 → Int32 → Int32 → Int32 → (Bool → St → Prop) → Prop) (K21 : St → Int32 → Int32 → Prop) (S : St) (a5 : Int32) (a6 : Int32) : Prop := (∀ y126 : Int32, y126 = a6 + 1 → (K21 S a5 y126))
def wp_X0_canPaint_21 (x1 : Int32) (x2 : Int32) (x3 : Int32) (x4 : Int32) (P : Bool → St → Prop) (Wr : St → Int32 → Int32 → Int32 → Int32 → (Bool → St → Prop) → Prop) : Nat → St → Int32 → Int32 → Prop
  | 0 => fun _ _ _ => False
  | n + 1 => fun S a5 a6 => (if x3 < a6 then (P false S) else (if x4 ≤ a6 then (P false S) else (vp_in a6 12 ∧ (vp_in a5 12 ∧ (if ((gI S 183 (a6.toNatClampNeg)) &&& (gI S 182 (a5.toNatClampNeg))) = 0 then (vp_in a6 12 ∧ (vp_in a5 12 ∧ (vp_in a6 12 ∧ ∀ S68 : St, S68 = sI S 183 (a6.toNatClampNeg) ((gI S 183 (a6.toNatClampNeg)) ||| (gI S 182 (a5.toNatClampNeg))) → (∀ y77 : Int32, y77 = (if x3 < (a6 + 1) then (a6 + 1) else x3) → (Wr S68 (x1 &&& ((1 <<< (a5 &&& 31)) ^^^ (-1))) (x2 + 1) y77 x4 (fun r95 S95 => (vp_in a6 12 ∧ (vp_in a5 12 ∧ (vp_in a6 12 ∧ ∀ S118 : St, S118 = sI S95 183 (a6.toNatClampNeg) ((gI S95 183 (a6.toNatClampNeg)) &&& ((gI S95 182 (a5.toNatClampNeg)) ^^^ (-1))) → (if r95 = true then (P true S118) else (wp_X0_canPaint_126 x1 x2 x3 x4 P Wr (fun S a5 a6 => wp_X0_canPaint_21 x1 x2 x3 x4 P Wr n S a5 a6) S118 a5 a6))))))))))) else (wp_X0_canPaint_126 x1 x2 x3 x4 P Wr (fun S a5 a6 => wp_X0_canPaint_21 x1 x2 x3 x4 P Wr n S a5 a6) S a5 a6))))))
def wp_X0_canPaint_b (S : St) (x1 : Int32) (x2 : Int32) (x3 : Int32) (x4 : Int32) (P : Bool → St → Prop) (Wr : St → Int32 → Int32 → Int32 → Int32 → (Bool → St → Prop) → Prop) : Prop := (if x2 < (gI S 181 2) then (wp_X0_mostBarred S x1 x3 (fun r13 S13 => (∃ n21, wp_X0_canPaint_21 x1 x2 x3 x4 P Wr n21 S13 r13 0))) else (P true S))
def wp_X0_canPaint : Nat → St → Int32 → Int32 → Int32 → Int32 → (Bool → St → Prop) → Prop
  | 0 => fun _ _ _ _ _ _ => False
  | n + 1 => fun S x1 x2 x3 x4 P => wp_X0_canPaint_b S x1 x2 x3 x4 P (wp_X0_canPaint n)
def wp_X0_waysOnBusiestFibre_44 (P : Int32 → St → Prop) (K4 : St → Int32 → Int32 → Prop) (S : St) (a1 : Int32) (a2 : Int32) (a3 : Int32) : Prop := (∀ y49 : Int32, y49 = (if a1 < a3 then a3 else a1) → (∀ y50 : Int32, y50 = a2 + 1 → (K4 S y49 y50)))
def wp_X0_waysOnBusiestFibre_15 (P : Int32 → St → Prop) (K4 : St → Int32 → Int32 → Prop) : Nat → St → Int32 → Int32 → Int32 → Int32 → Prop
  | 0 => fun _ _ _ _ _ => False
  | n + 1 => fun S a1 a2 a3 a4 => (if (gI S 181 2) ≤ a4 then (wp_X0_waysOnBusiestFibre_44 P K4 S a1 a2 a3) else (vp_in a4 12 ∧ (∀ y37 : Int32, y37 = (a3 + (((gI S 182 (a4.toNatClampNeg)) >>> (a2 &&& 31)) &&& 1)) → (∀ y38 : Int32, y38 = a4 + 1 → (wp_X0_waysOnBusiestFibre_15 P K4 n S a1 a2 y37 y38)))))
def wp_X0_waysOnBusiestFibre_4 (P : Int32 → St → Prop) : Nat → St → Int32 → Int32 → Prop
  | 0 => fun _ _ _ => False
  | n + 1 => fun S a1 a2 => (if 14 ≤ a2 then (P a1 S) else (∃ n15, wp_X0_waysOnBusiestFibre_15 P (fun S a1 a2 => wp_X0_waysOnBusiestFibre_4 P n S a1 a2) n15 S a1 a2 0 0))
def wp_X0_waysOnBusiestFibre (S : St)  (P : Int32 → St → Prop) : Prop := (∃ n4, wp_X0_waysOnBusiestFibre_4 P n4 S 0 0)
abbrev rm_X0_waysOnBusiestFibre : Room := { frames := 1, cells := 0, slots := 0, locals := 24 }
def wp_X0_leastColours_5 (P : Int32 → St → Prop) : Nat → St → Int32 → Prop
  | 0 => fun _ _ => False
  | n + 1 => fun S a1 => (if (gI S 181 2) ≤ a1 then (P a1 S) else (wp_X0_canPaint 13 S ((1 <<< ((gI S 181 2) &&& 31)) - 1) 0 0 a1 (fun r25 S25 => (if r25 = true then (P a1 S25) else (∀ y31 : Int32, y31 = a1 + 1 → (wp_X0_leastColours_5 P n S25 y31))))))
def wp_X0_leastColours (S : St)  (P : Int32 → St → Prop) : Prop := (wp_X0_waysOnBusiestFibre S (fun r1 S1 => (∃ n5, wp_X0_leastColours_5 P n5 S1 r1)))
abbrev rm_X0_leastColours : Room := { frames := 15, cells := 0, slots := 0, locals := 419 }
def wp_X5_lowestIn_2 (x1 : Int32) (P : Int32 → St → Prop) : Nat → St → Int32 → Prop
  | 0 => fun _ _ => False
  | n + 1 => fun S a1 => (if 8 ≤ a1 then (P a1 S) else (if ((x1 >>> (a1 &&& 31)) &&& 1) = 0 then (∀ y16 : Int32, y16 = a1 + 1 → (wp_X5_lowestIn_2 x1 P n S y16)) else (P a1 S)))
def wp_X5_lowestIn (S : St) (x1 : Int32) (P : Int32 → St → Prop) : Prop := (∃ n2, wp_X5_lowestIn_2 x1 P n2 S 0)
abbrev rm_X5_lowestIn : Room := { frames := 0, cells := 0, slots := 0, locals := 0 }
def wp_X4_aim (S : St) (x1 : Int32) (x2 : Int32) (x3 : Int32) (P : St → Prop) : Prop := (∀ S2 : St, S2 = sI S 5 4 x1 → (∀ S7 : St, S7 = sI S2 5 5 x2 → (∀ S12 : St, S12 = sI S7 5 6 x3 → (∀ S17 : St, S17 = sI S12 5 12 0 → (P S17)))))
abbrev rm_X4_aim : Room := { frames := 0, cells := 0, slots := 0, locals := 0 }
def wp_X4_pickFirst_53 (P : St → Prop) (K12 : St → Int32 → Prop) (S : St) (a1 : Int32) : Prop := (∀ y53 : Int32, y53 = a1 + 1 → (K12 S y53))
def wp_X4_pickFirst_43 (P : St → Prop) (K12 : St → Int32 → Prop) (S : St) (a1 : Int32) : Prop := (vp_in a1 162 ∧ (∀ S50 : St, S50 = sR S 5 0 (some (19 + (a1.toNatClampNeg))) → (wp_X4_pickFirst_53 P K12 S50 a1)))
def wp_X4_pickFirst_12 (P : St → Prop) : Nat → St → Int32 → Prop
  | 0 => fun _ _ => False
  | n + 1 => fun S a1 => (if (gI S 5 12) ≤ a1 then (P S) else ((gR S 5 0 = none → (wp_X4_pickFirst_43 P (fun S a1 => wp_X4_pickFirst_12 P n S a1) S a1)) ∧ (∀ q21, gR S 5 0 = some q21 → (vp_in a1 162 ∧ ((gR S 5 0 = none → False) ∧ (∀ q34, gR S 5 0 = some q34 → (wp_X3_isAheadOf S (19 + (a1.toNatClampNeg)) q34 (fun r37 S37 => (if r37 = true then (wp_X4_pickFirst_43 P (fun S a1 => wp_X4_pickFirst_12 P n S a1) S37 a1) else (wp_X4_pickFirst_53 P (fun S a1 => wp_X4_pickFirst_12 P n S a1) S37 a1))))))))))
def wp_X4_pickFirst (S : St)  (P : St → Prop) : Prop := (∀ S2 : St, S2 = sR S 5 0 none → (∀ S7 : St, S7 = sR S2 5 1 none → (∃ n12, wp_X4_pickFirst_12 P n12 S7 0)))
abbrev rm_X4_pickFirst : Room := { frames := 1, cells := 0, slots := 0, locals := 21 }
def wp_X4_leadingOn_45 (x1 : Int32) (x2 : Int32) (x3 : Int32) (P : Int32 → St → Prop) (S : St)  : Prop := (vp_in x1 7 ∧ (vp_in x3 7 ∧ (P (gI S (11 + (x1.toNatClampNeg)) (x3.toNatClampNeg)) S)))
def wp_X4_leadingOn (S : St) (x1 : Int32) (x2 : Int32) (x3 : Int32) (P : Int32 → St → Prop) : Prop := (if x2 ≤ x1 then (P 255 S) else (if x1 < 7 then (if x3 ≤ 0 then (wp_X4_leadingOn_45 x1 x2 x3 P S) else (vp_in x1 7 ∧ (if (gI S 9 (x1.toNatClampNeg)) = 0 then (wp_X4_leadingOn_45 x1 x2 x3 P S) else (vp_in x1 7 ∧ (vp_in (x3 - 1) 7 ∧ (if (gI S (11 + (x1.toNatClampNeg)) ((x3 - 1).toNatClampNeg)) = 0 then (wp_X4_leadingOn_45 x1 x2 x3 P S) else (P 255 S))))))) else (P 255 S)))
abbrev rm_X4_leadingOn : Room := { frames := 0, cells := 0, slots := 0, locals := 0 }
def wp_X4_countConversionsBackwards_45 (x1 : Int32) (P : St → Prop) (K4 : St → Int32 → Prop) (S : St) (a2 : Int32) : Prop := (∀ y45 : Int32, y45 = a2 + (-1) → (K4 S y45))
def wp_X4_countConversionsBackwards_10 (x1 : Int32) (P : St → Prop) (K4 : St → Int32 → Prop) : Nat → St → Int32 → Int32 → Prop
  | 0 => fun _ _ _ => False
  | n + 1 => fun S a2 a3 => (if x1 ≤ a3 then (wp_X4_countConversionsBackwards_45 x1 P K4 S a2) else (vp_in a2 7 ∧ (vp_in a2 7 ∧ (wp_X4_leadingOn S (a2 + 1) x1 a3 (fun r34 S34 => (vp_in a3 7 ∧ ∀ S38 : St, S38 = sI S34 (11 + (a2.toNatClampNeg)) (a3.toNatClampNeg) ((gI S 8 (a2.toNatClampNeg)) &&& r34) → (∀ y39 : Int32, y39 = a3 + 1 → (wp_X4_countConversionsBackwards_10 x1 P K4 n S38 a2 y39))))))))
def wp_X4_countConversionsBackwards_4 (x1 : Int32) (P : St → Prop) : Nat → St → Int32 → Prop
  | 0 => fun _ _ => False
  | n + 1 => fun S a2 => (if a2 < 0 then (P S) else (∃ n10, wp_X4_countConversionsBackwards_10 x1 P (fun S a2 => wp_X4_countConversionsBackwards_4 x1 P n S a2) n10 S a2 0))
def wp_X4_countConversionsBackwards (S : St) (x1 : Int32) (P : St → Prop) : Prop := (∀ y3 : Int32, y3 = (x1 - 1) → (∃ n4, wp_X4_countConversionsBackwards_4 x1 P n4 S y3))
abbrev rm_X4_countConversionsBackwards : Room := { frames := 1, cells := 0, slots := 0, locals := 23 }
def wp_X4_takeLowestWavelengths_122 (x1 : Nat) (x2 : Int32) (x3 : Int32) (P : St → Prop) (K32 : St → Int32 → Int32 → Int32 → Prop) (S : St) (a4 : Int32) (a6 : Int32) (a9 : Int32) : Prop := (vp_in a6 7 ∧ (wp_X3_append S x1 (gI S 7 (a6.toNatClampNeg)) a9 (fun S136 => (∀ y139 : Int32, y139 = a6 + 1 → (K32 S136 a4 a9 y139)))))
def wp_X4_takeLowestWavelengths_102 (x1 : Nat) (x2 : Int32) (x3 : Int32) (P : St → Prop) (K32 : St → Int32 → Int32 → Int32 → Prop) (S : St) (a4 : Int32) (a5 : Int32) (a6 : Int32) (a7 : Bool) (t0 : Int32) : Prop := (wp_X5_lowestIn S t0 (fun r102 S102 => (if a7 = true then (if r102 = a5 then (wp_X4_takeLowestWavelengths_122 x1 x2 x3 P K32 S102 a4 a6 r102) else (∀ y119 : Int32, y119 = a4 + (-1) → (wp_X4_takeLowestWavelengths_122 x1 x2 x3 P K32 S102 y119 a6 r102))) else (wp_X4_takeLowestWavelengths_122 x1 x2 x3 P K32 S102 a4 a6 r102))))
def wp_X4_takeLowestWavelengths_58 (x1 : Nat) (x2 : Int32) (x3 : Int32) (P : St → Prop) (K32 : St → Int32 → Int32 → Int32 → Prop) (S : St) (a4 : Int32) (a5 : Int32) (a6 : Int32) (t0 : Bool) : Prop := (vp_in a6 7 ∧ (vp_in a4 7 ∧ (∀ y75 : Int32, y75 = ((gI S (11 + (a6.toNatClampNeg)) (a4.toNatClampNeg)) &&& (1 <<< (a5 &&& 31))) → (if t0 = true then (vp_in a6 7 ∧ (vp_in (a4 - 1) 7 ∧ (wp_X4_takeLowestWavelengths_102 x1 x2 x3 P K32 S a4 a5 a6 t0 (y75 ||| (gI S (11 + (a6.toNatClampNeg)) ((a4 - 1).toNatClampNeg)))))) else (wp_X4_takeLowestWavelengths_102 x1 x2 x3 P K32 S a4 a5 a6 t0 y75)))))
def wp_X4_takeLowestWavelengths_57 (x1 : Nat) (x2 : Int32) (x3 : Int32) (P : St → Prop) (K32 : St → Int32 → Int32 → Int32 → Prop) (S : St) (a4 : Int32) (a5 : Int32) (a6 : Int32) : Prop := (wp_X4_takeLowestWavelengths_58 x1 x2 x3 P K32 S a4 a5 a6 false)
def wp_X4_takeLowestWavelengths_32 (x1 : Nat) (x2 : Int32) (x3 : Int32) (P : St → Prop) : Nat → St → Int32 → Int32 → Int32 → Prop
  | 0 => fun _ _ _ _ => False
  | n + 1 => fun S a4 a5 a6 => (if x2 ≤ a6 then (P S) else (if a4 ≤ 0 then (wp_X4_takeLowestWavelengths_57 x1 x2 x3 P (fun S a4 a5 a6 => wp_X4_takeLowestWavelengths_32 x1 x2 x3 P n S a4 a5 a6) S a4 a5 a6) else (vp_in a6 7 ∧ (if (gI S 9 (a6.toNatClampNeg)) = 0 then (wp_X4_takeLowestWavelengths_57 x1 x2 x3 P (fun S a4 a5 a6 => wp_X4_takeLowestWavelengths_32 x1 x2 x3 P n S a4 a5 a6) S a4 a5 a6) else (wp_X4_takeLowestWavelengths_58 x1 x2 x3 P (fun S a4 a5 a6 => wp_X4_takeLowestWavelengths_32 x1 x2 x3 P n S a4 a5 a6) S a4 a5 a6 true)))))
def wp_X4_takeLowestWavelengths (S : St) (x1 : Nat) (x2 : Int32) (x3 : Int32) (P : St → Prop) : Prop := (vp_in 0 7 ∧ (vp_in x3 7 ∧ (wp_X5_lowestIn S (gI S (11 + ((0 : Int32).toNatClampNeg)) (x3.toNatClampNeg)) (fun r12 S12 => (vp_in 0 7 ∧ (wp_X3_append S12 x1 (gI S12 7 ((0 : Int32).toNatClampNeg)) r12 (fun S26 => (∃ n32, wp_X4_takeLowestWavelengths_32 x1 x2 x3 P n32 S26 x3 r12 1))))))))
abbrev rm_X4_takeLowestWavelengths : Room := { frames := 1, cells := 0, slots := 0, locals := 22 }
def wp_X4_keep_53 (x1 : Int32) (x2 : Int32) (P : St → Prop) (S : St) (a3 : Int32) : Prop := (vp_in (gI S 5 12) 162 ∧ (∀ S71 : St, S71 = sI S 5 12 ((gI S 5 12) + 1) → (wp_X3_start S71 (19 + ((gI S 5 12).toNatClampNeg)) x2 a3 (fun S78 => (wp_X4_takeLowestWavelengths S78 (19 + ((gI S 5 12).toNatClampNeg)) x1 a3 (fun S86 => (P S86)))))))
def wp_X4_keep_29 (x1 : Int32) (x2 : Int32) (P : St → Prop) : Nat → St → Int32 → Prop
  | 0 => fun _ _ => False
  | n + 1 => fun S a3 => (if (x1 - 1) ≤ a3 then (wp_X4_keep_53 x1 x2 P S a3) else (vp_in 0 7 ∧ (vp_in a3 7 ∧ (if (gI S (11 + ((0 : Int32).toNatClampNeg)) (a3.toNatClampNeg)) = 0 then (∀ y47 : Int32, y47 = a3 + 1 → (wp_X4_keep_29 x1 x2 P n S y47)) else (wp_X4_keep_53 x1 x2 P S a3)))))
def wp_X4_keep (S : St) (x1 : Int32) (x2 : Int32) (P : St → Prop) : Prop := (if 162 ≤ (gI S 5 12) then (P S) else (if x1 < 1 then (P S) else (if x1 ≤ 7 then (wp_X4_countConversionsBackwards S x1 (fun S24 => (∃ n29, wp_X4_keep_29 x1 x2 P n29 S24 0))) else (P S))))
abbrev rm_X4_keep : Room := { frames := 2, cells := 0, slots := 0, locals := 51 }
def wp_X4_walk_171 (x1 : Int32) (x2 : Int32) (x3 : Int32) (x4 : Int32) (x5 : Int32) (P : St → Prop) (Wr : St → Int32 → Int32 → Int32 → Int32 → Int32 → (St → Prop) → Prop) (K46 : St → Bool → Int32 → Prop) (S : St) (a6 : Bool) (a7 : Int32) : Prop := (∀ y171 : Int32, y171 = a7 + 1 → (K46 S a6 y171))
def wp_X4_walk_93 (x1 : Int32) (x2 : Int32) (x3 : Int32) (x4 : Int32) (x5 : Int32) (P : St → Prop) (Wr : St → Int32 → Int32 → Int32 → Int32 → Int32 → (St → Prop) → Prop) (K46 : St → Bool → Int32 → Prop) (S : St) (a6 : Bool) (a7 : Int32) (a8 : Int32) (a9 : Int32) (t0 : Int32) : Prop := (if a8 < 0 then (wp_X4_walk_171 x1 x2 x3 x4 x5 P Wr K46 S a6 a7) else (if ((x2 >>> (a8 &&& 31)) &&& 1) = 0 then (if t0 = 0 then (wp_X4_walk_171 x1 x2 x3 x4 x5 P Wr K46 S a6 a7) else (vp_in x4 7 ∧ ∀ S122 : St, S122 = sI S 7 (x4.toNatClampNeg) a7 → (vp_in x4 7 ∧ ∀ S131 : St, S131 = sI S122 8 (x4.toNatClampNeg) a9 → (vp_in x4 7 ∧ ∀ S140 : St, S140 = sI S131 9 (x4.toNatClampNeg) (b2i a6) → (wp_X2_lengthOf S140 a7 (fun r164 S164 => (Wr S164 a8 (x2 ||| (1 <<< (a8 &&& 31))) t0 (x4 + 1) (x5 + r164) (fun S168 => (wp_X4_walk_171 x1 x2 x3 x4 x5 P Wr K46 S168 a6 a7))))))))) else (wp_X4_walk_171 x1 x2 x3 x4 x5 P Wr K46 S a6 a7)))
def wp_X4_walk_46 (x1 : Int32) (x2 : Int32) (x3 : Int32) (x4 : Int32) (x5 : Int32) (P : St → Prop) (Wr : St → Int32 → Int32 → Int32 → Int32 → Int32 → (St → Prop) → Prop) : Nat → St → Bool → Int32 → Prop
  | 0 => fun _ _ _ => False
  | n + 1 => fun S a6 a7 => (if 14 ≤ a7 then (P S) else (wp_X2_acrossFrom S x1 a7 (fun r60 S60 => (vp_in a7 14 ∧ (∀ y77 : Int32, y77 = ((gI S60 6 (a7.toNatClampNeg)) &&& (gI S60 5 5)) → (if a6 = true then (wp_X4_walk_93 x1 x2 x3 x4 x5 P Wr (fun S a6 a7 => wp_X4_walk_46 x1 x2 x3 x4 x5 P Wr n S a6 a7) S60 a6 a7 r60 y77 y77) else (wp_X4_walk_93 x1 x2 x3 x4 x5 P Wr (fun S a6 a7 => wp_X4_walk_46 x1 x2 x3 x4 x5 P Wr n S a6 a7) S60 a6 a7 r60 y77 (y77 &&& x3))))))))
def wp_X4_walk_41 (x1 : Int32) (x2 : Int32) (x3 : Int32) (x4 : Int32) (x5 : Int32) (P : St → Prop) (Wr : St → Int32 → Int32 → Int32 → Int32 → Int32 → (St → Prop) → Prop) (S : St) (t0 : Bool) : Prop := (∃ n46, wp_X4_walk_46 x1 x2 x3 x4 x5 P Wr n46 S t0 0)
def wp_X4_walk_b (S : St) (x1 : Int32) (x2 : Int32) (x3 : Int32) (x4 : Int32) (x5 : Int32) (P : St → Prop) (Wr : St → Int32 → Int32 → Int32 → Int32 → Int32 → (St → Prop) → Prop) : Prop := (if x1 = (gI S 5 4) then (wp_X4_keep S x4 x5 (fun S13 => (P S13))) else (if x4 < 7 then (if (((gI S 5 6) >>> (x1 &&& 31)) &&& 1) = 0 then (wp_X4_walk_41 x1 x2 x3 x4 x5 P Wr S false) else (wp_X4_walk_41 x1 x2 x3 x4 x5 P Wr S true)) else (P S)))
def wp_X4_walk : Nat → St → Int32 → Int32 → Int32 → Int32 → Int32 → (St → Prop) → Prop
  | 0 => fun _ _ _ _ _ _ _ => False
  | n + 1 => fun S x1 x2 x3 x4 x5 P => wp_X4_walk_b S x1 x2 x3 x4 x5 P (wp_X4_walk n)
def wp_X4_findFirst (S : St) (x1 : Int32) (x2 : Int32) (P : St → Prop) : Prop := (wp_X4_aim S x2 255 (gI S 1 3) (fun S12 => (wp_X4_walk 8 S12 x1 (1 <<< (x1 &&& 31)) 255 0 0 (fun S25 => (wp_X4_pickFirst S25 (fun S29 => (P S29)))))))
abbrev rm_X4_findFirst : Room := { frames := 12, cells := 0, slots := 0, locals := 345 }
def wp_X4_findOnLowestWavelength_2 (x1 : Int32) (x2 : Int32) (P : St → Prop) : Nat → St → Int32 → Prop
  | 0 => fun _ _ => False
  | n + 1 => fun S a3 => (if 8 ≤ a3 then (P S) else (wp_X4_aim S x2 (1 <<< (a3 &&& 31)) 0 (fun S14 => (wp_X4_walk 8 S14 x1 (1 <<< (x1 &&& 31)) 255 0 0 (fun S27 => (wp_X4_pickFirst S27 (fun S31 => ((gR S31 5 0 = none → (∀ y42 : Int32, y42 = a3 + 1 → (wp_X4_findOnLowestWavelength_2 x1 x2 P n S31 y42))) ∧ (∀ q35, gR S31 5 0 = some q35 → (P S31))))))))))
def wp_X4_findOnLowestWavelength (S : St) (x1 : Int32) (x2 : Int32) (P : St → Prop) : Prop := (∃ n2, wp_X4_findOnLowestWavelength_2 x1 x2 P n2 S 0)
abbrev rm_X4_findOnLowestWavelength : Room := { frames := 12, cells := 0, slots := 0, locals := 345 }
def wp_X4_isPairAhead (S : St) (x1 : Nat) (x2 : Nat) (x3 : Nat) (x4 : Nat) (P : Bool → St → Prop) : Prop := (∀ y19 : Int32, y19 = ((((gI S x1 1) + (gI S x2 1)) - (gI S x3 1)) - (gI S x4 1)) → (if y19 = 0 then (wp_X3_isAheadOf S x1 x3 (fun r39 S39 => (if r39 = true then (P true S39) else (if (some x1) = (some x3) then (wp_X3_isAheadOf S39 x2 x4 (fun r52 S52 => (if r52 = true then (P true S52) else (P false S52)))) else (P false S39))))) else (if 0 ≤ y19 then (P false S) else (P true S))))
abbrev rm_X4_isPairAhead : Room := { frames := 1, cells := 0, slots := 0, locals := 21 }
def wp_X4_offerPair_60 (x1 : Nat) (x2 : Nat) (P : St → Prop) (S : St) (a4 : Nat) (a5 : Nat) : Prop := (∀ S63 : St, S63 = sR S 5 0 (some a4) → (∀ S69 : St, S69 = sR S63 5 1 (some a5) → (P S69)))
def wp_X4_offerPair_26 (x1 : Nat) (x2 : Nat) (P : St → Prop) (S : St) (a4 : Nat) (t0 : Nat) : Prop := ((gR S 5 0 = none → (wp_X4_offerPair_60 x1 x2 P S a4 t0)) ∧ (∀ q29, gR S 5 0 = some q29 → ((gR S 5 1 = none → (wp_X4_offerPair_60 x1 x2 P S a4 t0)) ∧ (∀ q36, gR S 5 1 = some q36 → ((gR S 5 0 = none → ((gR S 5 1 = none → False) ∧ (∀ q51, gR S 5 1 = some q51 → False))) ∧ (∀ q47, gR S 5 0 = some q47 → ((gR S 5 1 = none → False) ∧ (∀ q51, gR S 5 1 = some q51 → (wp_X4_isPairAhead S a4 t0 q47 q51 (fun r54 S54 => (if r54 = true then (wp_X4_offerPair_60 x1 x2 P S54 a4 t0) else (P S54))))))))))))
def wp_X4_offerPair_15 (x1 : Nat) (x2 : Nat) (P : St → Prop) (S : St) (a3 : Bool) (t0 : Nat) : Prop := (if a3 = true then (wp_X4_offerPair_26 x1 x2 P S t0 x2) else (wp_X4_offerPair_26 x1 x2 P S t0 x1))
def wp_X4_offerPair (S : St) (x1 : Nat) (x2 : Nat) (P : St → Prop) : Prop := (wp_X3_isAheadOf S x1 x2 (fun r2 S2 => (if r2 = true then (wp_X4_offerPair_15 x1 x2 P S2 r2 x1) else (wp_X4_offerPair_15 x1 x2 P S2 r2 x2))))
abbrev rm_X4_offerPair : Room := { frames := 2, cells := 0, slots := 0, locals := 45 }
def wp_X4_findPair_96 (x1 : Int32) (x2 : Int32) (P : St → Prop) (K34 : St → Int32 → Prop) (K47 : St → Int32 → Int32 → Prop) (S : St) (a3 : Int32) (a4 : Int32) : Prop := (∀ y96 : Int32, y96 = a4 + 1 → (K47 S a3 y96))
def wp_X4_findPair_102 (x1 : Int32) (x2 : Int32) (P : St → Prop) (K34 : St → Int32 → Prop) (S : St) (a3 : Int32) : Prop := (∀ y102 : Int32, y102 = a3 + 1 → (K34 S y102))
def wp_X4_findPair_47 (x1 : Int32) (x2 : Int32) (P : St → Prop) (K34 : St → Int32 → Prop) : Nat → St → Int32 → Int32 → Prop
  | 0 => fun _ _ _ => False
  | n + 1 => fun S a3 a4 => (if (gI S 5 12) ≤ a4 then (wp_X4_findPair_102 x1 x2 P K34 S a3) else (vp_in a3 162 ∧ (vp_in a4 162 ∧ (if ((gI S (19 + (a3.toNatClampNeg)) 3) &&& (gI S (19 + (a4.toNatClampNeg)) 3)) = 0 then (vp_in a3 162 ∧ (vp_in a4 162 ∧ (wp_X4_offerPair S (19 + (a3.toNatClampNeg)) (19 + (a4.toNatClampNeg)) (fun S93 => (wp_X4_findPair_96 x1 x2 P K34 (fun S a3 a4 => wp_X4_findPair_47 x1 x2 P K34 n S a3 a4) S93 a3 a4))))) else (wp_X4_findPair_96 x1 x2 P K34 (fun S a3 a4 => wp_X4_findPair_47 x1 x2 P K34 n S a3 a4) S a3 a4)))))
def wp_X4_findPair_34 (x1 : Int32) (x2 : Int32) (P : St → Prop) : Nat → St → Int32 → Prop
  | 0 => fun _ _ => False
  | n + 1 => fun S a3 => (if (gI S 5 12) ≤ a3 then (P S) else (∀ y45 : Int32, y45 = (a3 + 1) → (∃ n47, wp_X4_findPair_47 x1 x2 P (fun S a3 => wp_X4_findPair_34 x1 x2 P n S a3) n47 S a3 y45)))
def wp_X4_findPair (S : St) (x1 : Int32) (x2 : Int32) (P : St → Prop) : Prop := (wp_X4_aim S x2 255 0 (fun S6 => (wp_X4_walk 8 S6 x1 (1 <<< (x1 &&& 31)) 255 0 0 (fun S19 => (∀ S24 : St, S24 = sR S19 5 0 none → (∀ S29 : St, S29 = sR S24 5 1 none → (∃ n34, wp_X4_findPair_34 x1 x2 P n34 S29 0)))))))
abbrev rm_X4_findPair : Room := { frames := 12, cells := 0, slots := 0, locals := 345 }
def wp_J6_bitCount_0f7a4 (S : St) (x1 : Int32) (P : Int32 → St → Prop) : Prop := (∀ y9 : Int32, y9 = (x1 - (((x1.toUInt32 >>> (Int32.toUInt32 1 &&& Int32.toUInt32 31)).toInt32) &&& 1431655765)) → (∀ y23 : Int32, y23 = ((y9 &&& 858993459) + (((y9.toUInt32 >>> (Int32.toUInt32 2 &&& Int32.toUInt32 31)).toInt32) &&& 858993459)) → (∀ y33 : Int32, y33 = ((y23 + ((y23.toUInt32 >>> (Int32.toUInt32 4 &&& Int32.toUInt32 31)).toInt32)) &&& 252645135) → (∀ y40 : Int32, y40 = (y33 + ((y33.toUInt32 >>> (Int32.toUInt32 8 &&& Int32.toUInt32 31)).toInt32)) → (∀ y47 : Int32, y47 = (y40 + ((y40.toUInt32 >>> (Int32.toUInt32 16 &&& Int32.toUInt32 31)).toInt32)) → (P (y47 &&& 63) S))))))
abbrev rm_J6_bitCount_0f7a4 : Room := { frames := 0, cells := 0, slots := 0, locals := 0 }
def wp_X5_begin_22 (x1 : Int32) (x2 : Int32) (P : St → Prop) (E : String → St → Prop) (S : St)  : Prop := (E "java/lang/IllegalArgumentException" S)
def wp_X5_begin (S : St) (x1 : Int32) (x2 : Int32) (P : St → Prop) (E : String → St → Prop) : Prop := (if x1 < 2 then (wp_X5_begin_22 x1 x2 P E S) else (if 8 < x1 then (wp_X5_begin_22 x1 x2 P E S) else (if x2 < 1 then (wp_X5_begin_22 x1 x2 P E S) else (if x2 ≤ 8 then (wp_X2_startAgain S x1 x2 (fun S38 => (∀ S43 : St, S43 = sI S38 0 4 0 → (∀ S48 : St, S48 = sI S43 0 7 0 → (P S48))))) else (wp_X5_begin_22 x1 x2 P E S)))))
abbrev rm_X5_begin : Room := { frames := 6, cells := 1, slots := 6, locals := 100 }
def wp_X5_areTwoNodes (S : St) (x1 : Int32) (x2 : Int32) (P : Bool → St → Prop) : Prop := (wp_X2_hasNode S x1 (fun r5 S5 => (if r5 = true then (wp_X2_hasNode S5 x2 (fun r16 S16 => (if r16 = true then (if x1 = x2 then (P false S16) else (P true S16)) else (P false S16)))) else (P false S5))))
abbrev rm_X5_areTwoNodes : Room := { frames := 1, cells := 0, slots := 0, locals := 21 }
def wp_X5_addFibre_21 (x1 : Int32) (x2 : Int32) (x3 : Int32) (P : Int32 → St → Prop) (E : String → St → Prop) (S : St)  : Prop := (E "java/lang/IllegalArgumentException" S)
def wp_X5_addFibre (S : St) (x1 : Int32) (x2 : Int32) (x3 : Int32) (P : Int32 → St → Prop) (E : String → St → Prop) : Prop := (wp_X5_areTwoNodes S x1 x2 (fun r3 S3 => (if r3 = true then (if x3 < 1 then (wp_X5_addFibre_21 x1 x2 x3 P E S3) else (if x3 ≤ 1000 then (wp_X2_join S3 x1 x2 x3 (fun r38 S38 => (if 0 ≤ r38 then (P r38 S38) else (E "java/lang/IllegalStateException" S38)))) else (wp_X5_addFibre_21 x1 x2 x3 P E S3))) else (wp_X5_addFibre_21 x1 x2 x3 P E S3))))
abbrev rm_X5_addFibre : Room := { frames := 6, cells := 1, slots := 6, locals := 100 }
def wp_X5_toggleConverter (S : St) (x1 : Int32) (P : Bool → St → Prop) (E : String → St → Prop) : Prop := (wp_X2_hasNode S x1 (fun r5 S5 => (if r5 = true then (∀ S33 : St, S33 = sI S5 1 3 ((gI S5 1 3) ^^^ (1 <<< (x1 &&& 31))) → (if (((gI S33 1 3) >>> (x1 &&& 31)) &&& 1) = 0 then (P false S33) else (P true S33))) else (E "java/lang/IllegalArgumentException" S5))))
abbrev rm_X5_toggleConverter : Room := { frames := 6, cells := 1, slots := 6, locals := 100 }
def wp_X5_lightsUp_34 (P : Int32 → St → Prop) (K4 : St → Int32 → Int32 → Prop) (S : St) (a1 : Int32) (a2 : Int32) : Prop := (∀ y34 : Int32, y34 = a2 + 1 → (K4 S a1 y34))
def wp_X5_lightsUp_4 (P : Int32 → St → Prop) : Nat → St → Int32 → Int32 → Prop
  | 0 => fun _ _ _ => False
  | n + 1 => fun S a1 a2 => (if (gI S 0 4) ≤ a2 then (P a1 S) else (vp_in a2 60 ∧ (wp_X1_isUp S (185 + 3 * (a2.toNatClampNeg)) (gI S 1 4) (fun r25 S25 => (if r25 = true then (∀ y31 : Int32, y31 = a1 + 1 → (wp_X5_lightsUp_34 P (fun S a1 a2 => wp_X5_lightsUp_4 P n S a1 a2) S25 y31 a2)) else (wp_X5_lightsUp_34 P (fun S a1 a2 => wp_X5_lightsUp_4 P n S a1 a2) S25 a1 a2))))))
def wp_X5_lightsUp (S : St)  (P : Int32 → St → Prop) : Prop := (∃ n4, wp_X5_lightsUp_4 P n4 S 0 0)
abbrev rm_X5_lightsUp : Room := { frames := 2, cells := 0, slots := 0, locals := 41 }
def wp_X5_requireFibre (S : St) (x1 : Int32) (P : St → Prop) (E : String → St → Prop) : Prop := (wp_X2_hasFibre S x1 (fun r5 S5 => (if r5 = true then (P S5) else (E "java/lang/IndexOutOfBoundsException" S5))))
abbrev rm_X5_requireFibre : Room := { frames := 6, cells := 1, slots := 6, locals := 100 }
def wp_X5_cut (S : St) (x1 : Int32) (P : Int32 → St → Prop) (E : String → St → Prop) : Prop := (wp_X5_requireFibre S x1 (fun S2 => (wp_X2_isCut S2 x1 (fun r10 S10 => (if r10 = true then (E "java/lang/IllegalStateException" S10) else (wp_X5_lightsUp S10 (fun r27 S27 => (∀ S43 : St, S43 = sI S27 1 4 ((gI S27 1 4) ||| (1 <<< (x1 &&& 31))) → (wp_X5_lightsUp S43 (fun r48 S48 => (P (r27 - r48) S48)))))))))) E)
abbrev rm_X5_cut : Room := { frames := 7, cells := 1, slots := 6, locals := 121 }
def wp_X5_repair (S : St) (x1 : Int32) (P : Int32 → St → Prop) (E : String → St → Prop) : Prop := (wp_X5_requireFibre S x1 (fun S2 => (wp_X2_isCut S2 x1 (fun r10 S10 => (if r10 = true then (wp_X5_lightsUp S10 (fun r27 S27 => (∀ S45 : St, S45 = sI S27 1 4 ((gI S27 1 4) &&& ((1 <<< (x1 &&& 31)) ^^^ (-1))) → (wp_X5_lightsUp S45 (fun r49 S49 => (P (r49 - r27) S49)))))) else (E "java/lang/IllegalStateException" S10))))) E)
abbrev rm_X5_repair : Room := { frames := 7, cells := 1, slots := 6, locals := 121 }
def wp_X5_lightOn_20 (x1 : Int32) (x2 : Int32) (P : Int32 → St → Prop) (E : String → St → Prop) (S : St)  : Prop := (E "java/lang/IllegalArgumentException" S)
def wp_X5_lightOn_32 (x1 : Int32) (x2 : Int32) (P : Int32 → St → Prop) (E : String → St → Prop) : Nat → St → Int32 → Prop
  | 0 => fun _ _ => False
  | n + 1 => fun S a3 => (if (gI S 0 4) ≤ a3 then (P (-1) S) else (vp_in a3 60 ∧ (wp_X1_wavelengthsOn S (185 + 3 * (a3.toNatClampNeg)) x1 (fun r47 S47 => (if ((r47 >>> (x2 &&& 31)) &&& 1) = 0 then (∀ y59 : Int32, y59 = a3 + 1 → (wp_X5_lightOn_32 x1 x2 P E n S47 y59)) else (P a3 S47))))))
def wp_X5_lightOn (S : St) (x1 : Int32) (x2 : Int32) (P : Int32 → St → Prop) (E : String → St → Prop) : Prop := (wp_X5_requireFibre S x1 (fun S2 => (if x2 < 0 then (wp_X5_lightOn_20 x1 x2 P E S2) else (if x2 < (gI S2 1 1) then (∃ n32, wp_X5_lightOn_32 x1 x2 P E n32 S2 0) else (wp_X5_lightOn_20 x1 x2 P E S2)))) E)
abbrev rm_X5_lightOn : Room := { frames := 7, cells := 1, slots := 6, locals := 121 }
def wp_X5_wavelengthsUsed_n_39 (x1 : Int32) (P : Int32 → St → Prop) (K5 : St → Int32 → Int32 → Prop) (S : St) (a3 : Int32) (a4 : Int32) : Prop := (∀ y39 : Int32, y39 = a4 + 1 → (K5 S a3 y39))
def wp_X5_wavelengthsUsed_n_5 (x1 : Int32) (P : Int32 → St → Prop) : Nat → St → Int32 → Int32 → Prop
  | 0 => fun _ _ _ => False
  | n + 1 => fun S a3 a4 => (if (gI S 0 4) ≤ a4 then (P a3 S) else (vp_in a4 60 ∧ (if (some (185 + 3 * (a4.toNatClampNeg))) = (none : Option Nat) then (wp_X5_wavelengthsUsed_n_39 x1 P (fun S a3 a4 => wp_X5_wavelengthsUsed_n_5 x1 P n S a3 a4) S a3 a4) else (vp_in a4 60 ∧ (wp_X1_wavelengthsOn S (185 + 3 * (a4.toNatClampNeg)) x1 (fun r34 S34 => (∀ y38 : Int32, y38 = (a3 ||| r34) → (wp_X5_wavelengthsUsed_n_39 x1 P (fun S a3 a4 => wp_X5_wavelengthsUsed_n_5 x1 P n S a3 a4) S34 y38 a4))))))))
def wp_X5_wavelengthsUsed_n (S : St) (x1 : Int32) (P : Int32 → St → Prop) : Prop := (∃ n5, wp_X5_wavelengthsUsed_n_5 x1 P n5 S 0 0)
abbrev rm_X5_wavelengthsUsed_n : Room := { frames := 3, cells := 0, slots := 0, locals := 67 }
def wp_X5_wavelengthsUsed_s_39 (x1 : Int32) (x2 : Nat) (P : Int32 → St → Prop) (K5 : St → Int32 → Int32 → Prop) (S : St) (a3 : Int32) (a4 : Int32) : Prop := (∀ y39 : Int32, y39 = a4 + 1 → (K5 S a3 y39))
def wp_X5_wavelengthsUsed_s_5 (x1 : Int32) (x2 : Nat) (P : Int32 → St → Prop) : Nat → St → Int32 → Int32 → Prop
  | 0 => fun _ _ _ => False
  | n + 1 => fun S a3 a4 => (if (gI S 0 4) ≤ a4 then (P a3 S) else (vp_in a4 60 ∧ (if (some (185 + 3 * (a4.toNatClampNeg))) = (some x2) then (wp_X5_wavelengthsUsed_s_39 x1 x2 P (fun S a3 a4 => wp_X5_wavelengthsUsed_s_5 x1 x2 P n S a3 a4) S a3 a4) else (vp_in a4 60 ∧ (wp_X1_wavelengthsOn S (185 + 3 * (a4.toNatClampNeg)) x1 (fun r34 S34 => (∀ y38 : Int32, y38 = (a3 ||| r34) → (wp_X5_wavelengthsUsed_s_39 x1 x2 P (fun S a3 a4 => wp_X5_wavelengthsUsed_s_5 x1 x2 P n S a3 a4) S34 y38 a4))))))))
def wp_X5_wavelengthsUsed_s (S : St) (x1 : Int32) (x2 : Nat) (P : Int32 → St → Prop) : Prop := (∃ n5, wp_X5_wavelengthsUsed_s_5 x1 x2 P n5 S 0 0)
abbrev rm_X5_wavelengthsUsed_s : Room := { frames := 3, cells := 0, slots := 0, locals := 67 }
def wp_X5_load_4 (P : Int32 → St → Prop) : Nat → St → Int32 → Int32 → Prop
  | 0 => fun _ _ _ => False
  | n + 1 => fun S a1 a2 => (if (gI S 1 2) ≤ a2 then (P a1 S) else (wp_X5_wavelengthsUsed_n S a2 (fun r19 S19 => (wp_J6_bitCount_0f7a4 S19 r19 (fun r22 S22 => (∀ y28 : Int32, y28 = (if a1 < r22 then r22 else a1) → (∀ y29 : Int32, y29 = a2 + 1 → (wp_X5_load_4 P n S22 y28 y29))))))))
def wp_X5_load (S : St)  (P : Int32 → St → Prop) : Prop := (∃ n4, wp_X5_load_4 P n4 S 0 0)
abbrev rm_X5_load : Room := { frames := 4, cells := 0, slots := 0, locals := 91 }
def wp_X5_usage_34 (P : UInt32 → St → Prop) (E : String → St → Prop) : Nat → St → Int32 → Int32 → Int32 → Prop
  | 0 => fun _ _ _ _ => False
  | n + 1 => fun S a1 a2 a3 => (if (gI S 1 2) ≤ a3 then (vf_n32 (FP.fdiv (FP.i2f a2) (FP.i2f a1)) ∧ (P (FP.fdiv (FP.i2f a2) (FP.i2f a1)) S)) else (wp_X5_wavelengthsUsed_n S a3 (fun r49 S49 => (wp_J6_bitCount_0f7a4 S49 r49 (fun r52 S52 => (∀ y56 : Int32, y56 = (a2 + r52) → (∀ y57 : Int32, y57 = a3 + 1 → (wp_X5_usage_34 P E n S52 a1 y56 y57))))))))
def wp_X5_usage (S : St)  (P : UInt32 → St → Prop) (E : String → St → Prop) : Prop := (∀ y15 : Int32, y15 = ((gI S 1 2) * (gI S 1 1)) → (if y15 = 0 then (E "java/lang/IllegalStateException" S) else (∃ n34, wp_X5_usage_34 P E n34 S y15 0 0)))
abbrev rm_X5_usage : Room := { frames := 6, cells := 1, slots := 6, locals := 100 }
def wp_X5_openChannels_n_76 (P : St → Prop) (K2 : St → Int32 → Prop) (S : St) (a2 : Int32) (t1 : Int32) (t2 : Int32) : Prop := (vp_in t1 14 ∧ ∀ S76 : St, S76 = sI S 6 (t1.toNatClampNeg) t2 → (∀ y77 : Int32, y77 = a2 + 1 → (K2 S76 y77)))
def wp_X5_openChannels_n_35 (P : St → Prop) (K2 : St → Int32 → Prop) (S : St) (a2 : Int32) (t0 : Bool) : Prop := (∀ y47 : Int32, y47 = ((1 <<< ((gI S 1 1) &&& 31)) - 1) → (if t0 = true then (wp_X5_openChannels_n_76 P K2 S a2 a2 0) else (wp_X5_wavelengthsUsed_n S a2 (fun r70 S70 => (wp_X5_openChannels_n_76 P K2 S70 a2 a2 (y47 &&& (r70 ^^^ (-1))))))))
def wp_X5_openChannels_n_30 (P : St → Prop) (K2 : St → Int32 → Prop) (S : St) (a2 : Int32) : Prop := (wp_X5_openChannels_n_35 P K2 S a2 true)
def wp_X5_openChannels_n_2 (P : St → Prop) : Nat → St → Int32 → Prop
  | 0 => fun _ _ => False
  | n + 1 => fun S a2 => (if 14 ≤ a2 then (P S) else (wp_X2_hasFibre S a2 (fun r13 S13 => (if r13 = true then (wp_X2_isCut S13 a2 (fun r24 S24 => (if r24 = true then (wp_X5_openChannels_n_30 P (fun S a2 => wp_X5_openChannels_n_2 P n S a2) S24 a2) else (wp_X5_openChannels_n_35 P (fun S a2 => wp_X5_openChannels_n_2 P n S a2) S24 a2 false)))) else (wp_X5_openChannels_n_30 P (fun S a2 => wp_X5_openChannels_n_2 P n S a2) S13 a2)))))
def wp_X5_openChannels_n (S : St)  (P : St → Prop) : Prop := (∃ n2, wp_X5_openChannels_n_2 P n2 S 0)
abbrev rm_X5_openChannels_n : Room := { frames := 4, cells := 0, slots := 0, locals := 91 }
def wp_X5_openChannels_s_76 (x1 : Nat) (P : St → Prop) (K2 : St → Int32 → Prop) (S : St) (a2 : Int32) (t1 : Int32) (t2 : Int32) : Prop := (vp_in t1 14 ∧ ∀ S76 : St, S76 = sI S 6 (t1.toNatClampNeg) t2 → (∀ y77 : Int32, y77 = a2 + 1 → (K2 S76 y77)))
def wp_X5_openChannels_s_35 (x1 : Nat) (P : St → Prop) (K2 : St → Int32 → Prop) (S : St) (a2 : Int32) (t0 : Bool) : Prop := (∀ y47 : Int32, y47 = ((1 <<< ((gI S 1 1) &&& 31)) - 1) → (if t0 = true then (wp_X5_openChannels_s_76 x1 P K2 S a2 a2 0) else (wp_X5_wavelengthsUsed_s S a2 x1 (fun r70 S70 => (wp_X5_openChannels_s_76 x1 P K2 S70 a2 a2 (y47 &&& (r70 ^^^ (-1))))))))
def wp_X5_openChannels_s_30 (x1 : Nat) (P : St → Prop) (K2 : St → Int32 → Prop) (S : St) (a2 : Int32) : Prop := (wp_X5_openChannels_s_35 x1 P K2 S a2 true)
def wp_X5_openChannels_s_2 (x1 : Nat) (P : St → Prop) : Nat → St → Int32 → Prop
  | 0 => fun _ _ => False
  | n + 1 => fun S a2 => (if 14 ≤ a2 then (P S) else (wp_X2_hasFibre S a2 (fun r13 S13 => (if r13 = true then (wp_X2_isCut S13 a2 (fun r24 S24 => (if r24 = true then (wp_X5_openChannels_s_30 x1 P (fun S a2 => wp_X5_openChannels_s_2 x1 P n S a2) S24 a2) else (wp_X5_openChannels_s_35 x1 P (fun S a2 => wp_X5_openChannels_s_2 x1 P n S a2) S24 a2 false)))) else (wp_X5_openChannels_s_30 x1 P (fun S a2 => wp_X5_openChannels_s_2 x1 P n S a2) S13 a2)))))
def wp_X5_openChannels_s (S : St) (x1 : Nat) (P : St → Prop) : Prop := (∃ n2, wp_X5_openChannels_s_2 x1 P n2 S 0)
abbrev rm_X5_openChannels_s : Room := { frames := 4, cells := 0, slots := 0, locals := 91 }
def wp_X5_findWays (S : St) (x1 : Int32) (x2 : Int32) (x3 : Int32) (P : St → Prop) : Prop := (wp_X5_openChannels_n S (fun S2 => (if x3 = 0 then (wp_X4_findFirst S2 x1 x2 (fun S15 => (P S15))) else (if x3 = 1 then (wp_X4_findOnLowestWavelength S2 x1 x2 (fun S32 => (P S32))) else (wp_X4_findPair S2 x1 x2 (fun S44 => (P S44)))))))
abbrev rm_X5_findWays : Room := { frames := 13, cells := 0, slots := 0, locals := 369 }
def wp_X5_isRule (S : St) (x1 : Int32) (P : Bool → St → Prop) : Prop := (if x1 < 0 then (P false S) else (if 2 < x1 then (P false S) else (P true S)))
abbrev rm_X5_isRule : Room := { frames := 0, cells := 0, slots := 0, locals := 0 }
def wp_X5_livingLights_27 (P : Int32 → St → Prop) (K4 : St → Int32 → Int32 → Prop) (S : St) (a1 : Int32) (a2 : Int32) : Prop := (∀ y27 : Int32, y27 = a2 + 1 → (K4 S a1 y27))
def wp_X5_livingLights_4 (P : Int32 → St → Prop) : Nat → St → Int32 → Int32 → Prop
  | 0 => fun _ _ _ => False
  | n + 1 => fun S a1 a2 => (if (gI S 0 4) ≤ a2 then (P a1 S) else (vp_in a2 60 ∧ (wp_X1_isGone S (185 + 3 * (a2.toNatClampNeg)) (fun r18 S18 => (if r18 = true then (wp_X5_livingLights_27 P (fun S a1 a2 => wp_X5_livingLights_4 P n S a1 a2) S18 a1 a2) else (∀ y24 : Int32, y24 = a1 + 1 → (wp_X5_livingLights_27 P (fun S a1 a2 => wp_X5_livingLights_4 P n S a1 a2) S18 y24 a2)))))))
def wp_X5_livingLights (S : St)  (P : Int32 → St → Prop) : Prop := (∃ n4, wp_X5_livingLights_4 P n4 S 0 0)
abbrev rm_X5_livingLights : Room := { frames := 1, cells := 0, slots := 0, locals := 20 }
def wp_X5_lightOnFoundWays_40 (x1 : Int32) (x2 : Int32) (P : Nat → St → Prop) (E : String → St → Prop) (S : St)  : Prop := (E "java/lang/IllegalStateException" S)
def wp_X5_lightOnFoundWays (S : St) (x1 : Int32) (x2 : Int32) (P : Nat → St → Prop) (E : String → St → Prop) : Prop := ((gR S 5 0 = none → (E "java/lang/IllegalStateException" S)) ∧ (∀ q4, gR S 5 0 = some q4 → (wp_X5_livingLights S (fun r23 S23 => (if 12 ≤ r23 then (wp_X5_lightOnFoundWays_40 x1 x2 P E S23) else (if (gI S23 0 4) < 60 then (vp_in (gI S23 0 4) 60 ∧ (∀ S69 : St, S69 = sI S23 0 4 ((gI S23 0 4) + 1) → ((gR S69 5 1 = none → (wp_X1_start_n S69 (185 + 3 * ((gI S23 0 4).toNatClampNeg)) x1 x2 q4 (fun S84 => (P (185 + 3 * ((gI S23 0 4).toNatClampNeg)) S84)))) ∧ (∀ q81, gR S69 5 1 = some q81 → (wp_X1_start_s S69 (185 + 3 * ((gI S23 0 4).toNatClampNeg)) x1 x2 q4 q81 (fun S84 => (P (185 + 3 * ((gI S23 0 4).toNatClampNeg)) S84))))))) else (wp_X5_lightOnFoundWays_40 x1 x2 P E S23)))))))
abbrev rm_X5_lightOnFoundWays : Room := { frames := 6, cells := 1, slots := 6, locals := 100 }
def wp_X5_lightWithRoom_71 (x1 : Int32) (x2 : Int32) (x3 : Int32) (x4 : Bool) (P : Option Nat → St → Prop) (K3 : St → Int32 → Prop) (S : St) (a5 : Int32) : Prop := (∀ y71 : Int32, y71 = a5 + 1 → (K3 S y71))
def wp_X5_lightWithRoom_3 (x1 : Int32) (x2 : Int32) (x3 : Int32) (x4 : Bool) (P : Option Nat → St → Prop) : Nat → St → Int32 → Prop
  | 0 => fun _ _ => False
  | n + 1 => fun S a5 => (if (gI S 0 4) ≤ a5 then (P none S) else (vp_in a5 60 ∧ (wp_X1_isUp S (185 + 3 * (a5.toNatClampNeg)) (gI S 1 4) (fun r30 S30 => (if r30 = true then (wp_X1_joins S30 (185 + 3 * (a5.toNatClampNeg)) x1 x2 (fun r40 S40 => (if r40 = true then (if (gI S40 (185 + 3 * (a5.toNatClampNeg)) 5) = (b2i x4) then (if 10 < ((gI S40 (185 + 3 * (a5.toNatClampNeg)) 6) + x3) then (wp_X5_lightWithRoom_71 x1 x2 x3 x4 P (fun S a5 => wp_X5_lightWithRoom_3 x1 x2 x3 x4 P n S a5) S40 a5) else (P (some (185 + 3 * (a5.toNatClampNeg))) S40)) else (wp_X5_lightWithRoom_71 x1 x2 x3 x4 P (fun S a5 => wp_X5_lightWithRoom_3 x1 x2 x3 x4 P n S a5) S40 a5)) else (wp_X5_lightWithRoom_71 x1 x2 x3 x4 P (fun S a5 => wp_X5_lightWithRoom_3 x1 x2 x3 x4 P n S a5) S40 a5)))) else (wp_X5_lightWithRoom_71 x1 x2 x3 x4 P (fun S a5 => wp_X5_lightWithRoom_3 x1 x2 x3 x4 P n S a5) S30 a5))))))
def wp_X5_lightWithRoom (S : St) (x1 : Int32) (x2 : Int32) (x3 : Int32) (x4 : Bool) (P : Option Nat → St → Prop) : Prop := (∃ n3, wp_X5_lightWithRoom_3 x1 x2 x3 x4 P n3 S 0)
abbrev rm_X5_lightWithRoom : Room := { frames := 2, cells := 0, slots := 0, locals := 41 }
def wp_X5_request_28 (x1 : Int32) (x2 : Int32) (x3 : Int32) (x4 : Int32) (P : Int32 → St → Prop) (E : String → St → Prop) (S : St)  : Prop := (E "java/lang/IllegalArgumentException" S)
def wp_X5_request_98 (x1 : Int32) (x2 : Int32) (x3 : Int32) (x4 : Int32) (P : Int32 → St → Prop) (E : String → St → Prop) (S : St) (a5 : Nat) : Prop := (∀ S106 : St, S106 = sI S a5 6 ((gI S a5 6) + x3) → (vp_in (gI S106 0 7) 60 ∧ ∀ S119 : St, S119 = sR S106 365 ((gI S106 0 7).toNatClampNeg) (some a5) → (vp_in (gI S119 0 7) 60 ∧ ∀ S129 : St, S129 = sI S119 366 ((gI S119 0 7).toNatClampNeg) x3 → (∀ S138 : St, S138 = sI S129 0 7 ((gI S129 0 7) + 1) → (P (gI S129 0 7) S138)))))
def wp_X5_request_72 (x1 : Int32) (x2 : Int32) (x3 : Int32) (x4 : Int32) (P : Int32 → St → Prop) (E : String → St → Prop) (S : St) (t4 : Bool) : Prop := (wp_X5_lightWithRoom S x1 x2 x3 t4 (fun r72 S72 => ((r72 = none → (wp_X5_findWays S72 x1 x2 x4 (fun S87 => (wp_X5_lightOnFoundWays S87 x1 x2 (fun r93 S93 => (wp_X5_request_98 x1 x2 x3 x4 P E S93 r93)) E)))) ∧ (∀ q72, r72 = some q72 → (wp_X5_request_98 x1 x2 x3 x4 P E S72 q72)))))
def wp_X5_request (S : St) (x1 : Int32) (x2 : Int32) (x3 : Int32) (x4 : Int32) (P : Int32 → St → Prop) (E : String → St → Prop) : Prop := (wp_X5_areTwoNodes S x1 x2 (fun r3 S3 => (if r3 = true then (wp_X5_isRule S3 x4 (fun r11 S11 => (if r11 = true then (if x3 < 1 then (wp_X5_request_28 x1 x2 x3 x4 P E S11) else (if x3 ≤ 10 then (if (gI S11 0 7) < 60 then (if x4 = 2 then (wp_X5_request_72 x1 x2 x3 x4 P E S11 true) else (wp_X5_request_72 x1 x2 x3 x4 P E S11 false)) else (E "java/lang/IllegalStateException" S11)) else (wp_X5_request_28 x1 x2 x3 x4 P E S11))) else (wp_X5_request_28 x1 x2 x3 x4 P E S11)))) else (wp_X5_request_28 x1 x2 x3 x4 P E S3))))
abbrev rm_X5_request : Room := { frames := 14, cells := 1, slots := 6, locals := 392 }
def wp_X5_newLength_16 (x1 : Int32) (x2 : Int32) (x3 : Int32) (P : Int32 → St → Prop) (E : String → St → Prop) (S : St)  : Prop := (E "java/lang/IllegalArgumentException" S)
def wp_X5_newLength (S : St) (x1 : Int32) (x2 : Int32) (x3 : Int32) (P : Int32 → St → Prop) (E : String → St → Prop) : Prop := (wp_X5_areTwoNodes S x1 x2 (fun r3 S3 => (if r3 = true then (wp_X5_isRule S3 x3 (fun r10 S10 => (if r10 = true then (wp_X5_findWays S10 x1 x2 x3 (fun S30 => ((gR S30 5 0 = none → (E "java/lang/IllegalStateException" S30)) ∧ (∀ q37, gR S30 5 0 = some q37 → ((gR S30 5 1 = none → (P (gI S30 q37 1) S30)) ∧ (∀ q61, gR S30 5 1 = some q61 → (P ((gI S30 q37 1) + (gI S30 q61 1)) S30))))))) else (wp_X5_newLength_16 x1 x2 x3 P E S10)))) else (wp_X5_newLength_16 x1 x2 x3 P E S3))))
abbrev rm_X5_newLength : Room := { frames := 14, cells := 1, slots := 6, locals := 392 }
def wp_X5_carrierOf_12 (x1 : Int32) (P : Nat → St → Prop) (E : String → St → Prop) (S : St)  : Prop := (E "java/lang/IndexOutOfBoundsException" S)
def wp_X5_carrierOf (S : St) (x1 : Int32) (P : Nat → St → Prop) (E : String → St → Prop) : Prop := (if x1 < 0 then (wp_X5_carrierOf_12 x1 P E S) else (if x1 < (gI S 0 7) then (vp_in x1 60 ∧ ((gR S 365 (x1.toNatClampNeg) = none → (E "java/lang/IllegalStateException" S)) ∧ (∀ q28, gR S 365 (x1.toNatClampNeg) = some q28 → (P q28 S)))) else (wp_X5_carrierOf_12 x1 P E S)))
abbrev rm_X5_carrierOf : Room := { frames := 6, cells := 1, slots := 6, locals := 100 }
def wp_X5_release (S : St) (x1 : Int32) (P : Int32 → St → Prop) (E : String → St → Prop) : Prop := (wp_X5_carrierOf S x1 (fun r2 S2 => (vp_in x1 60 ∧ ∀ S12 : St, S12 = sR S2 365 (x1.toNatClampNeg) none → (vp_in x1 60 ∧ (∀ S25 : St, S25 = sI S12 r2 6 ((gI S12 r2 6) - (gI S12 366 (x1.toNatClampNeg))) → (P (gI S25 r2 6) S25))))) E)
abbrev rm_X5_release : Room := { frames := 7, cells := 1, slots := 6, locals := 122 }
def wp_X5_lightOf (S : St) (x1 : Int32) (P : Int32 → St → Prop) (E : String → St → Prop) : Prop := (wp_X5_carrierOf S x1 (fun r2 S2 => (P (gI S2 r2 0) S2)) E)
abbrev rm_X5_lightOf : Room := { frames := 7, cells := 1, slots := 6, locals := 122 }
def wp_X5_requests (S : St)  (P : Int32 → St → Prop) : Prop := (P (gI S 0 7) S)
abbrev rm_X5_requests : Room := { frames := 0, cells := 0, slots := 0, locals := 0 }
def wp_X5_lights (S : St)  (P : Int32 → St → Prop) : Prop := (P (gI S 0 4) S)
abbrev rm_X5_lights : Room := { frames := 0, cells := 0, slots := 0, locals := 0 }
def wp_X5_existingLight_12 (x1 : Int32) (P : Nat → St → Prop) (E : String → St → Prop) (S : St)  : Prop := (E "java/lang/IndexOutOfBoundsException" S)
def wp_X5_existingLight (S : St) (x1 : Int32) (P : Nat → St → Prop) (E : String → St → Prop) : Prop := (if x1 < 0 then (wp_X5_existingLight_12 x1 P E S) else (if x1 < (gI S 0 4) then (vp_in x1 60 ∧ (P (185 + 3 * (x1.toNatClampNeg)) S)) else (wp_X5_existingLight_12 x1 P E S)))
abbrev rm_X5_existingLight : Room := { frames := 6, cells := 1, slots := 6, locals := 100 }
def wp_X5_state (S : St) (x1 : Int32) (P : Int32 → St → Prop) (E : String → St → Prop) : Prop := (wp_X5_existingLight S x1 (fun r2 S2 => (wp_X1_isGone S2 r2 (fun r7 S7 => (if r7 = true then (P 2 S7) else (wp_X1_isUp S7 r2 (gI S7 1 4) (fun r23 S23 => (if r23 = true then (P 0 S23) else (P 1 S23)))))))) E)
abbrev rm_X5_state : Room := { frames := 7, cells := 1, slots := 6, locals := 121 }
def wp_X5_units (S : St) (x1 : Int32) (P : Int32 → St → Prop) (E : String → St → Prop) : Prop := (wp_X5_existingLight S x1 (fun r2 S2 => (P (gI S2 r2 6) S2)) E)
abbrev rm_X5_units : Room := { frames := 7, cells := 1, slots := 6, locals := 121 }
def wp_X5_wayOf (S : St) (x1 : Int32) (x2 : Int32) (P : Nat → St → Prop) (E : String → St → Prop) : Prop := (wp_X5_existingLight S x1 (fun r2 S2 => (wp_X1_wayAt S2 r2 x2 (fun r6 S6 => ((r6 = none → (E "java/lang/IndexOutOfBoundsException" S6)) ∧ (∀ q6, r6 = some q6 → (P q6 S6)))))) E)
abbrev rm_X5_wayOf : Room := { frames := 7, cells := 1, slots := 6, locals := 121 }
def wp_X5_channels (S : St) (x1 : Int32) (x2 : Int32) (P : Int32 → St → Prop) (E : String → St → Prop) : Prop := (wp_X5_wayOf S x1 x2 (fun r3 S3 => (P (gI S3 r3 0) S3)) E)
abbrev rm_X5_channels : Room := { frames := 8, cells := 1, slots := 6, locals := 144 }
def wp_X5_channel_21 (x1 : Int32) (x2 : Int32) (x3 : Int32) (P : Int32 → St → Prop) (E : String → St → Prop) (S : St)  : Prop := (E "java/lang/IndexOutOfBoundsException" S)
def wp_X5_channel (S : St) (x1 : Int32) (x2 : Int32) (x3 : Int32) (P : Int32 → St → Prop) (E : String → St → Prop) : Prop := (wp_X5_wayOf S x1 x2 (fun r3 S3 => (if x3 < 0 then (wp_X5_channel_21 x1 x2 x3 P E S3) else (if x3 < (gI S3 r3 0) then (wp_X3_channelAt S3 r3 x3 (fun r34 S34 => (P r34 S34))) else (wp_X5_channel_21 x1 x2 x3 P E S3)))) E)
abbrev rm_X5_channel : Room := { frames := 8, cells := 1, slots := 6, locals := 144 }
def wp_X5_reroute_20 (x1 : Int32) (P : Int32 → St → Prop) (E : String → St → Prop) (S : St)  : Prop := (E "java/lang/IllegalStateException" S)
def wp_X5_reroute (S : St) (x1 : Int32) (P : Int32 → St → Prop) (E : String → St → Prop) : Prop := (wp_X5_existingLight S x1 (fun r2 S2 => (wp_X1_isGone S2 r2 (fun r7 S7 => (if r7 = true then (wp_X5_reroute_20 x1 P E S7) else (if (gI S7 r2 5) = 0 then (wp_X5_openChannels_s S7 r2 (fun S32 => (wp_X4_findFirst S32 (gI S32 r2 3) (gI S32 r2 4) (fun S47 => ((gR S47 5 0 = none → (E "java/lang/IllegalStateException" S47)) ∧ (∀ q54, gR S47 5 0 = some q54 → (wp_X3_become S47 (r2 + 1) q54 (fun S77 => (P (gI S77 q54 1) S77))))))))) else (wp_X5_reroute_20 x1 P E S7)))))) E)
abbrev rm_X5_reroute : Room := { frames := 13, cells := 1, slots := 6, locals := 367 }
def wp_X5_canMerge (S : St) (x1 : Nat) (x2 : Nat) (P : Bool → St → Prop) : Prop := (wp_X1_isUp S x1 (gI S 1 4) (fun r8 S8 => (if r8 = true then (wp_X1_isUp S8 x2 (gI S8 1 4) (fun r22 S22 => (if r22 = true then (if (gI S22 x1 5) = 0 then (if (gI S22 x2 5) = 0 then (wp_X1_joins S22 x1 (gI S22 x2 3) (gI S22 x2 4) (fun r51 S51 => (if r51 = true then (if 10 < ((gI S51 x1 6) + (gI S51 x2 6)) then (P false S51) else (P true S51)) else (P false S51)))) else (P false S22)) else (P false S22)) else (P false S22)))) else (P false S8))))
abbrev rm_X5_canMerge : Room := { frames := 2, cells := 0, slots := 0, locals := 41 }
def wp_X5_handOver_27 (x1 : Nat) (x2 : Nat) (P : St → Prop) (K2 : St → Int32 → Prop) (S : St) (a3 : Int32) : Prop := (∀ y27 : Int32, y27 = a3 + 1 → (K2 S y27))
def wp_X5_handOver_33 (x1 : Nat) (x2 : Nat) (P : St → Prop) (S : St)  : Prop := (∀ S43 : St, S43 = sI S x2 6 ((gI S x2 6) + (gI S x1 6)) → (∀ S48 : St, S48 = sI S43 x1 6 0 → (P S48)))
def wp_X5_handOver_2 (x1 : Nat) (x2 : Nat) (P : St → Prop) : Nat → St → Int32 → Prop
  | 0 => fun _ _ => False
  | n + 1 => fun S a3 => (if (gI S 0 7) ≤ a3 then (wp_X5_handOver_33 x1 x2 P S) else (vp_in a3 60 ∧ ((gR S 365 (a3.toNatClampNeg) = none → (if (none : Option Nat) = (some x1) then (vp_in a3 60 ∧ ∀ S26 : St, S26 = sR S 365 (a3.toNatClampNeg) (some x2) → (wp_X5_handOver_27 x1 x2 P (fun S a3 => wp_X5_handOver_2 x1 x2 P n S a3) S26 a3)) else (wp_X5_handOver_27 x1 x2 P (fun S a3 => wp_X5_handOver_2 x1 x2 P n S a3) S a3))) ∧ (∀ q15, gR S 365 (a3.toNatClampNeg) = some q15 → (if (some q15) = (some x1) then (vp_in a3 60 ∧ ∀ S26 : St, S26 = sR S 365 (a3.toNatClampNeg) (some x2) → (wp_X5_handOver_27 x1 x2 P (fun S a3 => wp_X5_handOver_2 x1 x2 P n S a3) S26 a3)) else (wp_X5_handOver_27 x1 x2 P (fun S a3 => wp_X5_handOver_2 x1 x2 P n S a3) S a3))))))
def wp_X5_handOver (S : St) (x1 : Nat) (x2 : Nat) (P : St → Prop) : Prop := (∃ n2, wp_X5_handOver_2 x1 x2 P n2 S 0)
abbrev rm_X5_handOver : Room := { frames := 0, cells := 0, slots := 0, locals := 0 }
def wp_X5_merge_41 (P : Int32 → St → Prop) (E : String → St → Prop) (S : St) (a1 : Int32) (a2 : Int32) : Prop := (vp_in a2 60 ∧ (vp_in a1 60 ∧ (wp_X5_handOver S (185 + 3 * (a2.toNatClampNeg)) (185 + 3 * (a1.toNatClampNeg)) (fun S54 => (P a2 S54)))))
def wp_X5_merge_65 (P : Int32 → St → Prop) (E : String → St → Prop) (K2 : St → Int32 → Prop) (S : St) (a1 : Int32) : Prop := (∀ y65 : Int32, y65 = a1 + 1 → (K2 S y65))
def wp_X5_merge_14 (P : Int32 → St → Prop) (E : String → St → Prop) (K2 : St → Int32 → Prop) : Nat → St → Int32 → Int32 → Prop
  | 0 => fun _ _ _ => False
  | n + 1 => fun S a1 a2 => (if (gI S 0 4) ≤ a2 then (wp_X5_merge_65 P E K2 S a1) else (vp_in a1 60 ∧ (vp_in a2 60 ∧ (wp_X5_canMerge S (185 + 3 * (a1.toNatClampNeg)) (185 + 3 * (a2.toNatClampNeg)) (fun r35 S35 => (if r35 = true then (wp_X5_merge_41 P E S35 a1 a2) else (∀ y59 : Int32, y59 = a2 + 1 → (wp_X5_merge_14 P E K2 n S35 a1 y59))))))))
def wp_X5_merge_71 (P : Int32 → St → Prop) (E : String → St → Prop) (S : St)  : Prop := (E "java/lang/IllegalStateException" S)
def wp_X5_merge_2 (P : Int32 → St → Prop) (E : String → St → Prop) : Nat → St → Int32 → Prop
  | 0 => fun _ _ => False
  | n + 1 => fun S a1 => (if (gI S 0 4) ≤ a1 then (wp_X5_merge_71 P E S) else (∀ y13 : Int32, y13 = (a1 + 1) → (∃ n14, wp_X5_merge_14 P E (fun S a1 => wp_X5_merge_2 P E n S a1) n14 S a1 y13)))
def wp_X5_merge (S : St)  (P : Int32 → St → Prop) (E : String → St → Prop) : Prop := (∃ n2, wp_X5_merge_2 P E n2 S 0)
abbrev rm_X5_merge : Room := { frames := 6, cells := 1, slots := 6, locals := 100 }
def wp_X5_lowerWavelength_n (S : St)  (P : Bool → St → Prop) : Prop := (P false S)
abbrev rm_X5_lowerWavelength_n : Room := { frames := 4, cells := 0, slots := 0, locals := 91 }
def wp_X5_lowerWavelength_s_45 (x1 : Nat) (P : Bool → St → Prop) (K17 : St → Int32 → Int32 → Prop) (S : St) (a2 : Int32) (a3 : Int32) : Prop := (∀ y45 : Int32, y45 = a3 + 1 → (K17 S a2 y45))
def wp_X5_lowerWavelength_s_51 (x1 : Nat) (P : Bool → St → Prop) (S : St) (a2 : Int32) : Prop := (wp_X5_lowestIn S (a2 ^^^ (-1)) (fun r54 S54 => (wp_X3_firstWavelength S54 x1 (fun r60 S60 => (if r54 < r60 then (wp_X3_shiftTo S60 x1 r54 (fun S70 => (P true S70))) else (P false S60))))))
def wp_X5_lowerWavelength_s_17 (x1 : Nat) (P : Bool → St → Prop) : Nat → St → Int32 → Int32 → Prop
  | 0 => fun _ _ _ => False
  | n + 1 => fun S a2 a3 => (if (gI S 1 2) ≤ a3 then (wp_X5_lowerWavelength_s_51 x1 P S a2) else (wp_X3_uses S x1 a3 (fun r30 S30 => (if r30 = true then (wp_X5_wavelengthsUsed_n S30 a3 (fun r40 S40 => (∀ y44 : Int32, y44 = (a2 ||| r40) → (wp_X5_lowerWavelength_s_45 x1 P (fun S a2 a3 => wp_X5_lowerWavelength_s_17 x1 P n S a2 a3) S40 y44 a3)))) else (wp_X5_lowerWavelength_s_45 x1 P (fun S a2 a3 => wp_X5_lowerWavelength_s_17 x1 P n S a2 a3) S30 a2 a3)))))
def wp_X5_lowerWavelength_s (S : St) (x1 : Nat) (P : Bool → St → Prop) : Prop := (if (gI S x1 2) ≤ 0 then (∃ n17, wp_X5_lowerWavelength_s_17 x1 P n17 S 0 0) else (P false S))
abbrev rm_X5_lowerWavelength_s : Room := { frames := 4, cells := 0, slots := 0, locals := 91 }
def wp_X5_move_49 (P : Int32 → St → Prop) (E : String → St → Prop) (S : St)  : Prop := (E "java/lang/IllegalStateException" S)
def wp_X5_move_2 (P : Int32 → St → Prop) (E : String → St → Prop) : Nat → St → Int32 → Prop
  | 0 => fun _ _ => False
  | n + 1 => fun S a1 => (if (gI S 0 4) ≤ a1 then (wp_X5_move_49 P E S) else (vp_in a1 60 ∧ (wp_X1_wayAt S (185 + 3 * (a1.toNatClampNeg)) 0 (fun r20 S20 => ((r20 = none → (wp_X5_lowerWavelength_n S20 (fun r23 S23 => (if r23 = true then (P a1 S23) else (wp_X1_wayAt S23 (185 + 3 * (a1.toNatClampNeg)) 1 (fun r32 S32 => ((r32 = none → (wp_X5_lowerWavelength_n S32 (fun r35 S35 => (if r35 = true then (P a1 S35) else (∀ y43 : Int32, y43 = a1 + 1 → (wp_X5_move_2 P E n S35 y43)))))) ∧ (∀ q32, r32 = some q32 → (wp_X5_lowerWavelength_s S32 q32 (fun r35 S35 => (if r35 = true then (P a1 S35) else (∀ y43 : Int32, y43 = a1 + 1 → (wp_X5_move_2 P E n S35 y43))))))))))))) ∧ (∀ q20, r20 = some q20 → (wp_X5_lowerWavelength_s S20 q20 (fun r23 S23 => (if r23 = true then (P a1 S23) else (wp_X1_wayAt S23 (185 + 3 * (a1.toNatClampNeg)) 1 (fun r32 S32 => ((r32 = none → (wp_X5_lowerWavelength_n S32 (fun r35 S35 => (if r35 = true then (P a1 S35) else (∀ y43 : Int32, y43 = a1 + 1 → (wp_X5_move_2 P E n S35 y43)))))) ∧ (∀ q32, r32 = some q32 → (wp_X5_lowerWavelength_s S32 q32 (fun r35 S35 => (if r35 = true then (P a1 S35) else (∀ y43 : Int32, y43 = a1 + 1 → (wp_X5_move_2 P E n S35 y43))))))))))))))))))
def wp_X5_move (S : St)  (P : Int32 → St → Prop) (E : String → St → Prop) : Prop := (∃ n2, wp_X5_move_2 P E n2 S 0)
abbrev rm_X5_move : Room := { frames := 6, cells := 1, slots := 6, locals := 114 }
def wp_X5_wavelengthsNeeded_48 (P : Int32 → St → Prop) (K9 : St → Int32 → Prop) (S : St) (a1 : Int32) : Prop := (∀ y48 : Int32, y48 = a1 + 1 → (K9 S y48))
def wp_X5_wavelengthsNeeded_54 (P : Int32 → St → Prop) (S : St)  : Prop := (wp_X0_leastColours S (fun r58 S58 => (P r58 S58)))
def wp_X5_wavelengthsNeeded_9 (P : Int32 → St → Prop) : Nat → St → Int32 → Prop
  | 0 => fun _ _ => False
  | n + 1 => fun S a1 => (if (gI S 0 4) ≤ a1 then (wp_X5_wavelengthsNeeded_54 P S) else (vp_in a1 60 ∧ (wp_X1_isGone S (185 + 3 * (a1.toNatClampNeg)) (fun r23 S23 => (if r23 = true then (wp_X5_wavelengthsNeeded_48 P (fun S a1 => wp_X5_wavelengthsNeeded_9 P n S a1) S23 a1) else (vp_in a1 60 ∧ (wp_X0_add S23 (gI S23 ((185 + 3 * (a1.toNatClampNeg)) + 1) 3) (fun S45 => (wp_X5_wavelengthsNeeded_48 P (fun S a1 => wp_X5_wavelengthsNeeded_9 P n S a1) S45 a1)))))))))
def wp_X5_wavelengthsNeeded (S : St)  (P : Int32 → St → Prop) : Prop := (wp_X0_clear S (fun S4 => (∃ n9, wp_X5_wavelengthsNeeded_9 P n9 S4 0)))
abbrev rm_X5_wavelengthsNeeded : Room := { frames := 16, cells := 0, slots := 0, locals := 440 }
def wp_X3_init (S : St) (P : St → Prop) : Prop := (P S)
def wp_X1_init (S : St) (k : Nat) (x1 : Int32) (P : St → Prop) : Prop := (wp_X3_init S (fun S9 => (∀ S12 : St, S12 = sR S9 k 1 (some (k + 1)) → (wp_X3_init S12 (fun S20 => (∀ S23 : St, S23 = sR S20 k 2 (some (k + 2)) → (∀ S28 : St, S28 = sI S23 k 0 x1 → (P S28))))))))
def wp_X2_init (S : St) (P : St → Prop) : Prop := (∀ S6 : St, S6 = sI S 1 0 4 → (∀ S11 : St, S11 = sI S6 1 1 4 → (∀ S19 : St, S19 = sR S11 1 5 (some 2) → (∀ S27 : St, S27 = sR S19 1 6 (some 3) → (∀ S35 : St, S35 = sR S27 1 7 (some 4) → (P S35))))))
def wp_X0_init (S : St) (P : St → Prop) : Prop := (∀ S9 : St, S9 = sR S 181 0 (some 182) → (∀ S17 : St, S17 = sR S9 181 1 (some 183) → (P S17)))
def wl_X4 (P : St → Prop) : Nat → Nat → St → Prop
  | 0 => fun _ S => P S
  | r + 1 => fun i S => gR S 5 11 = some 18 ∧ ∀ S84 : St, S84 = sR S 18 i (some (19 + i)) → wl_X4 P r (i + 1) S84
def wp_X4_init (S : St) (P : St → Prop) : Prop := (∀ S9 : St, S9 = sR S 5 2 (some 6) → (∀ S17 : St, S17 = sR S9 5 7 (some 7) → (∀ S25 : St, S25 = sR S17 5 8 (some 8) → (∀ S33 : St, S33 = sR S25 5 9 (some 9) → (∀ S41 : St, S41 = mrow S33 10 7 → (∀ S45 : St, S45 = sR S41 5 10 (some 10) → (∀ S55 : St, S55 = sR S45 5 11 (some 18) → (∀ S60 : St, S60 = sR S55 5 3 (some 1) → (wl_X4 P 162 0 S60)))))))))
def wl_X5 (P : St → Prop) : Nat → Nat → St → Prop
  | 0 => fun _ S => P S
  | r + 1 => fun i S => gR S 0 3 = some 184 ∧ wp_X1_init S (185 + 3 * i) (nI i) (fun S67 => ∀ S70 : St, S70 = sR S67 184 i (some (185 + 3 * i)) → wl_X5 P r (i + 1) S70)
def wp_X5_init_77 (S : St) (P : St → Prop) : Prop := (∀ S83 : St, S83 = sR S 0 5 (some 365) → (∀ S91 : St, S91 = sR S83 0 6 (some 366) → (P S91)))
def wp_X5_init (S : St) (P : St → Prop) : Prop := (wp_X2_init S (fun S8 => (∀ S14 : St, S14 = sR S8 0 0 (some 1) → (wp_X4_init S14 (fun S23 => (∀ S26 : St, S26 = sR S23 0 1 (some 5) → (wp_X0_init S26 (fun S34 => (∀ S37 : St, S37 = sR S34 0 2 (some 181) → (∀ S46 : St, S46 = sR S37 0 3 (some 184) → (wl_X5 (fun S => wp_X5_init_77 S P) 60 0 S46)))))))))))
