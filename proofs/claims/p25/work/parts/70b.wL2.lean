def wp_L_areLightsSo_209 (P : Bool → St → Prop) (K9 : St → Int32 → Int32 → Int32 → Int32 → Prop) (K122 : St → Int32 → Int32 → Int32 → Int32 → Int32 → Int32 → Bool → Int32 → Prop) (K148 : St → Int32 → Int32 → Int32 → Int32 → Int32 → Int32 → Bool → Int32 → Int32 → Int32 → Prop) (S : St) (a1 : Int32) (a2 : Int32) (a3 : Int32) (a4 : Int32) (a5 : Int32) (a6 : Int32) (a8 : Int32) (a9 : Int32) (a10 : Int32) (a11 : Int32) (t0 : Bool) : Prop := (∀ y221 : Int32, y221 = (a6 ||| (1 <<< ((a11 / 10) &&& 31))) → (∀ y223 : Int32, y223 = a2 + 1 → (∀ y226 : Int32, y226 = a10 + 1 → (K148 S a1 y223 a3 a4 a5 y221 t0 a8 a9 y226))))
def wp_L_areLightsSo_208 (P : Bool → St → Prop) (K9 : St → Int32 → Int32 → Int32 → Int32 → Prop) (K122 : St → Int32 → Int32 → Int32 → Int32 → Int32 → Int32 → Bool → Int32 → Prop) (K148 : St → Int32 → Int32 → Int32 → Int32 → Int32 → Int32 → Bool → Int32 → Int32 → Int32 → Prop) (S : St) (a1 : Int32) (a2 : Int32) (a3 : Int32) (a4 : Int32) (a5 : Int32) (a6 : Int32) (a8 : Int32) (a9 : Int32) (a10 : Int32) (a11 : Int32) : Prop := (wp_L_areLightsSo_209 P K9 K122 K148 S a1 a2 a3 a4 a5 a6 a8 a9 a10 a11 false)
def wp_L_areLightsSo_270 (P : Bool → St → Prop) (K9 : St → Int32 → Int32 → Int32 → Int32 → Prop) (K122 : St → Int32 → Int32 → Int32 → Int32 → Int32 → Int32 → Bool → Int32 → Prop) (S : St) (a1 : Int32) (a2 : Int32) (a3 : Int32) (a4 : Int32) (a5 : Int32) (a6 : Int32) (a8 : Int32) (t0 : Bool) : Prop := (∀ y272 : Int32, y272 = a8 + 1 → (K122 S a1 a2 a3 a4 a5 a6 t0 y272))
def wp_L_areLightsSo_265 (P : Bool → St → Prop) (K9 : St → Int32 → Int32 → Int32 → Int32 → Prop) (K122 : St → Int32 → Int32 → Int32 → Int32 → Int32 → Int32 → Bool → Int32 → Prop) (S : St) (a1 : Int32) (a2 : Int32) (a3 : Int32) (a4 : Int32) (a5 : Int32) (a6 : Int32) (a8 : Int32) : Prop := (wp_L_areLightsSo_270 P K9 K122 S a1 a2 a3 a4 a5 a6 a8 true)
def wp_L_areLightsSo_269 (P : Bool → St → Prop) (K9 : St → Int32 → Int32 → Int32 → Int32 → Prop) (K122 : St → Int32 → Int32 → Int32 → Int32 → Int32 → Int32 → Bool → Int32 → Prop) (S : St) (a1 : Int32) (a2 : Int32) (a3 : Int32) (a4 : Int32) (a5 : Int32) (a6 : Int32) (a8 : Int32) : Prop := (wp_L_areLightsSo_270 P K9 K122 S a1 a2 a3 a4 a5 a6 a8 false)
def wp_L_areLightsSo_232 (P : Bool → St → Prop) (K9 : St → Int32 → Int32 → Int32 → Int32 → Prop) (K122 : St → Int32 → Int32 → Int32 → Int32 → Int32 → Int32 → Bool → Int32 → Prop) (S : St) (a1 : Int32) (a2 : Int32) (a3 : Int32) (a4 : Int32) (a5 : Int32) (a6 : Int32) (a7 : Bool) (a8 : Int32) (a9 : Int32) : Prop := (if a7 = true then (if a9 = (-99999) then (wp_L_areLightsSo_265 P K9 K122 S a1 a2 a3 a4 a5 a6 a8) else (if a9 ≤ 0 then (wp_L_areLightsSo_269 P K9 K122 S a1 a2 a3 a4 a5 a6 a8) else (wp_L_looks S 1 a4 a8 a9 (fun r257 S257 => (if r257 = (-99999) then (wp_L_areLightsSo_265 P K9 K122 S257 a1 a2 a3 a4 a5 a6 a8) else (wp_L_areLightsSo_269 P K9 K122 S257 a1 a2 a3 a4 a5 a6 a8)))))) else (wp_L_areLightsSo_269 P K9 K122 S a1 a2 a3 a4 a5 a6 a8))
def wp_L_areLightsSo_148 (P : Bool → St → Prop) (K9 : St → Int32 → Int32 → Int32 → Int32 → Prop) (K122 : St → Int32 → Int32 → Int32 → Int32 → Int32 → Int32 → Bool → Int32 → Prop) : Nat → St → Int32 → Int32 → Int32 → Int32 → Int32 → Int32 → Bool → Int32 → Int32 → Int32 → Prop
  | 0 => fun _ _ _ _ _ _ _ _ _ _ _ => False
  | n + 1 => fun S a1 a2 a3 a4 a5 a6 a7 a8 a9 a10 => (if a9 ≤ a10 then (wp_L_areLightsSo_232 P K9 K122 S a1 a2 a3 a4 a5 a6 a7 a8 a9) else (if a7 = true then (wp_X5_channel S a4 a8 a10 (fun r167 S167 => (wp_X5_lightOn S167 (r167 / 10) (r167 - r167 / 10 * 10) (fun r183 S183 => (if r183 = a4 then (if ((a6 >>> ((r167 / 10) &&& 31)) &&& 1) = 0 then (wp_L_areLightsSo_209 P K9 K122 (fun S a1 a2 a3 a4 a5 a6 a7 a8 a9 a10 => wp_L_areLightsSo_148 P K9 K122 n S a1 a2 a3 a4 a5 a6 a7 a8 a9 a10) S183 a1 a2 a3 a4 a5 a6 a8 a9 a10 r167 true) else (wp_L_areLightsSo_208 P K9 K122 (fun S a1 a2 a3 a4 a5 a6 a7 a8 a9 a10 => wp_L_areLightsSo_148 P K9 K122 n S a1 a2 a3 a4 a5 a6 a7 a8 a9 a10) S183 a1 a2 a3 a4 a5 a6 a8 a9 a10 r167)) else (wp_L_areLightsSo_208 P K9 K122 (fun S a1 a2 a3 a4 a5 a6 a7 a8 a9 a10 => wp_L_areLightsSo_148 P K9 K122 n S a1 a2 a3 a4 a5 a6 a7 a8 a9 a10) S183 a1 a2 a3 a4 a5 a6 a8 a9 a10 r167))) (fun _ _ => False))) (fun _ _ => False)) else (wp_L_areLightsSo_232 P K9 K122 S a1 a2 a3 a4 a5 a6 a7 a8 a9)))
def wp_L_areLightsSo_297 (P : Bool → St → Prop) (K9 : St → Int32 → Int32 → Int32 → Int32 → Prop) (S : St) (a2 : Int32) (a3 : Int32) (a4 : Int32) (t0 : Int32) (t1 : Bool) : Prop := (∀ y298 : Int32, y298 = (t0 + (b2i t1)) → (wp_X5_units S a4 (fun r303 S303 => (∀ y307 : Int32, y307 = (a3 + r303) → (∀ y308 : Int32, y308 = a4 + 1 → (K9 S303 y298 a2 y307 y308)))) (fun _ _ => False)))
def wp_L_areLightsSo_278 (P : Bool → St → Prop) (K9 : St → Int32 → Int32 → Int32 → Int32 → Prop) (S : St) (a1 : Int32) (a2 : Int32) (a3 : Int32) (a4 : Int32) (a5 : Int32) (a7 : Bool) : Prop := (if a7 = true then (if 2 ≤ a5 then (wp_L_areLightsSo_297 P K9 S a2 a3 a4 a1 false) else (wp_L_areLightsSo_297 P K9 S a2 a3 a4 a1 true)) else (P false S))
def wp_L_areLightsSo_122 (P : Bool → St → Prop) (K9 : St → Int32 → Int32 → Int32 → Int32 → Prop) : Nat → St → Int32 → Int32 → Int32 → Int32 → Int32 → Int32 → Bool → Int32 → Prop
  | 0 => fun _ _ _ _ _ _ _ _ _ => False
  | n + 1 => fun S a1 a2 a3 a4 a5 a6 a7 a8 => (if 2 ≤ a8 then (wp_L_areLightsSo_278 P K9 S a1 a2 a3 a4 a5 a7) else (if a7 = true then (wp_L_looks S 0 a4 a8 0 (fun r140 S140 => (∃ n148, n148 ≤ 8 ∧ wp_L_areLightsSo_148 P K9 (fun S a1 a2 a3 a4 a5 a6 a7 a8 => wp_L_areLightsSo_122 P K9 n S a1 a2 a3 a4 a5 a6 a7 a8) n148 S140 a1 a2 a3 a4 a5 a6 a7 a8 r140 0))) else (wp_L_areLightsSo_278 P K9 S a1 a2 a3 a4 a5 a7)))
def wp_L_areLightsSo_117 (P : Bool → St → Prop) (K9 : St → Int32 → Int32 → Int32 → Int32 → Prop) (S : St) (a1 : Int32) (a2 : Int32) (a3 : Int32) (a4 : Int32) (a5 : Int32) (t0 : Bool) : Prop := (∃ n122, n122 ≤ 3 ∧ wp_L_areLightsSo_122 P K9 n122 S a1 a2 a3 a4 a5 0 t0 0)
def wp_L_areLightsSo_116 (P : Bool → St → Prop) (K9 : St → Int32 → Int32 → Int32 → Int32 → Prop) (S : St) (a1 : Int32) (a2 : Int32) (a3 : Int32) (a4 : Int32) (a5 : Int32) : Prop := (wp_L_areLightsSo_117 P K9 S a1 a2 a3 a4 a5 false)
def wp_L_areLightsSo_109 (P : Bool → St → Prop) (K9 : St → Int32 → Int32 → Int32 → Int32 → Prop) (S : St) (a1 : Int32) (a2 : Int32) (a3 : Int32) (a4 : Int32) (a5 : Int32) (t0 : Bool) (t1 : Bool) : Prop := (if (b2i t0) = (b2i t1) then (wp_L_areLightsSo_117 P K9 S a1 a2 a3 a4 a5 true) else (wp_L_areLightsSo_116 P K9 S a1 a2 a3 a4 a5))
def wp_L_areLightsSo_90 (P : Bool → St → Prop) (K9 : St → Int32 → Int32 → Int32 → Int32 → Prop) (S : St) (a1 : Int32) (a2 : Int32) (a3 : Int32) (a4 : Int32) (a5 : Int32) (t0 : Bool) : Prop := (wp_L_looks S 0 a4 0 0 (fun r96 S96 => (if r96 = (-99999) then (wp_L_areLightsSo_109 P K9 S96 a1 a2 a3 a4 a5 t0 true) else (wp_L_areLightsSo_109 P K9 S96 a1 a2 a3 a4 a5 t0 false))))
def wp_L_areLightsSo_65 (P : Bool → St → Prop) (K9 : St → Int32 → Int32 → Int32 → Int32 → Prop) (S : St) (a1 : Int32) (a2 : Int32) (a3 : Int32) (a4 : Int32) (a5 : Int32) (t0 : Bool) (t1 : Bool) : Prop := (if (b2i t0) = (b2i t1) then (wp_X5_units S a4 (fun r71 S71 => (if 10 < r71 then (wp_L_areLightsSo_116 P K9 S71 a1 a2 a3 a4 a5) else (if a5 = 2 then (wp_L_areLightsSo_90 P K9 S71 a1 a2 a3 a4 a5 true) else (wp_L_areLightsSo_90 P K9 S71 a1 a2 a3 a4 a5 false)))) (fun _ _ => False)) else (wp_L_areLightsSo_116 P K9 S a1 a2 a3 a4 a5))
def wp_L_areLightsSo_51 (P : Bool → St → Prop) (K9 : St → Int32 → Int32 → Int32 → Int32 → Prop) (S : St) (a1 : Int32) (a2 : Int32) (a3 : Int32) (a4 : Int32) (a5 : Int32) (t0 : Bool) : Prop := (wp_X5_units S a4 (fun r54 S54 => (if r54 = 0 then (wp_L_areLightsSo_65 P K9 S54 a1 a2 a3 a4 a5 t0 true) else (wp_L_areLightsSo_65 P K9 S54 a1 a2 a3 a4 a5 t0 false))) (fun _ _ => False))
def wp_L_areLightsSo_379 (P : Bool → St → Prop) (K320 : St → Int32 → Int32 → Int32 → Int32 → Int32 → Prop) (S : St) (a1 : Int32) (a2 : Int32) (a3 : Int32) (a4 : Int32) (a5 : Int32) : Prop := (∀ y379 : Int32, y379 = a5 + 1 → (K320 S a1 a2 a3 a4 y379))
def wp_L_areLightsSo_350 (P : Bool → St → Prop) (K320 : St → Int32 → Int32 → Int32 → Int32 → Int32 → Prop) (S : St) (a1 : Int32) (a2 : Int32) (a3 : Int32) (a5 : Int32) (a6 : Int32) (t0 : Int32) (t1 : Bool) : Prop := (∀ y351 : Int32, y351 = (t0 + (b2i t1)) → (wp_X5_lights S (fun r356 S356 => (if r356 ≤ a6 then (P false S356) else (if a6 < 0 then (wp_L_areLightsSo_379 P K320 S356 a1 a2 a3 y351 a5) else (wp_X5_state S356 a6 (fun r370 S370 => (if r370 = 2 then (P false S370) else (wp_L_areLightsSo_379 P K320 S370 a1 a2 a3 y351 a5))) (fun _ _ => False)))))))
def wp_L_areLightsSo_424 (P : Bool → St → Prop) (K388 : St → Int32 → Int32 → Int32 → Int32 → Int32 → Prop) (K398 : St → Int32 → Int32 → Int32 → Int32 → Int32 → Int32 → Prop) (S : St) (a1 : Int32) (a3 : Int32) (a4 : Int32) (a5 : Int32) (a6 : Int32) (t0 : Int32) (t1 : Bool) : Prop := (∀ y425 : Int32, y425 = (t0 - (b2i t1)) → (∀ y426 : Int32, y426 = a6 + 1 → (K398 S a1 y425 a3 a4 a5 y426)))
def wp_L_areLightsSo_432 (P : Bool → St → Prop) (K388 : St → Int32 → Int32 → Int32 → Int32 → Int32 → Prop) (S : St) (a1 : Int32) (a2 : Int32) (a3 : Int32) (a4 : Int32) (a5 : Int32) : Prop := (∀ y432 : Int32, y432 = a5 + 1 → (K388 S a1 a2 a3 a4 y432))
def wp_L_areLightsSo_398 (P : Bool → St → Prop) (K388 : St → Int32 → Int32 → Int32 → Int32 → Int32 → Prop) : Nat → St → Int32 → Int32 → Int32 → Int32 → Int32 → Int32 → Prop
  | 0 => fun _ _ _ _ _ _ _ => False
  | n + 1 => fun S a1 a2 a3 a4 a5 a6 => (if 8 ≤ a6 then (wp_L_areLightsSo_432 P K388 S a1 a2 a3 a4 a5) else (wp_L_looks S 2 a5 a6 0 (fun r413 S413 => (if r413 < 0 then (wp_L_areLightsSo_424 P K388 (fun S a1 a2 a3 a4 a5 a6 => wp_L_areLightsSo_398 P K388 n S a1 a2 a3 a4 a5 a6) S413 a1 a3 a4 a5 a6 a2 false) else (wp_L_areLightsSo_424 P K388 (fun S a1 a2 a3 a4 a5 a6 => wp_L_areLightsSo_398 P K388 n S a1 a2 a3 a4 a5 a6) S413 a1 a3 a4 a5 a6 a2 true)))))
def wp_L_areLightsSo_438 (P : Bool → St → Prop) (S : St) (a1 : Int32) (a2 : Int32) (a3 : Int32) (a4 : Int32) : Prop := (if 12 < a1 then (P false S) else (if a2 = 0 then (if a4 < a1 then (P false S) else (if a3 < a4 then (P false S) else (if (10 * a4) < a3 then (P false S) else (P true S)))) else (P false S)))
def wp_L_areLightsSo_388 (P : Bool → St → Prop) : Nat → St → Int32 → Int32 → Int32 → Int32 → Int32 → Prop
  | 0 => fun _ _ _ _ _ _ => False
  | n + 1 => fun S a1 a2 a3 a4 a5 => (if 14 ≤ a5 then (wp_L_areLightsSo_438 P S a1 a2 a3 a4) else (∃ n398, n398 ≤ 9 ∧ wp_L_areLightsSo_398 P (fun S a1 a2 a3 a4 a5 => wp_L_areLightsSo_388 P n S a1 a2 a3 a4 a5) n398 S a1 a2 a3 a4 a5 0))
def wp_L_areLightsSo_385 (P : Bool → St → Prop) (S : St) (a1 : Int32) (a2 : Int32) (a3 : Int32) (a4 : Int32) : Prop := (∃ n388, n388 ≤ 15 ∧ wp_L_areLightsSo_388 P n388 S a1 a2 a3 a4 0)
def wp_L_areLightsSo_320 (P : Bool → St → Prop) : Nat → St → Int32 → Int32 → Int32 → Int32 → Int32 → Prop
  | 0 => fun _ _ _ _ _ _ => False
  | n + 1 => fun S a1 a2 a3 a4 a5 => (wp_X5_requests S (fun r323 S323 => (if r323 ≤ a5 then (wp_L_areLightsSo_385 P S323 a1 a2 a3 a4) else (wp_L_does S323 3 a5 (fun r333 S333 => (if r333 < 0 then (wp_L_areLightsSo_350 P (fun S a1 a2 a3 a4 a5 => wp_L_areLightsSo_320 P n S a1 a2 a3 a4 a5) S333 a1 a2 a3 a5 r333 a4 false) else (wp_L_areLightsSo_350 P (fun S a1 a2 a3 a4 a5 => wp_L_areLightsSo_320 P n S a1 a2 a3 a4 a5) S333 a1 a2 a3 a5 r333 a4 true)))))))
def wp_L_areLightsSo_314 (P : Bool → St → Prop) (S : St) (a1 : Int32) (a2 : Int32) (a3 : Int32) : Prop := (∃ n320, n320 ≤ 61 ∧ wp_L_areLightsSo_320 P n320 S a1 a2 a3 0 0)
def wp_L_areLightsSo_9 (P : Bool → St → Prop) : Nat → St → Int32 → Int32 → Int32 → Int32 → Prop
  | 0 => fun _ _ _ _ _ => False
  | n + 1 => fun S a1 a2 a3 a4 => (wp_X5_lights S (fun r12 S12 => (if r12 ≤ a4 then (wp_L_areLightsSo_314 P S12 a1 a2 a3) else (wp_X5_state S12 a4 (fun r21 S21 => (if r21 < 0 then (wp_L_areLightsSo_116 P (fun S a1 a2 a3 a4 => wp_L_areLightsSo_9 P n S a1 a2 a3 a4) S21 a1 a2 a3 a4 r21) else (if 3 ≤ r21 then (wp_L_areLightsSo_116 P (fun S a1 a2 a3 a4 => wp_L_areLightsSo_9 P n S a1 a2 a3 a4) S21 a1 a2 a3 a4 r21) else (if r21 = 2 then (wp_L_areLightsSo_51 P (fun S a1 a2 a3 a4 => wp_L_areLightsSo_9 P n S a1 a2 a3 a4) S21 a1 a2 a3 a4 r21 true) else (wp_L_areLightsSo_51 P (fun S a1 a2 a3 a4 => wp_L_areLightsSo_9 P n S a1 a2 a3 a4) S21 a1 a2 a3 a4 r21 false))))) (fun _ _ => False)))))
def wp_L_areLightsSo (S : St)  (P : Bool → St → Prop) : Prop := (∃ n9, n9 ≤ 61 ∧ wp_L_areLightsSo_9 P n9 S 0 0 0 0)
abbrev rm_L_areLightsSo : Room := { frames := 15, cells := 624, slots := 3744, locals := 413 }
def wp_L_isNeededSo_29 (P : Bool → St → Prop) (K6 : St → Int32 → Int32 → Prop) (S : St) (a3 : Int32) (t0 : Int32) (t1 : Bool) : Prop := (∀ y30 : Int32, y30 = (t0 + (b2i t1)) → (∀ y31 : Int32, y31 = a3 + 1 → (K6 S y30 y31)))
def wp_L_isNeededSo_100 (P : Bool → St → Prop) (K39 : St → Int32 → Int32 → Int32 → Prop) (K51 : St → Int32 → Int32 → Int32 → Int32 → Int32 → Prop) (K63 : St → Int32 → Int32 → Int32 → Int32 → Int32 → Int32 → Prop) (S : St) (a1 : Int32) (a2 : Int32) (a3 : Int32) (a5 : Int32) (a6 : Int32) (t0 : Int32) (t1 : Bool) : Prop := (∀ y101 : Int32, y101 = (t0 + (b2i t1)) → (∀ y103 : Int32, y103 = a6 + 1 → (K63 S a1 a2 a3 y101 a5 y103)))
def wp_L_isNeededSo_109 (P : Bool → St → Prop) (K39 : St → Int32 → Int32 → Int32 → Prop) (K51 : St → Int32 → Int32 → Int32 → Int32 → Int32 → Prop) (S : St) (a1 : Int32) (a2 : Int32) (a3 : Int32) (a4 : Int32) (a5 : Int32) : Prop := (∀ y109 : Int32, y109 = a5 + 1 → (K51 S a1 a2 a3 a4 y109))
def wp_L_isNeededSo_63 (P : Bool → St → Prop) (K39 : St → Int32 → Int32 → Int32 → Prop) (K51 : St → Int32 → Int32 → Int32 → Int32 → Int32 → Prop) : Nat → St → Int32 → Int32 → Int32 → Int32 → Int32 → Int32 → Prop
  | 0 => fun _ _ _ _ _ _ _ => False
  | n + 1 => fun S a1 a2 a3 a4 a5 a6 => (wp_L_looks S 0 a5 0 0 (fun r71 S71 => (if r71 ≤ a6 then (wp_L_isNeededSo_109 P K39 K51 S71 a1 a2 a3 a4 a5) else (wp_X5_channel S71 a5 0 a6 (fun r85 S85 => (if (r85 / 10) = a3 then (wp_L_isNeededSo_100 P K39 K51 (fun S a1 a2 a3 a4 a5 a6 => wp_L_isNeededSo_63 P K39 K51 n S a1 a2 a3 a4 a5 a6) S85 a1 a2 a3 a5 a6 a4 true) else (wp_L_isNeededSo_100 P K39 K51 (fun S a1 a2 a3 a4 a5 a6 => wp_L_isNeededSo_63 P K39 K51 n S a1 a2 a3 a4 a5 a6) S85 a1 a2 a3 a5 a6 a4 false))) (fun _ _ => False)))))
def wp_L_isNeededSo_127 (P : Bool → St → Prop) (K39 : St → Int32 → Int32 → Int32 → Prop) (S : St) (a1 : Int32) (a3 : Int32) (t0 : Int32) : Prop := (∀ y128 : Int32, y128 = a3 + 1 → (K39 S a1 t0 y128))
def wp_L_isNeededSo_115 (P : Bool → St → Prop) (K39 : St → Int32 → Int32 → Int32 → Prop) (S : St) (a1 : Int32) (a2 : Int32) (a3 : Int32) (a4 : Int32) : Prop := (if a4 ≤ a2 then (wp_L_isNeededSo_127 P K39 S a1 a3 a2) else (wp_L_isNeededSo_127 P K39 S a1 a3 a4))
def wp_L_isNeededSo_51 (P : Bool → St → Prop) (K39 : St → Int32 → Int32 → Int32 → Prop) : Nat → St → Int32 → Int32 → Int32 → Int32 → Int32 → Prop
  | 0 => fun _ _ _ _ _ _ => False
  | n + 1 => fun S a1 a2 a3 a4 a5 => (wp_X5_lights S (fun r54 S54 => (if r54 ≤ a5 then (wp_L_isNeededSo_115 P K39 S54 a1 a2 a3 a4) else (∃ n63, n63 ≤ 8 ∧ wp_L_isNeededSo_63 P K39 (fun S a1 a2 a3 a4 a5 => wp_L_isNeededSo_51 P K39 n S a1 a2 a3 a4 a5) n63 S54 a1 a2 a3 a4 a5 0))))
def wp_L_isNeededSo_167 (P : Bool → St → Prop) (S : St) (t0 : Bool) (t1 : Bool) : Prop := (if (b2i t0) = (b2i t1) then (P true S) else (P false S))
def wp_L_isNeededSo_158 (P : Bool → St → Prop) (S : St) (a1 : Int32) (t0 : Bool) : Prop := (if a1 ≤ 0 then (wp_L_isNeededSo_167 P S t0 false) else (wp_L_isNeededSo_167 P S t0 true))
def wp_L_isNeededSo_134 (P : Bool → St → Prop) (S : St) (a1 : Int32) (a2 : Int32) : Prop := (wp_X5_wavelengthsNeeded S (fun r135 S135 => (if r135 < a2 then (P false S135) else (if a1 < r135 then (P false S135) else (if r135 ≤ 0 then (wp_L_isNeededSo_158 P S135 a1 false) else (wp_L_isNeededSo_158 P S135 a1 true))))))
def wp_L_isNeededSo_39 (P : Bool → St → Prop) : Nat → St → Int32 → Int32 → Int32 → Prop
  | 0 => fun _ _ _ _ => False
  | n + 1 => fun S a1 a2 a3 => (if 14 ≤ a3 then (wp_L_isNeededSo_134 P S a1 a2) else (∃ n51, n51 ≤ 61 ∧ wp_L_isNeededSo_51 P (fun S a1 a2 a3 => wp_L_isNeededSo_39 P n S a1 a2 a3) n51 S a1 a2 a3 0 0))
def wp_L_isNeededSo_37 (P : Bool → St → Prop) (S : St) (a1 : Int32) : Prop := (∃ n39, n39 ≤ 15 ∧ wp_L_isNeededSo_39 P n39 S a1 0 0)
def wp_L_isNeededSo_6 (P : Bool → St → Prop) : Nat → St → Int32 → Int32 → Prop
  | 0 => fun _ _ _ => False
  | n + 1 => fun S a1 a3 => (wp_X5_lights S (fun r8 S8 => (if r8 ≤ a3 then (wp_L_isNeededSo_37 P S8 a1) else (wp_X5_state S8 a3 (fun r17 S17 => (if 2 ≤ r17 then (wp_L_isNeededSo_29 P (fun S a1 a3 => wp_L_isNeededSo_6 P n S a1 a3) S17 a3 a1 false) else (wp_L_isNeededSo_29 P (fun S a1 a3 => wp_L_isNeededSo_6 P n S a1 a3) S17 a3 a1 true))) (fun _ _ => False)))))
def wp_L_isNeededSo (S : St)  (P : Bool → St → Prop) : Prop := (∃ n6, n6 ≤ 61 ∧ wp_L_isNeededSo_6 P n6 S 0 0)
abbrev rm_L_isNeededSo : Room := { frames := 17, cells := 8236, slots := 49416, locals := 461 }
set_option maxHeartbeats 4000000 in
set_option maxRecDepth 100000 in
theorem c_L_areLightsSo (l : Launch) (hlt : l.stackTraces = false) (D : va_G) (cy : Nat → ClassId) (b0 : Nat) (S : St)  (P : Bool → St → Prop) (hw : wp_L_areLightsSo S  P) : Met l yL_areLightsSo wsL_areLightsSo rm_L_areLightsSo (va_Pc [.ref (b0 + 0)] (Wd D cy b0 NALL S)) (QC (Pz P) (Wb D cy b0 NALL) b0) 624 3744 (AA b0) := by
  refine Met.ofW (cc := cL_areLightsSo) (maxL := 12) (ret := (some .boolean)) (by decide) rfl ?_
  intro p e s m args below meth c s₁ B hml hv
  obtain ⟨hargs, hW, hP, hF⟩ := hv
  have hx := B.exec
  have hb := B.bytes
  have hr := B.returns
  have hts := atoms_spec (ws := wsL_areLightsSo) B.pre
  have hown : s.vm.findClass RL = some m.cls := findClass_of_methodNamed B.named
  have hlocks := B.notSynchronized
  have hK := hW.1
  have hS : va_S (AA b0) s.heap s.heap [] := va_S.rf
  have hE : entryFrame m args 12 = F0 m 0 ((lg_sl [.ref (b0 + 0)] ++ List.replicate (12 - (lg_sl [.ref (b0 + 0)]).length) Slot.unset).toArray) [] := by rw [hargs]; exact lg_entry_eq m _ _
  rw [hE]
  have hl := lv_entry [.ref (b0 + 0)] (n := 12) (Nat.le_of_ble_eq_true rfl)
  generalize (lg_sl [.ref (b0 + 0)] ++ List.replicate (12 - (lg_sl [.ref (b0 + 0)]).length) Slot.unset).toArray = ls at hl ⊢
  have hl : lv_has ls 12 [(0, .ref (b0 + 0))] := hl
  have j438 : ∀ kk : Nat, kk + (1) ≤ 624 → ∀ (S : St) (a1 : Int32) (a2 : Int32) (a3 : Int32) (a4 : Int32), ∀ (H : Heap) (locs : List Loc) (ls : Array Slot), wp_L_areLightsSo_438 P S a1 a2 a3 a4 → HP D cy b0 NALL S H → Fx S → va_S (AA b0) s.heap H locs → lv_has ls 12 [(1, .int a1), (2, .int a2), (3, .int a3), (4, .int a4)] → W p l e rm_L_areLightsSo s m args below meth c H locs kk (0 + 6 * kk) (MQ below (QC (Pz P) (Wb D cy b0 NALL) b0) args s 624 3744 (AA b0)) (F0 m 438 ls []) := by
    intro kk hc9 S a1 a2 a3 a4 H locs ls hw hP hF hS hl
    unfold wp_L_areLightsSo_438 at hw
    refine lv_iload_n hx hb dL_areLightsSo_438 rfl (lv_at hl 0 rfl) ?_
    refine lv_bipush (v := 12) hx hb dL_areLightsSo_439 (by decide) ?_
    refine lv_icmp_gt (x := a1) (y := 12) (tgt := 473) hx hb dL_areLightsSo_441 (by decide) (fun c441 => ?_) (fun c441 => ?_)
    · rw [if_pos c441] at hw
      refine lv_iconst (v := 0) hx hb dL_areLightsSo_473 (by decide) ?_
      refine W.widen (k := 624) (n := 3744) (by omega) (by omega) ?_
      exact q_zret (v := false) hx hb hr hP hF hS hw dL_areLightsSo_474 hlocks
    · rw [if_neg c441] at hw
      refine lv_iload_n hx hb dL_areLightsSo_444 rfl (lv_at hl 1 rfl) ?_
      refine lv_if_ne (x := a2) (tgt := 473) hx hb dL_areLightsSo_445 (by decide) (fun c445 => ?_) (fun c445 => ?_)
      · rw [if_neg c445] at hw
        refine lv_iconst (v := 0) hx hb dL_areLightsSo_473 (by decide) ?_
        refine W.widen (k := 624) (n := 3744) (by omega) (by omega) ?_
        exact q_zret (v := false) hx hb hr hP hF hS hw dL_areLightsSo_474 hlocks
      · rw [if_pos c445] at hw
        refine lv_iload hx hb dL_areLightsSo_448 (lv_at hl 3 rfl) ?_
        refine lv_iload_n hx hb dL_areLightsSo_450 rfl (lv_at hl 0 rfl) ?_
        refine lv_icmp_lt (x := a4) (y := a1) (tgt := 473) hx hb dL_areLightsSo_451 (by decide) (fun c451 => ?_) (fun c451 => ?_)
        · rw [if_pos c451] at hw
          refine lv_iconst (v := 0) hx hb dL_areLightsSo_473 (by decide) ?_
          refine W.widen (k := 624) (n := 3744) (by omega) (by omega) ?_
          exact q_zret (v := false) hx hb hr hP hF hS hw dL_areLightsSo_474 hlocks
        · rw [if_neg c451] at hw
          refine lv_iload_n hx hb dL_areLightsSo_454 rfl (lv_at hl 2 rfl) ?_
          refine lv_iload hx hb dL_areLightsSo_455 (lv_at hl 3 rfl) ?_
          refine lv_icmp_lt (x := a3) (y := a4) (tgt := 473) hx hb dL_areLightsSo_457 (by decide) (fun c457 => ?_) (fun c457 => ?_)
          · rw [if_pos c457] at hw
            refine lv_iconst (v := 0) hx hb dL_areLightsSo_473 (by decide) ?_
            refine W.widen (k := 624) (n := 3744) (by omega) (by omega) ?_
            exact q_zret (v := false) hx hb hr hP hF hS hw dL_areLightsSo_474 hlocks
          · rw [if_neg c457] at hw
            refine lv_iload_n hx hb dL_areLightsSo_460 rfl (lv_at hl 2 rfl) ?_
            refine lv_bipush (v := 10) hx hb dL_areLightsSo_461 (by decide) ?_
            refine lv_iload hx hb dL_areLightsSo_463 (lv_at hl 3 rfl) ?_
            refine lv_imul hx hb dL_areLightsSo_465 ?_
            refine lv_icmp_gt (x := a3) (y := (10 * a4)) (tgt := 473) hx hb dL_areLightsSo_466 (by decide) (fun c466 => ?_) (fun c466 => ?_)
            · rw [if_pos c466] at hw
              refine lv_iconst (v := 0) hx hb dL_areLightsSo_473 (by decide) ?_
              refine W.widen (k := 624) (n := 3744) (by omega) (by omega) ?_
              exact q_zret (v := false) hx hb hr hP hF hS hw dL_areLightsSo_474 hlocks
            · rw [if_neg c466] at hw
              refine lv_iconst (v := 1) hx hb dL_areLightsSo_469 (by decide) ?_
              refine lv_goto (tgt := 474) hx hb dL_areLightsSo_470 (by decide) ?_
              refine W.widen (k := 624) (n := 3744) (by omega) (by omega) ?_
              exact q_zret (v := true) hx hb hr hP hF hS hw dL_areLightsSo_474 hlocks
  have j388 : ∀ (n388 : Nat), ∀ kk : Nat, kk + (1 + 9 * n388) ≤ 624 → ∀ (S : St) (a1 : Int32) (a2 : Int32) (a3 : Int32) (a4 : Int32) (a5 : Int32), ∀ (H : Heap) (locs : List Loc) (ls : Array Slot), wp_L_areLightsSo_388 P n388 S a1 a2 a3 a4 a5 → HP D cy b0 NALL S H → Fx S → va_S (AA b0) s.heap H locs → lv_has ls 12 [(0, .ref (b0 + 0)), (1, .int a1), (2, .int a2), (3, .int a3), (4, .int a4), (5, .int a5)] → W p l e rm_L_areLightsSo s m args below meth c H locs kk (0 + 6 * kk) (MQ below (QC (Pz P) (Wb D cy b0 NALL) b0) args s 624 3744 (AA b0)) (F0 m 388 ls []) := by
    intro n388
    induction n388 with
    | zero => intro kk hc9 S a1 a2 a3 a4 a5 H locs ls hw _ _ _ _ ; exact False.elim hw
    | succ n388 ih388 =>
      have j432 : ∀ kk : Nat, kk + (1 + 9 * n388) ≤ 624 → ∀ (S : St) (a1 : Int32) (a2 : Int32) (a3 : Int32) (a4 : Int32) (a5 : Int32), ∀ (H : Heap) (locs : List Loc) (ls : Array Slot), wp_L_areLightsSo_432 P (fun S a1 a2 a3 a4 a5 => wp_L_areLightsSo_388 P n388 S a1 a2 a3 a4 a5) S a1 a2 a3 a4 a5 → HP D cy b0 NALL S H → Fx S → va_S (AA b0) s.heap H locs → lv_has ls 12 [(0, .ref (b0 + 0)), (1, .int a1), (2, .int a2), (3, .int a3), (4, .int a4), (5, .int a5)] → W p l e rm_L_areLightsSo s m args below meth c H locs kk (0 + 6 * kk) (MQ below (QC (Pz P) (Wb D cy b0 NALL) b0) args s 624 3744 (AA b0)) (F0 m 432 ls []) := by
        intro kk hc9 S a1 a2 a3 a4 a5 H locs ls hw hP hF hS hl
        unfold wp_L_areLightsSo_432 at hw
        obtain ⟨y432, e432⟩ : ∃ z : Int32, z = a5 + 1 := ⟨_, rfl⟩
        have hw := hw y432 e432
        refine lv_iinc (v := y432) (lv' := [(5, .int y432), (0, .ref (b0 + 0)), (1, .int a1), (2, .int a2), (3, .int a3), (4, .int a4)]) hx hb dL_areLightsSo_432 hl (k := 5) rfl (by rw [e432]; rfl) (by decide) rfl (fun ls hl => ?_)
        refine lv_goto (tgt := 388) hx hb dL_areLightsSo_435 (by decide) ?_
        refine W.widen (k := kk + 0) (n := 0 + 6 * (kk + 0)) (by omega) (by omega) ?_
        exact ih388 (kk + 0) (by omega) S a1 a2 a3 a4 y432 _ _ _ hw hP hF hS (lv_sub hl [1, 2, 3, 4, 5, 0] rfl)
      have j398 : ∀ (n398 : Nat), ∀ kk : Nat, kk + (1 + 1 * n398 + 9 * n388) ≤ 624 → ∀ (S : St) (a1 : Int32) (a2 : Int32) (a3 : Int32) (a4 : Int32) (a5 : Int32) (a6 : Int32), ∀ (H : Heap) (locs : List Loc) (ls : Array Slot), wp_L_areLightsSo_398 P (fun S a1 a2 a3 a4 a5 => wp_L_areLightsSo_388 P n388 S a1 a2 a3 a4 a5) n398 S a1 a2 a3 a4 a5 a6 → HP D cy b0 NALL S H → Fx S → va_S (AA b0) s.heap H locs → lv_has ls 12 [(0, .ref (b0 + 0)), (1, .int a1), (2, .int a2), (3, .int a3), (4, .int a4), (5, .int a5), (6, .int a6)] → W p l e rm_L_areLightsSo s m args below meth c H locs kk (0 + 6 * kk) (MQ below (QC (Pz P) (Wb D cy b0 NALL) b0) args s 624 3744 (AA b0)) (F0 m 398 ls []) := by
        intro n398
        induction n398 with
        | zero => intro kk hc9 S a1 a2 a3 a4 a5 a6 H locs ls hw _ _ _ _ ; exact False.elim hw
        | succ n398 ih398 =>
          have j424 : ∀ kk : Nat, kk + (1 + 9 * n388 + 1 * n398) ≤ 624 → ∀ (S : St) (a1 : Int32) (a3 : Int32) (a4 : Int32) (a5 : Int32) (a6 : Int32) (t0 : Int32) (t1 : Bool), ∀ (H : Heap) (locs : List Loc) (ls : Array Slot), wp_L_areLightsSo_424 P (fun S a1 a2 a3 a4 a5 => wp_L_areLightsSo_388 P n388 S a1 a2 a3 a4 a5) (fun S a1 a2 a3 a4 a5 a6 => wp_L_areLightsSo_398 P (fun S a1 a2 a3 a4 a5 => wp_L_areLightsSo_388 P n388 S a1 a2 a3 a4 a5) n398 S a1 a2 a3 a4 a5 a6) S a1 a3 a4 a5 a6 t0 t1 → HP D cy b0 NALL S H → Fx S → va_S (AA b0) s.heap H locs → lv_has ls 12 [(0, .ref (b0 + 0)), (1, .int a1), (3, .int a3), (4, .int a4), (5, .int a5), (6, .int a6)] → W p l e rm_L_areLightsSo s m args below meth c H locs kk (0 + 6 * kk) (MQ below (QC (Pz P) (Wb D cy b0 NALL) b0) args s 624 3744 (AA b0)) (F0 m 424 ls [.int (b2i t1), .int t0]) := by
            intro kk hc9 S a1 a3 a4 a5 a6 t0 t1 H locs ls hw hP hF hS hl
            unfold wp_L_areLightsSo_424 at hw
            refine lv_isub hx hb dL_areLightsSo_424 ?_
            refine lv_topi (fun y425 e425 => ?_)
            have hw := hw y425 e425
            refine lv_istore_n (lv' := [(2, .int y425), (0, .ref (b0 + 0)), (1, .int a1), (3, .int a3), (4, .int a4), (5, .int a5), (6, .int a6)]) hx hb dL_areLightsSo_425 rfl hl (by decide) rfl (fun ls hl => ?_)
            obtain ⟨y426, e426⟩ : ∃ z : Int32, z = a6 + 1 := ⟨_, rfl⟩
            have hw := hw y426 e426
            refine lv_iinc (v := y426) (lv' := [(6, .int y426), (2, .int y425), (0, .ref (b0 + 0)), (1, .int a1), (3, .int a3), (4, .int a4), (5, .int a5)]) hx hb dL_areLightsSo_426 hl (k := 6) rfl (by rw [e426]; rfl) (by decide) rfl (fun ls hl => ?_)
            refine lv_goto (tgt := 398) hx hb dL_areLightsSo_429 (by decide) ?_
            refine W.widen (k := kk + 0) (n := 0 + 6 * (kk + 0)) (by omega) (by omega) ?_
            exact ih398 (kk + 0) (by omega) S a1 y425 a3 a4 a5 y426 _ _ _ hw hP hF hS (lv_sub hl [2, 3, 1, 4, 5, 6, 0] rfl)
          intro kk hc9 S a1 a2 a3 a4 a5 a6 H locs ls hw hP hF hS hl
          rw [wp_L_areLightsSo_398] at hw
          refine lv_iload hx hb dL_areLightsSo_398 (lv_at hl 6 rfl) ?_
          refine lv_bipush (v := 8) hx hb dL_areLightsSo_400 (by decide) ?_
          refine lv_icmp_ge (x := a6) (y := 8) (tgt := 432) hx hb dL_areLightsSo_402 (by decide) (fun c402 => ?_) (fun c402 => ?_)
          · rw [if_pos c402] at hw
            refine W.widen (k := kk + 0) (n := 0 + 6 * (kk + 0)) (by omega) (by omega) ?_
            exact j432 (kk + 0) (by omega) S a1 a2 a3 a4 a5 _ _ _ hw hP hF hS (lv_sub hl [0, 1, 2, 3, 4, 5] rfl)
          · rw [if_neg c402] at hw
            refine lv_iload_n hx hb dL_areLightsSo_405 rfl (lv_at hl 2 rfl) ?_
            refine lv_aload_n hx hb dL_areLightsSo_406 rfl (lv_at hl 0 rfl) ?_
            refine lv_iconst (v := 2) hx hb dL_areLightsSo_407 (by decide) ?_
            refine lv_iload hx hb dL_areLightsSo_408 (lv_at hl 5 rfl) ?_
            refine lv_iload hx hb dL_areLightsSo_410 (lv_at hl 6 rfl) ?_
            refine lv_iconst (v := 0) hx hb dL_areLightsSo_412 (by decide) ?_
            refine q_call (vx_runSW (As := [.ref (b0 + 0), .int 2, .int a5, .int a6, .int 0]) (rest := [.int a2]) ⟨hx, hb, hml, hown, hts⟩ (c_L_looks l hlt D cy b0 S 2 a5 a6 0 _ hw) (vx_cwSW 5 hts gL_areLightsSo_L_looks rfl rfl rfl (by decide +kernel) ⟨(Nat.le_of_ble_eq_true rfl), (Nat.le_of_ble_eq_true rfl)⟩) (q_pS hW hP hF hS [.ref (b0 + 0), .int 2, .int a5, .int a6, .int 0]) rfl rfl hl.1 rfl (lv_room (Nat.le_of_ble_eq_true rfl)) dL_areLightsSo_413 ⟨by show _ ≤ 624; omega, by show _ ≤ 3744; omega⟩) hS (fun v413 S413 t413 H locs hh hp hB hz hk9 hS => ?_)
            obtain ⟨r413, rfl, hw⟩ := hp
            have hP : HP D cy b0 NALL S413 H := by rw [← hh]; exact hB.1
            have hF := hB.2
            try dsimp only at hw
            refine W.eq (g2 := F0 m 416 ls [.int r413, .int a2]) rfl ?_
            refine lv_if_lt (x := r413) (tgt := 423) hx hb dL_areLightsSo_416 (by decide) (fun c416 => ?_) (fun c416 => ?_)
            · rw [if_pos c416] at hw
              refine lv_iconst (v := 0) hx hb dL_areLightsSo_423 (by decide) ?_
              refine W.widen (k := kk + 1) (n := 0 + 6 * (kk + 1)) (by omega) (by omega) ?_
              exact j424 (kk + 1) (by omega) S413 a1 a3 a4 a5 a6 a2 false _ _ _ hw hP hF hS (lv_sub hl [0, 1, 3, 4, 5, 6] rfl)
            · rw [if_neg c416] at hw
              refine lv_iconst (v := 1) hx hb dL_areLightsSo_419 (by decide) ?_
              refine lv_goto (tgt := 424) hx hb dL_areLightsSo_420 (by decide) ?_
              refine W.widen (k := kk + 1) (n := 0 + 6 * (kk + 1)) (by omega) (by omega) ?_
              exact j424 (kk + 1) (by omega) S413 a1 a3 a4 a5 a6 a2 true _ _ _ hw hP hF hS (lv_sub hl [0, 1, 3, 4, 5, 6] rfl)
      intro kk hc9 S a1 a2 a3 a4 a5 H locs ls hw hP hF hS hl
      rw [wp_L_areLightsSo_388] at hw
      refine lv_iload hx hb dL_areLightsSo_388 (lv_at hl 5 rfl) ?_
      refine lv_bipush (v := 14) hx hb dL_areLightsSo_390 (by decide) ?_
      refine lv_icmp_ge (x := a5) (y := 14) (tgt := 438) hx hb dL_areLightsSo_392 (by decide) (fun c392 => ?_) (fun c392 => ?_)
      · rw [if_pos c392] at hw
        refine W.widen (k := kk + 0) (n := 0 + 6 * (kk + 0)) (by omega) (by omega) ?_
        exact j438 (kk + 0) (by omega) S a1 a2 a3 a4 _ _ _ hw hP hF hS (lv_sub hl [1, 2, 3, 4] rfl)
      · rw [if_neg c392] at hw
        refine lv_iconst (v := 0) hx hb dL_areLightsSo_395 (by decide) ?_
        refine lv_istore (lv' := [(6, .int 0), (0, .ref (b0 + 0)), (1, .int a1), (2, .int a2), (3, .int a3), (4, .int a4), (5, .int a5)]) hx hb dL_areLightsSo_396 hl (by decide) rfl (fun ls hl => ?_)
        obtain ⟨n398, hn398, hw⟩ := hw
        refine W.widen (k := kk + 0) (n := 0 + 6 * (kk + 0)) (by omega) (by omega) ?_
        exact j398 n398 (kk + 0) (by omega) S a1 a2 a3 a4 a5 0 _ _ _ hw hP hF hS (lv_sub hl [1, 2, 3, 4, 5, 6, 0] rfl)
  have j385 : ∀ kk : Nat, kk + (136) ≤ 624 → ∀ (S : St) (a1 : Int32) (a2 : Int32) (a3 : Int32) (a4 : Int32), ∀ (H : Heap) (locs : List Loc) (ls : Array Slot), wp_L_areLightsSo_385 P S a1 a2 a3 a4 → HP D cy b0 NALL S H → Fx S → va_S (AA b0) s.heap H locs → lv_has ls 12 [(0, .ref (b0 + 0)), (1, .int a1), (2, .int a2), (3, .int a3), (4, .int a4)] → W p l e rm_L_areLightsSo s m args below meth c H locs kk (0 + 6 * kk) (MQ below (QC (Pz P) (Wb D cy b0 NALL) b0) args s 624 3744 (AA b0)) (F0 m 385 ls []) := by
    intro kk hc9 S a1 a2 a3 a4 H locs ls hw hP hF hS hl
    unfold wp_L_areLightsSo_385 at hw
    refine lv_iconst (v := 0) hx hb dL_areLightsSo_385 (by decide) ?_
    refine lv_istore (lv' := [(5, .int 0), (0, .ref (b0 + 0)), (1, .int a1), (2, .int a2), (3, .int a3), (4, .int a4)]) hx hb dL_areLightsSo_386 hl (by decide) rfl (fun ls hl => ?_)
    obtain ⟨n388, hn388, hw⟩ := hw
    refine W.widen (k := kk + 0) (n := 0 + 6 * (kk + 0)) (by omega) (by omega) ?_
    exact j388 n388 (kk + 0) (by omega) S a1 a2 a3 a4 0 _ _ _ hw hP hF hS (lv_sub hl [1, 2, 3, 4, 5, 0] rfl)
  have j320 : ∀ (n320 : Nat), ∀ kk : Nat, kk + (136 + 1 * n320) ≤ 624 → ∀ (S : St) (a1 : Int32) (a2 : Int32) (a3 : Int32) (a4 : Int32) (a5 : Int32), ∀ (H : Heap) (locs : List Loc) (ls : Array Slot), wp_L_areLightsSo_320 P n320 S a1 a2 a3 a4 a5 → HP D cy b0 NALL S H → Fx S → va_S (AA b0) s.heap H locs → lv_has ls 12 [(0, .ref (b0 + 0)), (1, .int a1), (2, .int a2), (3, .int a3), (4, .int a4), (5, .int a5)] → W p l e rm_L_areLightsSo s m args below meth c H locs kk (0 + 6 * kk) (MQ below (QC (Pz P) (Wb D cy b0 NALL) b0) args s 624 3744 (AA b0)) (F0 m 320 ls []) := by
    intro n320
    induction n320 with
    | zero => intro kk hc9 S a1 a2 a3 a4 a5 H locs ls hw _ _ _ _ ; exact False.elim hw
    | succ n320 ih320 =>
      have j379 : ∀ kk : Nat, kk + (136 + 1 * n320) ≤ 624 → ∀ (S : St) (a1 : Int32) (a2 : Int32) (a3 : Int32) (a4 : Int32) (a5 : Int32), ∀ (H : Heap) (locs : List Loc) (ls : Array Slot), wp_L_areLightsSo_379 P (fun S a1 a2 a3 a4 a5 => wp_L_areLightsSo_320 P n320 S a1 a2 a3 a4 a5) S a1 a2 a3 a4 a5 → HP D cy b0 NALL S H → Fx S → va_S (AA b0) s.heap H locs → lv_has ls 12 [(0, .ref (b0 + 0)), (1, .int a1), (2, .int a2), (3, .int a3), (4, .int a4), (5, .int a5)] → W p l e rm_L_areLightsSo s m args below meth c H locs kk (0 + 6 * kk) (MQ below (QC (Pz P) (Wb D cy b0 NALL) b0) args s 624 3744 (AA b0)) (F0 m 379 ls []) := by
        intro kk hc9 S a1 a2 a3 a4 a5 H locs ls hw hP hF hS hl
        unfold wp_L_areLightsSo_379 at hw
        obtain ⟨y379, e379⟩ : ∃ z : Int32, z = a5 + 1 := ⟨_, rfl⟩
        have hw := hw y379 e379
        refine lv_iinc (v := y379) (lv' := [(5, .int y379), (0, .ref (b0 + 0)), (1, .int a1), (2, .int a2), (3, .int a3), (4, .int a4)]) hx hb dL_areLightsSo_379 hl (k := 5) rfl (by rw [e379]; rfl) (by decide) rfl (fun ls hl => ?_)
        refine lv_goto (tgt := 320) hx hb dL_areLightsSo_382 (by decide) ?_
        refine W.widen (k := kk + 0) (n := 0 + 6 * (kk + 0)) (by omega) (by omega) ?_
        exact ih320 (kk + 0) (by omega) S a1 a2 a3 a4 y379 _ _ _ hw hP hF hS (lv_sub hl [1, 2, 3, 4, 5, 0] rfl)
      have j350 : ∀ kk : Nat, kk + (136 + 1 * n320) ≤ 624 → ∀ (S : St) (a1 : Int32) (a2 : Int32) (a3 : Int32) (a5 : Int32) (a6 : Int32) (t0 : Int32) (t1 : Bool), ∀ (H : Heap) (locs : List Loc) (ls : Array Slot), wp_L_areLightsSo_350 P (fun S a1 a2 a3 a4 a5 => wp_L_areLightsSo_320 P n320 S a1 a2 a3 a4 a5) S a1 a2 a3 a5 a6 t0 t1 → HP D cy b0 NALL S H → Fx S → va_S (AA b0) s.heap H locs → lv_has ls 12 [(0, .ref (b0 + 0)), (1, .int a1), (2, .int a2), (3, .int a3), (5, .int a5), (6, .int a6)] → W p l e rm_L_areLightsSo s m args below meth c H locs kk (0 + 6 * kk) (MQ below (QC (Pz P) (Wb D cy b0 NALL) b0) args s 624 3744 (AA b0)) (F0 m 350 ls [.int (b2i t1), .int t0]) := by
        intro kk hc9 S a1 a2 a3 a5 a6 t0 t1 H locs ls hw hP hF hS hl
        unfold wp_L_areLightsSo_350 at hw
        refine lv_iadd hx hb dL_areLightsSo_350 ?_
        refine lv_topi (fun y351 e351 => ?_)
        have hw := hw y351 e351
        refine lv_istore (lv' := [(4, .int y351), (0, .ref (b0 + 0)), (1, .int a1), (2, .int a2), (3, .int a3), (5, .int a5), (6, .int a6)]) hx hb dL_areLightsSo_351 hl (by decide) rfl (fun ls hl => ?_)
        refine lv_iload hx hb dL_areLightsSo_353 (lv_at hl 6 rfl) ?_
        refine lv_aload_n hx hb dL_areLightsSo_355 rfl (lv_at hl 1 rfl) ?_
        refine q_call (va_runV (As := []) (rest := [.int a6]) ⟨hx, hb, hml, hown, hts⟩ (c_X5_lights l D cy b0 S _ hw) (cwV 0 hts gL_areLightsSo_X5_lights rfl rfl rfl (by decide +kernel) ⟨(Nat.le_of_ble_eq_true rfl), (Nat.le_of_ble_eq_true rfl)⟩) (q_pV hW hP hF hS (k := 0) (ci := 5) (by decide) (cell_5 kk_0) rfl []) rfl rfl hl.1 rfl (lv_room (Nat.le_of_ble_eq_true rfl)) dL_areLightsSo_356 ⟨by show _ ≤ 624; omega, by show _ ≤ 3744; omega⟩) hS (fun v356 S356 t356 H locs hh hp hB hz hk9 hS => ?_)
        obtain ⟨r356, rfl, hw⟩ := hp
        have hP : HP D cy b0 NALL S356 H := by rw [← hh]; exact hB.1
        have hF := hB.2
        try dsimp only at hw
        refine W.eq (g2 := F0 m 359 ls [.int r356, .int a6]) rfl ?_
        refine lv_icmp_ge (x := a6) (y := r356) (tgt := 377) hx hb dL_areLightsSo_359 (by decide) (fun c359 => ?_) (fun c359 => ?_)
        · rw [if_pos c359] at hw
          refine lv_iconst (v := 0) hx hb dL_areLightsSo_377 (by decide) ?_
          refine W.widen (k := 624) (n := 3744) (by omega) (by omega) ?_
          exact q_zret (v := false) hx hb hr hP hF hS hw dL_areLightsSo_378 hlocks
        · rw [if_neg c359] at hw
          refine lv_iload hx hb dL_areLightsSo_362 (lv_at hl 6 rfl) ?_
          refine lv_if_lt (x := a6) (tgt := 379) hx hb dL_areLightsSo_364 (by decide) (fun c364 => ?_) (fun c364 => ?_)
          · rw [if_pos c364] at hw
            refine W.widen (k := kk + 0) (n := 0 + 6 * (kk + 0)) (by omega) (by omega) ?_
            exact j379 (kk + 0) (by omega) S356 a1 a2 a3 y351 a5 _ _ _ hw hP hF hS (lv_sub hl [1, 2, 3, 4, 0, 5] rfl)
          · rw [if_neg c364] at hw
            refine lv_aload_n hx hb dL_areLightsSo_367 rfl (lv_at hl 1 rfl) ?_
            refine lv_iload hx hb dL_areLightsSo_368 (lv_at hl 6 rfl) ?_
            refine q_callX (vx_runV (As := [.int a6]) (rest := []) ⟨hx, hb, hml, hown, hts⟩ (c_X5_state l hlt D cy b0 S356 a6 _ _ hw) (cwV 1 hts gL_areLightsSo_X5_state rfl rfl rfl (by decide +kernel) ⟨(Nat.le_of_ble_eq_true rfl), (Nat.le_of_ble_eq_true rfl)⟩) (q_pV hW hP hF hS (k := 0) (ci := 5) (by decide) (cell_5 kk_0) rfl [.int a6]) rfl rfl hl.1 rfl (lv_room (Nat.le_of_ble_eq_true rfl)) dL_areLightsSo_370 ⟨by show _ ≤ 624; omega, by show _ ≤ 3744; omega⟩) hS (fun E370 ce q9 S370 t370 H locs hh hw hB hz hS hc9 hv9 hcl9 => ?_) (fun v370 S370 t370 H locs hh hp hB hz hk9 hS => ?_)
            · exact False.elim hw
            · obtain ⟨r370, rfl, hw⟩ := hp
              have hP : HP D cy b0 NALL S370 H := by rw [← hh]; exact hB.1
              have hF := hB.2
              try dsimp only at hw
              refine W.eq (g2 := F0 m 373 ls [.int r370]) rfl ?_
              refine lv_iconst (v := 2) hx hb dL_areLightsSo_373 (by decide) ?_
              refine lv_icmp_ne (x := r370) (y := 2) (tgt := 379) hx hb dL_areLightsSo_374 (by decide) (fun c374 => ?_) (fun c374 => ?_)
              · rw [if_neg c374] at hw
                refine W.widen (k := kk + 0) (n := 0 + 6 * (kk + 0)) (by omega) (by omega) ?_
                exact j379 (kk + 0) (by omega) S370 a1 a2 a3 y351 a5 _ _ _ hw hP hF hS (lv_sub hl [1, 2, 3, 4, 0, 5] rfl)
              · rw [if_pos c374] at hw
                refine lv_iconst (v := 0) hx hb dL_areLightsSo_377 (by decide) ?_
                refine W.widen (k := 624) (n := 3744) (by omega) (by omega) ?_
                exact q_zret (v := false) hx hb hr hP hF hS hw dL_areLightsSo_378 hlocks
      intro kk hc9 S a1 a2 a3 a4 a5 H locs ls hw hP hF hS hl
      rw [wp_L_areLightsSo_320] at hw
      refine lv_iload hx hb dL_areLightsSo_320 (lv_at hl 5 rfl) ?_
      refine lv_aload_n hx hb dL_areLightsSo_322 rfl (lv_at hl 0 rfl) ?_
      refine q_call (va_runV (As := []) (rest := [.int a5]) ⟨hx, hb, hml, hown, hts⟩ (c_X5_requests l D cy b0 S _ hw) (cwV 0 hts gL_areLightsSo_X5_requests rfl rfl rfl (by decide +kernel) ⟨(Nat.le_of_ble_eq_true rfl), (Nat.le_of_ble_eq_true rfl)⟩) (q_pV hW hP hF hS (k := 0) (ci := 5) (by decide) (cell_5 kk_0) rfl []) rfl rfl hl.1 rfl (lv_room (Nat.le_of_ble_eq_true rfl)) dL_areLightsSo_323 ⟨by show _ ≤ 624; omega, by show _ ≤ 3744; omega⟩) hS (fun v323 S323 t323 H locs hh hp hB hz hk9 hS => ?_)
      obtain ⟨r323, rfl, hw⟩ := hp
      have hP : HP D cy b0 NALL S323 H := by rw [← hh]; exact hB.1
      have hF := hB.2
      try dsimp only at hw
      refine W.eq (g2 := F0 m 326 ls [.int r323, .int a5]) rfl ?_
      refine lv_icmp_ge (x := a5) (y := r323) (tgt := 385) hx hb dL_areLightsSo_326 (by decide) (fun c326 => ?_) (fun c326 => ?_)
      · rw [if_pos c326] at hw
        refine W.widen (k := kk + 0) (n := 0 + 6 * (kk + 0)) (by omega) (by omega) ?_
        exact j385 (kk + 0) (by omega) S323 a1 a2 a3 a4 _ _ _ hw hP hF hS (lv_sub hl [0, 1, 2, 3, 4] rfl)
      · rw [if_neg c326] at hw
        refine lv_aload_n hx hb dL_areLightsSo_329 rfl (lv_at hl 0 rfl) ?_
        refine lv_iconst (v := 3) hx hb dL_areLightsSo_330 (by decide) ?_
        refine lv_iload hx hb dL_areLightsSo_331 (lv_at hl 5 rfl) ?_
        refine q_call (vx_runSW (As := [.ref (b0 + 0), .int 3, .int a5]) (rest := []) ⟨hx, hb, hml, hown, hts⟩ (c_L_does l hlt D cy b0 S323 3 a5 _ hw) (vx_cwSW 3 hts gL_areLightsSo_L_does rfl rfl rfl (by decide +kernel) ⟨(Nat.le_of_ble_eq_true rfl), (Nat.le_of_ble_eq_true rfl)⟩) (q_pS hW hP hF hS [.ref (b0 + 0), .int 3, .int a5]) rfl rfl hl.1 rfl (lv_room (Nat.le_of_ble_eq_true rfl)) dL_areLightsSo_333 ⟨by show _ ≤ 624; omega, by show _ ≤ 3744; omega⟩) hS (fun v333 S333 t333 H locs hh hp hB hz hk9 hS => ?_)
        obtain ⟨r333, rfl, hw⟩ := hp
        have hP : HP D cy b0 NALL S333 H := by rw [← hh]; exact hB.1
        have hF := hB.2
        try dsimp only at hw
        refine W.eq (g2 := F0 m 336 ls [.int r333]) rfl ?_
        refine lv_istore (lv' := [(6, .int r333), (0, .ref (b0 + 0)), (1, .int a1), (2, .int a2), (3, .int a3), (4, .int a4), (5, .int a5)]) hx hb dL_areLightsSo_336 hl (by decide) rfl (fun ls hl => ?_)
        refine lv_iload hx hb dL_areLightsSo_338 (lv_at hl 5 rfl) ?_
        refine lv_iload hx hb dL_areLightsSo_340 (lv_at hl 0 rfl) ?_
        refine lv_if_lt (x := r333) (tgt := 349) hx hb dL_areLightsSo_342 (by decide) (fun c342 => ?_) (fun c342 => ?_)
        · rw [if_pos c342] at hw
          refine lv_iconst (v := 0) hx hb dL_areLightsSo_349 (by decide) ?_
          refine W.widen (k := kk + 1) (n := 0 + 6 * (kk + 1)) (by omega) (by omega) ?_
          exact j350 (kk + 1) (by omega) S333 a1 a2 a3 a5 r333 a4 false _ _ _ hw hP hF hS (lv_sub hl [1, 2, 3, 4, 6, 0] rfl)
        · rw [if_neg c342] at hw
          refine lv_iconst (v := 1) hx hb dL_areLightsSo_345 (by decide) ?_
          refine lv_goto (tgt := 350) hx hb dL_areLightsSo_346 (by decide) ?_
          refine W.widen (k := kk + 1) (n := 0 + 6 * (kk + 1)) (by omega) (by omega) ?_
          exact j350 (kk + 1) (by omega) S333 a1 a2 a3 a5 r333 a4 true _ _ _ hw hP hF hS (lv_sub hl [1, 2, 3, 4, 6, 0] rfl)
  have j314 : ∀ kk : Nat, kk + (197) ≤ 624 → ∀ (S : St) (a1 : Int32) (a2 : Int32) (a3 : Int32), ∀ (H : Heap) (locs : List Loc) (ls : Array Slot), wp_L_areLightsSo_314 P S a1 a2 a3 → HP D cy b0 NALL S H → Fx S → va_S (AA b0) s.heap H locs → lv_has ls 12 [(0, .ref (b0 + 0)), (1, .int a1), (2, .int a2), (3, .int a3)] → W p l e rm_L_areLightsSo s m args below meth c H locs kk (0 + 6 * kk) (MQ below (QC (Pz P) (Wb D cy b0 NALL) b0) args s 624 3744 (AA b0)) (F0 m 314 ls []) := by
    intro kk hc9 S a1 a2 a3 H locs ls hw hP hF hS hl
    unfold wp_L_areLightsSo_314 at hw
    refine lv_iconst (v := 0) hx hb dL_areLightsSo_314 (by decide) ?_
    refine lv_istore (lv' := [(4, .int 0), (0, .ref (b0 + 0)), (1, .int a1), (2, .int a2), (3, .int a3)]) hx hb dL_areLightsSo_315 hl (by decide) rfl (fun ls hl => ?_)
    refine lv_iconst (v := 0) hx hb dL_areLightsSo_317 (by decide) ?_
    refine lv_istore (lv' := [(5, .int 0), (4, .int 0), (0, .ref (b0 + 0)), (1, .int a1), (2, .int a2), (3, .int a3)]) hx hb dL_areLightsSo_318 hl (by decide) rfl (fun ls hl => ?_)
    obtain ⟨n320, hn320, hw⟩ := hw
    refine W.widen (k := kk + 0) (n := 0 + 6 * (kk + 0)) (by omega) (by omega) ?_
    exact j320 n320 (kk + 0) (by omega) S a1 a2 a3 0 0 _ _ _ hw hP hF hS (lv_sub hl [2, 3, 4, 5, 1, 0] rfl)
  have j9 : ∀ (n9 : Nat), ∀ kk : Nat, kk + (197 + 7 * n9) ≤ 624 → ∀ (S : St) (a1 : Int32) (a2 : Int32) (a3 : Int32) (a4 : Int32), ∀ (H : Heap) (locs : List Loc) (ls : Array Slot), wp_L_areLightsSo_9 P n9 S a1 a2 a3 a4 → HP D cy b0 NALL S H → Fx S → va_S (AA b0) s.heap H locs → lv_has ls 12 [(0, .ref (b0 + 0)), (1, .int a1), (2, .int a2), (3, .int a3), (4, .int a4)] → W p l e rm_L_areLightsSo s m args below meth c H locs kk (0 + 6 * kk) (MQ below (QC (Pz P) (Wb D cy b0 NALL) b0) args s 624 3744 (AA b0)) (F0 m 9 ls []) := by
    intro n9
    induction n9 with
    | zero => intro kk hc9 S a1 a2 a3 a4 H locs ls hw _ _ _ _ ; exact False.elim hw
    | succ n9 ih9 =>
      have j297 : ∀ kk : Nat, kk + (197 + 7 * n9) ≤ 624 → ∀ (S : St) (a2 : Int32) (a3 : Int32) (a4 : Int32) (t0 : Int32) (t1 : Bool), ∀ (H : Heap) (locs : List Loc) (ls : Array Slot), wp_L_areLightsSo_297 P (fun S a1 a2 a3 a4 => wp_L_areLightsSo_9 P n9 S a1 a2 a3 a4) S a2 a3 a4 t0 t1 → HP D cy b0 NALL S H → Fx S → va_S (AA b0) s.heap H locs → lv_has ls 12 [(0, .ref (b0 + 0)), (2, .int a2), (3, .int a3), (4, .int a4)] → W p l e rm_L_areLightsSo s m args below meth c H locs kk (0 + 6 * kk) (MQ below (QC (Pz P) (Wb D cy b0 NALL) b0) args s 624 3744 (AA b0)) (F0 m 297 ls [.int (b2i t1), .int t0]) := by
        intro kk hc9 S a2 a3 a4 t0 t1 H locs ls hw hP hF hS hl
        unfold wp_L_areLightsSo_297 at hw
        refine lv_iadd hx hb dL_areLightsSo_297 ?_
        refine lv_topi (fun y298 e298 => ?_)
        have hw := hw y298 e298
        refine lv_istore_n (lv' := [(1, .int y298), (0, .ref (b0 + 0)), (2, .int a2), (3, .int a3), (4, .int a4)]) hx hb dL_areLightsSo_298 rfl hl (by decide) rfl (fun ls hl => ?_)
        refine lv_iload_n hx hb dL_areLightsSo_299 rfl (lv_at hl 3 rfl) ?_
        refine lv_aload_n hx hb dL_areLightsSo_300 rfl (lv_at hl 1 rfl) ?_
        refine lv_iload hx hb dL_areLightsSo_301 (lv_at hl 4 rfl) ?_
        refine q_callX (vx_runV (As := [.int a4]) (rest := [.int a3]) ⟨hx, hb, hml, hown, hts⟩ (c_X5_units l hlt D cy b0 S a4 _ _ hw) (cwV 1 hts gL_areLightsSo_X5_units rfl rfl rfl (by decide +kernel) ⟨(Nat.le_of_ble_eq_true rfl), (Nat.le_of_ble_eq_true rfl)⟩) (q_pV hW hP hF hS (k := 0) (ci := 5) (by decide) (cell_5 kk_0) rfl [.int a4]) rfl rfl hl.1 rfl (lv_room (Nat.le_of_ble_eq_true rfl)) dL_areLightsSo_303 ⟨by show _ ≤ 624; omega, by show _ ≤ 3744; omega⟩) hS (fun E303 ce q9 S303 t303 H locs hh hw hB hz hS hc9 hv9 hcl9 => ?_) (fun v303 S303 t303 H locs hh hp hB hz hk9 hS => ?_)
        · exact False.elim hw
        · obtain ⟨r303, rfl, hw⟩ := hp
          have hP : HP D cy b0 NALL S303 H := by rw [← hh]; exact hB.1
          have hF := hB.2
          try dsimp only at hw
          refine W.eq (g2 := F0 m 306 ls [.int r303, .int a3]) rfl ?_
          refine lv_iadd hx hb dL_areLightsSo_306 ?_
          refine lv_topi (fun y307 e307 => ?_)
          have hw := hw y307 e307
          refine lv_istore_n (lv' := [(3, .int y307), (1, .int y298), (0, .ref (b0 + 0)), (2, .int a2), (4, .int a4)]) hx hb dL_areLightsSo_307 rfl hl (by decide) rfl (fun ls hl => ?_)
          obtain ⟨y308, e308⟩ : ∃ z : Int32, z = a4 + 1 := ⟨_, rfl⟩
          have hw := hw y308 e308
          refine lv_iinc (v := y308) (lv' := [(4, .int y308), (3, .int y307), (1, .int y298), (0, .ref (b0 + 0)), (2, .int a2)]) hx hb dL_areLightsSo_308 hl (k := 4) rfl (by rw [e308]; rfl) (by decide) rfl (fun ls hl => ?_)
          refine lv_goto (tgt := 9) hx hb dL_areLightsSo_311 (by decide) ?_
          refine W.widen (k := kk + 0) (n := 0 + 6 * (kk + 0)) (by omega) (by omega) ?_
          exact ih9 (kk + 0) (by omega) S303 y298 a2 y307 y308 _ _ _ hw hP hF hS (lv_sub hl [3, 2, 4, 1, 0] rfl)
      have j278 : ∀ kk : Nat, kk + (197 + 7 * n9) ≤ 624 → ∀ (S : St) (a1 : Int32) (a2 : Int32) (a3 : Int32) (a4 : Int32) (a5 : Int32) (a7 : Bool), ∀ (H : Heap) (locs : List Loc) (ls : Array Slot), wp_L_areLightsSo_278 P (fun S a1 a2 a3 a4 => wp_L_areLightsSo_9 P n9 S a1 a2 a3 a4) S a1 a2 a3 a4 a5 a7 → HP D cy b0 NALL S H → Fx S → va_S (AA b0) s.heap H locs → lv_has ls 12 [(0, .ref (b0 + 0)), (1, .int a1), (2, .int a2), (3, .int a3), (4, .int a4), (5, .int a5), (7, .int (b2i a7))] → W p l e rm_L_areLightsSo s m args below meth c H locs kk (0 + 6 * kk) (MQ below (QC (Pz P) (Wb D cy b0 NALL) b0) args s 624 3744 (AA b0)) (F0 m 278 ls []) := by
        intro kk hc9 S a1 a2 a3 a4 a5 a7 H locs ls hw hP hF hS hl
        unfold wp_L_areLightsSo_278 at hw
        refine lv_iload hx hb dL_areLightsSo_278 (lv_at hl 6 rfl) ?_
        refine lv_if_ne (x := b2i a7) (tgt := 285) hx hb dL_areLightsSo_280 (by decide) (fun c280 => ?_) (fun c280 => ?_)
        · have c280 := b2i_n c280
          rw [if_pos c280] at hw
          refine lv_iload_n hx hb dL_areLightsSo_285 rfl (lv_at hl 1 rfl) ?_
          refine lv_iload hx hb dL_areLightsSo_286 (lv_at hl 5 rfl) ?_
          refine lv_iconst (v := 2) hx hb dL_areLightsSo_288 (by decide) ?_
          refine lv_icmp_ge (x := a5) (y := 2) (tgt := 296) hx hb dL_areLightsSo_289 (by decide) (fun c289 => ?_) (fun c289 => ?_)
          · rw [if_pos c289] at hw
            refine lv_iconst (v := 0) hx hb dL_areLightsSo_296 (by decide) ?_
            refine W.widen (k := kk + 0) (n := 0 + 6 * (kk + 0)) (by omega) (by omega) ?_
            exact j297 (kk + 0) (by omega) S a2 a3 a4 a1 false _ _ _ hw hP hF hS (lv_sub hl [0, 2, 3, 4] rfl)
          · rw [if_neg c289] at hw
            refine lv_iconst (v := 1) hx hb dL_areLightsSo_292 (by decide) ?_
            refine lv_goto (tgt := 297) hx hb dL_areLightsSo_293 (by decide) ?_
            refine W.widen (k := kk + 0) (n := 0 + 6 * (kk + 0)) (by omega) (by omega) ?_
            exact j297 (kk + 0) (by omega) S a2 a3 a4 a1 true _ _ _ hw hP hF hS (lv_sub hl [0, 2, 3, 4] rfl)
        · have c280 := b2i_z c280
          rw [if_neg c280] at hw
          refine lv_iconst (v := 0) hx hb dL_areLightsSo_283 (by decide) ?_
          refine W.widen (k := 624) (n := 3744) (by omega) (by omega) ?_
          exact q_zret (v := false) hx hb hr hP hF hS hw dL_areLightsSo_284 hlocks
      have j122 : ∀ (n122 : Nat), ∀ kk : Nat, kk + (197 + 2 * n122 + 7 * n9) ≤ 624 → ∀ (S : St) (a1 : Int32) (a2 : Int32) (a3 : Int32) (a4 : Int32) (a5 : Int32) (a6 : Int32) (a7 : Bool) (a8 : Int32), ∀ (H : Heap) (locs : List Loc) (ls : Array Slot), wp_L_areLightsSo_122 P (fun S a1 a2 a3 a4 => wp_L_areLightsSo_9 P n9 S a1 a2 a3 a4) n122 S a1 a2 a3 a4 a5 a6 a7 a8 → HP D cy b0 NALL S H → Fx S → va_S (AA b0) s.heap H locs → lv_has ls 12 [(0, .ref (b0 + 0)), (1, .int a1), (2, .int a2), (3, .int a3), (4, .int a4), (5, .int a5), (6, .int a6), (7, .int (b2i a7)), (8, .int a8)] → W p l e rm_L_areLightsSo s m args below meth c H locs kk (0 + 6 * kk) (MQ below (QC (Pz P) (Wb D cy b0 NALL) b0) args s 624 3744 (AA b0)) (F0 m 122 ls []) := by
        intro n122
        induction n122 with
        | zero => intro kk hc9 S a1 a2 a3 a4 a5 a6 a7 a8 H locs ls hw _ _ _ _ ; exact False.elim hw
        | succ n122 ih122 =>
          have j270 : ∀ kk : Nat, kk + (197 + 7 * n9 + 2 * n122) ≤ 624 → ∀ (S : St) (a1 : Int32) (a2 : Int32) (a3 : Int32) (a4 : Int32) (a5 : Int32) (a6 : Int32) (a8 : Int32) (t0 : Bool), ∀ (H : Heap) (locs : List Loc) (ls : Array Slot), wp_L_areLightsSo_270 P (fun S a1 a2 a3 a4 => wp_L_areLightsSo_9 P n9 S a1 a2 a3 a4) (fun S a1 a2 a3 a4 a5 a6 a7 a8 => wp_L_areLightsSo_122 P (fun S a1 a2 a3 a4 => wp_L_areLightsSo_9 P n9 S a1 a2 a3 a4) n122 S a1 a2 a3 a4 a5 a6 a7 a8) S a1 a2 a3 a4 a5 a6 a8 t0 → HP D cy b0 NALL S H → Fx S → va_S (AA b0) s.heap H locs → lv_has ls 12 [(0, .ref (b0 + 0)), (1, .int a1), (2, .int a2), (3, .int a3), (4, .int a4), (5, .int a5), (6, .int a6), (8, .int a8)] → W p l e rm_L_areLightsSo s m args below meth c H locs kk (0 + 6 * kk) (MQ below (QC (Pz P) (Wb D cy b0 NALL) b0) args s 624 3744 (AA b0)) (F0 m 270 ls [.int (b2i t0)]) := by
            intro kk hc9 S a1 a2 a3 a4 a5 a6 a8 t0 H locs ls hw hP hF hS hl
            unfold wp_L_areLightsSo_270 at hw
            refine lv_istore (lv' := [(7, .int (b2i t0)), (0, .ref (b0 + 0)), (1, .int a1), (2, .int a2), (3, .int a3), (4, .int a4), (5, .int a5), (6, .int a6), (8, .int a8)]) hx hb dL_areLightsSo_270 hl (by decide) rfl (fun ls hl => ?_)
            obtain ⟨y272, e272⟩ : ∃ z : Int32, z = a8 + 1 := ⟨_, rfl⟩
            have hw := hw y272 e272
            refine lv_iinc (v := y272) (lv' := [(8, .int y272), (7, .int (b2i t0)), (0, .ref (b0 + 0)), (1, .int a1), (2, .int a2), (3, .int a3), (4, .int a4), (5, .int a5), (6, .int a6)]) hx hb dL_areLightsSo_272 hl (k := 8) rfl (by rw [e272]; rfl) (by decide) rfl (fun ls hl => ?_)
            refine lv_goto (tgt := 122) hx hb dL_areLightsSo_275 (by decide) ?_
            refine W.widen (k := kk + 0) (n := 0 + 6 * (kk + 0)) (by omega) (by omega) ?_
            exact ih122 (kk + 0) (by omega) S a1 a2 a3 a4 a5 a6 t0 y272 _ _ _ hw hP hF hS (lv_sub hl [2, 3, 4, 5, 6, 7, 8, 1, 0] rfl)
          have j265 : ∀ kk : Nat, kk + (197 + 7 * n9 + 2 * n122) ≤ 624 → ∀ (S : St) (a1 : Int32) (a2 : Int32) (a3 : Int32) (a4 : Int32) (a5 : Int32) (a6 : Int32) (a8 : Int32), ∀ (H : Heap) (locs : List Loc) (ls : Array Slot), wp_L_areLightsSo_265 P (fun S a1 a2 a3 a4 => wp_L_areLightsSo_9 P n9 S a1 a2 a3 a4) (fun S a1 a2 a3 a4 a5 a6 a7 a8 => wp_L_areLightsSo_122 P (fun S a1 a2 a3 a4 => wp_L_areLightsSo_9 P n9 S a1 a2 a3 a4) n122 S a1 a2 a3 a4 a5 a6 a7 a8) S a1 a2 a3 a4 a5 a6 a8 → HP D cy b0 NALL S H → Fx S → va_S (AA b0) s.heap H locs → lv_has ls 12 [(0, .ref (b0 + 0)), (1, .int a1), (2, .int a2), (3, .int a3), (4, .int a4), (5, .int a5), (6, .int a6), (8, .int a8)] → W p l e rm_L_areLightsSo s m args below meth c H locs kk (0 + 6 * kk) (MQ below (QC (Pz P) (Wb D cy b0 NALL) b0) args s 624 3744 (AA b0)) (F0 m 265 ls []) := by
            intro kk hc9 S a1 a2 a3 a4 a5 a6 a8 H locs ls hw hP hF hS hl
            unfold wp_L_areLightsSo_265 at hw
            refine lv_iconst (v := 1) hx hb dL_areLightsSo_265 (by decide) ?_
            refine lv_goto (tgt := 270) hx hb dL_areLightsSo_266 (by decide) ?_
            refine W.widen (k := kk + 0) (n := 0 + 6 * (kk + 0)) (by omega) (by omega) ?_
            exact j270 (kk + 0) (by omega) S a1 a2 a3 a4 a5 a6 a8 true _ _ _ hw hP hF hS (lv_sub hl [0, 1, 2, 3, 4, 5, 6, 7] rfl)
          have j269 : ∀ kk : Nat, kk + (197 + 7 * n9 + 2 * n122) ≤ 624 → ∀ (S : St) (a1 : Int32) (a2 : Int32) (a3 : Int32) (a4 : Int32) (a5 : Int32) (a6 : Int32) (a8 : Int32), ∀ (H : Heap) (locs : List Loc) (ls : Array Slot), wp_L_areLightsSo_269 P (fun S a1 a2 a3 a4 => wp_L_areLightsSo_9 P n9 S a1 a2 a3 a4) (fun S a1 a2 a3 a4 a5 a6 a7 a8 => wp_L_areLightsSo_122 P (fun S a1 a2 a3 a4 => wp_L_areLightsSo_9 P n9 S a1 a2 a3 a4) n122 S a1 a2 a3 a4 a5 a6 a7 a8) S a1 a2 a3 a4 a5 a6 a8 → HP D cy b0 NALL S H → Fx S → va_S (AA b0) s.heap H locs → lv_has ls 12 [(0, .ref (b0 + 0)), (1, .int a1), (2, .int a2), (3, .int a3), (4, .int a4), (5, .int a5), (6, .int a6), (8, .int a8)] → W p l e rm_L_areLightsSo s m args below meth c H locs kk (0 + 6 * kk) (MQ below (QC (Pz P) (Wb D cy b0 NALL) b0) args s 624 3744 (AA b0)) (F0 m 269 ls []) := by
            intro kk hc9 S a1 a2 a3 a4 a5 a6 a8 H locs ls hw hP hF hS hl
            unfold wp_L_areLightsSo_269 at hw
            refine lv_iconst (v := 0) hx hb dL_areLightsSo_269 (by decide) ?_
            refine W.widen (k := kk + 0) (n := 0 + 6 * (kk + 0)) (by omega) (by omega) ?_
            exact j270 (kk + 0) (by omega) S a1 a2 a3 a4 a5 a6 a8 false _ _ _ hw hP hF hS (lv_sub hl [0, 1, 2, 3, 4, 5, 6, 7] rfl)
          have j232 : ∀ kk : Nat, kk + (198 + 7 * n9 + 2 * n122) ≤ 624 → ∀ (S : St) (a1 : Int32) (a2 : Int32) (a3 : Int32) (a4 : Int32) (a5 : Int32) (a6 : Int32) (a7 : Bool) (a8 : Int32) (a9 : Int32), ∀ (H : Heap) (locs : List Loc) (ls : Array Slot), wp_L_areLightsSo_232 P (fun S a1 a2 a3 a4 => wp_L_areLightsSo_9 P n9 S a1 a2 a3 a4) (fun S a1 a2 a3 a4 a5 a6 a7 a8 => wp_L_areLightsSo_122 P (fun S a1 a2 a3 a4 => wp_L_areLightsSo_9 P n9 S a1 a2 a3 a4) n122 S a1 a2 a3 a4 a5 a6 a7 a8) S a1 a2 a3 a4 a5 a6 a7 a8 a9 → HP D cy b0 NALL S H → Fx S → va_S (AA b0) s.heap H locs → lv_has ls 12 [(0, .ref (b0 + 0)), (1, .int a1), (2, .int a2), (3, .int a3), (4, .int a4), (5, .int a5), (6, .int a6), (7, .int (b2i a7)), (8, .int a8), (9, .int a9)] → W p l e rm_L_areLightsSo s m args below meth c H locs kk (0 + 6 * kk) (MQ below (QC (Pz P) (Wb D cy b0 NALL) b0) args s 624 3744 (AA b0)) (F0 m 232 ls []) := by
            intro kk hc9 S a1 a2 a3 a4 a5 a6 a7 a8 a9 H locs ls hw hP hF hS hl
            unfold wp_L_areLightsSo_232 at hw
            refine lv_iload hx hb dL_areLightsSo_232 (lv_at hl 7 rfl) ?_
            refine lv_if_eq (x := b2i a7) (tgt := 269) hx hb dL_areLightsSo_234 (by decide) (fun c234 => ?_) (fun c234 => ?_)
            · have c234 := b2i_z c234
              rw [if_neg c234] at hw
              refine W.widen (k := kk + 0) (n := 0 + 6 * (kk + 0)) (by omega) (by omega) ?_
              exact j269 (kk + 0) (by omega) S a1 a2 a3 a4 a5 a6 a8 _ _ _ hw hP hF hS (lv_sub hl [0, 1, 2, 3, 4, 5, 6, 8] rfl)
            · have c234 := b2i_n c234
              rw [if_pos c234] at hw
              refine lv_iload hx hb dL_areLightsSo_237 (lv_at hl 9 rfl) ?_
              refine lv_ldc (v := (-99999)) hx hb hown (hts (.constant RL 16 (-99999)) (by decide +kernel)) dL_areLightsSo_239 ?_
              refine lv_icmp_eq (x := a9) (y := (-99999)) (tgt := 265) hx hb dL_areLightsSo_241 (by decide) (fun c241 => ?_) (fun c241 => ?_)
              · rw [if_pos c241] at hw
                refine W.widen (k := kk + 0) (n := 0 + 6 * (kk + 0)) (by omega) (by omega) ?_
                exact j265 (kk + 0) (by omega) S a1 a2 a3 a4 a5 a6 a8 _ _ _ hw hP hF hS (lv_sub hl [0, 1, 2, 3, 4, 5, 6, 8] rfl)
              · rw [if_neg c241] at hw
                refine lv_iload hx hb dL_areLightsSo_244 (lv_at hl 9 rfl) ?_
                refine lv_if_le (x := a9) (tgt := 269) hx hb dL_areLightsSo_246 (by decide) (fun c246 => ?_) (fun c246 => ?_)
                · rw [if_pos c246] at hw
                  refine W.widen (k := kk + 0) (n := 0 + 6 * (kk + 0)) (by omega) (by omega) ?_
                  exact j269 (kk + 0) (by omega) S a1 a2 a3 a4 a5 a6 a8 _ _ _ hw hP hF hS (lv_sub hl [0, 1, 2, 3, 4, 5, 6, 8] rfl)
                · rw [if_neg c246] at hw
                  refine lv_aload_n hx hb dL_areLightsSo_249 rfl (lv_at hl 0 rfl) ?_
                  refine lv_iconst (v := 1) hx hb dL_areLightsSo_250 (by decide) ?_
                  refine lv_iload hx hb dL_areLightsSo_251 (lv_at hl 4 rfl) ?_
                  refine lv_iload hx hb dL_areLightsSo_253 (lv_at hl 8 rfl) ?_
                  refine lv_iload hx hb dL_areLightsSo_255 (lv_at hl 9 rfl) ?_
                  refine q_call (vx_runSW (As := [.ref (b0 + 0), .int 1, .int a4, .int a8, .int a9]) (rest := []) ⟨hx, hb, hml, hown, hts⟩ (c_L_looks l hlt D cy b0 S 1 a4 a8 a9 _ hw) (vx_cwSW 5 hts gL_areLightsSo_L_looks rfl rfl rfl (by decide +kernel) ⟨(Nat.le_of_ble_eq_true rfl), (Nat.le_of_ble_eq_true rfl)⟩) (q_pS hW hP hF hS [.ref (b0 + 0), .int 1, .int a4, .int a8, .int a9]) rfl rfl hl.1 rfl (lv_room (Nat.le_of_ble_eq_true rfl)) dL_areLightsSo_257 ⟨by show _ ≤ 624; omega, by show _ ≤ 3744; omega⟩) hS (fun v257 S257 t257 H locs hh hp hB hz hk9 hS => ?_)
                  obtain ⟨r257, rfl, hw⟩ := hp
                  have hP : HP D cy b0 NALL S257 H := by rw [← hh]; exact hB.1
                  have hF := hB.2
                  try dsimp only at hw
                  refine W.eq (g2 := F0 m 260 ls [.int r257]) rfl ?_
                  refine lv_ldc (v := (-99999)) hx hb hown (hts (.constant RL 16 (-99999)) (by decide +kernel)) dL_areLightsSo_260 ?_
                  refine lv_icmp_ne (x := r257) (y := (-99999)) (tgt := 269) hx hb dL_areLightsSo_262 (by decide) (fun c262 => ?_) (fun c262 => ?_)
                  · rw [if_neg c262] at hw
                    refine W.widen (k := kk + 1) (n := 0 + 6 * (kk + 1)) (by omega) (by omega) ?_
                    exact j269 (kk + 1) (by omega) S257 a1 a2 a3 a4 a5 a6 a8 _ _ _ hw hP hF hS (lv_sub hl [0, 1, 2, 3, 4, 5, 6, 8] rfl)
                  · rw [if_pos c262] at hw
                    refine W.widen (k := kk + 1) (n := 0 + 6 * (kk + 1)) (by omega) (by omega) ?_
                    exact j265 (kk + 1) (by omega) S257 a1 a2 a3 a4 a5 a6 a8 _ _ _ hw hP hF hS (lv_sub hl [0, 1, 2, 3, 4, 5, 6, 8] rfl)
          have j148 : ∀ (n148 : Nat), ∀ kk : Nat, kk + (198 + 7 * n9 + 2 * n122) ≤ 624 → ∀ (S : St) (a1 : Int32) (a2 : Int32) (a3 : Int32) (a4 : Int32) (a5 : Int32) (a6 : Int32) (a7 : Bool) (a8 : Int32) (a9 : Int32) (a10 : Int32), ∀ (H : Heap) (locs : List Loc) (ls : Array Slot), wp_L_areLightsSo_148 P (fun S a1 a2 a3 a4 => wp_L_areLightsSo_9 P n9 S a1 a2 a3 a4) (fun S a1 a2 a3 a4 a5 a6 a7 a8 => wp_L_areLightsSo_122 P (fun S a1 a2 a3 a4 => wp_L_areLightsSo_9 P n9 S a1 a2 a3 a4) n122 S a1 a2 a3 a4 a5 a6 a7 a8) n148 S a1 a2 a3 a4 a5 a6 a7 a8 a9 a10 → HP D cy b0 NALL S H → Fx S → va_S (AA b0) s.heap H locs → lv_has ls 12 [(0, .ref (b0 + 0)), (1, .int a1), (2, .int a2), (3, .int a3), (4, .int a4), (5, .int a5), (6, .int a6), (7, .int (b2i a7)), (8, .int a8), (9, .int a9), (10, .int a10)] → W p l e rm_L_areLightsSo s m args below meth c H locs kk (0 + 6 * kk) (MQ below (QC (Pz P) (Wb D cy b0 NALL) b0) args s 624 3744 (AA b0)) (F0 m 148 ls []) := by
            intro n148
            induction n148 with
            | zero => intro kk hc9 S a1 a2 a3 a4 a5 a6 a7 a8 a9 a10 H locs ls hw _ _ _ _ ; exact False.elim hw
            | succ n148 ih148 =>
              have j209 : ∀ kk : Nat, kk + (198 + 7 * n9 + 2 * n122) ≤ 624 → ∀ (S : St) (a1 : Int32) (a2 : Int32) (a3 : Int32) (a4 : Int32) (a5 : Int32) (a6 : Int32) (a8 : Int32) (a9 : Int32) (a10 : Int32) (a11 : Int32) (t0 : Bool), ∀ (H : Heap) (locs : List Loc) (ls : Array Slot), wp_L_areLightsSo_209 P (fun S a1 a2 a3 a4 => wp_L_areLightsSo_9 P n9 S a1 a2 a3 a4) (fun S a1 a2 a3 a4 a5 a6 a7 a8 => wp_L_areLightsSo_122 P (fun S a1 a2 a3 a4 => wp_L_areLightsSo_9 P n9 S a1 a2 a3 a4) n122 S a1 a2 a3 a4 a5 a6 a7 a8) (fun S a1 a2 a3 a4 a5 a6 a7 a8 a9 a10 => wp_L_areLightsSo_148 P (fun S a1 a2 a3 a4 => wp_L_areLightsSo_9 P n9 S a1 a2 a3 a4) (fun S a1 a2 a3 a4 a5 a6 a7 a8 => wp_L_areLightsSo_122 P (fun S a1 a2 a3 a4 => wp_L_areLightsSo_9 P n9 S a1 a2 a3 a4) n122 S a1 a2 a3 a4 a5 a6 a7 a8) n148 S a1 a2 a3 a4 a5 a6 a7 a8 a9 a10) S a1 a2 a3 a4 a5 a6 a8 a9 a10 a11 t0 → HP D cy b0 NALL S H → Fx S → va_S (AA b0) s.heap H locs → lv_has ls 12 [(0, .ref (b0 + 0)), (1, .int a1), (2, .int a2), (3, .int a3), (4, .int a4), (5, .int a5), (6, .int a6), (8, .int a8), (9, .int a9), (10, .int a10), (11, .int a11)] → W p l e rm_L_areLightsSo s m args below meth c H locs kk (0 + 6 * kk) (MQ below (QC (Pz P) (Wb D cy b0 NALL) b0) args s 624 3744 (AA b0)) (F0 m 209 ls [.int (b2i t0)]) := by
                intro kk hc9 S a1 a2 a3 a4 a5 a6 a8 a9 a10 a11 t0 H locs ls hw hP hF hS hl
                unfold wp_L_areLightsSo_209 at hw
                refine lv_istore (lv' := [(7, .int (b2i t0)), (0, .ref (b0 + 0)), (1, .int a1), (2, .int a2), (3, .int a3), (4, .int a4), (5, .int a5), (6, .int a6), (8, .int a8), (9, .int a9), (10, .int a10), (11, .int a11)]) hx hb dL_areLightsSo_209 hl (by decide) rfl (fun ls hl => ?_)
                refine lv_iload hx hb dL_areLightsSo_211 (lv_at hl 7 rfl) ?_
                refine lv_iconst (v := 1) hx hb dL_areLightsSo_213 (by decide) ?_
                refine lv_iload hx hb dL_areLightsSo_214 (lv_at hl 11 rfl) ?_
                refine lv_bipush (v := 10) hx hb dL_areLightsSo_216 (by decide) ?_
                refine lv_idiv hx hb dL_areLightsSo_218 (by decide) ?_
                refine lv_ishl hx hb dL_areLightsSo_219 ?_
                refine lv_ior hx hb dL_areLightsSo_220 ?_
                refine lv_topi (fun y221 e221 => ?_)
                have hw := hw y221 e221
                refine lv_istore (lv' := [(6, .int y221), (7, .int (b2i t0)), (0, .ref (b0 + 0)), (1, .int a1), (2, .int a2), (3, .int a3), (4, .int a4), (5, .int a5), (8, .int a8), (9, .int a9), (10, .int a10), (11, .int a11)]) hx hb dL_areLightsSo_221 hl (by decide) rfl (fun ls hl => ?_)
                obtain ⟨y223, e223⟩ : ∃ z : Int32, z = a2 + 1 := ⟨_, rfl⟩
                have hw := hw y223 e223
                refine lv_iinc (v := y223) (lv' := [(2, .int y223), (6, .int y221), (7, .int (b2i t0)), (0, .ref (b0 + 0)), (1, .int a1), (3, .int a3), (4, .int a4), (5, .int a5), (8, .int a8), (9, .int a9), (10, .int a10), (11, .int a11)]) hx hb dL_areLightsSo_223 hl (k := 4) rfl (by rw [e223]; rfl) (by decide) rfl (fun ls hl => ?_)
                obtain ⟨y226, e226⟩ : ∃ z : Int32, z = a10 + 1 := ⟨_, rfl⟩
                have hw := hw y226 e226
                refine lv_iinc (v := y226) (lv' := [(10, .int y226), (2, .int y223), (6, .int y221), (7, .int (b2i t0)), (0, .ref (b0 + 0)), (1, .int a1), (3, .int a3), (4, .int a4), (5, .int a5), (8, .int a8), (9, .int a9), (11, .int a11)]) hx hb dL_areLightsSo_226 hl (k := 10) rfl (by rw [e226]; rfl) (by decide) rfl (fun ls hl => ?_)
                refine lv_goto (tgt := 148) hx hb dL_areLightsSo_229 (by decide) ?_
                refine W.widen (k := kk + 0) (n := 0 + 6 * (kk + 0)) (by omega) (by omega) ?_
                exact ih148 (kk + 0) (by omega) S a1 y223 a3 a4 a5 y221 t0 a8 a9 y226 _ _ _ hw hP hF hS (lv_sub hl [4, 5, 1, 6, 7, 8, 2, 3, 9, 10, 0] rfl)
              have j208 : ∀ kk : Nat, kk + (198 + 7 * n9 + 2 * n122) ≤ 624 → ∀ (S : St) (a1 : Int32) (a2 : Int32) (a3 : Int32) (a4 : Int32) (a5 : Int32) (a6 : Int32) (a8 : Int32) (a9 : Int32) (a10 : Int32) (a11 : Int32), ∀ (H : Heap) (locs : List Loc) (ls : Array Slot), wp_L_areLightsSo_208 P (fun S a1 a2 a3 a4 => wp_L_areLightsSo_9 P n9 S a1 a2 a3 a4) (fun S a1 a2 a3 a4 a5 a6 a7 a8 => wp_L_areLightsSo_122 P (fun S a1 a2 a3 a4 => wp_L_areLightsSo_9 P n9 S a1 a2 a3 a4) n122 S a1 a2 a3 a4 a5 a6 a7 a8) (fun S a1 a2 a3 a4 a5 a6 a7 a8 a9 a10 => wp_L_areLightsSo_148 P (fun S a1 a2 a3 a4 => wp_L_areLightsSo_9 P n9 S a1 a2 a3 a4) (fun S a1 a2 a3 a4 a5 a6 a7 a8 => wp_L_areLightsSo_122 P (fun S a1 a2 a3 a4 => wp_L_areLightsSo_9 P n9 S a1 a2 a3 a4) n122 S a1 a2 a3 a4 a5 a6 a7 a8) n148 S a1 a2 a3 a4 a5 a6 a7 a8 a9 a10) S a1 a2 a3 a4 a5 a6 a8 a9 a10 a11 → HP D cy b0 NALL S H → Fx S → va_S (AA b0) s.heap H locs → lv_has ls 12 [(0, .ref (b0 + 0)), (1, .int a1), (2, .int a2), (3, .int a3), (4, .int a4), (5, .int a5), (6, .int a6), (8, .int a8), (9, .int a9), (10, .int a10), (11, .int a11)] → W p l e rm_L_areLightsSo s m args below meth c H locs kk (0 + 6 * kk) (MQ below (QC (Pz P) (Wb D cy b0 NALL) b0) args s 624 3744 (AA b0)) (F0 m 208 ls []) := by
                intro kk hc9 S a1 a2 a3 a4 a5 a6 a8 a9 a10 a11 H locs ls hw hP hF hS hl
                unfold wp_L_areLightsSo_208 at hw
                refine lv_iconst (v := 0) hx hb dL_areLightsSo_208 (by decide) ?_
                refine W.widen (k := kk + 0) (n := 0 + 6 * (kk + 0)) (by omega) (by omega) ?_
                exact j209 (kk + 0) (by omega) S a1 a2 a3 a4 a5 a6 a8 a9 a10 a11 false _ _ _ hw hP hF hS (lv_sub hl [0, 1, 2, 3, 4, 5, 6, 7, 8, 9, 10] rfl)
              intro kk hc9 S a1 a2 a3 a4 a5 a6 a7 a8 a9 a10 H locs ls hw hP hF hS hl
              rw [wp_L_areLightsSo_148] at hw
              refine lv_iload hx hb dL_areLightsSo_148 (lv_at hl 10 rfl) ?_
              refine lv_iload hx hb dL_areLightsSo_150 (lv_at hl 9 rfl) ?_
              refine lv_icmp_ge (x := a10) (y := a9) (tgt := 232) hx hb dL_areLightsSo_152 (by decide) (fun c152 => ?_) (fun c152 => ?_)
              · rw [if_pos c152] at hw
                refine W.widen (k := kk + 0) (n := 0 + 6 * (kk + 0)) (by omega) (by omega) ?_
                exact j232 (kk + 0) (by omega) S a1 a2 a3 a4 a5 a6 a7 a8 a9 _ _ _ hw hP hF hS (lv_sub hl [0, 1, 2, 3, 4, 5, 6, 7, 8, 9] rfl)
              · rw [if_neg c152] at hw
                refine lv_iload hx hb dL_areLightsSo_155 (lv_at hl 7 rfl) ?_
                refine lv_if_eq (x := b2i a7) (tgt := 232) hx hb dL_areLightsSo_157 (by decide) (fun c157 => ?_) (fun c157 => ?_)
                · have c157 := b2i_z c157
                  rw [if_neg c157] at hw
                  refine W.widen (k := kk + 0) (n := 0 + 6 * (kk + 0)) (by omega) (by omega) ?_
                  exact j232 (kk + 0) (by omega) S a1 a2 a3 a4 a5 a6 a7 a8 a9 _ _ _ hw hP hF hS (lv_sub hl [0, 1, 2, 3, 4, 5, 6, 7, 8, 9] rfl)
                · have c157 := b2i_n c157
                  rw [if_pos c157] at hw
                  refine lv_aload_n hx hb dL_areLightsSo_160 rfl (lv_at hl 0 rfl) ?_
                  refine lv_iload hx hb dL_areLightsSo_161 (lv_at hl 4 rfl) ?_
                  refine lv_iload hx hb dL_areLightsSo_163 (lv_at hl 8 rfl) ?_
                  refine lv_iload hx hb dL_areLightsSo_165 (lv_at hl 10 rfl) ?_
                  refine q_callX (vx_runV (As := [.int a4, .int a8, .int a10]) (rest := []) ⟨hx, hb, hml, hown, hts⟩ (c_X5_channel l hlt D cy b0 S a4 a8 a10 _ _ hw) (cwV 3 hts gL_areLightsSo_X5_channel rfl rfl rfl (by decide +kernel) ⟨(Nat.le_of_ble_eq_true rfl), (Nat.le_of_ble_eq_true rfl)⟩) (q_pV hW hP hF hS (k := 0) (ci := 5) (by decide) (cell_5 kk_0) rfl [.int a4, .int a8, .int a10]) rfl rfl hl.1 rfl (lv_room (Nat.le_of_ble_eq_true rfl)) dL_areLightsSo_167 ⟨by show _ ≤ 624; omega, by show _ ≤ 3744; omega⟩) hS (fun E167 ce q9 S167 t167 H locs hh hw hB hz hS hc9 hv9 hcl9 => ?_) (fun v167 S167 t167 H locs hh hp hB hz hk9 hS => ?_)
                  · exact False.elim hw
                  · obtain ⟨r167, rfl, hw⟩ := hp
                    have hP : HP D cy b0 NALL S167 H := by rw [← hh]; exact hB.1
                    have hF := hB.2
                    try dsimp only at hw
                    refine W.eq (g2 := F0 m 170 ls [.int r167]) rfl ?_
                    refine lv_istore (lv' := [(11, .int r167), (0, .ref (b0 + 0)), (1, .int a1), (2, .int a2), (3, .int a3), (4, .int a4), (5, .int a5), (6, .int a6), (7, .int (b2i a7)), (8, .int a8), (9, .int a9), (10, .int a10)]) hx hb dL_areLightsSo_170 hl (by decide) rfl (fun ls hl => ?_)
                    refine lv_aload_n hx hb dL_areLightsSo_172 rfl (lv_at hl 1 rfl) ?_
                    refine lv_iload hx hb dL_areLightsSo_173 (lv_at hl 0 rfl) ?_
                    refine lv_bipush (v := 10) hx hb dL_areLightsSo_175 (by decide) ?_
                    refine lv_idiv hx hb dL_areLightsSo_177 (by decide) ?_
                    refine lv_iload hx hb dL_areLightsSo_178 (lv_at hl 0 rfl) ?_
                    refine lv_bipush (v := 10) hx hb dL_areLightsSo_180 (by decide) ?_
                    refine lv_irem hx hb dL_areLightsSo_182 (by decide) ?_
                    refine q_callX (vx_runV (As := [.int (r167 / 10), .int (r167 - r167 / 10 * 10)]) (rest := []) ⟨hx, hb, hml, hown, hts⟩ (c_X5_lightOn l hlt D cy b0 S167 (r167 / 10) (r167 - r167 / 10 * 10) _ _ hw) (cwV 2 hts gL_areLightsSo_X5_lightOn rfl rfl rfl (by decide +kernel) ⟨(Nat.le_of_ble_eq_true rfl), (Nat.le_of_ble_eq_true rfl)⟩) (q_pV hW hP hF hS (k := 0) (ci := 5) (by decide) (cell_5 kk_0) rfl [.int (r167 / 10), .int (r167 - r167 / 10 * 10)]) rfl rfl hl.1 rfl (lv_room (Nat.le_of_ble_eq_true rfl)) dL_areLightsSo_183 ⟨by show _ ≤ 624; omega, by show _ ≤ 3744; omega⟩) hS (fun E183 ce q9 S183 t183 H locs hh hw hB hz hS hc9 hv9 hcl9 => ?_) (fun v183 S183 t183 H locs hh hp hB hz hk9 hS => ?_)
                    · exact False.elim hw
                    · obtain ⟨r183, rfl, hw⟩ := hp
                      have hP : HP D cy b0 NALL S183 H := by rw [← hh]; exact hB.1
                      have hF := hB.2
                      try dsimp only at hw
                      refine W.eq (g2 := F0 m 186 ls [.int r183]) rfl ?_
                      refine lv_iload hx hb dL_areLightsSo_186 (lv_at hl 5 rfl) ?_
                      refine lv_icmp_ne (x := r183) (y := a4) (tgt := 208) hx hb dL_areLightsSo_188 (by decide) (fun c188 => ?_) (fun c188 => ?_)
                      · rw [if_neg c188] at hw
                        refine W.widen (k := kk + 0) (n := 0 + 6 * (kk + 0)) (by omega) (by omega) ?_
                        exact j208 (kk + 0) (by omega) S183 a1 a2 a3 a4 a5 a6 a8 a9 a10 r167 _ _ _ hw hP hF hS (lv_sub hl [1, 2, 3, 4, 5, 6, 7, 9, 10, 11, 0] rfl)
                      · rw [if_pos c188] at hw
                        refine lv_iload hx hb dL_areLightsSo_191 (lv_at hl 7 rfl) ?_
                        refine lv_iload hx hb dL_areLightsSo_193 (lv_at hl 0 rfl) ?_
                        refine lv_bipush (v := 10) hx hb dL_areLightsSo_195 (by decide) ?_
                        refine lv_idiv hx hb dL_areLightsSo_197 (by decide) ?_
                        refine lv_ishr hx hb dL_areLightsSo_198 ?_
                        refine lv_iconst (v := 1) hx hb dL_areLightsSo_199 (by decide) ?_
                        refine lv_iand hx hb dL_areLightsSo_200 ?_
                        refine lv_if_ne (x := ((a6 >>> ((r167 / 10) &&& 31)) &&& 1)) (tgt := 208) hx hb dL_areLightsSo_201 (by decide) (fun c201 => ?_) (fun c201 => ?_)
                        · rw [if_neg c201] at hw
                          refine W.widen (k := kk + 0) (n := 0 + 6 * (kk + 0)) (by omega) (by omega) ?_
                          exact j208 (kk + 0) (by omega) S183 a1 a2 a3 a4 a5 a6 a8 a9 a10 r167 _ _ _ hw hP hF hS (lv_sub hl [1, 2, 3, 4, 5, 6, 7, 9, 10, 11, 0] rfl)
                        · rw [if_pos c201] at hw
                          refine lv_iconst (v := 1) hx hb dL_areLightsSo_204 (by decide) ?_
                          refine lv_goto (tgt := 209) hx hb dL_areLightsSo_205 (by decide) ?_
                          refine W.widen (k := kk + 0) (n := 0 + 6 * (kk + 0)) (by omega) (by omega) ?_
                          exact j209 (kk + 0) (by omega) S183 a1 a2 a3 a4 a5 a6 a8 a9 a10 r167 true _ _ _ hw hP hF hS (lv_sub hl [1, 2, 3, 4, 5, 6, 7, 9, 10, 11, 0] rfl)
          intro kk hc9 S a1 a2 a3 a4 a5 a6 a7 a8 H locs ls hw hP hF hS hl
          rw [wp_L_areLightsSo_122] at hw
          refine lv_iload hx hb dL_areLightsSo_122 (lv_at hl 8 rfl) ?_
          refine lv_iconst (v := 2) hx hb dL_areLightsSo_124 (by decide) ?_
          refine lv_icmp_ge (x := a8) (y := 2) (tgt := 278) hx hb dL_areLightsSo_125 (by decide) (fun c125 => ?_) (fun c125 => ?_)
          · rw [if_pos c125] at hw
            refine W.widen (k := kk + 0) (n := 0 + 6 * (kk + 0)) (by omega) (by omega) ?_
            exact j278 (kk + 0) (by omega) S a1 a2 a3 a4 a5 a7 _ _ _ hw hP hF hS (lv_sub hl [0, 1, 2, 3, 4, 5, 7] rfl)
          · rw [if_neg c125] at hw
            refine lv_iload hx hb dL_areLightsSo_128 (lv_at hl 7 rfl) ?_
            refine lv_if_eq (x := b2i a7) (tgt := 278) hx hb dL_areLightsSo_130 (by decide) (fun c130 => ?_) (fun c130 => ?_)
            · have c130 := b2i_z c130
              rw [if_neg c130] at hw
              refine W.widen (k := kk + 0) (n := 0 + 6 * (kk + 0)) (by omega) (by omega) ?_
              exact j278 (kk + 0) (by omega) S a1 a2 a3 a4 a5 a7 _ _ _ hw hP hF hS (lv_sub hl [0, 1, 2, 3, 4, 5, 7] rfl)
            · have c130 := b2i_n c130
              rw [if_pos c130] at hw
              refine lv_aload_n hx hb dL_areLightsSo_133 rfl (lv_at hl 0 rfl) ?_
              refine lv_iconst (v := 0) hx hb dL_areLightsSo_134 (by decide) ?_
              refine lv_iload hx hb dL_areLightsSo_135 (lv_at hl 4 rfl) ?_
              refine lv_iload hx hb dL_areLightsSo_137 (lv_at hl 8 rfl) ?_
              refine lv_iconst (v := 0) hx hb dL_areLightsSo_139 (by decide) ?_
              refine q_call (vx_runSW (As := [.ref (b0 + 0), .int 0, .int a4, .int a8, .int 0]) (rest := []) ⟨hx, hb, hml, hown, hts⟩ (c_L_looks l hlt D cy b0 S 0 a4 a8 0 _ hw) (vx_cwSW 5 hts gL_areLightsSo_L_looks rfl rfl rfl (by decide +kernel) ⟨(Nat.le_of_ble_eq_true rfl), (Nat.le_of_ble_eq_true rfl)⟩) (q_pS hW hP hF hS [.ref (b0 + 0), .int 0, .int a4, .int a8, .int 0]) rfl rfl hl.1 rfl (lv_room (Nat.le_of_ble_eq_true rfl)) dL_areLightsSo_140 ⟨by show _ ≤ 624; omega, by show _ ≤ 3744; omega⟩) hS (fun v140 S140 t140 H locs hh hp hB hz hk9 hS => ?_)
              obtain ⟨r140, rfl, hw⟩ := hp
              have hP : HP D cy b0 NALL S140 H := by rw [← hh]; exact hB.1
              have hF := hB.2
              try dsimp only at hw
              refine W.eq (g2 := F0 m 143 ls [.int r140]) rfl ?_
              refine lv_istore (lv' := [(9, .int r140), (0, .ref (b0 + 0)), (1, .int a1), (2, .int a2), (3, .int a3), (4, .int a4), (5, .int a5), (6, .int a6), (7, .int (b2i a7)), (8, .int a8)]) hx hb dL_areLightsSo_143 hl (by decide) rfl (fun ls hl => ?_)
              refine lv_iconst (v := 0) hx hb dL_areLightsSo_145 (by decide) ?_
              refine lv_istore (lv' := [(10, .int 0), (9, .int r140), (0, .ref (b0 + 0)), (1, .int a1), (2, .int a2), (3, .int a3), (4, .int a4), (5, .int a5), (6, .int a6), (7, .int (b2i a7)), (8, .int a8)]) hx hb dL_areLightsSo_146 hl (by decide) rfl (fun ls hl => ?_)
              obtain ⟨n148, hn148, hw⟩ := hw
              refine W.widen (k := kk + 1) (n := 0 + 6 * (kk + 1)) (by omega) (by omega) ?_
              exact j148 n148 (kk + 1) (by omega) S140 a1 a2 a3 a4 a5 a6 a7 a8 r140 0 _ _ _ hw hP hF hS (lv_sub hl [2, 3, 4, 5, 6, 7, 8, 9, 10, 1, 0] rfl)
      have j117 : ∀ kk : Nat, kk + (203 + 7 * n9) ≤ 624 → ∀ (S : St) (a1 : Int32) (a2 : Int32) (a3 : Int32) (a4 : Int32) (a5 : Int32) (t0 : Bool), ∀ (H : Heap) (locs : List Loc) (ls : Array Slot), wp_L_areLightsSo_117 P (fun S a1 a2 a3 a4 => wp_L_areLightsSo_9 P n9 S a1 a2 a3 a4) S a1 a2 a3 a4 a5 t0 → HP D cy b0 NALL S H → Fx S → va_S (AA b0) s.heap H locs → lv_has ls 12 [(0, .ref (b0 + 0)), (1, .int a1), (2, .int a2), (3, .int a3), (4, .int a4), (5, .int a5), (6, .int 0)] → W p l e rm_L_areLightsSo s m args below meth c H locs kk (0 + 6 * kk) (MQ below (QC (Pz P) (Wb D cy b0 NALL) b0) args s 624 3744 (AA b0)) (F0 m 117 ls [.int (b2i t0)]) := by
        intro kk hc9 S a1 a2 a3 a4 a5 t0 H locs ls hw hP hF hS hl
        unfold wp_L_areLightsSo_117 at hw
        refine lv_istore (lv' := [(7, .int (b2i t0)), (0, .ref (b0 + 0)), (1, .int a1), (2, .int a2), (3, .int a3), (4, .int a4), (5, .int a5), (6, .int 0)]) hx hb dL_areLightsSo_117 hl (by decide) rfl (fun ls hl => ?_)
        refine lv_iconst (v := 0) hx hb dL_areLightsSo_119 (by decide) ?_
        refine lv_istore (lv' := [(8, .int 0), (7, .int (b2i t0)), (0, .ref (b0 + 0)), (1, .int a1), (2, .int a2), (3, .int a3), (4, .int a4), (5, .int a5), (6, .int 0)]) hx hb dL_areLightsSo_120 hl (by decide) rfl (fun ls hl => ?_)
        obtain ⟨n122, hn122, hw⟩ := hw
        refine W.widen (k := kk + 0) (n := 0 + 6 * (kk + 0)) (by omega) (by omega) ?_
        exact j122 n122 (kk + 0) (by omega) S a1 a2 a3 a4 a5 0 t0 0 _ _ _ hw hP hF hS (lv_sub hl [2, 3, 4, 5, 6, 7, 8, 1, 0] rfl)
      have j116 : ∀ kk : Nat, kk + (203 + 7 * n9) ≤ 624 → ∀ (S : St) (a1 : Int32) (a2 : Int32) (a3 : Int32) (a4 : Int32) (a5 : Int32), ∀ (H : Heap) (locs : List Loc) (ls : Array Slot), wp_L_areLightsSo_116 P (fun S a1 a2 a3 a4 => wp_L_areLightsSo_9 P n9 S a1 a2 a3 a4) S a1 a2 a3 a4 a5 → HP D cy b0 NALL S H → Fx S → va_S (AA b0) s.heap H locs → lv_has ls 12 [(0, .ref (b0 + 0)), (1, .int a1), (2, .int a2), (3, .int a3), (4, .int a4), (5, .int a5), (6, .int 0)] → W p l e rm_L_areLightsSo s m args below meth c H locs kk (0 + 6 * kk) (MQ below (QC (Pz P) (Wb D cy b0 NALL) b0) args s 624 3744 (AA b0)) (F0 m 116 ls []) := by
        intro kk hc9 S a1 a2 a3 a4 a5 H locs ls hw hP hF hS hl
        unfold wp_L_areLightsSo_116 at hw
        refine lv_iconst (v := 0) hx hb dL_areLightsSo_116 (by decide) ?_
        refine W.widen (k := kk + 0) (n := 0 + 6 * (kk + 0)) (by omega) (by omega) ?_
        exact j117 (kk + 0) (by omega) S a1 a2 a3 a4 a5 false _ _ _ hw hP hF hS (lv_sub hl [0, 1, 2, 3, 4, 5, 6] rfl)
      have j109 : ∀ kk : Nat, kk + (203 + 7 * n9) ≤ 624 → ∀ (S : St) (a1 : Int32) (a2 : Int32) (a3 : Int32) (a4 : Int32) (a5 : Int32) (t0 : Bool) (t1 : Bool), ∀ (H : Heap) (locs : List Loc) (ls : Array Slot), wp_L_areLightsSo_109 P (fun S a1 a2 a3 a4 => wp_L_areLightsSo_9 P n9 S a1 a2 a3 a4) S a1 a2 a3 a4 a5 t0 t1 → HP D cy b0 NALL S H → Fx S → va_S (AA b0) s.heap H locs → lv_has ls 12 [(0, .ref (b0 + 0)), (1, .int a1), (2, .int a2), (3, .int a3), (4, .int a4), (5, .int a5), (6, .int 0)] → W p l e rm_L_areLightsSo s m args below meth c H locs kk (0 + 6 * kk) (MQ below (QC (Pz P) (Wb D cy b0 NALL) b0) args s 624 3744 (AA b0)) (F0 m 109 ls [.int (b2i t1), .int (b2i t0)]) := by
        intro kk hc9 S a1 a2 a3 a4 a5 t0 t1 H locs ls hw hP hF hS hl
        unfold wp_L_areLightsSo_109 at hw
        refine lv_icmp_ne (x := (b2i t0)) (y := (b2i t1)) (tgt := 116) hx hb dL_areLightsSo_109 (by decide) (fun c109 => ?_) (fun c109 => ?_)
        · rw [if_neg c109] at hw
          refine W.widen (k := kk + 0) (n := 0 + 6 * (kk + 0)) (by omega) (by omega) ?_
          exact j116 (kk + 0) (by omega) S a1 a2 a3 a4 a5 _ _ _ hw hP hF hS (lv_sub hl [0, 1, 2, 3, 4, 5, 6] rfl)
        · rw [if_pos c109] at hw
          refine lv_iconst (v := 1) hx hb dL_areLightsSo_112 (by decide) ?_
          refine lv_goto (tgt := 117) hx hb dL_areLightsSo_113 (by decide) ?_
          refine W.widen (k := kk + 0) (n := 0 + 6 * (kk + 0)) (by omega) (by omega) ?_
          exact j117 (kk + 0) (by omega) S a1 a2 a3 a4 a5 true _ _ _ hw hP hF hS (lv_sub hl [0, 1, 2, 3, 4, 5, 6] rfl)
      have j90 : ∀ kk : Nat, kk + (204 + 7 * n9) ≤ 624 → ∀ (S : St) (a1 : Int32) (a2 : Int32) (a3 : Int32) (a4 : Int32) (a5 : Int32) (t0 : Bool), ∀ (H : Heap) (locs : List Loc) (ls : Array Slot), wp_L_areLightsSo_90 P (fun S a1 a2 a3 a4 => wp_L_areLightsSo_9 P n9 S a1 a2 a3 a4) S a1 a2 a3 a4 a5 t0 → HP D cy b0 NALL S H → Fx S → va_S (AA b0) s.heap H locs → lv_has ls 12 [(0, .ref (b0 + 0)), (1, .int a1), (2, .int a2), (3, .int a3), (4, .int a4), (5, .int a5), (6, .int 0)] → W p l e rm_L_areLightsSo s m args below meth c H locs kk (0 + 6 * kk) (MQ below (QC (Pz P) (Wb D cy b0 NALL) b0) args s 624 3744 (AA b0)) (F0 m 90 ls [.int (b2i t0)]) := by
        intro kk hc9 S a1 a2 a3 a4 a5 t0 H locs ls hw hP hF hS hl
        unfold wp_L_areLightsSo_90 at hw
        refine lv_aload_n hx hb dL_areLightsSo_90 rfl (lv_at hl 0 rfl) ?_
        refine lv_iconst (v := 0) hx hb dL_areLightsSo_91 (by decide) ?_
        refine lv_iload hx hb dL_areLightsSo_92 (lv_at hl 4 rfl) ?_
        refine lv_iconst (v := 0) hx hb dL_areLightsSo_94 (by decide) ?_
        refine lv_iconst (v := 0) hx hb dL_areLightsSo_95 (by decide) ?_
        refine q_call (vx_runSW (As := [.ref (b0 + 0), .int 0, .int a4, .int 0, .int 0]) (rest := [.int (b2i t0)]) ⟨hx, hb, hml, hown, hts⟩ (c_L_looks l hlt D cy b0 S 0 a4 0 0 _ hw) (vx_cwSW 5 hts gL_areLightsSo_L_looks rfl rfl rfl (by decide +kernel) ⟨(Nat.le_of_ble_eq_true rfl), (Nat.le_of_ble_eq_true rfl)⟩) (q_pS hW hP hF hS [.ref (b0 + 0), .int 0, .int a4, .int 0, .int 0]) rfl rfl hl.1 rfl (lv_room (Nat.le_of_ble_eq_true rfl)) dL_areLightsSo_96 ⟨by show _ ≤ 624; omega, by show _ ≤ 3744; omega⟩) hS (fun v96 S96 t96 H locs hh hp hB hz hk9 hS => ?_)
        obtain ⟨r96, rfl, hw⟩ := hp
        have hP : HP D cy b0 NALL S96 H := by rw [← hh]; exact hB.1
        have hF := hB.2
        try dsimp only at hw
        refine W.eq (g2 := F0 m 99 ls [.int r96, .int (b2i t0)]) rfl ?_
        refine lv_ldc (v := (-99999)) hx hb hown (hts (.constant RL 16 (-99999)) (by decide +kernel)) dL_areLightsSo_99 ?_
        refine lv_icmp_ne (x := r96) (y := (-99999)) (tgt := 108) hx hb dL_areLightsSo_101 (by decide) (fun c101 => ?_) (fun c101 => ?_)
        · rw [if_neg c101] at hw
          refine lv_iconst (v := 0) hx hb dL_areLightsSo_108 (by decide) ?_
          refine W.widen (k := kk + 1) (n := 0 + 6 * (kk + 1)) (by omega) (by omega) ?_
          exact j109 (kk + 1) (by omega) S96 a1 a2 a3 a4 a5 t0 false _ _ _ hw hP hF hS (lv_sub hl [0, 1, 2, 3, 4, 5, 6] rfl)
        · rw [if_pos c101] at hw
          refine lv_iconst (v := 1) hx hb dL_areLightsSo_104 (by decide) ?_
          refine lv_goto (tgt := 109) hx hb dL_areLightsSo_105 (by decide) ?_
          refine W.widen (k := kk + 1) (n := 0 + 6 * (kk + 1)) (by omega) (by omega) ?_
          exact j109 (kk + 1) (by omega) S96 a1 a2 a3 a4 a5 t0 true _ _ _ hw hP hF hS (lv_sub hl [0, 1, 2, 3, 4, 5, 6] rfl)
      have j65 : ∀ kk : Nat, kk + (204 + 7 * n9) ≤ 624 → ∀ (S : St) (a1 : Int32) (a2 : Int32) (a3 : Int32) (a4 : Int32) (a5 : Int32) (t0 : Bool) (t1 : Bool), ∀ (H : Heap) (locs : List Loc) (ls : Array Slot), wp_L_areLightsSo_65 P (fun S a1 a2 a3 a4 => wp_L_areLightsSo_9 P n9 S a1 a2 a3 a4) S a1 a2 a3 a4 a5 t0 t1 → HP D cy b0 NALL S H → Fx S → va_S (AA b0) s.heap H locs → lv_has ls 12 [(0, .ref (b0 + 0)), (1, .int a1), (2, .int a2), (3, .int a3), (4, .int a4), (5, .int a5), (6, .int 0)] → W p l e rm_L_areLightsSo s m args below meth c H locs kk (0 + 6 * kk) (MQ below (QC (Pz P) (Wb D cy b0 NALL) b0) args s 624 3744 (AA b0)) (F0 m 65 ls [.int (b2i t1), .int (b2i t0)]) := by
        intro kk hc9 S a1 a2 a3 a4 a5 t0 t1 H locs ls hw hP hF hS hl
        unfold wp_L_areLightsSo_65 at hw
        refine lv_icmp_ne (x := (b2i t0)) (y := (b2i t1)) (tgt := 116) hx hb dL_areLightsSo_65 (by decide) (fun c65 => ?_) (fun c65 => ?_)
        · rw [if_neg c65] at hw
          refine W.widen (k := kk + 0) (n := 0 + 6 * (kk + 0)) (by omega) (by omega) ?_
          exact j116 (kk + 0) (by omega) S a1 a2 a3 a4 a5 _ _ _ hw hP hF hS (lv_sub hl [0, 1, 2, 3, 4, 5, 6] rfl)
        · rw [if_pos c65] at hw
          refine lv_aload_n hx hb dL_areLightsSo_68 rfl (lv_at hl 0 rfl) ?_
          refine lv_iload hx hb dL_areLightsSo_69 (lv_at hl 4 rfl) ?_
          refine q_callX (vx_runV (As := [.int a4]) (rest := []) ⟨hx, hb, hml, hown, hts⟩ (c_X5_units l hlt D cy b0 S a4 _ _ hw) (cwV 1 hts gL_areLightsSo_X5_units rfl rfl rfl (by decide +kernel) ⟨(Nat.le_of_ble_eq_true rfl), (Nat.le_of_ble_eq_true rfl)⟩) (q_pV hW hP hF hS (k := 0) (ci := 5) (by decide) (cell_5 kk_0) rfl [.int a4]) rfl rfl hl.1 rfl (lv_room (Nat.le_of_ble_eq_true rfl)) dL_areLightsSo_71 ⟨by show _ ≤ 624; omega, by show _ ≤ 3744; omega⟩) hS (fun E71 ce q9 S71 t71 H locs hh hw hB hz hS hc9 hv9 hcl9 => ?_) (fun v71 S71 t71 H locs hh hp hB hz hk9 hS => ?_)
          · exact False.elim hw
          · obtain ⟨r71, rfl, hw⟩ := hp
            have hP : HP D cy b0 NALL S71 H := by rw [← hh]; exact hB.1
            have hF := hB.2
            try dsimp only at hw
            refine W.eq (g2 := F0 m 74 ls [.int r71]) rfl ?_
            refine lv_bipush (v := 10) hx hb dL_areLightsSo_74 (by decide) ?_
            refine lv_icmp_gt (x := r71) (y := 10) (tgt := 116) hx hb dL_areLightsSo_76 (by decide) (fun c76 => ?_) (fun c76 => ?_)
            · rw [if_pos c76] at hw
              refine W.widen (k := kk + 0) (n := 0 + 6 * (kk + 0)) (by omega) (by omega) ?_
              exact j116 (kk + 0) (by omega) S71 a1 a2 a3 a4 a5 _ _ _ hw hP hF hS (lv_sub hl [0, 1, 2, 3, 4, 5, 6] rfl)
            · rw [if_neg c76] at hw
              refine lv_iload hx hb dL_areLightsSo_79 (lv_at hl 5 rfl) ?_
              refine lv_iconst (v := 2) hx hb dL_areLightsSo_81 (by decide) ?_
              refine lv_icmp_ne (x := a5) (y := 2) (tgt := 89) hx hb dL_areLightsSo_82 (by decide) (fun c82 => ?_) (fun c82 => ?_)
              · rw [if_neg c82] at hw
                refine lv_iconst (v := 0) hx hb dL_areLightsSo_89 (by decide) ?_
                refine W.widen (k := kk + 0) (n := 0 + 6 * (kk + 0)) (by omega) (by omega) ?_
                exact j90 (kk + 0) (by omega) S71 a1 a2 a3 a4 a5 false _ _ _ hw hP hF hS (lv_sub hl [0, 1, 2, 3, 4, 5, 6] rfl)
              · rw [if_pos c82] at hw
                refine lv_iconst (v := 1) hx hb dL_areLightsSo_85 (by decide) ?_
                refine lv_goto (tgt := 90) hx hb dL_areLightsSo_86 (by decide) ?_
                refine W.widen (k := kk + 0) (n := 0 + 6 * (kk + 0)) (by omega) (by omega) ?_
                exact j90 (kk + 0) (by omega) S71 a1 a2 a3 a4 a5 true _ _ _ hw hP hF hS (lv_sub hl [0, 1, 2, 3, 4, 5, 6] rfl)
      have j51 : ∀ kk : Nat, kk + (204 + 7 * n9) ≤ 624 → ∀ (S : St) (a1 : Int32) (a2 : Int32) (a3 : Int32) (a4 : Int32) (a5 : Int32) (t0 : Bool), ∀ (H : Heap) (locs : List Loc) (ls : Array Slot), wp_L_areLightsSo_51 P (fun S a1 a2 a3 a4 => wp_L_areLightsSo_9 P n9 S a1 a2 a3 a4) S a1 a2 a3 a4 a5 t0 → HP D cy b0 NALL S H → Fx S → va_S (AA b0) s.heap H locs → lv_has ls 12 [(0, .ref (b0 + 0)), (1, .int a1), (2, .int a2), (3, .int a3), (4, .int a4), (5, .int a5), (6, .int 0)] → W p l e rm_L_areLightsSo s m args below meth c H locs kk (0 + 6 * kk) (MQ below (QC (Pz P) (Wb D cy b0 NALL) b0) args s 624 3744 (AA b0)) (F0 m 51 ls [.int (b2i t0)]) := by
        intro kk hc9 S a1 a2 a3 a4 a5 t0 H locs ls hw hP hF hS hl
        unfold wp_L_areLightsSo_51 at hw
        refine lv_aload_n hx hb dL_areLightsSo_51 rfl (lv_at hl 0 rfl) ?_
        refine lv_iload hx hb dL_areLightsSo_52 (lv_at hl 4 rfl) ?_
        refine q_callX (vx_runV (As := [.int a4]) (rest := [.int (b2i t0)]) ⟨hx, hb, hml, hown, hts⟩ (c_X5_units l hlt D cy b0 S a4 _ _ hw) (cwV 1 hts gL_areLightsSo_X5_units rfl rfl rfl (by decide +kernel) ⟨(Nat.le_of_ble_eq_true rfl), (Nat.le_of_ble_eq_true rfl)⟩) (q_pV hW hP hF hS (k := 0) (ci := 5) (by decide) (cell_5 kk_0) rfl [.int a4]) rfl rfl hl.1 rfl (lv_room (Nat.le_of_ble_eq_true rfl)) dL_areLightsSo_54 ⟨by show _ ≤ 624; omega, by show _ ≤ 3744; omega⟩) hS (fun E54 ce q9 S54 t54 H locs hh hw hB hz hS hc9 hv9 hcl9 => ?_) (fun v54 S54 t54 H locs hh hp hB hz hk9 hS => ?_)
        · exact False.elim hw
        · obtain ⟨r54, rfl, hw⟩ := hp
          have hP : HP D cy b0 NALL S54 H := by rw [← hh]; exact hB.1
          have hF := hB.2
          try dsimp only at hw
          refine W.eq (g2 := F0 m 57 ls [.int r54, .int (b2i t0)]) rfl ?_
          refine lv_if_ne (x := r54) (tgt := 64) hx hb dL_areLightsSo_57 (by decide) (fun c57 => ?_) (fun c57 => ?_)
          · rw [if_neg c57] at hw
            refine lv_iconst (v := 0) hx hb dL_areLightsSo_64 (by decide) ?_
            refine W.widen (k := kk + 0) (n := 0 + 6 * (kk + 0)) (by omega) (by omega) ?_
            exact j65 (kk + 0) (by omega) S54 a1 a2 a3 a4 a5 t0 false _ _ _ hw hP hF hS (lv_sub hl [0, 1, 2, 3, 4, 5, 6] rfl)
          · rw [if_pos c57] at hw
            refine lv_iconst (v := 1) hx hb dL_areLightsSo_60 (by decide) ?_
            refine lv_goto (tgt := 65) hx hb dL_areLightsSo_61 (by decide) ?_
            refine W.widen (k := kk + 0) (n := 0 + 6 * (kk + 0)) (by omega) (by omega) ?_
            exact j65 (kk + 0) (by omega) S54 a1 a2 a3 a4 a5 t0 true _ _ _ hw hP hF hS (lv_sub hl [0, 1, 2, 3, 4, 5, 6] rfl)
      intro kk hc9 S a1 a2 a3 a4 H locs ls hw hP hF hS hl
      rw [wp_L_areLightsSo_9] at hw
      refine lv_iload hx hb dL_areLightsSo_9 (lv_at hl 4 rfl) ?_
      refine lv_aload_n hx hb dL_areLightsSo_11 rfl (lv_at hl 0 rfl) ?_
      refine q_call (va_runV (As := []) (rest := [.int a4]) ⟨hx, hb, hml, hown, hts⟩ (c_X5_lights l D cy b0 S _ hw) (cwV 0 hts gL_areLightsSo_X5_lights rfl rfl rfl (by decide +kernel) ⟨(Nat.le_of_ble_eq_true rfl), (Nat.le_of_ble_eq_true rfl)⟩) (q_pV hW hP hF hS (k := 0) (ci := 5) (by decide) (cell_5 kk_0) rfl []) rfl rfl hl.1 rfl (lv_room (Nat.le_of_ble_eq_true rfl)) dL_areLightsSo_12 ⟨by show _ ≤ 624; omega, by show _ ≤ 3744; omega⟩) hS (fun v12 S12 t12 H locs hh hp hB hz hk9 hS => ?_)
      obtain ⟨r12, rfl, hw⟩ := hp
      have hP : HP D cy b0 NALL S12 H := by rw [← hh]; exact hB.1
      have hF := hB.2
      try dsimp only at hw
      refine W.eq (g2 := F0 m 15 ls [.int r12, .int a4]) rfl ?_
      refine lv_icmp_ge (x := a4) (y := r12) (tgt := 314) hx hb dL_areLightsSo_15 (by decide) (fun c15 => ?_) (fun c15 => ?_)
      · rw [if_pos c15] at hw
        refine W.widen (k := kk + 0) (n := 0 + 6 * (kk + 0)) (by omega) (by omega) ?_
        exact j314 (kk + 0) (by omega) S12 a1 a2 a3 _ _ _ hw hP hF hS (lv_sub hl [0, 1, 2, 3] rfl)
      · rw [if_neg c15] at hw
        refine lv_aload_n hx hb dL_areLightsSo_18 rfl (lv_at hl 0 rfl) ?_
        refine lv_iload hx hb dL_areLightsSo_19 (lv_at hl 4 rfl) ?_
        refine q_callX (vx_runV (As := [.int a4]) (rest := []) ⟨hx, hb, hml, hown, hts⟩ (c_X5_state l hlt D cy b0 S12 a4 _ _ hw) (cwV 1 hts gL_areLightsSo_X5_state rfl rfl rfl (by decide +kernel) ⟨(Nat.le_of_ble_eq_true rfl), (Nat.le_of_ble_eq_true rfl)⟩) (q_pV hW hP hF hS (k := 0) (ci := 5) (by decide) (cell_5 kk_0) rfl [.int a4]) rfl rfl hl.1 rfl (lv_room (Nat.le_of_ble_eq_true rfl)) dL_areLightsSo_21 ⟨by show _ ≤ 624; omega, by show _ ≤ 3744; omega⟩) hS (fun E21 ce q9 S21 t21 H locs hh hw hB hz hS hc9 hv9 hcl9 => ?_) (fun v21 S21 t21 H locs hh hp hB hz hk9 hS => ?_)
        · exact False.elim hw
        · obtain ⟨r21, rfl, hw⟩ := hp
          have hP : HP D cy b0 NALL S21 H := by rw [← hh]; exact hB.1
          have hF := hB.2
          try dsimp only at hw
          refine W.eq (g2 := F0 m 24 ls [.int r21]) rfl ?_
          refine lv_istore (lv' := [(5, .int r21), (0, .ref (b0 + 0)), (1, .int a1), (2, .int a2), (3, .int a3), (4, .int a4)]) hx hb dL_areLightsSo_24 hl (by decide) rfl (fun ls hl => ?_)
          refine lv_iconst (v := 0) hx hb dL_areLightsSo_26 (by decide) ?_
          refine lv_istore (lv' := [(6, .int 0), (5, .int r21), (0, .ref (b0 + 0)), (1, .int a1), (2, .int a2), (3, .int a3), (4, .int a4)]) hx hb dL_areLightsSo_27 hl (by decide) rfl (fun ls hl => ?_)
          refine lv_iload hx hb dL_areLightsSo_29 (lv_at hl 1 rfl) ?_
          refine lv_if_lt (x := r21) (tgt := 116) hx hb dL_areLightsSo_31 (by decide) (fun c31 => ?_) (fun c31 => ?_)
          · rw [if_pos c31] at hw
            refine W.widen (k := kk + 0) (n := 0 + 6 * (kk + 0)) (by omega) (by omega) ?_
            exact j116 (kk + 0) (by omega) S21 a1 a2 a3 a4 r21 _ _ _ hw hP hF hS (lv_sub hl [2, 3, 4, 5, 6, 1, 0] rfl)
          · rw [if_neg c31] at hw
            refine lv_iload hx hb dL_areLightsSo_34 (lv_at hl 1 rfl) ?_
            refine lv_iconst (v := 3) hx hb dL_areLightsSo_36 (by decide) ?_
            refine lv_icmp_ge (x := r21) (y := 3) (tgt := 116) hx hb dL_areLightsSo_37 (by decide) (fun c37 => ?_) (fun c37 => ?_)
            · rw [if_pos c37] at hw
              refine W.widen (k := kk + 0) (n := 0 + 6 * (kk + 0)) (by omega) (by omega) ?_
              exact j116 (kk + 0) (by omega) S21 a1 a2 a3 a4 r21 _ _ _ hw hP hF hS (lv_sub hl [2, 3, 4, 5, 6, 1, 0] rfl)
            · rw [if_neg c37] at hw
              refine lv_iload hx hb dL_areLightsSo_40 (lv_at hl 1 rfl) ?_
              refine lv_iconst (v := 2) hx hb dL_areLightsSo_42 (by decide) ?_
              refine lv_icmp_ne (x := r21) (y := 2) (tgt := 50) hx hb dL_areLightsSo_43 (by decide) (fun c43 => ?_) (fun c43 => ?_)
              · rw [if_neg c43] at hw
                refine lv_iconst (v := 0) hx hb dL_areLightsSo_50 (by decide) ?_
                refine W.widen (k := kk + 0) (n := 0 + 6 * (kk + 0)) (by omega) (by omega) ?_
                exact j51 (kk + 0) (by omega) S21 a1 a2 a3 a4 r21 false _ _ _ hw hP hF hS (lv_sub hl [2, 3, 4, 5, 6, 1, 0] rfl)
              · rw [if_pos c43] at hw
                refine lv_iconst (v := 1) hx hb dL_areLightsSo_46 (by decide) ?_
                refine lv_goto (tgt := 51) hx hb dL_areLightsSo_47 (by decide) ?_
                refine W.widen (k := kk + 0) (n := 0 + 6 * (kk + 0)) (by omega) (by omega) ?_
                exact j51 (kk + 0) (by omega) S21 a1 a2 a3 a4 r21 true _ _ _ hw hP hF hS (lv_sub hl [2, 3, 4, 5, 6, 1, 0] rfl)
  unfold wp_L_areLightsSo at hw
  refine lv_iconst (v := 0) hx hb dL_areLightsSo_0 (by decide) ?_
  refine lv_istore_n (lv' := [(1, .int 0), (0, .ref (b0 + 0))]) hx hb dL_areLightsSo_1 rfl hl (by decide) rfl (fun ls hl => ?_)
  refine lv_iconst (v := 0) hx hb dL_areLightsSo_2 (by decide) ?_
  refine lv_istore_n (lv' := [(2, .int 0), (1, .int 0), (0, .ref (b0 + 0))]) hx hb dL_areLightsSo_3 rfl hl (by decide) rfl (fun ls hl => ?_)
  refine lv_iconst (v := 0) hx hb dL_areLightsSo_4 (by decide) ?_
  refine lv_istore_n (lv' := [(3, .int 0), (2, .int 0), (1, .int 0), (0, .ref (b0 + 0))]) hx hb dL_areLightsSo_5 rfl hl (by decide) rfl (fun ls hl => ?_)
  refine lv_iconst (v := 0) hx hb dL_areLightsSo_6 (by decide) ?_
  refine lv_istore (lv' := [(4, .int 0), (3, .int 0), (2, .int 0), (1, .int 0), (0, .ref (b0 + 0))]) hx hb dL_areLightsSo_7 hl (by decide) rfl (fun ls hl => ?_)
  obtain ⟨n9, hn9, hw⟩ := hw
  refine W.widen (k := 0 + 0) (n := 0 + 6 * (0 + 0)) (by omega) (by omega) ?_
  exact j9 n9 (0 + 0) (by omega) S 0 0 0 0 _ _ _ hw hP hF hS (lv_sub hl [4, 3, 2, 1, 0] rfl)
set_option maxHeartbeats 4000000 in
set_option maxRecDepth 100000 in
theorem c_L_isNeededSo (l : Launch) (hlt : l.stackTraces = false) (D : va_G) (cy : Nat → ClassId) (b0 : Nat) (S : St)  (P : Bool → St → Prop) (hw : wp_L_isNeededSo S  P) : Met l yL_isNeededSo wsL_isNeededSo rm_L_isNeededSo (va_Pc [.ref (b0 + 0)] (Wd D cy b0 NALL S)) (QC (Pz P) (Wb D cy b0 NALL) b0) 8236 49416 (AA b0) := by
  refine Met.ofW (cc := cL_isNeededSo) (maxL := 7) (ret := (some .boolean)) (by decide) rfl ?_
  intro p e s m args below meth c s₁ B hml hv
  obtain ⟨hargs, hW, hP, hF⟩ := hv
  have hx := B.exec
  have hb := B.bytes
  have hr := B.returns
  have hts := atoms_spec (ws := wsL_isNeededSo) B.pre
  have hown : s.vm.findClass RL = some m.cls := findClass_of_methodNamed B.named
  have hlocks := B.notSynchronized
  have hK := hW.1
  have hS : va_S (AA b0) s.heap s.heap [] := va_S.rf
  have hE : entryFrame m args 7 = F0 m 0 ((lg_sl [.ref (b0 + 0)] ++ List.replicate (7 - (lg_sl [.ref (b0 + 0)]).length) Slot.unset).toArray) [] := by rw [hargs]; exact lg_entry_eq m _ _
  rw [hE]
  have hl := lv_entry [.ref (b0 + 0)] (n := 7) (Nat.le_of_ble_eq_true rfl)
  generalize (lg_sl [.ref (b0 + 0)] ++ List.replicate (7 - (lg_sl [.ref (b0 + 0)]).length) Slot.unset).toArray = ls at hl ⊢
  have hl : lv_has ls 7 [(0, .ref (b0 + 0))] := hl
  have j167 : ∀ kk : Nat, kk + (1) ≤ 8236 → ∀ (S : St) (t0 : Bool) (t1 : Bool), ∀ (H : Heap) (locs : List Loc) (ls : Array Slot), wp_L_isNeededSo_167 P S t0 t1 → HP D cy b0 NALL S H → Fx S → va_S (AA b0) s.heap H locs → lv_has ls 7 [] → W p l e rm_L_isNeededSo s m args below meth c H locs kk (0 + 6 * kk) (MQ below (QC (Pz P) (Wb D cy b0 NALL) b0) args s 8236 49416 (AA b0)) (F0 m 167 ls [.int (b2i t1), .int (b2i t0)]) := by
    intro kk hc9 S t0 t1 H locs ls hw hP hF hS hl
    unfold wp_L_isNeededSo_167 at hw
    refine lv_icmp_ne (x := (b2i t0)) (y := (b2i t1)) (tgt := 174) hx hb dL_isNeededSo_167 (by decide) (fun c167 => ?_) (fun c167 => ?_)
    · rw [if_neg c167] at hw
      refine lv_iconst (v := 0) hx hb dL_isNeededSo_174 (by decide) ?_
      refine W.widen (k := 8236) (n := 49416) (by omega) (by omega) ?_
      exact q_zret (v := false) hx hb hr hP hF hS hw dL_isNeededSo_175 hlocks
    · rw [if_pos c167] at hw
      refine lv_iconst (v := 1) hx hb dL_isNeededSo_170 (by decide) ?_
      refine lv_goto (tgt := 175) hx hb dL_isNeededSo_171 (by decide) ?_
      refine W.widen (k := 8236) (n := 49416) (by omega) (by omega) ?_
      exact q_zret (v := true) hx hb hr hP hF hS hw dL_isNeededSo_175 hlocks
  have j158 : ∀ kk : Nat, kk + (1) ≤ 8236 → ∀ (S : St) (a1 : Int32) (t0 : Bool), ∀ (H : Heap) (locs : List Loc) (ls : Array Slot), wp_L_isNeededSo_158 P S a1 t0 → HP D cy b0 NALL S H → Fx S → va_S (AA b0) s.heap H locs → lv_has ls 7 [(1, .int a1)] → W p l e rm_L_isNeededSo s m args below meth c H locs kk (0 + 6 * kk) (MQ below (QC (Pz P) (Wb D cy b0 NALL) b0) args s 8236 49416 (AA b0)) (F0 m 158 ls [.int (b2i t0)]) := by
    intro kk hc9 S a1 t0 H locs ls hw hP hF hS hl
    unfold wp_L_isNeededSo_158 at hw
    refine lv_iload_n hx hb dL_isNeededSo_158 rfl (lv_at hl 0 rfl) ?_
    refine lv_if_le (x := a1) (tgt := 166) hx hb dL_isNeededSo_159 (by decide) (fun c159 => ?_) (fun c159 => ?_)
    · rw [if_pos c159] at hw
      refine lv_iconst (v := 0) hx hb dL_isNeededSo_166 (by decide) ?_
      refine W.widen (k := kk + 0) (n := 0 + 6 * (kk + 0)) (by omega) (by omega) ?_
      exact j167 (kk + 0) (by omega) S t0 false _ _ _ hw hP hF hS (lv_sub hl [] rfl)
    · rw [if_neg c159] at hw
      refine lv_iconst (v := 1) hx hb dL_isNeededSo_162 (by decide) ?_
      refine lv_goto (tgt := 167) hx hb dL_isNeededSo_163 (by decide) ?_
      refine W.widen (k := kk + 0) (n := 0 + 6 * (kk + 0)) (by omega) (by omega) ?_
      exact j167 (kk + 0) (by omega) S t0 true _ _ _ hw hP hF hS (lv_sub hl [] rfl)
  have j134 : ∀ kk : Nat, kk + (1) ≤ 8236 → ∀ (S : St) (a1 : Int32) (a2 : Int32), ∀ (H : Heap) (locs : List Loc) (ls : Array Slot), wp_L_isNeededSo_134 P S a1 a2 → HP D cy b0 NALL S H → Fx S → va_S (AA b0) s.heap H locs → lv_has ls 7 [(0, .ref (b0 + 0)), (1, .int a1), (2, .int a2)] → W p l e rm_L_isNeededSo s m args below meth c H locs kk (0 + 6 * kk) (MQ below (QC (Pz P) (Wb D cy b0 NALL) b0) args s 8236 49416 (AA b0)) (F0 m 134 ls []) := by
    intro kk hc9 S a1 a2 H locs ls hw hP hF hS hl
    unfold wp_L_isNeededSo_134 at hw
    refine lv_aload_n hx hb dL_isNeededSo_134 rfl (lv_at hl 0 rfl) ?_
    refine q_call (va_runV (As := []) (rest := []) ⟨hx, hb, hml, hown, hts⟩ (c_X5_wavelengthsNeeded l D cy b0 S _ hw) (cwV 0 hts gL_isNeededSo_X5_wavelengthsNeeded rfl rfl rfl (by decide +kernel) ⟨(Nat.le_of_ble_eq_true rfl), (Nat.le_of_ble_eq_true rfl)⟩) (q_pV hW hP hF hS (k := 0) (ci := 5) (by decide) (cell_5 kk_0) rfl []) rfl rfl hl.1 rfl (lv_room (Nat.le_of_ble_eq_true rfl)) dL_isNeededSo_135 ⟨by show _ ≤ 8236; omega, by show _ ≤ 49416; omega⟩) hS (fun v135 S135 t135 H locs hh hp hB hz hk9 hS => ?_)
    obtain ⟨r135, rfl, hw⟩ := hp
    have hP : HP D cy b0 NALL S135 H := by rw [← hh]; exact hB.1
    have hF := hB.2
    try dsimp only at hw
    refine W.eq (g2 := F0 m 138 ls [.int r135]) rfl ?_
    refine lv_istore_n (lv' := [(3, .int r135), (0, .ref (b0 + 0)), (1, .int a1), (2, .int a2)]) hx hb dL_isNeededSo_138 rfl hl (by decide) rfl (fun ls hl => ?_)
    refine lv_iload_n hx hb dL_isNeededSo_139 rfl (lv_at hl 0 rfl) ?_
    refine lv_iload_n hx hb dL_isNeededSo_140 rfl (lv_at hl 3 rfl) ?_
    refine lv_icmp_lt (x := r135) (y := a2) (tgt := 174) hx hb dL_isNeededSo_141 (by decide) (fun c141 => ?_) (fun c141 => ?_)
    · rw [if_pos c141] at hw
      refine lv_iconst (v := 0) hx hb dL_isNeededSo_174 (by decide) ?_
      refine W.widen (k := 8236) (n := 49416) (by omega) (by omega) ?_
      exact q_zret (v := false) hx hb hr hP hF hS hw dL_isNeededSo_175 hlocks
    · rw [if_neg c141] at hw
      refine lv_iload_n hx hb dL_isNeededSo_144 rfl (lv_at hl 0 rfl) ?_
      refine lv_iload_n hx hb dL_isNeededSo_145 rfl (lv_at hl 2 rfl) ?_
      refine lv_icmp_gt (x := r135) (y := a1) (tgt := 174) hx hb dL_isNeededSo_146 (by decide) (fun c146 => ?_) (fun c146 => ?_)
      · rw [if_pos c146] at hw
        refine lv_iconst (v := 0) hx hb dL_isNeededSo_174 (by decide) ?_
        refine W.widen (k := 8236) (n := 49416) (by omega) (by omega) ?_
        exact q_zret (v := false) hx hb hr hP hF hS hw dL_isNeededSo_175 hlocks
      · rw [if_neg c146] at hw
        refine lv_iload_n hx hb dL_isNeededSo_149 rfl (lv_at hl 0 rfl) ?_
        refine lv_if_le (x := r135) (tgt := 157) hx hb dL_isNeededSo_150 (by decide) (fun c150 => ?_) (fun c150 => ?_)
        · rw [if_pos c150] at hw
          refine lv_iconst (v := 0) hx hb dL_isNeededSo_157 (by decide) ?_
          refine W.widen (k := kk + 0) (n := 0 + 6 * (kk + 0)) (by omega) (by omega) ?_
          exact j158 (kk + 0) (by omega) S135 a1 false _ _ _ hw hP hF hS (lv_sub hl [2] rfl)
        · rw [if_neg c150] at hw
          refine lv_iconst (v := 1) hx hb dL_isNeededSo_153 (by decide) ?_
          refine lv_goto (tgt := 158) hx hb dL_isNeededSo_154 (by decide) ?_
          refine W.widen (k := kk + 0) (n := 0 + 6 * (kk + 0)) (by omega) (by omega) ?_
          exact j158 (kk + 0) (by omega) S135 a1 true _ _ _ hw hP hF hS (lv_sub hl [2] rfl)
  have j39 : ∀ (n39 : Nat), ∀ kk : Nat, kk + (1 + 549 * n39) ≤ 8236 → ∀ (S : St) (a1 : Int32) (a2 : Int32) (a3 : Int32), ∀ (H : Heap) (locs : List Loc) (ls : Array Slot), wp_L_isNeededSo_39 P n39 S a1 a2 a3 → HP D cy b0 NALL S H → Fx S → va_S (AA b0) s.heap H locs → lv_has ls 7 [(0, .ref (b0 + 0)), (1, .int a1), (2, .int a2), (3, .int a3)] → W p l e rm_L_isNeededSo s m args below meth c H locs kk (0 + 6 * kk) (MQ below (QC (Pz P) (Wb D cy b0 NALL) b0) args s 8236 49416 (AA b0)) (F0 m 39 ls []) := by
    intro n39
    induction n39 with
    | zero => intro kk hc9 S a1 a2 a3 H locs ls hw _ _ _ _ ; exact False.elim hw
    | succ n39 ih39 =>
      have j127 : ∀ kk : Nat, kk + (1 + 549 * n39) ≤ 8236 → ∀ (S : St) (a1 : Int32) (a3 : Int32) (t0 : Int32), ∀ (H : Heap) (locs : List Loc) (ls : Array Slot), wp_L_isNeededSo_127 P (fun S a1 a2 a3 => wp_L_isNeededSo_39 P n39 S a1 a2 a3) S a1 a3 t0 → HP D cy b0 NALL S H → Fx S → va_S (AA b0) s.heap H locs → lv_has ls 7 [(0, .ref (b0 + 0)), (1, .int a1), (3, .int a3)] → W p l e rm_L_isNeededSo s m args below meth c H locs kk (0 + 6 * kk) (MQ below (QC (Pz P) (Wb D cy b0 NALL) b0) args s 8236 49416 (AA b0)) (F0 m 127 ls [.int t0]) := by
        intro kk hc9 S a1 a3 t0 H locs ls hw hP hF hS hl
        unfold wp_L_isNeededSo_127 at hw
        refine lv_istore_n (lv' := [(2, .int t0), (0, .ref (b0 + 0)), (1, .int a1), (3, .int a3)]) hx hb dL_isNeededSo_127 rfl hl (by decide) rfl (fun ls hl => ?_)
        obtain ⟨y128, e128⟩ : ∃ z : Int32, z = a3 + 1 := ⟨_, rfl⟩
        have hw := hw y128 e128
        refine lv_iinc (v := y128) (lv' := [(3, .int y128), (2, .int t0), (0, .ref (b0 + 0)), (1, .int a1)]) hx hb dL_isNeededSo_128 hl (k := 3) rfl (by rw [e128]; rfl) (by decide) rfl (fun ls hl => ?_)
        refine lv_goto (tgt := 39) hx hb dL_isNeededSo_131 (by decide) ?_
        refine W.widen (k := kk + 0) (n := 0 + 6 * (kk + 0)) (by omega) (by omega) ?_
        exact ih39 (kk + 0) (by omega) S a1 t0 y128 _ _ _ hw hP hF hS (lv_sub hl [2, 3, 1, 0] rfl)
      have j115 : ∀ kk : Nat, kk + (1 + 549 * n39) ≤ 8236 → ∀ (S : St) (a1 : Int32) (a2 : Int32) (a3 : Int32) (a4 : Int32), ∀ (H : Heap) (locs : List Loc) (ls : Array Slot), wp_L_isNeededSo_115 P (fun S a1 a2 a3 => wp_L_isNeededSo_39 P n39 S a1 a2 a3) S a1 a2 a3 a4 → HP D cy b0 NALL S H → Fx S → va_S (AA b0) s.heap H locs → lv_has ls 7 [(0, .ref (b0 + 0)), (1, .int a1), (2, .int a2), (3, .int a3), (4, .int a4)] → W p l e rm_L_isNeededSo s m args below meth c H locs kk (0 + 6 * kk) (MQ below (QC (Pz P) (Wb D cy b0 NALL) b0) args s 8236 49416 (AA b0)) (F0 m 115 ls []) := by
        intro kk hc9 S a1 a2 a3 a4 H locs ls hw hP hF hS hl
        unfold wp_L_isNeededSo_115 at hw
        refine lv_iload hx hb dL_isNeededSo_115 (lv_at hl 4 rfl) ?_
        refine lv_iload_n hx hb dL_isNeededSo_117 rfl (lv_at hl 2 rfl) ?_
        refine lv_icmp_le (x := a4) (y := a2) (tgt := 126) hx hb dL_isNeededSo_118 (by decide) (fun c118 => ?_) (fun c118 => ?_)
        · rw [if_pos c118] at hw
          refine lv_iload_n hx hb dL_isNeededSo_126 rfl (lv_at hl 2 rfl) ?_
          refine W.widen (k := kk + 0) (n := 0 + 6 * (kk + 0)) (by omega) (by omega) ?_
          exact j127 (kk + 0) (by omega) S a1 a3 a2 _ _ _ hw hP hF hS (lv_sub hl [0, 1, 3] rfl)
        · rw [if_neg c118] at hw
          refine lv_iload hx hb dL_isNeededSo_121 (lv_at hl 4 rfl) ?_
          refine lv_goto (tgt := 127) hx hb dL_isNeededSo_123 (by decide) ?_
          refine W.widen (k := kk + 0) (n := 0 + 6 * (kk + 0)) (by omega) (by omega) ?_
          exact j127 (kk + 0) (by omega) S a1 a3 a4 _ _ _ hw hP hF hS (lv_sub hl [0, 1, 3] rfl)
      have j51 : ∀ (n51 : Nat), ∀ kk : Nat, kk + (1 + 9 * n51 + 549 * n39) ≤ 8236 → ∀ (S : St) (a1 : Int32) (a2 : Int32) (a3 : Int32) (a4 : Int32) (a5 : Int32), ∀ (H : Heap) (locs : List Loc) (ls : Array Slot), wp_L_isNeededSo_51 P (fun S a1 a2 a3 => wp_L_isNeededSo_39 P n39 S a1 a2 a3) n51 S a1 a2 a3 a4 a5 → HP D cy b0 NALL S H → Fx S → va_S (AA b0) s.heap H locs → lv_has ls 7 [(0, .ref (b0 + 0)), (1, .int a1), (2, .int a2), (3, .int a3), (4, .int a4), (5, .int a5)] → W p l e rm_L_isNeededSo s m args below meth c H locs kk (0 + 6 * kk) (MQ below (QC (Pz P) (Wb D cy b0 NALL) b0) args s 8236 49416 (AA b0)) (F0 m 51 ls []) := by
        intro n51
        induction n51 with
        | zero => intro kk hc9 S a1 a2 a3 a4 a5 H locs ls hw _ _ _ _ ; exact False.elim hw
        | succ n51 ih51 =>
          have j109 : ∀ kk : Nat, kk + (1 + 549 * n39 + 9 * n51) ≤ 8236 → ∀ (S : St) (a1 : Int32) (a2 : Int32) (a3 : Int32) (a4 : Int32) (a5 : Int32), ∀ (H : Heap) (locs : List Loc) (ls : Array Slot), wp_L_isNeededSo_109 P (fun S a1 a2 a3 => wp_L_isNeededSo_39 P n39 S a1 a2 a3) (fun S a1 a2 a3 a4 a5 => wp_L_isNeededSo_51 P (fun S a1 a2 a3 => wp_L_isNeededSo_39 P n39 S a1 a2 a3) n51 S a1 a2 a3 a4 a5) S a1 a2 a3 a4 a5 → HP D cy b0 NALL S H → Fx S → va_S (AA b0) s.heap H locs → lv_has ls 7 [(0, .ref (b0 + 0)), (1, .int a1), (2, .int a2), (3, .int a3), (4, .int a4), (5, .int a5)] → W p l e rm_L_isNeededSo s m args below meth c H locs kk (0 + 6 * kk) (MQ below (QC (Pz P) (Wb D cy b0 NALL) b0) args s 8236 49416 (AA b0)) (F0 m 109 ls []) := by
            intro kk hc9 S a1 a2 a3 a4 a5 H locs ls hw hP hF hS hl
            unfold wp_L_isNeededSo_109 at hw
            obtain ⟨y109, e109⟩ : ∃ z : Int32, z = a5 + 1 := ⟨_, rfl⟩
            have hw := hw y109 e109
            refine lv_iinc (v := y109) (lv' := [(5, .int y109), (0, .ref (b0 + 0)), (1, .int a1), (2, .int a2), (3, .int a3), (4, .int a4)]) hx hb dL_isNeededSo_109 hl (k := 5) rfl (by rw [e109]; rfl) (by decide) rfl (fun ls hl => ?_)
            refine lv_goto (tgt := 51) hx hb dL_isNeededSo_112 (by decide) ?_
            refine W.widen (k := kk + 0) (n := 0 + 6 * (kk + 0)) (by omega) (by omega) ?_
            exact ih51 (kk + 0) (by omega) S a1 a2 a3 a4 y109 _ _ _ hw hP hF hS (lv_sub hl [1, 2, 3, 4, 5, 0] rfl)
          have j63 : ∀ (n63 : Nat), ∀ kk : Nat, kk + (2 + 1 * n63 + 549 * n39 + 9 * n51) ≤ 8236 → ∀ (S : St) (a1 : Int32) (a2 : Int32) (a3 : Int32) (a4 : Int32) (a5 : Int32) (a6 : Int32), ∀ (H : Heap) (locs : List Loc) (ls : Array Slot), wp_L_isNeededSo_63 P (fun S a1 a2 a3 => wp_L_isNeededSo_39 P n39 S a1 a2 a3) (fun S a1 a2 a3 a4 a5 => wp_L_isNeededSo_51 P (fun S a1 a2 a3 => wp_L_isNeededSo_39 P n39 S a1 a2 a3) n51 S a1 a2 a3 a4 a5) n63 S a1 a2 a3 a4 a5 a6 → HP D cy b0 NALL S H → Fx S → va_S (AA b0) s.heap H locs → lv_has ls 7 [(0, .ref (b0 + 0)), (1, .int a1), (2, .int a2), (3, .int a3), (4, .int a4), (5, .int a5), (6, .int a6)] → W p l e rm_L_isNeededSo s m args below meth c H locs kk (0 + 6 * kk) (MQ below (QC (Pz P) (Wb D cy b0 NALL) b0) args s 8236 49416 (AA b0)) (F0 m 63 ls []) := by
            intro n63
            induction n63 with
            | zero => intro kk hc9 S a1 a2 a3 a4 a5 a6 H locs ls hw _ _ _ _ ; exact False.elim hw
            | succ n63 ih63 =>
              have j100 : ∀ kk : Nat, kk + (2 + 549 * n39 + 9 * n51 + 1 * n63) ≤ 8236 → ∀ (S : St) (a1 : Int32) (a2 : Int32) (a3 : Int32) (a5 : Int32) (a6 : Int32) (t0 : Int32) (t1 : Bool), ∀ (H : Heap) (locs : List Loc) (ls : Array Slot), wp_L_isNeededSo_100 P (fun S a1 a2 a3 => wp_L_isNeededSo_39 P n39 S a1 a2 a3) (fun S a1 a2 a3 a4 a5 => wp_L_isNeededSo_51 P (fun S a1 a2 a3 => wp_L_isNeededSo_39 P n39 S a1 a2 a3) n51 S a1 a2 a3 a4 a5) (fun S a1 a2 a3 a4 a5 a6 => wp_L_isNeededSo_63 P (fun S a1 a2 a3 => wp_L_isNeededSo_39 P n39 S a1 a2 a3) (fun S a1 a2 a3 a4 a5 => wp_L_isNeededSo_51 P (fun S a1 a2 a3 => wp_L_isNeededSo_39 P n39 S a1 a2 a3) n51 S a1 a2 a3 a4 a5) n63 S a1 a2 a3 a4 a5 a6) S a1 a2 a3 a5 a6 t0 t1 → HP D cy b0 NALL S H → Fx S → va_S (AA b0) s.heap H locs → lv_has ls 7 [(0, .ref (b0 + 0)), (1, .int a1), (2, .int a2), (3, .int a3), (5, .int a5), (6, .int a6)] → W p l e rm_L_isNeededSo s m args below meth c H locs kk (0 + 6 * kk) (MQ below (QC (Pz P) (Wb D cy b0 NALL) b0) args s 8236 49416 (AA b0)) (F0 m 100 ls [.int (b2i t1), .int t0]) := by
                intro kk hc9 S a1 a2 a3 a5 a6 t0 t1 H locs ls hw hP hF hS hl
                unfold wp_L_isNeededSo_100 at hw
                refine lv_iadd hx hb dL_isNeededSo_100 ?_
                refine lv_topi (fun y101 e101 => ?_)
                have hw := hw y101 e101
                refine lv_istore (lv' := [(4, .int y101), (0, .ref (b0 + 0)), (1, .int a1), (2, .int a2), (3, .int a3), (5, .int a5), (6, .int a6)]) hx hb dL_isNeededSo_101 hl (by decide) rfl (fun ls hl => ?_)
                obtain ⟨y103, e103⟩ : ∃ z : Int32, z = a6 + 1 := ⟨_, rfl⟩
                have hw := hw y103 e103
                refine lv_iinc (v := y103) (lv' := [(6, .int y103), (4, .int y101), (0, .ref (b0 + 0)), (1, .int a1), (2, .int a2), (3, .int a3), (5, .int a5)]) hx hb dL_isNeededSo_103 hl (k := 6) rfl (by rw [e103]; rfl) (by decide) rfl (fun ls hl => ?_)
                refine lv_goto (tgt := 63) hx hb dL_isNeededSo_106 (by decide) ?_
                refine W.widen (k := kk + 0) (n := 0 + 6 * (kk + 0)) (by omega) (by omega) ?_
                exact ih63 (kk + 0) (by omega) S a1 a2 a3 y101 a5 y103 _ _ _ hw hP hF hS (lv_sub hl [2, 3, 4, 5, 1, 6, 0] rfl)
              intro kk hc9 S a1 a2 a3 a4 a5 a6 H locs ls hw hP hF hS hl
              rw [wp_L_isNeededSo_63] at hw
              refine lv_iload hx hb dL_isNeededSo_63 (lv_at hl 6 rfl) ?_
              refine lv_aload_n hx hb dL_isNeededSo_65 rfl (lv_at hl 0 rfl) ?_
              refine lv_iconst (v := 0) hx hb dL_isNeededSo_66 (by decide) ?_
              refine lv_iload hx hb dL_isNeededSo_67 (lv_at hl 5 rfl) ?_
              refine lv_iconst (v := 0) hx hb dL_isNeededSo_69 (by decide) ?_
              refine lv_iconst (v := 0) hx hb dL_isNeededSo_70 (by decide) ?_
              refine q_call (vx_runSW (As := [.ref (b0 + 0), .int 0, .int a5, .int 0, .int 0]) (rest := [.int a6]) ⟨hx, hb, hml, hown, hts⟩ (c_L_looks l hlt D cy b0 S 0 a5 0 0 _ hw) (vx_cwSW 5 hts gL_isNeededSo_L_looks rfl rfl rfl (by decide +kernel) ⟨(Nat.le_of_ble_eq_true rfl), (Nat.le_of_ble_eq_true rfl)⟩) (q_pS hW hP hF hS [.ref (b0 + 0), .int 0, .int a5, .int 0, .int 0]) rfl rfl hl.1 rfl (lv_room (Nat.le_of_ble_eq_true rfl)) dL_isNeededSo_71 ⟨by show _ ≤ 8236; omega, by show _ ≤ 49416; omega⟩) hS (fun v71 S71 t71 H locs hh hp hB hz hk9 hS => ?_)
              obtain ⟨r71, rfl, hw⟩ := hp
              have hP : HP D cy b0 NALL S71 H := by rw [← hh]; exact hB.1
              have hF := hB.2
              try dsimp only at hw
              refine W.eq (g2 := F0 m 74 ls [.int r71, .int a6]) rfl ?_
              refine lv_icmp_ge (x := a6) (y := r71) (tgt := 109) hx hb dL_isNeededSo_74 (by decide) (fun c74 => ?_) (fun c74 => ?_)
              · rw [if_pos c74] at hw
                refine W.widen (k := kk + 1) (n := 0 + 6 * (kk + 1)) (by omega) (by omega) ?_
                exact j109 (kk + 1) (by omega) S71 a1 a2 a3 a4 a5 _ _ _ hw hP hF hS (lv_sub hl [0, 1, 2, 3, 4, 5] rfl)
              · rw [if_neg c74] at hw
                refine lv_iload hx hb dL_isNeededSo_77 (lv_at hl 4 rfl) ?_
                refine lv_aload_n hx hb dL_isNeededSo_79 rfl (lv_at hl 0 rfl) ?_
                refine lv_iload hx hb dL_isNeededSo_80 (lv_at hl 5 rfl) ?_
                refine lv_iconst (v := 0) hx hb dL_isNeededSo_82 (by decide) ?_
                refine lv_iload hx hb dL_isNeededSo_83 (lv_at hl 6 rfl) ?_
                refine q_callX (vx_runV (As := [.int a5, .int 0, .int a6]) (rest := [.int a4]) ⟨hx, hb, hml, hown, hts⟩ (c_X5_channel l hlt D cy b0 S71 a5 0 a6 _ _ hw) (cwV 3 hts gL_isNeededSo_X5_channel rfl rfl rfl (by decide +kernel) ⟨(Nat.le_of_ble_eq_true rfl), (Nat.le_of_ble_eq_true rfl)⟩) (q_pV hW hP hF hS (k := 0) (ci := 5) (by decide) (cell_5 kk_0) rfl [.int a5, .int 0, .int a6]) rfl rfl hl.1 rfl (lv_room (Nat.le_of_ble_eq_true rfl)) dL_isNeededSo_85 ⟨by show _ ≤ 8236; omega, by show _ ≤ 49416; omega⟩) hS (fun E85 ce q9 S85 t85 H locs hh hw hB hz hS hc9 hv9 hcl9 => ?_) (fun v85 S85 t85 H locs hh hp hB hz hk9 hS => ?_)
                · exact False.elim hw
                · obtain ⟨r85, rfl, hw⟩ := hp
                  have hP : HP D cy b0 NALL S85 H := by rw [← hh]; exact hB.1
                  have hF := hB.2
                  try dsimp only at hw
                  refine W.eq (g2 := F0 m 88 ls [.int r85, .int a4]) rfl ?_
                  refine lv_bipush (v := 10) hx hb dL_isNeededSo_88 (by decide) ?_
                  refine lv_idiv hx hb dL_isNeededSo_90 (by decide) ?_
                  refine lv_iload_n hx hb dL_isNeededSo_91 rfl (lv_at hl 3 rfl) ?_
                  refine lv_icmp_ne (x := (r85 / 10)) (y := a3) (tgt := 99) hx hb dL_isNeededSo_92 (by decide) (fun c92 => ?_) (fun c92 => ?_)
                  · rw [if_neg c92] at hw
                    refine lv_iconst (v := 0) hx hb dL_isNeededSo_99 (by decide) ?_
                    refine W.widen (k := kk + 1) (n := 0 + 6 * (kk + 1)) (by omega) (by omega) ?_
                    exact j100 (kk + 1) (by omega) S85 a1 a2 a3 a5 a6 a4 false _ _ _ hw hP hF hS (lv_sub hl [0, 1, 2, 3, 5, 6] rfl)
                  · rw [if_pos c92] at hw
                    refine lv_iconst (v := 1) hx hb dL_isNeededSo_95 (by decide) ?_
                    refine lv_goto (tgt := 100) hx hb dL_isNeededSo_96 (by decide) ?_
                    refine W.widen (k := kk + 1) (n := 0 + 6 * (kk + 1)) (by omega) (by omega) ?_
                    exact j100 (kk + 1) (by omega) S85 a1 a2 a3 a5 a6 a4 true _ _ _ hw hP hF hS (lv_sub hl [0, 1, 2, 3, 5, 6] rfl)
          intro kk hc9 S a1 a2 a3 a4 a5 H locs ls hw hP hF hS hl
          rw [wp_L_isNeededSo_51] at hw
          refine lv_iload hx hb dL_isNeededSo_51 (lv_at hl 5 rfl) ?_
          refine lv_aload_n hx hb dL_isNeededSo_53 rfl (lv_at hl 0 rfl) ?_
          refine q_call (va_runV (As := []) (rest := [.int a5]) ⟨hx, hb, hml, hown, hts⟩ (c_X5_lights l D cy b0 S _ hw) (cwV 0 hts gL_isNeededSo_X5_lights rfl rfl rfl (by decide +kernel) ⟨(Nat.le_of_ble_eq_true rfl), (Nat.le_of_ble_eq_true rfl)⟩) (q_pV hW hP hF hS (k := 0) (ci := 5) (by decide) (cell_5 kk_0) rfl []) rfl rfl hl.1 rfl (lv_room (Nat.le_of_ble_eq_true rfl)) dL_isNeededSo_54 ⟨by show _ ≤ 8236; omega, by show _ ≤ 49416; omega⟩) hS (fun v54 S54 t54 H locs hh hp hB hz hk9 hS => ?_)
          obtain ⟨r54, rfl, hw⟩ := hp
          have hP : HP D cy b0 NALL S54 H := by rw [← hh]; exact hB.1
          have hF := hB.2
          try dsimp only at hw
          refine W.eq (g2 := F0 m 57 ls [.int r54, .int a5]) rfl ?_
          refine lv_icmp_ge (x := a5) (y := r54) (tgt := 115) hx hb dL_isNeededSo_57 (by decide) (fun c57 => ?_) (fun c57 => ?_)
          · rw [if_pos c57] at hw
            refine W.widen (k := kk + 0) (n := 0 + 6 * (kk + 0)) (by omega) (by omega) ?_
            exact j115 (kk + 0) (by omega) S54 a1 a2 a3 a4 _ _ _ hw hP hF hS (lv_sub hl [0, 1, 2, 3, 4] rfl)
          · rw [if_neg c57] at hw
            refine lv_iconst (v := 0) hx hb dL_isNeededSo_60 (by decide) ?_
            refine lv_istore (lv' := [(6, .int 0), (0, .ref (b0 + 0)), (1, .int a1), (2, .int a2), (3, .int a3), (4, .int a4), (5, .int a5)]) hx hb dL_isNeededSo_61 hl (by decide) rfl (fun ls hl => ?_)
            obtain ⟨n63, hn63, hw⟩ := hw
            refine W.widen (k := kk + 0) (n := 0 + 6 * (kk + 0)) (by omega) (by omega) ?_
            exact j63 n63 (kk + 0) (by omega) S54 a1 a2 a3 a4 a5 0 _ _ _ hw hP hF hS (lv_sub hl [1, 2, 3, 4, 5, 6, 0] rfl)
      intro kk hc9 S a1 a2 a3 H locs ls hw hP hF hS hl
      rw [wp_L_isNeededSo_39] at hw
      refine lv_iload_n hx hb dL_isNeededSo_39 rfl (lv_at hl 3 rfl) ?_
      refine lv_bipush (v := 14) hx hb dL_isNeededSo_40 (by decide) ?_
      refine lv_icmp_ge (x := a3) (y := 14) (tgt := 134) hx hb dL_isNeededSo_42 (by decide) (fun c42 => ?_) (fun c42 => ?_)
      · rw [if_pos c42] at hw
        refine W.widen (k := kk + 0) (n := 0 + 6 * (kk + 0)) (by omega) (by omega) ?_
        exact j134 (kk + 0) (by omega) S a1 a2 _ _ _ hw hP hF hS (lv_sub hl [0, 1, 2] rfl)
      · rw [if_neg c42] at hw
        refine lv_iconst (v := 0) hx hb dL_isNeededSo_45 (by decide) ?_
        refine lv_istore (lv' := [(4, .int 0), (0, .ref (b0 + 0)), (1, .int a1), (2, .int a2), (3, .int a3)]) hx hb dL_isNeededSo_46 hl (by decide) rfl (fun ls hl => ?_)
        refine lv_iconst (v := 0) hx hb dL_isNeededSo_48 (by decide) ?_
        refine lv_istore (lv' := [(5, .int 0), (4, .int 0), (0, .ref (b0 + 0)), (1, .int a1), (2, .int a2), (3, .int a3)]) hx hb dL_isNeededSo_49 hl (by decide) rfl (fun ls hl => ?_)
        obtain ⟨n51, hn51, hw⟩ := hw
        refine W.widen (k := kk + 0) (n := 0 + 6 * (kk + 0)) (by omega) (by omega) ?_
        exact j51 n51 (kk + 0) (by omega) S a1 a2 a3 0 0 _ _ _ hw hP hF hS (lv_sub hl [2, 3, 4, 5, 1, 0] rfl)
  have j37 : ∀ kk : Nat, kk + (8236) ≤ 8236 → ∀ (S : St) (a1 : Int32), ∀ (H : Heap) (locs : List Loc) (ls : Array Slot), wp_L_isNeededSo_37 P S a1 → HP D cy b0 NALL S H → Fx S → va_S (AA b0) s.heap H locs → lv_has ls 7 [(0, .ref (b0 + 0)), (1, .int a1), (2, .int 0)] → W p l e rm_L_isNeededSo s m args below meth c H locs kk (0 + 6 * kk) (MQ below (QC (Pz P) (Wb D cy b0 NALL) b0) args s 8236 49416 (AA b0)) (F0 m 37 ls []) := by
    intro kk hc9 S a1 H locs ls hw hP hF hS hl
    unfold wp_L_isNeededSo_37 at hw
    refine lv_iconst (v := 0) hx hb dL_isNeededSo_37 (by decide) ?_
    refine lv_istore_n (lv' := [(3, .int 0), (0, .ref (b0 + 0)), (1, .int a1), (2, .int 0)]) hx hb dL_isNeededSo_38 rfl hl (by decide) rfl (fun ls hl => ?_)
    obtain ⟨n39, hn39, hw⟩ := hw
    refine W.widen (k := kk + 0) (n := 0 + 6 * (kk + 0)) (by omega) (by omega) ?_
    exact j39 n39 (kk + 0) (by omega) S a1 0 0 _ _ _ hw hP hF hS (lv_sub hl [1, 2, 3, 0] rfl)
  have j6 : ∀ (n6 : Nat), ∀ kk : Nat, kk + (8236) ≤ 8236 → ∀ (S : St) (a1 : Int32) (a3 : Int32), ∀ (H : Heap) (locs : List Loc) (ls : Array Slot), wp_L_isNeededSo_6 P n6 S a1 a3 → HP D cy b0 NALL S H → Fx S → va_S (AA b0) s.heap H locs → lv_has ls 7 [(0, .ref (b0 + 0)), (1, .int a1), (2, .int 0), (3, .int a3)] → W p l e rm_L_isNeededSo s m args below meth c H locs kk (0 + 6 * kk) (MQ below (QC (Pz P) (Wb D cy b0 NALL) b0) args s 8236 49416 (AA b0)) (F0 m 6 ls []) := by
    intro n6
    induction n6 with
    | zero => intro kk hc9 S a1 a3 H locs ls hw _ _ _ _ ; exact False.elim hw
    | succ n6 ih6 =>
      have j29 : ∀ kk : Nat, kk + (8236) ≤ 8236 → ∀ (S : St) (a3 : Int32) (t0 : Int32) (t1 : Bool), ∀ (H : Heap) (locs : List Loc) (ls : Array Slot), wp_L_isNeededSo_29 P (fun S a1 a3 => wp_L_isNeededSo_6 P n6 S a1 a3) S a3 t0 t1 → HP D cy b0 NALL S H → Fx S → va_S (AA b0) s.heap H locs → lv_has ls 7 [(0, .ref (b0 + 0)), (2, .int 0), (3, .int a3)] → W p l e rm_L_isNeededSo s m args below meth c H locs kk (0 + 6 * kk) (MQ below (QC (Pz P) (Wb D cy b0 NALL) b0) args s 8236 49416 (AA b0)) (F0 m 29 ls [.int (b2i t1), .int t0]) := by
        intro kk hc9 S a3 t0 t1 H locs ls hw hP hF hS hl
        unfold wp_L_isNeededSo_29 at hw
        refine lv_iadd hx hb dL_isNeededSo_29 ?_
        refine lv_topi (fun y30 e30 => ?_)
        have hw := hw y30 e30
        refine lv_istore_n (lv' := [(1, .int y30), (0, .ref (b0 + 0)), (2, .int 0), (3, .int a3)]) hx hb dL_isNeededSo_30 rfl hl (by decide) rfl (fun ls hl => ?_)
        obtain ⟨y31, e31⟩ : ∃ z : Int32, z = a3 + 1 := ⟨_, rfl⟩
        have hw := hw y31 e31
        refine lv_iinc (v := y31) (lv' := [(3, .int y31), (1, .int y30), (0, .ref (b0 + 0)), (2, .int 0)]) hx hb dL_isNeededSo_31 hl (k := 3) rfl (by rw [e31]; rfl) (by decide) rfl (fun ls hl => ?_)
        refine lv_goto (tgt := 6) hx hb dL_isNeededSo_34 (by decide) ?_
        refine W.widen (k := kk + 0) (n := 0 + 6 * (kk + 0)) (by omega) (by omega) ?_
        exact ih6 (kk + 0) (by omega) S y30 y31 _ _ _ hw hP hF hS (lv_sub hl [2, 1, 3, 0] rfl)
      intro kk hc9 S a1 a3 H locs ls hw hP hF hS hl
      rw [wp_L_isNeededSo_6] at hw
      refine lv_iload_n hx hb dL_isNeededSo_6 rfl (lv_at hl 3 rfl) ?_
      refine lv_aload_n hx hb dL_isNeededSo_7 rfl (lv_at hl 0 rfl) ?_
      refine q_call (va_runV (As := []) (rest := [.int a3]) ⟨hx, hb, hml, hown, hts⟩ (c_X5_lights l D cy b0 S _ hw) (cwV 0 hts gL_isNeededSo_X5_lights rfl rfl rfl (by decide +kernel) ⟨(Nat.le_of_ble_eq_true rfl), (Nat.le_of_ble_eq_true rfl)⟩) (q_pV hW hP hF hS (k := 0) (ci := 5) (by decide) (cell_5 kk_0) rfl []) rfl rfl hl.1 rfl (lv_room (Nat.le_of_ble_eq_true rfl)) dL_isNeededSo_8 ⟨by show _ ≤ 8236; omega, by show _ ≤ 49416; omega⟩) hS (fun v8 S8 t8 H locs hh hp hB hz hk9 hS => ?_)
      obtain ⟨r8, rfl, hw⟩ := hp
      have hP : HP D cy b0 NALL S8 H := by rw [← hh]; exact hB.1
      have hF := hB.2
      try dsimp only at hw
      refine W.eq (g2 := F0 m 11 ls [.int r8, .int a3]) rfl ?_
      refine lv_icmp_ge (x := a3) (y := r8) (tgt := 37) hx hb dL_isNeededSo_11 (by decide) (fun c11 => ?_) (fun c11 => ?_)
      · rw [if_pos c11] at hw
        refine W.widen (k := kk + 0) (n := 0 + 6 * (kk + 0)) (by omega) (by omega) ?_
        exact j37 (kk + 0) (by omega) S8 a1 _ _ _ hw hP hF hS (lv_sub hl [0, 1, 2] rfl)
      · rw [if_neg c11] at hw
        refine lv_iload_n hx hb dL_isNeededSo_14 rfl (lv_at hl 1 rfl) ?_
        refine lv_aload_n hx hb dL_isNeededSo_15 rfl (lv_at hl 0 rfl) ?_
        refine lv_iload_n hx hb dL_isNeededSo_16 rfl (lv_at hl 3 rfl) ?_
        refine q_callX (vx_runV (As := [.int a3]) (rest := [.int a1]) ⟨hx, hb, hml, hown, hts⟩ (c_X5_state l hlt D cy b0 S8 a3 _ _ hw) (cwV 1 hts gL_isNeededSo_X5_state rfl rfl rfl (by decide +kernel) ⟨(Nat.le_of_ble_eq_true rfl), (Nat.le_of_ble_eq_true rfl)⟩) (q_pV hW hP hF hS (k := 0) (ci := 5) (by decide) (cell_5 kk_0) rfl [.int a3]) rfl rfl hl.1 rfl (lv_room (Nat.le_of_ble_eq_true rfl)) dL_isNeededSo_17 ⟨by show _ ≤ 8236; omega, by show _ ≤ 49416; omega⟩) hS (fun E17 ce q9 S17 t17 H locs hh hw hB hz hS hc9 hv9 hcl9 => ?_) (fun v17 S17 t17 H locs hh hp hB hz hk9 hS => ?_)
        · exact False.elim hw
        · obtain ⟨r17, rfl, hw⟩ := hp
          have hP : HP D cy b0 NALL S17 H := by rw [← hh]; exact hB.1
          have hF := hB.2
          try dsimp only at hw
          refine W.eq (g2 := F0 m 20 ls [.int r17, .int a1]) rfl ?_
          refine lv_iconst (v := 2) hx hb dL_isNeededSo_20 (by decide) ?_
          refine lv_icmp_ge (x := r17) (y := 2) (tgt := 28) hx hb dL_isNeededSo_21 (by decide) (fun c21 => ?_) (fun c21 => ?_)
          · rw [if_pos c21] at hw
            refine lv_iconst (v := 0) hx hb dL_isNeededSo_28 (by decide) ?_
            refine W.widen (k := kk + 0) (n := 0 + 6 * (kk + 0)) (by omega) (by omega) ?_
            exact j29 (kk + 0) (by omega) S17 a3 a1 false _ _ _ hw hP hF hS (lv_sub hl [0, 2, 3] rfl)
          · rw [if_neg c21] at hw
            refine lv_iconst (v := 1) hx hb dL_isNeededSo_24 (by decide) ?_
            refine lv_goto (tgt := 29) hx hb dL_isNeededSo_25 (by decide) ?_
            refine W.widen (k := kk + 0) (n := 0 + 6 * (kk + 0)) (by omega) (by omega) ?_
            exact j29 (kk + 0) (by omega) S17 a3 a1 true _ _ _ hw hP hF hS (lv_sub hl [0, 2, 3] rfl)
  unfold wp_L_isNeededSo at hw
  refine lv_iconst (v := 0) hx hb dL_isNeededSo_0 (by decide) ?_
  refine lv_istore_n (lv' := [(1, .int 0), (0, .ref (b0 + 0))]) hx hb dL_isNeededSo_1 rfl hl (by decide) rfl (fun ls hl => ?_)
  refine lv_iconst (v := 0) hx hb dL_isNeededSo_2 (by decide) ?_
  refine lv_istore_n (lv' := [(2, .int 0), (1, .int 0), (0, .ref (b0 + 0))]) hx hb dL_isNeededSo_3 rfl hl (by decide) rfl (fun ls hl => ?_)
  refine lv_iconst (v := 0) hx hb dL_isNeededSo_4 (by decide) ?_
  refine lv_istore_n (lv' := [(3, .int 0), (2, .int 0), (1, .int 0), (0, .ref (b0 + 0))]) hx hb dL_isNeededSo_5 rfl hl (by decide) rfl (fun ls hl => ?_)
  obtain ⟨n6, hn6, hw⟩ := hw
  refine W.widen (k := 0 + 0) (n := 0 + 6 * (0 + 0)) (by omega) (by omega) ?_
  exact j6 n6 (0 + 0) (by omega) S 0 0 _ _ _ hw hP hF hS (lv_sub hl [3, 2, 1, 0] rfl)
