/-! METHODS as functions: printed by program -/
def Mo_hold_20 (N : Nat)  : Nat → Int32 → Int32 → mS → Option (Int32 × mS)
  | 0, _, _, _ => none
  | n + 1, x1, x2, M => if 29 ≤ x2 then (some (1, M)) else (grd (mIn x2 29) (grd (mIn ((29 * x1) + x2) 87) (nxt (mWI M 110 ((29 * x1) + x2).toNatClampNeg (M.1 95 x2.toNatClampNeg)) fun M3 => Mo_hold_20 N n x1 (x2 + 1) M3)))
/-- MoonDialsModel.hold(I)Z of .ref 64, .int a0 -/
def Mo_hold (N : Nat) (a0 : Int32) (M : mS) : Option (Int32 × mS) := if (Mo_in a0 0 2 M) = 0 then (some (0, M)) else (grd (mIn a0 3) (nxt (mWI M 109 a0.toNatClampNeg (vp_nar .boolean 1)) fun M6 => Mo_hold_20 N N a0 0 M6))
def Mo_restore_22 (N : Nat)  : Nat → Int32 → Int32 → mS → Option (Int32 × mS)
  | 0, _, _, _ => none
  | n + 1, x1, x2, M => if 29 ≤ x2 then (nxt (mWI M 64 53 0) fun M1 => some (1, M1)) else (grd (mIn ((29 * x1) + x2) 87) (grd (mIn x2 29) (nxt (mWI M 95 x2.toNatClampNeg (M.1 110 ((29 * x1) + x2).toNatClampNeg)) fun M4 => Mo_restore_22 N n x1 (x2 + 1) M4)))
/-- MoonDialsModel.restore(I)Z of .ref 64, .int a0 -/
def Mo_restore (N : Nat) (a0 : Int32) (M : mS) : Option (Int32 × mS) := if (Mo_in a0 0 2 M) = 0 then (some (0, M)) else (grd (mIn a0 3) (if (M.1 109 a0.toNatClampNeg) = 0 then (some (0, M)) else (Mo_restore_22 N N a0 0 M)))
def Mo_idleBits_16 (N : Nat)  (M : mS) : Nat → Int32 → Int32 → Option Int32
  | 0, _, _ => none
  | n + 1, x1, x2 => grd (mIn (M.1 64 18) 2) (if (M.1 78 (M.1 64 18).toNatClampNeg) ≤ x2 then (some x1) else (grd (mIn (8 + x2) 29) (nxt (x1 &&& (((1 : Int32) <<< ((M.1 96 (8 + x2).toNatClampNeg) &&& 31)) ^^^ (-1))) fun v3 => Mo_idleBits_16 N M n v3 (x2 + 1))))
/-- MoonDialsModel.idleBits()I of .ref 64 -/
def Mo_idleBits (N : Nat)  (M : mS) : Option Int32 := grd (mIn (M.1 64 18) 2) (nxt (((1 : Int32) <<< ((M.1 75 (M.1 64 18).toNatClampNeg) &&& 31)) - 1) fun v5 => Mo_idleBits_16 N M N v5 0)
def Mo_manyBits_4 (N : Nat)  (M : mS) : Nat → Int32 → Int32 → Option Int32
  | 0, _, _ => none
  | n + 1, x1, x2 => if 5 ≤ x2 then (some x1) else (grd (mIn x2 5) (bR (Mo_othersBits N x2 M) fun r3 => nxt (x1 ||| ((M.1 97 x2.toNatClampNeg) &&& r3)) fun v4 => Mo_manyBits_4 N M n v4 (x2 + 1)))
/-- MoonDialsModel.manyBits()I of .ref 64 -/
def Mo_manyBits (N : Nat)  (M : mS) : Option Int32 := Mo_manyBits_4 N M N 0 0
/-- MoonDialsModel.anyBits()I of .ref 64 -/
def Mo_anyBits (N : Nat)  (M : mS) : Option Int32 := bR (Mo_othersBits N (-1) M) fun r2 => some r2
def Mo_count_128 (N : Nat)  : Nat → Int32 → Int32 → mS → Option (Int32 × mS)
  | 0, _, _, _ => none
  | n + 1, x2, x3, M => if 28 ≤ x3 then (some (x2, M)) else (grd (mIn x3 29) (nxt (x2 + (M.1 96 x3.toNatClampNeg)) fun v2 => Mo_count_128 N n v2 (x3 + 1) M))
def Mo_count_180 (N : Nat) (k153 : Int32 → Int32 → mS → Option (Int32 × mS)) (x2 : Int32) (x3 : Int32) (M : mS) : Option (Int32 × mS) := k153 x2 (x3 + 1) M
def Mo_count_153 (N : Nat)  : Nat → Int32 → Int32 → mS → Option (Int32 × mS)
  | 0, _, _, _ => none
  | n + 1, x2, x3, M => grd (mIn (M.1 64 18) 2) (if (M.1 78 (M.1 64 18).toNatClampNeg) ≤ x3 then (some (x2, M)) else (bW (Mo_doesCome N x3 M) fun r6 M5 => if r6 = 0 then (Mo_count_180 N (Mo_count_153 N n) x2 x3 M5) else (nxt (x2 ||| ((1 : Int32) <<< (x3 &&& 31))) fun v8 => Mo_count_180 N (Mo_count_153 N n) v8 x3 M5)))
def Mo_count_233 (N : Nat) (k206 : Int32 → Int32 → mS → Option (Int32 × mS)) (x2 : Int32) (x3 : Int32) (M : mS) : Option (Int32 × mS) := k206 x2 (x3 + 1) M
def Mo_count_206 (N : Nat)  : Nat → Int32 → Int32 → mS → Option (Int32 × mS)
  | 0, _, _, _ => none
  | n + 1, x2, x3, M => grd (mIn (M.1 64 18) 2) (if (M.1 75 (M.1 64 18).toNatClampNeg) ≤ x3 then (some (x2, M)) else (bW (Mo_isDim N x3 M) fun r12 M11 => if r12 = 0 then (Mo_count_233 N (Mo_count_206 N n) x2 x3 M11) else (nxt (x2 ||| ((1 : Int32) <<< (x3 &&& 31))) fun v14 => Mo_count_233 N (Mo_count_206 N n) v14 x3 M11)))
def Mo_count_284 (N : Nat) (z0 : Int32) (z1 : Int32) (M : mS) : Option (Int32 × mS) := if (M.1 109 2) = 0 then (some ((z0 + z1) + 0, M)) else (some ((z0 + z1) + 1, M))
def Mo_count_270 (N : Nat) (z0 : Int32) (M : mS) : Option (Int32 × mS) := if (M.1 109 1) = 0 then (Mo_count_284 N z0 0 M) else (Mo_count_284 N z0 1 M)
def Mo_count_331 (N : Nat) (k303 : Int32 → Int32 → mS → Option (Int32 × mS)) (x2 : Int32) (x3 : Int32) (M : mS) : Option (Int32 × mS) := k303 x2 (x3 + 1) M
def Mo_count_303 (N : Nat)  : Nat → Int32 → Int32 → mS → Option (Int32 × mS)
  | 0, _, _, _ => none
  | n + 1, x2, x3, M => grd (mIn (M.1 64 18) 2) (if (M.1 75 (M.1 64 18).toNatClampNeg) ≤ x3 then (some (x2, M)) else (grd (mIn x3 29) (if (M.1 96 x3.toNatClampNeg) = 0 then (nxt (x2 ||| ((1 : Int32) <<< (x3 &&& 31))) fun v17 => Mo_count_331 N (Mo_count_303 N n) v17 x3 M) else (Mo_count_331 N (Mo_count_303 N n) x2 x3 M))))
def Mo_count_365 (N : Nat) (k347 : Int32 → Int32 → mS → Option (Int32 × mS)) (x2 : Int32) (x3 : Int32) (M : mS) : Option (Int32 × mS) := k347 x2 (x3 + 1) M
def Mo_count_347 (N : Nat)  : Nat → Int32 → Int32 → mS → Option (Int32 × mS)
  | 0, _, _, _ => none
  | n + 1, x2, x3, M => if 28 ≤ x3 then (some (x2, M)) else (grd (mIn x3 29) (if (M.1 96 x3.toNatClampNeg) ≤ 0 then (Mo_count_365 N (Mo_count_347 N n) x2 x3 M) else (Mo_count_365 N (Mo_count_347 N n) (x2 + 1) x3 M)))
def Mo_count_411 (N : Nat) (k380 : Int32 → Int32 → mS → Option (Int32 × mS)) (x2 : Int32) (x3 : Int32) (M : mS) : Option (Int32 × mS) := k380 x2 (x3 + 1) M
def Mo_count_380 (N : Nat)  : Nat → Int32 → Int32 → mS → Option (Int32 × mS)
  | 0, _, _, _ => none
  | n + 1, x2, x3, M => grd (mIn (M.1 64 18) 2) (if (M.1 78 (M.1 64 18).toNatClampNeg) ≤ x3 then (some (x2, M)) else (grd (mIn (13 + x3) 29) (if (M.1 96 (13 + x3).toNatClampNeg) = 0 then (nxt (x2 ||| ((1 : Int32) <<< (x3 &&& 31))) fun v21 => Mo_count_411 N (Mo_count_380 N n) v21 x3 M) else (Mo_count_411 N (Mo_count_380 N n) x2 x3 M))))
/-- MoonDialsModel.count(I)I of .ref 64, .int a0 -/
def Mo_count (N : Nat) (a0 : Int32) (M : mS) : Option (Int32 × mS) := bV (Mo_copiesStill N M) fun M23 => bV (Mo_fillsThere N M23) fun M25 => if a0 = 0 then (bR (Mo_hours N M25) fun r27 => some (r27, M25)) else if a0 = 1 then (grd (mIn (M25.1 64 18) 2) (some (M25.1 75 (M25.1 64 18).toNatClampNeg, M25))) else if a0 = 2 then (grd (mIn (M25.1 64 18) 2) (some (M25.1 78 (M25.1 64 18).toNatClampNeg, M25))) else if a0 = 3 then (some (M25.1 96 28, M25)) else if a0 = 4 then (Mo_count_128 N N 0 18 M25) else if a0 = 5 then (Mo_count_153 N N 0 0 M25) else if a0 = 6 then (bR (Mo_hours N M25) fun r31 => bR (Mo_anyBits N M25) fun r33 => some ((((1 : Int32) <<< (r31 &&& 31)) - 1) &&& (r33 ^^^ (-1)), M25)) else if a0 = 7 then (Mo_count_206 N N 0 0 M25) else if a0 = 8 then (some (M25.1 64 2, M25)) else if a0 = 9 then (some (M25.1 64 53, M25)) else if a0 = 10 then (some (M25.1 64 62, M25)) else if a0 = 11 then (if (M25.1 109 0) = 0 then (Mo_count_270 N 0 M25) else (Mo_count_270 N 1 M25)) else if a0 = 12 then (Mo_count_303 N N 0 0 M25) else if a0 = 13 then (bR (Mo_manyBits N M25) fun r35 => some (r35, M25)) else if a0 = 14 then (Mo_count_347 N N 0 18 M25) else if a0 = 15 then (bR (Mo_idleBits N M25) fun r37 => some (r37, M25)) else if a0 = 16 then (Mo_count_380 N N 0 0 M25) else some ((-1), M25)
