/-! METHODS as functions: printed by program -/
def Mo_strangers_62 (N : Nat) (k21 : Int32 → Int32 → Int32 → mS → Option (Int32 × mS)) (x1 : Int32) (x2 : Int32) (x3 : Int32) (M : mS) : Option (Int32 × mS) := k21 x1 x2 (x3 + 1) M
def Mo_strangers_21 (N : Nat)  : Nat → Int32 → Int32 → Int32 → mS → Option (Int32 × mS)
  | 0, _, _, _, _ => none
  | n + 1, x1, x2, x3, M => grd (mIn (M.1 64 18) 2) (if (M.1 78 (M.1 64 18).toNatClampNeg) ≤ x3 then (some (x2, M)) else (if x3 = x1 then (Mo_strangers_62 N (Mo_strangers_21 N n) x1 x2 x3 M) else (bR (Mo_firstMeet N (((1 : Int32) <<< (x1 &&& 31)) ||| ((1 : Int32) <<< (x3 &&& 31))) 400 M) fun r3 => if 0 ≤ r3 then (Mo_strangers_62 N (Mo_strangers_21 N n) x1 x2 x3 M) else (nxt (x2 ||| ((1 : Int32) <<< (x3 &&& 31))) fun v4 => Mo_strangers_62 N (Mo_strangers_21 N n) x1 v4 x3 M))))
/-- MoonDialsModel.strangers(I)I of .ref 64, .int a0 -/
def Mo_strangers (N : Nat) (a0 : Int32) (M : mS) : Option (Int32 × mS) := bR (Mo_isGoer N a0 M) fun r6 => if r6 = 0 then (some ((-1), M)) else (bV (Mo_fillsStill N 400 M) fun M9 => Mo_strangers_21 N N a0 0 0 M9)
def Mo_by_98 (N : Nat) (k37 : Int32 → Int32 → Int32 → Int32 → Int32 → Int32 → Int32 → mS → Option (Int32 × mS)) (x1 : Int32) (x2 : Int32) (x3 : Int32) (x4 : Int32) (x5 : Int32) (x6 : Int32) (x7 : Int32) (M : mS) : Option (Int32 × mS) := k37 x1 x2 x3 x4 x5 x6 (x7 + 1) M
def Mo_by_37 (N : Nat)  : Nat → Int32 → Int32 → Int32 → Int32 → Int32 → Int32 → Int32 → mS → Option (Int32 × mS)
  | 0, _, _, _, _, _, _, _, _ => none
  | n + 1, x1, x2, x3, x4, x5, x6, x7, M => grd (mIn (M.1 64 18) 2) (if (M.1 75 (M.1 64 18).toNatClampNeg) ≤ x7 then (if x4 = 0 then (some (x5, M)) else (some (x6, M))) else (bV (Mo_copiesStill N M) fun M3 => grd (mIn (8 + x1) 29) (nxt (mWI M3 96 (8 + x1).toNatClampNeg x7) fun M5 => bV (Mo_fillsNights N x3 M5) fun M7 => bR (Mo_oftenBy N x1 x2 x3 M7) fun r9 => if x6 < r9 then (Mo_by_98 N (Mo_by_37 N n) x1 x2 x3 x4 x7 r9 x7 M7) else (Mo_by_98 N (Mo_by_37 N n) x1 x2 x3 x4 x5 x6 x7 M7))))
/-- MoonDialsModel.by(IIII)I of .ref 64, .int a0, .int a1, .int a2, .int a3 -/
def Mo_by (N : Nat) (a0 : Int32) (a1 : Int32) (a2 : Int32) (a3 : Int32) (M : mS) : Option (Int32 × mS) := bR (Mo_areTwo N a0 a1 M) fun r11 => if r11 = 0 then (some ((-1), M)) else (if (Mo_isLong a2 M) = 0 then (some ((-1), M)) else (if (Mo_in a3 0 1 M) = 0 then (some ((-1), M)) else (Mo_by_37 N N a0 a1 a2 a3 0 (-1) 0 M)))
def Mo_areAny_50 (N : Nat) (k2 : Int32 → Int32 → Int32 → Option Int32) (k18 : Int32 → Int32 → Int32 → Int32 → Option Int32) (M : mS) (x1 : Int32) (x2 : Int32) (x3 : Int32) (x4 : Int32) : Option Int32 := k18 x1 x2 x3 (x4 + 1)
def Mo_areAny_18 (N : Nat) (k2 : Int32 → Int32 → Int32 → Option Int32) (M : mS) : Nat → Int32 → Int32 → Int32 → Int32 → Option Int32
  | 0, _, _, _, _ => none
  | n + 1, x1, x2, x3, x4 => if x3 ≤ x4 then (k2 x1 x2 (x3 + 1)) else (if ((((1 : Int32) <<< (x3 &&& 31)) ||| ((1 : Int32) <<< (x4 &&& 31))) &&& x1) = 0 then (bR (Mo_oftenBy N x3 x4 x2 M) fun r2 => if r2 ≤ 0 then (Mo_areAny_50 N k2 (Mo_areAny_18 N k2 M n) M x1 x2 x3 x4) else (some 1)) else (Mo_areAny_50 N k2 (Mo_areAny_18 N k2 M n) M x1 x2 x3 x4))
def Mo_areAny_2 (N : Nat)  (M : mS) : Nat → Int32 → Int32 → Int32 → Option Int32
  | 0, _, _, _ => none
  | n + 1, x1, x2, x3 => grd (mIn (M.1 64 18) 2) (if (M.1 78 (M.1 64 18).toNatClampNeg) ≤ x3 then (some 0) else (Mo_areAny_18 N (Mo_areAny_2 N M n) M N x1 x2 x3 0))
/-- MoonDialsModel.areAny(II)Z of .ref 64, .int a0, .int a1 -/
def Mo_areAny (N : Nat) (a0 : Int32) (a1 : Int32) (M : mS) : Option Int32 := Mo_areAny_2 N M N a0 a1 0
def Mo_peace_73 (N : Nat) (k28 : Int32 → Int32 → Int32 → Int32 → mS → Option (Int32 × mS)) (x1 : Int32) (x2 : Int32) (x3 : Int32) (x4 : Int32) (M : mS) : Option (Int32 × mS) := k28 x1 x2 x3 (x4 + 1) M
def Mo_peace_60 (N : Nat) (k28 : Int32 → Int32 → Int32 → Int32 → mS → Option (Int32 × mS)) (x1 : Int32) (x2 : Int32) (x3 : Int32) (x4 : Int32) (M : mS) : Option (Int32 × mS) := bR (Mo_areAny N x4 x1 M) fun r2 => if r2 = 0 then (Mo_peace_73 N k28 x1 x2 x4 x4 M) else (Mo_peace_73 N k28 x1 x2 x3 x4 M)
def Mo_peace_28 (N : Nat)  : Nat → Int32 → Int32 → Int32 → Int32 → mS → Option (Int32 × mS)
  | 0, _, _, _, _, _ => none
  | n + 1, x1, x2, x3, x4, M => grd (mIn (M.1 64 18) 2) (if ((1 : Int32) <<< ((M.1 78 (M.1 64 18).toNatClampNeg) &&& 31)) ≤ x4 then (if x2 = 0 then (bR (Mo_bits N x3 M) fun r6 => some (r6, M)) else (some (x3, M))) else (if x3 < 0 then (Mo_peace_60 N (Mo_peace_28 N n) x1 x2 x3 x4 M) else (bR (Mo_bits N x4 M) fun r8 => bR (Mo_bits N x3 M) fun r10 => if r10 ≤ r8 then (Mo_peace_73 N (Mo_peace_28 N n) x1 x2 x3 x4 M) else (Mo_peace_60 N (Mo_peace_28 N n) x1 x2 x3 x4 M))))
/-- MoonDialsModel.peace(II)I of .ref 64, .int a0, .int a1 -/
def Mo_peace (N : Nat) (a0 : Int32) (a1 : Int32) (M : mS) : Option (Int32 × mS) := if (Mo_isSpan a0 M) = 0 then (some ((-1), M)) else (if (Mo_in a1 0 1 M) = 0 then (some ((-1), M)) else (bV (Mo_fillsStill N a0 M) fun M14 => Mo_peace_28 N N a0 a1 (-1) 0 M14))
def Mo_manyBy_4 (N : Nat)  (M : mS) : Nat → Int32 → Int32 → Int32 → Option Int32
  | 0, _, _, _ => none
  | n + 1, x1, x2, x3 => grd (mIn (M.1 64 18) 2) (if (M.1 78 (M.1 64 18).toNatClampNeg) ≤ x3 then (some x2) else (grd (mIn ((5 * x1) + x3) 2005) (bR (Mo_othersBy N x3 x1 M) fun r4 => nxt (x2 ||| ((M.1 99 ((5 * x1) + x3).toNatClampNeg) &&& r4)) fun v5 => Mo_manyBy_4 N M n x1 v5 (x3 + 1))))
/-- MoonDialsModel.manyBy(I)I of .ref 64, .int a0 -/
def Mo_manyBy (N : Nat) (a0 : Int32) (M : mS) : Option Int32 := Mo_manyBy_4 N M N a0 0 0
def Mo_favourite_91 (N : Nat) (k31 : Int32 → Int32 → Int32 → Int32 → Int32 → mS → Option (Int32 × mS)) (x1 : Int32) (x2 : Int32) (x3 : Int32) (x4 : Int32) (x5 : Int32) (M : mS) : Option (Int32 × mS) := k31 x1 x2 x3 x4 (x5 + 1) M
def Mo_favourite_46 (N : Nat) (k31 : Int32 → Int32 → Int32 → Int32 → Int32 → mS → Option (Int32 × mS)) : Nat → Int32 → Int32 → Int32 → Int32 → Int32 → Int32 → Int32 → mS → Option (Int32 × mS)
  | 0, _, _, _, _, _, _, _, _ => none
  | n + 1, x1, x2, x3, x4, x5, x6, x7, M => if x1 ≤ x7 then (if x4 < x6 then (Mo_favourite_91 N k31 x1 x2 x5 x6 x5 M) else (Mo_favourite_91 N k31 x1 x2 x3 x4 x5 M)) else (bR (Mo_manyBy N x7 M) fun r2 => nxt (x6 + ((r2 >>> (x5 &&& 31)) &&& 1)) fun v3 => Mo_favourite_46 N k31 n x1 x2 x3 x4 x5 v3 (x7 + 1) M)
def Mo_favourite_31 (N : Nat)  : Nat → Int32 → Int32 → Int32 → Int32 → Int32 → mS → Option (Int32 × mS)
  | 0, _, _, _, _, _, _ => none
  | n + 1, x1, x2, x3, x4, x5, M => bR (Mo_hours N M) fun r5 => if r5 ≤ x5 then (if x2 = 0 then (some (x3, M)) else (some (x4, M))) else (Mo_favourite_46 N (Mo_favourite_31 N n) N x1 x2 x3 x4 x5 0 0 M)
/-- MoonDialsModel.favourite(II)I of .ref 64, .int a0, .int a1 -/
def Mo_favourite (N : Nat) (a0 : Int32) (a1 : Int32) (M : mS) : Option (Int32 × mS) := if (Mo_isSpan a0 M) = 0 then (some ((-1), M)) else (if (Mo_in a1 0 1 M) = 0 then (some ((-1), M)) else (bV (Mo_fillsStill N a0 M) fun M9 => Mo_favourite_31 N N a0 a1 0 (-1) 0 M9))
def Mo_longest_74 (N : Nat) (k29 : Int32 → Int32 → Int32 → Int32 → Int32 → mS → Option (Int32 × mS)) (x1 : Int32) (x2 : Int32) (x3 : Int32) (x4 : Int32) (x5 : Int32) (M : mS) : Option (Int32 × mS) := k29 x1 x2 x3 x4 (x5 + 1) M
def Mo_longest_29 (N : Nat)  : Nat → Int32 → Int32 → Int32 → Int32 → Int32 → mS → Option (Int32 × mS)
  | 0, _, _, _, _, _, _ => none
  | n + 1, x1, x2, x3, x4, x5, M => if x3 ≤ x5 then (some (x4, M)) else (grd (mIn ((5 * x5) + x1) 2005) (grd (mIn ((5 * x5) + x2) 2005) (bR (Mo_bits N ((M.1 99 ((5 * x5) + x1).toNatClampNeg) &&& (M.1 99 ((5 * x5) + x2).toNatClampNeg)) M) fun r4 => if r4 ≤ x4 then (Mo_longest_74 N (Mo_longest_29 N n) x1 x2 x3 x4 x5 M) else (Mo_longest_74 N (Mo_longest_29 N n) x1 x2 x3 r4 x5 M))))
/-- MoonDialsModel.longest(III)I of .ref 64, .int a0, .int a1, .int a2 -/
def Mo_longest (N : Nat) (a0 : Int32) (a1 : Int32) (a2 : Int32) (M : mS) : Option (Int32 × mS) := bR (Mo_areTwo N a0 a1 M) fun r6 => if r6 = 0 then (some ((-1), M)) else (if (Mo_isLong a2 M) = 0 then (some ((-1), M)) else (bV (Mo_fillsStill N a2 M) fun M10 => Mo_longest_29 N N a0 a1 a2 0 0 M10))
/-- MoonDialsModel.couplesWith(III)I of .ref 64, .int a0, .int a1, .int a2 -/
def Mo_couplesWith (N : Nat) (a0 : Int32) (a1 : Int32) (a2 : Int32) (M : mS) : Option Int32 := bR (Mo_oftenBy N a0 a1 (M.1 64 58) M) fun r2 => grd (mIn ((a2 &&& (((1 : Int32) <<< (a0 &&& 31)) ^^^ (-1))) &&& (((1 : Int32) <<< (a1 &&& 31)) ^^^ (-1))) 32) (some (r2 + (M.1 101 ((a2 &&& (((1 : Int32) <<< (a0 &&& 31)) ^^^ (-1))) &&& (((1 : Int32) <<< (a1 &&& 31)) ^^^ (-1))).toNatClampNeg)))
def Mo_fillsCouples_109 (N : Nat) (k19 : Int32 → mS → Option mS) (k62 : Int32 → Int32 → Int32 → mS → Option mS) (x2 : Int32) (x3 : Int32) (x4 : Int32) (M : mS) : Option mS := k62 x2 x3 (x4 + 1) M
def Mo_fillsCouples_62 (N : Nat) (k19 : Int32 → mS → Option mS) : Nat → Int32 → Int32 → Int32 → mS → Option mS
  | 0, _, _, _, _ => none
  | n + 1, x2, x3, x4, M => if 5 ≤ x4 then (k19 (x2 + 1) M) else (if ((x2 >>> (x4 &&& 31)) &&& 1) = 1 then (bR (Mo_couplesWith N x3 x4 x2 M) fun r2 => grd (mIn x2 32) (if r2 ≤ (M.1 101 x2.toNatClampNeg) then (Mo_fillsCouples_109 N k19 (Mo_fillsCouples_62 N k19 n) x2 x3 x4 M) else (bR (Mo_couplesWith N x3 x4 x2 M) fun r5 => grd (mIn x2 32) (nxt (mWI M 101 x2.toNatClampNeg r5) fun M7 => Mo_fillsCouples_109 N k19 (Mo_fillsCouples_62 N k19 n) x2 x3 x4 M7)))) else (Mo_fillsCouples_109 N k19 (Mo_fillsCouples_62 N k19 n) x2 x3 x4 M))
def Mo_fillsCouples_19 (N : Nat)  : Nat → Int32 → mS → Option mS
  | 0, _, _ => none
  | n + 1, x2, M => grd (mIn (M.1 64 18) 2) (if ((1 : Int32) <<< ((M.1 78 (M.1 64 18).toNatClampNeg) &&& 31)) ≤ x2 then (some M) else (bR (Mo_lowestOf N x2 M) fun r10 => grd (mIn (x2 &&& (((1 : Int32) <<< (r10 &&& 31)) ^^^ (-1))) 32) (grd (mIn x2 32) (nxt (mWI M 101 x2.toNatClampNeg (M.1 101 (x2 &&& (((1 : Int32) <<< (r10 &&& 31)) ^^^ (-1))).toNatClampNeg)) fun M13 => nxt (r10 + 1) fun v14 => Mo_fillsCouples_62 N (Mo_fillsCouples_19 N n) N x2 r10 v14 M13))))
/-- MoonDialsModel.fillsCouples(I)V of .ref 64, .int a0 -/
def Mo_fillsCouples (N : Nat) (a0 : Int32) (M : mS) : Option mS := bV (Mo_fillsStill N a0 M) fun M16 => nxt (mWI M16 64 58 a0) fun M17 => nxt (mWI M17 101 0 0) fun M18 => Mo_fillsCouples_19 N N 1 M18
def Mo_coupleOf_57 (N : Nat) (k33 : Int32 → Int32 → Int32 → Option Int32) (M : mS) (x1 : Int32) (x2 : Int32) (x3 : Int32) : Option Int32 := k33 x1 x2 (x3 + 1)
def Mo_coupleOf_33 (N : Nat)  (M : mS) : Nat → Int32 → Int32 → Int32 → Option Int32
  | 0, _, _, _ => none
  | n + 1, x1, x2, x3 => if ((x1 >>> (x3 &&& 31)) &&& 1) = 0 then (Mo_coupleOf_57 N (Mo_coupleOf_33 N M n) M x1 x2 x3) else (bR (Mo_couplesWith N x2 x3 x1 M) fun r2 => grd (mIn x1 32) (if r2 = (M.1 101 x1.toNatClampNeg) then (some x3) else (Mo_coupleOf_57 N (Mo_coupleOf_33 N M n) M x1 x2 x3)))
/-- MoonDialsModel.coupleOf(I)I of .ref 64, .int a0 -/
def Mo_coupleOf (N : Nat) (a0 : Int32) (M : mS) : Option Int32 := bR (Mo_lowestOf N a0 M) fun r5 => grd (mIn (a0 &&& (((1 : Int32) <<< (r5 &&& 31)) ^^^ (-1))) 32) (grd (mIn a0 32) (if (M.1 101 (a0 &&& (((1 : Int32) <<< (r5 &&& 31)) ^^^ (-1))).toNatClampNeg) = (M.1 101 a0.toNatClampNeg) then (some (-2)) else (nxt (r5 + 1) fun v8 => Mo_coupleOf_33 N M N a0 r5 v8)))
def Mo_couples_107 (N : Nat) (k53 : Int32 → Int32 → mS → Option (Int32 × mS)) (x2 : Int32) (x3 : Int32) (M : mS) : Option (Int32 × mS) := k53 x2 x3 M
def Mo_couples_53 (N : Nat)  : Nat → Int32 → Int32 → mS → Option (Int32 × mS)
  | 0, _, _, _ => none
  | n + 1, x2, x3, M => bR (Mo_lowestOf N x3 M) fun r2 => bR (Mo_coupleOf N x3 M) fun r4 => if r2 = x2 then (some (r4, M)) else (if r4 = x2 then (some (r2, M)) else (nxt (x3 &&& (((1 : Int32) <<< (r2 &&& 31)) ^^^ (-1))) fun v5 => if r4 < 0 then (Mo_couples_107 N (Mo_couples_53 N n) x2 v5 M) else (nxt (v5 &&& (((1 : Int32) <<< (r4 &&& 31)) ^^^ (-1))) fun v6 => Mo_couples_107 N (Mo_couples_53 N n) x2 v6 M)))
def Mo_couples_22 (N : Nat) (x1 : Int32) (x2 : Int32) (M : mS) : Option (Int32 × mS) := bV (Mo_fillsCouples N x1 M) fun M8 => grd (mIn (M8.1 64 18) 2) (nxt (((1 : Int32) <<< ((M8.1 78 (M8.1 64 18).toNatClampNeg) &&& 31)) - 1) fun v10 => if x2 = (-1) then (grd (mIn v10 32) (some (M8.1 101 v10.toNatClampNeg, M8))) else (Mo_couples_53 N N x2 v10 M8))
/-- MoonDialsModel.couples(II)I of .ref 64, .int a0, .int a1 -/
def Mo_couples (N : Nat) (a0 : Int32) (a1 : Int32) (M : mS) : Option (Int32 × mS) := if (Mo_isSpan a0 M) = 0 then (some ((-1), M)) else (if a1 = (-1) then (Mo_couples_22 N a0 a1 M) else (bR (Mo_isGoer N a1 M) fun r14 => if r14 = 0 then (some ((-1), M)) else (Mo_couples_22 N a0 a1 M)))
def Mo_fullest_64 (N : Nat) (k26 : Int32 → Int32 → Int32 → Int32 → mS → Option (Int32 × mS)) (x1 : Int32) (x2 : Int32) (x3 : Int32) (x4 : Int32) (M : mS) : Option (Int32 × mS) := k26 x1 x2 x3 (x4 + 1) M
def Mo_fullest_26 (N : Nat)  : Nat → Int32 → Int32 → Int32 → Int32 → mS → Option (Int32 × mS)
  | 0, _, _, _, _, _ => none
  | n + 1, x1, x2, x3, x4, M => bR (Mo_hours N M) fun r2 => if r2 ≤ x4 then (if x1 = 0 then (some (x2, M)) else (some (x3, M))) else (bR (Mo_thereAt N x4 M) fun r4 => bR (Mo_bits N r4 M) fun r6 => if x3 < r6 then (bR (Mo_thereAt N x4 M) fun r8 => bR (Mo_bits N r8 M) fun r10 => Mo_fullest_64 N (Mo_fullest_26 N n) x1 x4 r10 x4 M) else (Mo_fullest_64 N (Mo_fullest_26 N n) x1 x2 x3 x4 M))
/-- MoonDialsModel.fullest(I)I of .ref 64, .int a0 -/
def Mo_fullest (N : Nat) (a0 : Int32) (M : mS) : Option (Int32 × mS) := if (Mo_in a0 0 1 M) = 0 then (some ((-1), M)) else (bV (Mo_copiesStill N M) fun M13 => bV (Mo_fillsThere N M13) fun M15 => Mo_fullest_26 N N a0 0 (-1) 0 M15)
def Mo_loads_2 (N : Nat)  : Nat → Int32 → Int32 → mS → Option mS
  | 0, _, _, _ => none
  | n + 1, x1, x2, M => if 29 ≤ x2 then (some M) else (grd (mIn ((29 * x1) + x2) 10556) (grd (mIn x2 29) (nxt (mWI M 96 x2.toNatClampNeg (M.1 103 ((29 * x1) + x2).toNatClampNeg)) fun M3 => Mo_loads_2 N n x1 (x2 + 1) M3)))
/-- MoonDialsModel.loads(I)V of .ref 64, .int a0 -/
def Mo_loads (N : Nat) (a0 : Int32) (M : mS) : Option mS := Mo_loads_2 N N a0 0 M
/-- MoonDialsModel.plays(III)I of .ref 64, .int a0, .int a1, .int a2 -/
def Mo_plays (N : Nat) (a0 : Int32) (a1 : Int32) (a2 : Int32) (M : mS) : Option (Int32 × mS) := bV (Mo_loads N a0 M) fun M2 => grd (mIn a1 29) (bR (Mo_hours N M2) fun r5 => nz r5 (grd (mIn a1 29) (nxt (mWI M2 96 a1.toNatClampNeg (((M2.1 96 a1.toNatClampNeg) + a2) - ((M2.1 96 a1.toNatClampNeg) + a2) / r5 * r5)) fun M8 => nxt (M8.1 96 18) fun v9 => bV (Mo_nightGoes N M8) fun M11 => some ((M11.1 96 18) - v9, M11))))
/-- MoonDialsModel.childOf(III)I of .ref 64, .int a0, .int a1, .int a2 -/
def Mo_childOf (N : Nat) (a0 : Int32) (a1 : Int32) (a2 : Int32) (M : mS) : Option Int32 := grd (mIn (a1 + 1) 7) (grd (mIn a1 7) (some (((M.1 102 (a1 + 1).toNatClampNeg) + (3 * (a0 - (M.1 102 a1.toNatClampNeg)))) + a2)))
