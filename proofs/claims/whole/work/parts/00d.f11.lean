/-! METHODS as functions: printed by program -/
/-- MoonDialsModel.isGroup(I)Z of .ref 64, .int a0 -/
def Mo_isGroup (N : Nat) (a0 : Int32) (M : mS) : Option Int32 := if a0 < 0 then (some 0) else (grd (mIn (M.1 64 18) 2) (if ((1 : Int32) <<< ((M.1 78 (M.1 64 18).toNatClampNeg) &&& 31)) ≤ a0 then (some 0) else (bR (Mo_bits N a0 M) fun r3 => if r3 ≤ 1 then (some 0) else (some 1))))
def Mo_fillsNights_13 (N : Nat) (k2 : Int32 → Int32 → mS → Option mS) : Nat → Int32 → Int32 → Int32 → mS → Option mS
  | 0, _, _, _, _ => none
  | n + 1, x1, x2, x3, M => grd (mIn (M.1 64 18) 2) (if (M.1 78 (M.1 64 18).toNatClampNeg) ≤ x3 then (bV (Mo_nightGoes N M) fun M3 => k2 x1 (x2 + 1) M3) else (grd (mIn x3 5) (grd (mIn ((5 * x2) + x3) 2005) (nxt (mWI M 99 ((5 * x2) + x3).toNatClampNeg (M.1 97 x3.toNatClampNeg)) fun M6 => bW (Mo_worthOf N x3 M6) fun r9 M8 => grd (mIn ((5 * x2) + x3) 2005) (nxt (mWI M8 100 ((5 * x2) + x3).toNatClampNeg r9) fun M11 => Mo_fillsNights_13 N k2 n x1 x2 (x3 + 1) M11)))))
def Mo_fillsNights_2 (N : Nat)  : Nat → Int32 → Int32 → mS → Option mS
  | 0, _, _, _ => none
  | n + 1, x1, x2, M => if x1 < x2 then (some M) else (bV (Mo_fillsThere N M) fun M13 => Mo_fillsNights_13 N (Mo_fillsNights_2 N n) N x1 x2 0 M13)
/-- MoonDialsModel.fillsNights(I)V of .ref 64, .int a0 -/
def Mo_fillsNights (N : Nat) (a0 : Int32) (M : mS) : Option mS := Mo_fillsNights_2 N N a0 0 M
/-- MoonDialsModel.fillsStill(I)V of .ref 64, .int a0 -/
def Mo_fillsStill (N : Nat) (a0 : Int32) (M : mS) : Option mS := bV (Mo_copiesStill N M) fun M2 => bV (Mo_fillsNights N a0 M2) fun M4 => some M4
def Mo_allBits_50 (N : Nat) (k12 : Int32 → Int32 → Int32 → Int32 → Option Int32) (M : mS) (x1 : Int32) (x2 : Int32) (x3 : Int32) (x4 : Int32) : Option Int32 := k12 x1 x2 x3 (x4 + 1)
def Mo_allBits_12 (N : Nat)  (M : mS) : Nat → Int32 → Int32 → Int32 → Int32 → Option Int32
  | 0, _, _, _, _ => none
  | n + 1, x1, x2, x3, x4 => grd (mIn (M.1 64 18) 2) (if (M.1 78 (M.1 64 18).toNatClampNeg) ≤ x4 then (some x3) else (if ((x1 >>> (x4 &&& 31)) &&& 1) = 1 then (grd (mIn ((5 * x2) + x4) 2005) (nxt (x3 &&& (M.1 99 ((5 * x2) + x4).toNatClampNeg)) fun v3 => Mo_allBits_50 N (Mo_allBits_12 N M n) M x1 x2 v3 x4)) else (Mo_allBits_50 N (Mo_allBits_12 N M n) M x1 x2 x3 x4)))
/-- MoonDialsModel.allBits(II)I of .ref 64, .int a0, .int a1 -/
def Mo_allBits (N : Nat) (a0 : Int32) (a1 : Int32) (M : mS) : Option Int32 := bR (Mo_hours N M) fun r5 => nxt (((1 : Int32) <<< (r5 &&& 31)) - 1) fun v6 => Mo_allBits_12 N M N a0 a1 v6 0
def Mo_firstMeet_2 (N : Nat)  (M : mS) : Nat → Int32 → Int32 → Int32 → Option Int32
  | 0, _, _, _ => none
  | n + 1, x1, x2, x3 => if x2 < x3 then (some (-2)) else (bR (Mo_allBits N x1 x3 M) fun r2 => if r2 = 0 then (Mo_firstMeet_2 N M n x1 x2 (x3 + 1)) else (some x3))
/-- MoonDialsModel.firstMeet(II)I of .ref 64, .int a0, .int a1 -/
def Mo_firstMeet (N : Nat) (a0 : Int32) (a1 : Int32) (M : mS) : Option Int32 := Mo_firstMeet_2 N M N a0 a1 0
def Mo_lowestOf_2 (N : Nat)  (M : mS) : Nat → Int32 → Int32 → Option Int32
  | 0, _, _ => none
  | n + 1, x0, x1 => if ((x0 >>> (x1 &&& 31)) &&& 1) = 0 then (Mo_lowestOf_2 N M n x0 (x1 + 1)) else (some x1)
/-- MoonDialsModel.lowestOf(I)I of .int a0 -/
def Mo_lowestOf (N : Nat) (a0 : Int32) (M : mS) : Option Int32 := Mo_lowestOf_2 N M N a0 0
/-- MoonDialsModel.meet(II)I of .ref 64, .int a0, .int a1 -/
def Mo_meet (N : Nat) (a0 : Int32) (a1 : Int32) (M : mS) : Option (Int32 × mS) := bR (Mo_isGroup N a0 M) fun r2 => if r2 = 0 then (some ((-1), M)) else (if (Mo_in a1 0 2 M) = 0 then (some ((-1), M)) else (bV (Mo_fillsStill N 400 M) fun M6 => bR (Mo_firstMeet N a0 400 M6) fun r8 => if r8 < 0 then (some (r8, M6)) else (if a1 = 0 then (some (r8, M6)) else (if a1 = 1 then (bR (Mo_allBits N a0 r8 M6) fun r10 => bR (Mo_lowestOf N r10 M6) fun r12 => some (r12, M6)) else (bR (Mo_allBits N a0 r8 M6) fun r14 => bR (Mo_bits N r14 M6) fun r16 => some (r16, M6))))))
def Mo_oftenBy_6 (N : Nat)  (M : mS) : Nat → Int32 → Int32 → Int32 → Int32 → Int32 → Option Int32
  | 0, _, _, _, _, _ => none
  | n + 1, x1, x2, x3, x4, x5 => if x3 ≤ x5 then (some x4) else (grd (mIn ((5 * x5) + x1) 2005) (grd (mIn ((5 * x5) + x2) 2005) (bR (Mo_bits N ((M.1 99 ((5 * x5) + x1).toNatClampNeg) &&& (M.1 99 ((5 * x5) + x2).toNatClampNeg)) M) fun r4 => nxt (x4 + r4) fun v5 => Mo_oftenBy_6 N M n x1 x2 x3 v5 (x5 + 1))))
/-- MoonDialsModel.oftenBy(III)I of .ref 64, .int a0, .int a1, .int a2 -/
def Mo_oftenBy (N : Nat) (a0 : Int32) (a1 : Int32) (a2 : Int32) (M : mS) : Option Int32 := Mo_oftenBy_6 N M N a0 a1 a2 0 0
/-- MoonDialsModel.often(III)I of .ref 64, .int a0, .int a1, .int a2 -/
def Mo_often (N : Nat) (a0 : Int32) (a1 : Int32) (a2 : Int32) (M : mS) : Option (Int32 × mS) := bR (Mo_areTwo N a0 a1 M) fun r2 => if r2 = 0 then (some ((-1), M)) else (if (Mo_isLong a2 M) = 0 then (some ((-1), M)) else (bV (Mo_fillsStill N a2 M) fun M6 => bR (Mo_oftenBy N a0 a1 a2 M6) fun r8 => some (r8, M6)))
def Mo_othersBy_39 (N : Nat) (k5 : Int32 → Int32 → Int32 → Int32 → Option Int32) (M : mS) (x1 : Int32) (x2 : Int32) (x3 : Int32) (x4 : Int32) : Option Int32 := k5 x1 x2 x3 (x4 + 1)
def Mo_othersBy_5 (N : Nat)  (M : mS) : Nat → Int32 → Int32 → Int32 → Int32 → Option Int32
  | 0, _, _, _, _ => none
  | n + 1, x1, x2, x3, x4 => grd (mIn (M.1 64 18) 2) (if (M.1 78 (M.1 64 18).toNatClampNeg) ≤ x4 then (some x3) else (if x4 = x1 then (Mo_othersBy_39 N (Mo_othersBy_5 N M n) M x1 x2 x3 x4) else (grd (mIn ((5 * x2) + x4) 2005) (nxt (x3 ||| (M.1 99 ((5 * x2) + x4).toNatClampNeg)) fun v3 => Mo_othersBy_39 N (Mo_othersBy_5 N M n) M x1 x2 v3 x4))))
/-- MoonDialsModel.othersBy(II)I of .ref 64, .int a0, .int a1 -/
def Mo_othersBy (N : Nat) (a0 : Int32) (a1 : Int32) (M : mS) : Option Int32 := Mo_othersBy_5 N M N a0 a1 0 0
def Mo_alone_27 (N : Nat)  : Nat → Int32 → Int32 → Int32 → Int32 → mS → Option (Int32 × mS)
  | 0, _, _, _, _, _ => none
  | n + 1, x1, x2, x3, x4, M => if x2 ≤ x4 then (some (x3, M)) else (grd (mIn ((5 * x4) + x1) 2005) (bR (Mo_othersBy N x1 x4 M) fun r3 => bR (Mo_bits N ((M.1 99 ((5 * x4) + x1).toNatClampNeg) &&& (r3 ^^^ (-1))) M) fun r5 => nxt (x3 + r5) fun v6 => Mo_alone_27 N n x1 x2 v6 (x4 + 1) M))
/-- MoonDialsModel.alone(II)I of .ref 64, .int a0, .int a1 -/
def Mo_alone (N : Nat) (a0 : Int32) (a1 : Int32) (M : mS) : Option (Int32 × mS) := bR (Mo_isGoer N a0 M) fun r8 => if r8 = 0 then (some ((-1), M)) else (if (Mo_isLong a1 M) = 0 then (some ((-1), M)) else (bV (Mo_fillsStill N a1 M) fun M12 => Mo_alone_27 N N a0 a1 0 0 M12))
def Mo_earns_27 (N : Nat)  : Nat → Int32 → Int32 → Int32 → Int32 → mS → Option (Int32 × mS)
  | 0, _, _, _, _, _ => none
  | n + 1, x1, x2, x3, x4, M => if x2 ≤ x4 then (some (x3, M)) else (grd (mIn ((5 * x4) + x1) 2005) (grd (mIn ((5 * x4) + x1) 2005) (bR (Mo_othersBy N x1 x4 M) fun r4 => bR (Mo_bits N ((M.1 99 ((5 * x4) + x1).toNatClampNeg) &&& r4) M) fun r6 => nxt (x3 + ((M.1 100 ((5 * x4) + x1).toNatClampNeg) * r6)) fun v7 => Mo_earns_27 N n x1 x2 v7 (x4 + 1) M)))
/-- MoonDialsModel.earns(II)I of .ref 64, .int a0, .int a1 -/
def Mo_earns (N : Nat) (a0 : Int32) (a1 : Int32) (M : mS) : Option (Int32 × mS) := bR (Mo_isGoer N a0 M) fun r9 => if r9 = 0 then (some ((-1), M)) else (if (Mo_isLong a1 M) = 0 then (some ((-1), M)) else (bV (Mo_fillsStill N a1 M) fun M13 => Mo_earns_27 N N a0 a1 0 0 M13))
def Mo_right_12 (N : Nat)  (M : mS) : Nat → Int32 → Int32 → Option Int32
  | 0, _, _ => none
  | n + 1, x1, x2 => bR (Mo_hours N M) fun r2 => if r2 ≤ x2 then (some (-2)) else (grd (mIn x1 29) (grd (mIn (4 + x1) 29) (bR (Mo_hours N M) fun r6 => nz r6 (if (((M.1 95 x1.toNatClampNeg) + (x2 * (M.1 95 (4 + x1).toNatClampNeg))) - ((M.1 95 x1.toNatClampNeg) + (x2 * (M.1 95 (4 + x1).toNatClampNeg))) / r6 * r6) = 0 then (some x2) else (Mo_right_12 N M n x1 (x2 + 1))))))
/-- MoonDialsModel.right(I)I of .ref 64, .int a0 -/
def Mo_right (N : Nat) (a0 : Int32) (M : mS) : Option Int32 := bR (Mo_isDial N a0 M) fun r9 => if r9 = 0 then (some (-1)) else (Mo_right_12 N M N a0 0)
def Mo_agree_20 (N : Nat)  (M : mS) : Nat → Int32 → Int32 → Int32 → Option Int32
  | 0, _, _, _ => none
  | n + 1, x1, x2, x3 => bR (Mo_hours N M) fun r2 => if r2 ≤ x3 then (some (-2)) else (grd (mIn x1 29) (grd (mIn (4 + x1) 29) (bR (Mo_hours N M) fun r6 => nz r6 (grd (mIn x2 29) (grd (mIn (4 + x2) 29) (bR (Mo_hours N M) fun r11 => nz r11 (if (((M.1 95 x1.toNatClampNeg) + (x3 * (M.1 95 (4 + x1).toNatClampNeg))) - ((M.1 95 x1.toNatClampNeg) + (x3 * (M.1 95 (4 + x1).toNatClampNeg))) / r6 * r6) = (((M.1 95 x2.toNatClampNeg) + (x3 * (M.1 95 (4 + x2).toNatClampNeg))) - ((M.1 95 x2.toNatClampNeg) + (x3 * (M.1 95 (4 + x2).toNatClampNeg))) / r11 * r11) then (some x3) else (Mo_agree_20 N M n x1 x2 (x3 + 1)))))))))
/-- MoonDialsModel.agree(II)I of .ref 64, .int a0, .int a1 -/
def Mo_agree (N : Nat) (a0 : Int32) (a1 : Int32) (M : mS) : Option Int32 := bR (Mo_isDial N a0 M) fun r14 => if r14 = 0 then (some (-1)) else (bR (Mo_isDial N a1 M) fun r17 => if r17 = 0 then (some (-1)) else (Mo_agree_20 N M N a0 a1 0))
def Mo_round_59 (N : Nat) (k4 : Int32 → Int32 → Option Int32) (M : mS) (x1 : Int32) (z0 : Int32) : Option Int32 := k4 x1 z0
def Mo_round_48 (N : Nat) (k4 : Int32 → Int32 → Option Int32) (M : mS) (x1 : Int32) (x2 : Int32) (x3 : Int32) : Option Int32 := if x3 = 0 then (Mo_round_59 N k4 M x1 0) else (Mo_round_59 N k4 M x1 (x2 + 1))
def Mo_round_40 (N : Nat) (k4 : Int32 → Int32 → Option Int32) (M : mS) (x1 : Int32) (x2 : Int32) (z0 : Int32) : Option Int32 := if z0 = 0 then (Mo_round_48 N k4 M (x1 + 1) x2 z0) else (Mo_round_48 N k4 M x1 x2 z0)
def Mo_round_4 (N : Nat)  (M : mS) : Nat → Int32 → Int32 → Option Int32
  | 0, _, _ => none
  | n + 1, x1, x2 => grd (mIn (M.1 64 18) 2) (if (M.1 75 (M.1 64 18).toNatClampNeg) ≤ x2 then (some x1) else (grd (mIn (4 + x2) 29) (bR (Mo_hours N M) fun r4 => nz r4 (if ((x1 * (M.1 95 (4 + x2).toNatClampNeg)) - (x1 * (M.1 95 (4 + x2).toNatClampNeg)) / r4 * r4) = 0 then (Mo_round_40 N (Mo_round_4 N M n) M x1 x2 1) else (Mo_round_40 N (Mo_round_4 N M n) M x1 x2 0)))))
/-- MoonDialsModel.round()I of .ref 64 -/
def Mo_round (N : Nat)  (M : mS) : Option Int32 := Mo_round_4 N M N 1 0
/-- MoonDialsModel.isSpan(I)Z of .int a0 -/
def Mo_isSpan (a0 : Int32) (M : mS) : Int32 := Mo_in a0 0 60 M
/-- MoonDialsModel.isAsked(III)Z of .ref 64, .int a0, .int a1, .int a2 -/
def Mo_isAsked (N : Nat) (a0 : Int32) (a1 : Int32) (a2 : Int32) (M : mS) : Option Int32 := bR (Mo_isDial N a0 M) fun r2 => if r2 = 0 then (some 0) else (bR (Mo_isGroup N a1 M) fun r5 => if r5 = 0 then (some 0) else (if (Mo_isSpan a2 M) = 0 then (some 0) else (some 1)))
def Mo_isSo_52 (N : Nat) (x4 : Int32) (x5 : Int32) (M : mS) : Option (Int32 × mS) := if x4 = 0 then (some (1, M)) else (bR (Mo_firstMeet N x4 x5 M) fun r2 => if 0 ≤ r2 then (some (0, M)) else (some (1, M)))
def Mo_isSo_31 (N : Nat) (x3 : Int32) (x4 : Int32) (x5 : Int32) (z1 : Int32) (z2 : Int32) (M : mS) : Option (Int32 × mS) := grd (mIn z1 29) (nxt (mWI M 96 z1.toNatClampNeg z2) fun M4 => bV (Mo_fillsNights N x5 M4) fun M6 => if x3 = 0 then (Mo_isSo_52 N x4 x5 M6) else (bR (Mo_firstMeet N x3 x5 M6) fun r8 => if r8 < 0 then (some (0, M6)) else (Mo_isSo_52 N x4 x5 M6)))
/-- MoonDialsModel.isSo(IIIII)Z of .ref 64, .int a0, .int a1, .int a2, .int a3, .int a4 -/
def Mo_isSo (N : Nat) (a0 : Int32) (a1 : Int32) (a2 : Int32) (a3 : Int32) (a4 : Int32) (M : mS) : Option (Int32 × mS) := bV (Mo_copiesStill N M) fun M10 => if 4 ≤ a0 then (Mo_isSo_31 N a2 a3 a4 a0 a1 M10) else (grd (mIn a0 29) (bR (Mo_hours N M10) fun r13 => nz r13 (Mo_isSo_31 N a2 a3 a4 a0 (((M10.1 96 a0.toNatClampNeg) + a1) - ((M10.1 96 a0.toNatClampNeg) + a1) / r13 * r13) M10)))
def Mo_leastFor_3 (N : Nat)  : Nat → Int32 → Int32 → Int32 → Int32 → Int32 → mS → Option (Int32 × mS)
  | 0, _, _, _, _, _, _ => none
  | n + 1, x1, x2, x3, x4, x5, M => bR (Mo_hours N M) fun r2 => if r2 ≤ x5 then (some ((-2), M)) else (bW (Mo_isSo N x1 x5 x2 x3 x4 M) fun r5 M4 => if r5 = 0 then (Mo_leastFor_3 N n x1 x2 x3 x4 (x5 + 1) M4) else (some (x5, M4)))
/-- MoonDialsModel.leastFor(IIII)I of .ref 64, .int a0, .int a1, .int a2, .int a3 -/
def Mo_leastFor (N : Nat) (a0 : Int32) (a1 : Int32) (a2 : Int32) (a3 : Int32) (M : mS) : Option (Int32 × mS) := Mo_leastFor_3 N N a0 a1 a2 a3 0 M
/-- MoonDialsModel.turns(III)I of .ref 64, .int a0, .int a1, .int a2 -/
def Mo_turns (N : Nat) (a0 : Int32) (a1 : Int32) (a2 : Int32) (M : mS) : Option (Int32 × mS) := bR (Mo_isAsked N a0 a1 a2 M) fun r2 => if r2 = 0 then (some ((-1), M)) else (bW (Mo_leastFor N a0 a1 0 a2 M) fun r6 M5 => some (r6, M5))
/-- MoonDialsModel.parts(III)I of .ref 64, .int a0, .int a1, .int a2 -/
def Mo_parts (N : Nat) (a0 : Int32) (a1 : Int32) (a2 : Int32) (M : mS) : Option (Int32 × mS) := bR (Mo_isAsked N a0 a1 a2 M) fun r2 => if r2 = 0 then (some ((-1), M)) else (bW (Mo_leastFor N a0 0 a1 a2 M) fun r6 M5 => some (r6, M5))
/-- MoonDialsModel.knot(IIII)I of .ref 64, .int a0, .int a1, .int a2, .int a3 -/
def Mo_knot (N : Nat) (a0 : Int32) (a1 : Int32) (a2 : Int32) (a3 : Int32) (M : mS) : Option (Int32 × mS) := bR (Mo_isAsked N a0 a1 a3 M) fun r2 => if r2 = 0 then (some ((-1), M)) else (bR (Mo_isGroup N a2 M) fun r5 => if r5 = 0 then (some ((-1), M)) else (bW (Mo_leastFor N a0 a1 a2 a3 M) fun r9 M8 => some (r9, M8)))
/-- MoonDialsModel.mend(III)I of .ref 64, .int a0, .int a1, .int a2 -/
def Mo_mend (N : Nat) (a0 : Int32) (a1 : Int32) (a2 : Int32) (M : mS) : Option (Int32 × mS) := bR (Mo_isAsked N a0 a1 a2 M) fun r2 => if r2 = 0 then (some ((-1), M)) else (bW (Mo_leastFor N (4 + a0) a1 0 a2 M) fun r6 M5 => some (r6, M5))
def Mo_sooner_109 (N : Nat) (k27 : Int32 → Int32 → Int32 → Int32 → mS → Option (Int32 × mS)) (k47 : Int32 → Int32 → Int32 → Int32 → Int32 → mS → Option (Int32 × mS)) (x1 : Int32) (x2 : Int32) (x3 : Int32) (x4 : Int32) (x5 : Int32) (M : mS) : Option (Int32 × mS) := k47 x1 x2 x3 x4 (x5 + 1) M
def Mo_sooner_97 (N : Nat) (k27 : Int32 → Int32 → Int32 → Int32 → mS → Option (Int32 × mS)) (k47 : Int32 → Int32 → Int32 → Int32 → Int32 → mS → Option (Int32 × mS)) (x1 : Int32) (x4 : Int32) (x5 : Int32) (x6 : Int32) (M : mS) : Option (Int32 × mS) := nxt ((10 * x4) + x5) fun v1 => Mo_sooner_109 N k27 k47 x1 v1 x6 x4 x5 M
def Mo_sooner_47 (N : Nat) (k27 : Int32 → Int32 → Int32 → Int32 → mS → Option (Int32 × mS)) : Nat → Int32 → Int32 → Int32 → Int32 → Int32 → mS → Option (Int32 × mS)
  | 0, _, _, _, _, _, _ => none
  | n + 1, x1, x2, x3, x4, x5, M => grd (mIn (M.1 64 18) 2) (if (M.1 78 (M.1 64 18).toNatClampNeg) ≤ x5 then (k27 x1 x2 x3 (x4 + 1) M) else (bR (Mo_firstMeet N (((1 : Int32) <<< (x4 &&& 31)) ||| ((1 : Int32) <<< (x5 &&& 31))) 400 M) fun r4 => if r4 < 0 then (Mo_sooner_109 N k27 (Mo_sooner_47 N k27 n) x1 x2 x3 x4 x5 M) else (if x2 < 0 then (Mo_sooner_97 N k27 (Mo_sooner_47 N k27 n) x1 x4 x5 r4 M) else (if r4 < x3 then (Mo_sooner_97 N k27 (Mo_sooner_47 N k27 n) x1 x4 x5 r4 M) else (Mo_sooner_109 N k27 (Mo_sooner_47 N k27 n) x1 x2 x3 x4 x5 M)))))
def Mo_sooner_27 (N : Nat)  : Nat → Int32 → Int32 → Int32 → Int32 → mS → Option (Int32 × mS)
  | 0, _, _, _, _, _ => none
  | n + 1, x1, x2, x3, x4, M => grd (mIn (M.1 64 18) 2) (if (M.1 78 (M.1 64 18).toNatClampNeg) ≤ x4 then (if x1 = 0 then (some (x2, M)) else (some (x3, M))) else (nxt (x4 + 1) fun v6 => Mo_sooner_47 N (Mo_sooner_27 N n) N x1 x2 x3 x4 v6 M))
/-- MoonDialsModel.sooner(I)I of .ref 64, .int a0 -/
def Mo_sooner (N : Nat) (a0 : Int32) (M : mS) : Option (Int32 × mS) := if (Mo_in a0 0 1 M) = 0 then (some ((-1), M)) else (bV (Mo_fillsStill N 400 M) fun M9 => Mo_sooner_27 N N a0 (-2) (-2) 0 M9)
