/-! METHODS as functions: printed by program -/
/-- MoonDialsModel.fromAt(I)I of .ref 64, .int a0 -/
def Mo_fromAt (N : Nat) (a0 : Int32) (M : mS) : Option Int32 := grd (mIn ((5 * (M.1 64 18)) + a0) 10) (bR (Mo_hours N M) fun r3 => nz r3 (some ((M.1 80 ((5 * (M.1 64 18)) + a0).toNatClampNeg) - (M.1 80 ((5 * (M.1 64 18)) + a0).toNatClampNeg) / r3 * r3)))
/-- MoonDialsModel.looksBy(I)V of .ref 64, .int a0 -/
def Mo_looksBy (N : Nat) (a0 : Int32) (M : mS) : Option mS := grd (mIn (8 + a0) 29) (bV (Mo_looks N (M.1 96 (8 + a0).toNatClampNeg) M) fun M3 => bR (Mo_fromAt N a0 M3) fun r5 => nxt (mWI M3 93 3 r5) fun M6 => grd (mIn ((5 * (M6.1 64 18)) + a0) 10) (nxt (mWI M6 93 4 (M6.1 81 ((5 * (M6.1 64 18)) + a0).toNatClampNeg)) fun M8 => grd (mIn (13 + a0) 29) (nxt (mWI M8 93 5 (M8.1 96 (13 + a0).toNatClampNeg)) fun M10 => nxt (mWI M10 93 6 a0) fun M11 => some M11)))
/-- MoonDialsModel.worthOf(I)I of .ref 64, .int a0 -/
def Mo_worthOf (N : Nat) (a0 : Int32) (M : mS) : Option (Int32 × mS) := bV (Mo_looksBy N a0 M) fun M2 => bW (Mo_lawTells N 2 1 M2) fun r5 M4 => some (Mo_within r5 0 99 M4, M4)
/-- MoonDialsModel.staysOf(I)I of .ref 64, .int a0 -/
def Mo_staysOf (N : Nat) (a0 : Int32) (M : mS) : Option (Int32 × mS) := bV (Mo_looksBy N a0 M) fun M2 => bW (Mo_lawTells N 1 (M2.1 93 4) M2) fun r5 M4 => bR (Mo_hours N M4) fun r7 => some (Mo_within r5 0 r7 M4, M4)
/-- MoonDialsModel.doesCome(I)Z of .ref 64, .int a0 -/
def Mo_doesCome (N : Nat) (a0 : Int32) (M : mS) : Option (Int32 × mS) := bV (Mo_looksBy N a0 M) fun M2 => bW (Mo_lawTells N 0 1 M2) fun r5 M4 => if r5 ≤ 0 then (some (0, M4)) else (some (1, M4))
/-- MoonDialsModel.goer(II)I of .ref 64, .int a0, .int a1 -/
def Mo_goer (N : Nat) (a0 : Int32) (a1 : Int32) (M : mS) : Option (Int32 × mS) := bR (Mo_isGoer N a0 M) fun r2 => if r2 = 0 then (some ((-1), M)) else (bV (Mo_copies N M) fun M5 => if a1 = 0 then (grd (mIn (8 + a0) 29) (some (M5.1 96 (8 + a0).toNatClampNeg, M5))) else if a1 = 1 then (bR (Mo_fromAt N a0 M5) fun r8 => some (r8, M5)) else if a1 = 2 then (grd (mIn ((5 * (M5.1 64 18)) + a0) 10) (some (M5.1 81 ((5 * (M5.1 64 18)) + a0).toNatClampNeg, M5))) else if a1 = 3 then (bW (Mo_doesCome N a0 M5) fun r12 M11 => if r12 = 0 then (some (0, M11)) else (some (1, M11))) else if a1 = 4 then (bW (Mo_staysOf N a0 M5) fun r16 M15 => some (r16, M15)) else if a1 = 5 then (bW (Mo_worthOf N a0 M5) fun r19 M18 => some (r19, M18)) else if a1 = 6 then (grd (mIn (13 + a0) 29) (some (M5.1 96 (13 + a0).toNatClampNeg, M5))) else some ((-1), M5))
/-- MoonDialsModel.areTwo(II)Z of .ref 64, .int a0, .int a1 -/
def Mo_areTwo (N : Nat) (a0 : Int32) (a1 : Int32) (M : mS) : Option Int32 := bR (Mo_isGoer N a0 M) fun r2 => if r2 = 0 then (some 0) else (bR (Mo_isGoer N a1 M) fun r5 => if r5 = 0 then (some 0) else (if a0 = a1 then (some 0) else (some 1)))
def Mo_pairAt_21 (M : mS) (x2 : Int32) (z0 : Int32) : Int32 := ((((x2 * (9 - x2)) / 2) + z0) - x2) - 1
def Mo_pairAt_10 (M : mS) (x0 : Int32) (x1 : Int32) (z0 : Int32) : Int32 := if x1 ≤ x0 then (Mo_pairAt_21 M z0 x0) else (Mo_pairAt_21 M z0 x1)
/-- MoonDialsModel.pairAt(II)I of .int a0, .int a1 -/
def Mo_pairAt (a0 : Int32) (a1 : Int32) (M : mS) : Int32 := if a1 ≤ a0 then (Mo_pairAt_10 M a0 a1 a1) else (Mo_pairAt_10 M a0 a1 a0)
/-- MoonDialsModel.together(II)I of .ref 64, .int a0, .int a1 -/
def Mo_together (N : Nat) (a0 : Int32) (a1 : Int32) (M : mS) : Option Int32 := bR (Mo_areTwo N a0 a1 M) fun r2 => if r2 = 0 then (some (-1)) else (grd (mIn (18 + (Mo_pairAt a0 a1 M)) 29) (some (M.1 95 (18 + (Mo_pairAt a0 a1 M)).toNatClampNeg)))
/-- MoonDialsModel.copiesStill()V of .ref 64 -/
def Mo_copiesStill (N : Nat)  (M : mS) : Option mS := bV (Mo_copies N M) fun M2 => nxt (mWI M2 64 51 1) fun M3 => some M3
/-- MoonDialsModel.outTonight(I)I of .ref 64, .int a0 -/
def Mo_outTonight (N : Nat) (a0 : Int32) (M : mS) : Option (Int32 × mS) := if (M.1 64 51) = 0 then (bW (Mo_isDim N a0 M) fun r3 M2 => if r3 = 0 then (grd (mIn a0 29) (some (M2.1 96 a0.toNatClampNeg, M2))) else (bR (Mo_hours N M2) fun r7 => bR (Mo_lotOf N ((100000 + (8 * (M2.1 96 28))) + a0) r7 M2) fun r9 => some (r9, M2))) else (grd (mIn a0 29) (some (M.1 96 a0.toNatClampNeg, M)))
def Mo_hourBits_81 (N : Nat) (k36 : Int32 → Int32 → Int32 → Int32 → Int32 → mS → Option (Int32 × mS)) (x1 : Int32) (x2 : Int32) (x3 : Int32) (x4 : Int32) (x5 : Int32) (M : mS) : Option (Int32 × mS) := k36 x1 x2 x3 x4 (x5 + 1) M
def Mo_hourBits_36 (N : Nat)  : Nat → Int32 → Int32 → Int32 → Int32 → Int32 → mS → Option (Int32 × mS)
  | 0, _, _, _, _, _, _ => none
  | n + 1, x1, x2, x3, x4, x5, M => bR (Mo_hours N M) fun r2 => if r2 ≤ x5 then (some (x4, M)) else (bR (Mo_showsBy N x3 x5 M) fun r4 => bR (Mo_fromAt N x1 M) fun r6 => bR (Mo_hours N M) fun r8 => bR (Mo_hours N M) fun r10 => nz r10 (if x2 ≤ (((r4 - r6) + r8) - ((r4 - r6) + r8) / r10 * r10) then (Mo_hourBits_81 N (Mo_hourBits_36 N n) x1 x2 x3 x4 x5 M) else (nxt (x4 ||| ((1 : Int32) <<< (x5 &&& 31))) fun v12 => Mo_hourBits_81 N (Mo_hourBits_36 N n) x1 x2 x3 v12 x5 M)))
/-- MoonDialsModel.hourBits(I)I of .ref 64, .int a0 -/
def Mo_hourBits (N : Nat) (a0 : Int32) (M : mS) : Option (Int32 × mS) := bW (Mo_doesCome N a0 M) fun r15 M14 => if r15 = 0 then (some (0, M14)) else (bW (Mo_staysOf N a0 M14) fun r19 M18 => grd (mIn (8 + a0) 29) (bW (Mo_outTonight N (M18.1 96 (8 + a0).toNatClampNeg) M18) fun r23 M22 => Mo_hourBits_36 N N a0 r19 r23 0 0 M22))
def Mo_fillsThere_29 (N : Nat) (k2 : Int32 → mS → Option mS) (x1 : Int32) (z1 : Int32) (z2 : Int32) (M : mS) : Option mS := grd (mIn z1 5) (nxt (mWI M 97 z1.toNatClampNeg z2) fun M2 => k2 (x1 + 1) M2)
def Mo_fillsThere_2 (N : Nat)  : Nat → Int32 → mS → Option mS
  | 0, _, _ => none
  | n + 1, x1, M => if 5 ≤ x1 then (some M) else (bR (Mo_isGoer N x1 M) fun r4 => if r4 = 0 then (Mo_fillsThere_29 N (Mo_fillsThere_2 N n) x1 x1 0 M) else (bW (Mo_hourBits N x1 M) fun r8 M7 => Mo_fillsThere_29 N (Mo_fillsThere_2 N n) x1 x1 r8 M7))
/-- MoonDialsModel.fillsThere()V of .ref 64 -/
def Mo_fillsThere (N : Nat)  (M : mS) : Option mS := Mo_fillsThere_2 N N 0 M
def Mo_thereAt_4 (N : Nat)  (M : mS) : Nat → Int32 → Int32 → Int32 → Option Int32
  | 0, _, _, _ => none
  | n + 1, x1, x2, x3 => if 5 ≤ x3 then (some x2) else (grd (mIn x3 5) (nxt (x2 ||| ((((M.1 97 x3.toNatClampNeg) >>> (x1 &&& 31)) &&& 1) <<< (x3 &&& 31))) fun v2 => Mo_thereAt_4 N M n x1 v2 (x3 + 1)))
/-- MoonDialsModel.thereAt(I)I of .ref 64, .int a0 -/
def Mo_thereAt (N : Nat) (a0 : Int32) (M : mS) : Option Int32 := Mo_thereAt_4 N M N a0 0 0
/-- MoonDialsModel.there(I)I of .ref 64, .int a0 -/
def Mo_there (N : Nat) (a0 : Int32) (M : mS) : Option (Int32 × mS) := bR (Mo_isHour N a0 M) fun r2 => if r2 = 0 then (some ((-1), M)) else (bV (Mo_copiesStill N M) fun M5 => bV (Mo_fillsThere N M5) fun M7 => bR (Mo_thereAt N a0 M7) fun r9 => some (r9, M7))
def Mo_records_51 (N : Nat)  : Nat → Int32 → mS → Option mS
  | 0, _, _ => none
  | n + 1, x1, M => if 29 ≤ x1 then (nxt (mWI M 64 53 ((M.1 64 53) + 1)) fun M1 => bV (Mo_keepsRow N M1) fun M3 => some M3) else (grd (mIn x1 29) (grd (mIn ((29 * (M.1 64 53)) + x1) 1160) (nxt (mWI M 98 ((29 * (M.1 64 53)) + x1).toNatClampNeg (M.1 95 x1.toNatClampNeg)) fun M6 => Mo_records_51 N n (x1 + 1) M6)))
def Mo_records_49 (N : Nat)  (M : mS) : Option mS := Mo_records_51 N N 0 M
def Mo_records_11 (N : Nat)  : Nat → Int32 → mS → Option mS
  | 0, _, _ => none
  | n + 1, x1, M => if 1131 ≤ x1 then (nxt (mWI M 64 53 ((M.1 64 53) - 1)) fun M7 => Mo_records_49 N M7) else (grd (mIn (x1 + 29) 1160) (grd (mIn x1 1160) (nxt (mWI M 98 x1.toNatClampNeg (M.1 98 (x1 + 29).toNatClampNeg)) fun M10 => Mo_records_11 N n (x1 + 1) M10)))
/-- MoonDialsModel.records()V of .ref 64 -/
def Mo_records (N : Nat)  (M : mS) : Option mS := if (M.1 64 53) = 40 then (Mo_records_11 N N 0 M) else (Mo_records_49 N M)
/-- MoonDialsModel.does(II)Z of .ref 64, .int a0, .int a1 -/
def Mo_does (N : Nat) (a0 : Int32) (a1 : Int32) (M : mS) : Option (Int32 × mS) := bV (Mo_copies N M) fun M2 => grd (mIn a0 29) (nxt (mWI M2 96 a0.toNatClampNeg a1) fun M4 => bV (Mo_records N M4) fun M6 => some (1, M6))
/-- MoonDialsModel.turn(II)I of .ref 64, .int a0, .int a1 -/
def Mo_turn (N : Nat) (a0 : Int32) (a1 : Int32) (M : mS) : Option (Int32 × mS) := bR (Mo_isDial N a0 M) fun r2 => if r2 = 0 then (some ((-1), M)) else (bR (Mo_hours N M) fun r5 => if (Mo_in a1 1 (r5 - 1) M) = 0 then (some ((-1), M)) else (grd (mIn a0 29) (bR (Mo_hours N M) fun r9 => nz r9 (bW (Mo_does N a0 (((M.1 95 a0.toNatClampNeg) + a1) - ((M.1 95 a0.toNatClampNeg) + a1) / r9 * r9) M) fun r13 M12 => grd (mIn a0 29) (some (M12.1 95 a0.toNatClampNeg, M12))))))
/-- MoonDialsModel.follow(II)Z of .ref 64, .int a0, .int a1 -/
def Mo_follow (N : Nat) (a0 : Int32) (a1 : Int32) (M : mS) : Option (Int32 × mS) := bR (Mo_isGoer N a0 M) fun r2 => if r2 = 0 then (some (0, M)) else (bR (Mo_isDial N a1 M) fun r5 => if r5 = 0 then (some (0, M)) else (grd (mIn (8 + a0) 29) (if (M.1 95 (8 + a0).toNatClampNeg) = a1 then (some (0, M)) else (bW (Mo_does N (8 + a0) a1 M) fun r10 M9 => if r10 = 0 then (some (0, M9)) else (some (1, M9))))))
/-- MoonDialsModel.slip(II)Z of .ref 64, .int a0, .int a1 -/
def Mo_slip (N : Nat) (a0 : Int32) (a1 : Int32) (M : mS) : Option (Int32 × mS) := bR (Mo_isDial N a0 M) fun r2 => if r2 = 0 then (some (0, M)) else (bR (Mo_isHour N a1 M) fun r5 => if r5 = 0 then (some (0, M)) else (grd (mIn (4 + a0) 29) (if (M.1 95 (4 + a0).toNatClampNeg) = a1 then (some (0, M)) else (bW (Mo_does N (4 + a0) a1 M) fun r10 M9 => if r10 = 0 then (some (0, M9)) else (some (1, M9))))))
/-- MoonDialsModel.isLong(I)Z of .int a0 -/
def Mo_isLong (a0 : Int32) (M : mS) : Int32 := Mo_in a0 0 200 M
def Mo_othersBits_23 (N : Nat) (k4 : Int32 → Int32 → Int32 → Option Int32) (M : mS) (x1 : Int32) (x2 : Int32) (x3 : Int32) : Option Int32 := k4 x1 x2 (x3 + 1)
def Mo_othersBits_4 (N : Nat)  (M : mS) : Nat → Int32 → Int32 → Int32 → Option Int32
  | 0, _, _, _ => none
  | n + 1, x1, x2, x3 => if 5 ≤ x3 then (some x2) else (if x3 = x1 then (Mo_othersBits_23 N (Mo_othersBits_4 N M n) M x1 x2 x3) else (grd (mIn x3 5) (nxt (x2 ||| (M.1 97 x3.toNatClampNeg)) fun v2 => Mo_othersBits_23 N (Mo_othersBits_4 N M n) M x1 v2 x3)))
/-- MoonDialsModel.othersBits(I)I of .ref 64, .int a0 -/
def Mo_othersBits (N : Nat) (a0 : Int32) (M : mS) : Option Int32 := Mo_othersBits_4 N M N a0 0 0
def Mo_bits_4 (N : Nat)  (M : mS) : Nat → Int32 → Int32 → Int32 → Option Int32
  | 0, _, _, _ => none
  | n + 1, x0, x1, x2 => if 24 ≤ x2 then (some x1) else (nxt (x1 + ((x0 >>> (x2 &&& 31)) &&& 1)) fun v1 => Mo_bits_4 N M n x0 v1 (x2 + 1))
/-- MoonDialsModel.bits(I)I of .int a0 -/
def Mo_bits (N : Nat) (a0 : Int32) (M : mS) : Option Int32 := Mo_bits_4 N M N a0 0 0
def Mo_nightGoes_48 (N : Nat) (k6 : Int32 → mS → Option mS) : Nat → Int32 → Int32 → mS → Option mS
  | 0, _, _, _ => none
  | n + 1, x1, x2, M => if x1 ≤ x2 then (k6 (x1 + 1) M) else (grd (mIn (18 + (Mo_pairAt x1 x2 M)) 29) (grd (mIn x1 5) (grd (mIn x2 5) (bR (Mo_bits N ((M.1 97 x1.toNatClampNeg) &&& (M.1 97 x2.toNatClampNeg)) M) fun r5 => grd (mIn (18 + (Mo_pairAt x1 x2 M)) 29) (nxt (mWI M 96 (18 + (Mo_pairAt x1 x2 M)).toNatClampNeg ((M.1 96 (18 + (Mo_pairAt x1 x2 M)).toNatClampNeg) + r5)) fun M7 => Mo_nightGoes_48 N k6 n x1 (x2 + 1) M7)))))
def Mo_nightGoes_99 (N : Nat)  : Nat → Int32 → mS → Option mS
  | 0, _, _ => none
  | n + 1, x1, M => grd (mIn (M.1 64 18) 2) (if (M.1 75 (M.1 64 18).toNatClampNeg) ≤ x1 then (nxt (mWI M 96 28 ((M.1 96 28) + 1)) fun M9 => some M9) else (grd (mIn x1 29) (grd (mIn (4 + x1) 29) (bR (Mo_hours N M) fun r13 => nz r13 (grd (mIn x1 29) (nxt (mWI M 96 x1.toNatClampNeg (((M.1 96 x1.toNatClampNeg) + (M.1 96 (4 + x1).toNatClampNeg)) - ((M.1 96 x1.toNatClampNeg) + (M.1 96 (4 + x1).toNatClampNeg)) / r13 * r13)) fun M16 => Mo_nightGoes_99 N n (x1 + 1) M16))))))
def Mo_nightGoes_6 (N : Nat)  : Nat → Int32 → mS → Option mS
  | 0, _, _ => none
  | n + 1, x1, M => grd (mIn (M.1 64 18) 2) (if (M.1 78 (M.1 64 18).toNatClampNeg) ≤ x1 then (Mo_nightGoes_99 N N 0 M) else (grd (mIn (13 + x1) 29) (grd (mIn x1 5) (bR (Mo_othersBits N x1 M) fun r21 => bR (Mo_bits N ((M.1 97 x1.toNatClampNeg) &&& r21) M) fun r23 => grd (mIn (13 + x1) 29) (nxt (mWI M 96 (13 + x1).toNatClampNeg ((M.1 96 (13 + x1).toNatClampNeg) + r23)) fun M25 => Mo_nightGoes_48 N (Mo_nightGoes_6 N n) N x1 0 M25)))))
/-- MoonDialsModel.nightGoes()V of .ref 64 -/
def Mo_nightGoes (N : Nat)  (M : mS) : Option mS := bV (Mo_fillsThere N M) fun M27 => Mo_nightGoes_6 N N 0 M27
def Mo_goes_2 (N : Nat)  : Nat → Int32 → Int32 → mS → Option mS
  | 0, _, _, _ => none
  | n + 1, x1, x2, M => if x1 ≤ x2 then (some M) else (bV (Mo_nightGoes N M) fun M2 => Mo_goes_2 N n x1 (x2 + 1) M2)
/-- MoonDialsModel.goes(I)V of .ref 64, .int a0 -/
def Mo_goes (N : Nat) (a0 : Int32) (M : mS) : Option mS := Mo_goes_2 N N a0 0 M
/-- MoonDialsModel.nights(I)I of .ref 64, .int a0 -/
def Mo_nights (N : Nat) (a0 : Int32) (M : mS) : Option (Int32 × mS) := if (Mo_isLong a0 M) = 0 then (some ((-1), M)) else (if a0 = 0 then (some (M.1 95 28, M)) else (bV (Mo_copies N M) fun M3 => bV (Mo_goes N a0 M3) fun M5 => bV (Mo_records N M5) fun M7 => some (M7.1 95 28, M7)))
def Mo_undo_21 (N : Nat)  : Nat → Int32 → mS → Option (Int32 × mS)
  | 0, _, _ => none
  | n + 1, x1, M => if 29 ≤ x1 then (some (1, M)) else (grd (mIn ((29 * (M.1 64 53)) + x1) 1160) (grd (mIn x1 29) (nxt (mWI M 95 x1.toNatClampNeg (M.1 98 ((29 * (M.1 64 53)) + x1).toNatClampNeg)) fun M3 => Mo_undo_21 N n (x1 + 1) M3)))
/-- MoonDialsModel.undo()Z of .ref 64 -/
def Mo_undo (N : Nat)  (M : mS) : Option (Int32 × mS) := if (M.1 64 53) = 0 then (some (0, M)) else (nxt (mWI M 64 53 ((M.1 64 53) - 1)) fun M4 => Mo_undo_21 N N 0 M4)
