/-! METHODS as functions: printed by program -/
/-- MoonDialsModel.gainBy(IIIII)I of .ref 64, .int a0, .int a1, .int a2, .int a3, .int a4 -/
def Mo_gainBy (N : Nat) (a0 : Int32) (a1 : Int32) (a2 : Int32) (a3 : Int32) (a4 : Int32) (M : mS) : Option (Int32 × mS) := bW (Mo_plays N a0 a2 a3 M) fun r3 M2 => if a1 = (a4 - 1) then (some (r3, M2)) else (bR (Mo_childOf N a0 a1 a3 M2) fun r5 => grd (mIn r5 364) (some (r3 + (M2.1 104 r5.toNatClampNeg), M2)))
def Mo_bestAt_71 (N : Nat) (k18 : Int32 → Int32 → Int32 → Int32 → Int32 → Int32 → Int32 → mS → Option (Int32 × mS)) (x1 : Int32) (x2 : Int32) (x3 : Int32) (x4 : Int32) (x5 : Int32) (x6 : Int32) (x7 : Int32) (M : mS) : Option (Int32 × mS) := k18 x1 x2 x3 x4 x5 x6 (x7 + 1) M
def Mo_bestAt_63 (N : Nat) (k18 : Int32 → Int32 → Int32 → Int32 → Int32 → Int32 → Int32 → mS → Option (Int32 × mS)) (x1 : Int32) (x2 : Int32) (x3 : Int32) (x4 : Int32) (x7 : Int32) (x8 : Int32) (M : mS) : Option (Int32 × mS) := Mo_bestAt_71 N k18 x1 x2 x3 x4 x7 x8 x7 M
def Mo_bestAt_18 (N : Nat)  : Nat → Int32 → Int32 → Int32 → Int32 → Int32 → Int32 → Int32 → mS → Option (Int32 × mS)
  | 0, _, _, _, _, _, _, _, _ => none
  | n + 1, x1, x2, x3, x4, x5, x6, x7, M => if 3 ≤ x7 then (some (x5, M)) else (bW (Mo_gainBy N x1 x2 x3 x7 x4 M) fun r3 M2 => if (x2 - x2 / 2 * 2) = 0 then (if x6 < r3 then (Mo_bestAt_63 N (Mo_bestAt_18 N n) x1 x2 x3 x4 x7 r3 M2) else (Mo_bestAt_71 N (Mo_bestAt_18 N n) x1 x2 x3 x4 x5 x6 x7 M2)) else (if r3 < x6 then (Mo_bestAt_63 N (Mo_bestAt_18 N n) x1 x2 x3 x4 x7 r3 M2) else (Mo_bestAt_71 N (Mo_bestAt_18 N n) x1 x2 x3 x4 x5 x6 x7 M2)))
/-- MoonDialsModel.bestAt(IIII)I of .ref 64, .int a0, .int a1, .int a2, .int a3 -/
def Mo_bestAt (N : Nat) (a0 : Int32) (a1 : Int32) (a2 : Int32) (a3 : Int32) (M : mS) : Option (Int32 × mS) := bW (Mo_gainBy N a0 a1 a2 0 a3 M) fun r6 M5 => Mo_bestAt_18 N N a0 a1 a2 a3 0 r6 1 M5
def Mo_spreads_34 (N : Nat) (k3 : Int32 → Int32 → Int32 → Int32 → mS → Option mS) : Nat → Int32 → Int32 → Int32 → Int32 → Int32 → Int32 → mS → Option mS
  | 0, _, _, _, _, _, _, _ => none
  | n + 1, x1, x2, x3, x4, x5, x6, M => if 29 ≤ x6 then (k3 x1 x2 x3 (x4 + 1) M) else (grd (mIn x6 29) (grd (mIn (x5 + x6) 10556) (nxt (mWI M 103 (x5 + x6).toNatClampNeg (M.1 96 x6.toNatClampNeg)) fun M3 => Mo_spreads_34 N k3 n x1 x2 x3 x4 x5 (x6 + 1) M3)))
def Mo_spreads_3 (N : Nat)  : Nat → Int32 → Int32 → Int32 → Int32 → mS → Option mS
  | 0, _, _, _, _, _ => none
  | n + 1, x1, x2, x3, x4, M => if 3 ≤ x4 then (some M) else (bW (Mo_plays N x1 x3 x4 M) fun r6 M5 => bR (Mo_childOf N x1 x2 x4 M5) fun r8 => nxt (29 * r8) fun v9 => Mo_spreads_34 N (Mo_spreads_3 N n) N x1 x2 x3 x4 v9 0 M5)
/-- MoonDialsModel.spreads(III)V of .ref 64, .int a0, .int a1, .int a2 -/
def Mo_spreads (N : Nat) (a0 : Int32) (a1 : Int32) (a2 : Int32) (M : mS) : Option mS := Mo_spreads_3 N N a0 a1 a2 0 M
def Mo_game_96 (N : Nat) (k79 : Int32 → Int32 → Int32 → Int32 → mS → Option (Int32 × mS)) : Nat → Int32 → Int32 → Int32 → Int32 → Int32 → mS → Option (Int32 × mS)
  | 0, _, _, _, _, _, _ => none
  | n + 1, x1, x2, x3, x4, x5, M => grd (mIn (x4 + 1) 7) (if (M.1 102 (x4 + 1).toNatClampNeg) ≤ x5 then (k79 x1 x2 x3 (x4 + 1) M) else (bV (Mo_spreads N x5 x4 x1 M) fun M3 => Mo_game_96 N k79 n x1 x2 x3 x4 (x5 + 1) M3))
def Mo_game_150 (N : Nat) (k136 : Int32 → Int32 → Int32 → Int32 → mS → Option (Int32 × mS)) : Nat → Int32 → Int32 → Int32 → Int32 → Int32 → mS → Option (Int32 × mS)
  | 0, _, _, _, _, _, _ => none
  | n + 1, x1, x2, x3, x4, x5, M => grd (mIn (x4 + 1) 7) (if (M.1 102 (x4 + 1).toNatClampNeg) ≤ x5 then (k136 x1 x2 x3 (x4 + (-1)) M) else (bW (Mo_bestAt N x5 x4 x1 x2 M) fun r7 M6 => bW (Mo_gainBy N x5 x4 x1 r7 x2 M6) fun r10 M9 => grd (mIn x5 364) (nxt (mWI M9 104 x5.toNatClampNeg r10) fun M12 => Mo_game_150 N k136 n x1 x2 x3 x4 (x5 + 1) M12)))
def Mo_game_136 (N : Nat)  : Nat → Int32 → Int32 → Int32 → Int32 → mS → Option (Int32 × mS)
  | 0, _, _, _, _, _ => none
  | n + 1, x1, x2, x3, x4, M => if x4 < 0 then (if x3 = 0 then (some (M.1 104 0, M)) else (bW (Mo_bestAt N 0 0 x1 x2 M) fun r15 M14 => some (r15, M14))) else (grd (mIn x4 7) (nxt (M.1 102 x4.toNatClampNeg) fun v17 => Mo_game_150 N (Mo_game_136 N n) N x1 x2 x3 x4 v17 M))
def Mo_game_79 (N : Nat)  : Nat → Int32 → Int32 → Int32 → Int32 → mS → Option (Int32 × mS)
  | 0, _, _, _, _, _ => none
  | n + 1, x1, x2, x3, x4, M => if (x2 - 1) ≤ x4 then (nxt (x2 - 1) fun v18 => Mo_game_136 N N x1 x2 x3 v18 M) else (grd (mIn x4 7) (nxt (M.1 102 x4.toNatClampNeg) fun v20 => Mo_game_96 N (Mo_game_79 N n) N x1 x2 x3 x4 v20 M))
def Mo_game_49 (N : Nat)  : Nat → Int32 → Int32 → Int32 → Int32 → mS → Option (Int32 × mS)
  | 0, _, _, _, _, _ => none
  | n + 1, x1, x2, x3, x4, M => if 29 ≤ x4 then (Mo_game_79 N N x1 x2 x3 0 M) else (grd (mIn x4 29) (grd (mIn x4 10556) (nxt (mWI M 103 x4.toNatClampNeg (M.1 96 x4.toNatClampNeg)) fun M23 => Mo_game_49 N n x1 x2 x3 (x4 + 1) M23)))
/-- MoonDialsModel.game(III)I of .ref 64, .int a0, .int a1, .int a2 -/
def Mo_game (N : Nat) (a0 : Int32) (a1 : Int32) (a2 : Int32) (M : mS) : Option (Int32 × mS) := bR (Mo_isDial N a0 M) fun r25 => if r25 = 0 then (some ((-1), M)) else (grd (mIn (M.1 64 18) 2) (if (M.1 78 (M.1 64 18).toNatClampNeg) < 2 then (some ((-1), M)) else (if (Mo_in a1 1 6 M) = 0 then (some ((-1), M)) else (if (Mo_in a2 0 1 M) = 0 then (some ((-1), M)) else (bV (Mo_copiesStill N M) fun M31 => Mo_game_49 N N a0 a1 a2 0 M31)))))
/-- MoonDialsModel.metIn(II)I of .ref 64, .int a0, .int a1 -/
def Mo_metIn (N : Nat) (a0 : Int32) (a1 : Int32) (M : mS) : Option (Int32 × mS) := bR (Mo_isGoer N a0 M) fun r2 => if r2 = 0 then (some ((-1), M)) else (if (Mo_isLong a1 M) = 0 then (some ((-1), M)) else (bV (Mo_copies N M) fun M6 => bV (Mo_goes N a1 M6) fun M8 => grd (mIn (13 + a0) 29) (some (M8.1 96 (13 + a0).toNatClampNeg, M8))))
/-- MoonDialsModel.outIn(II)I of .ref 64, .int a0, .int a1 -/
def Mo_outIn (N : Nat) (a0 : Int32) (a1 : Int32) (M : mS) : Option (Int32 × mS) := bR (Mo_isDial N a0 M) fun r2 => if r2 = 0 then (some ((-1), M)) else (if (Mo_isLong a1 M) = 0 then (some ((-1), M)) else (bV (Mo_copies N M) fun M6 => bV (Mo_goes N a1 M6) fun M8 => grd (mIn a0 29) (some (M8.1 96 a0.toNatClampNeg, M8))))
def Mo_year_85 (N : Nat) (k35 : Int32 → Int32 → Int32 → Int32 → Int32 → Int32 → mS → Option (Int32 × mS)) (x1 : Int32) (x2 : Int32) (x3 : Int32) (x4 : Int32) (x5 : Int32) (x6 : Int32) (M : mS) : Option (Int32 × mS) := k35 x1 x2 x3 x4 x5 (x6 + 1) M
def Mo_year_35 (N : Nat)  : Nat → Int32 → Int32 → Int32 → Int32 → Int32 → Int32 → mS → Option (Int32 × mS)
  | 0, _, _, _, _, _, _, _ => none
  | n + 1, x1, x2, x3, x4, x5, x6, M => if x4 ≤ x6 then (some (x5, M)) else (bV (Mo_copies N M) fun M2 => nxt (mWI M2 64 50 ((M2.1 64 50) + x6)) fun M3 => bV (Mo_goes N x3 M3) fun M5 => bV (Mo_fillsThere N M5) fun M7 => grd (mIn x1 5) (grd (mIn x2 5) (if ((M7.1 97 x1.toNatClampNeg) &&& (M7.1 97 x2.toNatClampNeg)) = 0 then (Mo_year_85 N (Mo_year_35 N n) x1 x2 x3 x4 x5 x6 M7) else (Mo_year_85 N (Mo_year_35 N n) x1 x2 x3 x4 (x5 + 1) x6 M7))))
/-- MoonDialsModel.year(IIII)I of .ref 64, .int a0, .int a1, .int a2, .int a3 -/
def Mo_year (N : Nat) (a0 : Int32) (a1 : Int32) (a2 : Int32) (a3 : Int32) (M : mS) : Option (Int32 × mS) := bR (Mo_areTwo N a0 a1 M) fun r11 => if r11 = 0 then (some ((-1), M)) else (if (Mo_isLong a2 M) = 0 then (some ((-1), M)) else (if (Mo_in a3 1 20 M) = 0 then (some ((-1), M)) else (Mo_year_35 N N a0 a1 a2 a3 0 0 M)))
/-- MoonDialsModel.tell(IIZ)I of .ref 64, .int a0, .int a1, .int a2 -/
def Mo_tell (N : Nat) (a0 : Int32) (a1 : Int32) (a2 : Int32) (M : mS) : Option (Int32 × mS) := if (M.1 64 62) = 20 then (some ((-1), M)) else (if (Mo_in a0 0 30 M) = 0 then (some ((-1), M)) else (bR (Mo_isHour N a1 M) fun r3 => if r3 = 0 then (some ((-1), M)) else (grd (mIn (M.1 64 62) 20) (nxt (mWI M 105 (M.1 64 62).toNatClampNeg a0) fun M6 => grd (mIn (M6.1 64 62) 20) (nxt (mWI M6 106 (M6.1 64 62).toNatClampNeg a1) fun M8 => grd (mIn (M8.1 64 62) 20) (nxt (mWI M8 107 (M8.1 64 62).toNatClampNeg (vp_nar .boolean a2)) fun M10 => nxt (mWI M10 64 62 ((M10.1 64 62) + 1)) fun M11 => some ((M11.1 64 62) - 1, M11)))))))
/-- MoonDialsModel.forget()I of .ref 64 -/
def Mo_forget (N : Nat)  (M : mS) : Option (Int32 × mS) := nxt (M.1 64 62) fun v1 => nxt (mWI M 64 62 0) fun M2 => some (v1, M2)
def Mo_fitBits_142 (N : Nat) (k5 : Int32 → Int32 → Int32 → Int32 → mS → Option (Int32 × mS)) (k86 : Int32 → Int32 → Int32 → Int32 → Int32 → Int32 → mS → Option (Int32 × mS)) (x1 : Int32) (x2 : Int32) (x3 : Int32) (x4 : Int32) (x5 : Int32) (x6 : Int32) (M : mS) : Option (Int32 × mS) := k86 x1 x2 x3 x4 x5 (x6 + 1) M
def Mo_fitBits_129 (N : Nat) (k5 : Int32 → Int32 → Int32 → Int32 → mS → Option (Int32 × mS)) (k86 : Int32 → Int32 → Int32 → Int32 → Int32 → Int32 → mS → Option (Int32 × mS)) (x1 : Int32) (x2 : Int32) (x3 : Int32) (x4 : Int32) (x5 : Int32) (x6 : Int32) (z0 : Int32) (M : mS) : Option (Int32 × mS) := grd (mIn x6 20) (if z0 = (M.1 107 x6.toNatClampNeg) then (Mo_fitBits_142 N k5 k86 x1 x2 x3 x4 x5 x6 M) else (Mo_fitBits_142 N k5 k86 x1 x2 x3 x4 0 x6 M))
def Mo_fitBits_160 (N : Nat) (k5 : Int32 → Int32 → Int32 → Int32 → mS → Option (Int32 × mS)) (x1 : Int32) (x2 : Int32) (x3 : Int32) (x4 : Int32) (M : mS) : Option (Int32 × mS) := k5 x1 x2 x3 (x4 + 1) M
def Mo_fitBits_86 (N : Nat) (k5 : Int32 → Int32 → Int32 → Int32 → mS → Option (Int32 × mS)) : Nat → Int32 → Int32 → Int32 → Int32 → Int32 → Int32 → mS → Option (Int32 × mS)
  | 0, _, _, _, _, _, _, _ => none
  | n + 1, x1, x2, x3, x4, x5, x6, M => if x1 ≤ x6 then (if x5 = 0 then (Mo_fitBits_160 N k5 x1 x2 x3 x4 M) else (nxt (x3 ||| ((1 : Int32) <<< (x4 &&& 31))) fun v2 => Mo_fitBits_160 N k5 x1 x2 v2 x4 M)) else (grd (mIn x6 20) (grd (mIn ((31 * x4) + (M.1 105 x6.toNatClampNeg)) 124) (grd (mIn x6 20) (if (((M.1 108 ((31 * x4) + (M.1 105 x6.toNatClampNeg)).toNatClampNeg) >>> ((M.1 106 x6.toNatClampNeg) &&& 31)) &&& 1) = 1 then (Mo_fitBits_129 N k5 (Mo_fitBits_86 N k5 n) x1 x2 x3 x4 x5 x6 1 M) else (Mo_fitBits_129 N k5 (Mo_fitBits_86 N k5 n) x1 x2 x3 x4 x5 x6 0 M)))))
def Mo_fitBits_43 (N : Nat) (k5 : Int32 → Int32 → Int32 → Int32 → mS → Option (Int32 × mS)) : Nat → Int32 → Int32 → Int32 → Int32 → Int32 → mS → Option (Int32 × mS)
  | 0, _, _, _, _, _, _ => none
  | n + 1, x1, x2, x3, x4, x5, M => if 30 < x5 then (Mo_fitBits_86 N k5 N x1 x2 x3 x4 1 0 M) else (grd (mIn ((5 * x5) + x2) 2005) (grd (mIn ((31 * x4) + x5) 124) (nxt (mWI M 108 ((31 * x4) + x5).toNatClampNeg (M.1 99 ((5 * x5) + x2).toNatClampNeg)) fun M8 => Mo_fitBits_43 N k5 n x1 x2 x3 x4 (x5 + 1) M8)))
def Mo_fitBits_5 (N : Nat)  : Nat → Int32 → Int32 → Int32 → Int32 → mS → Option (Int32 × mS)
  | 0, _, _, _, _, _ => none
  | n + 1, x1, x2, x3, x4, M => grd (mIn (M.1 64 18) 2) (if (M.1 75 (M.1 64 18).toNatClampNeg) ≤ x4 then (some (x3, M)) else (bV (Mo_copiesStill N M) fun M11 => grd (mIn (8 + x2) 29) (nxt (mWI M11 96 (8 + x2).toNatClampNeg x4) fun M13 => bV (Mo_fillsNights N 30 M13) fun M15 => Mo_fitBits_43 N (Mo_fitBits_5 N n) N x1 x2 x3 x4 0 M15)))
/-- MoonDialsModel.fitBits(II)I of .ref 64, .int a0, .int a1 -/
def Mo_fitBits (N : Nat) (a0 : Int32) (a1 : Int32) (M : mS) : Option (Int32 × mS) := Mo_fitBits_5 N N a0 a1 0 0 M
/-- MoonDialsModel.fits(III)I of .ref 64, .int a0, .int a1, .int a2 -/
def Mo_fits (N : Nat) (a0 : Int32) (a1 : Int32) (a2 : Int32) (M : mS) : Option (Int32 × mS) := if (Mo_in a0 0 (M.1 64 62) M) = 0 then (some ((-1), M)) else (bR (Mo_isGoer N a1 M) fun r3 => if r3 = 0 then (some ((-1), M)) else (if (Mo_in a2 0 1 M) = 0 then (some ((-1), M)) else (bW (Mo_fitBits N a0 a1 M) fun r8 M7 => if a2 = 0 then (bR (Mo_bits N r8 M7) fun r10 => some (r10, M7)) else (some (r8, M7)))))
def Mo_look_120 (N : Nat) (k55 : Int32 → Int32 → Int32 → Int32 → Int32 → Int32 → mS → Option (Int32 × mS)) (k73 : Int32 → Int32 → Int32 → Int32 → Int32 → Int32 → Int32 → Int32 → mS → Option (Int32 × mS)) (x3 : Int32) (x4 : Int32) (x5 : Int32) (x6 : Int32) (x7 : Int32) (x8 : Int32) (x9 : Int32) (x10 : Int32) (M : mS) : Option (Int32 × mS) := k73 x3 x4 x5 x6 x7 x8 x9 (x10 + 1) M
def Mo_look_171 (N : Nat) (k55 : Int32 → Int32 → Int32 → Int32 → Int32 → Int32 → mS → Option (Int32 × mS)) (x3 : Int32) (x4 : Int32) (x5 : Int32) (x6 : Int32) (x7 : Int32) (x8 : Int32) (M : mS) : Option (Int32 × mS) := k55 x3 x4 x5 x6 x7 (x8 + 1) M
def Mo_look_163 (N : Nat) (k55 : Int32 → Int32 → Int32 → Int32 → Int32 → Int32 → mS → Option (Int32 × mS)) (x3 : Int32) (x4 : Int32) (x5 : Int32) (x8 : Int32) (x10 : Int32) (M : mS) : Option (Int32 × mS) := Mo_look_171 N k55 x3 x4 x5 x8 x10 x8 M
def Mo_look_146 (N : Nat) (k55 : Int32 → Int32 → Int32 → Int32 → Int32 → Int32 → mS → Option (Int32 × mS)) (x3 : Int32) (x4 : Int32) (x5 : Int32) (x6 : Int32) (x7 : Int32) (x8 : Int32) (z0 : Int32) (M : mS) : Option (Int32 × mS) := if x6 < 0 then (Mo_look_163 N k55 x3 x4 x5 x8 z0 M) else (if z0 < x7 then (Mo_look_163 N k55 x3 x4 x5 x8 z0 M) else (Mo_look_171 N k55 x3 x4 x5 x6 x7 x8 M))
def Mo_look_73 (N : Nat) (k55 : Int32 → Int32 → Int32 → Int32 → Int32 → Int32 → mS → Option (Int32 × mS)) : Nat → Int32 → Int32 → Int32 → Int32 → Int32 → Int32 → Int32 → Int32 → mS → Option (Int32 × mS)
  | 0, _, _, _, _, _, _, _, _, _ => none
  | n + 1, x3, x4, x5, x6, x7, x8, x9, x10, M => grd (mIn (M.1 64 18) 2) (if (M.1 75 (M.1 64 18).toNatClampNeg) ≤ x10 then (if x9 ≤ (x5 - x9) then (Mo_look_146 N k55 x3 x4 x5 x6 x7 x8 (x5 - x9) M) else (Mo_look_146 N k55 x3 x4 x5 x6 x7 x8 x9 M)) else (if ((x4 >>> (x10 &&& 31)) &&& 1) = 1 then (grd (mIn ((31 * x10) + x8) 124) (nxt (x9 + (((M.1 108 ((31 * x10) + x8).toNatClampNeg) >>> (x3 &&& 31)) &&& 1)) fun v3 => Mo_look_120 N k55 (Mo_look_73 N k55 n) x3 x4 x5 x6 x7 x8 v3 x10 M)) else (Mo_look_120 N k55 (Mo_look_73 N k55 n) x3 x4 x5 x6 x7 x8 x9 x10 M)))
def Mo_look_55 (N : Nat)  : Nat → Int32 → Int32 → Int32 → Int32 → Int32 → Int32 → mS → Option (Int32 × mS)
  | 0, _, _, _, _, _, _, _ => none
  | n + 1, x3, x4, x5, x6, x7, x8, M => if 30 < x8 then (some (x6, M)) else (if x5 ≤ 0 then (some (x6, M)) else (Mo_look_73 N (Mo_look_55 N n) N x3 x4 x5 x6 x7 x8 0 0 M))
/-- MoonDialsModel.look(III)I of .ref 64, .int a0, .int a1, .int a2 -/
def Mo_look (N : Nat) (a0 : Int32) (a1 : Int32) (a2 : Int32) (M : mS) : Option (Int32 × mS) := if (Mo_in a0 0 (M.1 64 62) M) = 0 then (some ((-1), M)) else (bR (Mo_isGoer N a1 M) fun r6 => if r6 = 0 then (some ((-1), M)) else (bR (Mo_isHour N a2 M) fun r9 => if r9 = 0 then (some ((-1), M)) else (bW (Mo_fitBits N a0 a1 M) fun r13 M12 => bR (Mo_bits N r13 M12) fun r15 => Mo_look_55 N N a2 r13 r15 (-2) 0 0 M12)))
