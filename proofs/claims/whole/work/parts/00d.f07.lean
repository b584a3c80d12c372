/-! METHODS as functions: printed by program -/
/-- MoonDials.look(III)I of .ref 0, .int a0, .int a1, .int a2 -/
def Md_look (N : Nat) (a0 : Int32) (a1 : Int32) (a2 : Int32) (M : mS) : Option (Int32 × mS) := if (Md_isWithin a0 (M.1 59 0) M) = 0 then (some ((-1), M)) else (if (Md_isGoer a1 M) = 0 then (some ((-1), M)) else (if (Md_isHour a2 M) = 0 then (some ((-1), M)) else (bW (Rd_fitting N a0 a1 a2 M) fun r6 M5 => if r6 = 0 then (some ((-2), M5)) else (bR (Rd_bestNight N r6 M5) fun r8 => some (r8, M5)))))
/-- MoonDials$Shelf.put(I[I)V of .ref 37, .int a0, .ref 34 -/
def Sh_put_s1 (N : Nat) (a0 : Int32) (M : mS) : Option mS := if a0 < 0 then (some M) else (if (M.1 37 1) ≤ a0 then (some M) else (grd (!(decide ((0 : Int32) < 0)) && !(decide ((a0 * 44) < 0)) && !(decide ((44 : Int32) < 0)) && Nat.ble ((0 : Int32).toNatClampNeg + (44 : Int32).toNatClampNeg) 44 && Nat.ble ((a0 * 44).toNatClampNeg + (44 : Int32).toNatClampNeg) 132) (nxt (mWW M 38 (va_cpy (M.1 34) (M.1 38) (0 : Int32).toNatClampNeg (a0 * 44).toNatClampNeg (44 : Int32).toNatClampNeg)) fun M2 => some M2)))
/-- MoonDials.hold(I)Z of .ref 0, .int a0 -/
def Md_hold (N : Nat) (a0 : Int32) (M : mS) : Option (Int32 × mS) := if a0 < 0 then (some (0, M)) else (if a0 < 3 then (bV (Sh_put_s1 N a0 M) fun M2 => nxt (mWI M2 0 14 ((M2.1 0 14) ||| ((1 : Int32) <<< (a0 &&& 31)))) fun M3 => some (1, M3)) else (some (0, M)))
/-- MoonDials$Shelf.take(I[I)V of .ref 37, .int a0, .ref 34 -/
def Sh_take_s1 (N : Nat) (a0 : Int32) (M : mS) : Option mS := if a0 < 0 then (some M) else (if (M.1 37 1) ≤ a0 then (some M) else (grd (!(decide ((a0 * 44) < 0)) && !(decide ((0 : Int32) < 0)) && !(decide ((44 : Int32) < 0)) && Nat.ble ((a0 * 44).toNatClampNeg + (44 : Int32).toNatClampNeg) 132 && Nat.ble ((0 : Int32).toNatClampNeg + (44 : Int32).toNatClampNeg) 44) (nxt (mWW M 34 (va_cpy (M.1 38) (M.1 34) (a0 * 44).toNatClampNeg (0 : Int32).toNatClampNeg (44 : Int32).toNatClampNeg)) fun M2 => some M2)))
/-- MoonDials.restore(I)Z of .ref 0, .int a0 -/
def Md_restore (N : Nat) (a0 : Int32) (M : mS) : Option (Int32 × mS) := if a0 < 0 then (some (0, M)) else (if 3 ≤ a0 then (some (0, M)) else (if (((M.1 0 14) >>> (a0 &&& 31)) &&& 1) = 0 then (some (0, M)) else (bV (Sh_take_s1 N a0 M) fun M2 => nxt (mWI M2 0 12 0) fun M3 => some (1, M3))))
def Md_lonelyGoers_33 (N : Nat) (k4 : Int32 → Int32 → Option Int32) (M : mS) (x1 : Int32) (x2 : Int32) : Option Int32 := k4 x1 (x2 + 1)
def Md_lonelyGoers_4 (N : Nat)  (M : mS) : Nat → Int32 → Int32 → Option Int32
  | 0, _, _ => none
  | n + 1, x1, x2 => if (M.1 3 8) ≤ x2 then (some x1) else (grd (mIn (14 + x2) 44) (if (M.1 34 (14 + x2).toNatClampNeg) = 0 then (nxt (x1 ||| ((1 : Int32) <<< (x2 &&& 31))) fun v2 => Md_lonelyGoers_33 N (Md_lonelyGoers_4 N M n) M v2 x2) else (Md_lonelyGoers_33 N (Md_lonelyGoers_4 N M n) M x1 x2)))
/-- MoonDials.lonelyGoers()I of .ref 0 -/
def Md_lonelyGoers (N : Nat)  (M : mS) : Option Int32 := Md_lonelyGoers_4 N M N 0 0
def Md_unusedDials_14 (N : Nat)  (M : mS) : Nat → Int32 → Int32 → Option Int32
  | 0, _, _ => none
  | n + 1, x1, x2 => if (M.1 3 8) ≤ x2 then (some x1) else (grd (mIn (9 + x2) 44) (nxt (x1 &&& (((1 : Int32) <<< ((M.1 34 (9 + x2).toNatClampNeg) &&& 31)) ^^^ (-1))) fun v2 => Md_unusedDials_14 N M n v2 (x2 + 1)))
/-- MoonDials.unusedDials()I of .ref 0 -/
def Md_unusedDials (N : Nat)  (M : mS) : Option Int32 := nxt (((1 : Int32) <<< ((M.1 3 7) &&& 31)) - 1) fun v3 => Md_unusedDials_14 N M N v3 0
def Md_pairsMet_46 (N : Nat) (k4 : Int32 → Int32 → Option Int32) (k19 : Int32 → Int32 → Int32 → Option Int32) (M : mS) (x1 : Int32) (x2 : Int32) (x3 : Int32) : Option Int32 := k19 x1 x2 (x3 + 1)
def Md_pairsMet_19 (N : Nat) (k4 : Int32 → Int32 → Option Int32) (M : mS) : Nat → Int32 → Int32 → Int32 → Option Int32
  | 0, _, _, _ => none
  | n + 1, x1, x2, x3 => if (M.1 3 8) ≤ x3 then (k4 x1 (x2 + 1)) else (grd (mIn (Md_pair x2 x3 M) 44) (if (M.1 34 (Md_pair x2 x3 M).toNatClampNeg) ≤ 0 then (Md_pairsMet_46 N k4 (Md_pairsMet_19 N k4 M n) M x1 x2 x3) else (Md_pairsMet_46 N k4 (Md_pairsMet_19 N k4 M n) M (x1 + 1) x2 x3)))
def Md_pairsMet_4 (N : Nat)  (M : mS) : Nat → Int32 → Int32 → Option Int32
  | 0, _, _ => none
  | n + 1, x1, x2 => if (M.1 3 8) ≤ x2 then (some x1) else (nxt (x2 + 1) fun v2 => Md_pairsMet_19 N (Md_pairsMet_4 N M n) M N x1 x2 v2)
/-- MoonDials.pairsMet()I of .ref 0 -/
def Md_pairsMet (N : Nat)  (M : mS) : Option Int32 := Md_pairsMet_4 N M N 0 0
def Md_rightDials_32 (N : Nat) (k4 : Int32 → Int32 → Option Int32) (M : mS) (x1 : Int32) (x2 : Int32) : Option Int32 := k4 x1 (x2 + 1)
def Md_rightDials_4 (N : Nat)  (M : mS) : Nat → Int32 → Int32 → Option Int32
  | 0, _, _ => none
  | n + 1, x1, x2 => if (M.1 3 7) ≤ x2 then (some x1) else (grd (mIn (1 + x2) 44) (if (M.1 34 (1 + x2).toNatClampNeg) = 0 then (nxt (x1 ||| ((1 : Int32) <<< (x2 &&& 31))) fun v2 => Md_rightDials_32 N (Md_rightDials_4 N M n) M v2 x2) else (Md_rightDials_32 N (Md_rightDials_4 N M n) M x1 x2)))
/-- MoonDials.rightDials()I of .ref 0 -/
def Md_rightDials (N : Nat)  (M : mS) : Option Int32 := Md_rightDials_4 N M N 0 0
def Md_pairHours_19 (N : Nat) (k4 : Int32 → Int32 → Option Int32) (M : mS) : Nat → Int32 → Int32 → Int32 → Option Int32
  | 0, _, _, _ => none
  | n + 1, x1, x2, x3 => if (M.1 3 8) ≤ x3 then (k4 x1 (x2 + 1)) else (grd (mIn (Md_pair x2 x3 M) 44) (nxt (x1 + (M.1 34 (Md_pair x2 x3 M).toNatClampNeg)) fun v2 => Md_pairHours_19 N k4 M n v2 x2 (x3 + 1)))
def Md_pairHours_4 (N : Nat)  (M : mS) : Nat → Int32 → Int32 → Option Int32
  | 0, _, _ => none
  | n + 1, x1, x2 => if (M.1 3 8) ≤ x2 then (some x1) else (nxt (x2 + 1) fun v3 => Md_pairHours_19 N (Md_pairHours_4 N M n) M N x1 x2 v3)
/-- MoonDials.pairHours()I of .ref 0 -/
def Md_pairHours (N : Nat)  (M : mS) : Option Int32 := Md_pairHours_4 N M N 0 0
def Md_darkDials_39 (N : Nat) (k4 : Int32 → Int32 → mS → Option (Int32 × mS)) (x1 : Int32) (x2 : Int32) (M : mS) : Option (Int32 × mS) := k4 x1 (x2 + 1) M
def Md_darkDials_4 (N : Nat)  : Nat → Int32 → Int32 → mS → Option (Int32 × mS)
  | 0, _, _, _ => none
  | n + 1, x1, x2, M => if (M.1 3 7) ≤ x2 then (some (x1, M)) else (bW (Wk_isDark N x2 (M.1 3 9) M) fun r3 M2 => if r3 = 0 then (Md_darkDials_39 N (Md_darkDials_4 N n) x1 x2 M2) else (nxt (x1 ||| ((1 : Int32) <<< (x2 &&& 31))) fun v5 => Md_darkDials_39 N (Md_darkDials_4 N n) v5 x2 M2))
/-- MoonDials.darkDials()I of .ref 0 -/
def Md_darkDials (N : Nat)  (M : mS) : Option (Int32 × mS) := Md_darkDials_4 N N 0 0 M
def Md_whoComes_33 (N : Nat) (k4 : Int32 → Int32 → mS → Option (Int32 × mS)) (x1 : Int32) (x2 : Int32) (M : mS) : Option (Int32 × mS) := k4 x1 (x2 + 1) M
def Md_whoComes_4 (N : Nat)  : Nat → Int32 → Int32 → mS → Option (Int32 × mS)
  | 0, _, _, _ => none
  | n + 1, x1, x2, M => if (M.1 3 8) ≤ x2 then (some (x1, M)) else (bW (Wk_lawOfGoer N 0 x2 M) fun r3 M2 => if r3 ≤ 0 then (Md_whoComes_33 N (Md_whoComes_4 N n) x1 x2 M2) else (nxt (x1 ||| ((1 : Int32) <<< (x2 &&& 31))) fun v4 => Md_whoComes_33 N (Md_whoComes_4 N n) v4 x2 M2))
/-- MoonDials.whoComes()I of .ref 0 -/
def Md_whoComes (N : Nat)  (M : mS) : Option (Int32 × mS) := Md_whoComes_4 N N 0 0 M
/-- MoonDials.countOfNight(I)I of .ref 0, .int a0 -/
def Md_countOfNight (N : Nat) (a0 : Int32) (M : mS) : Option (Int32 × mS) := bV (Md_seeThisNight N M) fun M2 => if a0 = 5 then (bW (Md_whoComes N M2) fun r5 M4 => some (r5, M4)) else if a0 = 6 then (some ((Md_allHours (M2.1 3 6) M2) &&& ((M2.1 39 2) ^^^ (-1)), M2)) else if a0 = 7 then (bW (Md_darkDials N M2) fun r8 M7 => some (r8, M7)) else if a0 = 13 then (some (M2.1 39 3, M2)) else some ((-1), M2)
/-- MoonDials.count(I)I of .ref 0, .int a0 -/
def Md_count (N : Nat) (a0 : Int32) (M : mS) : Option (Int32 × mS) := if a0 = 0 then (some (M.1 3 6, M)) else if a0 = 1 then (some (M.1 3 7, M)) else if a0 = 2 then (some (M.1 3 8, M)) else if a0 = 3 then (some (M.1 34 0, M)) else if a0 = 4 then (bR (Md_pairHours N M) fun r2 => some (r2, M)) else if a0 = 8 then (some (M.1 1 1, M)) else if a0 = 9 then (some (M.1 0 12, M)) else if a0 = 10 then (some (M.1 59 0, M)) else if a0 = 11 then (some (Jl_bitCount (M.1 0 14) M, M)) else if a0 = 12 then (bR (Md_rightDials N M) fun r4 => some (r4, M)) else if a0 = 14 then (bR (Md_pairsMet N M) fun r6 => some (r6, M)) else if a0 = 15 then (bR (Md_unusedDials N M) fun r8 => some (r8, M)) else if a0 = 16 then (bR (Md_lonelyGoers N M) fun r10 => some (r10, M)) else bW (Md_countOfNight N a0 M) fun r13 M12 => some (r13, M12)
def Mo_lays_3 (N : Nat)  : Nat → Int32 → Int32 → mS → Option mS
  | 0, _, _, _ => none
  | n + 1, x1, x2, M => if x2 < 0 then (some M) else (grd (mIn (M.1 64 2) 2000) (nxt (mWI M 65 (M.1 64 2).toNatClampNeg (vp_nar .byte ((x1 >>> (x2 &&& 31)).toInt8.toInt32))) fun M2 => nxt (mWI M2 64 2 ((M2.1 64 2) + 1)) fun M3 => Mo_lays_3 N n x1 (x2 + (-8)) M3))
/-- MoonDialsModel.lays(I)V of .ref 64, .int a0 -/
def Mo_lays (N : Nat) (a0 : Int32) (M : mS) : Option mS := Mo_lays_3 N N a0 24 M
/-- MoonDialsModel.feed(IIIII)I of .ref 64, .int a0, .int a1, .int a2, .int a3, .int a4 -/
def Mo_feed (N : Nat) (a0 : Int32) (a1 : Int32) (a2 : Int32) (a3 : Int32) (a4 : Int32) (M : mS) : Option (Int32 × mS) := if ((M.1 64 2) + 20) ≤ 2000 then (bV (Mo_lays N a0 M) fun M2 => bV (Mo_lays N a1 M2) fun M4 => bV (Mo_lays N a2 M4) fun M6 => bV (Mo_lays N a3 M6) fun M8 => bV (Mo_lays N a4 M8) fun M10 => some (M10.1 64 2, M10)) else (some ((-1), M))
/-- MoonDialsModel.back(I)I of .ref 64, .int a0 -/
def Mo_back (N : Nat) (a0 : Int32) (M : mS) : Option (Int32 × mS) := if a0 < 0 then (some ((-1), M)) else (if a0 ≤ (M.1 64 2) then (nxt (mWI M 64 2 ((M.1 64 2) - a0)) fun M1 => some (M1.1 64 2, M1)) else (some ((-1), M)))
/-- MoonDialsModel.byteAt(I)I of .ref 64, .int a0 -/
def Mo_byteAt (N : Nat) (a0 : Int32) (M : mS) : Option Int32 := if (M.1 64 4) ≤ a0 then (some 0) else (grd (mIn a0 2000) (some ((M.1 66 a0.toNatClampNeg) &&& 255)))
/-- MoonDialsModel.isLetter(I)Z of .int a0 -/
def Mo_isLetter (a0 : Int32) (M : mS) : Int32 := if a0 < 97 then 0 else (if 122 < a0 then 0 else 1)
/-- MoonDialsModel.isDigit(I)Z of .int a0 -/
def Mo_isDigit (a0 : Int32) (M : mS) : Int32 := if a0 < 48 then 0 else (if 57 < a0 then 0 else 1)
/-- MoonDialsModel.token(IIIJ)V of .ref 64, .int a0, .int a1, .int a2, .long a3 -/
def Mo_token (N : Nat) (a0 : Int32) (a1 : Int32) (a2 : Int32) (a3 : Int64) (M : mS) : Option mS := grd (mIn (M.1 64 10) 403) (nxt (mWI M 67 (M.1 64 10).toNatClampNeg a0) fun M2 => grd (mIn (M2.1 64 10) 403) (nxt (mWI M2 68 (M2.1 64 10).toNatClampNeg a1) fun M4 => grd (mIn (M4.1 64 10) 403) (nxt (mWI M4 69 (M4.1 64 10).toNatClampNeg a2) fun M6 => grd (mIn (M6.1 64 10) 403) (nxt (mWL M6 70 (M6.1 64 10).toNatClampNeg a3) fun M8 => nxt (mWI M8 64 10 ((M8.1 64 10) + 1)) fun M9 => some M9))))
def Mo_sign_95 (N : Nat) (x1 : Int32) (x4 : Int32) (M : mS) : Option (Int32 × mS) := bV (Mo_token N x4 x1 0 0 M) fun M2 => some (1, M2)
def Mo_sign_85 (N : Nat) (x1 : Int32) (x2 : Int32) (x4 : Int32) (M : mS) : Option (Int32 × mS) := if x2 = 60 then (Mo_sign_95 N x1 13 M) else (Mo_sign_95 N x1 x4 M)
def Mo_sign_75 (N : Nat) (x1 : Int32) (x2 : Int32) (x4 : Int32) (M : mS) : Option (Int32 × mS) := if x2 = 47 then (Mo_sign_85 N x1 x2 15 M) else (Mo_sign_85 N x1 x2 x4 M)
def Mo_sign_65 (N : Nat) (x1 : Int32) (x2 : Int32) (x4 : Int32) (M : mS) : Option (Int32 × mS) := if x2 = 42 then (Mo_sign_75 N x1 x2 10 M) else (Mo_sign_75 N x1 x2 x4 M)
def Mo_sign_55 (N : Nat) (x1 : Int32) (x2 : Int32) (x4 : Int32) (M : mS) : Option (Int32 × mS) := if x2 = 45 then (Mo_sign_65 N x1 x2 9 M) else (Mo_sign_65 N x1 x2 x4 M)
def Mo_sign_43 (N : Nat) (x1 : Int32) (x2 : Int32) (z0 : Int32) (M : mS) : Option (Int32 × mS) := if x2 = 43 then (Mo_sign_55 N x1 x2 8 M) else (Mo_sign_55 N x1 x2 z0 M)
/-- MoonDialsModel.sign(III)I of .ref 64, .int a0, .int a1, .int a2 -/
def Mo_sign (N : Nat) (a0 : Int32) (a1 : Int32) (a2 : Int32) (M : mS) : Option (Int32 × mS) := if a1 = 59 then (Mo_sign_43 N a0 a1 4 M) else (if a1 = 61 then (Mo_sign_43 N a0 a1 5 M) else (if a1 = 40 then (Mo_sign_43 N a0 a1 6 M) else (if a1 = 41 then (Mo_sign_43 N a0 a1 7 M) else (Mo_sign_43 N a0 a1 3 M))))
/-- MoonDialsModel.appends(JI)J of .long a0, .int a1 -/
def Mo_appends (a0 : Int64) (a1 : Int32) (M : mS) : Int64 := if a1 = 0 then a0 else ((27 * a0) + (((a1 - 97) + 1).toInt64))
def Mo_cut_291 (N : Nat) (k7 : Int32 → mS → Option mS) (x1 : Int32) (M : mS) : Option mS := k7 x1 M
def Mo_cut_67 (N : Nat) (k7 : Int32 → mS → Option mS) (x1 : Int32) (M : mS) : Option mS := Mo_cut_291 N k7 (x1 + 1) M
def Mo_cut_118 (N : Nat) (k7 : Int32 → mS → Option mS) (k85 : Int32 → Int32 → Int64 → mS → Option mS) (x1 : Int32) (x3 : Int32) (x4 : Int64) (M : mS) : Option mS := k85 x1 (x3 + 1) x4 M
def Mo_cut_173 (N : Nat) (k7 : Int32 → mS → Option mS) (k146 : Int32 → Int32 → Int64 → Int32 → Int32 → mS → Option mS) (x1 : Int32) (x3 : Int32) (x4 : Int64) (x6 : Int32) (x7 : Int32) (M : mS) : Option mS := k146 x1 x3 x4 x6 (x7 + 1) M
def Mo_cut_179 (N : Nat) (k7 : Int32 → mS → Option mS) (x1 : Int32) (x3 : Int32) (x4 : Int64) (x6 : Int32) (M : mS) : Option mS := bV (Mo_token N x6 x1 0 x4 M) fun M2 => nxt (x1 + x3) fun v3 => Mo_cut_291 N k7 v3 M2
def Mo_cut_146 (N : Nat) (k7 : Int32 → mS → Option mS) : Nat → Int32 → Int32 → Int64 → Int32 → Int32 → mS → Option mS
  | 0, _, _, _, _, _, _ => none
  | n + 1, x1, x3, x4, x6, x7, M => if 20 ≤ x7 then (Mo_cut_179 N k7 x1 x3 x4 x6 M) else (grd (mIn x7 20) (if (lg_cmp (M.2 71 x7.toNatClampNeg) x4) = 0 then (nxt (20 + x7) fun v5 => Mo_cut_173 N k7 (Mo_cut_146 N k7 n) x1 x3 x4 v5 x7 M) else (Mo_cut_173 N k7 (Mo_cut_146 N k7 n) x1 x3 x4 x6 x7 M)))
def Mo_cut_135 (N : Nat) (k7 : Int32 → mS → Option mS) (x1 : Int32) (x3 : Int32) (x4 : Int64) (z0 : Int32) (M : mS) : Option mS := if 8 < x3 then (Mo_cut_179 N k7 x1 x3 x4 z0 M) else (Mo_cut_146 N k7 N x1 x3 x4 z0 0 M)
def Mo_cut_85 (N : Nat) (k7 : Int32 → mS → Option mS) : Nat → Int32 → Int32 → Int64 → mS → Option mS
  | 0, _, _, _, _ => none
  | n + 1, x1, x3, x4, M => bR (Mo_byteAt N (x1 + x3) M) fun r7 => if (Mo_isLetter r7 M) = 0 then (if x3 ≤ 8 then (Mo_cut_135 N k7 x1 x3 x4 1 M) else (Mo_cut_135 N k7 x1 x3 x4 3 M)) else (if 8 ≤ x3 then (Mo_cut_118 N k7 (Mo_cut_85 N k7 n) x1 x3 x4 M) else (bR (Mo_byteAt N (x1 + x3) M) fun r10 => nxt (Mo_appends x4 r10 M) fun v11 => Mo_cut_118 N k7 (Mo_cut_85 N k7 n) x1 x3 v11 M))
def Mo_cut_244 (N : Nat) (k7 : Int32 → mS → Option mS) (k208 : Int32 → Int32 → Int32 → mS → Option mS) (x1 : Int32) (x3 : Int32) (x4 : Int32) (M : mS) : Option mS := k208 x1 (x3 + 1) x4 M
def Mo_cut_261 (N : Nat) (k7 : Int32 → mS → Option mS) (x1 : Int32) (x3 : Int32) (x4 : Int32) (z1 : Int32) (M : mS) : Option mS := bV (Mo_token N z1 x1 x4 0 M) fun M13 => nxt (x1 + x3) fun v14 => Mo_cut_291 N k7 v14 M13
def Mo_cut_208 (N : Nat) (k7 : Int32 → mS → Option mS) : Nat → Int32 → Int32 → Int32 → mS → Option mS
  | 0, _, _, _, _ => none
  | n + 1, x1, x3, x4, M => bR (Mo_byteAt N (x1 + x3) M) fun r16 => if (Mo_isDigit r16 M) = 0 then (if x3 ≤ 4 then (Mo_cut_261 N k7 x1 x3 x4 2 M) else (Mo_cut_261 N k7 x1 x3 x4 3 M)) else (if 4 ≤ x3 then (Mo_cut_244 N k7 (Mo_cut_208 N k7 n) x1 x3 x4 M) else (bR (Mo_byteAt N (x1 + x3) M) fun r19 => nxt (((10 * x4) + r19) - 48) fun v20 => Mo_cut_244 N k7 (Mo_cut_208 N k7 n) x1 x3 v20 M))
def Mo_cut_7 (N : Nat)  : Nat → Int32 → mS → Option mS
  | 0, _, _ => none
  | n + 1, x1, M => if 400 < (M.1 64 10) then (some M) else (bR (Mo_byteAt N x1 M) fun r22 => if x1 < (M.1 64 4) then (if r22 = 9 then (Mo_cut_67 N (Mo_cut_7 N n) x1 M) else (if r22 = 10 then (Mo_cut_67 N (Mo_cut_7 N n) x1 M) else (if r22 = 13 then (Mo_cut_67 N (Mo_cut_7 N n) x1 M) else (if r22 = 32 then (Mo_cut_67 N (Mo_cut_7 N n) x1 M) else (if (Mo_isLetter r22 M) = 0 then (if (Mo_isDigit r22 M) = 0 then (bR (Mo_byteAt N (x1 + 1) M) fun r26 => bW (Mo_sign N x1 r22 r26 M) fun r29 M28 => nxt (x1 + r29) fun v30 => Mo_cut_291 N (Mo_cut_7 N n) v30 M28) else (Mo_cut_208 N (Mo_cut_7 N n) N x1 0 0 M)) else (Mo_cut_85 N (Mo_cut_7 N n) N x1 0 0 M)))))) else (bV (Mo_token N 0 (M.1 64 4) 0 0 M) fun M32 => some M32))
/-- MoonDialsModel.cut()V of .ref 64 -/
def Mo_cut (N : Nat)  (M : mS) : Option mS := nxt (mWI M 64 10 0) fun M33 => Mo_cut_7 N N 0 M33
