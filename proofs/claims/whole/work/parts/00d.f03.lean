/-! METHODS as functions: printed by program -/
def Md_nights_33 (N : Nat)  : Nat → Int32 → Int32 → mS → Option (Int32 × mS)
  | 0, _, _, _ => none
  | n + 1, x1, x2, M => if x1 ≤ x2 then (nxt (mWW M 34 (va_cpy (M.1 40) (M.1 34) (0 : Int32).toNatClampNeg (0 : Int32).toNatClampNeg (44 : Int32).toNatClampNeg)) fun M1 => some (M1.1 34 0, M1)) else (bV (Wk_see N (M.1 3 9) M) fun M3 => bV (Wk_addPairs N M3) fun M5 => bV (Wk_pass N M5) fun M7 => Md_nights_33 N n x1 (x2 + 1) M7)
/-- MoonDials.nights(I)I of .ref 0, .int a0 -/
def Md_nights (N : Nat) (a0 : Int32) (M : mS) : Option (Int32 × mS) := if (Md_isWithin a0 200 M) = 0 then (some ((-1), M)) else (if a0 ≤ 0 then (some (M.1 34 0, M)) else (bV (Md_keepForUndo N M) fun M10 => bV (Wk_begin N M10) fun M12 => Md_nights_33 N N a0 0 M12))
/-- MoonDials$Shelf.take(I[I)V of .ref 35, .int a0, .ref 34 -/
def Sh_take (N : Nat) (a0 : Int32) (M : mS) : Option mS := if a0 < 0 then (some M) else (if (M.1 35 1) ≤ a0 then (some M) else (grd (!(decide ((a0 * 44) < 0)) && !(decide ((0 : Int32) < 0)) && !(decide ((44 : Int32) < 0)) && Nat.ble ((a0 * 44).toNatClampNeg + (44 : Int32).toNatClampNeg) 1760 && Nat.ble ((0 : Int32).toNatClampNeg + (44 : Int32).toNatClampNeg) 44) (nxt (mWW M 34 (va_cpy (M.1 36) (M.1 34) (a0 * 44).toNatClampNeg (0 : Int32).toNatClampNeg (44 : Int32).toNatClampNeg)) fun M2 => some M2)))
/-- MoonDials.undo()Z of .ref 0 -/
def Md_undo (N : Nat)  (M : mS) : Option (Int32 × mS) := if (M.1 0 12) = 0 then (some (0, M)) else (bV (Sh_take N (M.1 0 13) M) fun M2 => bR (Md_rest N ((M2.1 0 13) - 1) 40 M2) fun r4 => nxt (mWI M2 0 13 r4) fun M5 => nxt (mWI M5 0 12 ((M5.1 0 12) - 1)) fun M6 => some (1, M6))
/-- MoonDials.isSet(I)Z of .ref 0, .int a0 -/
def Md_isSet (a0 : Int32) (M : mS) : Int32 := if (a0 >>> ((M.1 3 8) &&& 31)) = 0 then (if (Jl_bitCount a0 M) < 2 then 0 else 1) else 0
def Mt_hoursOfAll_44 (N : Nat) (k13 : Int32 → Int32 → Int32 → Option Int32) (M : mS) (x1 : Int32) (x2 : Int32) (x3 : Int32) : Option Int32 := k13 x1 x2 (x3 + 1)
def Mt_hoursOfAll_13 (N : Nat)  (M : mS) : Nat → Int32 → Int32 → Int32 → Option Int32
  | 0, _, _, _ => none
  | n + 1, x1, x2, x3 => if (M.1 3 8) ≤ x3 then (some x2) else (if ((x1 >>> (x3 &&& 31)) &&& 1) = 0 then (Mt_hoursOfAll_44 N (Mt_hoursOfAll_13 N M n) M x1 x2 x3) else (grd (mIn x3 5) (nxt (x2 &&& (M.1 41 x3.toNatClampNeg)) fun v2 => Mt_hoursOfAll_44 N (Mt_hoursOfAll_13 N M n) M x1 v2 x3)))
/-- MoonDials$Meetings.hoursOfAll(I)I of .ref 44, .int a0 -/
def Mt_hoursOfAll (N : Nat) (a0 : Int32) (M : mS) : Option Int32 := nxt (Md_allHours (M.1 3 6) M) fun v3 => Mt_hoursOfAll_13 N M N a0 v3 0
def Mt_firstNight_2 (N : Nat)  : Nat → Int32 → Int32 → Int32 → mS → Option (Int32 × mS)
  | 0, _, _, _, _ => none
  | n + 1, x1, x2, x3, M => if x2 < x3 then (some ((-2), M)) else (bV (Wk_see N (-1) M) fun M2 => bR (Mt_hoursOfAll N x1 M2) fun r4 => nxt (mWI M2 44 0 r4) fun M5 => if (M5.1 44 0) = 0 then (bV (Wk_pass N M5) fun M7 => Mt_firstNight_2 N n x1 x2 (x3 + 1) M7) else (some (x3, M5)))
/-- MoonDials$Meetings.firstNight(II)I of .ref 44, .int a0, .int a1 -/
def Mt_firstNight (N : Nat) (a0 : Int32) (a1 : Int32) (M : mS) : Option (Int32 × mS) := Mt_firstNight_2 N N a0 a1 0 M
/-- MoonDials.firstHour(I)I of .int a0 -/
def Md_firstHour (a0 : Int32) (M : mS) : Int32 := if a0 = 0 then (-1) else (Jl_bitCount ((a0 &&& (-a0)) - 1) M)
/-- MoonDials.meet(II)I of .ref 0, .int a0, .int a1 -/
def Md_meet (N : Nat) (a0 : Int32) (a1 : Int32) (M : mS) : Option (Int32 × mS) := if (Md_isSet a0 M) = 0 then (some ((-1), M)) else (if a1 < 0 then (some ((-1), M)) else (if a1 ≤ 2 then (bV (Wk_begin N M) fun M3 => bW (Mt_firstNight N a0 400 M3) fun r6 M5 => if r6 = (-2) then (some (r6, M5)) else (if a1 = 0 then (some (r6, M5)) else (if a1 = 1 then (some (Md_firstHour (M5.1 44 0) M5, M5)) else (some (Jl_bitCount (M5.1 44 0) M5, M5))))) else (some ((-1), M))))
def Tl_sharedHours_6 (N : Nat)  : Nat → Int32 → Int32 → Int32 → Int32 → Int32 → mS → Option (Int32 × mS)
  | 0, _, _, _, _, _, _ => none
  | n + 1, x1, x2, x3, x4, x5, M => if x3 ≤ x5 then (some (x4, M)) else (bV (Wk_see N (-1) M) fun M2 => bR (Wk_shared N x1 x2 M2) fun r4 => nxt (x4 + r4) fun v5 => bV (Wk_pass N M2) fun M7 => Tl_sharedHours_6 N n x1 x2 x3 v5 (x5 + 1) M7)
/-- MoonDials$Tallies.sharedHours(III)I of .ref 45, .int a0, .int a1, .int a2 -/
def Tl_sharedHours (N : Nat) (a0 : Int32) (a1 : Int32) (a2 : Int32) (M : mS) : Option (Int32 × mS) := Tl_sharedHours_6 N N a0 a1 a2 0 0 M
/-- MoonDials.often(III)I of .ref 0, .int a0, .int a1, .int a2 -/
def Md_often (N : Nat) (a0 : Int32) (a1 : Int32) (a2 : Int32) (M : mS) : Option (Int32 × mS) := if (Md_areTwo a0 a1 M) = 0 then (some ((-1), M)) else (if (Md_isWithin a2 200 M) = 0 then (some ((-1), M)) else (bV (Wk_begin N M) fun M4 => bW (Tl_sharedHours N a0 a1 a2 M4) fun r7 M6 => some (r7, M6)))
def Tl_lonelyHours_5 (N : Nat)  : Nat → Int32 → Int32 → Int32 → Int32 → mS → Option (Int32 × mS)
  | 0, _, _, _, _, _ => none
  | n + 1, x1, x2, x3, x4, M => if x2 ≤ x4 then (some (x3, M)) else (bV (Wk_see N (-1) M) fun M2 => grd (mIn x1 5) (nxt (x3 + (Jl_bitCount ((M2.1 41 x1.toNatClampNeg) &&& ((M2.1 39 3) ^^^ (-1))) M2)) fun v4 => bV (Wk_pass N M2) fun M6 => Tl_lonelyHours_5 N n x1 x2 v4 (x4 + 1) M6))
/-- MoonDials$Tallies.lonelyHours(II)I of .ref 45, .int a0, .int a1 -/
def Tl_lonelyHours (N : Nat) (a0 : Int32) (a1 : Int32) (M : mS) : Option (Int32 × mS) := Tl_lonelyHours_5 N N a0 a1 0 0 M
/-- MoonDials.alone(II)I of .ref 0, .int a0, .int a1 -/
def Md_alone (N : Nat) (a0 : Int32) (a1 : Int32) (M : mS) : Option (Int32 × mS) := if (Md_isGoer a0 M) = 0 then (some ((-1), M)) else (if (Md_isWithin a1 200 M) = 0 then (some ((-1), M)) else (bV (Wk_begin N M) fun M4 => bW (Tl_lonelyHours N a0 a1 M4) fun r7 M6 => some (r7, M6)))
def Tl_earnings_5 (N : Nat)  : Nat → Int32 → Int32 → Int32 → Int32 → mS → Option (Int32 × mS)
  | 0, _, _, _, _, _ => none
  | n + 1, x1, x2, x3, x4, M => if x2 ≤ x4 then (some (x3, M)) else (bV (Wk_see N (-1) M) fun M2 => grd (mIn x1 5) (bW (Wk_lawOfGoer N 2 x1 M2) fun r6 M5 => nxt (x3 + ((Jl_bitCount ((M2.1 41 x1.toNatClampNeg) &&& (M2.1 39 3)) M2) * r6)) fun v7 => bV (Wk_pass N M5) fun M9 => Tl_earnings_5 N n x1 x2 v7 (x4 + 1) M9))
/-- MoonDials$Tallies.earnings(II)I of .ref 45, .int a0, .int a1 -/
def Tl_earnings (N : Nat) (a0 : Int32) (a1 : Int32) (M : mS) : Option (Int32 × mS) := Tl_earnings_5 N N a0 a1 0 0 M
/-- MoonDials.earns(II)I of .ref 0, .int a0, .int a1 -/
def Md_earns (N : Nat) (a0 : Int32) (a1 : Int32) (M : mS) : Option (Int32 × mS) := if (Md_isGoer a0 M) = 0 then (some ((-1), M)) else (if (Md_isWithin a1 200 M) = 0 then (some ((-1), M)) else (bV (Wk_begin N M) fun M4 => bW (Tl_earnings N a0 a1 M4) fun r7 M6 => some (r7, M6)))
/-- MoonDials.outBehind(II)I of .ref 0, .int a0, .int a1 -/
def Md_outBehind (N : Nat) (a0 : Int32) (a1 : Int32) (M : mS) : Option Int32 := grd (mIn (1 + a0) 44) (grd (mIn (5 + a0) 44) (bR (Md_rest N ((M.1 34 (1 + a0).toNatClampNeg) + (a1 * (M.1 34 (5 + a0).toNatClampNeg))) (M.1 3 6) M) fun r4 => some r4))
def Md_right_12 (N : Nat)  (M : mS) : Nat → Int32 → Int32 → Option Int32
  | 0, _, _ => none
  | n + 1, x1, x2 => if (M.1 3 6) ≤ x2 then (some (-2)) else (bR (Md_outBehind N x1 x2 M) fun r2 => if r2 = 0 then (some x2) else (Md_right_12 N M n x1 (x2 + 1)))
/-- MoonDials.right(I)I of .ref 0, .int a0 -/
def Md_right (N : Nat) (a0 : Int32) (M : mS) : Option Int32 := if (Md_isDial a0 M) = 0 then (some (-1)) else (Md_right_12 N M N a0 0)
def Md_agree_20 (N : Nat)  (M : mS) : Nat → Int32 → Int32 → Int32 → Option Int32
  | 0, _, _, _ => none
  | n + 1, x1, x2, x3 => if (M.1 3 6) ≤ x3 then (some (-2)) else (bR (Md_outBehind N x1 x3 M) fun r2 => bR (Md_outBehind N x2 x3 M) fun r4 => if r2 = r4 then (some x3) else (Md_agree_20 N M n x1 x2 (x3 + 1)))
/-- MoonDials.agree(II)I of .ref 0, .int a0, .int a1 -/
def Md_agree (N : Nat) (a0 : Int32) (a1 : Int32) (M : mS) : Option Int32 := if (Md_isDial a0 M) = 0 then (some (-1)) else (if (Md_isDial a1 M) = 0 then (some (-1)) else (Md_agree_20 N M N a0 a1 0))
def Md_allOutAsNow_2 (N : Nat)  (M : mS) : Nat → Int32 → Int32 → Option Int32
  | 0, _, _ => none
  | n + 1, x1, x2 => if (M.1 3 7) ≤ x2 then (some 1) else (bR (Md_outBehind N x2 x1 M) fun r2 => grd (mIn (1 + x2) 44) (if r2 = (M.1 34 (1 + x2).toNatClampNeg) then (Md_allOutAsNow_2 N M n x1 (x2 + 1)) else (some 0)))
/-- MoonDials.allOutAsNow(I)Z of .ref 0, .int a0 -/
def Md_allOutAsNow (N : Nat) (a0 : Int32) (M : mS) : Option Int32 := Md_allOutAsNow_2 N M N a0 0
def Md_round_2 (N : Nat)  (M : mS) : Nat → Int32 → Option Int32
  | 0, _ => none
  | n + 1, x1 => if (M.1 3 6) ≤ x1 then (some (M.1 3 6)) else (bR (Md_allOutAsNow N x1 M) fun r2 => if r2 = 0 then (Md_round_2 N M n (x1 + 1)) else (some x1))
/-- MoonDials.round()I of .ref 0 -/
def Md_round (N : Nat)  (M : mS) : Option Int32 := Md_round_2 N M N 1
/-- MoonDials$Meetings.meetsWith([IIIII)Z of .ref 44, .ref 34, .int a0, .int a1, .int a2, .int a3 -/
def Mt_meetsWith (N : Nat) (a0 : Int32) (a1 : Int32) (a2 : Int32) (a3 : Int32) (M : mS) : Option (Int32 × mS) := bV (Wk_begin N M) fun M2 => grd (mIn a0 44) (nxt (mWI M2 40 a0.toNatClampNeg a1) fun M4 => bW (Mt_firstNight N a2 a3 M4) fun r7 M6 => if r7 = (-2) then (some (0, M6)) else (some (1, M6)))
def Mt_leastTurn_80 (N : Nat) (k3 : Int32 → Int32 → Int32 → Int32 → Int32 → mS → Option (Int32 × mS)) (x2 : Int32) (x3 : Int32) (x4 : Int32) (x5 : Int32) (x6 : Int32) (M : mS) : Option (Int32 × mS) := k3 x2 x3 x4 x5 (x6 + 1) M
def Mt_leastTurn_55 (N : Nat) (k3 : Int32 → Int32 → Int32 → Int32 → Int32 → mS → Option (Int32 × mS)) (x2 : Int32) (x3 : Int32) (x4 : Int32) (x5 : Int32) (x6 : Int32) (x7 : Int32) (M : mS) : Option (Int32 × mS) := if x4 = 0 then (some (x6, M)) else (bW (Mt_meetsWith N (1 + x2) x7 x4 x5 M) fun r3 M2 => if r3 = 0 then (some (x6, M2)) else (Mt_leastTurn_80 N k3 x2 x3 x4 x5 x6 M2))
def Mt_leastTurn_3 (N : Nat)  : Nat → Int32 → Int32 → Int32 → Int32 → Int32 → mS → Option (Int32 × mS)
  | 0, _, _, _, _, _, _ => none
  | n + 1, x2, x3, x4, x5, x6, M => if (M.1 3 6) ≤ x6 then (some ((-2), M)) else (grd (mIn (1 + x2) 44) (bR (Md_rest N ((M.1 34 (1 + x2).toNatClampNeg) + x6) (M.1 3 6) M) fun r7 => if x3 = 0 then (Mt_leastTurn_55 N (Mt_leastTurn_3 N n) x2 x3 x4 x5 x6 r7 M) else (bW (Mt_meetsWith N (1 + x2) r7 x3 x5 M) fun r10 M9 => if r10 = 0 then (Mt_leastTurn_80 N (Mt_leastTurn_3 N n) x2 x3 x4 x5 x6 M9) else (Mt_leastTurn_55 N (Mt_leastTurn_3 N n) x2 x3 x4 x5 x6 r7 M9))))
/-- MoonDials$Meetings.leastTurn([IIIII)I of .ref 44, .ref 34, .int a0, .int a1, .int a2, .int a3 -/
def Mt_leastTurn (N : Nat) (a0 : Int32) (a1 : Int32) (a2 : Int32) (a3 : Int32) (M : mS) : Option (Int32 × mS) := Mt_leastTurn_3 N N a0 a1 a2 a3 0 M
/-- MoonDials.turns(III)I of .ref 0, .int a0, .int a1, .int a2 -/
def Md_turns (N : Nat) (a0 : Int32) (a1 : Int32) (a2 : Int32) (M : mS) : Option (Int32 × mS) := if (Md_isDial a0 M) = 0 then (some ((-1), M)) else (if (Md_isSet a1 M) = 0 then (some ((-1), M)) else (if (Md_isWithin a2 60 M) = 0 then (some ((-1), M)) else (bW (Mt_leastTurn N a0 a1 0 a2 M) fun r6 M5 => some (r6, M5))))
/-- MoonDials.parts(III)I of .ref 0, .int a0, .int a1, .int a2 -/
def Md_parts (N : Nat) (a0 : Int32) (a1 : Int32) (a2 : Int32) (M : mS) : Option (Int32 × mS) := if (Md_isDial a0 M) = 0 then (some ((-1), M)) else (if (Md_isSet a1 M) = 0 then (some ((-1), M)) else (if (Md_isWithin a2 60 M) = 0 then (some ((-1), M)) else (bW (Mt_leastTurn N a0 0 a1 a2 M) fun r6 M5 => some (r6, M5))))
/-- MoonDials.knot(IIII)I of .ref 0, .int a0, .int a1, .int a2, .int a3 -/
def Md_knot (N : Nat) (a0 : Int32) (a1 : Int32) (a2 : Int32) (a3 : Int32) (M : mS) : Option (Int32 × mS) := if (Md_isDial a0 M) = 0 then (some ((-1), M)) else (if (Md_isSet a1 M) = 0 then (some ((-1), M)) else (if (Md_isSet a2 M) = 0 then (some ((-1), M)) else (if (Md_isWithin a3 60 M) = 0 then (some ((-1), M)) else (bW (Mt_leastTurn N a0 a1 a2 a3 M) fun r7 M6 => some (r7, M6)))))
def Mt_leastSlip_3 (N : Nat)  : Nat → Int32 → Int32 → Int32 → Int32 → mS → Option (Int32 × mS)
  | 0, _, _, _, _, _ => none
  | n + 1, x2, x3, x4, x5, M => if (M.1 3 6) ≤ x5 then (some ((-2), M)) else (bW (Mt_meetsWith N (5 + x2) x5 x3 x4 M) fun r3 M2 => if r3 = 0 then (Mt_leastSlip_3 N n x2 x3 x4 (x5 + 1) M2) else (some (x5, M2)))
/-- MoonDials$Meetings.leastSlip([IIII)I of .ref 44, .ref 34, .int a0, .int a1, .int a2 -/
def Mt_leastSlip (N : Nat) (a0 : Int32) (a1 : Int32) (a2 : Int32) (M : mS) : Option (Int32 × mS) := Mt_leastSlip_3 N N a0 a1 a2 0 M
/-- MoonDials.mend(III)I of .ref 0, .int a0, .int a1, .int a2 -/
def Md_mend (N : Nat) (a0 : Int32) (a1 : Int32) (a2 : Int32) (M : mS) : Option (Int32 × mS) := if (Md_isDial a0 M) = 0 then (some ((-1), M)) else (if (Md_isSet a1 M) = 0 then (some ((-1), M)) else (if (Md_isWithin a2 60 M) = 0 then (some ((-1), M)) else (bW (Mt_leastSlip N a0 a1 a2 M) fun r6 M5 => some (r6, M5))))
