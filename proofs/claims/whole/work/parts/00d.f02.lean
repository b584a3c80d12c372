/-! METHODS as functions: printed by program -/
/-- MoonDials.held(II)I of .int a0, .int a1 -/
def Md_held (a0 : Int32) (a1 : Int32) (M : mS) : Int32 := if 0 ≤ a0 then (if a0 ≤ a1 then a0 else a1) else 0
/-- MoonDials$Walk.dims(I)I of .ref 39, .int a0 -/
def Wk_dims (N : Nat) (a0 : Int32) (M : mS) : Option (Int32 × mS) := bV (Wk_setVars N a0 a0 M) fun M2 => nxt (mWI M2 5 3 0) fun M3 => nxt (mWI M3 5 4 0) fun M4 => nxt (mWI M4 5 5 0) fun M5 => bW (La_say N 3 M5) fun r8 M7 => some (Md_held r8 100 M7, M7)
/-- MoonDials$Walk.isDark(II)Z of .ref 39, .int a0, .int a1 -/
def Wk_isDark (N : Nat) (a0 : Int32) (a1 : Int32) (M : mS) : Option (Int32 × mS) := bR (Md_lot N 100 a1 (Wk_which a0 M) M) fun r2 => bW (Wk_dims N a0 M) fun r5 M4 => if r5 ≤ r2 then (some (0, M4)) else (some (1, M4))
/-- MoonDials.dial(II)I of .ref 0, .int a0, .int a1 -/
def Md_dial (N : Nat) (a0 : Int32) (a1 : Int32) (M : mS) : Option (Int32 × mS) := if (Md_isDial a0 M) = 0 then (some ((-1), M)) else (bV (Wk_begin N M) fun M3 => if a1 = 0 then (grd (mIn (1 + a0) 44) (some (M3.1 34 (1 + a0).toNatClampNeg, M3))) else if a1 = 1 then (grd (mIn (5 + a0) 44) (some (M3.1 34 (5 + a0).toNatClampNeg, M3))) else if a1 = 2 then (bW (Wk_dims N a0 M3) fun r8 M7 => some (r8, M7)) else if a1 = 3 then (bW (Wk_isDark N a0 (M3.1 3 9) M3) fun r11 M10 => if r11 = 0 then (some (0, M10)) else (some (1, M10))) else some ((-1), M3))
/-- MoonDials.isHour(I)Z of .ref 0, .int a0 -/
def Md_isHour (a0 : Int32) (M : mS) : Int32 := if a0 < 0 then 0 else (if (M.1 3 6) ≤ a0 then 0 else 1)
/-- MoonDials.shows(II)I of .ref 0, .int a0, .int a1 -/
def Md_shows (N : Nat) (a0 : Int32) (a1 : Int32) (M : mS) : Option Int32 := if (Md_isDial a0 M) = 0 then (some (-1)) else (if (Md_isHour a1 M) = 0 then (some (-1)) else (grd (mIn (1 + a0) 44) (bR (Md_rest N (a1 + (M.1 34 (1 + a0).toNatClampNeg)) (M.1 3 6) M) fun r5 => some r5)))
/-- MoonDials.isGoer(I)Z of .ref 0, .int a0 -/
def Md_isGoer (a0 : Int32) (M : mS) : Int32 := if a0 < 0 then 0 else (if (M.1 3 8) ≤ a0 then 0 else 1)
/-- MoonDials$Walk.dialOf(I)I of .ref 39, .int a0 -/
def Wk_dialOf (N : Nat) (a0 : Int32) (M : mS) : Option Int32 := grd (mIn (9 + a0) 44) (some (Md_held (M.1 40 (9 + a0).toNatClampNeg) 3 M))
def Wk_lawOfGoer_96 (N : Nat) (z0 : Int32) (z1 : Int32) (M : mS) : Option (Int32 × mS) := some (Md_held z0 z1 M, M)
/-- MoonDials$Walk.lawOfGoer(II)I of .ref 39, .int a0, .int a1 -/
def Wk_lawOfGoer (N : Nat) (a0 : Int32) (a1 : Int32) (M : mS) : Option (Int32 × mS) := bR (Wk_dialOf N a1 M) fun r2 => bV (Wk_setVars N r2 a1 M) fun M4 => grd (mIn a1 5) (nxt (mWI M4 5 3 (M4.1 12 a1.toNatClampNeg)) fun M6 => grd (mIn a1 5) (nxt (mWI M6 5 4 (M6.1 13 a1.toNatClampNeg)) fun M8 => grd (mIn (14 + a1) 44) (nxt (mWI M8 5 5 (M8.1 40 (14 + a1).toNatClampNeg)) fun M10 => bW (La_say N a0 M10) fun r13 M12 => if a0 = 0 then (some (r13, M12)) else (if a0 = 1 then (Wk_lawOfGoer_96 N r13 (M12.1 3 6) M12) else (Wk_lawOfGoer_96 N r13 99 M12)))))
/-- MoonDials.goer(II)I of .ref 0, .int a0, .int a1 -/
def Md_goer (N : Nat) (a0 : Int32) (a1 : Int32) (M : mS) : Option (Int32 × mS) := if (Md_isGoer a0 M) = 0 then (some ((-1), M)) else (bV (Wk_begin N M) fun M3 => if a1 = 0 then (grd (mIn (9 + a0) 44) (some (M3.1 34 (9 + a0).toNatClampNeg, M3))) else if a1 = 1 then (grd (mIn a0 5) (some (M3.1 12 a0.toNatClampNeg, M3))) else if a1 = 2 then (grd (mIn a0 5) (some (M3.1 13 a0.toNatClampNeg, M3))) else if a1 = 3 then (bW (Wk_lawOfGoer N 0 a0 M3) fun r9 M8 => if r9 ≤ 0 then (some (0, M8)) else (some (1, M8))) else if a1 = 4 then (bW (Wk_lawOfGoer N 1 a0 M3) fun r12 M11 => some (r12, M11)) else if a1 = 5 then (bW (Wk_lawOfGoer N 2 a0 M3) fun r15 M14 => some (r15, M14)) else if a1 = 6 then (grd (mIn (14 + a0) 44) (some (M3.1 34 (14 + a0).toNatClampNeg, M3))) else some ((-1), M3))
/-- MoonDials.areTwo(II)Z of .ref 0, .int a0, .int a1 -/
def Md_areTwo (a0 : Int32) (a1 : Int32) (M : mS) : Int32 := if (Md_isGoer a0 M) = 0 then 0 else (if (Md_isGoer a1 M) = 0 then 0 else (if a0 = a1 then 0 else 1))
/-- MoonDials.pair(II)I of .int a0, .int a1 -/
def Md_pair (a0 : Int32) (a1 : Int32) (M : mS) : Int32 := (19 + (a0 * 5)) + a1
/-- MoonDials.together(II)I of .ref 0, .int a0, .int a1 -/
def Md_together (N : Nat) (a0 : Int32) (a1 : Int32) (M : mS) : Option Int32 := if (Md_areTwo a0 a1 M) = 0 then (some (-1)) else (grd (mIn (Md_pair a0 a1 M) 44) (some (M.1 34 (Md_pair a0 a1 M).toNatClampNeg)))
/-- MoonDials.allHours(I)I of .int a0 -/
def Md_allHours (a0 : Int32) (M : mS) : Int32 := ((1 : Int32) <<< (a0 &&& 31)) - 1
/-- MoonDials$Walk.arc(II)I of .ref 39, .int a0, .int a1 -/
def Wk_arc (N : Nat) (a0 : Int32) (a1 : Int32) (M : mS) : Option Int32 := bR (Md_rest N a0 (M.1 3 6) M) fun r2 => nxt (Md_allHours a1 M) fun v3 => some (((v3 <<< (r2 &&& 31)) ||| (ushr v3 ((M.1 3 6) - r2))) &&& (Md_allHours (M.1 3 6) M))
/-- MoonDials$Laws.changes(I)Z of .ref 4, .int a0 -/
def La_changes (a0 : Int32) (M : mS) : Int32 := if (((M.1 4 5) >>> (a0 &&& 31)) &&& 1) = 0 then 0 else 1
def Wk_see_125 (N : Nat) (k53 : Int32 → Int32 → Int32 → mS → Option mS) (x1 : Int32) (x2 : Int32) (x3 : Int32) (z1 : Int32) (z2 : Int32) (M : mS) : Option mS := grd (mIn z1 4) (nxt (mWI M 42 z1.toNatClampNeg z2) fun M2 => k53 x1 x2 (x3 + 1) M2)
def Wk_see_83 (N : Nat) (k53 : Int32 → Int32 → Int32 → mS → Option mS) (x1 : Int32) (x2 : Int32) (x3 : Int32) (z0 : Int32) (M : mS) : Option mS := if z0 = 0 then (grd (mIn (1 + x3) 44) (Wk_see_125 N k53 x1 x2 x3 x3 (M.1 40 (1 + x3).toNatClampNeg) M)) else (bR (Md_lot N (M.1 3 6) x1 (100000 + (Wk_which x3 M)) M) fun r5 => Wk_see_125 N k53 x1 x2 x3 x3 r5 M)
def Wk_see_82 (N : Nat) (k53 : Int32 → Int32 → Int32 → mS → Option mS) (x1 : Int32) (x2 : Int32) (x3 : Int32) (M : mS) : Option mS := Wk_see_83 N k53 x1 x2 x3 0 M
def Wk_see_174 (N : Nat) (k134 : Int32 → Int32 → mS → Option mS) (x2 : Int32) (x3 : Int32) (M : mS) : Option mS := grd (mIn x3 5) (bR (Wk_dialOf N x3 M) fun r8 => grd (mIn r8 4) (grd (mIn x3 5) (bR (Wk_arc N ((M.1 12 x3.toNatClampNeg) - (M.1 42 r8.toNatClampNeg)) (M.1 43 x3.toNatClampNeg) M) fun r12 => grd (mIn x3 5) (nxt (mWI M 41 x3.toNatClampNeg r12) fun M14 => grd (mIn x3 5) (nxt (mWI M14 39 3 ((M14.1 39 3) ||| ((M14.1 39 2) &&& (M14.1 41 x3.toNatClampNeg)))) fun M16 => grd (mIn x3 5) (nxt (mWI M16 39 2 ((M16.1 39 2) ||| (M16.1 41 x3.toNatClampNeg))) fun M18 => k134 x2 (x3 + 1) M18))))))
def Wk_see_173 (N : Nat) (k134 : Int32 → Int32 → mS → Option mS) (x2 : Int32) (x3 : Int32) (z1 : Int32) (z2 : Int32) (M : mS) : Option mS := grd (mIn z1 5) (nxt (mWI M 43 z1.toNatClampNeg z2) fun M20 => Wk_see_174 N k134 x2 x3 M20)
def Wk_see_134 (N : Nat)  : Nat → Int32 → Int32 → mS → Option mS
  | 0, _, _, _ => none
  | n + 1, x2, x3, M => if (M.1 3 8) ≤ x3 then (nxt (mWI M 39 7 1) fun M21 => some M21) else (if x2 = 0 then (Wk_see_174 N (Wk_see_134 N n) x2 x3 M) else (bW (Wk_lawOfGoer N 0 x3 M) fun r24 M23 => if r24 ≤ 0 then (Wk_see_173 N (Wk_see_134 N n) x2 x3 x3 0 M23) else (bW (Wk_lawOfGoer N 1 x3 M23) fun r27 M26 => Wk_see_173 N (Wk_see_134 N n) x2 x3 x3 r27 M26)))
def Wk_see_53 (N : Nat)  : Nat → Int32 → Int32 → Int32 → mS → Option mS
  | 0, _, _, _, _ => none
  | n + 1, x1, x2, x3, M => if (M.1 3 7) ≤ x3 then (Wk_see_134 N N x2 0 M) else (if x1 = (-1) then (Wk_see_82 N (Wk_see_53 N n) x1 x2 x3 M) else (bW (Wk_isDark N x3 x1 M) fun r30 M29 => if r30 = 0 then (Wk_see_82 N (Wk_see_53 N n) x1 x2 x3 M29) else (Wk_see_83 N (Wk_see_53 N n) x1 x2 x3 1 M29)))
def Wk_see_40 (N : Nat) (x1 : Int32) (z0 : Int32) (M : mS) : Option mS := nxt (mWI M 39 2 0) fun M32 => nxt (mWI M32 39 3 0) fun M33 => Wk_see_53 N N x1 z0 0 M33
def Wk_see_35 (N : Nat) (x1 : Int32) (M : mS) : Option mS := Wk_see_40 N x1 1 M
/-- MoonDials$Walk.see(I)V of .ref 39, .int a0 -/
def Wk_see (N : Nat) (a0 : Int32) (M : mS) : Option mS := if (M.1 39 7) = 0 then (Wk_see_35 N a0 M) else (if (La_changes 0 M) = 0 then (if (La_changes 1 M) = 0 then (Wk_see_40 N a0 0 M) else (Wk_see_35 N a0 M)) else (Wk_see_35 N a0 M))
/-- MoonDials.seeThisNight()V of .ref 0 -/
def Md_seeThisNight (N : Nat)  (M : mS) : Option mS := bV (Wk_begin N M) fun M2 => bV (Wk_see N (-1) M2) fun M4 => some M4
def Wk_whoAt_4 (N : Nat)  (M : mS) : Nat → Int32 → Int32 → Int32 → Option Int32
  | 0, _, _, _ => none
  | n + 1, x1, x2, x3 => if (M.1 3 8) ≤ x3 then (some x2) else (grd (mIn x3 5) (nxt (x2 ||| ((((M.1 41 x3.toNatClampNeg) >>> (x1 &&& 31)) &&& 1) <<< (x3 &&& 31))) fun v2 => Wk_whoAt_4 N M n x1 v2 (x3 + 1)))
/-- MoonDials$Walk.whoAt(I)I of .ref 39, .int a0 -/
def Wk_whoAt (N : Nat) (a0 : Int32) (M : mS) : Option Int32 := Wk_whoAt_4 N M N a0 0 0
/-- MoonDials.there(I)I of .ref 0, .int a0 -/
def Md_there (N : Nat) (a0 : Int32) (M : mS) : Option (Int32 × mS) := if (Md_isHour a0 M) = 0 then (some ((-1), M)) else (bV (Md_seeThisNight N M) fun M3 => bR (Wk_whoAt N a0 M3) fun r5 => some (r5, M3))
/-- MoonDials$Shelf.put(I[I)V of .ref 35, .int a0, .ref 34 -/
def Sh_put (N : Nat) (a0 : Int32) (M : mS) : Option mS := if a0 < 0 then (some M) else (if (M.1 35 1) ≤ a0 then (some M) else (grd (!(decide ((0 : Int32) < 0)) && !(decide ((a0 * 44) < 0)) && !(decide ((44 : Int32) < 0)) && Nat.ble ((0 : Int32).toNatClampNeg + (44 : Int32).toNatClampNeg) 44 && Nat.ble ((a0 * 44).toNatClampNeg + (44 : Int32).toNatClampNeg) 1760) (nxt (mWW M 36 (va_cpy (M.1 34) (M.1 36) (0 : Int32).toNatClampNeg (a0 * 44).toNatClampNeg (44 : Int32).toNatClampNeg)) fun M2 => some M2)))
/-- MoonDials.keepForUndo()V of .ref 0 -/
def Md_keepForUndo (N : Nat)  (M : mS) : Option mS := bR (Md_rest N ((M.1 0 13) + 1) 40 M) fun r2 => nxt (mWI M 0 13 r2) fun M3 => nxt (mWI M3 0 12 (if 40 < ((M3.1 0 12) + 1) then 40 else ((M3.1 0 12) + 1))) fun M4 => bV (Sh_put N (M4.1 0 13) M4) fun M6 => some M6
/-- MoonDials.turn(II)I of .ref 0, .int a0, .int a1 -/
def Md_turn (N : Nat) (a0 : Int32) (a1 : Int32) (M : mS) : Option (Int32 × mS) := if (Md_isDial a0 M) = 0 then (some ((-1), M)) else (if a1 < 1 then (some ((-1), M)) else (if a1 < (M.1 3 6) then (bV (Md_keepForUndo N M) fun M3 => grd (mIn (1 + a0) 44) (bR (Md_rest N ((M3.1 34 (1 + a0).toNatClampNeg) + a1) (M3.1 3 6) M3) fun r6 => grd (mIn (1 + a0) 44) (nxt (mWI M3 34 (1 + a0).toNatClampNeg r6) fun M8 => grd (mIn (1 + a0) 44) (some (M8.1 34 (1 + a0).toNatClampNeg, M8))))) else (some ((-1), M))))
/-- MoonDials.follow(II)Z of .ref 0, .int a0, .int a1 -/
def Md_follow (N : Nat) (a0 : Int32) (a1 : Int32) (M : mS) : Option (Int32 × mS) := if (Md_isGoer a0 M) = 0 then (some (0, M)) else (if (Md_isDial a1 M) = 0 then (some (0, M)) else (grd (mIn (9 + a0) 44) (if (M.1 34 (9 + a0).toNatClampNeg) = a1 then (some (0, M)) else (bV (Md_keepForUndo N M) fun M5 => grd (mIn (9 + a0) 44) (nxt (mWI M5 34 (9 + a0).toNatClampNeg a1) fun M7 => some (1, M7))))))
/-- MoonDials.slip(II)Z of .ref 0, .int a0, .int a1 -/
def Md_slip (N : Nat) (a0 : Int32) (a1 : Int32) (M : mS) : Option (Int32 × mS) := if (Md_isDial a0 M) = 0 then (some (0, M)) else (if a1 < 0 then (some (0, M)) else (if (M.1 3 6) ≤ a1 then (some (0, M)) else (grd (mIn (5 + a0) 44) (if (M.1 34 (5 + a0).toNatClampNeg) = a1 then (some (0, M)) else (bV (Md_keepForUndo N M) fun M4 => grd (mIn (5 + a0) 44) (nxt (mWI M4 34 (5 + a0).toNatClampNeg a1) fun M6 => some (1, M6)))))))
/-- MoonDials.isWithin(II)Z of .int a0, .int a1 -/
def Md_isWithin (a0 : Int32) (a1 : Int32) (M : mS) : Int32 := if a0 < 0 then 0 else (if a1 < a0 then 0 else 1)
/-- java/lang/Integer.bitCount(I)I of .int a0 -/
def Jl_bitCount (a0 : Int32) (M : mS) : Int32 := nxt (a0 - ((ushr a0 1) &&& 1431655765)) fun v1 => nxt ((v1 &&& 858993459) + ((ushr v1 2) &&& 858993459)) fun v2 => nxt ((v2 + (ushr v2 4)) &&& 252645135) fun v3 => nxt (v3 + (ushr v3 8)) fun v4 => nxt (v4 + (ushr v4 16)) fun v5 => v5 &&& 63
/-- MoonDials$Walk.shared(II)I of .ref 39, .int a0, .int a1 -/
def Wk_shared (N : Nat) (a0 : Int32) (a1 : Int32) (M : mS) : Option Int32 := if a0 = a1 then (some 0) else (grd (mIn a0 5) (grd (mIn a1 5) (some (Jl_bitCount ((M.1 41 a0.toNatClampNeg) &&& (M.1 41 a1.toNatClampNeg)) M))))
def Wk_addPairs_15 (N : Nat) (k2 : Int32 → mS → Option mS) : Nat → Int32 → Int32 → mS → Option mS
  | 0, _, _, _ => none
  | n + 1, x1, x2, M => if (M.1 3 8) ≤ x2 then (k2 (x1 + 1) M) else (grd (mIn (Md_pair x1 x2 M) 44) (bR (Wk_shared N x1 x2 M) fun r3 => grd (mIn (Md_pair x1 x2 M) 44) (nxt (mWI M 40 (Md_pair x1 x2 M).toNatClampNeg ((M.1 40 (Md_pair x1 x2 M).toNatClampNeg) + r3)) fun M5 => Wk_addPairs_15 N k2 n x1 (x2 + 1) M5)))
def Wk_addPairs_2 (N : Nat)  : Nat → Int32 → mS → Option mS
  | 0, _, _ => none
  | n + 1, x1, M => if (M.1 3 8) ≤ x1 then (some M) else (Wk_addPairs_15 N (Wk_addPairs_2 N n) N x1 0 M)
/-- MoonDials$Walk.addPairs()V of .ref 39 -/
def Wk_addPairs (N : Nat)  (M : mS) : Option mS := Wk_addPairs_2 N N 0 M
def Wk_pass_47 (N : Nat)  : Nat → Int32 → mS → Option mS
  | 0, _, _ => none
  | n + 1, x1, M => if (M.1 3 7) ≤ x1 then (nxt (mWI M 40 0 ((M.1 40 0) + 1)) fun M1 => some M1) else (grd (mIn (1 + x1) 44) (grd (mIn (5 + x1) 44) (bR (Md_rest N ((M.1 40 (1 + x1).toNatClampNeg) + (M.1 40 (5 + x1).toNatClampNeg)) (M.1 3 6) M) fun r5 => grd (mIn (1 + x1) 44) (nxt (mWI M 40 (1 + x1).toNatClampNeg r5) fun M7 => Wk_pass_47 N n (x1 + 1) M7))))
def Wk_pass_2 (N : Nat)  : Nat → Int32 → mS → Option mS
  | 0, _, _ => none
  | n + 1, x1, M => if (M.1 3 8) ≤ x1 then (Wk_pass_47 N N 0 M) else (grd (mIn (14 + x1) 44) (grd (mIn x1 5) (grd (mIn (14 + x1) 44) (nxt (mWI M 40 (14 + x1).toNatClampNeg ((M.1 40 (14 + x1).toNatClampNeg) + (Jl_bitCount ((M.1 41 x1.toNatClampNeg) &&& (M.1 39 3)) M))) fun M11 => Wk_pass_2 N n (x1 + 1) M11))))
/-- MoonDials$Walk.pass()V of .ref 39 -/
def Wk_pass (N : Nat)  (M : mS) : Option mS := Wk_pass_2 N N 0 M
