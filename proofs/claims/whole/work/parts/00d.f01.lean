/-! METHODS as functions: printed by program -/
def Rr_readSum_59 (N : Nat) (k30 : Int32 → Int32 → mS → Option mS) (x2 : Int32) (z0 : Int32) (M : mS) : Option mS := k30 z0 (x2 + 1) M
def Rr_readSum_30 (N : Nat)  : Nat → Int32 → Int32 → mS → Option mS
  | 0, _, _, _ => none
  | n + 1, x1, x2, M => if 400 < x2 then (some M) else (if x1 = 0 then (some M) else (if (M.1 14 7) = 0 then (bW (Rr_readSign N M) fun r3 M2 => Rr_readSum_59 N (Rr_readSum_30 N n) x2 r3 M2) else (bW (Rr_readUnit N M) fun r7 M6 => Rr_readSum_59 N (Rr_readSum_30 N n) x2 r7 M6)))
def Rr_readSum_27 (N : Nat) (z0 : Int32) (M : mS) : Option mS := Rr_readSum_30 N N z0 0 M
/-- MoonDials$Reader.readSum()V of .ref 14 -/
def Rr_readSum (N : Nat)  (M : mS) : Option mS := nxt (mWI M 14 5 0) fun M9 => nxt (mWI M9 14 6 0) fun M10 => nxt (mWI M10 14 7 1) fun M11 => if (M11.1 14 9) = 0 then (Rr_readSum_27 N 1 M11) else (Rr_readSum_27 N 0 M11)
/-- MoonDials$Laws.aimHere(I)V of .ref 16, .int a0 -/
def La_aimHere (N : Nat) (a0 : Int32) (M : mS) : Option mS := if a0 < 0 then (some M) else (if (M.1 16 4) ≤ a0 then (some M) else (grd (mIn a0 408) (nxt (mWI M 18 a0.toNatClampNeg (((M.1 16 4) * 8) + 6)) fun M2 => some M2)))
def Rr_readLaw_51 (N : Nat) (k20 : Int32 → mS → Option mS) (x2 : Int32) (M : mS) : Option mS := bW (Rr_take N 8 M) fun r3 M2 => bV (Rr_readSum N M2) fun M6 => bW (Rr_take N 28 M6) fun r9 M8 => bV (Rr_readSum N M8) fun M12 => bW (Rr_take N 9 M12) fun r15 M14 => bW (La_put N 6 0 M14) fun r19 M18 => bV (Rr_readSum N M18) fun M21 => bW (Rr_take N 10 M21) fun r24 M23 => bW (La_put N 7 0 M23) fun r28 M27 => bV (La_aimHere N r19 M27) fun M30 => k20 (x2 + 1) M30
def Rr_readLaw_136 (N : Nat)  (M : mS) : Option mS := bV (Rr_readSum N M) fun M32 => bW (La_put N 7 0 M32) fun r35 M34 => some M34
def Rr_readLaw_20 (N : Nat)  : Nat → Int32 → mS → Option mS
  | 0, _, _ => none
  | n + 1, x2, M => if 4 < x2 then (Rr_readLaw_136 N M) else (bR (Tk_kindOf N (M.1 14 8) M) fun r37 => if r37 = 8 then (if x2 = 4 then (bV (Rr_failForm N 2 M) fun M39 => Rr_readLaw_51 N (Rr_readLaw_20 N n) x2 M39) else (Rr_readLaw_51 N (Rr_readLaw_20 N n) x2 M)) else (Rr_readLaw_136 N M))
/-- MoonDials$Reader.readLaw(I)V of .ref 14, .int a0 -/
def Rr_readLaw (N : Nat) (a0 : Int32) (M : mS) : Option mS := bW (Rr_take N 23 M) fun r42 M41 => bV (La_open N a0 M41) fun M45 => Rr_readLaw_20 N N 0 M45
/-- MoonDials$Tokens.placeOf(I)I of .ref 26, .int a0 -/
def Tk_placeOf (N : Nat) (a0 : Int32) (M : mS) : Option Int32 := if a0 < 0 then (some 0) else (if (M.1 26 4) ≤ a0 then (some 0) else (grd (mIn a0 401) (some (M.1 29 a0.toNatClampNeg))))
/-- MoonDials$Reader.failSense(I)V of .ref 14, .int a0 -/
def Rr_failSense (N : Nat) (a0 : Int32) (M : mS) : Option mS := if (M.1 14 10) = 0 then (nxt (mWI M 14 10 a0) fun M1 => bR (Tk_placeOf N ((M1.1 14 8) - 1) M1) fun r3 => nxt (mWI M1 14 11 r3) fun M4 => some M4) else (some M)
def Rr_takeInt_32 (N : Nat) (x3 : Int32) (M : mS) : Option (Int32 × mS) := bV (Rr_failSense N 5 M) fun M2 => some (x3, M2)
/-- MoonDials$Reader.takeInt(II)I of .ref 14, .int a0, .int a1 -/
def Rr_takeInt (N : Nat) (a0 : Int32) (a1 : Int32) (M : mS) : Option (Int32 × mS) := bR (Tk_valueOf N (M.1 14 8) M) fun r4 => nxt (r4.toInt32) fun v5 => bW (Rr_take N 21 M) fun r8 M7 => if r8 = 0 then (some (v5, M7)) else (if v5 < a0 then (Rr_takeInt_32 N v5 M7) else (if v5 ≤ a1 then (some (v5, M7)) else (Rr_takeInt_32 N v5 M7)))
def Rr_isAmong_3 (N : Nat)  (M : mS) : Nat → Int32 → Int64 → Int32 → Option Int32
  | 0, _, _, _ => none
  | n + 1, x1, x2, x4 => if x1 ≤ x4 then (some 0) else (if (Int32.ofNat 4) ≤ x4 then (some 0) else (grd (mIn x4 4) (if (lg_cmp (M.2 31 x4.toNatClampNeg) x2) = 0 then (some 1) else (Rr_isAmong_3 N M n x1 x2 (x4 + 1)))))
/-- MoonDials$Reader.isAmong([JIJ)Z of .ref 31, .int a0, .long a1 -/
def Rr_isAmong (N : Nat) (a0 : Int32) (a1 : Int64) (M : mS) : Option Int32 := Rr_isAmong_3 N M N a0 a1 0
def Rr_isAmong_s1_3 (N : Nat)  (M : mS) : Nat → Int32 → Int64 → Int32 → Option Int32
  | 0, _, _, _ => none
  | n + 1, x1, x2, x4 => if x1 ≤ x4 then (some 0) else (if (Int32.ofNat 5) ≤ x4 then (some 0) else (grd (mIn x4 5) (if (lg_cmp (M.2 32 x4.toNatClampNeg) x2) = 0 then (some 1) else (Rr_isAmong_s1_3 N M n x1 x2 (x4 + 1)))))
/-- MoonDials$Reader.isAmong([JIJ)Z of .ref 32, .int a0, .long a1 -/
def Rr_isAmong_s1 (N : Nat) (a0 : Int32) (a1 : Int64) (M : mS) : Option Int32 := Rr_isAmong_s1_3 N M N a0 a1 0
def Rr_takeNewName_57 (N : Nat) (x1 : Int64) (M : mS) : Option (Int64 × mS) := bV (Rr_failSense N 3 M) fun M2 => some (x1, M2)
/-- MoonDials$Reader.takeNewName()J of .ref 14 -/
def Rr_takeNewName (N : Nat)  (M : mS) : Option (Int64 × mS) := bR (Tk_valueOf N (M.1 14 8) M) fun r4 => bW (Rr_take N 20 M) fun r7 M6 => if r7 = 0 then (some (r4, M6)) else (bR (Rr_isAmong N (M6.1 15 7) r4 M6) fun r10 => if r10 = 0 then (bR (Rr_isAmong_s1 N (M6.1 15 8) r4 M6) fun r13 => if r13 = 0 then (some (r4, M6)) else (Rr_takeNewName_57 N r4 M6)) else (Rr_takeNewName_57 N r4 M6))
def Rr_takeDialName_61 (N : Nat) (x3 : Int32) (M : mS) : Option (Int32 × mS) := if x3 = 0 then (some (0, M)) else (bV (Rr_failSense N 4 M) fun M2 => some (0, M2))
def Rr_takeDialName_22 (N : Nat)  : Nat → Int64 → Int32 → Int32 → mS → Option (Int32 × mS)
  | 0, _, _, _, _ => none
  | n + 1, x1, x3, x4, M => if (M.1 15 7) ≤ x4 then (Rr_takeDialName_61 N x3 M) else (if 4 ≤ x4 then (Rr_takeDialName_61 N x3 M) else (grd (mIn x4 4) (if (lg_cmp (M.2 31 x4.toNatClampNeg) x1) = 0 then (some (x4, M)) else (Rr_takeDialName_22 N n x1 x3 (x4 + 1) M))))
/-- MoonDials$Reader.takeDialName()I of .ref 14 -/
def Rr_takeDialName (N : Nat)  (M : mS) : Option (Int32 × mS) := bR (Tk_valueOf N (M.1 14 8) M) fun r5 => bW (Rr_take N 20 M) fun r8 M7 => Rr_takeDialName_22 N N r5 r8 0 M7
/-- MoonDials$Reader.readGoer()V of .ref 14 -/
def Rr_readGoer (N : Nat)  (M : mS) : Option mS := nxt (M.1 15 8) fun v1 => if v1 < 5 then (bW (Rr_take N 2 M) fun r4 M3 => bW (Rr_takeNewName N M3) fun r8 M7 => grd (mIn v1 5) (nxt (mWL M7 32 v1.toNatClampNeg r8) fun M10 => bW (Rr_takeDialName N M10) fun r13 M12 => grd (mIn v1 5) (nxt (mWI M12 23 v1.toNatClampNeg r13) fun M15 => bW (Rr_takeInt N 0 23 M15) fun r18 M17 => grd (mIn v1 5) (nxt (mWI M17 24 v1.toNatClampNeg r18) fun M20 => bW (Rr_takeInt N 1 24 M20) fun r23 M22 => grd (mIn v1 5) (nxt (mWI M22 25 v1.toNatClampNeg r23) fun M25 => nxt (mWI M25 15 8 ((M25.1 15 8) + 1)) fun M26 => some M26))))) else (bV (Rr_failForm N 2 M) fun M28 => some M28)
/-- MoonDials$Reader.readDial()V of .ref 14 -/
def Rr_readDial (N : Nat)  (M : mS) : Option mS := nxt (M.1 15 7) fun v1 => if v1 < 4 then (bW (Rr_take N 1 M) fun r4 M3 => bW (Rr_takeNewName N M3) fun r8 M7 => grd (mIn v1 4) (nxt (mWL M7 31 v1.toNatClampNeg r8) fun M10 => bW (Rr_takeInt N 0 23 M10) fun r13 M12 => grd (mIn v1 4) (nxt (mWI M12 21 v1.toNatClampNeg r13) fun M15 => bW (Rr_takeInt N 0 23 M15) fun r18 M17 => grd (mIn v1 4) (nxt (mWI M17 22 v1.toNatClampNeg r18) fun M20 => nxt (mWI M20 15 7 ((M20.1 15 7) + 1)) fun M21 => some M21)))) else (bV (Rr_failForm N 2 M) fun M23 => some M23)
/-- MoonDials$Reader.readHours()V of .ref 14 -/
def Rr_readHours (N : Nat)  (M : mS) : Option mS := bW (Rr_take N 0 M) fun r3 M2 => bW (Rr_takeInt N 2 24 M2) fun r7 M6 => nxt (mWI M6 15 6 r7) fun M8 => some M8
def Rr_readTell_110 (N : Nat)  (M : mS) : Option mS := bW (Rr_take N 22 M) fun r3 M2 => some M2
def Rr_readTell_105 (N : Nat)  (M : mS) : Option mS := bV (Rr_failForm N 1 M) fun M6 => Rr_readTell_110 N M6
/-- MoonDials$Reader.readTell()V of .ref 14 -/
def Rr_readTell (N : Nat)  (M : mS) : Option mS := bR (Tk_kindOf N (M.1 14 8) M) fun r8 => if r8 = 0 then (bV (Rr_readHours N M) fun M10 => Rr_readTell_110 N M10) else (if r8 = 1 then (bV (Rr_readDial N M) fun M12 => Rr_readTell_110 N M12) else (if r8 = 2 then (bV (Rr_readGoer N M) fun M14 => Rr_readTell_110 N M14) else (if r8 = 7 then (bW (Rr_take N 7 M) fun r17 M16 => bW (Rr_takeInt N 0 9999 M16) fun r21 M20 => nxt (mWI M20 15 9 r21) fun M22 => Rr_readTell_110 N M22) else (if r8 < 3 then (Rr_readTell_105 N M) else (if 6 < r8 then (Rr_readTell_105 N M) else (bW (Rr_take N r8 M) fun r25 M24 => bV (Rr_readLaw N (r8 - 3) M24) fun M28 => Rr_readTell_110 N M28))))))
def Rr_check_72 (N : Nat)  (M : mS) : Option (Int32 × mS) := bV (Ga_settle N M) fun M2 => if (M2.1 14 9) = 0 then (some (M2.1 14 10, M2)) else (some (M2.1 14 9, M2))
def Rr_check_32 (N : Nat)  : Nat → Int32 → mS → Option (Int32 × mS)
  | 0, _, _ => none
  | n + 1, x2, M => if 400 < x2 then (Rr_check_72 N M) else (if (M.1 14 9) = 0 then (bR (Tk_kindOf N (M.1 14 8) M) fun r4 => if r4 = 31 then (Rr_check_72 N M) else (bV (Rr_readTell N M) fun M6 => Rr_check_32 N n (x2 + 1) M6)) else (Rr_check_72 N M))
/-- MoonDials$Reader.check(LMoonDials$Tape;)I of .ref 14, .ref 1 -/
def Rr_check (N : Nat)  (M : mS) : Option (Int32 × mS) := bV (Tk_cut N M) fun M8 => bV (Ga_clear N M8) fun M10 => nxt (mWI M10 14 8 0) fun M11 => nxt (mWI M11 14 9 0) fun M12 => nxt (mWI M12 14 10 0) fun M13 => Rr_check_32 N N 0 M13
/-- MoonDials$Reader.faultPlace()I of .ref 14 -/
def Rr_faultPlace (N : Nat)  (M : mS) : Option Int32 := if (M.1 14 9) = 0 then (if (M.1 14 10) = 0 then (some (-1)) else (some (M.1 14 11))) else (bR (Tk_placeOf N (M.1 14 8) M) fun r2 => some r2)
/-- MoonDials$Laws.takeOver(LMoonDials$Laws;)V of .ref 4, .ref 16 -/
def La_takeOver (N : Nat)  (M : mS) : Option mS := nxt (mWI M 4 4 (M.1 16 4)) fun M1 => nxt (mWI M1 4 5 (M1.1 16 5)) fun M2 => nxt (mWW M2 6 (va_cpy (M2.1 18) (M2.1 6) (0 : Int32).toNatClampNeg (0 : Int32).toNatClampNeg (Int32.ofNat 408 : Int32).toNatClampNeg)) fun M3 => nxt (mWW M3 7 (va_cpy (M3.1 19) (M3.1 7) (0 : Int32).toNatClampNeg (0 : Int32).toNatClampNeg (4 : Int32).toNatClampNeg)) fun M4 => some M4
/-- MoonDials$Garden.takeOver(LMoonDials$Garden;)V of .ref 3, .ref 15 -/
def Ga_takeOver (N : Nat)  (M : mS) : Option mS := bV (La_takeOver N M) fun M2 => nxt (mWW M2 9 (va_cpy (M2.1 21) (M2.1 9) (0 : Int32).toNatClampNeg (0 : Int32).toNatClampNeg (4 : Int32).toNatClampNeg)) fun M3 => nxt (mWW M3 10 (va_cpy (M3.1 22) (M3.1 10) (0 : Int32).toNatClampNeg (0 : Int32).toNatClampNeg (4 : Int32).toNatClampNeg)) fun M4 => nxt (mWW M4 11 (va_cpy (M4.1 23) (M4.1 11) (0 : Int32).toNatClampNeg (0 : Int32).toNatClampNeg (5 : Int32).toNatClampNeg)) fun M5 => nxt (mWW M5 12 (va_cpy (M5.1 24) (M5.1 12) (0 : Int32).toNatClampNeg (0 : Int32).toNatClampNeg (5 : Int32).toNatClampNeg)) fun M6 => nxt (mWW M6 13 (va_cpy (M6.1 25) (M6.1 13) (0 : Int32).toNatClampNeg (0 : Int32).toNatClampNeg (5 : Int32).toNatClampNeg)) fun M7 => nxt (mWI M7 3 6 (M7.1 15 6)) fun M8 => nxt (mWI M8 3 7 (M8.1 15 7)) fun M9 => nxt (mWI M9 3 8 (M9.1 15 8)) fun M10 => nxt (mWI M10 3 9 (M10.1 15 9)) fun M11 => some M11
def Ga_startIn_2 (N : Nat)  : Nat → Int32 → mS → Option mS
  | 0, _, _ => none
  | n + 1, x2, M => if (Int32.ofNat 44) ≤ x2 then (nxt (mWW M 34 (va_cpy (M.1 9) (M.1 34) (0 : Int32).toNatClampNeg (1 : Int32).toNatClampNeg (4 : Int32).toNatClampNeg)) fun M1 => nxt (mWW M1 34 (va_cpy (M1.1 10) (M1.1 34) (0 : Int32).toNatClampNeg (5 : Int32).toNatClampNeg (4 : Int32).toNatClampNeg)) fun M2 => nxt (mWW M2 34 (va_cpy (M2.1 11) (M2.1 34) (0 : Int32).toNatClampNeg (9 : Int32).toNatClampNeg (5 : Int32).toNatClampNeg)) fun M3 => some M3) else (grd (mIn x2 44) (nxt (mWI M 34 x2.toNatClampNeg 0) fun M5 => Ga_startIn_2 N n (x2 + 1) M5))
/-- MoonDials$Garden.startIn([I)V of .ref 3, .ref 34 -/
def Ga_startIn (N : Nat)  (M : mS) : Option mS := Ga_startIn_2 N N 0 M
/-- MoonDials.read()I of .ref 0 -/
def Md_read (N : Nat)  (M : mS) : Option (Int32 × mS) := bW (Rr_check N M) fun r3 M2 => bR (Rr_faultPlace N M2) fun r5 => nxt (mWI M2 0 11 r5) fun M6 => nxt (mWI M6 1 1 0) fun M7 => if r3 = 0 then (bV (Ga_takeOver N M7) fun M9 => bV (Ga_startIn N M9) fun M11 => nxt (mWI M11 0 12 0) fun M12 => nxt (mWI M12 0 14 0) fun M13 => nxt (mWI M13 59 0 0) fun M14 => some (r3, M14)) else (some (r3, M7))
/-- MoonDials.place()I of .ref 0 -/
def Md_place  (M : mS) : Int32 := M.1 0 11
/-- MoonDials.isDial(I)Z of .ref 0, .int a0 -/
def Md_isDial (a0 : Int32) (M : mS) : Int32 := if a0 < 0 then 0 else (if (M.1 3 7) ≤ a0 then 0 else 1)
/-- MoonDials$Walk.begin([I)V of .ref 39, .ref 34 -/
def Wk_begin (N : Nat)  (M : mS) : Option mS := nxt (mWW M 40 (va_cpy (M.1 34) (M.1 40) (0 : Int32).toNatClampNeg (0 : Int32).toNatClampNeg (44 : Int32).toNatClampNeg)) fun M1 => nxt (mWI M1 39 7 0) fun M2 => some M2
/-- MoonDials$Walk.which(I)I of .ref 39, .int a0 -/
def Wk_which (a0 : Int32) (M : mS) : Int32 := (8 * (M.1 40 0)) + a0
/-- MoonDials.mixed(II)I of .int a0, .int a1 -/
def Md_mixed (a0 : Int32) (a1 : Int32) (M : mS) : Int32 := nxt (((a0 ^^^ a1) * 1103515245) + 12345) fun v1 => v1 ^^^ (ushr v1 15)
/-- MoonDials.lot(III)I of .int a0, .int a1, .int a2 -/
def Md_lot (N : Nat) (a0 : Int32) (a1 : Int32) (a2 : Int32) (M : mS) : Option Int32 := nxt (Md_mixed (Md_mixed a1 203 M) a2 M) fun v1 => bR (Md_rest N (ushr v1 1) a0 M) fun r3 => some r3
/-- MoonDials$Walk.setVars(II)V of .ref 39, .int a0, .int a1 -/
def Wk_setVars (N : Nat) (a0 : Int32) (a1 : Int32) (M : mS) : Option mS := nxt (mWI M 5 0 (M.1 40 0)) fun M1 => grd (mIn (1 + a0) 44) (nxt (mWI M1 5 1 (M1.1 40 (1 + a0).toNatClampNeg)) fun M3 => grd (mIn (5 + a0) 44) (nxt (mWI M3 5 2 (M3.1 40 (5 + a0).toNatClampNeg)) fun M5 => nxt (mWI M5 5 6 a1) fun M6 => nxt (mWI M6 5 7 (M6.1 3 6)) fun M7 => nxt (mWI M7 5 8 (M7.1 3 8)) fun M8 => some M8))
def La_say_280 (N : Nat) (k9 : Int32 → Int32 → mS → Option (Int32 × mS)) (x2 : Int32) (x3 : Int32) (M : mS) : Option (Int32 × mS) := k9 x2 (x3 + 1) M
def La_say_126 (N : Nat) (k9 : Int32 → Int32 → mS → Option (Int32 × mS)) (x2 : Int32) (x3 : Int32) (z1 : Int32) (z2 : Int32) (M : mS) : Option (Int32 × mS) := grd (mIn z1 32) (nxt (mWI M 8 z1.toNatClampNeg z2) fun M2 => La_say_280 N k9 (x2 + 1) x3 M2)
def La_say_104 (N : Nat) (k9 : Int32 → Int32 → mS → Option (Int32 × mS)) (x2 : Int32) (x3 : Int32) (x4 : Int32) (x5 : Int32) (M : mS) : Option (Int32 × mS) := if x4 = 0 then (La_say_126 N k9 x2 x3 x2 x5 M) else (grd (mIn x5 9) (La_say_126 N k9 x2 x3 x2 (M.1 5 x5.toNatClampNeg) M))
def La_say_77 (N : Nat) (k9 : Int32 → Int32 → mS → Option (Int32 × mS)) (x2 : Int32) (x3 : Int32) (x4 : Int32) (x5 : Int32) (M : mS) : Option (Int32 × mS) := if (Int32.ofNat 32) ≤ x2 then (some (0, M)) else (if x4 = 1 then (if x5 < (Int32.ofNat 9) then (La_say_104 N k9 x2 x3 x4 x5 M) else (some (0, M))) else (La_say_104 N k9 x2 x3 x4 x5 M))
def La_say_9 (N : Nat)  : Nat → Int32 → Int32 → mS → Option (Int32 × mS)
  | 0, _, _, _ => none
  | n + 1, x2, x3, M => if x3 < 0 then (some (0, M)) else (if (M.1 4 4) ≤ x3 then (some (0, M)) else (grd (mIn x3 408) (nxt ((M.1 6 x3.toNatClampNeg) &&& 7) fun v5 => grd (mIn x3 408) (nxt ((M.1 6 x3.toNatClampNeg) >>> ((3 : Int32) &&& 31)) fun v7 => if v5 = 7 then (if x2 ≤ 0 then (some (0, M)) else (grd (mIn (x2 - 1) 32) (some (M.1 8 (x2 - 1).toNatClampNeg, M)))) else (if v5 = 0 then (La_say_77 N (La_say_9 N n) x2 x3 v5 v7 M) else (if v5 = 1 then (La_say_77 N (La_say_9 N n) x2 x3 v5 v7 M) else (if 2 ≤ x2 then (grd (mIn (x2 - 2) 32) (nxt (M.1 8 (x2 - 2).toNatClampNeg) fun v10 => grd (mIn (x2 - 1) 32) (nxt (M.1 8 (x2 - 1).toNatClampNeg) fun v12 => if v5 = 6 then (if v10 < v12 then (La_say_280 N (La_say_9 N n) (x2 + (-2)) x3 M) else (if v7 ≤ x3 then (La_say_280 N (La_say_9 N n) (x2 + (-2)) x3 M) else (nxt (v7 - 1) fun v13 => La_say_280 N (La_say_9 N n) (x2 + (-2)) v13 M))) else (if v5 = 2 then (grd (mIn ((x2 + (-1)) - 1) 32) (nxt (mWI M 8 ((x2 + (-1)) - 1).toNatClampNeg (v10 + v12)) fun M15 => La_say_280 N (La_say_9 N n) (x2 + (-1)) x3 M15)) else (if v5 = 3 then (grd (mIn ((x2 + (-1)) - 1) 32) (nxt (mWI M 8 ((x2 + (-1)) - 1).toNatClampNeg (v10 - v12)) fun M17 => La_say_280 N (La_say_9 N n) (x2 + (-1)) x3 M17)) else (if v5 = 4 then (grd (mIn ((x2 + (-1)) - 1) 32) (nxt (mWI M 8 ((x2 + (-1)) - 1).toNatClampNeg (v10 * v12)) fun M19 => La_say_280 N (La_say_9 N n) (x2 + (-1)) x3 M19)) else (if v12 = 0 then (some (0, M)) else (nz v12 (grd (mIn ((x2 + (-1)) - 1) 32) (nxt (mWI M 8 ((x2 + (-1)) - 1).toNatClampNeg (v10 / v12)) fun M22 => La_say_280 N (La_say_9 N n) (x2 + (-1)) x3 M22)))))))))) else (some (0, M)))))))))
/-- MoonDials$Laws.say(I)I of .ref 4, .int a0 -/
def La_say (N : Nat) (a0 : Int32) (M : mS) : Option (Int32 × mS) := grd (mIn a0 4) (nxt (M.1 7 a0.toNatClampNeg) fun v24 => La_say_9 N N 0 v24 M)
