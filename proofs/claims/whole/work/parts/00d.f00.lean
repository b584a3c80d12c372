/-! METHODS as functions: printed by program -/
def Tp_add_3 (N : Nat)  : Nat → Int32 → Int32 → mS → Option mS
  | 0, _, _, _ => none
  | n + 1, x1, x2, M => if x2 < 0 then (some M) else (if 2000 ≤ (M.1 1 1) then (some M) else (grd (mIn (M.1 1 1) 2000) (nxt (mWI M 2 (M.1 1 1).toNatClampNeg (vp_nar .byte ((x1 >>> (x2 &&& 31)).toInt8.toInt32))) fun M2 => nxt (mWI M2 1 1 ((M2.1 1 1) + 1)) fun M3 => Tp_add_3 N n x1 (x2 + (-8)) M3)))
/-- MoonDials$Tape.add(I)V of .ref 1, .int a0 -/
def Tp_add (N : Nat) (a0 : Int32) (M : mS) : Option mS := Tp_add_3 N N a0 24 M
/-- MoonDials.feed(IIIII)I of .ref 0, .int a0, .int a1, .int a2, .int a3, .int a4 -/
def Md_feed (N : Nat) (a0 : Int32) (a1 : Int32) (a2 : Int32) (a3 : Int32) (a4 : Int32) (M : mS) : Option (Int32 × mS) := if (M.1 1 1) ≤ 1980 then (bV (Tp_add N a0 M) fun M2 => bV (Tp_add N a1 M2) fun M4 => bV (Tp_add N a2 M4) fun M6 => bV (Tp_add N a3 M6) fun M8 => bV (Tp_add N a4 M8) fun M10 => some (M10.1 1 1, M10)) else (some ((-1), M))
/-- MoonDials.back(I)I of .ref 0, .int a0 -/
def Md_back (N : Nat) (a0 : Int32) (M : mS) : Option (Int32 × mS) := if a0 < 0 then (some ((-1), M)) else (if a0 ≤ (M.1 1 1) then (nxt (mWI M 1 1 ((M.1 1 1) - a0)) fun M1 => some (M1.1 1 1, M1)) else (some ((-1), M)))
/-- MoonDials$Tape.at(I)I of .ref 1, .int a0 -/
def Tp_at (N : Nat) (a0 : Int32) (M : mS) : Option Int32 := if a0 < 0 then (some (-1)) else (if (M.1 1 1) ≤ a0 then (some (-1)) else (grd (mIn a0 2000) (some ((M.1 2 a0.toNatClampNeg) &&& 255))))
/-- MoonDials$Tokens.isBlank(I)Z of .int a0 -/
def Tk_isBlank (a0 : Int32) (M : mS) : Int32 := if a0 = 9 then 1 else (if a0 = 10 then 1 else (if a0 = 13 then 1 else (if a0 = 32 then 1 else 0)))
def Tk_behindBlanks_2 (N : Nat)  (M : mS) : Nat → Int32 → Option Int32
  | 0, _ => none
  | n + 1, x2 => if (M.1 1 1) ≤ x2 then (some x2) else (bR (Tp_at N x2 M) fun r2 => if (Tk_isBlank r2 M) = 0 then (some x2) else (Tk_behindBlanks_2 N M n (x2 + 1)))
/-- MoonDials$Tokens.behindBlanks(LMoonDials$Tape;I)I of .ref 1, .int a0 -/
def Tk_behindBlanks (N : Nat) (a0 : Int32) (M : mS) : Option Int32 := Tk_behindBlanks_2 N M N a0
/-- MoonDials$Tokens.isLetter(I)Z of .int a0 -/
def Tk_isLetter (a0 : Int32) (M : mS) : Int32 := if a0 < 97 then 0 else (if 122 < a0 then 0 else 1)
/-- MoonDials$Tokens.isDigit(I)Z of .int a0 -/
def Tk_isDigit (a0 : Int32) (M : mS) : Int32 := if a0 < 48 then 0 else (if 57 < a0 then 0 else 1)
def Tk_runLength_15 (N : Nat)  (M : mS) : Nat → Int32 → Int32 → Option Int32
  | 0, _, _ => none
  | n + 1, x1, x3 => if 2000 ≤ x3 then (some x3) else (bR (Tp_at N (x1 + x3) M) fun r2 => if (Tk_isLetter r2 M) = 0 then (some x3) else (Tk_runLength_15 N M n x1 (x3 + 1)))
def Tk_runLength_48 (N : Nat)  (M : mS) : Nat → Int32 → Int32 → Option Int32
  | 0, _, _ => none
  | n + 1, x1, x3 => if 2000 ≤ x3 then (some x3) else (bR (Tp_at N (x1 + x3) M) fun r5 => if (Tk_isDigit r5 M) = 0 then (some x3) else (Tk_runLength_48 N M n x1 (x3 + 1)))
/-- MoonDials$Tokens.runLength(LMoonDials$Tape;I)I of .ref 1, .int a0 -/
def Tk_runLength (N : Nat) (a0 : Int32) (M : mS) : Option Int32 := bR (Tp_at N a0 M) fun r8 => if (Tk_isLetter r8 M) = 0 then (if (Tk_isDigit r8 M) = 0 then (some 1) else (Tk_runLength_48 N M N a0 1)) else (Tk_runLength_15 N M N a0 1)
/-- MoonDials$Tokens.withLetter(JI)J of .long a0, .int a1 -/
def Tk_withLetter (a0 : Int64) (a1 : Int32) (M : mS) : Int64 := (a0 * 32) + ((a1 &&& 31).toInt64)
def Tk_key_5 (N : Nat)  (M : mS) : Nat → Int32 → Int32 → Int64 → Int32 → Option Int64
  | 0, _, _, _, _ => none
  | n + 1, x1, x2, x3, x5 => if x2 ≤ x5 then (some x3) else (if 8 ≤ x5 then (some x3) else (bR (Tp_at N (x1 + x5) M) fun r2 => nxt (Tk_withLetter x3 r2 M) fun v3 => Tk_key_5 N M n x1 x2 v3 (x5 + 1)))
/-- MoonDials$Tokens.key(LMoonDials$Tape;II)J of .ref 1, .int a0, .int a1 -/
def Tk_key (N : Nat) (a0 : Int32) (a1 : Int32) (M : mS) : Option Int64 := Tk_key_5 N M N a0 a1 0 0
def Tk_wordKind_2 (N : Nat)  (M : mS) : Nat → Int64 → Int32 → Option Int32
  | 0, _, _ => none
  | n + 1, x1, x3 => if 20 ≤ x3 then (some 20) else (grd (mIn x3 20) (if (lg_cmp (M.2 27 x3.toNatClampNeg) x1) = 0 then (some x3) else (Tk_wordKind_2 N M n x1 (x3 + 1))))
/-- MoonDials$Tokens.wordKind(J)I of .ref 26, .long a0 -/
def Tk_wordKind (N : Nat) (a0 : Int64) (M : mS) : Option Int32 := Tk_wordKind_2 N M N a0 0
/-- MoonDials$Tokens.kindAt(LMoonDials$Tape;II)I of .ref 26, .ref 1, .int a0, .int a1 -/
def Tk_kindAt (N : Nat) (a0 : Int32) (a1 : Int32) (M : mS) : Option Int32 := bR (Tp_at N a0 M) fun r2 => if r2 = (-1) then (some 31) else (if (Tk_isLetter r2 M) = 0 then (if (Tk_isDigit r2 M) = 0 then (grd (decide (0 ≤ ((r2.toUInt32 % 65536).toInt32)) && decide (((r2.toUInt32 % 65536).toInt32) < 256)) (nxt (mIdx ((r2.toUInt32 % 65536).toInt32) (mTx 1) 0) fun v6 => if 0 ≤ v6 then (some (22 + v6)) else (some 32))) else (if a1 ≤ 4 then (some 21) else (some 32))) else (if a1 ≤ 8 then (bR (Tk_key N a0 a1 M) fun r8 => bR (Tk_wordKind N r8 M) fun r10 => some r10) else (some 32)))
def Tk_number_5 (N : Nat)  (M : mS) : Nat → Int32 → Int32 → Int64 → Int32 → Option Int64
  | 0, _, _, _, _ => none
  | n + 1, x1, x2, x3, x5 => if x2 ≤ x5 then (some x3) else (if 4 ≤ x5 then (some x3) else (bR (Tp_at N (x1 + x5) M) fun r2 => nxt ((x3 * 10) + ((r2 - 48).toInt64)) fun v3 => Tk_number_5 N M n x1 x2 v3 (x5 + 1)))
/-- MoonDials$Tokens.number(LMoonDials$Tape;II)J of .ref 1, .int a0, .int a1 -/
def Tk_number (N : Nat) (a0 : Int32) (a1 : Int32) (M : mS) : Option Int64 := Tk_number_5 N M N a0 a1 0 0
def Tk_cut_109 (N : Nat) (k10 : Int32 → Int32 → mS → Option mS) (x2 : Int32) (x3 : Int32) (x5 : Int32) (z1 : Int32) (z2 : Int64) (M : mS) : Option mS := grd (mIn z1 401) (nxt (mWL M 30 z1.toNatClampNeg z2) fun M2 => nxt (mWI M2 26 4 ((M2.1 26 4) + 1)) fun M3 => nxt (x2 + x5) fun v4 => k10 v4 x3 M3)
def Tk_cut_10 (N : Nat)  : Nat → Int32 → Int32 → mS → Option mS
  | 0, _, _, _ => none
  | n + 1, x2, x3, M => if 400 < (M.1 26 4) then (some M) else (if 31 ≤ x3 then (some M) else (bR (Tk_behindBlanks N x2 M) fun r6 => bR (Tp_at N r6 M) fun r8 => bR (Tk_runLength N r6 M) fun r10 => bR (Tk_kindAt N r6 r10 M) fun r12 => grd (mIn (M.1 26 4) 401) (nxt (mWI M 28 (M.1 26 4).toNatClampNeg (vp_nar .byte r12.toInt8.toInt32)) fun M14 => grd (mIn (M14.1 26 4) 401) (nxt (mWI M14 29 (M14.1 26 4).toNatClampNeg r6) fun M16 => if (Tk_isDigit r8 M16) = 0 then (bR (Tk_key N r6 r10 M16) fun r19 => Tk_cut_109 N (Tk_cut_10 N n) r6 r12 r10 (M16.1 26 4) r19 M16) else (bR (Tk_number N r6 r10 M16) fun r21 => Tk_cut_109 N (Tk_cut_10 N n) r6 r12 r10 (M16.1 26 4) r21 M16)))))
/-- MoonDials$Tokens.cut(LMoonDials$Tape;)V of .ref 26, .ref 1 -/
def Tk_cut (N : Nat)  (M : mS) : Option mS := nxt (mWI M 26 4 0) fun M22 => Tk_cut_10 N N 0 22 M22
/-- MoonDials$Laws.open(I)V of .ref 16, .int a0 -/
def La_open (N : Nat) (a0 : Int32) (M : mS) : Option mS := if a0 < 0 then (some M) else (if 4 ≤ a0 then (some M) else (nxt (mWI M 16 6 a0) fun M1 => grd (mIn a0 4) (nxt (mWI M1 19 a0.toNatClampNeg (M1.1 16 4)) fun M3 => nxt (mWI M3 16 5 ((M3.1 16 5) &&& (((1 : Int32) <<< (a0 &&& 31)) ^^^ (-1)))) fun M4 => some M4)))
def La_put_63 (N : Nat)  (M : mS) : Option (Int32 × mS) := nxt (mWI M 16 4 ((M.1 16 4) + 1)) fun M1 => some ((M1.1 16 4) - 1, M1)
def La_put_48 (N : Nat)  (M : mS) : Option (Int32 × mS) := nxt (mWI M 16 5 ((M.1 16 5) ||| ((1 : Int32) <<< ((M.1 16 6) &&& 31)))) fun M2 => La_put_63 N M2
/-- MoonDials$Laws.put(II)I of .ref 16, .int a0, .int a1 -/
def La_put (N : Nat) (a0 : Int32) (a1 : Int32) (M : mS) : Option (Int32 × mS) := if (M.1 16 4) < (Int32.ofNat 408) then (grd (mIn (M.1 16 4) 408) (nxt (mWI M 18 (M.1 16 4).toNatClampNeg ((a1 * 8) + a0)) fun M4 => if a0 = 1 then (if a1 = 0 then (La_put_48 N M4) else (if a1 = 1 then (La_put_48 N M4) else (if a1 = 5 then (La_put_48 N M4) else (La_put_63 N M4)))) else (La_put_63 N M4))) else (some ((-1), M))
/-- MoonDials$Laws.putShort(III)V of .ref 16, .int a0, .int a1, .int a2 -/
def La_putShort (N : Nat) (a0 : Int32) (a1 : Int32) (a2 : Int32) (M : mS) : Option mS := bV (La_open N a0 M) fun M2 => bW (La_put N a1 a2 M2) fun r5 M4 => bW (La_put N 7 0 M4) fun r8 M7 => some M7
/-- MoonDials$Laws.clear()V of .ref 16 -/
def La_clear (N : Nat)  (M : mS) : Option mS := nxt (mWI M 16 4 0) fun M1 => nxt (mWI M1 16 5 0) fun M2 => bV (La_putShort N 0 0 1 M2) fun M4 => bV (La_putShort N 1 1 4 M4) fun M6 => bV (La_putShort N 2 0 1 M6) fun M8 => bV (La_putShort N 3 0 0 M8) fun M10 => some M10
/-- MoonDials$Garden.clear()V of .ref 15 -/
def Ga_clear (N : Nat)  (M : mS) : Option mS := bV (La_clear N M) fun M2 => nxt (mWI M2 15 6 12) fun M3 => nxt (mWI M3 15 7 0) fun M4 => nxt (mWI M4 15 8 0) fun M5 => nxt (mWI M5 15 9 0) fun M6 => some M6
/-- MoonDials.rest(II)I of .int a0, .int a1 -/
def Md_rest (N : Nat) (a0 : Int32) (a1 : Int32) (M : mS) : Option Int32 := if 0 < a1 then (nz a1 (nxt (a0 - a0 / a1 * a1) fun v2 => if 0 ≤ v2 then (some v2) else (some (v2 + a1)))) else (some 0)
def Ga_settle_53 (N : Nat)  : Nat → Int32 → mS → Option mS
  | 0, _, _ => none
  | n + 1, x1, M => if 5 ≤ x1 then (some M) else (grd (mIn x1 5) (bR (Md_rest N (M.1 24 x1.toNatClampNeg) (M.1 15 6) M) fun r3 => grd (mIn x1 5) (nxt (mWI M 24 x1.toNatClampNeg r3) fun M5 => Ga_settle_53 N n (x1 + 1) M5)))
def Ga_settle_2 (N : Nat)  : Nat → Int32 → mS → Option mS
  | 0, _, _ => none
  | n + 1, x1, M => if 4 ≤ x1 then (Ga_settle_53 N N 0 M) else (grd (mIn x1 4) (bR (Md_rest N (M.1 21 x1.toNatClampNeg) (M.1 15 6) M) fun r8 => grd (mIn x1 4) (nxt (mWI M 21 x1.toNatClampNeg r8) fun M10 => grd (mIn x1 4) (bR (Md_rest N (M10.1 22 x1.toNatClampNeg) (M10.1 15 6) M10) fun r13 => grd (mIn x1 4) (nxt (mWI M10 22 x1.toNatClampNeg r13) fun M15 => Ga_settle_2 N n (x1 + 1) M15)))))
/-- MoonDials$Garden.settle()V of .ref 15 -/
def Ga_settle (N : Nat)  (M : mS) : Option mS := Ga_settle_2 N N 0 M
/-- MoonDials$Tokens.kindOf(I)I of .ref 26, .int a0 -/
def Tk_kindOf (N : Nat) (a0 : Int32) (M : mS) : Option Int32 := if a0 < 0 then (some 31) else (if (M.1 26 4) ≤ a0 then (some 31) else (grd (mIn a0 401) (some (M.1 28 a0.toNatClampNeg))))
/-- MoonDials$Reader.failForm(I)V of .ref 14, .int a0 -/
def Rr_failForm (N : Nat) (a0 : Int32) (M : mS) : Option mS := if (M.1 14 9) = 0 then (nxt (mWI M 14 9 a0) fun M1 => some M1) else (some M)
def Rr_take_60 (N : Nat)  (M : mS) : Option (Int32 × mS) := if (M.1 14 9) = 0 then (some (1, M)) else (some (0, M))
/-- MoonDials$Reader.take(I)Z of .ref 14, .int a0 -/
def Rr_take (N : Nat) (a0 : Int32) (M : mS) : Option (Int32 × mS) := if (M.1 14 9) = 0 then (bR (Tk_kindOf N (M.1 14 8) M) fun r2 => if r2 = a0 then (if (M.1 14 8) < 400 then (nxt (mWI M 14 8 ((M.1 14 8) + 1)) fun M3 => Rr_take_60 N M3) else (bV (Rr_failForm N 2 M) fun M5 => Rr_take_60 N M5)) else (bV (Rr_failForm N 1 M) fun M7 => Rr_take_60 N M7)) else (some (0, M))
/-- MoonDials$Reader.rank(I)I of .int a0 -/
def Rr_rank (a0 : Int32) (M : mS) : Int32 := if a0 = 29 then 0 else (if 25 < a0 then 2 else 1)
def Rr_putWaiting_0 (N : Nat)  : Nat → Int32 → mS → Option mS
  | 0, _, _ => none
  | n + 1, x1, M => if (M.1 14 5) ≤ 0 then (some M) else (grd (mIn ((M.1 14 5) - 1) 32) (if (Rr_rank (M.1 33 ((M.1 14 5) - 1).toNatClampNeg) M) < x1 then (some M) else (nxt (mWI M 14 5 ((M.1 14 5) - 1)) fun M2 => grd (mIn (M2.1 14 5) 32) (bW (La_put N ((2 + (M2.1 33 (M2.1 14 5).toNatClampNeg)) - 24) 0 M2) fun r6 M5 => Rr_putWaiting_0 N n x1 M5))))
/-- MoonDials$Reader.putWaiting(I)V of .ref 14, .int a0 -/
def Rr_putWaiting (N : Nat) (a0 : Int32) (M : mS) : Option mS := Rr_putWaiting_0 N N a0 M
/-- MoonDials$Reader.letWait(I)V of .ref 14, .int a0 -/
def Rr_letWait (N : Nat) (a0 : Int32) (M : mS) : Option mS := if (Int32.ofNat 32) ≤ (M.1 14 5) then (some M) else (grd (mIn (M.1 14 5) 32) (nxt (mWI M 33 (M.1 14 5).toNatClampNeg a0) fun M2 => nxt (mWI M2 14 5 ((M2.1 14 5) + 1)) fun M3 => some M3))
def Rr_readSign_48 (N : Nat)  (M : mS) : Option (Int32 × mS) := bV (Rr_putWaiting N 1 M) fun M2 => if (M2.1 14 6) = 0 then (some (0, M2)) else (nxt (mWI M2 14 6 ((M2.1 14 6) - 1)) fun M3 => nxt (mWI M3 14 5 (if 0 < ((M3.1 14 5) - 1) then ((M3.1 14 5) - 1) else 0)) fun M4 => bW (Rr_take N 30 M4) fun r7 M6 => some (r7, M6))
/-- MoonDials$Reader.readSign()Z of .ref 14 -/
def Rr_readSign (N : Nat)  (M : mS) : Option (Int32 × mS) := bR (Tk_kindOf N (M.1 14 8) M) fun r10 => if r10 < 24 then (Rr_readSign_48 N M) else (if 27 < r10 then (Rr_readSign_48 N M) else (bV (Rr_putWaiting N (Rr_rank r10 M) M) fun M12 => bV (Rr_letWait N r10 M12) fun M14 => nxt (mWI M14 14 7 1) fun M15 => bW (Rr_take N r10 M15) fun r18 M17 => some (r18, M17)))
/-- MoonDials$Tokens.valueOf(I)J of .ref 26, .int a0 -/
def Tk_valueOf (N : Nat) (a0 : Int32) (M : mS) : Option Int64 := if a0 < 0 then (some 0) else (if (M.1 26 4) ≤ a0 then (some 0) else (grd (mIn a0 401) (some (M.2 30 a0.toNatClampNeg))))
def Rr_readUnit_129 (N : Nat) (x1 : Int32) (M : mS) : Option (Int32 × mS) := bW (Rr_take N x1 M) fun r3 M2 => some (r3, M2)
def Rr_readUnit_32 (N : Nat) (x1 : Int32) (M : mS) : Option (Int32 × mS) := nxt (mWI M 14 6 ((M.1 14 6) + 1)) fun M5 => bV (Rr_letWait N x1 M5) fun M7 => Rr_readUnit_129 N x1 M7
def Rr_readUnit_124 (N : Nat) (x1 : Int32) (M : mS) : Option (Int32 × mS) := bV (Rr_failForm N 1 M) fun M9 => Rr_readUnit_129 N x1 M9
/-- MoonDials$Reader.readUnit()Z of .ref 14 -/
def Rr_readUnit (N : Nat)  (M : mS) : Option (Int32 × mS) := bR (Tk_kindOf N (M.1 14 8) M) fun r11 => if r11 = 29 then (if (M.1 14 6) < 6 then (Rr_readUnit_32 N r11 M) else (bV (Rr_failForm N 2 M) fun M13 => Rr_readUnit_32 N r11 M13)) else (if r11 = 21 then (bR (Tk_valueOf N (M.1 14 8) M) fun r15 => bW (La_put N 0 r15.toInt32 M) fun r18 M17 => nxt (mWI M17 14 7 0) fun M19 => Rr_readUnit_129 N r11 M19) else (if r11 < 11 then (Rr_readUnit_124 N r11 M) else (if 19 < r11 then (Rr_readUnit_124 N r11 M) else (bW (La_put N 1 (r11 - 11) M) fun r22 M21 => nxt (mWI M21 14 7 0) fun M23 => Rr_readUnit_129 N r11 M23))))
