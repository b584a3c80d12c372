/-! METHODS as functions: printed by program -/
def Mo_tellOne_366 (N : Nat) (x1 : Int32) (M : mS) : Option mS := if (M.1 64 13) ≤ 0 then (bV (Mo_goesOn N M) fun M2 => bV (Mo_tellLaw N x1 M2) fun M4 => some M4) else (some M)
def Mo_tellOne_361 (N : Nat) (x1 : Int32) (M : mS) : Option mS := bV (Mo_fail N 1 M) fun M6 => Mo_tellOne_366 N x1 M6
/-- MoonDialsModel.tellOne()V of .ref 64 -/
def Mo_tellOne (N : Nat)  (M : mS) : Option mS := grd (mIn (M.1 64 11) 403) (if (M.1 67 (M.1 64 11).toNatClampNeg) = 20 then (bV (Mo_goesOn N M) fun M9 => bW (Mo_bounded N 2 24 M9) fun r12 M11 => grd (mIn (M9.1 64 19) 2) (nxt (mWI M11 74 (M9.1 64 19).toNatClampNeg r12) fun M14 => bV (Mo_must N 4 M14) fun M16 => some M16)) else if (M.1 67 (M.1 64 11).toNatClampNeg) = 21 then (grd (mIn (M.1 64 19) 2) (bV (Mo_roomFor N (M.1 75 (M.1 64 19).toNatClampNeg) 4 M) fun M19 => if (M19.1 64 13) ≤ 0 then (grd (mIn (M19.1 64 19) 2) (nxt ((4 * (M19.1 64 19)) + (M19.1 75 (M19.1 64 19).toNatClampNeg)) fun v21 => bW (Mo_named N M19) fun r24 M23 => bW (Mo_bounded N 0 23 M23) fun r27 M26 => grd (mIn v21 8) (nxt (mWI M26 76 v21.toNatClampNeg r27) fun M29 => bW (Mo_bounded N 0 23 M29) fun r32 M31 => grd (mIn v21 8) (nxt (mWI M31 77 v21.toNatClampNeg r32) fun M34 => grd (mIn (M34.1 64 19) 2) (bV (Mo_endsName N r24 (M34.1 75 (M34.1 64 19).toNatClampNeg) M34) fun M37 => if (M37.1 64 13) = 0 then (grd (mIn (M37.1 64 19) 2) (grd (mIn (M37.1 64 19) 2) (nxt (mWI M37 75 (M37.1 64 19).toNatClampNeg ((M37.1 75 (M37.1 64 19).toNatClampNeg) + 1)) fun M40 => some M40))) else (some M37)))))) else (some M19))) else if (M.1 67 (M.1 64 11).toNatClampNeg) = 22 then (grd (mIn (M.1 64 19) 2) (bV (Mo_roomFor N (M.1 78 (M.1 64 19).toNatClampNeg) 5 M) fun M43 => if (M43.1 64 13) ≤ 0 then (grd (mIn (M43.1 64 19) 2) (nxt ((5 * (M43.1 64 19)) + (M43.1 78 (M43.1 64 19).toNatClampNeg)) fun v45 => bW (Mo_named N M43) fun r48 M47 => bW (Mo_known N M47) fun r51 M50 => grd (mIn v45 10) (nxt (mWI M50 79 v45.toNatClampNeg r51) fun M53 => bW (Mo_bounded N 0 23 M53) fun r56 M55 => grd (mIn v45 10) (nxt (mWI M55 80 v45.toNatClampNeg r56) fun M58 => bW (Mo_bounded N 1 24 M58) fun r61 M60 => grd (mIn v45 10) (nxt (mWI M60 81 v45.toNatClampNeg r61) fun M63 => bV (Mo_endsName N r48 10 M63) fun M65 => if (M65.1 64 13) = 0 then (grd (mIn (M65.1 64 19) 2) (grd (mIn (M65.1 64 19) 2) (nxt (mWI M65 78 (M65.1 64 19).toNatClampNeg ((M65.1 78 (M65.1 64 19).toNatClampNeg) + 1)) fun M68 => some M68))) else (some M65)))))) else (some M43))) else if (M.1 67 (M.1 64 11).toNatClampNeg) = 27 then (bV (Mo_goesOn N M) fun M70 => bW (Mo_bounded N 0 9999 M70) fun r73 M72 => grd (mIn (M70.1 64 19) 2) (nxt (mWI M72 82 (M70.1 64 19).toNatClampNeg r73) fun M75 => bV (Mo_must N 4 M75) fun M77 => some M77)) else grd (mIn (M.1 64 11) 403) (nxt ((M.1 67 (M.1 64 11).toNatClampNeg) - 23) fun v79 => if v79 < 0 then (Mo_tellOne_361 N v79 M) else (grd (mIn (M.1 64 11) 403) (if (M.1 67 (M.1 64 11).toNatClampNeg) ≤ 26 then (Mo_tellOne_366 N v79 M) else (Mo_tellOne_361 N v79 M)))))
def Mo_read_219 (N : Nat)  : Nat → Int32 → mS → Option (Int32 × mS)
  | 0, _, _ => none
  | n + 1, x1, M => if 3 ≤ x1 then (some (0, M)) else (grd (mIn x1 3) (nxt (mWI M 109 x1.toNatClampNeg (vp_nar .boolean 0)) fun M2 => Mo_read_219 N n (x1 + 1) M2))
def Mo_read_164 (N : Nat) (z1 : Int32) (M : mS) : Option (Int32 × mS) := nxt (mWI M 64 17 z1) fun M3 => if (M3.1 64 13) ≤ 0 then (if (M3.1 64 15) ≤ 0 then (nxt (mWI M3 64 18 (M3.1 64 19)) fun M4 => bV (Mo_begins N M4) fun M6 => bV (Mo_keepsRow N M6) fun M8 => nxt (mWI M8 64 53 0) fun M9 => nxt (mWI M9 64 62 0) fun M10 => Mo_read_219 N N 0 M10) else (some (M3.1 64 15, M3))) else (some (M3.1 64 13, M3))
def Mo_read_134 (N : Nat)  (M : mS) : Option (Int32 × mS) := if (M.1 64 13) ≤ 0 then (if (M.1 64 15) ≤ 0 then (Mo_read_164 N (-1) M) else (Mo_read_164 N (M.1 64 16) M)) else (Mo_read_164 N (M.1 64 14) M)
def Mo_read_112 (N : Nat)  : Nat → mS → Option (Int32 × mS)
  | 0, _ => none
  | n + 1, M => if (M.1 64 13) = 0 then (bR (Mo_is N 0 M) fun r12 => if r12 = 0 then (bV (Mo_tellOne N M) fun M15 => Mo_read_112 N n M15) else (Mo_read_134 N M)) else (Mo_read_134 N M)
def Mo_read_10 (N : Nat)  : Nat → Int32 → mS → Option (Int32 × mS)
  | 0, _, _ => none
  | n + 1, x1, M => if (M.1 64 4) ≤ x1 then (nxt (mWI M 64 2 0) fun M16 => bV (Mo_cut N M16) fun M18 => nxt (mWI M18 64 11 0) fun M19 => nxt (mWI M19 64 12 0) fun M20 => nxt (mWI M20 64 13 0) fun M21 => nxt (mWI M21 64 15 0) fun M22 => nxt (mWI M22 64 19 (1 - (M22.1 64 18))) fun M23 => nxt (mWI M23 64 20 0) fun M24 => bV (Mo_plain N (M24.1 64 19) M24) fun M26 => nxt (mWI M26 64 34 (130 * (M26.1 64 19))) fun M27 => nxt (mWI M27 64 40 (420 * (M27.1 64 19))) fun M28 => Mo_read_112 N N M28) else (grd (mIn x1 2000) (grd (mIn x1 2000) (nxt (mWI M 66 x1.toNatClampNeg (vp_nar .byte (M.1 65 x1.toNatClampNeg))) fun M31 => Mo_read_10 N n (x1 + 1) M31)))
/-- MoonDialsModel.read()I of .ref 64 -/
def Mo_read (N : Nat)  (M : mS) : Option (Int32 × mS) := nxt (mWI M 64 4 (M.1 64 2)) fun M32 => Mo_read_10 N N 0 M32
/-- MoonDialsModel.place()I of .ref 64 -/
def Mo_place  (M : mS) : Int32 := M.1 64 17
/-- MoonDialsModel.in(III)Z of .int a0, .int a1, .int a2 -/
def Mo_in (a0 : Int32) (a1 : Int32) (a2 : Int32) (M : mS) : Int32 := if a0 < a1 then 0 else (if a2 < a0 then 0 else 1)
/-- MoonDialsModel.isDial(I)Z of .ref 64, .int a0 -/
def Mo_isDial (N : Nat) (a0 : Int32) (M : mS) : Option Int32 := grd (mIn (M.1 64 18) 2) (some (Mo_in a0 0 ((M.1 75 (M.1 64 18).toNatClampNeg) - 1) M))
def Mo_copies_2 (N : Nat)  : Nat → Int32 → mS → Option mS
  | 0, _, _ => none
  | n + 1, x1, M => if 29 ≤ x1 then (grd (mIn (M.1 64 18) 2) (nxt (mWI M 64 50 (M.1 82 (M.1 64 18).toNatClampNeg)) fun M2 => nxt (mWI M2 64 51 0) fun M3 => some M3)) else (grd (mIn x1 29) (grd (mIn x1 29) (nxt (mWI M 96 x1.toNatClampNeg (M.1 95 x1.toNatClampNeg)) fun M6 => Mo_copies_2 N n (x1 + 1) M6)))
/-- MoonDialsModel.copies()V of .ref 64 -/
def Mo_copies (N : Nat)  (M : mS) : Option mS := Mo_copies_2 N N 0 M
/-- MoonDialsModel.mixed(II)I of .int a0, .int a1 -/
def Mo_mixed (a0 : Int32) (a1 : Int32) (M : mS) : Int32 := nxt (((a0 ^^^ a1) * 1103515245) + 12345) fun v1 => v1 ^^^ (ushr v1 15)
/-- MoonDialsModel.lotOf(II)I of .ref 64, .int a0, .int a1 -/
def Mo_lotOf (N : Nat) (a0 : Int32) (a1 : Int32) (M : mS) : Option Int32 := nz a1 (some ((ushr (Mo_mixed (Mo_mixed (M.1 64 50) 203 M) a0 M) 1) - (ushr (Mo_mixed (Mo_mixed (M.1 64 50) 203 M) a0 M) 1) / a1 * a1))
/-- MoonDialsModel.looks(I)V of .ref 64, .int a0 -/
def Mo_looks (N : Nat) (a0 : Int32) (M : mS) : Option mS := nxt (mWI M 93 0 (M.1 96 28)) fun M1 => grd (mIn a0 29) (nxt (mWI M1 93 1 (M1.1 96 a0.toNatClampNeg)) fun M3 => grd (mIn (4 + a0) 29) (nxt (mWI M3 93 2 (M3.1 96 (4 + a0).toNatClampNeg)) fun M5 => nxt (mWI M5 93 3 0) fun M6 => nxt (mWI M6 93 4 0) fun M7 => nxt (mWI M7 93 5 0) fun M8 => nxt (mWI M8 93 6 a0) fun M9 => bR (Mo_hours N M9) fun r11 => nxt (mWI M9 93 7 r11) fun M12 => grd (mIn (M12.1 64 18) 2) (nxt (mWI M12 93 8 (M12.1 78 (M12.1 64 18).toNatClampNeg)) fun M14 => some M14)))
def Mo_termOf_159 (N : Nat) (k5 : Int32 → Int32 → Int32 → mS → Option (Int32 × mS)) (x2 : Int32) (x3 : Int32) (x4 : Int32) (M : mS) : Option (Int32 × mS) := k5 x2 x3 (x4 + 1) M
def Mo_termOf_58 (N : Nat) (k5 : Int32 → Int32 → Int32 → mS → Option (Int32 × mS)) (x2 : Int32) (x3 : Int32) (x4 : Int32) (z1 : Int32) (z2 : Int32) (M : mS) : Option (Int32 × mS) := grd (mIn z1 400) (nxt (mWI M 94 z1.toNatClampNeg z2) fun M2 => Mo_termOf_159 N k5 x2 (x3 + 1) x4 M2)
def Mo_termOf_158 (N : Nat) (k5 : Int32 → Int32 → Int32 → mS → Option (Int32 × mS)) (x2 : Int32) (x3 : Int32) (x4 : Int32) (z1 : Int32) (z2 : Int32) (M : mS) : Option (Int32 × mS) := grd (mIn z1 400) (nxt (mWI M 94 z1.toNatClampNeg z2) fun M4 => Mo_termOf_159 N k5 x2 x3 x4 M4)
def Mo_termOf_104 (N : Nat) (k5 : Int32 → Int32 → Int32 → mS → Option (Int32 × mS)) (x2 : Int32) (x3 : Int32) (x4 : Int32) (x5 : Int32) (x6 : Int32) (x7 : Int32) (M : mS) : Option (Int32 × mS) := if x5 = 2 then (Mo_termOf_158 N k5 x2 x3 x4 (x3 - 1) (x6 + x7) M) else (if x5 = 3 then (Mo_termOf_158 N k5 x2 x3 x4 (x3 - 1) (x6 - x7) M) else (if x5 = 4 then (Mo_termOf_158 N k5 x2 x3 x4 (x3 - 1) (x6 * x7) M) else (nz x7 (Mo_termOf_158 N k5 x2 x3 x4 (x3 - 1) (x6 / x7) M))))
def Mo_termOf_5 (N : Nat)  : Nat → Int32 → Int32 → Int32 → mS → Option (Int32 × mS)
  | 0, _, _, _, _ => none
  | n + 1, x2, x3, x4, M => if x2 ≤ x4 then (some (M.1 94 0, M)) else (grd (mIn x4 840) (nxt (M.1 90 x4.toNatClampNeg) fun v7 => if 2 ≤ v7 then (grd (mIn ((x3 + (-1)) - 1) 400) (nxt (M.1 94 ((x3 + (-1)) - 1).toNatClampNeg) fun v9 => grd (mIn (x3 + (-1)) 400) (nxt (M.1 94 (x3 + (-1)).toNatClampNeg) fun v11 => if v7 = 5 then (if v11 = 0 then (nxt (mWI M 64 47 1) fun M12 => some (0, M12)) else (Mo_termOf_104 N (Mo_termOf_5 N n) x2 (x3 + (-1)) x4 v7 v9 v11 M)) else (Mo_termOf_104 N (Mo_termOf_5 N n) x2 (x3 + (-1)) x4 v7 v9 v11 M)))) else (if v7 = 0 then (grd (mIn x4 840) (Mo_termOf_58 N (Mo_termOf_5 N n) x2 x3 x4 x3 (M.1 91 x4.toNatClampNeg) M)) else (grd (mIn x4 840) (grd (mIn (M.1 91 x4.toNatClampNeg) 9) (Mo_termOf_58 N (Mo_termOf_5 N n) x2 x3 x4 x3 (M.1 93 (M.1 91 x4.toNatClampNeg).toNatClampNeg) M))))))
/-- MoonDialsModel.termOf(II)I of .ref 64, .int a0, .int a1 -/
def Mo_termOf (N : Nat) (a0 : Int32) (a1 : Int32) (M : mS) : Option (Int32 × mS) := Mo_termOf_5 N N a1 0 a0 M
def Mo_lawTells_119 (N : Nat) (x4 : Int32) (M : mS) : Option (Int32 × mS) := grd (mIn x4 260) (grd (mIn x4 260) (bW (Mo_termOf N (M.1 88 x4.toNatClampNeg) (M.1 89 x4.toNatClampNeg) M) fun r5 M4 => if (M4.1 64 47) = 0 then (some (r5, M4)) else (some (0, M4))))
def Mo_lawTells_39 (N : Nat)  : Nat → Int32 → Int32 → mS → Option (Int32 × mS)
  | 0, _, _, _ => none
  | n + 1, x3, x4, M => grd (mIn x3 8) (if (M.1 84 x3.toNatClampNeg) ≤ x4 then (some (0, M)) else (grd (mIn x4 260) (if (M.1 85 x4.toNatClampNeg) = 0 then (Mo_lawTells_119 N x4 M) else (grd (mIn x4 260) (grd (mIn x4 260) (bW (Mo_termOf N (M.1 86 x4.toNatClampNeg) (M.1 87 x4.toNatClampNeg) M) fun r12 M11 => grd (mIn x4 260) (grd (mIn x4 260) (bW (Mo_termOf N (M11.1 87 x4.toNatClampNeg) (M11.1 88 x4.toNatClampNeg) M11) fun r17 M16 => if (M16.1 64 47) = 0 then (if r12 < r17 then (Mo_lawTells_119 N x4 M16) else (Mo_lawTells_39 N n x3 (x4 + 1) M16)) else (some (0, M16))))))))))
/-- MoonDialsModel.lawTells(II)I of .ref 64, .int a0, .int a1 -/
def Mo_lawTells (N : Nat) (a0 : Int32) (a1 : Int32) (M : mS) : Option (Int32 × mS) := nxt ((4 * (M.1 64 18)) + a0) fun v18 => grd (mIn v18 8) (grd (mIn v18 8) (if (M.1 83 v18.toNatClampNeg) = (M.1 84 v18.toNatClampNeg) then (some (a1, M)) else (nxt (mWI M 64 47 0) fun M21 => grd (mIn v18 8) (nxt (M21.1 83 v18.toNatClampNeg) fun v23 => Mo_lawTells_39 N N v18 v23 M21))))
/-- MoonDialsModel.within(III)I of .int a0, .int a1, .int a2 -/
def Mo_within (a0 : Int32) (a1 : Int32) (a2 : Int32) (M : mS) : Int32 := if a1 ≤ a0 then (if a0 ≤ a2 then a0 else a2) else a1
/-- MoonDialsModel.dimsOf(I)I of .ref 64, .int a0 -/
def Mo_dimsOf (N : Nat) (a0 : Int32) (M : mS) : Option (Int32 × mS) := bV (Mo_looks N a0 M) fun M2 => bW (Mo_lawTells N 3 0 M2) fun r5 M4 => some (Mo_within r5 0 100 M4, M4)
/-- MoonDialsModel.isDim(I)Z of .ref 64, .int a0 -/
def Mo_isDim (N : Nat) (a0 : Int32) (M : mS) : Option (Int32 × mS) := bR (Mo_lotOf N ((8 * (M.1 96 28)) + a0) 100 M) fun r2 => bW (Mo_dimsOf N a0 M) fun r5 M4 => if r5 ≤ r2 then (some (0, M4)) else (some (1, M4))
/-- MoonDialsModel.dial(II)I of .ref 64, .int a0, .int a1 -/
def Mo_dial (N : Nat) (a0 : Int32) (a1 : Int32) (M : mS) : Option (Int32 × mS) := bR (Mo_isDial N a0 M) fun r2 => if r2 = 0 then (some ((-1), M)) else (bV (Mo_copies N M) fun M5 => if a1 = 0 then (grd (mIn a0 29) (some (M5.1 96 a0.toNatClampNeg, M5))) else if a1 = 1 then (grd (mIn (4 + a0) 29) (some (M5.1 96 (4 + a0).toNatClampNeg, M5))) else if a1 = 2 then (bW (Mo_dimsOf N a0 M5) fun r10 M9 => some (r10, M9)) else if a1 = 3 then (bW (Mo_isDim N a0 M5) fun r13 M12 => if r13 = 0 then (some (0, M12)) else (some (1, M12))) else some ((-1), M5))
/-- MoonDialsModel.isHour(I)Z of .ref 64, .int a0 -/
def Mo_isHour (N : Nat) (a0 : Int32) (M : mS) : Option Int32 := bR (Mo_hours N M) fun r2 => some (Mo_in a0 0 (r2 - 1) M)
/-- MoonDialsModel.showsBy(II)I of .ref 64, .int a0, .int a1 -/
def Mo_showsBy (N : Nat) (a0 : Int32) (a1 : Int32) (M : mS) : Option Int32 := bR (Mo_hours N M) fun r2 => nz r2 (some ((a1 + a0) - (a1 + a0) / r2 * r2))
/-- MoonDialsModel.shows(II)I of .ref 64, .int a0, .int a1 -/
def Mo_shows (N : Nat) (a0 : Int32) (a1 : Int32) (M : mS) : Option Int32 := bR (Mo_isDial N a0 M) fun r2 => if r2 = 0 then (some (-1)) else (bR (Mo_isHour N a1 M) fun r5 => if r5 = 0 then (some (-1)) else (grd (mIn a0 29) (bR (Mo_showsBy N (M.1 95 a0.toNatClampNeg) a1 M) fun r9 => some r9)))
/-- MoonDialsModel.isGoer(I)Z of .ref 64, .int a0 -/
def Mo_isGoer (N : Nat) (a0 : Int32) (M : mS) : Option Int32 := grd (mIn (M.1 64 18) 2) (some (Mo_in a0 0 ((M.1 78 (M.1 64 18).toNatClampNeg) - 1) M))
