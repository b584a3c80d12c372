/-! METHODS as functions: printed by program -/
def Tl_pairFrom_s2_139 (N : Nat) (k68 : Int32 → Int32 → mS → Option mS) (x2 : Int32) (x3 : Int32) (M : mS) : Option mS := k68 x2 (x3 + 1) M
def Tl_pairFrom_s2_68 (N : Nat)  : Nat → Int32 → Int32 → mS → Option mS
  | 0, _, _, _ => none
  | n + 1, x2, x3, M => if (M.1 3 8) ≤ x3 then (some M) else (grd (mIn x3 5) (if (M.1 49 x3.toNatClampNeg) = (-2) then (nxt (mWI M 49 2 x3) fun M2 => grd (mIn x3 5) (nxt (mWI M2 49 x3.toNatClampNeg 2) fun M4 => grd (mIn ((2 * 5) + x3) 25) (bV (Tl_pairFrom_s3 N (x2 + (M4.1 47 ((2 * 5) + x3).toNatClampNeg)) M4) fun M7 => nxt (mWI M7 49 2 (-2)) fun M8 => grd (mIn x3 5) (nxt (mWI M8 49 x3.toNatClampNeg (-2)) fun M10 => Tl_pairFrom_s2_139 N (Tl_pairFrom_s2_68 N n) x2 x3 M10)))) else (Tl_pairFrom_s2_139 N (Tl_pairFrom_s2_68 N n) x2 x3 M)))
/-- MoonDials$Tallies.pairFrom(LMoonDials$Tallies;II)V of .ref 45, .int 2, .int a0 -/
def Tl_pairFrom_s2 (N : Nat) (a0 : Int32) (M : mS) : Option mS := if (M.1 3 8) ≤ 2 then (if a0 ≤ (M.1 45 0) then (some M) else (nxt (mWI M 45 0 a0) fun M11 => nxt (mWW M11 46 (va_cpy (M11.1 49) (M11.1 46) (0 : Int32).toNatClampNeg (0 : Int32).toNatClampNeg (5 : Int32).toNatClampNeg)) fun M12 => some M12)) else (bV (Tl_pairFrom_s3 N a0 M) fun M14 => if (M14.1 49 2) = (-2) then (Tl_pairFrom_s2_68 N N a0 (2 + 1) M14) else (some M14))
def Tl_pairFrom_s1_139 (N : Nat) (k68 : Int32 → Int32 → mS → Option mS) (x2 : Int32) (x3 : Int32) (M : mS) : Option mS := k68 x2 (x3 + 1) M
def Tl_pairFrom_s1_68 (N : Nat)  : Nat → Int32 → Int32 → mS → Option mS
  | 0, _, _, _ => none
  | n + 1, x2, x3, M => if (M.1 3 8) ≤ x3 then (some M) else (grd (mIn x3 5) (if (M.1 49 x3.toNatClampNeg) = (-2) then (nxt (mWI M 49 1 x3) fun M2 => grd (mIn x3 5) (nxt (mWI M2 49 x3.toNatClampNeg 1) fun M4 => grd (mIn ((1 * 5) + x3) 25) (bV (Tl_pairFrom_s2 N (x2 + (M4.1 47 ((1 * 5) + x3).toNatClampNeg)) M4) fun M7 => nxt (mWI M7 49 1 (-2)) fun M8 => grd (mIn x3 5) (nxt (mWI M8 49 x3.toNatClampNeg (-2)) fun M10 => Tl_pairFrom_s1_139 N (Tl_pairFrom_s1_68 N n) x2 x3 M10)))) else (Tl_pairFrom_s1_139 N (Tl_pairFrom_s1_68 N n) x2 x3 M)))
/-- MoonDials$Tallies.pairFrom(LMoonDials$Tallies;II)V of .ref 45, .int 1, .int a0 -/
def Tl_pairFrom_s1 (N : Nat) (a0 : Int32) (M : mS) : Option mS := if (M.1 3 8) ≤ 1 then (if a0 ≤ (M.1 45 0) then (some M) else (nxt (mWI M 45 0 a0) fun M11 => nxt (mWW M11 46 (va_cpy (M11.1 49) (M11.1 46) (0 : Int32).toNatClampNeg (0 : Int32).toNatClampNeg (5 : Int32).toNatClampNeg)) fun M12 => some M12)) else (bV (Tl_pairFrom_s2 N a0 M) fun M14 => if (M14.1 49 1) = (-2) then (Tl_pairFrom_s1_68 N N a0 (1 + 1) M14) else (some M14))
def Tl_pairFrom_139 (N : Nat) (k68 : Int32 → Int32 → mS → Option mS) (x2 : Int32) (x3 : Int32) (M : mS) : Option mS := k68 x2 (x3 + 1) M
def Tl_pairFrom_68 (N : Nat)  : Nat → Int32 → Int32 → mS → Option mS
  | 0, _, _, _ => none
  | n + 1, x2, x3, M => if (M.1 3 8) ≤ x3 then (some M) else (grd (mIn x3 5) (if (M.1 49 x3.toNatClampNeg) = (-2) then (nxt (mWI M 49 0 x3) fun M2 => grd (mIn x3 5) (nxt (mWI M2 49 x3.toNatClampNeg 0) fun M4 => grd (mIn ((0 * 5) + x3) 25) (bV (Tl_pairFrom_s1 N (x2 + (M4.1 47 ((0 * 5) + x3).toNatClampNeg)) M4) fun M7 => nxt (mWI M7 49 0 (-2)) fun M8 => grd (mIn x3 5) (nxt (mWI M8 49 x3.toNatClampNeg (-2)) fun M10 => Tl_pairFrom_139 N (Tl_pairFrom_68 N n) x2 x3 M10)))) else (Tl_pairFrom_139 N (Tl_pairFrom_68 N n) x2 x3 M)))
/-- MoonDials$Tallies.pairFrom(LMoonDials$Tallies;II)V of .ref 45, .int 0, .int a0 -/
def Tl_pairFrom (N : Nat) (a0 : Int32) (M : mS) : Option mS := if (M.1 3 8) ≤ 0 then (if a0 ≤ (M.1 45 0) then (some M) else (nxt (mWI M 45 0 a0) fun M11 => nxt (mWW M11 46 (va_cpy (M11.1 49) (M11.1 46) (0 : Int32).toNatClampNeg (0 : Int32).toNatClampNeg (5 : Int32).toNatClampNeg)) fun M12 => some M12)) else (bV (Tl_pairFrom_s1 N a0 M) fun M14 => if (M14.1 49 0) = (-2) then (Tl_pairFrom_68 N N a0 (0 + 1) M14) else (some M14))
def Tl_bestCouples_12 (N : Nat)  : Nat → Int32 → mS → Option (Int32 × mS)
  | 0, _, _ => none
  | n + 1, x2, M => if 5 ≤ x2 then (bV (Tl_pairFrom N 0 M) fun M2 => some (M2.1 45 0, M2)) else (grd (mIn x2 5) (nxt (mWI M 49 x2.toNatClampNeg (-2)) fun M4 => Tl_bestCouples_12 N n (x2 + 1) M4))
/-- MoonDials$Tallies.bestCouples(I)I of .ref 45, .int a0 -/
def Tl_bestCouples (N : Nat) (a0 : Int32) (M : mS) : Option (Int32 × mS) := bV (Tl_addShared N a0 M) fun M6 => nxt (mWI M6 45 0 (-1)) fun M7 => Tl_bestCouples_12 N N 0 M7
def Md_couples_24 (N : Nat) (x1 : Int32) (x2 : Int32) (M : mS) : Option (Int32 × mS) := bV (Wk_begin N M) fun M2 => bW (Tl_bestCouples N x1 M2) fun r5 M4 => if x2 = (-1) then (some (r5, M4)) else (grd (mIn x2 5) (some (M4.1 46 x2.toNatClampNeg, M4)))
/-- MoonDials.couples(II)I of .ref 0, .int a0, .int a1 -/
def Md_couples (N : Nat) (a0 : Int32) (a1 : Int32) (M : mS) : Option (Int32 × mS) := if (Md_isWithin a0 60 M) = 0 then (some ((-1), M)) else (if a1 = (-1) then (Md_couples_24 N a0 a1 M) else (if (Md_isGoer a1 M) = 0 then (some ((-1), M)) else (Md_couples_24 N a0 a1 M)))
def Md_fullest_57 (N : Nat) (k19 : Int32 → Int32 → Int32 → mS → Option (Int32 × mS)) (x1 : Int32) (x2 : Int32) (x3 : Int32) (M : mS) : Option (Int32 × mS) := k19 x1 x2 (x3 + 1) M
def Md_fullest_19 (N : Nat)  : Nat → Int32 → Int32 → Int32 → mS → Option (Int32 × mS)
  | 0, _, _, _, _ => none
  | n + 1, x1, x2, x3, M => if (M.1 3 6) ≤ x3 then (if x1 = 0 then (some (x2, M)) else (bR (Wk_whoAt N x2 M) fun r2 => some (Jl_bitCount r2 M, M))) else (bR (Wk_whoAt N x3 M) fun r4 => bR (Wk_whoAt N x2 M) fun r6 => if (Jl_bitCount r4 M) ≤ (Jl_bitCount r6 M) then (Md_fullest_57 N (Md_fullest_19 N n) x1 x2 x3 M) else (Md_fullest_57 N (Md_fullest_19 N n) x1 x3 x3 M))
def Md_fullest_11 (N : Nat) (x1 : Int32) (M : mS) : Option (Int32 × mS) := bV (Md_seeThisNight N M) fun M8 => Md_fullest_19 N N x1 0 1 M8
/-- MoonDials.fullest(I)I of .ref 0, .int a0 -/
def Md_fullest (N : Nat) (a0 : Int32) (M : mS) : Option (Int32 × mS) := if a0 = 0 then (Md_fullest_11 N a0 M) else (if a0 = 1 then (Md_fullest_11 N a0 M) else (some ((-1), M)))
/-- MoonDials$Walk.begin([I)V of .ref 39, .ref 52 -/
def Wk_begin_s1 (N : Nat)  (M : mS) : Option mS := nxt (mWW M 40 (va_cpy (M.1 52) (M.1 40) (0 : Int32).toNatClampNeg (0 : Int32).toNatClampNeg (44 : Int32).toNatClampNeg)) fun M1 => nxt (mWI M1 39 7 0) fun M2 => some M2
/-- MoonDials$Game.tryMove(II)I of .ref 50, .int 0, .int a0 -/
def Gm_tryMove (N : Nat) (a0 : Int32) (M : mS) : Option (Int32 × mS) := bV (Wk_begin_s1 N M) fun M2 => grd (mIn (1 + (M2.1 50 4)) 44) (bR (Md_rest N ((M2.1 40 (1 + (M2.1 50 4)).toNatClampNeg) + a0) (M2.1 3 6) M2) fun r5 => grd (mIn (1 + (M2.1 50 4)) 44) (nxt (mWI M2 40 (1 + (M2.1 50 4)).toNatClampNeg r5) fun M7 => bV (Wk_see N (-1) M7) fun M9 => bR (Wk_shared N 0 1 M9) fun r11 => bV (Wk_pass N M9) fun M13 => nxt (mWW M13 53 (va_cpy (M13.1 40) (M13.1 53) (0 : Int32).toNatClampNeg (0 : Int32).toNatClampNeg (44 : Int32).toNatClampNeg)) fun M14 => some (r11, M14)))
/-- MoonDials$Walk.begin([I)V of .ref 39, .ref 53 -/
def Wk_begin_s2 (N : Nat)  (M : mS) : Option mS := nxt (mWW M 40 (va_cpy (M.1 53) (M.1 40) (0 : Int32).toNatClampNeg (0 : Int32).toNatClampNeg (44 : Int32).toNatClampNeg)) fun M1 => nxt (mWI M1 39 7 0) fun M2 => some M2
/-- MoonDials$Game.tryMove(II)I of .ref 50, .int 1, .int a0 -/
def Gm_tryMove_s1 (N : Nat) (a0 : Int32) (M : mS) : Option (Int32 × mS) := bV (Wk_begin_s2 N M) fun M2 => grd (mIn (1 + (M2.1 50 4)) 44) (bR (Md_rest N ((M2.1 40 (1 + (M2.1 50 4)).toNatClampNeg) + a0) (M2.1 3 6) M2) fun r5 => grd (mIn (1 + (M2.1 50 4)) 44) (nxt (mWI M2 40 (1 + (M2.1 50 4)).toNatClampNeg r5) fun M7 => bV (Wk_see N (-1) M7) fun M9 => bR (Wk_shared N 0 1 M9) fun r11 => bV (Wk_pass N M9) fun M13 => nxt (mWW M13 54 (va_cpy (M13.1 40) (M13.1 54) (0 : Int32).toNatClampNeg (0 : Int32).toNatClampNeg (44 : Int32).toNatClampNeg)) fun M14 => some (r11, M14)))
/-- MoonDials$Walk.begin([I)V of .ref 39, .ref 54 -/
def Wk_begin_s3 (N : Nat)  (M : mS) : Option mS := nxt (mWW M 40 (va_cpy (M.1 54) (M.1 40) (0 : Int32).toNatClampNeg (0 : Int32).toNatClampNeg (44 : Int32).toNatClampNeg)) fun M1 => nxt (mWI M1 39 7 0) fun M2 => some M2
/-- MoonDials$Game.tryMove(II)I of .ref 50, .int 2, .int a0 -/
def Gm_tryMove_s2 (N : Nat) (a0 : Int32) (M : mS) : Option (Int32 × mS) := bV (Wk_begin_s3 N M) fun M2 => grd (mIn (1 + (M2.1 50 4)) 44) (bR (Md_rest N ((M2.1 40 (1 + (M2.1 50 4)).toNatClampNeg) + a0) (M2.1 3 6) M2) fun r5 => grd (mIn (1 + (M2.1 50 4)) 44) (nxt (mWI M2 40 (1 + (M2.1 50 4)).toNatClampNeg r5) fun M7 => bV (Wk_see N (-1) M7) fun M9 => bR (Wk_shared N 0 1 M9) fun r11 => bV (Wk_pass N M9) fun M13 => nxt (mWW M13 55 (va_cpy (M13.1 40) (M13.1 55) (0 : Int32).toNatClampNeg (0 : Int32).toNatClampNeg (44 : Int32).toNatClampNeg)) fun M14 => some (r11, M14)))
/-- MoonDials$Walk.begin([I)V of .ref 39, .ref 55 -/
def Wk_begin_s4 (N : Nat)  (M : mS) : Option mS := nxt (mWW M 40 (va_cpy (M.1 55) (M.1 40) (0 : Int32).toNatClampNeg (0 : Int32).toNatClampNeg (44 : Int32).toNatClampNeg)) fun M1 => nxt (mWI M1 39 7 0) fun M2 => some M2
/-- MoonDials$Game.tryMove(II)I of .ref 50, .int 3, .int a0 -/
def Gm_tryMove_s3 (N : Nat) (a0 : Int32) (M : mS) : Option (Int32 × mS) := bV (Wk_begin_s4 N M) fun M2 => grd (mIn (1 + (M2.1 50 4)) 44) (bR (Md_rest N ((M2.1 40 (1 + (M2.1 50 4)).toNatClampNeg) + a0) (M2.1 3 6) M2) fun r5 => grd (mIn (1 + (M2.1 50 4)) 44) (nxt (mWI M2 40 (1 + (M2.1 50 4)).toNatClampNeg r5) fun M7 => bV (Wk_see N (-1) M7) fun M9 => bR (Wk_shared N 0 1 M9) fun r11 => bV (Wk_pass N M9) fun M13 => nxt (mWW M13 56 (va_cpy (M13.1 40) (M13.1 56) (0 : Int32).toNatClampNeg (0 : Int32).toNatClampNeg (44 : Int32).toNatClampNeg)) fun M14 => some (r11, M14)))
/-- MoonDials$Walk.begin([I)V of .ref 39, .ref 56 -/
def Wk_begin_s5 (N : Nat)  (M : mS) : Option mS := nxt (mWW M 40 (va_cpy (M.1 56) (M.1 40) (0 : Int32).toNatClampNeg (0 : Int32).toNatClampNeg (44 : Int32).toNatClampNeg)) fun M1 => nxt (mWI M1 39 7 0) fun M2 => some M2
/-- MoonDials$Game.tryMove(II)I of .ref 50, .int 4, .int a0 -/
def Gm_tryMove_s4 (N : Nat) (a0 : Int32) (M : mS) : Option (Int32 × mS) := bV (Wk_begin_s5 N M) fun M2 => grd (mIn (1 + (M2.1 50 4)) 44) (bR (Md_rest N ((M2.1 40 (1 + (M2.1 50 4)).toNatClampNeg) + a0) (M2.1 3 6) M2) fun r5 => grd (mIn (1 + (M2.1 50 4)) 44) (nxt (mWI M2 40 (1 + (M2.1 50 4)).toNatClampNeg r5) fun M7 => bV (Wk_see N (-1) M7) fun M9 => bR (Wk_shared N 0 1 M9) fun r11 => bV (Wk_pass N M9) fun M13 => nxt (mWW M13 57 (va_cpy (M13.1 40) (M13.1 57) (0 : Int32).toNatClampNeg (0 : Int32).toNatClampNeg (44 : Int32).toNatClampNeg)) fun M14 => some (r11, M14)))
/-- MoonDials$Walk.begin([I)V of .ref 39, .ref 57 -/
def Wk_begin_s6 (N : Nat)  (M : mS) : Option mS := nxt (mWW M 40 (va_cpy (M.1 57) (M.1 40) (0 : Int32).toNatClampNeg (0 : Int32).toNatClampNeg (44 : Int32).toNatClampNeg)) fun M1 => nxt (mWI M1 39 7 0) fun M2 => some M2
/-- MoonDials$Game.tryMove(II)I of .ref 50, .int 5, .int a0 -/
def Gm_tryMove_s5 (N : Nat) (a0 : Int32) (M : mS) : Option (Int32 × mS) := bV (Wk_begin_s6 N M) fun M2 => grd (mIn (1 + (M2.1 50 4)) 44) (bR (Md_rest N ((M2.1 40 (1 + (M2.1 50 4)).toNatClampNeg) + a0) (M2.1 3 6) M2) fun r5 => grd (mIn (1 + (M2.1 50 4)) 44) (nxt (mWI M2 40 (1 + (M2.1 50 4)).toNatClampNeg r5) fun M7 => bV (Wk_see N (-1) M7) fun M9 => bR (Wk_shared N 0 1 M9) fun r11 => bV (Wk_pass N M9) fun M13 => nxt (mWW M13 58 (va_cpy (M13.1 40) (M13.1 58) (0 : Int32).toNatClampNeg (0 : Int32).toNatClampNeg (44 : Int32).toNatClampNeg)) fun M14 => some (r11, M14)))
/-- MoonDials$Game.hoursFrom(LMoonDials$Game;I)I of .ref 50, .int 6 -/
def Gm_hoursFrom_s6  (M : mS) : Int32 := if (M.1 50 5) ≤ 6 then 0 else 0
def Gm_hoursFrom_s5_96 (N : Nat) (k20 : Int32 → Int32 → mS → Option (Int32 × mS)) (x2 : Int32) (x3 : Int32) (M : mS) : Option (Int32 × mS) := k20 x2 (x3 + 1) M
def Gm_hoursFrom_s5_84 (N : Nat) (k20 : Int32 → Int32 → mS → Option (Int32 × mS)) (x3 : Int32) (x4 : Int32) (M : mS) : Option (Int32 × mS) := Gm_hoursFrom_s5_96 N k20 x4 x3 M
def Gm_hoursFrom_s5_72 (N : Nat) (k20 : Int32 → Int32 → mS → Option (Int32 × mS)) (x2 : Int32) (x3 : Int32) (x4 : Int32) (z0 : Int32) (M : mS) : Option (Int32 × mS) := if x2 = (-1) then (Gm_hoursFrom_s5_84 N k20 x3 x4 M) else (if z0 = 0 then (Gm_hoursFrom_s5_96 N k20 x2 x3 M) else (Gm_hoursFrom_s5_84 N k20 x3 x4 M))
def Gm_hoursFrom_s5_20 (N : Nat)  : Nat → Int32 → Int32 → mS → Option (Int32 × mS)
  | 0, _, _, _ => none
  | n + 1, x2, x3, M => if 2 < x3 then (some (x2, M)) else (bW (Gm_tryMove_s5 N x3 M) fun r3 M2 => nxt (r3 + (Gm_hoursFrom_s6 M2)) fun v4 => if x2 ≤ v4 then (Gm_hoursFrom_s5_72 N (Gm_hoursFrom_s5_20 N n) x2 x3 v4 0 M2) else (Gm_hoursFrom_s5_72 N (Gm_hoursFrom_s5_20 N n) x2 x3 v4 1 M2))
/-- MoonDials$Game.hoursFrom(LMoonDials$Game;I)I of .ref 50, .int 5 -/
def Gm_hoursFrom_s5 (N : Nat)  (M : mS) : Option (Int32 × mS) := if (M.1 50 5) ≤ 5 then (some (0, M)) else (Gm_hoursFrom_s5_20 N N (-1) 0 M)
def Gm_hoursFrom_s4_96 (N : Nat) (k20 : Int32 → Int32 → mS → Option (Int32 × mS)) (x2 : Int32) (x3 : Int32) (M : mS) : Option (Int32 × mS) := k20 x2 (x3 + 1) M
def Gm_hoursFrom_s4_84 (N : Nat) (k20 : Int32 → Int32 → mS → Option (Int32 × mS)) (x3 : Int32) (x4 : Int32) (M : mS) : Option (Int32 × mS) := Gm_hoursFrom_s4_96 N k20 x4 x3 M
def Gm_hoursFrom_s4_72 (N : Nat) (k20 : Int32 → Int32 → mS → Option (Int32 × mS)) (x2 : Int32) (x3 : Int32) (x4 : Int32) (z0 : Int32) (M : mS) : Option (Int32 × mS) := if x2 = (-1) then (Gm_hoursFrom_s4_84 N k20 x3 x4 M) else (if z0 = 0 then (Gm_hoursFrom_s4_96 N k20 x2 x3 M) else (Gm_hoursFrom_s4_84 N k20 x3 x4 M))
def Gm_hoursFrom_s4_20 (N : Nat)  : Nat → Int32 → Int32 → mS → Option (Int32 × mS)
  | 0, _, _, _ => none
  | n + 1, x2, x3, M => if 2 < x3 then (some (x2, M)) else (bW (Gm_tryMove_s4 N x3 M) fun r3 M2 => bW (Gm_hoursFrom_s5 N M2) fun r6 M5 => nxt (r3 + r6) fun v7 => if v7 ≤ x2 then (Gm_hoursFrom_s4_72 N (Gm_hoursFrom_s4_20 N n) x2 x3 v7 0 M5) else (Gm_hoursFrom_s4_72 N (Gm_hoursFrom_s4_20 N n) x2 x3 v7 1 M5))
/-- MoonDials$Game.hoursFrom(LMoonDials$Game;I)I of .ref 50, .int 4 -/
def Gm_hoursFrom_s4 (N : Nat)  (M : mS) : Option (Int32 × mS) := if (M.1 50 5) ≤ 4 then (some (0, M)) else (Gm_hoursFrom_s4_20 N N (-1) 0 M)
def Gm_hoursFrom_s3_96 (N : Nat) (k20 : Int32 → Int32 → mS → Option (Int32 × mS)) (x2 : Int32) (x3 : Int32) (M : mS) : Option (Int32 × mS) := k20 x2 (x3 + 1) M
def Gm_hoursFrom_s3_84 (N : Nat) (k20 : Int32 → Int32 → mS → Option (Int32 × mS)) (x3 : Int32) (x4 : Int32) (M : mS) : Option (Int32 × mS) := Gm_hoursFrom_s3_96 N k20 x4 x3 M
def Gm_hoursFrom_s3_72 (N : Nat) (k20 : Int32 → Int32 → mS → Option (Int32 × mS)) (x2 : Int32) (x3 : Int32) (x4 : Int32) (z0 : Int32) (M : mS) : Option (Int32 × mS) := if x2 = (-1) then (Gm_hoursFrom_s3_84 N k20 x3 x4 M) else (if z0 = 0 then (Gm_hoursFrom_s3_96 N k20 x2 x3 M) else (Gm_hoursFrom_s3_84 N k20 x3 x4 M))
def Gm_hoursFrom_s3_20 (N : Nat)  : Nat → Int32 → Int32 → mS → Option (Int32 × mS)
  | 0, _, _, _ => none
  | n + 1, x2, x3, M => if 2 < x3 then (some (x2, M)) else (bW (Gm_tryMove_s3 N x3 M) fun r3 M2 => bW (Gm_hoursFrom_s4 N M2) fun r6 M5 => nxt (r3 + r6) fun v7 => if x2 ≤ v7 then (Gm_hoursFrom_s3_72 N (Gm_hoursFrom_s3_20 N n) x2 x3 v7 0 M5) else (Gm_hoursFrom_s3_72 N (Gm_hoursFrom_s3_20 N n) x2 x3 v7 1 M5))
/-- MoonDials$Game.hoursFrom(LMoonDials$Game;I)I of .ref 50, .int 3 -/
def Gm_hoursFrom_s3 (N : Nat)  (M : mS) : Option (Int32 × mS) := if (M.1 50 5) ≤ 3 then (some (0, M)) else (Gm_hoursFrom_s3_20 N N (-1) 0 M)
