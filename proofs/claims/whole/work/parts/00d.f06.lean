/-! METHODS as functions: printed by program -/
def Gm_hoursFrom_s2_96 (N : Nat) (k20 : Int32 → Int32 → mS → Option (Int32 × mS)) (x2 : Int32) (x3 : Int32) (M : mS) : Option (Int32 × mS) := k20 x2 (x3 + 1) M
def Gm_hoursFrom_s2_84 (N : Nat) (k20 : Int32 → Int32 → mS → Option (Int32 × mS)) (x3 : Int32) (x4 : Int32) (M : mS) : Option (Int32 × mS) := Gm_hoursFrom_s2_96 N k20 x4 x3 M
def Gm_hoursFrom_s2_72 (N : Nat) (k20 : Int32 → Int32 → mS → Option (Int32 × mS)) (x2 : Int32) (x3 : Int32) (x4 : Int32) (z0 : Int32) (M : mS) : Option (Int32 × mS) := if x2 = (-1) then (Gm_hoursFrom_s2_84 N k20 x3 x4 M) else (if z0 = 0 then (Gm_hoursFrom_s2_96 N k20 x2 x3 M) else (Gm_hoursFrom_s2_84 N k20 x3 x4 M))
def Gm_hoursFrom_s2_20 (N : Nat)  : Nat → Int32 → Int32 → mS → Option (Int32 × mS)
  | 0, _, _, _ => none
  | n + 1, x2, x3, M => if 2 < x3 then (some (x2, M)) else (bW (Gm_tryMove_s2 N x3 M) fun r3 M2 => bW (Gm_hoursFrom_s3 N M2) fun r6 M5 => nxt (r3 + r6) fun v7 => if v7 ≤ x2 then (Gm_hoursFrom_s2_72 N (Gm_hoursFrom_s2_20 N n) x2 x3 v7 0 M5) else (Gm_hoursFrom_s2_72 N (Gm_hoursFrom_s2_20 N n) x2 x3 v7 1 M5))
/-- MoonDials$Game.hoursFrom(LMoonDials$Game;I)I of .ref 50, .int 2 -/
def Gm_hoursFrom_s2 (N : Nat)  (M : mS) : Option (Int32 × mS) := if (M.1 50 5) ≤ 2 then (some (0, M)) else (Gm_hoursFrom_s2_20 N N (-1) 0 M)
def Gm_hoursFrom_s1_96 (N : Nat) (k20 : Int32 → Int32 → mS → Option (Int32 × mS)) (x2 : Int32) (x3 : Int32) (M : mS) : Option (Int32 × mS) := k20 x2 (x3 + 1) M
def Gm_hoursFrom_s1_84 (N : Nat) (k20 : Int32 → Int32 → mS → Option (Int32 × mS)) (x3 : Int32) (x4 : Int32) (M : mS) : Option (Int32 × mS) := Gm_hoursFrom_s1_96 N k20 x4 x3 M
def Gm_hoursFrom_s1_72 (N : Nat) (k20 : Int32 → Int32 → mS → Option (Int32 × mS)) (x2 : Int32) (x3 : Int32) (x4 : Int32) (z0 : Int32) (M : mS) : Option (Int32 × mS) := if x2 = (-1) then (Gm_hoursFrom_s1_84 N k20 x3 x4 M) else (if z0 = 0 then (Gm_hoursFrom_s1_96 N k20 x2 x3 M) else (Gm_hoursFrom_s1_84 N k20 x3 x4 M))
def Gm_hoursFrom_s1_20 (N : Nat)  : Nat → Int32 → Int32 → mS → Option (Int32 × mS)
  | 0, _, _, _ => none
  | n + 1, x2, x3, M => if 2 < x3 then (some (x2, M)) else (bW (Gm_tryMove_s1 N x3 M) fun r3 M2 => bW (Gm_hoursFrom_s2 N M2) fun r6 M5 => nxt (r3 + r6) fun v7 => if x2 ≤ v7 then (Gm_hoursFrom_s1_72 N (Gm_hoursFrom_s1_20 N n) x2 x3 v7 0 M5) else (Gm_hoursFrom_s1_72 N (Gm_hoursFrom_s1_20 N n) x2 x3 v7 1 M5))
/-- MoonDials$Game.hoursFrom(LMoonDials$Game;I)I of .ref 50, .int 1 -/
def Gm_hoursFrom_s1 (N : Nat)  (M : mS) : Option (Int32 × mS) := if (M.1 50 5) ≤ 1 then (some (0, M)) else (Gm_hoursFrom_s1_20 N N (-1) 0 M)
def Gm_hoursFrom_96 (N : Nat) (k20 : Int32 → Int32 → mS → Option (Int32 × mS)) (x2 : Int32) (x3 : Int32) (M : mS) : Option (Int32 × mS) := k20 x2 (x3 + 1) M
def Gm_hoursFrom_84 (N : Nat) (k20 : Int32 → Int32 → mS → Option (Int32 × mS)) (x3 : Int32) (x4 : Int32) (M : mS) : Option (Int32 × mS) := nxt (mWI M 50 0 x3) fun M1 => Gm_hoursFrom_96 N k20 x4 x3 M1
def Gm_hoursFrom_72 (N : Nat) (k20 : Int32 → Int32 → mS → Option (Int32 × mS)) (x2 : Int32) (x3 : Int32) (x4 : Int32) (z0 : Int32) (M : mS) : Option (Int32 × mS) := if x2 = (-1) then (Gm_hoursFrom_84 N k20 x3 x4 M) else (if z0 = 0 then (Gm_hoursFrom_96 N k20 x2 x3 M) else (Gm_hoursFrom_84 N k20 x3 x4 M))
def Gm_hoursFrom_20 (N : Nat)  : Nat → Int32 → Int32 → mS → Option (Int32 × mS)
  | 0, _, _, _ => none
  | n + 1, x2, x3, M => if 2 < x3 then (some (x2, M)) else (bW (Gm_tryMove N x3 M) fun r4 M3 => bW (Gm_hoursFrom_s1 N M3) fun r7 M6 => nxt (r4 + r7) fun v8 => if v8 ≤ x2 then (Gm_hoursFrom_72 N (Gm_hoursFrom_20 N n) x2 x3 v8 0 M6) else (Gm_hoursFrom_72 N (Gm_hoursFrom_20 N n) x2 x3 v8 1 M6))
/-- MoonDials$Game.hoursFrom(LMoonDials$Game;I)I of .ref 50, .int 0 -/
def Gm_hoursFrom (N : Nat)  (M : mS) : Option (Int32 × mS) := if (M.1 50 5) ≤ 0 then (some (0, M)) else (Gm_hoursFrom_20 N N (-1) 0 M)
/-- MoonDials$Game.outcome([III)I of .ref 50, .ref 34, .int a0, .int a1 -/
def Gm_outcome (N : Nat) (a0 : Int32) (a1 : Int32) (M : mS) : Option (Int32 × mS) := nxt (mWI M 50 4 a0) fun M1 => nxt (mWI M1 50 5 (if 6 < a1 then 6 else a1)) fun M2 => nxt (mWW M2 52 (va_cpy (M2.1 34) (M2.1 52) (0 : Int32).toNatClampNeg (0 : Int32).toNatClampNeg (44 : Int32).toNatClampNeg)) fun M3 => bW (Gm_hoursFrom N M3) fun r6 M5 => some (r6, M5)
def Md_game_41 (N : Nat) (x1 : Int32) (x2 : Int32) (x3 : Int32) (M : mS) : Option (Int32 × mS) := bW (Gm_outcome N x1 x2 M) fun r3 M2 => if x3 = 0 then (some (r3, M2)) else (some (M2.1 50 0, M2))
/-- MoonDials.game(III)I of .ref 0, .int a0, .int a1, .int a2 -/
def Md_game (N : Nat) (a0 : Int32) (a1 : Int32) (a2 : Int32) (M : mS) : Option (Int32 × mS) := if (M.1 3 8) < 2 then (some ((-1), M)) else (if (Md_isDial a0 M) = 0 then (some ((-1), M)) else (if a1 < 1 then (some ((-1), M)) else (if 6 < a1 then (some ((-1), M)) else (if a2 = 0 then (Md_game_41 N a0 a1 a2 M) else (if a2 = 1 then (Md_game_41 N a0 a1 a2 M) else (some ((-1), M)))))))
def Wk_passDark_2 (N : Nat)  : Nat → Int32 → Int32 → Int32 → mS → Option mS
  | 0, _, _, _, _ => none
  | n + 1, x1, x2, x3, M => if x2 ≤ x3 then (some M) else (bV (Wk_see N x1 M) fun M2 => bV (Wk_pass N M2) fun M4 => Wk_passDark_2 N n x1 x2 (x3 + 1) M4)
/-- MoonDials$Walk.passDark(II)V of .ref 39, .int a0, .int a1 -/
def Wk_passDark (N : Nat) (a0 : Int32) (a1 : Int32) (M : mS) : Option mS := Wk_passDark_2 N N a0 a1 0 M
/-- MoonDials.metIn(II)I of .ref 0, .int a0, .int a1 -/
def Md_metIn (N : Nat) (a0 : Int32) (a1 : Int32) (M : mS) : Option (Int32 × mS) := if (Md_isGoer a0 M) = 0 then (some ((-1), M)) else (if (Md_isWithin a1 200 M) = 0 then (some ((-1), M)) else (bV (Wk_begin N M) fun M4 => bV (Wk_passDark N (M4.1 3 9) a1 M4) fun M6 => grd (mIn (14 + a0) 44) (some (M6.1 40 (14 + a0).toNatClampNeg, M6))))
/-- MoonDials.outIn(II)I of .ref 0, .int a0, .int a1 -/
def Md_outIn (N : Nat) (a0 : Int32) (a1 : Int32) (M : mS) : Option Int32 := if (Md_isDial a0 M) = 0 then (some (-1)) else (if (Md_isWithin a1 200 M) = 0 then (some (-1)) else (bR (Md_outBehind N a0 a1 M) fun r4 => some r4))
def Md_year_108 (N : Nat) (k40 : Int32 → Int32 → Int32 → Int32 → Int32 → Int32 → mS → Option (Int32 × mS)) (x1 : Int32) (x2 : Int32) (x3 : Int32) (x4 : Int32) (x5 : Int32) (x6 : Int32) (M : mS) : Option (Int32 × mS) := k40 x1 x2 x3 x4 x5 (x6 + 1) M
def Md_year_40 (N : Nat)  : Nat → Int32 → Int32 → Int32 → Int32 → Int32 → Int32 → mS → Option (Int32 × mS)
  | 0, _, _, _, _, _, _, _ => none
  | n + 1, x1, x2, x3, x4, x5, x6, M => if x4 ≤ x6 then (some (x5, M)) else (bV (Wk_begin N M) fun M2 => bV (Wk_passDark N ((M2.1 3 9) + x6) x3 M2) fun M4 => bV (Wk_see N ((M4.1 3 9) + x6) M4) fun M6 => bR (Wk_shared N x1 x2 M6) fun r8 => if r8 = 0 then (Md_year_108 N (Md_year_40 N n) x1 x2 x3 x4 x5 x6 M6) else (Md_year_108 N (Md_year_40 N n) x1 x2 x3 x4 (x5 + 1) x6 M6))
/-- MoonDials.year(IIII)I of .ref 0, .int a0, .int a1, .int a2, .int a3 -/
def Md_year (N : Nat) (a0 : Int32) (a1 : Int32) (a2 : Int32) (a3 : Int32) (M : mS) : Option (Int32 × mS) := if (Md_areTwo a0 a1 M) = 0 then (some ((-1), M)) else (if (Md_isWithin a2 200 M) = 0 then (some ((-1), M)) else (if a3 < 1 then (some ((-1), M)) else (if a3 ≤ 20 then (Md_year_40 N N a0 a1 a2 a3 0 0 M) else (some ((-1), M)))))
/-- MoonDials$Riddle.add(IIZ)V of .ref 59, .int a0, .int a1, .int a2 -/
def Rd_add (N : Nat) (a0 : Int32) (a1 : Int32) (a2 : Int32) (M : mS) : Option mS := if 20 ≤ (M.1 59 0) then (some M) else (grd (mIn (M.1 59 0) 20) (nxt (mWI M 60 (M.1 59 0).toNatClampNeg a0) fun M2 => grd (mIn (M2.1 59 0) 20) (nxt (mWI M2 61 (M2.1 59 0).toNatClampNeg a1) fun M4 => grd (mIn (M4.1 59 0) 20) (nxt (mWI M4 62 (M4.1 59 0).toNatClampNeg (vp_nar .boolean a2)) fun M6 => nxt (mWI M6 59 0 ((M6.1 59 0) + 1)) fun M7 => some M7))))
/-- MoonDials.tell(IIZ)I of .ref 0, .int a0, .int a1, .int a2 -/
def Md_tell (N : Nat) (a0 : Int32) (a1 : Int32) (a2 : Int32) (M : mS) : Option (Int32 × mS) := if (Md_isWithin a0 30 M) = 0 then (some ((-1), M)) else (if (Md_isHour a1 M) = 0 then (some ((-1), M)) else (if (M.1 59 0) < 20 then (bV (Rd_add N a0 a1 a2 M) fun M4 => some ((M4.1 59 0) - 1, M4)) else (some ((-1), M))))
/-- MoonDials.forget()I of .ref 0 -/
def Md_forget (N : Nat)  (M : mS) : Option (Int32 × mS) := nxt (M.1 59 0) fun v1 => nxt (mWI M 59 0 0) fun M2 => some (v1, M2)
def Rd_isSo_58 (N : Nat) (k3 : Int32 → Int32 → Int32 → Int32 → Option Int32) (M : mS) (x1 : Int32) (x2 : Int32) (x3 : Int32) (x4 : Int32) : Option Int32 := k3 x1 x2 x3 (x4 + 1)
def Rd_isSo_53 (N : Nat) (k3 : Int32 → Int32 → Int32 → Int32 → Option Int32) (M : mS) (x1 : Int32) (x2 : Int32) (x3 : Int32) (x4 : Int32) (z0 : Int32) (z1 : Int32) : Option Int32 := if z0 = z1 then (Rd_isSo_58 N k3 M x1 x2 x3 x4) else (some 0)
def Rd_isSo_3 (N : Nat)  (M : mS) : Nat → Int32 → Int32 → Int32 → Int32 → Option Int32
  | 0, _, _, _, _ => none
  | n + 1, x1, x2, x3, x4 => if x3 ≤ x4 then (some 1) else (if 20 ≤ x4 then (some 1) else (grd (mIn x4 20) (if (M.1 60 x4.toNatClampNeg) = x1 then (grd (mIn x4 20) (grd (mIn x4 20) (if ((x2 >>> ((M.1 61 x4.toNatClampNeg) &&& 31)) &&& 1) = 0 then (Rd_isSo_53 N (Rd_isSo_3 N M n) M x1 x2 x3 x4 (M.1 62 x4.toNatClampNeg) 0) else (Rd_isSo_53 N (Rd_isSo_3 N M n) M x1 x2 x3 x4 (M.1 62 x4.toNatClampNeg) 1)))) else (Rd_isSo_58 N (Rd_isSo_3 N M n) M x1 x2 x3 x4))))
/-- MoonDials$Riddle.isSo(III)Z of .ref 59, .int a0, .int a1, .int a2 -/
def Rd_isSo (N : Nat) (a0 : Int32) (a1 : Int32) (a2 : Int32) (M : mS) : Option Int32 := Rd_isSo_3 N M N a0 a1 a2 0
def Rd_fitting_98 (N : Nat) (k6 : Int32 → Int32 → Int32 → Int32 → Int32 → mS → Option (Int32 × mS)) (k54 : Int32 → Int32 → Int32 → Int32 → Int32 → Int32 → Int32 → mS → Option (Int32 × mS)) (x2 : Int32) (x3 : Int32) (x4 : Int32) (x5 : Int32) (x6 : Int32) (x8 : Int32) (z0 : Int32) (M : mS) : Option (Int32 × mS) := grd (mIn x6 4) (grd (mIn x3 5) (grd (mIn x6 4) (nxt (mWI M 63 x6.toNatClampNeg ((M.1 63 x6.toNatClampNeg) ||| ((((M.1 41 x3.toNatClampNeg) >>> (x4 &&& 31)) &&& 1) <<< (x8 &&& 31)))) fun M4 => bV (Wk_pass N M4) fun M6 => k54 x2 x3 x4 x5 x6 z0 (x8 + 1) M6)))
def Rd_fitting_97 (N : Nat) (k6 : Int32 → Int32 → Int32 → Int32 → Int32 → mS → Option (Int32 × mS)) (k54 : Int32 → Int32 → Int32 → Int32 → Int32 → Int32 → Int32 → mS → Option (Int32 × mS)) (x2 : Int32) (x3 : Int32) (x4 : Int32) (x5 : Int32) (x6 : Int32) (x8 : Int32) (M : mS) : Option (Int32 × mS) := Rd_fitting_98 N k6 k54 x2 x3 x4 x5 x6 x8 0 M
def Rd_fitting_154 (N : Nat) (k6 : Int32 → Int32 → Int32 → Int32 → Int32 → mS → Option (Int32 × mS)) (x2 : Int32) (x3 : Int32) (x4 : Int32) (x5 : Int32) (x6 : Int32) (M : mS) : Option (Int32 × mS) := k6 x2 x3 x4 x5 (x6 + 1) M
def Rd_fitting_54 (N : Nat) (k6 : Int32 → Int32 → Int32 → Int32 → Int32 → mS → Option (Int32 × mS)) : Nat → Int32 → Int32 → Int32 → Int32 → Int32 → Int32 → Int32 → mS → Option (Int32 × mS)
  | 0, _, _, _, _, _, _, _, _ => none
  | n + 1, x2, x3, x4, x5, x6, x7, x8, M => if 30 < x8 then (if x7 = 0 then (Rd_fitting_154 N k6 x2 x3 x4 x5 x6 M) else (nxt (x5 ||| ((1 : Int32) <<< (x6 &&& 31))) fun v7 => Rd_fitting_154 N k6 x2 x3 x4 v7 x6 M)) else (bV (Wk_see N (-1) M) fun M9 => if x7 = 0 then (Rd_fitting_97 N k6 (Rd_fitting_54 N k6 n) x2 x3 x4 x5 x6 x8 M9) else (grd (mIn x3 5) (bR (Rd_isSo N x8 (M9.1 41 x3.toNatClampNeg) x2 M9) fun r12 => if r12 = 0 then (Rd_fitting_97 N k6 (Rd_fitting_54 N k6 n) x2 x3 x4 x5 x6 x8 M9) else (Rd_fitting_98 N k6 (Rd_fitting_54 N k6 n) x2 x3 x4 x5 x6 x8 1 M9))))
def Rd_fitting_6 (N : Nat)  : Nat → Int32 → Int32 → Int32 → Int32 → Int32 → mS → Option (Int32 × mS)
  | 0, _, _, _, _, _, _ => none
  | n + 1, x2, x3, x4, x5, x6, M => if (M.1 3 7) ≤ x6 then (some (x5, M)) else (bV (Wk_begin N M) fun M15 => grd (mIn (9 + x3) 44) (nxt (mWI M15 40 (9 + x3).toNatClampNeg x6) fun M17 => grd (mIn x6 4) (nxt (mWI M17 63 x6.toNatClampNeg 0) fun M19 => Rd_fitting_54 N (Rd_fitting_6 N n) N x2 x3 x4 x5 x6 1 0 M19)))
/-- MoonDials$Riddle.fitting([IIII)I of .ref 59, .ref 34, .int a0, .int a1, .int a2 -/
def Rd_fitting (N : Nat) (a0 : Int32) (a1 : Int32) (a2 : Int32) (M : mS) : Option (Int32 × mS) := Rd_fitting_6 N N a0 a1 a2 0 0 M
def Md_fits_33 (N : Nat) (x1 : Int32) (x2 : Int32) (x3 : Int32) (M : mS) : Option (Int32 × mS) := bW (Rd_fitting N x1 x2 0 M) fun r3 M2 => if x3 = 0 then (some (Jl_bitCount r3 M2, M2)) else (some (r3, M2))
/-- MoonDials.fits(III)I of .ref 0, .int a0, .int a1, .int a2 -/
def Md_fits (N : Nat) (a0 : Int32) (a1 : Int32) (a2 : Int32) (M : mS) : Option (Int32 × mS) := if (Md_isWithin a0 (M.1 59 0) M) = 0 then (some ((-1), M)) else (if (Md_isGoer a1 M) = 0 then (some ((-1), M)) else (if a2 = 0 then (Md_fits_33 N a0 a1 a2 M) else (if a2 = 1 then (Md_fits_33 N a0 a1 a2 M) else (some ((-1), M)))))
def Rd_leftAtWorst_40 (N : Nat) (k5 : Int32 → Int32 → Int32 → Int32 → Option Int32) (M : mS) (x1 : Int32) (x2 : Int32) (x3 : Int32) (x4 : Int32) : Option Int32 := k5 x1 x2 x3 (x4 + 1)
def Rd_leftAtWorst_5 (N : Nat)  (M : mS) : Nat → Int32 → Int32 → Int32 → Int32 → Option Int32
  | 0, _, _, _, _ => none
  | n + 1, x1, x2, x3, x4 => if (M.1 3 7) ≤ x4 then (some (if x3 < ((Jl_bitCount x1 M) - x3) then ((Jl_bitCount x1 M) - x3) else x3)) else (if ((x1 >>> (x4 &&& 31)) &&& 1) = 0 then (Rd_leftAtWorst_40 N (Rd_leftAtWorst_5 N M n) M x1 x2 x3 x4) else (grd (mIn x4 4) (nxt (x3 + (((M.1 63 x4.toNatClampNeg) >>> (x2 &&& 31)) &&& 1)) fun v2 => Rd_leftAtWorst_40 N (Rd_leftAtWorst_5 N M n) M x1 x2 v2 x4)))
/-- MoonDials$Riddle.leftAtWorst(II)I of .ref 59, .int a0, .int a1 -/
def Rd_leftAtWorst (N : Nat) (a0 : Int32) (a1 : Int32) (M : mS) : Option Int32 := Rd_leftAtWorst_5 N M N a0 a1 0 0
def Rd_bestNight_27 (N : Nat) (k4 : Int32 → Int32 → Int32 → Option Int32) (M : mS) (x1 : Int32) (x2 : Int32) (x3 : Int32) : Option Int32 := k4 x1 x2 (x3 + 1)
def Rd_bestNight_4 (N : Nat)  (M : mS) : Nat → Int32 → Int32 → Int32 → Option Int32
  | 0, _, _, _ => none
  | n + 1, x1, x2, x3 => if 30 < x3 then (some x2) else (bR (Rd_leftAtWorst N x1 x3 M) fun r2 => bR (Rd_leftAtWorst N x1 x2 M) fun r4 => if r4 ≤ r2 then (Rd_bestNight_27 N (Rd_bestNight_4 N M n) M x1 x2 x3) else (Rd_bestNight_27 N (Rd_bestNight_4 N M n) M x1 x3 x3))
/-- MoonDials$Riddle.bestNight(I)I of .ref 59, .int a0 -/
def Rd_bestNight (N : Nat) (a0 : Int32) (M : mS) : Option Int32 := Rd_bestNight_4 N M N a0 0 1
