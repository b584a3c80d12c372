/-! METHODS as functions: printed by program -/
def Mt_firstTwoSeen_17 (N : Nat) (k2 : Int32 → Option Int32) (M : mS) : Nat → Int32 → Int32 → Option Int32
  | 0, _, _ => none
  | n + 1, x1, x2 => if (M.1 3 8) ≤ x2 then (k2 (x1 + 1)) else (bR (Wk_shared N x1 x2 M) fun r2 => if r2 = 0 then (Mt_firstTwoSeen_17 N k2 M n x1 (x2 + 1)) else (some ((10 * x1) + x2)))
def Mt_firstTwoSeen_2 (N : Nat)  (M : mS) : Nat → Int32 → Option Int32
  | 0, _ => none
  | n + 1, x1 => if (M.1 3 8) ≤ x1 then (some (-2)) else (nxt (x1 + 1) fun v3 => Mt_firstTwoSeen_17 N (Mt_firstTwoSeen_2 N M n) M N x1 v3)
/-- MoonDials$Meetings.firstTwoSeen()I of .ref 44 -/
def Mt_firstTwoSeen (N : Nat)  (M : mS) : Option Int32 := Mt_firstTwoSeen_2 N M N 0
def Mt_firstNightOfTwo_2 (N : Nat)  : Nat → Int32 → mS → Option (Int32 × mS)
  | 0, _, _ => none
  | n + 1, x1, M => if 400 < x1 then (some ((-2), M)) else (bV (Wk_see N (-1) M) fun M2 => if (M2.1 39 3) = 0 then (bV (Wk_pass N M2) fun M4 => Mt_firstNightOfTwo_2 N n (x1 + 1) M4) else (bR (Mt_firstTwoSeen N M2) fun r6 => nxt (mWI M2 44 1 r6) fun M7 => some (x1, M7)))
/-- MoonDials$Meetings.firstNightOfTwo()I of .ref 44 -/
def Mt_firstNightOfTwo (N : Nat)  (M : mS) : Option (Int32 × mS) := Mt_firstNightOfTwo_2 N N 0 M
def Md_sooner_11 (N : Nat) (x1 : Int32) (M : mS) : Option (Int32 × mS) := bV (Wk_begin N M) fun M2 => bW (Mt_firstNightOfTwo N M2) fun r5 M4 => if r5 = (-2) then (some (r5, M4)) else (if x1 = 1 then (some (r5, M4)) else (some (M4.1 44 1, M4)))
/-- MoonDials.sooner(I)I of .ref 0, .int a0 -/
def Md_sooner (N : Nat) (a0 : Int32) (M : mS) : Option (Int32 × mS) := if a0 = 0 then (Md_sooner_11 N a0 M) else (if a0 = 1 then (Md_sooner_11 N a0 M) else (some ((-1), M)))
def Mt_neverMet_76 (N : Nat) (k20 : Int32 → Int32 → Int32 → mS → Option (Int32 × mS)) (k42 : Int32 → Int32 → Int32 → Int32 → mS → Option (Int32 × mS)) (x1 : Int32) (x2 : Int32) (x3 : Int32) (x4 : Int32) (M : mS) : Option (Int32 × mS) := k42 x1 x2 x3 (x4 + 1) M
def Mt_neverMet_42 (N : Nat) (k20 : Int32 → Int32 → Int32 → mS → Option (Int32 × mS)) : Nat → Int32 → Int32 → Int32 → Int32 → mS → Option (Int32 × mS)
  | 0, _, _, _, _, _ => none
  | n + 1, x1, x2, x3, x4, M => if (M.1 3 8) ≤ x4 then (bV (Wk_pass N M) fun M2 => k20 x1 x2 (x3 + 1) M2) else (bR (Wk_shared N x1 x4 M) fun r4 => if r4 = 0 then (Mt_neverMet_76 N k20 (Mt_neverMet_42 N k20 n) x1 x2 x3 x4 M) else (nxt (x2 &&& (((1 : Int32) <<< (x4 &&& 31)) ^^^ (-1))) fun v5 => Mt_neverMet_76 N k20 (Mt_neverMet_42 N k20 n) x1 v5 x3 x4 M))
def Mt_neverMet_20 (N : Nat)  : Nat → Int32 → Int32 → Int32 → mS → Option (Int32 × mS)
  | 0, _, _, _, _ => none
  | n + 1, x1, x2, x3, M => if 400 < x3 then (some (x2, M)) else (if x2 = 0 then (some (x2, M)) else (bV (Wk_see N (-1) M) fun M7 => Mt_neverMet_42 N (Mt_neverMet_20 N n) N x1 x2 x3 0 M7))
/-- MoonDials$Meetings.neverMet(I)I of .ref 44, .int a0 -/
def Mt_neverMet (N : Nat) (a0 : Int32) (M : mS) : Option (Int32 × mS) := nxt ((((1 : Int32) <<< ((M.1 3 8) &&& 31)) - 1) &&& (((1 : Int32) <<< (a0 &&& 31)) ^^^ (-1))) fun v8 => Mt_neverMet_20 N N a0 v8 0 M
/-- MoonDials.strangers(I)I of .ref 0, .int a0 -/
def Md_strangers (N : Nat) (a0 : Int32) (M : mS) : Option (Int32 × mS) := if (Md_isGoer a0 M) = 0 then (some ((-1), M)) else (bV (Wk_begin N M) fun M3 => bW (Mt_neverMet N a0 M3) fun r6 M5 => some (r6, M5))
def Tl_bestDial_74 (N : Nat) (k11 : Int32 → Int32 → Int32 → Int32 → Int32 → mS → Option (Int32 × mS)) (x2 : Int32) (x3 : Int32) (x4 : Int32) (x5 : Int32) (x6 : Int32) (M : mS) : Option (Int32 × mS) := k11 x2 x3 x4 x5 (x6 + 1) M
def Tl_bestDial_11 (N : Nat)  : Nat → Int32 → Int32 → Int32 → Int32 → Int32 → mS → Option (Int32 × mS)
  | 0, _, _, _, _, _, _ => none
  | n + 1, x2, x3, x4, x5, x6, M => if (M.1 3 7) ≤ x6 then (some (x5, M)) else (bV (Wk_begin N M) fun M2 => grd (mIn (9 + x2) 44) (nxt (mWI M2 40 (9 + x2).toNatClampNeg x6) fun M4 => bW (Tl_sharedHours N x2 x3 x4 M4) fun r7 M6 => if r7 ≤ (M6.1 45 0) then (Tl_bestDial_74 N (Tl_bestDial_11 N n) x2 x3 x4 x5 x6 M6) else (nxt (mWI M6 45 0 r7) fun M8 => Tl_bestDial_74 N (Tl_bestDial_11 N n) x2 x3 x4 x6 x6 M8)))
/-- MoonDials$Tallies.bestDial([IIII)I of .ref 45, .ref 34, .int a0, .int a1, .int a2 -/
def Tl_bestDial (N : Nat) (a0 : Int32) (a1 : Int32) (a2 : Int32) (M : mS) : Option (Int32 × mS) := nxt (mWI M 45 0 (-1)) fun M9 => Tl_bestDial_11 N N a0 a1 a2 0 0 M9
def Md_by_32 (N : Nat) (x1 : Int32) (x2 : Int32) (x3 : Int32) (x4 : Int32) (M : mS) : Option (Int32 × mS) := bW (Tl_bestDial N x1 x2 x3 M) fun r3 M2 => if x4 = 0 then (some (r3, M2)) else (some (M2.1 45 0, M2))
/-- MoonDials.by(IIII)I of .ref 0, .int a0, .int a1, .int a2, .int a3 -/
def Md_by (N : Nat) (a0 : Int32) (a1 : Int32) (a2 : Int32) (a3 : Int32) (M : mS) : Option (Int32 × mS) := if (Md_areTwo a0 a1 M) = 0 then (some ((-1), M)) else (if (Md_isWithin a2 200 M) = 0 then (some ((-1), M)) else (if a3 = 0 then (Md_by_32 N a0 a1 a2 a3 M) else (if a3 = 1 then (Md_by_32 N a0 a1 a2 a3 M) else (some ((-1), M)))))
def Tl_clear_2 (N : Nat)  : Nat → Int32 → mS → Option mS
  | 0, _, _ => none
  | n + 1, x1, M => if (Int32.ofNat 25) ≤ x1 then (some M) else (grd (mIn x1 25) (nxt (mWI M 47 x1.toNatClampNeg 0) fun M2 => Tl_clear_2 N n (x1 + 1) M2))
/-- MoonDials$Tallies.clear([I)V of .ref 47 -/
def Tl_clear (N : Nat)  (M : mS) : Option mS := Tl_clear_2 N N 0 M
def Tl_addShared_40 (N : Nat) (k9 : Int32 → Int32 → mS → Option mS) (k24 : Int32 → Int32 → Int32 → mS → Option mS) : Nat → Int32 → Int32 → Int32 → Int32 → mS → Option mS
  | 0, _, _, _, _, _ => none
  | n + 1, x1, x2, x3, x4, M => if (M.1 3 8) ≤ x4 then (k24 x1 x2 (x3 + 1) M) else (grd (mIn ((x3 * 5) + x4) 25) (bR (Wk_shared N x3 x4 M) fun r3 => grd (mIn ((x3 * 5) + x4) 25) (nxt (mWI M 47 ((x3 * 5) + x4).toNatClampNeg ((M.1 47 ((x3 * 5) + x4).toNatClampNeg) + r3)) fun M5 => Tl_addShared_40 N k9 k24 n x1 x2 x3 (x4 + 1) M5)))
def Tl_addShared_24 (N : Nat) (k9 : Int32 → Int32 → mS → Option mS) : Nat → Int32 → Int32 → Int32 → mS → Option mS
  | 0, _, _, _, _ => none
  | n + 1, x1, x2, x3, M => if (M.1 3 8) ≤ x3 then (bV (Wk_pass N M) fun M7 => k9 x1 (x2 + 1) M7) else (nxt (x3 + 1) fun v8 => Tl_addShared_40 N k9 (Tl_addShared_24 N k9 n) N x1 x2 x3 v8 M)
def Tl_addShared_9 (N : Nat)  : Nat → Int32 → Int32 → mS → Option mS
  | 0, _, _, _ => none
  | n + 1, x1, x2, M => if x1 ≤ x2 then (some M) else (bV (Wk_see N (-1) M) fun M10 => Tl_addShared_24 N (Tl_addShared_9 N n) N x1 x2 0 M10)
/-- MoonDials$Tallies.addShared(I)V of .ref 45, .int a0 -/
def Tl_addShared (N : Nat) (a0 : Int32) (M : mS) : Option mS := bV (Tl_clear N M) fun M12 => Tl_addShared_9 N N a0 0 M12
def Tl_isPeaceWithout_59 (N : Nat) (k2 : Int32 → Int32 → Option Int32) (k17 : Int32 → Int32 → Int32 → Option Int32) (M : mS) (x1 : Int32) (x2 : Int32) (x3 : Int32) : Option Int32 := k17 x1 x2 (x3 + 1)
def Tl_isPeaceWithout_17 (N : Nat) (k2 : Int32 → Int32 → Option Int32) (M : mS) : Nat → Int32 → Int32 → Int32 → Option Int32
  | 0, _, _, _ => none
  | n + 1, x1, x2, x3 => if (M.1 3 8) ≤ x3 then (k2 x1 (x2 + 1)) else (if ((x1 >>> (x2 &&& 31)) &&& 1) = 0 then (if ((x1 >>> (x3 &&& 31)) &&& 1) = 0 then (grd (mIn ((x2 * 5) + x3) 25) (if (M.1 47 ((x2 * 5) + x3).toNatClampNeg) ≤ 0 then (Tl_isPeaceWithout_59 N k2 (Tl_isPeaceWithout_17 N k2 M n) M x1 x2 x3) else (some 0))) else (Tl_isPeaceWithout_59 N k2 (Tl_isPeaceWithout_17 N k2 M n) M x1 x2 x3)) else (Tl_isPeaceWithout_59 N k2 (Tl_isPeaceWithout_17 N k2 M n) M x1 x2 x3))
def Tl_isPeaceWithout_2 (N : Nat)  (M : mS) : Nat → Int32 → Int32 → Option Int32
  | 0, _, _ => none
  | n + 1, x1, x2 => if (M.1 3 8) ≤ x2 then (some 1) else (nxt (x2 + 1) fun v2 => Tl_isPeaceWithout_17 N (Tl_isPeaceWithout_2 N M n) M N x1 x2 v2)
/-- MoonDials$Tallies.isPeaceWithout(I)Z of .ref 45, .int a0 -/
def Tl_isPeaceWithout (N : Nat) (a0 : Int32) (M : mS) : Option Int32 := Tl_isPeaceWithout_2 N M N a0 0
def Tl_fewestAway_53 (N : Nat) (k19 : Int32 → Int32 → mS → Option (Int32 × mS)) (x2 : Int32) (x3 : Int32) (M : mS) : Option (Int32 × mS) := k19 x2 (x3 + 1) M
def Tl_fewestAway_19 (N : Nat)  : Nat → Int32 → Int32 → mS → Option (Int32 × mS)
  | 0, _, _, _ => none
  | n + 1, x2, x3, M => if ((1 : Int32) <<< ((M.1 3 8) &&& 31)) ≤ x3 then (some (x2, M)) else (if (Jl_bitCount x2 M) ≤ (Jl_bitCount x3 M) then (Tl_fewestAway_53 N (Tl_fewestAway_19 N n) x2 x3 M) else (bR (Tl_isPeaceWithout N x3 M) fun r2 => if r2 = 0 then (Tl_fewestAway_53 N (Tl_fewestAway_19 N n) x2 x3 M) else (Tl_fewestAway_53 N (Tl_fewestAway_19 N n) x3 x3 M)))
/-- MoonDials$Tallies.fewestAway(I)I of .ref 45, .int a0 -/
def Tl_fewestAway (N : Nat) (a0 : Int32) (M : mS) : Option (Int32 × mS) := bV (Tl_addShared N a0 M) fun M5 => nxt (((1 : Int32) <<< ((M5.1 3 8) &&& 31)) - 1) fun v6 => Tl_fewestAway_19 N N v6 0 M5
def Md_peace_20 (N : Nat) (x1 : Int32) (x2 : Int32) (M : mS) : Option (Int32 × mS) := bV (Wk_begin N M) fun M2 => bW (Tl_fewestAway N x1 M2) fun r5 M4 => if x2 = 0 then (some (Jl_bitCount r5 M4, M4)) else (some (r5, M4))
/-- MoonDials.peace(II)I of .ref 0, .int a0, .int a1 -/
def Md_peace (N : Nat) (a0 : Int32) (a1 : Int32) (M : mS) : Option (Int32 × mS) := if (Md_isWithin a0 60 M) = 0 then (some ((-1), M)) else (if a1 = 0 then (Md_peace_20 N a0 a1 M) else (if a1 = 1 then (Md_peace_20 N a0 a1 M) else (some ((-1), M))))
def Tl_clear_s1_2 (N : Nat)  : Nat → Int32 → mS → Option mS
  | 0, _, _ => none
  | n + 1, x1, M => if (Int32.ofNat 24) ≤ x1 then (some M) else (grd (mIn x1 24) (nxt (mWI M 48 x1.toNatClampNeg 0) fun M2 => Tl_clear_s1_2 N n (x1 + 1) M2))
/-- MoonDials$Tallies.clear([I)V of .ref 48 -/
def Tl_clear_s1 (N : Nat)  (M : mS) : Option mS := Tl_clear_s1_2 N N 0 M
def Tl_busiestHour_24 (N : Nat) (k9 : Int32 → Int32 → mS → Option (Int32 × mS)) : Nat → Int32 → Int32 → Int32 → mS → Option (Int32 × mS)
  | 0, _, _, _, _ => none
  | n + 1, x1, x2, x3, M => if (M.1 3 6) ≤ x3 then (bV (Wk_pass N M) fun M2 => k9 x1 (x2 + 1) M2) else (grd (mIn x3 24) (grd (mIn x3 24) (nxt (mWI M 48 x3.toNatClampNeg ((M.1 48 x3.toNatClampNeg) + (((M.1 39 3) >>> (x3 &&& 31)) &&& 1))) fun M5 => Tl_busiestHour_24 N k9 n x1 x2 (x3 + 1) M5)))
def Tl_busiestHour_106 (N : Nat) (k78 : Int32 → Int32 → mS → Option (Int32 × mS)) (x2 : Int32) (x3 : Int32) (M : mS) : Option (Int32 × mS) := k78 x2 (x3 + 1) M
def Tl_busiestHour_78 (N : Nat)  : Nat → Int32 → Int32 → mS → Option (Int32 × mS)
  | 0, _, _, _ => none
  | n + 1, x2, x3, M => if (M.1 3 6) ≤ x3 then (grd (mIn x2 24) (nxt (mWI M 45 0 (M.1 48 x2.toNatClampNeg)) fun M7 => some (x2, M7))) else (grd (mIn x3 24) (grd (mIn x2 24) (if (M.1 48 x3.toNatClampNeg) ≤ (M.1 48 x2.toNatClampNeg) then (Tl_busiestHour_106 N (Tl_busiestHour_78 N n) x2 x3 M) else (Tl_busiestHour_106 N (Tl_busiestHour_78 N n) x3 x3 M))))
def Tl_busiestHour_9 (N : Nat)  : Nat → Int32 → Int32 → mS → Option (Int32 × mS)
  | 0, _, _, _ => none
  | n + 1, x1, x2, M => if x1 ≤ x2 then (Tl_busiestHour_78 N N 0 1 M) else (bV (Wk_see N (-1) M) fun M11 => Tl_busiestHour_24 N (Tl_busiestHour_9 N n) N x1 x2 0 M11)
/-- MoonDials$Tallies.busiestHour(I)I of .ref 45, .int a0 -/
def Tl_busiestHour (N : Nat) (a0 : Int32) (M : mS) : Option (Int32 × mS) := bV (Tl_clear_s1 N M) fun M13 => Tl_busiestHour_9 N N a0 0 M13
def Md_favourite_20 (N : Nat) (x1 : Int32) (x2 : Int32) (M : mS) : Option (Int32 × mS) := bV (Wk_begin N M) fun M2 => bW (Tl_busiestHour N x1 M2) fun r5 M4 => if x2 = 0 then (some (r5, M4)) else (some (M4.1 45 0, M4))
/-- MoonDials.favourite(II)I of .ref 0, .int a0, .int a1 -/
def Md_favourite (N : Nat) (a0 : Int32) (a1 : Int32) (M : mS) : Option (Int32 × mS) := if (Md_isWithin a0 60 M) = 0 then (some ((-1), M)) else (if a1 = 0 then (Md_favourite_20 N a0 a1 M) else (if a1 = 1 then (Md_favourite_20 N a0 a1 M) else (some ((-1), M))))
def Tl_longestNight_6 (N : Nat)  : Nat → Int32 → Int32 → Int32 → Int32 → Int32 → mS → Option (Int32 × mS)
  | 0, _, _, _, _, _, _ => none
  | n + 1, x1, x2, x3, x4, x5, M => if x3 ≤ x5 then (some (x4, M)) else (bV (Wk_see N (-1) M) fun M2 => bR (Wk_shared N x1 x2 M2) fun r4 => nxt (if x4 < r4 then r4 else x4) fun v5 => bV (Wk_pass N M2) fun M7 => Tl_longestNight_6 N n x1 x2 x3 v5 (x5 + 1) M7)
/-- MoonDials$Tallies.longestNight(III)I of .ref 45, .int a0, .int a1, .int a2 -/
def Tl_longestNight (N : Nat) (a0 : Int32) (a1 : Int32) (a2 : Int32) (M : mS) : Option (Int32 × mS) := Tl_longestNight_6 N N a0 a1 a2 0 0 M
/-- MoonDials.longest(III)I of .ref 0, .int a0, .int a1, .int a2 -/
def Md_longest (N : Nat) (a0 : Int32) (a1 : Int32) (a2 : Int32) (M : mS) : Option (Int32 × mS) := if (Md_areTwo a0 a1 M) = 0 then (some ((-1), M)) else (if (Md_isWithin a2 200 M) = 0 then (some ((-1), M)) else (bV (Wk_begin N M) fun M4 => bW (Tl_longestNight N a0 a1 a2 M4) fun r7 M6 => some (r7, M6)))
def Tl_pairFrom_s5_16 (N : Nat) (x2 : Int32) (M : mS) : Option mS := if x2 ≤ (M.1 45 0) then (some M) else (nxt (mWI M 45 0 x2) fun M1 => nxt (mWW M1 46 (va_cpy (M1.1 49) (M1.1 46) (0 : Int32).toNatClampNeg (0 : Int32).toNatClampNeg (5 : Int32).toNatClampNeg)) fun M2 => some M2)
/-- MoonDials$Tallies.pairFrom(LMoonDials$Tallies;II)V of .ref 45, .int 5, .int a0 -/
def Tl_pairFrom_s5 (N : Nat) (a0 : Int32) (M : mS) : Option mS := if (M.1 3 8) ≤ 5 then (Tl_pairFrom_s5_16 N a0 M) else (Tl_pairFrom_s5_16 N a0 M)
def Tl_pairFrom_s4_139 (N : Nat) (k68 : Int32 → Int32 → mS → Option mS) (x2 : Int32) (x3 : Int32) (M : mS) : Option mS := k68 x2 (x3 + 1) M
def Tl_pairFrom_s4_68 (N : Nat)  : Nat → Int32 → Int32 → mS → Option mS
  | 0, _, _, _ => none
  | n + 1, x2, x3, M => if (M.1 3 8) ≤ x3 then (some M) else (grd (mIn x3 5) (if (M.1 49 x3.toNatClampNeg) = (-2) then (nxt (mWI M 49 4 x3) fun M2 => grd (mIn x3 5) (nxt (mWI M2 49 x3.toNatClampNeg 4) fun M4 => grd (mIn ((4 * 5) + x3) 25) (bV (Tl_pairFrom_s5 N (x2 + (M4.1 47 ((4 * 5) + x3).toNatClampNeg)) M4) fun M7 => nxt (mWI M7 49 4 (-2)) fun M8 => grd (mIn x3 5) (nxt (mWI M8 49 x3.toNatClampNeg (-2)) fun M10 => Tl_pairFrom_s4_139 N (Tl_pairFrom_s4_68 N n) x2 x3 M10)))) else (Tl_pairFrom_s4_139 N (Tl_pairFrom_s4_68 N n) x2 x3 M)))
/-- MoonDials$Tallies.pairFrom(LMoonDials$Tallies;II)V of .ref 45, .int 4, .int a0 -/
def Tl_pairFrom_s4 (N : Nat) (a0 : Int32) (M : mS) : Option mS := if (M.1 3 8) ≤ 4 then (if a0 ≤ (M.1 45 0) then (some M) else (nxt (mWI M 45 0 a0) fun M11 => nxt (mWW M11 46 (va_cpy (M11.1 49) (M11.1 46) (0 : Int32).toNatClampNeg (0 : Int32).toNatClampNeg (5 : Int32).toNatClampNeg)) fun M12 => some M12)) else (bV (Tl_pairFrom_s5 N a0 M) fun M14 => if (M14.1 49 4) = (-2) then (Tl_pairFrom_s4_68 N N a0 (4 + 1) M14) else (some M14))
def Tl_pairFrom_s3_139 (N : Nat) (k68 : Int32 → Int32 → mS → Option mS) (x2 : Int32) (x3 : Int32) (M : mS) : Option mS := k68 x2 (x3 + 1) M
def Tl_pairFrom_s3_68 (N : Nat)  : Nat → Int32 → Int32 → mS → Option mS
  | 0, _, _, _ => none
  | n + 1, x2, x3, M => if (M.1 3 8) ≤ x3 then (some M) else (grd (mIn x3 5) (if (M.1 49 x3.toNatClampNeg) = (-2) then (nxt (mWI M 49 3 x3) fun M2 => grd (mIn x3 5) (nxt (mWI M2 49 x3.toNatClampNeg 3) fun M4 => grd (mIn ((3 * 5) + x3) 25) (bV (Tl_pairFrom_s4 N (x2 + (M4.1 47 ((3 * 5) + x3).toNatClampNeg)) M4) fun M7 => nxt (mWI M7 49 3 (-2)) fun M8 => grd (mIn x3 5) (nxt (mWI M8 49 x3.toNatClampNeg (-2)) fun M10 => Tl_pairFrom_s3_139 N (Tl_pairFrom_s3_68 N n) x2 x3 M10)))) else (Tl_pairFrom_s3_139 N (Tl_pairFrom_s3_68 N n) x2 x3 M)))
/-- MoonDials$Tallies.pairFrom(LMoonDials$Tallies;II)V of .ref 45, .int 3, .int a0 -/
def Tl_pairFrom_s3 (N : Nat) (a0 : Int32) (M : mS) : Option mS := if (M.1 3 8) ≤ 3 then (if a0 ≤ (M.1 45 0) then (some M) else (nxt (mWI M 45 0 a0) fun M11 => nxt (mWW M11 46 (va_cpy (M11.1 49) (M11.1 46) (0 : Int32).toNatClampNeg (0 : Int32).toNatClampNeg (5 : Int32).toNatClampNeg)) fun M12 => some M12)) else (bV (Tl_pairFrom_s4 N a0 M) fun M14 => if (M14.1 49 3) = (-2) then (Tl_pairFrom_s3_68 N N a0 (3 + 1) M14) else (some M14))
