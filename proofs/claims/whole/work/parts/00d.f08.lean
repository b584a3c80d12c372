/-! METHODS as functions: printed by program -/
def Mo_plain_31 (N : Nat)  : Nat → Int32 → Int32 → mS → Option mS
  | 0, _, _, _ => none
  | n + 1, x1, x2, M => if 4 ≤ x2 then (some M) else (grd (mIn ((4 * x1) + x2) 8) (nxt (mWI M 83 ((4 * x1) + x2).toNatClampNeg 0) fun M2 => grd (mIn ((4 * x1) + x2) 8) (nxt (mWI M2 84 ((4 * x1) + x2).toNatClampNeg 0) fun M4 => Mo_plain_31 N n x1 (x2 + 1) M4)))
/-- MoonDialsModel.plain(I)V of .ref 64, .int a0 -/
def Mo_plain (N : Nat) (a0 : Int32) (M : mS) : Option mS := grd (mIn a0 2) (nxt (mWI M 74 a0.toNatClampNeg 12) fun M6 => grd (mIn a0 2) (nxt (mWI M6 75 a0.toNatClampNeg 0) fun M8 => grd (mIn a0 2) (nxt (mWI M8 78 a0.toNatClampNeg 0) fun M10 => grd (mIn a0 2) (nxt (mWI M10 82 a0.toNatClampNeg 0) fun M12 => Mo_plain_31 N N a0 0 M12))))
/-- MoonDialsModel.hours()I of .ref 64 -/
def Mo_hours (N : Nat)  (M : mS) : Option Int32 := grd (mIn (M.1 64 18) 2) (some (M.1 74 (M.1 64 18).toNatClampNeg))
def Mo_begins_94 (N : Nat)  : Nat → Int32 → mS → Option mS
  | 0, _, _ => none
  | n + 1, x1, M => grd (mIn (M.1 64 18) 2) (if (M.1 78 (M.1 64 18).toNatClampNeg) ≤ x1 then (grd (mIn (M.1 64 18) 2) (nxt (mWI M 64 50 (M.1 82 (M.1 64 18).toNatClampNeg)) fun M3 => nxt (mWI M3 64 51 0) fun M4 => some M4)) else (grd (mIn ((5 * (M.1 64 18)) + x1) 10) (grd (mIn (8 + x1) 29) (nxt (mWI M 96 (8 + x1).toNatClampNeg (M.1 79 ((5 * (M.1 64 18)) + x1).toNatClampNeg)) fun M7 => Mo_begins_94 N n (x1 + 1) M7))))
def Mo_begins_23 (N : Nat)  : Nat → Int32 → mS → Option mS
  | 0, _, _ => none
  | n + 1, x1, M => grd (mIn (M.1 64 18) 2) (if (M.1 75 (M.1 64 18).toNatClampNeg) ≤ x1 then (Mo_begins_94 N N 0 M) else (grd (mIn ((4 * (M.1 64 18)) + x1) 8) (bR (Mo_hours N M) fun r11 => nz r11 (grd (mIn x1 29) (nxt (mWI M 96 x1.toNatClampNeg ((M.1 76 ((4 * (M.1 64 18)) + x1).toNatClampNeg) - (M.1 76 ((4 * (M.1 64 18)) + x1).toNatClampNeg) / r11 * r11)) fun M14 => grd (mIn ((4 * (M14.1 64 18)) + x1) 8) (bR (Mo_hours N M14) fun r17 => nz r17 (grd (mIn (4 + x1) 29) (nxt (mWI M14 96 (4 + x1).toNatClampNeg ((M14.1 77 ((4 * (M14.1 64 18)) + x1).toNatClampNeg) - (M14.1 77 ((4 * (M14.1 64 18)) + x1).toNatClampNeg) / r17 * r17)) fun M20 => Mo_begins_23 N n (x1 + 1) M20))))))))
def Mo_begins_2 (N : Nat)  : Nat → Int32 → mS → Option mS
  | 0, _, _ => none
  | n + 1, x1, M => if 29 ≤ x1 then (Mo_begins_23 N N 0 M) else (grd (mIn x1 29) (nxt (mWI M 96 x1.toNatClampNeg 0) fun M22 => Mo_begins_2 N n (x1 + 1) M22))
/-- MoonDialsModel.begins()V of .ref 64 -/
def Mo_begins (N : Nat)  (M : mS) : Option mS := Mo_begins_2 N N 0 M
def Mo_keepsRow_2 (N : Nat)  : Nat → Int32 → mS → Option mS
  | 0, _, _ => none
  | n + 1, x1, M => if 29 ≤ x1 then (some M) else (grd (mIn x1 29) (grd (mIn x1 29) (nxt (mWI M 95 x1.toNatClampNeg (M.1 96 x1.toNatClampNeg)) fun M3 => Mo_keepsRow_2 N n (x1 + 1) M3)))
/-- MoonDialsModel.keepsRow()V of .ref 64 -/
def Mo_keepsRow (N : Nat)  (M : mS) : Option mS := Mo_keepsRow_2 N N 0 M
/-- MoonDialsModel.is(I)Z of .ref 64, .int a0 -/
def Mo_is (N : Nat) (a0 : Int32) (M : mS) : Option Int32 := if (M.1 64 13) = 0 then (grd (mIn (M.1 64 11) 403) (if (M.1 67 (M.1 64 11).toNatClampNeg) = a0 then (some 1) else (some 0))) else (some 0)
/-- MoonDialsModel.fail(I)V of .ref 64, .int a0 -/
def Mo_fail (N : Nat) (a0 : Int32) (M : mS) : Option mS := if (M.1 64 13) ≤ 0 then (nxt (mWI M 64 13 a0) fun M1 => grd (mIn (M1.1 64 11) 403) (nxt (mWI M1 64 14 (M1.1 68 (M1.1 64 11).toNatClampNeg)) fun M3 => some M3)) else (some M)
/-- MoonDialsModel.goesOn()V of .ref 64 -/
def Mo_goesOn (N : Nat)  (M : mS) : Option mS := if (M.1 64 11) = 400 then (bV (Mo_fail N 2 M) fun M2 => some M2) else (nxt (mWI M 64 11 ((M.1 64 11) + 1)) fun M3 => some M3)
def Mo_wrong_46 (N : Nat) (x1 : Int32) (x3 : Int32) (M : mS) : Option mS := nxt (mWI M 64 15 x1) fun M1 => nxt (mWI M1 64 16 x3) fun M2 => some M2
/-- MoonDialsModel.wrong(II)V of .ref 64, .int a0, .int a1 -/
def Mo_wrong (N : Nat) (a0 : Int32) (a1 : Int32) (M : mS) : Option mS := grd (mIn a1 403) (nxt (M.1 68 a1.toNatClampNeg) fun v4 => if 0 < (M.1 64 13) then (some M) else (if (M.1 64 15) = 0 then (Mo_wrong_46 N a0 v4 M) else (if (M.1 64 16) < v4 then (some M) else (if v4 = (M.1 64 16) then (if a0 < (M.1 64 15) then (Mo_wrong_46 N a0 v4 M) else (some M)) else (Mo_wrong_46 N a0 v4 M)))))
def Mo_bounded_15 (N : Nat) (x1 : Int32) (M : mS) : Option (Int32 × mS) := bV (Mo_fail N 1 M) fun M2 => some (x1, M2)
def Mo_bounded_51 (N : Nat) (x3 : Int32) (M : mS) : Option (Int32 × mS) := bV (Mo_goesOn N M) fun M4 => some (x3, M4)
def Mo_bounded_42 (N : Nat) (x3 : Int32) (M : mS) : Option (Int32 × mS) := bV (Mo_wrong N 5 (M.1 64 11) M) fun M6 => Mo_bounded_51 N x3 M6
/-- MoonDialsModel.bounded(II)I of .ref 64, .int a0, .int a1 -/
def Mo_bounded (N : Nat) (a0 : Int32) (a1 : Int32) (M : mS) : Option (Int32 × mS) := if 0 < (M.1 64 13) then (Mo_bounded_15 N a0 M) else (bR (Mo_is N 2 M) fun r8 => if r8 = 0 then (Mo_bounded_15 N a0 M) else (grd (mIn (M.1 64 11) 403) (nxt (M.1 69 (M.1 64 11).toNatClampNeg) fun v11 => if v11 < a0 then (Mo_bounded_42 N v11 M) else (if v11 ≤ a1 then (Mo_bounded_51 N v11 M) else (Mo_bounded_42 N v11 M)))))
/-- MoonDialsModel.must(I)V of .ref 64, .int a0 -/
def Mo_must (N : Nat) (a0 : Int32) (M : mS) : Option mS := bR (Mo_is N a0 M) fun r2 => if r2 = 0 then (bV (Mo_fail N 1 M) fun M5 => some M5) else (bV (Mo_goesOn N M) fun M7 => some M7)
def Mo_roomFor_10 (N : Nat)  (M : mS) : Option mS := if (M.1 64 13) = 0 then (bV (Mo_goesOn N M) fun M2 => some M2) else (some M)
/-- MoonDialsModel.roomFor(II)V of .ref 64, .int a0, .int a1 -/
def Mo_roomFor (N : Nat) (a0 : Int32) (a1 : Int32) (M : mS) : Option mS := if a0 = a1 then (bV (Mo_fail N 2 M) fun M4 => Mo_roomFor_10 N M4) else (Mo_roomFor_10 N M)
def Mo_named_49 (N : Nat) (k12 : Int32 → Int32 → mS → Option (Int32 × mS)) (x1 : Int32) (x2 : Int32) (M : mS) : Option (Int32 × mS) := k12 x1 (x2 + 1) M
def Mo_named_12 (N : Nat)  : Nat → Int32 → Int32 → mS → Option (Int32 × mS)
  | 0, _, _, _ => none
  | n + 1, x1, x2, M => if (M.1 64 20) ≤ x2 then (some (x1, M)) else (if (M.1 64 13) = 0 then (grd (mIn x2 9) (grd (mIn x1 403) (if (lg_cmp (M.2 72 x2.toNatClampNeg) (M.2 70 x1.toNatClampNeg)) = 0 then (bV (Mo_wrong N 3 x1 M) fun M4 => Mo_named_49 N (Mo_named_12 N n) x1 x2 M4) else (Mo_named_49 N (Mo_named_12 N n) x1 x2 M)))) else (some (x1, M)))
/-- MoonDialsModel.named()I of .ref 64 -/
def Mo_named (N : Nat)  (M : mS) : Option (Int32 × mS) := nxt (M.1 64 11) fun v5 => bV (Mo_must N 1 M) fun M7 => Mo_named_12 N N v5 0 M7
def Mo_known_63 (N : Nat) (k21 : Int32 → Int32 → mS → Option (Int32 × mS)) (x1 : Int32) (x2 : Int32) (M : mS) : Option (Int32 × mS) := k21 x1 (x2 + 1) M
def Mo_known_21 (N : Nat)  : Nat → Int32 → Int32 → mS → Option (Int32 × mS)
  | 0, _, _, _ => none
  | n + 1, x1, x2, M => if (M.1 64 20) ≤ x2 then (bV (Mo_wrong N 4 x1 M) fun M2 => some ((-1), M2)) else (grd (mIn x2 9) (grd (mIn x1 403) (if (lg_cmp (M.2 72 x2.toNatClampNeg) (M.2 70 x1.toNatClampNeg)) = 0 then (grd (mIn x2 9) (if 10 ≤ (M.1 73 x2.toNatClampNeg) then (Mo_known_63 N (Mo_known_21 N n) x1 x2 M) else (grd (mIn x2 9) (some (M.1 73 x2.toNatClampNeg, M))))) else (Mo_known_63 N (Mo_known_21 N n) x1 x2 M))))
/-- MoonDialsModel.known()I of .ref 64 -/
def Mo_known (N : Nat)  (M : mS) : Option (Int32 × mS) := nxt (M.1 64 11) fun v7 => bV (Mo_must N 1 M) fun M9 => if (M9.1 64 13) ≤ 0 then (Mo_known_21 N N v7 0 M9) else (some ((-1), M9))
/-- MoonDialsModel.endsName(II)V of .ref 64, .int a0, .int a1 -/
def Mo_endsName (N : Nat) (a0 : Int32) (a1 : Int32) (M : mS) : Option mS := bV (Mo_must N 4 M) fun M2 => if (M2.1 64 13) ≤ 0 then (grd (mIn a0 403) (grd (mIn (M2.1 64 20) 9) (nxt (mWL M2 72 (M2.1 64 20).toNatClampNeg (M2.2 70 a0.toNatClampNeg)) fun M5 => grd (mIn (M5.1 64 20) 9) (nxt (mWI M5 73 (M5.1 64 20).toNatClampNeg a1) fun M7 => nxt (mWI M7 64 20 ((M7.1 64 20) + 1)) fun M8 => some M8)))) else (some M2)
/-- MoonDialsModel.emit(II)V of .ref 64, .int a0, .int a1 -/
def Mo_emit (N : Nat) (a0 : Int32) (a1 : Int32) (M : mS) : Option mS := grd (mIn (M.1 64 40) 840) (nxt (mWI M 90 (M.1 64 40).toNatClampNeg a0) fun M2 => grd (mIn (M2.1 64 40) 840) (nxt (mWI M2 91 (M2.1 64 40).toNatClampNeg a1) fun M4 => nxt (mWI M4 64 40 ((M4.1 64 40) + 1)) fun M5 => some M5))
def Mo_unit_88 (N : Nat)  (M : mS) : Option mS := bV (Mo_fail N 1 M) fun M2 => some M2
/-- MoonDialsModel.unit()V of .ref 64 -/
def Mo_unit (N : Nat)  (M : mS) : Option mS := bR (Mo_is N 2 M) fun r4 => if r4 = 0 then (if (M.1 64 13) = 0 then (grd (mIn (M.1 64 11) 403) (if (M.1 67 (M.1 64 11).toNatClampNeg) < 31 then (Mo_unit_88 N M) else (grd (mIn (M.1 64 11) 403) (if 39 < (M.1 67 (M.1 64 11).toNatClampNeg) then (Mo_unit_88 N M) else (grd (mIn (M.1 64 11) 403) (bV (Mo_emit N 1 ((M.1 67 (M.1 64 11).toNatClampNeg) - 31) M) fun M10 => bV (Mo_goesOn N M10) fun M12 => some M12)))))) else (Mo_unit_88 N M)) else (grd (mIn (M.1 64 11) 403) (bV (Mo_emit N 0 (M.1 69 (M.1 64 11).toNatClampNeg) M) fun M15 => bV (Mo_goesOn N M15) fun M17 => some M17))
def Mo_comesOut_84 (N : Nat) (k0 : Int32 → mS → Option mS) (x1 : Int32) (z1 : Int32) (M : mS) : Option mS := bV (Mo_emit N z1 0 M) fun M2 => k0 x1 M2
def Mo_comesOut_42 (N : Nat) (k0 : Int32 → mS → Option mS) (x1 : Int32) (x2 : Int32) (M : mS) : Option mS := nxt (mWI M 64 44 ((M.1 64 44) - 1)) fun M3 => if x2 = 8 then (Mo_comesOut_84 N k0 x1 2 M3) else (if x2 = 9 then (Mo_comesOut_84 N k0 x1 3 M3) else (if x2 = 10 then (Mo_comesOut_84 N k0 x1 4 M3) else (Mo_comesOut_84 N k0 x1 5 M3)))
def Mo_comesOut_0 (N : Nat)  : Nat → Int32 → mS → Option mS
  | 0, _, _ => none
  | n + 1, x1, M => if (M.1 64 44) ≤ 0 then (some M) else (grd (mIn ((M.1 64 44) - 1) 64) (nxt (M.1 92 ((M.1 64 44) - 1).toNatClampNeg) fun v5 => if v5 = 6 then (some M) else (if x1 = 0 then (Mo_comesOut_42 N (Mo_comesOut_0 N n) x1 v5 M) else (if v5 = 8 then (some M) else (if v5 = 9 then (some M) else (Mo_comesOut_42 N (Mo_comesOut_0 N n) x1 v5 M))))))
/-- MoonDialsModel.comesOut(Z)V of .ref 64, .int a0 -/
def Mo_comesOut (N : Nat) (a0 : Int32) (M : mS) : Option mS := Mo_comesOut_0 N N a0 M
def Mo_expression_46 (N : Nat) (k12 : Int32 → Int32 → mS → Option mS) (k23 : Int32 → mS → Option mS) (x1 : Int32) (M : mS) : Option mS := nxt (mWI M 64 12 ((M.1 64 12) + 1)) fun M1 => bV (Mo_goesOn N M1) fun M3 => grd (mIn (M3.1 64 44) 64) (nxt (mWI M3 92 (M3.1 64 44).toNatClampNeg 6) fun M5 => nxt (mWI M5 64 44 ((M5.1 64 44) + 1)) fun M6 => k23 x1 M6)
def Mo_expression_234 (N : Nat) (k12 : Int32 → Int32 → mS → Option mS) (x1 : Int32) (x2 : Int32) (z1 : Int32) (M : mS) : Option mS := bV (Mo_comesOut N z1 M) fun M8 => grd (mIn (M8.1 64 11) 403) (grd (mIn (M8.1 64 44) 64) (nxt (mWI M8 92 (M8.1 64 44).toNatClampNeg (M8.1 67 (M8.1 64 11).toNatClampNeg)) fun M11 => nxt (mWI M11 64 44 ((M11.1 64 44) + 1)) fun M12 => bV (Mo_goesOn N M12) fun M14 => k12 x1 x2 M14))
def Mo_expression_229 (N : Nat) (k12 : Int32 → Int32 → mS → Option mS) (x1 : Int32) (x2 : Int32) (M : mS) : Option mS := Mo_expression_234 N k12 x1 x2 1 M
def Mo_expression_204 (N : Nat)  (M : mS) : Option mS := bV (Mo_comesOut N 0 M) fun M16 => some M16
def Mo_expression_186 (N : Nat) (k12 : Int32 → Int32 → mS → Option mS) (x1 : Int32) (z0 : Int32) (M : mS) : Option mS := if z0 = 0 then (if (M.1 64 12) ≤ x1 then (Mo_expression_204 N M) else (bV (Mo_fail N 1 M) fun M18 => Mo_expression_204 N M18)) else (bR (Mo_is N 10 M) fun r20 => if r20 = 0 then (bR (Mo_is N 15 M) fun r23 => if r23 = 0 then (Mo_expression_234 N k12 x1 z0 0 M) else (Mo_expression_229 N k12 x1 z0 M)) else (Mo_expression_229 N k12 x1 z0 M))
def Mo_expression_181 (N : Nat) (k12 : Int32 → Int32 → mS → Option mS) (x1 : Int32) (M : mS) : Option mS := Mo_expression_186 N k12 x1 1 M
def Mo_expression_145 (N : Nat) (k12 : Int32 → Int32 → mS → Option mS) (x1 : Int32) (M : mS) : Option mS := bR (Mo_is N 8 M) fun r26 => if r26 = 0 then (bR (Mo_is N 9 M) fun r29 => if r29 = 0 then (bR (Mo_is N 10 M) fun r32 => if r32 = 0 then (bR (Mo_is N 15 M) fun r35 => if r35 = 0 then (Mo_expression_186 N k12 x1 0 M) else (Mo_expression_181 N k12 x1 M)) else (Mo_expression_181 N k12 x1 M)) else (Mo_expression_181 N k12 x1 M)) else (Mo_expression_181 N k12 x1 M)
def Mo_expression_96 (N : Nat) (k12 : Int32 → Int32 → mS → Option mS) : Nat → Int32 → mS → Option mS
  | 0, _, _ => none
  | n + 1, x1, M => bR (Mo_is N 7 M) fun r38 => if r38 = 0 then (Mo_expression_145 N k12 x1 M) else (if (M.1 64 12) ≤ x1 then (Mo_expression_145 N k12 x1 M) else (bV (Mo_comesOut N 0 M) fun M41 => nxt (mWI M41 64 44 ((M41.1 64 44) - 1)) fun M42 => nxt (mWI M42 64 12 ((M42.1 64 12) - 1)) fun M43 => bV (Mo_goesOn N M43) fun M45 => Mo_expression_96 N k12 n x1 M45))
def Mo_expression_23 (N : Nat) (k12 : Int32 → Int32 → mS → Option mS) : Nat → Int32 → mS → Option mS
  | 0, _, _ => none
  | n + 1, x1, M => bR (Mo_is N 6 M) fun r47 => if r47 = 0 then (bV (Mo_unit N M) fun M50 => if (M50.1 64 13) ≤ 0 then (Mo_expression_96 N k12 N x1 M50) else (some M50)) else (if (M.1 64 12) = 6 then (bV (Mo_fail N 2 M) fun M52 => Mo_expression_46 N k12 (Mo_expression_23 N k12 n) x1 M52) else (Mo_expression_46 N k12 (Mo_expression_23 N k12 n) x1 M))
def Mo_expression_12 (N : Nat)  : Nat → Int32 → Int32 → mS → Option mS
  | 0, _, _, _ => none
  | n + 1, x1, x2, M => if x2 = 0 then (some M) else (if (M.1 64 13) = 0 then (Mo_expression_23 N (Mo_expression_12 N n) N x1 M) else (some M))
/-- MoonDialsModel.expression()V of .ref 64 -/
def Mo_expression (N : Nat)  (M : mS) : Option mS := nxt (mWI M 64 44 0) fun M53 => nxt (M53.1 64 12) fun v54 => Mo_expression_12 N N v54 1 M53
def Mo_term_24 (N : Nat)  (M : mS) : Option mS := grd (mIn (M.1 64 34) 260) (nxt (mWI M 89 (M.1 64 34).toNatClampNeg (M.1 64 40)) fun M2 => nxt (mWI M2 64 34 ((M2.1 64 34) + 1)) fun M3 => some M3)
/-- MoonDialsModel.term()V of .ref 64 -/
def Mo_term (N : Nat)  (M : mS) : Option mS := grd (mIn (M.1 64 34) 260) (nxt (mWI M 88 (M.1 64 34).toNatClampNeg (M.1 64 40)) fun M5 => if (M5.1 64 13) = 0 then (bV (Mo_expression N M5) fun M7 => Mo_term_24 N M7) else (Mo_term_24 N M5))
def Mo_tellLaw_129 (N : Nat) (x1 : Int32) (x2 : Int32) (M : mS) : Option mS := grd (mIn (M.1 64 34) 260) (nxt (mWI M 85 (M.1 64 34).toNatClampNeg (vp_nar .boolean 0)) fun M2 => bV (Mo_term N M2) fun M4 => bV (Mo_must N 4 M4) fun M6 => if (M6.1 64 13) ≤ 0 then (grd (mIn ((4 * (M6.1 64 19)) + x1) 8) (nxt (mWI M6 83 ((4 * (M6.1 64 19)) + x1).toNatClampNeg x2) fun M8 => grd (mIn ((4 * (M8.1 64 19)) + x1) 8) (nxt (mWI M8 84 ((4 * (M8.1 64 19)) + x1).toNatClampNeg (M8.1 64 34)) fun M10 => some M10))) else (some M6))
def Mo_tellLaw_110 (N : Nat) (k12 : Int32 → Int32 → Int32 → mS → Option mS) (x1 : Int32) (x2 : Int32) (x3 : Int32) (M : mS) : Option mS := bV (Mo_must N 29 M) fun M12 => bV (Mo_term N M12) fun M14 => bV (Mo_must N 30 M14) fun M16 => k12 x1 x2 x3 M16
def Mo_tellLaw_38 (N : Nat) (k12 : Int32 → Int32 → Int32 → mS → Option mS) (x1 : Int32) (x2 : Int32) (x3 : Int32) (M : mS) : Option mS := if (M.1 64 13) ≤ 0 then (bV (Mo_goesOn N M) fun M18 => grd (mIn (M18.1 64 34) 260) (nxt (mWI M18 85 (M18.1 64 34).toNatClampNeg (vp_nar .boolean 1)) fun M20 => grd (mIn (M20.1 64 34) 260) (nxt (mWI M20 86 (M20.1 64 34).toNatClampNeg (M20.1 64 40)) fun M22 => bV (Mo_expression N M22) fun M24 => bV (Mo_must N 13 M24) fun M26 => grd (mIn (M26.1 64 34) 260) (nxt (mWI M26 87 (M26.1 64 34).toNatClampNeg (M26.1 64 40)) fun M28 => if (M28.1 64 13) = 0 then (bV (Mo_expression N M28) fun M30 => Mo_tellLaw_110 N k12 x1 x2 (x3 + 1) M30) else (Mo_tellLaw_110 N k12 x1 x2 (x3 + 1) M28))))) else (some M)
def Mo_tellLaw_12 (N : Nat)  : Nat → Int32 → Int32 → Int32 → mS → Option mS
  | 0, _, _, _, _ => none
  | n + 1, x1, x2, x3, M => if (M.1 64 13) = 0 then (bR (Mo_is N 28 M) fun r32 => if r32 = 0 then (Mo_tellLaw_129 N x1 x2 M) else (if x3 = 4 then (bV (Mo_fail N 2 M) fun M35 => Mo_tellLaw_38 N (Mo_tellLaw_12 N n) x1 x2 x3 M35) else (Mo_tellLaw_38 N (Mo_tellLaw_12 N n) x1 x2 x3 M))) else (Mo_tellLaw_129 N x1 x2 M)
/-- MoonDialsModel.tellLaw(I)V of .ref 64, .int a0 -/
def Mo_tellLaw (N : Nat) (a0 : Int32) (M : mS) : Option mS := bV (Mo_must N 5 M) fun M37 => nxt (M37.1 64 34) fun v38 => Mo_tellLaw_12 N N a0 v38 0 M37
