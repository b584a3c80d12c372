/-! METHODS as functions, 9: printed by program -/
set_option maxRecDepth 100000 in
set_option maxHeartbeats 4000000 in
theorem Mo_tellOne_366_r {N d : Nat}  {M : mS} {x1 : Int32} {M' : mS} (h : Mo_tellOne_366 N x1 M = some M') : mRunF (mCd 194) (mEE (mMet mP mTx (d + 6)) (none) none M') (366, [some (.ref 64), some (.int x1), none], [], mSS M) := by
  unfold Mo_tellOne_366 at h
  refine mRunF.sg (mSl mk_194 184 2) (g := (370, [some (.ref 64), some (.int x1), none], [.int (M.1 64 13)], mSS M)) (by decide +kernel) rfl ?_
  refine R_le (t := 374) ⟨4, by decide +kernel⟩ (fun q => ?_) (fun q => ?_)
  · rw [if_pos q] at h
    refine mRunF.sg (mSl mk_194 188 1) (g := (375, [some (.ref 64), some (.int x1), none], [.ref 64], mSS M)) (by decide +kernel) rfl ?_
    obtain ⟨M2, q1, h⟩ := bV_of h
    refine R_callV (mi := 188) (na := 1) (ci := 12) (i := 64) (as := []) (r := []) (rv := none) (σ1 := mSS M2) ⟨230, by decide +kernel⟩ rfl rfl rfl rfl (Mo_goesOn_r N M (d + 4) q1) ?_
    show mRunF _ _ (378, [some (.ref 64), some (.int x1), none], [], mSS M2)
    refine mRunF.sg (mSl mk_194 190 2) (g := (380, [some (.ref 64), some (.int x1), none], [.int x1, .ref 64], mSS M2)) (by decide +kernel) rfl ?_
    obtain ⟨M4, q3, h⟩ := bV_of h
    refine R_callV (mi := 199) (na := 2) (ci := 12) (i := 64) (as := [.int x1]) (r := []) (rv := none) (σ1 := mSS M4) ⟨284, by decide +kernel⟩ rfl rfl rfl rfl (Mo_tellLaw_r N x1 M2 (d + 0) q3) ?_
    show mRunF _ _ (383, [some (.ref 64), some (.int x1), none], [], mSS M4)
    cases h
    exact R_vret (by decide +kernel)
  · rw [if_neg q] at h
    cases h
    exact R_vret (by decide +kernel)
set_option maxRecDepth 100000 in
set_option maxHeartbeats 4000000 in
theorem Mo_tellOne_361_r {N d : Nat}  {M : mS} {x1 : Int32} {M' : mS} (h : Mo_tellOne_361 N x1 M = some M') : mRunF (mCd 194) (mEE (mMet mP mTx (d + 6)) (none) none M') (361, [some (.ref 64), some (.int x1), none], [], mSS M) := by
  unfold Mo_tellOne_361 at h
  refine mRunF.sg (mSl mk_194 181 2) (g := (363, [some (.ref 64), some (.int x1), none], [.int 1, .ref 64], mSS M)) (by decide +kernel) rfl ?_
  obtain ⟨M6, q5, h⟩ := bV_of h
  refine R_callV (mi := 186) (na := 2) (ci := 12) (i := 64) (as := [.int 1]) (r := []) (rv := none) (σ1 := mSS M6) ⟨224, by decide +kernel⟩ rfl rfl rfl rfl (Mo_fail_r N 1 M (d + 5) q5) ?_
  show mRunF _ _ (366, [some (.ref 64), some (.int x1), none], [], mSS M6)
  exact Mo_tellOne_366_r h
set_option maxRecDepth 100000 in
set_option maxHeartbeats 4000000 in
theorem Mo_tellOne_r (N : Nat)  (M : mS) {M' : mS} (d : Nat) (h : Mo_tellOne N M = some M') : mMet mP mTx (d + 7) 194 [.ref 64] (mSS M) none (mSS M') := by
  refine mMet_i ⟨Nat.le_refl _, Nat.le_refl _, Nat.le_of_ble_eq_true rfl⟩ ?_
  unfold Mo_tellOne at h
  show mRunF (mCd 194) (mEE (mMet mP mTx (d + 6)) (none) none M') (0, [some (.ref 64), none, none], [], mSS M)
  refine mRunF.sg (mSl mk_194 0 4) (g := (8, [some (.ref 64), none, none], [.int (M.1 64 11), .ref 67], mSS M)) (by decide +kernel) rfl ?_
  obtain ⟨g7, h⟩ := grd_of h
  refine R_iald (by decide +kernel) rfl g7 ?_
  by_cases e0 : (M.1 67 (M.1 64 11).toNatClampNeg) = 20
  · rw [if_pos e0] at h
    refine R_swc (lo := 20) (hi := 27) (td := 330) (ts := [56, 84, 191, 330, 330, 330, 330, 301]) ⟨321, #[47, 75, 182, 321, 321, 321, 321, 292], by decide +kernel⟩ 0 (by rw [e0]; decide) (by decide) rfl ?_
    refine mRunF.sg (mSl mk_194 6 1) (g := (57, [some (.ref 64), none, none], [.ref 64], mSS M)) (by decide +kernel) rfl ?_
    obtain ⟨M9, q8, h⟩ := bV_of h
    refine R_callV (mi := 188) (na := 1) (ci := 12) (i := 64) (as := []) (r := []) (rv := none) (σ1 := mSS M9) ⟨230, by decide +kernel⟩ rfl rfl rfl rfl (Mo_goesOn_r N M (d + 4) q8) ?_
    show mRunF _ _ (60, [some (.ref 64), none, none], [], mSS M9)
    refine mRunF.sg (mSl mk_194 8 7) (g := (72, [some (.ref 64), none, none], [.int 24, .int 2, .ref 64, .int (M9.1 64 19), .ref 74], mSS M9)) (by decide +kernel) rfl ?_
    obtain ⟨r12, M11, q10, h⟩ := bW_of h
    refine R_callV (mi := 198) (na := 3) (ci := 12) (i := 64) (as := [.int 2, .int 24]) (r := [.int (M9.1 64 19), .ref 74]) (rv := some (.int r12)) (σ1 := mSS M11) ⟨263, by decide +kernel⟩ rfl rfl rfl rfl (Mo_bounded_r N 2 24 M9 (d + 3) q10) ?_
    show mRunF _ _ (75, [some (.ref 64), none, none], [.int r12, .int (M9.1 64 19), .ref 74], mSS M11)
    obtain ⟨g13, h⟩ := grd_of h
    refine R_iast (by decide +kernel) rfl g13 ?_
    obtain ⟨M14, hv, h⟩ := nxt_ex h
    rw [← hv]
    clear hv
    refine mRunF.sg (mSl mk_194 17 2) (g := (78, [some (.ref 64), none, none], [.int 4, .ref 64], mSS M14)) (by decide +kernel) rfl ?_
    obtain ⟨M16, q15, h⟩ := bV_of h
    refine R_callV (mi := 189) (na := 2) (ci := 12) (i := 64) (as := [.int 4]) (r := []) (rv := none) (σ1 := mSS M16) ⟨267, by decide +kernel⟩ rfl rfl rfl rfl (Mo_must_r N 4 M14 (d + 3) q15) ?_
    show mRunF _ _ (81, [some (.ref 64), none, none], [], mSS M16)
    refine mRunF.sg (mSl mk_194 20 1) (g := (383, [some (.ref 64), none, none], [], mSS M16)) (by decide +kernel) rfl ?_
    cases h
    exact R_vret (by decide +kernel)
  rw [if_neg e0] at h
  by_cases e1 : (M.1 67 (M.1 64 11).toNatClampNeg) = 21
  · rw [if_pos e1] at h
    refine R_swc (lo := 20) (hi := 27) (td := 330) (ts := [56, 84, 191, 330, 330, 330, 330, 301]) ⟨321, #[47, 75, 182, 321, 321, 321, 321, 292], by decide +kernel⟩ 1 (by rw [e1]; decide) (by decide) rfl ?_
    refine mRunF.sg (mSl mk_194 21 5) (g := (93, [some (.ref 64), none, none], [.int (M.1 64 19), .ref 75, .ref 64], mSS M)) (by decide +kernel) rfl ?_
    obtain ⟨g17, h⟩ := grd_of h
    refine R_iald (by decide +kernel) rfl g17 ?_
    refine mRunF.sg (mSl mk_194 27 1) (g := (95, [some (.ref 64), none, none], [.int 4, .int (M.1 75 (M.1 64 19).toNatClampNeg), .ref 64], mSS M)) (by decide +kernel) rfl ?_
    obtain ⟨M19, q18, h⟩ := bV_of h
    refine R_callV (mi := 193) (na := 3) (ci := 12) (i := 64) (as := [.int (M.1 75 (M.1 64 19).toNatClampNeg), .int 4]) (r := []) (rv := none) (σ1 := mSS M19) ⟨270, by decide +kernel⟩ rfl rfl rfl rfl (Mo_roomFor_r N (M.1 75 (M.1 64 19).toNatClampNeg) 4 M (d + 3) q18) ?_
    show mRunF _ _ (98, [some (.ref 64), none, none], [], mSS M19)
    refine mRunF.sg (mSl mk_194 29 2) (g := (102, [some (.ref 64), none, none], [.int (M19.1 64 13)], mSS M19)) (by decide +kernel) rfl ?_
    refine R_le (t := 106) ⟨4, by decide +kernel⟩ (fun q => ?_) (fun q => ?_)
    · rw [if_pos q] at h
      refine mRunF.sg (mSl mk_194 33 8) (g := (120, [some (.ref 64), none, none], [.int (M19.1 64 19), .ref 75, .int (4 * (M19.1 64 19))], mSS M19)) (by decide +kernel) rfl ?_
      obtain ⟨g20, h⟩ := grd_of h
      refine R_iald (by decide +kernel) rfl g20 ?_
      refine mRunF.sg (mSl mk_194 42 2) (g := (123, [some (.ref 64), some (.int ((4 * (M19.1 64 19)) + (M19.1 75 (M19.1 64 19).toNatClampNeg))), none], [], mSS M19)) (by decide +kernel) rfl ?_
      obtain ⟨v21, hv, h⟩ := nxt_ex h
      rw [← hv]
      clear hv
      refine mRunF.sg (mSl mk_194 44 1) (g := (124, [some (.ref 64), some (.int v21), none], [.ref 64], mSS M19)) (by decide +kernel) rfl ?_
      obtain ⟨r24, M23, q22, h⟩ := bW_of h
      refine R_callV (mi := 195) (na := 1) (ci := 12) (i := 64) (as := []) (r := []) (rv := some (.int r24)) (σ1 := mSS M23) ⟨274, by decide +kernel⟩ rfl rfl rfl rfl (Mo_named_r N M19 (d + 2) q22) ?_
      show mRunF _ _ (127, [some (.ref 64), some (.int v21), none], [.int r24], mSS M23)
      refine mRunF.sg (mSl mk_194 46 7) (g := (137, [some (.ref 64), some (.int v21), some (.int r24)], [.int 23, .int 0, .ref 64, .int v21, .ref 76], mSS M23)) (by decide +kernel) rfl ?_
      obtain ⟨r27, M26, q25, h⟩ := bW_of h
      refine R_callV (mi := 198) (na := 3) (ci := 12) (i := 64) (as := [.int 0, .int 23]) (r := [.int v21, .ref 76]) (rv := some (.int r27)) (σ1 := mSS M26) ⟨263, by decide +kernel⟩ rfl rfl rfl rfl (Mo_bounded_r N 0 23 M23 (d + 3) q25) ?_
      show mRunF _ _ (140, [some (.ref 64), some (.int v21), some (.int r24)], [.int r27, .int v21, .ref 76], mSS M26)
      obtain ⟨g28, h⟩ := grd_of h
      refine R_iast (by decide +kernel) rfl g28 ?_
      obtain ⟨M29, hv, h⟩ := nxt_ex h
      rw [← hv]
      clear hv
      refine mRunF.sg (mSl mk_194 55 6) (g := (150, [some (.ref 64), some (.int v21), some (.int r24)], [.int 23, .int 0, .ref 64, .int v21, .ref 77], mSS M29)) (by decide +kernel) rfl ?_
      obtain ⟨r32, M31, q30, h⟩ := bW_of h
      refine R_callV (mi := 198) (na := 3) (ci := 12) (i := 64) (as := [.int 0, .int 23]) (r := [.int v21, .ref 77]) (rv := some (.int r32)) (σ1 := mSS M31) ⟨263, by decide +kernel⟩ rfl rfl rfl rfl (Mo_bounded_r N 0 23 M29 (d + 3) q30) ?_
      show mRunF _ _ (153, [some (.ref 64), some (.int v21), some (.int r24)], [.int r32, .int v21, .ref 77], mSS M31)
      obtain ⟨g33, h⟩ := grd_of h
      refine R_iast (by decide +kernel) rfl g33 ?_
      obtain ⟨M34, hv, h⟩ := nxt_ex h
      rw [← hv]
      clear hv
      refine mRunF.sg (mSl mk_194 63 6) (g := (164, [some (.ref 64), some (.int v21), some (.int r24)], [.int (M34.1 64 19), .ref 75, .int r24, .ref 64], mSS M34)) (by decide +kernel) rfl ?_
      obtain ⟨g35, h⟩ := grd_of h
      refine R_iald (by decide +kernel) rfl g35 ?_
      obtain ⟨M37, q36, h⟩ := bV_of h
      refine R_callV (mi := 196) (na := 3) (ci := 12) (i := 64) (as := [.int r24, .int (M34.1 75 (M34.1 64 19).toNatClampNeg)]) (r := []) (rv := none) (σ1 := mSS M37) ⟨278, by decide +kernel⟩ rfl rfl rfl rfl (Mo_endsName_r N r24 (M34.1 75 (M34.1 64 19).toNatClampNeg) M34 (d + 2) q36) ?_
      show mRunF _ _ (168, [some (.ref 64), some (.int v21), some (.int r24)], [], mSS M37)
      refine mRunF.sg (mSl mk_194 71 2) (g := (172, [some (.ref 64), some (.int v21), some (.int r24)], [.int (M37.1 64 13)], mSS M37)) (by decide +kernel) rfl ?_
      refine R_ne (t := 383) ⟨211, by decide +kernel⟩ (fun q => ?_) (fun q => ?_)
      · rw [if_pos q] at h
        refine mRunF.sg (mSl mk_194 74 5) (g := (184, [some (.ref 64), some (.int v21), some (.int r24)], [.int (M37.1 64 19), .ref 75, .int (M37.1 64 19), .ref 75], mSS M37)) (by decide +kernel) rfl ?_
        obtain ⟨g38, h⟩ := grd_of h
        refine R_iald (by decide +kernel) rfl g38 ?_
        refine mRunF.sg (mSl mk_194 80 2) (g := (187, [some (.ref 64), some (.int v21), some (.int r24)], [.int ((M37.1 75 (M37.1 64 19).toNatClampNeg) + 1), .int (M37.1 64 19), .ref 75], mSS M37)) (by decide +kernel) rfl ?_
        obtain ⟨g39, h⟩ := grd_of h
        refine R_iast (by decide +kernel) rfl g39 ?_
        obtain ⟨M40, hv, h⟩ := nxt_ex h
        rw [← hv]
        clear hv
        refine mRunF.sg (mSl mk_194 83 1) (g := (383, [some (.ref 64), some (.int v21), some (.int r24)], [], mSS M40)) (by decide +kernel) rfl ?_
        cases h
        exact R_vret (by decide +kernel)
      · rw [if_neg q] at h
        cases h
        exact R_vret (by decide +kernel)
    · rw [if_neg q] at h
      cases h
      exact R_vret (by decide +kernel)
  rw [if_neg e1] at h
  by_cases e2 : (M.1 67 (M.1 64 11).toNatClampNeg) = 22
  · rw [if_pos e2] at h
    refine R_swc (lo := 20) (hi := 27) (td := 330) (ts := [56, 84, 191, 330, 330, 330, 330, 301]) ⟨321, #[47, 75, 182, 321, 321, 321, 321, 292], by decide +kernel⟩ 2 (by rw [e2]; decide) (by decide) rfl ?_
    refine mRunF.sg (mSl mk_194 84 5) (g := (200, [some (.ref 64), none, none], [.int (M.1 64 19), .ref 78, .ref 64], mSS M)) (by decide +kernel) rfl ?_
    obtain ⟨g41, h⟩ := grd_of h
    refine R_iald (by decide +kernel) rfl g41 ?_
    refine mRunF.sg (mSl mk_194 90 1) (g := (202, [some (.ref 64), none, none], [.int 5, .int (M.1 78 (M.1 64 19).toNatClampNeg), .ref 64], mSS M)) (by decide +kernel) rfl ?_
    obtain ⟨M43, q42, h⟩ := bV_of h
    refine R_callV (mi := 193) (na := 3) (ci := 12) (i := 64) (as := [.int (M.1 78 (M.1 64 19).toNatClampNeg), .int 5]) (r := []) (rv := none) (σ1 := mSS M43) ⟨270, by decide +kernel⟩ rfl rfl rfl rfl (Mo_roomFor_r N (M.1 78 (M.1 64 19).toNatClampNeg) 5 M (d + 3) q42) ?_
    show mRunF _ _ (205, [some (.ref 64), none, none], [], mSS M43)
    refine mRunF.sg (mSl mk_194 92 2) (g := (209, [some (.ref 64), none, none], [.int (M43.1 64 13)], mSS M43)) (by decide +kernel) rfl ?_
    refine R_le (t := 213) ⟨4, by decide +kernel⟩ (fun q => ?_) (fun q => ?_)
    · rw [if_pos q] at h
      refine mRunF.sg (mSl mk_194 96 8) (g := (227, [some (.ref 64), none, none], [.int (M43.1 64 19), .ref 78, .int (5 * (M43.1 64 19))], mSS M43)) (by decide +kernel) rfl ?_
      obtain ⟨g44, h⟩ := grd_of h
      refine R_iald (by decide +kernel) rfl g44 ?_
      refine mRunF.sg (mSl mk_194 105 2) (g := (230, [some (.ref 64), some (.int ((5 * (M43.1 64 19)) + (M43.1 78 (M43.1 64 19).toNatClampNeg))), none], [], mSS M43)) (by decide +kernel) rfl ?_
      obtain ⟨v45, hv, h⟩ := nxt_ex h
      rw [← hv]
      clear hv
      refine mRunF.sg (mSl mk_194 107 1) (g := (231, [some (.ref 64), some (.int v45), none], [.ref 64], mSS M43)) (by decide +kernel) rfl ?_
      obtain ⟨r48, M47, q46, h⟩ := bW_of h
      refine R_callV (mi := 195) (na := 1) (ci := 12) (i := 64) (as := []) (r := []) (rv := some (.int r48)) (σ1 := mSS M47) ⟨274, by decide +kernel⟩ rfl rfl rfl rfl (Mo_named_r N M43 (d + 2) q46) ?_
      show mRunF _ _ (234, [some (.ref 64), some (.int v45), none], [.int r48], mSS M47)
      refine mRunF.sg (mSl mk_194 109 5) (g := (241, [some (.ref 64), some (.int v45), some (.int r48)], [.ref 64, .int v45, .ref 79], mSS M47)) (by decide +kernel) rfl ?_
      obtain ⟨r51, M50, q49, h⟩ := bW_of h
      refine R_callV (mi := 197) (na := 1) (ci := 12) (i := 64) (as := []) (r := [.int v45, .ref 79]) (rv := some (.int r51)) (σ1 := mSS M50) ⟨281, by decide +kernel⟩ rfl rfl rfl rfl (Mo_known_r N M47 (d + 2) q49) ?_
      show mRunF _ _ (244, [some (.ref 64), some (.int v45), some (.int r48)], [.int r51, .int v45, .ref 79], mSS M50)
      obtain ⟨g52, h⟩ := grd_of h
      refine R_iast (by decide +kernel) rfl g52 ?_
      obtain ⟨M53, hv, h⟩ := nxt_ex h
      rw [← hv]
      clear hv
      refine mRunF.sg (mSl mk_194 116 6) (g := (254, [some (.ref 64), some (.int v45), some (.int r48)], [.int 23, .int 0, .ref 64, .int v45, .ref 80], mSS M53)) (by decide +kernel) rfl ?_
      obtain ⟨r56, M55, q54, h⟩ := bW_of h
      refine R_callV (mi := 198) (na := 3) (ci := 12) (i := 64) (as := [.int 0, .int 23]) (r := [.int v45, .ref 80]) (rv := some (.int r56)) (σ1 := mSS M55) ⟨263, by decide +kernel⟩ rfl rfl rfl rfl (Mo_bounded_r N 0 23 M53 (d + 3) q54) ?_
      show mRunF _ _ (257, [some (.ref 64), some (.int v45), some (.int r48)], [.int r56, .int v45, .ref 80], mSS M55)
      obtain ⟨g57, h⟩ := grd_of h
      refine R_iast (by decide +kernel) rfl g57 ?_
      obtain ⟨M58, hv, h⟩ := nxt_ex h
      rw [← hv]
      clear hv
      refine mRunF.sg (mSl mk_194 124 6) (g := (267, [some (.ref 64), some (.int v45), some (.int r48)], [.int 24, .int 1, .ref 64, .int v45, .ref 81], mSS M58)) (by decide +kernel) rfl ?_
      obtain ⟨r61, M60, q59, h⟩ := bW_of h
      refine R_callV (mi := 198) (na := 3) (ci := 12) (i := 64) (as := [.int 1, .int 24]) (r := [.int v45, .ref 81]) (rv := some (.int r61)) (σ1 := mSS M60) ⟨263, by decide +kernel⟩ rfl rfl rfl rfl (Mo_bounded_r N 1 24 M58 (d + 3) q59) ?_
      show mRunF _ _ (270, [some (.ref 64), some (.int v45), some (.int r48)], [.int r61, .int v45, .ref 81], mSS M60)
      obtain ⟨g62, h⟩ := grd_of h
      refine R_iast (by decide +kernel) rfl g62 ?_
      obtain ⟨M63, hv, h⟩ := nxt_ex h
      rw [← hv]
      clear hv
      refine mRunF.sg (mSl mk_194 132 3) (g := (275, [some (.ref 64), some (.int v45), some (.int r48)], [.int 10, .int r48, .ref 64], mSS M63)) (by decide +kernel) rfl ?_
      obtain ⟨M65, q64, h⟩ := bV_of h
      refine R_callV (mi := 196) (na := 3) (ci := 12) (i := 64) (as := [.int r48, .int 10]) (r := []) (rv := none) (σ1 := mSS M65) ⟨278, by decide +kernel⟩ rfl rfl rfl rfl (Mo_endsName_r N r48 10 M63 (d + 2) q64) ?_
      show mRunF _ _ (278, [some (.ref 64), some (.int v45), some (.int r48)], [], mSS M65)
      refine mRunF.sg (mSl mk_194 136 2) (g := (282, [some (.ref 64), some (.int v45), some (.int r48)], [.int (M65.1 64 13)], mSS M65)) (by decide +kernel) rfl ?_
      refine R_ne (t := 383) ⟨101, by decide +kernel⟩ (fun q => ?_) (fun q => ?_)
      · rw [if_pos q] at h
        refine mRunF.sg (mSl mk_194 139 5) (g := (294, [some (.ref 64), some (.int v45), some (.int r48)], [.int (M65.1 64 19), .ref 78, .int (M65.1 64 19), .ref 78], mSS M65)) (by decide +kernel) rfl ?_
        obtain ⟨g66, h⟩ := grd_of h
        refine R_iald (by decide +kernel) rfl g66 ?_
        refine mRunF.sg (mSl mk_194 145 2) (g := (297, [some (.ref 64), some (.int v45), some (.int r48)], [.int ((M65.1 78 (M65.1 64 19).toNatClampNeg) + 1), .int (M65.1 64 19), .ref 78], mSS M65)) (by decide +kernel) rfl ?_
        obtain ⟨g67, h⟩ := grd_of h
        refine R_iast (by decide +kernel) rfl g67 ?_
        obtain ⟨M68, hv, h⟩ := nxt_ex h
        rw [← hv]
        clear hv
        refine mRunF.sg (mSl mk_194 148 1) (g := (383, [some (.ref 64), some (.int v45), some (.int r48)], [], mSS M68)) (by decide +kernel) rfl ?_
        cases h
        exact R_vret (by decide +kernel)
      · rw [if_neg q] at h
        cases h
        exact R_vret (by decide +kernel)
    · rw [if_neg q] at h
      cases h
      exact R_vret (by decide +kernel)
  rw [if_neg e2] at h
  by_cases e7 : (M.1 67 (M.1 64 11).toNatClampNeg) = 27
  · rw [if_pos e7] at h
    refine R_swc (lo := 20) (hi := 27) (td := 330) (ts := [56, 84, 191, 330, 330, 330, 330, 301]) ⟨321, #[47, 75, 182, 321, 321, 321, 321, 292], by decide +kernel⟩ 7 (by rw [e7]; decide) (by decide) rfl ?_
    refine mRunF.sg (mSl mk_194 149 1) (g := (302, [some (.ref 64), none, none], [.ref 64], mSS M)) (by decide +kernel) rfl ?_
    obtain ⟨M70, q69, h⟩ := bV_of h
    refine R_callV (mi := 188) (na := 1) (ci := 12) (i := 64) (as := []) (r := []) (rv := none) (σ1 := mSS M70) ⟨230, by decide +kernel⟩ rfl rfl rfl rfl (Mo_goesOn_r N M (d + 4) q69) ?_
    show mRunF _ _ (305, [some (.ref 64), none, none], [], mSS M70)
    refine mRunF.sg (mSl mk_194 151 7) (g := (318, [some (.ref 64), none, none], [.int 9999, .int 0, .ref 64, .int (M70.1 64 19), .ref 82], mSS M70)) (by decide +kernel) rfl ?_
    obtain ⟨r73, M72, q71, h⟩ := bW_of h
    refine R_callV (mi := 198) (na := 3) (ci := 12) (i := 64) (as := [.int 0, .int 9999]) (r := [.int (M70.1 64 19), .ref 82]) (rv := some (.int r73)) (σ1 := mSS M72) ⟨263, by decide +kernel⟩ rfl rfl rfl rfl (Mo_bounded_r N 0 9999 M70 (d + 3) q71) ?_
    show mRunF _ _ (321, [some (.ref 64), none, none], [.int r73, .int (M70.1 64 19), .ref 82], mSS M72)
    obtain ⟨g74, h⟩ := grd_of h
    refine R_iast (by decide +kernel) rfl g74 ?_
    obtain ⟨M75, hv, h⟩ := nxt_ex h
    rw [← hv]
    clear hv
    refine mRunF.sg (mSl mk_194 160 2) (g := (324, [some (.ref 64), none, none], [.int 4, .ref 64], mSS M75)) (by decide +kernel) rfl ?_
    obtain ⟨M77, q76, h⟩ := bV_of h
    refine R_callV (mi := 189) (na := 2) (ci := 12) (i := 64) (as := [.int 4]) (r := []) (rv := none) (σ1 := mSS M77) ⟨267, by decide +kernel⟩ rfl rfl rfl rfl (Mo_must_r N 4 M75 (d + 3) q76) ?_
    show mRunF _ _ (327, [some (.ref 64), none, none], [], mSS M77)
    refine mRunF.sg (mSl mk_194 163 1) (g := (383, [some (.ref 64), none, none], [], mSS M77)) (by decide +kernel) rfl ?_
    cases h
    exact R_vret (by decide +kernel)
  rw [if_neg e7] at h
  by_cases e3 : (M.1 67 (M.1 64 11).toNatClampNeg) = 23
  · refine R_swc (lo := 20) (hi := 27) (td := 330) (ts := [56, 84, 191, 330, 330, 330, 330, 301]) ⟨321, #[47, 75, 182, 321, 321, 321, 321, 292], by decide +kernel⟩ 3 (by rw [e3]; decide) (by decide) rfl ?_
    refine mRunF.sg (mSl mk_194 164 4) (g := (338, [some (.ref 64), none, none], [.int (M.1 64 11), .ref 67], mSS M)) (by decide +kernel) rfl ?_
    obtain ⟨g78, h⟩ := grd_of h
    refine R_iald (by decide +kernel) rfl g78 ?_
    refine mRunF.sg (mSl mk_194 169 3) (g := (343, [some (.ref 64), some (.int ((M.1 67 (M.1 64 11).toNatClampNeg) - 23)), none], [], mSS M)) (by decide +kernel) rfl ?_
    obtain ⟨v79, hv, h⟩ := nxt_ex h
    rw [← hv]
    clear hv
    refine mRunF.sg (mSl mk_194 172 1) (g := (344, [some (.ref 64), some (.int v79), none], [.int v79], mSS M)) (by decide +kernel) rfl ?_
    refine R_lt (t := 361) ⟨17, by decide +kernel⟩ (fun q => ?_) (fun q => ?_)
    · rw [if_pos q] at h
      exact Mo_tellOne_361_r h
    · rw [if_neg q] at h
      refine mRunF.sg (mSl mk_194 174 4) (g := (355, [some (.ref 64), some (.int v79), none], [.int (M.1 64 11), .ref 67], mSS M)) (by decide +kernel) rfl ?_
      obtain ⟨g80, h⟩ := grd_of h
      refine R_iald (by decide +kernel) rfl g80 ?_
      refine mRunF.sg (mSl mk_194 179 1) (g := (358, [some (.ref 64), some (.int v79), none], [.int 26, .int (M.1 67 (M.1 64 11).toNatClampNeg)], mSS M)) (by decide +kernel) rfl ?_
      refine R_ile (t := 366) ⟨8, by decide +kernel⟩ (fun q => ?_) (fun q => ?_)
      · rw [if_pos q] at h
        exact Mo_tellOne_366_r h
      · rw [if_neg q] at h
        exact Mo_tellOne_361_r h
  by_cases e4 : (M.1 67 (M.1 64 11).toNatClampNeg) = 24
  · refine R_swc (lo := 20) (hi := 27) (td := 330) (ts := [56, 84, 191, 330, 330, 330, 330, 301]) ⟨321, #[47, 75, 182, 321, 321, 321, 321, 292], by decide +kernel⟩ 4 (by rw [e4]; decide) (by decide) rfl ?_
    refine mRunF.sg (mSl mk_194 164 4) (g := (338, [some (.ref 64), none, none], [.int (M.1 64 11), .ref 67], mSS M)) (by decide +kernel) rfl ?_
    obtain ⟨g78, h⟩ := grd_of h
    refine R_iald (by decide +kernel) rfl g78 ?_
    refine mRunF.sg (mSl mk_194 169 3) (g := (343, [some (.ref 64), some (.int ((M.1 67 (M.1 64 11).toNatClampNeg) - 23)), none], [], mSS M)) (by decide +kernel) rfl ?_
    obtain ⟨v79, hv, h⟩ := nxt_ex h
    rw [← hv]
    clear hv
    refine mRunF.sg (mSl mk_194 172 1) (g := (344, [some (.ref 64), some (.int v79), none], [.int v79], mSS M)) (by decide +kernel) rfl ?_
    refine R_lt (t := 361) ⟨17, by decide +kernel⟩ (fun q => ?_) (fun q => ?_)
    · rw [if_pos q] at h
      exact Mo_tellOne_361_r h
    · rw [if_neg q] at h
      refine mRunF.sg (mSl mk_194 174 4) (g := (355, [some (.ref 64), some (.int v79), none], [.int (M.1 64 11), .ref 67], mSS M)) (by decide +kernel) rfl ?_
      obtain ⟨g80, h⟩ := grd_of h
      refine R_iald (by decide +kernel) rfl g80 ?_
      refine mRunF.sg (mSl mk_194 179 1) (g := (358, [some (.ref 64), some (.int v79), none], [.int 26, .int (M.1 67 (M.1 64 11).toNatClampNeg)], mSS M)) (by decide +kernel) rfl ?_
      refine R_ile (t := 366) ⟨8, by decide +kernel⟩ (fun q => ?_) (fun q => ?_)
      · rw [if_pos q] at h
        exact Mo_tellOne_366_r h
      · rw [if_neg q] at h
        exact Mo_tellOne_361_r h
  by_cases e5 : (M.1 67 (M.1 64 11).toNatClampNeg) = 25
  · refine R_swc (lo := 20) (hi := 27) (td := 330) (ts := [56, 84, 191, 330, 330, 330, 330, 301]) ⟨321, #[47, 75, 182, 321, 321, 321, 321, 292], by decide +kernel⟩ 5 (by rw [e5]; decide) (by decide) rfl ?_
    refine mRunF.sg (mSl mk_194 164 4) (g := (338, [some (.ref 64), none, none], [.int (M.1 64 11), .ref 67], mSS M)) (by decide +kernel) rfl ?_
    obtain ⟨g78, h⟩ := grd_of h
    refine R_iald (by decide +kernel) rfl g78 ?_
    refine mRunF.sg (mSl mk_194 169 3) (g := (343, [some (.ref 64), some (.int ((M.1 67 (M.1 64 11).toNatClampNeg) - 23)), none], [], mSS M)) (by decide +kernel) rfl ?_
    obtain ⟨v79, hv, h⟩ := nxt_ex h
    rw [← hv]
    clear hv
    refine mRunF.sg (mSl mk_194 172 1) (g := (344, [some (.ref 64), some (.int v79), none], [.int v79], mSS M)) (by decide +kernel) rfl ?_
    refine R_lt (t := 361) ⟨17, by decide +kernel⟩ (fun q => ?_) (fun q => ?_)
    · rw [if_pos q] at h
      exact Mo_tellOne_361_r h
    · rw [if_neg q] at h
      refine mRunF.sg (mSl mk_194 174 4) (g := (355, [some (.ref 64), some (.int v79), none], [.int (M.1 64 11), .ref 67], mSS M)) (by decide +kernel) rfl ?_
      obtain ⟨g80, h⟩ := grd_of h
      refine R_iald (by decide +kernel) rfl g80 ?_
      refine mRunF.sg (mSl mk_194 179 1) (g := (358, [some (.ref 64), some (.int v79), none], [.int 26, .int (M.1 67 (M.1 64 11).toNatClampNeg)], mSS M)) (by decide +kernel) rfl ?_
      refine R_ile (t := 366) ⟨8, by decide +kernel⟩ (fun q => ?_) (fun q => ?_)
      · rw [if_pos q] at h
        exact Mo_tellOne_366_r h
      · rw [if_neg q] at h
        exact Mo_tellOne_361_r h
  by_cases e6 : (M.1 67 (M.1 64 11).toNatClampNeg) = 26
  · refine R_swc (lo := 20) (hi := 27) (td := 330) (ts := [56, 84, 191, 330, 330, 330, 330, 301]) ⟨321, #[47, 75, 182, 321, 321, 321, 321, 292], by decide +kernel⟩ 6 (by rw [e6]; decide) (by decide) rfl ?_
    refine mRunF.sg (mSl mk_194 164 4) (g := (338, [some (.ref 64), none, none], [.int (M.1 64 11), .ref 67], mSS M)) (by decide +kernel) rfl ?_
    obtain ⟨g78, h⟩ := grd_of h
    refine R_iald (by decide +kernel) rfl g78 ?_
    refine mRunF.sg (mSl mk_194 169 3) (g := (343, [some (.ref 64), some (.int ((M.1 67 (M.1 64 11).toNatClampNeg) - 23)), none], [], mSS M)) (by decide +kernel) rfl ?_
    obtain ⟨v79, hv, h⟩ := nxt_ex h
    rw [← hv]
    clear hv
    refine mRunF.sg (mSl mk_194 172 1) (g := (344, [some (.ref 64), some (.int v79), none], [.int v79], mSS M)) (by decide +kernel) rfl ?_
    refine R_lt (t := 361) ⟨17, by decide +kernel⟩ (fun q => ?_) (fun q => ?_)
    · rw [if_pos q] at h
      exact Mo_tellOne_361_r h
    · rw [if_neg q] at h
      refine mRunF.sg (mSl mk_194 174 4) (g := (355, [some (.ref 64), some (.int v79), none], [.int (M.1 64 11), .ref 67], mSS M)) (by decide +kernel) rfl ?_
      obtain ⟨g80, h⟩ := grd_of h
      refine R_iald (by decide +kernel) rfl g80 ?_
      refine mRunF.sg (mSl mk_194 179 1) (g := (358, [some (.ref 64), some (.int v79), none], [.int 26, .int (M.1 67 (M.1 64 11).toNatClampNeg)], mSS M)) (by decide +kernel) rfl ?_
      refine R_ile (t := 366) ⟨8, by decide +kernel⟩ (fun q => ?_) (fun q => ?_)
      · rw [if_pos q] at h
        exact Mo_tellOne_366_r h
      · rw [if_neg q] at h
        exact Mo_tellOne_361_r h
  refine R_swd (lo := 20) (hi := 27) (td := 330) (ts := [56, 84, 191, 330, 330, 330, 330, 301]) ⟨321, #[47, 75, 182, 321, 321, 321, 321, 292], by decide +kernel⟩ (sw_out 20 8 (by decide) (by decide) (fun j hj => by match j, hj with | 0, _ => exact e0 | 1, _ => exact e1 | 2, _ => exact e2 | 3, _ => exact e3 | 4, _ => exact e4 | 5, _ => exact e5 | 6, _ => exact e6 | 7, _ => exact e7 | j + 8, hj => omega)) ?_
  refine mRunF.sg (mSl mk_194 164 4) (g := (338, [some (.ref 64), none, none], [.int (M.1 64 11), .ref 67], mSS M)) (by decide +kernel) rfl ?_
  obtain ⟨g78, h⟩ := grd_of h
  refine R_iald (by decide +kernel) rfl g78 ?_
  refine mRunF.sg (mSl mk_194 169 3) (g := (343, [some (.ref 64), some (.int ((M.1 67 (M.1 64 11).toNatClampNeg) - 23)), none], [], mSS M)) (by decide +kernel) rfl ?_
  obtain ⟨v79, hv, h⟩ := nxt_ex h
  rw [← hv]
  clear hv
  refine mRunF.sg (mSl mk_194 172 1) (g := (344, [some (.ref 64), some (.int v79), none], [.int v79], mSS M)) (by decide +kernel) rfl ?_
  refine R_lt (t := 361) ⟨17, by decide +kernel⟩ (fun q => ?_) (fun q => ?_)
  · rw [if_pos q] at h
    exact Mo_tellOne_361_r h
  · rw [if_neg q] at h
    refine mRunF.sg (mSl mk_194 174 4) (g := (355, [some (.ref 64), some (.int v79), none], [.int (M.1 64 11), .ref 67], mSS M)) (by decide +kernel) rfl ?_
    obtain ⟨g80, h⟩ := grd_of h
    refine R_iald (by decide +kernel) rfl g80 ?_
    refine mRunF.sg (mSl mk_194 179 1) (g := (358, [some (.ref 64), some (.int v79), none], [.int 26, .int (M.1 67 (M.1 64 11).toNatClampNeg)], mSS M)) (by decide +kernel) rfl ?_
    refine R_ile (t := 366) ⟨8, by decide +kernel⟩ (fun q => ?_) (fun q => ?_)
    · rw [if_pos q] at h
      exact Mo_tellOne_366_r h
    · rw [if_neg q] at h
      exact Mo_tellOne_361_r h
set_option maxRecDepth 100000 in
set_option maxHeartbeats 4000000 in
theorem Mo_read_219_r {N d : Nat}   {r : Int32} {M' : mS} : ∀ {n : Nat} {x1 : Int32} {M : mS}, Mo_read_219 N n x1 M = some (r, M') → mRunF (mCd 191) (mEE (mMet mP mTx (d + 7)) (some .int) (some (.int r)) M') (219, [some (.ref 64), some (.int x1)], [], mSS M) := by
  intro n
  induction n with
  | zero => intro x1 M h; cases h
  | succ n ih =>
    replace ih := @ih
    intro x1 M h
    unfold Mo_read_219 at h
    refine mRunF.sg (mSl mk_191 115 2) (g := (221, [some (.ref 64), some (.int x1)], [.int 3, .int x1], mSS M)) (by decide +kernel) rfl ?_
    refine R_ige (t := 237) ⟨16, by decide +kernel⟩ (fun q => ?_) (fun q => ?_)
    · rw [if_pos q] at h
      refine mRunF.sg (mSl mk_191 125 1) (g := (238, [some (.ref 64), some (.int x1)], [.int 0], mSS M)) (by decide +kernel) rfl ?_
      cases h
      exact R_iret (by decide +kernel)
    · rw [if_neg q] at h
      refine mRunF.sg (mSl mk_191 118 4) (g := (230, [some (.ref 64), some (.int x1)], [.int 0, .int x1, .ref 109], mSS M)) (by decide +kernel) rfl ?_
      obtain ⟨g1, h⟩ := grd_of h
      refine R_zast (by decide +kernel) rfl g1 ?_
      obtain ⟨M2, hv, h⟩ := nxt_ex h
      rw [← hv]
      clear hv
      refine mRunF.sg (mSl mk_191 123 2) (g := (219, [some (.ref 64), some (.int (x1 + 1))], [], mSS M2)) (by decide +kernel) rfl ?_
      exact @ih _ _ h
set_option maxRecDepth 100000 in
set_option maxHeartbeats 4000000 in
theorem Mo_read_164_r {N d : Nat}  {M : mS} {z1 : Int32} {r : Int32} {M' : mS} (h : Mo_read_164 N z1 M = some (r, M')) : mRunF (mCd 191) (mEE (mMet mP mTx (d + 7)) (some .int) (some (.int r)) M') (164, [some (.ref 64), none], [.int z1, .ref 64], mSS M) := by
  unfold Mo_read_164 at h
  refine mRunF.sg (mSl mk_191 86 1) (g := (167, [some (.ref 64), none], [], mSS (mWI M 64 17 z1))) (by decide +kernel) rfl ?_
  obtain ⟨M3, hv, h⟩ := nxt_ex h
  rw [← hv]
  clear hv
  refine mRunF.sg (mSl mk_191 87 2) (g := (171, [some (.ref 64), none], [.int (M3.1 64 13)], mSS M3)) (by decide +kernel) rfl ?_
  refine R_le (t := 179) ⟨8, by decide +kernel⟩ (fun q => ?_) (fun q => ?_)
  · rw [if_pos q] at h
    refine mRunF.sg (mSl mk_191 93 2) (g := (183, [some (.ref 64), none], [.int (M3.1 64 15)], mSS M3)) (by decide +kernel) rfl ?_
    refine R_le (t := 191) ⟨8, by decide +kernel⟩ (fun q => ?_) (fun q => ?_)
    · rw [if_pos q] at h
      refine mRunF.sg (mSl mk_191 99 4) (g := (199, [some (.ref 64), none], [], mSS (mWI M3 64 18 (M3.1 64 19)))) (by decide +kernel) rfl ?_
      obtain ⟨M4, hv, h⟩ := nxt_ex h
      rw [← hv]
      clear hv
      refine mRunF.sg (mSl mk_191 103 1) (g := (200, [some (.ref 64), none], [.ref 64], mSS M4)) (by decide +kernel) rfl ?_
      obtain ⟨M6, q5, h⟩ := bV_of h
      refine R_callV (mi := 216) (na := 1) (ci := 12) (i := 64) (as := []) (r := []) (rv := none) (σ1 := mSS M6) ⟨166, by decide +kernel⟩ rfl rfl rfl rfl (Mo_begins_r N M4 (d + 5) q5) ?_
      show mRunF _ _ (203, [some (.ref 64), none], [], mSS M6)
      refine mRunF.sg (mSl mk_191 105 1) (g := (204, [some (.ref 64), none], [.ref 64], mSS M6)) (by decide +kernel) rfl ?_
      obtain ⟨M8, q7, h⟩ := bV_of h
      refine R_callV (mi := 217) (na := 1) (ci := 12) (i := 64) (as := []) (r := []) (rv := none) (σ1 := mSS M8) ⟨169, by decide +kernel⟩ rfl rfl rfl rfl (Mo_keepsRow_r N M6 (d + 6) q7) ?_
      show mRunF _ _ (207, [some (.ref 64), none], [], mSS M8)
      refine mRunF.sg (mSl mk_191 107 3) (g := (212, [some (.ref 64), none], [], mSS (mWI M8 64 53 0))) (by decide +kernel) rfl ?_
      obtain ⟨M9, hv, h⟩ := nxt_ex h
      rw [← hv]
      clear hv
      refine mRunF.sg (mSl mk_191 110 3) (g := (217, [some (.ref 64), none], [], mSS (mWI M9 64 62 0))) (by decide +kernel) rfl ?_
      obtain ⟨M10, hv, h⟩ := nxt_ex h
      rw [← hv]
      clear hv
      refine mRunF.sg (mSl mk_191 113 2) (g := (219, [some (.ref 64), some (.int 0)], [], mSS M10)) (by decide +kernel) rfl ?_
      exact Mo_read_219_r h
    · rw [if_neg q] at h
      refine mRunF.sg (mSl mk_191 96 2) (g := (190, [some (.ref 64), none], [.int (M3.1 64 15)], mSS M3)) (by decide +kernel) rfl ?_
      cases h
      exact R_iret (by decide +kernel)
  · rw [if_neg q] at h
    refine mRunF.sg (mSl mk_191 90 2) (g := (178, [some (.ref 64), none], [.int (M3.1 64 13)], mSS M3)) (by decide +kernel) rfl ?_
    cases h
    exact R_iret (by decide +kernel)
set_option maxRecDepth 100000 in
set_option maxHeartbeats 4000000 in
theorem Mo_read_134_r {N d : Nat}  {M : mS}  {r : Int32} {M' : mS} (h : Mo_read_134 N M = some (r, M')) : mRunF (mCd 191) (mEE (mMet mP mTx (d + 7)) (some .int) (some (.int r)) M') (134, [some (.ref 64), none], [], mSS M) := by
  unfold Mo_read_134 at h
  refine mRunF.sg (mSl mk_191 72 3) (g := (139, [some (.ref 64), none], [.int (M.1 64 13), .ref 64], mSS M)) (by decide +kernel) rfl ?_
  refine R_le (t := 149) ⟨10, by decide +kernel⟩ (fun q => ?_) (fun q => ?_)
  · rw [if_pos q] at h
    refine mRunF.sg (mSl mk_191 79 2) (g := (153, [some (.ref 64), none], [.int (M.1 64 15), .ref 64], mSS M)) (by decide +kernel) rfl ?_
    refine R_le (t := 163) ⟨10, by decide +kernel⟩ (fun q => ?_) (fun q => ?_)
    · rw [if_pos q] at h
      refine mRunF.sg (mSl mk_191 85 1) (g := (164, [some (.ref 64), none], [.int (-1), .ref 64], mSS M)) (by decide +kernel) rfl ?_
      exact Mo_read_164_r h
    · rw [if_neg q] at h
      refine mRunF.sg (mSl mk_191 82 3) (g := (164, [some (.ref 64), none], [.int (M.1 64 16), .ref 64], mSS M)) (by decide +kernel) rfl ?_
      exact Mo_read_164_r h
  · rw [if_neg q] at h
    refine mRunF.sg (mSl mk_191 76 3) (g := (164, [some (.ref 64), none], [.int (M.1 64 14), .ref 64], mSS M)) (by decide +kernel) rfl ?_
    exact Mo_read_164_r h
set_option maxRecDepth 100000 in
set_option maxHeartbeats 4000000 in
theorem Mo_read_112_r {N d : Nat}   {r : Int32} {M' : mS} : ∀ {n : Nat} {M : mS}, Mo_read_112 N n M = some (r, M') → mRunF (mCd 191) (mEE (mMet mP mTx (d + 7)) (some .int) (some (.int r)) M') (112, [some (.ref 64), none], [], mSS M) := by
  intro n
  induction n with
  | zero => intro M h; cases h
  | succ n ih =>
    replace ih := @ih
    intro M h
    unfold Mo_read_112 at h
    refine mRunF.sg (mSl mk_191 62 2) (g := (116, [some (.ref 64), none], [.int (M.1 64 13)], mSS M)) (by decide +kernel) rfl ?_
    refine R_ne (t := 134) ⟨18, by decide +kernel⟩ (fun q => ?_) (fun q => ?_)
    · rw [if_pos q] at h
      refine mRunF.sg (mSl mk_191 65 2) (g := (121, [some (.ref 64), none], [.int 0, .ref 64], mSS M)) (by decide +kernel) rfl ?_
      obtain ⟨r12, q11, h⟩ := bR_of h
      refine R_callV (mi := 185) (na := 2) (ci := 12) (i := 64) (as := [.int 0]) (r := []) (rv := some (.int r12)) (σ1 := mSS M) ⟨227, by decide +kernel⟩ rfl rfl rfl rfl (Mo_is_r N 0 M (d + 6) q11) ?_
      have b13 := mBool rfl (Mo_is_r N 0 M (d + 6) q11)
      show mRunF _ _ (124, [some (.ref 64), none], [.int r12], mSS M)
      refine R_ne (t := 134) ⟨10, by decide +kernel⟩ (fun q => ?_) (fun q => ?_)
      · rw [if_pos q] at h
        refine mRunF.sg (mSl mk_191 69 1) (g := (128, [some (.ref 64), none], [.ref 64], mSS M)) (by decide +kernel) rfl ?_
        obtain ⟨M15, q14, h⟩ := bV_of h
        refine R_callV (mi := 194) (na := 1) (ci := 12) (i := 64) (as := []) (r := []) (rv := none) (σ1 := mSS M15) ⟨254, by decide +kernel⟩ rfl rfl rfl rfl (Mo_tellOne_r N M (d + 0) q14) ?_
        show mRunF _ _ (131, [some (.ref 64), none], [], mSS M15)
        refine mRunF.sg (mSl mk_191 71 1) (g := (112, [some (.ref 64), none], [], mSS M15)) (by decide +kernel) rfl ?_
        exact @ih _ h
      · rw [if_neg q] at h
        exact Mo_read_134_r h
    · rw [if_neg q] at h
      exact Mo_read_134_r h
set_option maxRecDepth 100000 in
set_option maxHeartbeats 4000000 in
theorem Mo_read_10_r {N d : Nat}   {r : Int32} {M' : mS} : ∀ {n : Nat} {x1 : Int32} {M : mS}, Mo_read_10 N n x1 M = some (r, M') → mRunF (mCd 191) (mEE (mMet mP mTx (d + 7)) (some .int) (some (.int r)) M') (10, [some (.ref 64), some (.int x1)], [], mSS M) := by
  intro n
  induction n with
  | zero => intro x1 M h; cases h
  | succ n ih =>
    replace ih := @ih
    intro x1 M h
    unfold Mo_read_10 at h
    refine mRunF.sg (mSl mk_191 6 3) (g := (15, [some (.ref 64), some (.int x1)], [.int (M.1 64 4), .int x1], mSS M)) (by decide +kernel) rfl ?_
    refine R_ige (t := 36) ⟨21, by decide +kernel⟩ (fun q => ?_) (fun q => ?_)
    · rw [if_pos q] at h
      refine mRunF.sg (mSl mk_191 20 3) (g := (41, [some (.ref 64), some (.int x1)], [], mSS (mWI M 64 2 0))) (by decide +kernel) rfl ?_
      obtain ⟨M16, hv, h⟩ := nxt_ex h
      rw [← hv]
      clear hv
      refine mRunF.sg (mSl mk_191 23 1) (g := (42, [some (.ref 64), some (.int x1)], [.ref 64], mSS M16)) (by decide +kernel) rfl ?_
      obtain ⟨M18, q17, h⟩ := bV_of h
      refine R_callV (mi := 183) (na := 1) (ci := 12) (i := 64) (as := []) (r := []) (rv := none) (σ1 := mSS M18) ⟨233, by decide +kernel⟩ rfl rfl rfl rfl (Mo_cut_r N M16 (d + 4) q17) ?_
      show mRunF _ _ (45, [some (.ref 64), some (.int x1)], [], mSS M18)
      refine mRunF.sg (mSl mk_191 25 3) (g := (50, [some (.ref 64), some (.int x1)], [], mSS (mWI M18 64 11 0))) (by decide +kernel) rfl ?_
      obtain ⟨M19, hv, h⟩ := nxt_ex h
      rw [← hv]
      clear hv
      refine mRunF.sg (mSl mk_191 28 3) (g := (55, [some (.ref 64), some (.int x1)], [], mSS (mWI M19 64 12 0))) (by decide +kernel) rfl ?_
      obtain ⟨M20, hv, h⟩ := nxt_ex h
      rw [← hv]
      clear hv
      refine mRunF.sg (mSl mk_191 31 3) (g := (60, [some (.ref 64), some (.int x1)], [], mSS (mWI M20 64 13 0))) (by decide +kernel) rfl ?_
      obtain ⟨M21, hv, h⟩ := nxt_ex h
      rw [← hv]
      clear hv
      refine mRunF.sg (mSl mk_191 34 3) (g := (65, [some (.ref 64), some (.int x1)], [], mSS (mWI M21 64 15 0))) (by decide +kernel) rfl ?_
      obtain ⟨M22, hv, h⟩ := nxt_ex h
      rw [← hv]
      clear hv
      refine mRunF.sg (mSl mk_191 37 6) (g := (75, [some (.ref 64), some (.int x1)], [], mSS (mWI M22 64 19 (1 - (M22.1 64 18))))) (by decide +kernel) rfl ?_
      obtain ⟨M23, hv, h⟩ := nxt_ex h
      rw [← hv]
      clear hv
      refine mRunF.sg (mSl mk_191 43 3) (g := (80, [some (.ref 64), some (.int x1)], [], mSS (mWI M23 64 20 0))) (by decide +kernel) rfl ?_
      obtain ⟨M24, hv, h⟩ := nxt_ex h
      rw [← hv]
      clear hv
      refine mRunF.sg (mSl mk_191 46 3) (g := (85, [some (.ref 64), some (.int x1)], [.int (M24.1 64 19), .ref 64], mSS M24)) (by decide +kernel) rfl ?_
      obtain ⟨M26, q25, h⟩ := bV_of h
      refine R_callV (mi := 190) (na := 2) (ci := 12) (i := 64) (as := [.int (M24.1 64 19)]) (r := []) (rv := none) (σ1 := mSS M26) ⟨158, by decide +kernel⟩ rfl rfl rfl rfl (Mo_plain_r N (M24.1 64 19) M24 (d + 6) q25) ?_
      show mRunF _ _ (88, [some (.ref 64), some (.int x1)], [], mSS M26)
      refine mRunF.sg (mSl mk_191 50 6) (g := (100, [some (.ref 64), some (.int x1)], [], mSS (mWI M26 64 34 (130 * (M26.1 64 19))))) (by decide +kernel) rfl ?_
      obtain ⟨M27, hv, h⟩ := nxt_ex h
      rw [← hv]
      clear hv
      refine mRunF.sg (mSl mk_191 56 6) (g := (112, [some (.ref 64), some (.int x1)], [], mSS (mWI M27 64 40 (420 * (M27.1 64 19))))) (by decide +kernel) rfl ?_
      obtain ⟨M28, hv, h⟩ := nxt_ex h
      rw [← hv]
      clear hv
      refine mRunF.forget [true, false] ?_
      exact Mo_read_112_r h
    · rw [if_neg q] at h
      refine mRunF.sg (mSl mk_191 10 6) (g := (28, [some (.ref 64), some (.int x1)], [.int x1, .ref 65, .int x1, .ref 66], mSS M)) (by decide +kernel) rfl ?_
      obtain ⟨g29, h⟩ := grd_of h
      refine R_bald (by decide +kernel) rfl g29 ?_
      obtain ⟨g30, h⟩ := grd_of h
      refine R_bast (by decide +kernel) rfl g30 ?_
      obtain ⟨M31, hv, h⟩ := nxt_ex h
      rw [← hv]
      clear hv
      refine mRunF.sg (mSl mk_191 18 2) (g := (10, [some (.ref 64), some (.int (x1 + 1))], [], mSS M31)) (by decide +kernel) rfl ?_
      exact @ih _ _ h
set_option maxRecDepth 100000 in
set_option maxHeartbeats 4000000 in
theorem Mo_read_r (N : Nat)  (M : mS) {r : Int32} {M' : mS} (d : Nat) (h : Mo_read N M = some (r, M')) : mMet mP mTx (d + 8) 191 [.ref 64] (mSS M) (some (.int r)) (mSS M') := by
  refine mMet_i ⟨Nat.le_refl _, Nat.le_refl _, Nat.le_of_ble_eq_true rfl⟩ ?_
  unfold Mo_read at h
  show mRunF (mCd 191) (mEE (mMet mP mTx (d + 7)) (some .int) (some (.int r)) M') (0, [some (.ref 64), none], [], mSS M)
  refine mRunF.sg (mSl mk_191 0 4) (g := (8, [some (.ref 64), none], [], mSS (mWI M 64 4 (M.1 64 2)))) (by decide +kernel) rfl ?_
  obtain ⟨M32, hv, h⟩ := nxt_ex h
  rw [← hv]
  clear hv
  refine mRunF.sg (mSl mk_191 4 2) (g := (10, [some (.ref 64), some (.int 0)], [], mSS M32)) (by decide +kernel) rfl ?_
  exact Mo_read_10_r h
set_option maxRecDepth 100000 in
set_option maxHeartbeats 4000000 in
theorem Mo_place_r  (M : mS) (d : Nat) : mMet mP mTx (d + 1) 192 [.ref 64] (mSS M) (some (.int (Mo_place M))) (mSS M) := by
  refine mMet_i ⟨Nat.le_refl _, Nat.le_refl _, Nat.le_of_ble_eq_true rfl⟩ ?_
  generalize h : Mo_place M = r
  unfold Mo_place at h
  show mRunF (mCd 192) (mEE (mMet mP mTx (d + 0)) (some .int) (some (.int r)) M) (0, [some (.ref 64)], [], mSS M)
  refine mRunF.sg (mSl mk_192 0 2) (g := (4, [some (.ref 64)], [.int (M.1 64 17)], mSS M)) (by decide +kernel) rfl ?_
  subst h
  exact R_iret (by decide +kernel)
set_option maxRecDepth 100000 in
set_option maxHeartbeats 4000000 in
theorem Mo_in_r (a0 : Int32) (a1 : Int32) (a2 : Int32) (M : mS) (d : Nat) : mMet mP mTx (d + 1) 206 [.int a0, .int a1, .int a2] (mSS M) (some (.int (Mo_in a0 a1 a2 M))) (mSS M) := by
  refine mMet_i ⟨Nat.le_refl _, Nat.le_refl _, Nat.le_of_ble_eq_true rfl⟩ ?_
  generalize h : Mo_in a0 a1 a2 M = r
  unfold Mo_in at h
  show mRunF (mCd 206) (mEE (mMet mP mTx (d + 0)) (some .boolean) (some (.int r)) M) (0, [some (.int a0), some (.int a1), some (.int a2)], [], mSS M)
  refine mRunF.sg (mSl mk_206 0 2) (g := (2, [some (.int a0), some (.int a1), some (.int a2)], [.int a1, .int a0], mSS M)) (by decide +kernel) rfl ?_
  refine R_ilt (t := 14) ⟨12, by decide +kernel⟩ (fun q => ?_) (fun q => ?_)
  · rw [if_pos q] at h
    refine mRunF.sg (mSl mk_206 8 1) (g := (15, [some (.int a0), some (.int a1), some (.int a2)], [.int 0], mSS M)) (by decide +kernel) rfl ?_
    subst h
    exact R_zret (by decide +kernel) (Or.inl rfl)
  · rw [if_neg q] at h
    refine mRunF.sg (mSl mk_206 3 2) (g := (7, [some (.int a0), some (.int a1), some (.int a2)], [.int a2, .int a0], mSS M)) (by decide +kernel) rfl ?_
    refine R_igt (t := 14) ⟨7, by decide +kernel⟩ (fun q => ?_) (fun q => ?_)
    · rw [if_pos q] at h
      refine mRunF.sg (mSl mk_206 8 1) (g := (15, [some (.int a0), some (.int a1), some (.int a2)], [.int 0], mSS M)) (by decide +kernel) rfl ?_
      subst h
      exact R_zret (by decide +kernel) (Or.inl rfl)
    · rw [if_neg q] at h
      refine mRunF.sg (mSl mk_206 6 2) (g := (15, [some (.int a0), some (.int a1), some (.int a2)], [.int 1], mSS M)) (by decide +kernel) rfl ?_
      subst h
      exact R_zret (by decide +kernel) (Or.inr rfl)
set_option maxRecDepth 100000 in
set_option maxHeartbeats 4000000 in
theorem Mo_isDial_r (N : Nat) (a0 : Int32) (M : mS) {r : Int32} (d : Nat) (h : Mo_isDial N a0 M = some r) : mMet mP mTx (d + 2) 212 [.ref 64, .int a0] (mSS M) (some (.int r)) (mSS M) := by
  refine mMet_i ⟨Nat.le_refl _, Nat.le_refl _, Nat.le_of_ble_eq_true rfl⟩ ?_
  unfold Mo_isDial at h
  show mRunF (mCd 212) (mEE (mMet mP mTx (d + 1)) (some .boolean) (some (.int r)) M) (0, [some (.ref 64), some (.int a0)], [], mSS M)
  refine mRunF.sg (mSl mk_212 0 6) (g := (10, [some (.ref 64), some (.int a0)], [.int (M.1 64 18), .ref 75, .int 0, .int a0], mSS M)) (by decide +kernel) rfl ?_
  obtain ⟨g1, h⟩ := grd_of h
  refine R_iald (by decide +kernel) rfl g1 ?_
  refine mRunF.sg (mSl mk_212 7 2) (g := (13, [some (.ref 64), some (.int a0)], [.int ((M.1 75 (M.1 64 18).toNatClampNeg) - 1), .int 0, .int a0], mSS M)) (by decide +kernel) rfl ?_
  refine R_callS (mi := 206) (na := 3) (as := [.int a0, .int 0, .int ((M.1 75 (M.1 64 18).toNatClampNeg) - 1)]) (r := []) (rv := some (.int (Mo_in a0 0 ((M.1 75 (M.1 64 18).toNatClampNeg) - 1) M))) (σ1 := mSS M) ⟨316, by decide +kernel⟩ rfl rfl rfl (Mo_in_r a0 0 ((M.1 75 (M.1 64 18).toNatClampNeg) - 1) M (d + 0)) ?_
  have b2 := mBool rfl (Mo_in_r a0 0 ((M.1 75 (M.1 64 18).toNatClampNeg) - 1) M (d + 0))
  show mRunF _ _ (16, [some (.ref 64), some (.int a0)], [.int (Mo_in a0 0 ((M.1 75 (M.1 64 18).toNatClampNeg) - 1) M)], mSS M)
  cases h
  exact R_zret (by decide +kernel) b2
set_option maxRecDepth 100000 in
set_option maxHeartbeats 4000000 in
theorem Mo_copies_2_r {N d : Nat}   {M' : mS} : ∀ {n : Nat} {x1 : Int32} {M : mS}, Mo_copies_2 N n x1 M = some M' → mRunF (mCd 218) (mEE (mMet mP mTx (d + 0)) (none) none M') (2, [some (.ref 64), some (.int x1)], [], mSS M) := by
  intro n
  induction n with
  | zero => intro x1 M h; cases h
  | succ n ih =>
    replace ih := @ih
    intro x1 M h
    unfold Mo_copies_2 at h
    refine mRunF.sg (mSl mk_218 2 2) (g := (5, [some (.ref 64), some (.int x1)], [.int 29, .int x1], mSS M)) (by decide +kernel) rfl ?_
    refine R_ige (t := 26) ⟨21, by decide +kernel⟩ (fun q => ?_) (fun q => ?_)
    · rw [if_pos q] at h
      refine mRunF.sg (mSl mk_218 15 5) (g := (35, [some (.ref 64), some (.int x1)], [.int (M.1 64 18), .ref 82, .ref 64], mSS M)) (by decide +kernel) rfl ?_
      obtain ⟨g1, h⟩ := grd_of h
      refine R_iald (by decide +kernel) rfl g1 ?_
      refine mRunF.sg (mSl mk_218 21 1) (g := (39, [some (.ref 64), some (.int x1)], [], mSS (mWI M 64 50 (M.1 82 (M.1 64 18).toNatClampNeg)))) (by decide +kernel) rfl ?_
      obtain ⟨M2, hv, h⟩ := nxt_ex h
      rw [← hv]
      clear hv
      refine mRunF.sg (mSl mk_218 22 3) (g := (44, [some (.ref 64), some (.int x1)], [], mSS (mWI M2 64 51 0))) (by decide +kernel) rfl ?_
      obtain ⟨M3, hv, h⟩ := nxt_ex h
      rw [← hv]
      clear hv
      cases h
      exact R_vret (by decide +kernel)
    · rw [if_neg q] at h
      refine mRunF.sg (mSl mk_218 5 6) (g := (18, [some (.ref 64), some (.int x1)], [.int x1, .ref 95, .int x1, .ref 96], mSS M)) (by decide +kernel) rfl ?_
      obtain ⟨g4, h⟩ := grd_of h
      refine R_iald (by decide +kernel) rfl g4 ?_
      obtain ⟨g5, h⟩ := grd_of h
      refine R_iast (by decide +kernel) rfl g5 ?_
      obtain ⟨M6, hv, h⟩ := nxt_ex h
      rw [← hv]
      clear hv
      refine mRunF.sg (mSl mk_218 13 2) (g := (2, [some (.ref 64), some (.int (x1 + 1))], [], mSS M6)) (by decide +kernel) rfl ?_
      exact @ih _ _ h
set_option maxRecDepth 100000 in
set_option maxHeartbeats 4000000 in
theorem Mo_copies_r (N : Nat)  (M : mS) {M' : mS} (d : Nat) (h : Mo_copies N M = some M') : mMet mP mTx (d + 1) 218 [.ref 64] (mSS M) none (mSS M') := by
  refine mMet_i ⟨Nat.le_refl _, Nat.le_refl _, Nat.le_of_ble_eq_true rfl⟩ ?_
  unfold Mo_copies at h
  show mRunF (mCd 218) (mEE (mMet mP mTx (d + 0)) (none) none M') (0, [some (.ref 64), none], [], mSS M)
  refine mRunF.sg (mSl mk_218 0 2) (g := (2, [some (.ref 64), some (.int 0)], [], mSS M)) (by decide +kernel) rfl ?_
  exact Mo_copies_2_r h
set_option maxRecDepth 100000 in
set_option maxHeartbeats 4000000 in
theorem Mo_mixed_r (a0 : Int32) (a1 : Int32) (M : mS) (d : Nat) : mMet mP mTx (d + 1) 220 [.int a0, .int a1] (mSS M) (some (.int (Mo_mixed a0 a1 M))) (mSS M) := by
  refine mMet_i ⟨Nat.le_refl _, Nat.le_refl _, Nat.le_of_ble_eq_true rfl⟩ ?_
  generalize h : Mo_mixed a0 a1 M = r
  unfold Mo_mixed at h
  show mRunF (mCd 220) (mEE (mMet mP mTx (d + 0)) (some .int) (some (.int r)) M) (0, [some (.int a0), some (.int a1), none], [], mSS M)
  refine mRunF.sg (mSl mk_220 0 8) (g := (12, [some (.int a0), some (.int a1), some (.int (((a0 ^^^ a1) * 1103515245) + 12345))], [], mSS M)) (by decide +kernel) rfl ?_
  obtain ⟨v1, hv, h⟩ := nxt_ex h
  rw [← hv]
  clear hv
  refine mRunF.sg (mSl mk_220 8 5) (g := (18, [some (.int a0), some (.int a1), some (.int v1)], [.int (v1 ^^^ (ushr v1 15))], mSS M)) (by decide +kernel) rfl ?_
  subst h
  exact R_iret (by decide +kernel)
set_option maxRecDepth 100000 in
set_option maxHeartbeats 4000000 in
theorem Mo_lotOf_r (N : Nat) (a0 : Int32) (a1 : Int32) (M : mS) {r : Int32} (d : Nat) (h : Mo_lotOf N a0 a1 M = some r) : mMet mP mTx (d + 2) 221 [.ref 64, .int a0, .int a1] (mSS M) (some (.int r)) (mSS M) := by
  refine mMet_i ⟨Nat.le_refl _, Nat.le_refl _, Nat.le_of_ble_eq_true rfl⟩ ?_
  unfold Mo_lotOf at h
  show mRunF (mCd 221) (mEE (mMet mP mTx (d + 1)) (some .int) (some (.int r)) M) (0, [some (.ref 64), some (.int a0), some (.int a1)], [], mSS M)
  refine mRunF.sg (mSl mk_221 0 3) (g := (7, [some (.ref 64), some (.int a0), some (.int a1)], [.int 203, .int (M.1 64 50)], mSS M)) (by decide +kernel) rfl ?_
  refine R_callS (mi := 220) (na := 2) (as := [.int (M.1 64 50), .int 203]) (r := []) (rv := some (.int (Mo_mixed (M.1 64 50) 203 M))) (σ1 := mSS M) ⟨333, by decide +kernel⟩ rfl rfl rfl (Mo_mixed_r (M.1 64 50) 203 M (d + 0)) ?_
  show mRunF _ _ (10, [some (.ref 64), some (.int a0), some (.int a1)], [.int (Mo_mixed (M.1 64 50) 203 M)], mSS M)
  refine mRunF.sg (mSl mk_221 4 1) (g := (11, [some (.ref 64), some (.int a0), some (.int a1)], [.int a0, .int (Mo_mixed (M.1 64 50) 203 M)], mSS M)) (by decide +kernel) rfl ?_
  refine R_callS (mi := 220) (na := 2) (as := [.int (Mo_mixed (M.1 64 50) 203 M), .int a0]) (r := []) (rv := some (.int (Mo_mixed (Mo_mixed (M.1 64 50) 203 M) a0 M))) (σ1 := mSS M) ⟨333, by decide +kernel⟩ rfl rfl rfl (Mo_mixed_r (Mo_mixed (M.1 64 50) 203 M) a0 M (d + 0)) ?_
  show mRunF _ _ (14, [some (.ref 64), some (.int a0), some (.int a1)], [.int (Mo_mixed (Mo_mixed (M.1 64 50) 203 M) a0 M)], mSS M)
  refine mRunF.sg (mSl mk_221 6 3) (g := (17, [some (.ref 64), some (.int a0), some (.int a1)], [.int a1, .int (ushr (Mo_mixed (Mo_mixed (M.1 64 50) 203 M) a0 M) 1)], mSS M)) (by decide +kernel) rfl ?_
  obtain ⟨g1, h⟩ := nz_of h
  refine R_rem (by decide +kernel) g1 ?_
  cases h
  exact R_iret (by decide +kernel)
set_option maxRecDepth 100000 in
set_option maxHeartbeats 4000000 in
theorem Mo_looks_r (N : Nat) (a0 : Int32) (M : mS) {M' : mS} (d : Nat) (h : Mo_looks N a0 M = some M') : mMet mP mTx (d + 2) 223 [.ref 64, .int a0] (mSS M) none (mSS M') := by
  refine mMet_i ⟨Nat.le_refl _, Nat.le_refl _, Nat.le_of_ble_eq_true rfl⟩ ?_
  unfold Mo_looks at h
  show mRunF (mCd 223) (mEE (mMet mP mTx (d + 1)) (none) none M') (0, [some (.ref 64), some (.int a0)], [], mSS M)
  refine mRunF.sg (mSl mk_223 0 6) (g := (11, [some (.ref 64), some (.int a0)], [.int 28, .ref 96, .int 0, .ref 93], mSS M)) (by decide +kernel) rfl ?_
  refine R_iald (by decide +kernel) rfl rfl ?_
  show mRunF _ _ (12, [some (.ref 64), some (.int a0)], [.int (M.1 96 28), .int 0, .ref 93], mSS M)
  refine R_iast (by decide +kernel) rfl rfl ?_
  show mRunF _ _ (_, _, _, mSS (mWI M 93 0 (M.1 96 28)))
  obtain ⟨M1, hv, h⟩ := nxt_ex h
  rw [← hv]
  clear hv
  refine mRunF.sg (mSl mk_223 8 6) (g := (23, [some (.ref 64), some (.int a0)], [.int a0, .ref 96, .int 1, .ref 93], mSS M1)) (by decide +kernel) rfl ?_
  obtain ⟨g2, h⟩ := grd_of h
  refine R_iald (by decide +kernel) rfl g2 ?_
  refine R_iast (by decide +kernel) rfl rfl ?_
  show mRunF _ _ (_, _, _, mSS (mWI M1 93 1 (M1.1 96 a0.toNatClampNeg)))
  obtain ⟨M3, hv, h⟩ := nxt_ex h
  rw [← hv]
  clear hv
  refine mRunF.sg (mSl mk_223 16 8) (g := (37, [some (.ref 64), some (.int a0)], [.int (4 + a0), .ref 96, .int 2, .ref 93], mSS M3)) (by decide +kernel) rfl ?_
  obtain ⟨g4, h⟩ := grd_of h
  refine R_iald (by decide +kernel) rfl g4 ?_
  refine R_iast (by decide +kernel) rfl rfl ?_
  show mRunF _ _ (_, _, _, mSS (mWI M3 93 2 (M3.1 96 (4 + a0).toNatClampNeg)))
  obtain ⟨M5, hv, h⟩ := nxt_ex h
  rw [← hv]
  clear hv
  refine mRunF.sg (mSl mk_223 26 4) (g := (45, [some (.ref 64), some (.int a0)], [.int 0, .int 3, .ref 93], mSS M5)) (by decide +kernel) rfl ?_
  refine R_iast (by decide +kernel) rfl rfl ?_
  show mRunF _ _ (_, _, _, mSS (mWI M5 93 3 0))
  obtain ⟨M6, hv, h⟩ := nxt_ex h
  rw [← hv]
  clear hv
  refine mRunF.sg (mSl mk_223 31 4) (g := (52, [some (.ref 64), some (.int a0)], [.int 0, .int 4, .ref 93], mSS M6)) (by decide +kernel) rfl ?_
  refine R_iast (by decide +kernel) rfl rfl ?_
  show mRunF _ _ (_, _, _, mSS (mWI M6 93 4 0))
  obtain ⟨M7, hv, h⟩ := nxt_ex h
  rw [← hv]
  clear hv
  refine mRunF.sg (mSl mk_223 36 4) (g := (59, [some (.ref 64), some (.int a0)], [.int 0, .int 5, .ref 93], mSS M7)) (by decide +kernel) rfl ?_
  refine R_iast (by decide +kernel) rfl rfl ?_
  show mRunF _ _ (_, _, _, mSS (mWI M7 93 5 0))
  obtain ⟨M8, hv, h⟩ := nxt_ex h
  rw [← hv]
  clear hv
  refine mRunF.sg (mSl mk_223 41 4) (g := (67, [some (.ref 64), some (.int a0)], [.int a0, .int 6, .ref 93], mSS M8)) (by decide +kernel) rfl ?_
  refine R_iast (by decide +kernel) rfl rfl ?_
  show mRunF _ _ (_, _, _, mSS (mWI M8 93 6 a0))
  obtain ⟨M9, hv, h⟩ := nxt_ex h
  rw [← hv]
  clear hv
  refine mRunF.sg (mSl mk_223 46 4) (g := (75, [some (.ref 64), some (.int a0)], [.ref 64, .int 7, .ref 93], mSS M9)) (by decide +kernel) rfl ?_
  obtain ⟨r11, q10, h⟩ := bR_of h
  refine R_callV (mi := 210) (na := 1) (ci := 12) (i := 64) (as := []) (r := [.int 7, .ref 93]) (rv := some (.int r11)) (σ1 := mSS M9) ⟨313, by decide +kernel⟩ rfl rfl rfl rfl (Mo_hours_r N M9 (d + 0) q10) ?_
  show mRunF _ _ (78, [some (.ref 64), some (.int a0)], [.int r11, .int 7, .ref 93], mSS M9)
  refine R_iast (by decide +kernel) rfl rfl ?_
  show mRunF _ _ (_, _, _, mSS (mWI M9 93 7 r11))
  obtain ⟨M12, hv, h⟩ := nxt_ex h
  rw [← hv]
  clear hv
  refine mRunF.sg (mSl mk_223 52 7) (g := (93, [some (.ref 64), some (.int a0)], [.int (M12.1 64 18), .ref 78, .int 8, .ref 93], mSS M12)) (by decide +kernel) rfl ?_
  obtain ⟨g13, h⟩ := grd_of h
  refine R_iald (by decide +kernel) rfl g13 ?_
  refine R_iast (by decide +kernel) rfl rfl ?_
  show mRunF _ _ (_, _, _, mSS (mWI M12 93 8 (M12.1 78 (M12.1 64 18).toNatClampNeg)))
  obtain ⟨M14, hv, h⟩ := nxt_ex h
  rw [← hv]
  clear hv
  cases h
  exact R_vret (by decide +kernel)
set_option maxRecDepth 100000 in
set_option maxHeartbeats 4000000 in
theorem Mo_termOf_159_r {N d : Nat} {k5 : Int32 → Int32 → Int32 → mS → Option (Int32 × mS)} {M : mS} {x2 : Int32} {x3 : Int32} {x4 : Int32} {r : Int32} {M' : mS} (hk5 : ∀ (x2 : Int32) (x3 : Int32) (x4 : Int32) (M : mS), k5 x2 x3 x4 M = some (r, M') → mRunF (mCd 205) (mEE (mMet mP mTx (d + 0)) (some .int) (some (.int r)) M') (5, [some (.ref 64), none, some (.int x2), some (.int x3), some (.int x4), none, none, none], [], mSS M)) (h : Mo_termOf_159 N k5 x2 x3 x4 M = some (r, M')) : mRunF (mCd 205) (mEE (mMet mP mTx (d + 0)) (some .int) (some (.int r)) M') (159, [some (.ref 64), none, some (.int x2), some (.int x3), some (.int x4), none, none, none], [], mSS M) := by
  unfold Mo_termOf_159 at h
  refine mRunF.sg (mSl mk_205 88 2) (g := (5, [some (.ref 64), none, some (.int x2), some (.int x3), some (.int (x4 + 1)), none, none, none], [], mSS M)) (by decide +kernel) rfl ?_
  exact hk5 _ _ _ _ h
set_option maxRecDepth 100000 in
set_option maxHeartbeats 4000000 in
theorem Mo_termOf_58_r {N d : Nat} {k5 : Int32 → Int32 → Int32 → mS → Option (Int32 × mS)} {M : mS} {x2 : Int32} {x3 : Int32} {x4 : Int32} {z1 : Int32} {z2 : Int32} {r : Int32} {M' : mS} (hk5 : ∀ (x2 : Int32) (x3 : Int32) (x4 : Int32) (M : mS), k5 x2 x3 x4 M = some (r, M') → mRunF (mCd 205) (mEE (mMet mP mTx (d + 0)) (some .int) (some (.int r)) M') (5, [some (.ref 64), none, some (.int x2), some (.int x3), some (.int x4), none, none, none], [], mSS M)) (h : Mo_termOf_58 N k5 x2 x3 x4 z1 z2 M = some (r, M')) : mRunF (mCd 205) (mEE (mMet mP mTx (d + 0)) (some .int) (some (.int r)) M') (58, [some (.ref 64), none, some (.int x2), some (.int x3), some (.int x4), none, none, none], [.int z2, .int z1, .ref 94], mSS M) := by
  unfold Mo_termOf_58 at h
  obtain ⟨g1, h⟩ := grd_of h
  refine R_iast (by decide +kernel) rfl g1 ?_
  obtain ⟨M2, hv, h⟩ := nxt_ex h
  rw [← hv]
  clear hv
  refine mRunF.sg (mSl mk_205 33 2) (g := (159, [some (.ref 64), none, some (.int x2), some (.int (x3 + 1)), some (.int x4), none, none, none], [], mSS M2)) (by decide +kernel) rfl ?_
  exact Mo_termOf_159_r hk5 h
set_option maxRecDepth 100000 in
set_option maxHeartbeats 4000000 in
theorem Mo_termOf_158_r {N d : Nat} {k5 : Int32 → Int32 → Int32 → mS → Option (Int32 × mS)} {M : mS} {x2 : Int32} {x3 : Int32} {x4 : Int32} {z1 : Int32} {z2 : Int32} {r : Int32} {M' : mS} (hk5 : ∀ (x2 : Int32) (x3 : Int32) (x4 : Int32) (M : mS), k5 x2 x3 x4 M = some (r, M') → mRunF (mCd 205) (mEE (mMet mP mTx (d + 0)) (some .int) (some (.int r)) M') (5, [some (.ref 64), none, some (.int x2), some (.int x3), some (.int x4), none, none, none], [], mSS M)) (h : Mo_termOf_158 N k5 x2 x3 x4 z1 z2 M = some (r, M')) : mRunF (mCd 205) (mEE (mMet mP mTx (d + 0)) (some .int) (some (.int r)) M') (158, [some (.ref 64), none, some (.int x2), some (.int x3), some (.int x4), none, none, none], [.int z2, .int z1, .ref 94], mSS M) := by
  unfold Mo_termOf_158 at h
  obtain ⟨g3, h⟩ := grd_of h
  refine R_iast (by decide +kernel) rfl g3 ?_
  obtain ⟨M4, hv, h⟩ := nxt_ex h
  rw [← hv]
  clear hv
  exact Mo_termOf_159_r hk5 h
set_option maxRecDepth 100000 in
set_option maxHeartbeats 4000000 in
theorem Mo_termOf_104_r {N d : Nat} {k5 : Int32 → Int32 → Int32 → mS → Option (Int32 × mS)} {M : mS} {x2 : Int32} {x3 : Int32} {x4 : Int32} {x5 : Int32} {x6 : Int32} {x7 : Int32} {r : Int32} {M' : mS} (hk5 : ∀ (x2 : Int32) (x3 : Int32) (x4 : Int32) (M : mS), k5 x2 x3 x4 M = some (r, M') → mRunF (mCd 205) (mEE (mMet mP mTx (d + 0)) (some .int) (some (.int r)) M') (5, [some (.ref 64), none, some (.int x2), some (.int x3), some (.int x4), none, none, none], [], mSS M)) (h : Mo_termOf_104 N k5 x2 x3 x4 x5 x6 x7 M = some (r, M')) : mRunF (mCd 205) (mEE (mMet mP mTx (d + 0)) (some .int) (some (.int r)) M') (104, [some (.ref 64), none, some (.int x2), some (.int x3), some (.int x4), some (.int x5), some (.int x6), some (.int x7)], [], mSS M) := by
  unfold Mo_termOf_104 at h
  refine mRunF.sg (mSl mk_205 58 7) (g := (114, [some (.ref 64), none, some (.int x2), some (.int x3), some (.int x4), some (.int x5), some (.int x6), some (.int x7)], [.int 2, .int x5, .int (x3 - 1), .ref 94], mSS M)) (by decide +kernel) rfl ?_
  refine R_ine (t := 125) ⟨11, by decide +kernel⟩ (fun q => ?_) (fun q => ?_)
  · rw [if_pos q] at h
    refine mRunF.sg (mSl mk_205 66 4) (g := (158, [some (.ref 64), none, some (.int x2), some (.int x3), some (.int x4), some (.int x5), some (.int x6), some (.int x7)], [.int (x6 + x7), .int (x3 - 1), .ref 94], mSS M)) (by decide +kernel) rfl ?_
    refine mRunF.forget [true, true, true, true, true, false, false, false] ?_
    exact Mo_termOf_158_r hk5 h
  · rw [if_neg q] at h
    refine mRunF.sg (mSl mk_205 70 2) (g := (128, [some (.ref 64), none, some (.int x2), some (.int x3), some (.int x4), some (.int x5), some (.int x6), some (.int x7)], [.int 3, .int x5, .int (x3 - 1), .ref 94], mSS M)) (by decide +kernel) rfl ?_
    refine R_ine (t := 139) ⟨11, by decide +kernel⟩ (fun q => ?_) (fun q => ?_)
    · rw [if_pos q] at h
      refine mRunF.sg (mSl mk_205 73 4) (g := (158, [some (.ref 64), none, some (.int x2), some (.int x3), some (.int x4), some (.int x5), some (.int x6), some (.int x7)], [.int (x6 - x7), .int (x3 - 1), .ref 94], mSS M)) (by decide +kernel) rfl ?_
      refine mRunF.forget [true, true, true, true, true, false, false, false] ?_
      exact Mo_termOf_158_r hk5 h
    · rw [if_neg q] at h
      refine mRunF.sg (mSl mk_205 77 2) (g := (142, [some (.ref 64), none, some (.int x2), some (.int x3), some (.int x4), some (.int x5), some (.int x6), some (.int x7)], [.int 4, .int x5, .int (x3 - 1), .ref 94], mSS M)) (by decide +kernel) rfl ?_
      refine R_ine (t := 153) ⟨11, by decide +kernel⟩ (fun q => ?_) (fun q => ?_)
      · rw [if_pos q] at h
        refine mRunF.sg (mSl mk_205 80 4) (g := (158, [some (.ref 64), none, some (.int x2), some (.int x3), some (.int x4), some (.int x5), some (.int x6), some (.int x7)], [.int (x6 * x7), .int (x3 - 1), .ref 94], mSS M)) (by decide +kernel) rfl ?_
        refine mRunF.forget [true, true, true, true, true, false, false, false] ?_
        exact Mo_termOf_158_r hk5 h
      · rw [if_neg q] at h
        refine mRunF.sg (mSl mk_205 84 2) (g := (157, [some (.ref 64), none, some (.int x2), some (.int x3), some (.int x4), some (.int x5), some (.int x6), some (.int x7)], [.int x7, .int x6, .int (x3 - 1), .ref 94], mSS M)) (by decide +kernel) rfl ?_
        obtain ⟨g5, h⟩ := nz_of h
        refine R_div (by decide +kernel) g5 ?_
        refine mRunF.forget [true, true, true, true, true, false, false, false] ?_
        exact Mo_termOf_158_r hk5 h
set_option maxRecDepth 100000 in
set_option maxHeartbeats 4000000 in
theorem Mo_termOf_5_r {N d : Nat}   {r : Int32} {M' : mS} : ∀ {n : Nat} {x2 : Int32} {x3 : Int32} {x4 : Int32} {M : mS}, Mo_termOf_5 N n x2 x3 x4 M = some (r, M') → mRunF (mCd 205) (mEE (mMet mP mTx (d + 0)) (some .int) (some (.int r)) M') (5, [some (.ref 64), none, some (.int x2), some (.int x3), some (.int x4), none, none, none], [], mSS M) := by
  intro n
  induction n with
  | zero => intro x2 x3 x4 M h; cases h
  | succ n ih =>
    replace ih := @ih
    intro x2 x3 x4 M h
    unfold Mo_termOf_5 at h
    refine mRunF.sg (mSl mk_205 4 2) (g := (8, [some (.ref 64), none, some (.int x2), some (.int x3), some (.int x4), none, none, none], [.int x2, .int x4], mSS M)) (by decide +kernel) rfl ?_
    refine R_ige (t := 165) ⟨157, by decide +kernel⟩ (fun q => ?_) (fun q => ?_)
    · rw [if_pos q] at h
      refine mRunF.sg (mSl mk_205 90 3) (g := (170, [some (.ref 64), none, some (.int x2), some (.int x3), some (.int x4), none, none, none], [.int 0, .ref 94], mSS M)) (by decide +kernel) rfl ?_
      refine R_iald (by decide +kernel) rfl rfl ?_
      show mRunF _ _ (171, [some (.ref 64), none, some (.int x2), some (.int x3), some (.int x4), none, none, none], [.int (M.1 94 0)], mSS M)
      cases h
      exact R_iret (by decide +kernel)
    · rw [if_neg q] at h
      refine mRunF.sg (mSl mk_205 7 3) (g := (17, [some (.ref 64), none, some (.int x2), some (.int x3), some (.int x4), none, none, none], [.int x4, .ref 90], mSS M)) (by decide +kernel) rfl ?_
      obtain ⟨g6, h⟩ := grd_of h
      refine R_iald (by decide +kernel) rfl g6 ?_
      refine mRunF.sg (mSl mk_205 11 1) (g := (20, [some (.ref 64), none, some (.int x2), some (.int x3), some (.int x4), some (.int (M.1 90 x4.toNatClampNeg)), none, none], [], mSS M)) (by decide +kernel) rfl ?_
      obtain ⟨v7, hv, h⟩ := nxt_ex h
      rw [← hv]
      clear hv
      refine mRunF.sg (mSl mk_205 12 2) (g := (23, [some (.ref 64), none, some (.int x2), some (.int x3), some (.int x4), some (.int v7), none, none], [.int 2, .int v7], mSS M)) (by decide +kernel) rfl ?_
      refine R_ige (t := 65) ⟨42, by decide +kernel⟩ (fun q => ?_) (fun q => ?_)
      · rw [if_pos q] at h
        refine mRunF.sg (mSl mk_205 35 6) (g := (75, [some (.ref 64), none, some (.int x2), some (.int (x3 + (-1))), some (.int x4), some (.int v7), none, none], [.int ((x3 + (-1)) - 1), .ref 94], mSS M)) (by decide +kernel) rfl ?_
        obtain ⟨g8, h⟩ := grd_of h
        refine R_iald (by decide +kernel) rfl g8 ?_
        refine mRunF.sg (mSl mk_205 42 1) (g := (78, [some (.ref 64), none, some (.int x2), some (.int (x3 + (-1))), some (.int x4), some (.int v7), some (.int (M.1 94 ((x3 + (-1)) - 1).toNatClampNeg)), none], [], mSS M)) (by decide +kernel) rfl ?_
        obtain ⟨v9, hv, h⟩ := nxt_ex h
        rw [← hv]
        clear hv
        refine mRunF.sg (mSl mk_205 43 3) (g := (83, [some (.ref 64), none, some (.int x2), some (.int (x3 + (-1))), some (.int x4), some (.int v7), some (.int v9), none], [.int (x3 + (-1)), .ref 94], mSS M)) (by decide +kernel) rfl ?_
        obtain ⟨g10, h⟩ := grd_of h
        refine R_iald (by decide +kernel) rfl g10 ?_
        refine mRunF.sg (mSl mk_205 47 1) (g := (86, [some (.ref 64), none, some (.int x2), some (.int (x3 + (-1))), some (.int x4), some (.int v7), some (.int v9), some (.int (M.1 94 (x3 + (-1)).toNatClampNeg))], [], mSS M)) (by decide +kernel) rfl ?_
        obtain ⟨v11, hv, h⟩ := nxt_ex h
        rw [← hv]
        clear hv
        refine mRunF.sg (mSl mk_205 48 2) (g := (89, [some (.ref 64), none, some (.int x2), some (.int (x3 + (-1))), some (.int x4), some (.int v7), some (.int v9), some (.int v11)], [.int 5, .int v7], mSS M)) (by decide +kernel) rfl ?_
        refine R_ine (t := 104) ⟨15, by decide +kernel⟩ (fun q => ?_) (fun q => ?_)
        · rw [if_pos q] at h
          refine mRunF.sg (mSl mk_205 51 1) (g := (94, [some (.ref 64), none, some (.int x2), some (.int (x3 + (-1))), some (.int x4), some (.int v7), some (.int v9), some (.int v11)], [.int v11], mSS M)) (by decide +kernel) rfl ?_
          refine R_ne (t := 104) ⟨10, by decide +kernel⟩ (fun q => ?_) (fun q => ?_)
          · rw [if_pos q] at h
            refine mRunF.sg (mSl mk_205 53 3) (g := (102, [some (.ref 64), none, some (.int x2), some (.int (x3 + (-1))), some (.int x4), some (.int v7), some (.int v9), some (.int v11)], [], mSS (mWI M 64 47 1))) (by decide +kernel) rfl ?_
            obtain ⟨M12, hv, h⟩ := nxt_ex h
            rw [← hv]
            clear hv
            refine mRunF.sg (mSl mk_205 56 1) (g := (103, [some (.ref 64), none, some (.int x2), some (.int (x3 + (-1))), some (.int x4), some (.int v7), some (.int v9), some (.int v11)], [.int 0], mSS M12)) (by decide +kernel) rfl ?_
            cases h
            exact R_iret (by decide +kernel)
          · rw [if_neg q] at h
            exact Mo_termOf_104_r (fun y0 y1 y2 y3 hh => @ih y0 y1 y2 y3 hh) h
        · rw [if_neg q] at h
          exact Mo_termOf_104_r (fun y0 y1 y2 y3 hh => @ih y0 y1 y2 y3 hh) h
      · rw [if_neg q] at h
        refine mRunF.sg (mSl mk_205 15 4) (g := (33, [some (.ref 64), none, some (.int x2), some (.int x3), some (.int x4), some (.int v7), none, none], [.int v7, .int x3, .ref 94], mSS M)) (by decide +kernel) rfl ?_
        refine R_ne (t := 46) ⟨13, by decide +kernel⟩ (fun q => ?_) (fun q => ?_)
        · rw [if_pos q] at h
          refine mRunF.sg (mSl mk_205 20 3) (g := (42, [some (.ref 64), none, some (.int x2), some (.int x3), some (.int x4), some (.int v7), none, none], [.int x4, .ref 91, .int x3, .ref 94], mSS M)) (by decide +kernel) rfl ?_
          obtain ⟨g13, h⟩ := grd_of h
          refine R_iald (by decide +kernel) rfl g13 ?_
          refine mRunF.sg (mSl mk_205 24 1) (g := (58, [some (.ref 64), none, some (.int x2), some (.int x3), some (.int x4), some (.int v7), none, none], [.int (M.1 91 x4.toNatClampNeg), .int x3, .ref 94], mSS M)) (by decide +kernel) rfl ?_
          refine mRunF.forget [true, true, true, true, true, false, true, true] ?_
          exact Mo_termOf_58_r (fun y0 y1 y2 y3 hh => @ih y0 y1 y2 y3 hh) h
        · rw [if_neg q] at h
          refine mRunF.sg (mSl mk_205 25 5) (g := (56, [some (.ref 64), none, some (.int x2), some (.int x3), some (.int x4), some (.int v7), none, none], [.int x4, .ref 91, .ref 93, .int x3, .ref 94], mSS M)) (by decide +kernel) rfl ?_
          obtain ⟨g14, h⟩ := grd_of h
          refine R_iald (by decide +kernel) rfl g14 ?_
          obtain ⟨g15, h⟩ := grd_of h
          refine R_iald (by decide +kernel) rfl g15 ?_
          refine mRunF.forget [true, true, true, true, true, false, true, true] ?_
          exact Mo_termOf_58_r (fun y0 y1 y2 y3 hh => @ih y0 y1 y2 y3 hh) h
set_option maxRecDepth 100000 in
set_option maxHeartbeats 4000000 in
theorem Mo_termOf_r (N : Nat) (a0 : Int32) (a1 : Int32) (M : mS) {r : Int32} {M' : mS} (d : Nat) (h : Mo_termOf N a0 a1 M = some (r, M')) : mMet mP mTx (d + 1) 205 [.ref 64, .int a0, .int a1] (mSS M) (some (.int r)) (mSS M') := by
  refine mMet_i ⟨Nat.le_refl _, Nat.le_refl _, Nat.le_of_ble_eq_true rfl⟩ ?_
  unfold Mo_termOf at h
  show mRunF (mCd 205) (mEE (mMet mP mTx (d + 0)) (some .int) (some (.int r)) M') (0, [some (.ref 64), some (.int a0), some (.int a1), none, none, none, none, none], [], mSS M)
  refine mRunF.sg (mSl mk_205 0 4) (g := (5, [some (.ref 64), some (.int a0), some (.int a1), some (.int 0), some (.int a0), none, none, none], [], mSS M)) (by decide +kernel) rfl ?_
  refine mRunF.forget [true, false, true, true, true, true, true, true] ?_
  exact Mo_termOf_5_r h
set_option maxRecDepth 100000 in
set_option maxHeartbeats 4000000 in
theorem Mo_lawTells_119_r {N d : Nat}  {M : mS} {x4 : Int32} {r : Int32} {M' : mS} (h : Mo_lawTells_119 N x4 M = some (r, M')) : mRunF (mCd 222) (mEE (mMet mP mTx (d + 1)) (some .int) (some (.int r)) M') (119, [some (.ref 64), none, none, none, some (.int x4), none, none], [], mSS M) := by
  unfold Mo_lawTells_119 at h
  refine mRunF.sg (mSl mk_222 68 4) (g := (126, [some (.ref 64), none, none, none, some (.int x4), none, none], [.int x4, .ref 88, .ref 64], mSS M)) (by decide +kernel) rfl ?_
  obtain ⟨g1, h⟩ := grd_of h
  refine R_iald (by decide +kernel) rfl g1 ?_
  refine mRunF.sg (mSl mk_222 73 3) (g := (133, [some (.ref 64), none, none, none, some (.int x4), none, none], [.int x4, .ref 89, .int (M.1 88 x4.toNatClampNeg), .ref 64], mSS M)) (by decide +kernel) rfl ?_
  obtain ⟨g2, h⟩ := grd_of h
  refine R_iald (by decide +kernel) rfl g2 ?_
  obtain ⟨r5, M4, q3, h⟩ := bW_of h
  refine R_callV (mi := 205) (na := 3) (ci := 12) (i := 64) (as := [.int (M.1 88 x4.toNatClampNeg), .int (M.1 89 x4.toNatClampNeg)]) (r := []) (rv := some (.int r5)) (σ1 := mSS M4) ⟨336, by decide +kernel⟩ rfl rfl rfl rfl (Mo_termOf_r N (M.1 88 x4.toNatClampNeg) (M.1 89 x4.toNatClampNeg) M (d + 0) q3) ?_
  show mRunF _ _ (137, [some (.ref 64), none, none, none, some (.int x4), none, none], [.int r5], mSS M4)
  refine mRunF.sg (mSl mk_222 78 3) (g := (143, [some (.ref 64), none, none, none, some (.int x4), some (.int r5), none], [.int (M4.1 64 47)], mSS M4)) (by decide +kernel) rfl ?_
  refine R_eq (t := 150) ⟨7, by decide +kernel⟩ (fun q => ?_) (fun q => ?_)
  · rw [if_pos q] at h
    refine mRunF.sg (mSl mk_222 84 1) (g := (152, [some (.ref 64), none, none, none, some (.int x4), some (.int r5), none], [.int r5], mSS M4)) (by decide +kernel) rfl ?_
    cases h
    exact R_iret (by decide +kernel)
  · rw [if_neg q] at h
    refine mRunF.sg (mSl mk_222 82 2) (g := (152, [some (.ref 64), none, none, none, some (.int x4), some (.int r5), none], [.int 0], mSS M4)) (by decide +kernel) rfl ?_
    cases h
    exact R_iret (by decide +kernel)
set_option maxRecDepth 100000 in
set_option maxHeartbeats 4000000 in
theorem Mo_lawTells_39_r {N d : Nat}   {r : Int32} {M' : mS} : ∀ {n : Nat} {x3 : Int32} {x4 : Int32} {M : mS}, Mo_lawTells_39 N n x3 x4 M = some (r, M') → mRunF (mCd 222) (mEE (mMet mP mTx (d + 1)) (some .int) (some (.int r)) M') (39, [some (.ref 64), none, none, some (.int x3), some (.int x4), none, none], [], mSS M) := by
  intro n
  induction n with
  | zero => intro x3 x4 M h; cases h
  | succ n ih =>
    replace ih := @ih
    intro x3 x4 M h
    unfold Mo_lawTells_39 at h
    refine mRunF.sg (mSl mk_222 26 4) (g := (46, [some (.ref 64), none, none, some (.int x3), some (.int x4), none, none], [.int x3, .ref 84, .int x4], mSS M)) (by decide +kernel) rfl ?_
    obtain ⟨g6, h⟩ := grd_of h
    refine R_iald (by decide +kernel) rfl g6 ?_
    refine R_ige (t := 159) ⟨112, by decide +kernel⟩ (fun q => ?_) (fun q => ?_)
    · rw [if_pos q] at h
      refine mRunF.sg (mSl mk_222 88 1) (g := (160, [some (.ref 64), none, none, some (.int x3), some (.int x4), none, none], [.int 0], mSS M)) (by decide +kernel) rfl ?_
      cases h
      exact R_iret (by decide +kernel)
    · rw [if_neg q] at h
      refine mRunF.sg (mSl mk_222 32 3) (g := (56, [some (.ref 64), none, none, some (.int x3), some (.int x4), none, none], [.int x4, .ref 85], mSS M)) (by decide +kernel) rfl ?_
      obtain ⟨g7, h⟩ := grd_of h
      refine R_bald (by decide +kernel) rfl g7 ?_
      refine R_eq (t := 119) ⟨62, by decide +kernel⟩ (fun q => ?_) (fun q => ?_)
      · rw [if_pos q] at h
        refine mRunF.forget [true, true, true, false, true, true, true] ?_
        exact Mo_lawTells_119_r h
      · rw [if_neg q] at h
        refine mRunF.sg (mSl mk_222 37 4) (g := (67, [some (.ref 64), none, none, some (.int x3), some (.int x4), none, none], [.int x4, .ref 86, .ref 64], mSS M)) (by decide +kernel) rfl ?_
        obtain ⟨g8, h⟩ := grd_of h
        refine R_iald (by decide +kernel) rfl g8 ?_
        refine mRunF.sg (mSl mk_222 42 3) (g := (74, [some (.ref 64), none, none, some (.int x3), some (.int x4), none, none], [.int x4, .ref 87, .int (M.1 86 x4.toNatClampNeg), .ref 64], mSS M)) (by decide +kernel) rfl ?_
        obtain ⟨g9, h⟩ := grd_of h
        refine R_iald (by decide +kernel) rfl g9 ?_
        obtain ⟨r12, M11, q10, h⟩ := bW_of h
        refine R_callV (mi := 205) (na := 3) (ci := 12) (i := 64) (as := [.int (M.1 86 x4.toNatClampNeg), .int (M.1 87 x4.toNatClampNeg)]) (r := []) (rv := some (.int r12)) (σ1 := mSS M11) ⟨336, by decide +kernel⟩ rfl rfl rfl rfl (Mo_termOf_r N (M.1 86 x4.toNatClampNeg) (M.1 87 x4.toNatClampNeg) M (d + 0) q10) ?_
        show mRunF _ _ (78, [some (.ref 64), none, none, some (.int x3), some (.int x4), none, none], [.int r12], mSS M11)
        refine mRunF.sg (mSl mk_222 47 5) (g := (87, [some (.ref 64), none, none, some (.int x3), some (.int x4), some (.int r12), none], [.int x4, .ref 87, .ref 64], mSS M11)) (by decide +kernel) rfl ?_
        obtain ⟨g13, h⟩ := grd_of h
        refine R_iald (by decide +kernel) rfl g13 ?_
        refine mRunF.sg (mSl mk_222 53 3) (g := (94, [some (.ref 64), none, none, some (.int x3), some (.int x4), some (.int r12), none], [.int x4, .ref 88, .int (M11.1 87 x4.toNatClampNeg), .ref 64], mSS M11)) (by decide +kernel) rfl ?_
        obtain ⟨g14, h⟩ := grd_of h
        refine R_iald (by decide +kernel) rfl g14 ?_
        obtain ⟨r17, M16, q15, h⟩ := bW_of h
        refine R_callV (mi := 205) (na := 3) (ci := 12) (i := 64) (as := [.int (M11.1 87 x4.toNatClampNeg), .int (M11.1 88 x4.toNatClampNeg)]) (r := []) (rv := some (.int r17)) (σ1 := mSS M16) ⟨336, by decide +kernel⟩ rfl rfl rfl rfl (Mo_termOf_r N (M11.1 87 x4.toNatClampNeg) (M11.1 88 x4.toNatClampNeg) M11 (d + 0) q15) ?_
        show mRunF _ _ (98, [some (.ref 64), none, none, some (.int x3), some (.int x4), some (.int r12), none], [.int r17], mSS M16)
        refine mRunF.sg (mSl mk_222 58 3) (g := (104, [some (.ref 64), none, none, some (.int x3), some (.int x4), some (.int r12), some (.int r17)], [.int (M16.1 64 47)], mSS M16)) (by decide +kernel) rfl ?_
        refine R_eq (t := 109) ⟨5, by decide +kernel⟩ (fun q => ?_) (fun q => ?_)
        · rw [if_pos q] at h
          refine mRunF.sg (mSl mk_222 64 2) (g := (113, [some (.ref 64), none, none, some (.int x3), some (.int x4), some (.int r12), some (.int r17)], [.int r17, .int r12], mSS M16)) (by decide +kernel) rfl ?_
          refine R_ilt (t := 119) ⟨6, by decide +kernel⟩ (fun q => ?_) (fun q => ?_)
          · rw [if_pos q] at h
            refine mRunF.forget [true, true, true, false, true, false, false] ?_
            exact Mo_lawTells_119_r h
          · rw [if_neg q] at h
            refine mRunF.sg (mSl mk_222 67 1) (g := (153, [some (.ref 64), none, none, some (.int x3), some (.int x4), some (.int r12), some (.int r17)], [], mSS M16)) (by decide +kernel) rfl ?_
            refine mRunF.sg (mSl mk_222 86 2) (g := (39, [some (.ref 64), none, none, some (.int x3), some (.int (x4 + 1)), some (.int r12), some (.int r17)], [], mSS M16)) (by decide +kernel) rfl ?_
            refine mRunF.forget [true, true, true, true, true, false, false] ?_
            exact @ih _ _ _ h
        · rw [if_neg q] at h
          refine mRunF.sg (mSl mk_222 62 1) (g := (108, [some (.ref 64), none, none, some (.int x3), some (.int x4), some (.int r12), some (.int r17)], [.int 0], mSS M16)) (by decide +kernel) rfl ?_
          cases h
          exact R_iret (by decide +kernel)
set_option maxRecDepth 100000 in
set_option maxHeartbeats 4000000 in
theorem Mo_lawTells_r (N : Nat) (a0 : Int32) (a1 : Int32) (M : mS) {r : Int32} {M' : mS} (d : Nat) (h : Mo_lawTells N a0 a1 M = some (r, M')) : mMet mP mTx (d + 2) 222 [.ref 64, .int a0, .int a1] (mSS M) (some (.int r)) (mSS M') := by
  refine mMet_i ⟨Nat.le_refl _, Nat.le_refl _, Nat.le_of_ble_eq_true rfl⟩ ?_
  unfold Mo_lawTells at h
  show mRunF (mCd 222) (mEE (mMet mP mTx (d + 1)) (some .int) (some (.int r)) M') (0, [some (.ref 64), some (.int a0), some (.int a1), none, none, none, none], [], mSS M)
  refine mRunF.sg (mSl mk_222 0 7) (g := (9, [some (.ref 64), some (.int a0), some (.int a1), some (.int ((4 * (M.1 64 18)) + a0)), none, none, none], [], mSS M)) (by decide +kernel) rfl ?_
  obtain ⟨v18, hv, h⟩ := nxt_ex h
  rw [← hv]
  clear hv
  refine mRunF.sg (mSl mk_222 7 3) (g := (14, [some (.ref 64), some (.int a0), some (.int a1), some (.int v18), none, none, none], [.int v18, .ref 83], mSS M)) (by decide +kernel) rfl ?_
  obtain ⟨g19, h⟩ := grd_of h
  refine R_iald (by decide +kernel) rfl g19 ?_
  refine mRunF.sg (mSl mk_222 11 3) (g := (20, [some (.ref 64), some (.int a0), some (.int a1), some (.int v18), none, none, none], [.int v18, .ref 84, .int (M.1 83 v18.toNatClampNeg)], mSS M)) (by decide +kernel) rfl ?_
  obtain ⟨g20, h⟩ := grd_of h
  refine R_iald (by decide +kernel) rfl g20 ?_
  refine R_ine (t := 26) ⟨5, by decide +kernel⟩ (fun q => ?_) (fun q => ?_)
  · rw [if_pos q] at h
    refine mRunF.sg (mSl mk_222 16 1) (g := (25, [some (.ref 64), some (.int a0), some (.int a1), some (.int v18), none, none, none], [.int a1], mSS M)) (by decide +kernel) rfl ?_
    cases h
    exact R_iret (by decide +kernel)
  · rw [if_neg q] at h
    refine mRunF.sg (mSl mk_222 18 3) (g := (31, [some (.ref 64), some (.int a0), some (.int a1), some (.int v18), none, none, none], [], mSS (mWI M 64 47 0))) (by decide +kernel) rfl ?_
    obtain ⟨M21, hv, h⟩ := nxt_ex h
    rw [← hv]
    clear hv
    refine mRunF.sg (mSl mk_222 21 3) (g := (36, [some (.ref 64), some (.int a0), some (.int a1), some (.int v18), none, none, none], [.int v18, .ref 83], mSS M21)) (by decide +kernel) rfl ?_
    obtain ⟨g22, h⟩ := grd_of h
    refine R_iald (by decide +kernel) rfl g22 ?_
    refine mRunF.sg (mSl mk_222 25 1) (g := (39, [some (.ref 64), some (.int a0), some (.int a1), some (.int v18), some (.int (M21.1 83 v18.toNatClampNeg)), none, none], [], mSS M21)) (by decide +kernel) rfl ?_
    obtain ⟨v23, hv, h⟩ := nxt_ex h
    rw [← hv]
    clear hv
    refine mRunF.forget [true, false, false, true, true, true, true] ?_
    exact Mo_lawTells_39_r h
set_option maxRecDepth 100000 in
set_option maxHeartbeats 4000000 in
theorem Mo_within_r (a0 : Int32) (a1 : Int32) (a2 : Int32) (M : mS) (d : Nat) : mMet mP mTx (d + 1) 207 [.int a0, .int a1, .int a2] (mSS M) (some (.int (Mo_within a0 a1 a2 M))) (mSS M) := by
  refine mMet_i ⟨Nat.le_refl _, Nat.le_refl _, Nat.le_of_ble_eq_true rfl⟩ ?_
  generalize h : Mo_within a0 a1 a2 M = r
  unfold Mo_within at h
  show mRunF (mCd 207) (mEE (mMet mP mTx (d + 0)) (some .int) (some (.int r)) M) (0, [some (.int a0), some (.int a1), some (.int a2)], [], mSS M)
  refine mRunF.sg (mSl mk_207 0 2) (g := (2, [some (.int a0), some (.int a1), some (.int a2)], [.int a1, .int a0], mSS M)) (by decide +kernel) rfl ?_
  refine R_ige (t := 9) ⟨7, by decide +kernel⟩ (fun q => ?_) (fun q => ?_)
  · rw [if_pos q] at h
    refine mRunF.sg (mSl mk_207 5 2) (g := (11, [some (.int a0), some (.int a1), some (.int a2)], [.int a2, .int a0], mSS M)) (by decide +kernel) rfl ?_
    refine R_ile (t := 18) ⟨7, by decide +kernel⟩ (fun q => ?_) (fun q => ?_)
    · rw [if_pos q] at h
      refine mRunF.sg (mSl mk_207 10 1) (g := (19, [some (.int a0), some (.int a1), some (.int a2)], [.int a0], mSS M)) (by decide +kernel) rfl ?_
      subst h
      exact R_iret (by decide +kernel)
    · rw [if_neg q] at h
      refine mRunF.sg (mSl mk_207 8 2) (g := (19, [some (.int a0), some (.int a1), some (.int a2)], [.int a2], mSS M)) (by decide +kernel) rfl ?_
      subst h
      exact R_iret (by decide +kernel)
  · rw [if_neg q] at h
    refine mRunF.sg (mSl mk_207 3 2) (g := (19, [some (.int a0), some (.int a1), some (.int a2)], [.int a1], mSS M)) (by decide +kernel) rfl ?_
    subst h
    exact R_iret (by decide +kernel)
set_option maxRecDepth 100000 in
set_option maxHeartbeats 4000000 in
theorem Mo_dimsOf_r (N : Nat) (a0 : Int32) (M : mS) {r : Int32} {M' : mS} (d : Nat) (h : Mo_dimsOf N a0 M = some (r, M')) : mMet mP mTx (d + 3) 228 [.ref 64, .int a0] (mSS M) (some (.int r)) (mSS M') := by
  refine mMet_i ⟨Nat.le_refl _, Nat.le_refl _, Nat.le_of_ble_eq_true rfl⟩ ?_
  unfold Mo_dimsOf at h
  show mRunF (mCd 228) (mEE (mMet mP mTx (d + 2)) (some .int) (some (.int r)) M') (0, [some (.ref 64), some (.int a0)], [], mSS M)
  refine mRunF.sg (mSl mk_228 0 2) (g := (2, [some (.ref 64), some (.int a0)], [.int a0, .ref 64], mSS M)) (by decide +kernel) rfl ?_
  obtain ⟨M2, q1, h⟩ := bV_of h
  refine R_callV (mi := 223) (na := 2) (ci := 12) (i := 64) (as := [.int a0]) (r := []) (rv := none) (σ1 := mSS M2) ⟨339, by decide +kernel⟩ rfl rfl rfl rfl (Mo_looks_r N a0 M (d + 0) q1) ?_
  show mRunF _ _ (5, [some (.ref 64), some (.int a0)], [], mSS M2)
  refine mRunF.sg (mSl mk_228 3 3) (g := (8, [some (.ref 64), some (.int a0)], [.int 0, .int 3, .ref 64], mSS M2)) (by decide +kernel) rfl ?_
  obtain ⟨r5, M4, q3, h⟩ := bW_of h
  refine R_callV (mi := 222) (na := 3) (ci := 12) (i := 64) (as := [.int 3, .int 0]) (r := []) (rv := some (.int r5)) (σ1 := mSS M4) ⟨348, by decide +kernel⟩ rfl rfl rfl rfl (Mo_lawTells_r N 3 0 M2 (d + 0) q3) ?_
  show mRunF _ _ (11, [some (.ref 64), some (.int a0)], [.int r5], mSS M4)
  refine mRunF.sg (mSl mk_228 7 2) (g := (14, [some (.ref 64), some (.int a0)], [.int 100, .int 0, .int r5], mSS M4)) (by decide +kernel) rfl ?_
  refine R_callS (mi := 207) (na := 3) (as := [.int r5, .int 0, .int 100]) (r := []) (rv := some (.int (Mo_within r5 0 100 M4))) (σ1 := mSS M4) ⟨351, by decide +kernel⟩ rfl rfl rfl (Mo_within_r r5 0 100 M4 (d + 1)) ?_
  show mRunF _ _ (17, [some (.ref 64), some (.int a0)], [.int (Mo_within r5 0 100 M4)], mSS M4)
  cases h
  exact R_iret (by decide +kernel)
set_option maxRecDepth 100000 in
set_option maxHeartbeats 4000000 in
theorem Mo_isDim_r (N : Nat) (a0 : Int32) (M : mS) {r : Int32} {M' : mS} (d : Nat) (h : Mo_isDim N a0 M = some (r, M')) : mMet mP mTx (d + 4) 229 [.ref 64, .int a0] (mSS M) (some (.int r)) (mSS M') := by
  refine mMet_i ⟨Nat.le_refl _, Nat.le_refl _, Nat.le_of_ble_eq_true rfl⟩ ?_
  unfold Mo_isDim at h
  show mRunF (mCd 229) (mEE (mMet mP mTx (d + 3)) (some .boolean) (some (.int r)) M') (0, [some (.ref 64), some (.int a0)], [], mSS M)
  refine mRunF.sg (mSl mk_229 0 5) (g := (9, [some (.ref 64), some (.int a0)], [.int 28, .ref 96, .int 8, .ref 64], mSS M)) (by decide +kernel) rfl ?_
  refine R_iald (by decide +kernel) rfl rfl ?_
  show mRunF _ _ (10, [some (.ref 64), some (.int a0)], [.int (M.1 96 28), .int 8, .ref 64], mSS M)
  refine mRunF.sg (mSl mk_229 6 4) (g := (15, [some (.ref 64), some (.int a0)], [.int 100, .int ((8 * (M.1 96 28)) + a0), .ref 64], mSS M)) (by decide +kernel) rfl ?_
  obtain ⟨r2, q1, h⟩ := bR_of h
  refine R_callV (mi := 221) (na := 3) (ci := 12) (i := 64) (as := [.int ((8 * (M.1 96 28)) + a0), .int 100]) (r := []) (rv := some (.int r2)) (σ1 := mSS M) ⟨354, by decide +kernel⟩ rfl rfl rfl rfl (Mo_lotOf_r N ((8 * (M.1 96 28)) + a0) 100 M (d + 1) q1) ?_
  show mRunF _ _ (18, [some (.ref 64), some (.int a0)], [.int r2], mSS M)
  refine mRunF.sg (mSl mk_229 11 2) (g := (20, [some (.ref 64), some (.int a0)], [.int a0, .ref 64, .int r2], mSS M)) (by decide +kernel) rfl ?_
  obtain ⟨r5, M4, q3, h⟩ := bW_of h
  refine R_callV (mi := 228) (na := 2) (ci := 12) (i := 64) (as := [.int a0]) (r := [.int r2]) (rv := some (.int r5)) (σ1 := mSS M4) ⟨357, by decide +kernel⟩ rfl rfl rfl rfl (Mo_dimsOf_r N a0 M (d + 0) q3) ?_
  show mRunF _ _ (23, [some (.ref 64), some (.int a0)], [.int r5, .int r2], mSS M4)
  refine R_ige (t := 30) ⟨7, by decide +kernel⟩ (fun q => ?_) (fun q => ?_)
  · rw [if_pos q] at h
    refine mRunF.sg (mSl mk_229 17 1) (g := (31, [some (.ref 64), some (.int a0)], [.int 0], mSS M4)) (by decide +kernel) rfl ?_
    cases h
    exact R_zret (by decide +kernel) (Or.inl rfl)
  · rw [if_neg q] at h
    refine mRunF.sg (mSl mk_229 15 2) (g := (31, [some (.ref 64), some (.int a0)], [.int 1], mSS M4)) (by decide +kernel) rfl ?_
    cases h
    exact R_zret (by decide +kernel) (Or.inr rfl)
set_option maxRecDepth 100000 in
set_option maxHeartbeats 4000000 in
theorem Mo_dial_r (N : Nat) (a0 : Int32) (a1 : Int32) (M : mS) {r : Int32} {M' : mS} (d : Nat) (h : Mo_dial N a0 a1 M = some (r, M')) : mMet mP mTx (d + 5) 239 [.ref 64, .int a0, .int a1] (mSS M) (some (.int r)) (mSS M') := by
  refine mMet_i ⟨Nat.le_refl _, Nat.le_refl _, Nat.le_of_ble_eq_true rfl⟩ ?_
  unfold Mo_dial at h
  show mRunF (mCd 239) (mEE (mMet mP mTx (d + 4)) (some .int) (some (.int r)) M') (0, [some (.ref 64), some (.int a0), some (.int a1)], [], mSS M)
  refine mRunF.sg (mSl mk_239 0 2) (g := (2, [some (.ref 64), some (.int a0), some (.int a1)], [.int a0, .ref 64], mSS M)) (by decide +kernel) rfl ?_
  obtain ⟨r2, q1, h⟩ := bR_of h
  refine R_callV (mi := 212) (na := 2) (ci := 12) (i := 64) (as := [.int a0]) (r := []) (rv := some (.int r2)) (σ1 := mSS M) ⟨394, by decide +kernel⟩ rfl rfl rfl rfl (Mo_isDial_r N a0 M (d + 2) q1) ?_
  have b3 := mBool rfl (Mo_isDial_r N a0 M (d + 2) q1)
  show mRunF _ _ (5, [some (.ref 64), some (.int a0), some (.int a1)], [.int r2], mSS M)
  refine R_ne (t := 10) ⟨5, by decide +kernel⟩ (fun q => ?_) (fun q => ?_)
  · rw [if_pos q] at h
    refine mRunF.sg (mSl mk_239 4 1) (g := (9, [some (.ref 64), some (.int a0), some (.int a1)], [.int (-1)], mSS M)) (by decide +kernel) rfl ?_
    cases h
    exact R_iret (by decide +kernel)
  · rw [if_neg q] at h
    refine mRunF.sg (mSl mk_239 6 1) (g := (11, [some (.ref 64), some (.int a0), some (.int a1)], [.ref 64], mSS M)) (by decide +kernel) rfl ?_
    obtain ⟨M5, q4, h⟩ := bV_of h
    refine R_callV (mi := 218) (na := 1) (ci := 12) (i := 64) (as := []) (r := []) (rv := none) (σ1 := mSS M5) ⟨329, by decide +kernel⟩ rfl rfl rfl rfl (Mo_copies_r N M (d + 3) q4) ?_
    show mRunF _ _ (14, [some (.ref 64), some (.int a0), some (.int a1)], [], mSS M5)
    refine mRunF.sg (mSl mk_239 8 1) (g := (15, [some (.ref 64), some (.int a0), some (.int a1)], [.int a1], mSS M5)) (by decide +kernel) rfl ?_
    by_cases e0 : a1 = 0
    · rw [if_pos e0] at h
      refine R_swc (lo := 0) (hi := 3) (td := 80) (ts := [44, 51, 60, 66]) ⟨65, #[29, 36, 45, 51], by decide +kernel⟩ 0 (by rw [e0]; decide) (by decide) rfl ?_
      refine mRunF.sg (mSl mk_239 10 3) (g := (49, [some (.ref 64), some (.int a0), some (.int a1)], [.int a0, .ref 96], mSS M5)) (by decide +kernel) rfl ?_
      obtain ⟨g6, h⟩ := grd_of h
      refine R_iald (by decide +kernel) rfl g6 ?_
      cases h
      exact R_iret (by decide +kernel)
    rw [if_neg e0] at h
    by_cases e1 : a1 = 1
    · rw [if_pos e1] at h
      refine R_swc (lo := 0) (hi := 3) (td := 80) (ts := [44, 51, 60, 66]) ⟨65, #[29, 36, 45, 51], by decide +kernel⟩ 1 (by rw [e1]; decide) (by decide) rfl ?_
      refine mRunF.sg (mSl mk_239 15 5) (g := (58, [some (.ref 64), some (.int a0), some (.int a1)], [.int (4 + a0), .ref 96], mSS M5)) (by decide +kernel) rfl ?_
      obtain ⟨g7, h⟩ := grd_of h
      refine R_iald (by decide +kernel) rfl g7 ?_
      cases h
      exact R_iret (by decide +kernel)
    rw [if_neg e1] at h
    by_cases e2 : a1 = 2
    · rw [if_pos e2] at h
      refine R_swc (lo := 0) (hi := 3) (td := 80) (ts := [44, 51, 60, 66]) ⟨65, #[29, 36, 45, 51], by decide +kernel⟩ 2 (by rw [e2]; decide) (by decide) rfl ?_
      refine mRunF.sg (mSl mk_239 22 2) (g := (62, [some (.ref 64), some (.int a0), some (.int a1)], [.int a0, .ref 64], mSS M5)) (by decide +kernel) rfl ?_
      obtain ⟨r10, M9, q8, h⟩ := bW_of h
      refine R_callV (mi := 228) (na := 2) (ci := 12) (i := 64) (as := [.int a0]) (r := []) (rv := some (.int r10)) (σ1 := mSS M9) ⟨357, by decide +kernel⟩ rfl rfl rfl rfl (Mo_dimsOf_r N a0 M5 (d + 1) q8) ?_
      show mRunF _ _ (65, [some (.ref 64), some (.int a0), some (.int a1)], [.int r10], mSS M9)
      cases h
      exact R_iret (by decide +kernel)
    rw [if_neg e2] at h
    by_cases e3 : a1 = 3
    · rw [if_pos e3] at h
      refine R_swc (lo := 0) (hi := 3) (td := 80) (ts := [44, 51, 60, 66]) ⟨65, #[29, 36, 45, 51], by decide +kernel⟩ 3 (by rw [e3]; decide) (by decide) rfl ?_
      refine mRunF.sg (mSl mk_239 26 2) (g := (68, [some (.ref 64), some (.int a0), some (.int a1)], [.int a0, .ref 64], mSS M5)) (by decide +kernel) rfl ?_
      obtain ⟨r13, M12, q11, h⟩ := bW_of h
      refine R_callV (mi := 229) (na := 2) (ci := 12) (i := 64) (as := [.int a0]) (r := []) (rv := some (.int r13)) (σ1 := mSS M12) ⟨360, by decide +kernel⟩ rfl rfl rfl rfl (Mo_isDim_r N a0 M5 (d + 0) q11) ?_
      have b14 := mBool rfl (Mo_isDim_r N a0 M5 (d + 0) q11)
      show mRunF _ _ (71, [some (.ref 64), some (.int a0), some (.int a1)], [.int r13], mSS M12)
      refine R_eq (t := 78) ⟨7, by decide +kernel⟩ (fun q => ?_) (fun q => ?_)
      · rw [if_pos q] at h
        refine mRunF.sg (mSl mk_239 32 1) (g := (79, [some (.ref 64), some (.int a0), some (.int a1)], [.int 0], mSS M12)) (by decide +kernel) rfl ?_
        cases h
        exact R_iret (by decide +kernel)
      · rw [if_neg q] at h
        refine mRunF.sg (mSl mk_239 30 2) (g := (79, [some (.ref 64), some (.int a0), some (.int a1)], [.int 1], mSS M12)) (by decide +kernel) rfl ?_
        cases h
        exact R_iret (by decide +kernel)
    rw [if_neg e3] at h
    refine R_swd (lo := 0) (hi := 3) (td := 80) (ts := [44, 51, 60, 66]) ⟨65, #[29, 36, 45, 51], by decide +kernel⟩ (sw_out 0 4 (by decide) (by decide) (fun j hj => by match j, hj with | 0, _ => exact e0 | 1, _ => exact e1 | 2, _ => exact e2 | 3, _ => exact e3 | j + 4, hj => omega)) ?_
    refine mRunF.sg (mSl mk_239 34 1) (g := (81, [some (.ref 64), some (.int a0), some (.int a1)], [.int (-1)], mSS M5)) (by decide +kernel) rfl ?_
    cases h
    exact R_iret (by decide +kernel)
set_option maxRecDepth 100000 in
set_option maxHeartbeats 4000000 in
theorem Mo_isHour_r (N : Nat) (a0 : Int32) (M : mS) {r : Int32} (d : Nat) (h : Mo_isHour N a0 M = some r) : mMet mP mTx (d + 2) 211 [.ref 64, .int a0] (mSS M) (some (.int r)) (mSS M) := by
  refine mMet_i ⟨Nat.le_refl _, Nat.le_refl _, Nat.le_of_ble_eq_true rfl⟩ ?_
  unfold Mo_isHour at h
  show mRunF (mCd 211) (mEE (mMet mP mTx (d + 1)) (some .boolean) (some (.int r)) M) (0, [some (.ref 64), some (.int a0)], [], mSS M)
  refine mRunF.sg (mSl mk_211 0 3) (g := (3, [some (.ref 64), some (.int a0)], [.ref 64, .int 0, .int a0], mSS M)) (by decide +kernel) rfl ?_
  obtain ⟨r2, q1, h⟩ := bR_of h
  refine R_callV (mi := 210) (na := 1) (ci := 12) (i := 64) (as := []) (r := [.int 0, .int a0]) (rv := some (.int r2)) (σ1 := mSS M) ⟨313, by decide +kernel⟩ rfl rfl rfl rfl (Mo_hours_r N M (d + 0) q1) ?_
  show mRunF _ _ (6, [some (.ref 64), some (.int a0)], [.int r2, .int 0, .int a0], mSS M)
  refine mRunF.sg (mSl mk_211 4 2) (g := (8, [some (.ref 64), some (.int a0)], [.int (r2 - 1), .int 0, .int a0], mSS M)) (by decide +kernel) rfl ?_
  refine R_callS (mi := 206) (na := 3) (as := [.int a0, .int 0, .int (r2 - 1)]) (r := []) (rv := some (.int (Mo_in a0 0 (r2 - 1) M))) (σ1 := mSS M) ⟨316, by decide +kernel⟩ rfl rfl rfl (Mo_in_r a0 0 (r2 - 1) M (d + 0)) ?_
  have b3 := mBool rfl (Mo_in_r a0 0 (r2 - 1) M (d + 0))
  show mRunF _ _ (11, [some (.ref 64), some (.int a0)], [.int (Mo_in a0 0 (r2 - 1) M)], mSS M)
  cases h
  exact R_zret (by decide +kernel) b3
set_option maxRecDepth 100000 in
set_option maxHeartbeats 4000000 in
theorem Mo_showsBy_r (N : Nat) (a0 : Int32) (a1 : Int32) (M : mS) {r : Int32} (d : Nat) (h : Mo_showsBy N a0 a1 M = some r) : mMet mP mTx (d + 2) 230 [.ref 64, .int a0, .int a1] (mSS M) (some (.int r)) (mSS M) := by
  refine mMet_i ⟨Nat.le_refl _, Nat.le_refl _, Nat.le_of_ble_eq_true rfl⟩ ?_
  unfold Mo_showsBy at h
  show mRunF (mCd 230) (mEE (mMet mP mTx (d + 1)) (some .int) (some (.int r)) M) (0, [some (.ref 64), some (.int a0), some (.int a1)], [], mSS M)
  refine mRunF.sg (mSl mk_230 0 4) (g := (4, [some (.ref 64), some (.int a0), some (.int a1)], [.ref 64, .int (a1 + a0)], mSS M)) (by decide +kernel) rfl ?_
  obtain ⟨r2, q1, h⟩ := bR_of h
  refine R_callV (mi := 210) (na := 1) (ci := 12) (i := 64) (as := []) (r := [.int (a1 + a0)]) (rv := some (.int r2)) (σ1 := mSS M) ⟨313, by decide +kernel⟩ rfl rfl rfl rfl (Mo_hours_r N M (d + 0) q1) ?_
  show mRunF _ _ (7, [some (.ref 64), some (.int a0), some (.int a1)], [.int r2, .int (a1 + a0)], mSS M)
  obtain ⟨g3, h⟩ := nz_of h
  refine R_rem (by decide +kernel) g3 ?_
  cases h
  exact R_iret (by decide +kernel)
set_option maxRecDepth 100000 in
set_option maxHeartbeats 4000000 in
theorem Mo_shows_r (N : Nat) (a0 : Int32) (a1 : Int32) (M : mS) {r : Int32} (d : Nat) (h : Mo_shows N a0 a1 M = some r) : mMet mP mTx (d + 3) 240 [.ref 64, .int a0, .int a1] (mSS M) (some (.int r)) (mSS M) := by
  refine mMet_i ⟨Nat.le_refl _, Nat.le_refl _, Nat.le_of_ble_eq_true rfl⟩ ?_
  unfold Mo_shows at h
  show mRunF (mCd 240) (mEE (mMet mP mTx (d + 2)) (some .int) (some (.int r)) M) (0, [some (.ref 64), some (.int a0), some (.int a1)], [], mSS M)
  refine mRunF.sg (mSl mk_240 0 2) (g := (2, [some (.ref 64), some (.int a0), some (.int a1)], [.int a0, .ref 64], mSS M)) (by decide +kernel) rfl ?_
  obtain ⟨r2, q1, h⟩ := bR_of h
  refine R_callV (mi := 212) (na := 2) (ci := 12) (i := 64) (as := [.int a0]) (r := []) (rv := some (.int r2)) (σ1 := mSS M) ⟨394, by decide +kernel⟩ rfl rfl rfl rfl (Mo_isDial_r N a0 M (d + 0) q1) ?_
  have b3 := mBool rfl (Mo_isDial_r N a0 M (d + 0) q1)
  show mRunF _ _ (5, [some (.ref 64), some (.int a0), some (.int a1)], [.int r2], mSS M)
  refine R_eq (t := 30) ⟨25, by decide +kernel⟩ (fun q => ?_) (fun q => ?_)
  · rw [if_pos q] at h
    refine mRunF.sg (mSl mk_240 16 1) (g := (31, [some (.ref 64), some (.int a0), some (.int a1)], [.int (-1)], mSS M)) (by decide +kernel) rfl ?_
    cases h
    exact R_iret (by decide +kernel)
  · rw [if_neg q] at h
    refine mRunF.sg (mSl mk_240 4 2) (g := (10, [some (.ref 64), some (.int a0), some (.int a1)], [.int a1, .ref 64], mSS M)) (by decide +kernel) rfl ?_
    obtain ⟨r5, q4, h⟩ := bR_of h
    refine R_callV (mi := 211) (na := 2) (ci := 12) (i := 64) (as := [.int a1]) (r := []) (rv := some (.int r5)) (σ1 := mSS M) ⟨397, by decide +kernel⟩ rfl rfl rfl rfl (Mo_isHour_r N a1 M (d + 0) q4) ?_
    have b6 := mBool rfl (Mo_isHour_r N a1 M (d + 0) q4)
    show mRunF _ _ (13, [some (.ref 64), some (.int a0), some (.int a1)], [.int r5], mSS M)
    refine R_eq (t := 30) ⟨17, by decide +kernel⟩ (fun q => ?_) (fun q => ?_)
    · rw [if_pos q] at h
      refine mRunF.sg (mSl mk_240 16 1) (g := (31, [some (.ref 64), some (.int a0), some (.int a1)], [.int (-1)], mSS M)) (by decide +kernel) rfl ?_
      cases h
      exact R_iret (by decide +kernel)
    · rw [if_neg q] at h
      refine mRunF.sg (mSl mk_240 8 4) (g := (22, [some (.ref 64), some (.int a0), some (.int a1)], [.int a0, .ref 95, .ref 64], mSS M)) (by decide +kernel) rfl ?_
      obtain ⟨g7, h⟩ := grd_of h
      refine R_iald (by decide +kernel) rfl g7 ?_
      refine mRunF.sg (mSl mk_240 13 1) (g := (24, [some (.ref 64), some (.int a0), some (.int a1)], [.int a1, .int (M.1 95 a0.toNatClampNeg), .ref 64], mSS M)) (by decide +kernel) rfl ?_
      obtain ⟨r9, q8, h⟩ := bR_of h
      refine R_callV (mi := 230) (na := 3) (ci := 12) (i := 64) (as := [.int (M.1 95 a0.toNatClampNeg), .int a1]) (r := []) (rv := some (.int r9)) (σ1 := mSS M) ⟨373, by decide +kernel⟩ rfl rfl rfl rfl (Mo_showsBy_r N (M.1 95 a0.toNatClampNeg) a1 M (d + 0) q8) ?_
      show mRunF _ _ (27, [some (.ref 64), some (.int a0), some (.int a1)], [.int r9], mSS M)
      refine mRunF.sg (mSl mk_240 15 1) (g := (31, [some (.ref 64), some (.int a0), some (.int a1)], [.int r9], mSS M)) (by decide +kernel) rfl ?_
      cases h
      exact R_iret (by decide +kernel)
set_option maxRecDepth 100000 in
set_option maxHeartbeats 4000000 in
theorem Mo_isGoer_r (N : Nat) (a0 : Int32) (M : mS) {r : Int32} (d : Nat) (h : Mo_isGoer N a0 M = some r) : mMet mP mTx (d + 2) 213 [.ref 64, .int a0] (mSS M) (some (.int r)) (mSS M) := by
  refine mMet_i ⟨Nat.le_refl _, Nat.le_refl _, Nat.le_of_ble_eq_true rfl⟩ ?_
  unfold Mo_isGoer at h
  show mRunF (mCd 213) (mEE (mMet mP mTx (d + 1)) (some .boolean) (some (.int r)) M) (0, [some (.ref 64), some (.int a0)], [], mSS M)
  refine mRunF.sg (mSl mk_213 0 6) (g := (10, [some (.ref 64), some (.int a0)], [.int (M.1 64 18), .ref 78, .int 0, .int a0], mSS M)) (by decide +kernel) rfl ?_
  obtain ⟨g1, h⟩ := grd_of h
  refine R_iald (by decide +kernel) rfl g1 ?_
  refine mRunF.sg (mSl mk_213 7 2) (g := (13, [some (.ref 64), some (.int a0)], [.int ((M.1 78 (M.1 64 18).toNatClampNeg) - 1), .int 0, .int a0], mSS M)) (by decide +kernel) rfl ?_
  refine R_callS (mi := 206) (na := 3) (as := [.int a0, .int 0, .int ((M.1 78 (M.1 64 18).toNatClampNeg) - 1)]) (r := []) (rv := some (.int (Mo_in a0 0 ((M.1 78 (M.1 64 18).toNatClampNeg) - 1) M))) (σ1 := mSS M) ⟨316, by decide +kernel⟩ rfl rfl rfl (Mo_in_r a0 0 ((M.1 78 (M.1 64 18).toNatClampNeg) - 1) M (d + 0)) ?_
  have b2 := mBool rfl (Mo_in_r a0 0 ((M.1 78 (M.1 64 18).toNatClampNeg) - 1) M (d + 0))
  show mRunF _ _ (16, [some (.ref 64), some (.int a0)], [.int (Mo_in a0 0 ((M.1 78 (M.1 64 18).toNatClampNeg) - 1) M)], mSS M)
  cases h
  exact R_zret (by decide +kernel) b2
