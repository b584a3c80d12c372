/-! METHODS as functions, 10: printed by program -/
set_option maxRecDepth 100000 in
set_option maxHeartbeats 4000000 in
theorem Mo_fromAt_r (N : Nat) (a0 : Int32) (M : mS) {r : Int32} (d : Nat) (h : Mo_fromAt N a0 M = some r) : mMet mP mTx (d + 2) 215 [.ref 64, .int a0] (mSS M) (some (.int r)) (mSS M) := by
  refine mMet_i ⟨Nat.le_refl _, Nat.le_refl _, Nat.le_of_ble_eq_true rfl⟩ ?_
  unfold Mo_fromAt at h
  show mRunF (mCd 215) (mEE (mMet mP mTx (d + 1)) (some .int) (some (.int r)) M) (0, [some (.ref 64), some (.int a0)], [], mSS M)
  refine mRunF.sg (mSl mk_215 0 8) (g := (12, [some (.ref 64), some (.int a0)], [.int ((5 * (M.1 64 18)) + a0), .ref 80], mSS M)) (by decide +kernel) rfl ?_
  obtain ⟨g1, h⟩ := grd_of h
  refine R_iald (by decide +kernel) rfl g1 ?_
  refine mRunF.sg (mSl mk_215 9 1) (g := (14, [some (.ref 64), some (.int a0)], [.ref 64, .int (M.1 80 ((5 * (M.1 64 18)) + a0).toNatClampNeg)], mSS M)) (by decide +kernel) rfl ?_
  obtain ⟨r3, q2, h⟩ := bR_of h
  refine R_callV (mi := 210) (na := 1) (ci := 12) (i := 64) (as := []) (r := [.int (M.1 80 ((5 * (M.1 64 18)) + a0).toNatClampNeg)]) (rv := some (.int r3)) (σ1 := mSS M) ⟨313, by decide +kernel⟩ rfl rfl rfl rfl (Mo_hours_r N M (d + 0) q2) ?_
  show mRunF _ _ (17, [some (.ref 64), some (.int a0)], [.int r3, .int (M.1 80 ((5 * (M.1 64 18)) + a0).toNatClampNeg)], mSS M)
  obtain ⟨g4, h⟩ := nz_of h
  refine R_rem (by decide +kernel) g4 ?_
  cases h
  exact R_iret (by decide +kernel)
set_option maxRecDepth 100000 in
set_option maxHeartbeats 4000000 in
theorem Mo_looksBy_r (N : Nat) (a0 : Int32) (M : mS) {M' : mS} (d : Nat) (h : Mo_looksBy N a0 M = some M') : mMet mP mTx (d + 3) 224 [.ref 64, .int a0] (mSS M) none (mSS M') := by
  refine mMet_i ⟨Nat.le_refl _, Nat.le_refl _, Nat.le_of_ble_eq_true rfl⟩ ?_
  unfold Mo_looksBy at h
  show mRunF (mCd 224) (mEE (mMet mP mTx (d + 2)) (none) none M') (0, [some (.ref 64), some (.int a0)], [], mSS M)
  refine mRunF.sg (mSl mk_224 0 6) (g := (9, [some (.ref 64), some (.int a0)], [.int (8 + a0), .ref 96, .ref 64], mSS M)) (by decide +kernel) rfl ?_
  obtain ⟨g1, h⟩ := grd_of h
  refine R_iald (by decide +kernel) rfl g1 ?_
  obtain ⟨M3, q2, h⟩ := bV_of h
  refine R_callV (mi := 223) (na := 2) (ci := 12) (i := 64) (as := [.int (M.1 96 (8 + a0).toNatClampNeg)]) (r := []) (rv := none) (σ1 := mSS M3) ⟨339, by decide +kernel⟩ rfl rfl rfl rfl (Mo_looks_r N (M.1 96 (8 + a0).toNatClampNeg) M (d + 0) q2) ?_
  show mRunF _ _ (13, [some (.ref 64), some (.int a0)], [], mSS M3)
  refine mRunF.sg (mSl mk_224 8 5) (g := (20, [some (.ref 64), some (.int a0)], [.int a0, .ref 64, .int 3, .ref 93], mSS M3)) (by decide +kernel) rfl ?_
  obtain ⟨r5, q4, h⟩ := bR_of h
  refine R_callV (mi := 215) (na := 2) (ci := 12) (i := 64) (as := [.int a0]) (r := [.int 3, .ref 93]) (rv := some (.int r5)) (σ1 := mSS M3) ⟨342, by decide +kernel⟩ rfl rfl rfl rfl (Mo_fromAt_r N a0 M3 (d + 0) q4) ?_
  show mRunF _ _ (23, [some (.ref 64), some (.int a0)], [.int r5, .int 3, .ref 93], mSS M3)
  refine R_iast (by decide +kernel) rfl rfl ?_
  show mRunF _ _ (_, _, _, mSS (mWI M3 93 3 r5))
  obtain ⟨M6, hv, h⟩ := nxt_ex h
  rw [← hv]
  clear hv
  refine mRunF.sg (mSl mk_224 15 11) (g := (41, [some (.ref 64), some (.int a0)], [.int ((5 * (M6.1 64 18)) + a0), .ref 81, .int 4, .ref 93], mSS M6)) (by decide +kernel) rfl ?_
  obtain ⟨g7, h⟩ := grd_of h
  refine R_iald (by decide +kernel) rfl g7 ?_
  refine R_iast (by decide +kernel) rfl rfl ?_
  show mRunF _ _ (_, _, _, mSS (mWI M6 93 4 (M6.1 81 ((5 * (M6.1 64 18)) + a0).toNatClampNeg)))
  obtain ⟨M8, hv, h⟩ := nxt_ex h
  rw [← hv]
  clear hv
  refine mRunF.sg (mSl mk_224 28 8) (g := (56, [some (.ref 64), some (.int a0)], [.int (13 + a0), .ref 96, .int 5, .ref 93], mSS M8)) (by decide +kernel) rfl ?_
  obtain ⟨g9, h⟩ := grd_of h
  refine R_iald (by decide +kernel) rfl g9 ?_
  refine R_iast (by decide +kernel) rfl rfl ?_
  show mRunF _ _ (_, _, _, mSS (mWI M8 93 5 (M8.1 96 (13 + a0).toNatClampNeg)))
  obtain ⟨M10, hv, h⟩ := nxt_ex h
  rw [← hv]
  clear hv
  refine mRunF.sg (mSl mk_224 38 4) (g := (65, [some (.ref 64), some (.int a0)], [.int a0, .int 6, .ref 93], mSS M10)) (by decide +kernel) rfl ?_
  refine R_iast (by decide +kernel) rfl rfl ?_
  show mRunF _ _ (_, _, _, mSS (mWI M10 93 6 a0))
  obtain ⟨M11, hv, h⟩ := nxt_ex h
  rw [← hv]
  clear hv
  cases h
  exact R_vret (by decide +kernel)
set_option maxRecDepth 100000 in
set_option maxHeartbeats 4000000 in
theorem Mo_worthOf_r (N : Nat) (a0 : Int32) (M : mS) {r : Int32} {M' : mS} (d : Nat) (h : Mo_worthOf N a0 M = some (r, M')) : mMet mP mTx (d + 4) 227 [.ref 64, .int a0] (mSS M) (some (.int r)) (mSS M') := by
  refine mMet_i ⟨Nat.le_refl _, Nat.le_refl _, Nat.le_of_ble_eq_true rfl⟩ ?_
  unfold Mo_worthOf at h
  show mRunF (mCd 227) (mEE (mMet mP mTx (d + 3)) (some .int) (some (.int r)) M') (0, [some (.ref 64), some (.int a0)], [], mSS M)
  refine mRunF.sg (mSl mk_227 0 2) (g := (2, [some (.ref 64), some (.int a0)], [.int a0, .ref 64], mSS M)) (by decide +kernel) rfl ?_
  obtain ⟨M2, q1, h⟩ := bV_of h
  refine R_callV (mi := 224) (na := 2) (ci := 12) (i := 64) (as := [.int a0]) (r := []) (rv := none) (σ1 := mSS M2) ⟨345, by decide +kernel⟩ rfl rfl rfl rfl (Mo_looksBy_r N a0 M (d + 0) q1) ?_
  show mRunF _ _ (5, [some (.ref 64), some (.int a0)], [], mSS M2)
  refine mRunF.sg (mSl mk_227 3 3) (g := (8, [some (.ref 64), some (.int a0)], [.int 1, .int 2, .ref 64], mSS M2)) (by decide +kernel) rfl ?_
  obtain ⟨r5, M4, q3, h⟩ := bW_of h
  refine R_callV (mi := 222) (na := 3) (ci := 12) (i := 64) (as := [.int 2, .int 1]) (r := []) (rv := some (.int r5)) (σ1 := mSS M4) ⟨348, by decide +kernel⟩ rfl rfl rfl rfl (Mo_lawTells_r N 2 1 M2 (d + 1) q3) ?_
  show mRunF _ _ (11, [some (.ref 64), some (.int a0)], [.int r5], mSS M4)
  refine mRunF.sg (mSl mk_227 7 2) (g := (14, [some (.ref 64), some (.int a0)], [.int 99, .int 0, .int r5], mSS M4)) (by decide +kernel) rfl ?_
  refine R_callS (mi := 207) (na := 3) (as := [.int r5, .int 0, .int 99]) (r := []) (rv := some (.int (Mo_within r5 0 99 M4))) (σ1 := mSS M4) ⟨351, by decide +kernel⟩ rfl rfl rfl (Mo_within_r r5 0 99 M4 (d + 2)) ?_
  show mRunF _ _ (17, [some (.ref 64), some (.int a0)], [.int (Mo_within r5 0 99 M4)], mSS M4)
  cases h
  exact R_iret (by decide +kernel)
set_option maxRecDepth 100000 in
set_option maxHeartbeats 4000000 in
theorem Mo_staysOf_r (N : Nat) (a0 : Int32) (M : mS) {r : Int32} {M' : mS} (d : Nat) (h : Mo_staysOf N a0 M = some (r, M')) : mMet mP mTx (d + 4) 226 [.ref 64, .int a0] (mSS M) (some (.int r)) (mSS M') := by
  refine mMet_i ⟨Nat.le_refl _, Nat.le_refl _, Nat.le_of_ble_eq_true rfl⟩ ?_
  unfold Mo_staysOf at h
  show mRunF (mCd 226) (mEE (mMet mP mTx (d + 3)) (some .int) (some (.int r)) M') (0, [some (.ref 64), some (.int a0)], [], mSS M)
  refine mRunF.sg (mSl mk_226 0 2) (g := (2, [some (.ref 64), some (.int a0)], [.int a0, .ref 64], mSS M)) (by decide +kernel) rfl ?_
  obtain ⟨M2, q1, h⟩ := bV_of h
  refine R_callV (mi := 224) (na := 2) (ci := 12) (i := 64) (as := [.int a0]) (r := []) (rv := none) (σ1 := mSS M2) ⟨345, by decide +kernel⟩ rfl rfl rfl rfl (Mo_looksBy_r N a0 M (d + 0) q1) ?_
  show mRunF _ _ (5, [some (.ref 64), some (.int a0)], [], mSS M2)
  refine mRunF.sg (mSl mk_226 3 5) (g := (12, [some (.ref 64), some (.int a0)], [.int 4, .ref 93, .int 1, .ref 64], mSS M2)) (by decide +kernel) rfl ?_
  refine R_iald (by decide +kernel) rfl rfl ?_
  show mRunF _ _ (13, [some (.ref 64), some (.int a0)], [.int (M2.1 93 4), .int 1, .ref 64], mSS M2)
  obtain ⟨r5, M4, q3, h⟩ := bW_of h
  refine R_callV (mi := 222) (na := 3) (ci := 12) (i := 64) (as := [.int 1, .int (M2.1 93 4)]) (r := []) (rv := some (.int r5)) (σ1 := mSS M4) ⟨348, by decide +kernel⟩ rfl rfl rfl rfl (Mo_lawTells_r N 1 (M2.1 93 4) M2 (d + 1) q3) ?_
  show mRunF _ _ (16, [some (.ref 64), some (.int a0)], [.int r5], mSS M4)
  refine mRunF.sg (mSl mk_226 10 2) (g := (18, [some (.ref 64), some (.int a0)], [.ref 64, .int 0, .int r5], mSS M4)) (by decide +kernel) rfl ?_
  obtain ⟨r7, q6, h⟩ := bR_of h
  refine R_callV (mi := 210) (na := 1) (ci := 12) (i := 64) (as := []) (r := [.int 0, .int r5]) (rv := some (.int r7)) (σ1 := mSS M4) ⟨313, by decide +kernel⟩ rfl rfl rfl rfl (Mo_hours_r N M4 (d + 2) q6) ?_
  show mRunF _ _ (21, [some (.ref 64), some (.int a0)], [.int r7, .int 0, .int r5], mSS M4)
  refine R_callS (mi := 207) (na := 3) (as := [.int r5, .int 0, .int r7]) (r := []) (rv := some (.int (Mo_within r5 0 r7 M4))) (σ1 := mSS M4) ⟨351, by decide +kernel⟩ rfl rfl rfl (Mo_within_r r5 0 r7 M4 (d + 2)) ?_
  show mRunF _ _ (24, [some (.ref 64), some (.int a0)], [.int (Mo_within r5 0 r7 M4)], mSS M4)
  cases h
  exact R_iret (by decide +kernel)
set_option maxRecDepth 100000 in
set_option maxHeartbeats 4000000 in
theorem Mo_doesCome_r (N : Nat) (a0 : Int32) (M : mS) {r : Int32} {M' : mS} (d : Nat) (h : Mo_doesCome N a0 M = some (r, M')) : mMet mP mTx (d + 4) 225 [.ref 64, .int a0] (mSS M) (some (.int r)) (mSS M') := by
  refine mMet_i ⟨Nat.le_refl _, Nat.le_refl _, Nat.le_of_ble_eq_true rfl⟩ ?_
  unfold Mo_doesCome at h
  show mRunF (mCd 225) (mEE (mMet mP mTx (d + 3)) (some .boolean) (some (.int r)) M') (0, [some (.ref 64), some (.int a0)], [], mSS M)
  refine mRunF.sg (mSl mk_225 0 2) (g := (2, [some (.ref 64), some (.int a0)], [.int a0, .ref 64], mSS M)) (by decide +kernel) rfl ?_
  obtain ⟨M2, q1, h⟩ := bV_of h
  refine R_callV (mi := 224) (na := 2) (ci := 12) (i := 64) (as := [.int a0]) (r := []) (rv := none) (σ1 := mSS M2) ⟨345, by decide +kernel⟩ rfl rfl rfl rfl (Mo_looksBy_r N a0 M (d + 0) q1) ?_
  show mRunF _ _ (5, [some (.ref 64), some (.int a0)], [], mSS M2)
  refine mRunF.sg (mSl mk_225 3 3) (g := (8, [some (.ref 64), some (.int a0)], [.int 1, .int 0, .ref 64], mSS M2)) (by decide +kernel) rfl ?_
  obtain ⟨r5, M4, q3, h⟩ := bW_of h
  refine R_callV (mi := 222) (na := 3) (ci := 12) (i := 64) (as := [.int 0, .int 1]) (r := []) (rv := some (.int r5)) (σ1 := mSS M4) ⟨348, by decide +kernel⟩ rfl rfl rfl rfl (Mo_lawTells_r N 0 1 M2 (d + 1) q3) ?_
  show mRunF _ _ (11, [some (.ref 64), some (.int a0)], [.int r5], mSS M4)
  refine R_le (t := 18) ⟨7, by decide +kernel⟩ (fun q => ?_) (fun q => ?_)
  · rw [if_pos q] at h
    refine mRunF.sg (mSl mk_225 10 1) (g := (19, [some (.ref 64), some (.int a0)], [.int 0], mSS M4)) (by decide +kernel) rfl ?_
    cases h
    exact R_zret (by decide +kernel) (Or.inl rfl)
  · rw [if_neg q] at h
    refine mRunF.sg (mSl mk_225 8 2) (g := (19, [some (.ref 64), some (.int a0)], [.int 1], mSS M4)) (by decide +kernel) rfl ?_
    cases h
    exact R_zret (by decide +kernel) (Or.inr rfl)
set_option maxRecDepth 100000 in
set_option maxHeartbeats 4000000 in
theorem Mo_goer_r (N : Nat) (a0 : Int32) (a1 : Int32) (M : mS) {r : Int32} {M' : mS} (d : Nat) (h : Mo_goer N a0 a1 M = some (r, M')) : mMet mP mTx (d + 5) 241 [.ref 64, .int a0, .int a1] (mSS M) (some (.int r)) (mSS M') := by
  refine mMet_i ⟨Nat.le_refl _, Nat.le_refl _, Nat.le_of_ble_eq_true rfl⟩ ?_
  unfold Mo_goer at h
  show mRunF (mCd 241) (mEE (mMet mP mTx (d + 4)) (some .int) (some (.int r)) M') (0, [some (.ref 64), some (.int a0), some (.int a1)], [], mSS M)
  refine mRunF.sg (mSl mk_241 0 2) (g := (2, [some (.ref 64), some (.int a0), some (.int a1)], [.int a0, .ref 64], mSS M)) (by decide +kernel) rfl ?_
  obtain ⟨r2, q1, h⟩ := bR_of h
  refine R_callV (mi := 213) (na := 2) (ci := 12) (i := 64) (as := [.int a0]) (r := []) (rv := some (.int r2)) (σ1 := mSS M) ⟨320, by decide +kernel⟩ rfl rfl rfl rfl (Mo_isGoer_r N a0 M (d + 2) q1) ?_
  have b3 := mBool rfl (Mo_isGoer_r N a0 M (d + 2) q1)
  show mRunF _ _ (5, [some (.ref 64), some (.int a0), some (.int a1)], [.int r2], mSS M)
  refine R_ne (t := 10) ⟨5, by decide +kernel⟩ (fun q => ?_) (fun q => ?_)
  · rw [if_pos q] at h
    refine mRunF.sg (mSl mk_241 4 1) (g := (9, [some (.ref 64), some (.int a0), some (.int a1)], [.int (-1)], mSS M)) (by decide +kernel) rfl ?_
    cases h
    exact R_iret (by decide +kernel)
  · rw [if_neg q] at h
    refine mRunF.sg (mSl mk_241 6 1) (g := (11, [some (.ref 64), some (.int a0), some (.int a1)], [.ref 64], mSS M)) (by decide +kernel) rfl ?_
    obtain ⟨M5, q4, h⟩ := bV_of h
    refine R_callV (mi := 218) (na := 1) (ci := 12) (i := 64) (as := []) (r := []) (rv := none) (σ1 := mSS M5) ⟨329, by decide +kernel⟩ rfl rfl rfl rfl (Mo_copies_r N M (d + 3) q4) ?_
    show mRunF _ _ (14, [some (.ref 64), some (.int a0), some (.int a1)], [], mSS M5)
    refine mRunF.sg (mSl mk_241 8 1) (g := (15, [some (.ref 64), some (.int a0), some (.int a1)], [.int a1], mSS M5)) (by decide +kernel) rfl ?_
    by_cases e0 : a1 = 0
    · rw [if_pos e0] at h
      refine R_swc (lo := 0) (hi := 6) (td := 122) (ts := [56, 66, 72, 86, 100, 106, 112]) ⟨107, #[41, 51, 57, 71, 85, 91, 97], by decide +kernel⟩ 0 (by rw [e0]; decide) (by decide) rfl ?_
      refine mRunF.sg (mSl mk_241 10 5) (g := (64, [some (.ref 64), some (.int a0), some (.int a1)], [.int (8 + a0), .ref 96], mSS M5)) (by decide +kernel) rfl ?_
      obtain ⟨g6, h⟩ := grd_of h
      refine R_iald (by decide +kernel) rfl g6 ?_
      cases h
      exact R_iret (by decide +kernel)
    rw [if_neg e0] at h
    by_cases e1 : a1 = 1
    · rw [if_pos e1] at h
      refine R_swc (lo := 0) (hi := 6) (td := 122) (ts := [56, 66, 72, 86, 100, 106, 112]) ⟨107, #[41, 51, 57, 71, 85, 91, 97], by decide +kernel⟩ 1 (by rw [e1]; decide) (by decide) rfl ?_
      refine mRunF.sg (mSl mk_241 17 2) (g := (68, [some (.ref 64), some (.int a0), some (.int a1)], [.int a0, .ref 64], mSS M5)) (by decide +kernel) rfl ?_
      obtain ⟨r8, q7, h⟩ := bR_of h
      refine R_callV (mi := 215) (na := 2) (ci := 12) (i := 64) (as := [.int a0]) (r := []) (rv := some (.int r8)) (σ1 := mSS M5) ⟨342, by decide +kernel⟩ rfl rfl rfl rfl (Mo_fromAt_r N a0 M5 (d + 2) q7) ?_
      show mRunF _ _ (71, [some (.ref 64), some (.int a0), some (.int a1)], [.int r8], mSS M5)
      cases h
      exact R_iret (by decide +kernel)
    rw [if_neg e1] at h
    by_cases e2 : a1 = 2
    · rw [if_pos e2] at h
      refine R_swc (lo := 0) (hi := 6) (td := 122) (ts := [56, 66, 72, 86, 100, 106, 112]) ⟨107, #[41, 51, 57, 71, 85, 91, 97], by decide +kernel⟩ 2 (by rw [e2]; decide) (by decide) rfl ?_
      refine mRunF.sg (mSl mk_241 21 8) (g := (84, [some (.ref 64), some (.int a0), some (.int a1)], [.int ((5 * (M5.1 64 18)) + a0), .ref 81], mSS M5)) (by decide +kernel) rfl ?_
      obtain ⟨g9, h⟩ := grd_of h
      refine R_iald (by decide +kernel) rfl g9 ?_
      cases h
      exact R_iret (by decide +kernel)
    rw [if_neg e2] at h
    by_cases e3 : a1 = 3
    · rw [if_pos e3] at h
      refine R_swc (lo := 0) (hi := 6) (td := 122) (ts := [56, 66, 72, 86, 100, 106, 112]) ⟨107, #[41, 51, 57, 71, 85, 91, 97], by decide +kernel⟩ 3 (by rw [e3]; decide) (by decide) rfl ?_
      refine mRunF.sg (mSl mk_241 31 2) (g := (88, [some (.ref 64), some (.int a0), some (.int a1)], [.int a0, .ref 64], mSS M5)) (by decide +kernel) rfl ?_
      obtain ⟨r12, M11, q10, h⟩ := bW_of h
      refine R_callV (mi := 225) (na := 2) (ci := 12) (i := 64) (as := [.int a0]) (r := []) (rv := some (.int r12)) (σ1 := mSS M11) ⟨364, by decide +kernel⟩ rfl rfl rfl rfl (Mo_doesCome_r N a0 M5 (d + 0) q10) ?_
      have b13 := mBool rfl (Mo_doesCome_r N a0 M5 (d + 0) q10)
      show mRunF _ _ (91, [some (.ref 64), some (.int a0), some (.int a1)], [.int r12], mSS M11)
      refine R_eq (t := 98) ⟨7, by decide +kernel⟩ (fun q => ?_) (fun q => ?_)
      · rw [if_pos q] at h
        refine mRunF.sg (mSl mk_241 37 1) (g := (99, [some (.ref 64), some (.int a0), some (.int a1)], [.int 0], mSS M11)) (by decide +kernel) rfl ?_
        cases h
        exact R_iret (by decide +kernel)
      · rw [if_neg q] at h
        refine mRunF.sg (mSl mk_241 35 2) (g := (99, [some (.ref 64), some (.int a0), some (.int a1)], [.int 1], mSS M11)) (by decide +kernel) rfl ?_
        cases h
        exact R_iret (by decide +kernel)
    rw [if_neg e3] at h
    by_cases e4 : a1 = 4
    · rw [if_pos e4] at h
      refine R_swc (lo := 0) (hi := 6) (td := 122) (ts := [56, 66, 72, 86, 100, 106, 112]) ⟨107, #[41, 51, 57, 71, 85, 91, 97], by decide +kernel⟩ 4 (by rw [e4]; decide) (by decide) rfl ?_
      refine mRunF.sg (mSl mk_241 39 2) (g := (102, [some (.ref 64), some (.int a0), some (.int a1)], [.int a0, .ref 64], mSS M5)) (by decide +kernel) rfl ?_
      obtain ⟨r16, M15, q14, h⟩ := bW_of h
      refine R_callV (mi := 226) (na := 2) (ci := 12) (i := 64) (as := [.int a0]) (r := []) (rv := some (.int r16)) (σ1 := mSS M15) ⟨367, by decide +kernel⟩ rfl rfl rfl rfl (Mo_staysOf_r N a0 M5 (d + 0) q14) ?_
      show mRunF _ _ (105, [some (.ref 64), some (.int a0), some (.int a1)], [.int r16], mSS M15)
      cases h
      exact R_iret (by decide +kernel)
    rw [if_neg e4] at h
    by_cases e5 : a1 = 5
    · rw [if_pos e5] at h
      refine R_swc (lo := 0) (hi := 6) (td := 122) (ts := [56, 66, 72, 86, 100, 106, 112]) ⟨107, #[41, 51, 57, 71, 85, 91, 97], by decide +kernel⟩ 5 (by rw [e5]; decide) (by decide) rfl ?_
      refine mRunF.sg (mSl mk_241 43 2) (g := (108, [some (.ref 64), some (.int a0), some (.int a1)], [.int a0, .ref 64], mSS M5)) (by decide +kernel) rfl ?_
      obtain ⟨r19, M18, q17, h⟩ := bW_of h
      refine R_callV (mi := 227) (na := 2) (ci := 12) (i := 64) (as := [.int a0]) (r := []) (rv := some (.int r19)) (σ1 := mSS M18) ⟨400, by decide +kernel⟩ rfl rfl rfl rfl (Mo_worthOf_r N a0 M5 (d + 0) q17) ?_
      show mRunF _ _ (111, [some (.ref 64), some (.int a0), some (.int a1)], [.int r19], mSS M18)
      cases h
      exact R_iret (by decide +kernel)
    rw [if_neg e5] at h
    by_cases e6 : a1 = 6
    · rw [if_pos e6] at h
      refine R_swc (lo := 0) (hi := 6) (td := 122) (ts := [56, 66, 72, 86, 100, 106, 112]) ⟨107, #[41, 51, 57, 71, 85, 91, 97], by decide +kernel⟩ 6 (by rw [e6]; decide) (by decide) rfl ?_
      refine mRunF.sg (mSl mk_241 47 5) (g := (120, [some (.ref 64), some (.int a0), some (.int a1)], [.int (13 + a0), .ref 96], mSS M5)) (by decide +kernel) rfl ?_
      obtain ⟨g20, h⟩ := grd_of h
      refine R_iald (by decide +kernel) rfl g20 ?_
      cases h
      exact R_iret (by decide +kernel)
    rw [if_neg e6] at h
    refine R_swd (lo := 0) (hi := 6) (td := 122) (ts := [56, 66, 72, 86, 100, 106, 112]) ⟨107, #[41, 51, 57, 71, 85, 91, 97], by decide +kernel⟩ (sw_out 0 7 (by decide) (by decide) (fun j hj => by match j, hj with | 0, _ => exact e0 | 1, _ => exact e1 | 2, _ => exact e2 | 3, _ => exact e3 | 4, _ => exact e4 | 5, _ => exact e5 | 6, _ => exact e6 | j + 7, hj => omega)) ?_
    refine mRunF.sg (mSl mk_241 54 1) (g := (123, [some (.ref 64), some (.int a0), some (.int a1)], [.int (-1)], mSS M5)) (by decide +kernel) rfl ?_
    cases h
    exact R_iret (by decide +kernel)
set_option maxRecDepth 100000 in
set_option maxHeartbeats 4000000 in
theorem Mo_areTwo_r (N : Nat) (a0 : Int32) (a1 : Int32) (M : mS) {r : Int32} (d : Nat) (h : Mo_areTwo N a0 a1 M = some r) : mMet mP mTx (d + 3) 214 [.ref 64, .int a0, .int a1] (mSS M) (some (.int r)) (mSS M) := by
  refine mMet_i ⟨Nat.le_refl _, Nat.le_refl _, Nat.le_of_ble_eq_true rfl⟩ ?_
  unfold Mo_areTwo at h
  show mRunF (mCd 214) (mEE (mMet mP mTx (d + 2)) (some .boolean) (some (.int r)) M) (0, [some (.ref 64), some (.int a0), some (.int a1)], [], mSS M)
  refine mRunF.sg (mSl mk_214 0 2) (g := (2, [some (.ref 64), some (.int a0), some (.int a1)], [.int a0, .ref 64], mSS M)) (by decide +kernel) rfl ?_
  obtain ⟨r2, q1, h⟩ := bR_of h
  refine R_callV (mi := 213) (na := 2) (ci := 12) (i := 64) (as := [.int a0]) (r := []) (rv := some (.int r2)) (σ1 := mSS M) ⟨320, by decide +kernel⟩ rfl rfl rfl rfl (Mo_isGoer_r N a0 M (d + 0) q1) ?_
  have b3 := mBool rfl (Mo_isGoer_r N a0 M (d + 0) q1)
  show mRunF _ _ (5, [some (.ref 64), some (.int a0), some (.int a1)], [.int r2], mSS M)
  refine R_eq (t := 25) ⟨20, by decide +kernel⟩ (fun q => ?_) (fun q => ?_)
  · rw [if_pos q] at h
    refine mRunF.sg (mSl mk_214 13 1) (g := (26, [some (.ref 64), some (.int a0), some (.int a1)], [.int 0], mSS M)) (by decide +kernel) rfl ?_
    cases h
    exact R_zret (by decide +kernel) (Or.inl rfl)
  · rw [if_neg q] at h
    refine mRunF.sg (mSl mk_214 4 2) (g := (10, [some (.ref 64), some (.int a0), some (.int a1)], [.int a1, .ref 64], mSS M)) (by decide +kernel) rfl ?_
    obtain ⟨r5, q4, h⟩ := bR_of h
    refine R_callV (mi := 213) (na := 2) (ci := 12) (i := 64) (as := [.int a1]) (r := []) (rv := some (.int r5)) (σ1 := mSS M) ⟨320, by decide +kernel⟩ rfl rfl rfl rfl (Mo_isGoer_r N a1 M (d + 0) q4) ?_
    have b6 := mBool rfl (Mo_isGoer_r N a1 M (d + 0) q4)
    show mRunF _ _ (13, [some (.ref 64), some (.int a0), some (.int a1)], [.int r5], mSS M)
    refine R_eq (t := 25) ⟨12, by decide +kernel⟩ (fun q => ?_) (fun q => ?_)
    · rw [if_pos q] at h
      refine mRunF.sg (mSl mk_214 13 1) (g := (26, [some (.ref 64), some (.int a0), some (.int a1)], [.int 0], mSS M)) (by decide +kernel) rfl ?_
      cases h
      exact R_zret (by decide +kernel) (Or.inl rfl)
    · rw [if_neg q] at h
      refine mRunF.sg (mSl mk_214 8 2) (g := (18, [some (.ref 64), some (.int a0), some (.int a1)], [.int a1, .int a0], mSS M)) (by decide +kernel) rfl ?_
      refine R_ieq (t := 25) ⟨7, by decide +kernel⟩ (fun q => ?_) (fun q => ?_)
      · rw [if_pos q] at h
        refine mRunF.sg (mSl mk_214 13 1) (g := (26, [some (.ref 64), some (.int a0), some (.int a1)], [.int 0], mSS M)) (by decide +kernel) rfl ?_
        cases h
        exact R_zret (by decide +kernel) (Or.inl rfl)
      · rw [if_neg q] at h
        refine mRunF.sg (mSl mk_214 11 2) (g := (26, [some (.ref 64), some (.int a0), some (.int a1)], [.int 1], mSS M)) (by decide +kernel) rfl ?_
        cases h
        exact R_zret (by decide +kernel) (Or.inr rfl)
set_option maxRecDepth 100000 in
set_option maxHeartbeats 4000000 in
theorem Mo_pairAt_21_r {d : Nat}  {M : mS} {x2 : Int32} {z0 : Int32} {r : Int32} (h : Mo_pairAt_21 M x2 z0 = r) : mRunF (mCd 209) (mEE (mMet mP mTx (d + 0)) (some .int) (some (.int r)) M) (21, [none, none, some (.int x2), none], [.int z0], mSS M) := by
  unfold Mo_pairAt_21 at h
  refine mRunF.sg (mSl mk_209 13 7) (g := (29, [none, none, some (.int x2), some (.int z0)], [.int 2, .int (x2 * (9 - x2))], mSS M)) (by decide +kernel) rfl ?_
  refine R_div (by decide +kernel) (by decide) ?_
  refine mRunF.sg (mSl mk_209 21 6) (g := (36, [none, none, some (.int x2), some (.int z0)], [.int (((((x2 * (9 - x2)) / 2) + z0) - x2) - 1)], mSS M)) (by decide +kernel) rfl ?_
  subst h
  exact R_iret (by decide +kernel)
set_option maxRecDepth 100000 in
set_option maxHeartbeats 4000000 in
theorem Mo_pairAt_10_r {d : Nat}  {M : mS} {x0 : Int32} {x1 : Int32} {z0 : Int32} {r : Int32} (h : Mo_pairAt_10 M x0 x1 z0 = r) : mRunF (mCd 209) (mEE (mMet mP mTx (d + 0)) (some .int) (some (.int r)) M) (10, [some (.int x0), some (.int x1), none, none], [.int z0], mSS M) := by
  unfold Mo_pairAt_10 at h
  refine mRunF.sg (mSl mk_209 6 3) (g := (13, [some (.int x0), some (.int x1), some (.int z0), none], [.int x1, .int x0], mSS M)) (by decide +kernel) rfl ?_
  refine R_ige (t := 20) ⟨7, by decide +kernel⟩ (fun q => ?_) (fun q => ?_)
  · rw [if_pos q] at h
    refine mRunF.sg (mSl mk_209 12 1) (g := (21, [some (.int x0), some (.int x1), some (.int z0), none], [.int x0], mSS M)) (by decide +kernel) rfl ?_
    refine mRunF.forget [false, false, true, true] ?_
    exact Mo_pairAt_21_r h
  · rw [if_neg q] at h
    refine mRunF.sg (mSl mk_209 10 2) (g := (21, [some (.int x0), some (.int x1), some (.int z0), none], [.int x1], mSS M)) (by decide +kernel) rfl ?_
    refine mRunF.forget [false, false, true, true] ?_
    exact Mo_pairAt_21_r h
set_option maxRecDepth 100000 in
set_option maxHeartbeats 4000000 in
theorem Mo_pairAt_r (a0 : Int32) (a1 : Int32) (M : mS) (d : Nat) : mMet mP mTx (d + 1) 209 [.int a0, .int a1] (mSS M) (some (.int (Mo_pairAt a0 a1 M))) (mSS M) := by
  refine mMet_i ⟨Nat.le_refl _, Nat.le_refl _, Nat.le_of_ble_eq_true rfl⟩ ?_
  generalize h : Mo_pairAt a0 a1 M = r
  unfold Mo_pairAt at h
  show mRunF (mCd 209) (mEE (mMet mP mTx (d + 0)) (some .int) (some (.int r)) M) (0, [some (.int a0), some (.int a1), none, none], [], mSS M)
  refine mRunF.sg (mSl mk_209 0 2) (g := (2, [some (.int a0), some (.int a1), none, none], [.int a1, .int a0], mSS M)) (by decide +kernel) rfl ?_
  refine R_ige (t := 9) ⟨7, by decide +kernel⟩ (fun q => ?_) (fun q => ?_)
  · rw [if_pos q] at h
    refine mRunF.sg (mSl mk_209 5 1) (g := (10, [some (.int a0), some (.int a1), none, none], [.int a1], mSS M)) (by decide +kernel) rfl ?_
    exact Mo_pairAt_10_r h
  · rw [if_neg q] at h
    refine mRunF.sg (mSl mk_209 3 2) (g := (10, [some (.int a0), some (.int a1), none, none], [.int a0], mSS M)) (by decide +kernel) rfl ?_
    exact Mo_pairAt_10_r h
set_option maxRecDepth 100000 in
set_option maxHeartbeats 4000000 in
theorem Mo_together_r (N : Nat) (a0 : Int32) (a1 : Int32) (M : mS) {r : Int32} (d : Nat) (h : Mo_together N a0 a1 M = some r) : mMet mP mTx (d + 4) 242 [.ref 64, .int a0, .int a1] (mSS M) (some (.int r)) (mSS M) := by
  refine mMet_i ⟨Nat.le_refl _, Nat.le_refl _, Nat.le_of_ble_eq_true rfl⟩ ?_
  unfold Mo_together at h
  show mRunF (mCd 242) (mEE (mMet mP mTx (d + 3)) (some .int) (some (.int r)) M) (0, [some (.ref 64), some (.int a0), some (.int a1)], [], mSS M)
  refine mRunF.sg (mSl mk_242 0 3) (g := (3, [some (.ref 64), some (.int a0), some (.int a1)], [.int a1, .int a0, .ref 64], mSS M)) (by decide +kernel) rfl ?_
  obtain ⟨r2, q1, h⟩ := bR_of h
  refine R_callV (mi := 214) (na := 3) (ci := 12) (i := 64) (as := [.int a0, .int a1]) (r := []) (rv := some (.int r2)) (σ1 := mSS M) ⟨403, by decide +kernel⟩ rfl rfl rfl rfl (Mo_areTwo_r N a0 a1 M (d + 0) q1) ?_
  have b3 := mBool rfl (Mo_areTwo_r N a0 a1 M (d + 0) q1)
  show mRunF _ _ (6, [some (.ref 64), some (.int a0), some (.int a1)], [.int r2], mSS M)
  refine R_eq (t := 25) ⟨19, by decide +kernel⟩ (fun q => ?_) (fun q => ?_)
  · rw [if_pos q] at h
    refine mRunF.sg (mSl mk_242 14 1) (g := (26, [some (.ref 64), some (.int a0), some (.int a1)], [.int (-1)], mSS M)) (by decide +kernel) rfl ?_
    cases h
    exact R_iret (by decide +kernel)
  · rw [if_neg q] at h
    refine mRunF.sg (mSl mk_242 5 5) (g := (17, [some (.ref 64), some (.int a0), some (.int a1)], [.int a1, .int a0, .int 18, .ref 95], mSS M)) (by decide +kernel) rfl ?_
    refine R_callS (mi := 209) (na := 2) (as := [.int a0, .int a1]) (r := [.int 18, .ref 95]) (rv := some (.int (Mo_pairAt a0 a1 M))) (σ1 := mSS M) ⟨388, by decide +kernel⟩ rfl rfl rfl (Mo_pairAt_r a0 a1 M (d + 2)) ?_
    show mRunF _ _ (20, [some (.ref 64), some (.int a0), some (.int a1)], [.int (Mo_pairAt a0 a1 M), .int 18, .ref 95], mSS M)
    refine mRunF.sg (mSl mk_242 11 1) (g := (21, [some (.ref 64), some (.int a0), some (.int a1)], [.int (18 + (Mo_pairAt a0 a1 M)), .ref 95], mSS M)) (by decide +kernel) rfl ?_
    obtain ⟨g4, h⟩ := grd_of h
    refine R_iald (by decide +kernel) rfl g4 ?_
    refine mRunF.sg (mSl mk_242 13 1) (g := (26, [some (.ref 64), some (.int a0), some (.int a1)], [.int (M.1 95 (18 + (Mo_pairAt a0 a1 M)).toNatClampNeg)], mSS M)) (by decide +kernel) rfl ?_
    cases h
    exact R_iret (by decide +kernel)
set_option maxRecDepth 100000 in
set_option maxHeartbeats 4000000 in
theorem Mo_copiesStill_r (N : Nat)  (M : mS) {M' : mS} (d : Nat) (h : Mo_copiesStill N M = some M') : mMet mP mTx (d + 2) 219 [.ref 64] (mSS M) none (mSS M') := by
  refine mMet_i ⟨Nat.le_refl _, Nat.le_refl _, Nat.le_of_ble_eq_true rfl⟩ ?_
  unfold Mo_copiesStill at h
  show mRunF (mCd 219) (mEE (mMet mP mTx (d + 1)) (none) none M') (0, [some (.ref 64)], [], mSS M)
  refine mRunF.sg (mSl mk_219 0 1) (g := (1, [some (.ref 64)], [.ref 64], mSS M)) (by decide +kernel) rfl ?_
  obtain ⟨M2, q1, h⟩ := bV_of h
  refine R_callV (mi := 218) (na := 1) (ci := 12) (i := 64) (as := []) (r := []) (rv := none) (σ1 := mSS M2) ⟨329, by decide +kernel⟩ rfl rfl rfl rfl (Mo_copies_r N M (d + 0) q1) ?_
  show mRunF _ _ (4, [some (.ref 64)], [], mSS M2)
  refine mRunF.sg (mSl mk_219 2 3) (g := (9, [some (.ref 64)], [], mSS (mWI M2 64 51 1))) (by decide +kernel) rfl ?_
  obtain ⟨M3, hv, h⟩ := nxt_ex h
  rw [← hv]
  clear hv
  cases h
  exact R_vret (by decide +kernel)
set_option maxRecDepth 100000 in
set_option maxHeartbeats 4000000 in
theorem Mo_outTonight_r (N : Nat) (a0 : Int32) (M : mS) {r : Int32} {M' : mS} (d : Nat) (h : Mo_outTonight N a0 M = some (r, M')) : mMet mP mTx (d + 5) 231 [.ref 64, .int a0] (mSS M) (some (.int r)) (mSS M') := by
  refine mMet_i ⟨Nat.le_refl _, Nat.le_refl _, Nat.le_of_ble_eq_true rfl⟩ ?_
  unfold Mo_outTonight at h
  show mRunF (mCd 231) (mEE (mMet mP mTx (d + 4)) (some .int) (some (.int r)) M') (0, [some (.ref 64), some (.int a0)], [], mSS M)
  refine mRunF.sg (mSl mk_231 0 2) (g := (4, [some (.ref 64), some (.int a0)], [.int (M.1 64 51)], mSS M)) (by decide +kernel) rfl ?_
  refine R_ne (t := 42) ⟨38, by decide +kernel⟩ (fun q => ?_) (fun q => ?_)
  · rw [if_pos q] at h
    refine mRunF.sg (mSl mk_231 3 2) (g := (9, [some (.ref 64), some (.int a0)], [.int a0, .ref 64], mSS M)) (by decide +kernel) rfl ?_
    obtain ⟨r3, M2, q1, h⟩ := bW_of h
    refine R_callV (mi := 229) (na := 2) (ci := 12) (i := 64) (as := [.int a0]) (r := []) (rv := some (.int r3)) (σ1 := mSS M2) ⟨360, by decide +kernel⟩ rfl rfl rfl rfl (Mo_isDim_r N a0 M (d + 0) q1) ?_
    have b4 := mBool rfl (Mo_isDim_r N a0 M (d + 0) q1)
    show mRunF _ _ (12, [some (.ref 64), some (.int a0)], [.int r3], mSS M2)
    refine R_eq (t := 42) ⟨30, by decide +kernel⟩ (fun q => ?_) (fun q => ?_)
    · rw [if_pos q] at h
      refine mRunF.sg (mSl mk_231 22 3) (g := (47, [some (.ref 64), some (.int a0)], [.int a0, .ref 96], mSS M2)) (by decide +kernel) rfl ?_
      obtain ⟨g5, h⟩ := grd_of h
      refine R_iald (by decide +kernel) rfl g5 ?_
      cases h
      exact R_iret (by decide +kernel)
    · rw [if_neg q] at h
      refine mRunF.sg (mSl mk_231 7 6) (g := (27, [some (.ref 64), some (.int a0)], [.int 28, .ref 96, .int 8, .int 100000, .ref 64], mSS M2)) (by decide +kernel) rfl ?_
      refine R_iald (by decide +kernel) rfl rfl ?_
      show mRunF _ _ (28, [some (.ref 64), some (.int a0)], [.int (M2.1 96 28), .int 8, .int 100000, .ref 64], mSS M2)
      refine mRunF.sg (mSl mk_231 14 5) (g := (33, [some (.ref 64), some (.int a0)], [.ref 64, .int ((100000 + (8 * (M2.1 96 28))) + a0), .ref 64], mSS M2)) (by decide +kernel) rfl ?_
      obtain ⟨r7, q6, h⟩ := bR_of h
      refine R_callV (mi := 210) (na := 1) (ci := 12) (i := 64) (as := []) (r := [.int ((100000 + (8 * (M2.1 96 28))) + a0), .ref 64]) (rv := some (.int r7)) (σ1 := mSS M2) ⟨313, by decide +kernel⟩ rfl rfl rfl rfl (Mo_hours_r N M2 (d + 3) q6) ?_
      show mRunF _ _ (36, [some (.ref 64), some (.int a0)], [.int r7, .int ((100000 + (8 * (M2.1 96 28))) + a0), .ref 64], mSS M2)
      obtain ⟨r9, q8, h⟩ := bR_of h
      refine R_callV (mi := 221) (na := 3) (ci := 12) (i := 64) (as := [.int ((100000 + (8 * (M2.1 96 28))) + a0), .int r7]) (r := []) (rv := some (.int r9)) (σ1 := mSS M2) ⟨354, by decide +kernel⟩ rfl rfl rfl rfl (Mo_lotOf_r N ((100000 + (8 * (M2.1 96 28))) + a0) r7 M2 (d + 2) q8) ?_
      show mRunF _ _ (39, [some (.ref 64), some (.int a0)], [.int r9], mSS M2)
      refine mRunF.sg (mSl mk_231 21 1) (g := (48, [some (.ref 64), some (.int a0)], [.int r9], mSS M2)) (by decide +kernel) rfl ?_
      cases h
      exact R_iret (by decide +kernel)
  · rw [if_neg q] at h
    refine mRunF.sg (mSl mk_231 22 3) (g := (47, [some (.ref 64), some (.int a0)], [.int a0, .ref 96], mSS M)) (by decide +kernel) rfl ?_
    obtain ⟨g10, h⟩ := grd_of h
    refine R_iald (by decide +kernel) rfl g10 ?_
    cases h
    exact R_iret (by decide +kernel)
set_option maxRecDepth 100000 in
set_option maxHeartbeats 4000000 in
theorem Mo_hourBits_81_r {N d : Nat} {k36 : Int32 → Int32 → Int32 → Int32 → Int32 → mS → Option (Int32 × mS)} {M : mS} {x1 : Int32} {x2 : Int32} {x3 : Int32} {x4 : Int32} {x5 : Int32} {r : Int32} {M' : mS} (hk36 : ∀ (x1 : Int32) (x2 : Int32) (x3 : Int32) (x4 : Int32) (x5 : Int32) (M : mS), k36 x1 x2 x3 x4 x5 M = some (r, M') → mRunF (mCd 232) (mEE (mMet mP mTx (d + 5)) (some .int) (some (.int r)) M') (36, [some (.ref 64), some (.int x1), some (.int x2), some (.int x3), some (.int x4), some (.int x5)], [], mSS M)) (h : Mo_hourBits_81 N k36 x1 x2 x3 x4 x5 M = some (r, M')) : mRunF (mCd 232) (mEE (mMet mP mTx (d + 5)) (some .int) (some (.int r)) M') (81, [some (.ref 64), some (.int x1), some (.int x2), some (.int x3), some (.int x4), some (.int x5)], [], mSS M) := by
  unfold Mo_hourBits_81 at h
  refine mRunF.sg (mSl mk_232 49 2) (g := (36, [some (.ref 64), some (.int x1), some (.int x2), some (.int x3), some (.int x4), some (.int (x5 + 1))], [], mSS M)) (by decide +kernel) rfl ?_
  exact hk36 _ _ _ _ _ _ h
set_option maxRecDepth 100000 in
set_option maxHeartbeats 4000000 in
theorem Mo_hourBits_36_r {N d : Nat}   {r : Int32} {M' : mS} : ∀ {n : Nat} {x1 : Int32} {x2 : Int32} {x3 : Int32} {x4 : Int32} {x5 : Int32} {M : mS}, Mo_hourBits_36 N n x1 x2 x3 x4 x5 M = some (r, M') → mRunF (mCd 232) (mEE (mMet mP mTx (d + 5)) (some .int) (some (.int r)) M') (36, [some (.ref 64), some (.int x1), some (.int x2), some (.int x3), some (.int x4), some (.int x5)], [], mSS M) := by
  intro n
  induction n with
  | zero => intro x1 x2 x3 x4 x5 M h; cases h
  | succ n ih =>
    replace ih := @ih
    intro x1 x2 x3 x4 x5 M h
    unfold Mo_hourBits_36 at h
    refine mRunF.sg (mSl mk_232 23 2) (g := (39, [some (.ref 64), some (.int x1), some (.int x2), some (.int x3), some (.int x4), some (.int x5)], [.ref 64, .int x5], mSS M)) (by decide +kernel) rfl ?_
    obtain ⟨r2, q1, h⟩ := bR_of h
    refine R_callV (mi := 210) (na := 1) (ci := 12) (i := 64) (as := []) (r := [.int x5]) (rv := some (.int r2)) (σ1 := mSS M) ⟨313, by decide +kernel⟩ rfl rfl rfl rfl (Mo_hours_r N M (d + 4) q1) ?_
    show mRunF _ _ (42, [some (.ref 64), some (.int x1), some (.int x2), some (.int x3), some (.int x4), some (.int x5)], [.int r2, .int x5], mSS M)
    refine R_ige (t := 87) ⟨45, by decide +kernel⟩ (fun q => ?_) (fun q => ?_)
    · rw [if_pos q] at h
      refine mRunF.sg (mSl mk_232 51 1) (g := (89, [some (.ref 64), some (.int x1), some (.int x2), some (.int x3), some (.int x4), some (.int x5)], [.int x4], mSS M)) (by decide +kernel) rfl ?_
      cases h
      exact R_iret (by decide +kernel)
    · rw [if_neg q] at h
      refine mRunF.sg (mSl mk_232 27 3) (g := (49, [some (.ref 64), some (.int x1), some (.int x2), some (.int x3), some (.int x4), some (.int x5)], [.int x5, .int x3, .ref 64], mSS M)) (by decide +kernel) rfl ?_
      obtain ⟨r4, q3, h⟩ := bR_of h
      refine R_callV (mi := 230) (na := 3) (ci := 12) (i := 64) (as := [.int x3, .int x5]) (r := []) (rv := some (.int r4)) (σ1 := mSS M) ⟨373, by decide +kernel⟩ rfl rfl rfl rfl (Mo_showsBy_r N x3 x5 M (d + 3) q3) ?_
      show mRunF _ _ (52, [some (.ref 64), some (.int x1), some (.int x2), some (.int x3), some (.int x4), some (.int x5)], [.int r4], mSS M)
      refine mRunF.sg (mSl mk_232 31 2) (g := (54, [some (.ref 64), some (.int x1), some (.int x2), some (.int x3), some (.int x4), some (.int x5)], [.int x1, .ref 64, .int r4], mSS M)) (by decide +kernel) rfl ?_
      obtain ⟨r6, q5, h⟩ := bR_of h
      refine R_callV (mi := 215) (na := 2) (ci := 12) (i := 64) (as := [.int x1]) (r := [.int r4]) (rv := some (.int r6)) (σ1 := mSS M) ⟨342, by decide +kernel⟩ rfl rfl rfl rfl (Mo_fromAt_r N x1 M (d + 3) q5) ?_
      show mRunF _ _ (57, [some (.ref 64), some (.int x1), some (.int x2), some (.int x3), some (.int x4), some (.int x5)], [.int r6, .int r4], mSS M)
      refine mRunF.sg (mSl mk_232 34 2) (g := (59, [some (.ref 64), some (.int x1), some (.int x2), some (.int x3), some (.int x4), some (.int x5)], [.ref 64, .int (r4 - r6)], mSS M)) (by decide +kernel) rfl ?_
      obtain ⟨r8, q7, h⟩ := bR_of h
      refine R_callV (mi := 210) (na := 1) (ci := 12) (i := 64) (as := []) (r := [.int (r4 - r6)]) (rv := some (.int r8)) (σ1 := mSS M) ⟨313, by decide +kernel⟩ rfl rfl rfl rfl (Mo_hours_r N M (d + 4) q7) ?_
      show mRunF _ _ (62, [some (.ref 64), some (.int x1), some (.int x2), some (.int x3), some (.int x4), some (.int x5)], [.int r8, .int (r4 - r6)], mSS M)
      refine mRunF.sg (mSl mk_232 37 2) (g := (64, [some (.ref 64), some (.int x1), some (.int x2), some (.int x3), some (.int x4), some (.int x5)], [.ref 64, .int ((r4 - r6) + r8)], mSS M)) (by decide +kernel) rfl ?_
      obtain ⟨r10, q9, h⟩ := bR_of h
      refine R_callV (mi := 210) (na := 1) (ci := 12) (i := 64) (as := []) (r := [.int ((r4 - r6) + r8)]) (rv := some (.int r10)) (σ1 := mSS M) ⟨313, by decide +kernel⟩ rfl rfl rfl rfl (Mo_hours_r N M (d + 4) q9) ?_
      show mRunF _ _ (67, [some (.ref 64), some (.int x1), some (.int x2), some (.int x3), some (.int x4), some (.int x5)], [.int r10, .int ((r4 - r6) + r8)], mSS M)
      obtain ⟨g11, h⟩ := nz_of h
      refine R_rem (by decide +kernel) g11 ?_
      refine mRunF.sg (mSl mk_232 41 1) (g := (69, [some (.ref 64), some (.int x1), some (.int x2), some (.int x3), some (.int x4), some (.int x5)], [.int x2, .int (((r4 - r6) + r8) - ((r4 - r6) + r8) / r10 * r10)], mSS M)) (by decide +kernel) rfl ?_
      refine R_ige (t := 81) ⟨12, by decide +kernel⟩ (fun q => ?_) (fun q => ?_)
      · rw [if_pos q] at h
        exact Mo_hourBits_81_r (fun y0 y1 y2 y3 y4 y5 hh => @ih y0 y1 y2 y3 y4 y5 hh) h
      · rw [if_neg q] at h
        refine mRunF.sg (mSl mk_232 43 6) (g := (81, [some (.ref 64), some (.int x1), some (.int x2), some (.int x3), some (.int (x4 ||| ((1 : Int32) <<< (x5 &&& 31)))), some (.int x5)], [], mSS M)) (by decide +kernel) rfl ?_
        obtain ⟨v12, hv, h⟩ := nxt_ex h
        rw [← hv]
        clear hv
        exact Mo_hourBits_81_r (fun y0 y1 y2 y3 y4 y5 hh => @ih y0 y1 y2 y3 y4 y5 hh) h
set_option maxRecDepth 100000 in
set_option maxHeartbeats 4000000 in
theorem Mo_hourBits_r (N : Nat) (a0 : Int32) (M : mS) {r : Int32} {M' : mS} (d : Nat) (h : Mo_hourBits N a0 M = some (r, M')) : mMet mP mTx (d + 6) 232 [.ref 64, .int a0] (mSS M) (some (.int r)) (mSS M') := by
  refine mMet_i ⟨Nat.le_refl _, Nat.le_refl _, Nat.le_of_ble_eq_true rfl⟩ ?_
  unfold Mo_hourBits at h
  show mRunF (mCd 232) (mEE (mMet mP mTx (d + 5)) (some .int) (some (.int r)) M') (0, [some (.ref 64), some (.int a0), none, none, none, none], [], mSS M)
  refine mRunF.sg (mSl mk_232 0 2) (g := (2, [some (.ref 64), some (.int a0), none, none, none, none], [.int a0, .ref 64], mSS M)) (by decide +kernel) rfl ?_
  obtain ⟨r15, M14, q13, h⟩ := bW_of h
  refine R_callV (mi := 225) (na := 2) (ci := 12) (i := 64) (as := [.int a0]) (r := []) (rv := some (.int r15)) (σ1 := mSS M14) ⟨364, by decide +kernel⟩ rfl rfl rfl rfl (Mo_doesCome_r N a0 M (d + 1) q13) ?_
  have b16 := mBool rfl (Mo_doesCome_r N a0 M (d + 1) q13)
  show mRunF _ _ (5, [some (.ref 64), some (.int a0), none, none, none, none], [.int r15], mSS M14)
  refine R_ne (t := 10) ⟨5, by decide +kernel⟩ (fun q => ?_) (fun q => ?_)
  · rw [if_pos q] at h
    refine mRunF.sg (mSl mk_232 4 1) (g := (9, [some (.ref 64), some (.int a0), none, none, none, none], [.int 0], mSS M14)) (by decide +kernel) rfl ?_
    cases h
    exact R_iret (by decide +kernel)
  · rw [if_neg q] at h
    refine mRunF.sg (mSl mk_232 6 2) (g := (12, [some (.ref 64), some (.int a0), none, none, none, none], [.int a0, .ref 64], mSS M14)) (by decide +kernel) rfl ?_
    obtain ⟨r19, M18, q17, h⟩ := bW_of h
    refine R_callV (mi := 226) (na := 2) (ci := 12) (i := 64) (as := [.int a0]) (r := []) (rv := some (.int r19)) (σ1 := mSS M18) ⟨367, by decide +kernel⟩ rfl rfl rfl rfl (Mo_staysOf_r N a0 M14 (d + 1) q17) ?_
    show mRunF _ _ (15, [some (.ref 64), some (.int a0), none, none, none, none], [.int r19], mSS M18)
    refine mRunF.sg (mSl mk_232 9 7) (g := (25, [some (.ref 64), some (.int a0), some (.int r19), none, none, none], [.int (8 + a0), .ref 96, .ref 64], mSS M18)) (by decide +kernel) rfl ?_
    obtain ⟨g20, h⟩ := grd_of h
    refine R_iald (by decide +kernel) rfl g20 ?_
    obtain ⟨r23, M22, q21, h⟩ := bW_of h
    refine R_callV (mi := 231) (na := 2) (ci := 12) (i := 64) (as := [.int (M18.1 96 (8 + a0).toNatClampNeg)]) (r := []) (rv := some (.int r23)) (σ1 := mSS M22) ⟨370, by decide +kernel⟩ rfl rfl rfl rfl (Mo_outTonight_r N (M18.1 96 (8 + a0).toNatClampNeg) M18 (d + 0) q21) ?_
    show mRunF _ _ (29, [some (.ref 64), some (.int a0), some (.int r19), none, none, none], [.int r23], mSS M22)
    refine mRunF.sg (mSl mk_232 18 5) (g := (36, [some (.ref 64), some (.int a0), some (.int r19), some (.int r23), some (.int 0), some (.int 0)], [], mSS M22)) (by decide +kernel) rfl ?_
    exact Mo_hourBits_36_r h
set_option maxRecDepth 100000 in
set_option maxHeartbeats 4000000 in
theorem Mo_fillsThere_29_r {N d : Nat} {k2 : Int32 → mS → Option mS} {M : mS} {x1 : Int32} {z1 : Int32} {z2 : Int32} {M' : mS} (hk2 : ∀ (x1 : Int32) (M : mS), k2 x1 M = some M' → mRunF (mCd 233) (mEE (mMet mP mTx (d + 6)) (none) none M') (2, [some (.ref 64), some (.int x1)], [], mSS M)) (h : Mo_fillsThere_29 N k2 x1 z1 z2 M = some M') : mRunF (mCd 233) (mEE (mMet mP mTx (d + 6)) (none) none M') (29, [some (.ref 64), some (.int x1)], [.int z2, .int z1, .ref 97], mSS M) := by
  unfold Mo_fillsThere_29 at h
  obtain ⟨g1, h⟩ := grd_of h
  refine R_iast (by decide +kernel) rfl g1 ?_
  obtain ⟨M2, hv, h⟩ := nxt_ex h
  rw [← hv]
  clear hv
  refine mRunF.sg (mSl mk_233 18 2) (g := (2, [some (.ref 64), some (.int (x1 + 1))], [], mSS M2)) (by decide +kernel) rfl ?_
  exact hk2 _ _ h
set_option maxRecDepth 100000 in
set_option maxHeartbeats 4000000 in
theorem Mo_fillsThere_2_r {N d : Nat}   {M' : mS} : ∀ {n : Nat} {x1 : Int32} {M : mS}, Mo_fillsThere_2 N n x1 M = some M' → mRunF (mCd 233) (mEE (mMet mP mTx (d + 6)) (none) none M') (2, [some (.ref 64), some (.int x1)], [], mSS M) := by
  intro n
  induction n with
  | zero => intro x1 M h; cases h
  | succ n ih =>
    replace ih := @ih
    intro x1 M h
    unfold Mo_fillsThere_2 at h
    refine mRunF.sg (mSl mk_233 2 2) (g := (4, [some (.ref 64), some (.int x1)], [.int 5, .int x1], mSS M)) (by decide +kernel) rfl ?_
    refine R_ige (t := 36) ⟨32, by decide +kernel⟩ (fun q => ?_) (fun q => ?_)
    · rw [if_pos q] at h
      cases h
      exact R_vret (by decide +kernel)
    · rw [if_neg q] at h
      refine mRunF.sg (mSl mk_233 5 5) (g := (14, [some (.ref 64), some (.int x1)], [.int x1, .ref 64, .int x1, .ref 97], mSS M)) (by decide +kernel) rfl ?_
      obtain ⟨r4, q3, h⟩ := bR_of h
      refine R_callV (mi := 213) (na := 2) (ci := 12) (i := 64) (as := [.int x1]) (r := [.int x1, .ref 97]) (rv := some (.int r4)) (σ1 := mSS M) ⟨320, by decide +kernel⟩ rfl rfl rfl rfl (Mo_isGoer_r N x1 M (d + 4) q3) ?_
      have b5 := mBool rfl (Mo_isGoer_r N x1 M (d + 4) q3)
      show mRunF _ _ (17, [some (.ref 64), some (.int x1)], [.int r4, .int x1, .ref 97], mSS M)
      refine R_eq (t := 28) ⟨11, by decide +kernel⟩ (fun q => ?_) (fun q => ?_)
      · rw [if_pos q] at h
        refine mRunF.sg (mSl mk_233 16 1) (g := (29, [some (.ref 64), some (.int x1)], [.int 0, .int x1, .ref 97], mSS M)) (by decide +kernel) rfl ?_
        exact Mo_fillsThere_29_r (fun y0 y1 hh => @ih y0 y1 hh) h
      · rw [if_neg q] at h
        refine mRunF.sg (mSl mk_233 12 2) (g := (22, [some (.ref 64), some (.int x1)], [.int x1, .ref 64, .int x1, .ref 97], mSS M)) (by decide +kernel) rfl ?_
        obtain ⟨r8, M7, q6, h⟩ := bW_of h
        refine R_callV (mi := 232) (na := 2) (ci := 12) (i := 64) (as := [.int x1]) (r := [.int x1, .ref 97]) (rv := some (.int r8)) (σ1 := mSS M7) ⟨376, by decide +kernel⟩ rfl rfl rfl rfl (Mo_hourBits_r N x1 M (d + 0) q6) ?_
        show mRunF _ _ (25, [some (.ref 64), some (.int x1)], [.int r8, .int x1, .ref 97], mSS M7)
        refine mRunF.sg (mSl mk_233 15 1) (g := (29, [some (.ref 64), some (.int x1)], [.int r8, .int x1, .ref 97], mSS M7)) (by decide +kernel) rfl ?_
        exact Mo_fillsThere_29_r (fun y0 y1 hh => @ih y0 y1 hh) h
set_option maxRecDepth 100000 in
set_option maxHeartbeats 4000000 in
theorem Mo_fillsThere_r (N : Nat)  (M : mS) {M' : mS} (d : Nat) (h : Mo_fillsThere N M = some M') : mMet mP mTx (d + 7) 233 [.ref 64] (mSS M) none (mSS M') := by
  refine mMet_i ⟨Nat.le_refl _, Nat.le_refl _, Nat.le_of_ble_eq_true rfl⟩ ?_
  unfold Mo_fillsThere at h
  show mRunF (mCd 233) (mEE (mMet mP mTx (d + 6)) (none) none M') (0, [some (.ref 64), none], [], mSS M)
  refine mRunF.sg (mSl mk_233 0 2) (g := (2, [some (.ref 64), some (.int 0)], [], mSS M)) (by decide +kernel) rfl ?_
  exact Mo_fillsThere_2_r h
set_option maxRecDepth 100000 in
set_option maxHeartbeats 4000000 in
theorem Mo_thereAt_4_r {N d : Nat}  {M : mS}  {r : Int32} : ∀ {n : Nat} {x1 : Int32} {x2 : Int32} {x3 : Int32}, Mo_thereAt_4 N M n x1 x2 x3 = some r → mRunF (mCd 243) (mEE (mMet mP mTx (d + 0)) (some .int) (some (.int r)) M) (4, [some (.ref 64), some (.int x1), some (.int x2), some (.int x3)], [], mSS M) := by
  intro n
  induction n with
  | zero => intro x1 x2 x3 h; cases h
  | succ n ih =>
    replace ih := @ih
    intro x1 x2 x3 h
    unfold Mo_thereAt_4 at h
    refine mRunF.sg (mSl mk_243 4 2) (g := (6, [some (.ref 64), some (.int x1), some (.int x2), some (.int x3)], [.int 5, .int x3], mSS M)) (by decide +kernel) rfl ?_
    refine R_ige (t := 30) ⟨24, by decide +kernel⟩ (fun q => ?_) (fun q => ?_)
    · rw [if_pos q] at h
      refine mRunF.sg (mSl mk_243 22 1) (g := (31, [some (.ref 64), some (.int x1), some (.int x2), some (.int x3)], [.int x2], mSS M)) (by decide +kernel) rfl ?_
      cases h
      exact R_iret (by decide +kernel)
    · rw [if_neg q] at h
      refine mRunF.sg (mSl mk_243 7 4) (g := (15, [some (.ref 64), some (.int x1), some (.int x2), some (.int x3)], [.int x3, .ref 97, .int x2], mSS M)) (by decide +kernel) rfl ?_
      obtain ⟨g1, h⟩ := grd_of h
      refine R_iald (by decide +kernel) rfl g1 ?_
      refine mRunF.sg (mSl mk_243 12 8) (g := (24, [some (.ref 64), some (.int x1), some (.int (x2 ||| ((((M.1 97 x3.toNatClampNeg) >>> (x1 &&& 31)) &&& 1) <<< (x3 &&& 31)))), some (.int x3)], [], mSS M)) (by decide +kernel) rfl ?_
      obtain ⟨v2, hv, h⟩ := nxt_ex h
      rw [← hv]
      clear hv
      refine mRunF.sg (mSl mk_243 20 2) (g := (4, [some (.ref 64), some (.int x1), some (.int v2), some (.int (x3 + 1))], [], mSS M)) (by decide +kernel) rfl ?_
      exact @ih _ _ _ h
set_option maxRecDepth 100000 in
set_option maxHeartbeats 4000000 in
theorem Mo_thereAt_r (N : Nat) (a0 : Int32) (M : mS) {r : Int32} (d : Nat) (h : Mo_thereAt N a0 M = some r) : mMet mP mTx (d + 1) 243 [.ref 64, .int a0] (mSS M) (some (.int r)) (mSS M) := by
  refine mMet_i ⟨Nat.le_refl _, Nat.le_refl _, Nat.le_of_ble_eq_true rfl⟩ ?_
  unfold Mo_thereAt at h
  show mRunF (mCd 243) (mEE (mMet mP mTx (d + 0)) (some .int) (some (.int r)) M) (0, [some (.ref 64), some (.int a0), none, none], [], mSS M)
  refine mRunF.sg (mSl mk_243 0 4) (g := (4, [some (.ref 64), some (.int a0), some (.int 0), some (.int 0)], [], mSS M)) (by decide +kernel) rfl ?_
  exact Mo_thereAt_4_r h
set_option maxRecDepth 100000 in
set_option maxHeartbeats 4000000 in
theorem Mo_there_r (N : Nat) (a0 : Int32) (M : mS) {r : Int32} {M' : mS} (d : Nat) (h : Mo_there N a0 M = some (r, M')) : mMet mP mTx (d + 8) 244 [.ref 64, .int a0] (mSS M) (some (.int r)) (mSS M') := by
  refine mMet_i ⟨Nat.le_refl _, Nat.le_refl _, Nat.le_of_ble_eq_true rfl⟩ ?_
  unfold Mo_there at h
  show mRunF (mCd 244) (mEE (mMet mP mTx (d + 7)) (some .int) (some (.int r)) M') (0, [some (.ref 64), some (.int a0)], [], mSS M)
  refine mRunF.sg (mSl mk_244 0 2) (g := (2, [some (.ref 64), some (.int a0)], [.int a0, .ref 64], mSS M)) (by decide +kernel) rfl ?_
  obtain ⟨r2, q1, h⟩ := bR_of h
  refine R_callV (mi := 211) (na := 2) (ci := 12) (i := 64) (as := [.int a0]) (r := []) (rv := some (.int r2)) (σ1 := mSS M) ⟨397, by decide +kernel⟩ rfl rfl rfl rfl (Mo_isHour_r N a0 M (d + 5) q1) ?_
  have b3 := mBool rfl (Mo_isHour_r N a0 M (d + 5) q1)
  show mRunF _ _ (5, [some (.ref 64), some (.int a0)], [.int r2], mSS M)
  refine R_ne (t := 10) ⟨5, by decide +kernel⟩ (fun q => ?_) (fun q => ?_)
  · rw [if_pos q] at h
    refine mRunF.sg (mSl mk_244 4 1) (g := (9, [some (.ref 64), some (.int a0)], [.int (-1)], mSS M)) (by decide +kernel) rfl ?_
    cases h
    exact R_iret (by decide +kernel)
  · rw [if_neg q] at h
    refine mRunF.sg (mSl mk_244 6 1) (g := (11, [some (.ref 64), some (.int a0)], [.ref 64], mSS M)) (by decide +kernel) rfl ?_
    obtain ⟨M5, q4, h⟩ := bV_of h
    refine R_callV (mi := 219) (na := 1) (ci := 12) (i := 64) (as := []) (r := []) (rv := none) (σ1 := mSS M5) ⟨407, by decide +kernel⟩ rfl rfl rfl rfl (Mo_copiesStill_r N M (d + 5) q4) ?_
    show mRunF _ _ (14, [some (.ref 64), some (.int a0)], [], mSS M5)
    refine mRunF.sg (mSl mk_244 8 1) (g := (15, [some (.ref 64), some (.int a0)], [.ref 64], mSS M5)) (by decide +kernel) rfl ?_
    obtain ⟨M7, q6, h⟩ := bV_of h
    refine R_callV (mi := 233) (na := 1) (ci := 12) (i := 64) (as := []) (r := []) (rv := none) (σ1 := mSS M7) ⟨379, by decide +kernel⟩ rfl rfl rfl rfl (Mo_fillsThere_r N M5 (d + 0) q6) ?_
    show mRunF _ _ (18, [some (.ref 64), some (.int a0)], [], mSS M7)
    refine mRunF.sg (mSl mk_244 10 2) (g := (20, [some (.ref 64), some (.int a0)], [.int a0, .ref 64], mSS M7)) (by decide +kernel) rfl ?_
    obtain ⟨r9, q8, h⟩ := bR_of h
    refine R_callV (mi := 243) (na := 2) (ci := 12) (i := 64) (as := [.int a0]) (r := []) (rv := some (.int r9)) (σ1 := mSS M7) ⟨410, by decide +kernel⟩ rfl rfl rfl rfl (Mo_thereAt_r N a0 M7 (d + 6) q8) ?_
    show mRunF _ _ (23, [some (.ref 64), some (.int a0)], [.int r9], mSS M7)
    cases h
    exact R_iret (by decide +kernel)
set_option maxRecDepth 100000 in
set_option maxHeartbeats 4000000 in
theorem Mo_records_51_r {N d : Nat}   {M' : mS} : ∀ {n : Nat} {x1 : Int32} {M : mS}, Mo_records_51 N n x1 M = some M' → mRunF (mCd 245) (mEE (mMet mP mTx (d + 1)) (none) none M') (51, [some (.ref 64), some (.int x1)], [], mSS M) := by
  intro n
  induction n with
  | zero => intro x1 M h; cases h
  | succ n ih =>
    replace ih := @ih
    intro x1 M h
    unfold Mo_records_51 at h
    refine mRunF.sg (mSl mk_245 29 2) (g := (54, [some (.ref 64), some (.int x1)], [.int 29, .int x1], mSS M)) (by decide +kernel) rfl ?_
    refine R_ige (t := 83) ⟨29, by decide +kernel⟩ (fun q => ?_) (fun q => ?_)
    · rw [if_pos q] at h
      refine mRunF.sg (mSl mk_245 47 6) (g := (93, [some (.ref 64), some (.int x1)], [], mSS (mWI M 64 53 ((M.1 64 53) + 1)))) (by decide +kernel) rfl ?_
      obtain ⟨M1, hv, h⟩ := nxt_ex h
      rw [← hv]
      clear hv
      refine mRunF.sg (mSl mk_245 53 1) (g := (94, [some (.ref 64), some (.int x1)], [.ref 64], mSS M1)) (by decide +kernel) rfl ?_
      obtain ⟨M3, q2, h⟩ := bV_of h
      refine R_callV (mi := 217) (na := 1) (ci := 12) (i := 64) (as := []) (r := []) (rv := none) (σ1 := mSS M3) ⟨169, by decide +kernel⟩ rfl rfl rfl rfl (Mo_keepsRow_r N M1 (d + 0) q2) ?_
      show mRunF _ _ (97, [some (.ref 64), some (.int x1)], [], mSS M3)
      cases h
      exact R_vret (by decide +kernel)
    · rw [if_neg q] at h
      refine mRunF.sg (mSl mk_245 32 11) (g := (75, [some (.ref 64), some (.int x1)], [.int x1, .ref 95, .int ((29 * (M.1 64 53)) + x1), .ref 98], mSS M)) (by decide +kernel) rfl ?_
      obtain ⟨g4, h⟩ := grd_of h
      refine R_iald (by decide +kernel) rfl g4 ?_
      obtain ⟨g5, h⟩ := grd_of h
      refine R_iast (by decide +kernel) rfl g5 ?_
      obtain ⟨M6, hv, h⟩ := nxt_ex h
      rw [← hv]
      clear hv
      refine mRunF.sg (mSl mk_245 45 2) (g := (51, [some (.ref 64), some (.int (x1 + 1))], [], mSS M6)) (by decide +kernel) rfl ?_
      exact @ih _ _ h
set_option maxRecDepth 100000 in
set_option maxHeartbeats 4000000 in
theorem Mo_records_49_r {N d : Nat}  {M : mS}  {M' : mS} (h : Mo_records_49 N M = some M') : mRunF (mCd 245) (mEE (mMet mP mTx (d + 1)) (none) none M') (49, [some (.ref 64), none], [], mSS M) := by
  unfold Mo_records_49 at h
  refine mRunF.sg (mSl mk_245 27 2) (g := (51, [some (.ref 64), some (.int 0)], [], mSS M)) (by decide +kernel) rfl ?_
  exact Mo_records_51_r h
set_option maxRecDepth 100000 in
set_option maxHeartbeats 4000000 in
theorem Mo_records_11_r {N d : Nat}   {M' : mS} : ∀ {n : Nat} {x1 : Int32} {M : mS}, Mo_records_11 N n x1 M = some M' → mRunF (mCd 245) (mEE (mMet mP mTx (d + 1)) (none) none M') (11, [some (.ref 64), some (.int x1)], [], mSS M) := by
  intro n
  induction n with
  | zero => intro x1 M h; cases h
  | succ n ih =>
    replace ih := @ih
    intro x1 M h
    unfold Mo_records_11 at h
    refine mRunF.sg (mSl mk_245 6 2) (g := (15, [some (.ref 64), some (.int x1)], [.int 1131, .int x1], mSS M)) (by decide +kernel) rfl ?_
    refine R_ige (t := 39) ⟨24, by decide +kernel⟩ (fun q => ?_) (fun q => ?_)
    · rw [if_pos q] at h
      refine mRunF.sg (mSl mk_245 21 6) (g := (49, [some (.ref 64), some (.int x1)], [], mSS (mWI M 64 53 ((M.1 64 53) - 1)))) (by decide +kernel) rfl ?_
      obtain ⟨M7, hv, h⟩ := nxt_ex h
      rw [← hv]
      clear hv
      refine mRunF.forget [true, false] ?_
      exact Mo_records_49_r h
    · rw [if_neg q] at h
      refine mRunF.sg (mSl mk_245 9 8) (g := (31, [some (.ref 64), some (.int x1)], [.int (x1 + 29), .ref 98, .int x1, .ref 98], mSS M)) (by decide +kernel) rfl ?_
      obtain ⟨g8, h⟩ := grd_of h
      refine R_iald (by decide +kernel) rfl g8 ?_
      obtain ⟨g9, h⟩ := grd_of h
      refine R_iast (by decide +kernel) rfl g9 ?_
      obtain ⟨M10, hv, h⟩ := nxt_ex h
      rw [← hv]
      clear hv
      refine mRunF.sg (mSl mk_245 19 2) (g := (11, [some (.ref 64), some (.int (x1 + 1))], [], mSS M10)) (by decide +kernel) rfl ?_
      exact @ih _ _ h
set_option maxRecDepth 100000 in
set_option maxHeartbeats 4000000 in
theorem Mo_records_r (N : Nat)  (M : mS) {M' : mS} (d : Nat) (h : Mo_records N M = some M') : mMet mP mTx (d + 2) 245 [.ref 64] (mSS M) none (mSS M') := by
  refine mMet_i ⟨Nat.le_refl _, Nat.le_refl _, Nat.le_of_ble_eq_true rfl⟩ ?_
  unfold Mo_records at h
  show mRunF (mCd 245) (mEE (mMet mP mTx (d + 1)) (none) none M') (0, [some (.ref 64), none], [], mSS M)
  refine mRunF.sg (mSl mk_245 0 3) (g := (6, [some (.ref 64), none], [.int 40, .int (M.1 64 53)], mSS M)) (by decide +kernel) rfl ?_
  refine R_ine (t := 49) ⟨43, by decide +kernel⟩ (fun q => ?_) (fun q => ?_)
  · rw [if_pos q] at h
    refine mRunF.sg (mSl mk_245 4 2) (g := (11, [some (.ref 64), some (.int 0)], [], mSS M)) (by decide +kernel) rfl ?_
    exact Mo_records_11_r h
  · rw [if_neg q] at h
    exact Mo_records_49_r h
set_option maxRecDepth 100000 in
set_option maxHeartbeats 4000000 in
theorem Mo_does_r (N : Nat) (a0 : Int32) (a1 : Int32) (M : mS) {r : Int32} {M' : mS} (d : Nat) (h : Mo_does N a0 a1 M = some (r, M')) : mMet mP mTx (d + 3) 246 [.ref 64, .int a0, .int a1] (mSS M) (some (.int r)) (mSS M') := by
  refine mMet_i ⟨Nat.le_refl _, Nat.le_refl _, Nat.le_of_ble_eq_true rfl⟩ ?_
  unfold Mo_does at h
  show mRunF (mCd 246) (mEE (mMet mP mTx (d + 2)) (some .boolean) (some (.int r)) M') (0, [some (.ref 64), some (.int a0), some (.int a1)], [], mSS M)
  refine mRunF.sg (mSl mk_246 0 1) (g := (1, [some (.ref 64), some (.int a0), some (.int a1)], [.ref 64], mSS M)) (by decide +kernel) rfl ?_
  obtain ⟨M2, q1, h⟩ := bV_of h
  refine R_callV (mi := 218) (na := 1) (ci := 12) (i := 64) (as := []) (r := []) (rv := none) (σ1 := mSS M2) ⟨329, by decide +kernel⟩ rfl rfl rfl rfl (Mo_copies_r N M (d + 1) q1) ?_
  show mRunF _ _ (4, [some (.ref 64), some (.int a0), some (.int a1)], [], mSS M2)
  refine mRunF.sg (mSl mk_246 2 4) (g := (10, [some (.ref 64), some (.int a0), some (.int a1)], [.int a1, .int a0, .ref 96], mSS M2)) (by decide +kernel) rfl ?_
  obtain ⟨g3, h⟩ := grd_of h
  refine R_iast (by decide +kernel) rfl g3 ?_
  obtain ⟨M4, hv, h⟩ := nxt_ex h
  rw [← hv]
  clear hv
  refine mRunF.sg (mSl mk_246 7 1) (g := (12, [some (.ref 64), some (.int a0), some (.int a1)], [.ref 64], mSS M4)) (by decide +kernel) rfl ?_
  obtain ⟨M6, q5, h⟩ := bV_of h
  refine R_callV (mi := 245) (na := 1) (ci := 12) (i := 64) (as := []) (r := []) (rv := none) (σ1 := mSS M6) ⟨413, by decide +kernel⟩ rfl rfl rfl rfl (Mo_records_r N M4 (d + 0) q5) ?_
  show mRunF _ _ (15, [some (.ref 64), some (.int a0), some (.int a1)], [], mSS M6)
  refine mRunF.sg (mSl mk_246 9 1) (g := (16, [some (.ref 64), some (.int a0), some (.int a1)], [.int 1], mSS M6)) (by decide +kernel) rfl ?_
  cases h
  exact R_zret (by decide +kernel) (Or.inr rfl)
set_option maxRecDepth 100000 in
set_option maxHeartbeats 4000000 in
theorem Mo_turn_r (N : Nat) (a0 : Int32) (a1 : Int32) (M : mS) {r : Int32} {M' : mS} (d : Nat) (h : Mo_turn N a0 a1 M = some (r, M')) : mMet mP mTx (d + 4) 247 [.ref 64, .int a0, .int a1] (mSS M) (some (.int r)) (mSS M') := by
  refine mMet_i ⟨Nat.le_refl _, Nat.le_refl _, Nat.le_of_ble_eq_true rfl⟩ ?_
  unfold Mo_turn at h
  show mRunF (mCd 247) (mEE (mMet mP mTx (d + 3)) (some .int) (some (.int r)) M') (0, [some (.ref 64), some (.int a0), some (.int a1)], [], mSS M)
  refine mRunF.sg (mSl mk_247 0 2) (g := (2, [some (.ref 64), some (.int a0), some (.int a1)], [.int a0, .ref 64], mSS M)) (by decide +kernel) rfl ?_
  obtain ⟨r2, q1, h⟩ := bR_of h
  refine R_callV (mi := 212) (na := 2) (ci := 12) (i := 64) (as := [.int a0]) (r := []) (rv := some (.int r2)) (σ1 := mSS M) ⟨394, by decide +kernel⟩ rfl rfl rfl rfl (Mo_isDial_r N a0 M (d + 1) q1) ?_
  have b3 := mBool rfl (Mo_isDial_r N a0 M (d + 1) q1)
  show mRunF _ _ (5, [some (.ref 64), some (.int a0), some (.int a1)], [.int r2], mSS M)
  refine R_eq (t := 22) ⟨17, by decide +kernel⟩ (fun q => ?_) (fun q => ?_)
  · rw [if_pos q] at h
    refine mRunF.sg (mSl mk_247 12 1) (g := (23, [some (.ref 64), some (.int a0), some (.int a1)], [.int (-1)], mSS M)) (by decide +kernel) rfl ?_
    cases h
    exact R_iret (by decide +kernel)
  · rw [if_neg q] at h
    refine mRunF.sg (mSl mk_247 4 3) (g := (11, [some (.ref 64), some (.int a0), some (.int a1)], [.ref 64, .int 1, .int a1], mSS M)) (by decide +kernel) rfl ?_
    obtain ⟨r5, q4, h⟩ := bR_of h
    refine R_callV (mi := 210) (na := 1) (ci := 12) (i := 64) (as := []) (r := [.int 1, .int a1]) (rv := some (.int r5)) (σ1 := mSS M) ⟨313, by decide +kernel⟩ rfl rfl rfl rfl (Mo_hours_r N M (d + 2) q4) ?_
    show mRunF _ _ (14, [some (.ref 64), some (.int a0), some (.int a1)], [.int r5, .int 1, .int a1], mSS M)
    refine mRunF.sg (mSl mk_247 8 2) (g := (16, [some (.ref 64), some (.int a0), some (.int a1)], [.int (r5 - 1), .int 1, .int a1], mSS M)) (by decide +kernel) rfl ?_
    refine R_callS (mi := 206) (na := 3) (as := [.int a1, .int 1, .int (r5 - 1)]) (r := []) (rv := some (.int (Mo_in a1 1 (r5 - 1) M))) (σ1 := mSS M) ⟨316, by decide +kernel⟩ rfl rfl rfl (Mo_in_r a1 1 (r5 - 1) M (d + 2)) ?_
    have b6 := mBool rfl (Mo_in_r a1 1 (r5 - 1) M (d + 2))
    show mRunF _ _ (19, [some (.ref 64), some (.int a0), some (.int a1)], [.int (Mo_in a1 1 (r5 - 1) M)], mSS M)
    refine R_ne (t := 24) ⟨5, by decide +kernel⟩ (fun q => ?_) (fun q => ?_)
    · rw [if_pos q] at h
      refine mRunF.sg (mSl mk_247 12 1) (g := (23, [some (.ref 64), some (.int a0), some (.int a1)], [.int (-1)], mSS M)) (by decide +kernel) rfl ?_
      cases h
      exact R_iret (by decide +kernel)
    · rw [if_neg q] at h
      refine mRunF.sg (mSl mk_247 14 5) (g := (31, [some (.ref 64), some (.int a0), some (.int a1)], [.int a0, .ref 95, .int a0, .ref 64], mSS M)) (by decide +kernel) rfl ?_
      obtain ⟨g7, h⟩ := grd_of h
      refine R_iald (by decide +kernel) rfl g7 ?_
      refine mRunF.sg (mSl mk_247 20 3) (g := (35, [some (.ref 64), some (.int a0), some (.int a1)], [.ref 64, .int ((M.1 95 a0.toNatClampNeg) + a1), .int a0, .ref 64], mSS M)) (by decide +kernel) rfl ?_
      obtain ⟨r9, q8, h⟩ := bR_of h
      refine R_callV (mi := 210) (na := 1) (ci := 12) (i := 64) (as := []) (r := [.int ((M.1 95 a0.toNatClampNeg) + a1), .int a0, .ref 64]) (rv := some (.int r9)) (σ1 := mSS M) ⟨313, by decide +kernel⟩ rfl rfl rfl rfl (Mo_hours_r N M (d + 2) q8) ?_
      show mRunF _ _ (38, [some (.ref 64), some (.int a0), some (.int a1)], [.int r9, .int ((M.1 95 a0.toNatClampNeg) + a1), .int a0, .ref 64], mSS M)
      obtain ⟨g10, h⟩ := nz_of h
      refine R_rem (by decide +kernel) g10 ?_
      obtain ⟨r13, M12, q11, h⟩ := bW_of h
      refine R_callV (mi := 246) (na := 3) (ci := 12) (i := 64) (as := [.int a0, .int (((M.1 95 a0.toNatClampNeg) + a1) - ((M.1 95 a0.toNatClampNeg) + a1) / r9 * r9)]) (r := []) (rv := some (.int r13)) (σ1 := mSS M12) ⟨416, by decide +kernel⟩ rfl rfl rfl rfl (Mo_does_r N a0 (((M.1 95 a0.toNatClampNeg) + a1) - ((M.1 95 a0.toNatClampNeg) + a1) / r9 * r9) M (d + 0) q11) ?_
      have b14 := mBool rfl (Mo_does_r N a0 (((M.1 95 a0.toNatClampNeg) + a1) - ((M.1 95 a0.toNatClampNeg) + a1) / r9 * r9) M (d + 0) q11)
      show mRunF _ _ (42, [some (.ref 64), some (.int a0), some (.int a1)], [.int r13], mSS M12)
      refine mRunF.sg (mSl mk_247 26 4) (g := (48, [some (.ref 64), some (.int a0), some (.int a1)], [.int a0, .ref 95], mSS M12)) (by decide +kernel) rfl ?_
      obtain ⟨g15, h⟩ := grd_of h
      refine R_iald (by decide +kernel) rfl g15 ?_
      cases h
      exact R_iret (by decide +kernel)
set_option maxRecDepth 100000 in
set_option maxHeartbeats 4000000 in
theorem Mo_follow_r (N : Nat) (a0 : Int32) (a1 : Int32) (M : mS) {r : Int32} {M' : mS} (d : Nat) (h : Mo_follow N a0 a1 M = some (r, M')) : mMet mP mTx (d + 4) 248 [.ref 64, .int a0, .int a1] (mSS M) (some (.int r)) (mSS M') := by
  refine mMet_i ⟨Nat.le_refl _, Nat.le_refl _, Nat.le_of_ble_eq_true rfl⟩ ?_
  unfold Mo_follow at h
  show mRunF (mCd 248) (mEE (mMet mP mTx (d + 3)) (some .boolean) (some (.int r)) M') (0, [some (.ref 64), some (.int a0), some (.int a1)], [], mSS M)
  refine mRunF.sg (mSl mk_248 0 2) (g := (2, [some (.ref 64), some (.int a0), some (.int a1)], [.int a0, .ref 64], mSS M)) (by decide +kernel) rfl ?_
  obtain ⟨r2, q1, h⟩ := bR_of h
  refine R_callV (mi := 213) (na := 2) (ci := 12) (i := 64) (as := [.int a0]) (r := []) (rv := some (.int r2)) (σ1 := mSS M) ⟨320, by decide +kernel⟩ rfl rfl rfl rfl (Mo_isGoer_r N a0 M (d + 1) q1) ?_
  have b3 := mBool rfl (Mo_isGoer_r N a0 M (d + 1) q1)
  show mRunF _ _ (5, [some (.ref 64), some (.int a0), some (.int a1)], [.int r2], mSS M)
  refine R_eq (t := 45) ⟨40, by decide +kernel⟩ (fun q => ?_) (fun q => ?_)
  · rw [if_pos q] at h
    refine mRunF.sg (mSl mk_248 25 1) (g := (46, [some (.ref 64), some (.int a0), some (.int a1)], [.int 0], mSS M)) (by decide +kernel) rfl ?_
    cases h
    exact R_zret (by decide +kernel) (Or.inl rfl)
  · rw [if_neg q] at h
    refine mRunF.sg (mSl mk_248 4 2) (g := (10, [some (.ref 64), some (.int a0), some (.int a1)], [.int a1, .ref 64], mSS M)) (by decide +kernel) rfl ?_
    obtain ⟨r5, q4, h⟩ := bR_of h
    refine R_callV (mi := 212) (na := 2) (ci := 12) (i := 64) (as := [.int a1]) (r := []) (rv := some (.int r5)) (σ1 := mSS M) ⟨394, by decide +kernel⟩ rfl rfl rfl rfl (Mo_isDial_r N a1 M (d + 1) q4) ?_
    have b6 := mBool rfl (Mo_isDial_r N a1 M (d + 1) q4)
    show mRunF _ _ (13, [some (.ref 64), some (.int a0), some (.int a1)], [.int r5], mSS M)
    refine R_eq (t := 45) ⟨32, by decide +kernel⟩ (fun q => ?_) (fun q => ?_)
    · rw [if_pos q] at h
      refine mRunF.sg (mSl mk_248 25 1) (g := (46, [some (.ref 64), some (.int a0), some (.int a1)], [.int 0], mSS M)) (by decide +kernel) rfl ?_
      cases h
      exact R_zret (by decide +kernel) (Or.inl rfl)
    · rw [if_neg q] at h
      refine mRunF.sg (mSl mk_248 8 5) (g := (24, [some (.ref 64), some (.int a0), some (.int a1)], [.int (8 + a0), .ref 95], mSS M)) (by decide +kernel) rfl ?_
      obtain ⟨g7, h⟩ := grd_of h
      refine R_iald (by decide +kernel) rfl g7 ?_
      refine mRunF.sg (mSl mk_248 14 1) (g := (26, [some (.ref 64), some (.int a0), some (.int a1)], [.int a1, .int (M.1 95 (8 + a0).toNatClampNeg)], mSS M)) (by decide +kernel) rfl ?_
      refine R_ieq (t := 45) ⟨19, by decide +kernel⟩ (fun q => ?_) (fun q => ?_)
      · rw [if_pos q] at h
        refine mRunF.sg (mSl mk_248 25 1) (g := (46, [some (.ref 64), some (.int a0), some (.int a1)], [.int 0], mSS M)) (by decide +kernel) rfl ?_
        cases h
        exact R_zret (by decide +kernel) (Or.inl rfl)
      · rw [if_neg q] at h
        refine mRunF.sg (mSl mk_248 16 5) (g := (35, [some (.ref 64), some (.int a0), some (.int a1)], [.int a1, .int (8 + a0), .ref 64], mSS M)) (by decide +kernel) rfl ?_
        obtain ⟨r10, M9, q8, h⟩ := bW_of h
        refine R_callV (mi := 246) (na := 3) (ci := 12) (i := 64) (as := [.int (8 + a0), .int a1]) (r := []) (rv := some (.int r10)) (σ1 := mSS M9) ⟨416, by decide +kernel⟩ rfl rfl rfl rfl (Mo_does_r N (8 + a0) a1 M (d + 0) q8) ?_
        have b11 := mBool rfl (Mo_does_r N (8 + a0) a1 M (d + 0) q8)
        show mRunF _ _ (38, [some (.ref 64), some (.int a0), some (.int a1)], [.int r10], mSS M9)
        refine R_eq (t := 45) ⟨7, by decide +kernel⟩ (fun q => ?_) (fun q => ?_)
        · rw [if_pos q] at h
          refine mRunF.sg (mSl mk_248 25 1) (g := (46, [some (.ref 64), some (.int a0), some (.int a1)], [.int 0], mSS M9)) (by decide +kernel) rfl ?_
          cases h
          exact R_zret (by decide +kernel) (Or.inl rfl)
        · rw [if_neg q] at h
          refine mRunF.sg (mSl mk_248 23 2) (g := (46, [some (.ref 64), some (.int a0), some (.int a1)], [.int 1], mSS M9)) (by decide +kernel) rfl ?_
          cases h
          exact R_zret (by decide +kernel) (Or.inr rfl)
set_option maxRecDepth 100000 in
set_option maxHeartbeats 4000000 in
theorem Mo_slip_r (N : Nat) (a0 : Int32) (a1 : Int32) (M : mS) {r : Int32} {M' : mS} (d : Nat) (h : Mo_slip N a0 a1 M = some (r, M')) : mMet mP mTx (d + 4) 249 [.ref 64, .int a0, .int a1] (mSS M) (some (.int r)) (mSS M') := by
  refine mMet_i ⟨Nat.le_refl _, Nat.le_refl _, Nat.le_of_ble_eq_true rfl⟩ ?_
  unfold Mo_slip at h
  show mRunF (mCd 249) (mEE (mMet mP mTx (d + 3)) (some .boolean) (some (.int r)) M') (0, [some (.ref 64), some (.int a0), some (.int a1)], [], mSS M)
  refine mRunF.sg (mSl mk_249 0 2) (g := (2, [some (.ref 64), some (.int a0), some (.int a1)], [.int a0, .ref 64], mSS M)) (by decide +kernel) rfl ?_
  obtain ⟨r2, q1, h⟩ := bR_of h
  refine R_callV (mi := 212) (na := 2) (ci := 12) (i := 64) (as := [.int a0]) (r := []) (rv := some (.int r2)) (σ1 := mSS M) ⟨394, by decide +kernel⟩ rfl rfl rfl rfl (Mo_isDial_r N a0 M (d + 1) q1) ?_
  have b3 := mBool rfl (Mo_isDial_r N a0 M (d + 1) q1)
  show mRunF _ _ (5, [some (.ref 64), some (.int a0), some (.int a1)], [.int r2], mSS M)
  refine R_eq (t := 43) ⟨38, by decide +kernel⟩ (fun q => ?_) (fun q => ?_)
  · rw [if_pos q] at h
    refine mRunF.sg (mSl mk_249 25 1) (g := (44, [some (.ref 64), some (.int a0), some (.int a1)], [.int 0], mSS M)) (by decide +kernel) rfl ?_
    cases h
    exact R_zret (by decide +kernel) (Or.inl rfl)
  · rw [if_neg q] at h
    refine mRunF.sg (mSl mk_249 4 2) (g := (10, [some (.ref 64), some (.int a0), some (.int a1)], [.int a1, .ref 64], mSS M)) (by decide +kernel) rfl ?_
    obtain ⟨r5, q4, h⟩ := bR_of h
    refine R_callV (mi := 211) (na := 2) (ci := 12) (i := 64) (as := [.int a1]) (r := []) (rv := some (.int r5)) (σ1 := mSS M) ⟨397, by decide +kernel⟩ rfl rfl rfl rfl (Mo_isHour_r N a1 M (d + 1) q4) ?_
    have b6 := mBool rfl (Mo_isHour_r N a1 M (d + 1) q4)
    show mRunF _ _ (13, [some (.ref 64), some (.int a0), some (.int a1)], [.int r5], mSS M)
    refine R_eq (t := 43) ⟨30, by decide +kernel⟩ (fun q => ?_) (fun q => ?_)
    · rw [if_pos q] at h
      refine mRunF.sg (mSl mk_249 25 1) (g := (44, [some (.ref 64), some (.int a0), some (.int a1)], [.int 0], mSS M)) (by decide +kernel) rfl ?_
      cases h
      exact R_zret (by decide +kernel) (Or.inl rfl)
    · rw [if_neg q] at h
      refine mRunF.sg (mSl mk_249 8 5) (g := (23, [some (.ref 64), some (.int a0), some (.int a1)], [.int (4 + a0), .ref 95], mSS M)) (by decide +kernel) rfl ?_
      obtain ⟨g7, h⟩ := grd_of h
      refine R_iald (by decide +kernel) rfl g7 ?_
      refine mRunF.sg (mSl mk_249 14 1) (g := (25, [some (.ref 64), some (.int a0), some (.int a1)], [.int a1, .int (M.1 95 (4 + a0).toNatClampNeg)], mSS M)) (by decide +kernel) rfl ?_
      refine R_ieq (t := 43) ⟨18, by decide +kernel⟩ (fun q => ?_) (fun q => ?_)
      · rw [if_pos q] at h
        refine mRunF.sg (mSl mk_249 25 1) (g := (44, [some (.ref 64), some (.int a0), some (.int a1)], [.int 0], mSS M)) (by decide +kernel) rfl ?_
        cases h
        exact R_zret (by decide +kernel) (Or.inl rfl)
      · rw [if_neg q] at h
        refine mRunF.sg (mSl mk_249 16 5) (g := (33, [some (.ref 64), some (.int a0), some (.int a1)], [.int a1, .int (4 + a0), .ref 64], mSS M)) (by decide +kernel) rfl ?_
        obtain ⟨r10, M9, q8, h⟩ := bW_of h
        refine R_callV (mi := 246) (na := 3) (ci := 12) (i := 64) (as := [.int (4 + a0), .int a1]) (r := []) (rv := some (.int r10)) (σ1 := mSS M9) ⟨416, by decide +kernel⟩ rfl rfl rfl rfl (Mo_does_r N (4 + a0) a1 M (d + 0) q8) ?_
        have b11 := mBool rfl (Mo_does_r N (4 + a0) a1 M (d + 0) q8)
        show mRunF _ _ (36, [some (.ref 64), some (.int a0), some (.int a1)], [.int r10], mSS M9)
        refine R_eq (t := 43) ⟨7, by decide +kernel⟩ (fun q => ?_) (fun q => ?_)
        · rw [if_pos q] at h
          refine mRunF.sg (mSl mk_249 25 1) (g := (44, [some (.ref 64), some (.int a0), some (.int a1)], [.int 0], mSS M9)) (by decide +kernel) rfl ?_
          cases h
          exact R_zret (by decide +kernel) (Or.inl rfl)
        · rw [if_neg q] at h
          refine mRunF.sg (mSl mk_249 23 2) (g := (44, [some (.ref 64), some (.int a0), some (.int a1)], [.int 1], mSS M9)) (by decide +kernel) rfl ?_
          cases h
          exact R_zret (by decide +kernel) (Or.inr rfl)
set_option maxRecDepth 100000 in
set_option maxHeartbeats 4000000 in
theorem Mo_isLong_r (a0 : Int32) (M : mS) (d : Nat) : mMet mP mTx (d + 2) 250 [.int a0] (mSS M) (some (.int (Mo_isLong a0 M))) (mSS M) := by
  refine mMet_i ⟨Nat.le_refl _, Nat.le_refl _, Nat.le_of_ble_eq_true rfl⟩ ?_
  generalize h : Mo_isLong a0 M = r
  unfold Mo_isLong at h
  show mRunF (mCd 250) (mEE (mMet mP mTx (d + 1)) (some .boolean) (some (.int r)) M) (0, [some (.int a0)], [], mSS M)
  refine mRunF.sg (mSl mk_250 0 3) (g := (5, [some (.int a0)], [.int 200, .int 0, .int a0], mSS M)) (by decide +kernel) rfl ?_
  refine R_callS (mi := 206) (na := 3) (as := [.int a0, .int 0, .int 200]) (r := []) (rv := some (.int (Mo_in a0 0 200 M))) (σ1 := mSS M) ⟨316, by decide +kernel⟩ rfl rfl rfl (Mo_in_r a0 0 200 M (d + 0)) ?_
  have b1 := mBool rfl (Mo_in_r a0 0 200 M (d + 0))
  show mRunF _ _ (8, [some (.int a0)], [.int (Mo_in a0 0 200 M)], mSS M)
  subst h
  exact R_zret (by decide +kernel) b1
set_option maxRecDepth 100000 in
set_option maxHeartbeats 4000000 in
theorem Mo_othersBits_23_r {N d : Nat} {k4 : Int32 → Int32 → Int32 → Option Int32} {M : mS} {x1 : Int32} {x2 : Int32} {x3 : Int32} {r : Int32} (hk4 : ∀ (x1 : Int32) (x2 : Int32) (x3 : Int32), k4 x1 x2 x3 = some r → mRunF (mCd 234) (mEE (mMet mP mTx (d + 0)) (some .int) (some (.int r)) M) (4, [some (.ref 64), some (.int x1), some (.int x2), some (.int x3)], [], mSS M)) (h : Mo_othersBits_23 N k4 M x1 x2 x3 = some r) : mRunF (mCd 234) (mEE (mMet mP mTx (d + 0)) (some .int) (some (.int r)) M) (23, [some (.ref 64), some (.int x1), some (.int x2), some (.int x3)], [], mSS M) := by
  unfold Mo_othersBits_23 at h
  refine mRunF.sg (mSl mk_234 17 2) (g := (4, [some (.ref 64), some (.int x1), some (.int x2), some (.int (x3 + 1))], [], mSS M)) (by decide +kernel) rfl ?_
  exact hk4 _ _ _ h
set_option maxRecDepth 100000 in
set_option maxHeartbeats 4000000 in
theorem Mo_othersBits_4_r {N d : Nat}  {M : mS}  {r : Int32} : ∀ {n : Nat} {x1 : Int32} {x2 : Int32} {x3 : Int32}, Mo_othersBits_4 N M n x1 x2 x3 = some r → mRunF (mCd 234) (mEE (mMet mP mTx (d + 0)) (some .int) (some (.int r)) M) (4, [some (.ref 64), some (.int x1), some (.int x2), some (.int x3)], [], mSS M) := by
  intro n
  induction n with
  | zero => intro x1 x2 x3 h; cases h
  | succ n ih =>
    replace ih := @ih
    intro x1 x2 x3 h
    unfold Mo_othersBits_4 at h
    refine mRunF.sg (mSl mk_234 4 2) (g := (6, [some (.ref 64), some (.int x1), some (.int x2), some (.int x3)], [.int 5, .int x3], mSS M)) (by decide +kernel) rfl ?_
    refine R_ige (t := 29) ⟨23, by decide +kernel⟩ (fun q => ?_) (fun q => ?_)
    · rw [if_pos q] at h
      refine mRunF.sg (mSl mk_234 19 1) (g := (30, [some (.ref 64), some (.int x1), some (.int x2), some (.int x3)], [.int x2], mSS M)) (by decide +kernel) rfl ?_
      cases h
      exact R_iret (by decide +kernel)
    · rw [if_neg q] at h
      refine mRunF.sg (mSl mk_234 7 2) (g := (11, [some (.ref 64), some (.int x1), some (.int x2), some (.int x3)], [.int x1, .int x3], mSS M)) (by decide +kernel) rfl ?_
      refine R_ieq (t := 23) ⟨12, by decide +kernel⟩ (fun q => ?_) (fun q => ?_)
      · rw [if_pos q] at h
        exact Mo_othersBits_23_r (fun y0 y1 y2 hh => @ih y0 y1 y2 hh) h
      · rw [if_neg q] at h
        refine mRunF.sg (mSl mk_234 10 4) (g := (20, [some (.ref 64), some (.int x1), some (.int x2), some (.int x3)], [.int x3, .ref 97, .int x2], mSS M)) (by decide +kernel) rfl ?_
        obtain ⟨g1, h⟩ := grd_of h
        refine R_iald (by decide +kernel) rfl g1 ?_
        refine mRunF.sg (mSl mk_234 15 2) (g := (23, [some (.ref 64), some (.int x1), some (.int (x2 ||| (M.1 97 x3.toNatClampNeg))), some (.int x3)], [], mSS M)) (by decide +kernel) rfl ?_
        obtain ⟨v2, hv, h⟩ := nxt_ex h
        rw [← hv]
        clear hv
        exact Mo_othersBits_23_r (fun y0 y1 y2 hh => @ih y0 y1 y2 hh) h
set_option maxRecDepth 100000 in
set_option maxHeartbeats 4000000 in
theorem Mo_othersBits_r (N : Nat) (a0 : Int32) (M : mS) {r : Int32} (d : Nat) (h : Mo_othersBits N a0 M = some r) : mMet mP mTx (d + 1) 234 [.ref 64, .int a0] (mSS M) (some (.int r)) (mSS M) := by
  refine mMet_i ⟨Nat.le_refl _, Nat.le_refl _, Nat.le_of_ble_eq_true rfl⟩ ?_
  unfold Mo_othersBits at h
  show mRunF (mCd 234) (mEE (mMet mP mTx (d + 0)) (some .int) (some (.int r)) M) (0, [some (.ref 64), some (.int a0), none, none], [], mSS M)
  refine mRunF.sg (mSl mk_234 0 4) (g := (4, [some (.ref 64), some (.int a0), some (.int 0), some (.int 0)], [], mSS M)) (by decide +kernel) rfl ?_
  exact Mo_othersBits_4_r h
set_option maxRecDepth 100000 in
set_option maxHeartbeats 4000000 in
theorem Mo_bits_4_r {N d : Nat}  {M : mS}  {r : Int32} : ∀ {n : Nat} {x0 : Int32} {x1 : Int32} {x2 : Int32}, Mo_bits_4 N M n x0 x1 x2 = some r → mRunF (mCd 208) (mEE (mMet mP mTx (d + 0)) (some .int) (some (.int r)) M) (4, [some (.int x0), some (.int x1), some (.int x2)], [], mSS M) := by
  intro n
  induction n with
  | zero => intro x0 x1 x2 h; cases h
  | succ n ih =>
    replace ih := @ih
    intro x0 x1 x2 h
    unfold Mo_bits_4 at h
    refine mRunF.sg (mSl mk_208 4 2) (g := (7, [some (.int x0), some (.int x1), some (.int x2)], [.int 24, .int x2], mSS M)) (by decide +kernel) rfl ?_
    refine R_ige (t := 24) ⟨17, by decide +kernel⟩ (fun q => ?_) (fun q => ?_)
    · rw [if_pos q] at h
      refine mRunF.sg (mSl mk_208 17 1) (g := (25, [some (.int x0), some (.int x1), some (.int x2)], [.int x1], mSS M)) (by decide +kernel) rfl ?_
      cases h
      exact R_iret (by decide +kernel)
    · rw [if_neg q] at h
      refine mRunF.sg (mSl mk_208 7 8) (g := (18, [some (.int x0), some (.int (x1 + ((x0 >>> (x2 &&& 31)) &&& 1))), some (.int x2)], [], mSS M)) (by decide +kernel) rfl ?_
      obtain ⟨v1, hv, h⟩ := nxt_ex h
      rw [← hv]
      clear hv
      refine mRunF.sg (mSl mk_208 15 2) (g := (4, [some (.int x0), some (.int v1), some (.int (x2 + 1))], [], mSS M)) (by decide +kernel) rfl ?_
      exact @ih _ _ _ h
set_option maxRecDepth 100000 in
set_option maxHeartbeats 4000000 in
theorem Mo_bits_r (N : Nat) (a0 : Int32) (M : mS) {r : Int32} (d : Nat) (h : Mo_bits N a0 M = some r) : mMet mP mTx (d + 1) 208 [.int a0] (mSS M) (some (.int r)) (mSS M) := by
  refine mMet_i ⟨Nat.le_refl _, Nat.le_refl _, Nat.le_of_ble_eq_true rfl⟩ ?_
  unfold Mo_bits at h
  show mRunF (mCd 208) (mEE (mMet mP mTx (d + 0)) (some .int) (some (.int r)) M) (0, [some (.int a0), none, none], [], mSS M)
  refine mRunF.sg (mSl mk_208 0 4) (g := (4, [some (.int a0), some (.int 0), some (.int 0)], [], mSS M)) (by decide +kernel) rfl ?_
  exact Mo_bits_4_r h
set_option maxRecDepth 100000 in
set_option maxHeartbeats 4000000 in
theorem Mo_nightGoes_48_r {N d : Nat} {k6 : Int32 → mS → Option mS}  {M' : mS} (hk6 : ∀ (x1 : Int32) (M : mS), k6 x1 M = some M' → mRunF (mCd 235) (mEE (mMet mP mTx (d + 7)) (none) none M') (6, [some (.ref 64), some (.int x1), none], [], mSS M)) : ∀ {n : Nat} {x1 : Int32} {x2 : Int32} {M : mS}, Mo_nightGoes_48 N k6 n x1 x2 M = some M' → mRunF (mCd 235) (mEE (mMet mP mTx (d + 7)) (none) none M') (48, [some (.ref 64), some (.int x1), some (.int x2)], [], mSS M) := by
  intro n
  induction n with
  | zero => intro x1 x2 M h; cases h
  | succ n ih =>
    replace ih := @ih
    intro x1 x2 M h
    unfold Mo_nightGoes_48 at h
    refine mRunF.sg (mSl mk_235 31 2) (g := (50, [some (.ref 64), some (.int x1), some (.int x2)], [.int x1, .int x2], mSS M)) (by decide +kernel) rfl ?_
    refine R_ige (t := 91) ⟨41, by decide +kernel⟩ (fun q => ?_) (fun q => ?_)
    · rw [if_pos q] at h
      refine mRunF.sg (mSl mk_235 57 2) (g := (6, [some (.ref 64), some (.int (x1 + 1)), some (.int x2)], [], mSS M)) (by decide +kernel) rfl ?_
      refine mRunF.forget [true, true, false] ?_
      exact hk6 _ _ h
    · rw [if_neg q] at h
      refine mRunF.sg (mSl mk_235 34 5) (g := (61, [some (.ref 64), some (.int x1), some (.int x2)], [.int x2, .int x1, .int 18, .ref 96], mSS M)) (by decide +kernel) rfl ?_
      refine R_callS (mi := 209) (na := 2) (as := [.int x1, .int x2]) (r := [.int 18, .ref 96]) (rv := some (.int (Mo_pairAt x1 x2 M))) (σ1 := mSS M) ⟨388, by decide +kernel⟩ rfl rfl rfl (Mo_pairAt_r x1 x2 M (d + 6)) ?_
      show mRunF _ _ (64, [some (.ref 64), some (.int x1), some (.int x2)], [.int (Mo_pairAt x1 x2 M), .int 18, .ref 96], mSS M)
      refine mRunF.sg (mSl mk_235 40 2) (g := (66, [some (.ref 64), some (.int x1), some (.int x2)], [.int (18 + (Mo_pairAt x1 x2 M)), .ref 96, .int (18 + (Mo_pairAt x1 x2 M)), .ref 96], mSS M)) (by decide +kernel) rfl ?_
      obtain ⟨g1, h⟩ := grd_of h
      refine R_iald (by decide +kernel) rfl g1 ?_
      refine mRunF.sg (mSl mk_235 43 3) (g := (72, [some (.ref 64), some (.int x1), some (.int x2)], [.int x1, .ref 97, .int (M.1 96 (18 + (Mo_pairAt x1 x2 M)).toNatClampNeg), .int (18 + (Mo_pairAt x1 x2 M)), .ref 96], mSS M)) (by decide +kernel) rfl ?_
      obtain ⟨g2, h⟩ := grd_of h
      refine R_iald (by decide +kernel) rfl g2 ?_
      refine mRunF.sg (mSl mk_235 47 3) (g := (78, [some (.ref 64), some (.int x1), some (.int x2)], [.int x2, .ref 97, .int (M.1 97 x1.toNatClampNeg), .int (M.1 96 (18 + (Mo_pairAt x1 x2 M)).toNatClampNeg), .int (18 + (Mo_pairAt x1 x2 M)), .ref 96], mSS M)) (by decide +kernel) rfl ?_
      obtain ⟨g3, h⟩ := grd_of h
      refine R_iald (by decide +kernel) rfl g3 ?_
      refine mRunF.sg (mSl mk_235 51 1) (g := (80, [some (.ref 64), some (.int x1), some (.int x2)], [.int ((M.1 97 x1.toNatClampNeg) &&& (M.1 97 x2.toNatClampNeg)), .int (M.1 96 (18 + (Mo_pairAt x1 x2 M)).toNatClampNeg), .int (18 + (Mo_pairAt x1 x2 M)), .ref 96], mSS M)) (by decide +kernel) rfl ?_
      obtain ⟨r5, q4, h⟩ := bR_of h
      refine R_callS (mi := 208) (na := 1) (as := [.int ((M.1 97 x1.toNatClampNeg) &&& (M.1 97 x2.toNatClampNeg))]) (r := [.int (M.1 96 (18 + (Mo_pairAt x1 x2 M)).toNatClampNeg), .int (18 + (Mo_pairAt x1 x2 M)), .ref 96]) (rv := some (.int r5)) (σ1 := mSS M) ⟨385, by decide +kernel⟩ rfl rfl rfl (Mo_bits_r N ((M.1 97 x1.toNatClampNeg) &&& (M.1 97 x2.toNatClampNeg)) M (d + 6) q4) ?_
      show mRunF _ _ (83, [some (.ref 64), some (.int x1), some (.int x2)], [.int r5, .int (M.1 96 (18 + (Mo_pairAt x1 x2 M)).toNatClampNeg), .int (18 + (Mo_pairAt x1 x2 M)), .ref 96], mSS M)
      refine mRunF.sg (mSl mk_235 53 1) (g := (84, [some (.ref 64), some (.int x1), some (.int x2)], [.int ((M.1 96 (18 + (Mo_pairAt x1 x2 M)).toNatClampNeg) + r5), .int (18 + (Mo_pairAt x1 x2 M)), .ref 96], mSS M)) (by decide +kernel) rfl ?_
      obtain ⟨g6, h⟩ := grd_of h
      refine R_iast (by decide +kernel) rfl g6 ?_
      obtain ⟨M7, hv, h⟩ := nxt_ex h
      rw [← hv]
      clear hv
      refine mRunF.sg (mSl mk_235 55 2) (g := (48, [some (.ref 64), some (.int x1), some (.int (x2 + 1))], [], mSS M7)) (by decide +kernel) rfl ?_
      exact @ih _ _ _ h
set_option maxRecDepth 100000 in
set_option maxHeartbeats 4000000 in
theorem Mo_nightGoes_99_r {N d : Nat}   {M' : mS} : ∀ {n : Nat} {x1 : Int32} {M : mS}, Mo_nightGoes_99 N n x1 M = some M' → mRunF (mCd 235) (mEE (mMet mP mTx (d + 7)) (none) none M') (99, [some (.ref 64), some (.int x1), none], [], mSS M) := by
  intro n
  induction n with
  | zero => intro x1 M h; cases h
  | succ n ih =>
    replace ih := @ih
    intro x1 M h
    unfold Mo_nightGoes_99 at h
    refine mRunF.sg (mSl mk_235 61 5) (g := (108, [some (.ref 64), some (.int x1), none], [.int (M.1 64 18), .ref 75, .int x1], mSS M)) (by decide +kernel) rfl ?_
    obtain ⟨g8, h⟩ := grd_of h
    refine R_iald (by decide +kernel) rfl g8 ?_
    refine R_ige (t := 144) ⟨35, by decide +kernel⟩ (fun q => ?_) (fun q => ?_)
    · rw [if_pos q] at h
      refine mRunF.sg (mSl mk_235 88 4) (g := (151, [some (.ref 64), some (.int x1), none], [.int 28, .ref 96, .int 28, .ref 96], mSS M)) (by decide +kernel) rfl ?_
      refine R_iald (by decide +kernel) rfl rfl ?_
      show mRunF _ _ (152, [some (.ref 64), some (.int x1), none], [.int (M.1 96 28), .int 28, .ref 96], mSS M)
      refine mRunF.sg (mSl mk_235 93 2) (g := (154, [some (.ref 64), some (.int x1), none], [.int ((M.1 96 28) + 1), .int 28, .ref 96], mSS M)) (by decide +kernel) rfl ?_
      refine R_iast (by decide +kernel) rfl rfl ?_
      show mRunF _ _ (_, _, _, mSS (mWI M 96 28 ((M.1 96 28) + 1)))
      obtain ⟨M9, hv, h⟩ := nxt_ex h
      rw [← hv]
      clear hv
      cases h
      exact R_vret (by decide +kernel)
    · rw [if_neg q] at h
      refine mRunF.sg (mSl mk_235 68 6) (g := (122, [some (.ref 64), some (.int x1), none], [.int x1, .ref 96, .int x1, .ref 96], mSS M)) (by decide +kernel) rfl ?_
      obtain ⟨g10, h⟩ := grd_of h
      refine R_iald (by decide +kernel) rfl g10 ?_
      refine mRunF.sg (mSl mk_235 75 5) (g := (130, [some (.ref 64), some (.int x1), none], [.int (4 + x1), .ref 96, .int (M.1 96 x1.toNatClampNeg), .int x1, .ref 96], mSS M)) (by decide +kernel) rfl ?_
      obtain ⟨g11, h⟩ := grd_of h
      refine R_iald (by decide +kernel) rfl g11 ?_
      refine mRunF.sg (mSl mk_235 81 2) (g := (133, [some (.ref 64), some (.int x1), none], [.ref 64, .int ((M.1 96 x1.toNatClampNeg) + (M.1 96 (4 + x1).toNatClampNeg)), .int x1, .ref 96], mSS M)) (by decide +kernel) rfl ?_
      obtain ⟨r13, q12, h⟩ := bR_of h
      refine R_callV (mi := 210) (na := 1) (ci := 12) (i := 64) (as := []) (r := [.int ((M.1 96 x1.toNatClampNeg) + (M.1 96 (4 + x1).toNatClampNeg)), .int x1, .ref 96]) (rv := some (.int r13)) (σ1 := mSS M) ⟨313, by decide +kernel⟩ rfl rfl rfl rfl (Mo_hours_r N M (d + 6) q12) ?_
      show mRunF _ _ (136, [some (.ref 64), some (.int x1), none], [.int r13, .int ((M.1 96 x1.toNatClampNeg) + (M.1 96 (4 + x1).toNatClampNeg)), .int x1, .ref 96], mSS M)
      obtain ⟨g14, h⟩ := nz_of h
      refine R_rem (by decide +kernel) g14 ?_
      obtain ⟨g15, h⟩ := grd_of h
      refine R_iast (by decide +kernel) rfl g15 ?_
      obtain ⟨M16, hv, h⟩ := nxt_ex h
      rw [← hv]
      clear hv
      refine mRunF.sg (mSl mk_235 86 2) (g := (99, [some (.ref 64), some (.int (x1 + 1)), none], [], mSS M16)) (by decide +kernel) rfl ?_
      exact @ih _ _ h
set_option maxRecDepth 100000 in
set_option maxHeartbeats 4000000 in
theorem Mo_nightGoes_6_r {N d : Nat}   {M' : mS} : ∀ {n : Nat} {x1 : Int32} {M : mS}, Mo_nightGoes_6 N n x1 M = some M' → mRunF (mCd 235) (mEE (mMet mP mTx (d + 7)) (none) none M') (6, [some (.ref 64), some (.int x1), none], [], mSS M) := by
  intro n
  induction n with
  | zero => intro x1 M h; cases h
  | succ n ih =>
    replace ih := @ih
    intro x1 M h
    unfold Mo_nightGoes_6 at h
    refine mRunF.sg (mSl mk_235 4 5) (g := (15, [some (.ref 64), some (.int x1), none], [.int (M.1 64 18), .ref 78, .int x1], mSS M)) (by decide +kernel) rfl ?_
    obtain ⟨g17, h⟩ := grd_of h
    refine R_iald (by decide +kernel) rfl g17 ?_
    refine R_ige (t := 97) ⟨81, by decide +kernel⟩ (fun q => ?_) (fun q => ?_)
    · rw [if_pos q] at h
      refine mRunF.sg (mSl mk_235 59 2) (g := (99, [some (.ref 64), some (.int 0), none], [], mSS M)) (by decide +kernel) rfl ?_
      exact Mo_nightGoes_99_r h
    · rw [if_neg q] at h
      refine mRunF.sg (mSl mk_235 11 6) (g := (28, [some (.ref 64), some (.int x1), none], [.int (13 + x1), .ref 96, .int (13 + x1), .ref 96], mSS M)) (by decide +kernel) rfl ?_
      obtain ⟨g18, h⟩ := grd_of h
      refine R_iald (by decide +kernel) rfl g18 ?_
      refine mRunF.sg (mSl mk_235 18 3) (g := (34, [some (.ref 64), some (.int x1), none], [.int x1, .ref 97, .int (M.1 96 (13 + x1).toNatClampNeg), .int (13 + x1), .ref 96], mSS M)) (by decide +kernel) rfl ?_
      obtain ⟨g19, h⟩ := grd_of h
      refine R_iald (by decide +kernel) rfl g19 ?_
      refine mRunF.sg (mSl mk_235 22 2) (g := (37, [some (.ref 64), some (.int x1), none], [.int x1, .ref 64, .int (M.1 97 x1.toNatClampNeg), .int (M.1 96 (13 + x1).toNatClampNeg), .int (13 + x1), .ref 96], mSS M)) (by decide +kernel) rfl ?_
      obtain ⟨r21, q20, h⟩ := bR_of h
      refine R_callV (mi := 234) (na := 2) (ci := 12) (i := 64) (as := [.int x1]) (r := [.int (M.1 97 x1.toNatClampNeg), .int (M.1 96 (13 + x1).toNatClampNeg), .int (13 + x1), .ref 96]) (rv := some (.int r21)) (σ1 := mSS M) ⟨382, by decide +kernel⟩ rfl rfl rfl rfl (Mo_othersBits_r N x1 M (d + 6) q20) ?_
      show mRunF _ _ (40, [some (.ref 64), some (.int x1), none], [.int r21, .int (M.1 97 x1.toNatClampNeg), .int (M.1 96 (13 + x1).toNatClampNeg), .int (13 + x1), .ref 96], mSS M)
      refine mRunF.sg (mSl mk_235 25 1) (g := (41, [some (.ref 64), some (.int x1), none], [.int ((M.1 97 x1.toNatClampNeg) &&& r21), .int (M.1 96 (13 + x1).toNatClampNeg), .int (13 + x1), .ref 96], mSS M)) (by decide +kernel) rfl ?_
      obtain ⟨r23, q22, h⟩ := bR_of h
      refine R_callS (mi := 208) (na := 1) (as := [.int ((M.1 97 x1.toNatClampNeg) &&& r21)]) (r := [.int (M.1 96 (13 + x1).toNatClampNeg), .int (13 + x1), .ref 96]) (rv := some (.int r23)) (σ1 := mSS M) ⟨385, by decide +kernel⟩ rfl rfl rfl (Mo_bits_r N ((M.1 97 x1.toNatClampNeg) &&& r21) M (d + 6) q22) ?_
      show mRunF _ _ (44, [some (.ref 64), some (.int x1), none], [.int r23, .int (M.1 96 (13 + x1).toNatClampNeg), .int (13 + x1), .ref 96], mSS M)
      refine mRunF.sg (mSl mk_235 27 1) (g := (45, [some (.ref 64), some (.int x1), none], [.int ((M.1 96 (13 + x1).toNatClampNeg) + r23), .int (13 + x1), .ref 96], mSS M)) (by decide +kernel) rfl ?_
      obtain ⟨g24, h⟩ := grd_of h
      refine R_iast (by decide +kernel) rfl g24 ?_
      obtain ⟨M25, hv, h⟩ := nxt_ex h
      rw [← hv]
      clear hv
      refine mRunF.sg (mSl mk_235 29 2) (g := (48, [some (.ref 64), some (.int x1), some (.int 0)], [], mSS M25)) (by decide +kernel) rfl ?_
      exact Mo_nightGoes_48_r (fun y0 y1 hh => @ih y0 y1 hh) h
set_option maxRecDepth 100000 in
set_option maxHeartbeats 4000000 in
theorem Mo_nightGoes_r (N : Nat)  (M : mS) {M' : mS} (d : Nat) (h : Mo_nightGoes N M = some M') : mMet mP mTx (d + 8) 235 [.ref 64] (mSS M) none (mSS M') := by
  refine mMet_i ⟨Nat.le_refl _, Nat.le_refl _, Nat.le_of_ble_eq_true rfl⟩ ?_
  unfold Mo_nightGoes at h
  show mRunF (mCd 235) (mEE (mMet mP mTx (d + 7)) (none) none M') (0, [some (.ref 64), none, none], [], mSS M)
  refine mRunF.sg (mSl mk_235 0 1) (g := (1, [some (.ref 64), none, none], [.ref 64], mSS M)) (by decide +kernel) rfl ?_
  obtain ⟨M27, q26, h⟩ := bV_of h
  refine R_callV (mi := 233) (na := 1) (ci := 12) (i := 64) (as := []) (r := []) (rv := none) (σ1 := mSS M27) ⟨379, by decide +kernel⟩ rfl rfl rfl rfl (Mo_fillsThere_r N M (d + 0) q26) ?_
  show mRunF _ _ (4, [some (.ref 64), none, none], [], mSS M27)
  refine mRunF.sg (mSl mk_235 2 2) (g := (6, [some (.ref 64), some (.int 0), none], [], mSS M27)) (by decide +kernel) rfl ?_
  exact Mo_nightGoes_6_r h
set_option maxRecDepth 100000 in
set_option maxHeartbeats 4000000 in
theorem Mo_goes_2_r {N d : Nat}   {M' : mS} : ∀ {n : Nat} {x1 : Int32} {x2 : Int32} {M : mS}, Mo_goes_2 N n x1 x2 M = some M' → mRunF (mCd 236) (mEE (mMet mP mTx (d + 8)) (none) none M') (2, [some (.ref 64), some (.int x1), some (.int x2)], [], mSS M) := by
  intro n
  induction n with
  | zero => intro x1 x2 M h; cases h
  | succ n ih =>
    replace ih := @ih
    intro x1 x2 M h
    unfold Mo_goes_2 at h
    refine mRunF.sg (mSl mk_236 2 2) (g := (4, [some (.ref 64), some (.int x1), some (.int x2)], [.int x1, .int x2], mSS M)) (by decide +kernel) rfl ?_
    refine R_ige (t := 17) ⟨13, by decide +kernel⟩ (fun q => ?_) (fun q => ?_)
    · rw [if_pos q] at h
      cases h
      exact R_vret (by decide +kernel)
    · rw [if_neg q] at h
      refine mRunF.sg (mSl mk_236 5 1) (g := (8, [some (.ref 64), some (.int x1), some (.int x2)], [.ref 64], mSS M)) (by decide +kernel) rfl ?_
      obtain ⟨M2, q1, h⟩ := bV_of h
      refine R_callV (mi := 235) (na := 1) (ci := 12) (i := 64) (as := []) (r := []) (rv := none) (σ1 := mSS M2) ⟨391, by decide +kernel⟩ rfl rfl rfl rfl (Mo_nightGoes_r N M (d + 0) q1) ?_
      show mRunF _ _ (11, [some (.ref 64), some (.int x1), some (.int x2)], [], mSS M2)
      refine mRunF.sg (mSl mk_236 7 2) (g := (2, [some (.ref 64), some (.int x1), some (.int (x2 + 1))], [], mSS M2)) (by decide +kernel) rfl ?_
      exact @ih _ _ _ h
set_option maxRecDepth 100000 in
set_option maxHeartbeats 4000000 in
theorem Mo_goes_r (N : Nat) (a0 : Int32) (M : mS) {M' : mS} (d : Nat) (h : Mo_goes N a0 M = some M') : mMet mP mTx (d + 9) 236 [.ref 64, .int a0] (mSS M) none (mSS M') := by
  refine mMet_i ⟨Nat.le_refl _, Nat.le_refl _, Nat.le_of_ble_eq_true rfl⟩ ?_
  unfold Mo_goes at h
  show mRunF (mCd 236) (mEE (mMet mP mTx (d + 8)) (none) none M') (0, [some (.ref 64), some (.int a0), none], [], mSS M)
  refine mRunF.sg (mSl mk_236 0 2) (g := (2, [some (.ref 64), some (.int a0), some (.int 0)], [], mSS M)) (by decide +kernel) rfl ?_
  exact Mo_goes_2_r h
set_option maxRecDepth 100000 in
set_option maxHeartbeats 4000000 in
theorem Mo_nights_r (N : Nat) (a0 : Int32) (M : mS) {r : Int32} {M' : mS} (d : Nat) (h : Mo_nights N a0 M = some (r, M')) : mMet mP mTx (d + 10) 252 [.ref 64, .int a0] (mSS M) (some (.int r)) (mSS M') := by
  refine mMet_i ⟨Nat.le_refl _, Nat.le_refl _, Nat.le_of_ble_eq_true rfl⟩ ?_
  unfold Mo_nights at h
  show mRunF (mCd 252) (mEE (mMet mP mTx (d + 9)) (some .int) (some (.int r)) M') (0, [some (.ref 64), some (.int a0)], [], mSS M)
  refine mRunF.sg (mSl mk_252 0 1) (g := (1, [some (.ref 64), some (.int a0)], [.int a0], mSS M)) (by decide +kernel) rfl ?_
  refine R_callS (mi := 250) (na := 1) (as := [.int a0]) (r := []) (rv := some (.int (Mo_isLong a0 M))) (σ1 := mSS M) ⟨419, by decide +kernel⟩ rfl rfl rfl (Mo_isLong_r a0 M (d + 7)) ?_
  have b1 := mBool rfl (Mo_isLong_r a0 M (d + 7))
  show mRunF _ _ (4, [some (.ref 64), some (.int a0)], [.int (Mo_isLong a0 M)], mSS M)
  refine R_ne (t := 9) ⟨5, by decide +kernel⟩ (fun q => ?_) (fun q => ?_)
  · rw [if_pos q] at h
    refine mRunF.sg (mSl mk_252 3 1) (g := (8, [some (.ref 64), some (.int a0)], [.int (-1)], mSS M)) (by decide +kernel) rfl ?_
    cases h
    exact R_iret (by decide +kernel)
  · rw [if_neg q] at h
    refine mRunF.sg (mSl mk_252 5 1) (g := (10, [some (.ref 64), some (.int a0)], [.int a0], mSS M)) (by decide +kernel) rfl ?_
    refine R_ne (t := 21) ⟨11, by decide +kernel⟩ (fun q => ?_) (fun q => ?_)
    · rw [if_pos q] at h
      refine mRunF.sg (mSl mk_252 7 3) (g := (19, [some (.ref 64), some (.int a0)], [.int 28, .ref 95], mSS M)) (by decide +kernel) rfl ?_
      refine R_iald (by decide +kernel) rfl rfl ?_
      show mRunF _ _ (20, [some (.ref 64), some (.int a0)], [.int (M.1 95 28)], mSS M)
      cases h
      exact R_iret (by decide +kernel)
    · rw [if_neg q] at h
      refine mRunF.sg (mSl mk_252 12 1) (g := (22, [some (.ref 64), some (.int a0)], [.ref 64], mSS M)) (by decide +kernel) rfl ?_
      obtain ⟨M3, q2, h⟩ := bV_of h
      refine R_callV (mi := 218) (na := 1) (ci := 12) (i := 64) (as := []) (r := []) (rv := none) (σ1 := mSS M3) ⟨329, by decide +kernel⟩ rfl rfl rfl rfl (Mo_copies_r N M (d + 8) q2) ?_
      show mRunF _ _ (25, [some (.ref 64), some (.int a0)], [], mSS M3)
      refine mRunF.sg (mSl mk_252 14 2) (g := (27, [some (.ref 64), some (.int a0)], [.int a0, .ref 64], mSS M3)) (by decide +kernel) rfl ?_
      obtain ⟨M5, q4, h⟩ := bV_of h
      refine R_callV (mi := 236) (na := 2) (ci := 12) (i := 64) (as := [.int a0]) (r := []) (rv := none) (σ1 := mSS M5) ⟨422, by decide +kernel⟩ rfl rfl rfl rfl (Mo_goes_r N a0 M3 (d + 0) q4) ?_
      show mRunF _ _ (30, [some (.ref 64), some (.int a0)], [], mSS M5)
      refine mRunF.sg (mSl mk_252 17 1) (g := (31, [some (.ref 64), some (.int a0)], [.ref 64], mSS M5)) (by decide +kernel) rfl ?_
      obtain ⟨M7, q6, h⟩ := bV_of h
      refine R_callV (mi := 245) (na := 1) (ci := 12) (i := 64) (as := []) (r := []) (rv := none) (σ1 := mSS M7) ⟨413, by decide +kernel⟩ rfl rfl rfl rfl (Mo_records_r N M5 (d + 7) q6) ?_
      show mRunF _ _ (34, [some (.ref 64), some (.int a0)], [], mSS M7)
      refine mRunF.sg (mSl mk_252 19 3) (g := (40, [some (.ref 64), some (.int a0)], [.int 28, .ref 95], mSS M7)) (by decide +kernel) rfl ?_
      refine R_iald (by decide +kernel) rfl rfl ?_
      show mRunF _ _ (41, [some (.ref 64), some (.int a0)], [.int (M7.1 95 28)], mSS M7)
      cases h
      exact R_iret (by decide +kernel)
set_option maxRecDepth 100000 in
set_option maxHeartbeats 4000000 in
theorem Mo_undo_21_r {N d : Nat}   {r : Int32} {M' : mS} : ∀ {n : Nat} {x1 : Int32} {M : mS}, Mo_undo_21 N n x1 M = some (r, M') → mRunF (mCd 253) (mEE (mMet mP mTx (d + 0)) (some .boolean) (some (.int r)) M') (21, [some (.ref 64), some (.int x1)], [], mSS M) := by
  intro n
  induction n with
  | zero => intro x1 M h; cases h
  | succ n ih =>
    replace ih := @ih
    intro x1 M h
    unfold Mo_undo_21 at h
    refine mRunF.sg (mSl mk_253 13 2) (g := (24, [some (.ref 64), some (.int x1)], [.int 29, .int x1], mSS M)) (by decide +kernel) rfl ?_
    refine R_ige (t := 53) ⟨29, by decide +kernel⟩ (fun q => ?_) (fun q => ?_)
    · rw [if_pos q] at h
      refine mRunF.sg (mSl mk_253 31 1) (g := (54, [some (.ref 64), some (.int x1)], [.int 1], mSS M)) (by decide +kernel) rfl ?_
      cases h
      exact R_zret (by decide +kernel) (Or.inr rfl)
    · rw [if_neg q] at h
      refine mRunF.sg (mSl mk_253 16 11) (g := (45, [some (.ref 64), some (.int x1)], [.int ((29 * (M.1 64 53)) + x1), .ref 98, .int x1, .ref 95], mSS M)) (by decide +kernel) rfl ?_
      obtain ⟨g1, h⟩ := grd_of h
      refine R_iald (by decide +kernel) rfl g1 ?_
      obtain ⟨g2, h⟩ := grd_of h
      refine R_iast (by decide +kernel) rfl g2 ?_
      obtain ⟨M3, hv, h⟩ := nxt_ex h
      rw [← hv]
      clear hv
      refine mRunF.sg (mSl mk_253 29 2) (g := (21, [some (.ref 64), some (.int (x1 + 1))], [], mSS M3)) (by decide +kernel) rfl ?_
      exact @ih _ _ h
set_option maxRecDepth 100000 in
set_option maxHeartbeats 4000000 in
theorem Mo_undo_r (N : Nat)  (M : mS) {r : Int32} {M' : mS} (d : Nat) (h : Mo_undo N M = some (r, M')) : mMet mP mTx (d + 1) 253 [.ref 64] (mSS M) (some (.int r)) (mSS M') := by
  refine mMet_i ⟨Nat.le_refl _, Nat.le_refl _, Nat.le_of_ble_eq_true rfl⟩ ?_
  unfold Mo_undo at h
  show mRunF (mCd 253) (mEE (mMet mP mTx (d + 0)) (some .boolean) (some (.int r)) M') (0, [some (.ref 64), none], [], mSS M)
  refine mRunF.sg (mSl mk_253 0 2) (g := (4, [some (.ref 64), none], [.int (M.1 64 53)], mSS M)) (by decide +kernel) rfl ?_
  refine R_ne (t := 9) ⟨5, by decide +kernel⟩ (fun q => ?_) (fun q => ?_)
  · rw [if_pos q] at h
    refine mRunF.sg (mSl mk_253 3 1) (g := (8, [some (.ref 64), none], [.int 0], mSS M)) (by decide +kernel) rfl ?_
    cases h
    exact R_zret (by decide +kernel) (Or.inl rfl)
  · rw [if_neg q] at h
    refine mRunF.sg (mSl mk_253 5 6) (g := (19, [some (.ref 64), none], [], mSS (mWI M 64 53 ((M.1 64 53) - 1)))) (by decide +kernel) rfl ?_
    obtain ⟨M4, hv, h⟩ := nxt_ex h
    rw [← hv]
    clear hv
    refine mRunF.sg (mSl mk_253 11 2) (g := (21, [some (.ref 64), some (.int 0)], [], mSS M4)) (by decide +kernel) rfl ?_
    exact Mo_undo_21_r h
