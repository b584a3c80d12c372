/-! METHODS as functions, 2: printed by program -/
set_option maxRecDepth 100000 in
set_option maxHeartbeats 4000000 in
theorem Md_held_r (a0 : Int32) (a1 : Int32) (M : mS) (d : Nat) : mMet mP mTx (d + 1) 167 [.int a0, .int a1] (mSS M) (some (.int (Md_held a0 a1 M))) (mSS M) := by
  refine mMet_i ⟨Nat.le_refl _, Nat.le_refl _, Nat.le_of_ble_eq_true rfl⟩ ?_
  generalize h : Md_held a0 a1 M = r
  unfold Md_held at h
  show mRunF (mCd 167) (mEE (mMet mP mTx (d + 0)) (some .int) (some (.int r)) M) (0, [some (.int a0), some (.int a1)], [], mSS M)
  refine mRunF.sg (mSl mk_167 0 1) (g := (1, [some (.int a0), some (.int a1)], [.int a0], mSS M)) (by decide +kernel) rfl ?_
  refine R_ge (t := 6) ⟨5, by decide +kernel⟩ (fun q => ?_) (fun q => ?_)
  · rw [if_pos q] at h
    refine mRunF.sg (mSl mk_167 4 2) (g := (8, [some (.int a0), some (.int a1)], [.int a1, .int a0], mSS M)) (by decide +kernel) rfl ?_
    refine R_ile (t := 15) ⟨7, by decide +kernel⟩ (fun q => ?_) (fun q => ?_)
    · rw [if_pos q] at h
      refine mRunF.sg (mSl mk_167 9 1) (g := (16, [some (.int a0), some (.int a1)], [.int a0], mSS M)) (by decide +kernel) rfl ?_
      subst h
      exact R_iret (by decide +kernel)
    · rw [if_neg q] at h
      refine mRunF.sg (mSl mk_167 7 2) (g := (16, [some (.int a0), some (.int a1)], [.int a1], mSS M)) (by decide +kernel) rfl ?_
      subst h
      exact R_iret (by decide +kernel)
  · rw [if_neg q] at h
    refine mRunF.sg (mSl mk_167 2 1) (g := (5, [some (.int a0), some (.int a1)], [.int 0], mSS M)) (by decide +kernel) rfl ?_
    subst h
    exact R_iret (by decide +kernel)
set_option maxRecDepth 100000 in
set_option maxHeartbeats 4000000 in
theorem Wk_dims_r (N : Nat) (a0 : Int32) (M : mS) {r : Int32} {M' : mS} (d : Nat) (h : Wk_dims N a0 M = some (r, M')) : mMet mP mTx (d + 2) 98 [.ref 39, .int a0] (mSS M) (some (.int r)) (mSS M') := by
  refine mMet_i ⟨Nat.le_refl _, Nat.le_refl _, Nat.le_of_ble_eq_true rfl⟩ ?_
  unfold Wk_dims at h
  show mRunF (mCd 98) (mEE (mMet mP mTx (d + 1)) (some .int) (some (.int r)) M') (0, [some (.ref 39), some (.int a0), none], [], mSS M)
  refine mRunF.sg (mSl mk_98 0 8) (g := (14, [some (.ref 39), some (.int a0), some (.ref 5)], [.int a0, .int a0, .ref 39], mSS M)) (by decide +kernel) rfl ?_
  obtain ⟨M2, q1, h⟩ := bV_of h
  refine R_callV (mi := 99) (na := 3) (ci := 10) (i := 39) (as := [.int a0, .int a0]) (r := []) (rv := none) (σ1 := mSS M2) ⟨119, by decide +kernel⟩ rfl rfl rfl rfl (Wk_setVars_r N a0 a0 M (d + 0) q1) ?_
  show mRunF _ _ (17, [some (.ref 39), some (.int a0), some (.ref 5)], [], mSS M2)
  refine mRunF.sg (mSl mk_98 9 3) (g := (20, [some (.ref 39), some (.int a0), some (.ref 5)], [.int 0, .int 3, .ref 5], mSS M2)) (by decide +kernel) rfl ?_
  refine R_iast (by decide +kernel) rfl rfl ?_
  show mRunF _ _ (_, _, _, mSS (mWI M2 5 3 0))
  obtain ⟨M3, hv, h⟩ := nxt_ex h
  rw [← hv]
  clear hv
  refine mRunF.sg (mSl mk_98 13 3) (g := (24, [some (.ref 39), some (.int a0), some (.ref 5)], [.int 0, .int 4, .ref 5], mSS M3)) (by decide +kernel) rfl ?_
  refine R_iast (by decide +kernel) rfl rfl ?_
  show mRunF _ _ (_, _, _, mSS (mWI M3 5 4 0))
  obtain ⟨M4, hv, h⟩ := nxt_ex h
  rw [← hv]
  clear hv
  refine mRunF.sg (mSl mk_98 17 3) (g := (28, [some (.ref 39), some (.int a0), some (.ref 5)], [.int 0, .int 5, .ref 5], mSS M4)) (by decide +kernel) rfl ?_
  refine R_iast (by decide +kernel) rfl rfl ?_
  show mRunF _ _ (_, _, _, mSS (mWI M4 5 5 0))
  obtain ⟨M5, hv, h⟩ := nxt_ex h
  rw [← hv]
  clear hv
  refine mRunF.sg (mSl mk_98 21 4) (g := (37, [some (.ref 39), some (.int a0), some (.ref 5)], [.int 3, .ref 4], mSS M5)) (by decide +kernel) rfl ?_
  obtain ⟨r8, M7, q6, h⟩ := bW_of h
  refine R_callV (mi := 17) (na := 2) (ci := 2) (i := 4) (as := [.int 3]) (r := []) (rv := some (.int r8)) (σ1 := mSS M7) ⟨126, by decide +kernel⟩ rfl rfl rfl rfl (La_say_r N 3 M5 (d + 0) q6) ?_
  show mRunF _ _ (40, [some (.ref 39), some (.int a0), some (.ref 5)], [.int r8], mSS M7)
  refine mRunF.sg (mSl mk_98 26 1) (g := (42, [some (.ref 39), some (.int a0), some (.ref 5)], [.int 100, .int r8], mSS M7)) (by decide +kernel) rfl ?_
  refine R_callS (mi := 167) (na := 2) (as := [.int r8, .int 100]) (r := []) (rv := some (.int (Md_held r8 100 M7))) (σ1 := mSS M7) ⟨129, by decide +kernel⟩ rfl rfl rfl (Md_held_r r8 100 M7 (d + 0)) ?_
  show mRunF _ _ (45, [some (.ref 39), some (.int a0), some (.ref 5)], [.int (Md_held r8 100 M7)], mSS M7)
  cases h
  exact R_iret (by decide +kernel)
set_option maxRecDepth 100000 in
set_option maxHeartbeats 4000000 in
theorem Wk_isDark_r (N : Nat) (a0 : Int32) (a1 : Int32) (M : mS) {r : Int32} {M' : mS} (d : Nat) (h : Wk_isDark N a0 a1 M = some (r, M')) : mMet mP mTx (d + 3) 101 [.ref 39, .int a0, .int a1] (mSS M) (some (.int r)) (mSS M') := by
  refine mMet_i ⟨Nat.le_refl _, Nat.le_refl _, Nat.le_of_ble_eq_true rfl⟩ ?_
  unfold Wk_isDark at h
  show mRunF (mCd 101) (mEE (mMet mP mTx (d + 2)) (some .boolean) (some (.int r)) M') (0, [some (.ref 39), some (.int a0), some (.int a1)], [], mSS M)
  refine mRunF.sg (mSl mk_101 0 4) (g := (5, [some (.ref 39), some (.int a0), some (.int a1)], [.int a0, .ref 39, .int a1, .int 100], mSS M)) (by decide +kernel) rfl ?_
  refine R_callV (mi := 102) (na := 2) (ci := 10) (i := 39) (as := [.int a0]) (r := [.int a1, .int 100]) (rv := some (.int (Wk_which a0 M))) (σ1 := mSS M) ⟨68, by decide +kernel⟩ rfl rfl rfl rfl (Wk_which_r a0 M (d + 1)) ?_
  show mRunF _ _ (8, [some (.ref 39), some (.int a0), some (.int a1)], [.int (Wk_which a0 M), .int a1, .int 100], mSS M)
  obtain ⟨r2, q1, h⟩ := bR_of h
  refine R_callS (mi := 171) (na := 3) (as := [.int 100, .int a1, .int (Wk_which a0 M)]) (r := []) (rv := some (.int r2)) (σ1 := mSS M) ⟨72, by decide +kernel⟩ rfl rfl rfl (Md_lot_r N 100 a1 (Wk_which a0 M) M (d + 0) q1) ?_
  show mRunF _ _ (11, [some (.ref 39), some (.int a0), some (.int a1)], [.int r2], mSS M)
  refine mRunF.sg (mSl mk_101 6 2) (g := (13, [some (.ref 39), some (.int a0), some (.int a1)], [.int a0, .ref 39, .int r2], mSS M)) (by decide +kernel) rfl ?_
  obtain ⟨r5, M4, q3, h⟩ := bW_of h
  refine R_callV (mi := 98) (na := 2) (ci := 10) (i := 39) (as := [.int a0]) (r := [.int r2]) (rv := some (.int r5)) (σ1 := mSS M4) ⟨132, by decide +kernel⟩ rfl rfl rfl rfl (Wk_dims_r N a0 M (d + 0) q3) ?_
  show mRunF _ _ (16, [some (.ref 39), some (.int a0), some (.int a1)], [.int r5, .int r2], mSS M4)
  refine R_ige (t := 23) ⟨7, by decide +kernel⟩ (fun q => ?_) (fun q => ?_)
  · rw [if_pos q] at h
    refine mRunF.sg (mSl mk_101 12 1) (g := (24, [some (.ref 39), some (.int a0), some (.int a1)], [.int 0], mSS M4)) (by decide +kernel) rfl ?_
    cases h
    exact R_zret (by decide +kernel) (Or.inl rfl)
  · rw [if_neg q] at h
    refine mRunF.sg (mSl mk_101 10 2) (g := (24, [some (.ref 39), some (.int a0), some (.int a1)], [.int 1], mSS M4)) (by decide +kernel) rfl ?_
    cases h
    exact R_zret (by decide +kernel) (Or.inr rfl)
set_option maxRecDepth 100000 in
set_option maxHeartbeats 4000000 in
theorem Md_dial_r (N : Nat) (a0 : Int32) (a1 : Int32) (M : mS) {r : Int32} {M' : mS} (d : Nat) (h : Md_dial N a0 a1 M = some (r, M')) : mMet mP mTx (d + 4) 108 [.ref 0, .int a0, .int a1] (mSS M) (some (.int r)) (mSS M') := by
  refine mMet_i ⟨Nat.le_refl _, Nat.le_refl _, Nat.le_of_ble_eq_true rfl⟩ ?_
  unfold Md_dial at h
  show mRunF (mCd 108) (mEE (mMet mP mTx (d + 3)) (some .int) (some (.int r)) M') (0, [some (.ref 0), some (.int a0), some (.int a1)], [], mSS M)
  refine mRunF.sg (mSl mk_108 0 2) (g := (2, [some (.ref 0), some (.int a0), some (.int a1)], [.int a0, .ref 0], mSS M)) (by decide +kernel) rfl ?_
  refine R_callV (mi := 160) (na := 2) (ci := 11) (i := 0) (as := [.int a0]) (r := []) (rv := some (.int (Md_isDial a0 M))) (σ1 := mSS M) ⟨124, by decide +kernel⟩ rfl rfl rfl rfl (Md_isDial_r a0 M (d + 2)) ?_
  have b1 := mBool rfl (Md_isDial_r a0 M (d + 2))
  show mRunF _ _ (5, [some (.ref 0), some (.int a0), some (.int a1)], [.int (Md_isDial a0 M)], mSS M)
  refine R_ne (t := 10) ⟨5, by decide +kernel⟩ (fun q => ?_) (fun q => ?_)
  · rw [if_pos q] at h
    refine mRunF.sg (mSl mk_108 4 1) (g := (9, [some (.ref 0), some (.int a0), some (.int a1)], [.int (-1)], mSS M)) (by decide +kernel) rfl ?_
    cases h
    exact R_iret (by decide +kernel)
  · rw [if_neg q] at h
    refine mRunF.sg (mSl mk_108 6 4) (g := (18, [some (.ref 0), some (.int a0), some (.int a1)], [.ref 34, .ref 39], mSS M)) (by decide +kernel) rfl ?_
    obtain ⟨M3, q2, h⟩ := bV_of h
    refine R_callV (mi := 89) (na := 2) (ci := 10) (i := 39) (as := [.ref 34]) (r := []) (rv := none) (σ1 := mSS M3) ⟨128, by decide +kernel⟩ rfl rfl rfl rfl (Wk_begin_r N M (d + 2) q2) ?_
    show mRunF _ _ (21, [some (.ref 0), some (.int a0), some (.int a1)], [], mSS M3)
    refine mRunF.sg (mSl mk_108 11 1) (g := (22, [some (.ref 0), some (.int a0), some (.int a1)], [.int a1], mSS M3)) (by decide +kernel) rfl ?_
    by_cases e0 : a1 = 0
    · rw [if_pos e0] at h
      refine R_swc (lo := 0) (hi := 3) (td := 103) (ts := [52, 61, 70, 79]) ⟨81, #[30, 39, 48, 57], by decide +kernel⟩ 0 (by rw [e0]; decide) (by decide) rfl ?_
      refine mRunF.sg (mSl mk_108 13 5) (g := (59, [some (.ref 0), some (.int a0), some (.int a1)], [.int (1 + a0), .ref 34], mSS M3)) (by decide +kernel) rfl ?_
      obtain ⟨g4, h⟩ := grd_of h
      refine R_iald (by decide +kernel) rfl g4 ?_
      cases h
      exact R_iret (by decide +kernel)
    rw [if_neg e0] at h
    by_cases e1 : a1 = 1
    · rw [if_pos e1] at h
      refine R_swc (lo := 0) (hi := 3) (td := 103) (ts := [52, 61, 70, 79]) ⟨81, #[30, 39, 48, 57], by decide +kernel⟩ 1 (by rw [e1]; decide) (by decide) rfl ?_
      refine mRunF.sg (mSl mk_108 20 5) (g := (68, [some (.ref 0), some (.int a0), some (.int a1)], [.int (5 + a0), .ref 34], mSS M3)) (by decide +kernel) rfl ?_
      obtain ⟨g5, h⟩ := grd_of h
      refine R_iald (by decide +kernel) rfl g5 ?_
      cases h
      exact R_iret (by decide +kernel)
    rw [if_neg e1] at h
    by_cases e2 : a1 = 2
    · rw [if_pos e2] at h
      refine R_swc (lo := 0) (hi := 3) (td := 103) (ts := [52, 61, 70, 79]) ⟨81, #[30, 39, 48, 57], by decide +kernel⟩ 2 (by rw [e2]; decide) (by decide) rfl ?_
      refine mRunF.sg (mSl mk_108 27 3) (g := (75, [some (.ref 0), some (.int a0), some (.int a1)], [.int a0, .ref 39], mSS M3)) (by decide +kernel) rfl ?_
      obtain ⟨r8, M7, q6, h⟩ := bW_of h
      refine R_callV (mi := 98) (na := 2) (ci := 10) (i := 39) (as := [.int a0]) (r := []) (rv := some (.int r8)) (σ1 := mSS M7) ⟨131, by decide +kernel⟩ rfl rfl rfl rfl (Wk_dims_r N a0 M3 (d + 1) q6) ?_
      show mRunF _ _ (78, [some (.ref 0), some (.int a0), some (.int a1)], [.int r8], mSS M7)
      cases h
      exact R_iret (by decide +kernel)
    rw [if_neg e2] at h
    by_cases e3 : a1 = 3
    · rw [if_pos e3] at h
      refine R_swc (lo := 0) (hi := 3) (td := 103) (ts := [52, 61, 70, 79]) ⟨81, #[30, 39, 48, 57], by decide +kernel⟩ 3 (by rw [e3]; decide) (by decide) rfl ?_
      refine mRunF.sg (mSl mk_108 32 6) (g := (91, [some (.ref 0), some (.int a0), some (.int a1)], [.int (M3.1 3 9), .int a0, .ref 39], mSS M3)) (by decide +kernel) rfl ?_
      obtain ⟨r11, M10, q9, h⟩ := bW_of h
      refine R_callV (mi := 101) (na := 3) (ci := 10) (i := 39) (as := [.int a0, .int (M3.1 3 9)]) (r := []) (rv := some (.int r11)) (σ1 := mSS M10) ⟨138, by decide +kernel⟩ rfl rfl rfl rfl (Wk_isDark_r N a0 (M3.1 3 9) M3 (d + 0) q9) ?_
      have b12 := mBool rfl (Wk_isDark_r N a0 (M3.1 3 9) M3 (d + 0) q9)
      show mRunF _ _ (94, [some (.ref 0), some (.int a0), some (.int a1)], [.int r11], mSS M10)
      refine R_eq (t := 101) ⟨7, by decide +kernel⟩ (fun q => ?_) (fun q => ?_)
      · rw [if_pos q] at h
        refine mRunF.sg (mSl mk_108 42 1) (g := (102, [some (.ref 0), some (.int a0), some (.int a1)], [.int 0], mSS M10)) (by decide +kernel) rfl ?_
        cases h
        exact R_iret (by decide +kernel)
      · rw [if_neg q] at h
        refine mRunF.sg (mSl mk_108 40 2) (g := (102, [some (.ref 0), some (.int a0), some (.int a1)], [.int 1], mSS M10)) (by decide +kernel) rfl ?_
        cases h
        exact R_iret (by decide +kernel)
    rw [if_neg e3] at h
    refine R_swd (lo := 0) (hi := 3) (td := 103) (ts := [52, 61, 70, 79]) ⟨81, #[30, 39, 48, 57], by decide +kernel⟩ (sw_out 0 4 (by decide) (by decide) (fun j hj => by match j, hj with | 0, _ => exact e0 | 1, _ => exact e1 | 2, _ => exact e2 | 3, _ => exact e3 | j + 4, hj => omega)) ?_
    refine mRunF.sg (mSl mk_108 44 1) (g := (104, [some (.ref 0), some (.int a0), some (.int a1)], [.int (-1)], mSS M3)) (by decide +kernel) rfl ?_
    cases h
    exact R_iret (by decide +kernel)
set_option maxRecDepth 100000 in
set_option maxHeartbeats 4000000 in
theorem Md_isHour_r (a0 : Int32) (M : mS) (d : Nat) : mMet mP mTx (d + 1) 163 [.ref 0, .int a0] (mSS M) (some (.int (Md_isHour a0 M))) (mSS M) := by
  refine mMet_i ⟨Nat.le_refl _, Nat.le_refl _, Nat.le_of_ble_eq_true rfl⟩ ?_
  generalize h : Md_isHour a0 M = r
  unfold Md_isHour at h
  show mRunF (mCd 163) (mEE (mMet mP mTx (d + 0)) (some .boolean) (some (.int r)) M) (0, [some (.ref 0), some (.int a0)], [], mSS M)
  refine mRunF.sg (mSl mk_163 0 1) (g := (1, [some (.ref 0), some (.int a0)], [.int a0], mSS M)) (by decide +kernel) rfl ?_
  refine R_lt (t := 19) ⟨18, by decide +kernel⟩ (fun q => ?_) (fun q => ?_)
  · rw [if_pos q] at h
    refine mRunF.sg (mSl mk_163 9 1) (g := (20, [some (.ref 0), some (.int a0)], [.int 0], mSS M)) (by decide +kernel) rfl ?_
    subst h
    exact R_zret (by decide +kernel) (Or.inl rfl)
  · rw [if_neg q] at h
    refine mRunF.sg (mSl mk_163 2 4) (g := (12, [some (.ref 0), some (.int a0)], [.int (M.1 3 6), .int a0], mSS M)) (by decide +kernel) rfl ?_
    refine R_ige (t := 19) ⟨7, by decide +kernel⟩ (fun q => ?_) (fun q => ?_)
    · rw [if_pos q] at h
      refine mRunF.sg (mSl mk_163 9 1) (g := (20, [some (.ref 0), some (.int a0)], [.int 0], mSS M)) (by decide +kernel) rfl ?_
      subst h
      exact R_zret (by decide +kernel) (Or.inl rfl)
    · rw [if_neg q] at h
      refine mRunF.sg (mSl mk_163 7 2) (g := (20, [some (.ref 0), some (.int a0)], [.int 1], mSS M)) (by decide +kernel) rfl ?_
      subst h
      exact R_zret (by decide +kernel) (Or.inr rfl)
set_option maxRecDepth 100000 in
set_option maxHeartbeats 4000000 in
theorem Md_shows_r (N : Nat) (a0 : Int32) (a1 : Int32) (M : mS) {r : Int32} (d : Nat) (h : Md_shows N a0 a1 M = some r) : mMet mP mTx (d + 2) 109 [.ref 0, .int a0, .int a1] (mSS M) (some (.int r)) (mSS M) := by
  refine mMet_i ⟨Nat.le_refl _, Nat.le_refl _, Nat.le_of_ble_eq_true rfl⟩ ?_
  unfold Md_shows at h
  show mRunF (mCd 109) (mEE (mMet mP mTx (d + 1)) (some .int) (some (.int r)) M) (0, [some (.ref 0), some (.int a0), some (.int a1)], [], mSS M)
  refine mRunF.sg (mSl mk_109 0 2) (g := (2, [some (.ref 0), some (.int a0), some (.int a1)], [.int a0, .ref 0], mSS M)) (by decide +kernel) rfl ?_
  refine R_callV (mi := 160) (na := 2) (ci := 11) (i := 0) (as := [.int a0]) (r := []) (rv := some (.int (Md_isDial a0 M))) (σ1 := mSS M) ⟨124, by decide +kernel⟩ rfl rfl rfl rfl (Md_isDial_r a0 M (d + 0)) ?_
  have b1 := mBool rfl (Md_isDial_r a0 M (d + 0))
  show mRunF _ _ (5, [some (.ref 0), some (.int a0), some (.int a1)], [.int (Md_isDial a0 M)], mSS M)
  refine R_eq (t := 16) ⟨11, by decide +kernel⟩ (fun q => ?_) (fun q => ?_)
  · rw [if_pos q] at h
    refine mRunF.sg (mSl mk_109 8 1) (g := (17, [some (.ref 0), some (.int a0), some (.int a1)], [.int (-1)], mSS M)) (by decide +kernel) rfl ?_
    cases h
    exact R_iret (by decide +kernel)
  · rw [if_neg q] at h
    refine mRunF.sg (mSl mk_109 4 2) (g := (10, [some (.ref 0), some (.int a0), some (.int a1)], [.int a1, .ref 0], mSS M)) (by decide +kernel) rfl ?_
    refine R_callV (mi := 163) (na := 2) (ci := 11) (i := 0) (as := [.int a1]) (r := []) (rv := some (.int (Md_isHour a1 M))) (σ1 := mSS M) ⟨142, by decide +kernel⟩ rfl rfl rfl rfl (Md_isHour_r a1 M (d + 0)) ?_
    have b2 := mBool rfl (Md_isHour_r a1 M (d + 0))
    show mRunF _ _ (13, [some (.ref 0), some (.int a0), some (.int a1)], [.int (Md_isHour a1 M)], mSS M)
    refine R_ne (t := 18) ⟨5, by decide +kernel⟩ (fun q => ?_) (fun q => ?_)
    · rw [if_pos q] at h
      refine mRunF.sg (mSl mk_109 8 1) (g := (17, [some (.ref 0), some (.int a0), some (.int a1)], [.int (-1)], mSS M)) (by decide +kernel) rfl ?_
      cases h
      exact R_iret (by decide +kernel)
    · rw [if_neg q] at h
      refine mRunF.sg (mSl mk_109 10 6) (g := (26, [some (.ref 0), some (.int a0), some (.int a1)], [.int (1 + a0), .ref 34, .int a1], mSS M)) (by decide +kernel) rfl ?_
      obtain ⟨g3, h⟩ := grd_of h
      refine R_iald (by decide +kernel) rfl g3 ?_
      refine mRunF.sg (mSl mk_109 17 4) (g := (35, [some (.ref 0), some (.int a0), some (.int a1)], [.int (M.1 3 6), .int (a1 + (M.1 34 (1 + a0).toNatClampNeg))], mSS M)) (by decide +kernel) rfl ?_
      obtain ⟨r5, q4, h⟩ := bR_of h
      refine R_callS (mi := 166) (na := 2) (as := [.int (a1 + (M.1 34 (1 + a0).toNatClampNeg)), .int (M.1 3 6)]) (r := []) (rv := some (.int r5)) (σ1 := mSS M) ⟨148, by decide +kernel⟩ rfl rfl rfl (Md_rest_r N (a1 + (M.1 34 (1 + a0).toNatClampNeg)) (M.1 3 6) M (d + 0) q4) ?_
      show mRunF _ _ (38, [some (.ref 0), some (.int a0), some (.int a1)], [.int r5], mSS M)
      cases h
      exact R_iret (by decide +kernel)
set_option maxRecDepth 100000 in
set_option maxHeartbeats 4000000 in
theorem Md_isGoer_r (a0 : Int32) (M : mS) (d : Nat) : mMet mP mTx (d + 1) 161 [.ref 0, .int a0] (mSS M) (some (.int (Md_isGoer a0 M))) (mSS M) := by
  refine mMet_i ⟨Nat.le_refl _, Nat.le_refl _, Nat.le_of_ble_eq_true rfl⟩ ?_
  generalize h : Md_isGoer a0 M = r
  unfold Md_isGoer at h
  show mRunF (mCd 161) (mEE (mMet mP mTx (d + 0)) (some .boolean) (some (.int r)) M) (0, [some (.ref 0), some (.int a0)], [], mSS M)
  refine mRunF.sg (mSl mk_161 0 1) (g := (1, [some (.ref 0), some (.int a0)], [.int a0], mSS M)) (by decide +kernel) rfl ?_
  refine R_lt (t := 19) ⟨18, by decide +kernel⟩ (fun q => ?_) (fun q => ?_)
  · rw [if_pos q] at h
    refine mRunF.sg (mSl mk_161 9 1) (g := (20, [some (.ref 0), some (.int a0)], [.int 0], mSS M)) (by decide +kernel) rfl ?_
    subst h
    exact R_zret (by decide +kernel) (Or.inl rfl)
  · rw [if_neg q] at h
    refine mRunF.sg (mSl mk_161 2 4) (g := (12, [some (.ref 0), some (.int a0)], [.int (M.1 3 8), .int a0], mSS M)) (by decide +kernel) rfl ?_
    refine R_ige (t := 19) ⟨7, by decide +kernel⟩ (fun q => ?_) (fun q => ?_)
    · rw [if_pos q] at h
      refine mRunF.sg (mSl mk_161 9 1) (g := (20, [some (.ref 0), some (.int a0)], [.int 0], mSS M)) (by decide +kernel) rfl ?_
      subst h
      exact R_zret (by decide +kernel) (Or.inl rfl)
    · rw [if_neg q] at h
      refine mRunF.sg (mSl mk_161 7 2) (g := (20, [some (.ref 0), some (.int a0)], [.int 1], mSS M)) (by decide +kernel) rfl ?_
      subst h
      exact R_zret (by decide +kernel) (Or.inr rfl)
set_option maxRecDepth 100000 in
set_option maxHeartbeats 4000000 in
theorem Wk_dialOf_r (N : Nat) (a0 : Int32) (M : mS) {r : Int32} (d : Nat) (h : Wk_dialOf N a0 M = some r) : mMet mP mTx (d + 2) 100 [.ref 39, .int a0] (mSS M) (some (.int r)) (mSS M) := by
  refine mMet_i ⟨Nat.le_refl _, Nat.le_refl _, Nat.le_of_ble_eq_true rfl⟩ ?_
  unfold Wk_dialOf at h
  show mRunF (mCd 100) (mEE (mMet mP mTx (d + 1)) (some .int) (some (.int r)) M) (0, [some (.ref 39), some (.int a0)], [], mSS M)
  refine mRunF.sg (mSl mk_100 0 5) (g := (8, [some (.ref 39), some (.int a0)], [.int (9 + a0), .ref 40], mSS M)) (by decide +kernel) rfl ?_
  obtain ⟨g1, h⟩ := grd_of h
  refine R_iald (by decide +kernel) rfl g1 ?_
  refine mRunF.sg (mSl mk_100 6 1) (g := (10, [some (.ref 39), some (.int a0)], [.int 3, .int (M.1 40 (9 + a0).toNatClampNeg)], mSS M)) (by decide +kernel) rfl ?_
  refine R_callS (mi := 167) (na := 2) (as := [.int (M.1 40 (9 + a0).toNatClampNeg), .int 3]) (r := []) (rv := some (.int (Md_held (M.1 40 (9 + a0).toNatClampNeg) 3 M))) (σ1 := mSS M) ⟨129, by decide +kernel⟩ rfl rfl rfl (Md_held_r (M.1 40 (9 + a0).toNatClampNeg) 3 M (d + 0)) ?_
  show mRunF _ _ (13, [some (.ref 39), some (.int a0)], [.int (Md_held (M.1 40 (9 + a0).toNatClampNeg) 3 M)], mSS M)
  cases h
  exact R_iret (by decide +kernel)
set_option maxRecDepth 100000 in
set_option maxHeartbeats 4000000 in
theorem Wk_lawOfGoer_96_r {N d : Nat}  {M : mS} {z0 : Int32} {z1 : Int32} {r : Int32} {M' : mS} (h : Wk_lawOfGoer_96 N z0 z1 M = some (r, M')) : mRunF (mCd 97) (mEE (mMet mP mTx (d + 2)) (some .int) (some (.int r)) M') (96, [none, none, none, none, none], [.int z1, .int z0], mSS M) := by
  unfold Wk_lawOfGoer_96 at h
  refine R_callS (mi := 167) (na := 2) (as := [.int z0, .int z1]) (r := []) (rv := some (.int (Md_held z0 z1 M))) (σ1 := mSS M) ⟨129, by decide +kernel⟩ rfl rfl rfl (Md_held_r z0 z1 M (d + 1)) ?_
  show mRunF _ _ (99, [none, none, none, none, none], [.int (Md_held z0 z1 M)], mSS M)
  cases h
  exact R_iret (by decide +kernel)
set_option maxRecDepth 100000 in
set_option maxHeartbeats 4000000 in
theorem Wk_lawOfGoer_r (N : Nat) (a0 : Int32) (a1 : Int32) (M : mS) {r : Int32} {M' : mS} (d : Nat) (h : Wk_lawOfGoer N a0 a1 M = some (r, M')) : mMet mP mTx (d + 3) 97 [.ref 39, .int a0, .int a1] (mSS M) (some (.int r)) (mSS M') := by
  refine mMet_i ⟨Nat.le_refl _, Nat.le_refl _, Nat.le_of_ble_eq_true rfl⟩ ?_
  unfold Wk_lawOfGoer at h
  show mRunF (mCd 97) (mEE (mMet mP mTx (d + 2)) (some .int) (some (.int r)) M') (0, [some (.ref 39), some (.int a0), some (.int a1), none, none], [], mSS M)
  refine mRunF.sg (mSl mk_97 0 8) (g := (14, [some (.ref 39), some (.int a0), some (.int a1), some (.ref 5), none], [.int a1, .ref 39, .ref 39], mSS M)) (by decide +kernel) rfl ?_
  obtain ⟨r2, q1, h⟩ := bR_of h
  refine R_callV (mi := 100) (na := 2) (ci := 10) (i := 39) (as := [.int a1]) (r := [.ref 39]) (rv := some (.int r2)) (σ1 := mSS M) ⟨86, by decide +kernel⟩ rfl rfl rfl rfl (Wk_dialOf_r N a1 M (d + 0) q1) ?_
  show mRunF _ _ (17, [some (.ref 39), some (.int a0), some (.int a1), some (.ref 5), none], [.int r2, .ref 39], mSS M)
  refine mRunF.sg (mSl mk_97 9 1) (g := (18, [some (.ref 39), some (.int a0), some (.int a1), some (.ref 5), none], [.int a1, .int r2, .ref 39], mSS M)) (by decide +kernel) rfl ?_
  obtain ⟨M4, q3, h⟩ := bV_of h
  refine R_callV (mi := 99) (na := 3) (ci := 10) (i := 39) (as := [.int r2, .int a1]) (r := []) (rv := none) (σ1 := mSS M4) ⟨119, by decide +kernel⟩ rfl rfl rfl rfl (Wk_setVars_r N r2 a1 M (d + 1) q3) ?_
  show mRunF _ _ (21, [some (.ref 39), some (.int a0), some (.int a1), some (.ref 5), none], [], mSS M4)
  refine mRunF.sg (mSl mk_97 11 6) (g := (31, [some (.ref 39), some (.int a0), some (.int a1), some (.ref 5), none], [.int a1, .ref 12, .int 3, .ref 5], mSS M4)) (by decide +kernel) rfl ?_
  obtain ⟨g5, h⟩ := grd_of h
  refine R_iald (by decide +kernel) rfl g5 ?_
  refine R_iast (by decide +kernel) rfl rfl ?_
  show mRunF _ _ (_, _, _, mSS (mWI M4 5 3 (M4.1 12 a1.toNatClampNeg)))
  obtain ⟨M6, hv, h⟩ := nxt_ex h
  rw [← hv]
  clear hv
  refine mRunF.sg (mSl mk_97 19 6) (g := (43, [some (.ref 39), some (.int a0), some (.int a1), some (.ref 5), none], [.int a1, .ref 13, .int 4, .ref 5], mSS M6)) (by decide +kernel) rfl ?_
  obtain ⟨g7, h⟩ := grd_of h
  refine R_iald (by decide +kernel) rfl g7 ?_
  refine R_iast (by decide +kernel) rfl rfl ?_
  show mRunF _ _ (_, _, _, mSS (mWI M6 5 4 (M6.1 13 a1.toNatClampNeg)))
  obtain ⟨M8, hv, h⟩ := nxt_ex h
  rw [← hv]
  clear hv
  refine mRunF.sg (mSl mk_97 27 7) (g := (55, [some (.ref 39), some (.int a0), some (.int a1), some (.ref 5), none], [.int (14 + a1), .ref 40, .int 5, .ref 5], mSS M8)) (by decide +kernel) rfl ?_
  obtain ⟨g9, h⟩ := grd_of h
  refine R_iald (by decide +kernel) rfl g9 ?_
  refine R_iast (by decide +kernel) rfl rfl ?_
  show mRunF _ _ (_, _, _, mSS (mWI M8 5 5 (M8.1 40 (14 + a1).toNatClampNeg)))
  obtain ⟨M10, hv, h⟩ := nxt_ex h
  rw [← hv]
  clear hv
  refine mRunF.sg (mSl mk_97 36 4) (g := (65, [some (.ref 39), some (.int a0), some (.int a1), some (.ref 5), none], [.int a0, .ref 4], mSS M10)) (by decide +kernel) rfl ?_
  obtain ⟨r13, M12, q11, h⟩ := bW_of h
  refine R_callV (mi := 17) (na := 2) (ci := 2) (i := 4) (as := [.int a0]) (r := []) (rv := some (.int r13)) (σ1 := mSS M12) ⟨126, by decide +kernel⟩ rfl rfl rfl rfl (La_say_r N a0 M10 (d + 1) q11) ?_
  show mRunF _ _ (68, [some (.ref 39), some (.int a0), some (.int a1), some (.ref 5), none], [.int r13], mSS M12)
  refine mRunF.sg (mSl mk_97 41 2) (g := (71, [some (.ref 39), some (.int a0), some (.int a1), some (.ref 5), some (.int r13)], [.int a0], mSS M12)) (by decide +kernel) rfl ?_
  refine R_ne (t := 77) ⟨6, by decide +kernel⟩ (fun q => ?_) (fun q => ?_)
  · rw [if_pos q] at h
    refine mRunF.sg (mSl mk_97 44 1) (g := (76, [some (.ref 39), some (.int a0), some (.int a1), some (.ref 5), some (.int r13)], [.int r13], mSS M12)) (by decide +kernel) rfl ?_
    cases h
    exact R_iret (by decide +kernel)
  · rw [if_neg q] at h
    refine mRunF.sg (mSl mk_97 46 3) (g := (81, [some (.ref 39), some (.int a0), some (.int a1), some (.ref 5), some (.int r13)], [.int 1, .int a0, .int r13], mSS M12)) (by decide +kernel) rfl ?_
    refine R_ine (t := 94) ⟨13, by decide +kernel⟩ (fun q => ?_) (fun q => ?_)
    · rw [if_pos q] at h
      refine mRunF.sg (mSl mk_97 50 4) (g := (96, [some (.ref 39), some (.int a0), some (.int a1), some (.ref 5), some (.int r13)], [.int (M12.1 3 6), .int r13], mSS M12)) (by decide +kernel) rfl ?_
      refine mRunF.forget [false, false, false, false, false] ?_
      exact Wk_lawOfGoer_96_r h
    · rw [if_neg q] at h
      refine mRunF.sg (mSl mk_97 54 1) (g := (96, [some (.ref 39), some (.int a0), some (.int a1), some (.ref 5), some (.int r13)], [.int 99, .int r13], mSS M12)) (by decide +kernel) rfl ?_
      refine mRunF.forget [false, false, false, false, false] ?_
      exact Wk_lawOfGoer_96_r h
set_option maxRecDepth 100000 in
set_option maxHeartbeats 4000000 in
theorem Md_goer_r (N : Nat) (a0 : Int32) (a1 : Int32) (M : mS) {r : Int32} {M' : mS} (d : Nat) (h : Md_goer N a0 a1 M = some (r, M')) : mMet mP mTx (d + 4) 110 [.ref 0, .int a0, .int a1] (mSS M) (some (.int r)) (mSS M') := by
  refine mMet_i ⟨Nat.le_refl _, Nat.le_refl _, Nat.le_of_ble_eq_true rfl⟩ ?_
  unfold Md_goer at h
  show mRunF (mCd 110) (mEE (mMet mP mTx (d + 3)) (some .int) (some (.int r)) M') (0, [some (.ref 0), some (.int a0), some (.int a1)], [], mSS M)
  refine mRunF.sg (mSl mk_110 0 2) (g := (2, [some (.ref 0), some (.int a0), some (.int a1)], [.int a0, .ref 0], mSS M)) (by decide +kernel) rfl ?_
  refine R_callV (mi := 161) (na := 2) (ci := 11) (i := 0) (as := [.int a0]) (r := []) (rv := some (.int (Md_isGoer a0 M))) (σ1 := mSS M) ⟨152, by decide +kernel⟩ rfl rfl rfl rfl (Md_isGoer_r a0 M (d + 2)) ?_
  have b1 := mBool rfl (Md_isGoer_r a0 M (d + 2))
  show mRunF _ _ (5, [some (.ref 0), some (.int a0), some (.int a1)], [.int (Md_isGoer a0 M)], mSS M)
  refine R_ne (t := 10) ⟨5, by decide +kernel⟩ (fun q => ?_) (fun q => ?_)
  · rw [if_pos q] at h
    refine mRunF.sg (mSl mk_110 4 1) (g := (9, [some (.ref 0), some (.int a0), some (.int a1)], [.int (-1)], mSS M)) (by decide +kernel) rfl ?_
    cases h
    exact R_iret (by decide +kernel)
  · rw [if_neg q] at h
    refine mRunF.sg (mSl mk_110 6 4) (g := (18, [some (.ref 0), some (.int a0), some (.int a1)], [.ref 34, .ref 39], mSS M)) (by decide +kernel) rfl ?_
    obtain ⟨M3, q2, h⟩ := bV_of h
    refine R_callV (mi := 89) (na := 2) (ci := 10) (i := 39) (as := [.ref 34]) (r := []) (rv := none) (σ1 := mSS M3) ⟨128, by decide +kernel⟩ rfl rfl rfl rfl (Wk_begin_r N M (d + 2) q2) ?_
    show mRunF _ _ (21, [some (.ref 0), some (.int a0), some (.int a1)], [], mSS M3)
    refine mRunF.sg (mSl mk_110 11 1) (g := (22, [some (.ref 0), some (.int a0), some (.int a1)], [.int a1], mSS M3)) (by decide +kernel) rfl ?_
    by_cases e0 : a1 = 0
    · rw [if_pos e0] at h
      refine R_swc (lo := 0) (hi := 6) (td := 142) (ts := [64, 74, 84, 94, 112, 122, 132]) ⟨120, #[42, 52, 62, 72, 90, 100, 110], by decide +kernel⟩ 0 (by rw [e0]; decide) (by decide) rfl ?_
      refine mRunF.sg (mSl mk_110 13 5) (g := (72, [some (.ref 0), some (.int a0), some (.int a1)], [.int (9 + a0), .ref 34], mSS M3)) (by decide +kernel) rfl ?_
      obtain ⟨g4, h⟩ := grd_of h
      refine R_iald (by decide +kernel) rfl g4 ?_
      cases h
      exact R_iret (by decide +kernel)
    rw [if_neg e0] at h
    by_cases e1 : a1 = 1
    · rw [if_pos e1] at h
      refine R_swc (lo := 0) (hi := 6) (td := 142) (ts := [64, 74, 84, 94, 112, 122, 132]) ⟨120, #[42, 52, 62, 72, 90, 100, 110], by decide +kernel⟩ 1 (by rw [e1]; decide) (by decide) rfl ?_
      refine mRunF.sg (mSl mk_110 20 4) (g := (82, [some (.ref 0), some (.int a0), some (.int a1)], [.int a0, .ref 12], mSS M3)) (by decide +kernel) rfl ?_
      obtain ⟨g5, h⟩ := grd_of h
      refine R_iald (by decide +kernel) rfl g5 ?_
      cases h
      exact R_iret (by decide +kernel)
    rw [if_neg e1] at h
    by_cases e2 : a1 = 2
    · rw [if_pos e2] at h
      refine R_swc (lo := 0) (hi := 6) (td := 142) (ts := [64, 74, 84, 94, 112, 122, 132]) ⟨120, #[42, 52, 62, 72, 90, 100, 110], by decide +kernel⟩ 2 (by rw [e2]; decide) (by decide) rfl ?_
      refine mRunF.sg (mSl mk_110 26 4) (g := (92, [some (.ref 0), some (.int a0), some (.int a1)], [.int a0, .ref 13], mSS M3)) (by decide +kernel) rfl ?_
      obtain ⟨g6, h⟩ := grd_of h
      refine R_iald (by decide +kernel) rfl g6 ?_
      cases h
      exact R_iret (by decide +kernel)
    rw [if_neg e2] at h
    by_cases e3 : a1 = 3
    · rw [if_pos e3] at h
      refine R_swc (lo := 0) (hi := 6) (td := 142) (ts := [64, 74, 84, 94, 112, 122, 132]) ⟨120, #[42, 52, 62, 72, 90, 100, 110], by decide +kernel⟩ 3 (by rw [e3]; decide) (by decide) rfl ?_
      refine mRunF.sg (mSl mk_110 32 4) (g := (100, [some (.ref 0), some (.int a0), some (.int a1)], [.int a0, .int 0, .ref 39], mSS M3)) (by decide +kernel) rfl ?_
      obtain ⟨r9, M8, q7, h⟩ := bW_of h
      refine R_callV (mi := 97) (na := 3) (ci := 10) (i := 39) (as := [.int 0, .int a0]) (r := []) (rv := some (.int r9)) (σ1 := mSS M8) ⟨161, by decide +kernel⟩ rfl rfl rfl rfl (Wk_lawOfGoer_r N 0 a0 M3 (d + 0) q7) ?_
      show mRunF _ _ (103, [some (.ref 0), some (.int a0), some (.int a1)], [.int r9], mSS M8)
      refine R_le (t := 110) ⟨7, by decide +kernel⟩ (fun q => ?_) (fun q => ?_)
      · rw [if_pos q] at h
        refine mRunF.sg (mSl mk_110 40 1) (g := (111, [some (.ref 0), some (.int a0), some (.int a1)], [.int 0], mSS M8)) (by decide +kernel) rfl ?_
        cases h
        exact R_iret (by decide +kernel)
      · rw [if_neg q] at h
        refine mRunF.sg (mSl mk_110 38 2) (g := (111, [some (.ref 0), some (.int a0), some (.int a1)], [.int 1], mSS M8)) (by decide +kernel) rfl ?_
        cases h
        exact R_iret (by decide +kernel)
    rw [if_neg e3] at h
    by_cases e4 : a1 = 4
    · rw [if_pos e4] at h
      refine R_swc (lo := 0) (hi := 6) (td := 142) (ts := [64, 74, 84, 94, 112, 122, 132]) ⟨120, #[42, 52, 62, 72, 90, 100, 110], by decide +kernel⟩ 4 (by rw [e4]; decide) (by decide) rfl ?_
      refine mRunF.sg (mSl mk_110 42 4) (g := (118, [some (.ref 0), some (.int a0), some (.int a1)], [.int a0, .int 1, .ref 39], mSS M3)) (by decide +kernel) rfl ?_
      obtain ⟨r12, M11, q10, h⟩ := bW_of h
      refine R_callV (mi := 97) (na := 3) (ci := 10) (i := 39) (as := [.int 1, .int a0]) (r := []) (rv := some (.int r12)) (σ1 := mSS M11) ⟨161, by decide +kernel⟩ rfl rfl rfl rfl (Wk_lawOfGoer_r N 1 a0 M3 (d + 0) q10) ?_
      show mRunF _ _ (121, [some (.ref 0), some (.int a0), some (.int a1)], [.int r12], mSS M11)
      cases h
      exact R_iret (by decide +kernel)
    rw [if_neg e4] at h
    by_cases e5 : a1 = 5
    · rw [if_pos e5] at h
      refine R_swc (lo := 0) (hi := 6) (td := 142) (ts := [64, 74, 84, 94, 112, 122, 132]) ⟨120, #[42, 52, 62, 72, 90, 100, 110], by decide +kernel⟩ 5 (by rw [e5]; decide) (by decide) rfl ?_
      refine mRunF.sg (mSl mk_110 48 4) (g := (128, [some (.ref 0), some (.int a0), some (.int a1)], [.int a0, .int 2, .ref 39], mSS M3)) (by decide +kernel) rfl ?_
      obtain ⟨r15, M14, q13, h⟩ := bW_of h
      refine R_callV (mi := 97) (na := 3) (ci := 10) (i := 39) (as := [.int 2, .int a0]) (r := []) (rv := some (.int r15)) (σ1 := mSS M14) ⟨161, by decide +kernel⟩ rfl rfl rfl rfl (Wk_lawOfGoer_r N 2 a0 M3 (d + 0) q13) ?_
      show mRunF _ _ (131, [some (.ref 0), some (.int a0), some (.int a1)], [.int r15], mSS M14)
      cases h
      exact R_iret (by decide +kernel)
    rw [if_neg e5] at h
    by_cases e6 : a1 = 6
    · rw [if_pos e6] at h
      refine R_swc (lo := 0) (hi := 6) (td := 142) (ts := [64, 74, 84, 94, 112, 122, 132]) ⟨120, #[42, 52, 62, 72, 90, 100, 110], by decide +kernel⟩ 6 (by rw [e6]; decide) (by decide) rfl ?_
      refine mRunF.sg (mSl mk_110 54 5) (g := (140, [some (.ref 0), some (.int a0), some (.int a1)], [.int (14 + a0), .ref 34], mSS M3)) (by decide +kernel) rfl ?_
      obtain ⟨g16, h⟩ := grd_of h
      refine R_iald (by decide +kernel) rfl g16 ?_
      cases h
      exact R_iret (by decide +kernel)
    rw [if_neg e6] at h
    refine R_swd (lo := 0) (hi := 6) (td := 142) (ts := [64, 74, 84, 94, 112, 122, 132]) ⟨120, #[42, 52, 62, 72, 90, 100, 110], by decide +kernel⟩ (sw_out 0 7 (by decide) (by decide) (fun j hj => by match j, hj with | 0, _ => exact e0 | 1, _ => exact e1 | 2, _ => exact e2 | 3, _ => exact e3 | 4, _ => exact e4 | 5, _ => exact e5 | 6, _ => exact e6 | j + 7, hj => omega)) ?_
    refine mRunF.sg (mSl mk_110 61 1) (g := (143, [some (.ref 0), some (.int a0), some (.int a1)], [.int (-1)], mSS M3)) (by decide +kernel) rfl ?_
    cases h
    exact R_iret (by decide +kernel)
set_option maxRecDepth 100000 in
set_option maxHeartbeats 4000000 in
theorem Md_areTwo_r (a0 : Int32) (a1 : Int32) (M : mS) (d : Nat) : mMet mP mTx (d + 2) 162 [.ref 0, .int a0, .int a1] (mSS M) (some (.int (Md_areTwo a0 a1 M))) (mSS M) := by
  refine mMet_i ⟨Nat.le_refl _, Nat.le_refl _, Nat.le_of_ble_eq_true rfl⟩ ?_
  generalize h : Md_areTwo a0 a1 M = r
  unfold Md_areTwo at h
  show mRunF (mCd 162) (mEE (mMet mP mTx (d + 1)) (some .boolean) (some (.int r)) M) (0, [some (.ref 0), some (.int a0), some (.int a1)], [], mSS M)
  refine mRunF.sg (mSl mk_162 0 2) (g := (2, [some (.ref 0), some (.int a0), some (.int a1)], [.int a0, .ref 0], mSS M)) (by decide +kernel) rfl ?_
  refine R_callV (mi := 161) (na := 2) (ci := 11) (i := 0) (as := [.int a0]) (r := []) (rv := some (.int (Md_isGoer a0 M))) (σ1 := mSS M) ⟨152, by decide +kernel⟩ rfl rfl rfl rfl (Md_isGoer_r a0 M (d + 0)) ?_
  have b1 := mBool rfl (Md_isGoer_r a0 M (d + 0))
  show mRunF _ _ (5, [some (.ref 0), some (.int a0), some (.int a1)], [.int (Md_isGoer a0 M)], mSS M)
  refine R_eq (t := 25) ⟨20, by decide +kernel⟩ (fun q => ?_) (fun q => ?_)
  · rw [if_pos q] at h
    refine mRunF.sg (mSl mk_162 13 1) (g := (26, [some (.ref 0), some (.int a0), some (.int a1)], [.int 0], mSS M)) (by decide +kernel) rfl ?_
    subst h
    exact R_zret (by decide +kernel) (Or.inl rfl)
  · rw [if_neg q] at h
    refine mRunF.sg (mSl mk_162 4 2) (g := (10, [some (.ref 0), some (.int a0), some (.int a1)], [.int a1, .ref 0], mSS M)) (by decide +kernel) rfl ?_
    refine R_callV (mi := 161) (na := 2) (ci := 11) (i := 0) (as := [.int a1]) (r := []) (rv := some (.int (Md_isGoer a1 M))) (σ1 := mSS M) ⟨152, by decide +kernel⟩ rfl rfl rfl rfl (Md_isGoer_r a1 M (d + 0)) ?_
    have b2 := mBool rfl (Md_isGoer_r a1 M (d + 0))
    show mRunF _ _ (13, [some (.ref 0), some (.int a0), some (.int a1)], [.int (Md_isGoer a1 M)], mSS M)
    refine R_eq (t := 25) ⟨12, by decide +kernel⟩ (fun q => ?_) (fun q => ?_)
    · rw [if_pos q] at h
      refine mRunF.sg (mSl mk_162 13 1) (g := (26, [some (.ref 0), some (.int a0), some (.int a1)], [.int 0], mSS M)) (by decide +kernel) rfl ?_
      subst h
      exact R_zret (by decide +kernel) (Or.inl rfl)
    · rw [if_neg q] at h
      refine mRunF.sg (mSl mk_162 8 2) (g := (18, [some (.ref 0), some (.int a0), some (.int a1)], [.int a1, .int a0], mSS M)) (by decide +kernel) rfl ?_
      refine R_ieq (t := 25) ⟨7, by decide +kernel⟩ (fun q => ?_) (fun q => ?_)
      · rw [if_pos q] at h
        refine mRunF.sg (mSl mk_162 13 1) (g := (26, [some (.ref 0), some (.int a0), some (.int a1)], [.int 0], mSS M)) (by decide +kernel) rfl ?_
        subst h
        exact R_zret (by decide +kernel) (Or.inl rfl)
      · rw [if_neg q] at h
        refine mRunF.sg (mSl mk_162 11 2) (g := (26, [some (.ref 0), some (.int a0), some (.int a1)], [.int 1], mSS M)) (by decide +kernel) rfl ?_
        subst h
        exact R_zret (by decide +kernel) (Or.inr rfl)
set_option maxRecDepth 100000 in
set_option maxHeartbeats 4000000 in
theorem Md_pair_r (a0 : Int32) (a1 : Int32) (M : mS) (d : Nat) : mMet mP mTx (d + 1) 168 [.int a0, .int a1] (mSS M) (some (.int (Md_pair a0 a1 M))) (mSS M) := by
  refine mMet_i ⟨Nat.le_refl _, Nat.le_refl _, Nat.le_of_ble_eq_true rfl⟩ ?_
  generalize h : Md_pair a0 a1 M = r
  unfold Md_pair at h
  show mRunF (mCd 168) (mEE (mMet mP mTx (d + 0)) (some .int) (some (.int r)) M) (0, [some (.int a0), some (.int a1)], [], mSS M)
  refine mRunF.sg (mSl mk_168 0 7) (g := (8, [some (.int a0), some (.int a1)], [.int ((19 + (a0 * 5)) + a1)], mSS M)) (by decide +kernel) rfl ?_
  subst h
  exact R_iret (by decide +kernel)
set_option maxRecDepth 100000 in
set_option maxHeartbeats 4000000 in
theorem Md_together_r (N : Nat) (a0 : Int32) (a1 : Int32) (M : mS) {r : Int32} (d : Nat) (h : Md_together N a0 a1 M = some r) : mMet mP mTx (d + 3) 111 [.ref 0, .int a0, .int a1] (mSS M) (some (.int r)) (mSS M) := by
  refine mMet_i ⟨Nat.le_refl _, Nat.le_refl _, Nat.le_of_ble_eq_true rfl⟩ ?_
  unfold Md_together at h
  show mRunF (mCd 111) (mEE (mMet mP mTx (d + 2)) (some .int) (some (.int r)) M) (0, [some (.ref 0), some (.int a0), some (.int a1)], [], mSS M)
  refine mRunF.sg (mSl mk_111 0 3) (g := (3, [some (.ref 0), some (.int a0), some (.int a1)], [.int a1, .int a0, .ref 0], mSS M)) (by decide +kernel) rfl ?_
  refine R_callV (mi := 162) (na := 3) (ci := 11) (i := 0) (as := [.int a0, .int a1]) (r := []) (rv := some (.int (Md_areTwo a0 a1 M))) (σ1 := mSS M) ⟨164, by decide +kernel⟩ rfl rfl rfl rfl (Md_areTwo_r a0 a1 M (d + 0)) ?_
  have b1 := mBool rfl (Md_areTwo_r a0 a1 M (d + 0))
  show mRunF _ _ (6, [some (.ref 0), some (.int a0), some (.int a1)], [.int (Md_areTwo a0 a1 M)], mSS M)
  refine R_eq (t := 22) ⟨16, by decide +kernel⟩ (fun q => ?_) (fun q => ?_)
  · rw [if_pos q] at h
    refine mRunF.sg (mSl mk_111 12 1) (g := (23, [some (.ref 0), some (.int a0), some (.int a1)], [.int (-1)], mSS M)) (by decide +kernel) rfl ?_
    cases h
    exact R_iret (by decide +kernel)
  · rw [if_neg q] at h
    refine mRunF.sg (mSl mk_111 5 4) (g := (15, [some (.ref 0), some (.int a0), some (.int a1)], [.int a1, .int a0, .ref 34], mSS M)) (by decide +kernel) rfl ?_
    refine R_callS (mi := 168) (na := 2) (as := [.int a0, .int a1]) (r := [.ref 34]) (rv := some (.int (Md_pair a0 a1 M))) (σ1 := mSS M) ⟨167, by decide +kernel⟩ rfl rfl rfl (Md_pair_r a0 a1 M (d + 1)) ?_
    show mRunF _ _ (18, [some (.ref 0), some (.int a0), some (.int a1)], [.int (Md_pair a0 a1 M), .ref 34], mSS M)
    obtain ⟨g2, h⟩ := grd_of h
    refine R_iald (by decide +kernel) rfl g2 ?_
    refine mRunF.sg (mSl mk_111 11 1) (g := (23, [some (.ref 0), some (.int a0), some (.int a1)], [.int (M.1 34 (Md_pair a0 a1 M).toNatClampNeg)], mSS M)) (by decide +kernel) rfl ?_
    cases h
    exact R_iret (by decide +kernel)
set_option maxRecDepth 100000 in
set_option maxHeartbeats 4000000 in
theorem Md_allHours_r (a0 : Int32) (M : mS) (d : Nat) : mMet mP mTx (d + 1) 169 [.int a0] (mSS M) (some (.int (Md_allHours a0 M))) (mSS M) := by
  refine mMet_i ⟨Nat.le_refl _, Nat.le_refl _, Nat.le_of_ble_eq_true rfl⟩ ?_
  generalize h : Md_allHours a0 M = r
  unfold Md_allHours at h
  show mRunF (mCd 169) (mEE (mMet mP mTx (d + 0)) (some .int) (some (.int r)) M) (0, [some (.int a0)], [], mSS M)
  refine mRunF.sg (mSl mk_169 0 5) (g := (5, [some (.int a0)], [.int (((1 : Int32) <<< (a0 &&& 31)) - 1)], mSS M)) (by decide +kernel) rfl ?_
  subst h
  exact R_iret (by decide +kernel)
set_option maxRecDepth 100000 in
set_option maxHeartbeats 4000000 in
theorem Wk_arc_r (N : Nat) (a0 : Int32) (a1 : Int32) (M : mS) {r : Int32} (d : Nat) (h : Wk_arc N a0 a1 M = some r) : mMet mP mTx (d + 2) 91 [.ref 39, .int a0, .int a1] (mSS M) (some (.int r)) (mSS M) := by
  refine mMet_i ⟨Nat.le_refl _, Nat.le_refl _, Nat.le_of_ble_eq_true rfl⟩ ?_
  unfold Wk_arc at h
  show mRunF (mCd 91) (mEE (mMet mP mTx (d + 1)) (some .int) (some (.int r)) M) (0, [some (.ref 39), some (.int a0), some (.int a1), none, none], [], mSS M)
  refine mRunF.sg (mSl mk_91 0 4) (g := (8, [some (.ref 39), some (.int a0), some (.int a1), none, none], [.int (M.1 3 6), .int a0], mSS M)) (by decide +kernel) rfl ?_
  obtain ⟨r2, q1, h⟩ := bR_of h
  refine R_callS (mi := 166) (na := 2) (as := [.int a0, .int (M.1 3 6)]) (r := []) (rv := some (.int r2)) (σ1 := mSS M) ⟨92, by decide +kernel⟩ rfl rfl rfl (Md_rest_r N a0 (M.1 3 6) M (d + 0) q1) ?_
  show mRunF _ _ (11, [some (.ref 39), some (.int a0), some (.int a1), none, none], [.int r2], mSS M)
  refine mRunF.sg (mSl mk_91 5 2) (g := (13, [some (.ref 39), some (.int a0), some (.int a1), some (.int r2), none], [.int a1], mSS M)) (by decide +kernel) rfl ?_
  refine R_callS (mi := 169) (na := 1) (as := [.int a1]) (r := []) (rv := some (.int (Md_allHours a1 M))) (σ1 := mSS M) ⟨95, by decide +kernel⟩ rfl rfl rfl (Md_allHours_r a1 M (d + 0)) ?_
  show mRunF _ _ (16, [some (.ref 39), some (.int a0), some (.int a1), some (.int r2), none], [.int (Md_allHours a1 M)], mSS M)
  refine mRunF.sg (mSl mk_91 8 1) (g := (18, [some (.ref 39), some (.int a0), some (.int a1), some (.int r2), some (.int (Md_allHours a1 M))], [], mSS M)) (by decide +kernel) rfl ?_
  obtain ⟨v3, hv, h⟩ := nxt_ex h
  rw [← hv]
  clear hv
  refine mRunF.sg (mSl mk_91 9 14) (g := (42, [some (.ref 39), some (.int a0), some (.int a1), some (.int r2), some (.int v3)], [.int (M.1 3 6), .int ((v3 <<< (r2 &&& 31)) ||| (ushr v3 ((M.1 3 6) - r2)))], mSS M)) (by decide +kernel) rfl ?_
  refine R_callS (mi := 169) (na := 1) (as := [.int (M.1 3 6)]) (r := [.int ((v3 <<< (r2 &&& 31)) ||| (ushr v3 ((M.1 3 6) - r2)))]) (rv := some (.int (Md_allHours (M.1 3 6) M))) (σ1 := mSS M) ⟨95, by decide +kernel⟩ rfl rfl rfl (Md_allHours_r (M.1 3 6) M (d + 0)) ?_
  show mRunF _ _ (45, [some (.ref 39), some (.int a0), some (.int a1), some (.int r2), some (.int v3)], [.int (Md_allHours (M.1 3 6) M), .int ((v3 <<< (r2 &&& 31)) ||| (ushr v3 ((M.1 3 6) - r2)))], mSS M)
  refine mRunF.sg (mSl mk_91 24 1) (g := (46, [some (.ref 39), some (.int a0), some (.int a1), some (.int r2), some (.int v3)], [.int (((v3 <<< (r2 &&& 31)) ||| (ushr v3 ((M.1 3 6) - r2))) &&& (Md_allHours (M.1 3 6) M))], mSS M)) (by decide +kernel) rfl ?_
  cases h
  exact R_iret (by decide +kernel)
set_option maxRecDepth 100000 in
set_option maxHeartbeats 4000000 in
theorem La_changes_r (a0 : Int32) (M : mS) (d : Nat) : mMet mP mTx (d + 1) 16 [.ref 4, .int a0] (mSS M) (some (.int (La_changes a0 M))) (mSS M) := by
  refine mMet_i ⟨Nat.le_refl _, Nat.le_refl _, Nat.le_of_ble_eq_true rfl⟩ ?_
  generalize h : La_changes a0 M = r
  unfold La_changes at h
  show mRunF (mCd 16) (mEE (mMet mP mTx (d + 0)) (some .boolean) (some (.int r)) M) (0, [some (.ref 4), some (.int a0)], [], mSS M)
  refine mRunF.sg (mSl mk_16 0 6) (g := (8, [some (.ref 4), some (.int a0)], [.int (((M.1 4 5) >>> (a0 &&& 31)) &&& 1)], mSS M)) (by decide +kernel) rfl ?_
  refine R_eq (t := 15) ⟨7, by decide +kernel⟩ (fun q => ?_) (fun q => ?_)
  · rw [if_pos q] at h
    refine mRunF.sg (mSl mk_16 9 1) (g := (16, [some (.ref 4), some (.int a0)], [.int 0], mSS M)) (by decide +kernel) rfl ?_
    subst h
    exact R_zret (by decide +kernel) (Or.inl rfl)
  · rw [if_neg q] at h
    refine mRunF.sg (mSl mk_16 7 2) (g := (16, [some (.ref 4), some (.int a0)], [.int 1], mSS M)) (by decide +kernel) rfl ?_
    subst h
    exact R_zret (by decide +kernel) (Or.inr rfl)
set_option maxRecDepth 100000 in
set_option maxHeartbeats 4000000 in
theorem Wk_see_125_r {N d : Nat} {k53 : Int32 → Int32 → Int32 → mS → Option mS} {M : mS} {x1 : Int32} {x2 : Int32} {x3 : Int32} {z1 : Int32} {z2 : Int32} {M' : mS} (hk53 : ∀ (x1 : Int32) (x2 : Int32) (x3 : Int32) (M : mS), k53 x1 x2 x3 M = some M' → mRunF (mCd 90) (mEE (mMet mP mTx (d + 3)) (none) none M') (53, [some (.ref 39), some (.int x1), some (.int x2), some (.int x3), none], [], mSS M)) (h : Wk_see_125 N k53 x1 x2 x3 z1 z2 M = some M') : mRunF (mCd 90) (mEE (mMet mP mTx (d + 3)) (none) none M') (125, [some (.ref 39), some (.int x1), some (.int x2), some (.int x3), none], [.int z2, .int z1, .ref 42], mSS M) := by
  unfold Wk_see_125 at h
  obtain ⟨g1, h⟩ := grd_of h
  refine R_iast (by decide +kernel) rfl g1 ?_
  obtain ⟨M2, hv, h⟩ := nxt_ex h
  rw [← hv]
  clear hv
  refine mRunF.sg (mSl mk_90 67 2) (g := (53, [some (.ref 39), some (.int x1), some (.int x2), some (.int (x3 + 1)), none], [], mSS M2)) (by decide +kernel) rfl ?_
  exact hk53 _ _ _ _ h
set_option maxRecDepth 100000 in
set_option maxHeartbeats 4000000 in
theorem Wk_see_83_r {N d : Nat} {k53 : Int32 → Int32 → Int32 → mS → Option mS} {M : mS} {x1 : Int32} {x2 : Int32} {x3 : Int32} {z0 : Int32} {M' : mS} (hk53 : ∀ (x1 : Int32) (x2 : Int32) (x3 : Int32) (M : mS), k53 x1 x2 x3 M = some M' → mRunF (mCd 90) (mEE (mMet mP mTx (d + 3)) (none) none M') (53, [some (.ref 39), some (.int x1), some (.int x2), some (.int x3), none], [], mSS M)) (h : Wk_see_83 N k53 x1 x2 x3 z0 M = some M') : mRunF (mCd 90) (mEE (mMet mP mTx (d + 3)) (none) none M') (83, [some (.ref 39), some (.int x1), some (.int x2), some (.int x3), none], [.int z0], mSS M) := by
  unfold Wk_see_83 at h
  refine mRunF.sg (mSl mk_90 43 5) (g := (92, [some (.ref 39), some (.int x1), some (.int x2), some (.int x3), some (.int z0)], [.int z0, .int x3, .ref 42], mSS M)) (by decide +kernel) rfl ?_
  refine R_eq (t := 117) ⟨25, by decide +kernel⟩ (fun q => ?_) (fun q => ?_)
  · rw [if_pos q] at h
    refine mRunF.sg (mSl mk_90 60 5) (g := (124, [some (.ref 39), some (.int x1), some (.int x2), some (.int x3), some (.int z0)], [.int (1 + x3), .ref 40, .int x3, .ref 42], mSS M)) (by decide +kernel) rfl ?_
    obtain ⟨g3, h⟩ := grd_of h
    refine R_iald (by decide +kernel) rfl g3 ?_
    refine mRunF.forget [true, true, true, true, false] ?_
    exact Wk_see_125_r hk53 h
  · rw [if_neg q] at h
    refine mRunF.sg (mSl mk_90 49 7) (g := (107, [some (.ref 39), some (.int x1), some (.int x2), some (.int x3), some (.int z0)], [.int x3, .ref 39, .int 100000, .int x1, .int (M.1 3 6), .int x3, .ref 42], mSS M)) (by decide +kernel) rfl ?_
    refine R_callV (mi := 102) (na := 2) (ci := 10) (i := 39) (as := [.int x3]) (r := [.int 100000, .int x1, .int (M.1 3 6), .int x3, .ref 42]) (rv := some (.int (Wk_which x3 M))) (σ1 := mSS M) ⟨68, by decide +kernel⟩ rfl rfl rfl rfl (Wk_which_r x3 M (d + 2)) ?_
    show mRunF _ _ (110, [some (.ref 39), some (.int x1), some (.int x2), some (.int x3), some (.int z0)], [.int (Wk_which x3 M), .int 100000, .int x1, .int (M.1 3 6), .int x3, .ref 42], mSS M)
    refine mRunF.sg (mSl mk_90 57 1) (g := (111, [some (.ref 39), some (.int x1), some (.int x2), some (.int x3), some (.int z0)], [.int (100000 + (Wk_which x3 M)), .int x1, .int (M.1 3 6), .int x3, .ref 42], mSS M)) (by decide +kernel) rfl ?_
    obtain ⟨r5, q4, h⟩ := bR_of h
    refine R_callS (mi := 171) (na := 3) (as := [.int (M.1 3 6), .int x1, .int (100000 + (Wk_which x3 M))]) (r := [.int x3, .ref 42]) (rv := some (.int r5)) (σ1 := mSS M) ⟨72, by decide +kernel⟩ rfl rfl rfl (Md_lot_r N (M.1 3 6) x1 (100000 + (Wk_which x3 M)) M (d + 1) q4) ?_
    show mRunF _ _ (114, [some (.ref 39), some (.int x1), some (.int x2), some (.int x3), some (.int z0)], [.int r5, .int x3, .ref 42], mSS M)
    refine mRunF.sg (mSl mk_90 59 1) (g := (125, [some (.ref 39), some (.int x1), some (.int x2), some (.int x3), some (.int z0)], [.int r5, .int x3, .ref 42], mSS M)) (by decide +kernel) rfl ?_
    refine mRunF.forget [true, true, true, true, false] ?_
    exact Wk_see_125_r hk53 h
set_option maxRecDepth 100000 in
set_option maxHeartbeats 4000000 in
theorem Wk_see_82_r {N d : Nat} {k53 : Int32 → Int32 → Int32 → mS → Option mS} {M : mS} {x1 : Int32} {x2 : Int32} {x3 : Int32} {M' : mS} (hk53 : ∀ (x1 : Int32) (x2 : Int32) (x3 : Int32) (M : mS), k53 x1 x2 x3 M = some M' → mRunF (mCd 90) (mEE (mMet mP mTx (d + 3)) (none) none M') (53, [some (.ref 39), some (.int x1), some (.int x2), some (.int x3), none], [], mSS M)) (h : Wk_see_82 N k53 x1 x2 x3 M = some M') : mRunF (mCd 90) (mEE (mMet mP mTx (d + 3)) (none) none M') (82, [some (.ref 39), some (.int x1), some (.int x2), some (.int x3), none], [], mSS M) := by
  unfold Wk_see_82 at h
  refine mRunF.sg (mSl mk_90 42 1) (g := (83, [some (.ref 39), some (.int x1), some (.int x2), some (.int x3), none], [.int 0], mSS M)) (by decide +kernel) rfl ?_
  exact Wk_see_83_r hk53 h
set_option maxRecDepth 100000 in
set_option maxHeartbeats 4000000 in
theorem Wk_see_174_r {N d : Nat} {k134 : Int32 → Int32 → mS → Option mS} {M : mS} {x2 : Int32} {x3 : Int32} {M' : mS} (hk134 : ∀ (x2 : Int32) (x3 : Int32) (M : mS), k134 x2 x3 M = some M' → mRunF (mCd 90) (mEE (mMet mP mTx (d + 3)) (none) none M') (134, [some (.ref 39), none, some (.int x2), some (.int x3), none], [], mSS M)) (h : Wk_see_174 N k134 x2 x3 M = some M') : mRunF (mCd 90) (mEE (mMet mP mTx (d + 3)) (none) none M') (174, [some (.ref 39), none, some (.int x2), some (.int x3), none], [], mSS M) := by
  unfold Wk_see_174 at h
  refine mRunF.sg (mSl mk_90 93 8) (g := (188, [some (.ref 39), none, some (.int x2), some (.int x3), none], [.int x3, .ref 12, .ref 39, .int x3, .ref 41], mSS M)) (by decide +kernel) rfl ?_
  obtain ⟨g6, h⟩ := grd_of h
  refine R_iald (by decide +kernel) rfl g6 ?_
  refine mRunF.sg (mSl mk_90 102 4) (g := (195, [some (.ref 39), none, some (.int x2), some (.int x3), none], [.int x3, .ref 39, .ref 42, .int (M.1 12 x3.toNatClampNeg), .ref 39, .int x3, .ref 41], mSS M)) (by decide +kernel) rfl ?_
  obtain ⟨r8, q7, h⟩ := bR_of h
  refine R_callV (mi := 100) (na := 2) (ci := 10) (i := 39) (as := [.int x3]) (r := [.ref 42, .int (M.1 12 x3.toNatClampNeg), .ref 39, .int x3, .ref 41]) (rv := some (.int r8)) (σ1 := mSS M) ⟨86, by decide +kernel⟩ rfl rfl rfl rfl (Wk_dialOf_r N x3 M (d + 1) q7) ?_
  show mRunF _ _ (198, [some (.ref 39), none, some (.int x2), some (.int x3), none], [.int r8, .ref 42, .int (M.1 12 x3.toNatClampNeg), .ref 39, .int x3, .ref 41], mSS M)
  obtain ⟨g9, h⟩ := grd_of h
  refine R_iald (by decide +kernel) rfl g9 ?_
  refine mRunF.sg (mSl mk_90 108 4) (g := (205, [some (.ref 39), none, some (.int x2), some (.int x3), none], [.int x3, .ref 43, .int ((M.1 12 x3.toNatClampNeg) - (M.1 42 r8.toNatClampNeg)), .ref 39, .int x3, .ref 41], mSS M)) (by decide +kernel) rfl ?_
  obtain ⟨g10, h⟩ := grd_of h
  refine R_iald (by decide +kernel) rfl g10 ?_
  obtain ⟨r12, q11, h⟩ := bR_of h
  refine R_callV (mi := 91) (na := 3) (ci := 10) (i := 39) (as := [.int ((M.1 12 x3.toNatClampNeg) - (M.1 42 r8.toNatClampNeg)), .int (M.1 43 x3.toNatClampNeg)]) (r := [.int x3, .ref 41]) (rv := some (.int r12)) (σ1 := mSS M) ⟨89, by decide +kernel⟩ rfl rfl rfl rfl (Wk_arc_r N ((M.1 12 x3.toNatClampNeg) - (M.1 42 r8.toNatClampNeg)) (M.1 43 x3.toNatClampNeg) M (d + 1) q11) ?_
  show mRunF _ _ (209, [some (.ref 39), none, some (.int x2), some (.int x3), none], [.int r12, .int x3, .ref 41], mSS M)
  obtain ⟨g13, h⟩ := grd_of h
  refine R_iast (by decide +kernel) rfl g13 ?_
  obtain ⟨M14, hv, h⟩ := nxt_ex h
  rw [← hv]
  clear hv
  refine mRunF.sg (mSl mk_90 115 8) (g := (224, [some (.ref 39), none, some (.int x2), some (.int x3), none], [.int x3, .ref 41, .int (M14.1 39 2), .int (M14.1 39 3), .ref 39], mSS M14)) (by decide +kernel) rfl ?_
  obtain ⟨g15, h⟩ := grd_of h
  refine R_iald (by decide +kernel) rfl g15 ?_
  refine mRunF.sg (mSl mk_90 124 3) (g := (230, [some (.ref 39), none, some (.int x2), some (.int x3), none], [], mSS (mWI M14 39 3 ((M14.1 39 3) ||| ((M14.1 39 2) &&& (M14.1 41 x3.toNatClampNeg)))))) (by decide +kernel) rfl ?_
  obtain ⟨M16, hv, h⟩ := nxt_ex h
  rw [← hv]
  clear hv
  refine mRunF.sg (mSl mk_90 127 6) (g := (240, [some (.ref 39), none, some (.int x2), some (.int x3), none], [.int x3, .ref 41, .int (M16.1 39 2), .ref 39], mSS M16)) (by decide +kernel) rfl ?_
  obtain ⟨g17, h⟩ := grd_of h
  refine R_iald (by decide +kernel) rfl g17 ?_
  refine mRunF.sg (mSl mk_90 134 2) (g := (245, [some (.ref 39), none, some (.int x2), some (.int x3), none], [], mSS (mWI M16 39 2 ((M16.1 39 2) ||| (M16.1 41 x3.toNatClampNeg))))) (by decide +kernel) rfl ?_
  obtain ⟨M18, hv, h⟩ := nxt_ex h
  rw [← hv]
  clear hv
  refine mRunF.sg (mSl mk_90 136 2) (g := (134, [some (.ref 39), none, some (.int x2), some (.int (x3 + 1)), none], [], mSS M18)) (by decide +kernel) rfl ?_
  exact hk134 _ _ _ h
set_option maxRecDepth 100000 in
set_option maxHeartbeats 4000000 in
theorem Wk_see_173_r {N d : Nat} {k134 : Int32 → Int32 → mS → Option mS} {M : mS} {x2 : Int32} {x3 : Int32} {z1 : Int32} {z2 : Int32} {M' : mS} (hk134 : ∀ (x2 : Int32) (x3 : Int32) (M : mS), k134 x2 x3 M = some M' → mRunF (mCd 90) (mEE (mMet mP mTx (d + 3)) (none) none M') (134, [some (.ref 39), none, some (.int x2), some (.int x3), none], [], mSS M)) (h : Wk_see_173 N k134 x2 x3 z1 z2 M = some M') : mRunF (mCd 90) (mEE (mMet mP mTx (d + 3)) (none) none M') (173, [some (.ref 39), none, some (.int x2), some (.int x3), none], [.int z2, .int z1, .ref 43], mSS M) := by
  unfold Wk_see_173 at h
  obtain ⟨g19, h⟩ := grd_of h
  refine R_iast (by decide +kernel) rfl g19 ?_
  obtain ⟨M20, hv, h⟩ := nxt_ex h
  rw [← hv]
  clear hv
  exact Wk_see_174_r hk134 h
set_option maxRecDepth 100000 in
set_option maxHeartbeats 4000000 in
theorem Wk_see_134_r {N d : Nat}   {M' : mS} : ∀ {n : Nat} {x2 : Int32} {x3 : Int32} {M : mS}, Wk_see_134 N n x2 x3 M = some M' → mRunF (mCd 90) (mEE (mMet mP mTx (d + 3)) (none) none M') (134, [some (.ref 39), none, some (.int x2), some (.int x3), none], [], mSS M) := by
  intro n
  induction n with
  | zero => intro x2 x3 M h; cases h
  | succ n ih =>
    replace ih := @ih
    intro x2 x3 M h
    unfold Wk_see_134 at h
    refine mRunF.sg (mSl mk_90 71 4) (g := (142, [some (.ref 39), none, some (.int x2), some (.int x3), none], [.int (M.1 3 8), .int x3], mSS M)) (by decide +kernel) rfl ?_
    refine R_ige (t := 251) ⟨109, by decide +kernel⟩ (fun q => ?_) (fun q => ?_)
    · rw [if_pos q] at h
      refine mRunF.sg (mSl mk_90 138 3) (g := (256, [some (.ref 39), none, some (.int x2), some (.int x3), none], [], mSS (mWI M 39 7 1))) (by decide +kernel) rfl ?_
      obtain ⟨M21, hv, h⟩ := nxt_ex h
      rw [← hv]
      clear hv
      cases h
      exact R_vret (by decide +kernel)
    · rw [if_neg q] at h
      refine mRunF.sg (mSl mk_90 76 1) (g := (146, [some (.ref 39), none, some (.int x2), some (.int x3), none], [.int x2], mSS M)) (by decide +kernel) rfl ?_
      refine R_eq (t := 174) ⟨28, by decide +kernel⟩ (fun q => ?_) (fun q => ?_)
      · rw [if_pos q] at h
        exact Wk_see_174_r (fun y0 y1 y2 hh => @ih y0 y1 y2 hh) h
      · rw [if_neg q] at h
        refine mRunF.sg (mSl mk_90 78 6) (g := (157, [some (.ref 39), none, some (.int x2), some (.int x3), none], [.int x3, .int 0, .ref 39, .int x3, .ref 43], mSS M)) (by decide +kernel) rfl ?_
        obtain ⟨r24, M23, q22, h⟩ := bW_of h
        refine R_callV (mi := 97) (na := 3) (ci := 10) (i := 39) (as := [.int 0, .int x3]) (r := [.int x3, .ref 43]) (rv := some (.int r24)) (σ1 := mSS M23) ⟨79, by decide +kernel⟩ rfl rfl rfl rfl (Wk_lawOfGoer_r N 0 x3 M (d + 0) q22) ?_
        show mRunF _ _ (160, [some (.ref 39), none, some (.int x2), some (.int x3), none], [.int r24, .int x3, .ref 43], mSS M23)
        refine R_le (t := 172) ⟨12, by decide +kernel⟩ (fun q => ?_) (fun q => ?_)
        · rw [if_pos q] at h
          refine mRunF.sg (mSl mk_90 91 1) (g := (173, [some (.ref 39), none, some (.int x2), some (.int x3), none], [.int 0, .int x3, .ref 43], mSS M23)) (by decide +kernel) rfl ?_
          exact Wk_see_173_r (fun y0 y1 y2 hh => @ih y0 y1 y2 hh) h
        · rw [if_neg q] at h
          refine mRunF.sg (mSl mk_90 86 3) (g := (166, [some (.ref 39), none, some (.int x2), some (.int x3), none], [.int x3, .int 1, .ref 39, .int x3, .ref 43], mSS M23)) (by decide +kernel) rfl ?_
          obtain ⟨r27, M26, q25, h⟩ := bW_of h
          refine R_callV (mi := 97) (na := 3) (ci := 10) (i := 39) (as := [.int 1, .int x3]) (r := [.int x3, .ref 43]) (rv := some (.int r27)) (σ1 := mSS M26) ⟨79, by decide +kernel⟩ rfl rfl rfl rfl (Wk_lawOfGoer_r N 1 x3 M23 (d + 0) q25) ?_
          show mRunF _ _ (169, [some (.ref 39), none, some (.int x2), some (.int x3), none], [.int r27, .int x3, .ref 43], mSS M26)
          refine mRunF.sg (mSl mk_90 90 1) (g := (173, [some (.ref 39), none, some (.int x2), some (.int x3), none], [.int r27, .int x3, .ref 43], mSS M26)) (by decide +kernel) rfl ?_
          exact Wk_see_173_r (fun y0 y1 y2 hh => @ih y0 y1 y2 hh) h
set_option maxRecDepth 100000 in
set_option maxHeartbeats 4000000 in
theorem Wk_see_53_r {N d : Nat}   {M' : mS} : ∀ {n : Nat} {x1 : Int32} {x2 : Int32} {x3 : Int32} {M : mS}, Wk_see_53 N n x1 x2 x3 M = some M' → mRunF (mCd 90) (mEE (mMet mP mTx (d + 3)) (none) none M') (53, [some (.ref 39), some (.int x1), some (.int x2), some (.int x3), none], [], mSS M) := by
  intro n
  induction n with
  | zero => intro x1 x2 x3 M h; cases h
  | succ n ih =>
    replace ih := @ih
    intro x1 x2 x3 M h
    unfold Wk_see_53 at h
    refine mRunF.sg (mSl mk_90 27 4) (g := (61, [some (.ref 39), some (.int x1), some (.int x2), some (.int x3), none], [.int (M.1 3 7), .int x3], mSS M)) (by decide +kernel) rfl ?_
    refine R_ige (t := 132) ⟨71, by decide +kernel⟩ (fun q => ?_) (fun q => ?_)
    · rw [if_pos q] at h
      refine mRunF.sg (mSl mk_90 69 2) (g := (134, [some (.ref 39), some (.int x1), some (.int x2), some (.int 0), none], [], mSS M)) (by decide +kernel) rfl ?_
      refine mRunF.forget [true, false, true, true, true] ?_
      exact Wk_see_134_r h
    · rw [if_neg q] at h
      refine mRunF.sg (mSl mk_90 32 2) (g := (66, [some (.ref 39), some (.int x1), some (.int x2), some (.int x3), none], [.int (-1), .int x1], mSS M)) (by decide +kernel) rfl ?_
      refine R_ieq (t := 82) ⟨16, by decide +kernel⟩ (fun q => ?_) (fun q => ?_)
      · rw [if_pos q] at h
        exact Wk_see_82_r (fun y0 y1 y2 y3 hh => @ih y0 y1 y2 y3 hh) h
      · rw [if_neg q] at h
        refine mRunF.sg (mSl mk_90 35 3) (g := (72, [some (.ref 39), some (.int x1), some (.int x2), some (.int x3), none], [.int x1, .int x3, .ref 39], mSS M)) (by decide +kernel) rfl ?_
        obtain ⟨r30, M29, q28, h⟩ := bW_of h
        refine R_callV (mi := 101) (na := 3) (ci := 10) (i := 39) (as := [.int x3, .int x1]) (r := []) (rv := some (.int r30)) (σ1 := mSS M29) ⟨60, by decide +kernel⟩ rfl rfl rfl rfl (Wk_isDark_r N x3 x1 M (d + 0) q28) ?_
        have b31 := mBool rfl (Wk_isDark_r N x3 x1 M (d + 0) q28)
        show mRunF _ _ (75, [some (.ref 39), some (.int x1), some (.int x2), some (.int x3), none], [.int r30], mSS M29)
        refine R_eq (t := 82) ⟨7, by decide +kernel⟩ (fun q => ?_) (fun q => ?_)
        · rw [if_pos q] at h
          exact Wk_see_82_r (fun y0 y1 y2 y3 hh => @ih y0 y1 y2 y3 hh) h
        · rw [if_neg q] at h
          refine mRunF.sg (mSl mk_90 40 2) (g := (83, [some (.ref 39), some (.int x1), some (.int x2), some (.int x3), none], [.int 1], mSS M29)) (by decide +kernel) rfl ?_
          exact Wk_see_83_r (fun y0 y1 y2 y3 hh => @ih y0 y1 y2 y3 hh) h
set_option maxRecDepth 100000 in
set_option maxHeartbeats 4000000 in
theorem Wk_see_40_r {N d : Nat}  {M : mS} {x1 : Int32} {z0 : Int32} {M' : mS} (h : Wk_see_40 N x1 z0 M = some M') : mRunF (mCd 90) (mEE (mMet mP mTx (d + 3)) (none) none M') (40, [some (.ref 39), some (.int x1), none, none, none], [.int z0], mSS M) := by
  unfold Wk_see_40 at h
  refine mRunF.sg (mSl mk_90 18 4) (g := (46, [some (.ref 39), some (.int x1), some (.int z0), none, none], [], mSS (mWI M 39 2 0))) (by decide +kernel) rfl ?_
  obtain ⟨M32, hv, h⟩ := nxt_ex h
  rw [← hv]
  clear hv
  refine mRunF.sg (mSl mk_90 22 3) (g := (51, [some (.ref 39), some (.int x1), some (.int z0), none, none], [], mSS (mWI M32 39 3 0))) (by decide +kernel) rfl ?_
  obtain ⟨M33, hv, h⟩ := nxt_ex h
  rw [← hv]
  clear hv
  refine mRunF.sg (mSl mk_90 25 2) (g := (53, [some (.ref 39), some (.int x1), some (.int z0), some (.int 0), none], [], mSS M33)) (by decide +kernel) rfl ?_
  exact Wk_see_53_r h
set_option maxRecDepth 100000 in
set_option maxHeartbeats 4000000 in
theorem Wk_see_35_r {N d : Nat}  {M : mS} {x1 : Int32} {M' : mS} (h : Wk_see_35 N x1 M = some M') : mRunF (mCd 90) (mEE (mMet mP mTx (d + 3)) (none) none M') (35, [some (.ref 39), some (.int x1), none, none, none], [], mSS M) := by
  unfold Wk_see_35 at h
  refine mRunF.sg (mSl mk_90 15 2) (g := (40, [some (.ref 39), some (.int x1), none, none, none], [.int 1], mSS M)) (by decide +kernel) rfl ?_
  exact Wk_see_40_r h
set_option maxRecDepth 100000 in
set_option maxHeartbeats 4000000 in
theorem Wk_see_r (N : Nat) (a0 : Int32) (M : mS) {M' : mS} (d : Nat) (h : Wk_see N a0 M = some M') : mMet mP mTx (d + 4) 90 [.ref 39, .int a0] (mSS M) none (mSS M') := by
  refine mMet_i ⟨Nat.le_refl _, Nat.le_refl _, Nat.le_of_ble_eq_true rfl⟩ ?_
  unfold Wk_see at h
  show mRunF (mCd 90) (mEE (mMet mP mTx (d + 3)) (none) none M') (0, [some (.ref 39), some (.int a0), none, none, none], [], mSS M)
  refine mRunF.sg (mSl mk_90 0 2) (g := (4, [some (.ref 39), some (.int a0), none, none, none], [.int (M.1 39 7)], mSS M)) (by decide +kernel) rfl ?_
  refine R_eq (t := 35) ⟨31, by decide +kernel⟩ (fun q => ?_) (fun q => ?_)
  · rw [if_pos q] at h
    exact Wk_see_35_r h
  · rw [if_neg q] at h
    refine mRunF.sg (mSl mk_90 3 4) (g := (15, [some (.ref 39), some (.int a0), none, none, none], [.int 0, .ref 4], mSS M)) (by decide +kernel) rfl ?_
    refine R_callV (mi := 16) (na := 2) (ci := 2) (i := 4) (as := [.int 0]) (r := []) (rv := some (.int (La_changes 0 M))) (σ1 := mSS M) ⟨44, by decide +kernel⟩ rfl rfl rfl rfl (La_changes_r 0 M (d + 2)) ?_
    have b34 := mBool rfl (La_changes_r 0 M (d + 2))
    show mRunF _ _ (18, [some (.ref 39), some (.int a0), none, none, none], [.int (La_changes 0 M)], mSS M)
    refine R_ne (t := 35) ⟨17, by decide +kernel⟩ (fun q => ?_) (fun q => ?_)
    · rw [if_pos q] at h
      refine mRunF.sg (mSl mk_90 9 4) (g := (29, [some (.ref 39), some (.int a0), none, none, none], [.int 1, .ref 4], mSS M)) (by decide +kernel) rfl ?_
      refine R_callV (mi := 16) (na := 2) (ci := 2) (i := 4) (as := [.int 1]) (r := []) (rv := some (.int (La_changes 1 M))) (σ1 := mSS M) ⟨44, by decide +kernel⟩ rfl rfl rfl rfl (La_changes_r 1 M (d + 2)) ?_
      have b35 := mBool rfl (La_changes_r 1 M (d + 2))
      show mRunF _ _ (32, [some (.ref 39), some (.int a0), none, none, none], [.int (La_changes 1 M)], mSS M)
      refine R_eq (t := 39) ⟨7, by decide +kernel⟩ (fun q => ?_) (fun q => ?_)
      · rw [if_pos q] at h
        refine mRunF.sg (mSl mk_90 17 1) (g := (40, [some (.ref 39), some (.int a0), none, none, none], [.int 0], mSS M)) (by decide +kernel) rfl ?_
        exact Wk_see_40_r h
      · rw [if_neg q] at h
        exact Wk_see_35_r h
    · rw [if_neg q] at h
      exact Wk_see_35_r h
set_option maxRecDepth 100000 in
set_option maxHeartbeats 4000000 in
theorem Md_seeThisNight_r (N : Nat)  (M : mS) {M' : mS} (d : Nat) (h : Md_seeThisNight N M = some M') : mMet mP mTx (d + 5) 156 [.ref 0] (mSS M) none (mSS M') := by
  refine mMet_i ⟨Nat.le_refl _, Nat.le_refl _, Nat.le_of_ble_eq_true rfl⟩ ?_
  unfold Md_seeThisNight at h
  show mRunF (mCd 156) (mEE (mMet mP mTx (d + 4)) (none) none M') (0, [some (.ref 0)], [], mSS M)
  refine mRunF.sg (mSl mk_156 0 4) (g := (8, [some (.ref 0)], [.ref 34, .ref 39], mSS M)) (by decide +kernel) rfl ?_
  obtain ⟨M2, q1, h⟩ := bV_of h
  refine R_callV (mi := 89) (na := 2) (ci := 10) (i := 39) (as := [.ref 34]) (r := []) (rv := none) (σ1 := mSS M2) ⟨128, by decide +kernel⟩ rfl rfl rfl rfl (Wk_begin_r N M (d + 3) q1) ?_
  show mRunF _ _ (11, [some (.ref 0)], [], mSS M2)
  refine mRunF.sg (mSl mk_156 5 3) (g := (16, [some (.ref 0)], [.int (-1), .ref 39], mSS M2)) (by decide +kernel) rfl ?_
  obtain ⟨M4, q3, h⟩ := bV_of h
  refine R_callV (mi := 90) (na := 2) (ci := 10) (i := 39) (as := [.int (-1)]) (r := []) (rv := none) (σ1 := mSS M4) ⟨182, by decide +kernel⟩ rfl rfl rfl rfl (Wk_see_r N (-1) M2 (d + 0) q3) ?_
  show mRunF _ _ (19, [some (.ref 0)], [], mSS M4)
  cases h
  exact R_vret (by decide +kernel)
set_option maxRecDepth 100000 in
set_option maxHeartbeats 4000000 in
theorem Wk_whoAt_4_r {N d : Nat}  {M : mS}  {r : Int32} : ∀ {n : Nat} {x1 : Int32} {x2 : Int32} {x3 : Int32}, Wk_whoAt_4 N M n x1 x2 x3 = some r → mRunF (mCd 96) (mEE (mMet mP mTx (d + 0)) (some .int) (some (.int r)) M) (4, [some (.ref 39), some (.int x1), some (.int x2), some (.int x3)], [], mSS M) := by
  intro n
  induction n with
  | zero => intro x1 x2 x3 h; cases h
  | succ n ih =>
    replace ih := @ih
    intro x1 x2 x3 h
    unfold Wk_whoAt_4 at h
    refine mRunF.sg (mSl mk_96 4 4) (g := (12, [some (.ref 39), some (.int x1), some (.int x2), some (.int x3)], [.int (M.1 3 8), .int x3], mSS M)) (by decide +kernel) rfl ?_
    refine R_ige (t := 36) ⟨24, by decide +kernel⟩ (fun q => ?_) (fun q => ?_)
    · rw [if_pos q] at h
      refine mRunF.sg (mSl mk_96 24 1) (g := (37, [some (.ref 39), some (.int x1), some (.int x2), some (.int x3)], [.int x2], mSS M)) (by decide +kernel) rfl ?_
      cases h
      exact R_iret (by decide +kernel)
    · rw [if_neg q] at h
      refine mRunF.sg (mSl mk_96 9 4) (g := (21, [some (.ref 39), some (.int x1), some (.int x2), some (.int x3)], [.int x3, .ref 41, .int x2], mSS M)) (by decide +kernel) rfl ?_
      obtain ⟨g1, h⟩ := grd_of h
      refine R_iald (by decide +kernel) rfl g1 ?_
      refine mRunF.sg (mSl mk_96 14 8) (g := (30, [some (.ref 39), some (.int x1), some (.int (x2 ||| ((((M.1 41 x3.toNatClampNeg) >>> (x1 &&& 31)) &&& 1) <<< (x3 &&& 31)))), some (.int x3)], [], mSS M)) (by decide +kernel) rfl ?_
      obtain ⟨v2, hv, h⟩ := nxt_ex h
      rw [← hv]
      clear hv
      refine mRunF.sg (mSl mk_96 22 2) (g := (4, [some (.ref 39), some (.int x1), some (.int v2), some (.int (x3 + 1))], [], mSS M)) (by decide +kernel) rfl ?_
      exact @ih _ _ _ h
set_option maxRecDepth 100000 in
set_option maxHeartbeats 4000000 in
theorem Wk_whoAt_r (N : Nat) (a0 : Int32) (M : mS) {r : Int32} (d : Nat) (h : Wk_whoAt N a0 M = some r) : mMet mP mTx (d + 1) 96 [.ref 39, .int a0] (mSS M) (some (.int r)) (mSS M) := by
  refine mMet_i ⟨Nat.le_refl _, Nat.le_refl _, Nat.le_of_ble_eq_true rfl⟩ ?_
  unfold Wk_whoAt at h
  show mRunF (mCd 96) (mEE (mMet mP mTx (d + 0)) (some .int) (some (.int r)) M) (0, [some (.ref 39), some (.int a0), none, none], [], mSS M)
  refine mRunF.sg (mSl mk_96 0 4) (g := (4, [some (.ref 39), some (.int a0), some (.int 0), some (.int 0)], [], mSS M)) (by decide +kernel) rfl ?_
  exact Wk_whoAt_4_r h
set_option maxRecDepth 100000 in
set_option maxHeartbeats 4000000 in
theorem Md_there_r (N : Nat) (a0 : Int32) (M : mS) {r : Int32} {M' : mS} (d : Nat) (h : Md_there N a0 M = some (r, M')) : mMet mP mTx (d + 6) 112 [.ref 0, .int a0] (mSS M) (some (.int r)) (mSS M') := by
  refine mMet_i ⟨Nat.le_refl _, Nat.le_refl _, Nat.le_of_ble_eq_true rfl⟩ ?_
  unfold Md_there at h
  show mRunF (mCd 112) (mEE (mMet mP mTx (d + 5)) (some .int) (some (.int r)) M') (0, [some (.ref 0), some (.int a0)], [], mSS M)
  refine mRunF.sg (mSl mk_112 0 2) (g := (2, [some (.ref 0), some (.int a0)], [.int a0, .ref 0], mSS M)) (by decide +kernel) rfl ?_
  refine R_callV (mi := 163) (na := 2) (ci := 11) (i := 0) (as := [.int a0]) (r := []) (rv := some (.int (Md_isHour a0 M))) (σ1 := mSS M) ⟨142, by decide +kernel⟩ rfl rfl rfl rfl (Md_isHour_r a0 M (d + 4)) ?_
  have b1 := mBool rfl (Md_isHour_r a0 M (d + 4))
  show mRunF _ _ (5, [some (.ref 0), some (.int a0)], [.int (Md_isHour a0 M)], mSS M)
  refine R_ne (t := 10) ⟨5, by decide +kernel⟩ (fun q => ?_) (fun q => ?_)
  · rw [if_pos q] at h
    refine mRunF.sg (mSl mk_112 4 1) (g := (9, [some (.ref 0), some (.int a0)], [.int (-1)], mSS M)) (by decide +kernel) rfl ?_
    cases h
    exact R_iret (by decide +kernel)
  · rw [if_neg q] at h
    refine mRunF.sg (mSl mk_112 6 1) (g := (11, [some (.ref 0), some (.int a0)], [.ref 0], mSS M)) (by decide +kernel) rfl ?_
    obtain ⟨M3, q2, h⟩ := bV_of h
    refine R_callV (mi := 156) (na := 1) (ci := 11) (i := 0) (as := []) (r := []) (rv := none) (σ1 := mSS M3) ⟨170, by decide +kernel⟩ rfl rfl rfl rfl (Md_seeThisNight_r N M (d + 0) q2) ?_
    show mRunF _ _ (14, [some (.ref 0), some (.int a0)], [], mSS M3)
    refine mRunF.sg (mSl mk_112 8 3) (g := (19, [some (.ref 0), some (.int a0)], [.int a0, .ref 39], mSS M3)) (by decide +kernel) rfl ?_
    obtain ⟨r5, q4, h⟩ := bR_of h
    refine R_callV (mi := 96) (na := 2) (ci := 10) (i := 39) (as := [.int a0]) (r := []) (rv := some (.int r5)) (σ1 := mSS M3) ⟨173, by decide +kernel⟩ rfl rfl rfl rfl (Wk_whoAt_r N a0 M3 (d + 4) q4) ?_
    show mRunF _ _ (22, [some (.ref 0), some (.int a0)], [.int r5], mSS M3)
    cases h
    exact R_iret (by decide +kernel)
set_option maxRecDepth 100000 in
set_option maxHeartbeats 4000000 in
theorem Sh_put_r (N : Nat) (a0 : Int32) (M : mS) {M' : mS} (d : Nat) (h : Sh_put N a0 M = some M') : mMet mP mTx (d + 1) 55 [.ref 35, .int a0, .ref 34] (mSS M) none (mSS M') := by
  refine mMet_i ⟨Nat.le_refl _, Nat.le_refl _, Nat.le_of_ble_eq_true rfl⟩ ?_
  unfold Sh_put at h
  show mRunF (mCd 55) (mEE (mMet mP mTx (d + 0)) (none) none M') (0, [some (.ref 35), some (.int a0), some (.ref 34)], [], mSS M)
  refine mRunF.sg (mSl mk_55 0 1) (g := (1, [some (.ref 35), some (.int a0), some (.ref 34)], [.int a0], mSS M)) (by decide +kernel) rfl ?_
  refine R_lt (t := 34) ⟨33, by decide +kernel⟩ (fun q => ?_) (fun q => ?_)
  · rw [if_pos q] at h
    cases h
    exact R_vret (by decide +kernel)
  · rw [if_neg q] at h
    refine mRunF.sg (mSl mk_55 2 3) (g := (9, [some (.ref 35), some (.int a0), some (.ref 34)], [.int (M.1 35 1), .int a0], mSS M)) (by decide +kernel) rfl ?_
    refine R_ige (t := 34) ⟨25, by decide +kernel⟩ (fun q => ?_) (fun q => ?_)
    · rw [if_pos q] at h
      cases h
      exact R_vret (by decide +kernel)
    · rw [if_neg q] at h
      refine mRunF.sg (mSl mk_55 6 3) (g := (16, [some (.ref 35), some (.int a0), some (.ref 34)], [.int 44, .int (Int32.ofNat 44)], mSS M)) (by decide +kernel) rfl ?_
      refine R_ilt (t := 34) ⟨18, by decide +kernel⟩ (fun q => absurd q (by decide)) (fun _ => ?_)
      refine mRunF.sg (mSl mk_55 10 8) (g := (31, [some (.ref 35), some (.int a0), some (.ref 34)], [.int 44, .int (a0 * 44), .ref 36, .int 0, .ref 34], mSS M)) (by decide +kernel) rfl ?_
      obtain ⟨g1, h⟩ := grd_of h
      refine R_copy ⟨25, by decide +kernel⟩ rfl rfl g1 ?_
      obtain ⟨M2, hv, h⟩ := nxt_ex h
      rw [← hv]
      clear hv
      cases h
      exact R_vret (by decide +kernel)
set_option maxRecDepth 100000 in
set_option maxHeartbeats 4000000 in
theorem Md_keepForUndo_r (N : Nat)  (M : mS) {M' : mS} (d : Nat) (h : Md_keepForUndo N M = some M') : mMet mP mTx (d + 2) 157 [.ref 0] (mSS M) none (mSS M') := by
  refine mMet_i ⟨Nat.le_refl _, Nat.le_refl _, Nat.le_of_ble_eq_true rfl⟩ ?_
  unfold Md_keepForUndo at h
  show mRunF (mCd 157) (mEE (mMet mP mTx (d + 1)) (none) none M') (0, [some (.ref 0)], [], mSS M)
  refine mRunF.sg (mSl mk_157 0 6) (g := (9, [some (.ref 0)], [.int 40, .int ((M.1 0 13) + 1), .ref 0], mSS M)) (by decide +kernel) rfl ?_
  obtain ⟨r2, q1, h⟩ := bR_of h
  refine R_callS (mi := 166) (na := 2) (as := [.int ((M.1 0 13) + 1), .int 40]) (r := [.ref 0]) (rv := some (.int r2)) (σ1 := mSS M) ⟨148, by decide +kernel⟩ rfl rfl rfl (Md_rest_r N ((M.1 0 13) + 1) 40 M (d + 0) q1) ?_
  show mRunF _ _ (12, [some (.ref 0)], [.int r2, .ref 0], mSS M)
  refine mRunF.sg (mSl mk_157 7 1) (g := (15, [some (.ref 0)], [], mSS (mWI M 0 13 r2))) (by decide +kernel) rfl ?_
  obtain ⟨M3, hv, h⟩ := nxt_ex h
  rw [← hv]
  clear hv
  refine mRunF.sg (mSl mk_157 8 6) (g := (24, [some (.ref 0)], [.int 40, .int ((M3.1 0 12) + 1), .ref 0], mSS M3)) (by decide +kernel) rfl ?_
  refine R_min ⟨338, by decide +kernel⟩ rfl ?_
  refine mRunF.sg (mSl mk_157 15 1) (g := (30, [some (.ref 0)], [], mSS (mWI M3 0 12 (if 40 < ((M3.1 0 12) + 1) then 40 else ((M3.1 0 12) + 1))))) (by decide +kernel) rfl ?_
  obtain ⟨M4, hv, h⟩ := nxt_ex h
  rw [← hv]
  clear hv
  refine mRunF.sg (mSl mk_157 16 6) (g := (42, [some (.ref 0)], [.ref 34, .int (M4.1 0 13), .ref 35], mSS M4)) (by decide +kernel) rfl ?_
  obtain ⟨M6, q5, h⟩ := bV_of h
  refine R_callV (mi := 55) (na := 3) (ci := 6) (i := 35) (as := [.int (M4.1 0 13), .ref 34]) (r := []) (rv := none) (σ1 := mSS M6) ⟨299, by decide +kernel⟩ rfl rfl rfl rfl (Sh_put_r N (M4.1 0 13) M4 (d + 0) q5) ?_
  show mRunF _ _ (45, [some (.ref 0)], [], mSS M6)
  cases h
  exact R_vret (by decide +kernel)
set_option maxRecDepth 100000 in
set_option maxHeartbeats 4000000 in
theorem Md_turn_r (N : Nat) (a0 : Int32) (a1 : Int32) (M : mS) {r : Int32} {M' : mS} (d : Nat) (h : Md_turn N a0 a1 M = some (r, M')) : mMet mP mTx (d + 3) 113 [.ref 0, .int a0, .int a1] (mSS M) (some (.int r)) (mSS M') := by
  refine mMet_i ⟨Nat.le_refl _, Nat.le_refl _, Nat.le_of_ble_eq_true rfl⟩ ?_
  unfold Md_turn at h
  show mRunF (mCd 113) (mEE (mMet mP mTx (d + 2)) (some .int) (some (.int r)) M') (0, [some (.ref 0), some (.int a0), some (.int a1)], [], mSS M)
  refine mRunF.sg (mSl mk_113 0 2) (g := (2, [some (.ref 0), some (.int a0), some (.int a1)], [.int a0, .ref 0], mSS M)) (by decide +kernel) rfl ?_
  refine R_callV (mi := 160) (na := 2) (ci := 11) (i := 0) (as := [.int a0]) (r := []) (rv := some (.int (Md_isDial a0 M))) (σ1 := mSS M) ⟨124, by decide +kernel⟩ rfl rfl rfl rfl (Md_isDial_r a0 M (d + 1)) ?_
  have b1 := mBool rfl (Md_isDial_r a0 M (d + 1))
  show mRunF _ _ (5, [some (.ref 0), some (.int a0), some (.int a1)], [.int (Md_isDial a0 M)], mSS M)
  refine R_eq (t := 24) ⟨19, by decide +kernel⟩ (fun q => ?_) (fun q => ?_)
  · rw [if_pos q] at h
    refine mRunF.sg (mSl mk_113 12 1) (g := (25, [some (.ref 0), some (.int a0), some (.int a1)], [.int (-1)], mSS M)) (by decide +kernel) rfl ?_
    cases h
    exact R_iret (by decide +kernel)
  · rw [if_neg q] at h
    refine mRunF.sg (mSl mk_113 4 2) (g := (10, [some (.ref 0), some (.int a0), some (.int a1)], [.int 1, .int a1], mSS M)) (by decide +kernel) rfl ?_
    refine R_ilt (t := 24) ⟨14, by decide +kernel⟩ (fun q => ?_) (fun q => ?_)
    · rw [if_pos q] at h
      refine mRunF.sg (mSl mk_113 12 1) (g := (25, [some (.ref 0), some (.int a0), some (.int a1)], [.int (-1)], mSS M)) (by decide +kernel) rfl ?_
      cases h
      exact R_iret (by decide +kernel)
    · rw [if_neg q] at h
      refine mRunF.sg (mSl mk_113 7 4) (g := (21, [some (.ref 0), some (.int a0), some (.int a1)], [.int (M.1 3 6), .int a1], mSS M)) (by decide +kernel) rfl ?_
      refine R_ilt (t := 26) ⟨5, by decide +kernel⟩ (fun q => ?_) (fun q => ?_)
      · rw [if_pos q] at h
        refine mRunF.sg (mSl mk_113 14 1) (g := (27, [some (.ref 0), some (.int a0), some (.int a1)], [.ref 0], mSS M)) (by decide +kernel) rfl ?_
        obtain ⟨M3, q2, h⟩ := bV_of h
        refine R_callV (mi := 157) (na := 1) (ci := 11) (i := 0) (as := []) (r := []) (rv := none) (σ1 := mSS M3) ⟨176, by decide +kernel⟩ rfl rfl rfl rfl (Md_keepForUndo_r N M (d + 0) q2) ?_
        show mRunF _ _ (30, [some (.ref 0), some (.int a0), some (.int a1)], [], mSS M3)
        refine mRunF.sg (mSl mk_113 16 10) (g := (44, [some (.ref 0), some (.int a0), some (.int a1)], [.int (1 + a0), .ref 34, .int (1 + a0), .ref 34], mSS M3)) (by decide +kernel) rfl ?_
        obtain ⟨g4, h⟩ := grd_of h
        refine R_iald (by decide +kernel) rfl g4 ?_
        refine mRunF.sg (mSl mk_113 27 5) (g := (54, [some (.ref 0), some (.int a0), some (.int a1)], [.int (M3.1 3 6), .int ((M3.1 34 (1 + a0).toNatClampNeg) + a1), .int (1 + a0), .ref 34], mSS M3)) (by decide +kernel) rfl ?_
        obtain ⟨r6, q5, h⟩ := bR_of h
        refine R_callS (mi := 166) (na := 2) (as := [.int ((M3.1 34 (1 + a0).toNatClampNeg) + a1), .int (M3.1 3 6)]) (r := [.int (1 + a0), .ref 34]) (rv := some (.int r6)) (σ1 := mSS M3) ⟨148, by decide +kernel⟩ rfl rfl rfl (Md_rest_r N ((M3.1 34 (1 + a0).toNatClampNeg) + a1) (M3.1 3 6) M3 (d + 1) q5) ?_
        show mRunF _ _ (57, [some (.ref 0), some (.int a0), some (.int a1)], [.int r6, .int (1 + a0), .ref 34], mSS M3)
        obtain ⟨g7, h⟩ := grd_of h
        refine R_iast (by decide +kernel) rfl g7 ?_
        obtain ⟨M8, hv, h⟩ := nxt_ex h
        rw [← hv]
        clear hv
        refine mRunF.sg (mSl mk_113 34 5) (g := (65, [some (.ref 0), some (.int a0), some (.int a1)], [.int (1 + a0), .ref 34], mSS M8)) (by decide +kernel) rfl ?_
        obtain ⟨g9, h⟩ := grd_of h
        refine R_iald (by decide +kernel) rfl g9 ?_
        cases h
        exact R_iret (by decide +kernel)
      · rw [if_neg q] at h
        refine mRunF.sg (mSl mk_113 12 1) (g := (25, [some (.ref 0), some (.int a0), some (.int a1)], [.int (-1)], mSS M)) (by decide +kernel) rfl ?_
        cases h
        exact R_iret (by decide +kernel)
set_option maxRecDepth 100000 in
set_option maxHeartbeats 4000000 in
theorem Md_follow_r (N : Nat) (a0 : Int32) (a1 : Int32) (M : mS) {r : Int32} {M' : mS} (d : Nat) (h : Md_follow N a0 a1 M = some (r, M')) : mMet mP mTx (d + 3) 114 [.ref 0, .int a0, .int a1] (mSS M) (some (.int r)) (mSS M') := by
  refine mMet_i ⟨Nat.le_refl _, Nat.le_refl _, Nat.le_of_ble_eq_true rfl⟩ ?_
  unfold Md_follow at h
  show mRunF (mCd 114) (mEE (mMet mP mTx (d + 2)) (some .boolean) (some (.int r)) M') (0, [some (.ref 0), some (.int a0), some (.int a1)], [], mSS M)
  refine mRunF.sg (mSl mk_114 0 2) (g := (2, [some (.ref 0), some (.int a0), some (.int a1)], [.int a0, .ref 0], mSS M)) (by decide +kernel) rfl ?_
  refine R_callV (mi := 161) (na := 2) (ci := 11) (i := 0) (as := [.int a0]) (r := []) (rv := some (.int (Md_isGoer a0 M))) (σ1 := mSS M) ⟨152, by decide +kernel⟩ rfl rfl rfl rfl (Md_isGoer_r a0 M (d + 1)) ?_
  have b1 := mBool rfl (Md_isGoer_r a0 M (d + 1))
  show mRunF _ _ (5, [some (.ref 0), some (.int a0), some (.int a1)], [.int (Md_isGoer a0 M)], mSS M)
  refine R_eq (t := 29) ⟨24, by decide +kernel⟩ (fun q => ?_) (fun q => ?_)
  · rw [if_pos q] at h
    refine mRunF.sg (mSl mk_114 16 1) (g := (30, [some (.ref 0), some (.int a0), some (.int a1)], [.int 0], mSS M)) (by decide +kernel) rfl ?_
    cases h
    exact R_zret (by decide +kernel) (Or.inl rfl)
  · rw [if_neg q] at h
    refine mRunF.sg (mSl mk_114 4 2) (g := (10, [some (.ref 0), some (.int a0), some (.int a1)], [.int a1, .ref 0], mSS M)) (by decide +kernel) rfl ?_
    refine R_callV (mi := 160) (na := 2) (ci := 11) (i := 0) (as := [.int a1]) (r := []) (rv := some (.int (Md_isDial a1 M))) (σ1 := mSS M) ⟨124, by decide +kernel⟩ rfl rfl rfl rfl (Md_isDial_r a1 M (d + 1)) ?_
    have b2 := mBool rfl (Md_isDial_r a1 M (d + 1))
    show mRunF _ _ (13, [some (.ref 0), some (.int a0), some (.int a1)], [.int (Md_isDial a1 M)], mSS M)
    refine R_eq (t := 29) ⟨16, by decide +kernel⟩ (fun q => ?_) (fun q => ?_)
    · rw [if_pos q] at h
      refine mRunF.sg (mSl mk_114 16 1) (g := (30, [some (.ref 0), some (.int a0), some (.int a1)], [.int 0], mSS M)) (by decide +kernel) rfl ?_
      cases h
      exact R_zret (by decide +kernel) (Or.inl rfl)
    · rw [if_neg q] at h
      refine mRunF.sg (mSl mk_114 8 5) (g := (24, [some (.ref 0), some (.int a0), some (.int a1)], [.int (9 + a0), .ref 34], mSS M)) (by decide +kernel) rfl ?_
      obtain ⟨g3, h⟩ := grd_of h
      refine R_iald (by decide +kernel) rfl g3 ?_
      refine mRunF.sg (mSl mk_114 14 1) (g := (26, [some (.ref 0), some (.int a0), some (.int a1)], [.int a1, .int (M.1 34 (9 + a0).toNatClampNeg)], mSS M)) (by decide +kernel) rfl ?_
      refine R_ine (t := 31) ⟨5, by decide +kernel⟩ (fun q => ?_) (fun q => ?_)
      · rw [if_pos q] at h
        refine mRunF.sg (mSl mk_114 16 1) (g := (30, [some (.ref 0), some (.int a0), some (.int a1)], [.int 0], mSS M)) (by decide +kernel) rfl ?_
        cases h
        exact R_zret (by decide +kernel) (Or.inl rfl)
      · rw [if_neg q] at h
        refine mRunF.sg (mSl mk_114 18 1) (g := (32, [some (.ref 0), some (.int a0), some (.int a1)], [.ref 0], mSS M)) (by decide +kernel) rfl ?_
        obtain ⟨M5, q4, h⟩ := bV_of h
        refine R_callV (mi := 157) (na := 1) (ci := 11) (i := 0) (as := []) (r := []) (rv := none) (σ1 := mSS M5) ⟨176, by decide +kernel⟩ rfl rfl rfl rfl (Md_keepForUndo_r N M (d + 0) q4) ?_
        show mRunF _ _ (35, [some (.ref 0), some (.int a0), some (.int a1)], [], mSS M5)
        refine mRunF.sg (mSl mk_114 20 6) (g := (44, [some (.ref 0), some (.int a0), some (.int a1)], [.int a1, .int (9 + a0), .ref 34], mSS M5)) (by decide +kernel) rfl ?_
        obtain ⟨g6, h⟩ := grd_of h
        refine R_iast (by decide +kernel) rfl g6 ?_
        obtain ⟨M7, hv, h⟩ := nxt_ex h
        rw [← hv]
        clear hv
        refine mRunF.sg (mSl mk_114 27 1) (g := (46, [some (.ref 0), some (.int a0), some (.int a1)], [.int 1], mSS M7)) (by decide +kernel) rfl ?_
        cases h
        exact R_zret (by decide +kernel) (Or.inr rfl)
set_option maxRecDepth 100000 in
set_option maxHeartbeats 4000000 in
theorem Md_slip_r (N : Nat) (a0 : Int32) (a1 : Int32) (M : mS) {r : Int32} {M' : mS} (d : Nat) (h : Md_slip N a0 a1 M = some (r, M')) : mMet mP mTx (d + 3) 115 [.ref 0, .int a0, .int a1] (mSS M) (some (.int r)) (mSS M') := by
  refine mMet_i ⟨Nat.le_refl _, Nat.le_refl _, Nat.le_of_ble_eq_true rfl⟩ ?_
  unfold Md_slip at h
  show mRunF (mCd 115) (mEE (mMet mP mTx (d + 2)) (some .boolean) (some (.int r)) M') (0, [some (.ref 0), some (.int a0), some (.int a1)], [], mSS M)
  refine mRunF.sg (mSl mk_115 0 2) (g := (2, [some (.ref 0), some (.int a0), some (.int a1)], [.int a0, .ref 0], mSS M)) (by decide +kernel) rfl ?_
  refine R_callV (mi := 160) (na := 2) (ci := 11) (i := 0) (as := [.int a0]) (r := []) (rv := some (.int (Md_isDial a0 M))) (σ1 := mSS M) ⟨124, by decide +kernel⟩ rfl rfl rfl rfl (Md_isDial_r a0 M (d + 1)) ?_
  have b1 := mBool rfl (Md_isDial_r a0 M (d + 1))
  show mRunF _ _ (5, [some (.ref 0), some (.int a0), some (.int a1)], [.int (Md_isDial a0 M)], mSS M)
  refine R_eq (t := 35) ⟨30, by decide +kernel⟩ (fun q => ?_) (fun q => ?_)
  · rw [if_pos q] at h
    refine mRunF.sg (mSl mk_115 19 1) (g := (36, [some (.ref 0), some (.int a0), some (.int a1)], [.int 0], mSS M)) (by decide +kernel) rfl ?_
    cases h
    exact R_zret (by decide +kernel) (Or.inl rfl)
  · rw [if_neg q] at h
    refine mRunF.sg (mSl mk_115 4 1) (g := (9, [some (.ref 0), some (.int a0), some (.int a1)], [.int a1], mSS M)) (by decide +kernel) rfl ?_
    refine R_lt (t := 35) ⟨26, by decide +kernel⟩ (fun q => ?_) (fun q => ?_)
    · rw [if_pos q] at h
      refine mRunF.sg (mSl mk_115 19 1) (g := (36, [some (.ref 0), some (.int a0), some (.int a1)], [.int 0], mSS M)) (by decide +kernel) rfl ?_
      cases h
      exact R_zret (by decide +kernel) (Or.inl rfl)
    · rw [if_neg q] at h
      refine mRunF.sg (mSl mk_115 6 4) (g := (20, [some (.ref 0), some (.int a0), some (.int a1)], [.int (M.1 3 6), .int a1], mSS M)) (by decide +kernel) rfl ?_
      refine R_ige (t := 35) ⟨15, by decide +kernel⟩ (fun q => ?_) (fun q => ?_)
      · rw [if_pos q] at h
        refine mRunF.sg (mSl mk_115 19 1) (g := (36, [some (.ref 0), some (.int a0), some (.int a1)], [.int 0], mSS M)) (by decide +kernel) rfl ?_
        cases h
        exact R_zret (by decide +kernel) (Or.inl rfl)
      · rw [if_neg q] at h
        refine mRunF.sg (mSl mk_115 11 5) (g := (30, [some (.ref 0), some (.int a0), some (.int a1)], [.int (5 + a0), .ref 34], mSS M)) (by decide +kernel) rfl ?_
        obtain ⟨g2, h⟩ := grd_of h
        refine R_iald (by decide +kernel) rfl g2 ?_
        refine mRunF.sg (mSl mk_115 17 1) (g := (32, [some (.ref 0), some (.int a0), some (.int a1)], [.int a1, .int (M.1 34 (5 + a0).toNatClampNeg)], mSS M)) (by decide +kernel) rfl ?_
        refine R_ine (t := 37) ⟨5, by decide +kernel⟩ (fun q => ?_) (fun q => ?_)
        · rw [if_pos q] at h
          refine mRunF.sg (mSl mk_115 19 1) (g := (36, [some (.ref 0), some (.int a0), some (.int a1)], [.int 0], mSS M)) (by decide +kernel) rfl ?_
          cases h
          exact R_zret (by decide +kernel) (Or.inl rfl)
        · rw [if_neg q] at h
          refine mRunF.sg (mSl mk_115 21 1) (g := (38, [some (.ref 0), some (.int a0), some (.int a1)], [.ref 0], mSS M)) (by decide +kernel) rfl ?_
          obtain ⟨M4, q3, h⟩ := bV_of h
          refine R_callV (mi := 157) (na := 1) (ci := 11) (i := 0) (as := []) (r := []) (rv := none) (σ1 := mSS M4) ⟨176, by decide +kernel⟩ rfl rfl rfl rfl (Md_keepForUndo_r N M (d + 0) q3) ?_
          show mRunF _ _ (41, [some (.ref 0), some (.int a0), some (.int a1)], [], mSS M4)
          refine mRunF.sg (mSl mk_115 23 6) (g := (49, [some (.ref 0), some (.int a0), some (.int a1)], [.int a1, .int (5 + a0), .ref 34], mSS M4)) (by decide +kernel) rfl ?_
          obtain ⟨g5, h⟩ := grd_of h
          refine R_iast (by decide +kernel) rfl g5 ?_
          obtain ⟨M6, hv, h⟩ := nxt_ex h
          rw [← hv]
          clear hv
          refine mRunF.sg (mSl mk_115 30 1) (g := (51, [some (.ref 0), some (.int a0), some (.int a1)], [.int 1], mSS M6)) (by decide +kernel) rfl ?_
          cases h
          exact R_zret (by decide +kernel) (Or.inr rfl)
set_option maxRecDepth 100000 in
set_option maxHeartbeats 4000000 in
theorem Md_isWithin_r (a0 : Int32) (a1 : Int32) (M : mS) (d : Nat) : mMet mP mTx (d + 1) 165 [.int a0, .int a1] (mSS M) (some (.int (Md_isWithin a0 a1 M))) (mSS M) := by
  refine mMet_i ⟨Nat.le_refl _, Nat.le_refl _, Nat.le_of_ble_eq_true rfl⟩ ?_
  generalize h : Md_isWithin a0 a1 M = r
  unfold Md_isWithin at h
  show mRunF (mCd 165) (mEE (mMet mP mTx (d + 0)) (some .boolean) (some (.int r)) M) (0, [some (.int a0), some (.int a1)], [], mSS M)
  refine mRunF.sg (mSl mk_165 0 1) (g := (1, [some (.int a0), some (.int a1)], [.int a0], mSS M)) (by decide +kernel) rfl ?_
  refine R_lt (t := 13) ⟨12, by decide +kernel⟩ (fun q => ?_) (fun q => ?_)
  · rw [if_pos q] at h
    refine mRunF.sg (mSl mk_165 7 1) (g := (14, [some (.int a0), some (.int a1)], [.int 0], mSS M)) (by decide +kernel) rfl ?_
    subst h
    exact R_zret (by decide +kernel) (Or.inl rfl)
  · rw [if_neg q] at h
    refine mRunF.sg (mSl mk_165 2 2) (g := (6, [some (.int a0), some (.int a1)], [.int a1, .int a0], mSS M)) (by decide +kernel) rfl ?_
    refine R_igt (t := 13) ⟨7, by decide +kernel⟩ (fun q => ?_) (fun q => ?_)
    · rw [if_pos q] at h
      refine mRunF.sg (mSl mk_165 7 1) (g := (14, [some (.int a0), some (.int a1)], [.int 0], mSS M)) (by decide +kernel) rfl ?_
      subst h
      exact R_zret (by decide +kernel) (Or.inl rfl)
    · rw [if_neg q] at h
      refine mRunF.sg (mSl mk_165 5 2) (g := (14, [some (.int a0), some (.int a1)], [.int 1], mSS M)) (by decide +kernel) rfl ?_
      subst h
      exact R_zret (by decide +kernel) (Or.inr rfl)
set_option maxRecDepth 100000 in
set_option maxHeartbeats 4000000 in
theorem Jl_bitCount_r (a0 : Int32) (M : mS) (d : Nat) : mMet mP mTx (d + 1) 308 [.int a0] (mSS M) (some (.int (Jl_bitCount a0 M))) (mSS M) := by
  refine mMet_i ⟨Nat.le_refl _, Nat.le_refl _, Nat.le_of_ble_eq_true rfl⟩ ?_
  generalize h : Jl_bitCount a0 M = r
  unfold Jl_bitCount at h
  show mRunF (mCd 308) (mEE (mMet mP mTx (d + 0)) (some .int) (some (.int r)) M) (0, [some (.int a0)], [], mSS M)
  refine mRunF.sg (mSl mk_308 0 8) (g := (10, [some (.int (a0 - ((ushr a0 1) &&& 1431655765)))], [], mSS M)) (by decide +kernel) rfl ?_
  obtain ⟨v1, hv, h⟩ := nxt_ex h
  rw [← hv]
  clear hv
  refine mRunF.sg (mSl mk_308 8 10) (g := (24, [some (.int ((v1 &&& 858993459) + ((ushr v1 2) &&& 858993459)))], [], mSS M)) (by decide +kernel) rfl ?_
  obtain ⟨v2, hv, h⟩ := nxt_ex h
  rw [← hv]
  clear hv
  refine mRunF.sg (mSl mk_308 18 8) (g := (34, [some (.int ((v2 + (ushr v2 4)) &&& 252645135))], [], mSS M)) (by decide +kernel) rfl ?_
  obtain ⟨v3, hv, h⟩ := nxt_ex h
  rw [← hv]
  clear hv
  refine mRunF.sg (mSl mk_308 26 6) (g := (41, [some (.int (v3 + (ushr v3 8)))], [], mSS M)) (by decide +kernel) rfl ?_
  obtain ⟨v4, hv, h⟩ := nxt_ex h
  rw [← hv]
  clear hv
  refine mRunF.sg (mSl mk_308 32 6) (g := (48, [some (.int (v4 + (ushr v4 16)))], [], mSS M)) (by decide +kernel) rfl ?_
  obtain ⟨v5, hv, h⟩ := nxt_ex h
  rw [← hv]
  clear hv
  refine mRunF.sg (mSl mk_308 38 3) (g := (52, [some (.int v5)], [.int (v5 &&& 63)], mSS M)) (by decide +kernel) rfl ?_
  subst h
  exact R_iret (by decide +kernel)
set_option maxRecDepth 100000 in
set_option maxHeartbeats 4000000 in
theorem Wk_shared_r (N : Nat) (a0 : Int32) (a1 : Int32) (M : mS) {r : Int32} (d : Nat) (h : Wk_shared N a0 a1 M = some r) : mMet mP mTx (d + 2) 95 [.ref 39, .int a0, .int a1] (mSS M) (some (.int r)) (mSS M) := by
  refine mMet_i ⟨Nat.le_refl _, Nat.le_refl _, Nat.le_of_ble_eq_true rfl⟩ ?_
  unfold Wk_shared at h
  show mRunF (mCd 95) (mEE (mMet mP mTx (d + 1)) (some .int) (some (.int r)) M) (0, [some (.ref 39), some (.int a0), some (.int a1)], [], mSS M)
  refine mRunF.sg (mSl mk_95 0 2) (g := (2, [some (.ref 39), some (.int a0), some (.int a1)], [.int a1, .int a0], mSS M)) (by decide +kernel) rfl ?_
  refine R_ine (t := 9) ⟨7, by decide +kernel⟩ (fun q => ?_) (fun q => ?_)
  · rw [if_pos q] at h
    refine mRunF.sg (mSl mk_95 3 2) (g := (25, [some (.ref 39), some (.int a0), some (.int a1)], [.int 0], mSS M)) (by decide +kernel) rfl ?_
    cases h
    exact R_iret (by decide +kernel)
  · rw [if_neg q] at h
    refine mRunF.sg (mSl mk_95 5 3) (g := (14, [some (.ref 39), some (.int a0), some (.int a1)], [.int a0, .ref 41], mSS M)) (by decide +kernel) rfl ?_
    obtain ⟨g1, h⟩ := grd_of h
    refine R_iald (by decide +kernel) rfl g1 ?_
    refine mRunF.sg (mSl mk_95 9 3) (g := (20, [some (.ref 39), some (.int a0), some (.int a1)], [.int a1, .ref 41, .int (M.1 41 a0.toNatClampNeg)], mSS M)) (by decide +kernel) rfl ?_
    obtain ⟨g2, h⟩ := grd_of h
    refine R_iald (by decide +kernel) rfl g2 ?_
    refine mRunF.sg (mSl mk_95 13 1) (g := (22, [some (.ref 39), some (.int a0), some (.int a1)], [.int ((M.1 41 a0.toNatClampNeg) &&& (M.1 41 a1.toNatClampNeg))], mSS M)) (by decide +kernel) rfl ?_
    refine R_callS (mi := 308) (na := 1) (as := [.int ((M.1 41 a0.toNatClampNeg) &&& (M.1 41 a1.toNatClampNeg))]) (r := []) (rv := some (.int (Jl_bitCount ((M.1 41 a0.toNatClampNeg) &&& (M.1 41 a1.toNatClampNeg)) M))) (σ1 := mSS M) ⟨98, by decide +kernel⟩ rfl rfl rfl (Jl_bitCount_r ((M.1 41 a0.toNatClampNeg) &&& (M.1 41 a1.toNatClampNeg)) M (d + 0)) ?_
    show mRunF _ _ (25, [some (.ref 39), some (.int a0), some (.int a1)], [.int (Jl_bitCount ((M.1 41 a0.toNatClampNeg) &&& (M.1 41 a1.toNatClampNeg)) M)], mSS M)
    cases h
    exact R_iret (by decide +kernel)
set_option maxRecDepth 100000 in
set_option maxHeartbeats 4000000 in
theorem Wk_addPairs_15_r {N d : Nat} {k2 : Int32 → mS → Option mS}  {M' : mS} (hk2 : ∀ (x1 : Int32) (M : mS), k2 x1 M = some M' → mRunF (mCd 93) (mEE (mMet mP mTx (d + 2)) (none) none M') (2, [some (.ref 39), some (.int x1), none], [], mSS M)) : ∀ {n : Nat} {x1 : Int32} {x2 : Int32} {M : mS}, Wk_addPairs_15 N k2 n x1 x2 M = some M' → mRunF (mCd 93) (mEE (mMet mP mTx (d + 2)) (none) none M') (15, [some (.ref 39), some (.int x1), some (.int x2)], [], mSS M) := by
  intro n
  induction n with
  | zero => intro x1 x2 M h; cases h
  | succ n ih =>
    replace ih := @ih
    intro x1 x2 M h
    unfold Wk_addPairs_15 at h
    refine mRunF.sg (mSl mk_93 9 4) (g := (23, [some (.ref 39), some (.int x1), some (.int x2)], [.int (M.1 3 8), .int x2], mSS M)) (by decide +kernel) rfl ?_
    refine R_ige (t := 51) ⟨28, by decide +kernel⟩ (fun q => ?_) (fun q => ?_)
    · rw [if_pos q] at h
      refine mRunF.sg (mSl mk_93 29 2) (g := (2, [some (.ref 39), some (.int (x1 + 1)), some (.int x2)], [], mSS M)) (by decide +kernel) rfl ?_
      refine mRunF.forget [true, true, false] ?_
      exact hk2 _ _ h
    · rw [if_neg q] at h
      refine mRunF.sg (mSl mk_93 14 4) (g := (32, [some (.ref 39), some (.int x1), some (.int x2)], [.int x2, .int x1, .ref 40], mSS M)) (by decide +kernel) rfl ?_
      refine R_callS (mi := 168) (na := 2) (as := [.int x1, .int x2]) (r := [.ref 40]) (rv := some (.int (Md_pair x1 x2 M))) (σ1 := mSS M) ⟨103, by decide +kernel⟩ rfl rfl rfl (Md_pair_r x1 x2 M (d + 1)) ?_
      show mRunF _ _ (35, [some (.ref 39), some (.int x1), some (.int x2)], [.int (Md_pair x1 x2 M), .ref 40], mSS M)
      refine mRunF.sg (mSl mk_93 19 1) (g := (36, [some (.ref 39), some (.int x1), some (.int x2)], [.int (Md_pair x1 x2 M), .ref 40, .int (Md_pair x1 x2 M), .ref 40], mSS M)) (by decide +kernel) rfl ?_
      obtain ⟨g1, h⟩ := grd_of h
      refine R_iald (by decide +kernel) rfl g1 ?_
      refine mRunF.sg (mSl mk_93 21 3) (g := (40, [some (.ref 39), some (.int x1), some (.int x2)], [.int x2, .int x1, .ref 39, .int (M.1 40 (Md_pair x1 x2 M).toNatClampNeg), .int (Md_pair x1 x2 M), .ref 40], mSS M)) (by decide +kernel) rfl ?_
      obtain ⟨r3, q2, h⟩ := bR_of h
      refine R_callV (mi := 95) (na := 3) (ci := 10) (i := 39) (as := [.int x1, .int x2]) (r := [.int (M.1 40 (Md_pair x1 x2 M).toNatClampNeg), .int (Md_pair x1 x2 M), .ref 40]) (rv := some (.int r3)) (σ1 := mSS M) ⟨106, by decide +kernel⟩ rfl rfl rfl rfl (Wk_shared_r N x1 x2 M (d + 0) q2) ?_
      show mRunF _ _ (43, [some (.ref 39), some (.int x1), some (.int x2)], [.int r3, .int (M.1 40 (Md_pair x1 x2 M).toNatClampNeg), .int (Md_pair x1 x2 M), .ref 40], mSS M)
      refine mRunF.sg (mSl mk_93 25 1) (g := (44, [some (.ref 39), some (.int x1), some (.int x2)], [.int ((M.1 40 (Md_pair x1 x2 M).toNatClampNeg) + r3), .int (Md_pair x1 x2 M), .ref 40], mSS M)) (by decide +kernel) rfl ?_
      obtain ⟨g4, h⟩ := grd_of h
      refine R_iast (by decide +kernel) rfl g4 ?_
      obtain ⟨M5, hv, h⟩ := nxt_ex h
      rw [← hv]
      clear hv
      refine mRunF.sg (mSl mk_93 27 2) (g := (15, [some (.ref 39), some (.int x1), some (.int (x2 + 1))], [], mSS M5)) (by decide +kernel) rfl ?_
      exact @ih _ _ _ h
set_option maxRecDepth 100000 in
set_option maxHeartbeats 4000000 in
theorem Wk_addPairs_2_r {N d : Nat}   {M' : mS} : ∀ {n : Nat} {x1 : Int32} {M : mS}, Wk_addPairs_2 N n x1 M = some M' → mRunF (mCd 93) (mEE (mMet mP mTx (d + 2)) (none) none M') (2, [some (.ref 39), some (.int x1), none], [], mSS M) := by
  intro n
  induction n with
  | zero => intro x1 M h; cases h
  | succ n ih =>
    replace ih := @ih
    intro x1 M h
    unfold Wk_addPairs_2 at h
    refine mRunF.sg (mSl mk_93 2 4) (g := (10, [some (.ref 39), some (.int x1), none], [.int (M.1 3 8), .int x1], mSS M)) (by decide +kernel) rfl ?_
    refine R_ige (t := 57) ⟨47, by decide +kernel⟩ (fun q => ?_) (fun q => ?_)
    · rw [if_pos q] at h
      cases h
      exact R_vret (by decide +kernel)
    · rw [if_neg q] at h
      refine mRunF.sg (mSl mk_93 7 2) (g := (15, [some (.ref 39), some (.int x1), some (.int 0)], [], mSS M)) (by decide +kernel) rfl ?_
      exact Wk_addPairs_15_r (fun y0 y1 hh => @ih y0 y1 hh) h
set_option maxRecDepth 100000 in
set_option maxHeartbeats 4000000 in
theorem Wk_addPairs_r (N : Nat)  (M : mS) {M' : mS} (d : Nat) (h : Wk_addPairs N M = some M') : mMet mP mTx (d + 3) 93 [.ref 39] (mSS M) none (mSS M') := by
  refine mMet_i ⟨Nat.le_refl _, Nat.le_refl _, Nat.le_of_ble_eq_true rfl⟩ ?_
  unfold Wk_addPairs at h
  show mRunF (mCd 93) (mEE (mMet mP mTx (d + 2)) (none) none M') (0, [some (.ref 39), none, none], [], mSS M)
  refine mRunF.sg (mSl mk_93 0 2) (g := (2, [some (.ref 39), some (.int 0), none], [], mSS M)) (by decide +kernel) rfl ?_
  exact Wk_addPairs_2_r h
set_option maxRecDepth 100000 in
set_option maxHeartbeats 4000000 in
theorem Wk_pass_47_r {N d : Nat}   {M' : mS} : ∀ {n : Nat} {x1 : Int32} {M : mS}, Wk_pass_47 N n x1 M = some M' → mRunF (mCd 92) (mEE (mMet mP mTx (d + 1)) (none) none M') (47, [some (.ref 39), some (.int x1)], [], mSS M) := by
  intro n
  induction n with
  | zero => intro x1 M h; cases h
  | succ n ih =>
    replace ih := @ih
    intro x1 M h
    unfold Wk_pass_47 at h
    refine mRunF.sg (mSl mk_92 28 4) (g := (55, [some (.ref 39), some (.int x1)], [.int (M.1 3 7), .int x1], mSS M)) (by decide +kernel) rfl ?_
    refine R_ige (t := 99) ⟨44, by decide +kernel⟩ (fun q => ?_) (fun q => ?_)
    · rw [if_pos q] at h
      refine mRunF.sg (mSl mk_92 58 4) (g := (105, [some (.ref 39), some (.int x1)], [.int 0, .ref 40, .int 0, .ref 40], mSS M)) (by decide +kernel) rfl ?_
      refine R_iald (by decide +kernel) rfl rfl ?_
      show mRunF _ _ (106, [some (.ref 39), some (.int x1)], [.int (M.1 40 0), .int 0, .ref 40], mSS M)
      refine mRunF.sg (mSl mk_92 63 2) (g := (108, [some (.ref 39), some (.int x1)], [.int ((M.1 40 0) + 1), .int 0, .ref 40], mSS M)) (by decide +kernel) rfl ?_
      refine R_iast (by decide +kernel) rfl rfl ?_
      show mRunF _ _ (_, _, _, mSS (mWI M 40 0 ((M.1 40 0) + 1)))
      obtain ⟨M1, hv, h⟩ := nxt_ex h
      rw [← hv]
      clear hv
      cases h
      exact R_vret (by decide +kernel)
    · rw [if_neg q] at h
      refine mRunF.sg (mSl mk_92 33 10) (g := (72, [some (.ref 39), some (.int x1)], [.int (1 + x1), .ref 40, .int (1 + x1), .ref 40], mSS M)) (by decide +kernel) rfl ?_
      obtain ⟨g2, h⟩ := grd_of h
      refine R_iald (by decide +kernel) rfl g2 ?_
      refine mRunF.sg (mSl mk_92 44 5) (g := (80, [some (.ref 39), some (.int x1)], [.int (5 + x1), .ref 40, .int (M.1 40 (1 + x1).toNatClampNeg), .int (1 + x1), .ref 40], mSS M)) (by decide +kernel) rfl ?_
      obtain ⟨g3, h⟩ := grd_of h
      refine R_iald (by decide +kernel) rfl g3 ?_
      refine mRunF.sg (mSl mk_92 50 4) (g := (89, [some (.ref 39), some (.int x1)], [.int (M.1 3 6), .int ((M.1 40 (1 + x1).toNatClampNeg) + (M.1 40 (5 + x1).toNatClampNeg)), .int (1 + x1), .ref 40], mSS M)) (by decide +kernel) rfl ?_
      obtain ⟨r5, q4, h⟩ := bR_of h
      refine R_callS (mi := 166) (na := 2) (as := [.int ((M.1 40 (1 + x1).toNatClampNeg) + (M.1 40 (5 + x1).toNatClampNeg)), .int (M.1 3 6)]) (r := [.int (1 + x1), .ref 40]) (rv := some (.int r5)) (σ1 := mSS M) ⟨92, by decide +kernel⟩ rfl rfl rfl (Md_rest_r N ((M.1 40 (1 + x1).toNatClampNeg) + (M.1 40 (5 + x1).toNatClampNeg)) (M.1 3 6) M (d + 0) q4) ?_
      show mRunF _ _ (92, [some (.ref 39), some (.int x1)], [.int r5, .int (1 + x1), .ref 40], mSS M)
      obtain ⟨g6, h⟩ := grd_of h
      refine R_iast (by decide +kernel) rfl g6 ?_
      obtain ⟨M7, hv, h⟩ := nxt_ex h
      rw [← hv]
      clear hv
      refine mRunF.sg (mSl mk_92 56 2) (g := (47, [some (.ref 39), some (.int (x1 + 1))], [], mSS M7)) (by decide +kernel) rfl ?_
      exact @ih _ _ h
set_option maxRecDepth 100000 in
set_option maxHeartbeats 4000000 in
theorem Wk_pass_2_r {N d : Nat}   {M' : mS} : ∀ {n : Nat} {x1 : Int32} {M : mS}, Wk_pass_2 N n x1 M = some M' → mRunF (mCd 92) (mEE (mMet mP mTx (d + 1)) (none) none M') (2, [some (.ref 39), some (.int x1)], [], mSS M) := by
  intro n
  induction n with
  | zero => intro x1 M h; cases h
  | succ n ih =>
    replace ih := @ih
    intro x1 M h
    unfold Wk_pass_2 at h
    refine mRunF.sg (mSl mk_92 2 4) (g := (10, [some (.ref 39), some (.int x1)], [.int (M.1 3 8), .int x1], mSS M)) (by decide +kernel) rfl ?_
    refine R_ige (t := 45) ⟨35, by decide +kernel⟩ (fun q => ?_) (fun q => ?_)
    · rw [if_pos q] at h
      refine mRunF.sg (mSl mk_92 26 2) (g := (47, [some (.ref 39), some (.int 0)], [], mSS M)) (by decide +kernel) rfl ?_
      exact Wk_pass_47_r h
    · rw [if_neg q] at h
      refine mRunF.sg (mSl mk_92 7 6) (g := (22, [some (.ref 39), some (.int x1)], [.int (14 + x1), .ref 40, .int (14 + x1), .ref 40], mSS M)) (by decide +kernel) rfl ?_
      obtain ⟨g8, h⟩ := grd_of h
      refine R_iald (by decide +kernel) rfl g8 ?_
      refine mRunF.sg (mSl mk_92 14 3) (g := (28, [some (.ref 39), some (.int x1)], [.int x1, .ref 41, .int (M.1 40 (14 + x1).toNatClampNeg), .int (14 + x1), .ref 40], mSS M)) (by decide +kernel) rfl ?_
      obtain ⟨g9, h⟩ := grd_of h
      refine R_iald (by decide +kernel) rfl g9 ?_
      refine mRunF.sg (mSl mk_92 18 3) (g := (34, [some (.ref 39), some (.int x1)], [.int ((M.1 41 x1.toNatClampNeg) &&& (M.1 39 3)), .int (M.1 40 (14 + x1).toNatClampNeg), .int (14 + x1), .ref 40], mSS M)) (by decide +kernel) rfl ?_
      refine R_callS (mi := 308) (na := 1) (as := [.int ((M.1 41 x1.toNatClampNeg) &&& (M.1 39 3))]) (r := [.int (M.1 40 (14 + x1).toNatClampNeg), .int (14 + x1), .ref 40]) (rv := some (.int (Jl_bitCount ((M.1 41 x1.toNatClampNeg) &&& (M.1 39 3)) M))) (σ1 := mSS M) ⟨98, by decide +kernel⟩ rfl rfl rfl (Jl_bitCount_r ((M.1 41 x1.toNatClampNeg) &&& (M.1 39 3)) M (d + 0)) ?_
      show mRunF _ _ (37, [some (.ref 39), some (.int x1)], [.int (Jl_bitCount ((M.1 41 x1.toNatClampNeg) &&& (M.1 39 3)) M), .int (M.1 40 (14 + x1).toNatClampNeg), .int (14 + x1), .ref 40], mSS M)
      refine mRunF.sg (mSl mk_92 22 1) (g := (38, [some (.ref 39), some (.int x1)], [.int ((M.1 40 (14 + x1).toNatClampNeg) + (Jl_bitCount ((M.1 41 x1.toNatClampNeg) &&& (M.1 39 3)) M)), .int (14 + x1), .ref 40], mSS M)) (by decide +kernel) rfl ?_
      obtain ⟨g10, h⟩ := grd_of h
      refine R_iast (by decide +kernel) rfl g10 ?_
      obtain ⟨M11, hv, h⟩ := nxt_ex h
      rw [← hv]
      clear hv
      refine mRunF.sg (mSl mk_92 24 2) (g := (2, [some (.ref 39), some (.int (x1 + 1))], [], mSS M11)) (by decide +kernel) rfl ?_
      exact @ih _ _ h
set_option maxRecDepth 100000 in
set_option maxHeartbeats 4000000 in
theorem Wk_pass_r (N : Nat)  (M : mS) {M' : mS} (d : Nat) (h : Wk_pass N M = some M') : mMet mP mTx (d + 2) 92 [.ref 39] (mSS M) none (mSS M') := by
  refine mMet_i ⟨Nat.le_refl _, Nat.le_refl _, Nat.le_of_ble_eq_true rfl⟩ ?_
  unfold Wk_pass at h
  show mRunF (mCd 92) (mEE (mMet mP mTx (d + 1)) (none) none M') (0, [some (.ref 39), none], [], mSS M)
  refine mRunF.sg (mSl mk_92 0 2) (g := (2, [some (.ref 39), some (.int 0)], [], mSS M)) (by decide +kernel) rfl ?_
  exact Wk_pass_2_r h
