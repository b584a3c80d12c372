/-! METHODS as functions, 13: printed by program -/
set_option maxRecDepth 100000 in
set_option maxHeartbeats 4000000 in
theorem Mo_gainBy_r (N : Nat) (a0 : Int32) (a1 : Int32) (a2 : Int32) (a3 : Int32) (a4 : Int32) (M : mS) {r : Int32} {M' : mS} (d : Nat) (h : Mo_gainBy N a0 a1 a2 a3 a4 M = some (r, M')) : mMet mP mTx (d + 10) 293 [.ref 64, .int a0, .int a1, .int a2, .int a3, .int a4] (mSS M) (some (.int r)) (mSS M') := by
  refine mMet_i ⟨Nat.le_refl _, Nat.le_refl _, Nat.le_of_ble_eq_true rfl⟩ ?_
  unfold Mo_gainBy at h
  show mRunF (mCd 293) (mEE (mMet mP mTx (d + 9)) (some .int) (some (.int r)) M') (0, [some (.ref 64), some (.int a0), some (.int a1), some (.int a2), some (.int a3), some (.int a4), none], [], mSS M)
  refine mRunF.sg (mSl mk_293 0 4) (g := (5, [some (.ref 64), some (.int a0), some (.int a1), some (.int a2), some (.int a3), some (.int a4), none], [.int a3, .int a2, .int a0, .ref 64], mSS M)) (by decide +kernel) rfl ?_
  obtain ⟨r3, M2, q1, h⟩ := bW_of h
  refine R_callV (mi := 291) (na := 4) (ci := 12) (i := 64) (as := [.int a0, .int a2, .int a3]) (r := []) (rv := some (.int r3)) (σ1 := mSS M2) ⟨484, by decide +kernel⟩ rfl rfl rfl rfl (Mo_plays_r N a0 a2 a3 M (d + 0) q1) ?_
  show mRunF _ _ (8, [some (.ref 64), some (.int a0), some (.int a1), some (.int a2), some (.int a3), some (.int a4), none], [.int r3], mSS M2)
  refine mRunF.sg (mSl mk_293 5 5) (g := (15, [some (.ref 64), some (.int a0), some (.int a1), some (.int a2), some (.int a3), some (.int a4), some (.int r3)], [.int (a4 - 1), .int a1], mSS M2)) (by decide +kernel) rfl ?_
  refine R_ine (t := 23) ⟨8, by decide +kernel⟩ (fun q => ?_) (fun q => ?_)
  · rw [if_pos q] at h
    refine mRunF.sg (mSl mk_293 11 2) (g := (39, [some (.ref 64), some (.int a0), some (.int a1), some (.int a2), some (.int a3), some (.int a4), some (.int r3)], [.int r3], mSS M2)) (by decide +kernel) rfl ?_
    cases h
    exact R_iret (by decide +kernel)
  · rw [if_neg q] at h
    refine mRunF.sg (mSl mk_293 13 7) (g := (34, [some (.ref 64), some (.int a0), some (.int a1), some (.int a2), some (.int a3), some (.int a4), some (.int r3)], [.int a3, .int a1, .int a0, .ref 64, .ref 104, .int r3], mSS M2)) (by decide +kernel) rfl ?_
    obtain ⟨r5, q4, h⟩ := bR_of h
    refine R_callV (mi := 290) (na := 4) (ci := 12) (i := 64) (as := [.int a0, .int a1, .int a3]) (r := [.ref 104, .int r3]) (rv := some (.int r5)) (σ1 := mSS M2) ⟨487, by decide +kernel⟩ rfl rfl rfl rfl (Mo_childOf_r N a0 a1 a3 M2 (d + 8) q4) ?_
    show mRunF _ _ (37, [some (.ref 64), some (.int a0), some (.int a1), some (.int a2), some (.int a3), some (.int a4), some (.int r3)], [.int r5, .ref 104, .int r3], mSS M2)
    obtain ⟨g6, h⟩ := grd_of h
    refine R_iald (by decide +kernel) rfl g6 ?_
    refine mRunF.sg (mSl mk_293 22 1) (g := (39, [some (.ref 64), some (.int a0), some (.int a1), some (.int a2), some (.int a3), some (.int a4), some (.int r3)], [.int (r3 + (M2.1 104 r5.toNatClampNeg))], mSS M2)) (by decide +kernel) rfl ?_
    cases h
    exact R_iret (by decide +kernel)
set_option maxRecDepth 100000 in
set_option maxHeartbeats 4000000 in
theorem Mo_bestAt_71_r {N d : Nat} {k18 : Int32 → Int32 → Int32 → Int32 → Int32 → Int32 → Int32 → mS → Option (Int32 × mS)} {M : mS} {x1 : Int32} {x2 : Int32} {x3 : Int32} {x4 : Int32} {x5 : Int32} {x6 : Int32} {x7 : Int32} {r : Int32} {M' : mS} (hk18 : ∀ (x1 : Int32) (x2 : Int32) (x3 : Int32) (x4 : Int32) (x5 : Int32) (x6 : Int32) (x7 : Int32) (M : mS), k18 x1 x2 x3 x4 x5 x6 x7 M = some (r, M') → mRunF (mCd 294) (mEE (mMet mP mTx (d + 10)) (some .int) (some (.int r)) M') (18, [some (.ref 64), some (.int x1), some (.int x2), some (.int x3), some (.int x4), some (.int x5), some (.int x6), some (.int x7), none], [], mSS M)) (h : Mo_bestAt_71 N k18 x1 x2 x3 x4 x5 x6 x7 M = some (r, M')) : mRunF (mCd 294) (mEE (mMet mP mTx (d + 10)) (some .int) (some (.int r)) M') (71, [some (.ref 64), some (.int x1), some (.int x2), some (.int x3), some (.int x4), some (.int x5), some (.int x6), some (.int x7), none], [], mSS M) := by
  unfold Mo_bestAt_71 at h
  refine mRunF.sg (mSl mk_294 39 2) (g := (18, [some (.ref 64), some (.int x1), some (.int x2), some (.int x3), some (.int x4), some (.int x5), some (.int x6), some (.int (x7 + 1)), none], [], mSS M)) (by decide +kernel) rfl ?_
  exact hk18 _ _ _ _ _ _ _ _ h
set_option maxRecDepth 100000 in
set_option maxHeartbeats 4000000 in
theorem Mo_bestAt_63_r {N d : Nat} {k18 : Int32 → Int32 → Int32 → Int32 → Int32 → Int32 → Int32 → mS → Option (Int32 × mS)} {M : mS} {x1 : Int32} {x2 : Int32} {x3 : Int32} {x4 : Int32} {x7 : Int32} {x8 : Int32} {r : Int32} {M' : mS} (hk18 : ∀ (x1 : Int32) (x2 : Int32) (x3 : Int32) (x4 : Int32) (x5 : Int32) (x6 : Int32) (x7 : Int32) (M : mS), k18 x1 x2 x3 x4 x5 x6 x7 M = some (r, M') → mRunF (mCd 294) (mEE (mMet mP mTx (d + 10)) (some .int) (some (.int r)) M') (18, [some (.ref 64), some (.int x1), some (.int x2), some (.int x3), some (.int x4), some (.int x5), some (.int x6), some (.int x7), none], [], mSS M)) (h : Mo_bestAt_63 N k18 x1 x2 x3 x4 x7 x8 M = some (r, M')) : mRunF (mCd 294) (mEE (mMet mP mTx (d + 10)) (some .int) (some (.int r)) M') (63, [some (.ref 64), some (.int x1), some (.int x2), some (.int x3), some (.int x4), none, none, some (.int x7), some (.int x8)], [], mSS M) := by
  unfold Mo_bestAt_63 at h
  refine mRunF.sg (mSl mk_294 35 4) (g := (71, [some (.ref 64), some (.int x1), some (.int x2), some (.int x3), some (.int x4), some (.int x7), some (.int x8), some (.int x7), some (.int x8)], [], mSS M)) (by decide +kernel) rfl ?_
  refine mRunF.forget [true, true, true, true, true, true, true, true, false] ?_
  exact Mo_bestAt_71_r hk18 h
set_option maxRecDepth 100000 in
set_option maxHeartbeats 4000000 in
theorem Mo_bestAt_18_r {N d : Nat}   {r : Int32} {M' : mS} : ∀ {n : Nat} {x1 : Int32} {x2 : Int32} {x3 : Int32} {x4 : Int32} {x5 : Int32} {x6 : Int32} {x7 : Int32} {M : mS}, Mo_bestAt_18 N n x1 x2 x3 x4 x5 x6 x7 M = some (r, M') → mRunF (mCd 294) (mEE (mMet mP mTx (d + 10)) (some .int) (some (.int r)) M') (18, [some (.ref 64), some (.int x1), some (.int x2), some (.int x3), some (.int x4), some (.int x5), some (.int x6), some (.int x7), none], [], mSS M) := by
  intro n
  induction n with
  | zero => intro x1 x2 x3 x4 x5 x6 x7 M h; cases h
  | succ n ih =>
    replace ih := @ih
    intro x1 x2 x3 x4 x5 x6 x7 M h
    unfold Mo_bestAt_18 at h
    refine mRunF.sg (mSl mk_294 12 2) (g := (21, [some (.ref 64), some (.int x1), some (.int x2), some (.int x3), some (.int x4), some (.int x5), some (.int x6), some (.int x7), none], [.int 3, .int x7], mSS M)) (by decide +kernel) rfl ?_
    refine R_ige (t := 77) ⟨56, by decide +kernel⟩ (fun q => ?_) (fun q => ?_)
    · rw [if_pos q] at h
      refine mRunF.sg (mSl mk_294 41 1) (g := (79, [some (.ref 64), some (.int x1), some (.int x2), some (.int x3), some (.int x4), some (.int x5), some (.int x6), some (.int x7), none], [.int x5], mSS M)) (by decide +kernel) rfl ?_
      cases h
      exact R_iret (by decide +kernel)
    · rw [if_neg q] at h
      refine mRunF.sg (mSl mk_294 15 6) (g := (32, [some (.ref 64), some (.int x1), some (.int x2), some (.int x3), some (.int x4), some (.int x5), some (.int x6), some (.int x7), none], [.int x4, .int x7, .int x3, .int x2, .int x1, .ref 64], mSS M)) (by decide +kernel) rfl ?_
      obtain ⟨r3, M2, q1, h⟩ := bW_of h
      refine R_callV (mi := 293) (na := 6) (ci := 12) (i := 64) (as := [.int x1, .int x2, .int x3, .int x7, .int x4]) (r := []) (rv := some (.int r3)) (σ1 := mSS M2) ⟨490, by decide +kernel⟩ rfl rfl rfl rfl (Mo_gainBy_r N x1 x2 x3 x7 x4 M (d + 0) q1) ?_
      show mRunF _ _ (35, [some (.ref 64), some (.int x1), some (.int x2), some (.int x3), some (.int x4), some (.int x5), some (.int x6), some (.int x7), none], [.int r3], mSS M2)
      refine mRunF.sg (mSl mk_294 22 3) (g := (39, [some (.ref 64), some (.int x1), some (.int x2), some (.int x3), some (.int x4), some (.int x5), some (.int x6), some (.int x7), some (.int r3)], [.int 2, .int x2], mSS M2)) (by decide +kernel) rfl ?_
      refine R_rem (by decide +kernel) (by decide) ?_
      refine R_ne (t := 53) ⟨13, by decide +kernel⟩ (fun q => ?_) (fun q => ?_)
      · rw [if_pos q] at h
        refine mRunF.sg (mSl mk_294 27 2) (g := (47, [some (.ref 64), some (.int x1), some (.int x2), some (.int x3), some (.int x4), some (.int x5), some (.int x6), some (.int x7), some (.int r3)], [.int x6, .int r3], mSS M2)) (by decide +kernel) rfl ?_
        refine R_igt (t := 63) ⟨16, by decide +kernel⟩ (fun q => ?_) (fun q => ?_)
        · rw [if_pos q] at h
          refine mRunF.forget [true, true, true, true, true, false, false, true, true] ?_
          exact Mo_bestAt_63_r (fun y0 y1 y2 y3 y4 y5 y6 y7 hh => @ih y0 y1 y2 y3 y4 y5 y6 y7 hh) h
        · rw [if_neg q] at h
          refine mRunF.sg (mSl mk_294 30 1) (g := (71, [some (.ref 64), some (.int x1), some (.int x2), some (.int x3), some (.int x4), some (.int x5), some (.int x6), some (.int x7), some (.int r3)], [], mSS M2)) (by decide +kernel) rfl ?_
          refine mRunF.forget [true, true, true, true, true, true, true, true, false] ?_
          exact Mo_bestAt_71_r (fun y0 y1 y2 y3 y4 y5 y6 y7 hh => @ih y0 y1 y2 y3 y4 y5 y6 y7 hh) h
      · rw [if_neg q] at h
        refine mRunF.sg (mSl mk_294 31 2) (g := (57, [some (.ref 64), some (.int x1), some (.int x2), some (.int x3), some (.int x4), some (.int x5), some (.int x6), some (.int x7), some (.int r3)], [.int x6, .int r3], mSS M2)) (by decide +kernel) rfl ?_
        refine R_ilt (t := 63) ⟨6, by decide +kernel⟩ (fun q => ?_) (fun q => ?_)
        · rw [if_pos q] at h
          refine mRunF.forget [true, true, true, true, true, false, false, true, true] ?_
          exact Mo_bestAt_63_r (fun y0 y1 y2 y3 y4 y5 y6 y7 hh => @ih y0 y1 y2 y3 y4 y5 y6 y7 hh) h
        · rw [if_neg q] at h
          refine mRunF.sg (mSl mk_294 34 1) (g := (71, [some (.ref 64), some (.int x1), some (.int x2), some (.int x3), some (.int x4), some (.int x5), some (.int x6), some (.int x7), some (.int r3)], [], mSS M2)) (by decide +kernel) rfl ?_
          refine mRunF.forget [true, true, true, true, true, true, true, true, false] ?_
          exact Mo_bestAt_71_r (fun y0 y1 y2 y3 y4 y5 y6 y7 hh => @ih y0 y1 y2 y3 y4 y5 y6 y7 hh) h
set_option maxRecDepth 100000 in
set_option maxHeartbeats 4000000 in
theorem Mo_bestAt_r (N : Nat) (a0 : Int32) (a1 : Int32) (a2 : Int32) (a3 : Int32) (M : mS) {r : Int32} {M' : mS} (d : Nat) (h : Mo_bestAt N a0 a1 a2 a3 M = some (r, M')) : mMet mP mTx (d + 11) 294 [.ref 64, .int a0, .int a1, .int a2, .int a3] (mSS M) (some (.int r)) (mSS M') := by
  refine mMet_i ⟨Nat.le_refl _, Nat.le_refl _, Nat.le_of_ble_eq_true rfl⟩ ?_
  unfold Mo_bestAt at h
  show mRunF (mCd 294) (mEE (mMet mP mTx (d + 10)) (some .int) (some (.int r)) M') (0, [some (.ref 64), some (.int a0), some (.int a1), some (.int a2), some (.int a3), none, none, none, none], [], mSS M)
  refine mRunF.sg (mSl mk_294 0 8) (g := (10, [some (.ref 64), some (.int a0), some (.int a1), some (.int a2), some (.int a3), some (.int 0), none, none, none], [.int a3, .int 0, .int a2, .int a1, .int a0, .ref 64], mSS M)) (by decide +kernel) rfl ?_
  obtain ⟨r6, M5, q4, h⟩ := bW_of h
  refine R_callV (mi := 293) (na := 6) (ci := 12) (i := 64) (as := [.int a0, .int a1, .int a2, .int 0, .int a3]) (r := []) (rv := some (.int r6)) (σ1 := mSS M5) ⟨490, by decide +kernel⟩ rfl rfl rfl rfl (Mo_gainBy_r N a0 a1 a2 0 a3 M (d + 0) q4) ?_
  show mRunF _ _ (13, [some (.ref 64), some (.int a0), some (.int a1), some (.int a2), some (.int a3), some (.int 0), none, none, none], [.int r6], mSS M5)
  refine mRunF.sg (mSl mk_294 9 3) (g := (18, [some (.ref 64), some (.int a0), some (.int a1), some (.int a2), some (.int a3), some (.int 0), some (.int r6), some (.int 1), none], [], mSS M5)) (by decide +kernel) rfl ?_
  exact Mo_bestAt_18_r h
set_option maxRecDepth 100000 in
set_option maxHeartbeats 4000000 in
theorem Mo_spreads_34_r {N d : Nat} {k3 : Int32 → Int32 → Int32 → Int32 → mS → Option mS}  {M' : mS} (hk3 : ∀ (x1 : Int32) (x2 : Int32) (x3 : Int32) (x4 : Int32) (M : mS), k3 x1 x2 x3 x4 M = some M' → mRunF (mCd 292) (mEE (mMet mP mTx (d + 9)) (none) none M') (3, [some (.ref 64), some (.int x1), some (.int x2), some (.int x3), some (.int x4), none, none], [], mSS M)) : ∀ {n : Nat} {x1 : Int32} {x2 : Int32} {x3 : Int32} {x4 : Int32} {x5 : Int32} {x6 : Int32} {M : mS}, Mo_spreads_34 N k3 n x1 x2 x3 x4 x5 x6 M = some M' → mRunF (mCd 292) (mEE (mMet mP mTx (d + 9)) (none) none M') (34, [some (.ref 64), some (.int x1), some (.int x2), some (.int x3), some (.int x4), some (.int x5), some (.int x6)], [], mSS M) := by
  intro n
  induction n with
  | zero => intro x1 x2 x3 x4 x5 x6 M h; cases h
  | succ n ih =>
    replace ih := @ih
    intro x1 x2 x3 x4 x5 x6 M h
    unfold Mo_spreads_34 at h
    refine mRunF.sg (mSl mk_292 21 2) (g := (38, [some (.ref 64), some (.int x1), some (.int x2), some (.int x3), some (.int x4), some (.int x5), some (.int x6)], [.int 29, .int x6], mSS M)) (by decide +kernel) rfl ?_
    refine R_ige (t := 64) ⟨26, by decide +kernel⟩ (fun q => ?_) (fun q => ?_)
    · rw [if_pos q] at h
      refine mRunF.sg (mSl mk_292 36 2) (g := (3, [some (.ref 64), some (.int x1), some (.int x2), some (.int x3), some (.int (x4 + 1)), some (.int x5), some (.int x6)], [], mSS M)) (by decide +kernel) rfl ?_
      refine mRunF.forget [true, true, true, true, true, false, false] ?_
      exact hk3 _ _ _ _ _ h
    · rw [if_neg q] at h
      refine mRunF.sg (mSl mk_292 24 8) (g := (56, [some (.ref 64), some (.int x1), some (.int x2), some (.int x3), some (.int x4), some (.int x5), some (.int x6)], [.int x6, .ref 96, .int (x5 + x6), .ref 103], mSS M)) (by decide +kernel) rfl ?_
      obtain ⟨g1, h⟩ := grd_of h
      refine R_iald (by decide +kernel) rfl g1 ?_
      obtain ⟨g2, h⟩ := grd_of h
      refine R_iast (by decide +kernel) rfl g2 ?_
      obtain ⟨M3, hv, h⟩ := nxt_ex h
      rw [← hv]
      clear hv
      refine mRunF.sg (mSl mk_292 34 2) (g := (34, [some (.ref 64), some (.int x1), some (.int x2), some (.int x3), some (.int x4), some (.int x5), some (.int (x6 + 1))], [], mSS M3)) (by decide +kernel) rfl ?_
      exact @ih _ _ _ _ _ _ _ h
set_option maxRecDepth 100000 in
set_option maxHeartbeats 4000000 in
theorem Mo_spreads_3_r {N d : Nat}   {M' : mS} : ∀ {n : Nat} {x1 : Int32} {x2 : Int32} {x3 : Int32} {x4 : Int32} {M : mS}, Mo_spreads_3 N n x1 x2 x3 x4 M = some M' → mRunF (mCd 292) (mEE (mMet mP mTx (d + 9)) (none) none M') (3, [some (.ref 64), some (.int x1), some (.int x2), some (.int x3), some (.int x4), none, none], [], mSS M) := by
  intro n
  induction n with
  | zero => intro x1 x2 x3 x4 M h; cases h
  | succ n ih =>
    replace ih := @ih
    intro x1 x2 x3 x4 M h
    unfold Mo_spreads_3 at h
    refine mRunF.sg (mSl mk_292 2 2) (g := (6, [some (.ref 64), some (.int x1), some (.int x2), some (.int x3), some (.int x4), none, none], [.int 3, .int x4], mSS M)) (by decide +kernel) rfl ?_
    refine R_ige (t := 70) ⟨64, by decide +kernel⟩ (fun q => ?_) (fun q => ?_)
    · rw [if_pos q] at h
      cases h
      exact R_vret (by decide +kernel)
    · rw [if_neg q] at h
      refine mRunF.sg (mSl mk_292 5 4) (g := (14, [some (.ref 64), some (.int x1), some (.int x2), some (.int x3), some (.int x4), none, none], [.int x4, .int x3, .int x1, .ref 64], mSS M)) (by decide +kernel) rfl ?_
      obtain ⟨r6, M5, q4, h⟩ := bW_of h
      refine R_callV (mi := 291) (na := 4) (ci := 12) (i := 64) (as := [.int x1, .int x3, .int x4]) (r := []) (rv := some (.int r6)) (σ1 := mSS M5) ⟨484, by decide +kernel⟩ rfl rfl rfl rfl (Mo_plays_r N x1 x3 x4 M (d + 0) q4) ?_
      show mRunF _ _ (17, [some (.ref 64), some (.int x1), some (.int x2), some (.int x3), some (.int x4), none, none], [.int r6], mSS M5)
      refine mRunF.sg (mSl mk_292 10 6) (g := (25, [some (.ref 64), some (.int x1), some (.int x2), some (.int x3), some (.int x4), none, none], [.int x4, .int x2, .int x1, .ref 64, .int 29], mSS M5)) (by decide +kernel) rfl ?_
      obtain ⟨r8, q7, h⟩ := bR_of h
      refine R_callV (mi := 290) (na := 4) (ci := 12) (i := 64) (as := [.int x1, .int x2, .int x4]) (r := [.int 29]) (rv := some (.int r8)) (σ1 := mSS M5) ⟨487, by decide +kernel⟩ rfl rfl rfl rfl (Mo_childOf_r N x1 x2 x4 M5 (d + 8) q7) ?_
      show mRunF _ _ (28, [some (.ref 64), some (.int x1), some (.int x2), some (.int x3), some (.int x4), none, none], [.int r8, .int 29], mSS M5)
      refine mRunF.sg (mSl mk_292 17 2) (g := (31, [some (.ref 64), some (.int x1), some (.int x2), some (.int x3), some (.int x4), some (.int (29 * r8)), none], [], mSS M5)) (by decide +kernel) rfl ?_
      obtain ⟨v9, hv, h⟩ := nxt_ex h
      rw [← hv]
      clear hv
      refine mRunF.sg (mSl mk_292 19 2) (g := (34, [some (.ref 64), some (.int x1), some (.int x2), some (.int x3), some (.int x4), some (.int v9), some (.int 0)], [], mSS M5)) (by decide +kernel) rfl ?_
      exact Mo_spreads_34_r (fun y0 y1 y2 y3 y4 hh => @ih y0 y1 y2 y3 y4 hh) h
set_option maxRecDepth 100000 in
set_option maxHeartbeats 4000000 in
theorem Mo_spreads_r (N : Nat) (a0 : Int32) (a1 : Int32) (a2 : Int32) (M : mS) {M' : mS} (d : Nat) (h : Mo_spreads N a0 a1 a2 M = some M') : mMet mP mTx (d + 10) 292 [.ref 64, .int a0, .int a1, .int a2] (mSS M) none (mSS M') := by
  refine mMet_i ⟨Nat.le_refl _, Nat.le_refl _, Nat.le_of_ble_eq_true rfl⟩ ?_
  unfold Mo_spreads at h
  show mRunF (mCd 292) (mEE (mMet mP mTx (d + 9)) (none) none M') (0, [some (.ref 64), some (.int a0), some (.int a1), some (.int a2), none, none, none], [], mSS M)
  refine mRunF.sg (mSl mk_292 0 2) (g := (3, [some (.ref 64), some (.int a0), some (.int a1), some (.int a2), some (.int 0), none, none], [], mSS M)) (by decide +kernel) rfl ?_
  exact Mo_spreads_3_r h
set_option maxRecDepth 100000 in
set_option maxHeartbeats 4000000 in
theorem Mo_game_96_r {N d : Nat} {k79 : Int32 → Int32 → Int32 → Int32 → mS → Option (Int32 × mS)}  {r : Int32} {M' : mS} (hk79 : ∀ (x1 : Int32) (x2 : Int32) (x3 : Int32) (x4 : Int32) (M : mS), k79 x1 x2 x3 x4 M = some (r, M') → mRunF (mCd 295) (mEE (mMet mP mTx (d + 11)) (some .int) (some (.int r)) M') (79, [some (.ref 64), some (.int x1), some (.int x2), some (.int x3), some (.int x4), none], [], mSS M)) : ∀ {n : Nat} {x1 : Int32} {x2 : Int32} {x3 : Int32} {x4 : Int32} {x5 : Int32} {M : mS}, Mo_game_96 N k79 n x1 x2 x3 x4 x5 M = some (r, M') → mRunF (mCd 295) (mEE (mMet mP mTx (d + 11)) (some .int) (some (.int r)) M') (96, [some (.ref 64), some (.int x1), some (.int x2), some (.int x3), some (.int x4), some (.int x5)], [], mSS M) := by
  intro n
  induction n with
  | zero => intro x1 x2 x3 x4 x5 M h; cases h
  | succ n ih =>
    replace ih := @ih
    intro x1 x2 x3 x4 x5 M h
    unfold Mo_game_96 at h
    refine mRunF.sg (mSl mk_295 52 6) (g := (106, [some (.ref 64), some (.int x1), some (.int x2), some (.int x3), some (.int x4), some (.int x5)], [.int (x4 + 1), .ref 102, .int x5], mSS M)) (by decide +kernel) rfl ?_
    obtain ⟨g1, h⟩ := grd_of h
    refine R_iald (by decide +kernel) rfl g1 ?_
    refine R_ige (t := 125) ⟨18, by decide +kernel⟩ (fun q => ?_) (fun q => ?_)
    · rw [if_pos q] at h
      refine mRunF.sg (mSl mk_295 67 2) (g := (79, [some (.ref 64), some (.int x1), some (.int x2), some (.int x3), some (.int (x4 + 1)), some (.int x5)], [], mSS M)) (by decide +kernel) rfl ?_
      refine mRunF.forget [true, true, true, true, true, false] ?_
      exact hk79 _ _ _ _ _ h
    · rw [if_neg q] at h
      refine mRunF.sg (mSl mk_295 60 4) (g := (116, [some (.ref 64), some (.int x1), some (.int x2), some (.int x3), some (.int x4), some (.int x5)], [.int x1, .int x4, .int x5, .ref 64], mSS M)) (by decide +kernel) rfl ?_
      obtain ⟨M3, q2, h⟩ := bV_of h
      refine R_callV (mi := 292) (na := 4) (ci := 12) (i := 64) (as := [.int x5, .int x4, .int x1]) (r := []) (rv := none) (σ1 := mSS M3) ⟨494, by decide +kernel⟩ rfl rfl rfl rfl (Mo_spreads_r N x5 x4 x1 M (d + 1) q2) ?_
      show mRunF _ _ (119, [some (.ref 64), some (.int x1), some (.int x2), some (.int x3), some (.int x4), some (.int x5)], [], mSS M3)
      refine mRunF.sg (mSl mk_295 65 2) (g := (96, [some (.ref 64), some (.int x1), some (.int x2), some (.int x3), some (.int x4), some (.int (x5 + 1))], [], mSS M3)) (by decide +kernel) rfl ?_
      exact @ih _ _ _ _ _ _ h
set_option maxRecDepth 100000 in
set_option maxHeartbeats 4000000 in
theorem Mo_game_150_r {N d : Nat} {k136 : Int32 → Int32 → Int32 → Int32 → mS → Option (Int32 × mS)}  {r : Int32} {M' : mS} (hk136 : ∀ (x1 : Int32) (x2 : Int32) (x3 : Int32) (x4 : Int32) (M : mS), k136 x1 x2 x3 x4 M = some (r, M') → mRunF (mCd 295) (mEE (mMet mP mTx (d + 11)) (some .int) (some (.int r)) M') (136, [some (.ref 64), some (.int x1), some (.int x2), some (.int x3), some (.int x4), none], [], mSS M)) : ∀ {n : Nat} {x1 : Int32} {x2 : Int32} {x3 : Int32} {x4 : Int32} {x5 : Int32} {M : mS}, Mo_game_150 N k136 n x1 x2 x3 x4 x5 M = some (r, M') → mRunF (mCd 295) (mEE (mMet mP mTx (d + 11)) (some .int) (some (.int r)) M') (150, [some (.ref 64), some (.int x1), some (.int x2), some (.int x3), some (.int x4), some (.int x5)], [], mSS M) := by
  intro n
  induction n with
  | zero => intro x1 x2 x3 x4 x5 M h; cases h
  | succ n ih =>
    replace ih := @ih
    intro x1 x2 x3 x4 x5 M h
    unfold Mo_game_150 at h
    refine mRunF.sg (mSl mk_295 80 6) (g := (160, [some (.ref 64), some (.int x1), some (.int x2), some (.int x3), some (.int x4), some (.int x5)], [.int (x4 + 1), .ref 102, .int x5], mSS M)) (by decide +kernel) rfl ?_
    obtain ⟨g4, h⟩ := grd_of h
    refine R_iald (by decide +kernel) rfl g4 ?_
    refine R_ige (t := 197) ⟨36, by decide +kernel⟩ (fun q => ?_) (fun q => ?_)
    · rw [if_pos q] at h
      refine mRunF.sg (mSl mk_295 106 2) (g := (136, [some (.ref 64), some (.int x1), some (.int x2), some (.int x3), some (.int (x4 + (-1))), some (.int x5)], [], mSS M)) (by decide +kernel) rfl ?_
      refine mRunF.forget [true, true, true, true, true, false] ?_
      exact hk136 _ _ _ _ _ h
    · rw [if_neg q] at h
      refine mRunF.sg (mSl mk_295 88 12) (g := (183, [some (.ref 64), some (.int x1), some (.int x2), some (.int x3), some (.int x4), some (.int x5)], [.int x2, .int x1, .int x4, .int x5, .ref 64, .int x1, .int x4, .int x5, .ref 64, .int x5, .ref 104], mSS M)) (by decide +kernel) rfl ?_
      obtain ⟨r7, M6, q5, h⟩ := bW_of h
      refine R_callV (mi := 294) (na := 5) (ci := 12) (i := 64) (as := [.int x5, .int x4, .int x1, .int x2]) (r := [.int x1, .int x4, .int x5, .ref 64, .int x5, .ref 104]) (rv := some (.int r7)) (σ1 := mSS M6) ⟨498, by decide +kernel⟩ rfl rfl rfl rfl (Mo_bestAt_r N x5 x4 x1 x2 M (d + 0) q5) ?_
      show mRunF _ _ (186, [some (.ref 64), some (.int x1), some (.int x2), some (.int x3), some (.int x4), some (.int x5)], [.int r7, .int x1, .int x4, .int x5, .ref 64, .int x5, .ref 104], mSS M6)
      refine mRunF.sg (mSl mk_295 101 1) (g := (187, [some (.ref 64), some (.int x1), some (.int x2), some (.int x3), some (.int x4), some (.int x5)], [.int x2, .int r7, .int x1, .int x4, .int x5, .ref 64, .int x5, .ref 104], mSS M6)) (by decide +kernel) rfl ?_
      obtain ⟨r10, M9, q8, h⟩ := bW_of h
      refine R_callV (mi := 293) (na := 6) (ci := 12) (i := 64) (as := [.int x5, .int x4, .int x1, .int r7, .int x2]) (r := [.int x5, .ref 104]) (rv := some (.int r10)) (σ1 := mSS M9) ⟨490, by decide +kernel⟩ rfl rfl rfl rfl (Mo_gainBy_r N x5 x4 x1 r7 x2 M6 (d + 1) q8) ?_
      show mRunF _ _ (190, [some (.ref 64), some (.int x1), some (.int x2), some (.int x3), some (.int x4), some (.int x5)], [.int r10, .int x5, .ref 104], mSS M9)
      obtain ⟨g11, h⟩ := grd_of h
      refine R_iast (by decide +kernel) rfl g11 ?_
      obtain ⟨M12, hv, h⟩ := nxt_ex h
      rw [← hv]
      clear hv
      refine mRunF.sg (mSl mk_295 104 2) (g := (150, [some (.ref 64), some (.int x1), some (.int x2), some (.int x3), some (.int x4), some (.int (x5 + 1))], [], mSS M12)) (by decide +kernel) rfl ?_
      exact @ih _ _ _ _ _ _ h
set_option maxRecDepth 100000 in
set_option maxHeartbeats 4000000 in
theorem Mo_game_136_r {N d : Nat}   {r : Int32} {M' : mS} : ∀ {n : Nat} {x1 : Int32} {x2 : Int32} {x3 : Int32} {x4 : Int32} {M : mS}, Mo_game_136 N n x1 x2 x3 x4 M = some (r, M') → mRunF (mCd 295) (mEE (mMet mP mTx (d + 11)) (some .int) (some (.int r)) M') (136, [some (.ref 64), some (.int x1), some (.int x2), some (.int x3), some (.int x4), none], [], mSS M) := by
  intro n
  induction n with
  | zero => intro x1 x2 x3 x4 M h; cases h
  | succ n ih =>
    replace ih := @ih
    intro x1 x2 x3 x4 M h
    unfold Mo_game_136 at h
    refine mRunF.sg (mSl mk_295 73 1) (g := (138, [some (.ref 64), some (.int x1), some (.int x2), some (.int x3), some (.int x4), none], [.int x4], mSS M)) (by decide +kernel) rfl ?_
    refine R_lt (t := 203) ⟨65, by decide +kernel⟩ (fun q => ?_) (fun q => ?_)
    · rw [if_pos q] at h
      refine mRunF.sg (mSl mk_295 108 1) (g := (204, [some (.ref 64), some (.int x1), some (.int x2), some (.int x3), some (.int x4), none], [.int x3], mSS M)) (by decide +kernel) rfl ?_
      refine R_ne (t := 216) ⟨12, by decide +kernel⟩ (fun q => ?_) (fun q => ?_)
      · rw [if_pos q] at h
        refine mRunF.sg (mSl mk_295 110 3) (g := (212, [some (.ref 64), some (.int x1), some (.int x2), some (.int x3), some (.int x4), none], [.int 0, .ref 104], mSS M)) (by decide +kernel) rfl ?_
        refine R_iald (by decide +kernel) rfl rfl ?_
        show mRunF _ _ (213, [some (.ref 64), some (.int x1), some (.int x2), some (.int x3), some (.int x4), none], [.int (M.1 104 0)], mSS M)
        refine mRunF.sg (mSl mk_295 114 1) (g := (224, [some (.ref 64), some (.int x1), some (.int x2), some (.int x3), some (.int x4), none], [.int (M.1 104 0)], mSS M)) (by decide +kernel) rfl ?_
        cases h
        exact R_iret (by decide +kernel)
      · rw [if_neg q] at h
        refine mRunF.sg (mSl mk_295 115 5) (g := (221, [some (.ref 64), some (.int x1), some (.int x2), some (.int x3), some (.int x4), none], [.int x2, .int x1, .int 0, .int 0, .ref 64], mSS M)) (by decide +kernel) rfl ?_
        obtain ⟨r15, M14, q13, h⟩ := bW_of h
        refine R_callV (mi := 294) (na := 5) (ci := 12) (i := 64) (as := [.int 0, .int 0, .int x1, .int x2]) (r := []) (rv := some (.int r15)) (σ1 := mSS M14) ⟨498, by decide +kernel⟩ rfl rfl rfl rfl (Mo_bestAt_r N 0 0 x1 x2 M (d + 0) q13) ?_
        show mRunF _ _ (224, [some (.ref 64), some (.int x1), some (.int x2), some (.int x3), some (.int x4), none], [.int r15], mSS M14)
        cases h
        exact R_iret (by decide +kernel)
    · rw [if_neg q] at h
      refine mRunF.sg (mSl mk_295 75 3) (g := (147, [some (.ref 64), some (.int x1), some (.int x2), some (.int x3), some (.int x4), none], [.int x4, .ref 102], mSS M)) (by decide +kernel) rfl ?_
      obtain ⟨g16, h⟩ := grd_of h
      refine R_iald (by decide +kernel) rfl g16 ?_
      refine mRunF.sg (mSl mk_295 79 1) (g := (150, [some (.ref 64), some (.int x1), some (.int x2), some (.int x3), some (.int x4), some (.int (M.1 102 x4.toNatClampNeg))], [], mSS M)) (by decide +kernel) rfl ?_
      obtain ⟨v17, hv, h⟩ := nxt_ex h
      rw [← hv]
      clear hv
      exact Mo_game_150_r (fun y0 y1 y2 y3 y4 hh => @ih y0 y1 y2 y3 y4 hh) h
set_option maxRecDepth 100000 in
set_option maxHeartbeats 4000000 in
theorem Mo_game_79_r {N d : Nat}   {r : Int32} {M' : mS} : ∀ {n : Nat} {x1 : Int32} {x2 : Int32} {x3 : Int32} {x4 : Int32} {M : mS}, Mo_game_79 N n x1 x2 x3 x4 M = some (r, M') → mRunF (mCd 295) (mEE (mMet mP mTx (d + 11)) (some .int) (some (.int r)) M') (79, [some (.ref 64), some (.int x1), some (.int x2), some (.int x3), some (.int x4), none], [], mSS M) := by
  intro n
  induction n with
  | zero => intro x1 x2 x3 x4 M h; cases h
  | succ n ih =>
    replace ih := @ih
    intro x1 x2 x3 x4 M h
    unfold Mo_game_79 at h
    refine mRunF.sg (mSl mk_295 42 4) (g := (84, [some (.ref 64), some (.int x1), some (.int x2), some (.int x3), some (.int x4), none], [.int (x2 - 1), .int x4], mSS M)) (by decide +kernel) rfl ?_
    refine R_ige (t := 131) ⟨47, by decide +kernel⟩ (fun q => ?_) (fun q => ?_)
    · rw [if_pos q] at h
      refine mRunF.sg (mSl mk_295 69 4) (g := (136, [some (.ref 64), some (.int x1), some (.int x2), some (.int x3), some (.int (x2 - 1)), none], [], mSS M)) (by decide +kernel) rfl ?_
      obtain ⟨v18, hv, h⟩ := nxt_ex h
      rw [← hv]
      clear hv
      exact Mo_game_136_r h
    · rw [if_neg q] at h
      refine mRunF.sg (mSl mk_295 47 3) (g := (93, [some (.ref 64), some (.int x1), some (.int x2), some (.int x3), some (.int x4), none], [.int x4, .ref 102], mSS M)) (by decide +kernel) rfl ?_
      obtain ⟨g19, h⟩ := grd_of h
      refine R_iald (by decide +kernel) rfl g19 ?_
      refine mRunF.sg (mSl mk_295 51 1) (g := (96, [some (.ref 64), some (.int x1), some (.int x2), some (.int x3), some (.int x4), some (.int (M.1 102 x4.toNatClampNeg))], [], mSS M)) (by decide +kernel) rfl ?_
      obtain ⟨v20, hv, h⟩ := nxt_ex h
      rw [← hv]
      clear hv
      exact Mo_game_96_r (fun y0 y1 y2 y3 y4 hh => @ih y0 y1 y2 y3 y4 hh) h
set_option maxRecDepth 100000 in
set_option maxHeartbeats 4000000 in
theorem Mo_game_49_r {N d : Nat}   {r : Int32} {M' : mS} : ∀ {n : Nat} {x1 : Int32} {x2 : Int32} {x3 : Int32} {x4 : Int32} {M : mS}, Mo_game_49 N n x1 x2 x3 x4 M = some (r, M') → mRunF (mCd 295) (mEE (mMet mP mTx (d + 11)) (some .int) (some (.int r)) M') (49, [some (.ref 64), some (.int x1), some (.int x2), some (.int x3), some (.int x4), none], [], mSS M) := by
  intro n
  induction n with
  | zero => intro x1 x2 x3 x4 M h; cases h
  | succ n ih =>
    replace ih := @ih
    intro x1 x2 x3 x4 M h
    unfold Mo_game_49 at h
    refine mRunF.sg (mSl mk_295 27 2) (g := (53, [some (.ref 64), some (.int x1), some (.int x2), some (.int x3), some (.int x4), none], [.int 29, .int x4], mSS M)) (by decide +kernel) rfl ?_
    refine R_ige (t := 76) ⟨23, by decide +kernel⟩ (fun q => ?_) (fun q => ?_)
    · rw [if_pos q] at h
      refine mRunF.sg (mSl mk_295 40 2) (g := (79, [some (.ref 64), some (.int x1), some (.int x2), some (.int x3), some (.int 0), none], [], mSS M)) (by decide +kernel) rfl ?_
      exact Mo_game_79_r h
    · rw [if_neg q] at h
      refine mRunF.sg (mSl mk_295 30 6) (g := (68, [some (.ref 64), some (.int x1), some (.int x2), some (.int x3), some (.int x4), none], [.int x4, .ref 96, .int x4, .ref 103], mSS M)) (by decide +kernel) rfl ?_
      obtain ⟨g21, h⟩ := grd_of h
      refine R_iald (by decide +kernel) rfl g21 ?_
      obtain ⟨g22, h⟩ := grd_of h
      refine R_iast (by decide +kernel) rfl g22 ?_
      obtain ⟨M23, hv, h⟩ := nxt_ex h
      rw [← hv]
      clear hv
      refine mRunF.sg (mSl mk_295 38 2) (g := (49, [some (.ref 64), some (.int x1), some (.int x2), some (.int x3), some (.int (x4 + 1)), none], [], mSS M23)) (by decide +kernel) rfl ?_
      exact @ih _ _ _ _ _ h
set_option maxRecDepth 100000 in
set_option maxHeartbeats 4000000 in
theorem Mo_game_r (N : Nat) (a0 : Int32) (a1 : Int32) (a2 : Int32) (M : mS) {r : Int32} {M' : mS} (d : Nat) (h : Mo_game N a0 a1 a2 M = some (r, M')) : mMet mP mTx (d + 12) 295 [.ref 64, .int a0, .int a1, .int a2] (mSS M) (some (.int r)) (mSS M') := by
  refine mMet_i ⟨Nat.le_refl _, Nat.le_refl _, Nat.le_of_ble_eq_true rfl⟩ ?_
  unfold Mo_game at h
  show mRunF (mCd 295) (mEE (mMet mP mTx (d + 11)) (some .int) (some (.int r)) M') (0, [some (.ref 64), some (.int a0), some (.int a1), some (.int a2), none, none], [], mSS M)
  refine mRunF.sg (mSl mk_295 0 2) (g := (2, [some (.ref 64), some (.int a0), some (.int a1), some (.int a2), none, none], [.int a0, .ref 64], mSS M)) (by decide +kernel) rfl ?_
  obtain ⟨r25, q24, h⟩ := bR_of h
  refine R_callV (mi := 212) (na := 2) (ci := 12) (i := 64) (as := [.int a0]) (r := []) (rv := some (.int r25)) (σ1 := mSS M) ⟨394, by decide +kernel⟩ rfl rfl rfl rfl (Mo_isDial_r N a0 M (d + 9) q24) ?_
  have b26 := mBool rfl (Mo_isDial_r N a0 M (d + 9) q24)
  show mRunF _ _ (5, [some (.ref 64), some (.int a0), some (.int a1), some (.int a2), none, none], [.int r25], mSS M)
  refine R_eq (t := 40) ⟨35, by decide +kernel⟩ (fun q => ?_) (fun q => ?_)
  · rw [if_pos q] at h
    refine mRunF.sg (mSl mk_295 21 1) (g := (41, [some (.ref 64), some (.int a0), some (.int a1), some (.int a2), none, none], [.int (-1)], mSS M)) (by decide +kernel) rfl ?_
    cases h
    exact R_iret (by decide +kernel)
  · rw [if_neg q] at h
    refine mRunF.sg (mSl mk_295 4 4) (g := (16, [some (.ref 64), some (.int a0), some (.int a1), some (.int a2), none, none], [.int (M.1 64 18), .ref 78], mSS M)) (by decide +kernel) rfl ?_
    obtain ⟨g27, h⟩ := grd_of h
    refine R_iald (by decide +kernel) rfl g27 ?_
    refine mRunF.sg (mSl mk_295 9 1) (g := (18, [some (.ref 64), some (.int a0), some (.int a1), some (.int a2), none, none], [.int 2, .int (M.1 78 (M.1 64 18).toNatClampNeg)], mSS M)) (by decide +kernel) rfl ?_
    refine R_ilt (t := 40) ⟨22, by decide +kernel⟩ (fun q => ?_) (fun q => ?_)
    · rw [if_pos q] at h
      refine mRunF.sg (mSl mk_295 21 1) (g := (41, [some (.ref 64), some (.int a0), some (.int a1), some (.int a2), none, none], [.int (-1)], mSS M)) (by decide +kernel) rfl ?_
      cases h
      exact R_iret (by decide +kernel)
    · rw [if_neg q] at h
      refine mRunF.sg (mSl mk_295 11 3) (g := (25, [some (.ref 64), some (.int a0), some (.int a1), some (.int a2), none, none], [.int 6, .int 1, .int a1], mSS M)) (by decide +kernel) rfl ?_
      refine R_callS (mi := 206) (na := 3) (as := [.int a1, .int 1, .int 6]) (r := []) (rv := some (.int (Mo_in a1 1 6 M))) (σ1 := mSS M) ⟨316, by decide +kernel⟩ rfl rfl rfl (Mo_in_r a1 1 6 M (d + 10)) ?_
      have b28 := mBool rfl (Mo_in_r a1 1 6 M (d + 10))
      show mRunF _ _ (28, [some (.ref 64), some (.int a0), some (.int a1), some (.int a2), none, none], [.int (Mo_in a1 1 6 M)], mSS M)
      refine R_eq (t := 40) ⟨12, by decide +kernel⟩ (fun q => ?_) (fun q => ?_)
      · rw [if_pos q] at h
        refine mRunF.sg (mSl mk_295 21 1) (g := (41, [some (.ref 64), some (.int a0), some (.int a1), some (.int a2), none, none], [.int (-1)], mSS M)) (by decide +kernel) rfl ?_
        cases h
        exact R_iret (by decide +kernel)
      · rw [if_neg q] at h
        refine mRunF.sg (mSl mk_295 16 3) (g := (34, [some (.ref 64), some (.int a0), some (.int a1), some (.int a2), none, none], [.int 1, .int 0, .int a2], mSS M)) (by decide +kernel) rfl ?_
        refine R_callS (mi := 206) (na := 3) (as := [.int a2, .int 0, .int 1]) (r := []) (rv := some (.int (Mo_in a2 0 1 M))) (σ1 := mSS M) ⟨316, by decide +kernel⟩ rfl rfl rfl (Mo_in_r a2 0 1 M (d + 10)) ?_
        have b29 := mBool rfl (Mo_in_r a2 0 1 M (d + 10))
        show mRunF _ _ (37, [some (.ref 64), some (.int a0), some (.int a1), some (.int a2), none, none], [.int (Mo_in a2 0 1 M)], mSS M)
        refine R_ne (t := 42) ⟨5, by decide +kernel⟩ (fun q => ?_) (fun q => ?_)
        · rw [if_pos q] at h
          refine mRunF.sg (mSl mk_295 21 1) (g := (41, [some (.ref 64), some (.int a0), some (.int a1), some (.int a2), none, none], [.int (-1)], mSS M)) (by decide +kernel) rfl ?_
          cases h
          exact R_iret (by decide +kernel)
        · rw [if_neg q] at h
          refine mRunF.sg (mSl mk_295 23 1) (g := (43, [some (.ref 64), some (.int a0), some (.int a1), some (.int a2), none, none], [.ref 64], mSS M)) (by decide +kernel) rfl ?_
          obtain ⟨M31, q30, h⟩ := bV_of h
          refine R_callV (mi := 219) (na := 1) (ci := 12) (i := 64) (as := []) (r := []) (rv := none) (σ1 := mSS M31) ⟨407, by decide +kernel⟩ rfl rfl rfl rfl (Mo_copiesStill_r N M (d + 9) q30) ?_
          show mRunF _ _ (46, [some (.ref 64), some (.int a0), some (.int a1), some (.int a2), none, none], [], mSS M31)
          refine mRunF.sg (mSl mk_295 25 2) (g := (49, [some (.ref 64), some (.int a0), some (.int a1), some (.int a2), some (.int 0), none], [], mSS M31)) (by decide +kernel) rfl ?_
          exact Mo_game_49_r h
set_option maxRecDepth 100000 in
set_option maxHeartbeats 4000000 in
theorem Mo_metIn_r (N : Nat) (a0 : Int32) (a1 : Int32) (M : mS) {r : Int32} {M' : mS} (d : Nat) (h : Mo_metIn N a0 a1 M = some (r, M')) : mMet mP mTx (d + 10) 296 [.ref 64, .int a0, .int a1] (mSS M) (some (.int r)) (mSS M') := by
  refine mMet_i ⟨Nat.le_refl _, Nat.le_refl _, Nat.le_of_ble_eq_true rfl⟩ ?_
  unfold Mo_metIn at h
  show mRunF (mCd 296) (mEE (mMet mP mTx (d + 9)) (some .int) (some (.int r)) M') (0, [some (.ref 64), some (.int a0), some (.int a1)], [], mSS M)
  refine mRunF.sg (mSl mk_296 0 2) (g := (2, [some (.ref 64), some (.int a0), some (.int a1)], [.int a0, .ref 64], mSS M)) (by decide +kernel) rfl ?_
  obtain ⟨r2, q1, h⟩ := bR_of h
  refine R_callV (mi := 213) (na := 2) (ci := 12) (i := 64) (as := [.int a0]) (r := []) (rv := some (.int r2)) (σ1 := mSS M) ⟨320, by decide +kernel⟩ rfl rfl rfl rfl (Mo_isGoer_r N a0 M (d + 7) q1) ?_
  have b3 := mBool rfl (Mo_isGoer_r N a0 M (d + 7) q1)
  show mRunF _ _ (5, [some (.ref 64), some (.int a0), some (.int a1)], [.int r2], mSS M)
  refine R_eq (t := 15) ⟨10, by decide +kernel⟩ (fun q => ?_) (fun q => ?_)
  · rw [if_pos q] at h
    refine mRunF.sg (mSl mk_296 7 1) (g := (16, [some (.ref 64), some (.int a0), some (.int a1)], [.int (-1)], mSS M)) (by decide +kernel) rfl ?_
    cases h
    exact R_iret (by decide +kernel)
  · rw [if_neg q] at h
    refine mRunF.sg (mSl mk_296 4 1) (g := (9, [some (.ref 64), some (.int a0), some (.int a1)], [.int a1], mSS M)) (by decide +kernel) rfl ?_
    refine R_callS (mi := 250) (na := 1) (as := [.int a1]) (r := []) (rv := some (.int (Mo_isLong a1 M))) (σ1 := mSS M) ⟨419, by decide +kernel⟩ rfl rfl rfl (Mo_isLong_r a1 M (d + 7)) ?_
    have b4 := mBool rfl (Mo_isLong_r a1 M (d + 7))
    show mRunF _ _ (12, [some (.ref 64), some (.int a0), some (.int a1)], [.int (Mo_isLong a1 M)], mSS M)
    refine R_ne (t := 17) ⟨5, by decide +kernel⟩ (fun q => ?_) (fun q => ?_)
    · rw [if_pos q] at h
      refine mRunF.sg (mSl mk_296 7 1) (g := (16, [some (.ref 64), some (.int a0), some (.int a1)], [.int (-1)], mSS M)) (by decide +kernel) rfl ?_
      cases h
      exact R_iret (by decide +kernel)
    · rw [if_neg q] at h
      refine mRunF.sg (mSl mk_296 9 1) (g := (18, [some (.ref 64), some (.int a0), some (.int a1)], [.ref 64], mSS M)) (by decide +kernel) rfl ?_
      obtain ⟨M6, q5, h⟩ := bV_of h
      refine R_callV (mi := 218) (na := 1) (ci := 12) (i := 64) (as := []) (r := []) (rv := none) (σ1 := mSS M6) ⟨329, by decide +kernel⟩ rfl rfl rfl rfl (Mo_copies_r N M (d + 8) q5) ?_
      show mRunF _ _ (21, [some (.ref 64), some (.int a0), some (.int a1)], [], mSS M6)
      refine mRunF.sg (mSl mk_296 11 2) (g := (23, [some (.ref 64), some (.int a0), some (.int a1)], [.int a1, .ref 64], mSS M6)) (by decide +kernel) rfl ?_
      obtain ⟨M8, q7, h⟩ := bV_of h
      refine R_callV (mi := 236) (na := 2) (ci := 12) (i := 64) (as := [.int a1]) (r := []) (rv := none) (σ1 := mSS M8) ⟨422, by decide +kernel⟩ rfl rfl rfl rfl (Mo_goes_r N a1 M6 (d + 0) q7) ?_
      show mRunF _ _ (26, [some (.ref 64), some (.int a0), some (.int a1)], [], mSS M8)
      refine mRunF.sg (mSl mk_296 14 5) (g := (34, [some (.ref 64), some (.int a0), some (.int a1)], [.int (13 + a0), .ref 96], mSS M8)) (by decide +kernel) rfl ?_
      obtain ⟨g9, h⟩ := grd_of h
      refine R_iald (by decide +kernel) rfl g9 ?_
      cases h
      exact R_iret (by decide +kernel)
set_option maxRecDepth 100000 in
set_option maxHeartbeats 4000000 in
theorem Mo_outIn_r (N : Nat) (a0 : Int32) (a1 : Int32) (M : mS) {r : Int32} {M' : mS} (d : Nat) (h : Mo_outIn N a0 a1 M = some (r, M')) : mMet mP mTx (d + 10) 297 [.ref 64, .int a0, .int a1] (mSS M) (some (.int r)) (mSS M') := by
  refine mMet_i ⟨Nat.le_refl _, Nat.le_refl _, Nat.le_of_ble_eq_true rfl⟩ ?_
  unfold Mo_outIn at h
  show mRunF (mCd 297) (mEE (mMet mP mTx (d + 9)) (some .int) (some (.int r)) M') (0, [some (.ref 64), some (.int a0), some (.int a1)], [], mSS M)
  refine mRunF.sg (mSl mk_297 0 2) (g := (2, [some (.ref 64), some (.int a0), some (.int a1)], [.int a0, .ref 64], mSS M)) (by decide +kernel) rfl ?_
  obtain ⟨r2, q1, h⟩ := bR_of h
  refine R_callV (mi := 212) (na := 2) (ci := 12) (i := 64) (as := [.int a0]) (r := []) (rv := some (.int r2)) (σ1 := mSS M) ⟨394, by decide +kernel⟩ rfl rfl rfl rfl (Mo_isDial_r N a0 M (d + 7) q1) ?_
  have b3 := mBool rfl (Mo_isDial_r N a0 M (d + 7) q1)
  show mRunF _ _ (5, [some (.ref 64), some (.int a0), some (.int a1)], [.int r2], mSS M)
  refine R_eq (t := 15) ⟨10, by decide +kernel⟩ (fun q => ?_) (fun q => ?_)
  · rw [if_pos q] at h
    refine mRunF.sg (mSl mk_297 7 1) (g := (16, [some (.ref 64), some (.int a0), some (.int a1)], [.int (-1)], mSS M)) (by decide +kernel) rfl ?_
    cases h
    exact R_iret (by decide +kernel)
  · rw [if_neg q] at h
    refine mRunF.sg (mSl mk_297 4 1) (g := (9, [some (.ref 64), some (.int a0), some (.int a1)], [.int a1], mSS M)) (by decide +kernel) rfl ?_
    refine R_callS (mi := 250) (na := 1) (as := [.int a1]) (r := []) (rv := some (.int (Mo_isLong a1 M))) (σ1 := mSS M) ⟨419, by decide +kernel⟩ rfl rfl rfl (Mo_isLong_r a1 M (d + 7)) ?_
    have b4 := mBool rfl (Mo_isLong_r a1 M (d + 7))
    show mRunF _ _ (12, [some (.ref 64), some (.int a0), some (.int a1)], [.int (Mo_isLong a1 M)], mSS M)
    refine R_ne (t := 17) ⟨5, by decide +kernel⟩ (fun q => ?_) (fun q => ?_)
    · rw [if_pos q] at h
      refine mRunF.sg (mSl mk_297 7 1) (g := (16, [some (.ref 64), some (.int a0), some (.int a1)], [.int (-1)], mSS M)) (by decide +kernel) rfl ?_
      cases h
      exact R_iret (by decide +kernel)
    · rw [if_neg q] at h
      refine mRunF.sg (mSl mk_297 9 1) (g := (18, [some (.ref 64), some (.int a0), some (.int a1)], [.ref 64], mSS M)) (by decide +kernel) rfl ?_
      obtain ⟨M6, q5, h⟩ := bV_of h
      refine R_callV (mi := 218) (na := 1) (ci := 12) (i := 64) (as := []) (r := []) (rv := none) (σ1 := mSS M6) ⟨329, by decide +kernel⟩ rfl rfl rfl rfl (Mo_copies_r N M (d + 8) q5) ?_
      show mRunF _ _ (21, [some (.ref 64), some (.int a0), some (.int a1)], [], mSS M6)
      refine mRunF.sg (mSl mk_297 11 2) (g := (23, [some (.ref 64), some (.int a0), some (.int a1)], [.int a1, .ref 64], mSS M6)) (by decide +kernel) rfl ?_
      obtain ⟨M8, q7, h⟩ := bV_of h
      refine R_callV (mi := 236) (na := 2) (ci := 12) (i := 64) (as := [.int a1]) (r := []) (rv := none) (σ1 := mSS M8) ⟨422, by decide +kernel⟩ rfl rfl rfl rfl (Mo_goes_r N a1 M6 (d + 0) q7) ?_
      show mRunF _ _ (26, [some (.ref 64), some (.int a0), some (.int a1)], [], mSS M8)
      refine mRunF.sg (mSl mk_297 14 3) (g := (31, [some (.ref 64), some (.int a0), some (.int a1)], [.int a0, .ref 96], mSS M8)) (by decide +kernel) rfl ?_
      obtain ⟨g9, h⟩ := grd_of h
      refine R_iald (by decide +kernel) rfl g9 ?_
      cases h
      exact R_iret (by decide +kernel)
set_option maxRecDepth 100000 in
set_option maxHeartbeats 4000000 in
theorem Mo_year_85_r {N d : Nat} {k35 : Int32 → Int32 → Int32 → Int32 → Int32 → Int32 → mS → Option (Int32 × mS)} {M : mS} {x1 : Int32} {x2 : Int32} {x3 : Int32} {x4 : Int32} {x5 : Int32} {x6 : Int32} {r : Int32} {M' : mS} (hk35 : ∀ (x1 : Int32) (x2 : Int32) (x3 : Int32) (x4 : Int32) (x5 : Int32) (x6 : Int32) (M : mS), k35 x1 x2 x3 x4 x5 x6 M = some (r, M') → mRunF (mCd 298) (mEE (mMet mP mTx (d + 9)) (some .int) (some (.int r)) M') (35, [some (.ref 64), some (.int x1), some (.int x2), some (.int x3), some (.int x4), some (.int x5), some (.int x6)], [], mSS M)) (h : Mo_year_85 N k35 x1 x2 x3 x4 x5 x6 M = some (r, M')) : mRunF (mCd 298) (mEE (mMet mP mTx (d + 9)) (some .int) (some (.int r)) M') (85, [some (.ref 64), some (.int x1), some (.int x2), some (.int x3), some (.int x4), some (.int x5), some (.int x6)], [], mSS M) := by
  unfold Mo_year_85 at h
  refine mRunF.sg (mSl mk_298 46 2) (g := (35, [some (.ref 64), some (.int x1), some (.int x2), some (.int x3), some (.int x4), some (.int x5), some (.int (x6 + 1))], [], mSS M)) (by decide +kernel) rfl ?_
  exact hk35 _ _ _ _ _ _ _ h
set_option maxRecDepth 100000 in
set_option maxHeartbeats 4000000 in
theorem Mo_year_35_r {N d : Nat}   {r : Int32} {M' : mS} : ∀ {n : Nat} {x1 : Int32} {x2 : Int32} {x3 : Int32} {x4 : Int32} {x5 : Int32} {x6 : Int32} {M : mS}, Mo_year_35 N n x1 x2 x3 x4 x5 x6 M = some (r, M') → mRunF (mCd 298) (mEE (mMet mP mTx (d + 9)) (some .int) (some (.int r)) M') (35, [some (.ref 64), some (.int x1), some (.int x2), some (.int x3), some (.int x4), some (.int x5), some (.int x6)], [], mSS M) := by
  intro n
  induction n with
  | zero => intro x1 x2 x3 x4 x5 x6 M h; cases h
  | succ n ih =>
    replace ih := @ih
    intro x1 x2 x3 x4 x5 x6 M h
    unfold Mo_year_35 at h
    refine mRunF.sg (mSl mk_298 19 2) (g := (39, [some (.ref 64), some (.int x1), some (.int x2), some (.int x3), some (.int x4), some (.int x5), some (.int x6)], [.int x4, .int x6], mSS M)) (by decide +kernel) rfl ?_
    refine R_ige (t := 91) ⟨52, by decide +kernel⟩ (fun q => ?_) (fun q => ?_)
    · rw [if_pos q] at h
      refine mRunF.sg (mSl mk_298 48 1) (g := (93, [some (.ref 64), some (.int x1), some (.int x2), some (.int x3), some (.int x4), some (.int x5), some (.int x6)], [.int x5], mSS M)) (by decide +kernel) rfl ?_
      cases h
      exact R_iret (by decide +kernel)
    · rw [if_neg q] at h
      refine mRunF.sg (mSl mk_298 22 1) (g := (43, [some (.ref 64), some (.int x1), some (.int x2), some (.int x3), some (.int x4), some (.int x5), some (.int x6)], [.ref 64], mSS M)) (by decide +kernel) rfl ?_
      obtain ⟨M2, q1, h⟩ := bV_of h
      refine R_callV (mi := 218) (na := 1) (ci := 12) (i := 64) (as := []) (r := []) (rv := none) (σ1 := mSS M2) ⟨329, by decide +kernel⟩ rfl rfl rfl rfl (Mo_copies_r N M (d + 8) q1) ?_
      show mRunF _ _ (46, [some (.ref 64), some (.int x1), some (.int x2), some (.int x3), some (.int x4), some (.int x5), some (.int x6)], [], mSS M2)
      refine mRunF.sg (mSl mk_298 24 6) (g := (57, [some (.ref 64), some (.int x1), some (.int x2), some (.int x3), some (.int x4), some (.int x5), some (.int x6)], [], mSS (mWI M2 64 50 ((M2.1 64 50) + x6)))) (by decide +kernel) rfl ?_
      obtain ⟨M3, hv, h⟩ := nxt_ex h
      rw [← hv]
      clear hv
      refine mRunF.sg (mSl mk_298 30 2) (g := (59, [some (.ref 64), some (.int x1), some (.int x2), some (.int x3), some (.int x4), some (.int x5), some (.int x6)], [.int x3, .ref 64], mSS M3)) (by decide +kernel) rfl ?_
      obtain ⟨M5, q4, h⟩ := bV_of h
      refine R_callV (mi := 236) (na := 2) (ci := 12) (i := 64) (as := [.int x3]) (r := []) (rv := none) (σ1 := mSS M5) ⟨422, by decide +kernel⟩ rfl rfl rfl rfl (Mo_goes_r N x3 M3 (d + 0) q4) ?_
      show mRunF _ _ (62, [some (.ref 64), some (.int x1), some (.int x2), some (.int x3), some (.int x4), some (.int x5), some (.int x6)], [], mSS M5)
      refine mRunF.sg (mSl mk_298 33 1) (g := (63, [some (.ref 64), some (.int x1), some (.int x2), some (.int x3), some (.int x4), some (.int x5), some (.int x6)], [.ref 64], mSS M5)) (by decide +kernel) rfl ?_
      obtain ⟨M7, q6, h⟩ := bV_of h
      refine R_callV (mi := 233) (na := 1) (ci := 12) (i := 64) (as := []) (r := []) (rv := none) (σ1 := mSS M7) ⟨379, by decide +kernel⟩ rfl rfl rfl rfl (Mo_fillsThere_r N M5 (d + 2) q6) ?_
      show mRunF _ _ (66, [some (.ref 64), some (.int x1), some (.int x2), some (.int x3), some (.int x4), some (.int x5), some (.int x6)], [], mSS M7)
      refine mRunF.sg (mSl mk_298 35 3) (g := (71, [some (.ref 64), some (.int x1), some (.int x2), some (.int x3), some (.int x4), some (.int x5), some (.int x6)], [.int x1, .ref 97], mSS M7)) (by decide +kernel) rfl ?_
      obtain ⟨g8, h⟩ := grd_of h
      refine R_iald (by decide +kernel) rfl g8 ?_
      refine mRunF.sg (mSl mk_298 39 3) (g := (77, [some (.ref 64), some (.int x1), some (.int x2), some (.int x3), some (.int x4), some (.int x5), some (.int x6)], [.int x2, .ref 97, .int (M7.1 97 x1.toNatClampNeg)], mSS M7)) (by decide +kernel) rfl ?_
      obtain ⟨g9, h⟩ := grd_of h
      refine R_iald (by decide +kernel) rfl g9 ?_
      refine mRunF.sg (mSl mk_298 43 1) (g := (79, [some (.ref 64), some (.int x1), some (.int x2), some (.int x3), some (.int x4), some (.int x5), some (.int x6)], [.int ((M7.1 97 x1.toNatClampNeg) &&& (M7.1 97 x2.toNatClampNeg))], mSS M7)) (by decide +kernel) rfl ?_
      refine R_eq (t := 85) ⟨6, by decide +kernel⟩ (fun q => ?_) (fun q => ?_)
      · rw [if_pos q] at h
        exact Mo_year_85_r (fun y0 y1 y2 y3 y4 y5 y6 hh => @ih y0 y1 y2 y3 y4 y5 y6 hh) h
      · rw [if_neg q] at h
        refine mRunF.sg (mSl mk_298 45 1) (g := (85, [some (.ref 64), some (.int x1), some (.int x2), some (.int x3), some (.int x4), some (.int (x5 + 1)), some (.int x6)], [], mSS M7)) (by decide +kernel) rfl ?_
        exact Mo_year_85_r (fun y0 y1 y2 y3 y4 y5 y6 hh => @ih y0 y1 y2 y3 y4 y5 y6 hh) h
set_option maxRecDepth 100000 in
set_option maxHeartbeats 4000000 in
theorem Mo_year_r (N : Nat) (a0 : Int32) (a1 : Int32) (a2 : Int32) (a3 : Int32) (M : mS) {r : Int32} {M' : mS} (d : Nat) (h : Mo_year N a0 a1 a2 a3 M = some (r, M')) : mMet mP mTx (d + 10) 298 [.ref 64, .int a0, .int a1, .int a2, .int a3] (mSS M) (some (.int r)) (mSS M') := by
  refine mMet_i ⟨Nat.le_refl _, Nat.le_refl _, Nat.le_of_ble_eq_true rfl⟩ ?_
  unfold Mo_year at h
  show mRunF (mCd 298) (mEE (mMet mP mTx (d + 9)) (some .int) (some (.int r)) M') (0, [some (.ref 64), some (.int a0), some (.int a1), some (.int a2), some (.int a3), none, none], [], mSS M)
  refine mRunF.sg (mSl mk_298 0 3) (g := (3, [some (.ref 64), some (.int a0), some (.int a1), some (.int a2), some (.int a3), none, none], [.int a1, .int a0, .ref 64], mSS M)) (by decide +kernel) rfl ?_
  obtain ⟨r11, q10, h⟩ := bR_of h
  refine R_callV (mi := 214) (na := 3) (ci := 12) (i := 64) (as := [.int a0, .int a1]) (r := []) (rv := some (.int r11)) (σ1 := mSS M) ⟨403, by decide +kernel⟩ rfl rfl rfl rfl (Mo_areTwo_r N a0 a1 M (d + 6) q10) ?_
  have b12 := mBool rfl (Mo_areTwo_r N a0 a1 M (d + 6) q10)
  show mRunF _ _ (6, [some (.ref 64), some (.int a0), some (.int a1), some (.int a2), some (.int a3), none, none], [.int r11], mSS M)
  refine R_eq (t := 27) ⟨21, by decide +kernel⟩ (fun q => ?_) (fun q => ?_)
  · rw [if_pos q] at h
    refine mRunF.sg (mSl mk_298 13 1) (g := (28, [some (.ref 64), some (.int a0), some (.int a1), some (.int a2), some (.int a3), none, none], [.int (-1)], mSS M)) (by decide +kernel) rfl ?_
    cases h
    exact R_iret (by decide +kernel)
  · rw [if_neg q] at h
    refine mRunF.sg (mSl mk_298 5 1) (g := (10, [some (.ref 64), some (.int a0), some (.int a1), some (.int a2), some (.int a3), none, none], [.int a2], mSS M)) (by decide +kernel) rfl ?_
    refine R_callS (mi := 250) (na := 1) (as := [.int a2]) (r := []) (rv := some (.int (Mo_isLong a2 M))) (σ1 := mSS M) ⟨419, by decide +kernel⟩ rfl rfl rfl (Mo_isLong_r a2 M (d + 7)) ?_
    have b13 := mBool rfl (Mo_isLong_r a2 M (d + 7))
    show mRunF _ _ (13, [some (.ref 64), some (.int a0), some (.int a1), some (.int a2), some (.int a3), none, none], [.int (Mo_isLong a2 M)], mSS M)
    refine R_eq (t := 27) ⟨14, by decide +kernel⟩ (fun q => ?_) (fun q => ?_)
    · rw [if_pos q] at h
      refine mRunF.sg (mSl mk_298 13 1) (g := (28, [some (.ref 64), some (.int a0), some (.int a1), some (.int a2), some (.int a3), none, none], [.int (-1)], mSS M)) (by decide +kernel) rfl ?_
      cases h
      exact R_iret (by decide +kernel)
    · rw [if_neg q] at h
      refine mRunF.sg (mSl mk_298 8 3) (g := (21, [some (.ref 64), some (.int a0), some (.int a1), some (.int a2), some (.int a3), none, none], [.int 20, .int 1, .int a3], mSS M)) (by decide +kernel) rfl ?_
      refine R_callS (mi := 206) (na := 3) (as := [.int a3, .int 1, .int 20]) (r := []) (rv := some (.int (Mo_in a3 1 20 M))) (σ1 := mSS M) ⟨316, by decide +kernel⟩ rfl rfl rfl (Mo_in_r a3 1 20 M (d + 8)) ?_
      have b14 := mBool rfl (Mo_in_r a3 1 20 M (d + 8))
      show mRunF _ _ (24, [some (.ref 64), some (.int a0), some (.int a1), some (.int a2), some (.int a3), none, none], [.int (Mo_in a3 1 20 M)], mSS M)
      refine R_ne (t := 29) ⟨5, by decide +kernel⟩ (fun q => ?_) (fun q => ?_)
      · rw [if_pos q] at h
        refine mRunF.sg (mSl mk_298 13 1) (g := (28, [some (.ref 64), some (.int a0), some (.int a1), some (.int a2), some (.int a3), none, none], [.int (-1)], mSS M)) (by decide +kernel) rfl ?_
        cases h
        exact R_iret (by decide +kernel)
      · rw [if_neg q] at h
        refine mRunF.sg (mSl mk_298 15 4) (g := (35, [some (.ref 64), some (.int a0), some (.int a1), some (.int a2), some (.int a3), some (.int 0), some (.int 0)], [], mSS M)) (by decide +kernel) rfl ?_
        exact Mo_year_35_r h
set_option maxRecDepth 100000 in
set_option maxHeartbeats 4000000 in
theorem Mo_tell_r (N : Nat) (a0 : Int32) (a1 : Int32) (a2 : Int32) (M : mS) {r : Int32} {M' : mS} (d : Nat) (h : Mo_tell N a0 a1 a2 M = some (r, M')) : mMet mP mTx (d + 3) 299 [.ref 64, .int a0, .int a1, .int a2] (mSS M) (some (.int r)) (mSS M') := by
  refine mMet_i ⟨Nat.le_refl _, Nat.le_refl _, Nat.le_of_ble_eq_true rfl⟩ ?_
  unfold Mo_tell at h
  show mRunF (mCd 299) (mEE (mMet mP mTx (d + 2)) (some .int) (some (.int r)) M') (0, [some (.ref 64), some (.int a0), some (.int a1), some (.int a2)], [], mSS M)
  refine mRunF.sg (mSl mk_299 0 3) (g := (6, [some (.ref 64), some (.int a0), some (.int a1), some (.int a2)], [.int 20, .int (M.1 64 62)], mSS M)) (by decide +kernel) rfl ?_
  refine R_ieq (t := 27) ⟨21, by decide +kernel⟩ (fun q => ?_) (fun q => ?_)
  · rw [if_pos q] at h
    refine mRunF.sg (mSl mk_299 13 1) (g := (28, [some (.ref 64), some (.int a0), some (.int a1), some (.int a2)], [.int (-1)], mSS M)) (by decide +kernel) rfl ?_
    cases h
    exact R_iret (by decide +kernel)
  · rw [if_neg q] at h
    refine mRunF.sg (mSl mk_299 4 3) (g := (13, [some (.ref 64), some (.int a0), some (.int a1), some (.int a2)], [.int 30, .int 0, .int a0], mSS M)) (by decide +kernel) rfl ?_
    refine R_callS (mi := 206) (na := 3) (as := [.int a0, .int 0, .int 30]) (r := []) (rv := some (.int (Mo_in a0 0 30 M))) (σ1 := mSS M) ⟨316, by decide +kernel⟩ rfl rfl rfl (Mo_in_r a0 0 30 M (d + 1)) ?_
    have b1 := mBool rfl (Mo_in_r a0 0 30 M (d + 1))
    show mRunF _ _ (16, [some (.ref 64), some (.int a0), some (.int a1), some (.int a2)], [.int (Mo_in a0 0 30 M)], mSS M)
    refine R_eq (t := 27) ⟨11, by decide +kernel⟩ (fun q => ?_) (fun q => ?_)
    · rw [if_pos q] at h
      refine mRunF.sg (mSl mk_299 13 1) (g := (28, [some (.ref 64), some (.int a0), some (.int a1), some (.int a2)], [.int (-1)], mSS M)) (by decide +kernel) rfl ?_
      cases h
      exact R_iret (by decide +kernel)
    · rw [if_neg q] at h
      refine mRunF.sg (mSl mk_299 9 2) (g := (21, [some (.ref 64), some (.int a0), some (.int a1), some (.int a2)], [.int a1, .ref 64], mSS M)) (by decide +kernel) rfl ?_
      obtain ⟨r3, q2, h⟩ := bR_of h
      refine R_callV (mi := 211) (na := 2) (ci := 12) (i := 64) (as := [.int a1]) (r := []) (rv := some (.int r3)) (σ1 := mSS M) ⟨397, by decide +kernel⟩ rfl rfl rfl rfl (Mo_isHour_r N a1 M (d + 0) q2) ?_
      have b4 := mBool rfl (Mo_isHour_r N a1 M (d + 0) q2)
      show mRunF _ _ (24, [some (.ref 64), some (.int a0), some (.int a1), some (.int a2)], [.int r3], mSS M)
      refine R_ne (t := 29) ⟨5, by decide +kernel⟩ (fun q => ?_) (fun q => ?_)
      · rw [if_pos q] at h
        refine mRunF.sg (mSl mk_299 13 1) (g := (28, [some (.ref 64), some (.int a0), some (.int a1), some (.int a2)], [.int (-1)], mSS M)) (by decide +kernel) rfl ?_
        cases h
        exact R_iret (by decide +kernel)
      · rw [if_neg q] at h
        refine mRunF.sg (mSl mk_299 15 5) (g := (38, [some (.ref 64), some (.int a0), some (.int a1), some (.int a2)], [.int a0, .int (M.1 64 62), .ref 105], mSS M)) (by decide +kernel) rfl ?_
        obtain ⟨g5, h⟩ := grd_of h
        refine R_iast (by decide +kernel) rfl g5 ?_
        obtain ⟨M6, hv, h⟩ := nxt_ex h
        rw [← hv]
        clear hv
        refine mRunF.sg (mSl mk_299 21 5) (g := (48, [some (.ref 64), some (.int a0), some (.int a1), some (.int a2)], [.int a1, .int (M6.1 64 62), .ref 106], mSS M6)) (by decide +kernel) rfl ?_
        obtain ⟨g7, h⟩ := grd_of h
        refine R_iast (by decide +kernel) rfl g7 ?_
        obtain ⟨M8, hv, h⟩ := nxt_ex h
        rw [← hv]
        clear hv
        refine mRunF.sg (mSl mk_299 27 5) (g := (58, [some (.ref 64), some (.int a0), some (.int a1), some (.int a2)], [.int a2, .int (M8.1 64 62), .ref 107], mSS M8)) (by decide +kernel) rfl ?_
        obtain ⟨g9, h⟩ := grd_of h
        refine R_zast (by decide +kernel) rfl g9 ?_
        obtain ⟨M10, hv, h⟩ := nxt_ex h
        rw [← hv]
        clear hv
        refine mRunF.sg (mSl mk_299 33 6) (g := (69, [some (.ref 64), some (.int a0), some (.int a1), some (.int a2)], [], mSS (mWI M10 64 62 ((M10.1 64 62) + 1)))) (by decide +kernel) rfl ?_
        obtain ⟨M11, hv, h⟩ := nxt_ex h
        rw [← hv]
        clear hv
        refine mRunF.sg (mSl mk_299 39 4) (g := (75, [some (.ref 64), some (.int a0), some (.int a1), some (.int a2)], [.int ((M11.1 64 62) - 1)], mSS M11)) (by decide +kernel) rfl ?_
        cases h
        exact R_iret (by decide +kernel)
set_option maxRecDepth 100000 in
set_option maxHeartbeats 4000000 in
theorem Mo_forget_r (N : Nat)  (M : mS) {r : Int32} {M' : mS} (d : Nat) (h : Mo_forget N M = some (r, M')) : mMet mP mTx (d + 1) 300 [.ref 64] (mSS M) (some (.int r)) (mSS M') := by
  refine mMet_i ⟨Nat.le_refl _, Nat.le_refl _, Nat.le_of_ble_eq_true rfl⟩ ?_
  unfold Mo_forget at h
  show mRunF (mCd 300) (mEE (mMet mP mTx (d + 0)) (some .int) (some (.int r)) M') (0, [some (.ref 64), none], [], mSS M)
  refine mRunF.sg (mSl mk_300 0 3) (g := (5, [some (.ref 64), some (.int (M.1 64 62))], [], mSS M)) (by decide +kernel) rfl ?_
  obtain ⟨v1, hv, h⟩ := nxt_ex h
  rw [← hv]
  clear hv
  refine mRunF.sg (mSl mk_300 3 3) (g := (10, [some (.ref 64), some (.int v1)], [], mSS (mWI M 64 62 0))) (by decide +kernel) rfl ?_
  obtain ⟨M2, hv, h⟩ := nxt_ex h
  rw [← hv]
  clear hv
  refine mRunF.sg (mSl mk_300 6 1) (g := (11, [some (.ref 64), some (.int v1)], [.int v1], mSS M2)) (by decide +kernel) rfl ?_
  cases h
  exact R_iret (by decide +kernel)
set_option maxRecDepth 100000 in
set_option maxHeartbeats 4000000 in
theorem Mo_fitBits_142_r {N d : Nat} {k5 : Int32 → Int32 → Int32 → Int32 → mS → Option (Int32 × mS)} {k86 : Int32 → Int32 → Int32 → Int32 → Int32 → Int32 → mS → Option (Int32 × mS)} {M : mS} {x1 : Int32} {x2 : Int32} {x3 : Int32} {x4 : Int32} {x5 : Int32} {x6 : Int32} {r : Int32} {M' : mS} (hk5 : ∀ (x1 : Int32) (x2 : Int32) (x3 : Int32) (x4 : Int32) (M : mS), k5 x1 x2 x3 x4 M = some (r, M') → mRunF (mCd 301) (mEE (mMet mP mTx (d + 9)) (some .int) (some (.int r)) M') (5, [some (.ref 64), some (.int x1), some (.int x2), some (.int x3), some (.int x4), none, none], [], mSS M)) (hk86 : ∀ (x1 : Int32) (x2 : Int32) (x3 : Int32) (x4 : Int32) (x5 : Int32) (x6 : Int32) (M : mS), k86 x1 x2 x3 x4 x5 x6 M = some (r, M') → mRunF (mCd 301) (mEE (mMet mP mTx (d + 9)) (some .int) (some (.int r)) M') (86, [some (.ref 64), some (.int x1), some (.int x2), some (.int x3), some (.int x4), some (.int x5), some (.int x6)], [], mSS M)) (h : Mo_fitBits_142 N k5 k86 x1 x2 x3 x4 x5 x6 M = some (r, M')) : mRunF (mCd 301) (mEE (mMet mP mTx (d + 9)) (some .int) (some (.int r)) M') (142, [some (.ref 64), some (.int x1), some (.int x2), some (.int x3), some (.int x4), some (.int x5), some (.int x6)], [], mSS M) := by
  unfold Mo_fitBits_142 at h
  refine mRunF.sg (mSl mk_301 83 2) (g := (86, [some (.ref 64), some (.int x1), some (.int x2), some (.int x3), some (.int x4), some (.int x5), some (.int (x6 + 1))], [], mSS M)) (by decide +kernel) rfl ?_
  exact hk86 _ _ _ _ _ _ _ h
set_option maxRecDepth 100000 in
set_option maxHeartbeats 4000000 in
theorem Mo_fitBits_129_r {N d : Nat} {k5 : Int32 → Int32 → Int32 → Int32 → mS → Option (Int32 × mS)} {k86 : Int32 → Int32 → Int32 → Int32 → Int32 → Int32 → mS → Option (Int32 × mS)} {M : mS} {x1 : Int32} {x2 : Int32} {x3 : Int32} {x4 : Int32} {x5 : Int32} {x6 : Int32} {z0 : Int32} {r : Int32} {M' : mS} (hk5 : ∀ (x1 : Int32) (x2 : Int32) (x3 : Int32) (x4 : Int32) (M : mS), k5 x1 x2 x3 x4 M = some (r, M') → mRunF (mCd 301) (mEE (mMet mP mTx (d + 9)) (some .int) (some (.int r)) M') (5, [some (.ref 64), some (.int x1), some (.int x2), some (.int x3), some (.int x4), none, none], [], mSS M)) (hk86 : ∀ (x1 : Int32) (x2 : Int32) (x3 : Int32) (x4 : Int32) (x5 : Int32) (x6 : Int32) (M : mS), k86 x1 x2 x3 x4 x5 x6 M = some (r, M') → mRunF (mCd 301) (mEE (mMet mP mTx (d + 9)) (some .int) (some (.int r)) M') (86, [some (.ref 64), some (.int x1), some (.int x2), some (.int x3), some (.int x4), some (.int x5), some (.int x6)], [], mSS M)) (h : Mo_fitBits_129 N k5 k86 x1 x2 x3 x4 x5 x6 z0 M = some (r, M')) : mRunF (mCd 301) (mEE (mMet mP mTx (d + 9)) (some .int) (some (.int r)) M') (129, [some (.ref 64), some (.int x1), some (.int x2), some (.int x3), some (.int x4), some (.int x5), some (.int x6)], [.int z0], mSS M) := by
  unfold Mo_fitBits_129 at h
  refine mRunF.sg (mSl mk_301 76 3) (g := (135, [some (.ref 64), some (.int x1), some (.int x2), some (.int x3), some (.int x4), some (.int x5), some (.int x6)], [.int x6, .ref 107, .int z0], mSS M)) (by decide +kernel) rfl ?_
  obtain ⟨g1, h⟩ := grd_of h
  refine R_bald (by decide +kernel) rfl g1 ?_
  refine R_ieq (t := 142) ⟨6, by decide +kernel⟩ (fun q => ?_) (fun q => ?_)
  · rw [if_pos q] at h
    exact Mo_fitBits_142_r hk5 hk86 h
  · rw [if_neg q] at h
    refine mRunF.sg (mSl mk_301 81 2) (g := (142, [some (.ref 64), some (.int x1), some (.int x2), some (.int x3), some (.int x4), some (.int 0), some (.int x6)], [], mSS M)) (by decide +kernel) rfl ?_
    exact Mo_fitBits_142_r hk5 hk86 h
set_option maxRecDepth 100000 in
set_option maxHeartbeats 4000000 in
theorem Mo_fitBits_160_r {N d : Nat} {k5 : Int32 → Int32 → Int32 → Int32 → mS → Option (Int32 × mS)} {M : mS} {x1 : Int32} {x2 : Int32} {x3 : Int32} {x4 : Int32} {r : Int32} {M' : mS} (hk5 : ∀ (x1 : Int32) (x2 : Int32) (x3 : Int32) (x4 : Int32) (M : mS), k5 x1 x2 x3 x4 M = some (r, M') → mRunF (mCd 301) (mEE (mMet mP mTx (d + 9)) (some .int) (some (.int r)) M') (5, [some (.ref 64), some (.int x1), some (.int x2), some (.int x3), some (.int x4), none, none], [], mSS M)) (h : Mo_fitBits_160 N k5 x1 x2 x3 x4 M = some (r, M')) : mRunF (mCd 301) (mEE (mMet mP mTx (d + 9)) (some .int) (some (.int r)) M') (160, [some (.ref 64), some (.int x1), some (.int x2), some (.int x3), some (.int x4), none, none], [], mSS M) := by
  unfold Mo_fitBits_160 at h
  refine mRunF.sg (mSl mk_301 93 2) (g := (5, [some (.ref 64), some (.int x1), some (.int x2), some (.int x3), some (.int (x4 + 1)), none, none], [], mSS M)) (by decide +kernel) rfl ?_
  exact hk5 _ _ _ _ _ h
set_option maxRecDepth 100000 in
set_option maxHeartbeats 4000000 in
theorem Mo_fitBits_86_r {N d : Nat} {k5 : Int32 → Int32 → Int32 → Int32 → mS → Option (Int32 × mS)}  {r : Int32} {M' : mS} (hk5 : ∀ (x1 : Int32) (x2 : Int32) (x3 : Int32) (x4 : Int32) (M : mS), k5 x1 x2 x3 x4 M = some (r, M') → mRunF (mCd 301) (mEE (mMet mP mTx (d + 9)) (some .int) (some (.int r)) M') (5, [some (.ref 64), some (.int x1), some (.int x2), some (.int x3), some (.int x4), none, none], [], mSS M)) : ∀ {n : Nat} {x1 : Int32} {x2 : Int32} {x3 : Int32} {x4 : Int32} {x5 : Int32} {x6 : Int32} {M : mS}, Mo_fitBits_86 N k5 n x1 x2 x3 x4 x5 x6 M = some (r, M') → mRunF (mCd 301) (mEE (mMet mP mTx (d + 9)) (some .int) (some (.int r)) M') (86, [some (.ref 64), some (.int x1), some (.int x2), some (.int x3), some (.int x4), some (.int x5), some (.int x6)], [], mSS M) := by
  intro n
  induction n with
  | zero => intro x1 x2 x3 x4 x5 x6 M h; cases h
  | succ n ih =>
    replace ih := @ih
    intro x1 x2 x3 x4 x5 x6 M h
    unfold Mo_fitBits_86 at h
    refine mRunF.sg (mSl mk_301 50 2) (g := (89, [some (.ref 64), some (.int x1), some (.int x2), some (.int x3), some (.int x4), some (.int x5), some (.int x6)], [.int x1, .int x6], mSS M)) (by decide +kernel) rfl ?_
    refine R_ige (t := 148) ⟨59, by decide +kernel⟩ (fun q => ?_) (fun q => ?_)
    · rw [if_pos q] at h
      refine mRunF.sg (mSl mk_301 85 1) (g := (150, [some (.ref 64), some (.int x1), some (.int x2), some (.int x3), some (.int x4), some (.int x5), some (.int x6)], [.int x5], mSS M)) (by decide +kernel) rfl ?_
      refine R_eq (t := 160) ⟨10, by decide +kernel⟩ (fun q => ?_) (fun q => ?_)
      · rw [if_pos q] at h
        refine mRunF.forget [true, true, true, true, true, false, false] ?_
        exact Mo_fitBits_160_r hk5 h
      · rw [if_neg q] at h
        refine mRunF.sg (mSl mk_301 87 6) (g := (160, [some (.ref 64), some (.int x1), some (.int x2), some (.int (x3 ||| ((1 : Int32) <<< (x4 &&& 31)))), some (.int x4), some (.int x5), some (.int x6)], [], mSS M)) (by decide +kernel) rfl ?_
        obtain ⟨v2, hv, h⟩ := nxt_ex h
        rw [← hv]
        clear hv
        refine mRunF.forget [true, true, true, true, true, false, false] ?_
        exact Mo_fitBits_160_r hk5 h
    · rw [if_neg q] at h
      refine mRunF.sg (mSl mk_301 53 8) (g := (107, [some (.ref 64), some (.int x1), some (.int x2), some (.int x3), some (.int x4), some (.int x5), some (.int x6)], [.int x6, .ref 105, .int (31 * x4), .ref 108], mSS M)) (by decide +kernel) rfl ?_
      obtain ⟨g3, h⟩ := grd_of h
      refine R_iald (by decide +kernel) rfl g3 ?_
      refine mRunF.sg (mSl mk_301 62 1) (g := (109, [some (.ref 64), some (.int x1), some (.int x2), some (.int x3), some (.int x4), some (.int x5), some (.int x6)], [.int ((31 * x4) + (M.1 105 x6.toNatClampNeg)), .ref 108], mSS M)) (by decide +kernel) rfl ?_
      obtain ⟨g4, h⟩ := grd_of h
      refine R_iald (by decide +kernel) rfl g4 ?_
      refine mRunF.sg (mSl mk_301 64 3) (g := (116, [some (.ref 64), some (.int x1), some (.int x2), some (.int x3), some (.int x4), some (.int x5), some (.int x6)], [.int x6, .ref 106, .int (M.1 108 ((31 * x4) + (M.1 105 x6.toNatClampNeg)).toNatClampNeg)], mSS M)) (by decide +kernel) rfl ?_
      obtain ⟨g5, h⟩ := grd_of h
      refine R_iald (by decide +kernel) rfl g5 ?_
      refine mRunF.sg (mSl mk_301 68 4) (g := (121, [some (.ref 64), some (.int x1), some (.int x2), some (.int x3), some (.int x4), some (.int x5), some (.int x6)], [.int 1, .int (((M.1 108 ((31 * x4) + (M.1 105 x6.toNatClampNeg)).toNatClampNeg) >>> ((M.1 106 x6.toNatClampNeg) &&& 31)) &&& 1)], mSS M)) (by decide +kernel) rfl ?_
      refine R_ine (t := 128) ⟨7, by decide +kernel⟩ (fun q => ?_) (fun q => ?_)
      · rw [if_pos q] at h
        refine mRunF.sg (mSl mk_301 73 2) (g := (129, [some (.ref 64), some (.int x1), some (.int x2), some (.int x3), some (.int x4), some (.int x5), some (.int x6)], [.int 1], mSS M)) (by decide +kernel) rfl ?_
        exact Mo_fitBits_129_r hk5 (fun y0 y1 y2 y3 y4 y5 y6 hh => @ih y0 y1 y2 y3 y4 y5 y6 hh) h
      · rw [if_neg q] at h
        refine mRunF.sg (mSl mk_301 75 1) (g := (129, [some (.ref 64), some (.int x1), some (.int x2), some (.int x3), some (.int x4), some (.int x5), some (.int x6)], [.int 0], mSS M)) (by decide +kernel) rfl ?_
        exact Mo_fitBits_129_r hk5 (fun y0 y1 y2 y3 y4 y5 y6 hh => @ih y0 y1 y2 y3 y4 y5 y6 hh) h
set_option maxRecDepth 100000 in
set_option maxHeartbeats 4000000 in
theorem Mo_fitBits_43_r {N d : Nat} {k5 : Int32 → Int32 → Int32 → Int32 → mS → Option (Int32 × mS)}  {r : Int32} {M' : mS} (hk5 : ∀ (x1 : Int32) (x2 : Int32) (x3 : Int32) (x4 : Int32) (M : mS), k5 x1 x2 x3 x4 M = some (r, M') → mRunF (mCd 301) (mEE (mMet mP mTx (d + 9)) (some .int) (some (.int r)) M') (5, [some (.ref 64), some (.int x1), some (.int x2), some (.int x3), some (.int x4), none, none], [], mSS M)) : ∀ {n : Nat} {x1 : Int32} {x2 : Int32} {x3 : Int32} {x4 : Int32} {x5 : Int32} {M : mS}, Mo_fitBits_43 N k5 n x1 x2 x3 x4 x5 M = some (r, M') → mRunF (mCd 301) (mEE (mMet mP mTx (d + 9)) (some .int) (some (.int r)) M') (43, [some (.ref 64), some (.int x1), some (.int x2), some (.int x3), some (.int x4), some (.int x5), none], [], mSS M) := by
  intro n
  induction n with
  | zero => intro x1 x2 x3 x4 x5 M h; cases h
  | succ n ih =>
    replace ih := @ih
    intro x1 x2 x3 x4 x5 M h
    unfold Mo_fitBits_43 at h
    refine mRunF.sg (mSl mk_301 25 2) (g := (47, [some (.ref 64), some (.int x1), some (.int x2), some (.int x3), some (.int x4), some (.int x5), none], [.int 30, .int x5], mSS M)) (by decide +kernel) rfl ?_
    refine R_igt (t := 80) ⟨33, by decide +kernel⟩ (fun q => ?_) (fun q => ?_)
    · rw [if_pos q] at h
      refine mRunF.sg (mSl mk_301 46 4) (g := (86, [some (.ref 64), some (.int x1), some (.int x2), some (.int x3), some (.int x4), some (.int 1), some (.int 0)], [], mSS M)) (by decide +kernel) rfl ?_
      exact Mo_fitBits_86_r hk5 h
    · rw [if_neg q] at h
      refine mRunF.sg (mSl mk_301 28 14) (g := (72, [some (.ref 64), some (.int x1), some (.int x2), some (.int x3), some (.int x4), some (.int x5), none], [.int ((5 * x5) + x2), .ref 99, .int ((31 * x4) + x5), .ref 108], mSS M)) (by decide +kernel) rfl ?_
      obtain ⟨g6, h⟩ := grd_of h
      refine R_iald (by decide +kernel) rfl g6 ?_
      obtain ⟨g7, h⟩ := grd_of h
      refine R_iast (by decide +kernel) rfl g7 ?_
      obtain ⟨M8, hv, h⟩ := nxt_ex h
      rw [← hv]
      clear hv
      refine mRunF.sg (mSl mk_301 44 2) (g := (43, [some (.ref 64), some (.int x1), some (.int x2), some (.int x3), some (.int x4), some (.int (x5 + 1)), none], [], mSS M8)) (by decide +kernel) rfl ?_
      exact @ih _ _ _ _ _ _ h
set_option maxRecDepth 100000 in
set_option maxHeartbeats 4000000 in
theorem Mo_fitBits_5_r {N d : Nat}   {r : Int32} {M' : mS} : ∀ {n : Nat} {x1 : Int32} {x2 : Int32} {x3 : Int32} {x4 : Int32} {M : mS}, Mo_fitBits_5 N n x1 x2 x3 x4 M = some (r, M') → mRunF (mCd 301) (mEE (mMet mP mTx (d + 9)) (some .int) (some (.int r)) M') (5, [some (.ref 64), some (.int x1), some (.int x2), some (.int x3), some (.int x4), none, none], [], mSS M) := by
  intro n
  induction n with
  | zero => intro x1 x2 x3 x4 M h; cases h
  | succ n ih =>
    replace ih := @ih
    intro x1 x2 x3 x4 M h
    unfold Mo_fitBits_5 at h
    refine mRunF.sg (mSl mk_301 4 5) (g := (15, [some (.ref 64), some (.int x1), some (.int x2), some (.int x3), some (.int x4), none, none], [.int (M.1 64 18), .ref 75, .int x4], mSS M)) (by decide +kernel) rfl ?_
    obtain ⟨g9, h⟩ := grd_of h
    refine R_iald (by decide +kernel) rfl g9 ?_
    refine R_ige (t := 166) ⟨150, by decide +kernel⟩ (fun q => ?_) (fun q => ?_)
    · rw [if_pos q] at h
      refine mRunF.sg (mSl mk_301 95 1) (g := (167, [some (.ref 64), some (.int x1), some (.int x2), some (.int x3), some (.int x4), none, none], [.int x3], mSS M)) (by decide +kernel) rfl ?_
      cases h
      exact R_iret (by decide +kernel)
    · rw [if_neg q] at h
      refine mRunF.sg (mSl mk_301 11 1) (g := (20, [some (.ref 64), some (.int x1), some (.int x2), some (.int x3), some (.int x4), none, none], [.ref 64], mSS M)) (by decide +kernel) rfl ?_
      obtain ⟨M11, q10, h⟩ := bV_of h
      refine R_callV (mi := 219) (na := 1) (ci := 12) (i := 64) (as := []) (r := []) (rv := none) (σ1 := mSS M11) ⟨407, by decide +kernel⟩ rfl rfl rfl rfl (Mo_copiesStill_r N M (d + 7) q10) ?_
      show mRunF _ _ (23, [some (.ref 64), some (.int x1), some (.int x2), some (.int x3), some (.int x4), none, none], [], mSS M11)
      refine mRunF.sg (mSl mk_301 13 6) (g := (33, [some (.ref 64), some (.int x1), some (.int x2), some (.int x3), some (.int x4), none, none], [.int x4, .int (8 + x2), .ref 96], mSS M11)) (by decide +kernel) rfl ?_
      obtain ⟨g12, h⟩ := grd_of h
      refine R_iast (by decide +kernel) rfl g12 ?_
      obtain ⟨M13, hv, h⟩ := nxt_ex h
      rw [← hv]
      clear hv
      refine mRunF.sg (mSl mk_301 20 2) (g := (37, [some (.ref 64), some (.int x1), some (.int x2), some (.int x3), some (.int x4), none, none], [.int 30, .ref 64], mSS M13)) (by decide +kernel) rfl ?_
      obtain ⟨M15, q14, h⟩ := bV_of h
      refine R_callV (mi := 254) (na := 2) (ci := 12) (i := 64) (as := [.int 30]) (r := []) (rv := none) (σ1 := mSS M15) ⟨425, by decide +kernel⟩ rfl rfl rfl rfl (Mo_fillsNights_r N 30 M13 (d + 0) q14) ?_
      show mRunF _ _ (40, [some (.ref 64), some (.int x1), some (.int x2), some (.int x3), some (.int x4), none, none], [], mSS M15)
      refine mRunF.sg (mSl mk_301 23 2) (g := (43, [some (.ref 64), some (.int x1), some (.int x2), some (.int x3), some (.int x4), some (.int 0), none], [], mSS M15)) (by decide +kernel) rfl ?_
      exact Mo_fitBits_43_r (fun y0 y1 y2 y3 y4 hh => @ih y0 y1 y2 y3 y4 hh) h
set_option maxRecDepth 100000 in
set_option maxHeartbeats 4000000 in
theorem Mo_fitBits_r (N : Nat) (a0 : Int32) (a1 : Int32) (M : mS) {r : Int32} {M' : mS} (d : Nat) (h : Mo_fitBits N a0 a1 M = some (r, M')) : mMet mP mTx (d + 10) 301 [.ref 64, .int a0, .int a1] (mSS M) (some (.int r)) (mSS M') := by
  refine mMet_i ⟨Nat.le_refl _, Nat.le_refl _, Nat.le_of_ble_eq_true rfl⟩ ?_
  unfold Mo_fitBits at h
  show mRunF (mCd 301) (mEE (mMet mP mTx (d + 9)) (some .int) (some (.int r)) M') (0, [some (.ref 64), some (.int a0), some (.int a1), none, none, none, none], [], mSS M)
  refine mRunF.sg (mSl mk_301 0 4) (g := (5, [some (.ref 64), some (.int a0), some (.int a1), some (.int 0), some (.int 0), none, none], [], mSS M)) (by decide +kernel) rfl ?_
  exact Mo_fitBits_5_r h
set_option maxRecDepth 100000 in
set_option maxHeartbeats 4000000 in
theorem Mo_fits_r (N : Nat) (a0 : Int32) (a1 : Int32) (a2 : Int32) (M : mS) {r : Int32} {M' : mS} (d : Nat) (h : Mo_fits N a0 a1 a2 M = some (r, M')) : mMet mP mTx (d + 11) 302 [.ref 64, .int a0, .int a1, .int a2] (mSS M) (some (.int r)) (mSS M') := by
  refine mMet_i ⟨Nat.le_refl _, Nat.le_refl _, Nat.le_of_ble_eq_true rfl⟩ ?_
  unfold Mo_fits at h
  show mRunF (mCd 302) (mEE (mMet mP mTx (d + 10)) (some .int) (some (.int r)) M') (0, [some (.ref 64), some (.int a0), some (.int a1), some (.int a2), none], [], mSS M)
  refine mRunF.sg (mSl mk_302 0 4) (g := (6, [some (.ref 64), some (.int a0), some (.int a1), some (.int a2), none], [.int (M.1 64 62), .int 0, .int a0], mSS M)) (by decide +kernel) rfl ?_
  refine R_callS (mi := 206) (na := 3) (as := [.int a0, .int 0, .int (M.1 64 62)]) (r := []) (rv := some (.int (Mo_in a0 0 (M.1 64 62) M))) (σ1 := mSS M) ⟨316, by decide +kernel⟩ rfl rfl rfl (Mo_in_r a0 0 (M.1 64 62) M (d + 9)) ?_
  have b1 := mBool rfl (Mo_in_r a0 0 (M.1 64 62) M (d + 9))
  show mRunF _ _ (9, [some (.ref 64), some (.int a0), some (.int a1), some (.int a2), none], [.int (Mo_in a0 0 (M.1 64 62) M)], mSS M)
  refine R_eq (t := 29) ⟨20, by decide +kernel⟩ (fun q => ?_) (fun q => ?_)
  · rw [if_pos q] at h
    refine mRunF.sg (mSl mk_302 15 1) (g := (30, [some (.ref 64), some (.int a0), some (.int a1), some (.int a2), none], [.int (-1)], mSS M)) (by decide +kernel) rfl ?_
    cases h
    exact R_iret (by decide +kernel)
  · rw [if_neg q] at h
    refine mRunF.sg (mSl mk_302 6 2) (g := (14, [some (.ref 64), some (.int a0), some (.int a1), some (.int a2), none], [.int a1, .ref 64], mSS M)) (by decide +kernel) rfl ?_
    obtain ⟨r3, q2, h⟩ := bR_of h
    refine R_callV (mi := 213) (na := 2) (ci := 12) (i := 64) (as := [.int a1]) (r := []) (rv := some (.int r3)) (σ1 := mSS M) ⟨320, by decide +kernel⟩ rfl rfl rfl rfl (Mo_isGoer_r N a1 M (d + 8) q2) ?_
    have b4 := mBool rfl (Mo_isGoer_r N a1 M (d + 8) q2)
    show mRunF _ _ (17, [some (.ref 64), some (.int a0), some (.int a1), some (.int a2), none], [.int r3], mSS M)
    refine R_eq (t := 29) ⟨12, by decide +kernel⟩ (fun q => ?_) (fun q => ?_)
    · rw [if_pos q] at h
      refine mRunF.sg (mSl mk_302 15 1) (g := (30, [some (.ref 64), some (.int a0), some (.int a1), some (.int a2), none], [.int (-1)], mSS M)) (by decide +kernel) rfl ?_
      cases h
      exact R_iret (by decide +kernel)
    · rw [if_neg q] at h
      refine mRunF.sg (mSl mk_302 10 3) (g := (23, [some (.ref 64), some (.int a0), some (.int a1), some (.int a2), none], [.int 1, .int 0, .int a2], mSS M)) (by decide +kernel) rfl ?_
      refine R_callS (mi := 206) (na := 3) (as := [.int a2, .int 0, .int 1]) (r := []) (rv := some (.int (Mo_in a2 0 1 M))) (σ1 := mSS M) ⟨316, by decide +kernel⟩ rfl rfl rfl (Mo_in_r a2 0 1 M (d + 9)) ?_
      have b5 := mBool rfl (Mo_in_r a2 0 1 M (d + 9))
      show mRunF _ _ (26, [some (.ref 64), some (.int a0), some (.int a1), some (.int a2), none], [.int (Mo_in a2 0 1 M)], mSS M)
      refine R_ne (t := 31) ⟨5, by decide +kernel⟩ (fun q => ?_) (fun q => ?_)
      · rw [if_pos q] at h
        refine mRunF.sg (mSl mk_302 15 1) (g := (30, [some (.ref 64), some (.int a0), some (.int a1), some (.int a2), none], [.int (-1)], mSS M)) (by decide +kernel) rfl ?_
        cases h
        exact R_iret (by decide +kernel)
      · rw [if_neg q] at h
        refine mRunF.sg (mSl mk_302 17 3) (g := (34, [some (.ref 64), some (.int a0), some (.int a1), some (.int a2), none], [.int a1, .int a0, .ref 64], mSS M)) (by decide +kernel) rfl ?_
        obtain ⟨r8, M7, q6, h⟩ := bW_of h
        refine R_callV (mi := 301) (na := 3) (ci := 12) (i := 64) (as := [.int a0, .int a1]) (r := []) (rv := some (.int r8)) (σ1 := mSS M7) ⟨501, by decide +kernel⟩ rfl rfl rfl rfl (Mo_fitBits_r N a0 a1 M (d + 0) q6) ?_
        show mRunF _ _ (37, [some (.ref 64), some (.int a0), some (.int a1), some (.int a2), none], [.int r8], mSS M7)
        refine mRunF.sg (mSl mk_302 21 2) (g := (40, [some (.ref 64), some (.int a0), some (.int a1), some (.int a2), some (.int r8)], [.int a2], mSS M7)) (by decide +kernel) rfl ?_
        refine R_ne (t := 51) ⟨11, by decide +kernel⟩ (fun q => ?_) (fun q => ?_)
        · rw [if_pos q] at h
          refine mRunF.sg (mSl mk_302 24 1) (g := (45, [some (.ref 64), some (.int a0), some (.int a1), some (.int a2), some (.int r8)], [.int r8], mSS M7)) (by decide +kernel) rfl ?_
          obtain ⟨r10, q9, h⟩ := bR_of h
          refine R_callS (mi := 208) (na := 1) (as := [.int r8]) (r := []) (rv := some (.int r10)) (σ1 := mSS M7) ⟨385, by decide +kernel⟩ rfl rfl rfl (Mo_bits_r N r8 M7 (d + 9) q9) ?_
          show mRunF _ _ (48, [some (.ref 64), some (.int a0), some (.int a1), some (.int a2), some (.int r8)], [.int r10], mSS M7)
          refine mRunF.sg (mSl mk_302 26 1) (g := (53, [some (.ref 64), some (.int a0), some (.int a1), some (.int a2), some (.int r8)], [.int r10], mSS M7)) (by decide +kernel) rfl ?_
          cases h
          exact R_iret (by decide +kernel)
        · rw [if_neg q] at h
          refine mRunF.sg (mSl mk_302 27 1) (g := (53, [some (.ref 64), some (.int a0), some (.int a1), some (.int a2), some (.int r8)], [.int r8], mSS M7)) (by decide +kernel) rfl ?_
          cases h
          exact R_iret (by decide +kernel)
set_option maxRecDepth 100000 in
set_option maxHeartbeats 4000000 in
theorem Mo_look_120_r {N d : Nat} {k55 : Int32 → Int32 → Int32 → Int32 → Int32 → Int32 → mS → Option (Int32 × mS)} {k73 : Int32 → Int32 → Int32 → Int32 → Int32 → Int32 → Int32 → Int32 → mS → Option (Int32 × mS)} {M : mS} {x3 : Int32} {x4 : Int32} {x5 : Int32} {x6 : Int32} {x7 : Int32} {x8 : Int32} {x9 : Int32} {x10 : Int32} {r : Int32} {M' : mS} (hk55 : ∀ (x3 : Int32) (x4 : Int32) (x5 : Int32) (x6 : Int32) (x7 : Int32) (x8 : Int32) (M : mS), k55 x3 x4 x5 x6 x7 x8 M = some (r, M') → mRunF (mCd 303) (mEE (mMet mP mTx (d + 10)) (some .int) (some (.int r)) M') (55, [some (.ref 64), none, none, some (.int x3), some (.int x4), some (.int x5), some (.int x6), some (.int x7), some (.int x8), none, none], [], mSS M)) (hk73 : ∀ (x3 : Int32) (x4 : Int32) (x5 : Int32) (x6 : Int32) (x7 : Int32) (x8 : Int32) (x9 : Int32) (x10 : Int32) (M : mS), k73 x3 x4 x5 x6 x7 x8 x9 x10 M = some (r, M') → mRunF (mCd 303) (mEE (mMet mP mTx (d + 10)) (some .int) (some (.int r)) M') (73, [some (.ref 64), none, none, some (.int x3), some (.int x4), some (.int x5), some (.int x6), some (.int x7), some (.int x8), some (.int x9), some (.int x10)], [], mSS M)) (h : Mo_look_120 N k55 k73 x3 x4 x5 x6 x7 x8 x9 x10 M = some (r, M')) : mRunF (mCd 303) (mEE (mMet mP mTx (d + 10)) (some .int) (some (.int r)) M') (120, [some (.ref 64), none, none, some (.int x3), some (.int x4), some (.int x5), some (.int x6), some (.int x7), some (.int x8), some (.int x9), some (.int x10)], [], mSS M) := by
  unfold Mo_look_120 at h
  refine mRunF.sg (mSl mk_303 68 2) (g := (73, [some (.ref 64), none, none, some (.int x3), some (.int x4), some (.int x5), some (.int x6), some (.int x7), some (.int x8), some (.int x9), some (.int (x10 + 1))], [], mSS M)) (by decide +kernel) rfl ?_
  exact hk73 _ _ _ _ _ _ _ _ _ h
set_option maxRecDepth 100000 in
set_option maxHeartbeats 4000000 in
theorem Mo_look_171_r {N d : Nat} {k55 : Int32 → Int32 → Int32 → Int32 → Int32 → Int32 → mS → Option (Int32 × mS)} {M : mS} {x3 : Int32} {x4 : Int32} {x5 : Int32} {x6 : Int32} {x7 : Int32} {x8 : Int32} {r : Int32} {M' : mS} (hk55 : ∀ (x3 : Int32) (x4 : Int32) (x5 : Int32) (x6 : Int32) (x7 : Int32) (x8 : Int32) (M : mS), k55 x3 x4 x5 x6 x7 x8 M = some (r, M') → mRunF (mCd 303) (mEE (mMet mP mTx (d + 10)) (some .int) (some (.int r)) M') (55, [some (.ref 64), none, none, some (.int x3), some (.int x4), some (.int x5), some (.int x6), some (.int x7), some (.int x8), none, none], [], mSS M)) (h : Mo_look_171 N k55 x3 x4 x5 x6 x7 x8 M = some (r, M')) : mRunF (mCd 303) (mEE (mMet mP mTx (d + 10)) (some .int) (some (.int r)) M') (171, [some (.ref 64), none, none, some (.int x3), some (.int x4), some (.int x5), some (.int x6), some (.int x7), some (.int x8), none, none], [], mSS M) := by
  unfold Mo_look_171 at h
  refine mRunF.sg (mSl mk_303 91 2) (g := (55, [some (.ref 64), none, none, some (.int x3), some (.int x4), some (.int x5), some (.int x6), some (.int x7), some (.int (x8 + 1)), none, none], [], mSS M)) (by decide +kernel) rfl ?_
  exact hk55 _ _ _ _ _ _ _ h
set_option maxRecDepth 100000 in
set_option maxHeartbeats 4000000 in
theorem Mo_look_163_r {N d : Nat} {k55 : Int32 → Int32 → Int32 → Int32 → Int32 → Int32 → mS → Option (Int32 × mS)} {M : mS} {x3 : Int32} {x4 : Int32} {x5 : Int32} {x8 : Int32} {x10 : Int32} {r : Int32} {M' : mS} (hk55 : ∀ (x3 : Int32) (x4 : Int32) (x5 : Int32) (x6 : Int32) (x7 : Int32) (x8 : Int32) (M : mS), k55 x3 x4 x5 x6 x7 x8 M = some (r, M') → mRunF (mCd 303) (mEE (mMet mP mTx (d + 10)) (some .int) (some (.int r)) M') (55, [some (.ref 64), none, none, some (.int x3), some (.int x4), some (.int x5), some (.int x6), some (.int x7), some (.int x8), none, none], [], mSS M)) (h : Mo_look_163 N k55 x3 x4 x5 x8 x10 M = some (r, M')) : mRunF (mCd 303) (mEE (mMet mP mTx (d + 10)) (some .int) (some (.int r)) M') (163, [some (.ref 64), none, none, some (.int x3), some (.int x4), some (.int x5), none, none, some (.int x8), none, some (.int x10)], [], mSS M) := by
  unfold Mo_look_163 at h
  refine mRunF.sg (mSl mk_303 87 4) (g := (171, [some (.ref 64), none, none, some (.int x3), some (.int x4), some (.int x5), some (.int x8), some (.int x10), some (.int x8), none, some (.int x10)], [], mSS M)) (by decide +kernel) rfl ?_
  refine mRunF.forget [true, true, true, true, true, true, true, true, true, true, false] ?_
  exact Mo_look_171_r hk55 h
set_option maxRecDepth 100000 in
set_option maxHeartbeats 4000000 in
theorem Mo_look_146_r {N d : Nat} {k55 : Int32 → Int32 → Int32 → Int32 → Int32 → Int32 → mS → Option (Int32 × mS)} {M : mS} {x3 : Int32} {x4 : Int32} {x5 : Int32} {x6 : Int32} {x7 : Int32} {x8 : Int32} {z0 : Int32} {r : Int32} {M' : mS} (hk55 : ∀ (x3 : Int32) (x4 : Int32) (x5 : Int32) (x6 : Int32) (x7 : Int32) (x8 : Int32) (M : mS), k55 x3 x4 x5 x6 x7 x8 M = some (r, M') → mRunF (mCd 303) (mEE (mMet mP mTx (d + 10)) (some .int) (some (.int r)) M') (55, [some (.ref 64), none, none, some (.int x3), some (.int x4), some (.int x5), some (.int x6), some (.int x7), some (.int x8), none, none], [], mSS M)) (h : Mo_look_146 N k55 x3 x4 x5 x6 x7 x8 z0 M = some (r, M')) : mRunF (mCd 303) (mEE (mMet mP mTx (d + 10)) (some .int) (some (.int r)) M') (146, [some (.ref 64), none, none, some (.int x3), some (.int x4), some (.int x5), some (.int x6), some (.int x7), some (.int x8), none, none], [.int z0], mSS M) := by
  unfold Mo_look_146 at h
  refine mRunF.sg (mSl mk_303 80 2) (g := (150, [some (.ref 64), none, none, some (.int x3), some (.int x4), some (.int x5), some (.int x6), some (.int x7), some (.int x8), none, some (.int z0)], [.int x6], mSS M)) (by decide +kernel) rfl ?_
  refine R_lt (t := 163) ⟨13, by decide +kernel⟩ (fun q => ?_) (fun q => ?_)
  · rw [if_pos q] at h
    refine mRunF.forget [true, true, true, true, true, true, false, false, true, true, true] ?_
    exact Mo_look_163_r hk55 h
  · rw [if_neg q] at h
    refine mRunF.sg (mSl mk_303 83 2) (g := (157, [some (.ref 64), none, none, some (.int x3), some (.int x4), some (.int x5), some (.int x6), some (.int x7), some (.int x8), none, some (.int z0)], [.int x7, .int z0], mSS M)) (by decide +kernel) rfl ?_
    refine R_ilt (t := 163) ⟨6, by decide +kernel⟩ (fun q => ?_) (fun q => ?_)
    · rw [if_pos q] at h
      refine mRunF.forget [true, true, true, true, true, true, false, false, true, true, true] ?_
      exact Mo_look_163_r hk55 h
    · rw [if_neg q] at h
      refine mRunF.sg (mSl mk_303 86 1) (g := (171, [some (.ref 64), none, none, some (.int x3), some (.int x4), some (.int x5), some (.int x6), some (.int x7), some (.int x8), none, some (.int z0)], [], mSS M)) (by decide +kernel) rfl ?_
      refine mRunF.forget [true, true, true, true, true, true, true, true, true, true, false] ?_
      exact Mo_look_171_r hk55 h
set_option maxRecDepth 100000 in
set_option maxHeartbeats 4000000 in
theorem Mo_look_73_r {N d : Nat} {k55 : Int32 → Int32 → Int32 → Int32 → Int32 → Int32 → mS → Option (Int32 × mS)}  {r : Int32} {M' : mS} (hk55 : ∀ (x3 : Int32) (x4 : Int32) (x5 : Int32) (x6 : Int32) (x7 : Int32) (x8 : Int32) (M : mS), k55 x3 x4 x5 x6 x7 x8 M = some (r, M') → mRunF (mCd 303) (mEE (mMet mP mTx (d + 10)) (some .int) (some (.int r)) M') (55, [some (.ref 64), none, none, some (.int x3), some (.int x4), some (.int x5), some (.int x6), some (.int x7), some (.int x8), none, none], [], mSS M)) : ∀ {n : Nat} {x3 : Int32} {x4 : Int32} {x5 : Int32} {x6 : Int32} {x7 : Int32} {x8 : Int32} {x9 : Int32} {x10 : Int32} {M : mS}, Mo_look_73 N k55 n x3 x4 x5 x6 x7 x8 x9 x10 M = some (r, M') → mRunF (mCd 303) (mEE (mMet mP mTx (d + 10)) (some .int) (some (.int r)) M') (73, [some (.ref 64), none, none, some (.int x3), some (.int x4), some (.int x5), some (.int x6), some (.int x7), some (.int x8), some (.int x9), some (.int x10)], [], mSS M) := by
  intro n
  induction n with
  | zero => intro x3 x4 x5 x6 x7 x8 x9 x10 M h; cases h
  | succ n ih =>
    replace ih := @ih
    intro x3 x4 x5 x6 x7 x8 x9 x10 M h
    unfold Mo_look_73 at h
    refine mRunF.sg (mSl mk_303 39 5) (g := (83, [some (.ref 64), none, none, some (.int x3), some (.int x4), some (.int x5), some (.int x6), some (.int x7), some (.int x8), some (.int x9), some (.int x10)], [.int (M.1 64 18), .ref 75, .int x10], mSS M)) (by decide +kernel) rfl ?_
    obtain ⟨g1, h⟩ := grd_of h
    refine R_iald (by decide +kernel) rfl g1 ?_
    refine R_ige (t := 126) ⟨42, by decide +kernel⟩ (fun q => ?_) (fun q => ?_)
    · rw [if_pos q] at h
      refine mRunF.sg (mSl mk_303 70 4) (g := (133, [some (.ref 64), none, none, some (.int x3), some (.int x4), some (.int x5), some (.int x6), some (.int x7), some (.int x8), some (.int x9), some (.int x10)], [.int (x5 - x9), .int x9], mSS M)) (by decide +kernel) rfl ?_
      refine R_ile (t := 141) ⟨8, by decide +kernel⟩ (fun q => ?_) (fun q => ?_)
      · rw [if_pos q] at h
        refine mRunF.sg (mSl mk_303 77 3) (g := (146, [some (.ref 64), none, none, some (.int x3), some (.int x4), some (.int x5), some (.int x6), some (.int x7), some (.int x8), some (.int x9), some (.int x10)], [.int (x5 - x9)], mSS M)) (by decide +kernel) rfl ?_
        refine mRunF.forget [true, true, true, true, true, true, true, true, true, false, false] ?_
        exact Mo_look_146_r hk55 h
      · rw [if_neg q] at h
        refine mRunF.sg (mSl mk_303 75 2) (g := (146, [some (.ref 64), none, none, some (.int x3), some (.int x4), some (.int x5), some (.int x6), some (.int x7), some (.int x8), some (.int x9), some (.int x10)], [.int x9], mSS M)) (by decide +kernel) rfl ?_
        refine mRunF.forget [true, true, true, true, true, true, true, true, true, false, false] ?_
        exact Mo_look_146_r hk55 h
    · rw [if_neg q] at h
      refine mRunF.sg (mSl mk_303 46 6) (g := (95, [some (.ref 64), none, none, some (.int x3), some (.int x4), some (.int x5), some (.int x6), some (.int x7), some (.int x8), some (.int x9), some (.int x10)], [.int 1, .int ((x4 >>> (x10 &&& 31)) &&& 1)], mSS M)) (by decide +kernel) rfl ?_
      refine R_ine (t := 120) ⟨25, by decide +kernel⟩ (fun q => ?_) (fun q => ?_)
      · rw [if_pos q] at h
        refine mRunF.sg (mSl mk_303 53 8) (g := (112, [some (.ref 64), none, none, some (.int x3), some (.int x4), some (.int x5), some (.int x6), some (.int x7), some (.int x8), some (.int x9), some (.int x10)], [.int ((31 * x10) + x8), .ref 108, .int x9], mSS M)) (by decide +kernel) rfl ?_
        obtain ⟨g2, h⟩ := grd_of h
        refine R_iald (by decide +kernel) rfl g2 ?_
        refine mRunF.sg (mSl mk_303 62 6) (g := (120, [some (.ref 64), none, none, some (.int x3), some (.int x4), some (.int x5), some (.int x6), some (.int x7), some (.int x8), some (.int (x9 + (((M.1 108 ((31 * x10) + x8).toNatClampNeg) >>> (x3 &&& 31)) &&& 1))), some (.int x10)], [], mSS M)) (by decide +kernel) rfl ?_
        obtain ⟨v3, hv, h⟩ := nxt_ex h
        rw [← hv]
        clear hv
        exact Mo_look_120_r hk55 (fun y0 y1 y2 y3 y4 y5 y6 y7 y8 hh => @ih y0 y1 y2 y3 y4 y5 y6 y7 y8 hh) h
      · rw [if_neg q] at h
        exact Mo_look_120_r hk55 (fun y0 y1 y2 y3 y4 y5 y6 y7 y8 hh => @ih y0 y1 y2 y3 y4 y5 y6 y7 y8 hh) h
set_option maxRecDepth 100000 in
set_option maxHeartbeats 4000000 in
theorem Mo_look_55_r {N d : Nat}   {r : Int32} {M' : mS} : ∀ {n : Nat} {x3 : Int32} {x4 : Int32} {x5 : Int32} {x6 : Int32} {x7 : Int32} {x8 : Int32} {M : mS}, Mo_look_55 N n x3 x4 x5 x6 x7 x8 M = some (r, M') → mRunF (mCd 303) (mEE (mMet mP mTx (d + 10)) (some .int) (some (.int r)) M') (55, [some (.ref 64), none, none, some (.int x3), some (.int x4), some (.int x5), some (.int x6), some (.int x7), some (.int x8), none, none], [], mSS M) := by
  intro n
  induction n with
  | zero => intro x3 x4 x5 x6 x7 x8 M h; cases h
  | succ n ih =>
    replace ih := @ih
    intro x3 x4 x5 x6 x7 x8 M h
    unfold Mo_look_55 at h
    refine mRunF.sg (mSl mk_303 30 2) (g := (59, [some (.ref 64), none, none, some (.int x3), some (.int x4), some (.int x5), some (.int x6), some (.int x7), some (.int x8), none, none], [.int 30, .int x8], mSS M)) (by decide +kernel) rfl ?_
    refine R_igt (t := 177) ⟨118, by decide +kernel⟩ (fun q => ?_) (fun q => ?_)
    · rw [if_pos q] at h
      refine mRunF.sg (mSl mk_303 93 1) (g := (179, [some (.ref 64), none, none, some (.int x3), some (.int x4), some (.int x5), some (.int x6), some (.int x7), some (.int x8), none, none], [.int x6], mSS M)) (by decide +kernel) rfl ?_
      cases h
      exact R_iret (by decide +kernel)
    · rw [if_neg q] at h
      refine mRunF.sg (mSl mk_303 33 1) (g := (64, [some (.ref 64), none, none, some (.int x3), some (.int x4), some (.int x5), some (.int x6), some (.int x7), some (.int x8), none, none], [.int x5], mSS M)) (by decide +kernel) rfl ?_
      refine R_le (t := 177) ⟨113, by decide +kernel⟩ (fun q => ?_) (fun q => ?_)
      · rw [if_pos q] at h
        refine mRunF.sg (mSl mk_303 93 1) (g := (179, [some (.ref 64), none, none, some (.int x3), some (.int x4), some (.int x5), some (.int x6), some (.int x7), some (.int x8), none, none], [.int x6], mSS M)) (by decide +kernel) rfl ?_
        cases h
        exact R_iret (by decide +kernel)
      · rw [if_neg q] at h
        refine mRunF.sg (mSl mk_303 35 4) (g := (73, [some (.ref 64), none, none, some (.int x3), some (.int x4), some (.int x5), some (.int x6), some (.int x7), some (.int x8), some (.int 0), some (.int 0)], [], mSS M)) (by decide +kernel) rfl ?_
        exact Mo_look_73_r (fun y0 y1 y2 y3 y4 y5 y6 hh => @ih y0 y1 y2 y3 y4 y5 y6 hh) h
set_option maxRecDepth 100000 in
set_option maxHeartbeats 4000000 in
theorem Mo_look_r (N : Nat) (a0 : Int32) (a1 : Int32) (a2 : Int32) (M : mS) {r : Int32} {M' : mS} (d : Nat) (h : Mo_look N a0 a1 a2 M = some (r, M')) : mMet mP mTx (d + 11) 303 [.ref 64, .int a0, .int a1, .int a2] (mSS M) (some (.int r)) (mSS M') := by
  refine mMet_i ⟨Nat.le_refl _, Nat.le_refl _, Nat.le_of_ble_eq_true rfl⟩ ?_
  unfold Mo_look at h
  show mRunF (mCd 303) (mEE (mMet mP mTx (d + 10)) (some .int) (some (.int r)) M') (0, [some (.ref 64), some (.int a0), some (.int a1), some (.int a2), none, none, none, none, none, none, none], [], mSS M)
  refine mRunF.sg (mSl mk_303 0 4) (g := (6, [some (.ref 64), some (.int a0), some (.int a1), some (.int a2), none, none, none, none, none, none, none], [.int (M.1 64 62), .int 0, .int a0], mSS M)) (by decide +kernel) rfl ?_
  refine R_callS (mi := 206) (na := 3) (as := [.int a0, .int 0, .int (M.1 64 62)]) (r := []) (rv := some (.int (Mo_in a0 0 (M.1 64 62) M))) (σ1 := mSS M) ⟨316, by decide +kernel⟩ rfl rfl rfl (Mo_in_r a0 0 (M.1 64 62) M (d + 9)) ?_
  have b4 := mBool rfl (Mo_in_r a0 0 (M.1 64 62) M (d + 9))
  show mRunF _ _ (9, [some (.ref 64), some (.int a0), some (.int a1), some (.int a2), none, none, none, none, none, none, none], [.int (Mo_in a0 0 (M.1 64 62) M)], mSS M)
  refine R_eq (t := 28) ⟨19, by decide +kernel⟩ (fun q => ?_) (fun q => ?_)
  · rw [if_pos q] at h
    refine mRunF.sg (mSl mk_303 14 1) (g := (29, [some (.ref 64), some (.int a0), some (.int a1), some (.int a2), none, none, none, none, none, none, none], [.int (-1)], mSS M)) (by decide +kernel) rfl ?_
    cases h
    exact R_iret (by decide +kernel)
  · rw [if_neg q] at h
    refine mRunF.sg (mSl mk_303 6 2) (g := (14, [some (.ref 64), some (.int a0), some (.int a1), some (.int a2), none, none, none, none, none, none, none], [.int a1, .ref 64], mSS M)) (by decide +kernel) rfl ?_
    obtain ⟨r6, q5, h⟩ := bR_of h
    refine R_callV (mi := 213) (na := 2) (ci := 12) (i := 64) (as := [.int a1]) (r := []) (rv := some (.int r6)) (σ1 := mSS M) ⟨320, by decide +kernel⟩ rfl rfl rfl rfl (Mo_isGoer_r N a1 M (d + 8) q5) ?_
    have b7 := mBool rfl (Mo_isGoer_r N a1 M (d + 8) q5)
    show mRunF _ _ (17, [some (.ref 64), some (.int a0), some (.int a1), some (.int a2), none, none, none, none, none, none, none], [.int r6], mSS M)
    refine R_eq (t := 28) ⟨11, by decide +kernel⟩ (fun q => ?_) (fun q => ?_)
    · rw [if_pos q] at h
      refine mRunF.sg (mSl mk_303 14 1) (g := (29, [some (.ref 64), some (.int a0), some (.int a1), some (.int a2), none, none, none, none, none, none, none], [.int (-1)], mSS M)) (by decide +kernel) rfl ?_
      cases h
      exact R_iret (by decide +kernel)
    · rw [if_neg q] at h
      refine mRunF.sg (mSl mk_303 10 2) (g := (22, [some (.ref 64), some (.int a0), some (.int a1), some (.int a2), none, none, none, none, none, none, none], [.int a2, .ref 64], mSS M)) (by decide +kernel) rfl ?_
      obtain ⟨r9, q8, h⟩ := bR_of h
      refine R_callV (mi := 211) (na := 2) (ci := 12) (i := 64) (as := [.int a2]) (r := []) (rv := some (.int r9)) (σ1 := mSS M) ⟨397, by decide +kernel⟩ rfl rfl rfl rfl (Mo_isHour_r N a2 M (d + 8) q8) ?_
      have b10 := mBool rfl (Mo_isHour_r N a2 M (d + 8) q8)
      show mRunF _ _ (25, [some (.ref 64), some (.int a0), some (.int a1), some (.int a2), none, none, none, none, none, none, none], [.int r9], mSS M)
      refine R_ne (t := 30) ⟨5, by decide +kernel⟩ (fun q => ?_) (fun q => ?_)
      · rw [if_pos q] at h
        refine mRunF.sg (mSl mk_303 14 1) (g := (29, [some (.ref 64), some (.int a0), some (.int a1), some (.int a2), none, none, none, none, none, none, none], [.int (-1)], mSS M)) (by decide +kernel) rfl ?_
        cases h
        exact R_iret (by decide +kernel)
      · rw [if_neg q] at h
        refine mRunF.sg (mSl mk_303 16 3) (g := (33, [some (.ref 64), some (.int a0), some (.int a1), some (.int a2), none, none, none, none, none, none, none], [.int a1, .int a0, .ref 64], mSS M)) (by decide +kernel) rfl ?_
        obtain ⟨r13, M12, q11, h⟩ := bW_of h
        refine R_callV (mi := 301) (na := 3) (ci := 12) (i := 64) (as := [.int a0, .int a1]) (r := []) (rv := some (.int r13)) (σ1 := mSS M12) ⟨501, by decide +kernel⟩ rfl rfl rfl rfl (Mo_fitBits_r N a0 a1 M (d + 0) q11) ?_
        show mRunF _ _ (36, [some (.ref 64), some (.int a0), some (.int a1), some (.int a2), none, none, none, none, none, none, none], [.int r13], mSS M12)
        refine mRunF.sg (mSl mk_303 20 2) (g := (40, [some (.ref 64), some (.int a0), some (.int a1), some (.int a2), some (.int r13), none, none, none, none, none, none], [.int r13], mSS M12)) (by decide +kernel) rfl ?_
        obtain ⟨r15, q14, h⟩ := bR_of h
        refine R_callS (mi := 208) (na := 1) (as := [.int r13]) (r := []) (rv := some (.int r15)) (σ1 := mSS M12) ⟨385, by decide +kernel⟩ rfl rfl rfl (Mo_bits_r N r13 M12 (d + 9) q14) ?_
        show mRunF _ _ (43, [some (.ref 64), some (.int a0), some (.int a1), some (.int a2), some (.int r13), none, none, none, none, none, none], [.int r15], mSS M12)
        refine mRunF.sg (mSl mk_303 23 7) (g := (55, [some (.ref 64), some (.int a0), some (.int a1), some (.int a2), some (.int r13), some (.int r15), some (.int (-2)), some (.int 0), some (.int 0), none, none], [], mSS M12)) (by decide +kernel) rfl ?_
        refine mRunF.forget [true, false, false, true, true, true, true, true, true, true, true] ?_
        exact Mo_look_55_r h
