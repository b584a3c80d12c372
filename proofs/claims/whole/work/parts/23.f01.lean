/-! METHODS as functions, 1: printed by program -/
set_option maxRecDepth 100000 in
set_option maxHeartbeats 4000000 in
theorem Rr_readSum_59_r {N d : Nat} {k30 : Int32 → Int32 → mS → Option mS} {M : mS} {x2 : Int32} {z0 : Int32} {M' : mS} (hk30 : ∀ (x1 : Int32) (x2 : Int32) (M : mS), k30 x1 x2 M = some M' → mRunF (mCd 35) (mEE (mMet mP mTx (d + 3)) (none) none M') (30, [some (.ref 14), some (.int x1), some (.int x2)], [], mSS M)) (h : Rr_readSum_59 N k30 x2 z0 M = some M') : mRunF (mCd 35) (mEE (mMet mP mTx (d + 3)) (none) none M') (59, [some (.ref 14), none, some (.int x2)], [.int z0], mSS M) := by
  unfold Rr_readSum_59 at h
  refine mRunF.sg (mSl mk_35 31 3) (g := (30, [some (.ref 14), some (.int z0), some (.int (x2 + 1))], [], mSS M)) (by decide +kernel) rfl ?_
  exact hk30 _ _ _ h
set_option maxRecDepth 100000 in
set_option maxHeartbeats 4000000 in
theorem Rr_readSum_30_r {N d : Nat}   {M' : mS} : ∀ {n : Nat} {x1 : Int32} {x2 : Int32} {M : mS}, Rr_readSum_30 N n x1 x2 M = some M' → mRunF (mCd 35) (mEE (mMet mP mTx (d + 3)) (none) none M') (30, [some (.ref 14), some (.int x1), some (.int x2)], [], mSS M) := by
  intro n
  induction n with
  | zero => intro x1 x2 M h; cases h
  | succ n ih =>
    replace ih := @ih
    intro x1 x2 M h
    unfold Rr_readSum_30 at h
    refine mRunF.sg (mSl mk_35 18 2) (g := (34, [some (.ref 14), some (.int x1), some (.int x2)], [.int 400, .int x2], mSS M)) (by decide +kernel) rfl ?_
    refine R_igt (t := 66) ⟨32, by decide +kernel⟩ (fun q => ?_) (fun q => ?_)
    · rw [if_pos q] at h
      cases h
      exact R_vret (by decide +kernel)
    · rw [if_neg q] at h
      refine mRunF.sg (mSl mk_35 21 1) (g := (38, [some (.ref 14), some (.int x1), some (.int x2)], [.int x1], mSS M)) (by decide +kernel) rfl ?_
      refine R_eq (t := 66) ⟨28, by decide +kernel⟩ (fun q => ?_) (fun q => ?_)
      · rw [if_pos q] at h
        cases h
        exact R_vret (by decide +kernel)
      · rw [if_neg q] at h
        refine mRunF.sg (mSl mk_35 23 2) (g := (45, [some (.ref 14), some (.int x1), some (.int x2)], [.int (M.1 14 7)], mSS M)) (by decide +kernel) rfl ?_
        refine R_eq (t := 55) ⟨10, by decide +kernel⟩ (fun q => ?_) (fun q => ?_)
        · rw [if_pos q] at h
          refine mRunF.sg (mSl mk_35 29 1) (g := (56, [some (.ref 14), some (.int x1), some (.int x2)], [.ref 14], mSS M)) (by decide +kernel) rfl ?_
          obtain ⟨r3, M2, q1, h⟩ := bW_of h
          refine R_callV (mi := 37) (na := 1) (ci := 4) (i := 14) (as := []) (r := []) (rv := some (.int r3)) (σ1 := mSS M2) ⟨160, by decide +kernel⟩ rfl rfl rfl rfl (Rr_readSign_r N M (d + 0) q1) ?_
          have b4 := mBool rfl (Rr_readSign_r N M (d + 0) q1)
          show mRunF _ _ (59, [some (.ref 14), some (.int x1), some (.int x2)], [.int r3], mSS M2)
          refine mRunF.forget [true, false, true] ?_
          exact Rr_readSum_59_r (fun y0 y1 y2 hh => @ih y0 y1 y2 hh) h
        · rw [if_neg q] at h
          refine mRunF.sg (mSl mk_35 26 1) (g := (49, [some (.ref 14), some (.int x1), some (.int x2)], [.ref 14], mSS M)) (by decide +kernel) rfl ?_
          obtain ⟨r7, M6, q5, h⟩ := bW_of h
          refine R_callV (mi := 36) (na := 1) (ci := 4) (i := 14) (as := []) (r := []) (rv := some (.int r7)) (σ1 := mSS M6) ⟨156, by decide +kernel⟩ rfl rfl rfl rfl (Rr_readUnit_r N M (d + 0) q5) ?_
          have b8 := mBool rfl (Rr_readUnit_r N M (d + 0) q5)
          show mRunF _ _ (52, [some (.ref 14), some (.int x1), some (.int x2)], [.int r7], mSS M6)
          refine mRunF.sg (mSl mk_35 28 1) (g := (59, [some (.ref 14), some (.int x1), some (.int x2)], [.int r7], mSS M6)) (by decide +kernel) rfl ?_
          refine mRunF.forget [true, false, true] ?_
          exact Rr_readSum_59_r (fun y0 y1 y2 hh => @ih y0 y1 y2 hh) h
set_option maxRecDepth 100000 in
set_option maxHeartbeats 4000000 in
theorem Rr_readSum_27_r {N d : Nat}  {M : mS} {z0 : Int32} {M' : mS} (h : Rr_readSum_27 N z0 M = some M') : mRunF (mCd 35) (mEE (mMet mP mTx (d + 3)) (none) none M') (27, [some (.ref 14), none, none], [.int z0], mSS M) := by
  unfold Rr_readSum_27 at h
  refine mRunF.sg (mSl mk_35 15 3) (g := (30, [some (.ref 14), some (.int z0), some (.int 0)], [], mSS M)) (by decide +kernel) rfl ?_
  exact Rr_readSum_30_r h
set_option maxRecDepth 100000 in
set_option maxHeartbeats 4000000 in
theorem Rr_readSum_r (N : Nat)  (M : mS) {M' : mS} (d : Nat) (h : Rr_readSum N M = some M') : mMet mP mTx (d + 4) 35 [.ref 14] (mSS M) none (mSS M') := by
  refine mMet_i ⟨Nat.le_refl _, Nat.le_refl _, Nat.le_of_ble_eq_true rfl⟩ ?_
  unfold Rr_readSum at h
  show mRunF (mCd 35) (mEE (mMet mP mTx (d + 3)) (none) none M') (0, [some (.ref 14), none, none], [], mSS M)
  refine mRunF.sg (mSl mk_35 0 3) (g := (5, [some (.ref 14), none, none], [], mSS (mWI M 14 5 0))) (by decide +kernel) rfl ?_
  obtain ⟨M9, hv, h⟩ := nxt_ex h
  rw [← hv]
  clear hv
  refine mRunF.sg (mSl mk_35 3 3) (g := (10, [some (.ref 14), none, none], [], mSS (mWI M9 14 6 0))) (by decide +kernel) rfl ?_
  obtain ⟨M10, hv, h⟩ := nxt_ex h
  rw [← hv]
  clear hv
  refine mRunF.sg (mSl mk_35 6 3) (g := (15, [some (.ref 14), none, none], [], mSS (mWI M10 14 7 1))) (by decide +kernel) rfl ?_
  obtain ⟨M11, hv, h⟩ := nxt_ex h
  rw [← hv]
  clear hv
  refine mRunF.sg (mSl mk_35 9 2) (g := (19, [some (.ref 14), none, none], [.int (M11.1 14 9)], mSS M11)) (by decide +kernel) rfl ?_
  refine R_ne (t := 26) ⟨7, by decide +kernel⟩ (fun q => ?_) (fun q => ?_)
  · rw [if_pos q] at h
    refine mRunF.sg (mSl mk_35 12 2) (g := (27, [some (.ref 14), none, none], [.int 1], mSS M11)) (by decide +kernel) rfl ?_
    exact Rr_readSum_27_r h
  · rw [if_neg q] at h
    refine mRunF.sg (mSl mk_35 14 1) (g := (27, [some (.ref 14), none, none], [.int 0], mSS M11)) (by decide +kernel) rfl ?_
    exact Rr_readSum_27_r h
set_option maxRecDepth 100000 in
set_option maxHeartbeats 4000000 in
theorem La_aimHere_r (N : Nat) (a0 : Int32) (M : mS) {M' : mS} (d : Nat) (h : La_aimHere N a0 M = some M') : mMet mP mTx (d + 1) 15 [.ref 16, .int a0] (mSS M) none (mSS M') := by
  refine mMet_i ⟨Nat.le_refl _, Nat.le_refl _, Nat.le_of_ble_eq_true rfl⟩ ?_
  unfold La_aimHere at h
  show mRunF (mCd 15) (mEE (mMet mP mTx (d + 0)) (none) none M') (0, [some (.ref 16), some (.int a0)], [], mSS M)
  refine mRunF.sg (mSl mk_15 0 1) (g := (1, [some (.ref 16), some (.int a0)], [.int a0], mSS M)) (by decide +kernel) rfl ?_
  refine R_lt (t := 28) ⟨27, by decide +kernel⟩ (fun q => ?_) (fun q => ?_)
  · rw [if_pos q] at h
    cases h
    exact R_vret (by decide +kernel)
  · rw [if_neg q] at h
    refine mRunF.sg (mSl mk_15 2 3) (g := (9, [some (.ref 16), some (.int a0)], [.int (M.1 16 4), .int a0], mSS M)) (by decide +kernel) rfl ?_
    refine R_ige (t := 28) ⟨19, by decide +kernel⟩ (fun q => ?_) (fun q => ?_)
    · rw [if_pos q] at h
      cases h
      exact R_vret (by decide +kernel)
    · rw [if_neg q] at h
      refine mRunF.sg (mSl mk_15 6 9) (g := (27, [some (.ref 16), some (.int a0)], [.int (((M.1 16 4) * 8) + 6), .int a0, .ref 18], mSS M)) (by decide +kernel) rfl ?_
      obtain ⟨g1, h⟩ := grd_of h
      refine R_iast (by decide +kernel) rfl g1 ?_
      obtain ⟨M2, hv, h⟩ := nxt_ex h
      rw [← hv]
      clear hv
      cases h
      exact R_vret (by decide +kernel)
set_option maxRecDepth 100000 in
set_option maxHeartbeats 4000000 in
theorem Rr_readLaw_51_r {N d : Nat} {k20 : Int32 → mS → Option mS} {M : mS} {x2 : Int32} {M' : mS} (hk20 : ∀ (x2 : Int32) (M : mS), k20 x2 M = some M' → mRunF (mCd 34) (mEE (mMet mP mTx (d + 4)) (none) none M') (20, [some (.ref 14), none, some (.int x2), none], [], mSS M)) (h : Rr_readLaw_51 N k20 x2 M = some M') : mRunF (mCd 34) (mEE (mMet mP mTx (d + 4)) (none) none M') (51, [some (.ref 14), none, some (.int x2), none], [], mSS M) := by
  unfold Rr_readLaw_51 at h
  refine mRunF.sg (mSl mk_34 27 2) (g := (54, [some (.ref 14), none, some (.int x2), none], [.int 8, .ref 14], mSS M)) (by decide +kernel) rfl ?_
  obtain ⟨r3, M2, q1, h⟩ := bW_of h
  refine R_callV (mi := 41) (na := 2) (ci := 4) (i := 14) (as := [.int 8]) (r := []) (rv := some (.int r3)) (σ1 := mSS M2) ⟨78, by decide +kernel⟩ rfl rfl rfl rfl (Rr_take_r N 8 M (d + 2) q1) ?_
  have b4 := mBool rfl (Rr_take_r N 8 M (d + 2) q1)
  show mRunF _ _ (57, [some (.ref 14), none, some (.int x2), none], [.int r3], mSS M2)
  refine mRunF.sg (mSl mk_34 30 2) (g := (59, [some (.ref 14), none, some (.int x2), none], [.ref 14], mSS M2)) (by decide +kernel) rfl ?_
  obtain ⟨M6, q5, h⟩ := bV_of h
  refine R_callV (mi := 35) (na := 1) (ci := 4) (i := 14) (as := []) (r := []) (rv := none) (σ1 := mSS M6) ⟨137, by decide +kernel⟩ rfl rfl rfl rfl (Rr_readSum_r N M2 (d + 0) q5) ?_
  show mRunF _ _ (62, [some (.ref 14), none, some (.int x2), none], [], mSS M6)
  refine mRunF.sg (mSl mk_34 33 2) (g := (65, [some (.ref 14), none, some (.int x2), none], [.int 28, .ref 14], mSS M6)) (by decide +kernel) rfl ?_
  obtain ⟨r9, M8, q7, h⟩ := bW_of h
  refine R_callV (mi := 41) (na := 2) (ci := 4) (i := 14) (as := [.int 28]) (r := []) (rv := some (.int r9)) (σ1 := mSS M8) ⟨78, by decide +kernel⟩ rfl rfl rfl rfl (Rr_take_r N 28 M6 (d + 2) q7) ?_
  have b10 := mBool rfl (Rr_take_r N 28 M6 (d + 2) q7)
  show mRunF _ _ (68, [some (.ref 14), none, some (.int x2), none], [.int r9], mSS M8)
  refine mRunF.sg (mSl mk_34 36 2) (g := (70, [some (.ref 14), none, some (.int x2), none], [.ref 14], mSS M8)) (by decide +kernel) rfl ?_
  obtain ⟨M12, q11, h⟩ := bV_of h
  refine R_callV (mi := 35) (na := 1) (ci := 4) (i := 14) (as := []) (r := []) (rv := none) (σ1 := mSS M12) ⟨137, by decide +kernel⟩ rfl rfl rfl rfl (Rr_readSum_r N M8 (d + 0) q11) ?_
  show mRunF _ _ (73, [some (.ref 14), none, some (.int x2), none], [], mSS M12)
  refine mRunF.sg (mSl mk_34 39 2) (g := (76, [some (.ref 14), none, some (.int x2), none], [.int 9, .ref 14], mSS M12)) (by decide +kernel) rfl ?_
  obtain ⟨r15, M14, q13, h⟩ := bW_of h
  refine R_callV (mi := 41) (na := 2) (ci := 4) (i := 14) (as := [.int 9]) (r := []) (rv := some (.int r15)) (σ1 := mSS M14) ⟨78, by decide +kernel⟩ rfl rfl rfl rfl (Rr_take_r N 9 M12 (d + 2) q13) ?_
  have b16 := mBool rfl (Rr_take_r N 9 M12 (d + 2) q13)
  show mRunF _ _ (79, [some (.ref 14), none, some (.int x2), none], [.int r15], mSS M14)
  refine mRunF.sg (mSl mk_34 42 6) (g := (90, [some (.ref 14), none, some (.int x2), none], [.int 0, .int 6, .ref 16], mSS M14)) (by decide +kernel) rfl ?_
  obtain ⟨r19, M18, q17, h⟩ := bW_of h
  refine R_callV (mi := 14) (na := 3) (ci := 2) (i := 16) (as := [.int 6, .int 0]) (r := []) (rv := some (.int r19)) (σ1 := mSS M18) ⟨140, by decide +kernel⟩ rfl rfl rfl rfl (La_put_r N 6 0 M14 (d + 3) q17) ?_
  show mRunF _ _ (93, [some (.ref 14), none, some (.int x2), none], [.int r19], mSS M18)
  refine mRunF.sg (mSl mk_34 49 2) (g := (95, [some (.ref 14), none, some (.int x2), some (.int r19)], [.ref 14], mSS M18)) (by decide +kernel) rfl ?_
  obtain ⟨M21, q20, h⟩ := bV_of h
  refine R_callV (mi := 35) (na := 1) (ci := 4) (i := 14) (as := []) (r := []) (rv := none) (σ1 := mSS M21) ⟨137, by decide +kernel⟩ rfl rfl rfl rfl (Rr_readSum_r N M18 (d + 0) q20) ?_
  show mRunF _ _ (98, [some (.ref 14), none, some (.int x2), some (.int r19)], [], mSS M21)
  refine mRunF.sg (mSl mk_34 52 2) (g := (101, [some (.ref 14), none, some (.int x2), some (.int r19)], [.int 10, .ref 14], mSS M21)) (by decide +kernel) rfl ?_
  obtain ⟨r24, M23, q22, h⟩ := bW_of h
  refine R_callV (mi := 41) (na := 2) (ci := 4) (i := 14) (as := [.int 10]) (r := []) (rv := some (.int r24)) (σ1 := mSS M23) ⟨78, by decide +kernel⟩ rfl rfl rfl rfl (Rr_take_r N 10 M21 (d + 2) q22) ?_
  have b25 := mBool rfl (Rr_take_r N 10 M21 (d + 2) q22)
  show mRunF _ _ (104, [some (.ref 14), none, some (.int x2), some (.int r19)], [.int r24], mSS M23)
  refine mRunF.sg (mSl mk_34 55 6) (g := (115, [some (.ref 14), none, some (.int x2), some (.int r19)], [.int 0, .int 7, .ref 16], mSS M23)) (by decide +kernel) rfl ?_
  obtain ⟨r28, M27, q26, h⟩ := bW_of h
  refine R_callV (mi := 14) (na := 3) (ci := 2) (i := 16) (as := [.int 7, .int 0]) (r := []) (rv := some (.int r28)) (σ1 := mSS M27) ⟨140, by decide +kernel⟩ rfl rfl rfl rfl (La_put_r N 7 0 M23 (d + 3) q26) ?_
  show mRunF _ _ (118, [some (.ref 14), none, some (.int x2), some (.int r19)], [.int r28], mSS M27)
  refine mRunF.sg (mSl mk_34 62 5) (g := (127, [some (.ref 14), none, some (.int x2), some (.int r19)], [.int r19, .ref 16], mSS M27)) (by decide +kernel) rfl ?_
  obtain ⟨M30, q29, h⟩ := bV_of h
  refine R_callV (mi := 15) (na := 2) (ci := 2) (i := 16) (as := [.int r19]) (r := []) (rv := none) (σ1 := mSS M30) ⟨143, by decide +kernel⟩ rfl rfl rfl rfl (La_aimHere_r N r19 M27 (d + 3) q29) ?_
  show mRunF _ _ (130, [some (.ref 14), none, some (.int x2), some (.int r19)], [], mSS M30)
  refine mRunF.sg (mSl mk_34 68 2) (g := (20, [some (.ref 14), none, some (.int (x2 + 1)), some (.int r19)], [], mSS M30)) (by decide +kernel) rfl ?_
  refine mRunF.forget [true, true, true, false] ?_
  exact hk20 _ _ h
set_option maxRecDepth 100000 in
set_option maxHeartbeats 4000000 in
theorem Rr_readLaw_136_r {N d : Nat}  {M : mS}  {M' : mS} (h : Rr_readLaw_136 N M = some M') : mRunF (mCd 34) (mEE (mMet mP mTx (d + 4)) (none) none M') (136, [some (.ref 14), none, none, none], [], mSS M) := by
  unfold Rr_readLaw_136 at h
  refine mRunF.sg (mSl mk_34 70 1) (g := (137, [some (.ref 14), none, none, none], [.ref 14], mSS M)) (by decide +kernel) rfl ?_
  obtain ⟨M32, q31, h⟩ := bV_of h
  refine R_callV (mi := 35) (na := 1) (ci := 4) (i := 14) (as := []) (r := []) (rv := none) (σ1 := mSS M32) ⟨137, by decide +kernel⟩ rfl rfl rfl rfl (Rr_readSum_r N M (d + 0) q31) ?_
  show mRunF _ _ (140, [some (.ref 14), none, none, none], [], mSS M32)
  refine mRunF.sg (mSl mk_34 72 5) (g := (150, [some (.ref 14), none, none, none], [.int 0, .int 7, .ref 16], mSS M32)) (by decide +kernel) rfl ?_
  obtain ⟨r35, M34, q33, h⟩ := bW_of h
  refine R_callV (mi := 14) (na := 3) (ci := 2) (i := 16) (as := [.int 7, .int 0]) (r := []) (rv := some (.int r35)) (σ1 := mSS M34) ⟨140, by decide +kernel⟩ rfl rfl rfl rfl (La_put_r N 7 0 M32 (d + 3) q33) ?_
  show mRunF _ _ (153, [some (.ref 14), none, none, none], [.int r35], mSS M34)
  refine mRunF.sg (mSl mk_34 78 1) (g := (154, [some (.ref 14), none, none, none], [], mSS M34)) (by decide +kernel) rfl ?_
  cases h
  exact R_vret (by decide +kernel)
set_option maxRecDepth 100000 in
set_option maxHeartbeats 4000000 in
theorem Rr_readLaw_20_r {N d : Nat}   {M' : mS} : ∀ {n : Nat} {x2 : Int32} {M : mS}, Rr_readLaw_20 N n x2 M = some M' → mRunF (mCd 34) (mEE (mMet mP mTx (d + 4)) (none) none M') (20, [some (.ref 14), none, some (.int x2), none], [], mSS M) := by
  intro n
  induction n with
  | zero => intro x2 M h; cases h
  | succ n ih =>
    replace ih := @ih
    intro x2 M h
    unfold Rr_readLaw_20 at h
    refine mRunF.sg (mSl mk_34 11 2) (g := (22, [some (.ref 14), none, some (.int x2), none], [.int 4, .int x2], mSS M)) (by decide +kernel) rfl ?_
    refine R_igt (t := 136) ⟨114, by decide +kernel⟩ (fun q => ?_) (fun q => ?_)
    · rw [if_pos q] at h
      refine mRunF.forget [true, true, false, true] ?_
      exact Rr_readLaw_136_r h
    · rw [if_neg q] at h
      refine mRunF.sg (mSl mk_34 14 4) (g := (33, [some (.ref 14), none, some (.int x2), none], [.int (M.1 14 8), .ref 26], mSS M)) (by decide +kernel) rfl ?_
      obtain ⟨r37, q36, h⟩ := bR_of h
      refine R_callV (mi := 74) (na := 2) (ci := 9) (i := 26) (as := [.int (M.1 14 8)]) (r := []) (rv := some (.int r37)) (σ1 := mSS M) ⟨53, by decide +kernel⟩ rfl rfl rfl rfl (Tk_kindOf_r N (M.1 14 8) M (d + 3) q36) ?_
      show mRunF _ _ (36, [some (.ref 14), none, some (.int x2), none], [.int r37], mSS M)
      refine mRunF.sg (mSl mk_34 19 1) (g := (38, [some (.ref 14), none, some (.int x2), none], [.int 8, .int r37], mSS M)) (by decide +kernel) rfl ?_
      refine R_ine (t := 136) ⟨98, by decide +kernel⟩ (fun q => ?_) (fun q => ?_)
      · rw [if_pos q] at h
        refine mRunF.sg (mSl mk_34 21 2) (g := (43, [some (.ref 14), none, some (.int x2), none], [.int 4, .int x2], mSS M)) (by decide +kernel) rfl ?_
        refine R_ine (t := 51) ⟨8, by decide +kernel⟩ (fun q => ?_) (fun q => ?_)
        · rw [if_pos q] at h
          refine mRunF.sg (mSl mk_34 24 2) (g := (48, [some (.ref 14), none, some (.int x2), none], [.int 2, .ref 14], mSS M)) (by decide +kernel) rfl ?_
          obtain ⟨M39, q38, h⟩ := bV_of h
          refine R_callV (mi := 46) (na := 2) (ci := 4) (i := 14) (as := [.int 2]) (r := []) (rv := none) (σ1 := mSS M39) ⟨93, by decide +kernel⟩ rfl rfl rfl rfl (Rr_failForm_r N 2 M (d + 3) q38) ?_
          show mRunF _ _ (51, [some (.ref 14), none, some (.int x2), none], [], mSS M39)
          exact Rr_readLaw_51_r (fun y0 y1 hh => @ih y0 y1 hh) h
        · rw [if_neg q] at h
          exact Rr_readLaw_51_r (fun y0 y1 hh => @ih y0 y1 hh) h
      · rw [if_neg q] at h
        refine mRunF.forget [true, true, false, true] ?_
        exact Rr_readLaw_136_r h
set_option maxRecDepth 100000 in
set_option maxHeartbeats 4000000 in
theorem Rr_readLaw_r (N : Nat) (a0 : Int32) (M : mS) {M' : mS} (d : Nat) (h : Rr_readLaw N a0 M = some M') : mMet mP mTx (d + 5) 34 [.ref 14, .int a0] (mSS M) none (mSS M') := by
  refine mMet_i ⟨Nat.le_refl _, Nat.le_refl _, Nat.le_of_ble_eq_true rfl⟩ ?_
  unfold Rr_readLaw at h
  show mRunF (mCd 34) (mEE (mMet mP mTx (d + 4)) (none) none M') (0, [some (.ref 14), some (.int a0), none, none], [], mSS M)
  refine mRunF.sg (mSl mk_34 0 2) (g := (3, [some (.ref 14), some (.int a0), none, none], [.int 23, .ref 14], mSS M)) (by decide +kernel) rfl ?_
  obtain ⟨r42, M41, q40, h⟩ := bW_of h
  refine R_callV (mi := 41) (na := 2) (ci := 4) (i := 14) (as := [.int 23]) (r := []) (rv := some (.int r42)) (σ1 := mSS M41) ⟨78, by decide +kernel⟩ rfl rfl rfl rfl (Rr_take_r N 23 M (d + 2) q40) ?_
  have b43 := mBool rfl (Rr_take_r N 23 M (d + 2) q40)
  show mRunF _ _ (6, [some (.ref 14), some (.int a0), none, none], [.int r42], mSS M41)
  refine mRunF.sg (mSl mk_34 3 5) (g := (15, [some (.ref 14), some (.int a0), none, none], [.int a0, .ref 16], mSS M41)) (by decide +kernel) rfl ?_
  obtain ⟨M45, q44, h⟩ := bV_of h
  refine R_callV (mi := 13) (na := 2) (ci := 2) (i := 16) (as := [.int a0]) (r := []) (rv := none) (σ1 := mSS M45) ⟨132, by decide +kernel⟩ rfl rfl rfl rfl (La_open_r N a0 M41 (d + 3) q44) ?_
  show mRunF _ _ (18, [some (.ref 14), some (.int a0), none, none], [], mSS M45)
  refine mRunF.sg (mSl mk_34 9 2) (g := (20, [some (.ref 14), some (.int a0), some (.int 0), none], [], mSS M45)) (by decide +kernel) rfl ?_
  refine mRunF.forget [true, false, true, true] ?_
  exact Rr_readLaw_20_r h
set_option maxRecDepth 100000 in
set_option maxHeartbeats 4000000 in
theorem Tk_placeOf_r (N : Nat) (a0 : Int32) (M : mS) {r : Int32} (d : Nat) (h : Tk_placeOf N a0 M = some r) : mMet mP mTx (d + 1) 75 [.ref 26, .int a0] (mSS M) (some (.int r)) (mSS M) := by
  refine mMet_i ⟨Nat.le_refl _, Nat.le_refl _, Nat.le_of_ble_eq_true rfl⟩ ?_
  unfold Tk_placeOf at h
  show mRunF (mCd 75) (mEE (mMet mP mTx (d + 0)) (some .int) (some (.int r)) M) (0, [some (.ref 26), some (.int a0)], [], mSS M)
  refine mRunF.sg (mSl mk_75 0 1) (g := (1, [some (.ref 26), some (.int a0)], [.int a0], mSS M)) (by decide +kernel) rfl ?_
  refine R_lt (t := 21) ⟨20, by decide +kernel⟩ (fun q => ?_) (fun q => ?_)
  · rw [if_pos q] at h
    refine mRunF.sg (mSl mk_75 11 1) (g := (22, [some (.ref 26), some (.int a0)], [.int 0], mSS M)) (by decide +kernel) rfl ?_
    cases h
    exact R_iret (by decide +kernel)
  · rw [if_neg q] at h
    refine mRunF.sg (mSl mk_75 2 3) (g := (9, [some (.ref 26), some (.int a0)], [.int (M.1 26 4), .int a0], mSS M)) (by decide +kernel) rfl ?_
    refine R_ige (t := 21) ⟨12, by decide +kernel⟩ (fun q => ?_) (fun q => ?_)
    · rw [if_pos q] at h
      refine mRunF.sg (mSl mk_75 11 1) (g := (22, [some (.ref 26), some (.int a0)], [.int 0], mSS M)) (by decide +kernel) rfl ?_
      cases h
      exact R_iret (by decide +kernel)
    · rw [if_neg q] at h
      refine mRunF.sg (mSl mk_75 6 3) (g := (17, [some (.ref 26), some (.int a0)], [.int a0, .ref 29], mSS M)) (by decide +kernel) rfl ?_
      obtain ⟨g1, h⟩ := grd_of h
      refine R_iald (by decide +kernel) rfl g1 ?_
      refine mRunF.sg (mSl mk_75 10 1) (g := (22, [some (.ref 26), some (.int a0)], [.int (M.1 29 a0.toNatClampNeg)], mSS M)) (by decide +kernel) rfl ?_
      cases h
      exact R_iret (by decide +kernel)
set_option maxRecDepth 100000 in
set_option maxHeartbeats 4000000 in
theorem Rr_failSense_r (N : Nat) (a0 : Int32) (M : mS) {M' : mS} (d : Nat) (h : Rr_failSense N a0 M = some M') : mMet mP mTx (d + 2) 47 [.ref 14, .int a0] (mSS M) none (mSS M') := by
  refine mMet_i ⟨Nat.le_refl _, Nat.le_refl _, Nat.le_of_ble_eq_true rfl⟩ ?_
  unfold Rr_failSense at h
  show mRunF (mCd 47) (mEE (mMet mP mTx (d + 1)) (none) none M') (0, [some (.ref 14), some (.int a0)], [], mSS M)
  refine mRunF.sg (mSl mk_47 0 2) (g := (4, [some (.ref 14), some (.int a0)], [.int (M.1 14 10)], mSS M)) (by decide +kernel) rfl ?_
  refine R_ne (t := 29) ⟨25, by decide +kernel⟩ (fun q => ?_) (fun q => ?_)
  · rw [if_pos q] at h
    refine mRunF.sg (mSl mk_47 3 3) (g := (12, [some (.ref 14), some (.int a0)], [], mSS (mWI M 14 10 a0))) (by decide +kernel) rfl ?_
    obtain ⟨M1, hv, h⟩ := nxt_ex h
    rw [← hv]
    clear hv
    refine mRunF.sg (mSl mk_47 6 7) (g := (23, [some (.ref 14), some (.int a0)], [.int ((M1.1 14 8) - 1), .ref 26, .ref 14], mSS M1)) (by decide +kernel) rfl ?_
    obtain ⟨r3, q2, h⟩ := bR_of h
    refine R_callV (mi := 75) (na := 2) (ci := 9) (i := 26) (as := [.int ((M1.1 14 8) - 1)]) (r := [.ref 14]) (rv := some (.int r3)) (σ1 := mSS M1) ⟨63, by decide +kernel⟩ rfl rfl rfl rfl (Tk_placeOf_r N ((M1.1 14 8) - 1) M1 (d + 0) q2) ?_
    show mRunF _ _ (26, [some (.ref 14), some (.int a0)], [.int r3, .ref 14], mSS M1)
    refine mRunF.sg (mSl mk_47 14 1) (g := (29, [some (.ref 14), some (.int a0)], [], mSS (mWI M1 14 11 r3))) (by decide +kernel) rfl ?_
    obtain ⟨M4, hv, h⟩ := nxt_ex h
    rw [← hv]
    clear hv
    cases h
    exact R_vret (by decide +kernel)
  · rw [if_neg q] at h
    cases h
    exact R_vret (by decide +kernel)
set_option maxRecDepth 100000 in
set_option maxHeartbeats 4000000 in
theorem Rr_takeInt_32_r {N d : Nat}  {M : mS} {x3 : Int32} {r : Int32} {M' : mS} (h : Rr_takeInt_32 N x3 M = some (r, M')) : mRunF (mCd 42) (mEE (mMet mP mTx (d + 2)) (some .int) (some (.int r)) M') (32, [some (.ref 14), none, none, some (.int x3)], [], mSS M) := by
  unfold Rr_takeInt_32 at h
  refine mRunF.sg (mSl mk_42 17 2) (g := (34, [some (.ref 14), none, none, some (.int x3)], [.int 5, .ref 14], mSS M)) (by decide +kernel) rfl ?_
  obtain ⟨M2, q1, h⟩ := bV_of h
  refine R_callV (mi := 47) (na := 2) (ci := 4) (i := 14) (as := [.int 5]) (r := []) (rv := none) (σ1 := mSS M2) ⟨181, by decide +kernel⟩ rfl rfl rfl rfl (Rr_failSense_r N 5 M (d + 0) q1) ?_
  show mRunF _ _ (37, [some (.ref 14), none, none, some (.int x3)], [], mSS M2)
  refine mRunF.sg (mSl mk_42 20 1) (g := (38, [some (.ref 14), none, none, some (.int x3)], [.int x3], mSS M2)) (by decide +kernel) rfl ?_
  cases h
  exact R_iret (by decide +kernel)
set_option maxRecDepth 100000 in
set_option maxHeartbeats 4000000 in
theorem Rr_takeInt_r (N : Nat) (a0 : Int32) (a1 : Int32) (M : mS) {r : Int32} {M' : mS} (d : Nat) (h : Rr_takeInt N a0 a1 M = some (r, M')) : mMet mP mTx (d + 3) 42 [.ref 14, .int a0, .int a1] (mSS M) (some (.int r)) (mSS M') := by
  refine mMet_i ⟨Nat.le_refl _, Nat.le_refl _, Nat.le_of_ble_eq_true rfl⟩ ?_
  unfold Rr_takeInt at h
  show mRunF (mCd 42) (mEE (mMet mP mTx (d + 2)) (some .int) (some (.int r)) M') (0, [some (.ref 14), some (.int a0), some (.int a1), none], [], mSS M)
  refine mRunF.sg (mSl mk_42 0 4) (g := (8, [some (.ref 14), some (.int a0), some (.int a1), none], [.int (M.1 14 8), .ref 26], mSS M)) (by decide +kernel) rfl ?_
  obtain ⟨r4, q3, h⟩ := bR_of h
  refine R_callV (mi := 76) (na := 2) (ci := 9) (i := 26) (as := [.int (M.1 14 8)]) (r := []) (rv := some (.long r4)) (σ1 := mSS M) ⟨166, by decide +kernel⟩ rfl rfl rfl rfl (Tk_valueOf_r N (M.1 14 8) M (d + 1) q3) ?_
  show mRunF _ _ (11, [some (.ref 14), some (.int a0), some (.int a1), none], [.long r4], mSS M)
  refine mRunF.sg (mSl mk_42 5 2) (g := (13, [some (.ref 14), some (.int a0), some (.int a1), some (.int r4.toInt32)], [], mSS M)) (by decide +kernel) rfl ?_
  obtain ⟨v5, hv, h⟩ := nxt_ex h
  rw [← hv]
  clear hv
  refine mRunF.sg (mSl mk_42 7 2) (g := (16, [some (.ref 14), some (.int a0), some (.int a1), some (.int v5)], [.int 21, .ref 14], mSS M)) (by decide +kernel) rfl ?_
  obtain ⟨r8, M7, q6, h⟩ := bW_of h
  refine R_callV (mi := 41) (na := 2) (ci := 4) (i := 14) (as := [.int 21]) (r := []) (rv := some (.int r8)) (σ1 := mSS M7) ⟨78, by decide +kernel⟩ rfl rfl rfl rfl (Rr_take_r N 21 M (d + 0) q6) ?_
  have b9 := mBool rfl (Rr_take_r N 21 M (d + 0) q6)
  show mRunF _ _ (19, [some (.ref 14), some (.int a0), some (.int a1), some (.int v5)], [.int r8], mSS M7)
  refine R_eq (t := 37) ⟨18, by decide +kernel⟩ (fun q => ?_) (fun q => ?_)
  · rw [if_pos q] at h
    refine mRunF.sg (mSl mk_42 20 1) (g := (38, [some (.ref 14), some (.int a0), some (.int a1), some (.int v5)], [.int v5], mSS M7)) (by decide +kernel) rfl ?_
    cases h
    exact R_iret (by decide +kernel)
  · rw [if_neg q] at h
    refine mRunF.sg (mSl mk_42 11 2) (g := (24, [some (.ref 14), some (.int a0), some (.int a1), some (.int v5)], [.int a0, .int v5], mSS M7)) (by decide +kernel) rfl ?_
    refine R_ilt (t := 32) ⟨8, by decide +kernel⟩ (fun q => ?_) (fun q => ?_)
    · rw [if_pos q] at h
      refine mRunF.forget [true, false, false, true] ?_
      exact Rr_takeInt_32_r h
    · rw [if_neg q] at h
      refine mRunF.sg (mSl mk_42 14 2) (g := (29, [some (.ref 14), some (.int a0), some (.int a1), some (.int v5)], [.int a1, .int v5], mSS M7)) (by decide +kernel) rfl ?_
      refine R_ile (t := 37) ⟨8, by decide +kernel⟩ (fun q => ?_) (fun q => ?_)
      · rw [if_pos q] at h
        refine mRunF.sg (mSl mk_42 20 1) (g := (38, [some (.ref 14), some (.int a0), some (.int a1), some (.int v5)], [.int v5], mSS M7)) (by decide +kernel) rfl ?_
        cases h
        exact R_iret (by decide +kernel)
      · rw [if_neg q] at h
        refine mRunF.forget [true, false, false, true] ?_
        exact Rr_takeInt_32_r h
set_option maxRecDepth 100000 in
set_option maxHeartbeats 4000000 in
theorem Rr_isAmong_3_r {N d : Nat}  {M : mS}  {r : Int32} : ∀ {n : Nat} {x1 : Int32} {x2 : Int64} {x4 : Int32}, Rr_isAmong_3 N M n x1 x2 x4 = some r → mRunF (mCd 45) (mEE (mMet mP mTx (d + 0)) (some .boolean) (some (.int r)) M) (3, [some (.ref 31), some (.int x1), some (.long x2), none, some (.int x4)], [], mSS M) := by
  intro n
  induction n with
  | zero => intro x1 x2 x4 h; cases h
  | succ n ih =>
    replace ih := @ih
    intro x1 x2 x4 h
    unfold Rr_isAmong_3 at h
    refine mRunF.sg (mSl mk_45 2 2) (g := (6, [some (.ref 31), some (.int x1), some (.long x2), none, some (.int x4)], [.int x1, .int x4], mSS M)) (by decide +kernel) rfl ?_
    refine R_ige (t := 33) ⟨27, by decide +kernel⟩ (fun q => ?_) (fun q => ?_)
    · rw [if_pos q] at h
      refine mRunF.sg (mSl mk_45 19 1) (g := (34, [some (.ref 31), some (.int x1), some (.long x2), none, some (.int x4)], [.int 0], mSS M)) (by decide +kernel) rfl ?_
      cases h
      exact R_zret (by decide +kernel) (Or.inl rfl)
    · rw [if_neg q] at h
      refine mRunF.sg (mSl mk_45 5 3) (g := (13, [some (.ref 31), some (.int x1), some (.long x2), none, some (.int x4)], [.int (Int32.ofNat 4), .int x4], mSS M)) (by decide +kernel) rfl ?_
      refine R_ige (t := 33) ⟨20, by decide +kernel⟩ (fun q => ?_) (fun q => ?_)
      · rw [if_pos q] at h
        refine mRunF.sg (mSl mk_45 19 1) (g := (34, [some (.ref 31), some (.int x1), some (.long x2), none, some (.int x4)], [.int 0], mSS M)) (by decide +kernel) rfl ?_
        cases h
        exact R_zret (by decide +kernel) (Or.inl rfl)
      · rw [if_neg q] at h
        refine mRunF.sg (mSl mk_45 9 2) (g := (19, [some (.ref 31), some (.int x1), some (.long x2), none, some (.int x4)], [.int x4, .ref 31], mSS M)) (by decide +kernel) rfl ?_
        obtain ⟨g1, h⟩ := grd_of h
        refine R_lald (by decide +kernel) rfl g1 ?_
        refine mRunF.sg (mSl mk_45 12 2) (g := (22, [some (.ref 31), some (.int x1), some (.long x2), none, some (.int x4)], [.int (lg_cmp (M.2 31 x4.toNatClampNeg) x2)], mSS M)) (by decide +kernel) rfl ?_
        refine R_ne (t := 27) ⟨5, by decide +kernel⟩ (fun q => ?_) (fun q => ?_)
        · rw [if_pos q] at h
          refine mRunF.sg (mSl mk_45 15 1) (g := (26, [some (.ref 31), some (.int x1), some (.long x2), none, some (.int x4)], [.int 1], mSS M)) (by decide +kernel) rfl ?_
          cases h
          exact R_zret (by decide +kernel) (Or.inr rfl)
        · rw [if_neg q] at h
          refine mRunF.sg (mSl mk_45 17 2) (g := (3, [some (.ref 31), some (.int x1), some (.long x2), none, some (.int (x4 + 1))], [], mSS M)) (by decide +kernel) rfl ?_
          exact @ih _ _ _ h
set_option maxRecDepth 100000 in
set_option maxHeartbeats 4000000 in
theorem Rr_isAmong_r (N : Nat) (a0 : Int32) (a1 : Int64) (M : mS) {r : Int32} (d : Nat) (h : Rr_isAmong N a0 a1 M = some r) : mMet mP mTx (d + 1) 45 [.ref 31, .int a0, .long a1] (mSS M) (some (.int r)) (mSS M) := by
  refine mMet_i ⟨Nat.le_refl _, Nat.le_refl _, Nat.le_of_ble_eq_true rfl⟩ ?_
  unfold Rr_isAmong at h
  show mRunF (mCd 45) (mEE (mMet mP mTx (d + 0)) (some .boolean) (some (.int r)) M) (0, [some (.ref 31), some (.int a0), some (.long a1), none, none], [], mSS M)
  refine mRunF.sg (mSl mk_45 0 2) (g := (3, [some (.ref 31), some (.int a0), some (.long a1), none, some (.int 0)], [], mSS M)) (by decide +kernel) rfl ?_
  exact Rr_isAmong_3_r h
set_option maxRecDepth 100000 in
set_option maxHeartbeats 4000000 in
theorem Rr_isAmong_s1_3_r {N d : Nat}  {M : mS}  {r : Int32} : ∀ {n : Nat} {x1 : Int32} {x2 : Int64} {x4 : Int32}, Rr_isAmong_s1_3 N M n x1 x2 x4 = some r → mRunF (mCd 45) (mEE (mMet mP mTx (d + 0)) (some .boolean) (some (.int r)) M) (3, [some (.ref 32), some (.int x1), some (.long x2), none, some (.int x4)], [], mSS M) := by
  intro n
  induction n with
  | zero => intro x1 x2 x4 h; cases h
  | succ n ih =>
    replace ih := @ih
    intro x1 x2 x4 h
    unfold Rr_isAmong_s1_3 at h
    refine mRunF.sg (mSl mk_45 2 2) (g := (6, [some (.ref 32), some (.int x1), some (.long x2), none, some (.int x4)], [.int x1, .int x4], mSS M)) (by decide +kernel) rfl ?_
    refine R_ige (t := 33) ⟨27, by decide +kernel⟩ (fun q => ?_) (fun q => ?_)
    · rw [if_pos q] at h
      refine mRunF.sg (mSl mk_45 19 1) (g := (34, [some (.ref 32), some (.int x1), some (.long x2), none, some (.int x4)], [.int 0], mSS M)) (by decide +kernel) rfl ?_
      cases h
      exact R_zret (by decide +kernel) (Or.inl rfl)
    · rw [if_neg q] at h
      refine mRunF.sg (mSl mk_45 5 3) (g := (13, [some (.ref 32), some (.int x1), some (.long x2), none, some (.int x4)], [.int (Int32.ofNat 5), .int x4], mSS M)) (by decide +kernel) rfl ?_
      refine R_ige (t := 33) ⟨20, by decide +kernel⟩ (fun q => ?_) (fun q => ?_)
      · rw [if_pos q] at h
        refine mRunF.sg (mSl mk_45 19 1) (g := (34, [some (.ref 32), some (.int x1), some (.long x2), none, some (.int x4)], [.int 0], mSS M)) (by decide +kernel) rfl ?_
        cases h
        exact R_zret (by decide +kernel) (Or.inl rfl)
      · rw [if_neg q] at h
        refine mRunF.sg (mSl mk_45 9 2) (g := (19, [some (.ref 32), some (.int x1), some (.long x2), none, some (.int x4)], [.int x4, .ref 32], mSS M)) (by decide +kernel) rfl ?_
        obtain ⟨g1, h⟩ := grd_of h
        refine R_lald (by decide +kernel) rfl g1 ?_
        refine mRunF.sg (mSl mk_45 12 2) (g := (22, [some (.ref 32), some (.int x1), some (.long x2), none, some (.int x4)], [.int (lg_cmp (M.2 32 x4.toNatClampNeg) x2)], mSS M)) (by decide +kernel) rfl ?_
        refine R_ne (t := 27) ⟨5, by decide +kernel⟩ (fun q => ?_) (fun q => ?_)
        · rw [if_pos q] at h
          refine mRunF.sg (mSl mk_45 15 1) (g := (26, [some (.ref 32), some (.int x1), some (.long x2), none, some (.int x4)], [.int 1], mSS M)) (by decide +kernel) rfl ?_
          cases h
          exact R_zret (by decide +kernel) (Or.inr rfl)
        · rw [if_neg q] at h
          refine mRunF.sg (mSl mk_45 17 2) (g := (3, [some (.ref 32), some (.int x1), some (.long x2), none, some (.int (x4 + 1))], [], mSS M)) (by decide +kernel) rfl ?_
          exact @ih _ _ _ h
set_option maxRecDepth 100000 in
set_option maxHeartbeats 4000000 in
theorem Rr_isAmong_s1_r (N : Nat) (a0 : Int32) (a1 : Int64) (M : mS) {r : Int32} (d : Nat) (h : Rr_isAmong_s1 N a0 a1 M = some r) : mMet mP mTx (d + 1) 45 [.ref 32, .int a0, .long a1] (mSS M) (some (.int r)) (mSS M) := by
  refine mMet_i ⟨Nat.le_refl _, Nat.le_refl _, Nat.le_of_ble_eq_true rfl⟩ ?_
  unfold Rr_isAmong_s1 at h
  show mRunF (mCd 45) (mEE (mMet mP mTx (d + 0)) (some .boolean) (some (.int r)) M) (0, [some (.ref 32), some (.int a0), some (.long a1), none, none], [], mSS M)
  refine mRunF.sg (mSl mk_45 0 2) (g := (3, [some (.ref 32), some (.int a0), some (.long a1), none, some (.int 0)], [], mSS M)) (by decide +kernel) rfl ?_
  exact Rr_isAmong_s1_3_r h
set_option maxRecDepth 100000 in
set_option maxHeartbeats 4000000 in
theorem Rr_takeNewName_57_r {N d : Nat}  {M : mS} {x1 : Int64} {r : Int64} {M' : mS} (h : Rr_takeNewName_57 N x1 M = some (r, M')) : mRunF (mCd 43) (mEE (mMet mP mTx (d + 2)) (some .long) (some (.long r)) M') (57, [some (.ref 14), some (.long x1), none], [], mSS M) := by
  unfold Rr_takeNewName_57 at h
  refine mRunF.sg (mSl mk_43 26 2) (g := (59, [some (.ref 14), some (.long x1), none], [.int 3, .ref 14], mSS M)) (by decide +kernel) rfl ?_
  obtain ⟨M2, q1, h⟩ := bV_of h
  refine R_callV (mi := 47) (na := 2) (ci := 4) (i := 14) (as := [.int 3]) (r := []) (rv := none) (σ1 := mSS M2) ⟨181, by decide +kernel⟩ rfl rfl rfl rfl (Rr_failSense_r N 3 M (d + 0) q1) ?_
  show mRunF _ _ (62, [some (.ref 14), some (.long x1), none], [], mSS M2)
  refine mRunF.sg (mSl mk_43 29 1) (g := (63, [some (.ref 14), some (.long x1), none], [.long x1], mSS M2)) (by decide +kernel) rfl ?_
  cases h
  exact R_lret (by decide +kernel)
set_option maxRecDepth 100000 in
set_option maxHeartbeats 4000000 in
theorem Rr_takeNewName_r (N : Nat)  (M : mS) {r : Int64} {M' : mS} (d : Nat) (h : Rr_takeNewName N M = some (r, M')) : mMet mP mTx (d + 3) 43 [.ref 14] (mSS M) (some (.long r)) (mSS M') := by
  refine mMet_i ⟨Nat.le_refl _, Nat.le_refl _, Nat.le_of_ble_eq_true rfl⟩ ?_
  unfold Rr_takeNewName at h
  show mRunF (mCd 43) (mEE (mMet mP mTx (d + 2)) (some .long) (some (.long r)) M') (0, [some (.ref 14), none, none], [], mSS M)
  refine mRunF.sg (mSl mk_43 0 4) (g := (8, [some (.ref 14), none, none], [.int (M.1 14 8), .ref 26], mSS M)) (by decide +kernel) rfl ?_
  obtain ⟨r4, q3, h⟩ := bR_of h
  refine R_callV (mi := 76) (na := 2) (ci := 9) (i := 26) (as := [.int (M.1 14 8)]) (r := []) (rv := some (.long r4)) (σ1 := mSS M) ⟨166, by decide +kernel⟩ rfl rfl rfl rfl (Tk_valueOf_r N (M.1 14 8) M (d + 1) q3) ?_
  show mRunF _ _ (11, [some (.ref 14), none, none], [.long r4], mSS M)
  refine mRunF.sg (mSl mk_43 5 3) (g := (15, [some (.ref 14), some (.long r4), none], [.int 20, .ref 14], mSS M)) (by decide +kernel) rfl ?_
  obtain ⟨r7, M6, q5, h⟩ := bW_of h
  refine R_callV (mi := 41) (na := 2) (ci := 4) (i := 14) (as := [.int 20]) (r := []) (rv := some (.int r7)) (σ1 := mSS M6) ⟨78, by decide +kernel⟩ rfl rfl rfl rfl (Rr_take_r N 20 M (d + 0) q5) ?_
  have b8 := mBool rfl (Rr_take_r N 20 M (d + 0) q5)
  show mRunF _ _ (18, [some (.ref 14), some (.long r4), none], [.int r7], mSS M6)
  refine R_eq (t := 62) ⟨44, by decide +kernel⟩ (fun q => ?_) (fun q => ?_)
  · rw [if_pos q] at h
    refine mRunF.sg (mSl mk_43 29 1) (g := (63, [some (.ref 14), some (.long r4), none], [.long r4], mSS M6)) (by decide +kernel) rfl ?_
    cases h
    exact R_lret (by decide +kernel)
  · rw [if_neg q] at h
    refine mRunF.sg (mSl mk_43 10 6) (g := (33, [some (.ref 14), some (.long r4), none], [.long r4, .int (M6.1 15 7), .ref 31], mSS M6)) (by decide +kernel) rfl ?_
    obtain ⟨r10, q9, h⟩ := bR_of h
    refine R_callS (mi := 45) (na := 3) (as := [.ref 31, .int (M6.1 15 7), .long r4]) (r := []) (rv := some (.int r10)) (σ1 := mSS M6) ⟨184, by decide +kernel⟩ rfl rfl rfl (Rr_isAmong_r N (M6.1 15 7) r4 M6 (d + 1) q9) ?_
    have b11 := mBool rfl (Rr_isAmong_r N (M6.1 15 7) r4 M6 (d + 1) q9)
    show mRunF _ _ (36, [some (.ref 14), some (.long r4), none], [.int r10], mSS M6)
    refine R_ne (t := 57) ⟨21, by decide +kernel⟩ (fun q => ?_) (fun q => ?_)
    · rw [if_pos q] at h
      refine mRunF.sg (mSl mk_43 18 6) (g := (51, [some (.ref 14), some (.long r4), none], [.long r4, .int (M6.1 15 8), .ref 32], mSS M6)) (by decide +kernel) rfl ?_
      obtain ⟨r13, q12, h⟩ := bR_of h
      refine R_callS (mi := 45) (na := 3) (as := [.ref 32, .int (M6.1 15 8), .long r4]) (r := []) (rv := some (.int r13)) (σ1 := mSS M6) ⟨184, by decide +kernel⟩ rfl rfl rfl (Rr_isAmong_s1_r N (M6.1 15 8) r4 M6 (d + 1) q12) ?_
      have b14 := mBool rfl (Rr_isAmong_s1_r N (M6.1 15 8) r4 M6 (d + 1) q12)
      show mRunF _ _ (54, [some (.ref 14), some (.long r4), none], [.int r13], mSS M6)
      refine R_eq (t := 62) ⟨8, by decide +kernel⟩ (fun q => ?_) (fun q => ?_)
      · rw [if_pos q] at h
        refine mRunF.sg (mSl mk_43 29 1) (g := (63, [some (.ref 14), some (.long r4), none], [.long r4], mSS M6)) (by decide +kernel) rfl ?_
        cases h
        exact R_lret (by decide +kernel)
      · rw [if_neg q] at h
        exact Rr_takeNewName_57_r h
    · rw [if_neg q] at h
      exact Rr_takeNewName_57_r h
set_option maxRecDepth 100000 in
set_option maxHeartbeats 4000000 in
theorem Rr_takeDialName_61_r {N d : Nat}  {M : mS} {x3 : Int32} {r : Int32} {M' : mS} (h : Rr_takeDialName_61 N x3 M = some (r, M')) : mRunF (mCd 44) (mEE (mMet mP mTx (d + 2)) (some .int) (some (.int r)) M') (61, [some (.ref 14), none, none, some (.int x3), none], [], mSS M) := by
  unfold Rr_takeDialName_61 at h
  refine mRunF.sg (mSl mk_44 31 1) (g := (62, [some (.ref 14), none, none, some (.int x3), none], [.int x3], mSS M)) (by decide +kernel) rfl ?_
  refine R_eq (t := 70) ⟨8, by decide +kernel⟩ (fun q => ?_) (fun q => ?_)
  · rw [if_pos q] at h
    refine mRunF.sg (mSl mk_44 36 1) (g := (71, [some (.ref 14), none, none, some (.int x3), none], [.int 0], mSS M)) (by decide +kernel) rfl ?_
    cases h
    exact R_iret (by decide +kernel)
  · rw [if_neg q] at h
    refine mRunF.sg (mSl mk_44 33 2) (g := (67, [some (.ref 14), none, none, some (.int x3), none], [.int 4, .ref 14], mSS M)) (by decide +kernel) rfl ?_
    obtain ⟨M2, q1, h⟩ := bV_of h
    refine R_callV (mi := 47) (na := 2) (ci := 4) (i := 14) (as := [.int 4]) (r := []) (rv := none) (σ1 := mSS M2) ⟨181, by decide +kernel⟩ rfl rfl rfl rfl (Rr_failSense_r N 4 M (d + 0) q1) ?_
    show mRunF _ _ (70, [some (.ref 14), none, none, some (.int x3), none], [], mSS M2)
    refine mRunF.sg (mSl mk_44 36 1) (g := (71, [some (.ref 14), none, none, some (.int x3), none], [.int 0], mSS M2)) (by decide +kernel) rfl ?_
    cases h
    exact R_iret (by decide +kernel)
set_option maxRecDepth 100000 in
set_option maxHeartbeats 4000000 in
theorem Rr_takeDialName_22_r {N d : Nat}   {r : Int32} {M' : mS} : ∀ {n : Nat} {x1 : Int64} {x3 : Int32} {x4 : Int32} {M : mS}, Rr_takeDialName_22 N n x1 x3 x4 M = some (r, M') → mRunF (mCd 44) (mEE (mMet mP mTx (d + 2)) (some .int) (some (.int r)) M') (22, [some (.ref 14), some (.long x1), none, some (.int x3), some (.int x4)], [], mSS M) := by
  intro n
  induction n with
  | zero => intro x1 x3 x4 M h; cases h
  | succ n ih =>
    replace ih := @ih
    intro x1 x3 x4 M h
    unfold Rr_takeDialName_22 at h
    refine mRunF.sg (mSl mk_44 12 4) (g := (31, [some (.ref 14), some (.long x1), none, some (.int x3), some (.int x4)], [.int (M.1 15 7), .int x4], mSS M)) (by decide +kernel) rfl ?_
    refine R_ige (t := 61) ⟨30, by decide +kernel⟩ (fun q => ?_) (fun q => ?_)
    · rw [if_pos q] at h
      refine mRunF.forget [true, false, true, true, false] ?_
      exact Rr_takeDialName_61_r h
    · rw [if_neg q] at h
      refine mRunF.sg (mSl mk_44 17 2) (g := (37, [some (.ref 14), some (.long x1), none, some (.int x3), some (.int x4)], [.int 4, .int x4], mSS M)) (by decide +kernel) rfl ?_
      refine R_ige (t := 61) ⟨24, by decide +kernel⟩ (fun q => ?_) (fun q => ?_)
      · rw [if_pos q] at h
        refine mRunF.forget [true, false, true, true, false] ?_
        exact Rr_takeDialName_61_r h
      · rw [if_neg q] at h
        refine mRunF.sg (mSl mk_44 20 3) (g := (46, [some (.ref 14), some (.long x1), none, some (.int x3), some (.int x4)], [.int x4, .ref 31], mSS M)) (by decide +kernel) rfl ?_
        obtain ⟨g3, h⟩ := grd_of h
        refine R_lald (by decide +kernel) rfl g3 ?_
        refine mRunF.sg (mSl mk_44 24 2) (g := (49, [some (.ref 14), some (.long x1), none, some (.int x3), some (.int x4)], [.int (lg_cmp (M.2 31 x4.toNatClampNeg) x1)], mSS M)) (by decide +kernel) rfl ?_
        refine R_ne (t := 55) ⟨6, by decide +kernel⟩ (fun q => ?_) (fun q => ?_)
        · rw [if_pos q] at h
          refine mRunF.sg (mSl mk_44 27 1) (g := (54, [some (.ref 14), some (.long x1), none, some (.int x3), some (.int x4)], [.int x4], mSS M)) (by decide +kernel) rfl ?_
          cases h
          exact R_iret (by decide +kernel)
        · rw [if_neg q] at h
          refine mRunF.sg (mSl mk_44 29 2) (g := (22, [some (.ref 14), some (.long x1), none, some (.int x3), some (.int (x4 + 1))], [], mSS M)) (by decide +kernel) rfl ?_
          exact @ih _ _ _ _ h
set_option maxRecDepth 100000 in
set_option maxHeartbeats 4000000 in
theorem Rr_takeDialName_r (N : Nat)  (M : mS) {r : Int32} {M' : mS} (d : Nat) (h : Rr_takeDialName N M = some (r, M')) : mMet mP mTx (d + 3) 44 [.ref 14] (mSS M) (some (.int r)) (mSS M') := by
  refine mMet_i ⟨Nat.le_refl _, Nat.le_refl _, Nat.le_of_ble_eq_true rfl⟩ ?_
  unfold Rr_takeDialName at h
  show mRunF (mCd 44) (mEE (mMet mP mTx (d + 2)) (some .int) (some (.int r)) M') (0, [some (.ref 14), none, none, none, none], [], mSS M)
  refine mRunF.sg (mSl mk_44 0 4) (g := (8, [some (.ref 14), none, none, none, none], [.int (M.1 14 8), .ref 26], mSS M)) (by decide +kernel) rfl ?_
  obtain ⟨r5, q4, h⟩ := bR_of h
  refine R_callV (mi := 76) (na := 2) (ci := 9) (i := 26) (as := [.int (M.1 14 8)]) (r := []) (rv := some (.long r5)) (σ1 := mSS M) ⟨166, by decide +kernel⟩ rfl rfl rfl rfl (Tk_valueOf_r N (M.1 14 8) M (d + 1) q4) ?_
  show mRunF _ _ (11, [some (.ref 14), none, none, none, none], [.long r5], mSS M)
  refine mRunF.sg (mSl mk_44 5 3) (g := (15, [some (.ref 14), some (.long r5), none, none, none], [.int 20, .ref 14], mSS M)) (by decide +kernel) rfl ?_
  obtain ⟨r8, M7, q6, h⟩ := bW_of h
  refine R_callV (mi := 41) (na := 2) (ci := 4) (i := 14) (as := [.int 20]) (r := []) (rv := some (.int r8)) (σ1 := mSS M7) ⟨78, by decide +kernel⟩ rfl rfl rfl rfl (Rr_take_r N 20 M (d + 0) q6) ?_
  have b9 := mBool rfl (Rr_take_r N 20 M (d + 0) q6)
  show mRunF _ _ (18, [some (.ref 14), some (.long r5), none, none, none], [.int r8], mSS M7)
  refine mRunF.sg (mSl mk_44 9 3) (g := (22, [some (.ref 14), some (.long r5), none, some (.int r8), some (.int 0)], [], mSS M7)) (by decide +kernel) rfl ?_
  exact Rr_takeDialName_22_r h
set_option maxRecDepth 100000 in
set_option maxHeartbeats 4000000 in
theorem Rr_readGoer_r (N : Nat)  (M : mS) {M' : mS} (d : Nat) (h : Rr_readGoer N M = some M') : mMet mP mTx (d + 4) 33 [.ref 14] (mSS M) none (mSS M') := by
  refine mMet_i ⟨Nat.le_refl _, Nat.le_refl _, Nat.le_of_ble_eq_true rfl⟩ ?_
  unfold Rr_readGoer at h
  show mRunF (mCd 33) (mEE (mMet mP mTx (d + 3)) (none) none M') (0, [some (.ref 14), none], [], mSS M)
  refine mRunF.sg (mSl mk_33 0 4) (g := (8, [some (.ref 14), some (.int (M.1 15 8))], [], mSS M)) (by decide +kernel) rfl ?_
  obtain ⟨v1, hv, h⟩ := nxt_ex h
  rw [← hv]
  clear hv
  refine mRunF.sg (mSl mk_33 4 2) (g := (10, [some (.ref 14), some (.int v1)], [.int 5, .int v1], mSS M)) (by decide +kernel) rfl ?_
  refine R_ilt (t := 19) ⟨9, by decide +kernel⟩ (fun q => ?_) (fun q => ?_)
  · rw [if_pos q] at h
    refine mRunF.sg (mSl mk_33 11 2) (g := (21, [some (.ref 14), some (.int v1)], [.int 2, .ref 14], mSS M)) (by decide +kernel) rfl ?_
    obtain ⟨r4, M3, q2, h⟩ := bW_of h
    refine R_callV (mi := 41) (na := 2) (ci := 4) (i := 14) (as := [.int 2]) (r := []) (rv := some (.int r4)) (σ1 := mSS M3) ⟨78, by decide +kernel⟩ rfl rfl rfl rfl (Rr_take_r N 2 M (d + 1) q2) ?_
    have b5 := mBool rfl (Rr_take_r N 2 M (d + 1) q2)
    show mRunF _ _ (24, [some (.ref 14), some (.int v1)], [.int r4], mSS M3)
    refine mRunF.sg (mSl mk_33 14 5) (g := (31, [some (.ref 14), some (.int v1)], [.ref 14, .int v1, .ref 32], mSS M3)) (by decide +kernel) rfl ?_
    obtain ⟨r8, M7, q6, h⟩ := bW_of h
    refine R_callV (mi := 43) (na := 1) (ci := 4) (i := 14) (as := []) (r := [.int v1, .ref 32]) (rv := some (.long r8)) (σ1 := mSS M7) ⟨102, by decide +kernel⟩ rfl rfl rfl rfl (Rr_takeNewName_r N M3 (d + 0) q6) ?_
    show mRunF _ _ (34, [some (.ref 14), some (.int v1)], [.long r8, .int v1, .ref 32], mSS M7)
    obtain ⟨g9, h⟩ := grd_of h
    refine R_last (by decide +kernel) rfl g9 ?_
    obtain ⟨M10, hv, h⟩ := nxt_ex h
    rw [← hv]
    clear hv
    refine mRunF.sg (mSl mk_33 21 5) (g := (44, [some (.ref 14), some (.int v1)], [.ref 14, .int v1, .ref 23], mSS M10)) (by decide +kernel) rfl ?_
    obtain ⟨r13, M12, q11, h⟩ := bW_of h
    refine R_callV (mi := 44) (na := 1) (ci := 4) (i := 14) (as := []) (r := [.int v1, .ref 23]) (rv := some (.int r13)) (σ1 := mSS M12) ⟨118, by decide +kernel⟩ rfl rfl rfl rfl (Rr_takeDialName_r N M10 (d + 0) q11) ?_
    show mRunF _ _ (47, [some (.ref 14), some (.int v1)], [.int r13, .int v1, .ref 23], mSS M12)
    obtain ⟨g14, h⟩ := grd_of h
    refine R_iast (by decide +kernel) rfl g14 ?_
    obtain ⟨M15, hv, h⟩ := nxt_ex h
    rw [← hv]
    clear hv
    refine mRunF.sg (mSl mk_33 28 7) (g := (60, [some (.ref 14), some (.int v1)], [.int 23, .int 0, .ref 14, .int v1, .ref 24], mSS M15)) (by decide +kernel) rfl ?_
    obtain ⟨r18, M17, q16, h⟩ := bW_of h
    refine R_callV (mi := 42) (na := 3) (ci := 4) (i := 14) (as := [.int 0, .int 23]) (r := [.int v1, .ref 24]) (rv := some (.int r18)) (σ1 := mSS M17) ⟨82, by decide +kernel⟩ rfl rfl rfl rfl (Rr_takeInt_r N 0 23 M15 (d + 0) q16) ?_
    show mRunF _ _ (63, [some (.ref 14), some (.int v1)], [.int r18, .int v1, .ref 24], mSS M17)
    obtain ⟨g19, h⟩ := grd_of h
    refine R_iast (by decide +kernel) rfl g19 ?_
    obtain ⟨M20, hv, h⟩ := nxt_ex h
    rw [← hv]
    clear hv
    refine mRunF.sg (mSl mk_33 37 7) (g := (76, [some (.ref 14), some (.int v1)], [.int 24, .int 1, .ref 14, .int v1, .ref 25], mSS M20)) (by decide +kernel) rfl ?_
    obtain ⟨r23, M22, q21, h⟩ := bW_of h
    refine R_callV (mi := 42) (na := 3) (ci := 4) (i := 14) (as := [.int 1, .int 24]) (r := [.int v1, .ref 25]) (rv := some (.int r23)) (σ1 := mSS M22) ⟨82, by decide +kernel⟩ rfl rfl rfl rfl (Rr_takeInt_r N 1 24 M20 (d + 0) q21) ?_
    show mRunF _ _ (79, [some (.ref 14), some (.int v1)], [.int r23, .int v1, .ref 25], mSS M22)
    obtain ⟨g24, h⟩ := grd_of h
    refine R_iast (by decide +kernel) rfl g24 ?_
    obtain ⟨M25, hv, h⟩ := nxt_ex h
    rw [← hv]
    clear hv
    refine mRunF.sg (mSl mk_33 46 7) (g := (93, [some (.ref 14), some (.int v1)], [], mSS (mWI M25 15 8 ((M25.1 15 8) + 1)))) (by decide +kernel) rfl ?_
    obtain ⟨M26, hv, h⟩ := nxt_ex h
    rw [← hv]
    clear hv
    cases h
    exact R_vret (by decide +kernel)
  · rw [if_neg q] at h
    refine mRunF.sg (mSl mk_33 7 2) (g := (15, [some (.ref 14), some (.int v1)], [.int 2, .ref 14], mSS M)) (by decide +kernel) rfl ?_
    obtain ⟨M28, q27, h⟩ := bV_of h
    refine R_callV (mi := 46) (na := 2) (ci := 4) (i := 14) (as := [.int 2]) (r := []) (rv := none) (σ1 := mSS M28) ⟨93, by decide +kernel⟩ rfl rfl rfl rfl (Rr_failForm_r N 2 M (d + 2) q27) ?_
    show mRunF _ _ (18, [some (.ref 14), some (.int v1)], [], mSS M28)
    cases h
    exact R_vret (by decide +kernel)
set_option maxRecDepth 100000 in
set_option maxHeartbeats 4000000 in
theorem Rr_readDial_r (N : Nat)  (M : mS) {M' : mS} (d : Nat) (h : Rr_readDial N M = some M') : mMet mP mTx (d + 4) 32 [.ref 14] (mSS M) none (mSS M') := by
  refine mMet_i ⟨Nat.le_refl _, Nat.le_refl _, Nat.le_of_ble_eq_true rfl⟩ ?_
  unfold Rr_readDial at h
  show mRunF (mCd 32) (mEE (mMet mP mTx (d + 3)) (none) none M') (0, [some (.ref 14), none], [], mSS M)
  refine mRunF.sg (mSl mk_32 0 4) (g := (8, [some (.ref 14), some (.int (M.1 15 7))], [], mSS M)) (by decide +kernel) rfl ?_
  obtain ⟨v1, hv, h⟩ := nxt_ex h
  rw [← hv]
  clear hv
  refine mRunF.sg (mSl mk_32 4 2) (g := (10, [some (.ref 14), some (.int v1)], [.int 4, .int v1], mSS M)) (by decide +kernel) rfl ?_
  refine R_ilt (t := 19) ⟨9, by decide +kernel⟩ (fun q => ?_) (fun q => ?_)
  · rw [if_pos q] at h
    refine mRunF.sg (mSl mk_32 11 2) (g := (21, [some (.ref 14), some (.int v1)], [.int 1, .ref 14], mSS M)) (by decide +kernel) rfl ?_
    obtain ⟨r4, M3, q2, h⟩ := bW_of h
    refine R_callV (mi := 41) (na := 2) (ci := 4) (i := 14) (as := [.int 1]) (r := []) (rv := some (.int r4)) (σ1 := mSS M3) ⟨78, by decide +kernel⟩ rfl rfl rfl rfl (Rr_take_r N 1 M (d + 1) q2) ?_
    have b5 := mBool rfl (Rr_take_r N 1 M (d + 1) q2)
    show mRunF _ _ (24, [some (.ref 14), some (.int v1)], [.int r4], mSS M3)
    refine mRunF.sg (mSl mk_32 14 5) (g := (31, [some (.ref 14), some (.int v1)], [.ref 14, .int v1, .ref 31], mSS M3)) (by decide +kernel) rfl ?_
    obtain ⟨r8, M7, q6, h⟩ := bW_of h
    refine R_callV (mi := 43) (na := 1) (ci := 4) (i := 14) (as := []) (r := [.int v1, .ref 31]) (rv := some (.long r8)) (σ1 := mSS M7) ⟨102, by decide +kernel⟩ rfl rfl rfl rfl (Rr_takeNewName_r N M3 (d + 0) q6) ?_
    show mRunF _ _ (34, [some (.ref 14), some (.int v1)], [.long r8, .int v1, .ref 31], mSS M7)
    obtain ⟨g9, h⟩ := grd_of h
    refine R_last (by decide +kernel) rfl g9 ?_
    obtain ⟨M10, hv, h⟩ := nxt_ex h
    rw [← hv]
    clear hv
    refine mRunF.sg (mSl mk_32 21 7) (g := (47, [some (.ref 14), some (.int v1)], [.int 23, .int 0, .ref 14, .int v1, .ref 21], mSS M10)) (by decide +kernel) rfl ?_
    obtain ⟨r13, M12, q11, h⟩ := bW_of h
    refine R_callV (mi := 42) (na := 3) (ci := 4) (i := 14) (as := [.int 0, .int 23]) (r := [.int v1, .ref 21]) (rv := some (.int r13)) (σ1 := mSS M12) ⟨82, by decide +kernel⟩ rfl rfl rfl rfl (Rr_takeInt_r N 0 23 M10 (d + 0) q11) ?_
    show mRunF _ _ (50, [some (.ref 14), some (.int v1)], [.int r13, .int v1, .ref 21], mSS M12)
    obtain ⟨g14, h⟩ := grd_of h
    refine R_iast (by decide +kernel) rfl g14 ?_
    obtain ⟨M15, hv, h⟩ := nxt_ex h
    rw [← hv]
    clear hv
    refine mRunF.sg (mSl mk_32 30 7) (g := (63, [some (.ref 14), some (.int v1)], [.int 23, .int 0, .ref 14, .int v1, .ref 22], mSS M15)) (by decide +kernel) rfl ?_
    obtain ⟨r18, M17, q16, h⟩ := bW_of h
    refine R_callV (mi := 42) (na := 3) (ci := 4) (i := 14) (as := [.int 0, .int 23]) (r := [.int v1, .ref 22]) (rv := some (.int r18)) (σ1 := mSS M17) ⟨82, by decide +kernel⟩ rfl rfl rfl rfl (Rr_takeInt_r N 0 23 M15 (d + 0) q16) ?_
    show mRunF _ _ (66, [some (.ref 14), some (.int v1)], [.int r18, .int v1, .ref 22], mSS M17)
    obtain ⟨g19, h⟩ := grd_of h
    refine R_iast (by decide +kernel) rfl g19 ?_
    obtain ⟨M20, hv, h⟩ := nxt_ex h
    rw [← hv]
    clear hv
    refine mRunF.sg (mSl mk_32 39 7) (g := (80, [some (.ref 14), some (.int v1)], [], mSS (mWI M20 15 7 ((M20.1 15 7) + 1)))) (by decide +kernel) rfl ?_
    obtain ⟨M21, hv, h⟩ := nxt_ex h
    rw [← hv]
    clear hv
    cases h
    exact R_vret (by decide +kernel)
  · rw [if_neg q] at h
    refine mRunF.sg (mSl mk_32 7 2) (g := (15, [some (.ref 14), some (.int v1)], [.int 2, .ref 14], mSS M)) (by decide +kernel) rfl ?_
    obtain ⟨M23, q22, h⟩ := bV_of h
    refine R_callV (mi := 46) (na := 2) (ci := 4) (i := 14) (as := [.int 2]) (r := []) (rv := none) (σ1 := mSS M23) ⟨93, by decide +kernel⟩ rfl rfl rfl rfl (Rr_failForm_r N 2 M (d + 2) q22) ?_
    show mRunF _ _ (18, [some (.ref 14), some (.int v1)], [], mSS M23)
    cases h
    exact R_vret (by decide +kernel)
set_option maxRecDepth 100000 in
set_option maxHeartbeats 4000000 in
theorem Rr_readHours_r (N : Nat)  (M : mS) {M' : mS} (d : Nat) (h : Rr_readHours N M = some M') : mMet mP mTx (d + 4) 31 [.ref 14] (mSS M) none (mSS M') := by
  refine mMet_i ⟨Nat.le_refl _, Nat.le_refl _, Nat.le_of_ble_eq_true rfl⟩ ?_
  unfold Rr_readHours at h
  show mRunF (mCd 31) (mEE (mMet mP mTx (d + 3)) (none) none M') (0, [some (.ref 14)], [], mSS M)
  refine mRunF.sg (mSl mk_31 0 2) (g := (2, [some (.ref 14)], [.int 0, .ref 14], mSS M)) (by decide +kernel) rfl ?_
  obtain ⟨r3, M2, q1, h⟩ := bW_of h
  refine R_callV (mi := 41) (na := 2) (ci := 4) (i := 14) (as := [.int 0]) (r := []) (rv := some (.int r3)) (σ1 := mSS M2) ⟨78, by decide +kernel⟩ rfl rfl rfl rfl (Rr_take_r N 0 M (d + 1) q1) ?_
  have b4 := mBool rfl (Rr_take_r N 0 M (d + 1) q1)
  show mRunF _ _ (5, [some (.ref 14)], [.int r3], mSS M2)
  refine mRunF.sg (mSl mk_31 3 6) (g := (14, [some (.ref 14)], [.int 24, .int 2, .ref 14, .ref 15], mSS M2)) (by decide +kernel) rfl ?_
  obtain ⟨r7, M6, q5, h⟩ := bW_of h
  refine R_callV (mi := 42) (na := 3) (ci := 4) (i := 14) (as := [.int 2, .int 24]) (r := [.ref 15]) (rv := some (.int r7)) (σ1 := mSS M6) ⟨82, by decide +kernel⟩ rfl rfl rfl rfl (Rr_takeInt_r N 2 24 M2 (d + 0) q5) ?_
  show mRunF _ _ (17, [some (.ref 14)], [.int r7, .ref 15], mSS M6)
  refine mRunF.sg (mSl mk_31 10 1) (g := (20, [some (.ref 14)], [], mSS (mWI M6 15 6 r7))) (by decide +kernel) rfl ?_
  obtain ⟨M8, hv, h⟩ := nxt_ex h
  rw [← hv]
  clear hv
  cases h
  exact R_vret (by decide +kernel)
set_option maxRecDepth 100000 in
set_option maxHeartbeats 4000000 in
theorem Rr_readTell_110_r {N d : Nat}  {M : mS}  {M' : mS} (h : Rr_readTell_110 N M = some M') : mRunF (mCd 30) (mEE (mMet mP mTx (d + 5)) (none) none M') (110, [some (.ref 14), none], [], mSS M) := by
  unfold Rr_readTell_110 at h
  refine mRunF.sg (mSl mk_30 57 2) (g := (113, [some (.ref 14), none], [.int 22, .ref 14], mSS M)) (by decide +kernel) rfl ?_
  obtain ⟨r3, M2, q1, h⟩ := bW_of h
  refine R_callV (mi := 41) (na := 2) (ci := 4) (i := 14) (as := [.int 22]) (r := []) (rv := some (.int r3)) (σ1 := mSS M2) ⟨78, by decide +kernel⟩ rfl rfl rfl rfl (Rr_take_r N 22 M (d + 3) q1) ?_
  have b4 := mBool rfl (Rr_take_r N 22 M (d + 3) q1)
  show mRunF _ _ (116, [some (.ref 14), none], [.int r3], mSS M2)
  refine mRunF.sg (mSl mk_30 60 1) (g := (117, [some (.ref 14), none], [], mSS M2)) (by decide +kernel) rfl ?_
  cases h
  exact R_vret (by decide +kernel)
set_option maxRecDepth 100000 in
set_option maxHeartbeats 4000000 in
theorem Rr_readTell_105_r {N d : Nat}  {M : mS}  {M' : mS} (h : Rr_readTell_105 N M = some M') : mRunF (mCd 30) (mEE (mMet mP mTx (d + 5)) (none) none M') (105, [some (.ref 14), none], [], mSS M) := by
  unfold Rr_readTell_105 at h
  refine mRunF.sg (mSl mk_30 54 2) (g := (107, [some (.ref 14), none], [.int 1, .ref 14], mSS M)) (by decide +kernel) rfl ?_
  obtain ⟨M6, q5, h⟩ := bV_of h
  refine R_callV (mi := 46) (na := 2) (ci := 4) (i := 14) (as := [.int 1]) (r := []) (rv := none) (σ1 := mSS M6) ⟨93, by decide +kernel⟩ rfl rfl rfl rfl (Rr_failForm_r N 1 M (d + 4) q5) ?_
  show mRunF _ _ (110, [some (.ref 14), none], [], mSS M6)
  exact Rr_readTell_110_r h
set_option maxRecDepth 100000 in
set_option maxHeartbeats 4000000 in
theorem Rr_readTell_r (N : Nat)  (M : mS) {M' : mS} (d : Nat) (h : Rr_readTell N M = some M') : mMet mP mTx (d + 6) 30 [.ref 14] (mSS M) none (mSS M') := by
  refine mMet_i ⟨Nat.le_refl _, Nat.le_refl _, Nat.le_of_ble_eq_true rfl⟩ ?_
  unfold Rr_readTell at h
  show mRunF (mCd 30) (mEE (mMet mP mTx (d + 5)) (none) none M') (0, [some (.ref 14), none], [], mSS M)
  refine mRunF.sg (mSl mk_30 0 4) (g := (8, [some (.ref 14), none], [.int (M.1 14 8), .ref 26], mSS M)) (by decide +kernel) rfl ?_
  obtain ⟨r8, q7, h⟩ := bR_of h
  refine R_callV (mi := 74) (na := 2) (ci := 9) (i := 26) (as := [.int (M.1 14 8)]) (r := []) (rv := some (.int r8)) (σ1 := mSS M) ⟨53, by decide +kernel⟩ rfl rfl rfl rfl (Tk_kindOf_r N (M.1 14 8) M (d + 4) q7) ?_
  show mRunF _ _ (11, [some (.ref 14), none], [.int r8], mSS M)
  refine mRunF.sg (mSl mk_30 5 2) (g := (13, [some (.ref 14), some (.int r8)], [.int r8], mSS M)) (by decide +kernel) rfl ?_
  refine R_ne (t := 23) ⟨10, by decide +kernel⟩ (fun q => ?_) (fun q => ?_)
  · rw [if_pos q] at h
    refine mRunF.sg (mSl mk_30 8 1) (g := (17, [some (.ref 14), some (.int r8)], [.ref 14], mSS M)) (by decide +kernel) rfl ?_
    obtain ⟨M10, q9, h⟩ := bV_of h
    refine R_callV (mi := 31) (na := 1) (ci := 4) (i := 14) (as := []) (r := []) (rv := none) (σ1 := mSS M10) ⟨69, by decide +kernel⟩ rfl rfl rfl rfl (Rr_readHours_r N M (d + 1) q9) ?_
    show mRunF _ _ (20, [some (.ref 14), some (.int r8)], [], mSS M10)
    refine mRunF.sg (mSl mk_30 10 1) (g := (110, [some (.ref 14), some (.int r8)], [], mSS M10)) (by decide +kernel) rfl ?_
    refine mRunF.forget [true, false] ?_
    exact Rr_readTell_110_r h
  · rw [if_neg q] at h
    refine mRunF.sg (mSl mk_30 11 2) (g := (25, [some (.ref 14), some (.int r8)], [.int 1, .int r8], mSS M)) (by decide +kernel) rfl ?_
    refine R_ine (t := 35) ⟨10, by decide +kernel⟩ (fun q => ?_) (fun q => ?_)
    · rw [if_pos q] at h
      refine mRunF.sg (mSl mk_30 14 1) (g := (29, [some (.ref 14), some (.int r8)], [.ref 14], mSS M)) (by decide +kernel) rfl ?_
      obtain ⟨M12, q11, h⟩ := bV_of h
      refine R_callV (mi := 32) (na := 1) (ci := 4) (i := 14) (as := []) (r := []) (rv := none) (σ1 := mSS M12) ⟨72, by decide +kernel⟩ rfl rfl rfl rfl (Rr_readDial_r N M (d + 1) q11) ?_
      show mRunF _ _ (32, [some (.ref 14), some (.int r8)], [], mSS M12)
      refine mRunF.sg (mSl mk_30 16 1) (g := (110, [some (.ref 14), some (.int r8)], [], mSS M12)) (by decide +kernel) rfl ?_
      refine mRunF.forget [true, false] ?_
      exact Rr_readTell_110_r h
    · rw [if_neg q] at h
      refine mRunF.sg (mSl mk_30 17 2) (g := (37, [some (.ref 14), some (.int r8)], [.int 2, .int r8], mSS M)) (by decide +kernel) rfl ?_
      refine R_ine (t := 47) ⟨10, by decide +kernel⟩ (fun q => ?_) (fun q => ?_)
      · rw [if_pos q] at h
        refine mRunF.sg (mSl mk_30 20 1) (g := (41, [some (.ref 14), some (.int r8)], [.ref 14], mSS M)) (by decide +kernel) rfl ?_
        obtain ⟨M14, q13, h⟩ := bV_of h
        refine R_callV (mi := 33) (na := 1) (ci := 4) (i := 14) (as := []) (r := []) (rv := none) (σ1 := mSS M14) ⟨75, by decide +kernel⟩ rfl rfl rfl rfl (Rr_readGoer_r N M (d + 1) q13) ?_
        show mRunF _ _ (44, [some (.ref 14), some (.int r8)], [], mSS M14)
        refine mRunF.sg (mSl mk_30 22 1) (g := (110, [some (.ref 14), some (.int r8)], [], mSS M14)) (by decide +kernel) rfl ?_
        refine mRunF.forget [true, false] ?_
        exact Rr_readTell_110_r h
      · rw [if_neg q] at h
        refine mRunF.sg (mSl mk_30 23 2) (g := (50, [some (.ref 14), some (.int r8)], [.int 7, .int r8], mSS M)) (by decide +kernel) rfl ?_
        refine R_ine (t := 78) ⟨28, by decide +kernel⟩ (fun q => ?_) (fun q => ?_)
        · rw [if_pos q] at h
          refine mRunF.sg (mSl mk_30 26 2) (g := (56, [some (.ref 14), some (.int r8)], [.int 7, .ref 14], mSS M)) (by decide +kernel) rfl ?_
          obtain ⟨r17, M16, q15, h⟩ := bW_of h
          refine R_callV (mi := 41) (na := 2) (ci := 4) (i := 14) (as := [.int 7]) (r := []) (rv := some (.int r17)) (σ1 := mSS M16) ⟨78, by decide +kernel⟩ rfl rfl rfl rfl (Rr_take_r N 7 M (d + 3) q15) ?_
          have b18 := mBool rfl (Rr_take_r N 7 M (d + 3) q15)
          show mRunF _ _ (59, [some (.ref 14), some (.int r8)], [.int r17], mSS M16)
          refine mRunF.sg (mSl mk_30 29 6) (g := (69, [some (.ref 14), some (.int r8)], [.int 9999, .int 0, .ref 14, .ref 15], mSS M16)) (by decide +kernel) rfl ?_
          obtain ⟨r21, M20, q19, h⟩ := bW_of h
          refine R_callV (mi := 42) (na := 3) (ci := 4) (i := 14) (as := [.int 0, .int 9999]) (r := [.ref 15]) (rv := some (.int r21)) (σ1 := mSS M20) ⟨82, by decide +kernel⟩ rfl rfl rfl rfl (Rr_takeInt_r N 0 9999 M16 (d + 2) q19) ?_
          show mRunF _ _ (72, [some (.ref 14), some (.int r8)], [.int r21, .ref 15], mSS M20)
          refine mRunF.sg (mSl mk_30 36 1) (g := (75, [some (.ref 14), some (.int r8)], [], mSS (mWI M20 15 9 r21))) (by decide +kernel) rfl ?_
          obtain ⟨M22, hv, h⟩ := nxt_ex h
          rw [← hv]
          clear hv
          refine mRunF.sg (mSl mk_30 37 1) (g := (110, [some (.ref 14), some (.int r8)], [], mSS M22)) (by decide +kernel) rfl ?_
          refine mRunF.forget [true, false] ?_
          exact Rr_readTell_110_r h
        · rw [if_neg q] at h
          refine mRunF.sg (mSl mk_30 38 2) (g := (80, [some (.ref 14), some (.int r8)], [.int 3, .int r8], mSS M)) (by decide +kernel) rfl ?_
          refine R_ilt (t := 105) ⟨25, by decide +kernel⟩ (fun q => ?_) (fun q => ?_)
          · rw [if_pos q] at h
            refine mRunF.forget [true, false] ?_
            exact Rr_readTell_105_r h
          · rw [if_neg q] at h
            refine mRunF.sg (mSl mk_30 41 2) (g := (86, [some (.ref 14), some (.int r8)], [.int 6, .int r8], mSS M)) (by decide +kernel) rfl ?_
            refine R_igt (t := 105) ⟨19, by decide +kernel⟩ (fun q => ?_) (fun q => ?_)
            · rw [if_pos q] at h
              refine mRunF.forget [true, false] ?_
              exact Rr_readTell_105_r h
            · rw [if_neg q] at h
              refine mRunF.sg (mSl mk_30 44 2) (g := (91, [some (.ref 14), some (.int r8)], [.int r8, .ref 14], mSS M)) (by decide +kernel) rfl ?_
              obtain ⟨r25, M24, q23, h⟩ := bW_of h
              refine R_callV (mi := 41) (na := 2) (ci := 4) (i := 14) (as := [.int r8]) (r := []) (rv := some (.int r25)) (σ1 := mSS M24) ⟨78, by decide +kernel⟩ rfl rfl rfl rfl (Rr_take_r N r8 M (d + 3) q23) ?_
              have b26 := mBool rfl (Rr_take_r N r8 M (d + 3) q23)
              show mRunF _ _ (94, [some (.ref 14), some (.int r8)], [.int r25], mSS M24)
              refine mRunF.sg (mSl mk_30 47 5) (g := (99, [some (.ref 14), some (.int r8)], [.int (r8 - 3), .ref 14], mSS M24)) (by decide +kernel) rfl ?_
              obtain ⟨M28, q27, h⟩ := bV_of h
              refine R_callV (mi := 34) (na := 2) (ci := 4) (i := 14) (as := [.int (r8 - 3)]) (r := []) (rv := none) (σ1 := mSS M28) ⟨89, by decide +kernel⟩ rfl rfl rfl rfl (Rr_readLaw_r N (r8 - 3) M24 (d + 0) q27) ?_
              show mRunF _ _ (102, [some (.ref 14), some (.int r8)], [], mSS M28)
              refine mRunF.sg (mSl mk_30 53 1) (g := (110, [some (.ref 14), some (.int r8)], [], mSS M28)) (by decide +kernel) rfl ?_
              refine mRunF.forget [true, false] ?_
              exact Rr_readTell_110_r h
set_option maxRecDepth 100000 in
set_option maxHeartbeats 4000000 in
theorem Rr_check_72_r {N d : Nat}  {M : mS}  {r : Int32} {M' : mS} (h : Rr_check_72 N M = some (r, M')) : mRunF (mCd 28) (mEE (mMet mP mTx (d + 6)) (some .int) (some (.int r)) M') (72, [some (.ref 14), none, none], [], mSS M) := by
  unfold Rr_check_72 at h
  refine mRunF.sg (mSl mk_28 35 2) (g := (76, [some (.ref 14), none, none], [.ref 15], mSS M)) (by decide +kernel) rfl ?_
  obtain ⟨M2, q1, h⟩ := bV_of h
  refine R_callV (mi := 6) (na := 1) (ci := 1) (i := 15) (as := []) (r := []) (rv := none) (σ1 := mSS M2) ⟨60, by decide +kernel⟩ rfl rfl rfl rfl (Ga_settle_r N M (d + 4) q1) ?_
  show mRunF _ _ (79, [some (.ref 14), none, none], [], mSS M2)
  refine mRunF.sg (mSl mk_28 38 2) (g := (83, [some (.ref 14), none, none], [.int (M2.1 14 9)], mSS M2)) (by decide +kernel) rfl ?_
  refine R_eq (t := 93) ⟨10, by decide +kernel⟩ (fun q => ?_) (fun q => ?_)
  · rw [if_pos q] at h
    refine mRunF.sg (mSl mk_28 44 2) (g := (97, [some (.ref 14), none, none], [.int (M2.1 14 10)], mSS M2)) (by decide +kernel) rfl ?_
    cases h
    exact R_iret (by decide +kernel)
  · rw [if_neg q] at h
    refine mRunF.sg (mSl mk_28 41 3) (g := (97, [some (.ref 14), none, none], [.int (M2.1 14 9)], mSS M2)) (by decide +kernel) rfl ?_
    cases h
    exact R_iret (by decide +kernel)
set_option maxRecDepth 100000 in
set_option maxHeartbeats 4000000 in
theorem Rr_check_32_r {N d : Nat}   {r : Int32} {M' : mS} : ∀ {n : Nat} {x2 : Int32} {M : mS}, Rr_check_32 N n x2 M = some (r, M') → mRunF (mCd 28) (mEE (mMet mP mTx (d + 6)) (some .int) (some (.int r)) M') (32, [some (.ref 14), none, some (.int x2)], [], mSS M) := by
  intro n
  induction n with
  | zero => intro x2 M h; cases h
  | succ n ih =>
    replace ih := @ih
    intro x2 M h
    unfold Rr_check_32 at h
    refine mRunF.sg (mSl mk_28 18 2) (g := (36, [some (.ref 14), none, some (.int x2)], [.int 400, .int x2], mSS M)) (by decide +kernel) rfl ?_
    refine R_igt (t := 72) ⟨36, by decide +kernel⟩ (fun q => ?_) (fun q => ?_)
    · rw [if_pos q] at h
      refine mRunF.forget [true, true, false] ?_
      exact Rr_check_72_r h
    · rw [if_neg q] at h
      refine mRunF.sg (mSl mk_28 21 2) (g := (43, [some (.ref 14), none, some (.int x2)], [.int (M.1 14 9)], mSS M)) (by decide +kernel) rfl ?_
      refine R_ne (t := 72) ⟨29, by decide +kernel⟩ (fun q => ?_) (fun q => ?_)
      · rw [if_pos q] at h
        refine mRunF.sg (mSl mk_28 24 4) (g := (54, [some (.ref 14), none, some (.int x2)], [.int (M.1 14 8), .ref 26], mSS M)) (by decide +kernel) rfl ?_
        obtain ⟨r4, q3, h⟩ := bR_of h
        refine R_callV (mi := 74) (na := 2) (ci := 9) (i := 26) (as := [.int (M.1 14 8)]) (r := []) (rv := some (.int r4)) (σ1 := mSS M) ⟨53, by decide +kernel⟩ rfl rfl rfl rfl (Tk_kindOf_r N (M.1 14 8) M (d + 5) q3) ?_
        show mRunF _ _ (57, [some (.ref 14), none, some (.int x2)], [.int r4], mSS M)
        refine mRunF.sg (mSl mk_28 29 1) (g := (59, [some (.ref 14), none, some (.int x2)], [.int 31, .int r4], mSS M)) (by decide +kernel) rfl ?_
        refine R_ieq (t := 72) ⟨13, by decide +kernel⟩ (fun q => ?_) (fun q => ?_)
        · rw [if_pos q] at h
          refine mRunF.forget [true, true, false] ?_
          exact Rr_check_72_r h
        · rw [if_neg q] at h
          refine mRunF.sg (mSl mk_28 31 1) (g := (63, [some (.ref 14), none, some (.int x2)], [.ref 14], mSS M)) (by decide +kernel) rfl ?_
          obtain ⟨M6, q5, h⟩ := bV_of h
          refine R_callV (mi := 30) (na := 1) (ci := 4) (i := 14) (as := []) (r := []) (rv := none) (σ1 := mSS M6) ⟨57, by decide +kernel⟩ rfl rfl rfl rfl (Rr_readTell_r N M (d + 0) q5) ?_
          show mRunF _ _ (66, [some (.ref 14), none, some (.int x2)], [], mSS M6)
          refine mRunF.sg (mSl mk_28 33 2) (g := (32, [some (.ref 14), none, some (.int (x2 + 1))], [], mSS M6)) (by decide +kernel) rfl ?_
          exact @ih _ _ h
      · rw [if_neg q] at h
        refine mRunF.forget [true, true, false] ?_
        exact Rr_check_72_r h
set_option maxRecDepth 100000 in
set_option maxHeartbeats 4000000 in
theorem Rr_check_r (N : Nat)  (M : mS) {r : Int32} {M' : mS} (d : Nat) (h : Rr_check N M = some (r, M')) : mMet mP mTx (d + 7) 28 [.ref 14, .ref 1] (mSS M) (some (.int r)) (mSS M') := by
  refine mMet_i ⟨Nat.le_refl _, Nat.le_refl _, Nat.le_of_ble_eq_true rfl⟩ ?_
  unfold Rr_check at h
  show mRunF (mCd 28) (mEE (mMet mP mTx (d + 6)) (some .int) (some (.int r)) M') (0, [some (.ref 14), some (.ref 1), none], [], mSS M)
  refine mRunF.sg (mSl mk_28 0 3) (g := (5, [some (.ref 14), some (.ref 1), none], [.ref 1, .ref 26], mSS M)) (by decide +kernel) rfl ?_
  obtain ⟨M8, q7, h⟩ := bV_of h
  refine R_callV (mi := 77) (na := 2) (ci := 9) (i := 26) (as := [.ref 1]) (r := []) (rv := none) (σ1 := mSS M8) ⟨36, by decide +kernel⟩ rfl rfl rfl rfl (Tk_cut_r N M (d + 2) q7) ?_
  show mRunF _ _ (8, [some (.ref 14), some (.ref 1), none], [], mSS M8)
  refine mRunF.sg (mSl mk_28 4 2) (g := (12, [some (.ref 14), some (.ref 1), none], [.ref 15], mSS M8)) (by decide +kernel) rfl ?_
  obtain ⟨M10, q9, h⟩ := bV_of h
  refine R_callV (mi := 5) (na := 1) (ci := 1) (i := 15) (as := []) (r := []) (rv := none) (σ1 := mSS M10) ⟨40, by decide +kernel⟩ rfl rfl rfl rfl (Ga_clear_r N M8 (d + 2) q9) ?_
  show mRunF _ _ (15, [some (.ref 14), some (.ref 1), none], [], mSS M10)
  refine mRunF.sg (mSl mk_28 7 3) (g := (20, [some (.ref 14), some (.ref 1), none], [], mSS (mWI M10 14 8 0))) (by decide +kernel) rfl ?_
  obtain ⟨M11, hv, h⟩ := nxt_ex h
  rw [← hv]
  clear hv
  refine mRunF.sg (mSl mk_28 10 3) (g := (25, [some (.ref 14), some (.ref 1), none], [], mSS (mWI M11 14 9 0))) (by decide +kernel) rfl ?_
  obtain ⟨M12, hv, h⟩ := nxt_ex h
  rw [← hv]
  clear hv
  refine mRunF.sg (mSl mk_28 13 3) (g := (30, [some (.ref 14), some (.ref 1), none], [], mSS (mWI M12 14 10 0))) (by decide +kernel) rfl ?_
  obtain ⟨M13, hv, h⟩ := nxt_ex h
  rw [← hv]
  clear hv
  refine mRunF.sg (mSl mk_28 16 2) (g := (32, [some (.ref 14), some (.ref 1), some (.int 0)], [], mSS M13)) (by decide +kernel) rfl ?_
  refine mRunF.forget [true, false, true] ?_
  exact Rr_check_32_r h
set_option maxRecDepth 100000 in
set_option maxHeartbeats 4000000 in
theorem Rr_faultPlace_r (N : Nat)  (M : mS) {r : Int32} (d : Nat) (h : Rr_faultPlace N M = some r) : mMet mP mTx (d + 2) 29 [.ref 14] (mSS M) (some (.int r)) (mSS M) := by
  refine mMet_i ⟨Nat.le_refl _, Nat.le_refl _, Nat.le_of_ble_eq_true rfl⟩ ?_
  unfold Rr_faultPlace at h
  show mRunF (mCd 29) (mEE (mMet mP mTx (d + 1)) (some .int) (some (.int r)) M) (0, [some (.ref 14)], [], mSS M)
  refine mRunF.sg (mSl mk_29 0 2) (g := (4, [some (.ref 14)], [.int (M.1 14 9)], mSS M)) (by decide +kernel) rfl ?_
  refine R_eq (t := 19) ⟨15, by decide +kernel⟩ (fun q => ?_) (fun q => ?_)
  · rw [if_pos q] at h
    refine mRunF.sg (mSl mk_29 9 2) (g := (23, [some (.ref 14)], [.int (M.1 14 10)], mSS M)) (by decide +kernel) rfl ?_
    refine R_eq (t := 33) ⟨10, by decide +kernel⟩ (fun q => ?_) (fun q => ?_)
    · rw [if_pos q] at h
      refine mRunF.sg (mSl mk_29 15 1) (g := (34, [some (.ref 14)], [.int (-1)], mSS M)) (by decide +kernel) rfl ?_
      cases h
      exact R_iret (by decide +kernel)
    · rw [if_neg q] at h
      refine mRunF.sg (mSl mk_29 12 3) (g := (34, [some (.ref 14)], [.int (M.1 14 11)], mSS M)) (by decide +kernel) rfl ?_
      cases h
      exact R_iret (by decide +kernel)
  · rw [if_neg q] at h
    refine mRunF.sg (mSl mk_29 3 4) (g := (15, [some (.ref 14)], [.int (M.1 14 8), .ref 26], mSS M)) (by decide +kernel) rfl ?_
    obtain ⟨r2, q1, h⟩ := bR_of h
    refine R_callV (mi := 75) (na := 2) (ci := 9) (i := 26) (as := [.int (M.1 14 8)]) (r := []) (rv := some (.int r2)) (σ1 := mSS M) ⟨63, by decide +kernel⟩ rfl rfl rfl rfl (Tk_placeOf_r N (M.1 14 8) M (d + 0) q1) ?_
    show mRunF _ _ (18, [some (.ref 14)], [.int r2], mSS M)
    cases h
    exact R_iret (by decide +kernel)
set_option maxRecDepth 100000 in
set_option maxHeartbeats 4000000 in
theorem La_takeOver_r (N : Nat)  (M : mS) {M' : mS} (d : Nat) (h : La_takeOver N M = some M') : mMet mP mTx (d + 1) 12 [.ref 4, .ref 16] (mSS M) none (mSS M') := by
  refine mMet_i ⟨Nat.le_refl _, Nat.le_refl _, Nat.le_of_ble_eq_true rfl⟩ ?_
  unfold La_takeOver at h
  show mRunF (mCd 12) (mEE (mMet mP mTx (d + 0)) (none) none M') (0, [some (.ref 4), some (.ref 16)], [], mSS M)
  refine mRunF.sg (mSl mk_12 0 4) (g := (8, [some (.ref 4), some (.ref 16)], [], mSS (mWI M 4 4 (M.1 16 4)))) (by decide +kernel) rfl ?_
  obtain ⟨M1, hv, h⟩ := nxt_ex h
  rw [← hv]
  clear hv
  refine mRunF.sg (mSl mk_12 4 4) (g := (16, [some (.ref 4), some (.ref 16)], [], mSS (mWI M1 4 5 (M1.1 16 5)))) (by decide +kernel) rfl ?_
  obtain ⟨M2, hv, h⟩ := nxt_ex h
  rw [← hv]
  clear hv
  refine mRunF.sg (mSl mk_12 8 9) (g := (31, [some (.ref 4), some (.ref 16)], [.int (Int32.ofNat 408), .int 0, .ref 6, .int 0, .ref 18], mSS M2)) (by decide +kernel) rfl ?_
  refine R_copy ⟨46, by decide +kernel⟩ rfl rfl rfl ?_
  obtain ⟨M3, hv, h⟩ := nxt_ex h
  rw [← hv]
  clear hv
  refine mRunF.sg (mSl mk_12 18 7) (g := (45, [some (.ref 4), some (.ref 16)], [.int 4, .int 0, .ref 7, .int 0, .ref 19], mSS M3)) (by decide +kernel) rfl ?_
  refine R_copy ⟨46, by decide +kernel⟩ rfl rfl rfl ?_
  obtain ⟨M4, hv, h⟩ := nxt_ex h
  rw [← hv]
  clear hv
  cases h
  exact R_vret (by decide +kernel)
set_option maxRecDepth 100000 in
set_option maxHeartbeats 4000000 in
theorem Ga_takeOver_r (N : Nat)  (M : mS) {M' : mS} (d : Nat) (h : Ga_takeOver N M = some M') : mMet mP mTx (d + 2) 7 [.ref 3, .ref 15] (mSS M) none (mSS M') := by
  refine mMet_i ⟨Nat.le_refl _, Nat.le_refl _, Nat.le_of_ble_eq_true rfl⟩ ?_
  unfold Ga_takeOver at h
  show mRunF (mCd 7) (mEE (mMet mP mTx (d + 1)) (none) none M') (0, [some (.ref 3), some (.ref 15)], [], mSS M)
  refine mRunF.sg (mSl mk_7 0 4) (g := (8, [some (.ref 3), some (.ref 15)], [.ref 16, .ref 4], mSS M)) (by decide +kernel) rfl ?_
  obtain ⟨M2, q1, h⟩ := bV_of h
  refine R_callV (mi := 12) (na := 2) (ci := 2) (i := 4) (as := [.ref 16]) (r := []) (rv := none) (σ1 := mSS M2) ⟨54, by decide +kernel⟩ rfl rfl rfl rfl (La_takeOver_r N M (d + 0) q1) ?_
  show mRunF _ _ (11, [some (.ref 3), some (.ref 15)], [], mSS M2)
  refine mRunF.sg (mSl mk_7 5 7) (g := (22, [some (.ref 3), some (.ref 15)], [.int 4, .int 0, .ref 9, .int 0, .ref 21], mSS M2)) (by decide +kernel) rfl ?_
  refine R_copy ⟨58, by decide +kernel⟩ rfl rfl rfl ?_
  obtain ⟨M3, hv, h⟩ := nxt_ex h
  rw [← hv]
  clear hv
  refine mRunF.sg (mSl mk_7 13 7) (g := (36, [some (.ref 3), some (.ref 15)], [.int 4, .int 0, .ref 10, .int 0, .ref 22], mSS M3)) (by decide +kernel) rfl ?_
  refine R_copy ⟨58, by decide +kernel⟩ rfl rfl rfl ?_
  obtain ⟨M4, hv, h⟩ := nxt_ex h
  rw [← hv]
  clear hv
  refine mRunF.sg (mSl mk_7 21 7) (g := (50, [some (.ref 3), some (.ref 15)], [.int 5, .int 0, .ref 11, .int 0, .ref 23], mSS M4)) (by decide +kernel) rfl ?_
  refine R_copy ⟨58, by decide +kernel⟩ rfl rfl rfl ?_
  obtain ⟨M5, hv, h⟩ := nxt_ex h
  rw [← hv]
  clear hv
  refine mRunF.sg (mSl mk_7 29 7) (g := (64, [some (.ref 3), some (.ref 15)], [.int 5, .int 0, .ref 12, .int 0, .ref 24], mSS M5)) (by decide +kernel) rfl ?_
  refine R_copy ⟨58, by decide +kernel⟩ rfl rfl rfl ?_
  obtain ⟨M6, hv, h⟩ := nxt_ex h
  rw [← hv]
  clear hv
  refine mRunF.sg (mSl mk_7 37 7) (g := (78, [some (.ref 3), some (.ref 15)], [.int 5, .int 0, .ref 13, .int 0, .ref 25], mSS M6)) (by decide +kernel) rfl ?_
  refine R_copy ⟨58, by decide +kernel⟩ rfl rfl rfl ?_
  obtain ⟨M7, hv, h⟩ := nxt_ex h
  rw [← hv]
  clear hv
  refine mRunF.sg (mSl mk_7 45 4) (g := (89, [some (.ref 3), some (.ref 15)], [], mSS (mWI M7 3 6 (M7.1 15 6)))) (by decide +kernel) rfl ?_
  obtain ⟨M8, hv, h⟩ := nxt_ex h
  rw [← hv]
  clear hv
  refine mRunF.sg (mSl mk_7 49 4) (g := (97, [some (.ref 3), some (.ref 15)], [], mSS (mWI M8 3 7 (M8.1 15 7)))) (by decide +kernel) rfl ?_
  obtain ⟨M9, hv, h⟩ := nxt_ex h
  rw [← hv]
  clear hv
  refine mRunF.sg (mSl mk_7 53 4) (g := (105, [some (.ref 3), some (.ref 15)], [], mSS (mWI M9 3 8 (M9.1 15 8)))) (by decide +kernel) rfl ?_
  obtain ⟨M10, hv, h⟩ := nxt_ex h
  rw [← hv]
  clear hv
  refine mRunF.sg (mSl mk_7 57 4) (g := (113, [some (.ref 3), some (.ref 15)], [], mSS (mWI M10 3 9 (M10.1 15 9)))) (by decide +kernel) rfl ?_
  obtain ⟨M11, hv, h⟩ := nxt_ex h
  rw [← hv]
  clear hv
  cases h
  exact R_vret (by decide +kernel)
set_option maxRecDepth 100000 in
set_option maxHeartbeats 4000000 in
theorem Ga_startIn_2_r {N d : Nat}   {M' : mS} : ∀ {n : Nat} {x2 : Int32} {M : mS}, Ga_startIn_2 N n x2 M = some M' → mRunF (mCd 8) (mEE (mMet mP mTx (d + 0)) (none) none M') (2, [some (.ref 3), some (.ref 34), some (.int x2)], [], mSS M) := by
  intro n
  induction n with
  | zero => intro x2 M h; cases h
  | succ n ih =>
    replace ih := @ih
    intro x2 M h
    unfold Ga_startIn_2 at h
    refine mRunF.sg (mSl mk_8 2 3) (g := (5, [some (.ref 3), some (.ref 34), some (.int x2)], [.int (Int32.ofNat 44), .int x2], mSS M)) (by decide +kernel) rfl ?_
    refine R_ige (t := 18) ⟨13, by decide +kernel⟩ (fun q => ?_) (fun q => ?_)
    · rw [if_pos q] at h
      refine mRunF.sg (mSl mk_8 12 6) (g := (26, [some (.ref 3), some (.ref 34), some (.int x2)], [.int 4, .int 1, .ref 34, .int 0, .ref 9], mSS M)) (by decide +kernel) rfl ?_
      refine R_copy ⟨58, by decide +kernel⟩ rfl rfl rfl ?_
      obtain ⟨M1, hv, h⟩ := nxt_ex h
      rw [← hv]
      clear hv
      refine mRunF.sg (mSl mk_8 19 6) (g := (37, [some (.ref 3), some (.ref 34), some (.int x2)], [.int 4, .int 5, .ref 34, .int 0, .ref 10], mSS M1)) (by decide +kernel) rfl ?_
      refine R_copy ⟨58, by decide +kernel⟩ rfl rfl rfl ?_
      obtain ⟨M2, hv, h⟩ := nxt_ex h
      rw [← hv]
      clear hv
      refine mRunF.sg (mSl mk_8 26 6) (g := (49, [some (.ref 3), some (.ref 34), some (.int x2)], [.int 5, .int 9, .ref 34, .int 0, .ref 11], mSS M2)) (by decide +kernel) rfl ?_
      refine R_copy ⟨58, by decide +kernel⟩ rfl rfl rfl ?_
      obtain ⟨M3, hv, h⟩ := nxt_ex h
      rw [← hv]
      clear hv
      cases h
      exact R_vret (by decide +kernel)
    · rw [if_neg q] at h
      refine mRunF.sg (mSl mk_8 6 3) (g := (11, [some (.ref 3), some (.ref 34), some (.int x2)], [.int 0, .int x2, .ref 34], mSS M)) (by decide +kernel) rfl ?_
      obtain ⟨g4, h⟩ := grd_of h
      refine R_iast (by decide +kernel) rfl g4 ?_
      obtain ⟨M5, hv, h⟩ := nxt_ex h
      rw [← hv]
      clear hv
      refine mRunF.sg (mSl mk_8 10 2) (g := (2, [some (.ref 3), some (.ref 34), some (.int (x2 + 1))], [], mSS M5)) (by decide +kernel) rfl ?_
      exact @ih _ _ h
set_option maxRecDepth 100000 in
set_option maxHeartbeats 4000000 in
theorem Ga_startIn_r (N : Nat)  (M : mS) {M' : mS} (d : Nat) (h : Ga_startIn N M = some M') : mMet mP mTx (d + 1) 8 [.ref 3, .ref 34] (mSS M) none (mSS M') := by
  refine mMet_i ⟨Nat.le_refl _, Nat.le_refl _, Nat.le_of_ble_eq_true rfl⟩ ?_
  unfold Ga_startIn at h
  show mRunF (mCd 8) (mEE (mMet mP mTx (d + 0)) (none) none M') (0, [some (.ref 3), some (.ref 34), none], [], mSS M)
  refine mRunF.sg (mSl mk_8 0 2) (g := (2, [some (.ref 3), some (.ref 34), some (.int 0)], [], mSS M)) (by decide +kernel) rfl ?_
  exact Ga_startIn_2_r h
set_option maxRecDepth 100000 in
set_option maxHeartbeats 4000000 in
theorem Md_read_r (N : Nat)  (M : mS) {r : Int32} {M' : mS} (d : Nat) (h : Md_read N M = some (r, M')) : mMet mP mTx (d + 8) 106 [.ref 0] (mSS M) (some (.int r)) (mSS M') := by
  refine mMet_i ⟨Nat.le_refl _, Nat.le_refl _, Nat.le_of_ble_eq_true rfl⟩ ?_
  unfold Md_read at h
  show mRunF (mCd 106) (mEE (mMet mP mTx (d + 7)) (some .int) (some (.int r)) M') (0, [some (.ref 0), none], [], mSS M)
  refine mRunF.sg (mSl mk_106 0 4) (g := (8, [some (.ref 0), none], [.ref 1, .ref 14], mSS M)) (by decide +kernel) rfl ?_
  obtain ⟨r3, M2, q1, h⟩ := bW_of h
  refine R_callV (mi := 28) (na := 2) (ci := 4) (i := 14) (as := [.ref 1]) (r := []) (rv := some (.int r3)) (σ1 := mSS M2) ⟨108, by decide +kernel⟩ rfl rfl rfl rfl (Rr_check_r N M (d + 0) q1) ?_
  show mRunF _ _ (11, [some (.ref 0), none], [.int r3], mSS M2)
  refine mRunF.sg (mSl mk_106 5 4) (g := (17, [some (.ref 0), some (.int r3)], [.ref 14, .ref 0], mSS M2)) (by decide +kernel) rfl ?_
  obtain ⟨r5, q4, h⟩ := bR_of h
  refine R_callV (mi := 29) (na := 1) (ci := 4) (i := 14) (as := []) (r := [.ref 0]) (rv := some (.int r5)) (σ1 := mSS M2) ⟨112, by decide +kernel⟩ rfl rfl rfl rfl (Rr_faultPlace_r N M2 (d + 5) q4) ?_
  show mRunF _ _ (20, [some (.ref 0), some (.int r3)], [.int r5, .ref 0], mSS M2)
  refine mRunF.sg (mSl mk_106 10 1) (g := (23, [some (.ref 0), some (.int r3)], [], mSS (mWI M2 0 11 r5))) (by decide +kernel) rfl ?_
  obtain ⟨M6, hv, h⟩ := nxt_ex h
  rw [← hv]
  clear hv
  refine mRunF.sg (mSl mk_106 11 4) (g := (31, [some (.ref 0), some (.int r3)], [], mSS (mWI M6 1 1 0))) (by decide +kernel) rfl ?_
  obtain ⟨M7, hv, h⟩ := nxt_ex h
  rw [← hv]
  clear hv
  refine mRunF.sg (mSl mk_106 15 1) (g := (32, [some (.ref 0), some (.int r3)], [.int r3], mSS M7)) (by decide +kernel) rfl ?_
  refine R_ne (t := 78) ⟨46, by decide +kernel⟩ (fun q => ?_) (fun q => ?_)
  · rw [if_pos q] at h
    refine mRunF.sg (mSl mk_106 17 5) (g := (46, [some (.ref 0), some (.int r3)], [.ref 15, .ref 3], mSS M7)) (by decide +kernel) rfl ?_
    obtain ⟨M9, q8, h⟩ := bV_of h
    refine R_callV (mi := 7) (na := 2) (ci := 1) (i := 3) (as := [.ref 15]) (r := []) (rv := none) (σ1 := mSS M9) ⟨118, by decide +kernel⟩ rfl rfl rfl rfl (Ga_takeOver_r N M7 (d + 5) q8) ?_
    show mRunF _ _ (49, [some (.ref 0), some (.int r3)], [], mSS M9)
    refine mRunF.sg (mSl mk_106 23 4) (g := (57, [some (.ref 0), some (.int r3)], [.ref 34, .ref 3], mSS M9)) (by decide +kernel) rfl ?_
    obtain ⟨M11, q10, h⟩ := bV_of h
    refine R_callV (mi := 8) (na := 2) (ci := 1) (i := 3) (as := [.ref 34]) (r := []) (rv := none) (σ1 := mSS M11) ⟨98, by decide +kernel⟩ rfl rfl rfl rfl (Ga_startIn_r N M9 (d + 6) q10) ?_
    show mRunF _ _ (60, [some (.ref 0), some (.int r3)], [], mSS M11)
    refine mRunF.sg (mSl mk_106 28 3) (g := (65, [some (.ref 0), some (.int r3)], [], mSS (mWI M11 0 12 0))) (by decide +kernel) rfl ?_
    obtain ⟨M12, hv, h⟩ := nxt_ex h
    rw [← hv]
    clear hv
    refine mRunF.sg (mSl mk_106 31 3) (g := (70, [some (.ref 0), some (.int r3)], [], mSS (mWI M12 0 14 0))) (by decide +kernel) rfl ?_
    obtain ⟨M13, hv, h⟩ := nxt_ex h
    rw [← hv]
    clear hv
    refine mRunF.sg (mSl mk_106 34 4) (g := (78, [some (.ref 0), some (.int r3)], [], mSS (mWI M13 59 0 0))) (by decide +kernel) rfl ?_
    obtain ⟨M14, hv, h⟩ := nxt_ex h
    rw [← hv]
    clear hv
    refine mRunF.sg (mSl mk_106 38 1) (g := (79, [some (.ref 0), some (.int r3)], [.int r3], mSS M14)) (by decide +kernel) rfl ?_
    cases h
    exact R_iret (by decide +kernel)
  · rw [if_neg q] at h
    refine mRunF.sg (mSl mk_106 38 1) (g := (79, [some (.ref 0), some (.int r3)], [.int r3], mSS M7)) (by decide +kernel) rfl ?_
    cases h
    exact R_iret (by decide +kernel)
set_option maxRecDepth 100000 in
set_option maxHeartbeats 4000000 in
theorem Md_place_r  (M : mS) (d : Nat) : mMet mP mTx (d + 1) 107 [.ref 0] (mSS M) (some (.int (Md_place M))) (mSS M) := by
  refine mMet_i ⟨Nat.le_refl _, Nat.le_refl _, Nat.le_of_ble_eq_true rfl⟩ ?_
  generalize h : Md_place M = r
  unfold Md_place at h
  show mRunF (mCd 107) (mEE (mMet mP mTx (d + 0)) (some .int) (some (.int r)) M) (0, [some (.ref 0)], [], mSS M)
  refine mRunF.sg (mSl mk_107 0 2) (g := (4, [some (.ref 0)], [.int (M.1 0 11)], mSS M)) (by decide +kernel) rfl ?_
  subst h
  exact R_iret (by decide +kernel)
set_option maxRecDepth 100000 in
set_option maxHeartbeats 4000000 in
theorem Md_isDial_r (a0 : Int32) (M : mS) (d : Nat) : mMet mP mTx (d + 1) 160 [.ref 0, .int a0] (mSS M) (some (.int (Md_isDial a0 M))) (mSS M) := by
  refine mMet_i ⟨Nat.le_refl _, Nat.le_refl _, Nat.le_of_ble_eq_true rfl⟩ ?_
  generalize h : Md_isDial a0 M = r
  unfold Md_isDial at h
  show mRunF (mCd 160) (mEE (mMet mP mTx (d + 0)) (some .boolean) (some (.int r)) M) (0, [some (.ref 0), some (.int a0)], [], mSS M)
  refine mRunF.sg (mSl mk_160 0 1) (g := (1, [some (.ref 0), some (.int a0)], [.int a0], mSS M)) (by decide +kernel) rfl ?_
  refine R_lt (t := 19) ⟨18, by decide +kernel⟩ (fun q => ?_) (fun q => ?_)
  · rw [if_pos q] at h
    refine mRunF.sg (mSl mk_160 9 1) (g := (20, [some (.ref 0), some (.int a0)], [.int 0], mSS M)) (by decide +kernel) rfl ?_
    subst h
    exact R_zret (by decide +kernel) (Or.inl rfl)
  · rw [if_neg q] at h
    refine mRunF.sg (mSl mk_160 2 4) (g := (12, [some (.ref 0), some (.int a0)], [.int (M.1 3 7), .int a0], mSS M)) (by decide +kernel) rfl ?_
    refine R_ige (t := 19) ⟨7, by decide +kernel⟩ (fun q => ?_) (fun q => ?_)
    · rw [if_pos q] at h
      refine mRunF.sg (mSl mk_160 9 1) (g := (20, [some (.ref 0), some (.int a0)], [.int 0], mSS M)) (by decide +kernel) rfl ?_
      subst h
      exact R_zret (by decide +kernel) (Or.inl rfl)
    · rw [if_neg q] at h
      refine mRunF.sg (mSl mk_160 7 2) (g := (20, [some (.ref 0), some (.int a0)], [.int 1], mSS M)) (by decide +kernel) rfl ?_
      subst h
      exact R_zret (by decide +kernel) (Or.inr rfl)
set_option maxRecDepth 100000 in
set_option maxHeartbeats 4000000 in
theorem Wk_begin_r (N : Nat)  (M : mS) {M' : mS} (d : Nat) (h : Wk_begin N M = some M') : mMet mP mTx (d + 1) 89 [.ref 39, .ref 34] (mSS M) none (mSS M') := by
  refine mMet_i ⟨Nat.le_refl _, Nat.le_refl _, Nat.le_of_ble_eq_true rfl⟩ ?_
  unfold Wk_begin at h
  show mRunF (mCd 89) (mEE (mMet mP mTx (d + 0)) (none) none M') (0, [some (.ref 39), some (.ref 34)], [], mSS M)
  refine mRunF.sg (mSl mk_89 0 6) (g := (9, [some (.ref 39), some (.ref 34)], [.int 44, .int 0, .ref 40, .int 0, .ref 34], mSS M)) (by decide +kernel) rfl ?_
  refine R_copy ⟨28, by decide +kernel⟩ rfl rfl rfl ?_
  obtain ⟨M1, hv, h⟩ := nxt_ex h
  rw [← hv]
  clear hv
  refine mRunF.sg (mSl mk_89 7 3) (g := (17, [some (.ref 39), some (.ref 34)], [], mSS (mWI M1 39 7 0))) (by decide +kernel) rfl ?_
  obtain ⟨M2, hv, h⟩ := nxt_ex h
  rw [← hv]
  clear hv
  cases h
  exact R_vret (by decide +kernel)
set_option maxRecDepth 100000 in
set_option maxHeartbeats 4000000 in
theorem Wk_which_r (a0 : Int32) (M : mS) (d : Nat) : mMet mP mTx (d + 1) 102 [.ref 39, .int a0] (mSS M) (some (.int (Wk_which a0 M))) (mSS M) := by
  refine mMet_i ⟨Nat.le_refl _, Nat.le_refl _, Nat.le_of_ble_eq_true rfl⟩ ?_
  generalize h : Wk_which a0 M = r
  unfold Wk_which at h
  show mRunF (mCd 102) (mEE (mMet mP mTx (d + 0)) (some .int) (some (.int r)) M) (0, [some (.ref 39), some (.int a0)], [], mSS M)
  refine mRunF.sg (mSl mk_102 0 4) (g := (7, [some (.ref 39), some (.int a0)], [.int 0, .ref 40, .int 8], mSS M)) (by decide +kernel) rfl ?_
  refine R_iald (by decide +kernel) rfl rfl ?_
  show mRunF _ _ (8, [some (.ref 39), some (.int a0)], [.int (M.1 40 0), .int 8], mSS M)
  refine mRunF.sg (mSl mk_102 5 3) (g := (11, [some (.ref 39), some (.int a0)], [.int ((8 * (M.1 40 0)) + a0)], mSS M)) (by decide +kernel) rfl ?_
  subst h
  exact R_iret (by decide +kernel)
set_option maxRecDepth 100000 in
set_option maxHeartbeats 4000000 in
theorem Md_mixed_r (a0 : Int32) (a1 : Int32) (M : mS) (d : Nat) : mMet mP mTx (d + 1) 172 [.int a0, .int a1] (mSS M) (some (.int (Md_mixed a0 a1 M))) (mSS M) := by
  refine mMet_i ⟨Nat.le_refl _, Nat.le_refl _, Nat.le_of_ble_eq_true rfl⟩ ?_
  generalize h : Md_mixed a0 a1 M = r
  unfold Md_mixed at h
  show mRunF (mCd 172) (mEE (mMet mP mTx (d + 0)) (some .int) (some (.int r)) M) (0, [some (.int a0), some (.int a1), none], [], mSS M)
  refine mRunF.sg (mSl mk_172 0 8) (g := (12, [some (.int a0), some (.int a1), some (.int (((a0 ^^^ a1) * 1103515245) + 12345))], [], mSS M)) (by decide +kernel) rfl ?_
  obtain ⟨v1, hv, h⟩ := nxt_ex h
  rw [← hv]
  clear hv
  refine mRunF.sg (mSl mk_172 8 5) (g := (18, [some (.int a0), some (.int a1), some (.int v1)], [.int (v1 ^^^ (ushr v1 15))], mSS M)) (by decide +kernel) rfl ?_
  subst h
  exact R_iret (by decide +kernel)
set_option maxRecDepth 100000 in
set_option maxHeartbeats 4000000 in
theorem Md_lot_r (N : Nat) (a0 : Int32) (a1 : Int32) (a2 : Int32) (M : mS) {r : Int32} (d : Nat) (h : Md_lot N a0 a1 a2 M = some r) : mMet mP mTx (d + 2) 171 [.int a0, .int a1, .int a2] (mSS M) (some (.int r)) (mSS M) := by
  refine mMet_i ⟨Nat.le_refl _, Nat.le_refl _, Nat.le_of_ble_eq_true rfl⟩ ?_
  unfold Md_lot at h
  show mRunF (mCd 171) (mEE (mMet mP mTx (d + 1)) (some .int) (some (.int r)) M) (0, [some (.int a0), some (.int a1), some (.int a2), none], [], mSS M)
  refine mRunF.sg (mSl mk_171 0 2) (g := (4, [some (.int a0), some (.int a1), some (.int a2), none], [.int 203, .int a1], mSS M)) (by decide +kernel) rfl ?_
  refine R_callS (mi := 172) (na := 2) (as := [.int a1, .int 203]) (r := []) (rv := some (.int (Md_mixed a1 203 M))) (σ1 := mSS M) ⟨343, by decide +kernel⟩ rfl rfl rfl (Md_mixed_r a1 203 M (d + 0)) ?_
  show mRunF _ _ (7, [some (.int a0), some (.int a1), some (.int a2), none], [.int (Md_mixed a1 203 M)], mSS M)
  refine mRunF.sg (mSl mk_171 3 1) (g := (8, [some (.int a0), some (.int a1), some (.int a2), none], [.int a2, .int (Md_mixed a1 203 M)], mSS M)) (by decide +kernel) rfl ?_
  refine R_callS (mi := 172) (na := 2) (as := [.int (Md_mixed a1 203 M), .int a2]) (r := []) (rv := some (.int (Md_mixed (Md_mixed a1 203 M) a2 M))) (σ1 := mSS M) ⟨343, by decide +kernel⟩ rfl rfl rfl (Md_mixed_r (Md_mixed a1 203 M) a2 M (d + 0)) ?_
  show mRunF _ _ (11, [some (.int a0), some (.int a1), some (.int a2), none], [.int (Md_mixed (Md_mixed a1 203 M) a2 M)], mSS M)
  refine mRunF.sg (mSl mk_171 5 1) (g := (12, [some (.int a0), some (.int a1), some (.int a2), some (.int (Md_mixed (Md_mixed a1 203 M) a2 M))], [], mSS M)) (by decide +kernel) rfl ?_
  obtain ⟨v1, hv, h⟩ := nxt_ex h
  rw [← hv]
  clear hv
  refine mRunF.sg (mSl mk_171 6 4) (g := (16, [some (.int a0), some (.int a1), some (.int a2), some (.int v1)], [.int a0, .int (ushr v1 1)], mSS M)) (by decide +kernel) rfl ?_
  obtain ⟨r3, q2, h⟩ := bR_of h
  refine R_callS (mi := 166) (na := 2) (as := [.int (ushr v1 1), .int a0]) (r := []) (rv := some (.int r3)) (σ1 := mSS M) ⟨148, by decide +kernel⟩ rfl rfl rfl (Md_rest_r N (ushr v1 1) a0 M (d + 0) q2) ?_
  show mRunF _ _ (19, [some (.int a0), some (.int a1), some (.int a2), some (.int v1)], [.int r3], mSS M)
  cases h
  exact R_iret (by decide +kernel)
set_option maxRecDepth 100000 in
set_option maxHeartbeats 4000000 in
theorem Wk_setVars_r (N : Nat) (a0 : Int32) (a1 : Int32) (M : mS) {M' : mS} (d : Nat) (h : Wk_setVars N a0 a1 M = some M') : mMet mP mTx (d + 1) 99 [.ref 39, .int a0, .int a1] (mSS M) none (mSS M') := by
  refine mMet_i ⟨Nat.le_refl _, Nat.le_refl _, Nat.le_of_ble_eq_true rfl⟩ ?_
  unfold Wk_setVars at h
  show mRunF (mCd 99) (mEE (mMet mP mTx (d + 0)) (none) none M') (0, [some (.ref 39), some (.int a0), some (.int a1), none], [], mSS M)
  refine mRunF.sg (mSl mk_99 0 10) (g := (18, [some (.ref 39), some (.int a0), some (.int a1), some (.ref 5)], [.int 0, .ref 40, .int 0, .ref 5], mSS M)) (by decide +kernel) rfl ?_
  refine R_iald (by decide +kernel) rfl rfl ?_
  show mRunF _ _ (19, [some (.ref 39), some (.int a0), some (.int a1), some (.ref 5)], [.int (M.1 40 0), .int 0, .ref 5], mSS M)
  refine R_iast (by decide +kernel) rfl rfl ?_
  show mRunF _ _ (_, _, _, mSS (mWI M 5 0 (M.1 40 0)))
  obtain ⟨M1, hv, h⟩ := nxt_ex h
  rw [← hv]
  clear hv
  refine mRunF.sg (mSl mk_99 12 7) (g := (29, [some (.ref 39), some (.int a0), some (.int a1), some (.ref 5)], [.int (1 + a0), .ref 40, .int 1, .ref 5], mSS M1)) (by decide +kernel) rfl ?_
  obtain ⟨g2, h⟩ := grd_of h
  refine R_iald (by decide +kernel) rfl g2 ?_
  refine R_iast (by decide +kernel) rfl rfl ?_
  show mRunF _ _ (_, _, _, mSS (mWI M1 5 1 (M1.1 40 (1 + a0).toNatClampNeg)))
  obtain ⟨M3, hv, h⟩ := nxt_ex h
  rw [← hv]
  clear hv
  refine mRunF.sg (mSl mk_99 21 7) (g := (40, [some (.ref 39), some (.int a0), some (.int a1), some (.ref 5)], [.int (5 + a0), .ref 40, .int 2, .ref 5], mSS M3)) (by decide +kernel) rfl ?_
  obtain ⟨g4, h⟩ := grd_of h
  refine R_iald (by decide +kernel) rfl g4 ?_
  refine R_iast (by decide +kernel) rfl rfl ?_
  show mRunF _ _ (_, _, _, mSS (mWI M3 5 2 (M3.1 40 (5 + a0).toNatClampNeg)))
  obtain ⟨M5, hv, h⟩ := nxt_ex h
  rw [← hv]
  clear hv
  refine mRunF.sg (mSl mk_99 30 3) (g := (46, [some (.ref 39), some (.int a0), some (.int a1), some (.ref 5)], [.int a1, .int 6, .ref 5], mSS M5)) (by decide +kernel) rfl ?_
  refine R_iast (by decide +kernel) rfl rfl ?_
  show mRunF _ _ (_, _, _, mSS (mWI M5 5 6 a1))
  obtain ⟨M6, hv, h⟩ := nxt_ex h
  rw [← hv]
  clear hv
  refine mRunF.sg (mSl mk_99 34 5) (g := (57, [some (.ref 39), some (.int a0), some (.int a1), some (.ref 5)], [.int (M6.1 3 6), .int 7, .ref 5], mSS M6)) (by decide +kernel) rfl ?_
  refine R_iast (by decide +kernel) rfl rfl ?_
  show mRunF _ _ (_, _, _, mSS (mWI M6 5 7 (M6.1 3 6)))
  obtain ⟨M7, hv, h⟩ := nxt_ex h
  rw [← hv]
  clear hv
  refine mRunF.sg (mSl mk_99 40 5) (g := (68, [some (.ref 39), some (.int a0), some (.int a1), some (.ref 5)], [.int (M7.1 3 8), .int 8, .ref 5], mSS M7)) (by decide +kernel) rfl ?_
  refine R_iast (by decide +kernel) rfl rfl ?_
  show mRunF _ _ (_, _, _, mSS (mWI M7 5 8 (M7.1 3 8)))
  obtain ⟨M8, hv, h⟩ := nxt_ex h
  rw [← hv]
  clear hv
  cases h
  exact R_vret (by decide +kernel)
set_option maxRecDepth 100000 in
set_option maxHeartbeats 4000000 in
theorem La_say_280_r {N d : Nat} {k9 : Int32 → Int32 → mS → Option (Int32 × mS)} {M : mS} {x2 : Int32} {x3 : Int32} {r : Int32} {M' : mS} (hk9 : ∀ (x2 : Int32) (x3 : Int32) (M : mS), k9 x2 x3 M = some (r, M') → mRunF (mCd 17) (mEE (mMet mP mTx (d + 0)) (some .int) (some (.int r)) M') (9, [some (.ref 4), none, some (.int x2), some (.int x3), none, none, none, none], [], mSS M)) (h : La_say_280 N k9 x2 x3 M = some (r, M')) : mRunF (mCd 17) (mEE (mMet mP mTx (d + 0)) (some .int) (some (.int r)) M') (280, [some (.ref 4), none, some (.int x2), some (.int x3), none, none, none, none], [], mSS M) := by
  unfold La_say_280 at h
  refine mRunF.sg (mSl mk_17 162 2) (g := (9, [some (.ref 4), none, some (.int x2), some (.int (x3 + 1)), none, none, none, none], [], mSS M)) (by decide +kernel) rfl ?_
  exact hk9 _ _ _ h
set_option maxRecDepth 100000 in
set_option maxHeartbeats 4000000 in
theorem La_say_126_r {N d : Nat} {k9 : Int32 → Int32 → mS → Option (Int32 × mS)} {M : mS} {x2 : Int32} {x3 : Int32} {z1 : Int32} {z2 : Int32} {r : Int32} {M' : mS} (hk9 : ∀ (x2 : Int32) (x3 : Int32) (M : mS), k9 x2 x3 M = some (r, M') → mRunF (mCd 17) (mEE (mMet mP mTx (d + 0)) (some .int) (some (.int r)) M') (9, [some (.ref 4), none, some (.int x2), some (.int x3), none, none, none, none], [], mSS M)) (h : La_say_126 N k9 x2 x3 z1 z2 M = some (r, M')) : mRunF (mCd 17) (mEE (mMet mP mTx (d + 0)) (some .int) (some (.int r)) M') (126, [some (.ref 4), none, some (.int x2), some (.int x3), none, none, none, none], [.int z2, .int z1, .ref 8], mSS M) := by
  unfold La_say_126 at h
  obtain ⟨g1, h⟩ := grd_of h
  refine R_iast (by decide +kernel) rfl g1 ?_
  obtain ⟨M2, hv, h⟩ := nxt_ex h
  rw [← hv]
  clear hv
  refine mRunF.sg (mSl mk_17 73 2) (g := (280, [some (.ref 4), none, some (.int (x2 + 1)), some (.int x3), none, none, none, none], [], mSS M2)) (by decide +kernel) rfl ?_
  exact La_say_280_r hk9 h
set_option maxRecDepth 100000 in
set_option maxHeartbeats 4000000 in
theorem La_say_104_r {N d : Nat} {k9 : Int32 → Int32 → mS → Option (Int32 × mS)} {M : mS} {x2 : Int32} {x3 : Int32} {x4 : Int32} {x5 : Int32} {r : Int32} {M' : mS} (hk9 : ∀ (x2 : Int32) (x3 : Int32) (M : mS), k9 x2 x3 M = some (r, M') → mRunF (mCd 17) (mEE (mMet mP mTx (d + 0)) (some .int) (some (.int r)) M') (9, [some (.ref 4), none, some (.int x2), some (.int x3), none, none, none, none], [], mSS M)) (h : La_say_104 N k9 x2 x3 x4 x5 M = some (r, M')) : mRunF (mCd 17) (mEE (mMet mP mTx (d + 0)) (some .int) (some (.int r)) M') (104, [some (.ref 4), none, some (.int x2), some (.int x3), some (.int x4), some (.int x5), none, none], [], mSS M) := by
  unfold La_say_104 at h
  refine mRunF.sg (mSl mk_17 61 4) (g := (111, [some (.ref 4), none, some (.int x2), some (.int x3), some (.int x4), some (.int x5), none, none], [.int x4, .int x2, .ref 8], mSS M)) (by decide +kernel) rfl ?_
  refine R_ne (t := 119) ⟨8, by decide +kernel⟩ (fun q => ?_) (fun q => ?_)
  · rw [if_pos q] at h
    refine mRunF.sg (mSl mk_17 66 2) (g := (126, [some (.ref 4), none, some (.int x2), some (.int x3), some (.int x4), some (.int x5), none, none], [.int x5, .int x2, .ref 8], mSS M)) (by decide +kernel) rfl ?_
    refine mRunF.forget [true, true, true, true, false, false, true, true] ?_
    exact La_say_126_r hk9 h
  · rw [if_neg q] at h
    refine mRunF.sg (mSl mk_17 68 3) (g := (125, [some (.ref 4), none, some (.int x2), some (.int x3), some (.int x4), some (.int x5), none, none], [.int x5, .ref 5, .int x2, .ref 8], mSS M)) (by decide +kernel) rfl ?_
    obtain ⟨g3, h⟩ := grd_of h
    refine R_iald (by decide +kernel) rfl g3 ?_
    refine mRunF.forget [true, true, true, true, false, false, true, true] ?_
    exact La_say_126_r hk9 h
set_option maxRecDepth 100000 in
set_option maxHeartbeats 4000000 in
theorem La_say_77_r {N d : Nat} {k9 : Int32 → Int32 → mS → Option (Int32 × mS)} {M : mS} {x2 : Int32} {x3 : Int32} {x4 : Int32} {x5 : Int32} {r : Int32} {M' : mS} (hk9 : ∀ (x2 : Int32) (x3 : Int32) (M : mS), k9 x2 x3 M = some (r, M') → mRunF (mCd 17) (mEE (mMet mP mTx (d + 0)) (some .int) (some (.int r)) M') (9, [some (.ref 4), none, some (.int x2), some (.int x3), none, none, none, none], [], mSS M)) (h : La_say_77 N k9 x2 x3 x4 x5 M = some (r, M')) : mRunF (mCd 17) (mEE (mMet mP mTx (d + 0)) (some .int) (some (.int r)) M') (77, [some (.ref 4), none, some (.int x2), some (.int x3), some (.int x4), some (.int x5), none, none], [], mSS M) := by
  unfold La_say_77 at h
  refine mRunF.sg (mSl mk_17 46 4) (g := (83, [some (.ref 4), none, some (.int x2), some (.int x3), some (.int x4), some (.int x5), none, none], [.int (Int32.ofNat 32), .int x2], mSS M)) (by decide +kernel) rfl ?_
  refine R_ige (t := 102) ⟨19, by decide +kernel⟩ (fun q => ?_) (fun q => ?_)
  · rw [if_pos q] at h
    refine mRunF.sg (mSl mk_17 59 1) (g := (103, [some (.ref 4), none, some (.int x2), some (.int x3), some (.int x4), some (.int x5), none, none], [.int 0], mSS M)) (by decide +kernel) rfl ?_
    cases h
    exact R_iret (by decide +kernel)
  · rw [if_neg q] at h
    refine mRunF.sg (mSl mk_17 51 2) (g := (89, [some (.ref 4), none, some (.int x2), some (.int x3), some (.int x4), some (.int x5), none, none], [.int 1, .int x4], mSS M)) (by decide +kernel) rfl ?_
    refine R_ine (t := 104) ⟨15, by decide +kernel⟩ (fun q => ?_) (fun q => ?_)
    · rw [if_pos q] at h
      refine mRunF.sg (mSl mk_17 54 4) (g := (99, [some (.ref 4), none, some (.int x2), some (.int x3), some (.int x4), some (.int x5), none, none], [.int (Int32.ofNat 9), .int x5], mSS M)) (by decide +kernel) rfl ?_
      refine R_ilt (t := 104) ⟨5, by decide +kernel⟩ (fun q => ?_) (fun q => ?_)
      · rw [if_pos q] at h
        exact La_say_104_r hk9 h
      · rw [if_neg q] at h
        refine mRunF.sg (mSl mk_17 59 1) (g := (103, [some (.ref 4), none, some (.int x2), some (.int x3), some (.int x4), some (.int x5), none, none], [.int 0], mSS M)) (by decide +kernel) rfl ?_
        cases h
        exact R_iret (by decide +kernel)
    · rw [if_neg q] at h
      exact La_say_104_r hk9 h
set_option maxRecDepth 100000 in
set_option maxHeartbeats 4000000 in
theorem La_say_9_r {N d : Nat}   {r : Int32} {M' : mS} : ∀ {n : Nat} {x2 : Int32} {x3 : Int32} {M : mS}, La_say_9 N n x2 x3 M = some (r, M') → mRunF (mCd 17) (mEE (mMet mP mTx (d + 0)) (some .int) (some (.int r)) M') (9, [some (.ref 4), none, some (.int x2), some (.int x3), none, none, none, none], [], mSS M) := by
  intro n
  induction n with
  | zero => intro x2 x3 M h; cases h
  | succ n ih =>
    replace ih := @ih
    intro x2 x3 M h
    unfold La_say_9 at h
    refine mRunF.sg (mSl mk_17 7 1) (g := (10, [some (.ref 4), none, some (.int x2), some (.int x3), none, none, none, none], [.int x3], mSS M)) (by decide +kernel) rfl ?_
    refine R_lt (t := 286) ⟨276, by decide +kernel⟩ (fun q => ?_) (fun q => ?_)
    · rw [if_pos q] at h
      refine mRunF.sg (mSl mk_17 164 1) (g := (287, [some (.ref 4), none, some (.int x2), some (.int x3), none, none, none, none], [.int 0], mSS M)) (by decide +kernel) rfl ?_
      cases h
      exact R_iret (by decide +kernel)
    · rw [if_neg q] at h
      refine mRunF.sg (mSl mk_17 9 3) (g := (18, [some (.ref 4), none, some (.int x2), some (.int x3), none, none, none, none], [.int (M.1 4 4), .int x3], mSS M)) (by decide +kernel) rfl ?_
      refine R_ige (t := 286) ⟨268, by decide +kernel⟩ (fun q => ?_) (fun q => ?_)
      · rw [if_pos q] at h
        refine mRunF.sg (mSl mk_17 164 1) (g := (287, [some (.ref 4), none, some (.int x2), some (.int x3), none, none, none, none], [.int 0], mSS M)) (by decide +kernel) rfl ?_
        cases h
        exact R_iret (by decide +kernel)
      · rw [if_neg q] at h
        refine mRunF.sg (mSl mk_17 13 3) (g := (26, [some (.ref 4), none, some (.int x2), some (.int x3), none, none, none, none], [.int x3, .ref 6], mSS M)) (by decide +kernel) rfl ?_
        obtain ⟨g4, h⟩ := grd_of h
        refine R_iald (by decide +kernel) rfl g4 ?_
        refine mRunF.sg (mSl mk_17 17 3) (g := (32, [some (.ref 4), none, some (.int x2), some (.int x3), some (.int ((M.1 6 x3.toNatClampNeg) &&& 7)), none, none, none], [], mSS M)) (by decide +kernel) rfl ?_
        obtain ⟨v5, hv, h⟩ := nxt_ex h
        rw [← hv]
        clear hv
        refine mRunF.sg (mSl mk_17 20 3) (g := (37, [some (.ref 4), none, some (.int x2), some (.int x3), some (.int v5), none, none, none], [.int x3, .ref 6], mSS M)) (by decide +kernel) rfl ?_
        obtain ⟨g6, h⟩ := grd_of h
        refine R_iald (by decide +kernel) rfl g6 ?_
        refine mRunF.sg (mSl mk_17 24 3) (g := (42, [some (.ref 4), none, some (.int x2), some (.int x3), some (.int v5), some (.int ((M.1 6 x3.toNatClampNeg) >>> ((3 : Int32) &&& 31))), none, none], [], mSS M)) (by decide +kernel) rfl ?_
        obtain ⟨v7, hv, h⟩ := nxt_ex h
        rw [← hv]
        clear hv
        refine mRunF.sg (mSl mk_17 27 2) (g := (46, [some (.ref 4), none, some (.int x2), some (.int x3), some (.int v5), some (.int v7), none, none], [.int 7, .int v5], mSS M)) (by decide +kernel) rfl ?_
        refine R_ine (t := 66) ⟨20, by decide +kernel⟩ (fun q => ?_) (fun q => ?_)
        · rw [if_pos q] at h
          refine mRunF.sg (mSl mk_17 30 1) (g := (50, [some (.ref 4), none, some (.int x2), some (.int x3), some (.int v5), some (.int v7), none, none], [.int x2], mSS M)) (by decide +kernel) rfl ?_
          refine R_le (t := 64) ⟨14, by decide +kernel⟩ (fun q => ?_) (fun q => ?_)
          · rw [if_pos q] at h
            refine mRunF.sg (mSl mk_17 39 1) (g := (65, [some (.ref 4), none, some (.int x2), some (.int x3), some (.int v5), some (.int v7), none, none], [.int 0], mSS M)) (by decide +kernel) rfl ?_
            cases h
            exact R_iret (by decide +kernel)
          · rw [if_neg q] at h
            refine mRunF.sg (mSl mk_17 32 5) (g := (60, [some (.ref 4), none, some (.int x2), some (.int x3), some (.int v5), some (.int v7), none, none], [.int (x2 - 1), .ref 8], mSS M)) (by decide +kernel) rfl ?_
            obtain ⟨g8, h⟩ := grd_of h
            refine R_iald (by decide +kernel) rfl g8 ?_
            refine mRunF.sg (mSl mk_17 38 1) (g := (65, [some (.ref 4), none, some (.int x2), some (.int x3), some (.int v5), some (.int v7), none, none], [.int (M.1 8 (x2 - 1).toNatClampNeg)], mSS M)) (by decide +kernel) rfl ?_
            cases h
            exact R_iret (by decide +kernel)
        · rw [if_neg q] at h
          refine mRunF.sg (mSl mk_17 41 1) (g := (68, [some (.ref 4), none, some (.int x2), some (.int x3), some (.int v5), some (.int v7), none, none], [.int v5], mSS M)) (by decide +kernel) rfl ?_
          refine R_eq (t := 77) ⟨9, by decide +kernel⟩ (fun q => ?_) (fun q => ?_)
          · rw [if_pos q] at h
            exact La_say_77_r (fun y0 y1 y2 hh => @ih y0 y1 y2 hh) h
          · rw [if_neg q] at h
            refine mRunF.sg (mSl mk_17 43 2) (g := (74, [some (.ref 4), none, some (.int x2), some (.int x3), some (.int v5), some (.int v7), none, none], [.int 1, .int v5], mSS M)) (by decide +kernel) rfl ?_
            refine R_ine (t := 133) ⟨59, by decide +kernel⟩ (fun q => ?_) (fun q => ?_)
            · rw [if_pos q] at h
              exact La_say_77_r (fun y0 y1 y2 hh => @ih y0 y1 y2 hh) h
            · rw [if_neg q] at h
              refine mRunF.sg (mSl mk_17 75 2) (g := (135, [some (.ref 4), none, some (.int x2), some (.int x3), some (.int v5), some (.int v7), none, none], [.int 2, .int x2], mSS M)) (by decide +kernel) rfl ?_
              refine R_ige (t := 140) ⟨5, by decide +kernel⟩ (fun q => ?_) (fun q => ?_)
              · rw [if_pos q] at h
                refine mRunF.sg (mSl mk_17 80 5) (g := (147, [some (.ref 4), none, some (.int x2), some (.int x3), some (.int v5), some (.int v7), none, none], [.int (x2 - 2), .ref 8], mSS M)) (by decide +kernel) rfl ?_
                obtain ⟨g9, h⟩ := grd_of h
                refine R_iald (by decide +kernel) rfl g9 ?_
                refine mRunF.sg (mSl mk_17 86 1) (g := (150, [some (.ref 4), none, some (.int x2), some (.int x3), some (.int v5), some (.int v7), some (.int (M.1 8 (x2 - 2).toNatClampNeg)), none], [], mSS M)) (by decide +kernel) rfl ?_
                obtain ⟨v10, hv, h⟩ := nxt_ex h
                rw [← hv]
                clear hv
                refine mRunF.sg (mSl mk_17 87 5) (g := (157, [some (.ref 4), none, some (.int x2), some (.int x3), some (.int v5), some (.int v7), some (.int v10), none], [.int (x2 - 1), .ref 8], mSS M)) (by decide +kernel) rfl ?_
                obtain ⟨g11, h⟩ := grd_of h
                refine R_iald (by decide +kernel) rfl g11 ?_
                refine mRunF.sg (mSl mk_17 93 1) (g := (160, [some (.ref 4), none, some (.int x2), some (.int x3), some (.int v5), some (.int v7), some (.int v10), some (.int (M.1 8 (x2 - 1).toNatClampNeg))], [], mSS M)) (by decide +kernel) rfl ?_
                obtain ⟨v12, hv, h⟩ := nxt_ex h
                rw [← hv]
                clear hv
                refine mRunF.sg (mSl mk_17 94 2) (g := (164, [some (.ref 4), none, some (.int x2), some (.int x3), some (.int v5), some (.int v7), some (.int v10), some (.int v12)], [.int 6, .int v5], mSS M)) (by decide +kernel) rfl ?_
                refine R_ine (t := 191) ⟨27, by decide +kernel⟩ (fun q => ?_) (fun q => ?_)
                · rw [if_pos q] at h
                  refine mRunF.sg (mSl mk_17 97 3) (g := (174, [some (.ref 4), none, some (.int (x2 + (-2))), some (.int x3), some (.int v5), some (.int v7), some (.int v10), some (.int v12)], [.int v12, .int v10], mSS M)) (by decide +kernel) rfl ?_
                  refine R_ilt (t := 280) ⟨106, by decide +kernel⟩ (fun q => ?_) (fun q => ?_)
                  · rw [if_pos q] at h
                    refine mRunF.forget [true, true, true, true, false, false, false, false] ?_
                    exact La_say_280_r (fun y0 y1 y2 hh => @ih y0 y1 y2 hh) h
                  · rw [if_neg q] at h
                    refine mRunF.sg (mSl mk_17 101 2) (g := (180, [some (.ref 4), none, some (.int (x2 + (-2))), some (.int x3), some (.int v5), some (.int v7), some (.int v10), some (.int v12)], [.int x3, .int v7], mSS M)) (by decide +kernel) rfl ?_
                    refine R_ile (t := 280) ⟨100, by decide +kernel⟩ (fun q => ?_) (fun q => ?_)
                    · rw [if_pos q] at h
                      refine mRunF.forget [true, true, true, true, false, false, false, false] ?_
                      exact La_say_280_r (fun y0 y1 y2 hh => @ih y0 y1 y2 hh) h
                    · rw [if_neg q] at h
                      refine mRunF.sg (mSl mk_17 104 4) (g := (188, [some (.ref 4), none, some (.int (x2 + (-2))), some (.int (v7 - 1)), some (.int v5), some (.int v7), some (.int v10), some (.int v12)], [], mSS M)) (by decide +kernel) rfl ?_
                      obtain ⟨v13, hv, h⟩ := nxt_ex h
                      rw [← hv]
                      clear hv
                      refine mRunF.sg (mSl mk_17 108 1) (g := (280, [some (.ref 4), none, some (.int (x2 + (-2))), some (.int v13), some (.int v5), some (.int v7), some (.int v10), some (.int v12)], [], mSS M)) (by decide +kernel) rfl ?_
                      refine mRunF.forget [true, true, true, true, false, false, false, false] ?_
                      exact La_say_280_r (fun y0 y1 y2 hh => @ih y0 y1 y2 hh) h
                · rw [if_neg q] at h
                  refine mRunF.sg (mSl mk_17 109 3) (g := (197, [some (.ref 4), none, some (.int (x2 + (-1))), some (.int x3), some (.int v5), some (.int v7), some (.int v10), some (.int v12)], [.int 2, .int v5], mSS M)) (by decide +kernel) rfl ?_
                  refine R_ine (t := 216) ⟨19, by decide +kernel⟩ (fun q => ?_) (fun q => ?_)
                  · rw [if_pos q] at h
                    refine mRunF.sg (mSl mk_17 113 8) (g := (212, [some (.ref 4), none, some (.int (x2 + (-1))), some (.int x3), some (.int v5), some (.int v7), some (.int v10), some (.int v12)], [.int (v10 + v12), .int ((x2 + (-1)) - 1), .ref 8], mSS M)) (by decide +kernel) rfl ?_
                    obtain ⟨g14, h⟩ := grd_of h
                    refine R_iast (by decide +kernel) rfl g14 ?_
                    obtain ⟨M15, hv, h⟩ := nxt_ex h
                    rw [← hv]
                    clear hv
                    refine mRunF.sg (mSl mk_17 122 1) (g := (280, [some (.ref 4), none, some (.int (x2 + (-1))), some (.int x3), some (.int v5), some (.int v7), some (.int v10), some (.int v12)], [], mSS M15)) (by decide +kernel) rfl ?_
                    refine mRunF.forget [true, true, true, true, false, false, false, false] ?_
                    exact La_say_280_r (fun y0 y1 y2 hh => @ih y0 y1 y2 hh) h
                  · rw [if_neg q] at h
                    refine mRunF.sg (mSl mk_17 123 2) (g := (219, [some (.ref 4), none, some (.int (x2 + (-1))), some (.int x3), some (.int v5), some (.int v7), some (.int v10), some (.int v12)], [.int 3, .int v5], mSS M)) (by decide +kernel) rfl ?_
                    refine R_ine (t := 238) ⟨19, by decide +kernel⟩ (fun q => ?_) (fun q => ?_)
                    · rw [if_pos q] at h
                      refine mRunF.sg (mSl mk_17 126 8) (g := (234, [some (.ref 4), none, some (.int (x2 + (-1))), some (.int x3), some (.int v5), some (.int v7), some (.int v10), some (.int v12)], [.int (v10 - v12), .int ((x2 + (-1)) - 1), .ref 8], mSS M)) (by decide +kernel) rfl ?_
                      obtain ⟨g16, h⟩ := grd_of h
                      refine R_iast (by decide +kernel) rfl g16 ?_
                      obtain ⟨M17, hv, h⟩ := nxt_ex h
                      rw [← hv]
                      clear hv
                      refine mRunF.sg (mSl mk_17 135 1) (g := (280, [some (.ref 4), none, some (.int (x2 + (-1))), some (.int x3), some (.int v5), some (.int v7), some (.int v10), some (.int v12)], [], mSS M17)) (by decide +kernel) rfl ?_
                      refine mRunF.forget [true, true, true, true, false, false, false, false] ?_
                      exact La_say_280_r (fun y0 y1 y2 hh => @ih y0 y1 y2 hh) h
                    · rw [if_neg q] at h
                      refine mRunF.sg (mSl mk_17 136 2) (g := (241, [some (.ref 4), none, some (.int (x2 + (-1))), some (.int x3), some (.int v5), some (.int v7), some (.int v10), some (.int v12)], [.int 4, .int v5], mSS M)) (by decide +kernel) rfl ?_
                      refine R_ine (t := 260) ⟨19, by decide +kernel⟩ (fun q => ?_) (fun q => ?_)
                      · rw [if_pos q] at h
                        refine mRunF.sg (mSl mk_17 139 8) (g := (256, [some (.ref 4), none, some (.int (x2 + (-1))), some (.int x3), some (.int v5), some (.int v7), some (.int v10), some (.int v12)], [.int (v10 * v12), .int ((x2 + (-1)) - 1), .ref 8], mSS M)) (by decide +kernel) rfl ?_
                        obtain ⟨g18, h⟩ := grd_of h
                        refine R_iast (by decide +kernel) rfl g18 ?_
                        obtain ⟨M19, hv, h⟩ := nxt_ex h
                        rw [← hv]
                        clear hv
                        refine mRunF.sg (mSl mk_17 148 1) (g := (280, [some (.ref 4), none, some (.int (x2 + (-1))), some (.int x3), some (.int v5), some (.int v7), some (.int v10), some (.int v12)], [], mSS M19)) (by decide +kernel) rfl ?_
                        refine mRunF.forget [true, true, true, true, false, false, false, false] ?_
                        exact La_say_280_r (fun y0 y1 y2 hh => @ih y0 y1 y2 hh) h
                      · rw [if_neg q] at h
                        refine mRunF.sg (mSl mk_17 149 1) (g := (262, [some (.ref 4), none, some (.int (x2 + (-1))), some (.int x3), some (.int v5), some (.int v7), some (.int v10), some (.int v12)], [.int v12], mSS M)) (by decide +kernel) rfl ?_
                        refine R_ne (t := 267) ⟨5, by decide +kernel⟩ (fun q => ?_) (fun q => ?_)
                        · rw [if_pos q] at h
                          refine mRunF.sg (mSl mk_17 151 1) (g := (266, [some (.ref 4), none, some (.int (x2 + (-1))), some (.int x3), some (.int v5), some (.int v7), some (.int v10), some (.int v12)], [.int 0], mSS M)) (by decide +kernel) rfl ?_
                          cases h
                          exact R_iret (by decide +kernel)
                        · rw [if_neg q] at h
                          refine mRunF.sg (mSl mk_17 153 7) (g := (278, [some (.ref 4), none, some (.int (x2 + (-1))), some (.int x3), some (.int v5), some (.int v7), some (.int v10), some (.int v12)], [.int v12, .int v10, .int ((x2 + (-1)) - 1), .ref 8], mSS M)) (by decide +kernel) rfl ?_
                          obtain ⟨g20, h⟩ := nz_of h
                          refine R_div (by decide +kernel) g20 ?_
                          obtain ⟨g21, h⟩ := grd_of h
                          refine R_iast (by decide +kernel) rfl g21 ?_
                          obtain ⟨M22, hv, h⟩ := nxt_ex h
                          rw [← hv]
                          clear hv
                          refine mRunF.forget [true, true, true, true, false, false, false, false] ?_
                          exact La_say_280_r (fun y0 y1 y2 hh => @ih y0 y1 y2 hh) h
              · rw [if_neg q] at h
                refine mRunF.sg (mSl mk_17 78 1) (g := (139, [some (.ref 4), none, some (.int x2), some (.int x3), some (.int v5), some (.int v7), none, none], [.int 0], mSS M)) (by decide +kernel) rfl ?_
                cases h
                exact R_iret (by decide +kernel)
set_option maxRecDepth 100000 in
set_option maxHeartbeats 4000000 in
theorem La_say_r (N : Nat) (a0 : Int32) (M : mS) {r : Int32} {M' : mS} (d : Nat) (h : La_say N a0 M = some (r, M')) : mMet mP mTx (d + 1) 17 [.ref 4, .int a0] (mSS M) (some (.int r)) (mSS M') := by
  refine mMet_i ⟨Nat.le_refl _, Nat.le_refl _, Nat.le_of_ble_eq_true rfl⟩ ?_
  unfold La_say at h
  show mRunF (mCd 17) (mEE (mMet mP mTx (d + 0)) (some .int) (some (.int r)) M') (0, [some (.ref 4), some (.int a0), none, none, none, none, none, none], [], mSS M)
  refine mRunF.sg (mSl mk_17 0 5) (g := (7, [some (.ref 4), some (.int a0), some (.int 0), none, none, none, none, none], [.int a0, .ref 7], mSS M)) (by decide +kernel) rfl ?_
  obtain ⟨g23, h⟩ := grd_of h
  refine R_iald (by decide +kernel) rfl g23 ?_
  refine mRunF.sg (mSl mk_17 6 1) (g := (9, [some (.ref 4), some (.int a0), some (.int 0), some (.int (M.1 7 a0.toNatClampNeg)), none, none, none, none], [], mSS M)) (by decide +kernel) rfl ?_
  obtain ⟨v24, hv, h⟩ := nxt_ex h
  rw [← hv]
  clear hv
  refine mRunF.forget [true, false, true, true, true, true, true, true] ?_
  exact La_say_9_r h
