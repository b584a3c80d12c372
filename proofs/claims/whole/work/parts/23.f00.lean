/-! METHODS as functions, 0: printed by program -/
set_option maxRecDepth 100000 in
set_option maxHeartbeats 4000000 in
theorem Tp_add_3_r {N d : Nat}   {M' : mS} : ∀ {n : Nat} {x1 : Int32} {x2 : Int32} {M : mS}, Tp_add_3 N n x1 x2 M = some M' → mRunF (mCd 71) (mEE (mMet mP mTx (d + 0)) (none) none M') (3, [some (.ref 1), some (.int x1), some (.int x2)], [], mSS M) := by
  intro n
  induction n with
  | zero => intro x1 x2 M h; cases h
  | succ n ih =>
    replace ih := @ih
    intro x1 x2 M h
    unfold Tp_add_3 at h
    refine mRunF.sg (mSl mk_71 2 1) (g := (4, [some (.ref 1), some (.int x1), some (.int x2)], [.int x2], mSS M)) (by decide +kernel) rfl ?_
    refine R_lt (t := 46) ⟨42, by decide +kernel⟩ (fun q => ?_) (fun q => ?_)
    · rw [if_pos q] at h
      cases h
      exact R_vret (by decide +kernel)
    · rw [if_neg q] at h
      refine mRunF.sg (mSl mk_71 4 3) (g := (14, [some (.ref 1), some (.int x1), some (.int x2)], [.int 2000, .int (M.1 1 1)], mSS M)) (by decide +kernel) rfl ?_
      refine R_ige (t := 46) ⟨32, by decide +kernel⟩ (fun q => ?_) (fun q => ?_)
      · rw [if_pos q] at h
        cases h
        exact R_vret (by decide +kernel)
      · rw [if_neg q] at h
        refine mRunF.sg (mSl mk_71 8 8) (g := (29, [some (.ref 1), some (.int x1), some (.int x2)], [.int ((x1 >>> (x2 &&& 31)).toInt8.toInt32), .int (M.1 1 1), .ref 2], mSS M)) (by decide +kernel) rfl ?_
        obtain ⟨g1, h⟩ := grd_of h
        refine R_bast (by decide +kernel) rfl g1 ?_
        obtain ⟨M2, hv, h⟩ := nxt_ex h
        rw [← hv]
        clear hv
        refine mRunF.sg (mSl mk_71 17 6) (g := (40, [some (.ref 1), some (.int x1), some (.int x2)], [], mSS (mWI M2 1 1 ((M2.1 1 1) + 1)))) (by decide +kernel) rfl ?_
        obtain ⟨M3, hv, h⟩ := nxt_ex h
        rw [← hv]
        clear hv
        refine mRunF.sg (mSl mk_71 23 2) (g := (3, [some (.ref 1), some (.int x1), some (.int (x2 + (-8)))], [], mSS M3)) (by decide +kernel) rfl ?_
        exact @ih _ _ _ h
set_option maxRecDepth 100000 in
set_option maxHeartbeats 4000000 in
theorem Tp_add_r (N : Nat) (a0 : Int32) (M : mS) {M' : mS} (d : Nat) (h : Tp_add N a0 M = some M') : mMet mP mTx (d + 1) 71 [.ref 1, .int a0] (mSS M) none (mSS M') := by
  refine mMet_i ⟨Nat.le_refl _, Nat.le_refl _, Nat.le_of_ble_eq_true rfl⟩ ?_
  unfold Tp_add at h
  show mRunF (mCd 71) (mEE (mMet mP mTx (d + 0)) (none) none M') (0, [some (.ref 1), some (.int a0), none], [], mSS M)
  refine mRunF.sg (mSl mk_71 0 2) (g := (3, [some (.ref 1), some (.int a0), some (.int 24)], [], mSS M)) (by decide +kernel) rfl ?_
  exact Tp_add_3_r h
set_option maxRecDepth 100000 in
set_option maxHeartbeats 4000000 in
theorem Md_feed_r (N : Nat) (a0 : Int32) (a1 : Int32) (a2 : Int32) (a3 : Int32) (a4 : Int32) (M : mS) {r : Int32} {M' : mS} (d : Nat) (h : Md_feed N a0 a1 a2 a3 a4 M = some (r, M')) : mMet mP mTx (d + 2) 104 [.ref 0, .int a0, .int a1, .int a2, .int a3, .int a4] (mSS M) (some (.int r)) (mSS M') := by
  refine mMet_i ⟨Nat.le_refl _, Nat.le_refl _, Nat.le_of_ble_eq_true rfl⟩ ?_
  unfold Md_feed at h
  show mRunF (mCd 104) (mEE (mMet mP mTx (d + 1)) (some .int) (some (.int r)) M') (0, [some (.ref 0), some (.int a0), some (.int a1), some (.int a2), some (.int a3), some (.int a4)], [], mSS M)
  refine mRunF.sg (mSl mk_104 0 4) (g := (10, [some (.ref 0), some (.int a0), some (.int a1), some (.int a2), some (.int a3), some (.int a4)], [.int 1980, .int (M.1 1 1)], mSS M)) (by decide +kernel) rfl ?_
  refine R_ile (t := 15) ⟨5, by decide +kernel⟩ (fun q => ?_) (fun q => ?_)
  · rw [if_pos q] at h
    refine mRunF.sg (mSl mk_104 7 3) (g := (20, [some (.ref 0), some (.int a0), some (.int a1), some (.int a2), some (.int a3), some (.int a4)], [.int a0, .ref 1], mSS M)) (by decide +kernel) rfl ?_
    obtain ⟨M2, q1, h⟩ := bV_of h
    refine R_callV (mi := 71) (na := 2) (ci := 8) (i := 1) (as := [.int a0]) (r := []) (rv := none) (σ1 := mSS M2) ⟨105, by decide +kernel⟩ rfl rfl rfl rfl (Tp_add_r N a0 M (d + 0) q1) ?_
    show mRunF _ _ (23, [some (.ref 0), some (.int a0), some (.int a1), some (.int a2), some (.int a3), some (.int a4)], [], mSS M2)
    refine mRunF.sg (mSl mk_104 11 3) (g := (28, [some (.ref 0), some (.int a0), some (.int a1), some (.int a2), some (.int a3), some (.int a4)], [.int a1, .ref 1], mSS M2)) (by decide +kernel) rfl ?_
    obtain ⟨M4, q3, h⟩ := bV_of h
    refine R_callV (mi := 71) (na := 2) (ci := 8) (i := 1) (as := [.int a1]) (r := []) (rv := none) (σ1 := mSS M4) ⟨105, by decide +kernel⟩ rfl rfl rfl rfl (Tp_add_r N a1 M2 (d + 0) q3) ?_
    show mRunF _ _ (31, [some (.ref 0), some (.int a0), some (.int a1), some (.int a2), some (.int a3), some (.int a4)], [], mSS M4)
    refine mRunF.sg (mSl mk_104 15 3) (g := (36, [some (.ref 0), some (.int a0), some (.int a1), some (.int a2), some (.int a3), some (.int a4)], [.int a2, .ref 1], mSS M4)) (by decide +kernel) rfl ?_
    obtain ⟨M6, q5, h⟩ := bV_of h
    refine R_callV (mi := 71) (na := 2) (ci := 8) (i := 1) (as := [.int a2]) (r := []) (rv := none) (σ1 := mSS M6) ⟨105, by decide +kernel⟩ rfl rfl rfl rfl (Tp_add_r N a2 M4 (d + 0) q5) ?_
    show mRunF _ _ (39, [some (.ref 0), some (.int a0), some (.int a1), some (.int a2), some (.int a3), some (.int a4)], [], mSS M6)
    refine mRunF.sg (mSl mk_104 19 3) (g := (45, [some (.ref 0), some (.int a0), some (.int a1), some (.int a2), some (.int a3), some (.int a4)], [.int a3, .ref 1], mSS M6)) (by decide +kernel) rfl ?_
    obtain ⟨M8, q7, h⟩ := bV_of h
    refine R_callV (mi := 71) (na := 2) (ci := 8) (i := 1) (as := [.int a3]) (r := []) (rv := none) (σ1 := mSS M8) ⟨105, by decide +kernel⟩ rfl rfl rfl rfl (Tp_add_r N a3 M6 (d + 0) q7) ?_
    show mRunF _ _ (48, [some (.ref 0), some (.int a0), some (.int a1), some (.int a2), some (.int a3), some (.int a4)], [], mSS M8)
    refine mRunF.sg (mSl mk_104 23 3) (g := (54, [some (.ref 0), some (.int a0), some (.int a1), some (.int a2), some (.int a3), some (.int a4)], [.int a4, .ref 1], mSS M8)) (by decide +kernel) rfl ?_
    obtain ⟨M10, q9, h⟩ := bV_of h
    refine R_callV (mi := 71) (na := 2) (ci := 8) (i := 1) (as := [.int a4]) (r := []) (rv := none) (σ1 := mSS M10) ⟨105, by decide +kernel⟩ rfl rfl rfl rfl (Tp_add_r N a4 M8 (d + 0) q9) ?_
    show mRunF _ _ (57, [some (.ref 0), some (.int a0), some (.int a1), some (.int a2), some (.int a3), some (.int a4)], [], mSS M10)
    refine mRunF.sg (mSl mk_104 27 3) (g := (64, [some (.ref 0), some (.int a0), some (.int a1), some (.int a2), some (.int a3), some (.int a4)], [.int (M10.1 1 1)], mSS M10)) (by decide +kernel) rfl ?_
    cases h
    exact R_iret (by decide +kernel)
  · rw [if_neg q] at h
    refine mRunF.sg (mSl mk_104 5 1) (g := (14, [some (.ref 0), some (.int a0), some (.int a1), some (.int a2), some (.int a3), some (.int a4)], [.int (-1)], mSS M)) (by decide +kernel) rfl ?_
    cases h
    exact R_iret (by decide +kernel)
set_option maxRecDepth 100000 in
set_option maxHeartbeats 4000000 in
theorem Md_back_r (N : Nat) (a0 : Int32) (M : mS) {r : Int32} {M' : mS} (d : Nat) (h : Md_back N a0 M = some (r, M')) : mMet mP mTx (d + 1) 105 [.ref 0, .int a0] (mSS M) (some (.int r)) (mSS M') := by
  refine mMet_i ⟨Nat.le_refl _, Nat.le_refl _, Nat.le_of_ble_eq_true rfl⟩ ?_
  unfold Md_back at h
  show mRunF (mCd 105) (mEE (mMet mP mTx (d + 0)) (some .int) (some (.int r)) M') (0, [some (.ref 0), some (.int a0)], [], mSS M)
  refine mRunF.sg (mSl mk_105 0 1) (g := (1, [some (.ref 0), some (.int a0)], [.int a0], mSS M)) (by decide +kernel) rfl ?_
  refine R_lt (t := 15) ⟨14, by decide +kernel⟩ (fun q => ?_) (fun q => ?_)
  · rw [if_pos q] at h
    refine mRunF.sg (mSl mk_105 7 1) (g := (16, [some (.ref 0), some (.int a0)], [.int (-1)], mSS M)) (by decide +kernel) rfl ?_
    cases h
    exact R_iret (by decide +kernel)
  · rw [if_neg q] at h
    refine mRunF.sg (mSl mk_105 2 4) (g := (12, [some (.ref 0), some (.int a0)], [.int (M.1 1 1), .int a0], mSS M)) (by decide +kernel) rfl ?_
    refine R_ile (t := 17) ⟨5, by decide +kernel⟩ (fun q => ?_) (fun q => ?_)
    · rw [if_pos q] at h
      refine mRunF.sg (mSl mk_105 9 7) (g := (30, [some (.ref 0), some (.int a0)], [], mSS (mWI M 1 1 ((M.1 1 1) - a0)))) (by decide +kernel) rfl ?_
      obtain ⟨M1, hv, h⟩ := nxt_ex h
      rw [← hv]
      clear hv
      refine mRunF.sg (mSl mk_105 16 3) (g := (37, [some (.ref 0), some (.int a0)], [.int (M1.1 1 1)], mSS M1)) (by decide +kernel) rfl ?_
      cases h
      exact R_iret (by decide +kernel)
    · rw [if_neg q] at h
      refine mRunF.sg (mSl mk_105 7 1) (g := (16, [some (.ref 0), some (.int a0)], [.int (-1)], mSS M)) (by decide +kernel) rfl ?_
      cases h
      exact R_iret (by decide +kernel)
set_option maxRecDepth 100000 in
set_option maxHeartbeats 4000000 in
theorem Tp_at_r (N : Nat) (a0 : Int32) (M : mS) {r : Int32} (d : Nat) (h : Tp_at N a0 M = some r) : mMet mP mTx (d + 1) 72 [.ref 1, .int a0] (mSS M) (some (.int r)) (mSS M) := by
  refine mMet_i ⟨Nat.le_refl _, Nat.le_refl _, Nat.le_of_ble_eq_true rfl⟩ ?_
  unfold Tp_at at h
  show mRunF (mCd 72) (mEE (mMet mP mTx (d + 0)) (some .int) (some (.int r)) M) (0, [some (.ref 1), some (.int a0)], [], mSS M)
  refine mRunF.sg (mSl mk_72 0 1) (g := (1, [some (.ref 1), some (.int a0)], [.int a0], mSS M)) (by decide +kernel) rfl ?_
  refine R_lt (t := 25) ⟨24, by decide +kernel⟩ (fun q => ?_) (fun q => ?_)
  · rw [if_pos q] at h
    refine mRunF.sg (mSl mk_72 13 1) (g := (26, [some (.ref 1), some (.int a0)], [.int (-1)], mSS M)) (by decide +kernel) rfl ?_
    cases h
    exact R_iret (by decide +kernel)
  · rw [if_neg q] at h
    refine mRunF.sg (mSl mk_72 2 3) (g := (9, [some (.ref 1), some (.int a0)], [.int (M.1 1 1), .int a0], mSS M)) (by decide +kernel) rfl ?_
    refine R_ige (t := 25) ⟨16, by decide +kernel⟩ (fun q => ?_) (fun q => ?_)
    · rw [if_pos q] at h
      refine mRunF.sg (mSl mk_72 13 1) (g := (26, [some (.ref 1), some (.int a0)], [.int (-1)], mSS M)) (by decide +kernel) rfl ?_
      cases h
      exact R_iret (by decide +kernel)
    · rw [if_neg q] at h
      refine mRunF.sg (mSl mk_72 6 3) (g := (17, [some (.ref 1), some (.int a0)], [.int a0, .ref 2], mSS M)) (by decide +kernel) rfl ?_
      obtain ⟨g1, h⟩ := grd_of h
      refine R_bald (by decide +kernel) rfl g1 ?_
      refine mRunF.sg (mSl mk_72 10 3) (g := (26, [some (.ref 1), some (.int a0)], [.int ((M.1 2 a0.toNatClampNeg) &&& 255)], mSS M)) (by decide +kernel) rfl ?_
      cases h
      exact R_iret (by decide +kernel)
set_option maxRecDepth 100000 in
set_option maxHeartbeats 4000000 in
theorem Tk_isBlank_r (a0 : Int32) (M : mS) (d : Nat) : mMet mP mTx (d + 1) 87 [.int a0] (mSS M) (some (.int (Tk_isBlank a0 M))) (mSS M) := by
  refine mMet_i ⟨Nat.le_refl _, Nat.le_refl _, Nat.le_of_ble_eq_true rfl⟩ ?_
  generalize h : Tk_isBlank a0 M = r
  unfold Tk_isBlank at h
  show mRunF (mCd 87) (mEE (mMet mP mTx (d + 0)) (some .boolean) (some (.int r)) M) (0, [some (.int a0)], [], mSS M)
  refine mRunF.sg (mSl mk_87 0 2) (g := (3, [some (.int a0)], [.int 9, .int a0], mSS M)) (by decide +kernel) rfl ?_
  refine R_ieq (t := 24) ⟨21, by decide +kernel⟩ (fun q => ?_) (fun q => ?_)
  · rw [if_pos q] at h
    refine mRunF.sg (mSl mk_87 12 2) (g := (29, [some (.int a0)], [.int 1], mSS M)) (by decide +kernel) rfl ?_
    subst h
    exact R_zret (by decide +kernel) (Or.inr rfl)
  · rw [if_neg q] at h
    refine mRunF.sg (mSl mk_87 3 2) (g := (9, [some (.int a0)], [.int 10, .int a0], mSS M)) (by decide +kernel) rfl ?_
    refine R_ieq (t := 24) ⟨15, by decide +kernel⟩ (fun q => ?_) (fun q => ?_)
    · rw [if_pos q] at h
      refine mRunF.sg (mSl mk_87 12 2) (g := (29, [some (.int a0)], [.int 1], mSS M)) (by decide +kernel) rfl ?_
      subst h
      exact R_zret (by decide +kernel) (Or.inr rfl)
    · rw [if_neg q] at h
      refine mRunF.sg (mSl mk_87 6 2) (g := (15, [some (.int a0)], [.int 13, .int a0], mSS M)) (by decide +kernel) rfl ?_
      refine R_ieq (t := 24) ⟨9, by decide +kernel⟩ (fun q => ?_) (fun q => ?_)
      · rw [if_pos q] at h
        refine mRunF.sg (mSl mk_87 12 2) (g := (29, [some (.int a0)], [.int 1], mSS M)) (by decide +kernel) rfl ?_
        subst h
        exact R_zret (by decide +kernel) (Or.inr rfl)
      · rw [if_neg q] at h
        refine mRunF.sg (mSl mk_87 9 2) (g := (21, [some (.int a0)], [.int 32, .int a0], mSS M)) (by decide +kernel) rfl ?_
        refine R_ine (t := 28) ⟨7, by decide +kernel⟩ (fun q => ?_) (fun q => ?_)
        · rw [if_pos q] at h
          refine mRunF.sg (mSl mk_87 12 2) (g := (29, [some (.int a0)], [.int 1], mSS M)) (by decide +kernel) rfl ?_
          subst h
          exact R_zret (by decide +kernel) (Or.inr rfl)
        · rw [if_neg q] at h
          refine mRunF.sg (mSl mk_87 14 1) (g := (29, [some (.int a0)], [.int 0], mSS M)) (by decide +kernel) rfl ?_
          subst h
          exact R_zret (by decide +kernel) (Or.inl rfl)
set_option maxRecDepth 100000 in
set_option maxHeartbeats 4000000 in
theorem Tk_behindBlanks_2_r {N d : Nat}  {M : mS}  {r : Int32} : ∀ {n : Nat} {x2 : Int32}, Tk_behindBlanks_2 N M n x2 = some r → mRunF (mCd 81) (mEE (mMet mP mTx (d + 1)) (some .int) (some (.int r)) M) (2, [some (.ref 1), none, some (.int x2)], [], mSS M) := by
  intro n
  induction n with
  | zero => intro x2 h; cases h
  | succ n ih =>
    replace ih := @ih
    intro x2 h
    unfold Tk_behindBlanks_2 at h
    refine mRunF.sg (mSl mk_81 2 3) (g := (7, [some (.ref 1), none, some (.int x2)], [.int (M.1 1 1), .int x2], mSS M)) (by decide +kernel) rfl ?_
    refine R_ige (t := 27) ⟨20, by decide +kernel⟩ (fun q => ?_) (fun q => ?_)
    · rw [if_pos q] at h
      refine mRunF.sg (mSl mk_81 13 1) (g := (28, [some (.ref 1), none, some (.int x2)], [.int x2], mSS M)) (by decide +kernel) rfl ?_
      cases h
      exact R_iret (by decide +kernel)
    · rw [if_neg q] at h
      refine mRunF.sg (mSl mk_81 6 2) (g := (12, [some (.ref 1), none, some (.int x2)], [.int x2, .ref 1], mSS M)) (by decide +kernel) rfl ?_
      obtain ⟨r2, q1, h⟩ := bR_of h
      refine R_callV (mi := 72) (na := 2) (ci := 8) (i := 1) (as := [.int x2]) (r := []) (rv := some (.int r2)) (σ1 := mSS M) ⟨50, by decide +kernel⟩ rfl rfl rfl rfl (Tp_at_r N x2 M (d + 0) q1) ?_
      show mRunF _ _ (15, [some (.ref 1), none, some (.int x2)], [.int r2], mSS M)
      refine R_callS (mi := 87) (na := 1) (as := [.int r2]) (r := []) (rv := some (.int (Tk_isBlank r2 M))) (σ1 := mSS M) ⟨87, by decide +kernel⟩ rfl rfl rfl (Tk_isBlank_r r2 M (d + 0)) ?_
      have b3 := mBool rfl (Tk_isBlank_r r2 M (d + 0))
      show mRunF _ _ (18, [some (.ref 1), none, some (.int x2)], [.int (Tk_isBlank r2 M)], mSS M)
      refine R_eq (t := 27) ⟨9, by decide +kernel⟩ (fun q => ?_) (fun q => ?_)
      · rw [if_pos q] at h
        refine mRunF.sg (mSl mk_81 13 1) (g := (28, [some (.ref 1), none, some (.int x2)], [.int x2], mSS M)) (by decide +kernel) rfl ?_
        cases h
        exact R_iret (by decide +kernel)
      · rw [if_neg q] at h
        refine mRunF.sg (mSl mk_81 11 2) (g := (2, [some (.ref 1), none, some (.int (x2 + 1))], [], mSS M)) (by decide +kernel) rfl ?_
        exact @ih _ h
set_option maxRecDepth 100000 in
set_option maxHeartbeats 4000000 in
theorem Tk_behindBlanks_r (N : Nat) (a0 : Int32) (M : mS) {r : Int32} (d : Nat) (h : Tk_behindBlanks N a0 M = some r) : mMet mP mTx (d + 2) 81 [.ref 1, .int a0] (mSS M) (some (.int r)) (mSS M) := by
  refine mMet_i ⟨Nat.le_refl _, Nat.le_refl _, Nat.le_of_ble_eq_true rfl⟩ ?_
  unfold Tk_behindBlanks at h
  show mRunF (mCd 81) (mEE (mMet mP mTx (d + 1)) (some .int) (some (.int r)) M) (0, [some (.ref 1), some (.int a0), none], [], mSS M)
  refine mRunF.sg (mSl mk_81 0 2) (g := (2, [some (.ref 1), some (.int a0), some (.int a0)], [], mSS M)) (by decide +kernel) rfl ?_
  refine mRunF.forget [true, false, true] ?_
  exact Tk_behindBlanks_2_r h
set_option maxRecDepth 100000 in
set_option maxHeartbeats 4000000 in
theorem Tk_isLetter_r (a0 : Int32) (M : mS) (d : Nat) : mMet mP mTx (d + 1) 85 [.int a0] (mSS M) (some (.int (Tk_isLetter a0 M))) (mSS M) := by
  refine mMet_i ⟨Nat.le_refl _, Nat.le_refl _, Nat.le_of_ble_eq_true rfl⟩ ?_
  generalize h : Tk_isLetter a0 M = r
  unfold Tk_isLetter at h
  show mRunF (mCd 85) (mEE (mMet mP mTx (d + 0)) (some .boolean) (some (.int r)) M) (0, [some (.int a0)], [], mSS M)
  refine mRunF.sg (mSl mk_85 0 2) (g := (3, [some (.int a0)], [.int 97, .int a0], mSS M)) (by decide +kernel) rfl ?_
  refine R_ilt (t := 16) ⟨13, by decide +kernel⟩ (fun q => ?_) (fun q => ?_)
  · rw [if_pos q] at h
    refine mRunF.sg (mSl mk_85 8 1) (g := (17, [some (.int a0)], [.int 0], mSS M)) (by decide +kernel) rfl ?_
    subst h
    exact R_zret (by decide +kernel) (Or.inl rfl)
  · rw [if_neg q] at h
    refine mRunF.sg (mSl mk_85 3 2) (g := (9, [some (.int a0)], [.int 122, .int a0], mSS M)) (by decide +kernel) rfl ?_
    refine R_igt (t := 16) ⟨7, by decide +kernel⟩ (fun q => ?_) (fun q => ?_)
    · rw [if_pos q] at h
      refine mRunF.sg (mSl mk_85 8 1) (g := (17, [some (.int a0)], [.int 0], mSS M)) (by decide +kernel) rfl ?_
      subst h
      exact R_zret (by decide +kernel) (Or.inl rfl)
    · rw [if_neg q] at h
      refine mRunF.sg (mSl mk_85 6 2) (g := (17, [some (.int a0)], [.int 1], mSS M)) (by decide +kernel) rfl ?_
      subst h
      exact R_zret (by decide +kernel) (Or.inr rfl)
set_option maxRecDepth 100000 in
set_option maxHeartbeats 4000000 in
theorem Tk_isDigit_r (a0 : Int32) (M : mS) (d : Nat) : mMet mP mTx (d + 1) 86 [.int a0] (mSS M) (some (.int (Tk_isDigit a0 M))) (mSS M) := by
  refine mMet_i ⟨Nat.le_refl _, Nat.le_refl _, Nat.le_of_ble_eq_true rfl⟩ ?_
  generalize h : Tk_isDigit a0 M = r
  unfold Tk_isDigit at h
  show mRunF (mCd 86) (mEE (mMet mP mTx (d + 0)) (some .boolean) (some (.int r)) M) (0, [some (.int a0)], [], mSS M)
  refine mRunF.sg (mSl mk_86 0 2) (g := (3, [some (.int a0)], [.int 48, .int a0], mSS M)) (by decide +kernel) rfl ?_
  refine R_ilt (t := 16) ⟨13, by decide +kernel⟩ (fun q => ?_) (fun q => ?_)
  · rw [if_pos q] at h
    refine mRunF.sg (mSl mk_86 8 1) (g := (17, [some (.int a0)], [.int 0], mSS M)) (by decide +kernel) rfl ?_
    subst h
    exact R_zret (by decide +kernel) (Or.inl rfl)
  · rw [if_neg q] at h
    refine mRunF.sg (mSl mk_86 3 2) (g := (9, [some (.int a0)], [.int 57, .int a0], mSS M)) (by decide +kernel) rfl ?_
    refine R_igt (t := 16) ⟨7, by decide +kernel⟩ (fun q => ?_) (fun q => ?_)
    · rw [if_pos q] at h
      refine mRunF.sg (mSl mk_86 8 1) (g := (17, [some (.int a0)], [.int 0], mSS M)) (by decide +kernel) rfl ?_
      subst h
      exact R_zret (by decide +kernel) (Or.inl rfl)
    · rw [if_neg q] at h
      refine mRunF.sg (mSl mk_86 6 2) (g := (17, [some (.int a0)], [.int 1], mSS M)) (by decide +kernel) rfl ?_
      subst h
      exact R_zret (by decide +kernel) (Or.inr rfl)
set_option maxRecDepth 100000 in
set_option maxHeartbeats 4000000 in
theorem Tk_runLength_15_r {N d : Nat}  {M : mS}  {r : Int32} : ∀ {n : Nat} {x1 : Int32} {x3 : Int32}, Tk_runLength_15 N M n x1 x3 = some r → mRunF (mCd 80) (mEE (mMet mP mTx (d + 1)) (some .int) (some (.int r)) M) (15, [some (.ref 1), some (.int x1), none, some (.int x3)], [], mSS M) := by
  intro n
  induction n with
  | zero => intro x1 x3 h; cases h
  | succ n ih =>
    replace ih := @ih
    intro x1 x3 h
    unfold Tk_runLength_15 at h
    refine mRunF.sg (mSl mk_80 9 2) (g := (19, [some (.ref 1), some (.int x1), none, some (.int x3)], [.int 2000, .int x3], mSS M)) (by decide +kernel) rfl ?_
    refine R_ige (t := 74) ⟨55, by decide +kernel⟩ (fun q => ?_) (fun q => ?_)
    · rw [if_pos q] at h
      refine mRunF.sg (mSl mk_80 36 1) (g := (75, [some (.ref 1), some (.int x1), none, some (.int x3)], [.int x3], mSS M)) (by decide +kernel) rfl ?_
      cases h
      exact R_iret (by decide +kernel)
    · rw [if_neg q] at h
      refine mRunF.sg (mSl mk_80 12 4) (g := (26, [some (.ref 1), some (.int x1), none, some (.int x3)], [.int (x1 + x3), .ref 1], mSS M)) (by decide +kernel) rfl ?_
      obtain ⟨r2, q1, h⟩ := bR_of h
      refine R_callV (mi := 72) (na := 2) (ci := 8) (i := 1) (as := [.int (x1 + x3)]) (r := []) (rv := some (.int r2)) (σ1 := mSS M) ⟨50, by decide +kernel⟩ rfl rfl rfl rfl (Tp_at_r N (x1 + x3) M (d + 0) q1) ?_
      show mRunF _ _ (29, [some (.ref 1), some (.int x1), none, some (.int x3)], [.int r2], mSS M)
      refine R_callS (mi := 85) (na := 1) (as := [.int r2]) (r := []) (rv := some (.int (Tk_isLetter r2 M))) (σ1 := mSS M) ⟨74, by decide +kernel⟩ rfl rfl rfl (Tk_isLetter_r r2 M (d + 0)) ?_
      have b3 := mBool rfl (Tk_isLetter_r r2 M (d + 0))
      show mRunF _ _ (32, [some (.ref 1), some (.int x1), none, some (.int x3)], [.int (Tk_isLetter r2 M)], mSS M)
      refine R_eq (t := 74) ⟨42, by decide +kernel⟩ (fun q => ?_) (fun q => ?_)
      · rw [if_pos q] at h
        refine mRunF.sg (mSl mk_80 36 1) (g := (75, [some (.ref 1), some (.int x1), none, some (.int x3)], [.int x3], mSS M)) (by decide +kernel) rfl ?_
        cases h
        exact R_iret (by decide +kernel)
      · rw [if_neg q] at h
        refine mRunF.sg (mSl mk_80 19 2) (g := (15, [some (.ref 1), some (.int x1), none, some (.int (x3 + 1))], [], mSS M)) (by decide +kernel) rfl ?_
        exact @ih _ _ h
set_option maxRecDepth 100000 in
set_option maxHeartbeats 4000000 in
theorem Tk_runLength_48_r {N d : Nat}  {M : mS}  {r : Int32} : ∀ {n : Nat} {x1 : Int32} {x3 : Int32}, Tk_runLength_48 N M n x1 x3 = some r → mRunF (mCd 80) (mEE (mMet mP mTx (d + 1)) (some .int) (some (.int r)) M) (48, [some (.ref 1), some (.int x1), none, some (.int x3)], [], mSS M) := by
  intro n
  induction n with
  | zero => intro x1 x3 h; cases h
  | succ n ih =>
    replace ih := @ih
    intro x1 x3 h
    unfold Tk_runLength_48 at h
    refine mRunF.sg (mSl mk_80 24 2) (g := (52, [some (.ref 1), some (.int x1), none, some (.int x3)], [.int 2000, .int x3], mSS M)) (by decide +kernel) rfl ?_
    refine R_ige (t := 74) ⟨22, by decide +kernel⟩ (fun q => ?_) (fun q => ?_)
    · rw [if_pos q] at h
      refine mRunF.sg (mSl mk_80 36 1) (g := (75, [some (.ref 1), some (.int x1), none, some (.int x3)], [.int x3], mSS M)) (by decide +kernel) rfl ?_
      cases h
      exact R_iret (by decide +kernel)
    · rw [if_neg q] at h
      refine mRunF.sg (mSl mk_80 27 4) (g := (59, [some (.ref 1), some (.int x1), none, some (.int x3)], [.int (x1 + x3), .ref 1], mSS M)) (by decide +kernel) rfl ?_
      obtain ⟨r5, q4, h⟩ := bR_of h
      refine R_callV (mi := 72) (na := 2) (ci := 8) (i := 1) (as := [.int (x1 + x3)]) (r := []) (rv := some (.int r5)) (σ1 := mSS M) ⟨50, by decide +kernel⟩ rfl rfl rfl rfl (Tp_at_r N (x1 + x3) M (d + 0) q4) ?_
      show mRunF _ _ (62, [some (.ref 1), some (.int x1), none, some (.int x3)], [.int r5], mSS M)
      refine R_callS (mi := 86) (na := 1) (as := [.int r5]) (r := []) (rv := some (.int (Tk_isDigit r5 M))) (σ1 := mSS M) ⟨63, by decide +kernel⟩ rfl rfl rfl (Tk_isDigit_r r5 M (d + 0)) ?_
      have b6 := mBool rfl (Tk_isDigit_r r5 M (d + 0))
      show mRunF _ _ (65, [some (.ref 1), some (.int x1), none, some (.int x3)], [.int (Tk_isDigit r5 M)], mSS M)
      refine R_eq (t := 74) ⟨9, by decide +kernel⟩ (fun q => ?_) (fun q => ?_)
      · rw [if_pos q] at h
        refine mRunF.sg (mSl mk_80 36 1) (g := (75, [some (.ref 1), some (.int x1), none, some (.int x3)], [.int x3], mSS M)) (by decide +kernel) rfl ?_
        cases h
        exact R_iret (by decide +kernel)
      · rw [if_neg q] at h
        refine mRunF.sg (mSl mk_80 34 2) (g := (48, [some (.ref 1), some (.int x1), none, some (.int (x3 + 1))], [], mSS M)) (by decide +kernel) rfl ?_
        exact @ih _ _ h
set_option maxRecDepth 100000 in
set_option maxHeartbeats 4000000 in
theorem Tk_runLength_r (N : Nat) (a0 : Int32) (M : mS) {r : Int32} (d : Nat) (h : Tk_runLength N a0 M = some r) : mMet mP mTx (d + 2) 80 [.ref 1, .int a0] (mSS M) (some (.int r)) (mSS M) := by
  refine mMet_i ⟨Nat.le_refl _, Nat.le_refl _, Nat.le_of_ble_eq_true rfl⟩ ?_
  unfold Tk_runLength at h
  show mRunF (mCd 80) (mEE (mMet mP mTx (d + 1)) (some .int) (some (.int r)) M) (0, [some (.ref 1), some (.int a0), none, none], [], mSS M)
  refine mRunF.sg (mSl mk_80 0 2) (g := (2, [some (.ref 1), some (.int a0), none, none], [.int a0, .ref 1], mSS M)) (by decide +kernel) rfl ?_
  obtain ⟨r8, q7, h⟩ := bR_of h
  refine R_callV (mi := 72) (na := 2) (ci := 8) (i := 1) (as := [.int a0]) (r := []) (rv := some (.int r8)) (σ1 := mSS M) ⟨50, by decide +kernel⟩ rfl rfl rfl rfl (Tp_at_r N a0 M (d + 0) q7) ?_
  show mRunF _ _ (5, [some (.ref 1), some (.int a0), none, none], [.int r8], mSS M)
  refine mRunF.sg (mSl mk_80 3 4) (g := (9, [some (.ref 1), some (.int a0), some (.int r8), some (.int 1)], [.int r8], mSS M)) (by decide +kernel) rfl ?_
  refine R_callS (mi := 85) (na := 1) (as := [.int r8]) (r := []) (rv := some (.int (Tk_isLetter r8 M))) (σ1 := mSS M) ⟨74, by decide +kernel⟩ rfl rfl rfl (Tk_isLetter_r r8 M (d + 0)) ?_
  have b9 := mBool rfl (Tk_isLetter_r r8 M (d + 0))
  show mRunF _ _ (12, [some (.ref 1), some (.int a0), some (.int r8), some (.int 1)], [.int (Tk_isLetter r8 M)], mSS M)
  refine R_eq (t := 41) ⟨29, by decide +kernel⟩ (fun q => ?_) (fun q => ?_)
  · rw [if_pos q] at h
    refine mRunF.sg (mSl mk_80 21 1) (g := (42, [some (.ref 1), some (.int a0), some (.int r8), some (.int 1)], [.int r8], mSS M)) (by decide +kernel) rfl ?_
    refine R_callS (mi := 86) (na := 1) (as := [.int r8]) (r := []) (rv := some (.int (Tk_isDigit r8 M))) (σ1 := mSS M) ⟨63, by decide +kernel⟩ rfl rfl rfl (Tk_isDigit_r r8 M (d + 0)) ?_
    have b10 := mBool rfl (Tk_isDigit_r r8 M (d + 0))
    show mRunF _ _ (45, [some (.ref 1), some (.int a0), some (.int r8), some (.int 1)], [.int (Tk_isDigit r8 M)], mSS M)
    refine R_eq (t := 74) ⟨29, by decide +kernel⟩ (fun q => ?_) (fun q => ?_)
    · rw [if_pos q] at h
      refine mRunF.sg (mSl mk_80 36 1) (g := (75, [some (.ref 1), some (.int a0), some (.int r8), some (.int 1)], [.int 1], mSS M)) (by decide +kernel) rfl ?_
      cases h
      exact R_iret (by decide +kernel)
    · rw [if_neg q] at h
      refine mRunF.forget [true, true, false, true] ?_
      exact Tk_runLength_48_r h
  · rw [if_neg q] at h
    refine mRunF.forget [true, true, false, true] ?_
    exact Tk_runLength_15_r h
set_option maxRecDepth 100000 in
set_option maxHeartbeats 4000000 in
theorem Tk_withLetter_r (a0 : Int64) (a1 : Int32) (M : mS) (d : Nat) : mMet mP mTx (d + 1) 84 [.long a0, .int a1] (mSS M) (some (.long (Tk_withLetter a0 a1 M))) (mSS M) := by
  refine mMet_i ⟨Nat.le_refl _, Nat.le_refl _, Nat.le_of_ble_eq_true rfl⟩ ?_
  generalize h : Tk_withLetter a0 a1 M = r
  unfold Tk_withLetter at h
  show mRunF (mCd 84) (mEE (mMet mP mTx (d + 0)) (some .long) (some (.long r)) M) (0, [some (.long a0), none, some (.int a1)], [], mSS M)
  refine mRunF.sg (mSl mk_84 0 8) (g := (11, [some (.long a0), none, some (.int a1)], [.long ((a0 * 32) + ((a1 &&& 31).toInt64))], mSS M)) (by decide +kernel) rfl ?_
  subst h
  exact R_lret (by decide +kernel)
set_option maxRecDepth 100000 in
set_option maxHeartbeats 4000000 in
theorem Tk_key_5_r {N d : Nat}  {M : mS}  {r : Int64} : ∀ {n : Nat} {x1 : Int32} {x2 : Int32} {x3 : Int64} {x5 : Int32}, Tk_key_5 N M n x1 x2 x3 x5 = some r → mRunF (mCd 82) (mEE (mMet mP mTx (d + 1)) (some .long) (some (.long r)) M) (5, [some (.ref 1), some (.int x1), some (.int x2), some (.long x3), none, some (.int x5)], [], mSS M) := by
  intro n
  induction n with
  | zero => intro x1 x2 x3 x5 h; cases h
  | succ n ih =>
    replace ih := @ih
    intro x1 x2 x3 x5 h
    unfold Tk_key_5 at h
    refine mRunF.sg (mSl mk_82 4 2) (g := (8, [some (.ref 1), some (.int x1), some (.int x2), some (.long x3), none, some (.int x5)], [.int x2, .int x5], mSS M)) (by decide +kernel) rfl ?_
    refine R_ige (t := 37) ⟨29, by decide +kernel⟩ (fun q => ?_) (fun q => ?_)
    · rw [if_pos q] at h
      refine mRunF.sg (mSl mk_82 20 1) (g := (38, [some (.ref 1), some (.int x1), some (.int x2), some (.long x3), none, some (.int x5)], [.long x3], mSS M)) (by decide +kernel) rfl ?_
      cases h
      exact R_lret (by decide +kernel)
    · rw [if_neg q] at h
      refine mRunF.sg (mSl mk_82 7 2) (g := (15, [some (.ref 1), some (.int x1), some (.int x2), some (.long x3), none, some (.int x5)], [.int 8, .int x5], mSS M)) (by decide +kernel) rfl ?_
      refine R_ige (t := 37) ⟨22, by decide +kernel⟩ (fun q => ?_) (fun q => ?_)
      · rw [if_pos q] at h
        refine mRunF.sg (mSl mk_82 20 1) (g := (38, [some (.ref 1), some (.int x1), some (.int x2), some (.long x3), none, some (.int x5)], [.long x3], mSS M)) (by decide +kernel) rfl ?_
        cases h
        exact R_lret (by decide +kernel)
      · rw [if_neg q] at h
        refine mRunF.sg (mSl mk_82 10 5) (g := (24, [some (.ref 1), some (.int x1), some (.int x2), some (.long x3), none, some (.int x5)], [.int (x1 + x5), .ref 1, .long x3], mSS M)) (by decide +kernel) rfl ?_
        obtain ⟨r2, q1, h⟩ := bR_of h
        refine R_callV (mi := 72) (na := 2) (ci := 8) (i := 1) (as := [.int (x1 + x5)]) (r := [.long x3]) (rv := some (.int r2)) (σ1 := mSS M) ⟨50, by decide +kernel⟩ rfl rfl rfl rfl (Tp_at_r N (x1 + x5) M (d + 0) q1) ?_
        show mRunF _ _ (27, [some (.ref 1), some (.int x1), some (.int x2), some (.long x3), none, some (.int x5)], [.int r2, .long x3], mSS M)
        refine R_callS (mi := 84) (na := 2) (as := [.long x3, .int r2]) (r := []) (rv := some (.long (Tk_withLetter x3 r2 M))) (σ1 := mSS M) ⟨38, by decide +kernel⟩ rfl rfl rfl (Tk_withLetter_r x3 r2 M (d + 0)) ?_
        show mRunF _ _ (30, [some (.ref 1), some (.int x1), some (.int x2), some (.long x3), none, some (.int x5)], [.long (Tk_withLetter x3 r2 M)], mSS M)
        refine mRunF.sg (mSl mk_82 17 1) (g := (31, [some (.ref 1), some (.int x1), some (.int x2), some (.long (Tk_withLetter x3 r2 M)), none, some (.int x5)], [], mSS M)) (by decide +kernel) rfl ?_
        obtain ⟨v3, hv, h⟩ := nxt_ex h
        rw [← hv]
        clear hv
        refine mRunF.sg (mSl mk_82 18 2) (g := (5, [some (.ref 1), some (.int x1), some (.int x2), some (.long v3), none, some (.int (x5 + 1))], [], mSS M)) (by decide +kernel) rfl ?_
        exact @ih _ _ _ _ h
set_option maxRecDepth 100000 in
set_option maxHeartbeats 4000000 in
theorem Tk_key_r (N : Nat) (a0 : Int32) (a1 : Int32) (M : mS) {r : Int64} (d : Nat) (h : Tk_key N a0 a1 M = some r) : mMet mP mTx (d + 2) 82 [.ref 1, .int a0, .int a1] (mSS M) (some (.long r)) (mSS M) := by
  refine mMet_i ⟨Nat.le_refl _, Nat.le_refl _, Nat.le_of_ble_eq_true rfl⟩ ?_
  unfold Tk_key at h
  show mRunF (mCd 82) (mEE (mMet mP mTx (d + 1)) (some .long) (some (.long r)) M) (0, [some (.ref 1), some (.int a0), some (.int a1), none, none, none], [], mSS M)
  refine mRunF.sg (mSl mk_82 0 4) (g := (5, [some (.ref 1), some (.int a0), some (.int a1), some (.long 0), none, some (.int 0)], [], mSS M)) (by decide +kernel) rfl ?_
  exact Tk_key_5_r h
set_option maxRecDepth 100000 in
set_option maxHeartbeats 4000000 in
theorem Tk_wordKind_2_r {N d : Nat}  {M : mS}  {r : Int32} : ∀ {n : Nat} {x1 : Int64} {x3 : Int32}, Tk_wordKind_2 N M n x1 x3 = some r → mRunF (mCd 79) (mEE (mMet mP mTx (d + 0)) (some .int) (some (.int r)) M) (2, [some (.ref 26), some (.long x1), none, some (.int x3)], [], mSS M) := by
  intro n
  induction n with
  | zero => intro x1 x3 h; cases h
  | succ n ih =>
    replace ih := @ih
    intro x1 x3 h
    unfold Tk_wordKind_2 at h
    refine mRunF.sg (mSl mk_79 2 2) (g := (5, [some (.ref 26), some (.long x1), none, some (.int x3)], [.int 20, .int x3], mSS M)) (by decide +kernel) rfl ?_
    refine R_ige (t := 27) ⟨22, by decide +kernel⟩ (fun q => ?_) (fun q => ?_)
    · rw [if_pos q] at h
      refine mRunF.sg (mSl mk_79 16 1) (g := (29, [some (.ref 26), some (.long x1), none, some (.int x3)], [.int 20], mSS M)) (by decide +kernel) rfl ?_
      cases h
      exact R_iret (by decide +kernel)
    · rw [if_neg q] at h
      refine mRunF.sg (mSl mk_79 5 3) (g := (13, [some (.ref 26), some (.long x1), none, some (.int x3)], [.int x3, .ref 27], mSS M)) (by decide +kernel) rfl ?_
      obtain ⟨g1, h⟩ := grd_of h
      refine R_lald (by decide +kernel) rfl g1 ?_
      refine mRunF.sg (mSl mk_79 9 2) (g := (16, [some (.ref 26), some (.long x1), none, some (.int x3)], [.int (lg_cmp (M.2 27 x3.toNatClampNeg) x1)], mSS M)) (by decide +kernel) rfl ?_
      refine R_ne (t := 21) ⟨5, by decide +kernel⟩ (fun q => ?_) (fun q => ?_)
      · rw [if_pos q] at h
        refine mRunF.sg (mSl mk_79 12 1) (g := (20, [some (.ref 26), some (.long x1), none, some (.int x3)], [.int x3], mSS M)) (by decide +kernel) rfl ?_
        cases h
        exact R_iret (by decide +kernel)
      · rw [if_neg q] at h
        refine mRunF.sg (mSl mk_79 14 2) (g := (2, [some (.ref 26), some (.long x1), none, some (.int (x3 + 1))], [], mSS M)) (by decide +kernel) rfl ?_
        exact @ih _ _ h
set_option maxRecDepth 100000 in
set_option maxHeartbeats 4000000 in
theorem Tk_wordKind_r (N : Nat) (a0 : Int64) (M : mS) {r : Int32} (d : Nat) (h : Tk_wordKind N a0 M = some r) : mMet mP mTx (d + 1) 79 [.ref 26, .long a0] (mSS M) (some (.int r)) (mSS M) := by
  refine mMet_i ⟨Nat.le_refl _, Nat.le_refl _, Nat.le_of_ble_eq_true rfl⟩ ?_
  unfold Tk_wordKind at h
  show mRunF (mCd 79) (mEE (mMet mP mTx (d + 0)) (some .int) (some (.int r)) M) (0, [some (.ref 26), some (.long a0), none, none], [], mSS M)
  refine mRunF.sg (mSl mk_79 0 2) (g := (2, [some (.ref 26), some (.long a0), none, some (.int 0)], [], mSS M)) (by decide +kernel) rfl ?_
  exact Tk_wordKind_2_r h
set_option maxRecDepth 100000 in
set_option maxHeartbeats 4000000 in
theorem Tk_kindAt_r (N : Nat) (a0 : Int32) (a1 : Int32) (M : mS) {r : Int32} (d : Nat) (h : Tk_kindAt N a0 a1 M = some r) : mMet mP mTx (d + 3) 78 [.ref 26, .ref 1, .int a0, .int a1] (mSS M) (some (.int r)) (mSS M) := by
  refine mMet_i ⟨Nat.le_refl _, Nat.le_refl _, Nat.le_of_ble_eq_true rfl⟩ ?_
  unfold Tk_kindAt at h
  show mRunF (mCd 78) (mEE (mMet mP mTx (d + 2)) (some .int) (some (.int r)) M) (0, [some (.ref 26), some (.ref 1), some (.int a0), some (.int a1), none, none], [], mSS M)
  refine mRunF.sg (mSl mk_78 0 2) (g := (2, [some (.ref 26), some (.ref 1), some (.int a0), some (.int a1), none, none], [.int a0, .ref 1], mSS M)) (by decide +kernel) rfl ?_
  obtain ⟨r2, q1, h⟩ := bR_of h
  refine R_callV (mi := 72) (na := 2) (ci := 8) (i := 1) (as := [.int a0]) (r := []) (rv := some (.int r2)) (σ1 := mSS M) ⟨50, by decide +kernel⟩ rfl rfl rfl rfl (Tp_at_r N a0 M (d + 1) q1) ?_
  show mRunF _ _ (5, [some (.ref 26), some (.ref 1), some (.int a0), some (.int a1), none, none], [.int r2], mSS M)
  refine mRunF.sg (mSl mk_78 3 3) (g := (10, [some (.ref 26), some (.ref 1), some (.int a0), some (.int a1), some (.int r2), none], [.int (-1), .int r2], mSS M)) (by decide +kernel) rfl ?_
  refine R_ine (t := 16) ⟨6, by decide +kernel⟩ (fun q => ?_) (fun q => ?_)
  · rw [if_pos q] at h
    refine mRunF.sg (mSl mk_78 7 1) (g := (15, [some (.ref 26), some (.ref 1), some (.int a0), some (.int a1), some (.int r2), none], [.int 31], mSS M)) (by decide +kernel) rfl ?_
    cases h
    exact R_iret (by decide +kernel)
  · rw [if_neg q] at h
    refine mRunF.sg (mSl mk_78 9 1) (g := (18, [some (.ref 26), some (.ref 1), some (.int a0), some (.int a1), some (.int r2), none], [.int r2], mSS M)) (by decide +kernel) rfl ?_
    refine R_callS (mi := 85) (na := 1) (as := [.int r2]) (r := []) (rv := some (.int (Tk_isLetter r2 M))) (σ1 := mSS M) ⟨74, by decide +kernel⟩ rfl rfl rfl (Tk_isLetter_r r2 M (d + 1)) ?_
    have b3 := mBool rfl (Tk_isLetter_r r2 M (d + 1))
    show mRunF _ _ (21, [some (.ref 26), some (.ref 1), some (.int a0), some (.int a1), some (.int r2), none], [.int (Tk_isLetter r2 M)], mSS M)
    refine R_eq (t := 46) ⟨25, by decide +kernel⟩ (fun q => ?_) (fun q => ?_)
    · rw [if_pos q] at h
      refine mRunF.sg (mSl mk_78 24 1) (g := (48, [some (.ref 26), some (.ref 1), some (.int a0), some (.int a1), some (.int r2), none], [.int r2], mSS M)) (by decide +kernel) rfl ?_
      refine R_callS (mi := 86) (na := 1) (as := [.int r2]) (r := []) (rv := some (.int (Tk_isDigit r2 M))) (σ1 := mSS M) ⟨63, by decide +kernel⟩ rfl rfl rfl (Tk_isDigit_r r2 M (d + 1)) ?_
      have b4 := mBool rfl (Tk_isDigit_r r2 M (d + 1))
      show mRunF _ _ (51, [some (.ref 26), some (.ref 1), some (.int a0), some (.int a1), some (.int r2), none], [.int (Tk_isDigit r2 M)], mSS M)
      refine R_eq (t := 67) ⟨16, by decide +kernel⟩ (fun q => ?_) (fun q => ?_)
      · rw [if_pos q] at h
        refine mRunF.sg (mSl mk_78 34 3) (g := (72, [some (.ref 26), some (.ref 1), some (.int a0), some (.int a1), some (.int r2), none], [.int ((r2.toUInt32 % 65536).toInt32), .retAddr 2], mSS M)) (by decide +kernel) rfl ?_
        obtain ⟨g5, h⟩ := grd_of h
        refine R_sidx ⟨83, by decide +kernel⟩ rfl g5 ?_
        refine mRunF.sg (mSl mk_78 38 1) (g := (77, [some (.ref 26), some (.ref 1), some (.int a0), some (.int a1), some (.int r2), some (.int (mIdx ((r2.toUInt32 % 65536).toInt32) (mTx 1) 0))], [], mSS M)) (by decide +kernel) rfl ?_
        obtain ⟨v6, hv, h⟩ := nxt_ex h
        rw [← hv]
        clear hv
        refine mRunF.sg (mSl mk_78 39 1) (g := (79, [some (.ref 26), some (.ref 1), some (.int a0), some (.int a1), some (.int r2), some (.int v6)], [.int v6], mSS M)) (by decide +kernel) rfl ?_
        refine R_ge (t := 87) ⟨8, by decide +kernel⟩ (fun q => ?_) (fun q => ?_)
        · rw [if_pos q] at h
          refine mRunF.sg (mSl mk_78 43 3) (g := (92, [some (.ref 26), some (.ref 1), some (.int a0), some (.int a1), some (.int r2), some (.int v6)], [.int (22 + v6)], mSS M)) (by decide +kernel) rfl ?_
          cases h
          exact R_iret (by decide +kernel)
        · rw [if_neg q] at h
          refine mRunF.sg (mSl mk_78 41 2) (g := (92, [some (.ref 26), some (.ref 1), some (.int a0), some (.int a1), some (.int r2), some (.int v6)], [.int 32], mSS M)) (by decide +kernel) rfl ?_
          cases h
          exact R_iret (by decide +kernel)
      · rw [if_neg q] at h
        refine mRunF.sg (mSl mk_78 27 2) (g := (56, [some (.ref 26), some (.ref 1), some (.int a0), some (.int a1), some (.int r2), none], [.int 4, .int a1], mSS M)) (by decide +kernel) rfl ?_
        refine R_ile (t := 64) ⟨8, by decide +kernel⟩ (fun q => ?_) (fun q => ?_)
        · rw [if_pos q] at h
          refine mRunF.sg (mSl mk_78 32 1) (g := (66, [some (.ref 26), some (.ref 1), some (.int a0), some (.int a1), some (.int r2), none], [.int 21], mSS M)) (by decide +kernel) rfl ?_
          cases h
          exact R_iret (by decide +kernel)
        · rw [if_neg q] at h
          refine mRunF.sg (mSl mk_78 30 2) (g := (66, [some (.ref 26), some (.ref 1), some (.int a0), some (.int a1), some (.int r2), none], [.int 32], mSS M)) (by decide +kernel) rfl ?_
          cases h
          exact R_iret (by decide +kernel)
    · rw [if_neg q] at h
      refine mRunF.sg (mSl mk_78 12 2) (g := (27, [some (.ref 26), some (.ref 1), some (.int a0), some (.int a1), some (.int r2), none], [.int 8, .int a1], mSS M)) (by decide +kernel) rfl ?_
      refine R_ile (t := 35) ⟨8, by decide +kernel⟩ (fun q => ?_) (fun q => ?_)
      · rw [if_pos q] at h
        refine mRunF.sg (mSl mk_78 17 4) (g := (39, [some (.ref 26), some (.ref 1), some (.int a0), some (.int a1), some (.int r2), none], [.int a1, .int a0, .ref 1, .ref 26], mSS M)) (by decide +kernel) rfl ?_
        obtain ⟨r8, q7, h⟩ := bR_of h
        refine R_callS (mi := 82) (na := 3) (as := [.ref 1, .int a0, .int a1]) (r := [.ref 26]) (rv := some (.long r8)) (σ1 := mSS M) ⟨71, by decide +kernel⟩ rfl rfl rfl (Tk_key_r N a0 a1 M (d + 0) q7) ?_
        show mRunF _ _ (42, [some (.ref 26), some (.ref 1), some (.int a0), some (.int a1), some (.int r2), none], [.long r8, .ref 26], mSS M)
        obtain ⟨r10, q9, h⟩ := bR_of h
        refine R_callV (mi := 79) (na := 2) (ci := 9) (i := 26) (as := [.long r8]) (r := []) (rv := some (.int r10)) (σ1 := mSS M) ⟨77, by decide +kernel⟩ rfl rfl rfl rfl (Tk_wordKind_r N r8 M (d + 1) q9) ?_
        show mRunF _ _ (45, [some (.ref 26), some (.ref 1), some (.int a0), some (.int a1), some (.int r2), none], [.int r10], mSS M)
        cases h
        exact R_iret (by decide +kernel)
      · rw [if_neg q] at h
        refine mRunF.sg (mSl mk_78 15 2) (g := (45, [some (.ref 26), some (.ref 1), some (.int a0), some (.int a1), some (.int r2), none], [.int 32], mSS M)) (by decide +kernel) rfl ?_
        cases h
        exact R_iret (by decide +kernel)
set_option maxRecDepth 100000 in
set_option maxHeartbeats 4000000 in
theorem Tk_number_5_r {N d : Nat}  {M : mS}  {r : Int64} : ∀ {n : Nat} {x1 : Int32} {x2 : Int32} {x3 : Int64} {x5 : Int32}, Tk_number_5 N M n x1 x2 x3 x5 = some r → mRunF (mCd 83) (mEE (mMet mP mTx (d + 1)) (some .long) (some (.long r)) M) (5, [some (.ref 1), some (.int x1), some (.int x2), some (.long x3), none, some (.int x5)], [], mSS M) := by
  intro n
  induction n with
  | zero => intro x1 x2 x3 x5 h; cases h
  | succ n ih =>
    replace ih := @ih
    intro x1 x2 x3 x5 h
    unfold Tk_number_5 at h
    refine mRunF.sg (mSl mk_83 4 2) (g := (8, [some (.ref 1), some (.int x1), some (.int x2), some (.long x3), none, some (.int x5)], [.int x2, .int x5], mSS M)) (by decide +kernel) rfl ?_
    refine R_ige (t := 42) ⟨34, by decide +kernel⟩ (fun q => ?_) (fun q => ?_)
    · rw [if_pos q] at h
      refine mRunF.sg (mSl mk_83 25 1) (g := (43, [some (.ref 1), some (.int x1), some (.int x2), some (.long x3), none, some (.int x5)], [.long x3], mSS M)) (by decide +kernel) rfl ?_
      cases h
      exact R_lret (by decide +kernel)
    · rw [if_neg q] at h
      refine mRunF.sg (mSl mk_83 7 2) (g := (14, [some (.ref 1), some (.int x1), some (.int x2), some (.long x3), none, some (.int x5)], [.int 4, .int x5], mSS M)) (by decide +kernel) rfl ?_
      refine R_ige (t := 42) ⟨28, by decide +kernel⟩ (fun q => ?_) (fun q => ?_)
      · rw [if_pos q] at h
        refine mRunF.sg (mSl mk_83 25 1) (g := (43, [some (.ref 1), some (.int x1), some (.int x2), some (.long x3), none, some (.int x5)], [.long x3], mSS M)) (by decide +kernel) rfl ?_
        cases h
        exact R_lret (by decide +kernel)
      · rw [if_neg q] at h
        refine mRunF.sg (mSl mk_83 10 7) (g := (27, [some (.ref 1), some (.int x1), some (.int x2), some (.long x3), none, some (.int x5)], [.int (x1 + x5), .ref 1, .long (x3 * 10)], mSS M)) (by decide +kernel) rfl ?_
        obtain ⟨r2, q1, h⟩ := bR_of h
        refine R_callV (mi := 72) (na := 2) (ci := 8) (i := 1) (as := [.int (x1 + x5)]) (r := [.long (x3 * 10)]) (rv := some (.int r2)) (σ1 := mSS M) ⟨50, by decide +kernel⟩ rfl rfl rfl rfl (Tp_at_r N (x1 + x5) M (d + 0) q1) ?_
        show mRunF _ _ (30, [some (.ref 1), some (.int x1), some (.int x2), some (.long x3), none, some (.int x5)], [.int r2, .long (x3 * 10)], mSS M)
        refine mRunF.sg (mSl mk_83 18 5) (g := (36, [some (.ref 1), some (.int x1), some (.int x2), some (.long ((x3 * 10) + ((r2 - 48).toInt64))), none, some (.int x5)], [], mSS M)) (by decide +kernel) rfl ?_
        obtain ⟨v3, hv, h⟩ := nxt_ex h
        rw [← hv]
        clear hv
        refine mRunF.sg (mSl mk_83 23 2) (g := (5, [some (.ref 1), some (.int x1), some (.int x2), some (.long v3), none, some (.int (x5 + 1))], [], mSS M)) (by decide +kernel) rfl ?_
        exact @ih _ _ _ _ h
set_option maxRecDepth 100000 in
set_option maxHeartbeats 4000000 in
theorem Tk_number_r (N : Nat) (a0 : Int32) (a1 : Int32) (M : mS) {r : Int64} (d : Nat) (h : Tk_number N a0 a1 M = some r) : mMet mP mTx (d + 2) 83 [.ref 1, .int a0, .int a1] (mSS M) (some (.long r)) (mSS M) := by
  refine mMet_i ⟨Nat.le_refl _, Nat.le_refl _, Nat.le_of_ble_eq_true rfl⟩ ?_
  unfold Tk_number at h
  show mRunF (mCd 83) (mEE (mMet mP mTx (d + 1)) (some .long) (some (.long r)) M) (0, [some (.ref 1), some (.int a0), some (.int a1), none, none, none], [], mSS M)
  refine mRunF.sg (mSl mk_83 0 4) (g := (5, [some (.ref 1), some (.int a0), some (.int a1), some (.long 0), none, some (.int 0)], [], mSS M)) (by decide +kernel) rfl ?_
  exact Tk_number_5_r h
set_option maxRecDepth 100000 in
set_option maxHeartbeats 4000000 in
theorem Tk_cut_109_r {N d : Nat} {k10 : Int32 → Int32 → mS → Option mS} {M : mS} {x2 : Int32} {x3 : Int32} {x5 : Int32} {z1 : Int32} {z2 : Int64} {M' : mS} (hk10 : ∀ (x2 : Int32) (x3 : Int32) (M : mS), k10 x2 x3 M = some M' → mRunF (mCd 77) (mEE (mMet mP mTx (d + 3)) (none) none M') (10, [some (.ref 26), some (.ref 1), some (.int x2), some (.int x3), none, none], [], mSS M)) (h : Tk_cut_109 N k10 x2 x3 x5 z1 z2 M = some M') : mRunF (mCd 77) (mEE (mMet mP mTx (d + 3)) (none) none M') (109, [some (.ref 26), some (.ref 1), some (.int x2), some (.int x3), none, some (.int x5)], [.long z2, .int z1, .ref 30], mSS M) := by
  unfold Tk_cut_109 at h
  obtain ⟨g1, h⟩ := grd_of h
  refine R_last (by decide +kernel) rfl g1 ?_
  obtain ⟨M2, hv, h⟩ := nxt_ex h
  rw [← hv]
  clear hv
  refine mRunF.sg (mSl mk_77 62 6) (g := (120, [some (.ref 26), some (.ref 1), some (.int x2), some (.int x3), none, some (.int x5)], [], mSS (mWI M2 26 4 ((M2.1 26 4) + 1)))) (by decide +kernel) rfl ?_
  obtain ⟨M3, hv, h⟩ := nxt_ex h
  rw [← hv]
  clear hv
  refine mRunF.sg (mSl mk_77 68 4) (g := (125, [some (.ref 26), some (.ref 1), some (.int (x2 + x5)), some (.int x3), none, some (.int x5)], [], mSS M3)) (by decide +kernel) rfl ?_
  obtain ⟨v4, hv, h⟩ := nxt_ex h
  rw [← hv]
  clear hv
  refine mRunF.sg (mSl mk_77 72 1) (g := (10, [some (.ref 26), some (.ref 1), some (.int v4), some (.int x3), none, some (.int x5)], [], mSS M3)) (by decide +kernel) rfl ?_
  refine mRunF.forget [true, true, true, true, true, false] ?_
  exact hk10 _ _ _ h
set_option maxRecDepth 100000 in
set_option maxHeartbeats 4000000 in
theorem Tk_cut_10_r {N d : Nat}   {M' : mS} : ∀ {n : Nat} {x2 : Int32} {x3 : Int32} {M : mS}, Tk_cut_10 N n x2 x3 M = some M' → mRunF (mCd 77) (mEE (mMet mP mTx (d + 3)) (none) none M') (10, [some (.ref 26), some (.ref 1), some (.int x2), some (.int x3), none, none], [], mSS M) := by
  intro n
  induction n with
  | zero => intro x2 x3 M h; cases h
  | succ n ih =>
    replace ih := @ih
    intro x2 x3 M h
    unfold Tk_cut_10 at h
    refine mRunF.sg (mSl mk_77 7 3) (g := (17, [some (.ref 26), some (.ref 1), some (.int x2), some (.int x3), none, none], [.int 400, .int (M.1 26 4)], mSS M)) (by decide +kernel) rfl ?_
    refine R_igt (t := 128) ⟨111, by decide +kernel⟩ (fun q => ?_) (fun q => ?_)
    · rw [if_pos q] at h
      cases h
      exact R_vret (by decide +kernel)
    · rw [if_neg q] at h
      refine mRunF.sg (mSl mk_77 11 2) (g := (23, [some (.ref 26), some (.ref 1), some (.int x2), some (.int x3), none, none], [.int 31, .int x3], mSS M)) (by decide +kernel) rfl ?_
      refine R_ige (t := 128) ⟨105, by decide +kernel⟩ (fun q => ?_) (fun q => ?_)
      · rw [if_pos q] at h
        cases h
        exact R_vret (by decide +kernel)
      · rw [if_neg q] at h
        refine mRunF.sg (mSl mk_77 14 2) (g := (28, [some (.ref 26), some (.ref 1), some (.int x2), some (.int x3), none, none], [.int x2, .ref 1], mSS M)) (by decide +kernel) rfl ?_
        obtain ⟨r6, q5, h⟩ := bR_of h
        refine R_callS (mi := 81) (na := 2) (as := [.ref 1, .int x2]) (r := []) (rv := some (.int r6)) (σ1 := mSS M) ⟨46, by decide +kernel⟩ rfl rfl rfl (Tk_behindBlanks_r N x2 M (d + 1) q5) ?_
        show mRunF _ _ (31, [some (.ref 26), some (.ref 1), some (.int x2), some (.int x3), none, none], [.int r6], mSS M)
        refine mRunF.sg (mSl mk_77 17 3) (g := (34, [some (.ref 26), some (.ref 1), some (.int r6), some (.int x3), none, none], [.int r6, .ref 1], mSS M)) (by decide +kernel) rfl ?_
        obtain ⟨r8, q7, h⟩ := bR_of h
        refine R_callV (mi := 72) (na := 2) (ci := 8) (i := 1) (as := [.int r6]) (r := []) (rv := some (.int r8)) (σ1 := mSS M) ⟨50, by decide +kernel⟩ rfl rfl rfl rfl (Tp_at_r N r6 M (d + 2) q7) ?_
        show mRunF _ _ (37, [some (.ref 26), some (.ref 1), some (.int r6), some (.int x3), none, none], [.int r8], mSS M)
        refine mRunF.sg (mSl mk_77 21 3) (g := (41, [some (.ref 26), some (.ref 1), some (.int r6), some (.int x3), some (.int r8), none], [.int r6, .ref 1], mSS M)) (by decide +kernel) rfl ?_
        obtain ⟨r10, q9, h⟩ := bR_of h
        refine R_callS (mi := 80) (na := 2) (as := [.ref 1, .int r6]) (r := []) (rv := some (.int r10)) (σ1 := mSS M) ⟨56, by decide +kernel⟩ rfl rfl rfl (Tk_runLength_r N r6 M (d + 1) q9) ?_
        show mRunF _ _ (44, [some (.ref 26), some (.ref 1), some (.int r6), some (.int x3), some (.int r8), none], [.int r10], mSS M)
        refine mRunF.sg (mSl mk_77 25 5) (g := (51, [some (.ref 26), some (.ref 1), some (.int r6), some (.int x3), some (.int r8), some (.int r10)], [.int r10, .int r6, .ref 1, .ref 26], mSS M)) (by decide +kernel) rfl ?_
        obtain ⟨r12, q11, h⟩ := bR_of h
        refine R_callV (mi := 78) (na := 4) (ci := 9) (i := 26) (as := [.ref 1, .int r6, .int r10]) (r := []) (rv := some (.int r12)) (σ1 := mSS M) ⟨59, by decide +kernel⟩ rfl rfl rfl rfl (Tk_kindAt_r N r6 r10 M (d + 0) q11) ?_
        show mRunF _ _ (54, [some (.ref 26), some (.ref 1), some (.int r6), some (.int x3), some (.int r8), some (.int r10)], [.int r12], mSS M)
        refine mRunF.sg (mSl mk_77 31 7) (g := (65, [some (.ref 26), some (.ref 1), some (.int r6), some (.int r12), some (.int r8), some (.int r10)], [.int r12.toInt8.toInt32, .int (M.1 26 4), .ref 28], mSS M)) (by decide +kernel) rfl ?_
        obtain ⟨g13, h⟩ := grd_of h
        refine R_bast (by decide +kernel) rfl g13 ?_
        obtain ⟨M14, hv, h⟩ := nxt_ex h
        rw [← hv]
        clear hv
        refine mRunF.sg (mSl mk_77 39 5) (g := (75, [some (.ref 26), some (.ref 1), some (.int r6), some (.int r12), some (.int r8), some (.int r10)], [.int r6, .int (M14.1 26 4), .ref 29], mSS M14)) (by decide +kernel) rfl ?_
        obtain ⟨g15, h⟩ := grd_of h
        refine R_iast (by decide +kernel) rfl g15 ?_
        obtain ⟨M16, hv, h⟩ := nxt_ex h
        rw [← hv]
        clear hv
        refine mRunF.sg (mSl mk_77 45 5) (g := (86, [some (.ref 26), some (.ref 1), some (.int r6), some (.int r12), some (.int r8), some (.int r10)], [.int r8, .int (M16.1 26 4), .ref 30], mSS M16)) (by decide +kernel) rfl ?_
        refine R_callS (mi := 86) (na := 1) (as := [.int r8]) (r := [.int (M16.1 26 4), .ref 30]) (rv := some (.int (Tk_isDigit r8 M16))) (σ1 := mSS M16) ⟨63, by decide +kernel⟩ rfl rfl rfl (Tk_isDigit_r r8 M16 (d + 2)) ?_
        have b17 := mBool rfl (Tk_isDigit_r r8 M16 (d + 2))
        show mRunF _ _ (89, [some (.ref 26), some (.ref 1), some (.int r6), some (.int r12), some (.int r8), some (.int r10)], [.int (Tk_isDigit r8 M16), .int (M16.1 26 4), .ref 30], mSS M16)
        refine R_eq (t := 102) ⟨13, by decide +kernel⟩ (fun q => ?_) (fun q => ?_)
        · rw [if_pos q] at h
          refine mRunF.sg (mSl mk_77 57 3) (g := (106, [some (.ref 26), some (.ref 1), some (.int r6), some (.int r12), some (.int r8), some (.int r10)], [.int r10, .int r6, .ref 1, .int (M16.1 26 4), .ref 30], mSS M16)) (by decide +kernel) rfl ?_
          obtain ⟨r19, q18, h⟩ := bR_of h
          refine R_callS (mi := 82) (na := 3) (as := [.ref 1, .int r6, .int r10]) (r := [.int (M16.1 26 4), .ref 30]) (rv := some (.long r19)) (σ1 := mSS M16) ⟨71, by decide +kernel⟩ rfl rfl rfl (Tk_key_r N r6 r10 M16 (d + 1) q18) ?_
          show mRunF _ _ (109, [some (.ref 26), some (.ref 1), some (.int r6), some (.int r12), some (.int r8), some (.int r10)], [.long r19, .int (M16.1 26 4), .ref 30], mSS M16)
          refine mRunF.forget [true, true, true, true, false, true] ?_
          exact Tk_cut_109_r (fun y0 y1 y2 hh => @ih y0 y1 y2 hh) h
        · rw [if_neg q] at h
          refine mRunF.sg (mSl mk_77 52 3) (g := (96, [some (.ref 26), some (.ref 1), some (.int r6), some (.int r12), some (.int r8), some (.int r10)], [.int r10, .int r6, .ref 1, .int (M16.1 26 4), .ref 30], mSS M16)) (by decide +kernel) rfl ?_
          obtain ⟨r21, q20, h⟩ := bR_of h
          refine R_callS (mi := 83) (na := 3) (as := [.ref 1, .int r6, .int r10]) (r := [.int (M16.1 26 4), .ref 30]) (rv := some (.long r21)) (σ1 := mSS M16) ⟨67, by decide +kernel⟩ rfl rfl rfl (Tk_number_r N r6 r10 M16 (d + 1) q20) ?_
          show mRunF _ _ (99, [some (.ref 26), some (.ref 1), some (.int r6), some (.int r12), some (.int r8), some (.int r10)], [.long r21, .int (M16.1 26 4), .ref 30], mSS M16)
          refine mRunF.sg (mSl mk_77 56 1) (g := (109, [some (.ref 26), some (.ref 1), some (.int r6), some (.int r12), some (.int r8), some (.int r10)], [.long r21, .int (M16.1 26 4), .ref 30], mSS M16)) (by decide +kernel) rfl ?_
          refine mRunF.forget [true, true, true, true, false, true] ?_
          exact Tk_cut_109_r (fun y0 y1 y2 hh => @ih y0 y1 y2 hh) h
set_option maxRecDepth 100000 in
set_option maxHeartbeats 4000000 in
theorem Tk_cut_r (N : Nat)  (M : mS) {M' : mS} (d : Nat) (h : Tk_cut N M = some M') : mMet mP mTx (d + 4) 77 [.ref 26, .ref 1] (mSS M) none (mSS M') := by
  refine mMet_i ⟨Nat.le_refl _, Nat.le_refl _, Nat.le_of_ble_eq_true rfl⟩ ?_
  unfold Tk_cut at h
  show mRunF (mCd 77) (mEE (mMet mP mTx (d + 3)) (none) none M') (0, [some (.ref 26), some (.ref 1), none, none, none, none], [], mSS M)
  refine mRunF.sg (mSl mk_77 0 3) (g := (5, [some (.ref 26), some (.ref 1), none, none, none, none], [], mSS (mWI M 26 4 0))) (by decide +kernel) rfl ?_
  obtain ⟨M22, hv, h⟩ := nxt_ex h
  rw [← hv]
  clear hv
  refine mRunF.sg (mSl mk_77 3 4) (g := (10, [some (.ref 26), some (.ref 1), some (.int 0), some (.int 22), none, none], [], mSS M22)) (by decide +kernel) rfl ?_
  exact Tk_cut_10_r h
set_option maxRecDepth 100000 in
set_option maxHeartbeats 4000000 in
theorem La_open_r (N : Nat) (a0 : Int32) (M : mS) {M' : mS} (d : Nat) (h : La_open N a0 M = some M') : mMet mP mTx (d + 1) 13 [.ref 16, .int a0] (mSS M) none (mSS M') := by
  refine mMet_i ⟨Nat.le_refl _, Nat.le_refl _, Nat.le_of_ble_eq_true rfl⟩ ?_
  unfold La_open at h
  show mRunF (mCd 13) (mEE (mMet mP mTx (d + 0)) (none) none M') (0, [some (.ref 16), some (.int a0)], [], mSS M)
  refine mRunF.sg (mSl mk_13 0 1) (g := (1, [some (.ref 16), some (.int a0)], [.int a0], mSS M)) (by decide +kernel) rfl ?_
  refine R_lt (t := 38) ⟨37, by decide +kernel⟩ (fun q => ?_) (fun q => ?_)
  · rw [if_pos q] at h
    cases h
    exact R_vret (by decide +kernel)
  · rw [if_neg q] at h
    refine mRunF.sg (mSl mk_13 2 2) (g := (6, [some (.ref 16), some (.int a0)], [.int 4, .int a0], mSS M)) (by decide +kernel) rfl ?_
    refine R_ige (t := 38) ⟨32, by decide +kernel⟩ (fun q => ?_) (fun q => ?_)
    · rw [if_pos q] at h
      cases h
      exact R_vret (by decide +kernel)
    · rw [if_neg q] at h
      refine mRunF.sg (mSl mk_13 5 3) (g := (14, [some (.ref 16), some (.int a0)], [], mSS (mWI M 16 6 a0))) (by decide +kernel) rfl ?_
      obtain ⟨M1, hv, h⟩ := nxt_ex h
      rw [← hv]
      clear hv
      refine mRunF.sg (mSl mk_13 8 5) (g := (23, [some (.ref 16), some (.int a0)], [.int (M1.1 16 4), .int a0, .ref 19], mSS M1)) (by decide +kernel) rfl ?_
      obtain ⟨g2, h⟩ := grd_of h
      refine R_iast (by decide +kernel) rfl g2 ?_
      obtain ⟨M3, hv, h⟩ := nxt_ex h
      rw [← hv]
      clear hv
      refine mRunF.sg (mSl mk_13 14 10) (g := (38, [some (.ref 16), some (.int a0)], [], mSS (mWI M3 16 5 ((M3.1 16 5) &&& (((1 : Int32) <<< (a0 &&& 31)) ^^^ (-1)))))) (by decide +kernel) rfl ?_
      obtain ⟨M4, hv, h⟩ := nxt_ex h
      rw [← hv]
      clear hv
      cases h
      exact R_vret (by decide +kernel)
set_option maxRecDepth 100000 in
set_option maxHeartbeats 4000000 in
theorem La_put_63_r {N d : Nat}  {M : mS}  {r : Int32} {M' : mS} (h : La_put_63 N M = some (r, M')) : mRunF (mCd 14) (mEE (mMet mP mTx (d + 0)) (some .int) (some (.int r)) M') (63, [some (.ref 16), none, none], [], mSS M) := by
  unfold La_put_63 at h
  refine mRunF.sg (mSl mk_14 38 6) (g := (73, [some (.ref 16), none, none], [], mSS (mWI M 16 4 ((M.1 16 4) + 1)))) (by decide +kernel) rfl ?_
  obtain ⟨M1, hv, h⟩ := nxt_ex h
  rw [← hv]
  clear hv
  refine mRunF.sg (mSl mk_14 44 4) (g := (79, [some (.ref 16), none, none], [.int ((M1.1 16 4) - 1)], mSS M1)) (by decide +kernel) rfl ?_
  cases h
  exact R_iret (by decide +kernel)
set_option maxRecDepth 100000 in
set_option maxHeartbeats 4000000 in
theorem La_put_48_r {N d : Nat}  {M : mS}  {r : Int32} {M' : mS} (h : La_put_48 N M = some (r, M')) : mRunF (mCd 14) (mEE (mMet mP mTx (d + 0)) (some .int) (some (.int r)) M') (48, [some (.ref 16), none, none], [], mSS M) := by
  unfold La_put_48 at h
  refine mRunF.sg (mSl mk_14 29 9) (g := (63, [some (.ref 16), none, none], [], mSS (mWI M 16 5 ((M.1 16 5) ||| ((1 : Int32) <<< ((M.1 16 6) &&& 31)))))) (by decide +kernel) rfl ?_
  obtain ⟨M2, hv, h⟩ := nxt_ex h
  rw [← hv]
  clear hv
  exact La_put_63_r h
set_option maxRecDepth 100000 in
set_option maxHeartbeats 4000000 in
theorem La_put_r (N : Nat) (a0 : Int32) (a1 : Int32) (M : mS) {r : Int32} {M' : mS} (d : Nat) (h : La_put N a0 a1 M = some (r, M')) : mMet mP mTx (d + 1) 14 [.ref 16, .int a0, .int a1] (mSS M) (some (.int r)) (mSS M') := by
  refine mMet_i ⟨Nat.le_refl _, Nat.le_refl _, Nat.le_of_ble_eq_true rfl⟩ ?_
  unfold La_put at h
  show mRunF (mCd 14) (mEE (mMet mP mTx (d + 0)) (some .int) (some (.int r)) M') (0, [some (.ref 16), some (.int a0), some (.int a1)], [], mSS M)
  refine mRunF.sg (mSl mk_14 0 5) (g := (9, [some (.ref 16), some (.int a0), some (.int a1)], [.int (Int32.ofNat 408), .int (M.1 16 4)], mSS M)) (by decide +kernel) rfl ?_
  refine R_ilt (t := 14) ⟨5, by decide +kernel⟩ (fun q => ?_) (fun q => ?_)
  · rw [if_pos q] at h
    refine mRunF.sg (mSl mk_14 8 9) (g := (28, [some (.ref 16), some (.int a0), some (.int a1)], [.int ((a1 * 8) + a0), .int (M.1 16 4), .ref 18], mSS M)) (by decide +kernel) rfl ?_
    obtain ⟨g3, h⟩ := grd_of h
    refine R_iast (by decide +kernel) rfl g3 ?_
    obtain ⟨M4, hv, h⟩ := nxt_ex h
    rw [← hv]
    clear hv
    refine mRunF.sg (mSl mk_14 18 2) (g := (31, [some (.ref 16), some (.int a0), some (.int a1)], [.int 1, .int a0], mSS M4)) (by decide +kernel) rfl ?_
    refine R_ine (t := 63) ⟨32, by decide +kernel⟩ (fun q => ?_) (fun q => ?_)
    · rw [if_pos q] at h
      refine mRunF.sg (mSl mk_14 21 1) (g := (35, [some (.ref 16), some (.int a0), some (.int a1)], [.int a1], mSS M4)) (by decide +kernel) rfl ?_
      refine R_eq (t := 48) ⟨13, by decide +kernel⟩ (fun q => ?_) (fun q => ?_)
      · rw [if_pos q] at h
        refine mRunF.forget [true, false, false] ?_
        exact La_put_48_r h
      · rw [if_neg q] at h
        refine mRunF.sg (mSl mk_14 23 2) (g := (40, [some (.ref 16), some (.int a0), some (.int a1)], [.int 1, .int a1], mSS M4)) (by decide +kernel) rfl ?_
        refine R_ieq (t := 48) ⟨8, by decide +kernel⟩ (fun q => ?_) (fun q => ?_)
        · rw [if_pos q] at h
          refine mRunF.forget [true, false, false] ?_
          exact La_put_48_r h
        · rw [if_neg q] at h
          refine mRunF.sg (mSl mk_14 26 2) (g := (45, [some (.ref 16), some (.int a0), some (.int a1)], [.int 5, .int a1], mSS M4)) (by decide +kernel) rfl ?_
          refine R_ine (t := 63) ⟨18, by decide +kernel⟩ (fun q => ?_) (fun q => ?_)
          · rw [if_pos q] at h
            refine mRunF.forget [true, false, false] ?_
            exact La_put_48_r h
          · rw [if_neg q] at h
            refine mRunF.forget [true, false, false] ?_
            exact La_put_63_r h
    · rw [if_neg q] at h
      refine mRunF.forget [true, false, false] ?_
      exact La_put_63_r h
  · rw [if_neg q] at h
    refine mRunF.sg (mSl mk_14 6 1) (g := (13, [some (.ref 16), some (.int a0), some (.int a1)], [.int (-1)], mSS M)) (by decide +kernel) rfl ?_
    cases h
    exact R_iret (by decide +kernel)
set_option maxRecDepth 100000 in
set_option maxHeartbeats 4000000 in
theorem La_putShort_r (N : Nat) (a0 : Int32) (a1 : Int32) (a2 : Int32) (M : mS) {M' : mS} (d : Nat) (h : La_putShort N a0 a1 a2 M = some M') : mMet mP mTx (d + 2) 11 [.ref 16, .int a0, .int a1, .int a2] (mSS M) none (mSS M') := by
  refine mMet_i ⟨Nat.le_refl _, Nat.le_refl _, Nat.le_of_ble_eq_true rfl⟩ ?_
  unfold La_putShort at h
  show mRunF (mCd 11) (mEE (mMet mP mTx (d + 1)) (none) none M') (0, [some (.ref 16), some (.int a0), some (.int a1), some (.int a2)], [], mSS M)
  refine mRunF.sg (mSl mk_11 0 2) (g := (2, [some (.ref 16), some (.int a0), some (.int a1), some (.int a2)], [.int a0, .ref 16], mSS M)) (by decide +kernel) rfl ?_
  obtain ⟨M2, q1, h⟩ := bV_of h
  refine R_callV (mi := 13) (na := 2) (ci := 2) (i := 16) (as := [.int a0]) (r := []) (rv := none) (σ1 := mSS M2) ⟨38, by decide +kernel⟩ rfl rfl rfl rfl (La_open_r N a0 M (d + 0) q1) ?_
  show mRunF _ _ (5, [some (.ref 16), some (.int a0), some (.int a1), some (.int a2)], [], mSS M2)
  refine mRunF.sg (mSl mk_11 3 3) (g := (8, [some (.ref 16), some (.int a0), some (.int a1), some (.int a2)], [.int a2, .int a1, .ref 16], mSS M2)) (by decide +kernel) rfl ?_
  obtain ⟨r5, M4, q3, h⟩ := bW_of h
  refine R_callV (mi := 14) (na := 3) (ci := 2) (i := 16) (as := [.int a1, .int a2]) (r := []) (rv := some (.int r5)) (σ1 := mSS M4) ⟨42, by decide +kernel⟩ rfl rfl rfl rfl (La_put_r N a1 a2 M2 (d + 0) q3) ?_
  show mRunF _ _ (11, [some (.ref 16), some (.int a0), some (.int a1), some (.int a2)], [.int r5], mSS M4)
  refine mRunF.sg (mSl mk_11 7 4) (g := (16, [some (.ref 16), some (.int a0), some (.int a1), some (.int a2)], [.int 0, .int 7, .ref 16], mSS M4)) (by decide +kernel) rfl ?_
  obtain ⟨r8, M7, q6, h⟩ := bW_of h
  refine R_callV (mi := 14) (na := 3) (ci := 2) (i := 16) (as := [.int 7, .int 0]) (r := []) (rv := some (.int r8)) (σ1 := mSS M7) ⟨42, by decide +kernel⟩ rfl rfl rfl rfl (La_put_r N 7 0 M4 (d + 0) q6) ?_
  show mRunF _ _ (19, [some (.ref 16), some (.int a0), some (.int a1), some (.int a2)], [.int r8], mSS M7)
  refine mRunF.sg (mSl mk_11 12 1) (g := (20, [some (.ref 16), some (.int a0), some (.int a1), some (.int a2)], [], mSS M7)) (by decide +kernel) rfl ?_
  cases h
  exact R_vret (by decide +kernel)
set_option maxRecDepth 100000 in
set_option maxHeartbeats 4000000 in
theorem La_clear_r (N : Nat)  (M : mS) {M' : mS} (d : Nat) (h : La_clear N M = some M') : mMet mP mTx (d + 3) 10 [.ref 16] (mSS M) none (mSS M') := by
  refine mMet_i ⟨Nat.le_refl _, Nat.le_refl _, Nat.le_of_ble_eq_true rfl⟩ ?_
  unfold La_clear at h
  show mRunF (mCd 10) (mEE (mMet mP mTx (d + 2)) (none) none M') (0, [some (.ref 16)], [], mSS M)
  refine mRunF.sg (mSl mk_10 0 3) (g := (5, [some (.ref 16)], [], mSS (mWI M 16 4 0))) (by decide +kernel) rfl ?_
  obtain ⟨M1, hv, h⟩ := nxt_ex h
  rw [← hv]
  clear hv
  refine mRunF.sg (mSl mk_10 3 3) (g := (10, [some (.ref 16)], [], mSS (mWI M1 16 5 0))) (by decide +kernel) rfl ?_
  obtain ⟨M2, hv, h⟩ := nxt_ex h
  rw [← hv]
  clear hv
  refine mRunF.sg (mSl mk_10 6 4) (g := (14, [some (.ref 16)], [.int 1, .int 0, .int 0, .ref 16], mSS M2)) (by decide +kernel) rfl ?_
  obtain ⟨M4, q3, h⟩ := bV_of h
  refine R_callV (mi := 11) (na := 4) (ci := 2) (i := 16) (as := [.int 0, .int 0, .int 1]) (r := []) (rv := none) (σ1 := mSS M4) ⟨34, by decide +kernel⟩ rfl rfl rfl rfl (La_putShort_r N 0 0 1 M2 (d + 0) q3) ?_
  show mRunF _ _ (17, [some (.ref 16)], [], mSS M4)
  refine mRunF.sg (mSl mk_10 11 4) (g := (21, [some (.ref 16)], [.int 4, .int 1, .int 1, .ref 16], mSS M4)) (by decide +kernel) rfl ?_
  obtain ⟨M6, q5, h⟩ := bV_of h
  refine R_callV (mi := 11) (na := 4) (ci := 2) (i := 16) (as := [.int 1, .int 1, .int 4]) (r := []) (rv := none) (σ1 := mSS M6) ⟨34, by decide +kernel⟩ rfl rfl rfl rfl (La_putShort_r N 1 1 4 M4 (d + 0) q5) ?_
  show mRunF _ _ (24, [some (.ref 16)], [], mSS M6)
  refine mRunF.sg (mSl mk_10 16 4) (g := (28, [some (.ref 16)], [.int 1, .int 0, .int 2, .ref 16], mSS M6)) (by decide +kernel) rfl ?_
  obtain ⟨M8, q7, h⟩ := bV_of h
  refine R_callV (mi := 11) (na := 4) (ci := 2) (i := 16) (as := [.int 2, .int 0, .int 1]) (r := []) (rv := none) (σ1 := mSS M8) ⟨34, by decide +kernel⟩ rfl rfl rfl rfl (La_putShort_r N 2 0 1 M6 (d + 0) q7) ?_
  show mRunF _ _ (31, [some (.ref 16)], [], mSS M8)
  refine mRunF.sg (mSl mk_10 21 4) (g := (35, [some (.ref 16)], [.int 0, .int 0, .int 3, .ref 16], mSS M8)) (by decide +kernel) rfl ?_
  obtain ⟨M10, q9, h⟩ := bV_of h
  refine R_callV (mi := 11) (na := 4) (ci := 2) (i := 16) (as := [.int 3, .int 0, .int 0]) (r := []) (rv := none) (σ1 := mSS M10) ⟨34, by decide +kernel⟩ rfl rfl rfl rfl (La_putShort_r N 3 0 0 M8 (d + 0) q9) ?_
  show mRunF _ _ (38, [some (.ref 16)], [], mSS M10)
  cases h
  exact R_vret (by decide +kernel)
set_option maxRecDepth 100000 in
set_option maxHeartbeats 4000000 in
theorem Ga_clear_r (N : Nat)  (M : mS) {M' : mS} (d : Nat) (h : Ga_clear N M = some M') : mMet mP mTx (d + 4) 5 [.ref 15] (mSS M) none (mSS M') := by
  refine mMet_i ⟨Nat.le_refl _, Nat.le_refl _, Nat.le_of_ble_eq_true rfl⟩ ?_
  unfold Ga_clear at h
  show mRunF (mCd 5) (mEE (mMet mP mTx (d + 3)) (none) none M') (0, [some (.ref 15)], [], mSS M)
  refine mRunF.sg (mSl mk_5 0 2) (g := (4, [some (.ref 15)], [.ref 16], mSS M)) (by decide +kernel) rfl ?_
  obtain ⟨M2, q1, h⟩ := bV_of h
  refine R_callV (mi := 10) (na := 1) (ci := 2) (i := 16) (as := []) (r := []) (rv := none) (σ1 := mSS M2) ⟨47, by decide +kernel⟩ rfl rfl rfl rfl (La_clear_r N M (d + 0) q1) ?_
  show mRunF _ _ (7, [some (.ref 15)], [], mSS M2)
  refine mRunF.sg (mSl mk_5 3 3) (g := (13, [some (.ref 15)], [], mSS (mWI M2 15 6 12))) (by decide +kernel) rfl ?_
  obtain ⟨M3, hv, h⟩ := nxt_ex h
  rw [← hv]
  clear hv
  refine mRunF.sg (mSl mk_5 6 3) (g := (18, [some (.ref 15)], [], mSS (mWI M3 15 7 0))) (by decide +kernel) rfl ?_
  obtain ⟨M4, hv, h⟩ := nxt_ex h
  rw [← hv]
  clear hv
  refine mRunF.sg (mSl mk_5 9 3) (g := (23, [some (.ref 15)], [], mSS (mWI M4 15 8 0))) (by decide +kernel) rfl ?_
  obtain ⟨M5, hv, h⟩ := nxt_ex h
  rw [← hv]
  clear hv
  refine mRunF.sg (mSl mk_5 12 3) (g := (28, [some (.ref 15)], [], mSS (mWI M5 15 9 0))) (by decide +kernel) rfl ?_
  obtain ⟨M6, hv, h⟩ := nxt_ex h
  rw [← hv]
  clear hv
  cases h
  exact R_vret (by decide +kernel)
set_option maxRecDepth 100000 in
set_option maxHeartbeats 4000000 in
theorem Md_rest_r (N : Nat) (a0 : Int32) (a1 : Int32) (M : mS) {r : Int32} (d : Nat) (h : Md_rest N a0 a1 M = some r) : mMet mP mTx (d + 1) 166 [.int a0, .int a1] (mSS M) (some (.int r)) (mSS M) := by
  refine mMet_i ⟨Nat.le_refl _, Nat.le_refl _, Nat.le_of_ble_eq_true rfl⟩ ?_
  unfold Md_rest at h
  show mRunF (mCd 166) (mEE (mMet mP mTx (d + 0)) (some .int) (some (.int r)) M) (0, [some (.int a0), some (.int a1), none], [], mSS M)
  refine mRunF.sg (mSl mk_166 0 1) (g := (1, [some (.int a0), some (.int a1), none], [.int a1], mSS M)) (by decide +kernel) rfl ?_
  refine R_gt (t := 6) ⟨5, by decide +kernel⟩ (fun q => ?_) (fun q => ?_)
  · rw [if_pos q] at h
    refine mRunF.sg (mSl mk_166 4 2) (g := (8, [some (.int a0), some (.int a1), none], [.int a1, .int a0], mSS M)) (by decide +kernel) rfl ?_
    obtain ⟨g1, h⟩ := nz_of h
    refine R_rem (by decide +kernel) g1 ?_
    refine mRunF.sg (mSl mk_166 7 1) (g := (10, [some (.int a0), some (.int a1), some (.int (a0 - a0 / a1 * a1))], [], mSS M)) (by decide +kernel) rfl ?_
    obtain ⟨v2, hv, h⟩ := nxt_ex h
    rw [← hv]
    clear hv
    refine mRunF.sg (mSl mk_166 8 1) (g := (11, [some (.int a0), some (.int a1), some (.int v2)], [.int v2], mSS M)) (by decide +kernel) rfl ?_
    refine R_ge (t := 20) ⟨9, by decide +kernel⟩ (fun q => ?_) (fun q => ?_)
    · rw [if_pos q] at h
      refine mRunF.sg (mSl mk_166 14 1) (g := (21, [some (.int a0), some (.int a1), some (.int v2)], [.int v2], mSS M)) (by decide +kernel) rfl ?_
      cases h
      exact R_iret (by decide +kernel)
    · rw [if_neg q] at h
      refine mRunF.sg (mSl mk_166 10 4) (g := (21, [some (.int a0), some (.int a1), some (.int v2)], [.int (v2 + a1)], mSS M)) (by decide +kernel) rfl ?_
      cases h
      exact R_iret (by decide +kernel)
  · rw [if_neg q] at h
    refine mRunF.sg (mSl mk_166 2 1) (g := (5, [some (.int a0), some (.int a1), none], [.int 0], mSS M)) (by decide +kernel) rfl ?_
    cases h
    exact R_iret (by decide +kernel)
set_option maxRecDepth 100000 in
set_option maxHeartbeats 4000000 in
theorem Ga_settle_53_r {N d : Nat}   {M' : mS} : ∀ {n : Nat} {x1 : Int32} {M : mS}, Ga_settle_53 N n x1 M = some M' → mRunF (mCd 6) (mEE (mMet mP mTx (d + 1)) (none) none M') (53, [some (.ref 15), some (.int x1)], [], mSS M) := by
  intro n
  induction n with
  | zero => intro x1 M h; cases h
  | succ n ih =>
    replace ih := @ih
    intro x1 M h
    unfold Ga_settle_53 at h
    refine mRunF.sg (mSl mk_6 31 2) (g := (55, [some (.ref 15), some (.int x1)], [.int 5, .int x1], mSS M)) (by decide +kernel) rfl ?_
    refine R_ige (t := 83) ⟨28, by decide +kernel⟩ (fun q => ?_) (fun q => ?_)
    · rw [if_pos q] at h
      cases h
      exact R_vret (by decide +kernel)
    · rw [if_neg q] at h
      refine mRunF.sg (mSl mk_6 34 6) (g := (68, [some (.ref 15), some (.int x1)], [.int x1, .ref 24, .int x1, .ref 24], mSS M)) (by decide +kernel) rfl ?_
      obtain ⟨g1, h⟩ := grd_of h
      refine R_iald (by decide +kernel) rfl g1 ?_
      refine mRunF.sg (mSl mk_6 41 2) (g := (73, [some (.ref 15), some (.int x1)], [.int (M.1 15 6), .int (M.1 24 x1.toNatClampNeg), .int x1, .ref 24], mSS M)) (by decide +kernel) rfl ?_
      obtain ⟨r3, q2, h⟩ := bR_of h
      refine R_callS (mi := 166) (na := 2) (as := [.int (M.1 24 x1.toNatClampNeg), .int (M.1 15 6)]) (r := [.int x1, .ref 24]) (rv := some (.int r3)) (σ1 := mSS M) ⟨50, by decide +kernel⟩ rfl rfl rfl (Md_rest_r N (M.1 24 x1.toNatClampNeg) (M.1 15 6) M (d + 0) q2) ?_
      show mRunF _ _ (76, [some (.ref 15), some (.int x1)], [.int r3, .int x1, .ref 24], mSS M)
      obtain ⟨g4, h⟩ := grd_of h
      refine R_iast (by decide +kernel) rfl g4 ?_
      obtain ⟨M5, hv, h⟩ := nxt_ex h
      rw [← hv]
      clear hv
      refine mRunF.sg (mSl mk_6 45 2) (g := (53, [some (.ref 15), some (.int (x1 + 1))], [], mSS M5)) (by decide +kernel) rfl ?_
      exact @ih _ _ h
set_option maxRecDepth 100000 in
set_option maxHeartbeats 4000000 in
theorem Ga_settle_2_r {N d : Nat}   {M' : mS} : ∀ {n : Nat} {x1 : Int32} {M : mS}, Ga_settle_2 N n x1 M = some M' → mRunF (mCd 6) (mEE (mMet mP mTx (d + 1)) (none) none M') (2, [some (.ref 15), some (.int x1)], [], mSS M) := by
  intro n
  induction n with
  | zero => intro x1 M h; cases h
  | succ n ih =>
    replace ih := @ih
    intro x1 M h
    unfold Ga_settle_2 at h
    refine mRunF.sg (mSl mk_6 2 2) (g := (4, [some (.ref 15), some (.int x1)], [.int 4, .int x1], mSS M)) (by decide +kernel) rfl ?_
    refine R_ige (t := 51) ⟨47, by decide +kernel⟩ (fun q => ?_) (fun q => ?_)
    · rw [if_pos q] at h
      refine mRunF.sg (mSl mk_6 29 2) (g := (53, [some (.ref 15), some (.int 0)], [], mSS M)) (by decide +kernel) rfl ?_
      exact Ga_settle_53_r h
    · rw [if_neg q] at h
      refine mRunF.sg (mSl mk_6 5 6) (g := (17, [some (.ref 15), some (.int x1)], [.int x1, .ref 21, .int x1, .ref 21], mSS M)) (by decide +kernel) rfl ?_
      obtain ⟨g6, h⟩ := grd_of h
      refine R_iald (by decide +kernel) rfl g6 ?_
      refine mRunF.sg (mSl mk_6 12 2) (g := (22, [some (.ref 15), some (.int x1)], [.int (M.1 15 6), .int (M.1 21 x1.toNatClampNeg), .int x1, .ref 21], mSS M)) (by decide +kernel) rfl ?_
      obtain ⟨r8, q7, h⟩ := bR_of h
      refine R_callS (mi := 166) (na := 2) (as := [.int (M.1 21 x1.toNatClampNeg), .int (M.1 15 6)]) (r := [.int x1, .ref 21]) (rv := some (.int r8)) (σ1 := mSS M) ⟨50, by decide +kernel⟩ rfl rfl rfl (Md_rest_r N (M.1 21 x1.toNatClampNeg) (M.1 15 6) M (d + 0) q7) ?_
      show mRunF _ _ (25, [some (.ref 15), some (.int x1)], [.int r8, .int x1, .ref 21], mSS M)
      obtain ⟨g9, h⟩ := grd_of h
      refine R_iast (by decide +kernel) rfl g9 ?_
      obtain ⟨M10, hv, h⟩ := nxt_ex h
      rw [← hv]
      clear hv
      refine mRunF.sg (mSl mk_6 16 6) (g := (36, [some (.ref 15), some (.int x1)], [.int x1, .ref 22, .int x1, .ref 22], mSS M10)) (by decide +kernel) rfl ?_
      obtain ⟨g11, h⟩ := grd_of h
      refine R_iald (by decide +kernel) rfl g11 ?_
      refine mRunF.sg (mSl mk_6 23 2) (g := (41, [some (.ref 15), some (.int x1)], [.int (M10.1 15 6), .int (M10.1 22 x1.toNatClampNeg), .int x1, .ref 22], mSS M10)) (by decide +kernel) rfl ?_
      obtain ⟨r13, q12, h⟩ := bR_of h
      refine R_callS (mi := 166) (na := 2) (as := [.int (M10.1 22 x1.toNatClampNeg), .int (M10.1 15 6)]) (r := [.int x1, .ref 22]) (rv := some (.int r13)) (σ1 := mSS M10) ⟨50, by decide +kernel⟩ rfl rfl rfl (Md_rest_r N (M10.1 22 x1.toNatClampNeg) (M10.1 15 6) M10 (d + 0) q12) ?_
      show mRunF _ _ (44, [some (.ref 15), some (.int x1)], [.int r13, .int x1, .ref 22], mSS M10)
      obtain ⟨g14, h⟩ := grd_of h
      refine R_iast (by decide +kernel) rfl g14 ?_
      obtain ⟨M15, hv, h⟩ := nxt_ex h
      rw [← hv]
      clear hv
      refine mRunF.sg (mSl mk_6 27 2) (g := (2, [some (.ref 15), some (.int (x1 + 1))], [], mSS M15)) (by decide +kernel) rfl ?_
      exact @ih _ _ h
set_option maxRecDepth 100000 in
set_option maxHeartbeats 4000000 in
theorem Ga_settle_r (N : Nat)  (M : mS) {M' : mS} (d : Nat) (h : Ga_settle N M = some M') : mMet mP mTx (d + 2) 6 [.ref 15] (mSS M) none (mSS M') := by
  refine mMet_i ⟨Nat.le_refl _, Nat.le_refl _, Nat.le_of_ble_eq_true rfl⟩ ?_
  unfold Ga_settle at h
  show mRunF (mCd 6) (mEE (mMet mP mTx (d + 1)) (none) none M') (0, [some (.ref 15), none], [], mSS M)
  refine mRunF.sg (mSl mk_6 0 2) (g := (2, [some (.ref 15), some (.int 0)], [], mSS M)) (by decide +kernel) rfl ?_
  exact Ga_settle_2_r h
set_option maxRecDepth 100000 in
set_option maxHeartbeats 4000000 in
theorem Tk_kindOf_r (N : Nat) (a0 : Int32) (M : mS) {r : Int32} (d : Nat) (h : Tk_kindOf N a0 M = some r) : mMet mP mTx (d + 1) 74 [.ref 26, .int a0] (mSS M) (some (.int r)) (mSS M) := by
  refine mMet_i ⟨Nat.le_refl _, Nat.le_refl _, Nat.le_of_ble_eq_true rfl⟩ ?_
  unfold Tk_kindOf at h
  show mRunF (mCd 74) (mEE (mMet mP mTx (d + 0)) (some .int) (some (.int r)) M) (0, [some (.ref 26), some (.int a0)], [], mSS M)
  refine mRunF.sg (mSl mk_74 0 1) (g := (1, [some (.ref 26), some (.int a0)], [.int a0], mSS M)) (by decide +kernel) rfl ?_
  refine R_lt (t := 21) ⟨20, by decide +kernel⟩ (fun q => ?_) (fun q => ?_)
  · rw [if_pos q] at h
    refine mRunF.sg (mSl mk_74 11 1) (g := (23, [some (.ref 26), some (.int a0)], [.int 31], mSS M)) (by decide +kernel) rfl ?_
    cases h
    exact R_iret (by decide +kernel)
  · rw [if_neg q] at h
    refine mRunF.sg (mSl mk_74 2 3) (g := (9, [some (.ref 26), some (.int a0)], [.int (M.1 26 4), .int a0], mSS M)) (by decide +kernel) rfl ?_
    refine R_ige (t := 21) ⟨12, by decide +kernel⟩ (fun q => ?_) (fun q => ?_)
    · rw [if_pos q] at h
      refine mRunF.sg (mSl mk_74 11 1) (g := (23, [some (.ref 26), some (.int a0)], [.int 31], mSS M)) (by decide +kernel) rfl ?_
      cases h
      exact R_iret (by decide +kernel)
    · rw [if_neg q] at h
      refine mRunF.sg (mSl mk_74 6 3) (g := (17, [some (.ref 26), some (.int a0)], [.int a0, .ref 28], mSS M)) (by decide +kernel) rfl ?_
      obtain ⟨g1, h⟩ := grd_of h
      refine R_bald (by decide +kernel) rfl g1 ?_
      refine mRunF.sg (mSl mk_74 10 1) (g := (23, [some (.ref 26), some (.int a0)], [.int (M.1 28 a0.toNatClampNeg)], mSS M)) (by decide +kernel) rfl ?_
      cases h
      exact R_iret (by decide +kernel)
set_option maxRecDepth 100000 in
set_option maxHeartbeats 4000000 in
theorem Rr_failForm_r (N : Nat) (a0 : Int32) (M : mS) {M' : mS} (d : Nat) (h : Rr_failForm N a0 M = some M') : mMet mP mTx (d + 1) 46 [.ref 14, .int a0] (mSS M) none (mSS M') := by
  refine mMet_i ⟨Nat.le_refl _, Nat.le_refl _, Nat.le_of_ble_eq_true rfl⟩ ?_
  unfold Rr_failForm at h
  show mRunF (mCd 46) (mEE (mMet mP mTx (d + 0)) (none) none M') (0, [some (.ref 14), some (.int a0)], [], mSS M)
  refine mRunF.sg (mSl mk_46 0 2) (g := (4, [some (.ref 14), some (.int a0)], [.int (M.1 14 9)], mSS M)) (by decide +kernel) rfl ?_
  refine R_ne (t := 12) ⟨8, by decide +kernel⟩ (fun q => ?_) (fun q => ?_)
  · rw [if_pos q] at h
    refine mRunF.sg (mSl mk_46 3 3) (g := (12, [some (.ref 14), some (.int a0)], [], mSS (mWI M 14 9 a0))) (by decide +kernel) rfl ?_
    obtain ⟨M1, hv, h⟩ := nxt_ex h
    rw [← hv]
    clear hv
    cases h
    exact R_vret (by decide +kernel)
  · rw [if_neg q] at h
    cases h
    exact R_vret (by decide +kernel)
set_option maxRecDepth 100000 in
set_option maxHeartbeats 4000000 in
theorem Rr_take_60_r {N d : Nat}  {M : mS}  {r : Int32} {M' : mS} (h : Rr_take_60 N M = some (r, M')) : mRunF (mCd 41) (mEE (mMet mP mTx (d + 1)) (some .boolean) (some (.int r)) M') (60, [some (.ref 14), none], [], mSS M) := by
  unfold Rr_take_60 at h
  refine mRunF.sg (mSl mk_41 30 2) (g := (64, [some (.ref 14), none], [.int (M.1 14 9)], mSS M)) (by decide +kernel) rfl ?_
  refine R_ne (t := 71) ⟨7, by decide +kernel⟩ (fun q => ?_) (fun q => ?_)
  · rw [if_pos q] at h
    refine mRunF.sg (mSl mk_41 33 2) (g := (72, [some (.ref 14), none], [.int 1], mSS M)) (by decide +kernel) rfl ?_
    cases h
    exact R_zret (by decide +kernel) (Or.inr rfl)
  · rw [if_neg q] at h
    refine mRunF.sg (mSl mk_41 35 1) (g := (72, [some (.ref 14), none], [.int 0], mSS M)) (by decide +kernel) rfl ?_
    cases h
    exact R_zret (by decide +kernel) (Or.inl rfl)
set_option maxRecDepth 100000 in
set_option maxHeartbeats 4000000 in
theorem Rr_take_r (N : Nat) (a0 : Int32) (M : mS) {r : Int32} {M' : mS} (d : Nat) (h : Rr_take N a0 M = some (r, M')) : mMet mP mTx (d + 2) 41 [.ref 14, .int a0] (mSS M) (some (.int r)) (mSS M') := by
  refine mMet_i ⟨Nat.le_refl _, Nat.le_refl _, Nat.le_of_ble_eq_true rfl⟩ ?_
  unfold Rr_take at h
  show mRunF (mCd 41) (mEE (mMet mP mTx (d + 1)) (some .boolean) (some (.int r)) M') (0, [some (.ref 14), some (.int a0)], [], mSS M)
  refine mRunF.sg (mSl mk_41 0 2) (g := (4, [some (.ref 14), some (.int a0)], [.int (M.1 14 9)], mSS M)) (by decide +kernel) rfl ?_
  refine R_eq (t := 9) ⟨5, by decide +kernel⟩ (fun q => ?_) (fun q => ?_)
  · rw [if_pos q] at h
    refine mRunF.sg (mSl mk_41 5 4) (g := (17, [some (.ref 14), some (.int a0)], [.int (M.1 14 8), .ref 26], mSS M)) (by decide +kernel) rfl ?_
    obtain ⟨r2, q1, h⟩ := bR_of h
    refine R_callV (mi := 74) (na := 2) (ci := 9) (i := 26) (as := [.int (M.1 14 8)]) (r := []) (rv := some (.int r2)) (σ1 := mSS M) ⟨53, by decide +kernel⟩ rfl rfl rfl rfl (Tk_kindOf_r N (M.1 14 8) M (d + 0) q1) ?_
    show mRunF _ _ (20, [some (.ref 14), some (.int a0)], [.int r2], mSS M)
    refine mRunF.sg (mSl mk_41 10 1) (g := (21, [some (.ref 14), some (.int a0)], [.int a0, .int r2], mSS M)) (by decide +kernel) rfl ?_
    refine R_ieq (t := 32) ⟨11, by decide +kernel⟩ (fun q => ?_) (fun q => ?_)
    · rw [if_pos q] at h
      refine mRunF.sg (mSl mk_41 16 3) (g := (39, [some (.ref 14), some (.int a0)], [.int 400, .int (M.1 14 8)], mSS M)) (by decide +kernel) rfl ?_
      refine R_ilt (t := 50) ⟨11, by decide +kernel⟩ (fun q => ?_) (fun q => ?_)
      · rw [if_pos q] at h
        refine mRunF.sg (mSl mk_41 24 6) (g := (60, [some (.ref 14), some (.int a0)], [], mSS (mWI M 14 8 ((M.1 14 8) + 1)))) (by decide +kernel) rfl ?_
        obtain ⟨M3, hv, h⟩ := nxt_ex h
        rw [← hv]
        clear hv
        refine mRunF.forget [true, false] ?_
        exact Rr_take_60_r h
      · rw [if_neg q] at h
        refine mRunF.sg (mSl mk_41 20 2) (g := (44, [some (.ref 14), some (.int a0)], [.int 2, .ref 14], mSS M)) (by decide +kernel) rfl ?_
        obtain ⟨M5, q4, h⟩ := bV_of h
        refine R_callV (mi := 46) (na := 2) (ci := 4) (i := 14) (as := [.int 2]) (r := []) (rv := none) (σ1 := mSS M5) ⟨93, by decide +kernel⟩ rfl rfl rfl rfl (Rr_failForm_r N 2 M (d + 0) q4) ?_
        show mRunF _ _ (47, [some (.ref 14), some (.int a0)], [], mSS M5)
        refine mRunF.sg (mSl mk_41 23 1) (g := (60, [some (.ref 14), some (.int a0)], [], mSS M5)) (by decide +kernel) rfl ?_
        refine mRunF.forget [true, false] ?_
        exact Rr_take_60_r h
    · rw [if_neg q] at h
      refine mRunF.sg (mSl mk_41 12 2) (g := (26, [some (.ref 14), some (.int a0)], [.int 1, .ref 14], mSS M)) (by decide +kernel) rfl ?_
      obtain ⟨M7, q6, h⟩ := bV_of h
      refine R_callV (mi := 46) (na := 2) (ci := 4) (i := 14) (as := [.int 1]) (r := []) (rv := none) (σ1 := mSS M7) ⟨93, by decide +kernel⟩ rfl rfl rfl rfl (Rr_failForm_r N 1 M (d + 0) q6) ?_
      show mRunF _ _ (29, [some (.ref 14), some (.int a0)], [], mSS M7)
      refine mRunF.sg (mSl mk_41 15 1) (g := (60, [some (.ref 14), some (.int a0)], [], mSS M7)) (by decide +kernel) rfl ?_
      refine mRunF.forget [true, false] ?_
      exact Rr_take_60_r h
  · rw [if_neg q] at h
    refine mRunF.sg (mSl mk_41 3 1) (g := (8, [some (.ref 14), some (.int a0)], [.int 0], mSS M)) (by decide +kernel) rfl ?_
    cases h
    exact R_zret (by decide +kernel) (Or.inl rfl)
set_option maxRecDepth 100000 in
set_option maxHeartbeats 4000000 in
theorem Rr_rank_r (a0 : Int32) (M : mS) (d : Nat) : mMet mP mTx (d + 1) 40 [.int a0] (mSS M) (some (.int (Rr_rank a0 M))) (mSS M) := by
  refine mMet_i ⟨Nat.le_refl _, Nat.le_refl _, Nat.le_of_ble_eq_true rfl⟩ ?_
  generalize h : Rr_rank a0 M = r
  unfold Rr_rank at h
  show mRunF (mCd 40) (mEE (mMet mP mTx (d + 0)) (some .int) (some (.int r)) M) (0, [some (.int a0)], [], mSS M)
  refine mRunF.sg (mSl mk_40 0 2) (g := (3, [some (.int a0)], [.int 29, .int a0], mSS M)) (by decide +kernel) rfl ?_
  refine R_ine (t := 8) ⟨5, by decide +kernel⟩ (fun q => ?_) (fun q => ?_)
  · rw [if_pos q] at h
    refine mRunF.sg (mSl mk_40 3 1) (g := (7, [some (.int a0)], [.int 0], mSS M)) (by decide +kernel) rfl ?_
    subst h
    exact R_iret (by decide +kernel)
  · rw [if_neg q] at h
    refine mRunF.sg (mSl mk_40 5 2) (g := (11, [some (.int a0)], [.int 25, .int a0], mSS M)) (by decide +kernel) rfl ?_
    refine R_igt (t := 18) ⟨7, by decide +kernel⟩ (fun q => ?_) (fun q => ?_)
    · rw [if_pos q] at h
      refine mRunF.sg (mSl mk_40 10 1) (g := (19, [some (.int a0)], [.int 2], mSS M)) (by decide +kernel) rfl ?_
      subst h
      exact R_iret (by decide +kernel)
    · rw [if_neg q] at h
      refine mRunF.sg (mSl mk_40 8 2) (g := (19, [some (.int a0)], [.int 1], mSS M)) (by decide +kernel) rfl ?_
      subst h
      exact R_iret (by decide +kernel)
set_option maxRecDepth 100000 in
set_option maxHeartbeats 4000000 in
theorem Rr_putWaiting_0_r {N d : Nat}   {M' : mS} : ∀ {n : Nat} {x1 : Int32} {M : mS}, Rr_putWaiting_0 N n x1 M = some M' → mRunF (mCd 39) (mEE (mMet mP mTx (d + 1)) (none) none M') (0, [some (.ref 14), some (.int x1)], [], mSS M) := by
  intro n
  induction n with
  | zero => intro x1 M h; cases h
  | succ n ih =>
    replace ih := @ih
    intro x1 M h
    unfold Rr_putWaiting_0 at h
    refine mRunF.sg (mSl mk_39 0 2) (g := (4, [some (.ref 14), some (.int x1)], [.int (M.1 14 5)], mSS M)) (by decide +kernel) rfl ?_
    refine R_le (t := 64) ⟨60, by decide +kernel⟩ (fun q => ?_) (fun q => ?_)
    · rw [if_pos q] at h
      cases h
      exact R_vret (by decide +kernel)
    · rw [if_neg q] at h
      refine mRunF.sg (mSl mk_39 3 6) (g := (17, [some (.ref 14), some (.int x1)], [.int ((M.1 14 5) - 1), .ref 33], mSS M)) (by decide +kernel) rfl ?_
      obtain ⟨g1, h⟩ := grd_of h
      refine R_iald (by decide +kernel) rfl g1 ?_
      refine R_callS (mi := 40) (na := 1) (as := [.int (M.1 33 ((M.1 14 5) - 1).toNatClampNeg)]) (r := []) (rv := some (.int (Rr_rank (M.1 33 ((M.1 14 5) - 1).toNatClampNeg) M))) (σ1 := mSS M) ⟨170, by decide +kernel⟩ rfl rfl rfl (Rr_rank_r (M.1 33 ((M.1 14 5) - 1).toNatClampNeg) M (d + 0)) ?_
      show mRunF _ _ (21, [some (.ref 14), some (.int x1)], [.int (Rr_rank (M.1 33 ((M.1 14 5) - 1).toNatClampNeg) M)], mSS M)
      refine mRunF.sg (mSl mk_39 11 1) (g := (22, [some (.ref 14), some (.int x1)], [.int x1, .int (Rr_rank (M.1 33 ((M.1 14 5) - 1).toNatClampNeg) M)], mSS M)) (by decide +kernel) rfl ?_
      refine R_ilt (t := 64) ⟨42, by decide +kernel⟩ (fun q => ?_) (fun q => ?_)
      · rw [if_pos q] at h
        cases h
        exact R_vret (by decide +kernel)
      · rw [if_neg q] at h
        refine mRunF.sg (mSl mk_39 13 6) (g := (35, [some (.ref 14), some (.int x1)], [], mSS (mWI M 14 5 ((M.1 14 5) - 1)))) (by decide +kernel) rfl ?_
        obtain ⟨M2, hv, h⟩ := nxt_ex h
        rw [← hv]
        clear hv
        refine mRunF.sg (mSl mk_39 19 8) (g := (51, [some (.ref 14), some (.int x1)], [.int (M2.1 14 5), .ref 33, .int 2, .ref 16], mSS M2)) (by decide +kernel) rfl ?_
        obtain ⟨g3, h⟩ := grd_of h
        refine R_iald (by decide +kernel) rfl g3 ?_
        refine mRunF.sg (mSl mk_39 28 4) (g := (57, [some (.ref 14), some (.int x1)], [.int 0, .int ((2 + (M2.1 33 (M2.1 14 5).toNatClampNeg)) - 24), .ref 16], mSS M2)) (by decide +kernel) rfl ?_
        obtain ⟨r6, M5, q4, h⟩ := bW_of h
        refine R_callV (mi := 14) (na := 3) (ci := 2) (i := 16) (as := [.int ((2 + (M2.1 33 (M2.1 14 5).toNatClampNeg)) - 24), .int 0]) (r := []) (rv := some (.int r6)) (σ1 := mSS M5) ⟨140, by decide +kernel⟩ rfl rfl rfl rfl (La_put_r N ((2 + (M2.1 33 (M2.1 14 5).toNatClampNeg)) - 24) 0 M2 (d + 0) q4) ?_
        show mRunF _ _ (60, [some (.ref 14), some (.int x1)], [.int r6], mSS M5)
        refine mRunF.sg (mSl mk_39 33 2) (g := (0, [some (.ref 14), some (.int x1)], [], mSS M5)) (by decide +kernel) rfl ?_
        exact @ih _ _ h
set_option maxRecDepth 100000 in
set_option maxHeartbeats 4000000 in
theorem Rr_putWaiting_r (N : Nat) (a0 : Int32) (M : mS) {M' : mS} (d : Nat) (h : Rr_putWaiting N a0 M = some M') : mMet mP mTx (d + 2) 39 [.ref 14, .int a0] (mSS M) none (mSS M') := by
  refine mMet_i ⟨Nat.le_refl _, Nat.le_refl _, Nat.le_of_ble_eq_true rfl⟩ ?_
  unfold Rr_putWaiting at h
  show mRunF (mCd 39) (mEE (mMet mP mTx (d + 1)) (none) none M') (0, [some (.ref 14), some (.int a0)], [], mSS M)
  exact Rr_putWaiting_0_r h
set_option maxRecDepth 100000 in
set_option maxHeartbeats 4000000 in
theorem Rr_letWait_r (N : Nat) (a0 : Int32) (M : mS) {M' : mS} (d : Nat) (h : Rr_letWait N a0 M = some M') : mMet mP mTx (d + 1) 38 [.ref 14, .int a0] (mSS M) none (mSS M') := by
  refine mMet_i ⟨Nat.le_refl _, Nat.le_refl _, Nat.le_of_ble_eq_true rfl⟩ ?_
  unfold Rr_letWait at h
  show mRunF (mCd 38) (mEE (mMet mP mTx (d + 0)) (none) none M') (0, [some (.ref 14), some (.int a0)], [], mSS M)
  refine mRunF.sg (mSl mk_38 0 5) (g := (9, [some (.ref 14), some (.int a0)], [.int (Int32.ofNat 32), .int (M.1 14 5)], mSS M)) (by decide +kernel) rfl ?_
  refine R_ige (t := 32) ⟨23, by decide +kernel⟩ (fun q => ?_) (fun q => ?_)
  · rw [if_pos q] at h
    cases h
    exact R_vret (by decide +kernel)
  · rw [if_neg q] at h
    refine mRunF.sg (mSl mk_38 6 5) (g := (21, [some (.ref 14), some (.int a0)], [.int a0, .int (M.1 14 5), .ref 33], mSS M)) (by decide +kernel) rfl ?_
    obtain ⟨g1, h⟩ := grd_of h
    refine R_iast (by decide +kernel) rfl g1 ?_
    obtain ⟨M2, hv, h⟩ := nxt_ex h
    rw [← hv]
    clear hv
    refine mRunF.sg (mSl mk_38 12 6) (g := (32, [some (.ref 14), some (.int a0)], [], mSS (mWI M2 14 5 ((M2.1 14 5) + 1)))) (by decide +kernel) rfl ?_
    obtain ⟨M3, hv, h⟩ := nxt_ex h
    rw [← hv]
    clear hv
    cases h
    exact R_vret (by decide +kernel)
set_option maxRecDepth 100000 in
set_option maxHeartbeats 4000000 in
theorem Rr_readSign_48_r {N d : Nat}  {M : mS}  {r : Int32} {M' : mS} (h : Rr_readSign_48 N M = some (r, M')) : mRunF (mCd 37) (mEE (mMet mP mTx (d + 2)) (some .boolean) (some (.int r)) M') (48, [some (.ref 14), none], [], mSS M) := by
  unfold Rr_readSign_48 at h
  refine mRunF.sg (mSl mk_37 26 2) (g := (50, [some (.ref 14), none], [.int 1, .ref 14], mSS M)) (by decide +kernel) rfl ?_
  obtain ⟨M2, q1, h⟩ := bV_of h
  refine R_callV (mi := 39) (na := 2) (ci := 4) (i := 14) (as := [.int 1]) (r := []) (rv := none) (σ1 := mSS M2) ⟨173, by decide +kernel⟩ rfl rfl rfl rfl (Rr_putWaiting_r N 1 M (d + 0) q1) ?_
  show mRunF _ _ (53, [some (.ref 14), none], [], mSS M2)
  refine mRunF.sg (mSl mk_37 29 2) (g := (57, [some (.ref 14), none], [.int (M2.1 14 6)], mSS M2)) (by decide +kernel) rfl ?_
  refine R_ne (t := 62) ⟨5, by decide +kernel⟩ (fun q => ?_) (fun q => ?_)
  · rw [if_pos q] at h
    refine mRunF.sg (mSl mk_37 32 1) (g := (61, [some (.ref 14), none], [.int 0], mSS M2)) (by decide +kernel) rfl ?_
    cases h
    exact R_zret (by decide +kernel) (Or.inl rfl)
  · rw [if_neg q] at h
    refine mRunF.sg (mSl mk_37 34 6) (g := (72, [some (.ref 14), none], [], mSS (mWI M2 14 6 ((M2.1 14 6) - 1)))) (by decide +kernel) rfl ?_
    obtain ⟨M3, hv, h⟩ := nxt_ex h
    rw [← hv]
    clear hv
    refine mRunF.sg (mSl mk_37 40 6) (g := (80, [some (.ref 14), none], [.int ((M3.1 14 5) - 1), .int 0, .ref 14], mSS M3)) (by decide +kernel) rfl ?_
    refine R_max ⟨176, by decide +kernel⟩ rfl ?_
    refine mRunF.sg (mSl mk_37 47 1) (g := (86, [some (.ref 14), none], [], mSS (mWI M3 14 5 (if 0 < ((M3.1 14 5) - 1) then ((M3.1 14 5) - 1) else 0)))) (by decide +kernel) rfl ?_
    obtain ⟨M4, hv, h⟩ := nxt_ex h
    rw [← hv]
    clear hv
    refine mRunF.sg (mSl mk_37 48 2) (g := (89, [some (.ref 14), none], [.int 30, .ref 14], mSS M4)) (by decide +kernel) rfl ?_
    obtain ⟨r7, M6, q5, h⟩ := bW_of h
    refine R_callV (mi := 41) (na := 2) (ci := 4) (i := 14) (as := [.int 30]) (r := []) (rv := some (.int r7)) (σ1 := mSS M6) ⟨78, by decide +kernel⟩ rfl rfl rfl rfl (Rr_take_r N 30 M4 (d + 0) q5) ?_
    have b8 := mBool rfl (Rr_take_r N 30 M4 (d + 0) q5)
    show mRunF _ _ (92, [some (.ref 14), none], [.int r7], mSS M6)
    cases h
    exact R_zret (by decide +kernel) b8
set_option maxRecDepth 100000 in
set_option maxHeartbeats 4000000 in
theorem Rr_readSign_r (N : Nat)  (M : mS) {r : Int32} {M' : mS} (d : Nat) (h : Rr_readSign N M = some (r, M')) : mMet mP mTx (d + 3) 37 [.ref 14] (mSS M) (some (.int r)) (mSS M') := by
  refine mMet_i ⟨Nat.le_refl _, Nat.le_refl _, Nat.le_of_ble_eq_true rfl⟩ ?_
  unfold Rr_readSign at h
  show mRunF (mCd 37) (mEE (mMet mP mTx (d + 2)) (some .boolean) (some (.int r)) M') (0, [some (.ref 14), none], [], mSS M)
  refine mRunF.sg (mSl mk_37 0 4) (g := (8, [some (.ref 14), none], [.int (M.1 14 8), .ref 26], mSS M)) (by decide +kernel) rfl ?_
  obtain ⟨r10, q9, h⟩ := bR_of h
  refine R_callV (mi := 74) (na := 2) (ci := 9) (i := 26) (as := [.int (M.1 14 8)]) (r := []) (rv := some (.int r10)) (σ1 := mSS M) ⟨53, by decide +kernel⟩ rfl rfl rfl rfl (Tk_kindOf_r N (M.1 14 8) M (d + 1) q9) ?_
  show mRunF _ _ (11, [some (.ref 14), none], [.int r10], mSS M)
  refine mRunF.sg (mSl mk_37 5 3) (g := (15, [some (.ref 14), some (.int r10)], [.int 24, .int r10], mSS M)) (by decide +kernel) rfl ?_
  refine R_ilt (t := 48) ⟨33, by decide +kernel⟩ (fun q => ?_) (fun q => ?_)
  · rw [if_pos q] at h
    refine mRunF.forget [true, false] ?_
    exact Rr_readSign_48_r h
  · rw [if_neg q] at h
    refine mRunF.sg (mSl mk_37 9 2) (g := (21, [some (.ref 14), some (.int r10)], [.int 27, .int r10], mSS M)) (by decide +kernel) rfl ?_
    refine R_igt (t := 48) ⟨27, by decide +kernel⟩ (fun q => ?_) (fun q => ?_)
    · rw [if_pos q] at h
      refine mRunF.forget [true, false] ?_
      exact Rr_readSign_48_r h
    · rw [if_neg q] at h
      refine mRunF.sg (mSl mk_37 12 2) (g := (26, [some (.ref 14), some (.int r10)], [.int r10, .ref 14], mSS M)) (by decide +kernel) rfl ?_
      refine R_callS (mi := 40) (na := 1) (as := [.int r10]) (r := [.ref 14]) (rv := some (.int (Rr_rank r10 M))) (σ1 := mSS M) ⟨170, by decide +kernel⟩ rfl rfl rfl (Rr_rank_r r10 M (d + 1)) ?_
      show mRunF _ _ (29, [some (.ref 14), some (.int r10)], [.int (Rr_rank r10 M), .ref 14], mSS M)
      obtain ⟨M12, q11, h⟩ := bV_of h
      refine R_callV (mi := 39) (na := 2) (ci := 4) (i := 14) (as := [.int (Rr_rank r10 M)]) (r := []) (rv := none) (σ1 := mSS M12) ⟨173, by decide +kernel⟩ rfl rfl rfl rfl (Rr_putWaiting_r N (Rr_rank r10 M) M (d + 0) q11) ?_
      show mRunF _ _ (32, [some (.ref 14), some (.int r10)], [], mSS M12)
      refine mRunF.sg (mSl mk_37 16 2) (g := (34, [some (.ref 14), some (.int r10)], [.int r10, .ref 14], mSS M12)) (by decide +kernel) rfl ?_
      obtain ⟨M14, q13, h⟩ := bV_of h
      refine R_callV (mi := 38) (na := 2) (ci := 4) (i := 14) (as := [.int r10]) (r := []) (rv := none) (σ1 := mSS M14) ⟨163, by decide +kernel⟩ rfl rfl rfl rfl (Rr_letWait_r N r10 M12 (d + 1) q13) ?_
      show mRunF _ _ (37, [some (.ref 14), some (.int r10)], [], mSS M14)
      refine mRunF.sg (mSl mk_37 19 3) (g := (42, [some (.ref 14), some (.int r10)], [], mSS (mWI M14 14 7 1))) (by decide +kernel) rfl ?_
      obtain ⟨M15, hv, h⟩ := nxt_ex h
      rw [← hv]
      clear hv
      refine mRunF.sg (mSl mk_37 22 2) (g := (44, [some (.ref 14), some (.int r10)], [.int r10, .ref 14], mSS M15)) (by decide +kernel) rfl ?_
      obtain ⟨r18, M17, q16, h⟩ := bW_of h
      refine R_callV (mi := 41) (na := 2) (ci := 4) (i := 14) (as := [.int r10]) (r := []) (rv := some (.int r18)) (σ1 := mSS M17) ⟨78, by decide +kernel⟩ rfl rfl rfl rfl (Rr_take_r N r10 M15 (d + 0) q16) ?_
      have b19 := mBool rfl (Rr_take_r N r10 M15 (d + 0) q16)
      show mRunF _ _ (47, [some (.ref 14), some (.int r10)], [.int r18], mSS M17)
      cases h
      exact R_zret (by decide +kernel) b19
set_option maxRecDepth 100000 in
set_option maxHeartbeats 4000000 in
theorem Tk_valueOf_r (N : Nat) (a0 : Int32) (M : mS) {r : Int64} (d : Nat) (h : Tk_valueOf N a0 M = some r) : mMet mP mTx (d + 1) 76 [.ref 26, .int a0] (mSS M) (some (.long r)) (mSS M) := by
  refine mMet_i ⟨Nat.le_refl _, Nat.le_refl _, Nat.le_of_ble_eq_true rfl⟩ ?_
  unfold Tk_valueOf at h
  show mRunF (mCd 76) (mEE (mMet mP mTx (d + 0)) (some .long) (some (.long r)) M) (0, [some (.ref 26), some (.int a0)], [], mSS M)
  refine mRunF.sg (mSl mk_76 0 1) (g := (1, [some (.ref 26), some (.int a0)], [.int a0], mSS M)) (by decide +kernel) rfl ?_
  refine R_lt (t := 21) ⟨20, by decide +kernel⟩ (fun q => ?_) (fun q => ?_)
  · rw [if_pos q] at h
    refine mRunF.sg (mSl mk_76 11 1) (g := (22, [some (.ref 26), some (.int a0)], [.long 0], mSS M)) (by decide +kernel) rfl ?_
    cases h
    exact R_lret (by decide +kernel)
  · rw [if_neg q] at h
    refine mRunF.sg (mSl mk_76 2 3) (g := (9, [some (.ref 26), some (.int a0)], [.int (M.1 26 4), .int a0], mSS M)) (by decide +kernel) rfl ?_
    refine R_ige (t := 21) ⟨12, by decide +kernel⟩ (fun q => ?_) (fun q => ?_)
    · rw [if_pos q] at h
      refine mRunF.sg (mSl mk_76 11 1) (g := (22, [some (.ref 26), some (.int a0)], [.long 0], mSS M)) (by decide +kernel) rfl ?_
      cases h
      exact R_lret (by decide +kernel)
    · rw [if_neg q] at h
      refine mRunF.sg (mSl mk_76 6 3) (g := (17, [some (.ref 26), some (.int a0)], [.int a0, .ref 30], mSS M)) (by decide +kernel) rfl ?_
      obtain ⟨g1, h⟩ := grd_of h
      refine R_lald (by decide +kernel) rfl g1 ?_
      refine mRunF.sg (mSl mk_76 10 1) (g := (22, [some (.ref 26), some (.int a0)], [.long (M.2 30 a0.toNatClampNeg)], mSS M)) (by decide +kernel) rfl ?_
      cases h
      exact R_lret (by decide +kernel)
set_option maxRecDepth 100000 in
set_option maxHeartbeats 4000000 in
theorem Rr_readUnit_129_r {N d : Nat}  {M : mS} {x1 : Int32} {r : Int32} {M' : mS} (h : Rr_readUnit_129 N x1 M = some (r, M')) : mRunF (mCd 36) (mEE (mMet mP mTx (d + 2)) (some .boolean) (some (.int r)) M') (129, [some (.ref 14), some (.int x1)], [], mSS M) := by
  unfold Rr_readUnit_129 at h
  refine mRunF.sg (mSl mk_36 67 2) (g := (131, [some (.ref 14), some (.int x1)], [.int x1, .ref 14], mSS M)) (by decide +kernel) rfl ?_
  obtain ⟨r3, M2, q1, h⟩ := bW_of h
  refine R_callV (mi := 41) (na := 2) (ci := 4) (i := 14) (as := [.int x1]) (r := []) (rv := some (.int r3)) (σ1 := mSS M2) ⟨78, by decide +kernel⟩ rfl rfl rfl rfl (Rr_take_r N x1 M (d + 0) q1) ?_
  have b4 := mBool rfl (Rr_take_r N x1 M (d + 0) q1)
  show mRunF _ _ (134, [some (.ref 14), some (.int x1)], [.int r3], mSS M2)
  cases h
  exact R_zret (by decide +kernel) b4
set_option maxRecDepth 100000 in
set_option maxHeartbeats 4000000 in
theorem Rr_readUnit_32_r {N d : Nat}  {M : mS} {x1 : Int32} {r : Int32} {M' : mS} (h : Rr_readUnit_32 N x1 M = some (r, M')) : mRunF (mCd 36) (mEE (mMet mP mTx (d + 2)) (some .boolean) (some (.int r)) M') (32, [some (.ref 14), some (.int x1)], [], mSS M) := by
  unfold Rr_readUnit_32 at h
  refine mRunF.sg (mSl mk_36 16 6) (g := (42, [some (.ref 14), some (.int x1)], [], mSS (mWI M 14 6 ((M.1 14 6) + 1)))) (by decide +kernel) rfl ?_
  obtain ⟨M5, hv, h⟩ := nxt_ex h
  rw [← hv]
  clear hv
  refine mRunF.sg (mSl mk_36 22 2) (g := (44, [some (.ref 14), some (.int x1)], [.int x1, .ref 14], mSS M5)) (by decide +kernel) rfl ?_
  obtain ⟨M7, q6, h⟩ := bV_of h
  refine R_callV (mi := 38) (na := 2) (ci := 4) (i := 14) (as := [.int x1]) (r := []) (rv := none) (σ1 := mSS M7) ⟨163, by decide +kernel⟩ rfl rfl rfl rfl (Rr_letWait_r N x1 M5 (d + 1) q6) ?_
  show mRunF _ _ (47, [some (.ref 14), some (.int x1)], [], mSS M7)
  refine mRunF.sg (mSl mk_36 25 1) (g := (129, [some (.ref 14), some (.int x1)], [], mSS M7)) (by decide +kernel) rfl ?_
  exact Rr_readUnit_129_r h
set_option maxRecDepth 100000 in
set_option maxHeartbeats 4000000 in
theorem Rr_readUnit_124_r {N d : Nat}  {M : mS} {x1 : Int32} {r : Int32} {M' : mS} (h : Rr_readUnit_124 N x1 M = some (r, M')) : mRunF (mCd 36) (mEE (mMet mP mTx (d + 2)) (some .boolean) (some (.int r)) M') (124, [some (.ref 14), some (.int x1)], [], mSS M) := by
  unfold Rr_readUnit_124 at h
  refine mRunF.sg (mSl mk_36 64 2) (g := (126, [some (.ref 14), some (.int x1)], [.int 1, .ref 14], mSS M)) (by decide +kernel) rfl ?_
  obtain ⟨M9, q8, h⟩ := bV_of h
  refine R_callV (mi := 46) (na := 2) (ci := 4) (i := 14) (as := [.int 1]) (r := []) (rv := none) (σ1 := mSS M9) ⟨93, by decide +kernel⟩ rfl rfl rfl rfl (Rr_failForm_r N 1 M (d + 1) q8) ?_
  show mRunF _ _ (129, [some (.ref 14), some (.int x1)], [], mSS M9)
  exact Rr_readUnit_129_r h
set_option maxRecDepth 100000 in
set_option maxHeartbeats 4000000 in
theorem Rr_readUnit_r (N : Nat)  (M : mS) {r : Int32} {M' : mS} (d : Nat) (h : Rr_readUnit N M = some (r, M')) : mMet mP mTx (d + 3) 36 [.ref 14] (mSS M) (some (.int r)) (mSS M') := by
  refine mMet_i ⟨Nat.le_refl _, Nat.le_refl _, Nat.le_of_ble_eq_true rfl⟩ ?_
  unfold Rr_readUnit at h
  show mRunF (mCd 36) (mEE (mMet mP mTx (d + 2)) (some .boolean) (some (.int r)) M') (0, [some (.ref 14), none], [], mSS M)
  refine mRunF.sg (mSl mk_36 0 4) (g := (8, [some (.ref 14), none], [.int (M.1 14 8), .ref 26], mSS M)) (by decide +kernel) rfl ?_
  obtain ⟨r11, q10, h⟩ := bR_of h
  refine R_callV (mi := 74) (na := 2) (ci := 9) (i := 26) (as := [.int (M.1 14 8)]) (r := []) (rv := some (.int r11)) (σ1 := mSS M) ⟨53, by decide +kernel⟩ rfl rfl rfl rfl (Tk_kindOf_r N (M.1 14 8) M (d + 1) q10) ?_
  show mRunF _ _ (11, [some (.ref 14), none], [.int r11], mSS M)
  refine mRunF.sg (mSl mk_36 5 3) (g := (15, [some (.ref 14), some (.int r11)], [.int 29, .int r11], mSS M)) (by decide +kernel) rfl ?_
  refine R_ine (t := 50) ⟨35, by decide +kernel⟩ (fun q => ?_) (fun q => ?_)
  · rw [if_pos q] at h
    refine mRunF.sg (mSl mk_36 9 3) (g := (24, [some (.ref 14), some (.int r11)], [.int 6, .int (M.1 14 6)], mSS M)) (by decide +kernel) rfl ?_
    refine R_ilt (t := 32) ⟨8, by decide +kernel⟩ (fun q => ?_) (fun q => ?_)
    · rw [if_pos q] at h
      exact Rr_readUnit_32_r h
    · rw [if_neg q] at h
      refine mRunF.sg (mSl mk_36 13 2) (g := (29, [some (.ref 14), some (.int r11)], [.int 2, .ref 14], mSS M)) (by decide +kernel) rfl ?_
      obtain ⟨M13, q12, h⟩ := bV_of h
      refine R_callV (mi := 46) (na := 2) (ci := 4) (i := 14) (as := [.int 2]) (r := []) (rv := none) (σ1 := mSS M13) ⟨93, by decide +kernel⟩ rfl rfl rfl rfl (Rr_failForm_r N 2 M (d + 1) q12) ?_
      show mRunF _ _ (32, [some (.ref 14), some (.int r11)], [], mSS M13)
      exact Rr_readUnit_32_r h
  · rw [if_neg q] at h
    refine mRunF.sg (mSl mk_36 26 2) (g := (53, [some (.ref 14), some (.int r11)], [.int 21, .int r11], mSS M)) (by decide +kernel) rfl ?_
    refine R_ine (t := 88) ⟨35, by decide +kernel⟩ (fun q => ?_) (fun q => ?_)
    · rw [if_pos q] at h
      refine mRunF.sg (mSl mk_36 29 8) (g := (72, [some (.ref 14), some (.int r11)], [.int (M.1 14 8), .ref 26, .int 0, .ref 16], mSS M)) (by decide +kernel) rfl ?_
      obtain ⟨r15, q14, h⟩ := bR_of h
      refine R_callV (mi := 76) (na := 2) (ci := 9) (i := 26) (as := [.int (M.1 14 8)]) (r := [.int 0, .ref 16]) (rv := some (.long r15)) (σ1 := mSS M) ⟨166, by decide +kernel⟩ rfl rfl rfl rfl (Tk_valueOf_r N (M.1 14 8) M (d + 1) q14) ?_
      show mRunF _ _ (75, [some (.ref 14), some (.int r11)], [.long r15, .int 0, .ref 16], mSS M)
      refine mRunF.sg (mSl mk_36 38 1) (g := (76, [some (.ref 14), some (.int r11)], [.int r15.toInt32, .int 0, .ref 16], mSS M)) (by decide +kernel) rfl ?_
      obtain ⟨r18, M17, q16, h⟩ := bW_of h
      refine R_callV (mi := 14) (na := 3) (ci := 2) (i := 16) (as := [.int 0, .int r15.toInt32]) (r := []) (rv := some (.int r18)) (σ1 := mSS M17) ⟨140, by decide +kernel⟩ rfl rfl rfl rfl (La_put_r N 0 r15.toInt32 M (d + 1) q16) ?_
      show mRunF _ _ (79, [some (.ref 14), some (.int r11)], [.int r18], mSS M17)
      refine mRunF.sg (mSl mk_36 40 4) (g := (85, [some (.ref 14), some (.int r11)], [], mSS (mWI M17 14 7 0))) (by decide +kernel) rfl ?_
      obtain ⟨M19, hv, h⟩ := nxt_ex h
      rw [← hv]
      clear hv
      refine mRunF.sg (mSl mk_36 44 1) (g := (129, [some (.ref 14), some (.int r11)], [], mSS M19)) (by decide +kernel) rfl ?_
      exact Rr_readUnit_129_r h
    · rw [if_neg q] at h
      refine mRunF.sg (mSl mk_36 45 2) (g := (91, [some (.ref 14), some (.int r11)], [.int 11, .int r11], mSS M)) (by decide +kernel) rfl ?_
      refine R_ilt (t := 124) ⟨33, by decide +kernel⟩ (fun q => ?_) (fun q => ?_)
      · rw [if_pos q] at h
        exact Rr_readUnit_124_r h
      · rw [if_neg q] at h
        refine mRunF.sg (mSl mk_36 48 2) (g := (97, [some (.ref 14), some (.int r11)], [.int 19, .int r11], mSS M)) (by decide +kernel) rfl ?_
        refine R_igt (t := 124) ⟨27, by decide +kernel⟩ (fun q => ?_) (fun q => ?_)
        · rw [if_pos q] at h
          exact Rr_readUnit_124_r h
        · rw [if_neg q] at h
          refine mRunF.sg (mSl mk_36 51 7) (g := (112, [some (.ref 14), some (.int r11)], [.int (r11 - 11), .int 1, .ref 16], mSS M)) (by decide +kernel) rfl ?_
          obtain ⟨r22, M21, q20, h⟩ := bW_of h
          refine R_callV (mi := 14) (na := 3) (ci := 2) (i := 16) (as := [.int 1, .int (r11 - 11)]) (r := []) (rv := some (.int r22)) (σ1 := mSS M21) ⟨140, by decide +kernel⟩ rfl rfl rfl rfl (La_put_r N 1 (r11 - 11) M (d + 1) q20) ?_
          show mRunF _ _ (115, [some (.ref 14), some (.int r11)], [.int r22], mSS M21)
          refine mRunF.sg (mSl mk_36 59 4) (g := (121, [some (.ref 14), some (.int r11)], [], mSS (mWI M21 14 7 0))) (by decide +kernel) rfl ?_
          obtain ⟨M23, hv, h⟩ := nxt_ex h
          rw [← hv]
          clear hv
          refine mRunF.sg (mSl mk_36 63 1) (g := (129, [some (.ref 14), some (.int r11)], [], mSS M23)) (by decide +kernel) rfl ?_
          exact Rr_readUnit_129_r h
