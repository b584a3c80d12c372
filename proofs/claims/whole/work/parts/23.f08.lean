/-! METHODS as functions, 8: printed by program -/
set_option maxRecDepth 100000 in
set_option maxHeartbeats 4000000 in
theorem Mo_plain_31_r {N d : Nat}   {M' : mS} : ∀ {n : Nat} {x1 : Int32} {x2 : Int32} {M : mS}, Mo_plain_31 N n x1 x2 M = some M' → mRunF (mCd 190) (mEE (mMet mP mTx (d + 0)) (none) none M') (31, [some (.ref 64), some (.int x1), some (.int x2)], [], mSS M) := by
  intro n
  induction n with
  | zero => intro x1 x2 M h; cases h
  | succ n ih =>
    replace ih := @ih
    intro x1 x2 M h
    unfold Mo_plain_31 at h
    refine mRunF.sg (mSl mk_190 22 2) (g := (33, [some (.ref 64), some (.int x1), some (.int x2)], [.int 4, .int x2], mSS M)) (by decide +kernel) rfl ?_
    refine R_ige (t := 64) ⟨31, by decide +kernel⟩ (fun q => ?_) (fun q => ?_)
    · rw [if_pos q] at h
      cases h
      exact R_vret (by decide +kernel)
    · rw [if_neg q] at h
      refine mRunF.sg (mSl mk_190 25 8) (g := (46, [some (.ref 64), some (.int x1), some (.int x2)], [.int 0, .int ((4 * x1) + x2), .ref 83], mSS M)) (by decide +kernel) rfl ?_
      obtain ⟨g1, h⟩ := grd_of h
      refine R_iast (by decide +kernel) rfl g1 ?_
      obtain ⟨M2, hv, h⟩ := nxt_ex h
      rw [← hv]
      clear hv
      refine mRunF.sg (mSl mk_190 34 8) (g := (57, [some (.ref 64), some (.int x1), some (.int x2)], [.int 0, .int ((4 * x1) + x2), .ref 84], mSS M2)) (by decide +kernel) rfl ?_
      obtain ⟨g3, h⟩ := grd_of h
      refine R_iast (by decide +kernel) rfl g3 ?_
      obtain ⟨M4, hv, h⟩ := nxt_ex h
      rw [← hv]
      clear hv
      refine mRunF.sg (mSl mk_190 43 2) (g := (31, [some (.ref 64), some (.int x1), some (.int (x2 + 1))], [], mSS M4)) (by decide +kernel) rfl ?_
      exact @ih _ _ _ h
set_option maxRecDepth 100000 in
set_option maxHeartbeats 4000000 in
theorem Mo_plain_r (N : Nat) (a0 : Int32) (M : mS) {M' : mS} (d : Nat) (h : Mo_plain N a0 M = some M') : mMet mP mTx (d + 1) 190 [.ref 64, .int a0] (mSS M) none (mSS M') := by
  refine mMet_i ⟨Nat.le_refl _, Nat.le_refl _, Nat.le_of_ble_eq_true rfl⟩ ?_
  unfold Mo_plain at h
  show mRunF (mCd 190) (mEE (mMet mP mTx (d + 0)) (none) none M') (0, [some (.ref 64), some (.int a0), none], [], mSS M)
  refine mRunF.sg (mSl mk_190 0 4) (g := (7, [some (.ref 64), some (.int a0), none], [.int 12, .int a0, .ref 74], mSS M)) (by decide +kernel) rfl ?_
  obtain ⟨g5, h⟩ := grd_of h
  refine R_iast (by decide +kernel) rfl g5 ?_
  obtain ⟨M6, hv, h⟩ := nxt_ex h
  rw [← hv]
  clear hv
  refine mRunF.sg (mSl mk_190 5 4) (g := (14, [some (.ref 64), some (.int a0), none], [.int 0, .int a0, .ref 75], mSS M6)) (by decide +kernel) rfl ?_
  obtain ⟨g7, h⟩ := grd_of h
  refine R_iast (by decide +kernel) rfl g7 ?_
  obtain ⟨M8, hv, h⟩ := nxt_ex h
  rw [← hv]
  clear hv
  refine mRunF.sg (mSl mk_190 10 4) (g := (21, [some (.ref 64), some (.int a0), none], [.int 0, .int a0, .ref 78], mSS M8)) (by decide +kernel) rfl ?_
  obtain ⟨g9, h⟩ := grd_of h
  refine R_iast (by decide +kernel) rfl g9 ?_
  obtain ⟨M10, hv, h⟩ := nxt_ex h
  rw [← hv]
  clear hv
  refine mRunF.sg (mSl mk_190 15 4) (g := (28, [some (.ref 64), some (.int a0), none], [.int 0, .int a0, .ref 82], mSS M10)) (by decide +kernel) rfl ?_
  obtain ⟨g11, h⟩ := grd_of h
  refine R_iast (by decide +kernel) rfl g11 ?_
  obtain ⟨M12, hv, h⟩ := nxt_ex h
  rw [← hv]
  clear hv
  refine mRunF.sg (mSl mk_190 20 2) (g := (31, [some (.ref 64), some (.int a0), some (.int 0)], [], mSS M12)) (by decide +kernel) rfl ?_
  exact Mo_plain_31_r h
set_option maxRecDepth 100000 in
set_option maxHeartbeats 4000000 in
theorem Mo_hours_r (N : Nat)  (M : mS) {r : Int32} (d : Nat) (h : Mo_hours N M = some r) : mMet mP mTx (d + 1) 210 [.ref 64] (mSS M) (some (.int r)) (mSS M) := by
  refine mMet_i ⟨Nat.le_refl _, Nat.le_refl _, Nat.le_of_ble_eq_true rfl⟩ ?_
  unfold Mo_hours at h
  show mRunF (mCd 210) (mEE (mMet mP mTx (d + 0)) (some .int) (some (.int r)) M) (0, [some (.ref 64)], [], mSS M)
  refine mRunF.sg (mSl mk_210 0 4) (g := (8, [some (.ref 64)], [.int (M.1 64 18), .ref 74], mSS M)) (by decide +kernel) rfl ?_
  obtain ⟨g1, h⟩ := grd_of h
  refine R_iald (by decide +kernel) rfl g1 ?_
  cases h
  exact R_iret (by decide +kernel)
set_option maxRecDepth 100000 in
set_option maxHeartbeats 4000000 in
theorem Mo_begins_94_r {N d : Nat}   {M' : mS} : ∀ {n : Nat} {x1 : Int32} {M : mS}, Mo_begins_94 N n x1 M = some M' → mRunF (mCd 216) (mEE (mMet mP mTx (d + 1)) (none) none M') (94, [some (.ref 64), some (.int x1)], [], mSS M) := by
  intro n
  induction n with
  | zero => intro x1 M h; cases h
  | succ n ih =>
    replace ih := @ih
    intro x1 M h
    unfold Mo_begins_94 at h
    refine mRunF.sg (mSl mk_216 59 5) (g := (103, [some (.ref 64), some (.int x1)], [.int (M.1 64 18), .ref 78, .int x1], mSS M)) (by decide +kernel) rfl ?_
    obtain ⟨g1, h⟩ := grd_of h
    refine R_iald (by decide +kernel) rfl g1 ?_
    refine R_ige (t := 135) ⟨31, by decide +kernel⟩ (fun q => ?_) (fun q => ?_)
    · rw [if_pos q] at h
      refine mRunF.sg (mSl mk_216 83 5) (g := (144, [some (.ref 64), some (.int x1)], [.int (M.1 64 18), .ref 82, .ref 64], mSS M)) (by decide +kernel) rfl ?_
      obtain ⟨g2, h⟩ := grd_of h
      refine R_iald (by decide +kernel) rfl g2 ?_
      refine mRunF.sg (mSl mk_216 89 1) (g := (148, [some (.ref 64), some (.int x1)], [], mSS (mWI M 64 50 (M.1 82 (M.1 64 18).toNatClampNeg)))) (by decide +kernel) rfl ?_
      obtain ⟨M3, hv, h⟩ := nxt_ex h
      rw [← hv]
      clear hv
      refine mRunF.sg (mSl mk_216 90 3) (g := (153, [some (.ref 64), some (.int x1)], [], mSS (mWI M3 64 51 0))) (by decide +kernel) rfl ?_
      obtain ⟨M4, hv, h⟩ := nxt_ex h
      rw [← hv]
      clear hv
      cases h
      exact R_vret (by decide +kernel)
    · rw [if_neg q] at h
      refine mRunF.sg (mSl mk_216 66 13) (g := (127, [some (.ref 64), some (.int x1)], [.int ((5 * (M.1 64 18)) + x1), .ref 79, .int (8 + x1), .ref 96], mSS M)) (by decide +kernel) rfl ?_
      obtain ⟨g5, h⟩ := grd_of h
      refine R_iald (by decide +kernel) rfl g5 ?_
      obtain ⟨g6, h⟩ := grd_of h
      refine R_iast (by decide +kernel) rfl g6 ?_
      obtain ⟨M7, hv, h⟩ := nxt_ex h
      rw [← hv]
      clear hv
      refine mRunF.sg (mSl mk_216 81 2) (g := (94, [some (.ref 64), some (.int (x1 + 1))], [], mSS M7)) (by decide +kernel) rfl ?_
      exact @ih _ _ h
set_option maxRecDepth 100000 in
set_option maxHeartbeats 4000000 in
theorem Mo_begins_23_r {N d : Nat}   {M' : mS} : ∀ {n : Nat} {x1 : Int32} {M : mS}, Mo_begins_23 N n x1 M = some M' → mRunF (mCd 216) (mEE (mMet mP mTx (d + 1)) (none) none M') (23, [some (.ref 64), some (.int x1)], [], mSS M) := by
  intro n
  induction n with
  | zero => intro x1 M h; cases h
  | succ n ih =>
    replace ih := @ih
    intro x1 M h
    unfold Mo_begins_23 at h
    refine mRunF.sg (mSl mk_216 14 5) (g := (32, [some (.ref 64), some (.int x1)], [.int (M.1 64 18), .ref 75, .int x1], mSS M)) (by decide +kernel) rfl ?_
    obtain ⟨g8, h⟩ := grd_of h
    refine R_iald (by decide +kernel) rfl g8 ?_
    refine R_ige (t := 92) ⟨59, by decide +kernel⟩ (fun q => ?_) (fun q => ?_)
    · rw [if_pos q] at h
      refine mRunF.sg (mSl mk_216 57 2) (g := (94, [some (.ref 64), some (.int 0)], [], mSS M)) (by decide +kernel) rfl ?_
      exact Mo_begins_94_r h
    · rw [if_neg q] at h
      refine mRunF.sg (mSl mk_216 21 11) (g := (53, [some (.ref 64), some (.int x1)], [.int ((4 * (M.1 64 18)) + x1), .ref 76, .int x1, .ref 96], mSS M)) (by decide +kernel) rfl ?_
      obtain ⟨g9, h⟩ := grd_of h
      refine R_iald (by decide +kernel) rfl g9 ?_
      refine mRunF.sg (mSl mk_216 33 1) (g := (55, [some (.ref 64), some (.int x1)], [.ref 64, .int (M.1 76 ((4 * (M.1 64 18)) + x1).toNatClampNeg), .int x1, .ref 96], mSS M)) (by decide +kernel) rfl ?_
      obtain ⟨r11, q10, h⟩ := bR_of h
      refine R_callV (mi := 210) (na := 1) (ci := 12) (i := 64) (as := []) (r := [.int (M.1 76 ((4 * (M.1 64 18)) + x1).toNatClampNeg), .int x1, .ref 96]) (rv := some (.int r11)) (σ1 := mSS M) ⟨313, by decide +kernel⟩ rfl rfl rfl rfl (Mo_hours_r N M (d + 0) q10) ?_
      show mRunF _ _ (58, [some (.ref 64), some (.int x1)], [.int r11, .int (M.1 76 ((4 * (M.1 64 18)) + x1).toNatClampNeg), .int x1, .ref 96], mSS M)
      obtain ⟨g12, h⟩ := nz_of h
      refine R_rem (by decide +kernel) g12 ?_
      obtain ⟨g13, h⟩ := grd_of h
      refine R_iast (by decide +kernel) rfl g13 ?_
      obtain ⟨M14, hv, h⟩ := nxt_ex h
      rw [← hv]
      clear hv
      refine mRunF.sg (mSl mk_216 37 13) (g := (79, [some (.ref 64), some (.int x1)], [.int ((4 * (M14.1 64 18)) + x1), .ref 77, .int (4 + x1), .ref 96], mSS M14)) (by decide +kernel) rfl ?_
      obtain ⟨g15, h⟩ := grd_of h
      refine R_iald (by decide +kernel) rfl g15 ?_
      refine mRunF.sg (mSl mk_216 51 1) (g := (81, [some (.ref 64), some (.int x1)], [.ref 64, .int (M14.1 77 ((4 * (M14.1 64 18)) + x1).toNatClampNeg), .int (4 + x1), .ref 96], mSS M14)) (by decide +kernel) rfl ?_
      obtain ⟨r17, q16, h⟩ := bR_of h
      refine R_callV (mi := 210) (na := 1) (ci := 12) (i := 64) (as := []) (r := [.int (M14.1 77 ((4 * (M14.1 64 18)) + x1).toNatClampNeg), .int (4 + x1), .ref 96]) (rv := some (.int r17)) (σ1 := mSS M14) ⟨313, by decide +kernel⟩ rfl rfl rfl rfl (Mo_hours_r N M14 (d + 0) q16) ?_
      show mRunF _ _ (84, [some (.ref 64), some (.int x1)], [.int r17, .int (M14.1 77 ((4 * (M14.1 64 18)) + x1).toNatClampNeg), .int (4 + x1), .ref 96], mSS M14)
      obtain ⟨g18, h⟩ := nz_of h
      refine R_rem (by decide +kernel) g18 ?_
      obtain ⟨g19, h⟩ := grd_of h
      refine R_iast (by decide +kernel) rfl g19 ?_
      obtain ⟨M20, hv, h⟩ := nxt_ex h
      rw [← hv]
      clear hv
      refine mRunF.sg (mSl mk_216 55 2) (g := (23, [some (.ref 64), some (.int (x1 + 1))], [], mSS M20)) (by decide +kernel) rfl ?_
      exact @ih _ _ h
set_option maxRecDepth 100000 in
set_option maxHeartbeats 4000000 in
theorem Mo_begins_2_r {N d : Nat}   {M' : mS} : ∀ {n : Nat} {x1 : Int32} {M : mS}, Mo_begins_2 N n x1 M = some M' → mRunF (mCd 216) (mEE (mMet mP mTx (d + 1)) (none) none M') (2, [some (.ref 64), some (.int x1)], [], mSS M) := by
  intro n
  induction n with
  | zero => intro x1 M h; cases h
  | succ n ih =>
    replace ih := @ih
    intro x1 M h
    unfold Mo_begins_2 at h
    refine mRunF.sg (mSl mk_216 2 2) (g := (5, [some (.ref 64), some (.int x1)], [.int 29, .int x1], mSS M)) (by decide +kernel) rfl ?_
    refine R_ige (t := 21) ⟨16, by decide +kernel⟩ (fun q => ?_) (fun q => ?_)
    · rw [if_pos q] at h
      refine mRunF.sg (mSl mk_216 12 2) (g := (23, [some (.ref 64), some (.int 0)], [], mSS M)) (by decide +kernel) rfl ?_
      exact Mo_begins_23_r h
    · rw [if_neg q] at h
      refine mRunF.sg (mSl mk_216 5 4) (g := (14, [some (.ref 64), some (.int x1)], [.int 0, .int x1, .ref 96], mSS M)) (by decide +kernel) rfl ?_
      obtain ⟨g21, h⟩ := grd_of h
      refine R_iast (by decide +kernel) rfl g21 ?_
      obtain ⟨M22, hv, h⟩ := nxt_ex h
      rw [← hv]
      clear hv
      refine mRunF.sg (mSl mk_216 10 2) (g := (2, [some (.ref 64), some (.int (x1 + 1))], [], mSS M22)) (by decide +kernel) rfl ?_
      exact @ih _ _ h
set_option maxRecDepth 100000 in
set_option maxHeartbeats 4000000 in
theorem Mo_begins_r (N : Nat)  (M : mS) {M' : mS} (d : Nat) (h : Mo_begins N M = some M') : mMet mP mTx (d + 2) 216 [.ref 64] (mSS M) none (mSS M') := by
  refine mMet_i ⟨Nat.le_refl _, Nat.le_refl _, Nat.le_of_ble_eq_true rfl⟩ ?_
  unfold Mo_begins at h
  show mRunF (mCd 216) (mEE (mMet mP mTx (d + 1)) (none) none M') (0, [some (.ref 64), none], [], mSS M)
  refine mRunF.sg (mSl mk_216 0 2) (g := (2, [some (.ref 64), some (.int 0)], [], mSS M)) (by decide +kernel) rfl ?_
  exact Mo_begins_2_r h
set_option maxRecDepth 100000 in
set_option maxHeartbeats 4000000 in
theorem Mo_keepsRow_2_r {N d : Nat}   {M' : mS} : ∀ {n : Nat} {x1 : Int32} {M : mS}, Mo_keepsRow_2 N n x1 M = some M' → mRunF (mCd 217) (mEE (mMet mP mTx (d + 0)) (none) none M') (2, [some (.ref 64), some (.int x1)], [], mSS M) := by
  intro n
  induction n with
  | zero => intro x1 M h; cases h
  | succ n ih =>
    replace ih := @ih
    intro x1 M h
    unfold Mo_keepsRow_2 at h
    refine mRunF.sg (mSl mk_217 2 2) (g := (5, [some (.ref 64), some (.int x1)], [.int 29, .int x1], mSS M)) (by decide +kernel) rfl ?_
    refine R_ige (t := 26) ⟨21, by decide +kernel⟩ (fun q => ?_) (fun q => ?_)
    · rw [if_pos q] at h
      cases h
      exact R_vret (by decide +kernel)
    · rw [if_neg q] at h
      refine mRunF.sg (mSl mk_217 5 6) (g := (18, [some (.ref 64), some (.int x1)], [.int x1, .ref 96, .int x1, .ref 95], mSS M)) (by decide +kernel) rfl ?_
      obtain ⟨g1, h⟩ := grd_of h
      refine R_iald (by decide +kernel) rfl g1 ?_
      obtain ⟨g2, h⟩ := grd_of h
      refine R_iast (by decide +kernel) rfl g2 ?_
      obtain ⟨M3, hv, h⟩ := nxt_ex h
      rw [← hv]
      clear hv
      refine mRunF.sg (mSl mk_217 13 2) (g := (2, [some (.ref 64), some (.int (x1 + 1))], [], mSS M3)) (by decide +kernel) rfl ?_
      exact @ih _ _ h
set_option maxRecDepth 100000 in
set_option maxHeartbeats 4000000 in
theorem Mo_keepsRow_r (N : Nat)  (M : mS) {M' : mS} (d : Nat) (h : Mo_keepsRow N M = some M') : mMet mP mTx (d + 1) 217 [.ref 64] (mSS M) none (mSS M') := by
  refine mMet_i ⟨Nat.le_refl _, Nat.le_refl _, Nat.le_of_ble_eq_true rfl⟩ ?_
  unfold Mo_keepsRow at h
  show mRunF (mCd 217) (mEE (mMet mP mTx (d + 0)) (none) none M') (0, [some (.ref 64), none], [], mSS M)
  refine mRunF.sg (mSl mk_217 0 2) (g := (2, [some (.ref 64), some (.int 0)], [], mSS M)) (by decide +kernel) rfl ?_
  exact Mo_keepsRow_2_r h
set_option maxRecDepth 100000 in
set_option maxHeartbeats 4000000 in
theorem Mo_is_r (N : Nat) (a0 : Int32) (M : mS) {r : Int32} (d : Nat) (h : Mo_is N a0 M = some r) : mMet mP mTx (d + 1) 185 [.ref 64, .int a0] (mSS M) (some (.int r)) (mSS M) := by
  refine mMet_i ⟨Nat.le_refl _, Nat.le_refl _, Nat.le_of_ble_eq_true rfl⟩ ?_
  unfold Mo_is at h
  show mRunF (mCd 185) (mEE (mMet mP mTx (d + 0)) (some .boolean) (some (.int r)) M) (0, [some (.ref 64), some (.int a0)], [], mSS M)
  refine mRunF.sg (mSl mk_185 0 2) (g := (4, [some (.ref 64), some (.int a0)], [.int (M.1 64 13)], mSS M)) (by decide +kernel) rfl ?_
  refine R_ne (t := 24) ⟨20, by decide +kernel⟩ (fun q => ?_) (fun q => ?_)
  · rw [if_pos q] at h
    refine mRunF.sg (mSl mk_185 3 4) (g := (15, [some (.ref 64), some (.int a0)], [.int (M.1 64 11), .ref 67], mSS M)) (by decide +kernel) rfl ?_
    obtain ⟨g1, h⟩ := grd_of h
    refine R_iald (by decide +kernel) rfl g1 ?_
    refine mRunF.sg (mSl mk_185 8 1) (g := (17, [some (.ref 64), some (.int a0)], [.int a0, .int (M.1 67 (M.1 64 11).toNatClampNeg)], mSS M)) (by decide +kernel) rfl ?_
    refine R_ine (t := 24) ⟨7, by decide +kernel⟩ (fun q => ?_) (fun q => ?_)
    · rw [if_pos q] at h
      refine mRunF.sg (mSl mk_185 10 2) (g := (25, [some (.ref 64), some (.int a0)], [.int 1], mSS M)) (by decide +kernel) rfl ?_
      cases h
      exact R_zret (by decide +kernel) (Or.inr rfl)
    · rw [if_neg q] at h
      refine mRunF.sg (mSl mk_185 12 1) (g := (25, [some (.ref 64), some (.int a0)], [.int 0], mSS M)) (by decide +kernel) rfl ?_
      cases h
      exact R_zret (by decide +kernel) (Or.inl rfl)
  · rw [if_neg q] at h
    refine mRunF.sg (mSl mk_185 12 1) (g := (25, [some (.ref 64), some (.int a0)], [.int 0], mSS M)) (by decide +kernel) rfl ?_
    cases h
    exact R_zret (by decide +kernel) (Or.inl rfl)
set_option maxRecDepth 100000 in
set_option maxHeartbeats 4000000 in
theorem Mo_fail_r (N : Nat) (a0 : Int32) (M : mS) {M' : mS} (d : Nat) (h : Mo_fail N a0 M = some M') : mMet mP mTx (d + 1) 186 [.ref 64, .int a0] (mSS M) none (mSS M') := by
  refine mMet_i ⟨Nat.le_refl _, Nat.le_refl _, Nat.le_of_ble_eq_true rfl⟩ ?_
  unfold Mo_fail at h
  show mRunF (mCd 186) (mEE (mMet mP mTx (d + 0)) (none) none M') (0, [some (.ref 64), some (.int a0)], [], mSS M)
  refine mRunF.sg (mSl mk_186 0 2) (g := (4, [some (.ref 64), some (.int a0)], [.int (M.1 64 13)], mSS M)) (by decide +kernel) rfl ?_
  refine R_le (t := 8) ⟨4, by decide +kernel⟩ (fun q => ?_) (fun q => ?_)
  · rw [if_pos q] at h
    refine mRunF.sg (mSl mk_186 4 3) (g := (13, [some (.ref 64), some (.int a0)], [], mSS (mWI M 64 13 a0))) (by decide +kernel) rfl ?_
    obtain ⟨M1, hv, h⟩ := nxt_ex h
    rw [← hv]
    clear hv
    refine mRunF.sg (mSl mk_186 7 5) (g := (22, [some (.ref 64), some (.int a0)], [.int (M1.1 64 11), .ref 68, .ref 64], mSS M1)) (by decide +kernel) rfl ?_
    obtain ⟨g2, h⟩ := grd_of h
    refine R_iald (by decide +kernel) rfl g2 ?_
    refine mRunF.sg (mSl mk_186 13 1) (g := (26, [some (.ref 64), some (.int a0)], [], mSS (mWI M1 64 14 (M1.1 68 (M1.1 64 11).toNatClampNeg)))) (by decide +kernel) rfl ?_
    obtain ⟨M3, hv, h⟩ := nxt_ex h
    rw [← hv]
    clear hv
    cases h
    exact R_vret (by decide +kernel)
  · rw [if_neg q] at h
    cases h
    exact R_vret (by decide +kernel)
set_option maxRecDepth 100000 in
set_option maxHeartbeats 4000000 in
theorem Mo_goesOn_r (N : Nat)  (M : mS) {M' : mS} (d : Nat) (h : Mo_goesOn N M = some M') : mMet mP mTx (d + 2) 188 [.ref 64] (mSS M) none (mSS M') := by
  refine mMet_i ⟨Nat.le_refl _, Nat.le_refl _, Nat.le_of_ble_eq_true rfl⟩ ?_
  unfold Mo_goesOn at h
  show mRunF (mCd 188) (mEE (mMet mP mTx (d + 1)) (none) none M') (0, [some (.ref 64)], [], mSS M)
  refine mRunF.sg (mSl mk_188 0 3) (g := (7, [some (.ref 64)], [.int 400, .int (M.1 64 11)], mSS M)) (by decide +kernel) rfl ?_
  refine R_ine (t := 18) ⟨11, by decide +kernel⟩ (fun q => ?_) (fun q => ?_)
  · rw [if_pos q] at h
    refine mRunF.sg (mSl mk_188 4 2) (g := (12, [some (.ref 64)], [.int 2, .ref 64], mSS M)) (by decide +kernel) rfl ?_
    obtain ⟨M2, q1, h⟩ := bV_of h
    refine R_callV (mi := 186) (na := 2) (ci := 12) (i := 64) (as := [.int 2]) (r := []) (rv := none) (σ1 := mSS M2) ⟨224, by decide +kernel⟩ rfl rfl rfl rfl (Mo_fail_r N 2 M (d + 0) q1) ?_
    show mRunF _ _ (15, [some (.ref 64)], [], mSS M2)
    refine mRunF.sg (mSl mk_188 7 1) (g := (28, [some (.ref 64)], [], mSS M2)) (by decide +kernel) rfl ?_
    cases h
    exact R_vret (by decide +kernel)
  · rw [if_neg q] at h
    refine mRunF.sg (mSl mk_188 8 6) (g := (28, [some (.ref 64)], [], mSS (mWI M 64 11 ((M.1 64 11) + 1)))) (by decide +kernel) rfl ?_
    obtain ⟨M3, hv, h⟩ := nxt_ex h
    rw [← hv]
    clear hv
    cases h
    exact R_vret (by decide +kernel)
set_option maxRecDepth 100000 in
set_option maxHeartbeats 4000000 in
theorem Mo_wrong_46_r {N d : Nat}  {M : mS} {x1 : Int32} {x3 : Int32} {M' : mS} (h : Mo_wrong_46 N x1 x3 M = some M') : mRunF (mCd 187) (mEE (mMet mP mTx (d + 0)) (none) none M') (46, [some (.ref 64), some (.int x1), none, some (.int x3)], [], mSS M) := by
  unfold Mo_wrong_46 at h
  refine mRunF.sg (mSl mk_187 24 3) (g := (51, [some (.ref 64), some (.int x1), none, some (.int x3)], [], mSS (mWI M 64 15 x1))) (by decide +kernel) rfl ?_
  obtain ⟨M1, hv, h⟩ := nxt_ex h
  rw [← hv]
  clear hv
  refine mRunF.sg (mSl mk_187 27 3) (g := (56, [some (.ref 64), some (.int x1), none, some (.int x3)], [], mSS (mWI M1 64 16 x3))) (by decide +kernel) rfl ?_
  obtain ⟨M2, hv, h⟩ := nxt_ex h
  rw [← hv]
  clear hv
  cases h
  exact R_vret (by decide +kernel)
set_option maxRecDepth 100000 in
set_option maxHeartbeats 4000000 in
theorem Mo_wrong_r (N : Nat) (a0 : Int32) (a1 : Int32) (M : mS) {M' : mS} (d : Nat) (h : Mo_wrong N a0 a1 M = some M') : mMet mP mTx (d + 1) 187 [.ref 64, .int a0, .int a1] (mSS M) none (mSS M') := by
  refine mMet_i ⟨Nat.le_refl _, Nat.le_refl _, Nat.le_of_ble_eq_true rfl⟩ ?_
  unfold Mo_wrong at h
  show mRunF (mCd 187) (mEE (mMet mP mTx (d + 0)) (none) none M') (0, [some (.ref 64), some (.int a0), some (.int a1), none], [], mSS M)
  refine mRunF.sg (mSl mk_187 0 3) (g := (5, [some (.ref 64), some (.int a0), some (.int a1), none], [.int a1, .ref 68], mSS M)) (by decide +kernel) rfl ?_
  obtain ⟨g3, h⟩ := grd_of h
  refine R_iald (by decide +kernel) rfl g3 ?_
  refine mRunF.sg (mSl mk_187 4 1) (g := (7, [some (.ref 64), some (.int a0), some (.int a1), some (.int (M.1 68 a1.toNatClampNeg))], [], mSS M)) (by decide +kernel) rfl ?_
  obtain ⟨v4, hv, h⟩ := nxt_ex h
  rw [← hv]
  clear hv
  refine mRunF.sg (mSl mk_187 5 2) (g := (11, [some (.ref 64), some (.int a0), some (.int a1), some (.int v4)], [.int (M.1 64 13)], mSS M)) (by decide +kernel) rfl ?_
  refine R_gt (t := 45) ⟨34, by decide +kernel⟩ (fun q => ?_) (fun q => ?_)
  · rw [if_pos q] at h
    cases h
    exact R_vret (by decide +kernel)
  · rw [if_neg q] at h
    refine mRunF.sg (mSl mk_187 8 2) (g := (18, [some (.ref 64), some (.int a0), some (.int a1), some (.int v4)], [.int (M.1 64 15)], mSS M)) (by decide +kernel) rfl ?_
    refine R_eq (t := 46) ⟨28, by decide +kernel⟩ (fun q => ?_) (fun q => ?_)
    · rw [if_pos q] at h
      refine mRunF.forget [true, true, false, true] ?_
      exact Mo_wrong_46_r h
    · rw [if_neg q] at h
      refine mRunF.sg (mSl mk_187 11 3) (g := (26, [some (.ref 64), some (.int a0), some (.int a1), some (.int v4)], [.int (M.1 64 16), .int v4], mSS M)) (by decide +kernel) rfl ?_
      refine R_igt (t := 45) ⟨19, by decide +kernel⟩ (fun q => ?_) (fun q => ?_)
      · rw [if_pos q] at h
        cases h
        exact R_vret (by decide +kernel)
      · rw [if_neg q] at h
        refine mRunF.sg (mSl mk_187 15 3) (g := (34, [some (.ref 64), some (.int a0), some (.int a1), some (.int v4)], [.int (M.1 64 16), .int v4], mSS M)) (by decide +kernel) rfl ?_
        refine R_ine (t := 46) ⟨12, by decide +kernel⟩ (fun q => ?_) (fun q => ?_)
        · rw [if_pos q] at h
          refine mRunF.sg (mSl mk_187 19 3) (g := (42, [some (.ref 64), some (.int a0), some (.int a1), some (.int v4)], [.int (M.1 64 15), .int a0], mSS M)) (by decide +kernel) rfl ?_
          refine R_ilt (t := 46) ⟨4, by decide +kernel⟩ (fun q => ?_) (fun q => ?_)
          · rw [if_pos q] at h
            refine mRunF.forget [true, true, false, true] ?_
            exact Mo_wrong_46_r h
          · rw [if_neg q] at h
            cases h
            exact R_vret (by decide +kernel)
        · rw [if_neg q] at h
          refine mRunF.forget [true, true, false, true] ?_
          exact Mo_wrong_46_r h
set_option maxRecDepth 100000 in
set_option maxHeartbeats 4000000 in
theorem Mo_bounded_15_r {N d : Nat}  {M : mS} {x1 : Int32} {r : Int32} {M' : mS} (h : Mo_bounded_15 N x1 M = some (r, M')) : mRunF (mCd 198) (mEE (mMet mP mTx (d + 2)) (some .int) (some (.int r)) M') (15, [some (.ref 64), some (.int x1), none, none], [], mSS M) := by
  unfold Mo_bounded_15 at h
  refine mRunF.sg (mSl mk_198 7 2) (g := (17, [some (.ref 64), some (.int x1), none, none], [.int 1, .ref 64], mSS M)) (by decide +kernel) rfl ?_
  obtain ⟨M2, q1, h⟩ := bV_of h
  refine R_callV (mi := 186) (na := 2) (ci := 12) (i := 64) (as := [.int 1]) (r := []) (rv := none) (σ1 := mSS M2) ⟨224, by decide +kernel⟩ rfl rfl rfl rfl (Mo_fail_r N 1 M (d + 1) q1) ?_
  show mRunF _ _ (20, [some (.ref 64), some (.int x1), none, none], [], mSS M2)
  refine mRunF.sg (mSl mk_198 10 1) (g := (21, [some (.ref 64), some (.int x1), none, none], [.int x1], mSS M2)) (by decide +kernel) rfl ?_
  cases h
  exact R_iret (by decide +kernel)
set_option maxRecDepth 100000 in
set_option maxHeartbeats 4000000 in
theorem Mo_bounded_51_r {N d : Nat}  {M : mS} {x3 : Int32} {r : Int32} {M' : mS} (h : Mo_bounded_51 N x3 M = some (r, M')) : mRunF (mCd 198) (mEE (mMet mP mTx (d + 2)) (some .int) (some (.int r)) M') (51, [some (.ref 64), none, none, some (.int x3)], [], mSS M) := by
  unfold Mo_bounded_51 at h
  refine mRunF.sg (mSl mk_198 29 1) (g := (52, [some (.ref 64), none, none, some (.int x3)], [.ref 64], mSS M)) (by decide +kernel) rfl ?_
  obtain ⟨M4, q3, h⟩ := bV_of h
  refine R_callV (mi := 188) (na := 1) (ci := 12) (i := 64) (as := []) (r := []) (rv := none) (σ1 := mSS M4) ⟨230, by decide +kernel⟩ rfl rfl rfl rfl (Mo_goesOn_r N M (d + 0) q3) ?_
  show mRunF _ _ (55, [some (.ref 64), none, none, some (.int x3)], [], mSS M4)
  refine mRunF.sg (mSl mk_198 31 1) (g := (56, [some (.ref 64), none, none, some (.int x3)], [.int x3], mSS M4)) (by decide +kernel) rfl ?_
  cases h
  exact R_iret (by decide +kernel)
set_option maxRecDepth 100000 in
set_option maxHeartbeats 4000000 in
theorem Mo_bounded_42_r {N d : Nat}  {M : mS} {x3 : Int32} {r : Int32} {M' : mS} (h : Mo_bounded_42 N x3 M = some (r, M')) : mRunF (mCd 198) (mEE (mMet mP mTx (d + 2)) (some .int) (some (.int r)) M') (42, [some (.ref 64), none, none, some (.int x3)], [], mSS M) := by
  unfold Mo_bounded_42 at h
  refine mRunF.sg (mSl mk_198 24 4) (g := (48, [some (.ref 64), none, none, some (.int x3)], [.int (M.1 64 11), .int 5, .ref 64], mSS M)) (by decide +kernel) rfl ?_
  obtain ⟨M6, q5, h⟩ := bV_of h
  refine R_callV (mi := 187) (na := 3) (ci := 12) (i := 64) (as := [.int 5, .int (M.1 64 11)]) (r := []) (rv := none) (σ1 := mSS M6) ⟨287, by decide +kernel⟩ rfl rfl rfl rfl (Mo_wrong_r N 5 (M.1 64 11) M (d + 1) q5) ?_
  show mRunF _ _ (51, [some (.ref 64), none, none, some (.int x3)], [], mSS M6)
  exact Mo_bounded_51_r h
set_option maxRecDepth 100000 in
set_option maxHeartbeats 4000000 in
theorem Mo_bounded_r (N : Nat) (a0 : Int32) (a1 : Int32) (M : mS) {r : Int32} {M' : mS} (d : Nat) (h : Mo_bounded N a0 a1 M = some (r, M')) : mMet mP mTx (d + 3) 198 [.ref 64, .int a0, .int a1] (mSS M) (some (.int r)) (mSS M') := by
  refine mMet_i ⟨Nat.le_refl _, Nat.le_refl _, Nat.le_of_ble_eq_true rfl⟩ ?_
  unfold Mo_bounded at h
  show mRunF (mCd 198) (mEE (mMet mP mTx (d + 2)) (some .int) (some (.int r)) M') (0, [some (.ref 64), some (.int a0), some (.int a1), none], [], mSS M)
  refine mRunF.sg (mSl mk_198 0 2) (g := (4, [some (.ref 64), some (.int a0), some (.int a1), none], [.int (M.1 64 13)], mSS M)) (by decide +kernel) rfl ?_
  refine R_gt (t := 15) ⟨11, by decide +kernel⟩ (fun q => ?_) (fun q => ?_)
  · rw [if_pos q] at h
    refine mRunF.forget [true, true, false, true] ?_
    exact Mo_bounded_15_r h
  · rw [if_neg q] at h
    refine mRunF.sg (mSl mk_198 3 2) (g := (9, [some (.ref 64), some (.int a0), some (.int a1), none], [.int 2, .ref 64], mSS M)) (by decide +kernel) rfl ?_
    obtain ⟨r8, q7, h⟩ := bR_of h
    refine R_callV (mi := 185) (na := 2) (ci := 12) (i := 64) (as := [.int 2]) (r := []) (rv := some (.int r8)) (σ1 := mSS M) ⟨227, by decide +kernel⟩ rfl rfl rfl rfl (Mo_is_r N 2 M (d + 1) q7) ?_
    have b9 := mBool rfl (Mo_is_r N 2 M (d + 1) q7)
    show mRunF _ _ (12, [some (.ref 64), some (.int a0), some (.int a1), none], [.int r8], mSS M)
    refine R_ne (t := 22) ⟨10, by decide +kernel⟩ (fun q => ?_) (fun q => ?_)
    · rw [if_pos q] at h
      refine mRunF.forget [true, true, false, true] ?_
      exact Mo_bounded_15_r h
    · rw [if_neg q] at h
      refine mRunF.sg (mSl mk_198 12 4) (g := (30, [some (.ref 64), some (.int a0), some (.int a1), none], [.int (M.1 64 11), .ref 69], mSS M)) (by decide +kernel) rfl ?_
      obtain ⟨g10, h⟩ := grd_of h
      refine R_iald (by decide +kernel) rfl g10 ?_
      refine mRunF.sg (mSl mk_198 17 1) (g := (32, [some (.ref 64), some (.int a0), some (.int a1), some (.int (M.1 69 (M.1 64 11).toNatClampNeg))], [], mSS M)) (by decide +kernel) rfl ?_
      obtain ⟨v11, hv, h⟩ := nxt_ex h
      rw [← hv]
      clear hv
      refine mRunF.sg (mSl mk_198 18 2) (g := (34, [some (.ref 64), some (.int a0), some (.int a1), some (.int v11)], [.int a0, .int v11], mSS M)) (by decide +kernel) rfl ?_
      refine R_ilt (t := 42) ⟨8, by decide +kernel⟩ (fun q => ?_) (fun q => ?_)
      · rw [if_pos q] at h
        refine mRunF.forget [true, false, false, true] ?_
        exact Mo_bounded_42_r h
      · rw [if_neg q] at h
        refine mRunF.sg (mSl mk_198 21 2) (g := (39, [some (.ref 64), some (.int a0), some (.int a1), some (.int v11)], [.int a1, .int v11], mSS M)) (by decide +kernel) rfl ?_
        refine R_ile (t := 51) ⟨12, by decide +kernel⟩ (fun q => ?_) (fun q => ?_)
        · rw [if_pos q] at h
          refine mRunF.forget [true, false, false, true] ?_
          exact Mo_bounded_51_r h
        · rw [if_neg q] at h
          refine mRunF.forget [true, false, false, true] ?_
          exact Mo_bounded_42_r h
set_option maxRecDepth 100000 in
set_option maxHeartbeats 4000000 in
theorem Mo_must_r (N : Nat) (a0 : Int32) (M : mS) {M' : mS} (d : Nat) (h : Mo_must N a0 M = some M') : mMet mP mTx (d + 3) 189 [.ref 64, .int a0] (mSS M) none (mSS M') := by
  refine mMet_i ⟨Nat.le_refl _, Nat.le_refl _, Nat.le_of_ble_eq_true rfl⟩ ?_
  unfold Mo_must at h
  show mRunF (mCd 189) (mEE (mMet mP mTx (d + 2)) (none) none M') (0, [some (.ref 64), some (.int a0)], [], mSS M)
  refine mRunF.sg (mSl mk_189 0 2) (g := (2, [some (.ref 64), some (.int a0)], [.int a0, .ref 64], mSS M)) (by decide +kernel) rfl ?_
  obtain ⟨r2, q1, h⟩ := bR_of h
  refine R_callV (mi := 185) (na := 2) (ci := 12) (i := 64) (as := [.int a0]) (r := []) (rv := some (.int r2)) (σ1 := mSS M) ⟨227, by decide +kernel⟩ rfl rfl rfl rfl (Mo_is_r N a0 M (d + 1) q1) ?_
  have b3 := mBool rfl (Mo_is_r N a0 M (d + 1) q1)
  show mRunF _ _ (5, [some (.ref 64), some (.int a0)], [.int r2], mSS M)
  refine R_eq (t := 15) ⟨10, by decide +kernel⟩ (fun q => ?_) (fun q => ?_)
  · rw [if_pos q] at h
    refine mRunF.sg (mSl mk_189 7 2) (g := (17, [some (.ref 64), some (.int a0)], [.int 1, .ref 64], mSS M)) (by decide +kernel) rfl ?_
    obtain ⟨M5, q4, h⟩ := bV_of h
    refine R_callV (mi := 186) (na := 2) (ci := 12) (i := 64) (as := [.int 1]) (r := []) (rv := none) (σ1 := mSS M5) ⟨224, by decide +kernel⟩ rfl rfl rfl rfl (Mo_fail_r N 1 M (d + 1) q4) ?_
    show mRunF _ _ (20, [some (.ref 64), some (.int a0)], [], mSS M5)
    cases h
    exact R_vret (by decide +kernel)
  · rw [if_neg q] at h
    refine mRunF.sg (mSl mk_189 4 1) (g := (9, [some (.ref 64), some (.int a0)], [.ref 64], mSS M)) (by decide +kernel) rfl ?_
    obtain ⟨M7, q6, h⟩ := bV_of h
    refine R_callV (mi := 188) (na := 1) (ci := 12) (i := 64) (as := []) (r := []) (rv := none) (σ1 := mSS M7) ⟨230, by decide +kernel⟩ rfl rfl rfl rfl (Mo_goesOn_r N M (d + 0) q6) ?_
    show mRunF _ _ (12, [some (.ref 64), some (.int a0)], [], mSS M7)
    refine mRunF.sg (mSl mk_189 6 1) (g := (20, [some (.ref 64), some (.int a0)], [], mSS M7)) (by decide +kernel) rfl ?_
    cases h
    exact R_vret (by decide +kernel)
set_option maxRecDepth 100000 in
set_option maxHeartbeats 4000000 in
theorem Mo_roomFor_10_r {N d : Nat}  {M : mS}  {M' : mS} (h : Mo_roomFor_10 N M = some M') : mRunF (mCd 193) (mEE (mMet mP mTx (d + 2)) (none) none M') (10, [some (.ref 64), none, none], [], mSS M) := by
  unfold Mo_roomFor_10 at h
  refine mRunF.sg (mSl mk_193 6 2) (g := (14, [some (.ref 64), none, none], [.int (M.1 64 13)], mSS M)) (by decide +kernel) rfl ?_
  refine R_ne (t := 21) ⟨7, by decide +kernel⟩ (fun q => ?_) (fun q => ?_)
  · rw [if_pos q] at h
    refine mRunF.sg (mSl mk_193 9 1) (g := (18, [some (.ref 64), none, none], [.ref 64], mSS M)) (by decide +kernel) rfl ?_
    obtain ⟨M2, q1, h⟩ := bV_of h
    refine R_callV (mi := 188) (na := 1) (ci := 12) (i := 64) (as := []) (r := []) (rv := none) (σ1 := mSS M2) ⟨230, by decide +kernel⟩ rfl rfl rfl rfl (Mo_goesOn_r N M (d + 0) q1) ?_
    show mRunF _ _ (21, [some (.ref 64), none, none], [], mSS M2)
    cases h
    exact R_vret (by decide +kernel)
  · rw [if_neg q] at h
    cases h
    exact R_vret (by decide +kernel)
set_option maxRecDepth 100000 in
set_option maxHeartbeats 4000000 in
theorem Mo_roomFor_r (N : Nat) (a0 : Int32) (a1 : Int32) (M : mS) {M' : mS} (d : Nat) (h : Mo_roomFor N a0 a1 M = some M') : mMet mP mTx (d + 3) 193 [.ref 64, .int a0, .int a1] (mSS M) none (mSS M') := by
  refine mMet_i ⟨Nat.le_refl _, Nat.le_refl _, Nat.le_of_ble_eq_true rfl⟩ ?_
  unfold Mo_roomFor at h
  show mRunF (mCd 193) (mEE (mMet mP mTx (d + 2)) (none) none M') (0, [some (.ref 64), some (.int a0), some (.int a1)], [], mSS M)
  refine mRunF.sg (mSl mk_193 0 2) (g := (2, [some (.ref 64), some (.int a0), some (.int a1)], [.int a1, .int a0], mSS M)) (by decide +kernel) rfl ?_
  refine R_ine (t := 10) ⟨8, by decide +kernel⟩ (fun q => ?_) (fun q => ?_)
  · rw [if_pos q] at h
    refine mRunF.sg (mSl mk_193 3 2) (g := (7, [some (.ref 64), some (.int a0), some (.int a1)], [.int 2, .ref 64], mSS M)) (by decide +kernel) rfl ?_
    obtain ⟨M4, q3, h⟩ := bV_of h
    refine R_callV (mi := 186) (na := 2) (ci := 12) (i := 64) (as := [.int 2]) (r := []) (rv := none) (σ1 := mSS M4) ⟨224, by decide +kernel⟩ rfl rfl rfl rfl (Mo_fail_r N 2 M (d + 1) q3) ?_
    show mRunF _ _ (10, [some (.ref 64), some (.int a0), some (.int a1)], [], mSS M4)
    refine mRunF.forget [true, false, false] ?_
    exact Mo_roomFor_10_r h
  · rw [if_neg q] at h
    refine mRunF.forget [true, false, false] ?_
    exact Mo_roomFor_10_r h
set_option maxRecDepth 100000 in
set_option maxHeartbeats 4000000 in
theorem Mo_named_49_r {N d : Nat} {k12 : Int32 → Int32 → mS → Option (Int32 × mS)} {M : mS} {x1 : Int32} {x2 : Int32} {r : Int32} {M' : mS} (hk12 : ∀ (x1 : Int32) (x2 : Int32) (M : mS), k12 x1 x2 M = some (r, M') → mRunF (mCd 195) (mEE (mMet mP mTx (d + 3)) (some .int) (some (.int r)) M') (12, [some (.ref 64), some (.int x1), some (.int x2)], [], mSS M)) (h : Mo_named_49 N k12 x1 x2 M = some (r, M')) : mRunF (mCd 195) (mEE (mMet mP mTx (d + 3)) (some .int) (some (.int r)) M') (49, [some (.ref 64), some (.int x1), some (.int x2)], [], mSS M) := by
  unfold Mo_named_49 at h
  refine mRunF.sg (mSl mk_195 29 2) (g := (12, [some (.ref 64), some (.int x1), some (.int (x2 + 1))], [], mSS M)) (by decide +kernel) rfl ?_
  exact hk12 _ _ _ h
set_option maxRecDepth 100000 in
set_option maxHeartbeats 4000000 in
theorem Mo_named_12_r {N d : Nat}   {r : Int32} {M' : mS} : ∀ {n : Nat} {x1 : Int32} {x2 : Int32} {M : mS}, Mo_named_12 N n x1 x2 M = some (r, M') → mRunF (mCd 195) (mEE (mMet mP mTx (d + 3)) (some .int) (some (.int r)) M') (12, [some (.ref 64), some (.int x1), some (.int x2)], [], mSS M) := by
  intro n
  induction n with
  | zero => intro x1 x2 M h; cases h
  | succ n ih =>
    replace ih := @ih
    intro x1 x2 M h
    unfold Mo_named_12 at h
    refine mRunF.sg (mSl mk_195 8 3) (g := (17, [some (.ref 64), some (.int x1), some (.int x2)], [.int (M.1 64 20), .int x2], mSS M)) (by decide +kernel) rfl ?_
    refine R_ige (t := 55) ⟨38, by decide +kernel⟩ (fun q => ?_) (fun q => ?_)
    · rw [if_pos q] at h
      refine mRunF.sg (mSl mk_195 31 1) (g := (56, [some (.ref 64), some (.int x1), some (.int x2)], [.int x1], mSS M)) (by decide +kernel) rfl ?_
      cases h
      exact R_iret (by decide +kernel)
    · rw [if_neg q] at h
      refine mRunF.sg (mSl mk_195 12 2) (g := (24, [some (.ref 64), some (.int x1), some (.int x2)], [.int (M.1 64 13)], mSS M)) (by decide +kernel) rfl ?_
      refine R_ne (t := 55) ⟨31, by decide +kernel⟩ (fun q => ?_) (fun q => ?_)
      · rw [if_pos q] at h
        refine mRunF.sg (mSl mk_195 15 3) (g := (32, [some (.ref 64), some (.int x1), some (.int x2)], [.int x2, .ref 72], mSS M)) (by decide +kernel) rfl ?_
        obtain ⟨g1, h⟩ := grd_of h
        refine R_lald (by decide +kernel) rfl g1 ?_
        refine mRunF.sg (mSl mk_195 19 3) (g := (38, [some (.ref 64), some (.int x1), some (.int x2)], [.int x1, .ref 70, .long (M.2 72 x2.toNatClampNeg)], mSS M)) (by decide +kernel) rfl ?_
        obtain ⟨g2, h⟩ := grd_of h
        refine R_lald (by decide +kernel) rfl g2 ?_
        refine mRunF.sg (mSl mk_195 23 1) (g := (40, [some (.ref 64), some (.int x1), some (.int x2)], [.int (lg_cmp (M.2 72 x2.toNatClampNeg) (M.2 70 x1.toNatClampNeg))], mSS M)) (by decide +kernel) rfl ?_
        refine R_ne (t := 49) ⟨9, by decide +kernel⟩ (fun q => ?_) (fun q => ?_)
        · rw [if_pos q] at h
          refine mRunF.sg (mSl mk_195 25 3) (g := (46, [some (.ref 64), some (.int x1), some (.int x2)], [.int x1, .int 3, .ref 64], mSS M)) (by decide +kernel) rfl ?_
          obtain ⟨M4, q3, h⟩ := bV_of h
          refine R_callV (mi := 187) (na := 3) (ci := 12) (i := 64) (as := [.int 3, .int x1]) (r := []) (rv := none) (σ1 := mSS M4) ⟨287, by decide +kernel⟩ rfl rfl rfl rfl (Mo_wrong_r N 3 x1 M (d + 2) q3) ?_
          show mRunF _ _ (49, [some (.ref 64), some (.int x1), some (.int x2)], [], mSS M4)
          exact Mo_named_49_r (fun y0 y1 y2 hh => @ih y0 y1 y2 hh) h
        · rw [if_neg q] at h
          exact Mo_named_49_r (fun y0 y1 y2 hh => @ih y0 y1 y2 hh) h
      · rw [if_neg q] at h
        refine mRunF.sg (mSl mk_195 31 1) (g := (56, [some (.ref 64), some (.int x1), some (.int x2)], [.int x1], mSS M)) (by decide +kernel) rfl ?_
        cases h
        exact R_iret (by decide +kernel)
set_option maxRecDepth 100000 in
set_option maxHeartbeats 4000000 in
theorem Mo_named_r (N : Nat)  (M : mS) {r : Int32} {M' : mS} (d : Nat) (h : Mo_named N M = some (r, M')) : mMet mP mTx (d + 4) 195 [.ref 64] (mSS M) (some (.int r)) (mSS M') := by
  refine mMet_i ⟨Nat.le_refl _, Nat.le_refl _, Nat.le_of_ble_eq_true rfl⟩ ?_
  unfold Mo_named at h
  show mRunF (mCd 195) (mEE (mMet mP mTx (d + 3)) (some .int) (some (.int r)) M') (0, [some (.ref 64), none, none], [], mSS M)
  refine mRunF.sg (mSl mk_195 0 3) (g := (5, [some (.ref 64), some (.int (M.1 64 11)), none], [], mSS M)) (by decide +kernel) rfl ?_
  obtain ⟨v5, hv, h⟩ := nxt_ex h
  rw [← hv]
  clear hv
  refine mRunF.sg (mSl mk_195 3 2) (g := (7, [some (.ref 64), some (.int v5), none], [.int 1, .ref 64], mSS M)) (by decide +kernel) rfl ?_
  obtain ⟨M7, q6, h⟩ := bV_of h
  refine R_callV (mi := 189) (na := 2) (ci := 12) (i := 64) (as := [.int 1]) (r := []) (rv := none) (σ1 := mSS M7) ⟨267, by decide +kernel⟩ rfl rfl rfl rfl (Mo_must_r N 1 M (d + 0) q6) ?_
  show mRunF _ _ (10, [some (.ref 64), some (.int v5), none], [], mSS M7)
  refine mRunF.sg (mSl mk_195 6 2) (g := (12, [some (.ref 64), some (.int v5), some (.int 0)], [], mSS M7)) (by decide +kernel) rfl ?_
  exact Mo_named_12_r h
set_option maxRecDepth 100000 in
set_option maxHeartbeats 4000000 in
theorem Mo_known_63_r {N d : Nat} {k21 : Int32 → Int32 → mS → Option (Int32 × mS)} {M : mS} {x1 : Int32} {x2 : Int32} {r : Int32} {M' : mS} (hk21 : ∀ (x1 : Int32) (x2 : Int32) (M : mS), k21 x1 x2 M = some (r, M') → mRunF (mCd 197) (mEE (mMet mP mTx (d + 3)) (some .int) (some (.int r)) M') (21, [some (.ref 64), some (.int x1), some (.int x2)], [], mSS M)) (h : Mo_known_63 N k21 x1 x2 M = some (r, M')) : mRunF (mCd 197) (mEE (mMet mP mTx (d + 3)) (some .int) (some (.int r)) M') (63, [some (.ref 64), some (.int x1), some (.int x2)], [], mSS M) := by
  unfold Mo_known_63 at h
  refine mRunF.sg (mSl mk_197 38 2) (g := (21, [some (.ref 64), some (.int x1), some (.int (x2 + 1))], [], mSS M)) (by decide +kernel) rfl ?_
  exact hk21 _ _ _ h
set_option maxRecDepth 100000 in
set_option maxHeartbeats 4000000 in
theorem Mo_known_21_r {N d : Nat}   {r : Int32} {M' : mS} : ∀ {n : Nat} {x1 : Int32} {x2 : Int32} {M : mS}, Mo_known_21 N n x1 x2 M = some (r, M') → mRunF (mCd 197) (mEE (mMet mP mTx (d + 3)) (some .int) (some (.int r)) M') (21, [some (.ref 64), some (.int x1), some (.int x2)], [], mSS M) := by
  intro n
  induction n with
  | zero => intro x1 x2 M h; cases h
  | succ n ih =>
    replace ih := @ih
    intro x1 x2 M h
    unfold Mo_known_21 at h
    refine mRunF.sg (mSl mk_197 13 3) (g := (26, [some (.ref 64), some (.int x1), some (.int x2)], [.int (M.1 64 20), .int x2], mSS M)) (by decide +kernel) rfl ?_
    refine R_ige (t := 69) ⟨43, by decide +kernel⟩ (fun q => ?_) (fun q => ?_)
    · rw [if_pos q] at h
      refine mRunF.sg (mSl mk_197 40 3) (g := (72, [some (.ref 64), some (.int x1), some (.int x2)], [.int x1, .int 4, .ref 64], mSS M)) (by decide +kernel) rfl ?_
      obtain ⟨M2, q1, h⟩ := bV_of h
      refine R_callV (mi := 187) (na := 3) (ci := 12) (i := 64) (as := [.int 4, .int x1]) (r := []) (rv := none) (σ1 := mSS M2) ⟨287, by decide +kernel⟩ rfl rfl rfl rfl (Mo_wrong_r N 4 x1 M (d + 2) q1) ?_
      show mRunF _ _ (75, [some (.ref 64), some (.int x1), some (.int x2)], [], mSS M2)
      refine mRunF.sg (mSl mk_197 44 1) (g := (76, [some (.ref 64), some (.int x1), some (.int x2)], [.int (-1)], mSS M2)) (by decide +kernel) rfl ?_
      cases h
      exact R_iret (by decide +kernel)
    · rw [if_neg q] at h
      refine mRunF.sg (mSl mk_197 17 3) (g := (34, [some (.ref 64), some (.int x1), some (.int x2)], [.int x2, .ref 72], mSS M)) (by decide +kernel) rfl ?_
      obtain ⟨g3, h⟩ := grd_of h
      refine R_lald (by decide +kernel) rfl g3 ?_
      refine mRunF.sg (mSl mk_197 21 3) (g := (40, [some (.ref 64), some (.int x1), some (.int x2)], [.int x1, .ref 70, .long (M.2 72 x2.toNatClampNeg)], mSS M)) (by decide +kernel) rfl ?_
      obtain ⟨g4, h⟩ := grd_of h
      refine R_lald (by decide +kernel) rfl g4 ?_
      refine mRunF.sg (mSl mk_197 25 1) (g := (42, [some (.ref 64), some (.int x1), some (.int x2)], [.int (lg_cmp (M.2 72 x2.toNatClampNeg) (M.2 70 x1.toNatClampNeg))], mSS M)) (by decide +kernel) rfl ?_
      refine R_ne (t := 63) ⟨21, by decide +kernel⟩ (fun q => ?_) (fun q => ?_)
      · rw [if_pos q] at h
        refine mRunF.sg (mSl mk_197 27 3) (g := (50, [some (.ref 64), some (.int x1), some (.int x2)], [.int x2, .ref 73], mSS M)) (by decide +kernel) rfl ?_
        obtain ⟨g5, h⟩ := grd_of h
        refine R_iald (by decide +kernel) rfl g5 ?_
        refine mRunF.sg (mSl mk_197 31 1) (g := (53, [some (.ref 64), some (.int x1), some (.int x2)], [.int 10, .int (M.1 73 x2.toNatClampNeg)], mSS M)) (by decide +kernel) rfl ?_
        refine R_ige (t := 63) ⟨10, by decide +kernel⟩ (fun q => ?_) (fun q => ?_)
        · rw [if_pos q] at h
          exact Mo_known_63_r (fun y0 y1 y2 hh => @ih y0 y1 y2 hh) h
        · rw [if_neg q] at h
          refine mRunF.sg (mSl mk_197 33 3) (g := (61, [some (.ref 64), some (.int x1), some (.int x2)], [.int x2, .ref 73], mSS M)) (by decide +kernel) rfl ?_
          obtain ⟨g6, h⟩ := grd_of h
          refine R_iald (by decide +kernel) rfl g6 ?_
          cases h
          exact R_iret (by decide +kernel)
      · rw [if_neg q] at h
        exact Mo_known_63_r (fun y0 y1 y2 hh => @ih y0 y1 y2 hh) h
set_option maxRecDepth 100000 in
set_option maxHeartbeats 4000000 in
theorem Mo_known_r (N : Nat)  (M : mS) {r : Int32} {M' : mS} (d : Nat) (h : Mo_known N M = some (r, M')) : mMet mP mTx (d + 4) 197 [.ref 64] (mSS M) (some (.int r)) (mSS M') := by
  refine mMet_i ⟨Nat.le_refl _, Nat.le_refl _, Nat.le_of_ble_eq_true rfl⟩ ?_
  unfold Mo_known at h
  show mRunF (mCd 197) (mEE (mMet mP mTx (d + 3)) (some .int) (some (.int r)) M') (0, [some (.ref 64), none, none], [], mSS M)
  refine mRunF.sg (mSl mk_197 0 3) (g := (5, [some (.ref 64), some (.int (M.1 64 11)), none], [], mSS M)) (by decide +kernel) rfl ?_
  obtain ⟨v7, hv, h⟩ := nxt_ex h
  rw [← hv]
  clear hv
  refine mRunF.sg (mSl mk_197 3 2) (g := (7, [some (.ref 64), some (.int v7), none], [.int 1, .ref 64], mSS M)) (by decide +kernel) rfl ?_
  obtain ⟨M9, q8, h⟩ := bV_of h
  refine R_callV (mi := 189) (na := 2) (ci := 12) (i := 64) (as := [.int 1]) (r := []) (rv := none) (σ1 := mSS M9) ⟨267, by decide +kernel⟩ rfl rfl rfl rfl (Mo_must_r N 1 M (d + 0) q8) ?_
  show mRunF _ _ (10, [some (.ref 64), some (.int v7), none], [], mSS M9)
  refine mRunF.sg (mSl mk_197 6 2) (g := (14, [some (.ref 64), some (.int v7), none], [.int (M9.1 64 13)], mSS M9)) (by decide +kernel) rfl ?_
  refine R_le (t := 19) ⟨5, by decide +kernel⟩ (fun q => ?_) (fun q => ?_)
  · rw [if_pos q] at h
    refine mRunF.sg (mSl mk_197 11 2) (g := (21, [some (.ref 64), some (.int v7), some (.int 0)], [], mSS M9)) (by decide +kernel) rfl ?_
    exact Mo_known_21_r h
  · rw [if_neg q] at h
    refine mRunF.sg (mSl mk_197 9 1) (g := (18, [some (.ref 64), some (.int v7), none], [.int (-1)], mSS M9)) (by decide +kernel) rfl ?_
    cases h
    exact R_iret (by decide +kernel)
set_option maxRecDepth 100000 in
set_option maxHeartbeats 4000000 in
theorem Mo_endsName_r (N : Nat) (a0 : Int32) (a1 : Int32) (M : mS) {M' : mS} (d : Nat) (h : Mo_endsName N a0 a1 M = some M') : mMet mP mTx (d + 4) 196 [.ref 64, .int a0, .int a1] (mSS M) none (mSS M') := by
  refine mMet_i ⟨Nat.le_refl _, Nat.le_refl _, Nat.le_of_ble_eq_true rfl⟩ ?_
  unfold Mo_endsName at h
  show mRunF (mCd 196) (mEE (mMet mP mTx (d + 3)) (none) none M') (0, [some (.ref 64), some (.int a0), some (.int a1)], [], mSS M)
  refine mRunF.sg (mSl mk_196 0 2) (g := (2, [some (.ref 64), some (.int a0), some (.int a1)], [.int 4, .ref 64], mSS M)) (by decide +kernel) rfl ?_
  obtain ⟨M2, q1, h⟩ := bV_of h
  refine R_callV (mi := 189) (na := 2) (ci := 12) (i := 64) (as := [.int 4]) (r := []) (rv := none) (σ1 := mSS M2) ⟨267, by decide +kernel⟩ rfl rfl rfl rfl (Mo_must_r N 4 M (d + 0) q1) ?_
  show mRunF _ _ (5, [some (.ref 64), some (.int a0), some (.int a1)], [], mSS M2)
  refine mRunF.sg (mSl mk_196 3 2) (g := (9, [some (.ref 64), some (.int a0), some (.int a1)], [.int (M2.1 64 13)], mSS M2)) (by decide +kernel) rfl ?_
  refine R_le (t := 13) ⟨4, by decide +kernel⟩ (fun q => ?_) (fun q => ?_)
  · rw [if_pos q] at h
    refine mRunF.sg (mSl mk_196 7 7) (g := (26, [some (.ref 64), some (.int a0), some (.int a1)], [.int a0, .ref 70, .int (M2.1 64 20), .ref 72], mSS M2)) (by decide +kernel) rfl ?_
    obtain ⟨g3, h⟩ := grd_of h
    refine R_lald (by decide +kernel) rfl g3 ?_
    obtain ⟨g4, h⟩ := grd_of h
    refine R_last (by decide +kernel) rfl g4 ?_
    obtain ⟨M5, hv, h⟩ := nxt_ex h
    rw [← hv]
    clear hv
    refine mRunF.sg (mSl mk_196 16 5) (g := (37, [some (.ref 64), some (.int a0), some (.int a1)], [.int a1, .int (M5.1 64 20), .ref 73], mSS M5)) (by decide +kernel) rfl ?_
    obtain ⟨g6, h⟩ := grd_of h
    refine R_iast (by decide +kernel) rfl g6 ?_
    obtain ⟨M7, hv, h⟩ := nxt_ex h
    rw [← hv]
    clear hv
    refine mRunF.sg (mSl mk_196 22 6) (g := (48, [some (.ref 64), some (.int a0), some (.int a1)], [], mSS (mWI M7 64 20 ((M7.1 64 20) + 1)))) (by decide +kernel) rfl ?_
    obtain ⟨M8, hv, h⟩ := nxt_ex h
    rw [← hv]
    clear hv
    cases h
    exact R_vret (by decide +kernel)
  · rw [if_neg q] at h
    cases h
    exact R_vret (by decide +kernel)
set_option maxRecDepth 100000 in
set_option maxHeartbeats 4000000 in
theorem Mo_emit_r (N : Nat) (a0 : Int32) (a1 : Int32) (M : mS) {M' : mS} (d : Nat) (h : Mo_emit N a0 a1 M = some M') : mMet mP mTx (d + 1) 201 [.ref 64, .int a0, .int a1] (mSS M) none (mSS M') := by
  refine mMet_i ⟨Nat.le_refl _, Nat.le_refl _, Nat.le_of_ble_eq_true rfl⟩ ?_
  unfold Mo_emit at h
  show mRunF (mCd 201) (mEE (mMet mP mTx (d + 0)) (none) none M') (0, [some (.ref 64), some (.int a0), some (.int a1)], [], mSS M)
  refine mRunF.sg (mSl mk_201 0 5) (g := (9, [some (.ref 64), some (.int a0), some (.int a1)], [.int a0, .int (M.1 64 40), .ref 90], mSS M)) (by decide +kernel) rfl ?_
  obtain ⟨g1, h⟩ := grd_of h
  refine R_iast (by decide +kernel) rfl g1 ?_
  obtain ⟨M2, hv, h⟩ := nxt_ex h
  rw [← hv]
  clear hv
  refine mRunF.sg (mSl mk_201 6 5) (g := (19, [some (.ref 64), some (.int a0), some (.int a1)], [.int a1, .int (M2.1 64 40), .ref 91], mSS M2)) (by decide +kernel) rfl ?_
  obtain ⟨g3, h⟩ := grd_of h
  refine R_iast (by decide +kernel) rfl g3 ?_
  obtain ⟨M4, hv, h⟩ := nxt_ex h
  rw [← hv]
  clear hv
  refine mRunF.sg (mSl mk_201 12 6) (g := (30, [some (.ref 64), some (.int a0), some (.int a1)], [], mSS (mWI M4 64 40 ((M4.1 64 40) + 1)))) (by decide +kernel) rfl ?_
  obtain ⟨M5, hv, h⟩ := nxt_ex h
  rw [← hv]
  clear hv
  cases h
  exact R_vret (by decide +kernel)
set_option maxRecDepth 100000 in
set_option maxHeartbeats 4000000 in
theorem Mo_unit_88_r {N d : Nat}  {M : mS}  {M' : mS} (h : Mo_unit_88 N M = some M') : mRunF (mCd 204) (mEE (mMet mP mTx (d + 2)) (none) none M') (88, [some (.ref 64)], [], mSS M) := by
  unfold Mo_unit_88 at h
  refine mRunF.sg (mSl mk_204 45 2) (g := (90, [some (.ref 64)], [.int 1, .ref 64], mSS M)) (by decide +kernel) rfl ?_
  obtain ⟨M2, q1, h⟩ := bV_of h
  refine R_callV (mi := 186) (na := 2) (ci := 12) (i := 64) (as := [.int 1]) (r := []) (rv := none) (σ1 := mSS M2) ⟨224, by decide +kernel⟩ rfl rfl rfl rfl (Mo_fail_r N 1 M (d + 1) q1) ?_
  show mRunF _ _ (93, [some (.ref 64)], [], mSS M2)
  cases h
  exact R_vret (by decide +kernel)
set_option maxRecDepth 100000 in
set_option maxHeartbeats 4000000 in
theorem Mo_unit_r (N : Nat)  (M : mS) {M' : mS} (d : Nat) (h : Mo_unit N M = some M') : mMet mP mTx (d + 3) 204 [.ref 64] (mSS M) none (mSS M') := by
  refine mMet_i ⟨Nat.le_refl _, Nat.le_refl _, Nat.le_of_ble_eq_true rfl⟩ ?_
  unfold Mo_unit at h
  show mRunF (mCd 204) (mEE (mMet mP mTx (d + 2)) (none) none M') (0, [some (.ref 64)], [], mSS M)
  refine mRunF.sg (mSl mk_204 0 2) (g := (2, [some (.ref 64)], [.int 2, .ref 64], mSS M)) (by decide +kernel) rfl ?_
  obtain ⟨r4, q3, h⟩ := bR_of h
  refine R_callV (mi := 185) (na := 2) (ci := 12) (i := 64) (as := [.int 2]) (r := []) (rv := some (.int r4)) (σ1 := mSS M) ⟨227, by decide +kernel⟩ rfl rfl rfl rfl (Mo_is_r N 2 M (d + 1) q3) ?_
  have b5 := mBool rfl (Mo_is_r N 2 M (d + 1) q3)
  show mRunF _ _ (5, [some (.ref 64)], [.int r4], mSS M)
  refine R_eq (t := 29) ⟨24, by decide +kernel⟩ (fun q => ?_) (fun q => ?_)
  · rw [if_pos q] at h
    refine mRunF.sg (mSl mk_204 15 2) (g := (33, [some (.ref 64)], [.int (M.1 64 13)], mSS M)) (by decide +kernel) rfl ?_
    refine R_ne (t := 88) ⟨55, by decide +kernel⟩ (fun q => ?_) (fun q => ?_)
    · rw [if_pos q] at h
      refine mRunF.sg (mSl mk_204 18 4) (g := (44, [some (.ref 64)], [.int (M.1 64 11), .ref 67], mSS M)) (by decide +kernel) rfl ?_
      obtain ⟨g6, h⟩ := grd_of h
      refine R_iald (by decide +kernel) rfl g6 ?_
      refine mRunF.sg (mSl mk_204 23 1) (g := (47, [some (.ref 64)], [.int 31, .int (M.1 67 (M.1 64 11).toNatClampNeg)], mSS M)) (by decide +kernel) rfl ?_
      refine R_ilt (t := 88) ⟨41, by decide +kernel⟩ (fun q => ?_) (fun q => ?_)
      · rw [if_pos q] at h
        exact Mo_unit_88_r h
      · rw [if_neg q] at h
        refine mRunF.sg (mSl mk_204 25 4) (g := (58, [some (.ref 64)], [.int (M.1 64 11), .ref 67], mSS M)) (by decide +kernel) rfl ?_
        obtain ⟨g7, h⟩ := grd_of h
        refine R_iald (by decide +kernel) rfl g7 ?_
        refine mRunF.sg (mSl mk_204 30 1) (g := (61, [some (.ref 64)], [.int 39, .int (M.1 67 (M.1 64 11).toNatClampNeg)], mSS M)) (by decide +kernel) rfl ?_
        refine R_igt (t := 88) ⟨27, by decide +kernel⟩ (fun q => ?_) (fun q => ?_)
        · rw [if_pos q] at h
          exact Mo_unit_88_r h
        · rw [if_neg q] at h
          refine mRunF.sg (mSl mk_204 32 6) (g := (74, [some (.ref 64)], [.int (M.1 64 11), .ref 67, .int 1, .ref 64], mSS M)) (by decide +kernel) rfl ?_
          obtain ⟨g8, h⟩ := grd_of h
          refine R_iald (by decide +kernel) rfl g8 ?_
          refine mRunF.sg (mSl mk_204 39 2) (g := (78, [some (.ref 64)], [.int ((M.1 67 (M.1 64 11).toNatClampNeg) - 31), .int 1, .ref 64], mSS M)) (by decide +kernel) rfl ?_
          obtain ⟨M10, q9, h⟩ := bV_of h
          refine R_callV (mi := 201) (na := 3) (ci := 12) (i := 64) (as := [.int 1, .int ((M.1 67 (M.1 64 11).toNatClampNeg) - 31)]) (r := []) (rv := none) (σ1 := mSS M10) ⟨299, by decide +kernel⟩ rfl rfl rfl rfl (Mo_emit_r N 1 ((M.1 67 (M.1 64 11).toNatClampNeg) - 31) M (d + 1) q9) ?_
          show mRunF _ _ (81, [some (.ref 64)], [], mSS M10)
          refine mRunF.sg (mSl mk_204 42 1) (g := (82, [some (.ref 64)], [.ref 64], mSS M10)) (by decide +kernel) rfl ?_
          obtain ⟨M12, q11, h⟩ := bV_of h
          refine R_callV (mi := 188) (na := 1) (ci := 12) (i := 64) (as := []) (r := []) (rv := none) (σ1 := mSS M12) ⟨230, by decide +kernel⟩ rfl rfl rfl rfl (Mo_goesOn_r N M10 (d + 0) q11) ?_
          show mRunF _ _ (85, [some (.ref 64)], [], mSS M12)
          refine mRunF.sg (mSl mk_204 44 1) (g := (93, [some (.ref 64)], [], mSS M12)) (by decide +kernel) rfl ?_
          cases h
          exact R_vret (by decide +kernel)
    · rw [if_neg q] at h
      exact Mo_unit_88_r h
  · rw [if_neg q] at h
    refine mRunF.sg (mSl mk_204 4 6) (g := (18, [some (.ref 64)], [.int (M.1 64 11), .ref 69, .int 0, .ref 64], mSS M)) (by decide +kernel) rfl ?_
    obtain ⟨g13, h⟩ := grd_of h
    refine R_iald (by decide +kernel) rfl g13 ?_
    obtain ⟨M15, q14, h⟩ := bV_of h
    refine R_callV (mi := 201) (na := 3) (ci := 12) (i := 64) (as := [.int 0, .int (M.1 69 (M.1 64 11).toNatClampNeg)]) (r := []) (rv := none) (σ1 := mSS M15) ⟨299, by decide +kernel⟩ rfl rfl rfl rfl (Mo_emit_r N 0 (M.1 69 (M.1 64 11).toNatClampNeg) M (d + 1) q14) ?_
    show mRunF _ _ (22, [some (.ref 64)], [], mSS M15)
    refine mRunF.sg (mSl mk_204 12 1) (g := (23, [some (.ref 64)], [.ref 64], mSS M15)) (by decide +kernel) rfl ?_
    obtain ⟨M17, q16, h⟩ := bV_of h
    refine R_callV (mi := 188) (na := 1) (ci := 12) (i := 64) (as := []) (r := []) (rv := none) (σ1 := mSS M17) ⟨230, by decide +kernel⟩ rfl rfl rfl rfl (Mo_goesOn_r N M15 (d + 0) q16) ?_
    show mRunF _ _ (26, [some (.ref 64)], [], mSS M17)
    refine mRunF.sg (mSl mk_204 14 1) (g := (93, [some (.ref 64)], [], mSS M17)) (by decide +kernel) rfl ?_
    cases h
    exact R_vret (by decide +kernel)
set_option maxRecDepth 100000 in
set_option maxHeartbeats 4000000 in
theorem Mo_comesOut_84_r {N d : Nat} {k0 : Int32 → mS → Option mS} {M : mS} {x1 : Int32} {z1 : Int32} {M' : mS} (hk0 : ∀ (x1 : Int32) (M : mS), k0 x1 M = some M' → mRunF (mCd 202) (mEE (mMet mP mTx (d + 1)) (none) none M') (0, [some (.ref 64), some (.int x1), none], [], mSS M)) (h : Mo_comesOut_84 N k0 x1 z1 M = some M') : mRunF (mCd 202) (mEE (mMet mP mTx (d + 1)) (none) none M') (84, [some (.ref 64), some (.int x1), none], [.int z1, .ref 64], mSS M) := by
  unfold Mo_comesOut_84 at h
  refine mRunF.sg (mSl mk_202 46 1) (g := (85, [some (.ref 64), some (.int x1), none], [.int 0, .int z1, .ref 64], mSS M)) (by decide +kernel) rfl ?_
  obtain ⟨M2, q1, h⟩ := bV_of h
  refine R_callV (mi := 201) (na := 3) (ci := 12) (i := 64) (as := [.int z1, .int 0]) (r := []) (rv := none) (σ1 := mSS M2) ⟨299, by decide +kernel⟩ rfl rfl rfl rfl (Mo_emit_r N z1 0 M (d + 0) q1) ?_
  show mRunF _ _ (88, [some (.ref 64), some (.int x1), none], [], mSS M2)
  refine mRunF.sg (mSl mk_202 48 1) (g := (0, [some (.ref 64), some (.int x1), none], [], mSS M2)) (by decide +kernel) rfl ?_
  exact hk0 _ _ h
set_option maxRecDepth 100000 in
set_option maxHeartbeats 4000000 in
theorem Mo_comesOut_42_r {N d : Nat} {k0 : Int32 → mS → Option mS} {M : mS} {x1 : Int32} {x2 : Int32} {M' : mS} (hk0 : ∀ (x1 : Int32) (M : mS), k0 x1 M = some M' → mRunF (mCd 202) (mEE (mMet mP mTx (d + 1)) (none) none M') (0, [some (.ref 64), some (.int x1), none], [], mSS M)) (h : Mo_comesOut_42 N k0 x1 x2 M = some M') : mRunF (mCd 202) (mEE (mMet mP mTx (d + 1)) (none) none M') (42, [some (.ref 64), some (.int x1), some (.int x2)], [], mSS M) := by
  unfold Mo_comesOut_42 at h
  refine mRunF.sg (mSl mk_202 23 6) (g := (52, [some (.ref 64), some (.int x1), some (.int x2)], [], mSS (mWI M 64 44 ((M.1 64 44) - 1)))) (by decide +kernel) rfl ?_
  obtain ⟨M3, hv, h⟩ := nxt_ex h
  rw [← hv]
  clear hv
  refine mRunF.sg (mSl mk_202 29 3) (g := (56, [some (.ref 64), some (.int x1), some (.int x2)], [.int 8, .int x2, .ref 64], mSS M3)) (by decide +kernel) rfl ?_
  refine R_ine (t := 63) ⟨7, by decide +kernel⟩ (fun q => ?_) (fun q => ?_)
  · rw [if_pos q] at h
    refine mRunF.sg (mSl mk_202 33 2) (g := (84, [some (.ref 64), some (.int x1), some (.int x2)], [.int 2, .ref 64], mSS M3)) (by decide +kernel) rfl ?_
    refine mRunF.forget [true, true, false] ?_
    exact Mo_comesOut_84_r hk0 h
  · rw [if_neg q] at h
    refine mRunF.sg (mSl mk_202 35 2) (g := (66, [some (.ref 64), some (.int x1), some (.int x2)], [.int 9, .int x2, .ref 64], mSS M3)) (by decide +kernel) rfl ?_
    refine R_ine (t := 73) ⟨7, by decide +kernel⟩ (fun q => ?_) (fun q => ?_)
    · rw [if_pos q] at h
      refine mRunF.sg (mSl mk_202 38 2) (g := (84, [some (.ref 64), some (.int x1), some (.int x2)], [.int 3, .ref 64], mSS M3)) (by decide +kernel) rfl ?_
      refine mRunF.forget [true, true, false] ?_
      exact Mo_comesOut_84_r hk0 h
    · rw [if_neg q] at h
      refine mRunF.sg (mSl mk_202 40 2) (g := (76, [some (.ref 64), some (.int x1), some (.int x2)], [.int 10, .int x2, .ref 64], mSS M3)) (by decide +kernel) rfl ?_
      refine R_ine (t := 83) ⟨7, by decide +kernel⟩ (fun q => ?_) (fun q => ?_)
      · rw [if_pos q] at h
        refine mRunF.sg (mSl mk_202 43 2) (g := (84, [some (.ref 64), some (.int x1), some (.int x2)], [.int 4, .ref 64], mSS M3)) (by decide +kernel) rfl ?_
        refine mRunF.forget [true, true, false] ?_
        exact Mo_comesOut_84_r hk0 h
      · rw [if_neg q] at h
        refine mRunF.sg (mSl mk_202 45 1) (g := (84, [some (.ref 64), some (.int x1), some (.int x2)], [.int 5, .ref 64], mSS M3)) (by decide +kernel) rfl ?_
        refine mRunF.forget [true, true, false] ?_
        exact Mo_comesOut_84_r hk0 h
set_option maxRecDepth 100000 in
set_option maxHeartbeats 4000000 in
theorem Mo_comesOut_0_r {N d : Nat}   {M' : mS} : ∀ {n : Nat} {x1 : Int32} {M : mS}, Mo_comesOut_0 N n x1 M = some M' → mRunF (mCd 202) (mEE (mMet mP mTx (d + 1)) (none) none M') (0, [some (.ref 64), some (.int x1), none], [], mSS M) := by
  intro n
  induction n with
  | zero => intro x1 M h; cases h
  | succ n ih =>
    replace ih := @ih
    intro x1 M h
    unfold Mo_comesOut_0 at h
    refine mRunF.sg (mSl mk_202 0 2) (g := (4, [some (.ref 64), some (.int x1), none], [.int (M.1 64 44)], mSS M)) (by decide +kernel) rfl ?_
    refine R_le (t := 91) ⟨87, by decide +kernel⟩ (fun q => ?_) (fun q => ?_)
    · rw [if_pos q] at h
      cases h
      exact R_vret (by decide +kernel)
    · rw [if_neg q] at h
      refine mRunF.sg (mSl mk_202 3 6) (g := (17, [some (.ref 64), some (.int x1), none], [.int ((M.1 64 44) - 1), .ref 92], mSS M)) (by decide +kernel) rfl ?_
      obtain ⟨g4, h⟩ := grd_of h
      refine R_iald (by decide +kernel) rfl g4 ?_
      refine mRunF.sg (mSl mk_202 10 1) (g := (19, [some (.ref 64), some (.int x1), some (.int (M.1 92 ((M.1 64 44) - 1).toNatClampNeg))], [], mSS M)) (by decide +kernel) rfl ?_
      obtain ⟨v5, hv, h⟩ := nxt_ex h
      rw [← hv]
      clear hv
      refine mRunF.sg (mSl mk_202 11 2) (g := (22, [some (.ref 64), some (.int x1), some (.int v5)], [.int 6, .int v5], mSS M)) (by decide +kernel) rfl ?_
      refine R_ieq (t := 41) ⟨19, by decide +kernel⟩ (fun q => ?_) (fun q => ?_)
      · rw [if_pos q] at h
        cases h
        exact R_vret (by decide +kernel)
      · rw [if_neg q] at h
        refine mRunF.sg (mSl mk_202 14 1) (g := (26, [some (.ref 64), some (.int x1), some (.int v5)], [.int x1], mSS M)) (by decide +kernel) rfl ?_
        refine R_eq (t := 42) ⟨16, by decide +kernel⟩ (fun q => ?_) (fun q => ?_)
        · rw [if_pos q] at h
          exact Mo_comesOut_42_r (fun y0 y1 hh => @ih y0 y1 hh) h
        · rw [if_neg q] at h
          refine mRunF.sg (mSl mk_202 16 2) (g := (32, [some (.ref 64), some (.int x1), some (.int v5)], [.int 8, .int v5], mSS M)) (by decide +kernel) rfl ?_
          refine R_ieq (t := 41) ⟨9, by decide +kernel⟩ (fun q => ?_) (fun q => ?_)
          · rw [if_pos q] at h
            cases h
            exact R_vret (by decide +kernel)
          · rw [if_neg q] at h
            refine mRunF.sg (mSl mk_202 19 2) (g := (38, [some (.ref 64), some (.int x1), some (.int v5)], [.int 9, .int v5], mSS M)) (by decide +kernel) rfl ?_
            refine R_ine (t := 42) ⟨4, by decide +kernel⟩ (fun q => ?_) (fun q => ?_)
            · rw [if_pos q] at h
              cases h
              exact R_vret (by decide +kernel)
            · rw [if_neg q] at h
              exact Mo_comesOut_42_r (fun y0 y1 hh => @ih y0 y1 hh) h
set_option maxRecDepth 100000 in
set_option maxHeartbeats 4000000 in
theorem Mo_comesOut_r (N : Nat) (a0 : Int32) (M : mS) {M' : mS} (d : Nat) (h : Mo_comesOut N a0 M = some M') : mMet mP mTx (d + 2) 202 [.ref 64, .int a0] (mSS M) none (mSS M') := by
  refine mMet_i ⟨Nat.le_refl _, Nat.le_refl _, Nat.le_of_ble_eq_true rfl⟩ ?_
  unfold Mo_comesOut at h
  show mRunF (mCd 202) (mEE (mMet mP mTx (d + 1)) (none) none M') (0, [some (.ref 64), some (.int a0), none], [], mSS M)
  exact Mo_comesOut_0_r h
set_option maxRecDepth 100000 in
set_option maxHeartbeats 4000000 in
theorem Mo_expression_46_r {N d : Nat} {k12 : Int32 → Int32 → mS → Option mS} {k23 : Int32 → mS → Option mS} {M : mS} {x1 : Int32} {M' : mS} (hk12 : ∀ (x1 : Int32) (x2 : Int32) (M : mS), k12 x1 x2 M = some M' → mRunF (mCd 203) (mEE (mMet mP mTx (d + 3)) (none) none M') (12, [some (.ref 64), some (.int x1), some (.int x2)], [], mSS M)) (hk23 : ∀ (x1 : Int32) (M : mS), k23 x1 M = some M' → mRunF (mCd 203) (mEE (mMet mP mTx (d + 3)) (none) none M') (23, [some (.ref 64), some (.int x1), none], [], mSS M)) (h : Mo_expression_46 N k12 k23 x1 M = some M') : mRunF (mCd 203) (mEE (mMet mP mTx (d + 3)) (none) none M') (46, [some (.ref 64), some (.int x1), none], [], mSS M) := by
  unfold Mo_expression_46 at h
  refine mRunF.sg (mSl mk_203 24 6) (g := (56, [some (.ref 64), some (.int x1), none], [], mSS (mWI M 64 12 ((M.1 64 12) + 1)))) (by decide +kernel) rfl ?_
  obtain ⟨M1, hv, h⟩ := nxt_ex h
  rw [← hv]
  clear hv
  refine mRunF.sg (mSl mk_203 30 1) (g := (57, [some (.ref 64), some (.int x1), none], [.ref 64], mSS M1)) (by decide +kernel) rfl ?_
  obtain ⟨M3, q2, h⟩ := bV_of h
  refine R_callV (mi := 188) (na := 1) (ci := 12) (i := 64) (as := []) (r := []) (rv := none) (σ1 := mSS M3) ⟨230, by decide +kernel⟩ rfl rfl rfl rfl (Mo_goesOn_r N M1 (d + 1) q2) ?_
  show mRunF _ _ (60, [some (.ref 64), some (.int x1), none], [], mSS M3)
  refine mRunF.sg (mSl mk_203 32 5) (g := (70, [some (.ref 64), some (.int x1), none], [.int 6, .int (M3.1 64 44), .ref 92], mSS M3)) (by decide +kernel) rfl ?_
  obtain ⟨g4, h⟩ := grd_of h
  refine R_iast (by decide +kernel) rfl g4 ?_
  obtain ⟨M5, hv, h⟩ := nxt_ex h
  rw [← hv]
  clear hv
  refine mRunF.sg (mSl mk_203 38 6) (g := (81, [some (.ref 64), some (.int x1), none], [], mSS (mWI M5 64 44 ((M5.1 64 44) + 1)))) (by decide +kernel) rfl ?_
  obtain ⟨M6, hv, h⟩ := nxt_ex h
  rw [← hv]
  clear hv
  refine mRunF.sg (mSl mk_203 44 1) (g := (23, [some (.ref 64), some (.int x1), none], [], mSS M6)) (by decide +kernel) rfl ?_
  exact hk23 _ _ h
set_option maxRecDepth 100000 in
set_option maxHeartbeats 4000000 in
theorem Mo_expression_234_r {N d : Nat} {k12 : Int32 → Int32 → mS → Option mS} {M : mS} {x1 : Int32} {x2 : Int32} {z1 : Int32} {M' : mS} (hk12 : ∀ (x1 : Int32) (x2 : Int32) (M : mS), k12 x1 x2 M = some M' → mRunF (mCd 203) (mEE (mMet mP mTx (d + 3)) (none) none M') (12, [some (.ref 64), some (.int x1), some (.int x2)], [], mSS M)) (h : Mo_expression_234 N k12 x1 x2 z1 M = some M') : mRunF (mCd 203) (mEE (mMet mP mTx (d + 3)) (none) none M') (234, [some (.ref 64), some (.int x1), some (.int x2)], [.int z1, .ref 64], mSS M) := by
  unfold Mo_expression_234 at h
  obtain ⟨M8, q7, h⟩ := bV_of h
  refine R_callV (mi := 202) (na := 2) (ci := 12) (i := 64) (as := [.int z1]) (r := []) (rv := none) (σ1 := mSS M8) ⟨305, by decide +kernel⟩ rfl rfl rfl rfl (Mo_comesOut_r N z1 M (d + 1) q7) ?_
  show mRunF _ _ (237, [some (.ref 64), some (.int x1), some (.int x2)], [], mSS M8)
  refine mRunF.sg (mSl mk_203 123 8) (g := (253, [some (.ref 64), some (.int x1), some (.int x2)], [.int (M8.1 64 11), .ref 67, .int (M8.1 64 44), .ref 92], mSS M8)) (by decide +kernel) rfl ?_
  obtain ⟨g9, h⟩ := grd_of h
  refine R_iald (by decide +kernel) rfl g9 ?_
  obtain ⟨g10, h⟩ := grd_of h
  refine R_iast (by decide +kernel) rfl g10 ?_
  obtain ⟨M11, hv, h⟩ := nxt_ex h
  rw [← hv]
  clear hv
  refine mRunF.sg (mSl mk_203 133 6) (g := (265, [some (.ref 64), some (.int x1), some (.int x2)], [], mSS (mWI M11 64 44 ((M11.1 64 44) + 1)))) (by decide +kernel) rfl ?_
  obtain ⟨M12, hv, h⟩ := nxt_ex h
  rw [← hv]
  clear hv
  refine mRunF.sg (mSl mk_203 139 1) (g := (266, [some (.ref 64), some (.int x1), some (.int x2)], [.ref 64], mSS M12)) (by decide +kernel) rfl ?_
  obtain ⟨M14, q13, h⟩ := bV_of h
  refine R_callV (mi := 188) (na := 1) (ci := 12) (i := 64) (as := []) (r := []) (rv := none) (σ1 := mSS M14) ⟨230, by decide +kernel⟩ rfl rfl rfl rfl (Mo_goesOn_r N M12 (d + 1) q13) ?_
  show mRunF _ _ (269, [some (.ref 64), some (.int x1), some (.int x2)], [], mSS M14)
  refine mRunF.sg (mSl mk_203 141 1) (g := (12, [some (.ref 64), some (.int x1), some (.int x2)], [], mSS M14)) (by decide +kernel) rfl ?_
  exact hk12 _ _ _ h
set_option maxRecDepth 100000 in
set_option maxHeartbeats 4000000 in
theorem Mo_expression_229_r {N d : Nat} {k12 : Int32 → Int32 → mS → Option mS} {M : mS} {x1 : Int32} {x2 : Int32} {M' : mS} (hk12 : ∀ (x1 : Int32) (x2 : Int32) (M : mS), k12 x1 x2 M = some M' → mRunF (mCd 203) (mEE (mMet mP mTx (d + 3)) (none) none M') (12, [some (.ref 64), some (.int x1), some (.int x2)], [], mSS M)) (h : Mo_expression_229 N k12 x1 x2 M = some M') : mRunF (mCd 203) (mEE (mMet mP mTx (d + 3)) (none) none M') (229, [some (.ref 64), some (.int x1), some (.int x2)], [.ref 64], mSS M) := by
  unfold Mo_expression_229 at h
  refine mRunF.sg (mSl mk_203 119 2) (g := (234, [some (.ref 64), some (.int x1), some (.int x2)], [.int 1, .ref 64], mSS M)) (by decide +kernel) rfl ?_
  exact Mo_expression_234_r hk12 h
set_option maxRecDepth 100000 in
set_option maxHeartbeats 4000000 in
theorem Mo_expression_204_r {N d : Nat}  {M : mS}  {M' : mS} (h : Mo_expression_204 N M = some M') : mRunF (mCd 203) (mEE (mMet mP mTx (d + 3)) (none) none M') (204, [some (.ref 64), none, none], [], mSS M) := by
  unfold Mo_expression_204 at h
  refine mRunF.sg (mSl mk_203 106 2) (g := (206, [some (.ref 64), none, none], [.int 0, .ref 64], mSS M)) (by decide +kernel) rfl ?_
  obtain ⟨M16, q15, h⟩ := bV_of h
  refine R_callV (mi := 202) (na := 2) (ci := 12) (i := 64) (as := [.int 0]) (r := []) (rv := none) (σ1 := mSS M16) ⟨305, by decide +kernel⟩ rfl rfl rfl rfl (Mo_comesOut_r N 0 M (d + 1) q15) ?_
  show mRunF _ _ (209, [some (.ref 64), none, none], [], mSS M16)
  cases h
  exact R_vret (by decide +kernel)
set_option maxRecDepth 100000 in
set_option maxHeartbeats 4000000 in
theorem Mo_expression_186_r {N d : Nat} {k12 : Int32 → Int32 → mS → Option mS} {M : mS} {x1 : Int32} {z0 : Int32} {M' : mS} (hk12 : ∀ (x1 : Int32) (x2 : Int32) (M : mS), k12 x1 x2 M = some M' → mRunF (mCd 203) (mEE (mMet mP mTx (d + 3)) (none) none M') (12, [some (.ref 64), some (.int x1), some (.int x2)], [], mSS M)) (h : Mo_expression_186 N k12 x1 z0 M = some M') : mRunF (mCd 203) (mEE (mMet mP mTx (d + 3)) (none) none M') (186, [some (.ref 64), some (.int x1), none], [.int z0], mSS M) := by
  unfold Mo_expression_186 at h
  refine mRunF.sg (mSl mk_203 96 2) (g := (188, [some (.ref 64), some (.int x1), some (.int z0)], [.int z0], mSS M)) (by decide +kernel) rfl ?_
  refine R_ne (t := 210) ⟨22, by decide +kernel⟩ (fun q => ?_) (fun q => ?_)
  · rw [if_pos q] at h
    refine mRunF.sg (mSl mk_203 99 3) (g := (196, [some (.ref 64), some (.int x1), some (.int z0)], [.int x1, .int (M.1 64 12)], mSS M)) (by decide +kernel) rfl ?_
    refine R_ile (t := 204) ⟨8, by decide +kernel⟩ (fun q => ?_) (fun q => ?_)
    · rw [if_pos q] at h
      refine mRunF.forget [true, false, false] ?_
      exact Mo_expression_204_r h
    · rw [if_neg q] at h
      refine mRunF.sg (mSl mk_203 103 2) (g := (201, [some (.ref 64), some (.int x1), some (.int z0)], [.int 1, .ref 64], mSS M)) (by decide +kernel) rfl ?_
      obtain ⟨M18, q17, h⟩ := bV_of h
      refine R_callV (mi := 186) (na := 2) (ci := 12) (i := 64) (as := [.int 1]) (r := []) (rv := none) (σ1 := mSS M18) ⟨224, by decide +kernel⟩ rfl rfl rfl rfl (Mo_fail_r N 1 M (d + 2) q17) ?_
      show mRunF _ _ (204, [some (.ref 64), some (.int x1), some (.int z0)], [], mSS M18)
      refine mRunF.forget [true, false, false] ?_
      exact Mo_expression_204_r h
  · rw [if_neg q] at h
    refine mRunF.sg (mSl mk_203 110 3) (g := (214, [some (.ref 64), some (.int x1), some (.int z0)], [.int 10, .ref 64, .ref 64], mSS M)) (by decide +kernel) rfl ?_
    obtain ⟨r20, q19, h⟩ := bR_of h
    refine R_callV (mi := 185) (na := 2) (ci := 12) (i := 64) (as := [.int 10]) (r := [.ref 64]) (rv := some (.int r20)) (σ1 := mSS M) ⟨227, by decide +kernel⟩ rfl rfl rfl rfl (Mo_is_r N 10 M (d + 2) q19) ?_
    have b21 := mBool rfl (Mo_is_r N 10 M (d + 2) q19)
    show mRunF _ _ (217, [some (.ref 64), some (.int x1), some (.int z0)], [.int r20, .ref 64], mSS M)
    refine R_ne (t := 229) ⟨12, by decide +kernel⟩ (fun q => ?_) (fun q => ?_)
    · rw [if_pos q] at h
      refine mRunF.sg (mSl mk_203 115 2) (g := (223, [some (.ref 64), some (.int x1), some (.int z0)], [.int 15, .ref 64, .ref 64], mSS M)) (by decide +kernel) rfl ?_
      obtain ⟨r23, q22, h⟩ := bR_of h
      refine R_callV (mi := 185) (na := 2) (ci := 12) (i := 64) (as := [.int 15]) (r := [.ref 64]) (rv := some (.int r23)) (σ1 := mSS M) ⟨227, by decide +kernel⟩ rfl rfl rfl rfl (Mo_is_r N 15 M (d + 2) q22) ?_
      have b24 := mBool rfl (Mo_is_r N 15 M (d + 2) q22)
      show mRunF _ _ (226, [some (.ref 64), some (.int x1), some (.int z0)], [.int r23, .ref 64], mSS M)
      refine R_eq (t := 233) ⟨7, by decide +kernel⟩ (fun q => ?_) (fun q => ?_)
      · rw [if_pos q] at h
        refine mRunF.sg (mSl mk_203 121 1) (g := (234, [some (.ref 64), some (.int x1), some (.int z0)], [.int 0, .ref 64], mSS M)) (by decide +kernel) rfl ?_
        exact Mo_expression_234_r hk12 h
      · rw [if_neg q] at h
        exact Mo_expression_229_r hk12 h
    · rw [if_neg q] at h
      exact Mo_expression_229_r hk12 h
set_option maxRecDepth 100000 in
set_option maxHeartbeats 4000000 in
theorem Mo_expression_181_r {N d : Nat} {k12 : Int32 → Int32 → mS → Option mS} {M : mS} {x1 : Int32} {M' : mS} (hk12 : ∀ (x1 : Int32) (x2 : Int32) (M : mS), k12 x1 x2 M = some M' → mRunF (mCd 203) (mEE (mMet mP mTx (d + 3)) (none) none M') (12, [some (.ref 64), some (.int x1), some (.int x2)], [], mSS M)) (h : Mo_expression_181 N k12 x1 M = some M') : mRunF (mCd 203) (mEE (mMet mP mTx (d + 3)) (none) none M') (181, [some (.ref 64), some (.int x1), none], [], mSS M) := by
  unfold Mo_expression_181 at h
  refine mRunF.sg (mSl mk_203 93 2) (g := (186, [some (.ref 64), some (.int x1), none], [.int 1], mSS M)) (by decide +kernel) rfl ?_
  exact Mo_expression_186_r hk12 h
set_option maxRecDepth 100000 in
set_option maxHeartbeats 4000000 in
theorem Mo_expression_145_r {N d : Nat} {k12 : Int32 → Int32 → mS → Option mS} {M : mS} {x1 : Int32} {M' : mS} (hk12 : ∀ (x1 : Int32) (x2 : Int32) (M : mS), k12 x1 x2 M = some M' → mRunF (mCd 203) (mEE (mMet mP mTx (d + 3)) (none) none M') (12, [some (.ref 64), some (.int x1), some (.int x2)], [], mSS M)) (h : Mo_expression_145 N k12 x1 M = some M') : mRunF (mCd 203) (mEE (mMet mP mTx (d + 3)) (none) none M') (145, [some (.ref 64), some (.int x1), none], [], mSS M) := by
  unfold Mo_expression_145 at h
  refine mRunF.sg (mSl mk_203 77 2) (g := (148, [some (.ref 64), some (.int x1), none], [.int 8, .ref 64], mSS M)) (by decide +kernel) rfl ?_
  obtain ⟨r26, q25, h⟩ := bR_of h
  refine R_callV (mi := 185) (na := 2) (ci := 12) (i := 64) (as := [.int 8]) (r := []) (rv := some (.int r26)) (σ1 := mSS M) ⟨227, by decide +kernel⟩ rfl rfl rfl rfl (Mo_is_r N 8 M (d + 2) q25) ?_
  have b27 := mBool rfl (Mo_is_r N 8 M (d + 2) q25)
  show mRunF _ _ (151, [some (.ref 64), some (.int x1), none], [.int r26], mSS M)
  refine R_ne (t := 181) ⟨30, by decide +kernel⟩ (fun q => ?_) (fun q => ?_)
  · rw [if_pos q] at h
    refine mRunF.sg (mSl mk_203 81 2) (g := (157, [some (.ref 64), some (.int x1), none], [.int 9, .ref 64], mSS M)) (by decide +kernel) rfl ?_
    obtain ⟨r29, q28, h⟩ := bR_of h
    refine R_callV (mi := 185) (na := 2) (ci := 12) (i := 64) (as := [.int 9]) (r := []) (rv := some (.int r29)) (σ1 := mSS M) ⟨227, by decide +kernel⟩ rfl rfl rfl rfl (Mo_is_r N 9 M (d + 2) q28) ?_
    have b30 := mBool rfl (Mo_is_r N 9 M (d + 2) q28)
    show mRunF _ _ (160, [some (.ref 64), some (.int x1), none], [.int r29], mSS M)
    refine R_ne (t := 181) ⟨21, by decide +kernel⟩ (fun q => ?_) (fun q => ?_)
    · rw [if_pos q] at h
      refine mRunF.sg (mSl mk_203 85 2) (g := (166, [some (.ref 64), some (.int x1), none], [.int 10, .ref 64], mSS M)) (by decide +kernel) rfl ?_
      obtain ⟨r32, q31, h⟩ := bR_of h
      refine R_callV (mi := 185) (na := 2) (ci := 12) (i := 64) (as := [.int 10]) (r := []) (rv := some (.int r32)) (σ1 := mSS M) ⟨227, by decide +kernel⟩ rfl rfl rfl rfl (Mo_is_r N 10 M (d + 2) q31) ?_
      have b33 := mBool rfl (Mo_is_r N 10 M (d + 2) q31)
      show mRunF _ _ (169, [some (.ref 64), some (.int x1), none], [.int r32], mSS M)
      refine R_ne (t := 181) ⟨12, by decide +kernel⟩ (fun q => ?_) (fun q => ?_)
      · rw [if_pos q] at h
        refine mRunF.sg (mSl mk_203 89 2) (g := (175, [some (.ref 64), some (.int x1), none], [.int 15, .ref 64], mSS M)) (by decide +kernel) rfl ?_
        obtain ⟨r35, q34, h⟩ := bR_of h
        refine R_callV (mi := 185) (na := 2) (ci := 12) (i := 64) (as := [.int 15]) (r := []) (rv := some (.int r35)) (σ1 := mSS M) ⟨227, by decide +kernel⟩ rfl rfl rfl rfl (Mo_is_r N 15 M (d + 2) q34) ?_
        have b36 := mBool rfl (Mo_is_r N 15 M (d + 2) q34)
        show mRunF _ _ (178, [some (.ref 64), some (.int x1), none], [.int r35], mSS M)
        refine R_eq (t := 185) ⟨7, by decide +kernel⟩ (fun q => ?_) (fun q => ?_)
        · rw [if_pos q] at h
          refine mRunF.sg (mSl mk_203 95 1) (g := (186, [some (.ref 64), some (.int x1), none], [.int 0], mSS M)) (by decide +kernel) rfl ?_
          exact Mo_expression_186_r hk12 h
        · rw [if_neg q] at h
          exact Mo_expression_181_r hk12 h
      · rw [if_neg q] at h
        exact Mo_expression_181_r hk12 h
    · rw [if_neg q] at h
      exact Mo_expression_181_r hk12 h
  · rw [if_neg q] at h
    exact Mo_expression_181_r hk12 h
set_option maxRecDepth 100000 in
set_option maxHeartbeats 4000000 in
theorem Mo_expression_96_r {N d : Nat} {k12 : Int32 → Int32 → mS → Option mS}  {M' : mS} (hk12 : ∀ (x1 : Int32) (x2 : Int32) (M : mS), k12 x1 x2 M = some M' → mRunF (mCd 203) (mEE (mMet mP mTx (d + 3)) (none) none M') (12, [some (.ref 64), some (.int x1), some (.int x2)], [], mSS M)) : ∀ {n : Nat} {x1 : Int32} {M : mS}, Mo_expression_96 N k12 n x1 M = some M' → mRunF (mCd 203) (mEE (mMet mP mTx (d + 3)) (none) none M') (96, [some (.ref 64), some (.int x1), none], [], mSS M) := by
  intro n
  induction n with
  | zero => intro x1 M h; cases h
  | succ n ih =>
    replace ih := @ih
    intro x1 M h
    unfold Mo_expression_96 at h
    refine mRunF.sg (mSl mk_203 51 2) (g := (99, [some (.ref 64), some (.int x1), none], [.int 7, .ref 64], mSS M)) (by decide +kernel) rfl ?_
    obtain ⟨r38, q37, h⟩ := bR_of h
    refine R_callV (mi := 185) (na := 2) (ci := 12) (i := 64) (as := [.int 7]) (r := []) (rv := some (.int r38)) (σ1 := mSS M) ⟨227, by decide +kernel⟩ rfl rfl rfl rfl (Mo_is_r N 7 M (d + 2) q37) ?_
    have b39 := mBool rfl (Mo_is_r N 7 M (d + 2) q37)
    show mRunF _ _ (102, [some (.ref 64), some (.int x1), none], [.int r38], mSS M)
    refine R_eq (t := 145) ⟨43, by decide +kernel⟩ (fun q => ?_) (fun q => ?_)
    · rw [if_pos q] at h
      exact Mo_expression_145_r hk12 h
    · rw [if_neg q] at h
      refine mRunF.sg (mSl mk_203 55 3) (g := (110, [some (.ref 64), some (.int x1), none], [.int x1, .int (M.1 64 12)], mSS M)) (by decide +kernel) rfl ?_
      refine R_ile (t := 145) ⟨35, by decide +kernel⟩ (fun q => ?_) (fun q => ?_)
      · rw [if_pos q] at h
        exact Mo_expression_145_r hk12 h
      · rw [if_neg q] at h
        refine mRunF.sg (mSl mk_203 59 2) (g := (115, [some (.ref 64), some (.int x1), none], [.int 0, .ref 64], mSS M)) (by decide +kernel) rfl ?_
        obtain ⟨M41, q40, h⟩ := bV_of h
        refine R_callV (mi := 202) (na := 2) (ci := 12) (i := 64) (as := [.int 0]) (r := []) (rv := none) (σ1 := mSS M41) ⟨305, by decide +kernel⟩ rfl rfl rfl rfl (Mo_comesOut_r N 0 M (d + 1) q40) ?_
        show mRunF _ _ (118, [some (.ref 64), some (.int x1), none], [], mSS M41)
        refine mRunF.sg (mSl mk_203 62 6) (g := (128, [some (.ref 64), some (.int x1), none], [], mSS (mWI M41 64 44 ((M41.1 64 44) - 1)))) (by decide +kernel) rfl ?_
        obtain ⟨M42, hv, h⟩ := nxt_ex h
        rw [← hv]
        clear hv
        refine mRunF.sg (mSl mk_203 68 6) (g := (138, [some (.ref 64), some (.int x1), none], [], mSS (mWI M42 64 12 ((M42.1 64 12) - 1)))) (by decide +kernel) rfl ?_
        obtain ⟨M43, hv, h⟩ := nxt_ex h
        rw [← hv]
        clear hv
        refine mRunF.sg (mSl mk_203 74 1) (g := (139, [some (.ref 64), some (.int x1), none], [.ref 64], mSS M43)) (by decide +kernel) rfl ?_
        obtain ⟨M45, q44, h⟩ := bV_of h
        refine R_callV (mi := 188) (na := 1) (ci := 12) (i := 64) (as := []) (r := []) (rv := none) (σ1 := mSS M45) ⟨230, by decide +kernel⟩ rfl rfl rfl rfl (Mo_goesOn_r N M43 (d + 1) q44) ?_
        show mRunF _ _ (142, [some (.ref 64), some (.int x1), none], [], mSS M45)
        refine mRunF.sg (mSl mk_203 76 1) (g := (96, [some (.ref 64), some (.int x1), none], [], mSS M45)) (by decide +kernel) rfl ?_
        exact @ih _ _ h
set_option maxRecDepth 100000 in
set_option maxHeartbeats 4000000 in
theorem Mo_expression_23_r {N d : Nat} {k12 : Int32 → Int32 → mS → Option mS}  {M' : mS} (hk12 : ∀ (x1 : Int32) (x2 : Int32) (M : mS), k12 x1 x2 M = some M' → mRunF (mCd 203) (mEE (mMet mP mTx (d + 3)) (none) none M') (12, [some (.ref 64), some (.int x1), some (.int x2)], [], mSS M)) : ∀ {n : Nat} {x1 : Int32} {M : mS}, Mo_expression_23 N k12 n x1 M = some M' → mRunF (mCd 203) (mEE (mMet mP mTx (d + 3)) (none) none M') (23, [some (.ref 64), some (.int x1), none], [], mSS M) := by
  intro n
  induction n with
  | zero => intro x1 M h; cases h
  | succ n ih =>
    replace ih := @ih
    intro x1 M h
    unfold Mo_expression_23 at h
    refine mRunF.sg (mSl mk_203 13 2) (g := (26, [some (.ref 64), some (.int x1), none], [.int 6, .ref 64], mSS M)) (by decide +kernel) rfl ?_
    obtain ⟨r47, q46, h⟩ := bR_of h
    refine R_callV (mi := 185) (na := 2) (ci := 12) (i := 64) (as := [.int 6]) (r := []) (rv := some (.int r47)) (σ1 := mSS M) ⟨227, by decide +kernel⟩ rfl rfl rfl rfl (Mo_is_r N 6 M (d + 2) q46) ?_
    have b48 := mBool rfl (Mo_is_r N 6 M (d + 2) q46)
    show mRunF _ _ (29, [some (.ref 64), some (.int x1), none], [.int r47], mSS M)
    refine R_eq (t := 84) ⟨55, by decide +kernel⟩ (fun q => ?_) (fun q => ?_)
    · rw [if_pos q] at h
      refine mRunF.sg (mSl mk_203 45 1) (g := (85, [some (.ref 64), some (.int x1), none], [.ref 64], mSS M)) (by decide +kernel) rfl ?_
      obtain ⟨M50, q49, h⟩ := bV_of h
      refine R_callV (mi := 204) (na := 1) (ci := 12) (i := 64) (as := []) (r := []) (rv := none) (σ1 := mSS M50) ⟨302, by decide +kernel⟩ rfl rfl rfl rfl (Mo_unit_r N M (d + 0) q49) ?_
      show mRunF _ _ (88, [some (.ref 64), some (.int x1), none], [], mSS M50)
      refine mRunF.sg (mSl mk_203 47 2) (g := (92, [some (.ref 64), some (.int x1), none], [.int (M50.1 64 13)], mSS M50)) (by decide +kernel) rfl ?_
      refine R_le (t := 96) ⟨4, by decide +kernel⟩ (fun q => ?_) (fun q => ?_)
      · rw [if_pos q] at h
        exact Mo_expression_96_r hk12 h
      · rw [if_neg q] at h
        cases h
        exact R_vret (by decide +kernel)
    · rw [if_neg q] at h
      refine mRunF.sg (mSl mk_203 17 3) (g := (38, [some (.ref 64), some (.int x1), none], [.int 6, .int (M.1 64 12)], mSS M)) (by decide +kernel) rfl ?_
      refine R_ine (t := 46) ⟨8, by decide +kernel⟩ (fun q => ?_) (fun q => ?_)
      · rw [if_pos q] at h
        refine mRunF.sg (mSl mk_203 21 2) (g := (43, [some (.ref 64), some (.int x1), none], [.int 2, .ref 64], mSS M)) (by decide +kernel) rfl ?_
        obtain ⟨M52, q51, h⟩ := bV_of h
        refine R_callV (mi := 186) (na := 2) (ci := 12) (i := 64) (as := [.int 2]) (r := []) (rv := none) (σ1 := mSS M52) ⟨224, by decide +kernel⟩ rfl rfl rfl rfl (Mo_fail_r N 2 M (d + 2) q51) ?_
        show mRunF _ _ (46, [some (.ref 64), some (.int x1), none], [], mSS M52)
        exact Mo_expression_46_r hk12 (fun y0 y1 hh => @ih y0 y1 hh) h
      · rw [if_neg q] at h
        exact Mo_expression_46_r hk12 (fun y0 y1 hh => @ih y0 y1 hh) h
set_option maxRecDepth 100000 in
set_option maxHeartbeats 4000000 in
theorem Mo_expression_12_r {N d : Nat}   {M' : mS} : ∀ {n : Nat} {x1 : Int32} {x2 : Int32} {M : mS}, Mo_expression_12 N n x1 x2 M = some M' → mRunF (mCd 203) (mEE (mMet mP mTx (d + 3)) (none) none M') (12, [some (.ref 64), some (.int x1), some (.int x2)], [], mSS M) := by
  intro n
  induction n with
  | zero => intro x1 x2 M h; cases h
  | succ n ih =>
    replace ih := @ih
    intro x1 x2 M h
    unfold Mo_expression_12 at h
    refine mRunF.sg (mSl mk_203 8 1) (g := (13, [some (.ref 64), some (.int x1), some (.int x2)], [.int x2], mSS M)) (by decide +kernel) rfl ?_
    refine R_eq (t := 272) ⟨259, by decide +kernel⟩ (fun q => ?_) (fun q => ?_)
    · rw [if_pos q] at h
      cases h
      exact R_vret (by decide +kernel)
    · rw [if_neg q] at h
      refine mRunF.sg (mSl mk_203 10 2) (g := (20, [some (.ref 64), some (.int x1), some (.int x2)], [.int (M.1 64 13)], mSS M)) (by decide +kernel) rfl ?_
      refine R_ne (t := 272) ⟨252, by decide +kernel⟩ (fun q => ?_) (fun q => ?_)
      · rw [if_pos q] at h
        refine mRunF.forget [true, true, false] ?_
        exact Mo_expression_23_r (fun y0 y1 y2 hh => @ih y0 y1 y2 hh) h
      · rw [if_neg q] at h
        cases h
        exact R_vret (by decide +kernel)
set_option maxRecDepth 100000 in
set_option maxHeartbeats 4000000 in
theorem Mo_expression_r (N : Nat)  (M : mS) {M' : mS} (d : Nat) (h : Mo_expression N M = some M') : mMet mP mTx (d + 4) 203 [.ref 64] (mSS M) none (mSS M') := by
  refine mMet_i ⟨Nat.le_refl _, Nat.le_refl _, Nat.le_of_ble_eq_true rfl⟩ ?_
  unfold Mo_expression at h
  show mRunF (mCd 203) (mEE (mMet mP mTx (d + 3)) (none) none M') (0, [some (.ref 64), none, none], [], mSS M)
  refine mRunF.sg (mSl mk_203 0 3) (g := (5, [some (.ref 64), none, none], [], mSS (mWI M 64 44 0))) (by decide +kernel) rfl ?_
  obtain ⟨M53, hv, h⟩ := nxt_ex h
  rw [← hv]
  clear hv
  refine mRunF.sg (mSl mk_203 3 3) (g := (10, [some (.ref 64), some (.int (M53.1 64 12)), none], [], mSS M53)) (by decide +kernel) rfl ?_
  obtain ⟨v54, hv, h⟩ := nxt_ex h
  rw [← hv]
  clear hv
  refine mRunF.sg (mSl mk_203 6 2) (g := (12, [some (.ref 64), some (.int v54), some (.int 1)], [], mSS M53)) (by decide +kernel) rfl ?_
  exact Mo_expression_12_r h
set_option maxRecDepth 100000 in
set_option maxHeartbeats 4000000 in
theorem Mo_term_24_r {N d : Nat}  {M : mS}  {M' : mS} (h : Mo_term_24 N M = some M') : mRunF (mCd 200) (mEE (mMet mP mTx (d + 4)) (none) none M') (24, [some (.ref 64)], [], mSS M) := by
  unfold Mo_term_24 at h
  refine mRunF.sg (mSl mk_200 12 6) (g := (36, [some (.ref 64)], [.int (M.1 64 40), .int (M.1 64 34), .ref 89], mSS M)) (by decide +kernel) rfl ?_
  obtain ⟨g1, h⟩ := grd_of h
  refine R_iast (by decide +kernel) rfl g1 ?_
  obtain ⟨M2, hv, h⟩ := nxt_ex h
  rw [← hv]
  clear hv
  refine mRunF.sg (mSl mk_200 19 6) (g := (47, [some (.ref 64)], [], mSS (mWI M2 64 34 ((M2.1 64 34) + 1)))) (by decide +kernel) rfl ?_
  obtain ⟨M3, hv, h⟩ := nxt_ex h
  rw [← hv]
  clear hv
  cases h
  exact R_vret (by decide +kernel)
set_option maxRecDepth 100000 in
set_option maxHeartbeats 4000000 in
theorem Mo_term_r (N : Nat)  (M : mS) {M' : mS} (d : Nat) (h : Mo_term N M = some M') : mMet mP mTx (d + 5) 200 [.ref 64] (mSS M) none (mSS M') := by
  refine mMet_i ⟨Nat.le_refl _, Nat.le_refl _, Nat.le_of_ble_eq_true rfl⟩ ?_
  unfold Mo_term at h
  show mRunF (mCd 200) (mEE (mMet mP mTx (d + 4)) (none) none M') (0, [some (.ref 64)], [], mSS M)
  refine mRunF.sg (mSl mk_200 0 6) (g := (12, [some (.ref 64)], [.int (M.1 64 40), .int (M.1 64 34), .ref 88], mSS M)) (by decide +kernel) rfl ?_
  obtain ⟨g4, h⟩ := grd_of h
  refine R_iast (by decide +kernel) rfl g4 ?_
  obtain ⟨M5, hv, h⟩ := nxt_ex h
  rw [← hv]
  clear hv
  refine mRunF.sg (mSl mk_200 7 2) (g := (17, [some (.ref 64)], [.int (M5.1 64 13)], mSS M5)) (by decide +kernel) rfl ?_
  refine R_ne (t := 24) ⟨7, by decide +kernel⟩ (fun q => ?_) (fun q => ?_)
  · rw [if_pos q] at h
    refine mRunF.sg (mSl mk_200 10 1) (g := (21, [some (.ref 64)], [.ref 64], mSS M5)) (by decide +kernel) rfl ?_
    obtain ⟨M7, q6, h⟩ := bV_of h
    refine R_callV (mi := 203) (na := 1) (ci := 12) (i := 64) (as := []) (r := []) (rv := none) (σ1 := mSS M7) ⟨290, by decide +kernel⟩ rfl rfl rfl rfl (Mo_expression_r N M5 (d + 0) q6) ?_
    show mRunF _ _ (24, [some (.ref 64)], [], mSS M7)
    exact Mo_term_24_r h
  · rw [if_neg q] at h
    exact Mo_term_24_r h
set_option maxRecDepth 100000 in
set_option maxHeartbeats 4000000 in
theorem Mo_tellLaw_129_r {N d : Nat}  {M : mS} {x1 : Int32} {x2 : Int32} {M' : mS} (h : Mo_tellLaw_129 N x1 x2 M = some M') : mRunF (mCd 199) (mEE (mMet mP mTx (d + 5)) (none) none M') (129, [some (.ref 64), some (.int x1), some (.int x2), none], [], mSS M) := by
  unfold Mo_tellLaw_129 at h
  refine mRunF.sg (mSl mk_199 67 5) (g := (138, [some (.ref 64), some (.int x1), some (.int x2), none], [.int 0, .int (M.1 64 34), .ref 85], mSS M)) (by decide +kernel) rfl ?_
  obtain ⟨g1, h⟩ := grd_of h
  refine R_zast (by decide +kernel) rfl g1 ?_
  obtain ⟨M2, hv, h⟩ := nxt_ex h
  rw [← hv]
  clear hv
  refine mRunF.sg (mSl mk_199 73 1) (g := (140, [some (.ref 64), some (.int x1), some (.int x2), none], [.ref 64], mSS M2)) (by decide +kernel) rfl ?_
  obtain ⟨M4, q3, h⟩ := bV_of h
  refine R_callV (mi := 200) (na := 1) (ci := 12) (i := 64) (as := []) (r := []) (rv := none) (σ1 := mSS M4) ⟨293, by decide +kernel⟩ rfl rfl rfl rfl (Mo_term_r N M2 (d + 0) q3) ?_
  show mRunF _ _ (143, [some (.ref 64), some (.int x1), some (.int x2), none], [], mSS M4)
  refine mRunF.sg (mSl mk_199 75 2) (g := (145, [some (.ref 64), some (.int x1), some (.int x2), none], [.int 4, .ref 64], mSS M4)) (by decide +kernel) rfl ?_
  obtain ⟨M6, q5, h⟩ := bV_of h
  refine R_callV (mi := 189) (na := 2) (ci := 12) (i := 64) (as := [.int 4]) (r := []) (rv := none) (σ1 := mSS M6) ⟨267, by decide +kernel⟩ rfl rfl rfl rfl (Mo_must_r N 4 M4 (d + 2) q5) ?_
  show mRunF _ _ (148, [some (.ref 64), some (.int x1), some (.int x2), none], [], mSS M6)
  refine mRunF.sg (mSl mk_199 78 2) (g := (152, [some (.ref 64), some (.int x1), some (.int x2), none], [.int (M6.1 64 13)], mSS M6)) (by decide +kernel) rfl ?_
  refine R_le (t := 156) ⟨4, by decide +kernel⟩ (fun q => ?_) (fun q => ?_)
  · rw [if_pos q] at h
    refine mRunF.sg (mSl mk_199 82 9) (g := (169, [some (.ref 64), some (.int x1), some (.int x2), none], [.int x2, .int ((4 * (M6.1 64 19)) + x1), .ref 83], mSS M6)) (by decide +kernel) rfl ?_
    obtain ⟨g7, h⟩ := grd_of h
    refine R_iast (by decide +kernel) rfl g7 ?_
    obtain ⟨M8, hv, h⟩ := nxt_ex h
    rw [← hv]
    clear hv
    refine mRunF.sg (mSl mk_199 92 10) (g := (186, [some (.ref 64), some (.int x1), some (.int x2), none], [.int (M8.1 64 34), .int ((4 * (M8.1 64 19)) + x1), .ref 84], mSS M8)) (by decide +kernel) rfl ?_
    obtain ⟨g9, h⟩ := grd_of h
    refine R_iast (by decide +kernel) rfl g9 ?_
    obtain ⟨M10, hv, h⟩ := nxt_ex h
    rw [← hv]
    clear hv
    cases h
    exact R_vret (by decide +kernel)
  · rw [if_neg q] at h
    cases h
    exact R_vret (by decide +kernel)
set_option maxRecDepth 100000 in
set_option maxHeartbeats 4000000 in
theorem Mo_tellLaw_110_r {N d : Nat} {k12 : Int32 → Int32 → Int32 → mS → Option mS} {M : mS} {x1 : Int32} {x2 : Int32} {x3 : Int32} {M' : mS} (hk12 : ∀ (x1 : Int32) (x2 : Int32) (x3 : Int32) (M : mS), k12 x1 x2 x3 M = some M' → mRunF (mCd 199) (mEE (mMet mP mTx (d + 5)) (none) none M') (12, [some (.ref 64), some (.int x1), some (.int x2), some (.int x3)], [], mSS M)) (h : Mo_tellLaw_110 N k12 x1 x2 x3 M = some M') : mRunF (mCd 199) (mEE (mMet mP mTx (d + 5)) (none) none M') (110, [some (.ref 64), some (.int x1), some (.int x2), some (.int x3)], [], mSS M) := by
  unfold Mo_tellLaw_110 at h
  refine mRunF.sg (mSl mk_199 58 2) (g := (113, [some (.ref 64), some (.int x1), some (.int x2), some (.int x3)], [.int 29, .ref 64], mSS M)) (by decide +kernel) rfl ?_
  obtain ⟨M12, q11, h⟩ := bV_of h
  refine R_callV (mi := 189) (na := 2) (ci := 12) (i := 64) (as := [.int 29]) (r := []) (rv := none) (σ1 := mSS M12) ⟨267, by decide +kernel⟩ rfl rfl rfl rfl (Mo_must_r N 29 M (d + 2) q11) ?_
  show mRunF _ _ (116, [some (.ref 64), some (.int x1), some (.int x2), some (.int x3)], [], mSS M12)
  refine mRunF.sg (mSl mk_199 61 1) (g := (117, [some (.ref 64), some (.int x1), some (.int x2), some (.int x3)], [.ref 64], mSS M12)) (by decide +kernel) rfl ?_
  obtain ⟨M14, q13, h⟩ := bV_of h
  refine R_callV (mi := 200) (na := 1) (ci := 12) (i := 64) (as := []) (r := []) (rv := none) (σ1 := mSS M14) ⟨293, by decide +kernel⟩ rfl rfl rfl rfl (Mo_term_r N M12 (d + 0) q13) ?_
  show mRunF _ _ (120, [some (.ref 64), some (.int x1), some (.int x2), some (.int x3)], [], mSS M14)
  refine mRunF.sg (mSl mk_199 63 2) (g := (123, [some (.ref 64), some (.int x1), some (.int x2), some (.int x3)], [.int 30, .ref 64], mSS M14)) (by decide +kernel) rfl ?_
  obtain ⟨M16, q15, h⟩ := bV_of h
  refine R_callV (mi := 189) (na := 2) (ci := 12) (i := 64) (as := [.int 30]) (r := []) (rv := none) (σ1 := mSS M16) ⟨267, by decide +kernel⟩ rfl rfl rfl rfl (Mo_must_r N 30 M14 (d + 2) q15) ?_
  show mRunF _ _ (126, [some (.ref 64), some (.int x1), some (.int x2), some (.int x3)], [], mSS M16)
  refine mRunF.sg (mSl mk_199 66 1) (g := (12, [some (.ref 64), some (.int x1), some (.int x2), some (.int x3)], [], mSS M16)) (by decide +kernel) rfl ?_
  exact hk12 _ _ _ _ h
set_option maxRecDepth 100000 in
set_option maxHeartbeats 4000000 in
theorem Mo_tellLaw_38_r {N d : Nat} {k12 : Int32 → Int32 → Int32 → mS → Option mS} {M : mS} {x1 : Int32} {x2 : Int32} {x3 : Int32} {M' : mS} (hk12 : ∀ (x1 : Int32) (x2 : Int32) (x3 : Int32) (M : mS), k12 x1 x2 x3 M = some M' → mRunF (mCd 199) (mEE (mMet mP mTx (d + 5)) (none) none M') (12, [some (.ref 64), some (.int x1), some (.int x2), some (.int x3)], [], mSS M)) (h : Mo_tellLaw_38 N k12 x1 x2 x3 M = some M') : mRunF (mCd 199) (mEE (mMet mP mTx (d + 5)) (none) none M') (38, [some (.ref 64), some (.int x1), some (.int x2), some (.int x3)], [], mSS M) := by
  unfold Mo_tellLaw_38 at h
  refine mRunF.sg (mSl mk_199 21 2) (g := (42, [some (.ref 64), some (.int x1), some (.int x2), some (.int x3)], [.int (M.1 64 13)], mSS M)) (by decide +kernel) rfl ?_
  refine R_le (t := 46) ⟨4, by decide +kernel⟩ (fun q => ?_) (fun q => ?_)
  · rw [if_pos q] at h
    refine mRunF.sg (mSl mk_199 25 2) (g := (50, [some (.ref 64), some (.int x1), some (.int x2), some (.int (x3 + 1))], [.ref 64], mSS M)) (by decide +kernel) rfl ?_
    obtain ⟨M18, q17, h⟩ := bV_of h
    refine R_callV (mi := 188) (na := 1) (ci := 12) (i := 64) (as := []) (r := []) (rv := none) (σ1 := mSS M18) ⟨230, by decide +kernel⟩ rfl rfl rfl rfl (Mo_goesOn_r N M (d + 3) q17) ?_
    show mRunF _ _ (53, [some (.ref 64), some (.int x1), some (.int x2), some (.int (x3 + 1))], [], mSS M18)
    refine mRunF.sg (mSl mk_199 28 5) (g := (62, [some (.ref 64), some (.int x1), some (.int x2), some (.int (x3 + 1))], [.int 1, .int (M18.1 64 34), .ref 85], mSS M18)) (by decide +kernel) rfl ?_
    obtain ⟨g19, h⟩ := grd_of h
    refine R_zast (by decide +kernel) rfl g19 ?_
    obtain ⟨M20, hv, h⟩ := nxt_ex h
    rw [← hv]
    clear hv
    refine mRunF.sg (mSl mk_199 34 6) (g := (75, [some (.ref 64), some (.int x1), some (.int x2), some (.int (x3 + 1))], [.int (M20.1 64 40), .int (M20.1 64 34), .ref 86], mSS M20)) (by decide +kernel) rfl ?_
    obtain ⟨g21, h⟩ := grd_of h
    refine R_iast (by decide +kernel) rfl g21 ?_
    obtain ⟨M22, hv, h⟩ := nxt_ex h
    rw [← hv]
    clear hv
    refine mRunF.sg (mSl mk_199 41 1) (g := (77, [some (.ref 64), some (.int x1), some (.int x2), some (.int (x3 + 1))], [.ref 64], mSS M22)) (by decide +kernel) rfl ?_
    obtain ⟨M24, q23, h⟩ := bV_of h
    refine R_callV (mi := 203) (na := 1) (ci := 12) (i := 64) (as := []) (r := []) (rv := none) (σ1 := mSS M24) ⟨290, by decide +kernel⟩ rfl rfl rfl rfl (Mo_expression_r N M22 (d + 1) q23) ?_
    show mRunF _ _ (80, [some (.ref 64), some (.int x1), some (.int x2), some (.int (x3 + 1))], [], mSS M24)
    refine mRunF.sg (mSl mk_199 43 2) (g := (83, [some (.ref 64), some (.int x1), some (.int x2), some (.int (x3 + 1))], [.int 13, .ref 64], mSS M24)) (by decide +kernel) rfl ?_
    obtain ⟨M26, q25, h⟩ := bV_of h
    refine R_callV (mi := 189) (na := 2) (ci := 12) (i := 64) (as := [.int 13]) (r := []) (rv := none) (σ1 := mSS M26) ⟨267, by decide +kernel⟩ rfl rfl rfl rfl (Mo_must_r N 13 M24 (d + 2) q25) ?_
    show mRunF _ _ (86, [some (.ref 64), some (.int x1), some (.int x2), some (.int (x3 + 1))], [], mSS M26)
    refine mRunF.sg (mSl mk_199 46 6) (g := (98, [some (.ref 64), some (.int x1), some (.int x2), some (.int (x3 + 1))], [.int (M26.1 64 40), .int (M26.1 64 34), .ref 87], mSS M26)) (by decide +kernel) rfl ?_
    obtain ⟨g27, h⟩ := grd_of h
    refine R_iast (by decide +kernel) rfl g27 ?_
    obtain ⟨M28, hv, h⟩ := nxt_ex h
    rw [← hv]
    clear hv
    refine mRunF.sg (mSl mk_199 53 2) (g := (103, [some (.ref 64), some (.int x1), some (.int x2), some (.int (x3 + 1))], [.int (M28.1 64 13)], mSS M28)) (by decide +kernel) rfl ?_
    refine R_ne (t := 110) ⟨7, by decide +kernel⟩ (fun q => ?_) (fun q => ?_)
    · rw [if_pos q] at h
      refine mRunF.sg (mSl mk_199 56 1) (g := (107, [some (.ref 64), some (.int x1), some (.int x2), some (.int (x3 + 1))], [.ref 64], mSS M28)) (by decide +kernel) rfl ?_
      obtain ⟨M30, q29, h⟩ := bV_of h
      refine R_callV (mi := 203) (na := 1) (ci := 12) (i := 64) (as := []) (r := []) (rv := none) (σ1 := mSS M30) ⟨290, by decide +kernel⟩ rfl rfl rfl rfl (Mo_expression_r N M28 (d + 1) q29) ?_
      show mRunF _ _ (110, [some (.ref 64), some (.int x1), some (.int x2), some (.int (x3 + 1))], [], mSS M30)
      exact Mo_tellLaw_110_r hk12 h
    · rw [if_neg q] at h
      exact Mo_tellLaw_110_r hk12 h
  · rw [if_neg q] at h
    cases h
    exact R_vret (by decide +kernel)
set_option maxRecDepth 100000 in
set_option maxHeartbeats 4000000 in
theorem Mo_tellLaw_12_r {N d : Nat}   {M' : mS} : ∀ {n : Nat} {x1 : Int32} {x2 : Int32} {x3 : Int32} {M : mS}, Mo_tellLaw_12 N n x1 x2 x3 M = some M' → mRunF (mCd 199) (mEE (mMet mP mTx (d + 5)) (none) none M') (12, [some (.ref 64), some (.int x1), some (.int x2), some (.int x3)], [], mSS M) := by
  intro n
  induction n with
  | zero => intro x1 x2 x3 M h; cases h
  | succ n ih =>
    replace ih := @ih
    intro x1 x2 x3 M h
    unfold Mo_tellLaw_12 at h
    refine mRunF.sg (mSl mk_199 8 2) (g := (16, [some (.ref 64), some (.int x1), some (.int x2), some (.int x3)], [.int (M.1 64 13)], mSS M)) (by decide +kernel) rfl ?_
    refine R_ne (t := 129) ⟨113, by decide +kernel⟩ (fun q => ?_) (fun q => ?_)
    · rw [if_pos q] at h
      refine mRunF.sg (mSl mk_199 11 2) (g := (22, [some (.ref 64), some (.int x1), some (.int x2), some (.int x3)], [.int 28, .ref 64], mSS M)) (by decide +kernel) rfl ?_
      obtain ⟨r32, q31, h⟩ := bR_of h
      refine R_callV (mi := 185) (na := 2) (ci := 12) (i := 64) (as := [.int 28]) (r := []) (rv := some (.int r32)) (σ1 := mSS M) ⟨227, by decide +kernel⟩ rfl rfl rfl rfl (Mo_is_r N 28 M (d + 4) q31) ?_
      have b33 := mBool rfl (Mo_is_r N 28 M (d + 4) q31)
      show mRunF _ _ (25, [some (.ref 64), some (.int x1), some (.int x2), some (.int x3)], [.int r32], mSS M)
      refine R_eq (t := 129) ⟨104, by decide +kernel⟩ (fun q => ?_) (fun q => ?_)
      · rw [if_pos q] at h
        refine mRunF.forget [true, true, true, false] ?_
        exact Mo_tellLaw_129_r h
      · rw [if_neg q] at h
        refine mRunF.sg (mSl mk_199 15 2) (g := (30, [some (.ref 64), some (.int x1), some (.int x2), some (.int x3)], [.int 4, .int x3], mSS M)) (by decide +kernel) rfl ?_
        refine R_ine (t := 38) ⟨8, by decide +kernel⟩ (fun q => ?_) (fun q => ?_)
        · rw [if_pos q] at h
          refine mRunF.sg (mSl mk_199 18 2) (g := (35, [some (.ref 64), some (.int x1), some (.int x2), some (.int x3)], [.int 2, .ref 64], mSS M)) (by decide +kernel) rfl ?_
          obtain ⟨M35, q34, h⟩ := bV_of h
          refine R_callV (mi := 186) (na := 2) (ci := 12) (i := 64) (as := [.int 2]) (r := []) (rv := none) (σ1 := mSS M35) ⟨224, by decide +kernel⟩ rfl rfl rfl rfl (Mo_fail_r N 2 M (d + 4) q34) ?_
          show mRunF _ _ (38, [some (.ref 64), some (.int x1), some (.int x2), some (.int x3)], [], mSS M35)
          exact Mo_tellLaw_38_r (fun y0 y1 y2 y3 hh => @ih y0 y1 y2 y3 hh) h
        · rw [if_neg q] at h
          exact Mo_tellLaw_38_r (fun y0 y1 y2 y3 hh => @ih y0 y1 y2 y3 hh) h
    · rw [if_neg q] at h
      refine mRunF.forget [true, true, true, false] ?_
      exact Mo_tellLaw_129_r h
set_option maxRecDepth 100000 in
set_option maxHeartbeats 4000000 in
theorem Mo_tellLaw_r (N : Nat) (a0 : Int32) (M : mS) {M' : mS} (d : Nat) (h : Mo_tellLaw N a0 M = some M') : mMet mP mTx (d + 6) 199 [.ref 64, .int a0] (mSS M) none (mSS M') := by
  refine mMet_i ⟨Nat.le_refl _, Nat.le_refl _, Nat.le_of_ble_eq_true rfl⟩ ?_
  unfold Mo_tellLaw at h
  show mRunF (mCd 199) (mEE (mMet mP mTx (d + 5)) (none) none M') (0, [some (.ref 64), some (.int a0), none, none], [], mSS M)
  refine mRunF.sg (mSl mk_199 0 2) (g := (2, [some (.ref 64), some (.int a0), none, none], [.int 5, .ref 64], mSS M)) (by decide +kernel) rfl ?_
  obtain ⟨M37, q36, h⟩ := bV_of h
  refine R_callV (mi := 189) (na := 2) (ci := 12) (i := 64) (as := [.int 5]) (r := []) (rv := none) (σ1 := mSS M37) ⟨267, by decide +kernel⟩ rfl rfl rfl rfl (Mo_must_r N 5 M (d + 2) q36) ?_
  show mRunF _ _ (5, [some (.ref 64), some (.int a0), none, none], [], mSS M37)
  refine mRunF.sg (mSl mk_199 3 3) (g := (10, [some (.ref 64), some (.int a0), some (.int (M37.1 64 34)), none], [], mSS M37)) (by decide +kernel) rfl ?_
  obtain ⟨v38, hv, h⟩ := nxt_ex h
  rw [← hv]
  clear hv
  refine mRunF.sg (mSl mk_199 6 2) (g := (12, [some (.ref 64), some (.int a0), some (.int v38), some (.int 0)], [], mSS M37)) (by decide +kernel) rfl ?_
  exact Mo_tellLaw_12_r h
