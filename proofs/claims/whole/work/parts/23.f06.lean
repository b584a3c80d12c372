/-! METHODS as functions, 6: printed by program -/
set_option maxRecDepth 100000 in
set_option maxHeartbeats 4000000 in
theorem Gm_hoursFrom_s2_96_r {N d : Nat} {k20 : Int32 → Int32 → mS → Option (Int32 × mS)} {M : mS} {x2 : Int32} {x3 : Int32} {r : Int32} {M' : mS} (hk20 : ∀ (x2 : Int32) (x3 : Int32) (M : mS), k20 x2 x3 M = some (r, M') → mRunF (mCd 2) (mEE (mMet mP mTx (d + 8)) (some .int) (some (.int r)) M') (20, [some (.ref 50), some (.int 2), some (.int x2), some (.int x3), none, none], [], mSS M)) (h : Gm_hoursFrom_s2_96 N k20 x2 x3 M = some (r, M')) : mRunF (mCd 2) (mEE (mMet mP mTx (d + 8)) (some .int) (some (.int r)) M') (96, [some (.ref 50), some (.int 2), some (.int x2), some (.int x3), none, none], [], mSS M) := by
  unfold Gm_hoursFrom_s2_96 at h
  refine mRunF.sg (mSl mk_2 57 2) (g := (20, [some (.ref 50), some (.int 2), some (.int x2), some (.int (x3 + 1)), none, none], [], mSS M)) (by decide +kernel) rfl ?_
  exact hk20 _ _ _ h
set_option maxRecDepth 100000 in
set_option maxHeartbeats 4000000 in
theorem Gm_hoursFrom_s2_84_r {N d : Nat} {k20 : Int32 → Int32 → mS → Option (Int32 × mS)} {M : mS} {x3 : Int32} {x4 : Int32} {r : Int32} {M' : mS} (hk20 : ∀ (x2 : Int32) (x3 : Int32) (M : mS), k20 x2 x3 M = some (r, M') → mRunF (mCd 2) (mEE (mMet mP mTx (d + 8)) (some .int) (some (.int r)) M') (20, [some (.ref 50), some (.int 2), some (.int x2), some (.int x3), none, none], [], mSS M)) (h : Gm_hoursFrom_s2_84 N k20 x3 x4 M = some (r, M')) : mRunF (mCd 2) (mEE (mMet mP mTx (d + 8)) (some .int) (some (.int r)) M') (84, [some (.ref 50), some (.int 2), none, some (.int x3), some (.int x4), none], [], mSS M) := by
  unfold Gm_hoursFrom_s2_84 at h
  refine mRunF.sg (mSl mk_2 50 3) (g := (88, [some (.ref 50), some (.int 2), some (.int x4), some (.int x3), some (.int x4), none], [.int 2], mSS M)) (by decide +kernel) rfl ?_
  refine R_ne (t := 96) ⟨8, by decide +kernel⟩ (fun q => absurd q (by decide)) (fun _ => ?_)
  refine mRunF.forget [true, true, true, true, false, true] ?_
  exact Gm_hoursFrom_s2_96_r hk20 h
set_option maxRecDepth 100000 in
set_option maxHeartbeats 4000000 in
theorem Gm_hoursFrom_s2_72_r {N d : Nat} {k20 : Int32 → Int32 → mS → Option (Int32 × mS)} {M : mS} {x2 : Int32} {x3 : Int32} {x4 : Int32} {z0 : Int32} {r : Int32} {M' : mS} (hk20 : ∀ (x2 : Int32) (x3 : Int32) (M : mS), k20 x2 x3 M = some (r, M') → mRunF (mCd 2) (mEE (mMet mP mTx (d + 8)) (some .int) (some (.int r)) M') (20, [some (.ref 50), some (.int 2), some (.int x2), some (.int x3), none, none], [], mSS M)) (h : Gm_hoursFrom_s2_72 N k20 x2 x3 x4 z0 M = some (r, M')) : mRunF (mCd 2) (mEE (mMet mP mTx (d + 8)) (some .int) (some (.int r)) M') (72, [some (.ref 50), some (.int 2), some (.int x2), some (.int x3), some (.int x4), none], [.int z0], mSS M) := by
  unfold Gm_hoursFrom_s2_72 at h
  refine mRunF.sg (mSl mk_2 44 3) (g := (76, [some (.ref 50), some (.int 2), some (.int x2), some (.int x3), some (.int x4), some (.int z0)], [.int (-1), .int x2], mSS M)) (by decide +kernel) rfl ?_
  refine R_ieq (t := 84) ⟨8, by decide +kernel⟩ (fun q => ?_) (fun q => ?_)
  · rw [if_pos q] at h
    refine mRunF.forget [true, true, false, true, true, false] ?_
    exact Gm_hoursFrom_s2_84_r hk20 h
  · rw [if_neg q] at h
    refine mRunF.sg (mSl mk_2 48 1) (g := (81, [some (.ref 50), some (.int 2), some (.int x2), some (.int x3), some (.int x4), some (.int z0)], [.int z0], mSS M)) (by decide +kernel) rfl ?_
    refine R_eq (t := 96) ⟨15, by decide +kernel⟩ (fun q => ?_) (fun q => ?_)
    · rw [if_pos q] at h
      refine mRunF.forget [true, true, true, true, false, false] ?_
      exact Gm_hoursFrom_s2_96_r hk20 h
    · rw [if_neg q] at h
      refine mRunF.forget [true, true, false, true, true, false] ?_
      exact Gm_hoursFrom_s2_84_r hk20 h
set_option maxRecDepth 100000 in
set_option maxHeartbeats 4000000 in
theorem Gm_hoursFrom_s2_20_r {N d : Nat}   {r : Int32} {M' : mS} : ∀ {n : Nat} {x2 : Int32} {x3 : Int32} {M : mS}, Gm_hoursFrom_s2_20 N n x2 x3 M = some (r, M') → mRunF (mCd 2) (mEE (mMet mP mTx (d + 8)) (some .int) (some (.int r)) M') (20, [some (.ref 50), some (.int 2), some (.int x2), some (.int x3), none, none], [], mSS M) := by
  intro n
  induction n with
  | zero => intro x2 x3 M h; cases h
  | succ n ih =>
    replace ih := @ih
    intro x2 x3 M h
    unfold Gm_hoursFrom_s2_20 at h
    refine mRunF.sg (mSl mk_2 13 2) (g := (22, [some (.ref 50), some (.int 2), some (.int x2), some (.int x3), none, none], [.int 2, .int x3], mSS M)) (by decide +kernel) rfl ?_
    refine R_igt (t := 102) ⟨80, by decide +kernel⟩ (fun q => ?_) (fun q => ?_)
    · rw [if_pos q] at h
      refine mRunF.sg (mSl mk_2 59 1) (g := (103, [some (.ref 50), some (.int 2), some (.int x2), some (.int x3), none, none], [.int x2], mSS M)) (by decide +kernel) rfl ?_
      cases h
      exact R_iret (by decide +kernel)
    · rw [if_neg q] at h
      refine mRunF.sg (mSl mk_2 16 3) (g := (28, [some (.ref 50), some (.int 2), some (.int x2), some (.int x3), none, none], [.int x3, .int 2, .ref 50], mSS M)) (by decide +kernel) rfl ?_
      obtain ⟨r3, M2, q1, h⟩ := bW_of h
      refine R_callV (mi := 3) (na := 3) (ci := 0) (i := 50) (as := [.int 2, .int x3]) (r := []) (rv := some (.int r3)) (σ1 := mSS M2) ⟨47, by decide +kernel⟩ rfl rfl rfl rfl (Gm_tryMove_s2_r N x3 M (d + 3) q1) ?_
      show mRunF _ _ (31, [some (.ref 50), some (.int 2), some (.int x2), some (.int x3), none, none], [.int r3], mSS M2)
      refine mRunF.sg (mSl mk_2 20 4) (g := (35, [some (.ref 50), some (.int 2), some (.int x2), some (.int x3), none, none], [.int (2 + 1), .ref 50, .int r3], mSS M2)) (by decide +kernel) rfl ?_
      obtain ⟨r6, M5, q4, h⟩ := bW_of h
      refine R_callS (mi := 2) (na := 2) (as := [.ref 50, .int (2 + 1)]) (r := [.int r3]) (rv := some (.int r6)) (σ1 := mSS M5) ⟨43, by decide +kernel⟩ rfl rfl rfl (Gm_hoursFrom_s3_r N M2 (d + 0) q4) ?_
      show mRunF _ _ (38, [some (.ref 50), some (.int 2), some (.int x2), some (.int x3), none, none], [.int r6, .int r3], mSS M5)
      refine mRunF.sg (mSl mk_2 25 2) (g := (41, [some (.ref 50), some (.int 2), some (.int x2), some (.int x3), some (.int (r3 + r6)), none], [], mSS M5)) (by decide +kernel) rfl ?_
      obtain ⟨v7, hv, h⟩ := nxt_ex h
      rw [← hv]
      clear hv
      refine mRunF.sg (mSl mk_2 27 2) (g := (43, [some (.ref 50), some (.int 2), some (.int x2), some (.int x3), some (.int v7), none], [.int 2, .int 2], mSS M5)) (by decide +kernel) rfl ?_
      refine R_rem (by decide +kernel) (by decide) ?_
      refine R_ne (t := 61) ⟨17, by decide +kernel⟩ (fun _ => ?_) (fun q => absurd (by decide) q)
      refine mRunF.sg (mSl mk_2 31 2) (g := (50, [some (.ref 50), some (.int 2), some (.int x2), some (.int x3), some (.int v7), none], [.int x2, .int v7], mSS M5)) (by decide +kernel) rfl ?_
      refine R_ile (t := 57) ⟨7, by decide +kernel⟩ (fun q => ?_) (fun q => ?_)
      · rw [if_pos q] at h
        refine mRunF.sg (mSl mk_2 36 2) (g := (72, [some (.ref 50), some (.int 2), some (.int x2), some (.int x3), some (.int v7), none], [.int 0], mSS M5)) (by decide +kernel) rfl ?_
        exact Gm_hoursFrom_s2_72_r (fun y0 y1 y2 hh => @ih y0 y1 y2 hh) h
      · rw [if_neg q] at h
        refine mRunF.sg (mSl mk_2 34 2) (g := (72, [some (.ref 50), some (.int 2), some (.int x2), some (.int x3), some (.int v7), none], [.int 1], mSS M5)) (by decide +kernel) rfl ?_
        exact Gm_hoursFrom_s2_72_r (fun y0 y1 y2 hh => @ih y0 y1 y2 hh) h
set_option maxRecDepth 100000 in
set_option maxHeartbeats 4000000 in
theorem Gm_hoursFrom_s2_r (N : Nat)  (M : mS) {r : Int32} {M' : mS} (d : Nat) (h : Gm_hoursFrom_s2 N M = some (r, M')) : mMet mP mTx (d + 9) 2 [.ref 50, .int 2] (mSS M) (some (.int r)) (mSS M') := by
  refine mMet_i ⟨Nat.le_refl _, Nat.le_refl _, Nat.le_of_ble_eq_true rfl⟩ ?_
  unfold Gm_hoursFrom_s2 at h
  show mRunF (mCd 2) (mEE (mMet mP mTx (d + 8)) (some .int) (some (.int r)) M') (0, [some (.ref 50), some (.int 2), none, none, none, none], [], mSS M)
  refine mRunF.sg (mSl mk_2 0 3) (g := (5, [some (.ref 50), some (.int 2), none, none, none, none], [.int (M.1 50 5), .int 2], mSS M)) (by decide +kernel) rfl ?_
  refine R_ige (t := 14) ⟨9, by decide +kernel⟩ (fun q => ?_) (fun q => ?_)
  · rw [if_pos q] at h
    refine mRunF.sg (mSl mk_2 7 1) (g := (15, [some (.ref 50), some (.int 2), none, none, none, none], [.int 0], mSS M)) (by decide +kernel) rfl ?_
    cases h
    exact R_iret (by decide +kernel)
  · rw [if_neg q] at h
    refine mRunF.sg (mSl mk_2 4 2) (g := (11, [some (.ref 50), some (.int 2), none, none, none, none], [.int 6, .int 2], mSS M)) (by decide +kernel) rfl ?_
    refine R_ilt (t := 16) ⟨5, by decide +kernel⟩ (fun _ => ?_) (fun q => absurd (by decide) q)
    refine mRunF.sg (mSl mk_2 9 4) (g := (20, [some (.ref 50), some (.int 2), some (.int (-1)), some (.int 0), none, none], [], mSS M)) (by decide +kernel) rfl ?_
    exact Gm_hoursFrom_s2_20_r h
set_option maxRecDepth 100000 in
set_option maxHeartbeats 4000000 in
theorem Gm_hoursFrom_s1_96_r {N d : Nat} {k20 : Int32 → Int32 → mS → Option (Int32 × mS)} {M : mS} {x2 : Int32} {x3 : Int32} {r : Int32} {M' : mS} (hk20 : ∀ (x2 : Int32) (x3 : Int32) (M : mS), k20 x2 x3 M = some (r, M') → mRunF (mCd 2) (mEE (mMet mP mTx (d + 9)) (some .int) (some (.int r)) M') (20, [some (.ref 50), some (.int 1), some (.int x2), some (.int x3), none, none], [], mSS M)) (h : Gm_hoursFrom_s1_96 N k20 x2 x3 M = some (r, M')) : mRunF (mCd 2) (mEE (mMet mP mTx (d + 9)) (some .int) (some (.int r)) M') (96, [some (.ref 50), some (.int 1), some (.int x2), some (.int x3), none, none], [], mSS M) := by
  unfold Gm_hoursFrom_s1_96 at h
  refine mRunF.sg (mSl mk_2 57 2) (g := (20, [some (.ref 50), some (.int 1), some (.int x2), some (.int (x3 + 1)), none, none], [], mSS M)) (by decide +kernel) rfl ?_
  exact hk20 _ _ _ h
set_option maxRecDepth 100000 in
set_option maxHeartbeats 4000000 in
theorem Gm_hoursFrom_s1_84_r {N d : Nat} {k20 : Int32 → Int32 → mS → Option (Int32 × mS)} {M : mS} {x3 : Int32} {x4 : Int32} {r : Int32} {M' : mS} (hk20 : ∀ (x2 : Int32) (x3 : Int32) (M : mS), k20 x2 x3 M = some (r, M') → mRunF (mCd 2) (mEE (mMet mP mTx (d + 9)) (some .int) (some (.int r)) M') (20, [some (.ref 50), some (.int 1), some (.int x2), some (.int x3), none, none], [], mSS M)) (h : Gm_hoursFrom_s1_84 N k20 x3 x4 M = some (r, M')) : mRunF (mCd 2) (mEE (mMet mP mTx (d + 9)) (some .int) (some (.int r)) M') (84, [some (.ref 50), some (.int 1), none, some (.int x3), some (.int x4), none], [], mSS M) := by
  unfold Gm_hoursFrom_s1_84 at h
  refine mRunF.sg (mSl mk_2 50 3) (g := (88, [some (.ref 50), some (.int 1), some (.int x4), some (.int x3), some (.int x4), none], [.int 1], mSS M)) (by decide +kernel) rfl ?_
  refine R_ne (t := 96) ⟨8, by decide +kernel⟩ (fun q => absurd q (by decide)) (fun _ => ?_)
  refine mRunF.forget [true, true, true, true, false, true] ?_
  exact Gm_hoursFrom_s1_96_r hk20 h
set_option maxRecDepth 100000 in
set_option maxHeartbeats 4000000 in
theorem Gm_hoursFrom_s1_72_r {N d : Nat} {k20 : Int32 → Int32 → mS → Option (Int32 × mS)} {M : mS} {x2 : Int32} {x3 : Int32} {x4 : Int32} {z0 : Int32} {r : Int32} {M' : mS} (hk20 : ∀ (x2 : Int32) (x3 : Int32) (M : mS), k20 x2 x3 M = some (r, M') → mRunF (mCd 2) (mEE (mMet mP mTx (d + 9)) (some .int) (some (.int r)) M') (20, [some (.ref 50), some (.int 1), some (.int x2), some (.int x3), none, none], [], mSS M)) (h : Gm_hoursFrom_s1_72 N k20 x2 x3 x4 z0 M = some (r, M')) : mRunF (mCd 2) (mEE (mMet mP mTx (d + 9)) (some .int) (some (.int r)) M') (72, [some (.ref 50), some (.int 1), some (.int x2), some (.int x3), some (.int x4), none], [.int z0], mSS M) := by
  unfold Gm_hoursFrom_s1_72 at h
  refine mRunF.sg (mSl mk_2 44 3) (g := (76, [some (.ref 50), some (.int 1), some (.int x2), some (.int x3), some (.int x4), some (.int z0)], [.int (-1), .int x2], mSS M)) (by decide +kernel) rfl ?_
  refine R_ieq (t := 84) ⟨8, by decide +kernel⟩ (fun q => ?_) (fun q => ?_)
  · rw [if_pos q] at h
    refine mRunF.forget [true, true, false, true, true, false] ?_
    exact Gm_hoursFrom_s1_84_r hk20 h
  · rw [if_neg q] at h
    refine mRunF.sg (mSl mk_2 48 1) (g := (81, [some (.ref 50), some (.int 1), some (.int x2), some (.int x3), some (.int x4), some (.int z0)], [.int z0], mSS M)) (by decide +kernel) rfl ?_
    refine R_eq (t := 96) ⟨15, by decide +kernel⟩ (fun q => ?_) (fun q => ?_)
    · rw [if_pos q] at h
      refine mRunF.forget [true, true, true, true, false, false] ?_
      exact Gm_hoursFrom_s1_96_r hk20 h
    · rw [if_neg q] at h
      refine mRunF.forget [true, true, false, true, true, false] ?_
      exact Gm_hoursFrom_s1_84_r hk20 h
set_option maxRecDepth 100000 in
set_option maxHeartbeats 4000000 in
theorem Gm_hoursFrom_s1_20_r {N d : Nat}   {r : Int32} {M' : mS} : ∀ {n : Nat} {x2 : Int32} {x3 : Int32} {M : mS}, Gm_hoursFrom_s1_20 N n x2 x3 M = some (r, M') → mRunF (mCd 2) (mEE (mMet mP mTx (d + 9)) (some .int) (some (.int r)) M') (20, [some (.ref 50), some (.int 1), some (.int x2), some (.int x3), none, none], [], mSS M) := by
  intro n
  induction n with
  | zero => intro x2 x3 M h; cases h
  | succ n ih =>
    replace ih := @ih
    intro x2 x3 M h
    unfold Gm_hoursFrom_s1_20 at h
    refine mRunF.sg (mSl mk_2 13 2) (g := (22, [some (.ref 50), some (.int 1), some (.int x2), some (.int x3), none, none], [.int 2, .int x3], mSS M)) (by decide +kernel) rfl ?_
    refine R_igt (t := 102) ⟨80, by decide +kernel⟩ (fun q => ?_) (fun q => ?_)
    · rw [if_pos q] at h
      refine mRunF.sg (mSl mk_2 59 1) (g := (103, [some (.ref 50), some (.int 1), some (.int x2), some (.int x3), none, none], [.int x2], mSS M)) (by decide +kernel) rfl ?_
      cases h
      exact R_iret (by decide +kernel)
    · rw [if_neg q] at h
      refine mRunF.sg (mSl mk_2 16 3) (g := (28, [some (.ref 50), some (.int 1), some (.int x2), some (.int x3), none, none], [.int x3, .int 1, .ref 50], mSS M)) (by decide +kernel) rfl ?_
      obtain ⟨r3, M2, q1, h⟩ := bW_of h
      refine R_callV (mi := 3) (na := 3) (ci := 0) (i := 50) (as := [.int 1, .int x3]) (r := []) (rv := some (.int r3)) (σ1 := mSS M2) ⟨47, by decide +kernel⟩ rfl rfl rfl rfl (Gm_tryMove_s1_r N x3 M (d + 4) q1) ?_
      show mRunF _ _ (31, [some (.ref 50), some (.int 1), some (.int x2), some (.int x3), none, none], [.int r3], mSS M2)
      refine mRunF.sg (mSl mk_2 20 4) (g := (35, [some (.ref 50), some (.int 1), some (.int x2), some (.int x3), none, none], [.int (1 + 1), .ref 50, .int r3], mSS M2)) (by decide +kernel) rfl ?_
      obtain ⟨r6, M5, q4, h⟩ := bW_of h
      refine R_callS (mi := 2) (na := 2) (as := [.ref 50, .int (1 + 1)]) (r := [.int r3]) (rv := some (.int r6)) (σ1 := mSS M5) ⟨43, by decide +kernel⟩ rfl rfl rfl (Gm_hoursFrom_s2_r N M2 (d + 0) q4) ?_
      show mRunF _ _ (38, [some (.ref 50), some (.int 1), some (.int x2), some (.int x3), none, none], [.int r6, .int r3], mSS M5)
      refine mRunF.sg (mSl mk_2 25 2) (g := (41, [some (.ref 50), some (.int 1), some (.int x2), some (.int x3), some (.int (r3 + r6)), none], [], mSS M5)) (by decide +kernel) rfl ?_
      obtain ⟨v7, hv, h⟩ := nxt_ex h
      rw [← hv]
      clear hv
      refine mRunF.sg (mSl mk_2 27 2) (g := (43, [some (.ref 50), some (.int 1), some (.int x2), some (.int x3), some (.int v7), none], [.int 2, .int 1], mSS M5)) (by decide +kernel) rfl ?_
      refine R_rem (by decide +kernel) (by decide) ?_
      refine R_ne (t := 61) ⟨17, by decide +kernel⟩ (fun q => absurd q (by decide)) (fun _ => ?_)
      refine mRunF.sg (mSl mk_2 38 2) (g := (64, [some (.ref 50), some (.int 1), some (.int x2), some (.int x3), some (.int v7), none], [.int x2, .int v7], mSS M5)) (by decide +kernel) rfl ?_
      refine R_ige (t := 71) ⟨7, by decide +kernel⟩ (fun q => ?_) (fun q => ?_)
      · rw [if_pos q] at h
        refine mRunF.sg (mSl mk_2 43 1) (g := (72, [some (.ref 50), some (.int 1), some (.int x2), some (.int x3), some (.int v7), none], [.int 0], mSS M5)) (by decide +kernel) rfl ?_
        exact Gm_hoursFrom_s1_72_r (fun y0 y1 y2 hh => @ih y0 y1 y2 hh) h
      · rw [if_neg q] at h
        refine mRunF.sg (mSl mk_2 41 2) (g := (72, [some (.ref 50), some (.int 1), some (.int x2), some (.int x3), some (.int v7), none], [.int 1], mSS M5)) (by decide +kernel) rfl ?_
        exact Gm_hoursFrom_s1_72_r (fun y0 y1 y2 hh => @ih y0 y1 y2 hh) h
set_option maxRecDepth 100000 in
set_option maxHeartbeats 4000000 in
theorem Gm_hoursFrom_s1_r (N : Nat)  (M : mS) {r : Int32} {M' : mS} (d : Nat) (h : Gm_hoursFrom_s1 N M = some (r, M')) : mMet mP mTx (d + 10) 2 [.ref 50, .int 1] (mSS M) (some (.int r)) (mSS M') := by
  refine mMet_i ⟨Nat.le_refl _, Nat.le_refl _, Nat.le_of_ble_eq_true rfl⟩ ?_
  unfold Gm_hoursFrom_s1 at h
  show mRunF (mCd 2) (mEE (mMet mP mTx (d + 9)) (some .int) (some (.int r)) M') (0, [some (.ref 50), some (.int 1), none, none, none, none], [], mSS M)
  refine mRunF.sg (mSl mk_2 0 3) (g := (5, [some (.ref 50), some (.int 1), none, none, none, none], [.int (M.1 50 5), .int 1], mSS M)) (by decide +kernel) rfl ?_
  refine R_ige (t := 14) ⟨9, by decide +kernel⟩ (fun q => ?_) (fun q => ?_)
  · rw [if_pos q] at h
    refine mRunF.sg (mSl mk_2 7 1) (g := (15, [some (.ref 50), some (.int 1), none, none, none, none], [.int 0], mSS M)) (by decide +kernel) rfl ?_
    cases h
    exact R_iret (by decide +kernel)
  · rw [if_neg q] at h
    refine mRunF.sg (mSl mk_2 4 2) (g := (11, [some (.ref 50), some (.int 1), none, none, none, none], [.int 6, .int 1], mSS M)) (by decide +kernel) rfl ?_
    refine R_ilt (t := 16) ⟨5, by decide +kernel⟩ (fun _ => ?_) (fun q => absurd (by decide) q)
    refine mRunF.sg (mSl mk_2 9 4) (g := (20, [some (.ref 50), some (.int 1), some (.int (-1)), some (.int 0), none, none], [], mSS M)) (by decide +kernel) rfl ?_
    exact Gm_hoursFrom_s1_20_r h
set_option maxRecDepth 100000 in
set_option maxHeartbeats 4000000 in
theorem Gm_hoursFrom_96_r {N d : Nat} {k20 : Int32 → Int32 → mS → Option (Int32 × mS)} {M : mS} {x2 : Int32} {x3 : Int32} {r : Int32} {M' : mS} (hk20 : ∀ (x2 : Int32) (x3 : Int32) (M : mS), k20 x2 x3 M = some (r, M') → mRunF (mCd 2) (mEE (mMet mP mTx (d + 10)) (some .int) (some (.int r)) M') (20, [some (.ref 50), some (.int 0), some (.int x2), some (.int x3), none, none], [], mSS M)) (h : Gm_hoursFrom_96 N k20 x2 x3 M = some (r, M')) : mRunF (mCd 2) (mEE (mMet mP mTx (d + 10)) (some .int) (some (.int r)) M') (96, [some (.ref 50), some (.int 0), some (.int x2), some (.int x3), none, none], [], mSS M) := by
  unfold Gm_hoursFrom_96 at h
  refine mRunF.sg (mSl mk_2 57 2) (g := (20, [some (.ref 50), some (.int 0), some (.int x2), some (.int (x3 + 1)), none, none], [], mSS M)) (by decide +kernel) rfl ?_
  exact hk20 _ _ _ h
set_option maxRecDepth 100000 in
set_option maxHeartbeats 4000000 in
theorem Gm_hoursFrom_84_r {N d : Nat} {k20 : Int32 → Int32 → mS → Option (Int32 × mS)} {M : mS} {x3 : Int32} {x4 : Int32} {r : Int32} {M' : mS} (hk20 : ∀ (x2 : Int32) (x3 : Int32) (M : mS), k20 x2 x3 M = some (r, M') → mRunF (mCd 2) (mEE (mMet mP mTx (d + 10)) (some .int) (some (.int r)) M') (20, [some (.ref 50), some (.int 0), some (.int x2), some (.int x3), none, none], [], mSS M)) (h : Gm_hoursFrom_84 N k20 x3 x4 M = some (r, M')) : mRunF (mCd 2) (mEE (mMet mP mTx (d + 10)) (some .int) (some (.int r)) M') (84, [some (.ref 50), some (.int 0), none, some (.int x3), some (.int x4), none], [], mSS M) := by
  unfold Gm_hoursFrom_84 at h
  refine mRunF.sg (mSl mk_2 50 3) (g := (88, [some (.ref 50), some (.int 0), some (.int x4), some (.int x3), some (.int x4), none], [.int 0], mSS M)) (by decide +kernel) rfl ?_
  refine R_ne (t := 96) ⟨8, by decide +kernel⟩ (fun _ => ?_) (fun q => absurd (by decide) q)
  refine mRunF.sg (mSl mk_2 54 3) (g := (96, [some (.ref 50), some (.int 0), some (.int x4), some (.int x3), some (.int x4), none], [], mSS (mWI M 50 0 x3))) (by decide +kernel) rfl ?_
  obtain ⟨M1, hv, h⟩ := nxt_ex h
  rw [← hv]
  clear hv
  refine mRunF.forget [true, true, true, true, false, true] ?_
  exact Gm_hoursFrom_96_r hk20 h
set_option maxRecDepth 100000 in
set_option maxHeartbeats 4000000 in
theorem Gm_hoursFrom_72_r {N d : Nat} {k20 : Int32 → Int32 → mS → Option (Int32 × mS)} {M : mS} {x2 : Int32} {x3 : Int32} {x4 : Int32} {z0 : Int32} {r : Int32} {M' : mS} (hk20 : ∀ (x2 : Int32) (x3 : Int32) (M : mS), k20 x2 x3 M = some (r, M') → mRunF (mCd 2) (mEE (mMet mP mTx (d + 10)) (some .int) (some (.int r)) M') (20, [some (.ref 50), some (.int 0), some (.int x2), some (.int x3), none, none], [], mSS M)) (h : Gm_hoursFrom_72 N k20 x2 x3 x4 z0 M = some (r, M')) : mRunF (mCd 2) (mEE (mMet mP mTx (d + 10)) (some .int) (some (.int r)) M') (72, [some (.ref 50), some (.int 0), some (.int x2), some (.int x3), some (.int x4), none], [.int z0], mSS M) := by
  unfold Gm_hoursFrom_72 at h
  refine mRunF.sg (mSl mk_2 44 3) (g := (76, [some (.ref 50), some (.int 0), some (.int x2), some (.int x3), some (.int x4), some (.int z0)], [.int (-1), .int x2], mSS M)) (by decide +kernel) rfl ?_
  refine R_ieq (t := 84) ⟨8, by decide +kernel⟩ (fun q => ?_) (fun q => ?_)
  · rw [if_pos q] at h
    refine mRunF.forget [true, true, false, true, true, false] ?_
    exact Gm_hoursFrom_84_r hk20 h
  · rw [if_neg q] at h
    refine mRunF.sg (mSl mk_2 48 1) (g := (81, [some (.ref 50), some (.int 0), some (.int x2), some (.int x3), some (.int x4), some (.int z0)], [.int z0], mSS M)) (by decide +kernel) rfl ?_
    refine R_eq (t := 96) ⟨15, by decide +kernel⟩ (fun q => ?_) (fun q => ?_)
    · rw [if_pos q] at h
      refine mRunF.forget [true, true, true, true, false, false] ?_
      exact Gm_hoursFrom_96_r hk20 h
    · rw [if_neg q] at h
      refine mRunF.forget [true, true, false, true, true, false] ?_
      exact Gm_hoursFrom_84_r hk20 h
set_option maxRecDepth 100000 in
set_option maxHeartbeats 4000000 in
theorem Gm_hoursFrom_20_r {N d : Nat}   {r : Int32} {M' : mS} : ∀ {n : Nat} {x2 : Int32} {x3 : Int32} {M : mS}, Gm_hoursFrom_20 N n x2 x3 M = some (r, M') → mRunF (mCd 2) (mEE (mMet mP mTx (d + 10)) (some .int) (some (.int r)) M') (20, [some (.ref 50), some (.int 0), some (.int x2), some (.int x3), none, none], [], mSS M) := by
  intro n
  induction n with
  | zero => intro x2 x3 M h; cases h
  | succ n ih =>
    replace ih := @ih
    intro x2 x3 M h
    unfold Gm_hoursFrom_20 at h
    refine mRunF.sg (mSl mk_2 13 2) (g := (22, [some (.ref 50), some (.int 0), some (.int x2), some (.int x3), none, none], [.int 2, .int x3], mSS M)) (by decide +kernel) rfl ?_
    refine R_igt (t := 102) ⟨80, by decide +kernel⟩ (fun q => ?_) (fun q => ?_)
    · rw [if_pos q] at h
      refine mRunF.sg (mSl mk_2 59 1) (g := (103, [some (.ref 50), some (.int 0), some (.int x2), some (.int x3), none, none], [.int x2], mSS M)) (by decide +kernel) rfl ?_
      cases h
      exact R_iret (by decide +kernel)
    · rw [if_neg q] at h
      refine mRunF.sg (mSl mk_2 16 3) (g := (28, [some (.ref 50), some (.int 0), some (.int x2), some (.int x3), none, none], [.int x3, .int 0, .ref 50], mSS M)) (by decide +kernel) rfl ?_
      obtain ⟨r4, M3, q2, h⟩ := bW_of h
      refine R_callV (mi := 3) (na := 3) (ci := 0) (i := 50) (as := [.int 0, .int x3]) (r := []) (rv := some (.int r4)) (σ1 := mSS M3) ⟨47, by decide +kernel⟩ rfl rfl rfl rfl (Gm_tryMove_r N x3 M (d + 5) q2) ?_
      show mRunF _ _ (31, [some (.ref 50), some (.int 0), some (.int x2), some (.int x3), none, none], [.int r4], mSS M3)
      refine mRunF.sg (mSl mk_2 20 4) (g := (35, [some (.ref 50), some (.int 0), some (.int x2), some (.int x3), none, none], [.int (0 + 1), .ref 50, .int r4], mSS M3)) (by decide +kernel) rfl ?_
      obtain ⟨r7, M6, q5, h⟩ := bW_of h
      refine R_callS (mi := 2) (na := 2) (as := [.ref 50, .int (0 + 1)]) (r := [.int r4]) (rv := some (.int r7)) (σ1 := mSS M6) ⟨43, by decide +kernel⟩ rfl rfl rfl (Gm_hoursFrom_s1_r N M3 (d + 0) q5) ?_
      show mRunF _ _ (38, [some (.ref 50), some (.int 0), some (.int x2), some (.int x3), none, none], [.int r7, .int r4], mSS M6)
      refine mRunF.sg (mSl mk_2 25 2) (g := (41, [some (.ref 50), some (.int 0), some (.int x2), some (.int x3), some (.int (r4 + r7)), none], [], mSS M6)) (by decide +kernel) rfl ?_
      obtain ⟨v8, hv, h⟩ := nxt_ex h
      rw [← hv]
      clear hv
      refine mRunF.sg (mSl mk_2 27 2) (g := (43, [some (.ref 50), some (.int 0), some (.int x2), some (.int x3), some (.int v8), none], [.int 2, .int 0], mSS M6)) (by decide +kernel) rfl ?_
      refine R_rem (by decide +kernel) (by decide) ?_
      refine R_ne (t := 61) ⟨17, by decide +kernel⟩ (fun _ => ?_) (fun q => absurd (by decide) q)
      refine mRunF.sg (mSl mk_2 31 2) (g := (50, [some (.ref 50), some (.int 0), some (.int x2), some (.int x3), some (.int v8), none], [.int x2, .int v8], mSS M6)) (by decide +kernel) rfl ?_
      refine R_ile (t := 57) ⟨7, by decide +kernel⟩ (fun q => ?_) (fun q => ?_)
      · rw [if_pos q] at h
        refine mRunF.sg (mSl mk_2 36 2) (g := (72, [some (.ref 50), some (.int 0), some (.int x2), some (.int x3), some (.int v8), none], [.int 0], mSS M6)) (by decide +kernel) rfl ?_
        exact Gm_hoursFrom_72_r (fun y0 y1 y2 hh => @ih y0 y1 y2 hh) h
      · rw [if_neg q] at h
        refine mRunF.sg (mSl mk_2 34 2) (g := (72, [some (.ref 50), some (.int 0), some (.int x2), some (.int x3), some (.int v8), none], [.int 1], mSS M6)) (by decide +kernel) rfl ?_
        exact Gm_hoursFrom_72_r (fun y0 y1 y2 hh => @ih y0 y1 y2 hh) h
set_option maxRecDepth 100000 in
set_option maxHeartbeats 4000000 in
theorem Gm_hoursFrom_r (N : Nat)  (M : mS) {r : Int32} {M' : mS} (d : Nat) (h : Gm_hoursFrom N M = some (r, M')) : mMet mP mTx (d + 11) 2 [.ref 50, .int 0] (mSS M) (some (.int r)) (mSS M') := by
  refine mMet_i ⟨Nat.le_refl _, Nat.le_refl _, Nat.le_of_ble_eq_true rfl⟩ ?_
  unfold Gm_hoursFrom at h
  show mRunF (mCd 2) (mEE (mMet mP mTx (d + 10)) (some .int) (some (.int r)) M') (0, [some (.ref 50), some (.int 0), none, none, none, none], [], mSS M)
  refine mRunF.sg (mSl mk_2 0 3) (g := (5, [some (.ref 50), some (.int 0), none, none, none, none], [.int (M.1 50 5), .int 0], mSS M)) (by decide +kernel) rfl ?_
  refine R_ige (t := 14) ⟨9, by decide +kernel⟩ (fun q => ?_) (fun q => ?_)
  · rw [if_pos q] at h
    refine mRunF.sg (mSl mk_2 7 1) (g := (15, [some (.ref 50), some (.int 0), none, none, none, none], [.int 0], mSS M)) (by decide +kernel) rfl ?_
    cases h
    exact R_iret (by decide +kernel)
  · rw [if_neg q] at h
    refine mRunF.sg (mSl mk_2 4 2) (g := (11, [some (.ref 50), some (.int 0), none, none, none, none], [.int 6, .int 0], mSS M)) (by decide +kernel) rfl ?_
    refine R_ilt (t := 16) ⟨5, by decide +kernel⟩ (fun _ => ?_) (fun q => absurd (by decide) q)
    refine mRunF.sg (mSl mk_2 9 4) (g := (20, [some (.ref 50), some (.int 0), some (.int (-1)), some (.int 0), none, none], [], mSS M)) (by decide +kernel) rfl ?_
    exact Gm_hoursFrom_20_r h
set_option maxRecDepth 100000 in
set_option maxHeartbeats 4000000 in
theorem Gm_outcome_r (N : Nat) (a0 : Int32) (a1 : Int32) (M : mS) {r : Int32} {M' : mS} (d : Nat) (h : Gm_outcome N a0 a1 M = some (r, M')) : mMet mP mTx (d + 12) 1 [.ref 50, .ref 34, .int a0, .int a1] (mSS M) (some (.int r)) (mSS M') := by
  refine mMet_i ⟨Nat.le_refl _, Nat.le_refl _, Nat.le_of_ble_eq_true rfl⟩ ?_
  unfold Gm_outcome at h
  show mRunF (mCd 1) (mEE (mMet mP mTx (d + 11)) (some .int) (some (.int r)) M') (0, [some (.ref 50), some (.ref 34), some (.int a0), some (.int a1)], [], mSS M)
  refine mRunF.sg (mSl mk_1 0 3) (g := (5, [some (.ref 50), some (.ref 34), some (.int a0), some (.int a1)], [], mSS (mWI M 50 4 a0))) (by decide +kernel) rfl ?_
  obtain ⟨M1, hv, h⟩ := nxt_ex h
  rw [← hv]
  clear hv
  refine mRunF.sg (mSl mk_1 3 3) (g := (9, [some (.ref 50), some (.ref 34), some (.int a0), some (.int a1)], [.int 6, .int a1, .ref 50], mSS M1)) (by decide +kernel) rfl ?_
  refine R_min ⟨28, by decide +kernel⟩ rfl ?_
  refine mRunF.sg (mSl mk_1 7 1) (g := (15, [some (.ref 50), some (.ref 34), some (.int a0), some (.int a1)], [], mSS (mWI M1 50 5 (if 6 < a1 then 6 else a1)))) (by decide +kernel) rfl ?_
  obtain ⟨M2, hv, h⟩ := nxt_ex h
  rw [← hv]
  clear hv
  refine mRunF.sg (mSl mk_1 8 5) (g := (22, [some (.ref 50), some (.ref 34), some (.int a0), some (.int a1)], [.int 0, .ref 51, .int 0, .ref 34], mSS M2)) (by decide +kernel) rfl ?_
  refine R_aald (by decide +kernel) rfl rfl (j := 52) rfl ?_
  refine mRunF.sg (mSl mk_1 14 2) (g := (26, [some (.ref 50), some (.ref 34), some (.int a0), some (.int a1)], [.int 44, .int 0, .ref 52, .int 0, .ref 34], mSS M2)) (by decide +kernel) rfl ?_
  refine R_copy ⟨37, by decide +kernel⟩ rfl rfl rfl ?_
  obtain ⟨M3, hv, h⟩ := nxt_ex h
  rw [← hv]
  clear hv
  refine mRunF.sg (mSl mk_1 17 2) (g := (31, [some (.ref 50), some (.ref 34), some (.int a0), some (.int a1)], [.int 0, .ref 50], mSS M3)) (by decide +kernel) rfl ?_
  obtain ⟨r6, M5, q4, h⟩ := bW_of h
  refine R_callS (mi := 2) (na := 2) (as := [.ref 50, .int 0]) (r := []) (rv := some (.int r6)) (σ1 := mSS M5) ⟨43, by decide +kernel⟩ rfl rfl rfl (Gm_hoursFrom_r N M3 (d + 0) q4) ?_
  show mRunF _ _ (34, [some (.ref 50), some (.ref 34), some (.int a0), some (.int a1)], [.int r6], mSS M5)
  cases h
  exact R_iret (by decide +kernel)
set_option maxRecDepth 100000 in
set_option maxHeartbeats 4000000 in
theorem Md_game_41_r {N d : Nat}  {M : mS} {x1 : Int32} {x2 : Int32} {x3 : Int32} {r : Int32} {M' : mS} (h : Md_game_41 N x1 x2 x3 M = some (r, M')) : mRunF (mCd 137) (mEE (mMet mP mTx (d + 12)) (some .int) (some (.int r)) M') (41, [some (.ref 0), some (.int x1), some (.int x2), some (.int x3), none], [], mSS M) := by
  unfold Md_game_41 at h
  refine mRunF.sg (mSl mk_137 22 6) (g := (51, [some (.ref 0), some (.int x1), some (.int x2), some (.int x3), none], [.int x2, .int x1, .ref 34, .ref 50], mSS M)) (by decide +kernel) rfl ?_
  obtain ⟨r3, M2, q1, h⟩ := bW_of h
  refine R_callV (mi := 1) (na := 4) (ci := 0) (i := 50) (as := [.ref 34, .int x1, .int x2]) (r := []) (rv := some (.int r3)) (σ1 := mSS M2) ⟨276, by decide +kernel⟩ rfl rfl rfl rfl (Gm_outcome_r N x1 x2 M (d + 0) q1) ?_
  show mRunF _ _ (54, [some (.ref 0), some (.int x1), some (.int x2), some (.int x3), none], [.int r3], mSS M2)
  refine mRunF.sg (mSl mk_137 29 2) (g := (57, [some (.ref 0), some (.int x1), some (.int x2), some (.int x3), some (.int r3)], [.int x3], mSS M2)) (by decide +kernel) rfl ?_
  refine R_ne (t := 65) ⟨8, by decide +kernel⟩ (fun q => ?_) (fun q => ?_)
  · rw [if_pos q] at h
    refine mRunF.sg (mSl mk_137 32 2) (g := (72, [some (.ref 0), some (.int x1), some (.int x2), some (.int x3), some (.int r3)], [.int r3], mSS M2)) (by decide +kernel) rfl ?_
    cases h
    exact R_iret (by decide +kernel)
  · rw [if_neg q] at h
    refine mRunF.sg (mSl mk_137 34 3) (g := (72, [some (.ref 0), some (.int x1), some (.int x2), some (.int x3), some (.int r3)], [.int (M2.1 50 0)], mSS M2)) (by decide +kernel) rfl ?_
    cases h
    exact R_iret (by decide +kernel)
set_option maxRecDepth 100000 in
set_option maxHeartbeats 4000000 in
theorem Md_game_r (N : Nat) (a0 : Int32) (a1 : Int32) (a2 : Int32) (M : mS) {r : Int32} {M' : mS} (d : Nat) (h : Md_game N a0 a1 a2 M = some (r, M')) : mMet mP mTx (d + 13) 137 [.ref 0, .int a0, .int a1, .int a2] (mSS M) (some (.int r)) (mSS M') := by
  refine mMet_i ⟨Nat.le_refl _, Nat.le_refl _, Nat.le_of_ble_eq_true rfl⟩ ?_
  unfold Md_game at h
  show mRunF (mCd 137) (mEE (mMet mP mTx (d + 12)) (some .int) (some (.int r)) M') (0, [some (.ref 0), some (.int a0), some (.int a1), some (.int a2), none], [], mSS M)
  refine mRunF.sg (mSl mk_137 0 4) (g := (8, [some (.ref 0), some (.int a0), some (.int a1), some (.int a2), none], [.int 2, .int (M.1 3 8)], mSS M)) (by decide +kernel) rfl ?_
  refine R_ilt (t := 39) ⟨31, by decide +kernel⟩ (fun q => ?_) (fun q => ?_)
  · rw [if_pos q] at h
    refine mRunF.sg (mSl mk_137 20 1) (g := (40, [some (.ref 0), some (.int a0), some (.int a1), some (.int a2), none], [.int (-1)], mSS M)) (by decide +kernel) rfl ?_
    cases h
    exact R_iret (by decide +kernel)
  · rw [if_neg q] at h
    refine mRunF.sg (mSl mk_137 5 2) (g := (13, [some (.ref 0), some (.int a0), some (.int a1), some (.int a2), none], [.int a0, .ref 0], mSS M)) (by decide +kernel) rfl ?_
    refine R_callV (mi := 160) (na := 2) (ci := 11) (i := 0) (as := [.int a0]) (r := []) (rv := some (.int (Md_isDial a0 M))) (σ1 := mSS M) ⟨124, by decide +kernel⟩ rfl rfl rfl rfl (Md_isDial_r a0 M (d + 11)) ?_
    have b4 := mBool rfl (Md_isDial_r a0 M (d + 11))
    show mRunF _ _ (16, [some (.ref 0), some (.int a0), some (.int a1), some (.int a2), none], [.int (Md_isDial a0 M)], mSS M)
    refine R_eq (t := 39) ⟨23, by decide +kernel⟩ (fun q => ?_) (fun q => ?_)
    · rw [if_pos q] at h
      refine mRunF.sg (mSl mk_137 20 1) (g := (40, [some (.ref 0), some (.int a0), some (.int a1), some (.int a2), none], [.int (-1)], mSS M)) (by decide +kernel) rfl ?_
      cases h
      exact R_iret (by decide +kernel)
    · rw [if_neg q] at h
      refine mRunF.sg (mSl mk_137 9 2) (g := (21, [some (.ref 0), some (.int a0), some (.int a1), some (.int a2), none], [.int 1, .int a1], mSS M)) (by decide +kernel) rfl ?_
      refine R_ilt (t := 39) ⟨18, by decide +kernel⟩ (fun q => ?_) (fun q => ?_)
      · rw [if_pos q] at h
        refine mRunF.sg (mSl mk_137 20 1) (g := (40, [some (.ref 0), some (.int a0), some (.int a1), some (.int a2), none], [.int (-1)], mSS M)) (by decide +kernel) rfl ?_
        cases h
        exact R_iret (by decide +kernel)
      · rw [if_neg q] at h
        refine mRunF.sg (mSl mk_137 12 2) (g := (27, [some (.ref 0), some (.int a0), some (.int a1), some (.int a2), none], [.int 6, .int a1], mSS M)) (by decide +kernel) rfl ?_
        refine R_igt (t := 39) ⟨12, by decide +kernel⟩ (fun q => ?_) (fun q => ?_)
        · rw [if_pos q] at h
          refine mRunF.sg (mSl mk_137 20 1) (g := (40, [some (.ref 0), some (.int a0), some (.int a1), some (.int a2), none], [.int (-1)], mSS M)) (by decide +kernel) rfl ?_
          cases h
          exact R_iret (by decide +kernel)
        · rw [if_neg q] at h
          refine mRunF.sg (mSl mk_137 15 1) (g := (31, [some (.ref 0), some (.int a0), some (.int a1), some (.int a2), none], [.int a2], mSS M)) (by decide +kernel) rfl ?_
          refine R_eq (t := 41) ⟨10, by decide +kernel⟩ (fun q => ?_) (fun q => ?_)
          · rw [if_pos q] at h
            exact Md_game_41_r h
          · rw [if_neg q] at h
            refine mRunF.sg (mSl mk_137 17 2) (g := (36, [some (.ref 0), some (.int a0), some (.int a1), some (.int a2), none], [.int 1, .int a2], mSS M)) (by decide +kernel) rfl ?_
            refine R_ieq (t := 41) ⟨5, by decide +kernel⟩ (fun q => ?_) (fun q => ?_)
            · rw [if_pos q] at h
              exact Md_game_41_r h
            · rw [if_neg q] at h
              refine mRunF.sg (mSl mk_137 20 1) (g := (40, [some (.ref 0), some (.int a0), some (.int a1), some (.int a2), none], [.int (-1)], mSS M)) (by decide +kernel) rfl ?_
              cases h
              exact R_iret (by decide +kernel)
set_option maxRecDepth 100000 in
set_option maxHeartbeats 4000000 in
theorem Wk_passDark_2_r {N d : Nat}   {M' : mS} : ∀ {n : Nat} {x1 : Int32} {x2 : Int32} {x3 : Int32} {M : mS}, Wk_passDark_2 N n x1 x2 x3 M = some M' → mRunF (mCd 94) (mEE (mMet mP mTx (d + 4)) (none) none M') (2, [some (.ref 39), some (.int x1), some (.int x2), some (.int x3)], [], mSS M) := by
  intro n
  induction n with
  | zero => intro x1 x2 x3 M h; cases h
  | succ n ih =>
    replace ih := @ih
    intro x1 x2 x3 M h
    unfold Wk_passDark_2 at h
    refine mRunF.sg (mSl mk_94 2 2) (g := (4, [some (.ref 39), some (.int x1), some (.int x2), some (.int x3)], [.int x2, .int x3], mSS M)) (by decide +kernel) rfl ?_
    refine R_ige (t := 22) ⟨18, by decide +kernel⟩ (fun q => ?_) (fun q => ?_)
    · rw [if_pos q] at h
      cases h
      exact R_vret (by decide +kernel)
    · rw [if_neg q] at h
      refine mRunF.sg (mSl mk_94 5 2) (g := (9, [some (.ref 39), some (.int x1), some (.int x2), some (.int x3)], [.int x1, .ref 39], mSS M)) (by decide +kernel) rfl ?_
      obtain ⟨M2, q1, h⟩ := bV_of h
      refine R_callV (mi := 90) (na := 2) (ci := 10) (i := 39) (as := [.int x1]) (r := []) (rv := none) (σ1 := mSS M2) ⟨109, by decide +kernel⟩ rfl rfl rfl rfl (Wk_see_r N x1 M (d + 0) q1) ?_
      show mRunF _ _ (12, [some (.ref 39), some (.int x1), some (.int x2), some (.int x3)], [], mSS M2)
      refine mRunF.sg (mSl mk_94 8 1) (g := (13, [some (.ref 39), some (.int x1), some (.int x2), some (.int x3)], [.ref 39], mSS M2)) (by decide +kernel) rfl ?_
      obtain ⟨M4, q3, h⟩ := bV_of h
      refine R_callV (mi := 92) (na := 1) (ci := 10) (i := 39) (as := []) (r := []) (rv := none) (σ1 := mSS M4) ⟨113, by decide +kernel⟩ rfl rfl rfl rfl (Wk_pass_r N M2 (d + 2) q3) ?_
      show mRunF _ _ (16, [some (.ref 39), some (.int x1), some (.int x2), some (.int x3)], [], mSS M4)
      refine mRunF.sg (mSl mk_94 10 2) (g := (2, [some (.ref 39), some (.int x1), some (.int x2), some (.int (x3 + 1))], [], mSS M4)) (by decide +kernel) rfl ?_
      exact @ih _ _ _ _ h
set_option maxRecDepth 100000 in
set_option maxHeartbeats 4000000 in
theorem Wk_passDark_r (N : Nat) (a0 : Int32) (a1 : Int32) (M : mS) {M' : mS} (d : Nat) (h : Wk_passDark N a0 a1 M = some M') : mMet mP mTx (d + 5) 94 [.ref 39, .int a0, .int a1] (mSS M) none (mSS M') := by
  refine mMet_i ⟨Nat.le_refl _, Nat.le_refl _, Nat.le_of_ble_eq_true rfl⟩ ?_
  unfold Wk_passDark at h
  show mRunF (mCd 94) (mEE (mMet mP mTx (d + 4)) (none) none M') (0, [some (.ref 39), some (.int a0), some (.int a1), none], [], mSS M)
  refine mRunF.sg (mSl mk_94 0 2) (g := (2, [some (.ref 39), some (.int a0), some (.int a1), some (.int 0)], [], mSS M)) (by decide +kernel) rfl ?_
  exact Wk_passDark_2_r h
set_option maxRecDepth 100000 in
set_option maxHeartbeats 4000000 in
theorem Md_metIn_r (N : Nat) (a0 : Int32) (a1 : Int32) (M : mS) {r : Int32} {M' : mS} (d : Nat) (h : Md_metIn N a0 a1 M = some (r, M')) : mMet mP mTx (d + 6) 138 [.ref 0, .int a0, .int a1] (mSS M) (some (.int r)) (mSS M') := by
  refine mMet_i ⟨Nat.le_refl _, Nat.le_refl _, Nat.le_of_ble_eq_true rfl⟩ ?_
  unfold Md_metIn at h
  show mRunF (mCd 138) (mEE (mMet mP mTx (d + 5)) (some .int) (some (.int r)) M') (0, [some (.ref 0), some (.int a0), some (.int a1)], [], mSS M)
  refine mRunF.sg (mSl mk_138 0 2) (g := (2, [some (.ref 0), some (.int a0), some (.int a1)], [.int a0, .ref 0], mSS M)) (by decide +kernel) rfl ?_
  refine R_callV (mi := 161) (na := 2) (ci := 11) (i := 0) (as := [.int a0]) (r := []) (rv := some (.int (Md_isGoer a0 M))) (σ1 := mSS M) ⟨152, by decide +kernel⟩ rfl rfl rfl rfl (Md_isGoer_r a0 M (d + 4)) ?_
  have b1 := mBool rfl (Md_isGoer_r a0 M (d + 4))
  show mRunF _ _ (5, [some (.ref 0), some (.int a0), some (.int a1)], [.int (Md_isGoer a0 M)], mSS M)
  refine R_eq (t := 18) ⟨13, by decide +kernel⟩ (fun q => ?_) (fun q => ?_)
  · rw [if_pos q] at h
    refine mRunF.sg (mSl mk_138 8 1) (g := (19, [some (.ref 0), some (.int a0), some (.int a1)], [.int (-1)], mSS M)) (by decide +kernel) rfl ?_
    cases h
    exact R_iret (by decide +kernel)
  · rw [if_neg q] at h
    refine mRunF.sg (mSl mk_138 4 2) (g := (12, [some (.ref 0), some (.int a0), some (.int a1)], [.int 200, .int a1], mSS M)) (by decide +kernel) rfl ?_
    refine R_callS (mi := 165) (na := 2) (as := [.int a1, .int 200]) (r := []) (rv := some (.int (Md_isWithin a1 200 M))) (σ1 := mSS M) ⟨179, by decide +kernel⟩ rfl rfl rfl (Md_isWithin_r a1 200 M (d + 4)) ?_
    have b2 := mBool rfl (Md_isWithin_r a1 200 M (d + 4))
    show mRunF _ _ (15, [some (.ref 0), some (.int a0), some (.int a1)], [.int (Md_isWithin a1 200 M)], mSS M)
    refine R_ne (t := 20) ⟨5, by decide +kernel⟩ (fun q => ?_) (fun q => ?_)
    · rw [if_pos q] at h
      refine mRunF.sg (mSl mk_138 8 1) (g := (19, [some (.ref 0), some (.int a0), some (.int a1)], [.int (-1)], mSS M)) (by decide +kernel) rfl ?_
      cases h
      exact R_iret (by decide +kernel)
    · rw [if_neg q] at h
      refine mRunF.sg (mSl mk_138 10 4) (g := (28, [some (.ref 0), some (.int a0), some (.int a1)], [.ref 34, .ref 39], mSS M)) (by decide +kernel) rfl ?_
      obtain ⟨M4, q3, h⟩ := bV_of h
      refine R_callV (mi := 89) (na := 2) (ci := 10) (i := 39) (as := [.ref 34]) (r := []) (rv := none) (σ1 := mSS M4) ⟨128, by decide +kernel⟩ rfl rfl rfl rfl (Wk_begin_r N M (d + 4) q3) ?_
      show mRunF _ _ (31, [some (.ref 0), some (.int a0), some (.int a1)], [], mSS M4)
      refine mRunF.sg (mSl mk_138 15 6) (g := (43, [some (.ref 0), some (.int a0), some (.int a1)], [.int a1, .int (M4.1 3 9), .ref 39], mSS M4)) (by decide +kernel) rfl ?_
      obtain ⟨M6, q5, h⟩ := bV_of h
      refine R_callV (mi := 94) (na := 3) (ci := 10) (i := 39) (as := [.int (M4.1 3 9), .int a1]) (r := []) (rv := none) (σ1 := mSS M6) ⟨283, by decide +kernel⟩ rfl rfl rfl rfl (Wk_passDark_r N (M4.1 3 9) a1 M4 (d + 0) q5) ?_
      show mRunF _ _ (46, [some (.ref 0), some (.int a0), some (.int a1)], [], mSS M6)
      refine mRunF.sg (mSl mk_138 22 6) (g := (57, [some (.ref 0), some (.int a0), some (.int a1)], [.int (14 + a0), .ref 40], mSS M6)) (by decide +kernel) rfl ?_
      obtain ⟨g7, h⟩ := grd_of h
      refine R_iald (by decide +kernel) rfl g7 ?_
      cases h
      exact R_iret (by decide +kernel)
set_option maxRecDepth 100000 in
set_option maxHeartbeats 4000000 in
theorem Md_outIn_r (N : Nat) (a0 : Int32) (a1 : Int32) (M : mS) {r : Int32} (d : Nat) (h : Md_outIn N a0 a1 M = some r) : mMet mP mTx (d + 3) 139 [.ref 0, .int a0, .int a1] (mSS M) (some (.int r)) (mSS M) := by
  refine mMet_i ⟨Nat.le_refl _, Nat.le_refl _, Nat.le_of_ble_eq_true rfl⟩ ?_
  unfold Md_outIn at h
  show mRunF (mCd 139) (mEE (mMet mP mTx (d + 2)) (some .int) (some (.int r)) M) (0, [some (.ref 0), some (.int a0), some (.int a1)], [], mSS M)
  refine mRunF.sg (mSl mk_139 0 2) (g := (2, [some (.ref 0), some (.int a0), some (.int a1)], [.int a0, .ref 0], mSS M)) (by decide +kernel) rfl ?_
  refine R_callV (mi := 160) (na := 2) (ci := 11) (i := 0) (as := [.int a0]) (r := []) (rv := some (.int (Md_isDial a0 M))) (σ1 := mSS M) ⟨124, by decide +kernel⟩ rfl rfl rfl rfl (Md_isDial_r a0 M (d + 1)) ?_
  have b1 := mBool rfl (Md_isDial_r a0 M (d + 1))
  show mRunF _ _ (5, [some (.ref 0), some (.int a0), some (.int a1)], [.int (Md_isDial a0 M)], mSS M)
  refine R_eq (t := 27) ⟨22, by decide +kernel⟩ (fun q => ?_) (fun q => ?_)
  · rw [if_pos q] at h
    refine mRunF.sg (mSl mk_139 13 1) (g := (28, [some (.ref 0), some (.int a0), some (.int a1)], [.int (-1)], mSS M)) (by decide +kernel) rfl ?_
    cases h
    exact R_iret (by decide +kernel)
  · rw [if_neg q] at h
    refine mRunF.sg (mSl mk_139 4 2) (g := (12, [some (.ref 0), some (.int a0), some (.int a1)], [.int 200, .int a1], mSS M)) (by decide +kernel) rfl ?_
    refine R_callS (mi := 165) (na := 2) (as := [.int a1, .int 200]) (r := []) (rv := some (.int (Md_isWithin a1 200 M))) (σ1 := mSS M) ⟨179, by decide +kernel⟩ rfl rfl rfl (Md_isWithin_r a1 200 M (d + 1)) ?_
    have b2 := mBool rfl (Md_isWithin_r a1 200 M (d + 1))
    show mRunF _ _ (15, [some (.ref 0), some (.int a0), some (.int a1)], [.int (Md_isWithin a1 200 M)], mSS M)
    refine R_eq (t := 27) ⟨12, by decide +kernel⟩ (fun q => ?_) (fun q => ?_)
    · rw [if_pos q] at h
      refine mRunF.sg (mSl mk_139 13 1) (g := (28, [some (.ref 0), some (.int a0), some (.int a1)], [.int (-1)], mSS M)) (by decide +kernel) rfl ?_
      cases h
      exact R_iret (by decide +kernel)
    · rw [if_neg q] at h
      refine mRunF.sg (mSl mk_139 8 3) (g := (21, [some (.ref 0), some (.int a0), some (.int a1)], [.int a1, .int a0, .ref 0], mSS M)) (by decide +kernel) rfl ?_
      obtain ⟨r4, q3, h⟩ := bR_of h
      refine R_callV (mi := 158) (na := 3) (ci := 11) (i := 0) (as := [.int a0, .int a1]) (r := []) (rv := some (.int r4)) (σ1 := mSS M) ⟨229, by decide +kernel⟩ rfl rfl rfl rfl (Md_outBehind_r N a0 a1 M (d + 0) q3) ?_
      show mRunF _ _ (24, [some (.ref 0), some (.int a0), some (.int a1)], [.int r4], mSS M)
      refine mRunF.sg (mSl mk_139 12 1) (g := (28, [some (.ref 0), some (.int a0), some (.int a1)], [.int r4], mSS M)) (by decide +kernel) rfl ?_
      cases h
      exact R_iret (by decide +kernel)
set_option maxRecDepth 100000 in
set_option maxHeartbeats 4000000 in
theorem Md_year_108_r {N d : Nat} {k40 : Int32 → Int32 → Int32 → Int32 → Int32 → Int32 → mS → Option (Int32 × mS)} {M : mS} {x1 : Int32} {x2 : Int32} {x3 : Int32} {x4 : Int32} {x5 : Int32} {x6 : Int32} {r : Int32} {M' : mS} (hk40 : ∀ (x1 : Int32) (x2 : Int32) (x3 : Int32) (x4 : Int32) (x5 : Int32) (x6 : Int32) (M : mS), k40 x1 x2 x3 x4 x5 x6 M = some (r, M') → mRunF (mCd 140) (mEE (mMet mP mTx (d + 5)) (some .int) (some (.int r)) M') (40, [some (.ref 0), some (.int x1), some (.int x2), some (.int x3), some (.int x4), some (.int x5), some (.int x6)], [], mSS M)) (h : Md_year_108 N k40 x1 x2 x3 x4 x5 x6 M = some (r, M')) : mRunF (mCd 140) (mEE (mMet mP mTx (d + 5)) (some .int) (some (.int r)) M') (108, [some (.ref 0), some (.int x1), some (.int x2), some (.int x3), some (.int x4), some (.int x5), some (.int x6)], [], mSS M) := by
  unfold Md_year_108 at h
  refine mRunF.sg (mSl mk_140 53 2) (g := (40, [some (.ref 0), some (.int x1), some (.int x2), some (.int x3), some (.int x4), some (.int x5), some (.int (x6 + 1))], [], mSS M)) (by decide +kernel) rfl ?_
  exact hk40 _ _ _ _ _ _ _ h
set_option maxRecDepth 100000 in
set_option maxHeartbeats 4000000 in
theorem Md_year_40_r {N d : Nat}   {r : Int32} {M' : mS} : ∀ {n : Nat} {x1 : Int32} {x2 : Int32} {x3 : Int32} {x4 : Int32} {x5 : Int32} {x6 : Int32} {M : mS}, Md_year_40 N n x1 x2 x3 x4 x5 x6 M = some (r, M') → mRunF (mCd 140) (mEE (mMet mP mTx (d + 5)) (some .int) (some (.int r)) M') (40, [some (.ref 0), some (.int x1), some (.int x2), some (.int x3), some (.int x4), some (.int x5), some (.int x6)], [], mSS M) := by
  intro n
  induction n with
  | zero => intro x1 x2 x3 x4 x5 x6 M h; cases h
  | succ n ih =>
    replace ih := @ih
    intro x1 x2 x3 x4 x5 x6 M h
    unfold Md_year_40 at h
    refine mRunF.sg (mSl mk_140 21 2) (g := (44, [some (.ref 0), some (.int x1), some (.int x2), some (.int x3), some (.int x4), some (.int x5), some (.int x6)], [.int x4, .int x6], mSS M)) (by decide +kernel) rfl ?_
    refine R_ige (t := 114) ⟨70, by decide +kernel⟩ (fun q => ?_) (fun q => ?_)
    · rw [if_pos q] at h
      refine mRunF.sg (mSl mk_140 55 1) (g := (116, [some (.ref 0), some (.int x1), some (.int x2), some (.int x3), some (.int x4), some (.int x5), some (.int x6)], [.int x5], mSS M)) (by decide +kernel) rfl ?_
      cases h
      exact R_iret (by decide +kernel)
    · rw [if_neg q] at h
      refine mRunF.sg (mSl mk_140 24 4) (g := (55, [some (.ref 0), some (.int x1), some (.int x2), some (.int x3), some (.int x4), some (.int x5), some (.int x6)], [.ref 34, .ref 39], mSS M)) (by decide +kernel) rfl ?_
      obtain ⟨M2, q1, h⟩ := bV_of h
      refine R_callV (mi := 89) (na := 2) (ci := 10) (i := 39) (as := [.ref 34]) (r := []) (rv := none) (σ1 := mSS M2) ⟨128, by decide +kernel⟩ rfl rfl rfl rfl (Wk_begin_r N M (d + 4) q1) ?_
      show mRunF _ _ (58, [some (.ref 0), some (.int x1), some (.int x2), some (.int x3), some (.int x4), some (.int x5), some (.int x6)], [], mSS M2)
      refine mRunF.sg (mSl mk_140 29 8) (g := (73, [some (.ref 0), some (.int x1), some (.int x2), some (.int x3), some (.int x4), some (.int x5), some (.int x6)], [.int x3, .int ((M2.1 3 9) + x6), .ref 39], mSS M2)) (by decide +kernel) rfl ?_
      obtain ⟨M4, q3, h⟩ := bV_of h
      refine R_callV (mi := 94) (na := 3) (ci := 10) (i := 39) (as := [.int ((M2.1 3 9) + x6), .int x3]) (r := []) (rv := none) (σ1 := mSS M4) ⟨283, by decide +kernel⟩ rfl rfl rfl rfl (Wk_passDark_r N ((M2.1 3 9) + x6) x3 M2 (d + 0) q3) ?_
      show mRunF _ _ (76, [some (.ref 0), some (.int x1), some (.int x2), some (.int x3), some (.int x4), some (.int x5), some (.int x6)], [], mSS M4)
      refine mRunF.sg (mSl mk_140 38 7) (g := (90, [some (.ref 0), some (.int x1), some (.int x2), some (.int x3), some (.int x4), some (.int x5), some (.int x6)], [.int ((M4.1 3 9) + x6), .ref 39], mSS M4)) (by decide +kernel) rfl ?_
      obtain ⟨M6, q5, h⟩ := bV_of h
      refine R_callV (mi := 90) (na := 2) (ci := 10) (i := 39) (as := [.int ((M4.1 3 9) + x6)]) (r := []) (rv := none) (σ1 := mSS M6) ⟨182, by decide +kernel⟩ rfl rfl rfl rfl (Wk_see_r N ((M4.1 3 9) + x6) M4 (d + 1) q5) ?_
      show mRunF _ _ (93, [some (.ref 0), some (.int x1), some (.int x2), some (.int x3), some (.int x4), some (.int x5), some (.int x6)], [], mSS M6)
      refine mRunF.sg (mSl mk_140 46 4) (g := (99, [some (.ref 0), some (.int x1), some (.int x2), some (.int x3), some (.int x4), some (.int x5), some (.int x6)], [.int x2, .int x1, .ref 39], mSS M6)) (by decide +kernel) rfl ?_
      obtain ⟨r8, q7, h⟩ := bR_of h
      refine R_callV (mi := 95) (na := 3) (ci := 10) (i := 39) (as := [.int x1, .int x2]) (r := []) (rv := some (.int r8)) (σ1 := mSS M6) ⟨287, by decide +kernel⟩ rfl rfl rfl rfl (Wk_shared_r N x1 x2 M6 (d + 3) q7) ?_
      show mRunF _ _ (102, [some (.ref 0), some (.int x1), some (.int x2), some (.int x3), some (.int x4), some (.int x5), some (.int x6)], [.int r8], mSS M6)
      refine R_eq (t := 108) ⟨6, by decide +kernel⟩ (fun q => ?_) (fun q => ?_)
      · rw [if_pos q] at h
        exact Md_year_108_r (fun y0 y1 y2 y3 y4 y5 y6 hh => @ih y0 y1 y2 y3 y4 y5 y6 hh) h
      · rw [if_neg q] at h
        refine mRunF.sg (mSl mk_140 52 1) (g := (108, [some (.ref 0), some (.int x1), some (.int x2), some (.int x3), some (.int x4), some (.int (x5 + 1)), some (.int x6)], [], mSS M6)) (by decide +kernel) rfl ?_
        exact Md_year_108_r (fun y0 y1 y2 y3 y4 y5 y6 hh => @ih y0 y1 y2 y3 y4 y5 y6 hh) h
set_option maxRecDepth 100000 in
set_option maxHeartbeats 4000000 in
theorem Md_year_r (N : Nat) (a0 : Int32) (a1 : Int32) (a2 : Int32) (a3 : Int32) (M : mS) {r : Int32} {M' : mS} (d : Nat) (h : Md_year N a0 a1 a2 a3 M = some (r, M')) : mMet mP mTx (d + 6) 140 [.ref 0, .int a0, .int a1, .int a2, .int a3] (mSS M) (some (.int r)) (mSS M') := by
  refine mMet_i ⟨Nat.le_refl _, Nat.le_refl _, Nat.le_of_ble_eq_true rfl⟩ ?_
  unfold Md_year at h
  show mRunF (mCd 140) (mEE (mMet mP mTx (d + 5)) (some .int) (some (.int r)) M') (0, [some (.ref 0), some (.int a0), some (.int a1), some (.int a2), some (.int a3), none, none], [], mSS M)
  refine mRunF.sg (mSl mk_140 0 3) (g := (3, [some (.ref 0), some (.int a0), some (.int a1), some (.int a2), some (.int a3), none, none], [.int a1, .int a0, .ref 0], mSS M)) (by decide +kernel) rfl ?_
  refine R_callV (mi := 162) (na := 3) (ci := 11) (i := 0) (as := [.int a0, .int a1]) (r := []) (rv := some (.int (Md_areTwo a0 a1 M))) (σ1 := mSS M) ⟨164, by decide +kernel⟩ rfl rfl rfl rfl (Md_areTwo_r a0 a1 M (d + 3)) ?_
  have b9 := mBool rfl (Md_areTwo_r a0 a1 M (d + 3))
  show mRunF _ _ (6, [some (.ref 0), some (.int a0), some (.int a1), some (.int a2), some (.int a3), none, none], [.int (Md_areTwo a0 a1 M)], mSS M)
  refine R_eq (t := 32) ⟨26, by decide +kernel⟩ (fun q => ?_) (fun q => ?_)
  · rw [if_pos q] at h
    refine mRunF.sg (mSl mk_140 15 1) (g := (33, [some (.ref 0), some (.int a0), some (.int a1), some (.int a2), some (.int a3), none, none], [.int (-1)], mSS M)) (by decide +kernel) rfl ?_
    cases h
    exact R_iret (by decide +kernel)
  · rw [if_neg q] at h
    refine mRunF.sg (mSl mk_140 5 2) (g := (13, [some (.ref 0), some (.int a0), some (.int a1), some (.int a2), some (.int a3), none, none], [.int 200, .int a2], mSS M)) (by decide +kernel) rfl ?_
    refine R_callS (mi := 165) (na := 2) (as := [.int a2, .int 200]) (r := []) (rv := some (.int (Md_isWithin a2 200 M))) (σ1 := mSS M) ⟨179, by decide +kernel⟩ rfl rfl rfl (Md_isWithin_r a2 200 M (d + 4)) ?_
    have b10 := mBool rfl (Md_isWithin_r a2 200 M (d + 4))
    show mRunF _ _ (16, [some (.ref 0), some (.int a0), some (.int a1), some (.int a2), some (.int a3), none, none], [.int (Md_isWithin a2 200 M)], mSS M)
    refine R_eq (t := 32) ⟨16, by decide +kernel⟩ (fun q => ?_) (fun q => ?_)
    · rw [if_pos q] at h
      refine mRunF.sg (mSl mk_140 15 1) (g := (33, [some (.ref 0), some (.int a0), some (.int a1), some (.int a2), some (.int a3), none, none], [.int (-1)], mSS M)) (by decide +kernel) rfl ?_
      cases h
      exact R_iret (by decide +kernel)
    · rw [if_neg q] at h
      refine mRunF.sg (mSl mk_140 9 2) (g := (22, [some (.ref 0), some (.int a0), some (.int a1), some (.int a2), some (.int a3), none, none], [.int 1, .int a3], mSS M)) (by decide +kernel) rfl ?_
      refine R_ilt (t := 32) ⟨10, by decide +kernel⟩ (fun q => ?_) (fun q => ?_)
      · rw [if_pos q] at h
        refine mRunF.sg (mSl mk_140 15 1) (g := (33, [some (.ref 0), some (.int a0), some (.int a1), some (.int a2), some (.int a3), none, none], [.int (-1)], mSS M)) (by decide +kernel) rfl ?_
        cases h
        exact R_iret (by decide +kernel)
      · rw [if_neg q] at h
        refine mRunF.sg (mSl mk_140 12 2) (g := (29, [some (.ref 0), some (.int a0), some (.int a1), some (.int a2), some (.int a3), none, none], [.int 20, .int a3], mSS M)) (by decide +kernel) rfl ?_
        refine R_ile (t := 34) ⟨5, by decide +kernel⟩ (fun q => ?_) (fun q => ?_)
        · rw [if_pos q] at h
          refine mRunF.sg (mSl mk_140 17 4) (g := (40, [some (.ref 0), some (.int a0), some (.int a1), some (.int a2), some (.int a3), some (.int 0), some (.int 0)], [], mSS M)) (by decide +kernel) rfl ?_
          exact Md_year_40_r h
        · rw [if_neg q] at h
          refine mRunF.sg (mSl mk_140 15 1) (g := (33, [some (.ref 0), some (.int a0), some (.int a1), some (.int a2), some (.int a3), none, none], [.int (-1)], mSS M)) (by decide +kernel) rfl ?_
          cases h
          exact R_iret (by decide +kernel)
set_option maxRecDepth 100000 in
set_option maxHeartbeats 4000000 in
theorem Rd_add_r (N : Nat) (a0 : Int32) (a1 : Int32) (a2 : Int32) (M : mS) {M' : mS} (d : Nat) (h : Rd_add N a0 a1 a2 M = some M') : mMet mP mTx (d + 1) 49 [.ref 59, .int a0, .int a1, .int a2] (mSS M) none (mSS M') := by
  refine mMet_i ⟨Nat.le_refl _, Nat.le_refl _, Nat.le_of_ble_eq_true rfl⟩ ?_
  unfold Rd_add at h
  show mRunF (mCd 49) (mEE (mMet mP mTx (d + 0)) (none) none M') (0, [some (.ref 59), some (.int a0), some (.int a1), some (.int a2)], [], mSS M)
  refine mRunF.sg (mSl mk_49 0 3) (g := (6, [some (.ref 59), some (.int a0), some (.int a1), some (.int a2)], [.int 20, .int (M.1 59 0)], mSS M)) (by decide +kernel) rfl ?_
  refine R_ige (t := 49) ⟨43, by decide +kernel⟩ (fun q => ?_) (fun q => ?_)
  · rw [if_pos q] at h
    cases h
    exact R_vret (by decide +kernel)
  · rw [if_neg q] at h
    refine mRunF.sg (mSl mk_49 4 5) (g := (18, [some (.ref 59), some (.int a0), some (.int a1), some (.int a2)], [.int a0, .int (M.1 59 0), .ref 60], mSS M)) (by decide +kernel) rfl ?_
    obtain ⟨g1, h⟩ := grd_of h
    refine R_iast (by decide +kernel) rfl g1 ?_
    obtain ⟨M2, hv, h⟩ := nxt_ex h
    rw [← hv]
    clear hv
    refine mRunF.sg (mSl mk_49 10 5) (g := (28, [some (.ref 59), some (.int a0), some (.int a1), some (.int a2)], [.int a1, .int (M2.1 59 0), .ref 61], mSS M2)) (by decide +kernel) rfl ?_
    obtain ⟨g3, h⟩ := grd_of h
    refine R_iast (by decide +kernel) rfl g3 ?_
    obtain ⟨M4, hv, h⟩ := nxt_ex h
    rw [← hv]
    clear hv
    refine mRunF.sg (mSl mk_49 16 5) (g := (38, [some (.ref 59), some (.int a0), some (.int a1), some (.int a2)], [.int a2, .int (M4.1 59 0), .ref 62], mSS M4)) (by decide +kernel) rfl ?_
    obtain ⟨g5, h⟩ := grd_of h
    refine R_zast (by decide +kernel) rfl g5 ?_
    obtain ⟨M6, hv, h⟩ := nxt_ex h
    rw [← hv]
    clear hv
    refine mRunF.sg (mSl mk_49 22 6) (g := (49, [some (.ref 59), some (.int a0), some (.int a1), some (.int a2)], [], mSS (mWI M6 59 0 ((M6.1 59 0) + 1)))) (by decide +kernel) rfl ?_
    obtain ⟨M7, hv, h⟩ := nxt_ex h
    rw [← hv]
    clear hv
    cases h
    exact R_vret (by decide +kernel)
set_option maxRecDepth 100000 in
set_option maxHeartbeats 4000000 in
theorem Md_tell_r (N : Nat) (a0 : Int32) (a1 : Int32) (a2 : Int32) (M : mS) {r : Int32} {M' : mS} (d : Nat) (h : Md_tell N a0 a1 a2 M = some (r, M')) : mMet mP mTx (d + 2) 141 [.ref 0, .int a0, .int a1, .int a2] (mSS M) (some (.int r)) (mSS M') := by
  refine mMet_i ⟨Nat.le_refl _, Nat.le_refl _, Nat.le_of_ble_eq_true rfl⟩ ?_
  unfold Md_tell at h
  show mRunF (mCd 141) (mEE (mMet mP mTx (d + 1)) (some .int) (some (.int r)) M') (0, [some (.ref 0), some (.int a0), some (.int a1), some (.int a2)], [], mSS M)
  refine mRunF.sg (mSl mk_141 0 2) (g := (3, [some (.ref 0), some (.int a0), some (.int a1), some (.int a2)], [.int 30, .int a0], mSS M)) (by decide +kernel) rfl ?_
  refine R_callS (mi := 165) (na := 2) (as := [.int a0, .int 30]) (r := []) (rv := some (.int (Md_isWithin a0 30 M))) (σ1 := mSS M) ⟨179, by decide +kernel⟩ rfl rfl rfl (Md_isWithin_r a0 30 M (d + 0)) ?_
  have b1 := mBool rfl (Md_isWithin_r a0 30 M (d + 0))
  show mRunF _ _ (6, [some (.ref 0), some (.int a0), some (.int a1), some (.int a2)], [.int (Md_isWithin a0 30 M)], mSS M)
  refine R_eq (t := 29) ⟨23, by decide +kernel⟩ (fun q => ?_) (fun q => ?_)
  · rw [if_pos q] at h
    refine mRunF.sg (mSl mk_141 13 1) (g := (30, [some (.ref 0), some (.int a0), some (.int a1), some (.int a2)], [.int (-1)], mSS M)) (by decide +kernel) rfl ?_
    cases h
    exact R_iret (by decide +kernel)
  · rw [if_neg q] at h
    refine mRunF.sg (mSl mk_141 4 2) (g := (11, [some (.ref 0), some (.int a0), some (.int a1), some (.int a2)], [.int a1, .ref 0], mSS M)) (by decide +kernel) rfl ?_
    refine R_callV (mi := 163) (na := 2) (ci := 11) (i := 0) (as := [.int a1]) (r := []) (rv := some (.int (Md_isHour a1 M))) (σ1 := mSS M) ⟨142, by decide +kernel⟩ rfl rfl rfl rfl (Md_isHour_r a1 M (d + 0)) ?_
    have b2 := mBool rfl (Md_isHour_r a1 M (d + 0))
    show mRunF _ _ (14, [some (.ref 0), some (.int a0), some (.int a1), some (.int a2)], [.int (Md_isHour a1 M)], mSS M)
    refine R_eq (t := 29) ⟨15, by decide +kernel⟩ (fun q => ?_) (fun q => ?_)
    · rw [if_pos q] at h
      refine mRunF.sg (mSl mk_141 13 1) (g := (30, [some (.ref 0), some (.int a0), some (.int a1), some (.int a2)], [.int (-1)], mSS M)) (by decide +kernel) rfl ?_
      cases h
      exact R_iret (by decide +kernel)
    · rw [if_neg q] at h
      refine mRunF.sg (mSl mk_141 8 4) (g := (26, [some (.ref 0), some (.int a0), some (.int a1), some (.int a2)], [.int 20, .int (M.1 59 0)], mSS M)) (by decide +kernel) rfl ?_
      refine R_ilt (t := 31) ⟨5, by decide +kernel⟩ (fun q => ?_) (fun q => ?_)
      · rw [if_pos q] at h
        refine mRunF.sg (mSl mk_141 15 5) (g := (38, [some (.ref 0), some (.int a0), some (.int a1), some (.int a2)], [.int a2, .int a1, .int a0, .ref 59], mSS M)) (by decide +kernel) rfl ?_
        obtain ⟨M4, q3, h⟩ := bV_of h
        refine R_callV (mi := 49) (na := 4) (ci := 5) (i := 59) (as := [.int a0, .int a1, .int a2]) (r := []) (rv := none) (σ1 := mSS M4) ⟨290, by decide +kernel⟩ rfl rfl rfl rfl (Rd_add_r N a0 a1 a2 M (d + 0) q3) ?_
        show mRunF _ _ (41, [some (.ref 0), some (.int a0), some (.int a1), some (.int a2)], [], mSS M4)
        refine mRunF.sg (mSl mk_141 21 5) (g := (50, [some (.ref 0), some (.int a0), some (.int a1), some (.int a2)], [.int ((M4.1 59 0) - 1)], mSS M4)) (by decide +kernel) rfl ?_
        cases h
        exact R_iret (by decide +kernel)
      · rw [if_neg q] at h
        refine mRunF.sg (mSl mk_141 13 1) (g := (30, [some (.ref 0), some (.int a0), some (.int a1), some (.int a2)], [.int (-1)], mSS M)) (by decide +kernel) rfl ?_
        cases h
        exact R_iret (by decide +kernel)
set_option maxRecDepth 100000 in
set_option maxHeartbeats 4000000 in
theorem Md_forget_r (N : Nat)  (M : mS) {r : Int32} {M' : mS} (d : Nat) (h : Md_forget N M = some (r, M')) : mMet mP mTx (d + 1) 142 [.ref 0] (mSS M) (some (.int r)) (mSS M') := by
  refine mMet_i ⟨Nat.le_refl _, Nat.le_refl _, Nat.le_of_ble_eq_true rfl⟩ ?_
  unfold Md_forget at h
  show mRunF (mCd 142) (mEE (mMet mP mTx (d + 0)) (some .int) (some (.int r)) M') (0, [some (.ref 0), none], [], mSS M)
  refine mRunF.sg (mSl mk_142 0 4) (g := (8, [some (.ref 0), some (.int (M.1 59 0))], [], mSS M)) (by decide +kernel) rfl ?_
  obtain ⟨v1, hv, h⟩ := nxt_ex h
  rw [← hv]
  clear hv
  refine mRunF.sg (mSl mk_142 4 4) (g := (16, [some (.ref 0), some (.int v1)], [], mSS (mWI M 59 0 0))) (by decide +kernel) rfl ?_
  obtain ⟨M2, hv, h⟩ := nxt_ex h
  rw [← hv]
  clear hv
  refine mRunF.sg (mSl mk_142 8 1) (g := (17, [some (.ref 0), some (.int v1)], [.int v1], mSS M2)) (by decide +kernel) rfl ?_
  cases h
  exact R_iret (by decide +kernel)
set_option maxRecDepth 100000 in
set_option maxHeartbeats 4000000 in
theorem Rd_isSo_58_r {N d : Nat} {k3 : Int32 → Int32 → Int32 → Int32 → Option Int32} {M : mS} {x1 : Int32} {x2 : Int32} {x3 : Int32} {x4 : Int32} {r : Int32} (hk3 : ∀ (x1 : Int32) (x2 : Int32) (x3 : Int32) (x4 : Int32), k3 x1 x2 x3 x4 = some r → mRunF (mCd 51) (mEE (mMet mP mTx (d + 0)) (some .boolean) (some (.int r)) M) (3, [some (.ref 59), some (.int x1), some (.int x2), some (.int x3), some (.int x4)], [], mSS M)) (h : Rd_isSo_58 N k3 M x1 x2 x3 x4 = some r) : mRunF (mCd 51) (mEE (mMet mP mTx (d + 0)) (some .boolean) (some (.int r)) M) (58, [some (.ref 59), some (.int x1), some (.int x2), some (.int x3), some (.int x4)], [], mSS M) := by
  unfold Rd_isSo_58 at h
  refine mRunF.sg (mSl mk_51 33 2) (g := (3, [some (.ref 59), some (.int x1), some (.int x2), some (.int x3), some (.int (x4 + 1))], [], mSS M)) (by decide +kernel) rfl ?_
  exact hk3 _ _ _ _ h
set_option maxRecDepth 100000 in
set_option maxHeartbeats 4000000 in
theorem Rd_isSo_53_r {N d : Nat} {k3 : Int32 → Int32 → Int32 → Int32 → Option Int32} {M : mS} {x1 : Int32} {x2 : Int32} {x3 : Int32} {x4 : Int32} {z0 : Int32} {z1 : Int32} {r : Int32} (hk3 : ∀ (x1 : Int32) (x2 : Int32) (x3 : Int32) (x4 : Int32), k3 x1 x2 x3 x4 = some r → mRunF (mCd 51) (mEE (mMet mP mTx (d + 0)) (some .boolean) (some (.int r)) M) (3, [some (.ref 59), some (.int x1), some (.int x2), some (.int x3), some (.int x4)], [], mSS M)) (h : Rd_isSo_53 N k3 M x1 x2 x3 x4 z0 z1 = some r) : mRunF (mCd 51) (mEE (mMet mP mTx (d + 0)) (some .boolean) (some (.int r)) M) (53, [some (.ref 59), some (.int x1), some (.int x2), some (.int x3), some (.int x4)], [.int z1, .int z0], mSS M) := by
  unfold Rd_isSo_53 at h
  refine R_ieq (t := 58) ⟨5, by decide +kernel⟩ (fun q => ?_) (fun q => ?_)
  · rw [if_pos q] at h
    exact Rd_isSo_58_r hk3 h
  · rw [if_neg q] at h
    refine mRunF.sg (mSl mk_51 31 1) (g := (57, [some (.ref 59), some (.int x1), some (.int x2), some (.int x3), some (.int x4)], [.int 0], mSS M)) (by decide +kernel) rfl ?_
    cases h
    exact R_zret (by decide +kernel) (Or.inl rfl)
set_option maxRecDepth 100000 in
set_option maxHeartbeats 4000000 in
theorem Rd_isSo_3_r {N d : Nat}  {M : mS}  {r : Int32} : ∀ {n : Nat} {x1 : Int32} {x2 : Int32} {x3 : Int32} {x4 : Int32}, Rd_isSo_3 N M n x1 x2 x3 x4 = some r → mRunF (mCd 51) (mEE (mMet mP mTx (d + 0)) (some .boolean) (some (.int r)) M) (3, [some (.ref 59), some (.int x1), some (.int x2), some (.int x3), some (.int x4)], [], mSS M) := by
  intro n
  induction n with
  | zero => intro x1 x2 x3 x4 h; cases h
  | succ n ih =>
    replace ih := @ih
    intro x1 x2 x3 x4 h
    unfold Rd_isSo_3 at h
    refine mRunF.sg (mSl mk_51 2 2) (g := (6, [some (.ref 59), some (.int x1), some (.int x2), some (.int x3), some (.int x4)], [.int x3, .int x4], mSS M)) (by decide +kernel) rfl ?_
    refine R_ige (t := 64) ⟨58, by decide +kernel⟩ (fun q => ?_) (fun q => ?_)
    · rw [if_pos q] at h
      refine mRunF.sg (mSl mk_51 35 1) (g := (65, [some (.ref 59), some (.int x1), some (.int x2), some (.int x3), some (.int x4)], [.int 1], mSS M)) (by decide +kernel) rfl ?_
      cases h
      exact R_zret (by decide +kernel) (Or.inr rfl)
    · rw [if_neg q] at h
      refine mRunF.sg (mSl mk_51 5 2) (g := (13, [some (.ref 59), some (.int x1), some (.int x2), some (.int x3), some (.int x4)], [.int 20, .int x4], mSS M)) (by decide +kernel) rfl ?_
      refine R_ige (t := 64) ⟨51, by decide +kernel⟩ (fun q => ?_) (fun q => ?_)
      · rw [if_pos q] at h
        refine mRunF.sg (mSl mk_51 35 1) (g := (65, [some (.ref 59), some (.int x1), some (.int x2), some (.int x3), some (.int x4)], [.int 1], mSS M)) (by decide +kernel) rfl ?_
        cases h
        exact R_zret (by decide +kernel) (Or.inr rfl)
      · rw [if_neg q] at h
        refine mRunF.sg (mSl mk_51 8 3) (g := (22, [some (.ref 59), some (.int x1), some (.int x2), some (.int x3), some (.int x4)], [.int x4, .ref 60], mSS M)) (by decide +kernel) rfl ?_
        obtain ⟨g1, h⟩ := grd_of h
        refine R_iald (by decide +kernel) rfl g1 ?_
        refine mRunF.sg (mSl mk_51 12 1) (g := (24, [some (.ref 59), some (.int x1), some (.int x2), some (.int x3), some (.int x4)], [.int x1, .int (M.1 60 x4.toNatClampNeg)], mSS M)) (by decide +kernel) rfl ?_
        refine R_ine (t := 58) ⟨34, by decide +kernel⟩ (fun q => ?_) (fun q => ?_)
        · rw [if_pos q] at h
          refine mRunF.sg (mSl mk_51 14 3) (g := (33, [some (.ref 59), some (.int x1), some (.int x2), some (.int x3), some (.int x4)], [.int x4, .ref 62], mSS M)) (by decide +kernel) rfl ?_
          obtain ⟨g2, h⟩ := grd_of h
          refine R_bald (by decide +kernel) rfl g2 ?_
          refine mRunF.sg (mSl mk_51 18 4) (g := (41, [some (.ref 59), some (.int x1), some (.int x2), some (.int x3), some (.int x4)], [.int x4, .ref 61, .int x2, .int (M.1 62 x4.toNatClampNeg)], mSS M)) (by decide +kernel) rfl ?_
          obtain ⟨g3, h⟩ := grd_of h
          refine R_iald (by decide +kernel) rfl g3 ?_
          refine mRunF.sg (mSl mk_51 23 3) (g := (45, [some (.ref 59), some (.int x1), some (.int x2), some (.int x3), some (.int x4)], [.int ((x2 >>> ((M.1 61 x4.toNatClampNeg) &&& 31)) &&& 1), .int (M.1 62 x4.toNatClampNeg)], mSS M)) (by decide +kernel) rfl ?_
          refine R_eq (t := 52) ⟨7, by decide +kernel⟩ (fun q => ?_) (fun q => ?_)
          · rw [if_pos q] at h
            refine mRunF.sg (mSl mk_51 29 1) (g := (53, [some (.ref 59), some (.int x1), some (.int x2), some (.int x3), some (.int x4)], [.int 0, .int (M.1 62 x4.toNatClampNeg)], mSS M)) (by decide +kernel) rfl ?_
            exact Rd_isSo_53_r (fun y0 y1 y2 y3 hh => @ih y0 y1 y2 y3 hh) h
          · rw [if_neg q] at h
            refine mRunF.sg (mSl mk_51 27 2) (g := (53, [some (.ref 59), some (.int x1), some (.int x2), some (.int x3), some (.int x4)], [.int 1, .int (M.1 62 x4.toNatClampNeg)], mSS M)) (by decide +kernel) rfl ?_
            exact Rd_isSo_53_r (fun y0 y1 y2 y3 hh => @ih y0 y1 y2 y3 hh) h
        · rw [if_neg q] at h
          exact Rd_isSo_58_r (fun y0 y1 y2 y3 hh => @ih y0 y1 y2 y3 hh) h
set_option maxRecDepth 100000 in
set_option maxHeartbeats 4000000 in
theorem Rd_isSo_r (N : Nat) (a0 : Int32) (a1 : Int32) (a2 : Int32) (M : mS) {r : Int32} (d : Nat) (h : Rd_isSo N a0 a1 a2 M = some r) : mMet mP mTx (d + 1) 51 [.ref 59, .int a0, .int a1, .int a2] (mSS M) (some (.int r)) (mSS M) := by
  refine mMet_i ⟨Nat.le_refl _, Nat.le_refl _, Nat.le_of_ble_eq_true rfl⟩ ?_
  unfold Rd_isSo at h
  show mRunF (mCd 51) (mEE (mMet mP mTx (d + 0)) (some .boolean) (some (.int r)) M) (0, [some (.ref 59), some (.int a0), some (.int a1), some (.int a2), none], [], mSS M)
  refine mRunF.sg (mSl mk_51 0 2) (g := (3, [some (.ref 59), some (.int a0), some (.int a1), some (.int a2), some (.int 0)], [], mSS M)) (by decide +kernel) rfl ?_
  exact Rd_isSo_3_r h
set_option maxRecDepth 100000 in
set_option maxHeartbeats 4000000 in
theorem Rd_fitting_98_r {N d : Nat} {k6 : Int32 → Int32 → Int32 → Int32 → Int32 → mS → Option (Int32 × mS)} {k54 : Int32 → Int32 → Int32 → Int32 → Int32 → Int32 → Int32 → mS → Option (Int32 × mS)} {M : mS} {x2 : Int32} {x3 : Int32} {x4 : Int32} {x5 : Int32} {x6 : Int32} {x8 : Int32} {z0 : Int32} {r : Int32} {M' : mS} (hk6 : ∀ (x2 : Int32) (x3 : Int32) (x4 : Int32) (x5 : Int32) (x6 : Int32) (M : mS), k6 x2 x3 x4 x5 x6 M = some (r, M') → mRunF (mCd 50) (mEE (mMet mP mTx (d + 4)) (some .int) (some (.int r)) M') (6, [some (.ref 59), some (.ref 34), some (.int x2), some (.int x3), some (.int x4), some (.int x5), some (.int x6), none, none], [], mSS M)) (hk54 : ∀ (x2 : Int32) (x3 : Int32) (x4 : Int32) (x5 : Int32) (x6 : Int32) (x7 : Int32) (x8 : Int32) (M : mS), k54 x2 x3 x4 x5 x6 x7 x8 M = some (r, M') → mRunF (mCd 50) (mEE (mMet mP mTx (d + 4)) (some .int) (some (.int r)) M') (54, [some (.ref 59), some (.ref 34), some (.int x2), some (.int x3), some (.int x4), some (.int x5), some (.int x6), some (.int x7), some (.int x8)], [], mSS M)) (h : Rd_fitting_98 N k6 k54 x2 x3 x4 x5 x6 x8 z0 M = some (r, M')) : mRunF (mCd 50) (mEE (mMet mP mTx (d + 4)) (some .int) (some (.int r)) M') (98, [some (.ref 59), some (.ref 34), some (.int x2), some (.int x3), some (.int x4), some (.int x5), some (.int x6), none, some (.int x8)], [.int z0], mSS M) := by
  unfold Rd_fitting_98 at h
  refine mRunF.sg (mSl mk_50 52 5) (g := (107, [some (.ref 59), some (.ref 34), some (.int x2), some (.int x3), some (.int x4), some (.int x5), some (.int x6), some (.int z0), some (.int x8)], [.int x6, .ref 63, .int x6, .ref 63], mSS M)) (by decide +kernel) rfl ?_
  obtain ⟨g1, h⟩ := grd_of h
  refine R_iald (by decide +kernel) rfl g1 ?_
  refine mRunF.sg (mSl mk_50 58 4) (g := (116, [some (.ref 59), some (.ref 34), some (.int x2), some (.int x3), some (.int x4), some (.int x5), some (.int x6), some (.int z0), some (.int x8)], [.int x3, .ref 41, .int (M.1 63 x6.toNatClampNeg), .int x6, .ref 63], mSS M)) (by decide +kernel) rfl ?_
  obtain ⟨g2, h⟩ := grd_of h
  refine R_iald (by decide +kernel) rfl g2 ?_
  refine mRunF.sg (mSl mk_50 63 7) (g := (126, [some (.ref 59), some (.ref 34), some (.int x2), some (.int x3), some (.int x4), some (.int x5), some (.int x6), some (.int z0), some (.int x8)], [.int ((M.1 63 x6.toNatClampNeg) ||| ((((M.1 41 x3.toNatClampNeg) >>> (x4 &&& 31)) &&& 1) <<< (x8 &&& 31))), .int x6, .ref 63], mSS M)) (by decide +kernel) rfl ?_
  obtain ⟨g3, h⟩ := grd_of h
  refine R_iast (by decide +kernel) rfl g3 ?_
  obtain ⟨M4, hv, h⟩ := nxt_ex h
  rw [← hv]
  clear hv
  refine mRunF.sg (mSl mk_50 71 2) (g := (131, [some (.ref 59), some (.ref 34), some (.int x2), some (.int x3), some (.int x4), some (.int x5), some (.int x6), some (.int z0), some (.int x8)], [.ref 39], mSS M4)) (by decide +kernel) rfl ?_
  obtain ⟨M6, q5, h⟩ := bV_of h
  refine R_callV (mi := 92) (na := 1) (ci := 10) (i := 39) (as := []) (r := []) (rv := none) (σ1 := mSS M6) ⟨62, by decide +kernel⟩ rfl rfl rfl rfl (Wk_pass_r N M4 (d + 2) q5) ?_
  show mRunF _ _ (134, [some (.ref 59), some (.ref 34), some (.int x2), some (.int x3), some (.int x4), some (.int x5), some (.int x6), some (.int z0), some (.int x8)], [], mSS M6)
  refine mRunF.sg (mSl mk_50 74 2) (g := (54, [some (.ref 59), some (.ref 34), some (.int x2), some (.int x3), some (.int x4), some (.int x5), some (.int x6), some (.int z0), some (.int (x8 + 1))], [], mSS M6)) (by decide +kernel) rfl ?_
  exact hk54 _ _ _ _ _ _ _ _ h
set_option maxRecDepth 100000 in
set_option maxHeartbeats 4000000 in
theorem Rd_fitting_97_r {N d : Nat} {k6 : Int32 → Int32 → Int32 → Int32 → Int32 → mS → Option (Int32 × mS)} {k54 : Int32 → Int32 → Int32 → Int32 → Int32 → Int32 → Int32 → mS → Option (Int32 × mS)} {M : mS} {x2 : Int32} {x3 : Int32} {x4 : Int32} {x5 : Int32} {x6 : Int32} {x8 : Int32} {r : Int32} {M' : mS} (hk6 : ∀ (x2 : Int32) (x3 : Int32) (x4 : Int32) (x5 : Int32) (x6 : Int32) (M : mS), k6 x2 x3 x4 x5 x6 M = some (r, M') → mRunF (mCd 50) (mEE (mMet mP mTx (d + 4)) (some .int) (some (.int r)) M') (6, [some (.ref 59), some (.ref 34), some (.int x2), some (.int x3), some (.int x4), some (.int x5), some (.int x6), none, none], [], mSS M)) (hk54 : ∀ (x2 : Int32) (x3 : Int32) (x4 : Int32) (x5 : Int32) (x6 : Int32) (x7 : Int32) (x8 : Int32) (M : mS), k54 x2 x3 x4 x5 x6 x7 x8 M = some (r, M') → mRunF (mCd 50) (mEE (mMet mP mTx (d + 4)) (some .int) (some (.int r)) M') (54, [some (.ref 59), some (.ref 34), some (.int x2), some (.int x3), some (.int x4), some (.int x5), some (.int x6), some (.int x7), some (.int x8)], [], mSS M)) (h : Rd_fitting_97 N k6 k54 x2 x3 x4 x5 x6 x8 M = some (r, M')) : mRunF (mCd 50) (mEE (mMet mP mTx (d + 4)) (some .int) (some (.int r)) M') (97, [some (.ref 59), some (.ref 34), some (.int x2), some (.int x3), some (.int x4), some (.int x5), some (.int x6), none, some (.int x8)], [], mSS M) := by
  unfold Rd_fitting_97 at h
  refine mRunF.sg (mSl mk_50 51 1) (g := (98, [some (.ref 59), some (.ref 34), some (.int x2), some (.int x3), some (.int x4), some (.int x5), some (.int x6), none, some (.int x8)], [.int 0], mSS M)) (by decide +kernel) rfl ?_
  exact Rd_fitting_98_r hk6 hk54 h
set_option maxRecDepth 100000 in
set_option maxHeartbeats 4000000 in
theorem Rd_fitting_154_r {N d : Nat} {k6 : Int32 → Int32 → Int32 → Int32 → Int32 → mS → Option (Int32 × mS)} {M : mS} {x2 : Int32} {x3 : Int32} {x4 : Int32} {x5 : Int32} {x6 : Int32} {r : Int32} {M' : mS} (hk6 : ∀ (x2 : Int32) (x3 : Int32) (x4 : Int32) (x5 : Int32) (x6 : Int32) (M : mS), k6 x2 x3 x4 x5 x6 M = some (r, M') → mRunF (mCd 50) (mEE (mMet mP mTx (d + 4)) (some .int) (some (.int r)) M') (6, [some (.ref 59), some (.ref 34), some (.int x2), some (.int x3), some (.int x4), some (.int x5), some (.int x6), none, none], [], mSS M)) (h : Rd_fitting_154 N k6 x2 x3 x4 x5 x6 M = some (r, M')) : mRunF (mCd 50) (mEE (mMet mP mTx (d + 4)) (some .int) (some (.int r)) M') (154, [some (.ref 59), some (.ref 34), some (.int x2), some (.int x3), some (.int x4), some (.int x5), some (.int x6), none, none], [], mSS M) := by
  unfold Rd_fitting_154 at h
  refine mRunF.sg (mSl mk_50 84 2) (g := (6, [some (.ref 59), some (.ref 34), some (.int x2), some (.int x3), some (.int x4), some (.int x5), some (.int (x6 + 1)), none, none], [], mSS M)) (by decide +kernel) rfl ?_
  exact hk6 _ _ _ _ _ _ h
set_option maxRecDepth 100000 in
set_option maxHeartbeats 4000000 in
theorem Rd_fitting_54_r {N d : Nat} {k6 : Int32 → Int32 → Int32 → Int32 → Int32 → mS → Option (Int32 × mS)}  {r : Int32} {M' : mS} (hk6 : ∀ (x2 : Int32) (x3 : Int32) (x4 : Int32) (x5 : Int32) (x6 : Int32) (M : mS), k6 x2 x3 x4 x5 x6 M = some (r, M') → mRunF (mCd 50) (mEE (mMet mP mTx (d + 4)) (some .int) (some (.int r)) M') (6, [some (.ref 59), some (.ref 34), some (.int x2), some (.int x3), some (.int x4), some (.int x5), some (.int x6), none, none], [], mSS M)) : ∀ {n : Nat} {x2 : Int32} {x3 : Int32} {x4 : Int32} {x5 : Int32} {x6 : Int32} {x7 : Int32} {x8 : Int32} {M : mS}, Rd_fitting_54 N k6 n x2 x3 x4 x5 x6 x7 x8 M = some (r, M') → mRunF (mCd 50) (mEE (mMet mP mTx (d + 4)) (some .int) (some (.int r)) M') (54, [some (.ref 59), some (.ref 34), some (.int x2), some (.int x3), some (.int x4), some (.int x5), some (.int x6), some (.int x7), some (.int x8)], [], mSS M) := by
  intro n
  induction n with
  | zero => intro x2 x3 x4 x5 x6 x7 x8 M h; cases h
  | succ n ih =>
    replace ih := @ih
    intro x2 x3 x4 x5 x6 x7 x8 M h
    unfold Rd_fitting_54 at h
    refine mRunF.sg (mSl mk_50 30 2) (g := (58, [some (.ref 59), some (.ref 34), some (.int x2), some (.int x3), some (.int x4), some (.int x5), some (.int x6), some (.int x7), some (.int x8)], [.int 30, .int x8], mSS M)) (by decide +kernel) rfl ?_
    refine R_igt (t := 140) ⟨82, by decide +kernel⟩ (fun q => ?_) (fun q => ?_)
    · rw [if_pos q] at h
      refine mRunF.sg (mSl mk_50 76 1) (g := (142, [some (.ref 59), some (.ref 34), some (.int x2), some (.int x3), some (.int x4), some (.int x5), some (.int x6), some (.int x7), some (.int x8)], [.int x7], mSS M)) (by decide +kernel) rfl ?_
      refine R_eq (t := 154) ⟨12, by decide +kernel⟩ (fun q => ?_) (fun q => ?_)
      · rw [if_pos q] at h
        refine mRunF.forget [true, true, true, true, true, true, true, false, false] ?_
        exact Rd_fitting_154_r hk6 h
      · rw [if_neg q] at h
        refine mRunF.sg (mSl mk_50 78 6) (g := (154, [some (.ref 59), some (.ref 34), some (.int x2), some (.int x3), some (.int x4), some (.int (x5 ||| ((1 : Int32) <<< (x6 &&& 31)))), some (.int x6), some (.int x7), some (.int x8)], [], mSS M)) (by decide +kernel) rfl ?_
        obtain ⟨v7, hv, h⟩ := nxt_ex h
        rw [← hv]
        clear hv
        refine mRunF.forget [true, true, true, true, true, true, true, false, false] ?_
        exact Rd_fitting_154_r hk6 h
    · rw [if_neg q] at h
      refine mRunF.sg (mSl mk_50 33 3) (g := (66, [some (.ref 59), some (.ref 34), some (.int x2), some (.int x3), some (.int x4), some (.int x5), some (.int x6), some (.int x7), some (.int x8)], [.int (-1), .ref 39], mSS M)) (by decide +kernel) rfl ?_
      obtain ⟨M9, q8, h⟩ := bV_of h
      refine R_callV (mi := 90) (na := 2) (ci := 10) (i := 39) (as := [.int (-1)]) (r := []) (rv := none) (σ1 := mSS M9) ⟨51, by decide +kernel⟩ rfl rfl rfl rfl (Wk_see_r N (-1) M (d + 0) q8) ?_
      show mRunF _ _ (69, [some (.ref 59), some (.ref 34), some (.int x2), some (.int x3), some (.int x4), some (.int x5), some (.int x6), some (.int x7), some (.int x8)], [], mSS M9)
      refine mRunF.sg (mSl mk_50 37 1) (g := (71, [some (.ref 59), some (.ref 34), some (.int x2), some (.int x3), some (.int x4), some (.int x5), some (.int x6), some (.int x7), some (.int x8)], [.int x7], mSS M9)) (by decide +kernel) rfl ?_
      refine R_eq (t := 97) ⟨26, by decide +kernel⟩ (fun q => ?_) (fun q => ?_)
      · rw [if_pos q] at h
        refine mRunF.forget [true, true, true, true, true, true, true, false, true] ?_
        exact Rd_fitting_97_r hk6 (fun y0 y1 y2 y3 y4 y5 y6 y7 hh => @ih y0 y1 y2 y3 y4 y5 y6 y7 hh) h
      · rw [if_neg q] at h
        refine mRunF.sg (mSl mk_50 39 6) (g := (85, [some (.ref 59), some (.ref 34), some (.int x2), some (.int x3), some (.int x4), some (.int x5), some (.int x6), some (.int x7), some (.int x8)], [.int x3, .ref 41, .int x8, .ref 59], mSS M9)) (by decide +kernel) rfl ?_
        obtain ⟨g10, h⟩ := grd_of h
        refine R_iald (by decide +kernel) rfl g10 ?_
        refine mRunF.sg (mSl mk_50 46 1) (g := (87, [some (.ref 59), some (.ref 34), some (.int x2), some (.int x3), some (.int x4), some (.int x5), some (.int x6), some (.int x7), some (.int x8)], [.int x2, .int (M9.1 41 x3.toNatClampNeg), .int x8, .ref 59], mSS M9)) (by decide +kernel) rfl ?_
        obtain ⟨r12, q11, h⟩ := bR_of h
        refine R_callV (mi := 51) (na := 4) (ci := 5) (i := 59) (as := [.int x8, .int (M9.1 41 x3.toNatClampNeg), .int x2]) (r := []) (rv := some (.int r12)) (σ1 := mSS M9) ⟨58, by decide +kernel⟩ rfl rfl rfl rfl (Rd_isSo_r N x8 (M9.1 41 x3.toNatClampNeg) x2 M9 (d + 3) q11) ?_
        have b13 := mBool rfl (Rd_isSo_r N x8 (M9.1 41 x3.toNatClampNeg) x2 M9 (d + 3) q11)
        show mRunF _ _ (90, [some (.ref 59), some (.ref 34), some (.int x2), some (.int x3), some (.int x4), some (.int x5), some (.int x6), some (.int x7), some (.int x8)], [.int r12], mSS M9)
        refine R_eq (t := 97) ⟨7, by decide +kernel⟩ (fun q => ?_) (fun q => ?_)
        · rw [if_pos q] at h
          refine mRunF.forget [true, true, true, true, true, true, true, false, true] ?_
          exact Rd_fitting_97_r hk6 (fun y0 y1 y2 y3 y4 y5 y6 y7 hh => @ih y0 y1 y2 y3 y4 y5 y6 y7 hh) h
        · rw [if_neg q] at h
          refine mRunF.sg (mSl mk_50 49 2) (g := (98, [some (.ref 59), some (.ref 34), some (.int x2), some (.int x3), some (.int x4), some (.int x5), some (.int x6), some (.int x7), some (.int x8)], [.int 1], mSS M9)) (by decide +kernel) rfl ?_
          refine mRunF.forget [true, true, true, true, true, true, true, false, true] ?_
          exact Rd_fitting_98_r hk6 (fun y0 y1 y2 y3 y4 y5 y6 y7 hh => @ih y0 y1 y2 y3 y4 y5 y6 y7 hh) h
set_option maxRecDepth 100000 in
set_option maxHeartbeats 4000000 in
theorem Rd_fitting_6_r {N d : Nat}   {r : Int32} {M' : mS} : ∀ {n : Nat} {x2 : Int32} {x3 : Int32} {x4 : Int32} {x5 : Int32} {x6 : Int32} {M : mS}, Rd_fitting_6 N n x2 x3 x4 x5 x6 M = some (r, M') → mRunF (mCd 50) (mEE (mMet mP mTx (d + 4)) (some .int) (some (.int r)) M') (6, [some (.ref 59), some (.ref 34), some (.int x2), some (.int x3), some (.int x4), some (.int x5), some (.int x6), none, none], [], mSS M) := by
  intro n
  induction n with
  | zero => intro x2 x3 x4 x5 x6 M h; cases h
  | succ n ih =>
    replace ih := @ih
    intro x2 x3 x4 x5 x6 M h
    unfold Rd_fitting_6 at h
    refine mRunF.sg (mSl mk_50 4 4) (g := (15, [some (.ref 59), some (.ref 34), some (.int x2), some (.int x3), some (.int x4), some (.int x5), some (.int x6), none, none], [.int (M.1 3 7), .int x6], mSS M)) (by decide +kernel) rfl ?_
    refine R_ige (t := 160) ⟨145, by decide +kernel⟩ (fun q => ?_) (fun q => ?_)
    · rw [if_pos q] at h
      refine mRunF.sg (mSl mk_50 86 1) (g := (162, [some (.ref 59), some (.ref 34), some (.int x2), some (.int x3), some (.int x4), some (.int x5), some (.int x6), none, none], [.int x5], mSS M)) (by decide +kernel) rfl ?_
      cases h
      exact R_iret (by decide +kernel)
    · rw [if_neg q] at h
      refine mRunF.sg (mSl mk_50 9 3) (g := (23, [some (.ref 59), some (.ref 34), some (.int x2), some (.int x3), some (.int x4), some (.int x5), some (.int x6), none, none], [.ref 34, .ref 39], mSS M)) (by decide +kernel) rfl ?_
      obtain ⟨M15, q14, h⟩ := bV_of h
      refine R_callV (mi := 89) (na := 2) (ci := 10) (i := 39) (as := [.ref 34]) (r := []) (rv := none) (σ1 := mSS M15) ⟨42, by decide +kernel⟩ rfl rfl rfl rfl (Wk_begin_r N M (d + 3) q14) ?_
      show mRunF _ _ (26, [some (.ref 59), some (.ref 34), some (.int x2), some (.int x3), some (.int x4), some (.int x5), some (.int x6), none, none], [], mSS M15)
      refine mRunF.sg (mSl mk_50 13 7) (g := (39, [some (.ref 59), some (.ref 34), some (.int x2), some (.int x3), some (.int x4), some (.int x5), some (.int x6), none, none], [.int x6, .int (9 + x3), .ref 40], mSS M15)) (by decide +kernel) rfl ?_
      obtain ⟨g16, h⟩ := grd_of h
      refine R_iast (by decide +kernel) rfl g16 ?_
      obtain ⟨M17, hv, h⟩ := nxt_ex h
      rw [← hv]
      clear hv
      refine mRunF.sg (mSl mk_50 21 4) (g := (47, [some (.ref 59), some (.ref 34), some (.int x2), some (.int x3), some (.int x4), some (.int x5), some (.int x6), none, none], [.int 0, .int x6, .ref 63], mSS M17)) (by decide +kernel) rfl ?_
      obtain ⟨g18, h⟩ := grd_of h
      refine R_iast (by decide +kernel) rfl g18 ?_
      obtain ⟨M19, hv, h⟩ := nxt_ex h
      rw [← hv]
      clear hv
      refine mRunF.sg (mSl mk_50 26 4) (g := (54, [some (.ref 59), some (.ref 34), some (.int x2), some (.int x3), some (.int x4), some (.int x5), some (.int x6), some (.int 1), some (.int 0)], [], mSS M19)) (by decide +kernel) rfl ?_
      exact Rd_fitting_54_r (fun y0 y1 y2 y3 y4 y5 hh => @ih y0 y1 y2 y3 y4 y5 hh) h
set_option maxRecDepth 100000 in
set_option maxHeartbeats 4000000 in
theorem Rd_fitting_r (N : Nat) (a0 : Int32) (a1 : Int32) (a2 : Int32) (M : mS) {r : Int32} {M' : mS} (d : Nat) (h : Rd_fitting N a0 a1 a2 M = some (r, M')) : mMet mP mTx (d + 5) 50 [.ref 59, .ref 34, .int a0, .int a1, .int a2] (mSS M) (some (.int r)) (mSS M') := by
  refine mMet_i ⟨Nat.le_refl _, Nat.le_refl _, Nat.le_of_ble_eq_true rfl⟩ ?_
  unfold Rd_fitting at h
  show mRunF (mCd 50) (mEE (mMet mP mTx (d + 4)) (some .int) (some (.int r)) M') (0, [some (.ref 59), some (.ref 34), some (.int a0), some (.int a1), some (.int a2), none, none, none, none], [], mSS M)
  refine mRunF.sg (mSl mk_50 0 4) (g := (6, [some (.ref 59), some (.ref 34), some (.int a0), some (.int a1), some (.int a2), some (.int 0), some (.int 0), none, none], [], mSS M)) (by decide +kernel) rfl ?_
  exact Rd_fitting_6_r h
set_option maxRecDepth 100000 in
set_option maxHeartbeats 4000000 in
theorem Md_fits_33_r {N d : Nat}  {M : mS} {x1 : Int32} {x2 : Int32} {x3 : Int32} {r : Int32} {M' : mS} (h : Md_fits_33 N x1 x2 x3 M = some (r, M')) : mRunF (mCd 143) (mEE (mMet mP mTx (d + 5)) (some .int) (some (.int r)) M') (33, [some (.ref 0), some (.int x1), some (.int x2), some (.int x3), none], [], mSS M) := by
  unfold Md_fits_33 at h
  refine mRunF.sg (mSl mk_143 17 7) (g := (44, [some (.ref 0), some (.int x1), some (.int x2), some (.int x3), none], [.int 0, .int x2, .int x1, .ref 34, .ref 59], mSS M)) (by decide +kernel) rfl ?_
  obtain ⟨r3, M2, q1, h⟩ := bW_of h
  refine R_callV (mi := 50) (na := 5) (ci := 5) (i := 59) (as := [.ref 34, .int x1, .int x2, .int 0]) (r := []) (rv := some (.int r3)) (σ1 := mSS M2) ⟨293, by decide +kernel⟩ rfl rfl rfl rfl (Rd_fitting_r N x1 x2 0 M (d + 0) q1) ?_
  show mRunF _ _ (47, [some (.ref 0), some (.int x1), some (.int x2), some (.int x3), none], [.int r3], mSS M2)
  refine mRunF.sg (mSl mk_143 25 2) (g := (50, [some (.ref 0), some (.int x1), some (.int x2), some (.int x3), some (.int r3)], [.int x3], mSS M2)) (by decide +kernel) rfl ?_
  refine R_ne (t := 61) ⟨11, by decide +kernel⟩ (fun q => ?_) (fun q => ?_)
  · rw [if_pos q] at h
    refine mRunF.sg (mSl mk_143 28 1) (g := (55, [some (.ref 0), some (.int x1), some (.int x2), some (.int x3), some (.int r3)], [.int r3], mSS M2)) (by decide +kernel) rfl ?_
    refine R_callS (mi := 308) (na := 1) (as := [.int r3]) (r := []) (rv := some (.int (Jl_bitCount r3 M2))) (σ1 := mSS M2) ⟨214, by decide +kernel⟩ rfl rfl rfl (Jl_bitCount_r r3 M2 (d + 4)) ?_
    show mRunF _ _ (58, [some (.ref 0), some (.int x1), some (.int x2), some (.int x3), some (.int r3)], [.int (Jl_bitCount r3 M2)], mSS M2)
    refine mRunF.sg (mSl mk_143 30 1) (g := (63, [some (.ref 0), some (.int x1), some (.int x2), some (.int x3), some (.int r3)], [.int (Jl_bitCount r3 M2)], mSS M2)) (by decide +kernel) rfl ?_
    cases h
    exact R_iret (by decide +kernel)
  · rw [if_neg q] at h
    refine mRunF.sg (mSl mk_143 31 1) (g := (63, [some (.ref 0), some (.int x1), some (.int x2), some (.int x3), some (.int r3)], [.int r3], mSS M2)) (by decide +kernel) rfl ?_
    cases h
    exact R_iret (by decide +kernel)
set_option maxRecDepth 100000 in
set_option maxHeartbeats 4000000 in
theorem Md_fits_r (N : Nat) (a0 : Int32) (a1 : Int32) (a2 : Int32) (M : mS) {r : Int32} {M' : mS} (d : Nat) (h : Md_fits N a0 a1 a2 M = some (r, M')) : mMet mP mTx (d + 6) 143 [.ref 0, .int a0, .int a1, .int a2] (mSS M) (some (.int r)) (mSS M') := by
  refine mMet_i ⟨Nat.le_refl _, Nat.le_refl _, Nat.le_of_ble_eq_true rfl⟩ ?_
  unfold Md_fits at h
  show mRunF (mCd 143) (mEE (mMet mP mTx (d + 5)) (some .int) (some (.int r)) M') (0, [some (.ref 0), some (.int a0), some (.int a1), some (.int a2), none], [], mSS M)
  refine mRunF.sg (mSl mk_143 0 4) (g := (8, [some (.ref 0), some (.int a0), some (.int a1), some (.int a2), none], [.int (M.1 59 0), .int a0], mSS M)) (by decide +kernel) rfl ?_
  refine R_callS (mi := 165) (na := 2) (as := [.int a0, .int (M.1 59 0)]) (r := []) (rv := some (.int (Md_isWithin a0 (M.1 59 0) M))) (σ1 := mSS M) ⟨179, by decide +kernel⟩ rfl rfl rfl (Md_isWithin_r a0 (M.1 59 0) M (d + 4)) ?_
  have b4 := mBool rfl (Md_isWithin_r a0 (M.1 59 0) M (d + 4))
  show mRunF _ _ (11, [some (.ref 0), some (.int a0), some (.int a1), some (.int a2), none], [.int (Md_isWithin a0 (M.1 59 0) M)], mSS M)
  refine R_eq (t := 31) ⟨20, by decide +kernel⟩ (fun q => ?_) (fun q => ?_)
  · rw [if_pos q] at h
    refine mRunF.sg (mSl mk_143 15 1) (g := (32, [some (.ref 0), some (.int a0), some (.int a1), some (.int a2), none], [.int (-1)], mSS M)) (by decide +kernel) rfl ?_
    cases h
    exact R_iret (by decide +kernel)
  · rw [if_neg q] at h
    refine mRunF.sg (mSl mk_143 6 2) (g := (16, [some (.ref 0), some (.int a0), some (.int a1), some (.int a2), none], [.int a1, .ref 0], mSS M)) (by decide +kernel) rfl ?_
    refine R_callV (mi := 161) (na := 2) (ci := 11) (i := 0) (as := [.int a1]) (r := []) (rv := some (.int (Md_isGoer a1 M))) (σ1 := mSS M) ⟨152, by decide +kernel⟩ rfl rfl rfl rfl (Md_isGoer_r a1 M (d + 4)) ?_
    have b5 := mBool rfl (Md_isGoer_r a1 M (d + 4))
    show mRunF _ _ (19, [some (.ref 0), some (.int a0), some (.int a1), some (.int a2), none], [.int (Md_isGoer a1 M)], mSS M)
    refine R_eq (t := 31) ⟨12, by decide +kernel⟩ (fun q => ?_) (fun q => ?_)
    · rw [if_pos q] at h
      refine mRunF.sg (mSl mk_143 15 1) (g := (32, [some (.ref 0), some (.int a0), some (.int a1), some (.int a2), none], [.int (-1)], mSS M)) (by decide +kernel) rfl ?_
      cases h
      exact R_iret (by decide +kernel)
    · rw [if_neg q] at h
      refine mRunF.sg (mSl mk_143 10 1) (g := (23, [some (.ref 0), some (.int a0), some (.int a1), some (.int a2), none], [.int a2], mSS M)) (by decide +kernel) rfl ?_
      refine R_eq (t := 33) ⟨10, by decide +kernel⟩ (fun q => ?_) (fun q => ?_)
      · rw [if_pos q] at h
        exact Md_fits_33_r h
      · rw [if_neg q] at h
        refine mRunF.sg (mSl mk_143 12 2) (g := (28, [some (.ref 0), some (.int a0), some (.int a1), some (.int a2), none], [.int 1, .int a2], mSS M)) (by decide +kernel) rfl ?_
        refine R_ieq (t := 33) ⟨5, by decide +kernel⟩ (fun q => ?_) (fun q => ?_)
        · rw [if_pos q] at h
          exact Md_fits_33_r h
        · rw [if_neg q] at h
          refine mRunF.sg (mSl mk_143 15 1) (g := (32, [some (.ref 0), some (.int a0), some (.int a1), some (.int a2), none], [.int (-1)], mSS M)) (by decide +kernel) rfl ?_
          cases h
          exact R_iret (by decide +kernel)
set_option maxRecDepth 100000 in
set_option maxHeartbeats 4000000 in
theorem Rd_leftAtWorst_40_r {N d : Nat} {k5 : Int32 → Int32 → Int32 → Int32 → Option Int32} {M : mS} {x1 : Int32} {x2 : Int32} {x3 : Int32} {x4 : Int32} {r : Int32} (hk5 : ∀ (x1 : Int32) (x2 : Int32) (x3 : Int32) (x4 : Int32), k5 x1 x2 x3 x4 = some r → mRunF (mCd 53) (mEE (mMet mP mTx (d + 1)) (some .int) (some (.int r)) M) (5, [some (.ref 59), some (.int x1), some (.int x2), some (.int x3), some (.int x4)], [], mSS M)) (h : Rd_leftAtWorst_40 N k5 M x1 x2 x3 x4 = some r) : mRunF (mCd 53) (mEE (mMet mP mTx (d + 1)) (some .int) (some (.int r)) M) (40, [some (.ref 59), some (.int x1), some (.int x2), some (.int x3), some (.int x4)], [], mSS M) := by
  unfold Rd_leftAtWorst_40 at h
  refine mRunF.sg (mSl mk_53 26 2) (g := (5, [some (.ref 59), some (.int x1), some (.int x2), some (.int x3), some (.int (x4 + 1))], [], mSS M)) (by decide +kernel) rfl ?_
  exact hk5 _ _ _ _ h
set_option maxRecDepth 100000 in
set_option maxHeartbeats 4000000 in
theorem Rd_leftAtWorst_5_r {N d : Nat}  {M : mS}  {r : Int32} : ∀ {n : Nat} {x1 : Int32} {x2 : Int32} {x3 : Int32} {x4 : Int32}, Rd_leftAtWorst_5 N M n x1 x2 x3 x4 = some r → mRunF (mCd 53) (mEE (mMet mP mTx (d + 1)) (some .int) (some (.int r)) M) (5, [some (.ref 59), some (.int x1), some (.int x2), some (.int x3), some (.int x4)], [], mSS M) := by
  intro n
  induction n with
  | zero => intro x1 x2 x3 x4 h; cases h
  | succ n ih =>
    replace ih := @ih
    intro x1 x2 x3 x4 h
    unfold Rd_leftAtWorst_5 at h
    refine mRunF.sg (mSl mk_53 4 4) (g := (14, [some (.ref 59), some (.int x1), some (.int x2), some (.int x3), some (.int x4)], [.int (M.1 3 7), .int x4], mSS M)) (by decide +kernel) rfl ?_
    refine R_ige (t := 46) ⟨32, by decide +kernel⟩ (fun q => ?_) (fun q => ?_)
    · rw [if_pos q] at h
      refine mRunF.sg (mSl mk_53 28 2) (g := (48, [some (.ref 59), some (.int x1), some (.int x2), some (.int x3), some (.int x4)], [.int x1, .int x3], mSS M)) (by decide +kernel) rfl ?_
      refine R_callS (mi := 308) (na := 1) (as := [.int x1]) (r := [.int x3]) (rv := some (.int (Jl_bitCount x1 M))) (σ1 := mSS M) ⟨69, by decide +kernel⟩ rfl rfl rfl (Jl_bitCount_r x1 M (d + 0)) ?_
      show mRunF _ _ (51, [some (.ref 59), some (.int x1), some (.int x2), some (.int x3), some (.int x4)], [.int (Jl_bitCount x1 M), .int x3], mSS M)
      refine mRunF.sg (mSl mk_53 31 2) (g := (53, [some (.ref 59), some (.int x1), some (.int x2), some (.int x3), some (.int x4)], [.int ((Jl_bitCount x1 M) - x3), .int x3], mSS M)) (by decide +kernel) rfl ?_
      refine R_max ⟨75, by decide +kernel⟩ rfl ?_
      cases h
      exact R_iret (by decide +kernel)
    · rw [if_neg q] at h
      refine mRunF.sg (mSl mk_53 9 5) (g := (23, [some (.ref 59), some (.int x1), some (.int x2), some (.int x3), some (.int x4)], [.int ((x1 >>> (x4 &&& 31)) &&& 1)], mSS M)) (by decide +kernel) rfl ?_
      refine R_eq (t := 40) ⟨17, by decide +kernel⟩ (fun q => ?_) (fun q => ?_)
      · rw [if_pos q] at h
        exact Rd_leftAtWorst_40_r (fun y0 y1 y2 y3 hh => @ih y0 y1 y2 y3 hh) h
      · rw [if_neg q] at h
        refine mRunF.sg (mSl mk_53 15 4) (g := (33, [some (.ref 59), some (.int x1), some (.int x2), some (.int x3), some (.int x4)], [.int x4, .ref 63, .int x3], mSS M)) (by decide +kernel) rfl ?_
        obtain ⟨g1, h⟩ := grd_of h
        refine R_iald (by decide +kernel) rfl g1 ?_
        refine mRunF.sg (mSl mk_53 20 6) (g := (40, [some (.ref 59), some (.int x1), some (.int x2), some (.int (x3 + (((M.1 63 x4.toNatClampNeg) >>> (x2 &&& 31)) &&& 1))), some (.int x4)], [], mSS M)) (by decide +kernel) rfl ?_
        obtain ⟨v2, hv, h⟩ := nxt_ex h
        rw [← hv]
        clear hv
        exact Rd_leftAtWorst_40_r (fun y0 y1 y2 y3 hh => @ih y0 y1 y2 y3 hh) h
set_option maxRecDepth 100000 in
set_option maxHeartbeats 4000000 in
theorem Rd_leftAtWorst_r (N : Nat) (a0 : Int32) (a1 : Int32) (M : mS) {r : Int32} (d : Nat) (h : Rd_leftAtWorst N a0 a1 M = some r) : mMet mP mTx (d + 2) 53 [.ref 59, .int a0, .int a1] (mSS M) (some (.int r)) (mSS M) := by
  refine mMet_i ⟨Nat.le_refl _, Nat.le_refl _, Nat.le_of_ble_eq_true rfl⟩ ?_
  unfold Rd_leftAtWorst at h
  show mRunF (mCd 53) (mEE (mMet mP mTx (d + 1)) (some .int) (some (.int r)) M) (0, [some (.ref 59), some (.int a0), some (.int a1), none, none], [], mSS M)
  refine mRunF.sg (mSl mk_53 0 4) (g := (5, [some (.ref 59), some (.int a0), some (.int a1), some (.int 0), some (.int 0)], [], mSS M)) (by decide +kernel) rfl ?_
  exact Rd_leftAtWorst_5_r h
set_option maxRecDepth 100000 in
set_option maxHeartbeats 4000000 in
theorem Rd_bestNight_27_r {N d : Nat} {k4 : Int32 → Int32 → Int32 → Option Int32} {M : mS} {x1 : Int32} {x2 : Int32} {x3 : Int32} {r : Int32} (hk4 : ∀ (x1 : Int32) (x2 : Int32) (x3 : Int32), k4 x1 x2 x3 = some r → mRunF (mCd 52) (mEE (mMet mP mTx (d + 2)) (some .int) (some (.int r)) M) (4, [some (.ref 59), some (.int x1), some (.int x2), some (.int x3)], [], mSS M)) (h : Rd_bestNight_27 N k4 M x1 x2 x3 = some r) : mRunF (mCd 52) (mEE (mMet mP mTx (d + 2)) (some .int) (some (.int r)) M) (27, [some (.ref 59), some (.int x1), some (.int x2), some (.int x3)], [], mSS M) := by
  unfold Rd_bestNight_27 at h
  refine mRunF.sg (mSl mk_52 18 2) (g := (4, [some (.ref 59), some (.int x1), some (.int x2), some (.int (x3 + 1))], [], mSS M)) (by decide +kernel) rfl ?_
  exact hk4 _ _ _ h
set_option maxRecDepth 100000 in
set_option maxHeartbeats 4000000 in
theorem Rd_bestNight_4_r {N d : Nat}  {M : mS}  {r : Int32} : ∀ {n : Nat} {x1 : Int32} {x2 : Int32} {x3 : Int32}, Rd_bestNight_4 N M n x1 x2 x3 = some r → mRunF (mCd 52) (mEE (mMet mP mTx (d + 2)) (some .int) (some (.int r)) M) (4, [some (.ref 59), some (.int x1), some (.int x2), some (.int x3)], [], mSS M) := by
  intro n
  induction n with
  | zero => intro x1 x2 x3 h; cases h
  | succ n ih =>
    replace ih := @ih
    intro x1 x2 x3 h
    unfold Rd_bestNight_4 at h
    refine mRunF.sg (mSl mk_52 4 2) (g := (7, [some (.ref 59), some (.int x1), some (.int x2), some (.int x3)], [.int 30, .int x3], mSS M)) (by decide +kernel) rfl ?_
    refine R_igt (t := 33) ⟨26, by decide +kernel⟩ (fun q => ?_) (fun q => ?_)
    · rw [if_pos q] at h
      refine mRunF.sg (mSl mk_52 20 1) (g := (34, [some (.ref 59), some (.int x1), some (.int x2), some (.int x3)], [.int x2], mSS M)) (by decide +kernel) rfl ?_
      cases h
      exact R_iret (by decide +kernel)
    · rw [if_neg q] at h
      refine mRunF.sg (mSl mk_52 7 3) (g := (13, [some (.ref 59), some (.int x1), some (.int x2), some (.int x3)], [.int x3, .int x1, .ref 59], mSS M)) (by decide +kernel) rfl ?_
      obtain ⟨r2, q1, h⟩ := bR_of h
      refine R_callV (mi := 53) (na := 3) (ci := 5) (i := 59) (as := [.int x1, .int x3]) (r := []) (rv := some (.int r2)) (σ1 := mSS M) ⟨65, by decide +kernel⟩ rfl rfl rfl rfl (Rd_leftAtWorst_r N x1 x3 M (d + 0) q1) ?_
      show mRunF _ _ (16, [some (.ref 59), some (.int x1), some (.int x2), some (.int x3)], [.int r2], mSS M)
      refine mRunF.sg (mSl mk_52 11 3) (g := (19, [some (.ref 59), some (.int x1), some (.int x2), some (.int x3)], [.int x2, .int x1, .ref 59, .int r2], mSS M)) (by decide +kernel) rfl ?_
      obtain ⟨r4, q3, h⟩ := bR_of h
      refine R_callV (mi := 53) (na := 3) (ci := 5) (i := 59) (as := [.int x1, .int x2]) (r := [.int r2]) (rv := some (.int r4)) (σ1 := mSS M) ⟨65, by decide +kernel⟩ rfl rfl rfl rfl (Rd_leftAtWorst_r N x1 x2 M (d + 0) q3) ?_
      show mRunF _ _ (22, [some (.ref 59), some (.int x1), some (.int x2), some (.int x3)], [.int r4, .int r2], mSS M)
      refine R_ige (t := 27) ⟨5, by decide +kernel⟩ (fun q => ?_) (fun q => ?_)
      · rw [if_pos q] at h
        exact Rd_bestNight_27_r (fun y0 y1 y2 hh => @ih y0 y1 y2 hh) h
      · rw [if_neg q] at h
        refine mRunF.sg (mSl mk_52 16 2) (g := (27, [some (.ref 59), some (.int x1), some (.int x3), some (.int x3)], [], mSS M)) (by decide +kernel) rfl ?_
        exact Rd_bestNight_27_r (fun y0 y1 y2 hh => @ih y0 y1 y2 hh) h
set_option maxRecDepth 100000 in
set_option maxHeartbeats 4000000 in
theorem Rd_bestNight_r (N : Nat) (a0 : Int32) (M : mS) {r : Int32} (d : Nat) (h : Rd_bestNight N a0 M = some r) : mMet mP mTx (d + 3) 52 [.ref 59, .int a0] (mSS M) (some (.int r)) (mSS M) := by
  refine mMet_i ⟨Nat.le_refl _, Nat.le_refl _, Nat.le_of_ble_eq_true rfl⟩ ?_
  unfold Rd_bestNight at h
  show mRunF (mCd 52) (mEE (mMet mP mTx (d + 2)) (some .int) (some (.int r)) M) (0, [some (.ref 59), some (.int a0), none, none], [], mSS M)
  refine mRunF.sg (mSl mk_52 0 4) (g := (4, [some (.ref 59), some (.int a0), some (.int 0), some (.int 1)], [], mSS M)) (by decide +kernel) rfl ?_
  exact Rd_bestNight_4_r h
