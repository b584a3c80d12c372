/-! METHODS as functions, 5: printed by program -/
set_option maxRecDepth 100000 in
set_option maxHeartbeats 4000000 in
theorem Tl_pairFrom_s2_139_r {N d : Nat} {k68 : Int32 → Int32 → mS → Option mS} {M : mS} {x2 : Int32} {x3 : Int32} {M' : mS} (hk68 : ∀ (x2 : Int32) (x3 : Int32) (M : mS), k68 x2 x3 M = some M' → mRunF (mCd 68) (mEE (mMet mP mTx (d + 3)) (none) none M') (68, [some (.ref 45), some (.int 2), some (.int x2), some (.int x3)], [], mSS M)) (h : Tl_pairFrom_s2_139 N k68 x2 x3 M = some M') : mRunF (mCd 68) (mEE (mMet mP mTx (d + 3)) (none) none M') (139, [some (.ref 45), some (.int 2), some (.int x2), some (.int x3)], [], mSS M) := by
  unfold Tl_pairFrom_s2_139 at h
  refine mRunF.sg (mSl mk_68 87 2) (g := (68, [some (.ref 45), some (.int 2), some (.int x2), some (.int (x3 + 1))], [], mSS M)) (by decide +kernel) rfl ?_
  exact hk68 _ _ _ h
set_option maxRecDepth 100000 in
set_option maxHeartbeats 4000000 in
theorem Tl_pairFrom_s2_68_r {N d : Nat}   {M' : mS} : ∀ {n : Nat} {x2 : Int32} {x3 : Int32} {M : mS}, Tl_pairFrom_s2_68 N n x2 x3 M = some M' → mRunF (mCd 68) (mEE (mMet mP mTx (d + 3)) (none) none M') (68, [some (.ref 45), some (.int 2), some (.int x2), some (.int x3)], [], mSS M) := by
  intro n
  induction n with
  | zero => intro x2 x3 M h; cases h
  | succ n ih =>
    replace ih := @ih
    intro x2 x3 M h
    unfold Tl_pairFrom_s2_68 at h
    refine mRunF.sg (mSl mk_68 41 4) (g := (76, [some (.ref 45), some (.int 2), some (.int x2), some (.int x3)], [.int (M.1 3 8), .int x3], mSS M)) (by decide +kernel) rfl ?_
    refine R_ige (t := 145) ⟨69, by decide +kernel⟩ (fun q => ?_) (fun q => ?_)
    · rw [if_pos q] at h
      cases h
      exact R_vret (by decide +kernel)
    · rw [if_neg q] at h
      refine mRunF.sg (mSl mk_68 46 3) (g := (84, [some (.ref 45), some (.int 2), some (.int x2), some (.int x3)], [.int x3, .ref 49], mSS M)) (by decide +kernel) rfl ?_
      obtain ⟨g1, h⟩ := grd_of h
      refine R_iald (by decide +kernel) rfl g1 ?_
      refine mRunF.sg (mSl mk_68 50 1) (g := (87, [some (.ref 45), some (.int 2), some (.int x2), some (.int x3)], [.int (-2), .int (M.1 49 x3.toNatClampNeg)], mSS M)) (by decide +kernel) rfl ?_
      refine R_ine (t := 139) ⟨52, by decide +kernel⟩ (fun q => ?_) (fun q => ?_)
      · rw [if_pos q] at h
        refine mRunF.sg (mSl mk_68 52 4) (g := (96, [some (.ref 45), some (.int 2), some (.int x2), some (.int x3)], [.int x3, .int 2, .ref 49], mSS M)) (by decide +kernel) rfl ?_
        refine R_iast (by decide +kernel) rfl rfl ?_
        show mRunF _ _ (_, _, _, mSS (mWI M 49 2 x3))
        obtain ⟨M2, hv, h⟩ := nxt_ex h
        rw [← hv]
        clear hv
        refine mRunF.sg (mSl mk_68 57 4) (g := (103, [some (.ref 45), some (.int 2), some (.int x2), some (.int x3)], [.int 2, .int x3, .ref 49], mSS M2)) (by decide +kernel) rfl ?_
        obtain ⟨g3, h⟩ := grd_of h
        refine R_iast (by decide +kernel) rfl g3 ?_
        obtain ⟨M4, hv, h⟩ := nxt_ex h
        rw [← hv]
        clear hv
        refine mRunF.sg (mSl mk_68 62 12) (g := (118, [some (.ref 45), some (.int 2), some (.int x2), some (.int x3)], [.int ((2 * 5) + x3), .ref 47, .int x2, .int (2 + 1), .ref 45], mSS M4)) (by decide +kernel) rfl ?_
        obtain ⟨g5, h⟩ := grd_of h
        refine R_iald (by decide +kernel) rfl g5 ?_
        refine mRunF.sg (mSl mk_68 75 1) (g := (120, [some (.ref 45), some (.int 2), some (.int x2), some (.int x3)], [.int (x2 + (M4.1 47 ((2 * 5) + x3).toNatClampNeg)), .int (2 + 1), .ref 45], mSS M4)) (by decide +kernel) rfl ?_
        obtain ⟨M7, q6, h⟩ := bV_of h
        refine R_callS (mi := 68) (na := 3) (as := [.ref 45, .int (2 + 1), .int (x2 + (M4.1 47 ((2 * 5) + x3).toNatClampNeg))]) (r := []) (rv := none) (σ1 := mSS M7) ⟨100, by decide +kernel⟩ rfl rfl rfl (Tl_pairFrom_s3_r N (x2 + (M4.1 47 ((2 * 5) + x3).toNatClampNeg)) M4 (d + 0) q6) ?_
        show mRunF _ _ (123, [some (.ref 45), some (.int 2), some (.int x2), some (.int x3)], [], mSS M7)
        refine mRunF.sg (mSl mk_68 77 4) (g := (130, [some (.ref 45), some (.int 2), some (.int x2), some (.int x3)], [.int (-2), .int 2, .ref 49], mSS M7)) (by decide +kernel) rfl ?_
        refine R_iast (by decide +kernel) rfl rfl ?_
        show mRunF _ _ (_, _, _, mSS (mWI M7 49 2 (-2)))
        obtain ⟨M8, hv, h⟩ := nxt_ex h
        rw [← hv]
        clear hv
        refine mRunF.sg (mSl mk_68 82 4) (g := (138, [some (.ref 45), some (.int 2), some (.int x2), some (.int x3)], [.int (-2), .int x3, .ref 49], mSS M8)) (by decide +kernel) rfl ?_
        obtain ⟨g9, h⟩ := grd_of h
        refine R_iast (by decide +kernel) rfl g9 ?_
        obtain ⟨M10, hv, h⟩ := nxt_ex h
        rw [← hv]
        clear hv
        exact Tl_pairFrom_s2_139_r (fun y0 y1 y2 hh => @ih y0 y1 y2 hh) h
      · rw [if_neg q] at h
        exact Tl_pairFrom_s2_139_r (fun y0 y1 y2 hh => @ih y0 y1 y2 hh) h
set_option maxRecDepth 100000 in
set_option maxHeartbeats 4000000 in
theorem Tl_pairFrom_s2_r (N : Nat) (a0 : Int32) (M : mS) {M' : mS} (d : Nat) (h : Tl_pairFrom_s2 N a0 M = some M') : mMet mP mTx (d + 4) 68 [.ref 45, .int 2, .int a0] (mSS M) none (mSS M') := by
  refine mMet_i ⟨Nat.le_refl _, Nat.le_refl _, Nat.le_of_ble_eq_true rfl⟩ ?_
  unfold Tl_pairFrom_s2 at h
  show mRunF (mCd 68) (mEE (mMet mP mTx (d + 3)) (none) none M') (0, [some (.ref 45), some (.int 2), some (.int a0), none], [], mSS M)
  refine mRunF.sg (mSl mk_68 0 4) (g := (8, [some (.ref 45), some (.int 2), some (.int a0), none], [.int (M.1 3 8), .int 2], mSS M)) (by decide +kernel) rfl ?_
  refine R_ige (t := 16) ⟨8, by decide +kernel⟩ (fun q => ?_) (fun q => ?_)
  · rw [if_pos q] at h
    refine mRunF.sg (mSl mk_68 8 3) (g := (21, [some (.ref 45), some (.int 2), some (.int a0), none], [.int (M.1 45 0), .int a0], mSS M)) (by decide +kernel) rfl ?_
    refine R_ile (t := 43) ⟨22, by decide +kernel⟩ (fun q => ?_) (fun q => ?_)
    · rw [if_pos q] at h
      cases h
      exact R_vret (by decide +kernel)
    · rw [if_neg q] at h
      refine mRunF.sg (mSl mk_68 12 3) (g := (29, [some (.ref 45), some (.int 2), some (.int a0), none], [], mSS (mWI M 45 0 a0))) (by decide +kernel) rfl ?_
      obtain ⟨M11, hv, h⟩ := nxt_ex h
      rw [← hv]
      clear hv
      refine mRunF.sg (mSl mk_68 15 7) (g := (40, [some (.ref 45), some (.int 2), some (.int a0), none], [.int 5, .int 0, .ref 46, .int 0, .ref 49], mSS M11)) (by decide +kernel) rfl ?_
      refine R_copy ⟨104, by decide +kernel⟩ rfl rfl rfl ?_
      obtain ⟨M12, hv, h⟩ := nxt_ex h
      rw [← hv]
      clear hv
      cases h
      exact R_vret (by decide +kernel)
  · rw [if_neg q] at h
    refine mRunF.sg (mSl mk_68 5 2) (g := (13, [some (.ref 45), some (.int 2), some (.int a0), none], [.int 5, .int 2], mSS M)) (by decide +kernel) rfl ?_
    refine R_ilt (t := 44) ⟨31, by decide +kernel⟩ (fun _ => ?_) (fun q => absurd (by decide) q)
    refine mRunF.sg (mSl mk_68 24 5) (g := (49, [some (.ref 45), some (.int 2), some (.int a0), none], [.int a0, .int (2 + 1), .ref 45], mSS M)) (by decide +kernel) rfl ?_
    obtain ⟨M14, q13, h⟩ := bV_of h
    refine R_callS (mi := 68) (na := 3) (as := [.ref 45, .int (2 + 1), .int a0]) (r := []) (rv := none) (σ1 := mSS M14) ⟨100, by decide +kernel⟩ rfl rfl rfl (Tl_pairFrom_s3_r N a0 M (d + 0) q13) ?_
    show mRunF _ _ (52, [some (.ref 45), some (.int 2), some (.int a0), none], [], mSS M14)
    refine mRunF.sg (mSl mk_68 30 3) (g := (57, [some (.ref 45), some (.int 2), some (.int a0), none], [.int 2, .ref 49], mSS M14)) (by decide +kernel) rfl ?_
    refine R_iald (by decide +kernel) rfl rfl ?_
    show mRunF _ _ (58, [some (.ref 45), some (.int 2), some (.int a0), none], [.int (M14.1 49 2)], mSS M14)
    refine mRunF.sg (mSl mk_68 34 1) (g := (60, [some (.ref 45), some (.int 2), some (.int a0), none], [.int (-2), .int (M14.1 49 2)], mSS M14)) (by decide +kernel) rfl ?_
    refine R_ieq (t := 64) ⟨4, by decide +kernel⟩ (fun q => ?_) (fun q => ?_)
    · rw [if_pos q] at h
      refine mRunF.sg (mSl mk_68 37 4) (g := (68, [some (.ref 45), some (.int 2), some (.int a0), some (.int (2 + 1))], [], mSS M14)) (by decide +kernel) rfl ?_
      exact Tl_pairFrom_s2_68_r h
    · rw [if_neg q] at h
      cases h
      exact R_vret (by decide +kernel)
set_option maxRecDepth 100000 in
set_option maxHeartbeats 4000000 in
theorem Tl_pairFrom_s1_139_r {N d : Nat} {k68 : Int32 → Int32 → mS → Option mS} {M : mS} {x2 : Int32} {x3 : Int32} {M' : mS} (hk68 : ∀ (x2 : Int32) (x3 : Int32) (M : mS), k68 x2 x3 M = some M' → mRunF (mCd 68) (mEE (mMet mP mTx (d + 4)) (none) none M') (68, [some (.ref 45), some (.int 1), some (.int x2), some (.int x3)], [], mSS M)) (h : Tl_pairFrom_s1_139 N k68 x2 x3 M = some M') : mRunF (mCd 68) (mEE (mMet mP mTx (d + 4)) (none) none M') (139, [some (.ref 45), some (.int 1), some (.int x2), some (.int x3)], [], mSS M) := by
  unfold Tl_pairFrom_s1_139 at h
  refine mRunF.sg (mSl mk_68 87 2) (g := (68, [some (.ref 45), some (.int 1), some (.int x2), some (.int (x3 + 1))], [], mSS M)) (by decide +kernel) rfl ?_
  exact hk68 _ _ _ h
set_option maxRecDepth 100000 in
set_option maxHeartbeats 4000000 in
theorem Tl_pairFrom_s1_68_r {N d : Nat}   {M' : mS} : ∀ {n : Nat} {x2 : Int32} {x3 : Int32} {M : mS}, Tl_pairFrom_s1_68 N n x2 x3 M = some M' → mRunF (mCd 68) (mEE (mMet mP mTx (d + 4)) (none) none M') (68, [some (.ref 45), some (.int 1), some (.int x2), some (.int x3)], [], mSS M) := by
  intro n
  induction n with
  | zero => intro x2 x3 M h; cases h
  | succ n ih =>
    replace ih := @ih
    intro x2 x3 M h
    unfold Tl_pairFrom_s1_68 at h
    refine mRunF.sg (mSl mk_68 41 4) (g := (76, [some (.ref 45), some (.int 1), some (.int x2), some (.int x3)], [.int (M.1 3 8), .int x3], mSS M)) (by decide +kernel) rfl ?_
    refine R_ige (t := 145) ⟨69, by decide +kernel⟩ (fun q => ?_) (fun q => ?_)
    · rw [if_pos q] at h
      cases h
      exact R_vret (by decide +kernel)
    · rw [if_neg q] at h
      refine mRunF.sg (mSl mk_68 46 3) (g := (84, [some (.ref 45), some (.int 1), some (.int x2), some (.int x3)], [.int x3, .ref 49], mSS M)) (by decide +kernel) rfl ?_
      obtain ⟨g1, h⟩ := grd_of h
      refine R_iald (by decide +kernel) rfl g1 ?_
      refine mRunF.sg (mSl mk_68 50 1) (g := (87, [some (.ref 45), some (.int 1), some (.int x2), some (.int x3)], [.int (-2), .int (M.1 49 x3.toNatClampNeg)], mSS M)) (by decide +kernel) rfl ?_
      refine R_ine (t := 139) ⟨52, by decide +kernel⟩ (fun q => ?_) (fun q => ?_)
      · rw [if_pos q] at h
        refine mRunF.sg (mSl mk_68 52 4) (g := (96, [some (.ref 45), some (.int 1), some (.int x2), some (.int x3)], [.int x3, .int 1, .ref 49], mSS M)) (by decide +kernel) rfl ?_
        refine R_iast (by decide +kernel) rfl rfl ?_
        show mRunF _ _ (_, _, _, mSS (mWI M 49 1 x3))
        obtain ⟨M2, hv, h⟩ := nxt_ex h
        rw [← hv]
        clear hv
        refine mRunF.sg (mSl mk_68 57 4) (g := (103, [some (.ref 45), some (.int 1), some (.int x2), some (.int x3)], [.int 1, .int x3, .ref 49], mSS M2)) (by decide +kernel) rfl ?_
        obtain ⟨g3, h⟩ := grd_of h
        refine R_iast (by decide +kernel) rfl g3 ?_
        obtain ⟨M4, hv, h⟩ := nxt_ex h
        rw [← hv]
        clear hv
        refine mRunF.sg (mSl mk_68 62 12) (g := (118, [some (.ref 45), some (.int 1), some (.int x2), some (.int x3)], [.int ((1 * 5) + x3), .ref 47, .int x2, .int (1 + 1), .ref 45], mSS M4)) (by decide +kernel) rfl ?_
        obtain ⟨g5, h⟩ := grd_of h
        refine R_iald (by decide +kernel) rfl g5 ?_
        refine mRunF.sg (mSl mk_68 75 1) (g := (120, [some (.ref 45), some (.int 1), some (.int x2), some (.int x3)], [.int (x2 + (M4.1 47 ((1 * 5) + x3).toNatClampNeg)), .int (1 + 1), .ref 45], mSS M4)) (by decide +kernel) rfl ?_
        obtain ⟨M7, q6, h⟩ := bV_of h
        refine R_callS (mi := 68) (na := 3) (as := [.ref 45, .int (1 + 1), .int (x2 + (M4.1 47 ((1 * 5) + x3).toNatClampNeg))]) (r := []) (rv := none) (σ1 := mSS M7) ⟨100, by decide +kernel⟩ rfl rfl rfl (Tl_pairFrom_s2_r N (x2 + (M4.1 47 ((1 * 5) + x3).toNatClampNeg)) M4 (d + 0) q6) ?_
        show mRunF _ _ (123, [some (.ref 45), some (.int 1), some (.int x2), some (.int x3)], [], mSS M7)
        refine mRunF.sg (mSl mk_68 77 4) (g := (130, [some (.ref 45), some (.int 1), some (.int x2), some (.int x3)], [.int (-2), .int 1, .ref 49], mSS M7)) (by decide +kernel) rfl ?_
        refine R_iast (by decide +kernel) rfl rfl ?_
        show mRunF _ _ (_, _, _, mSS (mWI M7 49 1 (-2)))
        obtain ⟨M8, hv, h⟩ := nxt_ex h
        rw [← hv]
        clear hv
        refine mRunF.sg (mSl mk_68 82 4) (g := (138, [some (.ref 45), some (.int 1), some (.int x2), some (.int x3)], [.int (-2), .int x3, .ref 49], mSS M8)) (by decide +kernel) rfl ?_
        obtain ⟨g9, h⟩ := grd_of h
        refine R_iast (by decide +kernel) rfl g9 ?_
        obtain ⟨M10, hv, h⟩ := nxt_ex h
        rw [← hv]
        clear hv
        exact Tl_pairFrom_s1_139_r (fun y0 y1 y2 hh => @ih y0 y1 y2 hh) h
      · rw [if_neg q] at h
        exact Tl_pairFrom_s1_139_r (fun y0 y1 y2 hh => @ih y0 y1 y2 hh) h
set_option maxRecDepth 100000 in
set_option maxHeartbeats 4000000 in
theorem Tl_pairFrom_s1_r (N : Nat) (a0 : Int32) (M : mS) {M' : mS} (d : Nat) (h : Tl_pairFrom_s1 N a0 M = some M') : mMet mP mTx (d + 5) 68 [.ref 45, .int 1, .int a0] (mSS M) none (mSS M') := by
  refine mMet_i ⟨Nat.le_refl _, Nat.le_refl _, Nat.le_of_ble_eq_true rfl⟩ ?_
  unfold Tl_pairFrom_s1 at h
  show mRunF (mCd 68) (mEE (mMet mP mTx (d + 4)) (none) none M') (0, [some (.ref 45), some (.int 1), some (.int a0), none], [], mSS M)
  refine mRunF.sg (mSl mk_68 0 4) (g := (8, [some (.ref 45), some (.int 1), some (.int a0), none], [.int (M.1 3 8), .int 1], mSS M)) (by decide +kernel) rfl ?_
  refine R_ige (t := 16) ⟨8, by decide +kernel⟩ (fun q => ?_) (fun q => ?_)
  · rw [if_pos q] at h
    refine mRunF.sg (mSl mk_68 8 3) (g := (21, [some (.ref 45), some (.int 1), some (.int a0), none], [.int (M.1 45 0), .int a0], mSS M)) (by decide +kernel) rfl ?_
    refine R_ile (t := 43) ⟨22, by decide +kernel⟩ (fun q => ?_) (fun q => ?_)
    · rw [if_pos q] at h
      cases h
      exact R_vret (by decide +kernel)
    · rw [if_neg q] at h
      refine mRunF.sg (mSl mk_68 12 3) (g := (29, [some (.ref 45), some (.int 1), some (.int a0), none], [], mSS (mWI M 45 0 a0))) (by decide +kernel) rfl ?_
      obtain ⟨M11, hv, h⟩ := nxt_ex h
      rw [← hv]
      clear hv
      refine mRunF.sg (mSl mk_68 15 7) (g := (40, [some (.ref 45), some (.int 1), some (.int a0), none], [.int 5, .int 0, .ref 46, .int 0, .ref 49], mSS M11)) (by decide +kernel) rfl ?_
      refine R_copy ⟨104, by decide +kernel⟩ rfl rfl rfl ?_
      obtain ⟨M12, hv, h⟩ := nxt_ex h
      rw [← hv]
      clear hv
      cases h
      exact R_vret (by decide +kernel)
  · rw [if_neg q] at h
    refine mRunF.sg (mSl mk_68 5 2) (g := (13, [some (.ref 45), some (.int 1), some (.int a0), none], [.int 5, .int 1], mSS M)) (by decide +kernel) rfl ?_
    refine R_ilt (t := 44) ⟨31, by decide +kernel⟩ (fun _ => ?_) (fun q => absurd (by decide) q)
    refine mRunF.sg (mSl mk_68 24 5) (g := (49, [some (.ref 45), some (.int 1), some (.int a0), none], [.int a0, .int (1 + 1), .ref 45], mSS M)) (by decide +kernel) rfl ?_
    obtain ⟨M14, q13, h⟩ := bV_of h
    refine R_callS (mi := 68) (na := 3) (as := [.ref 45, .int (1 + 1), .int a0]) (r := []) (rv := none) (σ1 := mSS M14) ⟨100, by decide +kernel⟩ rfl rfl rfl (Tl_pairFrom_s2_r N a0 M (d + 0) q13) ?_
    show mRunF _ _ (52, [some (.ref 45), some (.int 1), some (.int a0), none], [], mSS M14)
    refine mRunF.sg (mSl mk_68 30 3) (g := (57, [some (.ref 45), some (.int 1), some (.int a0), none], [.int 1, .ref 49], mSS M14)) (by decide +kernel) rfl ?_
    refine R_iald (by decide +kernel) rfl rfl ?_
    show mRunF _ _ (58, [some (.ref 45), some (.int 1), some (.int a0), none], [.int (M14.1 49 1)], mSS M14)
    refine mRunF.sg (mSl mk_68 34 1) (g := (60, [some (.ref 45), some (.int 1), some (.int a0), none], [.int (-2), .int (M14.1 49 1)], mSS M14)) (by decide +kernel) rfl ?_
    refine R_ieq (t := 64) ⟨4, by decide +kernel⟩ (fun q => ?_) (fun q => ?_)
    · rw [if_pos q] at h
      refine mRunF.sg (mSl mk_68 37 4) (g := (68, [some (.ref 45), some (.int 1), some (.int a0), some (.int (1 + 1))], [], mSS M14)) (by decide +kernel) rfl ?_
      exact Tl_pairFrom_s1_68_r h
    · rw [if_neg q] at h
      cases h
      exact R_vret (by decide +kernel)
set_option maxRecDepth 100000 in
set_option maxHeartbeats 4000000 in
theorem Tl_pairFrom_139_r {N d : Nat} {k68 : Int32 → Int32 → mS → Option mS} {M : mS} {x2 : Int32} {x3 : Int32} {M' : mS} (hk68 : ∀ (x2 : Int32) (x3 : Int32) (M : mS), k68 x2 x3 M = some M' → mRunF (mCd 68) (mEE (mMet mP mTx (d + 5)) (none) none M') (68, [some (.ref 45), some (.int 0), some (.int x2), some (.int x3)], [], mSS M)) (h : Tl_pairFrom_139 N k68 x2 x3 M = some M') : mRunF (mCd 68) (mEE (mMet mP mTx (d + 5)) (none) none M') (139, [some (.ref 45), some (.int 0), some (.int x2), some (.int x3)], [], mSS M) := by
  unfold Tl_pairFrom_139 at h
  refine mRunF.sg (mSl mk_68 87 2) (g := (68, [some (.ref 45), some (.int 0), some (.int x2), some (.int (x3 + 1))], [], mSS M)) (by decide +kernel) rfl ?_
  exact hk68 _ _ _ h
set_option maxRecDepth 100000 in
set_option maxHeartbeats 4000000 in
theorem Tl_pairFrom_68_r {N d : Nat}   {M' : mS} : ∀ {n : Nat} {x2 : Int32} {x3 : Int32} {M : mS}, Tl_pairFrom_68 N n x2 x3 M = some M' → mRunF (mCd 68) (mEE (mMet mP mTx (d + 5)) (none) none M') (68, [some (.ref 45), some (.int 0), some (.int x2), some (.int x3)], [], mSS M) := by
  intro n
  induction n with
  | zero => intro x2 x3 M h; cases h
  | succ n ih =>
    replace ih := @ih
    intro x2 x3 M h
    unfold Tl_pairFrom_68 at h
    refine mRunF.sg (mSl mk_68 41 4) (g := (76, [some (.ref 45), some (.int 0), some (.int x2), some (.int x3)], [.int (M.1 3 8), .int x3], mSS M)) (by decide +kernel) rfl ?_
    refine R_ige (t := 145) ⟨69, by decide +kernel⟩ (fun q => ?_) (fun q => ?_)
    · rw [if_pos q] at h
      cases h
      exact R_vret (by decide +kernel)
    · rw [if_neg q] at h
      refine mRunF.sg (mSl mk_68 46 3) (g := (84, [some (.ref 45), some (.int 0), some (.int x2), some (.int x3)], [.int x3, .ref 49], mSS M)) (by decide +kernel) rfl ?_
      obtain ⟨g1, h⟩ := grd_of h
      refine R_iald (by decide +kernel) rfl g1 ?_
      refine mRunF.sg (mSl mk_68 50 1) (g := (87, [some (.ref 45), some (.int 0), some (.int x2), some (.int x3)], [.int (-2), .int (M.1 49 x3.toNatClampNeg)], mSS M)) (by decide +kernel) rfl ?_
      refine R_ine (t := 139) ⟨52, by decide +kernel⟩ (fun q => ?_) (fun q => ?_)
      · rw [if_pos q] at h
        refine mRunF.sg (mSl mk_68 52 4) (g := (96, [some (.ref 45), some (.int 0), some (.int x2), some (.int x3)], [.int x3, .int 0, .ref 49], mSS M)) (by decide +kernel) rfl ?_
        refine R_iast (by decide +kernel) rfl rfl ?_
        show mRunF _ _ (_, _, _, mSS (mWI M 49 0 x3))
        obtain ⟨M2, hv, h⟩ := nxt_ex h
        rw [← hv]
        clear hv
        refine mRunF.sg (mSl mk_68 57 4) (g := (103, [some (.ref 45), some (.int 0), some (.int x2), some (.int x3)], [.int 0, .int x3, .ref 49], mSS M2)) (by decide +kernel) rfl ?_
        obtain ⟨g3, h⟩ := grd_of h
        refine R_iast (by decide +kernel) rfl g3 ?_
        obtain ⟨M4, hv, h⟩ := nxt_ex h
        rw [← hv]
        clear hv
        refine mRunF.sg (mSl mk_68 62 12) (g := (118, [some (.ref 45), some (.int 0), some (.int x2), some (.int x3)], [.int ((0 * 5) + x3), .ref 47, .int x2, .int (0 + 1), .ref 45], mSS M4)) (by decide +kernel) rfl ?_
        obtain ⟨g5, h⟩ := grd_of h
        refine R_iald (by decide +kernel) rfl g5 ?_
        refine mRunF.sg (mSl mk_68 75 1) (g := (120, [some (.ref 45), some (.int 0), some (.int x2), some (.int x3)], [.int (x2 + (M4.1 47 ((0 * 5) + x3).toNatClampNeg)), .int (0 + 1), .ref 45], mSS M4)) (by decide +kernel) rfl ?_
        obtain ⟨M7, q6, h⟩ := bV_of h
        refine R_callS (mi := 68) (na := 3) (as := [.ref 45, .int (0 + 1), .int (x2 + (M4.1 47 ((0 * 5) + x3).toNatClampNeg))]) (r := []) (rv := none) (σ1 := mSS M7) ⟨100, by decide +kernel⟩ rfl rfl rfl (Tl_pairFrom_s1_r N (x2 + (M4.1 47 ((0 * 5) + x3).toNatClampNeg)) M4 (d + 0) q6) ?_
        show mRunF _ _ (123, [some (.ref 45), some (.int 0), some (.int x2), some (.int x3)], [], mSS M7)
        refine mRunF.sg (mSl mk_68 77 4) (g := (130, [some (.ref 45), some (.int 0), some (.int x2), some (.int x3)], [.int (-2), .int 0, .ref 49], mSS M7)) (by decide +kernel) rfl ?_
        refine R_iast (by decide +kernel) rfl rfl ?_
        show mRunF _ _ (_, _, _, mSS (mWI M7 49 0 (-2)))
        obtain ⟨M8, hv, h⟩ := nxt_ex h
        rw [← hv]
        clear hv
        refine mRunF.sg (mSl mk_68 82 4) (g := (138, [some (.ref 45), some (.int 0), some (.int x2), some (.int x3)], [.int (-2), .int x3, .ref 49], mSS M8)) (by decide +kernel) rfl ?_
        obtain ⟨g9, h⟩ := grd_of h
        refine R_iast (by decide +kernel) rfl g9 ?_
        obtain ⟨M10, hv, h⟩ := nxt_ex h
        rw [← hv]
        clear hv
        exact Tl_pairFrom_139_r (fun y0 y1 y2 hh => @ih y0 y1 y2 hh) h
      · rw [if_neg q] at h
        exact Tl_pairFrom_139_r (fun y0 y1 y2 hh => @ih y0 y1 y2 hh) h
set_option maxRecDepth 100000 in
set_option maxHeartbeats 4000000 in
theorem Tl_pairFrom_r (N : Nat) (a0 : Int32) (M : mS) {M' : mS} (d : Nat) (h : Tl_pairFrom N a0 M = some M') : mMet mP mTx (d + 6) 68 [.ref 45, .int 0, .int a0] (mSS M) none (mSS M') := by
  refine mMet_i ⟨Nat.le_refl _, Nat.le_refl _, Nat.le_of_ble_eq_true rfl⟩ ?_
  unfold Tl_pairFrom at h
  show mRunF (mCd 68) (mEE (mMet mP mTx (d + 5)) (none) none M') (0, [some (.ref 45), some (.int 0), some (.int a0), none], [], mSS M)
  refine mRunF.sg (mSl mk_68 0 4) (g := (8, [some (.ref 45), some (.int 0), some (.int a0), none], [.int (M.1 3 8), .int 0], mSS M)) (by decide +kernel) rfl ?_
  refine R_ige (t := 16) ⟨8, by decide +kernel⟩ (fun q => ?_) (fun q => ?_)
  · rw [if_pos q] at h
    refine mRunF.sg (mSl mk_68 8 3) (g := (21, [some (.ref 45), some (.int 0), some (.int a0), none], [.int (M.1 45 0), .int a0], mSS M)) (by decide +kernel) rfl ?_
    refine R_ile (t := 43) ⟨22, by decide +kernel⟩ (fun q => ?_) (fun q => ?_)
    · rw [if_pos q] at h
      cases h
      exact R_vret (by decide +kernel)
    · rw [if_neg q] at h
      refine mRunF.sg (mSl mk_68 12 3) (g := (29, [some (.ref 45), some (.int 0), some (.int a0), none], [], mSS (mWI M 45 0 a0))) (by decide +kernel) rfl ?_
      obtain ⟨M11, hv, h⟩ := nxt_ex h
      rw [← hv]
      clear hv
      refine mRunF.sg (mSl mk_68 15 7) (g := (40, [some (.ref 45), some (.int 0), some (.int a0), none], [.int 5, .int 0, .ref 46, .int 0, .ref 49], mSS M11)) (by decide +kernel) rfl ?_
      refine R_copy ⟨104, by decide +kernel⟩ rfl rfl rfl ?_
      obtain ⟨M12, hv, h⟩ := nxt_ex h
      rw [← hv]
      clear hv
      cases h
      exact R_vret (by decide +kernel)
  · rw [if_neg q] at h
    refine mRunF.sg (mSl mk_68 5 2) (g := (13, [some (.ref 45), some (.int 0), some (.int a0), none], [.int 5, .int 0], mSS M)) (by decide +kernel) rfl ?_
    refine R_ilt (t := 44) ⟨31, by decide +kernel⟩ (fun _ => ?_) (fun q => absurd (by decide) q)
    refine mRunF.sg (mSl mk_68 24 5) (g := (49, [some (.ref 45), some (.int 0), some (.int a0), none], [.int a0, .int (0 + 1), .ref 45], mSS M)) (by decide +kernel) rfl ?_
    obtain ⟨M14, q13, h⟩ := bV_of h
    refine R_callS (mi := 68) (na := 3) (as := [.ref 45, .int (0 + 1), .int a0]) (r := []) (rv := none) (σ1 := mSS M14) ⟨100, by decide +kernel⟩ rfl rfl rfl (Tl_pairFrom_s1_r N a0 M (d + 0) q13) ?_
    show mRunF _ _ (52, [some (.ref 45), some (.int 0), some (.int a0), none], [], mSS M14)
    refine mRunF.sg (mSl mk_68 30 3) (g := (57, [some (.ref 45), some (.int 0), some (.int a0), none], [.int 0, .ref 49], mSS M14)) (by decide +kernel) rfl ?_
    refine R_iald (by decide +kernel) rfl rfl ?_
    show mRunF _ _ (58, [some (.ref 45), some (.int 0), some (.int a0), none], [.int (M14.1 49 0)], mSS M14)
    refine mRunF.sg (mSl mk_68 34 1) (g := (60, [some (.ref 45), some (.int 0), some (.int a0), none], [.int (-2), .int (M14.1 49 0)], mSS M14)) (by decide +kernel) rfl ?_
    refine R_ieq (t := 64) ⟨4, by decide +kernel⟩ (fun q => ?_) (fun q => ?_)
    · rw [if_pos q] at h
      refine mRunF.sg (mSl mk_68 37 4) (g := (68, [some (.ref 45), some (.int 0), some (.int a0), some (.int (0 + 1))], [], mSS M14)) (by decide +kernel) rfl ?_
      exact Tl_pairFrom_68_r h
    · rw [if_neg q] at h
      cases h
      exact R_vret (by decide +kernel)
set_option maxRecDepth 100000 in
set_option maxHeartbeats 4000000 in
theorem Tl_bestCouples_12_r {N d : Nat}   {r : Int32} {M' : mS} : ∀ {n : Nat} {x2 : Int32} {M : mS}, Tl_bestCouples_12 N n x2 M = some (r, M') → mRunF (mCd 67) (mEE (mMet mP mTx (d + 6)) (some .int) (some (.int r)) M') (12, [some (.ref 45), none, some (.int x2)], [], mSS M) := by
  intro n
  induction n with
  | zero => intro x2 M h; cases h
  | succ n ih =>
    replace ih := @ih
    intro x2 M h
    unfold Tl_bestCouples_12 at h
    refine mRunF.sg (mSl mk_67 8 2) (g := (14, [some (.ref 45), none, some (.int x2)], [.int 5, .int x2], mSS M)) (by decide +kernel) rfl ?_
    refine R_ige (t := 31) ⟨17, by decide +kernel⟩ (fun q => ?_) (fun q => ?_)
    · rw [if_pos q] at h
      refine mRunF.sg (mSl mk_67 18 3) (g := (34, [some (.ref 45), none, some (.int x2)], [.int 0, .int 0, .ref 45], mSS M)) (by decide +kernel) rfl ?_
      obtain ⟨M2, q1, h⟩ := bV_of h
      refine R_callS (mi := 68) (na := 3) (as := [.ref 45, .int 0, .int 0]) (r := []) (rv := none) (σ1 := mSS M2) ⟨100, by decide +kernel⟩ rfl rfl rfl (Tl_pairFrom_r N 0 M (d + 0) q1) ?_
      show mRunF _ _ (37, [some (.ref 45), none, some (.int x2)], [], mSS M2)
      refine mRunF.sg (mSl mk_67 22 2) (g := (41, [some (.ref 45), none, some (.int x2)], [.int (M2.1 45 0)], mSS M2)) (by decide +kernel) rfl ?_
      cases h
      exact R_iret (by decide +kernel)
    · rw [if_neg q] at h
      refine mRunF.sg (mSl mk_67 11 4) (g := (24, [some (.ref 45), none, some (.int x2)], [.int (-2), .int x2, .ref 49], mSS M)) (by decide +kernel) rfl ?_
      obtain ⟨g3, h⟩ := grd_of h
      refine R_iast (by decide +kernel) rfl g3 ?_
      obtain ⟨M4, hv, h⟩ := nxt_ex h
      rw [← hv]
      clear hv
      refine mRunF.sg (mSl mk_67 16 2) (g := (12, [some (.ref 45), none, some (.int (x2 + 1))], [], mSS M4)) (by decide +kernel) rfl ?_
      exact @ih _ _ h
set_option maxRecDepth 100000 in
set_option maxHeartbeats 4000000 in
theorem Tl_bestCouples_r (N : Nat) (a0 : Int32) (M : mS) {r : Int32} {M' : mS} (d : Nat) (h : Tl_bestCouples N a0 M = some (r, M')) : mMet mP mTx (d + 7) 67 [.ref 45, .int a0] (mSS M) (some (.int r)) (mSS M') := by
  refine mMet_i ⟨Nat.le_refl _, Nat.le_refl _, Nat.le_of_ble_eq_true rfl⟩ ?_
  unfold Tl_bestCouples at h
  show mRunF (mCd 67) (mEE (mMet mP mTx (d + 6)) (some .int) (some (.int r)) M') (0, [some (.ref 45), some (.int a0), none], [], mSS M)
  refine mRunF.sg (mSl mk_67 0 2) (g := (2, [some (.ref 45), some (.int a0), none], [.int a0, .ref 45], mSS M)) (by decide +kernel) rfl ?_
  obtain ⟨M6, q5, h⟩ := bV_of h
  refine R_callV (mi := 66) (na := 2) (ci := 7) (i := 45) (as := [.int a0]) (r := []) (rv := none) (σ1 := mSS M6) ⟨90, by decide +kernel⟩ rfl rfl rfl rfl (Tl_addShared_r N a0 M (d + 1) q5) ?_
  show mRunF _ _ (5, [some (.ref 45), some (.int a0), none], [], mSS M6)
  refine mRunF.sg (mSl mk_67 3 3) (g := (10, [some (.ref 45), some (.int a0), none], [], mSS (mWI M6 45 0 (-1)))) (by decide +kernel) rfl ?_
  obtain ⟨M7, hv, h⟩ := nxt_ex h
  rw [← hv]
  clear hv
  refine mRunF.sg (mSl mk_67 6 2) (g := (12, [some (.ref 45), some (.int a0), some (.int 0)], [], mSS M7)) (by decide +kernel) rfl ?_
  refine mRunF.forget [true, false, true] ?_
  exact Tl_bestCouples_12_r h
set_option maxRecDepth 100000 in
set_option maxHeartbeats 4000000 in
theorem Md_couples_24_r {N d : Nat}  {M : mS} {x1 : Int32} {x2 : Int32} {r : Int32} {M' : mS} (h : Md_couples_24 N x1 x2 M = some (r, M')) : mRunF (mCd 135) (mEE (mMet mP mTx (d + 7)) (some .int) (some (.int r)) M') (24, [some (.ref 0), some (.int x1), some (.int x2), none], [], mSS M) := by
  unfold Md_couples_24 at h
  refine mRunF.sg (mSl mk_135 13 4) (g := (32, [some (.ref 0), some (.int x1), some (.int x2), none], [.ref 34, .ref 39], mSS M)) (by decide +kernel) rfl ?_
  obtain ⟨M2, q1, h⟩ := bV_of h
  refine R_callV (mi := 89) (na := 2) (ci := 10) (i := 39) (as := [.ref 34]) (r := []) (rv := none) (σ1 := mSS M2) ⟨128, by decide +kernel⟩ rfl rfl rfl rfl (Wk_begin_r N M (d + 6) q1) ?_
  show mRunF _ _ (35, [some (.ref 0), some (.int x1), some (.int x2), none], [], mSS M2)
  refine mRunF.sg (mSl mk_135 18 3) (g := (40, [some (.ref 0), some (.int x1), some (.int x2), none], [.int x1, .ref 45], mSS M2)) (by decide +kernel) rfl ?_
  obtain ⟨r5, M4, q3, h⟩ := bW_of h
  refine R_callV (mi := 67) (na := 2) (ci := 7) (i := 45) (as := [.int x1]) (r := []) (rv := some (.int r5)) (σ1 := mSS M4) ⟨267, by decide +kernel⟩ rfl rfl rfl rfl (Tl_bestCouples_r N x1 M2 (d + 0) q3) ?_
  show mRunF _ _ (43, [some (.ref 0), some (.int x1), some (.int x2), none], [.int r5], mSS M4)
  refine mRunF.sg (mSl mk_135 22 3) (g := (46, [some (.ref 0), some (.int x1), some (.int x2), some (.int r5)], [.int (-1), .int x2], mSS M4)) (by decide +kernel) rfl ?_
  refine R_ine (t := 53) ⟨7, by decide +kernel⟩ (fun q => ?_) (fun q => ?_)
  · rw [if_pos q] at h
    refine mRunF.sg (mSl mk_135 26 2) (g := (62, [some (.ref 0), some (.int x1), some (.int x2), some (.int r5)], [.int r5], mSS M4)) (by decide +kernel) rfl ?_
    cases h
    exact R_iret (by decide +kernel)
  · rw [if_neg q] at h
    refine mRunF.sg (mSl mk_135 28 4) (g := (61, [some (.ref 0), some (.int x1), some (.int x2), some (.int r5)], [.int x2, .ref 46], mSS M4)) (by decide +kernel) rfl ?_
    obtain ⟨g6, h⟩ := grd_of h
    refine R_iald (by decide +kernel) rfl g6 ?_
    cases h
    exact R_iret (by decide +kernel)
set_option maxRecDepth 100000 in
set_option maxHeartbeats 4000000 in
theorem Md_couples_r (N : Nat) (a0 : Int32) (a1 : Int32) (M : mS) {r : Int32} {M' : mS} (d : Nat) (h : Md_couples N a0 a1 M = some (r, M')) : mMet mP mTx (d + 8) 135 [.ref 0, .int a0, .int a1] (mSS M) (some (.int r)) (mSS M') := by
  refine mMet_i ⟨Nat.le_refl _, Nat.le_refl _, Nat.le_of_ble_eq_true rfl⟩ ?_
  unfold Md_couples at h
  show mRunF (mCd 135) (mEE (mMet mP mTx (d + 7)) (some .int) (some (.int r)) M') (0, [some (.ref 0), some (.int a0), some (.int a1), none], [], mSS M)
  refine mRunF.sg (mSl mk_135 0 2) (g := (3, [some (.ref 0), some (.int a0), some (.int a1), none], [.int 60, .int a0], mSS M)) (by decide +kernel) rfl ?_
  refine R_callS (mi := 165) (na := 2) (as := [.int a0, .int 60]) (r := []) (rv := some (.int (Md_isWithin a0 60 M))) (σ1 := mSS M) ⟨179, by decide +kernel⟩ rfl rfl rfl (Md_isWithin_r a0 60 M (d + 6)) ?_
  have b7 := mBool rfl (Md_isWithin_r a0 60 M (d + 6))
  show mRunF _ _ (6, [some (.ref 0), some (.int a0), some (.int a1), none], [.int (Md_isWithin a0 60 M)], mSS M)
  refine R_eq (t := 22) ⟨16, by decide +kernel⟩ (fun q => ?_) (fun q => ?_)
  · rw [if_pos q] at h
    refine mRunF.sg (mSl mk_135 11 1) (g := (23, [some (.ref 0), some (.int a0), some (.int a1), none], [.int (-1)], mSS M)) (by decide +kernel) rfl ?_
    cases h
    exact R_iret (by decide +kernel)
  · rw [if_neg q] at h
    refine mRunF.sg (mSl mk_135 4 2) (g := (11, [some (.ref 0), some (.int a0), some (.int a1), none], [.int (-1), .int a1], mSS M)) (by decide +kernel) rfl ?_
    refine R_ieq (t := 24) ⟨13, by decide +kernel⟩ (fun q => ?_) (fun q => ?_)
    · rw [if_pos q] at h
      exact Md_couples_24_r h
    · rw [if_neg q] at h
      refine mRunF.sg (mSl mk_135 7 2) (g := (16, [some (.ref 0), some (.int a0), some (.int a1), none], [.int a1, .ref 0], mSS M)) (by decide +kernel) rfl ?_
      refine R_callV (mi := 161) (na := 2) (ci := 11) (i := 0) (as := [.int a1]) (r := []) (rv := some (.int (Md_isGoer a1 M))) (σ1 := mSS M) ⟨152, by decide +kernel⟩ rfl rfl rfl rfl (Md_isGoer_r a1 M (d + 6)) ?_
      have b8 := mBool rfl (Md_isGoer_r a1 M (d + 6))
      show mRunF _ _ (19, [some (.ref 0), some (.int a0), some (.int a1), none], [.int (Md_isGoer a1 M)], mSS M)
      refine R_ne (t := 24) ⟨5, by decide +kernel⟩ (fun q => ?_) (fun q => ?_)
      · rw [if_pos q] at h
        refine mRunF.sg (mSl mk_135 11 1) (g := (23, [some (.ref 0), some (.int a0), some (.int a1), none], [.int (-1)], mSS M)) (by decide +kernel) rfl ?_
        cases h
        exact R_iret (by decide +kernel)
      · rw [if_neg q] at h
        exact Md_couples_24_r h
set_option maxRecDepth 100000 in
set_option maxHeartbeats 4000000 in
theorem Md_fullest_57_r {N d : Nat} {k19 : Int32 → Int32 → Int32 → mS → Option (Int32 × mS)} {M : mS} {x1 : Int32} {x2 : Int32} {x3 : Int32} {r : Int32} {M' : mS} (hk19 : ∀ (x1 : Int32) (x2 : Int32) (x3 : Int32) (M : mS), k19 x1 x2 x3 M = some (r, M') → mRunF (mCd 136) (mEE (mMet mP mTx (d + 5)) (some .int) (some (.int r)) M') (19, [some (.ref 0), some (.int x1), some (.int x2), some (.int x3)], [], mSS M)) (h : Md_fullest_57 N k19 x1 x2 x3 M = some (r, M')) : mRunF (mCd 136) (mEE (mMet mP mTx (d + 5)) (some .int) (some (.int r)) M') (57, [some (.ref 0), some (.int x1), some (.int x2), some (.int x3)], [], mSS M) := by
  unfold Md_fullest_57 at h
  refine mRunF.sg (mSl mk_136 31 2) (g := (19, [some (.ref 0), some (.int x1), some (.int x2), some (.int (x3 + 1))], [], mSS M)) (by decide +kernel) rfl ?_
  exact hk19 _ _ _ _ h
set_option maxRecDepth 100000 in
set_option maxHeartbeats 4000000 in
theorem Md_fullest_19_r {N d : Nat}   {r : Int32} {M' : mS} : ∀ {n : Nat} {x1 : Int32} {x2 : Int32} {x3 : Int32} {M : mS}, Md_fullest_19 N n x1 x2 x3 M = some (r, M') → mRunF (mCd 136) (mEE (mMet mP mTx (d + 5)) (some .int) (some (.int r)) M') (19, [some (.ref 0), some (.int x1), some (.int x2), some (.int x3)], [], mSS M) := by
  intro n
  induction n with
  | zero => intro x1 x2 x3 M h; cases h
  | succ n ih =>
    replace ih := @ih
    intro x1 x2 x3 M h
    unfold Md_fullest_19 at h
    refine mRunF.sg (mSl mk_136 13 4) (g := (27, [some (.ref 0), some (.int x1), some (.int x2), some (.int x3)], [.int (M.1 3 6), .int x3], mSS M)) (by decide +kernel) rfl ?_
    refine R_ige (t := 63) ⟨36, by decide +kernel⟩ (fun q => ?_) (fun q => ?_)
    · rw [if_pos q] at h
      refine mRunF.sg (mSl mk_136 33 1) (g := (64, [some (.ref 0), some (.int x1), some (.int x2), some (.int x3)], [.int x1], mSS M)) (by decide +kernel) rfl ?_
      refine R_ne (t := 71) ⟨7, by decide +kernel⟩ (fun q => ?_) (fun q => ?_)
      · rw [if_pos q] at h
        refine mRunF.sg (mSl mk_136 35 2) (g := (82, [some (.ref 0), some (.int x1), some (.int x2), some (.int x3)], [.int x2], mSS M)) (by decide +kernel) rfl ?_
        cases h
        exact R_iret (by decide +kernel)
      · rw [if_neg q] at h
        refine mRunF.sg (mSl mk_136 37 3) (g := (76, [some (.ref 0), some (.int x1), some (.int x2), some (.int x3)], [.int x2, .ref 39], mSS M)) (by decide +kernel) rfl ?_
        obtain ⟨r2, q1, h⟩ := bR_of h
        refine R_callV (mi := 96) (na := 2) (ci := 10) (i := 39) (as := [.int x2]) (r := []) (rv := some (.int r2)) (σ1 := mSS M) ⟨173, by decide +kernel⟩ rfl rfl rfl rfl (Wk_whoAt_r N x2 M (d + 4) q1) ?_
        show mRunF _ _ (79, [some (.ref 0), some (.int x1), some (.int x2), some (.int x3)], [.int r2], mSS M)
        refine R_callS (mi := 308) (na := 1) (as := [.int r2]) (r := []) (rv := some (.int (Jl_bitCount r2 M))) (σ1 := mSS M) ⟨214, by decide +kernel⟩ rfl rfl rfl (Jl_bitCount_r r2 M (d + 4)) ?_
        show mRunF _ _ (82, [some (.ref 0), some (.int x1), some (.int x2), some (.int x3)], [.int (Jl_bitCount r2 M)], mSS M)
        cases h
        exact R_iret (by decide +kernel)
    · rw [if_neg q] at h
      refine mRunF.sg (mSl mk_136 18 3) (g := (35, [some (.ref 0), some (.int x1), some (.int x2), some (.int x3)], [.int x3, .ref 39], mSS M)) (by decide +kernel) rfl ?_
      obtain ⟨r4, q3, h⟩ := bR_of h
      refine R_callV (mi := 96) (na := 2) (ci := 10) (i := 39) (as := [.int x3]) (r := []) (rv := some (.int r4)) (σ1 := mSS M) ⟨173, by decide +kernel⟩ rfl rfl rfl rfl (Wk_whoAt_r N x3 M (d + 4) q3) ?_
      show mRunF _ _ (38, [some (.ref 0), some (.int x1), some (.int x2), some (.int x3)], [.int r4], mSS M)
      refine R_callS (mi := 308) (na := 1) (as := [.int r4]) (r := []) (rv := some (.int (Jl_bitCount r4 M))) (σ1 := mSS M) ⟨214, by decide +kernel⟩ rfl rfl rfl (Jl_bitCount_r r4 M (d + 4)) ?_
      show mRunF _ _ (41, [some (.ref 0), some (.int x1), some (.int x2), some (.int x3)], [.int (Jl_bitCount r4 M)], mSS M)
      refine mRunF.sg (mSl mk_136 23 3) (g := (46, [some (.ref 0), some (.int x1), some (.int x2), some (.int x3)], [.int x2, .ref 39, .int (Jl_bitCount r4 M)], mSS M)) (by decide +kernel) rfl ?_
      obtain ⟨r6, q5, h⟩ := bR_of h
      refine R_callV (mi := 96) (na := 2) (ci := 10) (i := 39) (as := [.int x2]) (r := [.int (Jl_bitCount r4 M)]) (rv := some (.int r6)) (σ1 := mSS M) ⟨173, by decide +kernel⟩ rfl rfl rfl rfl (Wk_whoAt_r N x2 M (d + 4) q5) ?_
      show mRunF _ _ (49, [some (.ref 0), some (.int x1), some (.int x2), some (.int x3)], [.int r6, .int (Jl_bitCount r4 M)], mSS M)
      refine R_callS (mi := 308) (na := 1) (as := [.int r6]) (r := [.int (Jl_bitCount r4 M)]) (rv := some (.int (Jl_bitCount r6 M))) (σ1 := mSS M) ⟨214, by decide +kernel⟩ rfl rfl rfl (Jl_bitCount_r r6 M (d + 4)) ?_
      show mRunF _ _ (52, [some (.ref 0), some (.int x1), some (.int x2), some (.int x3)], [.int (Jl_bitCount r6 M), .int (Jl_bitCount r4 M)], mSS M)
      refine R_ile (t := 57) ⟨5, by decide +kernel⟩ (fun q => ?_) (fun q => ?_)
      · rw [if_pos q] at h
        exact Md_fullest_57_r (fun y0 y1 y2 y3 hh => @ih y0 y1 y2 y3 hh) h
      · rw [if_neg q] at h
        refine mRunF.sg (mSl mk_136 29 2) (g := (57, [some (.ref 0), some (.int x1), some (.int x3), some (.int x3)], [], mSS M)) (by decide +kernel) rfl ?_
        exact Md_fullest_57_r (fun y0 y1 y2 y3 hh => @ih y0 y1 y2 y3 hh) h
set_option maxRecDepth 100000 in
set_option maxHeartbeats 4000000 in
theorem Md_fullest_11_r {N d : Nat}  {M : mS} {x1 : Int32} {r : Int32} {M' : mS} (h : Md_fullest_11 N x1 M = some (r, M')) : mRunF (mCd 136) (mEE (mMet mP mTx (d + 5)) (some .int) (some (.int r)) M') (11, [some (.ref 0), some (.int x1), none, none], [], mSS M) := by
  unfold Md_fullest_11 at h
  refine mRunF.sg (mSl mk_136 7 1) (g := (12, [some (.ref 0), some (.int x1), none, none], [.ref 0], mSS M)) (by decide +kernel) rfl ?_
  obtain ⟨M8, q7, h⟩ := bV_of h
  refine R_callV (mi := 156) (na := 1) (ci := 11) (i := 0) (as := []) (r := []) (rv := none) (σ1 := mSS M8) ⟨170, by decide +kernel⟩ rfl rfl rfl rfl (Md_seeThisNight_r N M (d + 0) q7) ?_
  show mRunF _ _ (15, [some (.ref 0), some (.int x1), none, none], [], mSS M8)
  refine mRunF.sg (mSl mk_136 9 4) (g := (19, [some (.ref 0), some (.int x1), some (.int 0), some (.int 1)], [], mSS M8)) (by decide +kernel) rfl ?_
  exact Md_fullest_19_r h
set_option maxRecDepth 100000 in
set_option maxHeartbeats 4000000 in
theorem Md_fullest_r (N : Nat) (a0 : Int32) (M : mS) {r : Int32} {M' : mS} (d : Nat) (h : Md_fullest N a0 M = some (r, M')) : mMet mP mTx (d + 6) 136 [.ref 0, .int a0] (mSS M) (some (.int r)) (mSS M') := by
  refine mMet_i ⟨Nat.le_refl _, Nat.le_refl _, Nat.le_of_ble_eq_true rfl⟩ ?_
  unfold Md_fullest at h
  show mRunF (mCd 136) (mEE (mMet mP mTx (d + 5)) (some .int) (some (.int r)) M') (0, [some (.ref 0), some (.int a0), none, none], [], mSS M)
  refine mRunF.sg (mSl mk_136 0 1) (g := (1, [some (.ref 0), some (.int a0), none, none], [.int a0], mSS M)) (by decide +kernel) rfl ?_
  refine R_eq (t := 11) ⟨10, by decide +kernel⟩ (fun q => ?_) (fun q => ?_)
  · rw [if_pos q] at h
    exact Md_fullest_11_r h
  · rw [if_neg q] at h
    refine mRunF.sg (mSl mk_136 2 2) (g := (6, [some (.ref 0), some (.int a0), none, none], [.int 1, .int a0], mSS M)) (by decide +kernel) rfl ?_
    refine R_ieq (t := 11) ⟨5, by decide +kernel⟩ (fun q => ?_) (fun q => ?_)
    · rw [if_pos q] at h
      exact Md_fullest_11_r h
    · rw [if_neg q] at h
      refine mRunF.sg (mSl mk_136 5 1) (g := (10, [some (.ref 0), some (.int a0), none, none], [.int (-1)], mSS M)) (by decide +kernel) rfl ?_
      cases h
      exact R_iret (by decide +kernel)
set_option maxRecDepth 100000 in
set_option maxHeartbeats 4000000 in
theorem Wk_begin_s1_r (N : Nat)  (M : mS) {M' : mS} (d : Nat) (h : Wk_begin_s1 N M = some M') : mMet mP mTx (d + 1) 89 [.ref 39, .ref 52] (mSS M) none (mSS M') := by
  refine mMet_i ⟨Nat.le_refl _, Nat.le_refl _, Nat.le_of_ble_eq_true rfl⟩ ?_
  unfold Wk_begin_s1 at h
  show mRunF (mCd 89) (mEE (mMet mP mTx (d + 0)) (none) none M') (0, [some (.ref 39), some (.ref 52)], [], mSS M)
  refine mRunF.sg (mSl mk_89 0 6) (g := (9, [some (.ref 39), some (.ref 52)], [.int 44, .int 0, .ref 40, .int 0, .ref 52], mSS M)) (by decide +kernel) rfl ?_
  refine R_copy ⟨28, by decide +kernel⟩ rfl rfl rfl ?_
  obtain ⟨M1, hv, h⟩ := nxt_ex h
  rw [← hv]
  clear hv
  refine mRunF.sg (mSl mk_89 7 3) (g := (17, [some (.ref 39), some (.ref 52)], [], mSS (mWI M1 39 7 0))) (by decide +kernel) rfl ?_
  obtain ⟨M2, hv, h⟩ := nxt_ex h
  rw [← hv]
  clear hv
  cases h
  exact R_vret (by decide +kernel)
set_option maxRecDepth 100000 in
set_option maxHeartbeats 4000000 in
theorem Gm_tryMove_r (N : Nat) (a0 : Int32) (M : mS) {r : Int32} {M' : mS} (d : Nat) (h : Gm_tryMove N a0 M = some (r, M')) : mMet mP mTx (d + 5) 3 [.ref 50, .int 0, .int a0] (mSS M) (some (.int r)) (mSS M') := by
  refine mMet_i ⟨Nat.le_refl _, Nat.le_refl _, Nat.le_of_ble_eq_true rfl⟩ ?_
  unfold Gm_tryMove at h
  show mRunF (mCd 3) (mEE (mMet mP mTx (d + 4)) (some .int) (some (.int r)) M') (0, [some (.ref 50), some (.int 0), some (.int a0), none], [], mSS M)
  refine mRunF.sg (mSl mk_3 0 5) (g := (9, [some (.ref 50), some (.int 0), some (.int a0), none], [.int 0, .ref 51, .ref 39], mSS M)) (by decide +kernel) rfl ?_
  refine R_aald (by decide +kernel) rfl rfl (j := 52) rfl ?_
  obtain ⟨M2, q1, h⟩ := bV_of h
  refine R_callV (mi := 89) (na := 2) (ci := 10) (i := 39) (as := [.ref 52]) (r := []) (rv := none) (σ1 := mSS M2) ⟨53, by decide +kernel⟩ rfl rfl rfl rfl (Wk_begin_s1_r N M (d + 3) q1) ?_
  show mRunF _ _ (13, [some (.ref 50), some (.int 0), some (.int a0), none], [], mSS M2)
  refine mRunF.sg (mSl mk_3 7 14) (g := (39, [some (.ref 50), some (.int 0), some (.int a0), none], [.int (1 + (M2.1 50 4)), .ref 40, .int (1 + (M2.1 50 4)), .ref 40], mSS M2)) (by decide +kernel) rfl ?_
  obtain ⟨g3, h⟩ := grd_of h
  refine R_iald (by decide +kernel) rfl g3 ?_
  refine mRunF.sg (mSl mk_3 22 5) (g := (49, [some (.ref 50), some (.int 0), some (.int a0), none], [.int (M2.1 3 6), .int ((M2.1 40 (1 + (M2.1 50 4)).toNatClampNeg) + a0), .int (1 + (M2.1 50 4)), .ref 40], mSS M2)) (by decide +kernel) rfl ?_
  obtain ⟨r5, q4, h⟩ := bR_of h
  refine R_callS (mi := 166) (na := 2) (as := [.int ((M2.1 40 (1 + (M2.1 50 4)).toNatClampNeg) + a0), .int (M2.1 3 6)]) (r := [.int (1 + (M2.1 50 4)), .ref 40]) (rv := some (.int r5)) (σ1 := mSS M2) ⟨68, by decide +kernel⟩ rfl rfl rfl (Md_rest_r N ((M2.1 40 (1 + (M2.1 50 4)).toNatClampNeg) + a0) (M2.1 3 6) M2 (d + 3) q4) ?_
  show mRunF _ _ (52, [some (.ref 50), some (.int 0), some (.int a0), none], [.int r5, .int (1 + (M2.1 50 4)), .ref 40], mSS M2)
  obtain ⟨g6, h⟩ := grd_of h
  refine R_iast (by decide +kernel) rfl g6 ?_
  obtain ⟨M7, hv, h⟩ := nxt_ex h
  rw [← hv]
  clear hv
  refine mRunF.sg (mSl mk_3 29 3) (g := (58, [some (.ref 50), some (.int 0), some (.int a0), none], [.int (-1), .ref 39], mSS M7)) (by decide +kernel) rfl ?_
  obtain ⟨M9, q8, h⟩ := bV_of h
  refine R_callV (mi := 90) (na := 2) (ci := 10) (i := 39) (as := [.int (-1)]) (r := []) (rv := none) (σ1 := mSS M9) ⟨71, by decide +kernel⟩ rfl rfl rfl rfl (Wk_see_r N (-1) M7 (d + 0) q8) ?_
  show mRunF _ _ (61, [some (.ref 50), some (.int 0), some (.int a0), none], [], mSS M9)
  refine mRunF.sg (mSl mk_3 33 4) (g := (67, [some (.ref 50), some (.int 0), some (.int a0), none], [.int 1, .int 0, .ref 39], mSS M9)) (by decide +kernel) rfl ?_
  obtain ⟨r11, q10, h⟩ := bR_of h
  refine R_callV (mi := 95) (na := 3) (ci := 10) (i := 39) (as := [.int 0, .int 1]) (r := []) (rv := some (.int r11)) (σ1 := mSS M9) ⟨75, by decide +kernel⟩ rfl rfl rfl rfl (Wk_shared_r N 0 1 M9 (d + 2) q10) ?_
  show mRunF _ _ (70, [some (.ref 50), some (.int 0), some (.int a0), none], [.int r11], mSS M9)
  refine mRunF.sg (mSl mk_3 38 3) (g := (75, [some (.ref 50), some (.int 0), some (.int a0), some (.int r11)], [.ref 39], mSS M9)) (by decide +kernel) rfl ?_
  obtain ⟨M13, q12, h⟩ := bV_of h
  refine R_callV (mi := 92) (na := 1) (ci := 10) (i := 39) (as := []) (r := []) (rv := none) (σ1 := mSS M13) ⟨78, by decide +kernel⟩ rfl rfl rfl rfl (Wk_pass_r N M9 (d + 2) q12) ?_
  show mRunF _ _ (78, [some (.ref 50), some (.int 0), some (.int a0), some (.int r11)], [], mSS M13)
  refine mRunF.sg (mSl mk_3 42 9) (g := (93, [some (.ref 50), some (.int 0), some (.int a0), some (.int r11)], [.int (0 + 1), .ref 51, .int 0, .ref 40], mSS M13)) (by decide +kernel) rfl ?_
  refine R_aald (by decide +kernel) rfl rfl (j := 53) rfl ?_
  refine mRunF.sg (mSl mk_3 52 2) (g := (97, [some (.ref 50), some (.int 0), some (.int a0), some (.int r11)], [.int 44, .int 0, .ref 53, .int 0, .ref 40], mSS M13)) (by decide +kernel) rfl ?_
  refine R_copy ⟨37, by decide +kernel⟩ rfl rfl rfl ?_
  obtain ⟨M14, hv, h⟩ := nxt_ex h
  rw [← hv]
  clear hv
  refine mRunF.sg (mSl mk_3 55 1) (g := (101, [some (.ref 50), some (.int 0), some (.int a0), some (.int r11)], [.int r11], mSS M14)) (by decide +kernel) rfl ?_
  cases h
  exact R_iret (by decide +kernel)
set_option maxRecDepth 100000 in
set_option maxHeartbeats 4000000 in
theorem Wk_begin_s2_r (N : Nat)  (M : mS) {M' : mS} (d : Nat) (h : Wk_begin_s2 N M = some M') : mMet mP mTx (d + 1) 89 [.ref 39, .ref 53] (mSS M) none (mSS M') := by
  refine mMet_i ⟨Nat.le_refl _, Nat.le_refl _, Nat.le_of_ble_eq_true rfl⟩ ?_
  unfold Wk_begin_s2 at h
  show mRunF (mCd 89) (mEE (mMet mP mTx (d + 0)) (none) none M') (0, [some (.ref 39), some (.ref 53)], [], mSS M)
  refine mRunF.sg (mSl mk_89 0 6) (g := (9, [some (.ref 39), some (.ref 53)], [.int 44, .int 0, .ref 40, .int 0, .ref 53], mSS M)) (by decide +kernel) rfl ?_
  refine R_copy ⟨28, by decide +kernel⟩ rfl rfl rfl ?_
  obtain ⟨M1, hv, h⟩ := nxt_ex h
  rw [← hv]
  clear hv
  refine mRunF.sg (mSl mk_89 7 3) (g := (17, [some (.ref 39), some (.ref 53)], [], mSS (mWI M1 39 7 0))) (by decide +kernel) rfl ?_
  obtain ⟨M2, hv, h⟩ := nxt_ex h
  rw [← hv]
  clear hv
  cases h
  exact R_vret (by decide +kernel)
set_option maxRecDepth 100000 in
set_option maxHeartbeats 4000000 in
theorem Gm_tryMove_s1_r (N : Nat) (a0 : Int32) (M : mS) {r : Int32} {M' : mS} (d : Nat) (h : Gm_tryMove_s1 N a0 M = some (r, M')) : mMet mP mTx (d + 5) 3 [.ref 50, .int 1, .int a0] (mSS M) (some (.int r)) (mSS M') := by
  refine mMet_i ⟨Nat.le_refl _, Nat.le_refl _, Nat.le_of_ble_eq_true rfl⟩ ?_
  unfold Gm_tryMove_s1 at h
  show mRunF (mCd 3) (mEE (mMet mP mTx (d + 4)) (some .int) (some (.int r)) M') (0, [some (.ref 50), some (.int 1), some (.int a0), none], [], mSS M)
  refine mRunF.sg (mSl mk_3 0 5) (g := (9, [some (.ref 50), some (.int 1), some (.int a0), none], [.int 1, .ref 51, .ref 39], mSS M)) (by decide +kernel) rfl ?_
  refine R_aald (by decide +kernel) rfl rfl (j := 53) rfl ?_
  obtain ⟨M2, q1, h⟩ := bV_of h
  refine R_callV (mi := 89) (na := 2) (ci := 10) (i := 39) (as := [.ref 53]) (r := []) (rv := none) (σ1 := mSS M2) ⟨53, by decide +kernel⟩ rfl rfl rfl rfl (Wk_begin_s2_r N M (d + 3) q1) ?_
  show mRunF _ _ (13, [some (.ref 50), some (.int 1), some (.int a0), none], [], mSS M2)
  refine mRunF.sg (mSl mk_3 7 14) (g := (39, [some (.ref 50), some (.int 1), some (.int a0), none], [.int (1 + (M2.1 50 4)), .ref 40, .int (1 + (M2.1 50 4)), .ref 40], mSS M2)) (by decide +kernel) rfl ?_
  obtain ⟨g3, h⟩ := grd_of h
  refine R_iald (by decide +kernel) rfl g3 ?_
  refine mRunF.sg (mSl mk_3 22 5) (g := (49, [some (.ref 50), some (.int 1), some (.int a0), none], [.int (M2.1 3 6), .int ((M2.1 40 (1 + (M2.1 50 4)).toNatClampNeg) + a0), .int (1 + (M2.1 50 4)), .ref 40], mSS M2)) (by decide +kernel) rfl ?_
  obtain ⟨r5, q4, h⟩ := bR_of h
  refine R_callS (mi := 166) (na := 2) (as := [.int ((M2.1 40 (1 + (M2.1 50 4)).toNatClampNeg) + a0), .int (M2.1 3 6)]) (r := [.int (1 + (M2.1 50 4)), .ref 40]) (rv := some (.int r5)) (σ1 := mSS M2) ⟨68, by decide +kernel⟩ rfl rfl rfl (Md_rest_r N ((M2.1 40 (1 + (M2.1 50 4)).toNatClampNeg) + a0) (M2.1 3 6) M2 (d + 3) q4) ?_
  show mRunF _ _ (52, [some (.ref 50), some (.int 1), some (.int a0), none], [.int r5, .int (1 + (M2.1 50 4)), .ref 40], mSS M2)
  obtain ⟨g6, h⟩ := grd_of h
  refine R_iast (by decide +kernel) rfl g6 ?_
  obtain ⟨M7, hv, h⟩ := nxt_ex h
  rw [← hv]
  clear hv
  refine mRunF.sg (mSl mk_3 29 3) (g := (58, [some (.ref 50), some (.int 1), some (.int a0), none], [.int (-1), .ref 39], mSS M7)) (by decide +kernel) rfl ?_
  obtain ⟨M9, q8, h⟩ := bV_of h
  refine R_callV (mi := 90) (na := 2) (ci := 10) (i := 39) (as := [.int (-1)]) (r := []) (rv := none) (σ1 := mSS M9) ⟨71, by decide +kernel⟩ rfl rfl rfl rfl (Wk_see_r N (-1) M7 (d + 0) q8) ?_
  show mRunF _ _ (61, [some (.ref 50), some (.int 1), some (.int a0), none], [], mSS M9)
  refine mRunF.sg (mSl mk_3 33 4) (g := (67, [some (.ref 50), some (.int 1), some (.int a0), none], [.int 1, .int 0, .ref 39], mSS M9)) (by decide +kernel) rfl ?_
  obtain ⟨r11, q10, h⟩ := bR_of h
  refine R_callV (mi := 95) (na := 3) (ci := 10) (i := 39) (as := [.int 0, .int 1]) (r := []) (rv := some (.int r11)) (σ1 := mSS M9) ⟨75, by decide +kernel⟩ rfl rfl rfl rfl (Wk_shared_r N 0 1 M9 (d + 2) q10) ?_
  show mRunF _ _ (70, [some (.ref 50), some (.int 1), some (.int a0), none], [.int r11], mSS M9)
  refine mRunF.sg (mSl mk_3 38 3) (g := (75, [some (.ref 50), some (.int 1), some (.int a0), some (.int r11)], [.ref 39], mSS M9)) (by decide +kernel) rfl ?_
  obtain ⟨M13, q12, h⟩ := bV_of h
  refine R_callV (mi := 92) (na := 1) (ci := 10) (i := 39) (as := []) (r := []) (rv := none) (σ1 := mSS M13) ⟨78, by decide +kernel⟩ rfl rfl rfl rfl (Wk_pass_r N M9 (d + 2) q12) ?_
  show mRunF _ _ (78, [some (.ref 50), some (.int 1), some (.int a0), some (.int r11)], [], mSS M13)
  refine mRunF.sg (mSl mk_3 42 9) (g := (93, [some (.ref 50), some (.int 1), some (.int a0), some (.int r11)], [.int (1 + 1), .ref 51, .int 0, .ref 40], mSS M13)) (by decide +kernel) rfl ?_
  refine R_aald (by decide +kernel) rfl rfl (j := 54) rfl ?_
  refine mRunF.sg (mSl mk_3 52 2) (g := (97, [some (.ref 50), some (.int 1), some (.int a0), some (.int r11)], [.int 44, .int 0, .ref 54, .int 0, .ref 40], mSS M13)) (by decide +kernel) rfl ?_
  refine R_copy ⟨37, by decide +kernel⟩ rfl rfl rfl ?_
  obtain ⟨M14, hv, h⟩ := nxt_ex h
  rw [← hv]
  clear hv
  refine mRunF.sg (mSl mk_3 55 1) (g := (101, [some (.ref 50), some (.int 1), some (.int a0), some (.int r11)], [.int r11], mSS M14)) (by decide +kernel) rfl ?_
  cases h
  exact R_iret (by decide +kernel)
set_option maxRecDepth 100000 in
set_option maxHeartbeats 4000000 in
theorem Wk_begin_s3_r (N : Nat)  (M : mS) {M' : mS} (d : Nat) (h : Wk_begin_s3 N M = some M') : mMet mP mTx (d + 1) 89 [.ref 39, .ref 54] (mSS M) none (mSS M') := by
  refine mMet_i ⟨Nat.le_refl _, Nat.le_refl _, Nat.le_of_ble_eq_true rfl⟩ ?_
  unfold Wk_begin_s3 at h
  show mRunF (mCd 89) (mEE (mMet mP mTx (d + 0)) (none) none M') (0, [some (.ref 39), some (.ref 54)], [], mSS M)
  refine mRunF.sg (mSl mk_89 0 6) (g := (9, [some (.ref 39), some (.ref 54)], [.int 44, .int 0, .ref 40, .int 0, .ref 54], mSS M)) (by decide +kernel) rfl ?_
  refine R_copy ⟨28, by decide +kernel⟩ rfl rfl rfl ?_
  obtain ⟨M1, hv, h⟩ := nxt_ex h
  rw [← hv]
  clear hv
  refine mRunF.sg (mSl mk_89 7 3) (g := (17, [some (.ref 39), some (.ref 54)], [], mSS (mWI M1 39 7 0))) (by decide +kernel) rfl ?_
  obtain ⟨M2, hv, h⟩ := nxt_ex h
  rw [← hv]
  clear hv
  cases h
  exact R_vret (by decide +kernel)
set_option maxRecDepth 100000 in
set_option maxHeartbeats 4000000 in
theorem Gm_tryMove_s2_r (N : Nat) (a0 : Int32) (M : mS) {r : Int32} {M' : mS} (d : Nat) (h : Gm_tryMove_s2 N a0 M = some (r, M')) : mMet mP mTx (d + 5) 3 [.ref 50, .int 2, .int a0] (mSS M) (some (.int r)) (mSS M') := by
  refine mMet_i ⟨Nat.le_refl _, Nat.le_refl _, Nat.le_of_ble_eq_true rfl⟩ ?_
  unfold Gm_tryMove_s2 at h
  show mRunF (mCd 3) (mEE (mMet mP mTx (d + 4)) (some .int) (some (.int r)) M') (0, [some (.ref 50), some (.int 2), some (.int a0), none], [], mSS M)
  refine mRunF.sg (mSl mk_3 0 5) (g := (9, [some (.ref 50), some (.int 2), some (.int a0), none], [.int 2, .ref 51, .ref 39], mSS M)) (by decide +kernel) rfl ?_
  refine R_aald (by decide +kernel) rfl rfl (j := 54) rfl ?_
  obtain ⟨M2, q1, h⟩ := bV_of h
  refine R_callV (mi := 89) (na := 2) (ci := 10) (i := 39) (as := [.ref 54]) (r := []) (rv := none) (σ1 := mSS M2) ⟨53, by decide +kernel⟩ rfl rfl rfl rfl (Wk_begin_s3_r N M (d + 3) q1) ?_
  show mRunF _ _ (13, [some (.ref 50), some (.int 2), some (.int a0), none], [], mSS M2)
  refine mRunF.sg (mSl mk_3 7 14) (g := (39, [some (.ref 50), some (.int 2), some (.int a0), none], [.int (1 + (M2.1 50 4)), .ref 40, .int (1 + (M2.1 50 4)), .ref 40], mSS M2)) (by decide +kernel) rfl ?_
  obtain ⟨g3, h⟩ := grd_of h
  refine R_iald (by decide +kernel) rfl g3 ?_
  refine mRunF.sg (mSl mk_3 22 5) (g := (49, [some (.ref 50), some (.int 2), some (.int a0), none], [.int (M2.1 3 6), .int ((M2.1 40 (1 + (M2.1 50 4)).toNatClampNeg) + a0), .int (1 + (M2.1 50 4)), .ref 40], mSS M2)) (by decide +kernel) rfl ?_
  obtain ⟨r5, q4, h⟩ := bR_of h
  refine R_callS (mi := 166) (na := 2) (as := [.int ((M2.1 40 (1 + (M2.1 50 4)).toNatClampNeg) + a0), .int (M2.1 3 6)]) (r := [.int (1 + (M2.1 50 4)), .ref 40]) (rv := some (.int r5)) (σ1 := mSS M2) ⟨68, by decide +kernel⟩ rfl rfl rfl (Md_rest_r N ((M2.1 40 (1 + (M2.1 50 4)).toNatClampNeg) + a0) (M2.1 3 6) M2 (d + 3) q4) ?_
  show mRunF _ _ (52, [some (.ref 50), some (.int 2), some (.int a0), none], [.int r5, .int (1 + (M2.1 50 4)), .ref 40], mSS M2)
  obtain ⟨g6, h⟩ := grd_of h
  refine R_iast (by decide +kernel) rfl g6 ?_
  obtain ⟨M7, hv, h⟩ := nxt_ex h
  rw [← hv]
  clear hv
  refine mRunF.sg (mSl mk_3 29 3) (g := (58, [some (.ref 50), some (.int 2), some (.int a0), none], [.int (-1), .ref 39], mSS M7)) (by decide +kernel) rfl ?_
  obtain ⟨M9, q8, h⟩ := bV_of h
  refine R_callV (mi := 90) (na := 2) (ci := 10) (i := 39) (as := [.int (-1)]) (r := []) (rv := none) (σ1 := mSS M9) ⟨71, by decide +kernel⟩ rfl rfl rfl rfl (Wk_see_r N (-1) M7 (d + 0) q8) ?_
  show mRunF _ _ (61, [some (.ref 50), some (.int 2), some (.int a0), none], [], mSS M9)
  refine mRunF.sg (mSl mk_3 33 4) (g := (67, [some (.ref 50), some (.int 2), some (.int a0), none], [.int 1, .int 0, .ref 39], mSS M9)) (by decide +kernel) rfl ?_
  obtain ⟨r11, q10, h⟩ := bR_of h
  refine R_callV (mi := 95) (na := 3) (ci := 10) (i := 39) (as := [.int 0, .int 1]) (r := []) (rv := some (.int r11)) (σ1 := mSS M9) ⟨75, by decide +kernel⟩ rfl rfl rfl rfl (Wk_shared_r N 0 1 M9 (d + 2) q10) ?_
  show mRunF _ _ (70, [some (.ref 50), some (.int 2), some (.int a0), none], [.int r11], mSS M9)
  refine mRunF.sg (mSl mk_3 38 3) (g := (75, [some (.ref 50), some (.int 2), some (.int a0), some (.int r11)], [.ref 39], mSS M9)) (by decide +kernel) rfl ?_
  obtain ⟨M13, q12, h⟩ := bV_of h
  refine R_callV (mi := 92) (na := 1) (ci := 10) (i := 39) (as := []) (r := []) (rv := none) (σ1 := mSS M13) ⟨78, by decide +kernel⟩ rfl rfl rfl rfl (Wk_pass_r N M9 (d + 2) q12) ?_
  show mRunF _ _ (78, [some (.ref 50), some (.int 2), some (.int a0), some (.int r11)], [], mSS M13)
  refine mRunF.sg (mSl mk_3 42 9) (g := (93, [some (.ref 50), some (.int 2), some (.int a0), some (.int r11)], [.int (2 + 1), .ref 51, .int 0, .ref 40], mSS M13)) (by decide +kernel) rfl ?_
  refine R_aald (by decide +kernel) rfl rfl (j := 55) rfl ?_
  refine mRunF.sg (mSl mk_3 52 2) (g := (97, [some (.ref 50), some (.int 2), some (.int a0), some (.int r11)], [.int 44, .int 0, .ref 55, .int 0, .ref 40], mSS M13)) (by decide +kernel) rfl ?_
  refine R_copy ⟨37, by decide +kernel⟩ rfl rfl rfl ?_
  obtain ⟨M14, hv, h⟩ := nxt_ex h
  rw [← hv]
  clear hv
  refine mRunF.sg (mSl mk_3 55 1) (g := (101, [some (.ref 50), some (.int 2), some (.int a0), some (.int r11)], [.int r11], mSS M14)) (by decide +kernel) rfl ?_
  cases h
  exact R_iret (by decide +kernel)
set_option maxRecDepth 100000 in
set_option maxHeartbeats 4000000 in
theorem Wk_begin_s4_r (N : Nat)  (M : mS) {M' : mS} (d : Nat) (h : Wk_begin_s4 N M = some M') : mMet mP mTx (d + 1) 89 [.ref 39, .ref 55] (mSS M) none (mSS M') := by
  refine mMet_i ⟨Nat.le_refl _, Nat.le_refl _, Nat.le_of_ble_eq_true rfl⟩ ?_
  unfold Wk_begin_s4 at h
  show mRunF (mCd 89) (mEE (mMet mP mTx (d + 0)) (none) none M') (0, [some (.ref 39), some (.ref 55)], [], mSS M)
  refine mRunF.sg (mSl mk_89 0 6) (g := (9, [some (.ref 39), some (.ref 55)], [.int 44, .int 0, .ref 40, .int 0, .ref 55], mSS M)) (by decide +kernel) rfl ?_
  refine R_copy ⟨28, by decide +kernel⟩ rfl rfl rfl ?_
  obtain ⟨M1, hv, h⟩ := nxt_ex h
  rw [← hv]
  clear hv
  refine mRunF.sg (mSl mk_89 7 3) (g := (17, [some (.ref 39), some (.ref 55)], [], mSS (mWI M1 39 7 0))) (by decide +kernel) rfl ?_
  obtain ⟨M2, hv, h⟩ := nxt_ex h
  rw [← hv]
  clear hv
  cases h
  exact R_vret (by decide +kernel)
set_option maxRecDepth 100000 in
set_option maxHeartbeats 4000000 in
theorem Gm_tryMove_s3_r (N : Nat) (a0 : Int32) (M : mS) {r : Int32} {M' : mS} (d : Nat) (h : Gm_tryMove_s3 N a0 M = some (r, M')) : mMet mP mTx (d + 5) 3 [.ref 50, .int 3, .int a0] (mSS M) (some (.int r)) (mSS M') := by
  refine mMet_i ⟨Nat.le_refl _, Nat.le_refl _, Nat.le_of_ble_eq_true rfl⟩ ?_
  unfold Gm_tryMove_s3 at h
  show mRunF (mCd 3) (mEE (mMet mP mTx (d + 4)) (some .int) (some (.int r)) M') (0, [some (.ref 50), some (.int 3), some (.int a0), none], [], mSS M)
  refine mRunF.sg (mSl mk_3 0 5) (g := (9, [some (.ref 50), some (.int 3), some (.int a0), none], [.int 3, .ref 51, .ref 39], mSS M)) (by decide +kernel) rfl ?_
  refine R_aald (by decide +kernel) rfl rfl (j := 55) rfl ?_
  obtain ⟨M2, q1, h⟩ := bV_of h
  refine R_callV (mi := 89) (na := 2) (ci := 10) (i := 39) (as := [.ref 55]) (r := []) (rv := none) (σ1 := mSS M2) ⟨53, by decide +kernel⟩ rfl rfl rfl rfl (Wk_begin_s4_r N M (d + 3) q1) ?_
  show mRunF _ _ (13, [some (.ref 50), some (.int 3), some (.int a0), none], [], mSS M2)
  refine mRunF.sg (mSl mk_3 7 14) (g := (39, [some (.ref 50), some (.int 3), some (.int a0), none], [.int (1 + (M2.1 50 4)), .ref 40, .int (1 + (M2.1 50 4)), .ref 40], mSS M2)) (by decide +kernel) rfl ?_
  obtain ⟨g3, h⟩ := grd_of h
  refine R_iald (by decide +kernel) rfl g3 ?_
  refine mRunF.sg (mSl mk_3 22 5) (g := (49, [some (.ref 50), some (.int 3), some (.int a0), none], [.int (M2.1 3 6), .int ((M2.1 40 (1 + (M2.1 50 4)).toNatClampNeg) + a0), .int (1 + (M2.1 50 4)), .ref 40], mSS M2)) (by decide +kernel) rfl ?_
  obtain ⟨r5, q4, h⟩ := bR_of h
  refine R_callS (mi := 166) (na := 2) (as := [.int ((M2.1 40 (1 + (M2.1 50 4)).toNatClampNeg) + a0), .int (M2.1 3 6)]) (r := [.int (1 + (M2.1 50 4)), .ref 40]) (rv := some (.int r5)) (σ1 := mSS M2) ⟨68, by decide +kernel⟩ rfl rfl rfl (Md_rest_r N ((M2.1 40 (1 + (M2.1 50 4)).toNatClampNeg) + a0) (M2.1 3 6) M2 (d + 3) q4) ?_
  show mRunF _ _ (52, [some (.ref 50), some (.int 3), some (.int a0), none], [.int r5, .int (1 + (M2.1 50 4)), .ref 40], mSS M2)
  obtain ⟨g6, h⟩ := grd_of h
  refine R_iast (by decide +kernel) rfl g6 ?_
  obtain ⟨M7, hv, h⟩ := nxt_ex h
  rw [← hv]
  clear hv
  refine mRunF.sg (mSl mk_3 29 3) (g := (58, [some (.ref 50), some (.int 3), some (.int a0), none], [.int (-1), .ref 39], mSS M7)) (by decide +kernel) rfl ?_
  obtain ⟨M9, q8, h⟩ := bV_of h
  refine R_callV (mi := 90) (na := 2) (ci := 10) (i := 39) (as := [.int (-1)]) (r := []) (rv := none) (σ1 := mSS M9) ⟨71, by decide +kernel⟩ rfl rfl rfl rfl (Wk_see_r N (-1) M7 (d + 0) q8) ?_
  show mRunF _ _ (61, [some (.ref 50), some (.int 3), some (.int a0), none], [], mSS M9)
  refine mRunF.sg (mSl mk_3 33 4) (g := (67, [some (.ref 50), some (.int 3), some (.int a0), none], [.int 1, .int 0, .ref 39], mSS M9)) (by decide +kernel) rfl ?_
  obtain ⟨r11, q10, h⟩ := bR_of h
  refine R_callV (mi := 95) (na := 3) (ci := 10) (i := 39) (as := [.int 0, .int 1]) (r := []) (rv := some (.int r11)) (σ1 := mSS M9) ⟨75, by decide +kernel⟩ rfl rfl rfl rfl (Wk_shared_r N 0 1 M9 (d + 2) q10) ?_
  show mRunF _ _ (70, [some (.ref 50), some (.int 3), some (.int a0), none], [.int r11], mSS M9)
  refine mRunF.sg (mSl mk_3 38 3) (g := (75, [some (.ref 50), some (.int 3), some (.int a0), some (.int r11)], [.ref 39], mSS M9)) (by decide +kernel) rfl ?_
  obtain ⟨M13, q12, h⟩ := bV_of h
  refine R_callV (mi := 92) (na := 1) (ci := 10) (i := 39) (as := []) (r := []) (rv := none) (σ1 := mSS M13) ⟨78, by decide +kernel⟩ rfl rfl rfl rfl (Wk_pass_r N M9 (d + 2) q12) ?_
  show mRunF _ _ (78, [some (.ref 50), some (.int 3), some (.int a0), some (.int r11)], [], mSS M13)
  refine mRunF.sg (mSl mk_3 42 9) (g := (93, [some (.ref 50), some (.int 3), some (.int a0), some (.int r11)], [.int (3 + 1), .ref 51, .int 0, .ref 40], mSS M13)) (by decide +kernel) rfl ?_
  refine R_aald (by decide +kernel) rfl rfl (j := 56) rfl ?_
  refine mRunF.sg (mSl mk_3 52 2) (g := (97, [some (.ref 50), some (.int 3), some (.int a0), some (.int r11)], [.int 44, .int 0, .ref 56, .int 0, .ref 40], mSS M13)) (by decide +kernel) rfl ?_
  refine R_copy ⟨37, by decide +kernel⟩ rfl rfl rfl ?_
  obtain ⟨M14, hv, h⟩ := nxt_ex h
  rw [← hv]
  clear hv
  refine mRunF.sg (mSl mk_3 55 1) (g := (101, [some (.ref 50), some (.int 3), some (.int a0), some (.int r11)], [.int r11], mSS M14)) (by decide +kernel) rfl ?_
  cases h
  exact R_iret (by decide +kernel)
set_option maxRecDepth 100000 in
set_option maxHeartbeats 4000000 in
theorem Wk_begin_s5_r (N : Nat)  (M : mS) {M' : mS} (d : Nat) (h : Wk_begin_s5 N M = some M') : mMet mP mTx (d + 1) 89 [.ref 39, .ref 56] (mSS M) none (mSS M') := by
  refine mMet_i ⟨Nat.le_refl _, Nat.le_refl _, Nat.le_of_ble_eq_true rfl⟩ ?_
  unfold Wk_begin_s5 at h
  show mRunF (mCd 89) (mEE (mMet mP mTx (d + 0)) (none) none M') (0, [some (.ref 39), some (.ref 56)], [], mSS M)
  refine mRunF.sg (mSl mk_89 0 6) (g := (9, [some (.ref 39), some (.ref 56)], [.int 44, .int 0, .ref 40, .int 0, .ref 56], mSS M)) (by decide +kernel) rfl ?_
  refine R_copy ⟨28, by decide +kernel⟩ rfl rfl rfl ?_
  obtain ⟨M1, hv, h⟩ := nxt_ex h
  rw [← hv]
  clear hv
  refine mRunF.sg (mSl mk_89 7 3) (g := (17, [some (.ref 39), some (.ref 56)], [], mSS (mWI M1 39 7 0))) (by decide +kernel) rfl ?_
  obtain ⟨M2, hv, h⟩ := nxt_ex h
  rw [← hv]
  clear hv
  cases h
  exact R_vret (by decide +kernel)
set_option maxRecDepth 100000 in
set_option maxHeartbeats 4000000 in
theorem Gm_tryMove_s4_r (N : Nat) (a0 : Int32) (M : mS) {r : Int32} {M' : mS} (d : Nat) (h : Gm_tryMove_s4 N a0 M = some (r, M')) : mMet mP mTx (d + 5) 3 [.ref 50, .int 4, .int a0] (mSS M) (some (.int r)) (mSS M') := by
  refine mMet_i ⟨Nat.le_refl _, Nat.le_refl _, Nat.le_of_ble_eq_true rfl⟩ ?_
  unfold Gm_tryMove_s4 at h
  show mRunF (mCd 3) (mEE (mMet mP mTx (d + 4)) (some .int) (some (.int r)) M') (0, [some (.ref 50), some (.int 4), some (.int a0), none], [], mSS M)
  refine mRunF.sg (mSl mk_3 0 5) (g := (9, [some (.ref 50), some (.int 4), some (.int a0), none], [.int 4, .ref 51, .ref 39], mSS M)) (by decide +kernel) rfl ?_
  refine R_aald (by decide +kernel) rfl rfl (j := 56) rfl ?_
  obtain ⟨M2, q1, h⟩ := bV_of h
  refine R_callV (mi := 89) (na := 2) (ci := 10) (i := 39) (as := [.ref 56]) (r := []) (rv := none) (σ1 := mSS M2) ⟨53, by decide +kernel⟩ rfl rfl rfl rfl (Wk_begin_s5_r N M (d + 3) q1) ?_
  show mRunF _ _ (13, [some (.ref 50), some (.int 4), some (.int a0), none], [], mSS M2)
  refine mRunF.sg (mSl mk_3 7 14) (g := (39, [some (.ref 50), some (.int 4), some (.int a0), none], [.int (1 + (M2.1 50 4)), .ref 40, .int (1 + (M2.1 50 4)), .ref 40], mSS M2)) (by decide +kernel) rfl ?_
  obtain ⟨g3, h⟩ := grd_of h
  refine R_iald (by decide +kernel) rfl g3 ?_
  refine mRunF.sg (mSl mk_3 22 5) (g := (49, [some (.ref 50), some (.int 4), some (.int a0), none], [.int (M2.1 3 6), .int ((M2.1 40 (1 + (M2.1 50 4)).toNatClampNeg) + a0), .int (1 + (M2.1 50 4)), .ref 40], mSS M2)) (by decide +kernel) rfl ?_
  obtain ⟨r5, q4, h⟩ := bR_of h
  refine R_callS (mi := 166) (na := 2) (as := [.int ((M2.1 40 (1 + (M2.1 50 4)).toNatClampNeg) + a0), .int (M2.1 3 6)]) (r := [.int (1 + (M2.1 50 4)), .ref 40]) (rv := some (.int r5)) (σ1 := mSS M2) ⟨68, by decide +kernel⟩ rfl rfl rfl (Md_rest_r N ((M2.1 40 (1 + (M2.1 50 4)).toNatClampNeg) + a0) (M2.1 3 6) M2 (d + 3) q4) ?_
  show mRunF _ _ (52, [some (.ref 50), some (.int 4), some (.int a0), none], [.int r5, .int (1 + (M2.1 50 4)), .ref 40], mSS M2)
  obtain ⟨g6, h⟩ := grd_of h
  refine R_iast (by decide +kernel) rfl g6 ?_
  obtain ⟨M7, hv, h⟩ := nxt_ex h
  rw [← hv]
  clear hv
  refine mRunF.sg (mSl mk_3 29 3) (g := (58, [some (.ref 50), some (.int 4), some (.int a0), none], [.int (-1), .ref 39], mSS M7)) (by decide +kernel) rfl ?_
  obtain ⟨M9, q8, h⟩ := bV_of h
  refine R_callV (mi := 90) (na := 2) (ci := 10) (i := 39) (as := [.int (-1)]) (r := []) (rv := none) (σ1 := mSS M9) ⟨71, by decide +kernel⟩ rfl rfl rfl rfl (Wk_see_r N (-1) M7 (d + 0) q8) ?_
  show mRunF _ _ (61, [some (.ref 50), some (.int 4), some (.int a0), none], [], mSS M9)
  refine mRunF.sg (mSl mk_3 33 4) (g := (67, [some (.ref 50), some (.int 4), some (.int a0), none], [.int 1, .int 0, .ref 39], mSS M9)) (by decide +kernel) rfl ?_
  obtain ⟨r11, q10, h⟩ := bR_of h
  refine R_callV (mi := 95) (na := 3) (ci := 10) (i := 39) (as := [.int 0, .int 1]) (r := []) (rv := some (.int r11)) (σ1 := mSS M9) ⟨75, by decide +kernel⟩ rfl rfl rfl rfl (Wk_shared_r N 0 1 M9 (d + 2) q10) ?_
  show mRunF _ _ (70, [some (.ref 50), some (.int 4), some (.int a0), none], [.int r11], mSS M9)
  refine mRunF.sg (mSl mk_3 38 3) (g := (75, [some (.ref 50), some (.int 4), some (.int a0), some (.int r11)], [.ref 39], mSS M9)) (by decide +kernel) rfl ?_
  obtain ⟨M13, q12, h⟩ := bV_of h
  refine R_callV (mi := 92) (na := 1) (ci := 10) (i := 39) (as := []) (r := []) (rv := none) (σ1 := mSS M13) ⟨78, by decide +kernel⟩ rfl rfl rfl rfl (Wk_pass_r N M9 (d + 2) q12) ?_
  show mRunF _ _ (78, [some (.ref 50), some (.int 4), some (.int a0), some (.int r11)], [], mSS M13)
  refine mRunF.sg (mSl mk_3 42 9) (g := (93, [some (.ref 50), some (.int 4), some (.int a0), some (.int r11)], [.int (4 + 1), .ref 51, .int 0, .ref 40], mSS M13)) (by decide +kernel) rfl ?_
  refine R_aald (by decide +kernel) rfl rfl (j := 57) rfl ?_
  refine mRunF.sg (mSl mk_3 52 2) (g := (97, [some (.ref 50), some (.int 4), some (.int a0), some (.int r11)], [.int 44, .int 0, .ref 57, .int 0, .ref 40], mSS M13)) (by decide +kernel) rfl ?_
  refine R_copy ⟨37, by decide +kernel⟩ rfl rfl rfl ?_
  obtain ⟨M14, hv, h⟩ := nxt_ex h
  rw [← hv]
  clear hv
  refine mRunF.sg (mSl mk_3 55 1) (g := (101, [some (.ref 50), some (.int 4), some (.int a0), some (.int r11)], [.int r11], mSS M14)) (by decide +kernel) rfl ?_
  cases h
  exact R_iret (by decide +kernel)
set_option maxRecDepth 100000 in
set_option maxHeartbeats 4000000 in
theorem Wk_begin_s6_r (N : Nat)  (M : mS) {M' : mS} (d : Nat) (h : Wk_begin_s6 N M = some M') : mMet mP mTx (d + 1) 89 [.ref 39, .ref 57] (mSS M) none (mSS M') := by
  refine mMet_i ⟨Nat.le_refl _, Nat.le_refl _, Nat.le_of_ble_eq_true rfl⟩ ?_
  unfold Wk_begin_s6 at h
  show mRunF (mCd 89) (mEE (mMet mP mTx (d + 0)) (none) none M') (0, [some (.ref 39), some (.ref 57)], [], mSS M)
  refine mRunF.sg (mSl mk_89 0 6) (g := (9, [some (.ref 39), some (.ref 57)], [.int 44, .int 0, .ref 40, .int 0, .ref 57], mSS M)) (by decide +kernel) rfl ?_
  refine R_copy ⟨28, by decide +kernel⟩ rfl rfl rfl ?_
  obtain ⟨M1, hv, h⟩ := nxt_ex h
  rw [← hv]
  clear hv
  refine mRunF.sg (mSl mk_89 7 3) (g := (17, [some (.ref 39), some (.ref 57)], [], mSS (mWI M1 39 7 0))) (by decide +kernel) rfl ?_
  obtain ⟨M2, hv, h⟩ := nxt_ex h
  rw [← hv]
  clear hv
  cases h
  exact R_vret (by decide +kernel)
set_option maxRecDepth 100000 in
set_option maxHeartbeats 4000000 in
theorem Gm_tryMove_s5_r (N : Nat) (a0 : Int32) (M : mS) {r : Int32} {M' : mS} (d : Nat) (h : Gm_tryMove_s5 N a0 M = some (r, M')) : mMet mP mTx (d + 5) 3 [.ref 50, .int 5, .int a0] (mSS M) (some (.int r)) (mSS M') := by
  refine mMet_i ⟨Nat.le_refl _, Nat.le_refl _, Nat.le_of_ble_eq_true rfl⟩ ?_
  unfold Gm_tryMove_s5 at h
  show mRunF (mCd 3) (mEE (mMet mP mTx (d + 4)) (some .int) (some (.int r)) M') (0, [some (.ref 50), some (.int 5), some (.int a0), none], [], mSS M)
  refine mRunF.sg (mSl mk_3 0 5) (g := (9, [some (.ref 50), some (.int 5), some (.int a0), none], [.int 5, .ref 51, .ref 39], mSS M)) (by decide +kernel) rfl ?_
  refine R_aald (by decide +kernel) rfl rfl (j := 57) rfl ?_
  obtain ⟨M2, q1, h⟩ := bV_of h
  refine R_callV (mi := 89) (na := 2) (ci := 10) (i := 39) (as := [.ref 57]) (r := []) (rv := none) (σ1 := mSS M2) ⟨53, by decide +kernel⟩ rfl rfl rfl rfl (Wk_begin_s6_r N M (d + 3) q1) ?_
  show mRunF _ _ (13, [some (.ref 50), some (.int 5), some (.int a0), none], [], mSS M2)
  refine mRunF.sg (mSl mk_3 7 14) (g := (39, [some (.ref 50), some (.int 5), some (.int a0), none], [.int (1 + (M2.1 50 4)), .ref 40, .int (1 + (M2.1 50 4)), .ref 40], mSS M2)) (by decide +kernel) rfl ?_
  obtain ⟨g3, h⟩ := grd_of h
  refine R_iald (by decide +kernel) rfl g3 ?_
  refine mRunF.sg (mSl mk_3 22 5) (g := (49, [some (.ref 50), some (.int 5), some (.int a0), none], [.int (M2.1 3 6), .int ((M2.1 40 (1 + (M2.1 50 4)).toNatClampNeg) + a0), .int (1 + (M2.1 50 4)), .ref 40], mSS M2)) (by decide +kernel) rfl ?_
  obtain ⟨r5, q4, h⟩ := bR_of h
  refine R_callS (mi := 166) (na := 2) (as := [.int ((M2.1 40 (1 + (M2.1 50 4)).toNatClampNeg) + a0), .int (M2.1 3 6)]) (r := [.int (1 + (M2.1 50 4)), .ref 40]) (rv := some (.int r5)) (σ1 := mSS M2) ⟨68, by decide +kernel⟩ rfl rfl rfl (Md_rest_r N ((M2.1 40 (1 + (M2.1 50 4)).toNatClampNeg) + a0) (M2.1 3 6) M2 (d + 3) q4) ?_
  show mRunF _ _ (52, [some (.ref 50), some (.int 5), some (.int a0), none], [.int r5, .int (1 + (M2.1 50 4)), .ref 40], mSS M2)
  obtain ⟨g6, h⟩ := grd_of h
  refine R_iast (by decide +kernel) rfl g6 ?_
  obtain ⟨M7, hv, h⟩ := nxt_ex h
  rw [← hv]
  clear hv
  refine mRunF.sg (mSl mk_3 29 3) (g := (58, [some (.ref 50), some (.int 5), some (.int a0), none], [.int (-1), .ref 39], mSS M7)) (by decide +kernel) rfl ?_
  obtain ⟨M9, q8, h⟩ := bV_of h
  refine R_callV (mi := 90) (na := 2) (ci := 10) (i := 39) (as := [.int (-1)]) (r := []) (rv := none) (σ1 := mSS M9) ⟨71, by decide +kernel⟩ rfl rfl rfl rfl (Wk_see_r N (-1) M7 (d + 0) q8) ?_
  show mRunF _ _ (61, [some (.ref 50), some (.int 5), some (.int a0), none], [], mSS M9)
  refine mRunF.sg (mSl mk_3 33 4) (g := (67, [some (.ref 50), some (.int 5), some (.int a0), none], [.int 1, .int 0, .ref 39], mSS M9)) (by decide +kernel) rfl ?_
  obtain ⟨r11, q10, h⟩ := bR_of h
  refine R_callV (mi := 95) (na := 3) (ci := 10) (i := 39) (as := [.int 0, .int 1]) (r := []) (rv := some (.int r11)) (σ1 := mSS M9) ⟨75, by decide +kernel⟩ rfl rfl rfl rfl (Wk_shared_r N 0 1 M9 (d + 2) q10) ?_
  show mRunF _ _ (70, [some (.ref 50), some (.int 5), some (.int a0), none], [.int r11], mSS M9)
  refine mRunF.sg (mSl mk_3 38 3) (g := (75, [some (.ref 50), some (.int 5), some (.int a0), some (.int r11)], [.ref 39], mSS M9)) (by decide +kernel) rfl ?_
  obtain ⟨M13, q12, h⟩ := bV_of h
  refine R_callV (mi := 92) (na := 1) (ci := 10) (i := 39) (as := []) (r := []) (rv := none) (σ1 := mSS M13) ⟨78, by decide +kernel⟩ rfl rfl rfl rfl (Wk_pass_r N M9 (d + 2) q12) ?_
  show mRunF _ _ (78, [some (.ref 50), some (.int 5), some (.int a0), some (.int r11)], [], mSS M13)
  refine mRunF.sg (mSl mk_3 42 9) (g := (93, [some (.ref 50), some (.int 5), some (.int a0), some (.int r11)], [.int (5 + 1), .ref 51, .int 0, .ref 40], mSS M13)) (by decide +kernel) rfl ?_
  refine R_aald (by decide +kernel) rfl rfl (j := 58) rfl ?_
  refine mRunF.sg (mSl mk_3 52 2) (g := (97, [some (.ref 50), some (.int 5), some (.int a0), some (.int r11)], [.int 44, .int 0, .ref 58, .int 0, .ref 40], mSS M13)) (by decide +kernel) rfl ?_
  refine R_copy ⟨37, by decide +kernel⟩ rfl rfl rfl ?_
  obtain ⟨M14, hv, h⟩ := nxt_ex h
  rw [← hv]
  clear hv
  refine mRunF.sg (mSl mk_3 55 1) (g := (101, [some (.ref 50), some (.int 5), some (.int a0), some (.int r11)], [.int r11], mSS M14)) (by decide +kernel) rfl ?_
  cases h
  exact R_iret (by decide +kernel)
set_option maxRecDepth 100000 in
set_option maxHeartbeats 4000000 in
theorem Gm_hoursFrom_s6_r  (M : mS) (d : Nat) : mMet mP mTx (d + 1) 2 [.ref 50, .int 6] (mSS M) (some (.int (Gm_hoursFrom_s6 M))) (mSS M) := by
  refine mMet_i ⟨Nat.le_refl _, Nat.le_refl _, Nat.le_of_ble_eq_true rfl⟩ ?_
  generalize h : Gm_hoursFrom_s6 M = r
  unfold Gm_hoursFrom_s6 at h
  show mRunF (mCd 2) (mEE (mMet mP mTx (d + 0)) (some .int) (some (.int r)) M) (0, [some (.ref 50), some (.int 6), none, none, none, none], [], mSS M)
  refine mRunF.sg (mSl mk_2 0 3) (g := (5, [some (.ref 50), some (.int 6), none, none, none, none], [.int (M.1 50 5), .int 6], mSS M)) (by decide +kernel) rfl ?_
  refine R_ige (t := 14) ⟨9, by decide +kernel⟩ (fun q => ?_) (fun q => ?_)
  · rw [if_pos q] at h
    refine mRunF.sg (mSl mk_2 7 1) (g := (15, [some (.ref 50), some (.int 6), none, none, none, none], [.int 0], mSS M)) (by decide +kernel) rfl ?_
    subst h
    exact R_iret (by decide +kernel)
  · rw [if_neg q] at h
    refine mRunF.sg (mSl mk_2 4 2) (g := (11, [some (.ref 50), some (.int 6), none, none, none, none], [.int 6, .int 6], mSS M)) (by decide +kernel) rfl ?_
    refine R_ilt (t := 16) ⟨5, by decide +kernel⟩ (fun q => absurd q (by decide)) (fun _ => ?_)
    refine mRunF.sg (mSl mk_2 7 1) (g := (15, [some (.ref 50), some (.int 6), none, none, none, none], [.int 0], mSS M)) (by decide +kernel) rfl ?_
    subst h
    exact R_iret (by decide +kernel)
set_option maxRecDepth 100000 in
set_option maxHeartbeats 4000000 in
theorem Gm_hoursFrom_s5_96_r {N d : Nat} {k20 : Int32 → Int32 → mS → Option (Int32 × mS)} {M : mS} {x2 : Int32} {x3 : Int32} {r : Int32} {M' : mS} (hk20 : ∀ (x2 : Int32) (x3 : Int32) (M : mS), k20 x2 x3 M = some (r, M') → mRunF (mCd 2) (mEE (mMet mP mTx (d + 5)) (some .int) (some (.int r)) M') (20, [some (.ref 50), some (.int 5), some (.int x2), some (.int x3), none, none], [], mSS M)) (h : Gm_hoursFrom_s5_96 N k20 x2 x3 M = some (r, M')) : mRunF (mCd 2) (mEE (mMet mP mTx (d + 5)) (some .int) (some (.int r)) M') (96, [some (.ref 50), some (.int 5), some (.int x2), some (.int x3), none, none], [], mSS M) := by
  unfold Gm_hoursFrom_s5_96 at h
  refine mRunF.sg (mSl mk_2 57 2) (g := (20, [some (.ref 50), some (.int 5), some (.int x2), some (.int (x3 + 1)), none, none], [], mSS M)) (by decide +kernel) rfl ?_
  exact hk20 _ _ _ h
set_option maxRecDepth 100000 in
set_option maxHeartbeats 4000000 in
theorem Gm_hoursFrom_s5_84_r {N d : Nat} {k20 : Int32 → Int32 → mS → Option (Int32 × mS)} {M : mS} {x3 : Int32} {x4 : Int32} {r : Int32} {M' : mS} (hk20 : ∀ (x2 : Int32) (x3 : Int32) (M : mS), k20 x2 x3 M = some (r, M') → mRunF (mCd 2) (mEE (mMet mP mTx (d + 5)) (some .int) (some (.int r)) M') (20, [some (.ref 50), some (.int 5), some (.int x2), some (.int x3), none, none], [], mSS M)) (h : Gm_hoursFrom_s5_84 N k20 x3 x4 M = some (r, M')) : mRunF (mCd 2) (mEE (mMet mP mTx (d + 5)) (some .int) (some (.int r)) M') (84, [some (.ref 50), some (.int 5), none, some (.int x3), some (.int x4), none], [], mSS M) := by
  unfold Gm_hoursFrom_s5_84 at h
  refine mRunF.sg (mSl mk_2 50 3) (g := (88, [some (.ref 50), some (.int 5), some (.int x4), some (.int x3), some (.int x4), none], [.int 5], mSS M)) (by decide +kernel) rfl ?_
  refine R_ne (t := 96) ⟨8, by decide +kernel⟩ (fun q => absurd q (by decide)) (fun _ => ?_)
  refine mRunF.forget [true, true, true, true, false, true] ?_
  exact Gm_hoursFrom_s5_96_r hk20 h
set_option maxRecDepth 100000 in
set_option maxHeartbeats 4000000 in
theorem Gm_hoursFrom_s5_72_r {N d : Nat} {k20 : Int32 → Int32 → mS → Option (Int32 × mS)} {M : mS} {x2 : Int32} {x3 : Int32} {x4 : Int32} {z0 : Int32} {r : Int32} {M' : mS} (hk20 : ∀ (x2 : Int32) (x3 : Int32) (M : mS), k20 x2 x3 M = some (r, M') → mRunF (mCd 2) (mEE (mMet mP mTx (d + 5)) (some .int) (some (.int r)) M') (20, [some (.ref 50), some (.int 5), some (.int x2), some (.int x3), none, none], [], mSS M)) (h : Gm_hoursFrom_s5_72 N k20 x2 x3 x4 z0 M = some (r, M')) : mRunF (mCd 2) (mEE (mMet mP mTx (d + 5)) (some .int) (some (.int r)) M') (72, [some (.ref 50), some (.int 5), some (.int x2), some (.int x3), some (.int x4), none], [.int z0], mSS M) := by
  unfold Gm_hoursFrom_s5_72 at h
  refine mRunF.sg (mSl mk_2 44 3) (g := (76, [some (.ref 50), some (.int 5), some (.int x2), some (.int x3), some (.int x4), some (.int z0)], [.int (-1), .int x2], mSS M)) (by decide +kernel) rfl ?_
  refine R_ieq (t := 84) ⟨8, by decide +kernel⟩ (fun q => ?_) (fun q => ?_)
  · rw [if_pos q] at h
    refine mRunF.forget [true, true, false, true, true, false] ?_
    exact Gm_hoursFrom_s5_84_r hk20 h
  · rw [if_neg q] at h
    refine mRunF.sg (mSl mk_2 48 1) (g := (81, [some (.ref 50), some (.int 5), some (.int x2), some (.int x3), some (.int x4), some (.int z0)], [.int z0], mSS M)) (by decide +kernel) rfl ?_
    refine R_eq (t := 96) ⟨15, by decide +kernel⟩ (fun q => ?_) (fun q => ?_)
    · rw [if_pos q] at h
      refine mRunF.forget [true, true, true, true, false, false] ?_
      exact Gm_hoursFrom_s5_96_r hk20 h
    · rw [if_neg q] at h
      refine mRunF.forget [true, true, false, true, true, false] ?_
      exact Gm_hoursFrom_s5_84_r hk20 h
set_option maxRecDepth 100000 in
set_option maxHeartbeats 4000000 in
theorem Gm_hoursFrom_s5_20_r {N d : Nat}   {r : Int32} {M' : mS} : ∀ {n : Nat} {x2 : Int32} {x3 : Int32} {M : mS}, Gm_hoursFrom_s5_20 N n x2 x3 M = some (r, M') → mRunF (mCd 2) (mEE (mMet mP mTx (d + 5)) (some .int) (some (.int r)) M') (20, [some (.ref 50), some (.int 5), some (.int x2), some (.int x3), none, none], [], mSS M) := by
  intro n
  induction n with
  | zero => intro x2 x3 M h; cases h
  | succ n ih =>
    replace ih := @ih
    intro x2 x3 M h
    unfold Gm_hoursFrom_s5_20 at h
    refine mRunF.sg (mSl mk_2 13 2) (g := (22, [some (.ref 50), some (.int 5), some (.int x2), some (.int x3), none, none], [.int 2, .int x3], mSS M)) (by decide +kernel) rfl ?_
    refine R_igt (t := 102) ⟨80, by decide +kernel⟩ (fun q => ?_) (fun q => ?_)
    · rw [if_pos q] at h
      refine mRunF.sg (mSl mk_2 59 1) (g := (103, [some (.ref 50), some (.int 5), some (.int x2), some (.int x3), none, none], [.int x2], mSS M)) (by decide +kernel) rfl ?_
      cases h
      exact R_iret (by decide +kernel)
    · rw [if_neg q] at h
      refine mRunF.sg (mSl mk_2 16 3) (g := (28, [some (.ref 50), some (.int 5), some (.int x2), some (.int x3), none, none], [.int x3, .int 5, .ref 50], mSS M)) (by decide +kernel) rfl ?_
      obtain ⟨r3, M2, q1, h⟩ := bW_of h
      refine R_callV (mi := 3) (na := 3) (ci := 0) (i := 50) (as := [.int 5, .int x3]) (r := []) (rv := some (.int r3)) (σ1 := mSS M2) ⟨47, by decide +kernel⟩ rfl rfl rfl rfl (Gm_tryMove_s5_r N x3 M (d + 0) q1) ?_
      show mRunF _ _ (31, [some (.ref 50), some (.int 5), some (.int x2), some (.int x3), none, none], [.int r3], mSS M2)
      refine mRunF.sg (mSl mk_2 20 4) (g := (35, [some (.ref 50), some (.int 5), some (.int x2), some (.int x3), none, none], [.int (5 + 1), .ref 50, .int r3], mSS M2)) (by decide +kernel) rfl ?_
      refine R_callS (mi := 2) (na := 2) (as := [.ref 50, .int (5 + 1)]) (r := [.int r3]) (rv := some (.int (Gm_hoursFrom_s6 M2))) (σ1 := mSS M2) ⟨43, by decide +kernel⟩ rfl rfl rfl (Gm_hoursFrom_s6_r  M2 (d + 4)) ?_
      show mRunF _ _ (38, [some (.ref 50), some (.int 5), some (.int x2), some (.int x3), none, none], [.int (Gm_hoursFrom_s6 M2), .int r3], mSS M2)
      refine mRunF.sg (mSl mk_2 25 2) (g := (41, [some (.ref 50), some (.int 5), some (.int x2), some (.int x3), some (.int (r3 + (Gm_hoursFrom_s6 M2))), none], [], mSS M2)) (by decide +kernel) rfl ?_
      obtain ⟨v4, hv, h⟩ := nxt_ex h
      rw [← hv]
      clear hv
      refine mRunF.sg (mSl mk_2 27 2) (g := (43, [some (.ref 50), some (.int 5), some (.int x2), some (.int x3), some (.int v4), none], [.int 2, .int 5], mSS M2)) (by decide +kernel) rfl ?_
      refine R_rem (by decide +kernel) (by decide) ?_
      refine R_ne (t := 61) ⟨17, by decide +kernel⟩ (fun q => absurd q (by decide)) (fun _ => ?_)
      refine mRunF.sg (mSl mk_2 38 2) (g := (64, [some (.ref 50), some (.int 5), some (.int x2), some (.int x3), some (.int v4), none], [.int x2, .int v4], mSS M2)) (by decide +kernel) rfl ?_
      refine R_ige (t := 71) ⟨7, by decide +kernel⟩ (fun q => ?_) (fun q => ?_)
      · rw [if_pos q] at h
        refine mRunF.sg (mSl mk_2 43 1) (g := (72, [some (.ref 50), some (.int 5), some (.int x2), some (.int x3), some (.int v4), none], [.int 0], mSS M2)) (by decide +kernel) rfl ?_
        exact Gm_hoursFrom_s5_72_r (fun y0 y1 y2 hh => @ih y0 y1 y2 hh) h
      · rw [if_neg q] at h
        refine mRunF.sg (mSl mk_2 41 2) (g := (72, [some (.ref 50), some (.int 5), some (.int x2), some (.int x3), some (.int v4), none], [.int 1], mSS M2)) (by decide +kernel) rfl ?_
        exact Gm_hoursFrom_s5_72_r (fun y0 y1 y2 hh => @ih y0 y1 y2 hh) h
set_option maxRecDepth 100000 in
set_option maxHeartbeats 4000000 in
theorem Gm_hoursFrom_s5_r (N : Nat)  (M : mS) {r : Int32} {M' : mS} (d : Nat) (h : Gm_hoursFrom_s5 N M = some (r, M')) : mMet mP mTx (d + 6) 2 [.ref 50, .int 5] (mSS M) (some (.int r)) (mSS M') := by
  refine mMet_i ⟨Nat.le_refl _, Nat.le_refl _, Nat.le_of_ble_eq_true rfl⟩ ?_
  unfold Gm_hoursFrom_s5 at h
  show mRunF (mCd 2) (mEE (mMet mP mTx (d + 5)) (some .int) (some (.int r)) M') (0, [some (.ref 50), some (.int 5), none, none, none, none], [], mSS M)
  refine mRunF.sg (mSl mk_2 0 3) (g := (5, [some (.ref 50), some (.int 5), none, none, none, none], [.int (M.1 50 5), .int 5], mSS M)) (by decide +kernel) rfl ?_
  refine R_ige (t := 14) ⟨9, by decide +kernel⟩ (fun q => ?_) (fun q => ?_)
  · rw [if_pos q] at h
    refine mRunF.sg (mSl mk_2 7 1) (g := (15, [some (.ref 50), some (.int 5), none, none, none, none], [.int 0], mSS M)) (by decide +kernel) rfl ?_
    cases h
    exact R_iret (by decide +kernel)
  · rw [if_neg q] at h
    refine mRunF.sg (mSl mk_2 4 2) (g := (11, [some (.ref 50), some (.int 5), none, none, none, none], [.int 6, .int 5], mSS M)) (by decide +kernel) rfl ?_
    refine R_ilt (t := 16) ⟨5, by decide +kernel⟩ (fun _ => ?_) (fun q => absurd (by decide) q)
    refine mRunF.sg (mSl mk_2 9 4) (g := (20, [some (.ref 50), some (.int 5), some (.int (-1)), some (.int 0), none, none], [], mSS M)) (by decide +kernel) rfl ?_
    exact Gm_hoursFrom_s5_20_r h
set_option maxRecDepth 100000 in
set_option maxHeartbeats 4000000 in
theorem Gm_hoursFrom_s4_96_r {N d : Nat} {k20 : Int32 → Int32 → mS → Option (Int32 × mS)} {M : mS} {x2 : Int32} {x3 : Int32} {r : Int32} {M' : mS} (hk20 : ∀ (x2 : Int32) (x3 : Int32) (M : mS), k20 x2 x3 M = some (r, M') → mRunF (mCd 2) (mEE (mMet mP mTx (d + 6)) (some .int) (some (.int r)) M') (20, [some (.ref 50), some (.int 4), some (.int x2), some (.int x3), none, none], [], mSS M)) (h : Gm_hoursFrom_s4_96 N k20 x2 x3 M = some (r, M')) : mRunF (mCd 2) (mEE (mMet mP mTx (d + 6)) (some .int) (some (.int r)) M') (96, [some (.ref 50), some (.int 4), some (.int x2), some (.int x3), none, none], [], mSS M) := by
  unfold Gm_hoursFrom_s4_96 at h
  refine mRunF.sg (mSl mk_2 57 2) (g := (20, [some (.ref 50), some (.int 4), some (.int x2), some (.int (x3 + 1)), none, none], [], mSS M)) (by decide +kernel) rfl ?_
  exact hk20 _ _ _ h
set_option maxRecDepth 100000 in
set_option maxHeartbeats 4000000 in
theorem Gm_hoursFrom_s4_84_r {N d : Nat} {k20 : Int32 → Int32 → mS → Option (Int32 × mS)} {M : mS} {x3 : Int32} {x4 : Int32} {r : Int32} {M' : mS} (hk20 : ∀ (x2 : Int32) (x3 : Int32) (M : mS), k20 x2 x3 M = some (r, M') → mRunF (mCd 2) (mEE (mMet mP mTx (d + 6)) (some .int) (some (.int r)) M') (20, [some (.ref 50), some (.int 4), some (.int x2), some (.int x3), none, none], [], mSS M)) (h : Gm_hoursFrom_s4_84 N k20 x3 x4 M = some (r, M')) : mRunF (mCd 2) (mEE (mMet mP mTx (d + 6)) (some .int) (some (.int r)) M') (84, [some (.ref 50), some (.int 4), none, some (.int x3), some (.int x4), none], [], mSS M) := by
  unfold Gm_hoursFrom_s4_84 at h
  refine mRunF.sg (mSl mk_2 50 3) (g := (88, [some (.ref 50), some (.int 4), some (.int x4), some (.int x3), some (.int x4), none], [.int 4], mSS M)) (by decide +kernel) rfl ?_
  refine R_ne (t := 96) ⟨8, by decide +kernel⟩ (fun q => absurd q (by decide)) (fun _ => ?_)
  refine mRunF.forget [true, true, true, true, false, true] ?_
  exact Gm_hoursFrom_s4_96_r hk20 h
set_option maxRecDepth 100000 in
set_option maxHeartbeats 4000000 in
theorem Gm_hoursFrom_s4_72_r {N d : Nat} {k20 : Int32 → Int32 → mS → Option (Int32 × mS)} {M : mS} {x2 : Int32} {x3 : Int32} {x4 : Int32} {z0 : Int32} {r : Int32} {M' : mS} (hk20 : ∀ (x2 : Int32) (x3 : Int32) (M : mS), k20 x2 x3 M = some (r, M') → mRunF (mCd 2) (mEE (mMet mP mTx (d + 6)) (some .int) (some (.int r)) M') (20, [some (.ref 50), some (.int 4), some (.int x2), some (.int x3), none, none], [], mSS M)) (h : Gm_hoursFrom_s4_72 N k20 x2 x3 x4 z0 M = some (r, M')) : mRunF (mCd 2) (mEE (mMet mP mTx (d + 6)) (some .int) (some (.int r)) M') (72, [some (.ref 50), some (.int 4), some (.int x2), some (.int x3), some (.int x4), none], [.int z0], mSS M) := by
  unfold Gm_hoursFrom_s4_72 at h
  refine mRunF.sg (mSl mk_2 44 3) (g := (76, [some (.ref 50), some (.int 4), some (.int x2), some (.int x3), some (.int x4), some (.int z0)], [.int (-1), .int x2], mSS M)) (by decide +kernel) rfl ?_
  refine R_ieq (t := 84) ⟨8, by decide +kernel⟩ (fun q => ?_) (fun q => ?_)
  · rw [if_pos q] at h
    refine mRunF.forget [true, true, false, true, true, false] ?_
    exact Gm_hoursFrom_s4_84_r hk20 h
  · rw [if_neg q] at h
    refine mRunF.sg (mSl mk_2 48 1) (g := (81, [some (.ref 50), some (.int 4), some (.int x2), some (.int x3), some (.int x4), some (.int z0)], [.int z0], mSS M)) (by decide +kernel) rfl ?_
    refine R_eq (t := 96) ⟨15, by decide +kernel⟩ (fun q => ?_) (fun q => ?_)
    · rw [if_pos q] at h
      refine mRunF.forget [true, true, true, true, false, false] ?_
      exact Gm_hoursFrom_s4_96_r hk20 h
    · rw [if_neg q] at h
      refine mRunF.forget [true, true, false, true, true, false] ?_
      exact Gm_hoursFrom_s4_84_r hk20 h
set_option maxRecDepth 100000 in
set_option maxHeartbeats 4000000 in
theorem Gm_hoursFrom_s4_20_r {N d : Nat}   {r : Int32} {M' : mS} : ∀ {n : Nat} {x2 : Int32} {x3 : Int32} {M : mS}, Gm_hoursFrom_s4_20 N n x2 x3 M = some (r, M') → mRunF (mCd 2) (mEE (mMet mP mTx (d + 6)) (some .int) (some (.int r)) M') (20, [some (.ref 50), some (.int 4), some (.int x2), some (.int x3), none, none], [], mSS M) := by
  intro n
  induction n with
  | zero => intro x2 x3 M h; cases h
  | succ n ih =>
    replace ih := @ih
    intro x2 x3 M h
    unfold Gm_hoursFrom_s4_20 at h
    refine mRunF.sg (mSl mk_2 13 2) (g := (22, [some (.ref 50), some (.int 4), some (.int x2), some (.int x3), none, none], [.int 2, .int x3], mSS M)) (by decide +kernel) rfl ?_
    refine R_igt (t := 102) ⟨80, by decide +kernel⟩ (fun q => ?_) (fun q => ?_)
    · rw [if_pos q] at h
      refine mRunF.sg (mSl mk_2 59 1) (g := (103, [some (.ref 50), some (.int 4), some (.int x2), some (.int x3), none, none], [.int x2], mSS M)) (by decide +kernel) rfl ?_
      cases h
      exact R_iret (by decide +kernel)
    · rw [if_neg q] at h
      refine mRunF.sg (mSl mk_2 16 3) (g := (28, [some (.ref 50), some (.int 4), some (.int x2), some (.int x3), none, none], [.int x3, .int 4, .ref 50], mSS M)) (by decide +kernel) rfl ?_
      obtain ⟨r3, M2, q1, h⟩ := bW_of h
      refine R_callV (mi := 3) (na := 3) (ci := 0) (i := 50) (as := [.int 4, .int x3]) (r := []) (rv := some (.int r3)) (σ1 := mSS M2) ⟨47, by decide +kernel⟩ rfl rfl rfl rfl (Gm_tryMove_s4_r N x3 M (d + 1) q1) ?_
      show mRunF _ _ (31, [some (.ref 50), some (.int 4), some (.int x2), some (.int x3), none, none], [.int r3], mSS M2)
      refine mRunF.sg (mSl mk_2 20 4) (g := (35, [some (.ref 50), some (.int 4), some (.int x2), some (.int x3), none, none], [.int (4 + 1), .ref 50, .int r3], mSS M2)) (by decide +kernel) rfl ?_
      obtain ⟨r6, M5, q4, h⟩ := bW_of h
      refine R_callS (mi := 2) (na := 2) (as := [.ref 50, .int (4 + 1)]) (r := [.int r3]) (rv := some (.int r6)) (σ1 := mSS M5) ⟨43, by decide +kernel⟩ rfl rfl rfl (Gm_hoursFrom_s5_r N M2 (d + 0) q4) ?_
      show mRunF _ _ (38, [some (.ref 50), some (.int 4), some (.int x2), some (.int x3), none, none], [.int r6, .int r3], mSS M5)
      refine mRunF.sg (mSl mk_2 25 2) (g := (41, [some (.ref 50), some (.int 4), some (.int x2), some (.int x3), some (.int (r3 + r6)), none], [], mSS M5)) (by decide +kernel) rfl ?_
      obtain ⟨v7, hv, h⟩ := nxt_ex h
      rw [← hv]
      clear hv
      refine mRunF.sg (mSl mk_2 27 2) (g := (43, [some (.ref 50), some (.int 4), some (.int x2), some (.int x3), some (.int v7), none], [.int 2, .int 4], mSS M5)) (by decide +kernel) rfl ?_
      refine R_rem (by decide +kernel) (by decide) ?_
      refine R_ne (t := 61) ⟨17, by decide +kernel⟩ (fun _ => ?_) (fun q => absurd (by decide) q)
      refine mRunF.sg (mSl mk_2 31 2) (g := (50, [some (.ref 50), some (.int 4), some (.int x2), some (.int x3), some (.int v7), none], [.int x2, .int v7], mSS M5)) (by decide +kernel) rfl ?_
      refine R_ile (t := 57) ⟨7, by decide +kernel⟩ (fun q => ?_) (fun q => ?_)
      · rw [if_pos q] at h
        refine mRunF.sg (mSl mk_2 36 2) (g := (72, [some (.ref 50), some (.int 4), some (.int x2), some (.int x3), some (.int v7), none], [.int 0], mSS M5)) (by decide +kernel) rfl ?_
        exact Gm_hoursFrom_s4_72_r (fun y0 y1 y2 hh => @ih y0 y1 y2 hh) h
      · rw [if_neg q] at h
        refine mRunF.sg (mSl mk_2 34 2) (g := (72, [some (.ref 50), some (.int 4), some (.int x2), some (.int x3), some (.int v7), none], [.int 1], mSS M5)) (by decide +kernel) rfl ?_
        exact Gm_hoursFrom_s4_72_r (fun y0 y1 y2 hh => @ih y0 y1 y2 hh) h
set_option maxRecDepth 100000 in
set_option maxHeartbeats 4000000 in
theorem Gm_hoursFrom_s4_r (N : Nat)  (M : mS) {r : Int32} {M' : mS} (d : Nat) (h : Gm_hoursFrom_s4 N M = some (r, M')) : mMet mP mTx (d + 7) 2 [.ref 50, .int 4] (mSS M) (some (.int r)) (mSS M') := by
  refine mMet_i ⟨Nat.le_refl _, Nat.le_refl _, Nat.le_of_ble_eq_true rfl⟩ ?_
  unfold Gm_hoursFrom_s4 at h
  show mRunF (mCd 2) (mEE (mMet mP mTx (d + 6)) (some .int) (some (.int r)) M') (0, [some (.ref 50), some (.int 4), none, none, none, none], [], mSS M)
  refine mRunF.sg (mSl mk_2 0 3) (g := (5, [some (.ref 50), some (.int 4), none, none, none, none], [.int (M.1 50 5), .int 4], mSS M)) (by decide +kernel) rfl ?_
  refine R_ige (t := 14) ⟨9, by decide +kernel⟩ (fun q => ?_) (fun q => ?_)
  · rw [if_pos q] at h
    refine mRunF.sg (mSl mk_2 7 1) (g := (15, [some (.ref 50), some (.int 4), none, none, none, none], [.int 0], mSS M)) (by decide +kernel) rfl ?_
    cases h
    exact R_iret (by decide +kernel)
  · rw [if_neg q] at h
    refine mRunF.sg (mSl mk_2 4 2) (g := (11, [some (.ref 50), some (.int 4), none, none, none, none], [.int 6, .int 4], mSS M)) (by decide +kernel) rfl ?_
    refine R_ilt (t := 16) ⟨5, by decide +kernel⟩ (fun _ => ?_) (fun q => absurd (by decide) q)
    refine mRunF.sg (mSl mk_2 9 4) (g := (20, [some (.ref 50), some (.int 4), some (.int (-1)), some (.int 0), none, none], [], mSS M)) (by decide +kernel) rfl ?_
    exact Gm_hoursFrom_s4_20_r h
set_option maxRecDepth 100000 in
set_option maxHeartbeats 4000000 in
theorem Gm_hoursFrom_s3_96_r {N d : Nat} {k20 : Int32 → Int32 → mS → Option (Int32 × mS)} {M : mS} {x2 : Int32} {x3 : Int32} {r : Int32} {M' : mS} (hk20 : ∀ (x2 : Int32) (x3 : Int32) (M : mS), k20 x2 x3 M = some (r, M') → mRunF (mCd 2) (mEE (mMet mP mTx (d + 7)) (some .int) (some (.int r)) M') (20, [some (.ref 50), some (.int 3), some (.int x2), some (.int x3), none, none], [], mSS M)) (h : Gm_hoursFrom_s3_96 N k20 x2 x3 M = some (r, M')) : mRunF (mCd 2) (mEE (mMet mP mTx (d + 7)) (some .int) (some (.int r)) M') (96, [some (.ref 50), some (.int 3), some (.int x2), some (.int x3), none, none], [], mSS M) := by
  unfold Gm_hoursFrom_s3_96 at h
  refine mRunF.sg (mSl mk_2 57 2) (g := (20, [some (.ref 50), some (.int 3), some (.int x2), some (.int (x3 + 1)), none, none], [], mSS M)) (by decide +kernel) rfl ?_
  exact hk20 _ _ _ h
set_option maxRecDepth 100000 in
set_option maxHeartbeats 4000000 in
theorem Gm_hoursFrom_s3_84_r {N d : Nat} {k20 : Int32 → Int32 → mS → Option (Int32 × mS)} {M : mS} {x3 : Int32} {x4 : Int32} {r : Int32} {M' : mS} (hk20 : ∀ (x2 : Int32) (x3 : Int32) (M : mS), k20 x2 x3 M = some (r, M') → mRunF (mCd 2) (mEE (mMet mP mTx (d + 7)) (some .int) (some (.int r)) M') (20, [some (.ref 50), some (.int 3), some (.int x2), some (.int x3), none, none], [], mSS M)) (h : Gm_hoursFrom_s3_84 N k20 x3 x4 M = some (r, M')) : mRunF (mCd 2) (mEE (mMet mP mTx (d + 7)) (some .int) (some (.int r)) M') (84, [some (.ref 50), some (.int 3), none, some (.int x3), some (.int x4), none], [], mSS M) := by
  unfold Gm_hoursFrom_s3_84 at h
  refine mRunF.sg (mSl mk_2 50 3) (g := (88, [some (.ref 50), some (.int 3), some (.int x4), some (.int x3), some (.int x4), none], [.int 3], mSS M)) (by decide +kernel) rfl ?_
  refine R_ne (t := 96) ⟨8, by decide +kernel⟩ (fun q => absurd q (by decide)) (fun _ => ?_)
  refine mRunF.forget [true, true, true, true, false, true] ?_
  exact Gm_hoursFrom_s3_96_r hk20 h
set_option maxRecDepth 100000 in
set_option maxHeartbeats 4000000 in
theorem Gm_hoursFrom_s3_72_r {N d : Nat} {k20 : Int32 → Int32 → mS → Option (Int32 × mS)} {M : mS} {x2 : Int32} {x3 : Int32} {x4 : Int32} {z0 : Int32} {r : Int32} {M' : mS} (hk20 : ∀ (x2 : Int32) (x3 : Int32) (M : mS), k20 x2 x3 M = some (r, M') → mRunF (mCd 2) (mEE (mMet mP mTx (d + 7)) (some .int) (some (.int r)) M') (20, [some (.ref 50), some (.int 3), some (.int x2), some (.int x3), none, none], [], mSS M)) (h : Gm_hoursFrom_s3_72 N k20 x2 x3 x4 z0 M = some (r, M')) : mRunF (mCd 2) (mEE (mMet mP mTx (d + 7)) (some .int) (some (.int r)) M') (72, [some (.ref 50), some (.int 3), some (.int x2), some (.int x3), some (.int x4), none], [.int z0], mSS M) := by
  unfold Gm_hoursFrom_s3_72 at h
  refine mRunF.sg (mSl mk_2 44 3) (g := (76, [some (.ref 50), some (.int 3), some (.int x2), some (.int x3), some (.int x4), some (.int z0)], [.int (-1), .int x2], mSS M)) (by decide +kernel) rfl ?_
  refine R_ieq (t := 84) ⟨8, by decide +kernel⟩ (fun q => ?_) (fun q => ?_)
  · rw [if_pos q] at h
    refine mRunF.forget [true, true, false, true, true, false] ?_
    exact Gm_hoursFrom_s3_84_r hk20 h
  · rw [if_neg q] at h
    refine mRunF.sg (mSl mk_2 48 1) (g := (81, [some (.ref 50), some (.int 3), some (.int x2), some (.int x3), some (.int x4), some (.int z0)], [.int z0], mSS M)) (by decide +kernel) rfl ?_
    refine R_eq (t := 96) ⟨15, by decide +kernel⟩ (fun q => ?_) (fun q => ?_)
    · rw [if_pos q] at h
      refine mRunF.forget [true, true, true, true, false, false] ?_
      exact Gm_hoursFrom_s3_96_r hk20 h
    · rw [if_neg q] at h
      refine mRunF.forget [true, true, false, true, true, false] ?_
      exact Gm_hoursFrom_s3_84_r hk20 h
set_option maxRecDepth 100000 in
set_option maxHeartbeats 4000000 in
theorem Gm_hoursFrom_s3_20_r {N d : Nat}   {r : Int32} {M' : mS} : ∀ {n : Nat} {x2 : Int32} {x3 : Int32} {M : mS}, Gm_hoursFrom_s3_20 N n x2 x3 M = some (r, M') → mRunF (mCd 2) (mEE (mMet mP mTx (d + 7)) (some .int) (some (.int r)) M') (20, [some (.ref 50), some (.int 3), some (.int x2), some (.int x3), none, none], [], mSS M) := by
  intro n
  induction n with
  | zero => intro x2 x3 M h; cases h
  | succ n ih =>
    replace ih := @ih
    intro x2 x3 M h
    unfold Gm_hoursFrom_s3_20 at h
    refine mRunF.sg (mSl mk_2 13 2) (g := (22, [some (.ref 50), some (.int 3), some (.int x2), some (.int x3), none, none], [.int 2, .int x3], mSS M)) (by decide +kernel) rfl ?_
    refine R_igt (t := 102) ⟨80, by decide +kernel⟩ (fun q => ?_) (fun q => ?_)
    · rw [if_pos q] at h
      refine mRunF.sg (mSl mk_2 59 1) (g := (103, [some (.ref 50), some (.int 3), some (.int x2), some (.int x3), none, none], [.int x2], mSS M)) (by decide +kernel) rfl ?_
      cases h
      exact R_iret (by decide +kernel)
    · rw [if_neg q] at h
      refine mRunF.sg (mSl mk_2 16 3) (g := (28, [some (.ref 50), some (.int 3), some (.int x2), some (.int x3), none, none], [.int x3, .int 3, .ref 50], mSS M)) (by decide +kernel) rfl ?_
      obtain ⟨r3, M2, q1, h⟩ := bW_of h
      refine R_callV (mi := 3) (na := 3) (ci := 0) (i := 50) (as := [.int 3, .int x3]) (r := []) (rv := some (.int r3)) (σ1 := mSS M2) ⟨47, by decide +kernel⟩ rfl rfl rfl rfl (Gm_tryMove_s3_r N x3 M (d + 2) q1) ?_
      show mRunF _ _ (31, [some (.ref 50), some (.int 3), some (.int x2), some (.int x3), none, none], [.int r3], mSS M2)
      refine mRunF.sg (mSl mk_2 20 4) (g := (35, [some (.ref 50), some (.int 3), some (.int x2), some (.int x3), none, none], [.int (3 + 1), .ref 50, .int r3], mSS M2)) (by decide +kernel) rfl ?_
      obtain ⟨r6, M5, q4, h⟩ := bW_of h
      refine R_callS (mi := 2) (na := 2) (as := [.ref 50, .int (3 + 1)]) (r := [.int r3]) (rv := some (.int r6)) (σ1 := mSS M5) ⟨43, by decide +kernel⟩ rfl rfl rfl (Gm_hoursFrom_s4_r N M2 (d + 0) q4) ?_
      show mRunF _ _ (38, [some (.ref 50), some (.int 3), some (.int x2), some (.int x3), none, none], [.int r6, .int r3], mSS M5)
      refine mRunF.sg (mSl mk_2 25 2) (g := (41, [some (.ref 50), some (.int 3), some (.int x2), some (.int x3), some (.int (r3 + r6)), none], [], mSS M5)) (by decide +kernel) rfl ?_
      obtain ⟨v7, hv, h⟩ := nxt_ex h
      rw [← hv]
      clear hv
      refine mRunF.sg (mSl mk_2 27 2) (g := (43, [some (.ref 50), some (.int 3), some (.int x2), some (.int x3), some (.int v7), none], [.int 2, .int 3], mSS M5)) (by decide +kernel) rfl ?_
      refine R_rem (by decide +kernel) (by decide) ?_
      refine R_ne (t := 61) ⟨17, by decide +kernel⟩ (fun q => absurd q (by decide)) (fun _ => ?_)
      refine mRunF.sg (mSl mk_2 38 2) (g := (64, [some (.ref 50), some (.int 3), some (.int x2), some (.int x3), some (.int v7), none], [.int x2, .int v7], mSS M5)) (by decide +kernel) rfl ?_
      refine R_ige (t := 71) ⟨7, by decide +kernel⟩ (fun q => ?_) (fun q => ?_)
      · rw [if_pos q] at h
        refine mRunF.sg (mSl mk_2 43 1) (g := (72, [some (.ref 50), some (.int 3), some (.int x2), some (.int x3), some (.int v7), none], [.int 0], mSS M5)) (by decide +kernel) rfl ?_
        exact Gm_hoursFrom_s3_72_r (fun y0 y1 y2 hh => @ih y0 y1 y2 hh) h
      · rw [if_neg q] at h
        refine mRunF.sg (mSl mk_2 41 2) (g := (72, [some (.ref 50), some (.int 3), some (.int x2), some (.int x3), some (.int v7), none], [.int 1], mSS M5)) (by decide +kernel) rfl ?_
        exact Gm_hoursFrom_s3_72_r (fun y0 y1 y2 hh => @ih y0 y1 y2 hh) h
set_option maxRecDepth 100000 in
set_option maxHeartbeats 4000000 in
theorem Gm_hoursFrom_s3_r (N : Nat)  (M : mS) {r : Int32} {M' : mS} (d : Nat) (h : Gm_hoursFrom_s3 N M = some (r, M')) : mMet mP mTx (d + 8) 2 [.ref 50, .int 3] (mSS M) (some (.int r)) (mSS M') := by
  refine mMet_i ⟨Nat.le_refl _, Nat.le_refl _, Nat.le_of_ble_eq_true rfl⟩ ?_
  unfold Gm_hoursFrom_s3 at h
  show mRunF (mCd 2) (mEE (mMet mP mTx (d + 7)) (some .int) (some (.int r)) M') (0, [some (.ref 50), some (.int 3), none, none, none, none], [], mSS M)
  refine mRunF.sg (mSl mk_2 0 3) (g := (5, [some (.ref 50), some (.int 3), none, none, none, none], [.int (M.1 50 5), .int 3], mSS M)) (by decide +kernel) rfl ?_
  refine R_ige (t := 14) ⟨9, by decide +kernel⟩ (fun q => ?_) (fun q => ?_)
  · rw [if_pos q] at h
    refine mRunF.sg (mSl mk_2 7 1) (g := (15, [some (.ref 50), some (.int 3), none, none, none, none], [.int 0], mSS M)) (by decide +kernel) rfl ?_
    cases h
    exact R_iret (by decide +kernel)
  · rw [if_neg q] at h
    refine mRunF.sg (mSl mk_2 4 2) (g := (11, [some (.ref 50), some (.int 3), none, none, none, none], [.int 6, .int 3], mSS M)) (by decide +kernel) rfl ?_
    refine R_ilt (t := 16) ⟨5, by decide +kernel⟩ (fun _ => ?_) (fun q => absurd (by decide) q)
    refine mRunF.sg (mSl mk_2 9 4) (g := (20, [some (.ref 50), some (.int 3), some (.int (-1)), some (.int 0), none, none], [], mSS M)) (by decide +kernel) rfl ?_
    exact Gm_hoursFrom_s3_20_r h
