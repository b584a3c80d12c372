/-! METHODS as functions, 4: printed by program -/
set_option maxRecDepth 100000 in
set_option maxHeartbeats 4000000 in
theorem Mt_firstTwoSeen_17_r {N d : Nat} {k2 : Int32 → Option Int32} {M : mS}  {r : Int32} (hk2 : ∀ (x1 : Int32), k2 x1 = some r → mRunF (mCd 25) (mEE (mMet mP mTx (d + 2)) (some .int) (some (.int r)) M) (2, [some (.ref 44), some (.int x1), none], [], mSS M)) : ∀ {n : Nat} {x1 : Int32} {x2 : Int32}, Mt_firstTwoSeen_17 N k2 M n x1 x2 = some r → mRunF (mCd 25) (mEE (mMet mP mTx (d + 2)) (some .int) (some (.int r)) M) (17, [some (.ref 44), some (.int x1), some (.int x2)], [], mSS M) := by
  intro n
  induction n with
  | zero => intro x1 x2 h; cases h
  | succ n ih =>
    replace ih := @ih
    intro x1 x2 h
    unfold Mt_firstTwoSeen_17 at h
    refine mRunF.sg (mSl mk_25 11 4) (g := (25, [some (.ref 44), some (.int x1), some (.int x2)], [.int (M.1 3 8), .int x2], mSS M)) (by decide +kernel) rfl ?_
    refine R_ige (t := 53) ⟨28, by decide +kernel⟩ (fun q => ?_) (fun q => ?_)
    · rw [if_pos q] at h
      refine mRunF.sg (mSl mk_25 30 2) (g := (2, [some (.ref 44), some (.int (x1 + 1)), some (.int x2)], [], mSS M)) (by decide +kernel) rfl ?_
      refine mRunF.forget [true, true, false] ?_
      exact hk2 _ h
    · rw [if_neg q] at h
      refine mRunF.sg (mSl mk_25 16 4) (g := (34, [some (.ref 44), some (.int x1), some (.int x2)], [.int x2, .int x1, .ref 39], mSS M)) (by decide +kernel) rfl ?_
      obtain ⟨r2, q1, h⟩ := bR_of h
      refine R_callV (mi := 95) (na := 3) (ci := 10) (i := 39) (as := [.int x1, .int x2]) (r := []) (rv := some (.int r2)) (σ1 := mSS M) ⟨77, by decide +kernel⟩ rfl rfl rfl rfl (Wk_shared_r N x1 x2 M (d + 0) q1) ?_
      show mRunF _ _ (37, [some (.ref 44), some (.int x1), some (.int x2)], [.int r2], mSS M)
      refine R_eq (t := 47) ⟨10, by decide +kernel⟩ (fun q => ?_) (fun q => ?_)
      · rw [if_pos q] at h
        refine mRunF.sg (mSl mk_25 28 2) (g := (17, [some (.ref 44), some (.int x1), some (.int (x2 + 1))], [], mSS M)) (by decide +kernel) rfl ?_
        exact @ih _ _ h
      · rw [if_neg q] at h
        refine mRunF.sg (mSl mk_25 22 5) (g := (46, [some (.ref 44), some (.int x1), some (.int x2)], [.int ((10 * x1) + x2)], mSS M)) (by decide +kernel) rfl ?_
        cases h
        exact R_iret (by decide +kernel)
set_option maxRecDepth 100000 in
set_option maxHeartbeats 4000000 in
theorem Mt_firstTwoSeen_2_r {N d : Nat}  {M : mS}  {r : Int32} : ∀ {n : Nat} {x1 : Int32}, Mt_firstTwoSeen_2 N M n x1 = some r → mRunF (mCd 25) (mEE (mMet mP mTx (d + 2)) (some .int) (some (.int r)) M) (2, [some (.ref 44), some (.int x1), none], [], mSS M) := by
  intro n
  induction n with
  | zero => intro x1 h; cases h
  | succ n ih =>
    replace ih := @ih
    intro x1 h
    unfold Mt_firstTwoSeen_2 at h
    refine mRunF.sg (mSl mk_25 2 4) (g := (10, [some (.ref 44), some (.int x1), none], [.int (M.1 3 8), .int x1], mSS M)) (by decide +kernel) rfl ?_
    refine R_ige (t := 59) ⟨49, by decide +kernel⟩ (fun q => ?_) (fun q => ?_)
    · rw [if_pos q] at h
      refine mRunF.sg (mSl mk_25 32 1) (g := (61, [some (.ref 44), some (.int x1), none], [.int (-2)], mSS M)) (by decide +kernel) rfl ?_
      cases h
      exact R_iret (by decide +kernel)
    · rw [if_neg q] at h
      refine mRunF.sg (mSl mk_25 7 4) (g := (17, [some (.ref 44), some (.int x1), some (.int (x1 + 1))], [], mSS M)) (by decide +kernel) rfl ?_
      obtain ⟨v3, hv, h⟩ := nxt_ex h
      rw [← hv]
      clear hv
      exact Mt_firstTwoSeen_17_r (fun y0 hh => @ih y0 hh) h
set_option maxRecDepth 100000 in
set_option maxHeartbeats 4000000 in
theorem Mt_firstTwoSeen_r (N : Nat)  (M : mS) {r : Int32} (d : Nat) (h : Mt_firstTwoSeen N M = some r) : mMet mP mTx (d + 3) 25 [.ref 44] (mSS M) (some (.int r)) (mSS M) := by
  refine mMet_i ⟨Nat.le_refl _, Nat.le_refl _, Nat.le_of_ble_eq_true rfl⟩ ?_
  unfold Mt_firstTwoSeen at h
  show mRunF (mCd 25) (mEE (mMet mP mTx (d + 2)) (some .int) (some (.int r)) M) (0, [some (.ref 44), none, none], [], mSS M)
  refine mRunF.sg (mSl mk_25 0 2) (g := (2, [some (.ref 44), some (.int 0), none], [], mSS M)) (by decide +kernel) rfl ?_
  exact Mt_firstTwoSeen_2_r h
set_option maxRecDepth 100000 in
set_option maxHeartbeats 4000000 in
theorem Mt_firstNightOfTwo_2_r {N d : Nat}   {r : Int32} {M' : mS} : ∀ {n : Nat} {x1 : Int32} {M : mS}, Mt_firstNightOfTwo_2 N n x1 M = some (r, M') → mRunF (mCd 24) (mEE (mMet mP mTx (d + 4)) (some .int) (some (.int r)) M') (2, [some (.ref 44), some (.int x1)], [], mSS M) := by
  intro n
  induction n with
  | zero => intro x1 M h; cases h
  | succ n ih =>
    replace ih := @ih
    intro x1 M h
    unfold Mt_firstNightOfTwo_2 at h
    refine mRunF.sg (mSl mk_24 2 2) (g := (6, [some (.ref 44), some (.int x1)], [.int 400, .int x1], mSS M)) (by decide +kernel) rfl ?_
    refine R_igt (t := 50) ⟨44, by decide +kernel⟩ (fun q => ?_) (fun q => ?_)
    · rw [if_pos q] at h
      refine mRunF.sg (mSl mk_24 24 1) (g := (52, [some (.ref 44), some (.int x1)], [.int (-2)], mSS M)) (by decide +kernel) rfl ?_
      cases h
      exact R_iret (by decide +kernel)
    · rw [if_neg q] at h
      refine mRunF.sg (mSl mk_24 5 3) (g := (14, [some (.ref 44), some (.int x1)], [.int (-1), .ref 39], mSS M)) (by decide +kernel) rfl ?_
      obtain ⟨M2, q1, h⟩ := bV_of h
      refine R_callV (mi := 90) (na := 2) (ci := 10) (i := 39) (as := [.int (-1)]) (r := []) (rv := none) (σ1 := mSS M2) ⟨19, by decide +kernel⟩ rfl rfl rfl rfl (Wk_see_r N (-1) M (d + 0) q1) ?_
      show mRunF _ _ (17, [some (.ref 44), some (.int x1)], [], mSS M2)
      refine mRunF.sg (mSl mk_24 9 3) (g := (24, [some (.ref 44), some (.int x1)], [.int (M2.1 39 3)], mSS M2)) (by decide +kernel) rfl ?_
      refine R_eq (t := 37) ⟨13, by decide +kernel⟩ (fun q => ?_) (fun q => ?_)
      · rw [if_pos q] at h
        refine mRunF.sg (mSl mk_24 19 2) (g := (41, [some (.ref 44), some (.int x1)], [.ref 39], mSS M2)) (by decide +kernel) rfl ?_
        obtain ⟨M4, q3, h⟩ := bV_of h
        refine R_callV (mi := 92) (na := 1) (ci := 10) (i := 39) (as := []) (r := []) (rv := none) (σ1 := mSS M4) ⟨33, by decide +kernel⟩ rfl rfl rfl rfl (Wk_pass_r N M2 (d + 2) q3) ?_
        show mRunF _ _ (44, [some (.ref 44), some (.int x1)], [], mSS M4)
        refine mRunF.sg (mSl mk_24 22 2) (g := (2, [some (.ref 44), some (.int (x1 + 1))], [], mSS M4)) (by decide +kernel) rfl ?_
        exact @ih _ _ h
      · rw [if_neg q] at h
        refine mRunF.sg (mSl mk_24 13 2) (g := (29, [some (.ref 44), some (.int x1)], [.ref 44, .ref 44], mSS M2)) (by decide +kernel) rfl ?_
        obtain ⟨r6, q5, h⟩ := bR_of h
        refine R_callV (mi := 25) (na := 1) (ci := 3) (i := 44) (as := []) (r := [.ref 44]) (rv := some (.int r6)) (σ1 := mSS M2) ⟨70, by decide +kernel⟩ rfl rfl rfl rfl (Mt_firstTwoSeen_r N M2 (d + 1) q5) ?_
        show mRunF _ _ (32, [some (.ref 44), some (.int x1)], [.int r6, .ref 44], mSS M2)
        refine mRunF.sg (mSl mk_24 16 1) (g := (35, [some (.ref 44), some (.int x1)], [], mSS (mWI M2 44 1 r6))) (by decide +kernel) rfl ?_
        obtain ⟨M7, hv, h⟩ := nxt_ex h
        rw [← hv]
        clear hv
        refine mRunF.sg (mSl mk_24 17 1) (g := (36, [some (.ref 44), some (.int x1)], [.int x1], mSS M7)) (by decide +kernel) rfl ?_
        cases h
        exact R_iret (by decide +kernel)
set_option maxRecDepth 100000 in
set_option maxHeartbeats 4000000 in
theorem Mt_firstNightOfTwo_r (N : Nat)  (M : mS) {r : Int32} {M' : mS} (d : Nat) (h : Mt_firstNightOfTwo N M = some (r, M')) : mMet mP mTx (d + 5) 24 [.ref 44] (mSS M) (some (.int r)) (mSS M') := by
  refine mMet_i ⟨Nat.le_refl _, Nat.le_refl _, Nat.le_of_ble_eq_true rfl⟩ ?_
  unfold Mt_firstNightOfTwo at h
  show mRunF (mCd 24) (mEE (mMet mP mTx (d + 4)) (some .int) (some (.int r)) M') (0, [some (.ref 44), none], [], mSS M)
  refine mRunF.sg (mSl mk_24 0 2) (g := (2, [some (.ref 44), some (.int 0)], [], mSS M)) (by decide +kernel) rfl ?_
  exact Mt_firstNightOfTwo_2_r h
set_option maxRecDepth 100000 in
set_option maxHeartbeats 4000000 in
theorem Md_sooner_11_r {N d : Nat}  {M : mS} {x1 : Int32} {r : Int32} {M' : mS} (h : Md_sooner_11 N x1 M = some (r, M')) : mRunF (mCd 129) (mEE (mMet mP mTx (d + 5)) (some .int) (some (.int r)) M') (11, [some (.ref 0), some (.int x1), none], [], mSS M) := by
  unfold Md_sooner_11 at h
  refine mRunF.sg (mSl mk_129 7 4) (g := (19, [some (.ref 0), some (.int x1), none], [.ref 34, .ref 39], mSS M)) (by decide +kernel) rfl ?_
  obtain ⟨M2, q1, h⟩ := bV_of h
  refine R_callV (mi := 89) (na := 2) (ci := 10) (i := 39) (as := [.ref 34]) (r := []) (rv := none) (σ1 := mSS M2) ⟨128, by decide +kernel⟩ rfl rfl rfl rfl (Wk_begin_r N M (d + 4) q1) ?_
  show mRunF _ _ (22, [some (.ref 0), some (.int x1), none], [], mSS M2)
  refine mRunF.sg (mSl mk_129 12 2) (g := (26, [some (.ref 0), some (.int x1), none], [.ref 44], mSS M2)) (by decide +kernel) rfl ?_
  obtain ⟨r5, M4, q3, h⟩ := bW_of h
  refine R_callV (mi := 24) (na := 1) (ci := 3) (i := 44) (as := []) (r := []) (rv := some (.int r5)) (σ1 := mSS M4) ⟨243, by decide +kernel⟩ rfl rfl rfl rfl (Mt_firstNightOfTwo_r N M2 (d + 0) q3) ?_
  show mRunF _ _ (29, [some (.ref 0), some (.int x1), none], [.int r5], mSS M4)
  refine mRunF.sg (mSl mk_129 15 3) (g := (33, [some (.ref 0), some (.int x1), some (.int r5)], [.int (-2), .int r5], mSS M4)) (by decide +kernel) rfl ?_
  refine R_ieq (t := 41) ⟨8, by decide +kernel⟩ (fun q => ?_) (fun q => ?_)
  · rw [if_pos q] at h
    refine mRunF.sg (mSl mk_129 22 2) (g := (52, [some (.ref 0), some (.int x1), some (.int r5)], [.int r5], mSS M4)) (by decide +kernel) rfl ?_
    cases h
    exact R_iret (by decide +kernel)
  · rw [if_neg q] at h
    refine mRunF.sg (mSl mk_129 19 2) (g := (38, [some (.ref 0), some (.int x1), some (.int r5)], [.int 1, .int x1], mSS M4)) (by decide +kernel) rfl ?_
    refine R_ine (t := 45) ⟨7, by decide +kernel⟩ (fun q => ?_) (fun q => ?_)
    · rw [if_pos q] at h
      refine mRunF.sg (mSl mk_129 22 2) (g := (52, [some (.ref 0), some (.int x1), some (.int r5)], [.int r5], mSS M4)) (by decide +kernel) rfl ?_
      cases h
      exact R_iret (by decide +kernel)
    · rw [if_neg q] at h
      refine mRunF.sg (mSl mk_129 24 3) (g := (52, [some (.ref 0), some (.int x1), some (.int r5)], [.int (M4.1 44 1)], mSS M4)) (by decide +kernel) rfl ?_
      cases h
      exact R_iret (by decide +kernel)
set_option maxRecDepth 100000 in
set_option maxHeartbeats 4000000 in
theorem Md_sooner_r (N : Nat) (a0 : Int32) (M : mS) {r : Int32} {M' : mS} (d : Nat) (h : Md_sooner N a0 M = some (r, M')) : mMet mP mTx (d + 6) 129 [.ref 0, .int a0] (mSS M) (some (.int r)) (mSS M') := by
  refine mMet_i ⟨Nat.le_refl _, Nat.le_refl _, Nat.le_of_ble_eq_true rfl⟩ ?_
  unfold Md_sooner at h
  show mRunF (mCd 129) (mEE (mMet mP mTx (d + 5)) (some .int) (some (.int r)) M') (0, [some (.ref 0), some (.int a0), none], [], mSS M)
  refine mRunF.sg (mSl mk_129 0 1) (g := (1, [some (.ref 0), some (.int a0), none], [.int a0], mSS M)) (by decide +kernel) rfl ?_
  refine R_eq (t := 11) ⟨10, by decide +kernel⟩ (fun q => ?_) (fun q => ?_)
  · rw [if_pos q] at h
    exact Md_sooner_11_r h
  · rw [if_neg q] at h
    refine mRunF.sg (mSl mk_129 2 2) (g := (6, [some (.ref 0), some (.int a0), none], [.int 1, .int a0], mSS M)) (by decide +kernel) rfl ?_
    refine R_ieq (t := 11) ⟨5, by decide +kernel⟩ (fun q => ?_) (fun q => ?_)
    · rw [if_pos q] at h
      exact Md_sooner_11_r h
    · rw [if_neg q] at h
      refine mRunF.sg (mSl mk_129 5 1) (g := (10, [some (.ref 0), some (.int a0), none], [.int (-1)], mSS M)) (by decide +kernel) rfl ?_
      cases h
      exact R_iret (by decide +kernel)
set_option maxRecDepth 100000 in
set_option maxHeartbeats 4000000 in
theorem Mt_neverMet_76_r {N d : Nat} {k20 : Int32 → Int32 → Int32 → mS → Option (Int32 × mS)} {k42 : Int32 → Int32 → Int32 → Int32 → mS → Option (Int32 × mS)} {M : mS} {x1 : Int32} {x2 : Int32} {x3 : Int32} {x4 : Int32} {r : Int32} {M' : mS} (hk20 : ∀ (x1 : Int32) (x2 : Int32) (x3 : Int32) (M : mS), k20 x1 x2 x3 M = some (r, M') → mRunF (mCd 26) (mEE (mMet mP mTx (d + 4)) (some .int) (some (.int r)) M') (20, [some (.ref 44), some (.int x1), some (.int x2), some (.int x3), none], [], mSS M)) (hk42 : ∀ (x1 : Int32) (x2 : Int32) (x3 : Int32) (x4 : Int32) (M : mS), k42 x1 x2 x3 x4 M = some (r, M') → mRunF (mCd 26) (mEE (mMet mP mTx (d + 4)) (some .int) (some (.int r)) M') (42, [some (.ref 44), some (.int x1), some (.int x2), some (.int x3), some (.int x4)], [], mSS M)) (h : Mt_neverMet_76 N k20 k42 x1 x2 x3 x4 M = some (r, M')) : mRunF (mCd 26) (mEE (mMet mP mTx (d + 4)) (some .int) (some (.int r)) M') (76, [some (.ref 44), some (.int x1), some (.int x2), some (.int x3), some (.int x4)], [], mSS M) := by
  unfold Mt_neverMet_76 at h
  refine mRunF.sg (mSl mk_26 46 2) (g := (42, [some (.ref 44), some (.int x1), some (.int x2), some (.int x3), some (.int (x4 + 1))], [], mSS M)) (by decide +kernel) rfl ?_
  exact hk42 _ _ _ _ _ h
set_option maxRecDepth 100000 in
set_option maxHeartbeats 4000000 in
theorem Mt_neverMet_42_r {N d : Nat} {k20 : Int32 → Int32 → Int32 → mS → Option (Int32 × mS)}  {r : Int32} {M' : mS} (hk20 : ∀ (x1 : Int32) (x2 : Int32) (x3 : Int32) (M : mS), k20 x1 x2 x3 M = some (r, M') → mRunF (mCd 26) (mEE (mMet mP mTx (d + 4)) (some .int) (some (.int r)) M') (20, [some (.ref 44), some (.int x1), some (.int x2), some (.int x3), none], [], mSS M)) : ∀ {n : Nat} {x1 : Int32} {x2 : Int32} {x3 : Int32} {x4 : Int32} {M : mS}, Mt_neverMet_42 N k20 n x1 x2 x3 x4 M = some (r, M') → mRunF (mCd 26) (mEE (mMet mP mTx (d + 4)) (some .int) (some (.int r)) M') (42, [some (.ref 44), some (.int x1), some (.int x2), some (.int x3), some (.int x4)], [], mSS M) := by
  intro n
  induction n with
  | zero => intro x1 x2 x3 x4 M h; cases h
  | succ n ih =>
    replace ih := @ih
    intro x1 x2 x3 x4 M h
    unfold Mt_neverMet_42 at h
    refine mRunF.sg (mSl mk_26 27 4) (g := (51, [some (.ref 44), some (.int x1), some (.int x2), some (.int x3), some (.int x4)], [.int (M.1 3 8), .int x4], mSS M)) (by decide +kernel) rfl ?_
    refine R_ige (t := 82) ⟨31, by decide +kernel⟩ (fun q => ?_) (fun q => ?_)
    · rw [if_pos q] at h
      refine mRunF.sg (mSl mk_26 48 2) (g := (86, [some (.ref 44), some (.int x1), some (.int x2), some (.int x3), some (.int x4)], [.ref 39], mSS M)) (by decide +kernel) rfl ?_
      obtain ⟨M2, q1, h⟩ := bV_of h
      refine R_callV (mi := 92) (na := 1) (ci := 10) (i := 39) (as := []) (r := []) (rv := none) (σ1 := mSS M2) ⟨33, by decide +kernel⟩ rfl rfl rfl rfl (Wk_pass_r N M (d + 2) q1) ?_
      show mRunF _ _ (89, [some (.ref 44), some (.int x1), some (.int x2), some (.int x3), some (.int x4)], [], mSS M2)
      refine mRunF.sg (mSl mk_26 51 2) (g := (20, [some (.ref 44), some (.int x1), some (.int x2), some (.int (x3 + 1)), some (.int x4)], [], mSS M2)) (by decide +kernel) rfl ?_
      refine mRunF.forget [true, true, true, true, false] ?_
      exact hk20 _ _ _ _ h
    · rw [if_neg q] at h
      refine mRunF.sg (mSl mk_26 32 4) (g := (61, [some (.ref 44), some (.int x1), some (.int x2), some (.int x3), some (.int x4)], [.int x4, .int x1, .ref 39], mSS M)) (by decide +kernel) rfl ?_
      obtain ⟨r4, q3, h⟩ := bR_of h
      refine R_callV (mi := 95) (na := 3) (ci := 10) (i := 39) (as := [.int x1, .int x4]) (r := []) (rv := some (.int r4)) (σ1 := mSS M) ⟨77, by decide +kernel⟩ rfl rfl rfl rfl (Wk_shared_r N x1 x4 M (d + 2) q3) ?_
      show mRunF _ _ (64, [some (.ref 44), some (.int x1), some (.int x2), some (.int x3), some (.int x4)], [.int r4], mSS M)
      refine R_eq (t := 76) ⟨12, by decide +kernel⟩ (fun q => ?_) (fun q => ?_)
      · rw [if_pos q] at h
        exact Mt_neverMet_76_r hk20 (fun y0 y1 y2 y3 y4 hh => @ih y0 y1 y2 y3 y4 hh) h
      · rw [if_neg q] at h
        refine mRunF.sg (mSl mk_26 38 8) (g := (76, [some (.ref 44), some (.int x1), some (.int (x2 &&& (((1 : Int32) <<< (x4 &&& 31)) ^^^ (-1)))), some (.int x3), some (.int x4)], [], mSS M)) (by decide +kernel) rfl ?_
        obtain ⟨v5, hv, h⟩ := nxt_ex h
        rw [← hv]
        clear hv
        exact Mt_neverMet_76_r hk20 (fun y0 y1 y2 y3 y4 hh => @ih y0 y1 y2 y3 y4 hh) h
set_option maxRecDepth 100000 in
set_option maxHeartbeats 4000000 in
theorem Mt_neverMet_20_r {N d : Nat}   {r : Int32} {M' : mS} : ∀ {n : Nat} {x1 : Int32} {x2 : Int32} {x3 : Int32} {M : mS}, Mt_neverMet_20 N n x1 x2 x3 M = some (r, M') → mRunF (mCd 26) (mEE (mMet mP mTx (d + 4)) (some .int) (some (.int r)) M') (20, [some (.ref 44), some (.int x1), some (.int x2), some (.int x3), none], [], mSS M) := by
  intro n
  induction n with
  | zero => intro x1 x2 x3 M h; cases h
  | succ n ih =>
    replace ih := @ih
    intro x1 x2 x3 M h
    unfold Mt_neverMet_20 at h
    refine mRunF.sg (mSl mk_26 16 2) (g := (24, [some (.ref 44), some (.int x1), some (.int x2), some (.int x3), none], [.int 400, .int x3], mSS M)) (by decide +kernel) rfl ?_
    refine R_igt (t := 95) ⟨71, by decide +kernel⟩ (fun q => ?_) (fun q => ?_)
    · rw [if_pos q] at h
      refine mRunF.sg (mSl mk_26 53 1) (g := (96, [some (.ref 44), some (.int x1), some (.int x2), some (.int x3), none], [.int x2], mSS M)) (by decide +kernel) rfl ?_
      cases h
      exact R_iret (by decide +kernel)
    · rw [if_neg q] at h
      refine mRunF.sg (mSl mk_26 19 1) (g := (28, [some (.ref 44), some (.int x1), some (.int x2), some (.int x3), none], [.int x2], mSS M)) (by decide +kernel) rfl ?_
      refine R_eq (t := 95) ⟨67, by decide +kernel⟩ (fun q => ?_) (fun q => ?_)
      · rw [if_pos q] at h
        refine mRunF.sg (mSl mk_26 53 1) (g := (96, [some (.ref 44), some (.int x1), some (.int x2), some (.int x3), none], [.int x2], mSS M)) (by decide +kernel) rfl ?_
        cases h
        exact R_iret (by decide +kernel)
      · rw [if_neg q] at h
        refine mRunF.sg (mSl mk_26 21 3) (g := (36, [some (.ref 44), some (.int x1), some (.int x2), some (.int x3), none], [.int (-1), .ref 39], mSS M)) (by decide +kernel) rfl ?_
        obtain ⟨M7, q6, h⟩ := bV_of h
        refine R_callV (mi := 90) (na := 2) (ci := 10) (i := 39) (as := [.int (-1)]) (r := []) (rv := none) (σ1 := mSS M7) ⟨19, by decide +kernel⟩ rfl rfl rfl rfl (Wk_see_r N (-1) M (d + 0) q6) ?_
        show mRunF _ _ (39, [some (.ref 44), some (.int x1), some (.int x2), some (.int x3), none], [], mSS M7)
        refine mRunF.sg (mSl mk_26 25 2) (g := (42, [some (.ref 44), some (.int x1), some (.int x2), some (.int x3), some (.int 0)], [], mSS M7)) (by decide +kernel) rfl ?_
        exact Mt_neverMet_42_r (fun y0 y1 y2 y3 hh => @ih y0 y1 y2 y3 hh) h
set_option maxRecDepth 100000 in
set_option maxHeartbeats 4000000 in
theorem Mt_neverMet_r (N : Nat) (a0 : Int32) (M : mS) {r : Int32} {M' : mS} (d : Nat) (h : Mt_neverMet N a0 M = some (r, M')) : mMet mP mTx (d + 5) 26 [.ref 44, .int a0] (mSS M) (some (.int r)) (mSS M') := by
  refine mMet_i ⟨Nat.le_refl _, Nat.le_refl _, Nat.le_of_ble_eq_true rfl⟩ ?_
  unfold Mt_neverMet at h
  show mRunF (mCd 26) (mEE (mMet mP mTx (d + 4)) (some .int) (some (.int r)) M') (0, [some (.ref 44), some (.int a0), none, none, none], [], mSS M)
  refine mRunF.sg (mSl mk_26 0 14) (g := (18, [some (.ref 44), some (.int a0), some (.int ((((1 : Int32) <<< ((M.1 3 8) &&& 31)) - 1) &&& (((1 : Int32) <<< (a0 &&& 31)) ^^^ (-1)))), none, none], [], mSS M)) (by decide +kernel) rfl ?_
  obtain ⟨v8, hv, h⟩ := nxt_ex h
  rw [← hv]
  clear hv
  refine mRunF.sg (mSl mk_26 14 2) (g := (20, [some (.ref 44), some (.int a0), some (.int v8), some (.int 0), none], [], mSS M)) (by decide +kernel) rfl ?_
  exact Mt_neverMet_20_r h
set_option maxRecDepth 100000 in
set_option maxHeartbeats 4000000 in
theorem Md_strangers_r (N : Nat) (a0 : Int32) (M : mS) {r : Int32} {M' : mS} (d : Nat) (h : Md_strangers N a0 M = some (r, M')) : mMet mP mTx (d + 6) 130 [.ref 0, .int a0] (mSS M) (some (.int r)) (mSS M') := by
  refine mMet_i ⟨Nat.le_refl _, Nat.le_refl _, Nat.le_of_ble_eq_true rfl⟩ ?_
  unfold Md_strangers at h
  show mRunF (mCd 130) (mEE (mMet mP mTx (d + 5)) (some .int) (some (.int r)) M') (0, [some (.ref 0), some (.int a0)], [], mSS M)
  refine mRunF.sg (mSl mk_130 0 2) (g := (2, [some (.ref 0), some (.int a0)], [.int a0, .ref 0], mSS M)) (by decide +kernel) rfl ?_
  refine R_callV (mi := 161) (na := 2) (ci := 11) (i := 0) (as := [.int a0]) (r := []) (rv := some (.int (Md_isGoer a0 M))) (σ1 := mSS M) ⟨152, by decide +kernel⟩ rfl rfl rfl rfl (Md_isGoer_r a0 M (d + 4)) ?_
  have b1 := mBool rfl (Md_isGoer_r a0 M (d + 4))
  show mRunF _ _ (5, [some (.ref 0), some (.int a0)], [.int (Md_isGoer a0 M)], mSS M)
  refine R_ne (t := 10) ⟨5, by decide +kernel⟩ (fun q => ?_) (fun q => ?_)
  · rw [if_pos q] at h
    refine mRunF.sg (mSl mk_130 4 1) (g := (9, [some (.ref 0), some (.int a0)], [.int (-1)], mSS M)) (by decide +kernel) rfl ?_
    cases h
    exact R_iret (by decide +kernel)
  · rw [if_neg q] at h
    refine mRunF.sg (mSl mk_130 6 4) (g := (18, [some (.ref 0), some (.int a0)], [.ref 34, .ref 39], mSS M)) (by decide +kernel) rfl ?_
    obtain ⟨M3, q2, h⟩ := bV_of h
    refine R_callV (mi := 89) (na := 2) (ci := 10) (i := 39) (as := [.ref 34]) (r := []) (rv := none) (σ1 := mSS M3) ⟨128, by decide +kernel⟩ rfl rfl rfl rfl (Wk_begin_r N M (d + 4) q2) ?_
    show mRunF _ _ (21, [some (.ref 0), some (.int a0)], [], mSS M3)
    refine mRunF.sg (mSl mk_130 11 3) (g := (26, [some (.ref 0), some (.int a0)], [.int a0, .ref 44], mSS M3)) (by decide +kernel) rfl ?_
    obtain ⟨r6, M5, q4, h⟩ := bW_of h
    refine R_callV (mi := 26) (na := 2) (ci := 3) (i := 44) (as := [.int a0]) (r := []) (rv := some (.int r6)) (σ1 := mSS M5) ⟨249, by decide +kernel⟩ rfl rfl rfl rfl (Mt_neverMet_r N a0 M3 (d + 0) q4) ?_
    show mRunF _ _ (29, [some (.ref 0), some (.int a0)], [.int r6], mSS M5)
    cases h
    exact R_iret (by decide +kernel)
set_option maxRecDepth 100000 in
set_option maxHeartbeats 4000000 in
theorem Tl_bestDial_74_r {N d : Nat} {k11 : Int32 → Int32 → Int32 → Int32 → Int32 → mS → Option (Int32 × mS)} {M : mS} {x2 : Int32} {x3 : Int32} {x4 : Int32} {x5 : Int32} {x6 : Int32} {r : Int32} {M' : mS} (hk11 : ∀ (x2 : Int32) (x3 : Int32) (x4 : Int32) (x5 : Int32) (x6 : Int32) (M : mS), k11 x2 x3 x4 x5 x6 M = some (r, M') → mRunF (mCd 62) (mEE (mMet mP mTx (d + 5)) (some .int) (some (.int r)) M') (11, [some (.ref 45), some (.ref 34), some (.int x2), some (.int x3), some (.int x4), some (.int x5), some (.int x6), none], [], mSS M)) (h : Tl_bestDial_74 N k11 x2 x3 x4 x5 x6 M = some (r, M')) : mRunF (mCd 62) (mEE (mMet mP mTx (d + 5)) (some .int) (some (.int r)) M') (74, [some (.ref 45), some (.ref 34), some (.int x2), some (.int x3), some (.int x4), some (.int x5), some (.int x6), none], [], mSS M) := by
  unfold Tl_bestDial_74 at h
  refine mRunF.sg (mSl mk_62 39 2) (g := (11, [some (.ref 45), some (.ref 34), some (.int x2), some (.int x3), some (.int x4), some (.int x5), some (.int (x6 + 1)), none], [], mSS M)) (by decide +kernel) rfl ?_
  exact hk11 _ _ _ _ _ _ h
set_option maxRecDepth 100000 in
set_option maxHeartbeats 4000000 in
theorem Tl_bestDial_11_r {N d : Nat}   {r : Int32} {M' : mS} : ∀ {n : Nat} {x2 : Int32} {x3 : Int32} {x4 : Int32} {x5 : Int32} {x6 : Int32} {M : mS}, Tl_bestDial_11 N n x2 x3 x4 x5 x6 M = some (r, M') → mRunF (mCd 62) (mEE (mMet mP mTx (d + 5)) (some .int) (some (.int r)) M') (11, [some (.ref 45), some (.ref 34), some (.int x2), some (.int x3), some (.int x4), some (.int x5), some (.int x6), none], [], mSS M) := by
  intro n
  induction n with
  | zero => intro x2 x3 x4 x5 x6 M h; cases h
  | succ n ih =>
    replace ih := @ih
    intro x2 x3 x4 x5 x6 M h
    unfold Tl_bestDial_11 at h
    refine mRunF.sg (mSl mk_62 7 4) (g := (20, [some (.ref 45), some (.ref 34), some (.int x2), some (.int x3), some (.int x4), some (.int x5), some (.int x6), none], [.int (M.1 3 7), .int x6], mSS M)) (by decide +kernel) rfl ?_
    refine R_ige (t := 80) ⟨60, by decide +kernel⟩ (fun q => ?_) (fun q => ?_)
    · rw [if_pos q] at h
      refine mRunF.sg (mSl mk_62 41 1) (g := (82, [some (.ref 45), some (.ref 34), some (.int x2), some (.int x3), some (.int x4), some (.int x5), some (.int x6), none], [.int x5], mSS M)) (by decide +kernel) rfl ?_
      cases h
      exact R_iret (by decide +kernel)
    · rw [if_neg q] at h
      refine mRunF.sg (mSl mk_62 12 3) (g := (28, [some (.ref 45), some (.ref 34), some (.int x2), some (.int x3), some (.int x4), some (.int x5), some (.int x6), none], [.ref 34, .ref 39], mSS M)) (by decide +kernel) rfl ?_
      obtain ⟨M2, q1, h⟩ := bV_of h
      refine R_callV (mi := 89) (na := 2) (ci := 10) (i := 39) (as := [.ref 34]) (r := []) (rv := none) (σ1 := mSS M2) ⟨73, by decide +kernel⟩ rfl rfl rfl rfl (Wk_begin_r N M (d + 4) q1) ?_
      show mRunF _ _ (31, [some (.ref 45), some (.ref 34), some (.int x2), some (.int x3), some (.int x4), some (.int x5), some (.int x6), none], [], mSS M2)
      refine mRunF.sg (mSl mk_62 16 7) (g := (44, [some (.ref 45), some (.ref 34), some (.int x2), some (.int x3), some (.int x4), some (.int x5), some (.int x6), none], [.int x6, .int (9 + x2), .ref 40], mSS M2)) (by decide +kernel) rfl ?_
      obtain ⟨g3, h⟩ := grd_of h
      refine R_iast (by decide +kernel) rfl g3 ?_
      obtain ⟨M4, hv, h⟩ := nxt_ex h
      rw [← hv]
      clear hv
      refine mRunF.sg (mSl mk_62 24 4) (g := (50, [some (.ref 45), some (.ref 34), some (.int x2), some (.int x3), some (.int x4), some (.int x5), some (.int x6), none], [.int x4, .int x3, .int x2, .ref 45], mSS M4)) (by decide +kernel) rfl ?_
      obtain ⟨r7, M6, q5, h⟩ := bW_of h
      refine R_callV (mi := 58) (na := 4) (ci := 7) (i := 45) (as := [.int x2, .int x3, .int x4]) (r := []) (rv := some (.int r7)) (σ1 := mSS M6) ⟨80, by decide +kernel⟩ rfl rfl rfl rfl (Tl_sharedHours_r N x2 x3 x4 M4 (d + 0) q5) ?_
      show mRunF _ _ (53, [some (.ref 45), some (.ref 34), some (.int x2), some (.int x3), some (.int x4), some (.int x5), some (.int x6), none], [.int r7], mSS M6)
      refine mRunF.sg (mSl mk_62 29 4) (g := (61, [some (.ref 45), some (.ref 34), some (.int x2), some (.int x3), some (.int x4), some (.int x5), some (.int x6), some (.int r7)], [.int (M6.1 45 0), .int r7], mSS M6)) (by decide +kernel) rfl ?_
      refine R_ile (t := 74) ⟨13, by decide +kernel⟩ (fun q => ?_) (fun q => ?_)
      · rw [if_pos q] at h
        refine mRunF.forget [true, true, true, true, true, true, true, false] ?_
        exact Tl_bestDial_74_r (fun y0 y1 y2 y3 y4 y5 hh => @ih y0 y1 y2 y3 y4 y5 hh) h
      · rw [if_neg q] at h
        refine mRunF.sg (mSl mk_62 34 3) (g := (70, [some (.ref 45), some (.ref 34), some (.int x2), some (.int x3), some (.int x4), some (.int x5), some (.int x6), some (.int r7)], [], mSS (mWI M6 45 0 r7))) (by decide +kernel) rfl ?_
        obtain ⟨M8, hv, h⟩ := nxt_ex h
        rw [← hv]
        clear hv
        refine mRunF.sg (mSl mk_62 37 2) (g := (74, [some (.ref 45), some (.ref 34), some (.int x2), some (.int x3), some (.int x4), some (.int x6), some (.int x6), some (.int r7)], [], mSS M8)) (by decide +kernel) rfl ?_
        refine mRunF.forget [true, true, true, true, true, true, true, false] ?_
        exact Tl_bestDial_74_r (fun y0 y1 y2 y3 y4 y5 hh => @ih y0 y1 y2 y3 y4 y5 hh) h
set_option maxRecDepth 100000 in
set_option maxHeartbeats 4000000 in
theorem Tl_bestDial_r (N : Nat) (a0 : Int32) (a1 : Int32) (a2 : Int32) (M : mS) {r : Int32} {M' : mS} (d : Nat) (h : Tl_bestDial N a0 a1 a2 M = some (r, M')) : mMet mP mTx (d + 6) 62 [.ref 45, .ref 34, .int a0, .int a1, .int a2] (mSS M) (some (.int r)) (mSS M') := by
  refine mMet_i ⟨Nat.le_refl _, Nat.le_refl _, Nat.le_of_ble_eq_true rfl⟩ ?_
  unfold Tl_bestDial at h
  show mRunF (mCd 62) (mEE (mMet mP mTx (d + 5)) (some .int) (some (.int r)) M') (0, [some (.ref 45), some (.ref 34), some (.int a0), some (.int a1), some (.int a2), none, none, none], [], mSS M)
  refine mRunF.sg (mSl mk_62 0 5) (g := (8, [some (.ref 45), some (.ref 34), some (.int a0), some (.int a1), some (.int a2), some (.int 0), none, none], [], mSS (mWI M 45 0 (-1)))) (by decide +kernel) rfl ?_
  obtain ⟨M9, hv, h⟩ := nxt_ex h
  rw [← hv]
  clear hv
  refine mRunF.sg (mSl mk_62 5 2) (g := (11, [some (.ref 45), some (.ref 34), some (.int a0), some (.int a1), some (.int a2), some (.int 0), some (.int 0), none], [], mSS M9)) (by decide +kernel) rfl ?_
  exact Tl_bestDial_11_r h
set_option maxRecDepth 100000 in
set_option maxHeartbeats 4000000 in
theorem Md_by_32_r {N d : Nat}  {M : mS} {x1 : Int32} {x2 : Int32} {x3 : Int32} {x4 : Int32} {r : Int32} {M' : mS} (h : Md_by_32 N x1 x2 x3 x4 M = some (r, M')) : mRunF (mCd 131) (mEE (mMet mP mTx (d + 6)) (some .int) (some (.int r)) M') (32, [some (.ref 0), some (.int x1), some (.int x2), some (.int x3), some (.int x4), none], [], mSS M) := by
  unfold Md_by_32 at h
  refine mRunF.sg (mSl mk_131 16 7) (g := (43, [some (.ref 0), some (.int x1), some (.int x2), some (.int x3), some (.int x4), none], [.int x3, .int x2, .int x1, .ref 34, .ref 45], mSS M)) (by decide +kernel) rfl ?_
  obtain ⟨r3, M2, q1, h⟩ := bW_of h
  refine R_callV (mi := 62) (na := 5) (ci := 7) (i := 45) (as := [.ref 34, .int x1, .int x2, .int x3]) (r := []) (rv := some (.int r3)) (σ1 := mSS M2) ⟨252, by decide +kernel⟩ rfl rfl rfl rfl (Tl_bestDial_r N x1 x2 x3 M (d + 0) q1) ?_
  show mRunF _ _ (46, [some (.ref 0), some (.int x1), some (.int x2), some (.int x3), some (.int x4), none], [.int r3], mSS M2)
  refine mRunF.sg (mSl mk_131 24 2) (g := (50, [some (.ref 0), some (.int x1), some (.int x2), some (.int x3), some (.int x4), some (.int r3)], [.int x4], mSS M2)) (by decide +kernel) rfl ?_
  refine R_ne (t := 58) ⟨8, by decide +kernel⟩ (fun q => ?_) (fun q => ?_)
  · rw [if_pos q] at h
    refine mRunF.sg (mSl mk_131 27 2) (g := (65, [some (.ref 0), some (.int x1), some (.int x2), some (.int x3), some (.int x4), some (.int r3)], [.int r3], mSS M2)) (by decide +kernel) rfl ?_
    cases h
    exact R_iret (by decide +kernel)
  · rw [if_neg q] at h
    refine mRunF.sg (mSl mk_131 29 3) (g := (65, [some (.ref 0), some (.int x1), some (.int x2), some (.int x3), some (.int x4), some (.int r3)], [.int (M2.1 45 0)], mSS M2)) (by decide +kernel) rfl ?_
    cases h
    exact R_iret (by decide +kernel)
set_option maxRecDepth 100000 in
set_option maxHeartbeats 4000000 in
theorem Md_by_r (N : Nat) (a0 : Int32) (a1 : Int32) (a2 : Int32) (a3 : Int32) (M : mS) {r : Int32} {M' : mS} (d : Nat) (h : Md_by N a0 a1 a2 a3 M = some (r, M')) : mMet mP mTx (d + 7) 131 [.ref 0, .int a0, .int a1, .int a2, .int a3] (mSS M) (some (.int r)) (mSS M') := by
  refine mMet_i ⟨Nat.le_refl _, Nat.le_refl _, Nat.le_of_ble_eq_true rfl⟩ ?_
  unfold Md_by at h
  show mRunF (mCd 131) (mEE (mMet mP mTx (d + 6)) (some .int) (some (.int r)) M') (0, [some (.ref 0), some (.int a0), some (.int a1), some (.int a2), some (.int a3), none], [], mSS M)
  refine mRunF.sg (mSl mk_131 0 3) (g := (3, [some (.ref 0), some (.int a0), some (.int a1), some (.int a2), some (.int a3), none], [.int a1, .int a0, .ref 0], mSS M)) (by decide +kernel) rfl ?_
  refine R_callV (mi := 162) (na := 3) (ci := 11) (i := 0) (as := [.int a0, .int a1]) (r := []) (rv := some (.int (Md_areTwo a0 a1 M))) (σ1 := mSS M) ⟨164, by decide +kernel⟩ rfl rfl rfl rfl (Md_areTwo_r a0 a1 M (d + 4)) ?_
  have b4 := mBool rfl (Md_areTwo_r a0 a1 M (d + 4))
  show mRunF _ _ (6, [some (.ref 0), some (.int a0), some (.int a1), some (.int a2), some (.int a3), none], [.int (Md_areTwo a0 a1 M)], mSS M)
  refine R_eq (t := 30) ⟨24, by decide +kernel⟩ (fun q => ?_) (fun q => ?_)
  · rw [if_pos q] at h
    refine mRunF.sg (mSl mk_131 14 1) (g := (31, [some (.ref 0), some (.int a0), some (.int a1), some (.int a2), some (.int a3), none], [.int (-1)], mSS M)) (by decide +kernel) rfl ?_
    cases h
    exact R_iret (by decide +kernel)
  · rw [if_neg q] at h
    refine mRunF.sg (mSl mk_131 5 2) (g := (13, [some (.ref 0), some (.int a0), some (.int a1), some (.int a2), some (.int a3), none], [.int 200, .int a2], mSS M)) (by decide +kernel) rfl ?_
    refine R_callS (mi := 165) (na := 2) (as := [.int a2, .int 200]) (r := []) (rv := some (.int (Md_isWithin a2 200 M))) (σ1 := mSS M) ⟨179, by decide +kernel⟩ rfl rfl rfl (Md_isWithin_r a2 200 M (d + 5)) ?_
    have b5 := mBool rfl (Md_isWithin_r a2 200 M (d + 5))
    show mRunF _ _ (16, [some (.ref 0), some (.int a0), some (.int a1), some (.int a2), some (.int a3), none], [.int (Md_isWithin a2 200 M)], mSS M)
    refine R_eq (t := 30) ⟨14, by decide +kernel⟩ (fun q => ?_) (fun q => ?_)
    · rw [if_pos q] at h
      refine mRunF.sg (mSl mk_131 14 1) (g := (31, [some (.ref 0), some (.int a0), some (.int a1), some (.int a2), some (.int a3), none], [.int (-1)], mSS M)) (by decide +kernel) rfl ?_
      cases h
      exact R_iret (by decide +kernel)
    · rw [if_neg q] at h
      refine mRunF.sg (mSl mk_131 9 1) (g := (21, [some (.ref 0), some (.int a0), some (.int a1), some (.int a2), some (.int a3), none], [.int a3], mSS M)) (by decide +kernel) rfl ?_
      refine R_eq (t := 32) ⟨11, by decide +kernel⟩ (fun q => ?_) (fun q => ?_)
      · rw [if_pos q] at h
        exact Md_by_32_r h
      · rw [if_neg q] at h
        refine mRunF.sg (mSl mk_131 11 2) (g := (27, [some (.ref 0), some (.int a0), some (.int a1), some (.int a2), some (.int a3), none], [.int 1, .int a3], mSS M)) (by decide +kernel) rfl ?_
        refine R_ieq (t := 32) ⟨5, by decide +kernel⟩ (fun q => ?_) (fun q => ?_)
        · rw [if_pos q] at h
          exact Md_by_32_r h
        · rw [if_neg q] at h
          refine mRunF.sg (mSl mk_131 14 1) (g := (31, [some (.ref 0), some (.int a0), some (.int a1), some (.int a2), some (.int a3), none], [.int (-1)], mSS M)) (by decide +kernel) rfl ?_
          cases h
          exact R_iret (by decide +kernel)
set_option maxRecDepth 100000 in
set_option maxHeartbeats 4000000 in
theorem Tl_clear_2_r {N d : Nat}   {M' : mS} : ∀ {n : Nat} {x1 : Int32} {M : mS}, Tl_clear_2 N n x1 M = some M' → mRunF (mCd 69) (mEE (mMet mP mTx (d + 0)) (none) none M') (2, [some (.ref 47), some (.int x1)], [], mSS M) := by
  intro n
  induction n with
  | zero => intro x1 M h; cases h
  | succ n ih =>
    replace ih := @ih
    intro x1 M h
    unfold Tl_clear_2 at h
    refine mRunF.sg (mSl mk_69 2 3) (g := (5, [some (.ref 47), some (.int x1)], [.int (Int32.ofNat 25), .int x1], mSS M)) (by decide +kernel) rfl ?_
    refine R_ige (t := 18) ⟨13, by decide +kernel⟩ (fun q => ?_) (fun q => ?_)
    · rw [if_pos q] at h
      cases h
      exact R_vret (by decide +kernel)
    · rw [if_neg q] at h
      refine mRunF.sg (mSl mk_69 6 3) (g := (11, [some (.ref 47), some (.int x1)], [.int 0, .int x1, .ref 47], mSS M)) (by decide +kernel) rfl ?_
      obtain ⟨g1, h⟩ := grd_of h
      refine R_iast (by decide +kernel) rfl g1 ?_
      obtain ⟨M2, hv, h⟩ := nxt_ex h
      rw [← hv]
      clear hv
      refine mRunF.sg (mSl mk_69 10 2) (g := (2, [some (.ref 47), some (.int (x1 + 1))], [], mSS M2)) (by decide +kernel) rfl ?_
      exact @ih _ _ h
set_option maxRecDepth 100000 in
set_option maxHeartbeats 4000000 in
theorem Tl_clear_r (N : Nat)  (M : mS) {M' : mS} (d : Nat) (h : Tl_clear N M = some M') : mMet mP mTx (d + 1) 69 [.ref 47] (mSS M) none (mSS M') := by
  refine mMet_i ⟨Nat.le_refl _, Nat.le_refl _, Nat.le_of_ble_eq_true rfl⟩ ?_
  unfold Tl_clear at h
  show mRunF (mCd 69) (mEE (mMet mP mTx (d + 0)) (none) none M') (0, [some (.ref 47), none], [], mSS M)
  refine mRunF.sg (mSl mk_69 0 2) (g := (2, [some (.ref 47), some (.int 0)], [], mSS M)) (by decide +kernel) rfl ?_
  exact Tl_clear_2_r h
set_option maxRecDepth 100000 in
set_option maxHeartbeats 4000000 in
theorem Tl_addShared_40_r {N d : Nat} {k9 : Int32 → Int32 → mS → Option mS} {k24 : Int32 → Int32 → Int32 → mS → Option mS}  {M' : mS} (hk9 : ∀ (x1 : Int32) (x2 : Int32) (M : mS), k9 x1 x2 M = some M' → mRunF (mCd 66) (mEE (mMet mP mTx (d + 4)) (none) none M') (9, [some (.ref 45), some (.int x1), some (.int x2), none, none], [], mSS M)) (hk24 : ∀ (x1 : Int32) (x2 : Int32) (x3 : Int32) (M : mS), k24 x1 x2 x3 M = some M' → mRunF (mCd 66) (mEE (mMet mP mTx (d + 4)) (none) none M') (24, [some (.ref 45), some (.int x1), some (.int x2), some (.int x3), none], [], mSS M)) : ∀ {n : Nat} {x1 : Int32} {x2 : Int32} {x3 : Int32} {x4 : Int32} {M : mS}, Tl_addShared_40 N k9 k24 n x1 x2 x3 x4 M = some M' → mRunF (mCd 66) (mEE (mMet mP mTx (d + 4)) (none) none M') (40, [some (.ref 45), some (.int x1), some (.int x2), some (.int x3), some (.int x4)], [], mSS M) := by
  intro n
  induction n with
  | zero => intro x1 x2 x3 x4 M h; cases h
  | succ n ih =>
    replace ih := @ih
    intro x1 x2 x3 x4 M h
    unfold Tl_addShared_40 at h
    refine mRunF.sg (mSl mk_66 23 4) (g := (49, [some (.ref 45), some (.int x1), some (.int x2), some (.int x3), some (.int x4)], [.int (M.1 3 8), .int x4], mSS M)) (by decide +kernel) rfl ?_
    refine R_ige (t := 82) ⟨33, by decide +kernel⟩ (fun q => ?_) (fun q => ?_)
    · rw [if_pos q] at h
      refine mRunF.sg (mSl mk_66 46 2) (g := (24, [some (.ref 45), some (.int x1), some (.int x2), some (.int (x3 + 1)), some (.int x4)], [], mSS M)) (by decide +kernel) rfl ?_
      refine mRunF.forget [true, true, true, true, false] ?_
      exact hk24 _ _ _ _ h
    · rw [if_neg q] at h
      refine mRunF.sg (mSl mk_66 28 8) (g := (63, [some (.ref 45), some (.int x1), some (.int x2), some (.int x3), some (.int x4)], [.int ((x3 * 5) + x4), .ref 47, .int ((x3 * 5) + x4), .ref 47], mSS M)) (by decide +kernel) rfl ?_
      obtain ⟨g1, h⟩ := grd_of h
      refine R_iald (by decide +kernel) rfl g1 ?_
      refine mRunF.sg (mSl mk_66 37 4) (g := (71, [some (.ref 45), some (.int x1), some (.int x2), some (.int x3), some (.int x4)], [.int x4, .int x3, .ref 39, .int (M.1 47 ((x3 * 5) + x4).toNatClampNeg), .int ((x3 * 5) + x4), .ref 47], mSS M)) (by decide +kernel) rfl ?_
      obtain ⟨r3, q2, h⟩ := bR_of h
      refine R_callV (mi := 95) (na := 3) (ci := 10) (i := 39) (as := [.int x3, .int x4]) (r := [.int (M.1 47 ((x3 * 5) + x4).toNatClampNeg), .int ((x3 * 5) + x4), .ref 47]) (rv := some (.int r3)) (σ1 := mSS M) ⟨38, by decide +kernel⟩ rfl rfl rfl rfl (Wk_shared_r N x3 x4 M (d + 2) q2) ?_
      show mRunF _ _ (74, [some (.ref 45), some (.int x1), some (.int x2), some (.int x3), some (.int x4)], [.int r3, .int (M.1 47 ((x3 * 5) + x4).toNatClampNeg), .int ((x3 * 5) + x4), .ref 47], mSS M)
      refine mRunF.sg (mSl mk_66 42 1) (g := (75, [some (.ref 45), some (.int x1), some (.int x2), some (.int x3), some (.int x4)], [.int ((M.1 47 ((x3 * 5) + x4).toNatClampNeg) + r3), .int ((x3 * 5) + x4), .ref 47], mSS M)) (by decide +kernel) rfl ?_
      obtain ⟨g4, h⟩ := grd_of h
      refine R_iast (by decide +kernel) rfl g4 ?_
      obtain ⟨M5, hv, h⟩ := nxt_ex h
      rw [← hv]
      clear hv
      refine mRunF.sg (mSl mk_66 44 2) (g := (40, [some (.ref 45), some (.int x1), some (.int x2), some (.int x3), some (.int (x4 + 1))], [], mSS M5)) (by decide +kernel) rfl ?_
      exact @ih _ _ _ _ _ h
set_option maxRecDepth 100000 in
set_option maxHeartbeats 4000000 in
theorem Tl_addShared_24_r {N d : Nat} {k9 : Int32 → Int32 → mS → Option mS}  {M' : mS} (hk9 : ∀ (x1 : Int32) (x2 : Int32) (M : mS), k9 x1 x2 M = some M' → mRunF (mCd 66) (mEE (mMet mP mTx (d + 4)) (none) none M') (9, [some (.ref 45), some (.int x1), some (.int x2), none, none], [], mSS M)) : ∀ {n : Nat} {x1 : Int32} {x2 : Int32} {x3 : Int32} {M : mS}, Tl_addShared_24 N k9 n x1 x2 x3 M = some M' → mRunF (mCd 66) (mEE (mMet mP mTx (d + 4)) (none) none M') (24, [some (.ref 45), some (.int x1), some (.int x2), some (.int x3), none], [], mSS M) := by
  intro n
  induction n with
  | zero => intro x1 x2 x3 M h; cases h
  | succ n ih =>
    replace ih := @ih
    intro x1 x2 x3 M h
    unfold Tl_addShared_24 at h
    refine mRunF.sg (mSl mk_66 14 4) (g := (32, [some (.ref 45), some (.int x1), some (.int x2), some (.int x3), none], [.int (M.1 3 8), .int x3], mSS M)) (by decide +kernel) rfl ?_
    refine R_ige (t := 88) ⟨56, by decide +kernel⟩ (fun q => ?_) (fun q => ?_)
    · rw [if_pos q] at h
      refine mRunF.sg (mSl mk_66 48 2) (g := (92, [some (.ref 45), some (.int x1), some (.int x2), some (.int x3), none], [.ref 39], mSS M)) (by decide +kernel) rfl ?_
      obtain ⟨M7, q6, h⟩ := bV_of h
      refine R_callV (mi := 92) (na := 1) (ci := 10) (i := 39) (as := []) (r := []) (rv := none) (σ1 := mSS M7) ⟨41, by decide +kernel⟩ rfl rfl rfl rfl (Wk_pass_r N M (d + 2) q6) ?_
      show mRunF _ _ (95, [some (.ref 45), some (.int x1), some (.int x2), some (.int x3), none], [], mSS M7)
      refine mRunF.sg (mSl mk_66 51 2) (g := (9, [some (.ref 45), some (.int x1), some (.int (x2 + 1)), some (.int x3), none], [], mSS M7)) (by decide +kernel) rfl ?_
      refine mRunF.forget [true, true, true, false, true] ?_
      exact hk9 _ _ _ h
    · rw [if_neg q] at h
      refine mRunF.sg (mSl mk_66 19 4) (g := (40, [some (.ref 45), some (.int x1), some (.int x2), some (.int x3), some (.int (x3 + 1))], [], mSS M)) (by decide +kernel) rfl ?_
      obtain ⟨v8, hv, h⟩ := nxt_ex h
      rw [← hv]
      clear hv
      exact Tl_addShared_40_r hk9 (fun y0 y1 y2 y3 hh => @ih y0 y1 y2 y3 hh) h
set_option maxRecDepth 100000 in
set_option maxHeartbeats 4000000 in
theorem Tl_addShared_9_r {N d : Nat}   {M' : mS} : ∀ {n : Nat} {x1 : Int32} {x2 : Int32} {M : mS}, Tl_addShared_9 N n x1 x2 M = some M' → mRunF (mCd 66) (mEE (mMet mP mTx (d + 4)) (none) none M') (9, [some (.ref 45), some (.int x1), some (.int x2), none, none], [], mSS M) := by
  intro n
  induction n with
  | zero => intro x1 x2 M h; cases h
  | succ n ih =>
    replace ih := @ih
    intro x1 x2 M h
    unfold Tl_addShared_9 at h
    refine mRunF.sg (mSl mk_66 5 2) (g := (11, [some (.ref 45), some (.int x1), some (.int x2), none, none], [.int x1, .int x2], mSS M)) (by decide +kernel) rfl ?_
    refine R_ige (t := 101) ⟨90, by decide +kernel⟩ (fun q => ?_) (fun q => ?_)
    · rw [if_pos q] at h
      cases h
      exact R_vret (by decide +kernel)
    · rw [if_neg q] at h
      refine mRunF.sg (mSl mk_66 8 3) (g := (19, [some (.ref 45), some (.int x1), some (.int x2), none, none], [.int (-1), .ref 39], mSS M)) (by decide +kernel) rfl ?_
      obtain ⟨M10, q9, h⟩ := bV_of h
      refine R_callV (mi := 90) (na := 2) (ci := 10) (i := 39) (as := [.int (-1)]) (r := []) (rv := none) (σ1 := mSS M10) ⟨32, by decide +kernel⟩ rfl rfl rfl rfl (Wk_see_r N (-1) M (d + 0) q9) ?_
      show mRunF _ _ (22, [some (.ref 45), some (.int x1), some (.int x2), none, none], [], mSS M10)
      refine mRunF.sg (mSl mk_66 12 2) (g := (24, [some (.ref 45), some (.int x1), some (.int x2), some (.int 0), none], [], mSS M10)) (by decide +kernel) rfl ?_
      exact Tl_addShared_24_r (fun y0 y1 y2 hh => @ih y0 y1 y2 hh) h
set_option maxRecDepth 100000 in
set_option maxHeartbeats 4000000 in
theorem Tl_addShared_r (N : Nat) (a0 : Int32) (M : mS) {M' : mS} (d : Nat) (h : Tl_addShared N a0 M = some M') : mMet mP mTx (d + 5) 66 [.ref 45, .int a0] (mSS M) none (mSS M') := by
  refine mMet_i ⟨Nat.le_refl _, Nat.le_refl _, Nat.le_of_ble_eq_true rfl⟩ ?_
  unfold Tl_addShared at h
  show mRunF (mCd 66) (mEE (mMet mP mTx (d + 4)) (none) none M') (0, [some (.ref 45), some (.int a0), none, none, none], [], mSS M)
  refine mRunF.sg (mSl mk_66 0 2) (g := (4, [some (.ref 45), some (.int a0), none, none, none], [.ref 47], mSS M)) (by decide +kernel) rfl ?_
  obtain ⟨M12, q11, h⟩ := bV_of h
  refine R_callS (mi := 69) (na := 1) (as := [.ref 47]) (r := []) (rv := none) (σ1 := mSS M12) ⟨84, by decide +kernel⟩ rfl rfl rfl (Tl_clear_r N M (d + 3) q11) ?_
  show mRunF _ _ (7, [some (.ref 45), some (.int a0), none, none, none], [], mSS M12)
  refine mRunF.sg (mSl mk_66 3 2) (g := (9, [some (.ref 45), some (.int a0), some (.int 0), none, none], [], mSS M12)) (by decide +kernel) rfl ?_
  exact Tl_addShared_9_r h
set_option maxRecDepth 100000 in
set_option maxHeartbeats 4000000 in
theorem Tl_isPeaceWithout_59_r {N d : Nat} {k2 : Int32 → Int32 → Option Int32} {k17 : Int32 → Int32 → Int32 → Option Int32} {M : mS} {x1 : Int32} {x2 : Int32} {x3 : Int32} {r : Int32} (hk2 : ∀ (x1 : Int32) (x2 : Int32), k2 x1 x2 = some r → mRunF (mCd 65) (mEE (mMet mP mTx (d + 0)) (some .boolean) (some (.int r)) M) (2, [some (.ref 45), some (.int x1), some (.int x2), none], [], mSS M)) (hk17 : ∀ (x1 : Int32) (x2 : Int32) (x3 : Int32), k17 x1 x2 x3 = some r → mRunF (mCd 65) (mEE (mMet mP mTx (d + 0)) (some .boolean) (some (.int r)) M) (17, [some (.ref 45), some (.int x1), some (.int x2), some (.int x3)], [], mSS M)) (h : Tl_isPeaceWithout_59 N k2 k17 M x1 x2 x3 = some r) : mRunF (mCd 65) (mEE (mMet mP mTx (d + 0)) (some .boolean) (some (.int r)) M) (59, [some (.ref 45), some (.int x1), some (.int x2), some (.int x3)], [], mSS M) := by
  unfold Tl_isPeaceWithout_59 at h
  refine mRunF.sg (mSl mk_65 39 2) (g := (17, [some (.ref 45), some (.int x1), some (.int x2), some (.int (x3 + 1))], [], mSS M)) (by decide +kernel) rfl ?_
  exact hk17 _ _ _ h
set_option maxRecDepth 100000 in
set_option maxHeartbeats 4000000 in
theorem Tl_isPeaceWithout_17_r {N d : Nat} {k2 : Int32 → Int32 → Option Int32} {M : mS}  {r : Int32} (hk2 : ∀ (x1 : Int32) (x2 : Int32), k2 x1 x2 = some r → mRunF (mCd 65) (mEE (mMet mP mTx (d + 0)) (some .boolean) (some (.int r)) M) (2, [some (.ref 45), some (.int x1), some (.int x2), none], [], mSS M)) : ∀ {n : Nat} {x1 : Int32} {x2 : Int32} {x3 : Int32}, Tl_isPeaceWithout_17 N k2 M n x1 x2 x3 = some r → mRunF (mCd 65) (mEE (mMet mP mTx (d + 0)) (some .boolean) (some (.int r)) M) (17, [some (.ref 45), some (.int x1), some (.int x2), some (.int x3)], [], mSS M) := by
  intro n
  induction n with
  | zero => intro x1 x2 x3 h; cases h
  | succ n ih =>
    replace ih := @ih
    intro x1 x2 x3 h
    unfold Tl_isPeaceWithout_17 at h
    refine mRunF.sg (mSl mk_65 11 4) (g := (25, [some (.ref 45), some (.int x1), some (.int x2), some (.int x3)], [.int (M.1 3 8), .int x3], mSS M)) (by decide +kernel) rfl ?_
    refine R_ige (t := 65) ⟨40, by decide +kernel⟩ (fun q => ?_) (fun q => ?_)
    · rw [if_pos q] at h
      refine mRunF.sg (mSl mk_65 41 2) (g := (2, [some (.ref 45), some (.int x1), some (.int (x2 + 1)), some (.int x3)], [], mSS M)) (by decide +kernel) rfl ?_
      refine mRunF.forget [true, true, true, false] ?_
      exact hk2 _ _ h
    · rw [if_neg q] at h
      refine mRunF.sg (mSl mk_65 16 5) (g := (33, [some (.ref 45), some (.int x1), some (.int x2), some (.int x3)], [.int ((x1 >>> (x2 &&& 31)) &&& 1)], mSS M)) (by decide +kernel) rfl ?_
      refine R_ne (t := 59) ⟨26, by decide +kernel⟩ (fun q => ?_) (fun q => ?_)
      · rw [if_pos q] at h
        refine mRunF.sg (mSl mk_65 22 5) (g := (41, [some (.ref 45), some (.int x1), some (.int x2), some (.int x3)], [.int ((x1 >>> (x3 &&& 31)) &&& 1)], mSS M)) (by decide +kernel) rfl ?_
        refine R_ne (t := 59) ⟨18, by decide +kernel⟩ (fun q => ?_) (fun q => ?_)
        · rw [if_pos q] at h
          refine mRunF.sg (mSl mk_65 28 7) (g := (53, [some (.ref 45), some (.int x1), some (.int x2), some (.int x3)], [.int ((x2 * 5) + x3), .ref 47], mSS M)) (by decide +kernel) rfl ?_
          obtain ⟨g1, h⟩ := grd_of h
          refine R_iald (by decide +kernel) rfl g1 ?_
          refine R_le (t := 59) ⟨5, by decide +kernel⟩ (fun q => ?_) (fun q => ?_)
          · rw [if_pos q] at h
            exact Tl_isPeaceWithout_59_r hk2 (fun y0 y1 y2 hh => @ih y0 y1 y2 hh) h
          · rw [if_neg q] at h
            refine mRunF.sg (mSl mk_65 37 1) (g := (58, [some (.ref 45), some (.int x1), some (.int x2), some (.int x3)], [.int 0], mSS M)) (by decide +kernel) rfl ?_
            cases h
            exact R_zret (by decide +kernel) (Or.inl rfl)
        · rw [if_neg q] at h
          exact Tl_isPeaceWithout_59_r hk2 (fun y0 y1 y2 hh => @ih y0 y1 y2 hh) h
      · rw [if_neg q] at h
        exact Tl_isPeaceWithout_59_r hk2 (fun y0 y1 y2 hh => @ih y0 y1 y2 hh) h
set_option maxRecDepth 100000 in
set_option maxHeartbeats 4000000 in
theorem Tl_isPeaceWithout_2_r {N d : Nat}  {M : mS}  {r : Int32} : ∀ {n : Nat} {x1 : Int32} {x2 : Int32}, Tl_isPeaceWithout_2 N M n x1 x2 = some r → mRunF (mCd 65) (mEE (mMet mP mTx (d + 0)) (some .boolean) (some (.int r)) M) (2, [some (.ref 45), some (.int x1), some (.int x2), none], [], mSS M) := by
  intro n
  induction n with
  | zero => intro x1 x2 h; cases h
  | succ n ih =>
    replace ih := @ih
    intro x1 x2 h
    unfold Tl_isPeaceWithout_2 at h
    refine mRunF.sg (mSl mk_65 2 4) (g := (10, [some (.ref 45), some (.int x1), some (.int x2), none], [.int (M.1 3 8), .int x2], mSS M)) (by decide +kernel) rfl ?_
    refine R_ige (t := 71) ⟨61, by decide +kernel⟩ (fun q => ?_) (fun q => ?_)
    · rw [if_pos q] at h
      refine mRunF.sg (mSl mk_65 43 1) (g := (72, [some (.ref 45), some (.int x1), some (.int x2), none], [.int 1], mSS M)) (by decide +kernel) rfl ?_
      cases h
      exact R_zret (by decide +kernel) (Or.inr rfl)
    · rw [if_neg q] at h
      refine mRunF.sg (mSl mk_65 7 4) (g := (17, [some (.ref 45), some (.int x1), some (.int x2), some (.int (x2 + 1))], [], mSS M)) (by decide +kernel) rfl ?_
      obtain ⟨v2, hv, h⟩ := nxt_ex h
      rw [← hv]
      clear hv
      exact Tl_isPeaceWithout_17_r (fun y0 y1 hh => @ih y0 y1 hh) h
set_option maxRecDepth 100000 in
set_option maxHeartbeats 4000000 in
theorem Tl_isPeaceWithout_r (N : Nat) (a0 : Int32) (M : mS) {r : Int32} (d : Nat) (h : Tl_isPeaceWithout N a0 M = some r) : mMet mP mTx (d + 1) 65 [.ref 45, .int a0] (mSS M) (some (.int r)) (mSS M) := by
  refine mMet_i ⟨Nat.le_refl _, Nat.le_refl _, Nat.le_of_ble_eq_true rfl⟩ ?_
  unfold Tl_isPeaceWithout at h
  show mRunF (mCd 65) (mEE (mMet mP mTx (d + 0)) (some .boolean) (some (.int r)) M) (0, [some (.ref 45), some (.int a0), none, none], [], mSS M)
  refine mRunF.sg (mSl mk_65 0 2) (g := (2, [some (.ref 45), some (.int a0), some (.int 0), none], [], mSS M)) (by decide +kernel) rfl ?_
  exact Tl_isPeaceWithout_2_r h
set_option maxRecDepth 100000 in
set_option maxHeartbeats 4000000 in
theorem Tl_fewestAway_53_r {N d : Nat} {k19 : Int32 → Int32 → mS → Option (Int32 × mS)} {M : mS} {x2 : Int32} {x3 : Int32} {r : Int32} {M' : mS} (hk19 : ∀ (x2 : Int32) (x3 : Int32) (M : mS), k19 x2 x3 M = some (r, M') → mRunF (mCd 64) (mEE (mMet mP mTx (d + 5)) (some .int) (some (.int r)) M') (19, [some (.ref 45), none, some (.int x2), some (.int x3)], [], mSS M)) (h : Tl_fewestAway_53 N k19 x2 x3 M = some (r, M')) : mRunF (mCd 64) (mEE (mMet mP mTx (d + 5)) (some .int) (some (.int r)) M') (53, [some (.ref 45), none, some (.int x2), some (.int x3)], [], mSS M) := by
  unfold Tl_fewestAway_53 at h
  refine mRunF.sg (mSl mk_64 31 2) (g := (19, [some (.ref 45), none, some (.int x2), some (.int (x3 + 1))], [], mSS M)) (by decide +kernel) rfl ?_
  exact hk19 _ _ _ h
set_option maxRecDepth 100000 in
set_option maxHeartbeats 4000000 in
theorem Tl_fewestAway_19_r {N d : Nat}   {r : Int32} {M' : mS} : ∀ {n : Nat} {x2 : Int32} {x3 : Int32} {M : mS}, Tl_fewestAway_19 N n x2 x3 M = some (r, M') → mRunF (mCd 64) (mEE (mMet mP mTx (d + 5)) (some .int) (some (.int r)) M') (19, [some (.ref 45), none, some (.int x2), some (.int x3)], [], mSS M) := by
  intro n
  induction n with
  | zero => intro x2 x3 M h; cases h
  | succ n ih =>
    replace ih := @ih
    intro x2 x3 M h
    unfold Tl_fewestAway_19 at h
    refine mRunF.sg (mSl mk_64 13 6) (g := (29, [some (.ref 45), none, some (.int x2), some (.int x3)], [.int ((1 : Int32) <<< ((M.1 3 8) &&& 31)), .int x3], mSS M)) (by decide +kernel) rfl ?_
    refine R_ige (t := 59) ⟨30, by decide +kernel⟩ (fun q => ?_) (fun q => ?_)
    · rw [if_pos q] at h
      refine mRunF.sg (mSl mk_64 33 1) (g := (60, [some (.ref 45), none, some (.int x2), some (.int x3)], [.int x2], mSS M)) (by decide +kernel) rfl ?_
      cases h
      exact R_iret (by decide +kernel)
    · rw [if_neg q] at h
      refine mRunF.sg (mSl mk_64 20 1) (g := (33, [some (.ref 45), none, some (.int x2), some (.int x3)], [.int x3], mSS M)) (by decide +kernel) rfl ?_
      refine R_callS (mi := 308) (na := 1) (as := [.int x3]) (r := []) (rv := some (.int (Jl_bitCount x3 M))) (σ1 := mSS M) ⟨56, by decide +kernel⟩ rfl rfl rfl (Jl_bitCount_r x3 M (d + 4)) ?_
      show mRunF _ _ (36, [some (.ref 45), none, some (.int x2), some (.int x3)], [.int (Jl_bitCount x3 M)], mSS M)
      refine mRunF.sg (mSl mk_64 22 1) (g := (37, [some (.ref 45), none, some (.int x2), some (.int x3)], [.int x2, .int (Jl_bitCount x3 M)], mSS M)) (by decide +kernel) rfl ?_
      refine R_callS (mi := 308) (na := 1) (as := [.int x2]) (r := [.int (Jl_bitCount x3 M)]) (rv := some (.int (Jl_bitCount x2 M))) (σ1 := mSS M) ⟨56, by decide +kernel⟩ rfl rfl rfl (Jl_bitCount_r x2 M (d + 4)) ?_
      show mRunF _ _ (40, [some (.ref 45), none, some (.int x2), some (.int x3)], [.int (Jl_bitCount x2 M), .int (Jl_bitCount x3 M)], mSS M)
      refine R_ige (t := 53) ⟨13, by decide +kernel⟩ (fun q => ?_) (fun q => ?_)
      · rw [if_pos q] at h
        exact Tl_fewestAway_53_r (fun y0 y1 y2 hh => @ih y0 y1 y2 hh) h
      · rw [if_neg q] at h
        refine mRunF.sg (mSl mk_64 25 2) (g := (45, [some (.ref 45), none, some (.int x2), some (.int x3)], [.int x3, .ref 45], mSS M)) (by decide +kernel) rfl ?_
        obtain ⟨r2, q1, h⟩ := bR_of h
        refine R_callV (mi := 65) (na := 2) (ci := 7) (i := 45) (as := [.int x3]) (r := []) (rv := some (.int r2)) (σ1 := mSS M) ⟨96, by decide +kernel⟩ rfl rfl rfl rfl (Tl_isPeaceWithout_r N x3 M (d + 4) q1) ?_
        have b3 := mBool rfl (Tl_isPeaceWithout_r N x3 M (d + 4) q1)
        show mRunF _ _ (48, [some (.ref 45), none, some (.int x2), some (.int x3)], [.int r2], mSS M)
        refine R_eq (t := 53) ⟨5, by decide +kernel⟩ (fun q => ?_) (fun q => ?_)
        · rw [if_pos q] at h
          exact Tl_fewestAway_53_r (fun y0 y1 y2 hh => @ih y0 y1 y2 hh) h
        · rw [if_neg q] at h
          refine mRunF.sg (mSl mk_64 29 2) (g := (53, [some (.ref 45), none, some (.int x3), some (.int x3)], [], mSS M)) (by decide +kernel) rfl ?_
          exact Tl_fewestAway_53_r (fun y0 y1 y2 hh => @ih y0 y1 y2 hh) h
set_option maxRecDepth 100000 in
set_option maxHeartbeats 4000000 in
theorem Tl_fewestAway_r (N : Nat) (a0 : Int32) (M : mS) {r : Int32} {M' : mS} (d : Nat) (h : Tl_fewestAway N a0 M = some (r, M')) : mMet mP mTx (d + 6) 64 [.ref 45, .int a0] (mSS M) (some (.int r)) (mSS M') := by
  refine mMet_i ⟨Nat.le_refl _, Nat.le_refl _, Nat.le_of_ble_eq_true rfl⟩ ?_
  unfold Tl_fewestAway at h
  show mRunF (mCd 64) (mEE (mMet mP mTx (d + 5)) (some .int) (some (.int r)) M') (0, [some (.ref 45), some (.int a0), none, none], [], mSS M)
  refine mRunF.sg (mSl mk_64 0 2) (g := (2, [some (.ref 45), some (.int a0), none, none], [.int a0, .ref 45], mSS M)) (by decide +kernel) rfl ?_
  obtain ⟨M5, q4, h⟩ := bV_of h
  refine R_callV (mi := 66) (na := 2) (ci := 7) (i := 45) (as := [.int a0]) (r := []) (rv := none) (σ1 := mSS M5) ⟨90, by decide +kernel⟩ rfl rfl rfl rfl (Tl_addShared_r N a0 M (d + 0) q4) ?_
  show mRunF _ _ (5, [some (.ref 45), some (.int a0), none, none], [], mSS M5)
  refine mRunF.sg (mSl mk_64 3 8) (g := (17, [some (.ref 45), some (.int a0), some (.int (((1 : Int32) <<< ((M5.1 3 8) &&& 31)) - 1)), none], [], mSS M5)) (by decide +kernel) rfl ?_
  obtain ⟨v6, hv, h⟩ := nxt_ex h
  rw [← hv]
  clear hv
  refine mRunF.sg (mSl mk_64 11 2) (g := (19, [some (.ref 45), some (.int a0), some (.int v6), some (.int 0)], [], mSS M5)) (by decide +kernel) rfl ?_
  refine mRunF.forget [true, false, true, true] ?_
  exact Tl_fewestAway_19_r h
set_option maxRecDepth 100000 in
set_option maxHeartbeats 4000000 in
theorem Md_peace_20_r {N d : Nat}  {M : mS} {x1 : Int32} {x2 : Int32} {r : Int32} {M' : mS} (h : Md_peace_20 N x1 x2 M = some (r, M')) : mRunF (mCd 132) (mEE (mMet mP mTx (d + 6)) (some .int) (some (.int r)) M') (20, [some (.ref 0), some (.int x1), some (.int x2), none], [], mSS M) := by
  unfold Md_peace_20 at h
  refine mRunF.sg (mSl mk_132 11 4) (g := (28, [some (.ref 0), some (.int x1), some (.int x2), none], [.ref 34, .ref 39], mSS M)) (by decide +kernel) rfl ?_
  obtain ⟨M2, q1, h⟩ := bV_of h
  refine R_callV (mi := 89) (na := 2) (ci := 10) (i := 39) (as := [.ref 34]) (r := []) (rv := none) (σ1 := mSS M2) ⟨128, by decide +kernel⟩ rfl rfl rfl rfl (Wk_begin_r N M (d + 5) q1) ?_
  show mRunF _ _ (31, [some (.ref 0), some (.int x1), some (.int x2), none], [], mSS M2)
  refine mRunF.sg (mSl mk_132 16 3) (g := (36, [some (.ref 0), some (.int x1), some (.int x2), none], [.int x1, .ref 45], mSS M2)) (by decide +kernel) rfl ?_
  obtain ⟨r5, M4, q3, h⟩ := bW_of h
  refine R_callV (mi := 64) (na := 2) (ci := 7) (i := 45) (as := [.int x1]) (r := []) (rv := some (.int r5)) (σ1 := mSS M4) ⟨258, by decide +kernel⟩ rfl rfl rfl rfl (Tl_fewestAway_r N x1 M2 (d + 0) q3) ?_
  show mRunF _ _ (39, [some (.ref 0), some (.int x1), some (.int x2), none], [.int r5], mSS M4)
  refine mRunF.sg (mSl mk_132 20 2) (g := (41, [some (.ref 0), some (.int x1), some (.int x2), some (.int r5)], [.int x2], mSS M4)) (by decide +kernel) rfl ?_
  refine R_ne (t := 51) ⟨10, by decide +kernel⟩ (fun q => ?_) (fun q => ?_)
  · rw [if_pos q] at h
    refine mRunF.sg (mSl mk_132 23 1) (g := (45, [some (.ref 0), some (.int x1), some (.int x2), some (.int r5)], [.int r5], mSS M4)) (by decide +kernel) rfl ?_
    refine R_callS (mi := 308) (na := 1) (as := [.int r5]) (r := []) (rv := some (.int (Jl_bitCount r5 M4))) (σ1 := mSS M4) ⟨214, by decide +kernel⟩ rfl rfl rfl (Jl_bitCount_r r5 M4 (d + 5)) ?_
    show mRunF _ _ (48, [some (.ref 0), some (.int x1), some (.int x2), some (.int r5)], [.int (Jl_bitCount r5 M4)], mSS M4)
    refine mRunF.sg (mSl mk_132 25 1) (g := (52, [some (.ref 0), some (.int x1), some (.int x2), some (.int r5)], [.int (Jl_bitCount r5 M4)], mSS M4)) (by decide +kernel) rfl ?_
    cases h
    exact R_iret (by decide +kernel)
  · rw [if_neg q] at h
    refine mRunF.sg (mSl mk_132 26 1) (g := (52, [some (.ref 0), some (.int x1), some (.int x2), some (.int r5)], [.int r5], mSS M4)) (by decide +kernel) rfl ?_
    cases h
    exact R_iret (by decide +kernel)
set_option maxRecDepth 100000 in
set_option maxHeartbeats 4000000 in
theorem Md_peace_r (N : Nat) (a0 : Int32) (a1 : Int32) (M : mS) {r : Int32} {M' : mS} (d : Nat) (h : Md_peace N a0 a1 M = some (r, M')) : mMet mP mTx (d + 7) 132 [.ref 0, .int a0, .int a1] (mSS M) (some (.int r)) (mSS M') := by
  refine mMet_i ⟨Nat.le_refl _, Nat.le_refl _, Nat.le_of_ble_eq_true rfl⟩ ?_
  unfold Md_peace at h
  show mRunF (mCd 132) (mEE (mMet mP mTx (d + 6)) (some .int) (some (.int r)) M') (0, [some (.ref 0), some (.int a0), some (.int a1), none], [], mSS M)
  refine mRunF.sg (mSl mk_132 0 2) (g := (3, [some (.ref 0), some (.int a0), some (.int a1), none], [.int 60, .int a0], mSS M)) (by decide +kernel) rfl ?_
  refine R_callS (mi := 165) (na := 2) (as := [.int a0, .int 60]) (r := []) (rv := some (.int (Md_isWithin a0 60 M))) (σ1 := mSS M) ⟨179, by decide +kernel⟩ rfl rfl rfl (Md_isWithin_r a0 60 M (d + 5)) ?_
  have b6 := mBool rfl (Md_isWithin_r a0 60 M (d + 5))
  show mRunF _ _ (6, [some (.ref 0), some (.int a0), some (.int a1), none], [.int (Md_isWithin a0 60 M)], mSS M)
  refine R_eq (t := 18) ⟨12, by decide +kernel⟩ (fun q => ?_) (fun q => ?_)
  · rw [if_pos q] at h
    refine mRunF.sg (mSl mk_132 9 1) (g := (19, [some (.ref 0), some (.int a0), some (.int a1), none], [.int (-1)], mSS M)) (by decide +kernel) rfl ?_
    cases h
    exact R_iret (by decide +kernel)
  · rw [if_neg q] at h
    refine mRunF.sg (mSl mk_132 4 1) (g := (10, [some (.ref 0), some (.int a0), some (.int a1), none], [.int a1], mSS M)) (by decide +kernel) rfl ?_
    refine R_eq (t := 20) ⟨10, by decide +kernel⟩ (fun q => ?_) (fun q => ?_)
    · rw [if_pos q] at h
      exact Md_peace_20_r h
    · rw [if_neg q] at h
      refine mRunF.sg (mSl mk_132 6 2) (g := (15, [some (.ref 0), some (.int a0), some (.int a1), none], [.int 1, .int a1], mSS M)) (by decide +kernel) rfl ?_
      refine R_ieq (t := 20) ⟨5, by decide +kernel⟩ (fun q => ?_) (fun q => ?_)
      · rw [if_pos q] at h
        exact Md_peace_20_r h
      · rw [if_neg q] at h
        refine mRunF.sg (mSl mk_132 9 1) (g := (19, [some (.ref 0), some (.int a0), some (.int a1), none], [.int (-1)], mSS M)) (by decide +kernel) rfl ?_
        cases h
        exact R_iret (by decide +kernel)
set_option maxRecDepth 100000 in
set_option maxHeartbeats 4000000 in
theorem Tl_clear_s1_2_r {N d : Nat}   {M' : mS} : ∀ {n : Nat} {x1 : Int32} {M : mS}, Tl_clear_s1_2 N n x1 M = some M' → mRunF (mCd 69) (mEE (mMet mP mTx (d + 0)) (none) none M') (2, [some (.ref 48), some (.int x1)], [], mSS M) := by
  intro n
  induction n with
  | zero => intro x1 M h; cases h
  | succ n ih =>
    replace ih := @ih
    intro x1 M h
    unfold Tl_clear_s1_2 at h
    refine mRunF.sg (mSl mk_69 2 3) (g := (5, [some (.ref 48), some (.int x1)], [.int (Int32.ofNat 24), .int x1], mSS M)) (by decide +kernel) rfl ?_
    refine R_ige (t := 18) ⟨13, by decide +kernel⟩ (fun q => ?_) (fun q => ?_)
    · rw [if_pos q] at h
      cases h
      exact R_vret (by decide +kernel)
    · rw [if_neg q] at h
      refine mRunF.sg (mSl mk_69 6 3) (g := (11, [some (.ref 48), some (.int x1)], [.int 0, .int x1, .ref 48], mSS M)) (by decide +kernel) rfl ?_
      obtain ⟨g1, h⟩ := grd_of h
      refine R_iast (by decide +kernel) rfl g1 ?_
      obtain ⟨M2, hv, h⟩ := nxt_ex h
      rw [← hv]
      clear hv
      refine mRunF.sg (mSl mk_69 10 2) (g := (2, [some (.ref 48), some (.int (x1 + 1))], [], mSS M2)) (by decide +kernel) rfl ?_
      exact @ih _ _ h
set_option maxRecDepth 100000 in
set_option maxHeartbeats 4000000 in
theorem Tl_clear_s1_r (N : Nat)  (M : mS) {M' : mS} (d : Nat) (h : Tl_clear_s1 N M = some M') : mMet mP mTx (d + 1) 69 [.ref 48] (mSS M) none (mSS M') := by
  refine mMet_i ⟨Nat.le_refl _, Nat.le_refl _, Nat.le_of_ble_eq_true rfl⟩ ?_
  unfold Tl_clear_s1 at h
  show mRunF (mCd 69) (mEE (mMet mP mTx (d + 0)) (none) none M') (0, [some (.ref 48), none], [], mSS M)
  refine mRunF.sg (mSl mk_69 0 2) (g := (2, [some (.ref 48), some (.int 0)], [], mSS M)) (by decide +kernel) rfl ?_
  exact Tl_clear_s1_2_r h
set_option maxRecDepth 100000 in
set_option maxHeartbeats 4000000 in
theorem Tl_busiestHour_24_r {N d : Nat} {k9 : Int32 → Int32 → mS → Option (Int32 × mS)}  {r : Int32} {M' : mS} (hk9 : ∀ (x1 : Int32) (x2 : Int32) (M : mS), k9 x1 x2 M = some (r, M') → mRunF (mCd 63) (mEE (mMet mP mTx (d + 4)) (some .int) (some (.int r)) M') (9, [some (.ref 45), some (.int x1), some (.int x2), none], [], mSS M)) : ∀ {n : Nat} {x1 : Int32} {x2 : Int32} {x3 : Int32} {M : mS}, Tl_busiestHour_24 N k9 n x1 x2 x3 M = some (r, M') → mRunF (mCd 63) (mEE (mMet mP mTx (d + 4)) (some .int) (some (.int r)) M') (24, [some (.ref 45), some (.int x1), some (.int x2), some (.int x3)], [], mSS M) := by
  intro n
  induction n with
  | zero => intro x1 x2 x3 M h; cases h
  | succ n ih =>
    replace ih := @ih
    intro x1 x2 x3 M h
    unfold Tl_busiestHour_24 at h
    refine mRunF.sg (mSl mk_63 14 4) (g := (32, [some (.ref 45), some (.int x1), some (.int x2), some (.int x3)], [.int (M.1 3 6), .int x3], mSS M)) (by decide +kernel) rfl ?_
    refine R_ige (t := 61) ⟨29, by decide +kernel⟩ (fun q => ?_) (fun q => ?_)
    · rw [if_pos q] at h
      refine mRunF.sg (mSl mk_63 35 2) (g := (65, [some (.ref 45), some (.int x1), some (.int x2), some (.int x3)], [.ref 39], mSS M)) (by decide +kernel) rfl ?_
      obtain ⟨M2, q1, h⟩ := bV_of h
      refine R_callV (mi := 92) (na := 1) (ci := 10) (i := 39) (as := []) (r := []) (rv := none) (σ1 := mSS M2) ⟨41, by decide +kernel⟩ rfl rfl rfl rfl (Wk_pass_r N M (d + 2) q1) ?_
      show mRunF _ _ (68, [some (.ref 45), some (.int x1), some (.int x2), some (.int x3)], [], mSS M2)
      refine mRunF.sg (mSl mk_63 38 2) (g := (9, [some (.ref 45), some (.int x1), some (.int (x2 + 1)), some (.int x3)], [], mSS M2)) (by decide +kernel) rfl ?_
      refine mRunF.forget [true, true, true, false] ?_
      exact hk9 _ _ _ h
    · rw [if_neg q] at h
      refine mRunF.sg (mSl mk_63 19 4) (g := (41, [some (.ref 45), some (.int x1), some (.int x2), some (.int x3)], [.int x3, .ref 48, .int x3, .ref 48], mSS M)) (by decide +kernel) rfl ?_
      obtain ⟨g3, h⟩ := grd_of h
      refine R_iald (by decide +kernel) rfl g3 ?_
      refine mRunF.sg (mSl mk_63 24 8) (g := (54, [some (.ref 45), some (.int x1), some (.int x2), some (.int x3)], [.int ((M.1 48 x3.toNatClampNeg) + (((M.1 39 3) >>> (x3 &&& 31)) &&& 1)), .int x3, .ref 48], mSS M)) (by decide +kernel) rfl ?_
      obtain ⟨g4, h⟩ := grd_of h
      refine R_iast (by decide +kernel) rfl g4 ?_
      obtain ⟨M5, hv, h⟩ := nxt_ex h
      rw [← hv]
      clear hv
      refine mRunF.sg (mSl mk_63 33 2) (g := (24, [some (.ref 45), some (.int x1), some (.int x2), some (.int (x3 + 1))], [], mSS M5)) (by decide +kernel) rfl ?_
      exact @ih _ _ _ _ h
set_option maxRecDepth 100000 in
set_option maxHeartbeats 4000000 in
theorem Tl_busiestHour_106_r {N d : Nat} {k78 : Int32 → Int32 → mS → Option (Int32 × mS)} {M : mS} {x2 : Int32} {x3 : Int32} {r : Int32} {M' : mS} (hk78 : ∀ (x2 : Int32) (x3 : Int32) (M : mS), k78 x2 x3 M = some (r, M') → mRunF (mCd 63) (mEE (mMet mP mTx (d + 4)) (some .int) (some (.int r)) M') (78, [some (.ref 45), none, some (.int x2), some (.int x3)], [], mSS M)) (h : Tl_busiestHour_106 N k78 x2 x3 M = some (r, M')) : mRunF (mCd 63) (mEE (mMet mP mTx (d + 4)) (some .int) (some (.int r)) M') (106, [some (.ref 45), none, some (.int x2), some (.int x3)], [], mSS M) := by
  unfold Tl_busiestHour_106 at h
  refine mRunF.sg (mSl mk_63 60 2) (g := (78, [some (.ref 45), none, some (.int x2), some (.int (x3 + 1))], [], mSS M)) (by decide +kernel) rfl ?_
  exact hk78 _ _ _ h
set_option maxRecDepth 100000 in
set_option maxHeartbeats 4000000 in
theorem Tl_busiestHour_78_r {N d : Nat}   {r : Int32} {M' : mS} : ∀ {n : Nat} {x2 : Int32} {x3 : Int32} {M : mS}, Tl_busiestHour_78 N n x2 x3 M = some (r, M') → mRunF (mCd 63) (mEE (mMet mP mTx (d + 4)) (some .int) (some (.int r)) M') (78, [some (.ref 45), none, some (.int x2), some (.int x3)], [], mSS M) := by
  intro n
  induction n with
  | zero => intro x2 x3 M h; cases h
  | succ n ih =>
    replace ih := @ih
    intro x2 x3 M h
    unfold Tl_busiestHour_78 at h
    refine mRunF.sg (mSl mk_63 44 4) (g := (86, [some (.ref 45), none, some (.int x2), some (.int x3)], [.int (M.1 3 6), .int x3], mSS M)) (by decide +kernel) rfl ?_
    refine R_ige (t := 112) ⟨26, by decide +kernel⟩ (fun q => ?_) (fun q => ?_)
    · rw [if_pos q] at h
      refine mRunF.sg (mSl mk_63 62 4) (g := (118, [some (.ref 45), none, some (.int x2), some (.int x3)], [.int x2, .ref 48, .ref 45], mSS M)) (by decide +kernel) rfl ?_
      obtain ⟨g6, h⟩ := grd_of h
      refine R_iald (by decide +kernel) rfl g6 ?_
      refine mRunF.sg (mSl mk_63 67 1) (g := (122, [some (.ref 45), none, some (.int x2), some (.int x3)], [], mSS (mWI M 45 0 (M.1 48 x2.toNatClampNeg)))) (by decide +kernel) rfl ?_
      obtain ⟨M7, hv, h⟩ := nxt_ex h
      rw [← hv]
      clear hv
      refine mRunF.sg (mSl mk_63 68 1) (g := (123, [some (.ref 45), none, some (.int x2), some (.int x3)], [.int x2], mSS M7)) (by decide +kernel) rfl ?_
      cases h
      exact R_iret (by decide +kernel)
    · rw [if_neg q] at h
      refine mRunF.sg (mSl mk_63 49 3) (g := (94, [some (.ref 45), none, some (.int x2), some (.int x3)], [.int x3, .ref 48], mSS M)) (by decide +kernel) rfl ?_
      obtain ⟨g8, h⟩ := grd_of h
      refine R_iald (by decide +kernel) rfl g8 ?_
      refine mRunF.sg (mSl mk_63 53 3) (g := (100, [some (.ref 45), none, some (.int x2), some (.int x3)], [.int x2, .ref 48, .int (M.1 48 x3.toNatClampNeg)], mSS M)) (by decide +kernel) rfl ?_
      obtain ⟨g9, h⟩ := grd_of h
      refine R_iald (by decide +kernel) rfl g9 ?_
      refine R_ile (t := 106) ⟨5, by decide +kernel⟩ (fun q => ?_) (fun q => ?_)
      · rw [if_pos q] at h
        exact Tl_busiestHour_106_r (fun y0 y1 y2 hh => @ih y0 y1 y2 hh) h
      · rw [if_neg q] at h
        refine mRunF.sg (mSl mk_63 58 2) (g := (106, [some (.ref 45), none, some (.int x3), some (.int x3)], [], mSS M)) (by decide +kernel) rfl ?_
        exact Tl_busiestHour_106_r (fun y0 y1 y2 hh => @ih y0 y1 y2 hh) h
set_option maxRecDepth 100000 in
set_option maxHeartbeats 4000000 in
theorem Tl_busiestHour_9_r {N d : Nat}   {r : Int32} {M' : mS} : ∀ {n : Nat} {x1 : Int32} {x2 : Int32} {M : mS}, Tl_busiestHour_9 N n x1 x2 M = some (r, M') → mRunF (mCd 63) (mEE (mMet mP mTx (d + 4)) (some .int) (some (.int r)) M') (9, [some (.ref 45), some (.int x1), some (.int x2), none], [], mSS M) := by
  intro n
  induction n with
  | zero => intro x1 x2 M h; cases h
  | succ n ih =>
    replace ih := @ih
    intro x1 x2 M h
    unfold Tl_busiestHour_9 at h
    refine mRunF.sg (mSl mk_63 5 2) (g := (11, [some (.ref 45), some (.int x1), some (.int x2), none], [.int x1, .int x2], mSS M)) (by decide +kernel) rfl ?_
    refine R_ige (t := 74) ⟨63, by decide +kernel⟩ (fun q => ?_) (fun q => ?_)
    · rw [if_pos q] at h
      refine mRunF.sg (mSl mk_63 40 4) (g := (78, [some (.ref 45), some (.int x1), some (.int 0), some (.int 1)], [], mSS M)) (by decide +kernel) rfl ?_
      refine mRunF.forget [true, false, true, true] ?_
      exact Tl_busiestHour_78_r h
    · rw [if_neg q] at h
      refine mRunF.sg (mSl mk_63 8 3) (g := (19, [some (.ref 45), some (.int x1), some (.int x2), none], [.int (-1), .ref 39], mSS M)) (by decide +kernel) rfl ?_
      obtain ⟨M11, q10, h⟩ := bV_of h
      refine R_callV (mi := 90) (na := 2) (ci := 10) (i := 39) (as := [.int (-1)]) (r := []) (rv := none) (σ1 := mSS M11) ⟨32, by decide +kernel⟩ rfl rfl rfl rfl (Wk_see_r N (-1) M (d + 0) q10) ?_
      show mRunF _ _ (22, [some (.ref 45), some (.int x1), some (.int x2), none], [], mSS M11)
      refine mRunF.sg (mSl mk_63 12 2) (g := (24, [some (.ref 45), some (.int x1), some (.int x2), some (.int 0)], [], mSS M11)) (by decide +kernel) rfl ?_
      exact Tl_busiestHour_24_r (fun y0 y1 y2 hh => @ih y0 y1 y2 hh) h
set_option maxRecDepth 100000 in
set_option maxHeartbeats 4000000 in
theorem Tl_busiestHour_r (N : Nat) (a0 : Int32) (M : mS) {r : Int32} {M' : mS} (d : Nat) (h : Tl_busiestHour N a0 M = some (r, M')) : mMet mP mTx (d + 5) 63 [.ref 45, .int a0] (mSS M) (some (.int r)) (mSS M') := by
  refine mMet_i ⟨Nat.le_refl _, Nat.le_refl _, Nat.le_of_ble_eq_true rfl⟩ ?_
  unfold Tl_busiestHour at h
  show mRunF (mCd 63) (mEE (mMet mP mTx (d + 4)) (some .int) (some (.int r)) M') (0, [some (.ref 45), some (.int a0), none, none], [], mSS M)
  refine mRunF.sg (mSl mk_63 0 2) (g := (4, [some (.ref 45), some (.int a0), none, none], [.ref 48], mSS M)) (by decide +kernel) rfl ?_
  obtain ⟨M13, q12, h⟩ := bV_of h
  refine R_callS (mi := 69) (na := 1) (as := [.ref 48]) (r := []) (rv := none) (σ1 := mSS M13) ⟨84, by decide +kernel⟩ rfl rfl rfl (Tl_clear_s1_r N M (d + 3) q12) ?_
  show mRunF _ _ (7, [some (.ref 45), some (.int a0), none, none], [], mSS M13)
  refine mRunF.sg (mSl mk_63 3 2) (g := (9, [some (.ref 45), some (.int a0), some (.int 0), none], [], mSS M13)) (by decide +kernel) rfl ?_
  exact Tl_busiestHour_9_r h
set_option maxRecDepth 100000 in
set_option maxHeartbeats 4000000 in
theorem Md_favourite_20_r {N d : Nat}  {M : mS} {x1 : Int32} {x2 : Int32} {r : Int32} {M' : mS} (h : Md_favourite_20 N x1 x2 M = some (r, M')) : mRunF (mCd 133) (mEE (mMet mP mTx (d + 5)) (some .int) (some (.int r)) M') (20, [some (.ref 0), some (.int x1), some (.int x2), none], [], mSS M) := by
  unfold Md_favourite_20 at h
  refine mRunF.sg (mSl mk_133 11 4) (g := (28, [some (.ref 0), some (.int x1), some (.int x2), none], [.ref 34, .ref 39], mSS M)) (by decide +kernel) rfl ?_
  obtain ⟨M2, q1, h⟩ := bV_of h
  refine R_callV (mi := 89) (na := 2) (ci := 10) (i := 39) (as := [.ref 34]) (r := []) (rv := none) (σ1 := mSS M2) ⟨128, by decide +kernel⟩ rfl rfl rfl rfl (Wk_begin_r N M (d + 4) q1) ?_
  show mRunF _ _ (31, [some (.ref 0), some (.int x1), some (.int x2), none], [], mSS M2)
  refine mRunF.sg (mSl mk_133 16 3) (g := (36, [some (.ref 0), some (.int x1), some (.int x2), none], [.int x1, .ref 45], mSS M2)) (by decide +kernel) rfl ?_
  obtain ⟨r5, M4, q3, h⟩ := bW_of h
  refine R_callV (mi := 63) (na := 2) (ci := 7) (i := 45) (as := [.int x1]) (r := []) (rv := some (.int r5)) (σ1 := mSS M4) ⟨261, by decide +kernel⟩ rfl rfl rfl rfl (Tl_busiestHour_r N x1 M2 (d + 0) q3) ?_
  show mRunF _ _ (39, [some (.ref 0), some (.int x1), some (.int x2), none], [.int r5], mSS M4)
  refine mRunF.sg (mSl mk_133 20 2) (g := (41, [some (.ref 0), some (.int x1), some (.int x2), some (.int r5)], [.int x2], mSS M4)) (by decide +kernel) rfl ?_
  refine R_ne (t := 48) ⟨7, by decide +kernel⟩ (fun q => ?_) (fun q => ?_)
  · rw [if_pos q] at h
    refine mRunF.sg (mSl mk_133 23 2) (g := (55, [some (.ref 0), some (.int x1), some (.int x2), some (.int r5)], [.int r5], mSS M4)) (by decide +kernel) rfl ?_
    cases h
    exact R_iret (by decide +kernel)
  · rw [if_neg q] at h
    refine mRunF.sg (mSl mk_133 25 3) (g := (55, [some (.ref 0), some (.int x1), some (.int x2), some (.int r5)], [.int (M4.1 45 0)], mSS M4)) (by decide +kernel) rfl ?_
    cases h
    exact R_iret (by decide +kernel)
set_option maxRecDepth 100000 in
set_option maxHeartbeats 4000000 in
theorem Md_favourite_r (N : Nat) (a0 : Int32) (a1 : Int32) (M : mS) {r : Int32} {M' : mS} (d : Nat) (h : Md_favourite N a0 a1 M = some (r, M')) : mMet mP mTx (d + 6) 133 [.ref 0, .int a0, .int a1] (mSS M) (some (.int r)) (mSS M') := by
  refine mMet_i ⟨Nat.le_refl _, Nat.le_refl _, Nat.le_of_ble_eq_true rfl⟩ ?_
  unfold Md_favourite at h
  show mRunF (mCd 133) (mEE (mMet mP mTx (d + 5)) (some .int) (some (.int r)) M') (0, [some (.ref 0), some (.int a0), some (.int a1), none], [], mSS M)
  refine mRunF.sg (mSl mk_133 0 2) (g := (3, [some (.ref 0), some (.int a0), some (.int a1), none], [.int 60, .int a0], mSS M)) (by decide +kernel) rfl ?_
  refine R_callS (mi := 165) (na := 2) (as := [.int a0, .int 60]) (r := []) (rv := some (.int (Md_isWithin a0 60 M))) (σ1 := mSS M) ⟨179, by decide +kernel⟩ rfl rfl rfl (Md_isWithin_r a0 60 M (d + 4)) ?_
  have b6 := mBool rfl (Md_isWithin_r a0 60 M (d + 4))
  show mRunF _ _ (6, [some (.ref 0), some (.int a0), some (.int a1), none], [.int (Md_isWithin a0 60 M)], mSS M)
  refine R_eq (t := 18) ⟨12, by decide +kernel⟩ (fun q => ?_) (fun q => ?_)
  · rw [if_pos q] at h
    refine mRunF.sg (mSl mk_133 9 1) (g := (19, [some (.ref 0), some (.int a0), some (.int a1), none], [.int (-1)], mSS M)) (by decide +kernel) rfl ?_
    cases h
    exact R_iret (by decide +kernel)
  · rw [if_neg q] at h
    refine mRunF.sg (mSl mk_133 4 1) (g := (10, [some (.ref 0), some (.int a0), some (.int a1), none], [.int a1], mSS M)) (by decide +kernel) rfl ?_
    refine R_eq (t := 20) ⟨10, by decide +kernel⟩ (fun q => ?_) (fun q => ?_)
    · rw [if_pos q] at h
      exact Md_favourite_20_r h
    · rw [if_neg q] at h
      refine mRunF.sg (mSl mk_133 6 2) (g := (15, [some (.ref 0), some (.int a0), some (.int a1), none], [.int 1, .int a1], mSS M)) (by decide +kernel) rfl ?_
      refine R_ieq (t := 20) ⟨5, by decide +kernel⟩ (fun q => ?_) (fun q => ?_)
      · rw [if_pos q] at h
        exact Md_favourite_20_r h
      · rw [if_neg q] at h
        refine mRunF.sg (mSl mk_133 9 1) (g := (19, [some (.ref 0), some (.int a0), some (.int a1), none], [.int (-1)], mSS M)) (by decide +kernel) rfl ?_
        cases h
        exact R_iret (by decide +kernel)
set_option maxRecDepth 100000 in
set_option maxHeartbeats 4000000 in
theorem Tl_longestNight_6_r {N d : Nat}   {r : Int32} {M' : mS} : ∀ {n : Nat} {x1 : Int32} {x2 : Int32} {x3 : Int32} {x4 : Int32} {x5 : Int32} {M : mS}, Tl_longestNight_6 N n x1 x2 x3 x4 x5 M = some (r, M') → mRunF (mCd 59) (mEE (mMet mP mTx (d + 4)) (some .int) (some (.int r)) M') (6, [some (.ref 45), some (.int x1), some (.int x2), some (.int x3), some (.int x4), some (.int x5)], [], mSS M) := by
  intro n
  induction n with
  | zero => intro x1 x2 x3 x4 x5 M h; cases h
  | succ n ih =>
    replace ih := @ih
    intro x1 x2 x3 x4 x5 M h
    unfold Tl_longestNight_6 at h
    refine mRunF.sg (mSl mk_59 4 2) (g := (9, [some (.ref 45), some (.int x1), some (.int x2), some (.int x3), some (.int x4), some (.int x5)], [.int x3, .int x5], mSS M)) (by decide +kernel) rfl ?_
    refine R_ige (t := 49) ⟨40, by decide +kernel⟩ (fun q => ?_) (fun q => ?_)
    · rw [if_pos q] at h
      refine mRunF.sg (mSl mk_59 24 1) (g := (51, [some (.ref 45), some (.int x1), some (.int x2), some (.int x3), some (.int x4), some (.int x5)], [.int x4], mSS M)) (by decide +kernel) rfl ?_
      cases h
      exact R_iret (by decide +kernel)
    · rw [if_neg q] at h
      refine mRunF.sg (mSl mk_59 7 3) (g := (17, [some (.ref 45), some (.int x1), some (.int x2), some (.int x3), some (.int x4), some (.int x5)], [.int (-1), .ref 39], mSS M)) (by decide +kernel) rfl ?_
      obtain ⟨M2, q1, h⟩ := bV_of h
      refine R_callV (mi := 90) (na := 2) (ci := 10) (i := 39) (as := [.int (-1)]) (r := []) (rv := none) (σ1 := mSS M2) ⟨32, by decide +kernel⟩ rfl rfl rfl rfl (Wk_see_r N (-1) M (d + 0) q1) ?_
      show mRunF _ _ (20, [some (.ref 45), some (.int x1), some (.int x2), some (.int x3), some (.int x4), some (.int x5)], [], mSS M2)
      refine mRunF.sg (mSl mk_59 11 5) (g := (28, [some (.ref 45), some (.int x1), some (.int x2), some (.int x3), some (.int x4), some (.int x5)], [.int x2, .int x1, .ref 39, .int x4], mSS M2)) (by decide +kernel) rfl ?_
      obtain ⟨r4, q3, h⟩ := bR_of h
      refine R_callV (mi := 95) (na := 3) (ci := 10) (i := 39) (as := [.int x1, .int x2]) (r := [.int x4]) (rv := some (.int r4)) (σ1 := mSS M2) ⟨38, by decide +kernel⟩ rfl rfl rfl rfl (Wk_shared_r N x1 x2 M2 (d + 2) q3) ?_
      show mRunF _ _ (31, [some (.ref 45), some (.int x1), some (.int x2), some (.int x3), some (.int x4), some (.int x5)], [.int r4, .int x4], mSS M2)
      refine R_max ⟨44, by decide +kernel⟩ rfl ?_
      refine mRunF.sg (mSl mk_59 18 1) (g := (36, [some (.ref 45), some (.int x1), some (.int x2), some (.int x3), some (.int (if x4 < r4 then r4 else x4)), some (.int x5)], [], mSS M2)) (by decide +kernel) rfl ?_
      obtain ⟨v5, hv, h⟩ := nxt_ex h
      rw [← hv]
      clear hv
      refine mRunF.sg (mSl mk_59 19 2) (g := (40, [some (.ref 45), some (.int x1), some (.int x2), some (.int x3), some (.int v5), some (.int x5)], [.ref 39], mSS M2)) (by decide +kernel) rfl ?_
      obtain ⟨M7, q6, h⟩ := bV_of h
      refine R_callV (mi := 92) (na := 1) (ci := 10) (i := 39) (as := []) (r := []) (rv := none) (σ1 := mSS M7) ⟨41, by decide +kernel⟩ rfl rfl rfl rfl (Wk_pass_r N M2 (d + 2) q6) ?_
      show mRunF _ _ (43, [some (.ref 45), some (.int x1), some (.int x2), some (.int x3), some (.int v5), some (.int x5)], [], mSS M7)
      refine mRunF.sg (mSl mk_59 22 2) (g := (6, [some (.ref 45), some (.int x1), some (.int x2), some (.int x3), some (.int v5), some (.int (x5 + 1))], [], mSS M7)) (by decide +kernel) rfl ?_
      exact @ih _ _ _ _ _ _ h
set_option maxRecDepth 100000 in
set_option maxHeartbeats 4000000 in
theorem Tl_longestNight_r (N : Nat) (a0 : Int32) (a1 : Int32) (a2 : Int32) (M : mS) {r : Int32} {M' : mS} (d : Nat) (h : Tl_longestNight N a0 a1 a2 M = some (r, M')) : mMet mP mTx (d + 5) 59 [.ref 45, .int a0, .int a1, .int a2] (mSS M) (some (.int r)) (mSS M') := by
  refine mMet_i ⟨Nat.le_refl _, Nat.le_refl _, Nat.le_of_ble_eq_true rfl⟩ ?_
  unfold Tl_longestNight at h
  show mRunF (mCd 59) (mEE (mMet mP mTx (d + 4)) (some .int) (some (.int r)) M') (0, [some (.ref 45), some (.int a0), some (.int a1), some (.int a2), none, none], [], mSS M)
  refine mRunF.sg (mSl mk_59 0 4) (g := (6, [some (.ref 45), some (.int a0), some (.int a1), some (.int a2), some (.int 0), some (.int 0)], [], mSS M)) (by decide +kernel) rfl ?_
  exact Tl_longestNight_6_r h
set_option maxRecDepth 100000 in
set_option maxHeartbeats 4000000 in
theorem Md_longest_r (N : Nat) (a0 : Int32) (a1 : Int32) (a2 : Int32) (M : mS) {r : Int32} {M' : mS} (d : Nat) (h : Md_longest N a0 a1 a2 M = some (r, M')) : mMet mP mTx (d + 6) 134 [.ref 0, .int a0, .int a1, .int a2] (mSS M) (some (.int r)) (mSS M') := by
  refine mMet_i ⟨Nat.le_refl _, Nat.le_refl _, Nat.le_of_ble_eq_true rfl⟩ ?_
  unfold Md_longest at h
  show mRunF (mCd 134) (mEE (mMet mP mTx (d + 5)) (some .int) (some (.int r)) M') (0, [some (.ref 0), some (.int a0), some (.int a1), some (.int a2)], [], mSS M)
  refine mRunF.sg (mSl mk_134 0 3) (g := (3, [some (.ref 0), some (.int a0), some (.int a1), some (.int a2)], [.int a1, .int a0, .ref 0], mSS M)) (by decide +kernel) rfl ?_
  refine R_callV (mi := 162) (na := 3) (ci := 11) (i := 0) (as := [.int a0, .int a1]) (r := []) (rv := some (.int (Md_areTwo a0 a1 M))) (σ1 := mSS M) ⟨164, by decide +kernel⟩ rfl rfl rfl rfl (Md_areTwo_r a0 a1 M (d + 3)) ?_
  have b1 := mBool rfl (Md_areTwo_r a0 a1 M (d + 3))
  show mRunF _ _ (6, [some (.ref 0), some (.int a0), some (.int a1), some (.int a2)], [.int (Md_areTwo a0 a1 M)], mSS M)
  refine R_eq (t := 19) ⟨13, by decide +kernel⟩ (fun q => ?_) (fun q => ?_)
  · rw [if_pos q] at h
    refine mRunF.sg (mSl mk_134 9 1) (g := (20, [some (.ref 0), some (.int a0), some (.int a1), some (.int a2)], [.int (-1)], mSS M)) (by decide +kernel) rfl ?_
    cases h
    exact R_iret (by decide +kernel)
  · rw [if_neg q] at h
    refine mRunF.sg (mSl mk_134 5 2) (g := (13, [some (.ref 0), some (.int a0), some (.int a1), some (.int a2)], [.int 200, .int a2], mSS M)) (by decide +kernel) rfl ?_
    refine R_callS (mi := 165) (na := 2) (as := [.int a2, .int 200]) (r := []) (rv := some (.int (Md_isWithin a2 200 M))) (σ1 := mSS M) ⟨179, by decide +kernel⟩ rfl rfl rfl (Md_isWithin_r a2 200 M (d + 4)) ?_
    have b2 := mBool rfl (Md_isWithin_r a2 200 M (d + 4))
    show mRunF _ _ (16, [some (.ref 0), some (.int a0), some (.int a1), some (.int a2)], [.int (Md_isWithin a2 200 M)], mSS M)
    refine R_ne (t := 21) ⟨5, by decide +kernel⟩ (fun q => ?_) (fun q => ?_)
    · rw [if_pos q] at h
      refine mRunF.sg (mSl mk_134 9 1) (g := (20, [some (.ref 0), some (.int a0), some (.int a1), some (.int a2)], [.int (-1)], mSS M)) (by decide +kernel) rfl ?_
      cases h
      exact R_iret (by decide +kernel)
    · rw [if_neg q] at h
      refine mRunF.sg (mSl mk_134 11 4) (g := (29, [some (.ref 0), some (.int a0), some (.int a1), some (.int a2)], [.ref 34, .ref 39], mSS M)) (by decide +kernel) rfl ?_
      obtain ⟨M4, q3, h⟩ := bV_of h
      refine R_callV (mi := 89) (na := 2) (ci := 10) (i := 39) (as := [.ref 34]) (r := []) (rv := none) (σ1 := mSS M4) ⟨128, by decide +kernel⟩ rfl rfl rfl rfl (Wk_begin_r N M (d + 4) q3) ?_
      show mRunF _ _ (32, [some (.ref 0), some (.int a0), some (.int a1), some (.int a2)], [], mSS M4)
      refine mRunF.sg (mSl mk_134 16 5) (g := (39, [some (.ref 0), some (.int a0), some (.int a1), some (.int a2)], [.int a2, .int a1, .int a0, .ref 45], mSS M4)) (by decide +kernel) rfl ?_
      obtain ⟨r7, M6, q5, h⟩ := bW_of h
      refine R_callV (mi := 59) (na := 4) (ci := 7) (i := 45) (as := [.int a0, .int a1, .int a2]) (r := []) (rv := some (.int r7)) (σ1 := mSS M6) ⟨264, by decide +kernel⟩ rfl rfl rfl rfl (Tl_longestNight_r N a0 a1 a2 M4 (d + 0) q5) ?_
      show mRunF _ _ (42, [some (.ref 0), some (.int a0), some (.int a1), some (.int a2)], [.int r7], mSS M6)
      cases h
      exact R_iret (by decide +kernel)
set_option maxRecDepth 100000 in
set_option maxHeartbeats 4000000 in
theorem Tl_pairFrom_s5_16_r {N d : Nat}  {M : mS} {x2 : Int32} {M' : mS} (h : Tl_pairFrom_s5_16 N x2 M = some M') : mRunF (mCd 68) (mEE (mMet mP mTx (d + 0)) (none) none M') (16, [some (.ref 45), none, some (.int x2), none], [], mSS M) := by
  unfold Tl_pairFrom_s5_16 at h
  refine mRunF.sg (mSl mk_68 8 3) (g := (21, [some (.ref 45), none, some (.int x2), none], [.int (M.1 45 0), .int x2], mSS M)) (by decide +kernel) rfl ?_
  refine R_ile (t := 43) ⟨22, by decide +kernel⟩ (fun q => ?_) (fun q => ?_)
  · rw [if_pos q] at h
    cases h
    exact R_vret (by decide +kernel)
  · rw [if_neg q] at h
    refine mRunF.sg (mSl mk_68 12 3) (g := (29, [some (.ref 45), none, some (.int x2), none], [], mSS (mWI M 45 0 x2))) (by decide +kernel) rfl ?_
    obtain ⟨M1, hv, h⟩ := nxt_ex h
    rw [← hv]
    clear hv
    refine mRunF.sg (mSl mk_68 15 7) (g := (40, [some (.ref 45), none, some (.int x2), none], [.int 5, .int 0, .ref 46, .int 0, .ref 49], mSS M1)) (by decide +kernel) rfl ?_
    refine R_copy ⟨104, by decide +kernel⟩ rfl rfl rfl ?_
    obtain ⟨M2, hv, h⟩ := nxt_ex h
    rw [← hv]
    clear hv
    cases h
    exact R_vret (by decide +kernel)
set_option maxRecDepth 100000 in
set_option maxHeartbeats 4000000 in
theorem Tl_pairFrom_s5_r (N : Nat) (a0 : Int32) (M : mS) {M' : mS} (d : Nat) (h : Tl_pairFrom_s5 N a0 M = some M') : mMet mP mTx (d + 1) 68 [.ref 45, .int 5, .int a0] (mSS M) none (mSS M') := by
  refine mMet_i ⟨Nat.le_refl _, Nat.le_refl _, Nat.le_of_ble_eq_true rfl⟩ ?_
  unfold Tl_pairFrom_s5 at h
  show mRunF (mCd 68) (mEE (mMet mP mTx (d + 0)) (none) none M') (0, [some (.ref 45), some (.int 5), some (.int a0), none], [], mSS M)
  refine mRunF.sg (mSl mk_68 0 4) (g := (8, [some (.ref 45), some (.int 5), some (.int a0), none], [.int (M.1 3 8), .int 5], mSS M)) (by decide +kernel) rfl ?_
  refine R_ige (t := 16) ⟨8, by decide +kernel⟩ (fun q => ?_) (fun q => ?_)
  · rw [if_pos q] at h
    refine mRunF.forget [true, false, true, true] ?_
    exact Tl_pairFrom_s5_16_r h
  · rw [if_neg q] at h
    refine mRunF.sg (mSl mk_68 5 2) (g := (13, [some (.ref 45), some (.int 5), some (.int a0), none], [.int 5, .int 5], mSS M)) (by decide +kernel) rfl ?_
    refine R_ilt (t := 44) ⟨31, by decide +kernel⟩ (fun q => absurd q (by decide)) (fun _ => ?_)
    refine mRunF.forget [true, false, true, true] ?_
    exact Tl_pairFrom_s5_16_r h
set_option maxRecDepth 100000 in
set_option maxHeartbeats 4000000 in
theorem Tl_pairFrom_s4_139_r {N d : Nat} {k68 : Int32 → Int32 → mS → Option mS} {M : mS} {x2 : Int32} {x3 : Int32} {M' : mS} (hk68 : ∀ (x2 : Int32) (x3 : Int32) (M : mS), k68 x2 x3 M = some M' → mRunF (mCd 68) (mEE (mMet mP mTx (d + 1)) (none) none M') (68, [some (.ref 45), some (.int 4), some (.int x2), some (.int x3)], [], mSS M)) (h : Tl_pairFrom_s4_139 N k68 x2 x3 M = some M') : mRunF (mCd 68) (mEE (mMet mP mTx (d + 1)) (none) none M') (139, [some (.ref 45), some (.int 4), some (.int x2), some (.int x3)], [], mSS M) := by
  unfold Tl_pairFrom_s4_139 at h
  refine mRunF.sg (mSl mk_68 87 2) (g := (68, [some (.ref 45), some (.int 4), some (.int x2), some (.int (x3 + 1))], [], mSS M)) (by decide +kernel) rfl ?_
  exact hk68 _ _ _ h
set_option maxRecDepth 100000 in
set_option maxHeartbeats 4000000 in
theorem Tl_pairFrom_s4_68_r {N d : Nat}   {M' : mS} : ∀ {n : Nat} {x2 : Int32} {x3 : Int32} {M : mS}, Tl_pairFrom_s4_68 N n x2 x3 M = some M' → mRunF (mCd 68) (mEE (mMet mP mTx (d + 1)) (none) none M') (68, [some (.ref 45), some (.int 4), some (.int x2), some (.int x3)], [], mSS M) := by
  intro n
  induction n with
  | zero => intro x2 x3 M h; cases h
  | succ n ih =>
    replace ih := @ih
    intro x2 x3 M h
    unfold Tl_pairFrom_s4_68 at h
    refine mRunF.sg (mSl mk_68 41 4) (g := (76, [some (.ref 45), some (.int 4), some (.int x2), some (.int x3)], [.int (M.1 3 8), .int x3], mSS M)) (by decide +kernel) rfl ?_
    refine R_ige (t := 145) ⟨69, by decide +kernel⟩ (fun q => ?_) (fun q => ?_)
    · rw [if_pos q] at h
      cases h
      exact R_vret (by decide +kernel)
    · rw [if_neg q] at h
      refine mRunF.sg (mSl mk_68 46 3) (g := (84, [some (.ref 45), some (.int 4), some (.int x2), some (.int x3)], [.int x3, .ref 49], mSS M)) (by decide +kernel) rfl ?_
      obtain ⟨g1, h⟩ := grd_of h
      refine R_iald (by decide +kernel) rfl g1 ?_
      refine mRunF.sg (mSl mk_68 50 1) (g := (87, [some (.ref 45), some (.int 4), some (.int x2), some (.int x3)], [.int (-2), .int (M.1 49 x3.toNatClampNeg)], mSS M)) (by decide +kernel) rfl ?_
      refine R_ine (t := 139) ⟨52, by decide +kernel⟩ (fun q => ?_) (fun q => ?_)
      · rw [if_pos q] at h
        refine mRunF.sg (mSl mk_68 52 4) (g := (96, [some (.ref 45), some (.int 4), some (.int x2), some (.int x3)], [.int x3, .int 4, .ref 49], mSS M)) (by decide +kernel) rfl ?_
        refine R_iast (by decide +kernel) rfl rfl ?_
        show mRunF _ _ (_, _, _, mSS (mWI M 49 4 x3))
        obtain ⟨M2, hv, h⟩ := nxt_ex h
        rw [← hv]
        clear hv
        refine mRunF.sg (mSl mk_68 57 4) (g := (103, [some (.ref 45), some (.int 4), some (.int x2), some (.int x3)], [.int 4, .int x3, .ref 49], mSS M2)) (by decide +kernel) rfl ?_
        obtain ⟨g3, h⟩ := grd_of h
        refine R_iast (by decide +kernel) rfl g3 ?_
        obtain ⟨M4, hv, h⟩ := nxt_ex h
        rw [← hv]
        clear hv
        refine mRunF.sg (mSl mk_68 62 12) (g := (118, [some (.ref 45), some (.int 4), some (.int x2), some (.int x3)], [.int ((4 * 5) + x3), .ref 47, .int x2, .int (4 + 1), .ref 45], mSS M4)) (by decide +kernel) rfl ?_
        obtain ⟨g5, h⟩ := grd_of h
        refine R_iald (by decide +kernel) rfl g5 ?_
        refine mRunF.sg (mSl mk_68 75 1) (g := (120, [some (.ref 45), some (.int 4), some (.int x2), some (.int x3)], [.int (x2 + (M4.1 47 ((4 * 5) + x3).toNatClampNeg)), .int (4 + 1), .ref 45], mSS M4)) (by decide +kernel) rfl ?_
        obtain ⟨M7, q6, h⟩ := bV_of h
        refine R_callS (mi := 68) (na := 3) (as := [.ref 45, .int (4 + 1), .int (x2 + (M4.1 47 ((4 * 5) + x3).toNatClampNeg))]) (r := []) (rv := none) (σ1 := mSS M7) ⟨100, by decide +kernel⟩ rfl rfl rfl (Tl_pairFrom_s5_r N (x2 + (M4.1 47 ((4 * 5) + x3).toNatClampNeg)) M4 (d + 0) q6) ?_
        show mRunF _ _ (123, [some (.ref 45), some (.int 4), some (.int x2), some (.int x3)], [], mSS M7)
        refine mRunF.sg (mSl mk_68 77 4) (g := (130, [some (.ref 45), some (.int 4), some (.int x2), some (.int x3)], [.int (-2), .int 4, .ref 49], mSS M7)) (by decide +kernel) rfl ?_
        refine R_iast (by decide +kernel) rfl rfl ?_
        show mRunF _ _ (_, _, _, mSS (mWI M7 49 4 (-2)))
        obtain ⟨M8, hv, h⟩ := nxt_ex h
        rw [← hv]
        clear hv
        refine mRunF.sg (mSl mk_68 82 4) (g := (138, [some (.ref 45), some (.int 4), some (.int x2), some (.int x3)], [.int (-2), .int x3, .ref 49], mSS M8)) (by decide +kernel) rfl ?_
        obtain ⟨g9, h⟩ := grd_of h
        refine R_iast (by decide +kernel) rfl g9 ?_
        obtain ⟨M10, hv, h⟩ := nxt_ex h
        rw [← hv]
        clear hv
        exact Tl_pairFrom_s4_139_r (fun y0 y1 y2 hh => @ih y0 y1 y2 hh) h
      · rw [if_neg q] at h
        exact Tl_pairFrom_s4_139_r (fun y0 y1 y2 hh => @ih y0 y1 y2 hh) h
set_option maxRecDepth 100000 in
set_option maxHeartbeats 4000000 in
theorem Tl_pairFrom_s4_r (N : Nat) (a0 : Int32) (M : mS) {M' : mS} (d : Nat) (h : Tl_pairFrom_s4 N a0 M = some M') : mMet mP mTx (d + 2) 68 [.ref 45, .int 4, .int a0] (mSS M) none (mSS M') := by
  refine mMet_i ⟨Nat.le_refl _, Nat.le_refl _, Nat.le_of_ble_eq_true rfl⟩ ?_
  unfold Tl_pairFrom_s4 at h
  show mRunF (mCd 68) (mEE (mMet mP mTx (d + 1)) (none) none M') (0, [some (.ref 45), some (.int 4), some (.int a0), none], [], mSS M)
  refine mRunF.sg (mSl mk_68 0 4) (g := (8, [some (.ref 45), some (.int 4), some (.int a0), none], [.int (M.1 3 8), .int 4], mSS M)) (by decide +kernel) rfl ?_
  refine R_ige (t := 16) ⟨8, by decide +kernel⟩ (fun q => ?_) (fun q => ?_)
  · rw [if_pos q] at h
    refine mRunF.sg (mSl mk_68 8 3) (g := (21, [some (.ref 45), some (.int 4), some (.int a0), none], [.int (M.1 45 0), .int a0], mSS M)) (by decide +kernel) rfl ?_
    refine R_ile (t := 43) ⟨22, by decide +kernel⟩ (fun q => ?_) (fun q => ?_)
    · rw [if_pos q] at h
      cases h
      exact R_vret (by decide +kernel)
    · rw [if_neg q] at h
      refine mRunF.sg (mSl mk_68 12 3) (g := (29, [some (.ref 45), some (.int 4), some (.int a0), none], [], mSS (mWI M 45 0 a0))) (by decide +kernel) rfl ?_
      obtain ⟨M11, hv, h⟩ := nxt_ex h
      rw [← hv]
      clear hv
      refine mRunF.sg (mSl mk_68 15 7) (g := (40, [some (.ref 45), some (.int 4), some (.int a0), none], [.int 5, .int 0, .ref 46, .int 0, .ref 49], mSS M11)) (by decide +kernel) rfl ?_
      refine R_copy ⟨104, by decide +kernel⟩ rfl rfl rfl ?_
      obtain ⟨M12, hv, h⟩ := nxt_ex h
      rw [← hv]
      clear hv
      cases h
      exact R_vret (by decide +kernel)
  · rw [if_neg q] at h
    refine mRunF.sg (mSl mk_68 5 2) (g := (13, [some (.ref 45), some (.int 4), some (.int a0), none], [.int 5, .int 4], mSS M)) (by decide +kernel) rfl ?_
    refine R_ilt (t := 44) ⟨31, by decide +kernel⟩ (fun _ => ?_) (fun q => absurd (by decide) q)
    refine mRunF.sg (mSl mk_68 24 5) (g := (49, [some (.ref 45), some (.int 4), some (.int a0), none], [.int a0, .int (4 + 1), .ref 45], mSS M)) (by decide +kernel) rfl ?_
    obtain ⟨M14, q13, h⟩ := bV_of h
    refine R_callS (mi := 68) (na := 3) (as := [.ref 45, .int (4 + 1), .int a0]) (r := []) (rv := none) (σ1 := mSS M14) ⟨100, by decide +kernel⟩ rfl rfl rfl (Tl_pairFrom_s5_r N a0 M (d + 0) q13) ?_
    show mRunF _ _ (52, [some (.ref 45), some (.int 4), some (.int a0), none], [], mSS M14)
    refine mRunF.sg (mSl mk_68 30 3) (g := (57, [some (.ref 45), some (.int 4), some (.int a0), none], [.int 4, .ref 49], mSS M14)) (by decide +kernel) rfl ?_
    refine R_iald (by decide +kernel) rfl rfl ?_
    show mRunF _ _ (58, [some (.ref 45), some (.int 4), some (.int a0), none], [.int (M14.1 49 4)], mSS M14)
    refine mRunF.sg (mSl mk_68 34 1) (g := (60, [some (.ref 45), some (.int 4), some (.int a0), none], [.int (-2), .int (M14.1 49 4)], mSS M14)) (by decide +kernel) rfl ?_
    refine R_ieq (t := 64) ⟨4, by decide +kernel⟩ (fun q => ?_) (fun q => ?_)
    · rw [if_pos q] at h
      refine mRunF.sg (mSl mk_68 37 4) (g := (68, [some (.ref 45), some (.int 4), some (.int a0), some (.int (4 + 1))], [], mSS M14)) (by decide +kernel) rfl ?_
      exact Tl_pairFrom_s4_68_r h
    · rw [if_neg q] at h
      cases h
      exact R_vret (by decide +kernel)
set_option maxRecDepth 100000 in
set_option maxHeartbeats 4000000 in
theorem Tl_pairFrom_s3_139_r {N d : Nat} {k68 : Int32 → Int32 → mS → Option mS} {M : mS} {x2 : Int32} {x3 : Int32} {M' : mS} (hk68 : ∀ (x2 : Int32) (x3 : Int32) (M : mS), k68 x2 x3 M = some M' → mRunF (mCd 68) (mEE (mMet mP mTx (d + 2)) (none) none M') (68, [some (.ref 45), some (.int 3), some (.int x2), some (.int x3)], [], mSS M)) (h : Tl_pairFrom_s3_139 N k68 x2 x3 M = some M') : mRunF (mCd 68) (mEE (mMet mP mTx (d + 2)) (none) none M') (139, [some (.ref 45), some (.int 3), some (.int x2), some (.int x3)], [], mSS M) := by
  unfold Tl_pairFrom_s3_139 at h
  refine mRunF.sg (mSl mk_68 87 2) (g := (68, [some (.ref 45), some (.int 3), some (.int x2), some (.int (x3 + 1))], [], mSS M)) (by decide +kernel) rfl ?_
  exact hk68 _ _ _ h
set_option maxRecDepth 100000 in
set_option maxHeartbeats 4000000 in
theorem Tl_pairFrom_s3_68_r {N d : Nat}   {M' : mS} : ∀ {n : Nat} {x2 : Int32} {x3 : Int32} {M : mS}, Tl_pairFrom_s3_68 N n x2 x3 M = some M' → mRunF (mCd 68) (mEE (mMet mP mTx (d + 2)) (none) none M') (68, [some (.ref 45), some (.int 3), some (.int x2), some (.int x3)], [], mSS M) := by
  intro n
  induction n with
  | zero => intro x2 x3 M h; cases h
  | succ n ih =>
    replace ih := @ih
    intro x2 x3 M h
    unfold Tl_pairFrom_s3_68 at h
    refine mRunF.sg (mSl mk_68 41 4) (g := (76, [some (.ref 45), some (.int 3), some (.int x2), some (.int x3)], [.int (M.1 3 8), .int x3], mSS M)) (by decide +kernel) rfl ?_
    refine R_ige (t := 145) ⟨69, by decide +kernel⟩ (fun q => ?_) (fun q => ?_)
    · rw [if_pos q] at h
      cases h
      exact R_vret (by decide +kernel)
    · rw [if_neg q] at h
      refine mRunF.sg (mSl mk_68 46 3) (g := (84, [some (.ref 45), some (.int 3), some (.int x2), some (.int x3)], [.int x3, .ref 49], mSS M)) (by decide +kernel) rfl ?_
      obtain ⟨g1, h⟩ := grd_of h
      refine R_iald (by decide +kernel) rfl g1 ?_
      refine mRunF.sg (mSl mk_68 50 1) (g := (87, [some (.ref 45), some (.int 3), some (.int x2), some (.int x3)], [.int (-2), .int (M.1 49 x3.toNatClampNeg)], mSS M)) (by decide +kernel) rfl ?_
      refine R_ine (t := 139) ⟨52, by decide +kernel⟩ (fun q => ?_) (fun q => ?_)
      · rw [if_pos q] at h
        refine mRunF.sg (mSl mk_68 52 4) (g := (96, [some (.ref 45), some (.int 3), some (.int x2), some (.int x3)], [.int x3, .int 3, .ref 49], mSS M)) (by decide +kernel) rfl ?_
        refine R_iast (by decide +kernel) rfl rfl ?_
        show mRunF _ _ (_, _, _, mSS (mWI M 49 3 x3))
        obtain ⟨M2, hv, h⟩ := nxt_ex h
        rw [← hv]
        clear hv
        refine mRunF.sg (mSl mk_68 57 4) (g := (103, [some (.ref 45), some (.int 3), some (.int x2), some (.int x3)], [.int 3, .int x3, .ref 49], mSS M2)) (by decide +kernel) rfl ?_
        obtain ⟨g3, h⟩ := grd_of h
        refine R_iast (by decide +kernel) rfl g3 ?_
        obtain ⟨M4, hv, h⟩ := nxt_ex h
        rw [← hv]
        clear hv
        refine mRunF.sg (mSl mk_68 62 12) (g := (118, [some (.ref 45), some (.int 3), some (.int x2), some (.int x3)], [.int ((3 * 5) + x3), .ref 47, .int x2, .int (3 + 1), .ref 45], mSS M4)) (by decide +kernel) rfl ?_
        obtain ⟨g5, h⟩ := grd_of h
        refine R_iald (by decide +kernel) rfl g5 ?_
        refine mRunF.sg (mSl mk_68 75 1) (g := (120, [some (.ref 45), some (.int 3), some (.int x2), some (.int x3)], [.int (x2 + (M4.1 47 ((3 * 5) + x3).toNatClampNeg)), .int (3 + 1), .ref 45], mSS M4)) (by decide +kernel) rfl ?_
        obtain ⟨M7, q6, h⟩ := bV_of h
        refine R_callS (mi := 68) (na := 3) (as := [.ref 45, .int (3 + 1), .int (x2 + (M4.1 47 ((3 * 5) + x3).toNatClampNeg))]) (r := []) (rv := none) (σ1 := mSS M7) ⟨100, by decide +kernel⟩ rfl rfl rfl (Tl_pairFrom_s4_r N (x2 + (M4.1 47 ((3 * 5) + x3).toNatClampNeg)) M4 (d + 0) q6) ?_
        show mRunF _ _ (123, [some (.ref 45), some (.int 3), some (.int x2), some (.int x3)], [], mSS M7)
        refine mRunF.sg (mSl mk_68 77 4) (g := (130, [some (.ref 45), some (.int 3), some (.int x2), some (.int x3)], [.int (-2), .int 3, .ref 49], mSS M7)) (by decide +kernel) rfl ?_
        refine R_iast (by decide +kernel) rfl rfl ?_
        show mRunF _ _ (_, _, _, mSS (mWI M7 49 3 (-2)))
        obtain ⟨M8, hv, h⟩ := nxt_ex h
        rw [← hv]
        clear hv
        refine mRunF.sg (mSl mk_68 82 4) (g := (138, [some (.ref 45), some (.int 3), some (.int x2), some (.int x3)], [.int (-2), .int x3, .ref 49], mSS M8)) (by decide +kernel) rfl ?_
        obtain ⟨g9, h⟩ := grd_of h
        refine R_iast (by decide +kernel) rfl g9 ?_
        obtain ⟨M10, hv, h⟩ := nxt_ex h
        rw [← hv]
        clear hv
        exact Tl_pairFrom_s3_139_r (fun y0 y1 y2 hh => @ih y0 y1 y2 hh) h
      · rw [if_neg q] at h
        exact Tl_pairFrom_s3_139_r (fun y0 y1 y2 hh => @ih y0 y1 y2 hh) h
set_option maxRecDepth 100000 in
set_option maxHeartbeats 4000000 in
theorem Tl_pairFrom_s3_r (N : Nat) (a0 : Int32) (M : mS) {M' : mS} (d : Nat) (h : Tl_pairFrom_s3 N a0 M = some M') : mMet mP mTx (d + 3) 68 [.ref 45, .int 3, .int a0] (mSS M) none (mSS M') := by
  refine mMet_i ⟨Nat.le_refl _, Nat.le_refl _, Nat.le_of_ble_eq_true rfl⟩ ?_
  unfold Tl_pairFrom_s3 at h
  show mRunF (mCd 68) (mEE (mMet mP mTx (d + 2)) (none) none M') (0, [some (.ref 45), some (.int 3), some (.int a0), none], [], mSS M)
  refine mRunF.sg (mSl mk_68 0 4) (g := (8, [some (.ref 45), some (.int 3), some (.int a0), none], [.int (M.1 3 8), .int 3], mSS M)) (by decide +kernel) rfl ?_
  refine R_ige (t := 16) ⟨8, by decide +kernel⟩ (fun q => ?_) (fun q => ?_)
  · rw [if_pos q] at h
    refine mRunF.sg (mSl mk_68 8 3) (g := (21, [some (.ref 45), some (.int 3), some (.int a0), none], [.int (M.1 45 0), .int a0], mSS M)) (by decide +kernel) rfl ?_
    refine R_ile (t := 43) ⟨22, by decide +kernel⟩ (fun q => ?_) (fun q => ?_)
    · rw [if_pos q] at h
      cases h
      exact R_vret (by decide +kernel)
    · rw [if_neg q] at h
      refine mRunF.sg (mSl mk_68 12 3) (g := (29, [some (.ref 45), some (.int 3), some (.int a0), none], [], mSS (mWI M 45 0 a0))) (by decide +kernel) rfl ?_
      obtain ⟨M11, hv, h⟩ := nxt_ex h
      rw [← hv]
      clear hv
      refine mRunF.sg (mSl mk_68 15 7) (g := (40, [some (.ref 45), some (.int 3), some (.int a0), none], [.int 5, .int 0, .ref 46, .int 0, .ref 49], mSS M11)) (by decide +kernel) rfl ?_
      refine R_copy ⟨104, by decide +kernel⟩ rfl rfl rfl ?_
      obtain ⟨M12, hv, h⟩ := nxt_ex h
      rw [← hv]
      clear hv
      cases h
      exact R_vret (by decide +kernel)
  · rw [if_neg q] at h
    refine mRunF.sg (mSl mk_68 5 2) (g := (13, [some (.ref 45), some (.int 3), some (.int a0), none], [.int 5, .int 3], mSS M)) (by decide +kernel) rfl ?_
    refine R_ilt (t := 44) ⟨31, by decide +kernel⟩ (fun _ => ?_) (fun q => absurd (by decide) q)
    refine mRunF.sg (mSl mk_68 24 5) (g := (49, [some (.ref 45), some (.int 3), some (.int a0), none], [.int a0, .int (3 + 1), .ref 45], mSS M)) (by decide +kernel) rfl ?_
    obtain ⟨M14, q13, h⟩ := bV_of h
    refine R_callS (mi := 68) (na := 3) (as := [.ref 45, .int (3 + 1), .int a0]) (r := []) (rv := none) (σ1 := mSS M14) ⟨100, by decide +kernel⟩ rfl rfl rfl (Tl_pairFrom_s4_r N a0 M (d + 0) q13) ?_
    show mRunF _ _ (52, [some (.ref 45), some (.int 3), some (.int a0), none], [], mSS M14)
    refine mRunF.sg (mSl mk_68 30 3) (g := (57, [some (.ref 45), some (.int 3), some (.int a0), none], [.int 3, .ref 49], mSS M14)) (by decide +kernel) rfl ?_
    refine R_iald (by decide +kernel) rfl rfl ?_
    show mRunF _ _ (58, [some (.ref 45), some (.int 3), some (.int a0), none], [.int (M14.1 49 3)], mSS M14)
    refine mRunF.sg (mSl mk_68 34 1) (g := (60, [some (.ref 45), some (.int 3), some (.int a0), none], [.int (-2), .int (M14.1 49 3)], mSS M14)) (by decide +kernel) rfl ?_
    refine R_ieq (t := 64) ⟨4, by decide +kernel⟩ (fun q => ?_) (fun q => ?_)
    · rw [if_pos q] at h
      refine mRunF.sg (mSl mk_68 37 4) (g := (68, [some (.ref 45), some (.int 3), some (.int a0), some (.int (3 + 1))], [], mSS M14)) (by decide +kernel) rfl ?_
      exact Tl_pairFrom_s3_68_r h
    · rw [if_neg q] at h
      cases h
      exact R_vret (by decide +kernel)
