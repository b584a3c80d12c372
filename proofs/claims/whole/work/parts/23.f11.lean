/-! METHODS as functions, 11: printed by program -/
set_option maxRecDepth 100000 in
set_option maxHeartbeats 4000000 in
theorem Mo_isGroup_r (N : Nat) (a0 : Int32) (M : mS) {r : Int32} (d : Nat) (h : Mo_isGroup N a0 M = some r) : mMet mP mTx (d + 2) 258 [.ref 64, .int a0] (mSS M) (some (.int r)) (mSS M) := by
  refine mMet_i ⟨Nat.le_refl _, Nat.le_refl _, Nat.le_of_ble_eq_true rfl⟩ ?_
  unfold Mo_isGroup at h
  show mRunF (mCd 258) (mEE (mMet mP mTx (d + 1)) (some .boolean) (some (.int r)) M) (0, [some (.ref 64), some (.int a0)], [], mSS M)
  refine mRunF.sg (mSl mk_258 0 1) (g := (1, [some (.ref 64), some (.int a0)], [.int a0], mSS M)) (by decide +kernel) rfl ?_
  refine R_lt (t := 31) ⟨30, by decide +kernel⟩ (fun q => ?_) (fun q => ?_)
  · rw [if_pos q] at h
    refine mRunF.sg (mSl mk_258 17 1) (g := (32, [some (.ref 64), some (.int a0)], [.int 0], mSS M)) (by decide +kernel) rfl ?_
    cases h
    exact R_zret (by decide +kernel) (Or.inl rfl)
  · rw [if_neg q] at h
    refine mRunF.sg (mSl mk_258 2 6) (g := (14, [some (.ref 64), some (.int a0)], [.int (M.1 64 18), .ref 78, .int 1, .int a0], mSS M)) (by decide +kernel) rfl ?_
    obtain ⟨g1, h⟩ := grd_of h
    refine R_iald (by decide +kernel) rfl g1 ?_
    refine mRunF.sg (mSl mk_258 9 1) (g := (16, [some (.ref 64), some (.int a0)], [.int ((1 : Int32) <<< ((M.1 78 (M.1 64 18).toNatClampNeg) &&& 31)), .int a0], mSS M)) (by decide +kernel) rfl ?_
    refine R_ige (t := 31) ⟨15, by decide +kernel⟩ (fun q => ?_) (fun q => ?_)
    · rw [if_pos q] at h
      refine mRunF.sg (mSl mk_258 17 1) (g := (32, [some (.ref 64), some (.int a0)], [.int 0], mSS M)) (by decide +kernel) rfl ?_
      cases h
      exact R_zret (by decide +kernel) (Or.inl rfl)
    · rw [if_neg q] at h
      refine mRunF.sg (mSl mk_258 11 1) (g := (20, [some (.ref 64), some (.int a0)], [.int a0], mSS M)) (by decide +kernel) rfl ?_
      obtain ⟨r3, q2, h⟩ := bR_of h
      refine R_callS (mi := 208) (na := 1) (as := [.int a0]) (r := []) (rv := some (.int r3)) (σ1 := mSS M) ⟨385, by decide +kernel⟩ rfl rfl rfl (Mo_bits_r N a0 M (d + 0) q2) ?_
      show mRunF _ _ (23, [some (.ref 64), some (.int a0)], [.int r3], mSS M)
      refine mRunF.sg (mSl mk_258 13 1) (g := (24, [some (.ref 64), some (.int a0)], [.int 1, .int r3], mSS M)) (by decide +kernel) rfl ?_
      refine R_ile (t := 31) ⟨7, by decide +kernel⟩ (fun q => ?_) (fun q => ?_)
      · rw [if_pos q] at h
        refine mRunF.sg (mSl mk_258 17 1) (g := (32, [some (.ref 64), some (.int a0)], [.int 0], mSS M)) (by decide +kernel) rfl ?_
        cases h
        exact R_zret (by decide +kernel) (Or.inl rfl)
      · rw [if_neg q] at h
        refine mRunF.sg (mSl mk_258 15 2) (g := (32, [some (.ref 64), some (.int a0)], [.int 1], mSS M)) (by decide +kernel) rfl ?_
        cases h
        exact R_zret (by decide +kernel) (Or.inr rfl)
set_option maxRecDepth 100000 in
set_option maxHeartbeats 4000000 in
theorem Mo_fillsNights_13_r {N d : Nat} {k2 : Int32 → Int32 → mS → Option mS}  {M' : mS} (hk2 : ∀ (x1 : Int32) (x2 : Int32) (M : mS), k2 x1 x2 M = some M' → mRunF (mCd 254) (mEE (mMet mP mTx (d + 8)) (none) none M') (2, [some (.ref 64), some (.int x1), some (.int x2), none], [], mSS M)) : ∀ {n : Nat} {x1 : Int32} {x2 : Int32} {x3 : Int32} {M : mS}, Mo_fillsNights_13 N k2 n x1 x2 x3 M = some M' → mRunF (mCd 254) (mEE (mMet mP mTx (d + 8)) (none) none M') (13, [some (.ref 64), some (.int x1), some (.int x2), some (.int x3)], [], mSS M) := by
  intro n
  induction n with
  | zero => intro x1 x2 x3 M h; cases h
  | succ n ih =>
    replace ih := @ih
    intro x1 x2 x3 M h
    unfold Mo_fillsNights_13 at h
    refine mRunF.sg (mSl mk_254 9 5) (g := (22, [some (.ref 64), some (.int x1), some (.int x2), some (.int x3)], [.int (M.1 64 18), .ref 78, .int x3], mSS M)) (by decide +kernel) rfl ?_
    obtain ⟨g1, h⟩ := grd_of h
    refine R_iald (by decide +kernel) rfl g1 ?_
    refine R_ige (t := 63) ⟨40, by decide +kernel⟩ (fun q => ?_) (fun q => ?_)
    · rw [if_pos q] at h
      refine mRunF.sg (mSl mk_254 41 1) (g := (64, [some (.ref 64), some (.int x1), some (.int x2), some (.int x3)], [.ref 64], mSS M)) (by decide +kernel) rfl ?_
      obtain ⟨M3, q2, h⟩ := bV_of h
      refine R_callV (mi := 235) (na := 1) (ci := 12) (i := 64) (as := []) (r := []) (rv := none) (σ1 := mSS M3) ⟨391, by decide +kernel⟩ rfl rfl rfl rfl (Mo_nightGoes_r N M (d + 0) q2) ?_
      show mRunF _ _ (67, [some (.ref 64), some (.int x1), some (.int x2), some (.int x3)], [], mSS M3)
      refine mRunF.sg (mSl mk_254 43 2) (g := (2, [some (.ref 64), some (.int x1), some (.int (x2 + 1)), some (.int x3)], [], mSS M3)) (by decide +kernel) rfl ?_
      refine mRunF.forget [true, true, true, false] ?_
      exact hk2 _ _ _ h
    · rw [if_neg q] at h
      refine mRunF.sg (mSl mk_254 16 10) (g := (40, [some (.ref 64), some (.int x1), some (.int x2), some (.int x3)], [.int x3, .ref 97, .int ((5 * x2) + x3), .ref 99], mSS M)) (by decide +kernel) rfl ?_
      obtain ⟨g4, h⟩ := grd_of h
      refine R_iald (by decide +kernel) rfl g4 ?_
      obtain ⟨g5, h⟩ := grd_of h
      refine R_iast (by decide +kernel) rfl g5 ?_
      obtain ⟨M6, hv, h⟩ := nxt_ex h
      rw [← hv]
      clear hv
      refine mRunF.sg (mSl mk_254 28 9) (g := (53, [some (.ref 64), some (.int x1), some (.int x2), some (.int x3)], [.int x3, .ref 64, .int ((5 * x2) + x3), .ref 100], mSS M6)) (by decide +kernel) rfl ?_
      obtain ⟨r9, M8, q7, h⟩ := bW_of h
      refine R_callV (mi := 227) (na := 2) (ci := 12) (i := 64) (as := [.int x3]) (r := [.int ((5 * x2) + x3), .ref 100]) (rv := some (.int r9)) (σ1 := mSS M8) ⟨400, by decide +kernel⟩ rfl rfl rfl rfl (Mo_worthOf_r N x3 M6 (d + 4) q7) ?_
      show mRunF _ _ (56, [some (.ref 64), some (.int x1), some (.int x2), some (.int x3)], [.int r9, .int ((5 * x2) + x3), .ref 100], mSS M8)
      obtain ⟨g10, h⟩ := grd_of h
      refine R_iast (by decide +kernel) rfl g10 ?_
      obtain ⟨M11, hv, h⟩ := nxt_ex h
      rw [← hv]
      clear hv
      refine mRunF.sg (mSl mk_254 39 2) (g := (13, [some (.ref 64), some (.int x1), some (.int x2), some (.int (x3 + 1))], [], mSS M11)) (by decide +kernel) rfl ?_
      exact @ih _ _ _ _ h
set_option maxRecDepth 100000 in
set_option maxHeartbeats 4000000 in
theorem Mo_fillsNights_2_r {N d : Nat}   {M' : mS} : ∀ {n : Nat} {x1 : Int32} {x2 : Int32} {M : mS}, Mo_fillsNights_2 N n x1 x2 M = some M' → mRunF (mCd 254) (mEE (mMet mP mTx (d + 8)) (none) none M') (2, [some (.ref 64), some (.int x1), some (.int x2), none], [], mSS M) := by
  intro n
  induction n with
  | zero => intro x1 x2 M h; cases h
  | succ n ih =>
    replace ih := @ih
    intro x1 x2 M h
    unfold Mo_fillsNights_2 at h
    refine mRunF.sg (mSl mk_254 2 2) (g := (4, [some (.ref 64), some (.int x1), some (.int x2), none], [.int x1, .int x2], mSS M)) (by decide +kernel) rfl ?_
    refine R_igt (t := 73) ⟨69, by decide +kernel⟩ (fun q => ?_) (fun q => ?_)
    · rw [if_pos q] at h
      cases h
      exact R_vret (by decide +kernel)
    · rw [if_neg q] at h
      refine mRunF.sg (mSl mk_254 5 1) (g := (8, [some (.ref 64), some (.int x1), some (.int x2), none], [.ref 64], mSS M)) (by decide +kernel) rfl ?_
      obtain ⟨M13, q12, h⟩ := bV_of h
      refine R_callV (mi := 233) (na := 1) (ci := 12) (i := 64) (as := []) (r := []) (rv := none) (σ1 := mSS M13) ⟨379, by decide +kernel⟩ rfl rfl rfl rfl (Mo_fillsThere_r N M (d + 1) q12) ?_
      show mRunF _ _ (11, [some (.ref 64), some (.int x1), some (.int x2), none], [], mSS M13)
      refine mRunF.sg (mSl mk_254 7 2) (g := (13, [some (.ref 64), some (.int x1), some (.int x2), some (.int 0)], [], mSS M13)) (by decide +kernel) rfl ?_
      exact Mo_fillsNights_13_r (fun y0 y1 y2 hh => @ih y0 y1 y2 hh) h
set_option maxRecDepth 100000 in
set_option maxHeartbeats 4000000 in
theorem Mo_fillsNights_r (N : Nat) (a0 : Int32) (M : mS) {M' : mS} (d : Nat) (h : Mo_fillsNights N a0 M = some M') : mMet mP mTx (d + 9) 254 [.ref 64, .int a0] (mSS M) none (mSS M') := by
  refine mMet_i ⟨Nat.le_refl _, Nat.le_refl _, Nat.le_of_ble_eq_true rfl⟩ ?_
  unfold Mo_fillsNights at h
  show mRunF (mCd 254) (mEE (mMet mP mTx (d + 8)) (none) none M') (0, [some (.ref 64), some (.int a0), none, none], [], mSS M)
  refine mRunF.sg (mSl mk_254 0 2) (g := (2, [some (.ref 64), some (.int a0), some (.int 0), none], [], mSS M)) (by decide +kernel) rfl ?_
  exact Mo_fillsNights_2_r h
set_option maxRecDepth 100000 in
set_option maxHeartbeats 4000000 in
theorem Mo_fillsStill_r (N : Nat) (a0 : Int32) (M : mS) {M' : mS} (d : Nat) (h : Mo_fillsStill N a0 M = some M') : mMet mP mTx (d + 10) 255 [.ref 64, .int a0] (mSS M) none (mSS M') := by
  refine mMet_i ⟨Nat.le_refl _, Nat.le_refl _, Nat.le_of_ble_eq_true rfl⟩ ?_
  unfold Mo_fillsStill at h
  show mRunF (mCd 255) (mEE (mMet mP mTx (d + 9)) (none) none M') (0, [some (.ref 64), some (.int a0)], [], mSS M)
  refine mRunF.sg (mSl mk_255 0 1) (g := (1, [some (.ref 64), some (.int a0)], [.ref 64], mSS M)) (by decide +kernel) rfl ?_
  obtain ⟨M2, q1, h⟩ := bV_of h
  refine R_callV (mi := 219) (na := 1) (ci := 12) (i := 64) (as := []) (r := []) (rv := none) (σ1 := mSS M2) ⟨407, by decide +kernel⟩ rfl rfl rfl rfl (Mo_copiesStill_r N M (d + 7) q1) ?_
  show mRunF _ _ (4, [some (.ref 64), some (.int a0)], [], mSS M2)
  refine mRunF.sg (mSl mk_255 2 2) (g := (6, [some (.ref 64), some (.int a0)], [.int a0, .ref 64], mSS M2)) (by decide +kernel) rfl ?_
  obtain ⟨M4, q3, h⟩ := bV_of h
  refine R_callV (mi := 254) (na := 2) (ci := 12) (i := 64) (as := [.int a0]) (r := []) (rv := none) (σ1 := mSS M4) ⟨425, by decide +kernel⟩ rfl rfl rfl rfl (Mo_fillsNights_r N a0 M2 (d + 0) q3) ?_
  show mRunF _ _ (9, [some (.ref 64), some (.int a0)], [], mSS M4)
  cases h
  exact R_vret (by decide +kernel)
set_option maxRecDepth 100000 in
set_option maxHeartbeats 4000000 in
theorem Mo_allBits_50_r {N d : Nat} {k12 : Int32 → Int32 → Int32 → Int32 → Option Int32} {M : mS} {x1 : Int32} {x2 : Int32} {x3 : Int32} {x4 : Int32} {r : Int32} (hk12 : ∀ (x1 : Int32) (x2 : Int32) (x3 : Int32) (x4 : Int32), k12 x1 x2 x3 x4 = some r → mRunF (mCd 256) (mEE (mMet mP mTx (d + 1)) (some .int) (some (.int r)) M) (12, [some (.ref 64), some (.int x1), some (.int x2), some (.int x3), some (.int x4)], [], mSS M)) (h : Mo_allBits_50 N k12 M x1 x2 x3 x4 = some r) : mRunF (mCd 256) (mEE (mMet mP mTx (d + 1)) (some .int) (some (.int r)) M) (50, [some (.ref 64), some (.int x1), some (.int x2), some (.int x3), some (.int x4)], [], mSS M) := by
  unfold Mo_allBits_50 at h
  refine mRunF.sg (mSl mk_256 34 2) (g := (12, [some (.ref 64), some (.int x1), some (.int x2), some (.int x3), some (.int (x4 + 1))], [], mSS M)) (by decide +kernel) rfl ?_
  exact hk12 _ _ _ _ h
set_option maxRecDepth 100000 in
set_option maxHeartbeats 4000000 in
theorem Mo_allBits_12_r {N d : Nat}  {M : mS}  {r : Int32} : ∀ {n : Nat} {x1 : Int32} {x2 : Int32} {x3 : Int32} {x4 : Int32}, Mo_allBits_12 N M n x1 x2 x3 x4 = some r → mRunF (mCd 256) (mEE (mMet mP mTx (d + 1)) (some .int) (some (.int r)) M) (12, [some (.ref 64), some (.int x1), some (.int x2), some (.int x3), some (.int x4)], [], mSS M) := by
  intro n
  induction n with
  | zero => intro x1 x2 x3 x4 h; cases h
  | succ n ih =>
    replace ih := @ih
    intro x1 x2 x3 x4 h
    unfold Mo_allBits_12 at h
    refine mRunF.sg (mSl mk_256 9 5) (g := (22, [some (.ref 64), some (.int x1), some (.int x2), some (.int x3), some (.int x4)], [.int (M.1 64 18), .ref 78, .int x4], mSS M)) (by decide +kernel) rfl ?_
    obtain ⟨g1, h⟩ := grd_of h
    refine R_iald (by decide +kernel) rfl g1 ?_
    refine R_ige (t := 56) ⟨33, by decide +kernel⟩ (fun q => ?_) (fun q => ?_)
    · rw [if_pos q] at h
      refine mRunF.sg (mSl mk_256 36 1) (g := (57, [some (.ref 64), some (.int x1), some (.int x2), some (.int x3), some (.int x4)], [.int x3], mSS M)) (by decide +kernel) rfl ?_
      cases h
      exact R_iret (by decide +kernel)
    · rw [if_neg q] at h
      refine mRunF.sg (mSl mk_256 16 6) (g := (33, [some (.ref 64), some (.int x1), some (.int x2), some (.int x3), some (.int x4)], [.int 1, .int ((x1 >>> (x4 &&& 31)) &&& 1)], mSS M)) (by decide +kernel) rfl ?_
      refine R_ine (t := 50) ⟨17, by decide +kernel⟩ (fun q => ?_) (fun q => ?_)
      · rw [if_pos q] at h
        refine mRunF.sg (mSl mk_256 23 8) (g := (47, [some (.ref 64), some (.int x1), some (.int x2), some (.int x3), some (.int x4)], [.int ((5 * x2) + x4), .ref 99, .int x3], mSS M)) (by decide +kernel) rfl ?_
        obtain ⟨g2, h⟩ := grd_of h
        refine R_iald (by decide +kernel) rfl g2 ?_
        refine mRunF.sg (mSl mk_256 32 2) (g := (50, [some (.ref 64), some (.int x1), some (.int x2), some (.int (x3 &&& (M.1 99 ((5 * x2) + x4).toNatClampNeg))), some (.int x4)], [], mSS M)) (by decide +kernel) rfl ?_
        obtain ⟨v3, hv, h⟩ := nxt_ex h
        rw [← hv]
        clear hv
        exact Mo_allBits_50_r (fun y0 y1 y2 y3 hh => @ih y0 y1 y2 y3 hh) h
      · rw [if_neg q] at h
        exact Mo_allBits_50_r (fun y0 y1 y2 y3 hh => @ih y0 y1 y2 y3 hh) h
set_option maxRecDepth 100000 in
set_option maxHeartbeats 4000000 in
theorem Mo_allBits_r (N : Nat) (a0 : Int32) (a1 : Int32) (M : mS) {r : Int32} (d : Nat) (h : Mo_allBits N a0 a1 M = some r) : mMet mP mTx (d + 2) 256 [.ref 64, .int a0, .int a1] (mSS M) (some (.int r)) (mSS M) := by
  refine mMet_i ⟨Nat.le_refl _, Nat.le_refl _, Nat.le_of_ble_eq_true rfl⟩ ?_
  unfold Mo_allBits at h
  show mRunF (mCd 256) (mEE (mMet mP mTx (d + 1)) (some .int) (some (.int r)) M) (0, [some (.ref 64), some (.int a0), some (.int a1), none, none], [], mSS M)
  refine mRunF.sg (mSl mk_256 0 2) (g := (2, [some (.ref 64), some (.int a0), some (.int a1), none, none], [.ref 64, .int 1], mSS M)) (by decide +kernel) rfl ?_
  obtain ⟨r5, q4, h⟩ := bR_of h
  refine R_callV (mi := 210) (na := 1) (ci := 12) (i := 64) (as := []) (r := [.int 1]) (rv := some (.int r5)) (σ1 := mSS M) ⟨313, by decide +kernel⟩ rfl rfl rfl rfl (Mo_hours_r N M (d + 0) q4) ?_
  show mRunF _ _ (5, [some (.ref 64), some (.int a0), some (.int a1), none, none], [.int r5, .int 1], mSS M)
  refine mRunF.sg (mSl mk_256 3 4) (g := (9, [some (.ref 64), some (.int a0), some (.int a1), some (.int (((1 : Int32) <<< (r5 &&& 31)) - 1)), none], [], mSS M)) (by decide +kernel) rfl ?_
  obtain ⟨v6, hv, h⟩ := nxt_ex h
  rw [← hv]
  clear hv
  refine mRunF.sg (mSl mk_256 7 2) (g := (12, [some (.ref 64), some (.int a0), some (.int a1), some (.int v6), some (.int 0)], [], mSS M)) (by decide +kernel) rfl ?_
  exact Mo_allBits_12_r h
set_option maxRecDepth 100000 in
set_option maxHeartbeats 4000000 in
theorem Mo_firstMeet_2_r {N d : Nat}  {M : mS}  {r : Int32} : ∀ {n : Nat} {x1 : Int32} {x2 : Int32} {x3 : Int32}, Mo_firstMeet_2 N M n x1 x2 x3 = some r → mRunF (mCd 257) (mEE (mMet mP mTx (d + 2)) (some .int) (some (.int r)) M) (2, [some (.ref 64), some (.int x1), some (.int x2), some (.int x3)], [], mSS M) := by
  intro n
  induction n with
  | zero => intro x1 x2 x3 h; cases h
  | succ n ih =>
    replace ih := @ih
    intro x1 x2 x3 h
    unfold Mo_firstMeet_2 at h
    refine mRunF.sg (mSl mk_257 2 2) (g := (4, [some (.ref 64), some (.int x1), some (.int x2), some (.int x3)], [.int x2, .int x3], mSS M)) (by decide +kernel) rfl ?_
    refine R_igt (t := 24) ⟨20, by decide +kernel⟩ (fun q => ?_) (fun q => ?_)
    · rw [if_pos q] at h
      refine mRunF.sg (mSl mk_257 14 1) (g := (26, [some (.ref 64), some (.int x1), some (.int x2), some (.int x3)], [.int (-2)], mSS M)) (by decide +kernel) rfl ?_
      cases h
      exact R_iret (by decide +kernel)
    · rw [if_neg q] at h
      refine mRunF.sg (mSl mk_257 5 3) (g := (10, [some (.ref 64), some (.int x1), some (.int x2), some (.int x3)], [.int x3, .int x1, .ref 64], mSS M)) (by decide +kernel) rfl ?_
      obtain ⟨r2, q1, h⟩ := bR_of h
      refine R_callV (mi := 256) (na := 3) (ci := 12) (i := 64) (as := [.int x1, .int x3]) (r := []) (rv := some (.int r2)) (σ1 := mSS M) ⟨428, by decide +kernel⟩ rfl rfl rfl rfl (Mo_allBits_r N x1 x3 M (d + 0) q1) ?_
      show mRunF _ _ (13, [some (.ref 64), some (.int x1), some (.int x2), some (.int x3)], [.int r2], mSS M)
      refine R_eq (t := 18) ⟨5, by decide +kernel⟩ (fun q => ?_) (fun q => ?_)
      · rw [if_pos q] at h
        refine mRunF.sg (mSl mk_257 12 2) (g := (2, [some (.ref 64), some (.int x1), some (.int x2), some (.int (x3 + 1))], [], mSS M)) (by decide +kernel) rfl ?_
        exact @ih _ _ _ h
      · rw [if_neg q] at h
        refine mRunF.sg (mSl mk_257 10 1) (g := (17, [some (.ref 64), some (.int x1), some (.int x2), some (.int x3)], [.int x3], mSS M)) (by decide +kernel) rfl ?_
        cases h
        exact R_iret (by decide +kernel)
set_option maxRecDepth 100000 in
set_option maxHeartbeats 4000000 in
theorem Mo_firstMeet_r (N : Nat) (a0 : Int32) (a1 : Int32) (M : mS) {r : Int32} (d : Nat) (h : Mo_firstMeet N a0 a1 M = some r) : mMet mP mTx (d + 3) 257 [.ref 64, .int a0, .int a1] (mSS M) (some (.int r)) (mSS M) := by
  refine mMet_i ⟨Nat.le_refl _, Nat.le_refl _, Nat.le_of_ble_eq_true rfl⟩ ?_
  unfold Mo_firstMeet at h
  show mRunF (mCd 257) (mEE (mMet mP mTx (d + 2)) (some .int) (some (.int r)) M) (0, [some (.ref 64), some (.int a0), some (.int a1), none], [], mSS M)
  refine mRunF.sg (mSl mk_257 0 2) (g := (2, [some (.ref 64), some (.int a0), some (.int a1), some (.int 0)], [], mSS M)) (by decide +kernel) rfl ?_
  exact Mo_firstMeet_2_r h
set_option maxRecDepth 100000 in
set_option maxHeartbeats 4000000 in
theorem Mo_lowestOf_2_r {N d : Nat}  {M : mS}  {r : Int32} : ∀ {n : Nat} {x0 : Int32} {x1 : Int32}, Mo_lowestOf_2 N M n x0 x1 = some r → mRunF (mCd 259) (mEE (mMet mP mTx (d + 0)) (some .int) (some (.int r)) M) (2, [some (.int x0), some (.int x1)], [], mSS M) := by
  intro n
  induction n with
  | zero => intro x0 x1 h; cases h
  | succ n ih =>
    replace ih := @ih
    intro x0 x1 h
    unfold Mo_lowestOf_2 at h
    refine mRunF.sg (mSl mk_259 2 5) (g := (7, [some (.int x0), some (.int x1)], [.int ((x0 >>> (x1 &&& 31)) &&& 1)], mSS M)) (by decide +kernel) rfl ?_
    refine R_ne (t := 16) ⟨9, by decide +kernel⟩ (fun q => ?_) (fun q => ?_)
    · rw [if_pos q] at h
      refine mRunF.sg (mSl mk_259 8 2) (g := (2, [some (.int x0), some (.int (x1 + 1))], [], mSS M)) (by decide +kernel) rfl ?_
      exact @ih _ _ h
    · rw [if_neg q] at h
      refine mRunF.sg (mSl mk_259 10 1) (g := (17, [some (.int x0), some (.int x1)], [.int x1], mSS M)) (by decide +kernel) rfl ?_
      cases h
      exact R_iret (by decide +kernel)
set_option maxRecDepth 100000 in
set_option maxHeartbeats 4000000 in
theorem Mo_lowestOf_r (N : Nat) (a0 : Int32) (M : mS) {r : Int32} (d : Nat) (h : Mo_lowestOf N a0 M = some r) : mMet mP mTx (d + 1) 259 [.int a0] (mSS M) (some (.int r)) (mSS M) := by
  refine mMet_i ⟨Nat.le_refl _, Nat.le_refl _, Nat.le_of_ble_eq_true rfl⟩ ?_
  unfold Mo_lowestOf at h
  show mRunF (mCd 259) (mEE (mMet mP mTx (d + 0)) (some .int) (some (.int r)) M) (0, [some (.int a0), none], [], mSS M)
  refine mRunF.sg (mSl mk_259 0 2) (g := (2, [some (.int a0), some (.int 0)], [], mSS M)) (by decide +kernel) rfl ?_
  exact Mo_lowestOf_2_r h
set_option maxRecDepth 100000 in
set_option maxHeartbeats 4000000 in
theorem Mo_meet_r (N : Nat) (a0 : Int32) (a1 : Int32) (M : mS) {r : Int32} {M' : mS} (d : Nat) (h : Mo_meet N a0 a1 M = some (r, M')) : mMet mP mTx (d + 11) 260 [.ref 64, .int a0, .int a1] (mSS M) (some (.int r)) (mSS M') := by
  refine mMet_i ⟨Nat.le_refl _, Nat.le_refl _, Nat.le_of_ble_eq_true rfl⟩ ?_
  unfold Mo_meet at h
  show mRunF (mCd 260) (mEE (mMet mP mTx (d + 10)) (some .int) (some (.int r)) M') (0, [some (.ref 64), some (.int a0), some (.int a1), none], [], mSS M)
  refine mRunF.sg (mSl mk_260 0 2) (g := (2, [some (.ref 64), some (.int a0), some (.int a1), none], [.int a0, .ref 64], mSS M)) (by decide +kernel) rfl ?_
  obtain ⟨r2, q1, h⟩ := bR_of h
  refine R_callV (mi := 258) (na := 2) (ci := 12) (i := 64) (as := [.int a0]) (r := []) (rv := some (.int r2)) (σ1 := mSS M) ⟨431, by decide +kernel⟩ rfl rfl rfl rfl (Mo_isGroup_r N a0 M (d + 8) q1) ?_
  have b3 := mBool rfl (Mo_isGroup_r N a0 M (d + 8) q1)
  show mRunF _ _ (5, [some (.ref 64), some (.int a0), some (.int a1), none], [.int r2], mSS M)
  refine R_eq (t := 17) ⟨12, by decide +kernel⟩ (fun q => ?_) (fun q => ?_)
  · rw [if_pos q] at h
    refine mRunF.sg (mSl mk_260 9 1) (g := (18, [some (.ref 64), some (.int a0), some (.int a1), none], [.int (-1)], mSS M)) (by decide +kernel) rfl ?_
    cases h
    exact R_iret (by decide +kernel)
  · rw [if_neg q] at h
    refine mRunF.sg (mSl mk_260 4 3) (g := (11, [some (.ref 64), some (.int a0), some (.int a1), none], [.int 2, .int 0, .int a1], mSS M)) (by decide +kernel) rfl ?_
    refine R_callS (mi := 206) (na := 3) (as := [.int a1, .int 0, .int 2]) (r := []) (rv := some (.int (Mo_in a1 0 2 M))) (σ1 := mSS M) ⟨316, by decide +kernel⟩ rfl rfl rfl (Mo_in_r a1 0 2 M (d + 9)) ?_
    have b4 := mBool rfl (Mo_in_r a1 0 2 M (d + 9))
    show mRunF _ _ (14, [some (.ref 64), some (.int a0), some (.int a1), none], [.int (Mo_in a1 0 2 M)], mSS M)
    refine R_ne (t := 19) ⟨5, by decide +kernel⟩ (fun q => ?_) (fun q => ?_)
    · rw [if_pos q] at h
      refine mRunF.sg (mSl mk_260 9 1) (g := (18, [some (.ref 64), some (.int a0), some (.int a1), none], [.int (-1)], mSS M)) (by decide +kernel) rfl ?_
      cases h
      exact R_iret (by decide +kernel)
    · rw [if_neg q] at h
      refine mRunF.sg (mSl mk_260 11 2) (g := (23, [some (.ref 64), some (.int a0), some (.int a1), none], [.int 400, .ref 64], mSS M)) (by decide +kernel) rfl ?_
      obtain ⟨M6, q5, h⟩ := bV_of h
      refine R_callV (mi := 255) (na := 2) (ci := 12) (i := 64) (as := [.int 400]) (r := []) (rv := none) (σ1 := mSS M6) ⟨434, by decide +kernel⟩ rfl rfl rfl rfl (Mo_fillsStill_r N 400 M (d + 0) q5) ?_
      show mRunF _ _ (26, [some (.ref 64), some (.int a0), some (.int a1), none], [], mSS M6)
      refine mRunF.sg (mSl mk_260 14 3) (g := (31, [some (.ref 64), some (.int a0), some (.int a1), none], [.int 400, .int a0, .ref 64], mSS M6)) (by decide +kernel) rfl ?_
      obtain ⟨r8, q7, h⟩ := bR_of h
      refine R_callV (mi := 257) (na := 3) (ci := 12) (i := 64) (as := [.int a0, .int 400]) (r := []) (rv := some (.int r8)) (σ1 := mSS M6) ⟨437, by decide +kernel⟩ rfl rfl rfl rfl (Mo_firstMeet_r N a0 400 M6 (d + 7) q7) ?_
      show mRunF _ _ (34, [some (.ref 64), some (.int a0), some (.int a1), none], [.int r8], mSS M6)
      refine mRunF.sg (mSl mk_260 18 2) (g := (36, [some (.ref 64), some (.int a0), some (.int a1), some (.int r8)], [.int r8], mSS M6)) (by decide +kernel) rfl ?_
      refine R_lt (t := 43) ⟨7, by decide +kernel⟩ (fun q => ?_) (fun q => ?_)
      · rw [if_pos q] at h
        refine mRunF.sg (mSl mk_260 23 1) (g := (44, [some (.ref 64), some (.int a0), some (.int a1), some (.int r8)], [.int r8], mSS M6)) (by decide +kernel) rfl ?_
        cases h
        exact R_iret (by decide +kernel)
      · rw [if_neg q] at h
        refine mRunF.sg (mSl mk_260 21 1) (g := (40, [some (.ref 64), some (.int a0), some (.int a1), some (.int r8)], [.int a1], mSS M6)) (by decide +kernel) rfl ?_
        refine R_ne (t := 45) ⟨5, by decide +kernel⟩ (fun q => ?_) (fun q => ?_)
        · rw [if_pos q] at h
          refine mRunF.sg (mSl mk_260 23 1) (g := (44, [some (.ref 64), some (.int a0), some (.int a1), some (.int r8)], [.int r8], mSS M6)) (by decide +kernel) rfl ?_
          cases h
          exact R_iret (by decide +kernel)
        · rw [if_neg q] at h
          refine mRunF.sg (mSl mk_260 25 2) (g := (47, [some (.ref 64), some (.int a0), some (.int a1), some (.int r8)], [.int 1, .int a1], mSS M6)) (by decide +kernel) rfl ?_
          refine R_ine (t := 62) ⟨15, by decide +kernel⟩ (fun q => ?_) (fun q => ?_)
          · rw [if_pos q] at h
            refine mRunF.sg (mSl mk_260 28 3) (g := (53, [some (.ref 64), some (.int a0), some (.int a1), some (.int r8)], [.int r8, .int a0, .ref 64], mSS M6)) (by decide +kernel) rfl ?_
            obtain ⟨r10, q9, h⟩ := bR_of h
            refine R_callV (mi := 256) (na := 3) (ci := 12) (i := 64) (as := [.int a0, .int r8]) (r := []) (rv := some (.int r10)) (σ1 := mSS M6) ⟨428, by decide +kernel⟩ rfl rfl rfl rfl (Mo_allBits_r N a0 r8 M6 (d + 8) q9) ?_
            show mRunF _ _ (56, [some (.ref 64), some (.int a0), some (.int a1), some (.int r8)], [.int r10], mSS M6)
            obtain ⟨r12, q11, h⟩ := bR_of h
            refine R_callS (mi := 259) (na := 1) (as := [.int r10]) (r := []) (rv := some (.int r12)) (σ1 := mSS M6) ⟨440, by decide +kernel⟩ rfl rfl rfl (Mo_lowestOf_r N r10 M6 (d + 9) q11) ?_
            show mRunF _ _ (59, [some (.ref 64), some (.int a0), some (.int a1), some (.int r8)], [.int r12], mSS M6)
            refine mRunF.sg (mSl mk_260 33 1) (g := (71, [some (.ref 64), some (.int a0), some (.int a1), some (.int r8)], [.int r12], mSS M6)) (by decide +kernel) rfl ?_
            cases h
            exact R_iret (by decide +kernel)
          · rw [if_neg q] at h
            refine mRunF.sg (mSl mk_260 34 3) (g := (65, [some (.ref 64), some (.int a0), some (.int a1), some (.int r8)], [.int r8, .int a0, .ref 64], mSS M6)) (by decide +kernel) rfl ?_
            obtain ⟨r14, q13, h⟩ := bR_of h
            refine R_callV (mi := 256) (na := 3) (ci := 12) (i := 64) (as := [.int a0, .int r8]) (r := []) (rv := some (.int r14)) (σ1 := mSS M6) ⟨428, by decide +kernel⟩ rfl rfl rfl rfl (Mo_allBits_r N a0 r8 M6 (d + 8) q13) ?_
            show mRunF _ _ (68, [some (.ref 64), some (.int a0), some (.int a1), some (.int r8)], [.int r14], mSS M6)
            obtain ⟨r16, q15, h⟩ := bR_of h
            refine R_callS (mi := 208) (na := 1) (as := [.int r14]) (r := []) (rv := some (.int r16)) (σ1 := mSS M6) ⟨385, by decide +kernel⟩ rfl rfl rfl (Mo_bits_r N r14 M6 (d + 9) q15) ?_
            show mRunF _ _ (71, [some (.ref 64), some (.int a0), some (.int a1), some (.int r8)], [.int r16], mSS M6)
            cases h
            exact R_iret (by decide +kernel)
set_option maxRecDepth 100000 in
set_option maxHeartbeats 4000000 in
theorem Mo_oftenBy_6_r {N d : Nat}  {M : mS}  {r : Int32} : ∀ {n : Nat} {x1 : Int32} {x2 : Int32} {x3 : Int32} {x4 : Int32} {x5 : Int32}, Mo_oftenBy_6 N M n x1 x2 x3 x4 x5 = some r → mRunF (mCd 261) (mEE (mMet mP mTx (d + 1)) (some .int) (some (.int r)) M) (6, [some (.ref 64), some (.int x1), some (.int x2), some (.int x3), some (.int x4), some (.int x5)], [], mSS M) := by
  intro n
  induction n with
  | zero => intro x1 x2 x3 x4 x5 h; cases h
  | succ n ih =>
    replace ih := @ih
    intro x1 x2 x3 x4 x5 h
    unfold Mo_oftenBy_6 at h
    refine mRunF.sg (mSl mk_261 4 2) (g := (9, [some (.ref 64), some (.int x1), some (.int x2), some (.int x3), some (.int x4), some (.int x5)], [.int x3, .int x5], mSS M)) (by decide +kernel) rfl ?_
    refine R_ige (t := 49) ⟨40, by decide +kernel⟩ (fun q => ?_) (fun q => ?_)
    · rw [if_pos q] at h
      refine mRunF.sg (mSl mk_261 30 1) (g := (51, [some (.ref 64), some (.int x1), some (.int x2), some (.int x3), some (.int x4), some (.int x5)], [.int x4], mSS M)) (by decide +kernel) rfl ?_
      cases h
      exact R_iret (by decide +kernel)
    · rw [if_neg q] at h
      refine mRunF.sg (mSl mk_261 7 8) (g := (24, [some (.ref 64), some (.int x1), some (.int x2), some (.int x3), some (.int x4), some (.int x5)], [.int ((5 * x5) + x1), .ref 99, .int x4], mSS M)) (by decide +kernel) rfl ?_
      obtain ⟨g1, h⟩ := grd_of h
      refine R_iald (by decide +kernel) rfl g1 ?_
      refine mRunF.sg (mSl mk_261 16 7) (g := (35, [some (.ref 64), some (.int x1), some (.int x2), some (.int x3), some (.int x4), some (.int x5)], [.int ((5 * x5) + x2), .ref 99, .int (M.1 99 ((5 * x5) + x1).toNatClampNeg), .int x4], mSS M)) (by decide +kernel) rfl ?_
      obtain ⟨g2, h⟩ := grd_of h
      refine R_iald (by decide +kernel) rfl g2 ?_
      refine mRunF.sg (mSl mk_261 24 1) (g := (37, [some (.ref 64), some (.int x1), some (.int x2), some (.int x3), some (.int x4), some (.int x5)], [.int ((M.1 99 ((5 * x5) + x1).toNatClampNeg) &&& (M.1 99 ((5 * x5) + x2).toNatClampNeg)), .int x4], mSS M)) (by decide +kernel) rfl ?_
      obtain ⟨r4, q3, h⟩ := bR_of h
      refine R_callS (mi := 208) (na := 1) (as := [.int ((M.1 99 ((5 * x5) + x1).toNatClampNeg) &&& (M.1 99 ((5 * x5) + x2).toNatClampNeg))]) (r := [.int x4]) (rv := some (.int r4)) (σ1 := mSS M) ⟨385, by decide +kernel⟩ rfl rfl rfl (Mo_bits_r N ((M.1 99 ((5 * x5) + x1).toNatClampNeg) &&& (M.1 99 ((5 * x5) + x2).toNatClampNeg)) M (d + 0) q3) ?_
      show mRunF _ _ (40, [some (.ref 64), some (.int x1), some (.int x2), some (.int x3), some (.int x4), some (.int x5)], [.int r4, .int x4], mSS M)
      refine mRunF.sg (mSl mk_261 26 2) (g := (43, [some (.ref 64), some (.int x1), some (.int x2), some (.int x3), some (.int (x4 + r4)), some (.int x5)], [], mSS M)) (by decide +kernel) rfl ?_
      obtain ⟨v5, hv, h⟩ := nxt_ex h
      rw [← hv]
      clear hv
      refine mRunF.sg (mSl mk_261 28 2) (g := (6, [some (.ref 64), some (.int x1), some (.int x2), some (.int x3), some (.int v5), some (.int (x5 + 1))], [], mSS M)) (by decide +kernel) rfl ?_
      exact @ih _ _ _ _ _ h
set_option maxRecDepth 100000 in
set_option maxHeartbeats 4000000 in
theorem Mo_oftenBy_r (N : Nat) (a0 : Int32) (a1 : Int32) (a2 : Int32) (M : mS) {r : Int32} (d : Nat) (h : Mo_oftenBy N a0 a1 a2 M = some r) : mMet mP mTx (d + 2) 261 [.ref 64, .int a0, .int a1, .int a2] (mSS M) (some (.int r)) (mSS M) := by
  refine mMet_i ⟨Nat.le_refl _, Nat.le_refl _, Nat.le_of_ble_eq_true rfl⟩ ?_
  unfold Mo_oftenBy at h
  show mRunF (mCd 261) (mEE (mMet mP mTx (d + 1)) (some .int) (some (.int r)) M) (0, [some (.ref 64), some (.int a0), some (.int a1), some (.int a2), none, none], [], mSS M)
  refine mRunF.sg (mSl mk_261 0 4) (g := (6, [some (.ref 64), some (.int a0), some (.int a1), some (.int a2), some (.int 0), some (.int 0)], [], mSS M)) (by decide +kernel) rfl ?_
  exact Mo_oftenBy_6_r h
set_option maxRecDepth 100000 in
set_option maxHeartbeats 4000000 in
theorem Mo_often_r (N : Nat) (a0 : Int32) (a1 : Int32) (a2 : Int32) (M : mS) {r : Int32} {M' : mS} (d : Nat) (h : Mo_often N a0 a1 a2 M = some (r, M')) : mMet mP mTx (d + 11) 262 [.ref 64, .int a0, .int a1, .int a2] (mSS M) (some (.int r)) (mSS M') := by
  refine mMet_i ⟨Nat.le_refl _, Nat.le_refl _, Nat.le_of_ble_eq_true rfl⟩ ?_
  unfold Mo_often at h
  show mRunF (mCd 262) (mEE (mMet mP mTx (d + 10)) (some .int) (some (.int r)) M') (0, [some (.ref 64), some (.int a0), some (.int a1), some (.int a2)], [], mSS M)
  refine mRunF.sg (mSl mk_262 0 3) (g := (3, [some (.ref 64), some (.int a0), some (.int a1), some (.int a2)], [.int a1, .int a0, .ref 64], mSS M)) (by decide +kernel) rfl ?_
  obtain ⟨r2, q1, h⟩ := bR_of h
  refine R_callV (mi := 214) (na := 3) (ci := 12) (i := 64) (as := [.int a0, .int a1]) (r := []) (rv := some (.int r2)) (σ1 := mSS M) ⟨403, by decide +kernel⟩ rfl rfl rfl rfl (Mo_areTwo_r N a0 a1 M (d + 7) q1) ?_
  have b3 := mBool rfl (Mo_areTwo_r N a0 a1 M (d + 7) q1)
  show mRunF _ _ (6, [some (.ref 64), some (.int a0), some (.int a1), some (.int a2)], [.int r2], mSS M)
  refine R_eq (t := 16) ⟨10, by decide +kernel⟩ (fun q => ?_) (fun q => ?_)
  · rw [if_pos q] at h
    refine mRunF.sg (mSl mk_262 8 1) (g := (17, [some (.ref 64), some (.int a0), some (.int a1), some (.int a2)], [.int (-1)], mSS M)) (by decide +kernel) rfl ?_
    cases h
    exact R_iret (by decide +kernel)
  · rw [if_neg q] at h
    refine mRunF.sg (mSl mk_262 5 1) (g := (10, [some (.ref 64), some (.int a0), some (.int a1), some (.int a2)], [.int a2], mSS M)) (by decide +kernel) rfl ?_
    refine R_callS (mi := 250) (na := 1) (as := [.int a2]) (r := []) (rv := some (.int (Mo_isLong a2 M))) (σ1 := mSS M) ⟨419, by decide +kernel⟩ rfl rfl rfl (Mo_isLong_r a2 M (d + 8)) ?_
    have b4 := mBool rfl (Mo_isLong_r a2 M (d + 8))
    show mRunF _ _ (13, [some (.ref 64), some (.int a0), some (.int a1), some (.int a2)], [.int (Mo_isLong a2 M)], mSS M)
    refine R_ne (t := 18) ⟨5, by decide +kernel⟩ (fun q => ?_) (fun q => ?_)
    · rw [if_pos q] at h
      refine mRunF.sg (mSl mk_262 8 1) (g := (17, [some (.ref 64), some (.int a0), some (.int a1), some (.int a2)], [.int (-1)], mSS M)) (by decide +kernel) rfl ?_
      cases h
      exact R_iret (by decide +kernel)
    · rw [if_neg q] at h
      refine mRunF.sg (mSl mk_262 10 2) (g := (20, [some (.ref 64), some (.int a0), some (.int a1), some (.int a2)], [.int a2, .ref 64], mSS M)) (by decide +kernel) rfl ?_
      obtain ⟨M6, q5, h⟩ := bV_of h
      refine R_callV (mi := 255) (na := 2) (ci := 12) (i := 64) (as := [.int a2]) (r := []) (rv := none) (σ1 := mSS M6) ⟨434, by decide +kernel⟩ rfl rfl rfl rfl (Mo_fillsStill_r N a2 M (d + 0) q5) ?_
      show mRunF _ _ (23, [some (.ref 64), some (.int a0), some (.int a1), some (.int a2)], [], mSS M6)
      refine mRunF.sg (mSl mk_262 13 4) (g := (27, [some (.ref 64), some (.int a0), some (.int a1), some (.int a2)], [.int a2, .int a1, .int a0, .ref 64], mSS M6)) (by decide +kernel) rfl ?_
      obtain ⟨r8, q7, h⟩ := bR_of h
      refine R_callV (mi := 261) (na := 4) (ci := 12) (i := 64) (as := [.int a0, .int a1, .int a2]) (r := []) (rv := some (.int r8)) (σ1 := mSS M6) ⟨443, by decide +kernel⟩ rfl rfl rfl rfl (Mo_oftenBy_r N a0 a1 a2 M6 (d + 8) q7) ?_
      show mRunF _ _ (30, [some (.ref 64), some (.int a0), some (.int a1), some (.int a2)], [.int r8], mSS M6)
      cases h
      exact R_iret (by decide +kernel)
set_option maxRecDepth 100000 in
set_option maxHeartbeats 4000000 in
theorem Mo_othersBy_39_r {N d : Nat} {k5 : Int32 → Int32 → Int32 → Int32 → Option Int32} {M : mS} {x1 : Int32} {x2 : Int32} {x3 : Int32} {x4 : Int32} {r : Int32} (hk5 : ∀ (x1 : Int32) (x2 : Int32) (x3 : Int32) (x4 : Int32), k5 x1 x2 x3 x4 = some r → mRunF (mCd 263) (mEE (mMet mP mTx (d + 0)) (some .int) (some (.int r)) M) (5, [some (.ref 64), some (.int x1), some (.int x2), some (.int x3), some (.int x4)], [], mSS M)) (h : Mo_othersBy_39 N k5 M x1 x2 x3 x4 = some r) : mRunF (mCd 263) (mEE (mMet mP mTx (d + 0)) (some .int) (some (.int r)) M) (39, [some (.ref 64), some (.int x1), some (.int x2), some (.int x3), some (.int x4)], [], mSS M) := by
  unfold Mo_othersBy_39 at h
  refine mRunF.sg (mSl mk_263 25 2) (g := (5, [some (.ref 64), some (.int x1), some (.int x2), some (.int x3), some (.int (x4 + 1))], [], mSS M)) (by decide +kernel) rfl ?_
  exact hk5 _ _ _ _ h
set_option maxRecDepth 100000 in
set_option maxHeartbeats 4000000 in
theorem Mo_othersBy_5_r {N d : Nat}  {M : mS}  {r : Int32} : ∀ {n : Nat} {x1 : Int32} {x2 : Int32} {x3 : Int32} {x4 : Int32}, Mo_othersBy_5 N M n x1 x2 x3 x4 = some r → mRunF (mCd 263) (mEE (mMet mP mTx (d + 0)) (some .int) (some (.int r)) M) (5, [some (.ref 64), some (.int x1), some (.int x2), some (.int x3), some (.int x4)], [], mSS M) := by
  intro n
  induction n with
  | zero => intro x1 x2 x3 x4 h; cases h
  | succ n ih =>
    replace ih := @ih
    intro x1 x2 x3 x4 h
    unfold Mo_othersBy_5 at h
    refine mRunF.sg (mSl mk_263 4 5) (g := (15, [some (.ref 64), some (.int x1), some (.int x2), some (.int x3), some (.int x4)], [.int (M.1 64 18), .ref 78, .int x4], mSS M)) (by decide +kernel) rfl ?_
    obtain ⟨g1, h⟩ := grd_of h
    refine R_iald (by decide +kernel) rfl g1 ?_
    refine R_ige (t := 45) ⟨29, by decide +kernel⟩ (fun q => ?_) (fun q => ?_)
    · rw [if_pos q] at h
      refine mRunF.sg (mSl mk_263 27 1) (g := (46, [some (.ref 64), some (.int x1), some (.int x2), some (.int x3), some (.int x4)], [.int x3], mSS M)) (by decide +kernel) rfl ?_
      cases h
      exact R_iret (by decide +kernel)
    · rw [if_neg q] at h
      refine mRunF.sg (mSl mk_263 11 2) (g := (22, [some (.ref 64), some (.int x1), some (.int x2), some (.int x3), some (.int x4)], [.int x1, .int x4], mSS M)) (by decide +kernel) rfl ?_
      refine R_ieq (t := 39) ⟨17, by decide +kernel⟩ (fun q => ?_) (fun q => ?_)
      · rw [if_pos q] at h
        exact Mo_othersBy_39_r (fun y0 y1 y2 y3 hh => @ih y0 y1 y2 y3 hh) h
      · rw [if_neg q] at h
        refine mRunF.sg (mSl mk_263 14 8) (g := (36, [some (.ref 64), some (.int x1), some (.int x2), some (.int x3), some (.int x4)], [.int ((5 * x2) + x4), .ref 99, .int x3], mSS M)) (by decide +kernel) rfl ?_
        obtain ⟨g2, h⟩ := grd_of h
        refine R_iald (by decide +kernel) rfl g2 ?_
        refine mRunF.sg (mSl mk_263 23 2) (g := (39, [some (.ref 64), some (.int x1), some (.int x2), some (.int (x3 ||| (M.1 99 ((5 * x2) + x4).toNatClampNeg))), some (.int x4)], [], mSS M)) (by decide +kernel) rfl ?_
        obtain ⟨v3, hv, h⟩ := nxt_ex h
        rw [← hv]
        clear hv
        exact Mo_othersBy_39_r (fun y0 y1 y2 y3 hh => @ih y0 y1 y2 y3 hh) h
set_option maxRecDepth 100000 in
set_option maxHeartbeats 4000000 in
theorem Mo_othersBy_r (N : Nat) (a0 : Int32) (a1 : Int32) (M : mS) {r : Int32} (d : Nat) (h : Mo_othersBy N a0 a1 M = some r) : mMet mP mTx (d + 1) 263 [.ref 64, .int a0, .int a1] (mSS M) (some (.int r)) (mSS M) := by
  refine mMet_i ⟨Nat.le_refl _, Nat.le_refl _, Nat.le_of_ble_eq_true rfl⟩ ?_
  unfold Mo_othersBy at h
  show mRunF (mCd 263) (mEE (mMet mP mTx (d + 0)) (some .int) (some (.int r)) M) (0, [some (.ref 64), some (.int a0), some (.int a1), none, none], [], mSS M)
  refine mRunF.sg (mSl mk_263 0 4) (g := (5, [some (.ref 64), some (.int a0), some (.int a1), some (.int 0), some (.int 0)], [], mSS M)) (by decide +kernel) rfl ?_
  exact Mo_othersBy_5_r h
set_option maxRecDepth 100000 in
set_option maxHeartbeats 4000000 in
theorem Mo_alone_27_r {N d : Nat}   {r : Int32} {M' : mS} : ∀ {n : Nat} {x1 : Int32} {x2 : Int32} {x3 : Int32} {x4 : Int32} {M : mS}, Mo_alone_27 N n x1 x2 x3 x4 M = some (r, M') → mRunF (mCd 264) (mEE (mMet mP mTx (d + 10)) (some .int) (some (.int r)) M') (27, [some (.ref 64), some (.int x1), some (.int x2), some (.int x3), some (.int x4)], [], mSS M) := by
  intro n
  induction n with
  | zero => intro x1 x2 x3 x4 M h; cases h
  | succ n ih =>
    replace ih := @ih
    intro x1 x2 x3 x4 M h
    unfold Mo_alone_27 at h
    refine mRunF.sg (mSl mk_264 16 2) (g := (30, [some (.ref 64), some (.int x1), some (.int x2), some (.int x3), some (.int x4)], [.int x2, .int x4], mSS M)) (by decide +kernel) rfl ?_
    refine R_ige (t := 66) ⟨36, by decide +kernel⟩ (fun q => ?_) (fun q => ?_)
    · rw [if_pos q] at h
      refine mRunF.sg (mSl mk_264 40 1) (g := (67, [some (.ref 64), some (.int x1), some (.int x2), some (.int x3), some (.int x4)], [.int x3], mSS M)) (by decide +kernel) rfl ?_
      cases h
      exact R_iret (by decide +kernel)
    · rw [if_neg q] at h
      refine mRunF.sg (mSl mk_264 19 8) (g := (44, [some (.ref 64), some (.int x1), some (.int x2), some (.int x3), some (.int x4)], [.int ((5 * x4) + x1), .ref 99, .int x3], mSS M)) (by decide +kernel) rfl ?_
      obtain ⟨g1, h⟩ := grd_of h
      refine R_iald (by decide +kernel) rfl g1 ?_
      refine mRunF.sg (mSl mk_264 28 3) (g := (49, [some (.ref 64), some (.int x1), some (.int x2), some (.int x3), some (.int x4)], [.int x4, .int x1, .ref 64, .int (M.1 99 ((5 * x4) + x1).toNatClampNeg), .int x3], mSS M)) (by decide +kernel) rfl ?_
      obtain ⟨r3, q2, h⟩ := bR_of h
      refine R_callV (mi := 263) (na := 3) (ci := 12) (i := 64) (as := [.int x1, .int x4]) (r := [.int (M.1 99 ((5 * x4) + x1).toNatClampNeg), .int x3]) (rv := some (.int r3)) (σ1 := mSS M) ⟨446, by decide +kernel⟩ rfl rfl rfl rfl (Mo_othersBy_r N x1 x4 M (d + 9) q2) ?_
      show mRunF _ _ (52, [some (.ref 64), some (.int x1), some (.int x2), some (.int x3), some (.int x4)], [.int r3, .int (M.1 99 ((5 * x4) + x1).toNatClampNeg), .int x3], mSS M)
      refine mRunF.sg (mSl mk_264 32 3) (g := (55, [some (.ref 64), some (.int x1), some (.int x2), some (.int x3), some (.int x4)], [.int ((M.1 99 ((5 * x4) + x1).toNatClampNeg) &&& (r3 ^^^ (-1))), .int x3], mSS M)) (by decide +kernel) rfl ?_
      obtain ⟨r5, q4, h⟩ := bR_of h
      refine R_callS (mi := 208) (na := 1) (as := [.int ((M.1 99 ((5 * x4) + x1).toNatClampNeg) &&& (r3 ^^^ (-1)))]) (r := [.int x3]) (rv := some (.int r5)) (σ1 := mSS M) ⟨385, by decide +kernel⟩ rfl rfl rfl (Mo_bits_r N ((M.1 99 ((5 * x4) + x1).toNatClampNeg) &&& (r3 ^^^ (-1))) M (d + 9) q4) ?_
      show mRunF _ _ (58, [some (.ref 64), some (.int x1), some (.int x2), some (.int x3), some (.int x4)], [.int r5, .int x3], mSS M)
      refine mRunF.sg (mSl mk_264 36 2) (g := (60, [some (.ref 64), some (.int x1), some (.int x2), some (.int (x3 + r5)), some (.int x4)], [], mSS M)) (by decide +kernel) rfl ?_
      obtain ⟨v6, hv, h⟩ := nxt_ex h
      rw [← hv]
      clear hv
      refine mRunF.sg (mSl mk_264 38 2) (g := (27, [some (.ref 64), some (.int x1), some (.int x2), some (.int v6), some (.int (x4 + 1))], [], mSS M)) (by decide +kernel) rfl ?_
      exact @ih _ _ _ _ _ h
set_option maxRecDepth 100000 in
set_option maxHeartbeats 4000000 in
theorem Mo_alone_r (N : Nat) (a0 : Int32) (a1 : Int32) (M : mS) {r : Int32} {M' : mS} (d : Nat) (h : Mo_alone N a0 a1 M = some (r, M')) : mMet mP mTx (d + 11) 264 [.ref 64, .int a0, .int a1] (mSS M) (some (.int r)) (mSS M') := by
  refine mMet_i ⟨Nat.le_refl _, Nat.le_refl _, Nat.le_of_ble_eq_true rfl⟩ ?_
  unfold Mo_alone at h
  show mRunF (mCd 264) (mEE (mMet mP mTx (d + 10)) (some .int) (some (.int r)) M') (0, [some (.ref 64), some (.int a0), some (.int a1), none, none], [], mSS M)
  refine mRunF.sg (mSl mk_264 0 2) (g := (2, [some (.ref 64), some (.int a0), some (.int a1), none, none], [.int a0, .ref 64], mSS M)) (by decide +kernel) rfl ?_
  obtain ⟨r8, q7, h⟩ := bR_of h
  refine R_callV (mi := 213) (na := 2) (ci := 12) (i := 64) (as := [.int a0]) (r := []) (rv := some (.int r8)) (σ1 := mSS M) ⟨320, by decide +kernel⟩ rfl rfl rfl rfl (Mo_isGoer_r N a0 M (d + 8) q7) ?_
  have b9 := mBool rfl (Mo_isGoer_r N a0 M (d + 8) q7)
  show mRunF _ _ (5, [some (.ref 64), some (.int a0), some (.int a1), none, none], [.int r8], mSS M)
  refine R_eq (t := 15) ⟨10, by decide +kernel⟩ (fun q => ?_) (fun q => ?_)
  · rw [if_pos q] at h
    refine mRunF.sg (mSl mk_264 7 1) (g := (16, [some (.ref 64), some (.int a0), some (.int a1), none, none], [.int (-1)], mSS M)) (by decide +kernel) rfl ?_
    cases h
    exact R_iret (by decide +kernel)
  · rw [if_neg q] at h
    refine mRunF.sg (mSl mk_264 4 1) (g := (9, [some (.ref 64), some (.int a0), some (.int a1), none, none], [.int a1], mSS M)) (by decide +kernel) rfl ?_
    refine R_callS (mi := 250) (na := 1) (as := [.int a1]) (r := []) (rv := some (.int (Mo_isLong a1 M))) (σ1 := mSS M) ⟨419, by decide +kernel⟩ rfl rfl rfl (Mo_isLong_r a1 M (d + 8)) ?_
    have b10 := mBool rfl (Mo_isLong_r a1 M (d + 8))
    show mRunF _ _ (12, [some (.ref 64), some (.int a0), some (.int a1), none, none], [.int (Mo_isLong a1 M)], mSS M)
    refine R_ne (t := 17) ⟨5, by decide +kernel⟩ (fun q => ?_) (fun q => ?_)
    · rw [if_pos q] at h
      refine mRunF.sg (mSl mk_264 7 1) (g := (16, [some (.ref 64), some (.int a0), some (.int a1), none, none], [.int (-1)], mSS M)) (by decide +kernel) rfl ?_
      cases h
      exact R_iret (by decide +kernel)
    · rw [if_neg q] at h
      refine mRunF.sg (mSl mk_264 9 2) (g := (19, [some (.ref 64), some (.int a0), some (.int a1), none, none], [.int a1, .ref 64], mSS M)) (by decide +kernel) rfl ?_
      obtain ⟨M12, q11, h⟩ := bV_of h
      refine R_callV (mi := 255) (na := 2) (ci := 12) (i := 64) (as := [.int a1]) (r := []) (rv := none) (σ1 := mSS M12) ⟨434, by decide +kernel⟩ rfl rfl rfl rfl (Mo_fillsStill_r N a1 M (d + 0) q11) ?_
      show mRunF _ _ (22, [some (.ref 64), some (.int a0), some (.int a1), none, none], [], mSS M12)
      refine mRunF.sg (mSl mk_264 12 4) (g := (27, [some (.ref 64), some (.int a0), some (.int a1), some (.int 0), some (.int 0)], [], mSS M12)) (by decide +kernel) rfl ?_
      exact Mo_alone_27_r h
set_option maxRecDepth 100000 in
set_option maxHeartbeats 4000000 in
theorem Mo_earns_27_r {N d : Nat}   {r : Int32} {M' : mS} : ∀ {n : Nat} {x1 : Int32} {x2 : Int32} {x3 : Int32} {x4 : Int32} {M : mS}, Mo_earns_27 N n x1 x2 x3 x4 M = some (r, M') → mRunF (mCd 265) (mEE (mMet mP mTx (d + 10)) (some .int) (some (.int r)) M') (27, [some (.ref 64), some (.int x1), some (.int x2), some (.int x3), some (.int x4)], [], mSS M) := by
  intro n
  induction n with
  | zero => intro x1 x2 x3 x4 M h; cases h
  | succ n ih =>
    replace ih := @ih
    intro x1 x2 x3 x4 M h
    unfold Mo_earns_27 at h
    refine mRunF.sg (mSl mk_265 16 2) (g := (30, [some (.ref 64), some (.int x1), some (.int x2), some (.int x3), some (.int x4)], [.int x2, .int x4], mSS M)) (by decide +kernel) rfl ?_
    refine R_ige (t := 76) ⟨46, by decide +kernel⟩ (fun q => ?_) (fun q => ?_)
    · rw [if_pos q] at h
      refine mRunF.sg (mSl mk_265 47 1) (g := (77, [some (.ref 64), some (.int x1), some (.int x2), some (.int x3), some (.int x4)], [.int x3], mSS M)) (by decide +kernel) rfl ?_
      cases h
      exact R_iret (by decide +kernel)
    · rw [if_neg q] at h
      refine mRunF.sg (mSl mk_265 19 8) (g := (44, [some (.ref 64), some (.int x1), some (.int x2), some (.int x3), some (.int x4)], [.int ((5 * x4) + x1), .ref 100, .int x3], mSS M)) (by decide +kernel) rfl ?_
      obtain ⟨g1, h⟩ := grd_of h
      refine R_iald (by decide +kernel) rfl g1 ?_
      refine mRunF.sg (mSl mk_265 28 7) (g := (55, [some (.ref 64), some (.int x1), some (.int x2), some (.int x3), some (.int x4)], [.int ((5 * x4) + x1), .ref 99, .int (M.1 100 ((5 * x4) + x1).toNatClampNeg), .int x3], mSS M)) (by decide +kernel) rfl ?_
      obtain ⟨g2, h⟩ := grd_of h
      refine R_iald (by decide +kernel) rfl g2 ?_
      refine mRunF.sg (mSl mk_265 36 3) (g := (60, [some (.ref 64), some (.int x1), some (.int x2), some (.int x3), some (.int x4)], [.int x4, .int x1, .ref 64, .int (M.1 99 ((5 * x4) + x1).toNatClampNeg), .int (M.1 100 ((5 * x4) + x1).toNatClampNeg), .int x3], mSS M)) (by decide +kernel) rfl ?_
      obtain ⟨r4, q3, h⟩ := bR_of h
      refine R_callV (mi := 263) (na := 3) (ci := 12) (i := 64) (as := [.int x1, .int x4]) (r := [.int (M.1 99 ((5 * x4) + x1).toNatClampNeg), .int (M.1 100 ((5 * x4) + x1).toNatClampNeg), .int x3]) (rv := some (.int r4)) (σ1 := mSS M) ⟨446, by decide +kernel⟩ rfl rfl rfl rfl (Mo_othersBy_r N x1 x4 M (d + 9) q3) ?_
      show mRunF _ _ (63, [some (.ref 64), some (.int x1), some (.int x2), some (.int x3), some (.int x4)], [.int r4, .int (M.1 99 ((5 * x4) + x1).toNatClampNeg), .int (M.1 100 ((5 * x4) + x1).toNatClampNeg), .int x3], mSS M)
      refine mRunF.sg (mSl mk_265 40 1) (g := (64, [some (.ref 64), some (.int x1), some (.int x2), some (.int x3), some (.int x4)], [.int ((M.1 99 ((5 * x4) + x1).toNatClampNeg) &&& r4), .int (M.1 100 ((5 * x4) + x1).toNatClampNeg), .int x3], mSS M)) (by decide +kernel) rfl ?_
      obtain ⟨r6, q5, h⟩ := bR_of h
      refine R_callS (mi := 208) (na := 1) (as := [.int ((M.1 99 ((5 * x4) + x1).toNatClampNeg) &&& r4)]) (r := [.int (M.1 100 ((5 * x4) + x1).toNatClampNeg), .int x3]) (rv := some (.int r6)) (σ1 := mSS M) ⟨385, by decide +kernel⟩ rfl rfl rfl (Mo_bits_r N ((M.1 99 ((5 * x4) + x1).toNatClampNeg) &&& r4) M (d + 9) q5) ?_
      show mRunF _ _ (67, [some (.ref 64), some (.int x1), some (.int x2), some (.int x3), some (.int x4)], [.int r6, .int (M.1 100 ((5 * x4) + x1).toNatClampNeg), .int x3], mSS M)
      refine mRunF.sg (mSl mk_265 42 3) (g := (70, [some (.ref 64), some (.int x1), some (.int x2), some (.int (x3 + ((M.1 100 ((5 * x4) + x1).toNatClampNeg) * r6))), some (.int x4)], [], mSS M)) (by decide +kernel) rfl ?_
      obtain ⟨v7, hv, h⟩ := nxt_ex h
      rw [← hv]
      clear hv
      refine mRunF.sg (mSl mk_265 45 2) (g := (27, [some (.ref 64), some (.int x1), some (.int x2), some (.int v7), some (.int (x4 + 1))], [], mSS M)) (by decide +kernel) rfl ?_
      exact @ih _ _ _ _ _ h
set_option maxRecDepth 100000 in
set_option maxHeartbeats 4000000 in
theorem Mo_earns_r (N : Nat) (a0 : Int32) (a1 : Int32) (M : mS) {r : Int32} {M' : mS} (d : Nat) (h : Mo_earns N a0 a1 M = some (r, M')) : mMet mP mTx (d + 11) 265 [.ref 64, .int a0, .int a1] (mSS M) (some (.int r)) (mSS M') := by
  refine mMet_i ⟨Nat.le_refl _, Nat.le_refl _, Nat.le_of_ble_eq_true rfl⟩ ?_
  unfold Mo_earns at h
  show mRunF (mCd 265) (mEE (mMet mP mTx (d + 10)) (some .int) (some (.int r)) M') (0, [some (.ref 64), some (.int a0), some (.int a1), none, none], [], mSS M)
  refine mRunF.sg (mSl mk_265 0 2) (g := (2, [some (.ref 64), some (.int a0), some (.int a1), none, none], [.int a0, .ref 64], mSS M)) (by decide +kernel) rfl ?_
  obtain ⟨r9, q8, h⟩ := bR_of h
  refine R_callV (mi := 213) (na := 2) (ci := 12) (i := 64) (as := [.int a0]) (r := []) (rv := some (.int r9)) (σ1 := mSS M) ⟨320, by decide +kernel⟩ rfl rfl rfl rfl (Mo_isGoer_r N a0 M (d + 8) q8) ?_
  have b10 := mBool rfl (Mo_isGoer_r N a0 M (d + 8) q8)
  show mRunF _ _ (5, [some (.ref 64), some (.int a0), some (.int a1), none, none], [.int r9], mSS M)
  refine R_eq (t := 15) ⟨10, by decide +kernel⟩ (fun q => ?_) (fun q => ?_)
  · rw [if_pos q] at h
    refine mRunF.sg (mSl mk_265 7 1) (g := (16, [some (.ref 64), some (.int a0), some (.int a1), none, none], [.int (-1)], mSS M)) (by decide +kernel) rfl ?_
    cases h
    exact R_iret (by decide +kernel)
  · rw [if_neg q] at h
    refine mRunF.sg (mSl mk_265 4 1) (g := (9, [some (.ref 64), some (.int a0), some (.int a1), none, none], [.int a1], mSS M)) (by decide +kernel) rfl ?_
    refine R_callS (mi := 250) (na := 1) (as := [.int a1]) (r := []) (rv := some (.int (Mo_isLong a1 M))) (σ1 := mSS M) ⟨419, by decide +kernel⟩ rfl rfl rfl (Mo_isLong_r a1 M (d + 8)) ?_
    have b11 := mBool rfl (Mo_isLong_r a1 M (d + 8))
    show mRunF _ _ (12, [some (.ref 64), some (.int a0), some (.int a1), none, none], [.int (Mo_isLong a1 M)], mSS M)
    refine R_ne (t := 17) ⟨5, by decide +kernel⟩ (fun q => ?_) (fun q => ?_)
    · rw [if_pos q] at h
      refine mRunF.sg (mSl mk_265 7 1) (g := (16, [some (.ref 64), some (.int a0), some (.int a1), none, none], [.int (-1)], mSS M)) (by decide +kernel) rfl ?_
      cases h
      exact R_iret (by decide +kernel)
    · rw [if_neg q] at h
      refine mRunF.sg (mSl mk_265 9 2) (g := (19, [some (.ref 64), some (.int a0), some (.int a1), none, none], [.int a1, .ref 64], mSS M)) (by decide +kernel) rfl ?_
      obtain ⟨M13, q12, h⟩ := bV_of h
      refine R_callV (mi := 255) (na := 2) (ci := 12) (i := 64) (as := [.int a1]) (r := []) (rv := none) (σ1 := mSS M13) ⟨434, by decide +kernel⟩ rfl rfl rfl rfl (Mo_fillsStill_r N a1 M (d + 0) q12) ?_
      show mRunF _ _ (22, [some (.ref 64), some (.int a0), some (.int a1), none, none], [], mSS M13)
      refine mRunF.sg (mSl mk_265 12 4) (g := (27, [some (.ref 64), some (.int a0), some (.int a1), some (.int 0), some (.int 0)], [], mSS M13)) (by decide +kernel) rfl ?_
      exact Mo_earns_27_r h
set_option maxRecDepth 100000 in
set_option maxHeartbeats 4000000 in
theorem Mo_right_12_r {N d : Nat}  {M : mS}  {r : Int32} : ∀ {n : Nat} {x1 : Int32} {x2 : Int32}, Mo_right_12 N M n x1 x2 = some r → mRunF (mCd 267) (mEE (mMet mP mTx (d + 2)) (some .int) (some (.int r)) M) (12, [some (.ref 64), some (.int x1), some (.int x2)], [], mSS M) := by
  intro n
  induction n with
  | zero => intro x1 x2 h; cases h
  | succ n ih =>
    replace ih := @ih
    intro x1 x2 h
    unfold Mo_right_12 at h
    refine mRunF.sg (mSl mk_267 8 2) (g := (14, [some (.ref 64), some (.int x1), some (.int x2)], [.ref 64, .int x2], mSS M)) (by decide +kernel) rfl ?_
    obtain ⟨r2, q1, h⟩ := bR_of h
    refine R_callV (mi := 210) (na := 1) (ci := 12) (i := 64) (as := []) (r := [.int x2]) (rv := some (.int r2)) (σ1 := mSS M) ⟨313, by decide +kernel⟩ rfl rfl rfl rfl (Mo_hours_r N M (d + 1) q1) ?_
    show mRunF _ _ (17, [some (.ref 64), some (.int x1), some (.int x2)], [.int r2, .int x2], mSS M)
    refine R_ige (t := 53) ⟨36, by decide +kernel⟩ (fun q => ?_) (fun q => ?_)
    · rw [if_pos q] at h
      refine mRunF.sg (mSl mk_267 33 1) (g := (55, [some (.ref 64), some (.int x1), some (.int x2)], [.int (-2)], mSS M)) (by decide +kernel) rfl ?_
      cases h
      exact R_iret (by decide +kernel)
    · rw [if_neg q] at h
      refine mRunF.sg (mSl mk_267 12 3) (g := (25, [some (.ref 64), some (.int x1), some (.int x2)], [.int x1, .ref 95], mSS M)) (by decide +kernel) rfl ?_
      obtain ⟨g3, h⟩ := grd_of h
      refine R_iald (by decide +kernel) rfl g3 ?_
      refine mRunF.sg (mSl mk_267 16 6) (g := (34, [some (.ref 64), some (.int x1), some (.int x2)], [.int (4 + x1), .ref 95, .int x2, .int (M.1 95 x1.toNatClampNeg)], mSS M)) (by decide +kernel) rfl ?_
      obtain ⟨g4, h⟩ := grd_of h
      refine R_iald (by decide +kernel) rfl g4 ?_
      refine mRunF.sg (mSl mk_267 23 3) (g := (38, [some (.ref 64), some (.int x1), some (.int x2)], [.ref 64, .int ((M.1 95 x1.toNatClampNeg) + (x2 * (M.1 95 (4 + x1).toNatClampNeg)))], mSS M)) (by decide +kernel) rfl ?_
      obtain ⟨r6, q5, h⟩ := bR_of h
      refine R_callV (mi := 210) (na := 1) (ci := 12) (i := 64) (as := []) (r := [.int ((M.1 95 x1.toNatClampNeg) + (x2 * (M.1 95 (4 + x1).toNatClampNeg)))]) (rv := some (.int r6)) (σ1 := mSS M) ⟨313, by decide +kernel⟩ rfl rfl rfl rfl (Mo_hours_r N M (d + 1) q5) ?_
      show mRunF _ _ (41, [some (.ref 64), some (.int x1), some (.int x2)], [.int r6, .int ((M.1 95 x1.toNatClampNeg) + (x2 * (M.1 95 (4 + x1).toNatClampNeg)))], mSS M)
      obtain ⟨g7, h⟩ := nz_of h
      refine R_rem (by decide +kernel) g7 ?_
      refine R_ne (t := 47) ⟨5, by decide +kernel⟩ (fun q => ?_) (fun q => ?_)
      · rw [if_pos q] at h
        refine mRunF.sg (mSl mk_267 29 1) (g := (46, [some (.ref 64), some (.int x1), some (.int x2)], [.int x2], mSS M)) (by decide +kernel) rfl ?_
        cases h
        exact R_iret (by decide +kernel)
      · rw [if_neg q] at h
        refine mRunF.sg (mSl mk_267 31 2) (g := (12, [some (.ref 64), some (.int x1), some (.int (x2 + 1))], [], mSS M)) (by decide +kernel) rfl ?_
        exact @ih _ _ h
set_option maxRecDepth 100000 in
set_option maxHeartbeats 4000000 in
theorem Mo_right_r (N : Nat) (a0 : Int32) (M : mS) {r : Int32} (d : Nat) (h : Mo_right N a0 M = some r) : mMet mP mTx (d + 3) 267 [.ref 64, .int a0] (mSS M) (some (.int r)) (mSS M) := by
  refine mMet_i ⟨Nat.le_refl _, Nat.le_refl _, Nat.le_of_ble_eq_true rfl⟩ ?_
  unfold Mo_right at h
  show mRunF (mCd 267) (mEE (mMet mP mTx (d + 2)) (some .int) (some (.int r)) M) (0, [some (.ref 64), some (.int a0), none], [], mSS M)
  refine mRunF.sg (mSl mk_267 0 2) (g := (2, [some (.ref 64), some (.int a0), none], [.int a0, .ref 64], mSS M)) (by decide +kernel) rfl ?_
  obtain ⟨r9, q8, h⟩ := bR_of h
  refine R_callV (mi := 212) (na := 2) (ci := 12) (i := 64) (as := [.int a0]) (r := []) (rv := some (.int r9)) (σ1 := mSS M) ⟨394, by decide +kernel⟩ rfl rfl rfl rfl (Mo_isDial_r N a0 M (d + 0) q8) ?_
  have b10 := mBool rfl (Mo_isDial_r N a0 M (d + 0) q8)
  show mRunF _ _ (5, [some (.ref 64), some (.int a0), none], [.int r9], mSS M)
  refine R_ne (t := 10) ⟨5, by decide +kernel⟩ (fun q => ?_) (fun q => ?_)
  · rw [if_pos q] at h
    refine mRunF.sg (mSl mk_267 4 1) (g := (9, [some (.ref 64), some (.int a0), none], [.int (-1)], mSS M)) (by decide +kernel) rfl ?_
    cases h
    exact R_iret (by decide +kernel)
  · rw [if_neg q] at h
    refine mRunF.sg (mSl mk_267 6 2) (g := (12, [some (.ref 64), some (.int a0), some (.int 0)], [], mSS M)) (by decide +kernel) rfl ?_
    exact Mo_right_12_r h
set_option maxRecDepth 100000 in
set_option maxHeartbeats 4000000 in
theorem Mo_agree_20_r {N d : Nat}  {M : mS}  {r : Int32} : ∀ {n : Nat} {x1 : Int32} {x2 : Int32} {x3 : Int32}, Mo_agree_20 N M n x1 x2 x3 = some r → mRunF (mCd 268) (mEE (mMet mP mTx (d + 2)) (some .int) (some (.int r)) M) (20, [some (.ref 64), some (.int x1), some (.int x2), some (.int x3)], [], mSS M) := by
  intro n
  induction n with
  | zero => intro x1 x2 x3 h; cases h
  | succ n ih =>
    replace ih := @ih
    intro x1 x2 x3 h
    unfold Mo_agree_20 at h
    refine mRunF.sg (mSl mk_268 12 2) (g := (22, [some (.ref 64), some (.int x1), some (.int x2), some (.int x3)], [.ref 64, .int x3], mSS M)) (by decide +kernel) rfl ?_
    obtain ⟨r2, q1, h⟩ := bR_of h
    refine R_callV (mi := 210) (na := 1) (ci := 12) (i := 64) (as := []) (r := [.int x3]) (rv := some (.int r2)) (σ1 := mSS M) ⟨313, by decide +kernel⟩ rfl rfl rfl rfl (Mo_hours_r N M (d + 1) q1) ?_
    show mRunF _ _ (25, [some (.ref 64), some (.int x1), some (.int x2), some (.int x3)], [.int r2, .int x3], mSS M)
    refine R_ige (t := 83) ⟨58, by decide +kernel⟩ (fun q => ?_) (fun q => ?_)
    · rw [if_pos q] at h
      refine mRunF.sg (mSl mk_268 53 1) (g := (85, [some (.ref 64), some (.int x1), some (.int x2), some (.int x3)], [.int (-2)], mSS M)) (by decide +kernel) rfl ?_
      cases h
      exact R_iret (by decide +kernel)
    · rw [if_neg q] at h
      refine mRunF.sg (mSl mk_268 16 3) (g := (33, [some (.ref 64), some (.int x1), some (.int x2), some (.int x3)], [.int x1, .ref 95], mSS M)) (by decide +kernel) rfl ?_
      obtain ⟨g3, h⟩ := grd_of h
      refine R_iald (by decide +kernel) rfl g3 ?_
      refine mRunF.sg (mSl mk_268 20 6) (g := (42, [some (.ref 64), some (.int x1), some (.int x2), some (.int x3)], [.int (4 + x1), .ref 95, .int x3, .int (M.1 95 x1.toNatClampNeg)], mSS M)) (by decide +kernel) rfl ?_
      obtain ⟨g4, h⟩ := grd_of h
      refine R_iald (by decide +kernel) rfl g4 ?_
      refine mRunF.sg (mSl mk_268 27 3) (g := (46, [some (.ref 64), some (.int x1), some (.int x2), some (.int x3)], [.ref 64, .int ((M.1 95 x1.toNatClampNeg) + (x3 * (M.1 95 (4 + x1).toNatClampNeg)))], mSS M)) (by decide +kernel) rfl ?_
      obtain ⟨r6, q5, h⟩ := bR_of h
      refine R_callV (mi := 210) (na := 1) (ci := 12) (i := 64) (as := []) (r := [.int ((M.1 95 x1.toNatClampNeg) + (x3 * (M.1 95 (4 + x1).toNatClampNeg)))]) (rv := some (.int r6)) (σ1 := mSS M) ⟨313, by decide +kernel⟩ rfl rfl rfl rfl (Mo_hours_r N M (d + 1) q5) ?_
      show mRunF _ _ (49, [some (.ref 64), some (.int x1), some (.int x2), some (.int x3)], [.int r6, .int ((M.1 95 x1.toNatClampNeg) + (x3 * (M.1 95 (4 + x1).toNatClampNeg)))], mSS M)
      obtain ⟨g7, h⟩ := nz_of h
      refine R_rem (by decide +kernel) g7 ?_
      refine mRunF.sg (mSl mk_268 32 3) (g := (55, [some (.ref 64), some (.int x1), some (.int x2), some (.int x3)], [.int x2, .ref 95, .int (((M.1 95 x1.toNatClampNeg) + (x3 * (M.1 95 (4 + x1).toNatClampNeg))) - ((M.1 95 x1.toNatClampNeg) + (x3 * (M.1 95 (4 + x1).toNatClampNeg))) / r6 * r6)], mSS M)) (by decide +kernel) rfl ?_
      obtain ⟨g8, h⟩ := grd_of h
      refine R_iald (by decide +kernel) rfl g8 ?_
      refine mRunF.sg (mSl mk_268 36 6) (g := (64, [some (.ref 64), some (.int x1), some (.int x2), some (.int x3)], [.int (4 + x2), .ref 95, .int x3, .int (M.1 95 x2.toNatClampNeg), .int (((M.1 95 x1.toNatClampNeg) + (x3 * (M.1 95 (4 + x1).toNatClampNeg))) - ((M.1 95 x1.toNatClampNeg) + (x3 * (M.1 95 (4 + x1).toNatClampNeg))) / r6 * r6)], mSS M)) (by decide +kernel) rfl ?_
      obtain ⟨g9, h⟩ := grd_of h
      refine R_iald (by decide +kernel) rfl g9 ?_
      refine mRunF.sg (mSl mk_268 43 3) (g := (68, [some (.ref 64), some (.int x1), some (.int x2), some (.int x3)], [.ref 64, .int ((M.1 95 x2.toNatClampNeg) + (x3 * (M.1 95 (4 + x2).toNatClampNeg))), .int (((M.1 95 x1.toNatClampNeg) + (x3 * (M.1 95 (4 + x1).toNatClampNeg))) - ((M.1 95 x1.toNatClampNeg) + (x3 * (M.1 95 (4 + x1).toNatClampNeg))) / r6 * r6)], mSS M)) (by decide +kernel) rfl ?_
      obtain ⟨r11, q10, h⟩ := bR_of h
      refine R_callV (mi := 210) (na := 1) (ci := 12) (i := 64) (as := []) (r := [.int ((M.1 95 x2.toNatClampNeg) + (x3 * (M.1 95 (4 + x2).toNatClampNeg))), .int (((M.1 95 x1.toNatClampNeg) + (x3 * (M.1 95 (4 + x1).toNatClampNeg))) - ((M.1 95 x1.toNatClampNeg) + (x3 * (M.1 95 (4 + x1).toNatClampNeg))) / r6 * r6)]) (rv := some (.int r11)) (σ1 := mSS M) ⟨313, by decide +kernel⟩ rfl rfl rfl rfl (Mo_hours_r N M (d + 1) q10) ?_
      show mRunF _ _ (71, [some (.ref 64), some (.int x1), some (.int x2), some (.int x3)], [.int r11, .int ((M.1 95 x2.toNatClampNeg) + (x3 * (M.1 95 (4 + x2).toNatClampNeg))), .int (((M.1 95 x1.toNatClampNeg) + (x3 * (M.1 95 (4 + x1).toNatClampNeg))) - ((M.1 95 x1.toNatClampNeg) + (x3 * (M.1 95 (4 + x1).toNatClampNeg))) / r6 * r6)], mSS M)
      obtain ⟨g12, h⟩ := nz_of h
      refine R_rem (by decide +kernel) g12 ?_
      refine R_ine (t := 77) ⟨5, by decide +kernel⟩ (fun q => ?_) (fun q => ?_)
      · rw [if_pos q] at h
        refine mRunF.sg (mSl mk_268 49 1) (g := (76, [some (.ref 64), some (.int x1), some (.int x2), some (.int x3)], [.int x3], mSS M)) (by decide +kernel) rfl ?_
        cases h
        exact R_iret (by decide +kernel)
      · rw [if_neg q] at h
        refine mRunF.sg (mSl mk_268 51 2) (g := (20, [some (.ref 64), some (.int x1), some (.int x2), some (.int (x3 + 1))], [], mSS M)) (by decide +kernel) rfl ?_
        exact @ih _ _ _ h
set_option maxRecDepth 100000 in
set_option maxHeartbeats 4000000 in
theorem Mo_agree_r (N : Nat) (a0 : Int32) (a1 : Int32) (M : mS) {r : Int32} (d : Nat) (h : Mo_agree N a0 a1 M = some r) : mMet mP mTx (d + 3) 268 [.ref 64, .int a0, .int a1] (mSS M) (some (.int r)) (mSS M) := by
  refine mMet_i ⟨Nat.le_refl _, Nat.le_refl _, Nat.le_of_ble_eq_true rfl⟩ ?_
  unfold Mo_agree at h
  show mRunF (mCd 268) (mEE (mMet mP mTx (d + 2)) (some .int) (some (.int r)) M) (0, [some (.ref 64), some (.int a0), some (.int a1), none], [], mSS M)
  refine mRunF.sg (mSl mk_268 0 2) (g := (2, [some (.ref 64), some (.int a0), some (.int a1), none], [.int a0, .ref 64], mSS M)) (by decide +kernel) rfl ?_
  obtain ⟨r14, q13, h⟩ := bR_of h
  refine R_callV (mi := 212) (na := 2) (ci := 12) (i := 64) (as := [.int a0]) (r := []) (rv := some (.int r14)) (σ1 := mSS M) ⟨394, by decide +kernel⟩ rfl rfl rfl rfl (Mo_isDial_r N a0 M (d + 0) q13) ?_
  have b15 := mBool rfl (Mo_isDial_r N a0 M (d + 0) q13)
  show mRunF _ _ (5, [some (.ref 64), some (.int a0), some (.int a1), none], [.int r14], mSS M)
  refine R_eq (t := 16) ⟨11, by decide +kernel⟩ (fun q => ?_) (fun q => ?_)
  · rw [if_pos q] at h
    refine mRunF.sg (mSl mk_268 8 1) (g := (17, [some (.ref 64), some (.int a0), some (.int a1), none], [.int (-1)], mSS M)) (by decide +kernel) rfl ?_
    cases h
    exact R_iret (by decide +kernel)
  · rw [if_neg q] at h
    refine mRunF.sg (mSl mk_268 4 2) (g := (10, [some (.ref 64), some (.int a0), some (.int a1), none], [.int a1, .ref 64], mSS M)) (by decide +kernel) rfl ?_
    obtain ⟨r17, q16, h⟩ := bR_of h
    refine R_callV (mi := 212) (na := 2) (ci := 12) (i := 64) (as := [.int a1]) (r := []) (rv := some (.int r17)) (σ1 := mSS M) ⟨394, by decide +kernel⟩ rfl rfl rfl rfl (Mo_isDial_r N a1 M (d + 0) q16) ?_
    have b18 := mBool rfl (Mo_isDial_r N a1 M (d + 0) q16)
    show mRunF _ _ (13, [some (.ref 64), some (.int a0), some (.int a1), none], [.int r17], mSS M)
    refine R_ne (t := 18) ⟨5, by decide +kernel⟩ (fun q => ?_) (fun q => ?_)
    · rw [if_pos q] at h
      refine mRunF.sg (mSl mk_268 8 1) (g := (17, [some (.ref 64), some (.int a0), some (.int a1), none], [.int (-1)], mSS M)) (by decide +kernel) rfl ?_
      cases h
      exact R_iret (by decide +kernel)
    · rw [if_neg q] at h
      refine mRunF.sg (mSl mk_268 10 2) (g := (20, [some (.ref 64), some (.int a0), some (.int a1), some (.int 0)], [], mSS M)) (by decide +kernel) rfl ?_
      exact Mo_agree_20_r h
set_option maxRecDepth 100000 in
set_option maxHeartbeats 4000000 in
theorem Mo_round_59_r {N d : Nat} {k4 : Int32 → Int32 → Option Int32} {M : mS} {x1 : Int32} {z0 : Int32} {r : Int32} (hk4 : ∀ (x1 : Int32) (x2 : Int32), k4 x1 x2 = some r → mRunF (mCd 269) (mEE (mMet mP mTx (d + 1)) (some .int) (some (.int r)) M) (4, [some (.ref 64), some (.int x1), some (.int x2), none], [], mSS M)) (h : Mo_round_59 N k4 M x1 z0 = some r) : mRunF (mCd 269) (mEE (mMet mP mTx (d + 1)) (some .int) (some (.int r)) M) (59, [some (.ref 64), some (.int x1), none, none], [.int z0], mSS M) := by
  unfold Mo_round_59 at h
  refine mRunF.sg (mSl mk_269 37 2) (g := (4, [some (.ref 64), some (.int x1), some (.int z0), none], [], mSS M)) (by decide +kernel) rfl ?_
  exact hk4 _ _ h
set_option maxRecDepth 100000 in
set_option maxHeartbeats 4000000 in
theorem Mo_round_48_r {N d : Nat} {k4 : Int32 → Int32 → Option Int32} {M : mS} {x1 : Int32} {x2 : Int32} {x3 : Int32} {r : Int32} (hk4 : ∀ (x1 : Int32) (x2 : Int32), k4 x1 x2 = some r → mRunF (mCd 269) (mEE (mMet mP mTx (d + 1)) (some .int) (some (.int r)) M) (4, [some (.ref 64), some (.int x1), some (.int x2), none], [], mSS M)) (h : Mo_round_48 N k4 M x1 x2 x3 = some r) : mRunF (mCd 269) (mEE (mMet mP mTx (d + 1)) (some .int) (some (.int r)) M) (48, [some (.ref 64), some (.int x1), some (.int x2), some (.int x3)], [], mSS M) := by
  unfold Mo_round_48 at h
  refine mRunF.sg (mSl mk_269 30 1) (g := (49, [some (.ref 64), some (.int x1), some (.int x2), some (.int x3)], [.int x3], mSS M)) (by decide +kernel) rfl ?_
  refine R_eq (t := 58) ⟨9, by decide +kernel⟩ (fun q => ?_) (fun q => ?_)
  · rw [if_pos q] at h
    refine mRunF.sg (mSl mk_269 36 1) (g := (59, [some (.ref 64), some (.int x1), some (.int x2), some (.int x3)], [.int 0], mSS M)) (by decide +kernel) rfl ?_
    refine mRunF.forget [true, true, false, false] ?_
    exact Mo_round_59_r hk4 h
  · rw [if_neg q] at h
    refine mRunF.sg (mSl mk_269 32 4) (g := (59, [some (.ref 64), some (.int x1), some (.int x2), some (.int x3)], [.int (x2 + 1)], mSS M)) (by decide +kernel) rfl ?_
    refine mRunF.forget [true, true, false, false] ?_
    exact Mo_round_59_r hk4 h
set_option maxRecDepth 100000 in
set_option maxHeartbeats 4000000 in
theorem Mo_round_40_r {N d : Nat} {k4 : Int32 → Int32 → Option Int32} {M : mS} {x1 : Int32} {x2 : Int32} {z0 : Int32} {r : Int32} (hk4 : ∀ (x1 : Int32) (x2 : Int32), k4 x1 x2 = some r → mRunF (mCd 269) (mEE (mMet mP mTx (d + 1)) (some .int) (some (.int r)) M) (4, [some (.ref 64), some (.int x1), some (.int x2), none], [], mSS M)) (h : Mo_round_40 N k4 M x1 x2 z0 = some r) : mRunF (mCd 269) (mEE (mMet mP mTx (d + 1)) (some .int) (some (.int r)) M) (40, [some (.ref 64), some (.int x1), some (.int x2), none], [.int z0], mSS M) := by
  unfold Mo_round_40 at h
  refine mRunF.sg (mSl mk_269 26 2) (g := (42, [some (.ref 64), some (.int x1), some (.int x2), some (.int z0)], [.int z0], mSS M)) (by decide +kernel) rfl ?_
  refine R_ne (t := 48) ⟨6, by decide +kernel⟩ (fun q => ?_) (fun q => ?_)
  · rw [if_pos q] at h
    refine mRunF.sg (mSl mk_269 29 1) (g := (48, [some (.ref 64), some (.int (x1 + 1)), some (.int x2), some (.int z0)], [], mSS M)) (by decide +kernel) rfl ?_
    exact Mo_round_48_r hk4 h
  · rw [if_neg q] at h
    exact Mo_round_48_r hk4 h
set_option maxRecDepth 100000 in
set_option maxHeartbeats 4000000 in
theorem Mo_round_4_r {N d : Nat}  {M : mS}  {r : Int32} : ∀ {n : Nat} {x1 : Int32} {x2 : Int32}, Mo_round_4 N M n x1 x2 = some r → mRunF (mCd 269) (mEE (mMet mP mTx (d + 1)) (some .int) (some (.int r)) M) (4, [some (.ref 64), some (.int x1), some (.int x2), none], [], mSS M) := by
  intro n
  induction n with
  | zero => intro x1 x2 h; cases h
  | succ n ih =>
    replace ih := @ih
    intro x1 x2 h
    unfold Mo_round_4 at h
    refine mRunF.sg (mSl mk_269 4 5) (g := (13, [some (.ref 64), some (.int x1), some (.int x2), none], [.int (M.1 64 18), .ref 75, .int x2], mSS M)) (by decide +kernel) rfl ?_
    obtain ⟨g1, h⟩ := grd_of h
    refine R_iald (by decide +kernel) rfl g1 ?_
    refine R_ige (t := 63) ⟨49, by decide +kernel⟩ (fun q => ?_) (fun q => ?_)
    · rw [if_pos q] at h
      refine mRunF.sg (mSl mk_269 39 1) (g := (64, [some (.ref 64), some (.int x1), some (.int x2), none], [.int x1], mSS M)) (by decide +kernel) rfl ?_
      cases h
      exact R_iret (by decide +kernel)
    · rw [if_neg q] at h
      refine mRunF.sg (mSl mk_269 11 6) (g := (25, [some (.ref 64), some (.int x1), some (.int x2), none], [.int (4 + x2), .ref 95, .int x1], mSS M)) (by decide +kernel) rfl ?_
      obtain ⟨g2, h⟩ := grd_of h
      refine R_iald (by decide +kernel) rfl g2 ?_
      refine mRunF.sg (mSl mk_269 18 2) (g := (28, [some (.ref 64), some (.int x1), some (.int x2), none], [.ref 64, .int (x1 * (M.1 95 (4 + x2).toNatClampNeg))], mSS M)) (by decide +kernel) rfl ?_
      obtain ⟨r4, q3, h⟩ := bR_of h
      refine R_callV (mi := 210) (na := 1) (ci := 12) (i := 64) (as := []) (r := [.int (x1 * (M.1 95 (4 + x2).toNatClampNeg))]) (rv := some (.int r4)) (σ1 := mSS M) ⟨313, by decide +kernel⟩ rfl rfl rfl rfl (Mo_hours_r N M (d + 0) q3) ?_
      show mRunF _ _ (31, [some (.ref 64), some (.int x1), some (.int x2), none], [.int r4, .int (x1 * (M.1 95 (4 + x2).toNatClampNeg))], mSS M)
      obtain ⟨g5, h⟩ := nz_of h
      refine R_rem (by decide +kernel) g5 ?_
      refine R_ne (t := 39) ⟨7, by decide +kernel⟩ (fun q => ?_) (fun q => ?_)
      · rw [if_pos q] at h
        refine mRunF.sg (mSl mk_269 23 2) (g := (40, [some (.ref 64), some (.int x1), some (.int x2), none], [.int 1], mSS M)) (by decide +kernel) rfl ?_
        exact Mo_round_40_r (fun y0 y1 hh => @ih y0 y1 hh) h
      · rw [if_neg q] at h
        refine mRunF.sg (mSl mk_269 25 1) (g := (40, [some (.ref 64), some (.int x1), some (.int x2), none], [.int 0], mSS M)) (by decide +kernel) rfl ?_
        exact Mo_round_40_r (fun y0 y1 hh => @ih y0 y1 hh) h
set_option maxRecDepth 100000 in
set_option maxHeartbeats 4000000 in
theorem Mo_round_r (N : Nat)  (M : mS) {r : Int32} (d : Nat) (h : Mo_round N M = some r) : mMet mP mTx (d + 2) 269 [.ref 64] (mSS M) (some (.int r)) (mSS M) := by
  refine mMet_i ⟨Nat.le_refl _, Nat.le_refl _, Nat.le_of_ble_eq_true rfl⟩ ?_
  unfold Mo_round at h
  show mRunF (mCd 269) (mEE (mMet mP mTx (d + 1)) (some .int) (some (.int r)) M) (0, [some (.ref 64), none, none, none], [], mSS M)
  refine mRunF.sg (mSl mk_269 0 4) (g := (4, [some (.ref 64), some (.int 1), some (.int 0), none], [], mSS M)) (by decide +kernel) rfl ?_
  exact Mo_round_4_r h
set_option maxRecDepth 100000 in
set_option maxHeartbeats 4000000 in
theorem Mo_isSpan_r (a0 : Int32) (M : mS) (d : Nat) : mMet mP mTx (d + 2) 251 [.int a0] (mSS M) (some (.int (Mo_isSpan a0 M))) (mSS M) := by
  refine mMet_i ⟨Nat.le_refl _, Nat.le_refl _, Nat.le_of_ble_eq_true rfl⟩ ?_
  generalize h : Mo_isSpan a0 M = r
  unfold Mo_isSpan at h
  show mRunF (mCd 251) (mEE (mMet mP mTx (d + 1)) (some .boolean) (some (.int r)) M) (0, [some (.int a0)], [], mSS M)
  refine mRunF.sg (mSl mk_251 0 3) (g := (4, [some (.int a0)], [.int 60, .int 0, .int a0], mSS M)) (by decide +kernel) rfl ?_
  refine R_callS (mi := 206) (na := 3) (as := [.int a0, .int 0, .int 60]) (r := []) (rv := some (.int (Mo_in a0 0 60 M))) (σ1 := mSS M) ⟨316, by decide +kernel⟩ rfl rfl rfl (Mo_in_r a0 0 60 M (d + 0)) ?_
  have b1 := mBool rfl (Mo_in_r a0 0 60 M (d + 0))
  show mRunF _ _ (7, [some (.int a0)], [.int (Mo_in a0 0 60 M)], mSS M)
  subst h
  exact R_zret (by decide +kernel) b1
set_option maxRecDepth 100000 in
set_option maxHeartbeats 4000000 in
theorem Mo_isAsked_r (N : Nat) (a0 : Int32) (a1 : Int32) (a2 : Int32) (M : mS) {r : Int32} (d : Nat) (h : Mo_isAsked N a0 a1 a2 M = some r) : mMet mP mTx (d + 3) 272 [.ref 64, .int a0, .int a1, .int a2] (mSS M) (some (.int r)) (mSS M) := by
  refine mMet_i ⟨Nat.le_refl _, Nat.le_refl _, Nat.le_of_ble_eq_true rfl⟩ ?_
  unfold Mo_isAsked at h
  show mRunF (mCd 272) (mEE (mMet mP mTx (d + 2)) (some .boolean) (some (.int r)) M) (0, [some (.ref 64), some (.int a0), some (.int a1), some (.int a2)], [], mSS M)
  refine mRunF.sg (mSl mk_272 0 2) (g := (2, [some (.ref 64), some (.int a0), some (.int a1), some (.int a2)], [.int a0, .ref 64], mSS M)) (by decide +kernel) rfl ?_
  obtain ⟨r2, q1, h⟩ := bR_of h
  refine R_callV (mi := 212) (na := 2) (ci := 12) (i := 64) (as := [.int a0]) (r := []) (rv := some (.int r2)) (σ1 := mSS M) ⟨394, by decide +kernel⟩ rfl rfl rfl rfl (Mo_isDial_r N a0 M (d + 0) q1) ?_
  have b3 := mBool rfl (Mo_isDial_r N a0 M (d + 0) q1)
  show mRunF _ _ (5, [some (.ref 64), some (.int a0), some (.int a1), some (.int a2)], [.int r2], mSS M)
  refine R_eq (t := 27) ⟨22, by decide +kernel⟩ (fun q => ?_) (fun q => ?_)
  · rw [if_pos q] at h
    refine mRunF.sg (mSl mk_272 13 1) (g := (28, [some (.ref 64), some (.int a0), some (.int a1), some (.int a2)], [.int 0], mSS M)) (by decide +kernel) rfl ?_
    cases h
    exact R_zret (by decide +kernel) (Or.inl rfl)
  · rw [if_neg q] at h
    refine mRunF.sg (mSl mk_272 4 2) (g := (10, [some (.ref 64), some (.int a0), some (.int a1), some (.int a2)], [.int a1, .ref 64], mSS M)) (by decide +kernel) rfl ?_
    obtain ⟨r5, q4, h⟩ := bR_of h
    refine R_callV (mi := 258) (na := 2) (ci := 12) (i := 64) (as := [.int a1]) (r := []) (rv := some (.int r5)) (σ1 := mSS M) ⟨431, by decide +kernel⟩ rfl rfl rfl rfl (Mo_isGroup_r N a1 M (d + 0) q4) ?_
    have b6 := mBool rfl (Mo_isGroup_r N a1 M (d + 0) q4)
    show mRunF _ _ (13, [some (.ref 64), some (.int a0), some (.int a1), some (.int a2)], [.int r5], mSS M)
    refine R_eq (t := 27) ⟨14, by decide +kernel⟩ (fun q => ?_) (fun q => ?_)
    · rw [if_pos q] at h
      refine mRunF.sg (mSl mk_272 13 1) (g := (28, [some (.ref 64), some (.int a0), some (.int a1), some (.int a2)], [.int 0], mSS M)) (by decide +kernel) rfl ?_
      cases h
      exact R_zret (by decide +kernel) (Or.inl rfl)
    · rw [if_neg q] at h
      refine mRunF.sg (mSl mk_272 8 1) (g := (17, [some (.ref 64), some (.int a0), some (.int a1), some (.int a2)], [.int a2], mSS M)) (by decide +kernel) rfl ?_
      refine R_callS (mi := 251) (na := 1) (as := [.int a2]) (r := []) (rv := some (.int (Mo_isSpan a2 M))) (σ1 := mSS M) ⟨453, by decide +kernel⟩ rfl rfl rfl (Mo_isSpan_r a2 M (d + 0)) ?_
      have b7 := mBool rfl (Mo_isSpan_r a2 M (d + 0))
      show mRunF _ _ (20, [some (.ref 64), some (.int a0), some (.int a1), some (.int a2)], [.int (Mo_isSpan a2 M)], mSS M)
      refine R_eq (t := 27) ⟨7, by decide +kernel⟩ (fun q => ?_) (fun q => ?_)
      · rw [if_pos q] at h
        refine mRunF.sg (mSl mk_272 13 1) (g := (28, [some (.ref 64), some (.int a0), some (.int a1), some (.int a2)], [.int 0], mSS M)) (by decide +kernel) rfl ?_
        cases h
        exact R_zret (by decide +kernel) (Or.inl rfl)
      · rw [if_neg q] at h
        refine mRunF.sg (mSl mk_272 11 2) (g := (28, [some (.ref 64), some (.int a0), some (.int a1), some (.int a2)], [.int 1], mSS M)) (by decide +kernel) rfl ?_
        cases h
        exact R_zret (by decide +kernel) (Or.inr rfl)
set_option maxRecDepth 100000 in
set_option maxHeartbeats 4000000 in
theorem Mo_isSo_52_r {N d : Nat}  {M : mS} {x4 : Int32} {x5 : Int32} {r : Int32} {M' : mS} (h : Mo_isSo_52 N x4 x5 M = some (r, M')) : mRunF (mCd 270) (mEE (mMet mP mTx (d + 9)) (some .boolean) (some (.int r)) M') (52, [some (.ref 64), none, none, none, some (.int x4), some (.int x5)], [], mSS M) := by
  unfold Mo_isSo_52 at h
  refine mRunF.sg (mSl mk_270 30 1) (g := (54, [some (.ref 64), none, none, none, some (.int x4), some (.int x5)], [.int x4], mSS M)) (by decide +kernel) rfl ?_
  refine R_eq (t := 68) ⟨14, by decide +kernel⟩ (fun q => ?_) (fun q => ?_)
  · rw [if_pos q] at h
    refine mRunF.sg (mSl mk_270 37 2) (g := (73, [some (.ref 64), none, none, none, some (.int x4), some (.int x5)], [.int 1], mSS M)) (by decide +kernel) rfl ?_
    cases h
    exact R_zret (by decide +kernel) (Or.inr rfl)
  · rw [if_neg q] at h
    refine mRunF.sg (mSl mk_270 32 3) (g := (62, [some (.ref 64), none, none, none, some (.int x4), some (.int x5)], [.int x5, .int x4, .ref 64], mSS M)) (by decide +kernel) rfl ?_
    obtain ⟨r2, q1, h⟩ := bR_of h
    refine R_callV (mi := 257) (na := 3) (ci := 12) (i := 64) (as := [.int x4, .int x5]) (r := []) (rv := some (.int r2)) (σ1 := mSS M) ⟨437, by decide +kernel⟩ rfl rfl rfl rfl (Mo_firstMeet_r N x4 x5 M (d + 6) q1) ?_
    show mRunF _ _ (65, [some (.ref 64), none, none, none, some (.int x4), some (.int x5)], [.int r2], mSS M)
    refine R_ge (t := 72) ⟨7, by decide +kernel⟩ (fun q => ?_) (fun q => ?_)
    · rw [if_pos q] at h
      refine mRunF.sg (mSl mk_270 39 1) (g := (73, [some (.ref 64), none, none, none, some (.int x4), some (.int x5)], [.int 0], mSS M)) (by decide +kernel) rfl ?_
      cases h
      exact R_zret (by decide +kernel) (Or.inl rfl)
    · rw [if_neg q] at h
      refine mRunF.sg (mSl mk_270 37 2) (g := (73, [some (.ref 64), none, none, none, some (.int x4), some (.int x5)], [.int 1], mSS M)) (by decide +kernel) rfl ?_
      cases h
      exact R_zret (by decide +kernel) (Or.inr rfl)
set_option maxRecDepth 100000 in
set_option maxHeartbeats 4000000 in
theorem Mo_isSo_31_r {N d : Nat}  {M : mS} {x3 : Int32} {x4 : Int32} {x5 : Int32} {z1 : Int32} {z2 : Int32} {r : Int32} {M' : mS} (h : Mo_isSo_31 N x3 x4 x5 z1 z2 M = some (r, M')) : mRunF (mCd 270) (mEE (mMet mP mTx (d + 9)) (some .boolean) (some (.int r)) M') (31, [some (.ref 64), none, none, some (.int x3), some (.int x4), some (.int x5)], [.int z2, .int z1, .ref 96], mSS M) := by
  unfold Mo_isSo_31 at h
  obtain ⟨g3, h⟩ := grd_of h
  refine R_iast (by decide +kernel) rfl g3 ?_
  obtain ⟨M4, hv, h⟩ := nxt_ex h
  rw [← hv]
  clear hv
  refine mRunF.sg (mSl mk_270 20 2) (g := (35, [some (.ref 64), none, none, some (.int x3), some (.int x4), some (.int x5)], [.int x5, .ref 64], mSS M4)) (by decide +kernel) rfl ?_
  obtain ⟨M6, q5, h⟩ := bV_of h
  refine R_callV (mi := 254) (na := 2) (ci := 12) (i := 64) (as := [.int x5]) (r := []) (rv := none) (σ1 := mSS M6) ⟨425, by decide +kernel⟩ rfl rfl rfl rfl (Mo_fillsNights_r N x5 M4 (d + 0) q5) ?_
  show mRunF _ _ (38, [some (.ref 64), none, none, some (.int x3), some (.int x4), some (.int x5)], [], mSS M6)
  refine mRunF.sg (mSl mk_270 23 1) (g := (39, [some (.ref 64), none, none, some (.int x3), some (.int x4), some (.int x5)], [.int x3], mSS M6)) (by decide +kernel) rfl ?_
  refine R_eq (t := 52) ⟨13, by decide +kernel⟩ (fun q => ?_) (fun q => ?_)
  · rw [if_pos q] at h
    refine mRunF.forget [true, true, true, false, true, true] ?_
    exact Mo_isSo_52_r h
  · rw [if_neg q] at h
    refine mRunF.sg (mSl mk_270 25 3) (g := (46, [some (.ref 64), none, none, some (.int x3), some (.int x4), some (.int x5)], [.int x5, .int x3, .ref 64], mSS M6)) (by decide +kernel) rfl ?_
    obtain ⟨r8, q7, h⟩ := bR_of h
    refine R_callV (mi := 257) (na := 3) (ci := 12) (i := 64) (as := [.int x3, .int x5]) (r := []) (rv := some (.int r8)) (σ1 := mSS M6) ⟨437, by decide +kernel⟩ rfl rfl rfl rfl (Mo_firstMeet_r N x3 x5 M6 (d + 6) q7) ?_
    show mRunF _ _ (49, [some (.ref 64), none, none, some (.int x3), some (.int x4), some (.int x5)], [.int r8], mSS M6)
    refine R_lt (t := 72) ⟨23, by decide +kernel⟩ (fun q => ?_) (fun q => ?_)
    · rw [if_pos q] at h
      refine mRunF.sg (mSl mk_270 39 1) (g := (73, [some (.ref 64), none, none, some (.int x3), some (.int x4), some (.int x5)], [.int 0], mSS M6)) (by decide +kernel) rfl ?_
      cases h
      exact R_zret (by decide +kernel) (Or.inl rfl)
    · rw [if_neg q] at h
      refine mRunF.forget [true, true, true, false, true, true] ?_
      exact Mo_isSo_52_r h
set_option maxRecDepth 100000 in
set_option maxHeartbeats 4000000 in
theorem Mo_isSo_r (N : Nat) (a0 : Int32) (a1 : Int32) (a2 : Int32) (a3 : Int32) (a4 : Int32) (M : mS) {r : Int32} {M' : mS} (d : Nat) (h : Mo_isSo N a0 a1 a2 a3 a4 M = some (r, M')) : mMet mP mTx (d + 10) 270 [.ref 64, .int a0, .int a1, .int a2, .int a3, .int a4] (mSS M) (some (.int r)) (mSS M') := by
  refine mMet_i ⟨Nat.le_refl _, Nat.le_refl _, Nat.le_of_ble_eq_true rfl⟩ ?_
  unfold Mo_isSo at h
  show mRunF (mCd 270) (mEE (mMet mP mTx (d + 9)) (some .boolean) (some (.int r)) M') (0, [some (.ref 64), some (.int a0), some (.int a1), some (.int a2), some (.int a3), some (.int a4)], [], mSS M)
  refine mRunF.sg (mSl mk_270 0 1) (g := (1, [some (.ref 64), some (.int a0), some (.int a1), some (.int a2), some (.int a3), some (.int a4)], [.ref 64], mSS M)) (by decide +kernel) rfl ?_
  obtain ⟨M10, q9, h⟩ := bV_of h
  refine R_callV (mi := 219) (na := 1) (ci := 12) (i := 64) (as := []) (r := []) (rv := none) (σ1 := mSS M10) ⟨407, by decide +kernel⟩ rfl rfl rfl rfl (Mo_copiesStill_r N M (d + 7) q9) ?_
  show mRunF _ _ (4, [some (.ref 64), some (.int a0), some (.int a1), some (.int a2), some (.int a3), some (.int a4)], [], mSS M10)
  refine mRunF.sg (mSl mk_270 2 5) (g := (11, [some (.ref 64), some (.int a0), some (.int a1), some (.int a2), some (.int a3), some (.int a4)], [.int 4, .int a0, .int a0, .ref 96], mSS M10)) (by decide +kernel) rfl ?_
  refine R_ige (t := 30) ⟨19, by decide +kernel⟩ (fun q => ?_) (fun q => ?_)
  · rw [if_pos q] at h
    refine mRunF.sg (mSl mk_270 18 1) (g := (31, [some (.ref 64), some (.int a0), some (.int a1), some (.int a2), some (.int a3), some (.int a4)], [.int a1, .int a0, .ref 96], mSS M10)) (by decide +kernel) rfl ?_
    refine mRunF.forget [true, false, false, true, true, true] ?_
    exact Mo_isSo_31_r h
  · rw [if_neg q] at h
    refine mRunF.sg (mSl mk_270 8 3) (g := (19, [some (.ref 64), some (.int a0), some (.int a1), some (.int a2), some (.int a3), some (.int a4)], [.int a0, .ref 96, .int a0, .ref 96], mSS M10)) (by decide +kernel) rfl ?_
    obtain ⟨g11, h⟩ := grd_of h
    refine R_iald (by decide +kernel) rfl g11 ?_
    refine mRunF.sg (mSl mk_270 12 3) (g := (23, [some (.ref 64), some (.int a0), some (.int a1), some (.int a2), some (.int a3), some (.int a4)], [.ref 64, .int ((M10.1 96 a0.toNatClampNeg) + a1), .int a0, .ref 96], mSS M10)) (by decide +kernel) rfl ?_
    obtain ⟨r13, q12, h⟩ := bR_of h
    refine R_callV (mi := 210) (na := 1) (ci := 12) (i := 64) (as := []) (r := [.int ((M10.1 96 a0.toNatClampNeg) + a1), .int a0, .ref 96]) (rv := some (.int r13)) (σ1 := mSS M10) ⟨313, by decide +kernel⟩ rfl rfl rfl rfl (Mo_hours_r N M10 (d + 8) q12) ?_
    show mRunF _ _ (26, [some (.ref 64), some (.int a0), some (.int a1), some (.int a2), some (.int a3), some (.int a4)], [.int r13, .int ((M10.1 96 a0.toNatClampNeg) + a1), .int a0, .ref 96], mSS M10)
    obtain ⟨g14, h⟩ := nz_of h
    refine R_rem (by decide +kernel) g14 ?_
    refine mRunF.sg (mSl mk_270 17 1) (g := (31, [some (.ref 64), some (.int a0), some (.int a1), some (.int a2), some (.int a3), some (.int a4)], [.int (((M10.1 96 a0.toNatClampNeg) + a1) - ((M10.1 96 a0.toNatClampNeg) + a1) / r13 * r13), .int a0, .ref 96], mSS M10)) (by decide +kernel) rfl ?_
    refine mRunF.forget [true, false, false, true, true, true] ?_
    exact Mo_isSo_31_r h
set_option maxRecDepth 100000 in
set_option maxHeartbeats 4000000 in
theorem Mo_leastFor_3_r {N d : Nat}   {r : Int32} {M' : mS} : ∀ {n : Nat} {x1 : Int32} {x2 : Int32} {x3 : Int32} {x4 : Int32} {x5 : Int32} {M : mS}, Mo_leastFor_3 N n x1 x2 x3 x4 x5 M = some (r, M') → mRunF (mCd 271) (mEE (mMet mP mTx (d + 10)) (some .int) (some (.int r)) M') (3, [some (.ref 64), some (.int x1), some (.int x2), some (.int x3), some (.int x4), some (.int x5)], [], mSS M) := by
  intro n
  induction n with
  | zero => intro x1 x2 x3 x4 x5 M h; cases h
  | succ n ih =>
    replace ih := @ih
    intro x1 x2 x3 x4 x5 M h
    unfold Mo_leastFor_3 at h
    refine mRunF.sg (mSl mk_271 2 2) (g := (6, [some (.ref 64), some (.int x1), some (.int x2), some (.int x3), some (.int x4), some (.int x5)], [.ref 64, .int x5], mSS M)) (by decide +kernel) rfl ?_
    obtain ⟨r2, q1, h⟩ := bR_of h
    refine R_callV (mi := 210) (na := 1) (ci := 12) (i := 64) (as := []) (r := [.int x5]) (rv := some (.int r2)) (σ1 := mSS M) ⟨313, by decide +kernel⟩ rfl rfl rfl rfl (Mo_hours_r N M (d + 9) q1) ?_
    show mRunF _ _ (9, [some (.ref 64), some (.int x1), some (.int x2), some (.int x3), some (.int x4), some (.int x5)], [.int r2, .int x5], mSS M)
    refine R_ige (t := 35) ⟨26, by decide +kernel⟩ (fun q => ?_) (fun q => ?_)
    · rw [if_pos q] at h
      refine mRunF.sg (mSl mk_271 18 1) (g := (37, [some (.ref 64), some (.int x1), some (.int x2), some (.int x3), some (.int x4), some (.int x5)], [.int (-2)], mSS M)) (by decide +kernel) rfl ?_
      cases h
      exact R_iret (by decide +kernel)
    · rw [if_neg q] at h
      refine mRunF.sg (mSl mk_271 6 6) (g := (20, [some (.ref 64), some (.int x1), some (.int x2), some (.int x3), some (.int x4), some (.int x5)], [.int x4, .int x3, .int x2, .int x5, .int x1, .ref 64], mSS M)) (by decide +kernel) rfl ?_
      obtain ⟨r5, M4, q3, h⟩ := bW_of h
      refine R_callV (mi := 270) (na := 6) (ci := 12) (i := 64) (as := [.int x1, .int x5, .int x2, .int x3, .int x4]) (r := []) (rv := some (.int r5)) (σ1 := mSS M4) ⟨449, by decide +kernel⟩ rfl rfl rfl rfl (Mo_isSo_r N x1 x5 x2 x3 x4 M (d + 0) q3) ?_
      have b6 := mBool rfl (Mo_isSo_r N x1 x5 x2 x3 x4 M (d + 0) q3)
      show mRunF _ _ (23, [some (.ref 64), some (.int x1), some (.int x2), some (.int x3), some (.int x4), some (.int x5)], [.int r5], mSS M4)
      refine R_eq (t := 29) ⟨6, by decide +kernel⟩ (fun q => ?_) (fun q => ?_)
      · rw [if_pos q] at h
        refine mRunF.sg (mSl mk_271 16 2) (g := (3, [some (.ref 64), some (.int x1), some (.int x2), some (.int x3), some (.int x4), some (.int (x5 + 1))], [], mSS M4)) (by decide +kernel) rfl ?_
        exact @ih _ _ _ _ _ _ h
      · rw [if_neg q] at h
        refine mRunF.sg (mSl mk_271 14 1) (g := (28, [some (.ref 64), some (.int x1), some (.int x2), some (.int x3), some (.int x4), some (.int x5)], [.int x5], mSS M4)) (by decide +kernel) rfl ?_
        cases h
        exact R_iret (by decide +kernel)
set_option maxRecDepth 100000 in
set_option maxHeartbeats 4000000 in
theorem Mo_leastFor_r (N : Nat) (a0 : Int32) (a1 : Int32) (a2 : Int32) (a3 : Int32) (M : mS) {r : Int32} {M' : mS} (d : Nat) (h : Mo_leastFor N a0 a1 a2 a3 M = some (r, M')) : mMet mP mTx (d + 11) 271 [.ref 64, .int a0, .int a1, .int a2, .int a3] (mSS M) (some (.int r)) (mSS M') := by
  refine mMet_i ⟨Nat.le_refl _, Nat.le_refl _, Nat.le_of_ble_eq_true rfl⟩ ?_
  unfold Mo_leastFor at h
  show mRunF (mCd 271) (mEE (mMet mP mTx (d + 10)) (some .int) (some (.int r)) M') (0, [some (.ref 64), some (.int a0), some (.int a1), some (.int a2), some (.int a3), none], [], mSS M)
  refine mRunF.sg (mSl mk_271 0 2) (g := (3, [some (.ref 64), some (.int a0), some (.int a1), some (.int a2), some (.int a3), some (.int 0)], [], mSS M)) (by decide +kernel) rfl ?_
  exact Mo_leastFor_3_r h
set_option maxRecDepth 100000 in
set_option maxHeartbeats 4000000 in
theorem Mo_turns_r (N : Nat) (a0 : Int32) (a1 : Int32) (a2 : Int32) (M : mS) {r : Int32} {M' : mS} (d : Nat) (h : Mo_turns N a0 a1 a2 M = some (r, M')) : mMet mP mTx (d + 12) 273 [.ref 64, .int a0, .int a1, .int a2] (mSS M) (some (.int r)) (mSS M') := by
  refine mMet_i ⟨Nat.le_refl _, Nat.le_refl _, Nat.le_of_ble_eq_true rfl⟩ ?_
  unfold Mo_turns at h
  show mRunF (mCd 273) (mEE (mMet mP mTx (d + 11)) (some .int) (some (.int r)) M') (0, [some (.ref 64), some (.int a0), some (.int a1), some (.int a2)], [], mSS M)
  refine mRunF.sg (mSl mk_273 0 4) (g := (4, [some (.ref 64), some (.int a0), some (.int a1), some (.int a2)], [.int a2, .int a1, .int a0, .ref 64], mSS M)) (by decide +kernel) rfl ?_
  obtain ⟨r2, q1, h⟩ := bR_of h
  refine R_callV (mi := 272) (na := 4) (ci := 12) (i := 64) (as := [.int a0, .int a1, .int a2]) (r := []) (rv := some (.int r2)) (σ1 := mSS M) ⟨456, by decide +kernel⟩ rfl rfl rfl rfl (Mo_isAsked_r N a0 a1 a2 M (d + 8) q1) ?_
  have b3 := mBool rfl (Mo_isAsked_r N a0 a1 a2 M (d + 8) q1)
  show mRunF _ _ (7, [some (.ref 64), some (.int a0), some (.int a1), some (.int a2)], [.int r2], mSS M)
  refine R_eq (t := 21) ⟨14, by decide +kernel⟩ (fun q => ?_) (fun q => ?_)
  · rw [if_pos q] at h
    refine mRunF.sg (mSl mk_273 13 1) (g := (22, [some (.ref 64), some (.int a0), some (.int a1), some (.int a2)], [.int (-1)], mSS M)) (by decide +kernel) rfl ?_
    cases h
    exact R_iret (by decide +kernel)
  · rw [if_neg q] at h
    refine mRunF.sg (mSl mk_273 6 5) (g := (15, [some (.ref 64), some (.int a0), some (.int a1), some (.int a2)], [.int a2, .int 0, .int a1, .int a0, .ref 64], mSS M)) (by decide +kernel) rfl ?_
    obtain ⟨r6, M5, q4, h⟩ := bW_of h
    refine R_callV (mi := 271) (na := 5) (ci := 12) (i := 64) (as := [.int a0, .int a1, .int 0, .int a2]) (r := []) (rv := some (.int r6)) (σ1 := mSS M5) ⟨459, by decide +kernel⟩ rfl rfl rfl rfl (Mo_leastFor_r N a0 a1 0 a2 M (d + 0) q4) ?_
    show mRunF _ _ (18, [some (.ref 64), some (.int a0), some (.int a1), some (.int a2)], [.int r6], mSS M5)
    refine mRunF.sg (mSl mk_273 12 1) (g := (22, [some (.ref 64), some (.int a0), some (.int a1), some (.int a2)], [.int r6], mSS M5)) (by decide +kernel) rfl ?_
    cases h
    exact R_iret (by decide +kernel)
set_option maxRecDepth 100000 in
set_option maxHeartbeats 4000000 in
theorem Mo_parts_r (N : Nat) (a0 : Int32) (a1 : Int32) (a2 : Int32) (M : mS) {r : Int32} {M' : mS} (d : Nat) (h : Mo_parts N a0 a1 a2 M = some (r, M')) : mMet mP mTx (d + 12) 274 [.ref 64, .int a0, .int a1, .int a2] (mSS M) (some (.int r)) (mSS M') := by
  refine mMet_i ⟨Nat.le_refl _, Nat.le_refl _, Nat.le_of_ble_eq_true rfl⟩ ?_
  unfold Mo_parts at h
  show mRunF (mCd 274) (mEE (mMet mP mTx (d + 11)) (some .int) (some (.int r)) M') (0, [some (.ref 64), some (.int a0), some (.int a1), some (.int a2)], [], mSS M)
  refine mRunF.sg (mSl mk_274 0 4) (g := (4, [some (.ref 64), some (.int a0), some (.int a1), some (.int a2)], [.int a2, .int a1, .int a0, .ref 64], mSS M)) (by decide +kernel) rfl ?_
  obtain ⟨r2, q1, h⟩ := bR_of h
  refine R_callV (mi := 272) (na := 4) (ci := 12) (i := 64) (as := [.int a0, .int a1, .int a2]) (r := []) (rv := some (.int r2)) (σ1 := mSS M) ⟨456, by decide +kernel⟩ rfl rfl rfl rfl (Mo_isAsked_r N a0 a1 a2 M (d + 8) q1) ?_
  have b3 := mBool rfl (Mo_isAsked_r N a0 a1 a2 M (d + 8) q1)
  show mRunF _ _ (7, [some (.ref 64), some (.int a0), some (.int a1), some (.int a2)], [.int r2], mSS M)
  refine R_eq (t := 21) ⟨14, by decide +kernel⟩ (fun q => ?_) (fun q => ?_)
  · rw [if_pos q] at h
    refine mRunF.sg (mSl mk_274 13 1) (g := (22, [some (.ref 64), some (.int a0), some (.int a1), some (.int a2)], [.int (-1)], mSS M)) (by decide +kernel) rfl ?_
    cases h
    exact R_iret (by decide +kernel)
  · rw [if_neg q] at h
    refine mRunF.sg (mSl mk_274 6 5) (g := (15, [some (.ref 64), some (.int a0), some (.int a1), some (.int a2)], [.int a2, .int a1, .int 0, .int a0, .ref 64], mSS M)) (by decide +kernel) rfl ?_
    obtain ⟨r6, M5, q4, h⟩ := bW_of h
    refine R_callV (mi := 271) (na := 5) (ci := 12) (i := 64) (as := [.int a0, .int 0, .int a1, .int a2]) (r := []) (rv := some (.int r6)) (σ1 := mSS M5) ⟨459, by decide +kernel⟩ rfl rfl rfl rfl (Mo_leastFor_r N a0 0 a1 a2 M (d + 0) q4) ?_
    show mRunF _ _ (18, [some (.ref 64), some (.int a0), some (.int a1), some (.int a2)], [.int r6], mSS M5)
    refine mRunF.sg (mSl mk_274 12 1) (g := (22, [some (.ref 64), some (.int a0), some (.int a1), some (.int a2)], [.int r6], mSS M5)) (by decide +kernel) rfl ?_
    cases h
    exact R_iret (by decide +kernel)
set_option maxRecDepth 100000 in
set_option maxHeartbeats 4000000 in
theorem Mo_knot_r (N : Nat) (a0 : Int32) (a1 : Int32) (a2 : Int32) (a3 : Int32) (M : mS) {r : Int32} {M' : mS} (d : Nat) (h : Mo_knot N a0 a1 a2 a3 M = some (r, M')) : mMet mP mTx (d + 12) 275 [.ref 64, .int a0, .int a1, .int a2, .int a3] (mSS M) (some (.int r)) (mSS M') := by
  refine mMet_i ⟨Nat.le_refl _, Nat.le_refl _, Nat.le_of_ble_eq_true rfl⟩ ?_
  unfold Mo_knot at h
  show mRunF (mCd 275) (mEE (mMet mP mTx (d + 11)) (some .int) (some (.int r)) M') (0, [some (.ref 64), some (.int a0), some (.int a1), some (.int a2), some (.int a3)], [], mSS M)
  refine mRunF.sg (mSl mk_275 0 4) (g := (5, [some (.ref 64), some (.int a0), some (.int a1), some (.int a2), some (.int a3)], [.int a3, .int a1, .int a0, .ref 64], mSS M)) (by decide +kernel) rfl ?_
  obtain ⟨r2, q1, h⟩ := bR_of h
  refine R_callV (mi := 272) (na := 4) (ci := 12) (i := 64) (as := [.int a0, .int a1, .int a3]) (r := []) (rv := some (.int r2)) (σ1 := mSS M) ⟨456, by decide +kernel⟩ rfl rfl rfl rfl (Mo_isAsked_r N a0 a1 a3 M (d + 8) q1) ?_
  have b3 := mBool rfl (Mo_isAsked_r N a0 a1 a3 M (d + 8) q1)
  show mRunF _ _ (8, [some (.ref 64), some (.int a0), some (.int a1), some (.int a2), some (.int a3)], [.int r2], mSS M)
  refine R_eq (t := 31) ⟨23, by decide +kernel⟩ (fun q => ?_) (fun q => ?_)
  · rw [if_pos q] at h
    refine mRunF.sg (mSl mk_275 17 1) (g := (32, [some (.ref 64), some (.int a0), some (.int a1), some (.int a2), some (.int a3)], [.int (-1)], mSS M)) (by decide +kernel) rfl ?_
    cases h
    exact R_iret (by decide +kernel)
  · rw [if_neg q] at h
    refine mRunF.sg (mSl mk_275 6 2) (g := (13, [some (.ref 64), some (.int a0), some (.int a1), some (.int a2), some (.int a3)], [.int a2, .ref 64], mSS M)) (by decide +kernel) rfl ?_
    obtain ⟨r5, q4, h⟩ := bR_of h
    refine R_callV (mi := 258) (na := 2) (ci := 12) (i := 64) (as := [.int a2]) (r := []) (rv := some (.int r5)) (σ1 := mSS M) ⟨431, by decide +kernel⟩ rfl rfl rfl rfl (Mo_isGroup_r N a2 M (d + 9) q4) ?_
    have b6 := mBool rfl (Mo_isGroup_r N a2 M (d + 9) q4)
    show mRunF _ _ (16, [some (.ref 64), some (.int a0), some (.int a1), some (.int a2), some (.int a3)], [.int r5], mSS M)
    refine R_eq (t := 31) ⟨15, by decide +kernel⟩ (fun q => ?_) (fun q => ?_)
    · rw [if_pos q] at h
      refine mRunF.sg (mSl mk_275 17 1) (g := (32, [some (.ref 64), some (.int a0), some (.int a1), some (.int a2), some (.int a3)], [.int (-1)], mSS M)) (by decide +kernel) rfl ?_
      cases h
      exact R_iret (by decide +kernel)
    · rw [if_neg q] at h
      refine mRunF.sg (mSl mk_275 10 5) (g := (25, [some (.ref 64), some (.int a0), some (.int a1), some (.int a2), some (.int a3)], [.int a3, .int a2, .int a1, .int a0, .ref 64], mSS M)) (by decide +kernel) rfl ?_
      obtain ⟨r9, M8, q7, h⟩ := bW_of h
      refine R_callV (mi := 271) (na := 5) (ci := 12) (i := 64) (as := [.int a0, .int a1, .int a2, .int a3]) (r := []) (rv := some (.int r9)) (σ1 := mSS M8) ⟨459, by decide +kernel⟩ rfl rfl rfl rfl (Mo_leastFor_r N a0 a1 a2 a3 M (d + 0) q7) ?_
      show mRunF _ _ (28, [some (.ref 64), some (.int a0), some (.int a1), some (.int a2), some (.int a3)], [.int r9], mSS M8)
      refine mRunF.sg (mSl mk_275 16 1) (g := (32, [some (.ref 64), some (.int a0), some (.int a1), some (.int a2), some (.int a3)], [.int r9], mSS M8)) (by decide +kernel) rfl ?_
      cases h
      exact R_iret (by decide +kernel)
set_option maxRecDepth 100000 in
set_option maxHeartbeats 4000000 in
theorem Mo_mend_r (N : Nat) (a0 : Int32) (a1 : Int32) (a2 : Int32) (M : mS) {r : Int32} {M' : mS} (d : Nat) (h : Mo_mend N a0 a1 a2 M = some (r, M')) : mMet mP mTx (d + 12) 276 [.ref 64, .int a0, .int a1, .int a2] (mSS M) (some (.int r)) (mSS M') := by
  refine mMet_i ⟨Nat.le_refl _, Nat.le_refl _, Nat.le_of_ble_eq_true rfl⟩ ?_
  unfold Mo_mend at h
  show mRunF (mCd 276) (mEE (mMet mP mTx (d + 11)) (some .int) (some (.int r)) M') (0, [some (.ref 64), some (.int a0), some (.int a1), some (.int a2)], [], mSS M)
  refine mRunF.sg (mSl mk_276 0 4) (g := (4, [some (.ref 64), some (.int a0), some (.int a1), some (.int a2)], [.int a2, .int a1, .int a0, .ref 64], mSS M)) (by decide +kernel) rfl ?_
  obtain ⟨r2, q1, h⟩ := bR_of h
  refine R_callV (mi := 272) (na := 4) (ci := 12) (i := 64) (as := [.int a0, .int a1, .int a2]) (r := []) (rv := some (.int r2)) (σ1 := mSS M) ⟨456, by decide +kernel⟩ rfl rfl rfl rfl (Mo_isAsked_r N a0 a1 a2 M (d + 8) q1) ?_
  have b3 := mBool rfl (Mo_isAsked_r N a0 a1 a2 M (d + 8) q1)
  show mRunF _ _ (7, [some (.ref 64), some (.int a0), some (.int a1), some (.int a2)], [.int r2], mSS M)
  refine R_eq (t := 23) ⟨16, by decide +kernel⟩ (fun q => ?_) (fun q => ?_)
  · rw [if_pos q] at h
    refine mRunF.sg (mSl mk_276 15 1) (g := (24, [some (.ref 64), some (.int a0), some (.int a1), some (.int a2)], [.int (-1)], mSS M)) (by decide +kernel) rfl ?_
    cases h
    exact R_iret (by decide +kernel)
  · rw [if_neg q] at h
    refine mRunF.sg (mSl mk_276 6 7) (g := (17, [some (.ref 64), some (.int a0), some (.int a1), some (.int a2)], [.int a2, .int 0, .int a1, .int (4 + a0), .ref 64], mSS M)) (by decide +kernel) rfl ?_
    obtain ⟨r6, M5, q4, h⟩ := bW_of h
    refine R_callV (mi := 271) (na := 5) (ci := 12) (i := 64) (as := [.int (4 + a0), .int a1, .int 0, .int a2]) (r := []) (rv := some (.int r6)) (σ1 := mSS M5) ⟨459, by decide +kernel⟩ rfl rfl rfl rfl (Mo_leastFor_r N (4 + a0) a1 0 a2 M (d + 0) q4) ?_
    show mRunF _ _ (20, [some (.ref 64), some (.int a0), some (.int a1), some (.int a2)], [.int r6], mSS M5)
    refine mRunF.sg (mSl mk_276 14 1) (g := (24, [some (.ref 64), some (.int a0), some (.int a1), some (.int a2)], [.int r6], mSS M5)) (by decide +kernel) rfl ?_
    cases h
    exact R_iret (by decide +kernel)
set_option maxRecDepth 100000 in
set_option maxHeartbeats 4000000 in
theorem Mo_sooner_109_r {N d : Nat} {k27 : Int32 → Int32 → Int32 → Int32 → mS → Option (Int32 × mS)} {k47 : Int32 → Int32 → Int32 → Int32 → Int32 → mS → Option (Int32 × mS)} {M : mS} {x1 : Int32} {x2 : Int32} {x3 : Int32} {x4 : Int32} {x5 : Int32} {r : Int32} {M' : mS} (hk27 : ∀ (x1 : Int32) (x2 : Int32) (x3 : Int32) (x4 : Int32) (M : mS), k27 x1 x2 x3 x4 M = some (r, M') → mRunF (mCd 277) (mEE (mMet mP mTx (d + 10)) (some .int) (some (.int r)) M') (27, [some (.ref 64), some (.int x1), some (.int x2), some (.int x3), some (.int x4), none, none], [], mSS M)) (hk47 : ∀ (x1 : Int32) (x2 : Int32) (x3 : Int32) (x4 : Int32) (x5 : Int32) (M : mS), k47 x1 x2 x3 x4 x5 M = some (r, M') → mRunF (mCd 277) (mEE (mMet mP mTx (d + 10)) (some .int) (some (.int r)) M') (47, [some (.ref 64), some (.int x1), some (.int x2), some (.int x3), some (.int x4), some (.int x5), none], [], mSS M)) (h : Mo_sooner_109 N k27 k47 x1 x2 x3 x4 x5 M = some (r, M')) : mRunF (mCd 277) (mEE (mMet mP mTx (d + 10)) (some .int) (some (.int r)) M') (109, [some (.ref 64), some (.int x1), some (.int x2), some (.int x3), some (.int x4), some (.int x5), none], [], mSS M) := by
  unfold Mo_sooner_109 at h
  refine mRunF.sg (mSl mk_277 61 2) (g := (47, [some (.ref 64), some (.int x1), some (.int x2), some (.int x3), some (.int x4), some (.int (x5 + 1)), none], [], mSS M)) (by decide +kernel) rfl ?_
  exact hk47 _ _ _ _ _ _ h
set_option maxRecDepth 100000 in
set_option maxHeartbeats 4000000 in
theorem Mo_sooner_97_r {N d : Nat} {k27 : Int32 → Int32 → Int32 → Int32 → mS → Option (Int32 × mS)} {k47 : Int32 → Int32 → Int32 → Int32 → Int32 → mS → Option (Int32 × mS)} {M : mS} {x1 : Int32} {x4 : Int32} {x5 : Int32} {x6 : Int32} {r : Int32} {M' : mS} (hk27 : ∀ (x1 : Int32) (x2 : Int32) (x3 : Int32) (x4 : Int32) (M : mS), k27 x1 x2 x3 x4 M = some (r, M') → mRunF (mCd 277) (mEE (mMet mP mTx (d + 10)) (some .int) (some (.int r)) M') (27, [some (.ref 64), some (.int x1), some (.int x2), some (.int x3), some (.int x4), none, none], [], mSS M)) (hk47 : ∀ (x1 : Int32) (x2 : Int32) (x3 : Int32) (x4 : Int32) (x5 : Int32) (M : mS), k47 x1 x2 x3 x4 x5 M = some (r, M') → mRunF (mCd 277) (mEE (mMet mP mTx (d + 10)) (some .int) (some (.int r)) M') (47, [some (.ref 64), some (.int x1), some (.int x2), some (.int x3), some (.int x4), some (.int x5), none], [], mSS M)) (h : Mo_sooner_97 N k27 k47 x1 x4 x5 x6 M = some (r, M')) : mRunF (mCd 277) (mEE (mMet mP mTx (d + 10)) (some .int) (some (.int r)) M') (97, [some (.ref 64), some (.int x1), none, none, some (.int x4), some (.int x5), some (.int x6)], [], mSS M) := by
  unfold Mo_sooner_97 at h
  refine mRunF.sg (mSl mk_277 53 6) (g := (106, [some (.ref 64), some (.int x1), some (.int ((10 * x4) + x5)), none, some (.int x4), some (.int x5), some (.int x6)], [], mSS M)) (by decide +kernel) rfl ?_
  obtain ⟨v1, hv, h⟩ := nxt_ex h
  rw [← hv]
  clear hv
  refine mRunF.sg (mSl mk_277 59 2) (g := (109, [some (.ref 64), some (.int x1), some (.int v1), some (.int x6), some (.int x4), some (.int x5), some (.int x6)], [], mSS M)) (by decide +kernel) rfl ?_
  refine mRunF.forget [true, true, true, true, true, true, false] ?_
  exact Mo_sooner_109_r hk27 hk47 h
set_option maxRecDepth 100000 in
set_option maxHeartbeats 4000000 in
theorem Mo_sooner_47_r {N d : Nat} {k27 : Int32 → Int32 → Int32 → Int32 → mS → Option (Int32 × mS)}  {r : Int32} {M' : mS} (hk27 : ∀ (x1 : Int32) (x2 : Int32) (x3 : Int32) (x4 : Int32) (M : mS), k27 x1 x2 x3 x4 M = some (r, M') → mRunF (mCd 277) (mEE (mMet mP mTx (d + 10)) (some .int) (some (.int r)) M') (27, [some (.ref 64), some (.int x1), some (.int x2), some (.int x3), some (.int x4), none, none], [], mSS M)) : ∀ {n : Nat} {x1 : Int32} {x2 : Int32} {x3 : Int32} {x4 : Int32} {x5 : Int32} {M : mS}, Mo_sooner_47 N k27 n x1 x2 x3 x4 x5 M = some (r, M') → mRunF (mCd 277) (mEE (mMet mP mTx (d + 10)) (some .int) (some (.int r)) M') (47, [some (.ref 64), some (.int x1), some (.int x2), some (.int x3), some (.int x4), some (.int x5), none], [], mSS M) := by
  intro n
  induction n with
  | zero => intro x1 x2 x3 x4 x5 M h; cases h
  | succ n ih =>
    replace ih := @ih
    intro x1 x2 x3 x4 x5 M h
    unfold Mo_sooner_47 at h
    refine mRunF.sg (mSl mk_277 27 5) (g := (57, [some (.ref 64), some (.int x1), some (.int x2), some (.int x3), some (.int x4), some (.int x5), none], [.int (M.1 64 18), .ref 78, .int x5], mSS M)) (by decide +kernel) rfl ?_
    obtain ⟨g2, h⟩ := grd_of h
    refine R_iald (by decide +kernel) rfl g2 ?_
    refine R_ige (t := 115) ⟨57, by decide +kernel⟩ (fun q => ?_) (fun q => ?_)
    · rw [if_pos q] at h
      refine mRunF.sg (mSl mk_277 63 2) (g := (27, [some (.ref 64), some (.int x1), some (.int x2), some (.int x3), some (.int (x4 + 1)), some (.int x5), none], [], mSS M)) (by decide +kernel) rfl ?_
      refine mRunF.forget [true, true, true, true, true, false, true] ?_
      exact hk27 _ _ _ _ _ h
    · rw [if_neg q] at h
      refine mRunF.sg (mSl mk_277 34 9) (g := (74, [some (.ref 64), some (.int x1), some (.int x2), some (.int x3), some (.int x4), some (.int x5), none], [.int 400, .int (((1 : Int32) <<< (x4 &&& 31)) ||| ((1 : Int32) <<< (x5 &&& 31))), .ref 64], mSS M)) (by decide +kernel) rfl ?_
      obtain ⟨r4, q3, h⟩ := bR_of h
      refine R_callV (mi := 257) (na := 3) (ci := 12) (i := 64) (as := [.int (((1 : Int32) <<< (x4 &&& 31)) ||| ((1 : Int32) <<< (x5 &&& 31))), .int 400]) (r := []) (rv := some (.int r4)) (σ1 := mSS M) ⟨437, by decide +kernel⟩ rfl rfl rfl rfl (Mo_firstMeet_r N (((1 : Int32) <<< (x4 &&& 31)) ||| ((1 : Int32) <<< (x5 &&& 31))) 400 M (d + 7) q3) ?_
      show mRunF _ _ (77, [some (.ref 64), some (.int x1), some (.int x2), some (.int x3), some (.int x4), some (.int x5), none], [.int r4], mSS M)
      refine mRunF.sg (mSl mk_277 44 2) (g := (81, [some (.ref 64), some (.int x1), some (.int x2), some (.int x3), some (.int x4), some (.int x5), some (.int r4)], [.int r4], mSS M)) (by decide +kernel) rfl ?_
      refine R_lt (t := 109) ⟨28, by decide +kernel⟩ (fun q => ?_) (fun q => ?_)
      · rw [if_pos q] at h
        refine mRunF.forget [true, true, true, true, true, true, false] ?_
        exact Mo_sooner_109_r hk27 (fun y0 y1 y2 y3 y4 y5 hh => @ih y0 y1 y2 y3 y4 y5 hh) h
      · rw [if_neg q] at h
        refine mRunF.sg (mSl mk_277 47 1) (g := (85, [some (.ref 64), some (.int x1), some (.int x2), some (.int x3), some (.int x4), some (.int x5), some (.int r4)], [.int x2], mSS M)) (by decide +kernel) rfl ?_
        refine R_lt (t := 97) ⟨12, by decide +kernel⟩ (fun q => ?_) (fun q => ?_)
        · rw [if_pos q] at h
          refine mRunF.forget [true, true, false, false, true, true, true] ?_
          exact Mo_sooner_97_r hk27 (fun y0 y1 y2 y3 y4 y5 hh => @ih y0 y1 y2 y3 y4 y5 hh) h
        · rw [if_neg q] at h
          refine mRunF.sg (mSl mk_277 49 2) (g := (91, [some (.ref 64), some (.int x1), some (.int x2), some (.int x3), some (.int x4), some (.int x5), some (.int r4)], [.int x3, .int r4], mSS M)) (by decide +kernel) rfl ?_
          refine R_ilt (t := 97) ⟨6, by decide +kernel⟩ (fun q => ?_) (fun q => ?_)
          · rw [if_pos q] at h
            refine mRunF.forget [true, true, false, false, true, true, true] ?_
            exact Mo_sooner_97_r hk27 (fun y0 y1 y2 y3 y4 y5 hh => @ih y0 y1 y2 y3 y4 y5 hh) h
          · rw [if_neg q] at h
            refine mRunF.sg (mSl mk_277 52 1) (g := (109, [some (.ref 64), some (.int x1), some (.int x2), some (.int x3), some (.int x4), some (.int x5), some (.int r4)], [], mSS M)) (by decide +kernel) rfl ?_
            refine mRunF.forget [true, true, true, true, true, true, false] ?_
            exact Mo_sooner_109_r hk27 (fun y0 y1 y2 y3 y4 y5 hh => @ih y0 y1 y2 y3 y4 y5 hh) h
set_option maxRecDepth 100000 in
set_option maxHeartbeats 4000000 in
theorem Mo_sooner_27_r {N d : Nat}   {r : Int32} {M' : mS} : ∀ {n : Nat} {x1 : Int32} {x2 : Int32} {x3 : Int32} {x4 : Int32} {M : mS}, Mo_sooner_27 N n x1 x2 x3 x4 M = some (r, M') → mRunF (mCd 277) (mEE (mMet mP mTx (d + 10)) (some .int) (some (.int r)) M') (27, [some (.ref 64), some (.int x1), some (.int x2), some (.int x3), some (.int x4), none, none], [], mSS M) := by
  intro n
  induction n with
  | zero => intro x1 x2 x3 x4 M h; cases h
  | succ n ih =>
    replace ih := @ih
    intro x1 x2 x3 x4 M h
    unfold Mo_sooner_27 at h
    refine mRunF.sg (mSl mk_277 16 5) (g := (37, [some (.ref 64), some (.int x1), some (.int x2), some (.int x3), some (.int x4), none, none], [.int (M.1 64 18), .ref 78, .int x4], mSS M)) (by decide +kernel) rfl ?_
    obtain ⟨g5, h⟩ := grd_of h
    refine R_iald (by decide +kernel) rfl g5 ?_
    refine R_ige (t := 121) ⟨83, by decide +kernel⟩ (fun q => ?_) (fun q => ?_)
    · rw [if_pos q] at h
      refine mRunF.sg (mSl mk_277 65 1) (g := (122, [some (.ref 64), some (.int x1), some (.int x2), some (.int x3), some (.int x4), none, none], [.int x1], mSS M)) (by decide +kernel) rfl ?_
      refine R_ne (t := 129) ⟨7, by decide +kernel⟩ (fun q => ?_) (fun q => ?_)
      · rw [if_pos q] at h
        refine mRunF.sg (mSl mk_277 67 2) (g := (130, [some (.ref 64), some (.int x1), some (.int x2), some (.int x3), some (.int x4), none, none], [.int x2], mSS M)) (by decide +kernel) rfl ?_
        cases h
        exact R_iret (by decide +kernel)
      · rw [if_neg q] at h
        refine mRunF.sg (mSl mk_277 69 1) (g := (130, [some (.ref 64), some (.int x1), some (.int x2), some (.int x3), some (.int x4), none, none], [.int x3], mSS M)) (by decide +kernel) rfl ?_
        cases h
        exact R_iret (by decide +kernel)
    · rw [if_neg q] at h
      refine mRunF.sg (mSl mk_277 23 4) (g := (47, [some (.ref 64), some (.int x1), some (.int x2), some (.int x3), some (.int x4), some (.int (x4 + 1)), none], [], mSS M)) (by decide +kernel) rfl ?_
      obtain ⟨v6, hv, h⟩ := nxt_ex h
      rw [← hv]
      clear hv
      exact Mo_sooner_47_r (fun y0 y1 y2 y3 y4 hh => @ih y0 y1 y2 y3 y4 hh) h
set_option maxRecDepth 100000 in
set_option maxHeartbeats 4000000 in
theorem Mo_sooner_r (N : Nat) (a0 : Int32) (M : mS) {r : Int32} {M' : mS} (d : Nat) (h : Mo_sooner N a0 M = some (r, M')) : mMet mP mTx (d + 11) 277 [.ref 64, .int a0] (mSS M) (some (.int r)) (mSS M') := by
  refine mMet_i ⟨Nat.le_refl _, Nat.le_refl _, Nat.le_of_ble_eq_true rfl⟩ ?_
  unfold Mo_sooner at h
  show mRunF (mCd 277) (mEE (mMet mP mTx (d + 10)) (some .int) (some (.int r)) M') (0, [some (.ref 64), some (.int a0), none, none, none, none, none], [], mSS M)
  refine mRunF.sg (mSl mk_277 0 3) (g := (3, [some (.ref 64), some (.int a0), none, none, none, none, none], [.int 1, .int 0, .int a0], mSS M)) (by decide +kernel) rfl ?_
  refine R_callS (mi := 206) (na := 3) (as := [.int a0, .int 0, .int 1]) (r := []) (rv := some (.int (Mo_in a0 0 1 M))) (σ1 := mSS M) ⟨316, by decide +kernel⟩ rfl rfl rfl (Mo_in_r a0 0 1 M (d + 9)) ?_
  have b7 := mBool rfl (Mo_in_r a0 0 1 M (d + 9))
  show mRunF _ _ (6, [some (.ref 64), some (.int a0), none, none, none, none, none], [.int (Mo_in a0 0 1 M)], mSS M)
  refine R_ne (t := 11) ⟨5, by decide +kernel⟩ (fun q => ?_) (fun q => ?_)
  · rw [if_pos q] at h
    refine mRunF.sg (mSl mk_277 5 1) (g := (10, [some (.ref 64), some (.int a0), none, none, none, none, none], [.int (-1)], mSS M)) (by decide +kernel) rfl ?_
    cases h
    exact R_iret (by decide +kernel)
  · rw [if_neg q] at h
    refine mRunF.sg (mSl mk_277 7 2) (g := (15, [some (.ref 64), some (.int a0), none, none, none, none, none], [.int 400, .ref 64], mSS M)) (by decide +kernel) rfl ?_
    obtain ⟨M9, q8, h⟩ := bV_of h
    refine R_callV (mi := 255) (na := 2) (ci := 12) (i := 64) (as := [.int 400]) (r := []) (rv := none) (σ1 := mSS M9) ⟨434, by decide +kernel⟩ rfl rfl rfl rfl (Mo_fillsStill_r N 400 M (d + 0) q8) ?_
    show mRunF _ _ (18, [some (.ref 64), some (.int a0), none, none, none, none, none], [], mSS M9)
    refine mRunF.sg (mSl mk_277 10 6) (g := (27, [some (.ref 64), some (.int a0), some (.int (-2)), some (.int (-2)), some (.int 0), none, none], [], mSS M9)) (by decide +kernel) rfl ?_
    exact Mo_sooner_27_r h
