/-! METHODS as functions, 14: printed by program -/
set_option maxRecDepth 100000 in
set_option maxHeartbeats 4000000 in
theorem Mo_hold_20_r {N d : Nat}   {r : Int32} {M' : mS} : ∀ {n : Nat} {x1 : Int32} {x2 : Int32} {M : mS}, Mo_hold_20 N n x1 x2 M = some (r, M') → mRunF (mCd 304) (mEE (mMet mP mTx (d + 1)) (some .boolean) (some (.int r)) M') (20, [some (.ref 64), some (.int x1), some (.int x2)], [], mSS M) := by
  intro n
  induction n with
  | zero => intro x1 x2 M h; cases h
  | succ n ih =>
    replace ih := @ih
    intro x1 x2 M h
    unfold Mo_hold_20 at h
    refine mRunF.sg (mSl mk_304 14 2) (g := (23, [some (.ref 64), some (.int x1), some (.int x2)], [.int 29, .int x2], mSS M)) (by decide +kernel) rfl ?_
    refine R_ige (t := 49) ⟨26, by decide +kernel⟩ (fun q => ?_) (fun q => ?_)
    · rw [if_pos q] at h
      refine mRunF.sg (mSl mk_304 31 1) (g := (50, [some (.ref 64), some (.int x1), some (.int x2)], [.int 1], mSS M)) (by decide +kernel) rfl ?_
      cases h
      exact R_zret (by decide +kernel) (Or.inr rfl)
    · rw [if_neg q] at h
      refine mRunF.sg (mSl mk_304 17 10) (g := (41, [some (.ref 64), some (.int x1), some (.int x2)], [.int x2, .ref 95, .int ((29 * x1) + x2), .ref 110], mSS M)) (by decide +kernel) rfl ?_
      obtain ⟨g1, h⟩ := grd_of h
      refine R_iald (by decide +kernel) rfl g1 ?_
      obtain ⟨g2, h⟩ := grd_of h
      refine R_iast (by decide +kernel) rfl g2 ?_
      obtain ⟨M3, hv, h⟩ := nxt_ex h
      rw [← hv]
      clear hv
      refine mRunF.sg (mSl mk_304 29 2) (g := (20, [some (.ref 64), some (.int x1), some (.int (x2 + 1))], [], mSS M3)) (by decide +kernel) rfl ?_
      exact @ih _ _ _ h
set_option maxRecDepth 100000 in
set_option maxHeartbeats 4000000 in
theorem Mo_hold_r (N : Nat) (a0 : Int32) (M : mS) {r : Int32} {M' : mS} (d : Nat) (h : Mo_hold N a0 M = some (r, M')) : mMet mP mTx (d + 2) 304 [.ref 64, .int a0] (mSS M) (some (.int r)) (mSS M') := by
  refine mMet_i ⟨Nat.le_refl _, Nat.le_refl _, Nat.le_of_ble_eq_true rfl⟩ ?_
  unfold Mo_hold at h
  show mRunF (mCd 304) (mEE (mMet mP mTx (d + 1)) (some .boolean) (some (.int r)) M') (0, [some (.ref 64), some (.int a0), none], [], mSS M)
  refine mRunF.sg (mSl mk_304 0 3) (g := (3, [some (.ref 64), some (.int a0), none], [.int 2, .int 0, .int a0], mSS M)) (by decide +kernel) rfl ?_
  refine R_callS (mi := 206) (na := 3) (as := [.int a0, .int 0, .int 2]) (r := []) (rv := some (.int (Mo_in a0 0 2 M))) (σ1 := mSS M) ⟨316, by decide +kernel⟩ rfl rfl rfl (Mo_in_r a0 0 2 M (d + 0)) ?_
  have b4 := mBool rfl (Mo_in_r a0 0 2 M (d + 0))
  show mRunF _ _ (6, [some (.ref 64), some (.int a0), none], [.int (Mo_in a0 0 2 M)], mSS M)
  refine R_ne (t := 11) ⟨5, by decide +kernel⟩ (fun q => ?_) (fun q => ?_)
  · rw [if_pos q] at h
    refine mRunF.sg (mSl mk_304 5 1) (g := (10, [some (.ref 64), some (.int a0), none], [.int 0], mSS M)) (by decide +kernel) rfl ?_
    cases h
    exact R_zret (by decide +kernel) (Or.inl rfl)
  · rw [if_neg q] at h
    refine mRunF.sg (mSl mk_304 7 4) (g := (17, [some (.ref 64), some (.int a0), none], [.int 1, .int a0, .ref 109], mSS M)) (by decide +kernel) rfl ?_
    obtain ⟨g5, h⟩ := grd_of h
    refine R_zast (by decide +kernel) rfl g5 ?_
    obtain ⟨M6, hv, h⟩ := nxt_ex h
    rw [← hv]
    clear hv
    refine mRunF.sg (mSl mk_304 12 2) (g := (20, [some (.ref 64), some (.int a0), some (.int 0)], [], mSS M6)) (by decide +kernel) rfl ?_
    exact Mo_hold_20_r h
set_option maxRecDepth 100000 in
set_option maxHeartbeats 4000000 in
theorem Mo_restore_22_r {N d : Nat}   {r : Int32} {M' : mS} : ∀ {n : Nat} {x1 : Int32} {x2 : Int32} {M : mS}, Mo_restore_22 N n x1 x2 M = some (r, M') → mRunF (mCd 305) (mEE (mMet mP mTx (d + 1)) (some .boolean) (some (.int r)) M') (22, [some (.ref 64), some (.int x1), some (.int x2)], [], mSS M) := by
  intro n
  induction n with
  | zero => intro x1 x2 M h; cases h
  | succ n ih =>
    replace ih := @ih
    intro x1 x2 M h
    unfold Mo_restore_22 at h
    refine mRunF.sg (mSl mk_305 14 2) (g := (25, [some (.ref 64), some (.int x1), some (.int x2)], [.int 29, .int x2], mSS M)) (by decide +kernel) rfl ?_
    refine R_ige (t := 51) ⟨26, by decide +kernel⟩ (fun q => ?_) (fun q => ?_)
    · rw [if_pos q] at h
      refine mRunF.sg (mSl mk_305 31 3) (g := (56, [some (.ref 64), some (.int x1), some (.int x2)], [], mSS (mWI M 64 53 0))) (by decide +kernel) rfl ?_
      obtain ⟨M1, hv, h⟩ := nxt_ex h
      rw [← hv]
      clear hv
      refine mRunF.sg (mSl mk_305 34 1) (g := (57, [some (.ref 64), some (.int x1), some (.int x2)], [.int 1], mSS M1)) (by decide +kernel) rfl ?_
      cases h
      exact R_zret (by decide +kernel) (Or.inr rfl)
    · rw [if_neg q] at h
      refine mRunF.sg (mSl mk_305 17 10) (g := (43, [some (.ref 64), some (.int x1), some (.int x2)], [.int ((29 * x1) + x2), .ref 110, .int x2, .ref 95], mSS M)) (by decide +kernel) rfl ?_
      obtain ⟨g2, h⟩ := grd_of h
      refine R_iald (by decide +kernel) rfl g2 ?_
      obtain ⟨g3, h⟩ := grd_of h
      refine R_iast (by decide +kernel) rfl g3 ?_
      obtain ⟨M4, hv, h⟩ := nxt_ex h
      rw [← hv]
      clear hv
      refine mRunF.sg (mSl mk_305 29 2) (g := (22, [some (.ref 64), some (.int x1), some (.int (x2 + 1))], [], mSS M4)) (by decide +kernel) rfl ?_
      exact @ih _ _ _ h
set_option maxRecDepth 100000 in
set_option maxHeartbeats 4000000 in
theorem Mo_restore_r (N : Nat) (a0 : Int32) (M : mS) {r : Int32} {M' : mS} (d : Nat) (h : Mo_restore N a0 M = some (r, M')) : mMet mP mTx (d + 2) 305 [.ref 64, .int a0] (mSS M) (some (.int r)) (mSS M') := by
  refine mMet_i ⟨Nat.le_refl _, Nat.le_refl _, Nat.le_of_ble_eq_true rfl⟩ ?_
  unfold Mo_restore at h
  show mRunF (mCd 305) (mEE (mMet mP mTx (d + 1)) (some .boolean) (some (.int r)) M') (0, [some (.ref 64), some (.int a0), none], [], mSS M)
  refine mRunF.sg (mSl mk_305 0 3) (g := (3, [some (.ref 64), some (.int a0), none], [.int 2, .int 0, .int a0], mSS M)) (by decide +kernel) rfl ?_
  refine R_callS (mi := 206) (na := 3) (as := [.int a0, .int 0, .int 2]) (r := []) (rv := some (.int (Mo_in a0 0 2 M))) (σ1 := mSS M) ⟨316, by decide +kernel⟩ rfl rfl rfl (Mo_in_r a0 0 2 M (d + 0)) ?_
  have b5 := mBool rfl (Mo_in_r a0 0 2 M (d + 0))
  show mRunF _ _ (6, [some (.ref 64), some (.int a0), none], [.int (Mo_in a0 0 2 M)], mSS M)
  refine R_eq (t := 18) ⟨12, by decide +kernel⟩ (fun q => ?_) (fun q => ?_)
  · rw [if_pos q] at h
    refine mRunF.sg (mSl mk_305 10 1) (g := (19, [some (.ref 64), some (.int a0), none], [.int 0], mSS M)) (by decide +kernel) rfl ?_
    cases h
    exact R_zret (by decide +kernel) (Or.inl rfl)
  · rw [if_neg q] at h
    refine mRunF.sg (mSl mk_305 5 3) (g := (14, [some (.ref 64), some (.int a0), none], [.int a0, .ref 109], mSS M)) (by decide +kernel) rfl ?_
    obtain ⟨g6, h⟩ := grd_of h
    refine R_bald (by decide +kernel) rfl g6 ?_
    refine R_ne (t := 20) ⟨5, by decide +kernel⟩ (fun q => ?_) (fun q => ?_)
    · rw [if_pos q] at h
      refine mRunF.sg (mSl mk_305 10 1) (g := (19, [some (.ref 64), some (.int a0), none], [.int 0], mSS M)) (by decide +kernel) rfl ?_
      cases h
      exact R_zret (by decide +kernel) (Or.inl rfl)
    · rw [if_neg q] at h
      refine mRunF.sg (mSl mk_305 12 2) (g := (22, [some (.ref 64), some (.int a0), some (.int 0)], [], mSS M)) (by decide +kernel) rfl ?_
      exact Mo_restore_22_r h
set_option maxRecDepth 100000 in
set_option maxHeartbeats 4000000 in
theorem Mo_idleBits_16_r {N d : Nat}  {M : mS}  {r : Int32} : ∀ {n : Nat} {x1 : Int32} {x2 : Int32}, Mo_idleBits_16 N M n x1 x2 = some r → mRunF (mCd 307) (mEE (mMet mP mTx (d + 0)) (some .int) (some (.int r)) M) (16, [some (.ref 64), some (.int x1), some (.int x2)], [], mSS M) := by
  intro n
  induction n with
  | zero => intro x1 x2 h; cases h
  | succ n ih =>
    replace ih := @ih
    intro x1 x2 h
    unfold Mo_idleBits_16 at h
    refine mRunF.sg (mSl mk_307 12 5) (g := (25, [some (.ref 64), some (.int x1), some (.int x2)], [.int (M.1 64 18), .ref 78, .int x2], mSS M)) (by decide +kernel) rfl ?_
    obtain ⟨g1, h⟩ := grd_of h
    refine R_iald (by decide +kernel) rfl g1 ?_
    refine R_ige (t := 51) ⟨25, by decide +kernel⟩ (fun q => ?_) (fun q => ?_)
    · rw [if_pos q] at h
      refine mRunF.sg (mSl mk_307 34 1) (g := (52, [some (.ref 64), some (.int x1), some (.int x2)], [.int x1], mSS M)) (by decide +kernel) rfl ?_
      cases h
      exact R_iret (by decide +kernel)
    · rw [if_neg q] at h
      refine mRunF.sg (mSl mk_307 19 7) (g := (39, [some (.ref 64), some (.int x1), some (.int x2)], [.int (8 + x2), .ref 96, .int 1, .int x1], mSS M)) (by decide +kernel) rfl ?_
      obtain ⟨g2, h⟩ := grd_of h
      refine R_iald (by decide +kernel) rfl g2 ?_
      refine mRunF.sg (mSl mk_307 27 5) (g := (45, [some (.ref 64), some (.int (x1 &&& (((1 : Int32) <<< ((M.1 96 (8 + x2).toNatClampNeg) &&& 31)) ^^^ (-1)))), some (.int x2)], [], mSS M)) (by decide +kernel) rfl ?_
      obtain ⟨v3, hv, h⟩ := nxt_ex h
      rw [← hv]
      clear hv
      refine mRunF.sg (mSl mk_307 32 2) (g := (16, [some (.ref 64), some (.int v3), some (.int (x2 + 1))], [], mSS M)) (by decide +kernel) rfl ?_
      exact @ih _ _ h
set_option maxRecDepth 100000 in
set_option maxHeartbeats 4000000 in
theorem Mo_idleBits_r (N : Nat)  (M : mS) {r : Int32} (d : Nat) (h : Mo_idleBits N M = some r) : mMet mP mTx (d + 1) 307 [.ref 64] (mSS M) (some (.int r)) (mSS M) := by
  refine mMet_i ⟨Nat.le_refl _, Nat.le_refl _, Nat.le_of_ble_eq_true rfl⟩ ?_
  unfold Mo_idleBits at h
  show mRunF (mCd 307) (mEE (mMet mP mTx (d + 0)) (some .int) (some (.int r)) M) (0, [some (.ref 64), none, none], [], mSS M)
  refine mRunF.sg (mSl mk_307 0 5) (g := (9, [some (.ref 64), none, none], [.int (M.1 64 18), .ref 75, .int 1], mSS M)) (by decide +kernel) rfl ?_
  obtain ⟨g4, h⟩ := grd_of h
  refine R_iald (by decide +kernel) rfl g4 ?_
  refine mRunF.sg (mSl mk_307 6 4) (g := (14, [some (.ref 64), some (.int (((1 : Int32) <<< ((M.1 75 (M.1 64 18).toNatClampNeg) &&& 31)) - 1)), none], [], mSS M)) (by decide +kernel) rfl ?_
  obtain ⟨v5, hv, h⟩ := nxt_ex h
  rw [← hv]
  clear hv
  refine mRunF.sg (mSl mk_307 10 2) (g := (16, [some (.ref 64), some (.int v5), some (.int 0)], [], mSS M)) (by decide +kernel) rfl ?_
  exact Mo_idleBits_16_r h
set_option maxRecDepth 100000 in
set_option maxHeartbeats 4000000 in
theorem Mo_manyBits_4_r {N d : Nat}  {M : mS}  {r : Int32} : ∀ {n : Nat} {x1 : Int32} {x2 : Int32}, Mo_manyBits_4 N M n x1 x2 = some r → mRunF (mCd 238) (mEE (mMet mP mTx (d + 1)) (some .int) (some (.int r)) M) (4, [some (.ref 64), some (.int x1), some (.int x2)], [], mSS M) := by
  intro n
  induction n with
  | zero => intro x1 x2 h; cases h
  | succ n ih =>
    replace ih := @ih
    intro x1 x2 h
    unfold Mo_manyBits_4 at h
    refine mRunF.sg (mSl mk_238 4 2) (g := (6, [some (.ref 64), some (.int x1), some (.int x2)], [.int 5, .int x2], mSS M)) (by decide +kernel) rfl ?_
    refine R_ige (t := 30) ⟨24, by decide +kernel⟩ (fun q => ?_) (fun q => ?_)
    · rw [if_pos q] at h
      refine mRunF.sg (mSl mk_238 20 1) (g := (31, [some (.ref 64), some (.int x1), some (.int x2)], [.int x1], mSS M)) (by decide +kernel) rfl ?_
      cases h
      exact R_iret (by decide +kernel)
    · rw [if_neg q] at h
      refine mRunF.sg (mSl mk_238 7 4) (g := (15, [some (.ref 64), some (.int x1), some (.int x2)], [.int x2, .ref 97, .int x1], mSS M)) (by decide +kernel) rfl ?_
      obtain ⟨g1, h⟩ := grd_of h
      refine R_iald (by decide +kernel) rfl g1 ?_
      refine mRunF.sg (mSl mk_238 12 2) (g := (18, [some (.ref 64), some (.int x1), some (.int x2)], [.int x2, .ref 64, .int (M.1 97 x2.toNatClampNeg), .int x1], mSS M)) (by decide +kernel) rfl ?_
      obtain ⟨r3, q2, h⟩ := bR_of h
      refine R_callV (mi := 234) (na := 2) (ci := 12) (i := 64) (as := [.int x2]) (r := [.int (M.1 97 x2.toNatClampNeg), .int x1]) (rv := some (.int r3)) (σ1 := mSS M) ⟨382, by decide +kernel⟩ rfl rfl rfl rfl (Mo_othersBits_r N x2 M (d + 0) q2) ?_
      show mRunF _ _ (21, [some (.ref 64), some (.int x1), some (.int x2)], [.int r3, .int (M.1 97 x2.toNatClampNeg), .int x1], mSS M)
      refine mRunF.sg (mSl mk_238 15 3) (g := (24, [some (.ref 64), some (.int (x1 ||| ((M.1 97 x2.toNatClampNeg) &&& r3))), some (.int x2)], [], mSS M)) (by decide +kernel) rfl ?_
      obtain ⟨v4, hv, h⟩ := nxt_ex h
      rw [← hv]
      clear hv
      refine mRunF.sg (mSl mk_238 18 2) (g := (4, [some (.ref 64), some (.int v4), some (.int (x2 + 1))], [], mSS M)) (by decide +kernel) rfl ?_
      exact @ih _ _ h
set_option maxRecDepth 100000 in
set_option maxHeartbeats 4000000 in
theorem Mo_manyBits_r (N : Nat)  (M : mS) {r : Int32} (d : Nat) (h : Mo_manyBits N M = some r) : mMet mP mTx (d + 2) 238 [.ref 64] (mSS M) (some (.int r)) (mSS M) := by
  refine mMet_i ⟨Nat.le_refl _, Nat.le_refl _, Nat.le_of_ble_eq_true rfl⟩ ?_
  unfold Mo_manyBits at h
  show mRunF (mCd 238) (mEE (mMet mP mTx (d + 1)) (some .int) (some (.int r)) M) (0, [some (.ref 64), none, none], [], mSS M)
  refine mRunF.sg (mSl mk_238 0 4) (g := (4, [some (.ref 64), some (.int 0), some (.int 0)], [], mSS M)) (by decide +kernel) rfl ?_
  exact Mo_manyBits_4_r h
set_option maxRecDepth 100000 in
set_option maxHeartbeats 4000000 in
theorem Mo_anyBits_r (N : Nat)  (M : mS) {r : Int32} (d : Nat) (h : Mo_anyBits N M = some r) : mMet mP mTx (d + 2) 237 [.ref 64] (mSS M) (some (.int r)) (mSS M) := by
  refine mMet_i ⟨Nat.le_refl _, Nat.le_refl _, Nat.le_of_ble_eq_true rfl⟩ ?_
  unfold Mo_anyBits at h
  show mRunF (mCd 237) (mEE (mMet mP mTx (d + 1)) (some .int) (some (.int r)) M) (0, [some (.ref 64)], [], mSS M)
  refine mRunF.sg (mSl mk_237 0 2) (g := (2, [some (.ref 64)], [.int (-1), .ref 64], mSS M)) (by decide +kernel) rfl ?_
  obtain ⟨r2, q1, h⟩ := bR_of h
  refine R_callV (mi := 234) (na := 2) (ci := 12) (i := 64) (as := [.int (-1)]) (r := []) (rv := some (.int r2)) (σ1 := mSS M) ⟨382, by decide +kernel⟩ rfl rfl rfl rfl (Mo_othersBits_r N (-1) M (d + 0) q1) ?_
  show mRunF _ _ (5, [some (.ref 64)], [.int r2], mSS M)
  cases h
  exact R_iret (by decide +kernel)
set_option maxRecDepth 100000 in
set_option maxHeartbeats 4000000 in
theorem Mo_count_128_r {N d : Nat}   {r : Int32} {M' : mS} : ∀ {n : Nat} {x2 : Int32} {x3 : Int32} {M : mS}, Mo_count_128 N n x2 x3 M = some (r, M') → mRunF (mCd 306) (mEE (mMet mP mTx (d + 7)) (some .int) (some (.int r)) M') (128, [some (.ref 64), none, some (.int x2), some (.int x3)], [], mSS M) := by
  intro n
  induction n with
  | zero => intro x2 x3 M h; cases h
  | succ n ih =>
    replace ih := @ih
    intro x2 x3 M h
    unfold Mo_count_128 at h
    refine mRunF.sg (mSl mk_306 30 2) (g := (131, [some (.ref 64), none, some (.int x2), some (.int x3)], [.int 28, .int x3], mSS M)) (by decide +kernel) rfl ?_
    refine R_ige (t := 149) ⟨18, by decide +kernel⟩ (fun q => ?_) (fun q => ?_)
    · rw [if_pos q] at h
      refine mRunF.sg (mSl mk_306 42 1) (g := (150, [some (.ref 64), none, some (.int x2), some (.int x3)], [.int x2], mSS M)) (by decide +kernel) rfl ?_
      cases h
      exact R_iret (by decide +kernel)
    · rw [if_neg q] at h
      refine mRunF.sg (mSl mk_306 33 4) (g := (140, [some (.ref 64), none, some (.int x2), some (.int x3)], [.int x3, .ref 96, .int x2], mSS M)) (by decide +kernel) rfl ?_
      obtain ⟨g1, h⟩ := grd_of h
      refine R_iald (by decide +kernel) rfl g1 ?_
      refine mRunF.sg (mSl mk_306 38 2) (g := (143, [some (.ref 64), none, some (.int (x2 + (M.1 96 x3.toNatClampNeg))), some (.int x3)], [], mSS M)) (by decide +kernel) rfl ?_
      obtain ⟨v2, hv, h⟩ := nxt_ex h
      rw [← hv]
      clear hv
      refine mRunF.sg (mSl mk_306 40 2) (g := (128, [some (.ref 64), none, some (.int v2), some (.int (x3 + 1))], [], mSS M)) (by decide +kernel) rfl ?_
      exact @ih _ _ _ h
set_option maxRecDepth 100000 in
set_option maxHeartbeats 4000000 in
theorem Mo_count_180_r {N d : Nat} {k153 : Int32 → Int32 → mS → Option (Int32 × mS)} {M : mS} {x2 : Int32} {x3 : Int32} {r : Int32} {M' : mS} (hk153 : ∀ (x2 : Int32) (x3 : Int32) (M : mS), k153 x2 x3 M = some (r, M') → mRunF (mCd 306) (mEE (mMet mP mTx (d + 7)) (some .int) (some (.int r)) M') (153, [some (.ref 64), none, some (.int x2), some (.int x3)], [], mSS M)) (h : Mo_count_180 N k153 x2 x3 M = some (r, M')) : mRunF (mCd 306) (mEE (mMet mP mTx (d + 7)) (some .int) (some (.int r)) M') (180, [some (.ref 64), none, some (.int x2), some (.int x3)], [], mSS M) := by
  unfold Mo_count_180 at h
  refine mRunF.sg (mSl mk_306 63 2) (g := (153, [some (.ref 64), none, some (.int x2), some (.int (x3 + 1))], [], mSS M)) (by decide +kernel) rfl ?_
  exact hk153 _ _ _ h
set_option maxRecDepth 100000 in
set_option maxHeartbeats 4000000 in
theorem Mo_count_153_r {N d : Nat}   {r : Int32} {M' : mS} : ∀ {n : Nat} {x2 : Int32} {x3 : Int32} {M : mS}, Mo_count_153 N n x2 x3 M = some (r, M') → mRunF (mCd 306) (mEE (mMet mP mTx (d + 7)) (some .int) (some (.int r)) M') (153, [some (.ref 64), none, some (.int x2), some (.int x3)], [], mSS M) := by
  intro n
  induction n with
  | zero => intro x2 x3 M h; cases h
  | succ n ih =>
    replace ih := @ih
    intro x2 x3 M h
    unfold Mo_count_153 at h
    refine mRunF.sg (mSl mk_306 46 5) (g := (162, [some (.ref 64), none, some (.int x2), some (.int x3)], [.int (M.1 64 18), .ref 78, .int x3], mSS M)) (by decide +kernel) rfl ?_
    obtain ⟨g3, h⟩ := grd_of h
    refine R_iald (by decide +kernel) rfl g3 ?_
    refine R_ige (t := 186) ⟨23, by decide +kernel⟩ (fun q => ?_) (fun q => ?_)
    · rw [if_pos q] at h
      refine mRunF.sg (mSl mk_306 65 1) (g := (187, [some (.ref 64), none, some (.int x2), some (.int x3)], [.int x2], mSS M)) (by decide +kernel) rfl ?_
      cases h
      exact R_iret (by decide +kernel)
    · rw [if_neg q] at h
      refine mRunF.sg (mSl mk_306 53 2) (g := (168, [some (.ref 64), none, some (.int x2), some (.int x3)], [.int x3, .ref 64], mSS M)) (by decide +kernel) rfl ?_
      obtain ⟨r6, M5, q4, h⟩ := bW_of h
      refine R_callV (mi := 225) (na := 2) (ci := 12) (i := 64) (as := [.int x3]) (r := []) (rv := some (.int r6)) (σ1 := mSS M5) ⟨364, by decide +kernel⟩ rfl rfl rfl rfl (Mo_doesCome_r N x3 M (d + 3) q4) ?_
      have b7 := mBool rfl (Mo_doesCome_r N x3 M (d + 3) q4)
      show mRunF _ _ (171, [some (.ref 64), none, some (.int x2), some (.int x3)], [.int r6], mSS M5)
      refine R_eq (t := 180) ⟨9, by decide +kernel⟩ (fun q => ?_) (fun q => ?_)
      · rw [if_pos q] at h
        exact Mo_count_180_r (fun y0 y1 y2 hh => @ih y0 y1 y2 hh) h
      · rw [if_neg q] at h
        refine mRunF.sg (mSl mk_306 57 6) (g := (180, [some (.ref 64), none, some (.int (x2 ||| ((1 : Int32) <<< (x3 &&& 31)))), some (.int x3)], [], mSS M5)) (by decide +kernel) rfl ?_
        obtain ⟨v8, hv, h⟩ := nxt_ex h
        rw [← hv]
        clear hv
        exact Mo_count_180_r (fun y0 y1 y2 hh => @ih y0 y1 y2 hh) h
set_option maxRecDepth 100000 in
set_option maxHeartbeats 4000000 in
theorem Mo_count_233_r {N d : Nat} {k206 : Int32 → Int32 → mS → Option (Int32 × mS)} {M : mS} {x2 : Int32} {x3 : Int32} {r : Int32} {M' : mS} (hk206 : ∀ (x2 : Int32) (x3 : Int32) (M : mS), k206 x2 x3 M = some (r, M') → mRunF (mCd 306) (mEE (mMet mP mTx (d + 7)) (some .int) (some (.int r)) M') (206, [some (.ref 64), none, some (.int x2), some (.int x3)], [], mSS M)) (h : Mo_count_233 N k206 x2 x3 M = some (r, M')) : mRunF (mCd 306) (mEE (mMet mP mTx (d + 7)) (some .int) (some (.int r)) M') (233, [some (.ref 64), none, some (.int x2), some (.int x3)], [], mSS M) := by
  unfold Mo_count_233 at h
  refine mRunF.sg (mSl mk_306 98 2) (g := (206, [some (.ref 64), none, some (.int x2), some (.int (x3 + 1))], [], mSS M)) (by decide +kernel) rfl ?_
  exact hk206 _ _ _ h
set_option maxRecDepth 100000 in
set_option maxHeartbeats 4000000 in
theorem Mo_count_206_r {N d : Nat}   {r : Int32} {M' : mS} : ∀ {n : Nat} {x2 : Int32} {x3 : Int32} {M : mS}, Mo_count_206 N n x2 x3 M = some (r, M') → mRunF (mCd 306) (mEE (mMet mP mTx (d + 7)) (some .int) (some (.int r)) M') (206, [some (.ref 64), none, some (.int x2), some (.int x3)], [], mSS M) := by
  intro n
  induction n with
  | zero => intro x2 x3 M h; cases h
  | succ n ih =>
    replace ih := @ih
    intro x2 x3 M h
    unfold Mo_count_206 at h
    refine mRunF.sg (mSl mk_306 81 5) (g := (215, [some (.ref 64), none, some (.int x2), some (.int x3)], [.int (M.1 64 18), .ref 75, .int x3], mSS M)) (by decide +kernel) rfl ?_
    obtain ⟨g9, h⟩ := grd_of h
    refine R_iald (by decide +kernel) rfl g9 ?_
    refine R_ige (t := 239) ⟨23, by decide +kernel⟩ (fun q => ?_) (fun q => ?_)
    · rw [if_pos q] at h
      refine mRunF.sg (mSl mk_306 100 1) (g := (240, [some (.ref 64), none, some (.int x2), some (.int x3)], [.int x2], mSS M)) (by decide +kernel) rfl ?_
      cases h
      exact R_iret (by decide +kernel)
    · rw [if_neg q] at h
      refine mRunF.sg (mSl mk_306 88 2) (g := (221, [some (.ref 64), none, some (.int x2), some (.int x3)], [.int x3, .ref 64], mSS M)) (by decide +kernel) rfl ?_
      obtain ⟨r12, M11, q10, h⟩ := bW_of h
      refine R_callV (mi := 229) (na := 2) (ci := 12) (i := 64) (as := [.int x3]) (r := []) (rv := some (.int r12)) (σ1 := mSS M11) ⟨360, by decide +kernel⟩ rfl rfl rfl rfl (Mo_isDim_r N x3 M (d + 3) q10) ?_
      have b13 := mBool rfl (Mo_isDim_r N x3 M (d + 3) q10)
      show mRunF _ _ (224, [some (.ref 64), none, some (.int x2), some (.int x3)], [.int r12], mSS M11)
      refine R_eq (t := 233) ⟨9, by decide +kernel⟩ (fun q => ?_) (fun q => ?_)
      · rw [if_pos q] at h
        exact Mo_count_233_r (fun y0 y1 y2 hh => @ih y0 y1 y2 hh) h
      · rw [if_neg q] at h
        refine mRunF.sg (mSl mk_306 92 6) (g := (233, [some (.ref 64), none, some (.int (x2 ||| ((1 : Int32) <<< (x3 &&& 31)))), some (.int x3)], [], mSS M11)) (by decide +kernel) rfl ?_
        obtain ⟨v14, hv, h⟩ := nxt_ex h
        rw [← hv]
        clear hv
        exact Mo_count_233_r (fun y0 y1 y2 hh => @ih y0 y1 y2 hh) h
set_option maxRecDepth 100000 in
set_option maxHeartbeats 4000000 in
theorem Mo_count_284_r {N d : Nat}  {M : mS} {z0 : Int32} {z1 : Int32} {r : Int32} {M' : mS} (h : Mo_count_284 N z0 z1 M = some (r, M')) : mRunF (mCd 306) (mEE (mMet mP mTx (d + 7)) (some .int) (some (.int r)) M') (284, [some (.ref 64), none, none, none], [.int z1, .int z0], mSS M) := by
  unfold Mo_count_284 at h
  refine mRunF.sg (mSl mk_306 127 4) (g := (290, [some (.ref 64), none, none, none], [.int 2, .ref 109, .int (z0 + z1)], mSS M)) (by decide +kernel) rfl ?_
  refine R_bald (by decide +kernel) rfl rfl ?_
  show mRunF _ _ (291, [some (.ref 64), none, none, none], [.int (M.1 109 2), .int (z0 + z1)], mSS M)
  refine R_eq (t := 298) ⟨7, by decide +kernel⟩ (fun q => ?_) (fun q => ?_)
  · rw [if_pos q] at h
    refine mRunF.sg (mSl mk_306 135 2) (g := (300, [some (.ref 64), none, none, none], [.int ((z0 + z1) + 0)], mSS M)) (by decide +kernel) rfl ?_
    cases h
    exact R_iret (by decide +kernel)
  · rw [if_neg q] at h
    refine mRunF.sg (mSl mk_306 133 2) (g := (299, [some (.ref 64), none, none, none], [.int 1, .int (z0 + z1)], mSS M)) (by decide +kernel) rfl ?_
    refine mRunF.sg (mSl mk_306 136 1) (g := (300, [some (.ref 64), none, none, none], [.int ((z0 + z1) + 1)], mSS M)) (by decide +kernel) rfl ?_
    cases h
    exact R_iret (by decide +kernel)
set_option maxRecDepth 100000 in
set_option maxHeartbeats 4000000 in
theorem Mo_count_270_r {N d : Nat}  {M : mS} {z0 : Int32} {r : Int32} {M' : mS} (h : Mo_count_270 N z0 M = some (r, M')) : mRunF (mCd 306) (mEE (mMet mP mTx (d + 7)) (some .int) (some (.int r)) M') (270, [some (.ref 64), none, none, none], [.int z0], mSS M) := by
  unfold Mo_count_270 at h
  refine mRunF.sg (mSl mk_306 119 3) (g := (275, [some (.ref 64), none, none, none], [.int 1, .ref 109, .int z0], mSS M)) (by decide +kernel) rfl ?_
  refine R_bald (by decide +kernel) rfl rfl ?_
  show mRunF _ _ (276, [some (.ref 64), none, none, none], [.int (M.1 109 1), .int z0], mSS M)
  refine R_eq (t := 283) ⟨7, by decide +kernel⟩ (fun q => ?_) (fun q => ?_)
  · rw [if_pos q] at h
    refine mRunF.sg (mSl mk_306 126 1) (g := (284, [some (.ref 64), none, none, none], [.int 0, .int z0], mSS M)) (by decide +kernel) rfl ?_
    exact Mo_count_284_r h
  · rw [if_neg q] at h
    refine mRunF.sg (mSl mk_306 124 2) (g := (284, [some (.ref 64), none, none, none], [.int 1, .int z0], mSS M)) (by decide +kernel) rfl ?_
    exact Mo_count_284_r h
set_option maxRecDepth 100000 in
set_option maxHeartbeats 4000000 in
theorem Mo_count_331_r {N d : Nat} {k303 : Int32 → Int32 → mS → Option (Int32 × mS)} {M : mS} {x2 : Int32} {x3 : Int32} {r : Int32} {M' : mS} (hk303 : ∀ (x2 : Int32) (x3 : Int32) (M : mS), k303 x2 x3 M = some (r, M') → mRunF (mCd 306) (mEE (mMet mP mTx (d + 7)) (some .int) (some (.int r)) M') (303, [some (.ref 64), none, some (.int x2), some (.int x3)], [], mSS M)) (h : Mo_count_331 N k303 x2 x3 M = some (r, M')) : mRunF (mCd 306) (mEE (mMet mP mTx (d + 7)) (some .int) (some (.int r)) M') (331, [some (.ref 64), none, some (.int x2), some (.int x3)], [], mSS M) := by
  unfold Mo_count_331 at h
  refine mRunF.sg (mSl mk_306 158 2) (g := (303, [some (.ref 64), none, some (.int x2), some (.int (x3 + 1))], [], mSS M)) (by decide +kernel) rfl ?_
  exact hk303 _ _ _ h
set_option maxRecDepth 100000 in
set_option maxHeartbeats 4000000 in
theorem Mo_count_303_r {N d : Nat}   {r : Int32} {M' : mS} : ∀ {n : Nat} {x2 : Int32} {x3 : Int32} {M : mS}, Mo_count_303 N n x2 x3 M = some (r, M') → mRunF (mCd 306) (mEE (mMet mP mTx (d + 7)) (some .int) (some (.int r)) M') (303, [some (.ref 64), none, some (.int x2), some (.int x3)], [], mSS M) := by
  intro n
  induction n with
  | zero => intro x2 x3 M h; cases h
  | succ n ih =>
    replace ih := @ih
    intro x2 x3 M h
    unfold Mo_count_303 at h
    refine mRunF.sg (mSl mk_306 140 5) (g := (312, [some (.ref 64), none, some (.int x2), some (.int x3)], [.int (M.1 64 18), .ref 75, .int x3], mSS M)) (by decide +kernel) rfl ?_
    obtain ⟨g15, h⟩ := grd_of h
    refine R_iald (by decide +kernel) rfl g15 ?_
    refine R_ige (t := 337) ⟨24, by decide +kernel⟩ (fun q => ?_) (fun q => ?_)
    · rw [if_pos q] at h
      refine mRunF.sg (mSl mk_306 160 1) (g := (338, [some (.ref 64), none, some (.int x2), some (.int x3)], [.int x2], mSS M)) (by decide +kernel) rfl ?_
      cases h
      exact R_iret (by decide +kernel)
    · rw [if_neg q] at h
      refine mRunF.sg (mSl mk_306 147 3) (g := (321, [some (.ref 64), none, some (.int x2), some (.int x3)], [.int x3, .ref 96], mSS M)) (by decide +kernel) rfl ?_
      obtain ⟨g16, h⟩ := grd_of h
      refine R_iald (by decide +kernel) rfl g16 ?_
      refine R_ne (t := 331) ⟨9, by decide +kernel⟩ (fun q => ?_) (fun q => ?_)
      · rw [if_pos q] at h
        refine mRunF.sg (mSl mk_306 152 6) (g := (331, [some (.ref 64), none, some (.int (x2 ||| ((1 : Int32) <<< (x3 &&& 31)))), some (.int x3)], [], mSS M)) (by decide +kernel) rfl ?_
        obtain ⟨v17, hv, h⟩ := nxt_ex h
        rw [← hv]
        clear hv
        exact Mo_count_331_r (fun y0 y1 y2 hh => @ih y0 y1 y2 hh) h
      · rw [if_neg q] at h
        exact Mo_count_331_r (fun y0 y1 y2 hh => @ih y0 y1 y2 hh) h
set_option maxRecDepth 100000 in
set_option maxHeartbeats 4000000 in
theorem Mo_count_365_r {N d : Nat} {k347 : Int32 → Int32 → mS → Option (Int32 × mS)} {M : mS} {x2 : Int32} {x3 : Int32} {r : Int32} {M' : mS} (hk347 : ∀ (x2 : Int32) (x3 : Int32) (M : mS), k347 x2 x3 M = some (r, M') → mRunF (mCd 306) (mEE (mMet mP mTx (d + 7)) (some .int) (some (.int r)) M') (347, [some (.ref 64), none, some (.int x2), some (.int x3)], [], mSS M)) (h : Mo_count_365 N k347 x2 x3 M = some (r, M')) : mRunF (mCd 306) (mEE (mMet mP mTx (d + 7)) (some .int) (some (.int r)) M') (365, [some (.ref 64), none, some (.int x2), some (.int x3)], [], mSS M) := by
  unfold Mo_count_365 at h
  refine mRunF.sg (mSl mk_306 176 2) (g := (347, [some (.ref 64), none, some (.int x2), some (.int (x3 + 1))], [], mSS M)) (by decide +kernel) rfl ?_
  exact hk347 _ _ _ h
set_option maxRecDepth 100000 in
set_option maxHeartbeats 4000000 in
theorem Mo_count_347_r {N d : Nat}   {r : Int32} {M' : mS} : ∀ {n : Nat} {x2 : Int32} {x3 : Int32} {M : mS}, Mo_count_347 N n x2 x3 M = some (r, M') → mRunF (mCd 306) (mEE (mMet mP mTx (d + 7)) (some .int) (some (.int r)) M') (347, [some (.ref 64), none, some (.int x2), some (.int x3)], [], mSS M) := by
  intro n
  induction n with
  | zero => intro x2 x3 M h; cases h
  | succ n ih =>
    replace ih := @ih
    intro x2 x3 M h
    unfold Mo_count_347 at h
    refine mRunF.sg (mSl mk_306 167 2) (g := (350, [some (.ref 64), none, some (.int x2), some (.int x3)], [.int 28, .int x3], mSS M)) (by decide +kernel) rfl ?_
    refine R_ige (t := 371) ⟨21, by decide +kernel⟩ (fun q => ?_) (fun q => ?_)
    · rw [if_pos q] at h
      refine mRunF.sg (mSl mk_306 178 1) (g := (372, [some (.ref 64), none, some (.int x2), some (.int x3)], [.int x2], mSS M)) (by decide +kernel) rfl ?_
      cases h
      exact R_iret (by decide +kernel)
    · rw [if_neg q] at h
      refine mRunF.sg (mSl mk_306 170 3) (g := (358, [some (.ref 64), none, some (.int x2), some (.int x3)], [.int x3, .ref 96], mSS M)) (by decide +kernel) rfl ?_
      obtain ⟨g18, h⟩ := grd_of h
      refine R_iald (by decide +kernel) rfl g18 ?_
      refine R_le (t := 365) ⟨6, by decide +kernel⟩ (fun q => ?_) (fun q => ?_)
      · rw [if_pos q] at h
        exact Mo_count_365_r (fun y0 y1 y2 hh => @ih y0 y1 y2 hh) h
      · rw [if_neg q] at h
        refine mRunF.sg (mSl mk_306 175 1) (g := (365, [some (.ref 64), none, some (.int (x2 + 1)), some (.int x3)], [], mSS M)) (by decide +kernel) rfl ?_
        exact Mo_count_365_r (fun y0 y1 y2 hh => @ih y0 y1 y2 hh) h
set_option maxRecDepth 100000 in
set_option maxHeartbeats 4000000 in
theorem Mo_count_411_r {N d : Nat} {k380 : Int32 → Int32 → mS → Option (Int32 × mS)} {M : mS} {x2 : Int32} {x3 : Int32} {r : Int32} {M' : mS} (hk380 : ∀ (x2 : Int32) (x3 : Int32) (M : mS), k380 x2 x3 M = some (r, M') → mRunF (mCd 306) (mEE (mMet mP mTx (d + 7)) (some .int) (some (.int r)) M') (380, [some (.ref 64), none, some (.int x2), some (.int x3)], [], mSS M)) (h : Mo_count_411 N k380 x2 x3 M = some (r, M')) : mRunF (mCd 306) (mEE (mMet mP mTx (d + 7)) (some .int) (some (.int r)) M') (411, [some (.ref 64), none, some (.int x2), some (.int x3)], [], mSS M) := by
  unfold Mo_count_411 at h
  refine mRunF.sg (mSl mk_306 205 2) (g := (380, [some (.ref 64), none, some (.int x2), some (.int (x3 + 1))], [], mSS M)) (by decide +kernel) rfl ?_
  exact hk380 _ _ _ h
set_option maxRecDepth 100000 in
set_option maxHeartbeats 4000000 in
theorem Mo_count_380_r {N d : Nat}   {r : Int32} {M' : mS} : ∀ {n : Nat} {x2 : Int32} {x3 : Int32} {M : mS}, Mo_count_380 N n x2 x3 M = some (r, M') → mRunF (mCd 306) (mEE (mMet mP mTx (d + 7)) (some .int) (some (.int r)) M') (380, [some (.ref 64), none, some (.int x2), some (.int x3)], [], mSS M) := by
  intro n
  induction n with
  | zero => intro x2 x3 M h; cases h
  | succ n ih =>
    replace ih := @ih
    intro x2 x3 M h
    unfold Mo_count_380 at h
    refine mRunF.sg (mSl mk_306 185 5) (g := (389, [some (.ref 64), none, some (.int x2), some (.int x3)], [.int (M.1 64 18), .ref 78, .int x3], mSS M)) (by decide +kernel) rfl ?_
    obtain ⟨g19, h⟩ := grd_of h
    refine R_iald (by decide +kernel) rfl g19 ?_
    refine R_ige (t := 417) ⟨27, by decide +kernel⟩ (fun q => ?_) (fun q => ?_)
    · rw [if_pos q] at h
      refine mRunF.sg (mSl mk_306 207 1) (g := (418, [some (.ref 64), none, some (.int x2), some (.int x3)], [.int x2], mSS M)) (by decide +kernel) rfl ?_
      cases h
      exact R_iret (by decide +kernel)
    · rw [if_neg q] at h
      refine mRunF.sg (mSl mk_306 192 5) (g := (401, [some (.ref 64), none, some (.int x2), some (.int x3)], [.int (13 + x3), .ref 96], mSS M)) (by decide +kernel) rfl ?_
      obtain ⟨g20, h⟩ := grd_of h
      refine R_iald (by decide +kernel) rfl g20 ?_
      refine R_ne (t := 411) ⟨9, by decide +kernel⟩ (fun q => ?_) (fun q => ?_)
      · rw [if_pos q] at h
        refine mRunF.sg (mSl mk_306 199 6) (g := (411, [some (.ref 64), none, some (.int (x2 ||| ((1 : Int32) <<< (x3 &&& 31)))), some (.int x3)], [], mSS M)) (by decide +kernel) rfl ?_
        obtain ⟨v21, hv, h⟩ := nxt_ex h
        rw [← hv]
        clear hv
        exact Mo_count_411_r (fun y0 y1 y2 hh => @ih y0 y1 y2 hh) h
      · rw [if_neg q] at h
        exact Mo_count_411_r (fun y0 y1 y2 hh => @ih y0 y1 y2 hh) h
set_option maxRecDepth 100000 in
set_option maxHeartbeats 4000000 in
theorem Mo_count_r (N : Nat) (a0 : Int32) (M : mS) {r : Int32} {M' : mS} (d : Nat) (h : Mo_count N a0 M = some (r, M')) : mMet mP mTx (d + 8) 306 [.ref 64, .int a0] (mSS M) (some (.int r)) (mSS M') := by
  refine mMet_i ⟨Nat.le_refl _, Nat.le_refl _, Nat.le_of_ble_eq_true rfl⟩ ?_
  unfold Mo_count at h
  show mRunF (mCd 306) (mEE (mMet mP mTx (d + 7)) (some .int) (some (.int r)) M') (0, [some (.ref 64), some (.int a0), none, none], [], mSS M)
  refine mRunF.sg (mSl mk_306 0 1) (g := (1, [some (.ref 64), some (.int a0), none, none], [.ref 64], mSS M)) (by decide +kernel) rfl ?_
  obtain ⟨M23, q22, h⟩ := bV_of h
  refine R_callV (mi := 219) (na := 1) (ci := 12) (i := 64) (as := []) (r := []) (rv := none) (σ1 := mSS M23) ⟨407, by decide +kernel⟩ rfl rfl rfl rfl (Mo_copiesStill_r N M (d + 5) q22) ?_
  show mRunF _ _ (4, [some (.ref 64), some (.int a0), none, none], [], mSS M23)
  refine mRunF.sg (mSl mk_306 2 1) (g := (5, [some (.ref 64), some (.int a0), none, none], [.ref 64], mSS M23)) (by decide +kernel) rfl ?_
  obtain ⟨M25, q24, h⟩ := bV_of h
  refine R_callV (mi := 233) (na := 1) (ci := 12) (i := 64) (as := []) (r := []) (rv := none) (σ1 := mSS M25) ⟨379, by decide +kernel⟩ rfl rfl rfl rfl (Mo_fillsThere_r N M23 (d + 0) q24) ?_
  show mRunF _ _ (8, [some (.ref 64), some (.int a0), none, none], [], mSS M25)
  refine mRunF.sg (mSl mk_306 4 3) (g := (11, [some (.ref 64), some (.int a0), some (.int 0), none], [.int a0], mSS M25)) (by decide +kernel) rfl ?_
  by_cases e0 : a0 = 0
  · rw [if_pos e0] at h
    refine R_swc (lo := 0) (hi := 16) (td := 419) (ts := [92, 97, 107, 117, 125, 151, 188, 204, 241, 246, 251, 256, 301, 339, 344, 373, 378]) ⟨408, #[81, 86, 96, 106, 114, 140, 177, 193, 230, 235, 240, 245, 290, 328, 333, 362, 367], by decide +kernel⟩ 0 (by rw [e0]; decide) (by decide) rfl ?_
    refine mRunF.sg (mSl mk_306 8 1) (g := (93, [some (.ref 64), some (.int a0), some (.int 0), none], [.ref 64], mSS M25)) (by decide +kernel) rfl ?_
    obtain ⟨r27, q26, h⟩ := bR_of h
    refine R_callV (mi := 210) (na := 1) (ci := 12) (i := 64) (as := []) (r := []) (rv := some (.int r27)) (σ1 := mSS M25) ⟨313, by decide +kernel⟩ rfl rfl rfl rfl (Mo_hours_r N M25 (d + 6) q26) ?_
    show mRunF _ _ (96, [some (.ref 64), some (.int a0), some (.int 0), none], [.int r27], mSS M25)
    cases h
    exact R_iret (by decide +kernel)
  rw [if_neg e0] at h
  by_cases e1 : a0 = 1
  · rw [if_pos e1] at h
    refine R_swc (lo := 0) (hi := 16) (td := 419) (ts := [92, 97, 107, 117, 125, 151, 188, 204, 241, 246, 251, 256, 301, 339, 344, 373, 378]) ⟨408, #[81, 86, 96, 106, 114, 140, 177, 193, 230, 235, 240, 245, 290, 328, 333, 362, 367], by decide +kernel⟩ 1 (by rw [e1]; decide) (by decide) rfl ?_
    refine mRunF.sg (mSl mk_306 11 4) (g := (105, [some (.ref 64), some (.int a0), some (.int 0), none], [.int (M25.1 64 18), .ref 75], mSS M25)) (by decide +kernel) rfl ?_
    obtain ⟨g28, h⟩ := grd_of h
    refine R_iald (by decide +kernel) rfl g28 ?_
    cases h
    exact R_iret (by decide +kernel)
  rw [if_neg e1] at h
  by_cases e2 : a0 = 2
  · rw [if_pos e2] at h
    refine R_swc (lo := 0) (hi := 16) (td := 419) (ts := [92, 97, 107, 117, 125, 151, 188, 204, 241, 246, 251, 256, 301, 339, 344, 373, 378]) ⟨408, #[81, 86, 96, 106, 114, 140, 177, 193, 230, 235, 240, 245, 290, 328, 333, 362, 367], by decide +kernel⟩ 2 (by rw [e2]; decide) (by decide) rfl ?_
    refine mRunF.sg (mSl mk_306 17 4) (g := (115, [some (.ref 64), some (.int a0), some (.int 0), none], [.int (M25.1 64 18), .ref 78], mSS M25)) (by decide +kernel) rfl ?_
    obtain ⟨g29, h⟩ := grd_of h
    refine R_iald (by decide +kernel) rfl g29 ?_
    cases h
    exact R_iret (by decide +kernel)
  rw [if_neg e2] at h
  by_cases e3 : a0 = 3
  · rw [if_pos e3] at h
    refine R_swc (lo := 0) (hi := 16) (td := 419) (ts := [92, 97, 107, 117, 125, 151, 188, 204, 241, 246, 251, 256, 301, 339, 344, 373, 378]) ⟨408, #[81, 86, 96, 106, 114, 140, 177, 193, 230, 235, 240, 245, 290, 328, 333, 362, 367], by decide +kernel⟩ 3 (by rw [e3]; decide) (by decide) rfl ?_
    refine mRunF.sg (mSl mk_306 23 3) (g := (123, [some (.ref 64), some (.int a0), some (.int 0), none], [.int 28, .ref 96], mSS M25)) (by decide +kernel) rfl ?_
    refine R_iald (by decide +kernel) rfl rfl ?_
    show mRunF _ _ (124, [some (.ref 64), some (.int a0), some (.int 0), none], [.int (M25.1 96 28)], mSS M25)
    cases h
    exact R_iret (by decide +kernel)
  rw [if_neg e3] at h
  by_cases e4 : a0 = 4
  · rw [if_pos e4] at h
    refine R_swc (lo := 0) (hi := 16) (td := 419) (ts := [92, 97, 107, 117, 125, 151, 188, 204, 241, 246, 251, 256, 301, 339, 344, 373, 378]) ⟨408, #[81, 86, 96, 106, 114, 140, 177, 193, 230, 235, 240, 245, 290, 328, 333, 362, 367], by decide +kernel⟩ 4 (by rw [e4]; decide) (by decide) rfl ?_
    refine mRunF.sg (mSl mk_306 28 2) (g := (128, [some (.ref 64), some (.int a0), some (.int 0), some (.int 18)], [], mSS M25)) (by decide +kernel) rfl ?_
    refine mRunF.forget [true, false, true, true] ?_
    exact Mo_count_128_r h
  rw [if_neg e4] at h
  by_cases e5 : a0 = 5
  · rw [if_pos e5] at h
    refine R_swc (lo := 0) (hi := 16) (td := 419) (ts := [92, 97, 107, 117, 125, 151, 188, 204, 241, 246, 251, 256, 301, 339, 344, 373, 378]) ⟨408, #[81, 86, 96, 106, 114, 140, 177, 193, 230, 235, 240, 245, 290, 328, 333, 362, 367], by decide +kernel⟩ 5 (by rw [e5]; decide) (by decide) rfl ?_
    refine mRunF.sg (mSl mk_306 44 2) (g := (153, [some (.ref 64), some (.int a0), some (.int 0), some (.int 0)], [], mSS M25)) (by decide +kernel) rfl ?_
    refine mRunF.forget [true, false, true, true] ?_
    exact Mo_count_153_r h
  rw [if_neg e5] at h
  by_cases e6 : a0 = 6
  · rw [if_pos e6] at h
    refine R_swc (lo := 0) (hi := 16) (td := 419) (ts := [92, 97, 107, 117, 125, 151, 188, 204, 241, 246, 251, 256, 301, 339, 344, 373, 378]) ⟨408, #[81, 86, 96, 106, 114, 140, 177, 193, 230, 235, 240, 245, 290, 328, 333, 362, 367], by decide +kernel⟩ 6 (by rw [e6]; decide) (by decide) rfl ?_
    refine mRunF.sg (mSl mk_306 67 2) (g := (190, [some (.ref 64), some (.int a0), some (.int 0), none], [.ref 64, .int 1], mSS M25)) (by decide +kernel) rfl ?_
    obtain ⟨r31, q30, h⟩ := bR_of h
    refine R_callV (mi := 210) (na := 1) (ci := 12) (i := 64) (as := []) (r := [.int 1]) (rv := some (.int r31)) (σ1 := mSS M25) ⟨313, by decide +kernel⟩ rfl rfl rfl rfl (Mo_hours_r N M25 (d + 6) q30) ?_
    show mRunF _ _ (193, [some (.ref 64), some (.int a0), some (.int 0), none], [.int r31, .int 1], mSS M25)
    refine mRunF.sg (mSl mk_306 70 4) (g := (197, [some (.ref 64), some (.int a0), some (.int 0), none], [.ref 64, .int (((1 : Int32) <<< (r31 &&& 31)) - 1)], mSS M25)) (by decide +kernel) rfl ?_
    obtain ⟨r33, q32, h⟩ := bR_of h
    refine R_callV (mi := 237) (na := 1) (ci := 12) (i := 64) (as := []) (r := [.int (((1 : Int32) <<< (r31 &&& 31)) - 1)]) (rv := some (.int r33)) (σ1 := mSS M25) ⟨504, by decide +kernel⟩ rfl rfl rfl rfl (Mo_anyBits_r N M25 (d + 5) q32) ?_
    show mRunF _ _ (200, [some (.ref 64), some (.int a0), some (.int 0), none], [.int r33, .int (((1 : Int32) <<< (r31 &&& 31)) - 1)], mSS M25)
    refine mRunF.sg (mSl mk_306 75 3) (g := (203, [some (.ref 64), some (.int a0), some (.int 0), none], [.int ((((1 : Int32) <<< (r31 &&& 31)) - 1) &&& (r33 ^^^ (-1)))], mSS M25)) (by decide +kernel) rfl ?_
    cases h
    exact R_iret (by decide +kernel)
  rw [if_neg e6] at h
  by_cases e7 : a0 = 7
  · rw [if_pos e7] at h
    refine R_swc (lo := 0) (hi := 16) (td := 419) (ts := [92, 97, 107, 117, 125, 151, 188, 204, 241, 246, 251, 256, 301, 339, 344, 373, 378]) ⟨408, #[81, 86, 96, 106, 114, 140, 177, 193, 230, 235, 240, 245, 290, 328, 333, 362, 367], by decide +kernel⟩ 7 (by rw [e7]; decide) (by decide) rfl ?_
    refine mRunF.sg (mSl mk_306 79 2) (g := (206, [some (.ref 64), some (.int a0), some (.int 0), some (.int 0)], [], mSS M25)) (by decide +kernel) rfl ?_
    refine mRunF.forget [true, false, true, true] ?_
    exact Mo_count_206_r h
  rw [if_neg e7] at h
  by_cases e8 : a0 = 8
  · rw [if_pos e8] at h
    refine R_swc (lo := 0) (hi := 16) (td := 419) (ts := [92, 97, 107, 117, 125, 151, 188, 204, 241, 246, 251, 256, 301, 339, 344, 373, 378]) ⟨408, #[81, 86, 96, 106, 114, 140, 177, 193, 230, 235, 240, 245, 290, 328, 333, 362, 367], by decide +kernel⟩ 8 (by rw [e8]; decide) (by decide) rfl ?_
    refine mRunF.sg (mSl mk_306 102 2) (g := (245, [some (.ref 64), some (.int a0), some (.int 0), none], [.int (M25.1 64 2)], mSS M25)) (by decide +kernel) rfl ?_
    cases h
    exact R_iret (by decide +kernel)
  rw [if_neg e8] at h
  by_cases e9 : a0 = 9
  · rw [if_pos e9] at h
    refine R_swc (lo := 0) (hi := 16) (td := 419) (ts := [92, 97, 107, 117, 125, 151, 188, 204, 241, 246, 251, 256, 301, 339, 344, 373, 378]) ⟨408, #[81, 86, 96, 106, 114, 140, 177, 193, 230, 235, 240, 245, 290, 328, 333, 362, 367], by decide +kernel⟩ 9 (by rw [e9]; decide) (by decide) rfl ?_
    refine mRunF.sg (mSl mk_306 105 2) (g := (250, [some (.ref 64), some (.int a0), some (.int 0), none], [.int (M25.1 64 53)], mSS M25)) (by decide +kernel) rfl ?_
    cases h
    exact R_iret (by decide +kernel)
  rw [if_neg e9] at h
  by_cases e10 : a0 = 10
  · rw [if_pos e10] at h
    refine R_swc (lo := 0) (hi := 16) (td := 419) (ts := [92, 97, 107, 117, 125, 151, 188, 204, 241, 246, 251, 256, 301, 339, 344, 373, 378]) ⟨408, #[81, 86, 96, 106, 114, 140, 177, 193, 230, 235, 240, 245, 290, 328, 333, 362, 367], by decide +kernel⟩ 10 (by rw [e10]; decide) (by decide) rfl ?_
    refine mRunF.sg (mSl mk_306 108 2) (g := (255, [some (.ref 64), some (.int a0), some (.int 0), none], [.int (M25.1 64 62)], mSS M25)) (by decide +kernel) rfl ?_
    cases h
    exact R_iret (by decide +kernel)
  rw [if_neg e10] at h
  by_cases e11 : a0 = 11
  · rw [if_pos e11] at h
    refine R_swc (lo := 0) (hi := 16) (td := 419) (ts := [92, 97, 107, 117, 125, 151, 188, 204, 241, 246, 251, 256, 301, 339, 344, 373, 378]) ⟨408, #[81, 86, 96, 106, 114, 140, 177, 193, 230, 235, 240, 245, 290, 328, 333, 362, 367], by decide +kernel⟩ 11 (by rw [e11]; decide) (by decide) rfl ?_
    refine mRunF.sg (mSl mk_306 111 3) (g := (261, [some (.ref 64), some (.int a0), some (.int 0), none], [.int 0, .ref 109], mSS M25)) (by decide +kernel) rfl ?_
    refine R_bald (by decide +kernel) rfl rfl ?_
    show mRunF _ _ (262, [some (.ref 64), some (.int a0), some (.int 0), none], [.int (M25.1 109 0)], mSS M25)
    refine R_eq (t := 269) ⟨7, by decide +kernel⟩ (fun q => ?_) (fun q => ?_)
    · rw [if_pos q] at h
      refine mRunF.sg (mSl mk_306 118 1) (g := (270, [some (.ref 64), some (.int a0), some (.int 0), none], [.int 0], mSS M25)) (by decide +kernel) rfl ?_
      refine mRunF.forget [true, false, false, true] ?_
      exact Mo_count_270_r h
    · rw [if_neg q] at h
      refine mRunF.sg (mSl mk_306 116 2) (g := (270, [some (.ref 64), some (.int a0), some (.int 0), none], [.int 1], mSS M25)) (by decide +kernel) rfl ?_
      refine mRunF.forget [true, false, false, true] ?_
      exact Mo_count_270_r h
  rw [if_neg e11] at h
  by_cases e12 : a0 = 12
  · rw [if_pos e12] at h
    refine R_swc (lo := 0) (hi := 16) (td := 419) (ts := [92, 97, 107, 117, 125, 151, 188, 204, 241, 246, 251, 256, 301, 339, 344, 373, 378]) ⟨408, #[81, 86, 96, 106, 114, 140, 177, 193, 230, 235, 240, 245, 290, 328, 333, 362, 367], by decide +kernel⟩ 12 (by rw [e12]; decide) (by decide) rfl ?_
    refine mRunF.sg (mSl mk_306 138 2) (g := (303, [some (.ref 64), some (.int a0), some (.int 0), some (.int 0)], [], mSS M25)) (by decide +kernel) rfl ?_
    refine mRunF.forget [true, false, true, true] ?_
    exact Mo_count_303_r h
  rw [if_neg e12] at h
  by_cases e13 : a0 = 13
  · rw [if_pos e13] at h
    refine R_swc (lo := 0) (hi := 16) (td := 419) (ts := [92, 97, 107, 117, 125, 151, 188, 204, 241, 246, 251, 256, 301, 339, 344, 373, 378]) ⟨408, #[81, 86, 96, 106, 114, 140, 177, 193, 230, 235, 240, 245, 290, 328, 333, 362, 367], by decide +kernel⟩ 13 (by rw [e13]; decide) (by decide) rfl ?_
    refine mRunF.sg (mSl mk_306 162 1) (g := (340, [some (.ref 64), some (.int a0), some (.int 0), none], [.ref 64], mSS M25)) (by decide +kernel) rfl ?_
    obtain ⟨r35, q34, h⟩ := bR_of h
    refine R_callV (mi := 238) (na := 1) (ci := 12) (i := 64) (as := []) (r := []) (rv := some (.int r35)) (σ1 := mSS M25) ⟨507, by decide +kernel⟩ rfl rfl rfl rfl (Mo_manyBits_r N M25 (d + 5) q34) ?_
    show mRunF _ _ (343, [some (.ref 64), some (.int a0), some (.int 0), none], [.int r35], mSS M25)
    cases h
    exact R_iret (by decide +kernel)
  rw [if_neg e13] at h
  by_cases e14 : a0 = 14
  · rw [if_pos e14] at h
    refine R_swc (lo := 0) (hi := 16) (td := 419) (ts := [92, 97, 107, 117, 125, 151, 188, 204, 241, 246, 251, 256, 301, 339, 344, 373, 378]) ⟨408, #[81, 86, 96, 106, 114, 140, 177, 193, 230, 235, 240, 245, 290, 328, 333, 362, 367], by decide +kernel⟩ 14 (by rw [e14]; decide) (by decide) rfl ?_
    refine mRunF.sg (mSl mk_306 165 2) (g := (347, [some (.ref 64), some (.int a0), some (.int 0), some (.int 18)], [], mSS M25)) (by decide +kernel) rfl ?_
    refine mRunF.forget [true, false, true, true] ?_
    exact Mo_count_347_r h
  rw [if_neg e14] at h
  by_cases e15 : a0 = 15
  · rw [if_pos e15] at h
    refine R_swc (lo := 0) (hi := 16) (td := 419) (ts := [92, 97, 107, 117, 125, 151, 188, 204, 241, 246, 251, 256, 301, 339, 344, 373, 378]) ⟨408, #[81, 86, 96, 106, 114, 140, 177, 193, 230, 235, 240, 245, 290, 328, 333, 362, 367], by decide +kernel⟩ 15 (by rw [e15]; decide) (by decide) rfl ?_
    refine mRunF.sg (mSl mk_306 180 1) (g := (374, [some (.ref 64), some (.int a0), some (.int 0), none], [.ref 64], mSS M25)) (by decide +kernel) rfl ?_
    obtain ⟨r37, q36, h⟩ := bR_of h
    refine R_callV (mi := 307) (na := 1) (ci := 12) (i := 64) (as := []) (r := []) (rv := some (.int r37)) (σ1 := mSS M25) ⟨510, by decide +kernel⟩ rfl rfl rfl rfl (Mo_idleBits_r N M25 (d + 6) q36) ?_
    show mRunF _ _ (377, [some (.ref 64), some (.int a0), some (.int 0), none], [.int r37], mSS M25)
    cases h
    exact R_iret (by decide +kernel)
  rw [if_neg e15] at h
  by_cases e16 : a0 = 16
  · rw [if_pos e16] at h
    refine R_swc (lo := 0) (hi := 16) (td := 419) (ts := [92, 97, 107, 117, 125, 151, 188, 204, 241, 246, 251, 256, 301, 339, 344, 373, 378]) ⟨408, #[81, 86, 96, 106, 114, 140, 177, 193, 230, 235, 240, 245, 290, 328, 333, 362, 367], by decide +kernel⟩ 16 (by rw [e16]; decide) (by decide) rfl ?_
    refine mRunF.sg (mSl mk_306 183 2) (g := (380, [some (.ref 64), some (.int a0), some (.int 0), some (.int 0)], [], mSS M25)) (by decide +kernel) rfl ?_
    refine mRunF.forget [true, false, true, true] ?_
    exact Mo_count_380_r h
  rw [if_neg e16] at h
  refine R_swd (lo := 0) (hi := 16) (td := 419) (ts := [92, 97, 107, 117, 125, 151, 188, 204, 241, 246, 251, 256, 301, 339, 344, 373, 378]) ⟨408, #[81, 86, 96, 106, 114, 140, 177, 193, 230, 235, 240, 245, 290, 328, 333, 362, 367], by decide +kernel⟩ (sw_out 0 17 (by decide) (by decide) (fun j hj => by match j, hj with | 0, _ => exact e0 | 1, _ => exact e1 | 2, _ => exact e2 | 3, _ => exact e3 | 4, _ => exact e4 | 5, _ => exact e5 | 6, _ => exact e6 | 7, _ => exact e7 | 8, _ => exact e8 | 9, _ => exact e9 | 10, _ => exact e10 | 11, _ => exact e11 | 12, _ => exact e12 | 13, _ => exact e13 | 14, _ => exact e14 | 15, _ => exact e15 | 16, _ => exact e16 | j + 17, hj => omega)) ?_
  refine mRunF.sg (mSl mk_306 209 1) (g := (420, [some (.ref 64), some (.int a0), some (.int 0), none], [.int (-1)], mSS M25)) (by decide +kernel) rfl ?_
  cases h
  exact R_iret (by decide +kernel)
