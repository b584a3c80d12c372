/-! METHODS as functions, 7: printed by program -/
set_option maxRecDepth 100000 in
set_option maxHeartbeats 4000000 in
theorem Md_look_r (N : Nat) (a0 : Int32) (a1 : Int32) (a2 : Int32) (M : mS) {r : Int32} {M' : mS} (d : Nat) (h : Md_look N a0 a1 a2 M = some (r, M')) : mMet mP mTx (d + 6) 144 [.ref 0, .int a0, .int a1, .int a2] (mSS M) (some (.int r)) (mSS M') := by
  refine mMet_i ⟨Nat.le_refl _, Nat.le_refl _, Nat.le_of_ble_eq_true rfl⟩ ?_
  unfold Md_look at h
  show mRunF (mCd 144) (mEE (mMet mP mTx (d + 5)) (some .int) (some (.int r)) M') (0, [some (.ref 0), some (.int a0), some (.int a1), some (.int a2), none], [], mSS M)
  refine mRunF.sg (mSl mk_144 0 4) (g := (8, [some (.ref 0), some (.int a0), some (.int a1), some (.int a2), none], [.int (M.1 59 0), .int a0], mSS M)) (by decide +kernel) rfl ?_
  refine R_callS (mi := 165) (na := 2) (as := [.int a0, .int (M.1 59 0)]) (r := []) (rv := some (.int (Md_isWithin a0 (M.1 59 0) M))) (σ1 := mSS M) ⟨179, by decide +kernel⟩ rfl rfl rfl (Md_isWithin_r a0 (M.1 59 0) M (d + 4)) ?_
  have b1 := mBool rfl (Md_isWithin_r a0 (M.1 59 0) M (d + 4))
  show mRunF _ _ (11, [some (.ref 0), some (.int a0), some (.int a1), some (.int a2), none], [.int (Md_isWithin a0 (M.1 59 0) M)], mSS M)
  refine R_eq (t := 30) ⟨19, by decide +kernel⟩ (fun q => ?_) (fun q => ?_)
  · rw [if_pos q] at h
    refine mRunF.sg (mSl mk_144 14 1) (g := (31, [some (.ref 0), some (.int a0), some (.int a1), some (.int a2), none], [.int (-1)], mSS M)) (by decide +kernel) rfl ?_
    cases h
    exact R_iret (by decide +kernel)
  · rw [if_neg q] at h
    refine mRunF.sg (mSl mk_144 6 2) (g := (16, [some (.ref 0), some (.int a0), some (.int a1), some (.int a2), none], [.int a1, .ref 0], mSS M)) (by decide +kernel) rfl ?_
    refine R_callV (mi := 161) (na := 2) (ci := 11) (i := 0) (as := [.int a1]) (r := []) (rv := some (.int (Md_isGoer a1 M))) (σ1 := mSS M) ⟨152, by decide +kernel⟩ rfl rfl rfl rfl (Md_isGoer_r a1 M (d + 4)) ?_
    have b2 := mBool rfl (Md_isGoer_r a1 M (d + 4))
    show mRunF _ _ (19, [some (.ref 0), some (.int a0), some (.int a1), some (.int a2), none], [.int (Md_isGoer a1 M)], mSS M)
    refine R_eq (t := 30) ⟨11, by decide +kernel⟩ (fun q => ?_) (fun q => ?_)
    · rw [if_pos q] at h
      refine mRunF.sg (mSl mk_144 14 1) (g := (31, [some (.ref 0), some (.int a0), some (.int a1), some (.int a2), none], [.int (-1)], mSS M)) (by decide +kernel) rfl ?_
      cases h
      exact R_iret (by decide +kernel)
    · rw [if_neg q] at h
      refine mRunF.sg (mSl mk_144 10 2) (g := (24, [some (.ref 0), some (.int a0), some (.int a1), some (.int a2), none], [.int a2, .ref 0], mSS M)) (by decide +kernel) rfl ?_
      refine R_callV (mi := 163) (na := 2) (ci := 11) (i := 0) (as := [.int a2]) (r := []) (rv := some (.int (Md_isHour a2 M))) (σ1 := mSS M) ⟨142, by decide +kernel⟩ rfl rfl rfl rfl (Md_isHour_r a2 M (d + 4)) ?_
      have b3 := mBool rfl (Md_isHour_r a2 M (d + 4))
      show mRunF _ _ (27, [some (.ref 0), some (.int a0), some (.int a1), some (.int a2), none], [.int (Md_isHour a2 M)], mSS M)
      refine R_ne (t := 32) ⟨5, by decide +kernel⟩ (fun q => ?_) (fun q => ?_)
      · rw [if_pos q] at h
        refine mRunF.sg (mSl mk_144 14 1) (g := (31, [some (.ref 0), some (.int a0), some (.int a1), some (.int a2), none], [.int (-1)], mSS M)) (by decide +kernel) rfl ?_
        cases h
        exact R_iret (by decide +kernel)
      · rw [if_neg q] at h
        refine mRunF.sg (mSl mk_144 16 7) (g := (43, [some (.ref 0), some (.int a0), some (.int a1), some (.int a2), none], [.int a2, .int a1, .int a0, .ref 34, .ref 59], mSS M)) (by decide +kernel) rfl ?_
        obtain ⟨r6, M5, q4, h⟩ := bW_of h
        refine R_callV (mi := 50) (na := 5) (ci := 5) (i := 59) (as := [.ref 34, .int a0, .int a1, .int a2]) (r := []) (rv := some (.int r6)) (σ1 := mSS M5) ⟨293, by decide +kernel⟩ rfl rfl rfl rfl (Rd_fitting_r N a0 a1 a2 M (d + 0) q4) ?_
        show mRunF _ _ (46, [some (.ref 0), some (.int a0), some (.int a1), some (.int a2), none], [.int r6], mSS M5)
        refine mRunF.sg (mSl mk_144 24 2) (g := (50, [some (.ref 0), some (.int a0), some (.int a1), some (.int a2), some (.int r6)], [.int r6], mSS M5)) (by decide +kernel) rfl ?_
        refine R_ne (t := 58) ⟨8, by decide +kernel⟩ (fun q => ?_) (fun q => ?_)
        · rw [if_pos q] at h
          refine mRunF.sg (mSl mk_144 27 2) (g := (67, [some (.ref 0), some (.int a0), some (.int a1), some (.int a2), some (.int r6)], [.int (-2)], mSS M5)) (by decide +kernel) rfl ?_
          cases h
          exact R_iret (by decide +kernel)
        · rw [if_neg q] at h
          refine mRunF.sg (mSl mk_144 29 3) (g := (64, [some (.ref 0), some (.int a0), some (.int a1), some (.int a2), some (.int r6)], [.int r6, .ref 59], mSS M5)) (by decide +kernel) rfl ?_
          obtain ⟨r8, q7, h⟩ := bR_of h
          refine R_callV (mi := 52) (na := 2) (ci := 5) (i := 59) (as := [.int r6]) (r := []) (rv := some (.int r8)) (σ1 := mSS M5) ⟨296, by decide +kernel⟩ rfl rfl rfl rfl (Rd_bestNight_r N r6 M5 (d + 2) q7) ?_
          show mRunF _ _ (67, [some (.ref 0), some (.int a0), some (.int a1), some (.int a2), some (.int r6)], [.int r8], mSS M5)
          cases h
          exact R_iret (by decide +kernel)
set_option maxRecDepth 100000 in
set_option maxHeartbeats 4000000 in
theorem Sh_put_s1_r (N : Nat) (a0 : Int32) (M : mS) {M' : mS} (d : Nat) (h : Sh_put_s1 N a0 M = some M') : mMet mP mTx (d + 1) 55 [.ref 37, .int a0, .ref 34] (mSS M) none (mSS M') := by
  refine mMet_i ⟨Nat.le_refl _, Nat.le_refl _, Nat.le_of_ble_eq_true rfl⟩ ?_
  unfold Sh_put_s1 at h
  show mRunF (mCd 55) (mEE (mMet mP mTx (d + 0)) (none) none M') (0, [some (.ref 37), some (.int a0), some (.ref 34)], [], mSS M)
  refine mRunF.sg (mSl mk_55 0 1) (g := (1, [some (.ref 37), some (.int a0), some (.ref 34)], [.int a0], mSS M)) (by decide +kernel) rfl ?_
  refine R_lt (t := 34) ⟨33, by decide +kernel⟩ (fun q => ?_) (fun q => ?_)
  · rw [if_pos q] at h
    cases h
    exact R_vret (by decide +kernel)
  · rw [if_neg q] at h
    refine mRunF.sg (mSl mk_55 2 3) (g := (9, [some (.ref 37), some (.int a0), some (.ref 34)], [.int (M.1 37 1), .int a0], mSS M)) (by decide +kernel) rfl ?_
    refine R_ige (t := 34) ⟨25, by decide +kernel⟩ (fun q => ?_) (fun q => ?_)
    · rw [if_pos q] at h
      cases h
      exact R_vret (by decide +kernel)
    · rw [if_neg q] at h
      refine mRunF.sg (mSl mk_55 6 3) (g := (16, [some (.ref 37), some (.int a0), some (.ref 34)], [.int 44, .int (Int32.ofNat 44)], mSS M)) (by decide +kernel) rfl ?_
      refine R_ilt (t := 34) ⟨18, by decide +kernel⟩ (fun q => absurd q (by decide)) (fun _ => ?_)
      refine mRunF.sg (mSl mk_55 10 8) (g := (31, [some (.ref 37), some (.int a0), some (.ref 34)], [.int 44, .int (a0 * 44), .ref 38, .int 0, .ref 34], mSS M)) (by decide +kernel) rfl ?_
      obtain ⟨g1, h⟩ := grd_of h
      refine R_copy ⟨25, by decide +kernel⟩ rfl rfl g1 ?_
      obtain ⟨M2, hv, h⟩ := nxt_ex h
      rw [← hv]
      clear hv
      cases h
      exact R_vret (by decide +kernel)
set_option maxRecDepth 100000 in
set_option maxHeartbeats 4000000 in
theorem Md_hold_r (N : Nat) (a0 : Int32) (M : mS) {r : Int32} {M' : mS} (d : Nat) (h : Md_hold N a0 M = some (r, M')) : mMet mP mTx (d + 2) 145 [.ref 0, .int a0] (mSS M) (some (.int r)) (mSS M') := by
  refine mMet_i ⟨Nat.le_refl _, Nat.le_refl _, Nat.le_of_ble_eq_true rfl⟩ ?_
  unfold Md_hold at h
  show mRunF (mCd 145) (mEE (mMet mP mTx (d + 1)) (some .boolean) (some (.int r)) M') (0, [some (.ref 0), some (.int a0)], [], mSS M)
  refine mRunF.sg (mSl mk_145 0 1) (g := (1, [some (.ref 0), some (.int a0)], [.int a0], mSS M)) (by decide +kernel) rfl ?_
  refine R_lt (t := 9) ⟨8, by decide +kernel⟩ (fun q => ?_) (fun q => ?_)
  · rw [if_pos q] at h
    refine mRunF.sg (mSl mk_145 5 1) (g := (10, [some (.ref 0), some (.int a0)], [.int 0], mSS M)) (by decide +kernel) rfl ?_
    cases h
    exact R_zret (by decide +kernel) (Or.inl rfl)
  · rw [if_neg q] at h
    refine mRunF.sg (mSl mk_145 2 2) (g := (6, [some (.ref 0), some (.int a0)], [.int 3, .int a0], mSS M)) (by decide +kernel) rfl ?_
    refine R_ilt (t := 11) ⟨5, by decide +kernel⟩ (fun q => ?_) (fun q => ?_)
    · rw [if_pos q] at h
      refine mRunF.sg (mSl mk_145 7 5) (g := (20, [some (.ref 0), some (.int a0)], [.ref 34, .int a0, .ref 37], mSS M)) (by decide +kernel) rfl ?_
      obtain ⟨M2, q1, h⟩ := bV_of h
      refine R_callV (mi := 55) (na := 3) (ci := 6) (i := 37) (as := [.int a0, .ref 34]) (r := []) (rv := none) (σ1 := mSS M2) ⟨299, by decide +kernel⟩ rfl rfl rfl rfl (Sh_put_s1_r N a0 M (d + 0) q1) ?_
      show mRunF _ _ (23, [some (.ref 0), some (.int a0)], [], mSS M2)
      refine mRunF.sg (mSl mk_145 13 8) (g := (35, [some (.ref 0), some (.int a0)], [], mSS (mWI M2 0 14 ((M2.1 0 14) ||| ((1 : Int32) <<< (a0 &&& 31)))))) (by decide +kernel) rfl ?_
      obtain ⟨M3, hv, h⟩ := nxt_ex h
      rw [← hv]
      clear hv
      refine mRunF.sg (mSl mk_145 21 1) (g := (36, [some (.ref 0), some (.int a0)], [.int 1], mSS M3)) (by decide +kernel) rfl ?_
      cases h
      exact R_zret (by decide +kernel) (Or.inr rfl)
    · rw [if_neg q] at h
      refine mRunF.sg (mSl mk_145 5 1) (g := (10, [some (.ref 0), some (.int a0)], [.int 0], mSS M)) (by decide +kernel) rfl ?_
      cases h
      exact R_zret (by decide +kernel) (Or.inl rfl)
set_option maxRecDepth 100000 in
set_option maxHeartbeats 4000000 in
theorem Sh_take_s1_r (N : Nat) (a0 : Int32) (M : mS) {M' : mS} (d : Nat) (h : Sh_take_s1 N a0 M = some M') : mMet mP mTx (d + 1) 56 [.ref 37, .int a0, .ref 34] (mSS M) none (mSS M') := by
  refine mMet_i ⟨Nat.le_refl _, Nat.le_refl _, Nat.le_of_ble_eq_true rfl⟩ ?_
  unfold Sh_take_s1 at h
  show mRunF (mCd 56) (mEE (mMet mP mTx (d + 0)) (none) none M') (0, [some (.ref 37), some (.int a0), some (.ref 34)], [], mSS M)
  refine mRunF.sg (mSl mk_56 0 1) (g := (1, [some (.ref 37), some (.int a0), some (.ref 34)], [.int a0], mSS M)) (by decide +kernel) rfl ?_
  refine R_lt (t := 34) ⟨33, by decide +kernel⟩ (fun q => ?_) (fun q => ?_)
  · rw [if_pos q] at h
    cases h
    exact R_vret (by decide +kernel)
  · rw [if_neg q] at h
    refine mRunF.sg (mSl mk_56 2 3) (g := (9, [some (.ref 37), some (.int a0), some (.ref 34)], [.int (M.1 37 1), .int a0], mSS M)) (by decide +kernel) rfl ?_
    refine R_ige (t := 34) ⟨25, by decide +kernel⟩ (fun q => ?_) (fun q => ?_)
    · rw [if_pos q] at h
      cases h
      exact R_vret (by decide +kernel)
    · rw [if_neg q] at h
      refine mRunF.sg (mSl mk_56 6 3) (g := (16, [some (.ref 37), some (.int a0), some (.ref 34)], [.int 44, .int (Int32.ofNat 44)], mSS M)) (by decide +kernel) rfl ?_
      refine R_ilt (t := 34) ⟨18, by decide +kernel⟩ (fun q => absurd q (by decide)) (fun _ => ?_)
      refine mRunF.sg (mSl mk_56 10 8) (g := (31, [some (.ref 37), some (.int a0), some (.ref 34)], [.int 44, .int 0, .ref 34, .int (a0 * 44), .ref 38], mSS M)) (by decide +kernel) rfl ?_
      obtain ⟨g1, h⟩ := grd_of h
      refine R_copy ⟨25, by decide +kernel⟩ rfl rfl g1 ?_
      obtain ⟨M2, hv, h⟩ := nxt_ex h
      rw [← hv]
      clear hv
      cases h
      exact R_vret (by decide +kernel)
set_option maxRecDepth 100000 in
set_option maxHeartbeats 4000000 in
theorem Md_restore_r (N : Nat) (a0 : Int32) (M : mS) {r : Int32} {M' : mS} (d : Nat) (h : Md_restore N a0 M = some (r, M')) : mMet mP mTx (d + 2) 146 [.ref 0, .int a0] (mSS M) (some (.int r)) (mSS M') := by
  refine mMet_i ⟨Nat.le_refl _, Nat.le_refl _, Nat.le_of_ble_eq_true rfl⟩ ?_
  unfold Md_restore at h
  show mRunF (mCd 146) (mEE (mMet mP mTx (d + 1)) (some .boolean) (some (.int r)) M') (0, [some (.ref 0), some (.int a0)], [], mSS M)
  refine mRunF.sg (mSl mk_146 0 1) (g := (1, [some (.ref 0), some (.int a0)], [.int a0], mSS M)) (by decide +kernel) rfl ?_
  refine R_lt (t := 20) ⟨19, by decide +kernel⟩ (fun q => ?_) (fun q => ?_)
  · rw [if_pos q] at h
    refine mRunF.sg (mSl mk_146 12 1) (g := (21, [some (.ref 0), some (.int a0)], [.int 0], mSS M)) (by decide +kernel) rfl ?_
    cases h
    exact R_zret (by decide +kernel) (Or.inl rfl)
  · rw [if_neg q] at h
    refine mRunF.sg (mSl mk_146 2 2) (g := (6, [some (.ref 0), some (.int a0)], [.int 3, .int a0], mSS M)) (by decide +kernel) rfl ?_
    refine R_ige (t := 20) ⟨14, by decide +kernel⟩ (fun q => ?_) (fun q => ?_)
    · rw [if_pos q] at h
      refine mRunF.sg (mSl mk_146 12 1) (g := (21, [some (.ref 0), some (.int a0)], [.int 0], mSS M)) (by decide +kernel) rfl ?_
      cases h
      exact R_zret (by decide +kernel) (Or.inl rfl)
    · rw [if_neg q] at h
      refine mRunF.sg (mSl mk_146 5 6) (g := (17, [some (.ref 0), some (.int a0)], [.int (((M.1 0 14) >>> (a0 &&& 31)) &&& 1)], mSS M)) (by decide +kernel) rfl ?_
      refine R_ne (t := 22) ⟨5, by decide +kernel⟩ (fun q => ?_) (fun q => ?_)
      · rw [if_pos q] at h
        refine mRunF.sg (mSl mk_146 12 1) (g := (21, [some (.ref 0), some (.int a0)], [.int 0], mSS M)) (by decide +kernel) rfl ?_
        cases h
        exact R_zret (by decide +kernel) (Or.inl rfl)
      · rw [if_neg q] at h
        refine mRunF.sg (mSl mk_146 14 5) (g := (31, [some (.ref 0), some (.int a0)], [.ref 34, .int a0, .ref 37], mSS M)) (by decide +kernel) rfl ?_
        obtain ⟨M2, q1, h⟩ := bV_of h
        refine R_callV (mi := 56) (na := 3) (ci := 6) (i := 37) (as := [.int a0, .ref 34]) (r := []) (rv := none) (σ1 := mSS M2) ⟨200, by decide +kernel⟩ rfl rfl rfl rfl (Sh_take_s1_r N a0 M (d + 0) q1) ?_
        show mRunF _ _ (34, [some (.ref 0), some (.int a0)], [], mSS M2)
        refine mRunF.sg (mSl mk_146 20 3) (g := (39, [some (.ref 0), some (.int a0)], [], mSS (mWI M2 0 12 0))) (by decide +kernel) rfl ?_
        obtain ⟨M3, hv, h⟩ := nxt_ex h
        rw [← hv]
        clear hv
        refine mRunF.sg (mSl mk_146 23 1) (g := (40, [some (.ref 0), some (.int a0)], [.int 1], mSS M3)) (by decide +kernel) rfl ?_
        cases h
        exact R_zret (by decide +kernel) (Or.inr rfl)
set_option maxRecDepth 100000 in
set_option maxHeartbeats 4000000 in
theorem Md_lonelyGoers_33_r {N d : Nat} {k4 : Int32 → Int32 → Option Int32} {M : mS} {x1 : Int32} {x2 : Int32} {r : Int32} (hk4 : ∀ (x1 : Int32) (x2 : Int32), k4 x1 x2 = some r → mRunF (mCd 155) (mEE (mMet mP mTx (d + 0)) (some .int) (some (.int r)) M) (4, [some (.ref 0), some (.int x1), some (.int x2)], [], mSS M)) (h : Md_lonelyGoers_33 N k4 M x1 x2 = some r) : mRunF (mCd 155) (mEE (mMet mP mTx (d + 0)) (some .int) (some (.int r)) M) (33, [some (.ref 0), some (.int x1), some (.int x2)], [], mSS M) := by
  unfold Md_lonelyGoers_33 at h
  refine mRunF.sg (mSl mk_155 22 2) (g := (4, [some (.ref 0), some (.int x1), some (.int (x2 + 1))], [], mSS M)) (by decide +kernel) rfl ?_
  exact hk4 _ _ h
set_option maxRecDepth 100000 in
set_option maxHeartbeats 4000000 in
theorem Md_lonelyGoers_4_r {N d : Nat}  {M : mS}  {r : Int32} : ∀ {n : Nat} {x1 : Int32} {x2 : Int32}, Md_lonelyGoers_4 N M n x1 x2 = some r → mRunF (mCd 155) (mEE (mMet mP mTx (d + 0)) (some .int) (some (.int r)) M) (4, [some (.ref 0), some (.int x1), some (.int x2)], [], mSS M) := by
  intro n
  induction n with
  | zero => intro x1 x2 h; cases h
  | succ n ih =>
    replace ih := @ih
    intro x1 x2 h
    unfold Md_lonelyGoers_4 at h
    refine mRunF.sg (mSl mk_155 4 4) (g := (12, [some (.ref 0), some (.int x1), some (.int x2)], [.int (M.1 3 8), .int x2], mSS M)) (by decide +kernel) rfl ?_
    refine R_ige (t := 39) ⟨27, by decide +kernel⟩ (fun q => ?_) (fun q => ?_)
    · rw [if_pos q] at h
      refine mRunF.sg (mSl mk_155 24 1) (g := (40, [some (.ref 0), some (.int x1), some (.int x2)], [.int x1], mSS M)) (by decide +kernel) rfl ?_
      cases h
      exact R_iret (by decide +kernel)
    · rw [if_neg q] at h
      refine mRunF.sg (mSl mk_155 9 5) (g := (23, [some (.ref 0), some (.int x1), some (.int x2)], [.int (14 + x2), .ref 34], mSS M)) (by decide +kernel) rfl ?_
      obtain ⟨g1, h⟩ := grd_of h
      refine R_iald (by decide +kernel) rfl g1 ?_
      refine R_ne (t := 33) ⟨9, by decide +kernel⟩ (fun q => ?_) (fun q => ?_)
      · rw [if_pos q] at h
        refine mRunF.sg (mSl mk_155 16 6) (g := (33, [some (.ref 0), some (.int (x1 ||| ((1 : Int32) <<< (x2 &&& 31)))), some (.int x2)], [], mSS M)) (by decide +kernel) rfl ?_
        obtain ⟨v2, hv, h⟩ := nxt_ex h
        rw [← hv]
        clear hv
        exact Md_lonelyGoers_33_r (fun y0 y1 hh => @ih y0 y1 hh) h
      · rw [if_neg q] at h
        exact Md_lonelyGoers_33_r (fun y0 y1 hh => @ih y0 y1 hh) h
set_option maxRecDepth 100000 in
set_option maxHeartbeats 4000000 in
theorem Md_lonelyGoers_r (N : Nat)  (M : mS) {r : Int32} (d : Nat) (h : Md_lonelyGoers N M = some r) : mMet mP mTx (d + 1) 155 [.ref 0] (mSS M) (some (.int r)) (mSS M) := by
  refine mMet_i ⟨Nat.le_refl _, Nat.le_refl _, Nat.le_of_ble_eq_true rfl⟩ ?_
  unfold Md_lonelyGoers at h
  show mRunF (mCd 155) (mEE (mMet mP mTx (d + 0)) (some .int) (some (.int r)) M) (0, [some (.ref 0), none, none], [], mSS M)
  refine mRunF.sg (mSl mk_155 0 4) (g := (4, [some (.ref 0), some (.int 0), some (.int 0)], [], mSS M)) (by decide +kernel) rfl ?_
  exact Md_lonelyGoers_4_r h
set_option maxRecDepth 100000 in
set_option maxHeartbeats 4000000 in
theorem Md_unusedDials_14_r {N d : Nat}  {M : mS}  {r : Int32} : ∀ {n : Nat} {x1 : Int32} {x2 : Int32}, Md_unusedDials_14 N M n x1 x2 = some r → mRunF (mCd 154) (mEE (mMet mP mTx (d + 0)) (some .int) (some (.int r)) M) (14, [some (.ref 0), some (.int x1), some (.int x2)], [], mSS M) := by
  intro n
  induction n with
  | zero => intro x1 x2 h; cases h
  | succ n ih =>
    replace ih := @ih
    intro x1 x2 h
    unfold Md_unusedDials_14 at h
    refine mRunF.sg (mSl mk_154 10 4) (g := (22, [some (.ref 0), some (.int x1), some (.int x2)], [.int (M.1 3 8), .int x2], mSS M)) (by decide +kernel) rfl ?_
    refine R_ige (t := 47) ⟨25, by decide +kernel⟩ (fun q => ?_) (fun q => ?_)
    · rw [if_pos q] at h
      refine mRunF.sg (mSl mk_154 30 1) (g := (48, [some (.ref 0), some (.int x1), some (.int x2)], [.int x1], mSS M)) (by decide +kernel) rfl ?_
      cases h
      exact R_iret (by decide +kernel)
    · rw [if_neg q] at h
      refine mRunF.sg (mSl mk_154 15 7) (g := (35, [some (.ref 0), some (.int x1), some (.int x2)], [.int (9 + x2), .ref 34, .int 1, .int x1], mSS M)) (by decide +kernel) rfl ?_
      obtain ⟨g1, h⟩ := grd_of h
      refine R_iald (by decide +kernel) rfl g1 ?_
      refine mRunF.sg (mSl mk_154 23 5) (g := (41, [some (.ref 0), some (.int (x1 &&& (((1 : Int32) <<< ((M.1 34 (9 + x2).toNatClampNeg) &&& 31)) ^^^ (-1)))), some (.int x2)], [], mSS M)) (by decide +kernel) rfl ?_
      obtain ⟨v2, hv, h⟩ := nxt_ex h
      rw [← hv]
      clear hv
      refine mRunF.sg (mSl mk_154 28 2) (g := (14, [some (.ref 0), some (.int v2), some (.int (x2 + 1))], [], mSS M)) (by decide +kernel) rfl ?_
      exact @ih _ _ h
set_option maxRecDepth 100000 in
set_option maxHeartbeats 4000000 in
theorem Md_unusedDials_r (N : Nat)  (M : mS) {r : Int32} (d : Nat) (h : Md_unusedDials N M = some r) : mMet mP mTx (d + 1) 154 [.ref 0] (mSS M) (some (.int r)) (mSS M) := by
  refine mMet_i ⟨Nat.le_refl _, Nat.le_refl _, Nat.le_of_ble_eq_true rfl⟩ ?_
  unfold Md_unusedDials at h
  show mRunF (mCd 154) (mEE (mMet mP mTx (d + 0)) (some .int) (some (.int r)) M) (0, [some (.ref 0), none, none], [], mSS M)
  refine mRunF.sg (mSl mk_154 0 8) (g := (12, [some (.ref 0), some (.int (((1 : Int32) <<< ((M.1 3 7) &&& 31)) - 1)), none], [], mSS M)) (by decide +kernel) rfl ?_
  obtain ⟨v3, hv, h⟩ := nxt_ex h
  rw [← hv]
  clear hv
  refine mRunF.sg (mSl mk_154 8 2) (g := (14, [some (.ref 0), some (.int v3), some (.int 0)], [], mSS M)) (by decide +kernel) rfl ?_
  exact Md_unusedDials_14_r h
set_option maxRecDepth 100000 in
set_option maxHeartbeats 4000000 in
theorem Md_pairsMet_46_r {N d : Nat} {k4 : Int32 → Int32 → Option Int32} {k19 : Int32 → Int32 → Int32 → Option Int32} {M : mS} {x1 : Int32} {x2 : Int32} {x3 : Int32} {r : Int32} (hk4 : ∀ (x1 : Int32) (x2 : Int32), k4 x1 x2 = some r → mRunF (mCd 150) (mEE (mMet mP mTx (d + 1)) (some .int) (some (.int r)) M) (4, [some (.ref 0), some (.int x1), some (.int x2), none], [], mSS M)) (hk19 : ∀ (x1 : Int32) (x2 : Int32) (x3 : Int32), k19 x1 x2 x3 = some r → mRunF (mCd 150) (mEE (mMet mP mTx (d + 1)) (some .int) (some (.int r)) M) (19, [some (.ref 0), some (.int x1), some (.int x2), some (.int x3)], [], mSS M)) (h : Md_pairsMet_46 N k4 k19 M x1 x2 x3 = some r) : mRunF (mCd 150) (mEE (mMet mP mTx (d + 1)) (some .int) (some (.int r)) M) (46, [some (.ref 0), some (.int x1), some (.int x2), some (.int x3)], [], mSS M) := by
  unfold Md_pairsMet_46 at h
  refine mRunF.sg (mSl mk_150 26 2) (g := (19, [some (.ref 0), some (.int x1), some (.int x2), some (.int (x3 + 1))], [], mSS M)) (by decide +kernel) rfl ?_
  exact hk19 _ _ _ h
set_option maxRecDepth 100000 in
set_option maxHeartbeats 4000000 in
theorem Md_pairsMet_19_r {N d : Nat} {k4 : Int32 → Int32 → Option Int32} {M : mS}  {r : Int32} (hk4 : ∀ (x1 : Int32) (x2 : Int32), k4 x1 x2 = some r → mRunF (mCd 150) (mEE (mMet mP mTx (d + 1)) (some .int) (some (.int r)) M) (4, [some (.ref 0), some (.int x1), some (.int x2), none], [], mSS M)) : ∀ {n : Nat} {x1 : Int32} {x2 : Int32} {x3 : Int32}, Md_pairsMet_19 N k4 M n x1 x2 x3 = some r → mRunF (mCd 150) (mEE (mMet mP mTx (d + 1)) (some .int) (some (.int r)) M) (19, [some (.ref 0), some (.int x1), some (.int x2), some (.int x3)], [], mSS M) := by
  intro n
  induction n with
  | zero => intro x1 x2 x3 h; cases h
  | succ n ih =>
    replace ih := @ih
    intro x1 x2 x3 h
    unfold Md_pairsMet_19 at h
    refine mRunF.sg (mSl mk_150 13 4) (g := (27, [some (.ref 0), some (.int x1), some (.int x2), some (.int x3)], [.int (M.1 3 8), .int x3], mSS M)) (by decide +kernel) rfl ?_
    refine R_ige (t := 52) ⟨25, by decide +kernel⟩ (fun q => ?_) (fun q => ?_)
    · rw [if_pos q] at h
      refine mRunF.sg (mSl mk_150 28 2) (g := (4, [some (.ref 0), some (.int x1), some (.int (x2 + 1)), some (.int x3)], [], mSS M)) (by decide +kernel) rfl ?_
      refine mRunF.forget [true, true, true, false] ?_
      exact hk4 _ _ h
    · rw [if_neg q] at h
      refine mRunF.sg (mSl mk_150 18 4) (g := (36, [some (.ref 0), some (.int x1), some (.int x2), some (.int x3)], [.int x3, .int x2, .ref 34], mSS M)) (by decide +kernel) rfl ?_
      refine R_callS (mi := 168) (na := 2) (as := [.int x2, .int x3]) (r := [.ref 34]) (rv := some (.int (Md_pair x2 x3 M))) (σ1 := mSS M) ⟨167, by decide +kernel⟩ rfl rfl rfl (Md_pair_r x2 x3 M (d + 0)) ?_
      show mRunF _ _ (39, [some (.ref 0), some (.int x1), some (.int x2), some (.int x3)], [.int (Md_pair x2 x3 M), .ref 34], mSS M)
      obtain ⟨g1, h⟩ := grd_of h
      refine R_iald (by decide +kernel) rfl g1 ?_
      refine R_le (t := 46) ⟨6, by decide +kernel⟩ (fun q => ?_) (fun q => ?_)
      · rw [if_pos q] at h
        exact Md_pairsMet_46_r hk4 (fun y0 y1 y2 hh => @ih y0 y1 y2 hh) h
      · rw [if_neg q] at h
        refine mRunF.sg (mSl mk_150 25 1) (g := (46, [some (.ref 0), some (.int (x1 + 1)), some (.int x2), some (.int x3)], [], mSS M)) (by decide +kernel) rfl ?_
        exact Md_pairsMet_46_r hk4 (fun y0 y1 y2 hh => @ih y0 y1 y2 hh) h
set_option maxRecDepth 100000 in
set_option maxHeartbeats 4000000 in
theorem Md_pairsMet_4_r {N d : Nat}  {M : mS}  {r : Int32} : ∀ {n : Nat} {x1 : Int32} {x2 : Int32}, Md_pairsMet_4 N M n x1 x2 = some r → mRunF (mCd 150) (mEE (mMet mP mTx (d + 1)) (some .int) (some (.int r)) M) (4, [some (.ref 0), some (.int x1), some (.int x2), none], [], mSS M) := by
  intro n
  induction n with
  | zero => intro x1 x2 h; cases h
  | succ n ih =>
    replace ih := @ih
    intro x1 x2 h
    unfold Md_pairsMet_4 at h
    refine mRunF.sg (mSl mk_150 4 4) (g := (12, [some (.ref 0), some (.int x1), some (.int x2), none], [.int (M.1 3 8), .int x2], mSS M)) (by decide +kernel) rfl ?_
    refine R_ige (t := 58) ⟨46, by decide +kernel⟩ (fun q => ?_) (fun q => ?_)
    · rw [if_pos q] at h
      refine mRunF.sg (mSl mk_150 30 1) (g := (59, [some (.ref 0), some (.int x1), some (.int x2), none], [.int x1], mSS M)) (by decide +kernel) rfl ?_
      cases h
      exact R_iret (by decide +kernel)
    · rw [if_neg q] at h
      refine mRunF.sg (mSl mk_150 9 4) (g := (19, [some (.ref 0), some (.int x1), some (.int x2), some (.int (x2 + 1))], [], mSS M)) (by decide +kernel) rfl ?_
      obtain ⟨v2, hv, h⟩ := nxt_ex h
      rw [← hv]
      clear hv
      exact Md_pairsMet_19_r (fun y0 y1 hh => @ih y0 y1 hh) h
set_option maxRecDepth 100000 in
set_option maxHeartbeats 4000000 in
theorem Md_pairsMet_r (N : Nat)  (M : mS) {r : Int32} (d : Nat) (h : Md_pairsMet N M = some r) : mMet mP mTx (d + 2) 150 [.ref 0] (mSS M) (some (.int r)) (mSS M) := by
  refine mMet_i ⟨Nat.le_refl _, Nat.le_refl _, Nat.le_of_ble_eq_true rfl⟩ ?_
  unfold Md_pairsMet at h
  show mRunF (mCd 150) (mEE (mMet mP mTx (d + 1)) (some .int) (some (.int r)) M) (0, [some (.ref 0), none, none, none], [], mSS M)
  refine mRunF.sg (mSl mk_150 0 4) (g := (4, [some (.ref 0), some (.int 0), some (.int 0), none], [], mSS M)) (by decide +kernel) rfl ?_
  exact Md_pairsMet_4_r h
set_option maxRecDepth 100000 in
set_option maxHeartbeats 4000000 in
theorem Md_rightDials_32_r {N d : Nat} {k4 : Int32 → Int32 → Option Int32} {M : mS} {x1 : Int32} {x2 : Int32} {r : Int32} (hk4 : ∀ (x1 : Int32) (x2 : Int32), k4 x1 x2 = some r → mRunF (mCd 153) (mEE (mMet mP mTx (d + 0)) (some .int) (some (.int r)) M) (4, [some (.ref 0), some (.int x1), some (.int x2)], [], mSS M)) (h : Md_rightDials_32 N k4 M x1 x2 = some r) : mRunF (mCd 153) (mEE (mMet mP mTx (d + 0)) (some .int) (some (.int r)) M) (32, [some (.ref 0), some (.int x1), some (.int x2)], [], mSS M) := by
  unfold Md_rightDials_32 at h
  refine mRunF.sg (mSl mk_153 22 2) (g := (4, [some (.ref 0), some (.int x1), some (.int (x2 + 1))], [], mSS M)) (by decide +kernel) rfl ?_
  exact hk4 _ _ h
set_option maxRecDepth 100000 in
set_option maxHeartbeats 4000000 in
theorem Md_rightDials_4_r {N d : Nat}  {M : mS}  {r : Int32} : ∀ {n : Nat} {x1 : Int32} {x2 : Int32}, Md_rightDials_4 N M n x1 x2 = some r → mRunF (mCd 153) (mEE (mMet mP mTx (d + 0)) (some .int) (some (.int r)) M) (4, [some (.ref 0), some (.int x1), some (.int x2)], [], mSS M) := by
  intro n
  induction n with
  | zero => intro x1 x2 h; cases h
  | succ n ih =>
    replace ih := @ih
    intro x1 x2 h
    unfold Md_rightDials_4 at h
    refine mRunF.sg (mSl mk_153 4 4) (g := (12, [some (.ref 0), some (.int x1), some (.int x2)], [.int (M.1 3 7), .int x2], mSS M)) (by decide +kernel) rfl ?_
    refine R_ige (t := 38) ⟨26, by decide +kernel⟩ (fun q => ?_) (fun q => ?_)
    · rw [if_pos q] at h
      refine mRunF.sg (mSl mk_153 24 1) (g := (39, [some (.ref 0), some (.int x1), some (.int x2)], [.int x1], mSS M)) (by decide +kernel) rfl ?_
      cases h
      exact R_iret (by decide +kernel)
    · rw [if_neg q] at h
      refine mRunF.sg (mSl mk_153 9 5) (g := (22, [some (.ref 0), some (.int x1), some (.int x2)], [.int (1 + x2), .ref 34], mSS M)) (by decide +kernel) rfl ?_
      obtain ⟨g1, h⟩ := grd_of h
      refine R_iald (by decide +kernel) rfl g1 ?_
      refine R_ne (t := 32) ⟨9, by decide +kernel⟩ (fun q => ?_) (fun q => ?_)
      · rw [if_pos q] at h
        refine mRunF.sg (mSl mk_153 16 6) (g := (32, [some (.ref 0), some (.int (x1 ||| ((1 : Int32) <<< (x2 &&& 31)))), some (.int x2)], [], mSS M)) (by decide +kernel) rfl ?_
        obtain ⟨v2, hv, h⟩ := nxt_ex h
        rw [← hv]
        clear hv
        exact Md_rightDials_32_r (fun y0 y1 hh => @ih y0 y1 hh) h
      · rw [if_neg q] at h
        exact Md_rightDials_32_r (fun y0 y1 hh => @ih y0 y1 hh) h
set_option maxRecDepth 100000 in
set_option maxHeartbeats 4000000 in
theorem Md_rightDials_r (N : Nat)  (M : mS) {r : Int32} (d : Nat) (h : Md_rightDials N M = some r) : mMet mP mTx (d + 1) 153 [.ref 0] (mSS M) (some (.int r)) (mSS M) := by
  refine mMet_i ⟨Nat.le_refl _, Nat.le_refl _, Nat.le_of_ble_eq_true rfl⟩ ?_
  unfold Md_rightDials at h
  show mRunF (mCd 153) (mEE (mMet mP mTx (d + 0)) (some .int) (some (.int r)) M) (0, [some (.ref 0), none, none], [], mSS M)
  refine mRunF.sg (mSl mk_153 0 4) (g := (4, [some (.ref 0), some (.int 0), some (.int 0)], [], mSS M)) (by decide +kernel) rfl ?_
  exact Md_rightDials_4_r h
set_option maxRecDepth 100000 in
set_option maxHeartbeats 4000000 in
theorem Md_pairHours_19_r {N d : Nat} {k4 : Int32 → Int32 → Option Int32} {M : mS}  {r : Int32} (hk4 : ∀ (x1 : Int32) (x2 : Int32), k4 x1 x2 = some r → mRunF (mCd 149) (mEE (mMet mP mTx (d + 1)) (some .int) (some (.int r)) M) (4, [some (.ref 0), some (.int x1), some (.int x2), none], [], mSS M)) : ∀ {n : Nat} {x1 : Int32} {x2 : Int32} {x3 : Int32}, Md_pairHours_19 N k4 M n x1 x2 x3 = some r → mRunF (mCd 149) (mEE (mMet mP mTx (d + 1)) (some .int) (some (.int r)) M) (19, [some (.ref 0), some (.int x1), some (.int x2), some (.int x3)], [], mSS M) := by
  intro n
  induction n with
  | zero => intro x1 x2 x3 h; cases h
  | succ n ih =>
    replace ih := @ih
    intro x1 x2 x3 h
    unfold Md_pairHours_19 at h
    refine mRunF.sg (mSl mk_149 13 4) (g := (27, [some (.ref 0), some (.int x1), some (.int x2), some (.int x3)], [.int (M.1 3 8), .int x3], mSS M)) (by decide +kernel) rfl ?_
    refine R_ige (t := 49) ⟨22, by decide +kernel⟩ (fun q => ?_) (fun q => ?_)
    · rw [if_pos q] at h
      refine mRunF.sg (mSl mk_149 29 2) (g := (4, [some (.ref 0), some (.int x1), some (.int (x2 + 1)), some (.int x3)], [], mSS M)) (by decide +kernel) rfl ?_
      refine mRunF.forget [true, true, true, false] ?_
      exact hk4 _ _ h
    · rw [if_neg q] at h
      refine mRunF.sg (mSl mk_149 18 5) (g := (37, [some (.ref 0), some (.int x1), some (.int x2), some (.int x3)], [.int x3, .int x2, .ref 34, .int x1], mSS M)) (by decide +kernel) rfl ?_
      refine R_callS (mi := 168) (na := 2) (as := [.int x2, .int x3]) (r := [.ref 34, .int x1]) (rv := some (.int (Md_pair x2 x3 M))) (σ1 := mSS M) ⟨167, by decide +kernel⟩ rfl rfl rfl (Md_pair_r x2 x3 M (d + 0)) ?_
      show mRunF _ _ (40, [some (.ref 0), some (.int x1), some (.int x2), some (.int x3)], [.int (Md_pair x2 x3 M), .ref 34, .int x1], mSS M)
      obtain ⟨g1, h⟩ := grd_of h
      refine R_iald (by decide +kernel) rfl g1 ?_
      refine mRunF.sg (mSl mk_149 25 2) (g := (43, [some (.ref 0), some (.int (x1 + (M.1 34 (Md_pair x2 x3 M).toNatClampNeg))), some (.int x2), some (.int x3)], [], mSS M)) (by decide +kernel) rfl ?_
      obtain ⟨v2, hv, h⟩ := nxt_ex h
      rw [← hv]
      clear hv
      refine mRunF.sg (mSl mk_149 27 2) (g := (19, [some (.ref 0), some (.int v2), some (.int x2), some (.int (x3 + 1))], [], mSS M)) (by decide +kernel) rfl ?_
      exact @ih _ _ _ h
set_option maxRecDepth 100000 in
set_option maxHeartbeats 4000000 in
theorem Md_pairHours_4_r {N d : Nat}  {M : mS}  {r : Int32} : ∀ {n : Nat} {x1 : Int32} {x2 : Int32}, Md_pairHours_4 N M n x1 x2 = some r → mRunF (mCd 149) (mEE (mMet mP mTx (d + 1)) (some .int) (some (.int r)) M) (4, [some (.ref 0), some (.int x1), some (.int x2), none], [], mSS M) := by
  intro n
  induction n with
  | zero => intro x1 x2 h; cases h
  | succ n ih =>
    replace ih := @ih
    intro x1 x2 h
    unfold Md_pairHours_4 at h
    refine mRunF.sg (mSl mk_149 4 4) (g := (12, [some (.ref 0), some (.int x1), some (.int x2), none], [.int (M.1 3 8), .int x2], mSS M)) (by decide +kernel) rfl ?_
    refine R_ige (t := 55) ⟨43, by decide +kernel⟩ (fun q => ?_) (fun q => ?_)
    · rw [if_pos q] at h
      refine mRunF.sg (mSl mk_149 31 1) (g := (56, [some (.ref 0), some (.int x1), some (.int x2), none], [.int x1], mSS M)) (by decide +kernel) rfl ?_
      cases h
      exact R_iret (by decide +kernel)
    · rw [if_neg q] at h
      refine mRunF.sg (mSl mk_149 9 4) (g := (19, [some (.ref 0), some (.int x1), some (.int x2), some (.int (x2 + 1))], [], mSS M)) (by decide +kernel) rfl ?_
      obtain ⟨v3, hv, h⟩ := nxt_ex h
      rw [← hv]
      clear hv
      exact Md_pairHours_19_r (fun y0 y1 hh => @ih y0 y1 hh) h
set_option maxRecDepth 100000 in
set_option maxHeartbeats 4000000 in
theorem Md_pairHours_r (N : Nat)  (M : mS) {r : Int32} (d : Nat) (h : Md_pairHours N M = some r) : mMet mP mTx (d + 2) 149 [.ref 0] (mSS M) (some (.int r)) (mSS M) := by
  refine mMet_i ⟨Nat.le_refl _, Nat.le_refl _, Nat.le_of_ble_eq_true rfl⟩ ?_
  unfold Md_pairHours at h
  show mRunF (mCd 149) (mEE (mMet mP mTx (d + 1)) (some .int) (some (.int r)) M) (0, [some (.ref 0), none, none, none], [], mSS M)
  refine mRunF.sg (mSl mk_149 0 4) (g := (4, [some (.ref 0), some (.int 0), some (.int 0), none], [], mSS M)) (by decide +kernel) rfl ?_
  exact Md_pairHours_4_r h
set_option maxRecDepth 100000 in
set_option maxHeartbeats 4000000 in
theorem Md_darkDials_39_r {N d : Nat} {k4 : Int32 → Int32 → mS → Option (Int32 × mS)} {M : mS} {x1 : Int32} {x2 : Int32} {r : Int32} {M' : mS} (hk4 : ∀ (x1 : Int32) (x2 : Int32) (M : mS), k4 x1 x2 M = some (r, M') → mRunF (mCd 152) (mEE (mMet mP mTx (d + 3)) (some .int) (some (.int r)) M') (4, [some (.ref 0), some (.int x1), some (.int x2)], [], mSS M)) (h : Md_darkDials_39 N k4 x1 x2 M = some (r, M')) : mRunF (mCd 152) (mEE (mMet mP mTx (d + 3)) (some .int) (some (.int r)) M') (39, [some (.ref 0), some (.int x1), some (.int x2)], [], mSS M) := by
  unfold Md_darkDials_39 at h
  refine mRunF.sg (mSl mk_152 23 2) (g := (4, [some (.ref 0), some (.int x1), some (.int (x2 + 1))], [], mSS M)) (by decide +kernel) rfl ?_
  exact hk4 _ _ _ h
set_option maxRecDepth 100000 in
set_option maxHeartbeats 4000000 in
theorem Md_darkDials_4_r {N d : Nat}   {r : Int32} {M' : mS} : ∀ {n : Nat} {x1 : Int32} {x2 : Int32} {M : mS}, Md_darkDials_4 N n x1 x2 M = some (r, M') → mRunF (mCd 152) (mEE (mMet mP mTx (d + 3)) (some .int) (some (.int r)) M') (4, [some (.ref 0), some (.int x1), some (.int x2)], [], mSS M) := by
  intro n
  induction n with
  | zero => intro x1 x2 M h; cases h
  | succ n ih =>
    replace ih := @ih
    intro x1 x2 M h
    unfold Md_darkDials_4 at h
    refine mRunF.sg (mSl mk_152 4 4) (g := (12, [some (.ref 0), some (.int x1), some (.int x2)], [.int (M.1 3 7), .int x2], mSS M)) (by decide +kernel) rfl ?_
    refine R_ige (t := 45) ⟨33, by decide +kernel⟩ (fun q => ?_) (fun q => ?_)
    · rw [if_pos q] at h
      refine mRunF.sg (mSl mk_152 25 1) (g := (46, [some (.ref 0), some (.int x1), some (.int x2)], [.int x1], mSS M)) (by decide +kernel) rfl ?_
      cases h
      exact R_iret (by decide +kernel)
    · rw [if_neg q] at h
      refine mRunF.sg (mSl mk_152 9 6) (g := (27, [some (.ref 0), some (.int x1), some (.int x2)], [.int (M.1 3 9), .int x2, .ref 39], mSS M)) (by decide +kernel) rfl ?_
      obtain ⟨r3, M2, q1, h⟩ := bW_of h
      refine R_callV (mi := 101) (na := 3) (ci := 10) (i := 39) (as := [.int x2, .int (M.1 3 9)]) (r := []) (rv := some (.int r3)) (σ1 := mSS M2) ⟨138, by decide +kernel⟩ rfl rfl rfl rfl (Wk_isDark_r N x2 (M.1 3 9) M (d + 0) q1) ?_
      have b4 := mBool rfl (Wk_isDark_r N x2 (M.1 3 9) M (d + 0) q1)
      show mRunF _ _ (30, [some (.ref 0), some (.int x1), some (.int x2)], [.int r3], mSS M2)
      refine R_eq (t := 39) ⟨9, by decide +kernel⟩ (fun q => ?_) (fun q => ?_)
      · rw [if_pos q] at h
        exact Md_darkDials_39_r (fun y0 y1 y2 hh => @ih y0 y1 y2 hh) h
      · rw [if_neg q] at h
        refine mRunF.sg (mSl mk_152 17 6) (g := (39, [some (.ref 0), some (.int (x1 ||| ((1 : Int32) <<< (x2 &&& 31)))), some (.int x2)], [], mSS M2)) (by decide +kernel) rfl ?_
        obtain ⟨v5, hv, h⟩ := nxt_ex h
        rw [← hv]
        clear hv
        exact Md_darkDials_39_r (fun y0 y1 y2 hh => @ih y0 y1 y2 hh) h
set_option maxRecDepth 100000 in
set_option maxHeartbeats 4000000 in
theorem Md_darkDials_r (N : Nat)  (M : mS) {r : Int32} {M' : mS} (d : Nat) (h : Md_darkDials N M = some (r, M')) : mMet mP mTx (d + 4) 152 [.ref 0] (mSS M) (some (.int r)) (mSS M') := by
  refine mMet_i ⟨Nat.le_refl _, Nat.le_refl _, Nat.le_of_ble_eq_true rfl⟩ ?_
  unfold Md_darkDials at h
  show mRunF (mCd 152) (mEE (mMet mP mTx (d + 3)) (some .int) (some (.int r)) M') (0, [some (.ref 0), none, none], [], mSS M)
  refine mRunF.sg (mSl mk_152 0 4) (g := (4, [some (.ref 0), some (.int 0), some (.int 0)], [], mSS M)) (by decide +kernel) rfl ?_
  exact Md_darkDials_4_r h
set_option maxRecDepth 100000 in
set_option maxHeartbeats 4000000 in
theorem Md_whoComes_33_r {N d : Nat} {k4 : Int32 → Int32 → mS → Option (Int32 × mS)} {M : mS} {x1 : Int32} {x2 : Int32} {r : Int32} {M' : mS} (hk4 : ∀ (x1 : Int32) (x2 : Int32) (M : mS), k4 x1 x2 M = some (r, M') → mRunF (mCd 151) (mEE (mMet mP mTx (d + 3)) (some .int) (some (.int r)) M') (4, [some (.ref 0), some (.int x1), some (.int x2)], [], mSS M)) (h : Md_whoComes_33 N k4 x1 x2 M = some (r, M')) : mRunF (mCd 151) (mEE (mMet mP mTx (d + 3)) (some .int) (some (.int r)) M') (33, [some (.ref 0), some (.int x1), some (.int x2)], [], mSS M) := by
  unfold Md_whoComes_33 at h
  refine mRunF.sg (mSl mk_151 21 2) (g := (4, [some (.ref 0), some (.int x1), some (.int (x2 + 1))], [], mSS M)) (by decide +kernel) rfl ?_
  exact hk4 _ _ _ h
set_option maxRecDepth 100000 in
set_option maxHeartbeats 4000000 in
theorem Md_whoComes_4_r {N d : Nat}   {r : Int32} {M' : mS} : ∀ {n : Nat} {x1 : Int32} {x2 : Int32} {M : mS}, Md_whoComes_4 N n x1 x2 M = some (r, M') → mRunF (mCd 151) (mEE (mMet mP mTx (d + 3)) (some .int) (some (.int r)) M') (4, [some (.ref 0), some (.int x1), some (.int x2)], [], mSS M) := by
  intro n
  induction n with
  | zero => intro x1 x2 M h; cases h
  | succ n ih =>
    replace ih := @ih
    intro x1 x2 M h
    unfold Md_whoComes_4 at h
    refine mRunF.sg (mSl mk_151 4 4) (g := (12, [some (.ref 0), some (.int x1), some (.int x2)], [.int (M.1 3 8), .int x2], mSS M)) (by decide +kernel) rfl ?_
    refine R_ige (t := 39) ⟨27, by decide +kernel⟩ (fun q => ?_) (fun q => ?_)
    · rw [if_pos q] at h
      refine mRunF.sg (mSl mk_151 23 1) (g := (40, [some (.ref 0), some (.int x1), some (.int x2)], [.int x1], mSS M)) (by decide +kernel) rfl ?_
      cases h
      exact R_iret (by decide +kernel)
    · rw [if_neg q] at h
      refine mRunF.sg (mSl mk_151 9 4) (g := (21, [some (.ref 0), some (.int x1), some (.int x2)], [.int x2, .int 0, .ref 39], mSS M)) (by decide +kernel) rfl ?_
      obtain ⟨r3, M2, q1, h⟩ := bW_of h
      refine R_callV (mi := 97) (na := 3) (ci := 10) (i := 39) (as := [.int 0, .int x2]) (r := []) (rv := some (.int r3)) (σ1 := mSS M2) ⟨161, by decide +kernel⟩ rfl rfl rfl rfl (Wk_lawOfGoer_r N 0 x2 M (d + 0) q1) ?_
      show mRunF _ _ (24, [some (.ref 0), some (.int x1), some (.int x2)], [.int r3], mSS M2)
      refine R_le (t := 33) ⟨9, by decide +kernel⟩ (fun q => ?_) (fun q => ?_)
      · rw [if_pos q] at h
        exact Md_whoComes_33_r (fun y0 y1 y2 hh => @ih y0 y1 y2 hh) h
      · rw [if_neg q] at h
        refine mRunF.sg (mSl mk_151 15 6) (g := (33, [some (.ref 0), some (.int (x1 ||| ((1 : Int32) <<< (x2 &&& 31)))), some (.int x2)], [], mSS M2)) (by decide +kernel) rfl ?_
        obtain ⟨v4, hv, h⟩ := nxt_ex h
        rw [← hv]
        clear hv
        exact Md_whoComes_33_r (fun y0 y1 y2 hh => @ih y0 y1 y2 hh) h
set_option maxRecDepth 100000 in
set_option maxHeartbeats 4000000 in
theorem Md_whoComes_r (N : Nat)  (M : mS) {r : Int32} {M' : mS} (d : Nat) (h : Md_whoComes N M = some (r, M')) : mMet mP mTx (d + 4) 151 [.ref 0] (mSS M) (some (.int r)) (mSS M') := by
  refine mMet_i ⟨Nat.le_refl _, Nat.le_refl _, Nat.le_of_ble_eq_true rfl⟩ ?_
  unfold Md_whoComes at h
  show mRunF (mCd 151) (mEE (mMet mP mTx (d + 3)) (some .int) (some (.int r)) M') (0, [some (.ref 0), none, none], [], mSS M)
  refine mRunF.sg (mSl mk_151 0 4) (g := (4, [some (.ref 0), some (.int 0), some (.int 0)], [], mSS M)) (by decide +kernel) rfl ?_
  exact Md_whoComes_4_r h
set_option maxRecDepth 100000 in
set_option maxHeartbeats 4000000 in
theorem Md_countOfNight_r (N : Nat) (a0 : Int32) (M : mS) {r : Int32} {M' : mS} (d : Nat) (h : Md_countOfNight N a0 M = some (r, M')) : mMet mP mTx (d + 6) 148 [.ref 0, .int a0] (mSS M) (some (.int r)) (mSS M') := by
  refine mMet_i ⟨Nat.le_refl _, Nat.le_refl _, Nat.le_of_ble_eq_true rfl⟩ ?_
  unfold Md_countOfNight at h
  show mRunF (mCd 148) (mEE (mMet mP mTx (d + 5)) (some .int) (some (.int r)) M') (0, [some (.ref 0), some (.int a0)], [], mSS M)
  refine mRunF.sg (mSl mk_148 0 1) (g := (1, [some (.ref 0), some (.int a0)], [.ref 0], mSS M)) (by decide +kernel) rfl ?_
  obtain ⟨M2, q1, h⟩ := bV_of h
  refine R_callV (mi := 156) (na := 1) (ci := 11) (i := 0) (as := []) (r := []) (rv := none) (σ1 := mSS M2) ⟨170, by decide +kernel⟩ rfl rfl rfl rfl (Md_seeThisNight_r N M (d + 0) q1) ?_
  show mRunF _ _ (4, [some (.ref 0), some (.int a0)], [], mSS M2)
  refine mRunF.sg (mSl mk_148 2 1) (g := (5, [some (.ref 0), some (.int a0)], [.int a0], mSS M2)) (by decide +kernel) rfl ?_
  by_cases e0 : a0 = 5
  · rw [if_pos e0] at h
    refine R_swc (lo := 5) (hi := 13) (td := 95) (ts := [56, 61, 82, 95, 95, 95, 95, 95, 87]) ⟨90, #[51, 56, 77, 90, 90, 90, 90, 90, 82], by decide +kernel⟩ 0 (by rw [e0]; decide) (by decide) rfl ?_
    refine mRunF.sg (mSl mk_148 4 1) (g := (57, [some (.ref 0), some (.int a0)], [.ref 0], mSS M2)) (by decide +kernel) rfl ?_
    obtain ⟨r5, M4, q3, h⟩ := bW_of h
    refine R_callV (mi := 151) (na := 1) (ci := 11) (i := 0) (as := []) (r := []) (rv := some (.int r5)) (σ1 := mSS M4) ⟨323, by decide +kernel⟩ rfl rfl rfl rfl (Md_whoComes_r N M2 (d + 1) q3) ?_
    show mRunF _ _ (60, [some (.ref 0), some (.int a0)], [.int r5], mSS M4)
    cases h
    exact R_iret (by decide +kernel)
  rw [if_neg e0] at h
  by_cases e1 : a0 = 6
  · rw [if_pos e1] at h
    refine R_swc (lo := 5) (hi := 13) (td := 95) (ts := [56, 61, 82, 95, 95, 95, 95, 95, 87]) ⟨90, #[51, 56, 77, 90, 90, 90, 90, 90, 82], by decide +kernel⟩ 1 (by rw [e1]; decide) (by decide) rfl ?_
    refine mRunF.sg (mSl mk_148 7 3) (g := (68, [some (.ref 0), some (.int a0)], [.int (M2.1 3 6)], mSS M2)) (by decide +kernel) rfl ?_
    refine R_callS (mi := 169) (na := 1) (as := [.int (M2.1 3 6)]) (r := []) (rv := some (.int (Md_allHours (M2.1 3 6) M2))) (σ1 := mSS M2) ⟨326, by decide +kernel⟩ rfl rfl rfl (Md_allHours_r (M2.1 3 6) M2 (d + 4)) ?_
    show mRunF _ _ (71, [some (.ref 0), some (.int a0)], [.int (Md_allHours (M2.1 3 6) M2)], mSS M2)
    refine mRunF.sg (mSl mk_148 11 6) (g := (81, [some (.ref 0), some (.int a0)], [.int ((Md_allHours (M2.1 3 6) M2) &&& ((M2.1 39 2) ^^^ (-1)))], mSS M2)) (by decide +kernel) rfl ?_
    cases h
    exact R_iret (by decide +kernel)
  rw [if_neg e1] at h
  by_cases e2 : a0 = 7
  · rw [if_pos e2] at h
    refine R_swc (lo := 5) (hi := 13) (td := 95) (ts := [56, 61, 82, 95, 95, 95, 95, 95, 87]) ⟨90, #[51, 56, 77, 90, 90, 90, 90, 90, 82], by decide +kernel⟩ 2 (by rw [e2]; decide) (by decide) rfl ?_
    refine mRunF.sg (mSl mk_148 18 1) (g := (83, [some (.ref 0), some (.int a0)], [.ref 0], mSS M2)) (by decide +kernel) rfl ?_
    obtain ⟨r8, M7, q6, h⟩ := bW_of h
    refine R_callV (mi := 152) (na := 1) (ci := 11) (i := 0) (as := []) (r := []) (rv := some (.int r8)) (σ1 := mSS M7) ⟨332, by decide +kernel⟩ rfl rfl rfl rfl (Md_darkDials_r N M2 (d + 1) q6) ?_
    show mRunF _ _ (86, [some (.ref 0), some (.int a0)], [.int r8], mSS M7)
    cases h
    exact R_iret (by decide +kernel)
  rw [if_neg e2] at h
  by_cases e8 : a0 = 13
  · rw [if_pos e8] at h
    refine R_swc (lo := 5) (hi := 13) (td := 95) (ts := [56, 61, 82, 95, 95, 95, 95, 95, 87]) ⟨90, #[51, 56, 77, 90, 90, 90, 90, 90, 82], by decide +kernel⟩ 8 (by rw [e8]; decide) (by decide) rfl ?_
    refine mRunF.sg (mSl mk_148 21 3) (g := (94, [some (.ref 0), some (.int a0)], [.int (M2.1 39 3)], mSS M2)) (by decide +kernel) rfl ?_
    cases h
    exact R_iret (by decide +kernel)
  rw [if_neg e8] at h
  by_cases e3 : a0 = 8
  · refine R_swc (lo := 5) (hi := 13) (td := 95) (ts := [56, 61, 82, 95, 95, 95, 95, 95, 87]) ⟨90, #[51, 56, 77, 90, 90, 90, 90, 90, 82], by decide +kernel⟩ 3 (by rw [e3]; decide) (by decide) rfl ?_
    refine mRunF.sg (mSl mk_148 25 1) (g := (96, [some (.ref 0), some (.int a0)], [.int (-1)], mSS M2)) (by decide +kernel) rfl ?_
    cases h
    exact R_iret (by decide +kernel)
  by_cases e4 : a0 = 9
  · refine R_swc (lo := 5) (hi := 13) (td := 95) (ts := [56, 61, 82, 95, 95, 95, 95, 95, 87]) ⟨90, #[51, 56, 77, 90, 90, 90, 90, 90, 82], by decide +kernel⟩ 4 (by rw [e4]; decide) (by decide) rfl ?_
    refine mRunF.sg (mSl mk_148 25 1) (g := (96, [some (.ref 0), some (.int a0)], [.int (-1)], mSS M2)) (by decide +kernel) rfl ?_
    cases h
    exact R_iret (by decide +kernel)
  by_cases e5 : a0 = 10
  · refine R_swc (lo := 5) (hi := 13) (td := 95) (ts := [56, 61, 82, 95, 95, 95, 95, 95, 87]) ⟨90, #[51, 56, 77, 90, 90, 90, 90, 90, 82], by decide +kernel⟩ 5 (by rw [e5]; decide) (by decide) rfl ?_
    refine mRunF.sg (mSl mk_148 25 1) (g := (96, [some (.ref 0), some (.int a0)], [.int (-1)], mSS M2)) (by decide +kernel) rfl ?_
    cases h
    exact R_iret (by decide +kernel)
  by_cases e6 : a0 = 11
  · refine R_swc (lo := 5) (hi := 13) (td := 95) (ts := [56, 61, 82, 95, 95, 95, 95, 95, 87]) ⟨90, #[51, 56, 77, 90, 90, 90, 90, 90, 82], by decide +kernel⟩ 6 (by rw [e6]; decide) (by decide) rfl ?_
    refine mRunF.sg (mSl mk_148 25 1) (g := (96, [some (.ref 0), some (.int a0)], [.int (-1)], mSS M2)) (by decide +kernel) rfl ?_
    cases h
    exact R_iret (by decide +kernel)
  by_cases e7 : a0 = 12
  · refine R_swc (lo := 5) (hi := 13) (td := 95) (ts := [56, 61, 82, 95, 95, 95, 95, 95, 87]) ⟨90, #[51, 56, 77, 90, 90, 90, 90, 90, 82], by decide +kernel⟩ 7 (by rw [e7]; decide) (by decide) rfl ?_
    refine mRunF.sg (mSl mk_148 25 1) (g := (96, [some (.ref 0), some (.int a0)], [.int (-1)], mSS M2)) (by decide +kernel) rfl ?_
    cases h
    exact R_iret (by decide +kernel)
  refine R_swd (lo := 5) (hi := 13) (td := 95) (ts := [56, 61, 82, 95, 95, 95, 95, 95, 87]) ⟨90, #[51, 56, 77, 90, 90, 90, 90, 90, 82], by decide +kernel⟩ (sw_out 5 9 (by decide) (by decide) (fun j hj => by match j, hj with | 0, _ => exact e0 | 1, _ => exact e1 | 2, _ => exact e2 | 3, _ => exact e3 | 4, _ => exact e4 | 5, _ => exact e5 | 6, _ => exact e6 | 7, _ => exact e7 | 8, _ => exact e8 | j + 9, hj => omega)) ?_
  refine mRunF.sg (mSl mk_148 25 1) (g := (96, [some (.ref 0), some (.int a0)], [.int (-1)], mSS M2)) (by decide +kernel) rfl ?_
  cases h
  exact R_iret (by decide +kernel)
set_option maxRecDepth 100000 in
set_option maxHeartbeats 4000000 in
theorem Md_count_r (N : Nat) (a0 : Int32) (M : mS) {r : Int32} {M' : mS} (d : Nat) (h : Md_count N a0 M = some (r, M')) : mMet mP mTx (d + 7) 147 [.ref 0, .int a0] (mSS M) (some (.int r)) (mSS M') := by
  refine mMet_i ⟨Nat.le_refl _, Nat.le_refl _, Nat.le_of_ble_eq_true rfl⟩ ?_
  unfold Md_count at h
  show mRunF (mCd 147) (mEE (mMet mP mTx (d + 6)) (some .int) (some (.int r)) M') (0, [some (.ref 0), some (.int a0)], [], mSS M)
  refine mRunF.sg (mSl mk_147 0 1) (g := (1, [some (.ref 0), some (.int a0)], [.int a0], mSS M)) (by decide +kernel) rfl ?_
  by_cases e0 : a0 = 0
  · rw [if_pos e0] at h
    refine R_swc (lo := 0) (hi := 16) (td := 169) (ts := [84, 92, 100, 108, 115, 169, 169, 169, 120, 128, 133, 141, 149, 169, 154, 159, 164]) ⟨168, #[83, 91, 99, 107, 114, 168, 168, 168, 119, 127, 132, 140, 148, 168, 153, 158, 163], by decide +kernel⟩ 0 (by rw [e0]; decide) (by decide) rfl ?_
    refine mRunF.sg (mSl mk_147 2 3) (g := (91, [some (.ref 0), some (.int a0)], [.int (M.1 3 6)], mSS M)) (by decide +kernel) rfl ?_
    cases h
    exact R_iret (by decide +kernel)
  rw [if_neg e0] at h
  by_cases e1 : a0 = 1
  · rw [if_pos e1] at h
    refine R_swc (lo := 0) (hi := 16) (td := 169) (ts := [84, 92, 100, 108, 115, 169, 169, 169, 120, 128, 133, 141, 149, 169, 154, 159, 164]) ⟨168, #[83, 91, 99, 107, 114, 168, 168, 168, 119, 127, 132, 140, 148, 168, 153, 158, 163], by decide +kernel⟩ 1 (by rw [e1]; decide) (by decide) rfl ?_
    refine mRunF.sg (mSl mk_147 6 3) (g := (99, [some (.ref 0), some (.int a0)], [.int (M.1 3 7)], mSS M)) (by decide +kernel) rfl ?_
    cases h
    exact R_iret (by decide +kernel)
  rw [if_neg e1] at h
  by_cases e2 : a0 = 2
  · rw [if_pos e2] at h
    refine R_swc (lo := 0) (hi := 16) (td := 169) (ts := [84, 92, 100, 108, 115, 169, 169, 169, 120, 128, 133, 141, 149, 169, 154, 159, 164]) ⟨168, #[83, 91, 99, 107, 114, 168, 168, 168, 119, 127, 132, 140, 148, 168, 153, 158, 163], by decide +kernel⟩ 2 (by rw [e2]; decide) (by decide) rfl ?_
    refine mRunF.sg (mSl mk_147 10 3) (g := (107, [some (.ref 0), some (.int a0)], [.int (M.1 3 8)], mSS M)) (by decide +kernel) rfl ?_
    cases h
    exact R_iret (by decide +kernel)
  rw [if_neg e2] at h
  by_cases e3 : a0 = 3
  · rw [if_pos e3] at h
    refine R_swc (lo := 0) (hi := 16) (td := 169) (ts := [84, 92, 100, 108, 115, 169, 169, 169, 120, 128, 133, 141, 149, 169, 154, 159, 164]) ⟨168, #[83, 91, 99, 107, 114, 168, 168, 168, 119, 127, 132, 140, 148, 168, 153, 158, 163], by decide +kernel⟩ 3 (by rw [e3]; decide) (by decide) rfl ?_
    refine mRunF.sg (mSl mk_147 14 3) (g := (113, [some (.ref 0), some (.int a0)], [.int 0, .ref 34], mSS M)) (by decide +kernel) rfl ?_
    refine R_iald (by decide +kernel) rfl rfl ?_
    show mRunF _ _ (114, [some (.ref 0), some (.int a0)], [.int (M.1 34 0)], mSS M)
    cases h
    exact R_iret (by decide +kernel)
  rw [if_neg e3] at h
  by_cases e4 : a0 = 4
  · rw [if_pos e4] at h
    refine R_swc (lo := 0) (hi := 16) (td := 169) (ts := [84, 92, 100, 108, 115, 169, 169, 169, 120, 128, 133, 141, 149, 169, 154, 159, 164]) ⟨168, #[83, 91, 99, 107, 114, 168, 168, 168, 119, 127, 132, 140, 148, 168, 153, 158, 163], by decide +kernel⟩ 4 (by rw [e4]; decide) (by decide) rfl ?_
    refine mRunF.sg (mSl mk_147 19 1) (g := (116, [some (.ref 0), some (.int a0)], [.ref 0], mSS M)) (by decide +kernel) rfl ?_
    obtain ⟨r2, q1, h⟩ := bR_of h
    refine R_callV (mi := 149) (na := 1) (ci := 11) (i := 0) (as := []) (r := []) (rv := some (.int r2)) (σ1 := mSS M) ⟨305, by decide +kernel⟩ rfl rfl rfl rfl (Md_pairHours_r N M (d + 4) q1) ?_
    show mRunF _ _ (119, [some (.ref 0), some (.int a0)], [.int r2], mSS M)
    cases h
    exact R_iret (by decide +kernel)
  rw [if_neg e4] at h
  by_cases e8 : a0 = 8
  · rw [if_pos e8] at h
    refine R_swc (lo := 0) (hi := 16) (td := 169) (ts := [84, 92, 100, 108, 115, 169, 169, 169, 120, 128, 133, 141, 149, 169, 154, 159, 164]) ⟨168, #[83, 91, 99, 107, 114, 168, 168, 168, 119, 127, 132, 140, 148, 168, 153, 158, 163], by decide +kernel⟩ 8 (by rw [e8]; decide) (by decide) rfl ?_
    refine mRunF.sg (mSl mk_147 22 3) (g := (127, [some (.ref 0), some (.int a0)], [.int (M.1 1 1)], mSS M)) (by decide +kernel) rfl ?_
    cases h
    exact R_iret (by decide +kernel)
  rw [if_neg e8] at h
  by_cases e9 : a0 = 9
  · rw [if_pos e9] at h
    refine R_swc (lo := 0) (hi := 16) (td := 169) (ts := [84, 92, 100, 108, 115, 169, 169, 169, 120, 128, 133, 141, 149, 169, 154, 159, 164]) ⟨168, #[83, 91, 99, 107, 114, 168, 168, 168, 119, 127, 132, 140, 148, 168, 153, 158, 163], by decide +kernel⟩ 9 (by rw [e9]; decide) (by decide) rfl ?_
    refine mRunF.sg (mSl mk_147 26 2) (g := (132, [some (.ref 0), some (.int a0)], [.int (M.1 0 12)], mSS M)) (by decide +kernel) rfl ?_
    cases h
    exact R_iret (by decide +kernel)
  rw [if_neg e9] at h
  by_cases e10 : a0 = 10
  · rw [if_pos e10] at h
    refine R_swc (lo := 0) (hi := 16) (td := 169) (ts := [84, 92, 100, 108, 115, 169, 169, 169, 120, 128, 133, 141, 149, 169, 154, 159, 164]) ⟨168, #[83, 91, 99, 107, 114, 168, 168, 168, 119, 127, 132, 140, 148, 168, 153, 158, 163], by decide +kernel⟩ 10 (by rw [e10]; decide) (by decide) rfl ?_
    refine mRunF.sg (mSl mk_147 29 3) (g := (140, [some (.ref 0), some (.int a0)], [.int (M.1 59 0)], mSS M)) (by decide +kernel) rfl ?_
    cases h
    exact R_iret (by decide +kernel)
  rw [if_neg e10] at h
  by_cases e11 : a0 = 11
  · rw [if_pos e11] at h
    refine R_swc (lo := 0) (hi := 16) (td := 169) (ts := [84, 92, 100, 108, 115, 169, 169, 169, 120, 128, 133, 141, 149, 169, 154, 159, 164]) ⟨168, #[83, 91, 99, 107, 114, 168, 168, 168, 119, 127, 132, 140, 148, 168, 153, 158, 163], by decide +kernel⟩ 11 (by rw [e11]; decide) (by decide) rfl ?_
    refine mRunF.sg (mSl mk_147 33 2) (g := (145, [some (.ref 0), some (.int a0)], [.int (M.1 0 14)], mSS M)) (by decide +kernel) rfl ?_
    refine R_callS (mi := 308) (na := 1) (as := [.int (M.1 0 14)]) (r := []) (rv := some (.int (Jl_bitCount (M.1 0 14) M))) (σ1 := mSS M) ⟨214, by decide +kernel⟩ rfl rfl rfl (Jl_bitCount_r (M.1 0 14) M (d + 5)) ?_
    show mRunF _ _ (148, [some (.ref 0), some (.int a0)], [.int (Jl_bitCount (M.1 0 14) M)], mSS M)
    cases h
    exact R_iret (by decide +kernel)
  rw [if_neg e11] at h
  by_cases e12 : a0 = 12
  · rw [if_pos e12] at h
    refine R_swc (lo := 0) (hi := 16) (td := 169) (ts := [84, 92, 100, 108, 115, 169, 169, 169, 120, 128, 133, 141, 149, 169, 154, 159, 164]) ⟨168, #[83, 91, 99, 107, 114, 168, 168, 168, 119, 127, 132, 140, 148, 168, 153, 158, 163], by decide +kernel⟩ 12 (by rw [e12]; decide) (by decide) rfl ?_
    refine mRunF.sg (mSl mk_147 37 1) (g := (150, [some (.ref 0), some (.int a0)], [.ref 0], mSS M)) (by decide +kernel) rfl ?_
    obtain ⟨r4, q3, h⟩ := bR_of h
    refine R_callV (mi := 153) (na := 1) (ci := 11) (i := 0) (as := []) (r := []) (rv := some (.int r4)) (σ1 := mSS M) ⟨308, by decide +kernel⟩ rfl rfl rfl rfl (Md_rightDials_r N M (d + 5) q3) ?_
    show mRunF _ _ (153, [some (.ref 0), some (.int a0)], [.int r4], mSS M)
    cases h
    exact R_iret (by decide +kernel)
  rw [if_neg e12] at h
  by_cases e14 : a0 = 14
  · rw [if_pos e14] at h
    refine R_swc (lo := 0) (hi := 16) (td := 169) (ts := [84, 92, 100, 108, 115, 169, 169, 169, 120, 128, 133, 141, 149, 169, 154, 159, 164]) ⟨168, #[83, 91, 99, 107, 114, 168, 168, 168, 119, 127, 132, 140, 148, 168, 153, 158, 163], by decide +kernel⟩ 14 (by rw [e14]; decide) (by decide) rfl ?_
    refine mRunF.sg (mSl mk_147 40 1) (g := (155, [some (.ref 0), some (.int a0)], [.ref 0], mSS M)) (by decide +kernel) rfl ?_
    obtain ⟨r6, q5, h⟩ := bR_of h
    refine R_callV (mi := 150) (na := 1) (ci := 11) (i := 0) (as := []) (r := []) (rv := some (.int r6)) (σ1 := mSS M) ⟨311, by decide +kernel⟩ rfl rfl rfl rfl (Md_pairsMet_r N M (d + 4) q5) ?_
    show mRunF _ _ (158, [some (.ref 0), some (.int a0)], [.int r6], mSS M)
    cases h
    exact R_iret (by decide +kernel)
  rw [if_neg e14] at h
  by_cases e15 : a0 = 15
  · rw [if_pos e15] at h
    refine R_swc (lo := 0) (hi := 16) (td := 169) (ts := [84, 92, 100, 108, 115, 169, 169, 169, 120, 128, 133, 141, 149, 169, 154, 159, 164]) ⟨168, #[83, 91, 99, 107, 114, 168, 168, 168, 119, 127, 132, 140, 148, 168, 153, 158, 163], by decide +kernel⟩ 15 (by rw [e15]; decide) (by decide) rfl ?_
    refine mRunF.sg (mSl mk_147 43 1) (g := (160, [some (.ref 0), some (.int a0)], [.ref 0], mSS M)) (by decide +kernel) rfl ?_
    obtain ⟨r8, q7, h⟩ := bR_of h
    refine R_callV (mi := 154) (na := 1) (ci := 11) (i := 0) (as := []) (r := []) (rv := some (.int r8)) (σ1 := mSS M) ⟨314, by decide +kernel⟩ rfl rfl rfl rfl (Md_unusedDials_r N M (d + 5) q7) ?_
    show mRunF _ _ (163, [some (.ref 0), some (.int a0)], [.int r8], mSS M)
    cases h
    exact R_iret (by decide +kernel)
  rw [if_neg e15] at h
  by_cases e16 : a0 = 16
  · rw [if_pos e16] at h
    refine R_swc (lo := 0) (hi := 16) (td := 169) (ts := [84, 92, 100, 108, 115, 169, 169, 169, 120, 128, 133, 141, 149, 169, 154, 159, 164]) ⟨168, #[83, 91, 99, 107, 114, 168, 168, 168, 119, 127, 132, 140, 148, 168, 153, 158, 163], by decide +kernel⟩ 16 (by rw [e16]; decide) (by decide) rfl ?_
    refine mRunF.sg (mSl mk_147 46 1) (g := (165, [some (.ref 0), some (.int a0)], [.ref 0], mSS M)) (by decide +kernel) rfl ?_
    obtain ⟨r10, q9, h⟩ := bR_of h
    refine R_callV (mi := 155) (na := 1) (ci := 11) (i := 0) (as := []) (r := []) (rv := some (.int r10)) (σ1 := mSS M) ⟨317, by decide +kernel⟩ rfl rfl rfl rfl (Md_lonelyGoers_r N M (d + 5) q9) ?_
    show mRunF _ _ (168, [some (.ref 0), some (.int a0)], [.int r10], mSS M)
    cases h
    exact R_iret (by decide +kernel)
  rw [if_neg e16] at h
  by_cases e5 : a0 = 5
  · refine R_swc (lo := 0) (hi := 16) (td := 169) (ts := [84, 92, 100, 108, 115, 169, 169, 169, 120, 128, 133, 141, 149, 169, 154, 159, 164]) ⟨168, #[83, 91, 99, 107, 114, 168, 168, 168, 119, 127, 132, 140, 148, 168, 153, 158, 163], by decide +kernel⟩ 5 (by rw [e5]; decide) (by decide) rfl ?_
    refine mRunF.sg (mSl mk_147 49 2) (g := (171, [some (.ref 0), some (.int a0)], [.int a0, .ref 0], mSS M)) (by decide +kernel) rfl ?_
    obtain ⟨r13, M12, q11, h⟩ := bW_of h
    refine R_callV (mi := 148) (na := 2) (ci := 11) (i := 0) (as := [.int a0]) (r := []) (rv := some (.int r13)) (σ1 := mSS M12) ⟨320, by decide +kernel⟩ rfl rfl rfl rfl (Md_countOfNight_r N a0 M (d + 0) q11) ?_
    show mRunF _ _ (174, [some (.ref 0), some (.int a0)], [.int r13], mSS M12)
    cases h
    exact R_iret (by decide +kernel)
  by_cases e6 : a0 = 6
  · refine R_swc (lo := 0) (hi := 16) (td := 169) (ts := [84, 92, 100, 108, 115, 169, 169, 169, 120, 128, 133, 141, 149, 169, 154, 159, 164]) ⟨168, #[83, 91, 99, 107, 114, 168, 168, 168, 119, 127, 132, 140, 148, 168, 153, 158, 163], by decide +kernel⟩ 6 (by rw [e6]; decide) (by decide) rfl ?_
    refine mRunF.sg (mSl mk_147 49 2) (g := (171, [some (.ref 0), some (.int a0)], [.int a0, .ref 0], mSS M)) (by decide +kernel) rfl ?_
    obtain ⟨r13, M12, q11, h⟩ := bW_of h
    refine R_callV (mi := 148) (na := 2) (ci := 11) (i := 0) (as := [.int a0]) (r := []) (rv := some (.int r13)) (σ1 := mSS M12) ⟨320, by decide +kernel⟩ rfl rfl rfl rfl (Md_countOfNight_r N a0 M (d + 0) q11) ?_
    show mRunF _ _ (174, [some (.ref 0), some (.int a0)], [.int r13], mSS M12)
    cases h
    exact R_iret (by decide +kernel)
  by_cases e7 : a0 = 7
  · refine R_swc (lo := 0) (hi := 16) (td := 169) (ts := [84, 92, 100, 108, 115, 169, 169, 169, 120, 128, 133, 141, 149, 169, 154, 159, 164]) ⟨168, #[83, 91, 99, 107, 114, 168, 168, 168, 119, 127, 132, 140, 148, 168, 153, 158, 163], by decide +kernel⟩ 7 (by rw [e7]; decide) (by decide) rfl ?_
    refine mRunF.sg (mSl mk_147 49 2) (g := (171, [some (.ref 0), some (.int a0)], [.int a0, .ref 0], mSS M)) (by decide +kernel) rfl ?_
    obtain ⟨r13, M12, q11, h⟩ := bW_of h
    refine R_callV (mi := 148) (na := 2) (ci := 11) (i := 0) (as := [.int a0]) (r := []) (rv := some (.int r13)) (σ1 := mSS M12) ⟨320, by decide +kernel⟩ rfl rfl rfl rfl (Md_countOfNight_r N a0 M (d + 0) q11) ?_
    show mRunF _ _ (174, [some (.ref 0), some (.int a0)], [.int r13], mSS M12)
    cases h
    exact R_iret (by decide +kernel)
  by_cases e13 : a0 = 13
  · refine R_swc (lo := 0) (hi := 16) (td := 169) (ts := [84, 92, 100, 108, 115, 169, 169, 169, 120, 128, 133, 141, 149, 169, 154, 159, 164]) ⟨168, #[83, 91, 99, 107, 114, 168, 168, 168, 119, 127, 132, 140, 148, 168, 153, 158, 163], by decide +kernel⟩ 13 (by rw [e13]; decide) (by decide) rfl ?_
    refine mRunF.sg (mSl mk_147 49 2) (g := (171, [some (.ref 0), some (.int a0)], [.int a0, .ref 0], mSS M)) (by decide +kernel) rfl ?_
    obtain ⟨r13, M12, q11, h⟩ := bW_of h
    refine R_callV (mi := 148) (na := 2) (ci := 11) (i := 0) (as := [.int a0]) (r := []) (rv := some (.int r13)) (σ1 := mSS M12) ⟨320, by decide +kernel⟩ rfl rfl rfl rfl (Md_countOfNight_r N a0 M (d + 0) q11) ?_
    show mRunF _ _ (174, [some (.ref 0), some (.int a0)], [.int r13], mSS M12)
    cases h
    exact R_iret (by decide +kernel)
  refine R_swd (lo := 0) (hi := 16) (td := 169) (ts := [84, 92, 100, 108, 115, 169, 169, 169, 120, 128, 133, 141, 149, 169, 154, 159, 164]) ⟨168, #[83, 91, 99, 107, 114, 168, 168, 168, 119, 127, 132, 140, 148, 168, 153, 158, 163], by decide +kernel⟩ (sw_out 0 17 (by decide) (by decide) (fun j hj => by match j, hj with | 0, _ => exact e0 | 1, _ => exact e1 | 2, _ => exact e2 | 3, _ => exact e3 | 4, _ => exact e4 | 5, _ => exact e5 | 6, _ => exact e6 | 7, _ => exact e7 | 8, _ => exact e8 | 9, _ => exact e9 | 10, _ => exact e10 | 11, _ => exact e11 | 12, _ => exact e12 | 13, _ => exact e13 | 14, _ => exact e14 | 15, _ => exact e15 | 16, _ => exact e16 | j + 17, hj => omega)) ?_
  refine mRunF.sg (mSl mk_147 49 2) (g := (171, [some (.ref 0), some (.int a0)], [.int a0, .ref 0], mSS M)) (by decide +kernel) rfl ?_
  obtain ⟨r13, M12, q11, h⟩ := bW_of h
  refine R_callV (mi := 148) (na := 2) (ci := 11) (i := 0) (as := [.int a0]) (r := []) (rv := some (.int r13)) (σ1 := mSS M12) ⟨320, by decide +kernel⟩ rfl rfl rfl rfl (Md_countOfNight_r N a0 M (d + 0) q11) ?_
  show mRunF _ _ (174, [some (.ref 0), some (.int a0)], [.int r13], mSS M12)
  cases h
  exact R_iret (by decide +kernel)
set_option maxRecDepth 100000 in
set_option maxHeartbeats 4000000 in
theorem Mo_lays_3_r {N d : Nat}   {M' : mS} : ∀ {n : Nat} {x1 : Int32} {x2 : Int32} {M : mS}, Mo_lays_3 N n x1 x2 M = some M' → mRunF (mCd 175) (mEE (mMet mP mTx (d + 0)) (none) none M') (3, [some (.ref 64), some (.int x1), some (.int x2)], [], mSS M) := by
  intro n
  induction n with
  | zero => intro x1 x2 M h; cases h
  | succ n ih =>
    replace ih := @ih
    intro x1 x2 M h
    unfold Mo_lays_3 at h
    refine mRunF.sg (mSl mk_175 2 1) (g := (4, [some (.ref 64), some (.int x1), some (.int x2)], [.int x2], mSS M)) (by decide +kernel) rfl ?_
    refine R_lt (t := 36) ⟨32, by decide +kernel⟩ (fun q => ?_) (fun q => ?_)
    · rw [if_pos q] at h
      cases h
      exact R_vret (by decide +kernel)
    · rw [if_neg q] at h
      refine mRunF.sg (mSl mk_175 4 8) (g := (19, [some (.ref 64), some (.int x1), some (.int x2)], [.int ((x1 >>> (x2 &&& 31)).toInt8.toInt32), .int (M.1 64 2), .ref 65], mSS M)) (by decide +kernel) rfl ?_
      obtain ⟨g1, h⟩ := grd_of h
      refine R_bast (by decide +kernel) rfl g1 ?_
      obtain ⟨M2, hv, h⟩ := nxt_ex h
      rw [← hv]
      clear hv
      refine mRunF.sg (mSl mk_175 13 6) (g := (30, [some (.ref 64), some (.int x1), some (.int x2)], [], mSS (mWI M2 64 2 ((M2.1 64 2) + 1)))) (by decide +kernel) rfl ?_
      obtain ⟨M3, hv, h⟩ := nxt_ex h
      rw [← hv]
      clear hv
      refine mRunF.sg (mSl mk_175 19 2) (g := (3, [some (.ref 64), some (.int x1), some (.int (x2 + (-8)))], [], mSS M3)) (by decide +kernel) rfl ?_
      exact @ih _ _ _ h
set_option maxRecDepth 100000 in
set_option maxHeartbeats 4000000 in
theorem Mo_lays_r (N : Nat) (a0 : Int32) (M : mS) {M' : mS} (d : Nat) (h : Mo_lays N a0 M = some M') : mMet mP mTx (d + 1) 175 [.ref 64, .int a0] (mSS M) none (mSS M') := by
  refine mMet_i ⟨Nat.le_refl _, Nat.le_refl _, Nat.le_of_ble_eq_true rfl⟩ ?_
  unfold Mo_lays at h
  show mRunF (mCd 175) (mEE (mMet mP mTx (d + 0)) (none) none M') (0, [some (.ref 64), some (.int a0), none], [], mSS M)
  refine mRunF.sg (mSl mk_175 0 2) (g := (3, [some (.ref 64), some (.int a0), some (.int 24)], [], mSS M)) (by decide +kernel) rfl ?_
  exact Mo_lays_3_r h
set_option maxRecDepth 100000 in
set_option maxHeartbeats 4000000 in
theorem Mo_feed_r (N : Nat) (a0 : Int32) (a1 : Int32) (a2 : Int32) (a3 : Int32) (a4 : Int32) (M : mS) {r : Int32} {M' : mS} (d : Nat) (h : Mo_feed N a0 a1 a2 a3 a4 M = some (r, M')) : mMet mP mTx (d + 2) 174 [.ref 64, .int a0, .int a1, .int a2, .int a3, .int a4] (mSS M) (some (.int r)) (mSS M') := by
  refine mMet_i ⟨Nat.le_refl _, Nat.le_refl _, Nat.le_of_ble_eq_true rfl⟩ ?_
  unfold Mo_feed at h
  show mRunF (mCd 174) (mEE (mMet mP mTx (d + 1)) (some .int) (some (.int r)) M') (0, [some (.ref 64), some (.int a0), some (.int a1), some (.int a2), some (.int a3), some (.int a4)], [], mSS M)
  refine mRunF.sg (mSl mk_174 0 5) (g := (10, [some (.ref 64), some (.int a0), some (.int a1), some (.int a2), some (.int a3), some (.int a4)], [.int 2000, .int ((M.1 64 2) + 20)], mSS M)) (by decide +kernel) rfl ?_
  refine R_ile (t := 15) ⟨5, by decide +kernel⟩ (fun q => ?_) (fun q => ?_)
  · rw [if_pos q] at h
    refine mRunF.sg (mSl mk_174 8 2) (g := (17, [some (.ref 64), some (.int a0), some (.int a1), some (.int a2), some (.int a3), some (.int a4)], [.int a0, .ref 64], mSS M)) (by decide +kernel) rfl ?_
    obtain ⟨M2, q1, h⟩ := bV_of h
    refine R_callV (mi := 175) (na := 2) (ci := 12) (i := 64) (as := [.int a0]) (r := []) (rv := none) (σ1 := mSS M2) ⟨175, by decide +kernel⟩ rfl rfl rfl rfl (Mo_lays_r N a0 M (d + 0) q1) ?_
    show mRunF _ _ (20, [some (.ref 64), some (.int a0), some (.int a1), some (.int a2), some (.int a3), some (.int a4)], [], mSS M2)
    refine mRunF.sg (mSl mk_174 11 2) (g := (22, [some (.ref 64), some (.int a0), some (.int a1), some (.int a2), some (.int a3), some (.int a4)], [.int a1, .ref 64], mSS M2)) (by decide +kernel) rfl ?_
    obtain ⟨M4, q3, h⟩ := bV_of h
    refine R_callV (mi := 175) (na := 2) (ci := 12) (i := 64) (as := [.int a1]) (r := []) (rv := none) (σ1 := mSS M4) ⟨175, by decide +kernel⟩ rfl rfl rfl rfl (Mo_lays_r N a1 M2 (d + 0) q3) ?_
    show mRunF _ _ (25, [some (.ref 64), some (.int a0), some (.int a1), some (.int a2), some (.int a3), some (.int a4)], [], mSS M4)
    refine mRunF.sg (mSl mk_174 14 2) (g := (27, [some (.ref 64), some (.int a0), some (.int a1), some (.int a2), some (.int a3), some (.int a4)], [.int a2, .ref 64], mSS M4)) (by decide +kernel) rfl ?_
    obtain ⟨M6, q5, h⟩ := bV_of h
    refine R_callV (mi := 175) (na := 2) (ci := 12) (i := 64) (as := [.int a2]) (r := []) (rv := none) (σ1 := mSS M6) ⟨175, by decide +kernel⟩ rfl rfl rfl rfl (Mo_lays_r N a2 M4 (d + 0) q5) ?_
    show mRunF _ _ (30, [some (.ref 64), some (.int a0), some (.int a1), some (.int a2), some (.int a3), some (.int a4)], [], mSS M6)
    refine mRunF.sg (mSl mk_174 17 2) (g := (33, [some (.ref 64), some (.int a0), some (.int a1), some (.int a2), some (.int a3), some (.int a4)], [.int a3, .ref 64], mSS M6)) (by decide +kernel) rfl ?_
    obtain ⟨M8, q7, h⟩ := bV_of h
    refine R_callV (mi := 175) (na := 2) (ci := 12) (i := 64) (as := [.int a3]) (r := []) (rv := none) (σ1 := mSS M8) ⟨175, by decide +kernel⟩ rfl rfl rfl rfl (Mo_lays_r N a3 M6 (d + 0) q7) ?_
    show mRunF _ _ (36, [some (.ref 64), some (.int a0), some (.int a1), some (.int a2), some (.int a3), some (.int a4)], [], mSS M8)
    refine mRunF.sg (mSl mk_174 20 2) (g := (39, [some (.ref 64), some (.int a0), some (.int a1), some (.int a2), some (.int a3), some (.int a4)], [.int a4, .ref 64], mSS M8)) (by decide +kernel) rfl ?_
    obtain ⟨M10, q9, h⟩ := bV_of h
    refine R_callV (mi := 175) (na := 2) (ci := 12) (i := 64) (as := [.int a4]) (r := []) (rv := none) (σ1 := mSS M10) ⟨175, by decide +kernel⟩ rfl rfl rfl rfl (Mo_lays_r N a4 M8 (d + 0) q9) ?_
    show mRunF _ _ (42, [some (.ref 64), some (.int a0), some (.int a1), some (.int a2), some (.int a3), some (.int a4)], [], mSS M10)
    refine mRunF.sg (mSl mk_174 23 2) (g := (46, [some (.ref 64), some (.int a0), some (.int a1), some (.int a2), some (.int a3), some (.int a4)], [.int (M10.1 64 2)], mSS M10)) (by decide +kernel) rfl ?_
    cases h
    exact R_iret (by decide +kernel)
  · rw [if_neg q] at h
    refine mRunF.sg (mSl mk_174 6 1) (g := (14, [some (.ref 64), some (.int a0), some (.int a1), some (.int a2), some (.int a3), some (.int a4)], [.int (-1)], mSS M)) (by decide +kernel) rfl ?_
    cases h
    exact R_iret (by decide +kernel)
set_option maxRecDepth 100000 in
set_option maxHeartbeats 4000000 in
theorem Mo_back_r (N : Nat) (a0 : Int32) (M : mS) {r : Int32} {M' : mS} (d : Nat) (h : Mo_back N a0 M = some (r, M')) : mMet mP mTx (d + 1) 176 [.ref 64, .int a0] (mSS M) (some (.int r)) (mSS M') := by
  refine mMet_i ⟨Nat.le_refl _, Nat.le_refl _, Nat.le_of_ble_eq_true rfl⟩ ?_
  unfold Mo_back at h
  show mRunF (mCd 176) (mEE (mMet mP mTx (d + 0)) (some .int) (some (.int r)) M') (0, [some (.ref 64), some (.int a0)], [], mSS M)
  refine mRunF.sg (mSl mk_176 0 1) (g := (1, [some (.ref 64), some (.int a0)], [.int a0], mSS M)) (by decide +kernel) rfl ?_
  refine R_lt (t := 12) ⟨11, by decide +kernel⟩ (fun q => ?_) (fun q => ?_)
  · rw [if_pos q] at h
    refine mRunF.sg (mSl mk_176 6 1) (g := (13, [some (.ref 64), some (.int a0)], [.int (-1)], mSS M)) (by decide +kernel) rfl ?_
    cases h
    exact R_iret (by decide +kernel)
  · rw [if_neg q] at h
    refine mRunF.sg (mSl mk_176 2 3) (g := (9, [some (.ref 64), some (.int a0)], [.int (M.1 64 2), .int a0], mSS M)) (by decide +kernel) rfl ?_
    refine R_ile (t := 14) ⟨5, by decide +kernel⟩ (fun q => ?_) (fun q => ?_)
    · rw [if_pos q] at h
      refine mRunF.sg (mSl mk_176 8 6) (g := (24, [some (.ref 64), some (.int a0)], [], mSS (mWI M 64 2 ((M.1 64 2) - a0)))) (by decide +kernel) rfl ?_
      obtain ⟨M1, hv, h⟩ := nxt_ex h
      rw [← hv]
      clear hv
      refine mRunF.sg (mSl mk_176 14 2) (g := (28, [some (.ref 64), some (.int a0)], [.int (M1.1 64 2)], mSS M1)) (by decide +kernel) rfl ?_
      cases h
      exact R_iret (by decide +kernel)
    · rw [if_neg q] at h
      refine mRunF.sg (mSl mk_176 6 1) (g := (13, [some (.ref 64), some (.int a0)], [.int (-1)], mSS M)) (by decide +kernel) rfl ?_
      cases h
      exact R_iret (by decide +kernel)
set_option maxRecDepth 100000 in
set_option maxHeartbeats 4000000 in
theorem Mo_byteAt_r (N : Nat) (a0 : Int32) (M : mS) {r : Int32} (d : Nat) (h : Mo_byteAt N a0 M = some r) : mMet mP mTx (d + 1) 177 [.ref 64, .int a0] (mSS M) (some (.int r)) (mSS M) := by
  refine mMet_i ⟨Nat.le_refl _, Nat.le_refl _, Nat.le_of_ble_eq_true rfl⟩ ?_
  unfold Mo_byteAt at h
  show mRunF (mCd 177) (mEE (mMet mP mTx (d + 0)) (some .int) (some (.int r)) M) (0, [some (.ref 64), some (.int a0)], [], mSS M)
  refine mRunF.sg (mSl mk_177 0 3) (g := (5, [some (.ref 64), some (.int a0)], [.int (M.1 64 4), .int a0], mSS M)) (by decide +kernel) rfl ?_
  refine R_ige (t := 21) ⟨16, by decide +kernel⟩ (fun q => ?_) (fun q => ?_)
  · rw [if_pos q] at h
    refine mRunF.sg (mSl mk_177 11 1) (g := (22, [some (.ref 64), some (.int a0)], [.int 0], mSS M)) (by decide +kernel) rfl ?_
    cases h
    exact R_iret (by decide +kernel)
  · rw [if_neg q] at h
    refine mRunF.sg (mSl mk_177 4 3) (g := (13, [some (.ref 64), some (.int a0)], [.int a0, .ref 66], mSS M)) (by decide +kernel) rfl ?_
    obtain ⟨g1, h⟩ := grd_of h
    refine R_bald (by decide +kernel) rfl g1 ?_
    refine mRunF.sg (mSl mk_177 8 3) (g := (22, [some (.ref 64), some (.int a0)], [.int ((M.1 66 a0.toNatClampNeg) &&& 255)], mSS M)) (by decide +kernel) rfl ?_
    cases h
    exact R_iret (by decide +kernel)
set_option maxRecDepth 100000 in
set_option maxHeartbeats 4000000 in
theorem Mo_isLetter_r (a0 : Int32) (M : mS) (d : Nat) : mMet mP mTx (d + 1) 179 [.int a0] (mSS M) (some (.int (Mo_isLetter a0 M))) (mSS M) := by
  refine mMet_i ⟨Nat.le_refl _, Nat.le_refl _, Nat.le_of_ble_eq_true rfl⟩ ?_
  generalize h : Mo_isLetter a0 M = r
  unfold Mo_isLetter at h
  show mRunF (mCd 179) (mEE (mMet mP mTx (d + 0)) (some .boolean) (some (.int r)) M) (0, [some (.int a0)], [], mSS M)
  refine mRunF.sg (mSl mk_179 0 2) (g := (3, [some (.int a0)], [.int 97, .int a0], mSS M)) (by decide +kernel) rfl ?_
  refine R_ilt (t := 16) ⟨13, by decide +kernel⟩ (fun q => ?_) (fun q => ?_)
  · rw [if_pos q] at h
    refine mRunF.sg (mSl mk_179 8 1) (g := (17, [some (.int a0)], [.int 0], mSS M)) (by decide +kernel) rfl ?_
    subst h
    exact R_zret (by decide +kernel) (Or.inl rfl)
  · rw [if_neg q] at h
    refine mRunF.sg (mSl mk_179 3 2) (g := (9, [some (.int a0)], [.int 122, .int a0], mSS M)) (by decide +kernel) rfl ?_
    refine R_igt (t := 16) ⟨7, by decide +kernel⟩ (fun q => ?_) (fun q => ?_)
    · rw [if_pos q] at h
      refine mRunF.sg (mSl mk_179 8 1) (g := (17, [some (.int a0)], [.int 0], mSS M)) (by decide +kernel) rfl ?_
      subst h
      exact R_zret (by decide +kernel) (Or.inl rfl)
    · rw [if_neg q] at h
      refine mRunF.sg (mSl mk_179 6 2) (g := (17, [some (.int a0)], [.int 1], mSS M)) (by decide +kernel) rfl ?_
      subst h
      exact R_zret (by decide +kernel) (Or.inr rfl)
set_option maxRecDepth 100000 in
set_option maxHeartbeats 4000000 in
theorem Mo_isDigit_r (a0 : Int32) (M : mS) (d : Nat) : mMet mP mTx (d + 1) 178 [.int a0] (mSS M) (some (.int (Mo_isDigit a0 M))) (mSS M) := by
  refine mMet_i ⟨Nat.le_refl _, Nat.le_refl _, Nat.le_of_ble_eq_true rfl⟩ ?_
  generalize h : Mo_isDigit a0 M = r
  unfold Mo_isDigit at h
  show mRunF (mCd 178) (mEE (mMet mP mTx (d + 0)) (some .boolean) (some (.int r)) M) (0, [some (.int a0)], [], mSS M)
  refine mRunF.sg (mSl mk_178 0 2) (g := (3, [some (.int a0)], [.int 48, .int a0], mSS M)) (by decide +kernel) rfl ?_
  refine R_ilt (t := 16) ⟨13, by decide +kernel⟩ (fun q => ?_) (fun q => ?_)
  · rw [if_pos q] at h
    refine mRunF.sg (mSl mk_178 8 1) (g := (17, [some (.int a0)], [.int 0], mSS M)) (by decide +kernel) rfl ?_
    subst h
    exact R_zret (by decide +kernel) (Or.inl rfl)
  · rw [if_neg q] at h
    refine mRunF.sg (mSl mk_178 3 2) (g := (9, [some (.int a0)], [.int 57, .int a0], mSS M)) (by decide +kernel) rfl ?_
    refine R_igt (t := 16) ⟨7, by decide +kernel⟩ (fun q => ?_) (fun q => ?_)
    · rw [if_pos q] at h
      refine mRunF.sg (mSl mk_178 8 1) (g := (17, [some (.int a0)], [.int 0], mSS M)) (by decide +kernel) rfl ?_
      subst h
      exact R_zret (by decide +kernel) (Or.inl rfl)
    · rw [if_neg q] at h
      refine mRunF.sg (mSl mk_178 6 2) (g := (17, [some (.int a0)], [.int 1], mSS M)) (by decide +kernel) rfl ?_
      subst h
      exact R_zret (by decide +kernel) (Or.inr rfl)
set_option maxRecDepth 100000 in
set_option maxHeartbeats 4000000 in
theorem Mo_token_r (N : Nat) (a0 : Int32) (a1 : Int32) (a2 : Int32) (a3 : Int64) (M : mS) {M' : mS} (d : Nat) (h : Mo_token N a0 a1 a2 a3 M = some M') : mMet mP mTx (d + 1) 182 [.ref 64, .int a0, .int a1, .int a2, .long a3] (mSS M) none (mSS M') := by
  refine mMet_i ⟨Nat.le_refl _, Nat.le_refl _, Nat.le_of_ble_eq_true rfl⟩ ?_
  unfold Mo_token at h
  show mRunF (mCd 182) (mEE (mMet mP mTx (d + 0)) (none) none M') (0, [some (.ref 64), some (.int a0), some (.int a1), some (.int a2), some (.long a3), none], [], mSS M)
  refine mRunF.sg (mSl mk_182 0 5) (g := (9, [some (.ref 64), some (.int a0), some (.int a1), some (.int a2), some (.long a3), none], [.int a0, .int (M.1 64 10), .ref 67], mSS M)) (by decide +kernel) rfl ?_
  obtain ⟨g1, h⟩ := grd_of h
  refine R_iast (by decide +kernel) rfl g1 ?_
  obtain ⟨M2, hv, h⟩ := nxt_ex h
  rw [← hv]
  clear hv
  refine mRunF.sg (mSl mk_182 6 5) (g := (19, [some (.ref 64), some (.int a0), some (.int a1), some (.int a2), some (.long a3), none], [.int a1, .int (M2.1 64 10), .ref 68], mSS M2)) (by decide +kernel) rfl ?_
  obtain ⟨g3, h⟩ := grd_of h
  refine R_iast (by decide +kernel) rfl g3 ?_
  obtain ⟨M4, hv, h⟩ := nxt_ex h
  rw [← hv]
  clear hv
  refine mRunF.sg (mSl mk_182 12 5) (g := (29, [some (.ref 64), some (.int a0), some (.int a1), some (.int a2), some (.long a3), none], [.int a2, .int (M4.1 64 10), .ref 69], mSS M4)) (by decide +kernel) rfl ?_
  obtain ⟨g5, h⟩ := grd_of h
  refine R_iast (by decide +kernel) rfl g5 ?_
  obtain ⟨M6, hv, h⟩ := nxt_ex h
  rw [← hv]
  clear hv
  refine mRunF.sg (mSl mk_182 18 5) (g := (40, [some (.ref 64), some (.int a0), some (.int a1), some (.int a2), some (.long a3), none], [.long a3, .int (M6.1 64 10), .ref 70], mSS M6)) (by decide +kernel) rfl ?_
  obtain ⟨g7, h⟩ := grd_of h
  refine R_last (by decide +kernel) rfl g7 ?_
  obtain ⟨M8, hv, h⟩ := nxt_ex h
  rw [← hv]
  clear hv
  refine mRunF.sg (mSl mk_182 24 6) (g := (51, [some (.ref 64), some (.int a0), some (.int a1), some (.int a2), some (.long a3), none], [], mSS (mWI M8 64 10 ((M8.1 64 10) + 1)))) (by decide +kernel) rfl ?_
  obtain ⟨M9, hv, h⟩ := nxt_ex h
  rw [← hv]
  clear hv
  cases h
  exact R_vret (by decide +kernel)
set_option maxRecDepth 100000 in
set_option maxHeartbeats 4000000 in
theorem Mo_sign_95_r {N d : Nat}  {M : mS} {x1 : Int32} {x4 : Int32} {r : Int32} {M' : mS} (h : Mo_sign_95 N x1 x4 M = some (r, M')) : mRunF (mCd 184) (mEE (mMet mP mTx (d + 1)) (some .int) (some (.int r)) M') (95, [some (.ref 64), some (.int x1), none, none, some (.int x4)], [], mSS M) := by
  unfold Mo_sign_95 at h
  refine mRunF.sg (mSl mk_184 47 5) (g := (101, [some (.ref 64), some (.int x1), none, none, some (.int x4)], [.long 0, .int 0, .int x1, .int x4, .ref 64], mSS M)) (by decide +kernel) rfl ?_
  obtain ⟨M2, q1, h⟩ := bV_of h
  refine R_callV (mi := 182) (na := 5) (ci := 12) (i := 64) (as := [.int x4, .int x1, .int 0, .long 0]) (r := []) (rv := none) (σ1 := mSS M2) ⟨194, by decide +kernel⟩ rfl rfl rfl rfl (Mo_token_r N x4 x1 0 0 M (d + 0) q1) ?_
  show mRunF _ _ (104, [some (.ref 64), some (.int x1), none, none, some (.int x4)], [], mSS M2)
  refine mRunF.sg (mSl mk_184 53 1) (g := (105, [some (.ref 64), some (.int x1), none, none, some (.int x4)], [.int 1], mSS M2)) (by decide +kernel) rfl ?_
  cases h
  exact R_iret (by decide +kernel)
set_option maxRecDepth 100000 in
set_option maxHeartbeats 4000000 in
theorem Mo_sign_85_r {N d : Nat}  {M : mS} {x1 : Int32} {x2 : Int32} {x4 : Int32} {r : Int32} {M' : mS} (h : Mo_sign_85 N x1 x2 x4 M = some (r, M')) : mRunF (mCd 184) (mEE (mMet mP mTx (d + 1)) (some .int) (some (.int r)) M') (85, [some (.ref 64), some (.int x1), some (.int x2), none, some (.int x4)], [], mSS M) := by
  unfold Mo_sign_85 at h
  refine mRunF.sg (mSl mk_184 42 2) (g := (88, [some (.ref 64), some (.int x1), some (.int x2), none, some (.int x4)], [.int 60, .int x2], mSS M)) (by decide +kernel) rfl ?_
  refine R_ine (t := 95) ⟨7, by decide +kernel⟩ (fun q => ?_) (fun q => ?_)
  · rw [if_pos q] at h
    refine mRunF.sg (mSl mk_184 45 2) (g := (95, [some (.ref 64), some (.int x1), some (.int x2), none, some (.int 13)], [], mSS M)) (by decide +kernel) rfl ?_
    refine mRunF.forget [true, true, false, true, true] ?_
    exact Mo_sign_95_r h
  · rw [if_neg q] at h
    refine mRunF.forget [true, true, false, true, true] ?_
    exact Mo_sign_95_r h
set_option maxRecDepth 100000 in
set_option maxHeartbeats 4000000 in
theorem Mo_sign_75_r {N d : Nat}  {M : mS} {x1 : Int32} {x2 : Int32} {x4 : Int32} {r : Int32} {M' : mS} (h : Mo_sign_75 N x1 x2 x4 M = some (r, M')) : mRunF (mCd 184) (mEE (mMet mP mTx (d + 1)) (some .int) (some (.int r)) M') (75, [some (.ref 64), some (.int x1), some (.int x2), none, some (.int x4)], [], mSS M) := by
  unfold Mo_sign_75 at h
  refine mRunF.sg (mSl mk_184 37 2) (g := (78, [some (.ref 64), some (.int x1), some (.int x2), none, some (.int x4)], [.int 47, .int x2], mSS M)) (by decide +kernel) rfl ?_
  refine R_ine (t := 85) ⟨7, by decide +kernel⟩ (fun q => ?_) (fun q => ?_)
  · rw [if_pos q] at h
    refine mRunF.sg (mSl mk_184 40 2) (g := (85, [some (.ref 64), some (.int x1), some (.int x2), none, some (.int 15)], [], mSS M)) (by decide +kernel) rfl ?_
    exact Mo_sign_85_r h
  · rw [if_neg q] at h
    exact Mo_sign_85_r h
set_option maxRecDepth 100000 in
set_option maxHeartbeats 4000000 in
theorem Mo_sign_65_r {N d : Nat}  {M : mS} {x1 : Int32} {x2 : Int32} {x4 : Int32} {r : Int32} {M' : mS} (h : Mo_sign_65 N x1 x2 x4 M = some (r, M')) : mRunF (mCd 184) (mEE (mMet mP mTx (d + 1)) (some .int) (some (.int r)) M') (65, [some (.ref 64), some (.int x1), some (.int x2), none, some (.int x4)], [], mSS M) := by
  unfold Mo_sign_65 at h
  refine mRunF.sg (mSl mk_184 32 2) (g := (68, [some (.ref 64), some (.int x1), some (.int x2), none, some (.int x4)], [.int 42, .int x2], mSS M)) (by decide +kernel) rfl ?_
  refine R_ine (t := 75) ⟨7, by decide +kernel⟩ (fun q => ?_) (fun q => ?_)
  · rw [if_pos q] at h
    refine mRunF.sg (mSl mk_184 35 2) (g := (75, [some (.ref 64), some (.int x1), some (.int x2), none, some (.int 10)], [], mSS M)) (by decide +kernel) rfl ?_
    exact Mo_sign_75_r h
  · rw [if_neg q] at h
    exact Mo_sign_75_r h
set_option maxRecDepth 100000 in
set_option maxHeartbeats 4000000 in
theorem Mo_sign_55_r {N d : Nat}  {M : mS} {x1 : Int32} {x2 : Int32} {x4 : Int32} {r : Int32} {M' : mS} (h : Mo_sign_55 N x1 x2 x4 M = some (r, M')) : mRunF (mCd 184) (mEE (mMet mP mTx (d + 1)) (some .int) (some (.int r)) M') (55, [some (.ref 64), some (.int x1), some (.int x2), none, some (.int x4)], [], mSS M) := by
  unfold Mo_sign_55 at h
  refine mRunF.sg (mSl mk_184 27 2) (g := (58, [some (.ref 64), some (.int x1), some (.int x2), none, some (.int x4)], [.int 45, .int x2], mSS M)) (by decide +kernel) rfl ?_
  refine R_ine (t := 65) ⟨7, by decide +kernel⟩ (fun q => ?_) (fun q => ?_)
  · rw [if_pos q] at h
    refine mRunF.sg (mSl mk_184 30 2) (g := (65, [some (.ref 64), some (.int x1), some (.int x2), none, some (.int 9)], [], mSS M)) (by decide +kernel) rfl ?_
    exact Mo_sign_65_r h
  · rw [if_neg q] at h
    exact Mo_sign_65_r h
set_option maxRecDepth 100000 in
set_option maxHeartbeats 4000000 in
theorem Mo_sign_43_r {N d : Nat}  {M : mS} {x1 : Int32} {x2 : Int32} {z0 : Int32} {r : Int32} {M' : mS} (h : Mo_sign_43 N x1 x2 z0 M = some (r, M')) : mRunF (mCd 184) (mEE (mMet mP mTx (d + 1)) (some .int) (some (.int r)) M') (43, [some (.ref 64), some (.int x1), some (.int x2), none, none], [.int z0], mSS M) := by
  unfold Mo_sign_43 at h
  refine mRunF.sg (mSl mk_184 21 3) (g := (48, [some (.ref 64), some (.int x1), some (.int x2), none, some (.int z0)], [.int 43, .int x2], mSS M)) (by decide +kernel) rfl ?_
  refine R_ine (t := 55) ⟨7, by decide +kernel⟩ (fun q => ?_) (fun q => ?_)
  · rw [if_pos q] at h
    refine mRunF.sg (mSl mk_184 25 2) (g := (55, [some (.ref 64), some (.int x1), some (.int x2), none, some (.int 8)], [], mSS M)) (by decide +kernel) rfl ?_
    exact Mo_sign_55_r h
  · rw [if_neg q] at h
    exact Mo_sign_55_r h
set_option maxRecDepth 100000 in
set_option maxHeartbeats 4000000 in
theorem Mo_sign_r (N : Nat) (a0 : Int32) (a1 : Int32) (a2 : Int32) (M : mS) {r : Int32} {M' : mS} (d : Nat) (h : Mo_sign N a0 a1 a2 M = some (r, M')) : mMet mP mTx (d + 2) 184 [.ref 64, .int a0, .int a1, .int a2] (mSS M) (some (.int r)) (mSS M') := by
  refine mMet_i ⟨Nat.le_refl _, Nat.le_refl _, Nat.le_of_ble_eq_true rfl⟩ ?_
  unfold Mo_sign at h
  show mRunF (mCd 184) (mEE (mMet mP mTx (d + 1)) (some .int) (some (.int r)) M') (0, [some (.ref 64), some (.int a0), some (.int a1), some (.int a2), none], [], mSS M)
  refine mRunF.sg (mSl mk_184 0 2) (g := (3, [some (.ref 64), some (.int a0), some (.int a1), some (.int a2), none], [.int 59, .int a1], mSS M)) (by decide +kernel) rfl ?_
  refine R_ine (t := 10) ⟨7, by decide +kernel⟩ (fun q => ?_) (fun q => ?_)
  · rw [if_pos q] at h
    refine mRunF.sg (mSl mk_184 3 2) (g := (43, [some (.ref 64), some (.int a0), some (.int a1), some (.int a2), none], [.int 4], mSS M)) (by decide +kernel) rfl ?_
    refine mRunF.forget [true, true, true, false, true] ?_
    exact Mo_sign_43_r h
  · rw [if_neg q] at h
    refine mRunF.sg (mSl mk_184 5 2) (g := (13, [some (.ref 64), some (.int a0), some (.int a1), some (.int a2), none], [.int 61, .int a1], mSS M)) (by decide +kernel) rfl ?_
    refine R_ine (t := 20) ⟨7, by decide +kernel⟩ (fun q => ?_) (fun q => ?_)
    · rw [if_pos q] at h
      refine mRunF.sg (mSl mk_184 8 2) (g := (43, [some (.ref 64), some (.int a0), some (.int a1), some (.int a2), none], [.int 5], mSS M)) (by decide +kernel) rfl ?_
      refine mRunF.forget [true, true, true, false, true] ?_
      exact Mo_sign_43_r h
    · rw [if_neg q] at h
      refine mRunF.sg (mSl mk_184 10 2) (g := (23, [some (.ref 64), some (.int a0), some (.int a1), some (.int a2), none], [.int 40, .int a1], mSS M)) (by decide +kernel) rfl ?_
      refine R_ine (t := 31) ⟨8, by decide +kernel⟩ (fun q => ?_) (fun q => ?_)
      · rw [if_pos q] at h
        refine mRunF.sg (mSl mk_184 13 2) (g := (43, [some (.ref 64), some (.int a0), some (.int a1), some (.int a2), none], [.int 6], mSS M)) (by decide +kernel) rfl ?_
        refine mRunF.forget [true, true, true, false, true] ?_
        exact Mo_sign_43_r h
      · rw [if_neg q] at h
        refine mRunF.sg (mSl mk_184 15 2) (g := (34, [some (.ref 64), some (.int a0), some (.int a1), some (.int a2), none], [.int 41, .int a1], mSS M)) (by decide +kernel) rfl ?_
        refine R_ine (t := 42) ⟨8, by decide +kernel⟩ (fun q => ?_) (fun q => ?_)
        · rw [if_pos q] at h
          refine mRunF.sg (mSl mk_184 18 2) (g := (43, [some (.ref 64), some (.int a0), some (.int a1), some (.int a2), none], [.int 7], mSS M)) (by decide +kernel) rfl ?_
          refine mRunF.forget [true, true, true, false, true] ?_
          exact Mo_sign_43_r h
        · rw [if_neg q] at h
          refine mRunF.sg (mSl mk_184 20 1) (g := (43, [some (.ref 64), some (.int a0), some (.int a1), some (.int a2), none], [.int 3], mSS M)) (by decide +kernel) rfl ?_
          refine mRunF.forget [true, true, true, false, true] ?_
          exact Mo_sign_43_r h
set_option maxRecDepth 100000 in
set_option maxHeartbeats 4000000 in
theorem Mo_appends_r (a0 : Int64) (a1 : Int32) (M : mS) (d : Nat) : mMet mP mTx (d + 1) 180 [.long a0, .int a1] (mSS M) (some (.long (Mo_appends a0 a1 M))) (mSS M) := by
  refine mMet_i ⟨Nat.le_refl _, Nat.le_refl _, Nat.le_of_ble_eq_true rfl⟩ ?_
  generalize h : Mo_appends a0 a1 M = r
  unfold Mo_appends at h
  show mRunF (mCd 180) (mEE (mMet mP mTx (d + 0)) (some .long) (some (.long r)) M) (0, [some (.long a0), none, some (.int a1)], [], mSS M)
  refine mRunF.sg (mSl mk_180 0 1) (g := (1, [some (.long a0), none, some (.int a1)], [.int a1], mSS M)) (by decide +kernel) rfl ?_
  refine R_ne (t := 8) ⟨7, by decide +kernel⟩ (fun q => ?_) (fun q => ?_)
  · rw [if_pos q] at h
    refine mRunF.sg (mSl mk_180 2 2) (g := (21, [some (.long a0), none, some (.int a1)], [.long a0], mSS M)) (by decide +kernel) rfl ?_
    subst h
    exact R_lret (by decide +kernel)
  · rw [if_neg q] at h
    refine mRunF.sg (mSl mk_180 4 10) (g := (21, [some (.long a0), none, some (.int a1)], [.long ((27 * a0) + (((a1 - 97) + 1).toInt64))], mSS M)) (by decide +kernel) rfl ?_
    subst h
    exact R_lret (by decide +kernel)
set_option maxRecDepth 100000 in
set_option maxHeartbeats 4000000 in
theorem Mo_cut_291_r {N d : Nat} {k7 : Int32 → mS → Option mS} {M : mS} {x1 : Int32} {M' : mS} (hk7 : ∀ (x1 : Int32) (M : mS), k7 x1 M = some M' → mRunF (mCd 183) (mEE (mMet mP mTx (d + 2)) (none) none M') (7, [some (.ref 64), some (.int x1), none, none, none, none, none, none], [], mSS M)) (h : Mo_cut_291 N k7 x1 M = some M') : mRunF (mCd 183) (mEE (mMet mP mTx (d + 2)) (none) none M') (291, [some (.ref 64), some (.int x1), none, none, none, none, none, none], [], mSS M) := by
  unfold Mo_cut_291 at h
  refine mRunF.sg (mSl mk_183 164 1) (g := (7, [some (.ref 64), some (.int x1), none, none, none, none, none, none], [], mSS M)) (by decide +kernel) rfl ?_
  exact hk7 _ _ h
set_option maxRecDepth 100000 in
set_option maxHeartbeats 4000000 in
theorem Mo_cut_67_r {N d : Nat} {k7 : Int32 → mS → Option mS} {M : mS} {x1 : Int32} {M' : mS} (hk7 : ∀ (x1 : Int32) (M : mS), k7 x1 M = some M' → mRunF (mCd 183) (mEE (mMet mP mTx (d + 2)) (none) none M') (7, [some (.ref 64), some (.int x1), none, none, none, none, none, none], [], mSS M)) (h : Mo_cut_67 N k7 x1 M = some M') : mRunF (mCd 183) (mEE (mMet mP mTx (d + 2)) (none) none M') (67, [some (.ref 64), some (.int x1), none, none, none, none, none, none], [], mSS M) := by
  unfold Mo_cut_67 at h
  refine mRunF.sg (mSl mk_183 37 2) (g := (291, [some (.ref 64), some (.int (x1 + 1)), none, none, none, none, none, none], [], mSS M)) (by decide +kernel) rfl ?_
  exact Mo_cut_291_r hk7 h
set_option maxRecDepth 100000 in
set_option maxHeartbeats 4000000 in
theorem Mo_cut_118_r {N d : Nat} {k7 : Int32 → mS → Option mS} {k85 : Int32 → Int32 → Int64 → mS → Option mS} {M : mS} {x1 : Int32} {x3 : Int32} {x4 : Int64} {M' : mS} (hk7 : ∀ (x1 : Int32) (M : mS), k7 x1 M = some M' → mRunF (mCd 183) (mEE (mMet mP mTx (d + 2)) (none) none M') (7, [some (.ref 64), some (.int x1), none, none, none, none, none, none], [], mSS M)) (hk85 : ∀ (x1 : Int32) (x3 : Int32) (x4 : Int64) (M : mS), k85 x1 x3 x4 M = some M' → mRunF (mCd 183) (mEE (mMet mP mTx (d + 2)) (none) none M') (85, [some (.ref 64), some (.int x1), none, some (.int x3), some (.long x4), none, none, none], [], mSS M)) (h : Mo_cut_118 N k7 k85 x1 x3 x4 M = some M') : mRunF (mCd 183) (mEE (mMet mP mTx (d + 2)) (none) none M') (118, [some (.ref 64), some (.int x1), none, some (.int x3), some (.long x4), none, none, none], [], mSS M) := by
  unfold Mo_cut_118 at h
  refine mRunF.sg (mSl mk_183 64 2) (g := (85, [some (.ref 64), some (.int x1), none, some (.int (x3 + 1)), some (.long x4), none, none, none], [], mSS M)) (by decide +kernel) rfl ?_
  exact hk85 _ _ _ _ h
set_option maxRecDepth 100000 in
set_option maxHeartbeats 4000000 in
theorem Mo_cut_173_r {N d : Nat} {k7 : Int32 → mS → Option mS} {k146 : Int32 → Int32 → Int64 → Int32 → Int32 → mS → Option mS} {M : mS} {x1 : Int32} {x3 : Int32} {x4 : Int64} {x6 : Int32} {x7 : Int32} {M' : mS} (hk7 : ∀ (x1 : Int32) (M : mS), k7 x1 M = some M' → mRunF (mCd 183) (mEE (mMet mP mTx (d + 2)) (none) none M') (7, [some (.ref 64), some (.int x1), none, none, none, none, none, none], [], mSS M)) (hk146 : ∀ (x1 : Int32) (x3 : Int32) (x4 : Int64) (x6 : Int32) (x7 : Int32) (M : mS), k146 x1 x3 x4 x6 x7 M = some M' → mRunF (mCd 183) (mEE (mMet mP mTx (d + 2)) (none) none M') (146, [some (.ref 64), some (.int x1), none, some (.int x3), some (.long x4), none, some (.int x6), some (.int x7)], [], mSS M)) (h : Mo_cut_173 N k7 k146 x1 x3 x4 x6 x7 M = some M') : mRunF (mCd 183) (mEE (mMet mP mTx (d + 2)) (none) none M') (173, [some (.ref 64), some (.int x1), none, some (.int x3), some (.long x4), none, some (.int x6), some (.int x7)], [], mSS M) := by
  unfold Mo_cut_173 at h
  refine mRunF.sg (mSl mk_183 92 2) (g := (146, [some (.ref 64), some (.int x1), none, some (.int x3), some (.long x4), none, some (.int x6), some (.int (x7 + 1))], [], mSS M)) (by decide +kernel) rfl ?_
  exact hk146 _ _ _ _ _ _ h
set_option maxRecDepth 100000 in
set_option maxHeartbeats 4000000 in
theorem Mo_cut_179_r {N d : Nat} {k7 : Int32 → mS → Option mS} {M : mS} {x1 : Int32} {x3 : Int32} {x4 : Int64} {x6 : Int32} {M' : mS} (hk7 : ∀ (x1 : Int32) (M : mS), k7 x1 M = some M' → mRunF (mCd 183) (mEE (mMet mP mTx (d + 2)) (none) none M') (7, [some (.ref 64), some (.int x1), none, none, none, none, none, none], [], mSS M)) (h : Mo_cut_179 N k7 x1 x3 x4 x6 M = some M') : mRunF (mCd 183) (mEE (mMet mP mTx (d + 2)) (none) none M') (179, [some (.ref 64), some (.int x1), none, some (.int x3), some (.long x4), none, some (.int x6), none], [], mSS M) := by
  unfold Mo_cut_179 at h
  refine mRunF.sg (mSl mk_183 94 5) (g := (186, [some (.ref 64), some (.int x1), none, some (.int x3), some (.long x4), none, some (.int x6), none], [.long x4, .int 0, .int x1, .int x6, .ref 64], mSS M)) (by decide +kernel) rfl ?_
  obtain ⟨M2, q1, h⟩ := bV_of h
  refine R_callV (mi := 182) (na := 5) (ci := 12) (i := 64) (as := [.int x6, .int x1, .int 0, .long x4]) (r := []) (rv := none) (σ1 := mSS M2) ⟨194, by decide +kernel⟩ rfl rfl rfl rfl (Mo_token_r N x6 x1 0 x4 M (d + 1) q1) ?_
  show mRunF _ _ (189, [some (.ref 64), some (.int x1), none, some (.int x3), some (.long x4), none, some (.int x6), none], [], mSS M2)
  refine mRunF.sg (mSl mk_183 100 4) (g := (193, [some (.ref 64), some (.int (x1 + x3)), none, some (.int x3), some (.long x4), none, some (.int x6), none], [], mSS M2)) (by decide +kernel) rfl ?_
  obtain ⟨v3, hv, h⟩ := nxt_ex h
  rw [← hv]
  clear hv
  refine mRunF.sg (mSl mk_183 104 1) (g := (291, [some (.ref 64), some (.int v3), none, some (.int x3), some (.long x4), none, some (.int x6), none], [], mSS M2)) (by decide +kernel) rfl ?_
  refine mRunF.forget [true, true, true, false, false, true, false, true] ?_
  exact Mo_cut_291_r hk7 h
set_option maxRecDepth 100000 in
set_option maxHeartbeats 4000000 in
theorem Mo_cut_146_r {N d : Nat} {k7 : Int32 → mS → Option mS}  {M' : mS} (hk7 : ∀ (x1 : Int32) (M : mS), k7 x1 M = some M' → mRunF (mCd 183) (mEE (mMet mP mTx (d + 2)) (none) none M') (7, [some (.ref 64), some (.int x1), none, none, none, none, none, none], [], mSS M)) : ∀ {n : Nat} {x1 : Int32} {x3 : Int32} {x4 : Int64} {x6 : Int32} {x7 : Int32} {M : mS}, Mo_cut_146 N k7 n x1 x3 x4 x6 x7 M = some M' → mRunF (mCd 183) (mEE (mMet mP mTx (d + 2)) (none) none M') (146, [some (.ref 64), some (.int x1), none, some (.int x3), some (.long x4), none, some (.int x6), some (.int x7)], [], mSS M) := by
  intro n
  induction n with
  | zero => intro x1 x3 x4 x6 x7 M h; cases h
  | succ n ih =>
    replace ih := @ih
    intro x1 x3 x4 x6 x7 M h
    unfold Mo_cut_146 at h
    refine mRunF.sg (mSl mk_183 78 2) (g := (150, [some (.ref 64), some (.int x1), none, some (.int x3), some (.long x4), none, some (.int x6), some (.int x7)], [.int 20, .int x7], mSS M)) (by decide +kernel) rfl ?_
    refine R_ige (t := 179) ⟨29, by decide +kernel⟩ (fun q => ?_) (fun q => ?_)
    · rw [if_pos q] at h
      refine mRunF.forget [true, true, true, true, true, true, true, false] ?_
      exact Mo_cut_179_r hk7 h
    · rw [if_neg q] at h
      refine mRunF.sg (mSl mk_183 81 3) (g := (159, [some (.ref 64), some (.int x1), none, some (.int x3), some (.long x4), none, some (.int x6), some (.int x7)], [.int x7, .ref 71], mSS M)) (by decide +kernel) rfl ?_
      obtain ⟨g4, h⟩ := grd_of h
      refine R_lald (by decide +kernel) rfl g4 ?_
      refine mRunF.sg (mSl mk_183 85 2) (g := (163, [some (.ref 64), some (.int x1), none, some (.int x3), some (.long x4), none, some (.int x6), some (.int x7)], [.int (lg_cmp (M.2 71 x7.toNatClampNeg) x4)], mSS M)) (by decide +kernel) rfl ?_
      refine R_ne (t := 173) ⟨10, by decide +kernel⟩ (fun q => ?_) (fun q => ?_)
      · rw [if_pos q] at h
        refine mRunF.sg (mSl mk_183 88 4) (g := (173, [some (.ref 64), some (.int x1), none, some (.int x3), some (.long x4), none, some (.int (20 + x7)), some (.int x7)], [], mSS M)) (by decide +kernel) rfl ?_
        obtain ⟨v5, hv, h⟩ := nxt_ex h
        rw [← hv]
        clear hv
        exact Mo_cut_173_r hk7 (fun y0 y1 y2 y3 y4 y5 hh => @ih y0 y1 y2 y3 y4 y5 hh) h
      · rw [if_neg q] at h
        exact Mo_cut_173_r hk7 (fun y0 y1 y2 y3 y4 y5 hh => @ih y0 y1 y2 y3 y4 y5 hh) h
set_option maxRecDepth 100000 in
set_option maxHeartbeats 4000000 in
theorem Mo_cut_135_r {N d : Nat} {k7 : Int32 → mS → Option mS} {M : mS} {x1 : Int32} {x3 : Int32} {x4 : Int64} {z0 : Int32} {M' : mS} (hk7 : ∀ (x1 : Int32) (M : mS), k7 x1 M = some M' → mRunF (mCd 183) (mEE (mMet mP mTx (d + 2)) (none) none M') (7, [some (.ref 64), some (.int x1), none, none, none, none, none, none], [], mSS M)) (h : Mo_cut_135 N k7 x1 x3 x4 z0 M = some M') : mRunF (mCd 183) (mEE (mMet mP mTx (d + 2)) (none) none M') (135, [some (.ref 64), some (.int x1), none, some (.int x3), some (.long x4), none, none, none], [.int z0], mSS M) := by
  unfold Mo_cut_135 at h
  refine mRunF.sg (mSl mk_183 72 3) (g := (140, [some (.ref 64), some (.int x1), none, some (.int x3), some (.long x4), none, some (.int z0), none], [.int 8, .int x3], mSS M)) (by decide +kernel) rfl ?_
  refine R_igt (t := 179) ⟨39, by decide +kernel⟩ (fun q => ?_) (fun q => ?_)
  · rw [if_pos q] at h
    exact Mo_cut_179_r hk7 h
  · rw [if_neg q] at h
    refine mRunF.sg (mSl mk_183 76 2) (g := (146, [some (.ref 64), some (.int x1), none, some (.int x3), some (.long x4), none, some (.int z0), some (.int 0)], [], mSS M)) (by decide +kernel) rfl ?_
    exact Mo_cut_146_r hk7 h
set_option maxRecDepth 100000 in
set_option maxHeartbeats 4000000 in
theorem Mo_cut_85_r {N d : Nat} {k7 : Int32 → mS → Option mS}  {M' : mS} (hk7 : ∀ (x1 : Int32) (M : mS), k7 x1 M = some M' → mRunF (mCd 183) (mEE (mMet mP mTx (d + 2)) (none) none M') (7, [some (.ref 64), some (.int x1), none, none, none, none, none, none], [], mSS M)) : ∀ {n : Nat} {x1 : Int32} {x3 : Int32} {x4 : Int64} {M : mS}, Mo_cut_85 N k7 n x1 x3 x4 M = some M' → mRunF (mCd 183) (mEE (mMet mP mTx (d + 2)) (none) none M') (85, [some (.ref 64), some (.int x1), none, some (.int x3), some (.long x4), none, none, none], [], mSS M) := by
  intro n
  induction n with
  | zero => intro x1 x3 x4 M h; cases h
  | succ n ih =>
    replace ih := @ih
    intro x1 x3 x4 M h
    unfold Mo_cut_85 at h
    refine mRunF.sg (mSl mk_183 46 4) (g := (89, [some (.ref 64), some (.int x1), none, some (.int x3), some (.long x4), none, none, none], [.int (x1 + x3), .ref 64], mSS M)) (by decide +kernel) rfl ?_
    obtain ⟨r7, q6, h⟩ := bR_of h
    refine R_callV (mi := 177) (na := 2) (ci := 12) (i := 64) (as := [.int (x1 + x3)]) (r := []) (rv := some (.int r7)) (σ1 := mSS M) ⟨190, by decide +kernel⟩ rfl rfl rfl rfl (Mo_byteAt_r N (x1 + x3) M (d + 1) q6) ?_
    show mRunF _ _ (92, [some (.ref 64), some (.int x1), none, some (.int x3), some (.long x4), none, none, none], [.int r7], mSS M)
    refine R_callS (mi := 179) (na := 1) (as := [.int r7]) (r := []) (rv := some (.int (Mo_isLetter r7 M))) (σ1 := mSS M) ⟨198, by decide +kernel⟩ rfl rfl rfl (Mo_isLetter_r r7 M (d + 1)) ?_
    have b8 := mBool rfl (Mo_isLetter_r r7 M (d + 1))
    show mRunF _ _ (95, [some (.ref 64), some (.int x1), none, some (.int x3), some (.long x4), none, none, none], [.int (Mo_isLetter r7 M)], mSS M)
    refine R_eq (t := 124) ⟨29, by decide +kernel⟩ (fun q => ?_) (fun q => ?_)
    · rw [if_pos q] at h
      refine mRunF.sg (mSl mk_183 66 2) (g := (127, [some (.ref 64), some (.int x1), none, some (.int x3), some (.long x4), none, none, none], [.int 8, .int x3], mSS M)) (by decide +kernel) rfl ?_
      refine R_ile (t := 134) ⟨7, by decide +kernel⟩ (fun q => ?_) (fun q => ?_)
      · rw [if_pos q] at h
        refine mRunF.sg (mSl mk_183 71 1) (g := (135, [some (.ref 64), some (.int x1), none, some (.int x3), some (.long x4), none, none, none], [.int 1], mSS M)) (by decide +kernel) rfl ?_
        exact Mo_cut_135_r hk7 h
      · rw [if_neg q] at h
        refine mRunF.sg (mSl mk_183 69 2) (g := (135, [some (.ref 64), some (.int x1), none, some (.int x3), some (.long x4), none, none, none], [.int 3], mSS M)) (by decide +kernel) rfl ?_
        exact Mo_cut_135_r hk7 h
    · rw [if_neg q] at h
      refine mRunF.sg (mSl mk_183 53 2) (g := (101, [some (.ref 64), some (.int x1), none, some (.int x3), some (.long x4), none, none, none], [.int 8, .int x3], mSS M)) (by decide +kernel) rfl ?_
      refine R_ige (t := 118) ⟨17, by decide +kernel⟩ (fun q => ?_) (fun q => ?_)
      · rw [if_pos q] at h
        exact Mo_cut_118_r hk7 (fun y0 y1 y2 y3 hh => @ih y0 y1 y2 y3 hh) h
      · rw [if_neg q] at h
        refine mRunF.sg (mSl mk_183 56 5) (g := (110, [some (.ref 64), some (.int x1), none, some (.int x3), some (.long x4), none, none, none], [.int (x1 + x3), .ref 64, .long x4], mSS M)) (by decide +kernel) rfl ?_
        obtain ⟨r10, q9, h⟩ := bR_of h
        refine R_callV (mi := 177) (na := 2) (ci := 12) (i := 64) (as := [.int (x1 + x3)]) (r := [.long x4]) (rv := some (.int r10)) (σ1 := mSS M) ⟨190, by decide +kernel⟩ rfl rfl rfl rfl (Mo_byteAt_r N (x1 + x3) M (d + 1) q9) ?_
        show mRunF _ _ (113, [some (.ref 64), some (.int x1), none, some (.int x3), some (.long x4), none, none, none], [.int r10, .long x4], mSS M)
        refine R_callS (mi := 180) (na := 2) (as := [.long x4, .int r10]) (r := []) (rv := some (.long (Mo_appends x4 r10 M))) (σ1 := mSS M) ⟨183, by decide +kernel⟩ rfl rfl rfl (Mo_appends_r x4 r10 M (d + 1)) ?_
        show mRunF _ _ (116, [some (.ref 64), some (.int x1), none, some (.int x3), some (.long x4), none, none, none], [.long (Mo_appends x4 r10 M)], mSS M)
        refine mRunF.sg (mSl mk_183 63 1) (g := (118, [some (.ref 64), some (.int x1), none, some (.int x3), some (.long (Mo_appends x4 r10 M)), none, none, none], [], mSS M)) (by decide +kernel) rfl ?_
        obtain ⟨v11, hv, h⟩ := nxt_ex h
        rw [← hv]
        clear hv
        exact Mo_cut_118_r hk7 (fun y0 y1 y2 y3 hh => @ih y0 y1 y2 y3 hh) h
set_option maxRecDepth 100000 in
set_option maxHeartbeats 4000000 in
theorem Mo_cut_244_r {N d : Nat} {k7 : Int32 → mS → Option mS} {k208 : Int32 → Int32 → Int32 → mS → Option mS} {M : mS} {x1 : Int32} {x3 : Int32} {x4 : Int32} {M' : mS} (hk7 : ∀ (x1 : Int32) (M : mS), k7 x1 M = some M' → mRunF (mCd 183) (mEE (mMet mP mTx (d + 2)) (none) none M') (7, [some (.ref 64), some (.int x1), none, none, none, none, none, none], [], mSS M)) (hk208 : ∀ (x1 : Int32) (x3 : Int32) (x4 : Int32) (M : mS), k208 x1 x3 x4 M = some M' → mRunF (mCd 183) (mEE (mMet mP mTx (d + 2)) (none) none M') (208, [some (.ref 64), some (.int x1), none, some (.int x3), some (.int x4), none, none, none], [], mSS M)) (h : Mo_cut_244 N k7 k208 x1 x3 x4 M = some M') : mRunF (mCd 183) (mEE (mMet mP mTx (d + 2)) (none) none M') (244, [some (.ref 64), some (.int x1), none, some (.int x3), some (.int x4), none, none, none], [], mSS M) := by
  unfold Mo_cut_244 at h
  refine mRunF.sg (mSl mk_183 134 2) (g := (208, [some (.ref 64), some (.int x1), none, some (.int (x3 + 1)), some (.int x4), none, none, none], [], mSS M)) (by decide +kernel) rfl ?_
  exact hk208 _ _ _ _ h
set_option maxRecDepth 100000 in
set_option maxHeartbeats 4000000 in
theorem Mo_cut_261_r {N d : Nat} {k7 : Int32 → mS → Option mS} {M : mS} {x1 : Int32} {x3 : Int32} {x4 : Int32} {z1 : Int32} {M' : mS} (hk7 : ∀ (x1 : Int32) (M : mS), k7 x1 M = some M' → mRunF (mCd 183) (mEE (mMet mP mTx (d + 2)) (none) none M') (7, [some (.ref 64), some (.int x1), none, none, none, none, none, none], [], mSS M)) (h : Mo_cut_261 N k7 x1 x3 x4 z1 M = some M') : mRunF (mCd 183) (mEE (mMet mP mTx (d + 2)) (none) none M') (261, [some (.ref 64), some (.int x1), none, some (.int x3), some (.int x4), none, none, none], [.int z1, .ref 64], mSS M) := by
  unfold Mo_cut_261 at h
  refine mRunF.sg (mSl mk_183 143 3) (g := (265, [some (.ref 64), some (.int x1), none, some (.int x3), some (.int x4), none, none, none], [.long 0, .int x4, .int x1, .int z1, .ref 64], mSS M)) (by decide +kernel) rfl ?_
  obtain ⟨M13, q12, h⟩ := bV_of h
  refine R_callV (mi := 182) (na := 5) (ci := 12) (i := 64) (as := [.int z1, .int x1, .int x4, .long 0]) (r := []) (rv := none) (σ1 := mSS M13) ⟨194, by decide +kernel⟩ rfl rfl rfl rfl (Mo_token_r N z1 x1 x4 0 M (d + 1) q12) ?_
  show mRunF _ _ (268, [some (.ref 64), some (.int x1), none, some (.int x3), some (.int x4), none, none, none], [], mSS M13)
  refine mRunF.sg (mSl mk_183 147 4) (g := (272, [some (.ref 64), some (.int (x1 + x3)), none, some (.int x3), some (.int x4), none, none, none], [], mSS M13)) (by decide +kernel) rfl ?_
  obtain ⟨v14, hv, h⟩ := nxt_ex h
  rw [← hv]
  clear hv
  refine mRunF.sg (mSl mk_183 151 1) (g := (291, [some (.ref 64), some (.int v14), none, some (.int x3), some (.int x4), none, none, none], [], mSS M13)) (by decide +kernel) rfl ?_
  refine mRunF.forget [true, true, true, false, false, true, true, true] ?_
  exact Mo_cut_291_r hk7 h
set_option maxRecDepth 100000 in
set_option maxHeartbeats 4000000 in
theorem Mo_cut_208_r {N d : Nat} {k7 : Int32 → mS → Option mS}  {M' : mS} (hk7 : ∀ (x1 : Int32) (M : mS), k7 x1 M = some M' → mRunF (mCd 183) (mEE (mMet mP mTx (d + 2)) (none) none M') (7, [some (.ref 64), some (.int x1), none, none, none, none, none, none], [], mSS M)) : ∀ {n : Nat} {x1 : Int32} {x3 : Int32} {x4 : Int32} {M : mS}, Mo_cut_208 N k7 n x1 x3 x4 M = some M' → mRunF (mCd 183) (mEE (mMet mP mTx (d + 2)) (none) none M') (208, [some (.ref 64), some (.int x1), none, some (.int x3), some (.int x4), none, none, none], [], mSS M) := by
  intro n
  induction n with
  | zero => intro x1 x3 x4 M h; cases h
  | succ n ih =>
    replace ih := @ih
    intro x1 x3 x4 M h
    unfold Mo_cut_208 at h
    refine mRunF.sg (mSl mk_183 112 4) (g := (212, [some (.ref 64), some (.int x1), none, some (.int x3), some (.int x4), none, none, none], [.int (x1 + x3), .ref 64], mSS M)) (by decide +kernel) rfl ?_
    obtain ⟨r16, q15, h⟩ := bR_of h
    refine R_callV (mi := 177) (na := 2) (ci := 12) (i := 64) (as := [.int (x1 + x3)]) (r := []) (rv := some (.int r16)) (σ1 := mSS M) ⟨190, by decide +kernel⟩ rfl rfl rfl rfl (Mo_byteAt_r N (x1 + x3) M (d + 1) q15) ?_
    show mRunF _ _ (215, [some (.ref 64), some (.int x1), none, some (.int x3), some (.int x4), none, none, none], [.int r16], mSS M)
    refine R_callS (mi := 178) (na := 1) (as := [.int r16]) (r := []) (rv := some (.int (Mo_isDigit r16 M))) (σ1 := mSS M) ⟨202, by decide +kernel⟩ rfl rfl rfl (Mo_isDigit_r r16 M (d + 1)) ?_
    have b17 := mBool rfl (Mo_isDigit_r r16 M (d + 1))
    show mRunF _ _ (218, [some (.ref 64), some (.int x1), none, some (.int x3), some (.int x4), none, none, none], [.int (Mo_isDigit r16 M)], mSS M)
    refine R_eq (t := 250) ⟨32, by decide +kernel⟩ (fun q => ?_) (fun q => ?_)
    · rw [if_pos q] at h
      refine mRunF.sg (mSl mk_183 136 3) (g := (253, [some (.ref 64), some (.int x1), none, some (.int x3), some (.int x4), none, none, none], [.int 4, .int x3, .ref 64], mSS M)) (by decide +kernel) rfl ?_
      refine R_ile (t := 260) ⟨7, by decide +kernel⟩ (fun q => ?_) (fun q => ?_)
      · rw [if_pos q] at h
        refine mRunF.sg (mSl mk_183 142 1) (g := (261, [some (.ref 64), some (.int x1), none, some (.int x3), some (.int x4), none, none, none], [.int 2, .ref 64], mSS M)) (by decide +kernel) rfl ?_
        exact Mo_cut_261_r hk7 h
      · rw [if_neg q] at h
        refine mRunF.sg (mSl mk_183 140 2) (g := (261, [some (.ref 64), some (.int x1), none, some (.int x3), some (.int x4), none, none, none], [.int 3, .ref 64], mSS M)) (by decide +kernel) rfl ?_
        exact Mo_cut_261_r hk7 h
    · rw [if_neg q] at h
      refine mRunF.sg (mSl mk_183 119 2) (g := (223, [some (.ref 64), some (.int x1), none, some (.int x3), some (.int x4), none, none, none], [.int 4, .int x3], mSS M)) (by decide +kernel) rfl ?_
      refine R_ige (t := 244) ⟨21, by decide +kernel⟩ (fun q => ?_) (fun q => ?_)
      · rw [if_pos q] at h
        exact Mo_cut_244_r hk7 (fun y0 y1 y2 y3 hh => @ih y0 y1 y2 y3 hh) h
      · rw [if_neg q] at h
        refine mRunF.sg (mSl mk_183 122 7) (g := (235, [some (.ref 64), some (.int x1), none, some (.int x3), some (.int x4), none, none, none], [.int (x1 + x3), .ref 64, .int (10 * x4)], mSS M)) (by decide +kernel) rfl ?_
        obtain ⟨r19, q18, h⟩ := bR_of h
        refine R_callV (mi := 177) (na := 2) (ci := 12) (i := 64) (as := [.int (x1 + x3)]) (r := [.int (10 * x4)]) (rv := some (.int r19)) (σ1 := mSS M) ⟨190, by decide +kernel⟩ rfl rfl rfl rfl (Mo_byteAt_r N (x1 + x3) M (d + 1) q18) ?_
        show mRunF _ _ (238, [some (.ref 64), some (.int x1), none, some (.int x3), some (.int x4), none, none, none], [.int r19, .int (10 * x4)], mSS M)
        refine mRunF.sg (mSl mk_183 130 4) (g := (244, [some (.ref 64), some (.int x1), none, some (.int x3), some (.int (((10 * x4) + r19) - 48)), none, none, none], [], mSS M)) (by decide +kernel) rfl ?_
        obtain ⟨v20, hv, h⟩ := nxt_ex h
        rw [← hv]
        clear hv
        exact Mo_cut_244_r hk7 (fun y0 y1 y2 y3 hh => @ih y0 y1 y2 y3 hh) h
set_option maxRecDepth 100000 in
set_option maxHeartbeats 4000000 in
theorem Mo_cut_7_r {N d : Nat}   {M' : mS} : ∀ {n : Nat} {x1 : Int32} {M : mS}, Mo_cut_7 N n x1 M = some M' → mRunF (mCd 183) (mEE (mMet mP mTx (d + 2)) (none) none M') (7, [some (.ref 64), some (.int x1), none, none, none, none, none, none], [], mSS M) := by
  intro n
  induction n with
  | zero => intro x1 M h; cases h
  | succ n ih =>
    replace ih := @ih
    intro x1 M h
    unfold Mo_cut_7 at h
    refine mRunF.sg (mSl mk_183 5 3) (g := (14, [some (.ref 64), some (.int x1), none, none, none, none, none, none], [.int 400, .int (M.1 64 10)], mSS M)) (by decide +kernel) rfl ?_
    refine R_igt (t := 294) ⟨280, by decide +kernel⟩ (fun q => ?_) (fun q => ?_)
    · rw [if_pos q] at h
      cases h
      exact R_vret (by decide +kernel)
    · rw [if_neg q] at h
      refine mRunF.sg (mSl mk_183 9 2) (g := (19, [some (.ref 64), some (.int x1), none, none, none, none, none, none], [.int x1, .ref 64], mSS M)) (by decide +kernel) rfl ?_
      obtain ⟨r22, q21, h⟩ := bR_of h
      refine R_callV (mi := 177) (na := 2) (ci := 12) (i := 64) (as := [.int x1]) (r := []) (rv := some (.int r22)) (σ1 := mSS M) ⟨190, by decide +kernel⟩ rfl rfl rfl rfl (Mo_byteAt_r N x1 M (d + 1) q21) ?_
      show mRunF _ _ (22, [some (.ref 64), some (.int x1), none, none, none, none, none, none], [.int r22], mSS M)
      refine mRunF.sg (mSl mk_183 12 4) (g := (28, [some (.ref 64), some (.int x1), some (.int r22), none, none, none, none, none], [.int (M.1 64 4), .int x1], mSS M)) (by decide +kernel) rfl ?_
      refine R_ilt (t := 43) ⟨15, by decide +kernel⟩ (fun q => ?_) (fun q => ?_)
      · rw [if_pos q] at h
        refine mRunF.sg (mSl mk_183 25 2) (g := (46, [some (.ref 64), some (.int x1), some (.int r22), none, none, none, none, none], [.int 9, .int r22], mSS M)) (by decide +kernel) rfl ?_
        refine R_ieq (t := 67) ⟨21, by decide +kernel⟩ (fun q => ?_) (fun q => ?_)
        · rw [if_pos q] at h
          refine mRunF.forget [true, true, false, true, true, true, true, true] ?_
          exact Mo_cut_67_r (fun y0 y1 hh => @ih y0 y1 hh) h
        · rw [if_neg q] at h
          refine mRunF.sg (mSl mk_183 28 2) (g := (52, [some (.ref 64), some (.int x1), some (.int r22), none, none, none, none, none], [.int 10, .int r22], mSS M)) (by decide +kernel) rfl ?_
          refine R_ieq (t := 67) ⟨15, by decide +kernel⟩ (fun q => ?_) (fun q => ?_)
          · rw [if_pos q] at h
            refine mRunF.forget [true, true, false, true, true, true, true, true] ?_
            exact Mo_cut_67_r (fun y0 y1 hh => @ih y0 y1 hh) h
          · rw [if_neg q] at h
            refine mRunF.sg (mSl mk_183 31 2) (g := (58, [some (.ref 64), some (.int x1), some (.int r22), none, none, none, none, none], [.int 13, .int r22], mSS M)) (by decide +kernel) rfl ?_
            refine R_ieq (t := 67) ⟨9, by decide +kernel⟩ (fun q => ?_) (fun q => ?_)
            · rw [if_pos q] at h
              refine mRunF.forget [true, true, false, true, true, true, true, true] ?_
              exact Mo_cut_67_r (fun y0 y1 hh => @ih y0 y1 hh) h
            · rw [if_neg q] at h
              refine mRunF.sg (mSl mk_183 34 2) (g := (64, [some (.ref 64), some (.int x1), some (.int r22), none, none, none, none, none], [.int 32, .int r22], mSS M)) (by decide +kernel) rfl ?_
              refine R_ine (t := 73) ⟨9, by decide +kernel⟩ (fun q => ?_) (fun q => ?_)
              · rw [if_pos q] at h
                refine mRunF.forget [true, true, false, true, true, true, true, true] ?_
                exact Mo_cut_67_r (fun y0 y1 hh => @ih y0 y1 hh) h
              · rw [if_neg q] at h
                refine mRunF.sg (mSl mk_183 39 1) (g := (74, [some (.ref 64), some (.int x1), some (.int r22), none, none, none, none, none], [.int r22], mSS M)) (by decide +kernel) rfl ?_
                refine R_callS (mi := 179) (na := 1) (as := [.int r22]) (r := []) (rv := some (.int (Mo_isLetter r22 M))) (σ1 := mSS M) ⟨198, by decide +kernel⟩ rfl rfl rfl (Mo_isLetter_r r22 M (d + 1)) ?_
                have b23 := mBool rfl (Mo_isLetter_r r22 M (d + 1))
                show mRunF _ _ (77, [some (.ref 64), some (.int x1), some (.int r22), none, none, none, none, none], [.int (Mo_isLetter r22 M)], mSS M)
                refine R_eq (t := 196) ⟨119, by decide +kernel⟩ (fun q => ?_) (fun q => ?_)
                · rw [if_pos q] at h
                  refine mRunF.sg (mSl mk_183 105 1) (g := (197, [some (.ref 64), some (.int x1), some (.int r22), none, none, none, none, none], [.int r22], mSS M)) (by decide +kernel) rfl ?_
                  refine R_callS (mi := 178) (na := 1) (as := [.int r22]) (r := []) (rv := some (.int (Mo_isDigit r22 M))) (σ1 := mSS M) ⟨202, by decide +kernel⟩ rfl rfl rfl (Mo_isDigit_r r22 M (d + 1)) ?_
                  have b24 := mBool rfl (Mo_isDigit_r r22 M (d + 1))
                  show mRunF _ _ (200, [some (.ref 64), some (.int x1), some (.int r22), none, none, none, none, none], [.int (Mo_isDigit r22 M)], mSS M)
                  refine R_eq (t := 275) ⟨75, by decide +kernel⟩ (fun q => ?_) (fun q => ?_)
                  · rw [if_pos q] at h
                    refine mRunF.sg (mSl mk_183 152 8) (g := (283, [some (.ref 64), some (.int x1), some (.int r22), none, none, none, none, none], [.int (x1 + 1), .ref 64, .int r22, .int x1, .ref 64, .int x1], mSS M)) (by decide +kernel) rfl ?_
                    obtain ⟨r26, q25, h⟩ := bR_of h
                    refine R_callV (mi := 177) (na := 2) (ci := 12) (i := 64) (as := [.int (x1 + 1)]) (r := [.int r22, .int x1, .ref 64, .int x1]) (rv := some (.int r26)) (σ1 := mSS M) ⟨190, by decide +kernel⟩ rfl rfl rfl rfl (Mo_byteAt_r N (x1 + 1) M (d + 1) q25) ?_
                    show mRunF _ _ (286, [some (.ref 64), some (.int x1), some (.int r22), none, none, none, none, none], [.int r26, .int r22, .int x1, .ref 64, .int x1], mSS M)
                    obtain ⟨r29, M28, q27, h⟩ := bW_of h
                    refine R_callV (mi := 184) (na := 4) (ci := 12) (i := 64) (as := [.int x1, .int r22, .int r26]) (r := [.int x1]) (rv := some (.int r29)) (σ1 := mSS M28) ⟨205, by decide +kernel⟩ rfl rfl rfl rfl (Mo_sign_r N x1 r22 r26 M (d + 0) q27) ?_
                    show mRunF _ _ (289, [some (.ref 64), some (.int x1), some (.int r22), none, none, none, none, none], [.int r29, .int x1], mSS M28)
                    refine mRunF.sg (mSl mk_183 162 2) (g := (291, [some (.ref 64), some (.int (x1 + r29)), some (.int r22), none, none, none, none, none], [], mSS M28)) (by decide +kernel) rfl ?_
                    obtain ⟨v30, hv, h⟩ := nxt_ex h
                    rw [← hv]
                    clear hv
                    refine mRunF.forget [true, true, false, true, true, true, true, true] ?_
                    exact Mo_cut_291_r (fun y0 y1 hh => @ih y0 y1 hh) h
                  · rw [if_neg q] at h
                    refine mRunF.sg (mSl mk_183 108 4) (g := (208, [some (.ref 64), some (.int x1), some (.int r22), some (.int 0), some (.int 0), none, none, none], [], mSS M)) (by decide +kernel) rfl ?_
                    refine mRunF.forget [true, true, false, true, true, true, true, true] ?_
                    exact Mo_cut_208_r (fun y0 y1 hh => @ih y0 y1 hh) h
                · rw [if_neg q] at h
                  refine mRunF.sg (mSl mk_183 42 4) (g := (85, [some (.ref 64), some (.int x1), some (.int r22), some (.int 0), some (.long 0), none, none, none], [], mSS M)) (by decide +kernel) rfl ?_
                  refine mRunF.forget [true, true, false, true, true, true, true, true] ?_
                  exact Mo_cut_85_r (fun y0 y1 hh => @ih y0 y1 hh) h
      · rw [if_neg q] at h
        refine mRunF.sg (mSl mk_183 17 6) (g := (39, [some (.ref 64), some (.int x1), some (.int r22), none, none, none, none, none], [.long 0, .int 0, .int (M.1 64 4), .int 0, .ref 64], mSS M)) (by decide +kernel) rfl ?_
        obtain ⟨M32, q31, h⟩ := bV_of h
        refine R_callV (mi := 182) (na := 5) (ci := 12) (i := 64) (as := [.int 0, .int (M.1 64 4), .int 0, .long 0]) (r := []) (rv := none) (σ1 := mSS M32) ⟨194, by decide +kernel⟩ rfl rfl rfl rfl (Mo_token_r N 0 (M.1 64 4) 0 0 M (d + 1) q31) ?_
        show mRunF _ _ (42, [some (.ref 64), some (.int x1), some (.int r22), none, none, none, none, none], [], mSS M32)
        cases h
        exact R_vret (by decide +kernel)
set_option maxRecDepth 100000 in
set_option maxHeartbeats 4000000 in
theorem Mo_cut_r (N : Nat)  (M : mS) {M' : mS} (d : Nat) (h : Mo_cut N M = some M') : mMet mP mTx (d + 3) 183 [.ref 64] (mSS M) none (mSS M') := by
  refine mMet_i ⟨Nat.le_refl _, Nat.le_refl _, Nat.le_of_ble_eq_true rfl⟩ ?_
  unfold Mo_cut at h
  show mRunF (mCd 183) (mEE (mMet mP mTx (d + 2)) (none) none M') (0, [some (.ref 64), none, none, none, none, none, none, none], [], mSS M)
  refine mRunF.sg (mSl mk_183 0 3) (g := (5, [some (.ref 64), none, none, none, none, none, none, none], [], mSS (mWI M 64 10 0))) (by decide +kernel) rfl ?_
  obtain ⟨M33, hv, h⟩ := nxt_ex h
  rw [← hv]
  clear hv
  refine mRunF.sg (mSl mk_183 3 2) (g := (7, [some (.ref 64), some (.int 0), none, none, none, none, none, none], [], mSS M33)) (by decide +kernel) rfl ?_
  exact Mo_cut_7_r h
