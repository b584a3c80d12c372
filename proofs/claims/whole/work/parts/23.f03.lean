/-! METHODS as functions, 3: printed by program -/
set_option maxRecDepth 100000 in
set_option maxHeartbeats 4000000 in
theorem Md_nights_33_r {N d : Nat}   {r : Int32} {M' : mS} : ∀ {n : Nat} {x1 : Int32} {x2 : Int32} {M : mS}, Md_nights_33 N n x1 x2 M = some (r, M') → mRunF (mCd 116) (mEE (mMet mP mTx (d + 4)) (some .int) (some (.int r)) M') (33, [some (.ref 0), some (.int x1), some (.int x2)], [], mSS M) := by
  intro n
  induction n with
  | zero => intro x1 x2 M h; cases h
  | succ n ih =>
    replace ih := @ih
    intro x1 x2 M h
    unfold Md_nights_33 at h
    refine mRunF.sg (mSl mk_116 17 2) (g := (35, [some (.ref 0), some (.int x1), some (.int x2)], [.int x1, .int x2], mSS M)) (by decide +kernel) rfl ?_
    refine R_ige (t := 72) ⟨37, by decide +kernel⟩ (fun q => ?_) (fun q => ?_)
    · rw [if_pos q] at h
      refine mRunF.sg (mSl mk_116 34 8) (g := (87, [some (.ref 0), some (.int x1), some (.int x2)], [.int 44, .int 0, .ref 34, .int 0, .ref 40], mSS M)) (by decide +kernel) rfl ?_
      refine R_copy ⟨194, by decide +kernel⟩ rfl rfl rfl ?_
      obtain ⟨M1, hv, h⟩ := nxt_ex h
      rw [← hv]
      clear hv
      refine mRunF.sg (mSl mk_116 43 3) (g := (95, [some (.ref 0), some (.int x1), some (.int x2)], [.int 0, .ref 34], mSS M1)) (by decide +kernel) rfl ?_
      refine R_iald (by decide +kernel) rfl rfl ?_
      show mRunF _ _ (96, [some (.ref 0), some (.int x1), some (.int x2)], [.int (M1.1 34 0)], mSS M1)
      cases h
      exact R_iret (by decide +kernel)
    · rw [if_neg q] at h
      refine mRunF.sg (mSl mk_116 20 5) (g := (49, [some (.ref 0), some (.int x1), some (.int x2)], [.int (M.1 3 9), .ref 39], mSS M)) (by decide +kernel) rfl ?_
      obtain ⟨M3, q2, h⟩ := bV_of h
      refine R_callV (mi := 90) (na := 2) (ci := 10) (i := 39) (as := [.int (M.1 3 9)]) (r := []) (rv := none) (σ1 := mSS M3) ⟨182, by decide +kernel⟩ rfl rfl rfl rfl (Wk_see_r N (M.1 3 9) M (d + 0) q2) ?_
      show mRunF _ _ (52, [some (.ref 0), some (.int x1), some (.int x2)], [], mSS M3)
      refine mRunF.sg (mSl mk_116 26 2) (g := (56, [some (.ref 0), some (.int x1), some (.int x2)], [.ref 39], mSS M3)) (by decide +kernel) rfl ?_
      obtain ⟨M5, q4, h⟩ := bV_of h
      refine R_callV (mi := 93) (na := 1) (ci := 10) (i := 39) (as := []) (r := []) (rv := none) (σ1 := mSS M5) ⟨185, by decide +kernel⟩ rfl rfl rfl rfl (Wk_addPairs_r N M3 (d + 1) q4) ?_
      show mRunF _ _ (59, [some (.ref 0), some (.int x1), some (.int x2)], [], mSS M5)
      refine mRunF.sg (mSl mk_116 29 2) (g := (63, [some (.ref 0), some (.int x1), some (.int x2)], [.ref 39], mSS M5)) (by decide +kernel) rfl ?_
      obtain ⟨M7, q6, h⟩ := bV_of h
      refine R_callV (mi := 92) (na := 1) (ci := 10) (i := 39) (as := []) (r := []) (rv := none) (σ1 := mSS M7) ⟨188, by decide +kernel⟩ rfl rfl rfl rfl (Wk_pass_r N M5 (d + 2) q6) ?_
      show mRunF _ _ (66, [some (.ref 0), some (.int x1), some (.int x2)], [], mSS M7)
      refine mRunF.sg (mSl mk_116 32 2) (g := (33, [some (.ref 0), some (.int x1), some (.int (x2 + 1))], [], mSS M7)) (by decide +kernel) rfl ?_
      exact @ih _ _ _ h
set_option maxRecDepth 100000 in
set_option maxHeartbeats 4000000 in
theorem Md_nights_r (N : Nat) (a0 : Int32) (M : mS) {r : Int32} {M' : mS} (d : Nat) (h : Md_nights N a0 M = some (r, M')) : mMet mP mTx (d + 5) 116 [.ref 0, .int a0] (mSS M) (some (.int r)) (mSS M') := by
  refine mMet_i ⟨Nat.le_refl _, Nat.le_refl _, Nat.le_of_ble_eq_true rfl⟩ ?_
  unfold Md_nights at h
  show mRunF (mCd 116) (mEE (mMet mP mTx (d + 4)) (some .int) (some (.int r)) M') (0, [some (.ref 0), some (.int a0), none], [], mSS M)
  refine mRunF.sg (mSl mk_116 0 2) (g := (4, [some (.ref 0), some (.int a0), none], [.int 200, .int a0], mSS M)) (by decide +kernel) rfl ?_
  refine R_callS (mi := 165) (na := 2) (as := [.int a0, .int 200]) (r := []) (rv := some (.int (Md_isWithin a0 200 M))) (σ1 := mSS M) ⟨179, by decide +kernel⟩ rfl rfl rfl (Md_isWithin_r a0 200 M (d + 3)) ?_
  have b8 := mBool rfl (Md_isWithin_r a0 200 M (d + 3))
  show mRunF _ _ (7, [some (.ref 0), some (.int a0), none], [.int (Md_isWithin a0 200 M)], mSS M)
  refine R_ne (t := 12) ⟨5, by decide +kernel⟩ (fun q => ?_) (fun q => ?_)
  · rw [if_pos q] at h
    refine mRunF.sg (mSl mk_116 4 1) (g := (11, [some (.ref 0), some (.int a0), none], [.int (-1)], mSS M)) (by decide +kernel) rfl ?_
    cases h
    exact R_iret (by decide +kernel)
  · rw [if_neg q] at h
    refine mRunF.sg (mSl mk_116 6 1) (g := (13, [some (.ref 0), some (.int a0), none], [.int a0], mSS M)) (by decide +kernel) rfl ?_
    refine R_le (t := 90) ⟨77, by decide +kernel⟩ (fun q => ?_) (fun q => ?_)
    · rw [if_pos q] at h
      refine mRunF.sg (mSl mk_116 43 3) (g := (95, [some (.ref 0), some (.int a0), none], [.int 0, .ref 34], mSS M)) (by decide +kernel) rfl ?_
      refine R_iald (by decide +kernel) rfl rfl ?_
      show mRunF _ _ (96, [some (.ref 0), some (.int a0), none], [.int (M.1 34 0)], mSS M)
      cases h
      exact R_iret (by decide +kernel)
    · rw [if_neg q] at h
      refine mRunF.sg (mSl mk_116 8 1) (g := (17, [some (.ref 0), some (.int a0), none], [.ref 0], mSS M)) (by decide +kernel) rfl ?_
      obtain ⟨M10, q9, h⟩ := bV_of h
      refine R_callV (mi := 157) (na := 1) (ci := 11) (i := 0) (as := []) (r := []) (rv := none) (σ1 := mSS M10) ⟨176, by decide +kernel⟩ rfl rfl rfl rfl (Md_keepForUndo_r N M (d + 2) q9) ?_
      show mRunF _ _ (20, [some (.ref 0), some (.int a0), none], [], mSS M10)
      refine mRunF.sg (mSl mk_116 10 4) (g := (28, [some (.ref 0), some (.int a0), none], [.ref 34, .ref 39], mSS M10)) (by decide +kernel) rfl ?_
      obtain ⟨M12, q11, h⟩ := bV_of h
      refine R_callV (mi := 89) (na := 2) (ci := 10) (i := 39) (as := [.ref 34]) (r := []) (rv := none) (σ1 := mSS M12) ⟨128, by decide +kernel⟩ rfl rfl rfl rfl (Wk_begin_r N M10 (d + 3) q11) ?_
      show mRunF _ _ (31, [some (.ref 0), some (.int a0), none], [], mSS M12)
      refine mRunF.sg (mSl mk_116 15 2) (g := (33, [some (.ref 0), some (.int a0), some (.int 0)], [], mSS M12)) (by decide +kernel) rfl ?_
      exact Md_nights_33_r h
set_option maxRecDepth 100000 in
set_option maxHeartbeats 4000000 in
theorem Sh_take_r (N : Nat) (a0 : Int32) (M : mS) {M' : mS} (d : Nat) (h : Sh_take N a0 M = some M') : mMet mP mTx (d + 1) 56 [.ref 35, .int a0, .ref 34] (mSS M) none (mSS M') := by
  refine mMet_i ⟨Nat.le_refl _, Nat.le_refl _, Nat.le_of_ble_eq_true rfl⟩ ?_
  unfold Sh_take at h
  show mRunF (mCd 56) (mEE (mMet mP mTx (d + 0)) (none) none M') (0, [some (.ref 35), some (.int a0), some (.ref 34)], [], mSS M)
  refine mRunF.sg (mSl mk_56 0 1) (g := (1, [some (.ref 35), some (.int a0), some (.ref 34)], [.int a0], mSS M)) (by decide +kernel) rfl ?_
  refine R_lt (t := 34) ⟨33, by decide +kernel⟩ (fun q => ?_) (fun q => ?_)
  · rw [if_pos q] at h
    cases h
    exact R_vret (by decide +kernel)
  · rw [if_neg q] at h
    refine mRunF.sg (mSl mk_56 2 3) (g := (9, [some (.ref 35), some (.int a0), some (.ref 34)], [.int (M.1 35 1), .int a0], mSS M)) (by decide +kernel) rfl ?_
    refine R_ige (t := 34) ⟨25, by decide +kernel⟩ (fun q => ?_) (fun q => ?_)
    · rw [if_pos q] at h
      cases h
      exact R_vret (by decide +kernel)
    · rw [if_neg q] at h
      refine mRunF.sg (mSl mk_56 6 3) (g := (16, [some (.ref 35), some (.int a0), some (.ref 34)], [.int 44, .int (Int32.ofNat 44)], mSS M)) (by decide +kernel) rfl ?_
      refine R_ilt (t := 34) ⟨18, by decide +kernel⟩ (fun q => absurd q (by decide)) (fun _ => ?_)
      refine mRunF.sg (mSl mk_56 10 8) (g := (31, [some (.ref 35), some (.int a0), some (.ref 34)], [.int 44, .int 0, .ref 34, .int (a0 * 44), .ref 36], mSS M)) (by decide +kernel) rfl ?_
      obtain ⟨g1, h⟩ := grd_of h
      refine R_copy ⟨25, by decide +kernel⟩ rfl rfl g1 ?_
      obtain ⟨M2, hv, h⟩ := nxt_ex h
      rw [← hv]
      clear hv
      cases h
      exact R_vret (by decide +kernel)
set_option maxRecDepth 100000 in
set_option maxHeartbeats 4000000 in
theorem Md_undo_r (N : Nat)  (M : mS) {r : Int32} {M' : mS} (d : Nat) (h : Md_undo N M = some (r, M')) : mMet mP mTx (d + 2) 117 [.ref 0] (mSS M) (some (.int r)) (mSS M') := by
  refine mMet_i ⟨Nat.le_refl _, Nat.le_refl _, Nat.le_of_ble_eq_true rfl⟩ ?_
  unfold Md_undo at h
  show mRunF (mCd 117) (mEE (mMet mP mTx (d + 1)) (some .boolean) (some (.int r)) M') (0, [some (.ref 0)], [], mSS M)
  refine mRunF.sg (mSl mk_117 0 2) (g := (4, [some (.ref 0)], [.int (M.1 0 12)], mSS M)) (by decide +kernel) rfl ?_
  refine R_ne (t := 9) ⟨5, by decide +kernel⟩ (fun q => ?_) (fun q => ?_)
  · rw [if_pos q] at h
    refine mRunF.sg (mSl mk_117 3 1) (g := (8, [some (.ref 0)], [.int 0], mSS M)) (by decide +kernel) rfl ?_
    cases h
    exact R_zret (by decide +kernel) (Or.inl rfl)
  · rw [if_neg q] at h
    refine mRunF.sg (mSl mk_117 5 6) (g := (21, [some (.ref 0)], [.ref 34, .int (M.1 0 13), .ref 35], mSS M)) (by decide +kernel) rfl ?_
    obtain ⟨M2, q1, h⟩ := bV_of h
    refine R_callV (mi := 56) (na := 3) (ci := 6) (i := 35) (as := [.int (M.1 0 13), .ref 34]) (r := []) (rv := none) (σ1 := mSS M2) ⟨200, by decide +kernel⟩ rfl rfl rfl rfl (Sh_take_r N (M.1 0 13) M (d + 0) q1) ?_
    show mRunF _ _ (24, [some (.ref 0)], [], mSS M2)
    refine mRunF.sg (mSl mk_117 12 6) (g := (33, [some (.ref 0)], [.int 40, .int ((M2.1 0 13) - 1), .ref 0], mSS M2)) (by decide +kernel) rfl ?_
    obtain ⟨r4, q3, h⟩ := bR_of h
    refine R_callS (mi := 166) (na := 2) (as := [.int ((M2.1 0 13) - 1), .int 40]) (r := [.ref 0]) (rv := some (.int r4)) (σ1 := mSS M2) ⟨148, by decide +kernel⟩ rfl rfl rfl (Md_rest_r N ((M2.1 0 13) - 1) 40 M2 (d + 0) q3) ?_
    show mRunF _ _ (36, [some (.ref 0)], [.int r4, .ref 0], mSS M2)
    refine mRunF.sg (mSl mk_117 19 1) (g := (39, [some (.ref 0)], [], mSS (mWI M2 0 13 r4))) (by decide +kernel) rfl ?_
    obtain ⟨M5, hv, h⟩ := nxt_ex h
    rw [← hv]
    clear hv
    refine mRunF.sg (mSl mk_117 20 6) (g := (49, [some (.ref 0)], [], mSS (mWI M5 0 12 ((M5.1 0 12) - 1)))) (by decide +kernel) rfl ?_
    obtain ⟨M6, hv, h⟩ := nxt_ex h
    rw [← hv]
    clear hv
    refine mRunF.sg (mSl mk_117 26 1) (g := (50, [some (.ref 0)], [.int 1], mSS M6)) (by decide +kernel) rfl ?_
    cases h
    exact R_zret (by decide +kernel) (Or.inr rfl)
set_option maxRecDepth 100000 in
set_option maxHeartbeats 4000000 in
theorem Md_isSet_r (a0 : Int32) (M : mS) (d : Nat) : mMet mP mTx (d + 2) 164 [.ref 0, .int a0] (mSS M) (some (.int (Md_isSet a0 M))) (mSS M) := by
  refine mMet_i ⟨Nat.le_refl _, Nat.le_refl _, Nat.le_of_ble_eq_true rfl⟩ ?_
  generalize h : Md_isSet a0 M = r
  unfold Md_isSet at h
  show mRunF (mCd 164) (mEE (mMet mP mTx (d + 1)) (some .boolean) (some (.int r)) M) (0, [some (.ref 0), some (.int a0)], [], mSS M)
  refine mRunF.sg (mSl mk_164 0 5) (g := (9, [some (.ref 0), some (.int a0)], [.int (a0 >>> ((M.1 3 8) &&& 31))], mSS M)) (by decide +kernel) rfl ?_
  refine R_ne (t := 24) ⟨15, by decide +kernel⟩ (fun q => ?_) (fun q => ?_)
  · rw [if_pos q] at h
    refine mRunF.sg (mSl mk_164 6 1) (g := (13, [some (.ref 0), some (.int a0)], [.int a0], mSS M)) (by decide +kernel) rfl ?_
    refine R_callS (mi := 308) (na := 1) (as := [.int a0]) (r := []) (rv := some (.int (Jl_bitCount a0 M))) (σ1 := mSS M) ⟨214, by decide +kernel⟩ rfl rfl rfl (Jl_bitCount_r a0 M (d + 0)) ?_
    show mRunF _ _ (16, [some (.ref 0), some (.int a0)], [.int (Jl_bitCount a0 M)], mSS M)
    refine mRunF.sg (mSl mk_164 8 1) (g := (17, [some (.ref 0), some (.int a0)], [.int 2, .int (Jl_bitCount a0 M)], mSS M)) (by decide +kernel) rfl ?_
    refine R_ilt (t := 24) ⟨7, by decide +kernel⟩ (fun q => ?_) (fun q => ?_)
    · rw [if_pos q] at h
      refine mRunF.sg (mSl mk_164 12 1) (g := (25, [some (.ref 0), some (.int a0)], [.int 0], mSS M)) (by decide +kernel) rfl ?_
      subst h
      exact R_zret (by decide +kernel) (Or.inl rfl)
    · rw [if_neg q] at h
      refine mRunF.sg (mSl mk_164 10 2) (g := (25, [some (.ref 0), some (.int a0)], [.int 1], mSS M)) (by decide +kernel) rfl ?_
      subst h
      exact R_zret (by decide +kernel) (Or.inr rfl)
  · rw [if_neg q] at h
    refine mRunF.sg (mSl mk_164 12 1) (g := (25, [some (.ref 0), some (.int a0)], [.int 0], mSS M)) (by decide +kernel) rfl ?_
    subst h
    exact R_zret (by decide +kernel) (Or.inl rfl)
set_option maxRecDepth 100000 in
set_option maxHeartbeats 4000000 in
theorem Mt_hoursOfAll_44_r {N d : Nat} {k13 : Int32 → Int32 → Int32 → Option Int32} {M : mS} {x1 : Int32} {x2 : Int32} {x3 : Int32} {r : Int32} (hk13 : ∀ (x1 : Int32) (x2 : Int32) (x3 : Int32), k13 x1 x2 x3 = some r → mRunF (mCd 20) (mEE (mMet mP mTx (d + 1)) (some .int) (some (.int r)) M) (13, [some (.ref 44), some (.int x1), some (.int x2), some (.int x3)], [], mSS M)) (h : Mt_hoursOfAll_44 N k13 M x1 x2 x3 = some r) : mRunF (mCd 20) (mEE (mMet mP mTx (d + 1)) (some .int) (some (.int r)) M) (44, [some (.ref 44), some (.int x1), some (.int x2), some (.int x3)], [], mSS M) := by
  unfold Mt_hoursOfAll_44 at h
  refine mRunF.sg (mSl mk_20 26 2) (g := (13, [some (.ref 44), some (.int x1), some (.int x2), some (.int (x3 + 1))], [], mSS M)) (by decide +kernel) rfl ?_
  exact hk13 _ _ _ h
set_option maxRecDepth 100000 in
set_option maxHeartbeats 4000000 in
theorem Mt_hoursOfAll_13_r {N d : Nat}  {M : mS}  {r : Int32} : ∀ {n : Nat} {x1 : Int32} {x2 : Int32} {x3 : Int32}, Mt_hoursOfAll_13 N M n x1 x2 x3 = some r → mRunF (mCd 20) (mEE (mMet mP mTx (d + 1)) (some .int) (some (.int r)) M) (13, [some (.ref 44), some (.int x1), some (.int x2), some (.int x3)], [], mSS M) := by
  intro n
  induction n with
  | zero => intro x1 x2 x3 h; cases h
  | succ n ih =>
    replace ih := @ih
    intro x1 x2 x3 h
    unfold Mt_hoursOfAll_13 at h
    refine mRunF.sg (mSl mk_20 7 4) (g := (21, [some (.ref 44), some (.int x1), some (.int x2), some (.int x3)], [.int (M.1 3 8), .int x3], mSS M)) (by decide +kernel) rfl ?_
    refine R_ige (t := 50) ⟨29, by decide +kernel⟩ (fun q => ?_) (fun q => ?_)
    · rw [if_pos q] at h
      refine mRunF.sg (mSl mk_20 28 1) (g := (51, [some (.ref 44), some (.int x1), some (.int x2), some (.int x3)], [.int x2], mSS M)) (by decide +kernel) rfl ?_
      cases h
      exact R_iret (by decide +kernel)
    · rw [if_neg q] at h
      refine mRunF.sg (mSl mk_20 12 5) (g := (29, [some (.ref 44), some (.int x1), some (.int x2), some (.int x3)], [.int ((x1 >>> (x3 &&& 31)) &&& 1)], mSS M)) (by decide +kernel) rfl ?_
      refine R_eq (t := 44) ⟨15, by decide +kernel⟩ (fun q => ?_) (fun q => ?_)
      · rw [if_pos q] at h
        exact Mt_hoursOfAll_44_r (fun y0 y1 y2 hh => @ih y0 y1 y2 hh) h
      · rw [if_neg q] at h
        refine mRunF.sg (mSl mk_20 18 5) (g := (41, [some (.ref 44), some (.int x1), some (.int x2), some (.int x3)], [.int x3, .ref 41, .int x2], mSS M)) (by decide +kernel) rfl ?_
        obtain ⟨g1, h⟩ := grd_of h
        refine R_iald (by decide +kernel) rfl g1 ?_
        refine mRunF.sg (mSl mk_20 24 2) (g := (44, [some (.ref 44), some (.int x1), some (.int (x2 &&& (M.1 41 x3.toNatClampNeg))), some (.int x3)], [], mSS M)) (by decide +kernel) rfl ?_
        obtain ⟨v2, hv, h⟩ := nxt_ex h
        rw [← hv]
        clear hv
        exact Mt_hoursOfAll_44_r (fun y0 y1 y2 hh => @ih y0 y1 y2 hh) h
set_option maxRecDepth 100000 in
set_option maxHeartbeats 4000000 in
theorem Mt_hoursOfAll_r (N : Nat) (a0 : Int32) (M : mS) {r : Int32} (d : Nat) (h : Mt_hoursOfAll N a0 M = some r) : mMet mP mTx (d + 2) 20 [.ref 44, .int a0] (mSS M) (some (.int r)) (mSS M) := by
  refine mMet_i ⟨Nat.le_refl _, Nat.le_refl _, Nat.le_of_ble_eq_true rfl⟩ ?_
  unfold Mt_hoursOfAll at h
  show mRunF (mCd 20) (mEE (mMet mP mTx (d + 1)) (some .int) (some (.int r)) M) (0, [some (.ref 44), some (.int a0), none, none], [], mSS M)
  refine mRunF.sg (mSl mk_20 0 3) (g := (7, [some (.ref 44), some (.int a0), none, none], [.int (M.1 3 6)], mSS M)) (by decide +kernel) rfl ?_
  refine R_callS (mi := 169) (na := 1) (as := [.int (M.1 3 6)]) (r := []) (rv := some (.int (Md_allHours (M.1 3 6) M))) (σ1 := mSS M) ⟨39, by decide +kernel⟩ rfl rfl rfl (Md_allHours_r (M.1 3 6) M (d + 0)) ?_
  show mRunF _ _ (10, [some (.ref 44), some (.int a0), none, none], [.int (Md_allHours (M.1 3 6) M)], mSS M)
  refine mRunF.sg (mSl mk_20 4 1) (g := (11, [some (.ref 44), some (.int a0), some (.int (Md_allHours (M.1 3 6) M)), none], [], mSS M)) (by decide +kernel) rfl ?_
  obtain ⟨v3, hv, h⟩ := nxt_ex h
  rw [← hv]
  clear hv
  refine mRunF.sg (mSl mk_20 5 2) (g := (13, [some (.ref 44), some (.int a0), some (.int v3), some (.int 0)], [], mSS M)) (by decide +kernel) rfl ?_
  exact Mt_hoursOfAll_13_r h
set_option maxRecDepth 100000 in
set_option maxHeartbeats 4000000 in
theorem Mt_firstNight_2_r {N d : Nat}   {r : Int32} {M' : mS} : ∀ {n : Nat} {x1 : Int32} {x2 : Int32} {x3 : Int32} {M : mS}, Mt_firstNight_2 N n x1 x2 x3 M = some (r, M') → mRunF (mCd 19) (mEE (mMet mP mTx (d + 4)) (some .int) (some (.int r)) M') (2, [some (.ref 44), some (.int x1), some (.int x2), some (.int x3)], [], mSS M) := by
  intro n
  induction n with
  | zero => intro x1 x2 x3 M h; cases h
  | succ n ih =>
    replace ih := @ih
    intro x1 x2 x3 M h
    unfold Mt_firstNight_2 at h
    refine mRunF.sg (mSl mk_19 2 2) (g := (4, [some (.ref 44), some (.int x1), some (.int x2), some (.int x3)], [.int x2, .int x3], mSS M)) (by decide +kernel) rfl ?_
    refine R_igt (t := 46) ⟨42, by decide +kernel⟩ (fun q => ?_) (fun q => ?_)
    · rw [if_pos q] at h
      refine mRunF.sg (mSl mk_19 24 1) (g := (48, [some (.ref 44), some (.int x1), some (.int x2), some (.int x3)], [.int (-2)], mSS M)) (by decide +kernel) rfl ?_
      cases h
      exact R_iret (by decide +kernel)
    · rw [if_neg q] at h
      refine mRunF.sg (mSl mk_19 5 3) (g := (12, [some (.ref 44), some (.int x1), some (.int x2), some (.int x3)], [.int (-1), .ref 39], mSS M)) (by decide +kernel) rfl ?_
      obtain ⟨M2, q1, h⟩ := bV_of h
      refine R_callV (mi := 90) (na := 2) (ci := 10) (i := 39) (as := [.int (-1)]) (r := []) (rv := none) (σ1 := mSS M2) ⟨19, by decide +kernel⟩ rfl rfl rfl rfl (Wk_see_r N (-1) M (d + 0) q1) ?_
      show mRunF _ _ (15, [some (.ref 44), some (.int x1), some (.int x2), some (.int x3)], [], mSS M2)
      refine mRunF.sg (mSl mk_19 9 3) (g := (18, [some (.ref 44), some (.int x1), some (.int x2), some (.int x3)], [.int x1, .ref 44, .ref 44], mSS M2)) (by decide +kernel) rfl ?_
      obtain ⟨r4, q3, h⟩ := bR_of h
      refine R_callV (mi := 20) (na := 2) (ci := 3) (i := 44) (as := [.int x1]) (r := [.ref 44]) (rv := some (.int r4)) (σ1 := mSS M2) ⟨25, by decide +kernel⟩ rfl rfl rfl rfl (Mt_hoursOfAll_r N x1 M2 (d + 2) q3) ?_
      show mRunF _ _ (21, [some (.ref 44), some (.int x1), some (.int x2), some (.int x3)], [.int r4, .ref 44], mSS M2)
      refine mRunF.sg (mSl mk_19 13 1) (g := (24, [some (.ref 44), some (.int x1), some (.int x2), some (.int x3)], [], mSS (mWI M2 44 0 r4))) (by decide +kernel) rfl ?_
      obtain ⟨M5, hv, h⟩ := nxt_ex h
      rw [← hv]
      clear hv
      refine mRunF.sg (mSl mk_19 14 2) (g := (28, [some (.ref 44), some (.int x1), some (.int x2), some (.int x3)], [.int (M5.1 44 0)], mSS M5)) (by decide +kernel) rfl ?_
      refine R_eq (t := 33) ⟨5, by decide +kernel⟩ (fun q => ?_) (fun q => ?_)
      · rw [if_pos q] at h
        refine mRunF.sg (mSl mk_19 19 2) (g := (37, [some (.ref 44), some (.int x1), some (.int x2), some (.int x3)], [.ref 39], mSS M5)) (by decide +kernel) rfl ?_
        obtain ⟨M7, q6, h⟩ := bV_of h
        refine R_callV (mi := 92) (na := 1) (ci := 10) (i := 39) (as := []) (r := []) (rv := none) (σ1 := mSS M7) ⟨33, by decide +kernel⟩ rfl rfl rfl rfl (Wk_pass_r N M5 (d + 2) q6) ?_
        show mRunF _ _ (40, [some (.ref 44), some (.int x1), some (.int x2), some (.int x3)], [], mSS M7)
        refine mRunF.sg (mSl mk_19 22 2) (g := (2, [some (.ref 44), some (.int x1), some (.int x2), some (.int (x3 + 1))], [], mSS M7)) (by decide +kernel) rfl ?_
        exact @ih _ _ _ _ h
      · rw [if_neg q] at h
        refine mRunF.sg (mSl mk_19 17 1) (g := (32, [some (.ref 44), some (.int x1), some (.int x2), some (.int x3)], [.int x3], mSS M5)) (by decide +kernel) rfl ?_
        cases h
        exact R_iret (by decide +kernel)
set_option maxRecDepth 100000 in
set_option maxHeartbeats 4000000 in
theorem Mt_firstNight_r (N : Nat) (a0 : Int32) (a1 : Int32) (M : mS) {r : Int32} {M' : mS} (d : Nat) (h : Mt_firstNight N a0 a1 M = some (r, M')) : mMet mP mTx (d + 5) 19 [.ref 44, .int a0, .int a1] (mSS M) (some (.int r)) (mSS M') := by
  refine mMet_i ⟨Nat.le_refl _, Nat.le_refl _, Nat.le_of_ble_eq_true rfl⟩ ?_
  unfold Mt_firstNight at h
  show mRunF (mCd 19) (mEE (mMet mP mTx (d + 4)) (some .int) (some (.int r)) M') (0, [some (.ref 44), some (.int a0), some (.int a1), none], [], mSS M)
  refine mRunF.sg (mSl mk_19 0 2) (g := (2, [some (.ref 44), some (.int a0), some (.int a1), some (.int 0)], [], mSS M)) (by decide +kernel) rfl ?_
  exact Mt_firstNight_2_r h
set_option maxRecDepth 100000 in
set_option maxHeartbeats 4000000 in
theorem Md_firstHour_r (a0 : Int32) (M : mS) (d : Nat) : mMet mP mTx (d + 2) 170 [.int a0] (mSS M) (some (.int (Md_firstHour a0 M))) (mSS M) := by
  refine mMet_i ⟨Nat.le_refl _, Nat.le_refl _, Nat.le_of_ble_eq_true rfl⟩ ?_
  generalize h : Md_firstHour a0 M = r
  unfold Md_firstHour at h
  show mRunF (mCd 170) (mEE (mMet mP mTx (d + 1)) (some .int) (some (.int r)) M) (0, [some (.int a0)], [], mSS M)
  refine mRunF.sg (mSl mk_170 0 1) (g := (1, [some (.int a0)], [.int a0], mSS M)) (by decide +kernel) rfl ?_
  refine R_ne (t := 8) ⟨7, by decide +kernel⟩ (fun q => ?_) (fun q => ?_)
  · rw [if_pos q] at h
    refine mRunF.sg (mSl mk_170 2 2) (g := (17, [some (.int a0)], [.int (-1)], mSS M)) (by decide +kernel) rfl ?_
    subst h
    exact R_iret (by decide +kernel)
  · rw [if_neg q] at h
    refine mRunF.sg (mSl mk_170 4 6) (g := (14, [some (.int a0)], [.int ((a0 &&& (-a0)) - 1)], mSS M)) (by decide +kernel) rfl ?_
    refine R_callS (mi := 308) (na := 1) (as := [.int ((a0 &&& (-a0)) - 1)]) (r := []) (rv := some (.int (Jl_bitCount ((a0 &&& (-a0)) - 1) M))) (σ1 := mSS M) ⟨214, by decide +kernel⟩ rfl rfl rfl (Jl_bitCount_r ((a0 &&& (-a0)) - 1) M (d + 0)) ?_
    show mRunF _ _ (17, [some (.int a0)], [.int (Jl_bitCount ((a0 &&& (-a0)) - 1) M)], mSS M)
    subst h
    exact R_iret (by decide +kernel)
set_option maxRecDepth 100000 in
set_option maxHeartbeats 4000000 in
theorem Md_meet_r (N : Nat) (a0 : Int32) (a1 : Int32) (M : mS) {r : Int32} {M' : mS} (d : Nat) (h : Md_meet N a0 a1 M = some (r, M')) : mMet mP mTx (d + 6) 118 [.ref 0, .int a0, .int a1] (mSS M) (some (.int r)) (mSS M') := by
  refine mMet_i ⟨Nat.le_refl _, Nat.le_refl _, Nat.le_of_ble_eq_true rfl⟩ ?_
  unfold Md_meet at h
  show mRunF (mCd 118) (mEE (mMet mP mTx (d + 5)) (some .int) (some (.int r)) M') (0, [some (.ref 0), some (.int a0), some (.int a1), none], [], mSS M)
  refine mRunF.sg (mSl mk_118 0 2) (g := (2, [some (.ref 0), some (.int a0), some (.int a1), none], [.int a0, .ref 0], mSS M)) (by decide +kernel) rfl ?_
  refine R_callV (mi := 164) (na := 2) (ci := 11) (i := 0) (as := [.int a0]) (r := []) (rv := some (.int (Md_isSet a0 M))) (σ1 := mSS M) ⟨204, by decide +kernel⟩ rfl rfl rfl rfl (Md_isSet_r a0 M (d + 3)) ?_
  have b1 := mBool rfl (Md_isSet_r a0 M (d + 3))
  show mRunF _ _ (5, [some (.ref 0), some (.int a0), some (.int a1), none], [.int (Md_isSet a0 M)], mSS M)
  refine R_eq (t := 17) ⟨12, by decide +kernel⟩ (fun q => ?_) (fun q => ?_)
  · rw [if_pos q] at h
    refine mRunF.sg (mSl mk_118 9 1) (g := (18, [some (.ref 0), some (.int a0), some (.int a1), none], [.int (-1)], mSS M)) (by decide +kernel) rfl ?_
    cases h
    exact R_iret (by decide +kernel)
  · rw [if_neg q] at h
    refine mRunF.sg (mSl mk_118 4 1) (g := (9, [some (.ref 0), some (.int a0), some (.int a1), none], [.int a1], mSS M)) (by decide +kernel) rfl ?_
    refine R_lt (t := 17) ⟨8, by decide +kernel⟩ (fun q => ?_) (fun q => ?_)
    · rw [if_pos q] at h
      refine mRunF.sg (mSl mk_118 9 1) (g := (18, [some (.ref 0), some (.int a0), some (.int a1), none], [.int (-1)], mSS M)) (by decide +kernel) rfl ?_
      cases h
      exact R_iret (by decide +kernel)
    · rw [if_neg q] at h
      refine mRunF.sg (mSl mk_118 6 2) (g := (14, [some (.ref 0), some (.int a0), some (.int a1), none], [.int 2, .int a1], mSS M)) (by decide +kernel) rfl ?_
      refine R_ile (t := 19) ⟨5, by decide +kernel⟩ (fun q => ?_) (fun q => ?_)
      · rw [if_pos q] at h
        refine mRunF.sg (mSl mk_118 11 4) (g := (27, [some (.ref 0), some (.int a0), some (.int a1), none], [.ref 34, .ref 39], mSS M)) (by decide +kernel) rfl ?_
        obtain ⟨M3, q2, h⟩ := bV_of h
        refine R_callV (mi := 89) (na := 2) (ci := 10) (i := 39) (as := [.ref 34]) (r := []) (rv := none) (σ1 := mSS M3) ⟨128, by decide +kernel⟩ rfl rfl rfl rfl (Wk_begin_r N M (d + 4) q2) ?_
        show mRunF _ _ (30, [some (.ref 0), some (.int a0), some (.int a1), none], [], mSS M3)
        refine mRunF.sg (mSl mk_118 16 4) (g := (38, [some (.ref 0), some (.int a0), some (.int a1), none], [.int 400, .int a0, .ref 44], mSS M3)) (by decide +kernel) rfl ?_
        obtain ⟨r6, M5, q4, h⟩ := bW_of h
        refine R_callV (mi := 19) (na := 3) (ci := 3) (i := 44) (as := [.int a0, .int 400]) (r := []) (rv := some (.int r6)) (σ1 := mSS M5) ⟨207, by decide +kernel⟩ rfl rfl rfl rfl (Mt_firstNight_r N a0 400 M3 (d + 0) q4) ?_
        show mRunF _ _ (41, [some (.ref 0), some (.int a0), some (.int a1), none], [.int r6], mSS M5)
        refine mRunF.sg (mSl mk_118 21 3) (g := (45, [some (.ref 0), some (.int a0), some (.int a1), some (.int r6)], [.int (-2), .int r6], mSS M5)) (by decide +kernel) rfl ?_
        refine R_ieq (t := 52) ⟨7, by decide +kernel⟩ (fun q => ?_) (fun q => ?_)
        · rw [if_pos q] at h
          refine mRunF.sg (mSl mk_118 27 1) (g := (53, [some (.ref 0), some (.int a0), some (.int a1), some (.int r6)], [.int r6], mSS M5)) (by decide +kernel) rfl ?_
          cases h
          exact R_iret (by decide +kernel)
        · rw [if_neg q] at h
          refine mRunF.sg (mSl mk_118 25 1) (g := (49, [some (.ref 0), some (.int a0), some (.int a1), some (.int r6)], [.int a1], mSS M5)) (by decide +kernel) rfl ?_
          refine R_ne (t := 54) ⟨5, by decide +kernel⟩ (fun q => ?_) (fun q => ?_)
          · rw [if_pos q] at h
            refine mRunF.sg (mSl mk_118 27 1) (g := (53, [some (.ref 0), some (.int a0), some (.int a1), some (.int r6)], [.int r6], mSS M5)) (by decide +kernel) rfl ?_
            cases h
            exact R_iret (by decide +kernel)
          · rw [if_neg q] at h
            refine mRunF.sg (mSl mk_118 29 2) (g := (56, [some (.ref 0), some (.int a0), some (.int a1), some (.int r6)], [.int 1, .int a1], mSS M5)) (by decide +kernel) rfl ?_
            refine R_ine (t := 72) ⟨16, by decide +kernel⟩ (fun q => ?_) (fun q => ?_)
            · rw [if_pos q] at h
              refine mRunF.sg (mSl mk_118 32 3) (g := (66, [some (.ref 0), some (.int a0), some (.int a1), some (.int r6)], [.int (M5.1 44 0)], mSS M5)) (by decide +kernel) rfl ?_
              refine R_callS (mi := 170) (na := 1) (as := [.int (M5.1 44 0)]) (r := []) (rv := some (.int (Md_firstHour (M5.1 44 0) M5))) (σ1 := mSS M5) ⟨211, by decide +kernel⟩ rfl rfl rfl (Md_firstHour_r (M5.1 44 0) M5 (d + 3)) ?_
              show mRunF _ _ (69, [some (.ref 0), some (.int a0), some (.int a1), some (.int r6)], [.int (Md_firstHour (M5.1 44 0) M5)], mSS M5)
              refine mRunF.sg (mSl mk_118 36 1) (g := (82, [some (.ref 0), some (.int a0), some (.int a1), some (.int r6)], [.int (Md_firstHour (M5.1 44 0) M5)], mSS M5)) (by decide +kernel) rfl ?_
              cases h
              exact R_iret (by decide +kernel)
            · rw [if_neg q] at h
              refine mRunF.sg (mSl mk_118 37 3) (g := (79, [some (.ref 0), some (.int a0), some (.int a1), some (.int r6)], [.int (M5.1 44 0)], mSS M5)) (by decide +kernel) rfl ?_
              refine R_callS (mi := 308) (na := 1) (as := [.int (M5.1 44 0)]) (r := []) (rv := some (.int (Jl_bitCount (M5.1 44 0) M5))) (σ1 := mSS M5) ⟨214, by decide +kernel⟩ rfl rfl rfl (Jl_bitCount_r (M5.1 44 0) M5 (d + 4)) ?_
              show mRunF _ _ (82, [some (.ref 0), some (.int a0), some (.int a1), some (.int r6)], [.int (Jl_bitCount (M5.1 44 0) M5)], mSS M5)
              cases h
              exact R_iret (by decide +kernel)
      · rw [if_neg q] at h
        refine mRunF.sg (mSl mk_118 9 1) (g := (18, [some (.ref 0), some (.int a0), some (.int a1), none], [.int (-1)], mSS M)) (by decide +kernel) rfl ?_
        cases h
        exact R_iret (by decide +kernel)
set_option maxRecDepth 100000 in
set_option maxHeartbeats 4000000 in
theorem Tl_sharedHours_6_r {N d : Nat}   {r : Int32} {M' : mS} : ∀ {n : Nat} {x1 : Int32} {x2 : Int32} {x3 : Int32} {x4 : Int32} {x5 : Int32} {M : mS}, Tl_sharedHours_6 N n x1 x2 x3 x4 x5 M = some (r, M') → mRunF (mCd 58) (mEE (mMet mP mTx (d + 4)) (some .int) (some (.int r)) M') (6, [some (.ref 45), some (.int x1), some (.int x2), some (.int x3), some (.int x4), some (.int x5)], [], mSS M) := by
  intro n
  induction n with
  | zero => intro x1 x2 x3 x4 x5 M h; cases h
  | succ n ih =>
    replace ih := @ih
    intro x1 x2 x3 x4 x5 M h
    unfold Tl_sharedHours_6 at h
    refine mRunF.sg (mSl mk_58 4 2) (g := (9, [some (.ref 45), some (.int x1), some (.int x2), some (.int x3), some (.int x4), some (.int x5)], [.int x3, .int x5], mSS M)) (by decide +kernel) rfl ?_
    refine R_ige (t := 47) ⟨38, by decide +kernel⟩ (fun q => ?_) (fun q => ?_)
    · rw [if_pos q] at h
      refine mRunF.sg (mSl mk_58 24 1) (g := (49, [some (.ref 45), some (.int x1), some (.int x2), some (.int x3), some (.int x4), some (.int x5)], [.int x4], mSS M)) (by decide +kernel) rfl ?_
      cases h
      exact R_iret (by decide +kernel)
    · rw [if_neg q] at h
      refine mRunF.sg (mSl mk_58 7 3) (g := (17, [some (.ref 45), some (.int x1), some (.int x2), some (.int x3), some (.int x4), some (.int x5)], [.int (-1), .ref 39], mSS M)) (by decide +kernel) rfl ?_
      obtain ⟨M2, q1, h⟩ := bV_of h
      refine R_callV (mi := 90) (na := 2) (ci := 10) (i := 39) (as := [.int (-1)]) (r := []) (rv := none) (σ1 := mSS M2) ⟨32, by decide +kernel⟩ rfl rfl rfl rfl (Wk_see_r N (-1) M (d + 0) q1) ?_
      show mRunF _ _ (20, [some (.ref 45), some (.int x1), some (.int x2), some (.int x3), some (.int x4), some (.int x5)], [], mSS M2)
      refine mRunF.sg (mSl mk_58 11 5) (g := (28, [some (.ref 45), some (.int x1), some (.int x2), some (.int x3), some (.int x4), some (.int x5)], [.int x2, .int x1, .ref 39, .int x4], mSS M2)) (by decide +kernel) rfl ?_
      obtain ⟨r4, q3, h⟩ := bR_of h
      refine R_callV (mi := 95) (na := 3) (ci := 10) (i := 39) (as := [.int x1, .int x2]) (r := [.int x4]) (rv := some (.int r4)) (σ1 := mSS M2) ⟨38, by decide +kernel⟩ rfl rfl rfl rfl (Wk_shared_r N x1 x2 M2 (d + 2) q3) ?_
      show mRunF _ _ (31, [some (.ref 45), some (.int x1), some (.int x2), some (.int x3), some (.int x4), some (.int x5)], [.int r4, .int x4], mSS M2)
      refine mRunF.sg (mSl mk_58 17 2) (g := (34, [some (.ref 45), some (.int x1), some (.int x2), some (.int x3), some (.int (x4 + r4)), some (.int x5)], [], mSS M2)) (by decide +kernel) rfl ?_
      obtain ⟨v5, hv, h⟩ := nxt_ex h
      rw [← hv]
      clear hv
      refine mRunF.sg (mSl mk_58 19 2) (g := (38, [some (.ref 45), some (.int x1), some (.int x2), some (.int x3), some (.int v5), some (.int x5)], [.ref 39], mSS M2)) (by decide +kernel) rfl ?_
      obtain ⟨M7, q6, h⟩ := bV_of h
      refine R_callV (mi := 92) (na := 1) (ci := 10) (i := 39) (as := []) (r := []) (rv := none) (σ1 := mSS M7) ⟨41, by decide +kernel⟩ rfl rfl rfl rfl (Wk_pass_r N M2 (d + 2) q6) ?_
      show mRunF _ _ (41, [some (.ref 45), some (.int x1), some (.int x2), some (.int x3), some (.int v5), some (.int x5)], [], mSS M7)
      refine mRunF.sg (mSl mk_58 22 2) (g := (6, [some (.ref 45), some (.int x1), some (.int x2), some (.int x3), some (.int v5), some (.int (x5 + 1))], [], mSS M7)) (by decide +kernel) rfl ?_
      exact @ih _ _ _ _ _ _ h
set_option maxRecDepth 100000 in
set_option maxHeartbeats 4000000 in
theorem Tl_sharedHours_r (N : Nat) (a0 : Int32) (a1 : Int32) (a2 : Int32) (M : mS) {r : Int32} {M' : mS} (d : Nat) (h : Tl_sharedHours N a0 a1 a2 M = some (r, M')) : mMet mP mTx (d + 5) 58 [.ref 45, .int a0, .int a1, .int a2] (mSS M) (some (.int r)) (mSS M') := by
  refine mMet_i ⟨Nat.le_refl _, Nat.le_refl _, Nat.le_of_ble_eq_true rfl⟩ ?_
  unfold Tl_sharedHours at h
  show mRunF (mCd 58) (mEE (mMet mP mTx (d + 4)) (some .int) (some (.int r)) M') (0, [some (.ref 45), some (.int a0), some (.int a1), some (.int a2), none, none], [], mSS M)
  refine mRunF.sg (mSl mk_58 0 4) (g := (6, [some (.ref 45), some (.int a0), some (.int a1), some (.int a2), some (.int 0), some (.int 0)], [], mSS M)) (by decide +kernel) rfl ?_
  exact Tl_sharedHours_6_r h
set_option maxRecDepth 100000 in
set_option maxHeartbeats 4000000 in
theorem Md_often_r (N : Nat) (a0 : Int32) (a1 : Int32) (a2 : Int32) (M : mS) {r : Int32} {M' : mS} (d : Nat) (h : Md_often N a0 a1 a2 M = some (r, M')) : mMet mP mTx (d + 6) 119 [.ref 0, .int a0, .int a1, .int a2] (mSS M) (some (.int r)) (mSS M') := by
  refine mMet_i ⟨Nat.le_refl _, Nat.le_refl _, Nat.le_of_ble_eq_true rfl⟩ ?_
  unfold Md_often at h
  show mRunF (mCd 119) (mEE (mMet mP mTx (d + 5)) (some .int) (some (.int r)) M') (0, [some (.ref 0), some (.int a0), some (.int a1), some (.int a2)], [], mSS M)
  refine mRunF.sg (mSl mk_119 0 3) (g := (3, [some (.ref 0), some (.int a0), some (.int a1), some (.int a2)], [.int a1, .int a0, .ref 0], mSS M)) (by decide +kernel) rfl ?_
  refine R_callV (mi := 162) (na := 3) (ci := 11) (i := 0) (as := [.int a0, .int a1]) (r := []) (rv := some (.int (Md_areTwo a0 a1 M))) (σ1 := mSS M) ⟨164, by decide +kernel⟩ rfl rfl rfl rfl (Md_areTwo_r a0 a1 M (d + 3)) ?_
  have b1 := mBool rfl (Md_areTwo_r a0 a1 M (d + 3))
  show mRunF _ _ (6, [some (.ref 0), some (.int a0), some (.int a1), some (.int a2)], [.int (Md_areTwo a0 a1 M)], mSS M)
  refine R_eq (t := 19) ⟨13, by decide +kernel⟩ (fun q => ?_) (fun q => ?_)
  · rw [if_pos q] at h
    refine mRunF.sg (mSl mk_119 9 1) (g := (20, [some (.ref 0), some (.int a0), some (.int a1), some (.int a2)], [.int (-1)], mSS M)) (by decide +kernel) rfl ?_
    cases h
    exact R_iret (by decide +kernel)
  · rw [if_neg q] at h
    refine mRunF.sg (mSl mk_119 5 2) (g := (13, [some (.ref 0), some (.int a0), some (.int a1), some (.int a2)], [.int 200, .int a2], mSS M)) (by decide +kernel) rfl ?_
    refine R_callS (mi := 165) (na := 2) (as := [.int a2, .int 200]) (r := []) (rv := some (.int (Md_isWithin a2 200 M))) (σ1 := mSS M) ⟨179, by decide +kernel⟩ rfl rfl rfl (Md_isWithin_r a2 200 M (d + 4)) ?_
    have b2 := mBool rfl (Md_isWithin_r a2 200 M (d + 4))
    show mRunF _ _ (16, [some (.ref 0), some (.int a0), some (.int a1), some (.int a2)], [.int (Md_isWithin a2 200 M)], mSS M)
    refine R_ne (t := 21) ⟨5, by decide +kernel⟩ (fun q => ?_) (fun q => ?_)
    · rw [if_pos q] at h
      refine mRunF.sg (mSl mk_119 9 1) (g := (20, [some (.ref 0), some (.int a0), some (.int a1), some (.int a2)], [.int (-1)], mSS M)) (by decide +kernel) rfl ?_
      cases h
      exact R_iret (by decide +kernel)
    · rw [if_neg q] at h
      refine mRunF.sg (mSl mk_119 11 4) (g := (29, [some (.ref 0), some (.int a0), some (.int a1), some (.int a2)], [.ref 34, .ref 39], mSS M)) (by decide +kernel) rfl ?_
      obtain ⟨M4, q3, h⟩ := bV_of h
      refine R_callV (mi := 89) (na := 2) (ci := 10) (i := 39) (as := [.ref 34]) (r := []) (rv := none) (σ1 := mSS M4) ⟨128, by decide +kernel⟩ rfl rfl rfl rfl (Wk_begin_r N M (d + 4) q3) ?_
      show mRunF _ _ (32, [some (.ref 0), some (.int a0), some (.int a1), some (.int a2)], [], mSS M4)
      refine mRunF.sg (mSl mk_119 16 5) (g := (39, [some (.ref 0), some (.int a0), some (.int a1), some (.int a2)], [.int a2, .int a1, .int a0, .ref 45], mSS M4)) (by decide +kernel) rfl ?_
      obtain ⟨r7, M6, q5, h⟩ := bW_of h
      refine R_callV (mi := 58) (na := 4) (ci := 7) (i := 45) (as := [.int a0, .int a1, .int a2]) (r := []) (rv := some (.int r7)) (σ1 := mSS M6) ⟨219, by decide +kernel⟩ rfl rfl rfl rfl (Tl_sharedHours_r N a0 a1 a2 M4 (d + 0) q5) ?_
      show mRunF _ _ (42, [some (.ref 0), some (.int a0), some (.int a1), some (.int a2)], [.int r7], mSS M6)
      cases h
      exact R_iret (by decide +kernel)
set_option maxRecDepth 100000 in
set_option maxHeartbeats 4000000 in
theorem Tl_lonelyHours_5_r {N d : Nat}   {r : Int32} {M' : mS} : ∀ {n : Nat} {x1 : Int32} {x2 : Int32} {x3 : Int32} {x4 : Int32} {M : mS}, Tl_lonelyHours_5 N n x1 x2 x3 x4 M = some (r, M') → mRunF (mCd 60) (mEE (mMet mP mTx (d + 4)) (some .int) (some (.int r)) M') (5, [some (.ref 45), some (.int x1), some (.int x2), some (.int x3), some (.int x4)], [], mSS M) := by
  intro n
  induction n with
  | zero => intro x1 x2 x3 x4 M h; cases h
  | succ n ih =>
    replace ih := @ih
    intro x1 x2 x3 x4 M h
    unfold Tl_lonelyHours_5 at h
    refine mRunF.sg (mSl mk_60 4 2) (g := (8, [some (.ref 45), some (.int x1), some (.int x2), some (.int x3), some (.int x4)], [.int x2, .int x4], mSS M)) (by decide +kernel) rfl ?_
    refine R_ige (t := 57) ⟨49, by decide +kernel⟩ (fun q => ?_) (fun q => ?_)
    · rw [if_pos q] at h
      refine mRunF.sg (mSl mk_60 31 1) (g := (58, [some (.ref 45), some (.int x1), some (.int x2), some (.int x3), some (.int x4)], [.int x3], mSS M)) (by decide +kernel) rfl ?_
      cases h
      exact R_iret (by decide +kernel)
    · rw [if_neg q] at h
      refine mRunF.sg (mSl mk_60 7 3) (g := (16, [some (.ref 45), some (.int x1), some (.int x2), some (.int x3), some (.int x4)], [.int (-1), .ref 39], mSS M)) (by decide +kernel) rfl ?_
      obtain ⟨M2, q1, h⟩ := bV_of h
      refine R_callV (mi := 90) (na := 2) (ci := 10) (i := 39) (as := [.int (-1)]) (r := []) (rv := none) (σ1 := mSS M2) ⟨32, by decide +kernel⟩ rfl rfl rfl rfl (Wk_see_r N (-1) M (d + 0) q1) ?_
      show mRunF _ _ (19, [some (.ref 45), some (.int x1), some (.int x2), some (.int x3), some (.int x4)], [], mSS M2)
      refine mRunF.sg (mSl mk_60 11 5) (g := (28, [some (.ref 45), some (.int x1), some (.int x2), some (.int x3), some (.int x4)], [.int x1, .ref 41, .int x3], mSS M2)) (by decide +kernel) rfl ?_
      obtain ⟨g3, h⟩ := grd_of h
      refine R_iald (by decide +kernel) rfl g3 ?_
      refine mRunF.sg (mSl mk_60 17 6) (g := (39, [some (.ref 45), some (.int x1), some (.int x2), some (.int x3), some (.int x4)], [.int ((M2.1 41 x1.toNatClampNeg) &&& ((M2.1 39 3) ^^^ (-1))), .int x3], mSS M2)) (by decide +kernel) rfl ?_
      refine R_callS (mi := 308) (na := 1) (as := [.int ((M2.1 41 x1.toNatClampNeg) &&& ((M2.1 39 3) ^^^ (-1)))]) (r := [.int x3]) (rv := some (.int (Jl_bitCount ((M2.1 41 x1.toNatClampNeg) &&& ((M2.1 39 3) ^^^ (-1))) M2))) (σ1 := mSS M2) ⟨56, by decide +kernel⟩ rfl rfl rfl (Jl_bitCount_r ((M2.1 41 x1.toNatClampNeg) &&& ((M2.1 39 3) ^^^ (-1))) M2 (d + 3)) ?_
      show mRunF _ _ (42, [some (.ref 45), some (.int x1), some (.int x2), some (.int x3), some (.int x4)], [.int (Jl_bitCount ((M2.1 41 x1.toNatClampNeg) &&& ((M2.1 39 3) ^^^ (-1))) M2), .int x3], mSS M2)
      refine mRunF.sg (mSl mk_60 24 2) (g := (44, [some (.ref 45), some (.int x1), some (.int x2), some (.int (x3 + (Jl_bitCount ((M2.1 41 x1.toNatClampNeg) &&& ((M2.1 39 3) ^^^ (-1))) M2))), some (.int x4)], [], mSS M2)) (by decide +kernel) rfl ?_
      obtain ⟨v4, hv, h⟩ := nxt_ex h
      rw [← hv]
      clear hv
      refine mRunF.sg (mSl mk_60 26 2) (g := (48, [some (.ref 45), some (.int x1), some (.int x2), some (.int v4), some (.int x4)], [.ref 39], mSS M2)) (by decide +kernel) rfl ?_
      obtain ⟨M6, q5, h⟩ := bV_of h
      refine R_callV (mi := 92) (na := 1) (ci := 10) (i := 39) (as := []) (r := []) (rv := none) (σ1 := mSS M6) ⟨41, by decide +kernel⟩ rfl rfl rfl rfl (Wk_pass_r N M2 (d + 2) q5) ?_
      show mRunF _ _ (51, [some (.ref 45), some (.int x1), some (.int x2), some (.int v4), some (.int x4)], [], mSS M6)
      refine mRunF.sg (mSl mk_60 29 2) (g := (5, [some (.ref 45), some (.int x1), some (.int x2), some (.int v4), some (.int (x4 + 1))], [], mSS M6)) (by decide +kernel) rfl ?_
      exact @ih _ _ _ _ _ h
set_option maxRecDepth 100000 in
set_option maxHeartbeats 4000000 in
theorem Tl_lonelyHours_r (N : Nat) (a0 : Int32) (a1 : Int32) (M : mS) {r : Int32} {M' : mS} (d : Nat) (h : Tl_lonelyHours N a0 a1 M = some (r, M')) : mMet mP mTx (d + 5) 60 [.ref 45, .int a0, .int a1] (mSS M) (some (.int r)) (mSS M') := by
  refine mMet_i ⟨Nat.le_refl _, Nat.le_refl _, Nat.le_of_ble_eq_true rfl⟩ ?_
  unfold Tl_lonelyHours at h
  show mRunF (mCd 60) (mEE (mMet mP mTx (d + 4)) (some .int) (some (.int r)) M') (0, [some (.ref 45), some (.int a0), some (.int a1), none, none], [], mSS M)
  refine mRunF.sg (mSl mk_60 0 4) (g := (5, [some (.ref 45), some (.int a0), some (.int a1), some (.int 0), some (.int 0)], [], mSS M)) (by decide +kernel) rfl ?_
  exact Tl_lonelyHours_5_r h
set_option maxRecDepth 100000 in
set_option maxHeartbeats 4000000 in
theorem Md_alone_r (N : Nat) (a0 : Int32) (a1 : Int32) (M : mS) {r : Int32} {M' : mS} (d : Nat) (h : Md_alone N a0 a1 M = some (r, M')) : mMet mP mTx (d + 6) 120 [.ref 0, .int a0, .int a1] (mSS M) (some (.int r)) (mSS M') := by
  refine mMet_i ⟨Nat.le_refl _, Nat.le_refl _, Nat.le_of_ble_eq_true rfl⟩ ?_
  unfold Md_alone at h
  show mRunF (mCd 120) (mEE (mMet mP mTx (d + 5)) (some .int) (some (.int r)) M') (0, [some (.ref 0), some (.int a0), some (.int a1)], [], mSS M)
  refine mRunF.sg (mSl mk_120 0 2) (g := (2, [some (.ref 0), some (.int a0), some (.int a1)], [.int a0, .ref 0], mSS M)) (by decide +kernel) rfl ?_
  refine R_callV (mi := 161) (na := 2) (ci := 11) (i := 0) (as := [.int a0]) (r := []) (rv := some (.int (Md_isGoer a0 M))) (σ1 := mSS M) ⟨152, by decide +kernel⟩ rfl rfl rfl rfl (Md_isGoer_r a0 M (d + 4)) ?_
  have b1 := mBool rfl (Md_isGoer_r a0 M (d + 4))
  show mRunF _ _ (5, [some (.ref 0), some (.int a0), some (.int a1)], [.int (Md_isGoer a0 M)], mSS M)
  refine R_eq (t := 18) ⟨13, by decide +kernel⟩ (fun q => ?_) (fun q => ?_)
  · rw [if_pos q] at h
    refine mRunF.sg (mSl mk_120 8 1) (g := (19, [some (.ref 0), some (.int a0), some (.int a1)], [.int (-1)], mSS M)) (by decide +kernel) rfl ?_
    cases h
    exact R_iret (by decide +kernel)
  · rw [if_neg q] at h
    refine mRunF.sg (mSl mk_120 4 2) (g := (12, [some (.ref 0), some (.int a0), some (.int a1)], [.int 200, .int a1], mSS M)) (by decide +kernel) rfl ?_
    refine R_callS (mi := 165) (na := 2) (as := [.int a1, .int 200]) (r := []) (rv := some (.int (Md_isWithin a1 200 M))) (σ1 := mSS M) ⟨179, by decide +kernel⟩ rfl rfl rfl (Md_isWithin_r a1 200 M (d + 4)) ?_
    have b2 := mBool rfl (Md_isWithin_r a1 200 M (d + 4))
    show mRunF _ _ (15, [some (.ref 0), some (.int a0), some (.int a1)], [.int (Md_isWithin a1 200 M)], mSS M)
    refine R_ne (t := 20) ⟨5, by decide +kernel⟩ (fun q => ?_) (fun q => ?_)
    · rw [if_pos q] at h
      refine mRunF.sg (mSl mk_120 8 1) (g := (19, [some (.ref 0), some (.int a0), some (.int a1)], [.int (-1)], mSS M)) (by decide +kernel) rfl ?_
      cases h
      exact R_iret (by decide +kernel)
    · rw [if_neg q] at h
      refine mRunF.sg (mSl mk_120 10 4) (g := (28, [some (.ref 0), some (.int a0), some (.int a1)], [.ref 34, .ref 39], mSS M)) (by decide +kernel) rfl ?_
      obtain ⟨M4, q3, h⟩ := bV_of h
      refine R_callV (mi := 89) (na := 2) (ci := 10) (i := 39) (as := [.ref 34]) (r := []) (rv := none) (σ1 := mSS M4) ⟨128, by decide +kernel⟩ rfl rfl rfl rfl (Wk_begin_r N M (d + 4) q3) ?_
      show mRunF _ _ (31, [some (.ref 0), some (.int a0), some (.int a1)], [], mSS M4)
      refine mRunF.sg (mSl mk_120 15 4) (g := (37, [some (.ref 0), some (.int a0), some (.int a1)], [.int a1, .int a0, .ref 45], mSS M4)) (by decide +kernel) rfl ?_
      obtain ⟨r7, M6, q5, h⟩ := bW_of h
      refine R_callV (mi := 60) (na := 3) (ci := 7) (i := 45) (as := [.int a0, .int a1]) (r := []) (rv := some (.int r7)) (σ1 := mSS M6) ⟨223, by decide +kernel⟩ rfl rfl rfl rfl (Tl_lonelyHours_r N a0 a1 M4 (d + 0) q5) ?_
      show mRunF _ _ (40, [some (.ref 0), some (.int a0), some (.int a1)], [.int r7], mSS M6)
      cases h
      exact R_iret (by decide +kernel)
set_option maxRecDepth 100000 in
set_option maxHeartbeats 4000000 in
theorem Tl_earnings_5_r {N d : Nat}   {r : Int32} {M' : mS} : ∀ {n : Nat} {x1 : Int32} {x2 : Int32} {x3 : Int32} {x4 : Int32} {M : mS}, Tl_earnings_5 N n x1 x2 x3 x4 M = some (r, M') → mRunF (mCd 61) (mEE (mMet mP mTx (d + 4)) (some .int) (some (.int r)) M') (5, [some (.ref 45), some (.int x1), some (.int x2), some (.int x3), some (.int x4)], [], mSS M) := by
  intro n
  induction n with
  | zero => intro x1 x2 x3 x4 M h; cases h
  | succ n ih =>
    replace ih := @ih
    intro x1 x2 x3 x4 M h
    unfold Tl_earnings_5 at h
    refine mRunF.sg (mSl mk_61 4 2) (g := (8, [some (.ref 45), some (.int x1), some (.int x2), some (.int x3), some (.int x4)], [.int x2, .int x4], mSS M)) (by decide +kernel) rfl ?_
    refine R_ige (t := 65) ⟨57, by decide +kernel⟩ (fun q => ?_) (fun q => ?_)
    · rw [if_pos q] at h
      refine mRunF.sg (mSl mk_61 35 1) (g := (66, [some (.ref 45), some (.int x1), some (.int x2), some (.int x3), some (.int x4)], [.int x3], mSS M)) (by decide +kernel) rfl ?_
      cases h
      exact R_iret (by decide +kernel)
    · rw [if_neg q] at h
      refine mRunF.sg (mSl mk_61 7 3) (g := (16, [some (.ref 45), some (.int x1), some (.int x2), some (.int x3), some (.int x4)], [.int (-1), .ref 39], mSS M)) (by decide +kernel) rfl ?_
      obtain ⟨M2, q1, h⟩ := bV_of h
      refine R_callV (mi := 90) (na := 2) (ci := 10) (i := 39) (as := [.int (-1)]) (r := []) (rv := none) (σ1 := mSS M2) ⟨32, by decide +kernel⟩ rfl rfl rfl rfl (Wk_see_r N (-1) M (d + 0) q1) ?_
      show mRunF _ _ (19, [some (.ref 45), some (.int x1), some (.int x2), some (.int x3), some (.int x4)], [], mSS M2)
      refine mRunF.sg (mSl mk_61 11 5) (g := (28, [some (.ref 45), some (.int x1), some (.int x2), some (.int x3), some (.int x4)], [.int x1, .ref 41, .int x3], mSS M2)) (by decide +kernel) rfl ?_
      obtain ⟨g3, h⟩ := grd_of h
      refine R_iald (by decide +kernel) rfl g3 ?_
      refine mRunF.sg (mSl mk_61 17 4) (g := (37, [some (.ref 45), some (.int x1), some (.int x2), some (.int x3), some (.int x4)], [.int ((M2.1 41 x1.toNatClampNeg) &&& (M2.1 39 3)), .int x3], mSS M2)) (by decide +kernel) rfl ?_
      refine R_callS (mi := 308) (na := 1) (as := [.int ((M2.1 41 x1.toNatClampNeg) &&& (M2.1 39 3))]) (r := [.int x3]) (rv := some (.int (Jl_bitCount ((M2.1 41 x1.toNatClampNeg) &&& (M2.1 39 3)) M2))) (σ1 := mSS M2) ⟨56, by decide +kernel⟩ rfl rfl rfl (Jl_bitCount_r ((M2.1 41 x1.toNatClampNeg) &&& (M2.1 39 3)) M2 (d + 3)) ?_
      show mRunF _ _ (40, [some (.ref 45), some (.int x1), some (.int x2), some (.int x3), some (.int x4)], [.int (Jl_bitCount ((M2.1 41 x1.toNatClampNeg) &&& (M2.1 39 3)) M2), .int x3], mSS M2)
      refine mRunF.sg (mSl mk_61 22 4) (g := (46, [some (.ref 45), some (.int x1), some (.int x2), some (.int x3), some (.int x4)], [.int x1, .int 2, .ref 39, .int (Jl_bitCount ((M2.1 41 x1.toNatClampNeg) &&& (M2.1 39 3)) M2), .int x3], mSS M2)) (by decide +kernel) rfl ?_
      obtain ⟨r6, M5, q4, h⟩ := bW_of h
      refine R_callV (mi := 97) (na := 3) (ci := 10) (i := 39) (as := [.int 2, .int x1]) (r := [.int (Jl_bitCount ((M2.1 41 x1.toNatClampNeg) &&& (M2.1 39 3)) M2), .int x3]) (rv := some (.int r6)) (σ1 := mSS M5) ⟨62, by decide +kernel⟩ rfl rfl rfl rfl (Wk_lawOfGoer_r N 2 x1 M2 (d + 1) q4) ?_
      show mRunF _ _ (49, [some (.ref 45), some (.int x1), some (.int x2), some (.int x3), some (.int x4)], [.int r6, .int (Jl_bitCount ((M2.1 41 x1.toNatClampNeg) &&& (M2.1 39 3)) M2), .int x3], mSS M5)
      refine mRunF.sg (mSl mk_61 27 3) (g := (52, [some (.ref 45), some (.int x1), some (.int x2), some (.int (x3 + ((Jl_bitCount ((M2.1 41 x1.toNatClampNeg) &&& (M2.1 39 3)) M2) * r6))), some (.int x4)], [], mSS M5)) (by decide +kernel) rfl ?_
      obtain ⟨v7, hv, h⟩ := nxt_ex h
      rw [← hv]
      clear hv
      refine mRunF.sg (mSl mk_61 30 2) (g := (56, [some (.ref 45), some (.int x1), some (.int x2), some (.int v7), some (.int x4)], [.ref 39], mSS M5)) (by decide +kernel) rfl ?_
      obtain ⟨M9, q8, h⟩ := bV_of h
      refine R_callV (mi := 92) (na := 1) (ci := 10) (i := 39) (as := []) (r := []) (rv := none) (σ1 := mSS M9) ⟨41, by decide +kernel⟩ rfl rfl rfl rfl (Wk_pass_r N M5 (d + 2) q8) ?_
      show mRunF _ _ (59, [some (.ref 45), some (.int x1), some (.int x2), some (.int v7), some (.int x4)], [], mSS M9)
      refine mRunF.sg (mSl mk_61 33 2) (g := (5, [some (.ref 45), some (.int x1), some (.int x2), some (.int v7), some (.int (x4 + 1))], [], mSS M9)) (by decide +kernel) rfl ?_
      exact @ih _ _ _ _ _ h
set_option maxRecDepth 100000 in
set_option maxHeartbeats 4000000 in
theorem Tl_earnings_r (N : Nat) (a0 : Int32) (a1 : Int32) (M : mS) {r : Int32} {M' : mS} (d : Nat) (h : Tl_earnings N a0 a1 M = some (r, M')) : mMet mP mTx (d + 5) 61 [.ref 45, .int a0, .int a1] (mSS M) (some (.int r)) (mSS M') := by
  refine mMet_i ⟨Nat.le_refl _, Nat.le_refl _, Nat.le_of_ble_eq_true rfl⟩ ?_
  unfold Tl_earnings at h
  show mRunF (mCd 61) (mEE (mMet mP mTx (d + 4)) (some .int) (some (.int r)) M') (0, [some (.ref 45), some (.int a0), some (.int a1), none, none], [], mSS M)
  refine mRunF.sg (mSl mk_61 0 4) (g := (5, [some (.ref 45), some (.int a0), some (.int a1), some (.int 0), some (.int 0)], [], mSS M)) (by decide +kernel) rfl ?_
  exact Tl_earnings_5_r h
set_option maxRecDepth 100000 in
set_option maxHeartbeats 4000000 in
theorem Md_earns_r (N : Nat) (a0 : Int32) (a1 : Int32) (M : mS) {r : Int32} {M' : mS} (d : Nat) (h : Md_earns N a0 a1 M = some (r, M')) : mMet mP mTx (d + 6) 121 [.ref 0, .int a0, .int a1] (mSS M) (some (.int r)) (mSS M') := by
  refine mMet_i ⟨Nat.le_refl _, Nat.le_refl _, Nat.le_of_ble_eq_true rfl⟩ ?_
  unfold Md_earns at h
  show mRunF (mCd 121) (mEE (mMet mP mTx (d + 5)) (some .int) (some (.int r)) M') (0, [some (.ref 0), some (.int a0), some (.int a1)], [], mSS M)
  refine mRunF.sg (mSl mk_121 0 2) (g := (2, [some (.ref 0), some (.int a0), some (.int a1)], [.int a0, .ref 0], mSS M)) (by decide +kernel) rfl ?_
  refine R_callV (mi := 161) (na := 2) (ci := 11) (i := 0) (as := [.int a0]) (r := []) (rv := some (.int (Md_isGoer a0 M))) (σ1 := mSS M) ⟨152, by decide +kernel⟩ rfl rfl rfl rfl (Md_isGoer_r a0 M (d + 4)) ?_
  have b1 := mBool rfl (Md_isGoer_r a0 M (d + 4))
  show mRunF _ _ (5, [some (.ref 0), some (.int a0), some (.int a1)], [.int (Md_isGoer a0 M)], mSS M)
  refine R_eq (t := 18) ⟨13, by decide +kernel⟩ (fun q => ?_) (fun q => ?_)
  · rw [if_pos q] at h
    refine mRunF.sg (mSl mk_121 8 1) (g := (19, [some (.ref 0), some (.int a0), some (.int a1)], [.int (-1)], mSS M)) (by decide +kernel) rfl ?_
    cases h
    exact R_iret (by decide +kernel)
  · rw [if_neg q] at h
    refine mRunF.sg (mSl mk_121 4 2) (g := (12, [some (.ref 0), some (.int a0), some (.int a1)], [.int 200, .int a1], mSS M)) (by decide +kernel) rfl ?_
    refine R_callS (mi := 165) (na := 2) (as := [.int a1, .int 200]) (r := []) (rv := some (.int (Md_isWithin a1 200 M))) (σ1 := mSS M) ⟨179, by decide +kernel⟩ rfl rfl rfl (Md_isWithin_r a1 200 M (d + 4)) ?_
    have b2 := mBool rfl (Md_isWithin_r a1 200 M (d + 4))
    show mRunF _ _ (15, [some (.ref 0), some (.int a0), some (.int a1)], [.int (Md_isWithin a1 200 M)], mSS M)
    refine R_ne (t := 20) ⟨5, by decide +kernel⟩ (fun q => ?_) (fun q => ?_)
    · rw [if_pos q] at h
      refine mRunF.sg (mSl mk_121 8 1) (g := (19, [some (.ref 0), some (.int a0), some (.int a1)], [.int (-1)], mSS M)) (by decide +kernel) rfl ?_
      cases h
      exact R_iret (by decide +kernel)
    · rw [if_neg q] at h
      refine mRunF.sg (mSl mk_121 10 4) (g := (28, [some (.ref 0), some (.int a0), some (.int a1)], [.ref 34, .ref 39], mSS M)) (by decide +kernel) rfl ?_
      obtain ⟨M4, q3, h⟩ := bV_of h
      refine R_callV (mi := 89) (na := 2) (ci := 10) (i := 39) (as := [.ref 34]) (r := []) (rv := none) (σ1 := mSS M4) ⟨128, by decide +kernel⟩ rfl rfl rfl rfl (Wk_begin_r N M (d + 4) q3) ?_
      show mRunF _ _ (31, [some (.ref 0), some (.int a0), some (.int a1)], [], mSS M4)
      refine mRunF.sg (mSl mk_121 15 4) (g := (37, [some (.ref 0), some (.int a0), some (.int a1)], [.int a1, .int a0, .ref 45], mSS M4)) (by decide +kernel) rfl ?_
      obtain ⟨r7, M6, q5, h⟩ := bW_of h
      refine R_callV (mi := 61) (na := 3) (ci := 7) (i := 45) (as := [.int a0, .int a1]) (r := []) (rv := some (.int r7)) (σ1 := mSS M6) ⟨226, by decide +kernel⟩ rfl rfl rfl rfl (Tl_earnings_r N a0 a1 M4 (d + 0) q5) ?_
      show mRunF _ _ (40, [some (.ref 0), some (.int a0), some (.int a1)], [.int r7], mSS M6)
      cases h
      exact R_iret (by decide +kernel)
set_option maxRecDepth 100000 in
set_option maxHeartbeats 4000000 in
theorem Md_outBehind_r (N : Nat) (a0 : Int32) (a1 : Int32) (M : mS) {r : Int32} (d : Nat) (h : Md_outBehind N a0 a1 M = some r) : mMet mP mTx (d + 2) 158 [.ref 0, .int a0, .int a1] (mSS M) (some (.int r)) (mSS M) := by
  refine mMet_i ⟨Nat.le_refl _, Nat.le_refl _, Nat.le_of_ble_eq_true rfl⟩ ?_
  unfold Md_outBehind at h
  show mRunF (mCd 158) (mEE (mMet mP mTx (d + 1)) (some .int) (some (.int r)) M) (0, [some (.ref 0), some (.int a0), some (.int a1)], [], mSS M)
  refine mRunF.sg (mSl mk_158 0 5) (g := (7, [some (.ref 0), some (.int a0), some (.int a1)], [.int (1 + a0), .ref 34], mSS M)) (by decide +kernel) rfl ?_
  obtain ⟨g1, h⟩ := grd_of h
  refine R_iald (by decide +kernel) rfl g1 ?_
  refine mRunF.sg (mSl mk_158 6 6) (g := (16, [some (.ref 0), some (.int a0), some (.int a1)], [.int (5 + a0), .ref 34, .int a1, .int (M.1 34 (1 + a0).toNatClampNeg)], mSS M)) (by decide +kernel) rfl ?_
  obtain ⟨g2, h⟩ := grd_of h
  refine R_iald (by decide +kernel) rfl g2 ?_
  refine mRunF.sg (mSl mk_158 13 5) (g := (26, [some (.ref 0), some (.int a0), some (.int a1)], [.int (M.1 3 6), .int ((M.1 34 (1 + a0).toNatClampNeg) + (a1 * (M.1 34 (5 + a0).toNatClampNeg)))], mSS M)) (by decide +kernel) rfl ?_
  obtain ⟨r4, q3, h⟩ := bR_of h
  refine R_callS (mi := 166) (na := 2) (as := [.int ((M.1 34 (1 + a0).toNatClampNeg) + (a1 * (M.1 34 (5 + a0).toNatClampNeg))), .int (M.1 3 6)]) (r := []) (rv := some (.int r4)) (σ1 := mSS M) ⟨148, by decide +kernel⟩ rfl rfl rfl (Md_rest_r N ((M.1 34 (1 + a0).toNatClampNeg) + (a1 * (M.1 34 (5 + a0).toNatClampNeg))) (M.1 3 6) M (d + 0) q3) ?_
  show mRunF _ _ (29, [some (.ref 0), some (.int a0), some (.int a1)], [.int r4], mSS M)
  cases h
  exact R_iret (by decide +kernel)
set_option maxRecDepth 100000 in
set_option maxHeartbeats 4000000 in
theorem Md_right_12_r {N d : Nat}  {M : mS}  {r : Int32} : ∀ {n : Nat} {x1 : Int32} {x2 : Int32}, Md_right_12 N M n x1 x2 = some r → mRunF (mCd 122) (mEE (mMet mP mTx (d + 2)) (some .int) (some (.int r)) M) (12, [some (.ref 0), some (.int x1), some (.int x2)], [], mSS M) := by
  intro n
  induction n with
  | zero => intro x1 x2 h; cases h
  | succ n ih =>
    replace ih := @ih
    intro x1 x2 h
    unfold Md_right_12 at h
    refine mRunF.sg (mSl mk_122 8 4) (g := (20, [some (.ref 0), some (.int x1), some (.int x2)], [.int (M.1 3 6), .int x2], mSS M)) (by decide +kernel) rfl ?_
    refine R_ige (t := 40) ⟨20, by decide +kernel⟩ (fun q => ?_) (fun q => ?_)
    · rw [if_pos q] at h
      refine mRunF.sg (mSl mk_122 22 1) (g := (42, [some (.ref 0), some (.int x1), some (.int x2)], [.int (-2)], mSS M)) (by decide +kernel) rfl ?_
      cases h
      exact R_iret (by decide +kernel)
    · rw [if_neg q] at h
      refine mRunF.sg (mSl mk_122 13 3) (g := (26, [some (.ref 0), some (.int x1), some (.int x2)], [.int x2, .int x1, .ref 0], mSS M)) (by decide +kernel) rfl ?_
      obtain ⟨r2, q1, h⟩ := bR_of h
      refine R_callV (mi := 158) (na := 3) (ci := 11) (i := 0) (as := [.int x1, .int x2]) (r := []) (rv := some (.int r2)) (σ1 := mSS M) ⟨229, by decide +kernel⟩ rfl rfl rfl rfl (Md_outBehind_r N x1 x2 M (d + 0) q1) ?_
      show mRunF _ _ (29, [some (.ref 0), some (.int x1), some (.int x2)], [.int r2], mSS M)
      refine R_ne (t := 34) ⟨5, by decide +kernel⟩ (fun q => ?_) (fun q => ?_)
      · rw [if_pos q] at h
        refine mRunF.sg (mSl mk_122 18 1) (g := (33, [some (.ref 0), some (.int x1), some (.int x2)], [.int x2], mSS M)) (by decide +kernel) rfl ?_
        cases h
        exact R_iret (by decide +kernel)
      · rw [if_neg q] at h
        refine mRunF.sg (mSl mk_122 20 2) (g := (12, [some (.ref 0), some (.int x1), some (.int (x2 + 1))], [], mSS M)) (by decide +kernel) rfl ?_
        exact @ih _ _ h
set_option maxRecDepth 100000 in
set_option maxHeartbeats 4000000 in
theorem Md_right_r (N : Nat) (a0 : Int32) (M : mS) {r : Int32} (d : Nat) (h : Md_right N a0 M = some r) : mMet mP mTx (d + 3) 122 [.ref 0, .int a0] (mSS M) (some (.int r)) (mSS M) := by
  refine mMet_i ⟨Nat.le_refl _, Nat.le_refl _, Nat.le_of_ble_eq_true rfl⟩ ?_
  unfold Md_right at h
  show mRunF (mCd 122) (mEE (mMet mP mTx (d + 2)) (some .int) (some (.int r)) M) (0, [some (.ref 0), some (.int a0), none], [], mSS M)
  refine mRunF.sg (mSl mk_122 0 2) (g := (2, [some (.ref 0), some (.int a0), none], [.int a0, .ref 0], mSS M)) (by decide +kernel) rfl ?_
  refine R_callV (mi := 160) (na := 2) (ci := 11) (i := 0) (as := [.int a0]) (r := []) (rv := some (.int (Md_isDial a0 M))) (σ1 := mSS M) ⟨124, by decide +kernel⟩ rfl rfl rfl rfl (Md_isDial_r a0 M (d + 1)) ?_
  have b3 := mBool rfl (Md_isDial_r a0 M (d + 1))
  show mRunF _ _ (5, [some (.ref 0), some (.int a0), none], [.int (Md_isDial a0 M)], mSS M)
  refine R_ne (t := 10) ⟨5, by decide +kernel⟩ (fun q => ?_) (fun q => ?_)
  · rw [if_pos q] at h
    refine mRunF.sg (mSl mk_122 4 1) (g := (9, [some (.ref 0), some (.int a0), none], [.int (-1)], mSS M)) (by decide +kernel) rfl ?_
    cases h
    exact R_iret (by decide +kernel)
  · rw [if_neg q] at h
    refine mRunF.sg (mSl mk_122 6 2) (g := (12, [some (.ref 0), some (.int a0), some (.int 0)], [], mSS M)) (by decide +kernel) rfl ?_
    exact Md_right_12_r h
set_option maxRecDepth 100000 in
set_option maxHeartbeats 4000000 in
theorem Md_agree_20_r {N d : Nat}  {M : mS}  {r : Int32} : ∀ {n : Nat} {x1 : Int32} {x2 : Int32} {x3 : Int32}, Md_agree_20 N M n x1 x2 x3 = some r → mRunF (mCd 123) (mEE (mMet mP mTx (d + 2)) (some .int) (some (.int r)) M) (20, [some (.ref 0), some (.int x1), some (.int x2), some (.int x3)], [], mSS M) := by
  intro n
  induction n with
  | zero => intro x1 x2 x3 h; cases h
  | succ n ih =>
    replace ih := @ih
    intro x1 x2 x3 h
    unfold Md_agree_20 at h
    refine mRunF.sg (mSl mk_123 12 4) (g := (28, [some (.ref 0), some (.int x1), some (.int x2), some (.int x3)], [.int (M.1 3 6), .int x3], mSS M)) (by decide +kernel) rfl ?_
    refine R_ige (t := 54) ⟨26, by decide +kernel⟩ (fun q => ?_) (fun q => ?_)
    · rw [if_pos q] at h
      refine mRunF.sg (mSl mk_123 30 1) (g := (56, [some (.ref 0), some (.int x1), some (.int x2), some (.int x3)], [.int (-2)], mSS M)) (by decide +kernel) rfl ?_
      cases h
      exact R_iret (by decide +kernel)
    · rw [if_neg q] at h
      refine mRunF.sg (mSl mk_123 17 3) (g := (34, [some (.ref 0), some (.int x1), some (.int x2), some (.int x3)], [.int x3, .int x1, .ref 0], mSS M)) (by decide +kernel) rfl ?_
      obtain ⟨r2, q1, h⟩ := bR_of h
      refine R_callV (mi := 158) (na := 3) (ci := 11) (i := 0) (as := [.int x1, .int x3]) (r := []) (rv := some (.int r2)) (σ1 := mSS M) ⟨229, by decide +kernel⟩ rfl rfl rfl rfl (Md_outBehind_r N x1 x3 M (d + 0) q1) ?_
      show mRunF _ _ (37, [some (.ref 0), some (.int x1), some (.int x2), some (.int x3)], [.int r2], mSS M)
      refine mRunF.sg (mSl mk_123 21 3) (g := (40, [some (.ref 0), some (.int x1), some (.int x2), some (.int x3)], [.int x3, .int x2, .ref 0, .int r2], mSS M)) (by decide +kernel) rfl ?_
      obtain ⟨r4, q3, h⟩ := bR_of h
      refine R_callV (mi := 158) (na := 3) (ci := 11) (i := 0) (as := [.int x2, .int x3]) (r := [.int r2]) (rv := some (.int r4)) (σ1 := mSS M) ⟨229, by decide +kernel⟩ rfl rfl rfl rfl (Md_outBehind_r N x2 x3 M (d + 0) q3) ?_
      show mRunF _ _ (43, [some (.ref 0), some (.int x1), some (.int x2), some (.int x3)], [.int r4, .int r2], mSS M)
      refine R_ine (t := 48) ⟨5, by decide +kernel⟩ (fun q => ?_) (fun q => ?_)
      · rw [if_pos q] at h
        refine mRunF.sg (mSl mk_123 26 1) (g := (47, [some (.ref 0), some (.int x1), some (.int x2), some (.int x3)], [.int x3], mSS M)) (by decide +kernel) rfl ?_
        cases h
        exact R_iret (by decide +kernel)
      · rw [if_neg q] at h
        refine mRunF.sg (mSl mk_123 28 2) (g := (20, [some (.ref 0), some (.int x1), some (.int x2), some (.int (x3 + 1))], [], mSS M)) (by decide +kernel) rfl ?_
        exact @ih _ _ _ h
set_option maxRecDepth 100000 in
set_option maxHeartbeats 4000000 in
theorem Md_agree_r (N : Nat) (a0 : Int32) (a1 : Int32) (M : mS) {r : Int32} (d : Nat) (h : Md_agree N a0 a1 M = some r) : mMet mP mTx (d + 3) 123 [.ref 0, .int a0, .int a1] (mSS M) (some (.int r)) (mSS M) := by
  refine mMet_i ⟨Nat.le_refl _, Nat.le_refl _, Nat.le_of_ble_eq_true rfl⟩ ?_
  unfold Md_agree at h
  show mRunF (mCd 123) (mEE (mMet mP mTx (d + 2)) (some .int) (some (.int r)) M) (0, [some (.ref 0), some (.int a0), some (.int a1), none], [], mSS M)
  refine mRunF.sg (mSl mk_123 0 2) (g := (2, [some (.ref 0), some (.int a0), some (.int a1), none], [.int a0, .ref 0], mSS M)) (by decide +kernel) rfl ?_
  refine R_callV (mi := 160) (na := 2) (ci := 11) (i := 0) (as := [.int a0]) (r := []) (rv := some (.int (Md_isDial a0 M))) (σ1 := mSS M) ⟨124, by decide +kernel⟩ rfl rfl rfl rfl (Md_isDial_r a0 M (d + 1)) ?_
  have b5 := mBool rfl (Md_isDial_r a0 M (d + 1))
  show mRunF _ _ (5, [some (.ref 0), some (.int a0), some (.int a1), none], [.int (Md_isDial a0 M)], mSS M)
  refine R_eq (t := 16) ⟨11, by decide +kernel⟩ (fun q => ?_) (fun q => ?_)
  · rw [if_pos q] at h
    refine mRunF.sg (mSl mk_123 8 1) (g := (17, [some (.ref 0), some (.int a0), some (.int a1), none], [.int (-1)], mSS M)) (by decide +kernel) rfl ?_
    cases h
    exact R_iret (by decide +kernel)
  · rw [if_neg q] at h
    refine mRunF.sg (mSl mk_123 4 2) (g := (10, [some (.ref 0), some (.int a0), some (.int a1), none], [.int a1, .ref 0], mSS M)) (by decide +kernel) rfl ?_
    refine R_callV (mi := 160) (na := 2) (ci := 11) (i := 0) (as := [.int a1]) (r := []) (rv := some (.int (Md_isDial a1 M))) (σ1 := mSS M) ⟨124, by decide +kernel⟩ rfl rfl rfl rfl (Md_isDial_r a1 M (d + 1)) ?_
    have b6 := mBool rfl (Md_isDial_r a1 M (d + 1))
    show mRunF _ _ (13, [some (.ref 0), some (.int a0), some (.int a1), none], [.int (Md_isDial a1 M)], mSS M)
    refine R_ne (t := 18) ⟨5, by decide +kernel⟩ (fun q => ?_) (fun q => ?_)
    · rw [if_pos q] at h
      refine mRunF.sg (mSl mk_123 8 1) (g := (17, [some (.ref 0), some (.int a0), some (.int a1), none], [.int (-1)], mSS M)) (by decide +kernel) rfl ?_
      cases h
      exact R_iret (by decide +kernel)
    · rw [if_neg q] at h
      refine mRunF.sg (mSl mk_123 10 2) (g := (20, [some (.ref 0), some (.int a0), some (.int a1), some (.int 0)], [], mSS M)) (by decide +kernel) rfl ?_
      exact Md_agree_20_r h
set_option maxRecDepth 100000 in
set_option maxHeartbeats 4000000 in
theorem Md_allOutAsNow_2_r {N d : Nat}  {M : mS}  {r : Int32} : ∀ {n : Nat} {x1 : Int32} {x2 : Int32}, Md_allOutAsNow_2 N M n x1 x2 = some r → mRunF (mCd 159) (mEE (mMet mP mTx (d + 2)) (some .boolean) (some (.int r)) M) (2, [some (.ref 0), some (.int x1), some (.int x2)], [], mSS M) := by
  intro n
  induction n with
  | zero => intro x1 x2 h; cases h
  | succ n ih =>
    replace ih := @ih
    intro x1 x2 h
    unfold Md_allOutAsNow_2 at h
    refine mRunF.sg (mSl mk_159 2 4) (g := (10, [some (.ref 0), some (.int x1), some (.int x2)], [.int (M.1 3 7), .int x2], mSS M)) (by decide +kernel) rfl ?_
    refine R_ige (t := 38) ⟨28, by decide +kernel⟩ (fun q => ?_) (fun q => ?_)
    · rw [if_pos q] at h
      refine mRunF.sg (mSl mk_159 22 1) (g := (39, [some (.ref 0), some (.int x1), some (.int x2)], [.int 1], mSS M)) (by decide +kernel) rfl ?_
      cases h
      exact R_zret (by decide +kernel) (Or.inr rfl)
    · rw [if_neg q] at h
      refine mRunF.sg (mSl mk_159 7 3) (g := (16, [some (.ref 0), some (.int x1), some (.int x2)], [.int x1, .int x2, .ref 0], mSS M)) (by decide +kernel) rfl ?_
      obtain ⟨r2, q1, h⟩ := bR_of h
      refine R_callV (mi := 158) (na := 3) (ci := 11) (i := 0) (as := [.int x2, .int x1]) (r := []) (rv := some (.int r2)) (σ1 := mSS M) ⟨229, by decide +kernel⟩ rfl rfl rfl rfl (Md_outBehind_r N x2 x1 M (d + 0) q1) ?_
      show mRunF _ _ (19, [some (.ref 0), some (.int x1), some (.int x2)], [.int r2], mSS M)
      refine mRunF.sg (mSl mk_159 11 5) (g := (26, [some (.ref 0), some (.int x1), some (.int x2)], [.int (1 + x2), .ref 34, .int r2], mSS M)) (by decide +kernel) rfl ?_
      obtain ⟨g3, h⟩ := grd_of h
      refine R_iald (by decide +kernel) rfl g3 ?_
      refine R_ieq (t := 32) ⟨5, by decide +kernel⟩ (fun q => ?_) (fun q => ?_)
      · rw [if_pos q] at h
        refine mRunF.sg (mSl mk_159 20 2) (g := (2, [some (.ref 0), some (.int x1), some (.int (x2 + 1))], [], mSS M)) (by decide +kernel) rfl ?_
        exact @ih _ _ h
      · rw [if_neg q] at h
        refine mRunF.sg (mSl mk_159 18 1) (g := (31, [some (.ref 0), some (.int x1), some (.int x2)], [.int 0], mSS M)) (by decide +kernel) rfl ?_
        cases h
        exact R_zret (by decide +kernel) (Or.inl rfl)
set_option maxRecDepth 100000 in
set_option maxHeartbeats 4000000 in
theorem Md_allOutAsNow_r (N : Nat) (a0 : Int32) (M : mS) {r : Int32} (d : Nat) (h : Md_allOutAsNow N a0 M = some r) : mMet mP mTx (d + 3) 159 [.ref 0, .int a0] (mSS M) (some (.int r)) (mSS M) := by
  refine mMet_i ⟨Nat.le_refl _, Nat.le_refl _, Nat.le_of_ble_eq_true rfl⟩ ?_
  unfold Md_allOutAsNow at h
  show mRunF (mCd 159) (mEE (mMet mP mTx (d + 2)) (some .boolean) (some (.int r)) M) (0, [some (.ref 0), some (.int a0), none], [], mSS M)
  refine mRunF.sg (mSl mk_159 0 2) (g := (2, [some (.ref 0), some (.int a0), some (.int 0)], [], mSS M)) (by decide +kernel) rfl ?_
  exact Md_allOutAsNow_2_r h
set_option maxRecDepth 100000 in
set_option maxHeartbeats 4000000 in
theorem Md_round_2_r {N d : Nat}  {M : mS}  {r : Int32} : ∀ {n : Nat} {x1 : Int32}, Md_round_2 N M n x1 = some r → mRunF (mCd 124) (mEE (mMet mP mTx (d + 3)) (some .int) (some (.int r)) M) (2, [some (.ref 0), some (.int x1)], [], mSS M) := by
  intro n
  induction n with
  | zero => intro x1 h; cases h
  | succ n ih =>
    replace ih := @ih
    intro x1 h
    unfold Md_round_2 at h
    refine mRunF.sg (mSl mk_124 2 4) (g := (10, [some (.ref 0), some (.int x1)], [.int (M.1 3 6), .int x1], mSS M)) (by decide +kernel) rfl ?_
    refine R_ige (t := 29) ⟨19, by decide +kernel⟩ (fun q => ?_) (fun q => ?_)
    · rw [if_pos q] at h
      refine mRunF.sg (mSl mk_124 15 3) (g := (36, [some (.ref 0), some (.int x1)], [.int (M.1 3 6)], mSS M)) (by decide +kernel) rfl ?_
      cases h
      exact R_iret (by decide +kernel)
    · rw [if_neg q] at h
      refine mRunF.sg (mSl mk_124 7 2) (g := (15, [some (.ref 0), some (.int x1)], [.int x1, .ref 0], mSS M)) (by decide +kernel) rfl ?_
      obtain ⟨r2, q1, h⟩ := bR_of h
      refine R_callV (mi := 159) (na := 2) (ci := 11) (i := 0) (as := [.int x1]) (r := []) (rv := some (.int r2)) (σ1 := mSS M) ⟨232, by decide +kernel⟩ rfl rfl rfl rfl (Md_allOutAsNow_r N x1 M (d + 0) q1) ?_
      have b3 := mBool rfl (Md_allOutAsNow_r N x1 M (d + 0) q1)
      show mRunF _ _ (18, [some (.ref 0), some (.int x1)], [.int r2], mSS M)
      refine R_eq (t := 23) ⟨5, by decide +kernel⟩ (fun q => ?_) (fun q => ?_)
      · rw [if_pos q] at h
        refine mRunF.sg (mSl mk_124 13 2) (g := (2, [some (.ref 0), some (.int (x1 + 1))], [], mSS M)) (by decide +kernel) rfl ?_
        exact @ih _ h
      · rw [if_neg q] at h
        refine mRunF.sg (mSl mk_124 11 1) (g := (22, [some (.ref 0), some (.int x1)], [.int x1], mSS M)) (by decide +kernel) rfl ?_
        cases h
        exact R_iret (by decide +kernel)
set_option maxRecDepth 100000 in
set_option maxHeartbeats 4000000 in
theorem Md_round_r (N : Nat)  (M : mS) {r : Int32} (d : Nat) (h : Md_round N M = some r) : mMet mP mTx (d + 4) 124 [.ref 0] (mSS M) (some (.int r)) (mSS M) := by
  refine mMet_i ⟨Nat.le_refl _, Nat.le_refl _, Nat.le_of_ble_eq_true rfl⟩ ?_
  unfold Md_round at h
  show mRunF (mCd 124) (mEE (mMet mP mTx (d + 3)) (some .int) (some (.int r)) M) (0, [some (.ref 0), none], [], mSS M)
  refine mRunF.sg (mSl mk_124 0 2) (g := (2, [some (.ref 0), some (.int 1)], [], mSS M)) (by decide +kernel) rfl ?_
  exact Md_round_2_r h
set_option maxRecDepth 100000 in
set_option maxHeartbeats 4000000 in
theorem Mt_meetsWith_r (N : Nat) (a0 : Int32) (a1 : Int32) (a2 : Int32) (a3 : Int32) (M : mS) {r : Int32} {M' : mS} (d : Nat) (h : Mt_meetsWith N a0 a1 a2 a3 M = some (r, M')) : mMet mP mTx (d + 6) 23 [.ref 44, .ref 34, .int a0, .int a1, .int a2, .int a3] (mSS M) (some (.int r)) (mSS M') := by
  refine mMet_i ⟨Nat.le_refl _, Nat.le_refl _, Nat.le_of_ble_eq_true rfl⟩ ?_
  unfold Mt_meetsWith at h
  show mRunF (mCd 23) (mEE (mMet mP mTx (d + 5)) (some .boolean) (some (.int r)) M') (0, [some (.ref 44), some (.ref 34), some (.int a0), some (.int a1), some (.int a2), some (.int a3)], [], mSS M)
  refine mRunF.sg (mSl mk_23 0 3) (g := (5, [some (.ref 44), some (.ref 34), some (.int a0), some (.int a1), some (.int a2), some (.int a3)], [.ref 34, .ref 39], mSS M)) (by decide +kernel) rfl ?_
  obtain ⟨M2, q1, h⟩ := bV_of h
  refine R_callV (mi := 89) (na := 2) (ci := 10) (i := 39) (as := [.ref 34]) (r := []) (rv := none) (σ1 := mSS M2) ⟨57, by decide +kernel⟩ rfl rfl rfl rfl (Wk_begin_r N M (d + 4) q1) ?_
  show mRunF _ _ (8, [some (.ref 44), some (.ref 34), some (.int a0), some (.int a1), some (.int a2), some (.int a3)], [], mSS M2)
  refine mRunF.sg (mSl mk_23 4 5) (g := (17, [some (.ref 44), some (.ref 34), some (.int a0), some (.int a1), some (.int a2), some (.int a3)], [.int a1, .int a0, .ref 40], mSS M2)) (by decide +kernel) rfl ?_
  obtain ⟨g3, h⟩ := grd_of h
  refine R_iast (by decide +kernel) rfl g3 ?_
  obtain ⟨M4, hv, h⟩ := nxt_ex h
  rw [← hv]
  clear hv
  refine mRunF.sg (mSl mk_23 10 3) (g := (23, [some (.ref 44), some (.ref 34), some (.int a0), some (.int a1), some (.int a2), some (.int a3)], [.int a3, .int a2, .ref 44], mSS M4)) (by decide +kernel) rfl ?_
  obtain ⟨r7, M6, q5, h⟩ := bW_of h
  refine R_callV (mi := 19) (na := 3) (ci := 3) (i := 44) (as := [.int a2, .int a3]) (r := []) (rv := some (.int r7)) (σ1 := mSS M6) ⟨64, by decide +kernel⟩ rfl rfl rfl rfl (Mt_firstNight_r N a2 a3 M4 (d + 0) q5) ?_
  show mRunF _ _ (26, [some (.ref 44), some (.ref 34), some (.int a0), some (.int a1), some (.int a2), some (.int a3)], [.int r7], mSS M6)
  refine mRunF.sg (mSl mk_23 14 1) (g := (28, [some (.ref 44), some (.ref 34), some (.int a0), some (.int a1), some (.int a2), some (.int a3)], [.int (-2), .int r7], mSS M6)) (by decide +kernel) rfl ?_
  refine R_ieq (t := 35) ⟨7, by decide +kernel⟩ (fun q => ?_) (fun q => ?_)
  · rw [if_pos q] at h
    refine mRunF.sg (mSl mk_23 18 1) (g := (36, [some (.ref 44), some (.ref 34), some (.int a0), some (.int a1), some (.int a2), some (.int a3)], [.int 0], mSS M6)) (by decide +kernel) rfl ?_
    cases h
    exact R_zret (by decide +kernel) (Or.inl rfl)
  · rw [if_neg q] at h
    refine mRunF.sg (mSl mk_23 16 2) (g := (36, [some (.ref 44), some (.ref 34), some (.int a0), some (.int a1), some (.int a2), some (.int a3)], [.int 1], mSS M6)) (by decide +kernel) rfl ?_
    cases h
    exact R_zret (by decide +kernel) (Or.inr rfl)
set_option maxRecDepth 100000 in
set_option maxHeartbeats 4000000 in
theorem Mt_leastTurn_80_r {N d : Nat} {k3 : Int32 → Int32 → Int32 → Int32 → Int32 → mS → Option (Int32 × mS)} {M : mS} {x2 : Int32} {x3 : Int32} {x4 : Int32} {x5 : Int32} {x6 : Int32} {r : Int32} {M' : mS} (hk3 : ∀ (x2 : Int32) (x3 : Int32) (x4 : Int32) (x5 : Int32) (x6 : Int32) (M : mS), k3 x2 x3 x4 x5 x6 M = some (r, M') → mRunF (mCd 21) (mEE (mMet mP mTx (d + 6)) (some .int) (some (.int r)) M') (3, [some (.ref 44), some (.ref 34), some (.int x2), some (.int x3), some (.int x4), some (.int x5), some (.int x6), none], [], mSS M)) (h : Mt_leastTurn_80 N k3 x2 x3 x4 x5 x6 M = some (r, M')) : mRunF (mCd 21) (mEE (mMet mP mTx (d + 6)) (some .int) (some (.int r)) M') (80, [some (.ref 44), some (.ref 34), some (.int x2), some (.int x3), some (.int x4), some (.int x5), some (.int x6), none], [], mSS M) := by
  unfold Mt_leastTurn_80 at h
  refine mRunF.sg (mSl mk_21 45 2) (g := (3, [some (.ref 44), some (.ref 34), some (.int x2), some (.int x3), some (.int x4), some (.int x5), some (.int (x6 + 1)), none], [], mSS M)) (by decide +kernel) rfl ?_
  exact hk3 _ _ _ _ _ _ h
set_option maxRecDepth 100000 in
set_option maxHeartbeats 4000000 in
theorem Mt_leastTurn_55_r {N d : Nat} {k3 : Int32 → Int32 → Int32 → Int32 → Int32 → mS → Option (Int32 × mS)} {M : mS} {x2 : Int32} {x3 : Int32} {x4 : Int32} {x5 : Int32} {x6 : Int32} {x7 : Int32} {r : Int32} {M' : mS} (hk3 : ∀ (x2 : Int32) (x3 : Int32) (x4 : Int32) (x5 : Int32) (x6 : Int32) (M : mS), k3 x2 x3 x4 x5 x6 M = some (r, M') → mRunF (mCd 21) (mEE (mMet mP mTx (d + 6)) (some .int) (some (.int r)) M') (3, [some (.ref 44), some (.ref 34), some (.int x2), some (.int x3), some (.int x4), some (.int x5), some (.int x6), none], [], mSS M)) (h : Mt_leastTurn_55 N k3 x2 x3 x4 x5 x6 x7 M = some (r, M')) : mRunF (mCd 21) (mEE (mMet mP mTx (d + 6)) (some .int) (some (.int r)) M') (55, [some (.ref 44), some (.ref 34), some (.int x2), some (.int x3), some (.int x4), some (.int x5), some (.int x6), some (.int x7)], [], mSS M) := by
  unfold Mt_leastTurn_55 at h
  refine mRunF.sg (mSl mk_21 31 1) (g := (57, [some (.ref 44), some (.ref 34), some (.int x2), some (.int x3), some (.int x4), some (.int x5), some (.int x6), some (.int x7)], [.int x4], mSS M)) (by decide +kernel) rfl ?_
  refine R_eq (t := 77) ⟨20, by decide +kernel⟩ (fun q => ?_) (fun q => ?_)
  · rw [if_pos q] at h
    refine mRunF.sg (mSl mk_21 43 1) (g := (79, [some (.ref 44), some (.ref 34), some (.int x2), some (.int x3), some (.int x4), some (.int x5), some (.int x6), some (.int x7)], [.int x6], mSS M)) (by decide +kernel) rfl ?_
    cases h
    exact R_iret (by decide +kernel)
  · rw [if_neg q] at h
    refine mRunF.sg (mSl mk_21 33 8) (g := (71, [some (.ref 44), some (.ref 34), some (.int x2), some (.int x3), some (.int x4), some (.int x5), some (.int x6), some (.int x7)], [.int x5, .int x4, .int x7, .int (1 + x2), .ref 34, .ref 44], mSS M)) (by decide +kernel) rfl ?_
    obtain ⟨r3, M2, q1, h⟩ := bW_of h
    refine R_callV (mi := 23) (na := 6) (ci := 3) (i := 44) (as := [.ref 34, .int (1 + x2), .int x7, .int x4, .int x5]) (r := []) (rv := some (.int r3)) (σ1 := mSS M2) ⟨53, by decide +kernel⟩ rfl rfl rfl rfl (Mt_meetsWith_r N (1 + x2) x7 x4 x5 M (d + 0) q1) ?_
    have b4 := mBool rfl (Mt_meetsWith_r N (1 + x2) x7 x4 x5 M (d + 0) q1)
    show mRunF _ _ (74, [some (.ref 44), some (.ref 34), some (.int x2), some (.int x3), some (.int x4), some (.int x5), some (.int x6), some (.int x7)], [.int r3], mSS M2)
    refine R_ne (t := 80) ⟨6, by decide +kernel⟩ (fun q => ?_) (fun q => ?_)
    · rw [if_pos q] at h
      refine mRunF.sg (mSl mk_21 43 1) (g := (79, [some (.ref 44), some (.ref 34), some (.int x2), some (.int x3), some (.int x4), some (.int x5), some (.int x6), some (.int x7)], [.int x6], mSS M2)) (by decide +kernel) rfl ?_
      cases h
      exact R_iret (by decide +kernel)
    · rw [if_neg q] at h
      refine mRunF.forget [true, true, true, true, true, true, true, false] ?_
      exact Mt_leastTurn_80_r hk3 h
set_option maxRecDepth 100000 in
set_option maxHeartbeats 4000000 in
theorem Mt_leastTurn_3_r {N d : Nat}   {r : Int32} {M' : mS} : ∀ {n : Nat} {x2 : Int32} {x3 : Int32} {x4 : Int32} {x5 : Int32} {x6 : Int32} {M : mS}, Mt_leastTurn_3 N n x2 x3 x4 x5 x6 M = some (r, M') → mRunF (mCd 21) (mEE (mMet mP mTx (d + 6)) (some .int) (some (.int r)) M') (3, [some (.ref 44), some (.ref 34), some (.int x2), some (.int x3), some (.int x4), some (.int x5), some (.int x6), none], [], mSS M) := by
  intro n
  induction n with
  | zero => intro x2 x3 x4 x5 x6 M h; cases h
  | succ n ih =>
    replace ih := @ih
    intro x2 x3 x4 x5 x6 M h
    unfold Mt_leastTurn_3 at h
    refine mRunF.sg (mSl mk_21 2 4) (g := (12, [some (.ref 44), some (.ref 34), some (.int x2), some (.int x3), some (.int x4), some (.int x5), some (.int x6), none], [.int (M.1 3 6), .int x6], mSS M)) (by decide +kernel) rfl ?_
    refine R_ige (t := 86) ⟨74, by decide +kernel⟩ (fun q => ?_) (fun q => ?_)
    · rw [if_pos q] at h
      refine mRunF.sg (mSl mk_21 47 1) (g := (88, [some (.ref 44), some (.ref 34), some (.int x2), some (.int x3), some (.int x4), some (.int x5), some (.int x6), none], [.int (-2)], mSS M)) (by decide +kernel) rfl ?_
      cases h
      exact R_iret (by decide +kernel)
    · rw [if_neg q] at h
      refine mRunF.sg (mSl mk_21 7 4) (g := (19, [some (.ref 44), some (.ref 34), some (.int x2), some (.int x3), some (.int x4), some (.int x5), some (.int x6), none], [.int (1 + x2), .ref 34], mSS M)) (by decide +kernel) rfl ?_
      obtain ⟨g5, h⟩ := grd_of h
      refine R_iald (by decide +kernel) rfl g5 ?_
      refine mRunF.sg (mSl mk_21 12 5) (g := (30, [some (.ref 44), some (.ref 34), some (.int x2), some (.int x3), some (.int x4), some (.int x5), some (.int x6), none], [.int (M.1 3 6), .int ((M.1 34 (1 + x2).toNatClampNeg) + x6)], mSS M)) (by decide +kernel) rfl ?_
      obtain ⟨r7, q6, h⟩ := bR_of h
      refine R_callS (mi := 166) (na := 2) (as := [.int ((M.1 34 (1 + x2).toNatClampNeg) + x6), .int (M.1 3 6)]) (r := []) (rv := some (.int r7)) (σ1 := mSS M) ⟨49, by decide +kernel⟩ rfl rfl rfl (Md_rest_r N ((M.1 34 (1 + x2).toNatClampNeg) + x6) (M.1 3 6) M (d + 5) q6) ?_
      show mRunF _ _ (33, [some (.ref 44), some (.ref 34), some (.int x2), some (.int x3), some (.int x4), some (.int x5), some (.int x6), none], [.int r7], mSS M)
      refine mRunF.sg (mSl mk_21 18 2) (g := (36, [some (.ref 44), some (.ref 34), some (.int x2), some (.int x3), some (.int x4), some (.int x5), some (.int x6), some (.int r7)], [.int x3], mSS M)) (by decide +kernel) rfl ?_
      refine R_eq (t := 55) ⟨19, by decide +kernel⟩ (fun q => ?_) (fun q => ?_)
      · rw [if_pos q] at h
        exact Mt_leastTurn_55_r (fun y0 y1 y2 y3 y4 y5 hh => @ih y0 y1 y2 y3 y4 y5 hh) h
      · rw [if_neg q] at h
        refine mRunF.sg (mSl mk_21 21 8) (g := (49, [some (.ref 44), some (.ref 34), some (.int x2), some (.int x3), some (.int x4), some (.int x5), some (.int x6), some (.int r7)], [.int x5, .int x3, .int r7, .int (1 + x2), .ref 34, .ref 44], mSS M)) (by decide +kernel) rfl ?_
        obtain ⟨r10, M9, q8, h⟩ := bW_of h
        refine R_callV (mi := 23) (na := 6) (ci := 3) (i := 44) (as := [.ref 34, .int (1 + x2), .int r7, .int x3, .int x5]) (r := []) (rv := some (.int r10)) (σ1 := mSS M9) ⟨53, by decide +kernel⟩ rfl rfl rfl rfl (Mt_meetsWith_r N (1 + x2) r7 x3 x5 M (d + 0) q8) ?_
        have b11 := mBool rfl (Mt_meetsWith_r N (1 + x2) r7 x3 x5 M (d + 0) q8)
        show mRunF _ _ (52, [some (.ref 44), some (.ref 34), some (.int x2), some (.int x3), some (.int x4), some (.int x5), some (.int x6), some (.int r7)], [.int r10], mSS M9)
        refine R_eq (t := 80) ⟨28, by decide +kernel⟩ (fun q => ?_) (fun q => ?_)
        · rw [if_pos q] at h
          refine mRunF.forget [true, true, true, true, true, true, true, false] ?_
          exact Mt_leastTurn_80_r (fun y0 y1 y2 y3 y4 y5 hh => @ih y0 y1 y2 y3 y4 y5 hh) h
        · rw [if_neg q] at h
          exact Mt_leastTurn_55_r (fun y0 y1 y2 y3 y4 y5 hh => @ih y0 y1 y2 y3 y4 y5 hh) h
set_option maxRecDepth 100000 in
set_option maxHeartbeats 4000000 in
theorem Mt_leastTurn_r (N : Nat) (a0 : Int32) (a1 : Int32) (a2 : Int32) (a3 : Int32) (M : mS) {r : Int32} {M' : mS} (d : Nat) (h : Mt_leastTurn N a0 a1 a2 a3 M = some (r, M')) : mMet mP mTx (d + 7) 21 [.ref 44, .ref 34, .int a0, .int a1, .int a2, .int a3] (mSS M) (some (.int r)) (mSS M') := by
  refine mMet_i ⟨Nat.le_refl _, Nat.le_refl _, Nat.le_of_ble_eq_true rfl⟩ ?_
  unfold Mt_leastTurn at h
  show mRunF (mCd 21) (mEE (mMet mP mTx (d + 6)) (some .int) (some (.int r)) M') (0, [some (.ref 44), some (.ref 34), some (.int a0), some (.int a1), some (.int a2), some (.int a3), none, none], [], mSS M)
  refine mRunF.sg (mSl mk_21 0 2) (g := (3, [some (.ref 44), some (.ref 34), some (.int a0), some (.int a1), some (.int a2), some (.int a3), some (.int 0), none], [], mSS M)) (by decide +kernel) rfl ?_
  exact Mt_leastTurn_3_r h
set_option maxRecDepth 100000 in
set_option maxHeartbeats 4000000 in
theorem Md_turns_r (N : Nat) (a0 : Int32) (a1 : Int32) (a2 : Int32) (M : mS) {r : Int32} {M' : mS} (d : Nat) (h : Md_turns N a0 a1 a2 M = some (r, M')) : mMet mP mTx (d + 8) 125 [.ref 0, .int a0, .int a1, .int a2] (mSS M) (some (.int r)) (mSS M') := by
  refine mMet_i ⟨Nat.le_refl _, Nat.le_refl _, Nat.le_of_ble_eq_true rfl⟩ ?_
  unfold Md_turns at h
  show mRunF (mCd 125) (mEE (mMet mP mTx (d + 7)) (some .int) (some (.int r)) M') (0, [some (.ref 0), some (.int a0), some (.int a1), some (.int a2)], [], mSS M)
  refine mRunF.sg (mSl mk_125 0 2) (g := (2, [some (.ref 0), some (.int a0), some (.int a1), some (.int a2)], [.int a0, .ref 0], mSS M)) (by decide +kernel) rfl ?_
  refine R_callV (mi := 160) (na := 2) (ci := 11) (i := 0) (as := [.int a0]) (r := []) (rv := some (.int (Md_isDial a0 M))) (σ1 := mSS M) ⟨124, by decide +kernel⟩ rfl rfl rfl rfl (Md_isDial_r a0 M (d + 6)) ?_
  have b1 := mBool rfl (Md_isDial_r a0 M (d + 6))
  show mRunF _ _ (5, [some (.ref 0), some (.int a0), some (.int a1), some (.int a2)], [.int (Md_isDial a0 M)], mSS M)
  refine R_eq (t := 25) ⟨20, by decide +kernel⟩ (fun q => ?_) (fun q => ?_)
  · rw [if_pos q] at h
    refine mRunF.sg (mSl mk_125 12 1) (g := (26, [some (.ref 0), some (.int a0), some (.int a1), some (.int a2)], [.int (-1)], mSS M)) (by decide +kernel) rfl ?_
    cases h
    exact R_iret (by decide +kernel)
  · rw [if_neg q] at h
    refine mRunF.sg (mSl mk_125 4 2) (g := (10, [some (.ref 0), some (.int a0), some (.int a1), some (.int a2)], [.int a1, .ref 0], mSS M)) (by decide +kernel) rfl ?_
    refine R_callV (mi := 164) (na := 2) (ci := 11) (i := 0) (as := [.int a1]) (r := []) (rv := some (.int (Md_isSet a1 M))) (σ1 := mSS M) ⟨204, by decide +kernel⟩ rfl rfl rfl rfl (Md_isSet_r a1 M (d + 5)) ?_
    have b2 := mBool rfl (Md_isSet_r a1 M (d + 5))
    show mRunF _ _ (13, [some (.ref 0), some (.int a0), some (.int a1), some (.int a2)], [.int (Md_isSet a1 M)], mSS M)
    refine R_eq (t := 25) ⟨12, by decide +kernel⟩ (fun q => ?_) (fun q => ?_)
    · rw [if_pos q] at h
      refine mRunF.sg (mSl mk_125 12 1) (g := (26, [some (.ref 0), some (.int a0), some (.int a1), some (.int a2)], [.int (-1)], mSS M)) (by decide +kernel) rfl ?_
      cases h
      exact R_iret (by decide +kernel)
    · rw [if_neg q] at h
      refine mRunF.sg (mSl mk_125 8 2) (g := (19, [some (.ref 0), some (.int a0), some (.int a1), some (.int a2)], [.int 60, .int a2], mSS M)) (by decide +kernel) rfl ?_
      refine R_callS (mi := 165) (na := 2) (as := [.int a2, .int 60]) (r := []) (rv := some (.int (Md_isWithin a2 60 M))) (σ1 := mSS M) ⟨179, by decide +kernel⟩ rfl rfl rfl (Md_isWithin_r a2 60 M (d + 6)) ?_
      have b3 := mBool rfl (Md_isWithin_r a2 60 M (d + 6))
      show mRunF _ _ (22, [some (.ref 0), some (.int a0), some (.int a1), some (.int a2)], [.int (Md_isWithin a2 60 M)], mSS M)
      refine R_ne (t := 27) ⟨5, by decide +kernel⟩ (fun q => ?_) (fun q => ?_)
      · rw [if_pos q] at h
        refine mRunF.sg (mSl mk_125 12 1) (g := (26, [some (.ref 0), some (.int a0), some (.int a1), some (.int a2)], [.int (-1)], mSS M)) (by decide +kernel) rfl ?_
        cases h
        exact R_iret (by decide +kernel)
      · rw [if_neg q] at h
        refine mRunF.sg (mSl mk_125 14 8) (g := (39, [some (.ref 0), some (.int a0), some (.int a1), some (.int a2)], [.int a2, .int 0, .int a1, .int a0, .ref 34, .ref 44], mSS M)) (by decide +kernel) rfl ?_
        obtain ⟨r6, M5, q4, h⟩ := bW_of h
        refine R_callV (mi := 21) (na := 6) (ci := 3) (i := 44) (as := [.ref 34, .int a0, .int a1, .int 0, .int a2]) (r := []) (rv := some (.int r6)) (σ1 := mSS M5) ⟨235, by decide +kernel⟩ rfl rfl rfl rfl (Mt_leastTurn_r N a0 a1 0 a2 M (d + 0) q4) ?_
        show mRunF _ _ (42, [some (.ref 0), some (.int a0), some (.int a1), some (.int a2)], [.int r6], mSS M5)
        cases h
        exact R_iret (by decide +kernel)
set_option maxRecDepth 100000 in
set_option maxHeartbeats 4000000 in
theorem Md_parts_r (N : Nat) (a0 : Int32) (a1 : Int32) (a2 : Int32) (M : mS) {r : Int32} {M' : mS} (d : Nat) (h : Md_parts N a0 a1 a2 M = some (r, M')) : mMet mP mTx (d + 8) 126 [.ref 0, .int a0, .int a1, .int a2] (mSS M) (some (.int r)) (mSS M') := by
  refine mMet_i ⟨Nat.le_refl _, Nat.le_refl _, Nat.le_of_ble_eq_true rfl⟩ ?_
  unfold Md_parts at h
  show mRunF (mCd 126) (mEE (mMet mP mTx (d + 7)) (some .int) (some (.int r)) M') (0, [some (.ref 0), some (.int a0), some (.int a1), some (.int a2)], [], mSS M)
  refine mRunF.sg (mSl mk_126 0 2) (g := (2, [some (.ref 0), some (.int a0), some (.int a1), some (.int a2)], [.int a0, .ref 0], mSS M)) (by decide +kernel) rfl ?_
  refine R_callV (mi := 160) (na := 2) (ci := 11) (i := 0) (as := [.int a0]) (r := []) (rv := some (.int (Md_isDial a0 M))) (σ1 := mSS M) ⟨124, by decide +kernel⟩ rfl rfl rfl rfl (Md_isDial_r a0 M (d + 6)) ?_
  have b1 := mBool rfl (Md_isDial_r a0 M (d + 6))
  show mRunF _ _ (5, [some (.ref 0), some (.int a0), some (.int a1), some (.int a2)], [.int (Md_isDial a0 M)], mSS M)
  refine R_eq (t := 25) ⟨20, by decide +kernel⟩ (fun q => ?_) (fun q => ?_)
  · rw [if_pos q] at h
    refine mRunF.sg (mSl mk_126 12 1) (g := (26, [some (.ref 0), some (.int a0), some (.int a1), some (.int a2)], [.int (-1)], mSS M)) (by decide +kernel) rfl ?_
    cases h
    exact R_iret (by decide +kernel)
  · rw [if_neg q] at h
    refine mRunF.sg (mSl mk_126 4 2) (g := (10, [some (.ref 0), some (.int a0), some (.int a1), some (.int a2)], [.int a1, .ref 0], mSS M)) (by decide +kernel) rfl ?_
    refine R_callV (mi := 164) (na := 2) (ci := 11) (i := 0) (as := [.int a1]) (r := []) (rv := some (.int (Md_isSet a1 M))) (σ1 := mSS M) ⟨204, by decide +kernel⟩ rfl rfl rfl rfl (Md_isSet_r a1 M (d + 5)) ?_
    have b2 := mBool rfl (Md_isSet_r a1 M (d + 5))
    show mRunF _ _ (13, [some (.ref 0), some (.int a0), some (.int a1), some (.int a2)], [.int (Md_isSet a1 M)], mSS M)
    refine R_eq (t := 25) ⟨12, by decide +kernel⟩ (fun q => ?_) (fun q => ?_)
    · rw [if_pos q] at h
      refine mRunF.sg (mSl mk_126 12 1) (g := (26, [some (.ref 0), some (.int a0), some (.int a1), some (.int a2)], [.int (-1)], mSS M)) (by decide +kernel) rfl ?_
      cases h
      exact R_iret (by decide +kernel)
    · rw [if_neg q] at h
      refine mRunF.sg (mSl mk_126 8 2) (g := (19, [some (.ref 0), some (.int a0), some (.int a1), some (.int a2)], [.int 60, .int a2], mSS M)) (by decide +kernel) rfl ?_
      refine R_callS (mi := 165) (na := 2) (as := [.int a2, .int 60]) (r := []) (rv := some (.int (Md_isWithin a2 60 M))) (σ1 := mSS M) ⟨179, by decide +kernel⟩ rfl rfl rfl (Md_isWithin_r a2 60 M (d + 6)) ?_
      have b3 := mBool rfl (Md_isWithin_r a2 60 M (d + 6))
      show mRunF _ _ (22, [some (.ref 0), some (.int a0), some (.int a1), some (.int a2)], [.int (Md_isWithin a2 60 M)], mSS M)
      refine R_ne (t := 27) ⟨5, by decide +kernel⟩ (fun q => ?_) (fun q => ?_)
      · rw [if_pos q] at h
        refine mRunF.sg (mSl mk_126 12 1) (g := (26, [some (.ref 0), some (.int a0), some (.int a1), some (.int a2)], [.int (-1)], mSS M)) (by decide +kernel) rfl ?_
        cases h
        exact R_iret (by decide +kernel)
      · rw [if_neg q] at h
        refine mRunF.sg (mSl mk_126 14 8) (g := (39, [some (.ref 0), some (.int a0), some (.int a1), some (.int a2)], [.int a2, .int a1, .int 0, .int a0, .ref 34, .ref 44], mSS M)) (by decide +kernel) rfl ?_
        obtain ⟨r6, M5, q4, h⟩ := bW_of h
        refine R_callV (mi := 21) (na := 6) (ci := 3) (i := 44) (as := [.ref 34, .int a0, .int 0, .int a1, .int a2]) (r := []) (rv := some (.int r6)) (σ1 := mSS M5) ⟨235, by decide +kernel⟩ rfl rfl rfl rfl (Mt_leastTurn_r N a0 0 a1 a2 M (d + 0) q4) ?_
        show mRunF _ _ (42, [some (.ref 0), some (.int a0), some (.int a1), some (.int a2)], [.int r6], mSS M5)
        cases h
        exact R_iret (by decide +kernel)
set_option maxRecDepth 100000 in
set_option maxHeartbeats 4000000 in
theorem Md_knot_r (N : Nat) (a0 : Int32) (a1 : Int32) (a2 : Int32) (a3 : Int32) (M : mS) {r : Int32} {M' : mS} (d : Nat) (h : Md_knot N a0 a1 a2 a3 M = some (r, M')) : mMet mP mTx (d + 8) 127 [.ref 0, .int a0, .int a1, .int a2, .int a3] (mSS M) (some (.int r)) (mSS M') := by
  refine mMet_i ⟨Nat.le_refl _, Nat.le_refl _, Nat.le_of_ble_eq_true rfl⟩ ?_
  unfold Md_knot at h
  show mRunF (mCd 127) (mEE (mMet mP mTx (d + 7)) (some .int) (some (.int r)) M') (0, [some (.ref 0), some (.int a0), some (.int a1), some (.int a2), some (.int a3)], [], mSS M)
  refine mRunF.sg (mSl mk_127 0 2) (g := (2, [some (.ref 0), some (.int a0), some (.int a1), some (.int a2), some (.int a3)], [.int a0, .ref 0], mSS M)) (by decide +kernel) rfl ?_
  refine R_callV (mi := 160) (na := 2) (ci := 11) (i := 0) (as := [.int a0]) (r := []) (rv := some (.int (Md_isDial a0 M))) (σ1 := mSS M) ⟨124, by decide +kernel⟩ rfl rfl rfl rfl (Md_isDial_r a0 M (d + 6)) ?_
  have b1 := mBool rfl (Md_isDial_r a0 M (d + 6))
  show mRunF _ _ (5, [some (.ref 0), some (.int a0), some (.int a1), some (.int a2), some (.int a3)], [.int (Md_isDial a0 M)], mSS M)
  refine R_eq (t := 34) ⟨29, by decide +kernel⟩ (fun q => ?_) (fun q => ?_)
  · rw [if_pos q] at h
    refine mRunF.sg (mSl mk_127 16 1) (g := (35, [some (.ref 0), some (.int a0), some (.int a1), some (.int a2), some (.int a3)], [.int (-1)], mSS M)) (by decide +kernel) rfl ?_
    cases h
    exact R_iret (by decide +kernel)
  · rw [if_neg q] at h
    refine mRunF.sg (mSl mk_127 4 2) (g := (10, [some (.ref 0), some (.int a0), some (.int a1), some (.int a2), some (.int a3)], [.int a1, .ref 0], mSS M)) (by decide +kernel) rfl ?_
    refine R_callV (mi := 164) (na := 2) (ci := 11) (i := 0) (as := [.int a1]) (r := []) (rv := some (.int (Md_isSet a1 M))) (σ1 := mSS M) ⟨204, by decide +kernel⟩ rfl rfl rfl rfl (Md_isSet_r a1 M (d + 5)) ?_
    have b2 := mBool rfl (Md_isSet_r a1 M (d + 5))
    show mRunF _ _ (13, [some (.ref 0), some (.int a0), some (.int a1), some (.int a2), some (.int a3)], [.int (Md_isSet a1 M)], mSS M)
    refine R_eq (t := 34) ⟨21, by decide +kernel⟩ (fun q => ?_) (fun q => ?_)
    · rw [if_pos q] at h
      refine mRunF.sg (mSl mk_127 16 1) (g := (35, [some (.ref 0), some (.int a0), some (.int a1), some (.int a2), some (.int a3)], [.int (-1)], mSS M)) (by decide +kernel) rfl ?_
      cases h
      exact R_iret (by decide +kernel)
    · rw [if_neg q] at h
      refine mRunF.sg (mSl mk_127 8 2) (g := (18, [some (.ref 0), some (.int a0), some (.int a1), some (.int a2), some (.int a3)], [.int a2, .ref 0], mSS M)) (by decide +kernel) rfl ?_
      refine R_callV (mi := 164) (na := 2) (ci := 11) (i := 0) (as := [.int a2]) (r := []) (rv := some (.int (Md_isSet a2 M))) (σ1 := mSS M) ⟨204, by decide +kernel⟩ rfl rfl rfl rfl (Md_isSet_r a2 M (d + 5)) ?_
      have b3 := mBool rfl (Md_isSet_r a2 M (d + 5))
      show mRunF _ _ (21, [some (.ref 0), some (.int a0), some (.int a1), some (.int a2), some (.int a3)], [.int (Md_isSet a2 M)], mSS M)
      refine R_eq (t := 34) ⟨13, by decide +kernel⟩ (fun q => ?_) (fun q => ?_)
      · rw [if_pos q] at h
        refine mRunF.sg (mSl mk_127 16 1) (g := (35, [some (.ref 0), some (.int a0), some (.int a1), some (.int a2), some (.int a3)], [.int (-1)], mSS M)) (by decide +kernel) rfl ?_
        cases h
        exact R_iret (by decide +kernel)
      · rw [if_neg q] at h
        refine mRunF.sg (mSl mk_127 12 2) (g := (28, [some (.ref 0), some (.int a0), some (.int a1), some (.int a2), some (.int a3)], [.int 60, .int a3], mSS M)) (by decide +kernel) rfl ?_
        refine R_callS (mi := 165) (na := 2) (as := [.int a3, .int 60]) (r := []) (rv := some (.int (Md_isWithin a3 60 M))) (σ1 := mSS M) ⟨179, by decide +kernel⟩ rfl rfl rfl (Md_isWithin_r a3 60 M (d + 6)) ?_
        have b4 := mBool rfl (Md_isWithin_r a3 60 M (d + 6))
        show mRunF _ _ (31, [some (.ref 0), some (.int a0), some (.int a1), some (.int a2), some (.int a3)], [.int (Md_isWithin a3 60 M)], mSS M)
        refine R_ne (t := 36) ⟨5, by decide +kernel⟩ (fun q => ?_) (fun q => ?_)
        · rw [if_pos q] at h
          refine mRunF.sg (mSl mk_127 16 1) (g := (35, [some (.ref 0), some (.int a0), some (.int a1), some (.int a2), some (.int a3)], [.int (-1)], mSS M)) (by decide +kernel) rfl ?_
          cases h
          exact R_iret (by decide +kernel)
        · rw [if_neg q] at h
          refine mRunF.sg (mSl mk_127 18 8) (g := (49, [some (.ref 0), some (.int a0), some (.int a1), some (.int a2), some (.int a3)], [.int a3, .int a2, .int a1, .int a0, .ref 34, .ref 44], mSS M)) (by decide +kernel) rfl ?_
          obtain ⟨r7, M6, q5, h⟩ := bW_of h
          refine R_callV (mi := 21) (na := 6) (ci := 3) (i := 44) (as := [.ref 34, .int a0, .int a1, .int a2, .int a3]) (r := []) (rv := some (.int r7)) (σ1 := mSS M6) ⟨235, by decide +kernel⟩ rfl rfl rfl rfl (Mt_leastTurn_r N a0 a1 a2 a3 M (d + 0) q5) ?_
          show mRunF _ _ (52, [some (.ref 0), some (.int a0), some (.int a1), some (.int a2), some (.int a3)], [.int r7], mSS M6)
          cases h
          exact R_iret (by decide +kernel)
set_option maxRecDepth 100000 in
set_option maxHeartbeats 4000000 in
theorem Mt_leastSlip_3_r {N d : Nat}   {r : Int32} {M' : mS} : ∀ {n : Nat} {x2 : Int32} {x3 : Int32} {x4 : Int32} {x5 : Int32} {M : mS}, Mt_leastSlip_3 N n x2 x3 x4 x5 M = some (r, M') → mRunF (mCd 22) (mEE (mMet mP mTx (d + 6)) (some .int) (some (.int r)) M') (3, [some (.ref 44), some (.ref 34), some (.int x2), some (.int x3), some (.int x4), some (.int x5)], [], mSS M) := by
  intro n
  induction n with
  | zero => intro x2 x3 x4 x5 M h; cases h
  | succ n ih =>
    replace ih := @ih
    intro x2 x3 x4 x5 M h
    unfold Mt_leastSlip_3 at h
    refine mRunF.sg (mSl mk_22 2 4) (g := (12, [some (.ref 44), some (.ref 34), some (.int x2), some (.int x3), some (.int x4), some (.int x5)], [.int (M.1 3 6), .int x5], mSS M)) (by decide +kernel) rfl ?_
    refine R_ige (t := 40) ⟨28, by decide +kernel⟩ (fun q => ?_) (fun q => ?_)
    · rw [if_pos q] at h
      refine mRunF.sg (mSl mk_22 21 1) (g := (42, [some (.ref 44), some (.ref 34), some (.int x2), some (.int x3), some (.int x4), some (.int x5)], [.int (-2)], mSS M)) (by decide +kernel) rfl ?_
      cases h
      exact R_iret (by decide +kernel)
    · rw [if_neg q] at h
      refine mRunF.sg (mSl mk_22 7 8) (g := (25, [some (.ref 44), some (.ref 34), some (.int x2), some (.int x3), some (.int x4), some (.int x5)], [.int x4, .int x3, .int x5, .int (5 + x2), .ref 34, .ref 44], mSS M)) (by decide +kernel) rfl ?_
      obtain ⟨r3, M2, q1, h⟩ := bW_of h
      refine R_callV (mi := 23) (na := 6) (ci := 3) (i := 44) (as := [.ref 34, .int (5 + x2), .int x5, .int x3, .int x4]) (r := []) (rv := some (.int r3)) (σ1 := mSS M2) ⟨53, by decide +kernel⟩ rfl rfl rfl rfl (Mt_meetsWith_r N (5 + x2) x5 x3 x4 M (d + 0) q1) ?_
      have b4 := mBool rfl (Mt_meetsWith_r N (5 + x2) x5 x3 x4 M (d + 0) q1)
      show mRunF _ _ (28, [some (.ref 44), some (.ref 34), some (.int x2), some (.int x3), some (.int x4), some (.int x5)], [.int r3], mSS M2)
      refine R_eq (t := 34) ⟨6, by decide +kernel⟩ (fun q => ?_) (fun q => ?_)
      · rw [if_pos q] at h
        refine mRunF.sg (mSl mk_22 19 2) (g := (3, [some (.ref 44), some (.ref 34), some (.int x2), some (.int x3), some (.int x4), some (.int (x5 + 1))], [], mSS M2)) (by decide +kernel) rfl ?_
        exact @ih _ _ _ _ _ h
      · rw [if_neg q] at h
        refine mRunF.sg (mSl mk_22 17 1) (g := (33, [some (.ref 44), some (.ref 34), some (.int x2), some (.int x3), some (.int x4), some (.int x5)], [.int x5], mSS M2)) (by decide +kernel) rfl ?_
        cases h
        exact R_iret (by decide +kernel)
set_option maxRecDepth 100000 in
set_option maxHeartbeats 4000000 in
theorem Mt_leastSlip_r (N : Nat) (a0 : Int32) (a1 : Int32) (a2 : Int32) (M : mS) {r : Int32} {M' : mS} (d : Nat) (h : Mt_leastSlip N a0 a1 a2 M = some (r, M')) : mMet mP mTx (d + 7) 22 [.ref 44, .ref 34, .int a0, .int a1, .int a2] (mSS M) (some (.int r)) (mSS M') := by
  refine mMet_i ⟨Nat.le_refl _, Nat.le_refl _, Nat.le_of_ble_eq_true rfl⟩ ?_
  unfold Mt_leastSlip at h
  show mRunF (mCd 22) (mEE (mMet mP mTx (d + 6)) (some .int) (some (.int r)) M') (0, [some (.ref 44), some (.ref 34), some (.int a0), some (.int a1), some (.int a2), none], [], mSS M)
  refine mRunF.sg (mSl mk_22 0 2) (g := (3, [some (.ref 44), some (.ref 34), some (.int a0), some (.int a1), some (.int a2), some (.int 0)], [], mSS M)) (by decide +kernel) rfl ?_
  exact Mt_leastSlip_3_r h
set_option maxRecDepth 100000 in
set_option maxHeartbeats 4000000 in
theorem Md_mend_r (N : Nat) (a0 : Int32) (a1 : Int32) (a2 : Int32) (M : mS) {r : Int32} {M' : mS} (d : Nat) (h : Md_mend N a0 a1 a2 M = some (r, M')) : mMet mP mTx (d + 8) 128 [.ref 0, .int a0, .int a1, .int a2] (mSS M) (some (.int r)) (mSS M') := by
  refine mMet_i ⟨Nat.le_refl _, Nat.le_refl _, Nat.le_of_ble_eq_true rfl⟩ ?_
  unfold Md_mend at h
  show mRunF (mCd 128) (mEE (mMet mP mTx (d + 7)) (some .int) (some (.int r)) M') (0, [some (.ref 0), some (.int a0), some (.int a1), some (.int a2)], [], mSS M)
  refine mRunF.sg (mSl mk_128 0 2) (g := (2, [some (.ref 0), some (.int a0), some (.int a1), some (.int a2)], [.int a0, .ref 0], mSS M)) (by decide +kernel) rfl ?_
  refine R_callV (mi := 160) (na := 2) (ci := 11) (i := 0) (as := [.int a0]) (r := []) (rv := some (.int (Md_isDial a0 M))) (σ1 := mSS M) ⟨124, by decide +kernel⟩ rfl rfl rfl rfl (Md_isDial_r a0 M (d + 6)) ?_
  have b1 := mBool rfl (Md_isDial_r a0 M (d + 6))
  show mRunF _ _ (5, [some (.ref 0), some (.int a0), some (.int a1), some (.int a2)], [.int (Md_isDial a0 M)], mSS M)
  refine R_eq (t := 25) ⟨20, by decide +kernel⟩ (fun q => ?_) (fun q => ?_)
  · rw [if_pos q] at h
    refine mRunF.sg (mSl mk_128 12 1) (g := (26, [some (.ref 0), some (.int a0), some (.int a1), some (.int a2)], [.int (-1)], mSS M)) (by decide +kernel) rfl ?_
    cases h
    exact R_iret (by decide +kernel)
  · rw [if_neg q] at h
    refine mRunF.sg (mSl mk_128 4 2) (g := (10, [some (.ref 0), some (.int a0), some (.int a1), some (.int a2)], [.int a1, .ref 0], mSS M)) (by decide +kernel) rfl ?_
    refine R_callV (mi := 164) (na := 2) (ci := 11) (i := 0) (as := [.int a1]) (r := []) (rv := some (.int (Md_isSet a1 M))) (σ1 := mSS M) ⟨204, by decide +kernel⟩ rfl rfl rfl rfl (Md_isSet_r a1 M (d + 5)) ?_
    have b2 := mBool rfl (Md_isSet_r a1 M (d + 5))
    show mRunF _ _ (13, [some (.ref 0), some (.int a0), some (.int a1), some (.int a2)], [.int (Md_isSet a1 M)], mSS M)
    refine R_eq (t := 25) ⟨12, by decide +kernel⟩ (fun q => ?_) (fun q => ?_)
    · rw [if_pos q] at h
      refine mRunF.sg (mSl mk_128 12 1) (g := (26, [some (.ref 0), some (.int a0), some (.int a1), some (.int a2)], [.int (-1)], mSS M)) (by decide +kernel) rfl ?_
      cases h
      exact R_iret (by decide +kernel)
    · rw [if_neg q] at h
      refine mRunF.sg (mSl mk_128 8 2) (g := (19, [some (.ref 0), some (.int a0), some (.int a1), some (.int a2)], [.int 60, .int a2], mSS M)) (by decide +kernel) rfl ?_
      refine R_callS (mi := 165) (na := 2) (as := [.int a2, .int 60]) (r := []) (rv := some (.int (Md_isWithin a2 60 M))) (σ1 := mSS M) ⟨179, by decide +kernel⟩ rfl rfl rfl (Md_isWithin_r a2 60 M (d + 6)) ?_
      have b3 := mBool rfl (Md_isWithin_r a2 60 M (d + 6))
      show mRunF _ _ (22, [some (.ref 0), some (.int a0), some (.int a1), some (.int a2)], [.int (Md_isWithin a2 60 M)], mSS M)
      refine R_ne (t := 27) ⟨5, by decide +kernel⟩ (fun q => ?_) (fun q => ?_)
      · rw [if_pos q] at h
        refine mRunF.sg (mSl mk_128 12 1) (g := (26, [some (.ref 0), some (.int a0), some (.int a1), some (.int a2)], [.int (-1)], mSS M)) (by decide +kernel) rfl ?_
        cases h
        exact R_iret (by decide +kernel)
      · rw [if_neg q] at h
        refine mRunF.sg (mSl mk_128 14 7) (g := (38, [some (.ref 0), some (.int a0), some (.int a1), some (.int a2)], [.int a2, .int a1, .int a0, .ref 34, .ref 44], mSS M)) (by decide +kernel) rfl ?_
        obtain ⟨r6, M5, q4, h⟩ := bW_of h
        refine R_callV (mi := 22) (na := 5) (ci := 3) (i := 44) (as := [.ref 34, .int a0, .int a1, .int a2]) (r := []) (rv := some (.int r6)) (σ1 := mSS M5) ⟨239, by decide +kernel⟩ rfl rfl rfl rfl (Mt_leastSlip_r N a0 a1 a2 M (d + 0) q4) ?_
        show mRunF _ _ (41, [some (.ref 0), some (.int a0), some (.int a1), some (.int a2)], [.int r6], mSS M5)
        cases h
        exact R_iret (by decide +kernel)
