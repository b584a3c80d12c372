/-! METHODS as functions, 12: printed by program -/
set_option maxRecDepth 100000 in
set_option maxHeartbeats 4000000 in
theorem Mo_strangers_62_r {N d : Nat} {k21 : Int32 → Int32 → Int32 → mS → Option (Int32 × mS)} {M : mS} {x1 : Int32} {x2 : Int32} {x3 : Int32} {r : Int32} {M' : mS} (hk21 : ∀ (x1 : Int32) (x2 : Int32) (x3 : Int32) (M : mS), k21 x1 x2 x3 M = some (r, M') → mRunF (mCd 278) (mEE (mMet mP mTx (d + 10)) (some .int) (some (.int r)) M') (21, [some (.ref 64), some (.int x1), some (.int x2), some (.int x3)], [], mSS M)) (h : Mo_strangers_62 N k21 x1 x2 x3 M = some (r, M')) : mRunF (mCd 278) (mEE (mMet mP mTx (d + 10)) (some .int) (some (.int r)) M') (62, [some (.ref 64), some (.int x1), some (.int x2), some (.int x3)], [], mSS M) := by
  unfold Mo_strangers_62 at h
  refine mRunF.sg (mSl mk_278 40 2) (g := (21, [some (.ref 64), some (.int x1), some (.int x2), some (.int (x3 + 1))], [], mSS M)) (by decide +kernel) rfl ?_
  exact hk21 _ _ _ _ h
set_option maxRecDepth 100000 in
set_option maxHeartbeats 4000000 in
theorem Mo_strangers_21_r {N d : Nat}   {r : Int32} {M' : mS} : ∀ {n : Nat} {x1 : Int32} {x2 : Int32} {x3 : Int32} {M : mS}, Mo_strangers_21 N n x1 x2 x3 M = some (r, M') → mRunF (mCd 278) (mEE (mMet mP mTx (d + 10)) (some .int) (some (.int r)) M') (21, [some (.ref 64), some (.int x1), some (.int x2), some (.int x3)], [], mSS M) := by
  intro n
  induction n with
  | zero => intro x1 x2 x3 M h; cases h
  | succ n ih =>
    replace ih := @ih
    intro x1 x2 x3 M h
    unfold Mo_strangers_21 at h
    refine mRunF.sg (mSl mk_278 13 5) (g := (30, [some (.ref 64), some (.int x1), some (.int x2), some (.int x3)], [.int (M.1 64 18), .ref 78, .int x3], mSS M)) (by decide +kernel) rfl ?_
    obtain ⟨g1, h⟩ := grd_of h
    refine R_iald (by decide +kernel) rfl g1 ?_
    refine R_ige (t := 68) ⟨37, by decide +kernel⟩ (fun q => ?_) (fun q => ?_)
    · rw [if_pos q] at h
      refine mRunF.sg (mSl mk_278 42 1) (g := (69, [some (.ref 64), some (.int x1), some (.int x2), some (.int x3)], [.int x2], mSS M)) (by decide +kernel) rfl ?_
      cases h
      exact R_iret (by decide +kernel)
    · rw [if_neg q] at h
      refine mRunF.sg (mSl mk_278 20 2) (g := (36, [some (.ref 64), some (.int x1), some (.int x2), some (.int x3)], [.int x1, .int x3], mSS M)) (by decide +kernel) rfl ?_
      refine R_ieq (t := 62) ⟨26, by decide +kernel⟩ (fun q => ?_) (fun q => ?_)
      · rw [if_pos q] at h
        exact Mo_strangers_62_r (fun y0 y1 y2 y3 hh => @ih y0 y1 y2 y3 hh) h
      · rw [if_neg q] at h
        refine mRunF.sg (mSl mk_278 23 9) (g := (50, [some (.ref 64), some (.int x1), some (.int x2), some (.int x3)], [.int 400, .int (((1 : Int32) <<< (x1 &&& 31)) ||| ((1 : Int32) <<< (x3 &&& 31))), .ref 64], mSS M)) (by decide +kernel) rfl ?_
        obtain ⟨r3, q2, h⟩ := bR_of h
        refine R_callV (mi := 257) (na := 3) (ci := 12) (i := 64) (as := [.int (((1 : Int32) <<< (x1 &&& 31)) ||| ((1 : Int32) <<< (x3 &&& 31))), .int 400]) (r := []) (rv := some (.int r3)) (σ1 := mSS M) ⟨437, by decide +kernel⟩ rfl rfl rfl rfl (Mo_firstMeet_r N (((1 : Int32) <<< (x1 &&& 31)) ||| ((1 : Int32) <<< (x3 &&& 31))) 400 M (d + 7) q2) ?_
        show mRunF _ _ (53, [some (.ref 64), some (.int x1), some (.int x2), some (.int x3)], [.int r3], mSS M)
        refine R_ge (t := 62) ⟨9, by decide +kernel⟩ (fun q => ?_) (fun q => ?_)
        · rw [if_pos q] at h
          exact Mo_strangers_62_r (fun y0 y1 y2 y3 hh => @ih y0 y1 y2 y3 hh) h
        · rw [if_neg q] at h
          refine mRunF.sg (mSl mk_278 34 6) (g := (62, [some (.ref 64), some (.int x1), some (.int (x2 ||| ((1 : Int32) <<< (x3 &&& 31)))), some (.int x3)], [], mSS M)) (by decide +kernel) rfl ?_
          obtain ⟨v4, hv, h⟩ := nxt_ex h
          rw [← hv]
          clear hv
          exact Mo_strangers_62_r (fun y0 y1 y2 y3 hh => @ih y0 y1 y2 y3 hh) h
set_option maxRecDepth 100000 in
set_option maxHeartbeats 4000000 in
theorem Mo_strangers_r (N : Nat) (a0 : Int32) (M : mS) {r : Int32} {M' : mS} (d : Nat) (h : Mo_strangers N a0 M = some (r, M')) : mMet mP mTx (d + 11) 278 [.ref 64, .int a0] (mSS M) (some (.int r)) (mSS M') := by
  refine mMet_i ⟨Nat.le_refl _, Nat.le_refl _, Nat.le_of_ble_eq_true rfl⟩ ?_
  unfold Mo_strangers at h
  show mRunF (mCd 278) (mEE (mMet mP mTx (d + 10)) (some .int) (some (.int r)) M') (0, [some (.ref 64), some (.int a0), none, none], [], mSS M)
  refine mRunF.sg (mSl mk_278 0 2) (g := (2, [some (.ref 64), some (.int a0), none, none], [.int a0, .ref 64], mSS M)) (by decide +kernel) rfl ?_
  obtain ⟨r6, q5, h⟩ := bR_of h
  refine R_callV (mi := 213) (na := 2) (ci := 12) (i := 64) (as := [.int a0]) (r := []) (rv := some (.int r6)) (σ1 := mSS M) ⟨320, by decide +kernel⟩ rfl rfl rfl rfl (Mo_isGoer_r N a0 M (d + 8) q5) ?_
  have b7 := mBool rfl (Mo_isGoer_r N a0 M (d + 8) q5)
  show mRunF _ _ (5, [some (.ref 64), some (.int a0), none, none], [.int r6], mSS M)
  refine R_ne (t := 10) ⟨5, by decide +kernel⟩ (fun q => ?_) (fun q => ?_)
  · rw [if_pos q] at h
    refine mRunF.sg (mSl mk_278 4 1) (g := (9, [some (.ref 64), some (.int a0), none, none], [.int (-1)], mSS M)) (by decide +kernel) rfl ?_
    cases h
    exact R_iret (by decide +kernel)
  · rw [if_neg q] at h
    refine mRunF.sg (mSl mk_278 6 2) (g := (14, [some (.ref 64), some (.int a0), none, none], [.int 400, .ref 64], mSS M)) (by decide +kernel) rfl ?_
    obtain ⟨M9, q8, h⟩ := bV_of h
    refine R_callV (mi := 255) (na := 2) (ci := 12) (i := 64) (as := [.int 400]) (r := []) (rv := none) (σ1 := mSS M9) ⟨434, by decide +kernel⟩ rfl rfl rfl rfl (Mo_fillsStill_r N 400 M (d + 0) q8) ?_
    show mRunF _ _ (17, [some (.ref 64), some (.int a0), none, none], [], mSS M9)
    refine mRunF.sg (mSl mk_278 9 4) (g := (21, [some (.ref 64), some (.int a0), some (.int 0), some (.int 0)], [], mSS M9)) (by decide +kernel) rfl ?_
    exact Mo_strangers_21_r h
set_option maxRecDepth 100000 in
set_option maxHeartbeats 4000000 in
theorem Mo_by_98_r {N d : Nat} {k37 : Int32 → Int32 → Int32 → Int32 → Int32 → Int32 → Int32 → mS → Option (Int32 × mS)} {M : mS} {x1 : Int32} {x2 : Int32} {x3 : Int32} {x4 : Int32} {x5 : Int32} {x6 : Int32} {x7 : Int32} {r : Int32} {M' : mS} (hk37 : ∀ (x1 : Int32) (x2 : Int32) (x3 : Int32) (x4 : Int32) (x5 : Int32) (x6 : Int32) (x7 : Int32) (M : mS), k37 x1 x2 x3 x4 x5 x6 x7 M = some (r, M') → mRunF (mCd 279) (mEE (mMet mP mTx (d + 9)) (some .int) (some (.int r)) M') (37, [some (.ref 64), some (.int x1), some (.int x2), some (.int x3), some (.int x4), some (.int x5), some (.int x6), some (.int x7), none], [], mSS M)) (h : Mo_by_98 N k37 x1 x2 x3 x4 x5 x6 x7 M = some (r, M')) : mRunF (mCd 279) (mEE (mMet mP mTx (d + 9)) (some .int) (some (.int r)) M') (98, [some (.ref 64), some (.int x1), some (.int x2), some (.int x3), some (.int x4), some (.int x5), some (.int x6), some (.int x7), none], [], mSS M) := by
  unfold Mo_by_98 at h
  refine mRunF.sg (mSl mk_279 54 2) (g := (37, [some (.ref 64), some (.int x1), some (.int x2), some (.int x3), some (.int x4), some (.int x5), some (.int x6), some (.int (x7 + 1)), none], [], mSS M)) (by decide +kernel) rfl ?_
  exact hk37 _ _ _ _ _ _ _ _ h
set_option maxRecDepth 100000 in
set_option maxHeartbeats 4000000 in
theorem Mo_by_37_r {N d : Nat}   {r : Int32} {M' : mS} : ∀ {n : Nat} {x1 : Int32} {x2 : Int32} {x3 : Int32} {x4 : Int32} {x5 : Int32} {x6 : Int32} {x7 : Int32} {M : mS}, Mo_by_37 N n x1 x2 x3 x4 x5 x6 x7 M = some (r, M') → mRunF (mCd 279) (mEE (mMet mP mTx (d + 9)) (some .int) (some (.int r)) M') (37, [some (.ref 64), some (.int x1), some (.int x2), some (.int x3), some (.int x4), some (.int x5), some (.int x6), some (.int x7), none], [], mSS M) := by
  intro n
  induction n with
  | zero => intro x1 x2 x3 x4 x5 x6 x7 M h; cases h
  | succ n ih =>
    replace ih := @ih
    intro x1 x2 x3 x4 x5 x6 x7 M h
    unfold Mo_by_37 at h
    refine mRunF.sg (mSl mk_279 21 5) (g := (47, [some (.ref 64), some (.int x1), some (.int x2), some (.int x3), some (.int x4), some (.int x5), some (.int x6), some (.int x7), none], [.int (M.1 64 18), .ref 75, .int x7], mSS M)) (by decide +kernel) rfl ?_
    obtain ⟨g1, h⟩ := grd_of h
    refine R_iald (by decide +kernel) rfl g1 ?_
    refine R_ige (t := 104) ⟨56, by decide +kernel⟩ (fun q => ?_) (fun q => ?_)
    · rw [if_pos q] at h
      refine mRunF.sg (mSl mk_279 56 1) (g := (106, [some (.ref 64), some (.int x1), some (.int x2), some (.int x3), some (.int x4), some (.int x5), some (.int x6), some (.int x7), none], [.int x4], mSS M)) (by decide +kernel) rfl ?_
      refine R_ne (t := 114) ⟨8, by decide +kernel⟩ (fun q => ?_) (fun q => ?_)
      · rw [if_pos q] at h
        refine mRunF.sg (mSl mk_279 58 2) (g := (116, [some (.ref 64), some (.int x1), some (.int x2), some (.int x3), some (.int x4), some (.int x5), some (.int x6), some (.int x7), none], [.int x5], mSS M)) (by decide +kernel) rfl ?_
        cases h
        exact R_iret (by decide +kernel)
      · rw [if_neg q] at h
        refine mRunF.sg (mSl mk_279 60 1) (g := (116, [some (.ref 64), some (.int x1), some (.int x2), some (.int x3), some (.int x4), some (.int x5), some (.int x6), some (.int x7), none], [.int x6], mSS M)) (by decide +kernel) rfl ?_
        cases h
        exact R_iret (by decide +kernel)
    · rw [if_neg q] at h
      refine mRunF.sg (mSl mk_279 28 1) (g := (52, [some (.ref 64), some (.int x1), some (.int x2), some (.int x3), some (.int x4), some (.int x5), some (.int x6), some (.int x7), none], [.ref 64], mSS M)) (by decide +kernel) rfl ?_
      obtain ⟨M3, q2, h⟩ := bV_of h
      refine R_callV (mi := 219) (na := 1) (ci := 12) (i := 64) (as := []) (r := []) (rv := none) (σ1 := mSS M3) ⟨407, by decide +kernel⟩ rfl rfl rfl rfl (Mo_copiesStill_r N M (d + 7) q2) ?_
      show mRunF _ _ (55, [some (.ref 64), some (.int x1), some (.int x2), some (.int x3), some (.int x4), some (.int x5), some (.int x6), some (.int x7), none], [], mSS M3)
      refine mRunF.sg (mSl mk_279 30 6) (g := (65, [some (.ref 64), some (.int x1), some (.int x2), some (.int x3), some (.int x4), some (.int x5), some (.int x6), some (.int x7), none], [.int x7, .int (8 + x1), .ref 96], mSS M3)) (by decide +kernel) rfl ?_
      obtain ⟨g4, h⟩ := grd_of h
      refine R_iast (by decide +kernel) rfl g4 ?_
      obtain ⟨M5, hv, h⟩ := nxt_ex h
      rw [← hv]
      clear hv
      refine mRunF.sg (mSl mk_279 37 2) (g := (68, [some (.ref 64), some (.int x1), some (.int x2), some (.int x3), some (.int x4), some (.int x5), some (.int x6), some (.int x7), none], [.int x3, .ref 64], mSS M5)) (by decide +kernel) rfl ?_
      obtain ⟨M7, q6, h⟩ := bV_of h
      refine R_callV (mi := 254) (na := 2) (ci := 12) (i := 64) (as := [.int x3]) (r := []) (rv := none) (σ1 := mSS M7) ⟨425, by decide +kernel⟩ rfl rfl rfl rfl (Mo_fillsNights_r N x3 M5 (d + 0) q6) ?_
      show mRunF _ _ (71, [some (.ref 64), some (.int x1), some (.int x2), some (.int x3), some (.int x4), some (.int x5), some (.int x6), some (.int x7), none], [], mSS M7)
      refine mRunF.sg (mSl mk_279 40 4) (g := (75, [some (.ref 64), some (.int x1), some (.int x2), some (.int x3), some (.int x4), some (.int x5), some (.int x6), some (.int x7), none], [.int x3, .int x2, .int x1, .ref 64], mSS M7)) (by decide +kernel) rfl ?_
      obtain ⟨r9, q8, h⟩ := bR_of h
      refine R_callV (mi := 261) (na := 4) (ci := 12) (i := 64) (as := [.int x1, .int x2, .int x3]) (r := []) (rv := some (.int r9)) (σ1 := mSS M7) ⟨443, by decide +kernel⟩ rfl rfl rfl rfl (Mo_oftenBy_r N x1 x2 x3 M7 (d + 7) q8) ?_
      show mRunF _ _ (78, [some (.ref 64), some (.int x1), some (.int x2), some (.int x3), some (.int x4), some (.int x5), some (.int x6), some (.int x7), none], [.int r9], mSS M7)
      refine mRunF.sg (mSl mk_279 45 3) (g := (84, [some (.ref 64), some (.int x1), some (.int x2), some (.int x3), some (.int x4), some (.int x5), some (.int x6), some (.int x7), some (.int r9)], [.int x6, .int r9], mSS M7)) (by decide +kernel) rfl ?_
      refine R_igt (t := 90) ⟨6, by decide +kernel⟩ (fun q => ?_) (fun q => ?_)
      · rw [if_pos q] at h
        refine mRunF.sg (mSl mk_279 50 4) (g := (98, [some (.ref 64), some (.int x1), some (.int x2), some (.int x3), some (.int x4), some (.int x7), some (.int r9), some (.int x7), some (.int r9)], [], mSS M7)) (by decide +kernel) rfl ?_
        refine mRunF.forget [true, true, true, true, true, true, true, true, false] ?_
        exact Mo_by_98_r (fun y0 y1 y2 y3 y4 y5 y6 y7 hh => @ih y0 y1 y2 y3 y4 y5 y6 y7 hh) h
      · rw [if_neg q] at h
        refine mRunF.sg (mSl mk_279 49 1) (g := (98, [some (.ref 64), some (.int x1), some (.int x2), some (.int x3), some (.int x4), some (.int x5), some (.int x6), some (.int x7), some (.int r9)], [], mSS M7)) (by decide +kernel) rfl ?_
        refine mRunF.forget [true, true, true, true, true, true, true, true, false] ?_
        exact Mo_by_98_r (fun y0 y1 y2 y3 y4 y5 y6 y7 hh => @ih y0 y1 y2 y3 y4 y5 y6 y7 hh) h
set_option maxRecDepth 100000 in
set_option maxHeartbeats 4000000 in
theorem Mo_by_r (N : Nat) (a0 : Int32) (a1 : Int32) (a2 : Int32) (a3 : Int32) (M : mS) {r : Int32} {M' : mS} (d : Nat) (h : Mo_by N a0 a1 a2 a3 M = some (r, M')) : mMet mP mTx (d + 10) 279 [.ref 64, .int a0, .int a1, .int a2, .int a3] (mSS M) (some (.int r)) (mSS M') := by
  refine mMet_i ⟨Nat.le_refl _, Nat.le_refl _, Nat.le_of_ble_eq_true rfl⟩ ?_
  unfold Mo_by at h
  show mRunF (mCd 279) (mEE (mMet mP mTx (d + 9)) (some .int) (some (.int r)) M') (0, [some (.ref 64), some (.int a0), some (.int a1), some (.int a2), some (.int a3), none, none, none, none], [], mSS M)
  refine mRunF.sg (mSl mk_279 0 3) (g := (3, [some (.ref 64), some (.int a0), some (.int a1), some (.int a2), some (.int a3), none, none, none, none], [.int a1, .int a0, .ref 64], mSS M)) (by decide +kernel) rfl ?_
  obtain ⟨r11, q10, h⟩ := bR_of h
  refine R_callV (mi := 214) (na := 3) (ci := 12) (i := 64) (as := [.int a0, .int a1]) (r := []) (rv := some (.int r11)) (σ1 := mSS M) ⟨403, by decide +kernel⟩ rfl rfl rfl rfl (Mo_areTwo_r N a0 a1 M (d + 6) q10) ?_
  have b12 := mBool rfl (Mo_areTwo_r N a0 a1 M (d + 6) q10)
  show mRunF _ _ (6, [some (.ref 64), some (.int a0), some (.int a1), some (.int a2), some (.int a3), none, none, none, none], [.int r11], mSS M)
  refine R_eq (t := 26) ⟨20, by decide +kernel⟩ (fun q => ?_) (fun q => ?_)
  · rw [if_pos q] at h
    refine mRunF.sg (mSl mk_279 13 1) (g := (27, [some (.ref 64), some (.int a0), some (.int a1), some (.int a2), some (.int a3), none, none, none, none], [.int (-1)], mSS M)) (by decide +kernel) rfl ?_
    cases h
    exact R_iret (by decide +kernel)
  · rw [if_neg q] at h
    refine mRunF.sg (mSl mk_279 5 1) (g := (10, [some (.ref 64), some (.int a0), some (.int a1), some (.int a2), some (.int a3), none, none, none, none], [.int a2], mSS M)) (by decide +kernel) rfl ?_
    refine R_callS (mi := 250) (na := 1) (as := [.int a2]) (r := []) (rv := some (.int (Mo_isLong a2 M))) (σ1 := mSS M) ⟨419, by decide +kernel⟩ rfl rfl rfl (Mo_isLong_r a2 M (d + 7)) ?_
    have b13 := mBool rfl (Mo_isLong_r a2 M (d + 7))
    show mRunF _ _ (13, [some (.ref 64), some (.int a0), some (.int a1), some (.int a2), some (.int a3), none, none, none, none], [.int (Mo_isLong a2 M)], mSS M)
    refine R_eq (t := 26) ⟨13, by decide +kernel⟩ (fun q => ?_) (fun q => ?_)
    · rw [if_pos q] at h
      refine mRunF.sg (mSl mk_279 13 1) (g := (27, [some (.ref 64), some (.int a0), some (.int a1), some (.int a2), some (.int a3), none, none, none, none], [.int (-1)], mSS M)) (by decide +kernel) rfl ?_
      cases h
      exact R_iret (by decide +kernel)
    · rw [if_neg q] at h
      refine mRunF.sg (mSl mk_279 8 3) (g := (20, [some (.ref 64), some (.int a0), some (.int a1), some (.int a2), some (.int a3), none, none, none, none], [.int 1, .int 0, .int a3], mSS M)) (by decide +kernel) rfl ?_
      refine R_callS (mi := 206) (na := 3) (as := [.int a3, .int 0, .int 1]) (r := []) (rv := some (.int (Mo_in a3 0 1 M))) (σ1 := mSS M) ⟨316, by decide +kernel⟩ rfl rfl rfl (Mo_in_r a3 0 1 M (d + 8)) ?_
      have b14 := mBool rfl (Mo_in_r a3 0 1 M (d + 8))
      show mRunF _ _ (23, [some (.ref 64), some (.int a0), some (.int a1), some (.int a2), some (.int a3), none, none, none, none], [.int (Mo_in a3 0 1 M)], mSS M)
      refine R_ne (t := 28) ⟨5, by decide +kernel⟩ (fun q => ?_) (fun q => ?_)
      · rw [if_pos q] at h
        refine mRunF.sg (mSl mk_279 13 1) (g := (27, [some (.ref 64), some (.int a0), some (.int a1), some (.int a2), some (.int a3), none, none, none, none], [.int (-1)], mSS M)) (by decide +kernel) rfl ?_
        cases h
        exact R_iret (by decide +kernel)
      · rw [if_neg q] at h
        refine mRunF.sg (mSl mk_279 15 6) (g := (37, [some (.ref 64), some (.int a0), some (.int a1), some (.int a2), some (.int a3), some (.int 0), some (.int (-1)), some (.int 0), none], [], mSS M)) (by decide +kernel) rfl ?_
        exact Mo_by_37_r h
set_option maxRecDepth 100000 in
set_option maxHeartbeats 4000000 in
theorem Mo_areAny_50_r {N d : Nat} {k2 : Int32 → Int32 → Int32 → Option Int32} {k18 : Int32 → Int32 → Int32 → Int32 → Option Int32} {M : mS} {x1 : Int32} {x2 : Int32} {x3 : Int32} {x4 : Int32} {r : Int32} (hk2 : ∀ (x1 : Int32) (x2 : Int32) (x3 : Int32), k2 x1 x2 x3 = some r → mRunF (mCd 280) (mEE (mMet mP mTx (d + 2)) (some .boolean) (some (.int r)) M) (2, [some (.ref 64), some (.int x1), some (.int x2), some (.int x3), none], [], mSS M)) (hk18 : ∀ (x1 : Int32) (x2 : Int32) (x3 : Int32) (x4 : Int32), k18 x1 x2 x3 x4 = some r → mRunF (mCd 280) (mEE (mMet mP mTx (d + 2)) (some .boolean) (some (.int r)) M) (18, [some (.ref 64), some (.int x1), some (.int x2), some (.int x3), some (.int x4)], [], mSS M)) (h : Mo_areAny_50 N k2 k18 M x1 x2 x3 x4 = some r) : mRunF (mCd 280) (mEE (mMet mP mTx (d + 2)) (some .boolean) (some (.int r)) M) (50, [some (.ref 64), some (.int x1), some (.int x2), some (.int x3), some (.int x4)], [], mSS M) := by
  unfold Mo_areAny_50 at h
  refine mRunF.sg (mSl mk_280 32 2) (g := (18, [some (.ref 64), some (.int x1), some (.int x2), some (.int x3), some (.int (x4 + 1))], [], mSS M)) (by decide +kernel) rfl ?_
  exact hk18 _ _ _ _ h
set_option maxRecDepth 100000 in
set_option maxHeartbeats 4000000 in
theorem Mo_areAny_18_r {N d : Nat} {k2 : Int32 → Int32 → Int32 → Option Int32} {M : mS}  {r : Int32} (hk2 : ∀ (x1 : Int32) (x2 : Int32) (x3 : Int32), k2 x1 x2 x3 = some r → mRunF (mCd 280) (mEE (mMet mP mTx (d + 2)) (some .boolean) (some (.int r)) M) (2, [some (.ref 64), some (.int x1), some (.int x2), some (.int x3), none], [], mSS M)) : ∀ {n : Nat} {x1 : Int32} {x2 : Int32} {x3 : Int32} {x4 : Int32}, Mo_areAny_18 N k2 M n x1 x2 x3 x4 = some r → mRunF (mCd 280) (mEE (mMet mP mTx (d + 2)) (some .boolean) (some (.int r)) M) (18, [some (.ref 64), some (.int x1), some (.int x2), some (.int x3), some (.int x4)], [], mSS M) := by
  intro n
  induction n with
  | zero => intro x1 x2 x3 x4 h; cases h
  | succ n ih =>
    replace ih := @ih
    intro x1 x2 x3 x4 h
    unfold Mo_areAny_18 at h
    refine mRunF.sg (mSl mk_280 11 2) (g := (21, [some (.ref 64), some (.int x1), some (.int x2), some (.int x3), some (.int x4)], [.int x3, .int x4], mSS M)) (by decide +kernel) rfl ?_
    refine R_ige (t := 56) ⟨35, by decide +kernel⟩ (fun q => ?_) (fun q => ?_)
    · rw [if_pos q] at h
      refine mRunF.sg (mSl mk_280 34 2) (g := (2, [some (.ref 64), some (.int x1), some (.int x2), some (.int (x3 + 1)), some (.int x4)], [], mSS M)) (by decide +kernel) rfl ?_
      refine mRunF.forget [true, true, true, true, false] ?_
      exact hk2 _ _ _ h
    · rw [if_neg q] at h
      refine mRunF.sg (mSl mk_280 14 9) (g := (34, [some (.ref 64), some (.int x1), some (.int x2), some (.int x3), some (.int x4)], [.int ((((1 : Int32) <<< (x3 &&& 31)) ||| ((1 : Int32) <<< (x4 &&& 31))) &&& x1)], mSS M)) (by decide +kernel) rfl ?_
      refine R_ne (t := 50) ⟨16, by decide +kernel⟩ (fun q => ?_) (fun q => ?_)
      · rw [if_pos q] at h
        refine mRunF.sg (mSl mk_280 24 4) (g := (42, [some (.ref 64), some (.int x1), some (.int x2), some (.int x3), some (.int x4)], [.int x2, .int x4, .int x3, .ref 64], mSS M)) (by decide +kernel) rfl ?_
        obtain ⟨r2, q1, h⟩ := bR_of h
        refine R_callV (mi := 261) (na := 4) (ci := 12) (i := 64) (as := [.int x3, .int x4, .int x2]) (r := []) (rv := some (.int r2)) (σ1 := mSS M) ⟨443, by decide +kernel⟩ rfl rfl rfl rfl (Mo_oftenBy_r N x3 x4 x2 M (d + 0) q1) ?_
        show mRunF _ _ (45, [some (.ref 64), some (.int x1), some (.int x2), some (.int x3), some (.int x4)], [.int r2], mSS M)
        refine R_le (t := 50) ⟨5, by decide +kernel⟩ (fun q => ?_) (fun q => ?_)
        · rw [if_pos q] at h
          exact Mo_areAny_50_r hk2 (fun y0 y1 y2 y3 hh => @ih y0 y1 y2 y3 hh) h
        · rw [if_neg q] at h
          refine mRunF.sg (mSl mk_280 30 1) (g := (49, [some (.ref 64), some (.int x1), some (.int x2), some (.int x3), some (.int x4)], [.int 1], mSS M)) (by decide +kernel) rfl ?_
          cases h
          exact R_zret (by decide +kernel) (Or.inr rfl)
      · rw [if_neg q] at h
        exact Mo_areAny_50_r hk2 (fun y0 y1 y2 y3 hh => @ih y0 y1 y2 y3 hh) h
set_option maxRecDepth 100000 in
set_option maxHeartbeats 4000000 in
theorem Mo_areAny_2_r {N d : Nat}  {M : mS}  {r : Int32} : ∀ {n : Nat} {x1 : Int32} {x2 : Int32} {x3 : Int32}, Mo_areAny_2 N M n x1 x2 x3 = some r → mRunF (mCd 280) (mEE (mMet mP mTx (d + 2)) (some .boolean) (some (.int r)) M) (2, [some (.ref 64), some (.int x1), some (.int x2), some (.int x3), none], [], mSS M) := by
  intro n
  induction n with
  | zero => intro x1 x2 x3 h; cases h
  | succ n ih =>
    replace ih := @ih
    intro x1 x2 x3 h
    unfold Mo_areAny_2 at h
    refine mRunF.sg (mSl mk_280 2 5) (g := (11, [some (.ref 64), some (.int x1), some (.int x2), some (.int x3), none], [.int (M.1 64 18), .ref 78, .int x3], mSS M)) (by decide +kernel) rfl ?_
    obtain ⟨g3, h⟩ := grd_of h
    refine R_iald (by decide +kernel) rfl g3 ?_
    refine R_ige (t := 62) ⟨50, by decide +kernel⟩ (fun q => ?_) (fun q => ?_)
    · rw [if_pos q] at h
      refine mRunF.sg (mSl mk_280 36 1) (g := (63, [some (.ref 64), some (.int x1), some (.int x2), some (.int x3), none], [.int 0], mSS M)) (by decide +kernel) rfl ?_
      cases h
      exact R_zret (by decide +kernel) (Or.inl rfl)
    · rw [if_neg q] at h
      refine mRunF.sg (mSl mk_280 9 2) (g := (18, [some (.ref 64), some (.int x1), some (.int x2), some (.int x3), some (.int 0)], [], mSS M)) (by decide +kernel) rfl ?_
      exact Mo_areAny_18_r (fun y0 y1 y2 hh => @ih y0 y1 y2 hh) h
set_option maxRecDepth 100000 in
set_option maxHeartbeats 4000000 in
theorem Mo_areAny_r (N : Nat) (a0 : Int32) (a1 : Int32) (M : mS) {r : Int32} (d : Nat) (h : Mo_areAny N a0 a1 M = some r) : mMet mP mTx (d + 3) 280 [.ref 64, .int a0, .int a1] (mSS M) (some (.int r)) (mSS M) := by
  refine mMet_i ⟨Nat.le_refl _, Nat.le_refl _, Nat.le_of_ble_eq_true rfl⟩ ?_
  unfold Mo_areAny at h
  show mRunF (mCd 280) (mEE (mMet mP mTx (d + 2)) (some .boolean) (some (.int r)) M) (0, [some (.ref 64), some (.int a0), some (.int a1), none, none], [], mSS M)
  refine mRunF.sg (mSl mk_280 0 2) (g := (2, [some (.ref 64), some (.int a0), some (.int a1), some (.int 0), none], [], mSS M)) (by decide +kernel) rfl ?_
  exact Mo_areAny_2_r h
set_option maxRecDepth 100000 in
set_option maxHeartbeats 4000000 in
theorem Mo_peace_73_r {N d : Nat} {k28 : Int32 → Int32 → Int32 → Int32 → mS → Option (Int32 × mS)} {M : mS} {x1 : Int32} {x2 : Int32} {x3 : Int32} {x4 : Int32} {r : Int32} {M' : mS} (hk28 : ∀ (x1 : Int32) (x2 : Int32) (x3 : Int32) (x4 : Int32) (M : mS), k28 x1 x2 x3 x4 M = some (r, M') → mRunF (mCd 281) (mEE (mMet mP mTx (d + 10)) (some .int) (some (.int r)) M') (28, [some (.ref 64), some (.int x1), some (.int x2), some (.int x3), some (.int x4)], [], mSS M)) (h : Mo_peace_73 N k28 x1 x2 x3 x4 M = some (r, M')) : mRunF (mCd 281) (mEE (mMet mP mTx (d + 10)) (some .int) (some (.int r)) M') (73, [some (.ref 64), some (.int x1), some (.int x2), some (.int x3), some (.int x4)], [], mSS M) := by
  unfold Mo_peace_73 at h
  refine mRunF.sg (mSl mk_281 40 2) (g := (28, [some (.ref 64), some (.int x1), some (.int x2), some (.int x3), some (.int (x4 + 1))], [], mSS M)) (by decide +kernel) rfl ?_
  exact hk28 _ _ _ _ _ h
set_option maxRecDepth 100000 in
set_option maxHeartbeats 4000000 in
theorem Mo_peace_60_r {N d : Nat} {k28 : Int32 → Int32 → Int32 → Int32 → mS → Option (Int32 × mS)} {M : mS} {x1 : Int32} {x2 : Int32} {x3 : Int32} {x4 : Int32} {r : Int32} {M' : mS} (hk28 : ∀ (x1 : Int32) (x2 : Int32) (x3 : Int32) (x4 : Int32) (M : mS), k28 x1 x2 x3 x4 M = some (r, M') → mRunF (mCd 281) (mEE (mMet mP mTx (d + 10)) (some .int) (some (.int r)) M') (28, [some (.ref 64), some (.int x1), some (.int x2), some (.int x3), some (.int x4)], [], mSS M)) (h : Mo_peace_60 N k28 x1 x2 x3 x4 M = some (r, M')) : mRunF (mCd 281) (mEE (mMet mP mTx (d + 10)) (some .int) (some (.int r)) M') (60, [some (.ref 64), some (.int x1), some (.int x2), some (.int x3), some (.int x4)], [], mSS M) := by
  unfold Mo_peace_60 at h
  refine mRunF.sg (mSl mk_281 33 3) (g := (64, [some (.ref 64), some (.int x1), some (.int x2), some (.int x3), some (.int x4)], [.int x1, .int x4, .ref 64], mSS M)) (by decide +kernel) rfl ?_
  obtain ⟨r2, q1, h⟩ := bR_of h
  refine R_callV (mi := 280) (na := 3) (ci := 12) (i := 64) (as := [.int x4, .int x1]) (r := []) (rv := some (.int r2)) (σ1 := mSS M) ⟨463, by decide +kernel⟩ rfl rfl rfl rfl (Mo_areAny_r N x4 x1 M (d + 7) q1) ?_
  have b3 := mBool rfl (Mo_areAny_r N x4 x1 M (d + 7) q1)
  show mRunF _ _ (67, [some (.ref 64), some (.int x1), some (.int x2), some (.int x3), some (.int x4)], [.int r2], mSS M)
  refine R_ne (t := 73) ⟨6, by decide +kernel⟩ (fun q => ?_) (fun q => ?_)
  · rw [if_pos q] at h
    refine mRunF.sg (mSl mk_281 38 2) (g := (73, [some (.ref 64), some (.int x1), some (.int x2), some (.int x4), some (.int x4)], [], mSS M)) (by decide +kernel) rfl ?_
    exact Mo_peace_73_r hk28 h
  · rw [if_neg q] at h
    exact Mo_peace_73_r hk28 h
set_option maxRecDepth 100000 in
set_option maxHeartbeats 4000000 in
theorem Mo_peace_28_r {N d : Nat}   {r : Int32} {M' : mS} : ∀ {n : Nat} {x1 : Int32} {x2 : Int32} {x3 : Int32} {x4 : Int32} {M : mS}, Mo_peace_28 N n x1 x2 x3 x4 M = some (r, M') → mRunF (mCd 281) (mEE (mMet mP mTx (d + 10)) (some .int) (some (.int r)) M') (28, [some (.ref 64), some (.int x1), some (.int x2), some (.int x3), some (.int x4)], [], mSS M) := by
  intro n
  induction n with
  | zero => intro x1 x2 x3 x4 M h; cases h
  | succ n ih =>
    replace ih := @ih
    intro x1 x2 x3 x4 M h
    unfold Mo_peace_28 at h
    refine mRunF.sg (mSl mk_281 17 6) (g := (39, [some (.ref 64), some (.int x1), some (.int x2), some (.int x3), some (.int x4)], [.int (M.1 64 18), .ref 78, .int 1, .int x4], mSS M)) (by decide +kernel) rfl ?_
    obtain ⟨g4, h⟩ := grd_of h
    refine R_iald (by decide +kernel) rfl g4 ?_
    refine mRunF.sg (mSl mk_281 24 1) (g := (41, [some (.ref 64), some (.int x1), some (.int x2), some (.int x3), some (.int x4)], [.int ((1 : Int32) <<< ((M.1 78 (M.1 64 18).toNatClampNeg) &&& 31)), .int x4], mSS M)) (by decide +kernel) rfl ?_
    refine R_ige (t := 79) ⟨38, by decide +kernel⟩ (fun q => ?_) (fun q => ?_)
    · rw [if_pos q] at h
      refine mRunF.sg (mSl mk_281 42 1) (g := (80, [some (.ref 64), some (.int x1), some (.int x2), some (.int x3), some (.int x4)], [.int x2], mSS M)) (by decide +kernel) rfl ?_
      refine R_ne (t := 90) ⟨10, by decide +kernel⟩ (fun q => ?_) (fun q => ?_)
      · rw [if_pos q] at h
        refine mRunF.sg (mSl mk_281 44 1) (g := (84, [some (.ref 64), some (.int x1), some (.int x2), some (.int x3), some (.int x4)], [.int x3], mSS M)) (by decide +kernel) rfl ?_
        obtain ⟨r6, q5, h⟩ := bR_of h
        refine R_callS (mi := 208) (na := 1) (as := [.int x3]) (r := []) (rv := some (.int r6)) (σ1 := mSS M) ⟨385, by decide +kernel⟩ rfl rfl rfl (Mo_bits_r N x3 M (d + 9) q5) ?_
        show mRunF _ _ (87, [some (.ref 64), some (.int x1), some (.int x2), some (.int x3), some (.int x4)], [.int r6], mSS M)
        refine mRunF.sg (mSl mk_281 46 1) (g := (91, [some (.ref 64), some (.int x1), some (.int x2), some (.int x3), some (.int x4)], [.int r6], mSS M)) (by decide +kernel) rfl ?_
        cases h
        exact R_iret (by decide +kernel)
      · rw [if_neg q] at h
        refine mRunF.sg (mSl mk_281 47 1) (g := (91, [some (.ref 64), some (.int x1), some (.int x2), some (.int x3), some (.int x4)], [.int x3], mSS M)) (by decide +kernel) rfl ?_
        cases h
        exact R_iret (by decide +kernel)
    · rw [if_neg q] at h
      refine mRunF.sg (mSl mk_281 26 1) (g := (45, [some (.ref 64), some (.int x1), some (.int x2), some (.int x3), some (.int x4)], [.int x3], mSS M)) (by decide +kernel) rfl ?_
      refine R_lt (t := 60) ⟨15, by decide +kernel⟩ (fun q => ?_) (fun q => ?_)
      · rw [if_pos q] at h
        exact Mo_peace_60_r (fun y0 y1 y2 y3 y4 hh => @ih y0 y1 y2 y3 y4 hh) h
      · rw [if_neg q] at h
        refine mRunF.sg (mSl mk_281 28 1) (g := (50, [some (.ref 64), some (.int x1), some (.int x2), some (.int x3), some (.int x4)], [.int x4], mSS M)) (by decide +kernel) rfl ?_
        obtain ⟨r8, q7, h⟩ := bR_of h
        refine R_callS (mi := 208) (na := 1) (as := [.int x4]) (r := []) (rv := some (.int r8)) (σ1 := mSS M) ⟨385, by decide +kernel⟩ rfl rfl rfl (Mo_bits_r N x4 M (d + 9) q7) ?_
        show mRunF _ _ (53, [some (.ref 64), some (.int x1), some (.int x2), some (.int x3), some (.int x4)], [.int r8], mSS M)
        refine mRunF.sg (mSl mk_281 30 1) (g := (54, [some (.ref 64), some (.int x1), some (.int x2), some (.int x3), some (.int x4)], [.int x3, .int r8], mSS M)) (by decide +kernel) rfl ?_
        obtain ⟨r10, q9, h⟩ := bR_of h
        refine R_callS (mi := 208) (na := 1) (as := [.int x3]) (r := [.int r8]) (rv := some (.int r10)) (σ1 := mSS M) ⟨385, by decide +kernel⟩ rfl rfl rfl (Mo_bits_r N x3 M (d + 9) q9) ?_
        show mRunF _ _ (57, [some (.ref 64), some (.int x1), some (.int x2), some (.int x3), some (.int x4)], [.int r10, .int r8], mSS M)
        refine R_ige (t := 73) ⟨16, by decide +kernel⟩ (fun q => ?_) (fun q => ?_)
        · rw [if_pos q] at h
          exact Mo_peace_73_r (fun y0 y1 y2 y3 y4 hh => @ih y0 y1 y2 y3 y4 hh) h
        · rw [if_neg q] at h
          exact Mo_peace_60_r (fun y0 y1 y2 y3 y4 hh => @ih y0 y1 y2 y3 y4 hh) h
set_option maxRecDepth 100000 in
set_option maxHeartbeats 4000000 in
theorem Mo_peace_r (N : Nat) (a0 : Int32) (a1 : Int32) (M : mS) {r : Int32} {M' : mS} (d : Nat) (h : Mo_peace N a0 a1 M = some (r, M')) : mMet mP mTx (d + 11) 281 [.ref 64, .int a0, .int a1] (mSS M) (some (.int r)) (mSS M') := by
  refine mMet_i ⟨Nat.le_refl _, Nat.le_refl _, Nat.le_of_ble_eq_true rfl⟩ ?_
  unfold Mo_peace at h
  show mRunF (mCd 281) (mEE (mMet mP mTx (d + 10)) (some .int) (some (.int r)) M') (0, [some (.ref 64), some (.int a0), some (.int a1), none, none], [], mSS M)
  refine mRunF.sg (mSl mk_281 0 1) (g := (1, [some (.ref 64), some (.int a0), some (.int a1), none, none], [.int a0], mSS M)) (by decide +kernel) rfl ?_
  refine R_callS (mi := 251) (na := 1) (as := [.int a0]) (r := []) (rv := some (.int (Mo_isSpan a0 M))) (σ1 := mSS M) ⟨453, by decide +kernel⟩ rfl rfl rfl (Mo_isSpan_r a0 M (d + 8)) ?_
  have b11 := mBool rfl (Mo_isSpan_r a0 M (d + 8))
  show mRunF _ _ (4, [some (.ref 64), some (.int a0), some (.int a1), none, none], [.int (Mo_isSpan a0 M)], mSS M)
  refine R_eq (t := 16) ⟨12, by decide +kernel⟩ (fun q => ?_) (fun q => ?_)
  · rw [if_pos q] at h
    refine mRunF.sg (mSl mk_281 8 1) (g := (17, [some (.ref 64), some (.int a0), some (.int a1), none, none], [.int (-1)], mSS M)) (by decide +kernel) rfl ?_
    cases h
    exact R_iret (by decide +kernel)
  · rw [if_neg q] at h
    refine mRunF.sg (mSl mk_281 3 3) (g := (10, [some (.ref 64), some (.int a0), some (.int a1), none, none], [.int 1, .int 0, .int a1], mSS M)) (by decide +kernel) rfl ?_
    refine R_callS (mi := 206) (na := 3) (as := [.int a1, .int 0, .int 1]) (r := []) (rv := some (.int (Mo_in a1 0 1 M))) (σ1 := mSS M) ⟨316, by decide +kernel⟩ rfl rfl rfl (Mo_in_r a1 0 1 M (d + 9)) ?_
    have b12 := mBool rfl (Mo_in_r a1 0 1 M (d + 9))
    show mRunF _ _ (13, [some (.ref 64), some (.int a0), some (.int a1), none, none], [.int (Mo_in a1 0 1 M)], mSS M)
    refine R_ne (t := 18) ⟨5, by decide +kernel⟩ (fun q => ?_) (fun q => ?_)
    · rw [if_pos q] at h
      refine mRunF.sg (mSl mk_281 8 1) (g := (17, [some (.ref 64), some (.int a0), some (.int a1), none, none], [.int (-1)], mSS M)) (by decide +kernel) rfl ?_
      cases h
      exact R_iret (by decide +kernel)
    · rw [if_neg q] at h
      refine mRunF.sg (mSl mk_281 10 2) (g := (20, [some (.ref 64), some (.int a0), some (.int a1), none, none], [.int a0, .ref 64], mSS M)) (by decide +kernel) rfl ?_
      obtain ⟨M14, q13, h⟩ := bV_of h
      refine R_callV (mi := 255) (na := 2) (ci := 12) (i := 64) (as := [.int a0]) (r := []) (rv := none) (σ1 := mSS M14) ⟨434, by decide +kernel⟩ rfl rfl rfl rfl (Mo_fillsStill_r N a0 M (d + 0) q13) ?_
      show mRunF _ _ (23, [some (.ref 64), some (.int a0), some (.int a1), none, none], [], mSS M14)
      refine mRunF.sg (mSl mk_281 13 4) (g := (28, [some (.ref 64), some (.int a0), some (.int a1), some (.int (-1)), some (.int 0)], [], mSS M14)) (by decide +kernel) rfl ?_
      exact Mo_peace_28_r h
set_option maxRecDepth 100000 in
set_option maxHeartbeats 4000000 in
theorem Mo_manyBy_4_r {N d : Nat}  {M : mS}  {r : Int32} : ∀ {n : Nat} {x1 : Int32} {x2 : Int32} {x3 : Int32}, Mo_manyBy_4 N M n x1 x2 x3 = some r → mRunF (mCd 282) (mEE (mMet mP mTx (d + 1)) (some .int) (some (.int r)) M) (4, [some (.ref 64), some (.int x1), some (.int x2), some (.int x3)], [], mSS M) := by
  intro n
  induction n with
  | zero => intro x1 x2 x3 h; cases h
  | succ n ih =>
    replace ih := @ih
    intro x1 x2 x3 h
    unfold Mo_manyBy_4 at h
    refine mRunF.sg (mSl mk_282 4 5) (g := (13, [some (.ref 64), some (.int x1), some (.int x2), some (.int x3)], [.int (M.1 64 18), .ref 78, .int x3], mSS M)) (by decide +kernel) rfl ?_
    obtain ⟨g1, h⟩ := grd_of h
    refine R_iald (by decide +kernel) rfl g1 ?_
    refine R_ige (t := 43) ⟨29, by decide +kernel⟩ (fun q => ?_) (fun q => ?_)
    · rw [if_pos q] at h
      refine mRunF.sg (mSl mk_282 29 1) (g := (44, [some (.ref 64), some (.int x1), some (.int x2), some (.int x3)], [.int x2], mSS M)) (by decide +kernel) rfl ?_
      cases h
      exact R_iret (by decide +kernel)
    · rw [if_neg q] at h
      refine mRunF.sg (mSl mk_282 11 8) (g := (27, [some (.ref 64), some (.int x1), some (.int x2), some (.int x3)], [.int ((5 * x1) + x3), .ref 99, .int x2], mSS M)) (by decide +kernel) rfl ?_
      obtain ⟨g2, h⟩ := grd_of h
      refine R_iald (by decide +kernel) rfl g2 ?_
      refine mRunF.sg (mSl mk_282 20 3) (g := (31, [some (.ref 64), some (.int x1), some (.int x2), some (.int x3)], [.int x1, .int x3, .ref 64, .int (M.1 99 ((5 * x1) + x3).toNatClampNeg), .int x2], mSS M)) (by decide +kernel) rfl ?_
      obtain ⟨r4, q3, h⟩ := bR_of h
      refine R_callV (mi := 263) (na := 3) (ci := 12) (i := 64) (as := [.int x3, .int x1]) (r := [.int (M.1 99 ((5 * x1) + x3).toNatClampNeg), .int x2]) (rv := some (.int r4)) (σ1 := mSS M) ⟨446, by decide +kernel⟩ rfl rfl rfl rfl (Mo_othersBy_r N x3 x1 M (d + 0) q3) ?_
      show mRunF _ _ (34, [some (.ref 64), some (.int x1), some (.int x2), some (.int x3)], [.int r4, .int (M.1 99 ((5 * x1) + x3).toNatClampNeg), .int x2], mSS M)
      refine mRunF.sg (mSl mk_282 24 3) (g := (37, [some (.ref 64), some (.int x1), some (.int (x2 ||| ((M.1 99 ((5 * x1) + x3).toNatClampNeg) &&& r4))), some (.int x3)], [], mSS M)) (by decide +kernel) rfl ?_
      obtain ⟨v5, hv, h⟩ := nxt_ex h
      rw [← hv]
      clear hv
      refine mRunF.sg (mSl mk_282 27 2) (g := (4, [some (.ref 64), some (.int x1), some (.int v5), some (.int (x3 + 1))], [], mSS M)) (by decide +kernel) rfl ?_
      exact @ih _ _ _ h
set_option maxRecDepth 100000 in
set_option maxHeartbeats 4000000 in
theorem Mo_manyBy_r (N : Nat) (a0 : Int32) (M : mS) {r : Int32} (d : Nat) (h : Mo_manyBy N a0 M = some r) : mMet mP mTx (d + 2) 282 [.ref 64, .int a0] (mSS M) (some (.int r)) (mSS M) := by
  refine mMet_i ⟨Nat.le_refl _, Nat.le_refl _, Nat.le_of_ble_eq_true rfl⟩ ?_
  unfold Mo_manyBy at h
  show mRunF (mCd 282) (mEE (mMet mP mTx (d + 1)) (some .int) (some (.int r)) M) (0, [some (.ref 64), some (.int a0), none, none], [], mSS M)
  refine mRunF.sg (mSl mk_282 0 4) (g := (4, [some (.ref 64), some (.int a0), some (.int 0), some (.int 0)], [], mSS M)) (by decide +kernel) rfl ?_
  exact Mo_manyBy_4_r h
set_option maxRecDepth 100000 in
set_option maxHeartbeats 4000000 in
theorem Mo_favourite_91_r {N d : Nat} {k31 : Int32 → Int32 → Int32 → Int32 → Int32 → mS → Option (Int32 × mS)} {M : mS} {x1 : Int32} {x2 : Int32} {x3 : Int32} {x4 : Int32} {x5 : Int32} {r : Int32} {M' : mS} (hk31 : ∀ (x1 : Int32) (x2 : Int32) (x3 : Int32) (x4 : Int32) (x5 : Int32) (M : mS), k31 x1 x2 x3 x4 x5 M = some (r, M') → mRunF (mCd 283) (mEE (mMet mP mTx (d + 10)) (some .int) (some (.int r)) M') (31, [some (.ref 64), some (.int x1), some (.int x2), some (.int x3), some (.int x4), some (.int x5), none, none], [], mSS M)) (h : Mo_favourite_91 N k31 x1 x2 x3 x4 x5 M = some (r, M')) : mRunF (mCd 283) (mEE (mMet mP mTx (d + 10)) (some .int) (some (.int r)) M') (91, [some (.ref 64), some (.int x1), some (.int x2), some (.int x3), some (.int x4), some (.int x5), none, none], [], mSS M) := by
  unfold Mo_favourite_91 at h
  refine mRunF.sg (mSl mk_283 50 2) (g := (31, [some (.ref 64), some (.int x1), some (.int x2), some (.int x3), some (.int x4), some (.int (x5 + 1)), none, none], [], mSS M)) (by decide +kernel) rfl ?_
  exact hk31 _ _ _ _ _ _ h
set_option maxRecDepth 100000 in
set_option maxHeartbeats 4000000 in
theorem Mo_favourite_46_r {N d : Nat} {k31 : Int32 → Int32 → Int32 → Int32 → Int32 → mS → Option (Int32 × mS)}  {r : Int32} {M' : mS} (hk31 : ∀ (x1 : Int32) (x2 : Int32) (x3 : Int32) (x4 : Int32) (x5 : Int32) (M : mS), k31 x1 x2 x3 x4 x5 M = some (r, M') → mRunF (mCd 283) (mEE (mMet mP mTx (d + 10)) (some .int) (some (.int r)) M') (31, [some (.ref 64), some (.int x1), some (.int x2), some (.int x3), some (.int x4), some (.int x5), none, none], [], mSS M)) : ∀ {n : Nat} {x1 : Int32} {x2 : Int32} {x3 : Int32} {x4 : Int32} {x5 : Int32} {x6 : Int32} {x7 : Int32} {M : mS}, Mo_favourite_46 N k31 n x1 x2 x3 x4 x5 x6 x7 M = some (r, M') → mRunF (mCd 283) (mEE (mMet mP mTx (d + 10)) (some .int) (some (.int r)) M') (46, [some (.ref 64), some (.int x1), some (.int x2), some (.int x3), some (.int x4), some (.int x5), some (.int x6), some (.int x7)], [], mSS M) := by
  intro n
  induction n with
  | zero => intro x1 x2 x3 x4 x5 x6 x7 M h; cases h
  | succ n ih =>
    replace ih := @ih
    intro x1 x2 x3 x4 x5 x6 x7 M h
    unfold Mo_favourite_46 at h
    refine mRunF.sg (mSl mk_283 27 2) (g := (49, [some (.ref 64), some (.int x1), some (.int x2), some (.int x3), some (.int x4), some (.int x5), some (.int x6), some (.int x7)], [.int x1, .int x7], mSS M)) (by decide +kernel) rfl ?_
    refine R_ige (t := 74) ⟨25, by decide +kernel⟩ (fun q => ?_) (fun q => ?_)
    · rw [if_pos q] at h
      refine mRunF.sg (mSl mk_283 42 2) (g := (78, [some (.ref 64), some (.int x1), some (.int x2), some (.int x3), some (.int x4), some (.int x5), some (.int x6), some (.int x7)], [.int x4, .int x6], mSS M)) (by decide +kernel) rfl ?_
      refine R_igt (t := 84) ⟨6, by decide +kernel⟩ (fun q => ?_) (fun q => ?_)
      · rw [if_pos q] at h
        refine mRunF.sg (mSl mk_283 46 4) (g := (91, [some (.ref 64), some (.int x1), some (.int x2), some (.int x5), some (.int x6), some (.int x5), some (.int x6), some (.int x7)], [], mSS M)) (by decide +kernel) rfl ?_
        refine mRunF.forget [true, true, true, true, true, true, false, false] ?_
        exact Mo_favourite_91_r hk31 h
      · rw [if_neg q] at h
        refine mRunF.sg (mSl mk_283 45 1) (g := (91, [some (.ref 64), some (.int x1), some (.int x2), some (.int x3), some (.int x4), some (.int x5), some (.int x6), some (.int x7)], [], mSS M)) (by decide +kernel) rfl ?_
        refine mRunF.forget [true, true, true, true, true, true, false, false] ?_
        exact Mo_favourite_91_r hk31 h
    · rw [if_neg q] at h
      refine mRunF.sg (mSl mk_283 30 3) (g := (57, [some (.ref 64), some (.int x1), some (.int x2), some (.int x3), some (.int x4), some (.int x5), some (.int x6), some (.int x7)], [.int x7, .ref 64, .int x6], mSS M)) (by decide +kernel) rfl ?_
      obtain ⟨r2, q1, h⟩ := bR_of h
      refine R_callV (mi := 282) (na := 2) (ci := 12) (i := 64) (as := [.int x7]) (r := [.int x6]) (rv := some (.int r2)) (σ1 := mSS M) ⟨466, by decide +kernel⟩ rfl rfl rfl rfl (Mo_manyBy_r N x7 M (d + 8) q1) ?_
      show mRunF _ _ (60, [some (.ref 64), some (.int x1), some (.int x2), some (.int x3), some (.int x4), some (.int x5), some (.int x6), some (.int x7)], [.int r2, .int x6], mSS M)
      refine mRunF.sg (mSl mk_283 34 6) (g := (68, [some (.ref 64), some (.int x1), some (.int x2), some (.int x3), some (.int x4), some (.int x5), some (.int (x6 + ((r2 >>> (x5 &&& 31)) &&& 1))), some (.int x7)], [], mSS M)) (by decide +kernel) rfl ?_
      obtain ⟨v3, hv, h⟩ := nxt_ex h
      rw [← hv]
      clear hv
      refine mRunF.sg (mSl mk_283 40 2) (g := (46, [some (.ref 64), some (.int x1), some (.int x2), some (.int x3), some (.int x4), some (.int x5), some (.int v3), some (.int (x7 + 1))], [], mSS M)) (by decide +kernel) rfl ?_
      exact @ih _ _ _ _ _ _ _ _ h
set_option maxRecDepth 100000 in
set_option maxHeartbeats 4000000 in
theorem Mo_favourite_31_r {N d : Nat}   {r : Int32} {M' : mS} : ∀ {n : Nat} {x1 : Int32} {x2 : Int32} {x3 : Int32} {x4 : Int32} {x5 : Int32} {M : mS}, Mo_favourite_31 N n x1 x2 x3 x4 x5 M = some (r, M') → mRunF (mCd 283) (mEE (mMet mP mTx (d + 10)) (some .int) (some (.int r)) M') (31, [some (.ref 64), some (.int x1), some (.int x2), some (.int x3), some (.int x4), some (.int x5), none, none], [], mSS M) := by
  intro n
  induction n with
  | zero => intro x1 x2 x3 x4 x5 M h; cases h
  | succ n ih =>
    replace ih := @ih
    intro x1 x2 x3 x4 x5 M h
    unfold Mo_favourite_31 at h
    refine mRunF.sg (mSl mk_283 19 2) (g := (34, [some (.ref 64), some (.int x1), some (.int x2), some (.int x3), some (.int x4), some (.int x5), none, none], [.ref 64, .int x5], mSS M)) (by decide +kernel) rfl ?_
    obtain ⟨r5, q4, h⟩ := bR_of h
    refine R_callV (mi := 210) (na := 1) (ci := 12) (i := 64) (as := []) (r := [.int x5]) (rv := some (.int r5)) (σ1 := mSS M) ⟨313, by decide +kernel⟩ rfl rfl rfl rfl (Mo_hours_r N M (d + 9) q4) ?_
    show mRunF _ _ (37, [some (.ref 64), some (.int x1), some (.int x2), some (.int x3), some (.int x4), some (.int x5), none, none], [.int r5, .int x5], mSS M)
    refine R_ige (t := 97) ⟨60, by decide +kernel⟩ (fun q => ?_) (fun q => ?_)
    · rw [if_pos q] at h
      refine mRunF.sg (mSl mk_283 52 1) (g := (98, [some (.ref 64), some (.int x1), some (.int x2), some (.int x3), some (.int x4), some (.int x5), none, none], [.int x2], mSS M)) (by decide +kernel) rfl ?_
      refine R_ne (t := 105) ⟨7, by decide +kernel⟩ (fun q => ?_) (fun q => ?_)
      · rw [if_pos q] at h
        refine mRunF.sg (mSl mk_283 54 2) (g := (107, [some (.ref 64), some (.int x1), some (.int x2), some (.int x3), some (.int x4), some (.int x5), none, none], [.int x3], mSS M)) (by decide +kernel) rfl ?_
        cases h
        exact R_iret (by decide +kernel)
      · rw [if_neg q] at h
        refine mRunF.sg (mSl mk_283 56 1) (g := (107, [some (.ref 64), some (.int x1), some (.int x2), some (.int x3), some (.int x4), some (.int x5), none, none], [.int x4], mSS M)) (by decide +kernel) rfl ?_
        cases h
        exact R_iret (by decide +kernel)
    · rw [if_neg q] at h
      refine mRunF.sg (mSl mk_283 23 4) (g := (46, [some (.ref 64), some (.int x1), some (.int x2), some (.int x3), some (.int x4), some (.int x5), some (.int 0), some (.int 0)], [], mSS M)) (by decide +kernel) rfl ?_
      exact Mo_favourite_46_r (fun y0 y1 y2 y3 y4 y5 hh => @ih y0 y1 y2 y3 y4 y5 hh) h
set_option maxRecDepth 100000 in
set_option maxHeartbeats 4000000 in
theorem Mo_favourite_r (N : Nat) (a0 : Int32) (a1 : Int32) (M : mS) {r : Int32} {M' : mS} (d : Nat) (h : Mo_favourite N a0 a1 M = some (r, M')) : mMet mP mTx (d + 11) 283 [.ref 64, .int a0, .int a1] (mSS M) (some (.int r)) (mSS M') := by
  refine mMet_i ⟨Nat.le_refl _, Nat.le_refl _, Nat.le_of_ble_eq_true rfl⟩ ?_
  unfold Mo_favourite at h
  show mRunF (mCd 283) (mEE (mMet mP mTx (d + 10)) (some .int) (some (.int r)) M') (0, [some (.ref 64), some (.int a0), some (.int a1), none, none, none, none, none], [], mSS M)
  refine mRunF.sg (mSl mk_283 0 1) (g := (1, [some (.ref 64), some (.int a0), some (.int a1), none, none, none, none, none], [.int a0], mSS M)) (by decide +kernel) rfl ?_
  refine R_callS (mi := 251) (na := 1) (as := [.int a0]) (r := []) (rv := some (.int (Mo_isSpan a0 M))) (σ1 := mSS M) ⟨453, by decide +kernel⟩ rfl rfl rfl (Mo_isSpan_r a0 M (d + 8)) ?_
  have b6 := mBool rfl (Mo_isSpan_r a0 M (d + 8))
  show mRunF _ _ (4, [some (.ref 64), some (.int a0), some (.int a1), none, none, none, none, none], [.int (Mo_isSpan a0 M)], mSS M)
  refine R_eq (t := 16) ⟨12, by decide +kernel⟩ (fun q => ?_) (fun q => ?_)
  · rw [if_pos q] at h
    refine mRunF.sg (mSl mk_283 8 1) (g := (17, [some (.ref 64), some (.int a0), some (.int a1), none, none, none, none, none], [.int (-1)], mSS M)) (by decide +kernel) rfl ?_
    cases h
    exact R_iret (by decide +kernel)
  · rw [if_neg q] at h
    refine mRunF.sg (mSl mk_283 3 3) (g := (10, [some (.ref 64), some (.int a0), some (.int a1), none, none, none, none, none], [.int 1, .int 0, .int a1], mSS M)) (by decide +kernel) rfl ?_
    refine R_callS (mi := 206) (na := 3) (as := [.int a1, .int 0, .int 1]) (r := []) (rv := some (.int (Mo_in a1 0 1 M))) (σ1 := mSS M) ⟨316, by decide +kernel⟩ rfl rfl rfl (Mo_in_r a1 0 1 M (d + 9)) ?_
    have b7 := mBool rfl (Mo_in_r a1 0 1 M (d + 9))
    show mRunF _ _ (13, [some (.ref 64), some (.int a0), some (.int a1), none, none, none, none, none], [.int (Mo_in a1 0 1 M)], mSS M)
    refine R_ne (t := 18) ⟨5, by decide +kernel⟩ (fun q => ?_) (fun q => ?_)
    · rw [if_pos q] at h
      refine mRunF.sg (mSl mk_283 8 1) (g := (17, [some (.ref 64), some (.int a0), some (.int a1), none, none, none, none, none], [.int (-1)], mSS M)) (by decide +kernel) rfl ?_
      cases h
      exact R_iret (by decide +kernel)
    · rw [if_neg q] at h
      refine mRunF.sg (mSl mk_283 10 2) (g := (20, [some (.ref 64), some (.int a0), some (.int a1), none, none, none, none, none], [.int a0, .ref 64], mSS M)) (by decide +kernel) rfl ?_
      obtain ⟨M9, q8, h⟩ := bV_of h
      refine R_callV (mi := 255) (na := 2) (ci := 12) (i := 64) (as := [.int a0]) (r := []) (rv := none) (σ1 := mSS M9) ⟨434, by decide +kernel⟩ rfl rfl rfl rfl (Mo_fillsStill_r N a0 M (d + 0) q8) ?_
      show mRunF _ _ (23, [some (.ref 64), some (.int a0), some (.int a1), none, none, none, none, none], [], mSS M9)
      refine mRunF.sg (mSl mk_283 13 6) (g := (31, [some (.ref 64), some (.int a0), some (.int a1), some (.int 0), some (.int (-1)), some (.int 0), none, none], [], mSS M9)) (by decide +kernel) rfl ?_
      exact Mo_favourite_31_r h
set_option maxRecDepth 100000 in
set_option maxHeartbeats 4000000 in
theorem Mo_longest_74_r {N d : Nat} {k29 : Int32 → Int32 → Int32 → Int32 → Int32 → mS → Option (Int32 × mS)} {M : mS} {x1 : Int32} {x2 : Int32} {x3 : Int32} {x4 : Int32} {x5 : Int32} {r : Int32} {M' : mS} (hk29 : ∀ (x1 : Int32) (x2 : Int32) (x3 : Int32) (x4 : Int32) (x5 : Int32) (M : mS), k29 x1 x2 x3 x4 x5 M = some (r, M') → mRunF (mCd 266) (mEE (mMet mP mTx (d + 10)) (some .int) (some (.int r)) M') (29, [some (.ref 64), some (.int x1), some (.int x2), some (.int x3), some (.int x4), some (.int x5), none], [], mSS M)) (h : Mo_longest_74 N k29 x1 x2 x3 x4 x5 M = some (r, M')) : mRunF (mCd 266) (mEE (mMet mP mTx (d + 10)) (some .int) (some (.int r)) M') (74, [some (.ref 64), some (.int x1), some (.int x2), some (.int x3), some (.int x4), some (.int x5), none], [], mSS M) := by
  unfold Mo_longest_74 at h
  refine mRunF.sg (mSl mk_266 44 2) (g := (29, [some (.ref 64), some (.int x1), some (.int x2), some (.int x3), some (.int x4), some (.int (x5 + 1)), none], [], mSS M)) (by decide +kernel) rfl ?_
  exact hk29 _ _ _ _ _ _ h
set_option maxRecDepth 100000 in
set_option maxHeartbeats 4000000 in
theorem Mo_longest_29_r {N d : Nat}   {r : Int32} {M' : mS} : ∀ {n : Nat} {x1 : Int32} {x2 : Int32} {x3 : Int32} {x4 : Int32} {x5 : Int32} {M : mS}, Mo_longest_29 N n x1 x2 x3 x4 x5 M = some (r, M') → mRunF (mCd 266) (mEE (mMet mP mTx (d + 10)) (some .int) (some (.int r)) M') (29, [some (.ref 64), some (.int x1), some (.int x2), some (.int x3), some (.int x4), some (.int x5), none], [], mSS M) := by
  intro n
  induction n with
  | zero => intro x1 x2 x3 x4 x5 M h; cases h
  | succ n ih =>
    replace ih := @ih
    intro x1 x2 x3 x4 x5 M h
    unfold Mo_longest_29 at h
    refine mRunF.sg (mSl mk_266 17 2) (g := (32, [some (.ref 64), some (.int x1), some (.int x2), some (.int x3), some (.int x4), some (.int x5), none], [.int x3, .int x5], mSS M)) (by decide +kernel) rfl ?_
    refine R_ige (t := 80) ⟨48, by decide +kernel⟩ (fun q => ?_) (fun q => ?_)
    · rw [if_pos q] at h
      refine mRunF.sg (mSl mk_266 46 1) (g := (82, [some (.ref 64), some (.int x1), some (.int x2), some (.int x3), some (.int x4), some (.int x5), none], [.int x4], mSS M)) (by decide +kernel) rfl ?_
      cases h
      exact R_iret (by decide +kernel)
    · rw [if_neg q] at h
      refine mRunF.sg (mSl mk_266 20 7) (g := (45, [some (.ref 64), some (.int x1), some (.int x2), some (.int x3), some (.int x4), some (.int x5), none], [.int ((5 * x5) + x1), .ref 99], mSS M)) (by decide +kernel) rfl ?_
      obtain ⟨g1, h⟩ := grd_of h
      refine R_iald (by decide +kernel) rfl g1 ?_
      refine mRunF.sg (mSl mk_266 28 7) (g := (56, [some (.ref 64), some (.int x1), some (.int x2), some (.int x3), some (.int x4), some (.int x5), none], [.int ((5 * x5) + x2), .ref 99, .int (M.1 99 ((5 * x5) + x1).toNatClampNeg)], mSS M)) (by decide +kernel) rfl ?_
      obtain ⟨g2, h⟩ := grd_of h
      refine R_iald (by decide +kernel) rfl g2 ?_
      refine mRunF.sg (mSl mk_266 36 1) (g := (58, [some (.ref 64), some (.int x1), some (.int x2), some (.int x3), some (.int x4), some (.int x5), none], [.int ((M.1 99 ((5 * x5) + x1).toNatClampNeg) &&& (M.1 99 ((5 * x5) + x2).toNatClampNeg))], mSS M)) (by decide +kernel) rfl ?_
      obtain ⟨r4, q3, h⟩ := bR_of h
      refine R_callS (mi := 208) (na := 1) (as := [.int ((M.1 99 ((5 * x5) + x1).toNatClampNeg) &&& (M.1 99 ((5 * x5) + x2).toNatClampNeg))]) (r := []) (rv := some (.int r4)) (σ1 := mSS M) ⟨385, by decide +kernel⟩ rfl rfl rfl (Mo_bits_r N ((M.1 99 ((5 * x5) + x1).toNatClampNeg) &&& (M.1 99 ((5 * x5) + x2).toNatClampNeg)) M (d + 9) q3) ?_
      show mRunF _ _ (61, [some (.ref 64), some (.int x1), some (.int x2), some (.int x3), some (.int x4), some (.int x5), none], [.int r4], mSS M)
      refine mRunF.sg (mSl mk_266 38 3) (g := (67, [some (.ref 64), some (.int x1), some (.int x2), some (.int x3), some (.int x4), some (.int x5), some (.int r4)], [.int x4, .int r4], mSS M)) (by decide +kernel) rfl ?_
      refine R_ile (t := 74) ⟨7, by decide +kernel⟩ (fun q => ?_) (fun q => ?_)
      · rw [if_pos q] at h
        refine mRunF.forget [true, true, true, true, true, true, false] ?_
        exact Mo_longest_74_r (fun y0 y1 y2 y3 y4 y5 hh => @ih y0 y1 y2 y3 y4 y5 hh) h
      · rw [if_neg q] at h
        refine mRunF.sg (mSl mk_266 42 2) (g := (74, [some (.ref 64), some (.int x1), some (.int x2), some (.int x3), some (.int r4), some (.int x5), some (.int r4)], [], mSS M)) (by decide +kernel) rfl ?_
        refine mRunF.forget [true, true, true, true, true, true, false] ?_
        exact Mo_longest_74_r (fun y0 y1 y2 y3 y4 y5 hh => @ih y0 y1 y2 y3 y4 y5 hh) h
set_option maxRecDepth 100000 in
set_option maxHeartbeats 4000000 in
theorem Mo_longest_r (N : Nat) (a0 : Int32) (a1 : Int32) (a2 : Int32) (M : mS) {r : Int32} {M' : mS} (d : Nat) (h : Mo_longest N a0 a1 a2 M = some (r, M')) : mMet mP mTx (d + 11) 266 [.ref 64, .int a0, .int a1, .int a2] (mSS M) (some (.int r)) (mSS M') := by
  refine mMet_i ⟨Nat.le_refl _, Nat.le_refl _, Nat.le_of_ble_eq_true rfl⟩ ?_
  unfold Mo_longest at h
  show mRunF (mCd 266) (mEE (mMet mP mTx (d + 10)) (some .int) (some (.int r)) M') (0, [some (.ref 64), some (.int a0), some (.int a1), some (.int a2), none, none, none], [], mSS M)
  refine mRunF.sg (mSl mk_266 0 3) (g := (3, [some (.ref 64), some (.int a0), some (.int a1), some (.int a2), none, none, none], [.int a1, .int a0, .ref 64], mSS M)) (by decide +kernel) rfl ?_
  obtain ⟨r6, q5, h⟩ := bR_of h
  refine R_callV (mi := 214) (na := 3) (ci := 12) (i := 64) (as := [.int a0, .int a1]) (r := []) (rv := some (.int r6)) (σ1 := mSS M) ⟨403, by decide +kernel⟩ rfl rfl rfl rfl (Mo_areTwo_r N a0 a1 M (d + 7) q5) ?_
  have b7 := mBool rfl (Mo_areTwo_r N a0 a1 M (d + 7) q5)
  show mRunF _ _ (6, [some (.ref 64), some (.int a0), some (.int a1), some (.int a2), none, none, none], [.int r6], mSS M)
  refine R_eq (t := 16) ⟨10, by decide +kernel⟩ (fun q => ?_) (fun q => ?_)
  · rw [if_pos q] at h
    refine mRunF.sg (mSl mk_266 8 1) (g := (17, [some (.ref 64), some (.int a0), some (.int a1), some (.int a2), none, none, none], [.int (-1)], mSS M)) (by decide +kernel) rfl ?_
    cases h
    exact R_iret (by decide +kernel)
  · rw [if_neg q] at h
    refine mRunF.sg (mSl mk_266 5 1) (g := (10, [some (.ref 64), some (.int a0), some (.int a1), some (.int a2), none, none, none], [.int a2], mSS M)) (by decide +kernel) rfl ?_
    refine R_callS (mi := 250) (na := 1) (as := [.int a2]) (r := []) (rv := some (.int (Mo_isLong a2 M))) (σ1 := mSS M) ⟨419, by decide +kernel⟩ rfl rfl rfl (Mo_isLong_r a2 M (d + 8)) ?_
    have b8 := mBool rfl (Mo_isLong_r a2 M (d + 8))
    show mRunF _ _ (13, [some (.ref 64), some (.int a0), some (.int a1), some (.int a2), none, none, none], [.int (Mo_isLong a2 M)], mSS M)
    refine R_ne (t := 18) ⟨5, by decide +kernel⟩ (fun q => ?_) (fun q => ?_)
    · rw [if_pos q] at h
      refine mRunF.sg (mSl mk_266 8 1) (g := (17, [some (.ref 64), some (.int a0), some (.int a1), some (.int a2), none, none, none], [.int (-1)], mSS M)) (by decide +kernel) rfl ?_
      cases h
      exact R_iret (by decide +kernel)
    · rw [if_neg q] at h
      refine mRunF.sg (mSl mk_266 10 2) (g := (20, [some (.ref 64), some (.int a0), some (.int a1), some (.int a2), none, none, none], [.int a2, .ref 64], mSS M)) (by decide +kernel) rfl ?_
      obtain ⟨M10, q9, h⟩ := bV_of h
      refine R_callV (mi := 255) (na := 2) (ci := 12) (i := 64) (as := [.int a2]) (r := []) (rv := none) (σ1 := mSS M10) ⟨434, by decide +kernel⟩ rfl rfl rfl rfl (Mo_fillsStill_r N a2 M (d + 0) q9) ?_
      show mRunF _ _ (23, [some (.ref 64), some (.int a0), some (.int a1), some (.int a2), none, none, none], [], mSS M10)
      refine mRunF.sg (mSl mk_266 13 4) (g := (29, [some (.ref 64), some (.int a0), some (.int a1), some (.int a2), some (.int 0), some (.int 0), none], [], mSS M10)) (by decide +kernel) rfl ?_
      exact Mo_longest_29_r h
set_option maxRecDepth 100000 in
set_option maxHeartbeats 4000000 in
theorem Mo_couplesWith_r (N : Nat) (a0 : Int32) (a1 : Int32) (a2 : Int32) (M : mS) {r : Int32} (d : Nat) (h : Mo_couplesWith N a0 a1 a2 M = some r) : mMet mP mTx (d + 3) 285 [.ref 64, .int a0, .int a1, .int a2] (mSS M) (some (.int r)) (mSS M) := by
  refine mMet_i ⟨Nat.le_refl _, Nat.le_refl _, Nat.le_of_ble_eq_true rfl⟩ ?_
  unfold Mo_couplesWith at h
  show mRunF (mCd 285) (mEE (mMet mP mTx (d + 2)) (some .int) (some (.int r)) M) (0, [some (.ref 64), some (.int a0), some (.int a1), some (.int a2)], [], mSS M)
  refine mRunF.sg (mSl mk_285 0 5) (g := (7, [some (.ref 64), some (.int a0), some (.int a1), some (.int a2)], [.int (M.1 64 58), .int a1, .int a0, .ref 64], mSS M)) (by decide +kernel) rfl ?_
  obtain ⟨r2, q1, h⟩ := bR_of h
  refine R_callV (mi := 261) (na := 4) (ci := 12) (i := 64) (as := [.int a0, .int a1, .int (M.1 64 58)]) (r := []) (rv := some (.int r2)) (σ1 := mSS M) ⟨443, by decide +kernel⟩ rfl rfl rfl rfl (Mo_oftenBy_r N a0 a1 (M.1 64 58) M (d + 0) q1) ?_
  show mRunF _ _ (10, [some (.ref 64), some (.int a0), some (.int a1), some (.int a2)], [.int r2], mSS M)
  refine mRunF.sg (mSl mk_285 6 15) (g := (27, [some (.ref 64), some (.int a0), some (.int a1), some (.int a2)], [.int ((a2 &&& (((1 : Int32) <<< (a0 &&& 31)) ^^^ (-1))) &&& (((1 : Int32) <<< (a1 &&& 31)) ^^^ (-1))), .ref 101, .int r2], mSS M)) (by decide +kernel) rfl ?_
  obtain ⟨g3, h⟩ := grd_of h
  refine R_iald (by decide +kernel) rfl g3 ?_
  refine mRunF.sg (mSl mk_285 22 1) (g := (29, [some (.ref 64), some (.int a0), some (.int a1), some (.int a2)], [.int (r2 + (M.1 101 ((a2 &&& (((1 : Int32) <<< (a0 &&& 31)) ^^^ (-1))) &&& (((1 : Int32) <<< (a1 &&& 31)) ^^^ (-1))).toNatClampNeg))], mSS M)) (by decide +kernel) rfl ?_
  cases h
  exact R_iret (by decide +kernel)
set_option maxRecDepth 100000 in
set_option maxHeartbeats 4000000 in
theorem Mo_fillsCouples_109_r {N d : Nat} {k19 : Int32 → mS → Option mS} {k62 : Int32 → Int32 → Int32 → mS → Option mS} {M : mS} {x2 : Int32} {x3 : Int32} {x4 : Int32} {M' : mS} (hk19 : ∀ (x2 : Int32) (M : mS), k19 x2 M = some M' → mRunF (mCd 286) (mEE (mMet mP mTx (d + 10)) (none) none M') (19, [some (.ref 64), none, some (.int x2), none, none], [], mSS M)) (hk62 : ∀ (x2 : Int32) (x3 : Int32) (x4 : Int32) (M : mS), k62 x2 x3 x4 M = some M' → mRunF (mCd 286) (mEE (mMet mP mTx (d + 10)) (none) none M') (62, [some (.ref 64), none, some (.int x2), some (.int x3), some (.int x4)], [], mSS M)) (h : Mo_fillsCouples_109 N k19 k62 x2 x3 x4 M = some M') : mRunF (mCd 286) (mEE (mMet mP mTx (d + 10)) (none) none M') (109, [some (.ref 64), none, some (.int x2), some (.int x3), some (.int x4)], [], mSS M) := by
  unfold Mo_fillsCouples_109 at h
  refine mRunF.sg (mSl mk_286 72 2) (g := (62, [some (.ref 64), none, some (.int x2), some (.int x3), some (.int (x4 + 1))], [], mSS M)) (by decide +kernel) rfl ?_
  exact hk62 _ _ _ _ h
set_option maxRecDepth 100000 in
set_option maxHeartbeats 4000000 in
theorem Mo_fillsCouples_62_r {N d : Nat} {k19 : Int32 → mS → Option mS}  {M' : mS} (hk19 : ∀ (x2 : Int32) (M : mS), k19 x2 M = some M' → mRunF (mCd 286) (mEE (mMet mP mTx (d + 10)) (none) none M') (19, [some (.ref 64), none, some (.int x2), none, none], [], mSS M)) : ∀ {n : Nat} {x2 : Int32} {x3 : Int32} {x4 : Int32} {M : mS}, Mo_fillsCouples_62 N k19 n x2 x3 x4 M = some M' → mRunF (mCd 286) (mEE (mMet mP mTx (d + 10)) (none) none M') (62, [some (.ref 64), none, some (.int x2), some (.int x3), some (.int x4)], [], mSS M) := by
  intro n
  induction n with
  | zero => intro x2 x3 x4 M h; cases h
  | succ n ih =>
    replace ih := @ih
    intro x2 x3 x4 M h
    unfold Mo_fillsCouples_62 at h
    refine mRunF.sg (mSl mk_286 43 2) (g := (65, [some (.ref 64), none, some (.int x2), some (.int x3), some (.int x4)], [.int 5, .int x4], mSS M)) (by decide +kernel) rfl ?_
    refine R_ige (t := 115) ⟨50, by decide +kernel⟩ (fun q => ?_) (fun q => ?_)
    · rw [if_pos q] at h
      refine mRunF.sg (mSl mk_286 74 2) (g := (19, [some (.ref 64), none, some (.int (x2 + 1)), some (.int x3), some (.int x4)], [], mSS M)) (by decide +kernel) rfl ?_
      refine mRunF.forget [true, true, true, false, false] ?_
      exact hk19 _ _ h
    · rw [if_neg q] at h
      refine mRunF.sg (mSl mk_286 46 6) (g := (75, [some (.ref 64), none, some (.int x2), some (.int x3), some (.int x4)], [.int 1, .int ((x2 >>> (x4 &&& 31)) &&& 1)], mSS M)) (by decide +kernel) rfl ?_
      refine R_ine (t := 109) ⟨34, by decide +kernel⟩ (fun q => ?_) (fun q => ?_)
      · rw [if_pos q] at h
        refine mRunF.sg (mSl mk_286 53 4) (g := (83, [some (.ref 64), none, some (.int x2), some (.int x3), some (.int x4)], [.int x2, .int x4, .int x3, .ref 64], mSS M)) (by decide +kernel) rfl ?_
        obtain ⟨r2, q1, h⟩ := bR_of h
        refine R_callV (mi := 285) (na := 4) (ci := 12) (i := 64) (as := [.int x3, .int x4, .int x2]) (r := []) (rv := some (.int r2)) (σ1 := mSS M) ⟨472, by decide +kernel⟩ rfl rfl rfl rfl (Mo_couplesWith_r N x3 x4 x2 M (d + 7) q1) ?_
        show mRunF _ _ (86, [some (.ref 64), none, some (.int x2), some (.int x3), some (.int x4)], [.int r2], mSS M)
        refine mRunF.sg (mSl mk_286 58 3) (g := (91, [some (.ref 64), none, some (.int x2), some (.int x3), some (.int x4)], [.int x2, .ref 101, .int r2], mSS M)) (by decide +kernel) rfl ?_
        obtain ⟨g3, h⟩ := grd_of h
        refine R_iald (by decide +kernel) rfl g3 ?_
        refine R_ile (t := 109) ⟨17, by decide +kernel⟩ (fun q => ?_) (fun q => ?_)
        · rw [if_pos q] at h
          exact Mo_fillsCouples_109_r hk19 (fun y0 y1 y2 y3 hh => @ih y0 y1 y2 y3 hh) h
        · rw [if_neg q] at h
          refine mRunF.sg (mSl mk_286 63 7) (g := (105, [some (.ref 64), none, some (.int x2), some (.int x3), some (.int x4)], [.int x2, .int x4, .int x3, .ref 64, .int x2, .ref 101], mSS M)) (by decide +kernel) rfl ?_
          obtain ⟨r5, q4, h⟩ := bR_of h
          refine R_callV (mi := 285) (na := 4) (ci := 12) (i := 64) (as := [.int x3, .int x4, .int x2]) (r := [.int x2, .ref 101]) (rv := some (.int r5)) (σ1 := mSS M) ⟨472, by decide +kernel⟩ rfl rfl rfl rfl (Mo_couplesWith_r N x3 x4 x2 M (d + 7) q4) ?_
          show mRunF _ _ (108, [some (.ref 64), none, some (.int x2), some (.int x3), some (.int x4)], [.int r5, .int x2, .ref 101], mSS M)
          obtain ⟨g6, h⟩ := grd_of h
          refine R_iast (by decide +kernel) rfl g6 ?_
          obtain ⟨M7, hv, h⟩ := nxt_ex h
          rw [← hv]
          clear hv
          exact Mo_fillsCouples_109_r hk19 (fun y0 y1 y2 y3 hh => @ih y0 y1 y2 y3 hh) h
      · rw [if_neg q] at h
        exact Mo_fillsCouples_109_r hk19 (fun y0 y1 y2 y3 hh => @ih y0 y1 y2 y3 hh) h
set_option maxRecDepth 100000 in
set_option maxHeartbeats 4000000 in
theorem Mo_fillsCouples_19_r {N d : Nat}   {M' : mS} : ∀ {n : Nat} {x2 : Int32} {M : mS}, Mo_fillsCouples_19 N n x2 M = some M' → mRunF (mCd 286) (mEE (mMet mP mTx (d + 10)) (none) none M') (19, [some (.ref 64), none, some (.int x2), none, none], [], mSS M) := by
  intro n
  induction n with
  | zero => intro x2 M h; cases h
  | succ n ih =>
    replace ih := @ih
    intro x2 M h
    unfold Mo_fillsCouples_19 at h
    refine mRunF.sg (mSl mk_286 13 6) (g := (29, [some (.ref 64), none, some (.int x2), none, none], [.int (M.1 64 18), .ref 78, .int 1, .int x2], mSS M)) (by decide +kernel) rfl ?_
    obtain ⟨g8, h⟩ := grd_of h
    refine R_iald (by decide +kernel) rfl g8 ?_
    refine mRunF.sg (mSl mk_286 20 1) (g := (31, [some (.ref 64), none, some (.int x2), none, none], [.int ((1 : Int32) <<< ((M.1 78 (M.1 64 18).toNatClampNeg) &&& 31)), .int x2], mSS M)) (by decide +kernel) rfl ?_
    refine R_ige (t := 121) ⟨90, by decide +kernel⟩ (fun q => ?_) (fun q => ?_)
    · rw [if_pos q] at h
      cases h
      exact R_vret (by decide +kernel)
    · rw [if_neg q] at h
      refine mRunF.sg (mSl mk_286 22 1) (g := (35, [some (.ref 64), none, some (.int x2), none, none], [.int x2], mSS M)) (by decide +kernel) rfl ?_
      obtain ⟨r10, q9, h⟩ := bR_of h
      refine R_callS (mi := 259) (na := 1) (as := [.int x2]) (r := []) (rv := some (.int r10)) (σ1 := mSS M) ⟨440, by decide +kernel⟩ rfl rfl rfl (Mo_lowestOf_r N x2 M (d + 9) q9) ?_
      show mRunF _ _ (38, [some (.ref 64), none, some (.int x2), none, none], [.int r10], mSS M)
      refine mRunF.sg (mSl mk_286 24 13) (g := (55, [some (.ref 64), none, some (.int x2), some (.int r10), none], [.int (x2 &&& (((1 : Int32) <<< (r10 &&& 31)) ^^^ (-1))), .ref 101, .int x2, .ref 101], mSS M)) (by decide +kernel) rfl ?_
      obtain ⟨g11, h⟩ := grd_of h
      refine R_iald (by decide +kernel) rfl g11 ?_
      obtain ⟨g12, h⟩ := grd_of h
      refine R_iast (by decide +kernel) rfl g12 ?_
      obtain ⟨M13, hv, h⟩ := nxt_ex h
      rw [← hv]
      clear hv
      refine mRunF.sg (mSl mk_286 39 4) (g := (62, [some (.ref 64), none, some (.int x2), some (.int r10), some (.int (r10 + 1))], [], mSS M13)) (by decide +kernel) rfl ?_
      obtain ⟨v14, hv, h⟩ := nxt_ex h
      rw [← hv]
      clear hv
      exact Mo_fillsCouples_62_r (fun y0 y1 hh => @ih y0 y1 hh) h
set_option maxRecDepth 100000 in
set_option maxHeartbeats 4000000 in
theorem Mo_fillsCouples_r (N : Nat) (a0 : Int32) (M : mS) {M' : mS} (d : Nat) (h : Mo_fillsCouples N a0 M = some M') : mMet mP mTx (d + 11) 286 [.ref 64, .int a0] (mSS M) none (mSS M') := by
  refine mMet_i ⟨Nat.le_refl _, Nat.le_refl _, Nat.le_of_ble_eq_true rfl⟩ ?_
  unfold Mo_fillsCouples at h
  show mRunF (mCd 286) (mEE (mMet mP mTx (d + 10)) (none) none M') (0, [some (.ref 64), some (.int a0), none, none, none], [], mSS M)
  refine mRunF.sg (mSl mk_286 0 2) (g := (2, [some (.ref 64), some (.int a0), none, none, none], [.int a0, .ref 64], mSS M)) (by decide +kernel) rfl ?_
  obtain ⟨M16, q15, h⟩ := bV_of h
  refine R_callV (mi := 255) (na := 2) (ci := 12) (i := 64) (as := [.int a0]) (r := []) (rv := none) (σ1 := mSS M16) ⟨434, by decide +kernel⟩ rfl rfl rfl rfl (Mo_fillsStill_r N a0 M (d + 0) q15) ?_
  show mRunF _ _ (5, [some (.ref 64), some (.int a0), none, none, none], [], mSS M16)
  refine mRunF.sg (mSl mk_286 3 3) (g := (10, [some (.ref 64), some (.int a0), none, none, none], [], mSS (mWI M16 64 58 a0))) (by decide +kernel) rfl ?_
  obtain ⟨M17, hv, h⟩ := nxt_ex h
  rw [← hv]
  clear hv
  refine mRunF.sg (mSl mk_286 6 4) (g := (16, [some (.ref 64), some (.int a0), none, none, none], [.int 0, .int 0, .ref 101], mSS M17)) (by decide +kernel) rfl ?_
  refine R_iast (by decide +kernel) rfl rfl ?_
  show mRunF _ _ (_, _, _, mSS (mWI M17 101 0 0))
  obtain ⟨M18, hv, h⟩ := nxt_ex h
  rw [← hv]
  clear hv
  refine mRunF.sg (mSl mk_286 11 2) (g := (19, [some (.ref 64), some (.int a0), some (.int 1), none, none], [], mSS M18)) (by decide +kernel) rfl ?_
  refine mRunF.forget [true, false, true, true, true] ?_
  exact Mo_fillsCouples_19_r h
set_option maxRecDepth 100000 in
set_option maxHeartbeats 4000000 in
theorem Mo_coupleOf_57_r {N d : Nat} {k33 : Int32 → Int32 → Int32 → Option Int32} {M : mS} {x1 : Int32} {x2 : Int32} {x3 : Int32} {r : Int32} (hk33 : ∀ (x1 : Int32) (x2 : Int32) (x3 : Int32), k33 x1 x2 x3 = some r → mRunF (mCd 287) (mEE (mMet mP mTx (d + 3)) (some .int) (some (.int r)) M) (33, [some (.ref 64), some (.int x1), some (.int x2), some (.int x3)], [], mSS M)) (h : Mo_coupleOf_57 N k33 M x1 x2 x3 = some r) : mRunF (mCd 287) (mEE (mMet mP mTx (d + 3)) (some .int) (some (.int r)) M) (57, [some (.ref 64), some (.int x1), some (.int x2), some (.int x3)], [], mSS M) := by
  unfold Mo_coupleOf_57 at h
  refine mRunF.sg (mSl mk_287 40 2) (g := (33, [some (.ref 64), some (.int x1), some (.int x2), some (.int (x3 + 1))], [], mSS M)) (by decide +kernel) rfl ?_
  exact hk33 _ _ _ h
set_option maxRecDepth 100000 in
set_option maxHeartbeats 4000000 in
theorem Mo_coupleOf_33_r {N d : Nat}  {M : mS}  {r : Int32} : ∀ {n : Nat} {x1 : Int32} {x2 : Int32} {x3 : Int32}, Mo_coupleOf_33 N M n x1 x2 x3 = some r → mRunF (mCd 287) (mEE (mMet mP mTx (d + 3)) (some .int) (some (.int r)) M) (33, [some (.ref 64), some (.int x1), some (.int x2), some (.int x3)], [], mSS M) := by
  intro n
  induction n with
  | zero => intro x1 x2 x3 h; cases h
  | succ n ih =>
    replace ih := @ih
    intro x1 x2 x3 h
    unfold Mo_coupleOf_33 at h
    refine mRunF.sg (mSl mk_287 24 5) (g := (38, [some (.ref 64), some (.int x1), some (.int x2), some (.int x3)], [.int ((x1 >>> (x3 &&& 31)) &&& 1)], mSS M)) (by decide +kernel) rfl ?_
    refine R_eq (t := 57) ⟨19, by decide +kernel⟩ (fun q => ?_) (fun q => ?_)
    · rw [if_pos q] at h
      exact Mo_coupleOf_57_r (fun y0 y1 y2 hh => @ih y0 y1 y2 hh) h
    · rw [if_neg q] at h
      refine mRunF.sg (mSl mk_287 30 4) (g := (45, [some (.ref 64), some (.int x1), some (.int x2), some (.int x3)], [.int x1, .int x3, .int x2, .ref 64], mSS M)) (by decide +kernel) rfl ?_
      obtain ⟨r2, q1, h⟩ := bR_of h
      refine R_callV (mi := 285) (na := 4) (ci := 12) (i := 64) (as := [.int x2, .int x3, .int x1]) (r := []) (rv := some (.int r2)) (σ1 := mSS M) ⟨472, by decide +kernel⟩ rfl rfl rfl rfl (Mo_couplesWith_r N x2 x3 x1 M (d + 0) q1) ?_
      show mRunF _ _ (48, [some (.ref 64), some (.int x1), some (.int x2), some (.int x3)], [.int r2], mSS M)
      refine mRunF.sg (mSl mk_287 35 3) (g := (53, [some (.ref 64), some (.int x1), some (.int x2), some (.int x3)], [.int x1, .ref 101, .int r2], mSS M)) (by decide +kernel) rfl ?_
      obtain ⟨g3, h⟩ := grd_of h
      refine R_iald (by decide +kernel) rfl g3 ?_
      refine R_ieq (t := 63) ⟨9, by decide +kernel⟩ (fun q => ?_) (fun q => ?_)
      · rw [if_pos q] at h
        refine mRunF.sg (mSl mk_287 42 1) (g := (64, [some (.ref 64), some (.int x1), some (.int x2), some (.int x3)], [.int x3], mSS M)) (by decide +kernel) rfl ?_
        cases h
        exact R_iret (by decide +kernel)
      · rw [if_neg q] at h
        exact Mo_coupleOf_57_r (fun y0 y1 y2 hh => @ih y0 y1 y2 hh) h
set_option maxRecDepth 100000 in
set_option maxHeartbeats 4000000 in
theorem Mo_coupleOf_r (N : Nat) (a0 : Int32) (M : mS) {r : Int32} (d : Nat) (h : Mo_coupleOf N a0 M = some r) : mMet mP mTx (d + 4) 287 [.ref 64, .int a0] (mSS M) (some (.int r)) (mSS M) := by
  refine mMet_i ⟨Nat.le_refl _, Nat.le_refl _, Nat.le_of_ble_eq_true rfl⟩ ?_
  unfold Mo_coupleOf at h
  show mRunF (mCd 287) (mEE (mMet mP mTx (d + 3)) (some .int) (some (.int r)) M) (0, [some (.ref 64), some (.int a0), none, none], [], mSS M)
  refine mRunF.sg (mSl mk_287 0 1) (g := (1, [some (.ref 64), some (.int a0), none, none], [.int a0], mSS M)) (by decide +kernel) rfl ?_
  obtain ⟨r5, q4, h⟩ := bR_of h
  refine R_callS (mi := 259) (na := 1) (as := [.int a0]) (r := []) (rv := some (.int r5)) (σ1 := mSS M) ⟨440, by decide +kernel⟩ rfl rfl rfl (Mo_lowestOf_r N a0 M (d + 2) q4) ?_
  show mRunF _ _ (4, [some (.ref 64), some (.int a0), none, none], [.int r5], mSS M)
  refine mRunF.sg (mSl mk_287 2 10) (g := (16, [some (.ref 64), some (.int a0), some (.int r5), none], [.int (a0 &&& (((1 : Int32) <<< (r5 &&& 31)) ^^^ (-1))), .ref 101], mSS M)) (by decide +kernel) rfl ?_
  obtain ⟨g6, h⟩ := grd_of h
  refine R_iald (by decide +kernel) rfl g6 ?_
  refine mRunF.sg (mSl mk_287 13 3) (g := (22, [some (.ref 64), some (.int a0), some (.int r5), none], [.int a0, .ref 101, .int (M.1 101 (a0 &&& (((1 : Int32) <<< (r5 &&& 31)) ^^^ (-1))).toNatClampNeg)], mSS M)) (by decide +kernel) rfl ?_
  obtain ⟨g7, h⟩ := grd_of h
  refine R_iald (by decide +kernel) rfl g7 ?_
  refine R_ine (t := 29) ⟨6, by decide +kernel⟩ (fun q => ?_) (fun q => ?_)
  · rw [if_pos q] at h
    refine mRunF.sg (mSl mk_287 18 1) (g := (28, [some (.ref 64), some (.int a0), some (.int r5), none], [.int (-2)], mSS M)) (by decide +kernel) rfl ?_
    cases h
    exact R_iret (by decide +kernel)
  · rw [if_neg q] at h
    refine mRunF.sg (mSl mk_287 20 4) (g := (33, [some (.ref 64), some (.int a0), some (.int r5), some (.int (r5 + 1))], [], mSS M)) (by decide +kernel) rfl ?_
    obtain ⟨v8, hv, h⟩ := nxt_ex h
    rw [← hv]
    clear hv
    exact Mo_coupleOf_33_r h
set_option maxRecDepth 100000 in
set_option maxHeartbeats 4000000 in
theorem Mo_couples_107_r {N d : Nat} {k53 : Int32 → Int32 → mS → Option (Int32 × mS)} {M : mS} {x2 : Int32} {x3 : Int32} {r : Int32} {M' : mS} (hk53 : ∀ (x2 : Int32) (x3 : Int32) (M : mS), k53 x2 x3 M = some (r, M') → mRunF (mCd 288) (mEE (mMet mP mTx (d + 11)) (some .int) (some (.int r)) M') (53, [some (.ref 64), none, some (.int x2), some (.int x3), none, none], [], mSS M)) (h : Mo_couples_107 N k53 x2 x3 M = some (r, M')) : mRunF (mCd 288) (mEE (mMet mP mTx (d + 11)) (some .int) (some (.int r)) M') (107, [some (.ref 64), none, some (.int x2), some (.int x3), none, none], [], mSS M) := by
  unfold Mo_couples_107 at h
  refine mRunF.sg (mSl mk_288 68 1) (g := (53, [some (.ref 64), none, some (.int x2), some (.int x3), none, none], [], mSS M)) (by decide +kernel) rfl ?_
  exact hk53 _ _ _ h
set_option maxRecDepth 100000 in
set_option maxHeartbeats 4000000 in
theorem Mo_couples_53_r {N d : Nat}   {r : Int32} {M' : mS} : ∀ {n : Nat} {x2 : Int32} {x3 : Int32} {M : mS}, Mo_couples_53 N n x2 x3 M = some (r, M') → mRunF (mCd 288) (mEE (mMet mP mTx (d + 11)) (some .int) (some (.int r)) M') (53, [some (.ref 64), none, some (.int x2), some (.int x3), none, none], [], mSS M) := by
  intro n
  induction n with
  | zero => intro x2 x3 M h; cases h
  | succ n ih =>
    replace ih := @ih
    intro x2 x3 M h
    unfold Mo_couples_53 at h
    refine mRunF.sg (mSl mk_288 33 1) (g := (54, [some (.ref 64), none, some (.int x2), some (.int x3), none, none], [.int x3], mSS M)) (by decide +kernel) rfl ?_
    obtain ⟨r2, q1, h⟩ := bR_of h
    refine R_callS (mi := 259) (na := 1) (as := [.int x3]) (r := []) (rv := some (.int r2)) (σ1 := mSS M) ⟨440, by decide +kernel⟩ rfl rfl rfl (Mo_lowestOf_r N x3 M (d + 10) q1) ?_
    show mRunF _ _ (57, [some (.ref 64), none, some (.int x2), some (.int x3), none, none], [.int r2], mSS M)
    refine mRunF.sg (mSl mk_288 35 3) (g := (61, [some (.ref 64), none, some (.int x2), some (.int x3), some (.int r2), none], [.int x3, .ref 64], mSS M)) (by decide +kernel) rfl ?_
    obtain ⟨r4, q3, h⟩ := bR_of h
    refine R_callV (mi := 287) (na := 2) (ci := 12) (i := 64) (as := [.int x3]) (r := []) (rv := some (.int r4)) (σ1 := mSS M) ⟨478, by decide +kernel⟩ rfl rfl rfl rfl (Mo_coupleOf_r N x3 M (d + 7) q3) ?_
    show mRunF _ _ (64, [some (.ref 64), none, some (.int x2), some (.int x3), some (.int r2), none], [.int r4], mSS M)
    refine mRunF.sg (mSl mk_288 39 3) (g := (69, [some (.ref 64), none, some (.int x2), some (.int x3), some (.int r2), some (.int r4)], [.int x2, .int r2], mSS M)) (by decide +kernel) rfl ?_
    refine R_ine (t := 75) ⟨6, by decide +kernel⟩ (fun q => ?_) (fun q => ?_)
    · rw [if_pos q] at h
      refine mRunF.sg (mSl mk_288 43 1) (g := (74, [some (.ref 64), none, some (.int x2), some (.int x3), some (.int r2), some (.int r4)], [.int r4], mSS M)) (by decide +kernel) rfl ?_
      cases h
      exact R_iret (by decide +kernel)
    · rw [if_neg q] at h
      refine mRunF.sg (mSl mk_288 45 2) (g := (78, [some (.ref 64), none, some (.int x2), some (.int x3), some (.int r2), some (.int r4)], [.int x2, .int r4], mSS M)) (by decide +kernel) rfl ?_
      refine R_ine (t := 84) ⟨6, by decide +kernel⟩ (fun q => ?_) (fun q => ?_)
      · rw [if_pos q] at h
        refine mRunF.sg (mSl mk_288 48 1) (g := (83, [some (.ref 64), none, some (.int x2), some (.int x3), some (.int r2), some (.int r4)], [.int r2], mSS M)) (by decide +kernel) rfl ?_
        cases h
        exact R_iret (by decide +kernel)
      · rw [if_neg q] at h
        refine mRunF.sg (mSl mk_288 50 8) (g := (93, [some (.ref 64), none, some (.int x2), some (.int (x3 &&& (((1 : Int32) <<< (r2 &&& 31)) ^^^ (-1)))), some (.int r2), some (.int r4)], [], mSS M)) (by decide +kernel) rfl ?_
        obtain ⟨v5, hv, h⟩ := nxt_ex h
        rw [← hv]
        clear hv
        refine mRunF.sg (mSl mk_288 58 1) (g := (95, [some (.ref 64), none, some (.int x2), some (.int v5), some (.int r2), some (.int r4)], [.int r4], mSS M)) (by decide +kernel) rfl ?_
        refine R_lt (t := 107) ⟨12, by decide +kernel⟩ (fun q => ?_) (fun q => ?_)
        · rw [if_pos q] at h
          refine mRunF.forget [true, true, true, true, false, false] ?_
          exact Mo_couples_107_r (fun y0 y1 y2 hh => @ih y0 y1 y2 hh) h
        · rw [if_neg q] at h
          refine mRunF.sg (mSl mk_288 60 8) (g := (107, [some (.ref 64), none, some (.int x2), some (.int (v5 &&& (((1 : Int32) <<< (r4 &&& 31)) ^^^ (-1)))), some (.int r2), some (.int r4)], [], mSS M)) (by decide +kernel) rfl ?_
          obtain ⟨v6, hv, h⟩ := nxt_ex h
          rw [← hv]
          clear hv
          refine mRunF.forget [true, true, true, true, false, false] ?_
          exact Mo_couples_107_r (fun y0 y1 y2 hh => @ih y0 y1 y2 hh) h
set_option maxRecDepth 100000 in
set_option maxHeartbeats 4000000 in
theorem Mo_couples_22_r {N d : Nat}  {M : mS} {x1 : Int32} {x2 : Int32} {r : Int32} {M' : mS} (h : Mo_couples_22 N x1 x2 M = some (r, M')) : mRunF (mCd 288) (mEE (mMet mP mTx (d + 11)) (some .int) (some (.int r)) M') (22, [some (.ref 64), some (.int x1), some (.int x2), none, none, none], [], mSS M) := by
  unfold Mo_couples_22 at h
  refine mRunF.sg (mSl mk_288 12 2) (g := (24, [some (.ref 64), some (.int x1), some (.int x2), none, none, none], [.int x1, .ref 64], mSS M)) (by decide +kernel) rfl ?_
  obtain ⟨M8, q7, h⟩ := bV_of h
  refine R_callV (mi := 286) (na := 2) (ci := 12) (i := 64) (as := [.int x1]) (r := []) (rv := none) (σ1 := mSS M8) ⟨475, by decide +kernel⟩ rfl rfl rfl rfl (Mo_fillsCouples_r N x1 M (d + 0) q7) ?_
  show mRunF _ _ (27, [some (.ref 64), some (.int x1), some (.int x2), none, none, none], [], mSS M8)
  refine mRunF.sg (mSl mk_288 15 5) (g := (36, [some (.ref 64), some (.int x1), some (.int x2), none, none, none], [.int (M8.1 64 18), .ref 78, .int 1], mSS M8)) (by decide +kernel) rfl ?_
  obtain ⟨g9, h⟩ := grd_of h
  refine R_iald (by decide +kernel) rfl g9 ?_
  refine mRunF.sg (mSl mk_288 21 4) (g := (41, [some (.ref 64), some (.int x1), some (.int x2), some (.int (((1 : Int32) <<< ((M8.1 78 (M8.1 64 18).toNatClampNeg) &&& 31)) - 1)), none, none], [], mSS M8)) (by decide +kernel) rfl ?_
  obtain ⟨v10, hv, h⟩ := nxt_ex h
  rw [← hv]
  clear hv
  refine mRunF.sg (mSl mk_288 25 2) (g := (43, [some (.ref 64), some (.int x1), some (.int x2), some (.int v10), none, none], [.int (-1), .int x2], mSS M8)) (by decide +kernel) rfl ?_
  refine R_ine (t := 53) ⟨10, by decide +kernel⟩ (fun q => ?_) (fun q => ?_)
  · rw [if_pos q] at h
    refine mRunF.sg (mSl mk_288 28 3) (g := (51, [some (.ref 64), some (.int x1), some (.int x2), some (.int v10), none, none], [.int v10, .ref 101], mSS M8)) (by decide +kernel) rfl ?_
    obtain ⟨g11, h⟩ := grd_of h
    refine R_iald (by decide +kernel) rfl g11 ?_
    cases h
    exact R_iret (by decide +kernel)
  · rw [if_neg q] at h
    refine mRunF.forget [true, false, true, true, true, true] ?_
    exact Mo_couples_53_r h
set_option maxRecDepth 100000 in
set_option maxHeartbeats 4000000 in
theorem Mo_couples_r (N : Nat) (a0 : Int32) (a1 : Int32) (M : mS) {r : Int32} {M' : mS} (d : Nat) (h : Mo_couples N a0 a1 M = some (r, M')) : mMet mP mTx (d + 12) 288 [.ref 64, .int a0, .int a1] (mSS M) (some (.int r)) (mSS M') := by
  refine mMet_i ⟨Nat.le_refl _, Nat.le_refl _, Nat.le_of_ble_eq_true rfl⟩ ?_
  unfold Mo_couples at h
  show mRunF (mCd 288) (mEE (mMet mP mTx (d + 11)) (some .int) (some (.int r)) M') (0, [some (.ref 64), some (.int a0), some (.int a1), none, none, none], [], mSS M)
  refine mRunF.sg (mSl mk_288 0 1) (g := (1, [some (.ref 64), some (.int a0), some (.int a1), none, none, none], [.int a0], mSS M)) (by decide +kernel) rfl ?_
  refine R_callS (mi := 251) (na := 1) (as := [.int a0]) (r := []) (rv := some (.int (Mo_isSpan a0 M))) (σ1 := mSS M) ⟨453, by decide +kernel⟩ rfl rfl rfl (Mo_isSpan_r a0 M (d + 9)) ?_
  have b12 := mBool rfl (Mo_isSpan_r a0 M (d + 9))
  show mRunF _ _ (4, [some (.ref 64), some (.int a0), some (.int a1), none, none, none], [.int (Mo_isSpan a0 M)], mSS M)
  refine R_eq (t := 20) ⟨16, by decide +kernel⟩ (fun q => ?_) (fun q => ?_)
  · rw [if_pos q] at h
    refine mRunF.sg (mSl mk_288 10 1) (g := (21, [some (.ref 64), some (.int a0), some (.int a1), none, none, none], [.int (-1)], mSS M)) (by decide +kernel) rfl ?_
    cases h
    exact R_iret (by decide +kernel)
  · rw [if_neg q] at h
    refine mRunF.sg (mSl mk_288 3 2) (g := (9, [some (.ref 64), some (.int a0), some (.int a1), none, none, none], [.int (-1), .int a1], mSS M)) (by decide +kernel) rfl ?_
    refine R_ieq (t := 22) ⟨13, by decide +kernel⟩ (fun q => ?_) (fun q => ?_)
    · rw [if_pos q] at h
      exact Mo_couples_22_r h
    · rw [if_neg q] at h
      refine mRunF.sg (mSl mk_288 6 2) (g := (14, [some (.ref 64), some (.int a0), some (.int a1), none, none, none], [.int a1, .ref 64], mSS M)) (by decide +kernel) rfl ?_
      obtain ⟨r14, q13, h⟩ := bR_of h
      refine R_callV (mi := 213) (na := 2) (ci := 12) (i := 64) (as := [.int a1]) (r := []) (rv := some (.int r14)) (σ1 := mSS M) ⟨320, by decide +kernel⟩ rfl rfl rfl rfl (Mo_isGoer_r N a1 M (d + 9) q13) ?_
      have b15 := mBool rfl (Mo_isGoer_r N a1 M (d + 9) q13)
      show mRunF _ _ (17, [some (.ref 64), some (.int a0), some (.int a1), none, none, none], [.int r14], mSS M)
      refine R_ne (t := 22) ⟨5, by decide +kernel⟩ (fun q => ?_) (fun q => ?_)
      · rw [if_pos q] at h
        refine mRunF.sg (mSl mk_288 10 1) (g := (21, [some (.ref 64), some (.int a0), some (.int a1), none, none, none], [.int (-1)], mSS M)) (by decide +kernel) rfl ?_
        cases h
        exact R_iret (by decide +kernel)
      · rw [if_neg q] at h
        exact Mo_couples_22_r h
set_option maxRecDepth 100000 in
set_option maxHeartbeats 4000000 in
theorem Mo_fullest_64_r {N d : Nat} {k26 : Int32 → Int32 → Int32 → Int32 → mS → Option (Int32 × mS)} {M : mS} {x1 : Int32} {x2 : Int32} {x3 : Int32} {x4 : Int32} {r : Int32} {M' : mS} (hk26 : ∀ (x1 : Int32) (x2 : Int32) (x3 : Int32) (x4 : Int32) (M : mS), k26 x1 x2 x3 x4 M = some (r, M') → mRunF (mCd 284) (mEE (mMet mP mTx (d + 7)) (some .int) (some (.int r)) M') (26, [some (.ref 64), some (.int x1), some (.int x2), some (.int x3), some (.int x4)], [], mSS M)) (h : Mo_fullest_64 N k26 x1 x2 x3 x4 M = some (r, M')) : mRunF (mCd 284) (mEE (mMet mP mTx (d + 7)) (some .int) (some (.int r)) M') (64, [some (.ref 64), some (.int x1), some (.int x2), some (.int x3), some (.int x4)], [], mSS M) := by
  unfold Mo_fullest_64 at h
  refine mRunF.sg (mSl mk_284 35 2) (g := (26, [some (.ref 64), some (.int x1), some (.int x2), some (.int x3), some (.int (x4 + 1))], [], mSS M)) (by decide +kernel) rfl ?_
  exact hk26 _ _ _ _ _ h
set_option maxRecDepth 100000 in
set_option maxHeartbeats 4000000 in
theorem Mo_fullest_26_r {N d : Nat}   {r : Int32} {M' : mS} : ∀ {n : Nat} {x1 : Int32} {x2 : Int32} {x3 : Int32} {x4 : Int32} {M : mS}, Mo_fullest_26 N n x1 x2 x3 x4 M = some (r, M') → mRunF (mCd 284) (mEE (mMet mP mTx (d + 7)) (some .int) (some (.int r)) M') (26, [some (.ref 64), some (.int x1), some (.int x2), some (.int x3), some (.int x4)], [], mSS M) := by
  intro n
  induction n with
  | zero => intro x1 x2 x3 x4 M h; cases h
  | succ n ih =>
    replace ih := @ih
    intro x1 x2 x3 x4 M h
    unfold Mo_fullest_26 at h
    refine mRunF.sg (mSl mk_284 17 2) (g := (29, [some (.ref 64), some (.int x1), some (.int x2), some (.int x3), some (.int x4)], [.ref 64, .int x4], mSS M)) (by decide +kernel) rfl ?_
    obtain ⟨r2, q1, h⟩ := bR_of h
    refine R_callV (mi := 210) (na := 1) (ci := 12) (i := 64) (as := []) (r := [.int x4]) (rv := some (.int r2)) (σ1 := mSS M) ⟨313, by decide +kernel⟩ rfl rfl rfl rfl (Mo_hours_r N M (d + 6) q1) ?_
    show mRunF _ _ (32, [some (.ref 64), some (.int x1), some (.int x2), some (.int x3), some (.int x4)], [.int r2, .int x4], mSS M)
    refine R_ige (t := 70) ⟨38, by decide +kernel⟩ (fun q => ?_) (fun q => ?_)
    · rw [if_pos q] at h
      refine mRunF.sg (mSl mk_284 37 1) (g := (71, [some (.ref 64), some (.int x1), some (.int x2), some (.int x3), some (.int x4)], [.int x1], mSS M)) (by decide +kernel) rfl ?_
      refine R_ne (t := 78) ⟨7, by decide +kernel⟩ (fun q => ?_) (fun q => ?_)
      · rw [if_pos q] at h
        refine mRunF.sg (mSl mk_284 39 2) (g := (79, [some (.ref 64), some (.int x1), some (.int x2), some (.int x3), some (.int x4)], [.int x2], mSS M)) (by decide +kernel) rfl ?_
        cases h
        exact R_iret (by decide +kernel)
      · rw [if_neg q] at h
        refine mRunF.sg (mSl mk_284 41 1) (g := (79, [some (.ref 64), some (.int x1), some (.int x2), some (.int x3), some (.int x4)], [.int x3], mSS M)) (by decide +kernel) rfl ?_
        cases h
        exact R_iret (by decide +kernel)
    · rw [if_neg q] at h
      refine mRunF.sg (mSl mk_284 21 2) (g := (38, [some (.ref 64), some (.int x1), some (.int x2), some (.int x3), some (.int x4)], [.int x4, .ref 64], mSS M)) (by decide +kernel) rfl ?_
      obtain ⟨r4, q3, h⟩ := bR_of h
      refine R_callV (mi := 243) (na := 2) (ci := 12) (i := 64) (as := [.int x4]) (r := []) (rv := some (.int r4)) (σ1 := mSS M) ⟨410, by decide +kernel⟩ rfl rfl rfl rfl (Mo_thereAt_r N x4 M (d + 6) q3) ?_
      show mRunF _ _ (41, [some (.ref 64), some (.int x1), some (.int x2), some (.int x3), some (.int x4)], [.int r4], mSS M)
      obtain ⟨r6, q5, h⟩ := bR_of h
      refine R_callS (mi := 208) (na := 1) (as := [.int r4]) (r := []) (rv := some (.int r6)) (σ1 := mSS M) ⟨385, by decide +kernel⟩ rfl rfl rfl (Mo_bits_r N r4 M (d + 6) q5) ?_
      show mRunF _ _ (44, [some (.ref 64), some (.int x1), some (.int x2), some (.int x3), some (.int x4)], [.int r6], mSS M)
      refine mRunF.sg (mSl mk_284 25 1) (g := (45, [some (.ref 64), some (.int x1), some (.int x2), some (.int x3), some (.int x4)], [.int x3, .int r6], mSS M)) (by decide +kernel) rfl ?_
      refine R_igt (t := 51) ⟨6, by decide +kernel⟩ (fun q => ?_) (fun q => ?_)
      · rw [if_pos q] at h
        refine mRunF.sg (mSl mk_284 28 4) (g := (57, [some (.ref 64), some (.int x1), some (.int x4), some (.int x3), some (.int x4)], [.int x4, .ref 64], mSS M)) (by decide +kernel) rfl ?_
        obtain ⟨r8, q7, h⟩ := bR_of h
        refine R_callV (mi := 243) (na := 2) (ci := 12) (i := 64) (as := [.int x4]) (r := []) (rv := some (.int r8)) (σ1 := mSS M) ⟨410, by decide +kernel⟩ rfl rfl rfl rfl (Mo_thereAt_r N x4 M (d + 6) q7) ?_
        show mRunF _ _ (60, [some (.ref 64), some (.int x1), some (.int x4), some (.int x3), some (.int x4)], [.int r8], mSS M)
        obtain ⟨r10, q9, h⟩ := bR_of h
        refine R_callS (mi := 208) (na := 1) (as := [.int r8]) (r := []) (rv := some (.int r10)) (σ1 := mSS M) ⟨385, by decide +kernel⟩ rfl rfl rfl (Mo_bits_r N r8 M (d + 6) q9) ?_
        show mRunF _ _ (63, [some (.ref 64), some (.int x1), some (.int x4), some (.int x3), some (.int x4)], [.int r10], mSS M)
        refine mRunF.sg (mSl mk_284 34 1) (g := (64, [some (.ref 64), some (.int x1), some (.int x4), some (.int r10), some (.int x4)], [], mSS M)) (by decide +kernel) rfl ?_
        exact Mo_fullest_64_r (fun y0 y1 y2 y3 y4 hh => @ih y0 y1 y2 y3 y4 hh) h
      · rw [if_neg q] at h
        refine mRunF.sg (mSl mk_284 27 1) (g := (64, [some (.ref 64), some (.int x1), some (.int x2), some (.int x3), some (.int x4)], [], mSS M)) (by decide +kernel) rfl ?_
        exact Mo_fullest_64_r (fun y0 y1 y2 y3 y4 hh => @ih y0 y1 y2 y3 y4 hh) h
set_option maxRecDepth 100000 in
set_option maxHeartbeats 4000000 in
theorem Mo_fullest_r (N : Nat) (a0 : Int32) (M : mS) {r : Int32} {M' : mS} (d : Nat) (h : Mo_fullest N a0 M = some (r, M')) : mMet mP mTx (d + 8) 284 [.ref 64, .int a0] (mSS M) (some (.int r)) (mSS M') := by
  refine mMet_i ⟨Nat.le_refl _, Nat.le_refl _, Nat.le_of_ble_eq_true rfl⟩ ?_
  unfold Mo_fullest at h
  show mRunF (mCd 284) (mEE (mMet mP mTx (d + 7)) (some .int) (some (.int r)) M') (0, [some (.ref 64), some (.int a0), none, none, none], [], mSS M)
  refine mRunF.sg (mSl mk_284 0 3) (g := (3, [some (.ref 64), some (.int a0), none, none, none], [.int 1, .int 0, .int a0], mSS M)) (by decide +kernel) rfl ?_
  refine R_callS (mi := 206) (na := 3) (as := [.int a0, .int 0, .int 1]) (r := []) (rv := some (.int (Mo_in a0 0 1 M))) (σ1 := mSS M) ⟨316, by decide +kernel⟩ rfl rfl rfl (Mo_in_r a0 0 1 M (d + 6)) ?_
  have b11 := mBool rfl (Mo_in_r a0 0 1 M (d + 6))
  show mRunF _ _ (6, [some (.ref 64), some (.int a0), none, none, none], [.int (Mo_in a0 0 1 M)], mSS M)
  refine R_ne (t := 11) ⟨5, by decide +kernel⟩ (fun q => ?_) (fun q => ?_)
  · rw [if_pos q] at h
    refine mRunF.sg (mSl mk_284 5 1) (g := (10, [some (.ref 64), some (.int a0), none, none, none], [.int (-1)], mSS M)) (by decide +kernel) rfl ?_
    cases h
    exact R_iret (by decide +kernel)
  · rw [if_neg q] at h
    refine mRunF.sg (mSl mk_284 7 1) (g := (12, [some (.ref 64), some (.int a0), none, none, none], [.ref 64], mSS M)) (by decide +kernel) rfl ?_
    obtain ⟨M13, q12, h⟩ := bV_of h
    refine R_callV (mi := 219) (na := 1) (ci := 12) (i := 64) (as := []) (r := []) (rv := none) (σ1 := mSS M13) ⟨407, by decide +kernel⟩ rfl rfl rfl rfl (Mo_copiesStill_r N M (d + 5) q12) ?_
    show mRunF _ _ (15, [some (.ref 64), some (.int a0), none, none, none], [], mSS M13)
    refine mRunF.sg (mSl mk_284 9 1) (g := (16, [some (.ref 64), some (.int a0), none, none, none], [.ref 64], mSS M13)) (by decide +kernel) rfl ?_
    obtain ⟨M15, q14, h⟩ := bV_of h
    refine R_callV (mi := 233) (na := 1) (ci := 12) (i := 64) (as := []) (r := []) (rv := none) (σ1 := mSS M15) ⟨379, by decide +kernel⟩ rfl rfl rfl rfl (Mo_fillsThere_r N M13 (d + 0) q14) ?_
    show mRunF _ _ (19, [some (.ref 64), some (.int a0), none, none, none], [], mSS M15)
    refine mRunF.sg (mSl mk_284 11 6) (g := (26, [some (.ref 64), some (.int a0), some (.int 0), some (.int (-1)), some (.int 0)], [], mSS M15)) (by decide +kernel) rfl ?_
    exact Mo_fullest_26_r h
set_option maxRecDepth 100000 in
set_option maxHeartbeats 4000000 in
theorem Mo_loads_2_r {N d : Nat}   {M' : mS} : ∀ {n : Nat} {x1 : Int32} {x2 : Int32} {M : mS}, Mo_loads_2 N n x1 x2 M = some M' → mRunF (mCd 289) (mEE (mMet mP mTx (d + 0)) (none) none M') (2, [some (.ref 64), some (.int x1), some (.int x2)], [], mSS M) := by
  intro n
  induction n with
  | zero => intro x1 x2 M h; cases h
  | succ n ih =>
    replace ih := @ih
    intro x1 x2 M h
    unfold Mo_loads_2 at h
    refine mRunF.sg (mSl mk_289 2 2) (g := (5, [some (.ref 64), some (.int x1), some (.int x2)], [.int 29, .int x2], mSS M)) (by decide +kernel) rfl ?_
    refine R_ige (t := 31) ⟨26, by decide +kernel⟩ (fun q => ?_) (fun q => ?_)
    · rw [if_pos q] at h
      cases h
      exact R_vret (by decide +kernel)
    · rw [if_neg q] at h
      refine mRunF.sg (mSl mk_289 5 10) (g := (23, [some (.ref 64), some (.int x1), some (.int x2)], [.int ((29 * x1) + x2), .ref 103, .int x2, .ref 96], mSS M)) (by decide +kernel) rfl ?_
      obtain ⟨g1, h⟩ := grd_of h
      refine R_iald (by decide +kernel) rfl g1 ?_
      obtain ⟨g2, h⟩ := grd_of h
      refine R_iast (by decide +kernel) rfl g2 ?_
      obtain ⟨M3, hv, h⟩ := nxt_ex h
      rw [← hv]
      clear hv
      refine mRunF.sg (mSl mk_289 17 2) (g := (2, [some (.ref 64), some (.int x1), some (.int (x2 + 1))], [], mSS M3)) (by decide +kernel) rfl ?_
      exact @ih _ _ _ h
set_option maxRecDepth 100000 in
set_option maxHeartbeats 4000000 in
theorem Mo_loads_r (N : Nat) (a0 : Int32) (M : mS) {M' : mS} (d : Nat) (h : Mo_loads N a0 M = some M') : mMet mP mTx (d + 1) 289 [.ref 64, .int a0] (mSS M) none (mSS M') := by
  refine mMet_i ⟨Nat.le_refl _, Nat.le_refl _, Nat.le_of_ble_eq_true rfl⟩ ?_
  unfold Mo_loads at h
  show mRunF (mCd 289) (mEE (mMet mP mTx (d + 0)) (none) none M') (0, [some (.ref 64), some (.int a0), none], [], mSS M)
  refine mRunF.sg (mSl mk_289 0 2) (g := (2, [some (.ref 64), some (.int a0), some (.int 0)], [], mSS M)) (by decide +kernel) rfl ?_
  exact Mo_loads_2_r h
set_option maxRecDepth 100000 in
set_option maxHeartbeats 4000000 in
theorem Mo_plays_r (N : Nat) (a0 : Int32) (a1 : Int32) (a2 : Int32) (M : mS) {r : Int32} {M' : mS} (d : Nat) (h : Mo_plays N a0 a1 a2 M = some (r, M')) : mMet mP mTx (d + 9) 291 [.ref 64, .int a0, .int a1, .int a2] (mSS M) (some (.int r)) (mSS M') := by
  refine mMet_i ⟨Nat.le_refl _, Nat.le_refl _, Nat.le_of_ble_eq_true rfl⟩ ?_
  unfold Mo_plays at h
  show mRunF (mCd 291) (mEE (mMet mP mTx (d + 8)) (some .int) (some (.int r)) M') (0, [some (.ref 64), some (.int a0), some (.int a1), some (.int a2), none], [], mSS M)
  refine mRunF.sg (mSl mk_291 0 2) (g := (2, [some (.ref 64), some (.int a0), some (.int a1), some (.int a2), none], [.int a0, .ref 64], mSS M)) (by decide +kernel) rfl ?_
  obtain ⟨M2, q1, h⟩ := bV_of h
  refine R_callV (mi := 289) (na := 2) (ci := 12) (i := 64) (as := [.int a0]) (r := []) (rv := none) (σ1 := mSS M2) ⟨481, by decide +kernel⟩ rfl rfl rfl rfl (Mo_loads_r N a0 M (d + 7) q1) ?_
  show mRunF _ _ (5, [some (.ref 64), some (.int a0), some (.int a1), some (.int a2), none], [], mSS M2)
  refine mRunF.sg (mSl mk_291 3 6) (g := (15, [some (.ref 64), some (.int a0), some (.int a1), some (.int a2), none], [.int a1, .ref 96, .int a1, .ref 96], mSS M2)) (by decide +kernel) rfl ?_
  obtain ⟨g3, h⟩ := grd_of h
  refine R_iald (by decide +kernel) rfl g3 ?_
  refine mRunF.sg (mSl mk_291 10 3) (g := (19, [some (.ref 64), some (.int a0), some (.int a1), some (.int a2), none], [.ref 64, .int ((M2.1 96 a1.toNatClampNeg) + a2), .int a1, .ref 96], mSS M2)) (by decide +kernel) rfl ?_
  obtain ⟨r5, q4, h⟩ := bR_of h
  refine R_callV (mi := 210) (na := 1) (ci := 12) (i := 64) (as := []) (r := [.int ((M2.1 96 a1.toNatClampNeg) + a2), .int a1, .ref 96]) (rv := some (.int r5)) (σ1 := mSS M2) ⟨313, by decide +kernel⟩ rfl rfl rfl rfl (Mo_hours_r N M2 (d + 7) q4) ?_
  show mRunF _ _ (22, [some (.ref 64), some (.int a0), some (.int a1), some (.int a2), none], [.int r5, .int ((M2.1 96 a1.toNatClampNeg) + a2), .int a1, .ref 96], mSS M2)
  obtain ⟨g6, h⟩ := nz_of h
  refine R_rem (by decide +kernel) g6 ?_
  obtain ⟨g7, h⟩ := grd_of h
  refine R_iast (by decide +kernel) rfl g7 ?_
  obtain ⟨M8, hv, h⟩ := nxt_ex h
  rw [← hv]
  clear hv
  refine mRunF.sg (mSl mk_291 16 3) (g := (30, [some (.ref 64), some (.int a0), some (.int a1), some (.int a2), none], [.int 18, .ref 96], mSS M8)) (by decide +kernel) rfl ?_
  refine R_iald (by decide +kernel) rfl rfl ?_
  show mRunF _ _ (31, [some (.ref 64), some (.int a0), some (.int a1), some (.int a2), none], [.int (M8.1 96 18)], mSS M8)
  refine mRunF.sg (mSl mk_291 20 1) (g := (33, [some (.ref 64), some (.int a0), some (.int a1), some (.int a2), some (.int (M8.1 96 18))], [], mSS M8)) (by decide +kernel) rfl ?_
  obtain ⟨v9, hv, h⟩ := nxt_ex h
  rw [← hv]
  clear hv
  refine mRunF.sg (mSl mk_291 21 1) (g := (34, [some (.ref 64), some (.int a0), some (.int a1), some (.int a2), some (.int v9)], [.ref 64], mSS M8)) (by decide +kernel) rfl ?_
  obtain ⟨M11, q10, h⟩ := bV_of h
  refine R_callV (mi := 235) (na := 1) (ci := 12) (i := 64) (as := []) (r := []) (rv := none) (σ1 := mSS M11) ⟨391, by decide +kernel⟩ rfl rfl rfl rfl (Mo_nightGoes_r N M8 (d + 0) q10) ?_
  show mRunF _ _ (37, [some (.ref 64), some (.int a0), some (.int a1), some (.int a2), some (.int v9)], [], mSS M11)
  refine mRunF.sg (mSl mk_291 23 3) (g := (43, [some (.ref 64), some (.int a0), some (.int a1), some (.int a2), some (.int v9)], [.int 18, .ref 96], mSS M11)) (by decide +kernel) rfl ?_
  refine R_iald (by decide +kernel) rfl rfl ?_
  show mRunF _ _ (44, [some (.ref 64), some (.int a0), some (.int a1), some (.int a2), some (.int v9)], [.int (M11.1 96 18)], mSS M11)
  refine mRunF.sg (mSl mk_291 27 2) (g := (47, [some (.ref 64), some (.int a0), some (.int a1), some (.int a2), some (.int v9)], [.int ((M11.1 96 18) - v9)], mSS M11)) (by decide +kernel) rfl ?_
  cases h
  exact R_iret (by decide +kernel)
set_option maxRecDepth 100000 in
set_option maxHeartbeats 4000000 in
theorem Mo_childOf_r (N : Nat) (a0 : Int32) (a1 : Int32) (a2 : Int32) (M : mS) {r : Int32} (d : Nat) (h : Mo_childOf N a0 a1 a2 M = some r) : mMet mP mTx (d + 1) 290 [.ref 64, .int a0, .int a1, .int a2] (mSS M) (some (.int r)) (mSS M) := by
  refine mMet_i ⟨Nat.le_refl _, Nat.le_refl _, Nat.le_of_ble_eq_true rfl⟩ ?_
  unfold Mo_childOf at h
  show mRunF (mCd 290) (mEE (mMet mP mTx (d + 0)) (some .int) (some (.int r)) M) (0, [some (.ref 64), some (.int a0), some (.int a1), some (.int a2)], [], mSS M)
  refine mRunF.sg (mSl mk_290 0 5) (g := (7, [some (.ref 64), some (.int a0), some (.int a1), some (.int a2)], [.int (a1 + 1), .ref 102], mSS M)) (by decide +kernel) rfl ?_
  obtain ⟨g1, h⟩ := grd_of h
  refine R_iald (by decide +kernel) rfl g1 ?_
  refine mRunF.sg (mSl mk_290 6 5) (g := (15, [some (.ref 64), some (.int a0), some (.int a1), some (.int a2)], [.int a1, .ref 102, .int a0, .int 3, .int (M.1 102 (a1 + 1).toNatClampNeg)], mSS M)) (by decide +kernel) rfl ?_
  obtain ⟨g2, h⟩ := grd_of h
  refine R_iald (by decide +kernel) rfl g2 ?_
  refine mRunF.sg (mSl mk_290 12 5) (g := (21, [some (.ref 64), some (.int a0), some (.int a1), some (.int a2)], [.int (((M.1 102 (a1 + 1).toNatClampNeg) + (3 * (a0 - (M.1 102 a1.toNatClampNeg)))) + a2)], mSS M)) (by decide +kernel) rfl ?_
  cases h
  exact R_iret (by decide +kernel)
