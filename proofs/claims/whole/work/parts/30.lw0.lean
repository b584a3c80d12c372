/-! THE LAW'S CASES, 0: printed by program -/
set_option maxRecDepth 100000 in
set_option maxHeartbeats 4000000 in
theorem lwc_0 {L j : Nat} {xs : Nat → Int32} {M : mS} (h : INV M) (hin : ∀ k, k ≤ 5 → mIn (nI j + nI k) L = true) : ∃ B, INV B ∧ ∀ M', mRunF mCdL (lwE L xs M') (1672, lLs j, [], mSS B) → mRunF mCdL (lwE L xs M') (224, lLs j, [], mSS M) := by
  obtain ⟨r, A, B, h1, h2, h3⟩ := call_feed (N := 5000) (by omega) h (xs (nI j + 1).toNatClampNeg) (xs (nI j + 2).toNatClampNeg) (xs (nI j + 3).toNatClampNeg) (xs (nI j + 4).toNatClampNeg) (xs (nI j + 5).toNatClampNeg)
  refine ⟨B, h3, fun M' go => ?_⟩
  refine mRunF.sg (mSl mkL 22 5) (g := (229, lLs j, [.int (nI j + 1), .retAddr 0, .ref 0], mSS M)) (by decide +kernel) rfl ?_
  refine R_scr (by decide +kernel) (hin 1 (by omega)) ?_
  refine mRunF.sg (mSl mkL 28 4) (g := (234, lLs j, [.int (nI j + 2), .retAddr 0, .int (xs (nI j + 1).toNatClampNeg), .ref 0], mSS M)) (by decide +kernel) rfl ?_
  refine R_scr (by decide +kernel) (hin 2 (by omega)) ?_
  refine mRunF.sg (mSl mkL 33 4) (g := (239, lLs j, [.int (nI j + 3), .retAddr 0, .int (xs (nI j + 2).toNatClampNeg), .int (xs (nI j + 1).toNatClampNeg), .ref 0], mSS M)) (by decide +kernel) rfl ?_
  refine R_scr (by decide +kernel) (hin 3 (by omega)) ?_
  refine mRunF.sg (mSl mkL 38 4) (g := (244, lLs j, [.int (nI j + 4), .retAddr 0, .int (xs (nI j + 3).toNatClampNeg), .int (xs (nI j + 2).toNatClampNeg), .int (xs (nI j + 1).toNatClampNeg), .ref 0], mSS M)) (by decide +kernel) rfl ?_
  refine R_scr (by decide +kernel) (hin 4 (by omega)) ?_
  refine mRunF.sg (mSl mkL 43 4) (g := (249, lLs j, [.int (nI j + 5), .retAddr 0, .int (xs (nI j + 4).toNatClampNeg), .int (xs (nI j + 3).toNatClampNeg), .int (xs (nI j + 2).toNatClampNeg), .int (xs (nI j + 1).toNatClampNeg), .ref 0], mSS M)) (by decide +kernel) rfl ?_
  refine R_scr (by decide +kernel) (hin 5 (by omega)) ?_
  refine R_callV (mi := 104) (na := 6) (ci := 11) (i := 0) (as := [.int (xs (nI j + 1).toNatClampNeg), .int (xs (nI j + 2).toNatClampNeg), .int (xs (nI j + 3).toNatClampNeg), .int (xs (nI j + 4).toNatClampNeg), .int (xs (nI j + 5).toNatClampNeg)]) (r := []) (rv := some (.int r)) (σ1 := mSS A) ⟨13, by decide +kernel⟩ rfl rfl rfl rfl (Md_feed_r 5000 (xs (nI j + 1).toNatClampNeg) (xs (nI j + 2).toNatClampNeg) (xs (nI j + 3).toNatClampNeg) (xs (nI j + 4).toNatClampNeg) (xs (nI j + 5).toNatClampNeg) M 11 h1) ?_
  show mRunF mCdL (lwE L xs M') (253, lLs j, [.int r], mSS A)
  refine mRunF.sg (mSl mkL 49 5) (g := (258, lLs j, [.int (nI j + 1), .retAddr 0, .ref 64, .int r], mSS A)) (by decide +kernel) rfl ?_
  refine R_scr (by decide +kernel) (hin 1 (by omega)) ?_
  refine mRunF.sg (mSl mkL 55 4) (g := (263, lLs j, [.int (nI j + 2), .retAddr 0, .int (xs (nI j + 1).toNatClampNeg), .ref 64, .int r], mSS A)) (by decide +kernel) rfl ?_
  refine R_scr (by decide +kernel) (hin 2 (by omega)) ?_
  refine mRunF.sg (mSl mkL 60 4) (g := (268, lLs j, [.int (nI j + 3), .retAddr 0, .int (xs (nI j + 2).toNatClampNeg), .int (xs (nI j + 1).toNatClampNeg), .ref 64, .int r], mSS A)) (by decide +kernel) rfl ?_
  refine R_scr (by decide +kernel) (hin 3 (by omega)) ?_
  refine mRunF.sg (mSl mkL 65 4) (g := (273, lLs j, [.int (nI j + 4), .retAddr 0, .int (xs (nI j + 3).toNatClampNeg), .int (xs (nI j + 2).toNatClampNeg), .int (xs (nI j + 1).toNatClampNeg), .ref 64, .int r], mSS A)) (by decide +kernel) rfl ?_
  refine R_scr (by decide +kernel) (hin 4 (by omega)) ?_
  refine mRunF.sg (mSl mkL 70 4) (g := (278, lLs j, [.int (nI j + 5), .retAddr 0, .int (xs (nI j + 4).toNatClampNeg), .int (xs (nI j + 3).toNatClampNeg), .int (xs (nI j + 2).toNatClampNeg), .int (xs (nI j + 1).toNatClampNeg), .ref 64, .int r], mSS A)) (by decide +kernel) rfl ?_
  refine R_scr (by decide +kernel) (hin 5 (by omega)) ?_
  refine R_callV (mi := 174) (na := 6) (ci := 12) (i := 64) (as := [.int (xs (nI j + 1).toNatClampNeg), .int (xs (nI j + 2).toNatClampNeg), .int (xs (nI j + 3).toNatClampNeg), .int (xs (nI j + 4).toNatClampNeg), .int (xs (nI j + 5).toNatClampNeg)]) (r := [.int r]) (rv := some (.int r)) (σ1 := mSS B) ⟨17, by decide +kernel⟩ rfl rfl rfl rfl (Mo_feed_r 5000 (xs (nI j + 1).toNatClampNeg) (xs (nI j + 2).toNatClampNeg) (xs (nI j + 3).toNatClampNeg) (xs (nI j + 4).toNatClampNeg) (xs (nI j + 5).toNatClampNeg) A 11 h2) ?_
  show mRunF mCdL (lwE L xs M') (282, lLs j, [.int r, .int r], mSS B)
  exact R_ieq (t := 1672) ⟨1390, by decide +kernel⟩ (fun _ => go) (fun q3 => absurd rfl q3)
set_option maxRecDepth 100000 in
set_option maxHeartbeats 4000000 in
theorem lwc_1 {L j : Nat} {xs : Nat → Int32} {M : mS} (h : INV M) (hin : ∀ k, k ≤ 5 → mIn (nI j + nI k) L = true) : ∃ B, INV B ∧ ∀ M', mRunF mCdL (lwE L xs M') (1672, lLs j, [], mSS B) → mRunF mCdL (lwE L xs M') (287, lLs j, [], mSS M) := by
  obtain ⟨r, A, B, h1, h2, h3⟩ := call_back (N := 5000) h (xs (nI j + 1).toNatClampNeg)
  refine ⟨B, h3, fun M' go => ?_⟩
  refine mRunF.sg (mSl mkL 79 5) (g := (292, lLs j, [.int (nI j + 1), .retAddr 0, .ref 0], mSS M)) (by decide +kernel) rfl ?_
  refine R_scr (by decide +kernel) (hin 1 (by omega)) ?_
  refine R_callV (mi := 105) (na := 2) (ci := 11) (i := 0) (as := [.int (xs (nI j + 1).toNatClampNeg)]) (r := []) (rv := some (.int r)) (σ1 := mSS A) ⟨18, by decide +kernel⟩ rfl rfl rfl rfl (Md_back_r 5000 (xs (nI j + 1).toNatClampNeg) M 12 h1) ?_
  show mRunF mCdL (lwE L xs M') (296, lLs j, [.int r], mSS A)
  refine mRunF.sg (mSl mkL 86 5) (g := (301, lLs j, [.int (nI j + 1), .retAddr 0, .ref 64, .int r], mSS A)) (by decide +kernel) rfl ?_
  refine R_scr (by decide +kernel) (hin 1 (by omega)) ?_
  refine R_callV (mi := 176) (na := 2) (ci := 12) (i := 64) (as := [.int (xs (nI j + 1).toNatClampNeg)]) (r := [.int r]) (rv := some (.int r)) (σ1 := mSS B) ⟨22, by decide +kernel⟩ rfl rfl rfl rfl (Mo_back_r 5000 (xs (nI j + 1).toNatClampNeg) A 12 h2) ?_
  show mRunF mCdL (lwE L xs M') (305, lLs j, [.int r, .int r], mSS B)
  exact R_ieq (t := 1672) ⟨1367, by decide +kernel⟩ (fun _ => go) (fun q3 => absurd rfl q3)
set_option maxRecDepth 100000 in
set_option maxHeartbeats 4000000 in
theorem lwc_2 {L j : Nat} {xs : Nat → Int32} {M : mS} (h : INV M) (hin : ∀ k, k ≤ 5 → mIn (nI j + nI k) L = true) : ∃ B, INV B ∧ ∀ M', mRunF mCdL (lwE L xs M') (1672, lLs j, [], mSS B) → mRunF mCdL (lwE L xs M') (310, lLs j, [], mSS M) := by
  obtain ⟨r, A, B, h1, h2, h3⟩ := call_read (N := 5000) (by omega) h
  refine ⟨B, h3, fun M' go => ?_⟩
  refine mRunF.sg (mSl mkL 96 1) (g := (311, lLs j, [.ref 0], mSS M)) (by decide +kernel) rfl ?_
  refine R_callV (mi := 106) (na := 1) (ci := 11) (i := 0) (as := []) (r := []) (rv := some (.int r)) (σ1 := mSS A) ⟨23, by decide +kernel⟩ rfl rfl rfl rfl (Md_read_r 5000  M 5 h1) ?_
  show mRunF mCdL (lwE L xs M') (314, lLs j, [.int r], mSS A)
  refine mRunF.sg (mSl mkL 98 1) (g := (315, lLs j, [.ref 64, .int r], mSS A)) (by decide +kernel) rfl ?_
  refine R_callV (mi := 191) (na := 1) (ci := 12) (i := 64) (as := []) (r := [.int r]) (rv := some (.int r)) (σ1 := mSS B) ⟨27, by decide +kernel⟩ rfl rfl rfl rfl (Mo_read_r 5000  A 5 h2) ?_
  show mRunF mCdL (lwE L xs M') (318, lLs j, [.int r, .int r], mSS B)
  exact R_ieq (t := 1672) ⟨1354, by decide +kernel⟩ (fun _ => go) (fun q3 => absurd rfl q3)
set_option maxRecDepth 100000 in
set_option maxHeartbeats 4000000 in
theorem lwc_3 {L j : Nat} {xs : Nat → Int32} {M : mS} (h : INV M) (hin : ∀ k, k ≤ 5 → mIn (nI j + nI k) L = true) : ∃ B, INV B ∧ ∀ M', mRunF mCdL (lwE L xs M') (1672, lLs j, [], mSS B) → mRunF mCdL (lwE L xs M') (323, lLs j, [], mSS M) := by
  have e1 := call_place h
  refine ⟨M, h, fun M' go => ?_⟩
  refine mRunF.sg (mSl mkL 103 1) (g := (324, lLs j, [.ref 0], mSS M)) (by decide +kernel) rfl ?_
  refine R_callV (mi := 107) (na := 1) (ci := 11) (i := 0) (as := []) (r := []) (rv := some (.int (Md_place M))) (σ1 := mSS M) ⟨28, by decide +kernel⟩ rfl rfl rfl rfl (Md_place_r M 12) ?_
  show mRunF mCdL (lwE L xs M') (327, lLs j, [.int (Md_place M)], mSS M)
  refine mRunF.sg (mSl mkL 105 1) (g := (328, lLs j, [.ref 64, .int (Md_place M)], mSS M)) (by decide +kernel) rfl ?_
  refine R_callV (mi := 192) (na := 1) (ci := 12) (i := 64) (as := []) (r := [.int (Md_place M)]) (rv := some (.int (Mo_place M))) (σ1 := mSS M) ⟨31, by decide +kernel⟩ rfl rfl rfl rfl (Mo_place_r M 12) ?_
  show mRunF mCdL (lwE L xs M') (331, lLs j, [.int (Mo_place M), .int (Md_place M)], mSS M)
  exact R_ieq (t := 1672) ⟨1341, by decide +kernel⟩ (fun _ => go) (fun q3 => absurd e1 q3)
set_option maxRecDepth 100000 in
set_option maxHeartbeats 4000000 in
theorem lwc_4 {L j : Nat} {xs : Nat → Int32} {M : mS} (h : INV M) (hin : ∀ k, k ≤ 5 → mIn (nI j + nI k) L = true) : ∃ B, INV B ∧ ∀ M', mRunF mCdL (lwE L xs M') (1672, lLs j, [], mSS B) → mRunF mCdL (lwE L xs M') (336, lLs j, [], mSS M) := by
  obtain ⟨r, A, B, h1, h2, h3⟩ := call_dial (N := 5000) (by omega) h (xs (nI j + 1).toNatClampNeg) (xs (nI j + 2).toNatClampNeg)
  refine ⟨B, h3, fun M' go => ?_⟩
  refine mRunF.sg (mSl mkL 110 5) (g := (341, lLs j, [.int (nI j + 1), .retAddr 0, .ref 0], mSS M)) (by decide +kernel) rfl ?_
  refine R_scr (by decide +kernel) (hin 1 (by omega)) ?_
  refine mRunF.sg (mSl mkL 116 4) (g := (346, lLs j, [.int (nI j + 2), .retAddr 0, .int (xs (nI j + 1).toNatClampNeg), .ref 0], mSS M)) (by decide +kernel) rfl ?_
  refine R_scr (by decide +kernel) (hin 2 (by omega)) ?_
  refine R_callV (mi := 108) (na := 3) (ci := 11) (i := 0) (as := [.int (xs (nI j + 1).toNatClampNeg), .int (xs (nI j + 2).toNatClampNeg)]) (r := []) (rv := some (.int r)) (σ1 := mSS A) ⟨32, by decide +kernel⟩ rfl rfl rfl rfl (Md_dial_r 5000 (xs (nI j + 1).toNatClampNeg) (xs (nI j + 2).toNatClampNeg) M 9 h1) ?_
  show mRunF mCdL (lwE L xs M') (350, lLs j, [.int r], mSS A)
  refine mRunF.sg (mSl mkL 122 5) (g := (355, lLs j, [.int (nI j + 1), .retAddr 0, .ref 64, .int r], mSS A)) (by decide +kernel) rfl ?_
  refine R_scr (by decide +kernel) (hin 1 (by omega)) ?_
  refine mRunF.sg (mSl mkL 128 4) (g := (360, lLs j, [.int (nI j + 2), .retAddr 0, .int (xs (nI j + 1).toNatClampNeg), .ref 64, .int r], mSS A)) (by decide +kernel) rfl ?_
  refine R_scr (by decide +kernel) (hin 2 (by omega)) ?_
  refine R_callV (mi := 239) (na := 3) (ci := 12) (i := 64) (as := [.int (xs (nI j + 1).toNatClampNeg), .int (xs (nI j + 2).toNatClampNeg)]) (r := [.int r]) (rv := some (.int r)) (σ1 := mSS B) ⟨36, by decide +kernel⟩ rfl rfl rfl rfl (Mo_dial_r 5000 (xs (nI j + 1).toNatClampNeg) (xs (nI j + 2).toNatClampNeg) A 8 h2) ?_
  show mRunF mCdL (lwE L xs M') (364, lLs j, [.int r, .int r], mSS B)
  exact R_ieq (t := 1672) ⟨1308, by decide +kernel⟩ (fun _ => go) (fun q3 => absurd rfl q3)
set_option maxRecDepth 100000 in
set_option maxHeartbeats 4000000 in
theorem lwc_5 {L j : Nat} {xs : Nat → Int32} {M : mS} (h : INV M) (hin : ∀ k, k ≤ 5 → mIn (nI j + nI k) L = true) : ∃ B, INV B ∧ ∀ M', mRunF mCdL (lwE L xs M') (1672, lLs j, [], mSS B) → mRunF mCdL (lwE L xs M') (369, lLs j, [], mSS M) := by
  obtain ⟨r, h1, h2⟩ := call_shows (N := 5000) h (xs (nI j + 1).toNatClampNeg) (xs (nI j + 2).toNatClampNeg)
  refine ⟨M, h, fun M' go => ?_⟩
  refine mRunF.sg (mSl mkL 137 5) (g := (374, lLs j, [.int (nI j + 1), .retAddr 0, .ref 0], mSS M)) (by decide +kernel) rfl ?_
  refine R_scr (by decide +kernel) (hin 1 (by omega)) ?_
  refine mRunF.sg (mSl mkL 143 4) (g := (379, lLs j, [.int (nI j + 2), .retAddr 0, .int (xs (nI j + 1).toNatClampNeg), .ref 0], mSS M)) (by decide +kernel) rfl ?_
  refine R_scr (by decide +kernel) (hin 2 (by omega)) ?_
  refine R_callV (mi := 109) (na := 3) (ci := 11) (i := 0) (as := [.int (xs (nI j + 1).toNatClampNeg), .int (xs (nI j + 2).toNatClampNeg)]) (r := []) (rv := some (.int r)) (σ1 := mSS M) ⟨37, by decide +kernel⟩ rfl rfl rfl rfl (Md_shows_r 5000 (xs (nI j + 1).toNatClampNeg) (xs (nI j + 2).toNatClampNeg) M 11 h1) ?_
  show mRunF mCdL (lwE L xs M') (383, lLs j, [.int r], mSS M)
  refine mRunF.sg (mSl mkL 149 5) (g := (388, lLs j, [.int (nI j + 1), .retAddr 0, .ref 64, .int r], mSS M)) (by decide +kernel) rfl ?_
  refine R_scr (by decide +kernel) (hin 1 (by omega)) ?_
  refine mRunF.sg (mSl mkL 155 4) (g := (393, lLs j, [.int (nI j + 2), .retAddr 0, .int (xs (nI j + 1).toNatClampNeg), .ref 64, .int r], mSS M)) (by decide +kernel) rfl ?_
  refine R_scr (by decide +kernel) (hin 2 (by omega)) ?_
  refine R_callV (mi := 240) (na := 3) (ci := 12) (i := 64) (as := [.int (xs (nI j + 1).toNatClampNeg), .int (xs (nI j + 2).toNatClampNeg)]) (r := [.int r]) (rv := some (.int r)) (σ1 := mSS M) ⟨40, by decide +kernel⟩ rfl rfl rfl rfl (Mo_shows_r 5000 (xs (nI j + 1).toNatClampNeg) (xs (nI j + 2).toNatClampNeg) M 10 h2) ?_
  show mRunF mCdL (lwE L xs M') (397, lLs j, [.int r, .int r], mSS M)
  exact R_ieq (t := 1672) ⟨1275, by decide +kernel⟩ (fun _ => go) (fun q3 => absurd rfl q3)
set_option maxRecDepth 100000 in
set_option maxHeartbeats 4000000 in
theorem lwc_6 {L j : Nat} {xs : Nat → Int32} {M : mS} (h : INV M) (hin : ∀ k, k ≤ 5 → mIn (nI j + nI k) L = true) : ∃ B, INV B ∧ ∀ M', mRunF mCdL (lwE L xs M') (1672, lLs j, [], mSS B) → mRunF mCdL (lwE L xs M') (402, lLs j, [], mSS M) := by
  obtain ⟨r, A, B, h1, h2, h3⟩ := call_goer (N := 5000) (by omega) h (xs (nI j + 1).toNatClampNeg) (xs (nI j + 2).toNatClampNeg)
  refine ⟨B, h3, fun M' go => ?_⟩
  refine mRunF.sg (mSl mkL 164 5) (g := (407, lLs j, [.int (nI j + 1), .retAddr 0, .ref 0], mSS M)) (by decide +kernel) rfl ?_
  refine R_scr (by decide +kernel) (hin 1 (by omega)) ?_
  refine mRunF.sg (mSl mkL 170 4) (g := (412, lLs j, [.int (nI j + 2), .retAddr 0, .int (xs (nI j + 1).toNatClampNeg), .ref 0], mSS M)) (by decide +kernel) rfl ?_
  refine R_scr (by decide +kernel) (hin 2 (by omega)) ?_
  refine R_callV (mi := 110) (na := 3) (ci := 11) (i := 0) (as := [.int (xs (nI j + 1).toNatClampNeg), .int (xs (nI j + 2).toNatClampNeg)]) (r := []) (rv := some (.int r)) (σ1 := mSS A) ⟨41, by decide +kernel⟩ rfl rfl rfl rfl (Md_goer_r 5000 (xs (nI j + 1).toNatClampNeg) (xs (nI j + 2).toNatClampNeg) M 9 h1) ?_
  show mRunF mCdL (lwE L xs M') (416, lLs j, [.int r], mSS A)
  refine mRunF.sg (mSl mkL 176 5) (g := (421, lLs j, [.int (nI j + 1), .retAddr 0, .ref 64, .int r], mSS A)) (by decide +kernel) rfl ?_
  refine R_scr (by decide +kernel) (hin 1 (by omega)) ?_
  refine mRunF.sg (mSl mkL 182 4) (g := (426, lLs j, [.int (nI j + 2), .retAddr 0, .int (xs (nI j + 1).toNatClampNeg), .ref 64, .int r], mSS A)) (by decide +kernel) rfl ?_
  refine R_scr (by decide +kernel) (hin 2 (by omega)) ?_
  refine R_callV (mi := 241) (na := 3) (ci := 12) (i := 64) (as := [.int (xs (nI j + 1).toNatClampNeg), .int (xs (nI j + 2).toNatClampNeg)]) (r := [.int r]) (rv := some (.int r)) (σ1 := mSS B) ⟨44, by decide +kernel⟩ rfl rfl rfl rfl (Mo_goer_r 5000 (xs (nI j + 1).toNatClampNeg) (xs (nI j + 2).toNatClampNeg) A 8 h2) ?_
  show mRunF mCdL (lwE L xs M') (430, lLs j, [.int r, .int r], mSS B)
  exact R_ieq (t := 1672) ⟨1242, by decide +kernel⟩ (fun _ => go) (fun q3 => absurd rfl q3)
set_option maxRecDepth 100000 in
set_option maxHeartbeats 4000000 in
theorem lwc_7 {L j : Nat} {xs : Nat → Int32} {M : mS} (h : INV M) (hin : ∀ k, k ≤ 5 → mIn (nI j + nI k) L = true) : ∃ B, INV B ∧ ∀ M', mRunF mCdL (lwE L xs M') (1672, lLs j, [], mSS B) → mRunF mCdL (lwE L xs M') (435, lLs j, [], mSS M) := by
  obtain ⟨r, h1, h2⟩ := call_together (N := 5000) h (xs (nI j + 1).toNatClampNeg) (xs (nI j + 2).toNatClampNeg)
  refine ⟨M, h, fun M' go => ?_⟩
  refine mRunF.sg (mSl mkL 191 5) (g := (440, lLs j, [.int (nI j + 1), .retAddr 0, .ref 0], mSS M)) (by decide +kernel) rfl ?_
  refine R_scr (by decide +kernel) (hin 1 (by omega)) ?_
  refine mRunF.sg (mSl mkL 197 4) (g := (445, lLs j, [.int (nI j + 2), .retAddr 0, .int (xs (nI j + 1).toNatClampNeg), .ref 0], mSS M)) (by decide +kernel) rfl ?_
  refine R_scr (by decide +kernel) (hin 2 (by omega)) ?_
  refine R_callV (mi := 111) (na := 3) (ci := 11) (i := 0) (as := [.int (xs (nI j + 1).toNatClampNeg), .int (xs (nI j + 2).toNatClampNeg)]) (r := []) (rv := some (.int r)) (σ1 := mSS M) ⟨45, by decide +kernel⟩ rfl rfl rfl rfl (Md_together_r 5000 (xs (nI j + 1).toNatClampNeg) (xs (nI j + 2).toNatClampNeg) M 10 h1) ?_
  show mRunF mCdL (lwE L xs M') (449, lLs j, [.int r], mSS M)
  refine mRunF.sg (mSl mkL 203 5) (g := (454, lLs j, [.int (nI j + 1), .retAddr 0, .ref 64, .int r], mSS M)) (by decide +kernel) rfl ?_
  refine R_scr (by decide +kernel) (hin 1 (by omega)) ?_
  refine mRunF.sg (mSl mkL 209 4) (g := (459, lLs j, [.int (nI j + 2), .retAddr 0, .int (xs (nI j + 1).toNatClampNeg), .ref 64, .int r], mSS M)) (by decide +kernel) rfl ?_
  refine R_scr (by decide +kernel) (hin 2 (by omega)) ?_
  refine R_callV (mi := 242) (na := 3) (ci := 12) (i := 64) (as := [.int (xs (nI j + 1).toNatClampNeg), .int (xs (nI j + 2).toNatClampNeg)]) (r := [.int r]) (rv := some (.int r)) (σ1 := mSS M) ⟨48, by decide +kernel⟩ rfl rfl rfl rfl (Mo_together_r 5000 (xs (nI j + 1).toNatClampNeg) (xs (nI j + 2).toNatClampNeg) M 9 h2) ?_
  show mRunF mCdL (lwE L xs M') (463, lLs j, [.int r, .int r], mSS M)
  exact R_ieq (t := 1672) ⟨1209, by decide +kernel⟩ (fun _ => go) (fun q3 => absurd rfl q3)
set_option maxRecDepth 100000 in
set_option maxHeartbeats 4000000 in
theorem lwc_8 {L j : Nat} {xs : Nat → Int32} {M : mS} (h : INV M) (hin : ∀ k, k ≤ 5 → mIn (nI j + nI k) L = true) : ∃ B, INV B ∧ ∀ M', mRunF mCdL (lwE L xs M') (1672, lLs j, [], mSS B) → mRunF mCdL (lwE L xs M') (468, lLs j, [], mSS M) := by
  obtain ⟨r, A, B, h1, h2, h3⟩ := call_there (N := 5000) (by omega) h (xs (nI j + 1).toNatClampNeg)
  refine ⟨B, h3, fun M' go => ?_⟩
  refine mRunF.sg (mSl mkL 218 5) (g := (473, lLs j, [.int (nI j + 1), .retAddr 0, .ref 0], mSS M)) (by decide +kernel) rfl ?_
  refine R_scr (by decide +kernel) (hin 1 (by omega)) ?_
  refine R_callV (mi := 112) (na := 2) (ci := 11) (i := 0) (as := [.int (xs (nI j + 1).toNatClampNeg)]) (r := []) (rv := some (.int r)) (σ1 := mSS A) ⟨49, by decide +kernel⟩ rfl rfl rfl rfl (Md_there_r 5000 (xs (nI j + 1).toNatClampNeg) M 7 h1) ?_
  show mRunF mCdL (lwE L xs M') (477, lLs j, [.int r], mSS A)
  refine mRunF.sg (mSl mkL 225 5) (g := (482, lLs j, [.int (nI j + 1), .retAddr 0, .ref 64, .int r], mSS A)) (by decide +kernel) rfl ?_
  refine R_scr (by decide +kernel) (hin 1 (by omega)) ?_
  refine R_callV (mi := 244) (na := 2) (ci := 12) (i := 64) (as := [.int (xs (nI j + 1).toNatClampNeg)]) (r := [.int r]) (rv := some (.int r)) (σ1 := mSS B) ⟨52, by decide +kernel⟩ rfl rfl rfl rfl (Mo_there_r 5000 (xs (nI j + 1).toNatClampNeg) A 5 h2) ?_
  show mRunF mCdL (lwE L xs M') (486, lLs j, [.int r, .int r], mSS B)
  exact R_ieq (t := 1672) ⟨1186, by decide +kernel⟩ (fun _ => go) (fun q3 => absurd rfl q3)
set_option maxRecDepth 100000 in
set_option maxHeartbeats 4000000 in
theorem lwc_9 {L j : Nat} {xs : Nat → Int32} {M : mS} (h : INV M) (hin : ∀ k, k ≤ 5 → mIn (nI j + nI k) L = true) : ∃ B, INV B ∧ ∀ M', mRunF mCdL (lwE L xs M') (1672, lLs j, [], mSS B) → mRunF mCdL (lwE L xs M') (491, lLs j, [], mSS M) := by
  obtain ⟨r, A, B, h1, h2, h3⟩ := call_turn (N := 5000) (by omega) h (xs (nI j + 1).toNatClampNeg) (xs (nI j + 2).toNatClampNeg)
  refine ⟨B, h3, fun M' go => ?_⟩
  refine mRunF.sg (mSl mkL 235 5) (g := (496, lLs j, [.int (nI j + 1), .retAddr 0, .ref 0], mSS M)) (by decide +kernel) rfl ?_
  refine R_scr (by decide +kernel) (hin 1 (by omega)) ?_
  refine mRunF.sg (mSl mkL 241 4) (g := (501, lLs j, [.int (nI j + 2), .retAddr 0, .int (xs (nI j + 1).toNatClampNeg), .ref 0], mSS M)) (by decide +kernel) rfl ?_
  refine R_scr (by decide +kernel) (hin 2 (by omega)) ?_
  refine R_callV (mi := 113) (na := 3) (ci := 11) (i := 0) (as := [.int (xs (nI j + 1).toNatClampNeg), .int (xs (nI j + 2).toNatClampNeg)]) (r := []) (rv := some (.int r)) (σ1 := mSS A) ⟨53, by decide +kernel⟩ rfl rfl rfl rfl (Md_turn_r 5000 (xs (nI j + 1).toNatClampNeg) (xs (nI j + 2).toNatClampNeg) M 10 h1) ?_
  show mRunF mCdL (lwE L xs M') (505, lLs j, [.int r], mSS A)
  refine mRunF.sg (mSl mkL 247 5) (g := (510, lLs j, [.int (nI j + 1), .retAddr 0, .ref 64, .int r], mSS A)) (by decide +kernel) rfl ?_
  refine R_scr (by decide +kernel) (hin 1 (by omega)) ?_
  refine mRunF.sg (mSl mkL 253 4) (g := (515, lLs j, [.int (nI j + 2), .retAddr 0, .int (xs (nI j + 1).toNatClampNeg), .ref 64, .int r], mSS A)) (by decide +kernel) rfl ?_
  refine R_scr (by decide +kernel) (hin 2 (by omega)) ?_
  refine R_callV (mi := 247) (na := 3) (ci := 12) (i := 64) (as := [.int (xs (nI j + 1).toNatClampNeg), .int (xs (nI j + 2).toNatClampNeg)]) (r := [.int r]) (rv := some (.int r)) (σ1 := mSS B) ⟨56, by decide +kernel⟩ rfl rfl rfl rfl (Mo_turn_r 5000 (xs (nI j + 1).toNatClampNeg) (xs (nI j + 2).toNatClampNeg) A 9 h2) ?_
  show mRunF mCdL (lwE L xs M') (519, lLs j, [.int r, .int r], mSS B)
  exact R_ieq (t := 1672) ⟨1153, by decide +kernel⟩ (fun _ => go) (fun q3 => absurd rfl q3)
set_option maxRecDepth 100000 in
set_option maxHeartbeats 4000000 in
theorem lwc_10 {L j : Nat} {xs : Nat → Int32} {M : mS} (h : INV M) (hin : ∀ k, k ≤ 5 → mIn (nI j + nI k) L = true) : ∃ B, INV B ∧ ∀ M', mRunF mCdL (lwE L xs M') (1672, lLs j, [], mSS B) → mRunF mCdL (lwE L xs M') (524, lLs j, [], mSS M) := by
  obtain ⟨r, A, B, h1, h2, h3⟩ := call_follow (N := 5000) (by omega) h (xs (nI j + 1).toNatClampNeg) (xs (nI j + 2).toNatClampNeg)
  refine ⟨B, h3, fun M' go => ?_⟩
  refine mRunF.sg (mSl mkL 262 5) (g := (529, lLs j, [.int (nI j + 1), .retAddr 0, .ref 0], mSS M)) (by decide +kernel) rfl ?_
  refine R_scr (by decide +kernel) (hin 1 (by omega)) ?_
  refine mRunF.sg (mSl mkL 268 4) (g := (534, lLs j, [.int (nI j + 2), .retAddr 0, .int (xs (nI j + 1).toNatClampNeg), .ref 0], mSS M)) (by decide +kernel) rfl ?_
  refine R_scr (by decide +kernel) (hin 2 (by omega)) ?_
  refine R_callV (mi := 114) (na := 3) (ci := 11) (i := 0) (as := [.int (xs (nI j + 1).toNatClampNeg), .int (xs (nI j + 2).toNatClampNeg)]) (r := []) (rv := some (.int r)) (σ1 := mSS A) ⟨57, by decide +kernel⟩ rfl rfl rfl rfl (Md_follow_r 5000 (xs (nI j + 1).toNatClampNeg) (xs (nI j + 2).toNatClampNeg) M 10 h1) ?_
  show mRunF mCdL (lwE L xs M') (538, lLs j, [.int r], mSS A)
  refine mRunF.sg (mSl mkL 274 5) (g := (543, lLs j, [.int (nI j + 1), .retAddr 0, .ref 64, .int r], mSS A)) (by decide +kernel) rfl ?_
  refine R_scr (by decide +kernel) (hin 1 (by omega)) ?_
  refine mRunF.sg (mSl mkL 280 4) (g := (548, lLs j, [.int (nI j + 2), .retAddr 0, .int (xs (nI j + 1).toNatClampNeg), .ref 64, .int r], mSS A)) (by decide +kernel) rfl ?_
  refine R_scr (by decide +kernel) (hin 2 (by omega)) ?_
  refine R_callV (mi := 248) (na := 3) (ci := 12) (i := 64) (as := [.int (xs (nI j + 1).toNatClampNeg), .int (xs (nI j + 2).toNatClampNeg)]) (r := [.int r]) (rv := some (.int r)) (σ1 := mSS B) ⟨61, by decide +kernel⟩ rfl rfl rfl rfl (Mo_follow_r 5000 (xs (nI j + 1).toNatClampNeg) (xs (nI j + 2).toNatClampNeg) A 9 h2) ?_
  show mRunF mCdL (lwE L xs M') (552, lLs j, [.int r, .int r], mSS B)
  exact R_ieq (t := 1672) ⟨1120, by decide +kernel⟩ (fun _ => go) (fun q3 => absurd rfl q3)
