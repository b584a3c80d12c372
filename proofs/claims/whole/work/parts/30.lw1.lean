/-! THE LAW'S CASES, 11: printed by program -/
set_option maxRecDepth 100000 in
set_option maxHeartbeats 4000000 in
theorem lwc_11 {L j : Nat} {xs : Nat → Int32} {M : mS} (h : INV M) (hin : ∀ k, k ≤ 5 → mIn (nI j + nI k) L = true) : ∃ B, INV B ∧ ∀ M', mRunF mCdL (lwE L xs M') (1672, lLs j, [], mSS B) → mRunF mCdL (lwE L xs M') (557, lLs j, [], mSS M) := by
  obtain ⟨r, A, B, h1, h2, h3⟩ := call_slip (N := 5000) (by omega) h (xs (nI j + 1).toNatClampNeg) (xs (nI j + 2).toNatClampNeg)
  refine ⟨B, h3, fun M' go => ?_⟩
  refine mRunF.sg (mSl mkL 289 5) (g := (562, lLs j, [.int (nI j + 1), .retAddr 0, .ref 0], mSS M)) (by decide +kernel) rfl ?_
  refine R_scr (by decide +kernel) (hin 1 (by omega)) ?_
  refine mRunF.sg (mSl mkL 295 4) (g := (567, lLs j, [.int (nI j + 2), .retAddr 0, .int (xs (nI j + 1).toNatClampNeg), .ref 0], mSS M)) (by decide +kernel) rfl ?_
  refine R_scr (by decide +kernel) (hin 2 (by omega)) ?_
  refine R_callV (mi := 115) (na := 3) (ci := 11) (i := 0) (as := [.int (xs (nI j + 1).toNatClampNeg), .int (xs (nI j + 2).toNatClampNeg)]) (r := []) (rv := some (.int r)) (σ1 := mSS A) ⟨62, by decide +kernel⟩ rfl rfl rfl rfl (Md_slip_r 5000 (xs (nI j + 1).toNatClampNeg) (xs (nI j + 2).toNatClampNeg) M 10 h1) ?_
  show mRunF mCdL (lwE L xs M') (571, lLs j, [.int r], mSS A)
  refine mRunF.sg (mSl mkL 301 5) (g := (576, lLs j, [.int (nI j + 1), .retAddr 0, .ref 64, .int r], mSS A)) (by decide +kernel) rfl ?_
  refine R_scr (by decide +kernel) (hin 1 (by omega)) ?_
  refine mRunF.sg (mSl mkL 307 4) (g := (581, lLs j, [.int (nI j + 2), .retAddr 0, .int (xs (nI j + 1).toNatClampNeg), .ref 64, .int r], mSS A)) (by decide +kernel) rfl ?_
  refine R_scr (by decide +kernel) (hin 2 (by omega)) ?_
  refine R_callV (mi := 249) (na := 3) (ci := 12) (i := 64) (as := [.int (xs (nI j + 1).toNatClampNeg), .int (xs (nI j + 2).toNatClampNeg)]) (r := [.int r]) (rv := some (.int r)) (σ1 := mSS B) ⟨65, by decide +kernel⟩ rfl rfl rfl rfl (Mo_slip_r 5000 (xs (nI j + 1).toNatClampNeg) (xs (nI j + 2).toNatClampNeg) A 9 h2) ?_
  show mRunF mCdL (lwE L xs M') (585, lLs j, [.int r, .int r], mSS B)
  exact R_ieq (t := 1672) ⟨1087, by decide +kernel⟩ (fun _ => go) (fun q3 => absurd rfl q3)
set_option maxRecDepth 100000 in
set_option maxHeartbeats 4000000 in
theorem lwc_12 {L j : Nat} {xs : Nat → Int32} {M : mS} (h : INV M) (hin : ∀ k, k ≤ 5 → mIn (nI j + nI k) L = true) : ∃ B, INV B ∧ ∀ M', mRunF mCdL (lwE L xs M') (1672, lLs j, [], mSS B) → mRunF mCdL (lwE L xs M') (590, lLs j, [], mSS M) := by
  obtain ⟨r, A, B, h1, h2, h3⟩ := call_nights (N := 5000) (by omega) h (xs (nI j + 1).toNatClampNeg)
  refine ⟨B, h3, fun M' go => ?_⟩
  refine mRunF.sg (mSl mkL 316 5) (g := (595, lLs j, [.int (nI j + 1), .retAddr 0, .ref 0], mSS M)) (by decide +kernel) rfl ?_
  refine R_scr (by decide +kernel) (hin 1 (by omega)) ?_
  refine R_callV (mi := 116) (na := 2) (ci := 11) (i := 0) (as := [.int (xs (nI j + 1).toNatClampNeg)]) (r := []) (rv := some (.int r)) (σ1 := mSS A) ⟨66, by decide +kernel⟩ rfl rfl rfl rfl (Md_nights_r 5000 (xs (nI j + 1).toNatClampNeg) M 8 h1) ?_
  show mRunF mCdL (lwE L xs M') (599, lLs j, [.int r], mSS A)
  refine mRunF.sg (mSl mkL 323 5) (g := (604, lLs j, [.int (nI j + 1), .retAddr 0, .ref 64, .int r], mSS A)) (by decide +kernel) rfl ?_
  refine R_scr (by decide +kernel) (hin 1 (by omega)) ?_
  refine R_callV (mi := 252) (na := 2) (ci := 12) (i := 64) (as := [.int (xs (nI j + 1).toNatClampNeg)]) (r := [.int r]) (rv := some (.int r)) (σ1 := mSS B) ⟨69, by decide +kernel⟩ rfl rfl rfl rfl (Mo_nights_r 5000 (xs (nI j + 1).toNatClampNeg) A 3 h2) ?_
  show mRunF mCdL (lwE L xs M') (608, lLs j, [.int r, .int r], mSS B)
  exact R_ieq (t := 1672) ⟨1064, by decide +kernel⟩ (fun _ => go) (fun q3 => absurd rfl q3)
set_option maxRecDepth 100000 in
set_option maxHeartbeats 4000000 in
theorem lwc_13 {L j : Nat} {xs : Nat → Int32} {M : mS} (h : INV M) (hin : ∀ k, k ≤ 5 → mIn (nI j + nI k) L = true) : ∃ B, INV B ∧ ∀ M', mRunF mCdL (lwE L xs M') (1672, lLs j, [], mSS B) → mRunF mCdL (lwE L xs M') (613, lLs j, [], mSS M) := by
  obtain ⟨r, A, B, h1, h2, h3⟩ := call_undo (N := 5000) (by omega) h
  refine ⟨B, h3, fun M' go => ?_⟩
  refine mRunF.sg (mSl mkL 333 1) (g := (614, lLs j, [.ref 0], mSS M)) (by decide +kernel) rfl ?_
  refine R_callV (mi := 117) (na := 1) (ci := 11) (i := 0) (as := []) (r := []) (rv := some (.int r)) (σ1 := mSS A) ⟨70, by decide +kernel⟩ rfl rfl rfl rfl (Md_undo_r 5000  M 11 h1) ?_
  show mRunF mCdL (lwE L xs M') (617, lLs j, [.int r], mSS A)
  refine mRunF.sg (mSl mkL 335 1) (g := (618, lLs j, [.ref 64, .int r], mSS A)) (by decide +kernel) rfl ?_
  refine R_callV (mi := 253) (na := 1) (ci := 12) (i := 64) (as := []) (r := [.int r]) (rv := some (.int r)) (σ1 := mSS B) ⟨74, by decide +kernel⟩ rfl rfl rfl rfl (Mo_undo_r 5000  A 12 h2) ?_
  show mRunF mCdL (lwE L xs M') (621, lLs j, [.int r, .int r], mSS B)
  exact R_ieq (t := 1672) ⟨1051, by decide +kernel⟩ (fun _ => go) (fun q3 => absurd rfl q3)
set_option maxRecDepth 100000 in
set_option maxHeartbeats 4000000 in
theorem lwc_14 {L j : Nat} {xs : Nat → Int32} {M : mS} (h : INV M) (hin : ∀ k, k ≤ 5 → mIn (nI j + nI k) L = true) : ∃ B, INV B ∧ ∀ M', mRunF mCdL (lwE L xs M') (1672, lLs j, [], mSS B) → mRunF mCdL (lwE L xs M') (626, lLs j, [], mSS M) := by
  obtain ⟨r, A, B, h1, h2, h3⟩ := call_meet (N := 5000) (by omega) h (xs (nI j + 1).toNatClampNeg) (xs (nI j + 2).toNatClampNeg)
  refine ⟨B, h3, fun M' go => ?_⟩
  refine mRunF.sg (mSl mkL 340 5) (g := (631, lLs j, [.int (nI j + 1), .retAddr 0, .ref 0], mSS M)) (by decide +kernel) rfl ?_
  refine R_scr (by decide +kernel) (hin 1 (by omega)) ?_
  refine mRunF.sg (mSl mkL 346 4) (g := (636, lLs j, [.int (nI j + 2), .retAddr 0, .int (xs (nI j + 1).toNatClampNeg), .ref 0], mSS M)) (by decide +kernel) rfl ?_
  refine R_scr (by decide +kernel) (hin 2 (by omega)) ?_
  refine R_callV (mi := 118) (na := 3) (ci := 11) (i := 0) (as := [.int (xs (nI j + 1).toNatClampNeg), .int (xs (nI j + 2).toNatClampNeg)]) (r := []) (rv := some (.int r)) (σ1 := mSS A) ⟨75, by decide +kernel⟩ rfl rfl rfl rfl (Md_meet_r 5000 (xs (nI j + 1).toNatClampNeg) (xs (nI j + 2).toNatClampNeg) M 7 h1) ?_
  show mRunF mCdL (lwE L xs M') (640, lLs j, [.int r], mSS A)
  refine mRunF.sg (mSl mkL 352 5) (g := (645, lLs j, [.int (nI j + 1), .retAddr 0, .ref 64, .int r], mSS A)) (by decide +kernel) rfl ?_
  refine R_scr (by decide +kernel) (hin 1 (by omega)) ?_
  refine mRunF.sg (mSl mkL 358 4) (g := (650, lLs j, [.int (nI j + 2), .retAddr 0, .int (xs (nI j + 1).toNatClampNeg), .ref 64, .int r], mSS A)) (by decide +kernel) rfl ?_
  refine R_scr (by decide +kernel) (hin 2 (by omega)) ?_
  refine R_callV (mi := 260) (na := 3) (ci := 12) (i := 64) (as := [.int (xs (nI j + 1).toNatClampNeg), .int (xs (nI j + 2).toNatClampNeg)]) (r := [.int r]) (rv := some (.int r)) (σ1 := mSS B) ⟨78, by decide +kernel⟩ rfl rfl rfl rfl (Mo_meet_r 5000 (xs (nI j + 1).toNatClampNeg) (xs (nI j + 2).toNatClampNeg) A 2 h2) ?_
  show mRunF mCdL (lwE L xs M') (654, lLs j, [.int r, .int r], mSS B)
  exact R_ieq (t := 1672) ⟨1018, by decide +kernel⟩ (fun _ => go) (fun q3 => absurd rfl q3)
set_option maxRecDepth 100000 in
set_option maxHeartbeats 4000000 in
theorem lwc_15 {L j : Nat} {xs : Nat → Int32} {M : mS} (h : INV M) (hin : ∀ k, k ≤ 5 → mIn (nI j + nI k) L = true) : ∃ B, INV B ∧ ∀ M', mRunF mCdL (lwE L xs M') (1672, lLs j, [], mSS B) → mRunF mCdL (lwE L xs M') (659, lLs j, [], mSS M) := by
  obtain ⟨r, A, B, h1, h2, h3⟩ := call_often (N := 5000) (by omega) h (xs (nI j + 1).toNatClampNeg) (xs (nI j + 2).toNatClampNeg) (xs (nI j + 3).toNatClampNeg)
  refine ⟨B, h3, fun M' go => ?_⟩
  refine mRunF.sg (mSl mkL 367 5) (g := (664, lLs j, [.int (nI j + 1), .retAddr 0, .ref 0], mSS M)) (by decide +kernel) rfl ?_
  refine R_scr (by decide +kernel) (hin 1 (by omega)) ?_
  refine mRunF.sg (mSl mkL 373 4) (g := (669, lLs j, [.int (nI j + 2), .retAddr 0, .int (xs (nI j + 1).toNatClampNeg), .ref 0], mSS M)) (by decide +kernel) rfl ?_
  refine R_scr (by decide +kernel) (hin 2 (by omega)) ?_
  refine mRunF.sg (mSl mkL 378 4) (g := (674, lLs j, [.int (nI j + 3), .retAddr 0, .int (xs (nI j + 2).toNatClampNeg), .int (xs (nI j + 1).toNatClampNeg), .ref 0], mSS M)) (by decide +kernel) rfl ?_
  refine R_scr (by decide +kernel) (hin 3 (by omega)) ?_
  refine R_callV (mi := 119) (na := 4) (ci := 11) (i := 0) (as := [.int (xs (nI j + 1).toNatClampNeg), .int (xs (nI j + 2).toNatClampNeg), .int (xs (nI j + 3).toNatClampNeg)]) (r := []) (rv := some (.int r)) (σ1 := mSS A) ⟨79, by decide +kernel⟩ rfl rfl rfl rfl (Md_often_r 5000 (xs (nI j + 1).toNatClampNeg) (xs (nI j + 2).toNatClampNeg) (xs (nI j + 3).toNatClampNeg) M 7 h1) ?_
  show mRunF mCdL (lwE L xs M') (678, lLs j, [.int r], mSS A)
  refine mRunF.sg (mSl mkL 384 5) (g := (683, lLs j, [.int (nI j + 1), .retAddr 0, .ref 64, .int r], mSS A)) (by decide +kernel) rfl ?_
  refine R_scr (by decide +kernel) (hin 1 (by omega)) ?_
  refine mRunF.sg (mSl mkL 390 4) (g := (688, lLs j, [.int (nI j + 2), .retAddr 0, .int (xs (nI j + 1).toNatClampNeg), .ref 64, .int r], mSS A)) (by decide +kernel) rfl ?_
  refine R_scr (by decide +kernel) (hin 2 (by omega)) ?_
  refine mRunF.sg (mSl mkL 395 4) (g := (693, lLs j, [.int (nI j + 3), .retAddr 0, .int (xs (nI j + 2).toNatClampNeg), .int (xs (nI j + 1).toNatClampNeg), .ref 64, .int r], mSS A)) (by decide +kernel) rfl ?_
  refine R_scr (by decide +kernel) (hin 3 (by omega)) ?_
  refine R_callV (mi := 262) (na := 4) (ci := 12) (i := 64) (as := [.int (xs (nI j + 1).toNatClampNeg), .int (xs (nI j + 2).toNatClampNeg), .int (xs (nI j + 3).toNatClampNeg)]) (r := [.int r]) (rv := some (.int r)) (σ1 := mSS B) ⟨83, by decide +kernel⟩ rfl rfl rfl rfl (Mo_often_r 5000 (xs (nI j + 1).toNatClampNeg) (xs (nI j + 2).toNatClampNeg) (xs (nI j + 3).toNatClampNeg) A 2 h2) ?_
  show mRunF mCdL (lwE L xs M') (697, lLs j, [.int r, .int r], mSS B)
  exact R_ieq (t := 1672) ⟨975, by decide +kernel⟩ (fun _ => go) (fun q3 => absurd rfl q3)
set_option maxRecDepth 100000 in
set_option maxHeartbeats 4000000 in
theorem lwc_16 {L j : Nat} {xs : Nat → Int32} {M : mS} (h : INV M) (hin : ∀ k, k ≤ 5 → mIn (nI j + nI k) L = true) : ∃ B, INV B ∧ ∀ M', mRunF mCdL (lwE L xs M') (1672, lLs j, [], mSS B) → mRunF mCdL (lwE L xs M') (702, lLs j, [], mSS M) := by
  obtain ⟨r, A, B, h1, h2, h3⟩ := call_alone (N := 5000) (by omega) h (xs (nI j + 1).toNatClampNeg) (xs (nI j + 2).toNatClampNeg)
  refine ⟨B, h3, fun M' go => ?_⟩
  refine mRunF.sg (mSl mkL 404 5) (g := (707, lLs j, [.int (nI j + 1), .retAddr 0, .ref 0], mSS M)) (by decide +kernel) rfl ?_
  refine R_scr (by decide +kernel) (hin 1 (by omega)) ?_
  refine mRunF.sg (mSl mkL 410 4) (g := (712, lLs j, [.int (nI j + 2), .retAddr 0, .int (xs (nI j + 1).toNatClampNeg), .ref 0], mSS M)) (by decide +kernel) rfl ?_
  refine R_scr (by decide +kernel) (hin 2 (by omega)) ?_
  refine R_callV (mi := 120) (na := 3) (ci := 11) (i := 0) (as := [.int (xs (nI j + 1).toNatClampNeg), .int (xs (nI j + 2).toNatClampNeg)]) (r := []) (rv := some (.int r)) (σ1 := mSS A) ⟨84, by decide +kernel⟩ rfl rfl rfl rfl (Md_alone_r 5000 (xs (nI j + 1).toNatClampNeg) (xs (nI j + 2).toNatClampNeg) M 7 h1) ?_
  show mRunF mCdL (lwE L xs M') (716, lLs j, [.int r], mSS A)
  refine mRunF.sg (mSl mkL 416 5) (g := (721, lLs j, [.int (nI j + 1), .retAddr 0, .ref 64, .int r], mSS A)) (by decide +kernel) rfl ?_
  refine R_scr (by decide +kernel) (hin 1 (by omega)) ?_
  refine mRunF.sg (mSl mkL 422 4) (g := (726, lLs j, [.int (nI j + 2), .retAddr 0, .int (xs (nI j + 1).toNatClampNeg), .ref 64, .int r], mSS A)) (by decide +kernel) rfl ?_
  refine R_scr (by decide +kernel) (hin 2 (by omega)) ?_
  refine R_callV (mi := 264) (na := 3) (ci := 12) (i := 64) (as := [.int (xs (nI j + 1).toNatClampNeg), .int (xs (nI j + 2).toNatClampNeg)]) (r := [.int r]) (rv := some (.int r)) (σ1 := mSS B) ⟨87, by decide +kernel⟩ rfl rfl rfl rfl (Mo_alone_r 5000 (xs (nI j + 1).toNatClampNeg) (xs (nI j + 2).toNatClampNeg) A 2 h2) ?_
  show mRunF mCdL (lwE L xs M') (730, lLs j, [.int r, .int r], mSS B)
  exact R_ieq (t := 1672) ⟨942, by decide +kernel⟩ (fun _ => go) (fun q3 => absurd rfl q3)
set_option maxRecDepth 100000 in
set_option maxHeartbeats 4000000 in
theorem lwc_17 {L j : Nat} {xs : Nat → Int32} {M : mS} (h : INV M) (hin : ∀ k, k ≤ 5 → mIn (nI j + nI k) L = true) : ∃ B, INV B ∧ ∀ M', mRunF mCdL (lwE L xs M') (1672, lLs j, [], mSS B) → mRunF mCdL (lwE L xs M') (735, lLs j, [], mSS M) := by
  obtain ⟨r, A, B, h1, h2, h3⟩ := call_earns (N := 5000) (by omega) h (xs (nI j + 1).toNatClampNeg) (xs (nI j + 2).toNatClampNeg)
  refine ⟨B, h3, fun M' go => ?_⟩
  refine mRunF.sg (mSl mkL 431 5) (g := (740, lLs j, [.int (nI j + 1), .retAddr 0, .ref 0], mSS M)) (by decide +kernel) rfl ?_
  refine R_scr (by decide +kernel) (hin 1 (by omega)) ?_
  refine mRunF.sg (mSl mkL 437 4) (g := (745, lLs j, [.int (nI j + 2), .retAddr 0, .int (xs (nI j + 1).toNatClampNeg), .ref 0], mSS M)) (by decide +kernel) rfl ?_
  refine R_scr (by decide +kernel) (hin 2 (by omega)) ?_
  refine R_callV (mi := 121) (na := 3) (ci := 11) (i := 0) (as := [.int (xs (nI j + 1).toNatClampNeg), .int (xs (nI j + 2).toNatClampNeg)]) (r := []) (rv := some (.int r)) (σ1 := mSS A) ⟨88, by decide +kernel⟩ rfl rfl rfl rfl (Md_earns_r 5000 (xs (nI j + 1).toNatClampNeg) (xs (nI j + 2).toNatClampNeg) M 7 h1) ?_
  show mRunF mCdL (lwE L xs M') (749, lLs j, [.int r], mSS A)
  refine mRunF.sg (mSl mkL 443 5) (g := (754, lLs j, [.int (nI j + 1), .retAddr 0, .ref 64, .int r], mSS A)) (by decide +kernel) rfl ?_
  refine R_scr (by decide +kernel) (hin 1 (by omega)) ?_
  refine mRunF.sg (mSl mkL 449 4) (g := (759, lLs j, [.int (nI j + 2), .retAddr 0, .int (xs (nI j + 1).toNatClampNeg), .ref 64, .int r], mSS A)) (by decide +kernel) rfl ?_
  refine R_scr (by decide +kernel) (hin 2 (by omega)) ?_
  refine R_callV (mi := 265) (na := 3) (ci := 12) (i := 64) (as := [.int (xs (nI j + 1).toNatClampNeg), .int (xs (nI j + 2).toNatClampNeg)]) (r := [.int r]) (rv := some (.int r)) (σ1 := mSS B) ⟨91, by decide +kernel⟩ rfl rfl rfl rfl (Mo_earns_r 5000 (xs (nI j + 1).toNatClampNeg) (xs (nI j + 2).toNatClampNeg) A 2 h2) ?_
  show mRunF mCdL (lwE L xs M') (763, lLs j, [.int r, .int r], mSS B)
  exact R_ieq (t := 1672) ⟨909, by decide +kernel⟩ (fun _ => go) (fun q3 => absurd rfl q3)
set_option maxRecDepth 100000 in
set_option maxHeartbeats 4000000 in
theorem lwc_18 {L j : Nat} {xs : Nat → Int32} {M : mS} (h : INV M) (hin : ∀ k, k ≤ 5 → mIn (nI j + nI k) L = true) : ∃ B, INV B ∧ ∀ M', mRunF mCdL (lwE L xs M') (1672, lLs j, [], mSS B) → mRunF mCdL (lwE L xs M') (768, lLs j, [], mSS M) := by
  obtain ⟨r, h1, h2⟩ := call_right (N := 5000) (by omega) h (xs (nI j + 1).toNatClampNeg)
  refine ⟨M, h, fun M' go => ?_⟩
  refine mRunF.sg (mSl mkL 458 5) (g := (773, lLs j, [.int (nI j + 1), .retAddr 0, .ref 0], mSS M)) (by decide +kernel) rfl ?_
  refine R_scr (by decide +kernel) (hin 1 (by omega)) ?_
  refine R_callV (mi := 122) (na := 2) (ci := 11) (i := 0) (as := [.int (xs (nI j + 1).toNatClampNeg)]) (r := []) (rv := some (.int r)) (σ1 := mSS M) ⟨92, by decide +kernel⟩ rfl rfl rfl rfl (Md_right_r 5000 (xs (nI j + 1).toNatClampNeg) M 10 h1) ?_
  show mRunF mCdL (lwE L xs M') (777, lLs j, [.int r], mSS M)
  refine mRunF.sg (mSl mkL 465 5) (g := (782, lLs j, [.int (nI j + 1), .retAddr 0, .ref 64, .int r], mSS M)) (by decide +kernel) rfl ?_
  refine R_scr (by decide +kernel) (hin 1 (by omega)) ?_
  refine R_callV (mi := 267) (na := 2) (ci := 12) (i := 64) (as := [.int (xs (nI j + 1).toNatClampNeg)]) (r := [.int r]) (rv := some (.int r)) (σ1 := mSS M) ⟨95, by decide +kernel⟩ rfl rfl rfl rfl (Mo_right_r 5000 (xs (nI j + 1).toNatClampNeg) M 10 h2) ?_
  show mRunF mCdL (lwE L xs M') (786, lLs j, [.int r, .int r], mSS M)
  exact R_ieq (t := 1672) ⟨886, by decide +kernel⟩ (fun _ => go) (fun q3 => absurd rfl q3)
set_option maxRecDepth 100000 in
set_option maxHeartbeats 4000000 in
theorem lwc_19 {L j : Nat} {xs : Nat → Int32} {M : mS} (h : INV M) (hin : ∀ k, k ≤ 5 → mIn (nI j + nI k) L = true) : ∃ B, INV B ∧ ∀ M', mRunF mCdL (lwE L xs M') (1672, lLs j, [], mSS B) → mRunF mCdL (lwE L xs M') (791, lLs j, [], mSS M) := by
  obtain ⟨r, h1, h2⟩ := call_agree (N := 5000) (by omega) h (xs (nI j + 1).toNatClampNeg) (xs (nI j + 2).toNatClampNeg)
  refine ⟨M, h, fun M' go => ?_⟩
  refine mRunF.sg (mSl mkL 475 5) (g := (796, lLs j, [.int (nI j + 1), .retAddr 0, .ref 0], mSS M)) (by decide +kernel) rfl ?_
  refine R_scr (by decide +kernel) (hin 1 (by omega)) ?_
  refine mRunF.sg (mSl mkL 481 4) (g := (801, lLs j, [.int (nI j + 2), .retAddr 0, .int (xs (nI j + 1).toNatClampNeg), .ref 0], mSS M)) (by decide +kernel) rfl ?_
  refine R_scr (by decide +kernel) (hin 2 (by omega)) ?_
  refine R_callV (mi := 123) (na := 3) (ci := 11) (i := 0) (as := [.int (xs (nI j + 1).toNatClampNeg), .int (xs (nI j + 2).toNatClampNeg)]) (r := []) (rv := some (.int r)) (σ1 := mSS M) ⟨96, by decide +kernel⟩ rfl rfl rfl rfl (Md_agree_r 5000 (xs (nI j + 1).toNatClampNeg) (xs (nI j + 2).toNatClampNeg) M 10 h1) ?_
  show mRunF mCdL (lwE L xs M') (805, lLs j, [.int r], mSS M)
  refine mRunF.sg (mSl mkL 487 5) (g := (810, lLs j, [.int (nI j + 1), .retAddr 0, .ref 64, .int r], mSS M)) (by decide +kernel) rfl ?_
  refine R_scr (by decide +kernel) (hin 1 (by omega)) ?_
  refine mRunF.sg (mSl mkL 493 4) (g := (815, lLs j, [.int (nI j + 2), .retAddr 0, .int (xs (nI j + 1).toNatClampNeg), .ref 64, .int r], mSS M)) (by decide +kernel) rfl ?_
  refine R_scr (by decide +kernel) (hin 2 (by omega)) ?_
  refine R_callV (mi := 268) (na := 3) (ci := 12) (i := 64) (as := [.int (xs (nI j + 1).toNatClampNeg), .int (xs (nI j + 2).toNatClampNeg)]) (r := [.int r]) (rv := some (.int r)) (σ1 := mSS M) ⟨99, by decide +kernel⟩ rfl rfl rfl rfl (Mo_agree_r 5000 (xs (nI j + 1).toNatClampNeg) (xs (nI j + 2).toNatClampNeg) M 10 h2) ?_
  show mRunF mCdL (lwE L xs M') (819, lLs j, [.int r, .int r], mSS M)
  exact R_ieq (t := 1672) ⟨853, by decide +kernel⟩ (fun _ => go) (fun q3 => absurd rfl q3)
set_option maxRecDepth 100000 in
set_option maxHeartbeats 4000000 in
theorem lwc_20 {L j : Nat} {xs : Nat → Int32} {M : mS} (h : INV M) (hin : ∀ k, k ≤ 5 → mIn (nI j + nI k) L = true) : ∃ B, INV B ∧ ∀ M', mRunF mCdL (lwE L xs M') (1672, lLs j, [], mSS B) → mRunF mCdL (lwE L xs M') (824, lLs j, [], mSS M) := by
  obtain ⟨r, h1, h2⟩ := call_round (N := 5000) (by omega) h
  refine ⟨M, h, fun M' go => ?_⟩
  refine mRunF.sg (mSl mkL 502 1) (g := (825, lLs j, [.ref 0], mSS M)) (by decide +kernel) rfl ?_
  refine R_callV (mi := 124) (na := 1) (ci := 11) (i := 0) (as := []) (r := []) (rv := some (.int r)) (σ1 := mSS M) ⟨100, by decide +kernel⟩ rfl rfl rfl rfl (Md_round_r 5000  M 9 h1) ?_
  show mRunF mCdL (lwE L xs M') (828, lLs j, [.int r], mSS M)
  refine mRunF.sg (mSl mkL 504 1) (g := (829, lLs j, [.ref 64, .int r], mSS M)) (by decide +kernel) rfl ?_
  refine R_callV (mi := 269) (na := 1) (ci := 12) (i := 64) (as := []) (r := [.int r]) (rv := some (.int r)) (σ1 := mSS M) ⟨103, by decide +kernel⟩ rfl rfl rfl rfl (Mo_round_r 5000  M 11 h2) ?_
  show mRunF mCdL (lwE L xs M') (832, lLs j, [.int r, .int r], mSS M)
  exact R_ieq (t := 1672) ⟨840, by decide +kernel⟩ (fun _ => go) (fun q3 => absurd rfl q3)
set_option maxRecDepth 100000 in
set_option maxHeartbeats 4000000 in
theorem lwc_21 {L j : Nat} {xs : Nat → Int32} {M : mS} (h : INV M) (hin : ∀ k, k ≤ 5 → mIn (nI j + nI k) L = true) : ∃ B, INV B ∧ ∀ M', mRunF mCdL (lwE L xs M') (1672, lLs j, [], mSS B) → mRunF mCdL (lwE L xs M') (837, lLs j, [], mSS M) := by
  obtain ⟨r, A, B, h1, h2, h3⟩ := call_turns (N := 5000) (by omega) h (xs (nI j + 1).toNatClampNeg) (xs (nI j + 2).toNatClampNeg) (xs (nI j + 3).toNatClampNeg)
  refine ⟨B, h3, fun M' go => ?_⟩
  refine mRunF.sg (mSl mkL 509 5) (g := (842, lLs j, [.int (nI j + 1), .retAddr 0, .ref 0], mSS M)) (by decide +kernel) rfl ?_
  refine R_scr (by decide +kernel) (hin 1 (by omega)) ?_
  refine mRunF.sg (mSl mkL 515 4) (g := (847, lLs j, [.int (nI j + 2), .retAddr 0, .int (xs (nI j + 1).toNatClampNeg), .ref 0], mSS M)) (by decide +kernel) rfl ?_
  refine R_scr (by decide +kernel) (hin 2 (by omega)) ?_
  refine mRunF.sg (mSl mkL 520 4) (g := (852, lLs j, [.int (nI j + 3), .retAddr 0, .int (xs (nI j + 2).toNatClampNeg), .int (xs (nI j + 1).toNatClampNeg), .ref 0], mSS M)) (by decide +kernel) rfl ?_
  refine R_scr (by decide +kernel) (hin 3 (by omega)) ?_
  refine R_callV (mi := 125) (na := 4) (ci := 11) (i := 0) (as := [.int (xs (nI j + 1).toNatClampNeg), .int (xs (nI j + 2).toNatClampNeg), .int (xs (nI j + 3).toNatClampNeg)]) (r := []) (rv := some (.int r)) (σ1 := mSS A) ⟨104, by decide +kernel⟩ rfl rfl rfl rfl (Md_turns_r 5000 (xs (nI j + 1).toNatClampNeg) (xs (nI j + 2).toNatClampNeg) (xs (nI j + 3).toNatClampNeg) M 5 h1) ?_
  show mRunF mCdL (lwE L xs M') (856, lLs j, [.int r], mSS A)
  refine mRunF.sg (mSl mkL 526 5) (g := (861, lLs j, [.int (nI j + 1), .retAddr 0, .ref 64, .int r], mSS A)) (by decide +kernel) rfl ?_
  refine R_scr (by decide +kernel) (hin 1 (by omega)) ?_
  refine mRunF.sg (mSl mkL 532 4) (g := (866, lLs j, [.int (nI j + 2), .retAddr 0, .int (xs (nI j + 1).toNatClampNeg), .ref 64, .int r], mSS A)) (by decide +kernel) rfl ?_
  refine R_scr (by decide +kernel) (hin 2 (by omega)) ?_
  refine mRunF.sg (mSl mkL 537 4) (g := (871, lLs j, [.int (nI j + 3), .retAddr 0, .int (xs (nI j + 2).toNatClampNeg), .int (xs (nI j + 1).toNatClampNeg), .ref 64, .int r], mSS A)) (by decide +kernel) rfl ?_
  refine R_scr (by decide +kernel) (hin 3 (by omega)) ?_
  refine R_callV (mi := 273) (na := 4) (ci := 12) (i := 64) (as := [.int (xs (nI j + 1).toNatClampNeg), .int (xs (nI j + 2).toNatClampNeg), .int (xs (nI j + 3).toNatClampNeg)]) (r := [.int r]) (rv := some (.int r)) (σ1 := mSS B) ⟨107, by decide +kernel⟩ rfl rfl rfl rfl (Mo_turns_r 5000 (xs (nI j + 1).toNatClampNeg) (xs (nI j + 2).toNatClampNeg) (xs (nI j + 3).toNatClampNeg) A 1 h2) ?_
  show mRunF mCdL (lwE L xs M') (875, lLs j, [.int r, .int r], mSS B)
  exact R_ieq (t := 1672) ⟨797, by decide +kernel⟩ (fun _ => go) (fun q3 => absurd rfl q3)
