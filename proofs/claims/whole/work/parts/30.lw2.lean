/-! THE LAW'S CASES, 22: printed by program -/
set_option maxRecDepth 100000 in
set_option maxHeartbeats 4000000 in
theorem lwc_22 {L j : Nat} {xs : Nat → Int32} {M : mS} (h : INV M) (hin : ∀ k, k ≤ 5 → mIn (nI j + nI k) L = true) : ∃ B, INV B ∧ ∀ M', mRunF mCdL (lwE L xs M') (1672, lLs j, [], mSS B) → mRunF mCdL (lwE L xs M') (880, lLs j, [], mSS M) := by
  obtain ⟨r, A, B, h1, h2, h3⟩ := call_parts (N := 5000) (by omega) h (xs (nI j + 1).toNatClampNeg) (xs (nI j + 2).toNatClampNeg) (xs (nI j + 3).toNatClampNeg)
  refine ⟨B, h3, fun M' go => ?_⟩
  refine mRunF.sg (mSl mkL 546 5) (g := (885, lLs j, [.int (nI j + 1), .retAddr 0, .ref 0], mSS M)) (by decide +kernel) rfl ?_
  refine R_scr (by decide +kernel) (hin 1 (by omega)) ?_
  refine mRunF.sg (mSl mkL 552 4) (g := (890, lLs j, [.int (nI j + 2), .retAddr 0, .int (xs (nI j + 1).toNatClampNeg), .ref 0], mSS M)) (by decide +kernel) rfl ?_
  refine R_scr (by decide +kernel) (hin 2 (by omega)) ?_
  refine mRunF.sg (mSl mkL 557 4) (g := (895, lLs j, [.int (nI j + 3), .retAddr 0, .int (xs (nI j + 2).toNatClampNeg), .int (xs (nI j + 1).toNatClampNeg), .ref 0], mSS M)) (by decide +kernel) rfl ?_
  refine R_scr (by decide +kernel) (hin 3 (by omega)) ?_
  refine R_callV (mi := 126) (na := 4) (ci := 11) (i := 0) (as := [.int (xs (nI j + 1).toNatClampNeg), .int (xs (nI j + 2).toNatClampNeg), .int (xs (nI j + 3).toNatClampNeg)]) (r := []) (rv := some (.int r)) (σ1 := mSS A) ⟨108, by decide +kernel⟩ rfl rfl rfl rfl (Md_parts_r 5000 (xs (nI j + 1).toNatClampNeg) (xs (nI j + 2).toNatClampNeg) (xs (nI j + 3).toNatClampNeg) M 5 h1) ?_
  show mRunF mCdL (lwE L xs M') (899, lLs j, [.int r], mSS A)
  refine mRunF.sg (mSl mkL 563 5) (g := (904, lLs j, [.int (nI j + 1), .retAddr 0, .ref 64, .int r], mSS A)) (by decide +kernel) rfl ?_
  refine R_scr (by decide +kernel) (hin 1 (by omega)) ?_
  refine mRunF.sg (mSl mkL 569 4) (g := (909, lLs j, [.int (nI j + 2), .retAddr 0, .int (xs (nI j + 1).toNatClampNeg), .ref 64, .int r], mSS A)) (by decide +kernel) rfl ?_
  refine R_scr (by decide +kernel) (hin 2 (by omega)) ?_
  refine mRunF.sg (mSl mkL 574 4) (g := (914, lLs j, [.int (nI j + 3), .retAddr 0, .int (xs (nI j + 2).toNatClampNeg), .int (xs (nI j + 1).toNatClampNeg), .ref 64, .int r], mSS A)) (by decide +kernel) rfl ?_
  refine R_scr (by decide +kernel) (hin 3 (by omega)) ?_
  refine R_callV (mi := 274) (na := 4) (ci := 12) (i := 64) (as := [.int (xs (nI j + 1).toNatClampNeg), .int (xs (nI j + 2).toNatClampNeg), .int (xs (nI j + 3).toNatClampNeg)]) (r := [.int r]) (rv := some (.int r)) (σ1 := mSS B) ⟨111, by decide +kernel⟩ rfl rfl rfl rfl (Mo_parts_r 5000 (xs (nI j + 1).toNatClampNeg) (xs (nI j + 2).toNatClampNeg) (xs (nI j + 3).toNatClampNeg) A 1 h2) ?_
  show mRunF mCdL (lwE L xs M') (918, lLs j, [.int r, .int r], mSS B)
  exact R_ieq (t := 1672) ⟨754, by decide +kernel⟩ (fun _ => go) (fun q3 => absurd rfl q3)
set_option maxRecDepth 100000 in
set_option maxHeartbeats 4000000 in
theorem lwc_23 {L j : Nat} {xs : Nat → Int32} {M : mS} (h : INV M) (hin : ∀ k, k ≤ 5 → mIn (nI j + nI k) L = true) : ∃ B, INV B ∧ ∀ M', mRunF mCdL (lwE L xs M') (1672, lLs j, [], mSS B) → mRunF mCdL (lwE L xs M') (923, lLs j, [], mSS M) := by
  obtain ⟨r, A, B, h1, h2, h3⟩ := call_knot (N := 5000) (by omega) h (xs (nI j + 1).toNatClampNeg) (xs (nI j + 2).toNatClampNeg) (xs (nI j + 3).toNatClampNeg) (xs (nI j + 4).toNatClampNeg)
  refine ⟨B, h3, fun M' go => ?_⟩
  refine mRunF.sg (mSl mkL 583 5) (g := (928, lLs j, [.int (nI j + 1), .retAddr 0, .ref 0], mSS M)) (by decide +kernel) rfl ?_
  refine R_scr (by decide +kernel) (hin 1 (by omega)) ?_
  refine mRunF.sg (mSl mkL 589 4) (g := (933, lLs j, [.int (nI j + 2), .retAddr 0, .int (xs (nI j + 1).toNatClampNeg), .ref 0], mSS M)) (by decide +kernel) rfl ?_
  refine R_scr (by decide +kernel) (hin 2 (by omega)) ?_
  refine mRunF.sg (mSl mkL 594 4) (g := (938, lLs j, [.int (nI j + 3), .retAddr 0, .int (xs (nI j + 2).toNatClampNeg), .int (xs (nI j + 1).toNatClampNeg), .ref 0], mSS M)) (by decide +kernel) rfl ?_
  refine R_scr (by decide +kernel) (hin 3 (by omega)) ?_
  refine mRunF.sg (mSl mkL 599 4) (g := (943, lLs j, [.int (nI j + 4), .retAddr 0, .int (xs (nI j + 3).toNatClampNeg), .int (xs (nI j + 2).toNatClampNeg), .int (xs (nI j + 1).toNatClampNeg), .ref 0], mSS M)) (by decide +kernel) rfl ?_
  refine R_scr (by decide +kernel) (hin 4 (by omega)) ?_
  refine R_callV (mi := 127) (na := 5) (ci := 11) (i := 0) (as := [.int (xs (nI j + 1).toNatClampNeg), .int (xs (nI j + 2).toNatClampNeg), .int (xs (nI j + 3).toNatClampNeg), .int (xs (nI j + 4).toNatClampNeg)]) (r := []) (rv := some (.int r)) (σ1 := mSS A) ⟨112, by decide +kernel⟩ rfl rfl rfl rfl (Md_knot_r 5000 (xs (nI j + 1).toNatClampNeg) (xs (nI j + 2).toNatClampNeg) (xs (nI j + 3).toNatClampNeg) (xs (nI j + 4).toNatClampNeg) M 5 h1) ?_
  show mRunF mCdL (lwE L xs M') (947, lLs j, [.int r], mSS A)
  refine mRunF.sg (mSl mkL 605 5) (g := (952, lLs j, [.int (nI j + 1), .retAddr 0, .ref 64, .int r], mSS A)) (by decide +kernel) rfl ?_
  refine R_scr (by decide +kernel) (hin 1 (by omega)) ?_
  refine mRunF.sg (mSl mkL 611 4) (g := (957, lLs j, [.int (nI j + 2), .retAddr 0, .int (xs (nI j + 1).toNatClampNeg), .ref 64, .int r], mSS A)) (by decide +kernel) rfl ?_
  refine R_scr (by decide +kernel) (hin 2 (by omega)) ?_
  refine mRunF.sg (mSl mkL 616 4) (g := (962, lLs j, [.int (nI j + 3), .retAddr 0, .int (xs (nI j + 2).toNatClampNeg), .int (xs (nI j + 1).toNatClampNeg), .ref 64, .int r], mSS A)) (by decide +kernel) rfl ?_
  refine R_scr (by decide +kernel) (hin 3 (by omega)) ?_
  refine mRunF.sg (mSl mkL 621 4) (g := (967, lLs j, [.int (nI j + 4), .retAddr 0, .int (xs (nI j + 3).toNatClampNeg), .int (xs (nI j + 2).toNatClampNeg), .int (xs (nI j + 1).toNatClampNeg), .ref 64, .int r], mSS A)) (by decide +kernel) rfl ?_
  refine R_scr (by decide +kernel) (hin 4 (by omega)) ?_
  refine R_callV (mi := 275) (na := 5) (ci := 12) (i := 64) (as := [.int (xs (nI j + 1).toNatClampNeg), .int (xs (nI j + 2).toNatClampNeg), .int (xs (nI j + 3).toNatClampNeg), .int (xs (nI j + 4).toNatClampNeg)]) (r := [.int r]) (rv := some (.int r)) (σ1 := mSS B) ⟨116, by decide +kernel⟩ rfl rfl rfl rfl (Mo_knot_r 5000 (xs (nI j + 1).toNatClampNeg) (xs (nI j + 2).toNatClampNeg) (xs (nI j + 3).toNatClampNeg) (xs (nI j + 4).toNatClampNeg) A 1 h2) ?_
  show mRunF mCdL (lwE L xs M') (971, lLs j, [.int r, .int r], mSS B)
  exact R_ieq (t := 1672) ⟨701, by decide +kernel⟩ (fun _ => go) (fun q3 => absurd rfl q3)
set_option maxRecDepth 100000 in
set_option maxHeartbeats 4000000 in
theorem lwc_24 {L j : Nat} {xs : Nat → Int32} {M : mS} (h : INV M) (hin : ∀ k, k ≤ 5 → mIn (nI j + nI k) L = true) : ∃ B, INV B ∧ ∀ M', mRunF mCdL (lwE L xs M') (1672, lLs j, [], mSS B) → mRunF mCdL (lwE L xs M') (976, lLs j, [], mSS M) := by
  obtain ⟨r, A, B, h1, h2, h3⟩ := call_mend (N := 5000) (by omega) h (xs (nI j + 1).toNatClampNeg) (xs (nI j + 2).toNatClampNeg) (xs (nI j + 3).toNatClampNeg)
  refine ⟨B, h3, fun M' go => ?_⟩
  refine mRunF.sg (mSl mkL 630 5) (g := (981, lLs j, [.int (nI j + 1), .retAddr 0, .ref 0], mSS M)) (by decide +kernel) rfl ?_
  refine R_scr (by decide +kernel) (hin 1 (by omega)) ?_
  refine mRunF.sg (mSl mkL 636 4) (g := (986, lLs j, [.int (nI j + 2), .retAddr 0, .int (xs (nI j + 1).toNatClampNeg), .ref 0], mSS M)) (by decide +kernel) rfl ?_
  refine R_scr (by decide +kernel) (hin 2 (by omega)) ?_
  refine mRunF.sg (mSl mkL 641 4) (g := (991, lLs j, [.int (nI j + 3), .retAddr 0, .int (xs (nI j + 2).toNatClampNeg), .int (xs (nI j + 1).toNatClampNeg), .ref 0], mSS M)) (by decide +kernel) rfl ?_
  refine R_scr (by decide +kernel) (hin 3 (by omega)) ?_
  refine R_callV (mi := 128) (na := 4) (ci := 11) (i := 0) (as := [.int (xs (nI j + 1).toNatClampNeg), .int (xs (nI j + 2).toNatClampNeg), .int (xs (nI j + 3).toNatClampNeg)]) (r := []) (rv := some (.int r)) (σ1 := mSS A) ⟨117, by decide +kernel⟩ rfl rfl rfl rfl (Md_mend_r 5000 (xs (nI j + 1).toNatClampNeg) (xs (nI j + 2).toNatClampNeg) (xs (nI j + 3).toNatClampNeg) M 5 h1) ?_
  show mRunF mCdL (lwE L xs M') (995, lLs j, [.int r], mSS A)
  refine mRunF.sg (mSl mkL 647 5) (g := (1000, lLs j, [.int (nI j + 1), .retAddr 0, .ref 64, .int r], mSS A)) (by decide +kernel) rfl ?_
  refine R_scr (by decide +kernel) (hin 1 (by omega)) ?_
  refine mRunF.sg (mSl mkL 653 4) (g := (1005, lLs j, [.int (nI j + 2), .retAddr 0, .int (xs (nI j + 1).toNatClampNeg), .ref 64, .int r], mSS A)) (by decide +kernel) rfl ?_
  refine R_scr (by decide +kernel) (hin 2 (by omega)) ?_
  refine mRunF.sg (mSl mkL 658 4) (g := (1010, lLs j, [.int (nI j + 3), .retAddr 0, .int (xs (nI j + 2).toNatClampNeg), .int (xs (nI j + 1).toNatClampNeg), .ref 64, .int r], mSS A)) (by decide +kernel) rfl ?_
  refine R_scr (by decide +kernel) (hin 3 (by omega)) ?_
  refine R_callV (mi := 276) (na := 4) (ci := 12) (i := 64) (as := [.int (xs (nI j + 1).toNatClampNeg), .int (xs (nI j + 2).toNatClampNeg), .int (xs (nI j + 3).toNatClampNeg)]) (r := [.int r]) (rv := some (.int r)) (σ1 := mSS B) ⟨120, by decide +kernel⟩ rfl rfl rfl rfl (Mo_mend_r 5000 (xs (nI j + 1).toNatClampNeg) (xs (nI j + 2).toNatClampNeg) (xs (nI j + 3).toNatClampNeg) A 1 h2) ?_
  show mRunF mCdL (lwE L xs M') (1014, lLs j, [.int r, .int r], mSS B)
  exact R_ieq (t := 1672) ⟨658, by decide +kernel⟩ (fun _ => go) (fun q3 => absurd rfl q3)
set_option maxRecDepth 100000 in
set_option maxHeartbeats 4000000 in
theorem lwc_25 {L j : Nat} {xs : Nat → Int32} {M : mS} (h : INV M) (hin : ∀ k, k ≤ 5 → mIn (nI j + nI k) L = true) : ∃ B, INV B ∧ ∀ M', mRunF mCdL (lwE L xs M') (1672, lLs j, [], mSS B) → mRunF mCdL (lwE L xs M') (1019, lLs j, [], mSS M) := by
  obtain ⟨r, A, B, h1, h2, h3⟩ := call_sooner (N := 5000) (by omega) h (xs (nI j + 1).toNatClampNeg)
  refine ⟨B, h3, fun M' go => ?_⟩
  refine mRunF.sg (mSl mkL 667 5) (g := (1024, lLs j, [.int (nI j + 1), .retAddr 0, .ref 0], mSS M)) (by decide +kernel) rfl ?_
  refine R_scr (by decide +kernel) (hin 1 (by omega)) ?_
  refine R_callV (mi := 129) (na := 2) (ci := 11) (i := 0) (as := [.int (xs (nI j + 1).toNatClampNeg)]) (r := []) (rv := some (.int r)) (σ1 := mSS A) ⟨121, by decide +kernel⟩ rfl rfl rfl rfl (Md_sooner_r 5000 (xs (nI j + 1).toNatClampNeg) M 7 h1) ?_
  show mRunF mCdL (lwE L xs M') (1028, lLs j, [.int r], mSS A)
  refine mRunF.sg (mSl mkL 674 5) (g := (1033, lLs j, [.int (nI j + 1), .retAddr 0, .ref 64, .int r], mSS A)) (by decide +kernel) rfl ?_
  refine R_scr (by decide +kernel) (hin 1 (by omega)) ?_
  refine R_callV (mi := 277) (na := 2) (ci := 12) (i := 64) (as := [.int (xs (nI j + 1).toNatClampNeg)]) (r := [.int r]) (rv := some (.int r)) (σ1 := mSS B) ⟨124, by decide +kernel⟩ rfl rfl rfl rfl (Mo_sooner_r 5000 (xs (nI j + 1).toNatClampNeg) A 2 h2) ?_
  show mRunF mCdL (lwE L xs M') (1037, lLs j, [.int r, .int r], mSS B)
  exact R_ieq (t := 1672) ⟨635, by decide +kernel⟩ (fun _ => go) (fun q3 => absurd rfl q3)
set_option maxRecDepth 100000 in
set_option maxHeartbeats 4000000 in
theorem lwc_26 {L j : Nat} {xs : Nat → Int32} {M : mS} (h : INV M) (hin : ∀ k, k ≤ 5 → mIn (nI j + nI k) L = true) : ∃ B, INV B ∧ ∀ M', mRunF mCdL (lwE L xs M') (1672, lLs j, [], mSS B) → mRunF mCdL (lwE L xs M') (1042, lLs j, [], mSS M) := by
  obtain ⟨r, A, B, h1, h2, h3⟩ := call_strangers (N := 5000) (by omega) h (xs (nI j + 1).toNatClampNeg)
  refine ⟨B, h3, fun M' go => ?_⟩
  refine mRunF.sg (mSl mkL 684 5) (g := (1047, lLs j, [.int (nI j + 1), .retAddr 0, .ref 0], mSS M)) (by decide +kernel) rfl ?_
  refine R_scr (by decide +kernel) (hin 1 (by omega)) ?_
  refine R_callV (mi := 130) (na := 2) (ci := 11) (i := 0) (as := [.int (xs (nI j + 1).toNatClampNeg)]) (r := []) (rv := some (.int r)) (σ1 := mSS A) ⟨125, by decide +kernel⟩ rfl rfl rfl rfl (Md_strangers_r 5000 (xs (nI j + 1).toNatClampNeg) M 7 h1) ?_
  show mRunF mCdL (lwE L xs M') (1051, lLs j, [.int r], mSS A)
  refine mRunF.sg (mSl mkL 691 5) (g := (1056, lLs j, [.int (nI j + 1), .retAddr 0, .ref 64, .int r], mSS A)) (by decide +kernel) rfl ?_
  refine R_scr (by decide +kernel) (hin 1 (by omega)) ?_
  refine R_callV (mi := 278) (na := 2) (ci := 12) (i := 64) (as := [.int (xs (nI j + 1).toNatClampNeg)]) (r := [.int r]) (rv := some (.int r)) (σ1 := mSS B) ⟨128, by decide +kernel⟩ rfl rfl rfl rfl (Mo_strangers_r 5000 (xs (nI j + 1).toNatClampNeg) A 2 h2) ?_
  show mRunF mCdL (lwE L xs M') (1060, lLs j, [.int r, .int r], mSS B)
  exact R_ieq (t := 1672) ⟨612, by decide +kernel⟩ (fun _ => go) (fun q3 => absurd rfl q3)
set_option maxRecDepth 100000 in
set_option maxHeartbeats 4000000 in
theorem lwc_27 {L j : Nat} {xs : Nat → Int32} {M : mS} (h : INV M) (hin : ∀ k, k ≤ 5 → mIn (nI j + nI k) L = true) : ∃ B, INV B ∧ ∀ M', mRunF mCdL (lwE L xs M') (1672, lLs j, [], mSS B) → mRunF mCdL (lwE L xs M') (1065, lLs j, [], mSS M) := by
  obtain ⟨r, A, B, h1, h2, h3⟩ := call_by (N := 5000) (by omega) h (xs (nI j + 1).toNatClampNeg) (xs (nI j + 2).toNatClampNeg) (xs (nI j + 3).toNatClampNeg) (xs (nI j + 4).toNatClampNeg)
  refine ⟨B, h3, fun M' go => ?_⟩
  refine mRunF.sg (mSl mkL 701 5) (g := (1070, lLs j, [.int (nI j + 1), .retAddr 0, .ref 0], mSS M)) (by decide +kernel) rfl ?_
  refine R_scr (by decide +kernel) (hin 1 (by omega)) ?_
  refine mRunF.sg (mSl mkL 707 4) (g := (1075, lLs j, [.int (nI j + 2), .retAddr 0, .int (xs (nI j + 1).toNatClampNeg), .ref 0], mSS M)) (by decide +kernel) rfl ?_
  refine R_scr (by decide +kernel) (hin 2 (by omega)) ?_
  refine mRunF.sg (mSl mkL 712 4) (g := (1080, lLs j, [.int (nI j + 3), .retAddr 0, .int (xs (nI j + 2).toNatClampNeg), .int (xs (nI j + 1).toNatClampNeg), .ref 0], mSS M)) (by decide +kernel) rfl ?_
  refine R_scr (by decide +kernel) (hin 3 (by omega)) ?_
  refine mRunF.sg (mSl mkL 717 4) (g := (1085, lLs j, [.int (nI j + 4), .retAddr 0, .int (xs (nI j + 3).toNatClampNeg), .int (xs (nI j + 2).toNatClampNeg), .int (xs (nI j + 1).toNatClampNeg), .ref 0], mSS M)) (by decide +kernel) rfl ?_
  refine R_scr (by decide +kernel) (hin 4 (by omega)) ?_
  refine R_callV (mi := 131) (na := 5) (ci := 11) (i := 0) (as := [.int (xs (nI j + 1).toNatClampNeg), .int (xs (nI j + 2).toNatClampNeg), .int (xs (nI j + 3).toNatClampNeg), .int (xs (nI j + 4).toNatClampNeg)]) (r := []) (rv := some (.int r)) (σ1 := mSS A) ⟨129, by decide +kernel⟩ rfl rfl rfl rfl (Md_by_r 5000 (xs (nI j + 1).toNatClampNeg) (xs (nI j + 2).toNatClampNeg) (xs (nI j + 3).toNatClampNeg) (xs (nI j + 4).toNatClampNeg) M 6 h1) ?_
  show mRunF mCdL (lwE L xs M') (1089, lLs j, [.int r], mSS A)
  refine mRunF.sg (mSl mkL 723 5) (g := (1094, lLs j, [.int (nI j + 1), .retAddr 0, .ref 64, .int r], mSS A)) (by decide +kernel) rfl ?_
  refine R_scr (by decide +kernel) (hin 1 (by omega)) ?_
  refine mRunF.sg (mSl mkL 729 4) (g := (1099, lLs j, [.int (nI j + 2), .retAddr 0, .int (xs (nI j + 1).toNatClampNeg), .ref 64, .int r], mSS A)) (by decide +kernel) rfl ?_
  refine R_scr (by decide +kernel) (hin 2 (by omega)) ?_
  refine mRunF.sg (mSl mkL 734 4) (g := (1104, lLs j, [.int (nI j + 3), .retAddr 0, .int (xs (nI j + 2).toNatClampNeg), .int (xs (nI j + 1).toNatClampNeg), .ref 64, .int r], mSS A)) (by decide +kernel) rfl ?_
  refine R_scr (by decide +kernel) (hin 3 (by omega)) ?_
  refine mRunF.sg (mSl mkL 739 4) (g := (1109, lLs j, [.int (nI j + 4), .retAddr 0, .int (xs (nI j + 3).toNatClampNeg), .int (xs (nI j + 2).toNatClampNeg), .int (xs (nI j + 1).toNatClampNeg), .ref 64, .int r], mSS A)) (by decide +kernel) rfl ?_
  refine R_scr (by decide +kernel) (hin 4 (by omega)) ?_
  refine R_callV (mi := 279) (na := 5) (ci := 12) (i := 64) (as := [.int (xs (nI j + 1).toNatClampNeg), .int (xs (nI j + 2).toNatClampNeg), .int (xs (nI j + 3).toNatClampNeg), .int (xs (nI j + 4).toNatClampNeg)]) (r := [.int r]) (rv := some (.int r)) (σ1 := mSS B) ⟨132, by decide +kernel⟩ rfl rfl rfl rfl (Mo_by_r 5000 (xs (nI j + 1).toNatClampNeg) (xs (nI j + 2).toNatClampNeg) (xs (nI j + 3).toNatClampNeg) (xs (nI j + 4).toNatClampNeg) A 3 h2) ?_
  show mRunF mCdL (lwE L xs M') (1113, lLs j, [.int r, .int r], mSS B)
  exact R_ieq (t := 1672) ⟨559, by decide +kernel⟩ (fun _ => go) (fun q3 => absurd rfl q3)
set_option maxRecDepth 100000 in
set_option maxHeartbeats 4000000 in
theorem lwc_28 {L j : Nat} {xs : Nat → Int32} {M : mS} (h : INV M) (hin : ∀ k, k ≤ 5 → mIn (nI j + nI k) L = true) : ∃ B, INV B ∧ ∀ M', mRunF mCdL (lwE L xs M') (1672, lLs j, [], mSS B) → mRunF mCdL (lwE L xs M') (1118, lLs j, [], mSS M) := by
  obtain ⟨r, A, B, h1, h2, h3⟩ := call_peace (N := 5000) (by omega) h (xs (nI j + 1).toNatClampNeg) (xs (nI j + 2).toNatClampNeg)
  refine ⟨B, h3, fun M' go => ?_⟩
  refine mRunF.sg (mSl mkL 748 5) (g := (1123, lLs j, [.int (nI j + 1), .retAddr 0, .ref 0], mSS M)) (by decide +kernel) rfl ?_
  refine R_scr (by decide +kernel) (hin 1 (by omega)) ?_
  refine mRunF.sg (mSl mkL 754 4) (g := (1128, lLs j, [.int (nI j + 2), .retAddr 0, .int (xs (nI j + 1).toNatClampNeg), .ref 0], mSS M)) (by decide +kernel) rfl ?_
  refine R_scr (by decide +kernel) (hin 2 (by omega)) ?_
  refine R_callV (mi := 132) (na := 3) (ci := 11) (i := 0) (as := [.int (xs (nI j + 1).toNatClampNeg), .int (xs (nI j + 2).toNatClampNeg)]) (r := []) (rv := some (.int r)) (σ1 := mSS A) ⟨133, by decide +kernel⟩ rfl rfl rfl rfl (Md_peace_r 5000 (xs (nI j + 1).toNatClampNeg) (xs (nI j + 2).toNatClampNeg) M 6 h1) ?_
  show mRunF mCdL (lwE L xs M') (1132, lLs j, [.int r], mSS A)
  refine mRunF.sg (mSl mkL 760 5) (g := (1137, lLs j, [.int (nI j + 1), .retAddr 0, .ref 64, .int r], mSS A)) (by decide +kernel) rfl ?_
  refine R_scr (by decide +kernel) (hin 1 (by omega)) ?_
  refine mRunF.sg (mSl mkL 766 4) (g := (1142, lLs j, [.int (nI j + 2), .retAddr 0, .int (xs (nI j + 1).toNatClampNeg), .ref 64, .int r], mSS A)) (by decide +kernel) rfl ?_
  refine R_scr (by decide +kernel) (hin 2 (by omega)) ?_
  refine R_callV (mi := 281) (na := 3) (ci := 12) (i := 64) (as := [.int (xs (nI j + 1).toNatClampNeg), .int (xs (nI j + 2).toNatClampNeg)]) (r := [.int r]) (rv := some (.int r)) (σ1 := mSS B) ⟨136, by decide +kernel⟩ rfl rfl rfl rfl (Mo_peace_r 5000 (xs (nI j + 1).toNatClampNeg) (xs (nI j + 2).toNatClampNeg) A 2 h2) ?_
  show mRunF mCdL (lwE L xs M') (1146, lLs j, [.int r, .int r], mSS B)
  exact R_ieq (t := 1672) ⟨526, by decide +kernel⟩ (fun _ => go) (fun q3 => absurd rfl q3)
set_option maxRecDepth 100000 in
set_option maxHeartbeats 4000000 in
theorem lwc_29 {L j : Nat} {xs : Nat → Int32} {M : mS} (h : INV M) (hin : ∀ k, k ≤ 5 → mIn (nI j + nI k) L = true) : ∃ B, INV B ∧ ∀ M', mRunF mCdL (lwE L xs M') (1672, lLs j, [], mSS B) → mRunF mCdL (lwE L xs M') (1151, lLs j, [], mSS M) := by
  obtain ⟨r, A, B, h1, h2, h3⟩ := call_favourite (N := 5000) (by omega) h (xs (nI j + 1).toNatClampNeg) (xs (nI j + 2).toNatClampNeg)
  refine ⟨B, h3, fun M' go => ?_⟩
  refine mRunF.sg (mSl mkL 775 5) (g := (1156, lLs j, [.int (nI j + 1), .retAddr 0, .ref 0], mSS M)) (by decide +kernel) rfl ?_
  refine R_scr (by decide +kernel) (hin 1 (by omega)) ?_
  refine mRunF.sg (mSl mkL 781 4) (g := (1161, lLs j, [.int (nI j + 2), .retAddr 0, .int (xs (nI j + 1).toNatClampNeg), .ref 0], mSS M)) (by decide +kernel) rfl ?_
  refine R_scr (by decide +kernel) (hin 2 (by omega)) ?_
  refine R_callV (mi := 133) (na := 3) (ci := 11) (i := 0) (as := [.int (xs (nI j + 1).toNatClampNeg), .int (xs (nI j + 2).toNatClampNeg)]) (r := []) (rv := some (.int r)) (σ1 := mSS A) ⟨137, by decide +kernel⟩ rfl rfl rfl rfl (Md_favourite_r 5000 (xs (nI j + 1).toNatClampNeg) (xs (nI j + 2).toNatClampNeg) M 7 h1) ?_
  show mRunF mCdL (lwE L xs M') (1165, lLs j, [.int r], mSS A)
  refine mRunF.sg (mSl mkL 787 5) (g := (1170, lLs j, [.int (nI j + 1), .retAddr 0, .ref 64, .int r], mSS A)) (by decide +kernel) rfl ?_
  refine R_scr (by decide +kernel) (hin 1 (by omega)) ?_
  refine mRunF.sg (mSl mkL 793 4) (g := (1175, lLs j, [.int (nI j + 2), .retAddr 0, .int (xs (nI j + 1).toNatClampNeg), .ref 64, .int r], mSS A)) (by decide +kernel) rfl ?_
  refine R_scr (by decide +kernel) (hin 2 (by omega)) ?_
  refine R_callV (mi := 283) (na := 3) (ci := 12) (i := 64) (as := [.int (xs (nI j + 1).toNatClampNeg), .int (xs (nI j + 2).toNatClampNeg)]) (r := [.int r]) (rv := some (.int r)) (σ1 := mSS B) ⟨140, by decide +kernel⟩ rfl rfl rfl rfl (Mo_favourite_r 5000 (xs (nI j + 1).toNatClampNeg) (xs (nI j + 2).toNatClampNeg) A 2 h2) ?_
  show mRunF mCdL (lwE L xs M') (1179, lLs j, [.int r, .int r], mSS B)
  exact R_ieq (t := 1672) ⟨493, by decide +kernel⟩ (fun _ => go) (fun q3 => absurd rfl q3)
set_option maxRecDepth 100000 in
set_option maxHeartbeats 4000000 in
theorem lwc_30 {L j : Nat} {xs : Nat → Int32} {M : mS} (h : INV M) (hin : ∀ k, k ≤ 5 → mIn (nI j + nI k) L = true) : ∃ B, INV B ∧ ∀ M', mRunF mCdL (lwE L xs M') (1672, lLs j, [], mSS B) → mRunF mCdL (lwE L xs M') (1184, lLs j, [], mSS M) := by
  obtain ⟨r, A, B, h1, h2, h3⟩ := call_longest (N := 5000) (by omega) h (xs (nI j + 1).toNatClampNeg) (xs (nI j + 2).toNatClampNeg) (xs (nI j + 3).toNatClampNeg)
  refine ⟨B, h3, fun M' go => ?_⟩
  refine mRunF.sg (mSl mkL 802 5) (g := (1189, lLs j, [.int (nI j + 1), .retAddr 0, .ref 0], mSS M)) (by decide +kernel) rfl ?_
  refine R_scr (by decide +kernel) (hin 1 (by omega)) ?_
  refine mRunF.sg (mSl mkL 808 4) (g := (1194, lLs j, [.int (nI j + 2), .retAddr 0, .int (xs (nI j + 1).toNatClampNeg), .ref 0], mSS M)) (by decide +kernel) rfl ?_
  refine R_scr (by decide +kernel) (hin 2 (by omega)) ?_
  refine mRunF.sg (mSl mkL 813 4) (g := (1199, lLs j, [.int (nI j + 3), .retAddr 0, .int (xs (nI j + 2).toNatClampNeg), .int (xs (nI j + 1).toNatClampNeg), .ref 0], mSS M)) (by decide +kernel) rfl ?_
  refine R_scr (by decide +kernel) (hin 3 (by omega)) ?_
  refine R_callV (mi := 134) (na := 4) (ci := 11) (i := 0) (as := [.int (xs (nI j + 1).toNatClampNeg), .int (xs (nI j + 2).toNatClampNeg), .int (xs (nI j + 3).toNatClampNeg)]) (r := []) (rv := some (.int r)) (σ1 := mSS A) ⟨141, by decide +kernel⟩ rfl rfl rfl rfl (Md_longest_r 5000 (xs (nI j + 1).toNatClampNeg) (xs (nI j + 2).toNatClampNeg) (xs (nI j + 3).toNatClampNeg) M 7 h1) ?_
  show mRunF mCdL (lwE L xs M') (1203, lLs j, [.int r], mSS A)
  refine mRunF.sg (mSl mkL 819 5) (g := (1208, lLs j, [.int (nI j + 1), .retAddr 0, .ref 64, .int r], mSS A)) (by decide +kernel) rfl ?_
  refine R_scr (by decide +kernel) (hin 1 (by omega)) ?_
  refine mRunF.sg (mSl mkL 825 4) (g := (1213, lLs j, [.int (nI j + 2), .retAddr 0, .int (xs (nI j + 1).toNatClampNeg), .ref 64, .int r], mSS A)) (by decide +kernel) rfl ?_
  refine R_scr (by decide +kernel) (hin 2 (by omega)) ?_
  refine mRunF.sg (mSl mkL 830 4) (g := (1218, lLs j, [.int (nI j + 3), .retAddr 0, .int (xs (nI j + 2).toNatClampNeg), .int (xs (nI j + 1).toNatClampNeg), .ref 64, .int r], mSS A)) (by decide +kernel) rfl ?_
  refine R_scr (by decide +kernel) (hin 3 (by omega)) ?_
  refine R_callV (mi := 266) (na := 4) (ci := 12) (i := 64) (as := [.int (xs (nI j + 1).toNatClampNeg), .int (xs (nI j + 2).toNatClampNeg), .int (xs (nI j + 3).toNatClampNeg)]) (r := [.int r]) (rv := some (.int r)) (σ1 := mSS B) ⟨144, by decide +kernel⟩ rfl rfl rfl rfl (Mo_longest_r 5000 (xs (nI j + 1).toNatClampNeg) (xs (nI j + 2).toNatClampNeg) (xs (nI j + 3).toNatClampNeg) A 2 h2) ?_
  show mRunF mCdL (lwE L xs M') (1222, lLs j, [.int r, .int r], mSS B)
  exact R_ieq (t := 1672) ⟨450, by decide +kernel⟩ (fun _ => go) (fun q3 => absurd rfl q3)
set_option maxRecDepth 100000 in
set_option maxHeartbeats 4000000 in
theorem lwc_31 {L j : Nat} {xs : Nat → Int32} {M : mS} (h : INV M) (hin : ∀ k, k ≤ 5 → mIn (nI j + nI k) L = true) : ∃ B, INV B ∧ ∀ M', mRunF mCdL (lwE L xs M') (1672, lLs j, [], mSS B) → mRunF mCdL (lwE L xs M') (1227, lLs j, [], mSS M) := by
  obtain ⟨r, A, B, h1, h2, h3⟩ := call_couples (N := 5000) (by omega) h (xs (nI j + 1).toNatClampNeg) (xs (nI j + 2).toNatClampNeg)
  refine ⟨B, h3, fun M' go => ?_⟩
  refine mRunF.sg (mSl mkL 839 5) (g := (1232, lLs j, [.int (nI j + 1), .retAddr 0, .ref 0], mSS M)) (by decide +kernel) rfl ?_
  refine R_scr (by decide +kernel) (hin 1 (by omega)) ?_
  refine mRunF.sg (mSl mkL 845 4) (g := (1237, lLs j, [.int (nI j + 2), .retAddr 0, .int (xs (nI j + 1).toNatClampNeg), .ref 0], mSS M)) (by decide +kernel) rfl ?_
  refine R_scr (by decide +kernel) (hin 2 (by omega)) ?_
  refine R_callV (mi := 135) (na := 3) (ci := 11) (i := 0) (as := [.int (xs (nI j + 1).toNatClampNeg), .int (xs (nI j + 2).toNatClampNeg)]) (r := []) (rv := some (.int r)) (σ1 := mSS A) ⟨145, by decide +kernel⟩ rfl rfl rfl rfl (Md_couples_r 5000 (xs (nI j + 1).toNatClampNeg) (xs (nI j + 2).toNatClampNeg) M 5 h1) ?_
  show mRunF mCdL (lwE L xs M') (1241, lLs j, [.int r], mSS A)
  refine mRunF.sg (mSl mkL 851 5) (g := (1246, lLs j, [.int (nI j + 1), .retAddr 0, .ref 64, .int r], mSS A)) (by decide +kernel) rfl ?_
  refine R_scr (by decide +kernel) (hin 1 (by omega)) ?_
  refine mRunF.sg (mSl mkL 857 4) (g := (1251, lLs j, [.int (nI j + 2), .retAddr 0, .int (xs (nI j + 1).toNatClampNeg), .ref 64, .int r], mSS A)) (by decide +kernel) rfl ?_
  refine R_scr (by decide +kernel) (hin 2 (by omega)) ?_
  refine R_callV (mi := 288) (na := 3) (ci := 12) (i := 64) (as := [.int (xs (nI j + 1).toNatClampNeg), .int (xs (nI j + 2).toNatClampNeg)]) (r := [.int r]) (rv := some (.int r)) (σ1 := mSS B) ⟨148, by decide +kernel⟩ rfl rfl rfl rfl (Mo_couples_r 5000 (xs (nI j + 1).toNatClampNeg) (xs (nI j + 2).toNatClampNeg) A 1 h2) ?_
  show mRunF mCdL (lwE L xs M') (1255, lLs j, [.int r, .int r], mSS B)
  exact R_ieq (t := 1672) ⟨417, by decide +kernel⟩ (fun _ => go) (fun q3 => absurd rfl q3)
set_option maxRecDepth 100000 in
set_option maxHeartbeats 4000000 in
theorem lwc_32 {L j : Nat} {xs : Nat → Int32} {M : mS} (h : INV M) (hin : ∀ k, k ≤ 5 → mIn (nI j + nI k) L = true) : ∃ B, INV B ∧ ∀ M', mRunF mCdL (lwE L xs M') (1672, lLs j, [], mSS B) → mRunF mCdL (lwE L xs M') (1260, lLs j, [], mSS M) := by
  obtain ⟨r, A, B, h1, h2, h3⟩ := call_fullest (N := 5000) (by omega) h (xs (nI j + 1).toNatClampNeg)
  refine ⟨B, h3, fun M' go => ?_⟩
  refine mRunF.sg (mSl mkL 866 5) (g := (1265, lLs j, [.int (nI j + 1), .retAddr 0, .ref 0], mSS M)) (by decide +kernel) rfl ?_
  refine R_scr (by decide +kernel) (hin 1 (by omega)) ?_
  refine R_callV (mi := 136) (na := 2) (ci := 11) (i := 0) (as := [.int (xs (nI j + 1).toNatClampNeg)]) (r := []) (rv := some (.int r)) (σ1 := mSS A) ⟨149, by decide +kernel⟩ rfl rfl rfl rfl (Md_fullest_r 5000 (xs (nI j + 1).toNatClampNeg) M 7 h1) ?_
  show mRunF mCdL (lwE L xs M') (1269, lLs j, [.int r], mSS A)
  refine mRunF.sg (mSl mkL 873 5) (g := (1274, lLs j, [.int (nI j + 1), .retAddr 0, .ref 64, .int r], mSS A)) (by decide +kernel) rfl ?_
  refine R_scr (by decide +kernel) (hin 1 (by omega)) ?_
  refine R_callV (mi := 284) (na := 2) (ci := 12) (i := 64) (as := [.int (xs (nI j + 1).toNatClampNeg)]) (r := [.int r]) (rv := some (.int r)) (σ1 := mSS B) ⟨152, by decide +kernel⟩ rfl rfl rfl rfl (Mo_fullest_r 5000 (xs (nI j + 1).toNatClampNeg) A 5 h2) ?_
  show mRunF mCdL (lwE L xs M') (1278, lLs j, [.int r, .int r], mSS B)
  exact R_ieq (t := 1672) ⟨394, by decide +kernel⟩ (fun _ => go) (fun q3 => absurd rfl q3)
