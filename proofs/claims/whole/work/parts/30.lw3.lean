/-! THE LAW'S CASES, 33: printed by program -/
set_option maxRecDepth 100000 in
set_option maxHeartbeats 4000000 in
theorem lwc_33 {L j : Nat} {xs : Nat → Int32} {M : mS} (h : INV M) (hin : ∀ k, k ≤ 5 → mIn (nI j + nI k) L = true) : ∃ B, INV B ∧ ∀ M', mRunF mCdL (lwE L xs M') (1672, lLs j, [], mSS B) → mRunF mCdL (lwE L xs M') (1283, lLs j, [], mSS M) := by
  obtain ⟨r, A, B, h1, h2, h3⟩ := call_game (N := 5000) (by omega) h (xs (nI j + 1).toNatClampNeg) (xs (nI j + 2).toNatClampNeg) (xs (nI j + 3).toNatClampNeg)
  refine ⟨B, h3, fun M' go => ?_⟩
  refine mRunF.sg (mSl mkL 883 5) (g := (1288, lLs j, [.int (nI j + 1), .retAddr 0, .ref 0], mSS M)) (by decide +kernel) rfl ?_
  refine R_scr (by decide +kernel) (hin 1 (by omega)) ?_
  refine mRunF.sg (mSl mkL 889 4) (g := (1293, lLs j, [.int (nI j + 2), .retAddr 0, .int (xs (nI j + 1).toNatClampNeg), .ref 0], mSS M)) (by decide +kernel) rfl ?_
  refine R_scr (by decide +kernel) (hin 2 (by omega)) ?_
  refine mRunF.sg (mSl mkL 894 4) (g := (1298, lLs j, [.int (nI j + 3), .retAddr 0, .int (xs (nI j + 2).toNatClampNeg), .int (xs (nI j + 1).toNatClampNeg), .ref 0], mSS M)) (by decide +kernel) rfl ?_
  refine R_scr (by decide +kernel) (hin 3 (by omega)) ?_
  refine R_callV (mi := 137) (na := 4) (ci := 11) (i := 0) (as := [.int (xs (nI j + 1).toNatClampNeg), .int (xs (nI j + 2).toNatClampNeg), .int (xs (nI j + 3).toNatClampNeg)]) (r := []) (rv := some (.int r)) (σ1 := mSS A) ⟨153, by decide +kernel⟩ rfl rfl rfl rfl (Md_game_r 5000 (xs (nI j + 1).toNatClampNeg) (xs (nI j + 2).toNatClampNeg) (xs (nI j + 3).toNatClampNeg) M 0 h1) ?_
  show mRunF mCdL (lwE L xs M') (1302, lLs j, [.int r], mSS A)
  refine mRunF.sg (mSl mkL 900 5) (g := (1307, lLs j, [.int (nI j + 1), .retAddr 0, .ref 64, .int r], mSS A)) (by decide +kernel) rfl ?_
  refine R_scr (by decide +kernel) (hin 1 (by omega)) ?_
  refine mRunF.sg (mSl mkL 906 4) (g := (1312, lLs j, [.int (nI j + 2), .retAddr 0, .int (xs (nI j + 1).toNatClampNeg), .ref 64, .int r], mSS A)) (by decide +kernel) rfl ?_
  refine R_scr (by decide +kernel) (hin 2 (by omega)) ?_
  refine mRunF.sg (mSl mkL 911 4) (g := (1317, lLs j, [.int (nI j + 3), .retAddr 0, .int (xs (nI j + 2).toNatClampNeg), .int (xs (nI j + 1).toNatClampNeg), .ref 64, .int r], mSS A)) (by decide +kernel) rfl ?_
  refine R_scr (by decide +kernel) (hin 3 (by omega)) ?_
  refine R_callV (mi := 295) (na := 4) (ci := 12) (i := 64) (as := [.int (xs (nI j + 1).toNatClampNeg), .int (xs (nI j + 2).toNatClampNeg), .int (xs (nI j + 3).toNatClampNeg)]) (r := [.int r]) (rv := some (.int r)) (σ1 := mSS B) ⟨156, by decide +kernel⟩ rfl rfl rfl rfl (Mo_game_r 5000 (xs (nI j + 1).toNatClampNeg) (xs (nI j + 2).toNatClampNeg) (xs (nI j + 3).toNatClampNeg) A 1 h2) ?_
  show mRunF mCdL (lwE L xs M') (1321, lLs j, [.int r, .int r], mSS B)
  exact R_ieq (t := 1672) ⟨351, by decide +kernel⟩ (fun _ => go) (fun q3 => absurd rfl q3)
set_option maxRecDepth 100000 in
set_option maxHeartbeats 4000000 in
theorem lwc_34 {L j : Nat} {xs : Nat → Int32} {M : mS} (h : INV M) (hin : ∀ k, k ≤ 5 → mIn (nI j + nI k) L = true) : ∃ B, INV B ∧ ∀ M', mRunF mCdL (lwE L xs M') (1672, lLs j, [], mSS B) → mRunF mCdL (lwE L xs M') (1326, lLs j, [], mSS M) := by
  obtain ⟨r, A, B, h1, h2, h3⟩ := call_metIn (N := 5000) (by omega) h (xs (nI j + 1).toNatClampNeg) (xs (nI j + 2).toNatClampNeg)
  refine ⟨B, h3, fun M' go => ?_⟩
  refine mRunF.sg (mSl mkL 920 5) (g := (1331, lLs j, [.int (nI j + 1), .retAddr 0, .ref 0], mSS M)) (by decide +kernel) rfl ?_
  refine R_scr (by decide +kernel) (hin 1 (by omega)) ?_
  refine mRunF.sg (mSl mkL 926 4) (g := (1336, lLs j, [.int (nI j + 2), .retAddr 0, .int (xs (nI j + 1).toNatClampNeg), .ref 0], mSS M)) (by decide +kernel) rfl ?_
  refine R_scr (by decide +kernel) (hin 2 (by omega)) ?_
  refine R_callV (mi := 138) (na := 3) (ci := 11) (i := 0) (as := [.int (xs (nI j + 1).toNatClampNeg), .int (xs (nI j + 2).toNatClampNeg)]) (r := []) (rv := some (.int r)) (σ1 := mSS A) ⟨157, by decide +kernel⟩ rfl rfl rfl rfl (Md_metIn_r 5000 (xs (nI j + 1).toNatClampNeg) (xs (nI j + 2).toNatClampNeg) M 7 h1) ?_
  show mRunF mCdL (lwE L xs M') (1340, lLs j, [.int r], mSS A)
  refine mRunF.sg (mSl mkL 932 5) (g := (1345, lLs j, [.int (nI j + 1), .retAddr 0, .ref 64, .int r], mSS A)) (by decide +kernel) rfl ?_
  refine R_scr (by decide +kernel) (hin 1 (by omega)) ?_
  refine mRunF.sg (mSl mkL 938 4) (g := (1350, lLs j, [.int (nI j + 2), .retAddr 0, .int (xs (nI j + 1).toNatClampNeg), .ref 64, .int r], mSS A)) (by decide +kernel) rfl ?_
  refine R_scr (by decide +kernel) (hin 2 (by omega)) ?_
  refine R_callV (mi := 296) (na := 3) (ci := 12) (i := 64) (as := [.int (xs (nI j + 1).toNatClampNeg), .int (xs (nI j + 2).toNatClampNeg)]) (r := [.int r]) (rv := some (.int r)) (σ1 := mSS B) ⟨160, by decide +kernel⟩ rfl rfl rfl rfl (Mo_metIn_r 5000 (xs (nI j + 1).toNatClampNeg) (xs (nI j + 2).toNatClampNeg) A 3 h2) ?_
  show mRunF mCdL (lwE L xs M') (1354, lLs j, [.int r, .int r], mSS B)
  exact R_ieq (t := 1672) ⟨318, by decide +kernel⟩ (fun _ => go) (fun q3 => absurd rfl q3)
set_option maxRecDepth 100000 in
set_option maxHeartbeats 4000000 in
theorem lwc_35 {L j : Nat} {xs : Nat → Int32} {M : mS} (h : INV M) (hin : ∀ k, k ≤ 5 → mIn (nI j + nI k) L = true) : ∃ B, INV B ∧ ∀ M', mRunF mCdL (lwE L xs M') (1672, lLs j, [], mSS B) → mRunF mCdL (lwE L xs M') (1359, lLs j, [], mSS M) := by
  obtain ⟨r, B, h1, h2, h3⟩ := call_outIn (N := 5000) (by omega) h (xs (nI j + 1).toNatClampNeg) (xs (nI j + 2).toNatClampNeg)
  refine ⟨B, h3, fun M' go => ?_⟩
  refine mRunF.sg (mSl mkL 947 5) (g := (1364, lLs j, [.int (nI j + 1), .retAddr 0, .ref 0], mSS M)) (by decide +kernel) rfl ?_
  refine R_scr (by decide +kernel) (hin 1 (by omega)) ?_
  refine mRunF.sg (mSl mkL 953 4) (g := (1369, lLs j, [.int (nI j + 2), .retAddr 0, .int (xs (nI j + 1).toNatClampNeg), .ref 0], mSS M)) (by decide +kernel) rfl ?_
  refine R_scr (by decide +kernel) (hin 2 (by omega)) ?_
  refine R_callV (mi := 139) (na := 3) (ci := 11) (i := 0) (as := [.int (xs (nI j + 1).toNatClampNeg), .int (xs (nI j + 2).toNatClampNeg)]) (r := []) (rv := some (.int r)) (σ1 := mSS M) ⟨161, by decide +kernel⟩ rfl rfl rfl rfl (Md_outIn_r 5000 (xs (nI j + 1).toNatClampNeg) (xs (nI j + 2).toNatClampNeg) M 10 h1) ?_
  show mRunF mCdL (lwE L xs M') (1373, lLs j, [.int r], mSS M)
  refine mRunF.sg (mSl mkL 959 5) (g := (1378, lLs j, [.int (nI j + 1), .retAddr 0, .ref 64, .int r], mSS M)) (by decide +kernel) rfl ?_
  refine R_scr (by decide +kernel) (hin 1 (by omega)) ?_
  refine mRunF.sg (mSl mkL 965 4) (g := (1383, lLs j, [.int (nI j + 2), .retAddr 0, .int (xs (nI j + 1).toNatClampNeg), .ref 64, .int r], mSS M)) (by decide +kernel) rfl ?_
  refine R_scr (by decide +kernel) (hin 2 (by omega)) ?_
  refine R_callV (mi := 297) (na := 3) (ci := 12) (i := 64) (as := [.int (xs (nI j + 1).toNatClampNeg), .int (xs (nI j + 2).toNatClampNeg)]) (r := [.int r]) (rv := some (.int r)) (σ1 := mSS B) ⟨164, by decide +kernel⟩ rfl rfl rfl rfl (Mo_outIn_r 5000 (xs (nI j + 1).toNatClampNeg) (xs (nI j + 2).toNatClampNeg) M 3 h2) ?_
  show mRunF mCdL (lwE L xs M') (1387, lLs j, [.int r, .int r], mSS B)
  exact R_ieq (t := 1672) ⟨285, by decide +kernel⟩ (fun _ => go) (fun q3 => absurd rfl q3)
set_option maxRecDepth 100000 in
set_option maxHeartbeats 4000000 in
theorem lwc_36 {L j : Nat} {xs : Nat → Int32} {M : mS} (h : INV M) (hin : ∀ k, k ≤ 5 → mIn (nI j + nI k) L = true) : ∃ B, INV B ∧ ∀ M', mRunF mCdL (lwE L xs M') (1672, lLs j, [], mSS B) → mRunF mCdL (lwE L xs M') (1392, lLs j, [], mSS M) := by
  obtain ⟨r, A, B, h1, h2, h3⟩ := call_year (N := 5000) (by omega) h (xs (nI j + 1).toNatClampNeg) (xs (nI j + 2).toNatClampNeg) (xs (nI j + 3).toNatClampNeg) (xs (nI j + 4).toNatClampNeg)
  refine ⟨B, h3, fun M' go => ?_⟩
  refine mRunF.sg (mSl mkL 974 5) (g := (1397, lLs j, [.int (nI j + 1), .retAddr 0, .ref 0], mSS M)) (by decide +kernel) rfl ?_
  refine R_scr (by decide +kernel) (hin 1 (by omega)) ?_
  refine mRunF.sg (mSl mkL 980 4) (g := (1402, lLs j, [.int (nI j + 2), .retAddr 0, .int (xs (nI j + 1).toNatClampNeg), .ref 0], mSS M)) (by decide +kernel) rfl ?_
  refine R_scr (by decide +kernel) (hin 2 (by omega)) ?_
  refine mRunF.sg (mSl mkL 985 4) (g := (1407, lLs j, [.int (nI j + 3), .retAddr 0, .int (xs (nI j + 2).toNatClampNeg), .int (xs (nI j + 1).toNatClampNeg), .ref 0], mSS M)) (by decide +kernel) rfl ?_
  refine R_scr (by decide +kernel) (hin 3 (by omega)) ?_
  refine mRunF.sg (mSl mkL 990 4) (g := (1412, lLs j, [.int (nI j + 4), .retAddr 0, .int (xs (nI j + 3).toNatClampNeg), .int (xs (nI j + 2).toNatClampNeg), .int (xs (nI j + 1).toNatClampNeg), .ref 0], mSS M)) (by decide +kernel) rfl ?_
  refine R_scr (by decide +kernel) (hin 4 (by omega)) ?_
  refine R_callV (mi := 140) (na := 5) (ci := 11) (i := 0) (as := [.int (xs (nI j + 1).toNatClampNeg), .int (xs (nI j + 2).toNatClampNeg), .int (xs (nI j + 3).toNatClampNeg), .int (xs (nI j + 4).toNatClampNeg)]) (r := []) (rv := some (.int r)) (σ1 := mSS A) ⟨165, by decide +kernel⟩ rfl rfl rfl rfl (Md_year_r 5000 (xs (nI j + 1).toNatClampNeg) (xs (nI j + 2).toNatClampNeg) (xs (nI j + 3).toNatClampNeg) (xs (nI j + 4).toNatClampNeg) M 7 h1) ?_
  show mRunF mCdL (lwE L xs M') (1416, lLs j, [.int r], mSS A)
  refine mRunF.sg (mSl mkL 996 5) (g := (1421, lLs j, [.int (nI j + 1), .retAddr 0, .ref 64, .int r], mSS A)) (by decide +kernel) rfl ?_
  refine R_scr (by decide +kernel) (hin 1 (by omega)) ?_
  refine mRunF.sg (mSl mkL 1002 4) (g := (1426, lLs j, [.int (nI j + 2), .retAddr 0, .int (xs (nI j + 1).toNatClampNeg), .ref 64, .int r], mSS A)) (by decide +kernel) rfl ?_
  refine R_scr (by decide +kernel) (hin 2 (by omega)) ?_
  refine mRunF.sg (mSl mkL 1007 4) (g := (1431, lLs j, [.int (nI j + 3), .retAddr 0, .int (xs (nI j + 2).toNatClampNeg), .int (xs (nI j + 1).toNatClampNeg), .ref 64, .int r], mSS A)) (by decide +kernel) rfl ?_
  refine R_scr (by decide +kernel) (hin 3 (by omega)) ?_
  refine mRunF.sg (mSl mkL 1012 4) (g := (1436, lLs j, [.int (nI j + 4), .retAddr 0, .int (xs (nI j + 3).toNatClampNeg), .int (xs (nI j + 2).toNatClampNeg), .int (xs (nI j + 1).toNatClampNeg), .ref 64, .int r], mSS A)) (by decide +kernel) rfl ?_
  refine R_scr (by decide +kernel) (hin 4 (by omega)) ?_
  refine R_callV (mi := 298) (na := 5) (ci := 12) (i := 64) (as := [.int (xs (nI j + 1).toNatClampNeg), .int (xs (nI j + 2).toNatClampNeg), .int (xs (nI j + 3).toNatClampNeg), .int (xs (nI j + 4).toNatClampNeg)]) (r := [.int r]) (rv := some (.int r)) (σ1 := mSS B) ⟨168, by decide +kernel⟩ rfl rfl rfl rfl (Mo_year_r 5000 (xs (nI j + 1).toNatClampNeg) (xs (nI j + 2).toNatClampNeg) (xs (nI j + 3).toNatClampNeg) (xs (nI j + 4).toNatClampNeg) A 3 h2) ?_
  show mRunF mCdL (lwE L xs M') (1440, lLs j, [.int r, .int r], mSS B)
  exact R_ieq (t := 1672) ⟨232, by decide +kernel⟩ (fun _ => go) (fun q3 => absurd rfl q3)
set_option maxRecDepth 100000 in
set_option maxHeartbeats 4000000 in
theorem lwc_37 {L j : Nat} {xs : Nat → Int32} {M : mS} (h : INV M) (hin : ∀ k, k ≤ 5 → mIn (nI j + nI k) L = true) : ∃ B, INV B ∧ ∀ M', mRunF mCdL (lwE L xs M') (1672, lLs j, [], mSS B) → mRunF mCdL (lwE L xs M') (1445, lLs j, [], mSS M) := by
  rcases Classical.em ((xs (nI j + 3).toNatClampNeg) = 0) with q | q
  · obtain ⟨r, A, B, h1, h2, h3⟩ := call_tell (N := 5000) h (xs (nI j + 1).toNatClampNeg) (xs (nI j + 2).toNatClampNeg) false
    refine ⟨B, h3, fun M' go => ?_⟩
    have h1 : Md_tell 5000 (xs (nI j + 1).toNatClampNeg) (xs (nI j + 2).toNatClampNeg) 0 M = some (r, A) := h1
    have h2 : Mo_tell 5000 (xs (nI j + 1).toNatClampNeg) (xs (nI j + 2).toNatClampNeg) 0 A = some (r, B) := h2
    refine mRunF.sg (mSl mkL 1021 5) (g := (1450, lLs j, [.int (nI j + 1), .retAddr 0, .ref 0], mSS M)) (by decide +kernel) rfl ?_
    refine R_scr (by decide +kernel) (hin 1 (by omega)) ?_
    refine mRunF.sg (mSl mkL 1027 4) (g := (1455, lLs j, [.int (nI j + 2), .retAddr 0, .int (xs (nI j + 1).toNatClampNeg), .ref 0], mSS M)) (by decide +kernel) rfl ?_
    refine R_scr (by decide +kernel) (hin 2 (by omega)) ?_
    refine mRunF.sg (mSl mkL 1032 4) (g := (1460, lLs j, [.int (nI j + 3), .retAddr 0, .int (xs (nI j + 2).toNatClampNeg), .int (xs (nI j + 1).toNatClampNeg), .ref 0], mSS M)) (by decide +kernel) rfl ?_
    refine R_scr (by decide +kernel) (hin 3 (by omega)) ?_
    refine R_eq (t := 1468) ⟨7, by decide +kernel⟩ (fun _ => ?_) (fun q2 => absurd q q2)
    refine mRunF.sg (mSl mkL 1040 1) (g := (1469, lLs j, [.int 0, .int (xs (nI j + 2).toNatClampNeg), .int (xs (nI j + 1).toNatClampNeg), .ref 0], mSS M)) (by decide +kernel) rfl ?_
    refine R_callV (mi := 141) (na := 4) (ci := 11) (i := 0) (as := [.int (xs (nI j + 1).toNatClampNeg), .int (xs (nI j + 2).toNatClampNeg), .int 0]) (r := []) (rv := some (.int r)) (σ1 := mSS A) ⟨169, by decide +kernel⟩ rfl rfl rfl rfl (Md_tell_r 5000 (xs (nI j + 1).toNatClampNeg) (xs (nI j + 2).toNatClampNeg) 0 M 11 h1) ?_
    show mRunF mCdL (lwE L xs M') (1472, lLs j, [.int r], mSS A)
    refine mRunF.sg (mSl mkL 1042 5) (g := (1477, lLs j, [.int (nI j + 1), .retAddr 0, .ref 64, .int r], mSS A)) (by decide +kernel) rfl ?_
    refine R_scr (by decide +kernel) (hin 1 (by omega)) ?_
    refine mRunF.sg (mSl mkL 1048 4) (g := (1482, lLs j, [.int (nI j + 2), .retAddr 0, .int (xs (nI j + 1).toNatClampNeg), .ref 64, .int r], mSS A)) (by decide +kernel) rfl ?_
    refine R_scr (by decide +kernel) (hin 2 (by omega)) ?_
    refine mRunF.sg (mSl mkL 1053 4) (g := (1487, lLs j, [.int (nI j + 3), .retAddr 0, .int (xs (nI j + 2).toNatClampNeg), .int (xs (nI j + 1).toNatClampNeg), .ref 64, .int r], mSS A)) (by decide +kernel) rfl ?_
    refine R_scr (by decide +kernel) (hin 3 (by omega)) ?_
    refine R_eq (t := 1495) ⟨7, by decide +kernel⟩ (fun _ => ?_) (fun q2 => absurd q q2)
    refine mRunF.sg (mSl mkL 1061 1) (g := (1496, lLs j, [.int 0, .int (xs (nI j + 2).toNatClampNeg), .int (xs (nI j + 1).toNatClampNeg), .ref 64, .int r], mSS A)) (by decide +kernel) rfl ?_
    refine R_callV (mi := 299) (na := 4) (ci := 12) (i := 64) (as := [.int (xs (nI j + 1).toNatClampNeg), .int (xs (nI j + 2).toNatClampNeg), .int 0]) (r := [.int r]) (rv := some (.int r)) (σ1 := mSS B) ⟨173, by decide +kernel⟩ rfl rfl rfl rfl (Mo_tell_r 5000 (xs (nI j + 1).toNatClampNeg) (xs (nI j + 2).toNatClampNeg) 0 A 10 h2) ?_
    show mRunF mCdL (lwE L xs M') (1499, lLs j, [.int r, .int r], mSS B)
    exact R_ieq (t := 1672) ⟨173, by decide +kernel⟩ (fun _ => go) (fun q3 => absurd rfl q3)
  · obtain ⟨r, A, B, h1, h2, h3⟩ := call_tell (N := 5000) h (xs (nI j + 1).toNatClampNeg) (xs (nI j + 2).toNatClampNeg) true
    refine ⟨B, h3, fun M' go => ?_⟩
    have h1 : Md_tell 5000 (xs (nI j + 1).toNatClampNeg) (xs (nI j + 2).toNatClampNeg) 1 M = some (r, A) := h1
    have h2 : Mo_tell 5000 (xs (nI j + 1).toNatClampNeg) (xs (nI j + 2).toNatClampNeg) 1 A = some (r, B) := h2
    refine mRunF.sg (mSl mkL 1021 5) (g := (1450, lLs j, [.int (nI j + 1), .retAddr 0, .ref 0], mSS M)) (by decide +kernel) rfl ?_
    refine R_scr (by decide +kernel) (hin 1 (by omega)) ?_
    refine mRunF.sg (mSl mkL 1027 4) (g := (1455, lLs j, [.int (nI j + 2), .retAddr 0, .int (xs (nI j + 1).toNatClampNeg), .ref 0], mSS M)) (by decide +kernel) rfl ?_
    refine R_scr (by decide +kernel) (hin 2 (by omega)) ?_
    refine mRunF.sg (mSl mkL 1032 4) (g := (1460, lLs j, [.int (nI j + 3), .retAddr 0, .int (xs (nI j + 2).toNatClampNeg), .int (xs (nI j + 1).toNatClampNeg), .ref 0], mSS M)) (by decide +kernel) rfl ?_
    refine R_scr (by decide +kernel) (hin 3 (by omega)) ?_
    refine R_eq (t := 1468) ⟨7, by decide +kernel⟩ (fun q2 => absurd q2 q) (fun _ => ?_)
    refine mRunF.sg (mSl mkL 1038 1) (g := (1465, lLs j, [.int 1, .int (xs (nI j + 2).toNatClampNeg), .int (xs (nI j + 1).toNatClampNeg), .ref 0], mSS M)) (by decide +kernel) rfl ?_
    refine mRunF.one (o := (.goto 4, .null, [1469])) (show mCdL 1465 = some (.goto 4, .null, [1469]) by decide +kernel) ?_
    show mRunF mCdL (lwE L xs M') (1469, lLs j, [.int 1, .int (xs (nI j + 2).toNatClampNeg), .int (xs (nI j + 1).toNatClampNeg), .ref 0], mSS M)
    refine R_callV (mi := 141) (na := 4) (ci := 11) (i := 0) (as := [.int (xs (nI j + 1).toNatClampNeg), .int (xs (nI j + 2).toNatClampNeg), .int 1]) (r := []) (rv := some (.int r)) (σ1 := mSS A) ⟨169, by decide +kernel⟩ rfl rfl rfl rfl (Md_tell_r 5000 (xs (nI j + 1).toNatClampNeg) (xs (nI j + 2).toNatClampNeg) 1 M 11 h1) ?_
    show mRunF mCdL (lwE L xs M') (1472, lLs j, [.int r], mSS A)
    refine mRunF.sg (mSl mkL 1042 5) (g := (1477, lLs j, [.int (nI j + 1), .retAddr 0, .ref 64, .int r], mSS A)) (by decide +kernel) rfl ?_
    refine R_scr (by decide +kernel) (hin 1 (by omega)) ?_
    refine mRunF.sg (mSl mkL 1048 4) (g := (1482, lLs j, [.int (nI j + 2), .retAddr 0, .int (xs (nI j + 1).toNatClampNeg), .ref 64, .int r], mSS A)) (by decide +kernel) rfl ?_
    refine R_scr (by decide +kernel) (hin 2 (by omega)) ?_
    refine mRunF.sg (mSl mkL 1053 4) (g := (1487, lLs j, [.int (nI j + 3), .retAddr 0, .int (xs (nI j + 2).toNatClampNeg), .int (xs (nI j + 1).toNatClampNeg), .ref 64, .int r], mSS A)) (by decide +kernel) rfl ?_
    refine R_scr (by decide +kernel) (hin 3 (by omega)) ?_
    refine R_eq (t := 1495) ⟨7, by decide +kernel⟩ (fun q2 => absurd q2 q) (fun _ => ?_)
    refine mRunF.sg (mSl mkL 1059 1) (g := (1492, lLs j, [.int 1, .int (xs (nI j + 2).toNatClampNeg), .int (xs (nI j + 1).toNatClampNeg), .ref 64, .int r], mSS A)) (by decide +kernel) rfl ?_
    refine mRunF.one (o := (.goto 4, .null, [1496])) (show mCdL 1492 = some (.goto 4, .null, [1496]) by decide +kernel) ?_
    show mRunF mCdL (lwE L xs M') (1496, lLs j, [.int 1, .int (xs (nI j + 2).toNatClampNeg), .int (xs (nI j + 1).toNatClampNeg), .ref 64, .int r], mSS A)
    refine R_callV (mi := 299) (na := 4) (ci := 12) (i := 64) (as := [.int (xs (nI j + 1).toNatClampNeg), .int (xs (nI j + 2).toNatClampNeg), .int 1]) (r := [.int r]) (rv := some (.int r)) (σ1 := mSS B) ⟨173, by decide +kernel⟩ rfl rfl rfl rfl (Mo_tell_r 5000 (xs (nI j + 1).toNatClampNeg) (xs (nI j + 2).toNatClampNeg) 1 A 10 h2) ?_
    show mRunF mCdL (lwE L xs M') (1499, lLs j, [.int r, .int r], mSS B)
    exact R_ieq (t := 1672) ⟨173, by decide +kernel⟩ (fun _ => go) (fun q3 => absurd rfl q3)
set_option maxRecDepth 100000 in
set_option maxHeartbeats 4000000 in
theorem lwc_38 {L j : Nat} {xs : Nat → Int32} {M : mS} (h : INV M) (hin : ∀ k, k ≤ 5 → mIn (nI j + nI k) L = true) : ∃ B, INV B ∧ ∀ M', mRunF mCdL (lwE L xs M') (1672, lLs j, [], mSS B) → mRunF mCdL (lwE L xs M') (1504, lLs j, [], mSS M) := by
  obtain ⟨r, A, B, h1, h2, h3⟩ := call_forget (N := 5000) h
  refine ⟨B, h3, fun M' go => ?_⟩
  refine mRunF.sg (mSl mkL 1066 1) (g := (1505, lLs j, [.ref 0], mSS M)) (by decide +kernel) rfl ?_
  refine R_callV (mi := 142) (na := 1) (ci := 11) (i := 0) (as := []) (r := []) (rv := some (.int r)) (σ1 := mSS A) ⟨174, by decide +kernel⟩ rfl rfl rfl rfl (Md_forget_r 5000  M 12 h1) ?_
  show mRunF mCdL (lwE L xs M') (1508, lLs j, [.int r], mSS A)
  refine mRunF.sg (mSl mkL 1068 1) (g := (1509, lLs j, [.ref 64, .int r], mSS A)) (by decide +kernel) rfl ?_
  refine R_callV (mi := 300) (na := 1) (ci := 12) (i := 64) (as := []) (r := [.int r]) (rv := some (.int r)) (σ1 := mSS B) ⟨177, by decide +kernel⟩ rfl rfl rfl rfl (Mo_forget_r 5000  A 12 h2) ?_
  show mRunF mCdL (lwE L xs M') (1512, lLs j, [.int r, .int r], mSS B)
  exact R_ieq (t := 1672) ⟨160, by decide +kernel⟩ (fun _ => go) (fun q3 => absurd rfl q3)
set_option maxRecDepth 100000 in
set_option maxHeartbeats 4000000 in
theorem lwc_39 {L j : Nat} {xs : Nat → Int32} {M : mS} (h : INV M) (hin : ∀ k, k ≤ 5 → mIn (nI j + nI k) L = true) : ∃ B, INV B ∧ ∀ M', mRunF mCdL (lwE L xs M') (1672, lLs j, [], mSS B) → mRunF mCdL (lwE L xs M') (1517, lLs j, [], mSS M) := by
  obtain ⟨r, A, B, h1, h2, h3⟩ := call_fits (N := 5000) (by omega) h (xs (nI j + 1).toNatClampNeg) (xs (nI j + 2).toNatClampNeg) (xs (nI j + 3).toNatClampNeg)
  refine ⟨B, h3, fun M' go => ?_⟩
  refine mRunF.sg (mSl mkL 1073 5) (g := (1522, lLs j, [.int (nI j + 1), .retAddr 0, .ref 0], mSS M)) (by decide +kernel) rfl ?_
  refine R_scr (by decide +kernel) (hin 1 (by omega)) ?_
  refine mRunF.sg (mSl mkL 1079 4) (g := (1527, lLs j, [.int (nI j + 2), .retAddr 0, .int (xs (nI j + 1).toNatClampNeg), .ref 0], mSS M)) (by decide +kernel) rfl ?_
  refine R_scr (by decide +kernel) (hin 2 (by omega)) ?_
  refine mRunF.sg (mSl mkL 1084 4) (g := (1532, lLs j, [.int (nI j + 3), .retAddr 0, .int (xs (nI j + 2).toNatClampNeg), .int (xs (nI j + 1).toNatClampNeg), .ref 0], mSS M)) (by decide +kernel) rfl ?_
  refine R_scr (by decide +kernel) (hin 3 (by omega)) ?_
  refine R_callV (mi := 143) (na := 4) (ci := 11) (i := 0) (as := [.int (xs (nI j + 1).toNatClampNeg), .int (xs (nI j + 2).toNatClampNeg), .int (xs (nI j + 3).toNatClampNeg)]) (r := []) (rv := some (.int r)) (σ1 := mSS A) ⟨178, by decide +kernel⟩ rfl rfl rfl rfl (Md_fits_r 5000 (xs (nI j + 1).toNatClampNeg) (xs (nI j + 2).toNatClampNeg) (xs (nI j + 3).toNatClampNeg) M 7 h1) ?_
  show mRunF mCdL (lwE L xs M') (1536, lLs j, [.int r], mSS A)
  refine mRunF.sg (mSl mkL 1090 5) (g := (1541, lLs j, [.int (nI j + 1), .retAddr 0, .ref 64, .int r], mSS A)) (by decide +kernel) rfl ?_
  refine R_scr (by decide +kernel) (hin 1 (by omega)) ?_
  refine mRunF.sg (mSl mkL 1096 4) (g := (1546, lLs j, [.int (nI j + 2), .retAddr 0, .int (xs (nI j + 1).toNatClampNeg), .ref 64, .int r], mSS A)) (by decide +kernel) rfl ?_
  refine R_scr (by decide +kernel) (hin 2 (by omega)) ?_
  refine mRunF.sg (mSl mkL 1101 4) (g := (1551, lLs j, [.int (nI j + 3), .retAddr 0, .int (xs (nI j + 2).toNatClampNeg), .int (xs (nI j + 1).toNatClampNeg), .ref 64, .int r], mSS A)) (by decide +kernel) rfl ?_
  refine R_scr (by decide +kernel) (hin 3 (by omega)) ?_
  refine R_callV (mi := 302) (na := 4) (ci := 12) (i := 64) (as := [.int (xs (nI j + 1).toNatClampNeg), .int (xs (nI j + 2).toNatClampNeg), .int (xs (nI j + 3).toNatClampNeg)]) (r := [.int r]) (rv := some (.int r)) (σ1 := mSS B) ⟨181, by decide +kernel⟩ rfl rfl rfl rfl (Mo_fits_r 5000 (xs (nI j + 1).toNatClampNeg) (xs (nI j + 2).toNatClampNeg) (xs (nI j + 3).toNatClampNeg) A 2 h2) ?_
  show mRunF mCdL (lwE L xs M') (1555, lLs j, [.int r, .int r], mSS B)
  exact R_ieq (t := 1672) ⟨117, by decide +kernel⟩ (fun _ => go) (fun q3 => absurd rfl q3)
set_option maxRecDepth 100000 in
set_option maxHeartbeats 4000000 in
theorem lwc_40 {L j : Nat} {xs : Nat → Int32} {M : mS} (h : INV M) (hin : ∀ k, k ≤ 5 → mIn (nI j + nI k) L = true) : ∃ B, INV B ∧ ∀ M', mRunF mCdL (lwE L xs M') (1672, lLs j, [], mSS B) → mRunF mCdL (lwE L xs M') (1560, lLs j, [], mSS M) := by
  obtain ⟨r, A, B, h1, h2, h3⟩ := call_look (N := 5000) (by omega) h (xs (nI j + 1).toNatClampNeg) (xs (nI j + 2).toNatClampNeg) (xs (nI j + 3).toNatClampNeg)
  refine ⟨B, h3, fun M' go => ?_⟩
  refine mRunF.sg (mSl mkL 1110 5) (g := (1565, lLs j, [.int (nI j + 1), .retAddr 0, .ref 0], mSS M)) (by decide +kernel) rfl ?_
  refine R_scr (by decide +kernel) (hin 1 (by omega)) ?_
  refine mRunF.sg (mSl mkL 1116 4) (g := (1570, lLs j, [.int (nI j + 2), .retAddr 0, .int (xs (nI j + 1).toNatClampNeg), .ref 0], mSS M)) (by decide +kernel) rfl ?_
  refine R_scr (by decide +kernel) (hin 2 (by omega)) ?_
  refine mRunF.sg (mSl mkL 1121 4) (g := (1575, lLs j, [.int (nI j + 3), .retAddr 0, .int (xs (nI j + 2).toNatClampNeg), .int (xs (nI j + 1).toNatClampNeg), .ref 0], mSS M)) (by decide +kernel) rfl ?_
  refine R_scr (by decide +kernel) (hin 3 (by omega)) ?_
  refine R_callV (mi := 144) (na := 4) (ci := 11) (i := 0) (as := [.int (xs (nI j + 1).toNatClampNeg), .int (xs (nI j + 2).toNatClampNeg), .int (xs (nI j + 3).toNatClampNeg)]) (r := []) (rv := some (.int r)) (σ1 := mSS A) ⟨182, by decide +kernel⟩ rfl rfl rfl rfl (Md_look_r 5000 (xs (nI j + 1).toNatClampNeg) (xs (nI j + 2).toNatClampNeg) (xs (nI j + 3).toNatClampNeg) M 7 h1) ?_
  show mRunF mCdL (lwE L xs M') (1579, lLs j, [.int r], mSS A)
  refine mRunF.sg (mSl mkL 1127 5) (g := (1584, lLs j, [.int (nI j + 1), .retAddr 0, .ref 64, .int r], mSS A)) (by decide +kernel) rfl ?_
  refine R_scr (by decide +kernel) (hin 1 (by omega)) ?_
  refine mRunF.sg (mSl mkL 1133 4) (g := (1589, lLs j, [.int (nI j + 2), .retAddr 0, .int (xs (nI j + 1).toNatClampNeg), .ref 64, .int r], mSS A)) (by decide +kernel) rfl ?_
  refine R_scr (by decide +kernel) (hin 2 (by omega)) ?_
  refine mRunF.sg (mSl mkL 1138 4) (g := (1594, lLs j, [.int (nI j + 3), .retAddr 0, .int (xs (nI j + 2).toNatClampNeg), .int (xs (nI j + 1).toNatClampNeg), .ref 64, .int r], mSS A)) (by decide +kernel) rfl ?_
  refine R_scr (by decide +kernel) (hin 3 (by omega)) ?_
  refine R_callV (mi := 303) (na := 4) (ci := 12) (i := 64) (as := [.int (xs (nI j + 1).toNatClampNeg), .int (xs (nI j + 2).toNatClampNeg), .int (xs (nI j + 3).toNatClampNeg)]) (r := [.int r]) (rv := some (.int r)) (σ1 := mSS B) ⟨185, by decide +kernel⟩ rfl rfl rfl rfl (Mo_look_r 5000 (xs (nI j + 1).toNatClampNeg) (xs (nI j + 2).toNatClampNeg) (xs (nI j + 3).toNatClampNeg) A 2 h2) ?_
  show mRunF mCdL (lwE L xs M') (1598, lLs j, [.int r, .int r], mSS B)
  exact R_ieq (t := 1672) ⟨74, by decide +kernel⟩ (fun _ => go) (fun q3 => absurd rfl q3)
set_option maxRecDepth 100000 in
set_option maxHeartbeats 4000000 in
theorem lwc_41 {L j : Nat} {xs : Nat → Int32} {M : mS} (h : INV M) (hin : ∀ k, k ≤ 5 → mIn (nI j + nI k) L = true) : ∃ B, INV B ∧ ∀ M', mRunF mCdL (lwE L xs M') (1672, lLs j, [], mSS B) → mRunF mCdL (lwE L xs M') (1603, lLs j, [], mSS M) := by
  obtain ⟨r, A, B, h1, h2, h3⟩ := call_hold (N := 5000) (by omega) h (xs (nI j + 1).toNatClampNeg)
  refine ⟨B, h3, fun M' go => ?_⟩
  refine mRunF.sg (mSl mkL 1147 5) (g := (1608, lLs j, [.int (nI j + 1), .retAddr 0, .ref 0], mSS M)) (by decide +kernel) rfl ?_
  refine R_scr (by decide +kernel) (hin 1 (by omega)) ?_
  refine R_callV (mi := 145) (na := 2) (ci := 11) (i := 0) (as := [.int (xs (nI j + 1).toNatClampNeg)]) (r := []) (rv := some (.int r)) (σ1 := mSS A) ⟨186, by decide +kernel⟩ rfl rfl rfl rfl (Md_hold_r 5000 (xs (nI j + 1).toNatClampNeg) M 11 h1) ?_
  show mRunF mCdL (lwE L xs M') (1612, lLs j, [.int r], mSS A)
  refine mRunF.sg (mSl mkL 1154 5) (g := (1617, lLs j, [.int (nI j + 1), .retAddr 0, .ref 64, .int r], mSS A)) (by decide +kernel) rfl ?_
  refine R_scr (by decide +kernel) (hin 1 (by omega)) ?_
  refine R_callV (mi := 304) (na := 2) (ci := 12) (i := 64) (as := [.int (xs (nI j + 1).toNatClampNeg)]) (r := [.int r]) (rv := some (.int r)) (σ1 := mSS B) ⟨190, by decide +kernel⟩ rfl rfl rfl rfl (Mo_hold_r 5000 (xs (nI j + 1).toNatClampNeg) A 11 h2) ?_
  show mRunF mCdL (lwE L xs M') (1621, lLs j, [.int r, .int r], mSS B)
  exact R_ieq (t := 1672) ⟨51, by decide +kernel⟩ (fun _ => go) (fun q3 => absurd rfl q3)
set_option maxRecDepth 100000 in
set_option maxHeartbeats 4000000 in
theorem lwc_42 {L j : Nat} {xs : Nat → Int32} {M : mS} (h : INV M) (hin : ∀ k, k ≤ 5 → mIn (nI j + nI k) L = true) : ∃ B, INV B ∧ ∀ M', mRunF mCdL (lwE L xs M') (1672, lLs j, [], mSS B) → mRunF mCdL (lwE L xs M') (1626, lLs j, [], mSS M) := by
  obtain ⟨r, A, B, h1, h2, h3⟩ := call_restore (N := 5000) (by omega) h (xs (nI j + 1).toNatClampNeg)
  refine ⟨B, h3, fun M' go => ?_⟩
  refine mRunF.sg (mSl mkL 1164 5) (g := (1631, lLs j, [.int (nI j + 1), .retAddr 0, .ref 0], mSS M)) (by decide +kernel) rfl ?_
  refine R_scr (by decide +kernel) (hin 1 (by omega)) ?_
  refine R_callV (mi := 146) (na := 2) (ci := 11) (i := 0) (as := [.int (xs (nI j + 1).toNatClampNeg)]) (r := []) (rv := some (.int r)) (σ1 := mSS A) ⟨191, by decide +kernel⟩ rfl rfl rfl rfl (Md_restore_r 5000 (xs (nI j + 1).toNatClampNeg) M 11 h1) ?_
  show mRunF mCdL (lwE L xs M') (1635, lLs j, [.int r], mSS A)
  refine mRunF.sg (mSl mkL 1171 5) (g := (1640, lLs j, [.int (nI j + 1), .retAddr 0, .ref 64, .int r], mSS A)) (by decide +kernel) rfl ?_
  refine R_scr (by decide +kernel) (hin 1 (by omega)) ?_
  refine R_callV (mi := 305) (na := 2) (ci := 12) (i := 64) (as := [.int (xs (nI j + 1).toNatClampNeg)]) (r := [.int r]) (rv := some (.int r)) (σ1 := mSS B) ⟨194, by decide +kernel⟩ rfl rfl rfl rfl (Mo_restore_r 5000 (xs (nI j + 1).toNatClampNeg) A 11 h2) ?_
  show mRunF mCdL (lwE L xs M') (1644, lLs j, [.int r, .int r], mSS B)
  exact R_ieq (t := 1672) ⟨28, by decide +kernel⟩ (fun _ => go) (fun q3 => absurd rfl q3)
set_option maxRecDepth 100000 in
set_option maxHeartbeats 4000000 in
theorem lwc_43 {L j : Nat} {xs : Nat → Int32} {M : mS} (h : INV M) (hin : ∀ k, k ≤ 5 → mIn (nI j + nI k) L = true) : ∃ B, INV B ∧ ∀ M', mRunF mCdL (lwE L xs M') (1672, lLs j, [], mSS B) → mRunF mCdL (lwE L xs M') (1649, lLs j, [], mSS M) := by
  obtain ⟨r, A, B, h1, h2, h3⟩ := call_count (N := 5000) (by omega) h (xs (nI j + 1).toNatClampNeg)
  refine ⟨B, h3, fun M' go => ?_⟩
  refine mRunF.sg (mSl mkL 1181 5) (g := (1654, lLs j, [.int (nI j + 1), .retAddr 0, .ref 0], mSS M)) (by decide +kernel) rfl ?_
  refine R_scr (by decide +kernel) (hin 1 (by omega)) ?_
  refine R_callV (mi := 147) (na := 2) (ci := 11) (i := 0) (as := [.int (xs (nI j + 1).toNatClampNeg)]) (r := []) (rv := some (.int r)) (σ1 := mSS A) ⟨195, by decide +kernel⟩ rfl rfl rfl rfl (Md_count_r 5000 (xs (nI j + 1).toNatClampNeg) M 6 h1) ?_
  show mRunF mCdL (lwE L xs M') (1658, lLs j, [.int r], mSS A)
  refine mRunF.sg (mSl mkL 1188 5) (g := (1663, lLs j, [.int (nI j + 1), .retAddr 0, .ref 64, .int r], mSS A)) (by decide +kernel) rfl ?_
  refine R_scr (by decide +kernel) (hin 1 (by omega)) ?_
  refine R_callV (mi := 306) (na := 2) (ci := 12) (i := 64) (as := [.int (xs (nI j + 1).toNatClampNeg)]) (r := [.int r]) (rv := some (.int r)) (σ1 := mSS B) ⟨198, by decide +kernel⟩ rfl rfl rfl rfl (Mo_count_r 5000 (xs (nI j + 1).toNatClampNeg) A 5 h2) ?_
  show mRunF mCdL (lwE L xs M') (1667, lLs j, [.int r, .int r], mSS B)
  exact R_ieq (t := 1672) ⟨5, by decide +kernel⟩ (fun _ => go) (fun q3 => absurd rfl q3)
