/-! THE LAW'S RUN -/
theorem and63 (x : Int32) : ∃ k, k < 64 ∧ x &&& 63 = nI k := by
  refine ⟨(x &&& 63).toBitVec.toNat, ?_, (nI_self _).symm⟩
  rw [Int32.toBitVec_and, BitVec.toNat_and]
  have h : (63 : Int32).toBitVec.toNat = 63 := rfl
  rw [h]
  have := Nat.and_le_right (n := x.toBitVec.toNat) (m := 63)
  omega
theorem in_jk {L j k : Nat} (hL : L ≤ 3072) (h : j + k < L) : mIn (nI j + nI k) L = true := by
  rw [nI_add]
  exact inx rfl h (by omega)
set_option maxRecDepth 100000 in
theorem law_loop {L : Nat} {xs : Nat → Int32} (hL : L ≤ 3072) : ∀ {n j : Nat} {M : mS}, INV M → L < n + j → j ≤ L + 6 → ∃ M', mRunF mCdL (lwE L xs M') (18, lLs j, [], mSS M) := by
  intro n
  induction n with
  | zero =>
    intro j M h h1 h2
    refine ⟨M, ?_⟩
    refine mRunF.sg (mSl mkL 10 2) (g := (20, lLs j, [.retAddr 0, .int (nI j)], mSS M)) (by decide +kernel) rfl ?_
    refine R_slen (by decide +kernel) ?_
    refine mRunF.sg (mSl mkL 13 2) (g := (24, lLs j, [.int (Int32.ofNat L - 6), .int (nI j)], mSS M)) (by decide +kernel) rfl ?_
    refine R_igt (t := 1678) ⟨1654, by decide +kernel⟩ (fun q => ?_) (fun q => absurd ?_ q)
    · refine mRunF.sg (mSl mkL 1200 1) (g := (1679, lLs j, [.int 1], mSS M)) (by decide +kernel) rfl ?_
      exact R_zret (by decide +kernel) (Or.inr rfl)
    · show nI L - nI 6 < nI j
      rw [fa_lt, pk_sub_toInt (by omega) (by omega), nI_toInt (by omega)]
      omega
  | succ n ih =>
    intro j M h h1 h2
    by_cases z : j + 6 ≤ L
    · obtain ⟨k, hk, ek⟩ := and63 (xs (nI j).toNatClampNeg)
      have hin : ∀ k, k ≤ 5 → mIn (nI j + nI k) L = true := fun k hk => in_jk hL (by omega)
      have hin0 : mIn (nI j) L = true := inx rfl (by omega) (by omega)
      -- what the chosen call leaves
      have go : ∃ B, INV B ∧ ∀ M', mRunF mCdL (lwE L xs M') (1672, lLs j, [], mSS B) → mRunF mCdL (lwE L xs M') (33, lLs j, [.int (nI k)], mSS M) := by
        by_cases k4 : k < 44
        · obtain ⟨t, B, ht, hB, go⟩ := lw_all (xs := xs) k4 h hin
          refine ⟨B, hB, fun M' g => ?_⟩
          refine R_swc (lo := 0) (hi := 43) (td := 1672) (t := t) (ts := lwT) ⟨1639, #[191, 254, 277, 290, 303, 336, 369, 402, 435, 458, 491, 524, 557, 580, 593, 626, 669, 702, 735, 758, 791, 804, 847, 890, 943, 986, 1009, 1032, 1085, 1118, 1151, 1194, 1227, 1250, 1293, 1326, 1359, 1412, 1471, 1484, 1527, 1570, 1593, 1616], by decide +kernel⟩ k ?_ (by omega) ht (go M' g)
          rw [nI_toInt (by omega)]; omega
        · refine ⟨M, h, fun M' g => ?_⟩
          refine R_swd (lo := 0) (hi := 43) (td := 1672) (ts := lwT) ⟨1639, #[191, 254, 277, 290, 303, 336, 369, 402, 435, 458, 491, 524, 557, 580, 593, 626, 669, 702, 735, 758, 791, 804, 847, 890, 943, 986, 1009, 1032, 1085, 1118, 1151, 1194, 1227, 1250, 1293, 1326, 1359, 1412, 1471, 1484, 1527, 1570, 1593, 1616], by decide +kernel⟩ (Or.inr ?_) g
          rw [nI_toInt (by omega)]; omega
      obtain ⟨B, hB, go⟩ := go
      obtain ⟨M', g⟩ := ih (j := j + 6) hB (by omega) (by omega)
      refine ⟨M', ?_⟩
      refine mRunF.sg (mSl mkL 10 2) (g := (20, lLs j, [.retAddr 0, .int (nI j)], mSS M)) (by decide +kernel) rfl ?_
      refine R_slen (by decide +kernel) ?_
      refine mRunF.sg (mSl mkL 13 2) (g := (24, lLs j, [.int (Int32.ofNat L - 6), .int (nI j)], mSS M)) (by decide +kernel) rfl ?_
      refine R_igt (t := 1678) ⟨1654, by decide +kernel⟩ (fun q => absurd q ?_) (fun q => ?_)
      · show ¬ nI L - nI 6 < nI j
        rw [fa_lt, pk_sub_toInt (by omega) (by omega), nI_toInt (by omega)]
        omega
      · refine mRunF.sg (mSl mkL 16 2) (g := (29, lLs j, [.int (nI j), .retAddr 0], mSS M)) (by decide +kernel) rfl ?_
        refine R_scr (by decide +kernel) hin0 ?_
        refine mRunF.sg (mSl mkL 19 2) (g := (33, lLs j, [.int (xs (nI j).toNatClampNeg &&& 63)], mSS M)) (by decide +kernel) rfl ?_
        rw [ek]
        refine go M' ?_
        refine mRunF.sg (mSl mkL 1198 2) (g := (18, [some (.retAddr 0), some (.ref 0), some (.ref 64), some (.int (nI j + 6))], [], mSS B)) (by decide +kernel) rfl ?_
        rw [show nI j + 6 = nI (j + 6) from nI_add j 6]
        exact g
    · refine ⟨M, ?_⟩
      refine mRunF.sg (mSl mkL 10 2) (g := (20, lLs j, [.retAddr 0, .int (nI j)], mSS M)) (by decide +kernel) rfl ?_
      refine R_slen (by decide +kernel) ?_
      refine mRunF.sg (mSl mkL 13 2) (g := (24, lLs j, [.int (Int32.ofNat L - 6), .int (nI j)], mSS M)) (by decide +kernel) rfl ?_
      refine R_igt (t := 1678) ⟨1654, by decide +kernel⟩ (fun q => ?_) (fun q => absurd ?_ q)
      · refine mRunF.sg (mSl mkL 1200 1) (g := (1679, lLs j, [.int 1], mSS M)) (by decide +kernel) rfl ?_
        exact R_zret (by decide +kernel) (Or.inr rfl)
      · show nI L - nI 6 < nI j
        rw [fa_lt, pk_sub_toInt (by omega) (by omega), nI_toInt (by omega)]
        omega
set_option maxRecDepth 1000000 in
theorem lgB_64 : (iMem lgB).1 = 64 := by decide +kernel
set_option maxRecDepth 1000000 in
theorem lgC_k : (Nat.blt 64 (iMem lgC).1 && Nat.beq ((iMem lgC).2.2.1 64).1 12) = true := by decide +kernel
set_option maxRecDepth 100000 in
theorem law_run {L : Nat} {xs : Nat → Int32} (hL : L ≤ 3072) : ∃ M', mRunF mCdL (lwE L xs M') (0, [some (.retAddr 0), none, none, none], [], iS0) := by
  obtain ⟨M', g⟩ := law_loop (xs := xs) hL (n := 3073) (j := 0) INV_0 (by omega) (by omega)
  refine ⟨M', ?_⟩
  refine mRunF.one (o := (.new 7, .null, [11])) (by decide +kernel) ?_
  show mRunF mCdL (lwE L xs M') (3, [some (.retAddr 0), none, none, none], [.ref 0], iMem lgA)
  refine mRunF.one (o := (.dup, .null, [])) (by decide +kernel) ⟨rfl, ?_⟩
  refine mRunF.one (o := (.invokespecial 9, .null, [103, 1, 11])) (by decide +kernel) ⟨0, [], [.ref 0], none, iMem lgB, rfl, rfl, rfl, by decide, ctB, ?_⟩
  refine mRunF.one (o := (.astore_n 1, .null, [])) (by decide +kernel) ⟨rfl, ?_⟩
  show mRunF mCdL (lwE L xs M') (8, [some (.retAddr 0), some (.ref 0), none, none], [], iMem lgB)
  refine mRunF.one (o := (.new 10, .null, [12])) (by decide +kernel) ?_
  show mRunF mCdL (lwE L xs M') (11, [some (.retAddr 0), some (.ref 0), none, none], [.ref (iMem lgB).1], iMem lgC)
  rw [lgB_64]
  refine mRunF.one (o := (.dup, .null, [])) (by decide +kernel) ⟨rfl, ?_⟩
  refine mRunF.one (o := (.invokespecial 12, .null, [173, 1, 12])) (by decide +kernel) ⟨64, [], [.ref 64], none, iMem lgD, rfl, rfl, lgC_k, by decide, ctD, ?_⟩
  refine mRunF.one (o := (.astore_n 2, .null, [])) (by decide +kernel) ⟨rfl, ?_⟩
  show mRunF mCdL (lwE L xs M') (16, [some (.retAddr 0), some (.ref 0), some (.ref 64), none], [], iMem lgD)
  rw [lay_all]
  refine mRunF.sg (mSl mkL 8 2) (g := (18, lLs 0, [], mSS M0)) (by decide +kernel) rfl ?_
  exact g
