/-! THE LAW'S LOOP -/
theorem lw_all {L j k : Nat} {xs : Nat → Int32} {M : mS} (hk : k < 44) (h : INV M) (hin : ∀ k, k ≤ 5 → mIn (nI j + nI k) L = true) : ∃ t B, lwT[k]? = some t ∧ INV B ∧ ∀ M', mRunF mCdL (lwE L xs M') (1672, lLs j, [], mSS B) → mRunF mCdL (lwE L xs M') (t, lLs j, [], mSS M) := by
  have hh : k = 0 ∨ k = 1 ∨ k = 2 ∨ k = 3 ∨ k = 4 ∨ k = 5 ∨ k = 6 ∨ k = 7 ∨ k = 8 ∨ k = 9 ∨ k = 10 ∨ k = 11 ∨ k = 12 ∨ k = 13 ∨ k = 14 ∨ k = 15 ∨ k = 16 ∨ k = 17 ∨ k = 18 ∨ k = 19 ∨ k = 20 ∨ k = 21 ∨ k = 22 ∨ k = 23 ∨ k = 24 ∨ k = 25 ∨ k = 26 ∨ k = 27 ∨ k = 28 ∨ k = 29 ∨ k = 30 ∨ k = 31 ∨ k = 32 ∨ k = 33 ∨ k = 34 ∨ k = 35 ∨ k = 36 ∨ k = 37 ∨ k = 38 ∨ k = 39 ∨ k = 40 ∨ k = 41 ∨ k = 42 ∨ k = 43 := by omega
  rcases hh with rfl | rfl | rfl | rfl | rfl | rfl | rfl | rfl | rfl | rfl | rfl | rfl | rfl | rfl | rfl | rfl | rfl | rfl | rfl | rfl | rfl | rfl | rfl | rfl | rfl | rfl | rfl | rfl | rfl | rfl | rfl | rfl | rfl | rfl | rfl | rfl | rfl | rfl | rfl | rfl | rfl | rfl | rfl | rfl
  · obtain ⟨B, b1, b2⟩ := lwc_0 h hin; exact ⟨_, B, rfl, b1, b2⟩
  · obtain ⟨B, b1, b2⟩ := lwc_1 h hin; exact ⟨_, B, rfl, b1, b2⟩
  · obtain ⟨B, b1, b2⟩ := lwc_2 h hin; exact ⟨_, B, rfl, b1, b2⟩
  · obtain ⟨B, b1, b2⟩ := lwc_3 h hin; exact ⟨_, B, rfl, b1, b2⟩
  · obtain ⟨B, b1, b2⟩ := lwc_4 h hin; exact ⟨_, B, rfl, b1, b2⟩
  · obtain ⟨B, b1, b2⟩ := lwc_5 h hin; exact ⟨_, B, rfl, b1, b2⟩
  · obtain ⟨B, b1, b2⟩ := lwc_6 h hin; exact ⟨_, B, rfl, b1, b2⟩
  · obtain ⟨B, b1, b2⟩ := lwc_7 h hin; exact ⟨_, B, rfl, b1, b2⟩
  · obtain ⟨B, b1, b2⟩ := lwc_8 h hin; exact ⟨_, B, rfl, b1, b2⟩
  · obtain ⟨B, b1, b2⟩ := lwc_9 h hin; exact ⟨_, B, rfl, b1, b2⟩
  · obtain ⟨B, b1, b2⟩ := lwc_10 h hin; exact ⟨_, B, rfl, b1, b2⟩
  · obtain ⟨B, b1, b2⟩ := lwc_11 h hin; exact ⟨_, B, rfl, b1, b2⟩
  · obtain ⟨B, b1, b2⟩ := lwc_12 h hin; exact ⟨_, B, rfl, b1, b2⟩
  · obtain ⟨B, b1, b2⟩ := lwc_13 h hin; exact ⟨_, B, rfl, b1, b2⟩
  · obtain ⟨B, b1, b2⟩ := lwc_14 h hin; exact ⟨_, B, rfl, b1, b2⟩
  · obtain ⟨B, b1, b2⟩ := lwc_15 h hin; exact ⟨_, B, rfl, b1, b2⟩
  · obtain ⟨B, b1, b2⟩ := lwc_16 h hin; exact ⟨_, B, rfl, b1, b2⟩
  · obtain ⟨B, b1, b2⟩ := lwc_17 h hin; exact ⟨_, B, rfl, b1, b2⟩
  · obtain ⟨B, b1, b2⟩ := lwc_18 h hin; exact ⟨_, B, rfl, b1, b2⟩
  · obtain ⟨B, b1, b2⟩ := lwc_19 h hin; exact ⟨_, B, rfl, b1, b2⟩
  · obtain ⟨B, b1, b2⟩ := lwc_20 h hin; exact ⟨_, B, rfl, b1, b2⟩
  · obtain ⟨B, b1, b2⟩ := lwc_21 h hin; exact ⟨_, B, rfl, b1, b2⟩
  · obtain ⟨B, b1, b2⟩ := lwc_22 h hin; exact ⟨_, B, rfl, b1, b2⟩
  · obtain ⟨B, b1, b2⟩ := lwc_23 h hin; exact ⟨_, B, rfl, b1, b2⟩
  · obtain ⟨B, b1, b2⟩ := lwc_24 h hin; exact ⟨_, B, rfl, b1, b2⟩
  · obtain ⟨B, b1, b2⟩ := lwc_25 h hin; exact ⟨_, B, rfl, b1, b2⟩
  · obtain ⟨B, b1, b2⟩ := lwc_26 h hin; exact ⟨_, B, rfl, b1, b2⟩
  · obtain ⟨B, b1, b2⟩ := lwc_27 h hin; exact ⟨_, B, rfl, b1, b2⟩
  · obtain ⟨B, b1, b2⟩ := lwc_28 h hin; exact ⟨_, B, rfl, b1, b2⟩
  · obtain ⟨B, b1, b2⟩ := lwc_29 h hin; exact ⟨_, B, rfl, b1, b2⟩
  · obtain ⟨B, b1, b2⟩ := lwc_30 h hin; exact ⟨_, B, rfl, b1, b2⟩
  · obtain ⟨B, b1, b2⟩ := lwc_31 h hin; exact ⟨_, B, rfl, b1, b2⟩
  · obtain ⟨B, b1, b2⟩ := lwc_32 h hin; exact ⟨_, B, rfl, b1, b2⟩
  · obtain ⟨B, b1, b2⟩ := lwc_33 h hin; exact ⟨_, B, rfl, b1, b2⟩
  · obtain ⟨B, b1, b2⟩ := lwc_34 h hin; exact ⟨_, B, rfl, b1, b2⟩
  · obtain ⟨B, b1, b2⟩ := lwc_35 h hin; exact ⟨_, B, rfl, b1, b2⟩
  · obtain ⟨B, b1, b2⟩ := lwc_36 h hin; exact ⟨_, B, rfl, b1, b2⟩
  · obtain ⟨B, b1, b2⟩ := lwc_37 h hin; exact ⟨_, B, rfl, b1, b2⟩
  · obtain ⟨B, b1, b2⟩ := lwc_38 h hin; exact ⟨_, B, rfl, b1, b2⟩
  · obtain ⟨B, b1, b2⟩ := lwc_39 h hin; exact ⟨_, B, rfl, b1, b2⟩
  · obtain ⟨B, b1, b2⟩ := lwc_40 h hin; exact ⟨_, B, rfl, b1, b2⟩
  · obtain ⟨B, b1, b2⟩ := lwc_41 h hin; exact ⟨_, B, rfl, b1, b2⟩
  · obtain ⟨B, b1, b2⟩ := lwc_42 h hin; exact ⟨_, B, rfl, b1, b2⟩
  · obtain ⟨B, b1, b2⟩ := lwc_43 h hin; exact ⟨_, B, rfl, b1, b2⟩
