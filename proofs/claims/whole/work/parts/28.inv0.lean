/-! WHAT THE CONSTRUCTORS LEAVE holds what all calls keep -/
set_option maxRecDepth 1000000 in
theorem m0_c : (decide (M0.1 3 6 = 12) && decide (M0.1 3 7 = 0) && decide (M0.1 3 8 = 0) && decide (M0.1 3 9 = 0) && decide (M0.1 1 1 = 0) && decide (M0.1 0 11 = -1) && decide (M0.1 35 1 = 40) && decide (M0.1 0 12 = 0) && decide (M0.1 0 13 = 0) && decide (M0.1 37 1 = 3) && decide (M0.1 0 14 = 0) && decide (M0.1 59 0 = 0) && decide (M0.1 34 0 = 0) && decide (M0.1 4 4 = 8) && decide (M0.1 4 5 = 0) && decide (M0.1 7 0 = 0) && decide (M0.1 7 1 = 2) && decide (M0.1 7 2 = 4) && decide (M0.1 7 3 = 6) && decide (M0.1 6 0 = 8) && decide (M0.1 6 1 = 7) && decide (M0.1 6 2 = 33) && decide (M0.1 6 3 = 7) && decide (M0.1 6 4 = 8) && decide (M0.1 6 5 = 7) && decide (M0.1 6 6 = 0) && decide (M0.1 6 7 = 7)) = true := by decide +kernel
set_option maxRecDepth 1000000 in
theorem m0_k : ((List.range 20).all fun k => decide (M0.2 27 k = kC k) && decide (M0.2 71 k = kM k)) = true := by decide +kernel
set_option maxRecDepth 1000000 in
theorem m0_m : (decide (M0.1 64 18 = 0) && decide (M0.1 74 0 = 12) && decide (M0.1 75 0 = 0) && decide (M0.1 78 0 = 0) && decide (M0.1 82 0 = 0) && decide (M0.1 64 2 = 0) && decide (M0.1 64 17 = -1) && decide (M0.1 64 53 = 0) && decide (M0.1 64 62 = 0) && ((List.range 29).all fun k => decide (M0.1 95 k = 0)) && ((List.range 3).all fun k => decide (M0.1 109 k = 0)) && ((List.range 7).all fun k => decide (M0.1 102 k = nI (lvA k))) && ((List.range 4).all fun k => decide (M0.1 83 k = 0) && decide (M0.1 84 k = 0))) = true := by decide +kernel
theorem R0_d0 (k : Nat) : R0 d0 k = 0 := by
  unfold R0
  split
  · exact if_neg (Nat.not_lt_zero _)
  · split
    · exact if_neg (Nat.not_lt_zero _)
    · split
      · exact if_neg (Nat.not_lt_zero _)
      · rfl
theorem INV_0 : INV M0 := by
  have hc := m0_c
  have hm := m0_m
  simp only [Bool.and_eq_true, decide_eq_true_eq, List.all_eq_true, List.mem_range] at hc hm
  obtain ⟨⟨⟨⟨⟨⟨⟨⟨⟨⟨⟨⟨⟨⟨⟨⟨⟨⟨⟨⟨⟨⟨⟨⟨⟨⟨c1, c2⟩, c3⟩, c4⟩, c5⟩, c6⟩, c7⟩, c8⟩, c9⟩, c10⟩, c11⟩, c12⟩, c13⟩, c14⟩, c15⟩, c16⟩, c17⟩, c18⟩, c19⟩, c20⟩, c21⟩, c22⟩, c23⟩, c24⟩, c25⟩, c26⟩, c27⟩ := hc
  obtain ⟨⟨⟨⟨⟨⟨⟨⟨⟨⟨⟨⟨m1, m2⟩, m3⟩, m4⟩, m5⟩, m6⟩, m7⟩, m8⟩, m9⟩, m10⟩, m11⟩, m12⟩, m13⟩ := hm
  have hk : ∀ k, k < 20 → M0.2 27 k = kC k ∧ M0.2 71 k = kM k := fun k hk => by
    have := List.all_eq_true.mp m0_k k (List.mem_range.mpr hk)
    simp only [Bool.and_eq_true, decide_eq_true_eq] at this
    exact this
  have hcd : ∀ (a1 a0 p : Nat), M0.1 6 p = nI (a1 * 8 + a0) → M0.1 6 (p + 1) = nI 7 → cdC 6 p [(a0, a1), (7, 0)] M0 := by
    intro a1 a0 p h1 h2 i x hx
    cases i with
    | zero =>
      have e : (a0, a1) = x := Option.some.inj hx
      rw [← e]; exact h1
    | succ i =>
      cases i with
      | zero =>
        have e : (7, 0) = x := Option.some.inj hx
        rw [← e]; exact h2
      | succ i => cases hx
  have hB : BC 4 6 7 tol0 M0 := by
    refine ⟨8, by omega, c14, fun k hk => ?_⟩
    have hk4 : k = 0 ∨ k = 1 ∨ k = 2 ∨ k = 3 := by omega
    refine ⟨dfl_ok k, ?_, ?_⟩
    · rw [c15, b_0]
      rcases hk4 with rfl | rfl | rfl | rfl <;> rfl
    · rcases hk4 with rfl | rfl | rfl | rfl
      · exact ⟨0, c16, by decide, hcd 1 0 0 c20 c21⟩
      · exact ⟨2, c17, by decide, hcd 4 1 2 c22 c23⟩
      · exact ⟨4, c18, by decide, hcd 1 0 4 c24 c25⟩
      · exact ⟨6, c19, by decide, hcd 0 0 6 c26 c27⟩
  have hBM : BM 0 tol0 0 0 M0 := fun k hk => by
    have := m13 k hk
    exact ⟨by rw [show 4 * 0 + k = k by omega]; exact this.1, by rw [show 4 * 0 + k = k by omega]; exact this.2⟩
  have hd := d0_ok
  have nz : ∀ {P : Nat → Prop}, ∀ i, i < 0 → P i := fun i hi => absurd hi (Nat.not_lt_zero i)
  refine ⟨c1G d0 tol0, 0, R0 d0, X1, gOk_1 hd, ⟨⟨c1, c2, c3, c4, nz, LawC_of hB⟩, ⟨⟨c13.trans (R0_d0 28).symm, nz, nz⟩, nz, (R0_V hd).1, (R0_V hd).2⟩, ⟨c5, by decide, nz⟩, c6, ⟨c7, by decide, c8, 0, by decide, c9, nz⟩, ⟨c10, 0, by decide, c11, fun k hk => ⟨Nat.zero_testBit k, (fun q => by cases q)⟩⟩, ⟨by decide, c12, nz⟩, fun k h => (hk k h).1⟩, ⟨⟨by decide, m1, m2, m3, m4, m5, nz, LawM_of (by decide) hBM (by decide) (by decide)⟩, fun k h => (m10 k h).trans (R0_d0 k).symm, ⟨m6, nz⟩, m7, ⟨m8, nz⟩, fun k h => ⟨m11 k h, (fun q => by cases q)⟩, ⟨m9, nz⟩, fun k h => m12 k h, fun k h => (hk k h).2⟩⟩
