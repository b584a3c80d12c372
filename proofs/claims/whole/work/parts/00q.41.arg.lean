/-! ARGUMENTS: within 0 .. n - 1, or out of it -/
def outr (x : Int32) (n : Nat) : Prop := x < 0 ∨ (¬ x < 0 ∧ nI n ≤ x)
theorem arg_c (x : Int32) (n : Nat) (hn : n < 2147483648) : (∃ d, d < n ∧ x = nI d) ∨ outr x n := by
  by_cases h : x < 0
  · exact Or.inr (Or.inl h)
  · obtain ⟨j, hj, rfl⟩ := nI_of h
    by_cases q : j < n
    · exact Or.inl ⟨j, q, rfl⟩
    · exact Or.inr (Or.inr ⟨h, by rw [leP hn hj]; omega⟩)
theorem outr_ne {x : Int32} {n k : Nat} (h : outr x n) (hk : k < n) (hn : n < 2147483648) : ¬ x = nI k := by
  rintro rfl
  rcases h with h | ⟨-, h⟩
  · exact nI_pos (by omega) h
  · rw [leP hn (by omega)] at h; omega
theorem i0 : (0 : Int32).toInt = 0 := rfl
theorem in_y {d n : Nat} {M : mS} (h : d < n) (hn : n < 1073741824) : Mo_in (nI d) 0 (nI n - 1) M = 1 := by
  unfold Mo_in
  rw [if_neg (nI_pos (by omega)), show (1 : Int32) = nI 1 from rfl, sbP (by omega), if_neg (by rw [ltP (by omega) (by omega)]; omega)]
theorem in_n {x : Int32} {n : Nat} {M : mS} (h : outr x n) (hn : n < 1073741824) : Mo_in x 0 (nI n - 1) M = 0 := by
  unfold Mo_in
  rcases h with h | ⟨h1, h2⟩
  · rw [if_pos h]
  · rw [if_neg h1, if_pos]
    rw [fa_lt, show (1 : Int32) = nI 1 from rfl, negT hn (by omega)]
    rw [fa_le, nI_toInt (by omega)] at h2
    omega
theorem inK_y {d K : Nat} {M : mS} (h : d ≤ K) (hn : K < 1073741824) : Mo_in (nI d) 0 (nI K) M = 1 := by
  unfold Mo_in
  rw [if_neg (nI_pos (by omega)), if_neg (by rw [ltP (by omega) (by omega)]; omega)]
theorem inK_n {x : Int32} {K : Nat} {M : mS} (h : outr x (K + 1)) (hn : K < 1073741824) : Mo_in x 0 (nI K) M = 0 := by
  unfold Mo_in
  rcases h with h | ⟨h1, h2⟩
  · rw [if_pos h]
  · rw [if_neg h1, if_pos]
    rw [fa_lt, nI_toInt (by omega)]
    rw [fa_le, nI_toInt (by omega)] at h2
    omega
theorem with_y {d K : Nat} {M : mS} (h : d ≤ K) (hn : K < 1073741824) : Md_isWithin (nI d) (nI K) M = 1 := by
  unfold Md_isWithin
  rw [if_neg (nI_pos (by omega)), if_neg (by rw [ltP (by omega) (by omega)]; omega)]
theorem with_n {x : Int32} {K : Nat} {M : mS} (h : outr x (K + 1)) (hn : K < 1073741824) : Md_isWithin x (nI K) M = 0 := by
  unfold Md_isWithin
  rcases h with h | ⟨h1, h2⟩
  · rw [if_pos h]
  · rw [if_neg h1, if_pos]
    rw [fa_lt, nI_toInt (by omega)]
    rw [fa_le, nI_toInt (by omega)] at h2
    omega
section
variable {c : gar} {v N : Nat} {M : mS} {x : Int32} {d : Nat}
theorem cDial_y (hc : gOk c) (hM : gC c M) (h : d < gD c) : Md_isDial (nI d) M = 1 := by
  obtain ⟨hc1, hc2, hc3, hc4, -⟩ := hc
  unfold Md_isDial
  rw [hM.2.1, if_neg (nI_pos (by omega)), if_neg (by rw [leP (by omega) (by omega)]; omega)]
theorem cDial_n (hM : gC c M) (h : outr x (gD c)) : Md_isDial x M = 0 := by
  unfold Md_isDial
  rw [hM.2.1]
  rcases h with h | ⟨h1, h2⟩
  · rw [if_pos h]
  · rw [if_neg h1, if_pos h2]
theorem cGoer_y (hc : gOk c) (hM : gC c M) (h : d < gG c) : Md_isGoer (nI d) M = 1 := by
  obtain ⟨hc1, hc2, hc3, hc4, -⟩ := hc
  unfold Md_isGoer
  rw [hM.2.2.1, if_neg (nI_pos (by omega)), if_neg (by rw [leP (by omega) (by omega)]; omega)]
theorem cGoer_n (hM : gC c M) (h : outr x (gG c)) : Md_isGoer x M = 0 := by
  unfold Md_isGoer
  rw [hM.2.2.1]
  rcases h with h | ⟨h1, h2⟩
  · rw [if_pos h]
  · rw [if_neg h1, if_pos h2]
theorem cHour_y (hc : gOk c) (hM : gC c M) (h : d < gH c) : Md_isHour (nI d) M = 1 := by
  obtain ⟨hc1, hc2, hc3, hc4, -⟩ := hc
  unfold Md_isHour
  rw [hM.1, if_neg (nI_pos (by omega)), if_neg (by rw [leP (by omega) (by omega)]; omega)]
theorem cHour_n (hM : gC c M) (h : outr x (gH c)) : Md_isHour x M = 0 := by
  unfold Md_isHour
  rw [hM.1]
  rcases h with h | ⟨h1, h2⟩
  · rw [if_pos h]
  · rw [if_neg h1, if_pos h2]
theorem oDial_y (hc : gOk c) (hM : gM c v M) (h : d < gD c) : Mo_isDial N (nI d) M = some 1 := by
  obtain ⟨hc1, hc2, hc3, hc4, -⟩ := hc
  obtain ⟨h0, h1, h2, h3, h4, -⟩ := hM
  unfold Mo_isDial
  rw [h1, grd_in h0 (by omega), clp (by omega), h3, in_y h (by omega)]
theorem oDial_n (hc : gOk c) (hM : gM c v M) (h : outr x (gD c)) : Mo_isDial N x M = some 0 := by
  obtain ⟨hc1, hc2, hc3, hc4, -⟩ := hc
  obtain ⟨h0, h1, h2, h3, h4, -⟩ := hM
  unfold Mo_isDial
  rw [h1, grd_in h0 (by omega), clp (by omega), h3, in_n h (by omega)]
theorem oGoer_y (hc : gOk c) (hM : gM c v M) (h : d < gG c) : Mo_isGoer N (nI d) M = some 1 := by
  obtain ⟨hc1, hc2, hc3, hc4, -⟩ := hc
  obtain ⟨h0, h1, h2, h3, h4, -⟩ := hM
  unfold Mo_isGoer
  rw [h1, grd_in h0 (by omega), clp (by omega), h4, in_y h (by omega)]
theorem oGoer_n (hc : gOk c) (hM : gM c v M) (h : outr x (gG c)) : Mo_isGoer N x M = some 0 := by
  obtain ⟨hc1, hc2, hc3, hc4, -⟩ := hc
  obtain ⟨h0, h1, h2, h3, h4, -⟩ := hM
  unfold Mo_isGoer
  rw [h1, grd_in h0 (by omega), clp (by omega), h4, in_n h (by omega)]
theorem oHour_y (hc : gOk c) (hM : gM c v M) (h : d < gH c) : Mo_isHour N (nI d) M = some 1 := by
  unfold Mo_isHour
  obtain ⟨hc1, hc2, hc3, hc4, -⟩ := hc
  rw [hours_s hM, bRs, in_y h (by omega)]
theorem oHour_n (hc : gOk c) (hM : gM c v M) (h : outr x (gH c)) : Mo_isHour N x M = some 0 := by
  unfold Mo_isHour
  obtain ⟨hc1, hc2, hc3, hc4, -⟩ := hc
  rw [hours_s hM, bRs, in_n h (by omega)]
/-- two goers, or not -/
def twoA (c : gar) (x y : Int32) : Prop := ∃ g o, g < gG c ∧ o < gG c ∧ g ≠ o ∧ x = nI g ∧ y = nI o
theorem two_y (hc : gOk c) (hM : gC c M) {g o : Nat} (h1 : g < gG c) (h2 : o < gG c) (h : g ≠ o) : Md_areTwo (nI g) (nI o) M = 1 := by
  have := hc.2.2.2.1
  unfold Md_areTwo
  rw [cGoer_y hc hM h1, cGoer_y hc hM h2, if_neg (by decide), if_neg (by decide), if_neg (by rw [eqP (by omega) (by omega)]; exact h)]
theorem two_n (hc : gOk c) (hM : gC c M) {x y : Int32} (h : ¬ twoA c x y) : Md_areTwo x y M = 0 := by
  have hG := hc.2.2.2.1
  unfold Md_areTwo
  rcases arg_c x (gG c) (by omega) with ⟨g, hg, rfl⟩ | q
  · rcases arg_c y (gG c) (by omega) with ⟨o, ho, rfl⟩ | q
    · rw [cGoer_y hc hM hg, cGoer_y hc hM ho, if_neg (by decide), if_neg (by decide), if_pos]
      rw [eqP (by omega) (by omega)]
      exact Classical.byContradiction fun q => h ⟨g, o, hg, ho, q, rfl, rfl⟩
    · rw [cGoer_y hc hM hg, cGoer_n hM q, if_neg (by decide), if_pos rfl]
  · rw [cGoer_n hM q, if_pos rfl]
theorem otwo_y (hc : gOk c) (hM : gM c v M) {g o : Nat} (h1 : g < gG c) (h2 : o < gG c) (h : g ≠ o) : Mo_areTwo N (nI g) (nI o) M = some 1 := by
  have := hc.2.2.2.1
  unfold Mo_areTwo
  rw [oGoer_y hc hM h1, oGoer_y hc hM h2, bRs, if_neg (by decide), bRs, if_neg (by decide), if_neg (by rw [eqP (by omega) (by omega)]; exact h)]
theorem otwo_n (hc : gOk c) (hM : gM c v M) {x y : Int32} (h : ¬ twoA c x y) : Mo_areTwo N x y M = some 0 := by
  have hG := hc.2.2.2.1
  unfold Mo_areTwo
  rcases arg_c x (gG c) (by omega) with ⟨g, hg, rfl⟩ | q
  · rcases arg_c y (gG c) (by omega) with ⟨o, ho, rfl⟩ | q
    · rw [oGoer_y hc hM hg, oGoer_y hc hM ho, bRs, if_neg (by decide), bRs, if_neg (by decide), if_pos]
      rw [eqP (by omega) (by omega)]
      exact Classical.byContradiction fun q => h ⟨g, o, hg, ho, q, rfl, rfl⟩
    · rw [oGoer_y hc hM hg, oGoer_n hc hM q, bRs, if_neg (by decide), bRs, if_pos rfl]
  · rw [oGoer_n hc hM q, bRs, if_pos rfl]
end
/-! the model's row taken from now -/
theorem copies_s {N : Nat} {c : gar} {v : Nat} {R : Nat → Int32} {M : mS} (hN : 1000 ≤ N) (hc : gOk c) (hM : gM c v M) (h : ∀ k, k < 29 → M.1 95 k = R k) : ∃ B, Mo_copies N M = some B ∧ rM B R ∧ mdM (some (nI (gS c))) B ∧ B.1 64 50 = nI (gS c) ∧ frP M B := by
  unfold Mo_copies
  refine iter (F := fun f i (s : mS) => Mo_copies_2 N f (nI i) s) (n := 29) (Q := fun r => ∃ B, r = some B ∧ rM B R ∧ mdM (some (nI (gS c))) B ∧ B.1 64 50 = nI (gS c) ∧ frP M B) (fun i s => (∀ k, k < i → s.1 96 k = R k) ∧ (∀ a j, a ≠ 96 → s.1 a j = M.1 a j) ∧ s.2 = M.2) ?_ ?_ (Nat.zero_le _) (by omega) ⟨fun k hk => absurd hk (Nat.not_lt_zero _), fun _ _ _ => rfl, rfl⟩
  · rintro f i s hi ⟨h1, h2, h3⟩
    have e95 : s.1 95 i = R i := by rw [h2 95 i (by omega)]; exact h i hi
    refine Or.inl ⟨mWI s 96 i (R i), ⟨fun k hk => ?_, fun a j ha => by rw [mWI_ne ha]; exact h2 a j ha, h3⟩, ?_⟩
    · by_cases e : k = i
      · subst e; rw [rI rfl]
      · rw [rN (by omega)]; exact h1 k (by omega)
    · simp (disch := omega) only [Mo_copies_2, li, leP, if_neg, grd_in, clp, nxs, nI_add, e95]
  · rintro f s ⟨h1, h2, h3⟩
    obtain ⟨g0, g1, g2, g3, g4, g5, -⟩ := hM
    have e64 : s.1 64 18 = nI v := by rw [h2 64 18 (by omega)]; exact g1
    have e82 : s.1 82 v = nI (gS c) := by rw [h2 82 v (by omega)]; exact g5
    refine ⟨mWI (mWI s 64 50 (nI (gS c))) 64 51 0, ?_, fun k hk => ?_, Or.inr ⟨?_, rI rfl⟩, ?_, fun a j q1 q2 q3 q4 q5 q6 q7 q8 q9 q10 q11 => ?_, h3⟩
    · simp (disch := omega) only [Mo_copies_2, li, leP, if_pos, grd_in, clp, nxs, e64, e82]
    · simp (disch := omega) only [mWI_ne]; exact h1 k hk
    · simp (disch := omega) only [rN, rI]
    · simp (disch := omega) only [rN, rI]
    · simp (disch := omega) only [rN]; exact h2 a j q3
theorem copiesStill_s {N : Nat} {c : gar} {v : Nat} {R : Nat → Int32} {M : mS} (hN : 1000 ≤ N) (hc : gOk c) (hM : gM c v M) (h : ∀ k, k < 29 → M.1 95 k = R k) : ∃ B, Mo_copiesStill N M = some B ∧ rM B R ∧ mdM none B ∧ B.1 64 50 = nI (gS c) ∧ frP M B := by
  obtain ⟨B, e, b1, b2, b3, b4⟩ := copies_s hN hc hM h
  refine ⟨mWI B 64 51 1, ?_, fun k hk => ?_, Or.inl ⟨rfl, rI rfl⟩, ?_, b4.trans ⟨fun a j q1 q2 q3 q4 q5 q6 q7 q8 q9 q10 q11 => ?_, rfl⟩⟩
  · unfold Mo_copiesStill; rw [e, bVs, nxs]
  · rw [mWI_ne (by omega)]; exact b1 k hk
  · rw [rN (by omega)]; exact b3
  · rw [rN (by omega)]
