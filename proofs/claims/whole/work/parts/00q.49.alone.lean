/-! longest, alone, earns -/
theorem b_not {x : Int32} {i : Nat} (h : i < 32) : bt (x ^^^ (-1)) i = !bt x i := by
  rw [b_xor, b_m1 i h, Bool.xor_true]
theorem tw_not {f : Nat → Int32} {g n : Nat} (hg : g < n) : f g &&& (tw f n ^^^ (-1)) = f g &&& (oth f g n ^^^ (-1)) := by
  apply b_ext
  intro i hi
  rw [b_and, b_and, b_not hi, b_not hi]
  cases h : bt (f g) i
  · rfl
  · rw [tw_at hg h]
theorem othersBy_s {N : Nat} {c : gar} {v n g k : Nat} {R : Nat → Int32} {B : mS} (hN : 1000 ≤ N) (hk : k ≤ n) (hn : n ≤ 400) (hc : gOk c) (hM : gM c v B) (hF : FILL c R n B) (hg : g < 1000) : Mo_othersBy N (nI g) (nI k) B = some (oth (tK c R k) g (gG c)) := by
  have hG := hc.2.2.2.1
  obtain ⟨h0, h1, h2, h3, h4, -⟩ := hM
  unfold Mo_othersBy
  refine iter (F := fun f i (s : Int32) => Mo_othersBy_5 N B f (nI g) (nI k) s (nI i)) (n := gG c) (Q := fun r => r = some (oth (tK c R k) g (gG c))) (fun i s => s = oth (tK c R k) g i) ?_ ?_ (Nat.zero_le _) (by omega) rfl
  · rintro f i s hi rfl
    refine Or.inl ⟨_, rfl, ?_⟩
    show _ = Mo_othersBy_5 N B f (nI g) (nI k) (oth (tK c R k) g i ||| (if i = g then 0 else tK c R k i)) (nI (i + 1))
    have e1 := (hF k hk i hi).1
    by_cases e : i = g
    · rw [if_pos e, or0]
      simp (disch := omega) only [Mo_othersBy_5, h1, h4, grd_in, clp, leP, eqP, if_neg, if_pos, Mo_othersBy_39, li, nI_add]
    · rw [if_neg e]
      simp (disch := omega) only [Mo_othersBy_5, h1, h4, grd_in, clp, leP, eqP, if_neg, Mo_othersBy_39, li, pk_mul, nI_add, nxs, e1]
  · rintro f s rfl
    simp (disch := omega) only [Mo_othersBy_5, h1, h4, grd_in, clp, leP, if_pos]
theorem WK_58 {c : gar} {M B : mS} {R : Nat → Int32} (h : WK c M R) (hf : ∀ a j, a ≠ 5 → a ≠ 8 → B.1 a j = M.1 a j) : WK c B R := by
  obtain ⟨h1, h2, h3, h4⟩ := h
  have e40 : B.1 40 = M.1 40 := funext fun j => hf 40 j (by omega) (by omega)
  refine ⟨gC_fr h1 (fun a j q => hf a j (by omega) (by omega)), by rw [e40]; exact h2, h3, fun q7 q0 q1 g hg => ?_⟩
  rw [hf 39 7 (by omega) (by omega)] at q7
  rw [changes_c (hf 4 5 (by omega) (by omega))] at q0 q1
  rw [hf 43 g (by omega) (by omega)]
  exact h4 q7 q0 q1 g hg
theorem SEEN_58 {c : gar} {m : Option Int32} {M B : mS} {R : Nat → Int32} (h : SEEN c m M R) (hf : ∀ a j, a ≠ 5 → a ≠ 8 → B.1 a j = M.1 a j) : SEEN c m B R := ⟨fun g hg => (hf _ _ (by omega) (by omega)).trans (h.1 g hg), (hf _ _ (by omega) (by omega)).trans h.2.1, (hf _ _ (by omega) (by omega)).trans h.2.2⟩
def maxI (f : Nat → Int32) : Nat → Int32
  | 0 => 0
  | n + 1 => if maxI f n < f n then f n else maxI f n
theorem longest_C {N : Nat} {c : gar} {n a b : Nat} {R : Nat → Int32} {M : mS} (hN : 1000 ≤ N) (hn : n ≤ 400) (hc : gOk c) (h : WK c M R) (ha : a < gG c) (hb : b < gG c) (hab : a ≠ b) : ∃ B, Tl_longestNight N (nI a) (nI b) (nI n) M = some (maxI (fun k => bc (tK c R k a &&& tK c R k b)) n, B) ∧ frW M B := by
  have hG := hc.2.2.2.1
  unfold Tl_longestNight
  refine iter (F := fun f i (s : Int32 × mS) => Tl_longestNight_6 N f (nI a) (nI b) (nI n) s.1 (nI i) s.2) (n := n) (s := ((0 : Int32), M)) (Q := fun r => ∃ B, r = some (maxI (fun k => bc (tK c R k a &&& tK c R k b)) n, B) ∧ frW M B) (fun i s => s.1 = maxI (fun k => bc (tK c R k a &&& tK c R k b)) i ∧ WK c s.2 (nxn c none R i) ∧ frW M s.2) ?_ ?_ (Nat.zero_le _) (by omega) ⟨rfl, h, frW.refl⟩
  · rintro f i ⟨s, t⟩ hi ⟨h1, h2, h3⟩
    dsimp only at h1 h2 h3
    subst h1
    obtain ⟨B1, b1, b2, b3, b4⟩ := night_W hN hc h2
    obtain ⟨B2, d1, d2, d3⟩ := pass_W hN hc b2 b3
    have sh := shared_s (N := N) (M := B1) hG b3.1 ha hb
    rw [shv_ne hab] at sh
    refine Or.inl ⟨(_, B2), ⟨rfl, d2, (h3.trans b4).trans d3⟩, ?_⟩
    dsimp only
    rw [Tl_longestNight_6, if_neg (by rw [leP (by omega) (by omega)]; omega), b1, bVs, sh, bRs, nxs, d1, bVs, i1, nI_add]
    rfl
  · rintro f ⟨s, t⟩ ⟨h1, h2, h3⟩
    dsimp only at h1 h2 h3
    subst h1
    refine ⟨t, ?_, h3⟩
    simp (disch := omega) only [Tl_longestNight_6, leP, if_pos]
theorem longest_M {N : Nat} {c : gar} {n a b : Nat} {R : Nat → Int32} {B : mS} (hN : 1000 ≤ N) (hn : n ≤ 400) (hc : gOk c) (hF : FILL c R n B) (ha : a < gG c) (hb : b < gG c) : Mo_longest_29 N N (nI a) (nI b) (nI n) 0 0 B = some (maxI (fun k => bc (tK c R k a &&& tK c R k b)) n, B) := by
  have hG := hc.2.2.2.1
  refine iter (F := fun f i (s : Int32) => Mo_longest_29 N f (nI a) (nI b) (nI n) s (nI i) B) (n := n) (Q := fun r => r = some (maxI (fun k => bc (tK c R k a &&& tK c R k b)) n, B)) (fun i s => s = maxI (fun k => bc (tK c R k a &&& tK c R k b)) i) ?_ ?_ (Nat.zero_le _) (by omega) rfl
  · rintro f i s hi rfl
    refine Or.inl ⟨_, rfl, ?_⟩
    have e1 := (hF i (by omega) a ha).1
    have e2 := (hF i (by omega) b hb).1
    have eb := bits_s (N := N) (M := B) hN (sml_and (y := tK c R i b) (sml_tK hc (R := R) (k := i) (g := a)))
    show _ = Mo_longest_29 N f (nI a) (nI b) (nI n) (if maxI (fun k => bc (tK c R k a &&& tK c R k b)) i < bc (tK c R i a &&& tK c R i b) then bc (tK c R i a &&& tK c R i b) else maxI (fun k => bc (tK c R k a &&& tK c R k b)) i) (nI (i + 1)) B
    simp (disch := omega) only [Mo_longest_29, leP, if_neg, li, pk_mul, nI_add, grd_in, clp, e1, e2, eb, bRs, Mo_longest_74]
    by_cases z : maxI (fun k => bc (tK c R k a &&& tK c R k b)) i < bc (tK c R i a &&& tK c R i b)
    · rw [if_pos z, if_neg (fa_of_lt z).2.1]
    · rw [if_neg z, if_pos (fa_of_nlt z)]
  · rintro f s rfl
    simp (disch := omega) only [Mo_longest_29, leP, if_pos]
theorem call_longest {N : Nat} {M : mS} (hN : 1000 ≤ N) (h : INV M) (x y z : Int32) : ∃ r A B, Md_longest N x y z M = some (r, A) ∧ Mo_longest N x y z A = some (r, B) ∧ INV B := by
  obtain ⟨c, v, R, X, hc, hC, hM⟩ := h
  unfold Md_longest Mo_longest Mo_isLong
  rw [show (200 : Int32) = nI 200 from rfl]
  by_cases q : twoA c x y
  · obtain ⟨g, o, hg, ho, hgo, rfl, rfl⟩ := q
    rcases arg_c z 201 (by omega) with ⟨n, hn, rfl⟩ | q
    · obtain ⟨hw, hp, hR, hz⟩ := hC.2.1
      obtain ⟨A, eA, wA, fA, rA, -⟩ := beginW (N := N) hc hC.1 hw hR
      obtain ⟨A2, eA2, f2⟩ := longest_C (n := n) hN (by omega) hc wA hg ho hgo
      have fQ : frQ M A2 := (fA.trans f2).frQ
      have hMA := MI_u hM fQ.frU
      obtain ⟨B, eB, b1, b2, b3⟩ := fillsStill_s (n := n) hN (by omega) hc hMA.1 hMA.2.1 hR
      have eo := longest_M (N := N) hN (by omega) hc b1 hg ho
      refine ⟨maxI (fun k => bc (tK c R k g &&& tK c R k o)) n, A2, B, ?_, ?_, INV_q hc hC hM fQ b3⟩
      · rw [two_y hc hC.1 hg ho hgo, if_neg (by decide), with_y (by omega) (by omega), if_neg (by decide), eA, bVs, eA2, bWs]
      · rw [otwo_y hc hMA.1 hg ho hgo, bRs, if_neg (by decide), inK_y (by omega) (by omega), if_neg (by decide), eB, bVs, eo]
    · refine ⟨-1, M, M, ?_, ?_, c, v, R, X, hc, hC, hM⟩
      · rw [two_y hc hC.1 hg ho hgo, if_neg (by decide), with_n q (by omega), if_pos (by decide)]
      · rw [otwo_y hc hM.1 hg ho hgo, bRs, if_neg (by decide), inK_n q (by omega), if_pos (by decide)]
  · refine ⟨-1, M, M, ?_, ?_, c, v, R, X, hc, hC, hM⟩
    · rw [two_n hc hC.1 q, if_pos (by decide)]
    · rw [otwo_n hc hM.1 q, bRs, if_pos (by decide)]
noncomputable def alF (c : gar) (R : Nat → Int32) (g k : Nat) : Int32 := bc (tK c R k g &&& (oth (tK c R k) g (gG c) ^^^ (-1)))
noncomputable def eaF (c : gar) (R : Nat → Int32) (g k : Nat) : Int32 := bc (tK c R k g &&& oth (tK c R k) g (gG c)) * wK c R k g
theorem alone_C {N : Nat} {c : gar} {n g : Nat} {R : Nat → Int32} {M : mS} (hN : 1000 ≤ N) (hn : n ≤ 400) (hc : gOk c) (h : WK c M R) (hg : g < gG c) : ∃ B, Tl_lonelyHours N (nI g) (nI n) M = some (sumI (alF c R g) n, B) ∧ frW M B := by
  have hG := hc.2.2.2.1
  unfold Tl_lonelyHours
  refine iter (F := fun f i (s : Int32 × mS) => Tl_lonelyHours_5 N f (nI g) (nI n) s.1 (nI i) s.2) (n := n) (s := ((0 : Int32), M)) (Q := fun r => ∃ B, r = some (sumI (alF c R g) n, B) ∧ frW M B) (fun i s => s.1 = sumI (alF c R g) i ∧ WK c s.2 (nxn c none R i) ∧ frW M s.2) ?_ ?_ (Nat.zero_le _) (by omega) ⟨rfl, h, frW.refl⟩
  · rintro f i ⟨s, t⟩ hi ⟨h1, h2, h3⟩
    dsimp only at h1 h2 h3
    subst h1
    obtain ⟨B1, b1, b2, b3, b4⟩ := night_W hN hc h2
    obtain ⟨B2, d1, d2, d3⟩ := pass_W hN hc b2 b3
    have e41 := b3.1 g hg
    have e39 := b3.2.2
    refine Or.inl ⟨(_, B2), ⟨rfl, d2, (h3.trans b4).trans d3⟩, ?_⟩
    dsimp only
    rw [Tl_lonelyHours_5, if_neg (by rw [leP (by omega) (by omega)]; omega), b1, bVs, grd_in (by omega) (by omega), clp (by omega), e41, e39, bc_of, tw_not hg, nxs, d1, bVs, i1, nI_add]
    rfl
  · rintro f ⟨s, t⟩ ⟨h1, h2, h3⟩
    dsimp only at h1 h2 h3
    subst h1
    refine ⟨t, ?_, h3⟩
    simp (disch := omega) only [Tl_lonelyHours_5, leP, if_pos]
theorem alone_M {N : Nat} {c : gar} {v n g : Nat} {R : Nat → Int32} {B : mS} (hN : 1000 ≤ N) (hn : n ≤ 400) (hc : gOk c) (hM : gM c v B) (hF : FILL c R n B) (hg : g < gG c) : Mo_alone_27 N N (nI g) (nI n) 0 0 B = some (sumI (alF c R g) n, B) := by
  have hG := hc.2.2.2.1
  refine iter (F := fun f i (s : Int32) => Mo_alone_27 N f (nI g) (nI n) s (nI i) B) (n := n) (Q := fun r => r = some (sumI (alF c R g) n, B)) (fun i s => s = sumI (alF c R g) i) ?_ ?_ (Nat.zero_le _) (by omega) rfl
  · rintro f i s hi rfl
    refine Or.inl ⟨_, rfl, ?_⟩
    have e1 := (hF i (by omega) g hg).1
    have eo := othersBy_s (N := N) (k := i) (g := g) hN (by omega) hn hc hM hF (by omega)
    have eb := bits_s (N := N) (M := B) hN (sml_and (y := oth (tK c R i) g (gG c) ^^^ (-1)) (sml_tK hc (R := R) (k := i) (g := g)))
    rw [Mo_alone_27, if_neg (by rw [leP (by omega) (by omega)]; omega), show (5 : Int32) * nI i = nI (5 * i) from pk_mul 5 i, nI_add, grd_in (by omega) (by omega), clp (by omega), eo, bRs, e1, eb, bRs, nxs, i1, nI_add]
    rfl
  · rintro f s rfl
    simp (disch := omega) only [Mo_alone_27, leP, if_pos]
theorem earns_C {N : Nat} {c : gar} {n g : Nat} {R : Nat → Int32} {M : mS} (hN : 1000 ≤ N) (hn : n ≤ 400) (hc : gOk c) (h : WK c M R) (hg : g < gG c) : ∃ B, Tl_earnings N (nI g) (nI n) M = some (sumI (eaF c R g) n, B) ∧ frW M B := by
  have hG := hc.2.2.2.1
  unfold Tl_earnings
  refine iter (F := fun f i (s : Int32 × mS) => Tl_earnings_5 N f (nI g) (nI n) s.1 (nI i) s.2) (n := n) (s := ((0 : Int32), M)) (Q := fun r => ∃ B, r = some (sumI (eaF c R g) n, B) ∧ frW M B) (fun i s => s.1 = sumI (eaF c R g) i ∧ WK c s.2 (nxn c none R i) ∧ frW M s.2) ?_ ?_ (Nat.zero_le _) (by omega) ⟨rfl, h, frW.refl⟩
  · rintro f i ⟨s, t⟩ hi ⟨h1, h2, h3⟩
    dsimp only at h1 h2 h3
    subst h1
    obtain ⟨B1, b1, b2, b3, b4⟩ := night_W hN hc h2
    obtain ⟨B3, g1, g2, g3⟩ := lawG (k := 2) hN hc b2.1 b2.2.1 b2.2.2.1 hg (by omega)
    obtain ⟨B2, d1, d2, d3⟩ := pass_W hN hc (WK_58 b2 g2) (SEEN_58 b3 g2)
    have e41 := b3.1 g hg
    have e39 := b3.2.2
    have f3 : frW B1 B3 := ⟨fun a j q1 q2 q3 => g2 a j q1 q2, g3⟩
    refine Or.inl ⟨(_, B2), ⟨rfl, d2, ((h3.trans b4).trans f3).trans d3⟩, ?_⟩
    dsimp only
    rw [Tl_earnings_5, if_neg (by rw [leP (by omega) (by omega)]; omega), b1, bVs, grd_in (by omega) (by omega), clp (by omega), e41, e39, show (2 : Int32) = nI 2 from rfl, g1, bWs, lawV2, nxs, d1, bVs, i1, nI_add, bc_of, tw_oth hg]
    rfl
  · rintro f ⟨s, t⟩ ⟨h1, h2, h3⟩
    dsimp only at h1 h2 h3
    subst h1
    refine ⟨t, ?_, h3⟩
    simp (disch := omega) only [Tl_earnings_5, leP, if_pos]
theorem earns_M {N : Nat} {c : gar} {v n g : Nat} {R : Nat → Int32} {B : mS} (hN : 1000 ≤ N) (hn : n ≤ 400) (hc : gOk c) (hM : gM c v B) (hF : FILL c R n B) (hg : g < gG c) : Mo_earns_27 N N (nI g) (nI n) 0 0 B = some (sumI (eaF c R g) n, B) := by
  have hG := hc.2.2.2.1
  refine iter (F := fun f i (s : Int32) => Mo_earns_27 N f (nI g) (nI n) s (nI i) B) (n := n) (Q := fun r => r = some (sumI (eaF c R g) n, B)) (fun i s => s = sumI (eaF c R g) i) ?_ ?_ (Nat.zero_le _) (by omega) rfl
  · rintro f i s hi rfl
    refine Or.inl ⟨_, rfl, ?_⟩
    have e1 := (hF i (by omega) g hg).1
    have e2 := (hF i (by omega) g hg).2
    have eo := othersBy_s (N := N) (k := i) (g := g) hN (by omega) hn hc hM hF (by omega)
    have eb := bits_s (N := N) (M := B) hN (sml_and (y := oth (tK c R i) g (gG c)) (sml_tK hc (R := R) (k := i) (g := g)))
    rw [Mo_earns_27, if_neg (by rw [leP (by omega) (by omega)]; omega), show (5 : Int32) * nI i = nI (5 * i) from pk_mul 5 i, nI_add, grd_in (by omega) (by omega), grd_in (by omega) (by omega), clp (by omega), eo, bRs, e1, eb, bRs, e2, nxs, i1, nI_add, Int32.mul_comm]
    rfl
  · rintro f s rfl
    simp (disch := omega) only [Mo_earns_27, leP, if_pos]
theorem call_alone {N : Nat} {M : mS} (hN : 1000 ≤ N) (h : INV M) (x z : Int32) : ∃ r A B, Md_alone N x z M = some (r, A) ∧ Mo_alone N x z A = some (r, B) ∧ INV B := by
  obtain ⟨c, v, R, X, hc, hC, hM⟩ := h
  obtain ⟨hc1, hc2, hc3, hc4, hc5, hc6⟩ := id hc
  unfold Md_alone Mo_alone Mo_isLong
  rw [show (200 : Int32) = nI 200 from rfl]
  rcases arg_c x (gG c) (by omega) with ⟨g, hg, rfl⟩ | q
  · rcases arg_c z 201 (by omega) with ⟨n, hn, rfl⟩ | q
    · obtain ⟨hw, hp, hR, hz⟩ := hC.2.1
      obtain ⟨A, eA, wA, fA, rA, -⟩ := beginW (N := N) hc hC.1 hw hR
      obtain ⟨A2, eA2, f2⟩ := alone_C (n := n) hN (by omega) hc wA hg
      have fQ : frQ M A2 := (fA.trans f2).frQ
      have hMA := MI_u hM fQ.frU
      obtain ⟨B, eB, b1, b2, b3⟩ := fillsStill_s (n := n) hN (by omega) hc hMA.1 hMA.2.1 hR
      have eo := alone_M (N := N) hN (by omega) hc b2 b1 hg
      refine ⟨sumI (alF c R g) n, A2, B, ?_, ?_, INV_q hc hC hM fQ b3⟩
      · rw [cGoer_y hc hC.1 hg, if_neg (by decide), with_y (by omega) (by omega), if_neg (by decide), eA, bVs, eA2, bWs]
      · rw [oGoer_y hc hMA.1 hg, bRs, if_neg (by decide), inK_y (by omega) (by omega), if_neg (by decide), eB, bVs, eo]
    · refine ⟨-1, M, M, ?_, ?_, c, v, R, X, hc, hC, hM⟩
      · rw [cGoer_y hc hC.1 hg, if_neg (by decide), with_n q (by omega), if_pos (by decide)]
      · rw [oGoer_y hc hM.1 hg, bRs, if_neg (by decide), inK_n q (by omega), if_pos (by decide)]
  · refine ⟨-1, M, M, ?_, ?_, c, v, R, X, hc, hC, hM⟩
    · rw [cGoer_n hC.1 q, if_pos (by decide)]
    · rw [oGoer_n hc hM.1 q, bRs, if_pos (by decide)]
theorem call_earns {N : Nat} {M : mS} (hN : 1000 ≤ N) (h : INV M) (x z : Int32) : ∃ r A B, Md_earns N x z M = some (r, A) ∧ Mo_earns N x z A = some (r, B) ∧ INV B := by
  obtain ⟨c, v, R, X, hc, hC, hM⟩ := h
  obtain ⟨hc1, hc2, hc3, hc4, hc5, hc6⟩ := id hc
  unfold Md_earns Mo_earns Mo_isLong
  rw [show (200 : Int32) = nI 200 from rfl]
  rcases arg_c x (gG c) (by omega) with ⟨g, hg, rfl⟩ | q
  · rcases arg_c z 201 (by omega) with ⟨n, hn, rfl⟩ | q
    · obtain ⟨hw, hp, hR, hz⟩ := hC.2.1
      obtain ⟨A, eA, wA, fA, rA, -⟩ := beginW (N := N) hc hC.1 hw hR
      obtain ⟨A2, eA2, f2⟩ := earns_C (n := n) hN (by omega) hc wA hg
      have fQ : frQ M A2 := (fA.trans f2).frQ
      have hMA := MI_u hM fQ.frU
      obtain ⟨B, eB, b1, b2, b3⟩ := fillsStill_s (n := n) hN (by omega) hc hMA.1 hMA.2.1 hR
      have eo := earns_M (N := N) hN (by omega) hc b2 b1 hg
      refine ⟨sumI (eaF c R g) n, A2, B, ?_, ?_, INV_q hc hC hM fQ b3⟩
      · rw [cGoer_y hc hC.1 hg, if_neg (by decide), with_y (by omega) (by omega), if_neg (by decide), eA, bVs, eA2, bWs]
      · rw [oGoer_y hc hMA.1 hg, bRs, if_neg (by decide), inK_y (by omega) (by omega), if_neg (by decide), eB, bVs, eo]
    · refine ⟨-1, M, M, ?_, ?_, c, v, R, X, hc, hC, hM⟩
      · rw [cGoer_y hc hC.1 hg, if_neg (by decide), with_n q (by omega), if_pos (by decide)]
      · rw [oGoer_y hc hM.1 hg, bRs, if_neg (by decide), inK_n q (by omega), if_pos (by decide)]
  · refine ⟨-1, M, M, ?_, ?_, c, v, R, X, hc, hC, hM⟩
    · rw [cGoer_n hC.1 q, if_pos (by decide)]
    · rw [oGoer_n hc hM.1 q, bRs, if_pos (by decide)]
