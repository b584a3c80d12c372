theorem i1 : (1 : Int32) = nI 1 := rfl
/-! NIGHTS TO COME in the model: who is there, what an hour is worth -/
def frF (M B : mS) : Prop := (∀ a j, a ≠ 93 → a ≠ 94 → a ≠ 96 → a ≠ 97 → a ≠ 99 → a ≠ 100 → (a ≠ 64 ∨ j ≠ 47) → B.1 a j = M.1 a j) ∧ B.2 = M.2
theorem frF.refl {M : mS} : frF M M := ⟨fun _ _ _ _ _ _ _ _ _ => rfl, rfl⟩
theorem frF.trans {A B C : mS} (h : frF A B) (g : frF B C) : frF A C := ⟨fun a j q1 q2 q3 q4 q5 q6 q7 => (g.1 a j q1 q2 q3 q4 q5 q6 q7).trans (h.1 a j q1 q2 q3 q4 q5 q6 q7), g.2.trans h.2⟩
theorem frM.frF {A B : mS} (h : frM A B) : frF A B := ⟨fun a j q1 q2 q3 q4 q5 q6 q7 => h.1 a j q1 q2 q3 q4 q7, h.2⟩
theorem frF.frP {A B : mS} (h : frF A B) : frP A B := ⟨fun a j q1 q2 q3 q4 q5 q6 q7 q8 q9 q10 q11 => h.1 a j q1 q2 q3 q4 q5 q6 (by omega), h.2⟩
theorem frF.gM {c : gar} {v : Nat} {M B : mS} (h : frF M B) (hM : gM c v M) : gM c v B := h.frP.gM hM
theorem frF.md {M B : mS} {m : Option Int32} (h : frF M B) (hM : mdM m M) : mdM m B := by
  unfold mdM
  rw [h.1 64 51 (by omega) (by omega) (by omega) (by omega) (by omega) (by omega) (by omega), h.1 64 50 (by omega) (by omega) (by omega) (by omega) (by omega) (by omega) (by omega)]; exact hM
noncomputable def tK (c : gar) (R : Nat → Int32) (k g : Nat) : Int32 := th c none (nxn c none R k) g
noncomputable def wK (c : gar) (R : Nat → Int32) (k g : Nat) : Int32 := nI (woN c (nxn c none R k) g)
def FILL (c : gar) (R : Nat → Int32) (n : Nat) (B : mS) : Prop := ∀ k, k ≤ n → ∀ g, g < gG c → B.1 99 (5 * k + g) = tK c R k g ∧ B.1 100 (5 * k + g) = wK c R k g
theorem fills_13 {N : Nat} {c : gar} {v n k : Nat} {R : Nat → Int32} {s : mS} {k2 : Int32 → Int32 → mS → Option mS} (hN : 1000 ≤ N) (hk : k ≤ 400) (hc : gOk c) (hM : gM c v s) (hr : rM s R) (hR : VR c R) :
    ∃ B, (∀ g, g < gG c → B.1 99 (5 * k + g) = s.1 97 g ∧ B.1 100 (5 * k + g) = nI (woN c R g)) ∧ (∀ j, j < 5 * k → B.1 99 j = s.1 99 j ∧ B.1 100 j = s.1 100 j) ∧ (∀ a j, a ≠ 93 → a ≠ 94 → a ≠ 99 → a ≠ 100 → (a ≠ 64 ∨ j ≠ 47) → B.1 a j = s.1 a j) ∧ B.2 = s.2 ∧ Mo_fillsNights_13 N k2 N (nI n) (nI k) 0 s = bV (Mo_nightGoes N B) fun M3 => k2 (nI n) (nI (k + 1)) M3 := by
  obtain ⟨hc1, hc2, hc3, hc4, hc5, hc6⟩ := id hc
  have hv := hM.1
  refine iter (F := fun f i (t : mS) => Mo_fillsNights_13 N k2 f (nI n) (nI k) (nI i) t) (f := N) (s := s) (i := 0) (n := gG c) (Q := fun r => ∃ B, (∀ g, g < gG c → B.1 99 (5 * k + g) = s.1 97 g ∧ B.1 100 (5 * k + g) = nI (woN c R g)) ∧ (∀ j, j < 5 * k → B.1 99 j = s.1 99 j ∧ B.1 100 j = s.1 100 j) ∧ (∀ a j, a ≠ 93 → a ≠ 94 → a ≠ 99 → a ≠ 100 → (a ≠ 64 ∨ j ≠ 47) → B.1 a j = s.1 a j) ∧ B.2 = s.2 ∧ r = bV (Mo_nightGoes N B) fun M3 => k2 (nI n) (nI (k + 1)) M3)
    (fun i t => (∀ g, g < i → t.1 99 (5 * k + g) = s.1 97 g ∧ t.1 100 (5 * k + g) = nI (woN c R g)) ∧ (∀ j, j < 5 * k → t.1 99 j = s.1 99 j ∧ t.1 100 j = s.1 100 j) ∧ (∀ a j, a ≠ 93 → a ≠ 94 → a ≠ 99 → a ≠ 100 → (a ≠ 64 ∨ j ≠ 47) → t.1 a j = s.1 a j) ∧ t.2 = s.2) ?_ ?_ (Nat.zero_le _) (by omega) ⟨fun g hg => absurd hg (Nat.not_lt_zero _), fun _ _ => ⟨rfl, rfl⟩, fun _ _ _ _ _ _ _ => rfl, rfl⟩
  · rintro f i t hi ⟨h1, h2, h3, h4⟩
    have t64 : t.1 64 18 = nI v := (h3 _ _ (by omega) (by omega) (by omega) (by omega) (by omega)).trans hM.2.1
    have t78 : t.1 78 v = nI (gG c) := (h3 _ _ (by omega) (by omega) (by omega) (by omega) (by omega)).trans hM.2.2.2.2.1
    have t97 : t.1 97 i = s.1 97 i := h3 _ _ (by omega) (by omega) (by omega) (by omega) (by omega)
    have f1 : ∀ a j, a ≠ 93 → a ≠ 94 → a ≠ 99 → a ≠ 100 → (a ≠ 64 ∨ j ≠ 47) → (mWI t 99 (5 * k + i) (s.1 97 i)).1 a j = s.1 a j := fun a j q1 q2 q3 q4 q5 => by rw [mWI_ne q3]; exact h3 a j q1 q2 q3 q4 q5
    obtain ⟨B, eB, fB⟩ := worthOf_s (N := N) (M := mWI t 99 (5 * k + i) (s.1 97 i)) hN hc (gM_fr hM (fun a j q => f1 a j (by omega) (by omega) (by omega) (by omega) (by omega))) (fun z hz => by rw [f1 96 z (by omega) (by omega) (by omega) (by omega) (by omega)]; exact hr z hz) hR hi
    refine Or.inl ⟨mWI B 100 (5 * k + i) (nI (woN c R i)), ⟨fun g hg => ?_, fun j hj => ?_, fun a j q1 q2 q3 q4 q5 => ?_, fB.2.trans h4⟩, ?_⟩
    · by_cases e : g = i
      · subst e
        rw [rI rfl, mWI_ne (by omega), fB.1 99 _ (by omega) (by omega) (by omega), rI rfl]; exact ⟨rfl, rfl⟩
      · rw [rN (by omega), rN (by omega), fB.1 99 _ (by omega) (by omega) (by omega), fB.1 100 _ (by omega) (by omega) (by omega), rN (by omega), rN (by omega)]; exact h1 g (by omega)
    · rw [rN (by omega), rN (by omega), fB.1 99 _ (by omega) (by omega) (by omega), fB.1 100 _ (by omega) (by omega) (by omega), rN (by omega), rN (by omega)]; exact h2 j hj
    · rw [mWI_ne q4, fB.1 a j q1 q2 q5]; exact f1 a j q1 q2 q3 q4 q5
    · simp (disch := omega) only [Mo_fillsNights_13, t64, t78, leP, if_neg, li, pk_mul, nI_add, grd_in, clp, nxs, t97, eB, bWs]
  · rintro f t ⟨h1, h2, h3, h4⟩
    have t64 : t.1 64 18 = nI v := (h3 _ _ (by omega) (by omega) (by omega) (by omega) (by omega)).trans hM.2.1
    have t78 : t.1 78 v = nI (gG c) := (h3 _ _ (by omega) (by omega) (by omega) (by omega) (by omega)).trans hM.2.2.2.2.1
    refine ⟨t, h1, h2, h3, h4, ?_⟩
    simp (disch := omega) only [Mo_fillsNights_13, t64, t78, leP, if_pos, grd_in, clp, li, nI_add]
theorem fillsNights_s {N : Nat} {c : gar} {v n : Nat} {R : Nat → Int32} {M : mS} (hN : 1000 ≤ N) (hn : n ≤ 400) (hc : gOk c) (hM : gM c v M) (hr : rM M R) (hR : VR c R) (hm : mdM none M) : ∃ B, Mo_fillsNights N (nI n) M = some B ∧ FILL c R n B ∧ frF M B := by
  unfold Mo_fillsNights
  refine iter (F := fun f i (t : mS) => Mo_fillsNights_2 N f (nI n) (nI i) t) (n := n + 1) (Q := fun r => ∃ B, r = some B ∧ FILL c R n B ∧ frF M B)
    (fun i t => (∀ k, k < i → ∀ g, g < gG c → t.1 99 (5 * k + g) = tK c R k g ∧ t.1 100 (5 * k + g) = wK c R k g) ∧ rM t (nxn c none R i) ∧ frF M t) ?_ ?_ (Nat.zero_le _) (by omega) ⟨fun g hg => absurd hg (Nat.not_lt_zero _), hr, frF.refl⟩
  · rintro f i t hi ⟨h1, h2, h3⟩
    have hG := hc.2.2.2.1
    obtain ⟨A, eA, a1, a2, a3⟩ := fillsThere_s hN hc (h3.gM hM) h2 (VR_nxn hc hR i) (h3.md hm)
    have hA := a2.frF.gM (h3.gM hM)
    obtain ⟨B, b1, b2, b3, b4, b5⟩ := fills_13 (N := N) (n := n) (k := i) (k2 := Mo_fillsNights_2 N f) hN (by omega) hc hA a3 (VR_nxn hc hR i)
    have fB : frF A B := ⟨fun a j q1 q2 q3 q4 q5 q6 q7 => b3 a j q1 q2 q5 q6 q7, b4⟩
    have f2 := h3.trans (a2.frF.trans fB)
    obtain ⟨D, eD, d1, d2, d3⟩ := nightGoes_s (M := B) (R := nxn c none R i) hN hc (f2.gM hM) (fun k hk => by rw [b3 96 k (by omega) (by omega) (by omega) (by omega) (by omega)]; exact a3 k hk) (VR_nxn hc hR i) (f2.md hm)
    refine Or.inl ⟨D, ⟨fun k hk g hg => ?_, d2, f2.trans d3.frF⟩, ?_⟩
    · rw [d3.1 99 _ (by omega) (by omega) (by omega) (by omega) (by omega), d3.1 100 _ (by omega) (by omega) (by omega) (by omega) (by omega)]
      by_cases e : k = i
      · subst e
        rw [(b1 g hg).1, (b1 g hg).2, a1 g (by omega)]; exact ⟨rfl, rfl⟩
      · rw [(b2 (5 * k + g) (by omega)).1, (b2 (5 * k + g) (by omega)).2, a2.1 99 _ (by omega) (by omega) (by omega) (by omega) (by omega), a2.1 100 _ (by omega) (by omega) (by omega) (by omega) (by omega)]
        exact h1 k (by omega) g hg
    · rw [Mo_fillsNights_2, if_neg (by rw [ltP (by omega) (by omega)]; omega), eA, bVs, b5, eD, bVs]
  · rintro f t ⟨h1, h2, h3⟩
    refine ⟨t, ?_, fun k hk g hg => h1 k (by omega) g hg, h3⟩
    rw [Mo_fillsNights_2, if_pos (by rw [ltP (by omega) (by omega)]; omega)]
theorem fillsStill_s {N : Nat} {c : gar} {v n : Nat} {R : Nat → Int32} {M : mS} (hN : 1000 ≤ N) (hn : n ≤ 400) (hc : gOk c) (hM : gM c v M) (h : ∀ k, k < 29 → M.1 95 k = R k) (hR : VR c R) : ∃ B, Mo_fillsStill N (nI n) M = some B ∧ FILL c R n B ∧ gM c v B ∧ frP M B := by
  obtain ⟨A, eA, a1, a2, a3, a4⟩ := copiesStill_s hN hc hM h
  obtain ⟨B, eB, b1, b2⟩ := fillsNights_s hN hn hc (a4.gM hM) a1 hR a2
  have f := a4.trans b2.frP
  refine ⟨B, ?_, b1, f.gM hM, f⟩
  unfold Mo_fillsStill
  rw [eA, bVs, eB, bVs]
/-! OFTEN, LONGEST, ALONE, EARNS -/
theorem sml_tK {c : gar} (hc : gOk c) {R : Nat → Int32} {k g : Nat} : sml (tK c R k g) := sml_th hc
theorem oftenBy_s {N : Nat} {c : gar} {n a b L : Nat} {R : Nat → Int32} {B : mS} (hN : 1000 ≤ N) (hn : n ≤ L) (hL : L ≤ 400) (hc : gOk c) (hF : FILL c R L B) (ha : a < gG c) (hb : b < gG c) : Mo_oftenBy N (nI a) (nI b) (nI n) B = some (sumI (fun k => bc (tK c R k a &&& tK c R k b)) n) := by
  have hG := hc.2.2.2.1
  unfold Mo_oftenBy
  refine iter (F := fun f i (s : Int32) => Mo_oftenBy_6 N B f (nI a) (nI b) (nI n) s (nI i)) (n := n) (Q := fun r => r = some (sumI (fun k => bc (tK c R k a &&& tK c R k b)) n)) (fun i s => s = sumI (fun k => bc (tK c R k a &&& tK c R k b)) i) ?_ ?_ (Nat.zero_le _) (by omega) rfl
  · rintro f i s hi rfl
    refine Or.inl ⟨_, rfl, ?_⟩
    have e1 := (hF i (by omega) a ha).1
    have e2 := (hF i (by omega) b hb).1
    have eb := bits_s (N := N) (M := B) hN (sml_and (y := tK c R i b) (sml_tK hc (R := R) (k := i) (g := a)))
    simp (disch := omega) only [Mo_oftenBy_6, leP, if_neg, li, pk_mul, nI_add, grd_in, clp, e1, e2, eb, bRs, nxs]
    rfl
  · rintro f s rfl
    simp (disch := omega) only [Mo_oftenBy_6, leP, if_pos]
/-- a walk of the class by still nights -/
theorem night_W {N : Nat} {c : gar} {R : Nat → Int32} {s : mS} {i : Nat} (hN : 1000 ≤ N) (hc : gOk c) (h : WK c s (nxn c none R i)) : ∃ B, Wk_see N (-1) s = some B ∧ WK c B (nxn c none R i) ∧ SEEN c none B (nxn c none R i) ∧ frW s B := by
  obtain ⟨B, b1, b2, b3, b4, b5⟩ := seeW (m := none) (x1 := -1) hN hc h (Or.inl ⟨rfl, rfl⟩)
  exact ⟨B, b1, b2, b3, b4⟩
theorem pass_W {N : Nat} {c : gar} {R : Nat → Int32} {s : mS} {i : Nat} (hN : 1000 ≤ N) (hc : gOk c) (h : WK c s (nxn c none R i)) (hs : SEEN c none s (nxn c none R i)) : ∃ B, Wk_pass N s = some B ∧ WK c B (nxn c none R (i + 1)) ∧ frW s B := by
  obtain ⟨B, b1, b2, b3, b4⟩ := passW hN hc h hs
  exact ⟨B, b1, b2, b3⟩
theorem sharedHours_s {N : Nat} {c : gar} {n a b : Nat} {R : Nat → Int32} {M : mS} (hN : 1000 ≤ N) (hn : n ≤ 400) (hc : gOk c) (h : WK c M R) (ha : a < gG c) (hb : b < gG c) (hab : a ≠ b) : ∃ B, Tl_sharedHours N (nI a) (nI b) (nI n) M = some (sumI (fun k => bc (tK c R k a &&& tK c R k b)) n, B) ∧ frW M B := by
  have hG := hc.2.2.2.1
  unfold Tl_sharedHours
  refine iter (F := fun f i (s : Int32 × mS) => Tl_sharedHours_6 N f (nI a) (nI b) (nI n) s.1 (nI i) s.2) (n := n) (s := ((0 : Int32), M)) (Q := fun r => ∃ B, r = some (sumI (fun k => bc (tK c R k a &&& tK c R k b)) n, B) ∧ frW M B) (fun i s => s.1 = sumI (fun k => bc (tK c R k a &&& tK c R k b)) i ∧ WK c s.2 (nxn c none R i) ∧ frW M s.2) ?_ ?_ (Nat.zero_le _) (by omega) ⟨rfl, h, frW.refl⟩
  · rintro f i ⟨s, t⟩ hi ⟨h1, h2, h3⟩
    dsimp only at h1 h2 h3
    subst h1
    obtain ⟨B1, b1, b2, b3, b4⟩ := night_W hN hc h2
    obtain ⟨B2, d1, d2, d3⟩ := pass_W hN hc b2 b3
    have sh := shared_s (N := N) (M := B1) hG b3.1 ha hb
    rw [shv_ne hab] at sh
    refine Or.inl ⟨(_, B2), ⟨rfl, d2, (h3.trans b4).trans d3⟩, ?_⟩
    dsimp only
    rw [Tl_sharedHours_6, if_neg (by rw [leP (by omega) (by omega)]; omega), b1, bVs, sh, bRs, nxs, d1, bVs, i1, nI_add]
    rfl
  · rintro f ⟨s, t⟩ ⟨h1, h2, h3⟩
    dsimp only at h1 h2 h3
    subst h1
    refine ⟨t, ?_, h3⟩
    simp (disch := omega) only [Tl_sharedHours_6, leP, if_pos]
theorem call_often {N : Nat} {M : mS} (hN : 1000 ≤ N) (h : INV M) (x y z : Int32) : ∃ r A B, Md_often N x y z M = some (r, A) ∧ Mo_often N x y z A = some (r, B) ∧ INV B := by
  obtain ⟨c, v, R, X, hc, hC, hM⟩ := h
  unfold Md_often Mo_often Mo_isLong
  rw [show (200 : Int32) = nI 200 from rfl]
  by_cases q : twoA c x y
  · obtain ⟨g, o, hg, ho, hgo, rfl, rfl⟩ := q
    rcases arg_c z 201 (by omega) with ⟨n, hn, rfl⟩ | q
    · obtain ⟨hw, hp, hR, hz⟩ := hC.2.1
      obtain ⟨A, eA, wA, fA, rA, -⟩ := beginW (N := N) hc hC.1 hw hR
      obtain ⟨A2, eA2, f2⟩ := sharedHours_s (n := n) hN (by omega) hc wA hg ho hgo
      have fQ : frQ M A2 := (fA.trans f2).frQ
      have hMA := MI_u hM fQ.frU
      obtain ⟨B, eB, b1, b2, b3⟩ := fillsStill_s (n := n) hN (by omega) hc hMA.1 hMA.2.1 hR
      have eo := oftenBy_s (N := N) hN (Nat.le_refl n) (by omega) hc b1 hg ho
      refine ⟨sumI (fun k => bc (tK c R k g &&& tK c R k o)) n, A2, B, ?_, ?_, INV_q hc hC hM fQ b3⟩
      · rw [two_y hc hC.1 hg ho hgo, if_neg (by decide), with_y (by omega) (by omega), if_neg (by decide), eA, bVs, eA2, bWs]
      · rw [otwo_y hc hMA.1 hg ho hgo, bRs, if_neg (by decide), inK_y (by omega) (by omega), if_neg (by decide), eB, bVs, eo, bRs]
    · refine ⟨-1, M, M, ?_, ?_, c, v, R, X, hc, hC, hM⟩
      · rw [two_y hc hC.1 hg ho hgo, if_neg (by decide), with_n q (by omega), if_pos (by decide)]
      · rw [otwo_y hc hM.1 hg ho hgo, bRs, if_neg (by decide), inK_n q (by omega), if_pos (by decide)]
  · refine ⟨-1, M, M, ?_, ?_, c, v, R, X, hc, hC, hM⟩
    · rw [two_n hc hC.1 q, if_pos (by decide)]
    · rw [otwo_n hc hM.1 q, bRs, if_pos (by decide)]
