/-! HOW IT IS NOW: place, dial, shows, goer, together, there -/
theorem call_place {M : mS} (h : INV M) : Md_place M = Mo_place M := by
  obtain ⟨c, v, R, X, hc, hC, hM⟩ := h
  show M.1 0 11 = M.1 64 17
  rw [hC.2.2.2.1, hM.2.2.2.1]
theorem call_dial {N : Nat} {M : mS} (hN : 1000 ≤ N) (h : INV M) (x y : Int32) : ∃ r A B, Md_dial N x y M = some (r, A) ∧ Mo_dial N x y A = some (r, B) ∧ INV B := by
  obtain ⟨c, v, R, X, hc, hC, hM⟩ := h
  obtain ⟨hc1, hc2, hc3, hc4, hc5, hc6⟩ := id hc
  rcases arg_c x (gD c) (by omega) with ⟨d, hd, rfl⟩ | q
  · obtain ⟨hw, hp, hR, hz⟩ := hC.2.1
    obtain ⟨A, eA, wA, fA, rA, -⟩ := beginW (N := N) hc hC.1 hw hR
    have a1 : A.1 34 (1 + d) = R d := by rw [fA.1 34 _ (by omega) (by omega) (by omega)]; exact (hw.2.1 d hd).1
    have a5 : A.1 34 (5 + d) = R (4 + d) := by rw [fA.1 34 _ (by omega) (by omega) (by omega)]; exact (hw.2.1 d hd).2
    have a39 : A.1 3 9 = nI (gS c) := wA.1.2.2.2.1
    have hm : ∀ A', frQ M A' → ∃ B, gM c v B ∧ rM B R ∧ B.1 64 50 = nI (gS c) ∧ frP A' B ∧ ∀ z, Mo_dial N (nI d) z A' = if z = 0 then (grd (mIn (nI d) 29) (some (B.1 96 (nI d).toNatClampNeg, B))) else if z = 1 then (grd (mIn (4 + (nI d)) 29) (some (B.1 96 (4 + (nI d)).toNatClampNeg, B))) else if z = 2 then (bW (Mo_dimsOf N (nI d) B) fun r10 M9 => some (r10, M9)) else if z = 3 then (bW (Mo_isDim N (nI d) B) fun r13 M12 => if r13 = 0 then (some (0, M12)) else (some (1, M12))) else some ((-1), B) := by
      intro A' fr
      have hMA := MI_u hM fr.frU
      obtain ⟨B, eB, b1, b2, b3, b4⟩ := copies_s hN hc hMA.1 hMA.2.1
      refine ⟨B, b4.gM hMA.1, b1, b3, b4, fun z => ?_⟩
      unfold Mo_dial
      rw [oDial_y hc hMA.1 hd, bRs, if_neg (by decide), eB, bVs]
    have e0 : ∀ z, Md_dial N (nI d) z M = if z = 0 then (grd (mIn (1 + nI d) 44) (some (A.1 34 (1 + nI d).toNatClampNeg, A))) else if z = 1 then (grd (mIn (5 + nI d) 44) (some (A.1 34 (5 + nI d).toNatClampNeg, A))) else if z = 2 then (bW (Wk_dims N (nI d) A) fun r8 M7 => some (r8, M7)) else if z = 3 then (bW (Wk_isDark N (nI d) (A.1 3 9) A) fun r11 M10 => if r11 = 0 then (some (0, M10)) else (some (1, M10))) else some ((-1), A) := by
      intro z
      unfold Md_dial
      rw [cDial_y hc hC.1 hd, if_neg (by decide), eA, bVs]
    rcases arg_c y 4 (by omega) with ⟨k, hk, rfl⟩ | q
    · have hk4 : k = 0 ∨ k = 1 ∨ k = 2 ∨ k = 3 := by omega
      rcases hk4 with rfl | rfl | rfl | rfl
      · obtain ⟨B, gB, b1, b3, b4, eB⟩ := hm A fA.frQ
        refine ⟨R d, A, B, ?_, ?_, INV_q hc hC hM fA.frQ b4⟩
        · rw [e0, if_pos (by decide)]; simp (disch := omega) only [li, nI_add, grd_in, clp, a1]
        · rw [eB, if_pos (by decide)]; simp (disch := omega) only [grd_in, clp, b1 d (by omega)]
      · obtain ⟨B, gB, b1, b3, b4, eB⟩ := hm A fA.frQ
        refine ⟨R (4 + d), A, B, ?_, ?_, INV_q hc hC hM fA.frQ b4⟩
        · rw [e0, if_neg (by decide), if_pos (by decide)]; simp (disch := omega) only [li, nI_add, grd_in, clp, a5]
        · rw [eB, if_neg (by decide), if_pos (by decide)]; simp (disch := omega) only [li, nI_add, grd_in, clp, b1 (4 + d) (by omega)]
      · obtain ⟨A2, eA2, f2, l2⟩ := dimsC hN hc wA.1 wA.2.1 hd
        have fQ : frQ M A2 := fA.frQ.trans ⟨fun a j q1 q2 _ => f2 a j q1 q2, l2⟩
        obtain ⟨B, gB, b1, b3, b4, eB⟩ := hm A2 fQ
        obtain ⟨B2, eB2, g2⟩ := dimsOf_s hN hc gB b1 hd
        refine ⟨nI (dmN c R d), A2, B2, ?_, ?_, INV_q hc hC hM fQ (b4.trans g2.frP)⟩
        · rw [e0, if_neg (by decide), if_neg (by decide), if_pos (by decide), eA2, bWs]
        · rw [eB, if_neg (by decide), if_neg (by decide), if_pos (by decide), eB2, bWs]
      · obtain ⟨A2, eA2, f2, l2⟩ := darkC (s := nI (gS c)) hN hc wA.1 wA.2.1 hd
        have fQ : frQ M A2 := fA.frQ.trans ⟨fun a j q1 q2 _ => f2 a j q1 q2, l2⟩
        obtain ⟨B, gB, b1, b3, b4, eB⟩ := hm A2 fQ
        obtain ⟨B2, eB2, g2⟩ := isDim_s hN hc gB b1 hd
        rw [b3] at eB2
        refine ⟨if lotN 100 (nI (gS c)) (8 * R 28 + nI d) < dmN c R d then 1 else 0, A2, B2, ?_, ?_, INV_q hc hC hM fQ (b4.trans g2.frP)⟩
        · rw [e0, if_neg (by decide), if_neg (by decide), if_neg (by decide), if_pos (by decide), a39, eA2, bWs]
          split <;> rfl
        · rw [eB, if_neg (by decide), if_neg (by decide), if_neg (by decide), if_pos (by decide), eB2, bWs]
          split <;> rfl
    · obtain ⟨B, gB, b1, b3, b4, eB⟩ := hm A fA.frQ
      have z0 : ¬ y = 0 := outr_ne q (k := 0) (by omega) (by omega)
      have z1 : ¬ y = 1 := outr_ne q (k := 1) (by omega) (by omega)
      have z2 : ¬ y = 2 := outr_ne q (k := 2) (by omega) (by omega)
      have z3 : ¬ y = 3 := outr_ne q (k := 3) (by omega) (by omega)
      refine ⟨-1, A, B, ?_, ?_, INV_q hc hC hM fA.frQ b4⟩
      · rw [e0]; rw [if_neg z0, if_neg z1, if_neg z2, if_neg z3]
      · rw [eB]; rw [if_neg z0, if_neg z1, if_neg z2, if_neg z3]
  · refine ⟨-1, M, M, ?_, ?_, c, v, R, X, hc, hC, hM⟩
    · unfold Md_dial; rw [cDial_n hC.1 q, if_pos (by decide)]
    · unfold Mo_dial; rw [oDial_n hc hM.1 q, bRs, if_pos (by decide)]
theorem call_shows {N : Nat} {M : mS} (h : INV M) (x y : Int32) : ∃ r, Md_shows N x y M = some r ∧ Mo_shows N x y M = some r := by
  obtain ⟨c, v, R, X, hc, hC, hM⟩ := h
  obtain ⟨hc1, hc2, hc3, hc4, hc5, hc6⟩ := id hc
  unfold Md_shows Mo_shows
  rcases arg_c x (gD c) (by omega) with ⟨d, hd, rfl⟩ | q
  · rcases arg_c y (gH c) (by omega) with ⟨k, hk, rfl⟩ | q
    · obtain ⟨hw, hp, hR, hz⟩ := hC.2.1
      obtain ⟨⟨o, ho, eo⟩, -⟩ := hR.1 d hd
      refine ⟨nI ((k + o) % gH c), ?_, ?_⟩
      · rw [cDial_y hc hC.1 hd, cHour_y hc hC.1 hk, if_neg (by decide), if_neg (by decide)]
        have e1 : M.1 34 (1 + d) = nI o := by rw [(hw.2.1 d hd).1, eo]
        simp (disch := omega) only [li, nI_add, grd_in, clp, e1, hC.1.1, rest_s, bRs]
      · rw [oDial_y hc hM.1 hd, oHour_y hc hM.1 hk, bRs, if_neg (by decide), bRs, if_neg (by decide)]
        have e1 : M.1 95 d = nI o := by rw [hM.2.1 d (by omega), eo]
        unfold Mo_showsBy
        simp (disch := omega) only [nI_add, grd_in, clp, e1, hours_s hM.1, nz_n, rmP, bRs]
    · refine ⟨-1, ?_, ?_⟩
      · rw [cDial_y hc hC.1 hd, cHour_n hC.1 q, if_neg (by decide), if_pos (by decide)]
      · rw [oDial_y hc hM.1 hd, oHour_n hc hM.1 q, bRs, if_neg (by decide), bRs, if_pos (by decide)]
  · refine ⟨-1, ?_, ?_⟩
    · rw [cDial_n hC.1 q, if_pos (by decide)]
    · rw [oDial_n hc hM.1 q, bRs, if_pos (by decide)]
theorem lawV0 {c : gar} {R : Nat → Int32} {g : Nat} : lawV c R 0 g = gL c 0 (vG c R g) := rfl
theorem lawV1 {c : gar} {R : Nat → Int32} {g : Nat} : lawV c R 1 g = nI (stN c R g) := rfl
theorem lawV2 {c : gar} {R : Nat → Int32} {g : Nat} : lawV c R 2 g = nI (woN c R g) := rfl
theorem call_goer {N : Nat} {M : mS} (hN : 1000 ≤ N) (h : INV M) (x y : Int32) : ∃ r A B, Md_goer N x y M = some (r, A) ∧ Mo_goer N x y A = some (r, B) ∧ INV B := by
  obtain ⟨c, v, R, X, hc, hC, hM⟩ := h
  obtain ⟨hc1, hc2, hc3, hc4, hc5, hc6⟩ := id hc
  rcases arg_c x (gG c) (by omega) with ⟨d, hd, rfl⟩ | q
  · obtain ⟨hw, hp, hR, hz⟩ := hC.2.1
    obtain ⟨A, eA, wA, fA, rA, -⟩ := beginW (N := N) hc hC.1 hw hR
    have a9 : A.1 34 (9 + d) = R (8 + d) := by rw [fA.1 34 _ (by omega) (by omega) (by omega)]; exact (hw.2.2 d hd).1
    have a14 : A.1 34 (14 + d) = R (13 + d) := by rw [fA.1 34 _ (by omega) (by omega) (by omega)]; exact (hw.2.2 d hd).2
    have a12 : A.1 12 d = nI (gF c d) := (wA.1.2.2.2.2.1 d hd).1
    have a13 : A.1 13 d = nI (gT c d) := (wA.1.2.2.2.2.1 d hd).2
    have hm : ∀ A', frQ M A' → ∃ B, gM c v B ∧ rM B R ∧ frP A' B ∧ Mo_copies N A' = some B := by
      intro A' fr
      have hMA := MI_u hM fr.frU
      obtain ⟨B, eB, b1, b2, b3, b4⟩ := copies_s hN hc hMA.1 hMA.2.1
      exact ⟨B, b4.gM hMA.1, b1, b4, eB⟩
    have hoy : ∀ A', frQ M A' → Mo_isGoer N (nI d) A' = some 1 := fun A' fr => oGoer_y hc (MI_u hM fr.frU).1 hd
    rcases arg_c y 7 (by omega) with ⟨k, hk, rfl⟩ | q
    · have hk4 : k = 0 ∨ k = 1 ∨ k = 2 ∨ k = 3 ∨ k = 4 ∨ k = 5 ∨ k = 6 := by omega
      have law : ∀ i, i < 3 → ∃ A2, Wk_lawOfGoer N (nI i) (nI d) A = some (lawV c R i d, A2) ∧ frQ M A2 := by
        intro i hi
        obtain ⟨A2, eA2, f2, l2⟩ := lawG (k := i) hN hc wA.1 wA.2.1 hR hd hi
        exact ⟨A2, eA2, fA.frQ.trans ⟨fun a j q1 q2 _ => f2 a j q1 q2, l2⟩⟩
      rcases hk4 with rfl | rfl | rfl | rfl | rfl | rfl | rfl
      · obtain ⟨B, gB, b1, b4, eB⟩ := hm A fA.frQ
        refine ⟨R (8 + d), A, B, ?_, ?_, INV_q hc hC hM fA.frQ b4⟩
        · unfold Md_goer; rw [cGoer_y hc hC.1 hd, if_neg (by decide), eA, bVs, if_pos (by decide)]; simp (disch := omega) only [li, nI_add, grd_in, clp, a9]
        · unfold Mo_goer; rw [hoy A fA.frQ, bRs, if_neg (by decide), eB, bVs, if_pos (by decide)]; simp (disch := omega) only [li, nI_add, grd_in, clp, b1 (8 + d) (by omega)]
      · obtain ⟨B, gB, b1, b4, eB⟩ := hm A fA.frQ
        refine ⟨nI (gF c d), A, B, ?_, ?_, INV_q hc hC hM fA.frQ b4⟩
        · unfold Md_goer; rw [cGoer_y hc hC.1 hd, if_neg (by decide), eA, bVs, if_neg (by decide), if_pos (by decide)]; simp (disch := omega) only [grd_in, clp, a12]
        · unfold Mo_goer; rw [hoy A fA.frQ, bRs, if_neg (by decide), eB, bVs, if_neg (by decide), if_pos (by decide), fromAt_s hc gB hd, bRs]
      · obtain ⟨B, gB, b1, b4, eB⟩ := hm A fA.frQ
        refine ⟨nI (gT c d), A, B, ?_, ?_, INV_q hc hC hM fA.frQ b4⟩
        · unfold Md_goer; rw [cGoer_y hc hC.1 hd, if_neg (by decide), eA, bVs, if_neg (by decide), if_neg (by decide), if_pos (by decide)]; simp (disch := omega) only [grd_in, clp, a13]
        · unfold Mo_goer; rw [hoy A fA.frQ, bRs, if_neg (by decide), eB, bVs, if_neg (by decide), if_neg (by decide), if_pos (by decide)]
          obtain ⟨g0, g1, g2, g3, g4, g5, g6, g7⟩ := gB
          have e81 := (g6 d hd).2
          simp (disch := omega) only [li, g1, pk_mul, nI_add, grd_in, clp, e81]
      · obtain ⟨A2, eA2, fQ⟩ := law 0 (by omega)
        obtain ⟨B, gB, b1, b4, eB⟩ := hm A2 fQ
        obtain ⟨B2, eB2, g2⟩ := doesCome_s hN hc gB b1 hR hd
        refine ⟨if gL c 0 (vG c R d) ≤ 0 then 0 else 1, A2, B2, ?_, ?_, INV_q hc hC hM fQ (b4.trans g2.frP)⟩
        · unfold Md_goer; rw [cGoer_y hc hC.1 hd, if_neg (by decide), eA, bVs, if_neg (by decide), if_neg (by decide), if_neg (by decide), if_pos (by decide), show (0 : Int32) = nI 0 from rfl, eA2, bWs, lawV0]
          split <;> rfl
        · unfold Mo_goer; rw [hoy A2 fQ, bRs, if_neg (by decide), eB, bVs, if_neg (by decide), if_neg (by decide), if_neg (by decide), if_pos (by decide), eB2, bWs]
          split <;> rfl
      · obtain ⟨A2, eA2, fQ⟩ := law 1 (by omega)
        obtain ⟨B, gB, b1, b4, eB⟩ := hm A2 fQ
        obtain ⟨B2, eB2, g2⟩ := staysOf_s hN hc gB b1 hR hd
        refine ⟨nI (stN c R d), A2, B2, ?_, ?_, INV_q hc hC hM fQ (b4.trans g2.frP)⟩
        · unfold Md_goer; rw [cGoer_y hc hC.1 hd, if_neg (by decide), eA, bVs, if_neg (by decide), if_neg (by decide), if_neg (by decide), if_neg (by decide), if_pos (by decide), show (1 : Int32) = nI 1 from rfl, eA2, bWs, lawV1]
        · unfold Mo_goer; rw [hoy A2 fQ, bRs, if_neg (by decide), eB, bVs, if_neg (by decide), if_neg (by decide), if_neg (by decide), if_neg (by decide), if_pos (by decide), eB2, bWs]
      · obtain ⟨A2, eA2, fQ⟩ := law 2 (by omega)
        obtain ⟨B, gB, b1, b4, eB⟩ := hm A2 fQ
        obtain ⟨B2, eB2, g2⟩ := worthOf_s hN hc gB b1 hR hd
        refine ⟨nI (woN c R d), A2, B2, ?_, ?_, INV_q hc hC hM fQ (b4.trans g2.frP)⟩
        · unfold Md_goer; rw [cGoer_y hc hC.1 hd, if_neg (by decide), eA, bVs, if_neg (by decide), if_neg (by decide), if_neg (by decide), if_neg (by decide), if_neg (by decide), if_pos (by decide), show (2 : Int32) = nI 2 from rfl, eA2, bWs, lawV2]
        · unfold Mo_goer; rw [hoy A2 fQ, bRs, if_neg (by decide), eB, bVs, if_neg (by decide), if_neg (by decide), if_neg (by decide), if_neg (by decide), if_neg (by decide), if_pos (by decide), eB2, bWs]
      · obtain ⟨B, gB, b1, b4, eB⟩ := hm A fA.frQ
        refine ⟨R (13 + d), A, B, ?_, ?_, INV_q hc hC hM fA.frQ b4⟩
        · unfold Md_goer; rw [cGoer_y hc hC.1 hd, if_neg (by decide), eA, bVs, if_neg (by decide), if_neg (by decide), if_neg (by decide), if_neg (by decide), if_neg (by decide), if_neg (by decide), if_pos (by decide)]; simp (disch := omega) only [li, nI_add, grd_in, clp, a14]
        · unfold Mo_goer; rw [hoy A fA.frQ, bRs, if_neg (by decide), eB, bVs, if_neg (by decide), if_neg (by decide), if_neg (by decide), if_neg (by decide), if_neg (by decide), if_neg (by decide), if_pos (by decide)]; simp (disch := omega) only [li, nI_add, grd_in, clp, b1 (13 + d) (by omega)]
    · obtain ⟨B, gB, b1, b4, eB⟩ := hm A fA.frQ
      have z0 : ¬ y = 0 := outr_ne q (k := 0) (by omega) (by omega)
      have z1 : ¬ y = 1 := outr_ne q (k := 1) (by omega) (by omega)
      have z2 : ¬ y = 2 := outr_ne q (k := 2) (by omega) (by omega)
      have z3 : ¬ y = 3 := outr_ne q (k := 3) (by omega) (by omega)
      have z4 : ¬ y = 4 := outr_ne q (k := 4) (by omega) (by omega)
      have z5 : ¬ y = 5 := outr_ne q (k := 5) (by omega) (by omega)
      have z6 : ¬ y = 6 := outr_ne q (k := 6) (by omega) (by omega)
      refine ⟨-1, A, B, ?_, ?_, INV_q hc hC hM fA.frQ b4⟩
      · unfold Md_goer; rw [cGoer_y hc hC.1 hd, if_neg (by decide), eA, bVs, if_neg z0, if_neg z1, if_neg z2, if_neg z3, if_neg z4, if_neg z5, if_neg z6]
      · unfold Mo_goer; rw [hoy A fA.frQ, bRs, if_neg (by decide), eB, bVs, if_neg z0, if_neg z1, if_neg z2, if_neg z3, if_neg z4, if_neg z5, if_neg z6]
  · refine ⟨-1, M, M, ?_, ?_, c, v, R, X, hc, hC, hM⟩
    · unfold Md_goer; rw [cGoer_n hC.1 q, if_pos (by decide)]
    · unfold Mo_goer; rw [oGoer_n hc hM.1 q, bRs, if_pos (by decide)]
theorem call_together {N : Nat} {M : mS} (h : INV M) (x y : Int32) : ∃ r, Md_together N x y M = some r ∧ Mo_together N x y M = some r := by
  obtain ⟨c, v, R, X, hc, hC, hM⟩ := h
  obtain ⟨hc1, hc2, hc3, hc4, hc5, hc6⟩ := id hc
  unfold Md_together Mo_together
  by_cases q : twoA c x y
  · obtain ⟨g, o, hg, ho, hgo, rfl, rfl⟩ := q
    obtain ⟨hw, hp, hR, hz⟩ := hC.2.1
    have hpa := pA_lt g (by omega) o (by omega) hgo
    refine ⟨R (18 + pA g o), ?_, ?_⟩
    · rw [two_y hc hC.1 hg ho hgo, if_neg (by decide)]
      have e := hp g hg o ho hgo
      unfold Md_pair
      simp (disch := omega) only [li, pk_mul, nI_add, grd_in, clp, show 19 + g * 5 + o = 19 + 5 * g + o by omega, e]
    · rw [otwo_y hc hM.1 hg ho hgo, bRs, if_neg (by decide), pairAt_s (by omega) (by omega) hgo]
      have e := hM.2.1 (18 + pA g o) (by omega)
      simp (disch := omega) only [li, nI_add, grd_in, clp, e]
  · refine ⟨-1, ?_, ?_⟩
    · rw [two_n hc hC.1 q, if_pos (by decide)]
    · rw [otwo_n hc hM.1 q, bRs, if_pos (by decide)]
