/-! TOLD, HELD -/
theorem narB {b : Bool} : vp_nar .boolean (if b = true then 1 else 0) = (if b = true then 1 else 0) := by cases b <;> rfl
theorem call_forget {N : Nat} {M : mS} (h : INV M) : ∃ r A B, Md_forget N M = some (r, A) ∧ Mo_forget N A = some (r, B) ∧ INV B := by
  obtain ⟨c, v, R, X, hc, hC, hM⟩ := h
  obtain ⟨h1, h2, h3, h4, h5, h6, h7, h8⟩ := hC
  obtain ⟨g1, g2, g3, g4, g5, g6, g7, g8, g9⟩ := hM
  have f : ∀ a j, (a ≠ 59 ∨ j ≠ 0) → (a ≠ 64 ∨ j ≠ 62) → (mWI (mWI M 59 0 0) 64 62 0).1 a j = M.1 a j := fun a j q1 q2 => by rw [rN q2, rN q1]
  refine ⟨nI (xN X), mWI M 59 0 0, mWI (mWI M 59 0 0) 64 62 0, ?_, ?_, c, v, R, (xT X, xB X, xP X, xU X, xH X, xS X, xQ X, 0, xI X, xO X, xZ X), hc, ⟨gC_fr h1 (fun a j q => f a j (by omega) (by omega)), rowC_c h2 (fun j => f _ _ (by omega) (by omega)), CIt_fr h3 (f _ _ (by omega) (by omega)) (fun i => f _ _ (by omega) (by omega)), (f _ _ (by omega) (by omega)).trans h4, CIu_fr h5 (f _ _ (by omega) (by omega)) (f _ _ (by omega) (by omega)) (f _ _ (by omega) (by omega)) (fun i => f _ _ (by omega) (by omega)), CIs_fr h6 (f _ _ (by omega) (by omega)) (f _ _ (by omega) (by omega)) (fun i => f _ _ (by omega) (by omega)), ⟨Nat.zero_le _, ?_, fun i hi => absurd hi (Nat.not_lt_zero _)⟩, h8⟩, gM_fr g1 (fun a j q => f a j (by omega) (by omega)), fun k hk => (f _ _ (by omega) (by omega)).trans (g2 k hk), MIt_fr g3 (f _ _ (by omega) (by omega)) (fun i => f _ _ (by omega) (by omega)), (f _ _ (by omega) (by omega)).trans g4, MIu_fr g5 (f _ _ (by omega) (by omega)) (fun i => f _ _ (by omega) (by omega)), MIs_fr g6 (fun i => f _ _ (by omega) (by omega)) (fun i => f _ _ (by omega) (by omega)), ⟨rI rfl, fun i hi => absurd hi (Nat.not_lt_zero _)⟩, fun k hk => (f _ _ (by omega) (by omega)).trans (g8 k hk), g9⟩
  · unfold Md_forget; rw [nxs, nxs, h7.2.1]
  · unfold Mo_forget; rw [nxs, nxs, rN (by omega), g7.1]
  · rw [rN (by omega), rI rfl]; rfl
theorem call_tell {N : Nat} {M : mS} (h : INV M) (x y : Int32) (b : Bool) : ∃ r A B, Md_tell N x y (if b = true then 1 else 0) M = some (r, A) ∧ Mo_tell N x y (if b = true then 1 else 0) A = some (r, B) ∧ INV B := by
  obtain ⟨c, v, R, X, hc, hC, hM⟩ := h
  obtain ⟨hc1, hc2, hc3, hc4, hc5, hc6⟩ := id hc
  have hn := hC.2.2.2.2.2.2.1.1
  have c59 := hC.2.2.2.2.2.2.1.2.1
  have m62 := hM.2.2.2.2.2.2.1.1
  unfold Md_tell Mo_tell
  have no : ∀ {r : Int32}, (Md_tell N x y (if b = true then 1 else 0) M = some (r, M)) → (Mo_tell N x y (if b = true then 1 else 0) M = some (r, M)) → ∃ r A B, Md_tell N x y (if b = true then 1 else 0) M = some (r, A) ∧ Mo_tell N x y (if b = true then 1 else 0) A = some (r, B) ∧ INV B := fun q1 q2 => ⟨_, M, M, q1, q2, c, v, R, X, hc, hC, hM⟩
  unfold Md_tell Mo_tell at no
  by_cases h20 : xN X = 20
  · have m20 : M.1 64 62 = 20 := by rw [m62, h20]; rfl
    have c20 : ¬ M.1 59 0 < 20 := by rw [c59, h20]; decide
    refine no (r := -1) ?_ ?_
    · rcases arg_c x 31 (by omega) with ⟨i, hi, rfl⟩ | q
      · rw [show (30 : Int32) = nI 30 from rfl, with_y (by omega) (by omega), if_neg (by decide)]
        rcases arg_c y (gH c) (by omega) with ⟨k, hk, rfl⟩ | q
        · rw [cHour_y hc hC.1 hk, if_neg (by decide), if_neg c20]
        · rw [cHour_n hC.1 q, if_pos (by decide)]
      · rw [show (30 : Int32) = nI 30 from rfl, with_n q (by omega), if_pos (by decide)]
    · rw [if_pos m20]
  · have m20 : ¬ M.1 64 62 = 20 := by rw [m62, show (20 : Int32) = nI 20 from rfl, eqP (by omega) (by omega)]; exact h20
    have c20 : M.1 59 0 < 20 := by rw [c59, show (20 : Int32) = nI 20 from rfl, ltP (by omega) (by omega)]; omega
    rcases arg_c x 31 (by omega) with ⟨i, hi, rfl⟩ | q
    · rcases arg_c y (gH c) (by omega) with ⟨k, hk, rfl⟩ | q
      · clear no
        obtain ⟨h1, h2, h3, h4, h5, h6, ⟨h71, h72, h73⟩, h8⟩ := hC
        obtain ⟨g1, g2, g3, g4, g5, g6, ⟨g71, g72⟩, g8, g9⟩ := hM
        let A : mS := mWI (mWI (mWI (mWI M 60 (xN X) (nI i)) 61 (xN X) (nI k)) 62 (xN X) (if b = true then 1 else 0)) 59 0 (nI (xN X + 1))
        let B : mS := mWI (mWI (mWI (mWI A 105 (xN X) (nI i)) 106 (xN X) (nI k)) 107 (xN X) (if b = true then 1 else 0)) 64 62 (nI (xN X + 1))
        have fA : ∀ a j, 64 ≤ a → A.1 a j = M.1 a j := fun a j q => by simp (disch := omega) only [A, mWI_ne]
        have f : ∀ a j, a ≠ 60 → a ≠ 61 → a ≠ 62 → a ≠ 59 → a ≠ 105 → a ≠ 106 → a ≠ 107 → (a ≠ 64 ∨ j ≠ 62) → B.1 a j = M.1 a j := fun a j q1 q2 q3 q4 q5 q6 q7 q8 => by simp (disch := omega) only [A, B, rN]
        have fz : ∀ a j, a ≠ 60 ∧ a ≠ 61 ∧ a ≠ 62 ∧ a ≠ 59 ∧ a ≠ 105 ∧ a ≠ 106 ∧ a ≠ 107 ∧ (a ≠ 64 ∨ j ≠ 62) → B.1 a j = M.1 a j := fun a j q => f a j q.1 q.2.1 q.2.2.1 q.2.2.2.1 q.2.2.2.2.1 q.2.2.2.2.2.1 q.2.2.2.2.2.2.1 q.2.2.2.2.2.2.2
        refine ⟨nI (xN X), A, B, ?_, ?_, c, v, R, (xT X, xB X, xP X, xU X, xH X, xS X, xQ X, xN X + 1, (fun z => if z = xN X then i else xI X z), (fun z => if z = xN X then k else xO X z), (fun z => if z = xN X then b else xZ X z)), hc, ⟨gC_fr h1 (fun a j q => fz a j (by omega)), rowC_c h2 (fun j => fz _ _ (by omega)), CIt_fr h3 (fz _ _ (by omega)) (fun i => fz _ _ (by omega)), (fz _ _ (by omega)).trans h4, CIu_fr h5 (fz _ _ (by omega)) (fz _ _ (by omega)) (fz _ _ (by omega)) (fun i => fz _ _ (by omega)), CIs_fr h6 (fz _ _ (by omega)) (fz _ _ (by omega)) (fun i => fz _ _ (by omega)), ⟨show xN X + 1 ≤ 20 by omega, ?_, fun z hz => ?_⟩, h8⟩, gM_fr g1 (fun a j q => fz a j (by omega)), fun k hk => (fz _ _ (by omega)).trans (g2 k hk), MIt_fr g3 (fz _ _ (by omega)) (fun i => fz _ _ (by omega)), (fz _ _ (by omega)).trans g4, MIu_fr g5 (fz _ _ (by omega)) (fun i => fz _ _ (by omega)), MIs_fr g6 (fun i => fz _ _ (by omega)) (fun i => fz _ _ (by omega)), ⟨rI rfl, fun z hz => ?_⟩, fun k hk => (fz _ _ (by omega)).trans (g8 k hk), g9⟩
        · rw [show (30 : Int32) = nI 30 from rfl, with_y (by omega) (by omega), if_neg (by decide), cHour_y hc h1 hk, if_neg (by decide), if_pos c20]
          unfold Rd_add
          simp (disch := omega) only [h72, li, leP, if_neg, grd_in, clp, nxs, mWI_ne, nI_add, bVs, rI, sbP, A, Nat.add_sub_cancel]
          cases b <;> rfl
        · have e62 : A.1 64 62 = nI (xN X) := (fA _ _ (by omega)).trans g71
          have hMA : gM c v A := gM_fr g1 (fun a j q => fA a j (by omega))
          rw [if_neg (by rw [e62, show (20 : Int32) = nI 20 from rfl, eqP (by omega) (by omega)]; exact h20), show (30 : Int32) = nI 30 from rfl, inK_y (by omega) (by omega), if_neg (by decide), oHour_y hc hMA hk, bRs, if_neg (by decide)]
          simp (disch := omega) only [e62, li, grd_in, clp, nxs, mWI_ne, nI_add, rI, sbP, B, Nat.add_sub_cancel]
          cases b <;> rfl
        · show B.1 59 0 = nI (xN X + 1)
          simp (disch := omega) only [B, A, mWI_ne, rI]
        · show (if z = xN X then i else xI X z) ≤ 30 ∧ (if z = xN X then k else xO X z) < gH c ∧ B.1 60 z = nI (if z = xN X then i else xI X z) ∧ B.1 61 z = nI (if z = xN X then k else xO X z) ∧ B.1 62 z = if (if z = xN X then b else xZ X z) = true then 1 else 0
          have hz : z < xN X + 1 := hz
          by_cases e : z = xN X
          · subst e
            simp (disch := omega) only [if_true, B, A, mWI_ne, rI]
            exact ⟨by omega, hk, trivial, trivial, trivial⟩
          · simp (disch := omega) only [e, if_false, B, A, mWI_ne, rN]
            exact h73 z (by omega)
        · show B.1 105 z = nI (if z = xN X then i else xI X z) ∧ B.1 106 z = nI (if z = xN X then k else xO X z) ∧ B.1 107 z = if (if z = xN X then b else xZ X z) = true then 1 else 0
          have hz : z < xN X + 1 := hz
          by_cases e : z = xN X
          · subst e
            simp (disch := omega) only [if_true, B, A, mWI_ne, rI]
            exact ⟨trivial, trivial, trivial⟩
          · simp (disch := omega) only [e, if_false, B, A, mWI_ne, rN]
            exact g72 z (by omega)
      · refine no (r := -1) ?_ ?_
        · rw [show (30 : Int32) = nI 30 from rfl, with_y (by omega) (by omega), if_neg (by decide), cHour_n hC.1 q, if_pos (by decide)]
        · rw [if_neg m20, show (30 : Int32) = nI 30 from rfl, inK_y (by omega) (by omega), if_neg (by decide), oHour_n hc hM.1 q, bRs, if_pos (by decide)]
    · refine no (r := -1) ?_ ?_
      · rw [show (30 : Int32) = nI 30 from rfl, with_n q (by omega), if_pos (by decide)]
      · rw [if_neg m20, show (30 : Int32) = nI 30 from rfl, inK_n q (by omega), if_pos (by decide)]
