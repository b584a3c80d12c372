/-! follow, slip, nights -/
theorem set_u {N : Nat} {c : gar} {v : Nat} {R : Nat → Int32} {X : aux} {M A : mS} {j : Nat} {x : Int32} (hc : gOk c) (hC : CI c R X M) (hM : MI c v R X M) (eA : Md_keepForUndo N M = some A) : MI c v R X (mWI A 34 j x) := by
  obtain ⟨A2, e2, -, f2, -⟩ := keep_s (N := N) hc hC
  rw [eA] at e2; cases e2
  exact MI_u hM ⟨fun a i q => by rw [mWI_ne (by omega)]; exact f2.1 a i q, fun a i q => f2.2 a i q⟩
theorem call_follow {N : Nat} {M : mS} (hN : 2000 ≤ N) (h : INV M) (x y : Int32) : ∃ r A B, Md_follow N x y M = some (r, A) ∧ Mo_follow N x y A = some (r, B) ∧ INV B := by
  obtain ⟨c, v, R, X, hc, hC, hM⟩ := h
  obtain ⟨hc1, hc2, hc3, hc4, hc5, hc6⟩ := id hc
  unfold Md_follow Mo_follow
  rcases arg_c x (gG c) (by omega) with ⟨g, hg, rfl⟩ | q
  · rcases arg_c y (gD c) (by omega) with ⟨d, hd, rfl⟩ | q
    · obtain ⟨hw, hp, hR, hz⟩ := hC.2.1
      have e9 := (hw.2.2 g hg).1
      by_cases qb : R (8 + g) = nI d
      · refine ⟨0, M, M, ?_, ?_, c, v, R, X, hc, hC, hM⟩
        · rw [cGoer_y hc hC.1 hg, if_neg (by decide), cDial_y hc hC.1 hd, if_neg (by decide), show (9 : Int32) + nI g = nI (9 + g) from nI_add 9 g, grd_in (by omega) (by omega), clp (by omega), if_pos (e9.trans qb)]
        · rw [oGoer_y hc hM.1 hg, bRs, if_neg (by decide), oDial_y hc hM.1 hd, bRs, if_neg (by decide), show (8 : Int32) + nI g = nI (8 + g) from nI_add 8 g, grd_in (by omega) (by omega), clp (by omega), if_pos ((hM.2.1 _ (by omega)).trans qb)]
      · obtain ⟨A, eA, rA, gA, fin⟩ := set_s (N := N) hN hc hC hM (show 8 + g < 29 by omega) (row_by hc (R := R) hg hd)
        obtain ⟨B, eB, b1, iB⟩ := fin _ rfl
        have hMA := set_u (j := 9 + g) (x := nI d) hc hC hM eA
        refine ⟨1, mWI A 34 (9 + g) (nI d), B, ?_, ?_, iB⟩
        · rw [cGoer_y hc hC.1 hg, if_neg (by decide), cDial_y hc hC.1 hd, if_neg (by decide), show (9 : Int32) + nI g = nI (9 + g) from nI_add 9 g, grd_in (by omega) (by omega), clp (by omega), if_neg (by rw [e9]; exact qb), eA, bVs, grd_in (by omega) (by omega), nxs]
        · rw [oGoer_y hc hMA.1 hg, bRs, if_neg (by decide), oDial_y hc hMA.1 hd, bRs, if_neg (by decide), show (8 : Int32) + nI g = nI (8 + g) from nI_add 8 g, grd_in (by omega) (by omega), clp (by omega), if_neg (by rw [hMA.2.1 _ (by omega)]; exact qb), eB, bWs, if_neg (by decide)]
    · refine ⟨0, M, M, ?_, ?_, c, v, R, X, hc, hC, hM⟩
      · rw [cGoer_y hc hC.1 hg, if_neg (by decide), cDial_n hC.1 q, if_pos (by decide)]
      · rw [oGoer_y hc hM.1 hg, bRs, if_neg (by decide), oDial_n hc hM.1 q, bRs, if_pos (by decide)]
  · refine ⟨0, M, M, ?_, ?_, c, v, R, X, hc, hC, hM⟩
    · rw [cGoer_n hC.1 q, if_pos (by decide)]
    · rw [oGoer_n hc hM.1 q, bRs, if_pos (by decide)]
theorem call_slip {N : Nat} {M : mS} (hN : 2000 ≤ N) (h : INV M) (x y : Int32) : ∃ r A B, Md_slip N x y M = some (r, A) ∧ Mo_slip N x y A = some (r, B) ∧ INV B := by
  obtain ⟨c, v, R, X, hc, hC, hM⟩ := h
  obtain ⟨hc1, hc2, hc3, hc4, hc5, hc6⟩ := id hc
  unfold Md_slip Mo_slip
  rcases arg_c x (gD c) (by omega) with ⟨d, hd, rfl⟩ | q
  · rcases arg_c y (gH c) (by omega) with ⟨k, hk, rfl⟩ | q
    · obtain ⟨hw, hp, hR, hz⟩ := hC.2.1
      have e5 := (hw.2.1 d hd).2
      have hle : ¬ nI (gH c) ≤ nI k := by rw [leP (by omega) (by omega)]; omega
      by_cases qb : R (4 + d) = nI k
      · refine ⟨0, M, M, ?_, ?_, c, v, R, X, hc, hC, hM⟩
        · rw [cDial_y hc hC.1 hd, if_neg (by decide), if_neg (nI_pos (by omega)), hC.1.1, if_neg hle, show (5 : Int32) + nI d = nI (5 + d) from nI_add 5 d, grd_in (by omega) (by omega), clp (by omega), if_pos (e5.trans qb)]
        · rw [oDial_y hc hM.1 hd, bRs, if_neg (by decide), oHour_y hc hM.1 hk, bRs, if_neg (by decide), show (4 : Int32) + nI d = nI (4 + d) from nI_add 4 d, grd_in (by omega) (by omega), clp (by omega), if_pos ((hM.2.1 _ (by omega)).trans qb)]
      · obtain ⟨A, eA, rA, gA, fin⟩ := set_s (N := N) hN hc hC hM (show 4 + d < 29 by omega) (row_slip hc (R := R) hd hk)
        obtain ⟨B, eB, b1, iB⟩ := fin _ rfl
        have hMA := set_u (j := 5 + d) (x := nI k) hc hC hM eA
        refine ⟨1, mWI A 34 (5 + d) (nI k), B, ?_, ?_, iB⟩
        · rw [cDial_y hc hC.1 hd, if_neg (by decide), if_neg (nI_pos (by omega)), hC.1.1, if_neg hle, show (5 : Int32) + nI d = nI (5 + d) from nI_add 5 d, grd_in (by omega) (by omega), clp (by omega), if_neg (by rw [e5]; exact qb), eA, bVs, grd_in (by omega) (by omega), nxs]
        · rw [oDial_y hc hMA.1 hd, bRs, if_neg (by decide), oHour_y hc hMA.1 hk, bRs, if_neg (by decide), show (4 : Int32) + nI d = nI (4 + d) from nI_add 4 d, grd_in (by omega) (by omega), clp (by omega), if_neg (by rw [hMA.2.1 _ (by omega)]; exact qb), eB, bWs, if_neg (by decide)]
    · refine ⟨0, M, M, ?_, ?_, c, v, R, X, hc, hC, hM⟩
      · rw [cDial_y hc hC.1 hd, if_neg (by decide)]
        rcases q with q | ⟨q1, q2⟩
        · rw [if_pos q]
        · rw [if_neg q1, hC.1.1, if_pos q2]
      · rw [oDial_y hc hM.1 hd, bRs, if_neg (by decide), oHour_n hc hM.1 q, bRs, if_pos (by decide)]
  · refine ⟨0, M, M, ?_, ?_, c, v, R, X, hc, hC, hM⟩
    · rw [cDial_n hC.1 q, if_pos (by decide)]
    · rw [oDial_n hc hM.1 q, bRs, if_pos (by decide)]
/-! nights -/
noncomputable def nxn (c : gar) (m : Option Int32) (R : Nat → Int32) : Nat → (Nat → Int32)
  | 0 => R
  | n + 1 => nx c m (nxn c m R n)
theorem nxn_s {c : gar} {m : Option Int32} {R : Nat → Int32} {n : Nat} : nxn c m R (n + 1) = nx c m (nxn c m R n) := rfl
theorem VR_nxn {c : gar} (hc : gOk c) {R : Nat → Int32} (hR : VR c R) {m : Option Int32} : ∀ n, VR c (nxn c m R n)
  | 0 => hR
  | n + 1 => VR_nx hc (VR_nxn hc hR n)
theorem VZ_nx {c : gar} (hc : gOk c) {R : Nat → Int32} (h : VZ c R) {m : Option Int32} : VZ c (nx c m R) := by
  obtain ⟨hc1, hc2, hc3, hc4, -⟩ := hc
  intro k hk q
  unfold nx
  rw [if_neg (by omega), if_neg (by omega), show 18 + k - 18 = k by omega, if_neg (by omega), if_neg (by omega)]
  exact h k hk q
theorem VZ_nxn {c : gar} (hc : gOk c) {R : Nat → Int32} (h : VZ c R) {m : Option Int32} : ∀ n, VZ c (nxn c m R n)
  | 0 => h
  | n + 1 => VZ_nx hc (VZ_nxn hc h n)
theorem goes_s {N : Nat} {c : gar} {v : Nat} {m : Option Int32} {R : Nat → Int32} {M : mS} {n : Nat} (hN : 1000 ≤ N) (hn : n ≤ 400) (hc : gOk c) (hM : gM c v M) (hr : rM M R) (hR : VR c R) (hm : mdM m M) : ∃ B, Mo_goes N (nI n) M = some B ∧ rM B (nxn c m R n) ∧ frM M B := by
  unfold Mo_goes
  refine iter (F := fun f i (s : mS) => Mo_goes_2 N f (nI n) (nI i) s) (n := n) (Q := fun r => ∃ B, r = some B ∧ rM B (nxn c m R n) ∧ frM M B) (fun i s => rM s (nxn c m R i) ∧ frM M s) ?_ ?_ (Nat.zero_le _) (by omega) ⟨hr, frM.refl⟩
  · rintro f i s hi ⟨h1, h2⟩
    obtain ⟨B, eB, b1, b2, b3⟩ := nightGoes_s hN hc (h2.gM hM) h1 (VR_nxn hc hR i) (h2.md hm)
    refine Or.inl ⟨B, ⟨b2, h2.trans b3⟩, ?_⟩
    simp (disch := omega) only [Mo_goes_2, leP, if_neg, eB, bVs, li, nI_add]
  · rintro f s ⟨h1, h2⟩
    refine ⟨s, ?_, h1, h2⟩
    simp (disch := omega) only [Mo_goes_2, leP, if_pos]
def shv (f : Nat → Int32) (a b : Nat) : Int32 := if a = b then 0 else bc (f a &&& f b)
theorem shv_ne {f : Nat → Int32} {a b : Nat} (h : a ≠ b) : shv f a b = bc (f a &&& f b) := if_neg h
theorem shared_s {N : Nat} {M : mS} {f : Nat → Int32} {G a b : Nat} (hG : G ≤ 5) (h : ∀ g, g < G → M.1 41 g = f g) (ha : a < G) (hb : b < G) : Wk_shared N (nI a) (nI b) M = some (shv f a b) := by
  unfold Wk_shared shv
  by_cases e : a = b
  · rw [if_pos (by rw [e]), if_pos e]
  · rw [if_neg (by rw [eqP (by omega) (by omega)]; exact e), if_neg e, grd_in (by omega) (by omega), grd_in (by omega) (by omega), clp (by omega), clp (by omega), h a ha, h b hb, bc_of]
theorem and_cm (x y : Int32) : x &&& y = y &&& x := by
  apply b_ext; intro i _; rw [b_and, b_and, Bool.and_comm]
/-- the pairs of a night, in the class -/
theorem addPairs_s {N : Nat} {c : gar} {M : mS} {f : Nat → Int32} (hN : 1000 ≤ N) (hc : gOk c) (h8 : M.1 3 8 = nI (gG c)) (h : ∀ g, g < gG c → M.1 41 g = f g) : ∃ B, Wk_addPairs N M = some B ∧ (∀ a, a < gG c → ∀ b, b < gG c → B.1 40 (19 + 5 * a + b) = M.1 40 (19 + 5 * a + b) + shv f a b) ∧ (∀ a j, (a ≠ 40 ∨ j < 19) → B.1 a j = M.1 a j) ∧ B.2 = M.2 := by
  obtain ⟨hc1, hc2, hc3, hc4, hc5, hc6⟩ := id hc
  unfold Wk_addPairs
  refine iter (F := fun f i (s : mS) => Wk_addPairs_2 N f (nI i) s) (n := gG c) (Q := fun r => ∃ B, r = some B ∧ (∀ a, a < gG c → ∀ b, b < gG c → B.1 40 (19 + 5 * a + b) = M.1 40 (19 + 5 * a + b) + shv f a b) ∧ (∀ a j, (a ≠ 40 ∨ j < 19) → B.1 a j = M.1 a j) ∧ B.2 = M.2)
    (fun i s => (∀ a, a < gG c → ∀ b, b < gG c → s.1 40 (19 + 5 * a + b) = if a < i then M.1 40 (19 + 5 * a + b) + shv f a b else M.1 40 (19 + 5 * a + b)) ∧ (∀ a j, (a ≠ 40 ∨ j < 19) → s.1 a j = M.1 a j) ∧ s.2 = M.2) ?_ ?_ (Nat.zero_le _) (by omega) ⟨fun a ha b hb => (if_neg (Nat.not_lt_zero _)).symm, fun _ _ _ => rfl, rfl⟩
  · rintro fu i s hi ⟨h1, h2, h3⟩
    have s8 : s.1 3 8 = nI (gG c) := (h2 _ _ (by omega)).trans h8
    have inner : ∃ s' : mS, ((∀ a, a < gG c → ∀ b, b < gG c → s'.1 40 (19 + 5 * a + b) = if a < i + 1 then M.1 40 (19 + 5 * a + b) + shv f a b else M.1 40 (19 + 5 * a + b)) ∧ (∀ a j, (a ≠ 40 ∨ j < 19) → s'.1 a j = M.1 a j) ∧ s'.2 = M.2) ∧ Wk_addPairs_15 N (Wk_addPairs_2 N fu) N (nI i) 0 s = Wk_addPairs_2 N fu (nI (i + 1)) s' := by
      refine iter (F := fun g j (t : mS) => Wk_addPairs_15 N (Wk_addPairs_2 N fu) g (nI i) (nI j) t) (n := gG c) (Q := fun r => ∃ s' : mS, ((∀ a, a < gG c → ∀ b, b < gG c → s'.1 40 (19 + 5 * a + b) = if a < i + 1 then M.1 40 (19 + 5 * a + b) + shv f a b else M.1 40 (19 + 5 * a + b)) ∧ (∀ a j, (a ≠ 40 ∨ j < 19) → s'.1 a j = M.1 a j) ∧ s'.2 = M.2) ∧ r = Wk_addPairs_2 N fu (nI (i + 1)) s')
        (fun j t => (∀ a, a < gG c → ∀ b, b < gG c → t.1 40 (19 + 5 * a + b) = if a < i ∨ (a = i ∧ b < j) then M.1 40 (19 + 5 * a + b) + shv f a b else M.1 40 (19 + 5 * a + b)) ∧ (∀ a j, (a ≠ 40 ∨ j < 19) → t.1 a j = M.1 a j) ∧ t.2 = M.2) ?_ ?_ (Nat.zero_le _) (by omega) ⟨fun a ha b hb => ?_, h2, h3⟩
      · rintro g j t hj ⟨k1, k2, k3⟩
        have t8 : t.1 3 8 = nI (gG c) := (k2 _ _ (by omega)).trans h8
        have sh := shared_s (N := N) (M := t) (f := f) hc4 (fun g hg => by rw [k2 41 g (by omega)]; exact h g hg) hi hj
        have e0 : t.1 40 (19 + i * 5 + j) = M.1 40 (19 + i * 5 + j) := by
          rw [show 19 + i * 5 + j = 19 + 5 * i + j by omega, k1 i hi j hj, if_neg (by omega)]
        refine Or.inl ⟨mWI t 40 (19 + i * 5 + j) (M.1 40 (19 + i * 5 + j) + shv f i j), ⟨fun a ha b hb => ?_, fun a q ha => ?_, k3⟩, ?_⟩
        · by_cases e : a = i ∧ b = j
          · obtain ⟨rfl, rfl⟩ := e
            rw [rI (by omega), if_pos (by omega), show 19 + a * 5 + b = 19 + 5 * a + b by omega]
          · rw [rN (by omega), k1 a ha b hb]
            by_cases z : a < i ∨ (a = i ∧ b < j)
            · rw [if_pos z, if_pos (by omega)]
            · rw [if_neg z, if_neg (by omega)]
        · rw [rN (by omega)]; exact k2 a q ha
        · simp (disch := omega) only [Wk_addPairs_15, Md_pair, t8, leP, if_neg, li, pk_mul, nI_add, grd_in, clp, sh, bRs, nxs, e0]
      · rintro g t ⟨k1, k2, k3⟩
        have t8 : t.1 3 8 = nI (gG c) := (k2 _ _ (by omega)).trans h8
        refine ⟨t, ⟨fun a ha b hb => ?_, k2, k3⟩, ?_⟩
        · rw [k1 a ha b hb]
          by_cases z : a < i ∨ (a = i ∧ b < gG c)
          · rw [if_pos z, if_pos (by omega)]
          · rw [if_neg z, if_neg (by omega)]
        · simp (disch := omega) only [Wk_addPairs_15, t8, leP, if_pos, li, nI_add]
      · rw [h1 a ha b hb]
        by_cases z : a < i
        · rw [if_pos z, if_pos (Or.inl z)]
        · rw [if_neg z, if_neg (by rintro (q | q); exact z q; exact Nat.not_lt_zero _ q.2)]
    obtain ⟨s', q1, q2⟩ := inner
    refine Or.inl ⟨s', q1, ?_⟩
    rw [← q2]
    simp (disch := omega) only [Wk_addPairs_2, s8, leP, if_neg]
  · rintro fu s ⟨h1, h2, h3⟩
    have s8 : s.1 3 8 = nI (gG c) := (h2 _ _ (by omega)).trans h8
    refine ⟨s, ?_, fun a ha b hb => ?_, h2, h3⟩
    · simp (disch := omega) only [Wk_addPairs_2, s8, leP, if_pos]
    · rw [h1 a ha b hb, if_pos ha]
theorem nx_pr {c : gar} (hc : gOk c) {m : Option Int32} {R : Nat → Int32} {a b : Nat} (ha : a < gG c) (hb : b < gG c) (h : a ≠ b) : nx c m R (18 + pA a b) = R (18 + pA a b) + bc (th c m R a &&& th c m R b) := by
  have hG := hc.2.2.2.1
  rcases Nat.lt_or_gt_of_ne h with q | q
  · rw [nx_p hc q hb, and_cm]
  · rw [pA_c a (by omega) b (by omega), nx_p hc q ha]
theorem call_nights {N : Nat} {M : mS} (hN : 2000 ≤ N) (h : INV M) (x : Int32) : ∃ r A B, Md_nights N x M = some (r, A) ∧ Mo_nights N x A = some (r, B) ∧ INV B := by
  obtain ⟨c, v, R, X, hc, hC, hM⟩ := h
  obtain ⟨hc1, hc2, hc3, hc4, hc5, hc6⟩ := id hc
  unfold Md_nights Mo_nights Mo_isLong
  rcases arg_c x 201 (by omega) with ⟨n, hn, rfl⟩ | q
  · rw [show (200 : Int32) = nI 200 from rfl]
    simp only [with_y (M := M) (show n ≤ 200 by omega) (show 200 < 1073741824 by omega), inK_y (show n ≤ 200 by omega) (show 200 < 1073741824 by omega)]
    by_cases hn0 : n = 0
    · subst hn0
      refine ⟨R 28, M, M, ?_, ?_, c, v, R, X, hc, hC, hM⟩
      · rw [if_neg (by decide), if_pos (by decide), hC.2.1.1.1]
      · rw [if_neg (by decide), if_pos (by decide), hM.2.1 28 (by omega)]
    · obtain ⟨A0, e0, i0, f0, r0⟩ := keep_s (N := N) hc hC
      obtain ⟨hw, hp, hR, hz⟩ := i0.2.1
      obtain ⟨A1, e1, w1, f1, r1, -⟩ := beginW (N := N) hc i0.1 hw hR
      have loop : ∃ A, Md_nights_33 N N (nI n) 0 A1 = some (nxn c (some (nI (gS c))) R n 28, A) ∧ rowC c (A.1 34) (nxn c (some (nI (gS c))) R n) ∧ (∀ a j, a ≠ 5 → a ≠ 8 → (a < 39 ∨ 43 < a) → a ≠ 34 → A.1 a j = A1.1 a j) ∧ A.2 = A1.2 := by
        refine iter (F := fun f i (s : mS) => Md_nights_33 N f (nI n) (nI i) s) (n := n) (Q := fun r => ∃ A, r = some (nxn c (some (nI (gS c))) R n 28, A) ∧ rowC c (A.1 34) (nxn c (some (nI (gS c))) R n) ∧ (∀ a j, a ≠ 5 → a ≠ 8 → (a < 39 ∨ 43 < a) → a ≠ 34 → A.1 a j = A1.1 a j) ∧ A.2 = A1.2)
          (fun i s => WK c s (nxn c (some (nI (gS c))) R i) ∧ pR c (s.1 40) (nxn c (some (nI (gS c))) R i) ∧ frW A1 s) ?_ ?_ (Nat.zero_le _) (by omega) ⟨w1, fun a ha b hb hab => by rw [r1 _ (by omega)]; exact hp a ha b hb hab, frW.refl⟩
        · rintro f i s hi ⟨k1, k2, k3⟩
          have s9 : s.1 3 9 = nI (gS c) := k1.1.2.2.2.1
          obtain ⟨B1, b1, b2, b3, b4, b5⟩ := seeW (m := some (nI (gS c))) (x1 := nI (gS c)) (N := N) (by omega) hc k1 (Or.inr ⟨rfl, ne_m1 (by omega)⟩)
          obtain ⟨B2, d1, d2, d3, d4⟩ := addPairs_s (N := N) (M := B1) (f := th c (some (nI (gS c))) (nxn c (some (nI (gS c))) R i)) (by omega) hc b2.1.2.2.1 b3.1
          have fd : frW B1 B2 := ⟨fun a j q1 q2 q3 => d3 a j (by omega), d4⟩
          have w2 : WK c B2 (nxn c (some (nI (gS c))) R i) := by
            obtain ⟨z1, ⟨y1, y2, y3⟩, z3, z4⟩ := b2
            refine ⟨fd.gC z1, ⟨(d3 _ _ (by omega)).trans y1, fun d hd => ⟨(d3 _ _ (by omega)).trans (y2 d hd).1, (d3 _ _ (by omega)).trans (y2 d hd).2⟩, fun g hg => ⟨(d3 _ _ (by omega)).trans (y3 g hg).1, (d3 _ _ (by omega)).trans (y3 g hg).2⟩⟩, z3, fun q7 q0 q1 g hg => ?_⟩
            rw [d3 39 7 (by omega)] at q7
            rw [changes_c (d3 4 5 (by omega))] at q0 q1
            rw [d3 43 g (by omega)]
            exact z4 q7 q0 q1 g hg
          have s2 : SEEN c (some (nI (gS c))) B2 (nxn c (some (nI (gS c))) R i) := ⟨fun g hg => (d3 _ _ (by omega)).trans (b3.1 g hg), (d3 _ _ (by omega)).trans b3.2.1, (d3 _ _ (by omega)).trans b3.2.2⟩
          obtain ⟨B3, g1, g2, g3, g4⟩ := passW (N := N) (by omega) hc w2 s2
          refine Or.inl ⟨B3, ⟨g2, fun a ha b hb hab => ?_, ((k3.trans b4).trans fd).trans g3⟩, ?_⟩
          · rw [g4 _ (by omega), d2 a ha b hb, shv_ne hab, nxn_s, nx_pr hc ha hb hab, b5, k2 a ha b hb hab]
          · simp (disch := omega) only [Md_nights_33, leP, if_neg, s9, b1, bVs, d1, g1, li, nI_add]
        · rintro f s ⟨k1, k2, k3⟩
          refine ⟨mWW s 34 (va_cpy (s.1 40) (s.1 34) 0 0 44), ?_, ?_, fun a j q1 q2 q3 q4 => by rw [mWW_ne q4]; exact k3.1 a j q1 q2 q3, k3.2⟩
          · rw [Md_nights_33, if_pos (by rw [leP (by omega) (by omega)]; exact Nat.le_refl _), nxs, mWW_eq, cpy44 (by omega), k1.2.1.1]
            rfl
          · rw [mWW_eq]
            refine rowC_44 hc (C := s.1 40) ⟨k1.2.1, k2, k1.2.2.1, VZ_nxn hc hz n⟩ (fun j hj => ?_)
            rw [pk_cpy_in (by omega) (by omega)]
            exact congrArg (s.1 40) (by omega)
      obtain ⟨A, eA, a1, a2, a3⟩ := loop
      have fA : frU M A := f0.trans (f1.frQ.frU.trans ⟨fun a j q => a2 a j (by omega) (by omega) (by omega) (by omega), fun a j q => by rw [a3]⟩)
      have hMA := MI_u hM fA
      obtain ⟨B, eB, b1, b2, b3, b4⟩ := copies_s (N := N) (by omega) hc hMA.1 hMA.2.1
      obtain ⟨D, eD, d1, d2⟩ := goes_s (N := N) (n := n) (by omega) (by omega) hc (b4.gM hMA.1) b1 hR b2
      obtain ⟨E, eE, e1', e2⟩ := records_s (N := N) hN hC.2.2.2.2.1.2.1 (MI_p hMA (b4.trans d2.frP)) d1
      refine ⟨nxn c (some (nI (gS c))) R n 28, A, E, ?_, ?_, c, v, nxn c (some (nI (gS c))) R n, kX X R, hc, ?_, e1'⟩
      · rw [if_neg (by decide), if_neg (by rw [show (0 : Int32) = nI 0 from rfl, leP (by omega) (by omega)]; omega), e0, bVs, e1, bVs, eA]
      · rw [if_neg (by decide), if_neg (nI_ne0 (by omega) (by omega)), eB, bVs, eD, bVs, eE, bVs, e1'.2.1 28 (by omega)]
      · have hA : CI c (nxn c (some (nI (gS c))) R n) (kX X R) A := by
          obtain ⟨h1, h2, h3, h4, h5, h6, h7, h8⟩ := i0
          have f : ∀ a j, a ≠ 5 → a ≠ 8 → (a < 39 ∨ 43 < a) → a ≠ 34 → A.1 a j = A0.1 a j := fun a j q1 q2 q3 q4 => (a2 a j q1 q2 q3 q4).trans (f1.1 a j q1 q2 q3)
          have fz : ∀ a j, a ≠ 5 ∧ a ≠ 8 ∧ (a < 39 ∨ 43 < a) ∧ a ≠ 34 → A.1 a j = A0.1 a j := fun a j q => f a j q.1 q.2.1 q.2.2.1 q.2.2.2
          exact ⟨gC_fr h1 (fun a i q => fz a i (by omega)), a1, CIt_fr h3 (fz _ _ (by omega)) (fun i => fz _ _ (by omega)), (fz _ _ (by omega)).trans h4, CIu_fr h5 (fz _ _ (by omega)) (fz _ _ (by omega)) (fz _ _ (by omega)) (fun i => fz _ _ (by omega)), CIs_fr h6 (fz _ _ (by omega)) (fz _ _ (by omega)) (fun i => fz _ _ (by omega)), CIn_fr h7 (fz _ _ (by omega)) (fun i => fz _ _ (by omega)) (fun i => fz _ _ (by omega)) (fun i => fz _ _ (by omega)), fun k hk => by rw [a3, f1.2]; exact h8 k hk⟩
        exact CI_d (CI_d (CI_d hA b4.frD) d2.frP.frD) e2
  · refine ⟨-1, M, M, ?_, ?_, c, v, R, X, hc, hC, hM⟩
    · rw [show (200 : Int32) = nI 200 from rfl, with_n q (by omega), if_pos (by decide)]
    · rw [show (200 : Int32) = nI 200 from rfl, inK_n q (by omega), if_pos (by decide)]
