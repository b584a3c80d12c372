/-! outIn, metIn, year, there, fullest -/
theorem nxn_d {c : gar} (hc : gOk c) {m : Option Int32} {R : Nat → Int32} (hR : VR c R) {d : Nat} (hd : d < gD c) : ∀ n, nxn c m R n d = nI ((oN R d + n * pN R d) % gH c) ∧ nxn c m R n (4 + d) = nI (pN R d) := by
  obtain ⟨e1, e2, e3, e4⟩ := oN_s hc hR hd
  obtain ⟨hc1, hc2, hc3, hc4, -⟩ := id hc
  intro n
  induction n with
  | zero =>
    refine ⟨?_, e3⟩
    show R d = _
    rw [e1, Nat.zero_mul, Nat.add_zero, Nat.mod_eq_of_lt e2]
  | succ n ih =>
    obtain ⟨h1, h2⟩ := ih
    rw [nxn_s]
    refine ⟨?_, by rw [nx_s hc (by omega)]; exact h2⟩
    have hl : (oN R d + n * pN R d) % gH c < gH c := Nat.mod_lt _ (by omega)
    rw [nx_d hd, h1, h2, clp (by omega), clp (by omega), Nat.add_mod, Nat.mod_mod, ← Nat.add_mod, Nat.succ_mul, Nat.add_assoc]
theorem call_outIn {N : Nat} {M : mS} (hN : 1000 ≤ N) (h : INV M) (x y : Int32) : ∃ r B, Md_outIn N x y M = some r ∧ Mo_outIn N x y M = some (r, B) ∧ INV B := by
  obtain ⟨c, v, R, X, hc, hC, hM⟩ := h
  obtain ⟨hc1, hc2, hc3, hc4, hc5, hc6⟩ := id hc
  unfold Md_outIn Mo_outIn Mo_isLong
  rw [show (200 : Int32) = nI 200 from rfl]
  rcases arg_c x (gD c) (by omega) with ⟨d, hd, rfl⟩ | q
  · rcases arg_c y 201 (by omega) with ⟨n, hn, rfl⟩ | q
    · obtain ⟨B, eB, b1, b2, b3, b4⟩ := copies_s (N := N) hN hc hM.1 hM.2.1
      obtain ⟨D, eD, d1, d2⟩ := goes_s (N := N) (n := n) hN (by omega) hc (b4.gM hM.1) b1 hC.2.1.2.2.1 b2
      refine ⟨nI ((oN R d + n * pN R d) % gH c), D, ?_, ?_, INV_q hc hC hM frQ.refl (b4.trans d2.frP)⟩
      · rw [cDial_y hc hC.1 hd, if_neg (by decide), with_y (by omega) (by omega), if_neg (by decide), behind_s hc hC.1 hC.2.1 hd (by omega), bRs]
      · rw [oDial_y hc hM.1 hd, bRs, if_neg (by decide), inK_y (by omega) (by omega), if_neg (by decide), eB, bVs, eD, bVs, grd_in (by omega) (by omega), clp (by omega), d1 d (by omega), (nxn_d hc hC.2.1.2.2.1 hd n).1]
    · refine ⟨-1, M, ?_, ?_, c, v, R, X, hc, hC, hM⟩
      · rw [cDial_y hc hC.1 hd, if_neg (by decide), with_n q (by omega), if_pos (by decide)]
      · rw [oDial_y hc hM.1 hd, bRs, if_neg (by decide), inK_n q (by omega), if_pos (by decide)]
  · refine ⟨-1, M, ?_, ?_, c, v, R, X, hc, hC, hM⟩
    · rw [cDial_n hC.1 q, if_pos (by decide)]
    · rw [oDial_n hc hM.1 q, bRs, if_pos (by decide)]
theorem passDark_s {N : Nat} {c : gar} {R : Nat → Int32} {m : Option Int32} {x1 : Int32} {M : mS} {n : Nat} (hN : 1000 ≤ N) (hn : n ≤ 400) (hc : gOk c) (h : WK c M R) (hm : mdC m x1) : ∃ B, Wk_passDark N x1 (nI n) M = some B ∧ WK c B (nxn c m R n) ∧ frW M B := by
  unfold Wk_passDark
  refine iter (F := fun f i (s : mS) => Wk_passDark_2 N f x1 (nI n) (nI i) s) (i := 0) (f := N) (n := n) (Q := fun r => ∃ B, r = some B ∧ WK c B (nxn c m R n) ∧ frW M B) (fun i s => WK c s (nxn c m R i) ∧ frW M s) ?_ ?_ (Nat.zero_le _) (by omega) ⟨h, frW.refl⟩
  · rintro f i s hi ⟨h1, h2⟩
    obtain ⟨B1, b1, b2, b3, b4, b5⟩ := seeW hN hc h1 hm
    obtain ⟨B2, d1, d2, d3, d4⟩ := passW hN hc b2 b3
    refine Or.inl ⟨B2, ⟨d2, (h2.trans b4).trans d3⟩, ?_⟩
    rw [Wk_passDark_2, if_neg (by rw [leP (by omega) (by omega)]; omega), b1, bVs, d1, bVs, i1, nI_add]
  · rintro f s ⟨h1, h2⟩
    refine ⟨s, ?_, h1, h2⟩
    rw [Wk_passDark_2, if_pos (by rw [leP (by omega) (by omega)]; omega)]
theorem call_metIn {N : Nat} {M : mS} (hN : 1000 ≤ N) (h : INV M) (x y : Int32) : ∃ r A B, Md_metIn N x y M = some (r, A) ∧ Mo_metIn N x y A = some (r, B) ∧ INV B := by
  obtain ⟨c, v, R, X, hc, hC, hM⟩ := h
  obtain ⟨hc1, hc2, hc3, hc4, hc5, hc6⟩ := id hc
  unfold Md_metIn Mo_metIn Mo_isLong
  rw [show (200 : Int32) = nI 200 from rfl]
  rcases arg_c x (gG c) (by omega) with ⟨g, hg, rfl⟩ | q
  · rcases arg_c y 201 (by omega) with ⟨n, hn, rfl⟩ | q
    · obtain ⟨hw, hp, hR, hz⟩ := hC.2.1
      obtain ⟨A, eA, wA, fA, rA, -⟩ := beginW (N := N) hc hC.1 hw hR
      obtain ⟨A2, eA2, w2, f2⟩ := passDark_s (N := N) (n := n) (m := some (nI (gS c))) (x1 := nI (gS c)) hN (by omega) hc wA (Or.inr ⟨rfl, ne_m1 (by omega)⟩)
      have fQ : frQ M A2 := (fA.trans f2).frQ
      have hMA := MI_u hM fQ.frU
      obtain ⟨B, eB, b1, b2, b3, b4⟩ := copies_s (N := N) hN hc hMA.1 hMA.2.1
      obtain ⟨D, eD, d1, d2⟩ := goes_s (N := N) (n := n) hN (by omega) hc (b4.gM hMA.1) b1 hR b2
      refine ⟨nxn c (some (nI (gS c))) R n (13 + g), A2, D, ?_, ?_, INV_q hc hC hM fQ (b4.trans d2.frP)⟩
      · rw [cGoer_y hc hC.1 hg, if_neg (by decide), with_y (by omega) (by omega), if_neg (by decide), eA, bVs, wA.1.2.2.2.1, eA2, bVs, show (14 : Int32) + nI g = nI (14 + g) from nI_add 14 g, grd_in (by omega) (by omega), clp (by omega), (w2.2.1.2.2 g hg).2]
      · rw [oGoer_y hc hMA.1 hg, bRs, if_neg (by decide), inK_y (by omega) (by omega), if_neg (by decide), eB, bVs, eD, bVs, show (13 : Int32) + nI g = nI (13 + g) from nI_add 13 g, grd_in (by omega) (by omega), clp (by omega), d1 _ (by omega)]
    · refine ⟨-1, M, M, ?_, ?_, c, v, R, X, hc, hC, hM⟩
      · rw [cGoer_y hc hC.1 hg, if_neg (by decide), with_n q (by omega), if_pos (by decide)]
      · rw [oGoer_y hc hM.1 hg, bRs, if_neg (by decide), inK_n q (by omega), if_pos (by decide)]
  · refine ⟨-1, M, M, ?_, ?_, c, v, R, X, hc, hC, hM⟩
    · rw [cGoer_n hC.1 q, if_pos (by decide)]
    · rw [oGoer_n hc hM.1 q, bRs, if_pos (by decide)]
theorem pc_0 {n : Nat} : ∀ {m : Nat}, n < 2 ^ m → (pc n m = 0 ↔ n = 0)
  | 0, h => ⟨fun _ => by omega, fun _ => rfl⟩
  | m + 1, h => by
    unfold pc
    have e : n / 2 ^ m < 2 := (Nat.div_lt_iff_lt_mul (Nat.two_pow_pos m)).mpr (by rw [Nat.pow_succ] at h; omega)
    rw [Nat.mod_eq_of_lt e]
    by_cases q : n < 2 ^ m
    · have := pc_0 q
      rw [Nat.div_eq_of_lt q]; omega
    · have : 1 ≤ n / 2 ^ m := (Nat.one_le_div_iff (Nat.two_pow_pos m)).mpr (by omega)
      have := Nat.two_pow_pos m
      omega
theorem bc_0 {x : Int32} (h : sml x) : bc x = 0 ↔ x = 0 := by
  obtain ⟨n, hn, rfl⟩ := h
  have := pc_le n 24
  rw [bc_n hn, li0, eqP (by omega) (by omega), eqP (by omega) (by omega)]
  exact pc_0 hn
theorem bc_nat {x : Int32} (h : sml x) : ∃ n, n ≤ 24 ∧ bc x = nI n := by
  obtain ⟨n, hn, rfl⟩ := h
  exact ⟨_, pc_le n 24, bc_n hn⟩
noncomputable def yrP (c : gar) (R : Nat → Int32) (g o n k : Nat) : Bool := by classical exact decide (th c (some (nI (gS c + k))) (nxn c (some (nI (gS c + k))) R n) g &&& th c (some (nI (gS c + k))) (nxn c (some (nI (gS c + k))) R n) o ≠ 0)
theorem year_C {N : Nat} {c : gar} {R : Nat → Int32} {M : mS} {g o n s : Nat} (hN : 1000 ≤ N) (hn : n ≤ 200) (hs : s ≤ 20) (hc : gOk c) (hC : gC c M) (hrow : rowC c (M.1 34) R) (hg : g < gG c) (ho : o < gG c) (hgo : g ≠ o) : ∃ A, Md_year_40 N N (nI g) (nI o) (nI n) (nI s) 0 0 M = some (nI (fa_cnt (yrP c R g o n) s), A) ∧ frW M A := by
  obtain ⟨hc1, hc2, hc3, hc4, hc5, hc6⟩ := id hc
  refine iter (F := fun f i (t : Int32 × mS) => Md_year_40 N f (nI g) (nI o) (nI n) (nI s) t.1 (nI i) t.2) (i := 0) (f := N) (s := ((0 : Int32), M)) (n := s) (Q := fun r => ∃ A, r = some (nI (fa_cnt (yrP c R g o n) s), A) ∧ frW M A) (fun i t => t.1 = nI (fa_cnt (yrP c R g o n) i) ∧ frW M t.2) ?_ ?_ (Nat.zero_le _) (by omega) ⟨rfl, frW.refl⟩
  · rintro f i ⟨r, t⟩ hi ⟨h1, h2⟩
    dsimp only at h1 h2
    subst h1
    have hCt := h2.gC hC
    have e34 : t.1 34 = M.1 34 := funext fun j => h2.1 34 j (by omega) (by omega) (by omega)
    obtain ⟨A, eA, wA, fA, rA, -⟩ := beginW (N := N) hc hCt (by rw [e34]; exact hrow.1) hrow.2.2.1
    have ms : mdC (some (nI (gS c + i))) (nI (gS c + i)) := Or.inr ⟨rfl, ne_m1 (by omega)⟩
    obtain ⟨A2, eA2, w2, f2⟩ := passDark_s (N := N) (n := n) hN (by omega) hc wA ms
    obtain ⟨A3, eA3, w3, s3, f3, -⟩ := seeW (N := N) hN hc w2 ms
    have sh := shared_s (N := N) (M := A3) hc4 s3.1 hg ho
    rw [shv_ne hgo] at sh
    have fz := ((h2.trans fA).trans f2).trans f3
    have hcn := fa_cnt_le (yrP c R g o n) i
    refine Or.inl ⟨(nI (fa_cnt (yrP c R g o n) (i + 1)), A3), ⟨rfl, fz⟩, ?_⟩
    dsimp only
    rw [Md_year_40, if_neg (by rw [leP (by omega) (by omega)]; omega), eA, bVs, wA.1.2.2.2.1, nI_add, eA2, bVs, w2.1.2.2.2.1, nI_add, eA3, bVs, sh, bRs]
    unfold Md_year_108
    have sm := sml_and (y := th c (some (nI (gS c + i))) (nxn c (some (nI (gS c + i))) R n) o) (sml_th hc (m := some (nI (gS c + i))) (R := nxn c (some (nI (gS c + i))) R n) (g := g))
    by_cases z : th c (some (nI (gS c + i))) (nxn c (some (nI (gS c + i))) R n) g &&& th c (some (nI (gS c + i))) (nxn c (some (nI (gS c + i))) R n) o = 0
    · rw [if_pos ((bc_0 sm).mpr z), fa_cnt_no (decide_eq_false (fun q => q z)), i1, nI_add]
    · rw [if_neg (fun q => z ((bc_0 sm).mp q)), fa_cnt_yes (decide_eq_true z), i1, nI_add, nI_add]
  · rintro f ⟨r, t⟩ ⟨h1, h2⟩
    dsimp only at h1 h2
    subst h1
    refine ⟨t, ?_, h2⟩
    dsimp only
    rw [Md_year_40, if_pos (by rw [leP (by omega) (by omega)]; omega)]
theorem year_M {N : Nat} {c : gar} {v : Nat} {R : Nat → Int32} {X : aux} {M : mS} {g o n s : Nat} (hN : 1000 ≤ N) (hn : n ≤ 200) (hs : s ≤ 20) (hc : gOk c) (hM : MI c v R X M) (hR : VR c R) (hg : g < gG c) (ho : o < gG c) : ∃ A, Mo_year_35 N N (nI g) (nI o) (nI n) (nI s) 0 0 M = some (nI (fa_cnt (yrP c R g o n) s), A) ∧ frP M A := by
  obtain ⟨hc1, hc2, hc3, hc4, hc5, hc6⟩ := id hc
  refine iter (F := fun f i (t : Int32 × mS) => Mo_year_35 N f (nI g) (nI o) (nI n) (nI s) t.1 (nI i) t.2) (i := 0) (f := N) (s := ((0 : Int32), M)) (n := s) (Q := fun r => ∃ A, r = some (nI (fa_cnt (yrP c R g o n) s), A) ∧ frP M A) (fun i t => t.1 = nI (fa_cnt (yrP c R g o n) i) ∧ frP M t.2) ?_ ?_ (Nat.zero_le _) (by omega) ⟨rfl, frP.refl⟩
  · rintro f i ⟨r, t⟩ hi ⟨h1, h2⟩
    dsimp only at h1 h2
    subst h1
    have hMt := MI_p hM h2
    obtain ⟨B, eB, b1, b2, b3, b4⟩ := copies_s (N := N) hN hc hMt.1 hMt.2.1
    have fB : frP B (mWI B 64 50 (nI (gS c + i))) := ⟨fun a j q1 q2 q3 q4 q5 q6 q7 q8 q9 q10 q11 => by rw [rN (by omega)], rfl⟩
    have md : mdM (some (nI (gS c + i))) (mWI B 64 50 (nI (gS c + i))) := by
      rcases b2 with ⟨q, -⟩ | ⟨-, q⟩
      · cases q
      · exact Or.inr ⟨by rw [rI rfl], by rw [rN (by omega)]; exact q⟩
    have gB : gM c v (mWI B 64 50 (nI (gS c + i))) := (b4.trans fB).gM hMt.1
    obtain ⟨D, eD, d1, d2⟩ := goes_s (N := N) (n := n) (M := mWI B 64 50 (nI (gS c + i))) hN (by omega) hc gB (fun k hk => by rw [rN (by omega)]; exact b1 k hk) hR md
    obtain ⟨E, eE, e1, e2, e3⟩ := fillsThere_s (N := N) hN hc (d2.gM gB) d1 (VR_nxn hc hR n) (d2.md md)
    have fz : frP M E := h2.trans (b4.trans (fB.trans (d2.frP.trans e2.frP)))
    have hcn := fa_cnt_le (yrP c R g o n) i
    refine Or.inl ⟨(nI (fa_cnt (yrP c R g o n) (i + 1)), E), ⟨rfl, fz⟩, ?_⟩
    dsimp only
    rw [Mo_year_35, if_neg (by rw [leP (by omega) (by omega)]; omega), eB, bVs, b3, nI_add, nxs, eD, bVs, eE, bVs, grd_in (by omega) (by omega), grd_in (by omega) (by omega), clp (by omega), clp (by omega), e1 g (by omega), e1 o (by omega)]
    unfold Mo_year_85
    by_cases z : th c (some (nI (gS c + i))) (nxn c (some (nI (gS c + i))) R n) g &&& th c (some (nI (gS c + i))) (nxn c (some (nI (gS c + i))) R n) o = 0
    · rw [if_pos z, fa_cnt_no (decide_eq_false (fun q => q z)), i1, nI_add]
    · rw [if_neg z, fa_cnt_yes (decide_eq_true z), i1, nI_add, nI_add]
  · rintro f ⟨r, t⟩ ⟨h1, h2⟩
    dsimp only at h1 h2
    subst h1
    refine ⟨t, ?_, h2⟩
    dsimp only
    rw [Mo_year_35, if_pos (by rw [leP (by omega) (by omega)]; omega)]
theorem call_year {N : Nat} {M : mS} (hN : 1000 ≤ N) (h : INV M) (x y z w : Int32) : ∃ r A B, Md_year N x y z w M = some (r, A) ∧ Mo_year N x y z w A = some (r, B) ∧ INV B := by
  obtain ⟨c, v, R, X, hc, hC, hM⟩ := h
  unfold Md_year Mo_year Mo_isLong
  rw [show (200 : Int32) = nI 200 from rfl]
  by_cases q : twoA c x y
  · obtain ⟨g, o, hg, ho, hgo, rfl, rfl⟩ := q
    rcases arg_c z 201 (by omega) with ⟨n, hn, rfl⟩ | q
    · rcases arg_c w 21 (by omega) with ⟨s, hs, rfl⟩ | q
      · by_cases s0 : s = 0
        · subst s0
          refine ⟨-1, M, M, ?_, ?_, c, v, R, X, hc, hC, hM⟩
          · rw [two_y hc hC.1 hg ho hgo, if_neg (by decide), with_y (by omega) (by omega), if_neg (by decide), if_pos (by decide)]
          · rw [otwo_y hc hM.1 hg ho hgo, bRs, if_neg (by decide), inK_y (by omega) (by omega), if_neg (by decide), if_pos]
            unfold Mo_in; rw [if_pos (by decide)]
        · obtain ⟨A, eA, fA⟩ := year_C (N := N) (n := n) (s := s) hN (by omega) (by omega) hc hC.1 hC.2.1 hg ho hgo
          have fQ : frQ M A := fA.frQ
          have hMA := MI_u hM fQ.frU
          obtain ⟨B, eB, fB⟩ := year_M (N := N) (n := n) (s := s) hN (by omega) (by omega) hc hMA hC.2.1.2.2.1 hg ho
          refine ⟨nI (fa_cnt (yrP c R g o n) s), A, B, ?_, ?_, INV_q hc hC hM fQ fB⟩
          · rw [two_y hc hC.1 hg ho hgo, if_neg (by decide), with_y (by omega) (by omega), if_neg (by decide), if_neg (by rw [i1, ltP (by omega) (by omega)]; omega), if_pos (by rw [show (20 : Int32) = nI 20 from rfl, leP (by omega) (by omega)]; omega), eA]
          · rw [otwo_y hc hMA.1 hg ho hgo, bRs, if_neg (by decide), inK_y (by omega) (by omega), if_neg (by decide), if_neg, eB]
            unfold Mo_in
            rw [if_neg (by rw [i1, ltP (by omega) (by omega)]; omega), if_neg (by rw [show (20 : Int32) = nI 20 from rfl, ltP (by omega) (by omega)]; omega)]
            decide
      · refine ⟨-1, M, M, ?_, ?_, c, v, R, X, hc, hC, hM⟩
        · rw [two_y hc hC.1 hg ho hgo, if_neg (by decide), with_y (by omega) (by omega), if_neg (by decide)]
          by_cases w1 : w < 1
          · rw [if_pos w1]
          · rw [if_neg w1, if_neg]
            rcases q with q | ⟨q1, q2⟩
            · exfalso
              rw [fa_lt] at *
              have e1 : (1 : Int32).toInt = 1 := rfl
              have e0 : (0 : Int32).toInt = 0 := rfl
              omega
            · rw [fa_le, nI_toInt (by omega)] at q2
              rw [fa_le]
              have e1 : (20 : Int32).toInt = 20 := rfl
              omega
        · rw [otwo_y hc hM.1 hg ho hgo, bRs, if_neg (by decide), inK_y (by omega) (by omega), if_neg (by decide), if_pos]
          unfold Mo_in
          by_cases w1 : w < 1
          · rw [if_pos w1]
          · rw [if_neg w1, if_pos]
            rcases q with q | ⟨q1, q2⟩
            · exfalso
              rw [fa_lt] at *
              have e1 : (1 : Int32).toInt = 1 := rfl
              have e0 : (0 : Int32).toInt = 0 := rfl
              omega
            · rw [fa_le, nI_toInt (by omega)] at q2
              rw [fa_lt]
              have e1 : (20 : Int32).toInt = 20 := rfl
              omega
    · refine ⟨-1, M, M, ?_, ?_, c, v, R, X, hc, hC, hM⟩
      · rw [two_y hc hC.1 hg ho hgo, if_neg (by decide), with_n q (by omega), if_pos (by decide)]
      · rw [otwo_y hc hM.1 hg ho hgo, bRs, if_neg (by decide), inK_n q (by omega), if_pos (by decide)]
  · refine ⟨-1, M, M, ?_, ?_, c, v, R, X, hc, hC, hM⟩
    · rw [two_n hc hC.1 q, if_pos (by decide)]
    · rw [otwo_n hc hM.1 q, bRs, if_pos (by decide)]
