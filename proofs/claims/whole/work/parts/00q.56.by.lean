/-! strangers, by, favourite -/
theorem bt_pw {g o : Nat} (hg : g < 32) (ho : o < 32) : bt (nI (2 ^ g)) o = decide (g = o) := by
  rw [b_nI _ ho, Nat.testBit_two_pow]
theorem shlg {g : Nat} (hg : g < 32) : (1 : Int32) <<< (nI g &&& 31) = nI (2 ^ g) := shl1 hg
def stG (c : gar) (R : Nat → Int32) (g n : Nat) (x : Int32) : Prop := ∀ o, o < 32 → (bt x o = true ↔ o < gG c ∧ o ≠ g ∧ ∀ k, k < n → ¬ Pm c R g o k)
theorem strangers_C {N : Nat} {c : gar} {R : Nat → Int32} {M : mS} {g : Nat} (hN : 1000 ≤ N) (hc : gOk c) (h : WK c M R) (hg : g < gG c) : ∃ x A, Mt_neverMet N (nI g) M = some (x, A) ∧ stG c R g 401 x ∧ frW M A := by
  obtain ⟨hc1, hc2, hc3, hc4, hc5, hc6⟩ := id hc
  have hp := pow5 hc4
  have hp0 := Nat.two_pow_pos (gG c)
  have e0 : ((1 : Int32) <<< (M.1 3 8 &&& 31) - 1) &&& ((1 : Int32) <<< (nI g &&& 31) ^^^ (-1)) = nI (2 ^ gG c - 1) &&& (nI (2 ^ g) ^^^ (-1)) := by
    rw [h.1.2.2.1, shlg (by omega), shlg (by omega), i1, sbP (by omega)]
  have i0 : stG c R g 0 (nI (2 ^ gG c - 1) &&& (nI (2 ^ g) ^^^ (-1))) := by
    intro o ho
    rw [b_and, b_not ho, bt_pw (by omega) ho, b_nI _ ho, Nat.testBit_two_pow_sub_one, Bool.and_eq_true, decide_eq_true_eq, Bool.not_eq_true', decide_eq_false_iff_not]
    exact ⟨fun q => ⟨q.1, fun e => q.2 e.symm, fun k hk => absurd hk (Nat.not_lt_zero _)⟩, fun q => ⟨q.1, fun e => q.2.1 e.symm⟩⟩
  unfold Mt_neverMet
  rw [e0, nxs]
  refine iter (F := fun f i (s : Int32 × mS) => Mt_neverMet_20 N f (nI g) s.1 (nI i) s.2) (i := 0) (f := N) (s := (nI (2 ^ gG c - 1) &&& (nI (2 ^ g) ^^^ (-1)), M)) (n := 401) (Q := fun r => ∃ x A, r = some (x, A) ∧ stG c R g 401 x ∧ frW M A) (fun i s => stG c R g i s.1 ∧ WK c s.2 (nxn c none R i) ∧ frW M s.2) ?_ ?_ (Nat.zero_le _) (by omega) ⟨i0, h, frW.refl⟩
  · rintro f i ⟨x, t⟩ hi ⟨h1, h2, h3⟩
    dsimp only at h1 h2 h3
    have k0 : ¬ (400 : Int32) < nI i := by rw [show (400 : Int32) = nI 400 from rfl, ltP (by omega) (by omega)]; omega
    by_cases z : x = 0
    · refine Or.inr ⟨x, t, ?_, fun o ho => ?_, h3⟩
      · dsimp only; rw [Mt_neverMet_20, if_neg k0, if_pos z]
      · have := h1 o ho
        rw [z, b_0] at this
        constructor
        · intro q; rw [z, b_0] at q; cases q
        · rintro ⟨q1, q2, q3⟩
          exact absurd (this.mpr ⟨q1, q2, fun k hk => q3 k (by omega)⟩) (by decide)
    · obtain ⟨B1, b1, b2, b3, b4⟩ := night_W hN hc h2
      have g8 := b2.1.2.2.1
      have inner : ∃ x', stG c R g (i + 1) x' ∧ Mt_neverMet_42 N (Mt_neverMet_20 N f) N (nI g) x (nI i) 0 B1 = bV (Wk_pass N B1) fun M2 => Mt_neverMet_20 N f (nI g) x' (nI (i + 1)) M2 := by
        refine iter (F := fun u j (y : Int32) => Mt_neverMet_42 N (Mt_neverMet_20 N f) u (nI g) y (nI i) (nI j) B1) (i := 0) (f := N) (s := x) (n := gG c) (Q := fun r => ∃ x', stG c R g (i + 1) x' ∧ r = bV (Wk_pass N B1) fun M2 => Mt_neverMet_20 N f (nI g) x' (nI (i + 1)) M2) (fun j y => ∀ o, o < 32 → (bt y o = true ↔ o < gG c ∧ o ≠ g ∧ (∀ k, k < i → ¬ Pm c R g o k) ∧ (o < j → ¬ Pm c R g o i))) ?_ ?_ (Nat.zero_le _) (by omega) (fun o ho => by rw [h1 o ho]; exact ⟨fun q => ⟨q.1, q.2.1, q.2.2, fun w => absurd w (Nat.not_lt_zero _)⟩, fun q => ⟨q.1, q.2.1, q.2.2.1⟩⟩)
        · rintro u j y hj hy
          have sh := shared_s (N := N) (M := B1) hc4 b3.1 hg hj
          have k1 : ¬ nI (gG c) ≤ nI j := by rw [leP (by omega) (by omega)]; omega
          by_cases e : g = j
          · have s0 : shv (th c none (nxn c none R i)) g j = 0 := if_pos e
            refine Or.inl ⟨y, fun o ho => ?_, ?_⟩
            · rw [hy o ho]
              constructor
              · rintro ⟨q1, q2, q3, q4⟩; exact ⟨q1, q2, q3, fun w => q4 (by omega)⟩
              · rintro ⟨q1, q2, q3, q4⟩; exact ⟨q1, q2, q3, fun w => q4 (by omega)⟩
            · rw [Mt_neverMet_42, g8, if_neg k1, sh, s0, bRs, if_pos (by decide)]
              unfold Mt_neverMet_76
              rw [show nI j + 1 = nI (j + 1) from nI_add j 1]
          · have s1 : shv (th c none (nxn c none R i)) g j = bc (tK c R i g &&& tK c R i j) := shv_ne e
            by_cases p : Pm c R g j i
            · refine Or.inl ⟨y &&& (nI (2 ^ j) ^^^ (-1)), fun o ho => ?_, ?_⟩
              · rw [b_and, b_not ho, bt_pw (by omega) ho, Bool.and_eq_true, hy o ho, Bool.not_eq_true', decide_eq_false_iff_not]
                constructor
                · rintro ⟨⟨q1, q2, q3, q4⟩, q5⟩
                  exact ⟨q1, q2, q3, fun w => q4 (by omega)⟩
                · rintro ⟨q1, q2, q3, q4⟩
                  refine ⟨⟨q1, q2, q3, fun w => q4 (by omega)⟩, ?_⟩
                  rintro rfl
                  exact q4 (by omega) p
              · rw [Mt_neverMet_42, g8, if_neg k1, sh, s1, bRs, if_neg (fun q => (sh_0 hc).mp q p), shlg (by omega), nxs]
                unfold Mt_neverMet_76
                rw [show nI j + 1 = nI (j + 1) from nI_add j 1]
            · refine Or.inl ⟨y, fun o ho => ?_, ?_⟩
              · rw [hy o ho]
                constructor
                · rintro ⟨q1, q2, q3, q4⟩
                  refine ⟨q1, q2, q3, fun w => ?_⟩
                  by_cases eo : o = j
                  · subst eo; exact p
                  · exact q4 (by omega)
                · rintro ⟨q1, q2, q3, q4⟩; exact ⟨q1, q2, q3, fun w => q4 (by omega)⟩
              · rw [Mt_neverMet_42, g8, if_neg k1, sh, s1, bRs, if_pos ((sh_0 hc).mpr p)]
                unfold Mt_neverMet_76
                rw [show nI j + 1 = nI (j + 1) from nI_add j 1]
        · rintro u y hy
          refine ⟨y, fun o ho => ?_, ?_⟩
          · rw [hy o ho]
            constructor
            · rintro ⟨q1, q2, q3, q4⟩
              refine ⟨q1, q2, fun k hk => ?_⟩
              by_cases e : k = i
              · subst e; exact q4 q1
              · exact q3 k (by omega)
            · rintro ⟨q1, q2, q3⟩
              exact ⟨q1, q2, fun k hk => q3 k (by omega), fun _ => q3 i (by omega)⟩
          · rw [Mt_neverMet_42, g8, if_pos (by rw [leP (by omega) (by omega)]; omega), show nI i + 1 = nI (i + 1) from nI_add i 1]
      obtain ⟨x', q1, q2⟩ := inner
      obtain ⟨B2, d1, d2, d3⟩ := pass_W hN hc b2 b3
      refine Or.inl ⟨(x', B2), ⟨q1, d2, (h3.trans b4).trans d3⟩, ?_⟩
      dsimp only
      rw [Mt_neverMet_20, if_neg k0, if_neg z, b1, bVs, q2, d1, bVs]
  · rintro f ⟨x, t⟩ ⟨h1, h2, h3⟩
    refine ⟨x, t, ?_, h1, h3⟩
    dsimp only
    rw [Mt_neverMet_20, if_pos (by decide)]
theorem strangers_M {N : Nat} {c : gar} {v : Nat} {R : Nat → Int32} {B : mS} {g : Nat} (hN : 1000 ≤ N) (hc : gOk c) (hM : gM c v B) (hF : FILL c R 400 B) (hg : g < gG c) : ∃ x, Mo_strangers_21 N N (nI g) 0 0 B = some (x, B) ∧ stG c R g 401 x := by
  obtain ⟨hc1, hc2, hc3, hc4, hc5, hc6⟩ := id hc
  obtain ⟨h0, h1, h2, h3, h4, -⟩ := id hM
  refine iter (F := fun f i (x : Int32) => Mo_strangers_21 N f (nI g) x (nI i) B) (i := 0) (f := N) (s := (0 : Int32)) (n := gG c) (Q := fun r => ∃ x, r = some (x, B) ∧ stG c R g 401 x) (fun i x => ∀ o, o < 32 → (bt x o = true ↔ o < i ∧ o ≠ g ∧ ∀ k, k < 401 → ¬ Pm c R g o k)) ?_ ?_ (Nat.zero_le _) (by omega) (fun o ho => by rw [b_0]; exact ⟨fun q => absurd q (by decide), fun q => absurd q.1 (Nat.not_lt_zero _)⟩)
  · rintro f i x hi hx
    have k1 : ¬ nI (gG c) ≤ nI i := by rw [leP (by omega) (by omega)]; omega
    by_cases e : i = g
    · refine Or.inl ⟨x, fun o ho => ?_, ?_⟩
      · rw [hx o ho]
        constructor
        · rintro ⟨q1, q2, q3⟩; exact ⟨by omega, q2, q3⟩
        · rintro ⟨q1, q2, q3⟩; exact ⟨by omega, q2, q3⟩
      · rw [Mo_strangers_21, h1, grd_in h0 (by omega), clp (by omega), h4, if_neg k1, if_pos (by rw [e])]
        unfold Mo_strangers_62
        rw [show nI i + 1 = nI (i + 1) from nI_add i 1]
    · have hp1 : (2 : Nat) ^ i ≤ 32 := pow5 (by omega)
      have hp2 : (2 : Nat) ^ g ≤ 32 := pow5 (by omega)
      have hor : 2 ^ g ||| 2 ^ i < 2 ^ 6 := Nat.or_lt_two_pow (by omega) (by omega)
      have em := firstMeet_s (N := N) (s := 2 ^ g ||| 2 ^ i) (n := 400) hN (Nat.le_refl 400) (by omega) hc hM hF (by omega)
      have key : ∀ r, fstA (mtP c R (2 ^ g ||| 2 ^ i)) 401 = r → Mo_strangers_21 N (f + 1) (nI g) x (nI i) B = if 0 ≤ r then Mo_strangers_21 N f (nI g) x (nI (i + 1)) B else Mo_strangers_21 N f (nI g) (x ||| nI (2 ^ i)) (nI (i + 1)) B := by
        rintro r rfl
        rw [Mo_strangers_21, h1, grd_in h0 (by omega), clp (by omega), h4, if_neg k1, if_neg (by rw [eqP (by omega) (by omega)]; exact e), shlg (by omega), shlg (by omega), fa_or, show (400 : Int32) = nI 400 from rfl, em, bRs, nxs]
        unfold Mo_strangers_62
        rw [show nI i + 1 = nI (i + 1) from nI_add i 1]
      rcases fstA_c (p := mtP c R (2 ^ g ||| 2 ^ i)) (n := 401) (by omega) with ⟨k, hk, ek, pk⟩ | ⟨ek, nk⟩
      · have pk := (mtP_pair hc hg hi).mp pk
        refine Or.inl ⟨x, fun o ho => ?_, ?_⟩
        · rw [hx o ho]
          constructor
          · rintro ⟨q1, q2, q3⟩; exact ⟨by omega, q2, q3⟩
          · rintro ⟨q1, q2, q3⟩
            refine ⟨?_, q2, q3⟩
            apply Classical.byContradiction
            intro q
            have : o = i := by omega
            subst this
            exact q3 k hk pk
        · rw [key _ ek, if_pos (by rw [li0, leP (by omega) (by omega)]; omega)]
      · have nk : ∀ k, k < 401 → ¬ Pm c R g i k := fun k hk p => by
          have := nk k hk
          rw [(mtP_pair hc hg hi).mpr p] at this; cases this
        refine Or.inl ⟨x ||| nI (2 ^ i), fun o ho => ?_, ?_⟩
        · rw [b_or, bt_pw (by omega) ho, Bool.or_eq_true, hx o ho, decide_eq_true_eq]
          constructor
          · rintro (⟨q1, q2, q3⟩ | rfl)
            · exact ⟨by omega, q2, q3⟩
            · exact ⟨by omega, e, nk⟩
          · rintro ⟨q1, q2, q3⟩
            by_cases z : i = o
            · exact Or.inr z
            · exact Or.inl ⟨by omega, q2, q3⟩
        · rw [key _ ek, if_neg (by decide)]
  · rintro f x hx
    refine ⟨x, ?_, hx⟩
    rw [Mo_strangers_21, h1, grd_in h0 (by omega), clp (by omega), h4, if_pos (by rw [leP (by omega) (by omega)]; omega)]
theorem call_strangers {N : Nat} {M : mS} (hN : 1000 ≤ N) (h : INV M) (x : Int32) : ∃ r A B, Md_strangers N x M = some (r, A) ∧ Mo_strangers N x A = some (r, B) ∧ INV B := by
  obtain ⟨c, v, R, X, hc, hC, hM⟩ := h
  obtain ⟨hc1, hc2, hc3, hc4, hc5, hc6⟩ := id hc
  unfold Md_strangers Mo_strangers
  rcases arg_c x (gG c) (by omega) with ⟨g, hg, rfl⟩ | q
  · obtain ⟨A, eA, wA, fA, rA, -⟩ := beginW (N := N) hc hC.1 hC.2.1.1 hC.2.1.2.2.1
    obtain ⟨y, A2, eA2, sA, f2⟩ := strangers_C (N := N) hN hc wA hg
    have fQ : frQ M A2 := (fA.trans f2).frQ
    have hMA := MI_u hM fQ.frU
    obtain ⟨B, eB, b1, b2, b3⟩ := fillsStill_s (N := N) (n := 400) hN (by omega) hc hMA.1 hMA.2.1 hC.2.1.2.2.1
    obtain ⟨y', eM, sM⟩ := strangers_M (N := N) hN hc b2 b1 hg
    have ey : y = y' := by
      apply b_ext
      intro o ho
      rw [Bool.eq_iff_iff, sA o ho, sM o ho]
    subst ey
    refine ⟨y, A2, B, ?_, ?_, INV_q hc hC hM fQ b3⟩
    · rw [cGoer_y hc hC.1 hg, if_neg (by decide), eA, bVs, eA2, bWs]
    · rw [oGoer_y hc hMA.1 hg, bRs, if_neg (by decide), show (400 : Int32) = nI 400 from rfl, eB, bVs, eM]
  · refine ⟨-1, M, M, ?_, ?_, c, v, R, X, hc, hC, hM⟩
    · rw [cGoer_n hC.1 q, if_pos (by decide)]
    · rw [oGoer_n hc hM.1 q, bRs, if_pos (by decide)]
/-! by -/
def bstI (f : Nat → Int32) : Nat → Int32 × Int32
  | 0 => (0, -1)
  | d + 1 => if (bstI f d).2 < f d then (nI d, f d) else bstI f d
theorem bstI_s {f : Nat → Int32} {d : Nat} : bstI f (d + 1) = if (bstI f d).2 < f d then (nI d, f d) else bstI f d := rfl
noncomputable def byF (c : gar) (R : Nat → Int32) (g o n d : Nat) : Int32 := sumI (fun k => bc (tK c (upd R (8 + g) (nI d)) k g &&& tK c (upd R (8 + g) (nI d)) k o)) n
theorem bestDial_s {N : Nat} {c : gar} {R : Nat → Int32} {M : mS} {g o n : Nat} (hN : 1000 ≤ N) (hc : gOk c) (hC : gC c M) (hrow : rowC c (M.1 34) R) (hg : g < gG c) (ho : o < gG c) (hgo : g ≠ o) (hn : n ≤ 400) : ∃ A, Tl_bestDial N (nI g) (nI o) (nI n) M = some ((bstI (byF c R g o n) (gD c)).1, A) ∧ A.1 45 0 = (bstI (byF c R g o n) (gD c)).2 ∧ frQ M A := by
  obtain ⟨hc1, hc2, hc3, hc4, hc5, hc6⟩ := id hc
  unfold Tl_bestDial
  rw [nxs]
  refine iter (F := fun f i (s : Int32 × mS) => Tl_bestDial_11 N f (nI g) (nI o) (nI n) s.1 (nI i) s.2) (i := 0) (f := N) (s := ((0 : Int32), mWI M 45 0 (-1))) (n := gD c) (Q := fun r => ∃ A, r = some ((bstI (byF c R g o n) (gD c)).1, A) ∧ A.1 45 0 = (bstI (byF c R g o n) (gD c)).2 ∧ frQ M A) (fun i s => s.1 = (bstI (byF c R g o n) i).1 ∧ s.2.1 45 0 = (bstI (byF c R g o n) i).2 ∧ frQ M s.2) ?_ ?_ (Nat.zero_le _) (by omega) ⟨rfl, rI rfl, frQ.refl.wI (by omega)⟩
  · rintro f i ⟨x, t⟩ hi ⟨h1, h2, h3⟩
    dsimp only at h1 h2 h3
    subst h1
    have row : rowC c (t.1 34) R := rowC_c hrow (fun j => h3.1 34 j (by omega) (by omega) (by omega))
    obtain ⟨A, eA, wA, fA⟩ := beginU (N := N) hc (h3.gC hC) row (show 9 + g < 44 by omega) (row_by hc (R := R) hg hi)
    obtain ⟨A2, eA2, f2⟩ := sharedHours_s (N := N) (n := n) hN hn hc wA hg ho hgo
    have fz : frQ M A2 := h3.trans (fA.trans f2).frQ
    have e45 : A2.1 45 0 = (bstI (byF c R g o n) i).2 := by
      rw [f2.1 45 0 (by omega) (by omega) (by omega), fA.1 45 0 (by omega) (by omega) (by omega)]; exact h2
    have key : Tl_bestDial_11 N (f + 1) (nI g) (nI o) (nI n) (bstI (byF c R g o n) i).1 (nI i) t = if byF c R g o n i ≤ (bstI (byF c R g o n) i).2 then Tl_bestDial_11 N f (nI g) (nI o) (nI n) (bstI (byF c R g o n) i).1 (nI (i + 1)) A2 else Tl_bestDial_11 N f (nI g) (nI o) (nI n) (nI i) (nI (i + 1)) (mWI A2 45 0 (byF c R g o n i)) := by
      rw [Tl_bestDial_11, (h3.gC hC).2.1, if_neg (by rw [leP (by omega) (by omega)]; omega), eA, bVs, show (9 : Int32) + nI g = nI (9 + g) from nI_add 9 g, grd_in (by omega) (by omega), clp (by omega), nxs, eA2, bWs, e45, nxs]
      unfold Tl_bestDial_74
      rw [show nI i + 1 = nI (i + 1) from nI_add i 1]
      rfl
    by_cases z : (bstI (byF c R g o n) i).2 < byF c R g o n i
    · refine Or.inl ⟨(nI i, mWI A2 45 0 (byF c R g o n i)), ⟨by rw [bstI_s, if_pos z], by rw [bstI_s, if_pos z]; exact rI rfl, fz.wI (by omega)⟩, ?_⟩
      rw [key, if_neg (fa_of_lt z).2.1]
    · refine Or.inl ⟨((bstI (byF c R g o n) i).1, A2), ⟨by rw [bstI_s, if_neg z], by rw [bstI_s, if_neg z]; exact e45, fz⟩, ?_⟩
      rw [key, if_pos (fa_of_nlt z)]
  · rintro f ⟨x, t⟩ ⟨h1, h2, h3⟩
    dsimp only at h1 h2 h3
    subst h1
    refine ⟨t, ?_, h2, h3⟩
    dsimp only
    rw [Tl_bestDial_11, (h3.gC hC).2.1, if_pos (by rw [leP (by omega) (by omega)]; omega)]
theorem by_M {N : Nat} {c : gar} {v : Nat} {R : Nat → Int32} {X : aux} {M : mS} {g o n w : Nat} (hN : 1000 ≤ N) (hc : gOk c) (hM : MI c v R X M) (hR : VR c R) (hg : g < gG c) (ho : o < gG c) (hn : n ≤ 400) : ∃ A, Mo_by_37 N N (nI g) (nI o) (nI n) (nI w) 0 (-1) 0 M = (if nI w = 0 then some ((bstI (byF c R g o n) (gD c)).1, A) else some ((bstI (byF c R g o n) (gD c)).2, A)) ∧ frP M A := by
  obtain ⟨hc1, hc2, hc3, hc4, hc5, hc6⟩ := id hc
  refine iter (F := fun f i (s : (Int32 × Int32) × mS) => Mo_by_37 N f (nI g) (nI o) (nI n) (nI w) s.1.1 s.1.2 (nI i) s.2) (i := 0) (f := N) (s := (((0 : Int32), (-1 : Int32)), M)) (n := gD c) (Q := fun r => ∃ A, r = (if nI w = 0 then some ((bstI (byF c R g o n) (gD c)).1, A) else some ((bstI (byF c R g o n) (gD c)).2, A)) ∧ frP M A) (fun i s => s.1 = bstI (byF c R g o n) i ∧ frP M s.2) ?_ ?_ (Nat.zero_le _) (by omega) ⟨rfl, frP.refl⟩
  · rintro f i ⟨x, t⟩ hi ⟨h1, h2⟩
    dsimp only at h1 h2
    subst h1
    have hMt := MI_p hM h2
    obtain ⟨g0, g1, g2, g3, g4, -⟩ := id hMt.1
    obtain ⟨B, eB, b1, b2, b3, b4⟩ := copiesStill_s (N := N) hN hc hMt.1 hMt.2.1
    have gB := b4.gM hMt.1
    have f1 : frP B (mWI B 96 (8 + g) (nI i)) := ⟨fun a j q1 q2 q3 q4 q5 q6 q7 q8 q9 q10 q11 => by rw [mWI_ne q3], rfl⟩
    have m1 : mdM none (mWI B 96 (8 + g) (nI i)) := by
      unfold mdM; rw [mWI_ne (by omega)]; exact b2
    obtain ⟨D, eD, d1, d2⟩ := fillsNights_s (N := N) (n := n) (M := mWI B 96 (8 + g) (nI i)) (R := upd R (8 + g) (nI i)) hN hn hc (f1.gM gB) (fun k hk => by
      by_cases e : k = 8 + g
      · subst e; rw [rI rfl, pk_us]
      · rw [rN (by omega), pk_un e]; exact b1 k hk) (VR_by hc hR hg hi) m1
    have fz : frP M D := h2.trans (b4.trans (f1.trans d2.frP))
    have eo := oftenBy_s (N := N) hN (Nat.le_refl n) hn hc d1 hg ho
    have key : Mo_by_37 N (f + 1) (nI g) (nI o) (nI n) (nI w) (bstI (byF c R g o n) i).1 (bstI (byF c R g o n) i).2 (nI i) t = if (bstI (byF c R g o n) i).2 < byF c R g o n i then Mo_by_37 N f (nI g) (nI o) (nI n) (nI w) (nI i) (byF c R g o n i) (nI (i + 1)) D else Mo_by_37 N f (nI g) (nI o) (nI n) (nI w) (bstI (byF c R g o n) i).1 (bstI (byF c R g o n) i).2 (nI (i + 1)) D := by
      rw [Mo_by_37, g1, grd_in g0 (by omega), clp (by omega), g3, if_neg (by rw [leP (by omega) (by omega)]; omega), eB, bVs, show (8 : Int32) + nI g = nI (8 + g) from nI_add 8 g, grd_in (by omega) (by omega), clp (by omega), nxs, eD, bVs, eo, bRs]
      unfold Mo_by_98
      rw [show nI i + 1 = nI (i + 1) from nI_add i 1]
      rfl
    by_cases z : (bstI (byF c R g o n) i).2 < byF c R g o n i
    · refine Or.inl ⟨((nI i, byF c R g o n i), D), ⟨by rw [bstI_s, if_pos z], fz⟩, ?_⟩
      rw [key, if_pos z]
    · refine Or.inl ⟨(bstI (byF c R g o n) i, D), ⟨by rw [bstI_s, if_neg z], fz⟩, ?_⟩
      rw [key, if_neg z]
  · rintro f ⟨x, t⟩ ⟨h1, h2⟩
    dsimp only at h1 h2
    subst h1
    have hMt := MI_p hM h2
    obtain ⟨g0, g1, g2, g3, g4, -⟩ := id hMt.1
    refine ⟨t, ?_, h2⟩
    dsimp only
    rw [Mo_by_37, g1, grd_in g0 (by omega), clp (by omega), g3, if_pos (by rw [leP (by omega) (by omega)]; omega)]
theorem call_by {N : Nat} {M : mS} (hN : 1000 ≤ N) (h : INV M) (x y z u : Int32) : ∃ r A B, Md_by N x y z u M = some (r, A) ∧ Mo_by N x y z u A = some (r, B) ∧ INV B := by
  obtain ⟨c, v, R, X, hc, hC, hM⟩ := h
  unfold Md_by Mo_by Mo_isLong
  rw [show (200 : Int32) = nI 200 from rfl]
  by_cases q : twoA c x y
  · obtain ⟨g, o, hg, ho, hgo, rfl, rfl⟩ := q
    rcases arg_c z 201 (by omega) with ⟨n, hn, rfl⟩ | q
    · rcases arg_c u 2 (by omega) with ⟨w, hw, rfl⟩ | q
      · have hw2 : w = 0 ∨ w = 1 := by omega
        obtain ⟨A, eA, a1, fA⟩ := bestDial_s (N := N) (n := n) hN hc hC.1 hC.2.1 hg ho hgo (by omega)
        have hMA := MI_u hM fA.frU
        obtain ⟨B, eB, fB⟩ := by_M (N := N) (n := n) (w := w) hN hc hMA hC.2.1.2.2.1 hg ho (by omega)
        refine ⟨if nI w = 0 then (bstI (byF c R g o n) (gD c)).1 else (bstI (byF c R g o n) (gD c)).2, A, B, ?_, ?_, INV_q hc hC hM fA fB⟩
        · rw [two_y hc hC.1 hg ho hgo, if_neg (by decide), with_y (by omega) (by omega), if_neg (by decide)]
          unfold Md_by_32
          rw [eA, bWs, a1]
          rcases hw2 with rfl | rfl <;> rfl
        · rw [otwo_y hc hMA.1 hg ho hgo, bRs, if_neg (by decide), inK_y (by omega) (by omega), if_neg (by decide), i1, inK_y (by omega) (by omega), if_neg (by decide)]
          rw [show (-nI 1 : Int32) = -1 from rfl, eB]
          rcases hw2 with rfl | rfl <;> rfl
      · have z0 : ¬ u = 0 := outr_ne q (k := 0) (by omega) (by omega)
        have z1 : ¬ u = 1 := outr_ne q (k := 1) (by omega) (by omega)
        refine ⟨-1, M, M, ?_, ?_, c, v, R, X, hc, hC, hM⟩
        · rw [two_y hc hC.1 hg ho hgo, if_neg (by decide), with_y (by omega) (by omega), if_neg (by decide), if_neg z0, if_neg z1]
        · rw [otwo_y hc hM.1 hg ho hgo, bRs, if_neg (by decide), inK_y (by omega) (by omega), if_neg (by decide), show (1 : Int32) = nI 1 from rfl, inK_n q (by omega), if_pos (by decide)]
    · refine ⟨-1, M, M, ?_, ?_, c, v, R, X, hc, hC, hM⟩
      · rw [two_y hc hC.1 hg ho hgo, if_neg (by decide), with_n q (by omega), if_pos (by decide)]
      · rw [otwo_y hc hM.1 hg ho hgo, bRs, if_neg (by decide), inK_n q (by omega), if_pos (by decide)]
  · refine ⟨-1, M, M, ?_, ?_, c, v, R, X, hc, hC, hM⟩
    · rw [two_n hc hC.1 q, if_pos (by decide)]
    · rw [otwo_n hc hM.1 q, bRs, if_pos (by decide)]
