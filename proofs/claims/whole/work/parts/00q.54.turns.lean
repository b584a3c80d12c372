/-! turns, parts, knot, mend -/
theorem beginU {N : Nat} {c : gar} {R : Nat → Int32} {M : mS} {j k : Nat} {x : Int32} (hc : gOk c) (hC : gC c M) (hrow : rowC c (M.1 34) R) (hj : j < 44) (hu : ∀ C, rowC c C R → rowC c (upd C j x) (upd R k x)) : ∃ A, Wk_begin N M = some A ∧ WK c (mWI A 40 j x) (upd R k x) ∧ frW M (mWI A 40 j x) := by
  obtain ⟨A, eA, wA, fA, rA, hA⟩ := beginW (N := N) hc hC hrow.1 hrow.2.2.1
  have h2 := hu (A.1 40) (rowC_44 hc hrow rA)
  refine ⟨A, eA, ⟨gC_fr wA.1 (fun a i q => by rw [mWI_ne (by omega)]), by rw [mWI_eq]; exact h2.1, h2.2.2.1, fun q => ?_⟩, fA.trans ⟨fun a i q1 q2 q3 => by rw [mWI_ne (by omega)], rfl⟩⟩
  rw [mWI_ne (by omega)] at q
  exact absurd hA q
/-- whether a set meets behind n nights or fewer -/
noncomputable def metB (c : gar) (R : Nat → Int32) (s n : Nat) : Bool := decide (fa_first (mtP c R s) (n + 1) < n + 1)
theorem metB_t {c : gar} {R : Nat → Int32} {s n : Nat} (h : metB c R s n = true) : ∃ k, k < n + 1 ∧ fstA (mtP c R s) (n + 1) = nI k := ⟨_, of_decide_eq_true h, if_pos (of_decide_eq_true h)⟩
theorem metB_f {c : gar} {R : Nat → Int32} {s n : Nat} (h : metB c R s n = false) : fstA (mtP c R s) (n + 1) = -2 := if_neg (of_decide_eq_false h)
theorem meetsWith_s {N : Nat} {c : gar} {R : Nat → Int32} {M : mS} {j k s n : Nat} {x : Int32} (hN : 1000 ≤ N) (hc : gOk c) (hC : gC c M) (hrow : rowC c (M.1 34) R) (hj : j < 44) (hu : ∀ C, rowC c C R → rowC c (upd C j x) (upd R k x)) (hs : s < 2147483648) (hn : n ≤ 400) : ∃ A, Mt_meetsWith N (nI j) x (nI s) (nI n) M = some ((if metB c (upd R k x) s n = true then 1 else 0), A) ∧ frQ M A := by
  obtain ⟨A, eA, wA, fA⟩ := beginU (N := N) hc hC hrow hj hu
  obtain ⟨A2, eA2, f2, -⟩ := firstNight_s (N := N) (s := s) (n := n) hN hc wA hs hn
  refine ⟨A2, ?_, fA.frQ.trans f2⟩
  unfold Mt_meetsWith
  rw [eA, bVs, grd_in hj (by omega), clp (by omega), nxs, eA2, bWs]
  cases z : metB c (upd R k x) s n
  · rw [metB_f z, if_pos rfl, if_neg (by decide)]
  · obtain ⟨i, hi, e⟩ := metB_t z
    rw [e, if_neg (ne_m2 (by omega)), if_pos rfl]
noncomputable def soB (c : gar) (R : Nat → Int32) (s w n : Nat) : Bool := (decide (s = 0) || metB c R s n) && (decide (w = 0) || !metB c R w n)
/-- the model: a cell of the row set, nights laid out -/
theorem isSo_31 {N : Nat} {c : gar} {v : Nat} {R : Nat → Int32} {M B : mS} {k s w n : Nat} {x : Int32} (hN : 1000 ≤ N) (hc : gOk c) (hB : gM c v B) (hr : rM B R) (hm : mdM none B) (hf : frP M B) (hk : k < 29) (hR : VR c (upd R k x)) (hs : s < 2147483648) (hw : w < 2147483648) (hn : n ≤ 400) : ∃ A, Mo_isSo_31 N (nI s) (nI w) (nI n) (nI k) x B = some ((if soB c (upd R k x) s w n = true then 1 else 0), A) ∧ frP M A := by
  have f1 : frP B (mWI B 96 k x) := ⟨fun a j q1 q2 q3 q4 q5 q6 q7 q8 q9 q10 q11 => by rw [mWI_ne q3], rfl⟩
  have m1 : mdM none (mWI B 96 k x) := by
    unfold mdM; rw [mWI_ne (by omega)]; exact hm
  obtain ⟨D, eD, d1, d2⟩ := fillsNights_s (N := N) (n := n) (M := mWI B 96 k x) (R := upd R k x) hN hn hc (f1.gM hB) (fun i hi => by
    by_cases e : i = k
    · subst e; rw [rI rfl, pk_us]
    · rw [rN (by omega), pk_un e]; exact hr i hi) hR m1
  have fz : frP M D := hf.trans (f1.trans d2.frP)
  have gD := d2.gM (f1.gM hB)
  have e1 := firstMeet_s (N := N) (s := s) hN (Nat.le_refl n) hn hc gD d1 hs
  have e2 := firstMeet_s (N := N) (s := w) hN (Nat.le_refl n) hn hc gD d1 hw
  refine ⟨D, ?_, fz⟩
  have h52 : Mo_isSo_52 N (nI w) (nI n) D = some ((if (decide (w = 0) || !metB c (upd R k x) w n) = true then 1 else 0), D) := by
    unfold Mo_isSo_52
    by_cases z : w = 0
    · rw [if_pos (by rw [z]; rfl), decide_eq_true z]; rfl
    · rw [if_neg (by rw [li0, eqP (by omega) (by omega)]; exact z), e2, bRs, decide_eq_false z, Bool.false_or]
      cases q : metB c (upd R k x) w n
      · rw [metB_f q, if_neg (by decide), if_pos (by decide)]
      · obtain ⟨i, hi, e⟩ := metB_t q
        rw [e, if_pos (by rw [li0, leP (by omega) (by omega)]; omega), if_neg (by decide)]
  unfold Mo_isSo_31
  rw [grd_in hk (by omega), clp (by omega), nxs, eD, bVs]
  unfold soB
  by_cases z : s = 0
  · rw [if_pos (by rw [z]; rfl), decide_eq_true z, Bool.true_or, Bool.true_and, h52]
  · rw [if_neg (by rw [li0, eqP (by omega) (by omega)]; exact z), e1, bRs, decide_eq_false z, Bool.false_or]
    cases q : metB c (upd R k x) s n
    · rw [metB_f q, if_pos (by decide), Bool.false_and, if_neg (by decide)]
    · obtain ⟨i, hi, e⟩ := metB_t q
      rw [e, if_neg (nI_pos (by omega)), Bool.true_and, h52]
noncomputable def tnB (c : gar) (R : Nat → Int32) (d s w n k : Nat) : Bool := soB c (upd R d (nI ((oN R d + k) % gH c))) s w n
theorem leastTurn_s {N : Nat} {c : gar} {R : Nat → Int32} {M : mS} {d s w n : Nat} (hN : 1000 ≤ N) (hc : gOk c) (hC : gC c M) (hrow : rowC c (M.1 34) R) (hd : d < gD c) (hs : s < 2147483648) (hw : w < 2147483648) (hn : n ≤ 400) : ∃ A, Mt_leastTurn N (nI d) (nI s) (nI w) (nI n) M = some (fstA (tnB c R d s w n) (gH c), A) ∧ frQ M A := by
  obtain ⟨hc1, hc2, hc3, hc4, hc5, hc6⟩ := id hc
  obtain ⟨e1, e2, e3, e4⟩ := oN_s hc hrow.2.2.1 hd
  unfold Mt_leastTurn
  refine iter (F := fun f i (t : mS) => Mt_leastTurn_3 N f (nI d) (nI s) (nI w) (nI n) (nI i) t) (i := 0) (f := N) (s := M) (n := gH c) (Q := fun r => ∃ A, r = some (fstA (tnB c R d s w n) (gH c), A) ∧ frQ M A) (fun i t => (∀ k, k < i → tnB c R d s w n k = false) ∧ frQ M t) ?_ ?_ (Nat.zero_le _) (by omega) ⟨fun k hk => absurd hk (Nat.not_lt_zero _), frQ.refl⟩
  · rintro f i t hi ⟨h1, h2⟩
    have hr : (oN R d + i) % gH c < gH c := Nat.mod_lt _ (by omega)
    have hCt := h2.gC hC
    have row : ∀ u, frQ M u → rowC c (u.1 34) R := fun u q => rowC_c hrow (fun j => q.1 34 j (by omega) (by omega) (by omega))
    have t34 : t.1 34 (1 + d) = nI (oN R d) := ((row t h2).1.2.1 d hd).1.trans e1
    have upd_ok := row_out hc (R := R) hd hr
    have k55 : ∀ u, frQ M u → ∃ u', frQ M u' ∧ Mt_leastTurn_55 N (Mt_leastTurn_3 N f) (nI d) (nI s) (nI w) (nI n) (nI i) (nI ((oN R d + i) % gH c)) u = if (decide (w = 0) || !metB c (upd R d (nI ((oN R d + i) % gH c))) w n) = true then some (nI i, u') else Mt_leastTurn_3 N f (nI d) (nI s) (nI w) (nI n) (nI (i + 1)) u' := by
      intro u fu
      unfold Mt_leastTurn_55
      by_cases z : w = 0
      · refine ⟨u, fu, ?_⟩
        rw [if_pos (by rw [z]; rfl), decide_eq_true z]; rfl
      · obtain ⟨A, eA, fA⟩ := meetsWith_s (N := N) (M := u) (s := w) (n := n) hN hc (fu.gC hC) (row u fu) (show 1 + d < 44 by omega) upd_ok hw hn
        refine ⟨A, fu.trans fA, ?_⟩
        rw [if_neg (by rw [li0, eqP (by omega) (by omega)]; exact z), show (1 : Int32) + nI d = nI (1 + d) from nI_add 1 d, eA, bWs, decide_eq_false z, Bool.false_or]
        unfold Mt_leastTurn_80
        cases q : metB c (upd R d (nI ((oN R d + i) % gH c))) w n
        · rw [if_pos (by decide), if_pos (by decide)]
        · rw [if_pos rfl, if_neg (by decide), if_neg (by decide), show nI i + 1 = nI (i + 1) from nI_add i 1]
    have key : ∃ u', frQ M u' ∧ Mt_leastTurn_3 N (f + 1) (nI d) (nI s) (nI w) (nI n) (nI i) t = if tnB c R d s w n i = true then some (nI i, u') else Mt_leastTurn_3 N f (nI d) (nI s) (nI w) (nI n) (nI (i + 1)) u' := by
      unfold tnB soB
      rw [Mt_leastTurn_3, hCt.1, if_neg (by rw [leP (by omega) (by omega)]; omega), show (1 : Int32) + nI d = nI (1 + d) from nI_add 1 d, grd_in (by omega) (by omega), clp (by omega), t34, nI_add, rest_s (by omega) (by omega) (by omega), bRs]
      by_cases z : s = 0
      · obtain ⟨u', q1, q2⟩ := k55 t h2
        refine ⟨u', q1, ?_⟩
        rw [if_pos (by rw [z]; rfl), decide_eq_true z, Bool.true_or, Bool.true_and, q2]
      · obtain ⟨A, eA, fA⟩ := meetsWith_s (N := N) (M := t) (s := s) (n := n) hN hc hCt (row t h2) (show 1 + d < 44 by omega) upd_ok hs hn
        rw [if_neg (by rw [li0, eqP (by omega) (by omega)]; exact z), eA, bWs, decide_eq_false z, Bool.false_or]
        cases q : metB c (upd R d (nI ((oN R d + i) % gH c))) s n
        · refine ⟨A, h2.trans fA, ?_⟩
          unfold Mt_leastTurn_80
          rw [if_pos (by decide), Bool.false_and, if_neg (by decide), show nI i + 1 = nI (i + 1) from nI_add i 1]
        · obtain ⟨u', q1, q2⟩ := k55 A (h2.trans fA)
          refine ⟨u', q1, ?_⟩
          rw [if_pos rfl, if_neg (by decide), Bool.true_and, q2]
    obtain ⟨u', q1, q2⟩ := key
    cases z : tnB c R d s w n i
    · refine Or.inl ⟨u', ⟨snoc_f h1 z, q1⟩, ?_⟩
      rw [q2, z, if_neg (by decide)]
    · refine Or.inr ⟨u', ?_, q1⟩
      rw [q2, z, if_pos rfl, fstA_at h1 z hi]
  · rintro f t ⟨h1, h2⟩
    refine ⟨t, ?_, h2⟩
    rw [fstA_none h1, Mt_leastTurn_3, (h2.gC hC).1, if_pos (by rw [leP (by omega) (by omega)]; omega)]
theorem VR_out {c : gar} (hc : gOk c) {R : Nat → Int32} (hR : VR c R) {d o : Nat} (hd : d < gD c) (ho : o < gH c) : VR c (upd R d (nI o)) := by
  obtain ⟨hc1, hc2, hc3, hc4, -⟩ := hc
  refine ⟨fun e he => ⟨?_, ?_⟩, fun g hg => ?_⟩
  · by_cases q : e = d
    · subst q; rw [pk_us]; exact ⟨o, ho, rfl⟩
    · rw [pk_un (by omega)]; exact (hR.1 e he).1
  · rw [pk_un (by omega)]; exact (hR.1 e he).2
  · rw [pk_un (by omega)]; exact hR.2 g hg
theorem VR_slip {c : gar} (hc : gOk c) {R : Nat → Int32} (hR : VR c R) {d o : Nat} (hd : d < gD c) (ho : o < gH c) : VR c (upd R (4 + d) (nI o)) := by
  obtain ⟨hc1, hc2, hc3, hc4, -⟩ := hc
  refine ⟨fun e he => ⟨?_, ?_⟩, fun g hg => ?_⟩
  · rw [pk_un (by omega)]; exact (hR.1 e he).1
  · by_cases q : e = d
    · subst q; rw [pk_us]; exact ⟨o, ho, rfl⟩
    · rw [pk_un (by omega)]; exact (hR.1 e he).2
  · rw [pk_un (by omega)]; exact hR.2 g hg
theorem VR_by {c : gar} (hc : gOk c) {R : Nat → Int32} (hR : VR c R) {g d : Nat} (hg : g < gG c) (hd : d < gD c) : VR c (upd R (8 + g) (nI d)) := by
  obtain ⟨hc1, hc2, hc3, hc4, -⟩ := hc
  refine ⟨fun e he => ⟨?_, ?_⟩, fun e he => ?_⟩
  · rw [pk_un (by omega)]; exact (hR.1 e he).1
  · rw [pk_un (by omega)]; exact (hR.1 e he).2
  · by_cases q : e = g
    · subst q; rw [pk_us]; exact ⟨d, hd, rfl⟩
    · rw [pk_un (by omega)]; exact hR.2 e he
theorem leastFor_t {N : Nat} {c : gar} {v : Nat} {R : Nat → Int32} {X : aux} {M : mS} {d s w n : Nat} (hN : 1000 ≤ N) (hc : gOk c) (hM : MI c v R X M) (hR : VR c R) (hd : d < gD c) (hs : s < 2147483648) (hw : w < 2147483648) (hn : n ≤ 400) : ∃ A, Mo_leastFor N (nI d) (nI s) (nI w) (nI n) M = some (fstA (tnB c R d s w n) (gH c), A) ∧ frP M A := by
  obtain ⟨hc1, hc2, hc3, hc4, hc5, hc6⟩ := id hc
  obtain ⟨e1, e2, e3, e4⟩ := oN_s hc hR hd
  unfold Mo_leastFor
  refine iter (F := fun f i (t : mS) => Mo_leastFor_3 N f (nI d) (nI s) (nI w) (nI n) (nI i) t) (i := 0) (f := N) (s := M) (n := gH c) (Q := fun r => ∃ A, r = some (fstA (tnB c R d s w n) (gH c), A) ∧ frP M A) (fun i t => (∀ k, k < i → tnB c R d s w n k = false) ∧ frP M t) ?_ ?_ (Nat.zero_le _) (by omega) ⟨fun k hk => absurd hk (Nat.not_lt_zero _), frP.refl⟩
  · rintro f i t hi ⟨h1, h2⟩
    have hr : (oN R d + i) % gH c < gH c := Nat.mod_lt _ (by omega)
    have hMt := MI_p hM h2
    obtain ⟨B, eB, b1, b2, b3, b4⟩ := copiesStill_s (N := N) hN hc hMt.1 hMt.2.1
    have gB := b4.gM hMt.1
    obtain ⟨A, eA, fA⟩ := isSo_31 (N := N) (M := M) (k := d) (s := s) (w := w) (n := n) hN hc gB b1 b2 (h2.trans b4) (by omega) (VR_out hc hR hd hr) hs hw hn
    have key : Mo_isSo N (nI d) (nI i) (nI s) (nI w) (nI n) t = some ((if tnB c R d s w n i = true then 1 else 0), A) := by
      unfold Mo_isSo
      have b96 : B.1 96 d = nI (oN R d) := (b1 d (by omega)).trans e1
      rw [eB, bVs, if_neg (by rw [show (4 : Int32) = nI 4 from rfl, leP (by omega) (by omega)]; omega), grd_in (by omega) (by omega), hours_s gB, bRs, nz_n (by omega) (by omega), clp (by omega), b96, nI_add, rmP (by omega) (by omega) (by omega), eA]
      rfl
    cases z : tnB c R d s w n i
    · refine Or.inl ⟨A, ⟨snoc_f h1 z, fA⟩, ?_⟩
      rw [Mo_leastFor_3, hours_s hMt.1, bRs, if_neg (by rw [leP (by omega) (by omega)]; omega), key, bWs, z, if_pos (by decide), show nI i + 1 = nI (i + 1) from nI_add i 1]
    · refine Or.inr ⟨A, ?_, fA⟩
      rw [Mo_leastFor_3, hours_s hMt.1, bRs, if_neg (by rw [leP (by omega) (by omega)]; omega), key, bWs, z, if_neg (by decide), fstA_at h1 z hi]
  · rintro f t ⟨h1, h2⟩
    refine ⟨t, ?_, h2⟩
    rw [fstA_none h1, Mo_leastFor_3, hours_s (MI_p hM h2).1, bRs, if_pos (by rw [leP (by omega) (by omega)]; omega)]
noncomputable def mdB (c : gar) (R : Nat → Int32) (d s n k : Nat) : Bool := metB c (upd R (4 + d) (nI k)) s n
theorem leastSlip_s {N : Nat} {c : gar} {R : Nat → Int32} {M : mS} {d s n : Nat} (hN : 1000 ≤ N) (hc : gOk c) (hC : gC c M) (hrow : rowC c (M.1 34) R) (hd : d < gD c) (hs : s < 2147483648) (hn : n ≤ 400) : ∃ A, Mt_leastSlip N (nI d) (nI s) (nI n) M = some (fstA (mdB c R d s n) (gH c), A) ∧ frQ M A := by
  obtain ⟨hc1, hc2, hc3, hc4, hc5, hc6⟩ := id hc
  unfold Mt_leastSlip
  refine iter (F := fun f i (t : mS) => Mt_leastSlip_3 N f (nI d) (nI s) (nI n) (nI i) t) (i := 0) (f := N) (s := M) (n := gH c) (Q := fun r => ∃ A, r = some (fstA (mdB c R d s n) (gH c), A) ∧ frQ M A) (fun i t => (∀ k, k < i → mdB c R d s n k = false) ∧ frQ M t) ?_ ?_ (Nat.zero_le _) (by omega) ⟨fun k hk => absurd hk (Nat.not_lt_zero _), frQ.refl⟩
  · rintro f i t hi ⟨h1, h2⟩
    have hCt := h2.gC hC
    have row : rowC c (t.1 34) R := rowC_c hrow (fun j => h2.1 34 j (by omega) (by omega) (by omega))
    obtain ⟨A, eA, fA⟩ := meetsWith_s (N := N) (M := t) (s := s) (n := n) hN hc hCt row (show 5 + d < 44 by omega) (row_slip hc (R := R) hd hi) hs hn
    cases z : mdB c R d s n i
    · refine Or.inl ⟨A, ⟨snoc_f h1 z, h2.trans fA⟩, ?_⟩
      unfold mdB at z
      rw [Mt_leastSlip_3, hCt.1, if_neg (by rw [leP (by omega) (by omega)]; omega), show (5 : Int32) + nI d = nI (5 + d) from nI_add 5 d, eA, bWs, z, if_pos (by decide), show nI i + 1 = nI (i + 1) from nI_add i 1]
    · refine Or.inr ⟨A, ?_, h2.trans fA⟩
      rw [fstA_at h1 z hi]
      unfold mdB at z
      rw [Mt_leastSlip_3, hCt.1, if_neg (by rw [leP (by omega) (by omega)]; omega), show (5 : Int32) + nI d = nI (5 + d) from nI_add 5 d, eA, bWs, z, if_pos rfl, if_neg (by decide)]
  · rintro f t ⟨h1, h2⟩
    refine ⟨t, ?_, h2⟩
    rw [fstA_none h1, Mt_leastSlip_3, (h2.gC hC).1, if_pos (by rw [leP (by omega) (by omega)]; omega)]
theorem leastFor_m {N : Nat} {c : gar} {v : Nat} {R : Nat → Int32} {X : aux} {M : mS} {d s n : Nat} (hN : 1000 ≤ N) (hc : gOk c) (hM : MI c v R X M) (hR : VR c R) (hd : d < gD c) (hs0 : s ≠ 0) (hs : s < 2147483648) (hn : n ≤ 400) : ∃ A, Mo_leastFor N (nI (4 + d)) (nI s) (nI 0) (nI n) M = some (fstA (mdB c R d s n) (gH c), A) ∧ frP M A := by
  obtain ⟨hc1, hc2, hc3, hc4, hc5, hc6⟩ := id hc
  unfold Mo_leastFor
  refine iter (F := fun f i (t : mS) => Mo_leastFor_3 N f (nI (4 + d)) (nI s) (nI 0) (nI n) (nI i) t) (i := 0) (f := N) (s := M) (n := gH c) (Q := fun r => ∃ A, r = some (fstA (mdB c R d s n) (gH c), A) ∧ frP M A) (fun i t => (∀ k, k < i → mdB c R d s n k = false) ∧ frP M t) ?_ ?_ (Nat.zero_le _) (by omega) ⟨fun k hk => absurd hk (Nat.not_lt_zero _), frP.refl⟩
  · rintro f i t hi ⟨h1, h2⟩
    have hMt := MI_p hM h2
    obtain ⟨B, eB, b1, b2, b3, b4⟩ := copiesStill_s (N := N) hN hc hMt.1 hMt.2.1
    have gB := b4.gM hMt.1
    obtain ⟨A, eA, fA⟩ := isSo_31 (N := N) (M := M) (k := 4 + d) (s := s) (w := 0) (n := n) hN hc gB b1 b2 (h2.trans b4) (by omega) (VR_slip hc hR hd hi) hs (by omega) hn
    have key : Mo_isSo N (nI (4 + d)) (nI i) (nI s) (nI 0) (nI n) t = some ((if mdB c R d s n i = true then 1 else 0), A) := by
      unfold Mo_isSo
      rw [eB, bVs, if_pos (by rw [show (4 : Int32) = nI 4 from rfl, leP (by omega) (by omega)]; omega), eA]
      unfold soB mdB
      rw [decide_eq_false hs0, decide_eq_true rfl, Bool.false_or, Bool.true_or, Bool.and_true]
    cases z : mdB c R d s n i
    · refine Or.inl ⟨A, ⟨snoc_f h1 z, fA⟩, ?_⟩
      rw [Mo_leastFor_3, hours_s hMt.1, bRs, if_neg (by rw [leP (by omega) (by omega)]; omega), key, bWs, z, if_pos (by decide), show nI i + 1 = nI (i + 1) from nI_add i 1]
    · refine Or.inr ⟨A, ?_, fA⟩
      rw [Mo_leastFor_3, hours_s hMt.1, bRs, if_neg (by rw [leP (by omega) (by omega)]; omega), key, bWs, z, if_neg (by decide), fstA_at h1 z hi]
  · rintro f t ⟨h1, h2⟩
    refine ⟨t, ?_, h2⟩
    rw [fstA_none h1, Mo_leastFor_3, hours_s (MI_p hM h2).1, bRs, if_pos (by rw [leP (by omega) (by omega)]; omega)]
/-- what is asked of a dial, a set and nights -/
def askA (c : gar) (x y z : Int32) : Prop := ∃ d s n, d < gD c ∧ s < 2 ^ gG c ∧ 2 ≤ pc s 24 ∧ n ≤ 60 ∧ x = nI d ∧ y = nI s ∧ z = nI n
theorem ask_y {N : Nat} {c : gar} {v : Nat} {M : mS} {d s n : Nat} (hN : 1000 ≤ N) (hc : gOk c) (hM : gM c v M) (hd : d < gD c) (hs : s < 2 ^ gG c) (hs2 : 2 ≤ pc s 24) (hn : n ≤ 60) : Mo_isAsked N (nI d) (nI s) (nI n) M = some 1 := by
  unfold Mo_isAsked Mo_isSpan
  rw [oDial_y hc hM hd, bRs, if_neg (by decide), isGroup_y hN hc hM hs hs2, bRs, if_neg (by decide), show (60 : Int32) = nI 60 from rfl, inK_y hn (by omega), if_neg (by decide)]
theorem ask_n {N : Nat} {c : gar} {v : Nat} {M : mS} {x y z : Int32} (hN : 1000 ≤ N) (hc : gOk c) (hM : gM c v M) (h : ¬ askA c x y z) : Mo_isAsked N x y z M = some 0 := by
  obtain ⟨hc1, hc2, hc3, hc4, hc5, hc6⟩ := id hc
  unfold Mo_isAsked Mo_isSpan
  rcases arg_c x (gD c) (by omega) with ⟨d, hd, rfl⟩ | q
  · rw [oDial_y hc hM hd, bRs, if_neg (by decide)]
    by_cases q : setA c y
    · obtain ⟨s, hs, rfl, hs2⟩ := q
      rw [isGroup_y hN hc hM hs hs2, bRs, if_neg (by decide), show (60 : Int32) = nI 60 from rfl]
      rcases arg_c z 61 (by omega) with ⟨n, hn, rfl⟩ | q
      · exact absurd ⟨d, s, n, hd, hs, hs2, by omega, rfl, rfl, rfl⟩ h
      · rw [inK_n q (by omega), if_pos (by decide)]
    · rw [isGroup_n hN hc hM q, bRs, if_pos (by decide)]
  · rw [oDial_n hc hM q, bRs, if_pos (by decide)]
/-- the class's refusals, one by one -/
theorem askC_n {c : gar} {M : mS} {x y z : Int32} {r : Option (Int32 × mS)} (hc : gOk c) (hM : gC c M) (h : ¬ askA c x y z) : (if (Md_isDial x M) = 0 then (some ((-1), M)) else (if (Md_isSet y M) = 0 then (some ((-1), M)) else (if (Md_isWithin z 60 M) = 0 then (some ((-1), M)) else r))) = some ((-1), M) := by
  obtain ⟨hc1, hc2, hc3, hc4, hc5, hc6⟩ := id hc
  rcases arg_c x (gD c) (by omega) with ⟨d, hd, rfl⟩ | q
  · rw [cDial_y hc hM hd, if_neg (by decide)]
    by_cases q : setA c y
    · obtain ⟨s, hs, rfl, hs2⟩ := q
      rw [isSet_y hc hM hs hs2, if_neg (by decide), show (60 : Int32) = nI 60 from rfl]
      rcases arg_c z 61 (by omega) with ⟨n, hn, rfl⟩ | q
      · exact absurd ⟨d, s, n, hd, hs, hs2, by omega, rfl, rfl, rfl⟩ h
      · rw [with_n q (by omega), if_pos (by decide)]
    · rw [isSet_n hc hM q, if_pos (by decide)]
  · rw [cDial_n hM q, if_pos (by decide)]
theorem askC_y {c : gar} {M : mS} {d s n : Nat} {r : Option (Int32 × mS)} (hc : gOk c) (hM : gC c M) (hd : d < gD c) (hs : s < 2 ^ gG c) (hs2 : 2 ≤ pc s 24) (hn : n ≤ 60) : (if (Md_isDial (nI d) M) = 0 then (some ((-1), M)) else (if (Md_isSet (nI s) M) = 0 then (some ((-1), M)) else (if (Md_isWithin (nI n) 60 M) = 0 then (some ((-1), M)) else r))) = r := by
  rw [cDial_y hc hM hd, if_neg (by decide), isSet_y hc hM hs hs2, if_neg (by decide), show (60 : Int32) = nI 60 from rfl, with_y hn (by omega), if_neg (by decide)]
theorem call_turns {N : Nat} {M : mS} (hN : 1000 ≤ N) (h : INV M) (x y z : Int32) : ∃ r A B, Md_turns N x y z M = some (r, A) ∧ Mo_turns N x y z A = some (r, B) ∧ INV B := by
  obtain ⟨c, v, R, X, hc, hC, hM⟩ := h
  unfold Md_turns Mo_turns
  by_cases q : askA c x y z
  · obtain ⟨d, s, n, hd, hs, hs2, hn, rfl, rfl, rfl⟩ := q
    have hp := pow5 hc.2.2.2.1
    obtain ⟨A, eA, fA⟩ := leastTurn_s (N := N) (s := s) (w := 0) (n := n) hN hc hC.1 hC.2.1 hd (by omega) (by omega) (by omega)
    have hMA := MI_u hM fA.frU
    obtain ⟨B, eB, fB⟩ := leastFor_t (N := N) (s := s) (w := 0) (n := n) hN hc hMA hC.2.1.2.2.1 hd (by omega) (by omega) (by omega)
    refine ⟨fstA (tnB c R d s 0 n) (gH c), A, B, ?_, ?_, INV_q hc hC hM fA fB⟩
    · rw [askC_y hc hC.1 hd hs hs2 hn, li0, eA, bWs]
    · rw [ask_y hN hc hMA.1 hd hs hs2 hn, bRs, if_neg (by decide), li0, eB, bWs]
  · refine ⟨-1, M, M, askC_n hc hC.1 q, ?_, c, v, R, X, hc, hC, hM⟩
    rw [ask_n hN hc hM.1 q, bRs, if_pos (by decide)]
theorem call_parts {N : Nat} {M : mS} (hN : 1000 ≤ N) (h : INV M) (x y z : Int32) : ∃ r A B, Md_parts N x y z M = some (r, A) ∧ Mo_parts N x y z A = some (r, B) ∧ INV B := by
  obtain ⟨c, v, R, X, hc, hC, hM⟩ := h
  unfold Md_parts Mo_parts
  by_cases q : askA c x y z
  · obtain ⟨d, s, n, hd, hs, hs2, hn, rfl, rfl, rfl⟩ := q
    have hp := pow5 hc.2.2.2.1
    obtain ⟨A, eA, fA⟩ := leastTurn_s (N := N) (s := 0) (w := s) (n := n) hN hc hC.1 hC.2.1 hd (by omega) (by omega) (by omega)
    have hMA := MI_u hM fA.frU
    obtain ⟨B, eB, fB⟩ := leastFor_t (N := N) (s := 0) (w := s) (n := n) hN hc hMA hC.2.1.2.2.1 hd (by omega) (by omega) (by omega)
    refine ⟨fstA (tnB c R d 0 s n) (gH c), A, B, ?_, ?_, INV_q hc hC hM fA fB⟩
    · rw [askC_y hc hC.1 hd hs hs2 hn, li0, eA, bWs]
    · rw [ask_y hN hc hMA.1 hd hs hs2 hn, bRs, if_neg (by decide), li0, eB, bWs]
  · refine ⟨-1, M, M, askC_n hc hC.1 q, ?_, c, v, R, X, hc, hC, hM⟩
    rw [ask_n hN hc hM.1 q, bRs, if_pos (by decide)]
theorem call_mend {N : Nat} {M : mS} (hN : 1000 ≤ N) (h : INV M) (x y z : Int32) : ∃ r A B, Md_mend N x y z M = some (r, A) ∧ Mo_mend N x y z A = some (r, B) ∧ INV B := by
  obtain ⟨c, v, R, X, hc, hC, hM⟩ := h
  unfold Md_mend Mo_mend
  by_cases q : askA c x y z
  · obtain ⟨d, s, n, hd, hs, hs2, hn, rfl, rfl, rfl⟩ := q
    have hp := pow5 hc.2.2.2.1
    have hs0 : s ≠ 0 := by rintro rfl; revert hs2; decide
    obtain ⟨A, eA, fA⟩ := leastSlip_s (N := N) (s := s) (n := n) hN hc hC.1 hC.2.1 hd (by omega) (by omega)
    have hMA := MI_u hM fA.frU
    obtain ⟨B, eB, fB⟩ := leastFor_m (N := N) (s := s) (n := n) hN hc hMA hC.2.1.2.2.1 hd hs0 (by omega) (by omega)
    refine ⟨fstA (mdB c R d s n) (gH c), A, B, ?_, ?_, INV_q hc hC hM fA fB⟩
    · rw [askC_y hc hC.1 hd hs hs2 hn, eA, bWs]
    · rw [ask_y hN hc hMA.1 hd hs hs2 hn, bRs, if_neg (by decide), show (4 : Int32) + nI d = nI (4 + d) from nI_add 4 d, li0, eB, bWs]
  · refine ⟨-1, M, M, askC_n hc hC.1 q, ?_, c, v, R, X, hc, hC, hM⟩
    rw [ask_n hN hc hM.1 q, bRs, if_pos (by decide)]
theorem call_knot {N : Nat} {M : mS} (hN : 1000 ≤ N) (h : INV M) (x y w z : Int32) : ∃ r A B, Md_knot N x y w z M = some (r, A) ∧ Mo_knot N x y w z A = some (r, B) ∧ INV B := by
  obtain ⟨c, v, R, X, hc, hC, hM⟩ := h
  unfold Md_knot Mo_knot
  by_cases qw : setA c w
  · obtain ⟨u, hu, rfl, hu2⟩ := qw
    rw [isSet_y hc hC.1 hu hu2, if_neg (show ¬ (1 : Int32) = 0 by decide)]
    by_cases q : askA c x y z
    · obtain ⟨d, s, n, hd, hs, hs2, hn, rfl, rfl, rfl⟩ := q
      have hp := pow5 hc.2.2.2.1
      obtain ⟨A, eA, fA⟩ := leastTurn_s (N := N) (s := s) (w := u) (n := n) hN hc hC.1 hC.2.1 hd (by omega) (by omega) (by omega)
      have hMA := MI_u hM fA.frU
      obtain ⟨B, eB, fB⟩ := leastFor_t (N := N) (s := s) (w := u) (n := n) hN hc hMA hC.2.1.2.2.1 hd (by omega) (by omega) (by omega)
      refine ⟨fstA (tnB c R d s u n) (gH c), A, B, ?_, ?_, INV_q hc hC hM fA fB⟩
      · rw [askC_y hc hC.1 hd hs hs2 hn, eA, bWs]
      · rw [ask_y hN hc hMA.1 hd hs hs2 hn, bRs, if_neg (by decide), isGroup_y hN hc hMA.1 hu hu2, bRs, if_neg (by decide), eB, bWs]
    · refine ⟨-1, M, M, askC_n hc hC.1 q, ?_, c, v, R, X, hc, hC, hM⟩
      rw [ask_n hN hc hM.1 q, bRs, if_pos (by decide)]
  · refine ⟨-1, M, M, ?_, ?_, c, v, R, X, hc, hC, hM⟩
    · rw [isSet_n hc hC.1 qw, if_pos (show (0 : Int32) = 0 by decide)]
      split
      · rfl
      · split <;> rfl
    · by_cases q : askA c x y z
      · obtain ⟨d, s, n, hd, hs, hs2, hn, rfl, rfl, rfl⟩ := q
        rw [ask_y hN hc hM.1 hd hs hs2 hn, bRs, if_neg (by decide), isGroup_n hN hc hM.1 qw, bRs, if_pos (by decide)]
      · rw [ask_n hN hc hM.1 q, bRs, if_pos (by decide)]
