/-! A NIGHT OF THE MODEL -/
def frL (M B : mS) : Prop := (∀ a j, a ≠ 93 → a ≠ 94 → (a ≠ 64 ∨ j ≠ 47) → B.1 a j = M.1 a j) ∧ B.2 = M.2
def frM (M B : mS) : Prop := (∀ a j, a ≠ 93 → a ≠ 94 → a ≠ 96 → a ≠ 97 → (a ≠ 64 ∨ j ≠ 47) → B.1 a j = M.1 a j) ∧ B.2 = M.2
theorem frL.refl {M : mS} : frL M M := ⟨fun _ _ _ _ _ => rfl, rfl⟩
theorem frL.trans {A B C : mS} (h : frL A B) (g : frL B C) : frL A C := ⟨fun a j q1 q2 q3 => (g.1 a j q1 q2 q3).trans (h.1 a j q1 q2 q3), g.2.trans h.2⟩
theorem frL.frM {A B : mS} (h : frL A B) : frM A B := ⟨fun a j q1 q2 _ _ q5 => h.1 a j q1 q2 q5, h.2⟩
theorem frM.refl {M : mS} : frM M M := ⟨fun _ _ _ _ _ _ _ => rfl, rfl⟩
theorem frM.trans {A B C : mS} (h : frM A B) (g : frM B C) : frM A C := ⟨fun a j q1 q2 q3 q4 q5 => (g.1 a j q1 q2 q3 q4 q5).trans (h.1 a j q1 q2 q3 q4 q5), g.2.trans h.2⟩
theorem frL.gM {c : gar} {v : Nat} {M B : mS} (h : frL M B) (hM : gM c v M) : gM c v B := gM_fr hM (fun a j q => h.1 a j (by omega) (by omega) (by omega))
theorem frM.gM {c : gar} {v : Nat} {M B : mS} (h : frM M B) (hM : gM c v M) : gM c v B := gM_fr hM (fun a j q => h.1 a j (by omega) (by omega) (by omega) (by omega) (by omega))
theorem frL.rM {M B : mS} {R : Nat → Int32} (h : frL M B) (hM : rM M R) : rM B R := fun k hk => by rw [h.1 96 k (by omega) (by omega) (by omega)]; exact hM k hk
def mdM (m : Option Int32) (M : mS) : Prop := (m = none ∧ M.1 64 51 = 1) ∨ (m = some (M.1 64 50) ∧ M.1 64 51 = 0)
theorem frL.md {M B : mS} {m : Option Int32} (h : frL M B) (hM : mdM m M) : mdM m B := by unfold mdM; rw [h.1 64 51 (by omega) (by omega) (by omega), h.1 64 50 (by omega) (by omega) (by omega)]; exact hM
theorem frM.md {M B : mS} {m : Option Int32} (h : frM M B) (hM : mdM m M) : mdM m B := by unfold mdM; rw [h.1 64 51 (by omega) (by omega) (by omega) (by omega) (by omega), h.1 64 50 (by omega) (by omega) (by omega) (by omega) (by omega)]; exact hM
theorem hours_s {N : Nat} {c : gar} {v : Nat} {M : mS} (hM : gM c v M) : Mo_hours N M = some (nI (gH c)) := by
  obtain ⟨h0, h1, h2, -⟩ := hM
  unfold Mo_hours
  simp (disch := omega) only [h1, grd_in, clp, h2]
theorem fromAt_s {N : Nat} {c : gar} (hc : gOk c) {v : Nat} {M : mS} (hM : gM c v M) {g : Nat} (hg : g < gG c) : Mo_fromAt N (nI g) M = some (nI (gF c g)) := by
  have hh := hours_s (N := N) hM
  obtain ⟨hc1, hc2, hc3, hc4, -⟩ := hc
  obtain ⟨h0, h1, h2, h3, h4, h5, h6, h7⟩ := hM
  obtain ⟨⟨f, hf, ef, em⟩, -⟩ := h6 g hg
  unfold Mo_fromAt
  simp (disch := omega) only [h1, li, pk_mul, nI_add, grd_in, clp, hh, bRs, nz_n, ef, rmP, em]
theorem looks_s {N : Nat} {c : gar} (hc : gOk c) {v : Nat} {M : mS} (hM : gM c v M) {R : Nat → Int32} (hr : rM M R) {d : Nat} (hd : d < 4) : ∃ A, Mo_looks N (nI d) M = some A ∧ (∀ i, i < 9 → A.1 93 i = vD c R d i) ∧ (∀ a j, a ≠ 93 → A.1 a j = M.1 a j) ∧ A.2 = M.2 := by
  obtain ⟨h0, h1, h2, h3, h4, -⟩ := hM
  obtain ⟨hc1, hc2, hc3, hc4, -⟩ := hc
  have e28 := hr 28 (by omega)
  have e1 := hr d (by omega)
  have e2 := hr (4 + d) (by omega)
  refine ⟨mWI (mWI (mWI (mWI (mWI (mWI (mWI (mWI (mWI M 93 0 (R 28)) 93 1 (R d)) 93 2 (R (4 + d))) 93 3 0) 93 4 0) 93 5 0) 93 6 (nI d)) 93 7 (nI (gH c))) 93 8 (nI (gG c)), ?_, fun i hi => ?_, fun a j ha => ?_, rfl⟩
  · unfold Mo_looks Mo_hours
    simp (disch := omega) only [li, nI_add, nxs, grd_in, clp, mWI_ne, e28, e1, e2, h1, h2, h4, bRs]
  · rcases lt9 hi with rfl | rfl | rfl | rfl | rfl | rfl | rfl | rfl | rfl <;> simp (disch := omega) only [rI, rN] <;> rfl
  · simp (disch := omega) only [mWI_ne]
theorem looksBy_s {N : Nat} {c : gar} (hc : gOk c) {v : Nat} {M : mS} (hM : gM c v M) {R : Nat → Int32} (hr : rM M R) (hR : VR c R) {g : Nat} (hg : g < gG c) : ∃ A, Mo_looksBy N (nI g) M = some A ∧ (∀ i, i < 9 → A.1 93 i = vG c R g i) ∧ (∀ a j, a ≠ 93 → A.1 a j = M.1 a j) ∧ A.2 = M.2 := by
  obtain ⟨hb, eb⟩ := bN_lt hc hR hg
  obtain ⟨hc1, hc2, hc3, hc4, -⟩ := id hc
  obtain ⟨A, eA, a1, a2, a3⟩ := looks_s (N := N) hc hM hr (d := bN R g) (by omega)
  have hA : gM c v A := gM_fr hM (fun a j q => a2 a j (by omega))
  have hF := fromAt_s (N := N) hc hA hg
  obtain ⟨h0, h1, h2, h3, h4, h5, h6, h7⟩ := hA
  have e81 := (h6 g hg).2
  have e8 : M.1 96 (8 + g) = nI (bN R g) := by rw [hr _ (by omega), eb]
  have e13 : A.1 96 (13 + g) = R (13 + g) := by rw [a2 96 _ (by omega)]; exact hr _ (by omega)
  refine ⟨mWI (mWI (mWI (mWI A 93 3 (nI (gF c g))) 93 4 (nI (gT c g))) 93 5 (R (13 + g))) 93 6 (nI g), ?_, fun i hi => ?_, fun a j ha => ?_, a3⟩
  · unfold Mo_looksBy
    simp (disch := omega) only [li, nI_add, pk_mul, nxs, grd_in, clp, mWI_ne, e8, eA, bVs, hF, bRs, h1, e81, e13]
  · have z := a1 i hi
    rcases lt9 hi with rfl | rfl | rfl | rfl | rfl | rfl | rfl | rfl | rfl <;> simp (disch := omega) only [rI, rN] <;> first | rfl | exact z
  · simp (disch := omega) only [mWI_ne]; exact a2 a j ha
theorem doesCome_s {N : Nat} {c : gar} (hN : 1000 ≤ N) (hc : gOk c) {v : Nat} {M : mS} (hM : gM c v M) {R : Nat → Int32} (hr : rM M R) (hR : VR c R) {g : Nat} (hg : g < gG c) : ∃ B, Mo_doesCome N (nI g) M = some ((if gL c 0 (vG c R g) ≤ 0 then 0 else 1), B) ∧ frL M B := by
  obtain ⟨A, eA, a1, a2, a3⟩ := looksBy_s (N := N) hc hM hr hR hg
  obtain ⟨B, eB, b1, b2⟩ := hM.2.2.2.2.2.2.2 N hN A (fun a j _ _ _ _ _ => a2 a j (by omega)) ((a2 64 18 (by omega)).trans hM.2.1) 0 (by omega) (vG c R g) a1
  refine ⟨B, ?_, fun a j q1 q2 q3 => (b1 a j q2 q3).trans (a2 a j q1), b2.trans a3⟩
  unfold Mo_doesCome
  rw [eA, bVs]
  show bW (Mo_lawTells N (nI 0) (if 0 = 1 then vG c R g 4 else if 0 = 3 then 0 else 1) A) _ = _
  rw [eB, bWs]
  split <;> rfl
theorem staysOf_s {N : Nat} {c : gar} (hN : 1000 ≤ N) (hc : gOk c) {v : Nat} {M : mS} (hM : gM c v M) {R : Nat → Int32} (hr : rM M R) (hR : VR c R) {g : Nat} (hg : g < gG c) : ∃ B, Mo_staysOf N (nI g) M = some (nI (stN c R g), B) ∧ frL M B := by
  obtain ⟨A, eA, a1, a2, a3⟩ := looksBy_s (N := N) hc hM hr hR hg
  obtain ⟨B, eB, b1, b2⟩ := hM.2.2.2.2.2.2.2 N hN A (fun a j _ _ _ _ _ => a2 a j (by omega)) ((a2 64 18 (by omega)).trans hM.2.1) 1 (by omega) (vG c R g) a1
  have hf : frL M B := ⟨fun a j q1 q2 q3 => (b1 a j q2 q3).trans (a2 a j q1), b2.trans a3⟩
  refine ⟨B, ?_, hf⟩
  unfold Mo_staysOf
  rw [eA, bVs, a1 4 (by omega)]
  show bW (Mo_lawTells N (nI 1) (if 1 = 1 then vG c R g 4 else if 1 = 3 then 0 else 1) A) _ = _
  rw [eB, bWs, hours_s (hf.gM hM), bRs, within_s]
  rfl
theorem worthOf_s {N : Nat} {c : gar} (hN : 1000 ≤ N) (hc : gOk c) {v : Nat} {M : mS} (hM : gM c v M) {R : Nat → Int32} (hr : rM M R) (hR : VR c R) {g : Nat} (hg : g < gG c) : ∃ B, Mo_worthOf N (nI g) M = some (nI (woN c R g), B) ∧ frL M B := by
  obtain ⟨A, eA, a1, a2, a3⟩ := looksBy_s (N := N) hc hM hr hR hg
  obtain ⟨B, eB, b1, b2⟩ := hM.2.2.2.2.2.2.2 N hN A (fun a j _ _ _ _ _ => a2 a j (by omega)) ((a2 64 18 (by omega)).trans hM.2.1) 2 (by omega) (vG c R g) a1
  refine ⟨B, ?_, fun a j q1 q2 q3 => (b1 a j q2 q3).trans (a2 a j q1), b2.trans a3⟩
  unfold Mo_worthOf
  rw [eA, bVs]
  show bW (Mo_lawTells N (nI 2) (if 2 = 1 then vG c R g 4 else if 2 = 3 then 0 else 1) A) _ = _
  rw [eB, bWs, show (99 : Int32) = nI 99 from rfl, within_s]
  rfl
theorem dimsOf_s {N : Nat} {c : gar} (hN : 1000 ≤ N) (hc : gOk c) {v : Nat} {M : mS} (hM : gM c v M) {R : Nat → Int32} (hr : rM M R) {d : Nat} (hd : d < gD c) : ∃ B, Mo_dimsOf N (nI d) M = some (nI (dmN c R d), B) ∧ frL M B := by
  obtain ⟨A, eA, a1, a2, a3⟩ := looks_s (N := N) hc hM hr (d := d) (by have := hc.2.2.1; omega)
  obtain ⟨B, eB, b1, b2⟩ := hM.2.2.2.2.2.2.2 N hN A (fun a j _ _ _ _ _ => a2 a j (by omega)) ((a2 64 18 (by omega)).trans hM.2.1) 3 (by omega) (vD c R d) a1
  refine ⟨B, ?_, fun a j q1 q2 q3 => (b1 a j q2 q3).trans (a2 a j q1), b2.trans a3⟩
  unfold Mo_dimsOf
  rw [eA, bVs]
  show bW (Mo_lawTells N (nI 3) (if 3 = 1 then vD c R d 4 else if 3 = 3 then 0 else 1) A) _ = _
  rw [eB, bWs, show (100 : Int32) = nI 100 from rfl, within_s]
  rfl
theorem isDim_s {N : Nat} {c : gar} (hN : 1000 ≤ N) (hc : gOk c) {v : Nat} {M : mS} (hM : gM c v M) {R : Nat → Int32} (hr : rM M R) {d : Nat} (hd : d < gD c) : ∃ B, Mo_isDim N (nI d) M = some ((if lotN 100 (M.1 64 50) (8 * R 28 + nI d) < dmN c R d then 1 else 0), B) ∧ frL M B := by
  obtain ⟨B, eB, fB⟩ := dimsOf_s hN hc hM hr hd
  refine ⟨B, ?_, fB⟩
  have hd2 : dmN c R d ≤ 100 := wit_le (by omega)
  have hl : lotN 100 (M.1 64 50) (8 * R 28 + nI d) < 100 := lot_lt (by omega)
  unfold Mo_isDim
  rw [hr 28 (by omega), show (100 : Int32) = nI 100 from rfl, lotOf_s (by omega) (by omega), bRs, eB, bWs]
  by_cases h : lotN 100 (M.1 64 50) (8 * R 28 + nI d) < dmN c R d
  · rw [if_pos h, if_neg (by rw [leP (by omega) (by omega)]; omega)]
  · rw [if_neg h, if_pos (by rw [leP (by omega) (by omega)]; omega)]
theorem outTonight_s {N : Nat} {c : gar} (hN : 1000 ≤ N) (hc : gOk c) {v : Nat} {M : mS} (hM : gM c v M) {R : Nat → Int32} (hr : rM M R) (hR : VR c R) {m : Option Int32} (hm : mdM m M) {d : Nat} (hd : d < gD c) : ∃ B, Mo_outTonight N (nI d) M = some (nI (outN c m R d), B) ∧ frL M B := by
  obtain ⟨hc1, hc2, hc3, hc4, -⟩ := id hc
  obtain ⟨⟨o, ho, eo⟩, -⟩ := hR.1 d hd
  rcases hm with ⟨rfl, h51⟩ | ⟨rfl, h51⟩
  · refine ⟨M, ?_, frL.refl⟩
    unfold Mo_outTonight
    rw [h51, if_neg (by decide), grd_in (by omega) (by omega), clp (by omega), hr d (by omega), eo]
    show _ = some (nI (R d).toNatClampNeg, M)
    rw [eo, clp (by omega)]
  · obtain ⟨B, eB, fB⟩ := isDim_s hN hc hM hr hd
    refine ⟨B, ?_, fB⟩
    unfold Mo_outTonight
    rw [h51, if_pos rfl, eB, bWs]
    by_cases h : lotN 100 (M.1 64 50) (8 * R 28 + nI d) < dmN c R d
    · rw [if_pos h, if_neg (by decide), hours_s (fB.gM hM), bRs, lotOf_s (by omega) (by omega), bRs, fB.1 64 50 (by omega) (by omega) (by omega), fB.rM hr 28 (by omega)]
      unfold outN dkB; dsimp only; rw [if_pos h, Int32.add_assoc]
    · rw [if_neg h, if_pos rfl, grd_in (by omega) (by omega), clp (by omega), fB.rM hr d (by omega)]
      unfold outN dkB; dsimp only; rw [if_neg h, eo, clp (by omega)]
theorem hourBits_l {N : Nat} {c : gar} (hN : 1000 ≤ N) (hc : gOk c) {v : Nat} {M : mS} (hM : gM c v M) {g o l : Nat} (hg : g < gG c) (ho : o < gH c) (hl : l ≤ gH c) : Mo_hourBits_36 N N (nI g) (nI l) (nI o) 0 0 M = some (nI (arcN (gH c) (gF c g) o l (gH c)), M) := by
  obtain ⟨hc1, hc2, hc3, hc4, hc5, hc6⟩ := id hc
  have hf := (hc6 g hg).1
  have hh := hours_s (N := N) hM
  have hF := fromAt_s (N := N) hc hM hg
  refine iter (F := fun f i (s : Int32) => Mo_hourBits_36 N f (nI g) (nI l) (nI o) s (nI i) M) (n := gH c) (Q := fun r => r = some (nI (arcN (gH c) (gF c g) o l (gH c)), M)) (fun i s => s = nI (arcN (gH c) (gF c g) o l i)) ?_ ?_ (Nat.zero_le _) (by omega) rfl
  · rintro f i s hi rfl
    refine Or.inl ⟨_, rfl, ?_⟩
    have h1 : (i + o) % gH c < gH c := Nat.mod_lt _ (by omega)
    have h2 : ((i + o) % gH c + gH c - gF c g) % gH c < gH c := Nat.mod_lt _ (by omega)
    have key : Mo_hourBits_36 N (f + 1) (nI g) (nI l) (nI o) (nI (arcN (gH c) (gF c g) o l i)) (nI i) M = if l ≤ ((i + o) % gH c + gH c - gF c g) % gH c then Mo_hourBits_36 N f (nI g) (nI l) (nI o) (nI (arcN (gH c) (gF c g) o l i)) (nI (i + 1)) M else Mo_hourBits_36 N f (nI g) (nI l) (nI o) (nI (arcN (gH c) (gF c g) o l i) ||| nI (2 ^ i)) (nI (i + 1)) M := by
      simp (disch := omega) only [Mo_hourBits_36, hh, bRs, leP, if_neg, Mo_showsBy, hF, nz_n, li, nI_add, rmP, sbaP, nxs, shl1, Mo_hourBits_81]
    rw [key]
    by_cases h : ((i + o) % gH c + gH c - gF c g) % gH c < l
    · rw [if_neg (by omega), fa_or]
      show _ = Mo_hourBits_36 N f (nI g) (nI l) (nI o) (nI (arcN (gH c) (gF c g) o l i ||| (if ((i + o) % gH c + gH c - gF c g) % gH c < l then 2 ^ i else 0))) (nI (i + 1)) M
      rw [if_pos h]
    · rw [if_pos (by omega)]
      show _ = Mo_hourBits_36 N f (nI g) (nI l) (nI o) (nI (arcN (gH c) (gF c g) o l i ||| (if ((i + o) % gH c + gH c - gF c g) % gH c < l then 2 ^ i else 0))) (nI (i + 1)) M
      rw [if_neg h, Nat.or_zero]
  · rintro f s rfl
    simp (disch := omega) only [Mo_hourBits_36, hh, bRs, leP, if_pos]
theorem hourBits_s {N : Nat} {c : gar} (hN : 1000 ≤ N) (hc : gOk c) {v : Nat} {M : mS} (hM : gM c v M) {R : Nat → Int32} (hr : rM M R) (hR : VR c R) {m : Option Int32} (hm : mdM m M) {g : Nat} (hg : g < gG c) : ∃ B, Mo_hourBits N (nI g) M = some (nI (thN c m R g), B) ∧ frL M B := by
  obtain ⟨hc1, hc2, hc3, hc4, hc5, hc6⟩ := id hc
  obtain ⟨hb, eb⟩ := bN_lt hc hR hg
  obtain ⟨A, eA, fA⟩ := doesCome_s hN hc hM hr hR hg
  by_cases h : gL c 0 (vG c R g) ≤ 0
  · refine ⟨A, ?_, fA⟩
    unfold Mo_hourBits
    rw [eA, bWs, if_pos h, if_pos rfl]
    unfold thN lnN
    rw [if_pos h, arcN_0]; rfl
  · obtain ⟨B, eB, fB⟩ := staysOf_s hN hc (fA.gM hM) (fA.rM hr) hR hg
    have fAB := fA.trans fB
    obtain ⟨C, eC, fC⟩ := outTonight_s hN hc (fAB.gM hM) (fAB.rM hr) hR (fAB.md hm) hb
    have fAC := fAB.trans fC
    refine ⟨C, ?_, fAC⟩
    have e8 : B.1 96 (8 + g) = nI (bN R g) := by rw [fAB.rM hr _ (by omega), eb]
    have hl := hourBits_l hN hc (fAC.gM hM) hg (outN_lt hc hR (m := m) hb) (stN_le hc (R := R) (g := g))
    unfold Mo_hourBits
    rw [eA, bWs, if_neg h, if_neg (by decide), eB, bWs, show (8 : Int32) + nI g = nI (8 + g) from nI_add 8 g, grd_in (by omega) (by omega), clp (by omega), e8, eC, bWs, hl]
    unfold thN lnN
    rw [if_neg h]
theorem isGoer_s {N : Nat} {c : gar} (hc : gOk c) {v : Nat} {M : mS} (hM : gM c v M) {g : Nat} (hg : g < 1000) : Mo_isGoer N (nI g) M = some (if g < gG c then 1 else 0) := by
  obtain ⟨hc1, hc2, hc3, hc4, hc5, hc6⟩ := id hc
  obtain ⟨h0, h1, h2, h3, h4, -⟩ := hM
  unfold Mo_isGoer Mo_in
  rw [h1, grd_in h0 (by omega), clp (by omega), h4, if_neg (nI_pos (by omega))]
  by_cases h : gG c = 0
  · rw [h, if_neg (Nat.not_lt_zero _), if_pos]
    rw [fa_lt, nI_toInt (by omega)]
    have : (nI 0 - 1).toInt = -1 := by decide
    omega
  · rw [show (1 : Int32) = nI 1 from rfl, sbP (by omega)]
    by_cases h' : g < gG c
    · rw [if_pos h', if_neg (by rw [ltP (by omega) (by omega)]; omega)]
    · rw [if_neg h', if_pos (by rw [ltP (by omega) (by omega)]; omega)]
theorem fillsThere_s {N : Nat} {c : gar} (hN : 1000 ≤ N) (hc : gOk c) {v : Nat} {M : mS} (hM : gM c v M) {R : Nat → Int32} (hr : rM M R) (hR : VR c R) {m : Option Int32} (hm : mdM m M) : ∃ B, Mo_fillsThere N M = some B ∧ (∀ g, g < 5 → B.1 97 g = th c m R g) ∧ frM M B ∧ rM B R := by
  unfold Mo_fillsThere
  refine iter (F := fun f i (s : mS) => Mo_fillsThere_2 N f (nI i) s) (n := 5) (Q := fun r => ∃ B, r = some B ∧ (∀ g, g < 5 → B.1 97 g = th c m R g) ∧ frM M B ∧ rM B R) (fun i s => (∀ g, g < i → s.1 97 g = th c m R g) ∧ frM M s ∧ rM s R) ?_ ?_ (Nat.zero_le _) (by omega) ⟨fun d hd => absurd hd (Nat.not_lt_zero _), frM.refl, hr⟩
  · rintro f i s hi ⟨h1, h2, h3⟩
    have fin : ∀ A : mS, frL s A → ∀ q, q = th c m R i → ∃ s' : mS, ((∀ g, g < i + 1 → s'.1 97 g = th c m R g) ∧ frM M s' ∧ rM s' R) ∧ Mo_fillsThere_29 N (Mo_fillsThere_2 N f) (nI i) (nI i) q A = Mo_fillsThere_2 N f (nI (i + 1)) s' := by
      intro A fA q hq
      refine ⟨mWI A 97 i q, ⟨fun g hg => ?_, h2.trans (fA.frM.trans ⟨fun a j q1 q2 q3 q4 q5 => by rw [mWI_ne q4], rfl⟩), fun k hk => ?_⟩, ?_⟩
      · by_cases e : g = i
        · subst e; rw [rI rfl]; exact hq
        · rw [rN (by omega), fA.1 97 g (by omega) (by omega) (by omega)]; exact h1 g (by omega)
      · rw [mWI_ne (by omega)]; exact fA.rM h3 k hk
      · unfold Mo_fillsThere_29
        simp (disch := omega) only [grd_in, clp, nxs, li, nI_add]
    refine Or.inl ?_
    by_cases hg : i < gG c
    · obtain ⟨A, eA, fA⟩ := hourBits_s hN hc (h2.gM hM) h3 hR (h2.md hm) hg
      obtain ⟨s', q1, q2⟩ := fin A fA (nI (thN c m R i)) (if_pos hg).symm
      refine ⟨s', q1, ?_⟩
      rw [← q2, Mo_fillsThere_2, if_neg (by rw [show (5 : Int32) = nI 5 from rfl, leP (by omega) (by omega)]; omega), isGoer_s hc (h2.gM hM) (by omega), bRs, if_pos hg, if_neg (by decide), eA, bWs]
    · obtain ⟨s', q1, q2⟩ := fin s frL.refl 0 (th_out (by omega)).symm
      refine ⟨s', q1, ?_⟩
      rw [← q2, Mo_fillsThere_2, if_neg (by rw [show (5 : Int32) = nI 5 from rfl, leP (by omega) (by omega)]; omega), isGoer_s hc (h2.gM hM) (by omega), bRs, if_neg hg, if_pos rfl]
  · rintro f s ⟨h1, h2, h3⟩
    refine ⟨s, ?_, h1, h2, h3⟩
    rw [Mo_fillsThere_2, if_pos (by decide)]
