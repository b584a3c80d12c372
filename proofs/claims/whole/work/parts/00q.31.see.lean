/-! A NIGHT SEEN by the class -/
theorem shl_d {N : Nat} {c : gar} {M : mS} {R : Nat → Int32} {m : Option Int32} {x1 x2 : Int32} (hN : 1000 ≤ N) (hc : gOk c) (hM : gC c M) (hw : wR c (M.1 40) R) (hR : VR c R) (hm : (m = none ∧ x1 = -1) ∨ (m = some x1 ∧ x1 ≠ -1)) :
    ∃ B : mS, ((∀ d, d < gD c → B.1 42 d = nI (outN c m R d)) ∧ (∀ a j, a ≠ 5 → a ≠ 8 → a ≠ 42 → B.1 a j = M.1 a j) ∧ B.2 = M.2) ∧ Wk_see_53 N N x1 x2 0 M = Wk_see_134 N N x2 0 B := by
  have hc' := hc
  obtain ⟨hc1, hc2, hc3, hc4, hc5, hc6⟩ := hc'
  refine iter (F := fun f i (s : mS) => Wk_see_53 N f x1 x2 (nI i) s) (n := gD c) (Q := fun r => ∃ B : mS, ((∀ d, d < gD c → B.1 42 d = nI (outN c m R d)) ∧ (∀ a j, a ≠ 5 → a ≠ 8 → a ≠ 42 → B.1 a j = M.1 a j) ∧ B.2 = M.2) ∧ r = Wk_see_134 N N x2 0 B)
    (fun i s => (∀ d, d < i → s.1 42 d = nI (outN c m R d)) ∧ (∀ a j, a ≠ 5 → a ≠ 8 → a ≠ 42 → s.1 a j = M.1 a j) ∧ s.2 = M.2) ?_ ?_ (Nat.zero_le _) (by omega) ⟨fun d hd => absurd hd (Nat.not_lt_zero _), fun _ _ _ _ _ => rfl, rfl⟩
  · rintro f i s hi ⟨h1, h2, h3⟩
    have hsM : gC c s := gC_fr hM (fun a j h => h2 a j (by omega) (by omega) (by omega))
    have hsw : wR c (s.1 40) R := by rw [show s.1 40 = M.1 40 from funext fun j => h2 40 j (by omega) (by omega) (by omega)]; exact hw
    obtain ⟨⟨o, ho, eo⟩, -⟩ := hR.1 i hi
    have h36 := hsM.1
    have h37 := hsM.2.1
    have e1 := (hsw.2.1 i hi).1
    have st : ∀ (A : mS), (∀ d, d < i → A.1 42 d = nI (outN c m R d)) → (∀ a j, a ≠ 5 → a ≠ 8 → a ≠ 42 → A.1 a j = M.1 a j) → A.2 = M.2 → ∀ q, q = nI (outN c m R i) →
        Wk_see_125 N (Wk_see_53 N f) x1 x2 (nI i) (nI i) q A = Wk_see_53 N f x1 x2 (nI (i + 1)) (mWI A 42 i q) := by
      intro A _ _ _ q _
      unfold Wk_see_125
      simp (disch := omega) only [li, nI_add, grd_in, clp, nxs]
    have st2 : ∀ (A : mS), (∀ d, d < i → A.1 42 d = nI (outN c m R d)) → (∀ a j, a ≠ 5 → a ≠ 8 → a ≠ 42 → A.1 a j = M.1 a j) → A.2 = M.2 → ∀ q, q = nI (outN c m R i) →
        ((∀ d, d < i + 1 → (mWI A 42 i q).1 42 d = nI (outN c m R d)) ∧ (∀ a j, a ≠ 5 → a ≠ 8 → a ≠ 42 → (mWI A 42 i q).1 a j = M.1 a j) ∧ (mWI A 42 i q).2 = M.2) := by
      intro A q1 q2 q3 q q4
      refine ⟨fun d hd => ?_, fun a j ha hb hcc => ?_, q3⟩
      · by_cases e : d = i
        · subst e; rw [rI rfl]; exact q4
        · rw [rN (by omega)]; exact q1 d (by omega)
      · rw [rN (by omega)]; exact q2 a j ha hb hcc
    refine Or.inl ?_
    rcases hm with ⟨rfl, rfl⟩ | ⟨rfl, hx⟩
    · have eq : nI o = nI (outN c none R i) := by show nI o = nI (R i).toNatClampNeg; rw [eo, clp (by omega)]
      refine ⟨_, st2 s h1 h2 h3 _ eq, ?_⟩
      rw [← st s h1 h2 h3 _ eq]
      simp (disch := omega) only [Wk_see_53, h37, leP, if_neg, if_pos, Wk_see_82, Wk_see_83, li, nI_add, grd_in, clp, e1, eo, if_true]
    · obtain ⟨B, eB, fB, lB⟩ := darkC (s := x1) hN hc hsM hsw hi
      have k1 : ∀ d, d < i → B.1 42 d = nI (outN c (some x1) R d) := fun d hd => by rw [fB 42 d (by omega) (by omega)]; exact h1 d hd
      have k2 : ∀ a j, a ≠ 5 → a ≠ 8 → a ≠ 42 → B.1 a j = M.1 a j := fun a j q1 q2 q3 => by rw [fB a j q1 q2]; exact h2 a j q1 q2 q3
      have k3 : B.2 = M.2 := lB.trans h3
      have b36 : B.1 3 6 = nI (gH c) := by rw [fB 3 6 (by omega) (by omega)]; exact h36
      have b1 : B.1 40 (1 + i) = nI o := by rw [fB 40 _ (by omega) (by omega), e1, eo]
      have b0 : B.1 40 0 = R 28 := by rw [fB 40 0 (by omega) (by omega)]; exact hsw.1
      by_cases hdk : lotN 100 x1 (8 * R 28 + nI i) < dmN c R i
      · have eq : nI (lotN (gH c) x1 (100000 + (8 * R 28 + nI i))) = nI (outN c (some x1) R i) := by
          unfold outN dkB; dsimp only; rw [if_pos hdk]
        refine ⟨_, st2 B k1 k2 k3 _ eq, ?_⟩
        rw [← st B k1 k2 k3 _ eq]
        rw [if_pos hdk] at eB
        rw [Wk_see_53, h37, if_neg (by rw [leP (by omega) (by omega)]; omega), if_neg hx, eB, bWs, if_neg (by decide)]
        unfold Wk_see_83 Wk_which
        rw [if_neg (by decide), b36, b0, lot_s (by omega) (by omega), bRs]
      · have eq : nI o = nI (outN c (some x1) R i) := by
          unfold outN dkB; dsimp only; rw [if_neg hdk, eo, clp (by omega)]
        refine ⟨_, st2 B k1 k2 k3 _ eq, ?_⟩
        rw [← st B k1 k2 k3 _ eq]
        rw [if_neg hdk] at eB
        rw [Wk_see_53, h37, if_neg (by rw [leP (by omega) (by omega)]; omega), if_neg hx, eB, bWs, if_pos rfl]
        unfold Wk_see_82 Wk_see_83
        rw [if_pos rfl, show (1 : Int32) + nI i = nI (1 + i) from nI_add 1 i, grd_in (by omega) (by omega), clp (by omega), b1]
  · rintro f s ⟨h1, h2, h3⟩
    refine ⟨s, ⟨h1, h2, h3⟩, ?_⟩
    have h37 : s.1 3 7 = nI (gD c) := by rw [h2 3 7 (by omega) (by omega) (by omega)]; exact hM.2.1
    rw [Wk_see_53, h37, if_pos (by rw [leP (by omega) (by omega)]; omega)]
theorem shl_g {N : Nat} {c : gar} {M : mS} {R : Nat → Int32} {m : Option Int32} {x2 : Int32} (hN : 1000 ≤ N) (hc : gOk c) (hM : gC c M) (hw : wR c (M.1 40) R) (hR : VR c R) (hs : ∀ d, d < gD c → M.1 42 d = nI (outN c m R d)) (ha : M.1 39 2 = 0) (ht : M.1 39 3 = 0) (hl : x2 = 0 → ∀ g, g < gG c → M.1 43 g = nI (lnN c R g)) :
    ∃ B : mS, Wk_see_134 N N x2 0 M = some B ∧ (∀ g, g < gG c → B.1 41 g = th c m R g) ∧ B.1 39 2 = orB (th c m R) (gG c) ∧ B.1 39 3 = tw (th c m R) (gG c) ∧ B.1 39 7 = 1 ∧ (∀ g, g < gG c → B.1 43 g = nI (lnN c R g)) ∧ (∀ a j, a ≠ 5 → a ≠ 8 → a ≠ 39 → a ≠ 41 → a ≠ 43 → B.1 a j = M.1 a j) ∧ B.2 = M.2 := by
  have hc' := hc
  obtain ⟨hc1, hc2, hc3, hc4, hc5, hc6⟩ := hc'
  refine iter (F := fun f i (s : mS) => Wk_see_134 N f x2 (nI i) s) (n := gG c) (Q := fun r => ∃ B : mS, r = some B ∧ (∀ g, g < gG c → B.1 41 g = th c m R g) ∧ B.1 39 2 = orB (th c m R) (gG c) ∧ B.1 39 3 = tw (th c m R) (gG c) ∧ B.1 39 7 = 1 ∧ (∀ g, g < gG c → B.1 43 g = nI (lnN c R g)) ∧ (∀ a j, a ≠ 5 → a ≠ 8 → a ≠ 39 → a ≠ 41 → a ≠ 43 → B.1 a j = M.1 a j) ∧ B.2 = M.2)
    (fun i s => (∀ g, g < i → s.1 41 g = th c m R g) ∧ s.1 39 2 = orB (th c m R) i ∧ s.1 39 3 = tw (th c m R) i ∧ (∀ g, g < gG c → (g < i ∨ x2 = 0) → s.1 43 g = nI (lnN c R g)) ∧ (∀ a j, a ≠ 5 → a ≠ 8 → a ≠ 39 → a ≠ 41 → a ≠ 43 → s.1 a j = M.1 a j) ∧ s.2 = M.2) ?_ ?_ (Nat.zero_le _) (by omega) ⟨fun d hd => absurd hd (Nat.not_lt_zero _), ha, ht, fun g hg h => hl (h.resolve_left (Nat.not_lt_zero _)) g hg, fun _ _ _ _ _ _ _ => rfl, rfl⟩
  · rintro f i s hi ⟨h1, h2, h3, h4, h5, h6⟩
    have hsM : gC c s := gC_fr hM (fun a j h => h5 a j (by omega) (by omega) (by omega) (by omega) (by omega))
    have hsw : wR c (s.1 40) R := by rw [show s.1 40 = M.1 40 from funext fun j => h5 40 j (by omega) (by omega) (by omega) (by omega) (by omega)]; exact hw
    obtain ⟨hb, eb⟩ := bN_lt hc hR hi
    obtain ⟨hf, -⟩ := hc6 i hi
    have ho := outN_lt hc hR (m := m) hb
    have hln := lnN_le hc (R := R) (g := i)
    have eth : th c m R i = nI (arcN (gH c) (gF c i) (outN c m R (bN R i)) (lnN c R i) (gH c)) := if_pos hi
    -- behind the lengths
    have st : ∀ A : mS, (∀ g, g < i → A.1 41 g = th c m R g) → A.1 39 2 = orB (th c m R) i → A.1 39 3 = tw (th c m R) i → (∀ g, g < gG c → (g < i + 1 ∨ x2 = 0) → A.1 43 g = nI (lnN c R g)) → (∀ a j, a ≠ 5 → a ≠ 8 → a ≠ 39 → a ≠ 41 → a ≠ 43 → A.1 a j = M.1 a j) → A.2 = M.2 →
        ∃ s' : mS, ((∀ g, g < i + 1 → s'.1 41 g = th c m R g) ∧ s'.1 39 2 = orB (th c m R) (i + 1) ∧ s'.1 39 3 = tw (th c m R) (i + 1) ∧ (∀ g, g < gG c → (g < i + 1 ∨ x2 = 0) → s'.1 43 g = nI (lnN c R g)) ∧ (∀ a j, a ≠ 5 → a ≠ 8 → a ≠ 39 → a ≠ 41 → a ≠ 43 → s'.1 a j = M.1 a j) ∧ s'.2 = M.2) ∧ Wk_see_174 N (Wk_see_134 N f) x2 (nI i) A = Wk_see_134 N f x2 (nI (i + 1)) s' := by
      intro A k1 k2 k3 k4 k5 k6
      have a36 : A.1 3 6 = nI (gH c) := by rw [k5 3 6 (by omega) (by omega) (by omega) (by omega) (by omega)]; exact hM.1
      have a12 : A.1 12 i = nI (gF c i) := by rw [k5 12 i (by omega) (by omega) (by omega) (by omega) (by omega)]; exact (hM.2.2.2.2.1 i hi).1
      have a42 : A.1 42 (bN R i) = nI (outN c m R (bN R i)) := by rw [k5 42 _ (by omega) (by omega) (by omega) (by omega) (by omega)]; exact hs _ hb
      have a40 : A.1 40 (9 + i) = nI (bN R i) := by rw [k5 40 _ (by omega) (by omega) (by omega) (by omega) (by omega), (hw.2.2 i hi).1, eb]
      have a43 := k4 i hi (Or.inl (by omega))
      have harc := arc_s (N := N) (M := A) a36 hc1 hc2 hf ho hln
      refine ⟨mWI (mWI (mWI A 41 i (th c m R i)) 39 3 (tw (th c m R) i ||| (orB (th c m R) i &&& th c m R i))) 39 2 (orB (th c m R) i ||| th c m R i), ⟨fun g hg => ?_, ?_, ?_, fun g hg h => ?_, fun a j q1 q2 q3 q4 q5 => ?_, k6⟩, ?_⟩
      · by_cases e : g = i
        · subst e; simp (disch := omega) only [mWI_ne, rI]
        · simp (disch := omega) only [mWI_ne, rN]; exact k1 g (by omega)
      · rw [rI rfl]; rfl
      · rw [rN (by omega), rI rfl]; rfl
      · simp (disch := omega) only [mWI_ne]; exact k4 g hg h
      · simp (disch := omega) only [mWI_ne]; exact k5 a j q1 q2 q3 q4 q5
      · unfold Wk_see_174 Wk_dialOf
        simp (disch := omega) only [li, nI_add, grd_in, clp, bRs, nxs, a40, held_le, a12, a42, a43, harc, ← eth, mWI_ne, rI, rN, k2, k3]
    refine Or.inl ?_
    have g38 : s.1 3 8 = nI (gG c) := hsM.2.2.1
    by_cases hx : x2 = 0
    · obtain ⟨s', q1, q2⟩ := st s h1 h2 h3 (fun g hg _ => h4 g hg (Or.inr hx)) h5 h6
      refine ⟨s', q1, ?_⟩
      rw [← q2]
      rw [Wk_see_134, g38, if_neg (by rw [leP (by omega) (by omega)]; omega), if_pos hx]
    · obtain ⟨B, eB, fB, lB⟩ := lawG (k := 0) hN hc hsM hsw hR hi (by omega)
      have hBM : gC c B := gC_fr hsM (fun a j h => fB a j (by omega) (by omega))
      have hBw : wR c (B.1 40) R := by rw [show B.1 40 = s.1 40 from funext fun j => fB 40 j (by omega) (by omega)]; exact hsw
      have fin : ∀ A : mS, (∀ a j, a ≠ 5 → a ≠ 8 → A.1 a j = s.1 a j) → A.2 = s.2 → ∀ q, q = nI (lnN c R i) → ∃ s' : mS, ((∀ g, g < i + 1 → s'.1 41 g = th c m R g) ∧ s'.1 39 2 = orB (th c m R) (i + 1) ∧ s'.1 39 3 = tw (th c m R) (i + 1) ∧ (∀ g, g < gG c → (g < i + 1 ∨ x2 = 0) → s'.1 43 g = nI (lnN c R g)) ∧ (∀ a j, a ≠ 5 → a ≠ 8 → a ≠ 39 → a ≠ 41 → a ≠ 43 → s'.1 a j = M.1 a j) ∧ s'.2 = M.2) ∧ Wk_see_173 N (Wk_see_134 N f) x2 (nI i) (nI i) q A = Wk_see_134 N f x2 (nI (i + 1)) s' := by
        intro A fA lA q hq
        obtain ⟨s', q1, q2⟩ := st (mWI A 43 i q) (fun g hg => by rw [mWI_ne (by omega), fA 41 g (by omega) (by omega)]; exact h1 g hg) (by rw [mWI_ne (by omega), fA 39 2 (by omega) (by omega)]; exact h2) (by rw [mWI_ne (by omega), fA 39 3 (by omega) (by omega)]; exact h3)
          (fun g hg h => by
            by_cases e : g = i
            · subst e; rw [rI rfl]; exact hq
            · rw [rN (by omega), fA 43 g (by omega) (by omega)]; exact h4 g hg (by rcases h with h | h; exact Or.inl (by omega); exact Or.inr h))
          (fun a j z1 z2 z3 z4 z5 => by rw [mWI_ne z5, fA a j z1 z2]; exact h5 a j z1 z2 z3 z4 z5) (lA.trans h6)
        refine ⟨s', q1, ?_⟩
        rw [← q2]
        unfold Wk_see_173
        simp (disch := omega) only [grd_in, clp, nxs]
      by_cases hcm : gL c 0 (vG c R i) ≤ 0
      · obtain ⟨s', q1, q2⟩ := fin B fB lB 0 (by unfold lnN; rw [if_pos hcm]; rfl)
        refine ⟨s', q1, ?_⟩
        rw [← q2]
        rw [Wk_see_134, g38, if_neg (by rw [leP (by omega) (by omega)]; omega), if_neg hx, show (0 : Int32) = nI 0 from rfl, eB, bWs]
        exact if_pos hcm
      · obtain ⟨B2, eB2, fB2, lB2⟩ := lawG (k := 1) hN hc hBM hBw hR hi (by omega)
        obtain ⟨s', q1, q2⟩ := fin B2 (fun a j z1 z2 => (fB2 a j z1 z2).trans (fB a j z1 z2)) (lB2.trans lB) (nI (stN c R i)) (by unfold lnN; rw [if_neg hcm])
        refine ⟨s', q1, ?_⟩
        rw [← q2]
        rw [Wk_see_134, g38, if_neg (by rw [leP (by omega) (by omega)]; omega), if_neg hx, show (0 : Int32) = nI 0 from rfl, eB, bWs]
        refine (if_neg hcm).trans ?_
        rw [show (1 : Int32) = nI 1 from rfl, eB2, bWs]
        rfl
  · rintro f s ⟨h1, h2, h3, h4, h5, h6⟩
    have g38 : s.1 3 8 = nI (gG c) := by rw [h5 3 8 (by omega) (by omega) (by omega) (by omega) (by omega)]; exact hM.2.2.1
    refine ⟨mWI s 39 7 1, ?_, fun g hg => by rw [mWI_ne (by omega)]; exact h1 g hg, by rw [rN (by omega)]; exact h2, by rw [rN (by omega)]; exact h3, rI rfl, fun g hg => by rw [mWI_ne (by omega)]; exact h4 g hg (Or.inl hg), fun a j q1 q2 q3 q4 q5 => by rw [mWI_ne q3]; exact h5 a j q1 q2 q3 q4 q5, h6⟩
    rw [Wk_see_134, g38, if_pos (by rw [leP (by omega) (by omega)]; omega), nxs]
theorem seeC {N : Nat} {c : gar} {M : mS} {R : Nat → Int32} {m : Option Int32} {x1 : Int32} (hN : 1000 ≤ N) (hc : gOk c) (hM : gC c M) (hw : wR c (M.1 40) R) (hR : VR c R) (hm : (m = none ∧ x1 = -1) ∨ (m = some x1 ∧ x1 ≠ -1)) (hl : M.1 39 7 ≠ 0 → La_changes 0 M = 0 → La_changes 1 M = 0 → ∀ g, g < gG c → M.1 43 g = nI (lnN c R g)) :
    ∃ B : mS, Wk_see N x1 M = some B ∧ (∀ g, g < gG c → B.1 41 g = th c m R g) ∧ B.1 39 2 = orB (th c m R) (gG c) ∧ B.1 39 3 = tw (th c m R) (gG c) ∧ B.1 39 7 = 1 ∧ (∀ g, g < gG c → B.1 43 g = nI (lnN c R g)) ∧ (∀ a j, a ≠ 5 → a ≠ 8 → a ≠ 39 → a ≠ 41 → a ≠ 42 → a ≠ 43 → B.1 a j = M.1 a j) ∧ B.2 = M.2 := by
  have main : ∀ x2 : Int32, (x2 = 0 → ∀ g, g < gG c → M.1 43 g = nI (lnN c R g)) → ∃ B : mS, Wk_see_40 N x1 x2 M = some B ∧ (∀ g, g < gG c → B.1 41 g = th c m R g) ∧ B.1 39 2 = orB (th c m R) (gG c) ∧ B.1 39 3 = tw (th c m R) (gG c) ∧ B.1 39 7 = 1 ∧ (∀ g, g < gG c → B.1 43 g = nI (lnN c R g)) ∧ (∀ a j, a ≠ 5 → a ≠ 8 → a ≠ 39 → a ≠ 41 → a ≠ 42 → a ≠ 43 → B.1 a j = M.1 a j) ∧ B.2 = M.2 := by
    intro x2 hx
    have f1 : ∀ a j, a ≠ 39 → (mWI (mWI M 39 2 0) 39 3 0).1 a j = M.1 a j := fun a j h => by rw [mWI_ne h, mWI_ne h]
    obtain ⟨A, ⟨hA1, hA2, hA3⟩, eA⟩ := shl_d (x2 := x2) (M := mWI (mWI M 39 2 0) 39 3 0) hN hc (gC_fr hM (fun a j h => f1 a j (by omega))) (by rw [mWI_ne (by omega), mWI_ne (by omega)]; exact hw) hR hm
    obtain ⟨B, hB1, hB2, hB3, hB4, hB5, hB6, hB7, hB8⟩ := shl_g (x2 := x2) (M := A) (m := m) hN hc (gC_fr hM (fun a j h => by rw [hA2 a j (by omega) (by omega) (by omega)]; exact f1 a j (by omega))) (by rw [show A.1 40 = M.1 40 from funext fun j => by rw [hA2 40 j (by omega) (by omega) (by omega)]; exact f1 40 j (by omega)]; exact hw) hR hA1
      (by rw [hA2 39 2 (by omega) (by omega) (by omega), rN (by omega), rI rfl]) (by rw [hA2 39 3 (by omega) (by omega) (by omega), rI rfl]) (fun h g hg => by rw [hA2 43 g (by omega) (by omega) (by omega), f1 43 g (by omega)]; exact hx h g hg)
    refine ⟨B, ?_, hB2, hB3, hB4, hB5, hB6, fun a j q1 q2 q3 q4 q5 q6 => by rw [hB7 a j q1 q2 q3 q4 q6, hA2 a j q1 q2 q5, f1 a j q3], hB8.trans hA3⟩
    unfold Wk_see_40
    rw [nxs, nxs, eA]; exact hB1
  unfold Wk_see Wk_see_35
  split
  · exact main 1 (fun h => absurd h (by decide))
  · next h0 =>
    split
    · next h1 =>
      split
      · next h2 => exact main 0 (fun _ => hl h0 h1 h2)
      · exact main 1 (fun h => absurd h (by decide))
    · exact main 1 (fun h => absurd h (by decide))
