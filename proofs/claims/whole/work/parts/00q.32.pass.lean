/-! A NIGHT GOES BY in the class -/
theorem nx_d {c : gar} {m : Option Int32} {R : Nat → Int32} {d : Nat} (h : d < gD c) : nx c m R d = nI (((R d).toNatClampNeg + (R (4 + d)).toNatClampNeg) % gH c) := if_pos h
theorem nx_s {c : gar} (hc : gOk c) {m : Option Int32} {R : Nat → Int32} {d : Nat} (h : d < 4) : nx c m R (4 + d) = R (4 + d) := by
  obtain ⟨h1, h2, h3, h4, -⟩ := hc
  unfold nx
  rw [if_neg (by omega), if_neg (by omega), if_neg (by omega), if_neg (by omega)]
theorem nx_b {c : gar} (hc : gOk c) {m : Option Int32} {R : Nat → Int32} {g : Nat} (h : g < 5) : nx c m R (8 + g) = R (8 + g) := by
  obtain ⟨h1, h2, h3, h4, -⟩ := hc
  unfold nx
  rw [if_neg (by omega), if_neg (by omega), if_neg (by omega), if_neg (by omega)]
theorem nx_m {c : gar} (hc : gOk c) {m : Option Int32} {R : Nat → Int32} {g : Nat} (h : g < gG c) : nx c m R (13 + g) = R (13 + g) + bc (th c m R g &&& oth (th c m R) g (gG c)) := by
  obtain ⟨h1, h2, h3, h4, -⟩ := hc
  unfold nx
  rw [if_neg (by omega), if_pos ⟨by omega, by omega⟩, show 13 + g - 13 = g by omega]
theorem nx_p {c : gar} (hc : gOk c) {m : Option Int32} {R : Nat → Int32} {a b : Nat} (h : a < b) (hb : b < gG c) : nx c m R (18 + pA a b) = R (18 + pA a b) + bc (th c m R b &&& th c m R a) := by
  obtain ⟨h1, h2, h3, h4, -⟩ := hc
  have hp := pA_lt a (by omega) b (by omega) (by omega)
  have hu := pA_u a (by omega) b (by omega) h
  unfold nx
  rw [if_neg (by omega), if_neg (by omega), show 18 + pA a b - 18 = pA a b by omega, hu, if_pos ⟨by omega, by omega, hb⟩]
theorem nx_n {c : gar} (hc : gOk c) {m : Option Int32} {R : Nat → Int32} : nx c m R 28 = R 28 + 1 := by
  obtain ⟨h1, h2, h3, h4, -⟩ := hc
  unfold nx
  rw [if_neg (by omega), if_neg (by omega), if_neg (by omega), if_pos rfl]
def frW (M B : mS) : Prop := (∀ a j, a ≠ 5 → a ≠ 8 → (a < 39 ∨ 43 < a) → B.1 a j = M.1 a j) ∧ B.2 = M.2
theorem frW.refl {M : mS} : frW M M := ⟨fun _ _ _ _ _ => rfl, rfl⟩
theorem frW.trans {A B C : mS} (h : frW A B) (g : frW B C) : frW A C := ⟨fun a j q1 q2 q3 => (g.1 a j q1 q2 q3).trans (h.1 a j q1 q2 q3), g.2.trans h.2⟩
theorem frW.gC {c : gar} {M B : mS} (h : frW M B) (hM : gC c M) : gC c B := gC_fr hM (fun a j q => h.1 a j (by omega) (by omega) (by omega))
def WK (c : gar) (M : mS) (R : Nat → Int32) : Prop := gC c M ∧ wR c (M.1 40) R ∧ VR c R ∧ (M.1 39 7 ≠ 0 → La_changes 0 M = 0 → La_changes 1 M = 0 → ∀ g, g < gG c → M.1 43 g = nI (lnN c R g))
def SEEN (c : gar) (m : Option Int32) (M : mS) (R : Nat → Int32) : Prop := (∀ g, g < gG c → M.1 41 g = th c m R g) ∧ M.1 39 2 = orB (th c m R) (gG c) ∧ M.1 39 3 = tw (th c m R) (gG c)
def mdC (m : Option Int32) (x : Int32) : Prop := (m = none ∧ x = -1) ∨ (m = some x ∧ x ≠ -1)
theorem changes_c {k : Int32} {M B : mS} (h : B.1 4 5 = M.1 4 5) : La_changes k B = La_changes k M := by unfold La_changes; rw [h]
theorem seeW {N : Nat} {c : gar} {M : mS} {R : Nat → Int32} {m : Option Int32} {x1 : Int32} (hN : 1000 ≤ N) (hc : gOk c) (h : WK c M R) (hm : mdC m x1) : ∃ B, Wk_see N x1 M = some B ∧ WK c B R ∧ SEEN c m B R ∧ frW M B ∧ B.1 40 = M.1 40 := by
  obtain ⟨h1, h2, h3, h4⟩ := h
  obtain ⟨B, e, b1, b2, b3, b4, b5, b6, b7⟩ := seeC hN hc h1 h2 h3 hm h4
  have hf : frW M B := ⟨fun a j q1 q2 q3 => b6 a j q1 q2 (by omega) (by omega) (by omega) (by omega), b7⟩
  have h40 : B.1 40 = M.1 40 := funext fun j => b6 40 j (by omega) (by omega) (by omega) (by omega) (by omega) (by omega)
  exact ⟨B, e, ⟨hf.gC h1, by rw [h40]; exact h2, h3, fun _ _ _ => b5⟩, ⟨b1, b2, b3⟩, hf, h40⟩
theorem bN_nx {c : gar} (hc : gOk c) {m : Option Int32} {R : Nat → Int32} {g : Nat} (hg : g < 5) : bN (nx c m R) g = bN R g := by unfold bN; rw [nx_b hc hg]
theorem vG_nx {c : gar} (hc : gOk c) {m : Option Int32} {R : Nat → Int32} (hR : VR c R) {g i : Nat} (hg : g < gG c) (hi : i < 9) (h0 : i ≠ 0) (h1 : i ≠ 1) (h5 : i ≠ 5) : vG c (nx c m R) g i = vG c R g i := by
  have hg5 : g < 5 := by have := hc.2.2.2.1; omega
  have hb := (bN_lt hc hR hg).1
  have hD := hc.2.2.1
  unfold vG
  rw [bN_nx hc hg5, nx_s hc (show bN R g < 4 by omega)]
  rcases lt9 hi with rfl | rfl | rfl | rfl | rfl | rfl | rfl | rfl | rfl <;> first | rfl | omega
theorem lnN_nx {c : gar} (hc : gOk c) {m : Option Int32} {R : Nat → Int32} (hR : VR c R) {M : mS} (hM : gC c M) (h0 : La_changes 0 M = 0) (h1 : La_changes 1 M = 0) {g : Nat} (hg : g < gG c) : lnN c (nx c m R) g = lnN c R g := by
  obtain ⟨-, -, -, -, -, -, h7⟩ := hM
  have e0 := h7 0 (by omega) h0 (vG c (nx c m R) g) (vG c R g) (fun i q1 q2 q3 q4 => vG_nx hc hR hg q1 q2 q3 q4)
  have e1 := h7 1 (by omega) h1 (vG c (nx c m R) g) (vG c R g) (fun i q1 q2 q3 q4 => vG_nx hc hR hg q1 q2 q3 q4)
  unfold lnN stN
  rw [e0, e1]
theorem pass_g {N : Nat} {c : gar} {M : mS} {R : Nat → Int32} {m : Option Int32} (hN : 1000 ≤ N) (hc : gOk c) (h : WK c M R) (hs : SEEN c m M R) :
    ∃ B : mS, ((∀ k, k < 14 ∨ 14 + gG c ≤ k → B.1 40 k = M.1 40 k) ∧ (∀ g, g < gG c → B.1 40 (14 + g) = nx c m R (13 + g)) ∧ (∀ a j, a ≠ 40 → B.1 a j = M.1 a j) ∧ B.2 = M.2) ∧ Wk_pass N M = Wk_pass_47 N N 0 B := by
  have hc' := hc
  obtain ⟨hc1, hc2, hc3, hc4, hc5, hc6⟩ := hc'
  obtain ⟨hM, hw, hR, hl⟩ := h
  unfold Wk_pass
  refine iter (F := fun f i (s : mS) => Wk_pass_2 N f (nI i) s) (n := gG c) (Q := fun r => ∃ B : mS, ((∀ k, k < 14 ∨ 14 + gG c ≤ k → B.1 40 k = M.1 40 k) ∧ (∀ g, g < gG c → B.1 40 (14 + g) = nx c m R (13 + g)) ∧ (∀ a j, a ≠ 40 → B.1 a j = M.1 a j) ∧ B.2 = M.2) ∧ r = Wk_pass_47 N N 0 B)
    (fun i s => (∀ k, k < 14 ∨ 14 + i ≤ k → s.1 40 k = M.1 40 k) ∧ (∀ g, g < i → s.1 40 (14 + g) = nx c m R (13 + g)) ∧ (∀ a j, a ≠ 40 → s.1 a j = M.1 a j) ∧ s.2 = M.2) ?_ ?_ (Nat.zero_le _) (by omega) ⟨fun _ _ => rfl, fun d hd => absurd hd (Nat.not_lt_zero _), fun _ _ _ => rfl, rfl⟩
  · rintro f i s hi ⟨h1, h2, h3, h4⟩
    have e38 : s.1 3 8 = nI (gG c) := by rw [h3 3 8 (by omega)]; exact hM.2.2.1
    have e41 : s.1 41 i = th c m R i := by rw [h3 41 i (by omega)]; exact hs.1 i hi
    have e393 : s.1 39 3 = tw (th c m R) (gG c) := by rw [h3 39 3 (by omega)]; exact hs.2.2
    have e14 : s.1 40 (14 + i) = R (13 + i) := by rw [h1 _ (by omega)]; exact (hw.2.2 i hi).2
    refine Or.inl ⟨mWI s 40 (14 + i) (nx c m R (13 + i)), ⟨fun k hk => ?_, fun g hg => ?_, fun a j ha => ?_, h4⟩, ?_⟩
    · rw [rN (by omega)]; exact h1 k (by omega)
    · by_cases e : g = i
      · subst e; rw [rI rfl]
      · rw [rN (by omega)]; exact h2 g (by omega)
    · rw [mWI_ne ha]; exact h3 a j ha
    · rw [nx_m hc hi, ← tw_oth hi]
      simp (disch := omega) only [Wk_pass_2, li, nI_add, e38, leP, if_neg, grd_in, clp, nxs, e14, e41, e393, bc_of]
  · rintro f s ⟨h1, h2, h3, h4⟩
    have e38 : s.1 3 8 = nI (gG c) := by rw [h3 3 8 (by omega)]; exact hM.2.2.1
    refine ⟨s, ⟨h1, h2, h3, h4⟩, ?_⟩
    simp (disch := omega) only [Wk_pass_2, e38, leP, if_pos]
theorem passW {N : Nat} {c : gar} {M : mS} {R : Nat → Int32} {m : Option Int32} (hN : 1000 ≤ N) (hc : gOk c) (h : WK c M R) (hs : SEEN c m M R) :
    ∃ B, Wk_pass N M = some B ∧ WK c B (nx c m R) ∧ frW M B ∧ (∀ k, 19 ≤ k → B.1 40 k = M.1 40 k) := by
  obtain ⟨A, ⟨a1, a2, a3, a4⟩, eA⟩ := pass_g hN hc h hs
  have hc' := hc
  obtain ⟨hc1, hc2, hc3, hc4, hc5, hc6⟩ := hc'
  obtain ⟨hM, hw, hR, hl⟩ := h
  have loop : ∃ B : mS, Wk_pass_47 N N 0 A = some B ∧ (∀ k, k < 1 ∨ 1 + gD c ≤ k → B.1 40 k = (if k = 0 then R 28 + 1 else A.1 40 k)) ∧ (∀ d, d < gD c → B.1 40 (1 + d) = nx c m R d) ∧ (∀ a j, a ≠ 40 → B.1 a j = A.1 a j) ∧ B.2 = A.2 := by
    refine iter (F := fun f i (s : mS) => Wk_pass_47 N f (nI i) s) (n := gD c) (Q := fun r => ∃ B : mS, r = some B ∧ (∀ k, k < 1 ∨ 1 + gD c ≤ k → B.1 40 k = (if k = 0 then R 28 + 1 else A.1 40 k)) ∧ (∀ d, d < gD c → B.1 40 (1 + d) = nx c m R d) ∧ (∀ a j, a ≠ 40 → B.1 a j = A.1 a j) ∧ B.2 = A.2)
      (fun i s => (∀ k, k < 1 ∨ 1 + i ≤ k → s.1 40 k = A.1 40 k) ∧ (∀ d, d < i → s.1 40 (1 + d) = nx c m R d) ∧ (∀ a j, a ≠ 40 → s.1 a j = A.1 a j) ∧ s.2 = A.2) ?_ ?_ (Nat.zero_le _) (by omega) ⟨fun _ _ => rfl, fun d hd => absurd hd (Nat.not_lt_zero _), fun _ _ _ => rfl, rfl⟩
    · rintro f i s hi ⟨h1, h2, h3, h4⟩
      obtain ⟨⟨o, ho, eo⟩, ⟨p, hp, ep⟩⟩ := hR.1 i hi
      have e36 : s.1 3 6 = nI (gH c) := by rw [h3 3 6 (by omega), a3 3 6 (by omega)]; exact hM.1
      have e37 : s.1 3 7 = nI (gD c) := by rw [h3 3 7 (by omega), a3 3 7 (by omega)]; exact hM.2.1
      have e1 : s.1 40 (1 + i) = nI o := by rw [h1 _ (by omega), a1 _ (by omega), (hw.2.1 i hi).1, eo]
      have e5 : s.1 40 (5 + i) = nI p := by rw [h1 _ (by omega), a1 _ (by omega), (hw.2.1 i hi).2, ep]
      refine Or.inl ⟨mWI s 40 (1 + i) (nx c m R i), ⟨fun k hk => ?_, fun g hg => ?_, fun a j ha => ?_, h4⟩, ?_⟩
      · rw [rN (by omega)]; exact h1 k (by omega)
      · by_cases e : g = i
        · subst e; rw [rI rfl]
        · rw [rN (by omega)]; exact h2 g (by omega)
      · rw [mWI_ne ha]; exact h3 a j ha
      · rw [nx_d hi, eo, ep, clp (by omega), clp (by omega)]
        simp (disch := omega) only [Wk_pass_47, li, nI_add, e37, leP, if_neg, grd_in, clp, nxs, e1, e5, e36, rest_s, bRs]
    · rintro f s ⟨h1, h2, h3, h4⟩
      have e37 : s.1 3 7 = nI (gD c) := by rw [h3 3 7 (by omega), a3 3 7 (by omega)]; exact hM.2.1
      have e0 : s.1 40 0 = R 28 := by rw [h1 0 (by omega), a1 0 (by omega)]; exact hw.1
      refine ⟨mWI s 40 0 (R 28 + 1), ?_, fun k hk => ?_, fun d hd => ?_, fun a j ha => ?_, h4⟩
      · simp (disch := omega) only [Wk_pass_47, e37, leP, if_pos, e0, nxs]
      · by_cases e : k = 0
        · subst e; rw [rI rfl, if_pos rfl]
        · rw [rN (by omega), if_neg e]; exact h1 k hk
      · rw [rN (by omega)]; exact h2 d hd
      · rw [mWI_ne ha]; exact h3 a j ha
  obtain ⟨B, eB, b1, b2, b3, b4⟩ := loop
  have hf : ∀ a j, a ≠ 40 → B.1 a j = M.1 a j := fun a j ha => (b3 a j ha).trans (a3 a j ha)
  refine ⟨B, eA.trans eB, ⟨gC_fr hM (fun a j q => hf a j (by omega)), ⟨?_, fun d hd => ⟨b2 d hd, ?_⟩, fun g hg => ⟨?_, ?_⟩⟩, VR_nx hc hR, ?_⟩, ⟨fun a j q1 q2 q3 => hf a j (by omega), b4.trans a4⟩, fun k hk => ?_⟩
  · rw [b1 0 (by omega), if_pos rfl, nx_n hc]
  · rw [b1 _ (by omega), if_neg (by omega), a1 _ (by omega), nx_s hc (by omega)]; exact (hw.2.1 d hd).2
  · rw [b1 _ (by omega), if_neg (by omega), a1 _ (by omega), nx_b hc (by omega)]; exact (hw.2.2 g hg).1
  · rw [b1 _ (by omega), if_neg (by omega)]; exact a2 g hg
  · intro q7 q0 q1 g hg
    rw [hf 39 7 (by omega)] at q7
    rw [changes_c (hf 4 5 (by omega))] at q0 q1
    rw [hf 43 g (by omega), lnN_nx hc hR hM q0 q1 hg]
    exact hl q7 q0 q1 g hg
  · rw [b1 _ (by omega), if_neg (by omega), a1 _ (by omega)]
theorem cpy44 {f g : Nat → Int32} {k : Nat} (h : k < 44) : va_cpy f g (0 : Int32).toNatClampNeg (0 : Int32).toNatClampNeg (44 : Int32).toNatClampNeg k = f k := by
  show va_cpy f g 0 0 44 k = f k
  rw [pk_cpy_in (by omega) (by omega)]
  congr 1
  omega
theorem beginW {N : Nat} {c : gar} {M : mS} {R : Nat → Int32} (hc : gOk c) (hM : gC c M) (hw : wR c (M.1 34) R) (hR : VR c R) : ∃ B, Wk_begin N M = some B ∧ WK c B R ∧ frW M B ∧ (∀ k, k < 44 → B.1 40 k = M.1 34 k) ∧ B.1 39 7 = 0 := by
  obtain ⟨hc1, hc2, hc3, hc4, hc5, hc6⟩ := hc
  have f1 : ∀ a j, a ≠ 40 → a ≠ 39 → (mWI (mWW M 40 (va_cpy (M.1 34) (M.1 40) (0 : Int32).toNatClampNeg (0 : Int32).toNatClampNeg (44 : Int32).toNatClampNeg)) 39 7 0).1 a j = M.1 a j := fun a j h1 h2 => by rw [mWI_ne h2, mWW_ne h1]
  have f2 : ∀ k, k < 44 → (mWI (mWW M 40 (va_cpy (M.1 34) (M.1 40) (0 : Int32).toNatClampNeg (0 : Int32).toNatClampNeg (44 : Int32).toNatClampNeg)) 39 7 0).1 40 k = M.1 34 k := fun k hk => by rw [mWI_ne (by omega), rWE, cpy44 hk]
  refine ⟨_, rfl, ⟨gC_fr hM (fun a j q => f1 a j (by omega) (by omega)), ⟨?_, fun d hd => ⟨?_, ?_⟩, fun g hg => ⟨?_, ?_⟩⟩, hR, fun q => absurd (rI rfl) q⟩, ⟨fun a j q1 q2 q3 => f1 a j (by omega) (by omega), rfl⟩, f2, rI rfl⟩
  · rw [f2 _ (by omega)]; exact hw.1
  · rw [f2 _ (by omega)]; exact (hw.2.1 d hd).1
  · rw [f2 _ (by omega)]; exact (hw.2.1 d hd).2
  · rw [f2 _ (by omega)]; exact (hw.2.2 g hg).1
  · rw [f2 _ (by omega)]; exact (hw.2.2 g hg).2
