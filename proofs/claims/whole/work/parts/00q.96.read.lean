/-! READ -/
def c1G (d : drf) (tol : bok) : gar := (dH d, dD d, dG d, dS d, fun g => dF d g % dH d, dY d, bkL tol)
def X1 : aux := (0, fun _ => 0, -1, 0, fun _ _ => 0, fun _ => false, fun _ _ => 0, 0, fun _ => 0, fun _ => 0, fun _ => false)
section
variable {N : Nat} {M : mS} {d : drf} {tol : bok}
theorem gOk_1 (hd : dOk d) : gOk (c1G d tol) := by
  obtain ⟨h1, h2, h3, h4, h5, h6, h7⟩ := hd
  exact ⟨h1, h2, h3, h4, h5, fun g hg => ⟨Nat.mod_lt _ (by show 0 < dH d; omega), (h7 g hg).2.2.1, (h7 g hg).2.2.2⟩⟩
theorem LawC_of (h : BC 4 6 7 tol M) : LawC (c1G d tol) M := by
  obtain ⟨z, hz, hB⟩ := id h
  refine ⟨fun N hN A e4 e6 e7 k hk v hv => ?_, fun k hk hc v w hv => BC_ch (by omega) h hc hv⟩
  have hA : BC 4 6 7 tol A := ⟨z, hz, BD_fr hB (fun a j q => by
    rcases q with q | q | q <;> subst q
    · rw [e4]
    · rw [e6]
    · rw [e7])⟩
  exact BC_say hN hk hA hv
theorem LawM_of {w nb c : Nat} (hw : w < 2) (h : BM w tol nb c M) (hnb : nb ≤ 130 * w + 130) (hc : c ≤ 420 * w + 420) : LawM (c1G d tol) w M := by
  intro N hN A hA h18 k hk v hv
  have hB : BM w tol nb c A := BM_fr h (fun a j q q1 q2 => hA a j (by omega) (by omega) (by omega) (by omega) (by omega)) (fun a j q1 q2 q3 q4 => hA a j (by omega) (by omega) (by omega) (by omega) (by omega)) (fun a j q q1 q2 => hA a j (by omega) (by omega) (by omega) (by omega) (by omega))
  exact BM_say hN hw hk hB hnb hc h18 hv
theorem R0_o {i : Nat} (hd : dOk d) (hi : i < dD d) : R0 d i = nI (dO d i % dH d) := by
  have := hd.2.2.1
  unfold R0; rw [if_pos (by omega), if_pos hi]
theorem R0_s {i : Nat} (hd : dOk d) (hi : i < dD d) : R0 d (4 + i) = nI (dL d i % dH d) := by
  have := hd.2.2.1
  unfold R0; rw [if_neg (by omega), if_pos (by omega), if_pos (by omega), show 4 + i - 4 = i by omega]
theorem R0_b {g : Nat} (hd : dOk d) (hg : g < dG d) : R0 d (8 + g) = nI (dA d g) := by
  have := hd.2.2.2.1
  unfold R0; rw [if_neg (by omega), if_neg (by omega), if_pos (by omega), if_pos (by omega), show 8 + g - 8 = g by omega]
theorem R0_z {k : Nat} (hk : 13 ≤ k) : R0 d k = 0 := by
  unfold R0; rw [if_neg (by omega), if_neg (by omega), if_neg (by omega)]
theorem R0_V (hd : dOk d) : VR (c1G d tol) (R0 d) ∧ VZ (c1G d tol) (R0 d) := by
  obtain ⟨h1, h2, h3, h4, h5, h6, h7⟩ := id hd
  refine ⟨⟨fun i hi => ⟨⟨dO d i % dH d, Nat.mod_lt _ (by show 0 < dH d; omega), R0_o hd hi⟩, ⟨dL d i % dH d, Nat.mod_lt _ (by show 0 < dH d; omega), R0_s hd hi⟩⟩, fun g hg => ⟨dA d g, (h7 g hg).1, R0_b hd hg⟩⟩, fun k _ _ => R0_z (by omega)⟩
/-- the class, a text without fault -/
theorem good_C {T : ctx} {t : Nat} {s : Nat × Nat} {c : gar} {R : Nat → Int32} {X : aux} {A : mS} (hN : 5000 ≤ N) (hT : TF T) (hC : CI c R X M) (hk : KC T t s d tol A) (hs : s.1 = 0) (hd : dOk d) (e0 : Rr_check N M = Rr_check_72 N A) (fA : ∀ a j, (a < 14 ∨ 34 ≤ a) → A.1 a j = M.1 a j) (lA : ∀ a j, a ≠ 30 → a ≠ 31 → a ≠ 32 → A.2 a j = M.2 a j) : ∃ B, Md_read N M = some (0, B) ∧ CI (c1G d tol) (R0 d) X1 B ∧ (∀ a j, 64 ≤ a → B.1 a j = M.1 a j) ∧ ∀ a j, 64 ≤ a → B.2 a j = M.2 a j := by
  obtain ⟨kn, kd, z, kb, kz⟩ := hk
  have ct := hT.2.1
  have ht := kn.2.1
  obtain ⟨dd4, dg5, g1, g2, g3, g4, g5, g6⟩ := id kd
  obtain ⟨H1, H2, d4, G5, S9, b1, b2⟩ := id hd
  obtain ⟨B, eB1, s1, s2, fB, lB⟩ := c72_s (N := N) (M := A) (by omega)
  rw [if_pos kn.2.2.2.1, kn.2.2.2.2.1, hs, show nI 0 = 0 from rfl] at eB1
  have b9 : B.1 14 9 = 0 := (fB 14 9 (by omega) (by omega) (by omega)).trans kn.2.2.2.1
  have b10 : B.1 14 10 = 0 := by rw [fB 14 10 (by omega) (by omega) (by omega), kn.2.2.2.2.1, hs]; rfl
  have ef : Rr_faultPlace N B = some (-1) := by unfold Rr_faultPlace; rw [if_pos b9, if_pos b10]
  obtain ⟨C, eC, t1, t2, t3, t4, t5, t6, t7, t8, t9, fC, lC⟩ := takeOver_s (N := N) (M := mWI (mWI B 0 11 (-1)) 1 1 0)
  obtain ⟨D, eD, u1, u2, u3, u4, fD, lD⟩ := startIn_s (N := N) (M := C) (by omega)
  -- from what was laid in the draft
  have cb : ∀ a j, a ≠ 0 → a ≠ 1 → (mWI (mWI B 0 11 (-1)) 1 1 0).1 a j = B.1 a j := fun a j q1 q2 => by rw [mWI_ne q2, mWI_ne q1]
  have c15 : ∀ j, (mWI (mWI B 0 11 (-1)) 1 1 0).1 15 j = A.1 15 j := fun j => by rw [cb 15 j (by omega) (by omega), fB 15 j (by omega) (by omega) (by omega)]
  have x9 : ∀ i, i < dD d → C.1 9 i = nI (dO d i % dH d) ∧ C.1 10 i = nI (dL d i % dH d) := fun i hi => by
    obtain ⟨-, q1, q2⟩ := t4 i (by omega)
    obtain ⟨w1, w2⟩ := s1 i (by omega)
    obtain ⟨o1, o2⟩ := b1 i hi
    rw [q1, q2, cb 21 i (by omega) (by omega), cb 22 i (by omega) (by omega), w1, w2, (g5 i hi).1, (g5 i hi).2.1, g1, rsV_n (by omega) (by omega) (by omega), rsV_n (by omega) (by omega) (by omega)]
    exact ⟨rfl, rfl⟩
  have x11 : ∀ g, g < dG d → C.1 11 g = nI (dA d g) ∧ C.1 12 g = nI (dF d g % dH d) ∧ C.1 13 g = nI (dY d g) := fun g hg => by
    obtain ⟨q1, q2, q3⟩ := t5 g (by omega)
    obtain ⟨o1, o2, o3⟩ := b2 g hg
    rw [q1, q2, q3, cb 23 g (by omega) (by omega), cb 24 g (by omega) (by omega), cb 25 g (by omega) (by omega), s2 g (by omega), fB 23 g (by omega) (by omega) (by omega), fB 25 g (by omega) (by omega) (by omega), (g6 g hg).1, (g6 g hg).2.1, (g6 g hg).2.2.1, g1, rsV_n (by omega) (by omega) (by omega)]
    exact ⟨rfl, rfl, rfl⟩
  have hBC : BC 4 6 7 tol C := by
    refine ⟨z, by omega, ?_, fun k hk => ?_⟩
    · rw [t1, cb 16 4 (by omega) (by omega), fB 16 4 (by omega) (by omega) (by omega)]; exact kb.1
    · obtain ⟨w1, w2, p, w3, w4, w5⟩ := kb.2 k hk
      refine ⟨w1, ?_, p, ?_, w4, fun i x hx => ?_⟩
      · rw [t2, cb 16 5 (by omega) (by omega), fB 16 5 (by omega) (by omega) (by omega)]; exact w2
      · rw [(t4 k hk).1, cb 19 k (by omega) (by omega), fB 19 k (by omega) (by omega) (by omega)]; exact w3
      · have hi : i < (lcd p (bkB tol k) (bkO tol k)).length := by
          apply Classical.byContradiction
          intro q
          rw [List.getElem?_eq_none (by omega)] at hx
          cases hx
        rw [t3 _ (by omega), cb 18 _ (by omega) (by omega), fB 18 _ (by omega) (by omega) (by omega)]
        exact w5 i x hx
  have d34 : ∀ a j, a ≠ 0 → a ≠ 59 → (mWI (mWI (mWI D 0 12 0) 0 14 0) 59 0 0).1 a j = D.1 a j := fun a j q1 q2 => by rw [mWI_ne q2, mWI_ne q1, mWI_ne q1]
  have dlow : ∀ a j, a ≠ 0 → a ≠ 59 → a ≠ 34 → (mWI (mWI (mWI D 0 12 0) 0 14 0) 59 0 0).1 a j = C.1 a j := fun a j q1 q2 q3 => by rw [d34 a j q1 q2, fD a j q3]
  have dup : ∀ a j, 34 < a → a ≠ 59 → (mWI (mWI (mWI D 0 12 0) 0 14 0) 59 0 0).1 a j = M.1 a j := fun a j q1 q2 => by rw [dlow a j (by omega) q2 (by omega), fC a j (by omega), cb a j (by omega) (by omega), fB a j (by omega) (by omega) (by omega), fA a j (by omega)]
  have dl : ∀ a j, a ≠ 30 → a ≠ 31 → a ≠ 32 → (mWI (mWI (mWI D 0 12 0) 0 14 0) 59 0 0).2 a j = M.2 a j := fun a j q1 q2 q3 => by
    show D.2 a j = _
    rw [lD, lC]
    show B.2 a j = _
    rw [lB, lA a j q1 q2 q3]
  have d0' : ∀ j, j ≠ 12 → j ≠ 14 → (mWI (mWI (mWI D 0 12 0) 0 14 0) 59 0 0).1 0 j = (mWI (mWI B 0 11 (-1)) 1 1 0).1 0 j := fun j q1 q2 => by rw [mWI_ne (by omega), rN (by omega), rN (by omega), fD 0 j (by omega), fC 0 j (by omega)]
  obtain ⟨h1, h2, ⟨h3, h4, h5⟩, h6, ⟨h7, h8, h9, w, h10, h11, h12⟩, ⟨h13, s', h14, h15, h16⟩, ⟨h17, h18, h19⟩, h20⟩ := hC
  refine ⟨mWI (mWI (mWI D 0 12 0) 0 14 0) 59 0 0, ?_, ⟨⟨?_, ?_, ?_, ?_, fun g hg => ⟨?_, ?_⟩, LawC_of ?_⟩, ⟨⟨?_, fun i hi => ⟨?_, ?_⟩, fun g hg => ⟨?_, ?_⟩⟩, fun a ha b hb hab => ?_, (R0_V hd).1, (R0_V hd).2⟩, ⟨?_, by decide, (fun i hi => absurd hi (Nat.not_lt_zero i))⟩, ?_, ⟨?_, by decide, ?_, w, h10, ?_, (fun i hi => absurd hi (Nat.not_lt_zero i))⟩, ⟨?_, 0, by decide, ?_, fun k hk => ⟨?_, (fun q => by cases q)⟩⟩, ⟨by decide, rI rfl, (fun i hi => absurd hi (Nat.not_lt_zero i))⟩, fun k hk => ?_⟩, fun a j q => dup a j (by omega) (by omega), fun a j q => dl a j (by omega) (by omega) (by omega)⟩
  · unfold Md_read
    rw [e0, eB1, bWs, ef, bRs, nxs, nxs, if_pos rfl, eC, bVs, eD, bVs, nxs, nxs, nxs]
  · rw [dlow 3 6 (by omega) (by omega) (by omega), t6, c15]; exact g1
  · rw [dlow 3 7 (by omega) (by omega) (by omega), t7, c15]; exact g2
  · rw [dlow 3 8 (by omega) (by omega) (by omega), t8, c15]; exact g3
  · rw [dlow 3 9 (by omega) (by omega) (by omega), t9, c15]; exact g4
  · rw [dlow 12 g (by omega) (by omega) (by omega)]; exact (x11 g hg).2.1
  · rw [dlow 13 g (by omega) (by omega) (by omega)]; exact (x11 g hg).2.2
  · obtain ⟨z', hz', hB'⟩ := hBC
    exact ⟨z', hz', BD_fr hB' (fun a j q => dlow a j (by omega) (by omega) (by omega))⟩
  · rw [d34 34 0 (by omega) (by omega), u1, R0_z (by omega)]
  · have hi : i < dD d := hi
    rw [d34 34 _ (by omega) (by omega), (u2 i (by omega)).1, (x9 i hi).1, R0_o hd hi]
  · have hi : i < dD d := hi
    rw [d34 34 _ (by omega) (by omega), (u2 i (by omega)).2, (x9 i hi).2, R0_s hd hi]
  · have hg : g < dG d := hg
    rw [d34 34 _ (by omega) (by omega), u3 g (by omega), (x11 g hg).1, R0_b hd hg]
  · have hg : g < dG d := hg
    rw [d34 34 _ (by omega) (by omega), u4 _ (by omega) (by omega), R0_z (by omega)]
  · have ha : a < dG d := ha
    have hb : b < dG d := hb
    rw [d34 34 _ (by omega) (by omega), u4 _ (by omega) (by omega), R0_z (by omega)]
  · rw [dlow 1 1 (by omega) (by omega) (by omega), fC 1 1 (by omega), rI rfl]; rfl
  · rw [d0' 11 (by omega) (by omega), mWI_ne (by omega), rI rfl]; rfl
  · rw [dup 35 1 (by omega) (by omega)]; exact h7
  · rw [mWI_ne (by omega), rN (by omega), rI rfl]; rfl
  · rw [d0' 13 (by omega) (by omega), mWI_ne (by omega), rN (by omega), fB 0 13 (by omega) (by omega) (by omega), fA 0 13 (by omega)]; exact h11
  · rw [dup 37 1 (by omega) (by omega)]; exact h13
  · rw [mWI_ne (by omega), rI rfl]; rfl
  · exact Nat.zero_testBit k
  · rw [dl 27 k (by omega) (by omega) (by omega)]; exact h20 k hk
/-- the model, a text without fault -/
theorem good_M {T : ctx} {t v w : Nat} {s : Nat × Nat} {c : gar} {R : Nat → Int32} {X : aux} {A : mS} (hN : 5000 ≤ N) (hT : TF T) (hM : MI c v R X M) (hk : KM T w t s d tol A) (hs : s.1 = 0) (hd : dOk d) (e0 : Mo_read N M = Mo_read_134 N A) (fA : frRd w M A) (h2 : A.1 64 2 = 0) : ∃ B, Mo_read N M = some (0, B) ∧ MI (c1G d tol) w (R0 d) X1 B ∧ frD M B := by
  obtain ⟨kn, kd, k12, nb, cc, k34, k40, k5, k6, k7, k8, kb⟩ := hk
  have ct := hT.2.1
  have ht := kn.2.1
  obtain ⟨p1, p2, p3, p4, p5, p6, p7, p8, p9, p10, p11, -⟩ := id kd
  obtain ⟨n1, n2, n3, n4, n5, n6, n7⟩ := id kn
  rw [hs, show nI 0 = 0 from rfl] at n5
  -- marks
  have f1 : ∀ a j, (a ≠ 64 ∨ (j ≠ 17 ∧ j ≠ 18)) → (mWI (mWI A 64 17 (-1)) 64 18 (nI w)).1 a j = A.1 a j := fun a j q => by rw [rN (by omega), rN (by omega)]
  have hc0 : cB w d (mWI (mWI A 64 17 (-1)) 64 18 (nI w)) := ⟨p1, rI rfl, by rw [f1 74 w (by omega)]; exact p5, by rw [f1 75 w (by omega)]; exact p6, by rw [f1 78 w (by omega)]; exact p7, fun i hi => by rw [f1 76 _ (by omega), f1 77 _ (by omega)]; exact p9 i hi, fun g hg => by rw [f1 79 _ (by omega)]; exact (p10 g hg).1 hs⟩
  obtain ⟨B, eB1, b1, fB, lB⟩ := beg2 (N := N) (f := N) (i := 0) (by omega) hd hc0 (by omega) (by omega) (fun k hk => absurd hk (Nat.not_lt_zero k))
  obtain ⟨C, eC, c1, fC, lC⟩ := keeps2 (N := N) (f := N) (i := 0) (M := B) (by omega) (by omega)
  obtain ⟨D, eD, d1, fD, lD⟩ := read219 (N := N) (f := N) (i := 0) (M := mWI (mWI C 64 53 0) 64 62 0) (by omega) (by omega)
  have eB1 : Mo_begins N (mWI (mWI A 64 17 (-1)) 64 18 (nI w)) = some B := eB1
  have eC : Mo_keepsRow N B = some C := eC
  have fr : ∀ a j, a ≠ 95 → a ≠ 96 → a ≠ 109 → (a ≠ 64 ∨ (j ≠ 17 ∧ j ≠ 18 ∧ j ≠ 50 ∧ j ≠ 51 ∧ j ≠ 53 ∧ j ≠ 62)) → D.1 a j = A.1 a j := fun a j q1 q2 q3 q4 => by rw [fD a j (by omega), rN (by omega), rN (by omega), fC a j (by omega), fB a j q2 (by omega), f1 a j (by omega)]
  have frl : D.2 = A.2 := by rw [lD]; show C.2 = A.2; rw [lC, lB]; rfl
  obtain ⟨h1, h2', ⟨h3, h4⟩, h5, ⟨h6, h7⟩, h8, ⟨h9, h10⟩, h11, h12⟩ := hM
  refine ⟨D, ?_, ⟨⟨p1, ?_, ?_, ?_, ?_, ?_, fun g hg => ⟨⟨dF d g, ?_, ?_, rfl⟩, ?_⟩, LawM_of p1 (nb := nb) (c := cc) ?_ (by omega) (by omega)⟩, fun k hk => ?_, ⟨?_, (fun i hi => absurd hi (Nat.not_lt_zero i))⟩, ?_, ⟨?_, (fun i hi => absurd hi (Nat.not_lt_zero i))⟩, fun k hk => ⟨?_, (fun q => by cases q)⟩, ⟨?_, (fun i hi => absurd hi (Nat.not_lt_zero i))⟩, fun k hk => ?_, fun k hk => ?_⟩, ⟨fun a j q => ?_, fun a j q => ?_⟩⟩
  · rw [e0]
    unfold Mo_read_134 Mo_read_164
    have e3 : (mWI A 64 17 (-1)).1 64 13 = 0 := by rw [rN (by omega)]; exact n4
    have e4 : (mWI A 64 17 (-1)).1 64 15 = 0 := by rw [rN (by omega)]; exact n5
    have e5 : (mWI A 64 17 (-1)).1 64 19 = nI w := by rw [rN (by omega)]; exact p2
    rw [n4, if_pos (by decide), n5, if_pos (by decide), nxs, e3, if_pos (by decide), e4, if_pos (by decide), e5, nxs, eB1, bVs, eC, bVs, nxs, nxs]
    exact eD
  · rw [fD 64 18 (by omega), rN (by omega), rN (by omega), fC 64 18 (by omega), fB 64 18 (by omega) (by omega), rI rfl]
  · rw [fr 74 w (by omega) (by omega) (by omega) (by omega)]; exact p5
  · rw [fr 75 w (by omega) (by omega) (by omega) (by omega)]; exact p6
  · rw [fr 78 w (by omega) (by omega) (by omega) (by omega)]; exact p7
  · rw [fr 82 w (by omega) (by omega) (by omega) (by omega)]; exact p8
  · have := (hd.2.2.2.2.2.2 g hg).2.1
    omega
  · rw [fr 80 _ (by omega) (by omega) (by omega) (by omega)]; exact (p10 g hg).2.1
  · rw [fr 81 _ (by omega) (by omega) (by omega) (by omega)]; exact (p10 g hg).2.2
  · exact BM_fr kb (fun a j q _ _ => fr a j (by omega) (by omega) (by omega) (by omega)) (fun a j q1 q2 _ _ => fr a j (by omega) (by omega) (by omega) (by omega)) (fun a j q _ _ => fr a j (by omega) (by omega) (by omega) (by omega))
  · rw [fD 95 k (by omega), mWI_ne (by omega), mWI_ne (by omega), c1 k (by omega) hk, b1 k hk]
  · rw [fr 64 2 (by omega) (by omega) (by omega) (by omega)]; exact h2
  · rw [fD 64 17 (by omega), rN (by omega), rN (by omega), fC 64 17 (by omega), fB 64 17 (by omega) (by omega), rN (by omega), rI rfl]; rfl
  · rw [fD 64 53 (by omega), rN (by omega), rI rfl]; rfl
  · exact d1 k (by omega) hk
  · rw [fD 64 62 (by omega), rI rfl]; rfl
  · rw [fr 102 k (by omega) (by omega) (by omega) (by omega), fA.1 102 k (by omega)]; exact h11 k hk
  · rw [frl, fA.2 71 k (by omega) (by omega)]; exact h12 k hk
  · rw [fr a j (by omega) (by omega) (by omega) (by omega), fA.1 a j (by omega)]
  · rw [frl, fA.2 a j (by omega) (by omega)]
/-- a text with a fault: all is as it was, but the tape and the place -/
theorem bad_I {c : gar} {v : Nat} {R : Nat → Int32} {X : aux} {A B : mS} {p : Int32} (hc : gOk c) (hC : CI c R X M) (hM : MI c v R X M) (fA : ∀ a j, (a < 14 ∨ 34 ≤ a) → (a ≠ 0 ∨ j ≠ 11) → (a ≠ 1 ∨ j ≠ 1) → A.1 a j = M.1 a j) (lA : ∀ a j, a ≠ 30 → a ≠ 31 → a ≠ 32 → A.2 a j = M.2 a j) (a11 : A.1 0 11 = p) (a1 : A.1 1 1 = 0) (fB : frRd (1 - v) A B) (b2 : B.1 64 2 = 0) : INV (mWI B 64 17 p) := by
  obtain ⟨h1, h2, ⟨h3, h4, h5⟩, h6, ⟨h7, h8, h9, w, h10, h11, h12⟩, ⟨h13, s, h14, h15, h16⟩, ⟨h17, h18, h19⟩, h20⟩ := hC
  have g5 := hc.2.2.2.1
  have e1 : ∀ a j, a < 14 ∨ (34 ≤ a ∧ a < 64) → (a ≠ 0 ∨ j ≠ 11) → (a ≠ 1 ∨ j ≠ 1) → (mWI B 64 17 p).1 a j = M.1 a j := fun a j q1 q2 q3 => by rw [mWI_ne (by omega), fB.1 a j (by omega), fA a j (by omega) q2 q3]
  have e2 : ∀ a j, a = 65 ∨ 93 ≤ a ∨ (a = 64 ∧ (j = 18 ∨ 45 ≤ j)) → (mWI B 64 17 p).1 a j = M.1 a j := fun a j q => by rw [rN (by omega), fB.1 a j (by omega), fA a j (by omega) (by omega) (by omega)]
  refine ⟨c, v, R, (0, xB X, p, X.2.2.2), hc, ⟨gC_fr h1 (fun a j q => e1 a j (by omega) (by omega) (by omega)), rowC_c h2 (fun j => e1 34 j (by omega) (by omega) (by omega)), ⟨?_, by show 0 ≤ 2000; omega, (fun i hi => absurd hi (Nat.not_lt_zero i))⟩, ?_, ⟨?_, h8, ?_, w, h10, ?_, fun k hk => rowC_c (h12 k hk) (fun j => e1 36 _ (by omega) (by omega) (by omega))⟩, ⟨?_, s, h14, ?_, fun k hk => ⟨(h16 k hk).1, fun q => rowC_c ((h16 k hk).2 q) (fun j => e1 38 _ (by omega) (by omega) (by omega))⟩⟩, ⟨h17, ?_, fun i hi => ?_⟩, fun k hk => ?_⟩, ?_⟩
  · rw [mWI_ne (by omega), fB.1 1 1 (by omega)]; exact a1
  · rw [mWI_ne (by omega), fB.1 0 11 (by omega)]; exact a11
  · rw [e1 35 1 (by omega) (by omega) (by omega)]; exact h7
  · rw [e1 0 12 (by omega) (by omega) (by omega)]; exact h9
  · rw [e1 0 13 (by omega) (by omega) (by omega)]; exact h11
  · rw [e1 37 1 (by omega) (by omega) (by omega)]; exact h13
  · rw [e1 0 14 (by omega) (by omega) (by omega)]; exact h15
  · rw [e1 59 0 (by omega) (by omega) (by omega)]; exact h18
  · rw [e1 60 i (by omega) (by omega) (by omega), e1 61 i (by omega) (by omega) (by omega), e1 62 i (by omega) (by omega) (by omega)]; exact h19 i hi
  · rw [mWI_L, fB.2 27 k (by omega) (by omega), lA 27 k (by omega) (by omega) (by omega)]; exact h20 k hk
  · obtain ⟨g1, g2, ⟨g3, g4⟩, g5', ⟨g6, g7⟩, g8, ⟨g9, g10⟩, g11, g12⟩ := hM
    obtain ⟨m1, m2, m3, m4, m5, m6, m7, m8⟩ := g1
    have e3 : ∀ a j, (a = 74 ∨ a = 75 ∨ a = 78 ∨ a = 82) → j = v → (mWI B 64 17 p).1 a j = M.1 a j := fun a j q1 q2 => by rw [mWI_ne (by omega), fB.1 a j (by omega), fA a j (by omega) (by omega) (by omega)]
    have e4 : ∀ a j, (79 ≤ a ∧ a ≤ 81) → 5 * v ≤ j → j < 5 * v + 5 → (mWI B 64 17 p).1 a j = M.1 a j := fun a j q1 q2 q3 => by rw [mWI_ne (by omega), fB.1 a j (by omega), fA a j (by omega) (by omega) (by omega)]
    have e5 : ∀ a j, 83 ≤ a → a ≤ 91 → (a ≤ 84 → 4 * v ≤ j ∧ j < 4 * v + 4) → (85 ≤ a → a ≤ 89 → 130 * v ≤ j ∧ j < 130 * v + 130) → (90 ≤ a → 420 * v ≤ j ∧ j < 420 * v + 420) → (mWI B 64 17 p).1 a j = M.1 a j := fun a j q1 q2 q3 q4 q5 => by rw [mWI_ne (by omega), fB.1 a j (by omega), fA a j (by omega) (by omega) (by omega)]
    refine ⟨⟨m1, ?_, ?_, ?_, ?_, ?_, fun g hg => ⟨?_, ?_⟩, ?_⟩, fun k hk => ?_, ⟨?_, (fun i hi => absurd hi (Nat.not_lt_zero i))⟩, rI rfl, ⟨?_, fun k hk j hj => ?_⟩, fun k hk => ⟨?_, fun q j hj => ?_⟩, ⟨?_, fun i hi => ?_⟩, fun k hk => ?_, fun k hk => ?_⟩
    · rw [e2 64 18 (by omega)]; exact m2
    · rw [e3 74 v (by omega) rfl]; exact m3
    · rw [e3 75 v (by omega) rfl]; exact m4
    · rw [e3 78 v (by omega) rfl]; exact m5
    · rw [e3 82 v (by omega) rfl]; exact m6
    · rw [e4 80 _ (by omega) (by omega) (by omega)]; exact (m7 g hg).1
    · rw [e4 81 _ (by omega) (by omega) (by omega)]; exact (m7 g hg).2
    · intro N hN A' q1 q2
      exact m8 N hN A' (fun a j x1 x2 x3 x4 x5 => (q1 a j x1 x2 x3 x4 x5).trans (e5 a j x1 x2 x3 x4 x5)) q2
    · rw [e2 95 k (by omega)]; exact g2 k hk
    · rw [rN (by omega)]; exact b2
    · rw [e2 64 53 (by omega)]; exact g6
    · rw [e2 98 _ (by omega)]; exact g7 k hk j hj
    · rw [e2 109 k (by omega)]; exact (g8 k hk).1
    · rw [e2 110 _ (by omega)]; exact (g8 k hk).2 q j hj
    · rw [e2 64 62 (by omega)]; exact g9
    · rw [e2 105 i (by omega), e2 106 i (by omega), e2 107 i (by omega)]; exact g10 i hi
    · rw [e2 102 k (by omega)]; exact g11 k hk
    · rw [mWI_L, fB.2 71 k (by omega) (by omega), lA 71 k (by omega) (by omega) (by omega)]; exact g12 k hk
end
theorem call_read {N : Nat} {M : mS} (hN : 5000 ≤ N) (h : INV M) : ∃ r A B, Md_read N M = some (r, A) ∧ Mo_read N A = some (r, B) ∧ INV B := by
  obtain ⟨c, v, R, X, hc, hC, hM⟩ := h
  have hv := hM.1.1
  have tb : tpB (xT X) (fun i => bY (xB X i)) M := ⟨hC.2.2.1.2.1, hC.2.2.1.1, fun i hi => ⟨by rw [hC.2.2.1.2.2 i hi]; exact bY_s _, bY_lt _⟩⟩
  obtain ⟨n, hT, ck⟩ := check_C (N := N) hN tb (fun k hk => hC.2.2.2.2.2.2.2 k hk)
  -- the model's start, from a memory as the model had it
  have rm := fun (A : mS) (fA : ∀ a j, 64 ≤ a → A.1 a j = M.1 a j) (lA : ∀ a j, 64 ≤ a → A.2 a j = M.2 a j) => read_M (N := N) (M := A) (v := v) hN hT (by rw [fA 64 2 (by omega)]; exact hM.2.2.1.1) hC.2.2.1.2.1 (fun i hi => ⟨by rw [fA 65 i (by omega), hM.2.2.1.2 i hi]; exact bY_s _, bY_lt _⟩) (by rw [fA 64 18 (by omega)]; exact hM.1.2.1) hv (fun k hk => by rw [lA 71 k (by omega)]; exact hM.2.2.2.2.2.2.2.2 k hk)
  cases el : aRd (n, tkD (xT X) (fun i => bY (xB X i)), tkP (xT X) (fun i => bY (xB X i)), tkV (xT X) (fun i => bY (xB X i)), tkW (xT X) (fun i => bY (xB X i))) 402 0 (0, 0) d0 tol0 with
  | error e =>
    rw [el] at ck
    obtain ⟨A, eA, fcA, fA, lA⟩ := ck
    obtain ⟨B, eB1, -, -, fB, lB⟩ := c72_s (N := N) (M := A) (by omega)
    rw [if_neg fcA.ne] at eB1
    obtain ⟨k1, k2, k3, k4, k5, k6⟩ := id fcA
    have fr : frR A B := ⟨fun a j q => fB a j (by omega) (by omega) (by omega), fun a j _ _ => by rw [lB]⟩
    have fcB := fcA.fr fr (fB 14 8 (by omega) (by omega) (by omega)) (fB 14 9 (by omega) (by omega) (by omega))
    have ef : Rr_faultPlace N B = some (nI (cP (n, tkD (xT X) (fun i => bY (xB X i)), tkP (xT X) (fun i => bY (xB X i)), tkV (xT X) (fun i => bY (xB X i)), tkW (xT X) (fun i => bY (xB X i))) e.2)) := by
      unfold Rr_faultPlace
      rw [if_neg fcB.ne, fcB.2.2.2.2.1, placeOf_s hT fcB.1 k2, bRs]
    rw [k6] at eB1
    have g := rm (mWI (mWI B 0 11 (nI (cP (n, tkD (xT X) (fun i => bY (xB X i)), tkP (xT X) (fun i => bY (xB X i)), tkV (xT X) (fun i => bY (xB X i)), tkW (xT X) (fun i => bY (xB X i))) e.2))) 1 1 0) (fun a j q => by rw [mWI_ne (by omega), mWI_ne (by omega), fB a j (by omega) (by omega) (by omega), fA a j (by omega)]) (fun a j q => by show B.2 a j = _; rw [lB, lA a j (by omega) (by omega) (by omega)])
    rw [el] at g
    obtain ⟨C, eC, fmC, rC, c2⟩ := g
    obtain ⟨q1, q2, q3, q4, q5, q6, -⟩ := id fmC
    refine ⟨nI e.1, mWI (mWI B 0 11 (nI (cP (n, tkD (xT X) (fun i => bY (xB X i)), tkP (xT X) (fun i => bY (xB X i)), tkV (xT X) (fun i => bY (xB X i)), tkW (xT X) (fun i => bY (xB X i))) e.2))) 1 1 0, mWI C 64 17 (nI (cP (n, tkD (xT X) (fun i => bY (xB X i)), tkP (xT X) (fun i => bY (xB X i)), tkV (xT X) (fun i => bY (xB X i)), tkW (xT X) (fun i => bY (xB X i))) e.2)), ?_, ?_, bad_I (A := mWI (mWI B 0 11 (nI (cP (n, tkD (xT X) (fun i => bY (xB X i)), tkP (xT X) (fun i => bY (xB X i)), tkV (xT X) (fun i => bY (xB X i)), tkW (xT X) (fun i => bY (xB X i))) e.2))) 1 1 0) (p := nI (cP (n, tkD (xT X) (fun i => bY (xB X i)), tkP (xT X) (fun i => bY (xB X i)), tkV (xT X) (fun i => bY (xB X i)), tkW (xT X) (fun i => bY (xB X i))) e.2)) hc hC hM (fun a j y1 y2 y3 => by rw [rN y3, rN y2, fB a j (by omega) (by omega) (by omega), fA a j y1]) (fun a j y1 y2 y3 => by show B.2 a j = _; rw [lB, lA a j y1 y2 y3]) (by rw [mWI_ne (by omega), rI rfl]) (rI rfl) rC c2⟩
    · unfold Md_read
      rw [eA, eB1, bWs, ef, bRs, nxs, nxs, if_neg (by rw [show (0 : Int32) = nI 0 from rfl, eqP (by omega) (by omega)]; omega)]
    · rw [eC]
      unfold Mo_read_134 Mo_read_164
      have e13 : (mWI C 64 17 (C.1 64 14)).1 64 13 = nI e.1 := by rw [rN (by omega)]; exact q5
      rw [if_neg fmC.pos.1, nxs, e13, if_neg (by rw [show (0 : Int32) = nI 0 from rfl, leP (by omega) (by omega)]; omega), q6]
  | ok r =>
    obtain ⟨⟨t, s, d⟩, tol⟩ := r
    have hd := aRd_ok el (fun _ => d0_ok)
    rw [el] at ck
    obtain ⟨A, eA, kA, fA, lA⟩ := ck
    dsimp only at kA hd
    by_cases z : s.1 = 0
    · have hd := hd z
      obtain ⟨B, eB1, cB1, fB, lB⟩ := good_C (M := M) hN hT hC kA z hd eA fA lA
      have g := rm B fB lB
      rw [el] at g
      obtain ⟨C, eC, kC, rC, c2⟩ := g
      dsimp only at kC
      have hMB : MI c v R X B := MI_u hM ⟨fB, lB⟩
      obtain ⟨D, eD, mD, fD⟩ := good_M (M := B) hN hT hMB kC z hd eC rC c2
      exact ⟨0, B, D, eB1, eD, c1G d tol, 1 - v, R0 d, X1, gOk_1 hd, CI_d cB1 fD, mD⟩
    · obtain ⟨B, eB1, -, -, fB, lB⟩ := c72_s (N := N) (M := A) (by omega)
      have kn := kA.1
      obtain ⟨n1, n2, n3, n4, n5, n6, n7⟩ := id kn
      rw [if_pos n4, n5] at eB1
      have b9 : B.1 14 9 = 0 := (fB 14 9 (by omega) (by omega) (by omega)).trans n4
      have b10 : B.1 14 10 = nI s.1 := (fB 14 10 (by omega) (by omega) (by omega)).trans n5
      have b11 : B.1 14 11 = nI s.2 := (fB 14 11 (by omega) (by omega) (by omega)).trans (n7 z)
      have nz1 : ¬ nI s.1 = 0 := by rw [show (0 : Int32) = nI 0 from rfl, eqP (by omega) (by omega)]; exact z
      have ef : Rr_faultPlace N B = some (nI s.2) := by
        unfold Rr_faultPlace
        rw [if_pos b9, b10, if_neg nz1, b11]
      have g := rm (mWI (mWI B 0 11 (nI s.2)) 1 1 0) (fun a j q => by rw [mWI_ne (by omega), mWI_ne (by omega), fB a j (by omega) (by omega) (by omega), fA a j (by omega)]) (fun a j q => by show B.2 a j = _; rw [lB, lA a j (by omega) (by omega) (by omega)])
      rw [el] at g
      obtain ⟨C, eC, kC, rC, c2⟩ := g
      obtain ⟨m1, m2, m3, m4, m5, m6, m7⟩ := id kC.1
      dsimp only at m4 m5 m6 m7
      refine ⟨nI s.1, mWI (mWI B 0 11 (nI s.2)) 1 1 0, mWI C 64 17 (nI s.2), ?_, ?_, bad_I (A := mWI (mWI B 0 11 (nI s.2)) 1 1 0) (p := nI s.2) hc hC hM (fun a j y1 y2 y3 => by rw [rN y3, rN y2, fB a j (by omega) (by omega) (by omega), fA a j y1]) (fun a j y1 y2 y3 => by show B.2 a j = _; rw [lB, lA a j y1 y2 y3]) (by rw [mWI_ne (by omega), rI rfl]) (rI rfl) rC c2⟩
      · unfold Md_read
        rw [eA, eB1, bWs, ef, bRs, nxs, nxs, if_neg nz1]
      · rw [eC]
        unfold Mo_read_134 Mo_read_164
        have e13 : ∀ y : Int32, (mWI C 64 17 y).1 64 13 = 0 := fun y => by rw [rN (by omega)]; exact m4
        have e15 : ∀ y : Int32, (mWI C 64 17 y).1 64 15 = nI s.1 := fun y => by rw [rN (by omega)]; exact m5
        have np : ¬ nI s.1 ≤ 0 := by rw [show (0 : Int32) = nI 0 from rfl, leP (by omega) (by omega)]; omega
        rw [m4, if_pos (by decide), m5, if_neg np, (m7 z).1, nxs, e13, if_pos (by decide), e15, if_neg np]
