/-! goers: the class -/
section
variable {N : Nat} {T : ctx} {M : mS} {t : Nat} {s : Nat × Nat} {d : drf} {e : Nat × Nat}
def rG4 (N : Nat) (v : Int32) (M : mS) : Option mS := bW (Rr_takeInt N 1 24 M) fun r23 M22 => grd (mIn v 5) (nxt (mWI M22 25 v.toNatClampNeg r23) fun M25 => nxt (mWI M25 15 8 ((M25.1 15 8) + 1)) fun M26 => some M26)
def rG3 (N : Nat) (v : Int32) (M : mS) : Option mS := bW (Rr_takeInt N 0 23 M) fun r18 M17 => grd (mIn v 5) (nxt (mWI M17 24 v.toNatClampNeg r18) fun M20 => rG4 N v M20)
def rG2 (N : Nat) (v : Int32) (M : mS) : Option mS := bW (Rr_takeDialName N M) fun r13 M12 => grd (mIn v 5) (nxt (mWI M12 23 v.toNatClampNeg r13) fun M15 => rG3 N v M15)
def rG1 (N : Nat) (v : Int32) (M : mS) : Option mS := bW (Rr_takeNewName N M) fun r8 M7 => grd (mIn v 5) (nxt (mWL M7 32 v.toNatClampNeg r8) fun M10 => rG2 N v M10)
theorem rG4_f {D : Nat} (hT : TF T) (h : FC T e M) (hD : D < 5) : ∃ A, rG4 N (nI D) M = some A ∧ FC T e A ∧ frY M A := by
  obtain ⟨x, ex⟩ := int_f (N := N) (lo := 1) (hi := 24) hT h
  refine ⟨mWI (mWI M 25 D x) 15 8 ((mWI M 25 D x).1 15 8 + 1), ?_, (h.w (by omega)).w (by omega), (frY.refl.wI (by omega)).wI (by omega)⟩
  unfold rG4
  rw [ex, bWs, grd_in hD (by omega), clp (by omega), nxs, nxs]
theorem rG3_f {D : Nat} (hT : TF T) (h : FC T e M) (hD : D < 5) : ∃ A, rG3 N (nI D) M = some A ∧ FC T e A ∧ frY M A := by
  obtain ⟨x, ex⟩ := int_f (N := N) (lo := 0) (hi := 23) hT h
  obtain ⟨A, eA, fA, rA⟩ := rG4_f (N := N) (D := D) hT (h.w (a := 24) (k := D) (x := x) (by omega)) hD
  refine ⟨A, ?_, fA, frY.trans (frY.refl.wI (by omega)) rA⟩
  unfold rG3
  rw [ex, bWs, grd_in hD (by omega), clp (by omega), nxs, eA]
theorem rG2_f {D E : Nat} (hN : 5000 ≤ N) (hT : TF T) (h : FC T e M) (hD : D < 5) (hE : E ≤ 4) (h7 : M.1 15 7 = nI E) : ∃ A, rG2 N (nI D) M = some A ∧ FC T e A ∧ frY M A := by
  obtain ⟨x, ex⟩ := dialName_f (N := N) hN hT h hE h7
  obtain ⟨A, eA, fA, rA⟩ := rG3_f (N := N) (D := D) hT (h.w (a := 23) (k := D) (x := x) (by omega)) hD
  refine ⟨A, ?_, fA, frY.trans (frY.refl.wI (by omega)) rA⟩
  unfold rG2
  rw [ex, bWs, grd_in hD (by omega), clp (by omega), nxs, eA]
theorem rG1_f {D E : Nat} (hN : 5000 ≤ N) (hT : TF T) (h : FC T e M) (hD : D < 5) (hE : E ≤ 4) (h7 : M.1 15 7 = nI E) : ∃ A, rG1 N (nI D) M = some A ∧ FC T e A ∧ frY M A := by
  obtain ⟨x, ex⟩ := newName_f (N := N) hT h
  obtain ⟨A, eA, fA, rA⟩ := rG2_f (N := N) (D := D) hN hT (h.wl (a := 32) (k := D) (x := x) (by omega)) hD hE h7
  refine ⟨A, ?_, fA, frY.trans (frY.refl.wL (by omega)) rA⟩
  unfold rG1
  rw [ex, bWs, grd_in hD (by omega), clp (by omega), nxs, eA]
theorem goer_C (hN : 5000 ≤ N) (hT : TF T) (h : NC T t s M) (hd : DC d M) : match aGo T d t s with
    | .ok (u, s', d') => ∃ A, Rr_readGoer N M = some A ∧ NC T u s' A ∧ DC d' A ∧ frY M A
    | .error e => ∃ A, Rr_readGoer N M = some A ∧ FC T e A ∧ frY M A := by
  have d4 := hd.1
  have d5 := hd.2.1
  have base : Rr_readGoer N M = if nI (dG d) < 5 then (bW (Rr_take N (nI 2) M) fun _ M3 => rG1 N (nI (dG d)) M3) else (bV (Rr_failForm N 2 M) fun M23 => some M23) := by
    unfold Rr_readGoer
    rw [hd.2.2.2.2.1, nxs]
    rfl
  unfold aGo
  by_cases z : dG d < 5
  · rw [if_pos (by rw [show (5 : Int32) = nI 5 from rfl, ltP (by omega) (by omega)]; exact z)] at base
    rw [if_pos z]
    have tk := rtake_s (N := N) hT h (a := 2) (by omega)
    cases ea : aT T t 2 with
    | error e =>
      rw [ea] at tk
      obtain ⟨A, eA, fA, rA⟩ := tk
      obtain ⟨B, eB, fB, rB⟩ := rG1_f (N := N) (D := dG d) hN hT fA z d4 (rA.frS.DC hd).2.2.2.1
      exact ⟨B, by rw [base, eA, bWs, eB], fB, rA.frS.frY.trans rB⟩
    | ok u =>
      rw [ea] at tk
      obtain ⟨rfl, k0, A, eA, nA, rA⟩ := tk
      rw [eA, bWs] at base
      rw [eB_o]
      have qA := rA.frS.DC hd
      have nw := newName_s (N := N) hN hT nA qA
      unfold rG1 at base
      cases en : aNw T d (t + 1) s with
      | error e =>
        rw [en] at nw
        obtain ⟨x, B, eB, fB, rB⟩ := nw
        obtain ⟨C, eC, fC, rC⟩ := rG2_f (N := N) (D := dG d) hN hT (fB.wl (a := 32) (k := dG d) (x := x) (by omega)) z d4 (rB.DC qA).2.2.2.1
        exact ⟨C, by rw [base, eB, bWs, grd_in z (by omega), clp (by omega), nxs, eC], fC, rA.frS.frY.trans (frY.trans (rB.frY.wL (by omega)) rC)⟩
      | ok n =>
        obtain ⟨w, u, s1⟩ := n
        rw [en] at nw
        obtain ⟨hw, eu, B, eB, nB, rB⟩ := nw
        rw [eB, bWs, grd_in z (by omega), clp (by omega), nxs] at base
        rw [eB_o]
        have nB1 := nB.wl (a := 32) (k := dG d) (x := lN (krd 32 w)) (by omega)
        have f1 : frY M (mWL B 32 (dG d) (lN (krd 32 w))) := (rA.frS.frY.trans rB.frY).wL (by omega)
        have dB := rB.DC qA
        have dB1 : DC d (mWL B 32 (dG d) (lN (krd 32 w))) := by
          obtain ⟨g1, g2, g3, g4, g5, g6, g7, g8⟩ := dB
          refine ⟨g1, g2, g3, g4, g5, g6, fun i hi => ?_, fun g hg => ?_⟩
          · rw [mWL_I, mWL_ne (by omega)]; exact g7 i hi
          · rw [mWL_I, rLN (by omega)]; exact g8 g hg
        unfold rG2 at base
        have kn := dialName_s (N := N) hN hT nB1 dB1
        cases ek : aKn T d u s1 with
        | error e =>
          rw [ek] at kn
          obtain ⟨x, C, eC, fC, rC⟩ := kn
          obtain ⟨E, eE, fE, rE⟩ := rG3_f (N := N) (D := dG d) hT (fC.w (a := 23) (k := dG d) (x := x) (by omega)) z
          exact ⟨E, by rw [base, eC, bWs, grd_in z (by omega), clp (by omega), nxs, eE], fE, (f1.trans (rC.frY.wI (by omega))).trans rE⟩
        | ok k =>
          obtain ⟨k, u1, s1'⟩ := k
          rw [ek] at kn
          obtain ⟨hk4, eu1, K, eK, nK, rK⟩ := kn
          rw [eK, bWs, grd_in z (by omega), clp (by omega), nxs] at base
          rw [eB_o]
          have nK1 := nK.w (a := 23) (k := dG d) (x := nI k) (by omega)
          have fK : frY M (mWI K 23 (dG d) (nI k)) := (f1.trans rK.frY).wI (by omega)
          unfold rG3 at base
          have c1 := cell_C (N := N) (lo := 0) (hi := 23) (K := fun r13 M12 => grd (mIn (nI (dG d)) 5) (nxt (mWI M12 24 (nI (dG d)).toNatClampNeg r13) fun M15 => rG4 N (nI (dG d)) M15)) hT nK1 (by omega) (by omega)
          cases ex : aI T 0 23 u1 s1' with
          | error e =>
            rw [ex] at c1
            obtain ⟨x, C, eC, fC, rC⟩ := c1
            obtain ⟨E, eE, fE, rE⟩ := rG4_f (N := N) (D := dG d) hT (fC.w (a := 24) (k := dG d) (x := x) (by omega)) z
            refine ⟨E, ?_, fE, (fK.trans (rC.frY.wI (by omega))).trans rE⟩
            rw [base]
            refine eC.trans ?_
            rw [grd_in z (by omega), clp (by omega), nxs, eE]
          | ok x =>
            obtain ⟨x, u2, s2⟩ := x
            rw [ex] at c1
            obtain ⟨C, eC, nC, rC⟩ := c1
            rw [eB_o]
            have nC1 := nC.w (a := 24) (k := dG d) (x := nI x) (by omega)
            have f2 : frY M (mWI C 24 (dG d) (nI x)) := (fK.trans rC.frY).wI (by omega)
            have base2 : Rr_readGoer N M = rG4 N (nI (dG d)) (mWI C 24 (dG d) (nI x)) := by
              rw [base]
              refine eC.trans ?_
              rw [grd_in z (by omega), clp (by omega), nxs]
            unfold rG4 at base2
            have c2 := cell_C (N := N) (lo := 1) (hi := 24) (K := fun r18 M17 => grd (mIn (nI (dG d)) 5) (nxt (mWI M17 25 (nI (dG d)).toNatClampNeg r18) fun M20 => nxt (mWI M20 15 8 ((M20.1 15 8) + 1)) fun M21 => some M21)) hT nC1 (by omega) (by omega)
            cases ey : aI T 1 24 u2 s2 with
            | error e =>
              rw [ey] at c2
              obtain ⟨y, E, eE, fE, rE⟩ := c2
              refine ⟨mWI (mWI E 25 (dG d) y) 15 8 ((mWI E 25 (dG d) y).1 15 8 + 1), ?_, (fE.w (by omega)).w (by omega), ((f2.trans rE.frY).wI (by omega)).wI (by omega)⟩
              rw [base2]
              refine eE.trans ?_
              rw [grd_in z (by omega), clp (by omega), nxs, nxs]
            | ok y =>
              obtain ⟨y, u3, s3⟩ := y
              rw [ey] at c2
              obtain ⟨E, eE, nE, rE⟩ := c2
              have e7 : (mWI E 25 (dG d) (nI y)).1 15 8 = nI (dG d) := by
                rw [mWI_ne (by omega), rE.1 15 8 (by omega), mWI_ne (by omega), rC.1 15 8 (by omega), mWI_ne (by omega), rK.1 15 8 (by omega)]
                exact dB1.2.2.2.2.1
              refine ⟨mWI (mWI E 25 (dG d) (nI y)) 15 8 (nI (dG d + 1)), ?_, (nE.w (by omega)).w (by omega), ?_, ((f2.trans rE.frY).wI (by omega)).wI (by omega)⟩
              · rw [base2]
                refine eE.trans ?_
                rw [grd_in z (by omega), clp (by omega), nxs, e7, nxs, show nI (dG d) + 1 = nI (dG d + 1) from nI_add _ 1]
              · obtain ⟨g1, g2, g3, g4, g5, g6, g7, g8⟩ := dB
                have k15 : ∀ j, j ≠ 8 → (mWI (mWI E 25 (dG d) (nI y)) 15 8 (nI (dG d + 1))).1 15 j = B.1 15 j := fun j hj => by
                  rw [rN (by omega), mWI_ne (by omega), rE.1 15 j (by omega), mWI_ne (by omega), rC.1 15 j (by omega), mWI_ne (by omega), rK.1 15 j (by omega), mWL_I]
                refine ⟨g1, by show dG d + 1 ≤ 5; omega, by rw [k15 6 (by omega)]; exact g3, by rw [k15 7 (by omega)]; exact g4, rI rfl, by rw [k15 9 (by omega)]; exact g6, fun i hi => ?_, fun g hg => ?_⟩
                · have kk : ∀ a, 21 ≤ a → a ≤ 22 → (mWI (mWI E 25 (dG d) (nI y)) 15 8 (nI (dG d + 1))).1 a i = B.1 a i := fun a q1 q2 => by
                    rw [mWI_ne (by omega), mWI_ne (by omega), rE.1 a i (by omega), mWI_ne (by omega), rC.1 a i (by omega), mWI_ne (by omega), rK.1 a i (by omega), mWL_I]
                  rw [kk 21 (by omega) (by omega), kk 22 (by omega) (by omega), mWI_L, mWI_L, rE.2, mWI_L, rC.2, mWI_L, rK.2, rLN (by omega)]
                  exact g7 i hi
                · have hg : g < dG d + 1 := hg
                  show _ = nI (upN (dA d) (dG d) k g) ∧ _ = nI (upN (dF d) (dG d) x g) ∧ _ = nI (upN (dY d) (dG d) y g) ∧ _ = lN (krd 32 (upN (dGm d) (dG d) w g)) ∧ wOk (upN (dGm d) (dG d) w g)
                  by_cases q : g = dG d
                  · rw [q, upN_s, upN_s, upN_s, upN_s]
                    refine ⟨?_, ?_, ?_, ?_, hw⟩
                    · rw [mWI_ne (by omega), mWI_ne (by omega), rE.1 23 _ (by omega), mWI_ne (by omega), rC.1 23 _ (by omega), rI rfl]
                    · rw [mWI_ne (by omega), mWI_ne (by omega), rE.1 24 _ (by omega), rI rfl]
                    · rw [mWI_ne (by omega), rI rfl]
                    · rw [mWI_L, mWI_L, rE.2, mWI_L, rC.2, mWI_L, rK.2, rL rfl]
                  · rw [upN_n q, upN_n q, upN_n q, upN_n q]
                    obtain ⟨p1, p2, p3, p4, p5⟩ := g8 g (by omega)
                    refine ⟨?_, ?_, ?_, ?_, p5⟩
                    · rw [mWI_ne (by omega), mWI_ne (by omega), rE.1 23 _ (by omega), mWI_ne (by omega), rC.1 23 _ (by omega), rN (by omega), rK.1 23 _ (by omega), mWL_I]; exact p1
                    · rw [mWI_ne (by omega), mWI_ne (by omega), rE.1 24 _ (by omega), rN (by omega), rC.1 24 _ (by omega), mWI_ne (by omega), rK.1 24 _ (by omega), mWL_I]; exact p2
                    · rw [mWI_ne (by omega), rN (by omega), rE.1 25 _ (by omega), mWI_ne (by omega), rC.1 25 _ (by omega), mWI_ne (by omega), rK.1 25 _ (by omega), mWL_I]; exact p3
                    · rw [mWI_L, mWI_L, rE.2, mWI_L, rC.2, mWI_L, rK.2, rLN (by omega)]; exact p4
  · rw [if_neg (by rw [show (5 : Int32) = nI 5 from rfl, ltP (by omega) (by omega)]; exact z)] at base
    rw [if_neg z]
    refine ⟨mWI M 14 9 2, ?_, ⟨(frR.refl.wI (by omega)).TC h.1, h.2.1, by omega, by omega, ?_, rI rfl⟩, ⟨fun a j q1 q2 q3 => rN (by omega), fun _ _ _ _ => rfl⟩⟩
    · rw [base]
      unfold Rr_failForm
      rw [if_pos h.2.2.2.1, nxs, bVs]
    · rw [rN (by omega)]; exact h.2.2.1
end
