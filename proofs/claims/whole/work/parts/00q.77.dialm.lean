/-! dials, goers: the model, whole -/
section
variable {N : Nat} {T : ctx} {M : mS} {t v : Nat} {s : Nat × Nat} {d : drf} {e : Nat × Nat}
theorem DM_w {a i : Nat} {x : Int32} (h : DM v d s M) (ha : ((a = 76 ∨ a = 77) ∧ i = 4 * v + dD d) ∨ ((a = 79 ∨ a = 80 ∨ a = 81) ∧ i = 5 * v + dG d)) : DM v d s (mWI M a i x) := by
  obtain ⟨g1, g2, g3, g4, g5, g6, g7, g8, g9, g10, g11, nm, k, g12⟩ := h
  refine ⟨g1, by rw [mWI_ne (by omega)]; exact g2, g3, g4, by rw [mWI_ne (by omega)]; exact g5, by rw [mWI_ne (by omega)]; exact g6, by rw [mWI_ne (by omega)]; exact g7, by rw [mWI_ne (by omega)]; exact g8, fun j hj => ?_, fun g hg => ?_, g11, nm, k, NMs_fr g12 (by rw [mWI_ne (by omega)]) (fun i => by rw [mWI_ne (by omega)]) (fun _ => rfl)⟩
  · rw [rN (by omega), rN (by omega)]; exact g9 j hj
  · rw [rN (by omega), rN (by omega), rN (by omega)]; exact g10 g hg
theorem dial_M (hN : 5000 ≤ N) (hT : TF T) (h : NM T t s M) (hd : DM v d s M) (hk : cK T t = 1) : match aEnd T (aDi T d t s) with
    | .ok (u, s', d') => ∃ A, mD0 N M = some A ∧ NM T u s' A ∧ DM v d' s' A ∧ frZ v M A
    | .error e => ∃ A, mD0 N M = some A ∧ FM T e A ∧ frZ v M A := by
  have hv := hd.1
  have d4 := hd.2.2.1
  have d5 := hd.2.2.2.1
  have ro := room_M (N := N) (a0 := 1) (X := M.1 75 (M.1 64 19).toNatClampNeg) (Y := 4) hT h (by omega) hk d4 (by omega) (by rw [hd.2.1, clp (by omega)]; exact hd.2.2.2.2.2.1) rfl
  have base : mD0 N M = bV (Mo_roomFor N (M.1 75 (M.1 64 19).toNatClampNeg) 4 M) fun M19 => if (M19.1 64 13) ≤ 0 then (mD1 N M19) else (some M19) := by
    unfold mD0
    rw [hd.2.1, grd_in hv (by omega)]
  unfold aEnd aDi
  by_cases z : dD d < 4
  · rw [if_pos z] at ro
    rw [if_pos z]
    cases ea : aT T t 1 with
    | error e =>
      rw [ea] at ro
      obtain ⟨A, eA, fA, rA⟩ := ro
      exact ⟨A, by rw [base, eA, bVs, if_neg fA.pos.1], fA, rA.frZ⟩
    | ok u =>
      rw [ea] at ro
      obtain ⟨rfl, A, eA, nA, rA⟩ := ro
      have qA := rA.DM hd (s' := s) id
      rw [eB_o]
      have base2 : mD0 N M = bW (Mo_named N A) fun r24 M23 => mD2 N (nI (4 * v + dD d)) r24 M23 := by
        rw [base, eA, bVs, nA.2.2.2.1, if_pos (by decide)]
        unfold mD1
        rw [qA.2.1, grd_in hv (by omega), clp (by omega), qA.2.2.2.2.2.1, nxs, show (4 : Int32) * nI v = nI (4 * v) from pk_mul 4 v, nI_add]
      obtain ⟨nm, k, qN⟩ := qA.2.2.2.2.2.2.2.2.2.2.2
      have nw := named_s (N := N) hN hT nA qN d4 d5
      cases en : aNw T d (t + 1) s with
      | error e =>
        rw [en] at nw
        obtain ⟨B, eB, fB, rB⟩ := nw
        obtain ⟨C, eC, fC, rC⟩ := mD2_f (N := N) (r := nI (t + 1)) (i := 4 * v + dD d) fB hv (rB.DM qA (s' := s) id).2.1 (by omega)
        exact ⟨C, by rw [base2, eB, bWs, eC], fC, (rA.frZ.trans rB.frZ).trans rC⟩
      | ok n =>
        obtain ⟨w, u, s1⟩ := n
        have hz := aNw_z en
        rw [en] at nw
        obtain ⟨ew, k20, B, eB, nB, rB⟩ := nw
        subst ew
        have hq := nA.2.1
        have qB := rB.DM qA (s' := s1) (fun q => (hz.2 q).1)
        rw [eB_o]
        rw [eB, bWs] at base2
        have c1 := bnd_s (N := N) hT nB (lo := 0) (hi := 23) (by omega) (by omega)
        cases ex : aI T 0 23 u s1 with
        | error e =>
          rw [ex] at c1
          obtain ⟨x, C, eC, fC, rC⟩ := c1
          obtain ⟨E, eE, fE, rE⟩ := mD3_f (N := N) (r := nI (t + 1)) (i := 4 * v + dD d) (fC.w (a := 76) (k := 4 * v + dD d) (x := x) (by omega)) hv (by rw [mWI_ne (by omega)]; exact (rC.DM qB (s' := s1) id).2.1) (by omega)
          refine ⟨E, ?_, fE, (((rA.frZ.trans rB.frZ).trans rC.frZ).wI (by omega)).trans rE⟩
          rw [base2]
          unfold mD2
          rw [show (0 : Int32) = nI 0 from rfl, show (23 : Int32) = nI 23 from rfl, eC, bWs, grd_in (by omega) (by omega), clp (by omega), nxs, eE]
        | ok x =>
          obtain ⟨x, u2, s2⟩ := x
          have hz2 := aI_z ex
          rw [ex] at c1
          obtain ⟨C, eC, nC, rC⟩ := c1
          rw [eB_o]
          have qC := DM_w (a := 76) (i := 4 * v + dD d) (x := nI x) (rC.DM qB hz2) (Or.inl ⟨Or.inl rfl, rfl⟩)
          have nC1 := nC.w (a := 76) (k := 4 * v + dD d) (x := nI x) (by omega)
          have base3 : mD0 N M = mD3 N (nI (4 * v + dD d)) (nI (t + 1)) (mWI C 76 (4 * v + dD d) (nI x)) := by
            rw [base2]
            unfold mD2
            rw [show (0 : Int32) = nI 0 from rfl, show (23 : Int32) = nI 23 from rfl, eC, bWs, grd_in (by omega) (by omega), clp (by omega), nxs]
          have f3 : frZ v M (mWI C 76 (4 * v + dD d) (nI x)) := ((rA.frZ.trans rB.frZ).trans rC.frZ).wI (by omega)
          have c2 := bnd_s (N := N) hT nC1 (lo := 0) (hi := 23) (by omega) (by omega)
          cases ey : aI T 0 23 u2 s2 with
          | error e =>
            rw [ey] at c2
            obtain ⟨y, E, eE, fE, rE⟩ := c2
            refine ⟨mWI E 77 (4 * v + dD d) y, ?_, fE.w (by omega), (f3.trans rE.frZ).wI (by omega)⟩
            rw [base3]
            unfold mD3
            rw [show (0 : Int32) = nI 0 from rfl, show (23 : Int32) = nI 23 from rfl, eE, bWs, grd_in (by omega) (by omega), clp (by omega), nxs, mD4_f (fE.w (by omega)) hv (by rw [mWI_ne (by omega)]; exact (rE.DM qC (s' := s2) id).2.1)]
          | ok y =>
            obtain ⟨y, u3, s3⟩ := y
            have hz3 := aI_z ey
            rw [ey] at c2
            obtain ⟨E, eE, nE, rE⟩ := c2
            rw [eB_o, eB_o]
            have qE := DM_w (a := 77) (i := 4 * v + dD d) (x := nI y) (rE.DM qC hz3) (Or.inl ⟨Or.inr rfl, rfl⟩)
            have base4 : mD0 N M = mD4 N (nI (t + 1)) (mWI E 77 (4 * v + dD d) (nI y)) := by
              rw [base3]
              unfold mD3
              rw [show (0 : Int32) = nI 0 from rfl, show (23 : Int32) = nI 23 from rfl, eE, bWs, grd_in (by omega) (by omega), clp (by omega), nxs]
            have fin := mD4_s (N := N) (q := t + 1) (x := x) (y := y) hT (nE.w (a := 77) (k := 4 * v + dD d) (x := nI y) (by omega)) qE z hq k20 (by rw [mWI_ne (by omega), rE.1 76 _ (by omega), rI rfl]) (rI rfl) (fun q => (hz.2 (hz2 (hz3 q))).2)
            have f4 : frZ v M (mWI E 77 (4 * v + dD d) (nI y)) := (f3.trans rE.frZ).wI (by omega)
            rw [base4]
            cases e2 : aT T u3 22 with
            | error e =>
              rw [e2] at fin
              obtain ⟨A5, g1, g2, g3⟩ := fin
              exact ⟨A5, g1, g2, f4.trans g3⟩
            | ok u4 =>
              rw [e2] at fin
              obtain ⟨A5, g1, g2, g3, g4⟩ := fin
              exact ⟨A5, g1, g2, g3, f4.trans g4⟩
  · rw [if_neg z] at ro
    rw [if_neg z]
    obtain ⟨A, eA, fA, rA⟩ := ro
    exact ⟨A, by rw [base, eA, bVs, if_neg fA.pos.1], fA, rA.frZ⟩
theorem goer_M (hN : 5000 ≤ N) (hT : TF T) (h : NM T t s M) (hd : DM v d s M) (hk : cK T t = 2) : match aEnd T (aGo T d t s) with
    | .ok (u, s', d') => ∃ A, mG0 N M = some A ∧ NM T u s' A ∧ DM v d' s' A ∧ frZ v M A
    | .error e => ∃ A, mG0 N M = some A ∧ FM T e A ∧ frZ v M A := by
  have hv := hd.1
  have d4 := hd.2.2.1
  have d5 := hd.2.2.2.1
  have ro := room_M (N := N) (a0 := 2) (X := M.1 78 (M.1 64 19).toNatClampNeg) (Y := 5) hT h (by omega) hk d5 (by omega) (by rw [hd.2.1, clp (by omega)]; exact hd.2.2.2.2.2.2.1) rfl
  have base : mG0 N M = bV (Mo_roomFor N (M.1 78 (M.1 64 19).toNatClampNeg) 5 M) fun M19 => if (M19.1 64 13) ≤ 0 then (mG1 N M19) else (some M19) := by
    unfold mG0
    rw [hd.2.1, grd_in hv (by omega)]
  unfold aEnd aGo
  by_cases z : dG d < 5
  · rw [if_pos z] at ro
    rw [if_pos z]
    cases ea : aT T t 2 with
    | error e =>
      rw [ea] at ro
      obtain ⟨A, eA, fA, rA⟩ := ro
      exact ⟨A, by rw [base, eA, bVs, if_neg fA.pos.1], fA, rA.frZ⟩
    | ok u =>
      rw [ea] at ro
      obtain ⟨rfl, A, eA, nA, rA⟩ := ro
      have qA := rA.DM hd (s' := s) id
      rw [eB_o]
      have base2 : mG0 N M = bW (Mo_named N A) fun r24 M23 => mG2 N (nI (5 * v + dG d)) r24 M23 := by
        rw [base, eA, bVs, nA.2.2.2.1, if_pos (by decide)]
        unfold mG1
        rw [qA.2.1, grd_in hv (by omega), clp (by omega), qA.2.2.2.2.2.2.1, nxs, show (5 : Int32) * nI v = nI (5 * v) from pk_mul 5 v, nI_add]
      obtain ⟨nm, k, qN⟩ := qA.2.2.2.2.2.2.2.2.2.2.2
      have nw := named_s (N := N) hN hT nA qN d4 d5
      cases en : aNw T d (t + 1) s with
      | error e =>
        rw [en] at nw
        obtain ⟨B, eB, fB, rB⟩ := nw
        obtain ⟨C, eC, fC, rC⟩ := mG2_f (N := N) (r := nI (t + 1)) (i := 5 * v + dG d) fB (by omega) (by omega)
        exact ⟨C, by rw [base2, eB, bWs, eC], fC, (rA.frZ.trans rB.frZ).trans rC⟩
      | ok n =>
        obtain ⟨w, u, s1⟩ := n
        have hz := aNw_z en
        rw [en] at nw
        obtain ⟨ew, k20, B, eB, nB, rB⟩ := nw
        subst ew
        have hq := nA.2.1
        have qB := rB.DM qA (s' := s1) (fun q => (hz.2 q).1)
        rw [eB_o]
        rw [eB, bWs] at base2
        have kn := known_s (N := N) hN hT nB (rB.NMs qN) d4 d5 qB.2.2.2.2.2.2.2.2.2.2.1
        cases ek : aKn T d u s1 with
        | error e =>
          rw [ek] at kn
          obtain ⟨x, C, eC, fC, rC⟩ := kn
          obtain ⟨E, eE, fE, rE⟩ := mG3_f (N := N) (r := nI (t + 1)) (i := 5 * v + dG d) (fC.w (a := 79) (k := 5 * v + dG d) (x := x) (by omega)) (by omega) (by omega)
          refine ⟨E, ?_, fE, (((rA.frZ.trans rB.frZ).trans rC.frZ).wI (by omega)).trans rE⟩
          rw [base2]
          unfold mG2
          rw [eC, bWs, grd_in (by omega) (by omega), clp (by omega), nxs, eE]
        | ok kx =>
          obtain ⟨k0, u1, s1'⟩ := kx
          have hz1 := aKn_z ek
          rw [ek] at kn
          obtain ⟨r, K, eK, hr, nK, rK⟩ := kn
          rw [eB_o]
          have qK := DM_w (a := 79) (i := 5 * v + dG d) (x := r) (rK.DM qB hz1) (Or.inr ⟨Or.inl rfl, rfl⟩)
          have nK1 := nK.w (a := 79) (k := 5 * v + dG d) (x := r) (by omega)
          have base2b : mG0 N M = mG3 N (nI (5 * v + dG d)) (nI (t + 1)) (mWI K 79 (5 * v + dG d) r) := by
            rw [base2]
            unfold mG2
            rw [eK, bWs, grd_in (by omega) (by omega), clp (by omega), nxs]
          have f2 : frZ v M (mWI K 79 (5 * v + dG d) r) := ((rA.frZ.trans rB.frZ).trans rK.frZ).wI (by omega)
          have c1 := bnd_s (N := N) hT nK1 (lo := 0) (hi := 23) (by omega) (by omega)
          cases ex : aI T 0 23 u1 s1' with
          | error e =>
            rw [ex] at c1
            obtain ⟨x, C, eC, fC, rC⟩ := c1
            obtain ⟨E, eE, fE, rE⟩ := mG4_f (N := N) (r := nI (t + 1)) (i := 5 * v + dG d) (fC.w (a := 80) (k := 5 * v + dG d) (x := x) (by omega)) (by omega) (by omega)
            refine ⟨E, ?_, fE, ((f2.trans rC.frZ).wI (by omega)).trans rE⟩
            rw [base2b]
            unfold mG3
            rw [show (0 : Int32) = nI 0 from rfl, show (23 : Int32) = nI 23 from rfl, eC, bWs, grd_in (by omega) (by omega), clp (by omega), nxs, eE]
          | ok x =>
            obtain ⟨x, u2, s2⟩ := x
            have hz2 := aI_z ex
            rw [ex] at c1
            obtain ⟨C, eC, nC, rC⟩ := c1
            rw [eB_o]
            have qC := DM_w (a := 80) (i := 5 * v + dG d) (x := nI x) (rC.DM qK hz2) (Or.inr ⟨Or.inr (Or.inl rfl), rfl⟩)
            have nC1 := nC.w (a := 80) (k := 5 * v + dG d) (x := nI x) (by omega)
            have base3 : mG0 N M = mG4 N (nI (5 * v + dG d)) (nI (t + 1)) (mWI C 80 (5 * v + dG d) (nI x)) := by
              rw [base2b]
              unfold mG3
              rw [show (0 : Int32) = nI 0 from rfl, show (23 : Int32) = nI 23 from rfl, eC, bWs, grd_in (by omega) (by omega), clp (by omega), nxs]
            have f3 : frZ v M (mWI C 80 (5 * v + dG d) (nI x)) := (f2.trans rC.frZ).wI (by omega)
            have c2 := bnd_s (N := N) hT nC1 (lo := 1) (hi := 24) (by omega) (by omega)
            cases ey : aI T 1 24 u2 s2 with
            | error e =>
              rw [ey] at c2
              obtain ⟨y, E, eE, fE, rE⟩ := c2
              refine ⟨mWI E 81 (5 * v + dG d) y, ?_, fE.w (by omega), (f3.trans rE.frZ).wI (by omega)⟩
              rw [base3]
              unfold mG4
              rw [show (1 : Int32) = nI 1 from rfl, show (24 : Int32) = nI 24 from rfl, eE, bWs, grd_in (by omega) (by omega), clp (by omega), nxs, mG5_f (fE.w (by omega))]
            | ok y =>
              obtain ⟨y, u3, s3⟩ := y
              have hz3 := aI_z ey
              rw [ey] at c2
              obtain ⟨E, eE, nE, rE⟩ := c2
              rw [eB_o, eB_o]
              have qE := DM_w (a := 81) (i := 5 * v + dG d) (x := nI y) (rE.DM qC hz3) (Or.inr ⟨Or.inr (Or.inr rfl), rfl⟩)
              have base4 : mG0 N M = mG5 N (nI (t + 1)) (mWI E 81 (5 * v + dG d) (nI y)) := by
                rw [base3]
                unfold mG4
                rw [show (1 : Int32) = nI 1 from rfl, show (24 : Int32) = nI 24 from rfl, eE, bWs, grd_in (by omega) (by omega), clp (by omega), nxs]
              have fin := mG5_s (N := N) (q := t + 1) (k0 := k0) (x := x) (y := y) hT (nE.w (a := 81) (k := 5 * v + dG d) (x := nI y) (by omega)) qE z hq k20 (fun q => by rw [mWI_ne (by omega), rE.1 79 _ (by omega), mWI_ne (by omega), rC.1 79 _ (by omega), rI rfl]; exact hr (hz2 (hz3 q))) (by rw [mWI_ne (by omega), rE.1 80 _ (by omega), rI rfl]) (rI rfl)
              have f4 : frZ v M (mWI E 81 (5 * v + dG d) (nI y)) := (f3.trans rE.frZ).wI (by omega)
              rw [base4]
              cases e2 : aT T u3 22 with
              | error e =>
                rw [e2] at fin
                obtain ⟨A5, g1, g2, g3⟩ := fin
                exact ⟨A5, g1, g2, f4.trans g3⟩
              | ok u4 =>
                rw [e2] at fin
                obtain ⟨A5, g1, g2, g3, g4⟩ := fin
                exact ⟨A5, g1, g2, g3, f4.trans g4⟩
  · rw [if_neg z] at ro
    rw [if_neg z]
    obtain ⟨A, eA, fA, rA⟩ := ro
    exact ⟨A, by rw [base, eA, bVs, if_neg fA.pos.1], fA, rA.frZ⟩
end
