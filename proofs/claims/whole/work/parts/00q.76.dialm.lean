/-! dials, goers: the model -/
def mD4 (N : Nat) (r24 : Int32) (M34 : mS) : Option mS := grd (mIn (M34.1 64 19) 2) (bV (Mo_endsName N r24 (M34.1 75 (M34.1 64 19).toNatClampNeg) M34) fun M37 => if (M37.1 64 13) = 0 then (grd (mIn (M37.1 64 19) 2) (grd (mIn (M37.1 64 19) 2) (nxt (mWI M37 75 (M37.1 64 19).toNatClampNeg ((M37.1 75 (M37.1 64 19).toNatClampNeg) + 1)) fun M40 => some M40))) else (some M37))
def mD3 (N : Nat) (v21 r24 : Int32) (M29 : mS) : Option mS := bW (Mo_bounded N 0 23 M29) fun r32 M31 => grd (mIn v21 8) (nxt (mWI M31 77 v21.toNatClampNeg r32) fun M34 => mD4 N r24 M34)
def mD2 (N : Nat) (v21 r24 : Int32) (M23 : mS) : Option mS := bW (Mo_bounded N 0 23 M23) fun r27 M26 => grd (mIn v21 8) (nxt (mWI M26 76 v21.toNatClampNeg r27) fun M29 => mD3 N v21 r24 M29)
def mD1 (N : Nat) (M19 : mS) : Option mS := grd (mIn (M19.1 64 19) 2) (nxt ((4 * (M19.1 64 19)) + (M19.1 75 (M19.1 64 19).toNatClampNeg)) fun v21 => bW (Mo_named N M19) fun r24 M23 => mD2 N v21 r24 M23)
def mD0 (N : Nat) (M : mS) : Option mS := grd (mIn (M.1 64 19) 2) (bV (Mo_roomFor N (M.1 75 (M.1 64 19).toNatClampNeg) 4 M) fun M19 => if (M19.1 64 13) ≤ 0 then (mD1 N M19) else (some M19))
def mG5 (N : Nat) (r48 : Int32) (M63 : mS) : Option mS := bV (Mo_endsName N r48 10 M63) fun M65 => if (M65.1 64 13) = 0 then (grd (mIn (M65.1 64 19) 2) (grd (mIn (M65.1 64 19) 2) (nxt (mWI M65 78 (M65.1 64 19).toNatClampNeg ((M65.1 78 (M65.1 64 19).toNatClampNeg) + 1)) fun M68 => some M68))) else (some M65)
def mG4 (N : Nat) (v45 r48 : Int32) (M58 : mS) : Option mS := bW (Mo_bounded N 1 24 M58) fun r61 M60 => grd (mIn v45 10) (nxt (mWI M60 81 v45.toNatClampNeg r61) fun M63 => mG5 N r48 M63)
def mG3 (N : Nat) (v45 r48 : Int32) (M53 : mS) : Option mS := bW (Mo_bounded N 0 23 M53) fun r56 M55 => grd (mIn v45 10) (nxt (mWI M55 80 v45.toNatClampNeg r56) fun M58 => mG4 N v45 r48 M58)
def mG2 (N : Nat) (v45 r48 : Int32) (M47 : mS) : Option mS := bW (Mo_known N M47) fun r51 M50 => grd (mIn v45 10) (nxt (mWI M50 79 v45.toNatClampNeg r51) fun M53 => mG3 N v45 r48 M53)
def mG1 (N : Nat) (M43 : mS) : Option mS := grd (mIn (M43.1 64 19) 2) (nxt ((5 * (M43.1 64 19)) + (M43.1 78 (M43.1 64 19).toNatClampNeg)) fun v45 => bW (Mo_named N M43) fun r48 M47 => mG2 N v45 r48 M47)
def mG0 (N : Nat) (M : mS) : Option mS := grd (mIn (M.1 64 19) 2) (bV (Mo_roomFor N (M.1 78 (M.1 64 19).toNatClampNeg) 5 M) fun M43 => if (M43.1 64 13) ≤ 0 then (mG1 N M43) else (some M43))
theorem tell_eq (N : Nat) (M : mS) : Mo_tellOne N M = grd (mIn (M.1 64 11) 403) (if (M.1 67 (M.1 64 11).toNatClampNeg) = 20 then (bV (Mo_goesOn N M) fun M9 => bW (Mo_bounded N 2 24 M9) fun r12 M11 => grd (mIn (M9.1 64 19) 2) (nxt (mWI M11 74 (M9.1 64 19).toNatClampNeg r12) fun M14 => bV (Mo_must N 4 M14) fun M16 => some M16)) else if (M.1 67 (M.1 64 11).toNatClampNeg) = 21 then mD0 N M else if (M.1 67 (M.1 64 11).toNatClampNeg) = 22 then mG0 N M else if (M.1 67 (M.1 64 11).toNatClampNeg) = 27 then (bV (Mo_goesOn N M) fun M70 => bW (Mo_bounded N 0 9999 M70) fun r73 M72 => grd (mIn (M70.1 64 19) 2) (nxt (mWI M72 82 (M70.1 64 19).toNatClampNeg r73) fun M75 => bV (Mo_must N 4 M75) fun M77 => some M77)) else grd (mIn (M.1 64 11) 403) (nxt ((M.1 67 (M.1 64 11).toNatClampNeg) - 23) fun v79 => if v79 < 0 then (Mo_tellOne_361 N v79 M) else (grd (mIn (M.1 64 11) 403) (if (M.1 67 (M.1 64 11).toNatClampNeg) ≤ 26 then (Mo_tellOne_366 N v79 M) else (Mo_tellOne_361 N v79 M))))) := rfl
section
variable {N : Nat} {T : ctx} {M : mS} {t v : Nat} {s : Nat × Nat} {d : drf} {e : Nat × Nat}
theorem mD4_f {r : Int32} (h : FM T e M) (hv : v < 2) (h19 : M.1 64 19 = nI v) : mD4 N r M = some M := by
  unfold mD4
  rw [h19, grd_in hv (by omega), ends_f h, bVs, if_neg h.pos.2.1]
theorem mD3_f {r : Int32} {i : Nat} (h : FM T e M) (hv : v < 2) (h19 : M.1 64 19 = nI v) (hi8 : 4 * v ≤ i ∧ i < 4 * v + 4) : ∃ A, mD3 N (nI i) r M = some A ∧ FM T e A ∧ frZ v M A := by
  obtain ⟨x, ex⟩ := bnd_f (N := N) (lo := 0) (hi := 23) h
  refine ⟨mWI M 77 i x, ?_, h.w (by omega), frZ.refl.wI (by omega)⟩
  unfold mD3
  rw [ex, bWs, grd_in (by omega) (by omega), clp (by omega), nxs, mD4_f (h.w (by omega)) hv (by rw [mWI_ne (by omega)]; exact h19)]
theorem mD2_f {r : Int32} {i : Nat} (h : FM T e M) (hv : v < 2) (h19 : M.1 64 19 = nI v) (hi8 : 4 * v ≤ i ∧ i < 4 * v + 4) : ∃ A, mD2 N (nI i) r M = some A ∧ FM T e A ∧ frZ v M A := by
  obtain ⟨x, ex⟩ := bnd_f (N := N) (lo := 0) (hi := 23) h
  obtain ⟨A, eA, fA, rA⟩ := mD3_f (N := N) (r := r) (i := i) (h.w (a := 76) (k := i) (x := x) (by omega)) hv (by rw [mWI_ne (by omega)]; exact h19) hi8
  refine ⟨A, ?_, fA, frZ.trans (frZ.refl.wI (by omega)) rA⟩
  unfold mD2
  rw [ex, bWs, grd_in (by omega) (by omega), clp (by omega), nxs, eA]
theorem mG5_f {r : Int32} (h : FM T e M) : mG5 N r M = some M := by
  unfold mG5
  rw [ends_f h, bVs, if_neg h.pos.2.1]
theorem mG4_f {r : Int32} {i : Nat} (h : FM T e M) (hv : v < 2) (hi0 : 5 * v ≤ i ∧ i < 5 * v + 5) : ∃ A, mG4 N (nI i) r M = some A ∧ FM T e A ∧ frZ v M A := by
  obtain ⟨x, ex⟩ := bnd_f (N := N) (lo := 1) (hi := 24) h
  refine ⟨mWI M 81 i x, ?_, h.w (by omega), frZ.refl.wI (by omega)⟩
  unfold mG4
  rw [ex, bWs, grd_in (by omega) (by omega), clp (by omega), nxs, mG5_f (h.w (by omega))]
theorem mG3_f {r : Int32} {i : Nat} (h : FM T e M) (hv : v < 2) (hi0 : 5 * v ≤ i ∧ i < 5 * v + 5) : ∃ A, mG3 N (nI i) r M = some A ∧ FM T e A ∧ frZ v M A := by
  obtain ⟨x, ex⟩ := bnd_f (N := N) (lo := 0) (hi := 23) h
  obtain ⟨A, eA, fA, rA⟩ := mG4_f (N := N) (r := r) (i := i) (h.w (a := 80) (k := i) (x := x) (by omega)) hv hi0
  refine ⟨A, ?_, fA, frZ.trans (frZ.refl.wI (by omega)) rA⟩
  unfold mG3
  rw [ex, bWs, grd_in (by omega) (by omega), clp (by omega), nxs, eA]
theorem mG2_f {r : Int32} {i : Nat} (h : FM T e M) (hv : v < 2) (hi0 : 5 * v ≤ i ∧ i < 5 * v + 5) : ∃ A, mG2 N (nI i) r M = some A ∧ FM T e A ∧ frZ v M A := by
  obtain ⟨A, eA, fA, rA⟩ := mG3_f (N := N) (r := r) (i := i) (h.w (a := 79) (k := i) (x := -1) (by omega)) hv hi0
  refine ⟨A, ?_, fA, frZ.trans (frZ.refl.wI (by omega)) rA⟩
  unfold mG2
  rw [known_f h, bWs, grd_in (by omega) (by omega), clp (by omega), nxs, eA]
theorem mD4_s {q x y : Nat} (hT : TF T) (h : NM T t s M) (hd : DM v d s M) (hD : dD d < 4) (hq : q < cN T) (hk : cK T q = 20) (hx : M.1 76 (4 * v + dD d) = nI x) (hy : M.1 77 (4 * v + dD d) = nI y) (ha : s.1 = 0 → ¬ isAm d (cW T q) = true) : match eB (aT T t 22) fun u => Except.ok (u, s, dsD d (cW T q) x y) with
    | .ok (u, s', d') => ∃ A, mD4 N (nI q) M = some A ∧ NM T u s' A ∧ DM v d' s' A ∧ frZ v M A
    | .error e => ∃ A, mD4 N (nI q) M = some A ∧ FM T e A ∧ frZ v M A := by
  obtain ⟨g1, g2, g3, g4, g5, g6, g7, g8, g9, g10, g11, nm, k, g12⟩ := id hd
  have hw := hT.2.2.2.2.2.2.1 q hq hk
  have en := ends_M (N := N) (v := v) (a := dD d) hT h g12 (by omega) hq hk
  unfold mD4
  rw [g2, grd_in g1 (by omega), clp (by omega), g6]
  cases ea : aT T t 22 with
  | error e =>
    rw [ea] at en
    obtain ⟨A, eA, fA, rA⟩ := en
    exact ⟨A, by rw [eA, bVs, if_neg fA.pos.2.1], fA, rA.frZ⟩
  | ok u =>
    rw [ea] at en
    obtain ⟨A, eA, nA, a1, a2, a3, a4, a5, rA⟩ := en
    refine ⟨mWI A 75 v (nI (dD d + 1)), ?_, nA.w (by omega), ?_, rA.wI (by omega)⟩
    · rw [eA, bVs, if_pos nA.2.2.2.1, a5, g2, grd_in g1 (by omega), grd_in g1 (by omega), clp (by omega), a4 75 v (by omega) (by omega), g6, nxs, show nI (dD d) + 1 = nI (dD d + 1) from nI_add _ 1]
    · have kk : ∀ b j, b ≠ 64 → b ≠ 73 → b ≠ 75 → (mWI A 75 v (nI (dD d + 1))).1 b j = M.1 b j := fun b j q1 q2 q3 => by rw [mWI_ne q3]; exact a4 b j q1 q2
      refine ⟨g1, by rw [mWI_ne (by omega), a5]; exact g2, by show dD d + 1 ≤ 4; omega, g4, by rw [kk 74 v (by omega) (by omega) (by omega)]; exact g5, rI rfl, by rw [kk 78 v (by omega) (by omega) (by omega)]; exact g7, by rw [kk 82 v (by omega) (by omega) (by omega)]; exact g8, fun i hi => ?_, fun g hg => ?_, fun z i hi j hj => ?_, upN nm (dD d + dG d) (cW T q), upN k (dD d + dG d) (dD d), ?_⟩
      · have hi : i < dD d + 1 := hi
        rw [kk 76 _ (by omega) (by omega) (by omega), kk 77 _ (by omega) (by omega) (by omega)]
        show _ = nI (upN (dO d) (dD d) x i) ∧ _ = nI (upN (dL d) (dD d) y i)
        by_cases z : i = dD d
        · rw [z, upN_s, upN_s]; exact ⟨hx, hy⟩
        · rw [upN_n z, upN_n z]; exact g9 i (by omega)
      · rw [kk 79 _ (by omega) (by omega) (by omega), kk 80 _ (by omega) (by omega) (by omega), kk 81 _ (by omega) (by omega) (by omega)]
        exact g10 g hg
      · have hi : i < dD d + 1 := hi
        have hj : j < dD d + 1 := hj
        have na := fun k hk => fun q => ha z (isAm_t.mpr (Or.inl ⟨k, hk, q⟩))
        show upN (dNm d) (dD d) (cW T q) i = upN (dNm d) (dD d) (cW T q) j → i = j
        by_cases zi : i = dD d <;> by_cases zj : j = dD d
        · intro _; omega
        · rw [zi, upN_s, upN_n zj]; intro e; exact absurd e.symm (na j (by omega))
        · rw [zj, upN_s, upN_n zi]; intro e; exact absurd e (na i (by omega))
        · rw [upN_n zi, upN_n zj]; exact g11 z i (by omega) j (by omega)
      · obtain ⟨n1, n2, n3, n4⟩ := g12
        refine ⟨by rw [mWI_ne (by omega), a1]; show nI (dD d + dG d + 1) = nI (dD d + 1 + dG d); congr 1; omega, fun i hi => ?_, fun j hj => ?_, fun g hg => ?_⟩
        · have hi : i < dD d + 1 + dG d := hi
          rw [mWI_L, a3, mWI_ne (by omega), a2]
          show (if i = dD d + dG d then lN (krd 27 (cW T q)) else M.2 72 i) = lN (krd 27 (upN nm (dD d + dG d) (cW T q) i)) ∧ wOk (upN nm (dD d + dG d) (cW T q) i) ∧ (if i = dD d + dG d then nI (dD d) else M.1 73 i) = nI (upN k (dD d + dG d) (dD d) i) ∧ ((upN k (dD d + dG d) (dD d) i < dD d + 1 ∧ upN nm (dD d + dG d) (cW T q) i = upN (dNm d) (dD d) (cW T q) (upN k (dD d + dG d) (dD d) i)) ∨ (upN k (dD d + dG d) (dD d) i = 10 ∧ ∃ g, g < dG d ∧ upN nm (dD d + dG d) (cW T q) i = dGm d g))
          by_cases z : i = dD d + dG d
          · rw [if_pos z, if_pos z, z, upN_s, upN_s, upN_s]
            exact ⟨rfl, hw, rfl, Or.inl ⟨by omega, rfl⟩⟩
          · rw [if_neg z, if_neg z, upN_n z, upN_n z]
            obtain ⟨p1, p2, p3, p4⟩ := n2 i (by omega)
            refine ⟨p1, p2, p3, ?_⟩
            rcases p4 with ⟨p4, p5⟩ | p4
            · exact Or.inl ⟨by omega, by rw [upN_n (by omega)]; exact p5⟩
            · exact Or.inr p4
        · have hj : j < dD d + 1 := hj
          by_cases z : j = dD d
          · exact ⟨dD d + dG d, by show _ < dD d + 1 + dG d; omega, by rw [upN_s]; exact z.symm⟩
          · obtain ⟨i, hi, p⟩ := n3 j (by omega)
            exact ⟨i, by show _ < dD d + 1 + dG d; omega, by rw [upN_n (by omega)]; exact p⟩
        · obtain ⟨i, hi, p1, p2⟩ := n4 g hg
          exact ⟨i, by show _ < dD d + 1 + dG d; omega, by rw [upN_n (by omega)]; exact p1, by rw [upN_n (by omega)]; exact p2⟩
theorem mG5_s {q k0 x y : Nat} (hT : TF T) (h : NM T t s M) (hd : DM v d s M) (hD : dG d < 5) (hq : q < cN T) (hk : cK T q = 20) (h79 : s.1 = 0 → M.1 79 (5 * v + dG d) = nI k0) (hx : M.1 80 (5 * v + dG d) = nI x) (hy : M.1 81 (5 * v + dG d) = nI y) : match eB (aT T t 22) fun u => Except.ok (u, s, dsG d (cW T q) k0 x y) with
    | .ok (u, s', d') => ∃ A, mG5 N (nI q) M = some A ∧ NM T u s' A ∧ DM v d' s' A ∧ frZ v M A
    | .error e => ∃ A, mG5 N (nI q) M = some A ∧ FM T e A ∧ frZ v M A := by
  obtain ⟨g1, g2, g3, g4, g5, g6, g7, g8, g9, g10, g11, nm, k, g12⟩ := id hd
  have hw := hT.2.2.2.2.2.2.1 q hq hk
  have en := ends_M (N := N) (v := v) (a := 10) hT h g12 (by omega) hq hk
  unfold mG5
  cases ea : aT T t 22 with
  | error e =>
    rw [ea] at en
    obtain ⟨A, eA, fA, rA⟩ := en
    exact ⟨A, by rw [show (10 : Int32) = nI 10 from rfl, eA, bVs, if_neg fA.pos.2.1], fA, rA.frZ⟩
  | ok u =>
    rw [ea] at en
    obtain ⟨A, eA, nA, a1, a2, a3, a4, a5, rA⟩ := en
    refine ⟨mWI A 78 v (nI (dG d + 1)), ?_, nA.w (by omega), ?_, rA.wI (by omega)⟩
    · rw [show (10 : Int32) = nI 10 from rfl, eA, bVs, if_pos nA.2.2.2.1, a5, g2, grd_in g1 (by omega), grd_in g1 (by omega), clp (by omega), a4 78 v (by omega) (by omega), g7, nxs, show nI (dG d) + 1 = nI (dG d + 1) from nI_add _ 1]
    · have kk : ∀ b j, b ≠ 64 → b ≠ 73 → b ≠ 78 → (mWI A 78 v (nI (dG d + 1))).1 b j = M.1 b j := fun b j q1 q2 q3 => by rw [mWI_ne q3]; exact a4 b j q1 q2
      refine ⟨g1, by rw [mWI_ne (by omega), a5]; exact g2, g3, by show dG d + 1 ≤ 5; omega, by rw [kk 74 v (by omega) (by omega) (by omega)]; exact g5, by rw [kk 75 v (by omega) (by omega) (by omega)]; exact g6, rI rfl, by rw [kk 82 v (by omega) (by omega) (by omega)]; exact g8, fun i hi => ?_, fun g hg => ?_, g11, upN nm (dD d + dG d) (cW T q), upN k (dD d + dG d) 10, ?_⟩
      · rw [kk 76 _ (by omega) (by omega) (by omega), kk 77 _ (by omega) (by omega) (by omega)]
        exact g9 i hi
      · have hg : g < dG d + 1 := hg
        rw [kk 79 _ (by omega) (by omega) (by omega), kk 80 _ (by omega) (by omega) (by omega), kk 81 _ (by omega) (by omega) (by omega)]
        show (s.1 = 0 → _ = nI (upN (dA d) (dG d) k0 g)) ∧ _ = nI (upN (dF d) (dG d) x g) ∧ _ = nI (upN (dY d) (dG d) y g)
        by_cases z : g = dG d
        · rw [z, upN_s, upN_s, upN_s]; exact ⟨h79, hx, hy⟩
        · rw [upN_n z, upN_n z, upN_n z]; exact g10 g (by omega)
      · obtain ⟨n1, n2, n3, n4⟩ := g12
        refine ⟨by rw [mWI_ne (by omega), a1]; rfl, fun i hi => ?_, fun j hj => ?_, fun g hg => ?_⟩
        · have hi : i < dD d + (dG d + 1) := hi
          rw [mWI_L, a3, mWI_ne (by omega), a2]
          show (if i = dD d + dG d then lN (krd 27 (cW T q)) else M.2 72 i) = lN (krd 27 (upN nm (dD d + dG d) (cW T q) i)) ∧ wOk (upN nm (dD d + dG d) (cW T q) i) ∧ (if i = dD d + dG d then nI 10 else M.1 73 i) = nI (upN k (dD d + dG d) 10 i) ∧ ((upN k (dD d + dG d) 10 i < dD d ∧ upN nm (dD d + dG d) (cW T q) i = dNm d (upN k (dD d + dG d) 10 i)) ∨ (upN k (dD d + dG d) 10 i = 10 ∧ ∃ g, g < dG d + 1 ∧ upN nm (dD d + dG d) (cW T q) i = upN (dGm d) (dG d) (cW T q) g))
          by_cases z : i = dD d + dG d
          · rw [if_pos z, if_pos z, z, upN_s, upN_s]
            exact ⟨rfl, hw, rfl, Or.inr ⟨rfl, dG d, by omega, by rw [upN_s]⟩⟩
          · rw [if_neg z, if_neg z, upN_n z, upN_n z]
            obtain ⟨p1, p2, p3, p4⟩ := n2 i (by omega)
            refine ⟨p1, p2, p3, ?_⟩
            rcases p4 with p4 | ⟨p4, g, hg, p5⟩
            · exact Or.inl p4
            · exact Or.inr ⟨p4, g, by omega, by rw [upN_n (by omega)]; exact p5⟩
        · obtain ⟨i, hi, p⟩ := n3 j hj
          exact ⟨i, by show _ < dD d + (dG d + 1); omega, by rw [upN_n (by omega)]; exact p⟩
        · have hg : g < dG d + 1 := hg
          by_cases z : g = dG d
          · refine ⟨dD d + dG d, by show _ < dD d + (dG d + 1); omega, by rw [upN_s], ?_⟩
            show upN nm (dD d + dG d) (cW T q) (dD d + dG d) = upN (dGm d) (dG d) (cW T q) g
            rw [upN_s, z, upN_s]
          · obtain ⟨i, hi, p1, p2⟩ := n4 g (by omega)
            refine ⟨i, by show _ < dD d + (dG d + 1); omega, by rw [upN_n (by omega)]; exact p1, ?_⟩
            show upN nm (dD d + dG d) (cW T q) i = upN (dGm d) (dG d) (cW T q) g
            rw [upN_n (by omega), upN_n z]; exact p2
end
