/-! hours, seed, dials, goers: the model -/
def aEnd (T : ctx) (x : Except (Nat × Nat) tst) : Except (Nat × Nat) tst := eB x fun r => eB (aT T r.1 22) fun u => .ok (u, r.2.1, r.2.2)
/-- what these tells may write -/
def frZ (v : Nat) (M A : mS) : Prop := (∀ a j, (a ≠ 64 ∨ (j ≠ 11 ∧ j ≠ 13 ∧ j ≠ 14 ∧ j ≠ 15 ∧ j ≠ 16 ∧ j ≠ 20)) → ((a < 73 ∨ 82 < a) ∨ ((a = 74 ∨ a = 75 ∨ a = 78 ∨ a = 82) ∧ j ≠ v) ∨ ((a = 76 ∨ a = 77) ∧ (j < 4 * v ∨ 4 * v + 4 ≤ j)) ∨ ((79 ≤ a ∧ a ≤ 81) ∧ (j < 5 * v ∨ 5 * v + 5 ≤ j))) → A.1 a j = M.1 a j) ∧ ∀ a j, a ≠ 72 → A.2 a j = M.2 a j
theorem frZ.refl {v : Nat} {M : mS} : frZ v M M := ⟨fun _ _ _ _ => rfl, fun _ _ _ => rfl⟩
theorem frZ.trans {v : Nat} {A B C : mS} (h : frZ v A B) (g : frZ v B C) : frZ v A C := ⟨fun a j q1 q2 => (g.1 a j q1 q2).trans (h.1 a j q1 q2), fun a j q => (g.2 a j q).trans (h.2 a j q)⟩
theorem frN.frZ {v : Nat} {M A : mS} (h : frN M A) : frZ v M A := ⟨fun a j q1 q2 => h.1 a j (by omega), fun a j _ => by rw [h.2]⟩
theorem frZ.frO {v : Nat} {M A : mS} (h : frZ v M A) : frO M A := ⟨fun a j q => h.1 a j (by omega) (by omega), h.2⟩
theorem frZ.wI {v : Nat} {M A : mS} (h : frZ v M A) {a k : Nat} {x : Int32} (ha : a = 73 ∨ ((a = 74 ∨ a = 75 ∨ a = 78 ∨ a = 82) ∧ k = v) ∨ ((a = 76 ∨ a = 77) ∧ 4 * v ≤ k ∧ k < 4 * v + 4) ∨ ((79 ≤ a ∧ a ≤ 81) ∧ 5 * v ≤ k ∧ k < 5 * v + 5)) : frZ v M (mWI A a k x) := ⟨fun b j q1 q2 => by rw [rN (by omega)]; exact h.1 b j q1 q2, h.2⟩
theorem frO_w {M : mS} {a k : Nat} {x : Int32} (ha : 73 ≤ a ∧ a ≤ 82) : frO M (mWI M a k x) := ⟨fun b j q => by rw [mWI_ne (by omega)], fun _ _ _ => rfl⟩
/-- the model's draft on side v -/
def DM (v : Nat) (d : drf) (s : Nat × Nat) (M : mS) : Prop := v < 2 ∧ M.1 64 19 = nI v ∧ dD d ≤ 4 ∧ dG d ≤ 5 ∧ M.1 74 v = nI (dH d) ∧ M.1 75 v = nI (dD d) ∧ M.1 78 v = nI (dG d) ∧ M.1 82 v = nI (dS d) ∧ (∀ i, i < dD d → M.1 76 (4 * v + i) = nI (dO d i) ∧ M.1 77 (4 * v + i) = nI (dL d i)) ∧ (∀ g, g < dG d → (s.1 = 0 → M.1 79 (5 * v + g) = nI (dA d g)) ∧ M.1 80 (5 * v + g) = nI (dF d g) ∧ M.1 81 (5 * v + g) = nI (dY d g)) ∧ (s.1 = 0 → ∀ i, i < dD d → ∀ j, j < dD d → dNm d i = dNm d j → i = j) ∧ ∃ nm k, NMs d nm k M
theorem DM_fr {v : Nat} {d : drf} {s s' : Nat × Nat} {M A : mS} (h : DM v d s M) (hs : s'.1 = 0 → s.1 = 0) (h1 : ∀ a j, (73 ≤ a ∧ a ≤ 82) ∨ (a = 64 ∧ (j = 19 ∨ j = 20)) → A.1 a j = M.1 a j) (h2 : ∀ j, A.2 72 j = M.2 72 j) : DM v d s' A := by
  obtain ⟨g1, g2, g3, g4, g5, g6, g7, g8, g9, g10, g11, nm, k, g12⟩ := h
  refine ⟨g1, (h1 64 19 (by omega)).trans g2, g3, g4, (h1 74 v (by omega)).trans g5, (h1 75 v (by omega)).trans g6, (h1 78 v (by omega)).trans g7, (h1 82 v (by omega)).trans g8, fun i hi => ?_, fun g hg => ?_, fun q => g11 (hs q), nm, k, NMs_fr g12 (h1 64 20 (by omega)) (fun i => h1 73 i (by omega)) h2⟩
  · rw [h1 76 _ (by omega), h1 77 _ (by omega)]; exact g9 i hi
  · rw [h1 79 _ (by omega), h1 80 _ (by omega), h1 81 _ (by omega)]; exact ⟨fun q => (g10 g hg).1 (hs q), (g10 g hg).2⟩
theorem frN.DM {v : Nat} {d : drf} {s s' : Nat × Nat} {M A : mS} (f : frN M A) (h : DM v d s M) (hs : s'.1 = 0 → s.1 = 0) : DM v d s' A := DM_fr h hs (fun a j q => f.1 a j (by omega)) (fun j => by rw [f.2])
section
variable {N : Nat} {T : ctx} {M : mS} {t v : Nat} {s : Nat × Nat} {d : drf} {e : Nat × Nat}
theorem sAdd_z {x p : Nat} (hx : 1 ≤ x) : ¬ (sAdd s x p).1 = 0 := by
  unfold sAdd
  split
  · show ¬ x = 0; omega
  · assumption
theorem aI_z {lo hi x u : Nat} {s' : Nat × Nat} (h : aI T lo hi t s = .ok (x, u, s')) : s'.1 = 0 → s.1 = 0 := by
  unfold aI at h
  cases ea : aT T t 21 with
  | error e => rw [ea] at h; cases h
  | ok w =>
    rw [ea] at h
    have h : Except.ok (cV T t, w, if lo ≤ cV T t ∧ cV T t ≤ hi then s else sAdd s 5 (cP T t)) = (Except.ok (x, u, s') : Except (Nat × Nat) _) := h
    injection h with h
    injection h with h1 h2
    injection h2 with h2 h3
    subst h3
    split
    · exact id
    · intro q; exact absurd q (sAdd_z (by omega))
theorem aNw_z {w : List Nat} {u : Nat} {s' : Nat × Nat} (h : aNw T d t s = .ok (w, u, s')) : w = cW T t ∧ (s'.1 = 0 → s.1 = 0 ∧ ¬ isAm d w = true) := by
  unfold aNw at h
  cases ea : aT T t 20 with
  | error e => rw [ea] at h; cases h
  | ok y =>
    rw [ea] at h
    have h : Except.ok (cW T t, y, if isAm d (cW T t) = true then sAdd s 3 (cP T t) else s) = (Except.ok (w, u, s') : Except (Nat × Nat) _) := h
    injection h with h
    injection h with h1 h2
    injection h2 with h2 h3
    subst h3 h1
    refine ⟨rfl, ?_⟩
    split
    · intro q; exact absurd q (sAdd_z (by omega))
    · intro q; exact ⟨q, by assumption⟩
theorem aKn_z {x u : Nat} {s' : Nat × Nat} (h : aKn T d t s = .ok (x, u, s')) : s'.1 = 0 → s.1 = 0 := by
  unfold aKn at h
  cases ea : aT T t 20 with
  | error e => rw [ea] at h; cases h
  | ok y =>
    rw [ea] at h
    have h : (if fnd (dNm d) (dD d) (cW T t) < dD d then Except.ok (fnd (dNm d) (dD d) (cW T t), y, s) else Except.ok (0, y, sAdd s 4 (cP T t))) = (Except.ok (x, u, s') : Except (Nat × Nat) _) := h
    by_cases z : fnd (dNm d) (dD d) (cW T t) < dD d
    · rw [if_pos z] at h
      injection h with h
      injection h with h1 h2
      injection h2 with h2 h3
      subst h3
      exact id
    · rw [if_neg z] at h
      injection h with h
      injection h with h1 h2
      injection h2 with h2 h3
      subst h3
      intro q; exact absurd q (sAdd_z (by omega))
theorem NM.w {a k : Nat} {x : Int32} (h : NM T t s M) (ha : 73 ≤ a ∧ a ≤ 82) : NM T t s (mWI M a k x) := h.fr (frO_w ha) (fun j _ _ _ => by rw [mWI_ne (by omega)])
theorem FM.w {a k : Nat} {x : Int32} (h : FM T e M) (ha : 73 ≤ a ∧ a ≤ 82) : FM T e (mWI M a k x) := h.fr (frO_w ha) (fun j _ _ _ => by rw [mWI_ne (by omega)])
/-- the sign that ends a tell -/
theorem end_M (hT : TF T) (h : NM T t s M) (hd : DM v d s M) : match eB (aT T t 22) fun u => Except.ok (u, s, d) with
    | .ok (u, s', d') => ∃ A, (bV (Mo_must N 4 M) fun M16 => some M16) = some A ∧ NM T u s' A ∧ DM v d' s' A ∧ frZ v M A
    | .error e => ∃ A, (bV (Mo_must N 4 M) fun M16 => some M16) = some A ∧ FM T e A ∧ frZ v M A := by
  have mu := must_s (N := N) hT h (a := 22) (by omega)
  cases ea : aT T t 22 with
  | error e =>
    rw [ea] at mu
    obtain ⟨A, eA, fA, rA⟩ := mu
    exact ⟨A, by rw [show (4 : Int32) = nI (mkK 22) from rfl, eA, bVs], fA, rA.frZ⟩
  | ok u =>
    rw [ea] at mu
    obtain ⟨rfl, k0, A, eA, nA, rA⟩ := mu
    exact ⟨A, by rw [show (4 : Int32) = nI (mkK 22) from rfl, eA, bVs], nA, rA.DM hd id, rA.frZ⟩
theorem end_f (h : FM T e M) : (bV (Mo_must N 4 M) fun M16 => some M16) = some M := by rw [must_f h, bVs]
/-- a number into the cell c of side v, told by one word: hours and seed -/
theorem one_M {a0 lo hi c : Nat} {X Y : Int32} {d2 : Nat → drf} (hT : TF T) (h : NM T t s M) (hd : DM v d s M) (ha : a0 ≤ 30) (hk : cK T t = a0) (hlo : lo < 100000) (hhi : hi < 100000) (hX : X = nI lo) (hY : Y = nI hi) (hc : c = 74 ∨ c = 82)
    (hw : ∀ (B : mS) (s' : Nat × Nat) (x : Nat), DM v d s' B → DM v (d2 x) s' (mWI B c v (nI x))) : match aEnd T (eB (aT T t a0) fun t1 => eB (aI T lo hi t1 s) fun r => .ok (r.2.1, r.2.2, d2 r.1)) with
    | .ok (u, s', d') => ∃ A, (bV (Mo_goesOn N M) fun M9 => bW (Mo_bounded N X Y M9) fun r12 M11 => grd (mIn (M9.1 64 19) 2) (nxt (mWI M11 c (M9.1 64 19).toNatClampNeg r12) fun M14 => bV (Mo_must N 4 M14) fun M16 => some M16)) = some A ∧ NM T u s' A ∧ DM v d' s' A ∧ frZ v M A
    | .error e => ∃ A, (bV (Mo_goesOn N M) fun M9 => bW (Mo_bounded N X Y M9) fun r12 M11 => grd (mIn (M9.1 64 19) 2) (nxt (mWI M11 c (M9.1 64 19).toNatClampNeg r12) fun M14 => bV (Mo_must N 4 M14) fun M16 => some M16)) = some A ∧ FM T e A ∧ frZ v M A := by
  subst hX hY
  have hv := hd.1
  have go := rgoes_s (N := N) hT h ha hk
  unfold aEnd
  cases ea : aT T t a0 with
  | error e =>
    rw [ea] at go
    obtain ⟨A, eA, fA, rA⟩ := go
    obtain ⟨x, ex⟩ := bnd_f (N := N) (lo := nI lo) (hi := nI hi) fA
    refine ⟨mWI A c v x, ?_, fA.w (by omega), rA.frZ.wI (by omega)⟩
    rw [eA, bVs, ex, bWs, (rA.DM hd id).2.1, grd_in hv (by omega), clp (by omega), nxs, end_f (fA.w (by omega))]
  | ok u =>
    rw [ea] at go
    obtain ⟨rfl, A, eA, nA, rA⟩ := go
    have qA := rA.DM hd (s' := s) id
    have it := bnd_s (N := N) hT nA hlo hhi
    rw [eB_o]
    cases ei : aI T lo hi (t + 1) s with
    | error e =>
      rw [ei] at it
      obtain ⟨x, B, eB, fB, rB⟩ := it
      refine ⟨mWI B c v x, ?_, fB.w (by omega), (rA.frZ.trans rB.frZ).wI (by omega)⟩
      rw [eA, bVs, eB, bWs, qA.2.1, grd_in hv (by omega), clp (by omega), nxs, end_f (fB.w (by omega))]
    | ok r =>
      obtain ⟨x, u, s'⟩ := r
      have hz := aI_z ei
      rw [ei] at it
      obtain ⟨B, eB, nB, rB⟩ := it
      rw [eB_o, eB_o]
      have en := end_M (N := N) hT (nB.w (a := c) (k := v) (x := nI x) (by omega)) (hw B s' x (rB.DM qA hz))
      have base : (bV (Mo_goesOn N M) fun M9 => bW (Mo_bounded N (nI lo) (nI hi) M9) fun r12 M11 => grd (mIn (M9.1 64 19) 2) (nxt (mWI M11 c (M9.1 64 19).toNatClampNeg r12) fun M14 => bV (Mo_must N 4 M14) fun M16 => some M16)) = bV (Mo_must N 4 (mWI B c v (nI x))) fun M16 => some M16 := by
        rw [eA, bVs, eB, bWs, qA.2.1, grd_in hv (by omega), clp (by omega), nxs]
      rw [base]
      cases e2 : aT T u 22 with
      | error e =>
        rw [e2] at en
        obtain ⟨C, eC, fC, rC⟩ := en
        exact ⟨C, eC, fC, ((rA.frZ.trans rB.frZ).wI (by omega)).trans rC⟩
      | ok u2 =>
        rw [e2] at en
        obtain ⟨C, eC, nC, qC, rC⟩ := en
        exact ⟨C, eC, nC, qC, ((rA.frZ.trans rB.frZ).wI (by omega)).trans rC⟩
theorem DM_H {x : Nat} (h : DM v d s M) : DM v (dsH d x) s (mWI M 74 v (nI x)) := by
  obtain ⟨g1, g2, g3, g4, g5, g6, g7, g8, g9, g10, g11, nm, k, g12⟩ := h
  exact ⟨g1, by rw [mWI_ne (by omega)]; exact g2, g3, g4, rI rfl, by rw [mWI_ne (by omega)]; exact g6, by rw [mWI_ne (by omega)]; exact g7, by rw [mWI_ne (by omega)]; exact g8, fun i hi => by rw [mWI_ne (by omega), mWI_ne (by omega)]; exact g9 i hi, fun g hg => by rw [mWI_ne (by omega), mWI_ne (by omega), mWI_ne (by omega)]; exact g10 g hg, g11, nm, k, NMs_fr g12 (by rw [mWI_ne (by omega)]) (fun i => by rw [mWI_ne (by omega)]) (fun _ => rfl)⟩
theorem DM_S {x : Nat} (h : DM v d s M) : DM v (dsS d x) s (mWI M 82 v (nI x)) := by
  obtain ⟨g1, g2, g3, g4, g5, g6, g7, g8, g9, g10, g11, nm, k, g12⟩ := h
  exact ⟨g1, by rw [mWI_ne (by omega)]; exact g2, g3, g4, by rw [mWI_ne (by omega)]; exact g5, by rw [mWI_ne (by omega)]; exact g6, by rw [mWI_ne (by omega)]; exact g7, rI rfl, fun i hi => by rw [mWI_ne (by omega), mWI_ne (by omega)]; exact g9 i hi, fun g hg => by rw [mWI_ne (by omega), mWI_ne (by omega), mWI_ne (by omega)]; exact g10 g hg, g11, nm, k, NMs_fr g12 (by rw [mWI_ne (by omega)]) (fun i => by rw [mWI_ne (by omega)]) (fun _ => rfl)⟩
/-- room for one more -/
theorem room_M {a0 n m : Nat} {X Y : Int32} (hT : TF T) (h : NM T t s M) (ha : a0 ≤ 30) (hk : cK T t = a0) (hn : n ≤ m) (hm : m < 100) (hX : X = nI n) (hY : Y = nI m) : match (if n < m then aT T t a0 else Except.error (2, t)) with
    | .ok u => u = t + 1 ∧ ∃ A, Mo_roomFor N X Y M = some A ∧ NM T u s A ∧ frN M A
    | .error e => ∃ A, Mo_roomFor N X Y M = some A ∧ FM T e A ∧ frN M A := by
  subst hX hY
  unfold Mo_roomFor
  by_cases z : n < m
  · rw [if_pos z, if_neg (by rw [eqP (by omega) (by omega)]; omega)]
    have go := rgoes_s (N := N) hT h ha hk
    unfold Mo_roomFor_10
    rw [if_pos h.2.2.2.1]
    cases ea : aT T t a0 with
    | error e =>
      rw [ea] at go
      obtain ⟨A, eA, fA, rA⟩ := go
      exact ⟨A, by rw [eA, bVs], fA, rA⟩
    | ok u =>
      rw [ea] at go
      obtain ⟨eu, A, eA, nA, rA⟩ := go
      exact ⟨eu, A, by rw [eA, bVs], nA, rA⟩
  · rw [if_neg z, if_pos (by rw [eqP (by omega) (by omega)]; omega)]
    obtain ⟨A, eA, fA, rA⟩ := fail_s (N := N) hT h (x := 2) (by omega) (by omega)
    refine ⟨A, ?_, fA, rA⟩
    unfold Mo_roomFor_10
    rw [show (2 : Int32) = nI 2 from rfl, eA, bVs, if_neg fA.pos.2.1]
/-- the name is kept, at the end of a tell -/
theorem ends_M {q a : Nat} {nm : Nat → List Nat} {k : Nat → Nat} (hT : TF T) (h : NM T t s M) (hn : NMs d nm k M) (hd : dD d + dG d < 9) (hq : q < cN T) (hk : cK T q = 20) : match aT T t 22 with
    | .ok u => ∃ A, Mo_endsName N (nI q) (nI a) M = some A ∧ NM T u s A ∧ A.1 64 20 = nI (dD d + dG d + 1) ∧ (∀ i, A.1 73 i = if i = dD d + dG d then nI a else M.1 73 i) ∧ (∀ i, A.2 72 i = if i = dD d + dG d then lN (krd 27 (cW T q)) else M.2 72 i) ∧ (∀ b j, b ≠ 64 → b ≠ 73 → A.1 b j = M.1 b j) ∧ A.1 64 19 = M.1 64 19 ∧ frZ v M A
    | .error e => ∃ A, Mo_endsName N (nI q) (nI a) M = some A ∧ FM T e A ∧ frN M A := by
  have c2 := hT.2.1
  have mu := must_s (N := N) hT h (a := 22) (by omega)
  unfold Mo_endsName
  cases ea : aT T t 22 with
  | error e =>
    rw [ea] at mu
    obtain ⟨A, eA, fA, rA⟩ := mu
    exact ⟨A, by rw [show (4 : Int32) = nI (mkK 22) from rfl, eA, bVs, if_neg fA.pos.1], fA, rA⟩
  | ok u =>
    rw [ea] at mu
    obtain ⟨rfl, k0, A, eA, nA, rA⟩ := mu
    have nn := rA.NMs hn
    have fz : frZ v A (mWI (mWI (mWL A 72 (dD d + dG d) (lN (krd 27 (cW T q)))) 73 (dD d + dG d) (nI a)) 64 20 (nI (dD d + dG d + 1))) := ⟨fun b j q1 q2 => by rw [rN (by omega), mWI_ne (by omega), mWL_I], fun b j q1 => by rw [mWI_L, mWI_L, mWL_ne q1]⟩
    refine ⟨mWI (mWI (mWL A 72 (dD d + dG d) (lN (krd 27 (cW T q)))) 73 (dD d + dG d) (nI a)) 64 20 (nI (dD d + dG d + 1)), ?_, nA.fr fz.frO (fun j q1 q2 q3 => by rw [rN (by omega), mWI_ne (by omega), mWL_I]), rI rfl, fun i => ?_, fun i => ?_, fun b j q1 q2 => ?_, ?_, rA.frZ.trans fz⟩
    · rw [show (4 : Int32) = nI (mkK 22) from rfl, eA, bVs, nA.2.2.2.1, if_pos (by decide), grd_in (by omega) (by omega), nn.1, grd_in hd (by omega), clp (by omega), clp (by omega), (nA.1 q hq).2.2.2 hk, nxs, mWL_I, nn.1, grd_in hd (by omega), clp (by omega), nxs, mWI_ne (by omega), mWL_I, nn.1, nxs, show nI (dD d + dG d) + 1 = nI (dD d + dG d + 1) from nI_add _ 1]
    · rw [mWI_ne (by omega)]
      by_cases z : i = dD d + dG d
      · rw [if_pos z, rI z]
      · rw [if_neg z, rN (by omega), mWL_I, rA.1 73 i (by omega)]
    · rw [mWI_L, mWI_L]
      by_cases z : i = dD d + dG d
      · rw [if_pos z, rL z]
      · rw [if_neg z, rLN (by omega), rA.2]
    · rw [mWI_ne q1, mWI_ne q2, mWL_I, rA.1 b j (by omega)]
    · rw [rN (by omega), mWI_ne (by omega), mWL_I, rA.1 64 19 (by omega)]
theorem ends_f {q a : Int32} (h : FM T e M) : Mo_endsName N q a M = some M := by
  unfold Mo_endsName
  rw [must_f h, bVs, if_neg h.pos.1]
end
