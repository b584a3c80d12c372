/-! hours, seed, dials, goers: the class -/
def eB {α β : Type} (x : Except (Nat × Nat) α) (f : α → Except (Nat × Nat) β) : Except (Nat × Nat) β := match x with
  | .ok a => f a
  | .error e => .error e
theorem eB_o {α β : Type} {a : α} {f : α → Except (Nat × Nat) β} : eB (.ok a) f = f a := rfl
theorem eB_e {α β : Type} {e : Nat × Nat} {f : α → Except (Nat × Nat) β} : eB (.error e) f = .error e := rfl
def dsH (d : drf) (x : Nat) : drf := (x, d.2)
def dsS (d : drf) (x : Nat) : drf := (dH d, dD d, dG d, x, d.2.2.2.2)
def dsD (d : drf) (w : List Nat) (x y : Nat) : drf := (dH d, dD d + 1, dG d, dS d, upN (dO d) (dD d) x, upN (dL d) (dD d) y, dA d, dF d, dY d, upN (dNm d) (dD d) w, dGm d)
def dsG (d : drf) (w : List Nat) (k x y : Nat) : drf := (dH d, dD d, dG d + 1, dS d, dO d, dL d, upN (dA d) (dG d) k, upN (dF d) (dG d) x, upN (dY d) (dG d) y, dNm d, upN (dGm d) (dG d) w)
abbrev tst : Type := Nat × (Nat × Nat) × drf
def aHo (T : ctx) (d : drf) (t : Nat) (s : Nat × Nat) : Except (Nat × Nat) tst := eB (aT T t 0) fun t1 => eB (aI T 2 24 t1 s) fun r => .ok (r.2.1, r.2.2, dsH d r.1)
def aSe (T : ctx) (d : drf) (t : Nat) (s : Nat × Nat) : Except (Nat × Nat) tst := eB (aT T t 7) fun t1 => eB (aI T 0 9999 t1 s) fun r => .ok (r.2.1, r.2.2, dsS d r.1)
def aDi (T : ctx) (d : drf) (t : Nat) (s : Nat × Nat) : Except (Nat × Nat) tst := if dD d < 4 then (eB (aT T t 1) fun t1 => eB (aNw T d t1 s) fun n => eB (aI T 0 23 n.2.1 n.2.2) fun x => eB (aI T 0 23 x.2.1 x.2.2) fun y => .ok (y.2.1, y.2.2, dsD d n.1 x.1 y.1)) else .error (2, t)
def aGo (T : ctx) (d : drf) (t : Nat) (s : Nat × Nat) : Except (Nat × Nat) tst := if dG d < 5 then (eB (aT T t 2) fun t1 => eB (aNw T d t1 s) fun n => eB (aKn T d n.2.1 n.2.2) fun k => eB (aI T 0 23 k.2.1 k.2.2) fun x => eB (aI T 1 24 x.2.1 x.2.2) fun y => .ok (y.2.1, y.2.2, dsG d n.1 k.1 x.1 y.1)) else .error (2, t)
def frY (M A : mS) : Prop := (∀ a j, (a ≠ 14 ∨ j ≤ 7) → a ≠ 15 → (a < 21 ∨ 25 < a) → A.1 a j = M.1 a j) ∧ ∀ a j, a ≠ 31 → a ≠ 32 → A.2 a j = M.2 a j
theorem frY.refl {M : mS} : frY M M := ⟨fun _ _ _ _ _ => rfl, fun _ _ _ _ => rfl⟩
theorem frY.trans {A B C : mS} (h : frY A B) (g : frY B C) : frY A C := ⟨fun a j q1 q2 q3 => (g.1 a j q1 q2 q3).trans (h.1 a j q1 q2 q3), fun a j q1 q2 => (g.2 a j q1 q2).trans (h.2 a j q1 q2)⟩
theorem frS14.frY {M A : mS} (h : frS14 M A) : frY M A := ⟨fun a j q1 q2 q3 => h.1 a j (by omega), fun a j _ _ => by rw [h.2]⟩
theorem frY.frR {M A : mS} (h : frY M A) : frR M A := ⟨fun a j q => h.1 a j (by omega) (by omega) (by omega), h.2⟩
theorem frY.wI {M A : mS} (h : frY M A) {a k : Nat} {x : Int32} (ha : a = 15 ∨ (21 ≤ a ∧ a ≤ 25)) : frY M (mWI A a k x) := ⟨fun b j q1 q2 q3 => by rw [mWI_ne (by omega)]; exact h.1 b j q1 q2 q3, h.2⟩
theorem frY.wL {M A : mS} (h : frY M A) {a k : Nat} {x : Int64} (ha : a = 31 ∨ a = 32) : frY M (mWL A a k x) := ⟨h.1, fun b j q1 q2 => by rw [mWL_ne (by omega)]; exact h.2 b j q1 q2⟩
section
variable {N : Nat} {T : ctx} {M : mS} {t : Nat} {s : Nat × Nat} {d : drf} {e : Nat × Nat}
theorem FC.w {a k : Nat} {x : Int32} (h : FC T e M) (ha : a = 15 ∨ (21 ≤ a ∧ a ≤ 25)) : FC T e (mWI M a k x) := h.fr (frY.refl.wI ha).frR (by rw [mWI_ne (by omega)]) (by rw [mWI_ne (by omega)])
theorem FC.wl {a k : Nat} {x : Int64} (h : FC T e M) (ha : a = 31 ∨ a = 32) : FC T e (mWL M a k x) := h.fr (frY.refl.wL ha).frR rfl rfl
theorem NC.w {a k : Nat} {x : Int32} (h : NC T t s M) (ha : a = 15 ∨ (21 ≤ a ∧ a ≤ 25)) : NC T t s (mWI M a k x) := h.fr (frY.refl.wI ha).frR (fun j _ _ => by rw [mWI_ne (by omega)])
theorem NC.wl {a k : Nat} {x : Int64} (h : NC T t s M) (ha : a = 31 ∨ a = 32) : NC T t s (mWL M a k x) := h.fr (frY.refl.wL ha).frR (fun _ _ _ => rfl)
theorem hours_C (hT : TF T) (h : NC T t s M) (hd : DC d M) : match aHo T d t s with
    | .ok (u, s', d') => ∃ A, Rr_readHours N M = some A ∧ NC T u s' A ∧ DC d' A ∧ frY M A
    | .error e => ∃ A, Rr_readHours N M = some A ∧ FC T e A ∧ frY M A := by
  have tk := rtake_s (N := N) hT h (a := 0) (by omega)
  unfold aHo Rr_readHours
  cases ea : aT T t 0 with
  | error e =>
    rw [ea] at tk
    obtain ⟨A, eA, fA, rA⟩ := tk
    obtain ⟨x, ex⟩ := int_f (N := N) (lo := 2) (hi := 24) hT fA
    exact ⟨mWI A 15 6 x, by rw [show (0 : Int32) = nI 0 from rfl, eA, bWs, ex, bWs, nxs], fA.w (by omega), rA.frS.frY.wI (by omega)⟩
  | ok u =>
    rw [ea] at tk
    obtain ⟨rfl, k0, A, eA, nA, rA⟩ := tk
    have it := int_s (N := N) hT nA (lo := 2) (hi := 24) (by omega) (by omega)
    rw [eB_o]
    cases ei : aI T 2 24 (t + 1) s with
    | error e =>
      rw [ei] at it
      obtain ⟨x, B, eB, fB, rB⟩ := it
      exact ⟨mWI B 15 6 x, by rw [show (0 : Int32) = nI 0 from rfl, eA, bWs, show (2 : Int32) = nI 2 from rfl, show (24 : Int32) = nI 24 from rfl, eB, bWs, nxs], fB.w (by omega), (rA.frS.frY.trans rB.frY).wI (by omega)⟩
    | ok r =>
      obtain ⟨x, u, s'⟩ := r
      rw [ei] at it
      obtain ⟨x9, eu, B, eB, nB, rB⟩ := it
      refine ⟨mWI B 15 6 (nI x), by rw [show (0 : Int32) = nI 0 from rfl, eA, bWs, show (2 : Int32) = nI 2 from rfl, show (24 : Int32) = nI 24 from rfl, eB, bWs, nxs], nB.w (by omega), ?_, (rA.frS.frY.trans rB.frY).wI (by omega)⟩
      obtain ⟨g1, g2, g3, g4, g5, g6, g7, g8⟩ := rB.DC (rA.frS.DC hd)
      exact ⟨g1, g2, rI rfl, by rw [rN (by omega)]; exact g4, by rw [rN (by omega)]; exact g5, by rw [rN (by omega)]; exact g6, fun i hi => by rw [mWI_ne (by omega), mWI_ne (by omega)]; exact g7 i hi, fun g hg => by rw [mWI_ne (by omega), mWI_ne (by omega), mWI_ne (by omega)]; exact g8 g hg⟩
/-- the seed, up to its end -/
theorem seed_C {K : mS → Option mS} (hT : TF T) (h : NC T t s M) (hd : DC d M) : match aSe T d t s with
    | .ok (u, s', d') => ∃ A, (bW (Rr_take N 7 M) fun _ M16 => bW (Rr_takeInt N 0 9999 M16) fun r21 M20 => nxt (mWI M20 15 9 r21) K) = K A ∧ NC T u s' A ∧ DC d' A ∧ frY M A
    | .error e => ∃ A, (bW (Rr_take N 7 M) fun _ M16 => bW (Rr_takeInt N 0 9999 M16) fun r21 M20 => nxt (mWI M20 15 9 r21) K) = K A ∧ FC T e A ∧ frY M A := by
  have tk := rtake_s (N := N) hT h (a := 7) (by omega)
  unfold aSe
  cases ea : aT T t 7 with
  | error e =>
    rw [ea] at tk
    obtain ⟨A, eA, fA, rA⟩ := tk
    obtain ⟨x, ex⟩ := int_f (N := N) (lo := 0) (hi := 9999) hT fA
    exact ⟨mWI A 15 9 x, by rw [show (7 : Int32) = nI 7 from rfl, eA, bWs, ex, bWs, nxs], fA.w (by omega), rA.frS.frY.wI (by omega)⟩
  | ok u =>
    rw [ea] at tk
    obtain ⟨rfl, k0, A, eA, nA, rA⟩ := tk
    have it := int_s (N := N) hT nA (lo := 0) (hi := 9999) (by omega) (by omega)
    rw [eB_o]
    cases ei : aI T 0 9999 (t + 1) s with
    | error e =>
      rw [ei] at it
      obtain ⟨x, B, eB, fB, rB⟩ := it
      exact ⟨mWI B 15 9 x, by rw [show (7 : Int32) = nI 7 from rfl, eA, bWs, show (0 : Int32) = nI 0 from rfl, show (9999 : Int32) = nI 9999 from rfl, eB, bWs, nxs], fB.w (by omega), (rA.frS.frY.trans rB.frY).wI (by omega)⟩
    | ok r =>
      obtain ⟨x, u, s'⟩ := r
      rw [ei] at it
      obtain ⟨x9, eu, B, eB, nB, rB⟩ := it
      refine ⟨mWI B 15 9 (nI x), by rw [show (7 : Int32) = nI 7 from rfl, eA, bWs, show (0 : Int32) = nI 0 from rfl, show (9999 : Int32) = nI 9999 from rfl, eB, bWs, nxs], nB.w (by omega), ?_, (rA.frS.frY.trans rB.frY).wI (by omega)⟩
      obtain ⟨g1, g2, g3, g4, g5, g6, g7, g8⟩ := rB.DC (rA.frS.DC hd)
      exact ⟨g1, g2, by rw [rN (by omega)]; exact g3, by rw [rN (by omega)]; exact g4, by rw [rN (by omega)]; exact g5, rI rfl, fun i hi => by rw [mWI_ne (by omega), mWI_ne (by omega)]; exact g7 i hi, fun g hg => by rw [mWI_ne (by omega), mWI_ne (by omega), mWI_ne (by omega)]; exact g8 g hg⟩
/-- a number into a cell: then on -/
theorem cell_C {lo hi : Nat} {K : Int32 → mS → Option mS} (hT : TF T) (h : NC T t s M) (hlo : lo < 100000) (hhi : hi < 100000) : match aI T lo hi t s with
    | .ok (x, u, s') => ∃ A, bW (Rr_takeInt N (nI lo) (nI hi) M) K = K (nI x) A ∧ NC T u s' A ∧ frS14 M A
    | .error e => ∃ x A, bW (Rr_takeInt N (nI lo) (nI hi) M) K = K x A ∧ FC T e A ∧ frS14 M A := by
  have it := int_s (N := N) hT h hlo hhi
  cases ei : aI T lo hi t s with
  | error e =>
    rw [ei] at it
    obtain ⟨x, B, eB, fB, rB⟩ := it
    exact ⟨x, B, by rw [eB, bWs], fB, rB⟩
  | ok r =>
    obtain ⟨x, u, s'⟩ := r
    rw [ei] at it
    obtain ⟨x9, eu, B, eB, nB, rB⟩ := it
    exact ⟨B, by rw [eB, bWs], nB, rB⟩
def rD3 (N : Nat) (v : Int32) (M : mS) : Option mS := bW (Rr_takeInt N 0 23 M) fun r18 M17 => grd (mIn v 4) (nxt (mWI M17 22 v.toNatClampNeg r18) fun M20 => nxt (mWI M20 15 7 ((M20.1 15 7) + 1)) fun M21 => some M21)
def rD2 (N : Nat) (v : Int32) (M : mS) : Option mS := bW (Rr_takeInt N 0 23 M) fun r13 M12 => grd (mIn v 4) (nxt (mWI M12 21 v.toNatClampNeg r13) fun M15 => rD3 N v M15)
def rD1 (N : Nat) (v : Int32) (M : mS) : Option mS := bW (Rr_takeNewName N M) fun r8 M7 => grd (mIn v 4) (nxt (mWL M7 31 v.toNatClampNeg r8) fun M10 => rD2 N v M10)
theorem rD3_f {D : Nat} (hT : TF T) (h : FC T e M) (hD : D < 4) : ∃ A, rD3 N (nI D) M = some A ∧ FC T e A ∧ frY M A := by
  obtain ⟨x, ex⟩ := int_f (N := N) (lo := 0) (hi := 23) hT h
  refine ⟨mWI (mWI M 22 D x) 15 7 ((mWI M 22 D x).1 15 7 + 1), ?_, (h.w (by omega)).w (by omega), (frY.refl.wI (by omega)).wI (by omega)⟩
  unfold rD3
  rw [ex, bWs, grd_in hD (by omega), clp (by omega), nxs, nxs]
theorem rD2_f {D : Nat} (hT : TF T) (h : FC T e M) (hD : D < 4) : ∃ A, rD2 N (nI D) M = some A ∧ FC T e A ∧ frY M A := by
  obtain ⟨x, ex⟩ := int_f (N := N) (lo := 0) (hi := 23) hT h
  obtain ⟨A, eA, fA, rA⟩ := rD3_f (N := N) (D := D) hT (h.w (a := 21) (k := D) (x := x) (by omega)) hD
  refine ⟨A, ?_, fA, frY.trans (frY.refl.wI (by omega)) rA⟩
  unfold rD2
  rw [ex, bWs, grd_in hD (by omega), clp (by omega), nxs, eA]
theorem rD1_f {D : Nat} (hT : TF T) (h : FC T e M) (hD : D < 4) : ∃ A, rD1 N (nI D) M = some A ∧ FC T e A ∧ frY M A := by
  obtain ⟨x, ex⟩ := newName_f (N := N) hT h
  obtain ⟨A, eA, fA, rA⟩ := rD2_f (N := N) (D := D) hT (h.wl (a := 31) (k := D) (x := x) (by omega)) hD
  refine ⟨A, ?_, fA, frY.trans (frY.refl.wL (by omega)) rA⟩
  unfold rD1
  rw [ex, bWs, grd_in hD (by omega), clp (by omega), nxs, eA]
theorem dial_C (hN : 5000 ≤ N) (hT : TF T) (h : NC T t s M) (hd : DC d M) : match aDi T d t s with
    | .ok (u, s', d') => ∃ A, Rr_readDial N M = some A ∧ NC T u s' A ∧ DC d' A ∧ frY M A
    | .error e => ∃ A, Rr_readDial N M = some A ∧ FC T e A ∧ frY M A := by
  have d4 := hd.1
  have base : Rr_readDial N M = if nI (dD d) < 4 then (bW (Rr_take N (nI 1) M) fun _ M3 => rD1 N (nI (dD d)) M3) else (bV (Rr_failForm N 2 M) fun M23 => some M23) := by
    unfold Rr_readDial
    rw [hd.2.2.2.1, nxs]
    rfl
  unfold aDi
  by_cases z : dD d < 4
  · rw [if_pos (by rw [show (4 : Int32) = nI 4 from rfl, ltP (by omega) (by omega)]; exact z)] at base
    rw [if_pos z]
    have tk := rtake_s (N := N) hT h (a := 1) (by omega)
    cases ea : aT T t 1 with
    | error e =>
      rw [ea] at tk
      obtain ⟨A, eA, fA, rA⟩ := tk
      obtain ⟨B, eB, fB, rB⟩ := rD1_f (N := N) (D := dD d) hT fA z
      exact ⟨B, by rw [base, eA, bWs, eB], fB, rA.frS.frY.trans rB⟩
    | ok u =>
      rw [ea] at tk
      obtain ⟨rfl, k0, A, eA, nA, rA⟩ := tk
      rw [eA, bWs] at base
      rw [eB_o]
      have dA := rA.frS.DC hd
      have nw := newName_s (N := N) hN hT nA dA
      unfold rD1 at base
      cases en : aNw T d (t + 1) s with
      | error e =>
        rw [en] at nw
        obtain ⟨x, B, eB, fB, rB⟩ := nw
        obtain ⟨C, eC, fC, rC⟩ := rD2_f (N := N) (D := dD d) hT (fB.wl (a := 31) (k := dD d) (x := x) (by omega)) z
        exact ⟨C, by rw [base, eB, bWs, grd_in z (by omega), clp (by omega), nxs, eC], fC, rA.frS.frY.trans (frY.trans (rB.frY.wL (by omega)) rC)⟩
      | ok n =>
        obtain ⟨w, u, s1⟩ := n
        rw [en] at nw
        obtain ⟨hw, eu, B, eB, nB, rB⟩ := nw
        rw [eB, bWs, grd_in z (by omega), clp (by omega), nxs] at base
        rw [eB_o]
        have nB1 := nB.wl (a := 31) (k := dD d) (x := lN (krd 32 w)) (by omega)
        have f1 : frY M (mWL B 31 (dD d) (lN (krd 32 w))) := (rA.frS.frY.trans rB.frY).wL (by omega)
        unfold rD2 at base
        have c1 := cell_C (N := N) (lo := 0) (hi := 23) (K := fun r13 M12 => grd (mIn (nI (dD d)) 4) (nxt (mWI M12 21 (nI (dD d)).toNatClampNeg r13) fun M15 => rD3 N (nI (dD d)) M15)) hT nB1 (by omega) (by omega)
        cases ex : aI T 0 23 u s1 with
        | error e =>
          rw [ex] at c1
          obtain ⟨x, C, eC, fC, rC⟩ := c1
          obtain ⟨E, eE, fE, rE⟩ := rD3_f (N := N) (D := dD d) hT (fC.w (a := 21) (k := dD d) (x := x) (by omega)) z
          refine ⟨E, ?_, fE, (f1.trans (rC.frY.wI (by omega))).trans rE⟩
          rw [base]
          refine eC.trans ?_
          rw [grd_in z (by omega), clp (by omega), nxs, eE]
        | ok x =>
          obtain ⟨x, u2, s2⟩ := x
          rw [ex] at c1
          obtain ⟨C, eC, nC, rC⟩ := c1
          rw [eB_o]
          have nC1 := nC.w (a := 21) (k := dD d) (x := nI x) (by omega)
          have f2 : frY M (mWI C 21 (dD d) (nI x)) := (f1.trans rC.frY).wI (by omega)
          have base2 : Rr_readDial N M = rD3 N (nI (dD d)) (mWI C 21 (dD d) (nI x)) := by
            rw [base]
            refine eC.trans ?_
            rw [grd_in z (by omega), clp (by omega), nxs]
          unfold rD3 at base2
          have c2 := cell_C (N := N) (lo := 0) (hi := 23) (K := fun r18 M17 => grd (mIn (nI (dD d)) 4) (nxt (mWI M17 22 (nI (dD d)).toNatClampNeg r18) fun M20 => nxt (mWI M20 15 7 ((M20.1 15 7) + 1)) fun M21 => some M21)) hT nC1 (by omega) (by omega)
          cases ey : aI T 0 23 u2 s2 with
          | error e =>
            rw [ey] at c2
            obtain ⟨y, E, eE, fE, rE⟩ := c2
            refine ⟨mWI (mWI E 22 (dD d) y) 15 7 ((mWI E 22 (dD d) y).1 15 7 + 1), ?_, (fE.w (by omega)).w (by omega), ((f2.trans rE.frY).wI (by omega)).wI (by omega)⟩
            rw [base2]
            refine eE.trans ?_
            rw [grd_in z (by omega), clp (by omega), nxs, nxs]
          | ok y =>
            obtain ⟨y, u3, s3⟩ := y
            rw [ey] at c2
            obtain ⟨E, eE, nE, rE⟩ := c2
            have e7 : (mWI E 22 (dD d) (nI y)).1 15 7 = nI (dD d) := by
              rw [mWI_ne (by omega), rE.1 15 7 (by omega), mWI_ne (by omega), rC.1 15 7 (by omega), mWL_I, rB.1 15 7 (by omega)]
              exact dA.2.2.2.1
            refine ⟨mWI (mWI E 22 (dD d) (nI y)) 15 7 (nI (dD d + 1)), ?_, (nE.w (by omega)).w (by omega), ?_, ((f2.trans rE.frY).wI (by omega)).wI (by omega)⟩
            · rw [base2]
              refine eE.trans ?_
              rw [grd_in z (by omega), clp (by omega), nxs, e7, nxs, show nI (dD d) + 1 = nI (dD d + 1) from nI_add _ 1]
            · obtain ⟨g1, g2, g3, g4, g5, g6, g7, g8⟩ := dA
              have k15 : ∀ j, j ≠ 7 → (mWI (mWI E 22 (dD d) (nI y)) 15 7 (nI (dD d + 1))).1 15 j = A.1 15 j := fun j hj => by
                rw [rN (by omega), mWI_ne (by omega), rE.1 15 j (by omega), mWI_ne (by omega), rC.1 15 j (by omega), mWL_I, rB.1 15 j (by omega)]
              refine ⟨by show dD d + 1 ≤ 4; omega, g2, by rw [k15 6 (by omega)]; exact g3, rI rfl, by rw [k15 8 (by omega)]; exact g5, by rw [k15 9 (by omega)]; exact g6, fun i hi => ?_, fun g hg => ?_⟩
              · have hi : i < dD d + 1 := hi
                show _ = nI (upN (dO d) (dD d) x i) ∧ _ = nI (upN (dL d) (dD d) y i) ∧ _ = lN (krd 32 (upN (dNm d) (dD d) w i)) ∧ wOk (upN (dNm d) (dD d) w i)
                by_cases q : i = dD d
                · rw [q, upN_s, upN_s, upN_s]
                  refine ⟨?_, ?_, ?_, hw⟩
                  · rw [mWI_ne (by omega), mWI_ne (by omega), rE.1 21 _ (by omega), rI rfl]
                  · rw [mWI_ne (by omega), rI rfl]
                  · rw [mWI_L, mWI_L, rE.2, mWI_L, rC.2, rL rfl]
                · rw [upN_n q, upN_n q, upN_n q]
                  obtain ⟨p1, p2, p3, p4⟩ := g7 i (by omega)
                  refine ⟨?_, ?_, ?_, p4⟩
                  · rw [mWI_ne (by omega), mWI_ne (by omega), rE.1 21 _ (by omega), rN (by omega), rC.1 21 _ (by omega), mWL_I, rB.1 21 _ (by omega)]; exact p1
                  · rw [mWI_ne (by omega), rN (by omega), rE.1 22 _ (by omega), mWI_ne (by omega), rC.1 22 _ (by omega), mWL_I, rB.1 22 _ (by omega)]; exact p2
                  · rw [mWI_L, mWI_L, rE.2, mWI_L, rC.2, rLN (by omega), rB.2]; exact p3
              · have kk : ∀ a, 23 ≤ a → a ≤ 25 → (mWI (mWI E 22 (dD d) (nI y)) 15 7 (nI (dD d + 1))).1 a g = A.1 a g := fun a q1 q2 => by
                  rw [mWI_ne (by omega), mWI_ne (by omega), rE.1 a g (by omega), mWI_ne (by omega), rC.1 a g (by omega), mWL_I, rB.1 a g (by omega)]
                rw [kk 23 (by omega) (by omega), kk 24 (by omega) (by omega), kk 25 (by omega) (by omega), mWI_L, mWI_L, rE.2, mWI_L, rC.2, rLN (by omega), rB.2]
                exact g8 g hg
  · rw [if_neg (by rw [show (4 : Int32) = nI 4 from rfl, ltP (by omega) (by omega)]; exact z)] at base
    rw [if_neg z]
    refine ⟨mWI M 14 9 2, ?_, ⟨(frR.refl.wI (by omega)).TC h.1, h.2.1, by omega, by omega, ?_, rI rfl⟩, ⟨fun a j q1 q2 q3 => rN (by omega), fun _ _ _ _ => rfl⟩⟩
    · rw [base]
      unfold Rr_failForm
      rw [if_pos h.2.2.2.1, nxs, bVs]
    · rw [rN (by omega)]; exact h.2.2.1
end
