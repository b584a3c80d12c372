/-! the model begins to read -/
def frRd (w : Nat) (M A : mS) : Prop := (∀ a j, (a < 64 ∨ a = 65 ∨ 93 ≤ a ∨ (a = 64 ∧ (j = 17 ∨ j = 18 ∨ 45 ≤ j)) ∨ ((a = 74 ∨ a = 75 ∨ a = 78 ∨ a = 82) ∧ j ≠ w) ∨ ((79 ≤ a ∧ a ≤ 81) ∧ (j < 5 * w ∨ 5 * w + 5 ≤ j)) ∨ ((a = 83 ∨ a = 84) ∧ (j < 4 * w ∨ 4 * w + 4 ≤ j)) ∨ (85 ≤ a ∧ a ≤ 89 ∧ (j < 130 * w ∨ 130 * w + 130 ≤ j)) ∨ ((a = 90 ∨ a = 91) ∧ (j < 420 * w ∨ 420 * w + 420 ≤ j))) → A.1 a j = M.1 a j) ∧ ∀ a j, a ≠ 70 → a ≠ 72 → A.2 a j = M.2 a j
theorem frRd.refl {w : Nat} {M : mS} : frRd w M M := ⟨fun _ _ _ => rfl, fun _ _ _ _ => rfl⟩
theorem frRd.trans {w : Nat} {A B C : mS} (h : frRd w A B) (g : frRd w B C) : frRd w A C := ⟨fun a j q => (g.1 a j q).trans (h.1 a j q), fun a j q1 q2 => (g.2 a j q1 q2).trans (h.2 a j q1 q2)⟩
theorem frSd.frRd {w : Nat} {M A : mS} (h : frSd w M A) : frRd w M A := ⟨fun a j q => h.1 a j (by omega), fun a j _ q => h.2 a j q⟩
theorem frRd.w64 {w : Nat} {M A : mS} (h : frRd w M A) {k : Nat} {y : Int32} (hk : k ≠ 17 ∧ k ≠ 18 ∧ k < 45) : frRd w M (mWI A 64 k y) := ⟨fun a j q => by rw [rN (by omega)]; exact h.1 a j q, h.2⟩
section
variable {N : Nat} {M : mS}
def rd3 (N : Nat) (A : mS) : Option (Int32 × mS) := nxt (mWI A 64 2 0) fun M16 => bV (Mo_cut N M16) fun M18 => nxt (mWI M18 64 11 0) fun M19 => nxt (mWI M19 64 12 0) fun M20 => nxt (mWI M20 64 13 0) fun M21 => nxt (mWI M21 64 15 0) fun M22 => nxt (mWI M22 64 19 (1 - (M22.1 64 18))) fun M23 => nxt (mWI M23 64 20 0) fun M24 => bV (Mo_plain N (M24.1 64 19) M24) fun M26 => nxt (mWI M26 64 34 (130 * (M26.1 64 19))) fun M27 => nxt (mWI M27 64 40 (420 * (M27.1 64 19))) fun M28 => Mo_read_112 N N M28
theorem copyT {n : Nat} (hn : n ≤ 2000) : ∀ {f i : Nat} {M : mS}, M.1 64 4 = nI n → i ≤ n → n < f + i → ∃ A, Mo_read_10 N f (nI i) M = rd3 N A ∧ (∀ j, i ≤ j → j < n → A.1 66 j = vp_nar .byte (M.1 65 j)) ∧ (∀ a j, (a ≠ 66 ∨ j < i) → A.1 a j = M.1 a j) ∧ A.2 = M.2 := by
  intro f
  induction f with
  | zero => intro i M h4 hi hf; omega
  | succ f ih =>
    intro i M h4 hi hf
    rw [Mo_read_10, h4]
    by_cases z : n ≤ i
    · rw [if_pos (by rw [leP (by omega) (by omega)]; exact z)]
      exact ⟨M, rfl, fun j q1 q2 => by omega, fun _ _ _ => rfl, rfl⟩
    · rw [if_neg (by rw [leP (by omega) (by omega)]; exact z), grd_in (by omega) (by omega), grd_in (by omega) (by omega), clp (by omega), nxs, show nI i + 1 = nI (i + 1) from nI_add i 1]
      obtain ⟨A, e1, e2, e3, e4⟩ := ih (i := i + 1) (M := mWI M 66 i (vp_nar .byte (M.1 65 i))) (by rw [mWI_ne (by omega)]; exact h4) (by omega) (by omega)
      refine ⟨A, e1, fun j q1 q2 => ?_, fun a j q => ?_, e4⟩
      · by_cases y : j = i
        · subst y
          rw [e3 66 j (by omega), rI rfl]
        · rw [e2 j (by omega) q2, mWI_ne (by omega)]
      · rw [e3 a j (by omega), rN (by omega)]
theorem plain31 {w : Nat} (hw : w < 2) : ∀ {f i : Nat} {M : mS}, i ≤ 4 → 4 < f + i → ∃ A, Mo_plain_31 N f (nI w) (nI i) M = some A ∧ (∀ j, i ≤ j → j < 4 → A.1 83 (4 * w + j) = 0 ∧ A.1 84 (4 * w + j) = 0) ∧ (∀ a j, ((a ≠ 83 ∧ a ≠ 84) ∨ j < 4 * w + i ∨ 4 * w + 4 ≤ j) → A.1 a j = M.1 a j) ∧ A.2 = M.2 := by
  intro f
  induction f with
  | zero => intro i M hi hf; omega
  | succ f ih =>
    intro i M hi hf
    rw [Mo_plain_31]
    by_cases z : 4 ≤ i
    · rw [if_pos (by rw [show (4 : Int32) = nI 4 from rfl, leP (by omega) (by omega)]; exact z)]
      exact ⟨M, rfl, fun j q1 q2 => by omega, fun _ _ _ => rfl, rfl⟩
    · rw [if_neg (by rw [show (4 : Int32) = nI 4 from rfl, leP (by omega) (by omega)]; exact z), show (4 : Int32) * nI w = nI (4 * w) from pk_mul 4 w, nI_add, grd_in (by omega) (by omega), clp (by omega), nxs, grd_in (by omega) (by omega), nxs, show nI i + 1 = nI (i + 1) from nI_add i 1]
      obtain ⟨A, e1, e2, e3, e4⟩ := ih (i := i + 1) (M := mWI (mWI M 83 (4 * w + i) 0) 84 (4 * w + i) 0) (by omega) (by omega)
      refine ⟨A, e1, fun j q1 q2 => ?_, fun a j q => ?_, e4⟩
      · by_cases y : j = i
        · subst y
          rw [e3 83 _ (by omega), e3 84 _ (by omega), mWI_ne (by omega), rI rfl, rI rfl]
          exact ⟨rfl, rfl⟩
        · exact e2 j (by omega) q2
      · rw [e3 a j (by omega), rN (by omega), rN (by omega)]
theorem plain_s {w : Nat} (hN : 1000 ≤ N) (hw : w < 2) : ∃ A, Mo_plain N (nI w) M = some A ∧ A.1 74 w = nI 12 ∧ A.1 75 w = 0 ∧ A.1 78 w = 0 ∧ A.1 82 w = 0 ∧ (∀ j, j < 4 → A.1 83 (4 * w + j) = 0 ∧ A.1 84 (4 * w + j) = 0) ∧ (∀ a j, ((a = 74 ∨ a = 75 ∨ a = 78 ∨ a = 82) → j ≠ w) → ((a = 83 ∨ a = 84) → j < 4 * w ∨ 4 * w + 4 ≤ j) → A.1 a j = M.1 a j) ∧ A.2 = M.2 := by
  obtain ⟨A, e1, e2, e3, e4⟩ := plain31 (N := N) (f := N) (i := 0) (M := mWI (mWI (mWI (mWI M 74 w 12) 75 w 0) 78 w 0) 82 w 0) hw (by omega) (by omega)
  refine ⟨A, ?_, ?_, ?_, ?_, ?_, fun j hj => e2 j (by omega) hj, fun a j q1 q2 => ?_, e4⟩
  · unfold Mo_plain
    rw [grd_in hw (by omega), clp (by omega), nxs, grd_in hw (by omega), nxs, grd_in hw (by omega), nxs, grd_in hw (by omega), nxs]
    exact e1
  · rw [e3 74 w (by omega), mWI_ne (by omega), mWI_ne (by omega), mWI_ne (by omega), rI rfl]; rfl
  · rw [e3 75 w (by omega), mWI_ne (by omega), mWI_ne (by omega), rI rfl]
  · rw [e3 78 w (by omega), mWI_ne (by omega), rI rfl]
  · rw [e3 82 w (by omega), rI rfl]
  · rw [e3 a j (by omega), rN (by omega), rN (by omega), rN (by omega), rN (by omega)]
theorem read_M {n c v : Nat} {b : Nat → Nat} (hN : 5000 ≤ N) (hT : TF (c, tkD n b, tkP n b, tkV n b, tkW n b)) (h2 : M.1 64 2 = nI n) (hn : n ≤ 2000) (hb : ∀ i, i < n → M.1 65 i &&& 255 = nI (b i) ∧ b i < 256) (h18 : M.1 64 18 = nI v) (hv : v < 2) (hk : ∀ k, k < 20 → M.2 71 k = kM k) : match aRd (c, tkD n b, tkP n b, tkV n b, tkW n b) 402 0 (0, 0) d0 tol0 with
    | .ok (r, tol') => ∃ A, Mo_read N M = Mo_read_134 N A ∧ KM (c, tkD n b, tkP n b, tkV n b, tkW n b) (1 - v) r.1 r.2.1 r.2.2 tol' A ∧ frRd (1 - v) M A ∧ A.1 64 2 = 0
    | .error e => ∃ A, Mo_read N M = Mo_read_134 N A ∧ FM (c, tkD n b, tkP n b, tkV n b, tkW n b) e A ∧ frRd (1 - v) M A ∧ A.1 64 2 = 0 := by
  obtain ⟨A, a1, a2, a3, a4⟩ := copyT (N := N) (f := N) (i := 0) (M := mWI M 64 4 (nI n)) hn (rI rfl) (by omega) (by omega)
  have f1 : frRd (1 - v) M A := ⟨fun a j q => by rw [a3 a j (by omega), rN (by omega)], fun a j _ _ => by rw [a4]; rfl⟩
  have tq : tpQ n b (mWI A 64 2 0) := by
    refine ⟨hn, by rw [rN (by omega), a3 64 4 (by omega), rI rfl], fun i hi => ⟨?_, (hb i hi).2⟩⟩
    rw [mWI_ne (by omega), a2 i (by omega) hi, nar_b, mWI_ne (by omega)]
    exact (hb i hi).1
  obtain ⟨B, m, eB1, tB, m4, m5, fB⟩ := cutM hN tq (fun k q => by show A.2 71 k = _; rw [a4]; exact hk k q)
  have hcm : c ≤ m := by
    apply Classical.byContradiction
    intro q
    have hc4 : c ≤ 401 := hT.2.1
    obtain ⟨q1, q2⟩ := m5 (by omega)
    have q3 : tkD n b (m - 1) < 31 := hT.2.2.2.1 (m - 1) (by show m - 1 + 1 < c; omega)
    omega
  have hTM := TM_of (c := c) tB hcm
  have b18 : B.1 64 18 = nI v := by rw [fB.1 64 18 (by omega) (by omega) (by omega) (by omega), rN (by omega), a3 64 18 (by omega), rN (by omega)]; exact h18
  have e1v : (1 : Int32) - nI v = nI (1 - v) := sbP (a := 1) (by omega)
  -- the six marks
  have hM6 : ∃ C, (∀ a j, (a ≠ 64 ∨ (j ≠ 11 ∧ j ≠ 12 ∧ j ≠ 13 ∧ j ≠ 15 ∧ j ≠ 19 ∧ j ≠ 20)) → C.1 a j = B.1 a j) ∧ C.2 = B.2 ∧ C.1 64 11 = 0 ∧ C.1 64 12 = 0 ∧ C.1 64 13 = 0 ∧ C.1 64 15 = 0 ∧ C.1 64 19 = nI (1 - v) ∧ C.1 64 20 = 0 ∧ Mo_read N M = bV (Mo_plain N (nI (1 - v)) C) fun M26 => nxt (mWI M26 64 34 (130 * (M26.1 64 19))) fun M27 => nxt (mWI M27 64 40 (420 * (M27.1 64 19))) fun M28 => Mo_read_112 N N M28 := by
    refine ⟨mWI (mWI (mWI (mWI (mWI (mWI B 64 11 0) 64 12 0) 64 13 0) 64 15 0) 64 19 (nI (1 - v))) 64 20 0, fun a j q => ?_, rfl, ?_, ?_, ?_, ?_, ?_, rI rfl, ?_⟩
    · rw [rN (by omega), rN (by omega), rN (by omega), rN (by omega), rN (by omega), rN (by omega)]
    · rw [rN (by omega), rN (by omega), rN (by omega), rN (by omega), rN (by omega), rI rfl]
    · rw [rN (by omega), rN (by omega), rN (by omega), rN (by omega), rI rfl]
    · rw [rN (by omega), rN (by omega), rN (by omega), rI rfl]
    · rw [rN (by omega), rN (by omega), rI rfl]
    · rw [rN (by omega), rI rfl]
    · unfold Mo_read
      rw [nxs, h2, show (0 : Int32) = nI 0 from rfl, a1]
      unfold rd3
      rw [nxs, eB1, bVs, nxs, nxs, nxs, nxs, rN (show (64 : Nat) ≠ 64 ∨ 18 ≠ 15 by omega), rN (show (64 : Nat) ≠ 64 ∨ 18 ≠ 13 by omega), rN (show (64 : Nat) ≠ 64 ∨ 18 ≠ 12 by omega), rN (show (64 : Nat) ≠ 64 ∨ 18 ≠ 11 by omega), b18, e1v, nxs, nxs, rN (show (64 : Nat) ≠ 64 ∨ 19 ≠ 20 by omega), rI rfl]
      rfl
  obtain ⟨C, c0, cl, c11, c12, c13, c15, c19, c20, base⟩ := hM6
  obtain ⟨D, eD, g1, g2, g3, g4, g5, g6, g7⟩ := plain_s (N := N) (M := C) (w := 1 - v) (by omega) (by omega)
  have d64 : ∀ j, D.1 64 j = C.1 64 j := fun j => g6 64 j (by omega) (by omega)
  have base2 : Mo_read N M = Mo_read_112 N N (mWI (mWI D 64 34 (nI (130 * (1 - v)))) 64 40 (nI (420 * (1 - v)))) := by
    rw [base, eD, bVs, nxs, d64, c19, show (130 : Int32) * nI (1 - v) = nI (130 * (1 - v)) from pk_mul 130 _, nxs, rN (by omega), d64, c19, show (420 : Int32) * nI (1 - v) = nI (420 * (1 - v)) from pk_mul 420 _]
  have f64 : ∀ a j, (a ≠ 64 ∨ (j ≠ 34 ∧ j ≠ 40)) → (mWI (mWI D 64 34 (nI (130 * (1 - v)))) 64 40 (nI (420 * (1 - v)))).1 a j = D.1 a j := fun a j q => by rw [rN (by omega), rN (by omega)]
  have fA : frRd (1 - v) M (mWI (mWI D 64 34 (nI (130 * (1 - v)))) 64 40 (nI (420 * (1 - v)))) := by
    refine f1.trans ⟨fun a j q => ?_, fun a j q1 q2 => ?_⟩
    · rw [f64 a j (by omega), g6 a j (by omega) (by omega), c0 a j (by omega), fB.1 a j (by omega) (by omega) (by omega) (by omega), rN (by omega)]
    · show D.2 a j = A.2 a j
      rw [g7, cl, fB.2 a j q1]; rfl
  have hTM2 : TM (c, tkD n b, tkP n b, tkV n b, tkW n b) (mWI (mWI D 64 34 (nI (130 * (1 - v)))) 64 40 (nI (420 * (1 - v)))) := by
    intro i hi
    have := hTM i hi
    have fx : ∀ a j, 65 ≤ a → a ≤ 70 → (mWI (mWI D 64 34 (nI (130 * (1 - v)))) 64 40 (nI (420 * (1 - v)))).1 a j = B.1 a j := fun a j q1 q2 => by rw [f64 a j (by omega), g6 a j (by omega) (by omega), c0 a j (by omega)]
    rw [fx 67 i (by omega) (by omega), fx 68 i (by omega) (by omega), fx 69 i (by omega) (by omega), show (mWI (mWI D 64 34 (nI (130 * (1 - v)))) 64 40 (nI (420 * (1 - v)))).2 70 i = B.2 70 i by show D.2 70 i = _; rw [g7, cl]]
    exact this
  have k0 : KM (c, tkD n b, tkP n b, tkV n b, tkW n b) (1 - v) 0 (0, 0) d0 tol0 (mWI (mWI D 64 34 (nI (130 * (1 - v)))) 64 40 (nI (420 * (1 - v)))) := by
    have hc1 : 1 ≤ c := hT.1
    refine ⟨⟨hTM2, by show 0 < c; omega, by rw [f64 64 11 (by omega), d64]; exact c11, by rw [f64 64 13 (by omega), d64]; exact c13, by rw [f64 64 15 (by omega), d64]; exact c15, by show 0 ≤ 5; omega, fun q => absurd rfl q⟩, ⟨by omega, by rw [f64 64 19 (by omega), d64]; exact c19, by decide, by decide, by rw [f64 74 _ (by omega)]; exact g1, by rw [f64 75 _ (by omega)]; exact g2, by rw [f64 78 _ (by omega)]; exact g3, by rw [f64 82 _ (by omega)]; exact g4, (fun i hi => absurd hi (Nat.not_lt_zero i)), (fun i hi => absurd hi (Nat.not_lt_zero i)), (fun _ i hi => absurd hi (Nat.not_lt_zero i)), fun _ => [], fun _ => 0, by rw [f64 64 20 (by omega), d64]; exact c20, (fun i hi => absurd hi (Nat.not_lt_zero i)), (fun i hi => absurd hi (Nat.not_lt_zero i)), (fun i hi => absurd hi (Nat.not_lt_zero i))⟩, by rw [f64 64 12 (by omega), d64]; exact c12, 130 * (1 - v), 420 * (1 - v), by rw [rN (by omega), rI rfl], rI rfl, Nat.le_refl _, by omega, Nat.le_refl _, by omega, fun k hk => ?_⟩
    exact ⟨by rw [f64 83 _ (by omega)]; exact (g5 k hk).1, by rw [f64 84 _ (by omega)]; exact (g5 k hk).2⟩
  have go := read_l (N := N) (n := 402) (f := N) hN hT k0 (by omega) (by omega)
  have z2 : ∀ E : mS, frSd (1 - v) (mWI (mWI D 64 34 (nI (130 * (1 - v)))) 64 40 (nI (420 * (1 - v)))) E → E.1 64 2 = 0 := fun E fE => by
    rw [fE.1 64 2 (by omega), f64 64 2 (by omega), d64, c0 64 2 (by omega), fB.1 64 2 (by omega) (by omega) (by omega) (by omega), rI rfl]
  rw [base2]
  cases el : aRd (c, tkD n b, tkP n b, tkV n b, tkW n b) 402 0 (0, 0) d0 tol0 with
  | error e =>
    rw [el] at go
    obtain ⟨E, e1, e2, e3⟩ := go
    exact ⟨E, e1, e2, fA.trans e3.frRd, z2 E e3⟩
  | ok r =>
    obtain ⟨r, tol'⟩ := r
    rw [el] at go
    obtain ⟨E, e1, e2, e3⟩ := go
    exact ⟨E, e1, e2, fA.trans e3.frRd, z2 E e3⟩
end
