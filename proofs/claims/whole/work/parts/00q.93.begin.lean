/-! a text without fault of sense has all within its bounds -/
def dOk (d : drf) : Prop := 2 ≤ dH d ∧ dH d ≤ 24 ∧ dD d ≤ 4 ∧ dG d ≤ 5 ∧ dS d ≤ 9999 ∧ (∀ i, i < dD d → dO d i ≤ 23 ∧ dL d i ≤ 23) ∧ ∀ g, g < dG d → dA d g < dD d ∧ dF d g ≤ 23 ∧ 1 ≤ dY d g ∧ dY d g ≤ 24
section
variable {T : ctx} {t : Nat} {s : Nat × Nat} {d : drf}
theorem aI_ok {lo hi : Nat} {r : Nat × Nat × (Nat × Nat)} (h : aI T lo hi t s = .ok r) (hz : r.2.2.1 = 0) : s.1 = 0 ∧ lo ≤ r.1 ∧ r.1 ≤ hi := by
  refine ⟨aI_z (x := r.1) (u := r.2.1) (s' := r.2.2) h hz, ?_⟩
  unfold aI at h
  cases ea : aT T t 21 with
  | error e => rw [ea] at h; cases h
  | ok w =>
    rw [ea] at h
    have h : Except.ok (cV T t, w, if lo ≤ cV T t ∧ cV T t ≤ hi then s else sAdd s 5 (cP T t)) = (Except.ok r : Except (Nat × Nat) _) := h
    injection h with h
    rw [← h] at hz ⊢
    dsimp only at hz ⊢
    by_cases z : lo ≤ cV T t ∧ cV T t ≤ hi
    · exact z
    · rw [if_neg z] at hz
      exact absurd hz (sAdd_z (by omega))
theorem aKn_ok {r : Nat × Nat × (Nat × Nat)} (h : aKn T d t s = .ok r) (hz : r.2.2.1 = 0) : s.1 = 0 ∧ r.1 < dD d := by
  refine ⟨aKn_z (x := r.1) (u := r.2.1) (s' := r.2.2) h hz, ?_⟩
  unfold aKn at h
  cases ea : aT T t 20 with
  | error e => rw [ea] at h; cases h
  | ok w =>
    rw [ea] at h
    have h : (if fnd (dNm d) (dD d) (cW T t) < dD d then Except.ok (fnd (dNm d) (dD d) (cW T t), w, s) else Except.ok (0, w, sAdd s 4 (cP T t))) = (Except.ok r : Except (Nat × Nat) _) := h
    by_cases z : fnd (dNm d) (dD d) (cW T t) < dD d
    · rw [if_pos z] at h
      injection h with h
      rw [← h]; exact z
    · rw [if_neg z] at h
      injection h with h
      rw [← h] at hz
      exact absurd hz (sAdd_z (by omega))
theorem aNw_ok {r : List Nat × Nat × (Nat × Nat)} (h : aNw T d t s = .ok r) (hz : r.2.2.1 = 0) : s.1 = 0 := ((aNw_z (w := r.1) (u := r.2.1) (s' := r.2.2) h).2 hz).1
theorem aHo_ok {r : tst} (h : aHo T d t s = .ok r) (hd : s.1 = 0 → dOk d) (hz : r.2.1.1 = 0) : dOk r.2.2 := by
  unfold aHo at h
  obtain ⟨t1, h1, h⟩ := eB_ok h
  obtain ⟨x, h2, h⟩ := eB_ok h
  injection h with h
  rw [← h] at hz ⊢
  obtain ⟨q0, q1, q2⟩ := aI_ok h2 hz
  obtain ⟨a1, a2, a3, a4, a5, a6, a7⟩ := hd q0
  exact ⟨q1, q2, a3, a4, a5, a6, a7⟩
theorem aSe_ok {r : tst} (h : aSe T d t s = .ok r) (hd : s.1 = 0 → dOk d) (hz : r.2.1.1 = 0) : dOk r.2.2 := by
  unfold aSe at h
  obtain ⟨t1, h1, h⟩ := eB_ok h
  obtain ⟨x, h2, h⟩ := eB_ok h
  injection h with h
  rw [← h] at hz ⊢
  obtain ⟨q0, q1, q2⟩ := aI_ok h2 hz
  obtain ⟨a1, a2, a3, a4, a5, a6, a7⟩ := hd q0
  exact ⟨a1, a2, a3, a4, q2, a6, a7⟩
theorem aDi_ok {r : tst} (h : aDi T d t s = .ok r) (hd : s.1 = 0 → dOk d) (hz : r.2.1.1 = 0) : dOk r.2.2 := by
  unfold aDi at h
  split at h
  · next z =>
    obtain ⟨t1, h1, h⟩ := eB_ok h
    obtain ⟨n, h2, h⟩ := eB_ok h
    obtain ⟨x, h3, h⟩ := eB_ok h
    obtain ⟨y, h4, h⟩ := eB_ok h
    injection h with h
    rw [← h] at hz ⊢
    obtain ⟨q0, q1, q2⟩ := aI_ok h4 hz
    obtain ⟨p0, p1, p2⟩ := aI_ok h3 q0
    have o0 := aNw_ok h2 p0
    obtain ⟨a1, a2, a3, a4, a5, a6, a7⟩ := hd o0
    refine ⟨a1, a2, by show dD d + 1 ≤ 4; omega, a4, a5, fun i hi => ?_, fun g hg => ?_⟩
    · have hi : i < dD d + 1 := hi
      show upN (dO d) (dD d) x.1 i ≤ 23 ∧ upN (dL d) (dD d) y.1 i ≤ 23
      by_cases w : i = dD d
      · rw [w, upN_s, upN_s]; exact ⟨p2, q2⟩
      · rw [upN_n w, upN_n w]; exact a6 i (by omega)
    · obtain ⟨w1, w2⟩ := a7 g hg
      exact ⟨by show dA d g < dD d + 1; omega, w2⟩
  · cases h
theorem aGo_ok {r : tst} (h : aGo T d t s = .ok r) (hd : s.1 = 0 → dOk d) (hz : r.2.1.1 = 0) : dOk r.2.2 := by
  unfold aGo at h
  split at h
  · next z =>
    obtain ⟨t1, h1, h⟩ := eB_ok h
    obtain ⟨n, h2, h⟩ := eB_ok h
    obtain ⟨k, h5, h⟩ := eB_ok h
    obtain ⟨x, h3, h⟩ := eB_ok h
    obtain ⟨y, h4, h⟩ := eB_ok h
    injection h with h
    rw [← h] at hz ⊢
    obtain ⟨q0, q1, q2⟩ := aI_ok h4 hz
    obtain ⟨p0, p1, p2⟩ := aI_ok h3 q0
    obtain ⟨m0, m1⟩ := aKn_ok h5 p0
    have o0 := aNw_ok h2 m0
    obtain ⟨a1, a2, a3, a4, a5, a6, a7⟩ := hd o0
    refine ⟨a1, a2, a3, by show dG d + 1 ≤ 5; omega, a5, a6, fun g hg => ?_⟩
    have hg : g < dG d + 1 := hg
    show upN (dA d) (dG d) k.1 g < dD d ∧ upN (dF d) (dG d) x.1 g ≤ 23 ∧ 1 ≤ upN (dY d) (dG d) y.1 g ∧ upN (dY d) (dG d) y.1 g ≤ 24
    by_cases w : g = dG d
    · rw [w, upN_s, upN_s, upN_s]; exact ⟨m1, p2, q1, q2⟩
    · rw [upN_n w, upN_n w, upN_n w]; exact a7 g (by omega)
  · cases h
theorem aTell_ok {tol : bok} {r : tst × bok} (h : aTell T d tol t s = .ok r) (hd : s.1 = 0 → dOk d) : r.1.2.1.1 = 0 → dOk r.1.2.2 := by
  intro hz
  have hh : ∀ {x : Except (Nat × Nat) tst}, (eB (aEnd T x) fun r => Except.ok (r, tol)) = .ok r → (∀ r, x = .ok r → r.2.1.1 = 0 → dOk r.2.2) → dOk r.1.2.2 := by
    intro x hx hu
    obtain ⟨r1, h1, hx⟩ := eB_ok hx
    injection hx with hx
    unfold aEnd at h1
    obtain ⟨r0, h2, h1⟩ := eB_ok h1
    obtain ⟨w, h3, h1⟩ := eB_ok h1
    injection h1 with h1
    rw [← hx, ← h1] at hz ⊢
    exact hu r0 h2 hz
  unfold aTell at h
  split at h
  · exact hh h (fun r q => aHo_ok q hd)
  · split at h
    · exact hh h (fun r q => aDi_ok q hd)
    · split at h
      · exact hh h (fun r q => aGo_ok q hd)
      · split at h
        · exact hh h (fun r q => aSe_ok q hd)
        · split at h
          · obtain ⟨t1, h1, h⟩ := eB_ok h
            obtain ⟨x, h2, h⟩ := eB_ok h
            obtain ⟨u, h3, h⟩ := eB_ok h
            injection h with h
            rw [← h] at hz ⊢
            exact hd hz
          · cases h
end
theorem aRd_ok {T : ctx} : ∀ {n t : Nat} {s : Nat × Nat} {d : drf} {tol : bok} {r : tst × bok}, aRd T n t s d tol = .ok r → (s.1 = 0 → dOk d) → r.1.2.1.1 = 0 → dOk r.1.2.2 := by
  intro n
  induction n with
  | zero => intro t s d tol r h; cases h
  | succ n ih =>
    intro t s d tol r h hd
    rw [aRd] at h
    split at h
    · injection h with h
      rw [← h]; exact hd
    · obtain ⟨x, h1, h⟩ := eB_ok h
      exact ih h (aTell_ok h1 hd)
/-! the class begins to read -/
def d0 : drf := (12, 0, 0, 0, fun _ => 0, fun _ => 0, fun _ => 0, fun _ => 0, fun _ => 0, fun _ => [], fun _ => [])
def tol0 : bok := fun _ => none
theorem d0_ok : dOk d0 := ⟨by decide, by decide, by decide, by decide, by decide, (fun i hi => absurd hi (Nat.not_lt_zero i)), (fun i hi => absurd hi (Nat.not_lt_zero i))⟩
theorem zand (y : Int32) : 0 &&& y = 0 := by
  apply b_ext; intro i _; rw [b_and, b_0]; rfl
section
variable {N : Nat} {M : mS}
theorem short_s {k a0 a1 z : Nat} (hk : k < 4) (h4 : M.1 16 4 = nI z) (hz : z ≤ 400) (h5 : M.1 16 5 = 0) (h0 : a0 < 8) (h1 : a1 ≤ 9999) (hc : chO a0 a1 = false) : ∃ A, La_putShort N (nI k) (nI a0) (nI a1) M = some A ∧ A.1 16 4 = nI (z + 2) ∧ A.1 16 5 = 0 ∧ A.1 19 k = nI z ∧ A.1 18 z = nI (a1 * 8 + a0) ∧ A.1 18 (z + 1) = nI 7 ∧ (∀ j, j < z → A.1 18 j = M.1 18 j) ∧ (∀ j, j ≠ k → A.1 19 j = M.1 19 j) ∧ (∀ a j, a ≠ 16 → a ≠ 18 → a ≠ 19 → A.1 a j = M.1 a j) ∧ A.2 = M.2 := by
  obtain ⟨B, eB1, b1, b2, b3, b4, b5⟩ := open_s (N := N) (M := M) hk
  rw [h5, zand] at b3
  have cB : cdF z [] 0 ((1 : Int32) <<< (nI k &&& 31)) B := ⟨⟨by rw [b4 16 4 (by omega) (by omega)]; exact h4, fun i x hx => by cases hx⟩, by rw [b1], by rw [b3]; rfl⟩
  obtain ⟨C, eC, cC, c18, c5, fC⟩ := lputF (N := N) (a0 := a0) (a1 := a1) cB (show z + 0 < 408 by omega) h0 h1
  obtain ⟨D, eD, cD, d18, d5, fD⟩ := lputF (N := N) (a0 := 7) (a1 := 0) cC (show z + 1 < 408 by omega) (by omega) (by omega)
  have nl : chL ([] ++ [(a0, a1)] ++ [(7, 0)]) = false := by
    show (chO a0 a1 || (chO 7 0 || false)) = false
    rw [hc]; rfl
  refine ⟨D, ?_, cD.1.1, ?_, ?_, ?_, ?_, fun j hj => ?_, fun j hj => ?_, fun a j q1 q2 q3 => ?_, ?_⟩
  · unfold La_putShort
    rw [eB1, bVs, eC, bWs, show (7 : Int32) = nI 7 from rfl, show (0 : Int32) = nI 0 from rfl, eD, bWs]
  · rw [cD.2.2, nl]; rfl
  · rw [fD.1 19 k (by omega) (by omega) (by omega), fC.1 19 k (by omega) (by omega) (by omega), b2]; exact h4
  · exact cD.1.2 0 (a0, a1) rfl
  · exact cD.1.2 1 (7, 0) rfl
  · rw [d18 j hj, c18 j hj, b4 18 j (by omega) (by omega)]
  · rw [fD.1 19 j (by omega) (by omega) (by omega), fC.1 19 j (by omega) (by omega) (by omega), b4 19 j (by omega) (by omega)]
  · by_cases z14 : a = 14 ∧ j = 5
    · obtain ⟨rfl, rfl⟩ := z14
      rw [d5, c5, b4 14 5 (by omega) (by omega)]
    · rw [fD.1 a j (by omega) (by omega) (by omega), fC.1 a j (by omega) (by omega) (by omega), b4 a j (by omega) (by omega)]
  · rw [fD.2, fC.2, b5]
theorem clear_s : ∃ A, Ga_clear N M = some A ∧ DC d0 A ∧ BD 16 18 19 tol0 8 A ∧ (∀ a j, a ≠ 15 → a ≠ 16 → a ≠ 18 → a ≠ 19 → A.1 a j = M.1 a j) ∧ A.2 = M.2 := by
  obtain ⟨A1, e1, a4, a5, a6, a7, a8, a9, a10, a11, a12⟩ := short_s (N := N) (M := mWI (mWI M 16 4 0) 16 5 0) (k := 0) (a0 := 0) (a1 := 1) (z := 0) (by omega) (by rw [rN (by omega), rI rfl]; rfl) (by omega) (rI rfl) (by omega) (by omega) rfl
  obtain ⟨A2, e2, b4, b5, b6, b7, b8, b9, b10, b11, b12⟩ := short_s (N := N) (k := 1) (a0 := 1) (a1 := 4) (by omega) a4 (by omega) a5 (by omega) (by omega) rfl
  obtain ⟨A3, e3, c4, c5, c6, c7, c8, c9, c10, c11, c12⟩ := short_s (N := N) (k := 2) (a0 := 0) (a1 := 1) (by omega) b4 (by omega) b5 (by omega) (by omega) rfl
  obtain ⟨A4, e4, d4, d5, d6, d7, d8, d9, d10, d11, d12⟩ := short_s (N := N) (k := 3) (a0 := 0) (a1 := 0) (by omega) c4 (by omega) c5 (by omega) (by omega) rfl
  have hcd : ∀ (a1 a0 p : Nat) (A : mS), A.1 18 p = nI (a1 * 8 + a0) → A.1 18 (p + 1) = nI 7 → cdC 18 p [(a0, a1), (7, 0)] A := by
    intro a1 a0 p A h1 h2 i x hx
    cases i with
    | zero =>
      have e : (a0, a1) = x := Option.some.inj hx
      rw [← e]; exact h1
    | succ i =>
      cases i with
      | zero =>
        have e : (7, 0) = x := Option.some.inj hx
        rw [← e]; exact h2
      | succ i => cases hx
  have hB : BD 16 18 19 tol0 8 A4 := by
    refine ⟨d4, fun k hk => ?_⟩
    have hk4 : k = 0 ∨ k = 1 ∨ k = 2 ∨ k = 3 := by omega
    refine ⟨dfl_ok k, ?_, ?_⟩
    · rw [d5, b_0]
      rcases hk4 with rfl | rfl | rfl | rfl <;> rfl
    · rcases hk4 with rfl | rfl | rfl | rfl
      · refine ⟨0, by rw [d10 0 (by omega), c10 0 (by omega), b10 0 (by omega)]; exact a6, by decide, hcd 1 0 0 A4 ?_ ?_⟩
        · rw [d9 0 (by omega), c9 0 (by omega), b9 0 (by omega)]; exact a7
        · rw [d9 _ (by omega), c9 _ (by omega), b9 _ (by omega)]; exact a8
      · refine ⟨2, by rw [d10 1 (by omega), c10 1 (by omega)]; exact b6, by decide, hcd 4 1 2 A4 ?_ ?_⟩
        · rw [d9 _ (by omega), c9 _ (by omega)]; exact b7
        · rw [d9 _ (by omega), c9 _ (by omega)]; exact b8
      · refine ⟨4, by rw [d10 2 (by omega)]; exact c6, by decide, hcd 1 0 4 A4 ?_ ?_⟩
        · rw [d9 _ (by omega)]; exact c7
        · rw [d9 _ (by omega)]; exact c8
      · exact ⟨6, d6, by decide, hcd 0 0 6 A4 d7 d8⟩
  refine ⟨mWI (mWI (mWI (mWI A4 15 6 12) 15 7 0) 15 8 0) 15 9 0, ?_, ⟨by decide, by decide, ?_, ?_, ?_, rI rfl, (fun i hi => absurd hi (Nat.not_lt_zero i)), (fun i hi => absurd hi (Nat.not_lt_zero i))⟩, BD_fr hB (fun a j q => by rw [mWI_ne (by omega), mWI_ne (by omega), mWI_ne (by omega), mWI_ne (by omega)]), fun a j q1 q2 q3 q4 => ?_, ?_⟩
  · unfold Ga_clear La_clear
    have e1 : La_putShort N 0 0 1 (mWI (mWI M 16 4 0) 16 5 0) = some A1 := e1
    have e2 : La_putShort N 1 1 4 A1 = some A2 := e2
    have e3 : La_putShort N 2 0 1 A2 = some A3 := e3
    have e4 : La_putShort N 3 0 0 A3 = some A4 := e4
    rw [nxs, nxs, e1, bVs, e2, bVs, e3, bVs, e4, bVs, bVs, nxs, nxs, nxs, nxs]
  · rw [rN (by omega), rN (by omega), rN (by omega), rI rfl]; rfl
  · rw [rN (by omega), rN (by omega), rI rfl]; rfl
  · rw [rN (by omega), rI rfl]; rfl
  · rw [mWI_ne q1, mWI_ne q1, mWI_ne q1, mWI_ne q1, d11 a j q2 q3 q4, c11 a j q2 q3 q4, b11 a j q2 q3 q4, a11 a j q2 q3 q4, mWI_ne q2, mWI_ne q2]
  · show A4.2 = M.2
    rw [d12, c12, b12, a12]; rfl
/-- the class reads a tape: what its loop comes to -/
theorem check_C {n : Nat} {b : Nat → Nat} (hN : 5000 ≤ N) (h : tpB n b M) (hk : ∀ k, k < 20 → M.2 27 k = kC k) : ∃ c, TF (c, tkD n b, tkP n b, tkV n b, tkW n b) ∧ (match aRd (c, tkD n b, tkP n b, tkV n b, tkW n b) 402 0 (0, 0) d0 tol0 with
    | .ok (r, tol') => ∃ A, Rr_check N M = Rr_check_72 N A ∧ KC (c, tkD n b, tkP n b, tkV n b, tkW n b) r.1 r.2.1 r.2.2 tol' A ∧ (∀ a j, (a < 14 ∨ 34 ≤ a) → A.1 a j = M.1 a j) ∧ ∀ a j, a ≠ 30 → a ≠ 31 → a ≠ 32 → A.2 a j = M.2 a j
    | .error e => ∃ A, Rr_check N M = Rr_check_72 N A ∧ FC (c, tkD n b, tkP n b, tkV n b, tkW n b) e A ∧ (∀ a j, (a < 14 ∨ 34 ≤ a) → A.1 a j = M.1 a j) ∧ ∀ a j, a ≠ 30 → a ≠ 31 → a ≠ 32 → A.2 a j = M.2 a j) := by
  obtain ⟨A, c, eA, tA, c1, c2, c3, c4, fA⟩ := cutC hN h hk
  have hT := TF_of (n := n) (b := b) h.1 c1 c2 c3 c4
  refine ⟨c, hT, ?_⟩
  obtain ⟨B, eB1, dB, bB, fB, lB⟩ := clear_s (N := N) (M := A)
  have hTC := TC_of tA
  have f14 : ∀ a j, a ≠ 14 → (mWI (mWI (mWI B 14 8 0) 14 9 0) 14 10 0).1 a j = B.1 a j := fun a j q => by rw [mWI_ne q, mWI_ne q, mWI_ne q]
  have fR : frR A (mWI (mWI (mWI B 14 8 0) 14 9 0) 14 10 0) := ⟨fun a j q => by rw [f14 a j (by omega), fB a j (by omega) (by omega) (by omega) (by omega)], fun a j _ _ => by show B.2 a j = A.2 a j; rw [lB]⟩
  have k0 : KC (c, tkD n b, tkP n b, tkV n b, tkW n b) 0 (0, 0) d0 tol0 (mWI (mWI (mWI B 14 8 0) 14 9 0) 14 10 0) := ⟨⟨fR.TC hTC, by show 0 < c; omega, by rw [rN (by omega), rN (by omega), rI rfl]; rfl, by rw [rN (by omega), rI rfl], rI rfl, by show 0 ≤ 5; omega, fun q => absurd rfl q⟩, DC_fr dB (fun a j q => f14 a j (by omega)) (fun a j _ => rfl), 8, BD_fr bB (fun a j q => f14 a j (by omega)), by omega⟩
  have base : Rr_check N M = Rr_check_32 N N (nI 0) (mWI (mWI (mWI B 14 8 0) 14 9 0) 14 10 0) := by
    unfold Rr_check
    rw [eA, bVs, eB1, bVs, nxs, nxs, nxs]; rfl
  have go := check_l (N := N) (n := 402) (i := 0) (f := N) hN hT k0 (Nat.le_refl _) (by omega) (by omega)
  rw [base]
  have fr : ∀ C : mS, frR (mWI (mWI (mWI B 14 8 0) 14 9 0) 14 10 0) C → (∀ a j, (a < 14 ∨ 34 ≤ a) → C.1 a j = M.1 a j) ∧ ∀ a j, a ≠ 30 → a ≠ 31 → a ≠ 32 → C.2 a j = M.2 a j := by
    intro C fC
    refine ⟨fun a j q => ?_, fun a j q1 q2 q3 => ?_⟩
    · rw [fC.1 a j (by omega), fR.1 a j (by omega), fA.1 a j (by omega) (by omega) (by omega)]
    · rw [fC.2 a j q2 q3, fR.2 a j q2 q3, fA.2 a j q1]
  cases el : aRd (c, tkD n b, tkP n b, tkV n b, tkW n b) 402 0 (0, 0) d0 tol0 with
  | error e =>
    rw [el] at go
    obtain ⟨C, e1, e2, e3⟩ := go
    exact ⟨C, e1, e2, fr C e3⟩
  | ok r =>
    obtain ⟨r, tol'⟩ := r
    rw [el] at go
    obtain ⟨C, e1, e2, e3⟩ := go
    exact ⟨C, e1, e2, fr C e3⟩
end
