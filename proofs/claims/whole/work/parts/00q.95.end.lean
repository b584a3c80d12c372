/-! the end of a reading: the class settles, takes over, starts -/
def rsV (a b : Int32) : Int32 := if 0 < b then (if 0 ≤ a - a / b * b then a - a / b * b else a - a / b * b + b) else 0
theorem rest_v {N : Nat} {a b : Int32} {M : mS} : Md_rest N a b M = some (rsV a b) := by
  unfold Md_rest rsV
  by_cases h : 0 < b
  · rw [if_pos h, if_pos h]
    have hb : ¬ b = 0 := by
      intro q
      rw [q] at h
      exact absurd h (by decide)
    unfold nz
    rw [if_neg hb, nxs]
    split <;> rfl
  · rw [if_neg h, if_neg h]
theorem rsV_n {a b : Nat} (ha : a < 2147483648) (hb : 0 < b) (hb2 : b < 2147483648) : rsV (nI a) (nI b) = nI (a % b) := by
  have h := rest_s (N := 0) (M := (fun _ _ => 0, fun _ _ => 0)) ha hb hb2
  rw [rest_v] at h
  exact Option.some.inj h
section
variable {N : Nat}
theorem settle53 : ∀ {f i : Nat} {M : mS}, i ≤ 5 → 5 < f + i → ∃ A, Ga_settle_53 N f (nI i) M = some A ∧ (∀ j, i ≤ j → j < 5 → A.1 24 j = rsV (M.1 24 j) (M.1 15 6)) ∧ (∀ a j, (a ≠ 24 ∨ j < i) → A.1 a j = M.1 a j) ∧ A.2 = M.2 := by
  intro f
  induction f with
  | zero => intro i M h1 h2; omega
  | succ f ih =>
    intro i M h1 h2
    rw [Ga_settle_53]
    by_cases z : 5 ≤ i
    · rw [if_pos (by rw [show (5 : Int32) = nI 5 from rfl, leP (by omega) (by omega)]; exact z)]
      exact ⟨M, rfl, fun j q1 q2 => by omega, fun _ _ _ => rfl, rfl⟩
    · rw [if_neg (by rw [show (5 : Int32) = nI 5 from rfl, leP (by omega) (by omega)]; exact z), grd_in (by omega) (by omega), rest_v, bRs, grd_in (by omega) (by omega), clp (by omega), nxs, show nI i + 1 = nI (i + 1) from nI_add i 1]
      obtain ⟨A, e1, e2, e3, e4⟩ := ih (i := i + 1) (M := mWI M 24 i (rsV (M.1 24 i) (M.1 15 6))) (by omega) (by omega)
      refine ⟨A, e1, fun j q1 q2 => ?_, fun a j q => by rw [e3 a j (by omega), rN (by omega)], e4⟩
      by_cases y : j = i
      · subst y; rw [e3 24 j (by omega), rI rfl]
      · rw [e2 j (by omega) q2, rN (by omega), mWI_ne (by omega)]
theorem settle2 (hN : 1000 ≤ N) : ∀ {f i : Nat} {M : mS}, i ≤ 4 → 4 < f + i → ∃ A, Ga_settle_2 N f (nI i) M = some A ∧ (∀ j, i ≤ j → j < 4 → A.1 21 j = rsV (M.1 21 j) (M.1 15 6) ∧ A.1 22 j = rsV (M.1 22 j) (M.1 15 6)) ∧ (∀ j, j < 5 → A.1 24 j = rsV (M.1 24 j) (M.1 15 6)) ∧ (∀ a j, a ≠ 24 → ((a ≠ 21 ∧ a ≠ 22) ∨ j < i) → A.1 a j = M.1 a j) ∧ A.2 = M.2 := by
  intro f
  induction f with
  | zero => intro i M h1 h2; omega
  | succ f ih =>
    intro i M h1 h2
    rw [Ga_settle_2]
    by_cases z : 4 ≤ i
    · rw [if_pos (by rw [show (4 : Int32) = nI 4 from rfl, leP (by omega) (by omega)]; exact z)]
      obtain ⟨A, e1, e2, e3, e4⟩ := settle53 (N := N) (f := N) (i := 0) (M := M) (by omega) (by omega)
      exact ⟨A, e1, fun j q1 q2 => by omega, fun j q => e2 j (by omega) q, fun a j q1 q2 => e3 a j (by omega), e4⟩
    · rw [if_neg (by rw [show (4 : Int32) = nI 4 from rfl, leP (by omega) (by omega)]; exact z), grd_in (by omega) (by omega), rest_v, bRs, grd_in (by omega) (by omega), clp (by omega), nxs, grd_in (by omega) (by omega), rest_v, bRs, grd_in (by omega) (by omega), nxs, show nI i + 1 = nI (i + 1) from nI_add i 1, mWI_ne (show (22 : Nat) ≠ 21 by omega), mWI_ne (show (15 : Nat) ≠ 21 by omega)]
      obtain ⟨A, e1, e2, e3, e4, e5⟩ := ih (i := i + 1) (M := mWI (mWI M 21 i (rsV (M.1 21 i) (M.1 15 6))) 22 i (rsV (M.1 22 i) (M.1 15 6))) (by omega) (by omega)
      refine ⟨A, e1, fun j q1 q2 => ?_, fun j q => ?_, fun a j q1 q2 => by rw [e4 a j q1 (by omega), rN (by omega), rN (by omega)], e5⟩
      · by_cases y : j = i
        · subst y
          rw [e4 21 j (by omega) (by omega), e4 22 j (by omega) (by omega), mWI_ne (by omega), rI rfl, rI rfl]
          exact ⟨rfl, rfl⟩
        · obtain ⟨w1, w2⟩ := e2 j (by omega) q2
          rw [w1, w2, mWI_ne (show (21 : Nat) ≠ 22 by omega), rN (by omega), mWI_ne (show (15 : Nat) ≠ 22 by omega), mWI_ne (show (15 : Nat) ≠ 21 by omega), rN (by omega), mWI_ne (show (22 : Nat) ≠ 21 by omega)]
          exact ⟨rfl, rfl⟩
      · rw [e3 j q, mWI_ne (by omega), mWI_ne (by omega), mWI_ne (show (15 : Nat) ≠ 22 by omega), mWI_ne (show (15 : Nat) ≠ 21 by omega)]
theorem c72_s {M : mS} (hN : 1000 ≤ N) : ∃ A, Rr_check_72 N M = (if M.1 14 9 = 0 then some (M.1 14 10, A) else some (M.1 14 9, A)) ∧ (∀ j, j < 4 → A.1 21 j = rsV (M.1 21 j) (M.1 15 6) ∧ A.1 22 j = rsV (M.1 22 j) (M.1 15 6)) ∧ (∀ j, j < 5 → A.1 24 j = rsV (M.1 24 j) (M.1 15 6)) ∧ (∀ a j, a ≠ 24 → a ≠ 21 → a ≠ 22 → A.1 a j = M.1 a j) ∧ A.2 = M.2 := by
  obtain ⟨A, e1, e2, e3, e4, e5⟩ := settle2 (N := N) hN (f := N) (i := 0) (M := M) (by omega) (by omega)
  refine ⟨A, ?_, fun j q => e2 j (by omega) q, e3, fun a j q1 q2 q3 => e4 a j q1 (by omega), e5⟩
  have e1 : Ga_settle N M = some A := e1
  unfold Rr_check_72
  rw [e1, bVs, e4 14 9 (by omega) (by omega), e4 14 10 (by omega) (by omega)]
/-! copies -/
theorem cp_in {f g : Nat → Int32} {sp dp n k : Nat} (h : dp ≤ k ∧ k < dp + n) : va_cpy f g sp dp n k = f (sp + (k - dp)) := if_pos h
theorem cp_out {f g : Nat → Int32} {sp dp n k : Nat} (h : ¬ (dp ≤ k ∧ k < dp + n)) : va_cpy f g sp dp n k = g k := if_neg h
theorem cp_0 {f g : Nat → Int32} {n j : Nat} (h : j < n) : va_cpy f g 0 0 n j = f j := by rw [cp_in (by omega), show 0 + (j - 0) = j by omega]
theorem cp_at {f g : Nat → Int32} {dp n j : Nat} (h : j < n) : va_cpy f g 0 dp n (dp + j) = f j := by rw [cp_in (by omega), show 0 + (dp + j - dp) = j by omega]
theorem rWN {M : mS} {a b j : Nat} {g : Nat → Int32} (h : b ≠ a) : (mWW M a g).1 b j = M.1 b j := by rw [mWW_ne h]
theorem takeOver_s {M : mS} : ∃ A, Ga_takeOver N M = some A ∧ A.1 4 4 = M.1 16 4 ∧ A.1 4 5 = M.1 16 5 ∧ (∀ j, j < 408 → A.1 6 j = M.1 18 j) ∧ (∀ j, j < 4 → A.1 7 j = M.1 19 j ∧ A.1 9 j = M.1 21 j ∧ A.1 10 j = M.1 22 j) ∧ (∀ j, j < 5 → A.1 11 j = M.1 23 j ∧ A.1 12 j = M.1 24 j ∧ A.1 13 j = M.1 25 j) ∧ A.1 3 6 = M.1 15 6 ∧ A.1 3 7 = M.1 15 7 ∧ A.1 3 8 = M.1 15 8 ∧ A.1 3 9 = M.1 15 9 ∧ (∀ a j, a < 3 ∨ 14 ≤ a → A.1 a j = M.1 a j) ∧ A.2 = M.2 := by
  refine ⟨mWI (mWI (mWI (mWI (mWW (mWW (mWW (mWW (mWW (mWW (mWW (mWI (mWI M 4 4 (M.1 16 4)) 4 5 (M.1 16 5)) 6 (va_cpy (M.1 18) (M.1 6) 0 0 408)) 7 (va_cpy (M.1 19) (M.1 7) 0 0 4)) 9 (va_cpy (M.1 21) (M.1 9) 0 0 4)) 10 (va_cpy (M.1 22) (M.1 10) 0 0 4)) 11 (va_cpy (M.1 23) (M.1 11) 0 0 5)) 12 (va_cpy (M.1 24) (M.1 12) 0 0 5)) 13 (va_cpy (M.1 25) (M.1 13) 0 0 5)) 3 6 (M.1 15 6)) 3 7 (M.1 15 7)) 3 8 (M.1 15 8)) 3 9 (M.1 15 9), rfl, ?_, ?_, fun j hj => ?_, fun j hj => ⟨?_, ?_, ?_⟩, fun j hj => ⟨?_, ?_, ?_⟩, ?_, ?_, ?_, ?_, fun a j hj => ?_, rfl⟩
  all_goals simp (disch := omega) only [rN, rI, rWN, rWE]
  · rw [cp_0 hj]
  · rw [cp_0 hj]
  · rw [cp_0 hj]
  · rw [cp_0 hj]
  · rw [cp_0 hj]
  · rw [cp_0 hj]
  · rw [cp_0 hj]
theorem start2 : ∀ {f i : Nat} {M : mS}, i ≤ 44 → 44 < f + i → ∃ A, Ga_startIn_2 N f (nI i) M = some A ∧ (i = 0 → A.1 34 0 = 0) ∧ (∀ j, j < 4 → A.1 34 (1 + j) = M.1 9 j ∧ A.1 34 (5 + j) = M.1 10 j) ∧ (∀ j, j < 5 → A.1 34 (9 + j) = M.1 11 j) ∧ (∀ j, i ≤ j → 14 ≤ j → j < 44 → A.1 34 j = 0) ∧ (1 ≤ i → A.1 34 0 = M.1 34 0) ∧ (∀ j, 14 ≤ j → j < i → A.1 34 j = M.1 34 j) ∧ (∀ a j, a ≠ 34 → A.1 a j = M.1 a j) ∧ A.2 = M.2 := by
  intro f
  induction f with
  | zero => intro i M h1 h2; omega
  | succ f ih =>
    intro i M h1 h2
    rw [Ga_startIn_2]
    by_cases z : 44 ≤ i
    · rw [if_pos (by rw [show (Int32.ofNat 44 : Int32) = nI 44 from rfl, leP (by omega) (by omega)]; exact z)]
      refine ⟨mWW (mWW (mWW M 34 (va_cpy (M.1 9) (M.1 34) 0 1 4)) 34 (va_cpy (M.1 10) ((mWW M 34 (va_cpy (M.1 9) (M.1 34) 0 1 4)).1 34) 0 5 4)) 34 (va_cpy (M.1 11) ((mWW (mWW M 34 (va_cpy (M.1 9) (M.1 34) 0 1 4)) 34 (va_cpy (M.1 10) ((mWW M 34 (va_cpy (M.1 9) (M.1 34) 0 1 4)).1 34) 0 5 4)).1 34) 0 9 5), rfl, fun q => by omega, fun j hj => ⟨?_, ?_⟩, fun j hj => ?_, fun j q1 q2 q3 => by omega, fun q => ?_, fun j q1 q2 => ?_, fun a j q => by rw [rWN q, rWN q, rWN q], rfl⟩
      · rw [rWE, cp_out (by omega), rWE, cp_out (by omega), rWE, cp_at hj]
      · rw [rWE, cp_out (by omega), rWE, cp_at hj]
      · rw [rWE, cp_at hj]
      · rw [rWE, cp_out (by omega), rWE, cp_out (by omega), rWE, cp_out (by omega)]
      · rw [rWE, cp_out (by omega), rWE, cp_out (by omega), rWE, cp_out (by omega)]
    · rw [if_neg (by rw [show (Int32.ofNat 44 : Int32) = nI 44 from rfl, leP (by omega) (by omega)]; exact z), grd_in (by omega) (by omega), clp (by omega), nxs, show nI i + 1 = nI (i + 1) from nI_add i 1]
      obtain ⟨A, e1, e2, e3, e4, e5, e6, e7, e8, e9⟩ := ih (i := i + 1) (M := mWI M 34 i 0) (by omega) (by omega)
      refine ⟨A, e1, fun q => ?_, fun j hj => ?_, fun j hj => ?_, fun j q1 q2 q3 => ?_, fun q => ?_, fun j q1 q2 => ?_, fun a j q => by rw [e8 a j q, mWI_ne q], e9⟩
      · rw [e6 (by omega), rI (by omega)]
      · have := e3 j hj
        rw [mWI_ne (by omega), mWI_ne (by omega)] at this; exact this
      · have := e4 j hj
        rw [mWI_ne (by omega)] at this; exact this
      · by_cases y : j = i
        · rw [e7 j q2 (by omega), rI y]
        · exact e5 j (by omega) q2 q3
      · rw [e6 (by omega), rN (by omega)]
      · rw [e7 j q1 (by omega), rN (by omega)]
theorem startIn_s {M : mS} (hN : 1000 ≤ N) : ∃ A, Ga_startIn N M = some A ∧ A.1 34 0 = 0 ∧ (∀ j, j < 4 → A.1 34 (1 + j) = M.1 9 j ∧ A.1 34 (5 + j) = M.1 10 j) ∧ (∀ j, j < 5 → A.1 34 (9 + j) = M.1 11 j) ∧ (∀ j, 14 ≤ j → j < 44 → A.1 34 j = 0) ∧ (∀ a j, a ≠ 34 → A.1 a j = M.1 a j) ∧ A.2 = M.2 := by
  obtain ⟨A, e1, e2, e3, e4, e5, e6, e7, e8, e9⟩ := start2 (N := N) (f := N) (i := 0) (M := M) (by omega) (by omega)
  exact ⟨A, e1, e2 rfl, e3, e4, fun j q1 q2 => e5 j (by omega) q1 q2, e8, e9⟩
/-! the model begins anew -/
def R0 (d : drf) (k : Nat) : Int32 := if k < 4 then (if k < dD d then nI (dO d k % dH d) else 0) else if k < 8 then (if k - 4 < dD d then nI (dL d (k - 4) % dH d) else 0) else if k < 13 then (if k - 8 < dG d then nI (dA d (k - 8)) else 0) else 0
def cB (w : Nat) (d : drf) (M : mS) : Prop := w < 2 ∧ M.1 64 18 = nI w ∧ M.1 74 w = nI (dH d) ∧ M.1 75 w = nI (dD d) ∧ M.1 78 w = nI (dG d) ∧ (∀ i, i < dD d → M.1 76 (4 * w + i) = nI (dO d i) ∧ M.1 77 (4 * w + i) = nI (dL d i)) ∧ ∀ g, g < dG d → M.1 79 (5 * w + g) = nI (dA d g)
theorem cB_fr {w : Nat} {d : drf} {M A : mS} (h : cB w d M) (hf : ∀ a j, (74 ≤ a ∧ a ≤ 79) ∨ (a = 64 ∧ j = 18) → A.1 a j = M.1 a j) : cB w d A := by
  obtain ⟨h1, h2, h3, h4, h5, h6, h7⟩ := h
  exact ⟨h1, (hf 64 18 (by omega)).trans h2, (hf 74 w (by omega)).trans h3, (hf 75 w (by omega)).trans h4, (hf 78 w (by omega)).trans h5, fun i hi => by rw [hf 76 _ (by omega), hf 77 _ (by omega)]; exact h6 i hi, fun g hg => by rw [hf 79 _ (by omega)]; exact h7 g hg⟩
theorem beg94 {w : Nat} {d : drf} (hd : dOk d) : ∀ {f i : Nat} {M : mS}, cB w d M → i ≤ dG d → dG d < f + i → ∃ A, Mo_begins_94 N f (nI i) M = some A ∧ (∀ k, i ≤ k → k < dG d → A.1 96 (8 + k) = nI (dA d k)) ∧ (∀ a j, (a ≠ 96 ∨ j < 8 + i ∨ 8 + dG d ≤ j) → (a ≠ 64 ∨ (j ≠ 50 ∧ j ≠ 51)) → A.1 a j = M.1 a j) ∧ A.2 = M.2 := by
  have g5 := hd.2.2.2.1
  intro f
  induction f with
  | zero => intro i M h h1 h2; omega
  | succ f ih =>
    intro i M h h1 h2
    obtain ⟨hw, c1, c2, c3, c4, c5, c6⟩ := id h
    rw [Mo_begins_94, c1, grd_in hw (by omega), clp (by omega), c4]
    by_cases z : dG d ≤ i
    · rw [if_pos (by rw [leP (by omega) (by omega)]; exact z), grd_in hw (by omega), nxs, nxs]
      exact ⟨_, rfl, fun k q1 q2 => by omega, fun a j q1 q2 => by rw [rN (by omega), rN (by omega)], rfl⟩
    · rw [if_neg (by rw [leP (by omega) (by omega)]; exact z), show (5 : Int32) * nI w = nI (5 * w) from pk_mul 5 w, nI_add, grd_in (by omega) (by omega), show (8 : Int32) + nI i = nI (8 + i) from nI_add 8 i, grd_in (by omega) (by omega), clp (by omega), clp (by omega), c6 i (by omega), nxs, show nI i + 1 = nI (i + 1) from nI_add i 1]
      obtain ⟨A, e1, e2, e3, e4⟩ := ih (i := i + 1) (M := mWI M 96 (8 + i) (nI (dA d i))) (cB_fr h (fun a j q => by rw [mWI_ne (by omega)])) (by omega) (by omega)
      refine ⟨A, e1, fun k q1 q2 => ?_, fun a j q1 q2 => by rw [e3 a j (by omega) q2, rN (by omega)], e4⟩
      by_cases y : k = i
      · subst y; rw [e3 96 _ (by omega) (by omega), rI rfl]
      · exact e2 k (by omega) q2
theorem beg23 {w : Nat} {d : drf} (hN : 1000 ≤ N) (hd : dOk d) : ∀ {f i : Nat} {M : mS}, cB w d M → i ≤ dD d → dD d < f + i → ∃ A, Mo_begins_23 N f (nI i) M = some A ∧ (∀ k, i ≤ k → k < dD d → A.1 96 k = nI (dO d k % dH d) ∧ A.1 96 (4 + k) = nI (dL d k % dH d)) ∧ (∀ k, k < dG d → A.1 96 (8 + k) = nI (dA d k)) ∧ (∀ a j, (a ≠ 96 ∨ ((j < i ∨ dD d ≤ j) ∧ (j < 4 + i ∨ 4 + dD d ≤ j) ∧ (j < 8 ∨ 8 + dG d ≤ j))) → (a ≠ 64 ∨ (j ≠ 50 ∧ j ≠ 51)) → A.1 a j = M.1 a j) ∧ A.2 = M.2 := by
  obtain ⟨H1, H2, d4, g5, s9, b1, b2⟩ := id hd
  intro f
  induction f with
  | zero => intro i M h h1 h2; omega
  | succ f ih =>
    intro i M h h1 h2
    obtain ⟨hw, c1, c2, c3, c4, c5, c6⟩ := id h
    rw [Mo_begins_23, c1, grd_in hw (by omega), clp (by omega), c3]
    by_cases z : dD d ≤ i
    · rw [if_pos (by rw [leP (by omega) (by omega)]; exact z)]
      obtain ⟨A, e1, e2, e3, e4⟩ := beg94 (N := N) (f := N) (i := 0) hd h (by omega) (by omega)
      exact ⟨A, e1, fun k q1 q2 => by omega, fun k q => e2 k (by omega) q, fun a j q1 q2 => e3 a j (by omega) q2, e4⟩
    · obtain ⟨o1, o2⟩ := b1 i (by omega)
      have hh : ∀ A : mS, cB w d A → Mo_hours N A = some (nI (dH d)) := fun A hA => by
        unfold Mo_hours
        rw [hA.2.1, grd_in hw (by omega), clp (by omega), hA.2.2.1]
      have hA1 : cB w d (mWI M 96 i (nI (dO d i % dH d))) := cB_fr h (fun a j q => by rw [mWI_ne (by omega)])
      rw [if_neg (by rw [leP (by omega) (by omega)]; exact z), show (4 : Int32) * nI w = nI (4 * w) from pk_mul 4 w, nI_add, grd_in (by omega) (by omega), hh M h, bRs, nz_n (by omega) (by omega), grd_in (by omega) (by omega), clp (by omega), clp (by omega), (c5 i (by omega)).1, rmP (by omega) (by omega) (by omega), nxs, hA1.2.1, show (4 : Int32) * nI w = nI (4 * w) from pk_mul 4 w, nI_add, grd_in (by omega) (by omega), hh _ hA1, bRs, nz_n (by omega) (by omega), show (4 : Int32) + nI i = nI (4 + i) from nI_add 4 i, grd_in (by omega) (by omega), clp (by omega), clp (by omega), (hA1.2.2.2.2.2.1 i (by omega)).2, rmP (by omega) (by omega) (by omega), nxs, show nI i + 1 = nI (i + 1) from nI_add i 1]
      obtain ⟨A, e1, e2, e3, e4, e5⟩ := ih (i := i + 1) (M := mWI (mWI M 96 i (nI (dO d i % dH d))) 96 (4 + i) (nI (dL d i % dH d))) (cB_fr hA1 (fun a j q => by rw [mWI_ne (by omega)])) (by omega) (by omega)
      refine ⟨A, e1, fun k q1 q2 => ?_, e3, fun a j q1 q2 => by rw [e4 a j (by omega) q2, rN (by omega), rN (by omega)], e5⟩
      by_cases y : k = i
      · subst y
        rw [e4 96 k (by omega) (by omega), e4 96 (4 + k) (by omega) (by omega), rN (by omega), rI rfl, rI rfl]
        exact ⟨rfl, rfl⟩
      · exact e2 k (by omega) q2
theorem beg2 {w : Nat} {d : drf} (hN : 1000 ≤ N) (hd : dOk d) : ∀ {f i : Nat} {M : mS}, cB w d M → i ≤ 29 → 29 < f + i → (∀ k, k < i → M.1 96 k = 0) → ∃ A, Mo_begins_2 N f (nI i) M = some A ∧ (∀ k, k < 29 → A.1 96 k = R0 d k) ∧ (∀ a j, a ≠ 96 → (a ≠ 64 ∨ (j ≠ 50 ∧ j ≠ 51)) → A.1 a j = M.1 a j) ∧ A.2 = M.2 := by
  obtain ⟨H1, H2, d4, g5, s9, b1, b2⟩ := id hd
  intro f
  induction f with
  | zero => intro i M h h1 h2; omega
  | succ f ih =>
    intro i M h h1 h2 h0
    rw [Mo_begins_2]
    by_cases z : 29 ≤ i
    · rw [if_pos (by rw [show (29 : Int32) = nI 29 from rfl, leP (by omega) (by omega)]; exact z)]
      obtain ⟨A, e1, e2, e3, e4, e5⟩ := beg23 (N := N) (f := N) (i := 0) hN hd h (by omega) (by omega)
      refine ⟨A, e1, fun k hk => ?_, fun a j q1 q2 => e4 a j (Or.inl q1) q2, e5⟩
      unfold R0
      by_cases k4 : k < 4
      · rw [if_pos k4]
        by_cases y : k < dD d
        · rw [if_pos y]; exact (e2 k (by omega) y).1
        · rw [if_neg y, e4 96 k (by omega) (by omega)]; exact h0 k (by omega)
      · rw [if_neg k4]
        by_cases k8 : k < 8
        · rw [if_pos k8]
          by_cases y : k - 4 < dD d
          · rw [if_pos y]
            have := (e2 (k - 4) (by omega) y).2
            rw [show 4 + (k - 4) = k by omega] at this; exact this
          · rw [if_neg y, e4 96 k (by omega) (by omega)]; exact h0 k (by omega)
        · rw [if_neg k8]
          by_cases k13 : k < 13
          · rw [if_pos k13]
            by_cases y : k - 8 < dG d
            · rw [if_pos y]
              have := e3 (k - 8) y
              rw [show 8 + (k - 8) = k by omega] at this; exact this
            · rw [if_neg y, e4 96 k (by omega) (by omega)]; exact h0 k (by omega)
          · rw [if_neg k13, e4 96 k (by omega) (by omega)]; exact h0 k (by omega)
    · rw [if_neg (by rw [show (29 : Int32) = nI 29 from rfl, leP (by omega) (by omega)]; exact z), grd_in (by omega) (by omega), clp (by omega), nxs, show nI i + 1 = nI (i + 1) from nI_add i 1]
      obtain ⟨A, e1, e2, e3, e4⟩ := ih (i := i + 1) (M := mWI M 96 i 0) (cB_fr h (fun a j q => by rw [mWI_ne (by omega)])) (by omega) (by omega) (fun k hk => by
        by_cases y : k = i
        · rw [rI y]
        · rw [rN (by omega)]; exact h0 k (by omega))
      exact ⟨A, e1, e2, fun a j q1 q2 => by rw [e3 a j q1 q2, mWI_ne q1], e4⟩
theorem keeps2 : ∀ {f i : Nat} {M : mS}, i ≤ 29 → 29 < f + i → ∃ A, Mo_keepsRow_2 N f (nI i) M = some A ∧ (∀ k, i ≤ k → k < 29 → A.1 95 k = M.1 96 k) ∧ (∀ a j, (a ≠ 95 ∨ j < i) → A.1 a j = M.1 a j) ∧ A.2 = M.2 := by
  intro f
  induction f with
  | zero => intro i M h1 h2; omega
  | succ f ih =>
    intro i M h1 h2
    rw [Mo_keepsRow_2]
    by_cases z : 29 ≤ i
    · rw [if_pos (by rw [show (29 : Int32) = nI 29 from rfl, leP (by omega) (by omega)]; exact z)]
      exact ⟨M, rfl, fun k q1 q2 => by omega, fun _ _ _ => rfl, rfl⟩
    · rw [if_neg (by rw [show (29 : Int32) = nI 29 from rfl, leP (by omega) (by omega)]; exact z), grd_in (by omega) (by omega), grd_in (by omega) (by omega), clp (by omega), nxs, show nI i + 1 = nI (i + 1) from nI_add i 1]
      obtain ⟨A, e1, e2, e3, e4⟩ := ih (i := i + 1) (M := mWI M 95 i (M.1 96 i)) (by omega) (by omega)
      refine ⟨A, e1, fun k q1 q2 => ?_, fun a j q => by rw [e3 a j (by omega), rN (by omega)], e4⟩
      by_cases y : k = i
      · subst y; rw [e3 95 k (by omega), rI rfl]
      · rw [e2 k (by omega) q2, mWI_ne (by omega)]
theorem read219 : ∀ {f i : Nat} {M : mS}, i ≤ 3 → 3 < f + i → ∃ A, Mo_read_219 N f (nI i) M = some (0, A) ∧ (∀ k, i ≤ k → k < 3 → A.1 109 k = 0) ∧ (∀ a j, (a ≠ 109 ∨ j < i) → A.1 a j = M.1 a j) ∧ A.2 = M.2 := by
  intro f
  induction f with
  | zero => intro i M h1 h2; omega
  | succ f ih =>
    intro i M h1 h2
    rw [Mo_read_219]
    by_cases z : 3 ≤ i
    · rw [if_pos (by rw [show (3 : Int32) = nI 3 from rfl, leP (by omega) (by omega)]; exact z)]
      exact ⟨M, rfl, fun k q1 q2 => by omega, fun _ _ _ => rfl, rfl⟩
    · rw [if_neg (by rw [show (3 : Int32) = nI 3 from rfl, leP (by omega) (by omega)]; exact z), grd_in (by omega) (by omega), clp (by omega), nxs, show nI i + 1 = nI (i + 1) from nI_add i 1, show vp_nar .boolean 0 = 0 from rfl]
      obtain ⟨A, e1, e2, e3, e4⟩ := ih (i := i + 1) (M := mWI M 109 i 0) (by omega) (by omega)
      refine ⟨A, e1, fun k q1 q2 => ?_, fun a j q => by rw [e3 a j (by omega), rN (by omega)], e4⟩
      by_cases y : k = i
      · subst y; rw [e3 109 k (by omega), rI rfl]
      · exact e2 k (by omega) q2
end
