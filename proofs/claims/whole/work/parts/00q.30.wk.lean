/-! THE CLASS'S WALK -/
theorem held_le {n m : Nat} {M : mS} (h : n ≤ m) (hm : m < 2147483648) : Md_held (nI n) (nI m) M = nI n := by
  rw [held_s, wit_n (by omega) hm, Nat.min_eq_left h]
def s9 (M : mS) (v : Nat → Int32) : mS := mWI (mWI (mWI (mWI (mWI (mWI (mWI (mWI (mWI M 5 0 (v 0)) 5 1 (v 1)) 5 2 (v 2)) 5 6 (v 6)) 5 7 (v 7)) 5 8 (v 8)) 5 3 (v 3)) 5 4 (v 4)) 5 5 (v 5)
theorem lt9 {i : Nat} (h : i < 9) : i = 0 ∨ i = 1 ∨ i = 2 ∨ i = 3 ∨ i = 4 ∨ i = 5 ∨ i = 6 ∨ i = 7 ∨ i = 8 := by omega
theorem s9_r {M : mS} {v : Nat → Int32} {i : Nat} (h : i < 9) : (s9 M v).1 5 i = v i := by
  unfold s9
  rcases lt9 h with rfl | rfl | rfl | rfl | rfl | rfl | rfl | rfl | rfl <;> simp (disch := omega) only [rI, rN]
theorem s9_o {M : mS} {v : Nat → Int32} {a : Nat} (h : a ≠ 5) : (s9 M v).1 a = M.1 a := by
  unfold s9
  simp (disch := omega) only [mWI_ne]
theorem s9_L {M : mS} {v : Nat → Int32} : (s9 M v).2 = M.2 := rfl
def lawV (c : gar) (R : Nat → Int32) (k g : Nat) : Int32 := if k = 0 then gL c 0 (vG c R g) else if k = 1 then nI (stN c R g) else nI (woN c R g)
theorem lawG {N : Nat} {c : gar} {M : mS} {R : Nat → Int32} {g k : Nat} (hN : 1000 ≤ N) (hc : gOk c) (hM : gC c M) (hw : wR c (M.1 40) R) (hR : VR c R) (hg : g < gG c) (hk : k < 3) : ∃ B, Wk_lawOfGoer N (nI k) (nI g) M = some (lawV c R k g, B) ∧ (∀ a j, a ≠ 5 → a ≠ 8 → B.1 a j = M.1 a j) ∧ B.2 = M.2 := by
  obtain ⟨hb, eb⟩ := bN_lt hc hR hg
  obtain ⟨hc1, hc2, hc3, hc4, hc5, hc6⟩ := hc
  obtain ⟨e9, e14⟩ := hw.2.2 g hg
  obtain ⟨e1, e5⟩ := hw.2.1 _ hb
  have e0 := hw.1
  obtain ⟨h1, h2, h3, h4, h5, h6, h7⟩ := hM
  obtain ⟨h12, h13⟩ := h5 g hg
  have key : Wk_lawOfGoer N (nI k) (nI g) M = bW (La_say N (nI k) (s9 M (vG c R g))) fun r B => if nI k = 0 then some (r, B) else if nI k = 1 then Wk_lawOfGoer_96 N r (B.1 3 6) B else Wk_lawOfGoer_96 N r 99 B := by
    unfold Wk_lawOfGoer Wk_dialOf Wk_setVars
    simp (disch := omega) only [li, nI_add, grd_in, clp, bRs, bVs, nxs, e9, eb, held_le, mWI_ne, e0, e1, e5, h1, h3, h12, h13, e14]
    rfl
  obtain ⟨B, eB, fB, lB⟩ := h6 N hN (s9 M (vG c R g)) (s9_o (by omega)) (s9_o (by omega)) (s9_o (by omega)) k (by omega) (vG c R g) (fun i hi => s9_r hi)
  refine ⟨B, ?_, fun a j ha hb => by rw [fB a j hb, s9_o ha], lB⟩
  rw [key, eB, bWs]
  have h36 : B.1 3 6 = nI (gH c) := by rw [fB 3 6 (by omega), s9_o (by omega)]; exact h1
  unfold lawV Wk_lawOfGoer_96
  rw [h36]
  have hk3 : k = 0 ∨ k = 1 ∨ k = 2 := by omega
  rcases hk3 with rfl | rfl | rfl
  · rfl
  · rw [if_neg (by decide), if_pos rfl, held_s]; rfl
  · rw [if_neg (by decide), if_neg (by decide), show (99 : Int32) = nI 99 from rfl, held_s]; rfl
theorem dimsC {N : Nat} {c : gar} {M : mS} {R : Nat → Int32} {d : Nat} (hN : 1000 ≤ N) (hc : gOk c) (hM : gC c M) (hw : wR c (M.1 40) R) (hd : d < gD c) : ∃ B, Wk_dims N (nI d) M = some (nI (dmN c R d), B) ∧ (∀ a j, a ≠ 5 → a ≠ 8 → B.1 a j = M.1 a j) ∧ B.2 = M.2 := by
  obtain ⟨hc1, hc2, hc3, hc4, hc5, hc6⟩ := hc
  obtain ⟨e1, e5⟩ := hw.2.1 _ hd
  have e0 := hw.1
  obtain ⟨h1, h2, h3, h4, h5, h6, h7⟩ := hM
  have key : Wk_dims N (nI d) M = bW (La_say N (nI 3) (s9 M (vD c R d))) fun r B => some (Md_held r (nI 100) B, B) := by
    unfold Wk_dims Wk_setVars
    simp (disch := omega) only [li, nI_add, grd_in, clp, bRs, bVs, nxs, mWI_ne, e0, e1, e5, h1, h3]
    rfl
  obtain ⟨B, eB, fB, lB⟩ := h6 N hN (s9 M (vD c R d)) (s9_o (by omega)) (s9_o (by omega)) (s9_o (by omega)) 3 (by omega) (vD c R d) (fun i hi => s9_r hi)
  refine ⟨B, ?_, fun a j ha hb => by rw [fB a j hb, s9_o ha], lB⟩
  rw [key, eB, bWs, held_s]; rfl
theorem darkC {N : Nat} {c : gar} {M : mS} {R : Nat → Int32} {d : Nat} {s : Int32} (hN : 1000 ≤ N) (hc : gOk c) (hM : gC c M) (hw : wR c (M.1 40) R) (hd : d < gD c) : ∃ B, Wk_isDark N (nI d) s M = some ((if lotN 100 s (8 * R 28 + nI d) < dmN c R d then 1 else 0), B) ∧ (∀ a j, a ≠ 5 → a ≠ 8 → B.1 a j = M.1 a j) ∧ B.2 = M.2 := by
  obtain ⟨B, eB, fB, lB⟩ := dimsC hN hc hM hw hd
  refine ⟨B, ?_, fB, lB⟩
  unfold Wk_isDark Wk_which
  have hd2 : dmN c R d ≤ 100 := wit_le (by omega)
  have hl : lotN 100 s (8 * R 28 + nI d) < 100 := lot_lt (by omega)
  rw [hw.1, show (100 : Int32) = nI 100 from rfl, lot_s (by omega) (by omega), bRs, eB, bWs]
  by_cases h : lotN 100 s (8 * R 28 + nI d) < dmN c R d
  · rw [if_pos h, if_neg (by rw [leP (by omega) (by omega)]; omega)]
  · rw [if_neg h, if_pos (by rw [leP (by omega) (by omega)]; omega)]
