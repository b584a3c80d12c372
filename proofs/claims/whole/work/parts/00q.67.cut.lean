/-! cut, the class -/
def tkE (n : Nat) (b : Nat → Nat) : Nat → Nat
  | 0 => 0
  | k + 1 => tkP n b k + tkL n b (tkP n b k)
theorem tkP_E {n : Nat} {b : Nat → Nat} {k : Nat} : tkP n b k = nbP n b (tkE n b k) := by cases k <;> rfl
def tkD (n : Nat) (b : Nat → Nat) (i : Nat) : Nat := tkK n b (tkP n b i)
def tkV (n : Nat) (b : Nat → Nat) (i : Nat) : Nat := num b (tkP n b i) (tkL n b (tkP n b i))
def tkW (n : Nat) (b : Nat → Nat) (i : Nat) : List Nat := wrd b (tkP n b i) (tkL n b (tkP n b i))
theorem wkN_le (w : List Nat) : wkN w ≤ 20 := fa_first_le _ _
theorem sgN_r (x : Nat) : (22 ≤ sgN x ∧ sgN x ≤ 30) ∨ sgN x = 32 := by
  unfold sgN
  repeat' split
  all_goals omega
theorem tkK_le {n : Nat} {b : Nat → Nat} {p : Nat} : tkK n b p ≤ 32 := by
  unfold tkK
  have h1 := wkN_le (wrd b p (rnP isL n b p))
  have h2 := sgN_r (b p)
  repeat' split
  all_goals omega
theorem tkK_w {n : Nat} {b : Nat → Nat} {p : Nat} (h : tkK n b p ≤ 20) : p < n ∧ isL (b p) = true ∧ rnP isL n b p ≤ 8 ∧ tkL n b p = rnP isL n b p ∧ tkK n b p = wkN (wrd b p (tkL n b p)) := by
  have h2 := sgN_r (b p)
  by_cases e : n ≤ p
  · unfold tkK at h; rw [if_pos e] at h; omega
  · by_cases zL : isL (b p) = true
    · by_cases z : rnP isL n b p ≤ 8
      · refine ⟨by omega, zL, z, ?_, ?_⟩
        · unfold tkL; rw [if_neg e, if_pos zL]
        · unfold tkK tkL; rw [if_neg e, if_pos zL, if_pos z, if_neg e, if_pos zL]
      · unfold tkK at h; rw [if_neg e, if_pos zL, if_neg z] at h; omega
    · unfold tkK at h; rw [if_neg e, if_neg zL] at h
      by_cases zD : isD (b p) = true
      · rw [if_pos zD] at h
        split at h <;> omega
      · rw [if_neg zD] at h; omega
theorem tkK_d {n : Nat} {b : Nat → Nat} {p : Nat} (h : tkK n b p = 21) : p < n ∧ ¬ isL (b p) = true ∧ isD (b p) = true ∧ rnP isD n b p ≤ 4 ∧ tkL n b p = rnP isD n b p := by
  have h1 := wkN_le (wrd b p (rnP isL n b p))
  have h2 := sgN_r (b p)
  by_cases e : n ≤ p
  · unfold tkK at h; rw [if_pos e] at h; omega
  · by_cases zL : isL (b p) = true
    · unfold tkK at h; rw [if_neg e, if_pos zL] at h
      split at h <;> omega
    · by_cases zD : isD (b p) = true
      · by_cases z : rnP isD n b p ≤ 4
        · refine ⟨by omega, zL, zD, z, ?_⟩
          unfold tkL; rw [if_neg e, if_neg zL, if_pos zD]
        · unfold tkK at h; rw [if_neg e, if_neg zL, if_pos zD, if_neg z] at h; omega
      · unfold tkK at h; rw [if_neg e, if_neg zL, if_neg zD] at h; omega
theorem tkK_n {n : Nat} {b : Nat → Nat} {p : Nat} (h : tkK n b p < 31) : p < n := by
  apply Classical.byContradiction
  intro q
  unfold tkK at h
  rw [if_pos (by omega)] at h
  omega
theorem tkV_le {n : Nat} {b : Nat → Nat} {i : Nat} (h : tkD n b i = 21) : tkV n b i ≤ 9999 := by
  obtain ⟨h1, h2, h3, h4, h5⟩ := tkK_d h
  unfold tkV
  rw [h5]
  have := num_lt (b := b) (p := tkP n b i) (l := rnP isD n b (tkP n b i)) (fun k hk => rnP_p hk)
  have h6 : 10 ^ rnP isD n b (tkP n b i) ≤ 10 ^ 4 := Nat.pow_le_pow_right (by omega) h4
  omega
theorem tkW_ok {n : Nat} {b : Nat → Nat} {i : Nat} (h : tkD n b i ≤ 20) : wOk (tkW n b i) := by
  obtain ⟨h1, h2, h3, h4, h5⟩ := tkK_w h
  unfold tkW
  rw [h4]
  exact wrd_ok h3 (fun k hk => rnP_p hk)
/-- what the class has cut -/
def TOKC (n : Nat) (b : Nat → Nat) (c : Nat) (M : mS) : Prop := M.1 26 4 = nI c ∧ ∀ i, i < c → M.1 28 i = nI (tkD n b i) ∧ M.1 29 i = nI (tkP n b i) ∧ (tkD n b i = 21 → M.2 30 i = lN (tkV n b i)) ∧ (tkD n b i ≤ 20 → M.2 30 i = lN (krd 32 (tkW n b i)))
def frC (M A : mS) : Prop := (∀ a j, a ≠ 28 → a ≠ 29 → (a ≠ 26 ∨ j ≠ 4) → A.1 a j = M.1 a j) ∧ ∀ a j, a ≠ 30 → A.2 a j = M.2 a j
theorem frC.refl {M : mS} : frC M M := ⟨fun _ _ _ _ _ => rfl, fun _ _ _ => rfl⟩
theorem frC.trans {A B C : mS} (h : frC A B) (g : frC B C) : frC A C := ⟨fun a j q1 q2 q3 => (g.1 a j q1 q2 q3).trans (h.1 a j q1 q2 q3), fun a j q => (g.2 a j q).trans (h.2 a j q)⟩
theorem tpB_fr {n : Nat} {b : Nat → Nat} {M A : mS} (h : tpB n b M) (h1 : A.1 1 1 = M.1 1 1) (h2 : ∀ j, A.1 2 j = M.1 2 j) : tpB n b A := ⟨h.1, h1.trans h.2.1, fun i hi => ⟨by rw [h2]; exact (h.2.2 i hi).1, (h.2.2 i hi).2⟩⟩
theorem frC.tpB {n : Nat} {b : Nat → Nat} {M A : mS} (h : frC M A) (g : tpB n b M) : tpB n b A := tpB_fr g (h.1 1 1 (by omega) (by omega) (by omega)) (fun j => h.1 2 j (by omega) (by omega) (by omega))
theorem nar_k {k : Nat} (h : k < 128) : vp_nar .byte (nI k).toInt8.toInt32 = nI k := by
  rw [fa_byte_small h]
  exact fa_byte_small h
theorem tk_val {N n : Nat} {b : Nat → Nat} {M : mS} (hN : 5000 ≤ N) (h : tpB n b M) {p : Nat} {r8 : Int32} (hp : p ≤ n) (h8 : Tp_at N (nI p) M = some r8) {K : Int64 → Option mS} : ∃ z, (if Tk_isDigit r8 M = 0 then bR (Tk_key N (nI p) (nI (tkL n b p)) M) K else bR (Tk_number N (nI p) (nI (tkL n b p)) M) K) = K z ∧ (tkK n b p = 21 → z = lN (num b p (tkL n b p))) ∧ (tkK n b p ≤ 20 → z = lN (krd 32 (wrd b p (tkL n b p)))) := by
  obtain ⟨l1, l2, l3⟩ := tkL_b (b := b) hp h.1
  by_cases q21 : tkK n b p = 21
  · obtain ⟨d1, d2, d3, d4, d5⟩ := tkK_d q21
    have e := at_y (N := N) h d1
    rw [h8] at e
    cases e
    refine ⟨_, ?_, fun _ => rfl, fun q => absurd q (by omega)⟩
    rw [isD_C (h.2.2 p d1).2, if_pos d3, if_neg (by decide), num_s hN h (l3 d1) (by omega) (fun k hk => rnP_p (n := n) (by omega)), bRs]
  · by_cases q20 : tkK n b p ≤ 20
    · obtain ⟨d1, d2, d3, d4, d5⟩ := tkK_w q20
      have e := at_y (N := N) h d1
      rw [h8] at e
      cases e
      refine ⟨_, ?_, fun q => absurd q q21, fun _ => rfl⟩
      have nd : ¬ isD (b p) = true := by rw [isD_t]; have := isL_t.mp d2; omega
      rw [isD_C (h.2.2 p d1).2, if_neg nd, if_pos rfl, key_s hN h (l3 d1) (by omega) (fun k hk => rnP_p (n := n) (by omega)), bRs]
    · obtain ⟨x, ex⟩ := key_ex (N := N) hN h hp (l := tkL n b p) (by omega)
      obtain ⟨y, ey⟩ := num_ex (N := N) hN h hp (l := tkL n b p) (by omega)
      by_cases z : Tk_isDigit r8 M = 0
      · refine ⟨x, ?_, fun q => absurd q q21, fun q => absurd q q20⟩
        rw [if_pos z, ex, bRs]
      · refine ⟨y, ?_, fun q => absurd q q21, fun q => absurd q q20⟩
        rw [if_neg z, ey, bRs]
theorem cut_1 {N n f k : Nat} {b : Nat → Nat} {M : mS} {z : Nat} (hN : 5000 ≤ N) (h : tpB n b M) (hk : ∀ k, k < 20 → M.2 27 k = kC k) (ht : TOKC n b k M) (hk4 : k ≤ 400) (hz : z < 31) (he : tkE n b k ≤ n) : ∃ A, Tk_cut_10 N (f + 1) (nI (tkE n b k)) (nI z) M = Tk_cut_10 N f (nI (tkE n b (k + 1))) (nI (tkD n b k)) A ∧ TOKC n b (k + 1) A ∧ frC M A := by
  have hn := h.1
  have hp : tkP n b k ≤ n := by rw [tkP_E]; exact (nbP_le he).2
  obtain ⟨r8, e8⟩ := at_s (N := N) h (i := tkP n b k) (by omega)
  have hK : tkK n b (tkP n b k) ≤ 32 := tkK_le
  have f16 : frC M (mWI (mWI M 28 k (nI (tkD n b k))) 29 k (nI (tkP n b k))) := ⟨fun a j q1 q2 q3 => by rw [mWI_ne q2, mWI_ne q1], fun _ _ _ => rfl⟩
  have e8' : Tp_at N (nI (tkP n b k)) (mWI (mWI M 28 k (nI (tkD n b k))) 29 k (nI (tkP n b k))) = some r8 := by
    rw [← e8]
    unfold Tp_at
    rw [f16.1 1 1 (by omega) (by omega) (by omega), f16.1 2 _ (by omega) (by omega) (by omega)]
  obtain ⟨v, ev, v1, v2⟩ := tk_val (N := N) hN (f16.tpB h) hp e8' (K := fun r => Tk_cut_109 N (Tk_cut_10 N f) (nI (tkP n b k)) (nI (tkD n b k)) (nI (tkL n b (tkP n b k))) (nI k) r (mWI (mWI M 28 k (nI (tkD n b k))) 29 k (nI (tkP n b k))))
  refine ⟨mWI (mWL (mWI (mWI M 28 k (nI (tkD n b k))) 29 k (nI (tkP n b k))) 30 k v) 26 4 (nI (k + 1)), ?_, ⟨rI rfl, fun i hi => ?_⟩, ?_⟩
  · rw [Tk_cut_10, ht.1, if_neg (by rw [show (400 : Int32) = nI 400 from rfl, ltP (by omega) (by omega)]; omega), if_neg (by rw [show (31 : Int32) = nI 31 from rfl, leP (by omega) (by omega)]; omega), blanks_s hN h he, bRs, ← tkP_E, e8, bRs, run_s hN h hp, bRs, kindAt_s hN h hk hp, bRs, grd_in (by omega) (by omega), clp (by omega), show tkK n b (tkP n b k) = tkD n b k from rfl, nar_k (by unfold tkD; omega), nxs, mWI_ne (show 26 ≠ 28 by omega), ht.1, grd_in (by omega) (by omega), clp (by omega), nxs, mWI_ne (show 26 ≠ 29 by omega), mWI_ne (show 26 ≠ 28 by omega), ht.1, ev]
    unfold Tk_cut_109
    rw [grd_in (by omega) (by omega), clp (by omega), nxs, mWL_I, mWI_ne (show 26 ≠ 29 by omega), mWI_ne (show 26 ≠ 28 by omega), ht.1, nxs, nxs, nI_add, show nI k + 1 = nI (k + 1) from nI_add k 1]
    rfl
  · by_cases e : i = k
    · subst e
      refine ⟨?_, ?_, fun q => ?_, fun q => ?_⟩
      · rw [mWI_ne (by omega), mWL_I, mWI_ne (by omega), rI rfl]
      · rw [mWI_ne (by omega), mWL_I, rI rfl]
      · rw [mWI_L, rL rfl]; exact v1 q
      · rw [mWI_L, rL rfl]; exact v2 q
    · obtain ⟨g1, g2, g3, g4⟩ := ht.2 i (by omega)
      refine ⟨?_, ?_, fun q => ?_, fun q => ?_⟩
      · rw [mWI_ne (by omega), mWL_I, mWI_ne (by omega), rN (by omega)]; exact g1
      · rw [mWI_ne (by omega), mWL_I, rN (by omega), mWI_ne (by omega)]; exact g2
      · rw [mWI_L, rLN (by omega)]; exact g3 q
      · rw [mWI_L, rLN (by omega)]; exact g4 q
  · refine ⟨fun a j q1 q2 q3 => ?_, fun a j q => ?_⟩
    · rw [rN q3, mWL_I]; exact f16.1 a j q1 q2 q3
    · rw [mWI_L, mWL_ne q]; rfl
theorem cutC {N n : Nat} {b : Nat → Nat} {M : mS} (hN : 5000 ≤ N) (h : tpB n b M) (hk : ∀ k, k < 20 → M.2 27 k = kC k) : ∃ A c, Tk_cut N M = some A ∧ TOKC n b c A ∧ 1 ≤ c ∧ c ≤ 401 ∧ (∀ i, i + 1 < c → tkD n b i < 31) ∧ (c < 401 → 31 ≤ tkD n b (c - 1)) ∧ frC M A := by
  have hn := h.1
  unfold Tk_cut
  rw [nxs]
  have f0 : frC M (mWI M 26 4 0) := ⟨fun a j q1 q2 q3 => rN q3, fun _ _ _ => rfl⟩
  refine iter (F := fun f k (s : Int32 × Int32 × mS) => Tk_cut_10 N f s.1 s.2.1 s.2.2) (i := 0) (f := N) (s := ((0 : Int32), (22 : Int32), mWI M 26 4 0)) (n := 401) (Q := fun r => ∃ A c, r = some A ∧ TOKC n b c A ∧ 1 ≤ c ∧ c ≤ 401 ∧ (∀ i, i + 1 < c → tkD n b i < 31) ∧ (c < 401 → 31 ≤ tkD n b (c - 1)) ∧ frC M A)
    (fun k s => s.1 = nI (tkE n b k) ∧ (∃ z, s.2.1 = nI z ∧ z ≤ 32 ∧ ((z < 31 ∧ tkE n b k ≤ n ∧ ∀ i, i < k → tkD n b i < 31) ∨ (31 ≤ z ∧ 1 ≤ k ∧ 31 ≤ tkD n b (k - 1) ∧ ∀ i, i + 1 < k → tkD n b i < 31))) ∧ TOKC n b k s.2.2 ∧ frC M s.2.2) ?_ ?_ (by omega) (by omega) ⟨rfl, ⟨22, rfl, by omega, Or.inl ⟨by omega, Nat.zero_le _, fun i hi => absurd hi (by omega)⟩⟩, ⟨rI rfl, fun i hi => absurd hi (by omega)⟩, f0⟩
  · rintro f k ⟨x, y, t⟩ hk4 ⟨rfl, ⟨z, hz, z32, h3⟩, h4, h5⟩
    dsimp only at hz h4 h5 ⊢
    subst hz
    rcases h3 with ⟨z1, z2, z3⟩ | ⟨z1, z2, z3, z4⟩
    · obtain ⟨A, eA, tA, fA⟩ := cut_1 (N := N) (f := f) hN (h5.tpB h) (fun k hk2 => by rw [h5.2 27 k (by omega)]; exact hk k hk2) h4 (by omega) z1 z2
      have hK : tkK n b (tkP n b k) ≤ 32 := tkK_le
      refine Or.inl ⟨(nI (tkE n b (k + 1)), nI (tkD n b k), A), ⟨rfl, ⟨tkD n b k, rfl, hK, ?_⟩, tA, h5.trans fA⟩, eA⟩
      by_cases q : tkD n b k < 31
      · refine Or.inl ⟨q, ?_, fun i hi => ?_⟩
        · have hp := tkK_n q
          exact (tkL_b (b := b) (Nat.le_of_lt hp) hn).2.2 hp
        · by_cases e : i = k
          · subst e; exact q
          · exact z3 i (by omega)
      · exact Or.inr ⟨by omega, by omega, by rw [Nat.add_sub_cancel]; omega, fun i hi => z3 i (by omega)⟩
    · refine Or.inr ⟨t, k, ?_, h4, z2, by omega, z4, fun _ => z3, h5⟩
      rw [Tk_cut_10, h4.1, if_neg (by rw [show (400 : Int32) = nI 400 from rfl, ltP (by omega) (by omega)]; omega), if_pos (by rw [show (31 : Int32) = nI 31 from rfl, leP (by omega) (by omega)]; omega)]
  · rintro f ⟨x, y, t⟩ ⟨rfl, ⟨z, hz, z32, h3⟩, h4, h5⟩
    dsimp only at hz h4 h5 ⊢
    refine ⟨t, 401, ?_, h4, by omega, by omega, ?_, fun q => absurd q (by omega), h5⟩
    · rw [Tk_cut_10, h4.1, if_pos (by decide)]
    · rcases h3 with ⟨z1, z2, z3⟩ | ⟨z1, z2, z3, z4⟩
      · exact fun i hi => z3 i (by omega)
      · exact z4
