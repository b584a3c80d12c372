/-! GAME: the class whole; the model -/
theorem gl6 {c : gar} {d n : Nat} (hn : n ≤ 6) : CLG c d n 6 false (fun M => some (Gm_hoursFrom_s6 M, M)) := by
  intro M R hC h4 h5 hw hR
  refine ⟨M, ?_, hC, fun _ _ _ _ _ _ _ => rfl, rfl, fun _ => rfl, fun q => by cases q⟩
  have e : Gm_hoursFrom_s6 M = 0 := by unfold Gm_hoursFrom_s6; split <;> rfl
  show some (Gm_hoursFrom_s6 M, M) = _
  rw [e, show n - 6 = 0 by omega]; rfl
theorem wr_n : (∀ (x : Int32) (M : mS), ∀ a j, (a ≠ 50 ∨ j ≠ 0) → ((fun (_ : Int32) (M : mS) => M) x M).1 a j = M.1 a j) ∧ (∀ (x : Int32) (M : mS), ((fun (_ : Int32) (M : mS) => M) x M).2 = M.2) ∧ (false = true → ∀ (x : Int32) (M : mS), ((fun (_ : Int32) (M : mS) => M) x M).1 50 0 = x) ∧ (false = false → ∀ (x : Int32) (M : mS), ((fun (_ : Int32) (M : mS) => M) x M).1 50 0 = M.1 50 0) := ⟨fun _ _ _ _ _ => rfl, fun _ _ => rfl, fun q => (by cases q), fun _ _ _ => rfl⟩
section
variable {N : Nat} {c : gar} {d n : Nat}
theorem gl5 (hN : 1000 ≤ N) (hc : gOk c) (hG : 2 ≤ gG c) (hd : d < gD c) (hn : n ≤ 6) : CLG c d n 5 false (Gm_hoursFrom_s5 N) := gameL_s (tm := Gm_tryMove_s5 N) (L := Gm_hoursFrom_s5_20 N) hN hc hG hd (by omega) hn (gl6 hn) wr_n (fun a0 M => rfl) (fun f x2 x3 M => rfl) (fun M => rfl)
theorem gl4 (hN : 1000 ≤ N) (hc : gOk c) (hG : 2 ≤ gG c) (hd : d < gD c) (hn : n ≤ 6) : CLG c d n 4 false (Gm_hoursFrom_s4 N) := gameL_s (tm := Gm_tryMove_s4 N) (L := Gm_hoursFrom_s4_20 N) hN hc hG hd (by omega) hn (gl5 hN hc hG hd hn) wr_n (fun a0 M => rfl) (fun f x2 x3 M => rfl) (fun M => rfl)
theorem gl3 (hN : 1000 ≤ N) (hc : gOk c) (hG : 2 ≤ gG c) (hd : d < gD c) (hn : n ≤ 6) : CLG c d n 3 false (Gm_hoursFrom_s3 N) := gameL_s (tm := Gm_tryMove_s3 N) (L := Gm_hoursFrom_s3_20 N) hN hc hG hd (by omega) hn (gl4 hN hc hG hd hn) wr_n (fun a0 M => rfl) (fun f x2 x3 M => rfl) (fun M => rfl)
theorem gl2 (hN : 1000 ≤ N) (hc : gOk c) (hG : 2 ≤ gG c) (hd : d < gD c) (hn : n ≤ 6) : CLG c d n 2 false (Gm_hoursFrom_s2 N) := gameL_s (tm := Gm_tryMove_s2 N) (L := Gm_hoursFrom_s2_20 N) hN hc hG hd (by omega) hn (gl3 hN hc hG hd hn) wr_n (fun a0 M => rfl) (fun f x2 x3 M => rfl) (fun M => rfl)
theorem gl1 (hN : 1000 ≤ N) (hc : gOk c) (hG : 2 ≤ gG c) (hd : d < gD c) (hn : n ≤ 6) : CLG c d n 1 false (Gm_hoursFrom_s1 N) := gameL_s (tm := Gm_tryMove_s1 N) (L := Gm_hoursFrom_s1_20 N) hN hc hG hd (by omega) hn (gl2 hN hc hG hd hn) wr_n (fun a0 M => rfl) (fun f x2 x3 M => rfl) (fun M => rfl)
theorem gl0 (hN : 1000 ≤ N) (hc : gOk c) (hG : 2 ≤ gG c) (hd : d < gD c) (hn : n ≤ 6) : CLG c d n 0 true (Gm_hoursFrom N) := gameL_s (tm := Gm_tryMove N) (L := Gm_hoursFrom_20 N) (wr := fun x M => mWI M 50 0 x) hN hc hG hd (by omega) hn (gl1 hN hc hG hd hn) ⟨fun x M a j q => rN q, fun x M => rfl, fun _ x M => rI rfl, fun q => by cases q⟩ (fun a0 M => rfl) (fun f x2 x3 M => rfl) (fun M => rfl)
end
theorem outcome_s {N : Nat} {c : gar} {d n : Nat} {R : Nat → Int32} {M : mS} (hN : 1000 ≤ N) (hc : gOk c) (hG : 2 ≤ gG c) (hd : d < gD c) (hn0 : 0 < n) (hn : n ≤ 6) (hC : gC c M) (hrow : rowC c (M.1 34) R) : ∃ A, Gm_outcome N (nI d) (nI n) M = some (nI (gvN c d n 0 R), A) ∧ A.1 50 0 = nI (sel 0 (fun k => gnN c d R k + gvN c d (n - 1) 1 (stepR c d R k)) 3).2 ∧ frQ M A := by
  let B : mS := mWW (mWI (mWI M 50 4 (nI d)) 50 5 (nI n)) 52 (va_cpy ((mWI (mWI M 50 4 (nI d)) 50 5 (nI n)).1 34) ((mWI (mWI M 50 4 (nI d)) 50 5 (nI n)).1 52) 0 0 44)
  have fB : ∀ a j, a ≠ 50 → a ≠ 52 → B.1 a j = M.1 a j := fun a j q1 q2 => by show (mWW _ 52 _).1 a j = _; rw [mWW_ne q2, mWI_ne q1, mWI_ne q1]
  have b4 : B.1 50 4 = nI d := by show (mWW _ 52 _).1 50 4 = _; rw [mWW_ne (by omega), rN (by omega), rI rfl]
  have b5 : B.1 50 5 = nI n := by show (mWW _ 52 _).1 50 5 = _; rw [mWW_ne (by omega), rI rfl]
  have b52 : ∀ j, j < 44 → B.1 52 j = M.1 34 j := fun j hj => by
    show (mWW _ 52 _).1 52 j = _
    rw [mWW_eq, pk_cpy_in (by omega) (by omega), mWI_ne (by omega), mWI_ne (by omega)]
    exact congrArg (M.1 34) (by omega)
  obtain ⟨A, eA, gA, fA, lA, -, hA⟩ := gl0 (N := N) hN hc hG hd hn B R (gC_fr hC (fun a j q => fB a j (by omega) (by omega))) b4 b5 (wR_c hc hrow.1 (fun j hj => b52 j (by omega))) hrow.2.2.1
  refine ⟨A, ?_, ?_, fun a j q1 q2 q3 => ?_, lA⟩
  · unfold Gm_outcome
    rw [nxs, show (if (6 : Int32) < nI n then 6 else nI n) = nI n from if_neg (by rw [show (6 : Int32) = nI 6 from rfl, ltP (by omega) (by omega)]; omega), nxs, nxs]
    show bW (Gm_hoursFrom N B) _ = _
    rw [eA, bWs]; rfl
  · exact hA rfl hn0
  · rw [fA a j q1 q2 (by omega) (by omega) (by omega)]; exact fB a j (by omega) (by omega)
/-! the model -/
def frG (M B : mS) : Prop := (∀ a j, a ≠ 93 → a ≠ 94 → a ≠ 96 → a ≠ 97 → a ≠ 103 → a ≠ 104 → (a ≠ 64 ∨ j ≠ 47) → B.1 a j = M.1 a j) ∧ B.2 = M.2
theorem frG.refl {M : mS} : frG M M := ⟨fun _ _ _ _ _ _ _ _ _ => rfl, rfl⟩
theorem frG.trans {A B C : mS} (h : frG A B) (g : frG B C) : frG A C := ⟨fun a j q1 q2 q3 q4 q5 q6 q7 => (g.1 a j q1 q2 q3 q4 q5 q6 q7).trans (h.1 a j q1 q2 q3 q4 q5 q6 q7), g.2.trans h.2⟩
theorem frM.frG {A B : mS} (h : frM A B) : frG A B := ⟨fun a j q1 q2 q3 q4 q5 q6 q7 => h.1 a j q1 q2 q3 q4 q7, h.2⟩
theorem frG.frP {A B : mS} (h : frG A B) : frP A B := ⟨fun a j q1 q2 q3 q4 q5 q6 q7 q8 q9 q10 q11 => h.1 a j q1 q2 q3 q4 q8 q9 (by omega), h.2⟩
theorem frG.gM {c : gar} {v : Nat} {M B : mS} (h : frG M B) (hM : gM c v M) : gM c v B := h.frP.gM hM
theorem frG.md {M B : mS} {m : Option Int32} (h : frG M B) (hM : mdM m M) : mdM m B := by
  unfold mdM
  rw [h.1 64 51 (by omega) (by omega) (by omega) (by omega) (by omega) (by omega) (by omega), h.1 64 50 (by omega) (by omega) (by omega) (by omega) (by omega) (by omega) (by omega)]; exact hM
theorem frG.lv {M B : mS} (h : frG M B) (hM : ∀ k, k < 7 → M.1 102 k = nI (lvA k)) : ∀ k, k < 7 → B.1 102 k = nI (lvA k) := fun k hk => (h.1 _ _ (by omega) (by omega) (by omega) (by omega) (by omega) (by omega) (by omega)).trans (hM k hk)
noncomputable def rowP (c : gar) (d : Nat) (R : Nat → Int32) : Nat → Nat → (Nat → Int32)
  | 0, _ => R
  | l + 1, i => stepR c d (rowP c d R l (i / 3)) (i % 3)
theorem VR_P {c : gar} (hc : gOk c) {R : Nat → Int32} (hR : VR c R) {d : Nat} (hd : d < gD c) : ∀ l i, VR c (rowP c d R l i)
  | 0, _ => hR
  | l + 1, i => VR_step hc (VR_P hc hR hd l _) hd
theorem lv_k : ∀ l, l < 6 → lvA (l + 1) = lvA l + 3 ^ l ∧ lvA (l + 1) ≤ 364 ∧ 3 ^ l ≤ 243 := by decide +kernel
theorem plays_s {N : Nat} {c : gar} {v d k z : Nat} {R : Nat → Int32} {M : mS} (hN : 1000 ≤ N) (hc : gOk c) (hG : 2 ≤ gG c) (hd : d < gD c) (hk : k < 3) (hz : z < 364) (hM : gM c v M) (hm : mdM none M) (hr : ∀ j, j < 29 → M.1 103 (29 * z + j) = R j) (hR : VR c R) : ∃ B, Mo_plays N (nI z) (nI d) (nI k) M = some (nI (gnN c d R k), B) ∧ rM B (stepR c d R k) ∧ frM M B := by
  obtain ⟨hc1, hc2, hc3, hc4, hc5, hc6⟩ := id hc
  obtain ⟨e1, e2, e3, e4⟩ := oN_s hc hR hd
  have load : ∃ A, Mo_loads N (nI z) M = some A ∧ rM A R ∧ (∀ a j, a ≠ 96 → A.1 a j = M.1 a j) ∧ A.2 = M.2 := by
    unfold Mo_loads
    refine iter (F := fun f i (s : mS) => Mo_loads_2 N f (nI z) (nI i) s) (i := 0) (f := N) (s := M) (n := 29) (Q := fun r => ∃ A, r = some A ∧ rM A R ∧ (∀ a j, a ≠ 96 → A.1 a j = M.1 a j) ∧ A.2 = M.2) (fun i s => (∀ j, j < i → s.1 96 j = R j) ∧ (∀ a j, a ≠ 96 → s.1 a j = M.1 a j) ∧ s.2 = M.2) ?_ ?_ (Nat.zero_le _) (by omega) ⟨fun k hk => absurd hk (Nat.not_lt_zero _), fun _ _ _ => rfl, rfl⟩
    · rintro f i s hi ⟨h1, h2, h3⟩
      have e : s.1 103 (29 * z + i) = R i := (h2 _ _ (by omega)).trans (hr i hi)
      refine Or.inl ⟨mWI s 96 i (R i), ⟨fun j hj => ?_, fun a j ha => by rw [mWI_ne ha]; exact h2 a j ha, h3⟩, ?_⟩
      · by_cases q : j = i
        · rw [rI q, q]
        · rw [rN (by omega)]; exact h1 j (by omega)
      · simp (disch := omega) only [Mo_loads_2, li, leP, if_neg, pk_mul, nI_add, grd_in, clp, nxs, e]
    · rintro f s ⟨h1, h2, h3⟩
      refine ⟨s, ?_, h1, h2, h3⟩
      rw [Mo_loads_2, if_pos (by decide)]
  obtain ⟨A, eA, a1, a2, a3⟩ := load
  have fA : frM M A := ⟨fun a j q1 q2 q3 q4 q5 => a2 a j q3, a3⟩
  have gA := fA.gM hM
  have a96 : A.1 96 d = nI (oN R d) := (a1 d (by omega)).trans e1
  let D : mS := mWI A 96 d (nI ((oN R d + k) % gH c))
  have fD : frM A D := ⟨fun a j q1 q2 q3 q4 q5 => by show (mWI _ 96 _ _).1 a j = _; rw [mWI_ne q3], rfl⟩
  have rD : rM D (turnR c d R k) := fun i hi => by
    show (mWI A 96 d _).1 96 i = upd R d _ i
    by_cases e : i = d
    · rw [rI e, e, pk_us]
    · rw [rN (by omega), pk_un e]; exact a1 i hi
  obtain ⟨E, eE, x1, x2, x3⟩ := nightGoes_s (N := N) (m := none) hN hc (fD.gM gA) rD (VR_turn hc hR hd) (fD.md (fA.md hm))
  refine ⟨E, ?_, x2, fA.trans (fD.trans x3)⟩
  have p01 : pA 0 1 = 0 := by decide
  have n18 : nx c none (turnR c d R k) 18 = turnR c d R k 18 + nI (gnN c d R k) := by
    have := nx_p hc (m := none) (R := turnR c d R k) (show 0 < 1 by omega) (show 1 < gG c by omega)
    rw [p01, and_cm, (gnN_s hc).1] at this
    exact this
  unfold Mo_plays
  rw [eA, bVs, grd_in (by omega) (by omega), hours_s gA, bRs, nz_n (by omega) (by omega), grd_in (by omega) (by omega), clp (by omega), a96, nI_add, rmP (by omega) (by omega) (by omega), nxs, nxs]
  show bV (Mo_nightGoes N D) _ = _
  rw [eE, bVs, x2 18 (by omega)]
  show some (stepR c d R k 18 - D.1 96 18, E) = _
  rw [rD 18 (by omega), show stepR c d R k 18 = turnR c d R k 18 + nI (gnN c d R k) from n18, Int32.add_comm, Int32.add_sub_cancel]
/-- rows laid out up to level L -/
def ROWS (c : gar) (d : Nat) (R : Nat → Int32) (L : Nat) (q : Nat) (B : mS) : Prop := (∀ l, l ≤ L → ∀ i, i < 3 ^ l → ∀ j, j < 29 → B.1 103 (29 * (lvA l + i) + j) = rowP c d R l i j) ∧ ∀ i, i < q → ∀ j, j < 29 → B.1 103 (29 * (lvA (L + 1) + i) + j) = rowP c d R (L + 1) i j
theorem childOf_s {N : Nat} {M : mS} {l i k : Nat} (h : ∀ k, k < 7 → M.1 102 k = nI (lvA k)) (hl : l < 6) (hi : i < 3 ^ l) : Mo_childOf N (nI (lvA l + i)) (nI l) (nI k) M = some (nI (lvA (l + 1) + 3 * i + k)) := by
  have k1 := lv_k l hl
  unfold Mo_childOf
  rw [show nI l + 1 = nI (l + 1) from nI_add l 1, grd_in (by omega) (by omega), grd_in (by omega) (by omega), clp (by omega), clp (by omega), h _ (by omega), h _ (by omega), sbP (by omega), show lvA l + i - lvA l = i by omega, show (3 : Int32) * nI i = nI (3 * i) from pk_mul 3 i, nI_add, nI_add]
theorem pow3 : ∀ l, l < 6 → 3 ^ (l + 1) = 3 * 3 ^ l := by decide +kernel
theorem div3 {i k : Nat} (hk : k < 3) : (3 * i + k) / 3 = i ∧ (3 * i + k) % 3 = k := by omega
theorem lv_far : ∀ l, l < 7 → ∀ l', l' ≤ l → l' < l → lvA l' + 3 ^ l' ≤ lvA l := by decide +kernel
theorem spreads_s {N : Nat} {c : gar} {v d l i : Nat} {R : Nat → Int32} {M : mS} (hN : 1000 ≤ N) (hc : gOk c) (hG : 2 ≤ gG c) (hd : d < gD c) (hl : l < 5) (hi : i < 3 ^ l) (hM : gM c v M) (hm : mdM none M) (hlv : ∀ k, k < 7 → M.1 102 k = nI (lvA k)) (hR : VR c R) (h : ROWS c d R l (3 * i) M) : ∃ B, Mo_spreads N (nI (lvA l + i)) (nI l) (nI d) M = some B ∧ ROWS c d R l (3 * (i + 1)) B ∧ frG M B := by
  have k1 := lv_k l (by omega)
  have k2 := lv_k (l + 1) (by omega)
  have p3 := pow3 l (by omega)
  unfold Mo_spreads
  refine iter (F := fun f k (s : mS) => Mo_spreads_3 N f (nI (lvA l + i)) (nI l) (nI d) (nI k) s) (i := 0) (f := N) (s := M) (n := 3) (Q := fun r => ∃ B, r = some B ∧ ROWS c d R l (3 * (i + 1)) B ∧ frG M B) (fun k s => ROWS c d R l (3 * i + k) s ∧ frG M s) ?_ ?_ (Nat.zero_le _) (by omega) ⟨h, frG.refl⟩
  · rintro f k s hk ⟨h1, h2⟩
    obtain ⟨B, eB, b1, b2⟩ := plays_s (N := N) (k := k) (z := lvA l + i) (R := rowP c d R l i) hN hc hG hd hk (by omega) (h2.gM hM) (h2.md hm) (fun j hj => h1.1 l (Nat.le_refl _) i hi j hj) (VR_P hc hR hd l i)
    have f2 : frG M B := h2.trans b2.frG
    have b103 : ∀ j, B.1 103 j = s.1 103 j := fun j => b2.1 103 j (by omega) (by omega) (by omega) (by omega) (by omega)
    have copy : ∃ A, Mo_spreads_34 N (Mo_spreads_3 N f) N (nI (lvA l + i)) (nI l) (nI d) (nI k) (nI (29 * (lvA (l + 1) + 3 * i + k))) 0 B = Mo_spreads_3 N f (nI (lvA l + i)) (nI l) (nI d) (nI (k + 1)) A ∧ (∀ j, j < 29 → A.1 103 (29 * (lvA (l + 1) + 3 * i + k) + j) = stepR c d (rowP c d R l i) k j) ∧ (∀ j, (j < 29 * (lvA (l + 1) + 3 * i + k) ∨ 29 * (lvA (l + 1) + 3 * i + k) + 29 ≤ j) → A.1 103 j = B.1 103 j) ∧ (∀ a j, a ≠ 103 → A.1 a j = B.1 a j) ∧ A.2 = B.2 := by
      refine iter (F := fun u j (t : mS) => Mo_spreads_34 N (Mo_spreads_3 N f) u (nI (lvA l + i)) (nI l) (nI d) (nI k) (nI (29 * (lvA (l + 1) + 3 * i + k))) (nI j) t) (i := 0) (f := N) (s := B) (n := 29) (Q := fun r => ∃ A, r = Mo_spreads_3 N f (nI (lvA l + i)) (nI l) (nI d) (nI (k + 1)) A ∧ (∀ j, j < 29 → A.1 103 (29 * (lvA (l + 1) + 3 * i + k) + j) = stepR c d (rowP c d R l i) k j) ∧ (∀ j, (j < 29 * (lvA (l + 1) + 3 * i + k) ∨ 29 * (lvA (l + 1) + 3 * i + k) + 29 ≤ j) → A.1 103 j = B.1 103 j) ∧ (∀ a j, a ≠ 103 → A.1 a j = B.1 a j) ∧ A.2 = B.2) (fun j t => (∀ q, q < j → t.1 103 (29 * (lvA (l + 1) + 3 * i + k) + q) = stepR c d (rowP c d R l i) k q) ∧ (∀ j, (j < 29 * (lvA (l + 1) + 3 * i + k) ∨ 29 * (lvA (l + 1) + 3 * i + k) + 29 ≤ j) → t.1 103 j = B.1 103 j) ∧ (∀ a j, a ≠ 103 → t.1 a j = B.1 a j) ∧ t.2 = B.2) ?_ ?_ (Nat.zero_le _) (by omega) ⟨fun q hq => absurd hq (Nat.not_lt_zero _), fun _ _ => rfl, fun _ _ _ => rfl, rfl⟩
      · rintro u j t hj ⟨t1, t2, t3, t4⟩
        have e96 : t.1 96 j = stepR c d (rowP c d R l i) k j := (t3 _ _ (by omega)).trans (b1 j hj)
        refine Or.inl ⟨mWI t 103 (29 * (lvA (l + 1) + 3 * i + k) + j) (stepR c d (rowP c d R l i) k j), ⟨fun q hq => ?_, fun q hq => by rw [rN (by omega)]; exact t2 q hq, fun a q ha => by rw [mWI_ne ha]; exact t3 a q ha, t4⟩, ?_⟩
        · by_cases e : q = j
          · rw [rI (by rw [e]), e]
          · rw [rN (by omega)]; exact t1 q (by omega)
        · rw [Mo_spreads_34, if_neg (by rw [show (29 : Int32) = nI 29 from rfl, leP (by omega) (by omega)]; omega), grd_in (by omega) (by omega), nI_add, grd_in (by omega) (by omega), clp (by omega), clp (by omega), e96, nxs, show nI j + 1 = nI (j + 1) from nI_add j 1]
      · rintro u t ⟨t1, t2, t3, t4⟩
        refine ⟨t, ?_, t1, t2, t3, t4⟩
        rw [Mo_spreads_34, if_pos (by decide), show nI k + 1 = nI (k + 1) from nI_add k 1]
    obtain ⟨A, eA, a1, a2, a3, a4⟩ := copy
    refine Or.inl ⟨A, ⟨⟨fun l' hl' i' hi' j hj => ?_, fun i' hi' j hj => ?_⟩, f2.trans ⟨fun a j q1 q2 q3 q4 q5 q6 q7 => a3 a j q5, a4⟩⟩, ?_⟩
    · have := lv_far (l + 1) (by omega) l' (by omega) (by omega)
      rw [a2 _ (by omega), b103]; exact h1.1 l' hl' i' hi' j hj
    · by_cases e : i' = 3 * i + k
      · subst e
        rw [show lvA (l + 1) + (3 * i + k) = lvA (l + 1) + 3 * i + k by omega, a1 j hj]
        show _ = stepR c d (rowP c d R l ((3 * i + k) / 3)) ((3 * i + k) % 3) j
        rw [(div3 hk).1, (div3 hk).2]
      · rw [a2 _ (by omega), b103]; exact h1.2 i' (by omega) j hj
    · rw [Mo_spreads_3, if_neg (by rw [show (3 : Int32) = nI 3 from rfl, leP (by omega) (by omega)]; omega), eB, bWs, childOf_s (f2.lv hlv) (by omega) hi, bRs, show (29 : Int32) * nI (lvA (l + 1) + 3 * i + k) = nI (29 * (lvA (l + 1) + 3 * i + k)) from pk_mul 29 _, nxs, eA]
  · rintro f s ⟨h1, h2⟩
    refine ⟨s, ?_, h1, h2⟩
    rw [Mo_spreads_3, if_pos (by decide)]
/-- values known at level l + 1 and below, and at level l up to q -/
def VALS (c : gar) (d n : Nat) (R : Nat → Int32) (l q : Nat) (B : mS) : Prop := (l + 1 < n → ∀ i, i < 3 ^ (l + 1) → B.1 104 (lvA (l + 1) + i) = nI (gvN c d (n - (l + 1)) (l + 1) (rowP c d R (l + 1) i))) ∧ ∀ i, i < q → B.1 104 (lvA l + i) = nI (gvN c d (n - l) l (rowP c d R l i))
theorem gainBy_s {N : Nat} {c : gar} {v d n l i k : Nat} {R : Nat → Int32} {M : mS} (hN : 1000 ≤ N) (hc : gOk c) (hG : 2 ≤ gG c) (hd : d < gD c) (hl : l < n) (hn : n ≤ 6) (hi : i < 3 ^ l) (hk : k < 3) (hM : gM c v M) (hm : mdM none M) (hlv : ∀ k, k < 7 → M.1 102 k = nI (lvA k)) (hR : VR c R) (hrow : ∀ j, j < 29 → M.1 103 (29 * (lvA l + i) + j) = rowP c d R l i j) (hv : l + 1 < n → ∀ i, i < 3 ^ (l + 1) → M.1 104 (lvA (l + 1) + i) = nI (gvN c d (n - (l + 1)) (l + 1) (rowP c d R (l + 1) i))) : ∃ B, Mo_gainBy N (nI (lvA l + i)) (nI l) (nI d) (nI k) (nI n) M = some (nI (gnN c d (rowP c d R l i) k + gvN c d (n - l - 1) (l + 1) (stepR c d (rowP c d R l i) k)), B) ∧ frM M B := by
  have k1 := lv_k l (by omega)
  have p3 := pow3 l (by omega)
  obtain ⟨B, eB, b1, b2⟩ := plays_s (N := N) (k := k) (z := lvA l + i) (R := rowP c d R l i) hN hc hG hd hk (by omega) hM hm hrow (VR_P hc hR hd l i)
  refine ⟨B, ?_, b2⟩
  unfold Mo_gainBy
  rw [eB, bWs, show nI n - 1 = nI (n - 1) from sbP (b := 1) (by omega)]
  by_cases e : l = n - 1
  · rw [if_pos (by rw [e]), show n - l - 1 = 0 by omega]; rfl
  · have k2 := lv_k (l + 1) (by omega)
    have e104 : B.1 104 (lvA (l + 1) + 3 * i + k) = nI (gvN c d (n - l - 1) (l + 1) (stepR c d (rowP c d R l i) k)) := by
      rw [b2.1 104 _ (by omega) (by omega) (by omega) (by omega) (by omega), show lvA (l + 1) + 3 * i + k = lvA (l + 1) + (3 * i + k) by omega, hv (by omega) _ (by omega), show n - (l + 1) = n - l - 1 by omega]
      show nI (gvN c d (n - l - 1) (l + 1) (stepR c d (rowP c d R l ((3 * i + k) / 3)) ((3 * i + k) % 3))) = _
      rw [(div3 hk).1, (div3 hk).2]
    rw [if_neg (by rw [eqP (by omega) (by omega)]; exact e), childOf_s (b2.frG.lv hlv) (by omega) hi, bRs, grd_in (by omega) (by omega), clp (by omega), e104, nI_add]
noncomputable def nodF (c : gar) (d n : Nat) (R : Nat → Int32) (l i : Nat) (k : Nat) : Nat := gnN c d (rowP c d R l i) k + gvN c d (n - l - 1) (l + 1) (stepR c d (rowP c d R l i) k)
theorem nodF_le {c : gar} (hc : gOk c) {d n : Nat} (hn : n ≤ 6) {R : Nat → Int32} {l i k : Nat} : nodF c d n R l i k ≤ 200 := by
  have := (gnN_s hc (d := d) (k := k) (R := rowP c d R l i)).2
  have := gvN_le hc (d := d) (n - l - 1) (l + 1) (stepR c d (rowP c d R l i) k)
  unfold nodF; omega
theorem bestAt_s {N : Nat} {c : gar} {v d n l i : Nat} {R : Nat → Int32} {M : mS} (hN : 1000 ≤ N) (hc : gOk c) (hG : 2 ≤ gG c) (hd : d < gD c) (hl : l < n) (hn : n ≤ 6) (hi : i < 3 ^ l) (hM : gM c v M) (hm : mdM none M) (hlv : ∀ k, k < 7 → M.1 102 k = nI (lvA k)) (hR : VR c R) (hrow : ∀ j, j < 29 → M.1 103 (29 * (lvA l + i) + j) = rowP c d R l i j) (hv : l + 1 < n → ∀ i, i < 3 ^ (l + 1) → M.1 104 (lvA (l + 1) + i) = nI (gvN c d (n - (l + 1)) (l + 1) (rowP c d R (l + 1) i))) : ∃ B, Mo_bestAt N (nI (lvA l + i)) (nI l) (nI d) (nI n) M = some (nI (sel l (nodF c d n R l i) 3).2, B) ∧ frM M B := by
  have gain : ∀ k, k < 3 → ∀ t, frM M t → ∃ B, Mo_gainBy N (nI (lvA l + i)) (nI l) (nI d) (nI k) (nI n) t = some (nI (nodF c d n R l i k), B) ∧ frM M B := by
    intro k hk t ft
    obtain ⟨B, eB, b1⟩ := gainBy_s (N := N) (k := k) (n := n) hN hc hG hd hl hn hi hk (ft.gM hM) (ft.md hm) (ft.frG.lv hlv) hR (fun j hj => (ft.1 _ _ (by omega) (by omega) (by omega) (by omega) (by omega)).trans (hrow j hj)) (fun q i hi => (ft.1 _ _ (by omega) (by omega) (by omega) (by omega) (by omega)).trans (hv q i hi))
    exact ⟨B, eB, ft.trans b1⟩
  have hS : ∀ k, (sel l (nodF c d n R l i) k).1 ≤ 200 := sel_le (fun k => nodF_le hc hn)
  obtain ⟨A, eA, fA⟩ := gain 0 (by omega) M frM.refl
  unfold Mo_bestAt
  rw [show (0 : Int32) = nI 0 from rfl, eA, bWs]
  have s1 : sel l (nodF c d n R l i) 1 = (nodF c d n R l i 0, 0) := sel_y (Or.inl rfl)
  have em : nI l - nI l / 2 * 2 = nI (l % 2) := rmP (b := 2) (by omega) (by omega) (by omega)
  refine iter (F := fun f k (s : (Int32 × Int32) × mS) => Mo_bestAt_18 N f (nI (lvA l + i)) (nI l) (nI d) (nI n) s.1.1 s.1.2 (nI (k + 1)) s.2) (i := 0) (f := N) (s := ((nI 0, nI (nodF c d n R l i 0)), A)) (n := 2) (Q := fun r => ∃ B, r = some (nI (sel l (nodF c d n R l i) 3).2, B) ∧ frM M B) (fun k s => s.1.1 = nI (sel l (nodF c d n R l i) (k + 1)).2 ∧ s.1.2 = nI (sel l (nodF c d n R l i) (k + 1)).1 ∧ frM M s.2) ?_ ?_ (Nat.zero_le _) (by omega) ⟨by rw [s1], by rw [s1], fA⟩
  · rintro f k ⟨⟨x, y⟩, t⟩ hk ⟨h1, h2, h3⟩
    dsimp only at h1 h2 h3
    subst h1 h2
    obtain ⟨B, eB, fB⟩ := gain (k + 1) (by omega) t h3
    have hS1 := hS (k + 1)
    have hN1 := nodF_le hc (d := d) hn (R := R) (l := l) (i := i) (k := k + 1)
    have k3 : ¬ (3 : Int32) ≤ nI (k + 1) := by rw [show (3 : Int32) = nI 3 from rfl, leP (by omega) (by omega)]; omega
    have key : Mo_bestAt_18 N (f + 1) (nI (lvA l + i)) (nI l) (nI d) (nI n) (nI (sel l (nodF c d n R l i) (k + 1)).2) (nI (sel l (nodF c d n R l i) (k + 1)).1) (nI (k + 1)) t = if nI (l % 2) = 0 then (if nI (sel l (nodF c d n R l i) (k + 1)).1 < nI (nodF c d n R l i (k + 1)) then Mo_bestAt_18 N f (nI (lvA l + i)) (nI l) (nI d) (nI n) (nI (k + 1)) (nI (nodF c d n R l i (k + 1))) (nI (k + 1 + 1)) B else Mo_bestAt_18 N f (nI (lvA l + i)) (nI l) (nI d) (nI n) (nI (sel l (nodF c d n R l i) (k + 1)).2) (nI (sel l (nodF c d n R l i) (k + 1)).1) (nI (k + 1 + 1)) B) else (if nI (nodF c d n R l i (k + 1)) < nI (sel l (nodF c d n R l i) (k + 1)).1 then Mo_bestAt_18 N f (nI (lvA l + i)) (nI l) (nI d) (nI n) (nI (k + 1)) (nI (nodF c d n R l i (k + 1))) (nI (k + 1 + 1)) B else Mo_bestAt_18 N f (nI (lvA l + i)) (nI l) (nI d) (nI n) (nI (sel l (nodF c d n R l i) (k + 1)).2) (nI (sel l (nodF c d n R l i) (k + 1)).1) (nI (k + 1 + 1)) B) := by
      rw [Mo_bestAt_18, if_neg k3, eB, bWs, em]
      unfold Mo_bestAt_63 Mo_bestAt_71
      rw [show nI (k + 1) + 1 = nI (k + 1 + 1) from nI_add (k + 1) 1]
    refine Or.inl ?_
    by_cases q : btr l (sel l (nodF c d n R l i) (k + 1)).1 (nodF c d n R l i (k + 1))
    · refine ⟨((nI (k + 1), nI (nodF c d n R l i (k + 1))), B), ⟨by rw [sel_y (Or.inr q)], by rw [sel_y (Or.inr q)], fB⟩, ?_⟩
      dsimp only
      rw [key]
      unfold btr at q
      by_cases e : l % 2 = 0
      · rw [if_pos e] at q
        rw [e, if_pos (by decide), if_pos (by rw [ltP (by omega) (by omega)]; exact q)]
      · rw [if_neg e] at q
        rw [if_neg (by rw [li0, eqP (by omega) (by omega)]; exact e), if_pos (by rw [ltP (by omega) (by omega)]; exact q)]
    · refine ⟨((nI (sel l (nodF c d n R l i) (k + 1)).2, nI (sel l (nodF c d n R l i) (k + 1)).1), B), ⟨by rw [sel_n (fun z => z.elim (fun z => by omega) q)], by rw [sel_n (fun z => z.elim (fun z => by omega) q)], fB⟩, ?_⟩
      dsimp only
      rw [key]
      unfold btr at q
      by_cases e : l % 2 = 0
      · rw [if_pos e] at q
        rw [e, if_pos (by decide), if_neg (by rw [ltP (by omega) (by omega)]; exact q)]
      · rw [if_neg e] at q
        rw [if_neg (by rw [li0, eqP (by omega) (by omega)]; exact e), if_neg (by rw [ltP (by omega) (by omega)]; exact q)]
  · rintro f ⟨⟨x, y⟩, t⟩ ⟨h1, h2, h3⟩
    dsimp only at h1 h2 h3
    subst h1 h2
    refine ⟨t, ?_, h3⟩
    dsimp only
    rw [Mo_bestAt_18, if_pos (by decide)]
theorem gv_nod {c : gar} {d n l i : Nat} {R : Nat → Int32} (hl : l < n) : gvN c d (n - l) l (rowP c d R l i) = (sel l (nodF c d n R l i) 3).1 := by
  obtain ⟨r, er⟩ : ∃ r, n - l = r + 1 := ⟨n - l - 1, by omega⟩
  have e : nodF c d n R l i = fun k => gnN c d (rowP c d R l i) k + gvN c d r (l + 1) (stepR c d (rowP c d R l i) k) := by
    funext k; unfold nodF; rw [show n - l - 1 = r by omega]
  rw [er, e]; rfl
theorem game_M {N : Nat} {c : gar} {v d n w : Nat} {R : Nat → Int32} {M : mS} (hN : 1000 ≤ N) (hc : gOk c) (hG : 2 ≤ gG c) (hd : d < gD c) (hn0 : 0 < n) (hn : n ≤ 6) (hM : gM c v M) (hm : mdM none M) (hlv : ∀ k, k < 7 → M.1 102 k = nI (lvA k)) (hr : rM M R) (hR : VR c R) : ∃ B, Mo_game_49 N N (nI d) (nI n) (nI w) 0 M = (if nI w = 0 then some (nI (gvN c d n 0 R), B) else some (nI (sel 0 (fun k => gnN c d R k + gvN c d (n - 1) 1 (stepR c d R k)) 3).2, B)) ∧ frP M B := by
  have hnod : nodF c d n R 0 0 = fun k => gnN c d R k + gvN c d (n - 1) 1 (stepR c d R k) := by
    funext k; unfold nodF; rw [Nat.sub_zero]; rfl
  -- the first row
  have first : ∃ A, Mo_game_49 N N (nI d) (nI n) (nI w) 0 M = Mo_game_79 N N (nI d) (nI n) (nI w) 0 A ∧ ROWS c d R 0 0 A ∧ frG M A := by
    refine iter (F := fun f j (s : mS) => Mo_game_49 N f (nI d) (nI n) (nI w) (nI j) s) (i := 0) (f := N) (s := M) (n := 29) (Q := fun r => ∃ A, r = Mo_game_79 N N (nI d) (nI n) (nI w) 0 A ∧ ROWS c d R 0 0 A ∧ frG M A) (fun j s => (∀ q, q < j → s.1 103 q = R q) ∧ (∀ a q, a ≠ 103 → s.1 a q = M.1 a q) ∧ s.2 = M.2) ?_ ?_ (Nat.zero_le _) (by omega) ⟨fun q hq => absurd hq (Nat.not_lt_zero _), fun _ _ _ => rfl, rfl⟩
    · rintro f j s hj ⟨s1, s2, s3⟩
      have e96 : s.1 96 j = R j := (s2 _ _ (by omega)).trans (hr j hj)
      refine Or.inl ⟨mWI s 103 j (R j), ⟨fun q hq => ?_, fun a q ha => by rw [mWI_ne ha]; exact s2 a q ha, s3⟩, ?_⟩
      · by_cases e : q = j
        · rw [rI e, e]
        · rw [rN (by omega)]; exact s1 q (by omega)
      · rw [Mo_game_49, if_neg (by rw [show (29 : Int32) = nI 29 from rfl, leP (by omega) (by omega)]; omega), grd_in (by omega) (by omega), grd_in (by omega) (by omega), clp (by omega), e96, nxs, show nI j + 1 = nI (j + 1) from nI_add j 1]
    · rintro f s ⟨s1, s2, s3⟩
      refine ⟨s, ?_, ⟨fun l hl i hi j hj => ?_, fun i hi => absurd hi (Nat.not_lt_zero _)⟩, fun a j q1 q2 q3 q4 q5 q6 q7 => s2 a j q5, s3⟩
      · rw [Mo_game_49, if_pos (by decide)]
      · have : l = 0 := by omega
        subst this
        have : i = 0 := by
          have : (3 : Nat) ^ 0 = 1 := rfl
          omega
        subst this
        rw [show 29 * (lvA 0 + 0) + j = j by show 29 * (0 + 0) + j = j; omega]
        exact s1 j hj
  obtain ⟨A, eA, rA, fA⟩ := first
  -- all rows
  have rows : ∃ B, Mo_game_79 N N (nI d) (nI n) (nI w) 0 A = Mo_game_136 N N (nI d) (nI n) (nI w) (nI (n - 1)) B ∧ ROWS c d R (n - 1) 0 B ∧ frG M B := by
    refine iter (F := fun f l (s : mS) => Mo_game_79 N f (nI d) (nI n) (nI w) (nI l) s) (i := 0) (f := N) (s := A) (n := n - 1) (Q := fun r => ∃ B, r = Mo_game_136 N N (nI d) (nI n) (nI w) (nI (n - 1)) B ∧ ROWS c d R (n - 1) 0 B ∧ frG M B) (fun l s => ROWS c d R l 0 s ∧ frG M s) ?_ ?_ (Nat.zero_le _) (by omega) ⟨rA, fA⟩
    · rintro f l s hl ⟨s1, s2⟩
      have k1 := lv_k l (by omega)
      have p3 := pow3 l (by omega)
      have lv := s2.lv hlv
      have inner : ∃ B, Mo_game_96 N (Mo_game_79 N f) N (nI d) (nI n) (nI w) (nI l) (nI (lvA l + 0)) s = Mo_game_79 N f (nI d) (nI n) (nI w) (nI (l + 1)) B ∧ ROWS c d R l (3 * 3 ^ l) B ∧ frG M B := by
        refine iter (F := fun u i (t : mS) => Mo_game_96 N (Mo_game_79 N f) u (nI d) (nI n) (nI w) (nI l) (nI (lvA l + i)) t) (i := 0) (f := N) (s := s) (n := 3 ^ l) (Q := fun r => ∃ B, r = Mo_game_79 N f (nI d) (nI n) (nI w) (nI (l + 1)) B ∧ ROWS c d R l (3 * 3 ^ l) B ∧ frG M B) (fun i t => ROWS c d R l (3 * i) t ∧ frG M t) ?_ ?_ (Nat.zero_le _) (by omega) ⟨s1, s2⟩
        · rintro u i t hi ⟨t1, t2⟩
          obtain ⟨B, eB, b1, b2⟩ := spreads_s (N := N) (v := v) (M := t) hN hc hG hd (show l < 5 by omega) hi (t2.gM hM) (t2.md hm) (t2.lv hlv) hR t1
          refine Or.inl ⟨B, ⟨b1, t2.trans b2⟩, ?_⟩
          rw [Mo_game_96, show nI l + 1 = nI (l + 1) from nI_add l 1, grd_in (by omega) (by omega), clp (by omega), t2.lv hlv _ (by omega), if_neg (by rw [leP (by omega) (by omega)]; omega), eB, bVs, show nI (lvA l + i) + 1 = nI (lvA l + (i + 1)) by rw [i1, nI_add, Nat.add_assoc]]
        · rintro u t ⟨t1, t2⟩
          refine ⟨t, ?_, t1, t2⟩
          rw [Mo_game_96, show nI l + 1 = nI (l + 1) from nI_add l 1, grd_in (by omega) (by omega), clp (by omega), t2.lv hlv _ (by omega), if_pos (by rw [leP (by omega) (by omega)]; omega)]
      obtain ⟨B, eB, b1, b2⟩ := inner
      refine Or.inl ⟨B, ⟨⟨fun l' hl' i hi j hj => ?_, fun i hi => absurd hi (Nat.not_lt_zero _)⟩, b2⟩, ?_⟩
      · by_cases e : l' = l + 1
        · subst e; exact b1.2 i (by omega) j hj
        · exact b1.1 l' (by omega) i hi j hj
      · rw [Mo_game_79, show nI n - 1 = nI (n - 1) from sbP (b := 1) (by omega), if_neg (by rw [leP (by omega) (by omega)]; omega), grd_in (by omega) (by omega), clp (by omega), lv _ (by omega), nxs]
        exact eB
    · rintro f s ⟨s1, s2⟩
      refine ⟨s, ?_, s1, s2⟩
      rw [Mo_game_79, show nI n - 1 = nI (n - 1) from sbP (b := 1) (by omega), if_pos (by rw [leP (by omega) (by omega)]; omega), nxs]
  obtain ⟨B, eB, rB, fB⟩ := rows
  -- all values: u counts the levels from below
  have vals : ∃ D, Mo_game_136 N N (nI d) (nI n) (nI w) (nI (n - 1)) B = (if nI w = 0 then some (nI (gvN c d n 0 R), D) else some (nI (sel 0 (fun k => gnN c d R k + gvN c d (n - 1) 1 (stepR c d R k)) 3).2, D)) ∧ frP M D := by
    have e0 : nI (n - 1) = nI (n - 0) - 1 := by rw [Nat.sub_zero]; exact (sbP (b := 1) (by omega)).symm
    rw [e0]
    refine iter (F := fun f u (s : mS) => Mo_game_136 N f (nI d) (nI n) (nI w) (nI (n - u) - 1) s) (i := 0) (f := N) (s := B) (n := n) (Q := fun r => ∃ D, r = (if nI w = 0 then some (nI (gvN c d n 0 R), D) else some (nI (sel 0 (fun k => gnN c d R k + gvN c d (n - 1) 1 (stepR c d R k)) 3).2, D)) ∧ frP M D) (fun u s => (∀ l, l ≤ n - 1 → ∀ i, i < 3 ^ l → ∀ j, j < 29 → s.1 103 (29 * (lvA l + i) + j) = rowP c d R l i j) ∧ (∀ l, n - u ≤ l → l < n → ∀ i, i < 3 ^ l → s.1 104 (lvA l + i) = nI (gvN c d (n - l) l (rowP c d R l i))) ∧ frG M s) ?_ ?_ (Nat.zero_le _) (by omega) ⟨rB.1, fun l q1 q2 => by omega, fB⟩
    · rintro f u s hu ⟨s1, s2, s3⟩
      obtain ⟨l, el⟩ : ∃ l, n - u = l + 1 := ⟨n - u - 1, by omega⟩
      have el2 : n - (u + 1) = l := by omega
      have k1 := lv_k l (by omega)
      have lv := s3.lv hlv
      have inner : ∃ D, Mo_game_150 N (Mo_game_136 N f) N (nI d) (nI n) (nI w) (nI l) (nI (lvA l + 0)) s = Mo_game_136 N f (nI d) (nI n) (nI w) (nI l - 1) D ∧ (∀ l, l ≤ n - 1 → ∀ i, i < 3 ^ l → ∀ j, j < 29 → D.1 103 (29 * (lvA l + i) + j) = rowP c d R l i j) ∧ (∀ l', l ≤ l' → l' < n → ∀ i, i < 3 ^ l' → D.1 104 (lvA l' + i) = nI (gvN c d (n - l') l' (rowP c d R l' i))) ∧ frG M D := by
        refine iter (F := fun g i (t : mS) => Mo_game_150 N (Mo_game_136 N f) g (nI d) (nI n) (nI w) (nI l) (nI (lvA l + i)) t) (i := 0) (f := N) (s := s) (n := 3 ^ l) (Q := fun r => ∃ D, r = Mo_game_136 N f (nI d) (nI n) (nI w) (nI l - 1) D ∧ (∀ l, l ≤ n - 1 → ∀ i, i < 3 ^ l → ∀ j, j < 29 → D.1 103 (29 * (lvA l + i) + j) = rowP c d R l i j) ∧ (∀ l', l ≤ l' → l' < n → ∀ i, i < 3 ^ l' → D.1 104 (lvA l' + i) = nI (gvN c d (n - l') l' (rowP c d R l' i))) ∧ frG M D) (fun i t => (∀ l, l ≤ n - 1 → ∀ i, i < 3 ^ l → ∀ j, j < 29 → t.1 103 (29 * (lvA l + i) + j) = rowP c d R l i j) ∧ (∀ q, q < i → t.1 104 (lvA l + q) = nI (gvN c d (n - l) l (rowP c d R l q))) ∧ (∀ l', l + 1 ≤ l' → l' < n → ∀ i, i < 3 ^ l' → t.1 104 (lvA l' + i) = nI (gvN c d (n - l') l' (rowP c d R l' i))) ∧ frG M t) ?_ ?_ (Nat.zero_le _) (by omega) ⟨s1, fun q hq => absurd hq (Nat.not_lt_zero _), fun l' q1 q2 => s2 l' (by omega) q2, s3⟩
        · rintro g i t hi ⟨t1, t2, t3, t4⟩
          have hv : l + 1 < n → ∀ i, i < 3 ^ (l + 1) → t.1 104 (lvA (l + 1) + i) = nI (gvN c d (n - (l + 1)) (l + 1) (rowP c d R (l + 1) i)) := fun q i hi => t3 (l + 1) (Nat.le_refl _) q i hi
          obtain ⟨E, eE, fE⟩ := bestAt_s (N := N) (n := n) (M := t) hN hc hG hd (show l < n by omega) hn hi (t4.gM hM) (t4.md hm) (t4.lv hlv) hR (fun j hj => t1 l (by omega) i hi j hj) hv
          have hs2 := (sel_eq (l := l) (f := nodF c d n R l i) 3 (by omega))
          have t5 := t4.trans fE.frG
          obtain ⟨H, eH, fH⟩ := gainBy_s (N := N) (n := n) (M := E) hN hc hG hd (show l < n by omega) hn hi hs2.2 (t5.gM hM) (t5.md hm) (t5.lv hlv) hR (fun j hj => (fE.1 _ _ (by omega) (by omega) (by omega) (by omega) (by omega)).trans (t1 l (by omega) i hi j hj)) (fun q i hi => (fE.1 _ _ (by omega) (by omega) (by omega) (by omega) (by omega)).trans (hv q i hi))
          have ev : gnN c d (rowP c d R l i) (sel l (nodF c d n R l i) 3).2 + gvN c d (n - l - 1) (l + 1) (stepR c d (rowP c d R l i) (sel l (nodF c d n R l i) 3).2) = gvN c d (n - l) l (rowP c d R l i) := by
            rw [gv_nod (show l < n by omega), hs2.1]; rfl
          rw [ev] at eH
          have fEH : frM t H := fE.trans fH
          refine Or.inl ⟨mWI H 104 (lvA l + i) (nI (gvN c d (n - l) l (rowP c d R l i))), ⟨fun l' hl' i' hi' j hj => ?_, fun q hq => ?_, fun l' q1 q2 i' hi' => ?_, t5.trans (fH.frG.trans ⟨fun a j q1 q2 q3 q4 q5 q6 q7 => by rw [mWI_ne q6], rfl⟩)⟩, ?_⟩
          · rw [mWI_ne (by omega), fEH.1 _ _ (by omega) (by omega) (by omega) (by omega) (by omega)]; exact t1 l' hl' i' hi' j hj
          · by_cases e : q = i
            · rw [rI (by rw [e]), e]
            · rw [rN (by omega), fEH.1 _ _ (by omega) (by omega) (by omega) (by omega) (by omega)]; exact t2 q (by omega)
          · have := lv_far l' (by omega) l (by omega) (by omega)
            rw [rN (by omega), fEH.1 _ _ (by omega) (by omega) (by omega) (by omega) (by omega)]; exact t3 l' q1 q2 i' hi'
          · rw [Mo_game_150, show nI l + 1 = nI (l + 1) from nI_add l 1, grd_in (by omega) (by omega), clp (by omega), t4.lv hlv _ (by omega), if_neg (by rw [leP (by omega) (by omega)]; omega), eE, bWs, eH, bWs, grd_in (by omega) (by omega), clp (by omega), nxs, show nI (lvA l + i) + 1 = nI (lvA l + (i + 1)) by rw [i1, nI_add, Nat.add_assoc]]
        · rintro g t ⟨t1, t2, t3, t4⟩
          refine ⟨t, ?_, t1, fun l' q1 q2 i hi => ?_, t4⟩
          · rw [Mo_game_150, show nI l + 1 = nI (l + 1) from nI_add l 1, grd_in (by omega) (by omega), clp (by omega), t4.lv hlv _ (by omega), if_pos (by rw [leP (by omega) (by omega)]; omega), Int32.sub_eq_add_neg]
          · by_cases e : l' = l
            · subst e; exact t2 i hi
            · exact t3 l' (by omega) q2 i hi
      obtain ⟨D, eD, d1, d2, d3⟩ := inner
      refine Or.inl ⟨D, ⟨d1, fun l' q1 q2 => d2 l' (by omega) q2, d3⟩, ?_⟩
      rw [el, el2, show nI (l + 1) - 1 = nI l from sbP (b := 1) (by omega), Mo_game_136, if_neg (nI_pos (by omega)), grd_in (by omega) (by omega), clp (by omega), lv _ (by omega), nxs]
      exact eD
    · rintro f s ⟨s1, s2, s3⟩
      rw [Nat.sub_self, Mo_game_136, if_pos (by decide)]
      have e0 : s.1 104 0 = nI (gvN c d n 0 R) := s2 0 (by omega) hn0 0 (by decide)
      obtain ⟨E, eE, fE⟩ := bestAt_s (N := N) (n := n) (l := 0) (i := 0) (M := s) hN hc hG hd hn0 hn (by decide) (s3.gM hM) (s3.md hm) (s3.lv hlv) hR (fun j hj => s1 0 (by omega) 0 (by decide) j hj) (fun q i hi => s2 (0 + 1) (by omega) q i hi)
      have eE : Mo_bestAt N 0 0 (nI d) (nI n) s = some (nI (sel 0 (nodF c d n R 0 0) 3).2, E) := eE
      rw [hnod] at eE
      by_cases hw : nI w = 0
      · exact ⟨s, by rw [if_pos hw, if_pos hw, e0], s3.frP⟩
      · exact ⟨E, by rw [if_neg hw, if_neg hw, eE, bWs], s3.frP.trans fE.frP⟩
  obtain ⟨D, eD, fD⟩ := vals
  exact ⟨D, by rw [eA, eB, eD], fD⟩
theorem call_game {N : Nat} {M : mS} (hN : 1000 ≤ N) (h : INV M) (x y z : Int32) : ∃ r A B, Md_game N x y z M = some (r, A) ∧ Mo_game N x y z A = some (r, B) ∧ INV B := by
  obtain ⟨c, v, R, X, hc, hC, hM⟩ := h
  obtain ⟨hc1, hc2, hc3, hc4, hc5, hc6⟩ := id hc
  have no : (Md_game N x y z M = some (-1, M)) → (Mo_game N x y z M = some (-1, M)) → ∃ r A B, Md_game N x y z M = some (r, A) ∧ Mo_game N x y z A = some (r, B) ∧ INV B := fun q1 q2 => ⟨-1, M, M, q1, q2, c, v, R, X, hc, hC, hM⟩
  obtain ⟨g0, g1, g2, g3, g4, -⟩ := id hM.1
  by_cases hG : 2 ≤ gG c
  · have cG : ¬ M.1 3 8 < 2 := by rw [hC.1.2.2.1, show (2 : Int32) = nI 2 from rfl, ltP (by omega) (by omega)]; omega
    have oG : ∀ A, gM c v A → ¬ A.1 78 v < 2 := fun A hA => by rw [hA.2.2.2.2.1, show (2 : Int32) = nI 2 from rfl, ltP (by omega) (by omega)]; omega
    rcases arg_c x (gD c) (by omega) with ⟨d, hd, rfl⟩ | q
    · rcases arg_c y 7 (by omega) with ⟨n, hn, rfl⟩ | q
      · by_cases hn0 : n = 0
        · subst hn0
          refine no ?_ ?_
          · unfold Md_game; rw [if_neg cG, cDial_y hc hC.1 hd, if_neg (by decide), if_pos (by decide)]
          · unfold Mo_game; rw [oDial_y hc hM.1 hd, bRs, if_neg (by decide), g1, grd_in g0 (by omega), clp (by omega), if_neg (oG M hM.1), if_pos]
            unfold Mo_in; rw [if_pos (by decide)]
        · have y1 : ¬ nI n < 1 := by rw [i1, ltP (by omega) (by omega)]; omega
          have y6 : ¬ (6 : Int32) < nI n := by rw [show (6 : Int32) = nI 6 from rfl, ltP (by omega) (by omega)]; omega
          have yin : ∀ A : mS, Mo_in (nI n) 1 6 A = 1 := fun A => by unfold Mo_in; rw [if_neg y1, if_neg y6]
          rcases arg_c z 2 (by omega) with ⟨w, hw, rfl⟩ | q
          · have hw2 : w = 0 ∨ w = 1 := by omega
            obtain ⟨A, eA, a1, fA⟩ := outcome_s (N := N) hN hc hG hd (show 0 < n by omega) (by omega) hC.1 hC.2.1
            have hMA := MI_u hM fA.frU
            obtain ⟨m0, m1, m2, m3, m4, -⟩ := id hMA.1
            obtain ⟨B, eB, b1, b2, b3, b4⟩ := copiesStill_s (N := N) hN hc hMA.1 hMA.2.1
            have hMB := MI_p hMA b4
            obtain ⟨D, eD, fD⟩ := game_M (N := N) (n := n) (w := w) hN hc hG hd (by omega) (by omega) hMB.1 b2 hMB.2.2.2.2.2.2.2.1 b1 hC.2.1.2.2.1
            refine ⟨if nI w = 0 then nI (gvN c d n 0 R) else nI (sel 0 (fun k => gnN c d R k + gvN c d (n - 1) 1 (stepR c d R k)) 3).2, A, D, ?_, ?_, INV_q hc hC hM fA (b4.trans fD)⟩
            · unfold Md_game Md_game_41
              rw [if_neg cG, cDial_y hc hC.1 hd, if_neg (by decide), if_neg y1, if_neg y6, eA, bWs, a1]
              rcases hw2 with rfl | rfl <;> rfl
            · unfold Mo_game
              rw [oDial_y hc hMA.1 hd, bRs, if_neg (by decide), m1, grd_in m0 (by omega), clp (by omega), if_neg (oG A hMA.1), yin, if_neg (by decide), show (1 : Int32) = nI 1 from rfl, inK_y (by omega) (by omega), if_neg (by decide), eB, bVs, eD]
              rcases hw2 with rfl | rfl <;> rfl
          · have z0 : ¬ z = 0 := outr_ne q (k := 0) (by omega) (by omega)
            have z1 : ¬ z = 1 := outr_ne q (k := 1) (by omega) (by omega)
            refine no ?_ ?_
            · unfold Md_game; rw [if_neg cG, cDial_y hc hC.1 hd, if_neg (by decide), if_neg y1, if_neg y6, if_neg z0, if_neg z1]
            · unfold Mo_game; rw [oDial_y hc hM.1 hd, bRs, if_neg (by decide), g1, grd_in g0 (by omega), clp (by omega), if_neg (oG M hM.1), yin, if_neg (by decide), show (1 : Int32) = nI 1 from rfl, inK_n q (by omega), if_pos (by decide)]
      · have hy : y < 1 ∨ (¬ y < 1 ∧ 6 < y) := by
          rcases q with q | ⟨q1, q2⟩
          · left
            rw [fa_lt] at *
            have e1 : (1 : Int32).toInt = 1 := rfl
            have e0 : (0 : Int32).toInt = 0 := rfl
            omega
          · right
            rw [fa_le, nI_toInt (by omega)] at q2
            rw [fa_lt, fa_lt]
            have e1 : (1 : Int32).toInt = 1 := rfl
            have e6 : (6 : Int32).toInt = 6 := rfl
            omega
        refine no ?_ ?_
        · unfold Md_game; rw [if_neg cG, cDial_y hc hC.1 hd, if_neg (by decide)]
          rcases hy with hy | ⟨h1, h2⟩
          · rw [if_pos hy]
          · rw [if_neg h1, if_pos h2]
        · unfold Mo_game; rw [oDial_y hc hM.1 hd, bRs, if_neg (by decide), g1, grd_in g0 (by omega), clp (by omega), if_neg (oG M hM.1), if_pos]
          unfold Mo_in
          rcases hy with hy | ⟨h1, h2⟩
          · rw [if_pos hy]
          · rw [if_neg h1, if_pos h2]
    · refine no ?_ ?_
      · unfold Md_game; rw [if_neg cG, cDial_n hC.1 q, if_pos (by decide)]
      · unfold Mo_game; rw [oDial_n hc hM.1 q, bRs, if_pos (by decide)]
  · have cG : M.1 3 8 < 2 := by rw [hC.1.2.2.1, show (2 : Int32) = nI 2 from rfl, ltP (by omega) (by omega)]; omega
    have oG : M.1 78 v < 2 := by rw [g4, show (2 : Int32) = nI 2 from rfl, ltP (by omega) (by omega)]; omega
    refine no ?_ ?_
    · unfold Md_game; rw [if_pos cG]
    · unfold Mo_game
      rcases arg_c x (gD c) (by omega) with ⟨d, hd, rfl⟩ | q
      · rw [oDial_y hc hM.1 hd, bRs, if_neg (by decide), g1, grd_in g0 (by omega), clp (by omega), if_pos oG]
      · rw [oDial_n hc hM.1 q, bRs, if_pos (by decide)]
