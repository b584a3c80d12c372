/-! WHAT IS DONE: turn, follow, slip -/
def kX (X : aux) (R : Nat → Int32) : aux := (xT X, xB X, xP X, (if xU X = 40 then 40 else xU X + 1), (fun k => if k = 0 then R else xH X (k - 1)), xS X, xQ X, xN X, xI X, xO X, xZ X)
theorem keep_s {N : Nat} {c : gar} {R : Nat → Int32} {X : aux} {M : mS} (hc : gOk c) (h : CI c R X M) : ∃ A, Md_keepForUndo N M = some A ∧ CI c R (kX X R) A ∧ frU M A ∧ (∀ j, A.1 34 j = M.1 34 j) := by
  obtain ⟨h1, h2, h3, h4, ⟨h51, h52, h53, w, h54, h55, h56⟩, h6, h7, h8⟩ := h
  let w' : Nat := (w + 1) % 40
  let u' : Nat := if xU X = 40 then 40 else xU X + 1
  let A0 : mS := mWI (mWI M 0 13 (nI w')) 0 12 (nI u')
  let A : mS := mWW A0 36 (va_cpy (A0.1 34) (A0.1 36) 0 (w' * 44) 44)
  have hw' : w' < 40 := Nat.mod_lt _ (by omega)
  have hu' : u' ≤ 40 := by show (if xU X = 40 then 40 else xU X + 1) ≤ 40; split <;> omega
  have f0 : ∀ a j, (a ≠ 0 ∨ (j ≠ 12 ∧ j ≠ 13)) → A0.1 a j = M.1 a j := fun a j q => by show (mWI _ 0 12 _).1 a j = _; rw [rN (by omega), rN (by omega)]
  have f : ∀ a j, a ≠ 36 ∧ (a ≠ 0 ∨ (j ≠ 12 ∧ j ≠ 13)) → A.1 a j = M.1 a j := fun a j q => by show (mWW _ 36 _).1 a j = _; rw [mWW_ne q.1]; exact f0 a j q.2
  have e36 : ∀ j, A.1 36 j = va_cpy (M.1 34) (M.1 36) 0 (w' * 44) 44 j := fun j => by
    show (mWW A0 36 _).1 36 j = _
    rw [mWW_eq, show A0.1 34 = M.1 34 from funext fun j => f0 34 j (by omega), show A0.1 36 = M.1 36 from funext fun j => f0 36 j (by omega)]
  refine ⟨A, ?_, ⟨gC_fr h1 (fun a j q => f a j (by omega)), rowC_c h2 (fun j => f _ _ (by omega)), CIt_fr h3 (f _ _ (by omega)) (fun i => f _ _ (by omega)), (f _ _ (by omega)).trans h4, ⟨(f _ _ (by omega)).trans h51, hu', ?_, w', hw', ?_, fun k hk => ?_⟩, CIs_fr h6 (f _ _ (by omega)) (f _ _ (by omega)) (fun i => f _ _ (by omega)), CIn_fr h7 (f _ _ (by omega)) (fun i => f _ _ (by omega)) (fun i => f _ _ (by omega)) (fun i => f _ _ (by omega)), h8⟩, ⟨fun a j q => f a j (by omega), fun a j q => rfl⟩, fun j => f _ _ (by omega)⟩
  · have e1 : Md_rest N (nI w + 1) 40 M = some (nI w') := by
      rw [show (1 : Int32) = nI 1 from rfl, nI_add, show (40 : Int32) = nI 40 from rfl, rest_s (by omega) (by omega) (by omega)]
    have e2 : (if (40 : Int32) < nI (xU X) + 1 then (40 : Int32) else nI (xU X) + 1) = nI u' := by
      show _ = nI (if xU X = 40 then 40 else xU X + 1)
      rw [show (1 : Int32) = nI 1 from rfl, nI_add, show (40 : Int32) = nI 40 from rfl]
      by_cases q : xU X = 40
      · rw [if_pos (by rw [ltP (by omega) (by omega)]; omega), if_pos q]
      · rw [if_neg (by rw [ltP (by omega) (by omega)]; omega), if_neg q]
    have e3 : A0.1 0 13 = nI w' := by show (mWI _ 0 12 _).1 0 13 = _; rw [rN (by omega), rI rfl]
    have e4 : A0.1 35 1 = 40 := (f0 _ _ (by omega)).trans h51
    have e5 := put_s (N := N) (M := A0) hw' e4
    unfold Md_keepForUndo
    rw [h55, e1, bRs, nxs, rN (by omega), h53, e2, nxs]
    show bV (Sh_put N (A0.1 0 13) A0) _ = _
    rw [e3, e5, bVs]
  · show (mWW A0 36 _).1 0 12 = nI u'
    rw [mWW_ne (by omega)]; exact rI rfl
  · show (mWW A0 36 _).1 0 13 = nI w'
    rw [mWW_ne (by omega)]
    show (mWI _ 0 12 _).1 0 13 = _
    rw [rN (by omega), rI rfl]
  · have hk : k < u' := hk
    show rowC c (fun j => A.1 36 (44 * ((w' + 40 - k) % 40) + j)) (if k = 0 then R else xH X (k - 1))
    by_cases e : k = 0
    · subst e
      rw [if_pos rfl]
      refine rowC_44 hc h2 (fun j hj => ?_)
      show A.1 36 _ = _
      rw [e36, pk_cpy_in (by omega) (by omega)]
      exact congrArg (M.1 34) (by omega)
    · rw [if_neg e]
      have hk2 : k - 1 < xU X := by
        have : k < (if xU X = 40 then 40 else xU X + 1) := hk
        split at this <;> omega
      refine rowC_44 hc (h56 (k - 1) hk2) (fun j hj => ?_)
      show A.1 36 _ = M.1 36 _
      have e6 : (w' + 40 - k) % 40 = (w + 40 - (k - 1)) % 40 := by
        show ((w + 1) % 40 + 40 - k) % 40 = _
        omega
      have e7 : (w' + 40 - k) % 40 ≠ w' := by omega
      rw [e36, pk_cpy_out (by omega), e6]
/-! the model's history -/
theorem keepsRow_s {N : Nat} {R : Nat → Int32} {M : mS} (hN : 1000 ≤ N) (h : rM M R) : ∃ B, Mo_keepsRow N M = some B ∧ (∀ k, k < 29 → B.1 95 k = R k) ∧ (∀ a j, a ≠ 95 → B.1 a j = M.1 a j) ∧ B.2 = M.2 := by
  unfold Mo_keepsRow
  refine iter (F := fun f i (s : mS) => Mo_keepsRow_2 N f (nI i) s) (n := 29) (Q := fun r => ∃ B, r = some B ∧ (∀ k, k < 29 → B.1 95 k = R k) ∧ (∀ a j, a ≠ 95 → B.1 a j = M.1 a j) ∧ B.2 = M.2) (fun i s => (∀ j, j < i → s.1 95 j = R j) ∧ (∀ a j, a ≠ 95 → s.1 a j = M.1 a j) ∧ s.2 = M.2) ?_ ?_ (Nat.zero_le _) (by omega) ⟨fun k hk => absurd hk (Nat.not_lt_zero _), fun _ _ _ => rfl, rfl⟩
  · rintro f i s hi ⟨h1, h2, h3⟩
    have e96 : s.1 96 i = R i := (h2 96 _ (by omega)).trans (h i hi)
    refine Or.inl ⟨mWI s 95 i (R i), ⟨fun k hk => ?_, fun a j ha => ?_, h3⟩, ?_⟩
    · by_cases e : k = i
      · subst e; rw [rI rfl]
      · rw [rN (by omega)]; exact h1 k (by omega)
    · rw [rN (by omega)]; exact h2 a j ha
    · simp (disch := omega) only [Mo_keepsRow_2, li, leP, if_neg, grd_in, clp, nxs, nI_add, e96]
  · rintro f s ⟨h1, h2, h3⟩
    refine ⟨s, ?_, h1, h2, h3⟩
    rw [Mo_keepsRow_2, if_pos (by decide)]
theorem rec_51 {N u : Nat} {R : Nat → Int32} {M : mS} (hN : 1000 ≤ N) (hu : u < 40) (hM : M.1 64 53 = nI u) (hr : rM M R) : ∃ B, Mo_records_49 N M = some B ∧ (∀ j, j < 29 → B.1 98 (29 * u + j) = M.1 95 j) ∧ (∀ k, k < 29 → B.1 95 k = R k) ∧ B.1 64 53 = nI (u + 1) ∧ (∀ a j, a ≠ 95 → (a ≠ 98 ∨ j < 29 * u) → (a ≠ 64 ∨ j ≠ 53) → B.1 a j = M.1 a j) ∧ B.2 = M.2 := by
  unfold Mo_records_49
  refine iter (F := fun f i (s : mS) => Mo_records_51 N f (nI i) s) (n := 29) (Q := fun r => ∃ B, r = some B ∧ (∀ j, j < 29 → B.1 98 (29 * u + j) = M.1 95 j) ∧ (∀ k, k < 29 → B.1 95 k = R k) ∧ B.1 64 53 = nI (u + 1) ∧ (∀ a j, a ≠ 95 → (a ≠ 98 ∨ j < 29 * u) → (a ≠ 64 ∨ j ≠ 53) → B.1 a j = M.1 a j) ∧ B.2 = M.2) (fun i s => (∀ j, j < i → s.1 98 (29 * u + j) = M.1 95 j) ∧ (∀ a j, (a ≠ 98 ∨ j < 29 * u) → s.1 a j = M.1 a j) ∧ s.2 = M.2) ?_ ?_ (Nat.zero_le _) (by omega) ⟨fun k hk => absurd hk (Nat.not_lt_zero _), fun _ _ _ => rfl, rfl⟩
  · rintro f i s hi ⟨h1, h2, h3⟩
    have e95 : s.1 95 i = M.1 95 i := h2 95 _ (by omega)
    have e64 : s.1 64 53 = nI u := (h2 _ _ (by omega)).trans hM
    refine Or.inl ⟨mWI s 98 (29 * u + i) (M.1 95 i), ⟨fun k hk => ?_, fun a j ha => ?_, h3⟩, ?_⟩
    · by_cases e : k = i
      · subst e; rw [rI rfl]
      · rw [rN (by omega)]; exact h1 k (by omega)
    · rw [rN (by omega)]; exact h2 a j ha
    · simp (disch := omega) only [Mo_records_51, li, leP, if_neg, grd_in, clp, nxs, nI_add, pk_mul, e95, e64]
  · rintro f s ⟨h1, h2, h3⟩
    have e64 : s.1 64 53 = nI u := (h2 _ _ (by omega)).trans hM
    obtain ⟨B, eB, b1, b2, b3⟩ := keepsRow_s (N := N) (R := R) (M := mWI s 64 53 (nI (u + 1))) hN (fun k hk => by rw [rN (by omega), h2 96 k (by omega)]; exact hr k hk)
    refine ⟨B, ?_, fun j hj => ?_, b1, ?_, fun a j q1 q2 q3 => ?_, b3.trans h3⟩
    · rw [Mo_records_51, if_pos (by decide), e64, show (1 : Int32) = nI 1 from rfl, nI_add, nxs, eB, bVs]
    · rw [b2 98 _ (by omega), rN (by omega)]; exact h1 j hj
    · rw [b2 64 53 (by omega), rI rfl]
    · rw [b2 a j q1, rN q3]; exact h2 a j q2
theorem records_s {N : Nat} {c : gar} {v : Nat} {R R' : Nat → Int32} {X : aux} {M : mS} (hN : 2000 ≤ N) (hu : xU X ≤ 40) (h : MI c v R X M) (hr : rM M R') : ∃ B, Mo_records N M = some B ∧ MI c v R' (kX X R) B ∧ frD M B := by
  obtain ⟨g1, g2, g3, g4, ⟨g51, g52⟩, g6, g7, g8, g9⟩ := h
  have fin : ∀ (A : mS) (u : Nat), u < 40 → (if xU X = 40 then 40 else xU X + 1) = u + 1 → A.1 64 53 = nI u → (∀ a j, a ≠ 98 → (a ≠ 64 ∨ j ≠ 53) → A.1 a j = M.1 a j) → A.2 = M.2 → (∀ k, k < u → ∀ j, j < 29 → A.1 98 (29 * (u - 1 - k) + j) = xH X k j) → ∃ B, Mo_records_49 N A = some B ∧ MI c v R' (kX X R) B ∧ frD M B := by
    intro A u hu2 eu e53 fA lA hA
    obtain ⟨B, eB, b1, b2, b3, b4, b5⟩ := rec_51 (N := N) (R := R') (M := A) (by omega) hu2 e53 (fun k hk => by rw [fA 96 k (by omega) (by omega)]; exact hr k hk)
    have f : ∀ a j, a ≠ 95 ∧ a ≠ 98 ∧ (a ≠ 64 ∨ j ≠ 53) → B.1 a j = M.1 a j := fun a j q => by rw [b4 a j q.1 (Or.inl q.2.1) q.2.2]; exact fA a j q.2.1 q.2.2
    refine ⟨B, eB, ⟨gM_fr g1 (fun a j q => f a j (by omega)), b2, MIt_fr g3 (f _ _ (by omega)) (fun i => f _ _ (by omega)), (f _ _ (by omega)).trans g4, ⟨?_, fun k hk j hj => ?_⟩, MIs_fr g6 (fun i => f _ _ (by omega)) (fun i => f _ _ (by omega)), MIn_fr g7 (f _ _ (by omega)) (fun i => f _ _ (by omega)) (fun i => f _ _ (by omega)) (fun i => f _ _ (by omega)), fun k hk => (f _ _ (by omega)).trans (g8 k hk), fun k hk => by rw [b5, lA]; exact g9 k hk⟩, fun a j q => f a j (by omega), fun a j q => by rw [b5, lA]⟩
    · show B.1 64 53 = nI (if xU X = 40 then 40 else xU X + 1)
      rw [eu]; exact b3
    · show B.1 98 (29 * ((if xU X = 40 then 40 else xU X + 1) - 1 - k) + j) = (if k = 0 then R else xH X (k - 1)) j
      have hk : k < (if xU X = 40 then 40 else xU X + 1) := hk
      rw [eu] at hk ⊢
      by_cases e : k = 0
      · subst e
        rw [if_pos rfl, show u + 1 - 1 - 0 = u by omega, b1 j hj, fA 95 j (by omega) (by omega)]; exact g2 j hj
      · rw [if_neg e, b4 98 _ (by omega) (by omega) (by omega)]
        have := hA (k - 1) (by omega) j hj
        rw [show u - 1 - (k - 1) = u + 1 - 1 - k by omega] at this
        exact this
  unfold Mo_records
  by_cases q : xU X = 40
  · rw [g51, q, if_pos (by decide)]
    refine iter (F := fun f i (s : mS) => Mo_records_11 N f (nI i) s) (n := 1131) (Q := fun r => ∃ B, r = some B ∧ MI c v R' (kX X R) B ∧ frD M B) (fun i s => (∀ j, j < i → s.1 98 j = M.1 98 (j + 29)) ∧ (∀ j, i ≤ j → s.1 98 j = M.1 98 j) ∧ (∀ a j, a ≠ 98 → s.1 a j = M.1 a j) ∧ s.2 = M.2) ?_ ?_ (Nat.zero_le _) (by omega) ⟨fun k hk => absurd hk (Nat.not_lt_zero _), fun _ _ => rfl, fun _ _ _ => rfl, rfl⟩
    · rintro f i s hi ⟨h1, h2, h3, h4⟩
      have e98 : s.1 98 (i + 29) = M.1 98 (i + 29) := h2 _ (by omega)
      refine Or.inl ⟨mWI s 98 i (M.1 98 (i + 29)), ⟨fun k hk => ?_, fun k hk => ?_, fun a j ha => ?_, h4⟩, ?_⟩
      · by_cases e : k = i
        · subst e; rw [rI rfl]
        · rw [rN (by omega)]; exact h1 k (by omega)
      · rw [rN (by omega)]; exact h2 k (by omega)
      · rw [rN (by omega)]; exact h3 a j ha
      · simp (disch := omega) only [Mo_records_11, li, leP, if_neg, grd_in, clp, nxs, nI_add, e98]
    · rintro f s ⟨h1, h2, h3, h4⟩
      have e64 : s.1 64 53 = nI 40 := by rw [h3 _ _ (by omega), g51, q]
      obtain ⟨B, eB, b1, b2⟩ := fin (mWI s 64 53 (nI 39)) 39 (by omega) (by rw [if_pos q]) (rI rfl) (fun a j q1 q2 => by rw [rN q2]; exact h3 a j q1) h4 (fun k hk j hj => by
        rw [rN (by omega), h1 _ (by omega)]
        have := g52 k (by omega) j hj
        rw [q] at this
        rw [show 29 * (39 - 1 - k) + j + 29 = 29 * (40 - 1 - k) + j by omega]
        exact this)
      refine ⟨B, ?_, b1, b2⟩
      rw [Mo_records_11, if_pos (by decide), e64, show (1 : Int32) = nI 1 from rfl, sbP (by omega), nxs, eB]
  · rw [g51, if_neg (by rw [show (40 : Int32) = nI 40 from rfl, eqP (by omega) (by omega)]; exact q)]
    exact fin M (xU X) (by omega) (by rw [if_neg q]) g51 (fun _ _ _ _ => rfl) rfl g52
/-- one cell of the row is set by hand: k in the model's row, j in the class's -/
theorem set_s {N : Nat} {c : gar} {v : Nat} {R : Nat → Int32} {X : aux} {M : mS} {k j : Nat} {x : Int32} (hN : 2000 ≤ N) (hc : gOk c) (hC : CI c R X M) (hM : MI c v R X M) (hk : k < 29) (hrow : ∀ C, rowC c C R → rowC c (upd C j x) (upd R k x)) :
    ∃ A, Md_keepForUndo N M = some A ∧ (∀ i, A.1 34 i = M.1 34 i) ∧ gC c A ∧ ∀ x', x' = x → ∃ B, Mo_does N (nI k) x' (mWI A 34 j x) = some (1, B) ∧ B.1 95 k = x ∧ INV B := by
  obtain ⟨A, eA, hA, fA, rA⟩ := keep_s (N := N) hc hC
  refine ⟨A, eA, rA, hA.1, ?_⟩
  rintro x' rfl
  have fU : frU M (mWI A 34 j x') := ⟨fun a i q => by rw [mWI_ne (by omega)]; exact fA.1 a i q, fun a i q => fA.2 a i q⟩
  have hMA := MI_u hM fU
  obtain ⟨B, eB, b1, b2, b3, b4⟩ := copies_s (N := N) (by omega) hc hMA.1 hMA.2.1
  have b5 : frP (mWI A 34 j x') (mWI B 96 k x') := b4.trans ⟨fun a i q1 q2 q3 q4 q5 q6 q7 q8 q9 q10 q11 => by rw [mWI_ne q3], rfl⟩
  have hMB := MI_p hMA b5
  obtain ⟨D, eD, d1, d2⟩ := records_s (N := N) (R' := upd R k x') (M := mWI B 96 k x') hN hC.2.2.2.2.1.2.1 hMB (fun i hi => by
    by_cases e : i = k
    · subst e; rw [rI rfl, pk_us]
    · rw [rN (by omega), pk_un e]; exact b1 i hi)
  refine ⟨D, ?_, ?_, c, v, upd R k x', kX X R, hc, ?_, d1⟩
  · unfold Mo_does
    rw [eB, bVs, grd_in (by omega) (by omega), clp (by omega), nxs, eD, bVs]
  · rw [d1.2.1 k hk, pk_us]
  · have h2 : CI c (upd R k x') (kX X R) (mWI A 34 j x') := by
      obtain ⟨h1, h2, h3, h4, h5, h6, h7, h8⟩ := hA
      have f : ∀ a i, a ≠ 34 → (mWI A 34 j x').1 a i = A.1 a i := fun a i q => by rw [mWI_ne q]
      exact ⟨gC_fr h1 (fun a i q => f a i (by omega)), by rw [mWI_eq]; exact hrow _ h2, CIt_fr h3 (f _ _ (by omega)) (fun i => f _ _ (by omega)), (f _ _ (by omega)).trans h4, CIu_fr h5 (f _ _ (by omega)) (f _ _ (by omega)) (f _ _ (by omega)) (fun i => f _ _ (by omega)), CIs_fr h6 (f _ _ (by omega)) (f _ _ (by omega)) (fun i => f _ _ (by omega)), CIn_fr h7 (f _ _ (by omega)) (fun i => f _ _ (by omega)) (fun i => f _ _ (by omega)) (fun i => f _ _ (by omega)), h8⟩
    exact CI_d (CI_d h2 b5.frD) d2
theorem VZ_upd {c : gar} {R : Nat → Int32} {k : Nat} {x : Int32} (h : VZ c R) (hk : k < 18) : VZ c (upd R k x) := fun i hi q => by rw [pk_un (by omega)]; exact h i hi q
theorem row_out {c : gar} (hc : gOk c) {R : Nat → Int32} {d o : Nat} (hd : d < gD c) (ho : o < gH c) : ∀ C, rowC c C R → rowC c (upd C (1 + d) (nI o)) (upd R d (nI o)) := by
  obtain ⟨hc1, hc2, hc3, hc4, -⟩ := hc
  rintro C ⟨⟨h1, h2, h3⟩, h4, ⟨h5, h6⟩, h7⟩
  refine ⟨⟨?_, fun e he => ⟨?_, ?_⟩, fun g hg => ⟨?_, ?_⟩⟩, fun a ha b hb hab => ?_, ⟨fun e he => ⟨?_, ?_⟩, fun g hg => ?_⟩, VZ_upd h7 (by omega)⟩
  · rw [pk_un (by omega), pk_un (by omega)]; exact h1
  · by_cases q : e = d
    · subst q; rw [pk_us, pk_us]
    · rw [pk_un (by omega), pk_un (by omega)]; exact (h2 e he).1
  · rw [pk_un (by omega), pk_un (by omega)]; exact (h2 e he).2
  · rw [pk_un (by omega), pk_un (by omega)]; exact (h3 g hg).1
  · rw [pk_un (by omega), pk_un (by omega)]; exact (h3 g hg).2
  · rw [pk_un (by omega), pk_un (by omega)]; exact h4 a ha b hb hab
  · by_cases q : e = d
    · subst q; rw [pk_us]; exact ⟨o, ho, rfl⟩
    · rw [pk_un (by omega)]; exact (h5 e he).1
  · rw [pk_un (by omega)]; exact (h5 e he).2
  · rw [pk_un (by omega)]; exact h6 g hg
theorem row_slip {c : gar} (hc : gOk c) {R : Nat → Int32} {d o : Nat} (hd : d < gD c) (ho : o < gH c) : ∀ C, rowC c C R → rowC c (upd C (5 + d) (nI o)) (upd R (4 + d) (nI o)) := by
  obtain ⟨hc1, hc2, hc3, hc4, -⟩ := hc
  rintro C ⟨⟨h1, h2, h3⟩, h4, ⟨h5, h6⟩, h7⟩
  refine ⟨⟨?_, fun e he => ⟨?_, ?_⟩, fun g hg => ⟨?_, ?_⟩⟩, fun a ha b hb hab => ?_, ⟨fun e he => ⟨?_, ?_⟩, fun g hg => ?_⟩, VZ_upd h7 (by omega)⟩
  · rw [pk_un (by omega), pk_un (by omega)]; exact h1
  · rw [pk_un (by omega), pk_un (by omega)]; exact (h2 e he).1
  · by_cases q : e = d
    · subst q; rw [pk_us, pk_us]
    · rw [pk_un (by omega), pk_un (by omega)]; exact (h2 e he).2
  · rw [pk_un (by omega), pk_un (by omega)]; exact (h3 g hg).1
  · rw [pk_un (by omega), pk_un (by omega)]; exact (h3 g hg).2
  · rw [pk_un (by omega), pk_un (by omega)]; exact h4 a ha b hb hab
  · rw [pk_un (by omega)]; exact (h5 e he).1
  · by_cases q : e = d
    · subst q; rw [pk_us]; exact ⟨o, ho, rfl⟩
    · rw [pk_un (by omega)]; exact (h5 e he).2
  · rw [pk_un (by omega)]; exact h6 g hg
theorem row_by {c : gar} (hc : gOk c) {R : Nat → Int32} {g d : Nat} (hg : g < gG c) (hd : d < gD c) : ∀ C, rowC c C R → rowC c (upd C (9 + g) (nI d)) (upd R (8 + g) (nI d)) := by
  obtain ⟨hc1, hc2, hc3, hc4, -⟩ := hc
  rintro C ⟨⟨h1, h2, h3⟩, h4, ⟨h5, h6⟩, h7⟩
  refine ⟨⟨?_, fun e he => ⟨?_, ?_⟩, fun e he => ⟨?_, ?_⟩⟩, fun a ha b hb hab => ?_, ⟨fun e he => ⟨?_, ?_⟩, fun e he => ?_⟩, VZ_upd h7 (by omega)⟩
  · rw [pk_un (by omega), pk_un (by omega)]; exact h1
  · rw [pk_un (by omega), pk_un (by omega)]; exact (h2 e he).1
  · rw [pk_un (by omega), pk_un (by omega)]; exact (h2 e he).2
  · by_cases q : e = g
    · subst q; rw [pk_us, pk_us]
    · rw [pk_un (by omega), pk_un (by omega)]; exact (h3 e he).1
  · rw [pk_un (by omega), pk_un (by omega)]; exact (h3 e he).2
  · rw [pk_un (by omega), pk_un (by omega)]; exact h4 a ha b hb hab
  · rw [pk_un (by omega)]; exact (h5 e he).1
  · rw [pk_un (by omega)]; exact (h5 e he).2
  · by_cases q : e = g
    · subst q; rw [pk_us]; exact ⟨d, hd, rfl⟩
    · rw [pk_un (by omega)]; exact h6 e he
theorem call_turn {N : Nat} {M : mS} (hN : 2000 ≤ N) (h : INV M) (x y : Int32) : ∃ r A B, Md_turn N x y M = some (r, A) ∧ Mo_turn N x y A = some (r, B) ∧ INV B := by
  obtain ⟨c, v, R, X, hc, hC, hM⟩ := h
  obtain ⟨hc1, hc2, hc3, hc4, hc5, hc6⟩ := id hc
  unfold Md_turn Mo_turn
  rcases arg_c x (gD c) (by omega) with ⟨d, hd, rfl⟩ | q
  · rcases arg_c y (gH c) (by omega) with ⟨k, hk, rfl⟩ | q
    · by_cases hk0 : k = 0
      · subst hk0
        refine ⟨-1, M, M, ?_, ?_, c, v, R, X, hc, hC, hM⟩
        · rw [cDial_y hc hC.1 hd, if_neg (by decide), if_pos (by decide)]
        · rw [oDial_y hc hM.1 hd, bRs, if_neg (by decide), hours_s hM.1, bRs, if_pos]
          unfold Mo_in; rw [if_pos (by decide)]
      · obtain ⟨hw, hp, hR, hz⟩ := hC.2.1
        obtain ⟨⟨o, ho, eo⟩, -⟩ := hR.1 d hd
        have hr : (o + k) % gH c < gH c := Nat.mod_lt _ (by omega)
        obtain ⟨A, eA, rA, gA, fin⟩ := set_s (N := N) hN hc hC hM (show d < 29 by omega) (row_out hc (R := R) hd hr)
        obtain ⟨B, eB, b1, iB⟩ := fin _ rfl
        have fU : ∀ a j, 64 ≤ a → (mWI A 34 (1 + d) (nI ((o + k) % gH c))).1 a j = M.1 a j := by
          intro a j q
          obtain ⟨A2, e2, -, f2, -⟩ := keep_s (N := N) hc hC
          rw [eA] at e2; cases e2
          rw [mWI_ne (by omega)]; exact f2.1 a j q
        have hMA : gM c v (mWI A 34 (1 + d) (nI ((o + k) % gH c))) := gM_fr hM.1 (fun a j q => fU a j (by omega))
        refine ⟨nI ((o + k) % gH c), mWI A 34 (1 + d) (nI ((o + k) % gH c)), B, ?_, ?_, iB⟩
        · have e34 : A.1 34 (1 + d) = nI o := by rw [rA, (hw.2.1 d hd).1, eo]
          rw [cDial_y hc hC.1 hd, if_neg (by decide), if_neg (by rw [show (1 : Int32) = nI 1 from rfl, ltP (by omega) (by omega)]; omega), hC.1.1, if_pos (by rw [ltP (by omega) (by omega)]; exact hk), eA, bVs]
          simp (disch := omega) only [li, nI_add, grd_in, clp, e34, gA.1, rest_s, bRs, nxs, rI]
        · have e95 : (mWI A 34 (1 + d) (nI ((o + k) % gH c))).1 95 d = nI o := by rw [fU 95 d (by omega), hM.2.1 d (by omega), eo]
          rw [oDial_y hc hMA hd, bRs, if_neg (by decide), hours_s hMA, bRs, if_neg, grd_in (by omega) (by omega), bRs, clp (by omega), e95, nI_add, nz_n (by omega) (by omega), rmP (by omega) (by omega) (by omega), eB, bWs, grd_in (by omega) (by omega), b1]
          unfold Mo_in
          rw [show (1 : Int32) = nI 1 from rfl, sbP (by omega), if_neg (by rw [ltP (by omega) (by omega)]; omega), if_neg (by rw [ltP (by omega) (by omega)]; omega)]
          decide
    · refine ⟨-1, M, M, ?_, ?_, c, v, R, X, hc, hC, hM⟩
      · rw [cDial_y hc hC.1 hd, if_neg (by decide)]
        rcases q with q | ⟨q1, q2⟩
        · rw [if_pos]
          rw [fa_lt] at *
          have e1 : (1 : Int32).toInt = 1 := rfl
          have e0 : (0 : Int32).toInt = 0 := rfl
          omega
        · by_cases z : y < 1
          · rw [if_pos z]
          · rw [if_neg z, hC.1.1, if_neg]
            rw [fa_lt]; rw [fa_le] at q2; omega
      · rw [oDial_y hc hM.1 hd, bRs, if_neg (by decide), hours_s hM.1, bRs, if_pos]
        unfold Mo_in
        by_cases z : y < 1
        · rw [if_pos z]
        · rw [if_neg z, if_pos]
          rcases q with q | ⟨q1, q2⟩
          · exfalso
            rw [fa_lt] at *
            have e1 : (1 : Int32).toInt = 1 := rfl
            have e0 : (0 : Int32).toInt = 0 := rfl
            omega
          · rw [fa_lt, show (1 : Int32) = nI 1 from rfl, negT (by omega) (by omega)]
            rw [fa_le, nI_toInt (by omega)] at q2
            omega
  · refine ⟨-1, M, M, ?_, ?_, c, v, R, X, hc, hC, hM⟩
    · rw [cDial_n hC.1 q, if_pos (by decide)]
    · rw [oDial_n hc hM.1 q, bRs, if_pos (by decide)]
