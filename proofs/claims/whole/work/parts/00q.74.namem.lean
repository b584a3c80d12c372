/-! names: the model -/
theorem fnd_ex {f : Nat → List Nat} {n : Nat} {w : List Nat} : fnd f n w < n ↔ ∃ k, k < n ∧ f k = w := by
  constructor
  · intro h
    have := fa_first_yes (fun k => decide (f k = w)) n h
    have h2 : decide (f (fnd f n w) = w) = true := this
    rw [decide_eq_true_eq] at h2
    exact ⟨_, h, h2⟩
  · rintro ⟨k, hk, e⟩
    apply Classical.byContradiction
    intro q
    have := fa_first_no (fun k => decide (f k = w)) n k (by have : fnd f n w = fa_first (fun k => decide (f k = w)) n := rfl; omega)
    have h2 : decide (f k = w) = false := this
    rw [decide_eq_false_iff_not] at h2
    exact h2 e
theorem fnd_at {f : Nat → List Nat} {n : Nat} {w : List Nat} (h : fnd f n w < n) : f (fnd f n w) = w := by
  have := fa_first_yes (fun k => decide (f k = w)) n h
  have h2 : decide (f (fnd f n w) = w) = true := this
  rw [decide_eq_true_eq] at h2
  exact h2
def NMs (d : drf) (nm : Nat → List Nat) (k : Nat → Nat) (M : mS) : Prop := M.1 64 20 = nI (dD d + dG d) ∧ (∀ i, i < dD d + dG d → M.2 72 i = lN (krd 27 (nm i)) ∧ wOk (nm i) ∧ M.1 73 i = nI (k i) ∧ ((k i < dD d ∧ nm i = dNm d (k i)) ∨ (k i = 10 ∧ ∃ g, g < dG d ∧ nm i = dGm d g))) ∧ (∀ j, j < dD d → ∃ i, i < dD d + dG d ∧ k i = j) ∧ ∀ g, g < dG d → ∃ i, i < dD d + dG d ∧ k i = 10 ∧ nm i = dGm d g
theorem isAm_t {d : drf} {w : List Nat} : isAm d w = true ↔ (∃ k, k < dD d ∧ dNm d k = w) ∨ ∃ g, g < dG d ∧ dGm d g = w := by
  unfold isAm
  rw [Bool.or_eq_true, decide_eq_true_eq, decide_eq_true_eq, fnd_ex, fnd_ex]
theorem NMs_am {d : drf} {nm : Nat → List Nat} {k : Nat → Nat} {M : mS} (h : NMs d nm k M) (hd : dD d ≤ 4) {w : List Nat} : fnd nm (dD d + dG d) w < dD d + dG d ↔ isAm d w = true := by
  obtain ⟨h1, h2, h3, h4⟩ := h
  rw [fnd_ex, isAm_t]
  constructor
  · rintro ⟨i, hi, e⟩
    rcases (h2 i hi).2.2.2 with ⟨q1, q2⟩ | ⟨q1, g, hg, q2⟩
    · exact Or.inl ⟨k i, q1, q2.symm.trans e⟩
    · exact Or.inr ⟨g, hg, q2.symm.trans e⟩
  · rintro (⟨j, hj, e⟩ | ⟨g, hg, e⟩)
    · obtain ⟨i, hi, q⟩ := h3 j hj
      rcases (h2 i hi).2.2.2 with ⟨q1, q2⟩ | ⟨q1, g, hg, q2⟩
      · exact ⟨i, hi, by rw [q2, q]; exact e⟩
      · omega
    · obtain ⟨i, hi, q1, q2⟩ := h4 g hg
      exact ⟨i, hi, q2.trans e⟩
section
variable {N : Nat} {T : ctx} {M : mS} {t : Nat} {s : Nat × Nat} {d : drf} {e : Nat × Nat} {nm : Nat → List Nat} {k : Nat → Nat}
theorem NMs_fr {A : mS} (h : NMs d nm k M) (h1 : A.1 64 20 = M.1 64 20) (h2 : ∀ i, A.1 73 i = M.1 73 i) (h3 : ∀ i, A.2 72 i = M.2 72 i) : NMs d nm k A := by
  obtain ⟨g1, g2, g3, g4⟩ := h
  refine ⟨h1.trans g1, fun i hi => ?_, g3, g4⟩
  rw [h2, h3]; exact g2 i hi
theorem frN.NMs {A : mS} (f : frN M A) (h : NMs d nm k M) : NMs d nm k A := NMs_fr h (f.1 64 20 (by omega)) (fun i => f.1 73 i (by omega)) (fun i => by rw [f.2])
theorem sAdd_2 {x p : Nat} (hx : 1 ≤ x) : sAdd (sAdd s x p) x p = sAdd s x p := by
  unfold sAdd
  by_cases z : s.1 = 0
  · rw [if_pos z, if_neg (by show ¬ x = 0; omega)]
  · rw [if_neg z, if_neg z]
/-- wrong at the token just behind -/
theorem wrong_b (hT : TF T) (h : NM T (t + 1) s M) {x : Nat} (hx : 1 ≤ x) (hx5 : x ≤ 5) (hs : s.1 ≠ 0 → s.2 < cP T t ∨ s = (x, cP T t)) : ∃ A, Mo_wrong N (nI x) (nI t) M = some A ∧ NM T (t + 1) (sAdd s x (cP T t)) A ∧ frN M A := by
  have hq : t < cN T := by have := h.2.1; omega
  obtain ⟨A, eA, f1, f2, f3, f4, f5⟩ := wrong_s (N := N) hT h hx hx5 hq hs
  obtain ⟨h1, h2, h3, h4, h5, h6, h7⟩ := id h
  refine ⟨A, eA, ⟨f1.frO.TM h1, h2, f2.trans h3, f3, f4, ?_, fun q => ⟨f5 q, ?_⟩⟩, f1⟩
  · unfold sAdd; split
    · exact hx5
    · exact h6
  · unfold sAdd
    by_cases z : s.1 = 0
    · rw [if_pos z]; exact hT.2.2.2.2.2.2.2.1 t (t + 1) (by omega) h2
    · rw [if_neg z]; exact (h7 z).2
theorem named_s (hN : 5000 ≤ N) (hT : TF T) (h : NM T t s M) (hn : NMs d nm k M) (hd : dD d ≤ 4) (hg : dG d ≤ 5) : match aNw T d t s with
    | .ok (w, u, s') => w = cW T t ∧ cK T t = 20 ∧ ∃ A, Mo_named N M = some (nI t, A) ∧ NM T u s' A ∧ frN M A
    | .error e => ∃ A, Mo_named N M = some (nI t, A) ∧ FM T e A ∧ frN M A := by
  obtain ⟨h1, h2, h3, h4, h5, h6, h7⟩ := id h
  have c2 := hT.2.1
  have mu := must_s (N := N) hT h (a := 20) (by omega)
  unfold aNw
  have base : Mo_named N M = bV (Mo_must N (nI (mkK 20)) M) fun M7 => Mo_named_12 N N (nI t) 0 M7 := by
    unfold Mo_named
    rw [h3, nxs]; rfl
  cases ea : aT T t 20 with
  | error e =>
    rw [ea] at mu
    obtain ⟨A, eA, fA, rA⟩ := mu
    refine ⟨A, ?_, fA, rA⟩
    obtain ⟨n, rfl⟩ : ∃ n, N = n + 1 := ⟨N - 1, by omega⟩
    rw [base, eA, bVs, Mo_named_12]
    by_cases z : A.1 64 20 ≤ 0
    · rw [if_pos z]
    · rw [if_neg z, if_neg fA.pos.2.1]
  | ok u =>
    rw [ea] at mu
    obtain ⟨rfl, k20, A, eA, nA, rA⟩ := mu
    have hw := hT.2.2.2.2.2.2.1 t h2 k20
    rw [eA, bVs] at base
    refine ⟨rfl, k20, ?_⟩
    rw [base]
    have key : ∃ B, Mo_named_12 N N (nI t) 0 A = some (nI t, B) ∧ NM T (t + 1) (if fnd nm (dD d + dG d) (cW T t) < dD d + dG d then sAdd s 3 (cP T t) else s) B ∧ frN A B := by
      refine iter (F := fun f i (m : mS) => Mo_named_12 N f (nI t) (nI i) m) (i := 0) (f := N) (s := A) (n := dD d + dG d) (Q := fun r => ∃ B, r = some (nI t, B) ∧ NM T (t + 1) (if fnd nm (dD d + dG d) (cW T t) < dD d + dG d then sAdd s 3 (cP T t) else s) B ∧ frN A B) (fun i m => NM T (t + 1) (if fnd nm i (cW T t) < i then sAdd s 3 (cP T t) else s) m ∧ frN A m) ?_ ?_ (Nat.zero_le _) (by omega) ⟨by rw [if_neg (Nat.not_lt_zero _)]; exact nA, frN.refl⟩
      · rintro f i m hi ⟨m1, m2⟩
        have nmA := (m2.NMs (rA.NMs hn))
        have m4 := m1.2.2.2.1
        have mT := m1.1
        have go : Mo_named_12 N (f + 1) (nI t) (nI i) m = if lg_cmp (lN (krd 27 (nm i))) (lN (krd 27 (cW T t))) = 0 then (bV (Mo_wrong N 3 (nI t) m) fun M4 => Mo_named_49 N (Mo_named_12 N f) (nI t) (nI i) M4) else (Mo_named_49 N (Mo_named_12 N f) (nI t) (nI i) m) := by
          rw [Mo_named_12, nmA.1, if_neg (by rw [leP (by omega) (by omega)]; omega), if_pos m4, grd_in (by omega) (by omega), grd_in (by omega) (by omega), clp (by omega), clp (by omega), (nmA.2.1 i hi).1, (mT t h2).2.2.2 k20]
        by_cases z : nm i = cW T t
        · obtain ⟨B, eB, nB, rB⟩ := wrong_b (N := N) hT m1 (x := 3) (by omega) (by omega) (fun q => by
            by_cases y : fnd nm i (cW T t) < i
            · rw [if_pos y] at q ⊢
              unfold sAdd at q ⊢
              by_cases y0 : s.1 = 0
              · rw [if_pos y0]; exact Or.inr rfl
              · rw [if_neg y0]; exact Or.inl (h7 y0).2
            · rw [if_neg y] at q ⊢
              exact Or.inl (h7 q).2)
          refine Or.inl ⟨B, ⟨?_, m2.trans rB⟩, ?_⟩
          · rw [if_pos (fnd_ex.mpr ⟨i, by omega, z⟩)]
            by_cases y : fnd nm i (cW T t) < i
            · rw [if_pos y, sAdd_2 (by omega)] at nB; exact nB
            · rw [if_neg y] at nB; exact nB
          · rw [go, if_pos (by rw [lg_cmp_eq, z]), show (3 : Int32) = nI 3 from rfl, eB, bVs]
            unfold Mo_named_49
            rw [show nI i + 1 = nI (i + 1) from nI_add i 1]
        · refine Or.inl ⟨m, ⟨?_, m2⟩, ?_⟩
          · have e : (fnd nm (i + 1) (cW T t) < i + 1) ↔ fnd nm i (cW T t) < i := by
              rw [fnd_ex, fnd_ex]
              constructor
              · rintro ⟨j, hj, q⟩
                refine ⟨j, ?_, q⟩
                apply Classical.byContradiction
                intro y
                have : j = i := by omega
                subst this
                exact z q
              · rintro ⟨j, hj, q⟩; exact ⟨j, by omega, q⟩
            by_cases y : fnd nm i (cW T t) < i
            · rw [if_pos (e.mpr y)]; rw [if_pos y] at m1; exact m1
            · rw [if_neg (fun q => y (e.mp q))]; rw [if_neg y] at m1; exact m1
          · rw [go, if_neg (by rw [lg_cmp_eq, krd_eq (by omega) (by omega) (nmA.2.1 i hi).2.1 hw]; exact z)]
            unfold Mo_named_49
            rw [show nI i + 1 = nI (i + 1) from nI_add i 1]
      · rintro f m ⟨m1, m2⟩
        have nmA := (m2.NMs (rA.NMs hn))
        refine ⟨m, ?_, m1, m2⟩
        rw [Mo_named_12, nmA.1, if_pos (by rw [leP (by omega) (by omega)]; omega)]
    obtain ⟨B, eB, nB, rB⟩ := key
    refine ⟨B, eB, ?_, rA.trans rB⟩
    by_cases z : fnd nm (dD d + dG d) (cW T t) < dD d + dG d
    · rw [if_pos ((NMs_am hn hd).mp z)]; rw [if_pos z] at nB; exact nB
    · rw [if_neg (fun q => z ((NMs_am hn hd).mpr q))]; rw [if_neg z] at nB; exact nB
theorem named_f (hN : 5000 ≤ N) (h : FM T e M) : ∃ j, j ≤ 400 ∧ Mo_named N M = some (nI j, M) := by
  obtain ⟨h1, h2, h3, h4, h5, h6, t, h7, h8⟩ := id h
  refine ⟨t, h7, ?_⟩
  obtain ⟨n, rfl⟩ : ∃ n, N = n + 1 := ⟨N - 1, by omega⟩
  unfold Mo_named
  rw [h8, nxs, must_f h, bVs, Mo_named_12]
  by_cases z : M.1 64 20 ≤ 0
  · rw [if_pos z]
  · rw [if_neg z, if_neg h.pos.2.1]
theorem known_s (hN : 5000 ≤ N) (hT : TF T) (h : NM T t s M) (hn : NMs d nm k M) (hd : dD d ≤ 4) (hg : dG d ≤ 5) (hu : s.1 = 0 → ∀ i, i < dD d → ∀ j, j < dD d → dNm d i = dNm d j → i = j) : match aKn T d t s with
    | .ok (x, u, s') => ∃ r A, Mo_known N M = some (r, A) ∧ (s'.1 = 0 → r = nI x) ∧ NM T u s' A ∧ frN M A
    | .error e => ∃ r A, Mo_known N M = some (r, A) ∧ FM T e A ∧ frN M A := by
  obtain ⟨h1, h2, h3, h4, h5, h6, h7⟩ := id h
  have c2 := hT.2.1
  have mu := must_s (N := N) hT h (a := 20) (by omega)
  unfold aKn
  have base : Mo_known N M = bV (Mo_must N (nI (mkK 20)) M) fun M9 => if (M9.1 64 13) ≤ 0 then (Mo_known_21 N N (nI t) 0 M9) else (some ((-1), M9)) := by
    unfold Mo_known
    rw [h3, nxs]; rfl
  cases ea : aT T t 20 with
  | error e =>
    rw [ea] at mu
    obtain ⟨A, eA, fA, rA⟩ := mu
    exact ⟨-1, A, by rw [base, eA, bVs, if_neg fA.pos.1], fA, rA⟩
  | ok u =>
    rw [ea] at mu
    obtain ⟨rfl, k20, A, eA, nA, rA⟩ := mu
    have hw := hT.2.2.2.2.2.2.1 t h2 k20
    have a4 := nA.2.2.2.1
    have aT' := nA.1
    have nmA := rA.NMs hn
    rw [eA, bVs, a4, if_pos (by decide)] at base
    obtain ⟨W, eW, nW, rW⟩ := wrong_b (N := N) hT nA (x := 4) (by omega) (by omega) (fun q => Or.inl (h7 q).2)
    have key : (∃ j, j < dD d ∧ dNm d j = cW T t ∧ Mo_known_21 N N (nI t) 0 A = some (nI j, A)) ∨ ((¬ ∃ j, j < dD d ∧ dNm d j = cW T t) ∧ Mo_known_21 N N (nI t) 0 A = some (-1, W)) := by
      refine iter (F := fun f i (m : Unit) => Mo_known_21 N f (nI t) (nI i) A) (i := 0) (f := N) (s := ()) (n := dD d + dG d) (Q := fun r => (∃ j, j < dD d ∧ dNm d j = cW T t ∧ r = some (nI j, A)) ∨ ((¬ ∃ j, j < dD d ∧ dNm d j = cW T t) ∧ r = some (-1, W))) (fun i m => ∀ j, j < i → k j < 10 → ¬ nm j = cW T t) ?_ ?_ (Nat.zero_le _) (by omega) (fun j hj => absurd hj (by omega))
      · rintro f i - hi hj
        obtain ⟨g1, g2, g3, g4⟩ := nmA.2.1 i hi
        have hk : k i ≤ 10 := by rcases g4 with ⟨q, -⟩ | ⟨q, -⟩ <;> omega
        have go : Mo_known_21 N (f + 1) (nI t) (nI i) A = if lg_cmp (lN (krd 27 (nm i))) (lN (krd 27 (cW T t))) = 0 then (if (10 : Int32) ≤ nI (k i) then (Mo_known_63 N (Mo_known_21 N f) (nI t) (nI i) A) else (some (nI (k i), A))) else (Mo_known_63 N (Mo_known_21 N f) (nI t) (nI i) A) := by
          rw [Mo_known_21, nmA.1, if_neg (by rw [leP (by omega) (by omega)]; omega), grd_in (by omega) (by omega), grd_in (by omega) (by omega), clp (by omega), clp (by omega), g1, (aT' t h2).2.2.2 k20, grd_in (by omega) (by omega), grd_in (by omega) (by omega), g3]
        have nx : Mo_known_63 N (Mo_known_21 N f) (nI t) (nI i) A = Mo_known_21 N f (nI t) (nI (i + 1)) A := by
          unfold Mo_known_63
          rw [show nI i + 1 = nI (i + 1) from nI_add i 1]
        by_cases z : nm i = cW T t
        · rw [if_pos (by rw [lg_cmp_eq, z])] at go
          by_cases y : k i < 10
          · refine Or.inr (Or.inl ⟨k i, ?_, ?_, ?_⟩)
            · rcases g4 with ⟨q, -⟩ | ⟨q, -⟩ <;> omega
            · rcases g4 with ⟨q, q2⟩ | ⟨q, -⟩
              · rw [← q2]; exact z
              · omega
            · rw [go, if_neg (by rw [show (10 : Int32) = nI 10 from rfl, leP (by omega) (by omega)]; omega)]
          · refine Or.inl ⟨(), fun j q1 q2 => ?_, by rw [go, if_pos (by rw [show (10 : Int32) = nI 10 from rfl, leP (by omega) (by omega)]; omega), nx]⟩
            by_cases e : j = i
            · subst e; exact absurd q2 y
            · exact hj j (by omega) q2
        · rw [if_neg (by rw [lg_cmp_eq, krd_eq (by omega) (by omega) g2 hw]; exact z)] at go
          refine Or.inl ⟨(), fun j q1 q2 => ?_, by rw [go, nx]⟩
          by_cases e : j = i
          · subst e; exact z
          · exact hj j (by omega) q2
      · rintro f - hj
        refine Or.inr ⟨?_, ?_⟩
        · rintro ⟨j, q1, q2⟩
          obtain ⟨i, hi, qi⟩ := nmA.2.2.1 j q1
          rcases (nmA.2.1 i hi).2.2.2 with ⟨y1, y2⟩ | ⟨y1, -⟩
          · exact hj i hi (by omega) (by rw [y2, qi]; exact q2)
          · omega
        · rw [Mo_known_21, nmA.1, if_pos (by rw [leP (by omega) (by omega)]; omega), show (4 : Int32) = nI 4 from rfl, eW, bVs]
    rw [← base] at key
    show match (if fnd (dNm d) (dD d) (cW T t) < dD d then Except.ok (fnd (dNm d) (dD d) (cW T t), t + 1, s) else Except.ok (0, t + 1, sAdd s 4 (cP T t)) : Except (Nat × Nat) (Nat × Nat × (Nat × Nat))) with
      | .ok (x, u, s') => ∃ r A, Mo_known N M = some (r, A) ∧ (s'.1 = 0 → r = nI x) ∧ NM T u s' A ∧ frN M A
      | .error e => ∃ r A, Mo_known N M = some (r, A) ∧ FM T e A ∧ frN M A
    rcases key with ⟨j, j1, j2, j3⟩ | ⟨j1, j2⟩
    · have z : fnd (dNm d) (dD d) (cW T t) < dD d := fnd_ex.mpr ⟨j, j1, j2⟩
      rw [if_pos z]
      exact ⟨nI j, A, j3, fun q => by rw [hu q j j1 _ z (j2.trans (fnd_at z).symm)], nA, rA⟩
    · have z : ¬ fnd (dNm d) (dD d) (cW T t) < dD d := fun q => j1 (fnd_ex.mp q)
      rw [if_neg z]
      refine ⟨-1, W, j2, fun q => ?_, nW, rA.trans rW⟩
      have q : (sAdd s 4 (cP T t)).1 = 0 := q
      unfold sAdd at q
      split at q
      · have q : (4 : Nat) = 0 := q; omega
      · omega
theorem known_f (h : FM T e M) : Mo_known N M = some (-1, M) := by
  unfold Mo_known
  rw [nxs, must_f h, bVs, if_neg h.pos.1]
end
