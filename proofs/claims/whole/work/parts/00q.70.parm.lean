/-! the model's reader: small steps -/
def NM (T : ctx) (t : Nat) (s : Nat × Nat) (M : mS) : Prop := TM T M ∧ t < cN T ∧ M.1 64 11 = nI t ∧ M.1 64 13 = 0 ∧ M.1 64 15 = nI s.1 ∧ s.1 ≤ 5 ∧ (s.1 ≠ 0 → M.1 64 16 = nI s.2 ∧ s.2 < cP T t)
def FM (T : ctx) (e : Nat × Nat) (M : mS) : Prop := TM T M ∧ e.2 < cN T ∧ 1 ≤ e.1 ∧ e.1 ≤ 2 ∧ M.1 64 13 = nI e.1 ∧ M.1 64 14 = nI (cP T e.2) ∧ ∃ t, t ≤ 400 ∧ M.1 64 11 = nI t
def frN (M A : mS) : Prop := (∀ a j, a ≠ 64 ∨ (j ≠ 11 ∧ j ≠ 13 ∧ j ≠ 14 ∧ j ≠ 15 ∧ j ≠ 16) → A.1 a j = M.1 a j) ∧ A.2 = M.2
theorem frN.refl {M : mS} : frN M M := ⟨fun _ _ _ => rfl, rfl⟩
theorem frN.trans {A B C : mS} (h : frN A B) (g : frN B C) : frN A C := ⟨fun a j q => (g.1 a j q).trans (h.1 a j q), g.2.trans h.2⟩
/-- what the model's reader may write, the tokens aside -/
def frO (M A : mS) : Prop := (∀ a j, (a < 64 ∨ (65 ≤ a ∧ a ≤ 70) ∨ 93 ≤ a) ∨ (a = 64 ∧ (j ≤ 10 ∨ (17 ≤ j ∧ j ≤ 19) ∨ 45 ≤ j)) → A.1 a j = M.1 a j) ∧ ∀ a j, a ≠ 72 → A.2 a j = M.2 a j
theorem frO.refl {M : mS} : frO M M := ⟨fun _ _ _ => rfl, fun _ _ _ => rfl⟩
theorem frO.trans {A B C : mS} (h : frO A B) (g : frO B C) : frO A C := ⟨fun a j q => (g.1 a j q).trans (h.1 a j q), fun a j q => (g.2 a j q).trans (h.2 a j q)⟩
theorem frN.frO {M A : mS} (h : frN M A) : frO M A := ⟨fun a j q => h.1 a j (by omega), fun a j _ => by rw [h.2]⟩
theorem frO.TM {T : ctx} {M A : mS} (h : frO M A) (g : TM T M) : TM T A := fun i hi => by
  rw [h.1 67 i (by omega), h.1 68 i (by omega), h.1 69 i (by omega), h.2 70 i (by omega)]
  exact g i hi
section
variable {N : Nat} {T : ctx} {M : mS} {t : Nat} {s : Nat × Nat} {e : Nat × Nat}
theorem FM.pos (h : FM T e M) : ¬ M.1 64 13 ≤ 0 ∧ ¬ M.1 64 13 = 0 ∧ 0 < M.1 64 13 := by
  obtain ⟨h1, h2, h3, h4, h5, h6, h7⟩ := h
  rw [h5, show (0 : Int32) = nI 0 from rfl, leP (by omega) (by omega), eqP (by omega) (by omega), ltP (by omega) (by omega)]; omega
theorem NM.fr {A : mS} (h : NM T t s M) (f : frO M A) (hj : ∀ j, 11 ≤ j → j ≤ 16 → j ≠ 12 → A.1 64 j = M.1 64 j) : NM T t s A := ⟨f.TM h.1, h.2.1, (hj 11 (by omega) (by omega) (by omega)).trans h.2.2.1, (hj 13 (by omega) (by omega) (by omega)).trans h.2.2.2.1, (hj 15 (by omega) (by omega) (by omega)).trans h.2.2.2.2.1, h.2.2.2.2.2.1, fun q => ⟨(hj 16 (by omega) (by omega) (by omega)).trans (h.2.2.2.2.2.2 q).1, (h.2.2.2.2.2.2 q).2⟩⟩
theorem FM.fr {A : mS} (h : FM T e M) (f : frO M A) (hj : ∀ j, 11 ≤ j → j ≤ 14 → j ≠ 12 → A.1 64 j = M.1 64 j) : FM T e A := by
  obtain ⟨h1, h2, h3, h4, h5, h6, t, h7, h8⟩ := h
  exact ⟨f.TM h1, h2, h3, h4, (hj 13 (by omega) (by omega) (by omega)).trans h5, (hj 14 (by omega) (by omega) (by omega)).trans h6, t, h7, (hj 11 (by omega) (by omega) (by omega)).trans h8⟩
theorem is_s (hT : TF T) (h : NM T t s M) {k : Nat} (hk : k < 1000) : Mo_is N (nI k) M = some (if mkK (cK T t) = k then 1 else 0) := by
  obtain ⟨h1, h2, h3, h4, -⟩ := h
  have c2 := hT.2.1
  have hm := mkK_le (cK T t) (by have := hT.2.2.1 t; omega)
  unfold Mo_is
  rw [if_pos h4, h3, grd_in (by omega) (by omega), clp (by omega), (h1 t h2).1]
  by_cases z : mkK (cK T t) = k
  · rw [if_pos z, if_pos (by rw [z])]
  · rw [if_neg z, if_neg (by rw [eqP (by omega) (by omega)]; exact z)]
theorem is_y (hT : TF T) (h : NM T t s M) {a : Nat} (ha : a ≤ 32) (hk : cK T t = a) : Mo_is N (nI (mkK a)) M = some 1 := by
  have hm := mkK_le a (by omega)
  rw [is_s hT h (by omega), if_pos (by rw [hk])]
theorem is_n (hT : TF T) (h : NM T t s M) {a : Nat} (ha : a ≤ 32) (hk : ¬ cK T t = a) : Mo_is N (nI (mkK a)) M = some 0 := by
  have hm := mkK_le a (by omega)
  rw [is_s hT h (by omega), if_neg (fun q => hk ((mkK_inj (hT.2.2.1 t) ha).mp q))]
theorem is_f {k : Int32} (h : FM T e M) : Mo_is N k M = some 0 := by
  unfold Mo_is
  rw [if_neg h.pos.2.1]
theorem fail_s (hT : TF T) (h : NM T t s M) {x : Nat} (hx : 1 ≤ x) (hx2 : x ≤ 2) : ∃ A, Mo_fail N (nI x) M = some A ∧ FM T (x, t) A ∧ frN M A := by
  obtain ⟨h1, h2, h3, h4, -⟩ := h
  have c2 := hT.2.1
  have fr : frN M (mWI (mWI M 64 13 (nI x)) 64 14 (nI (cP T t))) := ⟨fun a j q => by rw [rN (by omega), rN (by omega)], rfl⟩
  refine ⟨mWI (mWI M 64 13 (nI x)) 64 14 (nI (cP T t)), ?_, ⟨fr.frO.TM h1, h2, hx, hx2, ?_, rI rfl, t, by omega, ?_⟩, fr⟩
  · unfold Mo_fail
    rw [h4, if_pos (by decide), nxs, rN (show (64 : Nat) ≠ 64 ∨ 11 ≠ 13 by omega), h3, grd_in (by omega) (by omega), clp (by omega), mWI_ne (by omega), (h1 t h2).2.1, nxs]
  · rw [rN (by omega), rI rfl]
  · rw [rN (by omega), rN (by omega)]; exact h3
theorem fail_f {x : Int32} (h : FM T e M) : Mo_fail N x M = some M := by
  unfold Mo_fail
  rw [if_neg h.pos.1]
theorem rgoes_s (hT : TF T) (h : NM T t s M) {a : Nat} (ha : a ≤ 30) (hk : cK T t = a) : match aT T t a with
    | .ok u => u = t + 1 ∧ ∃ A, Mo_goesOn N M = some A ∧ NM T u s A ∧ frN M A
    | .error e => ∃ A, Mo_goesOn N M = some A ∧ FM T e A ∧ frN M A := by
  obtain ⟨h1, h2, h3, h4, h5, h6, h7⟩ := id h
  have c2 := hT.2.1
  obtain ⟨B, eB, fB, rB⟩ := fail_s (N := N) hT h (x := 2) (by omega) (by omega)
  unfold aT
  rw [if_pos hk]
  by_cases y : t < 400
  · rw [if_pos y]
    have fr : frN M (mWI M 64 11 (nI (t + 1))) := ⟨fun b j q => rN (by omega), rfl⟩
    have hn := t_next hT h2 y (by omega)
    refine ⟨rfl, mWI M 64 11 (nI (t + 1)), ?_, ⟨fr.frO.TM h1, hn, rI rfl, ?_, ?_, h6, fun q => ⟨?_, ?_⟩⟩, fr⟩
    · unfold Mo_goesOn
      rw [h3, if_neg (by rw [show (400 : Int32) = nI 400 from rfl, eqP (by omega) (by omega)]; omega), nxs, show nI t + 1 = nI (t + 1) from nI_add t 1]
    · rw [rN (by omega)]; exact h4
    · rw [rN (by omega)]; exact h5
    · rw [rN (by omega)]; exact (h7 q).1
    · have := hT.2.2.2.2.2.2.2.1 t (t + 1) (by omega) hn
      have := (h7 q).2
      omega
  · rw [if_neg y]
    refine ⟨B, ?_, fB, rB⟩
    unfold Mo_goesOn
    rw [h3, if_pos (by rw [show (400 : Int32) = nI 400 from rfl, eqP (by omega) (by omega)]; omega), show (2 : Int32) = nI 2 from rfl, eB, bVs]
theorem rgoes_f (h : FM T e M) : ∃ A, Mo_goesOn N M = some A ∧ FM T e A ∧ frN M A := by
  obtain ⟨h1, h2, h3, h4, h5, h6, t, h7, h8⟩ := id h
  unfold Mo_goesOn
  by_cases z : t = 400
  · refine ⟨M, ?_, h, frN.refl⟩
    rw [h8, if_pos (by rw [z]; rfl), fail_f h, bVs]
  · have fr : frN M (mWI M 64 11 (nI (t + 1))) := ⟨fun b j q => rN (by omega), rfl⟩
    refine ⟨mWI M 64 11 (nI (t + 1)), ?_, ⟨fr.frO.TM h1, h2, h3, h4, ?_, ?_, t + 1, by omega, rI rfl⟩, fr⟩
    · rw [h8, if_neg (by rw [show (400 : Int32) = nI 400 from rfl, eqP (by omega) (by omega)]; exact z), nxs, show nI t + 1 = nI (t + 1) from nI_add t 1]
    · rw [rN (by omega)]; exact h5
    · rw [rN (by omega)]; exact h6
theorem must_s (hT : TF T) (h : NM T t s M) {a : Nat} (ha : a ≤ 30) : match aT T t a with
    | .ok u => u = t + 1 ∧ cK T t = a ∧ ∃ A, Mo_must N (nI (mkK a)) M = some A ∧ NM T u s A ∧ frN M A
    | .error e => ∃ A, Mo_must N (nI (mkK a)) M = some A ∧ FM T e A ∧ frN M A := by
  have hm := mkK_le a (by omega)
  have hk := hT.2.2.1 t
  by_cases z : cK T t = a
  · have g := rgoes_s (N := N) hT h ha z
    have base : Mo_must N (nI (mkK a)) M = bV (Mo_goesOn N M) fun M7 => some M7 := by
      unfold Mo_must
      rw [is_y hT h (by omega) z, bRs, if_neg (by decide)]
    cases ea : aT T t a with
    | error e =>
      rw [ea] at g
      obtain ⟨A, eA, fA, rA⟩ := g
      exact ⟨A, by rw [base, eA, bVs], fA, rA⟩
    | ok u =>
      rw [ea] at g
      obtain ⟨eu, A, eA, fA, rA⟩ := g
      exact ⟨eu, z, A, by rw [base, eA, bVs], fA, rA⟩
  · obtain ⟨B, eB, fB, rB⟩ := fail_s (N := N) hT h (x := 1) (by omega) (by omega)
    have base : Mo_must N (nI (mkK a)) M = some B := by
      unfold Mo_must
      rw [is_n hT h (by omega) z, bRs, if_pos rfl, show (1 : Int32) = nI 1 from rfl, eB, bVs]
    unfold aT
    rw [if_neg z]
    exact ⟨B, base, fB, rB⟩
theorem must_f {a : Int32} (h : FM T e M) : Mo_must N a M = some M := by
  unfold Mo_must
  rw [is_f h, bRs, if_pos rfl, fail_f h, bVs]
/-- a fault of sense at token q: now, or the same again -/
theorem wrong_s (hT : TF T) (h : NM T t s M) {x q : Nat} (hx : 1 ≤ x) (hx5 : x ≤ 5) (hq : q < cN T) (hs : s.1 ≠ 0 → s.2 < cP T q ∨ s = (x, cP T q)) : ∃ A, Mo_wrong N (nI x) (nI q) M = some A ∧ frN M A ∧ A.1 64 11 = M.1 64 11 ∧ A.1 64 13 = 0 ∧ A.1 64 15 = nI (sAdd s x (cP T q)).1 ∧ ((sAdd s x (cP T q)).1 ≠ 0 → A.1 64 16 = nI (sAdd s x (cP T q)).2) := by
  obtain ⟨h1, h2, h3, h4, h5, h6, h7⟩ := id h
  have c2 := hT.2.1
  have p2 := hT.2.2.2.2.2.2.2.2 q hq
  have hp0 : cP T t ≤ 2000 := hT.2.2.2.2.2.2.2.2 t h2
  have base : Mo_wrong N (nI x) (nI q) M = if M.1 64 15 = 0 then (Mo_wrong_46 N (nI x) (nI (cP T q)) M) else (if (M.1 64 16) < nI (cP T q) then (some M) else (if nI (cP T q) = (M.1 64 16) then (if nI x < (M.1 64 15) then (Mo_wrong_46 N (nI x) (nI (cP T q)) M) else (some M)) else (Mo_wrong_46 N (nI x) (nI (cP T q)) M))) := by
    unfold Mo_wrong
    rw [grd_in (by omega) (by omega), clp (by omega), (h1 q hq).2.1, nxs, h4, if_neg (by decide)]
  unfold sAdd
  by_cases z : s.1 = 0
  · rw [if_pos z]
    rw [h5, z, if_pos (by decide)] at base
    have fr : frN M (mWI (mWI M 64 15 (nI x)) 64 16 (nI (cP T q))) := ⟨fun a j q => by rw [rN (by omega), rN (by omega)], rfl⟩
    refine ⟨mWI (mWI M 64 15 (nI x)) 64 16 (nI (cP T q)), ?_, fr, ?_, ?_, ?_, fun _ => rI rfl⟩
    · rw [base]; unfold Mo_wrong_46; rw [nxs, nxs]
    · rw [rN (by omega), rN (by omega)]
    · rw [rN (by omega), rN (by omega)]; exact h4
    · rw [rN (by omega), rI rfl]
  · rw [if_neg z]
    obtain ⟨g1, g2⟩ := h7 z
    rw [h5, if_neg (by rw [show (0 : Int32) = nI 0 from rfl, eqP (by omega) (by omega)]; exact z), g1] at base
    refine ⟨M, ?_, frN.refl, rfl, h4, h5, fun _ => g1⟩
    rw [base]
    rcases hs z with y | y
    · rw [if_pos (by rw [ltP (by omega) (by omega)]; exact y)]
    · have e1 : s.1 = x := by rw [y]
      have e2 : s.2 = cP T q := by rw [y]
      rw [if_neg (by rw [ltP (by omega) (by omega)]; omega), if_pos (by rw [e2]), if_neg (by rw [ltP (by omega) (by omega)]; omega)]
theorem bnd_s (hT : TF T) (h : NM T t s M) {lo hi : Nat} (hlo : lo < 100000) (hhi : hi < 100000) : match aI T lo hi t s with
    | .ok (x, u, s') => ∃ A, Mo_bounded N (nI lo) (nI hi) M = some (nI x, A) ∧ NM T u s' A ∧ frN M A
    | .error e => ∃ x A, Mo_bounded N (nI lo) (nI hi) M = some (x, A) ∧ FM T e A ∧ frN M A := by
  obtain ⟨h1, h2, h3, h4, h5, h6, h7⟩ := id h
  have c2 := hT.2.1
  unfold aI
  by_cases z : cK T t = 21
  · have v9 := hT.2.2.2.2.2.1 t h2 z
    have base : Mo_bounded N (nI lo) (nI hi) M = if nI (cV T t) < nI lo then (Mo_bounded_42 N (nI (cV T t)) M) else (if nI (cV T t) ≤ nI hi then (Mo_bounded_51 N (nI (cV T t)) M) else (Mo_bounded_42 N (nI (cV T t)) M)) := by
      unfold Mo_bounded
      rw [h4, if_neg (by decide), show (2 : Int32) = nI (mkK 21) from rfl, is_y hT h (by omega) z, bRs, if_neg (by decide), h3, grd_in (by omega) (by omega), clp (by omega), nxs, (h1 t h2).2.2.1 z]
    obtain ⟨W, eW, w1, w2, w3, w4, w5⟩ := wrong_s (N := N) hT h (x := 5) (q := t) (by omega) (by omega) h2 (fun q => Or.inl (h7 q).2)
    -- wrong leaves the place; then one token on
    have on : ∀ (B : mS) (s' : Nat × Nat), TM T B → B.1 64 11 = nI t → B.1 64 13 = 0 → B.1 64 15 = nI s'.1 → s'.1 ≤ 5 → (s'.1 ≠ 0 → B.1 64 16 = nI s'.2 ∧ s'.2 ≤ cP T t) → match aT T t 21 with
        | .ok u => u = t + 1 ∧ ∃ A, Mo_goesOn N B = some A ∧ NM T u s' A ∧ frN B A
        | .error e => ∃ A, Mo_goesOn N B = some A ∧ FM T e A ∧ frN B A := by
      intro B s' b1 b2 b3 b4 b5 b6
      unfold aT
      rw [if_pos z]
      by_cases y : t < 400
      · rw [if_pos y]
        have fr : frN B (mWI B 64 11 (nI (t + 1))) := ⟨fun b j q => rN (by omega), rfl⟩
        have hn := t_next hT h2 y (by omega)
        refine ⟨rfl, mWI B 64 11 (nI (t + 1)), ?_, ⟨fr.frO.TM b1, hn, rI rfl, ?_, ?_, b5, fun q => ⟨?_, ?_⟩⟩, fr⟩
        · unfold Mo_goesOn
          rw [b2, if_neg (by rw [show (400 : Int32) = nI 400 from rfl, eqP (by omega) (by omega)]; omega), nxs, show nI t + 1 = nI (t + 1) from nI_add t 1]
        · rw [rN (by omega)]; exact b3
        · rw [rN (by omega)]; exact b4
        · rw [rN (by omega)]; exact (b6 q).1
        · have := hT.2.2.2.2.2.2.2.1 t (t + 1) (by omega) hn
          have := (b6 q).2
          omega
      · rw [if_neg y]
        have fr : frN B (mWI (mWI B 64 13 2) 64 14 (nI (cP T t))) := ⟨fun a j q => by rw [rN (by omega), rN (by omega)], rfl⟩
        refine ⟨mWI (mWI B 64 13 2) 64 14 (nI (cP T t)), ?_, ⟨fr.frO.TM b1, h2, by omega, by omega, ?_, rI rfl, t, by omega, ?_⟩, fr⟩
        · unfold Mo_goesOn Mo_fail
          rw [b2, if_pos (by rw [show (400 : Int32) = nI 400 from rfl, eqP (by omega) (by omega)]; omega), b3, if_pos (by decide), nxs, rN (show (64 : Nat) ≠ 64 ∨ 11 ≠ 13 by omega), b2, grd_in (by omega) (by omega), clp (by omega), mWI_ne (by omega), (b1 t h2).2.1, nxs, bVs]
        · rw [rN (by omega), rI rfl]; rfl
        · rw [rN (by omega), rN (by omega)]; exact b2
    by_cases r : lo ≤ cV T t ∧ cV T t ≤ hi
    · have g := on M s h1 h3 h4 h5 h6 (fun q => ⟨(h7 q).1, Nat.le_of_lt (h7 q).2⟩)
      rw [if_neg (by rw [ltP (by omega) (by omega)]; omega), if_pos (by rw [leP (by omega) (by omega)]; omega)] at base
      unfold Mo_bounded_51 at base
      cases ea : aT T t 21 with
      | error e =>
        rw [ea] at g
        obtain ⟨A, eA, fA, rA⟩ := g
        exact ⟨_, A, by rw [base, eA, bVs], fA, rA⟩
      | ok u =>
        rw [ea] at g
        obtain ⟨eu, A, eA, fA, rA⟩ := g
        rw [if_pos r]
        exact ⟨A, by rw [base, eA, bVs], fA, rA⟩
    · have g := on W (sAdd s 5 (cP T t)) (w1.frO.TM h1) (w2.trans h3) w3 w4 (by unfold sAdd; split; exact Nat.le_refl 5; exact h6) (fun q => ⟨w5 q, by
        unfold sAdd
        by_cases y : s.1 = 0
        · rw [if_pos y]; exact Nat.le_refl _
        · rw [if_neg y]; exact Nat.le_of_lt (h7 y).2⟩)
      have base2 : Mo_bounded N (nI lo) (nI hi) M = Mo_bounded_51 N (nI (cV T t)) W := by
        have e42 : Mo_bounded_42 N (nI (cV T t)) M = Mo_bounded_51 N (nI (cV T t)) W := by
          unfold Mo_bounded_42
          rw [h3, show (5 : Int32) = nI 5 from rfl, eW, bVs]
        rw [base]
        by_cases z1 : cV T t < lo
        · rw [if_pos (by rw [ltP (by omega) (by omega)]; exact z1), e42]
        · rw [if_neg (by rw [ltP (by omega) (by omega)]; exact z1), if_neg (by rw [leP (by omega) (by omega)]; omega), e42]
      unfold Mo_bounded_51 at base2
      cases ea : aT T t 21 with
      | error e =>
        rw [ea] at g
        obtain ⟨A, eA, fA, rA⟩ := g
        exact ⟨_, A, by rw [base2, eA, bVs], fA, w1.trans rA⟩
      | ok u =>
        rw [ea] at g
        obtain ⟨eu, A, eA, fA, rA⟩ := g
        rw [if_neg r]
        exact ⟨A, by rw [base2, eA, bVs], fA, w1.trans rA⟩
  · obtain ⟨B, eB, fB, rB⟩ := fail_s (N := N) hT h (x := 1) (by omega) (by omega)
    have hk := hT.2.2.1 t
    have base : Mo_bounded N (nI lo) (nI hi) M = Mo_bounded_15 N (nI lo) M := by
      unfold Mo_bounded
      rw [h4, if_neg (by decide), show (2 : Int32) = nI (mkK 21) from rfl, is_n hT h (by omega) z, bRs, if_pos rfl]
    unfold aT
    rw [if_neg z]
    refine ⟨nI lo, B, ?_, fB, rB⟩
    · rw [base]; unfold Mo_bounded_15; rw [show (1 : Int32) = nI 1 from rfl, eB, bVs]
theorem bnd_f {lo hi : Int32} (h : FM T e M) : ∃ x, Mo_bounded N lo hi M = some (x, M) := by
  unfold Mo_bounded Mo_bounded_15
  rw [if_pos h.pos.2.2, fail_f h, bVs]
  exact ⟨_, rfl⟩
end
