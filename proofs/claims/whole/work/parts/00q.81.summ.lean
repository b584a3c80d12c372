/-! the sum: the model -/
def cdM (b : Nat) (O : List (Nat × Nat)) (M : mS) : Prop := M.1 64 40 = nI (b + O.length) ∧ ∀ i x, O[i]? = some x → M.1 90 (b + i) = nI x.1 ∧ M.1 91 (b + i) = nI x.2
def wtM : List Nat → mS → Prop
  | [], _ => True
  | k :: W, M => M.1 92 W.length = nI (mkK k) ∧ wtM W M
theorem wtM_fr {A M : mS} : ∀ {W : List Nat}, wtM W M → (∀ j, j < W.length → A.1 92 j = M.1 92 j) → wtM W A
  | [], _, _ => trivial
  | k :: W, h, hf => ⟨(hf W.length (by show W.length < W.length + 1; omega)).trans h.1, wtM_fr h.2 (fun j hj => hf j (by show j < W.length + 1; omega))⟩
/-- what a sum of the model may write, from code b on -/
def frE (b w0 : Nat) (M A : mS) : Prop := (∀ a j, a ≠ 92 → (a ≠ 64 ∨ (j ≠ 11 ∧ j ≠ 12 ∧ j ≠ 13 ∧ j ≠ 14 ∧ j ≠ 15 ∧ j ≠ 16 ∧ j ≠ 40 ∧ j ≠ 44)) → ((a ≠ 90 ∧ a ≠ 91) ∨ j < b ∨ w0 + 420 ≤ j) → A.1 a j = M.1 a j) ∧ A.2 = M.2
/-- .. no token, no fault -/
def frE0 (b w0 : Nat) (M A : mS) : Prop := (∀ a j, a ≠ 92 → (a ≠ 64 ∨ (j ≠ 40 ∧ j ≠ 44)) → ((a ≠ 90 ∧ a ≠ 91) ∨ j < b ∨ w0 + 420 ≤ j) → A.1 a j = M.1 a j) ∧ A.2 = M.2
theorem frE.refl {b w0 : Nat} {M : mS} : frE b w0 M M := ⟨fun _ _ _ _ _ => rfl, rfl⟩
theorem frE0.refl {b w0 : Nat} {M : mS} : frE0 b w0 M M := ⟨fun _ _ _ _ _ => rfl, rfl⟩
theorem frE.trans {b w0 : Nat} {A B C : mS} (h : frE b w0 A B) (g : frE b w0 B C) : frE b w0 A C := ⟨fun a j q1 q2 q3 => (g.1 a j q1 q2 q3).trans (h.1 a j q1 q2 q3), g.2.trans h.2⟩
theorem frE0.trans {b w0 : Nat} {A B C : mS} (h : frE0 b w0 A B) (g : frE0 b w0 B C) : frE0 b w0 A C := ⟨fun a j q1 q2 q3 => (g.1 a j q1 q2 q3).trans (h.1 a j q1 q2 q3), g.2.trans h.2⟩
theorem frE0.frE {b w0 : Nat} {M A : mS} (h : frE0 b w0 M A) : frE b w0 M A := ⟨fun a j q1 q2 q3 => h.1 a j q1 (by omega) q3, h.2⟩
theorem frN.frE {b w0 : Nat} {M A : mS} (h : frN M A) : frE b w0 M A := ⟨fun a j q1 q2 q3 => h.1 a j (by omega), h.2⟩
theorem frE.frO {b w0 : Nat} {M A : mS} (h : frE b w0 M A) : frO M A := ⟨fun a j q => h.1 a j (by omega) (by omega) (by omega), fun a j _ => by rw [h.2]⟩
theorem cdM_fr {b : Nat} {O : List (Nat × Nat)} {M A : mS} (h : cdM b O M) (h1 : A.1 64 40 = M.1 64 40) (h2 : ∀ a j, (a = 90 ∨ a = 91) → A.1 a j = M.1 a j) : cdM b O A := ⟨h1.trans h.1, fun i x hx => by rw [h2 90 _ (by omega), h2 91 _ (by omega)]; exact h.2 i x hx⟩
section
variable {N : Nat} {T : ctx} {t : Nat} {s : Nat × Nat} {e : Nat × Nat}
theorem emit_s {b w0 a0 a1 : Nat} {O : List (Nat × Nat)} {M : mS} (h : cdM b O M) (hb : b + O.length < w0 + 420) (hw : w0 ≤ 420) : ∃ A, Mo_emit N (nI a0) (nI a1) M = some A ∧ cdM b (O ++ [(a0, a1)]) A ∧ frE0 b w0 M A ∧ A.1 64 44 = M.1 64 44 ∧ (∀ j, A.1 92 j = M.1 92 j) := by
  obtain ⟨c1, c2⟩ := h
  have l1 : (O ++ [(a0, a1)]).length = O.length + 1 := by simp
  refine ⟨mWI (mWI (mWI M 90 (b + O.length) (nI a0)) 91 (b + O.length) (nI a1)) 64 40 (nI (b + O.length + 1)), ?_, ⟨by rw [l1, rI rfl]; rfl, fun i x hx => ?_⟩, ⟨fun a j q1 q2 q3 => ?_, rfl⟩, ?_, fun j => ?_⟩
  · unfold Mo_emit
    rw [c1, grd_in (show b + O.length < 840 by omega) (by omega), clp (by omega), nxs, mWI_ne (by omega), c1, grd_in (show b + O.length < 840 by omega) (by omega), clp (by omega), nxs, mWI_ne (by omega), mWI_ne (by omega), c1, nxs, show nI (b + O.length) + 1 = nI (b + O.length + 1) from nI_add _ 1]
  · by_cases z : i < O.length
    · rw [List.getElem?_append_left z] at hx
      rw [mWI_ne (by omega), mWI_ne (by omega), rN (by omega), mWI_ne (by omega), rN (by omega), mWI_ne (by omega)]
      exact c2 i x hx
    · rw [List.getElem?_append_right (by omega)] at hx
      have hi : i = O.length := by
        apply Classical.byContradiction
        intro y
        rw [List.getElem?_eq_none (by simp; omega)] at hx
        cases hx
      subst hi
      rw [Nat.sub_self] at hx
      injection hx with hx
      subst hx
      exact ⟨by rw [mWI_ne (by omega), mWI_ne (by omega), rI rfl], by rw [mWI_ne (by omega), rI rfl]⟩
  · rw [rN (by omega), rN (by omega), rN (by omega)]
  · rw [rN (by omega), mWI_ne (by omega), mWI_ne (by omega)]
  · rw [mWI_ne (by omega), mWI_ne (by omega), mWI_ne (by omega)]
theorem mkK_op : ∀ k, 24 ≤ k → k ≤ 27 → (mkK k = 8 ∧ k = 24) ∨ (mkK k = 9 ∧ k = 25) ∨ (mkK k = 10 ∧ k = 26) ∨ (mkK k = 15 ∧ k = 27) := by
  intro k h1 h2
  have : k = 24 ∨ k = 25 ∨ k = 26 ∨ k = 27 := by omega
  rcases this with rfl | rfl | rfl | rfl
  · exact Or.inl ⟨rfl, rfl⟩
  · exact Or.inr (Or.inl ⟨rfl, rfl⟩)
  · exact Or.inr (Or.inr (Or.inl ⟨rfl, rfl⟩))
  · exact Or.inr (Or.inr (Or.inr ⟨rfl, rfl⟩))
theorem comes_s {b w0 r : Nat} (hw0 : w0 ≤ 420) (hr : r = 1 ∨ r = 2) : ∀ {W : List Nat} {q f : Nat} {O : List (Nat × Nat)} {M : mS}, okW W q → W.length ≤ 30 → W.length < f → cdM b O M → wtM W M → M.1 64 44 = nI W.length → b + O.length + sgW W ≤ w0 + 410 → ∃ A, Mo_comesOut_0 N f (nI (r - 1)) M = some A ∧ cdM b (O ++ popE r W) A ∧ wtM (popW r W) A ∧ A.1 64 44 = nI (popW r W).length ∧ frE0 b w0 M A := by
  intro W
  induction W with
  | nil =>
    intro q f O M h hl hf hc hw h5 hs
    obtain ⟨f, rfl⟩ : ∃ g, f = g + 1 := ⟨f - 1, by have : ([] : List Nat).length = 0 := rfl; omega⟩
    refine ⟨M, ?_, by rw [show popE r [] = [] from rfl, List.append_nil]; exact hc, trivial, h5, frE0.refl⟩
    rw [Mo_comesOut_0, h5, if_pos (by decide)]
  | cons k W ih =>
    intro q f O M h hl hf hc hw h5 hs
    have l1 : (k :: W).length = W.length + 1 := rfl
    obtain ⟨f, rfl⟩ : ∃ g, f = g + 1 := ⟨f - 1, by omega⟩
    have hk := okW_k h (List.mem_cons_self ..)
    have base : Mo_comesOut_0 N (f + 1) (nI (r - 1)) M = if nI (mkK k) = 6 then (some M) else (if nI (r - 1) = 0 then (Mo_comesOut_42 N (Mo_comesOut_0 N f) (nI (r - 1)) (nI (mkK k)) M) else (if nI (mkK k) = 8 then (some M) else (if nI (mkK k) = 9 then (some M) else (Mo_comesOut_42 N (Mo_comesOut_0 N f) (nI (r - 1)) (nI (mkK k)) M)))) := by
      rw [Mo_comesOut_0, h5, l1, if_neg (by rw [show (0 : Int32) = nI 0 from rfl, leP (by omega) (by omega)]; omega), show nI (W.length + 1) - 1 = nI (W.length + 1 - 1) from sbP (b := 1) (by omega), Nat.add_sub_cancel, grd_in (by omega) (by omega), clp (by omega), hw.1, nxs]
    unfold popE popW
    rcases h with ⟨h1, h2, h3⟩ | ⟨h1, h2, h3, h4⟩
    · subst h1
      rw [if_pos (show rkW 29 < r by have : rkW 29 = 0 := rfl; omega), if_pos (show rkW 29 < r by have : rkW 29 = 0 := rfl; omega)]
      refine ⟨M, ?_, by rw [List.append_nil]; exact hc, hw, h5, frE0.refl⟩
      rw [base, if_pos (by decide)]
    · have hs2 : sgW (k :: W) = 1 + sgW W := by show (if k = 29 then 0 else 1) + sgW W = _; rw [if_neg (by omega)]
      have c6 : ¬ nI (mkK k) = 6 := by rcases mkK_op k h1 h2 with ⟨q, -⟩ | ⟨q, -⟩ | ⟨q, -⟩ | ⟨q, -⟩ <;> rw [q] <;> decide
      rw [if_neg c6] at base
      -- one comes out
      have one : Mo_comesOut_0 N (f + 1) (nI (r - 1)) M = Mo_comesOut_42 N (Mo_comesOut_0 N f) (nI (r - 1)) (nI (mkK k)) M → ∃ A, Mo_comesOut_0 N (f + 1) (nI (r - 1)) M = some A ∧ cdM b (O ++ (k - 22, 0) :: popE r W) A ∧ wtM (popW r W) A ∧ A.1 64 44 = nI (popW r W).length ∧ frE0 b w0 M A := by
        intro eb
        have hc1 : cdM b O (mWI M 64 44 (nI W.length)) := cdM_fr hc (rN (by omega)) (fun a j q => by rw [mWI_ne (by omega)])
        obtain ⟨A, eA, cA, fA, a44, a92⟩ := emit_s (N := N) (w0 := w0) (a0 := k - 22) (a1 := 0) hc1 (by omega) hw0
        have l2 : (O ++ [(k - 22, 0)]).length = O.length + 1 := by simp
        obtain ⟨B, eB, cB, wB, b5, fB⟩ := ih (q := q) (f := f) (O := O ++ [(k - 22, 0)]) (M := A) h4 (by omega) (by omega) cA (wtM_fr hw.2 (fun j hj => by rw [a92, mWI_ne (by omega)])) (by rw [a44, rI rfl]) (by omega)
        have f0 : frE0 b w0 M (mWI M 64 44 (nI W.length)) := ⟨fun a j q1 q2 q3 => rN (by omega), rfl⟩
        refine ⟨B, ?_, by rw [List.append_assoc] at cB; exact cB, wB, b5, (f0.trans fA).trans fB⟩
        rw [eb]
        unfold Mo_comesOut_42 Mo_comesOut_84
        rw [h5, l1, show nI (W.length + 1) - 1 = nI (W.length + 1 - 1) from sbP (b := 1) (by omega), Nat.add_sub_cancel, nxs]
        rcases mkK_op k h1 h2 with ⟨q, q2⟩ | ⟨q, q2⟩ | ⟨q, q2⟩ | ⟨q, q2⟩ <;> rw [q] <;> subst q2
        · rw [if_pos (by decide), show (2 : Int32) = nI (24 - 22) from rfl, show (0 : Int32) = nI 0 from rfl, eA, bVs, eB]
        · rw [if_neg (by decide), if_pos (by decide), show (3 : Int32) = nI (25 - 22) from rfl, show (0 : Int32) = nI 0 from rfl, eA, bVs, eB]
        · rw [if_neg (by decide), if_neg (by decide), if_pos (by decide), show (4 : Int32) = nI (26 - 22) from rfl, show (0 : Int32) = nI 0 from rfl, eA, bVs, eB]
        · rw [if_neg (by decide), if_neg (by decide), if_neg (by decide), show (5 : Int32) = nI (27 - 22) from rfl, show (0 : Int32) = nI 0 from rfl, eA, bVs, eB]
      have rk := rkW_op (k := k) ⟨h1, h2⟩
      rcases hr with hr | hr
      · subst hr
        rw [if_neg (show ¬ rkW k < 1 by omega), if_neg (show ¬ rkW k < 1 by omega)]
        exact one (by rw [base, if_pos (by decide)])
      · subst hr
        rw [if_neg (by decide)] at base
        rcases mkK_op k h1 h2 with ⟨q, q2⟩ | ⟨q, q2⟩ | ⟨q, q2⟩ | ⟨q, q2⟩
        · subst q2
          rw [if_pos (show rkW 24 < 2 by decide), if_pos (show rkW 24 < 2 by decide)]
          exact ⟨M, by rw [base, q, if_pos (by decide)], by rw [List.append_nil]; exact hc, hw, h5, frE0.refl⟩
        · subst q2
          rw [if_pos (show rkW 25 < 2 by decide), if_pos (show rkW 25 < 2 by decide)]
          exact ⟨M, by rw [base, q, if_neg (by decide), if_pos (by decide)], by rw [List.append_nil]; exact hc, hw, h5, frE0.refl⟩
        · subst q2
          rw [if_neg (show ¬ rkW 26 < 2 by decide), if_neg (show ¬ rkW 26 < 2 by decide)]
          exact one (by rw [base, q, if_neg (by decide), if_neg (by decide)])
        · subst q2
          rw [if_neg (show ¬ rkW 27 < 2 by decide), if_neg (show ¬ rkW 27 < 2 by decide)]
          exact one (by rw [base, q, if_neg (by decide), if_neg (by decide)])
end
