/-! the sum: units, signs, the whole (model) -/
def SM (b w0 : Nat) (t q : Nat) (W : List Nat) (O : List (Nat × Nat)) (M : mS) : Prop := M.1 64 12 = nI q ∧ M.1 64 44 = nI W.length ∧ wtM W M ∧ cdM b O M ∧ okW W q ∧ q ≤ 6 ∧ b + O.length + sgW W ≤ w0 + t ∧ w0 ≤ 420
def SF (b w0 : Nat) (M : mS) : Prop := ∃ q W O, M.1 64 12 = nI q ∧ q ≤ 7 ∧ M.1 64 44 = nI W.length ∧ W.length ≤ 30 ∧ wtM W M ∧ cdM b O M ∧ okW W q ∧ b + O.length + sgW W ≤ w0 + 405 ∧ w0 ≤ 420
section
variable {N : Nat} {T : ctx} {t : Nat} {s : Nat × Nat} {e : Nat × Nat} {M : mS}
theorem SF_n {b w0 : Nat} {A : mS} (h : SF b w0 M) (f : frN M A) : SF b w0 A := by
  obtain ⟨q, W, O, h1, h2, h3, h4, h5, h6, h7, h8⟩ := h
  exact ⟨q, W, O, (f.1 64 12 (by omega)).trans h1, h2, (f.1 64 44 (by omega)).trans h3, h4, wtM_fr h5 (fun j _ => f.1 92 j (by omega)), cdM_fr h6 (f.1 64 40 (by omega)) (fun a j q => f.1 a j (by omega)), h7, h8⟩
theorem SM_n {b w0 q : Nat} {W : List Nat} {O : List (Nat × Nat)} {A : mS} {u : Nat} (h : SM b w0 t q W O M) (f : frN M A) (hu : t ≤ u) : SM b w0 u q W O A := by
  obtain ⟨h1, h2, h3, h4, h5, h6, h7, h8⟩ := h
  exact ⟨(f.1 64 12 (by omega)).trans h1, (f.1 64 44 (by omega)).trans h2, wtM_fr h3 (fun j _ => f.1 92 j (by omega)), cdM_fr h4 (f.1 64 40 (by omega)) (fun a j q => f.1 a j (by omega)), h5, h6, by omega, h8⟩
theorem SM.SF {b w0 q : Nat} {W : List Nat} {O : List (Nat × Nat)} (h : SM b w0 t q W O M) (ht : t ≤ 401) : SF b w0 M := by
  obtain ⟨h1, h2, h3, h4, h5, h6, h7, h8⟩ := h
  have := okW_len h5
  exact ⟨q, W, O, h1, by omega, h2, by omega, h3, h4, h5, by omega, by omega⟩
theorem e204_f {b w0 : Nat} (hN : 5000 ≤ N) (h : FM T e M) (hs : SF b w0 M) : ∃ A, Mo_expression_204 N M = some A ∧ FM T e A ∧ frE b w0 M A := by
  obtain ⟨q, W, O, h1, h2, h3, h4, h5, h6, h7, h8, h9⟩ := hs
  obtain ⟨A, eA, cA, wA, a5, fA⟩ := comes_s (N := N) (f := N) (r := 1) h9 (Or.inl rfl) h7 h4 (by omega) h6 h5 h3 (by omega)
  refine ⟨A, ?_, h.fr fA.frE.frO (fun j q1 q2 q3 => fA.1 64 j (by omega) (by omega) (by omega)), fA.frE⟩
  unfold Mo_expression_204
  rw [show Mo_comesOut N 0 M = some A from eA, bVs]
theorem e96_f {b w0 g : Nat} {x1 : Int32} {k12 : Int32 → Int32 → mS → Option mS} (hN : 5000 ≤ N) (h : FM T e M) (hs : SF b w0 M) : ∃ A, Mo_expression_96 N k12 (g + 1) x1 M = some A ∧ FM T e A ∧ frE b w0 M A := by
  obtain ⟨A, eA, fA, rA⟩ := e204_f (N := N) hN h hs
  refine ⟨A, ?_, fA, rA⟩
  rw [Mo_expression_96, is_f h, bRs, if_pos rfl, Mo_expression_145, is_f h, bRs, if_pos rfl, is_f h, bRs, if_pos rfl, is_f h, bRs, if_pos rfl, is_f h, bRs, if_pos rfl, Mo_expression_186, if_pos rfl]
  by_cases z : M.1 64 12 ≤ x1
  · rw [if_pos z, eA]
  · rw [if_neg z, fail_f h, bVs, eA]
theorem e23_f {g : Nat} {x1 : Int32} {k12 : Int32 → Int32 → mS → Option mS} (h : FM T e M) : Mo_expression_23 N k12 (g + 1) x1 M = some M := by
  have eu : Mo_unit N M = some M := by
    unfold Mo_unit Mo_unit_88
    rw [is_f h, bRs, if_pos rfl, if_neg h.pos.2.1, fail_f h, bVs]
  rw [Mo_expression_23, is_f h, bRs, if_pos rfl, eu, bVs, if_neg h.pos.1]
theorem mk_no : ∀ k, k < 33 → ¬ (11 ≤ k ∧ k ≤ 19) → mkK k < 31 := by decide +kernel
/-- one unit of the model, its token behind it; or a bracket -/
theorem unit_M {b w0 q : Nat} {W : List Nat} {O : List (Nat × Nat)} {g : Nat} {k12 : Int32 → Int32 → mS → Option mS} (hN : 5000 ≤ N) (hT : TF T) (h : NM T t s M) (hS : SM b w0 t q W O M) : match aU T t q W O with
    | .ok (u, x) => u = t + 1 ∧ ∃ A, Mo_expression_23 N k12 (g + 2) 0 M = (if x.1 = true then Mo_expression_23 N k12 (g + 1) 0 A else Mo_expression_96 N k12 N 0 A) ∧ NM T u s A ∧ SM b w0 u x.2.1 x.2.2.1 x.2.2.2 A ∧ frE b w0 M A
    | .error e => ∃ A, Mo_expression_23 N k12 (g + 2) 0 M = some A ∧ FM T e A ∧ frE b w0 M A := by
  obtain ⟨h1, h2, h3, h4, h5, h6, h7, h8⟩ := id hS
  obtain ⟨n1, n2, n3, n4, n5, n6, n7⟩ := id h
  have c2 := hT.2.1
  have hk := hT.2.2.1 t
  have lw := okW_len h5
  unfold aU
  by_cases z29 : cK T t = 29
  · rw [if_pos z29]
    have base : Mo_expression_23 N k12 (g + 2) 0 M = if (M.1 64 12) = 6 then (bV (Mo_fail N 2 M) fun M52 => Mo_expression_46 N k12 (Mo_expression_23 N k12 (g + 1)) 0 M52) else (Mo_expression_46 N k12 (Mo_expression_23 N k12 (g + 1)) 0 M) := by
      rw [Mo_expression_23, show (6 : Int32) = nI (mkK 29) from rfl, is_y hT h (by omega) z29, bRs, if_neg (by decide)]
    -- behind the bracket
    have push : ∀ A : mS, A.1 64 44 = nI W.length → wtM W A → wtM (29 :: W) (mWI (mWI A 92 W.length 6) 64 44 (nI (W.length + 1))) := fun A a1 a2 => ⟨by rw [mWI_ne (by omega), rI rfl]; rfl, wtM_fr a2 (fun j hj => by rw [mWI_ne (by omega), rN (by omega)])⟩
    by_cases zq : q < 6
    · rw [if_pos zq]
      rw [h1, if_neg (by rw [show (6 : Int32) = nI 6 from rfl, eqP (by omega) (by omega)]; omega)] at base
      have f1 : frE b w0 M (mWI M 64 12 (nI (q + 1))) := ⟨fun a j q1 q2 q3 => rN (by omega), rfl⟩
      have nM1 : NM T t s (mWI M 64 12 (nI (q + 1))) := h.fr f1.frO (fun j q1 q2 q3 => rN (by omega))
      have go := rgoes_s (N := N) hT nM1 (a := 29) (by omega) z29
      have b46 : ∀ A, Mo_goesOn N (mWI M 64 12 (nI (q + 1))) = some A → A.1 64 44 = nI W.length → Mo_expression_23 N k12 (g + 2) 0 M = Mo_expression_23 N k12 (g + 1) 0 (mWI (mWI A 92 W.length 6) 64 44 (nI (W.length + 1))) := fun A eA a44 => by
        rw [base]
        unfold Mo_expression_46
        rw [h1, show nI q + 1 = nI (q + 1) from nI_add q 1, nxs, eA, bVs, a44, grd_in (by omega) (by omega), clp (by omega), nxs, mWI_ne (by omega), a44, nxs, show nI W.length + 1 = nI (W.length + 1) from nI_add _ 1]
      cases ea : aT T t 29 with
      | error e =>
        rw [ea] at go
        obtain ⟨A, eA, fA, rA⟩ := go
        have a44 : A.1 64 44 = nI W.length := by rw [rA.1 64 44 (by omega), rN (by omega)]; exact h2
        have f2 : frE b w0 A (mWI (mWI A 92 W.length 6) 64 44 (nI (W.length + 1))) := ⟨fun a j q1 q2 q3 => by rw [rN (by omega), mWI_ne q1], rfl⟩
        have fB : FM T e (mWI (mWI A 92 W.length 6) 64 44 (nI (W.length + 1))) := fA.fr f2.frO (fun j q1 q2 q3 => by rw [rN (by omega), mWI_ne (by omega)])
        exact ⟨_, by rw [b46 A eA a44, e23_f fB], fB, (f1.trans rA.frE).trans f2⟩
      | ok u =>
        rw [ea] at go
        obtain ⟨rfl, A, eA, nA, rA⟩ := go
        have a44 : A.1 64 44 = nI W.length := by rw [rA.1 64 44 (by omega), rN (by omega)]; exact h2
        have aw : wtM W A := wtM_fr h3 (fun j _ => by rw [rA.1 92 j (by omega), mWI_ne (by omega)])
        have f2 : frE b w0 A (mWI (mWI A 92 W.length 6) 64 44 (nI (W.length + 1))) := ⟨fun a j q1 q2 q3 => by rw [rN (by omega), mWI_ne q1], rfl⟩
        refine ⟨rfl, mWI (mWI A 92 W.length 6) 64 44 (nI (W.length + 1)), ?_, nA.fr f2.frO (fun j q1 q2 q3 => by rw [rN (by omega), mWI_ne (by omega)]), ?_, (f1.trans rA.frE).trans f2⟩
        · rw [if_pos rfl]; exact b46 A eA a44
        · refine ⟨by rw [rN (by omega), mWI_ne (by omega), rA.1 64 12 (by omega), rI rfl], rI rfl, push A a44 aw, cdM_fr h4 (by rw [rN (by omega), mWI_ne (by omega), rA.1 64 40 (by omega), rN (by omega)]) (fun a j q => by rw [mWI_ne (by omega), mWI_ne (by omega), rA.1 a j (by omega), mWI_ne (by omega)]), Or.inl ⟨rfl, Nat.le_add_left 1 q, by show okW W (q + 1 - 1); rw [Nat.add_sub_cancel]; exact h5⟩, by show q + 1 ≤ 6; omega, ?_, h8⟩
          show b + O.length + ((if 29 = 29 then 0 else 1) + sgW W) ≤ w0 + (t + 1)
          rw [if_pos rfl]; omega
    · rw [if_neg zq]
      rw [h1, if_pos (by rw [show (6 : Int32) = nI 6 from rfl, eqP (by omega) (by omega)]; omega)] at base
      obtain ⟨F, eF, fF, rF⟩ := fail_s (N := N) hT h (x := 2) (by omega) (by omega)
      have f1 : frE b w0 M (mWI F 64 12 (nI (q + 1))) := rF.frE.trans ⟨fun a j q1 q2 q3 => rN (by omega), rfl⟩
      have fM1 : FM T (2, t) (mWI F 64 12 (nI (q + 1))) := fF.fr (frE.frO (b := b) (w0 := w0) ⟨fun a j q1 q2 q3 => rN (by omega), rfl⟩) (fun j q1 q2 q3 => rN (by omega))
      obtain ⟨A, eA, fA, rA⟩ := rgoes_f (N := N) fM1
      have a44 : A.1 64 44 = nI W.length := by rw [rA.1 64 44 (by omega), rN (by omega), rF.1 64 44 (by omega)]; exact h2
      have f2 : frE b w0 A (mWI (mWI A 92 W.length 6) 64 44 (nI (W.length + 1))) := ⟨fun a j q1 q2 q3 => by rw [rN (by omega), mWI_ne q1], rfl⟩
      have fB : FM T (2, t) (mWI (mWI A 92 W.length 6) 64 44 (nI (W.length + 1))) := fA.fr f2.frO (fun j q1 q2 q3 => by rw [rN (by omega), mWI_ne (by omega)])
      refine ⟨mWI (mWI A 92 W.length 6) 64 44 (nI (W.length + 1)), ?_, fB, (f1.trans rA.frE).trans f2⟩
      rw [base, show (2 : Int32) = nI 2 from rfl, eF, bVs]
      unfold Mo_expression_46
      rw [rF.1 64 12 (by omega), h1, show nI q + 1 = nI (q + 1) from nI_add q 1, nxs, eA, bVs, a44, grd_in (by omega) (by omega), clp (by omega), nxs, mWI_ne (by omega), a44, nxs, show nI W.length + 1 = nI (W.length + 1) from nI_add _ 1, e23_f fB]
  · rw [if_neg z29]
    have base : Mo_expression_23 N k12 (g + 2) 0 M = bV (Mo_unit N M) fun M50 => if (M50.1 64 13) ≤ 0 then (Mo_expression_96 N k12 N 0 M50) else (some M50) := by
      rw [Mo_expression_23, show (6 : Int32) = nI (mkK 29) from rfl, is_n hT h (by omega) z29, bRs, if_pos rfl]
    have lay : ∀ (a0 a1 : Nat), a1 ≤ 9999 → cK T t ≤ 30 → Mo_unit N M = (bV (Mo_emit N (nI a0) (nI a1) M) fun M10 => bV (Mo_goesOn N M10) fun M12 => some M12) → match eB (aT T t (cK T t)) fun u => Except.ok (u, false, q, W, O ++ [(a0, a1)]) with
        | .ok (u, x) => u = t + 1 ∧ ∃ A, Mo_expression_23 N k12 (g + 2) 0 M = (if x.1 = true then Mo_expression_23 N k12 (g + 1) 0 A else Mo_expression_96 N k12 N 0 A) ∧ NM T u s A ∧ SM b w0 u x.2.1 x.2.2.1 x.2.2.2 A ∧ frE b w0 M A
        | .error e => ∃ A, Mo_expression_23 N k12 (g + 2) 0 M = some A ∧ FM T e A ∧ frE b w0 M A := by
      intro a0 a1 q1 qk eb
      obtain ⟨A, eA, cA, fA, a44, a92⟩ := emit_s (N := N) (w0 := w0) (a0 := a0) (a1 := a1) h4 (by omega) (by omega)
      have nA : NM T t s A := h.fr fA.frE.frO (fun j q1 q2 q3 => fA.1 64 j (by omega) (by omega) (by omega))
      have go := rgoes_s (N := N) hT nA (a := cK T t) qk rfl
      have l2 : (O ++ [(a0, a1)]).length = O.length + 1 := by simp
      rw [eb, eA, bVs] at base
      cases ea : aT T t (cK T t) with
      | error e =>
        rw [ea] at go
        obtain ⟨B, eB, fB, rB⟩ := go
        exact ⟨B, by rw [base, eB, bVs, bVs, if_neg fB.pos.1], fB, fA.frE.trans rB.frE⟩
      | ok u =>
        rw [ea] at go
        obtain ⟨rfl, B, eB, nB, rB⟩ := go
        refine ⟨rfl, B, ?_, nB, ?_, fA.frE.trans rB.frE⟩
        · rw [base, eB, bVs, bVs, nB.2.2.2.1, if_pos (by decide)]
          rfl
        · have sA : SM b w0 (t + 1) q W (O ++ [(a0, a1)]) A := ⟨by rw [fA.1 64 12 (by omega) (by omega) (by omega)]; exact h1, a44.trans h2, wtM_fr h3 (fun j _ => a92 j), cA, h5, h6, by omega, h8⟩
          exact SM_n sA rB (Nat.le_refl _)
    have hz : cK T t ≤ 32 := hk
    by_cases z21 : cK T t = 21
    · rw [if_pos z21]
      have v9 := hT.2.2.2.2.2.1 t n2 z21
      have := lay 0 (cV T t) v9 (by omega) (by
        unfold Mo_unit
        rw [show (2 : Int32) = nI (mkK 21) from rfl, is_y hT h (by omega) z21, bRs, if_neg (by decide), n3, grd_in (by omega) (by omega), clp (by omega), (n1 t n2).2.2.1 z21]
        rfl)
      rw [z21] at this
      exact this
    · rw [if_neg z21]
      have hm := mkK_le (cK T t) (by omega)
      by_cases zv : 11 ≤ cK T t ∧ cK T t ≤ 19
      · rw [if_pos zv]
        have mk : mkK (cK T t) = 20 + cK T t := by unfold mkK; rw [if_pos (by omega)]
        exact lay 1 (cK T t - 11) (by omega) (by omega) (by
          unfold Mo_unit
          rw [show (2 : Int32) = nI (mkK 21) from rfl, is_n hT h (by omega) z21, bRs, if_pos rfl, if_pos n4, n3, grd_in (by omega) (by omega), clp (by omega), (n1 t n2).1, mk, if_neg (by rw [show (31 : Int32) = nI 31 from rfl, ltP (by omega) (by omega)]; omega), grd_in (by omega) (by omega), if_neg (by rw [show (39 : Int32) = nI 39 from rfl, ltP (by omega) (by omega)]; omega), grd_in (by omega) (by omega), show nI (20 + cK T t) - 31 = nI (20 + cK T t - 31) from sbP (b := 31) (by omega), show 20 + cK T t - 31 = cK T t - 11 by omega]
          rfl)
      · rw [if_neg zv]
        obtain ⟨F, eF, fF, rF⟩ := fail_s (N := N) hT h (x := 1) (by omega) (by omega)
        have mn := mk_no (cK T t) (by omega) zv
        refine ⟨F, ?_, fF, rF.frE⟩
        have eu : Mo_unit N M = some F := by
          unfold Mo_unit Mo_unit_88
          rw [show (2 : Int32) = nI (mkK 21) from rfl, is_n hT h (by omega) z21, bRs, if_pos rfl, if_pos n4, n3, grd_in (by omega) (by omega), clp (by omega), (n1 t n2).1, if_pos (by rw [show (31 : Int32) = nI 31 from rfl, ltP (by omega) (by omega)]; exact mn), show (1 : Int32) = nI 1 from rfl, eF, bVs]
        rw [base, eu, bVs, if_neg fF.pos.1]
end
