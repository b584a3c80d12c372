/-! the sum: signs, the whole (model) -/
section
variable {N : Nat} {T : ctx} {t : Nat} {s : Nat × Nat} {e : Nat × Nat} {M : mS}
theorem sign_M {b w0 q : Nat} {W : List Nat} {O : List (Nat × Nat)} {g : Nat} {k12 : Int32 → Int32 → mS → Option mS} (hN : 5000 ≤ N) (hT : TF T) (h : NM T t s M) (hS : SM b w0 t q W O M) (hk12 : ∀ A e, FM T e A → k12 0 1 A = some A) : match aG T t q W O with
    | .ok (gg, u, x) => (gg = true → u = t + 1 ∧ ∃ A, Mo_expression_96 N k12 (g + 2) 0 M = (if x.1 = true then k12 0 1 A else Mo_expression_96 N k12 (g + 1) 0 A) ∧ NM T u s A ∧ SM b w0 u x.2.1 x.2.2.1 x.2.2.2 A ∧ frE b w0 M A) ∧ (¬ gg = true → u = t ∧ ∃ A, Mo_expression_96 N k12 (g + 2) 0 M = some A ∧ NM T u s A ∧ cdM b x.2.2.2 A ∧ A.1 64 12 = 0 ∧ b + x.2.2.2.length ≤ w0 + t ∧ frE b w0 M A)
    | .error e => ∃ A, Mo_expression_96 N k12 (g + 2) 0 M = some A ∧ FM T e A ∧ frE b w0 M A := by
  obtain ⟨h1, h2, h3, h4, h5, h6, h7, h8⟩ := id hS
  obtain ⟨n1, n2, n3, n4, n5, n6, n7⟩ := id h
  have c2 := hT.2.1
  have hk := hT.2.2.1 t
  have lw := okW_len h5
  unfold aG
  by_cases z : 24 ≤ cK T t ∧ cK T t ≤ 27
  · rw [if_pos z]
    have rk := rkW_op z
    have pn := popE_n (r := rkW (cK T t)) rk.1 h5
    have pw := popW_ok (r := rkW (cK T t)) rk.1 h5
    have pl := okW_len pw.1
    have base : Mo_expression_96 N k12 (g + 2) 0 M = Mo_expression_234 N k12 0 1 (nI (rkW (cK T t) - 1)) M := by
      rw [Mo_expression_96, show (7 : Int32) = nI (mkK 30) from rfl, is_n hT h (by omega) (by omega), bRs, if_pos rfl]
      have e8 : (8 : Int32) = nI (mkK 24) := rfl
      have e9 : (9 : Int32) = nI (mkK 25) := rfl
      have e10 : (10 : Int32) = nI (mkK 26) := rfl
      have e15 : (15 : Int32) = nI (mkK 27) := rfl
      have : cK T t = 24 ∨ cK T t = 25 ∨ cK T t = 26 ∨ cK T t = 27 := by omega
      rcases this with k | k | k | k
      · rw [Mo_expression_145, e8, is_y hT h (by omega) k, bRs, if_neg (by decide), Mo_expression_181, Mo_expression_186, if_neg (by decide), e10, is_n hT h (by omega) (by omega), bRs, if_pos rfl, e15, is_n hT h (by omega) (by omega), bRs, if_pos rfl, k]
        rfl
      · rw [Mo_expression_145, e8, is_n hT h (by omega) (by omega), bRs, if_pos rfl, e9, is_y hT h (by omega) k, bRs, if_neg (by decide), Mo_expression_181, Mo_expression_186, if_neg (by decide), e10, is_n hT h (by omega) (by omega), bRs, if_pos rfl, e15, is_n hT h (by omega) (by omega), bRs, if_pos rfl, k]
        rfl
      · rw [Mo_expression_145, e8, is_n hT h (by omega) (by omega), bRs, if_pos rfl, e9, is_n hT h (by omega) (by omega), bRs, if_pos rfl, e10, is_y hT h (by omega) k, bRs, if_neg (by decide), Mo_expression_181, Mo_expression_186, if_neg (by decide), e10, is_y hT h (by omega) k, bRs, if_neg (by decide), k]
        rfl
      · rw [Mo_expression_145, e8, is_n hT h (by omega) (by omega), bRs, if_pos rfl, e9, is_n hT h (by omega) (by omega), bRs, if_pos rfl, e10, is_n hT h (by omega) (by omega), bRs, if_pos rfl, e15, is_y hT h (by omega) k, bRs, if_neg (by decide), Mo_expression_181, Mo_expression_186, if_neg (by decide), e10, is_n hT h (by omega) (by omega), bRs, if_pos rfl, e15, is_y hT h (by omega) k, bRs, if_neg (by decide), k]
        rfl
    obtain ⟨A, eA, cA, wA, a5, fA⟩ := comes_s (N := N) (w0 := w0) (f := N) (r := rkW (cK T t)) (by omega) (by omega) h5 (by omega) (by omega) h4 h3 h2 (by omega)
    have eA : Mo_comesOut N (nI (rkW (cK T t) - 1)) M = some A := eA
    have nA : NM T t s A := h.fr fA.frE.frO (fun j q1 q2 q3 => fA.1 64 j (by omega) (by omega) (by omega))
    have hB : frE b w0 A (mWI (mWI A 92 (popW (rkW (cK T t)) W).length (nI (mkK (cK T t)))) 64 44 (nI ((popW (rkW (cK T t)) W).length + 1))) := ⟨fun a j q1 q2 q3 => by rw [rN (by omega), mWI_ne q1], rfl⟩
    have nB : NM T t s (mWI (mWI A 92 (popW (rkW (cK T t)) W).length (nI (mkK (cK T t)))) 64 44 (nI ((popW (rkW (cK T t)) W).length + 1))) := nA.fr hB.frO (fun j q1 q2 q3 => by rw [rN (by omega), mWI_ne (by omega)])
    have go := rgoes_s (N := N) hT nB (a := cK T t) (by omega) rfl
    have base2 : Mo_expression_96 N k12 (g + 2) 0 M = bV (Mo_goesOn N (mWI (mWI A 92 (popW (rkW (cK T t)) W).length (nI (mkK (cK T t)))) 64 44 (nI ((popW (rkW (cK T t)) W).length + 1)))) fun M14 => k12 0 1 M14 := by
      rw [base]
      unfold Mo_expression_234
      rw [eA, bVs, nA.2.2.1, grd_in (by omega) (by omega), a5, grd_in (by omega) (by omega), clp (by omega), clp (by omega), (nA.1 t n2).1, nxs, mWI_ne (by omega), a5, nxs, show nI (popW (rkW (cK T t)) W).length + 1 = nI ((popW (rkW (cK T t)) W).length + 1) from nI_add _ 1]
    have l2 : (O ++ popE (rkW (cK T t)) W).length = O.length + (popE (rkW (cK T t)) W).length := by simp
    cases ea : aT T t (cK T t) with
    | error e =>
      rw [ea] at go
      obtain ⟨C, eC, fC, rC⟩ := go
      exact ⟨C, by rw [base2, eC, bVs, hk12 C e fC], fC, (fA.frE.trans hB).trans rC.frE⟩
    | ok u =>
      rw [ea] at go
      obtain ⟨rfl, C, eC, nC, rC⟩ := go
      refine ⟨fun _ => ⟨rfl, C, ?_, nC, ?_, (fA.frE.trans hB).trans rC.frE⟩, fun q => absurd rfl q⟩
      · rw [base2, eC, bVs, if_pos rfl]
      · have sB : SM b w0 (t + 1) q (cK T t :: popW (rkW (cK T t)) W) (O ++ popE (rkW (cK T t)) W) (mWI (mWI A 92 (popW (rkW (cK T t)) W).length (nI (mkK (cK T t)))) 64 44 (nI ((popW (rkW (cK T t)) W).length + 1))) := by
          refine ⟨by rw [rN (by omega), mWI_ne (by omega), fA.1 64 12 (by omega) (by omega) (by omega)]; exact h1, rI rfl, ⟨by rw [mWI_ne (by omega), rI rfl], wtM_fr wA (fun j hj => by rw [mWI_ne (by omega), rN (by omega)])⟩, cdM_fr cA (by rw [rN (by omega), mWI_ne (by omega)]) (fun a j q => by rw [mWI_ne (by omega), mWI_ne (by omega)]), okW_push h5 z rfl, h6, ?_, h8⟩
          show b + (O ++ popE (rkW (cK T t)) W).length + ((if cK T t = 29 then 0 else 1) + sgW (popW (rkW (cK T t)) W)) ≤ w0 + (t + 1)
          rw [if_neg (by omega)]; omega
        exact SM_n sB rC (Nat.le_refl _)
  · rw [if_neg z]
    obtain ⟨A, eA, cA, wA, a5, fA⟩ := comes_s (N := N) (w0 := w0) (f := N) (r := 1) (by omega) (Or.inl rfl) h5 (by omega) (by omega) h4 h3 h2 (by omega)
    have eA : Mo_comesOut N 0 M = some A := eA
    have nA : NM T t s A := h.fr fA.frE.frO (fun j q1 q2 q3 => fA.1 64 j (by omega) (by omega) (by omega))
    have pn := popE_n (r := 1) (by omega) h5
    have l2 : (O ++ popE 1 W).length = O.length + (popE 1 W).length := by simp
    have e145 : Mo_expression_145 N k12 0 M = if nI q ≤ 0 then (Mo_expression_204 N M) else (bV (Mo_fail N 1 M) fun M18 => Mo_expression_204 N M18) := by
      rw [Mo_expression_145, show (8 : Int32) = nI (mkK 24) from rfl, is_n hT h (by omega) (by omega), bRs, if_pos rfl, show (9 : Int32) = nI (mkK 25) from rfl, is_n hT h (by omega) (by omega), bRs, if_pos rfl, show (10 : Int32) = nI (mkK 26) from rfl, is_n hT h (by omega) (by omega), bRs, if_pos rfl, show (15 : Int32) = nI (mkK 27) from rfl, is_n hT h (by omega) (by omega), bRs, if_pos rfl, Mo_expression_186, if_pos rfl, h1]
    rcases popW_b h5 with ⟨q0, pe⟩ | ⟨q1, V, pe, okV⟩
    · subst q0
      rw [if_pos rfl]
      refine ⟨fun q => absurd q (by decide), fun _ => ⟨rfl, A, ?_, nA, cA, by rw [fA.1 64 12 (by omega) (by omega) (by omega), h1]; rfl, by show b + (O ++ popE 1 W).length ≤ w0 + t; omega, fA.frE⟩⟩
      have e96 : Mo_expression_96 N k12 (g + 2) 0 M = Mo_expression_145 N k12 0 M := by
        rw [Mo_expression_96, show (7 : Int32) = nI (mkK 30) from rfl]
        by_cases y : cK T t = 30
        · rw [is_y hT h (by omega) y, bRs, if_neg (by decide), h1, if_pos (by decide)]
        · rw [is_n hT h (by omega) y, bRs, if_pos rfl]
      rw [e96, e145, if_pos (by decide)]
      unfold Mo_expression_204
      rw [eA, bVs]
    · rw [if_neg (show ¬ q = 0 by omega)]
      rw [pe] at wA a5 pn
      have lv := okW_len okV
      have pn : (popE 1 W).length + (0 + sgW V) = sgW W := pn
      have q12 : ¬ nI q ≤ 0 := by rw [show (0 : Int32) = nI 0 from rfl, leP (by omega) (by omega)]; omega
      by_cases y : cK T t = 30
      · have hB : frE b w0 A (mWI (mWI A 64 44 (nI V.length)) 64 12 (nI (q - 1))) := ⟨fun a j q1 q2 q3 => by rw [rN (by omega), rN (by omega)], rfl⟩
        have nB : NM T t s (mWI (mWI A 64 44 (nI V.length)) 64 12 (nI (q - 1))) := nA.fr hB.frO (fun j q1 q2 q3 => by rw [rN (by omega), rN (by omega)])
        have go := rgoes_s (N := N) hT nB (a := 30) (by omega) y
        have base2 : Mo_expression_96 N k12 (g + 2) 0 M = bV (Mo_goesOn N (mWI (mWI A 64 44 (nI V.length)) 64 12 (nI (q - 1)))) fun M45 => Mo_expression_96 N k12 (g + 1) 0 M45 := by
          rw [Mo_expression_96, show (7 : Int32) = nI (mkK 30) from rfl, is_y hT h (by omega) y, bRs, if_neg (by decide), h1, if_neg q12, eA, bVs, a5]
          show (nxt (mWI A 64 44 (nI (V.length + 1) - 1)) fun M42 => nxt (mWI M42 64 12 ((M42.1 64 12) - 1)) fun M43 => bV (Mo_goesOn N M43) fun M45 => Mo_expression_96 N k12 (g + 1) 0 M45) = _
          rw [show nI (V.length + 1) - 1 = nI (V.length + 1 - 1) from sbP (b := 1) (by omega), Nat.add_sub_cancel, nxs, rN (by omega), fA.1 64 12 (by omega) (by omega) (by omega), h1, show nI q - 1 = nI (q - 1) from sbP (b := 1) q1, nxs]
        have sB : SM b w0 (t + 1) (q - 1) V (O ++ popE 1 W) (mWI (mWI A 64 44 (nI V.length)) 64 12 (nI (q - 1))) := ⟨rI rfl, by rw [rN (by omega), rI rfl], wtM_fr wA.2 (fun j hj => by rw [mWI_ne (by omega), mWI_ne (by omega)]), cdM_fr cA (by rw [rN (by omega), rN (by omega)]) (fun a j q => by rw [mWI_ne (by omega), mWI_ne (by omega)]), okV, by omega, by omega, h8⟩
        cases ea : aT T t 30 with
        | error e =>
          rw [ea] at go
          obtain ⟨C, eC, fC, rC⟩ := go
          obtain ⟨E, eE, fE, rE⟩ := e96_f (N := N) (g := g) (x1 := 0) (k12 := k12) hN fC (SF_n (sB.SF (by omega)) rC)
          exact ⟨E, by rw [base2, eC, bVs, eE], fE, ((fA.frE.trans hB).trans rC.frE).trans rE⟩
        | ok u =>
          rw [ea] at go
          obtain ⟨rfl, C, eC, nC, rC⟩ := go
          refine ⟨fun _ => ⟨rfl, C, ?_, nC, ?_, (fA.frE.trans hB).trans rC.frE⟩, fun q => absurd rfl q⟩
          · rw [base2, eC, bVs]; rfl
          · rw [pe]; exact SM_n sB rC (Nat.le_refl _)
      · obtain ⟨F, eF, fF, rF⟩ := fail_s (N := N) hT h (x := 1) (by omega) (by omega)
        obtain ⟨E, eE, fE, rE⟩ := e204_f (N := N) hN fF (SF_n (hS.SF (by omega)) rF)
        have ea : aT T t 30 = .error (1, t) := by unfold aT; rw [if_neg y]
        rw [ea, eB_e]
        refine ⟨E, ?_, fE, rF.frE.trans rE⟩
        rw [Mo_expression_96, show (7 : Int32) = nI (mkK 30) from rfl, is_n hT h (by omega) y, bRs, if_pos rfl, e145, if_neg q12, show (1 : Int32) = nI 1 from rfl, eF, bVs, eE]
end
section
variable {N : Nat} {T : ctx} {s : Nat × Nat} {e : Nat × Nat}
theorem e12_f {f : Nat} {A : mS} (h : FM T e A) : Mo_expression_12 N (f + 1) 0 1 A = some A := by
  rw [Mo_expression_12, if_neg (by decide), if_neg h.pos.2.1]
/-- from a unit on, and from a sign on -/
theorem exprM {b w0 : Nat} (hN : 5000 ≤ N) (hT : TF T) : ∀ {n t q g f : Nat} {un : Bool} {W : List Nat} {O : List (Nat × Nat)} {M : mS}, NM T t s M → SM b w0 t q W O M → 401 - t < n → 402 - t < g → 402 - t < f → match aSum T n t (un, q, W, O) with
    | .ok (u, O') => t ≤ u ∧ ∃ A, (if un = true then Mo_expression_23 N (Mo_expression_12 N f) g 0 M else Mo_expression_96 N (Mo_expression_12 N f) g 0 M) = some A ∧ NM T u s A ∧ cdM b O' A ∧ A.1 64 12 = 0 ∧ b + O'.length ≤ w0 + u ∧ frE b w0 M A
    | .error e => ∃ A, (if un = true then Mo_expression_23 N (Mo_expression_12 N f) g 0 M else Mo_expression_96 N (Mo_expression_12 N f) g 0 M) = some A ∧ FM T e A ∧ frE b w0 M A := by
  intro n
  induction n with
  | zero => intro t q g f un W O M h hS hn; omega
  | succ n ih =>
    intro t q g f un W O M h hS hn hg hf
    have c2 := hT.2.1
    have t2 := h.2.1
    obtain ⟨g, rfl⟩ : ∃ k, g = k + 2 := ⟨g - 2, by omega⟩
    obtain ⟨f, rfl⟩ : ∃ k, f = k + 1 := ⟨f - 1, by omega⟩
    cases un with
    | true =>
      have un := unit_M (N := N) (g := g) (k12 := Mo_expression_12 N (f + 1)) hN hT h hS
      rw [if_pos rfl]
      show match eB (aU T t q W O) fun r => aSum T n r.1 r.2 with
        | .ok (u, O') => t ≤ u ∧ ∃ A, Mo_expression_23 N (Mo_expression_12 N (f + 1)) (g + 2) 0 M = some A ∧ NM T u s A ∧ cdM b O' A ∧ A.1 64 12 = 0 ∧ b + O'.length ≤ w0 + u ∧ frE b w0 M A
        | .error e => ∃ A, Mo_expression_23 N (Mo_expression_12 N (f + 1)) (g + 2) 0 M = some A ∧ FM T e A ∧ frE b w0 M A
      cases ea : aU T t q W O with
      | error e =>
        rw [ea] at un
        obtain ⟨A, eA, fA, rA⟩ := un
        exact ⟨A, eA, fA, rA⟩
      | ok r =>
        obtain ⟨u, un', q', W', O1⟩ := r
        rw [ea] at un
        obtain ⟨rfl, A, eA, nA, sA, rA⟩ := un
        rw [eB_o, eA]
        dsimp only
        have k1 := ih (un := un') (g := if un' = true then g + 1 else N) (f := f + 1) nA sA (by omega) (by split <;> omega) (by omega)
        have ee : (if un' = true then Mo_expression_23 N (Mo_expression_12 N (f + 1)) (if un' = true then g + 1 else N) 0 A else Mo_expression_96 N (Mo_expression_12 N (f + 1)) (if un' = true then g + 1 else N) 0 A) = if un' = true then Mo_expression_23 N (Mo_expression_12 N (f + 1)) (g + 1) 0 A else Mo_expression_96 N (Mo_expression_12 N (f + 1)) N 0 A := by cases un' <;> rfl
        rw [ee] at k1
        cases ek : aSum T n (t + 1) (un', q', W', O1) with
        | error e =>
          rw [ek] at k1
          obtain ⟨B, eB, fB, rB⟩ := k1
          exact ⟨B, eB, fB, rA.trans rB⟩
        | ok r =>
          obtain ⟨u, O'⟩ := r
          rw [ek] at k1
          obtain ⟨tu, B, eB, nB, cB, b12, bB, rB⟩ := k1
          exact ⟨by omega, B, eB, nB, cB, b12, bB, rA.trans rB⟩
    | false =>
      have sg := sign_M (N := N) (g := g) (k12 := Mo_expression_12 N (f + 1)) hN hT h hS (fun A e hA => e12_f hA)
      rw [if_neg (by decide)]
      show match eB (aG T t q W O) fun r => if r.1 = true then aSum T n r.2.1 r.2.2 else Except.ok (r.2.1, r.2.2.2.2.2) with
        | .ok (u, O') => t ≤ u ∧ ∃ A, Mo_expression_96 N (Mo_expression_12 N (f + 1)) (g + 2) 0 M = some A ∧ NM T u s A ∧ cdM b O' A ∧ A.1 64 12 = 0 ∧ b + O'.length ≤ w0 + u ∧ frE b w0 M A
        | .error e => ∃ A, Mo_expression_96 N (Mo_expression_12 N (f + 1)) (g + 2) 0 M = some A ∧ FM T e A ∧ frE b w0 M A
      cases ea : aG T t q W O with
      | error e =>
        rw [ea] at sg
        obtain ⟨A, eA, fA, rA⟩ := sg
        exact ⟨A, eA, fA, rA⟩
      | ok r =>
        obtain ⟨gg, u, un', q', W', O1⟩ := r
        rw [ea] at sg
        rw [eB_o]
        cases gg with
        | true =>
          obtain ⟨rfl, A, eA, nA, sA, rA⟩ := sg.1 rfl
          dsimp only
          rw [if_pos rfl, eA]
          have k1 := ih (un := un') (g := if un' = true then N else g + 1) (f := if un' = true then f else f + 1) nA sA (by omega) (by split <;> omega) (by split <;> omega)
          have ee : (if un' = true then Mo_expression_23 N (Mo_expression_12 N (if un' = true then f else f + 1)) (if un' = true then N else g + 1) 0 A else Mo_expression_96 N (Mo_expression_12 N (if un' = true then f else f + 1)) (if un' = true then N else g + 1) 0 A) = if un' = true then Mo_expression_12 N (f + 1) 0 1 A else Mo_expression_96 N (Mo_expression_12 N (f + 1)) (g + 1) 0 A := by
            cases un'
            · rfl
            · rw [if_pos rfl, if_pos rfl, if_pos rfl, if_pos rfl, Mo_expression_12, if_neg (by decide), if_pos nA.2.2.2.1]
          rw [ee] at k1
          cases ek : aSum T n (t + 1) (un', q', W', O1) with
          | error e =>
            rw [ek] at k1
            obtain ⟨B, eB, fB, rB⟩ := k1
            exact ⟨B, eB, fB, rA.trans rB⟩
          | ok r =>
            obtain ⟨u, O'⟩ := r
            rw [ek] at k1
            obtain ⟨tu, B, eB, nB, cB, b12, bB, rB⟩ := k1
            exact ⟨by omega, B, eB, nB, cB, b12, bB, rA.trans rB⟩
        | false =>
          obtain ⟨rfl, A, eA, nA, cA, a12, bA, rA⟩ := sg.2 (by decide)
          dsimp only
          rw [if_neg (by decide)]
          exact ⟨Nat.le_refl _, A, eA, nA, cA, a12, bA, rA⟩
theorem sum_M {b w0 t : Nat} {M : mS} (hN : 5000 ≤ N) (hT : TF T) (h : NM T t s M) (hc : cdM b [] M) (h12 : M.1 64 12 = 0) (hb : b ≤ w0 + t) (hw : w0 ≤ 420) : match aX T t with
    | .ok (u, O') => t ≤ u ∧ ∃ A, Mo_expression N M = some A ∧ NM T u s A ∧ cdM b O' A ∧ A.1 64 12 = 0 ∧ b + O'.length ≤ w0 + u ∧ frE b w0 M A
    | .error e => ∃ A, Mo_expression N M = some A ∧ FM T e A ∧ frE b w0 M A := by
  have fx : frE b w0 M (mWI M 64 44 0) := ⟨fun a j q1 q2 q3 => rN (by omega), rfl⟩
  have nA : NM T t s (mWI M 64 44 0) := h.fr fx.frO (fun j q1 q2 q3 => rN (by omega))
  have sA : SM b w0 t 0 [] [] (mWI M 64 44 0) := ⟨by rw [rN (by omega)]; exact h12, rI rfl, trivial, cdM_fr hc (rN (by omega)) (fun a j q => by rw [mWI_ne (by omega)]), rfl, by omega, by show b + 0 + 0 ≤ w0 + t; omega, hw⟩
  have base : Mo_expression N M = Mo_expression_23 N (Mo_expression_12 N (N - 1)) N 0 (mWI M 64 44 0) := by
    obtain ⟨m, rfl⟩ : ∃ m, N = m + 1 := ⟨N - 1, by omega⟩
    unfold Mo_expression
    rw [nxs, rN (by omega), h12, nxs, Mo_expression_12, if_neg (by decide), if_pos nA.2.2.2.1, Nat.add_sub_cancel]
  have k := exprM (N := N) (n := 402) (g := N) (f := N - 1) (un := true) hN hT nA sA (by omega) (by omega) (by omega)
  rw [if_pos rfl, ← base] at k
  unfold aX
  cases ek : aSum T 402 t (true, 0, [], []) with
  | error e =>
    rw [ek] at k
    obtain ⟨B, eB, fB, rB⟩ := k
    exact ⟨B, eB, fB, fx.trans rB⟩
  | ok r =>
    obtain ⟨u, O'⟩ := r
    rw [ek] at k
    obtain ⟨tu, B, eB, nB, cB, b12, bB, rB⟩ := k
    exact ⟨tu, B, eB, nB, cB, b12, bB, fx.trans rB⟩
end
