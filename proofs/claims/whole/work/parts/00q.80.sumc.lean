/-! the sum: signs, the whole (class) -/
section
variable {N : Nat} {T : ctx} {t : Nat} {s : Nat × Nat}
theorem sign_C {b : Nat} {c0 fb : Int32} {q : Nat} {W : List Nat} {O : List (Nat × Nat)} {M : mS} (hN : 5000 ≤ N) (hT : TF T) (h : NC T t s M) (hS : SC b c0 fb t (false, q, W, O) M) : match aG T t q W O with
    | .ok (g, u, x) => (g = true → u = t + 1 ∧ ∃ A, Rr_readSign N M = some (1, A) ∧ NC T u s A ∧ SC b c0 fb u x A ∧ frX b M A) ∧ (¬ g = true → u = t ∧ ∃ A, Rr_readSign N M = some (0, A) ∧ NC T u s A ∧ cdF b x.2.2.2 c0 fb A ∧ b + x.2.2.2.length ≤ 6 + t ∧ frX b M A)
    | .error e => ∃ A, Rr_readSign N M = some (0, A) ∧ FC T e A ∧ frX b M A ∧ zC A := by
  obtain ⟨h1, h2, h3, h4, h5, h6, h7, h8⟩ := id hS
  dsimp only at h1 h2 h3 h4 h5 h6 h7 h8
  obtain ⟨n1, n2, n3, n4, n5, n6, n7⟩ := id h
  have c2 := hT.2.1
  have hk := hT.2.2.1 t
  have lw := okW_len h6
  have base : Rr_readSign N M = if nI (cK T t) < 24 then (Rr_readSign_48 N M) else (if 27 < nI (cK T t) then (Rr_readSign_48 N M) else (bV (Rr_putWaiting N (Rr_rank (nI (cK T t)) M) M) fun M12 => bV (Rr_letWait N (nI (cK T t)) M12) fun M14 => nxt (mWI M14 14 7 1) fun M15 => bW (Rr_take N (nI (cK T t)) M15) fun r18 M17 => some (r18, M17))) := by
    unfold Rr_readSign
    rw [n3, kindOf_s hT n1 n2, bRs]
  unfold aG
  by_cases z : 24 ≤ cK T t ∧ cK T t ≤ 27
  · rw [if_pos z]
    have rk := rkW_op z
    rw [if_neg (by rw [show (24 : Int32) = nI 24 from rfl, ltP (by omega) (by omega)]; omega), if_neg (by rw [show (27 : Int32) = nI 27 from rfl, ltP (by omega) (by omega)]; omega), rank_s (by omega)] at base
    obtain ⟨A, eA, cA, wA, a5, a18, fA⟩ := putW_s (N := N) (f := N) (r := rkW (cK T t)) rk.1 rk.2 h6 (by omega) (by omega) h5 h4 h3 (by omega)
    have eA : Rr_putWaiting N (nI (rkW (cK T t))) M = some A := eA
    have pn := popE_n (r := rkW (cK T t)) rk.1 h6
    have pw := popW_ok (r := rkW (cK T t)) rk.1 h6
    have pl := okW_len pw.1
    obtain ⟨B, eB, wB, b5, fB, lB⟩ := letW_s (N := N) (k := cK T t) (M := A) wA a5 (by omega)
    rw [eA, bVs, eB, bVs, nxs] at base
    have fx : frX b M (mWI B 14 7 1) := (frX_u fA a18).trans ⟨fun a j q1 q2 q3 q4 => by rw [mWI_ne q1, fB a j q2 (by omega)], lB⟩
    have nB : NC T t s (mWI B 14 7 1) := h.fr fx.frR (fun j q1 q2 => by rw [rN (by omega), fB 14 j (by omega) (by omega), fA.1 14 j (by omega) (by omega) (by omega)])
    have tk := rtake_s (N := N) hT nB (a := cK T t) (by omega)
    have l2 : (O ++ popE (rkW (cK T t)) W).length = O.length + (popE (rkW (cK T t)) W).length := by simp
    cases ea : aT T t (cK T t) with
    | error e =>
      rw [ea] at tk
      obtain ⟨C, eC, fC, rC⟩ := tk
      exact ⟨C, by rw [base, eC, bWs], fC, fx.trans rC.frX, b + (O ++ popE (rkW (cK T t)) W).length, by omega, by rw [rC.1 16 4 (by omega), mWI_ne (by omega), fB 16 4 (by omega) (by omega)]; exact cA.1.1⟩
    | ok u =>
      rw [ea] at tk
      obtain ⟨rfl, k0, C, eC, nC, rC⟩ := tk
      refine ⟨fun _ => ⟨rfl, C, by rw [base, eC, bWs], nC, ?_, fx.trans rC.frX⟩, fun q => absurd rfl q⟩
      refine ⟨by rw [rC.1 14 7 (by omega), rI rfl]; rfl, by rw [rC.1 14 6 (by omega), rN (by omega), fB 14 6 (by omega) (by omega), fA.1 14 6 (by omega) (by omega) (by omega)]; exact h2, by rw [rC.1 14 5 (by omega), rN (by omega)]; exact b5, wtC_fr wB (fun j _ => by rw [rC.1 33 j (by omega), mWI_ne (by omega)]), cdF_fr cA (fun a j q => by rw [rC.1 a j (by omega), mWI_ne (by omega), fB a j (by omega) (by omega)]), okW_push h6 z rfl, h7, ?_⟩
      show b + (O ++ popE (rkW (cK T t)) W).length + ((if cK T t = 29 then 0 else 1) + sgW (popW (rkW (cK T t)) W)) ≤ 6 + (t + 1)
      rw [if_neg (by omega)]; omega
  · rw [if_neg z]
    have base2 : Rr_readSign N M = Rr_readSign_48 N M := by
      rw [base]
      by_cases y : cK T t < 24
      · rw [if_pos (by rw [show (24 : Int32) = nI 24 from rfl, ltP (by omega) (by omega)]; exact y)]
      · rw [if_neg (by rw [show (24 : Int32) = nI 24 from rfl, ltP (by omega) (by omega)]; exact y), if_pos (by rw [show (27 : Int32) = nI 27 from rfl, ltP (by omega) (by omega)]; omega)]
    obtain ⟨A, eA, cA, wA, a5, a18, fA⟩ := putW_s (N := N) (f := N) (r := 1) (by omega) (by omega) h6 (by omega) (by omega) h5 h4 h3 (by omega)
    have eA : Rr_putWaiting N 1 M = some A := eA
    have pn := popE_n (r := 1) (by omega) h6
    have l2 : (O ++ popE 1 W).length = O.length + (popE 1 W).length := by simp
    have a6 : A.1 14 6 = nI q := by rw [fA.1 14 6 (by omega) (by omega) (by omega)]; exact h2
    have fx := frX_u fA a18
    have nA : NC T t s A := h.fr fx.frR (fun j q1 q2 => by rw [fA.1 14 j (by omega) (by omega) (by omega)])
    unfold Rr_readSign_48 at base2
    rw [eA, bVs, a6] at base2
    rcases popW_b h6 with ⟨q0, pe⟩ | ⟨q1, V, pe, okV⟩
    · subst q0
      rw [if_pos rfl]
      rw [if_pos (by decide)] at base2
      exact ⟨fun q => absurd q (by decide), fun _ => ⟨rfl, A, base2, nA, cA, by show b + (O ++ popE 1 W).length ≤ 6 + t; omega, fx⟩⟩
    · rw [if_neg (show ¬ q = 0 by omega)]
      rw [pe] at wA a5 pn
      have lv := okW_len okV
      rw [if_neg (by rw [show (0 : Int32) = nI 0 from rfl, eqP (by omega) (by omega)]; omega), show nI q - 1 = nI (q - 1) from sbP (b := 1) q1, nxs] at base2
      have e5 : (mWI A 14 6 (nI (q - 1))).1 14 5 - 1 = nI V.length := by
        rw [rN (by omega), a5]
        show nI (V.length + 1) - 1 = _
        rw [show nI (V.length + 1) - 1 = nI (V.length + 1 - 1) from sbP (b := 1) (by omega), Nat.add_sub_cancel]
      have e6 : (if 0 < (mWI A 14 6 (nI (q - 1))).1 14 5 - 1 then (mWI A 14 6 (nI (q - 1))).1 14 5 - 1 else 0) = nI V.length := by
        rw [e5]
        by_cases y : V.length = 0
        · rw [y]; rfl
        · rw [if_pos (by rw [show (0 : Int32) = nI 0 from rfl, ltP (by omega) (by omega)]; omega)]
      rw [e6, nxs] at base2
      have fy : frX b M (mWI (mWI A 14 6 (nI (q - 1))) 14 5 (nI V.length)) := fx.trans ⟨fun a j q1 q2 q3 q4 => by rw [mWI_ne q1, mWI_ne q1], rfl⟩
      have nB : NC T t s (mWI (mWI A 14 6 (nI (q - 1))) 14 5 (nI V.length)) := nA.fr (frX.frR (b := b) ⟨fun a j q1 q2 q3 q4 => by rw [mWI_ne q1, mWI_ne q1], rfl⟩) (fun j q1 q2 => by rw [rN (by omega), rN (by omega)])
      have tk := rtake_s (N := N) hT nB (a := 30) (by omega)
      rw [show (30 : Int32) = nI 30 from rfl] at base2
      cases ea : aT T t 30 with
      | error e =>
        rw [ea] at tk
        obtain ⟨C, eC, fC, rC⟩ := tk
        exact ⟨C, by rw [base2, eC, bWs], fC, fy.trans rC.frX, b + (O ++ popE 1 W).length, by omega, by rw [rC.1 16 4 (by omega), mWI_ne (by omega), mWI_ne (by omega)]; exact cA.1.1⟩
      | ok u =>
        rw [ea] at tk
        obtain ⟨rfl, k0, C, eC, nC, rC⟩ := tk
        refine ⟨fun _ => ⟨rfl, C, by rw [base2, eC, bWs], nC, ?_, fy.trans rC.frX⟩, fun q => absurd rfl q⟩
        rw [pe]
        refine ⟨by rw [rC.1 14 7 (by omega), rN (by omega), rN (by omega), fA.1 14 7 (by omega) (by omega) (by omega)]; exact h1, by rw [rC.1 14 6 (by omega), rN (by omega), rI rfl], by rw [rC.1 14 5 (by omega), rI rfl]; rfl, wtC_fr wA.2 (fun j _ => by rw [rC.1 33 j (by omega), mWI_ne (by omega), mWI_ne (by omega)]), cdF_fr cA (fun a j q => by rw [rC.1 a j (by omega), mWI_ne (by omega), mWI_ne (by omega)]), okV, by show q - 1 ≤ 6; omega, ?_⟩
        have pn : (popE 1 W).length + (0 + sgW V) = sgW W := pn
        show b + (O ++ popE 1 W).length + sgW V ≤ 6 + (t + 1)
        omega
theorem sumC_l {b : Nat} {c0 fb : Int32} (hN : 5000 ≤ N) (hT : TF T) : ∀ {n t f i : Nat} {x : sst} {M : mS}, NC T t s M → SC b c0 fb t x M → i ≤ t → 401 - t < n → 402 - t < f → match aSum T n t x with
    | .ok (u, O') => t ≤ u ∧ ∃ A, Rr_readSum_30 N f 1 (nI i) M = some A ∧ NC T u s A ∧ cdF b O' c0 fb A ∧ b + O'.length ≤ 6 + u ∧ frX b M A
    | .error e => ∃ A, Rr_readSum_30 N f 1 (nI i) M = some A ∧ FC T e A ∧ frX b M A ∧ zC A := by
  intro n
  induction n with
  | zero => intro t f i x M h hS hi hn; omega
  | succ n ih =>
    intro t f i x M h hS hi hn hf
    have c2 := hT.2.1
    have t2 := h.2.1
    obtain ⟨f, rfl⟩ : ∃ g, f = g + 2 := ⟨f - 2, by omega⟩
    have stop : ∀ A : mS, Rr_readSum_30 N (f + 1) 0 (nI (i + 1)) A = some A := fun A => by
      rw [Rr_readSum_30]
      by_cases y : (400 : Int32) < nI (i + 1)
      · rw [if_pos y]
      · rw [if_neg y, if_pos rfl]
    obtain ⟨un, q, W, O⟩ := x
    have base : Rr_readSum_30 N (f + 2) 1 (nI i) M = if M.1 14 7 = 0 then (bW (Rr_readSign N M) fun r3 M2 => Rr_readSum_30 N (f + 1) r3 (nI (i + 1)) M2) else (bW (Rr_readUnit N M) fun r7 M6 => Rr_readSum_30 N (f + 1) r7 (nI (i + 1)) M6) := by
      rw [Rr_readSum_30, if_neg (by rw [show (400 : Int32) = nI 400 from rfl, ltP (by omega) (by omega)]; omega), if_neg (by decide), show nI (i + 1) = nI i + 1 from (nI_add i 1).symm]
      rfl
    cases un with
    | true =>
      have un := unit_C (N := N) hT h hS
      rw [hS.1, if_pos rfl, if_neg (by decide)] at base
      show match eB (aU T t q W O) fun r => aSum T n r.1 r.2 with
        | .ok (u, O') => t ≤ u ∧ ∃ A, Rr_readSum_30 N (f + 2) 1 (nI i) M = some A ∧ NC T u s A ∧ cdF b O' c0 fb A ∧ b + O'.length ≤ 6 + u ∧ frX b M A
        | .error e => ∃ A, Rr_readSum_30 N (f + 2) 1 (nI i) M = some A ∧ FC T e A ∧ frX b M A ∧ zC A
      cases ea : aU T t q W O with
      | error e =>
        rw [ea] at un
        obtain ⟨A, eA, fA, rA, zA⟩ := un
        exact ⟨A, by rw [base, eA, bWs, stop], fA, rA, zA⟩
      | ok r =>
        obtain ⟨u, x⟩ := r
        rw [ea] at un
        obtain ⟨rfl, A, eA, nA, sA, rA⟩ := un
        rw [eA, bWs] at base
        rw [eB_o]
        have k := ih (f := f + 1) (i := i + 1) nA sA (by omega) (by omega) (by omega)
        dsimp only
        cases ek : aSum T n (t + 1) x with
        | error e =>
          rw [ek] at k
          obtain ⟨B, eB, fB, rB, zB⟩ := k
          exact ⟨B, by rw [base, eB], fB, rA.trans rB, zB⟩
        | ok r =>
          obtain ⟨u, O'⟩ := r
          rw [ek] at k
          obtain ⟨tu, B, eB, nB, cB, bB, rB⟩ := k
          exact ⟨by omega, B, by rw [base, eB], nB, cB, bB, rA.trans rB⟩
    | false =>
      have sg := sign_C (N := N) hN hT h hS
      rw [show M.1 14 7 = 0 from hS.1, if_pos rfl] at base
      show match eB (aG T t q W O) fun r => if r.1 = true then aSum T n r.2.1 r.2.2 else Except.ok (r.2.1, r.2.2.2.2.2) with
        | .ok (u, O') => t ≤ u ∧ ∃ A, Rr_readSum_30 N (f + 2) 1 (nI i) M = some A ∧ NC T u s A ∧ cdF b O' c0 fb A ∧ b + O'.length ≤ 6 + u ∧ frX b M A
        | .error e => ∃ A, Rr_readSum_30 N (f + 2) 1 (nI i) M = some A ∧ FC T e A ∧ frX b M A ∧ zC A
      cases ea : aG T t q W O with
      | error e =>
        rw [ea] at sg
        obtain ⟨A, eA, fA, rA, zA⟩ := sg
        exact ⟨A, by rw [base, eA, bWs, stop], fA, rA, zA⟩
      | ok r =>
        obtain ⟨g, u, x⟩ := r
        rw [ea] at sg
        rw [eB_o]
        cases g with
        | true =>
          obtain ⟨rfl, A, eA, nA, sA, rA⟩ := sg.1 rfl
          rw [eA, bWs] at base
          have k := ih (f := f + 1) (i := i + 1) nA sA (by omega) (by omega) (by omega)
          dsimp only
          rw [if_pos rfl]
          cases ek : aSum T n (t + 1) x with
          | error e =>
            rw [ek] at k
            obtain ⟨B, eB, fB, rB, zB⟩ := k
            exact ⟨B, by rw [base, eB], fB, rA.trans rB, zB⟩
          | ok r =>
            obtain ⟨u, O'⟩ := r
            rw [ek] at k
            obtain ⟨tu, B, eB, nB, cB, bB, rB⟩ := k
            exact ⟨by omega, B, by rw [base, eB], nB, cB, bB, rA.trans rB⟩
        | false =>
          obtain ⟨rfl, A, eA, nA, cA, bA, rA⟩ := sg.2 (by decide)
          dsimp only
          rw [if_neg (by decide)]
          exact ⟨Nat.le_refl _, A, by rw [base, eA, bWs, stop], nA, cA, bA, rA⟩
/-- a sum told at t: how it goes on, and its code -/
def aX (T : ctx) (t : Nat) : Except (Nat × Nat) (Nat × List (Nat × Nat)) := aSum T 402 t (true, 0, [], [])
theorem sum_C {b : Nat} {c0 fb : Int32} {M : mS} (hN : 5000 ≤ N) (hT : TF T) (h : NC T t s M) (hc : cdF b [] c0 fb M) (hb : b ≤ 6 + t) : match aX T t with
    | .ok (u, O') => t ≤ u ∧ ∃ A, Rr_readSum N M = some A ∧ NC T u s A ∧ cdF b O' c0 fb A ∧ b + O'.length ≤ 6 + u ∧ frX b M A
    | .error e => ∃ A, Rr_readSum N M = some A ∧ FC T e A ∧ frX b M A ∧ zC A := by
  have fx : frX b M (mWI (mWI (mWI M 14 5 0) 14 6 0) 14 7 1) := ⟨fun a j q1 q2 q3 q4 => by rw [mWI_ne q1, mWI_ne q1, mWI_ne q1], rfl⟩
  have base : Rr_readSum N M = Rr_readSum_30 N N 1 (nI 0) (mWI (mWI (mWI M 14 5 0) 14 6 0) 14 7 1) := by
    unfold Rr_readSum Rr_readSum_27
    rw [nxs, nxs, nxs, rN (by omega), rN (by omega), rN (by omega), if_pos h.2.2.2.1]
    rfl
  have nA : NC T t s (mWI (mWI (mWI M 14 5 0) 14 6 0) 14 7 1) := h.fr fx.frR (fun j q1 q2 => by rw [rN (by omega), rN (by omega), rN (by omega)])
  have sA : SC b c0 fb t (true, 0, [], []) (mWI (mWI (mWI M 14 5 0) 14 6 0) 14 7 1) := ⟨rI rfl, by rw [rN (by omega), rI rfl]; rfl, by rw [rN (by omega), rN (by omega), rI rfl]; rfl, trivial, cdF_fr hc (fun a j q => by rw [mWI_ne (by omega), mWI_ne (by omega), mWI_ne (by omega)]), rfl, by decide, by show b + 0 + 0 ≤ 6 + t; omega⟩
  have k := sumC_l (N := N) (n := 402) (f := N) (i := 0) hN hT nA sA (by omega) (by omega) (by omega)
  rw [base]
  unfold aX
  cases ek : aSum T 402 t (true, 0, [], []) with
  | error e =>
    rw [ek] at k
    obtain ⟨B, eB, fB, rB, zB⟩ := k
    exact ⟨B, eB, fB, fx.trans rB, zB⟩
  | ok r =>
    obtain ⟨u, O'⟩ := r
    rw [ek] at k
    obtain ⟨tu, B, eB, nB, cB, bB, rB⟩ := k
    exact ⟨tu, B, eB, nB, cB, bB, fx.trans rB⟩
theorem sum_f {e : Nat × Nat} {M : mS} {b : Nat} (hN : 5000 ≤ N) (h : FC T e M) : ∃ A, Rr_readSum N M = some A ∧ FC T e A ∧ frX b M A ∧ A.1 16 4 = M.1 16 4 := by
  have fx : frX b M (mWI (mWI (mWI M 14 5 0) 14 6 0) 14 7 1) := ⟨fun a j q1 q2 q3 q4 => by rw [mWI_ne q1, mWI_ne q1, mWI_ne q1], rfl⟩
  refine ⟨mWI (mWI (mWI M 14 5 0) 14 6 0) 14 7 1, ?_, h.fr fx.frR (by rw [rN (by omega), rN (by omega), rN (by omega)]) (by rw [rN (by omega), rN (by omega), rN (by omega)]), fx, by rw [mWI_ne (by omega), mWI_ne (by omega), mWI_ne (by omega)]⟩
  obtain ⟨n, rfl⟩ : ∃ n, N = n + 1 := ⟨N - 1, by omega⟩
  unfold Rr_readSum Rr_readSum_27
  rw [nxs, nxs, nxs, rN (by omega), rN (by omega), rN (by omega), if_neg h.ne, Rr_readSum_30, if_neg (by decide), if_pos rfl]
end
