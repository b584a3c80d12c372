/-! the sum: the class -/
def zC (A : mS) : Prop := ∃ z, z ≤ 408 ∧ A.1 16 4 = nI z
theorem or_tw (x y : Int32) : (x ||| y) ||| y = x ||| y := by
  apply b_ext; intro i _; rw [b_or, b_or, Bool.or_assoc, Bool.or_self]
def chL (O : List (Nat × Nat)) : Bool := O.any fun x => chO x.1 x.2
/-- code from b on, with the flag of change: c0 before, fb the law's bit -/
def cdF (b : Nat) (O : List (Nat × Nat)) (c0 fb : Int32) (M : mS) : Prop := cdO b O M ∧ ((1 : Int32) <<< ((M.1 16 6) &&& 31)) = fb ∧ M.1 16 5 = if chL O = true then c0 ||| fb else c0
theorem chL_a {O : List (Nat × Nat)} {x : Nat × Nat} : chL (O ++ [x]) = (chL O || chO x.1 x.2) := by unfold chL; simp
theorem cdF_fr {b : Nat} {O : List (Nat × Nat)} {c0 fb : Int32} {M A : mS} (h : cdF b O c0 fb M) (h1 : ∀ a j, (a = 16 ∨ a = 18) → A.1 a j = M.1 a j) : cdF b O c0 fb A := ⟨⟨(h1 16 4 (by omega)).trans h.1.1, fun i x hx => (h1 18 _ (by omega)).trans (h.1.2 i x hx)⟩, by rw [h1 16 6 (by omega)]; exact h.2.1, by rw [h1 16 5 (by omega)]; exact h.2.2⟩
theorem lputF {N b a0 a1 : Nat} {O : List (Nat × Nat)} {c0 fb : Int32} {M : mS} (h : cdF b O c0 fb M) (hb : b + O.length < 408) (h0 : a0 < 8) (h1 : a1 ≤ 9999) : ∃ A, La_put N (nI a0) (nI a1) M = some (nI (b + O.length), A) ∧ cdF b (O ++ [(a0, a1)]) c0 fb A ∧ (∀ j, j < b → A.1 18 j = M.1 18 j) ∧ A.1 14 5 = M.1 14 5 ∧ frU16 M A := by
  obtain ⟨A, e1, e2, e3, e4, e5, e6⟩ := lput_s (N := N) h.1 hb h0 h1
  refine ⟨A, e1, ⟨e2, ?_, ?_⟩, e3, e5, e6⟩
  · rw [e6.1 16 6 (by omega) (by omega) (by omega)]; exact h.2.1
  · rw [e4, h.2.1, h.2.2, chL_a]
    show (if chO a0 a1 = true then _ else _) = if (chL O || chO a0 a1) = true then _ else _
    cases q1 : chL O <;> cases q2 : chO a0 a1
    · rfl
    · rfl
    · rfl
    · exact or_tw c0 fb
theorem rank_s {k : Nat} {M : mS} (hk : k < 1000) : Rr_rank (nI k) M = nI (rkW k) := by
  unfold Rr_rank rkW
  by_cases z : k = 29
  · rw [if_pos z, if_pos (by rw [z]; rfl)]; rfl
  · rw [if_neg z, if_neg (by rw [show (29 : Int32) = nI 29 from rfl, eqP (by omega) (by omega)]; exact z)]
    by_cases y : 25 < k
    · rw [if_pos y, if_pos (by rw [show (25 : Int32) = nI 25 from rfl, ltP (by omega) (by omega)]; exact y)]; rfl
    · rw [if_neg y, if_neg (by rw [show (25 : Int32) = nI 25 from rfl, ltP (by omega) (by omega)]; exact y)]; rfl
section
variable {N : Nat} {T : ctx} {t : Nat} {s : Nat × Nat}
theorem putW_s {b r : Nat} {c0 fb : Int32} (hr : 1 ≤ r) (hr2 : r ≤ 2) : ∀ {W : List Nat} {q f : Nat} {O : List (Nat × Nat)} {M : mS}, okW W q → W.length ≤ 30 → W.length < f → cdF b O c0 fb M → wtC W M → M.1 14 5 = nI W.length → b + O.length + sgW W ≤ 407 → ∃ A, Rr_putWaiting_0 N f (nI r) M = some A ∧ cdF b (O ++ popE r W) c0 fb A ∧ wtC (popW r W) A ∧ A.1 14 5 = nI (popW r W).length ∧ (∀ j, j < b → A.1 18 j = M.1 18 j) ∧ frU16 M A := by
  intro W
  induction W with
  | nil =>
    intro q f O M h hl hf hc hw h5 hs
    obtain ⟨f, rfl⟩ : ∃ g, f = g + 1 := ⟨f - 1, by have : ([] : List Nat).length = 0 := rfl; omega⟩
    refine ⟨M, ?_, by rw [show popE r [] = [] from rfl, List.append_nil]; exact hc, trivial, h5, fun _ _ => rfl, frU16.refl⟩
    rw [Rr_putWaiting_0, h5, if_pos (by decide)]
  | cons k W ih =>
    intro q f O M h hl hf hc hw h5 hs
    have l1 : (k :: W).length = W.length + 1 := rfl
    obtain ⟨f, rfl⟩ : ∃ g, f = g + 1 := ⟨f - 1, by omega⟩
    have hk := okW_k h (List.mem_cons_self ..)
    have base : Rr_putWaiting_0 N (f + 1) (nI r) M = if nI (rkW k) < nI r then some M else (nxt (mWI M 14 5 (nI W.length)) fun M2 => grd (mIn (M2.1 14 5) 32) (bW (La_put N ((2 + (M2.1 33 (M2.1 14 5).toNatClampNeg)) - 24) 0 M2) fun _ M5 => Rr_putWaiting_0 N f (nI r) M5)) := by
      rw [Rr_putWaiting_0, h5, l1, if_neg (by rw [show (0 : Int32) = nI 0 from rfl, leP (by omega) (by omega)]; omega), show nI (W.length + 1) - 1 = nI (W.length + 1 - 1) from sbP (b := 1) (by omega), Nat.add_sub_cancel, grd_in (by omega) (by omega), clp (by omega), hw.1, rank_s (by omega)]
    have hrk : rkW k ≤ 2 := by unfold rkW; split; omega; split <;> omega
    unfold popE popW
    by_cases z : rkW k < r
    · rw [if_pos z, if_pos z]
      rw [if_pos (by rw [ltP (by omega) (by omega)]; exact z)] at base
      exact ⟨M, base, by rw [List.append_nil]; exact hc, hw, h5, fun _ _ => rfl, frU16.refl⟩
    · rw [if_neg z, if_neg z]
      rcases h with ⟨h1, h2, h3⟩ | ⟨h1, h2, h3, h4⟩
      · subst h1
        have : rkW 29 = 0 := rfl
        omega
      · have hs2 : sgW (k :: W) = 1 + sgW W := by show (if k = 29 then 0 else 1) + sgW W = _; rw [if_neg (by omega)]
        have hc1 : cdF b O c0 fb (mWI M 14 5 (nI W.length)) := cdF_fr hc (fun a j q => by rw [mWI_ne (by omega)])
        obtain ⟨A, eA, cA, a1, a2, fA⟩ := lputF (N := N) (a0 := k - 22) (a1 := 0) hc1 (by omega) (by omega) (by omega)
        rw [if_neg (by rw [ltP (by omega) (by omega)]; exact z), nxs, rI rfl, grd_in (by omega) (by omega), clp (by omega), mWI_ne (by omega), hw.1, show (2 : Int32) + nI k = nI (2 + k) from nI_add 2 k, show nI (2 + k) - 24 = nI (2 + k - 24) from sbP (b := 24) (by omega), show 2 + k - 24 = k - 22 by omega, show (0 : Int32) = nI 0 from rfl, eA, bWs] at base
        have l2 : (O ++ [(k - 22, 0)]).length = O.length + 1 := by simp
        obtain ⟨B, eB, cB, wB, b5, b18, fB⟩ := ih (q := q) (f := f) (O := O ++ [(k - 22, 0)]) (M := A) h4 (by omega) (by omega) cA (wtC_fr hw.2 (fun j hj => by rw [fA.1 33 j (by omega) (by omega) (by omega), mWI_ne (by omega)])) (by rw [a2, rI rfl]) (by omega)
        refine ⟨B, by rw [base, eB], by rw [List.append_assoc] at cB; exact cB, wB, b5, fun j hj => by rw [b18 j hj, a1 j hj, mWI_ne (by omega)], ?_⟩
        have f0 : frU16 M (mWI M 14 5 (nI W.length)) := ⟨fun a j q1 q2 q3 => rN q3, rfl⟩
        exact (f0.trans fA).trans fB
theorem letW_s {k : Nat} {W : List Nat} {M : mS} (hw : wtC W M) (h5 : M.1 14 5 = nI W.length) (hl : W.length ≤ 30) : ∃ A, Rr_letWait N (nI k) M = some A ∧ wtC (k :: W) A ∧ A.1 14 5 = nI (k :: W).length ∧ (∀ a j, a ≠ 33 → (a ≠ 14 ∨ j ≠ 5) → A.1 a j = M.1 a j) ∧ A.2 = M.2 := by
  refine ⟨mWI (mWI M 33 W.length (nI k)) 14 5 (nI (W.length + 1)), ?_, ⟨by rw [mWI_ne (by omega), rI rfl], wtC_fr hw (fun j hj => by rw [mWI_ne (by omega), rN (by omega)])⟩, rI rfl, fun a j q1 q2 => by rw [rN q2, mWI_ne q1], rfl⟩
  unfold Rr_letWait
  rw [h5, if_neg (by rw [show (Int32.ofNat 32 : Int32) = nI 32 from rfl, leP (by omega) (by omega)]; omega), grd_in (by omega) (by omega), clp (by omega), nxs, mWI_ne (by omega), h5, nxs, show nI W.length + 1 = nI (W.length + 1) from nI_add _ 1]
/-- the class amid a sum -/
def SC (b : Nat) (c0 fb : Int32) (t : Nat) (x : sst) (M : mS) : Prop := M.1 14 7 = (if x.1 = true then 1 else 0) ∧ M.1 14 6 = nI x.2.1 ∧ M.1 14 5 = nI x.2.2.1.length ∧ wtC x.2.2.1 M ∧ cdF b x.2.2.2 c0 fb M ∧ okW x.2.2.1 x.2.1 ∧ x.2.1 ≤ 6 ∧ b + x.2.2.2.length + sgW x.2.2.1 ≤ 6 + t
/-- what a sum may write -/
def frX (b : Nat) (M A : mS) : Prop := (∀ a j, a ≠ 14 → a ≠ 33 → (a ≠ 16 ∨ (j ≠ 4 ∧ j ≠ 5)) → (a ≠ 18 ∨ j < b) → A.1 a j = M.1 a j) ∧ A.2 = M.2
theorem frX.refl {b : Nat} {M : mS} : frX b M M := ⟨fun _ _ _ _ _ _ => rfl, rfl⟩
theorem frX.trans {b : Nat} {A B C : mS} (h : frX b A B) (g : frX b B C) : frX b A C := ⟨fun a j q1 q2 q3 q4 => (g.1 a j q1 q2 q3 q4).trans (h.1 a j q1 q2 q3 q4), g.2.trans h.2⟩
theorem frX.frR {b : Nat} {M A : mS} (h : frX b M A) : frR M A := ⟨fun a j q => h.1 a j (by omega) (by omega) (by omega) (by omega), fun a j _ _ => by rw [h.2]⟩
theorem frT14.frX {b : Nat} {M A : mS} (h : frT14 M A) : frX b M A := ⟨fun a j q1 q2 q3 q4 => h.1 a j (by omega), h.2⟩
theorem frX_u {b : Nat} {M A : mS} (h : frU16 M A) (h18 : ∀ j, j < b → A.1 18 j = M.1 18 j) : frX b M A := ⟨fun a j q1 q2 q3 q4 => by
  by_cases z : a = 18
  · subst z; exact h18 j (by omega)
  · exact h.1 a j z q3 (by omega), h.2⟩
theorem SC_take {b : Nat} {c0 fb : Int32} {u : Nat} {x : sst} {M A : mS} (h : SC b c0 fb t x M) (f : frT14 M A) (hu : t ≤ u) : SC b c0 fb u x A := by
  obtain ⟨h1, h2, h3, h4, h5, h6, h7, h8⟩ := h
  exact ⟨(f.1 14 7 (by omega)).trans h1, (f.1 14 6 (by omega)).trans h2, (f.1 14 5 (by omega)).trans h3, wtC_fr h4 (fun j _ => f.1 33 j (by omega)), cdF_fr h5 (fun a j q => f.1 a j (by omega)), h6, h7, by omega⟩
theorem unit_C {b : Nat} {c0 fb : Int32} {q : Nat} {W : List Nat} {O : List (Nat × Nat)} {M : mS} (hT : TF T) (h : NC T t s M) (hS : SC b c0 fb t (true, q, W, O) M) : match aU T t q W O with
    | .ok (u, x) => u = t + 1 ∧ ∃ A, Rr_readUnit N M = some (1, A) ∧ NC T u s A ∧ SC b c0 fb u x A ∧ frX b M A
    | .error e => ∃ A, Rr_readUnit N M = some (0, A) ∧ FC T e A ∧ frX b M A ∧ zC A := by
  obtain ⟨h1, h2, h3, h4, h5, h6, h7, h8⟩ := id hS
  dsimp only at h1 h2 h3 h4 h5 h6 h7 h8
  obtain ⟨n1, n2, n3, n4, n5, n6, n7⟩ := id h
  have c2 := hT.2.1
  have hk := hT.2.2.1 t
  have lw := okW_len h6
  have base : Rr_readUnit N M = if nI (cK T t) = 29 then (if (M.1 14 6) < 6 then (Rr_readUnit_32 N (nI (cK T t)) M) else (bV (Rr_failForm N 2 M) fun M13 => Rr_readUnit_32 N (nI (cK T t)) M13)) else (if nI (cK T t) = 21 then (bR (Tk_valueOf N (M.1 14 8) M) fun r15 => bW (La_put N 0 r15.toInt32 M) fun _ M17 => nxt (mWI M17 14 7 0) fun M19 => Rr_readUnit_129 N (nI (cK T t)) M19) else (if nI (cK T t) < 11 then (Rr_readUnit_124 N (nI (cK T t)) M) else (if 19 < nI (cK T t) then (Rr_readUnit_124 N (nI (cK T t)) M) else (bW (La_put N 1 (nI (cK T t) - 11) M) fun _ M21 => nxt (mWI M21 14 7 0) fun M23 => Rr_readUnit_129 N (nI (cK T t)) M23)))) := by
    unfold Rr_readUnit
    rw [n3, kindOf_s hT n1 n2, bRs]
  have ne : ∀ k, k < 100 → cK T t ≠ k → ¬ nI (cK T t) = nI k := fun k hk2 q => by rw [eqP (by omega) (by omega)]; exact q
  unfold aU
  by_cases z29 : cK T t = 29
  · rw [if_pos z29]
    rw [if_pos (by rw [z29]; rfl), z29, h2] at base
    -- the bracket waits
    have wait : ∀ (M' : mS), M'.1 14 6 = nI q → M'.1 14 5 = nI W.length → wtC W M' → ∃ A, Rr_readUnit_32 N (nI 29) M' = Rr_readUnit_129 N (nI 29) A ∧ wtC (29 :: W) A ∧ A.1 14 5 = nI (29 :: W).length ∧ A.1 14 6 = nI (q + 1) ∧ (∀ a j, a ≠ 33 → (a ≠ 14 ∨ (j ≠ 5 ∧ j ≠ 6)) → A.1 a j = M'.1 a j) ∧ A.2 = M'.2 := by
      intro M' e6 e5 ew
      obtain ⟨A, eA, wA, a5, fA, lA⟩ := letW_s (N := N) (k := 29) (M := mWI M' 14 6 (nI (q + 1))) (wtC_fr ew (fun j _ => by rw [mWI_ne (by omega)])) (by rw [rN (by omega)]; exact e5) (by omega)
      refine ⟨A, ?_, wA, a5, by rw [fA 14 6 (by omega) (by omega), rI rfl], fun a j q1 q2 => by rw [fA a j q1 (by omega), rN (by omega)], lA⟩
      unfold Rr_readUnit_32
      rw [e6, show nI q + 1 = nI (q + 1) from nI_add q 1, nxs, eA, bVs]
    by_cases zq : q < 6
    · rw [if_pos zq]
      rw [if_pos (by rw [show (6 : Int32) = nI 6 from rfl, ltP (by omega) (by omega)]; exact zq)] at base
      obtain ⟨A, eA, wA, a5, a6, fA, lA⟩ := wait M h2 h3 h4
      have fx : frX b M A := ⟨fun a j q1 q2 q3 q4 => fA a j q2 (by omega), lA⟩
      have nA : NC T t s A := h.fr fx.frR (fun j q1 q2 => fA 14 j (by omega) (by omega))
      have tk := rtake_s (N := N) hT nA (a := 29) (by omega)
      have sA : SC b c0 fb t (true, q + 1, 29 :: W, O) A := ⟨by rw [fA 14 7 (by omega) (by omega)]; exact h1, a6, a5, wA, cdF_fr h5 (fun a j q => fA a j (by omega) (by omega)), Or.inl ⟨rfl, Nat.le_add_left 1 q, by show okW W (q + 1 - 1); rw [Nat.add_sub_cancel]; exact h6⟩, by show q + 1 ≤ 6; omega, by show b + O.length + ((if 29 = 29 then 0 else 1) + sgW W) ≤ 6 + t; rw [if_pos rfl]; omega⟩
      rw [eA] at base
      unfold Rr_readUnit_129 at base
      cases ea : aT T t 29 with
      | error e =>
        rw [ea] at tk
        obtain ⟨B, eB, fB, rB⟩ := tk
        exact ⟨B, by rw [base, eB, bWs], fB, fx.trans rB.frX, b + O.length, by omega, by rw [rB.1 16 4 (by omega)]; exact sA.2.2.2.2.1.1.1⟩
      | ok u =>
        rw [ea] at tk
        obtain ⟨rfl, k0, B, eB, nB, rB⟩ := tk
        exact ⟨rfl, B, by rw [base, eB, bWs], nB, SC_take sA rB (by omega), fx.trans rB.frX⟩
    · rw [if_neg zq]
      rw [if_neg (by rw [show (6 : Int32) = nI 6 from rfl, ltP (by omega) (by omega)]; exact zq)] at base
      have ff : Rr_failForm N 2 M = some (mWI M 14 9 2) := by unfold Rr_failForm; rw [if_pos n4, nxs]
      obtain ⟨A, eA, wA, a5, a6, fA, lA⟩ := wait (mWI M 14 9 2) (by rw [rN (by omega)]; exact h2) (by rw [rN (by omega)]; exact h3) (wtC_fr h4 (fun j _ => by rw [mWI_ne (by omega)]))
      have fx : frX b M A := ⟨fun a j q1 q2 q3 q4 => by rw [fA a j q2 (by omega), mWI_ne q1], lA⟩
      have fC : FC T (2, t) A := ⟨fx.frR.TC n1, n2, by omega, by omega, by rw [fA 14 8 (by omega) (by omega), rN (by omega)]; exact n3, by rw [fA 14 9 (by omega) (by omega), rI rfl]; rfl⟩
      refine ⟨A, ?_, fC, fx, b + O.length, by omega, by rw [fA 16 4 (by omega) (by omega), mWI_ne (by omega)]; exact h5.1.1⟩
      rw [base, ff, bVs, eA]
      unfold Rr_readUnit_129
      rw [take_f fC, bWs]
  · rw [if_neg z29]
    rw [if_neg (show ¬ nI (cK T t) = 29 from ne 29 (by omega) z29)] at base
    -- a unit laid: then its token
    have lay : ∀ (a0 a1 : Nat), a0 < 8 → a1 ≤ 9999 → cK T t ≤ 30 → Rr_readUnit N M = (bW (La_put N (nI a0) (nI a1) M) fun _ M17 => nxt (mWI M17 14 7 0) fun M19 => Rr_readUnit_129 N (nI (cK T t)) M19) → match eB (aT T t (cK T t)) fun u => Except.ok (u, false, q, W, O ++ [(a0, a1)]) with
        | .ok (u, x) => u = t + 1 ∧ ∃ A, Rr_readUnit N M = some (1, A) ∧ NC T u s A ∧ SC b c0 fb u x A ∧ frX b M A
        | .error e => ∃ A, Rr_readUnit N M = some (0, A) ∧ FC T e A ∧ frX b M A ∧ zC A := by
      intro a0 a1 q0 q1 qk eb
      obtain ⟨A, eA, cA, a18, a5, fA⟩ := lputF (N := N) (a0 := a0) (a1 := a1) h5 (by omega) q0 q1
      rw [eA, bWs, nxs] at eb
      have fx : frX b M (mWI A 14 7 0) := (frX_u fA a18).trans ⟨fun a j q1 q2 q3 q4 => by rw [mWI_ne q1], rfl⟩
      have nA : NC T t s (mWI A 14 7 0) := h.fr fx.frR (fun j q1 q2 => by rw [rN (by omega), fA.1 14 j (by omega) (by omega) (by omega)])
      have tk := rtake_s (N := N) hT nA (a := cK T t) qk
      have l2 : (O ++ [(a0, a1)]).length = O.length + 1 := by simp
      unfold Rr_readUnit_129 at eb
      cases ea : aT T t (cK T t) with
      | error e =>
        rw [ea] at tk
        obtain ⟨B, eB, fB, rB⟩ := tk
        exact ⟨B, by rw [eb, eB, bWs], fB, fx.trans rB.frX, b + (O ++ [(a0, a1)]).length, by omega, by rw [rB.1 16 4 (by omega), mWI_ne (by omega)]; exact cA.1.1⟩
      | ok u =>
        rw [ea] at tk
        obtain ⟨rfl, k0, B, eB, nB, rB⟩ := tk
        refine ⟨rfl, B, by rw [eb, eB, bWs], nB, ?_, fx.trans rB.frX⟩
        exact ⟨by rw [rB.1 14 7 (by omega), rI rfl]; rfl, by rw [rB.1 14 6 (by omega), rN (by omega), fA.1 14 6 (by omega) (by omega) (by omega)]; exact h2, by rw [rB.1 14 5 (by omega), rN (by omega), a5]; exact h3, wtC_fr h4 (fun j _ => by rw [rB.1 33 j (by omega), mWI_ne (by omega), fA.1 33 j (by omega) (by omega) (by omega)]), cdF_fr cA (fun a j q => by rw [rB.1 a j (by omega), mWI_ne (by omega)]), h6, h7, by show b + (O ++ [(a0, a1)]).length + sgW W ≤ 6 + (t + 1); omega⟩
    by_cases z21 : cK T t = 21
    · rw [if_pos z21]
      have v9 := hT.2.2.2.2.2.1 t n2 z21
      rw [if_pos (by rw [z21]; rfl), n3, valueOf_s hT n1 n2, bRs, (n1.2 t n2).2.2.1 z21, lN_i] at base
      have := lay 0 (cV T t) (by omega) v9 (by omega) base
      rw [z21] at this
      exact this
    · rw [if_neg z21]
      rw [if_neg (show ¬ nI (cK T t) = 21 from ne 21 (by omega) z21)] at base
      by_cases zv : 11 ≤ cK T t ∧ cK T t ≤ 19
      · rw [if_pos zv]
        rw [if_neg (by rw [show (11 : Int32) = nI 11 from rfl, ltP (by omega) (by omega)]; omega), if_neg (by rw [show (19 : Int32) = nI 19 from rfl, ltP (by omega) (by omega)]; omega), show nI (cK T t) - 11 = nI (cK T t - 11) from sbP (b := 11) (by omega)] at base
        exact lay 1 (cK T t - 11) (by omega) (by omega) (by omega) base
      · rw [if_neg zv]
        have fx : frX b M (mWI M 14 9 1) := ⟨fun a j q1 q2 q3 q4 => by rw [mWI_ne q1], rfl⟩
        have fC : FC T (1, t) (mWI M 14 9 1) := ⟨fx.frR.TC n1, n2, by omega, by omega, by rw [rN (by omega)]; exact n3, by rw [rI rfl]; rfl⟩
        have e124 : Rr_readUnit_124 N (nI (cK T t)) M = some (0, mWI M 14 9 1) := by
          unfold Rr_readUnit_124 Rr_readUnit_129 Rr_failForm
          rw [if_pos n4, nxs, bVs, take_f fC, bWs]
        refine ⟨mWI M 14 9 1, ?_, fC, fx, b + O.length, by omega, by rw [mWI_ne (by omega)]; exact h5.1.1⟩
        rw [base]
        by_cases y : cK T t < 11
        · rw [if_pos (by rw [show (11 : Int32) = nI 11 from rfl, ltP (by omega) (by omega)]; exact y), e124]
        · rw [if_neg (by rw [show (11 : Int32) = nI 11 from rfl, ltP (by omega) (by omega)]; exact y), if_pos (by rw [show (19 : Int32) = nI 19 from rfl, ltP (by omega) (by omega)]; omega), e124]
end
