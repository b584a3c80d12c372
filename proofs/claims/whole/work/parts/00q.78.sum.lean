/-! THE SUM: signs wait by rank -/
def rkW (k : Nat) : Nat := if k = 29 then 0 else if 25 < k then 2 else 1
def trk : List Nat → Nat
  | [] => 0
  | k :: _ => rkW k
def popE (r : Nat) : List Nat → List (Nat × Nat)
  | [] => []
  | k :: W => if rkW k < r then [] else (k - 22, 0) :: popE r W
def popW (r : Nat) : List Nat → List Nat
  | [] => []
  | k :: W => if rkW k < r then k :: W else popW r W
def okW : List Nat → Nat → Prop
  | [], q => q = 0
  | k :: W, q => (k = 29 ∧ 1 ≤ q ∧ okW W (q - 1)) ∨ (24 ≤ k ∧ k ≤ 27 ∧ trk W < rkW k ∧ okW W q)
theorem rkW_29 : rkW 29 = 0 := rfl
theorem rkW_op {k : Nat} (h : 24 ≤ k ∧ k ≤ 27) : 1 ≤ rkW k ∧ rkW k ≤ 2 := by
  unfold rkW
  rw [if_neg (by omega)]
  split <;> omega
theorem okW_len : ∀ {W : List Nat} {q : Nat}, okW W q → W.length ≤ 3 * q + trk W ∧ trk W ≤ 2
  | [], q, h => by
    have h : q = 0 := h
    subst h; exact ⟨Nat.le_refl 0, by decide⟩
  | k :: W, q, h => by
    rcases h with ⟨h1, h2, h3⟩ | ⟨h1, h2, h3, h4⟩
    · have ih := okW_len h3
      subst h1
      show W.length + 1 ≤ 3 * q + 0 ∧ 0 ≤ 2
      omega
    · have ih := okW_len h4
      have r := rkW_op (k := k) ⟨h1, h2⟩
      show W.length + 1 ≤ 3 * q + rkW k ∧ rkW k ≤ 2
      omega
theorem popW_ok {r : Nat} (hr : 1 ≤ r) : ∀ {W : List Nat} {q : Nat}, okW W q → okW (popW r W) q ∧ trk (popW r W) < r
  | [], q, h => ⟨h, by show 0 < r; omega⟩
  | k :: W, q, h => by
    unfold popW
    by_cases z : rkW k < r
    · rw [if_pos z]; exact ⟨h, z⟩
    · rw [if_neg z]
      rcases h with ⟨h1, h2, h3⟩ | ⟨h1, h2, h3, h4⟩
      · subst h1
        have : rkW 29 = 0 := rfl
        omega
      · exact popW_ok hr h4
/-- popped to the bracket, or to the end -/
theorem popW_b : ∀ {W : List Nat} {q : Nat}, okW W q → (q = 0 ∧ popW 1 W = []) ∨ (1 ≤ q ∧ ∃ V, popW 1 W = 29 :: V ∧ okW V (q - 1))
  | [], q, h => Or.inl ⟨h, rfl⟩
  | k :: W, q, h => by
    unfold popW
    rcases h with ⟨h1, h2, h3⟩ | ⟨h1, h2, h3, h4⟩
    · subst h1
      rw [if_pos (by decide)]
      exact Or.inr ⟨h2, W, rfl, h3⟩
    · have r := rkW_op (k := k) ⟨h1, h2⟩
      rw [if_neg (by omega)]
      exact popW_b h4
theorem okW_push {r k : Nat} {W : List Nat} {q : Nat} (h : okW W q) (hk : 24 ≤ k ∧ k ≤ 27) (hr : r = rkW k) : okW (k :: popW r W) q := by
  have r1 := rkW_op hk
  have p := popW_ok (r := r) (by omega) h
  exact Or.inr ⟨hk.1, hk.2, by omega, p.1⟩
theorem okW_k : ∀ {W : List Nat} {q k : Nat}, okW W q → k ∈ W → 24 ≤ k ∧ k ≤ 29
  | [], q, k, h, hk => by cases hk
  | j :: W, q, k, h, hk => by
    rcases List.mem_cons.mp hk with e | e
    · rcases h with ⟨h1, h2, h3⟩ | ⟨h1, h2, h3, h4⟩ <;> omega
    · rcases h with ⟨h1, h2, h3⟩ | ⟨h1, h2, h3, h4⟩
      · exact okW_k h3 e
      · exact okW_k h4 e
/-- how many signs wait, brackets aside; and how many come out -/
def sgW : List Nat → Nat
  | [] => 0
  | k :: W => (if k = 29 then 0 else 1) + sgW W
theorem popE_n {r : Nat} (hr : 1 ≤ r) : ∀ {W : List Nat} {q : Nat}, okW W q → (popE r W).length + sgW (popW r W) = sgW W
  | [], q, h => rfl
  | k :: W, q, h => by
    unfold popE popW
    by_cases z : rkW k < r
    · rw [if_pos z, if_pos z]; simp
    · rw [if_neg z, if_neg z]
      rcases h with ⟨h1, h2, h3⟩ | ⟨h1, h2, h3, h4⟩
      · subst h1
        have : rkW 29 = 0 := rfl
        omega
      · have ih := popE_n (r := r) hr h4
        show (popE r W).length + 1 + sgW (popW r W) = (if k = 29 then 0 else 1) + sgW W
        rw [if_neg (by omega)]
        omega
abbrev sst : Type := Bool × Nat × List Nat × List (Nat × Nat)
/-- a unit -/
def aU (T : ctx) (t q : Nat) (W : List Nat) (O : List (Nat × Nat)) : Except (Nat × Nat) (Nat × sst) :=
  if cK T t = 29 then (if q < 6 then (eB (aT T t 29) fun u => .ok (u, true, q + 1, 29 :: W, O)) else .error (2, t))
  else if cK T t = 21 then (eB (aT T t 21) fun u => .ok (u, false, q, W, O ++ [(0, cV T t)]))
  else if 11 ≤ cK T t ∧ cK T t ≤ 19 then (eB (aT T t (cK T t)) fun u => .ok (u, false, q, W, O ++ [(1, cK T t - 11)]))
  else .error (1, t)
/-- a sign; whether the sum goes on -/
def aG (T : ctx) (t q : Nat) (W : List Nat) (O : List (Nat × Nat)) : Except (Nat × Nat) (Bool × Nat × sst) :=
  if 24 ≤ cK T t ∧ cK T t ≤ 27 then (eB (aT T t (cK T t)) fun u => .ok (true, u, true, q, cK T t :: popW (rkW (cK T t)) W, O ++ popE (rkW (cK T t)) W))
  else if q = 0 then .ok (false, t, false, 0, popW 1 W, O ++ popE 1 W)
  else (eB (aT T t 30) fun u => .ok (true, u, false, q - 1, (popW 1 W).tail, O ++ popE 1 W))
/-- the whole sum, with fuel -/
def aSum (T : ctx) : Nat → Nat → sst → Except (Nat × Nat) (Nat × List (Nat × Nat))
  | 0, t, _ => .error (0, t)
  | n + 1, t, (true, q, W, O) => eB (aU T t q W O) fun r => aSum T n r.1 r.2
  | n + 1, t, (false, q, W, O) => eB (aG T t q W O) fun r => if r.1 = true then aSum T n r.2.1 r.2.2 else .ok (r.2.1, r.2.2.2.2.2)
/-! the class's code -/
def cdO (b : Nat) (O : List (Nat × Nat)) (M : mS) : Prop := M.1 16 4 = nI (b + O.length) ∧ ∀ i x, O[i]? = some x → M.1 18 (b + i) = nI (x.2 * 8 + x.1)
def wtC : List Nat → mS → Prop
  | [], _ => True
  | k :: W, M => M.1 33 W.length = nI k ∧ wtC W M
theorem wtC_fr {A M : mS} : ∀ {W : List Nat}, wtC W M → (∀ j, j < W.length → A.1 33 j = M.1 33 j) → wtC W A
  | [], _, _ => trivial
  | k :: W, h, hf => ⟨(hf W.length (by show W.length < W.length + 1; omega)).trans h.1, wtC_fr h.2 (fun j hj => hf j (by show j < W.length + 1; omega))⟩
/-- what puts may write -/
def frU16 (M A : mS) : Prop := (∀ a j, a ≠ 18 → (a ≠ 16 ∨ (j ≠ 4 ∧ j ≠ 5)) → (a ≠ 14 ∨ j ≠ 5) → A.1 a j = M.1 a j) ∧ A.2 = M.2
theorem frU16.refl {M : mS} : frU16 M M := ⟨fun _ _ _ _ _ => rfl, rfl⟩
theorem frU16.trans {A B C : mS} (h : frU16 A B) (g : frU16 B C) : frU16 A C := ⟨fun a j q1 q2 q3 => (g.1 a j q1 q2 q3).trans (h.1 a j q1 q2 q3), g.2.trans h.2⟩
def chO (a0 a1 : Nat) : Bool := decide (a0 = 1) && (decide (a1 = 0) || decide (a1 = 1) || decide (a1 = 5))
theorem lput_s {N b a0 a1 : Nat} {O : List (Nat × Nat)} {M : mS} (h : cdO b O M) (hb : b + O.length < 408) (h0 : a0 < 8) (h1 : a1 ≤ 9999) : ∃ A, La_put N (nI a0) (nI a1) M = some (nI (b + O.length), A) ∧ cdO b (O ++ [(a0, a1)]) A ∧ (∀ j, j < b → A.1 18 j = M.1 18 j) ∧ A.1 16 5 = (if chO a0 a1 = true then (M.1 16 5 ||| ((1 : Int32) <<< ((M.1 16 6) &&& 31))) else M.1 16 5) ∧ A.1 14 5 = M.1 14 5 ∧ frU16 M A := by
  obtain ⟨c1, c2⟩ := h
  have l1 : (O ++ [(a0, a1)]).length = O.length + 1 := by simp
  -- the memory with flag x
  have fin : ∀ M' : mS, M'.1 16 4 = nI (b + O.length) → La_put_63 N M' = some (nI (b + O.length), mWI M' 16 4 (nI (b + O.length + 1))) := by
    intro M' e
    unfold La_put_63
    rw [nxs, e, show nI (b + O.length) + 1 = nI (b + O.length + 1) from nI_add _ 1, rI rfl, show nI (b + O.length + 1) - 1 = nI (b + O.length + 1 - 1) from sbP (b := 1) (by omega), Nat.add_sub_cancel]
  have e8 : nI a1 * 8 + nI a0 = nI (a1 * 8 + a0) := by rw [show nI a1 * 8 = nI (a1 * 8) from pk_mul a1 8, nI_add]
  have base : La_put N (nI a0) (nI a1) M = if nI a0 = 1 then (if nI a1 = 0 then (La_put_48 N (mWI M 18 (b + O.length) (nI (a1 * 8 + a0)))) else (if nI a1 = 1 then (La_put_48 N (mWI M 18 (b + O.length) (nI (a1 * 8 + a0)))) else (if nI a1 = 5 then (La_put_48 N (mWI M 18 (b + O.length) (nI (a1 * 8 + a0)))) else (La_put_63 N (mWI M 18 (b + O.length) (nI (a1 * 8 + a0))))))) else (La_put_63 N (mWI M 18 (b + O.length) (nI (a1 * 8 + a0)))) := by
    unfold La_put
    rw [c1, if_pos (by rw [show (Int32.ofNat 408 : Int32) = nI 408 from rfl, ltP (by omega) (by omega)]; exact hb), grd_in hb (by omega), clp (by omega), e8, nxs]
  have cd : ∀ A : mS, A.1 16 4 = nI (b + O.length + 1) → A.1 18 = (mWI M 18 (b + O.length) (nI (a1 * 8 + a0))).1 18 → cdO b (O ++ [(a0, a1)]) A := by
    intro A a4 a18
    refine ⟨by rw [l1, a4]; rfl, fun i x hx => ?_⟩
    rw [a18]
    by_cases z : i < O.length
    · rw [List.getElem?_append_left z] at hx
      rw [rN (by omega)]; exact c2 i x hx
    · rw [List.getElem?_append_right (by omega)] at hx
      have hi : i = O.length := by
        apply Classical.byContradiction
        intro y
        rw [List.getElem?_eq_none (by simp; omega)] at hx
        cases hx
      subst hi
      rw [Nat.sub_self] at hx
      injection hx with hx
      subst hx
      exact rI rfl
  have yes : ∃ A, La_put_48 N (mWI M 18 (b + O.length) (nI (a1 * 8 + a0))) = some (nI (b + O.length), A) ∧ cdO b (O ++ [(a0, a1)]) A ∧ (∀ j, j < b → A.1 18 j = M.1 18 j) ∧ A.1 16 5 = (M.1 16 5 ||| ((1 : Int32) <<< ((M.1 16 6) &&& 31))) ∧ A.1 14 5 = M.1 14 5 ∧ frU16 M A := by
    refine ⟨mWI (mWI (mWI M 18 (b + O.length) (nI (a1 * 8 + a0))) 16 5 (M.1 16 5 ||| ((1 : Int32) <<< ((M.1 16 6) &&& 31)))) 16 4 (nI (b + O.length + 1)), ?_, cd _ (rI rfl) (by rw [mWI_ne (by omega), mWI_ne (by omega)]), fun j hj => ?_, ?_, ?_, ⟨fun a j q1 q2 q3 => ?_, rfl⟩⟩
    · unfold La_put_48
      rw [mWI_ne (show 16 ≠ 18 by omega), nxs, fin _ (by rw [rN (by omega), mWI_ne (by omega)]; exact c1)]
    · rw [mWI_ne (by omega), mWI_ne (by omega), rN (by omega)]
    · rw [rN (by omega), rI rfl]
    · rw [mWI_ne (by omega), mWI_ne (by omega), mWI_ne (by omega)]
    · rw [rN (by omega), rN (by omega), mWI_ne (by omega)]
  have no : ∃ A, La_put_63 N (mWI M 18 (b + O.length) (nI (a1 * 8 + a0))) = some (nI (b + O.length), A) ∧ cdO b (O ++ [(a0, a1)]) A ∧ (∀ j, j < b → A.1 18 j = M.1 18 j) ∧ A.1 16 5 = M.1 16 5 ∧ A.1 14 5 = M.1 14 5 ∧ frU16 M A := by
    refine ⟨mWI (mWI M 18 (b + O.length) (nI (a1 * 8 + a0))) 16 4 (nI (b + O.length + 1)), fin _ (by rw [mWI_ne (by omega)]; exact c1), cd _ (rI rfl) (by rw [mWI_ne (by omega)]), fun j hj => ?_, ?_, ?_, ⟨fun a j q1 q2 q3 => ?_, rfl⟩⟩
    · rw [mWI_ne (by omega), rN (by omega)]
    · rw [rN (by omega), mWI_ne (by omega)]
    · rw [mWI_ne (by omega), mWI_ne (by omega)]
    · rw [rN (by omega), mWI_ne (by omega)]
  have q0 : ∀ x k : Nat, x ≤ 9999 → k ≤ 9999 → (nI x = nI k ↔ x = k) := fun x k hx hk => nI_eq (by omega) (by omega)
  by_cases z : a0 = 1
  · rw [if_pos (by rw [z]; rfl)] at base
    by_cases y : a1 = 0 ∨ a1 = 1 ∨ a1 = 5
    · have ec : chO a0 a1 = true := by unfold chO; rcases y with y | y | y <;> subst y <;> subst z <;> rfl
      have eb : La_put N (nI a0) (nI a1) M = La_put_48 N (mWI M 18 (b + O.length) (nI (a1 * 8 + a0))) := by
        rw [base]
        rcases y with y | y | y <;> subst y <;> rfl
      rw [eb, if_pos ec]; exact yes
    · have ec : chO a0 a1 = false := by unfold chO; simp; intro _; omega
      rw [if_neg (show ¬ nI a1 = 0 from fun q => y (Or.inl ((q0 a1 0 h1 (by omega)).mp q))), if_neg (show ¬ nI a1 = 1 from fun q => y (Or.inr (Or.inl ((q0 a1 1 h1 (by omega)).mp q)))), if_neg (show ¬ nI a1 = 5 from fun q => y (Or.inr (Or.inr ((q0 a1 5 h1 (by omega)).mp q))))] at base
      rw [base, if_neg (by rw [ec]; decide)]; exact no
  · have ec : chO a0 a1 = false := by unfold chO; simp [z]
    rw [if_neg (show ¬ nI a0 = 1 from fun q => z ((q0 a0 1 (by omega) (by omega)).mp q))] at base
    rw [base, if_neg (by rw [ec]; decide)]; exact no
