/-! HEIGHTS: the code of a sum never underflows, and stays low -/
def hO : Nat → List (Nat × Nat) → Option Nat
  | h, [] => some h
  | h, (c, a) :: O => if c ≤ 1 then (if h < 31 ∧ a ≤ 9999 ∧ (c = 1 → a ≤ 8) then hO (h + 1) O else none) else (if c ≤ 5 ∧ 2 ≤ h then hO (h - 1) O else none)
theorem hO_c {h c a : Nat} {O : List (Nat × Nat)} : hO h ((c, a) :: O) = if c ≤ 1 then (if h < 31 ∧ a ≤ 9999 ∧ (c = 1 → a ≤ 8) then hO (h + 1) O else none) else (if c ≤ 5 ∧ 2 ≤ h then hO (h - 1) O else none) := rfl
theorem hO_app {P : List (Nat × Nat)} : ∀ {O : List (Nat × Nat)} {h k : Nat}, hO h O = some k → hO h (O ++ P) = hO k P
  | [], h, k, e => by
    have e : some h = some k := e
    injection e with e
    subst e; rfl
  | (c, a) :: O, h, k, e => by
    show hO h ((c, a) :: (O ++ P)) = hO k P
    rw [hO_c] at e ⊢
    by_cases z : c ≤ 1
    · rw [if_pos z] at e ⊢
      by_cases y : h < 31 ∧ a ≤ 9999 ∧ (c = 1 → a ≤ 8)
      · rw [if_pos y] at e ⊢; exact hO_app e
      · rw [if_neg y] at e; cases e
    · rw [if_neg z] at e ⊢
      by_cases y : c ≤ 5 ∧ 2 ≤ h
      · rw [if_pos y] at e ⊢; exact hO_app e
      · rw [if_neg y] at e; cases e
theorem sgW_le : ∀ {W : List Nat} {q : Nat}, okW W q → sgW W ≤ 2 * q + trk W ∧ trk W ≤ 2
  | [], q, h => ⟨Nat.zero_le _, by decide⟩
  | k :: W, q, h => by
    rcases h with ⟨h1, h2, h3⟩ | ⟨h1, h2, h3, h4⟩
    · have ih := sgW_le h3
      subst h1
      show 0 + sgW W ≤ 2 * q + 0 ∧ 0 ≤ 2
      omega
    · have ih := sgW_le h4
      have r := rkW_op (k := k) ⟨h1, h2⟩
      show (if k = 29 then 0 else 1) + sgW W ≤ 2 * q + rkW k ∧ rkW k ≤ 2
      rw [if_neg (by omega)]
      omega
theorem hO_pop {r : Nat} (hr : 1 ≤ r) : ∀ {W : List Nat} {q : Nat}, okW W q → hO (sgW W + 1) (popE r W) = some (sgW (popW r W) + 1)
  | [], q, h => rfl
  | k :: W, q, h => by
    unfold popE popW
    by_cases z : rkW k < r
    · rw [if_pos z, if_pos z]; rfl
    · rw [if_neg z, if_neg z]
      rcases h with ⟨h1, h2, h3⟩ | ⟨h1, h2, h3, h4⟩
      · subst h1
        have : rkW 29 = 0 := rfl
        omega
      · have ih := hO_pop (r := r) hr h4
        have e : sgW (k :: W) = 1 + sgW W := by show (if k = 29 then 0 else 1) + sgW W = _; rw [if_neg (by omega)]
        unfold hO
        rw [if_neg (by omega), if_pos (by omega), e, show 1 + sgW W + 1 - 1 = sgW W + 1 by omega]
        exact ih
section
variable {T : ctx}
theorem aT_t {t a u : Nat} (h : aT T t a = .ok u) : u = t + 1 ∧ cK T t = a ∧ t < 400 := by
  unfold aT at h
  by_cases z : cK T t = a
  · rw [if_pos z] at h
    by_cases y : t < 400
    · rw [if_pos y] at h
      injection h with h
      exact ⟨h.symm, z, y⟩
    · rw [if_neg y] at h; cases h
  · rw [if_neg z] at h; cases h
theorem eB_ok {α β : Type} {x : Except (Nat × Nat) α} {f : α → Except (Nat × Nat) β} {y : β} (h : eB x f = .ok y) : ∃ a, x = .ok a ∧ f a = .ok y := by
  cases x with
  | ok a => exact ⟨a, rfl, h⟩
  | error e => cases h
theorem aSum_h (hT : TF T) : ∀ {n t u q : Nat} {un : Bool} {W : List Nat} {O O' : List (Nat × Nat)}, t < cN T → okW W q → q ≤ 6 → hO 0 O = some (sgW W + (if un = true then 0 else 1)) → aSum T n t (un, q, W, O) = .ok (u, O') → hO 0 O' = some 1 := by
  intro n
  induction n with
  | zero => intro t u q un W O O' ht h1 h2 h3 h4; cases h4
  | succ n ih =>
    intro t u q un W O O' ht h1 h2 h3 h4
    have hs := sgW_le h1
    have hk := hT.2.2.1 t
    have nx : ∀ a u, a ≤ 30 → aT T t a = .ok u → u = t + 1 ∧ t + 1 < cN T := fun a u qa q => by
      obtain ⟨q1, q2, q3⟩ := aT_t q
      exact ⟨q1, t_next hT ht q3 (by omega)⟩
    cases un with
    | true =>
      have h4 : (eB (aU T t q W O) fun r => aSum T n r.1 r.2) = .ok (u, O') := h4
      obtain ⟨⟨u1, un1, q1, W1, O1⟩, e1, e2⟩ := eB_ok h4
      rw [if_pos rfl, Nat.add_zero] at h3
      unfold aU at e1
      by_cases z29 : cK T t = 29
      · rw [if_pos z29] at e1
        by_cases zq : q < 6
        · rw [if_pos zq] at e1
          obtain ⟨a, ea, e3⟩ := eB_ok e1
          obtain ⟨ra, rb⟩ := nx 29 a (by omega) ea
          cases e3
          subst ra
          refine ih (un := true) (q := q + 1) (W := 29 :: W) rb (Or.inl ⟨rfl, Nat.le_add_left 1 q, by rw [Nat.add_sub_cancel]; exact h1⟩) (by omega) ?_ e2
          rw [h3, if_pos rfl]
          show some (sgW W) = some (0 + sgW W + 0)
          congr 1; omega
        · rw [if_neg zq] at e1; cases e1
      · rw [if_neg z29] at e1
        by_cases z21 : cK T t = 21
        · rw [if_pos z21] at e1
          obtain ⟨a, ea, e3⟩ := eB_ok e1
          obtain ⟨ra, rb⟩ := nx 21 a (by omega) ea
          have v9 := hT.2.2.2.2.2.1 t ht z21
          cases e3
          subst ra
          refine ih (un := false) rb h1 h2 ?_ e2
          rw [hO_app h3]
          unfold hO
          rw [if_pos (by omega), if_pos ⟨by omega, v9, fun q => by omega⟩]
          rfl
        · rw [if_neg z21] at e1
          by_cases zv : 11 ≤ cK T t ∧ cK T t ≤ 19
          · rw [if_pos zv] at e1
            obtain ⟨a, ea, e3⟩ := eB_ok e1
            obtain ⟨ra, rb⟩ := nx _ a (by omega) ea
            cases e3
            subst ra
            refine ih (un := false) rb h1 h2 ?_ e2
            rw [hO_app h3]
            unfold hO
            rw [if_pos (by omega), if_pos ⟨by omega, by omega, fun q => by omega⟩]
            rfl
          · rw [if_neg zv] at e1; cases e1
    | false =>
      have h4 : (eB (aG T t q W O) fun r => if r.1 = true then aSum T n r.2.1 r.2.2 else Except.ok (r.2.1, r.2.2.2.2.2)) = .ok (u, O') := h4
      obtain ⟨⟨gg, u1, un1, q1, W1, O1⟩, e1, e2⟩ := eB_ok h4
      have h3 : hO 0 O = some (sgW W + 1) := h3
      unfold aG at e1
      by_cases z : 24 ≤ cK T t ∧ cK T t ≤ 27
      · rw [if_pos z] at e1
        obtain ⟨a, ea, e3⟩ := eB_ok e1
        obtain ⟨ra, rb⟩ := nx _ a (by omega) ea
        have rk := rkW_op z
        cases e3
        subst ra
        have e2 : aSum T n (t + 1) (true, q, cK T t :: popW (rkW (cK T t)) W, O ++ popE (rkW (cK T t)) W) = .ok (u, O') := e2
        refine ih (un := true) rb (okW_push h1 z rfl) h2 ?_ e2
        rw [hO_app h3, hO_pop rk.1 h1, if_pos rfl]
        show _ = some ((if cK T t = 29 then 0 else 1) + sgW (popW (rkW (cK T t)) W) + 0)
        rw [if_neg (by omega)]; congr 1; omega
      · rw [if_neg z] at e1
        by_cases zq : q = 0
        · rw [if_pos zq] at e1
          cases e1
          have e2 : Except.ok (t, O ++ popE 1 W) = (Except.ok (u, O') : Except (Nat × Nat) _) := e2
          injection e2 with e2
          injection e2 with e3 e4
          subst e4
          rcases popW_b h1 with ⟨-, pe⟩ | ⟨q1, -⟩
          · rw [hO_app h3, hO_pop (by omega) h1, pe]; rfl
          · omega
        · rw [if_neg zq] at e1
          obtain ⟨a, ea, e3⟩ := eB_ok e1
          obtain ⟨ra, rb⟩ := nx _ a (by omega) ea
          cases e3
          subst ra
          rcases popW_b h1 with ⟨q0, -⟩ | ⟨q1, V, pe, okV⟩
          · omega
          · have e2 : aSum T n (t + 1) (false, q - 1, (popW 1 W).tail, O ++ popE 1 W) = .ok (u, O') := e2
            rw [pe] at e2
            refine ih (un := false) rb okV (by omega) ?_ e2
            rw [hO_app h3, hO_pop (by omega) h1, pe]
            show some (0 + sgW V + 1) = some (sgW V + 1)
            congr 1; omega
/-- the code of a sum -/
theorem aX_h {t u : Nat} {O : List (Nat × Nat)} (hT : TF T) (ht : t < cN T) (h : aX T t = .ok (u, O)) : hO 0 O = some 1 := aSum_h (un := true) hT ht (W := []) (q := 0) rfl (by omega) rfl h
end
