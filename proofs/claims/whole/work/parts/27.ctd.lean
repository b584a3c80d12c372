/-! the cells, as they were laid out -/
theorem iMem_mono {o : iOp} {l : List iOp} : (iMem l).1 ≤ (iMem (o :: l)).1 := by
  show (iMem l).1 ≤ (iDo o (iMem l)).1
  unfold iDo
  split
  · exact Nat.le_succ _
  · exact Nat.le_refl _
  · exact Nat.le_refl _
  · exact Nat.le_refl _
  · exact Nat.le_refl _
  · show (iMem l).1 ≤ (iMem l).1 + 1 + _; omega
theorem iMem_out : ∀ {l : List iOp}, (iMem l).1 ≤ 111 → iRlo l = true → ∀ a, 111 ≤ a → (iMem l).2.2.1 a = (0, 0) ∧ ∀ k, (iMem l).2.2.2.1 a k = 0
  | [], _, _, a, _ => ⟨rfl, fun _ => rfl⟩
  | o :: l, h1, h2, a, ha => by
    have hm := iMem_mono (o := o) (l := l)
    unfold iRlo at h2
    rw [List.all_cons, Bool.and_eq_true] at h2
    obtain ⟨q1, q2⟩ := h2
    obtain ⟨i1, i2⟩ := iMem_out (l := l) (by omega) q2 a ha
    have h1 : (iDo o (iMem l)).1 ≤ 111 := h1
    show (iDo o (iMem l)).2.2.1 a = (0, 0) ∧ ∀ k, (iDo o (iMem l)).2.2.2.1 a k = 0
    rw [Bool.and_eq_true] at q1
    unfold iDo at h1 ⊢
    split at h1
    · next e =>
      have h1 : (iMem l).1 + 1 ≤ 111 := h1
      have ne : ¬ a = (iMem l).1 := by omega
      refine ⟨?_, fun k => ?_⟩
      · show va_up (iMem l).2.2.1 (iMem l).1 _ a = _
        unfold va_up; rw [if_neg ne]; exact i1
      · show va_up (iMem l).2.2.2.1 (iMem l).1 _ a k = _
        unfold va_up; rw [if_neg ne]; exact i2 k
    · exact ⟨i1, i2⟩
    · exact ⟨i1, i2⟩
    · next e =>
      rw [e] at q1
      have ho : o.2.1 < 111 := by
        have := q1.1
        simp at this
        exact this.1
      refine ⟨i1, fun k => ?_⟩
      show mUR (iMem l).2.2.2.1 o.2.1 _ _ a k = 0
      unfold mUR; rw [if_neg (by omega)]; exact i2 k
    · exact ⟨i1, i2⟩
    · next n0 n1 n2 n3 n4 =>
      have h1 : (iMem l).1 + 1 + o.2.1 ≤ 111 := h1
      refine ⟨?_, fun k => ?_⟩
      · show (if a = (iMem l).1 then _ else if (iMem l).1 < a ∧ a < (iMem l).1 + 1 + o.2.1 then _ else (iMem l).2.2.1 a) = _
        rw [if_neg (by omega), if_neg (by omega)]; exact i1
      · show va_up (iMem l).2.2.2.1 (iMem l).1 _ a k = _
        unfold va_up; rw [if_neg (by omega)]; exact i2 k
theorem iMem_far : ∀ {l : List iOp}, iRlo l = true → ∀ a k, 70 ≤ k → (iMem l).2.2.2.1 a k = 0
  | [], _, a, k, _ => rfl
  | o :: l, h2, a, k, hk => by
    unfold iRlo at h2
    rw [List.all_cons, Bool.and_eq_true] at h2
    obtain ⟨q1, q2⟩ := h2
    have ih := iMem_far (l := l) q2 a k hk
    have ih2 := iMem_far (l := l) q2
    rw [Bool.and_eq_true] at q1
    show (iDo o (iMem l)).2.2.2.1 a k = 0
    unfold iDo
    split
    · show va_up (iMem l).2.2.2.1 (iMem l).1 _ a k = _
      unfold va_up
      split
      · rfl
      · exact ih
    · exact ih
    · exact ih
    · next e =>
      rw [e] at q1
      have ho : o.2.2.1 < 70 := by
        have := q1.1
        simp at this
        exact this.2
      show mUR (iMem l).2.2.2.1 o.2.1 o.2.2.1 _ a k = 0
      unfold mUR
      split
      · unfold va_up; rw [if_neg (by omega)]; exact ih2 _ k hk
      · exact ih
    · exact ih
    · next n0 n1 n2 n3 n4 =>
      have ho : o.2.1 ≤ 70 := by
        have h := q1.2
        rw [Bool.or_eq_true] at h
        rcases h with h | h
        · have h := Nat.blt_eq.mp h
          have hh : o.1 = 0 ∨ o.1 = 1 ∨ o.1 = 2 ∨ o.1 = 3 ∨ o.1 = 4 := by omega
          rcases hh with e | e | e | e | e
          · exact absurd e n0
          · exact absurd e n1
          · exact absurd e n2
          · exact absurd e n3
          · exact absurd e n4
        · exact Nat.le_of_ble_eq_true h
      show va_up (iMem l).2.2.2.1 (iMem l).1 _ a k = _
      unfold va_up
      split
      · show (if k < o.2.1 then _ else 0) = 0
        rw [if_neg (by omega)]
      · exact ih
theorem lay_gen {l : List iOp} (n1 : (iMem l).1 = 111) (n2 : (iMem l).2.1 = 32460) (hq : iRlo l = true) (q1 : ∀ a, a < 111 → (iMem l).2.2.1 a = mK0 a) (q2 : ∀ a k, a < 111 → k < 70 → (iMem l).2.2.2.1 a k = mR0 a k) (ll : (Nat.beq mK0l.length 111 && Nat.beq mR0l.length 111 && mR0l.all fun r => Nat.ble r.length 70) = true) : iMem l = mSS ((iMem l).2.2.2.2.1, (iMem l).2.2.2.2.2) := by
  obtain ⟨l1, l3⟩ := pt_bl ll
  obtain ⟨l1, l2⟩ := pt_bl l1
  have l1 := Nat.eq_of_beq_eq_true l1
  have l2 := Nat.eq_of_beq_eq_true l2
  have hk : (iMem l).2.2.1 = mK0 := by
    funext a
    by_cases h : a < 111
    · exact q1 a h
    · rw [(iMem_out (Nat.le_of_eq n1) hq a (by omega)).1]
      unfold mK0
      rw [List.getD_eq_getElem?_getD, List.getElem?_eq_none (by omega)]; rfl
  have hr : (iMem l).2.2.2.1 = mR0 := by
    funext a k
    by_cases h : a < 111
    · by_cases hk : k < 70
      · exact q2 a k h hk
      · rw [iMem_far hq a k (by omega)]
        unfold mR0
        have hm : mR0l.getD a [] ∈ mR0l := by
          rw [List.getD_eq_getElem?_getD, List.getElem?_eq_getElem (by omega)]
          exact List.getElem_mem _
        have hl := Nat.le_of_ble_eq_true (List.all_eq_true.mp l3 _ hm)
        rw [List.getD_eq_getElem?_getD (l := mR0l.getD a []), List.getElem?_eq_none (by omega)]; rfl
    · rw [(iMem_out (Nat.le_of_eq n1) hq a (by omega)).2 k]
      unfold mR0
      rw [List.getD_eq_getElem?_getD (l := mR0l), List.getElem?_eq_none (by omega)]; rfl
  generalize iMem l = x at *
  obtain ⟨x1, x2, x3, x4, x5, x6⟩ := x
  dsimp only at n1 n2 hk hr
  subst n1 n2 hk hr
  rfl
