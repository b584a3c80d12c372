/-! COUPLES: sets of goers as numbers below 32 -/
def rm (S a : Nat) : Nat := S &&& (31 ^^^ 2 ^ a)
def lowN (S : Nat) : Nat := if S.testBit 0 then 0 else if S.testBit 1 then 1 else if S.testBit 2 then 2 else if S.testBit 3 then 3 else 4
theorem rm_k : ∀ S, S < 32 → ∀ a, a < 5 → rm S a < 32 ∧ rm S a ≤ S ∧ (S.testBit a = true → rm S a < S) ∧ ∀ o, o < 5 → (rm S a).testBit o = (S.testBit o && !(o == a)) := by decide +kernel
theorem low_k : ∀ S, S < 32 → S ≠ 0 → lowN S < 5 ∧ S.testBit (lowN S) = true ∧ ∀ o, o < lowN S → S.testBit o = false := by decide +kernel
theorem low_e : ∀ S, S < 32 → ∀ t, t < 5 → S.testBit t = true → (∀ o, o < t → S.testBit o = false) → lowN S = t := by decide +kernel
theorem low_o : ∀ t, t < 5 → ∀ m, m < 16 → 2 ^ t * (2 * m + 1) < 32 → lowN (2 ^ t * (2 * m + 1)) = t := by decide +kernel
theorem bit_hi {S o : Nat} (h : S < 32) (ho : 5 ≤ o) : S.testBit o = false := by
  apply Nat.testBit_lt_two_pow
  have : 2 ^ 5 ≤ 2 ^ o := Nat.pow_le_pow_right (by omega) ho
  omega
theorem rm_bit {S a o : Nat} (hS : S < 32) (ha : a < 5) : (rm S a).testBit o = true ↔ S.testBit o = true ∧ o ≠ a := by
  rcases Nat.lt_or_ge o 5 with q | q
  · rw [(rm_k S hS a ha).2.2.2 o q, Bool.and_eq_true, Bool.not_eq_true', beq_eq_false_iff_ne]
  · rw [bit_hi (rm_k S hS a ha).1 q, bit_hi hS q]
    exact ⟨fun z => absurd z (by decide), fun z => absurd z.1 (by decide)⟩
theorem rm_m1 : ∀ a, a < 5 → nI 31 &&& (nI (2 ^ a) ^^^ (-1)) = nI (31 ^^^ 2 ^ a) := by decide +kernel
theorem rm_s {S a : Nat} (hS : S < 32) (ha : a < 5) : nI S &&& (nI (2 ^ a) ^^^ (-1)) = nI (rm S a) := by
  have e : nI S = nI S &&& nI 31 := by
    rw [nx_and]
    congr 1
    exact ((by decide +kernel : ∀ S, S < 32 → S &&& 31 = S) S hS).symm
  have as : ∀ x y z : Int32, (x &&& y) &&& z = x &&& (y &&& z) := by
    intro x y z
    apply b_ext
    intro i _
    rw [b_and, b_and, b_and, b_and, Bool.and_assoc]
  rw [e, as, rm_m1 a ha, nx_and]; rfl
section
variable (w : Nat → Nat → Nat)
/-- the most so far, with those below j -/
def pmx (F : Nat → Nat) (S a : Nat) : Nat → Nat
  | 0 => F (rm S a)
  | j + 1 => if a < j ∧ S.testBit j = true ∧ pmx F S a j < w a j + F (rm (rm S a) j) then w a j + F (rm (rm S a) j) else pmx F S a j
def pch (F : Nat → Nat) (S a : Nat) : Nat → Option Nat
  | 0 => none
  | j + 1 => if a < j ∧ S.testBit j = true ∧ pmx w F S a j < w a j + F (rm (rm S a) j) then some j else pch F S a j
def cbF : Nat → Nat → Nat
  | 0, _ => 0
  | f + 1, S => if S = 0 then 0 else pmx w (cbF f) S (lowN S) 5
def cbN (S : Nat) : Nat := cbF w (S + 1) S
def mtF : Nat → Nat → Nat → Int32
  | 0, _, _ => -2
  | f + 1, S, i => if S = 0 then -2 else match pch w (cbN w) S (lowN S) 5 with
    | none => if i = lowN S then -2 else mtF f (rm S (lowN S)) i
    | some b => if i = lowN S then nI b else if i = b then nI (lowN S) else mtF f (rm (rm S (lowN S)) b) i
def mtN (S i : Nat) : Int32 := mtF w (S + 1) S i
end
theorem pmx_s {w : Nat → Nat → Nat} {F : Nat → Nat} {S a j : Nat} : pmx w F S a (j + 1) = if a < j ∧ S.testBit j = true ∧ pmx w F S a j < w a j + F (rm (rm S a) j) then w a j + F (rm (rm S a) j) else pmx w F S a j := rfl
theorem pch_s {w : Nat → Nat → Nat} {F : Nat → Nat} {S a j : Nat} : pch w F S a (j + 1) = if a < j ∧ S.testBit j = true ∧ pmx w F S a j < w a j + F (rm (rm S a) j) then some j else pch w F S a j := rfl
theorem pmx_c {w : Nat → Nat → Nat} {F K : Nat → Nat} {S a : Nat} (hS : S < 32) (ha : a < 5) (hb : S.testBit a = true) (h : ∀ T, T < S → F T = K T) : ∀ j, pmx w F S a j = pmx w K S a j
  | 0 => h _ ((rm_k S hS a ha).2.2.1 hb)
  | j + 1 => by
    have ih := pmx_c (w := w) hS ha hb h j
    have k1 := rm_k S hS a ha
    have e : F (rm (rm S a) j) = K (rm (rm S a) j) := by
      apply h
      have : rm (rm S a) j ≤ rm S a := Nat.and_le_left
      have := k1.2.2.1 hb
      omega
    rw [pmx_s, pmx_s, ih, e]
theorem cbF_st {w : Nat → Nat → Nat} : ∀ f g S, S < 32 → S < f → S < g → cbF w f S = cbF w g S := by
  intro f
  induction f with
  | zero => intro g S _ h; omega
  | succ f ih =>
    intro g S hS hf hg
    cases g with
    | zero => omega
    | succ g =>
      unfold cbF
      by_cases e : S = 0
      · rw [if_pos e, if_pos e]
      · rw [if_neg e, if_neg e]
        obtain ⟨l1, l2, l3⟩ := low_k S hS e
        exact pmx_c hS l1 l2 (fun T hT => ih g T (by omega) (by omega) (by omega)) 5
theorem cbN_0 {w : Nat → Nat → Nat} : cbN w 0 = 0 := rfl
theorem cbN_s {w : Nat → Nat → Nat} {S : Nat} (hS : S < 32) (h : S ≠ 0) : cbN w S = pmx w (cbN w) S (lowN S) 5 := by
  obtain ⟨l1, l2, l3⟩ := low_k S hS h
  show cbF w (S + 1) S = _
  rw [cbF, if_neg h]
  exact pmx_c hS l1 l2 (fun T hT => cbF_st _ _ T (by omega) hT (by omega)) 5
theorem mtF_st {w : Nat → Nat → Nat} : ∀ f g S i, S < 32 → S < f → S < g → mtF w f S i = mtF w g S i := by
  intro f
  induction f with
  | zero => intro g S i _ h; omega
  | succ f ih =>
    intro g S i hS hf hg
    cases g with
    | zero => omega
    | succ g =>
      unfold mtF
      by_cases e : S = 0
      · rw [if_pos e, if_pos e]
      · rw [if_neg e, if_neg e]
        obtain ⟨l1, l2, l3⟩ := low_k S hS e
        have k1 := rm_k S hS _ l1
        have k2 := k1.2.2.1 l2
        cases pch w (cbN w) S (lowN S) 5 with
        | none => dsimp only; rw [ih g _ i (by omega) (by omega) (by omega)]
        | some b =>
          dsimp only
          have : rm (rm S (lowN S)) b ≤ rm S (lowN S) := Nat.and_le_left
          rw [ih g _ i (by omega) (by omega) (by omega)]
theorem mtN_s {w : Nat → Nat → Nat} {S i : Nat} (hS : S < 32) (h : S ≠ 0) : mtN w S i = match pch w (cbN w) S (lowN S) 5 with
    | none => if i = lowN S then -2 else mtN w (rm S (lowN S)) i
    | some b => if i = lowN S then nI b else if i = b then nI (lowN S) else mtN w (rm (rm S (lowN S)) b) i := by
  obtain ⟨l1, l2, l3⟩ := low_k S hS h
  have k1 := rm_k S hS _ l1
  have k2 := k1.2.2.1 l2
  show mtF w (S + 1) S i = _
  rw [mtF, if_neg h]
  cases pch w (cbN w) S (lowN S) 5 with
  | none => dsimp only; rw [mtF_st S _ _ i (by omega) (by omega) (Nat.lt_succ_self _)]; rfl
  | some b =>
    dsimp only
    have : rm (rm S (lowN S)) b ≤ rm S (lowN S) := Nat.and_le_left
    rw [mtF_st S _ _ i (by omega) (by omega) (Nat.lt_succ_self _)]; rfl
theorem pmx_le {w : Nat → Nat → Nat} {F : Nat → Nat} {S a B : Nat} (hw : ∀ a b, w a b ≤ 10000) (h0 : ∀ T, T ≤ rm S a → F T ≤ B) : ∀ j, pmx w F S a j ≤ 10000 + B
  | 0 => by have := h0 _ (Nat.le_refl (rm S a)); show F (rm S a) ≤ _; omega
  | j + 1 => by
    have ih := pmx_le hw h0 j
    have := h0 (rm (rm S a) j) Nat.and_le_left
    have := hw a j
    rw [pmx_s]
    split <;> omega
theorem cbN_le {w : Nat → Nat → Nat} (hw : ∀ a b, w a b ≤ 10000) : ∀ S, S < 32 → cbN w S ≤ 10000 * S := by
  intro S
  induction S using Nat.strongRecOn with
  | _ S ih =>
    intro hS
    by_cases e : S = 0
    · subst e; exact Nat.zero_le _
    · obtain ⟨l1, l2, l3⟩ := low_k S hS e
      have k2 := (rm_k S hS _ l1).2.2.1 l2
      rw [cbN_s hS e]
      have := pmx_le (F := cbN w) (S := S) (a := lowN S) (B := 10000 * (S - 1)) hw (fun T hT => by
        have := ih T (by omega) (by omega)
        have h2 : 10000 * T ≤ 10000 * (S - 1) := Nat.mul_le_mul_left _ (by omega)
        omega) 5
      omega
theorem pmx_lo {w : Nat → Nat → Nat} {F : Nat → Nat} {S a : Nat} : ∀ j, j ≤ a + 1 → pmx w F S a j = F (rm S a) ∧ pch w F S a j = none
  | 0, _ => ⟨rfl, rfl⟩
  | j + 1, h => by
    have ih := pmx_lo (w := w) (F := F) (S := S) (a := a) j (by omega)
    rw [pmx_s, pch_s, if_neg (by omega), if_neg (by omega)]
    exact ih
theorem pmx_hi {w : Nat → Nat → Nat} {F : Nat → Nat} {S a G : Nat} (h : ∀ o, G ≤ o → S.testBit o = false) : ∀ j, G ≤ j → pmx w F S a j = pmx w F S a G ∧ pch w F S a j = pch w F S a G := by
  intro j
  induction j with
  | zero => intro q; rw [show G = 0 by omega]; exact ⟨rfl, rfl⟩
  | succ j ih =>
    intro q
    by_cases e : G = j + 1
    · rw [e]; exact ⟨rfl, rfl⟩
    · rw [pmx_s, pch_s, if_neg, if_neg]
      · exact ih (by omega)
      · rintro ⟨-, z, -⟩; rw [h j (by omega)] at z; cases z
      · rintro ⟨-, z, -⟩; rw [h j (by omega)] at z; cases z
/-- which one is chosen: nobody, if that is as much; else the first that is most -/
theorem pch_c {w : Nat → Nat → Nat} {F : Nat → Nat} {S a : Nat} : ∀ j, F (rm S a) ≤ pmx w F S a j ∧ ((pch w F S a j = none ∧ pmx w F S a j = F (rm S a) ∧ ∀ b, a < b → b < j → S.testBit b = true → w a b + F (rm (rm S a) b) ≤ F (rm S a)) ∨ ∃ b, pch w F S a j = some b ∧ a < b ∧ b < j ∧ S.testBit b = true ∧ F (rm S a) < pmx w F S a j ∧ w a b + F (rm (rm S a) b) = pmx w F S a j ∧ (∀ b', a < b' → b' < b → S.testBit b' = true → w a b' + F (rm (rm S a) b') < pmx w F S a j) ∧ ∀ b', a < b' → b' < j → S.testBit b' = true → w a b' + F (rm (rm S a) b') ≤ pmx w F S a j)
  | 0 => ⟨Nat.le_refl _, Or.inl ⟨rfl, rfl, fun b _ q => absurd q (Nat.not_lt_zero _)⟩⟩
  | j + 1 => by
    obtain ⟨h0, ih⟩ := pch_c (w := w) (F := F) (S := S) (a := a) j
    rw [pmx_s, pch_s]
    by_cases q : a < j ∧ S.testBit j = true ∧ pmx w F S a j < w a j + F (rm (rm S a) j)
    · rw [if_pos q, if_pos q]
      refine ⟨by omega, Or.inr ⟨j, rfl, q.1, by omega, q.2.1, by omega, rfl, fun b' z1 z2 z3 => ?_, fun b' z1 z2 z3 => ?_⟩⟩
      · rcases ih with ⟨-, e, ih⟩ | ⟨b, -, -, -, -, -, -, -, ih⟩
        · have := ih b' z1 z2 z3; omega
        · have := ih b' z1 z2 z3; omega
      · by_cases e : b' = j
        · subst e; exact Nat.le_refl _
        · rcases ih with ⟨-, e, ih⟩ | ⟨b, -, -, -, -, -, -, -, ih⟩
          · have := ih b' z1 (by omega) z3; omega
          · have := ih b' z1 (by omega) z3; omega
    · rw [if_neg q, if_neg q]
      refine ⟨h0, ?_⟩
      rcases ih with ⟨e1, e2, ih⟩ | ⟨b, e1, e2, e3, e4, e5, e6, ih1, ih2⟩
      · refine Or.inl ⟨e1, e2, fun b' z1 z2 z3 => ?_⟩
        by_cases e : b' = j
        · subst e
          apply Classical.byContradiction
          intro z
          exact q ⟨z1, z3, by omega⟩
        · exact ih b' z1 (by omega) z3
      · refine Or.inr ⟨b, e1, e2, by omega, e4, e5, e6, ih1, fun b' z1 z2 z3 => ?_⟩
        by_cases e : b' = j
        · subst e
          apply Classical.byContradiction
          intro z
          exact q ⟨z1, z3, by omega⟩
        · exact ih2 b' z1 (by omega) z3
/-! the class: tries, one behind another -/
def OUT (m0 : Int32) (c0 : Nat → Int32) (v : Nat) (pay : Nat → Int32) (A : mS) : Prop := (m0 < nI v ∧ A.1 45 0 = nI v ∧ ∀ i, i < 5 → A.1 46 i = pay i) ∨ (¬ m0 < nI v ∧ A.1 45 0 = m0 ∧ ∀ i, i < 5 → A.1 46 i = c0 i)
theorem OUT_j {m0 : Int32} {c0 : Nat → Int32} {v1 v2 : Nat} {p1 p2 : Nat → Int32} {A B : mS} (h1 : v1 < 2147483648) (h2 : v2 < 2147483648) (h : OUT m0 c0 v1 p1 A) (g : OUT (A.1 45 0) (A.1 46) v2 p2 B) : (v1 < v2 → OUT m0 c0 v2 p2 B) ∧ (¬ v1 < v2 → OUT m0 c0 v1 p1 B) := by
  rcases h with ⟨a1, a2, a3⟩ | ⟨a1, a2, a3⟩
  · rw [a2] at g
    rcases g with ⟨b1, b2, b3⟩ | ⟨b1, b2, b3⟩
    · rw [ltP h1 h2] at b1
      refine ⟨fun q => Or.inl ⟨?_, b2, b3⟩, fun q => absurd b1 q⟩
      rw [fa_lt, nI_toInt h1] at a1
      rw [fa_lt, nI_toInt h2]; omega
    · rw [ltP h1 h2] at b1
      exact ⟨fun q => absurd q b1, fun q => Or.inl ⟨a1, b2, fun i hi => (b3 i hi).trans (a3 i hi)⟩⟩
  · rw [a2] at g
    rcases g with ⟨b1, b2, b3⟩ | ⟨b1, b2, b3⟩
    · refine ⟨fun q => Or.inl ⟨b1, b2, b3⟩, fun q => ?_⟩
      exfalso
      rw [fa_lt, nI_toInt h1] at a1
      rw [fa_lt, nI_toInt h2] at b1
      omega
    · exact ⟨fun q => Or.inr ⟨b1, b2, fun i hi => (b3 i hi).trans (a3 i hi)⟩, fun q => Or.inr ⟨a1, b2, fun i hi => (b3 i hi).trans (a3 i hi)⟩⟩
theorem OUT_c {m0 : Int32} {c0 : Nat → Int32} {v : Nat} {p1 p2 : Nat → Int32} {A : mS} (h : OUT m0 c0 v p1 A) (e : ∀ i, i < 5 → p1 i = p2 i) : OUT m0 c0 v p2 A := by
  rcases h with ⟨a1, a2, a3⟩ | h
  · exact Or.inl ⟨a1, a2, fun i hi => (a3 i hi).trans (e i hi)⟩
  · exact Or.inr h
def CLM (G : Nat) (w : Nat → Nat → Nat) (g : Nat) (top : Int32 → mS → Option mS) : Prop := ∀ (M : mS) (p : Nat → Int32) (S s : Nat), M.1 3 8 = nI G → (∀ a b, a < b → b < G → M.1 47 (a * 5 + b) = nI (w a b)) → (∀ i, i < 5 → M.1 49 i = p i) → S < 32 → (∀ o, S.testBit o = true ↔ g ≤ o ∧ o < G ∧ p o = -2) → s ≤ 10000 * g → ∃ A, top (nI s) M = some A ∧ (∀ i, i < 5 → A.1 49 i = p i) ∧ (∀ a j, a ≠ 45 → a ≠ 46 → a ≠ 49 → A.1 a j = M.1 a j) ∧ A.2 = M.2 ∧ OUT (M.1 45 0) (M.1 46) (s + cbN w S) (fun i => if S.testBit i = true then mtN w S i else p i) A
theorem leaf_s {G : Nat} {w : Nat → Nat → Nat} {g : Nat} {M : mS} {p : Nat → Int32} {S s : Nat} (hg : G ≤ g) (hg5 : g ≤ 5) (h49 : ∀ i, i < 5 → M.1 49 i = p i) (hS : S < 32) (hb : ∀ o, S.testBit o = true ↔ g ≤ o ∧ o < G ∧ p o = -2) (hs : s ≤ 10000 * g) : ∃ A, (if nI s ≤ (M.1 45 0) then (some M) else (nxt (mWI M 45 0 (nI s)) fun M11 => nxt (mWW M11 46 (va_cpy (M11.1 49) (M11.1 46) (0 : Int32).toNatClampNeg (0 : Int32).toNatClampNeg (5 : Int32).toNatClampNeg)) fun M12 => some M12)) = some A ∧ (∀ i, i < 5 → A.1 49 i = p i) ∧ (∀ a j, a ≠ 45 → a ≠ 46 → a ≠ 49 → A.1 a j = M.1 a j) ∧ A.2 = M.2 ∧ OUT (M.1 45 0) (M.1 46) (s + cbN w S) (fun i => if S.testBit i = true then mtN w S i else p i) A := by
  have hS0 : S = 0 := by
    apply Nat.eq_of_testBit_eq
    intro o
    rw [Nat.zero_testBit]
    cases z : S.testBit o
    · rfl
    · have := (hb o).mp z; omega
  subst hS0
  rw [cbN_0, Nat.add_zero]
  by_cases z : nI s ≤ M.1 45 0
  · refine ⟨M, if_pos z, h49, fun _ _ _ _ _ => rfl, rfl, Or.inr ⟨?_, rfl, fun _ _ => rfl⟩⟩
    rw [fa_le] at z; rw [fa_lt]; omega
  · have z2 : M.1 45 0 < nI s := fa_of_nle z
    refine ⟨_, (if_neg z).trans rfl, fun i hi => ?_, fun a j q1 q2 q3 => ?_, rfl, Or.inl ⟨z2, ?_, fun i hi => ?_⟩⟩
    · rw [mWW_ne (by omega), mWI_ne (by omega)]; exact h49 i hi
    · rw [mWW_ne q2, mWI_ne q1]
    · rw [mWW_ne (by omega), rI rfl]
    · rw [mWW_eq]
      show va_cpy _ _ 0 0 5 i = (if Nat.testBit 0 i = true then mtN w 0 i else p i)
      rw [Nat.zero_testBit, if_neg (by decide), pk_cpy_in (by omega) (by omega), mWI_ne (by omega), show 0 + (i - 0) = i by omega]
      exact h49 i hi
theorem level_s {N G : Nat} {w : Nat → Nat → Nat} {g : Nat} {top nx' : Int32 → mS → Option mS} {L : Nat → Int32 → Int32 → mS → Option mS} (hN : 1000 ≤ N) (hG5 : G ≤ 5) (hg : g < 5) (hw : ∀ a b, w a b ≤ 10000) (ih : CLM G w (g + 1) nx')
    (hE : ∀ n x2 x3 (M : mS), L (n + 1) x2 x3 M = if (M.1 3 8) ≤ x3 then (some M) else (grd (mIn x3 5) (if (M.1 49 x3.toNatClampNeg) = (-2) then (nxt (mWI M 49 g x3) fun M2 => grd (mIn x3 5) (nxt (mWI M2 49 x3.toNatClampNeg (nI g)) fun M4 => grd (mIn ((nI g * 5) + x3) 25) (bV (nx' (x2 + (M4.1 47 ((nI g * 5) + x3).toNatClampNeg)) M4) fun M7 => nxt (mWI M7 49 g (-2)) fun M8 => grd (mIn x3 5) (nxt (mWI M8 49 x3.toNatClampNeg (-2)) fun M10 => L n x2 (x3 + 1) M10)))) else (L n x2 (x3 + 1) M))))
    (hT : ∀ a0 (M : mS), top a0 M = if (M.1 3 8) ≤ nI g then (if a0 ≤ (M.1 45 0) then (some M) else (nxt (mWI M 45 0 a0) fun M11 => nxt (mWW M11 46 (va_cpy (M11.1 49) (M11.1 46) (0 : Int32).toNatClampNeg (0 : Int32).toNatClampNeg (5 : Int32).toNatClampNeg)) fun M12 => some M12)) else (bV (nx' a0 M) fun M14 => if (M14.1 49 g) = (-2) then (L N a0 (nI g + 1) M14) else (some M14))) : CLM G w g top := by
  intro M p S s h8 h47 h49 hS hb hs
  rw [hT, h8]
  by_cases hgG : G ≤ g
  · rw [if_pos (by rw [leP (by omega) (by omega)]; exact hgG)]
    exact leaf_s hgG (by omega) h49 hS hb hs
  · rw [if_neg (by rw [leP (by omega) (by omega)]; exact hgG)]
    have cbl : ∀ T, T < 32 → cbN w T ≤ 320000 := fun T hT => by
      have := cbN_le hw T hT
      have h2 : 10000 * T ≤ 10000 * 32 := Nat.mul_le_mul_left _ (by omega)
      omega
    by_cases hpg : p g = -2
    · have hSg : S.testBit g = true := (hb g).mpr ⟨Nat.le_refl _, by omega, hpg⟩
      have hS0 : S ≠ 0 := by rintro rfl; rw [Nat.zero_testBit] at hSg; cases hSg
      have hlow : lowN S = g := low_e S hS g hg hSg (fun o ho => by
        cases z : S.testBit o
        · rfl
        · have := (hb o).mp z; omega)
      have hSG : ∀ o, G ≤ o → S.testBit o = false := fun o ho => by
        cases z : S.testBit o
        · rfl
        · have := (hb o).mp z; omega
      have k1 := rm_k S hS g hg
      obtain ⟨A1, eA1, a1, a2, a3, a4⟩ := ih M p (rm S g) s h8 h47 h49 k1.1 (fun o => by
        rw [rm_bit hS hg, hb o]; constructor
        · rintro ⟨⟨q1, q2, q3⟩, q4⟩; exact ⟨by omega, q2, q3⟩
        · rintro ⟨q1, q2, q3⟩; exact ⟨⟨by omega, q2, q3⟩, by omega⟩) (by omega)
      rw [eA1, bVs, a1 g hg, if_pos hpg, show nI g + 1 = nI (g + 1) from nI_add g 1]
      let PAY : Nat → Nat → Int32 := fun j i => if S.testBit i = true then (match pch w (cbN w) S g j with
        | none => if i = g then -2 else mtN w (rm S g) i
        | some b => if i = g then nI b else if i = b then nI g else mtN w (rm (rm S g) b) i) else p i
      have fin : ∀ A : mS, OUT (M.1 45 0) (M.1 46) (s + pmx w (cbN w) S g G) (PAY G) A → OUT (M.1 45 0) (M.1 46) (s + cbN w S) (fun i => if S.testBit i = true then mtN w S i else p i) A := by
        intro A hA
        have e1 := pmx_hi (w := w) (F := cbN w) (a := g) hSG 5 hG5
        rw [cbN_s hS hS0, hlow, e1.1]
        refine OUT_c hA (fun i hi => ?_)
        show (if S.testBit i = true then _ else p i) = _
        by_cases z : S.testBit i = true
        · rw [if_pos z, if_pos z, mtN_s hS hS0, hlow, e1.2]
        · rw [if_neg z, if_neg z]
      have pml : ∀ j, pmx w (cbN w) S g j ≤ 330000 := fun j => by
        have := pmx_le (F := cbN w) (S := S) (a := g) (B := 320000) hw (fun T hT => cbl T (by omega)) j
        omega
      refine iter (F := fun f j (t : mS) => L f (nI s) (nI j) t) (i := g + 1) (f := N) (s := A1) (n := G) (Q := fun r => ∃ A, r = some A ∧ (∀ i, i < 5 → A.1 49 i = p i) ∧ (∀ a j, a ≠ 45 → a ≠ 46 → a ≠ 49 → A.1 a j = M.1 a j) ∧ A.2 = M.2 ∧ OUT (M.1 45 0) (M.1 46) (s + cbN w S) (fun i => if S.testBit i = true then mtN w S i else p i) A) (fun j t => g + 1 ≤ j ∧ (∀ i, i < 5 → t.1 49 i = p i) ∧ (∀ a j, a ≠ 45 → a ≠ 46 → a ≠ 49 → t.1 a j = M.1 a j) ∧ t.2 = M.2 ∧ OUT (M.1 45 0) (M.1 46) (s + pmx w (cbN w) S g j) (PAY j) t) ?_ ?_ (by omega) (by omega) ⟨Nat.le_refl _, a1, a2, a3, ?_⟩
      · rintro f j t hj ⟨j0, t1, t2, t3, t4⟩
        have t8 : t.1 3 8 = nI G := (t2 _ _ (by omega) (by omega) (by omega)).trans h8
        have k0 : ¬ nI G ≤ nI j := by rw [leP (by omega) (by omega)]; omega
        by_cases hpj : p j = -2
        · have hSj : S.testBit j = true := (hb j).mpr ⟨by omega, hj, hpj⟩
          have k2 := rm_k (rm S g) k1.1 j (by omega)
          let M4 : mS := mWI (mWI t 49 g (nI j)) 49 j (nI g)
          have m8 : M4.1 3 8 = nI G := by show (mWI _ 49 j _).1 3 8 = _; rw [mWI_ne (by omega), mWI_ne (by omega)]; exact t8
          have m47 : ∀ a b, a < b → b < G → M4.1 47 (a * 5 + b) = nI (w a b) := fun a b q1 q2 => by
            show (mWI _ 49 j _).1 47 _ = _
            rw [mWI_ne (by omega), mWI_ne (by omega), t2 47 _ (by omega) (by omega) (by omega)]; exact h47 a b q1 q2
          let p' : Nat → Int32 := fun i => if i = j then nI g else if i = g then nI j else p i
          have m49 : ∀ i, i < 5 → M4.1 49 i = p' i := fun i hi => by
            show (mWI _ 49 j _).1 49 i = if i = j then nI g else if i = g then nI j else p i
            by_cases e : i = j
            · rw [rI e, if_pos e]
            · rw [rN (by omega), if_neg e]
              by_cases e2 : i = g
              · rw [rI e2, if_pos e2]
              · rw [rN (by omega), if_neg e2]; exact t1 i hi
          have hwl := hw g j
          obtain ⟨A2, eA2, c1, c2, c3, c4⟩ := ih M4 p' (rm (rm S g) j) (s + w g j) m8 m47 m49 k2.1 (fun o => by
            rw [rm_bit k1.1 (by omega), rm_bit hS hg, hb o]
            show _ ↔ g + 1 ≤ o ∧ o < G ∧ (if o = j then nI g else if o = g then nI j else p o) = -2
            constructor
            · rintro ⟨⟨⟨q1, q2, q3⟩, q4⟩, q5⟩; exact ⟨by omega, q2, by rw [if_neg q5, if_neg q4]; exact q3⟩
            · rintro ⟨q1, q2, q3⟩
              by_cases e : o = j
              · rw [if_pos e] at q3; exact absurd q3 (ne_m2 (by omega))
              · rw [if_neg e, if_neg (by omega)] at q3
                exact ⟨⟨⟨by omega, q2, q3⟩, by omega⟩, e⟩) (by omega)
          let A3 : mS := mWI (mWI A2 49 g (-2)) 49 j (-2)
          have d45 : M4.1 45 0 = t.1 45 0 := by show (mWI _ 49 j _).1 45 0 = _; rw [mWI_ne (by omega), mWI_ne (by omega)]
          have d46 : M4.1 46 = t.1 46 := by show (mWI _ 49 j _).1 46 = _; rw [mWI_ne (by omega), mWI_ne (by omega)]
          have o3 : OUT (t.1 45 0) (t.1 46) (s + w g j + cbN w (rm (rm S g) j)) (fun i => if (rm (rm S g) j).testBit i = true then mtN w (rm (rm S g) j) i else p' i) A3 := by
            rw [d45, d46] at c4
            unfold OUT at c4 ⊢
            show ((_ ∧ (mWI (mWI A2 49 g (-2)) 49 j (-2)).1 45 0 = _ ∧ _) ∨ _)
            simp only [A3, mWI_ne (show (45 : Nat) ≠ 49 by omega), mWI_ne (show (46 : Nat) ≠ 49 by omega)]
            exact c4
          have cb2 := cbl (rm (rm S g) j) (by omega)
          have pj := pml j
          have joined := OUT_j (by omega) (by omega) t4 o3
          refine Or.inl ⟨A3, ⟨by omega, fun i hi => ?_, fun a i q1 q2 q3 => ?_, c3.trans t3, ?_⟩, ?_⟩
          · show (mWI _ 49 j _).1 49 i = _
            by_cases e : i = j
            · rw [rI e, e, hpj]
            · rw [rN (by omega)]
              by_cases e2 : i = g
              · rw [rI e2, e2, hpg]
              · rw [rN (by omega), c1 i hi]
                show (if i = j then nI g else if i = g then nI j else p i) = p i
                rw [if_neg e, if_neg e2]
          · show (mWI _ 49 j _).1 a i = _
            rw [mWI_ne q3, mWI_ne q3, c2 a i q1 q2 q3]
            show (mWI _ 49 j _).1 a i = _
            rw [mWI_ne q3, mWI_ne q3]; exact t2 a i q1 q2 q3
          · by_cases z : pmx w (cbN w) S g j < w g j + cbN w (rm (rm S g) j)
            · have ep : pmx w (cbN w) S g (j + 1) = w g j + cbN w (rm (rm S g) j) := by rw [pmx_s, if_pos ⟨by omega, hSj, z⟩]
              have ec : pch w (cbN w) S g (j + 1) = some j := by rw [pch_s, if_pos ⟨by omega, hSj, z⟩]
              rw [ep, ← Nat.add_assoc]
              refine OUT_c (joined.1 (by omega)) (fun i hi => ?_)
              show (if (rm (rm S g) j).testBit i = true then mtN w (rm (rm S g) j) i else if i = j then nI g else if i = g then nI j else p i) = if S.testBit i = true then (match pch w (cbN w) S g (j + 1) with | none => if i = g then -2 else mtN w (rm S g) i | some b => if i = g then nI b else if i = b then nI g else mtN w (rm (rm S g) b) i) else p i
              rw [ec]
              dsimp only
              by_cases z2 : S.testBit i = true
              · rw [if_pos z2]
                by_cases e1 : i = g
                · rw [if_pos e1, if_neg (by rw [rm_bit k1.1 (by omega), rm_bit hS hg]; intro q; exact q.1.2 e1), if_neg (by omega), if_pos e1]
                · simp only [if_neg e1]
                  by_cases e2 : i = j
                  · simp only [if_pos e2]
                    rw [if_neg (by rw [rm_bit k1.1 (by omega)]; intro q; exact q.2 e2)]
                  · simp only [if_neg e2]
                    rw [if_pos (by rw [rm_bit k1.1 (by omega), rm_bit hS hg]; exact ⟨⟨z2, e1⟩, e2⟩)]
              · rw [if_neg z2, if_neg (by rw [rm_bit k1.1 (by omega), rm_bit hS hg]; intro q; exact z2 q.1.1), if_neg (by rintro rfl; exact z2 hSj), if_neg (by rintro rfl; exact z2 hSg)]
            · have ep : pmx w (cbN w) S g (j + 1) = pmx w (cbN w) S g j := by rw [pmx_s, if_neg (fun q => z q.2.2)]
              have ec : pch w (cbN w) S g (j + 1) = pch w (cbN w) S g j := by rw [pch_s, if_neg (fun q => z q.2.2)]
              rw [ep]
              refine OUT_c (joined.2 (by omega)) (fun i hi => ?_)
              show (if S.testBit i = true then (match pch w (cbN w) S g j with | none => _ | some b => _) else p i) = (if S.testBit i = true then (match pch w (cbN w) S g (j + 1) with | none => _ | some b => _) else p i)
              rw [ec]
          · have e47 : (mWI (mWI t 49 g (nI j)) 49 j (nI g)).1 47 (g * 5 + j) = nI (w g j) := m47 g j (by omega) hj
            rw [hE, t8, if_neg k0, grd_in (by omega) (by omega), clp (by omega), t1 j (by omega), if_pos hpj, nxs, grd_in (by omega) (by omega), nxs, show nI g * 5 = nI (g * 5) from pk_mul g 5, nI_add, grd_in (by omega) (by omega), clp (by omega), e47, nI_add]
            show bV (nx' (nI (s + w g j)) M4) _ = _
            rw [eA2, bVs, nxs, grd_in (by omega) (by omega), nxs, show nI j + 1 = nI (j + 1) from nI_add j 1]
        · have hSj : ¬ S.testBit j = true := fun q => hpj ((hb j).mp q).2.2
          refine Or.inl ⟨t, ⟨by omega, t1, t2, t3, ?_⟩, ?_⟩
          · have ep : pmx w (cbN w) S g (j + 1) = pmx w (cbN w) S g j := by rw [pmx_s, if_neg (fun q => hSj q.2.1)]
            have ec : pch w (cbN w) S g (j + 1) = pch w (cbN w) S g j := by rw [pch_s, if_neg (fun q => hSj q.2.1)]
            rw [ep]
            refine OUT_c t4 (fun i hi => ?_)
            show (if S.testBit i = true then (match pch w (cbN w) S g j with | none => _ | some b => _) else p i) = (if S.testBit i = true then (match pch w (cbN w) S g (j + 1) with | none => _ | some b => _) else p i)
            rw [ec]
          · rw [hE, t8, if_neg k0, grd_in (by omega) (by omega), clp (by omega), t1 j (by omega), if_neg hpj, show nI j + 1 = nI (j + 1) from nI_add j 1]
      · rintro f t ⟨j0, t1, t2, t3, t4⟩
        have t8 : t.1 3 8 = nI G := (t2 _ _ (by omega) (by omega) (by omega)).trans h8
        refine ⟨t, ?_, t1, t2, t3, fin t t4⟩
        rw [hE, t8, if_pos (by rw [leP (by omega) (by omega)]; omega)]
      · have lo := pmx_lo (w := w) (F := cbN w) (S := S) (a := g) (g + 1) (Nat.le_refl _)
        rw [lo.1]
        refine OUT_c a4 (fun i hi => ?_)
        show _ = if S.testBit i = true then (match pch w (cbN w) S g (g + 1) with | none => if i = g then -2 else mtN w (rm S g) i | some b => if i = g then nI b else if i = b then nI g else mtN w (rm (rm S g) b) i) else p i
        rw [lo.2]
        dsimp only
        by_cases z2 : S.testBit i = true
        · rw [if_pos z2]
          by_cases e1 : i = g
          · rw [if_pos e1, if_neg (by rw [rm_bit hS hg]; intro q; exact q.2 e1), e1, hpg]
          · rw [if_neg e1, if_pos (by rw [rm_bit hS hg]; exact ⟨z2, e1⟩)]
        · rw [if_neg z2, if_neg (by rw [rm_bit hS hg]; intro q; exact z2 q.1)]
    · obtain ⟨A1, eA1, a1, a2, a3, a4⟩ := ih M p S s h8 h47 h49 hS (fun o => by
        rw [hb o]; constructor
        · rintro ⟨q1, q2, q3⟩
          refine ⟨?_, q2, q3⟩
          apply Classical.byContradiction
          intro z
          have : o = g := by omega
          subst this
          exact hpg q3
        · rintro ⟨q1, q2, q3⟩; exact ⟨by omega, q2, q3⟩) (by omega)
      refine ⟨A1, ?_, a1, a2, a3, a4⟩
      rw [eA1, bVs, a1 g hg, if_neg hpg]
