/-! FORGETTING LOCALS, depth, rules -/
def mMk : List Bool → List (Option Value) → List (Option Value)
  | b :: bs, x :: xs => (bif b then x else none) :: mMk bs xs
  | _, xs => xs
def mLe (l' l : List (Option Value)) : Prop := l'.length = l.length ∧ ∀ i : Nat, l'[i]? = l[i]? ∨ l'[i]? = some none
theorem mLe.refl (l : List (Option Value)) : mLe l l := ⟨rfl, fun _ => Or.inl rfl⟩
theorem mMk_le : ∀ (bs : List Bool) (ls : List (Option Value)), mLe (mMk bs ls) ls
  | [], ls => by
    cases ls <;> exact mLe.refl _
  | b :: bs, [] => mLe.refl _
  | b :: bs, x :: xs => by
    obtain ⟨q1, q2⟩ := mMk_le bs xs
    refine ⟨by show (mMk bs xs).length + 1 = _; rw [q1]; rfl, fun i => ?_⟩
    cases i with
    | zero =>
      cases b with
      | true => exact Or.inl rfl
      | false => exact Or.inr rfl
    | succ i => exact q2 i
theorem mLe.rd {l' l : List (Option Value)} (h : mLe l' l) {i : Nat} {v : Value} (hv : l'[i]? = some (some v)) : l[i]? = some (some v) := by
  rcases h.2 i with q | q
  · rw [← q]; exact hv
  · rw [q] at hv; cases hv
theorem mLe.set {l' l : List (Option Value)} (h : mLe l' l) (i : Nat) (v : Option Value) : mLe (l'.set i v) (l.set i v) := by
  refine ⟨by rw [List.length_set, List.length_set]; exact h.1, fun j => ?_⟩
  rw [List.getElem?_set, List.getElem?_set, h.1]
  by_cases hj : i = j
  · rw [if_pos hj, if_pos hj]; exact Or.inl rfl
  · rw [if_neg hj, if_neg hj]; exact h.2 j
theorem mClr_eq (l : List (Option Value)) (i j : Nat) : (mClr l i)[j]? = l[j]? ∨ ((mClr l i)[j]? = some none ∧ j + 1 = i ∧ ∃ v : Value, l[j]? = some (some v) ∧ v.category = 2) := by
  cases i with
  | zero => exact Or.inl rfl
  | succ n =>
    unfold mClr
    dsimp only
    split
    · next x hx =>
      rw [List.getElem?_set]
      by_cases hj : n = j
      · subst hj
        rw [if_pos rfl, if_pos (List.getElem?_eq_some_iff.mp hx).1]
        exact Or.inr ⟨rfl, rfl, _, hx, rfl⟩
      · rw [if_neg hj]; exact Or.inl rfl
    · next x hx =>
      rw [List.getElem?_set]
      by_cases hj : n = j
      · subst hj
        rw [if_pos rfl, if_pos (List.getElem?_eq_some_iff.mp hx).1]
        exact Or.inr ⟨rfl, rfl, _, hx, rfl⟩
      · rw [if_neg hj]; exact Or.inl rfl
    · exact Or.inl rfl
theorem mLe.clr {l' l : List (Option Value)} (h : mLe l' l) (i : Nat) : mLe (mClr l' i) (mClr l i) := by
  refine ⟨by rw [mClr_len, mClr_len]; exact h.1, fun j => ?_⟩
  rcases mClr_eq l' i j with a | ⟨a, -⟩
  · rcases mClr_eq l i j with b | ⟨b, hj, v, hv, hc⟩
    · rw [a, b]; exact h.2 j
    · rcases h.2 j with q | q
      · exfalso
        rw [hv] at q
        have := (mClr_at (by rw [a]; exact q)).2
        exact this ⟨hj, hc⟩
      · rw [a]; exact Or.inr q
  · exact Or.inr a
section Fgt
variable {k' k : mFr → Prop} {l' l : List (Option Value)} {pc : Nat} {st : List Value} {σ : mMem}
theorem kBin_l (hl : mLe l' l) (hk : ∀ (a : Nat) (m' m : List (Option Value)) (s : List Value) (τ : mMem), mLe m' m → k' (a, m', s, τ) → k (a, m, s, τ)) {g : Int32 → Int32 → Int32} : kBin g (pc, l', st, σ) k' → kBin g (pc, l, st, σ) k := by
  unfold kBin; try dsimp only
  split
  · exact hk _ _ _ _ _ hl
  · exact id
theorem kDiv_l (hl : mLe l' l) (hk : ∀ (a : Nat) (m' m : List (Option Value)) (s : List Value) (τ : mMem), mLe m' m → k' (a, m', s, τ) → k (a, m, s, τ)) {g : Int32 → Int32 → Int32} : kDiv g (pc, l', st, σ) k' → kDiv g (pc, l, st, σ) k := by
  unfold kDiv; try dsimp only
  split
  · exact fun q => ⟨q.1, hk _ _ _ _ _ hl q.2⟩
  · exact id
theorem kUn_l (hl : mLe l' l) (hk : ∀ (a : Nat) (m' m : List (Option Value)) (s : List Value) (τ : mMem), mLe m' m → k' (a, m', s, τ) → k (a, m, s, τ)) {g : Int32 → Value} : kUn g (pc, l', st, σ) k' → kUn g (pc, l, st, σ) k := by
  unfold kUn; try dsimp only
  split
  · exact hk _ _ _ _ _ hl
  · exact id
theorem kL2I_l (hl : mLe l' l) (hk : ∀ (a : Nat) (m' m : List (Option Value)) (s : List Value) (τ : mMem), mLe m' m → k' (a, m', s, τ) → k (a, m, s, τ)) : kL2I (pc, l', st, σ) k' → kL2I (pc, l, st, σ) k := by
  unfold kL2I; try dsimp only
  split
  · exact hk _ _ _ _ _ hl
  · exact id
theorem kBinL_l (hl : mLe l' l) (hk : ∀ (a : Nat) (m' m : List (Option Value)) (s : List Value) (τ : mMem), mLe m' m → k' (a, m', s, τ) → k (a, m, s, τ)) {g : Int64 → Int64 → Int64} : kBinL g (pc, l', st, σ) k' → kBinL g (pc, l, st, σ) k := by
  unfold kBinL; try dsimp only
  split
  · exact hk _ _ _ _ _ hl
  · exact id
theorem kCmpL_l (hl : mLe l' l) (hk : ∀ (a : Nat) (m' m : List (Option Value)) (s : List Value) (τ : mMem), mLe m' m → k' (a, m', s, τ) → k (a, m, s, τ)) : kCmpL (pc, l', st, σ) k' → kCmpL (pc, l, st, σ) k := by
  unfold kCmpL; try dsimp only
  split
  · exact hk _ _ _ _ _ hl
  · exact id
theorem kDup_l (hl : mLe l' l) (hk : ∀ (a : Nat) (m' m : List (Option Value)) (s : List Value) (τ : mMem), mLe m' m → k' (a, m', s, τ) → k (a, m, s, τ)) : kDup (pc, l', st, σ) k' → kDup (pc, l, st, σ) k := by
  unfold kDup; try dsimp only
  split
  · exact fun q => ⟨q.1, hk _ _ _ _ _ hl q.2⟩
  · exact id
theorem kPop_l (hl : mLe l' l) (hk : ∀ (a : Nat) (m' m : List (Option Value)) (s : List Value) (τ : mMem), mLe m' m → k' (a, m', s, τ) → k (a, m, s, τ)) : kPop (pc, l', st, σ) k' → kPop (pc, l, st, σ) k := by
  unfold kPop; try dsimp only
  split
  · exact fun q => ⟨q.1, hk _ _ _ _ _ hl q.2⟩
  · exact id
theorem kDup2_l (hl : mLe l' l) (hk : ∀ (a : Nat) (m' m : List (Option Value)) (s : List Value) (τ : mMem), mLe m' m → k' (a, m', s, τ) → k (a, m, s, τ)) : kDup2 (pc, l', st, σ) k' → kDup2 (pc, l, st, σ) k := by
  unfold kDup2; try dsimp only
  split
  · exact fun q => ⟨q.1, hk _ _ _ _ _ hl q.2⟩
  · exact id
theorem kIf1_l (hl : mLe l' l) (hk : ∀ (a : Nat) (m' m : List (Option Value)) (s : List Value) (τ : mMem), mLe m' m → k' (a, m', s, τ) → k (a, m, s, τ)) {g : Int32 → Prop} {a b : Nat} : kIf1 g a b (pc, l', st, σ) k' → kIf1 g a b (pc, l, st, σ) k := by
  unfold kIf1; try dsimp only
  split
  · exact fun q => ⟨fun z => hk _ _ _ _ _ hl (q.1 z), fun z => hk _ _ _ _ _ hl (q.2 z)⟩
  · exact id
theorem kIf2_l (hl : mLe l' l) (hk : ∀ (a : Nat) (m' m : List (Option Value)) (s : List Value) (τ : mMem), mLe m' m → k' (a, m', s, τ) → k (a, m, s, τ)) {g : Int32 → Int32 → Prop} {a b : Nat} : kIf2 g a b (pc, l', st, σ) k' → kIf2 g a b (pc, l, st, σ) k := by
  unfold kIf2; try dsimp only
  split
  · exact fun q => ⟨fun z => hk _ _ _ _ _ hl (q.1 z), fun z => hk _ _ _ _ _ hl (q.2 z)⟩
  · exact id
theorem kIfC_l (hl : mLe l' l) (hk : ∀ (a : Nat) (m' m : List (Option Value)) (s : List Value) (τ : mMem), mLe m' m → k' (a, m', s, τ) → k (a, m, s, τ)) {c : ClassFile.Cond} {t : Nat} : kIfC c t (pc, l', st, σ) k' → kIfC c t (pc, l, st, σ) k := by
  cases c <;> exact kIf1_l hl hk
theorem kIfI_l (hl : mLe l' l) (hk : ∀ (a : Nat) (m' m : List (Option Value)) (s : List Value) (τ : mMem), mLe m' m → k' (a, m', s, τ) → k (a, m, s, τ)) {c : ClassFile.Cond} {t : Nat} : kIfI c t (pc, l', st, σ) k' → kIfI c t (pc, l, st, σ) k := by
  cases c <;> exact kIf2_l hl hk
theorem kSw_l (hl : mLe l' l) (hk : ∀ (a : Nat) (m' m : List (Option Value)) (s : List Value) (τ : mMem), mLe m' m → k' (a, m', s, τ) → k (a, m, s, τ)) {lo hi : Int} {td : Nat} {ts : List Nat} : kSw lo hi td ts (pc, l', st, σ) k' → kSw lo hi td ts (pc, l, st, σ) k := by
  unfold kSw; try dsimp only
  split
  · exact fun q => ⟨fun z => hk _ _ _ _ _ hl (q.1 z), fun z => by obtain ⟨t, h1, h2⟩ := q.2 z; exact ⟨t, h1, hk _ _ _ _ _ hl h2⟩⟩
  · exact id
theorem kGet_l (hl : mLe l' l) (hk : ∀ (a : Nat) (m' m : List (Option Value)) (s : List Value) (τ : mMem), mLe m' m → k' (a, m', s, τ) → k (a, m, s, τ)) {ci fi : Nat} : kGet ci fi (pc, l', st, σ) k' → kGet ci fi (pc, l, st, σ) k := by
  unfold kGet; try dsimp only
  split
  · intro q
    refine ⟨q.1, ?_⟩
    have q2 := q.2
    revert q2
    split
    · split
      · exact id
      · exact hk _ _ _ _ _ hl
    · exact hk _ _ _ _ _ hl
  · exact id
theorem kPut_l (hl : mLe l' l) (hk : ∀ (a : Nat) (m' m : List (Option Value)) (s : List Value) (τ : mMem), mLe m' m → k' (a, m', s, τ) → k (a, m, s, τ)) {ci fi : Nat} : kPut ci fi (pc, l', st, σ) k' → kPut ci fi (pc, l, st, σ) k := by
  unfold kPut; try dsimp only
  split
  · exact fun q => ⟨q.1, q.2.1, hk _ _ _ _ _ hl q.2.2⟩
  · exact fun q => ⟨q.1, hk _ _ _ _ _ hl q.2⟩
  · exact id
theorem kAld_l (hl : mLe l' l) (hk : ∀ (a : Nat) (m' m : List (Option Value)) (s : List Value) (τ : mMem), mLe m' m → k' (a, m', s, τ) → k (a, m, s, τ)) {kd : Nat → Bool} : kAld kd (pc, l', st, σ) k' → kAld kd (pc, l, st, σ) k := by
  unfold kAld; try dsimp only
  split
  · exact fun q => ⟨q.1, q.2.1, hk _ _ _ _ _ hl q.2.2⟩
  · exact id
theorem kIald_l (hl : mLe l' l) (hk : ∀ (a : Nat) (m' m : List (Option Value)) (s : List Value) (τ : mMem), mLe m' m → k' (a, m', s, τ) → k (a, m, s, τ)) {X : Nat × (Nat → Int32)} : kIald X (pc, l', st, σ) k' → kIald X (pc, l, st, σ) k := by
  unfold kIald; try dsimp only
  split
  · exact fun q => ⟨q.1, hk _ _ _ _ _ hl q.2⟩
  · exact kAld_l hl hk
theorem kLald_l (hl : mLe l' l) (hk : ∀ (a : Nat) (m' m : List (Option Value)) (s : List Value) (τ : mMem), mLe m' m → k' (a, m', s, τ) → k (a, m, s, τ)) : kLald (pc, l', st, σ) k' → kLald (pc, l, st, σ) k := by
  unfold kLald; try dsimp only
  split
  · exact fun q => ⟨q.1, q.2.1, hk _ _ _ _ _ hl q.2.2⟩
  · exact id
theorem kAald_l (hl : mLe l' l) (hk : ∀ (a : Nat) (m' m : List (Option Value)) (s : List Value) (τ : mMem), mLe m' m → k' (a, m', s, τ) → k (a, m, s, τ)) : kAald (pc, l', st, σ) k' → kAald (pc, l, st, σ) k := by
  unfold kAald; try dsimp only
  split
  · intro q
    refine ⟨q.1, q.2.1, ?_⟩
    have q2 := q.2.2
    revert q2
    split
    · exact id
    · exact hk _ _ _ _ _ hl
  · exact id
theorem kIast_l (hl : mLe l' l) (hk : ∀ (a : Nat) (m' m : List (Option Value)) (s : List Value) (τ : mMem), mLe m' m → k' (a, m', s, τ) → k (a, m, s, τ)) : kIast (pc, l', st, σ) k' → kIast (pc, l, st, σ) k := by
  unfold kIast; try dsimp only
  split
  · exact fun q => ⟨q.1, q.2.1, hk _ _ _ _ _ hl q.2.2⟩
  · exact id
theorem kBast_l (hl : mLe l' l) (hk : ∀ (a : Nat) (m' m : List (Option Value)) (s : List Value) (τ : mMem), mLe m' m → k' (a, m', s, τ) → k (a, m, s, τ)) : kBast (pc, l', st, σ) k' → kBast (pc, l, st, σ) k := by
  unfold kBast; try dsimp only
  split
  · intro q
    refine ⟨q.1, q.2.1, ?_⟩
    have q2 := q.2.2
    revert q2
    split
    · exact hk _ _ _ _ _ hl
    · exact hk _ _ _ _ _ hl
    · exact id
  · exact id
theorem kLast_l (hl : mLe l' l) (hk : ∀ (a : Nat) (m' m : List (Option Value)) (s : List Value) (τ : mMem), mLe m' m → k' (a, m', s, τ) → k (a, m, s, τ)) : kLast (pc, l', st, σ) k' → kLast (pc, l, st, σ) k := by
  unfold kLast; try dsimp only
  split
  · exact fun q => ⟨q.1, q.2.1, hk _ _ _ _ _ hl q.2.2⟩
  · exact id
theorem kLen_l (hl : mLe l' l) (hk : ∀ (a : Nat) (m' m : List (Option Value)) (s : List Value) (τ : mMem), mLe m' m → k' (a, m', s, τ) → k (a, m, s, τ)) {X : Nat × (Nat → Int32)} : kLen X (pc, l', st, σ) k' → kLen X (pc, l, st, σ) k := by
  unfold kLen; try dsimp only
  split
  · exact fun q => ⟨q.1, hk _ _ _ _ _ hl q.2⟩
  · exact fun q => ⟨q.1, hk _ _ _ _ _ hl q.2⟩
  · exact id
theorem kNewa_l (hl : mLe l' l) (hk : ∀ (a : Nat) (m' m : List (Option Value)) (s : List Value) (τ : mMem), mLe m' m → k' (a, m', s, τ) → k (a, m, s, τ)) {tag : Nat} : kNewa tag (pc, l', st, σ) k' → kNewa tag (pc, l, st, σ) k := by
  unfold kNewa; try dsimp only
  split
  · exact fun q => ⟨q.1, hk _ _ _ _ _ hl q.2⟩
  · exact id
theorem kNew2_l (hl : mLe l' l) (hk : ∀ (a : Nat) (m' m : List (Option Value)) (s : List Value) (τ : mMem), mLe m' m → k' (a, m', s, τ) → k (a, m, s, τ)) : kNew2 (pc, l', st, σ) k' → kNew2 (pc, l, st, σ) k := by
  unfold kNew2; try dsimp only
  split
  · exact fun q => ⟨q.1, hk _ _ _ _ _ hl q.2⟩
  · exact id
theorem kCopy_l (hl : mLe l' l) (hk : ∀ (a : Nat) (m' m : List (Option Value)) (s : List Value) (τ : mMem), mLe m' m → k' (a, m', s, τ) → k (a, m, s, τ)) : kCopy (pc, l', st, σ) k' → kCopy (pc, l, st, σ) k := by
  unfold kCopy; try dsimp only
  split
  · exact fun q => ⟨q.1, q.2.1, q.2.2.1, hk _ _ _ _ _ hl q.2.2.2⟩
  · exact id
theorem kMax_l (hl : mLe l' l) (hk : ∀ (a : Nat) (m' m : List (Option Value)) (s : List Value) (τ : mMem), mLe m' m → k' (a, m', s, τ) → k (a, m, s, τ)) : kMax (pc, l', st, σ) k' → kMax (pc, l, st, σ) k := by
  unfold kMax; try dsimp only
  split
  · exact fun q => ⟨q.1, hk _ _ _ _ _ hl q.2⟩
  · exact id
theorem kMin_l (hl : mLe l' l) (hk : ∀ (a : Nat) (m' m : List (Option Value)) (s : List Value) (τ : mMem), mLe m' m → k' (a, m', s, τ) → k (a, m, s, τ)) : kMin (pc, l', st, σ) k' → kMin (pc, l, st, σ) k := by
  unfold kMin; try dsimp only
  split
  · exact fun q => ⟨q.1, hk _ _ _ _ _ hl q.2⟩
  · exact id
theorem kObj_l (hl : mLe l' l) (hk : ∀ (a : Nat) (m' m : List (Option Value)) (s : List Value) (τ : mMem), mLe m' m → k' (a, m', s, τ) → k (a, m, s, τ)) : kObj (pc, l', st, σ) k' → kObj (pc, l, st, σ) k := by
  unfold kObj; try dsimp only
  split
  · exact fun q => ⟨q.1, hk _ _ _ _ _ hl q.2⟩
  · exact id
theorem kSLen_l (hl : mLe l' l) (hk : ∀ (a : Nat) (m' m : List (Option Value)) (s : List Value) (τ : mMem), mLe m' m → k' (a, m', s, τ) → k (a, m, s, τ)) {Tx : Nat → List Int32} : kSLen Tx (pc, l', st, σ) k' → kSLen Tx (pc, l, st, σ) k := by
  unfold kSLen; try dsimp only
  split
  · exact fun q => ⟨q.1, hk _ _ _ _ _ hl q.2⟩
  · exact id
theorem kSChar_l (hl : mLe l' l) (hk : ∀ (a : Nat) (m' m : List (Option Value)) (s : List Value) (τ : mMem), mLe m' m → k' (a, m', s, τ) → k (a, m, s, τ)) {Tx : Nat → List Int32} : kSChar Tx (pc, l', st, σ) k' → kSChar Tx (pc, l, st, σ) k := by
  unfold kSChar; try dsimp only
  split
  · exact fun q => ⟨q.1, q.2.1, hk _ _ _ _ _ hl q.2.2⟩
  · exact id
theorem kSIdx_l (hl : mLe l' l) (hk : ∀ (a : Nat) (m' m : List (Option Value)) (s : List Value) (τ : mMem), mLe m' m → k' (a, m', s, τ) → k (a, m, s, τ)) {Tx : Nat → List Int32} : kSIdx Tx (pc, l', st, σ) k' → kSIdx Tx (pc, l, st, σ) k := by
  unfold kSIdx; try dsimp only
  split
  · exact fun q => ⟨q.1, q.2.1, hk _ _ _ _ _ hl q.2.2⟩
  · exact id
theorem kCall_l (hl : mLe l' l) (hk : ∀ (a : Nat) (m' m : List (Option Value)) (s : List Value) (τ : mMem), mLe m' m → k' (a, m', s, τ) → k (a, m, s, τ)) {E : mEnv} {mi na : Nat} : kCall E mi na (pc, l', st, σ) k' → kCall E mi na (pc, l, st, σ) k := by
  rintro ⟨as, rest, rv, σ1, h1, h2, h3, h4, h5⟩
  exact ⟨as, rest, rv, σ1, h1, h2, h3, h4, hk _ _ _ _ _ hl h5⟩
theorem kCallV_l (hl : mLe l' l) (hk : ∀ (a : Nat) (m' m : List (Option Value)) (s : List Value) (τ : mMem), mLe m' m → k' (a, m', s, τ) → k (a, m, s, τ)) {E : mEnv} {mi na ci : Nat} : kCallV E mi na ci (pc, l', st, σ) k' → kCallV E mi na ci (pc, l, st, σ) k := by
  rintro ⟨i, as, rest, rv, σ1, h1, h2, h3, h4, h5, h6⟩
  exact ⟨i, as, rest, rv, σ1, h1, h2, h3, h4, h5, hk _ _ _ _ _ hl h6⟩
theorem kPrim_l (hl : mLe l' l) (hk : ∀ (a : Nat) (m' m : List (Option Value)) (s : List Value) (τ : mMem), mLe m' m → k' (a, m', s, τ) → k (a, m, s, τ)) {E : mEnv} {a : Nat} : kPrim E a (pc, l', st, σ) k' → kPrim E a (pc, l, st, σ) k := by
  unfold kPrim
  split
  · exact kCopy_l hl hk
  split
  · exact kMax_l hl hk
  split
  · exact kMin_l hl hk
  split
  · exact kObj_l hl hk
  split
  · exact kSLen_l hl hk
  split
  · exact kSChar_l hl hk
  split
  · exact kSIdx_l hl hk
  · exact id
theorem kInv_l (hl : mLe l' l) (hk : ∀ (a : Nat) (m' m : List (Option Value)) (s : List Value) (τ : mMem), mLe m' m → k' (a, m', s, τ) → k (a, m, s, τ)) {E : mEnv} {nt : List Nat} : kInv E nt (pc, l', st, σ) k' → kInv E nt (pc, l, st, σ) k := by
  unfold kInv; try dsimp only
  split
  · exact kPrim_l hl hk
  · exact kCall_l hl hk
  · exact kCallV_l hl hk
  · exact id
theorem kLdI_l (hl : mLe l' l) (hk : ∀ (a : Nat) (m' m : List (Option Value)) (s : List Value) (τ : mMem), mLe m' m → k' (a, m', s, τ) → k (a, m, s, τ)) {d i : Nat} : kLdI d i (pc, l', st, σ) k' → kLdI d i (pc, l, st, σ) k := by
  unfold kLdI; dsimp only; split
  · next x hx => rw [hl.rd hx]; exact hk _ _ _ _ _ hl
  · exact fun q => q.elim
theorem kLdL_l (hl : mLe l' l) (hk : ∀ (a : Nat) (m' m : List (Option Value)) (s : List Value) (τ : mMem), mLe m' m → k' (a, m', s, τ) → k (a, m, s, τ)) {d i : Nat} : kLdL d i (pc, l', st, σ) k' → kLdL d i (pc, l, st, σ) k := by
  unfold kLdL; dsimp only; split
  · next x hx => rw [hl.rd hx]; exact hk _ _ _ _ _ hl
  · exact fun q => q.elim
theorem kLdA_l (hl : mLe l' l) (hk : ∀ (a : Nat) (m' m : List (Option Value)) (s : List Value) (τ : mMem), mLe m' m → k' (a, m', s, τ) → k (a, m, s, τ)) {d i : Nat} : kLdA d i (pc, l', st, σ) k' → kLdA d i (pc, l, st, σ) k := by
  unfold kLdA; dsimp only; split
  · next x hx => rw [hl.rd hx]; exact hk _ _ _ _ _ hl
  · next x hx => rw [hl.rd hx]; exact hk _ _ _ _ _ hl
  · exact fun q => q.elim
theorem mSt_l (hl : mLe l' l) {j : Nat} (h : Nat.blt j l'.length = true) : Nat.blt j l.length = true := by
  rw [← hl.1]; exact h
theorem kStI_l (hl : mLe l' l) (hk : ∀ (a : Nat) (m' m : List (Option Value)) (s : List Value) (τ : mMem), mLe m' m → k' (a, m', s, τ) → k (a, m, s, τ)) {d i : Nat} : kStI d i (pc, l', st, σ) k' → kStI d i (pc, l, st, σ) k := by
  unfold kStI; dsimp only; split
  · exact fun q => ⟨mSt_l hl q.1, hk _ _ _ _ _ ((hl.clr _).set _ _) q.2⟩
  · exact id
theorem kStL_l (hl : mLe l' l) (hk : ∀ (a : Nat) (m' m : List (Option Value)) (s : List Value) (τ : mMem), mLe m' m → k' (a, m', s, τ) → k (a, m, s, τ)) {d i : Nat} : kStL d i (pc, l', st, σ) k' → kStL d i (pc, l, st, σ) k := by
  unfold kStL; dsimp only; split
  · exact fun q => ⟨mSt_l hl q.1, hk _ _ _ _ _ (((hl.clr _).set _ _).set _ _) q.2⟩
  · exact id
theorem kStA_l (hl : mLe l' l) (hk : ∀ (a : Nat) (m' m : List (Option Value)) (s : List Value) (τ : mMem), mLe m' m → k' (a, m', s, τ) → k (a, m, s, τ)) {d i : Nat} : kStA d i (pc, l', st, σ) k' → kStA d i (pc, l, st, σ) k := by
  unfold kStA; dsimp only; split
  · exact fun q => ⟨mSt_l hl q.1, hk _ _ _ _ _ ((hl.clr _).set _ _) q.2⟩
  · exact id
theorem kInc_l (hl : mLe l' l) (hk : ∀ (a : Nat) (m' m : List (Option Value)) (s : List Value) (τ : mMem), mLe m' m → k' (a, m', s, τ) → k (a, m, s, τ)) {i : Nat} {v : Value} : kInc i v (pc, l', st, σ) k' → kInc i v (pc, l, st, σ) k := by
  unfold kInc; dsimp only; split
  · next x y hx => rw [hl.rd hx]; exact fun q => ⟨mSt_l hl q.1, hk _ _ _ _ _ ((hl.clr _).set _ _) q.2⟩
  · exact fun q => q.elim
theorem mStP_l (hl : mLe l' l) (hk : ∀ (a : Nat) (m' m : List (Option Value)) (s : List Value) (τ : mMem), mLe m' m → k' (a, m', s, τ) → k (a, m, s, τ)) {E : mEnv} {o : mOp} : mStP E o (pc, l', st, σ) k' → mStP E o (pc, l, st, σ) k := by
  unfold mStP
  split <;> first
    | exact hk _ _ _ _ _ hl
    | exact kLdI_l hl hk | exact kLdL_l hl hk | exact kLdA_l hl hk | exact kStI_l hl hk | exact kStL_l hl hk | exact kStA_l hl hk | exact kInc_l hl hk
    | exact kBin_l hl hk | exact kDiv_l hl hk | exact kUn_l hl hk | exact kL2I_l hl hk | exact kBinL_l hl hk | exact kCmpL_l hl hk
    | exact kDup_l hl hk | exact kPop_l hl hk | exact kDup2_l hl hk
    | exact kN1_m (fun _ => kIfC_l hl hk) | exact kN1_m (fun _ => kIfI_l hl hk) | exact kN1_m (fun _ => hk _ _ _ _ _ hl) | exact kNs_m (fun _ _ => kSw_l hl hk)
    | exact kN2_m (fun _ _ => kGet_l hl hk) | exact kN2_m (fun _ _ => kPut_l hl hk)
    | exact kIald_l hl hk | exact kAld_l hl hk | exact kLald_l hl hk | exact kAald_l hl hk | exact kIast_l hl hk | exact kBast_l hl hk | exact kLast_l hl hk | exact kLen_l hl hk
    | exact kN1_m (fun _ => kNewa_l hl hk) | exact kNew2_l hl hk | exact kInv_l hl hk
    | exact id
end Fgt
theorem mRunF.le {cd : Nat → Option mOp} {E : mEnv} {pc : Nat} {st : List Value} {σ : mMem} {l' l : List (Option Value)} (hl : mLe l' l) (h : mRunF cd E (pc, l', st, σ)) : mRunF cd E (pc, l, st, σ) := by
  intro P hP
  have key := h (fun f => ∀ m, mLe f.2.1 m → P (f.1, m, f.2.2)) (fun g hg m hm => by
    obtain ⟨o, hc, hs⟩ := hg
    refine hP _ ⟨o, hc, ?_⟩
    exact mStP_l (pc := g.1) (st := g.2.2.1) (σ := g.2.2.2) hm (fun a m' m9 s τ h9 q => q m9 h9) hs)
  exact key l hl
/-- locals that are not needed go -/
theorem mRunF.forget {cd : Nat → Option mOp} {E : mEnv} {pc : Nat} {st : List Value} {σ : mMem} {l : List (Option Value)} (bs : List Bool) (h : mRunF cd E (pc, mMk bs l, st, σ)) : mRunF cd E (pc, l, st, σ) := mRunF.le (mMk_le bs l) h
/-! depth -/
theorem mStP_c {X : Nat × (Nat → Int32)} {Tx : Nat → List Int32} {c1 c2 : Nat → List Value → mMem → Option Value → mMem → Prop} (h : ∀ a b c d e, c1 a b c d e → c2 a b c d e) {ret : Option FieldType} {r : Option Value} {τ : mMem} {o : mOp} {f : mFr} {k : mFr → Prop} : mStP (X, Tx, c1, ret, r, τ) o f k → mStP (X, Tx, c2, ret, r, τ) o f k := by
  have hi : ∀ nt, kInv (X, Tx, c1, ret, r, τ) nt f k → kInv (X, Tx, c2, ret, r, τ) nt f k := by
    intro nt
    unfold kInv; split
    · exact id
    · rintro ⟨as, rest, rv, σ1, h1, h2, h3, h4, h5⟩
      exact ⟨as, rest, rv, σ1, h1, h2, h3, h _ _ _ _ _ h4, h5⟩
    · rintro ⟨i, as, rest, rv, σ1, h1, h2, h3, h4, h5, h6⟩
      exact ⟨i, as, rest, rv, σ1, h1, h2, h3, h4, h _ _ _ _ _ h5, h6⟩
    · exact id
  unfold mStP
  split <;> first | exact id | exact hi _
theorem mRunF_c {X : Nat × (Nat → Int32)} {Tx : Nat → List Int32} {c1 c2 : Nat → List Value → mMem → Option Value → mMem → Prop} (h : ∀ a b c d e, c1 a b c d e → c2 a b c d e) {ret : Option FieldType} {r : Option Value} {τ : mMem} {cd : Nat → Option mOp} {f : mFr} (hr : mRunF cd (X, Tx, c1, ret, r, τ) f) : mRunF cd (X, Tx, c2, ret, r, τ) f := fun P hP => hr P (fun g hg => by
  obtain ⟨o, hc, hs⟩ := hg
  exact hP g ⟨o, hc, mStP_c h hs⟩)
theorem mMet_1 {P : mPrg} {Tx : Nat → List Int32} : ∀ (d y : Nat) (as : List Value) (σ : mMem) (r : Option Value) (σ' : mMem), mMet P Tx d y as σ r σ' → mMet P Tx (d + 1) y as σ r σ'
  | 0, _, _, _, _, _, h => h.elim
  | d + 1, y, as, σ, r, σ', h => ⟨h.1, mRunF_c (fun a b c e f => mMet_1 d a b c e f) h.2⟩
theorem mMet_up {P : mPrg} {Tx : Nat → List Int32} {d e : Nat} (hd : d ≤ e) {y : Nat} {as : List Value} {σ : mMem} {r : Option Value} {σ' : mMem} (h : mMet P Tx d y as σ r σ') : mMet P Tx e y as σ r σ' := by
  induction hd with
  | refl => exact h
  | step _ ih => exact mMet_1 _ _ _ _ _ _ ih
