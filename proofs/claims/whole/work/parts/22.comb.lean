/-! COMBINATORS -/
theorem mRunF.sg {cd : Nat → Option mOp} {E : mEnv} {pc : Nat} {ls : List (Option Value)} {st : List Value} {σ : mMem} {g : mFr} (ops : List mOp) (hc : mSegB cd pc ops = true) (h : mSeg ops (pc, ls, st, σ) = some g) (hk : mRunF cd E g) : mRunF cd E (pc, ls, st, σ) := mRunF.seg ops hc h hk
theorem mMet_i {P : mPrg} {Tx : Nat → List Int32} {d y : Nat} {as : List Value} {σ : mMem} {r : Option Value} {σ' : mMem} (h : σ.1 ≤ σ'.1 ∧ σ.2.1 ≤ σ'.2.1 ∧ (mEnt as).length ≤ P.2.2.1 y) (hr : mRunF (P.2.2.2.2 y) ((0, fun _ => 0), Tx, mMet P Tx d, P.2.2.2.1 y, r, σ') (0, mEnt as ++ List.replicate (P.2.2.1 y - (mEnt as).length) none, [], σ)) : mMet P Tx (d + 1) y as σ r σ' := ⟨h, hr⟩
theorem sw_out {x : Int32} (lo n : Nat) (h1 : lo + n < 2147483648) (hn : 0 < n) (h : ∀ j, j < n → ¬ x = Int32.ofNat (lo + j)) : x.toInt < (lo : Int) ∨ ((lo + n - 1 : Nat) : Int) < x.toInt := by
  rcases Int.lt_or_le x.toInt lo with q | q
  · exact Or.inl q
  · rcases Int.lt_or_le ((lo + n - 1 : Nat) : Int) x.toInt with p | p
    · exact Or.inr p
    · exfalso
      refine h (x.toInt.toNat - lo) (by omega) ?_
      rw [show lo + (x.toInt.toNat - lo) = x.toInt.toNat by omega]
      have h2 : (Int32.ofNat x.toInt.toNat).toInt = x.toInt := by
        have := nI_toInt (n := x.toInt.toNat) (by omega)
        unfold nI at this
        rw [this]; omega
      exact (Int32.toInt_inj.mp h2).symm
/-- booleans are 0 or 1 -/
theorem mStP_b {E : mEnv} {o : mOp} {f : mFr} {B : Prop} (hB : ∀ v, E.2.2.2.1 = some .boolean → E.2.2.2.2.1 = some (.int v) → (v = 0 ∨ v = 1) → B) (hr : E.2.2.2.1 = some .boolean) (h : mStP E o f (fun _ => B)) : B := by
  have h1 : ∀ (g : Int32 → Prop) (a b : Nat), kIf1 g a b f (fun _ => B) → B := by
    intro g a b h
    unfold kIf1 at h
    split at h
    · next x r hx => rcases Classical.em (g x) with q | q
                     · exact h.1 q
                     · exact h.2 q
    · exact h.elim
  have h2 : ∀ (g : Int32 → Int32 → Prop) (a b : Nat), kIf2 g a b f (fun _ => B) → B := by
    intro g a b h
    unfold kIf2 at h
    split at h
    · next y x r hx => rcases Classical.em (g x y) with q | q
                       · exact h.1 q
                       · exact h.2 q
    · exact h.elim
  have h3 : ∀ (kd : Nat → Bool), kAld kd f (fun _ => B) → B := by
    intro kd h
    unfold kAld at h; split at h
    · exact h.2.2
    · exact h.elim
  obtain ⟨ins, cv, nt⟩ := o
  unfold mStP at h
  dsimp only at h
  split at h
  all_goals first
    | exact h
    | (unfold kLdI at h; split at h <;> first | exact h | exact h.elim)
    | (unfold kLdL at h; split at h <;> first | exact h | exact h.elim)
    | (unfold kLdA at h; split at h <;> first | exact h | exact h.elim)
    | (unfold kStI at h; split at h <;> first | exact h.2 | exact h.elim)
    | (unfold kStL at h; split at h <;> first | exact h.2 | exact h.elim)
    | (unfold kStA at h; split at h <;> first | exact h.2 | exact h.elim)
    | (unfold kInc at h; split at h <;> first | exact h.2 | exact h.elim)
    | (unfold kBin at h; split at h <;> first | exact h | exact h.elim)
    | (unfold kDiv at h; split at h <;> first | exact h.2 | exact h.elim)
    | (unfold kUn at h; split at h <;> first | exact h | exact h.elim)
    | (unfold kL2I at h; split at h <;> first | exact h | exact h.elim)
    | (unfold kBinL at h; split at h <;> first | exact h | exact h.elim)
    | (unfold kCmpL at h; split at h <;> first | exact h | exact h.elim)
    | (unfold kDup at h; split at h <;> first | exact h.2 | exact h.elim)
    | (unfold kPop at h; split at h <;> first | exact h.2 | exact h.elim)
    | (unfold kDup2 at h; split at h <;> first | exact h.2 | exact h.elim)
    | (unfold kN1 at h; split at h <;> first | (unfold kIfC at h; split at h <;> exact h1 _ _ _ h) | (unfold kIfI at h; split at h <;> exact h2 _ _ _ h) | exact h | (unfold kNewa at h; split at h <;> first | exact h.2 | exact h.elim) | exact h.elim)
    | (unfold kNs at h
       split at h
       · unfold kSw at h
         split at h
         · next x r hx => rcases Classical.em (x.toInt < _ ∨ _ < x.toInt) with q | q
                          · exact h.1 q
                          · obtain ⟨t, -, h⟩ := h.2 q
                            exact h
         · exact h.elim
       · exact h.elim)
    | (unfold kN2 at h
       split at h
       · unfold kGet at h
         split at h
         · have h := h.2
           split at h
           · split at h
             · exact h.elim
             · exact h
           · exact h
         · exact h.elim
       · exact h.elim)
    | (unfold kN2 at h
       split at h
       · unfold kPut at h
         split at h
         · exact h.2.2
         · exact h.2
         · exact h.elim
       · exact h.elim)
    | (unfold kIald at h; split at h <;> first | exact h.2 | exact h3 _ h)
    | exact h3 _ h
    | (unfold kLald at h; split at h <;> first | exact h.2.2 | exact h.elim)
    | (unfold kAald at h; split at h <;> first | (have h := h.2.2; split at h <;> first | exact h | exact h.elim) | exact h.elim)
    | (unfold kIast at h; split at h <;> first | exact h.2.2 | exact h.elim)
    | (unfold kBast at h; split at h <;> first | (have h := h.2.2; split at h <;> first | exact h | exact h.elim) | exact h.elim)
    | (unfold kLast at h; split at h <;> first | exact h.2.2 | exact h.elim)
    | (unfold kLen at h; split at h <;> first | exact h.2 | exact h.elim)
    | (unfold kNew2 at h; split at h <;> first | exact h.2 | exact h.elim)
    | (unfold kInv at h
       split at h
       · unfold kPrim at h
         split at h
         · unfold kCopy at h; split at h <;> first | exact h.2.2.2 | exact h.elim
         split at h
         · unfold kMax at h; split at h <;> first | exact h.2 | exact h.elim
         split at h
         · unfold kMin at h; split at h <;> first | exact h.2 | exact h.elim
         split at h
         · unfold kObj at h; split at h <;> first | exact h.2 | exact h.elim
         split at h
         · unfold kSLen at h; split at h <;> first | exact h.2 | exact h.elim
         split at h
         · unfold kSChar at h; split at h <;> first | exact h.2.2 | exact h.elim
         split at h
         · unfold kSIdx at h; split at h <;> first | exact h.2.2 | exact h.elim
         · exact h.elim
       · obtain ⟨as, rest, rv, σ1, q1, q2, q3, q4, q5⟩ := h
         exact q5
       · obtain ⟨i, as, rest, rv, σ1, q1, q2, q3, q4, q5, q6⟩ := h
         exact q6
       · exact h.elim)
    | (rw [hr] at h; cases h.2.1)
    | (obtain ⟨v, q1, q2, q3, q4⟩ := h
       rcases q2 with q2 | ⟨q2, q5⟩
       · rw [hr] at q2; cases q2
       · exact hB v q2 q3 q5)
    | (obtain ⟨v, q1, q2, q3, q4⟩ := h
       rw [hr] at q2; cases q2)
    | exact h.elim
theorem mBool {P : mPrg} {Tx : Nat → List Int32} {d y : Nat} {as : List Value} {σ : mMem} {r : Int32} {σ' : mMem} (hr : P.2.2.2.1 y = some .boolean) (h : mMet P Tx d y as σ (some (.int r)) σ') : r = 0 ∨ r = 1 := by
  cases d with
  | zero => exact h.elim
  | succ d => exact h.2 (fun _ => r = 0 ∨ r = 1) (fun g hg => by
      obtain ⟨o, -, hs⟩ := hg
      exact mStP_b (fun v e1 e2 e3 => by cases e2; exact e3) hr hs)
