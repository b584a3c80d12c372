/-! RULES for runs: rows of simple steps by computation; forgetting locals; depth -/
/-- a simple step: no branch, no call, no check that needs a proof -/
def mQ (o : mOp) (f : mFr) : Option mFr := match o.1 with
  | .iconst _ => some (f.1 + 1, f.2.1, o.2.1 :: f.2.2.1, f.2.2.2)
  | .bipush _ => some (f.1 + 2, f.2.1, o.2.1 :: f.2.2.1, f.2.2.2)
  | .sipush _ => some (f.1 + 3, f.2.1, o.2.1 :: f.2.2.1, f.2.2.2)
  | .lconst _ => some (f.1 + 1, f.2.1, o.2.1 :: f.2.2.1, f.2.2.2)
  | .ldc _ => some (f.1 + 2, f.2.1, o.2.1 :: f.2.2.1, f.2.2.2)
  | .ldc_w _ => some (f.1 + 3, f.2.1, o.2.1 :: f.2.2.1, f.2.2.2)
  | .ldc2_w _ => some (f.1 + 3, f.2.1, o.2.1 :: f.2.2.1, f.2.2.2)
  | .iload i => match f.2.1[i]? with
    | some (some (.int x)) => some (f.1 + 2, f.2.1, .int x :: f.2.2.1, f.2.2.2)
    | _ => none
  | .iload_n i => match f.2.1[i.val]? with
    | some (some (.int x)) => some (f.1 + 1, f.2.1, .int x :: f.2.2.1, f.2.2.2)
    | _ => none
  | .lload i => match f.2.1[i]? with
    | some (some (.long x)) => some (f.1 + 2, f.2.1, .long x :: f.2.2.1, f.2.2.2)
    | _ => none
  | .lload_n i => match f.2.1[i.val]? with
    | some (some (.long x)) => some (f.1 + 1, f.2.1, .long x :: f.2.2.1, f.2.2.2)
    | _ => none
  | .aload i => match f.2.1[i]? with
    | some (some (.ref x)) => some (f.1 + 2, f.2.1, .ref x :: f.2.2.1, f.2.2.2)
    | some (some (.retAddr x)) => some (f.1 + 2, f.2.1, .retAddr x :: f.2.2.1, f.2.2.2)
    | _ => none
  | .aload_n i => match f.2.1[i.val]? with
    | some (some (.ref x)) => some (f.1 + 1, f.2.1, .ref x :: f.2.2.1, f.2.2.2)
    | some (some (.retAddr x)) => some (f.1 + 1, f.2.1, .retAddr x :: f.2.2.1, f.2.2.2)
    | _ => none
  | .istore i => match f.2.2.1 with
    | .int x :: r => bif Nat.blt i f.2.1.length then some (f.1 + 2, (mClr f.2.1 i).set i (some (.int x)), r, f.2.2.2) else none
    | _ => none
  | .istore_n i => match f.2.2.1 with
    | .int x :: r => bif Nat.blt i.val f.2.1.length then some (f.1 + 1, (mClr f.2.1 i.val).set i.val (some (.int x)), r, f.2.2.2) else none
    | _ => none
  | .lstore i => match f.2.2.1 with
    | .long x :: r => bif Nat.blt (i + 1) f.2.1.length then some (f.1 + 2, ((mClr f.2.1 i).set i (some (.long x))).set (i + 1) none, r, f.2.2.2) else none
    | _ => none
  | .lstore_n i => match f.2.2.1 with
    | .long x :: r => bif Nat.blt (i.val + 1) f.2.1.length then some (f.1 + 1, ((mClr f.2.1 i.val).set i.val (some (.long x))).set (i.val + 1) none, r, f.2.2.2) else none
    | _ => none
  | .astore i => match f.2.2.1 with
    | .ref x :: r => bif Nat.blt i f.2.1.length then some (f.1 + 2, (mClr f.2.1 i).set i (some (.ref x)), r, f.2.2.2) else none
    | _ => none
  | .astore_n i => match f.2.2.1 with
    | .ref x :: r => bif Nat.blt i.val f.2.1.length then some (f.1 + 1, (mClr f.2.1 i.val).set i.val (some (.ref x)), r, f.2.2.2) else none
    | _ => none
  | .iinc i _ => match f.2.1[i]?, o.2.1 with
    | some (some (.int x)), .int y => bif Nat.blt i f.2.1.length then some (f.1 + 3, (mClr f.2.1 i).set i (some (.int (x + y))), f.2.2.1, f.2.2.2) else none
    | _, _ => none
  | .iadd => match f.2.2.1 with
    | .int y :: .int x :: r => some (f.1 + 1, f.2.1, .int (x + y) :: r, f.2.2.2)
    | _ => none
  | .isub => match f.2.2.1 with
    | .int y :: .int x :: r => some (f.1 + 1, f.2.1, .int (x - y) :: r, f.2.2.2)
    | _ => none
  | .imul => match f.2.2.1 with
    | .int y :: .int x :: r => some (f.1 + 1, f.2.1, .int (x * y) :: r, f.2.2.2)
    | _ => none
  | .iand => match f.2.2.1 with
    | .int y :: .int x :: r => some (f.1 + 1, f.2.1, .int (x &&& y) :: r, f.2.2.2)
    | _ => none
  | .ior => match f.2.2.1 with
    | .int y :: .int x :: r => some (f.1 + 1, f.2.1, .int (x ||| y) :: r, f.2.2.2)
    | _ => none
  | .ixor => match f.2.2.1 with
    | .int y :: .int x :: r => some (f.1 + 1, f.2.1, .int (x ^^^ y) :: r, f.2.2.2)
    | _ => none
  | .ishl => match f.2.2.1 with
    | .int y :: .int x :: r => some (f.1 + 1, f.2.1, .int (x <<< (y &&& 31)) :: r, f.2.2.2)
    | _ => none
  | .ishr => match f.2.2.1 with
    | .int y :: .int x :: r => some (f.1 + 1, f.2.1, .int (x >>> (y &&& 31)) :: r, f.2.2.2)
    | _ => none
  | .iushr => match f.2.2.1 with
    | .int y :: .int x :: r => some (f.1 + 1, f.2.1, .int (x.toUInt32 >>> (y.toUInt32 &&& Int32.toUInt32 31)).toInt32 :: r, f.2.2.2)
    | _ => none
  | .ineg => match f.2.2.1 with
    | .int x :: r => some (f.1 + 1, f.2.1, .int (-x) :: r, f.2.2.2)
    | _ => none
  | .i2l => match f.2.2.1 with
    | .int x :: r => some (f.1 + 1, f.2.1, .long x.toInt64 :: r, f.2.2.2)
    | _ => none
  | .i2b => match f.2.2.1 with
    | .int x :: r => some (f.1 + 1, f.2.1, .int x.toInt8.toInt32 :: r, f.2.2.2)
    | _ => none
  | .i2c => match f.2.2.1 with
    | .int x :: r => some (f.1 + 1, f.2.1, .int (x.toUInt32 % 65536).toInt32 :: r, f.2.2.2)
    | _ => none
  | .l2i => match f.2.2.1 with
    | .long x :: r => some (f.1 + 1, f.2.1, .int x.toInt32 :: r, f.2.2.2)
    | _ => none
  | .ladd => match f.2.2.1 with
    | .long y :: .long x :: r => some (f.1 + 1, f.2.1, .long (x + y) :: r, f.2.2.2)
    | _ => none
  | .lmul => match f.2.2.1 with
    | .long y :: .long x :: r => some (f.1 + 1, f.2.1, .long (x * y) :: r, f.2.2.2)
    | _ => none
  | .lcmp => match f.2.2.1 with
    | .long y :: .long x :: r => some (f.1 + 1, f.2.1, .int (lg_cmp x y) :: r, f.2.2.2)
    | _ => none
  | .dup => match f.2.2.1 with
    | .int x :: r => some (f.1 + 1, f.2.1, .int x :: .int x :: r, f.2.2.2)
    | .ref x :: r => some (f.1 + 1, f.2.1, .ref x :: .ref x :: r, f.2.2.2)
    | _ => none
  | .pop => match f.2.2.1 with
    | .int _ :: r => some (f.1 + 1, f.2.1, r, f.2.2.2)
    | .ref _ :: r => some (f.1 + 1, f.2.1, r, f.2.2.2)
    | _ => none
  | .dup2 => match f.2.2.1 with
    | .int y :: .ref x :: r => some (f.1 + 1, f.2.1, .int y :: .ref x :: .int y :: .ref x :: r, f.2.2.2)
    | _ => none
  | .goto _ => match o.2.2 with
    | [t] => some (t, f.2)
    | _ => none
  | .getfield _ => match o.2.2, f.2.2.1 with
    | [ci, fi], .ref i :: r => bif Nat.blt i f.2.2.2.1 && Nat.beq (f.2.2.2.2.2.1 i).1 ci then (match mIsR ci fi with
      | true => match f.2.2.2.2.2.2.1 i fi with
        | 0 => none
        | j + 1 => some (f.1 + 3, f.2.1, .ref j :: r, f.2.2.2)
      | false => some (f.1 + 3, f.2.1, .int (f.2.2.2.2.2.2.2.1 i fi) :: r, f.2.2.2)) else none
    | _, _ => none
  | .putfield _ => match o.2.2, f.2.2.1 with
    | [ci, fi], .int x :: .ref i :: r => bif Nat.blt i f.2.2.2.1 && Nat.beq (f.2.2.2.2.2.1 i).1 ci && !(mIsR ci fi) && (match mTy ci fi with | .boolean => decide (x = 0) || decide (x = 1) | _ => true) then some (f.1 + 3, f.2.1, r, mSI f.2.2.2 i fi x) else none
    | _, _ => none
  | .arraylength => match f.2.2.1 with
    | .ref a :: r => bif Nat.blt a f.2.2.2.1 && Nat.blt 19 (f.2.2.2.2.2.1 a).1 && Nat.blt (f.2.2.2.2.2.1 a).1 25 then some (f.1 + 1, f.2.1, .int (Int32.ofNat (f.2.2.2.2.2.1 a).2) :: r, f.2.2.2) else none
    | _ => none
  | _ => none
theorem mCb {b : Bool} {α : Type} {x : Option α} {y : α} (h : (bif b then x else none) = some y) : b = true ∧ x = some y := by
  cases b
  · cases h
  · exact ⟨rfl, h⟩
theorem mQ_s {E : mEnv} {o : mOp} {f g : mFr} {k : mFr → Prop} (h : mQ o f = some g) (hk : k g) : mStP E o f k := by
  obtain ⟨ins, cv, nt⟩ := o
  unfold mQ at h
  unfold mStP
  dsimp only at h ⊢
  split at h
  · cases h; exact hk
  · cases h; exact hk
  · cases h; exact hk
  · cases h; exact hk
  · cases h; exact hk
  · cases h; exact hk
  · cases h; exact hk
  · unfold kLdI; split at h <;> first | (cases h; simp_all; done) | cases h
  · unfold kLdI; split at h <;> first | (cases h; simp_all; done) | cases h
  · unfold kLdL; split at h <;> first | (cases h; simp_all; done) | cases h
  · unfold kLdL; split at h <;> first | (cases h; simp_all; done) | cases h
  · unfold kLdA; split at h <;> first | (cases h; simp_all; done) | cases h
  · unfold kLdA; split at h <;> first | (cases h; simp_all; done) | cases h
  · unfold kStI; split at h
    · next x r hst => obtain ⟨h1, h2⟩ := mCb h; cases h2; rw [hst]; exact ⟨h1, hk⟩
    · cases h
  · unfold kStI; split at h
    · next x r hst => obtain ⟨h1, h2⟩ := mCb h; cases h2; rw [hst]; exact ⟨h1, hk⟩
    · cases h
  · unfold kStL; split at h
    · next x r hst => obtain ⟨h1, h2⟩ := mCb h; cases h2; rw [hst]; exact ⟨h1, hk⟩
    · cases h
  · unfold kStL; split at h
    · next x r hst => obtain ⟨h1, h2⟩ := mCb h; cases h2; rw [hst]; exact ⟨h1, hk⟩
    · cases h
  · unfold kStA; split at h
    · next x r hst => obtain ⟨h1, h2⟩ := mCb h; cases h2; rw [hst]; exact ⟨h1, hk⟩
    · cases h
  · unfold kStA; split at h
    · next x r hst => obtain ⟨h1, h2⟩ := mCb h; cases h2; rw [hst]; exact ⟨h1, hk⟩
    · cases h
  · unfold kInc; split at h
    · next i9 n9 _ _ x y hx => obtain ⟨h1, h2⟩ := mCb h; cases h2; show kInc _ _ f k; unfold kInc; rw [hx]; exact ⟨h1, hk⟩
    · cases h
  · unfold kBin; split at h
    · next y x r hst => cases h; rw [hst]; exact hk
    · cases h
  · unfold kBin; split at h
    · next y x r hst => cases h; rw [hst]; exact hk
    · cases h
  · unfold kBin; split at h
    · next y x r hst => cases h; rw [hst]; exact hk
    · cases h
  · unfold kBin; split at h
    · next y x r hst => cases h; rw [hst]; exact hk
    · cases h
  · unfold kBin; split at h
    · next y x r hst => cases h; rw [hst]; exact hk
    · cases h
  · unfold kBin; split at h
    · next y x r hst => cases h; rw [hst]; exact hk
    · cases h
  · unfold kBin; split at h
    · next y x r hst => cases h; rw [hst]; exact hk
    · cases h
  · unfold kBin; split at h
    · next y x r hst => cases h; rw [hst]; exact hk
    · cases h
  · unfold kBin; split at h
    · next y x r hst => cases h; rw [hst]; exact hk
    · cases h
  · unfold kUn; split at h
    · next x r hst => cases h; rw [hst]; exact hk
    · cases h
  · unfold kUn; split at h
    · next x r hst => cases h; rw [hst]; exact hk
    · cases h
  · unfold kUn; split at h
    · next x r hst => cases h; rw [hst]; exact hk
    · cases h
  · unfold kUn; split at h
    · next x r hst => cases h; rw [hst]; exact hk
    · cases h
  · unfold kL2I; split at h
    · next x r hst => cases h; rw [hst]; exact hk
    · cases h
  · unfold kBinL; split at h
    · next y x r hst => cases h; rw [hst]; exact hk
    · cases h
  · unfold kBinL; split at h
    · next y x r hst => cases h; rw [hst]; exact hk
    · cases h
  · unfold kCmpL; split at h
    · next y x r hst => cases h; rw [hst]; exact hk
    · cases h
  · unfold kDup; split at h
    · next x r hst => cases h; rw [hst]; exact ⟨rfl, hk⟩
    · next x r hst => cases h; rw [hst]; exact ⟨rfl, hk⟩
    · cases h
  · unfold kPop; split at h
    · next x r hst => cases h; rw [hst]; exact ⟨rfl, hk⟩
    · next x r hst => cases h; rw [hst]; exact ⟨rfl, hk⟩
    · cases h
  · unfold kDup2; split at h
    · next y x r hst => cases h; rw [hst]; exact ⟨⟨rfl, rfl⟩, hk⟩
    · cases h
  · split at h
    · cases h; exact hk
    · cases h
  · split at h
    · next ci fi i r hst =>
      obtain ⟨h1, h2⟩ := mCb h
      show kGet ci fi f k
      unfold kGet
      rw [hst]
      refine ⟨h1, ?_⟩
      split at h2
      · next hr =>
        rw [hr]
        split at h2
        · cases h2
        · next j hj => cases h2; dsimp only; rw [hj]; exact hk
      · next hr => rw [hr]; cases h2; exact hk
    · cases h
  · split at h
    · next ci fi x i r hst =>
      obtain ⟨h1, h2⟩ := mCb h
      obtain ⟨h1, h3⟩ := pt_bl h1
      show kPut ci fi f k
      unfold kPut
      rw [hst]
      cases h2
      refine ⟨h1, fun hb => ?_, hk⟩
      rw [hb] at h3
      simpa using h3
    · cases h
  · unfold kLen; split at h
    · next a r hst => obtain ⟨h1, h2⟩ := mCb h; cases h2; rw [hst]; exact ⟨h1, hk⟩
    · cases h
  · cases h
/-- where a simple step goes on -/
def mNx (o : mOp) (pc : Nat) : Nat := match o.1, o.2.2 with
  | .goto _, [t] => t
  | i, _ => pc + mLen i
theorem mQ_nx {o : mOp} {f g : mFr} (h : mQ o f = some g) : g.1 = mNx o f.1 := by
  obtain ⟨ins, cv, nt⟩ := o
  unfold mQ at h
  dsimp only at h
  split at h
  all_goals first
    | (cases h; rfl)
    | (cases h; done)
    | (split at h <;> first | (cases h; rfl) | (obtain ⟨h1, h2⟩ := mCb h; cases h2; rfl) | cases h)
    | (split at h
       · obtain ⟨h1, h2⟩ := mCb h
         split at h2
         · split at h2
           · cases h2
           · cases h2; rfl
         · cases h2; rfl
       · cases h)
def mSeg : List mOp → mFr → Option mFr
  | [], f => some f
  | o :: r, f => match mQ o f with
    | some g => mSeg r g
    | none => none
def mSegB (cd : Nat → Option mOp) : Nat → List mOp → Bool
  | _, [] => true
  | pc, o :: r => decide (cd pc = some o) && mSegB cd (mNx o pc) r
theorem mRunF.seg {cd : Nat → Option mOp} {E : mEnv} : ∀ (ops : List mOp) {f g : mFr}, mSegB cd f.1 ops = true → mSeg ops f = some g → mRunF cd E g → mRunF cd E f
  | [], f, g, _, h, hk => by
    cases h
    exact hk
  | o :: r, f, g, hc, h, hk => by
    obtain ⟨c1, c2⟩ := pt_bl hc
    have c1 := of_decide_eq_true c1
    unfold mSeg at h
    split at h
    · next z hz =>
      rw [← mQ_nx hz] at c2
      exact mRunF.one c1 (mQ_s hz (mRunF.seg r c2 h hk))
    · cases h
/-- instructions of a table, by their places -/
def mSl (l : List (Nat × mOp)) (i n : Nat) : List mOp := ((l.drop i).take n).map (fun e => e.2)
