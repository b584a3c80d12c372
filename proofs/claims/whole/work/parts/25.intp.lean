/-! AN INTERPRETER of the abstract machine, for what runs on known values; memory as what was done to it, the newest first -/
abbrev iOp : Type := Nat × Nat × Nat × Nat × Nat × Nat × Int32 × Int64
def iDo (o : iOp) (σ : mMem) : mMem := match o.1 with
  | 0 => mNew σ o.2.1 o.2.2.1 o.2.2.2.1
  | 1 => mSI σ o.2.1 o.2.2.1 o.2.2.2.2.2.2.1
  | 2 => mSL σ o.2.1 o.2.2.1 o.2.2.2.2.2.2.2
  | 3 => mSR σ o.2.1 o.2.2.1 o.2.2.2.1
  | 4 => mSW σ o.2.1 (va_cpy (σ.2.2.2.2.1 o.2.2.1) (σ.2.2.2.2.1 o.2.1) o.2.2.2.1 o.2.2.2.2.1 o.2.2.2.2.2.1)
  | _ => mNew2 σ o.2.1 o.2.2.1
def iS0 : mMem := (0, 0, fun _ => (0, 0), fun _ _ => 0, fun _ _ => 0, fun _ _ => 0)
def iMem : List iOp → mMem
  | [] => iS0
  | o :: l => iDo o (iMem l)
abbrev iFr : Type := Nat × List (Option Value) × List Value × List iOp
def iF (f : iFr) : mFr := (f.1, f.2.1, f.2.2.1, iMem f.2.2.2)
def iCt (r : List Value) : Bool := Nat.ble ((r.map fun v => v.category).sum) 8
def iPrim (a : Nat) (f : iFr) : Option iFr :=
  if a = 9001 then (match f.2.2.1 with
    | .int n :: .int dp :: .ref a1 :: .int sp :: .ref a0 :: r => bif (Nat.blt a0 (iMem f.2.2.2).1 && Nat.blt a1 (iMem f.2.2.2).1 && Nat.beq ((iMem f.2.2.2).2.2.1 a0).1 20 && Nat.beq ((iMem f.2.2.2).2.2.1 a1).1 20) && (iCt r && (!(decide (sp < 0)) && !(decide (dp < 0)) && !(decide (n < 0)) && Nat.ble (sp.toNatClampNeg + n.toNatClampNeg) ((iMem f.2.2.2).2.2.1 a0).2 && Nat.ble (dp.toNatClampNeg + n.toNatClampNeg) ((iMem f.2.2.2).2.2.1 a1).2)) then some (f.1 + 3, f.2.1, r, (4, a1, a0, sp.toNatClampNeg, dp.toNatClampNeg, n.toNatClampNeg, 0, 0) :: f.2.2.2) else none
    | _ => none)
  else if a = 9002 then (match f.2.2.1 with
    | .int y :: .int x :: r => bif iCt r then some (f.1 + 3, f.2.1, .int (if x < y then y else x) :: r, f.2.2.2) else none
    | _ => none)
  else if a = 9003 then (match f.2.2.1 with
    | .int y :: .int x :: r => bif iCt r then some (f.1 + 3, f.2.1, .int (if y < x then y else x) :: r, f.2.2.2) else none
    | _ => none)
  else if a = 9004 then (match f.2.2.1 with
    | .ref _ :: r => bif iCt r then some (f.1 + 3, f.2.1, r, f.2.2.2) else none
    | _ => none)
  else if a = 9005 then (match f.2.2.1 with
    | .retAddr (j + 1) :: r => bif iCt r && Nat.blt j 2 then some (f.1 + 3, f.2.1, .int (Int32.ofNat (mTx j).length) :: r, f.2.2.2) else none
    | _ => none)
  else if a = 9006 then (match f.2.2.1 with
    | .int i :: .retAddr (j + 1) :: r => bif iCt r && mIn i (mTx j).length then some (f.1 + 3, f.2.1, .int ((mTx j).getD i.toNatClampNeg 0) :: r, f.2.2.2) else none
    | _ => none)
  else none
theorem iPrim_s {E : mEnv} {a : Nat} {f g : iFr} {k : mFr → Prop} (hT : E.2.1 = mTx) (h : iPrim a f = some g) (hk : k (iF g)) : kPrim E a (iF f) k := by
  unfold iPrim at h
  unfold kPrim
  split at h
  · next e =>
    rw [if_pos e]
    split at h
    · next n dp a1 sp a0 r hst =>
      obtain ⟨h1, h2⟩ := mCb h
      obtain ⟨h1, h3⟩ := pt_bl h1
      obtain ⟨h3, h4⟩ := pt_bl h3
      cases h2
      unfold kCopy
      rw [show (iF f).2.2.1 = f.2.2.1 from rfl, hst]
      exact ⟨h1, Nat.le_of_ble_eq_true h3, h4, hk⟩
    · cases h
  · next e =>
    rw [if_neg e]
    split at h
    · next e =>
      rw [if_pos e]
      split at h
      · next y x r hst =>
        obtain ⟨h1, h2⟩ := mCb h
        cases h2
        unfold kMax
        rw [show (iF f).2.2.1 = f.2.2.1 from rfl, hst]
        exact ⟨Nat.le_of_ble_eq_true h1, hk⟩
      · cases h
    · next e =>
      rw [if_neg e]
      split at h
      · next e =>
        rw [if_pos e]
        split at h
        · next y x r hst =>
          obtain ⟨h1, h2⟩ := mCb h
          cases h2
          unfold kMin
          rw [show (iF f).2.2.1 = f.2.2.1 from rfl, hst]
          exact ⟨Nat.le_of_ble_eq_true h1, hk⟩
        · cases h
      · next e =>
        rw [if_neg e]
        split at h
        · next e =>
          rw [if_pos e]
          split at h
          · next y r hst =>
            obtain ⟨h1, h2⟩ := mCb h
            cases h2
            unfold kObj
            rw [show (iF f).2.2.1 = f.2.2.1 from rfl, hst]
            exact ⟨Nat.le_of_ble_eq_true h1, hk⟩
          · cases h
        · next e =>
          rw [if_neg e]
          split at h
          · next e =>
            rw [if_pos e]
            split at h
            · next j r hst =>
              obtain ⟨h1, h2⟩ := mCb h
              obtain ⟨h1, h3⟩ := pt_bl h1
              cases h2
              unfold kSLen
              rw [show (iF f).2.2.1 = f.2.2.1 from rfl, hst, hT]
              exact ⟨⟨Nat.le_of_ble_eq_true h1, h3⟩, hk⟩
            · cases h
          · next e =>
            rw [if_neg e]
            split at h
            · next e =>
              rw [if_pos e]
              split at h
              · next i j r hst =>
                obtain ⟨h1, h2⟩ := mCb h
                obtain ⟨h1, h3⟩ := pt_bl h1
                cases h2
                unfold kSChar
                rw [show (iF f).2.2.1 = f.2.2.1 from rfl, hst, hT]
                exact ⟨Nat.le_of_ble_eq_true h1, h3, hk⟩
              · cases h
            · cases h
def iCmp (c : ClassFile.Cond) (x y : Int32) : Bool := match c with
  | .eq => decide (x = y)
  | .ne => !(decide (x = y))
  | .lt => decide (x < y)
  | .ge => decide (y ≤ x)
  | .gt => decide (y < x)
  | .le => decide (x ≤ y)
def iQ (o : mOp) (f : iFr) : Option iFr := match o.1 with
  | .putfield _ => (match o.2.2, f.2.2.1 with
    | [ci, fi], .int x :: .ref i :: r => bif (Nat.blt i (iMem f.2.2.2).1 && Nat.beq ((iMem f.2.2.2).2.2.1 i).1 ci && !(mIsR ci fi)) && (match mTy ci fi with | .boolean => decide (x = 0) || decide (x = 1) | _ => true) then some (f.1 + 3, f.2.1, r, (1, i, fi, 0, 0, 0, x, 0) :: f.2.2.2) else none
    | [ci, fi], .ref j :: .ref i :: r => bif (Nat.blt i (iMem f.2.2.2).1 && Nat.beq ((iMem f.2.2.2).2.2.1 i).1 ci && mIsR ci fi) then some (f.1 + 3, f.2.1, r, (3, i, fi, j + 1, 0, 0, 0, 0) :: f.2.2.2) else none
    | _, _ => none)
  | .iastore => (match f.2.2.1 with
    | .int x :: .int i :: .ref a :: r => bif (Nat.blt a (iMem f.2.2.2).1 && Nat.beq ((iMem f.2.2.2).2.2.1 a).1 20) && mIn i ((iMem f.2.2.2).2.2.1 a).2 then some (f.1 + 1, f.2.1, r, (1, a, i.toNatClampNeg, 0, 0, 0, x, 0) :: f.2.2.2) else none
    | _ => none)
  | .lastore => (match f.2.2.1 with
    | .long x :: .int i :: .ref a :: r => bif (Nat.blt a (iMem f.2.2.2).1 && Nat.beq ((iMem f.2.2.2).2.2.1 a).1 23) && mIn i ((iMem f.2.2.2).2.2.1 a).2 then some (f.1 + 1, f.2.1, r, (2, a, i.toNatClampNeg, 0, 0, 0, 0, x) :: f.2.2.2) else none
    | _ => none)
  | .iaload => (match f.2.2.1 with
    | .int i :: .ref a :: r => bif (Nat.blt a (iMem f.2.2.2).1 && Nat.beq ((iMem f.2.2.2).2.2.1 a).1 20) && mIn i ((iMem f.2.2.2).2.2.1 a).2 then some (f.1 + 1, f.2.1, .int ((iMem f.2.2.2).2.2.2.2.1 a i.toNatClampNeg) :: r, f.2.2.2) else none
    | _ => none)
  | .new _ => (match o.2.2 with
    | [ci] => some (f.1 + 3, f.2.1, .ref (iMem f.2.2.2).1 :: f.2.2.1, (0, ci, 0, mNF ci, 0, 0, 0, 0) :: f.2.2.2)
    | _ => none)
  | .newarray _ => (match o.2.2, f.2.2.1 with
    | [tag], .int n :: r => bif (!(decide (n < 0)) && Nat.blt n.toNatClampNeg 100000) then some (f.1 + 2, f.2.1, .ref (iMem f.2.2.2).1 :: r, (0, 20 + tag, n.toNatClampNeg, n.toNatClampNeg, 0, 0, 0, 0) :: f.2.2.2) else none
    | _, _ => none)
  | .multianewarray _ _ => (match f.2.2.1 with
    | .int w :: .int n :: r => bif (!(decide (n < 0)) && Nat.blt n.toNatClampNeg 1000 && !(decide (w < 0)) && Nat.blt w.toNatClampNeg 1000) then some (f.1 + 4, f.2.1, .ref (iMem f.2.2.2).1 :: r, (5, n.toNatClampNeg, w.toNatClampNeg, 0, 0, 0, 0, 0) :: f.2.2.2) else none
    | _ => none)
  | .ifCond c _ => (match o.2.2, f.2.2.1 with
    | [t], .int x :: r => some (bif iCmp c x 0 then t else f.1 + 3, f.2.1, r, f.2.2.2)
    | _, _ => none)
  | .if_icmp c _ => (match o.2.2, f.2.2.1 with
    | [t], .int y :: .int x :: r => some (bif iCmp c x y then t else f.1 + 3, f.2.1, r, f.2.2.2)
    | _, _ => none)
  | .idiv => (match f.2.2.1 with
    | .int y :: .int x :: r => bif !(decide (y = 0)) then some (f.1 + 1, f.2.1, .int (x / y) :: r, f.2.2.2) else none
    | _ => none)
  | .irem => (match f.2.2.1 with
    | .int y :: .int x :: r => bif !(decide (y = 0)) then some (f.1 + 1, f.2.1, .int (x - x / y * y) :: r, f.2.2.2) else none
    | _ => none)
  | .invokevirtual _ => (match o.2.2 with
    | [a] => iPrim a f
    | _ => none)
  | .invokespecial _ => (match o.2.2 with
    | [a] => iPrim a f
    | _ => none)
  | .invokestatic _ => (match o.2.2 with
    | [a] => iPrim a f
    | _ => none)
  | _ => match mQ o (iF f) with
    | some g => some (g.1, g.2.1, g.2.2.1, f.2.2.2)
    | none => none
/-- a simple step but for a field leaves the memory -/
theorem mQ_mem {o : mOp} {f g : mFr} (hp : ∀ k, o.1 ≠ .putfield k) (h : mQ o f = some g) : g.2.2.2 = f.2.2.2 := by
  obtain ⟨ins, cv, nt⟩ := o
  unfold mQ at h
  dsimp only at h hp
  split at h
  all_goals first
    | (cases h; rfl)
    | (cases h; done)
    | (split at h <;> first | (cases h; rfl) | (obtain ⟨h1, h2⟩ := mCb h; cases h2; rfl) | cases h)
    | (split at h
       · obtain ⟨h1, h2⟩ := mCb h
         split at h2
         · split at h2
           · cases h2
           · cases h2; rfl
         · cases h2; rfl
       · cases h)
    | exact absurd rfl (hp _)
theorem iIf_s {c : ClassFile.Cond} {t : Nat} {x : Int32} {r : List Value} {f : iFr} {k : mFr → Prop} (hst : f.2.2.1 = .int x :: r) (hk : k (iF (bif iCmp c x 0 then t else f.1 + 3, f.2.1, r, f.2.2.2))) : kIfC c t (iF f) k := by
  have hs : (iF f).2.2.1 = .int x :: r := hst
  cases c <;> (
    unfold kIfC kIf1
    dsimp only
    rw [hs]
    unfold iCmp at hk
    dsimp only at hk ⊢
    refine ⟨fun q => ?_, fun q => ?_⟩
    · simp only [q, decide_true, decide_false, Bool.not_true, Bool.not_false, cond_true, cond_false] at hk; exact hk
    · simp only [q, decide_true, decide_false, Bool.not_true, Bool.not_false, cond_true, cond_false] at hk; exact hk)
theorem iIf2_s {c : ClassFile.Cond} {t : Nat} {x y : Int32} {r : List Value} {f : iFr} {k : mFr → Prop} (hst : f.2.2.1 = .int y :: .int x :: r) (hk : k (iF (bif iCmp c x y then t else f.1 + 3, f.2.1, r, f.2.2.2))) : kIfI c t (iF f) k := by
  have hs : (iF f).2.2.1 = .int y :: .int x :: r := hst
  cases c <;> (
    unfold kIfI kIf2
    dsimp only
    rw [hs]
    unfold iCmp at hk
    dsimp only at hk ⊢
    refine ⟨fun q => ?_, fun q => ?_⟩
    · simp only [q, decide_true, decide_false, Bool.not_true, Bool.not_false, cond_true, cond_false] at hk; exact hk
    · simp only [q, decide_true, decide_false, Bool.not_true, Bool.not_false, cond_true, cond_false] at hk; exact hk)
theorem iQ_s {E : mEnv} {o : mOp} {f g : iFr} {k : mFr → Prop} (hT : E.2.1 = mTx) (h : iQ o f = some g) (hk : k (iF g)) : mStP E o (iF f) k := by
  have hs : (iF f).2.2.1 = f.2.2.1 := rfl
  unfold iQ at h
  split at h
  · next fi hop =>
    unfold mStP
    rw [hop]
    dsimp only
    split at h
    · next ci fi x i r h22 hst =>
      obtain ⟨h1, h2⟩ := mCb h
      obtain ⟨h1, h3⟩ := pt_bl h1
      cases h2
      rw [h22]
      show kPut ci fi (iF f) k
      unfold kPut
      rw [hs, hst]
      refine ⟨h1, fun hb => ?_, hk⟩
      rw [hb] at h3
      simpa using h3
    · next ci fi j i r h22 hst =>
      obtain ⟨h1, h2⟩ := mCb h
      cases h2
      rw [h22]
      show kPut ci fi (iF f) k
      unfold kPut
      rw [hs, hst]
      exact ⟨h1, hk⟩
    · cases h
  · next hop =>
    unfold mStP
    rw [hop]
    dsimp only
    split at h
    · next x i a r hst =>
      obtain ⟨h1, h2⟩ := mCb h
      obtain ⟨h1, h3⟩ := pt_bl h1
      cases h2
      unfold kIast
      rw [hs, hst]
      exact ⟨h1, h3, hk⟩
    · cases h
  · next hop =>
    unfold mStP
    rw [hop]
    dsimp only
    split at h
    · next x i a r hst =>
      obtain ⟨h1, h2⟩ := mCb h
      obtain ⟨h1, h3⟩ := pt_bl h1
      cases h2
      unfold kLast
      rw [hs, hst]
      exact ⟨h1, h3, hk⟩
    · cases h
  · next hop =>
    unfold mStP
    rw [hop]
    dsimp only
    split at h
    · next i a r hst =>
      obtain ⟨h1, h2⟩ := mCb h
      obtain ⟨h1, h3⟩ := pt_bl h1
      cases h2
      unfold kIald
      rw [hs, hst]
      dsimp only
      unfold kAld
      rw [hs, hst]
      exact ⟨h1, h3, hk⟩
    · cases h
  · next hop =>
    unfold mStP
    rw [hop]
    dsimp only
    split at h
    · next ci h22 =>
      cases h
      rw [h22]
      exact hk
    · cases h
  · next hop =>
    unfold mStP
    rw [hop]
    dsimp only
    split at h
    · next tag n r h22 hst =>
      obtain ⟨h1, h2⟩ := mCb h
      cases h2
      rw [h22]
      show kNewa tag (iF f) k
      unfold kNewa
      rw [hs, hst]
      exact ⟨h1, hk⟩
    · cases h
  · next hop =>
    unfold mStP
    rw [hop]
    dsimp only
    split at h
    · next w n r hst =>
      obtain ⟨h1, h2⟩ := mCb h
      cases h2
      unfold kNew2
      rw [hs, hst]
      exact ⟨h1, hk⟩
    · cases h
  · next hop =>
    unfold mStP
    rw [hop]
    dsimp only
    split at h
    · next t x r h22 hst =>
      cases h
      rw [h22]
      exact iIf_s hst hk
    · cases h
  · next hop =>
    unfold mStP
    rw [hop]
    dsimp only
    split at h
    · next t y x r h22 hst =>
      cases h
      rw [h22]
      exact iIf2_s hst hk
    · cases h
  · next hop =>
    unfold mStP
    rw [hop]
    dsimp only
    split at h
    · next y x r hst =>
      obtain ⟨h1, h2⟩ := mCb h
      cases h2
      unfold kDiv
      rw [hs, hst]
      exact ⟨by simpa using h1, hk⟩
    · cases h
  · next hop =>
    unfold mStP
    rw [hop]
    dsimp only
    split at h
    · next y x r hst =>
      obtain ⟨h1, h2⟩ := mCb h
      cases h2
      unfold kDiv
      rw [hs, hst]
      exact ⟨by simpa using h1, hk⟩
    · cases h
  · next hop =>
    unfold mStP
    rw [hop]
    dsimp only
    split at h
    · next a h22 =>
      rw [h22]
      exact iPrim_s hT h hk
    · cases h
  · next hop =>
    unfold mStP
    rw [hop]
    dsimp only
    split at h
    · next a h22 =>
      rw [h22]
      exact iPrim_s hT h hk
    · cases h
  · next hop =>
    unfold mStP
    rw [hop]
    dsimp only
    split at h
    · next a h22 =>
      rw [h22]
      exact iPrim_s hT h hk
    · cases h
  · next hp _ _ _ _ _ _ _ _ _ _ _ _ _ =>
    split at h
    · next g0 hg =>
      cases h
      have hm := mQ_mem (fun k q => hp k q) hg
      refine mQ_s hg ?_
      have e : g0 = iF (g0.1, g0.2.1, g0.2.2.1, f.2.2.2) := by
        show g0 = (g0.1, g0.2.1, g0.2.2.1, iMem f.2.2.2)
        have : g0.2.2.2 = iMem f.2.2.2 := hm
        rw [← this]
      rw [e]; exact hk
    · cases h
/-! runs -/
/-- a call: of which method, with what, what stays -/
def iCall (o : mOp) (f : iFr) : Option (Nat × List Value × List Value) := match o.1 with
  | .invokestatic _ => (match o.2.2 with
    | [mi, na] => bif Nat.ble na f.2.2.1.length && iCt (f.2.2.1.drop na) then some (mi, (f.2.2.1.take na).reverse, f.2.2.1.drop na) else none
    | _ => none)
  | .invokevirtual _ => (match o.2.2 with
    | [mi, na, ci] => (match f.2.2.1.drop (na - 1) with
      | .ref i :: r => bif Nat.ble na f.2.2.1.length && Nat.ble 1 na && (Nat.blt i (iMem f.2.2.2).1 && Nat.beq ((iMem f.2.2.2).2.2.1 i).1 ci) && iCt r then some (mi, .ref i :: (f.2.2.1.take (na - 1)).reverse, r) else none
      | _ => none)
    | _ => none)
  | .invokespecial _ => (match o.2.2 with
    | [mi, na, ci] => (match f.2.2.1.drop (na - 1) with
      | .ref i :: r => bif Nat.ble na f.2.2.1.length && Nat.ble 1 na && (Nat.blt i (iMem f.2.2.2).1 && Nat.beq ((iMem f.2.2.2).2.2.1 i).1 ci) && iCt r then some (mi, .ref i :: (f.2.2.1.take (na - 1)).reverse, r) else none
      | _ => none)
    | _ => none)
  | _ => none
def iRet (ret : Option FieldType) (o : mOp) (f : iFr) : Option (Option Value) := match o.1 with
  | .return_ => (match ret, f.2.2.1 with
    | none, [] => some none
    | _, _ => none)
  | .ireturn => (match ret, f.2.2.1 with
    | some .int, [.int v] => some (some (.int v))
    | some .boolean, [.int v] => bif decide (v = 0) || decide (v = 1) then some (some (.int v)) else none
    | _, _ => none)
  | .lreturn => (match ret, f.2.2.1 with
    | some .long, [.long v] => some (some (.long v))
    | _, _ => none)
  | _ => none
def iRun (P : mPrg) : Nat → Nat → Nat → iFr → Option (Option Value × List iOp)
  | 0, _, _, _ => none
  | n + 1, d, y, f => match P.2.2.2.2 y f.1 with
    | none => none
    | some o => match iRet (P.2.2.2.1 y) o f with
      | some r => some (r, f.2.2.2)
      | none => match iCall o f with
        | some (mi, as, rest) => (match d with
          | 0 => none
          | d' + 1 => match iRun P n d' mi (0, mEnt as ++ List.replicate (P.2.2.1 mi - (mEnt as).length) none, [], f.2.2.2) with
            | some (rv, l1) => bif Nat.ble (iMem f.2.2.2).1 (iMem l1).1 && Nat.ble (iMem f.2.2.2).2.1 (iMem l1).2.1 && Nat.ble (mEnt as).length (P.2.2.1 mi) then iRun P n d y (f.1 + 3, f.2.1, rv.toList ++ rest, l1) else none
            | none => none)
        | none => match iQ o f with
          | some g => iRun P n d y g
          | none => none
theorem iRet_s {E : mEnv} {o : mOp} {f : iFr} {r : Option Value} {k : mFr → Prop} {ret : Option FieldType} (h : iRet ret o f = some r) (h1 : E.2.2.2.1 = ret) (h2 : E.2.2.2.2.1 = r) (h3 : E.2.2.2.2.2 = iMem f.2.2.2) : mStP E o (iF f) k := by
  unfold iRet at h
  split at h
  · next hop =>
    unfold mStP
    rw [hop]
    dsimp only
    split at h
    · next hst =>
      cases h
      exact ⟨hst, h1, h2, h3⟩
    · cases h
  · next hop =>
    unfold mStP
    rw [hop]
    dsimp only
    split at h
    · next v hst =>
      cases h
      exact ⟨v, hst, Or.inl h1, h2, h3⟩
    · next v hst =>
      obtain ⟨q, h⟩ := mCb h
      cases h
      exact ⟨v, hst, Or.inr ⟨h1, by simpa using q⟩, h2, h3⟩
    · cases h
  · next hop =>
    unfold mStP
    rw [hop]
    dsimp only
    split at h
    · next v hst =>
      cases h
      exact ⟨v, hst, h1, h2, h3⟩
    · cases h
  · cases h
theorem iCall_s {E : mEnv} {o : mOp} {f : iFr} {mi : Nat} {as rest : List Value} {rv : Option Value} {l1 : List iOp} {k : mFr → Prop} (h : iCall o f = some (mi, as, rest)) (hm : E.2.2.1 mi as (iMem f.2.2.2) rv (iMem l1)) (hk : k (iF (f.1 + 3, f.2.1, rv.toList ++ rest, l1))) : mStP E o (iF f) k := by
  have hrec : ∀ n : Nat, f.2.2.1 = (f.2.2.1.take n).reverse.reverse ++ f.2.2.1.drop n := fun n => by rw [List.reverse_reverse, List.take_append_drop]
  have virt : ∀ mi' na ci : Nat, (match f.2.2.1.drop (na - 1) with
      | .ref i :: r => bif Nat.ble na f.2.2.1.length && Nat.ble 1 na && (Nat.blt i (iMem f.2.2.2).1 && Nat.beq ((iMem f.2.2.2).2.2.1 i).1 ci) && iCt r then some (mi', Value.ref i :: (f.2.2.1.take (na - 1)).reverse, r) else none
      | _ => none) = some (mi, as, rest) → kCallV E mi' na ci (iF f) k := by
    intro mi' na ci h
    split at h
    · next i r hd =>
      obtain ⟨h1, h2⟩ := mCb h
      cases h2
      obtain ⟨h1, h4⟩ := pt_bl h1
      obtain ⟨h1, h3⟩ := pt_bl h1
      obtain ⟨h1, h5⟩ := pt_bl h1
      have l1' := Nat.le_of_ble_eq_true h1
      have l5 := Nat.le_of_ble_eq_true h5
      refine ⟨i, (f.2.2.1.take (na - 1)).reverse, rest, rv, iMem l1, ?_, ?_, h3, Nat.le_of_ble_eq_true h4, hm, hk⟩
      · show f.2.2.1 = _
        rw [← hd]; exact hrec _
      · rw [List.length_reverse, List.length_take]; omega
    · cases h
  unfold iCall at h
  split at h
  · next hop =>
    unfold mStP
    rw [hop]
    dsimp only
    split at h
    · next mi' na h22 =>
      obtain ⟨h1, h2⟩ := mCb h
      cases h2
      obtain ⟨h1, h3⟩ := pt_bl h1
      have l1' := Nat.le_of_ble_eq_true h1
      rw [h22]
      show kCall E mi na (iF f) k
      refine ⟨(f.2.2.1.take na).reverse, f.2.2.1.drop na, rv, iMem l1, hrec _, ?_, Nat.le_of_ble_eq_true h3, hm, hk⟩
      rw [List.length_reverse, List.length_take]; omega
    · cases h
  · next hop =>
    unfold mStP
    rw [hop]
    dsimp only
    split at h
    · next mi' na ci h22 =>
      rw [h22]
      exact virt mi' na ci h
    · cases h
  · next hop =>
    unfold mStP
    rw [hop]
    dsimp only
    split at h
    · next mi' na ci h22 =>
      rw [h22]
      exact virt mi' na ci h
    · cases h
  · cases h
theorem iRun_s {P : mPrg} : ∀ {n d y : Nat} {f : iFr} {r : Option Value} {l' : List iOp}, iRun P n d y f = some (r, l') → mRunF (P.2.2.2.2 y) ((0, fun _ => 0), mTx, mMet P mTx d, P.2.2.2.1 y, r, iMem l') (iF f) := by
  intro n
  induction n with
  | zero => intro d y f r l' h; cases h
  | succ n ih =>
    intro d y f r l' h
    rw [iRun] at h
    split at h
    · cases h
    · next o ho =>
      split at h
      · next r0 hr =>
        injection h with h
        injection h with h1 h2
        subst h1 h2
        exact mRunF.one ho (iRet_s hr rfl rfl rfl)
      · split at h
        · next mi as rest hc =>
          split at h
          · cases h
          · next d' =>
            split at h
            · next rv l1 hi =>
              obtain ⟨g, h⟩ := mCb h
              obtain ⟨g, g3⟩ := pt_bl g
              obtain ⟨g1, g2⟩ := pt_bl g
              refine mRunF.one ho (iCall_s (rv := rv) (l1 := l1) hc ?_ (ih h))
              exact ⟨⟨Nat.le_of_ble_eq_true g1, Nat.le_of_ble_eq_true g2, Nat.le_of_ble_eq_true g3⟩, ih hi⟩
            · cases h
        · split at h
          · next g hg => exact mRunF.one ho (iQ_s rfl hg (ih h))
          · cases h
theorem iMet_s {P : mPrg} {n d y : Nat} {as : List Value} {r : Option Value} {l l' : List iOp} (h : iRun P n d y (0, mEnt as ++ List.replicate (P.2.2.1 y - (mEnt as).length) none, [], l) = some (r, l')) (h2 : (Nat.ble (iMem l).1 (iMem l').1 && Nat.ble (iMem l).2.1 (iMem l').2.1 && Nat.ble (mEnt as).length (P.2.2.1 y)) = true) : mMet P mTx (d + 1) y as (iMem l) r (iMem l') := by
  obtain ⟨g, g3⟩ := pt_bl h2
  obtain ⟨g1, g2⟩ := pt_bl g
  exact ⟨⟨Nat.le_of_ble_eq_true g1, Nat.le_of_ble_eq_true g2, Nat.le_of_ble_eq_true g3⟩, iRun_s h⟩
