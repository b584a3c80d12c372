/-! RUNS: the dispatch, monotony, the least relation that the steps close -/
/-- the script, the texts, the calls, what the method returns, the answer, the memory behind it -/
abbrev mEnv : Type := (Nat × (Nat → Int32)) × (Nat → List Int32) × (Nat → List Value → mMem → Option Value → mMem → Prop) × Option FieldType × Option Value × mMem
def kCall (E : mEnv) (mi na : Nat) (f : mFr) (k : mFr → Prop) : Prop := ∃ (as rest : List Value) (rv : Option Value) (σ1 : mMem), f.2.2.1 = as.reverse ++ rest ∧ as.length = na ∧ (rest.map fun v => v.category).sum ≤ 8 ∧ E.2.2.1 mi as f.2.2.2 rv σ1 ∧ k (f.1 + 3, f.2.1, rv.toList ++ rest, σ1)
/-- a call on an object: of that class -/
def kCallV (E : mEnv) (mi na ci : Nat) (f : mFr) (k : mFr → Prop) : Prop := ∃ (i : Nat) (as rest : List Value) (rv : Option Value) (σ1 : mMem), f.2.2.1 = as.reverse ++ (.ref i :: rest) ∧ as.length + 1 = na ∧ (Nat.blt i f.2.2.2.1 && Nat.beq (f.2.2.2.2.2.1 i).1 ci) = true ∧ (rest.map fun v => v.category).sum ≤ 8 ∧ E.2.2.1 mi (.ref i :: as) f.2.2.2 rv σ1 ∧ k (f.1 + 3, f.2.1, rv.toList ++ rest, σ1)
def kPrim (E : mEnv) (a : Nat) (f : mFr) (k : mFr → Prop) : Prop :=
  if a = 9001 then kCopy f k else if a = 9002 then kMax f k else if a = 9003 then kMin f k else if a = 9004 then kObj f k
  else if a = 9005 then kSLen E.2.1 f k else if a = 9006 then kSChar E.2.1 f k else if a = 9007 then kSIdx E.2.1 f k else False
def kInv (E : mEnv) (nt : List Nat) (f : mFr) (k : mFr → Prop) : Prop := match nt with
  | [a] => kPrim E a f k
  | [mi, na] => kCall E mi na f k
  | [mi, na, ci] => kCallV E mi na ci f k
  | _ => False
def kIfC (c : ClassFile.Cond) (t : Nat) (f : mFr) (k : mFr → Prop) : Prop := match c with
  | .eq => kIf1 (fun x => x = 0) t (f.1 + 3) f k
  | .ne => kIf1 (fun x => x = 0) (f.1 + 3) t f k
  | .lt => kIf1 (fun x => x < 0) t (f.1 + 3) f k
  | .ge => kIf1 (fun x => 0 ≤ x) t (f.1 + 3) f k
  | .gt => kIf1 (fun x => 0 < x) t (f.1 + 3) f k
  | .le => kIf1 (fun x => x ≤ 0) t (f.1 + 3) f k
def kIfI (c : ClassFile.Cond) (t : Nat) (f : mFr) (k : mFr → Prop) : Prop := match c with
  | .eq => kIf2 (fun x y => x = y) t (f.1 + 3) f k
  | .ne => kIf2 (fun x y => x = y) (f.1 + 3) t f k
  | .lt => kIf2 (fun x y => x < y) t (f.1 + 3) f k
  | .ge => kIf2 (fun x y => y ≤ x) t (f.1 + 3) f k
  | .gt => kIf2 (fun x y => y < x) t (f.1 + 3) f k
  | .le => kIf2 (fun x y => x ≤ y) t (f.1 + 3) f k
def kN1 (nt : List Nat) (g : Nat → Prop) : Prop := match nt with
  | [t] => g t
  | _ => False
def kN2 (nt : List Nat) (g : Nat → Nat → Prop) : Prop := match nt with
  | [a, b] => g a b
  | _ => False
def kNs (nt : List Nat) (g : Nat → List Nat → Prop) : Prop := match nt with
  | t :: ts => g t ts
  | _ => False
def mStP (E : mEnv) (o : mOp) (f : mFr) (k : mFr → Prop) : Prop := match o.1 with
  | .iconst _ => kPush 1 o.2.1 f k
  | .bipush _ => kPush 2 o.2.1 f k
  | .sipush _ => kPush 3 o.2.1 f k
  | .lconst _ => kPush 1 o.2.1 f k
  | .ldc _ => kPush 2 o.2.1 f k
  | .ldc_w _ => kPush 3 o.2.1 f k
  | .ldc2_w _ => kPush 3 o.2.1 f k
  | .iload i => kLdI 2 i f k
  | .iload_n i => kLdI 1 i.val f k
  | .lload i => kLdL 2 i f k
  | .lload_n i => kLdL 1 i.val f k
  | .aload i => kLdA 2 i f k
  | .aload_n i => kLdA 1 i.val f k
  | .istore i => kStI 2 i f k
  | .istore_n i => kStI 1 i.val f k
  | .lstore i => kStL 2 i f k
  | .lstore_n i => kStL 1 i.val f k
  | .astore i => kStA 2 i f k
  | .astore_n i => kStA 1 i.val f k
  | .iinc i _ => kInc i o.2.1 f k
  | .iadd => kBin (fun x y => x + y) f k
  | .isub => kBin (fun x y => x - y) f k
  | .imul => kBin (fun x y => x * y) f k
  | .iand => kBin (fun x y => x &&& y) f k
  | .ior => kBin (fun x y => x ||| y) f k
  | .ixor => kBin (fun x y => x ^^^ y) f k
  | .ishl => kBin (fun x y => x <<< (y &&& 31)) f k
  | .ishr => kBin (fun x y => x >>> (y &&& 31)) f k
  | .iushr => kBin (fun x y => (x.toUInt32 >>> (y.toUInt32 &&& Int32.toUInt32 31)).toInt32) f k
  | .idiv => kDiv (fun x y => x / y) f k
  | .irem => kDiv (fun x y => x - x / y * y) f k
  | .ineg => kUn (fun x => .int (-x)) f k
  | .i2l => kUn (fun x => .long x.toInt64) f k
  | .i2b => kUn (fun x => .int x.toInt8.toInt32) f k
  | .i2c => kUn (fun x => .int (x.toUInt32 % 65536).toInt32) f k
  | .l2i => kL2I f k
  | .ladd => kBinL (fun x y => x + y) f k
  | .lmul => kBinL (fun x y => x * y) f k
  | .lcmp => kCmpL f k
  | .dup => kDup f k
  | .pop => kPop f k
  | .dup2 => kDup2 f k
  | .ifCond c _ => kN1 o.2.2 (fun t => kIfC c t f k)
  | .if_icmp c _ => kN1 o.2.2 (fun t => kIfI c t f k)
  | .goto _ => kN1 o.2.2 (fun t => k (t, f.2))
  | .tableswitch _ lo hi _ => kNs o.2.2 (fun td ts => kSw lo hi td ts f k)
  | .getfield _ => kN2 o.2.2 (fun ci fi => kGet ci fi f k)
  | .putfield _ => kN2 o.2.2 (fun ci fi => kPut ci fi f k)
  | .iaload => kIald E.1 f k
  | .baload => kAld (fun q => Nat.beq q 21 || Nat.beq q 22) f k
  | .laload => kLald f k
  | .aaload => kAald f k
  | .iastore => kIast f k
  | .bastore => kBast f k
  | .lastore => kLast f k
  | .arraylength => kLen E.1 f k
  | .new _ => kN1 o.2.2 (fun ci => kNew ci f k)
  | .newarray _ => kN1 o.2.2 (fun tag => kNewa tag f k)
  | .multianewarray _ _ => kNew2 f k
  | .invokevirtual _ => kInv E o.2.2 f k
  | .invokespecial _ => kInv E o.2.2 f k
  | .invokestatic _ => kInv E o.2.2 f k
  | .return_ => f.2.2.1 = [] ∧ E.2.2.2.1 = none ∧ E.2.2.2.2.1 = none ∧ E.2.2.2.2.2 = f.2.2.2
  | .ireturn => ∃ v, f.2.2.1 = [.int v] ∧ (E.2.2.2.1 = some .int ∨ E.2.2.2.1 = some .boolean ∧ (v = 0 ∨ v = 1)) ∧ E.2.2.2.2.1 = some (.int v) ∧ E.2.2.2.2.2 = f.2.2.2
  | .lreturn => ∃ v, f.2.2.1 = [.long v] ∧ E.2.2.2.1 = some .long ∧ E.2.2.2.2.1 = some (.long v) ∧ E.2.2.2.2.2 = f.2.2.2
  | _ => False
section Mono
variable {k k' : mFr → Prop}
theorem kLdI_m (h : ∀ f, k f → k' f) {d i : Nat} {f : mFr} : kLdI d i f k → kLdI d i f k' := by
  unfold kLdI; split
  · exact h _
  · exact id
theorem kLdL_m (h : ∀ f, k f → k' f) {d i : Nat} {f : mFr} : kLdL d i f k → kLdL d i f k' := by
  unfold kLdL; split
  · exact h _
  · exact id
theorem kLdA_m (h : ∀ f, k f → k' f) {d i : Nat} {f : mFr} : kLdA d i f k → kLdA d i f k' := by
  unfold kLdA; split
  · exact h _
  · exact h _
  · exact id
theorem kStI_m (h : ∀ f, k f → k' f) {d i : Nat} {f : mFr} : kStI d i f k → kStI d i f k' := by
  unfold kStI; split
  · exact fun q => ⟨q.1, h _ q.2⟩
  · exact id
theorem kStL_m (h : ∀ f, k f → k' f) {d i : Nat} {f : mFr} : kStL d i f k → kStL d i f k' := by
  unfold kStL; split
  · exact fun q => ⟨q.1, h _ q.2⟩
  · exact id
theorem kStA_m (h : ∀ f, k f → k' f) {d i : Nat} {f : mFr} : kStA d i f k → kStA d i f k' := by
  unfold kStA; split
  · exact fun q => ⟨q.1, h _ q.2⟩
  · exact id
theorem kInc_m (h : ∀ f, k f → k' f) {i : Nat} {v : Value} {f : mFr} : kInc i v f k → kInc i v f k' := by
  unfold kInc; split
  · exact fun q => ⟨q.1, h _ q.2⟩
  · exact id
theorem kBin_m (h : ∀ f, k f → k' f) {g : Int32 → Int32 → Int32} {f : mFr} : kBin g f k → kBin g f k' := by
  unfold kBin; split
  · exact h _
  · exact id
theorem kDiv_m (h : ∀ f, k f → k' f) {g : Int32 → Int32 → Int32} {f : mFr} : kDiv g f k → kDiv g f k' := by
  unfold kDiv; split
  · exact fun q => ⟨q.1, h _ q.2⟩
  · exact id
theorem kUn_m (h : ∀ f, k f → k' f) {g : Int32 → Value} {f : mFr} : kUn g f k → kUn g f k' := by
  unfold kUn; split
  · exact h _
  · exact id
theorem kL2I_m (h : ∀ f, k f → k' f) {f : mFr} : kL2I f k → kL2I f k' := by
  unfold kL2I; split
  · exact h _
  · exact id
theorem kBinL_m (h : ∀ f, k f → k' f) {g : Int64 → Int64 → Int64} {f : mFr} : kBinL g f k → kBinL g f k' := by
  unfold kBinL; split
  · exact h _
  · exact id
theorem kCmpL_m (h : ∀ f, k f → k' f) {f : mFr} : kCmpL f k → kCmpL f k' := by
  unfold kCmpL; split
  · exact h _
  · exact id
theorem kDup_m (h : ∀ f, k f → k' f) {f : mFr} : kDup f k → kDup f k' := by
  unfold kDup; split
  · exact fun q => ⟨q.1, h _ q.2⟩
  · exact id
theorem kPop_m (h : ∀ f, k f → k' f) {f : mFr} : kPop f k → kPop f k' := by
  unfold kPop; split
  · exact fun q => ⟨q.1, h _ q.2⟩
  · exact id
theorem kDup2_m (h : ∀ f, k f → k' f) {f : mFr} : kDup2 f k → kDup2 f k' := by
  unfold kDup2; split
  · exact fun q => ⟨q.1, h _ q.2⟩
  · exact id
theorem kIf1_m (h : ∀ f, k f → k' f) {g : Int32 → Prop} {a b : Nat} {f : mFr} : kIf1 g a b f k → kIf1 g a b f k' := by
  unfold kIf1; split
  · exact fun q => ⟨fun z => h _ (q.1 z), fun z => h _ (q.2 z)⟩
  · exact id
theorem kIf2_m (h : ∀ f, k f → k' f) {g : Int32 → Int32 → Prop} {a b : Nat} {f : mFr} : kIf2 g a b f k → kIf2 g a b f k' := by
  unfold kIf2; split
  · exact fun q => ⟨fun z => h _ (q.1 z), fun z => h _ (q.2 z)⟩
  · exact id
theorem kIfC_m (h : ∀ f, k f → k' f) {c : ClassFile.Cond} {t : Nat} {f : mFr} : kIfC c t f k → kIfC c t f k' := by
  cases c <;> exact kIf1_m h
theorem kIfI_m (h : ∀ f, k f → k' f) {c : ClassFile.Cond} {t : Nat} {f : mFr} : kIfI c t f k → kIfI c t f k' := by
  cases c <;> exact kIf2_m h
theorem kSw_m (h : ∀ f, k f → k' f) {lo hi : Int} {td : Nat} {ts : List Nat} {f : mFr} : kSw lo hi td ts f k → kSw lo hi td ts f k' := by
  unfold kSw; split
  · exact fun q => ⟨fun z => h _ (q.1 z), fun z => by obtain ⟨t, h1, h2⟩ := q.2 z; exact ⟨t, h1, h _ h2⟩⟩
  · exact id
theorem kGet_m (h : ∀ f, k f → k' f) {ci fi : Nat} {f : mFr} : kGet ci fi f k → kGet ci fi f k' := by
  unfold kGet; split
  · intro q
    refine ⟨q.1, ?_⟩
    have q2 := q.2
    revert q2
    split
    · split
      · exact id
      · exact h _
    · exact h _
  · exact id
theorem kPut_m (h : ∀ f, k f → k' f) {ci fi : Nat} {f : mFr} : kPut ci fi f k → kPut ci fi f k' := by
  unfold kPut; split
  · exact fun q => ⟨q.1, q.2.1, h _ q.2.2⟩
  · exact fun q => ⟨q.1, h _ q.2⟩
  · exact id
theorem kAld_m (h : ∀ f, k f → k' f) {kd : Nat → Bool} {f : mFr} : kAld kd f k → kAld kd f k' := by
  unfold kAld; split
  · exact fun q => ⟨q.1, q.2.1, h _ q.2.2⟩
  · exact id
theorem kIald_m (h : ∀ f, k f → k' f) {X : Nat × (Nat → Int32)} {f : mFr} : kIald X f k → kIald X f k' := by
  unfold kIald; split
  · exact fun q => ⟨q.1, h _ q.2⟩
  · exact kAld_m h
theorem kLald_m (h : ∀ f, k f → k' f) {f : mFr} : kLald f k → kLald f k' := by
  unfold kLald; split
  · exact fun q => ⟨q.1, q.2.1, h _ q.2.2⟩
  · exact id
theorem kAald_m (h : ∀ f, k f → k' f) {f : mFr} : kAald f k → kAald f k' := by
  unfold kAald; split
  · intro q
    refine ⟨q.1, q.2.1, ?_⟩
    have q2 := q.2.2
    revert q2
    split
    · exact id
    · exact h _
  · exact id
theorem kIast_m (h : ∀ f, k f → k' f) {f : mFr} : kIast f k → kIast f k' := by
  unfold kIast; split
  · exact fun q => ⟨q.1, q.2.1, h _ q.2.2⟩
  · exact id
theorem kBast_m (h : ∀ f, k f → k' f) {f : mFr} : kBast f k → kBast f k' := by
  unfold kBast; split
  · intro q
    refine ⟨q.1, q.2.1, ?_⟩
    have q2 := q.2.2
    revert q2
    split
    · exact h _
    · exact h _
    · exact id
  · exact id
theorem kLast_m (h : ∀ f, k f → k' f) {f : mFr} : kLast f k → kLast f k' := by
  unfold kLast; split
  · exact fun q => ⟨q.1, q.2.1, h _ q.2.2⟩
  · exact id
theorem kLen_m (h : ∀ f, k f → k' f) {X : Nat × (Nat → Int32)} {f : mFr} : kLen X f k → kLen X f k' := by
  unfold kLen; split
  · exact fun q => ⟨q.1, h _ q.2⟩
  · exact fun q => ⟨q.1, h _ q.2⟩
  · exact id
theorem kNewa_m (h : ∀ f, k f → k' f) {tag : Nat} {f : mFr} : kNewa tag f k → kNewa tag f k' := by
  unfold kNewa; split
  · exact fun q => ⟨q.1, h _ q.2⟩
  · exact id
theorem kNew2_m (h : ∀ f, k f → k' f) {f : mFr} : kNew2 f k → kNew2 f k' := by
  unfold kNew2; split
  · exact fun q => ⟨q.1, h _ q.2⟩
  · exact id
theorem kCopy_m (h : ∀ f, k f → k' f) {f : mFr} : kCopy f k → kCopy f k' := by
  unfold kCopy; split
  · exact fun q => ⟨q.1, q.2.1, q.2.2.1, h _ q.2.2.2⟩
  · exact id
theorem kMax_m (h : ∀ f, k f → k' f) {f : mFr} : kMax f k → kMax f k' := by
  unfold kMax; split
  · exact fun q => ⟨q.1, h _ q.2⟩
  · exact id
theorem kMin_m (h : ∀ f, k f → k' f) {f : mFr} : kMin f k → kMin f k' := by
  unfold kMin; split
  · exact fun q => ⟨q.1, h _ q.2⟩
  · exact id
theorem kObj_m (h : ∀ f, k f → k' f) {f : mFr} : kObj f k → kObj f k' := by
  unfold kObj; split
  · exact fun q => ⟨q.1, h _ q.2⟩
  · exact id
theorem kSLen_m (h : ∀ f, k f → k' f) {Tx : Nat → List Int32} {f : mFr} : kSLen Tx f k → kSLen Tx f k' := by
  unfold kSLen; split
  · exact fun q => ⟨q.1, h _ q.2⟩
  · exact id
theorem kSChar_m (h : ∀ f, k f → k' f) {Tx : Nat → List Int32} {f : mFr} : kSChar Tx f k → kSChar Tx f k' := by
  unfold kSChar; split
  · exact fun q => ⟨q.1, q.2.1, h _ q.2.2⟩
  · exact id
theorem kSIdx_m (h : ∀ f, k f → k' f) {Tx : Nat → List Int32} {f : mFr} : kSIdx Tx f k → kSIdx Tx f k' := by
  unfold kSIdx; split
  · exact fun q => ⟨q.1, q.2.1, h _ q.2.2⟩
  · exact id
theorem kCall_m (h : ∀ f, k f → k' f) {E : mEnv} {mi na : Nat} {f : mFr} : kCall E mi na f k → kCall E mi na f k' := by
  rintro ⟨as, rest, rv, σ1, h1, h2, h3, h4, h5⟩
  exact ⟨as, rest, rv, σ1, h1, h2, h3, h4, h _ h5⟩
theorem kCallV_m (h : ∀ f, k f → k' f) {E : mEnv} {mi na ci : Nat} {f : mFr} : kCallV E mi na ci f k → kCallV E mi na ci f k' := by
  rintro ⟨i, as, rest, rv, σ1, h1, h2, h3, h4, h5, h6⟩
  exact ⟨i, as, rest, rv, σ1, h1, h2, h3, h4, h5, h _ h6⟩
theorem kPrim_m (h : ∀ f, k f → k' f) {E : mEnv} {a : Nat} {f : mFr} : kPrim E a f k → kPrim E a f k' := by
  unfold kPrim
  split
  · exact kCopy_m h
  split
  · exact kMax_m h
  split
  · exact kMin_m h
  split
  · exact kObj_m h
  split
  · exact kSLen_m h
  split
  · exact kSChar_m h
  split
  · exact kSIdx_m h
  · exact id
theorem kInv_m (h : ∀ f, k f → k' f) {E : mEnv} {nt : List Nat} {f : mFr} : kInv E nt f k → kInv E nt f k' := by
  unfold kInv; split
  · exact kPrim_m h
  · exact kCall_m h
  · exact kCallV_m h
  · exact id
theorem kN1_m {nt : List Nat} {g g' : Nat → Prop} (hg : ∀ a, g a → g' a) : kN1 nt g → kN1 nt g' := by
  unfold kN1; split
  · exact hg _
  · exact id
theorem kN2_m {nt : List Nat} {g g' : Nat → Nat → Prop} (hg : ∀ a b, g a b → g' a b) : kN2 nt g → kN2 nt g' := by
  unfold kN2; split
  · exact hg _ _
  · exact id
theorem kNs_m {nt : List Nat} {g g' : Nat → List Nat → Prop} (hg : ∀ a b, g a b → g' a b) : kNs nt g → kNs nt g' := by
  unfold kNs; split
  · exact hg _ _
  · exact id
theorem mStP_m (h : ∀ f, k f → k' f) {E : mEnv} {o : mOp} {f : mFr} : mStP E o f k → mStP E o f k' := by
  unfold mStP
  split <;> first
    | exact h _
    | exact kLdI_m h | exact kLdL_m h | exact kLdA_m h | exact kStI_m h | exact kStL_m h | exact kStA_m h | exact kInc_m h
    | exact kBin_m h | exact kDiv_m h | exact kUn_m h | exact kL2I_m h | exact kBinL_m h | exact kCmpL_m h
    | exact kDup_m h | exact kPop_m h | exact kDup2_m h
    | exact kN1_m (fun _ => kIfC_m h) | exact kN1_m (fun _ => kIfI_m h) | exact kN1_m (fun _ => h _) | exact kNs_m (fun _ _ => kSw_m h)
    | exact kN2_m (fun _ _ => kGet_m h) | exact kN2_m (fun _ _ => kPut_m h)
    | exact kIald_m h | exact kAld_m h | exact kLald_m h | exact kAald_m h | exact kIast_m h | exact kBast_m h | exact kLast_m h | exact kLen_m h
    | exact kN1_m (fun _ => h _) | exact kN1_m (fun _ => kNewa_m h) | exact kNew2_m h | exact kInv_m h
    | exact id
end Mono
/-- the program: of each method its name, bytes, locals, what it returns, its instructions -/
abbrev mPrg : Type := (Nat → MethodName) × (Nat → ByteArray) × (Nat → Nat) × (Nat → Option FieldType) × (Nat → Nat → Option mOp)
/-- one instruction of a method -/
def mOne (cd : Nat → Option mOp) (E : mEnv) (P : mFr → Prop) (f : mFr) : Prop := ∃ o, cd f.1 = some o ∧ mStP E o f P
/-- it runs to its end -/
def mRunF (cd : Nat → Option mOp) (E : mEnv) (f : mFr) : Prop := ∀ P : mFr → Prop, (∀ g, mOne cd E P g → P g) → P f
theorem mRunF.one {cd : Nat → Option mOp} {E : mEnv} {f : mFr} {o : mOp} (hc : cd f.1 = some o) (h : mStP E o f (mRunF cd E)) : mRunF cd E f := fun P hP => hP f ⟨o, hc, mStP_m (fun g hg => hg P hP) h⟩
/-- a row of instructions -/
def mRunP (E : mEnv) : List mOp → mFr → (mFr → Prop) → Prop
  | [], f, k => k f
  | o :: r, f, k => mStP E o f (fun g => mRunP E r g k)
/-- the code has these instructions from here on (each step's own place is looked at) -/
def mHas (cd : Nat → Option mOp) : Nat → List (mOp × Nat) → Prop
  | _, [] => True
  | pc, (o, d) :: r => cd pc = some o ∧ mHas cd (pc + d) r
/-- the arguments in the locals -/
def mEnt (as : List Value) : List (Option Value) := as.flatMap fun v => if v.category = 2 then [some v, none] else [some v]
/-- a call's meaning, to depth d -/
def mMet (P : mPrg) (Tx : Nat → List Int32) : Nat → Nat → List Value → mMem → Option Value → mMem → Prop
  | 0, _, _, _, _, _ => False
  | d + 1, y, as, σ, r, σ' => (σ.1 ≤ σ'.1 ∧ σ.2.1 ≤ σ'.2.1 ∧ (mEnt as).length ≤ P.2.2.1 y) ∧ mRunF (P.2.2.2.2 y) ((0, fun _ => 0), Tx, mMet P Tx d, P.2.2.2.1 y, r, σ') (0, mEnt as ++ List.replicate (P.2.2.1 y - (mEnt as).length) none, [], σ)
