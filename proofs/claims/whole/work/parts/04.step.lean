/-! ONE STEP of the abstract machine, into a continuation -/
theorem mIn_vp {i : Int32} {n : Nat} (h : mIn i n = true) : vp_in i n := by
  simp only [mIn, Bool.and_eq_true, Bool.not_eq_true', decide_eq_false_iff_not] at h
  rintro (q | q)
  · exact h.1 q
  · have := Nat.blt_eq.mp h.2 |> fun z => z
    omega
def mUR (I : Nat → Nat → Nat) (i k : Nat) (x : Nat) : Nat → Nat → Nat := fun a => if a = i then va_up (I i) k x else I a
def mSI (σ : mMem) (i k : Nat) (x : Int32) : mMem := (σ.1, σ.2.1, σ.2.2.1, σ.2.2.2.1, mUI σ.2.2.2.2.1 i k x, σ.2.2.2.2.2)
def mSL (σ : mMem) (i k : Nat) (x : Int64) : mMem := (σ.1, σ.2.1, σ.2.2.1, σ.2.2.2.1, σ.2.2.2.2.1, mUL σ.2.2.2.2.2 i k x)
def mSR (σ : mMem) (i k : Nat) (x : Nat) : mMem := (σ.1, σ.2.1, σ.2.2.1, mUR σ.2.2.2.1 i k x, σ.2.2.2.2.1, σ.2.2.2.2.2)
def mSW (σ : mMem) (i : Nat) (g : Nat → Int32) : mMem := (σ.1, σ.2.1, σ.2.2.1, σ.2.2.2.1, va_up σ.2.2.2.2.1 i g, σ.2.2.2.2.2)
def mNew (σ : mMem) (kd len sz : Nat) : mMem := (σ.1 + 1, σ.2.1 + sz, va_up σ.2.2.1 σ.1 (kd, len), va_up σ.2.2.2.1 σ.1 (fun _ => 0), va_up σ.2.2.2.2.1 σ.1 (fun _ => 0), va_up σ.2.2.2.2.2 σ.1 (fun _ => 0))
def kPush (d : Nat) (v : Value) (f : mFr) (k : mFr → Prop) : Prop := k (f.1 + d, f.2.1, v :: f.2.2.1, f.2.2.2)
def kLdI (d i : Nat) (f : mFr) (k : mFr → Prop) : Prop := match f.2.1[i]? with
  | some (some (.int x)) => k (f.1 + d, f.2.1, .int x :: f.2.2.1, f.2.2.2)
  | _ => False
def kLdL (d i : Nat) (f : mFr) (k : mFr → Prop) : Prop := match f.2.1[i]? with
  | some (some (.long x)) => k (f.1 + d, f.2.1, .long x :: f.2.2.1, f.2.2.2)
  | _ => False
def kLdA (d i : Nat) (f : mFr) (k : mFr → Prop) : Prop := match f.2.1[i]? with
  | some (some (.ref x)) => k (f.1 + d, f.2.1, .ref x :: f.2.2.1, f.2.2.2)
  | some (some (.retAddr x)) => k (f.1 + d, f.2.1, .retAddr x :: f.2.2.1, f.2.2.2)
  | _ => False
/-- a long that begins at the place ahead goes -/
def mClr (ls : List (Option Value)) (i : Nat) : List (Option Value) := match i with
  | 0 => ls
  | j + 1 => match ls[j]? with
    | some (some (.long _)) => ls.set j none
    | some (some (.double _)) => ls.set j none
    | _ => ls
def kStI (d i : Nat) (f : mFr) (k : mFr → Prop) : Prop := match f.2.2.1 with
  | .int x :: r => Nat.blt i f.2.1.length = true ∧ k (f.1 + d, (mClr f.2.1 i).set i (some (.int x)), r, f.2.2.2)
  | _ => False
def kStL (d i : Nat) (f : mFr) (k : mFr → Prop) : Prop := match f.2.2.1 with
  | .long x :: r => Nat.blt (i + 1) f.2.1.length = true ∧ k (f.1 + d, ((mClr f.2.1 i).set i (some (.long x))).set (i + 1) none, r, f.2.2.2)
  | _ => False
def kStA (d i : Nat) (f : mFr) (k : mFr → Prop) : Prop := match f.2.2.1 with
  | .ref x :: r => Nat.blt i f.2.1.length = true ∧ k (f.1 + d, (mClr f.2.1 i).set i (some (.ref x)), r, f.2.2.2)
  | _ => False
def kInc (i : Nat) (v : Value) (f : mFr) (k : mFr → Prop) : Prop := match f.2.1[i]?, v with
  | some (some (.int x)), .int y => Nat.blt i f.2.1.length = true ∧ k (f.1 + 3, (mClr f.2.1 i).set i (some (.int (x + y))), f.2.2.1, f.2.2.2)
  | _, _ => False
def kBin (g : Int32 → Int32 → Int32) (f : mFr) (k : mFr → Prop) : Prop := match f.2.2.1 with
  | .int y :: .int x :: r => k (f.1 + 1, f.2.1, .int (g x y) :: r, f.2.2.2)
  | _ => False
def kDiv (g : Int32 → Int32 → Int32) (f : mFr) (k : mFr → Prop) : Prop := match f.2.2.1 with
  | .int y :: .int x :: r => ¬ y = 0 ∧ k (f.1 + 1, f.2.1, .int (g x y) :: r, f.2.2.2)
  | _ => False
def kUn (g : Int32 → Value) (f : mFr) (k : mFr → Prop) : Prop := match f.2.2.1 with
  | .int x :: r => k (f.1 + 1, f.2.1, g x :: r, f.2.2.2)
  | _ => False
def kL2I (f : mFr) (k : mFr → Prop) : Prop := match f.2.2.1 with
  | .long x :: r => k (f.1 + 1, f.2.1, .int x.toInt32 :: r, f.2.2.2)
  | _ => False
def kBinL (g : Int64 → Int64 → Int64) (f : mFr) (k : mFr → Prop) : Prop := match f.2.2.1 with
  | .long y :: .long x :: r => k (f.1 + 1, f.2.1, .long (g x y) :: r, f.2.2.2)
  | _ => False
def kCmpL (f : mFr) (k : mFr → Prop) : Prop := match f.2.2.1 with
  | .long y :: .long x :: r => k (f.1 + 1, f.2.1, .int (lg_cmp x y) :: r, f.2.2.2)
  | _ => False
def kDup (f : mFr) (k : mFr → Prop) : Prop := match f.2.2.1 with
  | v :: r => v.category = 1 ∧ k (f.1 + 1, f.2.1, v :: v :: r, f.2.2.2)
  | _ => False
def kPop (f : mFr) (k : mFr → Prop) : Prop := match f.2.2.1 with
  | v :: r => v.category = 1 ∧ k (f.1 + 1, f.2.1, r, f.2.2.2)
  | _ => False
def kDup2 (f : mFr) (k : mFr → Prop) : Prop := match f.2.2.1 with
  | v :: w :: r => (v.category = 1 ∧ w.category = 1) ∧ k (f.1 + 1, f.2.1, v :: w :: v :: w :: r, f.2.2.2)
  | _ => False
def kIf1 (g : Int32 → Prop) (a b : Nat) (f : mFr) (k : mFr → Prop) : Prop := match f.2.2.1 with
  | .int x :: r => (g x → k (a, f.2.1, r, f.2.2.2)) ∧ (¬ g x → k (b, f.2.1, r, f.2.2.2))
  | _ => False
def kIf2 (g : Int32 → Int32 → Prop) (a b : Nat) (f : mFr) (k : mFr → Prop) : Prop := match f.2.2.1 with
  | .int y :: .int x :: r => (g x y → k (a, f.2.1, r, f.2.2.2)) ∧ (¬ g x y → k (b, f.2.1, r, f.2.2.2))
  | _ => False
def kSw (lo hi : Int) (td : Nat) (ts : List Nat) (f : mFr) (k : mFr → Prop) : Prop := match f.2.2.1 with
  | .int x :: r => ((x.toInt < lo ∨ hi < x.toInt) → k (td, f.2.1, r, f.2.2.2)) ∧ (¬ (x.toInt < lo ∨ hi < x.toInt) → ∃ t, ts[(x.toInt - lo).toNat]? = some t ∧ k (t, f.2.1, r, f.2.2.2))
  | _ => False
def kGet (ci fi : Nat) (f : mFr) (k : mFr → Prop) : Prop := match f.2.2.1 with
  | .ref i :: r => (Nat.blt i f.2.2.2.1 && Nat.beq (f.2.2.2.2.2.1 i).1 ci) = true ∧ (match mIsR ci fi with
    | true => match f.2.2.2.2.2.2.1 i fi with
      | 0 => False
      | j + 1 => k (f.1 + 3, f.2.1, .ref j :: r, f.2.2.2)
    | false => k (f.1 + 3, f.2.1, .int (f.2.2.2.2.2.2.2.1 i fi) :: r, f.2.2.2))
  | _ => False
def kPut (ci fi : Nat) (f : mFr) (k : mFr → Prop) : Prop := match f.2.2.1 with
  | .int x :: .ref i :: r => (Nat.blt i f.2.2.2.1 && Nat.beq (f.2.2.2.2.2.1 i).1 ci && !(mIsR ci fi)) = true ∧ (mTy ci fi = .boolean → x = 0 ∨ x = 1) ∧ k (f.1 + 3, f.2.1, r, mSI f.2.2.2 i fi x)
  | .ref j :: .ref i :: r => (Nat.blt i f.2.2.2.1 && Nat.beq (f.2.2.2.2.2.1 i).1 ci && mIsR ci fi) = true ∧ k (f.1 + 3, f.2.1, r, mSR f.2.2.2 i fi (j + 1))
  | _ => False
def kAld (kd : Nat → Bool) (f : mFr) (k : mFr → Prop) : Prop := match f.2.2.1 with
  | .int i :: .ref a :: r => (Nat.blt a f.2.2.2.1 && kd (f.2.2.2.2.2.1 a).1) = true ∧ mIn i (f.2.2.2.2.2.1 a).2 = true ∧ k (f.1 + 1, f.2.1, .int (f.2.2.2.2.2.2.2.1 a i.toNatClampNeg) :: r, f.2.2.2)
  | _ => False
/-- the script too: X.1 is its length and one more, or 0 where there is none -/
def kIald (X : Nat × (Nat → Int32)) (f : mFr) (k : mFr → Prop) : Prop := match f.2.2.1 with
  | .int i :: .retAddr 0 :: r => mIn i (X.1 - 1) = true ∧ k (f.1 + 1, f.2.1, .int (X.2 i.toNatClampNeg) :: r, f.2.2.2)
  | _ => kAld (fun q => Nat.beq q 20) f k
def kLald (f : mFr) (k : mFr → Prop) : Prop := match f.2.2.1 with
  | .int i :: .ref a :: r => (Nat.blt a f.2.2.2.1 && Nat.beq (f.2.2.2.2.2.1 a).1 23) = true ∧ mIn i (f.2.2.2.2.2.1 a).2 = true ∧ k (f.1 + 1, f.2.1, .long (f.2.2.2.2.2.2.2.2 a i.toNatClampNeg) :: r, f.2.2.2)
  | _ => False
def kAald (f : mFr) (k : mFr → Prop) : Prop := match f.2.2.1 with
  | .int i :: .ref a :: r => (Nat.blt a f.2.2.2.1 && Nat.beq (f.2.2.2.2.2.1 a).1 24) = true ∧ mIn i (f.2.2.2.2.2.1 a).2 = true ∧ (match f.2.2.2.2.2.2.1 a i.toNatClampNeg with
      | 0 => False
      | j + 1 => k (f.1 + 1, f.2.1, .ref j :: r, f.2.2.2))
  | _ => False
def kIast (f : mFr) (k : mFr → Prop) : Prop := match f.2.2.1 with
  | .int x :: .int i :: .ref a :: r => (Nat.blt a f.2.2.2.1 && Nat.beq (f.2.2.2.2.2.1 a).1 20) = true ∧ mIn i (f.2.2.2.2.2.1 a).2 = true ∧ k (f.1 + 1, f.2.1, r, mSI f.2.2.2 a i.toNatClampNeg x)
  | _ => False
def kBast (f : mFr) (k : mFr → Prop) : Prop := match f.2.2.1 with
  | .int x :: .int i :: .ref a :: r => Nat.blt a f.2.2.2.1 = true ∧ mIn i (f.2.2.2.2.2.1 a).2 = true ∧ (match (f.2.2.2.2.2.1 a).1 with
      | 21 => k (f.1 + 1, f.2.1, r, mSI f.2.2.2 a i.toNatClampNeg (vp_nar .byte x))
      | 22 => k (f.1 + 1, f.2.1, r, mSI f.2.2.2 a i.toNatClampNeg (vp_nar .boolean x))
      | _ => False)
  | _ => False
def kLast (f : mFr) (k : mFr → Prop) : Prop := match f.2.2.1 with
  | .long x :: .int i :: .ref a :: r => (Nat.blt a f.2.2.2.1 && Nat.beq (f.2.2.2.2.2.1 a).1 23) = true ∧ mIn i (f.2.2.2.2.2.1 a).2 = true ∧ k (f.1 + 1, f.2.1, r, mSL f.2.2.2 a i.toNatClampNeg x)
  | _ => False
def kLen (X : Nat × (Nat → Int32)) (f : mFr) (k : mFr → Prop) : Prop := match f.2.2.1 with
  | .retAddr 0 :: r => Nat.blt 0 X.1 = true ∧ k (f.1 + 1, f.2.1, .int (Int32.ofNat (X.1 - 1)) :: r, f.2.2.2)
  | .ref a :: r => (Nat.blt a f.2.2.2.1 && Nat.blt 19 (f.2.2.2.2.2.1 a).1 && Nat.blt (f.2.2.2.2.2.1 a).1 25) = true ∧ k (f.1 + 1, f.2.1, .int (Int32.ofNat (f.2.2.2.2.2.1 a).2) :: r, f.2.2.2)
  | _ => False
def kNew (ci : Nat) (f : mFr) (k : mFr → Prop) : Prop := k (f.1 + 3, f.2.1, .ref f.2.2.2.1 :: f.2.2.1, mNew f.2.2.2 ci 0 (mNF ci))
def kNewa (tag : Nat) (f : mFr) (k : mFr → Prop) : Prop := match f.2.2.1 with
  | .int n :: r => (!(decide (n < 0)) && Nat.blt n.toNatClampNeg 100000) = true ∧ k (f.1 + 2, f.2.1, .ref f.2.2.2.1 :: r, mNew f.2.2.2 (20 + tag) n.toNatClampNeg n.toNatClampNeg)
  | _ => False
/-- new int[n][w] -/
def mNew2 (σ : mMem) (n w : Nat) : mMem := (σ.1 + 1 + n, σ.2.1 + n + n * w, (fun a => if a = σ.1 then (24, n) else if σ.1 < a ∧ a < σ.1 + 1 + n then (20, w) else σ.2.2.1 a), va_up σ.2.2.2.1 σ.1 (fun j => if j < n then σ.1 + 1 + j + 1 else 0), (fun a => if σ.1 ≤ a ∧ a < σ.1 + 1 + n then (fun _ => 0) else σ.2.2.2.2.1 a), σ.2.2.2.2.2)
def kNew2 (f : mFr) (k : mFr → Prop) : Prop := match f.2.2.1 with
  | .int w :: .int n :: r => (!(decide (n < 0)) && Nat.blt n.toNatClampNeg 1000 && !(decide (w < 0)) && Nat.blt w.toNatClampNeg 1000) = true ∧ k (f.1 + 4, f.2.1, .ref f.2.2.2.1 :: r, mNew2 f.2.2.2 n.toNatClampNeg w.toNatClampNeg)
  | _ => False
/-- the JDK's own, by number: 9001 arraycopy over ints, 9002 Math.max, 9003 Math.min, 9004 Object's constructor -/
def kCopy (f : mFr) (k : mFr → Prop) : Prop := match f.2.2.1 with
  | .int n :: .int dp :: .ref a1 :: .int sp :: .ref a0 :: r => (Nat.blt a0 f.2.2.2.1 && Nat.blt a1 f.2.2.2.1 && Nat.beq (f.2.2.2.2.2.1 a0).1 20 && Nat.beq (f.2.2.2.2.2.1 a1).1 20) = true ∧ (r.map fun v => v.category).sum ≤ 8 ∧
      (!(decide (sp < 0)) && !(decide (dp < 0)) && !(decide (n < 0)) && Nat.ble (sp.toNatClampNeg + n.toNatClampNeg) (f.2.2.2.2.2.1 a0).2 && Nat.ble (dp.toNatClampNeg + n.toNatClampNeg) (f.2.2.2.2.2.1 a1).2) = true ∧
      k (f.1 + 3, f.2.1, r, mSW f.2.2.2 a1 (va_cpy (f.2.2.2.2.2.2.2.1 a0) (f.2.2.2.2.2.2.2.1 a1) sp.toNatClampNeg dp.toNatClampNeg n.toNatClampNeg))
  | _ => False
def kMax (f : mFr) (k : mFr → Prop) : Prop := match f.2.2.1 with
  | .int y :: .int x :: r => (r.map fun v => v.category).sum ≤ 8 ∧ k (f.1 + 3, f.2.1, .int (if x < y then y else x) :: r, f.2.2.2)
  | _ => False
def kMin (f : mFr) (k : mFr → Prop) : Prop := match f.2.2.1 with
  | .int y :: .int x :: r => (r.map fun v => v.category).sum ≤ 8 ∧ k (f.1 + 3, f.2.1, .int (if y < x then y else x) :: r, f.2.2.2)
  | _ => False
def kObj (f : mFr) (k : mFr → Prop) : Prop := match f.2.2.1 with
  | .ref _ :: r => (r.map fun v => v.category).sum ≤ 8 ∧ k (f.1 + 3, f.2.1, r, f.2.2.2)
  | _ => False
/-- texts: by their numbers, 0 and on -/
def kSLen (Tx : Nat → List Int32) (f : mFr) (k : mFr → Prop) : Prop := match f.2.2.1 with
  | .retAddr (j + 1) :: r => ((r.map fun v => v.category).sum ≤ 8 ∧ Nat.blt j 2 = true) ∧ k (f.1 + 3, f.2.1, .int (Int32.ofNat (Tx j).length) :: r, f.2.2.2)
  | _ => False
def kSChar (Tx : Nat → List Int32) (f : mFr) (k : mFr → Prop) : Prop := match f.2.2.1 with
  | .int i :: .retAddr (j + 1) :: r => (r.map fun v => v.category).sum ≤ 8 ∧ mIn i (Tx j).length = true ∧ k (f.1 + 3, f.2.1, .int ((Tx j).getD i.toNatClampNeg 0) :: r, f.2.2.2)
  | _ => False
def kSIdx (Tx : Nat → List Int32) (f : mFr) (k : mFr → Prop) : Prop := match f.2.2.1 with
  | .int c :: .retAddr (j + 1) :: r => ((r.map fun v => v.category).sum ≤ 8 ∧ Nat.blt j 2 = true) ∧ (0 ≤ c ∧ c < 256) ∧ k (f.1 + 3, f.2.1, .int (mIdx c (Tx j) 0) :: r, f.2.2.2)
  | _ => False
