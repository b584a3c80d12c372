/-! THE CHECKER of the program's tables -/
/-- of a method: its class, its sort (0 static, 1 on an object, 2 a constructor), how many parameters, its words' places; name, bytes, locals, what it returns; its code -/
abbrev mInf : Type := (Nat × Nat × Nat × List Nat) × MethodName × ByteArray × Nat × Option FieldType × List (Nat × mOp)
def mOn (o : Nat) : String := match o with
  | 13 => RJ6
  | 14 => "MoonDialsLaw"
  | o => mCn o
def mI0 : mInf := ((0, 0, 0, []), objectInit, ⟨#[]⟩, 0, none, [])
def mPof (L : List mInf) : mPrg := (fun y => (L.getD y mI0).2.1, fun y => (L.getD y mI0).2.2.1, fun y => (L.getD y mI0).2.2.2.1, fun y => (L.getD y mI0).2.2.2.2.1, fun y pc => (L.getD y mI0).2.2.2.2.2.lookup pc)
/-- the links of a class: fields (entry, class, field, place), methods (entry, method, place), nest mates, classes, ints, longs, the JDK's own -/
abbrev mLnk : Type := List (Nat × Nat × Nat × Nat) × List (Nat × Nat × Nat) × List (Nat × Nat) × List (Nat × Nat × Nat) × List (Nat × Int32 × Nat) × List (Nat × Int64 × Nat) × List (Nat × Nat × Nat)
def mPn9 (q : Nat) : MethodName := match q with
  | 9001 => arraycopyName
  | 9002 => Lib.Math.max.name
  | 9003 => Lib.Math.min.name
  | 9004 => objectInit
  | 9005 => yJ0_length_8abf5
  | 9006 => yJ0_charAt_5068e
  | _ => yJ0_indexOf_0f7a4
def mLnkP (nm : Nat → MethodName) (o : Nat) (K : mLnk) : Prop :=
  (∀ e ∈ K.1, mFl (mOn o) e.1 e.2.1 e.2.2.1) ∧ (∀ e ∈ K.2.1, Cond.methodLink (mOn o) e.1 (nm e.2.1) ∈ mGt) ∧ (∀ e ∈ K.2.2.1, ∃ host, (mOn o, e.1, nm e.2, host) ∈ mNs) ∧
  (∀ e ∈ K.2.2.2.1, Cond.classLink (mOn o) e.1 (if e.2.1 = 99 then "[[I" else mCn e.2.1) ∈ mGt) ∧ (∀ e ∈ K.2.2.2.2.1, Cond.constant (mOn o) e.1 e.2.1 ∈ mGt) ∧ (∀ e ∈ K.2.2.2.2.2.1, Cond.constantLong (mOn o) e.1 e.2.1 ∈ mGt) ∧ ∀ e ∈ K.2.2.2.2.2.2, Cond.methodLink (mOn o) e.1 (mPn9 e.2.1) ∈ mGt
/-- one instruction -/
def mExB (L : List mInf) (K : mLnk) (o : Nat) (ini : Bool) (pc : Nat) (q : mOp) : Bool := match q.1 with
  | .iconst n => decide (q.2.1 = .int (Int32.ofInt n))
  | .bipush n => decide (q.2.1 = .int (Int8.ofInt n).toInt32)
  | .sipush n => decide (q.2.1 = .int (Int16.ofInt n).toInt32)
  | .lconst n => decide (q.2.1 = .long (Int64.ofNat n.val))
  | .ldc k => K.2.2.2.2.1.any (fun e => Nat.beq e.1 k && decide (q.2.1 = .int e.2.1)) || (Nat.beq o 9 && (Nat.beq k 26 && decide (q.2.1 = .retAddr 1) || Nat.beq k 81 && decide (q.2.1 = .retAddr 2)))
  | .ldc_w k => K.2.2.2.2.1.any (fun e => Nat.beq e.1 k && decide (q.2.1 = .int e.2.1))
  | .ldc2_w k => K.2.2.2.2.2.1.any (fun e => Nat.beq e.1 k && decide (q.2.1 = .long e.2.1))
  | .iinc _ n => decide (q.2.1 = .int (Int32.ofInt n))
  | .ifCond _ off => decide (q.2.2.map Int.ofNat = [(pc : Int) + off])
  | .if_icmp _ off => decide (q.2.2.map Int.ofNat = [(pc : Int) + off])
  | .goto off => decide (q.2.2.map Int.ofNat = [(pc : Int) + off])
  | .tableswitch d _ _ offs => decide (q.2.2.map Int.ofNat = ((pc : Int) + d) :: offs.toList.map (fun z => (pc : Int) + z))
  | .getfield k => K.1.any (fun e => Nat.beq e.1 k && decide (q.2.2 = [e.2.1, e.2.2.1]))
  | .putfield k => K.1.any (fun e => Nat.beq e.1 k && decide (q.2.2 = [e.2.1, e.2.2.1]) && (!(mTt e.2.1 e.2.2.1).2.2.2 || ini && decide ((mTt e.2.1 e.2.2.1).1 = mOn o)))
  | .new k => K.2.2.2.1.any (fun e => Nat.beq e.1 k && decide (q.2.2 = [e.2.1]) && Nat.blt e.2.1 13)
  | .newarray a => match a with
    | .int => decide (q.2.2 = [0])
    | .byte => decide (q.2.2 = [1])
    | .boolean => decide (q.2.2 = [2])
    | .long => decide (q.2.2 = [3])
    | _ => false
  | .multianewarray k d => Nat.beq d 2 && K.2.2.2.1.any (fun e => Nat.beq e.1 k && Nat.beq e.2.1 99)
  | .invokevirtual k => K.2.2.2.2.2.2.any (fun e => Nat.beq e.1 k && decide (q.2.2 = [e.2.1]) && Nat.blt 9004 e.2.1 && Nat.blt e.2.1 9008) || K.2.1.any (fun e => Nat.beq e.1 k && decide (q.2.2 = [e.2.1, (L.getD e.2.1 mI0).1.2.2.1 + 1, (L.getD e.2.1 mI0).1.1]) && Nat.blt e.2.1 L.length && Nat.beq (L.getD e.2.1 mI0).1.2.1 1)
  | .invokespecial k => K.2.2.2.2.2.2.any (fun e => Nat.beq e.1 k && decide (q.2.2 = [e.2.1]) && Nat.beq e.2.1 9004) || K.2.1.any (fun e => Nat.beq e.1 k && decide (q.2.2 = [e.2.1, (L.getD e.2.1 mI0).1.2.2.1 + 1, (L.getD e.2.1 mI0).1.1]) && Nat.blt e.2.1 L.length && Nat.beq (L.getD e.2.1 mI0).1.2.1 2) || K.2.2.1.any (fun e => Nat.beq e.1 k && decide (q.2.2 = [e.2, (L.getD e.2 mI0).1.2.2.1 + 1, (L.getD e.2 mI0).1.1]) && Nat.blt e.2 L.length && Nat.beq (L.getD e.2 mI0).1.2.1 2)
  | .invokestatic k => K.2.2.2.2.2.2.any (fun e => Nat.beq e.1 k && decide (q.2.2 = [e.2.1]) && Nat.blt 9000 e.2.1 && Nat.blt e.2.1 9004) || K.2.1.any (fun e => Nat.beq e.1 k && decide (q.2.2 = [e.2.1, (L.getD e.2.1 mI0).1.2.2.1]) && Nat.blt e.2.1 L.length && Nat.beq (L.getD e.2.1 mI0).1.2.1 0) || K.2.2.1.any (fun e => Nat.beq e.1 k && decide (q.2.2 = [e.2, (L.getD e.2 mI0).1.2.2.1]) && Nat.blt e.2 L.length && Nat.beq (L.getD e.2 mI0).1.2.1 0)
  | _ => true
def mDecB (cc : ByteArray) (pc : Nat) (i : Instr) : Bool := match decode cc pc with
  | .ok (j, n) => decide (j = i) && (Nat.beq n (mLen i) || (match i with | .tableswitch .. => true | _ => false))
  | _ => false
/-- a method but its code -/
def mMokP (f : mInf) : Prop := Cond.code f.2.1 f.2.2.1 f.2.2.2.1 f.2.2.2.2.1 ∈ mGt ∧ plainName f.2.1.cls = true ∧ (f.2.1.cls ≠ "java/lang/invoke/MethodHandle" ∧ f.2.1.cls ≠ "java/lang/invoke/VarHandle") ∧ Cond.initialized f.2.1.cls ∈ mGt ∧ f.2.2.2.1 ≤ 40 ∧ f.2.1.cls = mOn f.1.1 ∧
      (parseMethodDescriptor f.2.1.desc).map (fun q => q.parameters.length) = some f.1.2.2.1 ∧ (match f.1.2.1 with
        | 0 => Cond.static f.2.1 ∈ mGt
        | 1 => f.1.1 < 13 ∧ Cond.instanceMethod f.2.1 ∈ mGt ∧ Cond.selects f.2.1.cls f.2.1 f.2.1 ∈ mGt
        | _ => Cond.instanceMethod f.2.1 ∈ mGt ∧ f.2.1.name = "<init>" ∧ f.2.2.2.2.1 = none)
def mCodC (L : List mInf) (K : mLnk) (f : mInf) (l : List (Nat × mOp)) : Bool := l.all (fun e => mDecB f.2.2.1 e.1 e.2.1 && mExB L K f.1.1 (decide (f.2.1.name = "<init>")) e.1 e.2)
def mCodB (L : List mInf) (K : mLnk) (f : mInf) : Bool := mCodC L K f f.2.2.2.2.2
theorem mCodC_app {L : List mInf} {K : mLnk} {f : mInf} {a b : List (Nat × mOp)} (ha : mCodC L K f a = true) (hb : mCodC L K f b = true) : mCodC L K f (a ++ b) = true := by
  unfold mCodC at *
  rw [List.all_append, ha, hb]
  rfl
theorem mTgt {pc : Nat} {off : Int} {nt : List Nat} (h : nt.map Int.ofNat = [(pc : Int) + off]) : ∃ t : Nat, nt = [t] ∧ (pc : Int) + off = t := by
  match nt, h with
  | [t], h =>
    simp only [List.map_cons, List.map_nil, List.cons.injEq] at h
    exact ⟨t, rfl, h.1.symm⟩
  | [], h => cases h
  | _ :: _ :: _, h => simp at h
theorem mMok_of {L : List mInf} {y : Nat} (h : mMokP (L.getD y mI0)) : mMok (mPof L) y ∧ (L.getD y mI0).2.1.cls = mOn (L.getD y mI0).1.1 ∧ mPn (mPof L) y (L.getD y mI0).1.2.2.1 ∧ ((L.getD y mI0).1.2.1 = 0 → Cond.static (L.getD y mI0).2.1 ∈ mGt) ∧ ((L.getD y mI0).1.2.1 = 1 → (L.getD y mI0).1.1 < 13 ∧ Cond.instanceMethod (L.getD y mI0).2.1 ∈ mGt ∧ Cond.selects (L.getD y mI0).2.1.cls (L.getD y mI0).2.1 (L.getD y mI0).2.1 ∈ mGt) ∧
    ((L.getD y mI0).1.2.1 = 2 → Cond.instanceMethod (L.getD y mI0).2.1 ∈ mGt ∧ (L.getD y mI0).2.1.name = "<init>" ∧ (L.getD y mI0).2.2.2.2.1 = none) := by
  unfold mMok mPn mPof
  dsimp only
  generalize L.getD y mI0 = f at h ⊢
  obtain ⟨h1, h2, h3, h4, h5, h6, h7, h8⟩ := h
  refine ⟨⟨h1, h2, h3, h4, h5⟩, h6, h7, fun e => ?_, fun e => ?_, fun e => ?_⟩
  · rw [e] at h8
    exact h8
  · rw [e] at h8
    exact h8
  · rw [e] at h8
    exact h8
theorem mAny {α : Type} {l : List α} {p : α → Bool} (h : l.any p = true) : ∃ e ∈ l, p e = true := List.any_eq_true.mp h
theorem mOr {a b : Bool} (h : (a || b) = true) : a = true ∨ b = true := by simpa using h
theorem mEx_of {L : List mInf} {K : mLnk} {o pc : Nat} {own nm : String} {ini : Bool} {q : mOp} (hK : mLnkP (fun y => (L.getD y mI0).2.1) o K) (hM : ∀ y, y < L.length → mMokP (L.getD y mI0)) (hy : own = mOn o) (hini : ini = true → nm = "<init>") (h : mExB L K o ini pc q = true) : mExG (mPof L) L.length own nm pc q := by
  obtain ⟨k1, k2, k3, k4, k5, k6, k7⟩ := hK
  subst hy
  obtain ⟨ins, v, nt⟩ := q
  unfold mExB at h
  unfold mExG
  dsimp only at h ⊢
  split at h
  · exact of_decide_eq_true h
  · exact of_decide_eq_true h
  · exact of_decide_eq_true h
  · exact of_decide_eq_true h
  · rcases mOr h with h | h
    · obtain ⟨e, he, hb⟩ := mAny h
      obtain ⟨b1, b2⟩ := pt_bl hb
      have b1 := Nat.eq_of_beq_eq_true b1
      exact Or.inl ⟨e.2.1, of_decide_eq_true b2, by rw [← b1]; exact k5 e he⟩
    · obtain ⟨h0, h⟩ := pt_bl h
      have h0 := Nat.eq_of_beq_eq_true h0
      refine Or.inr ⟨by rw [h0]; rfl, ?_⟩
      rcases mOr h with h | h
      · obtain ⟨b1, b2⟩ := pt_bl h
        exact Or.inl ⟨Nat.eq_of_beq_eq_true b1, of_decide_eq_true b2⟩
      · obtain ⟨b1, b2⟩ := pt_bl h
        exact Or.inr ⟨Nat.eq_of_beq_eq_true b1, of_decide_eq_true b2⟩
  · obtain ⟨e, he, hb⟩ := mAny h
    obtain ⟨b1, b2⟩ := pt_bl hb
    have b1 := Nat.eq_of_beq_eq_true b1
    exact ⟨e.2.1, of_decide_eq_true b2, by rw [← b1]; exact k5 e he⟩
  · obtain ⟨e, he, hb⟩ := mAny h
    obtain ⟨b1, b2⟩ := pt_bl hb
    have b1 := Nat.eq_of_beq_eq_true b1
    exact ⟨e.2.1, of_decide_eq_true b2, by rw [← b1]; exact k6 e he⟩
  · exact of_decide_eq_true h
  · exact mTgt (of_decide_eq_true h)
  · exact mTgt (of_decide_eq_true h)
  · exact mTgt (of_decide_eq_true h)
  · next d lo hi offs =>
    have h := of_decide_eq_true h
    cases nt with
    | nil => cases h
    | cons td ts =>
      simp only [List.map_cons, List.cons.injEq] at h
      exact ⟨td, ts, rfl, h.1.symm, h.2.symm⟩
  · obtain ⟨e, he, hb⟩ := mAny h
    obtain ⟨b1, b2⟩ := pt_bl hb
    have b1 := Nat.eq_of_beq_eq_true b1
    exact ⟨e.2.1, e.2.2.1, of_decide_eq_true b2, by rw [← b1]; exact k1 e he⟩
  · obtain ⟨e, he, hb⟩ := mAny h
    obtain ⟨hb, b3⟩ := pt_bl hb
    obtain ⟨b1, b2⟩ := pt_bl hb
    have b1 := Nat.eq_of_beq_eq_true b1
    refine ⟨e.2.1, e.2.2.1, of_decide_eq_true b2, by rw [← b1]; exact k1 e he, ?_⟩
    rcases mOr b3 with b3 | b3
    · exact Or.inl (by simpa using b3)
    · obtain ⟨b4, b5⟩ := pt_bl b3
      cases h9 : (mTt e.2.1 e.2.2.1).2.2.2 with
      | false => exact Or.inl rfl
      | true => exact Or.inr ⟨rfl, hini b4, of_decide_eq_true b5⟩
  · obtain ⟨e, he, hb⟩ := mAny h
    obtain ⟨hb, b3⟩ := pt_bl hb
    obtain ⟨b1, b2⟩ := pt_bl hb
    have b1 := Nat.eq_of_beq_eq_true b1
    have b3 := Nat.blt_eq.mp b3
    have b4 := k4 e he
    rw [if_neg (by omega)] at b4
    exact ⟨e.2.1, of_decide_eq_true b2, b3, by rw [← b1]; exact b4⟩
  · split at h
    · exact ⟨0, of_decide_eq_true h, Or.inl ⟨rfl, rfl⟩⟩
    · exact ⟨1, of_decide_eq_true h, Or.inr (Or.inl ⟨rfl, rfl⟩)⟩
    · exact ⟨2, of_decide_eq_true h, Or.inr (Or.inr (Or.inl ⟨rfl, rfl⟩))⟩
    · exact ⟨3, of_decide_eq_true h, Or.inr (Or.inr (Or.inr ⟨rfl, rfl⟩))⟩
    · cases h
  · obtain ⟨h0, h⟩ := pt_bl h
    obtain ⟨e, he, hb⟩ := mAny h
    obtain ⟨b1, b2⟩ := pt_bl hb
    have b1 := Nat.eq_of_beq_eq_true b1
    have b4 := k4 e he
    rw [if_pos (Nat.eq_of_beq_eq_true b2)] at b4
    exact ⟨Nat.eq_of_beq_eq_true h0, by rw [← b1]; exact b4⟩
  · rcases mOr h with h | h
    · obtain ⟨e, he, hb⟩ := mAny h
      obtain ⟨hb, b4⟩ := pt_bl hb
      obtain ⟨hb, b3⟩ := pt_bl hb
      obtain ⟨b1, b2⟩ := pt_bl hb
      have b1 := Nat.eq_of_beq_eq_true b1
      have b2 : nt = [e.2.1] := of_decide_eq_true b2
      have b3 := Nat.blt_eq.mp b3
      have b4 := Nat.blt_eq.mp b4
      have b5 := k7 e he
      rw [b1] at b5
      refine Or.inl ?_
      have hc : e.2.1 = 9005 ∨ e.2.1 = 9006 ∨ e.2.1 = 9007 := by omega
      rcases hc with hc | hc | hc <;> rw [hc] at b2 b5
      · exact Or.inl ⟨b2, b5⟩
      · exact Or.inr (Or.inl ⟨b2, b5⟩)
      · exact Or.inr (Or.inr ⟨b2, b5⟩)
    · obtain ⟨e, he, hb⟩ := mAny h
      obtain ⟨hb, b4⟩ := pt_bl hb
      obtain ⟨hb, b3⟩ := pt_bl hb
      obtain ⟨b1, b2⟩ := pt_bl hb
      have b1 := Nat.eq_of_beq_eq_true b1
      have b3 := Nat.blt_eq.mp b3
      have b4 := Nat.eq_of_beq_eq_true b4
      obtain ⟨m1, m2, m3, m4, m5, m6⟩ := mMok_of (hM _ b3)
      obtain ⟨c1, c2, c3⟩ := m5 b4
      refine Or.inr ⟨_, _, _, of_decide_eq_true b2, b3, c1, ?_, by rw [← b1]; exact k2 e he, c2, c3, m3⟩
      show mCn _ = (L.getD e.2.1 mI0).2.1.cls
      rw [m2]
      unfold mOn
      split
      · omega
      · omega
      · rfl
  · rcases mOr h with h | h
    · rcases mOr h with h | h
      · obtain ⟨e, he, hb⟩ := mAny h
        obtain ⟨hb, b3⟩ := pt_bl hb
        obtain ⟨b1, b2⟩ := pt_bl hb
        have b1 := Nat.eq_of_beq_eq_true b1
        have b2 : nt = [e.2.1] := of_decide_eq_true b2
        have b3 := Nat.eq_of_beq_eq_true b3
        have b5 := k7 e he
        rw [b1, b3] at b5
        rw [b3] at b2
        exact Or.inl ⟨b2, b5⟩
      · obtain ⟨e, he, hb⟩ := mAny h
        obtain ⟨hb, b4⟩ := pt_bl hb
        obtain ⟨hb, b3⟩ := pt_bl hb
        obtain ⟨b1, b2⟩ := pt_bl hb
        have b1 := Nat.eq_of_beq_eq_true b1
        have b3 := Nat.blt_eq.mp b3
        have b4 := Nat.eq_of_beq_eq_true b4
        obtain ⟨m1, m2, m3, m4, m5, m6⟩ := mMok_of (hM _ b3)
        obtain ⟨c1, c2, c3⟩ := m6 b4
        exact Or.inr ⟨_, _, _, of_decide_eq_true b2, b3, Or.inl (by rw [← b1]; exact k2 e he), c1, c2, c3, m3⟩
    · obtain ⟨e, he, hb⟩ := mAny h
      obtain ⟨hb, b4⟩ := pt_bl hb
      obtain ⟨hb, b3⟩ := pt_bl hb
      obtain ⟨b1, b2⟩ := pt_bl hb
      have b1 := Nat.eq_of_beq_eq_true b1
      have b3 := Nat.blt_eq.mp b3
      have b4 := Nat.eq_of_beq_eq_true b4
      obtain ⟨m1, m2, m3, m4, m5, m6⟩ := mMok_of (hM _ b3)
      obtain ⟨c1, c2, c3⟩ := m6 b4
      exact Or.inr ⟨_, _, _, of_decide_eq_true b2, b3, Or.inr (by rw [← b1]; exact k3 e he), c1, c2, c3, m3⟩
  · rcases mOr h with h | h
    · rcases mOr h with h | h
      · obtain ⟨e, he, hb⟩ := mAny h
        obtain ⟨hb, b4⟩ := pt_bl hb
        obtain ⟨hb, b3⟩ := pt_bl hb
        obtain ⟨b1, b2⟩ := pt_bl hb
        have b1 := Nat.eq_of_beq_eq_true b1
        have b2 : nt = [e.2.1] := of_decide_eq_true b2
        have b3 := Nat.blt_eq.mp b3
        have b4 := Nat.blt_eq.mp b4
        have b5 := k7 e he
        rw [b1] at b5
        have hc : e.2.1 = 9001 ∨ e.2.1 = 9002 ∨ e.2.1 = 9003 := by omega
        rcases hc with hc | hc | hc <;> rw [hc] at b2 b5
        · exact Or.inl ⟨b2, b5⟩
        · exact Or.inr (Or.inl ⟨b2, b5⟩)
        · exact Or.inr (Or.inr (Or.inl ⟨b2, b5⟩))
      · obtain ⟨e, he, hb⟩ := mAny h
        obtain ⟨hb, b4⟩ := pt_bl hb
        obtain ⟨hb, b3⟩ := pt_bl hb
        obtain ⟨b1, b2⟩ := pt_bl hb
        have b1 := Nat.eq_of_beq_eq_true b1
        have b3 := Nat.blt_eq.mp b3
        have b4 := Nat.eq_of_beq_eq_true b4
        obtain ⟨m1, m2, m3, m4, m5, m6⟩ := mMok_of (hM _ b3)
        exact Or.inr (Or.inr (Or.inr ⟨_, _, of_decide_eq_true b2, b3, Or.inl (by rw [← b1]; exact k2 e he), m4 b4, m3⟩))
    · obtain ⟨e, he, hb⟩ := mAny h
      obtain ⟨hb, b4⟩ := pt_bl hb
      obtain ⟨hb, b3⟩ := pt_bl hb
      obtain ⟨b1, b2⟩ := pt_bl hb
      have b1 := Nat.eq_of_beq_eq_true b1
      have b3 := Nat.blt_eq.mp b3
      have b4 := Nat.eq_of_beq_eq_true b4
      obtain ⟨m1, m2, m3, m4, m5, m6⟩ := mMok_of (hM _ b3)
      exact Or.inr (Or.inr (Or.inr ⟨_, _, of_decide_eq_true b2, b3, Or.inr (by rw [← b1]; exact k3 e he), m4 b4, m3⟩))
  · split <;> first | trivial | exact (‹∀ (d low high : Int) (offs : Array Int), Instr.tableswitch _ _ _ _ = Instr.tableswitch d low high offs → False› _ _ _ _ rfl).elim | simp_all
theorem mDec_of {cc : ByteArray} {pc : Nat} {i : Instr} (h : mDecB cc pc i = true) : mDec cc pc i := by
  unfold mDecB at h
  split at h
  · next j n hd =>
    obtain ⟨h1, h2⟩ := pt_bl h
    have h1 := of_decide_eq_true h1
    subst h1
    rcases mOr h2 with h2 | h2
    · have h2 := Nat.eq_of_beq_eq_true h2
      subst h2
      unfold mDec
      split
      · exact ⟨_, hd⟩
      · exact hd
    · split at h2
      · exact ⟨_, hd⟩
      · cases h2
  · cases h
theorem mOp_of {L : List mInf} {K : mLnk} {y : Nat} (hK : mLnkP (fun y => (L.getD y mI0).2.1) (L.getD y mI0).1.1 K) (hM : ∀ y, y < L.length → mMokP (L.getD y mI0)) (hy : y < L.length) (h : mCodB L K (L.getD y mI0) = true) : ∀ pc o, (mPof L).2.2.2.2 y pc = some o → mOpOk (mPof L) L.length y pc o := by
  intro pc o ho
  have hm : (pc, o) ∈ (L.getD y mI0).2.2.2.2.2 := by
    have ho : (L.getD y mI0).2.2.2.2.2.lookup pc = some o := ho
    generalize (L.getD y mI0).2.2.2.2.2 = l at ho
    induction l with
    | nil => cases ho
    | cons a l ih =>
      obtain ⟨k, v⟩ := a
      rw [List.lookup_cons] at ho
      split at ho
      · next hk =>
        cases ho
        have hk : pc = k := by simpa using hk
        subst hk
        exact List.mem_cons_self
      · exact List.mem_cons_of_mem _ (ih ho)
  obtain ⟨h1, h2⟩ := pt_bl (List.all_eq_true.mp h _ hm)
  exact ⟨mDec_of h1, mEx_of hK hM (mMok_of (hM y hy)).2.1 (fun e => of_decide_eq_true e) h2⟩
