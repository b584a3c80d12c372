/-! PURE WORDS: memory of what changes, checks, combinators -/
def mIn (i : Int32) (n : Nat) : Bool := !(decide (i < 0)) && Nat.blt i.toNatClampNeg n
def mUI (I : Nat → Nat → Int32) (i k : Nat) (x : Int32) : Nat → Nat → Int32 := fun a => if a = i then upd (I i) k x else I a
def mUL (I : Nat → Nat → Int64) (i k : Nat) (x : Int64) : Nat → Nat → Int64 := fun a => if a = i then vp_updL (I i) k x else I a
def mIdx (c : Int32) : List Int32 → Nat → Int32
  | [], _ => -1
  | b :: l, k => if b = c then nI k else mIdx c l (k + 1)
def mBytS : List (List Int32) := [[104, 111, 117, 114, 115, 32, 100, 105, 97, 108, 32, 103, 111, 101, 114, 32, 99, 111, 109, 101, 115, 32, 115, 116, 97, 121, 115, 32, 119, 111, 114, 116, 104, 32, 100, 105, 109, 115, 32, 115, 101, 101, 100, 32, 105, 102, 32, 116, 104, 101, 110, 32, 101, 108, 115, 101, 32, 110, 105, 103, 104, 116, 32, 111, 117, 116, 32, 115, 108, 105, 112, 32, 102, 114, 111, 109, 32, 108, 111, 110, 103, 32, 109, 101, 116, 32, 119, 104, 105, 99, 104, 32, 100, 97, 121, 32, 103, 111, 101, 114, 115, 32], [59, 61, 43, 45, 42, 47, 60, 40, 41]]
def mTx (j : Nat) : List Int32 := mBytS.getD j []
/-- what changes: ints, longs -/
abbrev mS : Type := (Nat → Nat → Int32) × (Nat → Nat → Int64)
def mWI (M : mS) (a k : Nat) (x : Int32) : mS := (mUI M.1 a k x, M.2)
def mWL (M : mS) (a k : Nat) (x : Int64) : mS := (M.1, mUL M.2 a k x)
def mWW (M : mS) (a : Nat) (g : Nat → Int32) : mS := (va_up M.1 a g, M.2)
/-- a check -/
def grd {α : Type} (b : Bool) (x : Option α) : Option α := bif b then x else none
theorem grd_of {α : Type} {b : Bool} {x : Option α} {y : α} (h : grd b x = some y) : b = true ∧ x = some y := by
  cases b
  · cases h
  · exact ⟨rfl, h⟩
def nz {α : Type} (x : Int32) (y : Option α) : Option α := if x = 0 then none else y
theorem nz_of {α : Type} {x : Int32} {y : Option α} {z : α} (h : nz x y = some z) : ¬ x = 0 ∧ y = some z := by
  unfold nz at h
  split at h
  · cases h
  · next h1 => exact ⟨h1, h⟩
def nxt {α β : Type} (x : α) (f : α → β) : β := f x
theorem nxt_ex {α β : Type} {x : α} {f : α → β} {y : β} (h : nxt x f = y) : ∃ v, v = x ∧ f v = y := ⟨x, rfl, h⟩
theorem nxt_of {α β : Type} {x : α} {f : α → β} {y : β} (h : nxt x f = y) : f x = y := h
def ushr (x y : Int32) : Int32 := (x.toUInt32 >>> (y.toUInt32 &&& Int32.toUInt32 31)).toInt32
def bV {β : Type} (x : Option mS) (f : mS → Option β) : Option β := match x with
  | some M => f M
  | none => none
theorem bV_of {β : Type} {x : Option mS} {f : mS → Option β} {y : β} (h : bV x f = some y) : ∃ M, x = some M ∧ f M = some y := by
  unfold bV at h
  split at h
  · exact ⟨_, rfl, h⟩
  · cases h
def bU {β : Type} (x : Option Unit) (f : Unit → Option β) : Option β := match x with
  | some u => f u
  | none => none
theorem bU_of {β : Type} {x : Option Unit} {f : Unit → Option β} {y : β} (h : bU x f = some y) : x = some () ∧ f () = some y := by
  unfold bU at h
  split at h
  · exact ⟨rfl, h⟩
  · cases h
def bW {α β : Type} (x : Option (α × mS)) (f : α → mS → Option β) : Option β := match x with
  | some (r, M) => f r M
  | none => none
theorem bW_of {α β : Type} {x : Option (α × mS)} {f : α → mS → Option β} {y : β} (h : bW x f = some y) : ∃ r M, x = some (r, M) ∧ f r M = some y := by
  unfold bW at h
  split at h
  · exact ⟨_, _, rfl, h⟩
  · cases h
def bR {α β : Type} (x : Option α) (f : α → Option β) : Option β := match x with
  | some r => f r
  | none => none
theorem bR_of {α β : Type} {x : Option α} {f : α → Option β} {y : β} (h : bR x f = some y) : ∃ r, x = some r ∧ f r = some y := by
  unfold bR at h
  split at h
  · exact ⟨_, rfl, h⟩
  · cases h
