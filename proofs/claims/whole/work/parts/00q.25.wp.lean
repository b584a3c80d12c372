/-! WHAT A FUNCTION COMES TO: it is some value, of which P holds -/
def ok {α : Type} (x : Option α) (P : α → Prop) : Prop := ∃ y, x = some y ∧ P y
theorem ok_some {α : Type} {y : α} {P : α → Prop} : ok (some y) P ↔ P y := by
  constructor
  · rintro ⟨z, h, hp⟩
    cases h
    exact hp
  · exact fun h => ⟨y, rfl, h⟩
theorem ok_mk {α : Type} {x : Option α} {y : α} {P : α → Prop} (h : x = some y) (hp : P y) : ok x P := ⟨y, h, hp⟩
theorem ok_mono {α : Type} {x : Option α} {P Q : α → Prop} (h : ok x P) (hq : ∀ y, P y → Q y) : ok x Q := by
  obtain ⟨y, h1, h2⟩ := h
  exact ⟨y, h1, hq y h2⟩
theorem ok_grd {α : Type} {b : Bool} {x : Option α} {P : α → Prop} : ok (grd b x) P ↔ b = true ∧ ok x P := by
  constructor
  · rintro ⟨y, h, hp⟩
    obtain ⟨h1, h2⟩ := grd_of h
    exact ⟨h1, y, h2, hp⟩
  · rintro ⟨rfl, h⟩
    exact h
theorem ok_nz {α : Type} {z : Int32} {x : Option α} {P : α → Prop} : ok (nz z x) P ↔ ¬ z = 0 ∧ ok x P := by
  constructor
  · rintro ⟨y, h, hp⟩
    obtain ⟨h1, h2⟩ := nz_of h
    exact ⟨h1, y, h2, hp⟩
  · rintro ⟨h1, h⟩
    unfold nz
    rw [if_neg h1]
    exact h
theorem ok_nxt {α β : Type} {x : α} {f : α → Option β} {P : β → Prop} : ok (nxt x f) P ↔ ok (f x) P := Iff.rfl
theorem ok_bV {β : Type} {x : Option mS} {f : mS → Option β} {P : β → Prop} : ok (bV x f) P ↔ ok x (fun M => ok (f M) P) := by
  cases x with
  | none => constructor <;> (rintro ⟨_, h, _⟩; cases h)
  | some M => exact (ok_some (P := fun M => ok (f M) P)).symm
theorem ok_bU {β : Type} {x : Option Unit} {f : Unit → Option β} {P : β → Prop} : ok (bU x f) P ↔ ok x (fun u => ok (f u) P) := by
  cases x with
  | none => constructor <;> (rintro ⟨_, h, _⟩; cases h)
  | some M => exact (ok_some (P := fun u => ok (f u) P)).symm
theorem ok_bR {α β : Type} {x : Option α} {f : α → Option β} {P : β → Prop} : ok (bR x f) P ↔ ok x (fun r => ok (f r) P) := by
  cases x with
  | none => constructor <;> (rintro ⟨_, h, _⟩; cases h)
  | some M => exact (ok_some (P := fun r => ok (f r) P)).symm
theorem ok_bW {α β : Type} {x : Option (α × mS)} {f : α → mS → Option β} {P : β → Prop} : ok (bW x f) P ↔ ok x (fun q => ok (f q.1 q.2) P) := by
  cases x with
  | none => constructor <;> (rintro ⟨_, h, _⟩; cases h)
  | some M => exact (ok_some (P := fun q : α × mS => ok (f q.1 q.2) P)).symm
theorem ok_if {α : Type} {c : Prop} {_ : Decidable c} {a b : Option α} {P : α → Prop} : ok (if c then a else b) P ↔ (c → ok a P) ∧ (¬ c → ok b P) := by
  by_cases h : c
  · rw [if_pos h]; exact ⟨fun q => ⟨fun _ => q, fun n => absurd h n⟩, fun q => q.1 h⟩
  · rw [if_neg h]; exact ⟨fun q => ⟨fun n => absurd n h, fun _ => q⟩, fun q => q.2 h⟩
/-! memory -/
theorem mWI_ne {M : mS} {a b k : Nat} {x : Int32} (h : b ≠ a) : (mWI M a k x).1 b = M.1 b := if_neg h
theorem mWI_eq {M : mS} {a k : Nat} {x : Int32} : (mWI M a k x).1 a = upd (M.1 a) k x := if_pos rfl
theorem mWI_at {M : mS} {a k : Nat} {x : Int32} : (mWI M a k x).1 a k = x := by rw [mWI_eq]; exact if_pos rfl
theorem mWI_off {M : mS} {a k j : Nat} {x : Int32} (h : j ≠ k) : (mWI M a k x).1 a j = M.1 a j := by rw [mWI_eq]; exact if_neg h
theorem mWI_L {M : mS} {a k : Nat} {x : Int32} : (mWI M a k x).2 = M.2 := rfl
theorem mWL_I {M : mS} {a k : Nat} {x : Int64} : (mWL M a k x).1 = M.1 := rfl
theorem mWL_ne {M : mS} {a b k : Nat} {x : Int64} (h : b ≠ a) : (mWL M a k x).2 b = M.2 b := if_neg h
theorem mWL_eq {M : mS} {a k : Nat} {x : Int64} : (mWL M a k x).2 a = vp_updL (M.2 a) k x := if_pos rfl
theorem mWW_ne {M : mS} {a b : Nat} {g : Nat → Int32} (h : b ≠ a) : (mWW M a g).1 b = M.1 b := if_neg h
theorem mWW_eq {M : mS} {a : Nat} {g : Nat → Int32} : (mWW M a g).1 a = g := if_pos rfl
theorem mWW_L {M : mS} {a : Nat} {g : Nat → Int32} : (mWW M a g).2 = M.2 := rfl
/-- only these cells changed -/
def sm (cs : List Nat) (M M' : mS) : Prop := (∀ c, c ∉ cs → M'.1 c = M.1 c) ∧ ∀ c, c ∉ cs → M'.2 c = M.2 c
theorem sm.refl {cs : List Nat} {M : mS} : sm cs M M := ⟨fun _ _ => rfl, fun _ _ => rfl⟩
theorem sm.trans {cs : List Nat} {A B C : mS} (h : sm cs A B) (g : sm cs B C) : sm cs A C := ⟨fun c hc => (g.1 c hc).trans (h.1 c hc), fun c hc => (g.2 c hc).trans (h.2 c hc)⟩
theorem sm.mono {cs ds : List Nat} {A B : mS} (h : sm cs A B) (hs : ∀ c ∈ cs, c ∈ ds) : sm ds A B := ⟨fun c hc => h.1 c (fun q => hc (hs c q)), fun c hc => h.2 c (fun q => hc (hs c q))⟩
theorem sm.wI {cs : List Nat} {A B : mS} (h : sm cs A B) {a k : Nat} {x : Int32} (ha : a ∈ cs) : sm cs A (mWI B a k x) := ⟨fun c hc => by rw [mWI_ne (fun q => hc (by rw [q]; exact ha))]; exact h.1 c hc, fun c hc => h.2 c hc⟩
theorem sm.wL {cs : List Nat} {A B : mS} (h : sm cs A B) {a k : Nat} {x : Int64} (ha : a ∈ cs) : sm cs A (mWL B a k x) := ⟨fun c hc => h.1 c hc, fun c hc => by rw [mWL_ne (fun q => hc (by rw [q]; exact ha))]; exact h.2 c hc⟩
theorem sm.wW {cs : List Nat} {A B : mS} (h : sm cs A B) {a : Nat} {g : Nat → Int32} (ha : a ∈ cs) : sm cs A (mWW B a g) := ⟨fun c hc => by rw [mWW_ne (fun q => hc (by rw [q]; exact ha))]; exact h.1 c hc, fun c hc => h.2 c hc⟩
/-! numbers -/
theorem li (n : Nat) : (OfNat.ofNat n : Int32) = nI n := rfl
theorem li0 : (0 : Int32) = nI 0 := rfl
theorem ix {e : Int32} {n : Nat} (h : e = nI n) (hn : n < 2147483648) : e.toNatClampNeg = n := by rw [h]; exact nI_clamp hn
theorem inx {e : Int32} {n N : Nat} (h : e = nI n) (hn : n < N) (hN : N < 2147483648) : mIn e N = true := by
  unfold mIn
  rw [ix h (by omega), h]
  have h1 : ¬ nI n < 0 := nI_pos (by omega)
  simp only [h1, decide_false, Bool.not_false, Bool.true_and]
  exact Nat.blt_eq.mpr hn
