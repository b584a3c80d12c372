/-! THE ABSTRACT MACHINE: cells by their numbers (0, 1 .. in the order in which they were made), ints, longs and references in three tables; one step an instruction; calls by a relation. -/
/-- how many cells, how many slots, the kind of each (a class, or 20 + the sort of array; its length), references (0: null, j + 1: cell j), ints, longs -/
abbrev mMem : Type := Nat × Nat × (Nat → Nat × Nat) × (Nat → Nat → Nat) × (Nat → Nat → Int32) × (Nat → Nat → Int64)
abbrev mFr : Type := Nat × List (Option Value) × List Value × mMem
/-- an instruction, the constant that it pushes, the numbers that it links to -/
abbrev mOp : Type := Instr × Value × List Nat
abbrev mCl : List vw_C := [(RX0, TX0, 6), (RX1, TX1, 10), (RX2, TX2, 7), (RX3, TX3, 4), (RX4, TX4, 12), (RX5, TX5, 7), (RX6, TX6, 2), (RX7, TX7, 7), (RX8, TX8, 2), (RX9, TX9, 5), (RX10, TX10, 8), (RX11, TX11, 15), (RX12, TX12, 69)]
def mCn (ci : Nat) : String := match ci with
  | 0 => RX0 | 1 => RX1 | 2 => RX2 | 3 => RX3 | 4 => RX4 | 5 => RX5 | 6 => RX6 | 7 => RX7 | 8 => RX8 | 9 => RX9 | 10 => RX10 | 11 => RX11 | _ => RX12
def mTt (ci : Nat) : u_T := match ci with
  | 0 => TX0 | 1 => TX1 | 2 => TX2 | 3 => TX3 | 4 => TX4 | 5 => TX5 | 6 => TX6 | 7 => TX7 | 8 => TX8 | 9 => TX9 | 10 => TX10 | 11 => TX11 | _ => TX12
def mTy (ci : Nat) : Nat → FieldType := match ci with
  | 0 => tyX0 | 1 => tyX1 | 2 => tyX2 | 3 => tyX3 | 4 => tyX4 | 5 => tyX5 | 6 => tyX6 | 7 => tyX7 | 8 => tyX8 | 9 => tyX9 | 10 => tyX10 | 11 => tyX11 | _ => tyX12
def mNF (ci : Nat) : Nat := match ci with
  | 0 => 6 | 1 => 10 | 2 => 7 | 3 => 4 | 4 => 12 | 5 => 7 | 6 => 2 | 7 => 7 | 8 => 2 | 9 => 5 | 10 => 8 | 11 => 15 | _ => 69
def mIsR (ci k : Nat) : Bool := match mTy ci k with
  | .int => false
  | .boolean => false
  | _ => true
theorem mCl_at : ∀ ci, ci < 13 → mCl[ci]? = some (mCn ci, mTt ci, mNF ci)
  | 0, _ => rfl | 1, _ => rfl | 2, _ => rfl | 3, _ => rfl | 4, _ => rfl | 5, _ => rfl | 6, _ => rfl | 7, _ => rfl | 8, _ => rfl | 9, _ => rfl | 10, _ => rfl | 11, _ => rfl | 12, _ => rfl
  | n + 13, h => absurd h (by omega)
theorem mTy_ok : ∀ ci, ci < 13 → ∀ k, k < mNF ci → parseFieldDescriptor (mTt ci k).2.2.1 = some (mTy ci k)
  | 0, _ => tyX0_ok | 1, _ => tyX1_ok | 2, _ => tyX2_ok | 3, _ => tyX3_ok | 4, _ => tyX4_ok | 5, _ => tyX5_ok | 6, _ => tyX6_ok | 7, _ => tyX7_ok | 8, _ => tyX8_ok | 9, _ => tyX9_ok | 10, _ => tyX10_ok | 11, _ => tyX11_ok | 12, _ => tyX12_ok
  | n + 13, h => absurd h (by omega)
theorem mNm_ok : ∀ ci, ci < 13 → ∀ a, a < mNF ci → ∀ b, b < mNF ci → a ≠ b → (mTt ci a).2.1 ≠ (mTt ci b).2.1
  | 0, _ => nmX0 | 1, _ => nmX1 | 2, _ => nmX2 | 3, _ => nmX3 | 4, _ => nmX4 | 5, _ => nmX5 | 6, _ => nmX6 | 7, _ => nmX7 | 8, _ => nmX8 | 9, _ => nmX9 | 10, _ => nmX10 | 11, _ => nmX11 | 12, _ => nmX12
  | n + 13, h => absurd h (by omega)
theorem mTy_in : ∀ ci, ci < 13 → ∀ k, k < mNF ci → (mTy ci k = .int ∨ mTy ci k = .boolean ∨ (∃ n, mTy ci k = .object n) ∨ ∃ t, mTy ci k = .array t) := by
  intro ci h k hk
  cases h9 : mTy ci k with
  | int => exact Or.inl rfl
  | boolean => exact Or.inr (Or.inl rfl)
  | object n => exact Or.inr (Or.inr (Or.inl ⟨n, rfl⟩))
  | array t => exact Or.inr (Or.inr (Or.inr ⟨t, rfl⟩))
  | _ =>
    have h2 : ∀ ci, ci < 13 → ∀ k, k < mNF ci → (match mTy ci k with | .int => true | .boolean => true | .object _ => true | .array _ => true | _ => false) = true := by decide +kernel
    have h3 := h2 ci h k hk
    rw [h9] at h3
    cases h3
/-- the words that move: a method needs its own code, and these -/
def mGt : List Cond := lw_tbl.filter goodWord
theorem mGt_sub : ∀ w ∈ mGt, w ∈ lw_tbl := fun _ h => (List.mem_filter.mp h).1
theorem mGt_good : GoodIn mGt mGt := fun w h => ⟨h, good_of_word (List.mem_filter.mp h).2⟩
def mRo (base r : Nat) : Option Nat := match r with
  | 0 => none
  | j + 1 => some (base + j)
/-- a value of the abstract machine as the machine has it: .ref j is cell j, .retAddr j a thing from outside (0: the script; 1 ..: texts) -/
def mCv (base : Nat) (xa : Nat → Nat) (v : Value) : Value := match v with
  | .ref j => .ref (base + j)
  | .retAddr j => .ref (xa j)
  | v => v
def mFs (base : Nat) (ci : Nat) (R : Nat → Nat) (I : Nat → Int32) : List Value := (List.range (mNF ci)).map (fun k => if mIsR ci k then va_rf (mRo base (R k)) else .int (I k))
def mCell (base : Nat) (cA : Nat → ClassId) (σ : mMem) (i : Nat) : va_E :=
  if (σ.2.2.1 i).1 < 20 then .inr ((σ.2.2.1 i).1, mFs base (σ.2.2.1 i).1 (σ.2.2.2.1 i) (σ.2.2.2.2.1 i))
  else if (σ.2.2.1 i).1 = 23 then .inl (cA 3, (σ.2.2.1 i).2, .inr (.inl (σ.2.2.2.2.2 i)))
  else if (σ.2.2.1 i).1 = 24 then .inl (cA 4, (σ.2.2.1 i).2, .inr (.inr (.inr (.inr (fun j => mRo base (σ.2.2.2.1 i j))))))
  else .inl (cA ((σ.2.2.1 i).1 - 20), (σ.2.2.1 i).2, .inl (σ.2.2.2.2.1 i))
def mWs (base : Nat) (cA : Nat → ClassId) (σ : mMem) : va_W := (List.range σ.1).map (fun i => (base + i, mCell base cA σ i))
def mTys (cA : Nat → ClassId) : List (ClassId × FieldType) := [(cA 0, .int), (cA 1, .byte), (cA 2, .boolean), (cA 3, .long), (cA 4, .array .int)]
abbrev mA (base : Nat) : Nat → Prop := fun q => base ≤ q
theorem mWs_at {base : Nat} {cA : Nat → ClassId} {σ : mMem} {i : Nat} (h : i < σ.1) : (mWs base cA σ)[i]? = some (base + i, mCell base cA σ i) := by
  simp [mWs, h]
theorem mWs_len {base : Nat} {cA : Nat → ClassId} {σ : mMem} : (mWs base cA σ).length = σ.1 := by simp [mWs]
theorem mWs_D {base : Nat} {cA : Nat → ClassId} {σ : mMem} : va_D (mA base) (mWs base cA σ) := by
  have key : ∀ (k : Nat) (q : Nat × va_E), (mWs base cA σ)[k]? = some q → q.1 = base + k := by
    intro k q h
    have hk : k < σ.1 := by
      have := (List.getElem?_eq_some_iff.mp h).1
      rwa [mWs_len] at this
    rw [mWs_at hk] at h
    cases h
    rfl
  refine ⟨fun i j p q hi hj e => ?_, fun k q h => ?_⟩
  · rw [key i p hi, key j q hj] at e
    omega
  · rw [key k q h]
    exact Nat.le_add_right _ _
/-- one cell changed -/
theorem mWs_set {base : Nat} {cA : Nat → ClassId} {σ τ : mMem} {i : Nat} {e : va_E} (hn : τ.1 = σ.1) (hi : mCell base cA τ i = e) (ho : ∀ j, j ≠ i → mCell base cA τ j = mCell base cA σ j) : mWs base cA τ = (mWs base cA σ).set i (base + i, e) := by
  apply List.ext_getElem?
  intro j
  rw [List.getElem?_set]
  by_cases hj : j < σ.1
  · rw [mWs_at (hn ▸ hj)]
    by_cases h : i = j
    · subst h
      rw [if_pos rfl, mWs_len, if_pos hj, hi]
    · rw [if_neg h, mWs_at hj, ho j (fun q => h q.symm)]
  · rw [List.getElem?_eq_none (by rw [mWs_len, hn]; omega)]
    by_cases h : i = j
    · subst h
      rw [if_pos rfl, mWs_len, if_neg hj]
    · rw [if_neg h, List.getElem?_eq_none (by rw [mWs_len]; omega)]
/-- a cell more -/
theorem mWs_push {base : Nat} {cA : Nat → ClassId} {σ τ : mMem} {e : va_E} (hn : τ.1 = σ.1 + 1) (hi : mCell base cA τ σ.1 = e) (ho : ∀ j, j < σ.1 → mCell base cA τ j = mCell base cA σ j) : mWs base cA τ = mWs base cA σ ++ [(base + σ.1, e)] := by
  unfold mWs
  rw [hn, List.range_succ, List.map_append]
  congr 1
  · apply List.map_congr_left
    intro j hj
    rw [ho j (List.mem_range.mp hj)]
  · simp [hi]
theorem mFs_at {base ci : Nat} {R : Nat → Nat} {I : Nat → Int32} {k : Nat} (h : k < mNF ci) : (mFs base ci R I)[k]? = some (if mIsR ci k then va_rf (mRo base (R k)) else .int (I k)) := by
  simp [mFs, h]
theorem mFs_len {base ci : Nat} {R : Nat → Nat} {I : Nat → Int32} : (mFs base ci R I).length = mNF ci := by simp [mFs]
theorem mFs_setI {base ci : Nat} {R : Nat → Nat} {I : Nat → Int32} {k : Nat} {x : Int32} (h : mIsR ci k = false) : mFs base ci R (upd I k x) = (mFs base ci R I).set k (.int x) := by
  apply List.ext_getElem?
  intro j
  rw [List.getElem?_set]
  by_cases hj : j < mNF ci
  · rw [mFs_at hj]
    by_cases hk : k = j
    · subst hk
      rw [if_pos rfl, mFs_len, if_pos hj, h]
      simp [upd]
    · rw [if_neg hk, mFs_at hj]
      have hk2 : ¬ j = k := fun q => hk q.symm
      simp [upd, hk2]
  · rw [List.getElem?_eq_none (by rw [mFs_len]; omega)]
    by_cases hk : k = j
    · subst hk
      rw [if_pos rfl, mFs_len, if_neg hj]
    · rw [if_neg hk, List.getElem?_eq_none (by rw [mFs_len]; omega)]
theorem mFs_setR {base ci : Nat} {R : Nat → Nat} {I : Nat → Int32} {k : Nat} {x : Nat} (h : mIsR ci k = true) : mFs base ci (va_up R k (x + 1)) I = (mFs base ci R I).set k (.ref (base + x)) := by
  apply List.ext_getElem?
  intro j
  rw [List.getElem?_set]
  by_cases hj : j < mNF ci
  · rw [mFs_at hj]
    by_cases hk : k = j
    · subst hk
      rw [if_pos rfl, mFs_len, if_pos hj, h]
      simp [va_up, mRo, va_rf]
    · rw [if_neg hk, mFs_at hj]
      have hk2 : ¬ j = k := fun q => hk q.symm
      simp [va_up, hk2]
  · rw [List.getElem?_eq_none (by rw [mFs_len]; omega)]
    by_cases hk : k = j
    · subst hk
      rw [if_pos rfl, mFs_len, if_neg hj]
    · rw [if_neg hk, List.getElem?_eq_none (by rw [mFs_len]; omega)]
theorem mCv_cat (base : Nat) (xa : Nat → Nat) (v : Value) : (mCv base xa v).category = v.category := by cases v <;> rfl
