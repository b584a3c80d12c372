/-! THE CELLS once both objects are made: the class's are 0 .. 63, the model's 64 .. 110 -/
def mK0l : List (Nat × Nat) := [(11, 0), (8, 0), (21, 2000), (1, 0), (2, 0), (20, 9), (20, 408), (20, 4), (20, 32), (20, 4), (20, 4), (20, 5), (20, 5), (20, 5), (4, 0), (1, 0), (2, 0), (20, 9), (20, 408), (20, 4), (20, 32), (20, 4), (20, 4), (20, 5), (20, 5), (20, 5), (9, 0), (23, 20), (21, 401), (20, 401), (23, 401), (23, 4), (23, 5), (20, 32), (20, 44), (6, 0), (20, 1760), (6, 0), (20, 132), (10, 0), (20, 44), (20, 5), (20, 4), (20, 5), (3, 0), (7, 0), (20, 5), (20, 25), (20, 24), (20, 5), (0, 0), (24, 7), (20, 44), (20, 44), (20, 44), (20, 44), (20, 44), (20, 44), (20, 44), (5, 0), (20, 20), (20, 20), (22, 20), (20, 4), (12, 0), (21, 2000), (21, 2000), (20, 403), (20, 403), (20, 403), (23, 403), (23, 20), (23, 9), (20, 9), (20, 2), (20, 2), (20, 8), (20, 8), (20, 2), (20, 10), (20, 10), (20, 10), (20, 2), (20, 8), (20, 8), (22, 260), (20, 260), (20, 260), (20, 260), (20, 260), (20, 840), (20, 840), (20, 64), (20, 9), (20, 400), (20, 29), (20, 29), (20, 5), (20, 1160), (20, 2005), (20, 2005), (20, 32), (20, 7), (20, 10556), (20, 364), (20, 20), (20, 20), (22, 20), (20, 124), (22, 3), (20, 87)]
def mR0l : List (List Nat) := [[2, 4, 15, 35, 36, 38, 40, 45, 46, 51, 60, 0, 0, 0, 0], [3, 0], [], [5, 10, 11, 12, 13, 14, 0, 0, 0, 0], [6, 7, 8, 9, 0, 0, 0], [], [], [], [], [], [], [], [], [], [16, 27, 32, 33, 34, 0, 0, 0, 0, 0, 0, 0], [17, 22, 23, 24, 25, 26, 0, 0, 0, 0], [18, 19, 20, 21, 0, 0, 0], [], [], [], [], [], [], [], [], [], [28, 29, 30, 31, 0], [], [], [], [], [], [], [], [], [37, 0], [], [39, 0], [], [41, 42, 0, 0, 4, 43, 44, 0], [], [], [], [], [0, 0, 4, 40], [0, 47, 4, 40, 48, 49, 50], [], [], [], [], [0, 4, 40, 52, 0, 0], [53, 54, 55, 56, 57, 58, 59], [], [], [], [], [], [], [], [0, 4, 40, 61, 62, 63, 64], [], [], [], [], [0, 66, 0, 67, 0, 68, 69, 70, 71, 72, 0, 0, 0, 0, 0, 0, 0, 0, 0, 0, 0, 73, 74, 75, 76, 77, 78, 79, 80, 81, 82, 83, 84, 85, 0, 86, 87, 88, 89, 90, 0, 91, 92, 93, 0, 94, 95, 0, 96, 97, 0, 0, 98, 0, 99, 100, 101, 102, 0, 103, 104, 105, 0, 106, 107, 108, 109, 110, 111], [], [], [], [], [], [], [], [], [], [], [], [], [], [], [], [], [], [], [], [], [], [], [], [], [], [], [], [], [], [], [], [], [], [], [], [], [], [], [], [], [], [], [], [], [], []]
def mK0 (a : Nat) : Nat × Nat := mK0l.getD a (0, 0)
def mR0 (a k : Nat) : Nat := (mR0l.getD a []).getD k 0
/-- what changes: ints, longs -/
abbrev mS : Type := (Nat → Nat → Int32) × (Nat → Nat → Int64)
def mSS (M : mS) : mMem := (111, 32460, mK0, mR0, M.1, M.2)
def mWI (M : mS) (a k : Nat) (x : Int32) : mS := (mUI M.1 a k x, M.2)
def mWL (M : mS) (a k : Nat) (x : Int64) : mS := (M.1, mUL M.2 a k x)
def mWW (M : mS) (a : Nat) (g : Nat → Int32) : mS := (va_up M.1 a g, M.2)
def mCd (y : Nat) : Nat → Option mOp := mP.2.2.2.2 y
abbrev mEE (c : Nat → List Value → mMem → Option Value → mMem → Prop) (ret : Option FieldType) (r : Option Value) (M' : mS) : mEnv := ((0, fun _ => 0), mTx, c, ret, r, mSS M')
/-- a check -/
def grd {α : Type} (b : Bool) (x : Option α) : Option α := bif b then x else none
theorem grd_of {α : Type} {b : Bool} {x : Option α} {y : α} (h : grd b x = some y) : b = true ∧ x = some y := mCb h
def nz {α : Type} (x : Int32) (y : Option α) : Option α := if x = 0 then none else y
theorem nz_of {α : Type} {x : Int32} {y : Option α} {z : α} (h : nz x y = some z) : ¬ x = 0 ∧ y = some z := by
  unfold nz at h
  split at h
  · cases h
  · next h1 => exact ⟨h1, h⟩
section Rul
variable {cd : Nat → Option mOp} {E : mEnv} {pc : Nat} {ls : List (Option Value)} {r : List Value} {M : mS} {σ : mMem}
theorem R_iald {i : Int32} {a : Nat} (hc : cd pc = some (.iaload, .null, [])) (hk : (Nat.blt a 111 && Nat.beq (mK0 a).1 20) = true) (hg : mIn i (mK0 a).2 = true) (h : mRunF cd E (pc + 1, ls, .int (M.1 a i.toNatClampNeg) :: r, mSS M)) : mRunF cd E (pc, ls, .int i :: .ref a :: r, mSS M) := mRunF.one hc (And.intro hk (And.intro hg h))
theorem R_bald {i : Int32} {a : Nat} (hc : cd pc = some (.baload, .null, [])) (hk : (Nat.blt a 111 && (Nat.beq (mK0 a).1 21 || Nat.beq (mK0 a).1 22)) = true) (hg : mIn i (mK0 a).2 = true) (h : mRunF cd E (pc + 1, ls, .int (M.1 a i.toNatClampNeg) :: r, mSS M)) : mRunF cd E (pc, ls, .int i :: .ref a :: r, mSS M) := mRunF.one hc (And.intro hk (And.intro hg h))
theorem R_lald {i : Int32} {a : Nat} (hc : cd pc = some (.laload, .null, [])) (hk : (Nat.blt a 111 && Nat.beq (mK0 a).1 23) = true) (hg : mIn i (mK0 a).2 = true) (h : mRunF cd E (pc + 1, ls, .long (M.2 a i.toNatClampNeg) :: r, mSS M)) : mRunF cd E (pc, ls, .int i :: .ref a :: r, mSS M) := mRunF.one hc (And.intro hk (And.intro hg h))
theorem R_aald {i : Int32} {a j : Nat} (hc : cd pc = some (.aaload, .null, [])) (hk : (Nat.blt a 111 && Nat.beq (mK0 a).1 24) = true) (hg : mIn i (mK0 a).2 = true) (hj : mR0 a i.toNatClampNeg = j + 1) (h : mRunF cd E (pc + 1, ls, .ref j :: r, mSS M)) : mRunF cd E (pc, ls, .int i :: .ref a :: r, mSS M) := mRunF.one hc (And.intro hk (And.intro hg (by
  show (match mR0 a i.toNatClampNeg with | 0 => False | j + 1 => mRunF cd E (pc + 1, ls, .ref j :: r, mSS M))
  rw [hj]; exact h)))
theorem R_iast {x i : Int32} {a : Nat} (hc : cd pc = some (.iastore, .null, [])) (hk : (Nat.blt a 111 && Nat.beq (mK0 a).1 20) = true) (hg : mIn i (mK0 a).2 = true) (h : mRunF cd E (pc + 1, ls, r, mSS (mWI M a i.toNatClampNeg x))) : mRunF cd E (pc, ls, .int x :: .int i :: .ref a :: r, mSS M) := mRunF.one hc (And.intro hk (And.intro hg h))
theorem R_bast {x i : Int32} {a : Nat} (hc : cd pc = some (.bastore, .null, [])) (hk : (Nat.blt a 111 && Nat.beq (mK0 a).1 21) = true) (hg : mIn i (mK0 a).2 = true) (h : mRunF cd E (pc + 1, ls, r, mSS (mWI M a i.toNatClampNeg (vp_nar .byte x)))) : mRunF cd E (pc, ls, .int x :: .int i :: .ref a :: r, mSS M) := by
  obtain ⟨h1, h2⟩ := pt_bl hk
  refine mRunF.one hc (And.intro h1 (And.intro hg ?_))
  show (match (mK0 a).1 with | 21 => _ | 22 => _ | _ => False)
  rw [Nat.eq_of_beq_eq_true h2]; exact h
theorem R_zast {x i : Int32} {a : Nat} (hc : cd pc = some (.bastore, .null, [])) (hk : (Nat.blt a 111 && Nat.beq (mK0 a).1 22) = true) (hg : mIn i (mK0 a).2 = true) (h : mRunF cd E (pc + 1, ls, r, mSS (mWI M a i.toNatClampNeg (vp_nar .boolean x)))) : mRunF cd E (pc, ls, .int x :: .int i :: .ref a :: r, mSS M) := by
  obtain ⟨h1, h2⟩ := pt_bl hk
  refine mRunF.one hc (And.intro h1 (And.intro hg ?_))
  show (match (mK0 a).1 with | 21 => _ | 22 => _ | _ => False)
  rw [Nat.eq_of_beq_eq_true h2]; exact h
theorem R_last {x : Int64} {i : Int32} {a : Nat} (hc : cd pc = some (.lastore, .null, [])) (hk : (Nat.blt a 111 && Nat.beq (mK0 a).1 23) = true) (hg : mIn i (mK0 a).2 = true) (h : mRunF cd E (pc + 1, ls, r, mSS (mWL M a i.toNatClampNeg x))) : mRunF cd E (pc, ls, .long x :: .int i :: .ref a :: r, mSS M) := mRunF.one hc (And.intro hk (And.intro hg h))
theorem R_div {x y : Int32} (hc : cd pc = some (.idiv, .null, [])) (hg : ¬ y = 0) (h : mRunF cd E (pc + 1, ls, .int (x / y) :: r, σ)) : mRunF cd E (pc, ls, .int y :: .int x :: r, σ) := mRunF.one hc (And.intro hg h)
theorem R_rem {x y : Int32} (hc : cd pc = some (.irem, .null, [])) (hg : ¬ y = 0) (h : mRunF cd E (pc + 1, ls, .int (x - x / y * y) :: r, σ)) : mRunF cd E (pc, ls, .int y :: .int x :: r, σ) := mRunF.one hc (And.intro hg h)
theorem R_copy {n dp sp : Int32} {a1 a0 : Nat} (hc : ∃ k, cd pc = some (.invokestatic k, .null, [9001])) (hk : (Nat.blt a0 111 && Nat.blt a1 111 && Nat.beq (mK0 a0).1 20 && Nat.beq (mK0 a1).1 20) = true) (hs : Nat.ble ((r.map fun v => v.category).sum) 8 = true)
    (hg : (!(decide (sp < 0)) && !(decide (dp < 0)) && !(decide (n < 0)) && Nat.ble (sp.toNatClampNeg + n.toNatClampNeg) (mK0 a0).2 && Nat.ble (dp.toNatClampNeg + n.toNatClampNeg) (mK0 a1).2) = true) (h : mRunF cd E (pc + 3, ls, r, mSS (mWW M a1 (va_cpy (M.1 a0) (M.1 a1) sp.toNatClampNeg dp.toNatClampNeg n.toNatClampNeg)))) : mRunF cd E (pc, ls, .int n :: .int dp :: .ref a1 :: .int sp :: .ref a0 :: r, mSS M) := by
  obtain ⟨k, hc⟩ := hc
  exact mRunF.one hc (And.intro hk (And.intro (Nat.le_of_ble_eq_true hs) (And.intro hg h)))
theorem R_max {x y : Int32} (hc : ∃ k, cd pc = some (.invokestatic k, .null, [9002])) (hs : Nat.ble ((r.map fun v => v.category).sum) 8 = true) (h : mRunF cd E (pc + 3, ls, .int (if x < y then y else x) :: r, σ)) : mRunF cd E (pc, ls, .int y :: .int x :: r, σ) := by
  obtain ⟨k, hc⟩ := hc
  exact mRunF.one hc (And.intro (Nat.le_of_ble_eq_true hs) h)
theorem R_min {x y : Int32} (hc : ∃ k, cd pc = some (.invokestatic k, .null, [9003])) (hs : Nat.ble ((r.map fun v => v.category).sum) 8 = true) (h : mRunF cd E (pc + 3, ls, .int (if y < x then y else x) :: r, σ)) : mRunF cd E (pc, ls, .int y :: .int x :: r, σ) := by
  obtain ⟨k, hc⟩ := hc
  exact mRunF.one hc (And.intro (Nat.le_of_ble_eq_true hs) h)
theorem R_sidx {c : Int32} {j : Nat} (hc : ∃ k, cd pc = some (.invokevirtual k, .null, [9007])) (hs : Nat.ble ((r.map fun v => v.category).sum) 8 = true) (hg : (decide (0 ≤ c) && decide (c < 256)) = true) (h : mRunF cd E (pc + 3, ls, .int (mIdx c (E.2.1 j) 0) :: r, σ)) : mRunF cd E (pc, ls, .int c :: .retAddr (j + 1) :: r, σ) := by
  obtain ⟨k, hc⟩ := hc
  obtain ⟨h1, h2⟩ := pt_bl hg
  exact mRunF.one hc (And.intro (Nat.le_of_ble_eq_true hs) (And.intro ⟨of_decide_eq_true h1, of_decide_eq_true h2⟩ h))
/-- a call: as the arguments stand on the stack, the last on top -/
theorem R_callS {mi na : Nat} {as : List Value} {rv : Option Value} {σ1 : mMem} {st : List Value} (hc : ∃ k, cd pc = some (.invokestatic k, .null, [mi, na])) (hst : st = as.reverse ++ r) (hn : as.length = na) (hs : Nat.ble ((r.map fun v => v.category).sum) 8 = true) (hm : E.2.2.1 mi as σ rv σ1) (h : mRunF cd E (pc + 3, ls, rv.toList ++ r, σ1)) : mRunF cd E (pc, ls, st, σ) := by
  obtain ⟨k, hc⟩ := hc
  exact mRunF.one hc (show kCall E mi na (pc, ls, st, σ) (mRunF cd E) from ⟨as, r, rv, σ1, hst, hn, Nat.le_of_ble_eq_true hs, hm, h⟩)
theorem R_callV {mi na ci i : Nat} {as : List Value} {rv : Option Value} {σ1 : mMem} {st : List Value} (hc : ∃ k, cd pc = some (.invokevirtual k, .null, [mi, na, ci])) (hst : st = as.reverse ++ (.ref i :: r)) (hn : as.length + 1 = na) (hk : (Nat.blt i σ.1 && Nat.beq (σ.2.2.1 i).1 ci) = true) (hs : Nat.ble ((r.map fun v => v.category).sum) 8 = true) (hm : E.2.2.1 mi (.ref i :: as) σ rv σ1) (h : mRunF cd E (pc + 3, ls, rv.toList ++ r, σ1)) : mRunF cd E (pc, ls, st, σ) := by
  obtain ⟨k, hc⟩ := hc
  exact mRunF.one hc (show kCallV E mi na ci (pc, ls, st, σ) (mRunF cd E) from ⟨i, as, r, rv, σ1, hst, hn, hk, Nat.le_of_ble_eq_true hs, hm, h⟩)
/-- branches -/
theorem R_eq {x : Int32} {t : Nat} (hc : ∃ o, cd pc = some (.ifCond .eq o, .null, [t])) (h1 : x = 0 → mRunF cd E (t, ls, r, σ)) (h2 : ¬ x = 0 → mRunF cd E (pc + 3, ls, r, σ)) : mRunF cd E (pc, ls, .int x :: r, σ) := by obtain ⟨k, hc⟩ := hc; exact mRunF.one hc (And.intro h1 h2)
theorem R_ne {x : Int32} {t : Nat} (hc : ∃ o, cd pc = some (.ifCond .ne o, .null, [t])) (h1 : x = 0 → mRunF cd E (pc + 3, ls, r, σ)) (h2 : ¬ x = 0 → mRunF cd E (t, ls, r, σ)) : mRunF cd E (pc, ls, .int x :: r, σ) := by obtain ⟨k, hc⟩ := hc; exact mRunF.one hc (And.intro h1 h2)
theorem R_lt {x : Int32} {t : Nat} (hc : ∃ o, cd pc = some (.ifCond .lt o, .null, [t])) (h1 : x < 0 → mRunF cd E (t, ls, r, σ)) (h2 : ¬ x < 0 → mRunF cd E (pc + 3, ls, r, σ)) : mRunF cd E (pc, ls, .int x :: r, σ) := by obtain ⟨k, hc⟩ := hc; exact mRunF.one hc (And.intro h1 h2)
theorem R_ge {x : Int32} {t : Nat} (hc : ∃ o, cd pc = some (.ifCond .ge o, .null, [t])) (h1 : 0 ≤ x → mRunF cd E (t, ls, r, σ)) (h2 : ¬ 0 ≤ x → mRunF cd E (pc + 3, ls, r, σ)) : mRunF cd E (pc, ls, .int x :: r, σ) := by obtain ⟨k, hc⟩ := hc; exact mRunF.one hc (And.intro h1 h2)
theorem R_gt {x : Int32} {t : Nat} (hc : ∃ o, cd pc = some (.ifCond .gt o, .null, [t])) (h1 : 0 < x → mRunF cd E (t, ls, r, σ)) (h2 : ¬ 0 < x → mRunF cd E (pc + 3, ls, r, σ)) : mRunF cd E (pc, ls, .int x :: r, σ) := by obtain ⟨k, hc⟩ := hc; exact mRunF.one hc (And.intro h1 h2)
theorem R_le {x : Int32} {t : Nat} (hc : ∃ o, cd pc = some (.ifCond .le o, .null, [t])) (h1 : x ≤ 0 → mRunF cd E (t, ls, r, σ)) (h2 : ¬ x ≤ 0 → mRunF cd E (pc + 3, ls, r, σ)) : mRunF cd E (pc, ls, .int x :: r, σ) := by obtain ⟨k, hc⟩ := hc; exact mRunF.one hc (And.intro h1 h2)
theorem R_ieq {x y : Int32} {t : Nat} (hc : ∃ o, cd pc = some (.if_icmp .eq o, .null, [t])) (h1 : x = y → mRunF cd E (t, ls, r, σ)) (h2 : ¬ x = y → mRunF cd E (pc + 3, ls, r, σ)) : mRunF cd E (pc, ls, .int y :: .int x :: r, σ) := by obtain ⟨k, hc⟩ := hc; exact mRunF.one hc (And.intro h1 h2)
theorem R_ine {x y : Int32} {t : Nat} (hc : ∃ o, cd pc = some (.if_icmp .ne o, .null, [t])) (h1 : x = y → mRunF cd E (pc + 3, ls, r, σ)) (h2 : ¬ x = y → mRunF cd E (t, ls, r, σ)) : mRunF cd E (pc, ls, .int y :: .int x :: r, σ) := by obtain ⟨k, hc⟩ := hc; exact mRunF.one hc (And.intro h1 h2)
theorem R_ilt {x y : Int32} {t : Nat} (hc : ∃ o, cd pc = some (.if_icmp .lt o, .null, [t])) (h1 : x < y → mRunF cd E (t, ls, r, σ)) (h2 : ¬ x < y → mRunF cd E (pc + 3, ls, r, σ)) : mRunF cd E (pc, ls, .int y :: .int x :: r, σ) := by obtain ⟨k, hc⟩ := hc; exact mRunF.one hc (And.intro h1 h2)
theorem R_ige {x y : Int32} {t : Nat} (hc : ∃ o, cd pc = some (.if_icmp .ge o, .null, [t])) (h1 : y ≤ x → mRunF cd E (t, ls, r, σ)) (h2 : ¬ y ≤ x → mRunF cd E (pc + 3, ls, r, σ)) : mRunF cd E (pc, ls, .int y :: .int x :: r, σ) := by obtain ⟨k, hc⟩ := hc; exact mRunF.one hc (And.intro h1 h2)
theorem R_igt {x y : Int32} {t : Nat} (hc : ∃ o, cd pc = some (.if_icmp .gt o, .null, [t])) (h1 : y < x → mRunF cd E (t, ls, r, σ)) (h2 : ¬ y < x → mRunF cd E (pc + 3, ls, r, σ)) : mRunF cd E (pc, ls, .int y :: .int x :: r, σ) := by obtain ⟨k, hc⟩ := hc; exact mRunF.one hc (And.intro h1 h2)
theorem R_ile {x y : Int32} {t : Nat} (hc : ∃ o, cd pc = some (.if_icmp .le o, .null, [t])) (h1 : x ≤ y → mRunF cd E (t, ls, r, σ)) (h2 : ¬ x ≤ y → mRunF cd E (pc + 3, ls, r, σ)) : mRunF cd E (pc, ls, .int y :: .int x :: r, σ) := by obtain ⟨k, hc⟩ := hc; exact mRunF.one hc (And.intro h1 h2)
theorem R_swc {x : Int32} {lo hi : Int} {td t : Nat} {ts : List Nat} (hc : ∃ d offs, cd pc = some (.tableswitch d lo hi offs, .null, td :: ts)) (j : Nat) (hx : x.toInt = lo + j) (hj : lo + j ≤ hi) (ht : ts[j]? = some t) (h : mRunF cd E (t, ls, r, σ)) : mRunF cd E (pc, ls, .int x :: r, σ) := by
  obtain ⟨d, offs, hc⟩ := hc
  refine mRunF.one hc (show kSw lo hi td ts (pc, ls, .int x :: r, σ) (mRunF cd E) from ⟨fun q => absurd q (by omega), fun _ => ⟨t, ?_, h⟩⟩)
  rw [show (x.toInt - lo).toNat = j by omega]; exact ht
theorem R_swd {x : Int32} {lo hi : Int} {td : Nat} {ts : List Nat} (hc : ∃ d offs, cd pc = some (.tableswitch d lo hi offs, .null, td :: ts)) (hx : x.toInt < lo ∨ hi < x.toInt) (h : mRunF cd E (td, ls, r, σ)) : mRunF cd E (pc, ls, .int x :: r, σ) := by
  obtain ⟨d, offs, hc⟩ := hc
  exact mRunF.one hc (show kSw lo hi td ts (pc, ls, .int x :: r, σ) (mRunF cd E) from ⟨fun _ => h, fun q => absurd hx q⟩)
/-- ends -/
theorem R_vret {X : Nat × (Nat → Int32)} {Tx : Nat → List Int32} {c : Nat → List Value → mMem → Option Value → mMem → Prop} (hc : cd pc = some (.return_, .null, [])) : mRunF cd (X, Tx, c, none, none, σ) (pc, ls, [], σ) := mRunF.one hc (And.intro rfl (And.intro rfl (And.intro rfl rfl)))
theorem R_iret {X : Nat × (Nat → Int32)} {Tx : Nat → List Int32} {c : Nat → List Value → mMem → Option Value → mMem → Prop} {v : Int32} (hc : cd pc = some (.ireturn, .null, [])) : mRunF cd (X, Tx, c, some .int, some (.int v), σ) (pc, ls, [.int v], σ) := mRunF.one hc (Exists.intro v (And.intro rfl (And.intro (Or.inl rfl) (And.intro rfl rfl))))
theorem R_zret {X : Nat × (Nat → Int32)} {Tx : Nat → List Int32} {c : Nat → List Value → mMem → Option Value → mMem → Prop} {v : Int32} (hc : cd pc = some (.ireturn, .null, [])) (hv : v = 0 ∨ v = 1) : mRunF cd (X, Tx, c, some .boolean, some (.int v), σ) (pc, ls, [.int v], σ) := mRunF.one hc (Exists.intro v (And.intro rfl (And.intro (Or.inr ⟨rfl, hv⟩) (And.intro rfl rfl))))
theorem R_lret {X : Nat × (Nat → Int32)} {Tx : Nat → List Int32} {c : Nat → List Value → mMem → Option Value → mMem → Prop} {v : Int64} (hc : cd pc = some (.lreturn, .null, [])) : mRunF cd (X, Tx, c, some .long, some (.long v), σ) (pc, ls, [.long v], σ) := mRunF.one hc (Exists.intro v (And.intro rfl (And.intro (rfl) (And.intro rfl rfl))))
end Rul
