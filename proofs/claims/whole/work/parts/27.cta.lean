/-! THE CONSTRUCTORS run -/
def iEq (a b : iOp) : Bool := Nat.beq a.1 b.1 && Nat.beq a.2.1 b.2.1 && Nat.beq a.2.2.1 b.2.2.1 && Nat.beq a.2.2.2.1 b.2.2.2.1 && Nat.beq a.2.2.2.2.1 b.2.2.2.2.1 && Nat.beq a.2.2.2.2.2.1 b.2.2.2.2.2.1 && decide (a.2.2.2.2.2.2.1 = b.2.2.2.2.2.2.1) && decide (a.2.2.2.2.2.2.2 = b.2.2.2.2.2.2.2)
theorem iEq_s {a b : iOp} (h : iEq a b = true) : a = b := by
  obtain ⟨a1, a2, a3, a4, a5, a6, a7, a8⟩ := a
  obtain ⟨b1, b2, b3, b4, b5, b6, b7, b8⟩ := b
  unfold iEq at h
  obtain ⟨h, h8⟩ := pt_bl h
  obtain ⟨h, h7⟩ := pt_bl h
  obtain ⟨h, h6⟩ := pt_bl h
  obtain ⟨h, h5⟩ := pt_bl h
  obtain ⟨h, h4⟩ := pt_bl h
  obtain ⟨h, h3⟩ := pt_bl h
  obtain ⟨h1, h2⟩ := pt_bl h
  have k1 := Nat.eq_of_beq_eq_true h1
  have k2 := Nat.eq_of_beq_eq_true h2
  have k3 := Nat.eq_of_beq_eq_true h3
  have k4 := Nat.eq_of_beq_eq_true h4
  have k5 := Nat.eq_of_beq_eq_true h5
  have k6 := Nat.eq_of_beq_eq_true h6
  have k7 := of_decide_eq_true h7
  have k8 := of_decide_eq_true h8
  clear h h1 h2 h3 h4 h5 h6 h7 h8
  dsimp only at k1 k2 k3 k4 k5 k6 k7 k8
  subst k1 k2 k3 k4 k5 k6 k7 k8
  rfl
def iEqL : List iOp → List iOp → Bool
  | [], [] => true
  | a :: l, b :: m => iEq a b && iEqL l m
  | _, _ => false
theorem iEqL_s : ∀ {l m : List iOp}, iEqL l m = true → l = m
  | [], [], _ => rfl
  | a :: l, b :: m, h => by
    unfold iEqL at h
    obtain ⟨h1, h2⟩ := pt_bl h
    rw [iEq_s h1, iEqL_s h2]
  | [], _ :: _, h => by cases h
  | _ :: _, [], h => by cases h
def iChk (r : Option (Option Value × List iOp)) (lz : List iOp) : Bool := match r with
  | some (none, l) => iEqL l lz
  | _ => false
theorem iMet_k {P : mPrg} {n d y : Nat} {as : List Value} {l lz : List iOp} (h : iChk (iRun P n d y (0, mEnt as ++ List.replicate (P.2.2.1 y - (mEnt as).length) none, [], l)) lz = true) (h2 : (Nat.ble (iMem l).1 (iMem lz).1 && Nat.ble (iMem l).2.1 (iMem lz).2.1 && Nat.ble (mEnt as).length (P.2.2.1 y)) = true) : mMet P mTx (d + 1) y as (iMem l) none (iMem lz) := by
  unfold iChk at h
  split at h
  · next l' e =>
    have q := iEqL_s h
    subst q
    exact iMet_s e h2
  · cases h
set_option maxRecDepth 1000000 in
theorem ctB_k : iChk (iRun mP 3000 12 103 (0, mEnt [Value.ref 0] ++ List.replicate (mP.2.2.1 103 - (mEnt [Value.ref 0]).length) none, [], lgA)) lgB = true := by decide +kernel
set_option maxRecDepth 1000000 in
theorem ctB_n : (Nat.ble (iMem lgA).1 (iMem lgB).1 && Nat.ble (iMem lgA).2.1 (iMem lgB).2.1 && Nat.ble (mEnt [Value.ref 0]).length (mP.2.2.1 103)) = true := by decide +kernel
set_option maxRecDepth 1000000 in
theorem ctB : mMet mP mTx 13 103 [.ref 0] (iMem lgA) none (iMem lgB) := iMet_k (P := mP) (n := 3000) (d := 12) (y := 103) (as := [.ref 0]) (l := lgA) (lz := lgB) ctB_k ctB_n
