/-! the layout, by the kernel -/
/-- references that are set lie low -/
def iRlo (l : List iOp) : Bool := l.all fun o => (!(Nat.beq o.1 3) || (Nat.blt o.2.1 111 && Nat.blt o.2.2.1 70)) && (Nat.blt o.1 5 || Nat.ble o.2.1 70)
set_option maxRecDepth 1000000 in
theorem lay_n : (iMem lgD).1 = 111 ∧ (iMem lgD).2.1 = 32460 := by decide +kernel
set_option maxRecDepth 1000000 in
theorem lay_r : iRlo lgD = true := by decide +kernel
set_option maxRecDepth 1000000 in
theorem lay_k : ((List.range 111).all fun a => decide ((iMem lgD).2.2.1 a = mK0 a)) = true := by decide +kernel
set_option maxRecDepth 1000000 in
theorem lay_q : ((List.range 111).all fun a => (List.range 70).all fun k => Nat.beq ((iMem lgD).2.2.2.1 a k) (mR0 a k)) = true := by decide +kernel
set_option maxRecDepth 1000000 in
theorem lay_l : (Nat.beq mK0l.length 111 && Nat.beq mR0l.length 111 && mR0l.all fun r => Nat.ble r.length 70) = true := by decide +kernel
