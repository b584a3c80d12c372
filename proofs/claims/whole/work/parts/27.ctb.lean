/-! the other constructor -/
set_option maxRecDepth 1000000 in
theorem ctD_k : iChk (iRun mP 3000 12 173 (0, mEnt [Value.ref 64] ++ List.replicate (mP.2.2.1 173 - (mEnt [Value.ref 64]).length) none, [], lgC)) lgD = true := by decide +kernel
set_option maxRecDepth 1000000 in
theorem ctD_n : (Nat.ble (iMem lgC).1 (iMem lgD).1 && Nat.ble (iMem lgC).2.1 (iMem lgD).2.1 && Nat.ble (mEnt [Value.ref 64]).length (mP.2.2.1 173)) = true := by decide +kernel
set_option maxRecDepth 1000000 in
theorem ctD : mMet mP mTx 13 173 [.ref 64] (iMem lgC) none (iMem lgD) := iMet_k (P := mP) (n := 3000) (d := 12) (y := 173) (as := [.ref 64]) (l := lgC) (lz := lgD) ctD_k ctD_n
