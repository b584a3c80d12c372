/-! THE CHECKS of the code, 24 -/
set_option maxRecDepth 100000 in
theorem cod_308 : mCodB mL lk_13 mi_308 = true := by decide +kernel
