/-! THE CHECKS of the code, 0 -/
set_option maxRecDepth 100000 in
theorem cod_0 : mCodB mL lk_0 mi_0 = true := by decide +kernel
set_option maxRecDepth 100000 in
theorem cod_1 : mCodB mL lk_0 mi_1 = true := by decide +kernel
set_option maxRecDepth 100000 in
theorem cod_2 : mCodB mL lk_0 mi_2 = true := by decide +kernel
set_option maxRecDepth 100000 in
theorem cod_3 : mCodB mL lk_0 mi_3 = true := by decide +kernel
set_option maxRecDepth 100000 in
theorem cod_4 : mCodB mL lk_1 mi_4 = true := by decide +kernel
set_option maxRecDepth 100000 in
theorem cod_5 : mCodB mL lk_1 mi_5 = true := by decide +kernel
set_option maxRecDepth 100000 in
theorem cod_6 : mCodB mL lk_1 mi_6 = true := by decide +kernel
set_option maxRecDepth 100000 in
theorem cod_7 : mCodB mL lk_1 mi_7 = true := by decide +kernel
set_option maxRecDepth 100000 in
theorem cod_8 : mCodB mL lk_1 mi_8 = true := by decide +kernel
set_option maxRecDepth 100000 in
theorem cod_9 : mCodB mL lk_2 mi_9 = true := by decide +kernel
set_option maxRecDepth 100000 in
theorem cod_10 : mCodB mL lk_2 mi_10 = true := by decide +kernel
set_option maxRecDepth 100000 in
theorem cod_11 : mCodB mL lk_2 mi_11 = true := by decide +kernel
set_option maxRecDepth 100000 in
theorem cod_12 : mCodB mL lk_2 mi_12 = true := by decide +kernel
