/-! THE CHECKS of the code, 2 -/
set_option maxRecDepth 100000 in
theorem cod_24 : mCodB mL lk_3 mi_24 = true := by decide +kernel
set_option maxRecDepth 100000 in
theorem cod_25 : mCodB mL lk_3 mi_25 = true := by decide +kernel
set_option maxRecDepth 100000 in
theorem cod_26 : mCodB mL lk_3 mi_26 = true := by decide +kernel
set_option maxRecDepth 100000 in
theorem cod_27 : mCodB mL lk_4 mi_27 = true := by decide +kernel
set_option maxRecDepth 100000 in
theorem cod_28 : mCodB mL lk_4 mi_28 = true := by decide +kernel
set_option maxRecDepth 100000 in
theorem cod_29 : mCodB mL lk_4 mi_29 = true := by decide +kernel
set_option maxRecDepth 100000 in
theorem cod_30 : mCodB mL lk_4 mi_30 = true := by decide +kernel
set_option maxRecDepth 100000 in
theorem cod_31 : mCodB mL lk_4 mi_31 = true := by decide +kernel
set_option maxRecDepth 100000 in
theorem cod_32 : mCodB mL lk_4 mi_32 = true := by decide +kernel
set_option maxRecDepth 100000 in
theorem cod_33 : mCodB mL lk_4 mi_33 = true := by decide +kernel
set_option maxRecDepth 100000 in
theorem cod_34 : mCodB mL lk_4 mi_34 = true := by decide +kernel
