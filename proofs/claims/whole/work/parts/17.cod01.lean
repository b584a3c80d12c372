/-! THE CHECKS of the code, 1 -/
set_option maxRecDepth 100000 in
theorem cod_13 : mCodB mL lk_2 mi_13 = true := by decide +kernel
set_option maxRecDepth 100000 in
theorem cod_14 : mCodB mL lk_2 mi_14 = true := by decide +kernel
set_option maxRecDepth 100000 in
theorem cod_15 : mCodB mL lk_2 mi_15 = true := by decide +kernel
set_option maxRecDepth 100000 in
theorem cod_16 : mCodB mL lk_2 mi_16 = true := by decide +kernel
set_option maxRecDepth 100000 in
theorem cod_17_0 : mCodC mL lk_2 mi_17 mk_17_0 = true := by decide +kernel
set_option maxRecDepth 100000 in
theorem cod_17_1 : mCodC mL lk_2 mi_17 mk_17_1 = true := by decide +kernel
set_option maxRecDepth 100000 in
theorem cod_17_2 : mCodC mL lk_2 mi_17 mk_17_2 = true := by decide +kernel
set_option maxRecDepth 100000 in
theorem cod_17_3 : mCodC mL lk_2 mi_17 mk_17_3 = true := by decide +kernel
theorem cod_17 : mCodB mL lk_2 mi_17 = true := mCodC_app cod_17_0 (mCodC_app cod_17_1 (mCodC_app cod_17_2 (cod_17_3)))
set_option maxRecDepth 100000 in
theorem cod_18 : mCodB mL lk_3 mi_18 = true := by decide +kernel
set_option maxRecDepth 100000 in
theorem cod_19 : mCodB mL lk_3 mi_19 = true := by decide +kernel
set_option maxRecDepth 100000 in
theorem cod_20 : mCodB mL lk_3 mi_20 = true := by decide +kernel
set_option maxRecDepth 100000 in
theorem cod_21 : mCodB mL lk_3 mi_21 = true := by decide +kernel
set_option maxRecDepth 100000 in
theorem cod_22 : mCodB mL lk_3 mi_22 = true := by decide +kernel
set_option maxRecDepth 100000 in
theorem cod_23 : mCodB mL lk_3 mi_23 = true := by decide +kernel
