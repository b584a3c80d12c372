/-! THE CHECKS of the code, 15 -/
set_option maxRecDepth 100000 in
theorem cod_196 : mCodB mL lk_12 mi_196 = true := by decide +kernel
set_option maxRecDepth 100000 in
theorem cod_197 : mCodB mL lk_12 mi_197 = true := by decide +kernel
set_option maxRecDepth 100000 in
theorem cod_198 : mCodB mL lk_12 mi_198 = true := by decide +kernel
set_option maxRecDepth 100000 in
theorem cod_199_0 : mCodC mL lk_12 mi_199 mk_199_0 = true := by decide +kernel
set_option maxRecDepth 100000 in
theorem cod_199_1 : mCodC mL lk_12 mi_199 mk_199_1 = true := by decide +kernel
set_option maxRecDepth 100000 in
theorem cod_199_2 : mCodC mL lk_12 mi_199 mk_199_2 = true := by decide +kernel
theorem cod_199 : mCodB mL lk_12 mi_199 = true := mCodC_app cod_199_0 (mCodC_app cod_199_1 (cod_199_2))
set_option maxRecDepth 100000 in
theorem cod_200 : mCodB mL lk_12 mi_200 = true := by decide +kernel
set_option maxRecDepth 100000 in
theorem cod_201 : mCodB mL lk_12 mi_201 = true := by decide +kernel
set_option maxRecDepth 100000 in
theorem cod_202 : mCodB mL lk_12 mi_202 = true := by decide +kernel
set_option maxRecDepth 100000 in
theorem cod_203_0 : mCodC mL lk_12 mi_203 mk_203_0 = true := by decide +kernel
set_option maxRecDepth 100000 in
theorem cod_203_1 : mCodC mL lk_12 mi_203 mk_203_1 = true := by decide +kernel
set_option maxRecDepth 100000 in
theorem cod_203_2 : mCodC mL lk_12 mi_203 mk_203_2 = true := by decide +kernel
theorem cod_203 : mCodB mL lk_12 mi_203 = true := mCodC_app cod_203_0 (mCodC_app cod_203_1 (cod_203_2))
