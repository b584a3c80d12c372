/-! THE CHECKS of the code, 23 -/
set_option maxRecDepth 100000 in
theorem cod_302 : mCodB mL lk_12 mi_302 = true := by decide +kernel
set_option maxRecDepth 100000 in
theorem cod_303 : mCodB mL lk_12 mi_303 = true := by decide +kernel
set_option maxRecDepth 100000 in
theorem cod_304 : mCodB mL lk_12 mi_304 = true := by decide +kernel
set_option maxRecDepth 100000 in
theorem cod_305 : mCodB mL lk_12 mi_305 = true := by decide +kernel
set_option maxRecDepth 100000 in
theorem cod_306_0 : mCodC mL lk_12 mi_306 mk_306_0 = true := by decide +kernel
set_option maxRecDepth 100000 in
theorem cod_306_1 : mCodC mL lk_12 mi_306 mk_306_1 = true := by decide +kernel
set_option maxRecDepth 100000 in
theorem cod_306_2 : mCodC mL lk_12 mi_306 mk_306_2 = true := by decide +kernel
set_option maxRecDepth 100000 in
theorem cod_306_3 : mCodC mL lk_12 mi_306 mk_306_3 = true := by decide +kernel
set_option maxRecDepth 100000 in
theorem cod_306_4 : mCodC mL lk_12 mi_306 mk_306_4 = true := by decide +kernel
theorem cod_306 : mCodB mL lk_12 mi_306 = true := mCodC_app cod_306_0 (mCodC_app cod_306_1 (mCodC_app cod_306_2 (mCodC_app cod_306_3 (cod_306_4))))
set_option maxRecDepth 100000 in
theorem cod_307 : mCodB mL lk_12 mi_307 = true := by decide +kernel
