/-! THE CHECKS of the code, 22 -/
set_option maxRecDepth 100000 in
theorem cod_293 : mCodB mL lk_12 mi_293 = true := by decide +kernel
set_option maxRecDepth 100000 in
theorem cod_294 : mCodB mL lk_12 mi_294 = true := by decide +kernel
set_option maxRecDepth 100000 in
theorem cod_295_0 : mCodC mL lk_12 mi_295 mk_295_0 = true := by decide +kernel
set_option maxRecDepth 100000 in
theorem cod_295_1 : mCodC mL lk_12 mi_295 mk_295_1 = true := by decide +kernel
set_option maxRecDepth 100000 in
theorem cod_295_2 : mCodC mL lk_12 mi_295 mk_295_2 = true := by decide +kernel
theorem cod_295 : mCodB mL lk_12 mi_295 = true := mCodC_app cod_295_0 (mCodC_app cod_295_1 (cod_295_2))
set_option maxRecDepth 100000 in
theorem cod_296 : mCodB mL lk_12 mi_296 = true := by decide +kernel
set_option maxRecDepth 100000 in
theorem cod_297 : mCodB mL lk_12 mi_297 = true := by decide +kernel
set_option maxRecDepth 100000 in
theorem cod_298 : mCodB mL lk_12 mi_298 = true := by decide +kernel
set_option maxRecDepth 100000 in
theorem cod_299 : mCodB mL lk_12 mi_299 = true := by decide +kernel
set_option maxRecDepth 100000 in
theorem cod_300 : mCodB mL lk_12 mi_300 = true := by decide +kernel
set_option maxRecDepth 100000 in
theorem cod_301 : mCodB mL lk_12 mi_301 = true := by decide +kernel
