/-! THE CHECKS of the code, 21 -/
set_option maxRecDepth 100000 in
theorem cod_282 : mCodB mL lk_12 mi_282 = true := by decide +kernel
set_option maxRecDepth 100000 in
theorem cod_283 : mCodB mL lk_12 mi_283 = true := by decide +kernel
set_option maxRecDepth 100000 in
theorem cod_284 : mCodB mL lk_12 mi_284 = true := by decide +kernel
set_option maxRecDepth 100000 in
theorem cod_285 : mCodB mL lk_12 mi_285 = true := by decide +kernel
set_option maxRecDepth 100000 in
theorem cod_286 : mCodB mL lk_12 mi_286 = true := by decide +kernel
set_option maxRecDepth 100000 in
theorem cod_287 : mCodB mL lk_12 mi_287 = true := by decide +kernel
set_option maxRecDepth 100000 in
theorem cod_288 : mCodB mL lk_12 mi_288 = true := by decide +kernel
set_option maxRecDepth 100000 in
theorem cod_289 : mCodB mL lk_12 mi_289 = true := by decide +kernel
set_option maxRecDepth 100000 in
theorem cod_290 : mCodB mL lk_12 mi_290 = true := by decide +kernel
set_option maxRecDepth 100000 in
theorem cod_291 : mCodB mL lk_12 mi_291 = true := by decide +kernel
set_option maxRecDepth 100000 in
theorem cod_292 : mCodB mL lk_12 mi_292 = true := by decide +kernel
