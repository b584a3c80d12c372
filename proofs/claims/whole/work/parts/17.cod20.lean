/-! THE CHECKS of the code, 20 -/
set_option maxRecDepth 100000 in
theorem cod_269 : mCodB mL lk_12 mi_269 = true := by decide +kernel
set_option maxRecDepth 100000 in
theorem cod_270 : mCodB mL lk_12 mi_270 = true := by decide +kernel
set_option maxRecDepth 100000 in
theorem cod_271 : mCodB mL lk_12 mi_271 = true := by decide +kernel
set_option maxRecDepth 100000 in
theorem cod_272 : mCodB mL lk_12 mi_272 = true := by decide +kernel
set_option maxRecDepth 100000 in
theorem cod_273 : mCodB mL lk_12 mi_273 = true := by decide +kernel
set_option maxRecDepth 100000 in
theorem cod_274 : mCodB mL lk_12 mi_274 = true := by decide +kernel
set_option maxRecDepth 100000 in
theorem cod_275 : mCodB mL lk_12 mi_275 = true := by decide +kernel
set_option maxRecDepth 100000 in
theorem cod_276 : mCodB mL lk_12 mi_276 = true := by decide +kernel
set_option maxRecDepth 100000 in
theorem cod_277 : mCodB mL lk_12 mi_277 = true := by decide +kernel
set_option maxRecDepth 100000 in
theorem cod_278 : mCodB mL lk_12 mi_278 = true := by decide +kernel
set_option maxRecDepth 100000 in
theorem cod_279 : mCodB mL lk_12 mi_279 = true := by decide +kernel
set_option maxRecDepth 100000 in
theorem cod_280 : mCodB mL lk_12 mi_280 = true := by decide +kernel
set_option maxRecDepth 100000 in
theorem cod_281 : mCodB mL lk_12 mi_281 = true := by decide +kernel
