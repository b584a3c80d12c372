/-! THE CHECKS of the code, 19 -/
set_option maxRecDepth 100000 in
theorem cod_255 : mCodB mL lk_12 mi_255 = true := by decide +kernel
set_option maxRecDepth 100000 in
theorem cod_256 : mCodB mL lk_12 mi_256 = true := by decide +kernel
set_option maxRecDepth 100000 in
theorem cod_257 : mCodB mL lk_12 mi_257 = true := by decide +kernel
set_option maxRecDepth 100000 in
theorem cod_258 : mCodB mL lk_12 mi_258 = true := by decide +kernel
set_option maxRecDepth 100000 in
theorem cod_259 : mCodB mL lk_12 mi_259 = true := by decide +kernel
set_option maxRecDepth 100000 in
theorem cod_260 : mCodB mL lk_12 mi_260 = true := by decide +kernel
set_option maxRecDepth 100000 in
theorem cod_261 : mCodB mL lk_12 mi_261 = true := by decide +kernel
set_option maxRecDepth 100000 in
theorem cod_262 : mCodB mL lk_12 mi_262 = true := by decide +kernel
set_option maxRecDepth 100000 in
theorem cod_263 : mCodB mL lk_12 mi_263 = true := by decide +kernel
set_option maxRecDepth 100000 in
theorem cod_264 : mCodB mL lk_12 mi_264 = true := by decide +kernel
set_option maxRecDepth 100000 in
theorem cod_265 : mCodB mL lk_12 mi_265 = true := by decide +kernel
set_option maxRecDepth 100000 in
theorem cod_266 : mCodB mL lk_12 mi_266 = true := by decide +kernel
set_option maxRecDepth 100000 in
theorem cod_267 : mCodB mL lk_12 mi_267 = true := by decide +kernel
set_option maxRecDepth 100000 in
theorem cod_268 : mCodB mL lk_12 mi_268 = true := by decide +kernel
