/-! THE CHECKS of the code, 18 -/
set_option maxRecDepth 100000 in
theorem cod_236 : mCodB mL lk_12 mi_236 = true := by decide +kernel
set_option maxRecDepth 100000 in
theorem cod_237 : mCodB mL lk_12 mi_237 = true := by decide +kernel
set_option maxRecDepth 100000 in
theorem cod_238 : mCodB mL lk_12 mi_238 = true := by decide +kernel
set_option maxRecDepth 100000 in
theorem cod_239 : mCodB mL lk_12 mi_239 = true := by decide +kernel
set_option maxRecDepth 100000 in
theorem cod_240 : mCodB mL lk_12 mi_240 = true := by decide +kernel
set_option maxRecDepth 100000 in
theorem cod_241 : mCodB mL lk_12 mi_241 = true := by decide +kernel
set_option maxRecDepth 100000 in
theorem cod_242 : mCodB mL lk_12 mi_242 = true := by decide +kernel
set_option maxRecDepth 100000 in
theorem cod_243 : mCodB mL lk_12 mi_243 = true := by decide +kernel
set_option maxRecDepth 100000 in
theorem cod_244 : mCodB mL lk_12 mi_244 = true := by decide +kernel
set_option maxRecDepth 100000 in
theorem cod_245 : mCodB mL lk_12 mi_245 = true := by decide +kernel
set_option maxRecDepth 100000 in
theorem cod_246 : mCodB mL lk_12 mi_246 = true := by decide +kernel
set_option maxRecDepth 100000 in
theorem cod_247 : mCodB mL lk_12 mi_247 = true := by decide +kernel
set_option maxRecDepth 100000 in
theorem cod_248 : mCodB mL lk_12 mi_248 = true := by decide +kernel
set_option maxRecDepth 100000 in
theorem cod_249 : mCodB mL lk_12 mi_249 = true := by decide +kernel
set_option maxRecDepth 100000 in
theorem cod_250 : mCodB mL lk_12 mi_250 = true := by decide +kernel
set_option maxRecDepth 100000 in
theorem cod_251 : mCodB mL lk_12 mi_251 = true := by decide +kernel
set_option maxRecDepth 100000 in
theorem cod_252 : mCodB mL lk_12 mi_252 = true := by decide +kernel
set_option maxRecDepth 100000 in
theorem cod_253 : mCodB mL lk_12 mi_253 = true := by decide +kernel
set_option maxRecDepth 100000 in
theorem cod_254 : mCodB mL lk_12 mi_254 = true := by decide +kernel
