/-! THE CHECKS of the code, 17 -/
set_option maxRecDepth 100000 in
theorem cod_221 : mCodB mL lk_12 mi_221 = true := by decide +kernel
set_option maxRecDepth 100000 in
theorem cod_222 : mCodB mL lk_12 mi_222 = true := by decide +kernel
set_option maxRecDepth 100000 in
theorem cod_223 : mCodB mL lk_12 mi_223 = true := by decide +kernel
set_option maxRecDepth 100000 in
theorem cod_224 : mCodB mL lk_12 mi_224 = true := by decide +kernel
set_option maxRecDepth 100000 in
theorem cod_225 : mCodB mL lk_12 mi_225 = true := by decide +kernel
set_option maxRecDepth 100000 in
theorem cod_226 : mCodB mL lk_12 mi_226 = true := by decide +kernel
set_option maxRecDepth 100000 in
theorem cod_227 : mCodB mL lk_12 mi_227 = true := by decide +kernel
set_option maxRecDepth 100000 in
theorem cod_228 : mCodB mL lk_12 mi_228 = true := by decide +kernel
set_option maxRecDepth 100000 in
theorem cod_229 : mCodB mL lk_12 mi_229 = true := by decide +kernel
set_option maxRecDepth 100000 in
theorem cod_230 : mCodB mL lk_12 mi_230 = true := by decide +kernel
set_option maxRecDepth 100000 in
theorem cod_231 : mCodB mL lk_12 mi_231 = true := by decide +kernel
set_option maxRecDepth 100000 in
theorem cod_232 : mCodB mL lk_12 mi_232 = true := by decide +kernel
set_option maxRecDepth 100000 in
theorem cod_233 : mCodB mL lk_12 mi_233 = true := by decide +kernel
set_option maxRecDepth 100000 in
theorem cod_234 : mCodB mL lk_12 mi_234 = true := by decide +kernel
set_option maxRecDepth 100000 in
theorem cod_235 : mCodB mL lk_12 mi_235 = true := by decide +kernel
