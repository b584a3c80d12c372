/-! THE CHECKS of the code, 16 -/
set_option maxRecDepth 100000 in
theorem cod_204 : mCodB mL lk_12 mi_204 = true := by decide +kernel
set_option maxRecDepth 100000 in
theorem cod_205 : mCodB mL lk_12 mi_205 = true := by decide +kernel
set_option maxRecDepth 100000 in
theorem cod_206 : mCodB mL lk_12 mi_206 = true := by decide +kernel
set_option maxRecDepth 100000 in
theorem cod_207 : mCodB mL lk_12 mi_207 = true := by decide +kernel
set_option maxRecDepth 100000 in
theorem cod_208 : mCodB mL lk_12 mi_208 = true := by decide +kernel
set_option maxRecDepth 100000 in
theorem cod_209 : mCodB mL lk_12 mi_209 = true := by decide +kernel
set_option maxRecDepth 100000 in
theorem cod_210 : mCodB mL lk_12 mi_210 = true := by decide +kernel
set_option maxRecDepth 100000 in
theorem cod_211 : mCodB mL lk_12 mi_211 = true := by decide +kernel
set_option maxRecDepth 100000 in
theorem cod_212 : mCodB mL lk_12 mi_212 = true := by decide +kernel
set_option maxRecDepth 100000 in
theorem cod_213 : mCodB mL lk_12 mi_213 = true := by decide +kernel
set_option maxRecDepth 100000 in
theorem cod_214 : mCodB mL lk_12 mi_214 = true := by decide +kernel
set_option maxRecDepth 100000 in
theorem cod_215 : mCodB mL lk_12 mi_215 = true := by decide +kernel
set_option maxRecDepth 100000 in
theorem cod_216 : mCodB mL lk_12 mi_216 = true := by decide +kernel
set_option maxRecDepth 100000 in
theorem cod_217 : mCodB mL lk_12 mi_217 = true := by decide +kernel
set_option maxRecDepth 100000 in
theorem cod_218 : mCodB mL lk_12 mi_218 = true := by decide +kernel
set_option maxRecDepth 100000 in
theorem cod_219 : mCodB mL lk_12 mi_219 = true := by decide +kernel
set_option maxRecDepth 100000 in
theorem cod_220 : mCodB mL lk_12 mi_220 = true := by decide +kernel
