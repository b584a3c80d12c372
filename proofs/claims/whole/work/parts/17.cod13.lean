/-! THE CHECKS of the code, 13 -/
set_option maxRecDepth 100000 in
theorem cod_174 : mCodB mL lk_12 mi_174 = true := by decide +kernel
set_option maxRecDepth 100000 in
theorem cod_175 : mCodB mL lk_12 mi_175 = true := by decide +kernel
set_option maxRecDepth 100000 in
theorem cod_176 : mCodB mL lk_12 mi_176 = true := by decide +kernel
set_option maxRecDepth 100000 in
theorem cod_177 : mCodB mL lk_12 mi_177 = true := by decide +kernel
set_option maxRecDepth 100000 in
theorem cod_178 : mCodB mL lk_12 mi_178 = true := by decide +kernel
set_option maxRecDepth 100000 in
theorem cod_179 : mCodB mL lk_12 mi_179 = true := by decide +kernel
set_option maxRecDepth 100000 in
theorem cod_180 : mCodB mL lk_12 mi_180 = true := by decide +kernel
set_option maxRecDepth 100000 in
theorem cod_181 : mCodB mL lk_12 mi_181 = true := by decide +kernel
set_option maxRecDepth 100000 in
theorem cod_182 : mCodB mL lk_12 mi_182 = true := by decide +kernel
set_option maxRecDepth 100000 in
theorem cod_183_0 : mCodC mL lk_12 mi_183 mk_183_0 = true := by decide +kernel
set_option maxRecDepth 100000 in
theorem cod_183_1 : mCodC mL lk_12 mi_183 mk_183_1 = true := by decide +kernel
set_option maxRecDepth 100000 in
theorem cod_183_2 : mCodC mL lk_12 mi_183 mk_183_2 = true := by decide +kernel
set_option maxRecDepth 100000 in
theorem cod_183_3 : mCodC mL lk_12 mi_183 mk_183_3 = true := by decide +kernel
theorem cod_183 : mCodB mL lk_12 mi_183 = true := mCodC_app cod_183_0 (mCodC_app cod_183_1 (mCodC_app cod_183_2 (cod_183_3)))
set_option maxRecDepth 100000 in
theorem cod_184 : mCodB mL lk_12 mi_184 = true := by decide +kernel
set_option maxRecDepth 100000 in
theorem cod_185 : mCodB mL lk_12 mi_185 = true := by decide +kernel
set_option maxRecDepth 100000 in
theorem cod_186 : mCodB mL lk_12 mi_186 = true := by decide +kernel
set_option maxRecDepth 100000 in
theorem cod_187 : mCodB mL lk_12 mi_187 = true := by decide +kernel
