/-! THE CHECKS of the code, 14 -/
set_option maxRecDepth 100000 in
theorem cod_188 : mCodB mL lk_12 mi_188 = true := by decide +kernel
set_option maxRecDepth 100000 in
theorem cod_189 : mCodB mL lk_12 mi_189 = true := by decide +kernel
set_option maxRecDepth 100000 in
theorem cod_190 : mCodB mL lk_12 mi_190 = true := by decide +kernel
set_option maxRecDepth 100000 in
theorem cod_191_0 : mCodC mL lk_12 mi_191 mk_191_0 = true := by decide +kernel
set_option maxRecDepth 100000 in
theorem cod_191_1 : mCodC mL lk_12 mi_191 mk_191_1 = true := by decide +kernel
set_option maxRecDepth 100000 in
theorem cod_191_2 : mCodC mL lk_12 mi_191 mk_191_2 = true := by decide +kernel
theorem cod_191 : mCodB mL lk_12 mi_191 = true := mCodC_app cod_191_0 (mCodC_app cod_191_1 (cod_191_2))
set_option maxRecDepth 100000 in
theorem cod_192 : mCodB mL lk_12 mi_192 = true := by decide +kernel
set_option maxRecDepth 100000 in
theorem cod_193 : mCodB mL lk_12 mi_193 = true := by decide +kernel
set_option maxRecDepth 100000 in
theorem cod_194_0 : mCodC mL lk_12 mi_194 mk_194_0 = true := by decide +kernel
set_option maxRecDepth 100000 in
theorem cod_194_1 : mCodC mL lk_12 mi_194 mk_194_1 = true := by decide +kernel
set_option maxRecDepth 100000 in
theorem cod_194_2 : mCodC mL lk_12 mi_194 mk_194_2 = true := by decide +kernel
set_option maxRecDepth 100000 in
theorem cod_194_3 : mCodC mL lk_12 mi_194 mk_194_3 = true := by decide +kernel
theorem cod_194 : mCodB mL lk_12 mi_194 = true := mCodC_app cod_194_0 (mCodC_app cod_194_1 (mCodC_app cod_194_2 (cod_194_3)))
set_option maxRecDepth 100000 in
theorem cod_195 : mCodB mL lk_12 mi_195 = true := by decide +kernel
