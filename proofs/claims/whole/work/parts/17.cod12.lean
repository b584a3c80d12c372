/-! THE CHECKS of the code, 12 -/
set_option maxRecDepth 100000 in
theorem cod_171 : mCodB mL lk_11 mi_171 = true := by decide +kernel
set_option maxRecDepth 100000 in
theorem cod_172 : mCodB mL lk_11 mi_172 = true := by decide +kernel
set_option maxRecDepth 100000 in
theorem cod_173_0 : mCodC mL lk_12 mi_173 mk_173_0 = true := by decide +kernel
set_option maxRecDepth 100000 in
theorem cod_173_1 : mCodC mL lk_12 mi_173 mk_173_1 = true := by decide +kernel
set_option maxRecDepth 100000 in
theorem cod_173_2 : mCodC mL lk_12 mi_173 mk_173_2 = true := by decide +kernel
set_option maxRecDepth 100000 in
theorem cod_173_3 : mCodC mL lk_12 mi_173 mk_173_3 = true := by decide +kernel
set_option maxRecDepth 100000 in
theorem cod_173_4 : mCodC mL lk_12 mi_173 mk_173_4 = true := by decide +kernel
set_option maxRecDepth 100000 in
theorem cod_173_5 : mCodC mL lk_12 mi_173 mk_173_5 = true := by decide +kernel
set_option maxRecDepth 100000 in
theorem cod_173_6 : mCodC mL lk_12 mi_173 mk_173_6 = true := by decide +kernel
set_option maxRecDepth 100000 in
theorem cod_173_7 : mCodC mL lk_12 mi_173 mk_173_7 = true := by decide +kernel
set_option maxRecDepth 100000 in
theorem cod_173_8 : mCodC mL lk_12 mi_173 mk_173_8 = true := by decide +kernel
set_option maxRecDepth 100000 in
theorem cod_173_9 : mCodC mL lk_12 mi_173 mk_173_9 = true := by decide +kernel
theorem cod_173 : mCodB mL lk_12 mi_173 = true := mCodC_app cod_173_0 (mCodC_app cod_173_1 (mCodC_app cod_173_2 (mCodC_app cod_173_3 (mCodC_app cod_173_4 (mCodC_app cod_173_5 (mCodC_app cod_173_6 (mCodC_app cod_173_7 (mCodC_app cod_173_8 (cod_173_9)))))))))
