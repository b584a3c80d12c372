/-! THE CHECKS of the code, 6 -/
set_option maxRecDepth 100000 in
theorem cod_74 : mCodB mL lk_9 mi_74 = true := by decide +kernel
set_option maxRecDepth 100000 in
theorem cod_75 : mCodB mL lk_9 mi_75 = true := by decide +kernel
set_option maxRecDepth 100000 in
theorem cod_76 : mCodB mL lk_9 mi_76 = true := by decide +kernel
set_option maxRecDepth 100000 in
theorem cod_77 : mCodB mL lk_9 mi_77 = true := by decide +kernel
set_option maxRecDepth 100000 in
theorem cod_78 : mCodB mL lk_9 mi_78 = true := by decide +kernel
set_option maxRecDepth 100000 in
theorem cod_79 : mCodB mL lk_9 mi_79 = true := by decide +kernel
set_option maxRecDepth 100000 in
theorem cod_80 : mCodB mL lk_9 mi_80 = true := by decide +kernel
set_option maxRecDepth 100000 in
theorem cod_81 : mCodB mL lk_9 mi_81 = true := by decide +kernel
set_option maxRecDepth 100000 in
theorem cod_82 : mCodB mL lk_9 mi_82 = true := by decide +kernel
set_option maxRecDepth 100000 in
theorem cod_83 : mCodB mL lk_9 mi_83 = true := by decide +kernel
set_option maxRecDepth 100000 in
theorem cod_84 : mCodB mL lk_9 mi_84 = true := by decide +kernel
set_option maxRecDepth 100000 in
theorem cod_85 : mCodB mL lk_9 mi_85 = true := by decide +kernel
set_option maxRecDepth 100000 in
theorem cod_86 : mCodB mL lk_9 mi_86 = true := by decide +kernel
set_option maxRecDepth 100000 in
theorem cod_87 : mCodB mL lk_9 mi_87 = true := by decide +kernel
set_option maxRecDepth 100000 in
theorem cod_88 : mCodB mL lk_10 mi_88 = true := by decide +kernel
set_option maxRecDepth 100000 in
theorem cod_89 : mCodB mL lk_10 mi_89 = true := by decide +kernel
set_option maxRecDepth 100000 in
theorem cod_90_0 : mCodC mL lk_10 mi_90 mk_90_0 = true := by decide +kernel
set_option maxRecDepth 100000 in
theorem cod_90_1 : mCodC mL lk_10 mi_90 mk_90_1 = true := by decide +kernel
set_option maxRecDepth 100000 in
theorem cod_90_2 : mCodC mL lk_10 mi_90 mk_90_2 = true := by decide +kernel
theorem cod_90 : mCodB mL lk_10 mi_90 = true := mCodC_app cod_90_0 (mCodC_app cod_90_1 (cod_90_2))
