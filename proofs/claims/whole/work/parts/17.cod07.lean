/-! THE CHECKS of the code, 7 -/
set_option maxRecDepth 100000 in
theorem cod_91 : mCodB mL lk_10 mi_91 = true := by decide +kernel
set_option maxRecDepth 100000 in
theorem cod_92 : mCodB mL lk_10 mi_92 = true := by decide +kernel
set_option maxRecDepth 100000 in
theorem cod_93 : mCodB mL lk_10 mi_93 = true := by decide +kernel
set_option maxRecDepth 100000 in
theorem cod_94 : mCodB mL lk_10 mi_94 = true := by decide +kernel
set_option maxRecDepth 100000 in
theorem cod_95 : mCodB mL lk_10 mi_95 = true := by decide +kernel
set_option maxRecDepth 100000 in
theorem cod_96 : mCodB mL lk_10 mi_96 = true := by decide +kernel
set_option maxRecDepth 100000 in
theorem cod_97 : mCodB mL lk_10 mi_97 = true := by decide +kernel
set_option maxRecDepth 100000 in
theorem cod_98 : mCodB mL lk_10 mi_98 = true := by decide +kernel
set_option maxRecDepth 100000 in
theorem cod_99 : mCodB mL lk_10 mi_99 = true := by decide +kernel
set_option maxRecDepth 100000 in
theorem cod_100 : mCodB mL lk_10 mi_100 = true := by decide +kernel
set_option maxRecDepth 100000 in
theorem cod_101 : mCodB mL lk_10 mi_101 = true := by decide +kernel
set_option maxRecDepth 100000 in
theorem cod_102 : mCodB mL lk_10 mi_102 = true := by decide +kernel
set_option maxRecDepth 100000 in
theorem cod_103 : mCodB mL lk_11 mi_103 = true := by decide +kernel
