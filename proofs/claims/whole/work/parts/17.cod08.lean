/-! THE CHECKS of the code, 8 -/
set_option maxRecDepth 100000 in
theorem cod_104 : mCodB mL lk_11 mi_104 = true := by decide +kernel
set_option maxRecDepth 100000 in
theorem cod_105 : mCodB mL lk_11 mi_105 = true := by decide +kernel
set_option maxRecDepth 100000 in
theorem cod_106 : mCodB mL lk_11 mi_106 = true := by decide +kernel
set_option maxRecDepth 100000 in
theorem cod_107 : mCodB mL lk_11 mi_107 = true := by decide +kernel
set_option maxRecDepth 100000 in
theorem cod_108 : mCodB mL lk_11 mi_108 = true := by decide +kernel
set_option maxRecDepth 100000 in
theorem cod_109 : mCodB mL lk_11 mi_109 = true := by decide +kernel
set_option maxRecDepth 100000 in
theorem cod_110 : mCodB mL lk_11 mi_110 = true := by decide +kernel
set_option maxRecDepth 100000 in
theorem cod_111 : mCodB mL lk_11 mi_111 = true := by decide +kernel
set_option maxRecDepth 100000 in
theorem cod_112 : mCodB mL lk_11 mi_112 = true := by decide +kernel
set_option maxRecDepth 100000 in
theorem cod_113 : mCodB mL lk_11 mi_113 = true := by decide +kernel
set_option maxRecDepth 100000 in
theorem cod_114 : mCodB mL lk_11 mi_114 = true := by decide +kernel
set_option maxRecDepth 100000 in
theorem cod_115 : mCodB mL lk_11 mi_115 = true := by decide +kernel
set_option maxRecDepth 100000 in
theorem cod_116 : mCodB mL lk_11 mi_116 = true := by decide +kernel
set_option maxRecDepth 100000 in
theorem cod_117 : mCodB mL lk_11 mi_117 = true := by decide +kernel
