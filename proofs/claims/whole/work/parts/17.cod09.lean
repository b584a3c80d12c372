/-! THE CHECKS of the code, 9 -/
set_option maxRecDepth 100000 in
theorem cod_118 : mCodB mL lk_11 mi_118 = true := by decide +kernel
set_option maxRecDepth 100000 in
theorem cod_119 : mCodB mL lk_11 mi_119 = true := by decide +kernel
set_option maxRecDepth 100000 in
theorem cod_120 : mCodB mL lk_11 mi_120 = true := by decide +kernel
set_option maxRecDepth 100000 in
theorem cod_121 : mCodB mL lk_11 mi_121 = true := by decide +kernel
set_option maxRecDepth 100000 in
theorem cod_122 : mCodB mL lk_11 mi_122 = true := by decide +kernel
set_option maxRecDepth 100000 in
theorem cod_123 : mCodB mL lk_11 mi_123 = true := by decide +kernel
set_option maxRecDepth 100000 in
theorem cod_124 : mCodB mL lk_11 mi_124 = true := by decide +kernel
set_option maxRecDepth 100000 in
theorem cod_125 : mCodB mL lk_11 mi_125 = true := by decide +kernel
set_option maxRecDepth 100000 in
theorem cod_126 : mCodB mL lk_11 mi_126 = true := by decide +kernel
set_option maxRecDepth 100000 in
theorem cod_127 : mCodB mL lk_11 mi_127 = true := by decide +kernel
set_option maxRecDepth 100000 in
theorem cod_128 : mCodB mL lk_11 mi_128 = true := by decide +kernel
set_option maxRecDepth 100000 in
theorem cod_129 : mCodB mL lk_11 mi_129 = true := by decide +kernel
set_option maxRecDepth 100000 in
theorem cod_130 : mCodB mL lk_11 mi_130 = true := by decide +kernel
set_option maxRecDepth 100000 in
theorem cod_131 : mCodB mL lk_11 mi_131 = true := by decide +kernel
set_option maxRecDepth 100000 in
theorem cod_132 : mCodB mL lk_11 mi_132 = true := by decide +kernel
set_option maxRecDepth 100000 in
theorem cod_133 : mCodB mL lk_11 mi_133 = true := by decide +kernel
set_option maxRecDepth 100000 in
theorem cod_134 : mCodB mL lk_11 mi_134 = true := by decide +kernel
