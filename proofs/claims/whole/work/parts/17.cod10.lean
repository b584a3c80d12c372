/-! THE CHECKS of the code, 10 -/
set_option maxRecDepth 100000 in
theorem cod_135 : mCodB mL lk_11 mi_135 = true := by decide +kernel
set_option maxRecDepth 100000 in
theorem cod_136 : mCodB mL lk_11 mi_136 = true := by decide +kernel
set_option maxRecDepth 100000 in
theorem cod_137 : mCodB mL lk_11 mi_137 = true := by decide +kernel
set_option maxRecDepth 100000 in
theorem cod_138 : mCodB mL lk_11 mi_138 = true := by decide +kernel
set_option maxRecDepth 100000 in
theorem cod_139 : mCodB mL lk_11 mi_139 = true := by decide +kernel
set_option maxRecDepth 100000 in
theorem cod_140 : mCodB mL lk_11 mi_140 = true := by decide +kernel
set_option maxRecDepth 100000 in
theorem cod_141 : mCodB mL lk_11 mi_141 = true := by decide +kernel
set_option maxRecDepth 100000 in
theorem cod_142 : mCodB mL lk_11 mi_142 = true := by decide +kernel
set_option maxRecDepth 100000 in
theorem cod_143 : mCodB mL lk_11 mi_143 = true := by decide +kernel
set_option maxRecDepth 100000 in
theorem cod_144 : mCodB mL lk_11 mi_144 = true := by decide +kernel
set_option maxRecDepth 100000 in
theorem cod_145 : mCodB mL lk_11 mi_145 = true := by decide +kernel
set_option maxRecDepth 100000 in
theorem cod_146 : mCodB mL lk_11 mi_146 = true := by decide +kernel
set_option maxRecDepth 100000 in
theorem cod_147 : mCodB mL lk_11 mi_147 = true := by decide +kernel
