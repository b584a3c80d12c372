/-! THE CHECKS of the code, 11 -/
set_option maxRecDepth 100000 in
theorem cod_148 : mCodB mL lk_11 mi_148 = true := by decide +kernel
set_option maxRecDepth 100000 in
theorem cod_149 : mCodB mL lk_11 mi_149 = true := by decide +kernel
set_option maxRecDepth 100000 in
theorem cod_150 : mCodB mL lk_11 mi_150 = true := by decide +kernel
set_option maxRecDepth 100000 in
theorem cod_151 : mCodB mL lk_11 mi_151 = true := by decide +kernel
set_option maxRecDepth 100000 in
theorem cod_152 : mCodB mL lk_11 mi_152 = true := by decide +kernel
set_option maxRecDepth 100000 in
theorem cod_153 : mCodB mL lk_11 mi_153 = true := by decide +kernel
set_option maxRecDepth 100000 in
theorem cod_154 : mCodB mL lk_11 mi_154 = true := by decide +kernel
set_option maxRecDepth 100000 in
theorem cod_155 : mCodB mL lk_11 mi_155 = true := by decide +kernel
set_option maxRecDepth 100000 in
theorem cod_156 : mCodB mL lk_11 mi_156 = true := by decide +kernel
set_option maxRecDepth 100000 in
theorem cod_157 : mCodB mL lk_11 mi_157 = true := by decide +kernel
set_option maxRecDepth 100000 in
theorem cod_158 : mCodB mL lk_11 mi_158 = true := by decide +kernel
set_option maxRecDepth 100000 in
theorem cod_159 : mCodB mL lk_11 mi_159 = true := by decide +kernel
set_option maxRecDepth 100000 in
theorem cod_160 : mCodB mL lk_11 mi_160 = true := by decide +kernel
set_option maxRecDepth 100000 in
theorem cod_161 : mCodB mL lk_11 mi_161 = true := by decide +kernel
set_option maxRecDepth 100000 in
theorem cod_162 : mCodB mL lk_11 mi_162 = true := by decide +kernel
set_option maxRecDepth 100000 in
theorem cod_163 : mCodB mL lk_11 mi_163 = true := by decide +kernel
set_option maxRecDepth 100000 in
theorem cod_164 : mCodB mL lk_11 mi_164 = true := by decide +kernel
set_option maxRecDepth 100000 in
theorem cod_165 : mCodB mL lk_11 mi_165 = true := by decide +kernel
set_option maxRecDepth 100000 in
theorem cod_166 : mCodB mL lk_11 mi_166 = true := by decide +kernel
set_option maxRecDepth 100000 in
theorem cod_167 : mCodB mL lk_11 mi_167 = true := by decide +kernel
set_option maxRecDepth 100000 in
theorem cod_168 : mCodB mL lk_11 mi_168 = true := by decide +kernel
set_option maxRecDepth 100000 in
theorem cod_169 : mCodB mL lk_11 mi_169 = true := by decide +kernel
set_option maxRecDepth 100000 in
theorem cod_170 : mCodB mL lk_11 mi_170 = true := by decide +kernel
