/-! THE CHECKS of the code, 5 -/
set_option maxRecDepth 100000 in
theorem cod_63 : mCodB mL lk_7 mi_63 = true := by decide +kernel
set_option maxRecDepth 100000 in
theorem cod_64 : mCodB mL lk_7 mi_64 = true := by decide +kernel
set_option maxRecDepth 100000 in
theorem cod_65 : mCodB mL lk_7 mi_65 = true := by decide +kernel
set_option maxRecDepth 100000 in
theorem cod_66 : mCodB mL lk_7 mi_66 = true := by decide +kernel
set_option maxRecDepth 100000 in
theorem cod_67 : mCodB mL lk_7 mi_67 = true := by decide +kernel
set_option maxRecDepth 100000 in
theorem cod_68 : mCodB mL lk_7 mi_68 = true := by decide +kernel
set_option maxRecDepth 100000 in
theorem cod_69 : mCodB mL lk_7 mi_69 = true := by decide +kernel
set_option maxRecDepth 100000 in
theorem cod_70 : mCodB mL lk_8 mi_70 = true := by decide +kernel
set_option maxRecDepth 100000 in
theorem cod_71 : mCodB mL lk_8 mi_71 = true := by decide +kernel
set_option maxRecDepth 100000 in
theorem cod_72 : mCodB mL lk_8 mi_72 = true := by decide +kernel
set_option maxRecDepth 100000 in
theorem cod_73 : mCodB mL lk_9 mi_73 = true := by decide +kernel
