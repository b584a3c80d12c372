/-! THE CHECKS of the code, 4 -/
set_option maxRecDepth 100000 in
theorem cod_49 : mCodB mL lk_5 mi_49 = true := by decide +kernel
set_option maxRecDepth 100000 in
theorem cod_50 : mCodB mL lk_5 mi_50 = true := by decide +kernel
set_option maxRecDepth 100000 in
theorem cod_51 : mCodB mL lk_5 mi_51 = true := by decide +kernel
set_option maxRecDepth 100000 in
theorem cod_52 : mCodB mL lk_5 mi_52 = true := by decide +kernel
set_option maxRecDepth 100000 in
theorem cod_53 : mCodB mL lk_5 mi_53 = true := by decide +kernel
set_option maxRecDepth 100000 in
theorem cod_54 : mCodB mL lk_6 mi_54 = true := by decide +kernel
set_option maxRecDepth 100000 in
theorem cod_55 : mCodB mL lk_6 mi_55 = true := by decide +kernel
set_option maxRecDepth 100000 in
theorem cod_56 : mCodB mL lk_6 mi_56 = true := by decide +kernel
set_option maxRecDepth 100000 in
theorem cod_57 : mCodB mL lk_7 mi_57 = true := by decide +kernel
set_option maxRecDepth 100000 in
theorem cod_58 : mCodB mL lk_7 mi_58 = true := by decide +kernel
set_option maxRecDepth 100000 in
theorem cod_59 : mCodB mL lk_7 mi_59 = true := by decide +kernel
set_option maxRecDepth 100000 in
theorem cod_60 : mCodB mL lk_7 mi_60 = true := by decide +kernel
set_option maxRecDepth 100000 in
theorem cod_61 : mCodB mL lk_7 mi_61 = true := by decide +kernel
set_option maxRecDepth 100000 in
theorem cod_62 : mCodB mL lk_7 mi_62 = true := by decide +kernel
