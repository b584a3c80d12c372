/-! THE CHECKS of the code, 3 -/
set_option maxRecDepth 100000 in
theorem cod_35 : mCodB mL lk_4 mi_35 = true := by decide +kernel
set_option maxRecDepth 100000 in
theorem cod_36 : mCodB mL lk_4 mi_36 = true := by decide +kernel
set_option maxRecDepth 100000 in
theorem cod_37 : mCodB mL lk_4 mi_37 = true := by decide +kernel
set_option maxRecDepth 100000 in
theorem cod_38 : mCodB mL lk_4 mi_38 = true := by decide +kernel
set_option maxRecDepth 100000 in
theorem cod_39 : mCodB mL lk_4 mi_39 = true := by decide +kernel
set_option maxRecDepth 100000 in
theorem cod_40 : mCodB mL lk_4 mi_40 = true := by decide +kernel
set_option maxRecDepth 100000 in
theorem cod_41 : mCodB mL lk_4 mi_41 = true := by decide +kernel
set_option maxRecDepth 100000 in
theorem cod_42 : mCodB mL lk_4 mi_42 = true := by decide +kernel
set_option maxRecDepth 100000 in
theorem cod_43 : mCodB mL lk_4 mi_43 = true := by decide +kernel
set_option maxRecDepth 100000 in
theorem cod_44 : mCodB mL lk_4 mi_44 = true := by decide +kernel
set_option maxRecDepth 100000 in
theorem cod_45 : mCodB mL lk_4 mi_45 = true := by decide +kernel
set_option maxRecDepth 100000 in
theorem cod_46 : mCodB mL lk_4 mi_46 = true := by decide +kernel
set_option maxRecDepth 100000 in
theorem cod_47 : mCodB mL lk_4 mi_47 = true := by decide +kernel
set_option maxRecDepth 100000 in
theorem cod_48 : mCodB mL lk_5 mi_48 = true := by decide +kernel
