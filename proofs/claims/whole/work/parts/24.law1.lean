/-! THE LAW'S CODE, checked, 0 -/
set_option maxRecDepth 100000 in
theorem codL_0 : mCodG mkL_0 = true := by decide +kernel
set_option maxRecDepth 100000 in
theorem codL_1 : mCodG mkL_1 = true := by decide +kernel
set_option maxRecDepth 100000 in
theorem codL_2 : mCodG mkL_2 = true := by decide +kernel
set_option maxRecDepth 100000 in
theorem codL_3 : mCodG mkL_3 = true := by decide +kernel
set_option maxRecDepth 100000 in
theorem codL_4 : mCodG mkL_4 = true := by decide +kernel
set_option maxRecDepth 100000 in
theorem codL_5 : mCodG mkL_5 = true := by decide +kernel
set_option maxRecDepth 100000 in
theorem codL_6 : mCodG mkL_6 = true := by decide +kernel
set_option maxRecDepth 100000 in
theorem codL_7 : mCodG mkL_7 = true := by decide +kernel
