/-! THE LAW'S CODE, checked, 16 -/
set_option maxRecDepth 100000 in
theorem codL_16 : mCodG mkL_16 = true := by decide +kernel
set_option maxRecDepth 100000 in
theorem codL_17 : mCodG mkL_17 = true := by decide +kernel
set_option maxRecDepth 100000 in
theorem codL_18 : mCodG mkL_18 = true := by decide +kernel
set_option maxRecDepth 100000 in
theorem codL_19 : mCodG mkL_19 = true := by decide +kernel
set_option maxRecDepth 100000 in
theorem codL_20 : mCodG mkL_20 = true := by decide +kernel
set_option maxRecDepth 100000 in
theorem codL_21 : mCodG mkL_21 = true := by decide +kernel
set_option maxRecDepth 100000 in
theorem codL_22 : mCodG mkL_22 = true := by decide +kernel
set_option maxRecDepth 100000 in
theorem codL_23 : mCodG mkL_23 = true := by decide +kernel
