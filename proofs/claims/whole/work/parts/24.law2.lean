/-! THE LAW'S CODE, checked, 8 -/
set_option maxRecDepth 100000 in
theorem codL_8 : mCodG mkL_8 = true := by decide +kernel
set_option maxRecDepth 100000 in
theorem codL_9 : mCodG mkL_9 = true := by decide +kernel
set_option maxRecDepth 100000 in
theorem codL_10 : mCodG mkL_10 = true := by decide +kernel
set_option maxRecDepth 100000 in
theorem codL_11 : mCodG mkL_11 = true := by decide +kernel
set_option maxRecDepth 100000 in
theorem codL_12 : mCodG mkL_12 = true := by decide +kernel
set_option maxRecDepth 100000 in
theorem codL_13 : mCodG mkL_13 = true := by decide +kernel
set_option maxRecDepth 100000 in
theorem codL_14 : mCodG mkL_14 = true := by decide +kernel
set_option maxRecDepth 100000 in
theorem codL_15 : mCodG mkL_15 = true := by decide +kernel
