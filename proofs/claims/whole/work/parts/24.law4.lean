/-! THE LAW'S CODE, checked, 24 -/
set_option maxRecDepth 100000 in
theorem codL_24 : mCodG mkL_24 = true := by decide +kernel
set_option maxRecDepth 100000 in
theorem codL_25 : mCodG mkL_25 = true := by decide +kernel
set_option maxRecDepth 100000 in
theorem codL_26 : mCodG mkL_26 = true := by decide +kernel
set_option maxRecDepth 100000 in
theorem codL_27 : mCodG mkL_27 = true := by decide +kernel
set_option maxRecDepth 100000 in
theorem codL_28 : mCodG mkL_28 = true := by decide +kernel
set_option maxRecDepth 100000 in
theorem codL_29 : mCodG mkL_29 = true := by decide +kernel
set_option maxRecDepth 100000 in
theorem codL_30 : mCodG mkL_30 = true := by decide +kernel
