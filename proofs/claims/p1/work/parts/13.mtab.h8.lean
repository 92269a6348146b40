set_option maxRecDepth 100000 in
theorem okL_c28 : am_cL 896 32 = true := by decide +kernel
set_option maxRecDepth 100000 in
theorem okL_c29 : am_cL 928 32 = true := by decide +kernel
set_option maxRecDepth 100000 in
theorem okL_c30 : am_cL 960 32 = true := by decide +kernel
set_option maxRecDepth 100000 in
theorem okL_c31 : am_cL 992 32 = true := by decide +kernel
