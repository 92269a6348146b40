set_option maxRecDepth 100000 in
theorem okL_c0 : am_cL 0 32 = true := by decide +kernel
set_option maxRecDepth 100000 in
theorem okL_c1 : am_cL 32 32 = true := by decide +kernel
set_option maxRecDepth 100000 in
theorem okL_c2 : am_cL 64 32 = true := by decide +kernel
set_option maxRecDepth 100000 in
theorem okL_c3 : am_cL 96 32 = true := by decide +kernel
