set_option maxRecDepth 100000 in
theorem okL_c8 : am_cL 256 32 = true := by decide +kernel
set_option maxRecDepth 100000 in
theorem okL_c9 : am_cL 288 32 = true := by decide +kernel
set_option maxRecDepth 100000 in
theorem okL_c10 : am_cL 320 32 = true := by decide +kernel
set_option maxRecDepth 100000 in
theorem okL_c11 : am_cL 352 32 = true := by decide +kernel
