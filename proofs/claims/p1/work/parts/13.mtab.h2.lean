set_option maxRecDepth 100000 in
theorem okL_c4 : am_cL 128 32 = true := by decide +kernel
set_option maxRecDepth 100000 in
theorem okL_c5 : am_cL 160 32 = true := by decide +kernel
set_option maxRecDepth 100000 in
theorem okL_c6 : am_cL 192 32 = true := by decide +kernel
set_option maxRecDepth 100000 in
theorem okL_c7 : am_cL 224 32 = true := by decide +kernel
