set_option maxRecDepth 100000 in
theorem okL_c16 : am_cL 512 32 = true := by decide +kernel
set_option maxRecDepth 100000 in
theorem okL_c17 : am_cL 544 32 = true := by decide +kernel
set_option maxRecDepth 100000 in
theorem okL_c18 : am_cL 576 32 = true := by decide +kernel
set_option maxRecDepth 100000 in
theorem okL_c19 : am_cL 608 32 = true := by decide +kernel
