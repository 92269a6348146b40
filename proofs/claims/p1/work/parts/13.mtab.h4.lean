set_option maxRecDepth 100000 in
theorem okL_c12 : am_cL 384 32 = true := by decide +kernel
set_option maxRecDepth 100000 in
theorem okL_c13 : am_cL 416 32 = true := by decide +kernel
set_option maxRecDepth 100000 in
theorem okL_c14 : am_cL 448 32 = true := by decide +kernel
set_option maxRecDepth 100000 in
theorem okL_c15 : am_cL 480 32 = true := by decide +kernel
