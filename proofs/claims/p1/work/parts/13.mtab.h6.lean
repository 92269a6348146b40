set_option maxRecDepth 100000 in
theorem okL_c20 : am_cL 640 32 = true := by decide +kernel
set_option maxRecDepth 100000 in
theorem okL_c21 : am_cL 672 32 = true := by decide +kernel
set_option maxRecDepth 100000 in
theorem okL_c22 : am_cL 704 32 = true := by decide +kernel
set_option maxRecDepth 100000 in
theorem okL_c23 : am_cL 736 32 = true := by decide +kernel
