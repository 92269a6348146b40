set_option maxRecDepth 100000 in
theorem okL_c24 : am_cL 768 32 = true := by decide +kernel
set_option maxRecDepth 100000 in
theorem okL_c25 : am_cL 800 32 = true := by decide +kernel
set_option maxRecDepth 100000 in
theorem okL_c26 : am_cL 832 32 = true := by decide +kernel
set_option maxRecDepth 100000 in
theorem okL_c27 : am_cL 864 32 = true := by decide +kernel
