set_option maxRecDepth 1000000 in
theorem tst : ckL (f_X8_digest 5100 hF) (f_X9_digest 9100) = true := by decide +kernel
