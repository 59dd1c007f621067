/-! the law's code, a piece -/
theorem chk_w0 : chkR 185 0 2 = true := by decide +kernel
theorem chk_w1 : chkR 185 2 2 = true := by decide +kernel
theorem chk_w2 : chkR 185 4 2 = true := by decide +kernel
theorem chk_w3 : chkR 185 6 2 = true := by decide +kernel
theorem chk_w4 : chkR 185 8 2 = true := by decide +kernel
theorem chk_w5 : chkR 185 10 1 = true := by decide +kernel
