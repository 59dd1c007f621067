/-! the law's code, a piece -/
theorem chk_w0 : chkR 317 0 8 = true := by decide +kernel
theorem chk_w1 : chkR 317 8 8 = true := by decide +kernel
theorem chk_w2 : chkR 317 16 8 = true := by decide +kernel
theorem chk_w3 : chkR 317 24 8 = true := by decide +kernel
theorem chk_w4 : chkR 317 32 8 = true := by decide +kernel
theorem chk_w5 : chkR 317 40 8 = true := by decide +kernel
