/-! the law's code, a piece -/
theorem chk_w10 : chkR 317 80 8 = true := by decide +kernel
theorem chk_w11 : chkR 317 88 8 = true := by decide +kernel
theorem chk_w12 : chkR 317 96 1 = true := by decide +kernel
