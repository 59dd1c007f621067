/-! the law's code, a piece -/
theorem chk_w6 : chkR 317 48 8 = true := by decide +kernel
theorem chk_w7 : chkR 317 56 8 = true := by decide +kernel
theorem chk_w8 : chkR 317 64 8 = true := by decide +kernel
theorem chk_w9 : chkR 317 72 8 = true := by decide +kernel
