/-! the law's code, a piece -/
theorem chk_v0 : chkR 317 80 2 = true := by decide +kernel
theorem chk_v1 : chkR 317 82 2 = true := by decide +kernel
theorem chk_v2 : chkR 317 84 2 = true := by decide +kernel
theorem chk_v3 : chkR 317 86 2 = true := by decide +kernel
theorem chk_v4 : chkR 317 88 2 = true := by decide +kernel
theorem chk_v5 : chkR 317 90 2 = true := by decide +kernel
theorem chk_v6 : chkR 317 92 2 = true := by decide +kernel
theorem chk_v7 : chkR 317 94 2 = true := by decide +kernel
theorem chk_v8 : chkR 317 96 1 = true := by decide +kernel
