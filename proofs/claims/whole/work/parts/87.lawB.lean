/-! the law's code, a piece -/
theorem chk_w18 : chkR 317 36 2 = true := by decide +kernel
theorem chk_w19 : chkR 317 38 2 = true := by decide +kernel
theorem chk_w20 : chkR 317 40 2 = true := by decide +kernel
theorem chk_w21 : chkR 317 42 2 = true := by decide +kernel
theorem chk_w22 : chkR 317 44 2 = true := by decide +kernel
theorem chk_w23 : chkR 317 46 2 = true := by decide +kernel
theorem chk_w24 : chkR 317 48 2 = true := by decide +kernel
theorem chk_w25 : chkR 317 50 2 = true := by decide +kernel
theorem chk_w26 : chkR 317 52 2 = true := by decide +kernel
theorem chk_w27 : chkR 317 54 2 = true := by decide +kernel
theorem chk_w28 : chkR 317 56 2 = true := by decide +kernel
theorem chk_w29 : chkR 317 58 2 = true := by decide +kernel
theorem chk_w30 : chkR 317 60 2 = true := by decide +kernel
theorem chk_w31 : chkR 317 62 2 = true := by decide +kernel
theorem chk_w32 : chkR 317 64 2 = true := by decide +kernel
theorem chk_w33 : chkR 317 66 2 = true := by decide +kernel
