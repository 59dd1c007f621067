/-! the law's code, a piece -/
theorem chk_w34 : chkR 317 68 2 = true := by decide +kernel
theorem chk_w35 : chkR 317 70 2 = true := by decide +kernel
theorem chk_w36 : chkR 317 72 2 = true := by decide +kernel
theorem chk_w37 : chkR 317 74 2 = true := by decide +kernel
theorem chk_w38 : chkR 317 76 2 = true := by decide +kernel
theorem chk_w39 : chkR 317 78 2 = true := by decide +kernel
theorem chk_w40 : chkR 317 80 2 = true := by decide +kernel
theorem chk_w41 : chkR 317 82 2 = true := by decide +kernel
theorem chk_w42 : chkR 317 84 2 = true := by decide +kernel
theorem chk_w43 : chkR 317 86 2 = true := by decide +kernel
theorem chk_w44 : chkR 317 88 2 = true := by decide +kernel
theorem chk_w45 : chkR 317 90 2 = true := by decide +kernel
theorem chk_w46 : chkR 317 92 2 = true := by decide +kernel
theorem chk_w47 : chkR 317 94 2 = true := by decide +kernel
theorem chk_w48 : chkR 317 96 1 = true := by decide +kernel
