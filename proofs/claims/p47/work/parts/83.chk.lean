/-! the whole code is what the data say -/
def chkL (m b : Nat) : Nat → List eI → Bool
  | _, [] => true
  | j, ins :: r => chk m (16 * b + j) ins && chkL m b (j + 1) r
def chkB (m : Nat) : Nat → List (List eI) → Bool
  | _, [] => true
  | b, L :: r => chkL m b 0 L && chkB m (b + 1) r
def chkMm (m : Nat) : Bool := chkB m 0 ((cdAll.getD (m / 16) []).getD (m % 16) [])
def chkMs (m : Nat) : Nat → Bool
  | 0 => true
  | j + 1 => chkMm (m + j) && chkMs m j
def chkR (m b : Nat) : Nat → Bool
  | 0 => true
  | j + 1 => chkL m (b + j) 0 (((cdAll.getD (m / 16) []).getD (m % 16) []).getD (b + j) []) && chkR m b j
theorem chk_t0 : chkMs 0 8 = true := by decide +kernel
theorem chk_t1 : chkMs 8 8 = true := by decide +kernel
theorem chk_t2 : chkMs 16 8 = true := by decide +kernel
theorem chk_t3 : chkMs 24 8 = true := by decide +kernel
theorem chk_t4 : chkMs 32 8 = true := by decide +kernel
theorem chk_t5 : chkMs 40 8 = true := by decide +kernel
theorem chk_t6 : chkMs 48 8 = true := by decide +kernel
theorem chk_t7 : chkMs 56 8 = true := by decide +kernel
theorem chk_t8 : chkMs 64 8 = true := by decide +kernel
theorem chk_t9 : chkMs 72 8 = true := by decide +kernel
theorem chk_t10 : chkMs 80 8 = true := by decide +kernel
theorem chk_t11 : chkMs 88 8 = true := by decide +kernel
theorem chk_t12 : chkMs 96 8 = true := by decide +kernel
theorem chk_t13 : chkMs 104 8 = true := by decide +kernel
theorem chk_t14 : chkMs 112 8 = true := by decide +kernel
theorem chk_t15 : chkMs 120 8 = true := by decide +kernel
theorem chk_t16 : chkMs 128 8 = true := by decide +kernel
theorem chk_t17 : chkMs 136 8 = true := by decide +kernel
theorem chk_t18 : chkMs 144 8 = true := by decide +kernel
theorem chk_t19 : chkMs 152 8 = true := by decide +kernel
theorem chk_t20 : chkMs 160 8 = true := by decide +kernel
theorem chk_t21 : chkMs 168 8 = true := by decide +kernel
theorem chk_t22 : chkMs 176 8 = true := by decide +kernel
theorem chk_t23 : chkMs 184 1 = true := by decide +kernel
