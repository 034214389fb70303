theorem zck_0 : zckr 0 50 = true := by decide +kernel
theorem zck_50 : zckr 50 50 = true := by decide +kernel
theorem zck_100 : zckr 100 50 = true := by decide +kernel
theorem zck_150 : zckr 150 52 = true := by decide +kernel
theorem zck_202 : zckr 202 1 = true := by decide +kernel
