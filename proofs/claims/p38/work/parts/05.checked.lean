theorem zck_0 : zckr 0 50 = true := by decide +kernel
theorem zck_50 : zckr 50 41 = true := by decide +kernel
theorem zck_l : zckr 91 2 = true := by decide +kernel
