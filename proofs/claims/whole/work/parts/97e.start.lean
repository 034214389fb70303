def zmS (L : Nat) (f : Nat → Int) : zMm := fun a b => if a = 999 then f b else if a = 998 ∧ b = 0 then L else 0
/-- the memory behind the constructors -/
def zMem0 (L : Nat) (f : Nat → Int) : zMm := zkm_17 (zn (zkm_0 (zn (zmS L f) 0)) 45)
theorem zm0_4 (L : Nat) (f : Nat → Int) (j : Nat) : zMem0 L f 4 j = 0 := by
  simp [zMem0, zkm_0, zkm_1, zkm_2, zkm_3, zkm_4, zkm_5, zkm_6, zkm_7, zkm_8, zkm_9, zkm_10, zkm_11, zkm_12, zkm_13, zkm_14, zkm_15, zkm_16, zkm_17, zn, zu, zfill]
theorem zm0_5 (L : Nat) (f : Nat → Int) (j : Nat) : zMem0 L f 5 j = 0 := by
  simp [zMem0, zkm_0, zkm_1, zkm_2, zkm_3, zkm_4, zkm_5, zkm_6, zkm_7, zkm_8, zkm_9, zkm_10, zkm_11, zkm_12, zkm_13, zkm_14, zkm_15, zkm_16, zkm_17, zn, zu, zfill]
theorem zm0_7 (L : Nat) (f : Nat → Int) (j : Nat) : zMem0 L f 7 j = 0 := by
  simp [zMem0, zkm_0, zkm_1, zkm_2, zkm_3, zkm_4, zkm_5, zkm_6, zkm_7, zkm_8, zkm_9, zkm_10, zkm_11, zkm_12, zkm_13, zkm_14, zkm_15, zkm_16, zkm_17, zn, zu, zfill]
theorem zm0_8 (L : Nat) (f : Nat → Int) (j : Nat) : zMem0 L f 8 j = 0 := by
  simp [zMem0, zkm_0, zkm_1, zkm_2, zkm_3, zkm_4, zkm_5, zkm_6, zkm_7, zkm_8, zkm_9, zkm_10, zkm_11, zkm_12, zkm_13, zkm_14, zkm_15, zkm_16, zkm_17, zn, zu, zfill]
theorem zm0_11 (L : Nat) (f : Nat → Int) (j : Nat) : zMem0 L f 11 j = 0 := by
  simp [zMem0, zkm_0, zkm_1, zkm_2, zkm_3, zkm_4, zkm_5, zkm_6, zkm_7, zkm_8, zkm_9, zkm_10, zkm_11, zkm_12, zkm_13, zkm_14, zkm_15, zkm_16, zkm_17, zn, zu, zfill]
theorem zm0_13 (L : Nat) (f : Nat → Int) (j : Nat) : zMem0 L f 13 j = 0 := by
  simp [zMem0, zkm_0, zkm_1, zkm_2, zkm_3, zkm_4, zkm_5, zkm_6, zkm_7, zkm_8, zkm_9, zkm_10, zkm_11, zkm_12, zkm_13, zkm_14, zkm_15, zkm_16, zkm_17, zn, zu, zfill]
theorem zm0_14 (L : Nat) (f : Nat → Int) (j : Nat) : zMem0 L f 14 j = 0 := by
  simp [zMem0, zkm_0, zkm_1, zkm_2, zkm_3, zkm_4, zkm_5, zkm_6, zkm_7, zkm_8, zkm_9, zkm_10, zkm_11, zkm_12, zkm_13, zkm_14, zkm_15, zkm_16, zkm_17, zn, zu, zfill]
theorem zm0_18 (L : Nat) (f : Nat → Int) (j : Nat) : zMem0 L f 18 j = 0 := by
  simp [zMem0, zkm_0, zkm_1, zkm_2, zkm_3, zkm_4, zkm_5, zkm_6, zkm_7, zkm_8, zkm_9, zkm_10, zkm_11, zkm_12, zkm_13, zkm_14, zkm_15, zkm_16, zkm_17, zn, zu, zfill]
theorem zm0_19 (L : Nat) (f : Nat → Int) (j : Nat) : zMem0 L f 19 j = 0 := by
  simp [zMem0, zkm_0, zkm_1, zkm_2, zkm_3, zkm_4, zkm_5, zkm_6, zkm_7, zkm_8, zkm_9, zkm_10, zkm_11, zkm_12, zkm_13, zkm_14, zkm_15, zkm_16, zkm_17, zn, zu, zfill]
theorem zm0_21 (L : Nat) (f : Nat → Int) (j : Nat) : zMem0 L f 21 j = 0 := by
  simp [zMem0, zkm_0, zkm_1, zkm_2, zkm_3, zkm_4, zkm_5, zkm_6, zkm_7, zkm_8, zkm_9, zkm_10, zkm_11, zkm_12, zkm_13, zkm_14, zkm_15, zkm_16, zkm_17, zn, zu, zfill]
theorem zm0_22 (L : Nat) (f : Nat → Int) (j : Nat) : zMem0 L f 22 j = 0 := by
  simp [zMem0, zkm_0, zkm_1, zkm_2, zkm_3, zkm_4, zkm_5, zkm_6, zkm_7, zkm_8, zkm_9, zkm_10, zkm_11, zkm_12, zkm_13, zkm_14, zkm_15, zkm_16, zkm_17, zn, zu, zfill]
theorem zm0_25 (L : Nat) (f : Nat → Int) (j : Nat) : zMem0 L f 25 j = 0 := by
  simp [zMem0, zkm_0, zkm_1, zkm_2, zkm_3, zkm_4, zkm_5, zkm_6, zkm_7, zkm_8, zkm_9, zkm_10, zkm_11, zkm_12, zkm_13, zkm_14, zkm_15, zkm_16, zkm_17, zn, zu, zfill]
theorem zm0_27 (L : Nat) (f : Nat → Int) (j : Nat) : zMem0 L f 27 j = 0 := by
  simp [zMem0, zkm_0, zkm_1, zkm_2, zkm_3, zkm_4, zkm_5, zkm_6, zkm_7, zkm_8, zkm_9, zkm_10, zkm_11, zkm_12, zkm_13, zkm_14, zkm_15, zkm_16, zkm_17, zn, zu, zfill]
theorem zm0_28 (L : Nat) (f : Nat → Int) (j : Nat) : zMem0 L f 28 j = 0 := by
  simp [zMem0, zkm_0, zkm_1, zkm_2, zkm_3, zkm_4, zkm_5, zkm_6, zkm_7, zkm_8, zkm_9, zkm_10, zkm_11, zkm_12, zkm_13, zkm_14, zkm_15, zkm_16, zkm_17, zn, zu, zfill]
theorem zm0_30 (L : Nat) (f : Nat → Int) (j : Nat) : zMem0 L f 30 j = 0 := by
  simp [zMem0, zkm_0, zkm_1, zkm_2, zkm_3, zkm_4, zkm_5, zkm_6, zkm_7, zkm_8, zkm_9, zkm_10, zkm_11, zkm_12, zkm_13, zkm_14, zkm_15, zkm_16, zkm_17, zn, zu, zfill]
theorem zm0_38 (L : Nat) (f : Nat → Int) (j : Nat) : zMem0 L f 38 j = 0 := by
  simp [zMem0, zkm_0, zkm_1, zkm_2, zkm_3, zkm_4, zkm_5, zkm_6, zkm_7, zkm_8, zkm_9, zkm_10, zkm_11, zkm_12, zkm_13, zkm_14, zkm_15, zkm_16, zkm_17, zn, zu, zfill]
theorem zm0_40 (L : Nat) (f : Nat → Int) (j : Nat) : zMem0 L f 40 j = 0 := by
  simp [zMem0, zkm_0, zkm_1, zkm_2, zkm_3, zkm_4, zkm_5, zkm_6, zkm_7, zkm_8, zkm_9, zkm_10, zkm_11, zkm_12, zkm_13, zkm_14, zkm_15, zkm_16, zkm_17, zn, zu, zfill]
theorem zm0_42 (L : Nat) (f : Nat → Int) (j : Nat) : zMem0 L f 42 j = 0 := by
  simp [zMem0, zkm_0, zkm_1, zkm_2, zkm_3, zkm_4, zkm_5, zkm_6, zkm_7, zkm_8, zkm_9, zkm_10, zkm_11, zkm_12, zkm_13, zkm_14, zkm_15, zkm_16, zkm_17, zn, zu, zfill]
theorem zm0_44 (L : Nat) (f : Nat → Int) (j : Nat) : zMem0 L f 44 j = 0 := by
  simp [zMem0, zkm_0, zkm_1, zkm_2, zkm_3, zkm_4, zkm_5, zkm_6, zkm_7, zkm_8, zkm_9, zkm_10, zkm_11, zkm_12, zkm_13, zkm_14, zkm_15, zkm_16, zkm_17, zn, zu, zfill]
theorem zm0_47 (L : Nat) (f : Nat → Int) (j : Nat) : zMem0 L f 47 j = 0 := by
  simp [zMem0, zkm_0, zkm_1, zkm_2, zkm_3, zkm_4, zkm_5, zkm_6, zkm_7, zkm_8, zkm_9, zkm_10, zkm_11, zkm_12, zkm_13, zkm_14, zkm_15, zkm_16, zkm_17, zn, zu, zfill]
theorem zm0_48 (L : Nat) (f : Nat → Int) (j : Nat) : zMem0 L f 48 j = 0 := by
  simp [zMem0, zkm_0, zkm_1, zkm_2, zkm_3, zkm_4, zkm_5, zkm_6, zkm_7, zkm_8, zkm_9, zkm_10, zkm_11, zkm_12, zkm_13, zkm_14, zkm_15, zkm_16, zkm_17, zn, zu, zfill]
theorem zm0_49 (L : Nat) (f : Nat → Int) (j : Nat) : zMem0 L f 49 j = 0 := by
  simp [zMem0, zkm_0, zkm_1, zkm_2, zkm_3, zkm_4, zkm_5, zkm_6, zkm_7, zkm_8, zkm_9, zkm_10, zkm_11, zkm_12, zkm_13, zkm_14, zkm_15, zkm_16, zkm_17, zn, zu, zfill]
theorem zm0_51 (L : Nat) (f : Nat → Int) (j : Nat) : zMem0 L f 51 j = 0 := by
  simp [zMem0, zkm_0, zkm_1, zkm_2, zkm_3, zkm_4, zkm_5, zkm_6, zkm_7, zkm_8, zkm_9, zkm_10, zkm_11, zkm_12, zkm_13, zkm_14, zkm_15, zkm_16, zkm_17, zn, zu, zfill]
theorem zm0_52 (L : Nat) (f : Nat → Int) (j : Nat) : zMem0 L f 52 j = 0 := by
  simp [zMem0, zkm_0, zkm_1, zkm_2, zkm_3, zkm_4, zkm_5, zkm_6, zkm_7, zkm_8, zkm_9, zkm_10, zkm_11, zkm_12, zkm_13, zkm_14, zkm_15, zkm_16, zkm_17, zn, zu, zfill]
theorem zm0_53 (L : Nat) (f : Nat → Int) (j : Nat) : zMem0 L f 53 j = 0 := by
  simp [zMem0, zkm_0, zkm_1, zkm_2, zkm_3, zkm_4, zkm_5, zkm_6, zkm_7, zkm_8, zkm_9, zkm_10, zkm_11, zkm_12, zkm_13, zkm_14, zkm_15, zkm_16, zkm_17, zn, zu, zfill]
theorem zm0_54 (L : Nat) (f : Nat → Int) (j : Nat) : zMem0 L f 54 j = 0 := by
  simp [zMem0, zkm_0, zkm_1, zkm_2, zkm_3, zkm_4, zkm_5, zkm_6, zkm_7, zkm_8, zkm_9, zkm_10, zkm_11, zkm_12, zkm_13, zkm_14, zkm_15, zkm_16, zkm_17, zn, zu, zfill]
theorem zm0_55 (L : Nat) (f : Nat → Int) (j : Nat) : zMem0 L f 55 j = 0 := by
  simp [zMem0, zkm_0, zkm_1, zkm_2, zkm_3, zkm_4, zkm_5, zkm_6, zkm_7, zkm_8, zkm_9, zkm_10, zkm_11, zkm_12, zkm_13, zkm_14, zkm_15, zkm_16, zkm_17, zn, zu, zfill]
theorem zm0_66 (L : Nat) (f : Nat → Int) (j : Nat) : zMem0 L f 66 j = 0 := by
  simp [zMem0, zkm_0, zkm_1, zkm_2, zkm_3, zkm_4, zkm_5, zkm_6, zkm_7, zkm_8, zkm_9, zkm_10, zkm_11, zkm_12, zkm_13, zkm_14, zkm_15, zkm_16, zkm_17, zn, zu, zfill]
theorem zm0_67 (L : Nat) (f : Nat → Int) (j : Nat) : zMem0 L f 67 j = 0 := by
  simp [zMem0, zkm_0, zkm_1, zkm_2, zkm_3, zkm_4, zkm_5, zkm_6, zkm_7, zkm_8, zkm_9, zkm_10, zkm_11, zkm_12, zkm_13, zkm_14, zkm_15, zkm_16, zkm_17, zn, zu, zfill]
theorem zm0_3 (L : Nat) (f : Nat → Int) (j : Nat) : zMem0 L f 3 j = if j < 8 then 255 else 0 := by
  simp [zMem0, zkm_0, zkm_1, zkm_2, zkm_3, zkm_4, zkm_5, zkm_6, zkm_7, zkm_8, zkm_9, zkm_10, zkm_11, zkm_12, zkm_13, zkm_14, zkm_15, zkm_16, zkm_17, zn, zu, zfill]
theorem zm0_17 (L : Nat) (f : Nat → Int) (j : Nat) : zMem0 L f 17 j = if j < 8 then 255 else 0 := by
  simp [zMem0, zkm_0, zkm_1, zkm_2, zkm_3, zkm_4, zkm_5, zkm_6, zkm_7, zkm_8, zkm_9, zkm_10, zkm_11, zkm_12, zkm_13, zkm_14, zkm_15, zkm_16, zkm_17, zn, zu, zfill]
theorem zm0_9 (L : Nat) (f : Nat → Int) (j : Nat) : zMem0 L f 9 j = if j < 48 then 1 else 0 := by
  simp [zMem0, zkm_0, zkm_1, zkm_2, zkm_3, zkm_4, zkm_5, zkm_6, zkm_7, zkm_8, zkm_9, zkm_10, zkm_11, zkm_12, zkm_13, zkm_14, zkm_15, zkm_16, zkm_17, zn, zu, zfill]
theorem zm0_23 (L : Nat) (f : Nat → Int) (j : Nat) : zMem0 L f 23 j = if j < 48 then 1 else 0 := by
  simp [zMem0, zkm_0, zkm_1, zkm_2, zkm_3, zkm_4, zkm_5, zkm_6, zkm_7, zkm_8, zkm_9, zkm_10, zkm_11, zkm_12, zkm_13, zkm_14, zkm_15, zkm_16, zkm_17, zn, zu, zfill]
theorem zm0_1_4 (L : Nat) (f : Nat → Int) : zMem0 L f 1 4 = 1 := by
  simp [zMem0, zkm_0, zkm_1, zkm_2, zkm_3, zkm_4, zkm_5, zkm_6, zkm_7, zkm_8, zkm_9, zkm_10, zkm_11, zkm_12, zkm_13, zkm_14, zkm_15, zkm_16, zkm_17, zn, zu, zfill]
theorem zm0_2_3 (L : Nat) (f : Nat → Int) : zMem0 L f 2 3 = 0 := by
  simp [zMem0, zkm_0, zkm_1, zkm_2, zkm_3, zkm_4, zkm_5, zkm_6, zkm_7, zkm_8, zkm_9, zkm_10, zkm_11, zkm_12, zkm_13, zkm_14, zkm_15, zkm_16, zkm_17, zn, zu, zfill]
theorem zm0_6_3 (L : Nat) (f : Nat → Int) : zMem0 L f 6 3 = 0 := by
  simp [zMem0, zkm_0, zkm_1, zkm_2, zkm_3, zkm_4, zkm_5, zkm_6, zkm_7, zkm_8, zkm_9, zkm_10, zkm_11, zkm_12, zkm_13, zkm_14, zkm_15, zkm_16, zkm_17, zn, zu, zfill]
theorem zm0_10_2 (L : Nat) (f : Nat → Int) : zMem0 L f 10 2 = 0 := by
  simp [zMem0, zkm_0, zkm_1, zkm_2, zkm_3, zkm_4, zkm_5, zkm_6, zkm_7, zkm_8, zkm_9, zkm_10, zkm_11, zkm_12, zkm_13, zkm_14, zkm_15, zkm_16, zkm_17, zn, zu, zfill]
theorem zm0_10_3 (L : Nat) (f : Nat → Int) : zMem0 L f 10 3 = 0 := by
  simp [zMem0, zkm_0, zkm_1, zkm_2, zkm_3, zkm_4, zkm_5, zkm_6, zkm_7, zkm_8, zkm_9, zkm_10, zkm_11, zkm_12, zkm_13, zkm_14, zkm_15, zkm_16, zkm_17, zn, zu, zfill]
theorem zm0_10_4 (L : Nat) (f : Nat → Int) : zMem0 L f 10 4 = 0 := by
  simp [zMem0, zkm_0, zkm_1, zkm_2, zkm_3, zkm_4, zkm_5, zkm_6, zkm_7, zkm_8, zkm_9, zkm_10, zkm_11, zkm_12, zkm_13, zkm_14, zkm_15, zkm_16, zkm_17, zn, zu, zfill]
theorem zm0_12_2 (L : Nat) (f : Nat → Int) : zMem0 L f 12 2 = 0 := by
  simp [zMem0, zkm_0, zkm_1, zkm_2, zkm_3, zkm_4, zkm_5, zkm_6, zkm_7, zkm_8, zkm_9, zkm_10, zkm_11, zkm_12, zkm_13, zkm_14, zkm_15, zkm_16, zkm_17, zn, zu, zfill]
theorem zm0_15_4 (L : Nat) (f : Nat → Int) : zMem0 L f 15 4 = 1 := by
  simp [zMem0, zkm_0, zkm_1, zkm_2, zkm_3, zkm_4, zkm_5, zkm_6, zkm_7, zkm_8, zkm_9, zkm_10, zkm_11, zkm_12, zkm_13, zkm_14, zkm_15, zkm_16, zkm_17, zn, zu, zfill]
theorem zm0_16_3 (L : Nat) (f : Nat → Int) : zMem0 L f 16 3 = 0 := by
  simp [zMem0, zkm_0, zkm_1, zkm_2, zkm_3, zkm_4, zkm_5, zkm_6, zkm_7, zkm_8, zkm_9, zkm_10, zkm_11, zkm_12, zkm_13, zkm_14, zkm_15, zkm_16, zkm_17, zn, zu, zfill]
theorem zm0_20_3 (L : Nat) (f : Nat → Int) : zMem0 L f 20 3 = 0 := by
  simp [zMem0, zkm_0, zkm_1, zkm_2, zkm_3, zkm_4, zkm_5, zkm_6, zkm_7, zkm_8, zkm_9, zkm_10, zkm_11, zkm_12, zkm_13, zkm_14, zkm_15, zkm_16, zkm_17, zn, zu, zfill]
theorem zm0_24_2 (L : Nat) (f : Nat → Int) : zMem0 L f 24 2 = 0 := by
  simp [zMem0, zkm_0, zkm_1, zkm_2, zkm_3, zkm_4, zkm_5, zkm_6, zkm_7, zkm_8, zkm_9, zkm_10, zkm_11, zkm_12, zkm_13, zkm_14, zkm_15, zkm_16, zkm_17, zn, zu, zfill]
theorem zm0_24_3 (L : Nat) (f : Nat → Int) : zMem0 L f 24 3 = 0 := by
  simp [zMem0, zkm_0, zkm_1, zkm_2, zkm_3, zkm_4, zkm_5, zkm_6, zkm_7, zkm_8, zkm_9, zkm_10, zkm_11, zkm_12, zkm_13, zkm_14, zkm_15, zkm_16, zkm_17, zn, zu, zfill]
theorem zm0_24_4 (L : Nat) (f : Nat → Int) : zMem0 L f 24 4 = 0 := by
  simp [zMem0, zkm_0, zkm_1, zkm_2, zkm_3, zkm_4, zkm_5, zkm_6, zkm_7, zkm_8, zkm_9, zkm_10, zkm_11, zkm_12, zkm_13, zkm_14, zkm_15, zkm_16, zkm_17, zn, zu, zfill]
theorem zm0_26_2 (L : Nat) (f : Nat → Int) : zMem0 L f 26 2 = 0 := by
  simp [zMem0, zkm_0, zkm_1, zkm_2, zkm_3, zkm_4, zkm_5, zkm_6, zkm_7, zkm_8, zkm_9, zkm_10, zkm_11, zkm_12, zkm_13, zkm_14, zkm_15, zkm_16, zkm_17, zn, zu, zfill]
theorem zm0_29_2 (L : Nat) (f : Nat → Int) : zMem0 L f 29 2 = 0 := by
  simp [zMem0, zkm_0, zkm_1, zkm_2, zkm_3, zkm_4, zkm_5, zkm_6, zkm_7, zkm_8, zkm_9, zkm_10, zkm_11, zkm_12, zkm_13, zkm_14, zkm_15, zkm_16, zkm_17, zn, zu, zfill]
theorem zm0_0_6 (L : Nat) (f : Nat → Int) : zMem0 L f 0 6 = 0 := by
  simp [zMem0, zkm_0, zkm_1, zkm_2, zkm_3, zkm_4, zkm_5, zkm_6, zkm_7, zkm_8, zkm_9, zkm_10, zkm_11, zkm_12, zkm_13, zkm_14, zkm_15, zkm_16, zkm_17, zn, zu, zfill]
theorem zm0_45_3 (L : Nat) (f : Nat → Int) : zMem0 L f 45 3 = 0 := by
  simp [zMem0, zkm_0, zkm_1, zkm_2, zkm_3, zkm_4, zkm_5, zkm_6, zkm_7, zkm_8, zkm_9, zkm_10, zkm_11, zkm_12, zkm_13, zkm_14, zkm_15, zkm_16, zkm_17, zn, zu, zfill]
theorem zm0_45_8 (L : Nat) (f : Nat → Int) : zMem0 L f 45 8 = 0 := by
  simp [zMem0, zkm_0, zkm_1, zkm_2, zkm_3, zkm_4, zkm_5, zkm_6, zkm_7, zkm_8, zkm_9, zkm_10, zkm_11, zkm_12, zkm_13, zkm_14, zkm_15, zkm_16, zkm_17, zn, zu, zfill]
theorem zm0_45_11 (L : Nat) (f : Nat → Int) : zMem0 L f 45 11 = 0 := by
  simp [zMem0, zkm_0, zkm_1, zkm_2, zkm_3, zkm_4, zkm_5, zkm_6, zkm_7, zkm_8, zkm_9, zkm_10, zkm_11, zkm_12, zkm_13, zkm_14, zkm_15, zkm_16, zkm_17, zn, zu, zfill]
theorem zm0_45_12 (L : Nat) (f : Nat → Int) : zMem0 L f 45 12 = 0 := by
  simp [zMem0, zkm_0, zkm_1, zkm_2, zkm_3, zkm_4, zkm_5, zkm_6, zkm_7, zkm_8, zkm_9, zkm_10, zkm_11, zkm_12, zkm_13, zkm_14, zkm_15, zkm_16, zkm_17, zn, zu, zfill]
theorem zm0_45_13 (L : Nat) (f : Nat → Int) : zMem0 L f 45 13 = 0 := by
  simp [zMem0, zkm_0, zkm_1, zkm_2, zkm_3, zkm_4, zkm_5, zkm_6, zkm_7, zkm_8, zkm_9, zkm_10, zkm_11, zkm_12, zkm_13, zkm_14, zkm_15, zkm_16, zkm_17, zn, zu, zfill]
theorem zm0_45_14 (L : Nat) (f : Nat → Int) : zMem0 L f 45 14 = 0 := by
  simp [zMem0, zkm_0, zkm_1, zkm_2, zkm_3, zkm_4, zkm_5, zkm_6, zkm_7, zkm_8, zkm_9, zkm_10, zkm_11, zkm_12, zkm_13, zkm_14, zkm_15, zkm_16, zkm_17, zn, zu, zfill]
theorem zm0_45_15 (L : Nat) (f : Nat → Int) : zMem0 L f 45 15 = 1 := by
  simp [zMem0, zkm_0, zkm_1, zkm_2, zkm_3, zkm_4, zkm_5, zkm_6, zkm_7, zkm_8, zkm_9, zkm_10, zkm_11, zkm_12, zkm_13, zkm_14, zkm_15, zkm_16, zkm_17, zn, zu, zfill]
theorem zm0_45_17 (L : Nat) (f : Nat → Int) : zMem0 L f 45 17 = 0 := by
  simp [zMem0, zkm_0, zkm_1, zkm_2, zkm_3, zkm_4, zkm_5, zkm_6, zkm_7, zkm_8, zkm_9, zkm_10, zkm_11, zkm_12, zkm_13, zkm_14, zkm_15, zkm_16, zkm_17, zn, zu, zfill]
theorem zm0_45_28 (L : Nat) (f : Nat → Int) : zMem0 L f 45 28 = 0 := by
  simp [zMem0, zkm_0, zkm_1, zkm_2, zkm_3, zkm_4, zkm_5, zkm_6, zkm_7, zkm_8, zkm_9, zkm_10, zkm_11, zkm_12, zkm_13, zkm_14, zkm_15, zkm_16, zkm_17, zn, zu, zfill]
theorem zm0_37_1 (L : Nat) (f : Nat → Int) : zMem0 L f 37 1 = -1 := by
  simp [zMem0, zkm_0, zkm_1, zkm_2, zkm_3, zkm_4, zkm_5, zkm_6, zkm_7, zkm_8, zkm_9, zkm_10, zkm_11, zkm_12, zkm_13, zkm_14, zkm_15, zkm_16, zkm_17, zn, zu, zfill]
theorem zm0_37_2 (L : Nat) (f : Nat → Int) : zMem0 L f 37 2 = 0 := by
  simp [zMem0, zkm_0, zkm_1, zkm_2, zkm_3, zkm_4, zkm_5, zkm_6, zkm_7, zkm_8, zkm_9, zkm_10, zkm_11, zkm_12, zkm_13, zkm_14, zkm_15, zkm_16, zkm_17, zn, zu, zfill]
theorem zm0_65_0 (L : Nat) (f : Nat → Int) : zMem0 L f 65 0 = -1 := by
  simp [zMem0, zkm_0, zkm_1, zkm_2, zkm_3, zkm_4, zkm_5, zkm_6, zkm_7, zkm_8, zkm_9, zkm_10, zkm_11, zkm_12, zkm_13, zkm_14, zkm_15, zkm_16, zkm_17, zn, zu, zfill]
theorem zm0_39_1 (L : Nat) (f : Nat → Int) : zMem0 L f 39 1 = -1 := by
  simp [zMem0, zkm_0, zkm_1, zkm_2, zkm_3, zkm_4, zkm_5, zkm_6, zkm_7, zkm_8, zkm_9, zkm_10, zkm_11, zkm_12, zkm_13, zkm_14, zkm_15, zkm_16, zkm_17, zn, zu, zfill]
theorem zm0_39_2 (L : Nat) (f : Nat → Int) : zMem0 L f 39 2 = 0 := by
  simp [zMem0, zkm_0, zkm_1, zkm_2, zkm_3, zkm_4, zkm_5, zkm_6, zkm_7, zkm_8, zkm_9, zkm_10, zkm_11, zkm_12, zkm_13, zkm_14, zkm_15, zkm_16, zkm_17, zn, zu, zfill]
theorem zm0_65_1 (L : Nat) (f : Nat → Int) : zMem0 L f 65 1 = -1 := by
  simp [zMem0, zkm_0, zkm_1, zkm_2, zkm_3, zkm_4, zkm_5, zkm_6, zkm_7, zkm_8, zkm_9, zkm_10, zkm_11, zkm_12, zkm_13, zkm_14, zkm_15, zkm_16, zkm_17, zn, zu, zfill]
theorem zm0_41_1 (L : Nat) (f : Nat → Int) : zMem0 L f 41 1 = -1 := by
  simp [zMem0, zkm_0, zkm_1, zkm_2, zkm_3, zkm_4, zkm_5, zkm_6, zkm_7, zkm_8, zkm_9, zkm_10, zkm_11, zkm_12, zkm_13, zkm_14, zkm_15, zkm_16, zkm_17, zn, zu, zfill]
theorem zm0_41_2 (L : Nat) (f : Nat → Int) : zMem0 L f 41 2 = 0 := by
  simp [zMem0, zkm_0, zkm_1, zkm_2, zkm_3, zkm_4, zkm_5, zkm_6, zkm_7, zkm_8, zkm_9, zkm_10, zkm_11, zkm_12, zkm_13, zkm_14, zkm_15, zkm_16, zkm_17, zn, zu, zfill]
theorem zm0_65_2 (L : Nat) (f : Nat → Int) : zMem0 L f 65 2 = -1 := by
  simp [zMem0, zkm_0, zkm_1, zkm_2, zkm_3, zkm_4, zkm_5, zkm_6, zkm_7, zkm_8, zkm_9, zkm_10, zkm_11, zkm_12, zkm_13, zkm_14, zkm_15, zkm_16, zkm_17, zn, zu, zfill]
theorem zm0_43_1 (L : Nat) (f : Nat → Int) : zMem0 L f 43 1 = -1 := by
  simp [zMem0, zkm_0, zkm_1, zkm_2, zkm_3, zkm_4, zkm_5, zkm_6, zkm_7, zkm_8, zkm_9, zkm_10, zkm_11, zkm_12, zkm_13, zkm_14, zkm_15, zkm_16, zkm_17, zn, zu, zfill]
theorem zm0_43_2 (L : Nat) (f : Nat → Int) : zMem0 L f 43 2 = 0 := by
  simp [zMem0, zkm_0, zkm_1, zkm_2, zkm_3, zkm_4, zkm_5, zkm_6, zkm_7, zkm_8, zkm_9, zkm_10, zkm_11, zkm_12, zkm_13, zkm_14, zkm_15, zkm_16, zkm_17, zn, zu, zfill]
theorem zm0_65_3 (L : Nat) (f : Nat → Int) : zMem0 L f 65 3 = -1 := by
  simp [zMem0, zkm_0, zkm_1, zkm_2, zkm_3, zkm_4, zkm_5, zkm_6, zkm_7, zkm_8, zkm_9, zkm_10, zkm_11, zkm_12, zkm_13, zkm_14, zkm_15, zkm_16, zkm_17, zn, zu, zfill]
theorem zm0_46 (L : Nat) (f : Nat → Int) (j : Nat) : zMem0 L f 46 j = if j < 8 then 255 else 0 := by
  by_cases h : j < 8
  · rw [if_pos h]
    have : j = 0 ∨ j = 1 ∨ j = 2 ∨ j = 3 ∨ j = 4 ∨ j = 5 ∨ j = 6 ∨ j = 7 := by omega
    rcases this with q | q | q | q | q | q | q | q <;> subst q <;> simp [zMem0, zkm_0, zkm_1, zkm_2, zkm_3, zkm_4, zkm_5, zkm_6, zkm_7, zkm_8, zkm_9, zkm_10, zkm_11, zkm_12, zkm_13, zkm_14, zkm_15, zkm_16, zkm_17, zn, zu, zfill]
  · rw [if_neg h]
    simp [zMem0, zkm_0, zkm_1, zkm_2, zkm_3, zkm_4, zkm_5, zkm_6, zkm_7, zkm_8, zkm_9, zkm_10, zkm_11, zkm_12, zkm_13, zkm_14, zkm_15, zkm_16, zkm_17, zn, zu, zfill, show j ≠ 0 by omega, show j ≠ 1 by omega, show j ≠ 2 by omega, show j ≠ 3 by omega, show j ≠ 4 by omega, show j ≠ 5 by omega, show j ≠ 6 by omega, show j ≠ 7 by omega]
theorem zm0_998 (L : Nat) (f : Nat → Int) : zMem0 L f 998 0 = L := by
  simp [zMem0, zkm_0, zkm_1, zkm_2, zkm_3, zkm_4, zkm_5, zkm_6, zkm_7, zkm_8, zkm_9, zkm_10, zkm_11, zkm_12, zkm_13, zkm_14, zkm_15, zkm_16, zkm_17, zn, zu, zfill, zmS]
theorem zm0_999 (L : Nat) (f : Nat → Int) (j : Nat) : zMem0 L f 999 j = f j := by
  simp [zMem0, zkm_0, zkm_1, zkm_2, zkm_3, zkm_4, zkm_5, zkm_6, zkm_7, zkm_8, zkm_9, zkm_10, zkm_11, zkm_12, zkm_13, zkm_14, zkm_15, zkm_16, zkm_17, zn, zu, zfill, zmS]
