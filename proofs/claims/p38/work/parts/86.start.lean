def zmS (L : Nat) (f : Nat → Int) : zMm := fun a b => if a = 999 then f b else if a = 998 ∧ b = 0 then L else 0
/-- the memory behind the constructors and the law's rows -/
def zMem0 (L : Nat) (f : Nat → Int) : zMm := zn (zn (zn (zn (zn (zn (zn (zkm_0 (zn (zmS L f) 0)) 45) 46) 47) 48) 49) 50) 51
theorem zm0_4 (L : Nat) (f : Nat → Int) (j : Nat) : zMem0 L f 4 j = 0 := by
  simp [zMem0, zkm_0, zkm_1, zkm_2, zkm_3, zkm_4, zkm_5, zkm_6, zkm_7, zkm_8, zkm_9, zkm_10, zkm_11, zkm_12, zkm_13, zkm_14, zkm_15, zkm_16, zn, zu, zfill]
theorem zm0_5 (L : Nat) (f : Nat → Int) (j : Nat) : zMem0 L f 5 j = 0 := by
  simp [zMem0, zkm_0, zkm_1, zkm_2, zkm_3, zkm_4, zkm_5, zkm_6, zkm_7, zkm_8, zkm_9, zkm_10, zkm_11, zkm_12, zkm_13, zkm_14, zkm_15, zkm_16, zn, zu, zfill]
theorem zm0_7 (L : Nat) (f : Nat → Int) (j : Nat) : zMem0 L f 7 j = 0 := by
  simp [zMem0, zkm_0, zkm_1, zkm_2, zkm_3, zkm_4, zkm_5, zkm_6, zkm_7, zkm_8, zkm_9, zkm_10, zkm_11, zkm_12, zkm_13, zkm_14, zkm_15, zkm_16, zn, zu, zfill]
theorem zm0_8 (L : Nat) (f : Nat → Int) (j : Nat) : zMem0 L f 8 j = 0 := by
  simp [zMem0, zkm_0, zkm_1, zkm_2, zkm_3, zkm_4, zkm_5, zkm_6, zkm_7, zkm_8, zkm_9, zkm_10, zkm_11, zkm_12, zkm_13, zkm_14, zkm_15, zkm_16, zn, zu, zfill]
theorem zm0_11 (L : Nat) (f : Nat → Int) (j : Nat) : zMem0 L f 11 j = 0 := by
  simp [zMem0, zkm_0, zkm_1, zkm_2, zkm_3, zkm_4, zkm_5, zkm_6, zkm_7, zkm_8, zkm_9, zkm_10, zkm_11, zkm_12, zkm_13, zkm_14, zkm_15, zkm_16, zn, zu, zfill]
theorem zm0_13 (L : Nat) (f : Nat → Int) (j : Nat) : zMem0 L f 13 j = 0 := by
  simp [zMem0, zkm_0, zkm_1, zkm_2, zkm_3, zkm_4, zkm_5, zkm_6, zkm_7, zkm_8, zkm_9, zkm_10, zkm_11, zkm_12, zkm_13, zkm_14, zkm_15, zkm_16, zn, zu, zfill]
theorem zm0_14 (L : Nat) (f : Nat → Int) (j : Nat) : zMem0 L f 14 j = 0 := by
  simp [zMem0, zkm_0, zkm_1, zkm_2, zkm_3, zkm_4, zkm_5, zkm_6, zkm_7, zkm_8, zkm_9, zkm_10, zkm_11, zkm_12, zkm_13, zkm_14, zkm_15, zkm_16, zn, zu, zfill]
theorem zm0_45 (L : Nat) (f : Nat → Int) (j : Nat) : zMem0 L f 45 j = 0 := by
  simp [zMem0, zkm_0, zkm_1, zkm_2, zkm_3, zkm_4, zkm_5, zkm_6, zkm_7, zkm_8, zkm_9, zkm_10, zkm_11, zkm_12, zkm_13, zkm_14, zkm_15, zkm_16, zn, zu, zfill]
theorem zm0_46 (L : Nat) (f : Nat → Int) (j : Nat) : zMem0 L f 46 j = 0 := by
  simp [zMem0, zkm_0, zkm_1, zkm_2, zkm_3, zkm_4, zkm_5, zkm_6, zkm_7, zkm_8, zkm_9, zkm_10, zkm_11, zkm_12, zkm_13, zkm_14, zkm_15, zkm_16, zn, zu, zfill]
theorem zm0_47 (L : Nat) (f : Nat → Int) (j : Nat) : zMem0 L f 47 j = 0 := by
  simp [zMem0, zkm_0, zkm_1, zkm_2, zkm_3, zkm_4, zkm_5, zkm_6, zkm_7, zkm_8, zkm_9, zkm_10, zkm_11, zkm_12, zkm_13, zkm_14, zkm_15, zkm_16, zn, zu, zfill]
theorem zm0_48 (L : Nat) (f : Nat → Int) (j : Nat) : zMem0 L f 48 j = 0 := by
  simp [zMem0, zkm_0, zkm_1, zkm_2, zkm_3, zkm_4, zkm_5, zkm_6, zkm_7, zkm_8, zkm_9, zkm_10, zkm_11, zkm_12, zkm_13, zkm_14, zkm_15, zkm_16, zn, zu, zfill]
theorem zm0_51 (L : Nat) (f : Nat → Int) (j : Nat) : zMem0 L f 51 j = 0 := by
  simp [zMem0, zkm_0, zkm_1, zkm_2, zkm_3, zkm_4, zkm_5, zkm_6, zkm_7, zkm_8, zkm_9, zkm_10, zkm_11, zkm_12, zkm_13, zkm_14, zkm_15, zkm_16, zn, zu, zfill]
theorem zm0_3 (L : Nat) (f : Nat → Int) (j : Nat) : zMem0 L f 3 j = if j < 8 then 255 else 0 := by
  simp [zMem0, zkm_0, zkm_1, zkm_2, zkm_3, zkm_4, zkm_5, zkm_6, zkm_7, zkm_8, zkm_9, zkm_10, zkm_11, zkm_12, zkm_13, zkm_14, zkm_15, zkm_16, zn, zu, zfill]
theorem zm0_9 (L : Nat) (f : Nat → Int) (j : Nat) : zMem0 L f 9 j = if j < 48 then 1 else 0 := by
  simp [zMem0, zkm_0, zkm_1, zkm_2, zkm_3, zkm_4, zkm_5, zkm_6, zkm_7, zkm_8, zkm_9, zkm_10, zkm_11, zkm_12, zkm_13, zkm_14, zkm_15, zkm_16, zn, zu, zfill]
theorem zm0_1_4 (L : Nat) (f : Nat → Int) : zMem0 L f 1 4 = 1 := by
  simp [zMem0, zkm_0, zkm_1, zkm_2, zkm_3, zkm_4, zkm_5, zkm_6, zkm_7, zkm_8, zkm_9, zkm_10, zkm_11, zkm_12, zkm_13, zkm_14, zkm_15, zkm_16, zn, zu, zfill]
theorem zm0_2_3 (L : Nat) (f : Nat → Int) : zMem0 L f 2 3 = 0 := by
  simp [zMem0, zkm_0, zkm_1, zkm_2, zkm_3, zkm_4, zkm_5, zkm_6, zkm_7, zkm_8, zkm_9, zkm_10, zkm_11, zkm_12, zkm_13, zkm_14, zkm_15, zkm_16, zn, zu, zfill]
theorem zm0_6_3 (L : Nat) (f : Nat → Int) : zMem0 L f 6 3 = 0 := by
  simp [zMem0, zkm_0, zkm_1, zkm_2, zkm_3, zkm_4, zkm_5, zkm_6, zkm_7, zkm_8, zkm_9, zkm_10, zkm_11, zkm_12, zkm_13, zkm_14, zkm_15, zkm_16, zn, zu, zfill]
theorem zm0_10_2 (L : Nat) (f : Nat → Int) : zMem0 L f 10 2 = 0 := by
  simp [zMem0, zkm_0, zkm_1, zkm_2, zkm_3, zkm_4, zkm_5, zkm_6, zkm_7, zkm_8, zkm_9, zkm_10, zkm_11, zkm_12, zkm_13, zkm_14, zkm_15, zkm_16, zn, zu, zfill]
theorem zm0_10_3 (L : Nat) (f : Nat → Int) : zMem0 L f 10 3 = 0 := by
  simp [zMem0, zkm_0, zkm_1, zkm_2, zkm_3, zkm_4, zkm_5, zkm_6, zkm_7, zkm_8, zkm_9, zkm_10, zkm_11, zkm_12, zkm_13, zkm_14, zkm_15, zkm_16, zn, zu, zfill]
theorem zm0_10_4 (L : Nat) (f : Nat → Int) : zMem0 L f 10 4 = 0 := by
  simp [zMem0, zkm_0, zkm_1, zkm_2, zkm_3, zkm_4, zkm_5, zkm_6, zkm_7, zkm_8, zkm_9, zkm_10, zkm_11, zkm_12, zkm_13, zkm_14, zkm_15, zkm_16, zn, zu, zfill]
theorem zm0_12_2 (L : Nat) (f : Nat → Int) : zMem0 L f 12 2 = 0 := by
  simp [zMem0, zkm_0, zkm_1, zkm_2, zkm_3, zkm_4, zkm_5, zkm_6, zkm_7, zkm_8, zkm_9, zkm_10, zkm_11, zkm_12, zkm_13, zkm_14, zkm_15, zkm_16, zn, zu, zfill]
theorem zm0_999 (L : Nat) (f : Nat → Int) (j : Nat) : zMem0 L f 999 j = f j := by
  simp [zMem0, zkm_0, zkm_1, zkm_2, zkm_3, zkm_4, zkm_5, zkm_6, zkm_7, zkm_8, zkm_9, zkm_10, zkm_11, zkm_12, zkm_13, zkm_14, zkm_15, zkm_16, zn, zu, zfill, zmS]
theorem zstart {P : Int → zMm → Prop} (L : Nat) (f : Nat → Int) (h : zE P (zR 60 92 48 [some (.inr (.inr 999)), some (.inr (.inr 0)), some (.inr (.inr 45)), some (.inr (.inr 46)), some (.inr (.inr 47)), some (.inr (.inr 48)), some (.inr (.inr 49)), some (.inr (.inr 50)), some (.inr (.inr 51)), none, none, none, none, none, none, none, none, none, none, none, none] [] SH (zMem0 L f))) : zE P (zR 60 92 0 (zin 21 [.inr (.inr 999)]) [] [] (zmS L f)) := by
  have h0 : zR 60 92 0 (zin 21 [.inr (.inr 999)]) [] [] (zmS L f) = zcV (zL 60 58 [.inr (.inr 0)] [(8, 7, [0, 0, 0, 0, 0, 0, 0])] (zn (zmS L f) 0)) (fun sh' mm' => zR 60 92 7 [some (.inr (.inr 999)), none, none, none, none, none, none, none, none, none, none, none, none, none, none, none, none, none, none, none, none] [.inr (.inr 0)] sh' mm') := (zR_unf 60 92 [48] 3 0 _ _ _ _).trans rfl
  refine zE.e h0 ?_
  refine zE.e (congrArg (fun r => zcV r _) (zk_0 57 _)) ?_
  show zE P (zR 60 92 7 [some (.inr (.inr 999)), none, none, none, none, none, none, none, none, none, none, none, none, none, none, none, none, none, none, none, none] [.inr (.inr 0)] [(8, 7, [2, 16, 30, 33, 34, 37, 0]), (1, 5, [3, 7, 11, 13, 0]), (6, 4, [4, 5, 6, 0]), (100, 8, []), (100, 6, []), (100, 6, []), (0, 4, [8, 9, 10, 0]), (100, 6, []), (101, 6, []), (100, 48, []), (7, 5, [7, 12, 0, 0, 0]), (100, 6, []), (2, 3, [14, 15, 0]), (100, 60, []), (100, 60, []), (1, 5, [17, 21, 25, 27, 0]), (6, 4, [18, 19, 20, 0]), (100, 8, []), (100, 6, []), (100, 6, []), (0, 4, [22, 23, 24, 0]), (100, 6, []), (101, 6, []), (100, 48, []), (7, 5, [21, 26, 0, 0, 0]), (100, 6, []), (2, 3, [28, 29, 0]), (100, 60, []), (100, 60, []), (5, 3, [31, 32, 0]), (100, 80, []), (100, 24, []), (103, 4, [38, 40, 42, 44]), (3, 3, [35, 36, 0]), (100, 3510, []), (102, 1024, []), (100, 6, []), (4, 3, [39, 0, 0]), (100, 24, []), (4, 3, [41, 0, 0]), (100, 24, []), (4, 3, [43, 0, 0]), (100, 24, []), (4, 3, [45, 0, 0]), (100, 24, [])] (zkm_0 (zn (zmS L f) 0)))
  exact zE.e ((zR_unf 60 92 [48] 22 7 _ _ _ _).trans rfl) h
theorem p1_0 (L : Nat) (f : Nat → Int) (hf : ∀ j, zr32 (f j)) : p1 0 (zMem0 L f) := by
  refine ⟨⟨⟨⟨?_, ?_, ?_, ?_, ?_⟩, ⟨?_, ?_, ?_, ?_⟩, ?_, ⟨?_, ?_, ?_⟩, ?_, ?_, ⟨?_, ?_, ?_⟩, ?_, ?_, ?_, ?_⟩, zm0_12_2 L f, zm0_10_2 L f, zm0_10_3 L f, zm0_10_4 L f, fun j => by rw [zm0_999]; exact hf j, fun w hw => by rw [zm0_3, if_pos hw]; decide⟩, zm0_2_3 L f, zm0_6_3 L f, fun w _ hw => by rw [zm0_3, if_pos hw], fun w hw => absurd hw (Nat.not_lt_zero w), fun i _ => by rw [zm0_47, zm0_8]⟩
  · rw [zm0_6_3]; decide
  · rw [zm0_6_3]; decide
  · intro j; rw [zm0_7]; decide
  · intro j; rw [zm0_9]; split <;> decide
  · intro j; exact .inl (zm0_8 L f j)
  · rw [zm0_2_3]; decide
  · rw [zm0_2_3]; decide
  · intro j hj; rw [zm0_3, if_pos hj]; decide
  · intro j hj; rw [zm0_2_3] at hj; omega
  · intro j hj; rw [zm0_2_3] at hj; omega
  · intro j hj; rw [zm0_6_3] at hj; omega
  · intro j t hj; rw [zm0_6_3] at hj; omega
  · intro j hj; rw [zm0_6_3] at hj; omega
  · rw [zm0_10_2]; exact ⟨by decide, .inr rfl⟩
  · exact .inl (zm0_10_4 L f)
  · rw [zm0_12_2]; decide
  · rw [zm0_12_2]; decide
  · intro j hj; rw [zm0_12_2] at hj; omega
  · intro j hj; rw [zm0_12_2] at hj; omega
  · intro j hj h48; rw [zm0_9, if_pos h48]
  · intro j hj; exact zm0_8 L f j
  · rw [zm0_1_4]; decide
