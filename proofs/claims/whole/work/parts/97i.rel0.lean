theorem zstart (L : Nat) (f : Nat → Int) (r : Option zV × List zSh × zMm) (h : zR 60 202 18 [some (.inr (.inr 999)), some (.inr (.inr 0)), some (.inr (.inr 45)), some (.inl 0)] [] SH (zMem0 L f) = some r) : zR 60 202 0 (zin 4 [.inr (.inr 999)]) [] [] (zmS L f) = some r := by
  have h0 : zR 60 202 0 (zin 4 [.inr (.inr 999)]) [] [] (zmS L f) = zcV (zL 60 75 [.inr (.inr 0)] [(8, 7, [0, 0, 0, 0, 0, 0, 0])] (zn (zmS L f) 0)) (fun sh' mm' => zR 60 202 7 [some (.inr (.inr 999)), none, none, none] [.inr (.inr 0)] sh' mm') := (zR_unf 60 202 [18] 3 0 _ _ _ _).trans rfl
  refine h0.trans ?_
  refine (congrArg (fun r => zcV r _) (zk_0 57 _)).trans ?_
  show zR 60 202 7 [some (.inr (.inr 999)), none, none, none] [.inr (.inr 0)] [(8, 7, [2, 16, 30, 33, 34, 37, 0]), (1, 5, [3, 7, 11, 13, 0]), (6, 4, [4, 5, 6, 0]), (100, 8, []), (100, 6, []), (100, 6, []), (0, 4, [8, 9, 10, 0]), (100, 6, []), (101, 6, []), (100, 48, []), (7, 5, [7, 12, 0, 0, 0]), (100, 6, []), (2, 3, [14, 15, 0]), (100, 60, []), (100, 60, []), (1, 5, [17, 21, 25, 27, 0]), (6, 4, [18, 19, 20, 0]), (100, 8, []), (100, 6, []), (100, 6, []), (0, 4, [22, 23, 24, 0]), (100, 6, []), (101, 6, []), (100, 48, []), (7, 5, [21, 26, 0, 0, 0]), (100, 6, []), (2, 3, [28, 29, 0]), (100, 60, []), (100, 60, []), (5, 3, [31, 32, 0]), (100, 80, []), (100, 24, []), (103, 4, [38, 40, 42, 44]), (3, 3, [35, 36, 0]), (100, 3510, []), (102, 1024, []), (100, 6, []), (4, 3, [39, 0, 0]), (100, 24, []), (4, 3, [41, 0, 0]), (100, 24, []), (4, 3, [43, 0, 0]), (100, 24, []), (4, 3, [45, 0, 0]), (100, 24, [])] (zkm_0 (zn (zmS L f) 0)) = _
  have h1 : zR 60 202 7 [some (.inr (.inr 999)), none, none, none] [.inr (.inr 0)] [(8, 7, [2, 16, 30, 33, 34, 37, 0]), (1, 5, [3, 7, 11, 13, 0]), (6, 4, [4, 5, 6, 0]), (100, 8, []), (100, 6, []), (100, 6, []), (0, 4, [8, 9, 10, 0]), (100, 6, []), (101, 6, []), (100, 48, []), (7, 5, [7, 12, 0, 0, 0]), (100, 6, []), (2, 3, [14, 15, 0]), (100, 60, []), (100, 60, []), (1, 5, [17, 21, 25, 27, 0]), (6, 4, [18, 19, 20, 0]), (100, 8, []), (100, 6, []), (100, 6, []), (0, 4, [22, 23, 24, 0]), (100, 6, []), (101, 6, []), (100, 48, []), (7, 5, [21, 26, 0, 0, 0]), (100, 6, []), (2, 3, [28, 29, 0]), (100, 60, []), (100, 60, []), (5, 3, [31, 32, 0]), (100, 80, []), (100, 24, []), (103, 4, [38, 40, 42, 44]), (3, 3, [35, 36, 0]), (100, 3510, []), (102, 1024, []), (100, 6, []), (4, 3, [39, 0, 0]), (100, 24, []), (4, 3, [41, 0, 0]), (100, 24, []), (4, 3, [43, 0, 0]), (100, 24, []), (4, 3, [45, 0, 0]), (100, 24, [])] (zkm_0 (zn (zmS L f) 0)) = zcV (zL 60 125 [.inr (.inr 45)] [(8, 7, [2, 16, 30, 33, 34, 37, 0]), (1, 5, [3, 7, 11, 13, 0]), (6, 4, [4, 5, 6, 0]), (100, 8, []), (100, 6, []), (100, 6, []), (0, 4, [8, 9, 10, 0]), (100, 6, []), (101, 6, []), (100, 48, []), (7, 5, [7, 12, 0, 0, 0]), (100, 6, []), (2, 3, [14, 15, 0]), (100, 60, []), (100, 60, []), (1, 5, [17, 21, 25, 27, 0]), (6, 4, [18, 19, 20, 0]), (100, 8, []), (100, 6, []), (100, 6, []), (0, 4, [22, 23, 24, 0]), (100, 6, []), (101, 6, []), (100, 48, []), (7, 5, [21, 26, 0, 0, 0]), (100, 6, []), (2, 3, [28, 29, 0]), (100, 60, []), (100, 60, []), (5, 3, [31, 32, 0]), (100, 80, []), (100, 24, []), (103, 4, [38, 40, 42, 44]), (3, 3, [35, 36, 0]), (100, 3510, []), (102, 1024, []), (100, 6, []), (4, 3, [39, 0, 0]), (100, 24, []), (4, 3, [41, 0, 0]), (100, 24, []), (4, 3, [43, 0, 0]), (100, 24, []), (4, 3, [45, 0, 0]), (100, 24, []), (9, 34, [0, 0, 0, 0, 0, 0, 0, 0, 0, 0, 0, 0, 0, 0, 0, 0, 0, 0, 0, 0, 0, 0, 0, 0, 0, 0, 0, 0, 0, 0, 0, 0, 0, 0])] (zn (zkm_0 (zn (zmS L f) 0)) 45)) (fun sh' mm' => zR 60 202 15 [some (.inr (.inr 999)), some (.inr (.inr 0)), none, none] [.inr (.inr 45)] sh' mm') := (zR_unf 60 202 [18] 4 7 _ _ _ _).trans rfl
  refine h1.trans ?_
  refine (congrArg (fun r => zcV r _) (zk_17 59 _)).trans ?_
  show zR 60 202 15 [some (.inr (.inr 999)), some (.inr (.inr 0)), none, none] [.inr (.inr 45)] SH (zMem0 L f) = _
  exact ((zR_unf 60 202 [18] 3 15 _ _ _ _).trans rfl : zR 60 202 15 [some (.inr (.inr 999)), some (.inr (.inr 0)), none, none] [.inr (.inr 45)] SH (zMem0 L f) = zR 60 202 18 [some (.inr (.inr 999)), some (.inr (.inr 0)), some (.inr (.inr 45)), some (.inl 0)] [] SH (zMem0 L f)).trans h
theorem zRel_0 (L : Nat) (f : Nat → Int) : zRel (zMem0 L f) (zMem0 L f) := by
  refine ⟨?_, ?_, ⟨?_, ?_, ?_, ?_, ?_⟩, ⟨?_, ?_, ?_, ?_⟩, ?_⟩
  · refine ⟨⟨?_, ?_, ?_, ?_, ?_⟩, ⟨?_, ?_, ?_, ?_⟩, ?_, ⟨?_, ?_, ?_⟩, ?_, ?_, ⟨?_, ?_, ?_⟩, ?_, ?_, ?_, ?_⟩
    · rw [zm0_6_3]; decide
    · rw [zm0_6_3]; decide
    · intro j; rw [zm0_7]; decide
    · intro j; rw [zm0_9]; split <;> decide
    · intro j; exact .inl (zm0_8 L f j)
    · rw [zm0_2_3]; decide
    · rw [zm0_2_3]; decide
    · intro j hj; rw [zm0_3, if_pos hj]; decide
    · intro j hj; rw [zm0_2_3] at hj; omega
    · intro j hj; rw [zm0_2_3] at hj; omega
    · intro j hj; rw [zm0_6_3] at hj; omega
    · intro j t hj; rw [zm0_6_3] at hj; omega
    · intro j hj; rw [zm0_6_3] at hj; omega
    · rw [zm0_10_2]; exact ⟨by decide, .inr rfl⟩
    · exact .inl (zm0_10_4 L f)
    · rw [zm0_12_2]; decide
    · rw [zm0_12_2]; decide
    · intro j hj; rw [zm0_12_2] at hj; omega
    · intro j hj; rw [zm0_12_2] at hj; omega
    · intro j hj h48; rw [zm0_9, if_pos h48]
    · intro j hj; exact zm0_8 L f j
    · rw [zm0_1_4]; decide
  · refine ⟨?_, ?_, ?_, ?_, ?_, ?_, ?_, ?_, ?_, ?_, ?_, ?_, ?_, ?_, ?_, ?_⟩
    · funext j; rw [zm0_46, zm0_3]
    · funext j; rw [zm0_47, zm0_4]
    · funext j; rw [zm0_48, zm0_5]
    · funext j; rw [zm0_49, zm0_7]
    · intro j hj; rw [zm0_6_3] at hj; omega
    · funext j; rw [zm0_51, zm0_8]
    · funext j; rw [zm0_52, zm0_11]
    · funext j; rw [zm0_53, zm0_13]
    · funext j; rw [zm0_54, zm0_14]
    · rw [zm0_45_3, zm0_2_3]
    · rw [zm0_45_8, zm0_6_3]
    · rw [zm0_45_11, zm0_12_2]
    · rw [zm0_45_12, zm0_10_2]
    · rw [zm0_45_13, zm0_10_4]
    · rw [zm0_45_14, zm0_10_3]
    · rw [zm0_45_15, zm0_1_4]
  · funext j; rw [zm0_55, zm0_30]
  · rw [zm0_45_17, zm0_29_2]
  · rw [zm0_29_2]; decide
  · rw [zm0_29_2]; decide
  · intro i hi; rw [zm0_29_2] at hi; omega
  · rw [zm0_45_28, zm0_0_6]
  · exact .inl (zm0_0_6 L f)
  · refine ⟨⟨?_, ?_, ?_, ?_, ?_⟩, ⟨?_, ?_, ?_, ?_⟩, ?_, ⟨?_, ?_, ?_⟩, ?_, ?_, ⟨?_, ?_, ?_⟩, ?_, ?_, ?_, ?_⟩
    · change 0 ≤ zMem0 L f 20 3; rw [zm0_20_3]; decide
    · change zMem0 L f 20 3 ≤ 6; rw [zm0_20_3]; decide
    · intro j; change 0 ≤ zMem0 L f 21 j ∧ zMem0 L f 21 j ≤ 3; rw [zm0_21]; decide
    · intro j; change 0 ≤ zMem0 L f 23 j ∧ zMem0 L f 23 j ≤ 9; rw [zm0_23]; split <;> decide
    · intro j; change zMem0 L f 22 j = 0 ∨ zMem0 L f 22 j = 1; exact .inl (zm0_22 L f j)
    · change 0 ≤ zMem0 L f 16 3; rw [zm0_16_3]; decide
    · change zMem0 L f 16 3 ≤ 6; rw [zm0_16_3]; decide
    · intro j hj; change 0 ≤ zMem0 L f 17 j ∧ zMem0 L f 17 j < 256; rw [zm0_17, if_pos hj]; decide
    · intro j hj; change (j : Int) < zMem0 L f 16 3 at hj; rw [zm0_16_3] at hj; omega
    · intro j hj; change (j : Int) < zMem0 L f 16 3 at hj; rw [zm0_16_3] at hj; omega
    · intro j hj; change (j : Int) < zMem0 L f 20 3 at hj; rw [zm0_20_3] at hj; omega
    · intro j t hj; change (j : Int) < zMem0 L f 20 3 at hj; rw [zm0_20_3] at hj; omega
    · intro j hj; change (j : Int) < zMem0 L f 20 3 at hj; rw [zm0_20_3] at hj; omega
    · change 0 ≤ zMem0 L f 24 2 ∧ (zMem0 L f 24 2 < zMem0 L f 20 3 ∨ zMem0 L f 24 2 = 0); rw [zm0_24_2]; exact ⟨by decide, .inr rfl⟩
    · exact .inl (zm0_24_4 L f)
    · change 0 ≤ zMem0 L f 26 2; rw [zm0_26_2]; decide
    · change zMem0 L f 26 2 ≤ 60; rw [zm0_26_2]; decide
    · intro j hj; change (j : Int) < zMem0 L f 26 2 at hj; rw [zm0_26_2] at hj; omega
    · intro j hj; change (j : Int) < zMem0 L f 26 2 at hj; rw [zm0_26_2] at hj; omega
    · intro j hj h48; change zMem0 L f 23 j = 1; rw [zm0_23, if_pos h48]
    · intro j hj; exact zm0_22 L f j
    · change 0 ≤ zMem0 L f 15 4 ∧ zMem0 L f 15 4 < 2147483648; rw [zm0_15_4]; decide
  · intro q; rw [zm0_0_6] at q; omega
  · intro s hs
    match s, hs with
    | 0, _ => exact ⟨by rw [zm0_65_0]; exact (zm0_37_1 L f).symm, by rw [zm0_66]; exact (zm0_37_2 L f).symm, by change -1 ≤ zMem0 L f 37 1 ∧ zMem0 L f 37 1 ≤ 2; rw [zm0_37_1]; decide, by change 0 ≤ zMem0 L f 37 2 ∧ zMem0 L f 37 2 ≤ 24; rw [zm0_37_2]; decide, fun i hi => by rw [zm0_67]; exact (zm0_38 L f i).symm⟩
    | 1, _ => exact ⟨by rw [zm0_65_1]; exact (zm0_39_1 L f).symm, by rw [zm0_66]; exact (zm0_39_2 L f).symm, by change -1 ≤ zMem0 L f 39 1 ∧ zMem0 L f 39 1 ≤ 2; rw [zm0_39_1]; decide, by change 0 ≤ zMem0 L f 39 2 ∧ zMem0 L f 39 2 ≤ 24; rw [zm0_39_2]; decide, fun i hi => by rw [zm0_67]; exact (zm0_40 L f i).symm⟩
    | 2, _ => exact ⟨by rw [zm0_65_2]; exact (zm0_41_1 L f).symm, by rw [zm0_66]; exact (zm0_41_2 L f).symm, by change -1 ≤ zMem0 L f 41 1 ∧ zMem0 L f 41 1 ≤ 2; rw [zm0_41_1]; decide, by change 0 ≤ zMem0 L f 41 2 ∧ zMem0 L f 41 2 ≤ 24; rw [zm0_41_2]; decide, fun i hi => by rw [zm0_67]; exact (zm0_42 L f i).symm⟩
    | 3, _ => exact ⟨by rw [zm0_65_3]; exact (zm0_43_1 L f).symm, by rw [zm0_66]; exact (zm0_43_2 L f).symm, by change -1 ≤ zMem0 L f 43 1 ∧ zMem0 L f 43 1 ≤ 2; rw [zm0_43_1]; decide, by change 0 ≤ zMem0 L f 43 2 ∧ zMem0 L f 43 2 ≤ 24; rw [zm0_43_2]; decide, fun i hi => by rw [zm0_67]; exact (zm0_44 L f i).symm⟩
