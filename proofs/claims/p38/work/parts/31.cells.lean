/-- the number of cells is told -/
def xN (mm : zMm) : Prop := 0 ≤ mm 6 3 ∧ mm 6 3 ≤ 6
/-- a cell that lives -/
def xal (mm : zMm) (c : Nat) : Bool := decide ((c : Int) < mm 6 3) && decide (mm 8 c = 0)
theorem s_isWord (d : Nat) (a : Int) (mm : zMm) : zL (d + 1) 79 [.inl a] SH mm = zok (if 0 ≤ a ∧ a < 8 then 1 else 0) mm := by
  rw [ze_X8_isWord, zb_X8_isWord_0]
  (repeat' split) <;> first | rfl | (exfalso; omega)
theorem s_holds (d : Nat) (x : Int) (k : Nat) (hk : k < 32) (mm : zMm) : zL (d + 1) 81 [.inl x, .inl k] SH mm = zok (if zbit x k then 1 else 0) mm := by
  rw [ze_X8_holds, zb_X8_holds_0, zbit_test _ hk]
  cases zbit x k <;> rfl
theorem s_bit (d : Nat) (x : Int) (mm : zMm) : zL (d + 1) 82 [.inl x] SH mm = zok (if x = 0 then 0 else 1) mm := by
  rw [ze_X8_bit, zb_X8_bit_0]
  split <;> rfl
section X0
variable {mm : zMm}
theorem s_has (d : Nat) (a : Int) (hn : xN mm) : zL (d + 1) 2 [.inr (.inr 6), .inl a] SH mm = zok (if 0 ≤ a ∧ a < mm 6 3 then 1 else 0) mm := by
  have := hn.2
  rw [ze_X0_has, zb_X0_has_0]
  (repeat' split) <;> first | rfl | (exfalso; omega)
theorem s_kindOf (d c : Nat) (hn : xN mm) (hc : (c : Int) < mm 6 3) : zL (d + 2) 4 [.inr (.inr 6), .inl c] SH mm = zok (mm 7 c) mm := by
  have := hn.2
  rw [ze_X0_kindOf, zb_X0_kindOf_0, s_has d c hn, zcI_ok, zb_X0_kindOf_5]
  simp (disch := omega) only [if_pos, if_neg, if_true, if_false, Int.toNat_natCast]
theorem s_kindOfN (d : Nat) (a : Int) (hn : xN mm) (hc : ¬ (0 ≤ a ∧ a < mm 6 3)) : zL (d + 2) 4 [.inr (.inr 6), .inl a] SH mm = zok 3 mm := by
  rw [ze_X0_kindOf, zb_X0_kindOf_0, s_has d a hn, zcI_ok, zb_X0_kindOf_5]
  simp (disch := omega) only [if_pos, if_neg, if_true, if_false]
theorem s_isAlive (d c : Nat) (hn : xN mm) : zL (d + 2) 5 [.inr (.inr 6), .inl c] SH mm = zok (if xal mm c then 1 else 0) mm := by
  have := hn.2
  rw [ze_X0_isAlive, zb_X0_isAlive_0, s_has d c hn, zcI_ok, zb_X0_isAlive_5]
  by_cases h : (c : Int) < mm 6 3
  · by_cases h2 : mm 8 c = 0
    · rw [show xal mm c = true by unfold xal; simp [h, h2]]
      simp (disch := omega) only [if_pos, if_neg, if_true, if_false, Int.toNat_natCast]
    · rw [show xal mm c = false by unfold xal; simp [h2]]
      simp (disch := omega) only [if_pos, if_neg, if_true, if_false, Int.toNat_natCast, Bool.false_eq_true]
  · rw [show xal mm c = false by unfold xal; simp [h]]
    simp (disch := omega) only [if_pos, if_neg, if_true, if_false, Bool.false_eq_true]
theorem s_isAliveN (d : Nat) (a : Int) (hn : xN mm) (ha : ¬ (0 ≤ a ∧ a < mm 6 3)) : zL (d + 2) 5 [.inr (.inr 6), .inl a] SH mm = zok 0 mm := by
  rw [ze_X0_isAlive, zb_X0_isAlive_0, s_has d a hn, zcI_ok, zb_X0_isAlive_5]
  simp (disch := omega) only [if_pos, if_neg, if_true, if_false]
theorem s_weightOf (d c w : Nat) (hn : xN mm) (hc : (c : Int) < mm 6 3) (hw : w < 8) : zL (d + 2) 8 [.inr (.inr 6), .inl c, .inl w] SH mm = zok (mm 9 (8 * c + w)) mm := by
  have := hn.2
  rw [ze_X0_weightOf, zb_X0_weightOf_0, s_has (d) c hn, zcI_ok, zb_X0_weightOf_5]
  simp (disch := omega) only [if_pos, if_neg, if_true, if_false, s_isWord, zcI_ok, zb_X0_weightOf_12, zw_id]
  rw [show ((c : Int) * 8 + w).toNat = 8 * c + w by omega]
theorem s_living (d : Nat) (hn : xN mm) : zL (d + 3) 7 [.inr (.inr 6)] SH mm = zok (mks (xal mm) 6) mm := by
  rw [ze_X0_living, zb_X0_living_0]
  refine zup (P := fun i => zR (d + 2) 7 4 [some (.inr (.inr 6)), some (.inl (mks (xal mm) i)), some (.inl (i : Int))] [] SH mm = zok (mks (xal mm) 6) mm) (n := 6) ?_ ?_ 0 (by omega)
  · rw [zb_X0_living_4]
    rfl
  · intro i hi ih
    rw [zb_X0_living_4, if_pos (by omega), s_isAlive d i hn, zcI_ok, zb_X0_living_15]
    rw [show zw ((i : Int) + 1) = ((i + 1 : Nat) : Int) by rw [zw_id (by omega) (by omega)]; omega]
    unfold mks at ih
    cases h : xal mm i
    · rw [h] at ih
      exact ih
    · rw [h] at ih
      exact ih
/-- the words of weight above 0 -/
def xww (mm : zMm) (c w : Nat) : Bool := decide (0 < mm 9 (8 * c + w))
theorem s_weightedWords (d c : Nat) (hn : xN mm) (hc : (c : Int) < mm 6 3) : zL (d + 2) 11 [.inr (.inr 6), .inl c] SH mm = zok (mks (xww mm c) 8) mm := by
  have := hn.2
  rw [ze_X0_weightedWords, zb_X0_weightedWords_0]
  refine zup (P := fun i => zR (d + 1) 11 4 [some (.inr (.inr 6)), some (.inl c), some (.inl (mks (xww mm c) i)), some (.inl (i : Int))] [] SH mm = zok (mks (xww mm c) 8) mm) (n := 8) ?_ ?_ 0 (by omega)
  · rw [zb_X0_weightedWords_4]
    rfl
  · intro i hi ih
    rw [zb_X0_weightedWords_4, if_pos (by omega), s_has d c hn, zcI_ok, zb_X0_weightedWords_15]
    rw [show zw ((i : Int) + 1) = ((i + 1 : Nat) : Int) by rw [zw_id (by omega) (by omega)]; omega]
    unfold mks at ih
    by_cases h : 0 < mm 9 (8 * c + i)
    · rw [show xww mm c i = true from decide_eq_true h] at ih
      simp (disch := omega) only [if_pos, if_neg, if_true, if_false, zw_id]
      rw [show ((c : Int) * 8 + (i : Int)).toNat = 8 * c + i by omega]
      simp (disch := omega) only [if_pos, if_neg, if_true, if_false]
      exact ih
    · rw [show xww mm c i = false from decide_eq_false h] at ih
      simp (disch := omega) only [if_pos, if_neg, if_true, if_false, zw_id]
      rw [show ((c : Int) * 8 + (i : Int)).toNat = 8 * c + i by omega]
      simp (disch := omega) only [if_pos, if_neg, if_true, if_false]
      exact ih
theorem s_weightedWordsN (d : Nat) (a : Int) (hn : xN mm) (hc : ¬ (0 ≤ a ∧ a < mm 6 3)) : zL (d + 2) 11 [.inr (.inr 6), .inl a] SH mm = zok 0 mm := by
  rw [ze_X0_weightedWords, zb_X0_weightedWords_0, zb_X0_weightedWords_4, if_pos (by omega), s_has d a hn, zcI_ok, zb_X0_weightedWords_15]
  simp (disch := omega) only [if_pos, if_neg, if_true, if_false]
end X0
