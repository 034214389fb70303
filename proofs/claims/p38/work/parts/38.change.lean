section
variable {mm : zMm}
theorem s_changeFollowing (d w : Nat) (v : Int) (hw : w < 8) : zL (d + 1) 43 [.inr (.inr 2), .inl w, .inl v] SH mm = zok (mm 3 w) (zu mm 3 w v) := by
  rw [ze_X6_changeFollowing, zb_X6_changeFollowing_0]
  simp (disch := omega) only [if_pos, if_neg, Int.toNat_natCast]
theorem s_appendLine (d : Nat) (a b : Int) (h : 0 ≤ mm 2 3 ∧ mm 2 3 ≤ 6) : zL (d + 1) 44 [.inr (.inr 2), .inl a, .inl b] SH mm = if mm 2 3 < 6 then zok (mm 2 3) (zu (zu (zu mm 4 (mm 2 3).toNat a) 5 (mm 2 3).toNat b) 2 3 (mm 2 3 + 1)) else zok (-3) mm := by
  rw [ze_X6_appendLine, zb_X6_appendLine_0, if_neg (by omega)]
  by_cases c : mm 2 3 < 6
  · simp (disch := omega) only [if_pos, if_neg, zw_id]
    rw [show mm 2 3 + 1 - 1 = mm 2 3 by omega]
  · rw [if_neg c, if_neg c]
theorem s_cappend (d : Nat) (a : Int) (h : 0 ≤ mm 6 3 ∧ mm 6 3 ≤ 6) : zL (d + 1) 3 [.inr (.inr 6), .inl a] SH mm = if mm 6 3 < 6 then zok (mm 6 3) (zu (zu mm 7 (mm 6 3).toNat a) 6 3 (mm 6 3 + 1)) else zok (-3) mm := by
  rw [ze_X0_append, zb_X0_append_0, if_neg (by omega)]
  by_cases c : mm 6 3 < 6
  · simp (disch := omega) only [if_pos, if_neg, zw_id]
    rw [show mm 6 3 + 1 - 1 = mm 6 3 by omega]
  · rw [if_neg c, if_neg c]
theorem s_changeDead (d c : Nat) (a : Int) (hn : xN mm) (hc : (c : Int) < mm 6 3) (ha : a = 0 ∨ a = 1) (hd : mm 8 c = 0 ∨ mm 8 c = 1) : zL (d + 2) 6 [.inr (.inr 6), .inl c, .inl a] SH mm = zok (mm 8 c) (zu mm 8 c a) := by
  have := hn.2
  rw [ze_X0_changeDead, zb_X0_changeDead_0, s_has d c hn, zcI_ok, zb_X0_changeDead_5, if_pos (show 0 ≤ (c : Int) ∧ (c : Int) < mm 6 3 by omega), if_neg (by decide), if_pos (by omega), if_pos ⟨by omega, ha⟩, Int.toNat_natCast, if_pos hd]
theorem s_changeWeight (d c w : Nat) (a : Int) (hn : xN mm) (hc : (c : Int) < mm 6 3) (hw : w < 8) : zL (d + 2) 9 [.inr (.inr 6), .inl c, .inl w, .inl a] SH mm = zok (mm 9 (8 * c + w)) (zu mm 9 (8 * c + w) a) := by
  have := hn.2
  rw [ze_X0_changeWeight, zb_X0_changeWeight_0, s_has d c hn, zcI_ok, zb_X0_changeWeight_5, if_pos (show 0 ≤ (c : Int) ∧ (c : Int) < mm 6 3 by omega), if_neg (by decide), s_isWord, zcI_ok, zb_X0_changeWeight_12, if_pos (show 0 ≤ (w : Int) ∧ (w : Int) < 8 by omega), if_neg (by decide)]
  simp (disch := omega) only [zw_id, if_pos]
  rw [show ((c : Int) * 8 + w).toNat = 8 * c + w by omega]
theorem s_takeSeat (d c : Nat) (hc : c < 6) : zL (d + 1) 50 [.inr (.inr 10), .inl c] SH mm = zvd (zu mm 11 c c) := by
  rw [ze_X7_takeSeat, zb_X7_takeSeat_0]
  simp (disch := omega) only [if_pos, if_neg, Int.toNat_natCast]
theorem s_changeSeats (d s t a b : Nat) (hn : xN mm) (hS : zSe (mm 11) (mm 6 3)) (hs : (s : Int) < mm 6 3) (ht : (t : Int) < mm 6 3) (ha : mm 11 s = a) (hb : mm 11 t = b) : zL (d + 4) 53 [.inr (.inr 10), .inl a, .inl b] SH mm = zvd (zu (zu mm 11 s b) 11 t a) := by
  have := hn.2
  rw [ze_X7_changeSeats, zb_X7_changeSeats_0, s_seatOf d s a hn hS hs ha, zcI_ok, zb_X7_changeSeats_5, s_seatOf d t b hn hS ht hb, zcI_ok, zb_X7_changeSeats_11, s_has (d + 2) s hn, zcI_ok, zb_X7_changeSeats_21, if_pos (show 0 ≤ (s : Int) ∧ (s : Int) < mm 6 3 by omega), if_neg (by decide), s_has (d + 2) t hn, zcI_ok, zb_X7_changeSeats_33, if_pos (show 0 ≤ (t : Int) ∧ (t : Int) < mm 6 3 by omega), if_neg (by decide)]
  simp (disch := omega) only [if_pos, if_neg, Int.toNat_natCast]

/-- all that an image keeps, copied (K) -/
def zkK (mm : zMm) : zMm := fun k j => if k = 15 then (if j = 4 then mm 1 4 else mm 15 j) else if k = 16 then (if j = 3 then mm 2 3 else mm 16 j) else if k = 17 then (if j < 8 then mm 3 j else mm 17 j) else if k = 18 then (if j < 6 then mm 4 j else mm 18 j) else if k = 19 then (if j < 6 then mm 5 j else mm 19 j) else if k = 20 then (if j = 3 then mm 6 3 else mm 20 j) else if k = 21 then (if j < 6 then mm 7 j else mm 21 j) else if k = 22 then (if j < 6 then mm 8 j else mm 22 j) else if k = 23 then (if j < 48 then mm 9 j else mm 23 j) else if k = 24 then (if 2 ≤ j ∧ j ≤ 4 then mm 10 j else mm 24 j) else if k = 25 then (if j < 6 then mm 11 j else mm 25 j) else if k = 26 then (if j = 2 then mm 12 2 else mm 26 j) else if k = 27 then (if j < 60 then mm 13 j else mm 27 j) else if k = 28 then (if j < 60 then mm 14 j else mm 28 j) else mm k j
/-- the cells' copy, so far -/
def zkqK (mm : zMm) (i : Nat) : zMm := fun k j => if k = 21 ∧ j < i then mm 7 j else if k = 22 ∧ j < i then mm 8 j else mm k j
theorem zkqK_s (mm : zMm) (i : Nat) : zu (zu (zkqK mm i) 21 i (mm 7 i)) 22 i (mm 8 i) = zkqK mm (i + 1) := by
  funext k j
  unfold zu zkqK
  by_cases k1 : k = 21
  · subst k1
    by_cases q : j = i
    · subst q; simp
    · by_cases r : j < i
      · simp [q, r, show j < i + 1 by omega]
      · simp [q, r, show ¬ j < i + 1 by omega]
  · by_cases k2 : k = 22
    · subst k2
      by_cases q : j = i
      · subst q; simp
      · by_cases r : j < i
        · simp [q, r, show j < i + 1 by omega]
        · simp [q, r, show ¬ j < i + 1 by omega]
    · simp [k1, k2]
theorem s_copyFromX0K (d : Nat) (hd : ∀ c : Nat, c < 6 → (mm 8 c = 0 ∨ mm 8 c = 1)) : zL (d + 1) 1 [.inr (.inr 20), .inr (.inr 6)] SH mm = zvd (zu (zcp (zkqK mm 6) 9 0 23 0 48) 20 3 (mm 6 3)) := by
  rw [ze_X0_copyFromK, zb_X0_copyFromK_0]
  have e0 : zkqK mm 0 = mm := by funext k j; simp [zkqK]
  suffices key : zR d 1 2 [some (.inr (.inr 20)), some (.inr (.inr 6)), some (.inl ((0 : Nat) : Int))] [] SH (zkqK mm 0) = zvd (zu (zcp (zkqK mm 6) 9 0 23 0 48) 20 3 (mm 6 3)) by
    rw [e0] at key
    exact key
  refine zup (P := fun i => zR d 1 2 [some (.inr (.inr 20)), some (.inr (.inr 6)), some (.inl (i : Int))] [] SH (zkqK mm i) = _) (n := 6) ?_ ?_ 0 (by omega)
  · rw [zb_X0_copyFromK_2, if_neg (by decide)]
    rfl
  · intro i hi ih
    have e1 : zw ((i : Int) + 1) = ((i + 1 : Nat) : Int) := by rw [zw_id (by omega) (by omega)]; omega
    have x1 : zkqK mm i 7 i = mm 7 i := by unfold zkqK; simp
    have x2 : zkqK mm i 8 i = mm 8 i := by unfold zkqK; simp
    rw [zb_X0_copyFromK_2, Int.toNat_natCast, x1, x2, zkqK_s, e1, if_pos (by omega), if_pos (by omega), if_pos (by omega), if_pos (by omega), if_pos ⟨by omega, hd i hi⟩]
    exact ih
theorem s_copyFromX1K (d : Nat) (hd : ∀ c : Nat, c < 6 → (mm 8 c = 0 ∨ mm 8 c = 1)) (hb : mm 10 4 = 0 ∨ mm 10 4 = 1) : zL (d + 2) 13 [.inr (.inr 15), .inr (.inr 1)] SH mm = zvd (zkK mm) := by
  rw [ze_X1_copyFromK, zb_X1_copyFromK_0, ze_X6_copyFromK, zb_X6_copyFromK_0, zcV_vd, zb_X1_copyFromK_11, s_copyFromX0K d (by
    intro c h6
    simpa [zu, zcp] using hd c h6), zcV_vd, zb_X1_copyFromK_22, ze_X7_copyFromK, zb_X7_copyFromK_0, if_pos (by simpa [zu, zcp, zkqK] using hb), zcV_vd, zb_X1_copyFromK_33, ze_X2_copyFromK, zb_X2_copyFromK_0, zcV_vd, zb_X1_copyFromK_44]
  refine congrArg zvd ?_
  funext k j
  by_cases q15 : k = 15
  · subst q15
    by_cases r : j = 4
    · subst r; simp [zkK, zu, zcp, zkqK]
    · simp [zkK, zu, zcp, zkqK, r]
  by_cases q16 : k = 16
  · subst q16
    by_cases r : j = 3
    · subst r; simp [zkK, zu, zcp, zkqK]
    · simp [zkK, zu, zcp, zkqK, r]
  by_cases q17 : k = 17
  · subst q17
    by_cases r : j < 8
    · simp [zkK, zu, zcp, zkqK, r]
    · simp [zkK, zu, zcp, zkqK, r]
  by_cases q18 : k = 18
  · subst q18
    by_cases r : j < 6
    · simp [zkK, zu, zcp, zkqK, r]
    · simp [zkK, zu, zcp, zkqK, r]
  by_cases q19 : k = 19
  · subst q19
    by_cases r : j < 6
    · simp [zkK, zu, zcp, zkqK, r]
    · simp [zkK, zu, zcp, zkqK, r]
  by_cases q20 : k = 20
  · subst q20
    by_cases r : j = 3
    · subst r; simp [zkK, zu, zcp, zkqK]
    · simp [zkK, zu, zcp, zkqK, r]
  by_cases q21 : k = 21
  · subst q21
    by_cases r : j < 6
    · simp [zkK, zu, zcp, zkqK, r]
    · simp [zkK, zu, zcp, zkqK, r]
  by_cases q22 : k = 22
  · subst q22
    by_cases r : j < 6
    · simp [zkK, zu, zcp, zkqK, r]
    · simp [zkK, zu, zcp, zkqK, r]
  by_cases q23 : k = 23
  · subst q23
    by_cases r : j < 48
    · simp [zkK, zu, zcp, zkqK, r]
    · simp [zkK, zu, zcp, zkqK, r]
  by_cases q24 : k = 24
  · subst q24
    by_cases r2 : j = 2
    · subst r2; simp [zkK, zu, zcp, zkqK]
    · by_cases r3 : j = 3
      · subst r3; simp [zkK, zu, zcp, zkqK]
      · by_cases r4 : j = 4
        · subst r4; simp [zkK, zu, zcp, zkqK]
        · simp [zkK, zu, zcp, zkqK, r2, r3, r4, show ¬ (2 ≤ j ∧ j ≤ 4) by omega]
  by_cases q25 : k = 25
  · subst q25
    by_cases r : j < 6
    · simp [zkK, zu, zcp, zkqK, r]
    · simp [zkK, zu, zcp, zkqK, r]
  by_cases q26 : k = 26
  · subst q26
    by_cases r : j = 2
    · subst r; simp [zkK, zu, zcp, zkqK]
    · simp [zkK, zu, zcp, zkqK, r]
  by_cases q27 : k = 27
  · subst q27
    by_cases r : j < 60
    · simp [zkK, zu, zcp, zkqK, r]
    · simp [zkK, zu, zcp, zkqK, r]
  by_cases q28 : k = 28
  · subst q28
    by_cases r : j < 60
    · simp [zkK, zu, zcp, zkqK, r]
    · simp [zkK, zu, zcp, zkqK, r]
  simp [zkK, zu, zcp, zkqK, q15, q16, q17, q18, q19, q20, q21, q22, q23, q24, q25, q26, q27, q28]
/-- all that an image keeps, copied (N) -/
def zkN (mm : zMm) : zMm := fun k j => if k = 1 then (if j = 4 then mm 15 4 else mm 1 j) else if k = 2 then (if j = 3 then mm 16 3 else mm 2 j) else if k = 3 then (if j < 8 then mm 17 j else mm 3 j) else if k = 4 then (if j < 6 then mm 18 j else mm 4 j) else if k = 5 then (if j < 6 then mm 19 j else mm 5 j) else if k = 6 then (if j = 3 then mm 20 3 else mm 6 j) else if k = 7 then (if j < 6 then mm 21 j else mm 7 j) else if k = 8 then (if j < 6 then mm 22 j else mm 8 j) else if k = 9 then (if j < 48 then mm 23 j else mm 9 j) else if k = 10 then (if 2 ≤ j ∧ j ≤ 4 then mm 24 j else mm 10 j) else if k = 11 then (if j < 6 then mm 25 j else mm 11 j) else if k = 12 then (if j = 2 then mm 26 2 else mm 12 j) else if k = 13 then (if j < 60 then mm 27 j else mm 13 j) else if k = 14 then (if j < 60 then mm 28 j else mm 14 j) else mm k j
/-- the cells' copy, so far -/
def zkqN (mm : zMm) (i : Nat) : zMm := fun k j => if k = 7 ∧ j < i then mm 21 j else if k = 8 ∧ j < i then mm 22 j else mm k j
theorem zkqN_s (mm : zMm) (i : Nat) : zu (zu (zkqN mm i) 7 i (mm 21 i)) 8 i (mm 22 i) = zkqN mm (i + 1) := by
  funext k j
  unfold zu zkqN
  by_cases k1 : k = 7
  · subst k1
    by_cases q : j = i
    · subst q; simp
    · by_cases r : j < i
      · simp [q, r, show j < i + 1 by omega]
      · simp [q, r, show ¬ j < i + 1 by omega]
  · by_cases k2 : k = 8
    · subst k2
      by_cases q : j = i
      · subst q; simp
      · by_cases r : j < i
        · simp [q, r, show j < i + 1 by omega]
        · simp [q, r, show ¬ j < i + 1 by omega]
    · simp [k1, k2]
theorem s_copyFromX0N (d : Nat) (hd : ∀ c : Nat, c < 6 → (mm 22 c = 0 ∨ mm 22 c = 1)) : zL (d + 1) 1 [.inr (.inr 6), .inr (.inr 20)] SH mm = zvd (zu (zcp (zkqN mm 6) 23 0 9 0 48) 6 3 (mm 20 3)) := by
  rw [ze_X0_copyFromN, zb_X0_copyFromN_0]
  have e0 : zkqN mm 0 = mm := by funext k j; simp [zkqN]
  suffices key : zR d 1 2 [some (.inr (.inr 6)), some (.inr (.inr 20)), some (.inl ((0 : Nat) : Int))] [] SH (zkqN mm 0) = zvd (zu (zcp (zkqN mm 6) 23 0 9 0 48) 6 3 (mm 20 3)) by
    rw [e0] at key
    exact key
  refine zup (P := fun i => zR d 1 2 [some (.inr (.inr 6)), some (.inr (.inr 20)), some (.inl (i : Int))] [] SH (zkqN mm i) = _) (n := 6) ?_ ?_ 0 (by omega)
  · rw [zb_X0_copyFromN_2, if_neg (by decide)]
    rfl
  · intro i hi ih
    have e1 : zw ((i : Int) + 1) = ((i + 1 : Nat) : Int) := by rw [zw_id (by omega) (by omega)]; omega
    have x1 : zkqN mm i 21 i = mm 21 i := by unfold zkqN; simp
    have x2 : zkqN mm i 22 i = mm 22 i := by unfold zkqN; simp
    rw [zb_X0_copyFromN_2, Int.toNat_natCast, x1, x2, zkqN_s, e1, if_pos (by omega), if_pos (by omega), if_pos (by omega), if_pos (by omega), if_pos ⟨by omega, hd i hi⟩]
    exact ih
theorem s_copyFromX1N (d : Nat) (hd : ∀ c : Nat, c < 6 → (mm 22 c = 0 ∨ mm 22 c = 1)) (hb : mm 24 4 = 0 ∨ mm 24 4 = 1) : zL (d + 2) 13 [.inr (.inr 1), .inr (.inr 15)] SH mm = zvd (zkN mm) := by
  rw [ze_X1_copyFromN, zb_X1_copyFromN_0, ze_X6_copyFromN, zb_X6_copyFromN_0, zcV_vd, zb_X1_copyFromN_11, s_copyFromX0N d (by
    intro c h6
    simpa [zu, zcp] using hd c h6), zcV_vd, zb_X1_copyFromN_22, ze_X7_copyFromN, zb_X7_copyFromN_0, if_pos (by simpa [zu, zcp, zkqN] using hb), zcV_vd, zb_X1_copyFromN_33, ze_X2_copyFromN, zb_X2_copyFromN_0, zcV_vd, zb_X1_copyFromN_44]
  refine congrArg zvd ?_
  funext k j
  by_cases q1 : k = 1
  · subst q1
    by_cases r : j = 4
    · subst r; simp [zkN, zu, zcp, zkqN]
    · simp [zkN, zu, zcp, zkqN, r]
  by_cases q2 : k = 2
  · subst q2
    by_cases r : j = 3
    · subst r; simp [zkN, zu, zcp, zkqN]
    · simp [zkN, zu, zcp, zkqN, r]
  by_cases q3 : k = 3
  · subst q3
    by_cases r : j < 8
    · simp [zkN, zu, zcp, zkqN, r]
    · simp [zkN, zu, zcp, zkqN, r]
  by_cases q4 : k = 4
  · subst q4
    by_cases r : j < 6
    · simp [zkN, zu, zcp, zkqN, r]
    · simp [zkN, zu, zcp, zkqN, r]
  by_cases q5 : k = 5
  · subst q5
    by_cases r : j < 6
    · simp [zkN, zu, zcp, zkqN, r]
    · simp [zkN, zu, zcp, zkqN, r]
  by_cases q6 : k = 6
  · subst q6
    by_cases r : j = 3
    · subst r; simp [zkN, zu, zcp, zkqN]
    · simp [zkN, zu, zcp, zkqN, r]
  by_cases q7 : k = 7
  · subst q7
    by_cases r : j < 6
    · simp [zkN, zu, zcp, zkqN, r]
    · simp [zkN, zu, zcp, zkqN, r]
  by_cases q8 : k = 8
  · subst q8
    by_cases r : j < 6
    · simp [zkN, zu, zcp, zkqN, r]
    · simp [zkN, zu, zcp, zkqN, r]
  by_cases q9 : k = 9
  · subst q9
    by_cases r : j < 48
    · simp [zkN, zu, zcp, zkqN, r]
    · simp [zkN, zu, zcp, zkqN, r]
  by_cases q10 : k = 10
  · subst q10
    by_cases r2 : j = 2
    · subst r2; simp [zkN, zu, zcp, zkqN]
    · by_cases r3 : j = 3
      · subst r3; simp [zkN, zu, zcp, zkqN]
      · by_cases r4 : j = 4
        · subst r4; simp [zkN, zu, zcp, zkqN]
        · simp [zkN, zu, zcp, zkqN, r2, r3, r4, show ¬ (2 ≤ j ∧ j ≤ 4) by omega]
  by_cases q11 : k = 11
  · subst q11
    by_cases r : j < 6
    · simp [zkN, zu, zcp, zkqN, r]
    · simp [zkN, zu, zcp, zkqN, r]
  by_cases q12 : k = 12
  · subst q12
    by_cases r : j = 2
    · subst r; simp [zkN, zu, zcp, zkqN]
    · simp [zkN, zu, zcp, zkqN, r]
  by_cases q13 : k = 13
  · subst q13
    by_cases r : j < 60
    · simp [zkN, zu, zcp, zkqN, r]
    · simp [zkN, zu, zcp, zkqN, r]
  by_cases q14 : k = 14
  · subst q14
    by_cases r : j < 60
    · simp [zkN, zu, zcp, zkqN, r]
    · simp [zkN, zu, zcp, zkqN, r]
  simp [zkN, zu, zcp, zkqN, q1, q2, q3, q4, q5, q6, q7, q8, q9, q10, q11, q12, q13, q14]
end
