theorem zkK_k (mm : zMm) {k : Nat} (h : k < 15 ∨ 28 < k) : zkK mm k = mm k := by
  funext j
  unfold zkK
  simp only [show k ≠ 15 by omega, show k ≠ 16 by omega, show k ≠ 17 by omega, show k ≠ 18 by omega, show k ≠ 19 by omega, show k ≠ 20 by omega, show k ≠ 21 by omega, show k ≠ 22 by omega, show k ≠ 23 by omega, show k ≠ 24 by omega, show k ≠ 25 by omega, show k ≠ 26 by omega, show k ≠ 27 by omega, show k ≠ 28 by omega, if_false]
theorem zkN_k (mm : zMm) {k : Nat} (h : k < 1 ∨ 14 < k) : zkN mm k = mm k := by
  funext j
  unfold zkN
  simp only [show k ≠ 1 by omega, show k ≠ 2 by omega, show k ≠ 3 by omega, show k ≠ 4 by omega, show k ≠ 5 by omega, show k ≠ 6 by omega, show k ≠ 7 by omega, show k ≠ 8 by omega, show k ≠ 9 by omega, show k ≠ 10 by omega, show k ≠ 11 by omega, show k ≠ 12 by omega, show k ≠ 13 by omega, show k ≠ 14 by omega, if_false]
/-- what an image keeps -/
def zcov (k j : Nat) : Prop := (k = 1 ∧ j = 4) ∨ (k = 2 ∧ j = 3) ∨ (k = 3 ∧ j < 8) ∨ (k = 4 ∧ j < 6) ∨ (k = 5 ∧ j < 6) ∨ (k = 6 ∧ j = 3) ∨ (k = 7 ∧ j < 6) ∨ (k = 8 ∧ j < 6) ∨ (k = 9 ∧ j < 48) ∨ (k = 10 ∧ 2 ≤ j ∧ j ≤ 4) ∨ (k = 11 ∧ j < 6) ∨ (k = 12 ∧ j = 2) ∨ (k = 13 ∧ j < 60) ∨ (k = 14 ∧ j < 60)
theorem zcov_13 {j : Nat} (h : j < 60) : zcov 13 j := by
  unfold zcov
  omega
theorem zcov_14 {j : Nat} (h : j < 60) : zcov 14 j := by
  unfold zcov
  omega
section
variable {mm : zMm}
/-- brought back -/
theorem zkN_back {C : zMm} (c1 : ∀ k, 15 ≤ k → k ≤ 28 → C k = zkK mm k) (c2 : ∀ k j, 1 ≤ k → k ≤ 14 → ¬ zcov k j → C k j = mm k j) : ∀ k, 1 ≤ k → k ≤ 14 → zkN C k = mm k := by
  intro k h1 h14
  have hk : k = 1 ∨ k = 2 ∨ k = 3 ∨ k = 4 ∨ k = 5 ∨ k = 6 ∨ k = 7 ∨ k = 8 ∨ k = 9 ∨ k = 10 ∨ k = 11 ∨ k = 12 ∨ k = 13 ∨ k = 14 := by omega
  rcases hk with q | q | q | q | q | q | q | q | q | q | q | q | q | q <;> subst q <;> funext j
  · by_cases r : j = 4
    · subst r
      have e1 : zkN C 1 4 = C 15 4 := by simp [zkN]
      rw [e1, c1 15 (by decide) (by decide)]
      simp [zkK]
    · have e1 : zkN C 1 j = C 1 j := by simp [zkN, r]
      rw [e1]
      exact c2 1 j (by decide) (by decide) (by unfold zcov; omega)
  · by_cases r : j = 3
    · subst r
      have e1 : zkN C 2 3 = C 16 3 := by simp [zkN]
      rw [e1, c1 16 (by decide) (by decide)]
      simp [zkK]
    · have e1 : zkN C 2 j = C 2 j := by simp [zkN, r]
      rw [e1]
      exact c2 2 j (by decide) (by decide) (by unfold zcov; omega)
  · by_cases r : j < 8
    · have e1 : zkN C 3 j = C 17 j := by simp [zkN, r]
      rw [e1, c1 17 (by decide) (by decide)]
      simp [zkK, r]
    · have e1 : zkN C 3 j = C 3 j := by simp [zkN, r]
      rw [e1]
      exact c2 3 j (by decide) (by decide) (by unfold zcov; omega)
  · by_cases r : j < 6
    · have e1 : zkN C 4 j = C 18 j := by simp [zkN, r]
      rw [e1, c1 18 (by decide) (by decide)]
      simp [zkK, r]
    · have e1 : zkN C 4 j = C 4 j := by simp [zkN, r]
      rw [e1]
      exact c2 4 j (by decide) (by decide) (by unfold zcov; omega)
  · by_cases r : j < 6
    · have e1 : zkN C 5 j = C 19 j := by simp [zkN, r]
      rw [e1, c1 19 (by decide) (by decide)]
      simp [zkK, r]
    · have e1 : zkN C 5 j = C 5 j := by simp [zkN, r]
      rw [e1]
      exact c2 5 j (by decide) (by decide) (by unfold zcov; omega)
  · by_cases r : j = 3
    · subst r
      have e1 : zkN C 6 3 = C 20 3 := by simp [zkN]
      rw [e1, c1 20 (by decide) (by decide)]
      simp [zkK]
    · have e1 : zkN C 6 j = C 6 j := by simp [zkN, r]
      rw [e1]
      exact c2 6 j (by decide) (by decide) (by unfold zcov; omega)
  · by_cases r : j < 6
    · have e1 : zkN C 7 j = C 21 j := by simp [zkN, r]
      rw [e1, c1 21 (by decide) (by decide)]
      simp [zkK, r]
    · have e1 : zkN C 7 j = C 7 j := by simp [zkN, r]
      rw [e1]
      exact c2 7 j (by decide) (by decide) (by unfold zcov; omega)
  · by_cases r : j < 6
    · have e1 : zkN C 8 j = C 22 j := by simp [zkN, r]
      rw [e1, c1 22 (by decide) (by decide)]
      simp [zkK, r]
    · have e1 : zkN C 8 j = C 8 j := by simp [zkN, r]
      rw [e1]
      exact c2 8 j (by decide) (by decide) (by unfold zcov; omega)
  · by_cases r : j < 48
    · have e1 : zkN C 9 j = C 23 j := by simp [zkN, r]
      rw [e1, c1 23 (by decide) (by decide)]
      simp [zkK, r]
    · have e1 : zkN C 9 j = C 9 j := by simp [zkN, r]
      rw [e1]
      exact c2 9 j (by decide) (by decide) (by unfold zcov; omega)
  · by_cases r : 2 ≤ j ∧ j ≤ 4
    · have e1 : zkN C 10 j = C 24 j := by simp [zkN, r]
      rw [e1, c1 24 (by decide) (by decide)]
      simp [zkK, r]
    · have e1 : zkN C 10 j = C 10 j := by simp [zkN, r]
      rw [e1]
      exact c2 10 j (by decide) (by decide) (by unfold zcov; omega)
  · by_cases r : j < 6
    · have e1 : zkN C 11 j = C 25 j := by simp [zkN, r]
      rw [e1, c1 25 (by decide) (by decide)]
      simp [zkK, r]
    · have e1 : zkN C 11 j = C 11 j := by simp [zkN, r]
      rw [e1]
      exact c2 11 j (by decide) (by decide) (by unfold zcov; omega)
  · by_cases r : j = 2
    · subst r
      have e1 : zkN C 12 2 = C 26 2 := by simp [zkN]
      rw [e1, c1 26 (by decide) (by decide)]
      simp [zkK]
    · have e1 : zkN C 12 j = C 12 j := by simp [zkN, r]
      rw [e1]
      exact c2 12 j (by decide) (by decide) (by unfold zcov; omega)
  · by_cases r : j < 60
    · have e1 : zkN C 13 j = C 27 j := by simp [zkN, r]
      rw [e1, c1 27 (by decide) (by decide)]
      simp [zkK, r]
    · have e1 : zkN C 13 j = C 13 j := by simp [zkN, r]
      rw [e1]
      exact c2 13 j (by decide) (by decide) (by unfold zcov; omega)
  · by_cases r : j < 60
    · have e1 : zkN C 14 j = C 28 j := by simp [zkN, r]
      rw [e1, c1 28 (by decide) (by decide)]
      simp [zkK, r]
    · have e1 : zkN C 14 j = C 14 j := by simp [zkN, r]
      rw [e1]
      exact c2 14 j (by decide) (by decide) (by unfold zcov; omega)
/-- a turn, drawn, writes nothing else -/
theorem xdr_c {k j : Nat} (h : ¬ zcov k j) : xdr mm k j = mm k j := by
  have h10 : ¬ (k = 10 ∧ j = 2) := fun z => h (by unfold zcov; omega)
  have h11 : ¬ (k = 10 ∧ j = 3) := fun z => h (by unfold zcov; omega)
  unfold xdr
  have e1 : ∀ (m : zMm) (a b : Nat) (v : Int), ¬ (k = a ∧ j = b) → zu m a b v k j = m k j := fun m a b v q => if_neg q
  rw [e1 _ _ _ _ h11, e1 _ _ _ _ h10]
  unfold xad
  split
  · rename_i c
    have c2 := c.2
    rw [e1 _ _ _ _ (fun z => h (by unfold zcov; omega)), e1 _ _ _ _ (fun z => h (by unfold zcov; omega)), e1 _ _ _ _ (fun z => h (by unfold zcov; omega)), e1 _ _ _ _ (fun z => h (by unfold zcov; omega))]
  · rfl
theorem xdrs_k : ∀ (n : Nat) (m : zMm) {k : Nat}, (k ≠ 1 ∧ k ≠ 10 ∧ k ≠ 12 ∧ k ≠ 13 ∧ k ≠ 14) → xdrs n m k = m k
  | 0, m, k, h => rfl
  | n + 1, m, k, h => (xdrs_k n (xdr m) h).trans (xdr_k h)
theorem xdrs_c : ∀ (n : Nat) (m : zMm) {k j : Nat}, ¬ zcov k j → xdrs n m k j = m k j
  | 0, m, k, j, h => rfl
  | n + 1, m, k, j, h => (xdrs_c n (xdr m) h).trans (xdr_c h)
theorem xdrs_I : ∀ (n : Nat) (m : zMm), xI m → 0 < xlv m → xI (xdrs n m) ∧ 0 < xlv (xdrs n m)
  | 0, m, h, hz => ⟨h, hz⟩
  | n + 1, m, h, hz => xdrs_I n (xdr m) (xdr_I h hz) (by rw [xdr_lv]; exact hz)
theorem xdr_len (hI : xI mm) : mm 12 2 ≤ xdr mm 12 2 ∧ xdr mm 12 2 ≤ mm 12 2 + 1 := by
  unfold xdr
  rw [zu_k _ _ (by decide), zu_k _ _ (by decide)]
  unfold xad
  split
  · rw [zu_s]; omega
  · omega
theorem xdrs_len : ∀ (n : Nat) (m : zMm), xI m → 0 < xlv m → m 12 2 ≤ xdrs n m 12 2 ∧ xdrs n m 12 2 ≤ m 12 2 + n
  | 0, m, h, hz => ⟨Int.le_refl _, by show m 12 2 ≤ m 12 2 + ((0 : Nat) : Int); omega⟩
  | n + 1, m, h, hz => by
    have h1 := xdr_len h
    have h2 := xdrs_len n (xdr m) (xdr_I h hz) (by rw [xdr_lv]; exact hz)
    show m 12 2 ≤ xdrs n (xdr m) 12 2 ∧ xdrs n (xdr m) 12 2 ≤ m 12 2 + ((n + 1 : Nat) : Int)
    omega
theorem zu_c {m mm : zMm} {k a j : Nat} {v : Int} (h : m k = mm k) : zu m a j v k = zu mm a j v k := by
  funext x
  show (if k = a ∧ x = j then v else m k x) = if k = a ∧ x = j then v else mm k x
  rw [h]
/-- like rows, like turns -/
theorem xdr_cong {m mm : zMm} (f : ∀ k, 1 ≤ k → k ≤ 14 → m k = mm k) : ∀ k, 1 ≤ k → k ≤ 14 → xdr m k = xdr mm k := by
  intro k h1 h14
  have f1 := f 1 (by decide) (by decide)
  have f2 := f 2 (by decide) (by decide)
  have f3 := f 3 (by decide) (by decide)
  have f4 := f 4 (by decide) (by decide)
  have f5 := f 5 (by decide) (by decide)
  have f6 := f 6 (by decide) (by decide)
  have f7 := f 7 (by decide) (by decide)
  have f8 := f 8 (by decide) (by decide)
  have f9 := f 9 (by decide) (by decide)
  have f10 := f 10 (by decide) (by decide)
  have f11 := f 11 (by decide) (by decide)
  have f12 := f 12 (by decide) (by decide)
  have f13 := f 13 (by decide) (by decide)
  have ea : xas m = xas mm := xas_fr f6 f8 f11
  have est : xst m = xst mm := by unfold xst; rw [ea, f6, f10]
  have ec : xc m = xc mm := by unfold xc; rw [est, f11]
  have ee : xe m = xe mm := by unfold xe; rw [f13, f12]
  have eP : xP1 m = xP1 mm := by
    unfold xP1 xcm
    rw [ec, ee, f7, f9, f3, f4, f5, f2]
  have ew : xw m = xw mm := by unfold xw; rw [eP, ec, f9, f1]
  unfold xdr xad
  rw [ea, est, eP, ew, f6, f10, f1, f11, f12]
  refine zu_c (zu_c ?_)
  split
  · exact zu_c (zu_c (zu_c (zu_c (f k h1 h14))))
  · exact f k h1 h14
theorem xdrs_cong : ∀ (n : Nat) {m mm : zMm}, (∀ k, 1 ≤ k → k ≤ 14 → m k = mm k) → ∀ k, 1 ≤ k → k ≤ 14 → xdrs n m k = xdrs n mm k
  | 0, m, mm, f => f
  | n + 1, m, mm, f => xdrs_cong n (xdr_cong f)
end
