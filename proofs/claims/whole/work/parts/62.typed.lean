theorem zpt_r (T : Nat → Int) (n : Nat) : ∀ (f i w : Nat) (l b : Int) (R : Nat → Int), w ≤ 7 → (zpt T n f i w l b R).1 ≤ 8
  | 0, i, w, l, b, R, h => by
    show (if b = 0 then -20 - (n : Int) else w + 1) ≤ 8
    split <;> omega
  | f + 1, i, w, l, b, R, h => by
    rw [zpt_s]
    by_cases c1 : T i = 32
    · rw [if_pos c1]
      exact zpt_r T n f _ w _ _ _ h
    · rw [if_neg c1]
      by_cases c2 : T i = 59 ∧ b ≠ 0 ∧ w < 7
      · rw [if_pos c2]
        exact zpt_r T n f _ (w + 1) _ _ _ (by omega)
      · rw [if_neg c2]
        by_cases c3 : T i = 45 ∧ b = 0
        · rw [if_pos c3]
          exact zpt_r T n f _ w _ _ _ h
        · rw [if_neg c3]
          by_cases c4 : l ≤ T i - 97 ∧ T i - 97 < 8
          · rw [if_pos c4]
            exact zpt_r T n f _ w _ _ _ h
          · rw [if_neg c4]
            show -20 - (i : Int) ≤ 8
            omega
theorem zpb_w (T : Nat → Int) : ∀ (f i w : Nat) (R : Nat → Int), (∀ j : Nat, j < w → 0 ≤ R j ∧ R j < 8) → ∀ j : Nat, (j : Int) < (zpb T f i w R).1 → 0 ≤ (zpb T f i w R).2 j ∧ (zpb T f i w R).2 j < 8
  | 0, i, w, R, h, j, hj => h j (by have : (j : Int) < (w : Int) := hj; omega)
  | f + 1, i, w, R, h, j, hj => by
    rw [zpb_s] at hj ⊢
    by_cases c : T i = 32
    · rw [if_pos c] at hj ⊢
      exact zpb_w T f (i + 1) w R h j hj
    · rw [if_neg c] at hj ⊢
      by_cases c2 : 97 ≤ T i ∧ T i < 105 ∧ w < 24
      · rw [if_pos c2] at hj ⊢
        refine zpb_w T f (i + 1) (w + 1) _ (fun j' hj' => ?_) j hj
        unfold zset
        by_cases q : j' = w
        · rw [if_pos q]
          omega
        · rw [if_neg q]
          exact h j' (by omega)
      · rw [if_neg c2] at hj
        have : (j : Int) < -20 - (i : Int) := hj
        omega
/-- the tongue that is read, so far -/
def ztc (M : zMm) (R : Nat → Int) (k : Nat) : zMm := fun a j => if a = 3 ∧ j < k then R j else M a j
theorem ztc_s (M : zMm) (R : Nat → Int) (k : Nat) : zu (ztc M R k) 3 k (R k) = ztc M R (k + 1) := by
  funext a j
  unfold zu ztc
  by_cases h : a = 3
  · subst h
    by_cases q : j = k
    · subst q; simp
    · by_cases r : j < k
      · simp [q, r, show j < k + 1 by omega]
      · simp [q, r, show ¬ j < k + 1 by omega]
  · simp [h]
theorem ztc_k (M : zMm) (R : Nat → Int) (k : Nat) {a : Nat} (h : a ≠ 3) : ztc M R k a = M a := by
  funext j
  unfold ztc
  rw [if_neg (fun q => h q.1)]
theorem ztc_0 (M : zMm) (R : Nat → Int) : ztc M R 0 = M := by
  funext a j
  unfold ztc
  simp
/-- the class's book that is read, so far -/
def zbc (M : zMm) (R : Nat → Int) (k : Nat) : zMm := fun a j => if a = 13 ∧ j < k then R j else if a = 14 ∧ j < k then -4 else if a = 12 ∧ j = 2 then (k : Int) else M a j
theorem zbc_s (M : zMm) (R : Nat → Int) (k : Nat) : zu (zu (zu (zbc M R k) 13 k (R k)) 14 k (-4)) 12 2 ((k : Int) + 1) = zbc M R (k + 1) := by
  funext a j
  unfold zu zbc
  by_cases h : a = 13
  · subst h
    by_cases q : j = k
    · subst q; simp
    · by_cases r : j < k
      · simp [q, r, show j < k + 1 by omega]
      · simp [q, r, show ¬ j < k + 1 by omega]
  · by_cases h2 : a = 14
    · subst h2
      by_cases q : j = k
      · subst q; simp
      · by_cases r : j < k
        · simp [q, r, show j < k + 1 by omega]
        · simp [q, r, show ¬ j < k + 1 by omega]
    · by_cases h3 : a = 12 ∧ j = 2
      · simp [h3]
      · simp [h, h2, h3]
theorem zbc_0 (M : zMm) (R : Nat → Int) : zbc M R 0 = zu M 12 2 0 := by
  funext a j
  unfold zu zbc
  simp
section
variable {mm : zMm}
theorem s_xtongue (d : Nat) (hT : xT mm) : zL (d + 3) 85 [.inr (.inr 0)] SH mm = zok (zpt (mm 30) (mm 29 2).toNat (mm 29 2).toNat 0 0 0 0 (zset (mm 31) 0 0)).1 (zu (ztc (zur mm 31 (zpt (mm 30) (mm 29 2).toNat (mm 29 2).toNat 0 0 0 0 (zset (mm 31) 0 0)).2) (zpt (mm 30) (mm 29 2).toNat (mm 29 2).toNat 0 0 0 0 (zset (mm 31) 0 0)).2 (zpt (mm 30) (mm 29 2).toNat (mm 29 2).toNat 0 0 0 0 (zset (mm 31) 0 0)).1.toNat) 29 2 0) := by
  have h8 := zpt_r (mm 30) (mm 29 2).toNat (mm 29 2).toNat 0 0 0 0 (zset (mm 31) 0 0) (by omega)
  rw [ze_X8_tongue, zb_X8_tongue_0, s_parseTongue d hT, zcI_ok, zb_X8_tongue_7]
  generalize zpt (mm 30) (mm 29 2).toNat (mm 29 2).toNat 0 0 0 0 (zset (mm 31) 0 0) = o at h8 ⊢
  have key : ∀ k : Nat, k ≤ o.1.toNat → zR (d + 2) 85 10 [some (.inr (.inr 0)), some (.inl o.1), some (.inl (k : Int))] [] SH (ztc (zur mm 31 o.2) o.2 k) = zok o.1 (zu (ztc (zur mm 31 o.2) o.2 o.1.toNat) 29 2 0) := by
    refine zup ?_ ?_
    · rw [zb_X8_tongue_10, if_neg (by omega)]
    · intro k hk ih
      have e31 : ztc (zur mm 31 o.2) o.2 k 31 = o.2 := by rw [ztc_k _ _ _ (by decide), zur_s]
      rw [zb_X8_tongue_10, if_pos (by omega), s_parsedAt (d + 1) k (by omega), zcI_ok, zb_X8_tongue_31, s_changeFollowing (d + 1) k _ (by omega), zcI_ok, zb_X8_tongue_34, e31, ztc_s, zw_inc k (by omega)]
      exact ih
  have k0 := key 0 (by omega)
  rw [ztc_0] at k0
  exact k0
theorem s_xbook (d : Nat) (hT : xT mm) : zL (d + 3) 86 [.inr (.inr 0)] SH mm = if 0 ≤ (zpb (mm 30) (mm 29 2).toNat 0 0 (mm 31)).1 then zok (zpb (mm 30) (mm 29 2).toNat 0 0 (mm 31)).1 (zu (zbc (zur mm 31 (zpb (mm 30) (mm 29 2).toNat 0 0 (mm 31)).2) (zpb (mm 30) (mm 29 2).toNat 0 0 (mm 31)).2 (zpb (mm 30) (mm 29 2).toNat 0 0 (mm 31)).1.toNat) 29 2 0) else zok (zpb (mm 30) (mm 29 2).toNat 0 0 (mm 31)).1 (zu (zur mm 31 (zpb (mm 30) (mm 29 2).toNat 0 0 (mm 31)).2) 29 2 0) := by
  have h24 := zpb_r (mm 30) (mm 29 2).toNat 0 0 (mm 31) (by omega)
  have hw := zpb_w (mm 30) (mm 29 2).toNat 0 0 (mm 31) (fun j hj => absurd hj (by omega))
  rw [ze_X8_book, zb_X8_book_0, s_parseBook d hT, zcI_ok, zb_X8_book_7]
  generalize zpb (mm 30) (mm 29 2).toNat 0 0 (mm 31) = o at h24 hw ⊢
  by_cases c : 0 ≤ o.1
  · have key : ∀ k : Nat, k ≤ o.1.toNat → zR (d + 2) 86 25 [some (.inr (.inr 0)), some (.inl o.1), some (.inl (k : Int))] [] SH (zbc (zur mm 31 o.2) o.2 k) = zok o.1 (zu (zbc (zur mm 31 o.2) o.2 o.1.toNat) 29 2 0) := by
      refine zup ?_ ?_
      · rw [zb_X8_book_25, if_neg (by omega)]
      · intro k hk ih
        have e31 : zbc (zur mm 31 o.2) o.2 k 31 = o.2 := by
          funext j
          unfold zbc zur
          simp
        have e12 : zbc (zur mm 31 o.2) o.2 k 12 2 = (k : Int) := by unfold zbc; simp
        have hxp : xP (zbc (zur mm 31 o.2) o.2 k) := by
          unfold xP
          rw [e12]
          refine ⟨by omega, by omega, fun p hp => ?_⟩
          have : zbc (zur mm 31 o.2) o.2 k 13 p = o.2 p := by
            unfold zbc
            rw [if_pos ⟨rfl, by omega⟩]
          rw [this]
          exact hw p (by omega)
        rw [zb_X8_book_25, if_pos (by omega), s_parsedAt (d + 1) k (by omega), zcI_ok, zb_X8_book_45, s_pappend (d + 1) _ _ hxp (by rw [e12]; omega), zcV_vd, zb_X8_book_50, e31, e12, Int.toNat_natCast, zbc_s, zw_inc k (by omega)]
        exact ih
    have k0 := key 0 (by omega)
    rw [zbc_0] at k0
    rw [if_neg (by omega), if_pos c]
    exact k0
  · rw [if_pos (by omega), if_neg c, zb_X8_book_25, if_neg (by omega)]
end
