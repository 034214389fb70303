/-! seated: the words of a psalm, the book's end behind each, who can be on each seat -/
def zpw (words n i : Nat) : Nat := words / 8 ^ (n - 1 - i) % 8
def zpe (e words n : Nat) : Nat → Nat
  | 0 => e
  | i + 1 => wpush (zpe e words n i) (zpw words n i)
theorem zpe_lt {e words n : Nat} (he : e < 585) : ∀ i, zpe e words n i < 585
  | 0 => he
  | i + 1 => wpush_lt (zpe_lt he i) (Nat.mod_lt _ (by decide))
def zSS (al : Nat → Bool) (can : Nat → Nat → Nat → Bool) (e words n seats : Nat) : Nat → Nat → Nat → Bool
  | 0, _, c => al c
  | i + 1, s, c => zSS al can e words n seats i s c && (!decide (s = i % seats) || can c (zpe e words n i) (zpw words n i))
/-- the orders, from a seat on -/
def zord (SS : Nat → Nat → Bool) : Nat → Nat → (Nat → Bool) → Int
  | 0, _, _ => 1
  | f + 1, s, U => zsum (fun c => if SS s c && !U c then zord SS f (s + 1) (fun x => U x || decide (x = c)) else 0) 6
theorem zord_s (SS : Nat → Nat → Bool) (f s : Nat) (U : Nat → Bool) : zord SS (f + 1) s U = zsum (fun c => if SS s c && !U c then zord SS f (s + 1) (fun x => U x || decide (x = c)) else 0) 6 := rfl
theorem zord_r (SS : Nat → Nat → Bool) : ∀ (f s : Nat) (U : Nat → Bool), 0 ≤ zord SS f s U ∧ zord SS f s U ≤ ((6 ^ f : Nat) : Int)
  | 0, _, _ => by simp [zord]
  | f + 1, s, U => by
    have h := zsum_r (f := fun c => if SS s c && !U c then zord SS f (s + 1) (fun x => U x || decide (x = c)) else 0) (a := 0) (b := ((6 ^ f : Nat) : Int)) (by decide) (Int.natCast_nonneg _) (n := 6) (fun j _ => by
      have := zord_r SS f (s + 1) (fun x => U x || decide (x = j))
      show 0 ≤ (if SS s j && !U j then _ else (0 : Int)) ∧ (if SS s j && !U j then _ else (0 : Int)) ≤ _
      split <;> omega)
    rw [zord_s, Nat.pow_succ]
    omega
theorem zp6 {f : Nat} (h : f ≤ 6) : 6 ^ f ≤ 46656 := by
  have : ∀ f, f < 7 → 6 ^ f ≤ 46656 := by decide
  exact this f (by omega)
/-- the first cell for a seat -/
def zfc (SS : Nat → Nat → Bool) (f s : Nat) (U : Nat → Bool) : Int := zfst (fun c => (SS s c && !U c) && decide (0 < zord SS f (s + 1) (fun x => U x || decide (x = c)))) 6 0
/-- whom the first seats have -/
def zfu (SS : Nat → Nat → Bool) (seats : Nat) : Nat → Nat → Bool
  | 0 => fun _ => false
  | k + 1 => fun x => zfu SS seats k x || decide ((x : Int) = zfc SS (seats - 1 - k) k (zfu SS seats k))
section
variable {mm : zMm}
theorem s_ordersFrom (d n : Nat) (SS : Nat → Nat → Bool) (hn : n ≤ 6) (h36 : ∀ s, s < 6 → mm 36 s = mks (SS s) 6) : ∀ (f s : Nat) (U : Nat → Bool), s + f = n → zL (d + 2 + f) 121 [.inr (.inr 36), .inl n, .inl s, .inl (mks U 6)] SH mm = zok (zord SS f s U) mm
  | 0, s, U, h => by
    rw [show d + 2 + 0 = d + 1 + 1 by omega, ze_X8_ordersFrom, zb_X8_ordersFrom_0, if_neg (by omega), if_neg (by omega)]
    rfl
  | f + 1, s, U, h => by
    rw [show d + 2 + (f + 1) = d + 2 + f + 1 by omega, ze_X8_ordersFrom, zb_X8_ordersFrom_0, if_neg (by omega), if_pos (by omega), if_pos (by omega), zord_s]
    refine zup (P := fun i => zR (d + 2 + f) 121 23 [some (.inr (.inr 36)), some (.inl (n : Int)), some (.inl (s : Int)), some (.inl (mks U 6)), some (.inl (zsum (fun c => if SS s c && !U c then zord SS f (s + 1) (fun x => U x || decide (x = c)) else 0) i)), some (.inl (i : Int))] [] SH mm = _) (n := 6) ?_ ?_ 0 (by omega)
    · rw [zb_X8_ordersFrom_23, if_neg (by decide)]
    · intro i hi ih
      rw [zb_X8_ordersFrom_23, if_pos (by omega), if_pos (by omega), Int.toNat_natCast, h36 s (by omega), mks_andnot (SS s) U (by decide) (by decide), show d + 2 + f = d + 1 + f + 1 by omega, s_holds (d + 1 + f) _ i (by omega), zcI_ok, zb_X8_ordersFrom_42, mks_bit _ 6 (by decide), decide_eq_true hi, Bool.true_and, Bool.true_and, show d + 1 + f + 1 = d + 2 + f by omega]
      rw [zsum_s] at ih
      cases hp : (SS s i && !U i) with
      | false =>
        rw [if_pos (by simp), zw_inc i (by omega)]
        simp only [hp, Bool.false_eq_true, if_false, Int.add_zero] at ih
        exact ih
      | true =>
        simp only [hp, if_true] at ih
        have r1 := zord_r SS f (s + 1) (fun x => U x || decide (x = i))
        have r2 := zsum_r (f := fun c => if SS s c && !U c then zord SS f (s + 1) (fun x => U x || decide (x = c)) else 0) (a := 0) (b := 46656) (by decide) (by decide) (n := i) (fun j _ => by
          have := zord_r SS f (s + 1) (fun x => U x || decide (x = j))
          have := zp6 (show f ≤ 6 by omega)
          show 0 ≤ (if SS s j && !U j then _ else (0 : Int)) ∧ (if SS s j && !U j then _ else (0 : Int)) ≤ _
          split <;> omega)
        have r3 := zp6 (show f ≤ 6 by omega)
        rw [if_neg (by simp), mks_or1 U (by decide) hi, zw_inc s (by omega), s_ordersFrom d n SS hn h36 f (s + 1) _ (by omega), zcI_ok, zb_X8_ordersFrom_61, zw_inc i (by omega), zw_id (by omega) (by omega)]
        exact ih
theorem s_firstCellFor (d n : Nat) (SS : Nat → Nat → Bool) (hn : n ≤ 6) (h36 : ∀ s, s < 6 → mm 36 s = mks (SS s) 6) (s f : Nat) (U : Nat → Bool) (h : s + 1 + f = n) : zL (d + 3 + f) 123 [.inr (.inr 0), .inl n, .inl s, .inl (mks U 6)] SH mm = zok (if zfc SS f s U < 0 then 0 else zfc SS f s U) mm := by
  have key : ∀ (g i : Nat), i + g = 6 → zR (d + 2 + f) 123 30 [some (.inr (.inr 0)), some (.inl (n : Int)), some (.inl (s : Int)), some (.inl (mks U 6)), some (.inl (mks (fun j => SS s j && !(decide (j < 6) && U j)) 6)), some (.inl (i : Int))] [] SH mm = zok (if zfst (fun c => (SS s c && !U c) && decide (0 < zord SS f (s + 1) (fun x => U x || decide (x = c)))) g i < 0 then 0 else zfst (fun c => (SS s c && !U c) && decide (0 < zord SS f (s + 1) (fun x => U x || decide (x = c)))) g i) mm := by
    intro g
    induction g with
    | zero =>
      intro i h
      rw [zb_X8_firstCellFor_30, if_neg (by omega)]
      rfl
    | succ g ih =>
      intro i h2
      rw [zb_X8_firstCellFor_30, if_pos (by omega), show d + 2 + f = d + 1 + f + 1 by omega, s_holds (d + 1 + f) _ i (by omega), zcI_ok, zb_X8_firstCellFor_44, mks_bit _ 6 (by decide), decide_eq_true (show i < 6 by omega), Bool.true_and, Bool.true_and, show d + 1 + f + 1 = d + 2 + f by omega, zfst_s]
      cases hp : (SS s i && !U i) with
      | false =>
        simp only [Bool.false_and, Bool.false_eq_true, if_false, if_true]
        rw [zw_inc i (by omega)]
        exact ih (i + 1) (by omega)
      | true =>
        rw [if_neg (by simp), mks_or1 U (by decide) (show i < 6 by omega), zw_inc s (by omega), s_ordersFrom d n SS hn h36 f (s + 1) _ (by omega), zcI_ok, zb_X8_firstCellFor_64, zw_inc i (by omega)]
        by_cases c : 0 < zord SS f (s + 1) (fun x => U x || decide (x = i))
        · rw [if_pos c, decide_eq_true c]
          simp only [Bool.and_self, if_true]
          rw [if_neg (by omega)]
        · rw [if_neg c, decide_eq_false c]
          simp only [Bool.and_false, Bool.false_eq_true, if_false]
          exact ih (i + 1) (by omega)
  rw [show d + 3 + f = d + 2 + f + 1 by omega, ze_X8_firstCellFor, zb_X8_firstCellFor_0, if_neg (by omega), if_pos (by omega), if_pos (by omega), Int.toNat_natCast, h36 s (by omega), mks_andnot (SS s) U (by decide) (by decide)]
  exact key 6 0 rfl
/-- some order there is, from each seat on -/
theorem s_cellOfFirstOrder (d n : Nat) (SS : Nat → Nat → Bool) (hn : n ≤ 6) (h36 : ∀ s, s < 6 → mm 36 s = mks (SS s) 6) (k : Nat) (hk : k < n) (hx : ∀ j, j ≤ k → 0 ≤ zfc SS (n - 1 - j) j (zfu SS n j)) : zL (d + 3 + n) 122 [.inr (.inr 0), .inl n, .inl k] SH mm = zok (zfc SS (n - 1 - k) k (zfu SS n k)) mm := by
  rw [show d + 3 + n = d + 2 + n + 1 by omega, ze_X8_cellOfFirstOrder, zb_X8_cellOfFirstOrder_0]
  refine zup (P := fun i => zR (d + 2 + n) 122 5 [some (.inr (.inr 0)), some (.inl (n : Int)), some (.inl (k : Int)), some (.inl (mks (zfu SS n i) 6)), some (.inl (i : Int))] [] SH mm = zok (zfc SS (n - 1 - k) k (zfu SS n k)) mm) (n := k) ?_ ?_ 0 (by omega)
  · have h := s_firstCellFor (mm := mm) (d + k) n SS hn h36 k (n - 1 - k) (zfu SS n k) (by omega)
    have hp := hx k (by omega)
    rw [zb_X8_cellOfFirstOrder_5, if_neg (by omega), show d + 2 + n = d + k + 3 + (n - 1 - k) by omega, h, zcI_ok, zb_X8_cellOfFirstOrder_37, if_neg (by omega)]
  · intro i hi ih
    have h := s_firstCellFor (mm := mm) (d + i) n SS hn h36 i (n - 1 - i) (zfu SS n i) (by omega)
    have hp := hx i (by omega)
    have hr : zfc SS (n - 1 - i) i (zfu SS n i) < 6 := by
      rcases zfst_r (fun c => (SS i c && !zfu SS n i c) && decide (0 < zord SS (n - 1 - i) (i + 1) (fun x => zfu SS n i x || decide (x = c)))) 6 0 with q | ⟨j, q, _, q2, _⟩
      · have : zfc SS (n - 1 - i) i (zfu SS n i) = -4 := q
        omega
      · have : zfc SS (n - 1 - i) i (zfu SS n i) = j := q
        omega
    rw [zb_X8_cellOfFirstOrder_5, if_pos (by omega), show d + 2 + n = d + i + 3 + (n - 1 - i) by omega, h, zcI_ok, zb_X8_cellOfFirstOrder_21, if_neg (by omega), zw_inc i (by omega), show d + i + 3 + (n - 1 - i) = d + 2 + n by omega]
    have e : zfc SS (n - 1 - i) i (zfu SS n i) = ((zfc SS (n - 1 - i) i (zfu SS n i)).toNat : Int) := by omega
    rw [e, mks_or1 _ (by decide) (by omega)]
    have e2 : mks (fun j => zfu SS n i j || decide (j = (zfc SS (n - 1 - i) i (zfu SS n i)).toNat)) 6 = mks (zfu SS n (i + 1)) 6 := mks_cong fun j _ => by
      show _ = (zfu SS n i j || decide ((j : Int) = zfc SS (n - 1 - i) i (zfu SS n i)))
      congr 1
      exact decide_eq_decide.mpr (by omega)
    rw [e2]
    exact ih
end
