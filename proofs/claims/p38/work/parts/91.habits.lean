/-! habits are all words that are known -/
theorem zcnt_add {P Q : Nat → Bool} : ∀ {n : Nat}, (∀ p, p < n → P p = true → Q p = true → False) → zcnt (fun p => P p || Q p) n = zcnt P n + zcnt Q n
  | 0, _ => rfl
  | n + 1, h => by
    have ih := zcnt_add (P := P) (Q := Q) (n := n) (fun p hp => h p (by omega))
    rw [zcnt_s, zcnt_s, zcnt_s, ih]
    cases hp : P n with
    | false => cases hq : Q n <;> simp <;> omega
    | true => cases hq : Q n with
      | false => simp; omega
      | true => exact (h n (by omega) hp hq).elim
theorem zcnt_all {P : Nat → Bool} : ∀ {n : Nat}, (∀ p, p < n → P p = true) → zcnt P n = n
  | 0, _ => rfl
  | n + 1, h => by
    rw [zcnt_s, h n (by omega), if_pos rfl, zcnt_all (fun p hp => h p (by omega))]
    omega
theorem zcnt_non {P : Nat → Bool} : ∀ {n : Nat}, (∀ p, p < n → P p = false) → zcnt P n = 0
  | 0, _ => rfl
  | n + 1, h => by
    rw [zcnt_s, h n (by omega), if_neg (by decide), zcnt_non (fun p hp => h p (by omega))]
/-- those written by the cells ahead of c, and by c the words ahead of w -/
def zhs (B Wr : Nat → Int) (c w : Nat) (p : Nat) : Bool := decide (Wr p < c) || (decide (Wr p = c) && decide (B p < w))
section
variable {B Wr : Nat → Int} {n : Nat}
theorem zhs_0 (h : ∀ p, p < n → 0 ≤ Wr p ∧ 0 ≤ B p ∧ B p < 8) : zcnt (zhs B Wr 0 0) n = 0 := by
  refine zcnt_non fun p hp => ?_
  obtain ⟨h1, h2, h3⟩ := h p hp
  unfold zhs
  rw [decide_eq_false (by omega), decide_eq_false (show ¬ B p < ((0 : Nat) : Int) by omega), Bool.and_false]
  rfl
theorem zhs_w (c w : Nat) : zcnt (zhs B Wr c (w + 1)) n = zcnt (zhs B Wr c w) n + zcnt (zhab B Wr c w) n := by
  rw [← zcnt_add]
  · refine zcnt_cong fun p _ => ?_
    unfold zhs zhab
    by_cases q1 : Wr p < c
    · rw [decide_eq_true q1, Bool.true_or, Bool.true_or, Bool.true_or]
    · rw [decide_eq_false q1, Bool.false_or, Bool.false_or]
      by_cases q2 : Wr p = c
      · rw [decide_eq_true q2, Bool.true_and, Bool.true_and, Bool.true_and]
        by_cases q3 : B p < w
        · rw [decide_eq_true q3, decide_eq_true (by omega), Bool.true_or]
        · rw [decide_eq_false q3, Bool.false_or]
          by_cases q4 : B p = w
          · rw [decide_eq_true q4, decide_eq_true (by omega)]
          · rw [decide_eq_false q4, decide_eq_false (by omega)]
      · rw [decide_eq_false q2, Bool.false_and, Bool.false_and, Bool.false_and, Bool.false_or]
  · intro p _ h1 h2
    unfold zhs at h1
    unfold zhab at h2
    simp only [Bool.or_eq_true, Bool.and_eq_true, decide_eq_true_eq] at h1 h2
    omega
theorem zhs_c (h : ∀ p, p < n → 0 ≤ Wr p ∧ 0 ≤ B p ∧ B p < 8) (c : Nat) : zcnt (zhs B Wr (c + 1) 0) n = zcnt (zhs B Wr c 8) n := by
  refine zcnt_cong fun p hp => ?_
  obtain ⟨h1, h2, h3⟩ := h p hp
  unfold zhs
  rw [decide_eq_false (show ¬ B p < ((0 : Nat) : Int) by omega), Bool.and_false, Bool.or_false, decide_eq_true (show B p < ((8 : Nat) : Int) by omega), Bool.and_true]
  by_cases q1 : Wr p < c
  · rw [decide_eq_true q1, decide_eq_true (by omega), Bool.true_or]
  · rw [decide_eq_false q1, Bool.false_or]
    by_cases q2 : Wr p = c
    · rw [decide_eq_true q2, decide_eq_true (by omega)]
    · rw [decide_eq_false q2, decide_eq_false (by omega)]
theorem zhs_N (N : Nat) (h : ∀ p, p < n → Wr p < N) : zcnt (zhs B Wr N 0) n = n := by
  refine zcnt_all fun p hp => ?_
  unfold zhs
  rw [decide_eq_true (h p hp), Bool.true_or]
end
