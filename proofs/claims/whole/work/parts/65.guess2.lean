theorem zsum_add (f g : Nat → Int) : ∀ n, zsum (fun j => f j + g j) n = zsum f n + zsum g n
  | 0 => rfl
  | n + 1 => by
    rw [zsum_s, zsum_s, zsum_s, zsum_add f g n]
    omega
theorem zsum_one {b : Int} (h : 0 ≤ b ∧ b < 8) : zsum (fun w => if b = (w : Int) then 1 else 0) 8 = 1 := by
  have : ∀ k : Nat, k < 8 → zsum (fun w => if ((k : Nat) : Int) = (w : Int) then 1 else 0) 8 = 1 := by decide +kernel
  obtain ⟨k, rfl⟩ : ∃ k : Nat, b = k := ⟨b.toNat, by omega⟩
  exact this k (by omega)
theorem zsum_zero : ∀ n, zsum (fun _ => 0) n = 0
  | 0 => rfl
  | n + 1 => by rw [zsum_s, zsum_zero n]; rfl
/-- all of a writer's places are the sum of what it wrote of each word -/
theorem zhab_sum {B Wr : Nat → Int} {c : Int} : ∀ {n : Nat}, (∀ p, p < n → 0 ≤ B p ∧ B p < 8) → zsum (fun w => zcnt (zhab B Wr c w) n) 8 = zcnt (fun p => decide (Wr p = c)) n
  | 0, _ => zsum_zero 8
  | n + 1, h => by
    have ih := zhab_sum (B := B) (Wr := Wr) (c := c) (n := n) (fun p hp => h p (by omega))
    have hb := h n (by omega)
    rw [zcnt_s]
    by_cases q : Wr n = c
    · have e : (fun w : Nat => zcnt (zhab B Wr c w) (n + 1)) = fun w : Nat => zcnt (zhab B Wr c w) n + (if B n = (w : Int) then 1 else 0) := by
        funext w
        rw [zcnt_s]
        unfold zhab
        rw [decide_eq_true q, Bool.true_and]
        by_cases r : B n = (w : Int)
        · rw [decide_eq_true r, if_pos rfl, if_pos r]
        · rw [decide_eq_false r, if_neg (by decide), if_neg r, Int.add_zero]
      rw [e, zsum_add, ih, zsum_one hb, decide_eq_true q, if_pos rfl]
    · have e : (fun w : Nat => zcnt (zhab B Wr c w) (n + 1)) = fun w : Nat => zcnt (zhab B Wr c w) n := by
        funext w
        rw [zcnt_s]
        unfold zhab
        rw [decide_eq_false q, Bool.false_and, if_neg (by decide)]
      rw [e, ih, decide_eq_false q, if_neg (by decide)]
