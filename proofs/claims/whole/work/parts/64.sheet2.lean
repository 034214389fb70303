/-- the model's sheets tell the same as the class's -/
def zSR (m mm : zMm) : Prop := ∀ s : Nat, s < 4 → m 65 s = mm (37 + 2 * s) 1 ∧ m 66 s = mm (37 + 2 * s) 2 ∧ (-1 ≤ mm (37 + 2 * s) 1 ∧ mm (37 + 2 * s) 1 ≤ 2) ∧ (0 ≤ mm (37 + 2 * s) 2 ∧ mm (37 + 2 * s) 2 ≤ 24) ∧ ∀ i : Nat, i < 24 → m 67 (24 * s + i) = mm (38 + 2 * s) i
theorem t_isSheet (d : Nat) (s l : Int) (m : zMm) : zL (d + 2) 189 [.inl s, .inl l] SH m = zok (if (0 ≤ s ∧ s < 4) ∧ 0 ≤ l ∧ l < 3 then 1 else 0) m := by
  rw [ze_X9_isSheet, zb_X9_isSheet_0, t_in, zcI_ok, zb_X9_isSheet_9]
  by_cases h : 0 ≤ s ∧ s < 4
  · rw [if_pos (show 0 ≤ s ∧ s ≤ 3 by omega), if_neg (by decide), t_in, zcI_ok, zb_X9_isSheet_21]
    by_cases h2 : 0 ≤ l ∧ l < 3
    · rw [if_pos (show 0 ≤ l ∧ l ≤ 2 by omega), if_neg (by decide), if_pos ⟨h, h2⟩]
    · rw [if_neg (show ¬ (0 ≤ l ∧ l ≤ 2) by omega), if_pos rfl, if_neg (fun q => h2 q.2)]
  · rw [if_neg (show ¬ (0 ≤ s ∧ s ≤ 3) by omega), if_pos rfl, if_neg (fun q => h q.1)]
section
variable {m mm : zMm}
theorem t_lacksRow (d s : Nat) (a f n : Int) (hs : s < 4) (ha : 0 ≤ a) (hn : 0 ≤ n ∧ n ≤ 24) (h : zSR m mm) : zL (d + 2) 192 [.inr (.inr 45), .inl s, .inl a, .inl f, .inl n] SH m = zok (zref (mm (37 + 2 * s) 1) (mm (37 + 2 * s) 2) a f n) m := by
  obtain ⟨h1, h2, h3, h4, _⟩ := h s hs
  unfold zref
  rw [ze_X9_lacksRow, zb_X9_lacksRow_0, if_pos (by omega), Int.toNat_natCast, h1, h2]
  by_cases c : mm (37 + 2 * s) 1 = a
  · rw [if_pos c, if_pos (by omega), if_neg (show ¬ (mm (37 + 2 * s) 1 = -1) by omega), if_pos c, zw_id (by omega) (by omega), t_in, zcI_ok, zb_X9_lacksRow_43]
    by_cases c2 : f < 0 ∨ mm (37 + 2 * s) 2 - n < f
    · rw [if_neg (show ¬ (0 ≤ f ∧ f ≤ mm (37 + 2 * s) 2 - n) by omega), if_pos rfl, if_pos c2]
    · rw [if_pos (show 0 ≤ f ∧ f ≤ mm (37 + 2 * s) 2 - n by omega), if_neg (by decide), if_neg c2]
  · rw [if_neg c, if_pos (by omega)]
    by_cases c2 : mm (37 + 2 * s) 1 = -1
    · rw [if_pos (by omega), if_pos c2]
    · rw [if_neg (by omega), if_neg c2, if_neg c]
/-- the model's sheet that begins, so far -/
def zbm (m : zMm) (s i : Nat) : zMm := fun k j => if k = 67 ∧ 24 * s ≤ j ∧ j < 24 * s + i then 0 else m k j
theorem zbm_s (m : zMm) (s i : Nat) : zu (zbm m s i) 67 (24 * s + i) 0 = zbm m s (i + 1) := by
  funext k j
  unfold zu zbm
  by_cases k1 : k = 67
  · subst k1
    by_cases q : j = 24 * s + i
    · subst q; simp
    · by_cases r : 24 * s ≤ j ∧ j < 24 * s + i
      · simp [q, r, show j < 24 * s + (i + 1) by omega]
      · simp [q, r, show ¬ (24 * s ≤ j ∧ j < 24 * s + (i + 1)) by omega]
  · simp [k1]
theorem t_sheet_loop (d s : Nat) (a : Int) (hs : s < 4) (M : zMm) : zR d 190 40 [some (.inr (.inr 45)), some (.inl (s : Int)), none, some (.inl a), some (.inl 0)] [] SH M = zok a (zbm M s 24) := by
  have key : ∀ i : Nat, i ≤ 24 → zR d 190 40 [some (.inr (.inr 45)), some (.inl (s : Int)), none, some (.inl a), some (.inl (i : Int))] [] SH (zbm M s i) = zok a (zbm M s 24) := by
    refine zup ?_ ?_
    · rw [zb_X9_sheet_40, if_neg (by decide)]
    · intro i hi ih
      rw [zb_X9_sheet_40, if_pos (by omega), zw_id (x := 24 * (s : Int)) (by omega) (by omega), zw_id (x := 24 * (s : Int) + i) (by omega) (by omega), if_pos (by omega), show (24 * (s : Int) + i).toNat = 24 * s + i by omega, zbm_s, zw_inc i (by omega)]
      exact ih
  have k0 := key 0 (by omega)
  have e0 : zbm M s 0 = M := by
    funext k j
    unfold zbm
    rw [if_neg (by omega)]
  rw [e0] at k0
  exact k0
end
