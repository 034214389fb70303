/-- what a lane makes of a number -/
def zput (lane v : Int) : Int := if lane = 0 then zi2b v else if lane = 1 then zi2s v else v
/-- a sheet that begins -/
def zbeg (mm : zMm) (s i : Nat) : zMm := fun k j => if k = 38 + 2 * s ∧ j < i then 0 else mm k j
theorem zbeg_s (mm : zMm) (s i : Nat) : zu (zbeg mm s i) (38 + 2 * s) i 0 = zbeg mm s (i + 1) := by
  funext k j
  unfold zu zbeg
  by_cases k1 : k = 38 + 2 * s
  · subst k1
    by_cases q : j = i
    · subst q; simp
    · by_cases r : j < i
      · simp [q, r, show j < i + 1 by omega]
      · simp [q, r, show ¬ j < i + 1 by omega]
  · simp [k1]
section
variable {mm : zMm}
/-- why not -/
def zref (lane len a f n : Int) : Int := if lane = -1 then -11 else if lane = a then (if f < 0 ∨ len - n < f then -13 else 0) else -12
theorem s_begin (d s : Nat) (a n : Int) (hs : s < 4) : zL (d + 1) 45 [.inr (.inr (37 + 2 * s)), .inl a, .inl n] SH mm = zvd (zbeg (zu (zu mm (37 + 2 * s) 1 a) (37 + 2 * s) 2 n) s 24) := by
  rw [ze_X4_begin, zb_X4_begin_0 _ _ _ s hs]
  have key : ∀ i : Nat, i ≤ 24 → zR d 45 12 [some (.inr (.inr (37 + 2 * s))), none, none, some (.inl (i : Int))] [] SH (zbeg (zu (zu mm (37 + 2 * s) 1 a) (37 + 2 * s) 2 n) s i) = zvd (zbeg (zu (zu mm (37 + 2 * s) 1 a) (37 + 2 * s) 2 n) s 24) := by
    refine zup ?_ ?_
    · rw [zb_X4_begin_12 _ _ s hs, if_neg (by decide)]
    · intro i hi ih
      have e1 : zw ((i : Int) + 1) = ((i + 1 : Nat) : Int) := by rw [zw_id (by omega) (by omega)]; omega
      rw [zb_X4_begin_12 _ _ s hs, if_pos (by omega), if_pos (by omega), Int.toNat_natCast, zbeg_s, e1]
      exact ih
  have k0 := key 0 (by omega)
  have e0 : zbeg (zu (zu mm (37 + 2 * s) 1 a) (37 + 2 * s) 2 n) s 0 = zu (zu mm (37 + 2 * s) 1 a) (37 + 2 * s) 2 n := by
    funext k j
    simp [zbeg]
  rw [e0] at k0
  exact zR_weak (by repeat first | exact zle_nil | apply zle_c | apply zle_n) k0
theorem s_letGo (d s : Nat) (hs : s < 4) : zL (d + 1) 46 [.inr (.inr (37 + 2 * s))] SH mm = if mm (37 + 2 * s) 1 = -1 then zok (-11) mm else zok (mm (37 + 2 * s) 2) (zu mm (37 + 2 * s) 1 (-1)) := by
  rw [ze_X4_letGo, zb_X4_letGo_0 _ s hs]
theorem s_refusalOf (d s : Nat) (a f n : Int) (hs : s < 4) (hl : 0 ≤ mm (37 + 2 * s) 2 ∧ mm (37 + 2 * s) 2 ≤ 24) (hn : 0 ≤ n ∧ n ≤ 24) : zL (d + 1) 47 [.inr (.inr (37 + 2 * s)), .inl a, .inl f, .inl n] SH mm = zok (zref (mm (37 + 2 * s) 1) (mm (37 + 2 * s) 2) a f n) mm := by
  rw [ze_X4_refusalOf, zb_X4_refusalOf_0 _ _ _ _ s hs, zw_id (by omega) (by omega)]
  unfold zref
  (repeat' split) <;> first | rfl | (exfalso; omega)
theorem s_itemAt (d s i : Nat) (hs : s < 4) (hi : i < 24) : zL (d + 1) 48 [.inr (.inr (37 + 2 * s)), .inl i] SH mm = zok (mm (38 + 2 * s) i) mm := by
  rw [ze_X4_itemAt, zb_X4_itemAt_0 _ _ s hs]
  simp (disch := omega) only [if_pos, if_neg, Int.toNat_natCast]
theorem s_put (d s i : Nat) (v : Int) (hs : s < 4) (hi : i < 24) : zL (d + 1) 49 [.inr (.inr (37 + 2 * s)), .inl i, .inl v] SH mm = zvd (zu mm (38 + 2 * s) i (zput (mm (37 + 2 * s) 1) v)) := by
  rw [ze_X4_put, zb_X4_put_0 _ _ _ s hs]
  unfold zput
  simp (disch := omega) only [if_pos, if_neg, Int.toNat_natCast]
  (repeat' split) <;> rfl
end
