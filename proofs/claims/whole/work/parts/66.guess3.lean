section
variable {m mm : zMm}
theorem t_guess_loop (d p : Nat) (hp : (p : Int) < mm 12 2) (hr : mR m mm) (hI : xI mm) : zR (d + 1) 180 38 [some (.inr (.inr 45)), some (.inl (p : Int)), some (.inl (-4)), some (.inl (-1)), some (.inl 0), none] [] SH m = zok (zbst (mm 7) (zlik (mm 13) (mm 14) (mm 12 2).toNat (mm 13 p)) (mm 6 3).toNat).1 m := by
  have h0 := hI.ce.1
  have h6 := hI.ce.2.1
  have h60 := hI.pg.2.1
  have hB := hI.pg.2.2 p hp
  have hBn : ∀ q : Nat, q < (mm 12 2).toNat → 0 ≤ mm 13 q ∧ mm 13 q < 8 := fun q hq => hI.pg.2.2 q (by omega)
  refine zup (P := fun i => zR (d + 1) 180 38 [some (.inr (.inr 45)), some (.inl (p : Int)), some (.inl (zbst (mm 7) (zlik (mm 13) (mm 14) (mm 12 2).toNat (mm 13 p)) i).1), some (.inl (zbst (mm 7) (zlik (mm 13) (mm 14) (mm 12 2).toNat (mm 13 p)) i).2), some (.inl (i : Int)), none] [] SH m = _) (n := (mm 6 3).toNat) ?_ ?_ 0 (by omega)
  · rw [zb_X9_guess_38, hr.mn, if_neg (by omega)]
  · intro i hi ih
    have c1 := zcnt_r (zhab (mm 13) (mm 14) i (mm 13 p)) (mm 12 2).toNat
    have c2 := zcnt_r (fun q => decide (mm 14 q = (i : Int))) (mm 12 2).toNat
    have el : zlik (mm 13) (mm 14) (mm 12 2).toNat (mm 13 p) i = 16 * (zcnt (zhab (mm 13) (mm 14) i (mm 13 p)) (mm 12 2).toNat + 1) / (zcnt (fun q => decide (mm 14 q = (i : Int))) (mm 12 2).toNat + 8) := by
      unfold zlik
      rw [zhab_sum hBn]
    rw [zbst_s, el] at ih
    rw [zb_X9_guess_38, hr.mn, hr.bo, if_pos (by omega), if_pos (by omega), Int.toNat_natCast, t_habitOf d i (mm 13 p) hB.1 hr hI, zcI_ok, zb_X9_guess_61, t_habitAll d i hr hI, zcI_ok, zb_X9_guess_71, hr.ki, Int.toNat_natCast, zw_id (x := zcnt (zhab (mm 13) (mm 14) i (mm 13 p)) (mm 12 2).toNat + 1) (by omega) (by omega), zw_id (x := 16 * (zcnt (zhab (mm 13) (mm 14) i (mm 13 p)) (mm 12 2).toNat + 1)) (by omega) (by omega), zw_id (x := zcnt (fun q => decide (mm 14 q = (i : Int))) (mm 12 2).toNat + 8) (by omega) (by omega), if_neg (by omega), if_pos (by omega), zdiv_n (by omega) (by omega) (by omega) (by omega), zw_inc i (by omega)]
    by_cases h3 : mm 7 i = 3
    · rw [if_pos h3]
      rw [if_neg (fun q => q.1 h3)] at ih
      exact zR_weak (by repeat first | exact zle_nil | apply zle_c | apply zle_n) ih
    · rw [if_neg h3]
      by_cases hl : (zbst (mm 7) (zlik (mm 13) (mm 14) (mm 12 2).toNat (mm 13 p)) i).2 < 16 * (zcnt (zhab (mm 13) (mm 14) i (mm 13 p)) (mm 12 2).toNat + 1) / (zcnt (fun q => decide (mm 14 q = (i : Int))) (mm 12 2).toNat + 8)
      · rw [if_pos hl]
        rw [if_pos ⟨h3, hl⟩] at ih
        exact zR_weak (by repeat first | exact zle_nil | apply zle_c | apply zle_n) ih
      · rw [if_neg hl]
        rw [if_neg (fun q => hl q.2)] at ih
        exact zR_weak (by repeat first | exact zle_nil | apply zle_c | apply zle_n) ih
end
